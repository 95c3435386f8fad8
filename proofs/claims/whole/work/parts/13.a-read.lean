/-! the class's reading, whole -/
def RdF (t X Y fed : Nat) (I s : Nat → Nat → Int32) : Prop := (∀ a, a ≠ t → a ≠ X → a ≠ Y → s a = I a) ∧ s t 1 = nI fed
theorem e_read0 {K N : Nat → Nat} {I : Nat → Nat → Int32} {P : Nat → Nat → Option Nat} {t r X Y fed : Nat} (hT : TapS2 K N P t r X Y) (hfed : fed ≤ 60) (h1 : I t 1 = nI fed) : ∃ J, RdF t X Y fed I J ∧ ((fsP (I r) fed).1 = 1 → J t 4 = nI 1 ∧ J t 5 = -1 ∧ J t 7 = nI (fsP (I r) fed).2.1 ∧ J X 0 = nI (fsP (I r) fed).2.2.1 ∧ J Y 0 = nI (fsP (I r) fed).2.2.2) ∧ ((fsP (I r) fed).1 = 2 → J t 5 = nI (fsP (I r) fed).2.1) ∧ fn_X8_read K N I P t = Option.bind (fn_X8_read_L45 K N t P FU 0 J) (fun r11 => Sum.elim (fun t => some t) (fun xx12 => some xx12) r11) := by
  obtain ⟨hT1, ⟨p2, p3⟩, ⟨kX, nX, kY, nY⟩, n1, n2, n3, n4, n5⟩ := id hT
  have hr := hT1.2.2.2.2
  obtain ⟨B, hB⟩ : ∃ B, B = up2 (up2 (up2 I t 4 0) t 5 (-1)) t 7 0 := ⟨_, rfl⟩
  have Ba : ∀ a, a ≠ t → B a = I a := fun a ha => by rw [hB, up2_o ha, up2_o ha, up2_o ha]
  have B1 : B t 1 = nI fed := by rw [hB, up2_k (by decide), up2_k (by decide), up2_k (by decide)]; exact h1
  have B4 : B t 4 = nI 0 := by rw [hB, up2_k (by decide), up2_k (by decide), up2_s]; rfl
  have B5 : B t 5 = -1 := by rw [hB, up2_k (by decide), up2_s]
  have B7 : B t 7 = nI 0 := by rw [hB, up2_s]; rfl
  obtain ⟨C, c1, c2, c3, c6, c7⟩ := e_nextC (A := B) (P := P) hT1 hfed (Nat.zero_le fed) B1 B7
  have Br : B r = I r := Ba r hr
  have Cr : C r = I r := by rw [c2 r hr, Br]
  rw [Br] at c6 c7
  have C1 : C t 1 = nI fed := by rw [c3 1 (by decide) (by decide)]; exact B1
  have W : fn_X8_isWord K N C P t 0 = some (bI (kdP (C r) fed 0 = 3)) := e_isWordK (P := P) (w := 0) hT1 (by decide) hfed (Nat.zero_le fed) C1 (by rw [Cr]; exact c6) (by rw [Cr]; exact c7)
  rw [Cr] at W
  obtain ⟨a1, a2⟩ := eP_ok (f := I r) (Nat.zero_le fed)
  have front : ∀ J, (if bI (kdP (I r) fed 0 = 3) = 0 then (Option.bind (some (up2 C t 5 (C t 6))) (fun I18 => some I18)) else (Option.bind (fn_X8_readPlace K N C P t) (fun r19 => some r19))) = some J → fn_X8_read K N I P t = Option.bind (fn_X8_read_L45 K N t P FU 0 J) (fun r11 => Sum.elim (fun t => some t) (fun xx12 => some xx12) r11) := by
    intro J hJ
    unfold fn_X8_read
    rw [gd_pos hT1.1, Option.bind_some, Option.bind_some, Option.bind_some, ← hB, c1, Option.bind_some, W, Option.bind_some, hJ, Option.bind_some]
  by_cases k : kdP (I r) fed 0 = 3
  · have e : fsP (I r) fed = plP (I r) fed (eP (I r) fed 0) := by unfold fsP; rw [if_pos k]
    obtain ⟨J, j1, j2, j3, j4, j5⟩ := e_placeC (A := C) (P := P) (k := 0) hT hfed a2 (by decide) C1 (by rw [c3 4 (by decide) (by decide)]; exact B4) (by rw [c3 5 (by decide) (by decide)]; exact B5) c7
    rw [Cr] at j4 j5
    refine ⟨J, ⟨fun a h1 h2 h3 => by rw [j2 a h1 h2 h3, c2 a h1, Ba a h1], by rw [j3]; exact C1⟩, fun h => ?_, fun h => ?_, front J ?_⟩
    · rw [e] at h ⊢
      obtain ⟨g1, g2, g3, g4, g5⟩ := j4 h
      exact ⟨g1, g2, g3, by rw [g4, if_pos rfl], by rw [g5, if_pos rfl]⟩
    · rw [e] at h ⊢
      exact j5 h
    · rw [bI_t k, if_neg i10, j1, Option.bind_some]
  · have e : fsP (I r) fed = (2, sP (I r) fed 0, 0, 0) := by unfold fsP; rw [if_neg k]
    refine ⟨up2 C t 5 (C t 6), ⟨fun a h1 h2 h3 => by rw [up2_o h1, c2 a h1, Ba a h1], by rw [up2_k (by decide)]; exact C1⟩, fun h => ?_, fun h => ?_, front _ ?_⟩
    · rw [e] at h; exact absurd h n21
    · rw [e, up2_s]; exact c6
    · rw [bI_f k, if_pos rfl, Option.bind_some]
theorem e_readF {K N : Nat → Nat} {I : Nat → Nat → Int32} {P : Nat → Nat → Option Nat} {t r X Y fed : Nat} (hT : TapS2 K N P t r X Y) (hfed : fed ≤ 60) (h1 : I t 1 = nI fed) (hf : (fsP (I r) fed).1 = 2) : ∃ s, fn_X8_read K N I P t = some s ∧ RdF t X Y fed I s ∧ s t 5 = nI (fsP (I r) fed).2.1 := by
  obtain ⟨J, j1, -, j3, j4⟩ := e_read0 (P := P) hT hfed h1
  have h5 := j3 hf
  have hb := (fsP_ok (I r) fed).2.2
  obtain ⟨g, hg⟩ : ∃ g, FU = g + 1 := ⟨5999, rfl⟩
  have key : ok (fn_X8_read_L45 K N t P FU 0 J) (fun u => u = Sum.inr J) := by
    rw [hg]
    simp only [fn_X8_read_L45]
    rw [if_neg (show ¬ (60 : Int32) ≤ 0 by decide), if_neg (by rw [h5]; exact nI_m1 (by omega))]
    exact ok_some.mpr rfl
  obtain ⟨u, u1, u2⟩ := key
  refine ⟨J, ?_, j1, h5⟩
  rw [j4, u1, Option.bind_some, u2]; rfl
def RdI (t X Y : Nat) (f : Nat → Int32) (fed v : Nat) (s : Nat → Nat → Int32) : Prop := s t 5 = -1 ∧ s t 4 = nI (v + 1) ∧ ∀ j, j ≤ v → s X j = nI (stN f fed j).2.1 ∧ s Y j = nI (stN f fed j).2.2
theorem e_readT {K N : Nat → Nat} {I : Nat → Nat → Int32} {P : Nat → Nat → Option Nat} {t r X Y fed n : Nat} (hT : TapS2 K N P t r X Y) (hfed : fed ≤ 60) (h1 : I t 1 = nI fed) (hf : (fsP (I r) fed).1 = 1) (hn : n ≤ 56) (hc : ∀ i, i < n → cdN (I r) fed i = 1) (he : cdN (I r) fed n = 0 ∨ cdN (I r) fed n = 2) : ∃ s, fn_X8_read K N I P t = some s ∧ RdF t X Y fed I s ∧ (cdN (I r) fed n = 0 → RdI t X Y (I r) fed n s) ∧ (cdN (I r) fed n = 2 → s t 5 = nI (stN (I r) fed (n + 1)).1) := by
  obtain ⟨J, j1, j2, -, j4⟩ := e_read0 (P := P) hT hfed h1
  obtain ⟨hT1, ⟨p2, p3⟩, ⟨kX, nX, kY, nY⟩, n1, n2, n3, n4, n5⟩ := id hT
  have hr := hT1.2.2.2.2
  obtain ⟨f, hff⟩ : ∃ f, f = I r := ⟨_, rfl⟩
  rw [← hff] at hf hc he j2 ⊢
  obtain ⟨g4, g5, g7, gx, gy⟩ := j2 hf
  obtain ⟨q1, q2, q3, q4⟩ := (fsP_ok f fed).2.1 hf
  have S := fun v (hv : v ≤ n) => stN_ok (f := f) (fed := fed) hf v (fun i hi => hc i (by omega))
  have key := while_ok (F := fun g v s => fn_X8_read_L45 K N t P g (nI v) s) 60 (fun v s => RdF t X Y fed I s ∧ ((v ≤ n ∧ RdI t X Y f fed v s ∧ s t 7 = nI (stN f fed v).1) ∨ (v = n + 1 ∧ cdN f fed n = 2 ∧ s t 5 = nI (stN f fed (n + 1)).1 ∧ (stN f fed (n + 1)).1 ≤ 2 * fed))) (fun u => ∃ s, Sum.elim (fun t => some t) (fun xx12 => some xx12) u = some s ∧ RdF t X Y fed I s ∧ (cdN f fed n = 0 → RdI t X Y f fed n s) ∧ (cdN f fed n = 2 → s t 5 = nI (stN f fed (n + 1)).1))
    (fun g v s hs kk => by
      simp only [fn_X8_read_L45]
      obtain ⟨s1, s2⟩ := hs
      rw [if_neg (show ¬ (60 : Int32) ≤ nI v from nI_ge (b := 60) (by omega) (by omega))]
      rcases s2 with ⟨hv, ⟨i5, i4, ix⟩, i7⟩ | ⟨hv, hcd, i5, ib⟩
      · obtain ⟨z1, z2, z3, z4⟩ := S v hv
        obtain ⟨x, y, hx, hy⟩ : ∃ x y, x = (stN f fed v).2.1 ∧ y = (stN f fed v).2.2 := ⟨_, _, rfl, rfl⟩
        obtain ⟨p, hp⟩ : ∃ p, p = (stN f fed v).1 := ⟨_, rfl⟩
        rw [← hp] at z1 z2 i7
        rw [← hx] at z3
        rw [← hy] at z4
        have sr : s r = f := by rw [hff]; exact s1.1 r hr (Ne.symm n3) (Ne.symm n4)
        obtain ⟨C, c1, c2, c3, c6, c7⟩ := e_nextC (A := s) (P := P) hT1 hfed z2 s1.2 i7
        rw [sr] at c6 c7
        have C1 : C t 1 = nI fed := by rw [c3 1 (by decide) (by decide)]; exact s1.2
        have CF : RdF t X Y fed I C := ⟨fun a h1 h2 h3 => by rw [c2 a h1]; exact s1.1 a h1 h2 h3, C1⟩
        have CI : RdI t X Y f fed v C := ⟨by rw [c3 5 (by decide) (by decide)]; exact i5, by rw [c3 4 (by decide) (by decide)]; exact i4, fun j hj => by rw [c2 X n1, c2 Y n2]; exact ix j hj⟩
        obtain ⟨a1, a2⟩ := sP_ok (f := f) z2
        have hcv : cdN f fed v = (nxP f fed (fsP f fed).2.2.1 (fsP f fed).2.2.2 p x y).1 := by rw [hp, hx, hy]; rfl
        have hst : (stN f fed (v + 1)) = (nxP f fed (fsP f fed).2.2.1 (fsP f fed).2.2.2 p x y).2 := by rw [hp, hx, hy]; rfl
        rw [if_pos i5, c1, Option.bind_some, c6, C1]
        by_cases k : sP f fed p = fed
        · rw [if_neg (nI_nlt (by omega) (by omega))]
          have hz : cdN f fed v = 0 := by rw [hcv]; exact nxP_y0 k
          have hvn : v = n := by
            by_cases c : v < n
            · have := hc v c; omega
            · omega
          subst hvn
          exact ok_some.mpr ⟨C, rfl, CF, fun _ => CI, fun h => by omega⟩
        · have hnz : ¬ cdN f fed v = 0 := by rw [hcv]; exact nxP_n0 z2 k
          rw [if_pos (nI_lt (by omega) (by omega))]
          have Cr : C r = f := by rw [c2 r hr, sr]
          obtain ⟨D, d1, d2, d3, d4, d5⟩ := e_stepC (A := C) (P := P) (k := v) (p := p) (x := x) (y := y) (x0 := (fsP f fed).2.2.1) (y0 := (fsP f fed).2.2.2) hT hfed z2 (by omega) C1 CI.2.1 CI.1 (by rw [Cr]; exact c6) (by rw [Cr]; exact c7) (by rw [Cr]; exact k) (by rw [hx]; exact (CI.2.2 v (Nat.le_refl _)).1) (by rw [hy]; exact (CI.2.2 v (Nat.le_refl _)).2) (CI.2.2 0 (Nat.zero_le _)).1 (CI.2.2 0 (Nat.zero_le _)).2
          rw [Cr, ← hcv] at d4 d5
          rw [← hst] at d4 d5
          rw [d1, Option.bind_some, nI_1]
          have DF : RdF t X Y fed I D := ⟨fun a h1 h2 h3 => by rw [d2 a h1 h2 h3]; exact CF.1 a h1 h2 h3, by rw [d3]; exact C1⟩
          refine kk D (by omega) ⟨DF, ?_⟩
          by_cases c : cdN f fed v = 1
          · obtain ⟨e1, e2, e3, e4, e5⟩ := d4 c
            refine Or.inl ⟨?_, ⟨e2, e1, fun j hj => ?_⟩, e3⟩
            · by_cases cv : v < n
              · omega
              · have hvn : v = n := by omega
                rw [hvn] at c; omega
            · rw [e4, e5]
              by_cases cj : j = v + 1
              · rw [if_pos cj, if_pos cj, cj]; exact ⟨rfl, rfl⟩
              · rw [if_neg cj, if_neg cj]; exact CI.2.2 j (by omega)
          · have hvn : v = n := by
              by_cases cv : v < n
              · have := hc v cv; omega
              · omega
            subst hvn
            have c2 : cdN f fed v = 2 := by omega
            refine Or.inr ⟨rfl, c2, d5 c2, ?_⟩
            rw [hst]
            exact (nxP_ok (f := f) z2 z3 z4 q3 q4).2.2
      · rw [if_neg (by rw [i5]; exact nI_m1 (by omega))]
        exact ok_some.mpr ⟨s, rfl, s1, fun h => by omega, fun _ => i5⟩)
    FU 0 J (by omega) (FU_lt (by omega)) ⟨j1, Or.inl ⟨Nat.zero_le _, ⟨g5, g4, fun j hj => by rw [show j = 0 by omega]; exact ⟨gx, gy⟩⟩, g7⟩⟩
  obtain ⟨u, u1, s, u2, u3⟩ := key
  have u1 : fn_X8_read_L45 K N t P FU 0 J = some u := u1
  exact ⟨s, by rw [j4, u1, Option.bind_some]; exact u2, u3⟩
