/-! the model goes over its tape -/
noncomputable def xsN (f : Nat → Int32) (fed j : Nat) : Nat := (stN f fed j).2.1
noncomputable def ysN (f : Nat → Int32) (fed j : Nat) : Nat := (stN f fed j).2.2
theorem xy_ok {f : Nat → Int32} {fed n : Nat} (hf : (fsP f fed).1 = 1) (hc : ∀ i, i < n → cdN f fed i = 1) : ∀ j, j ≤ n → xsN f fed j < 16 ∧ ysN f fed j < 12 := fun j hj => (stN_ok hf j (fun i hi => hc i (by omega))).2.2
theorem e_over0 {K N : Nat → Nat} {P : Nat → Nat → Option Nat} {I : Nat → Nat → Int32} {m fed : Nat} (hM : ModSh K N P m) (hfed : fed ≤ 60) (h5 : I m 5 = nI fed) : ∃ A, fn_X10_next K N (up2 I m 6 0) P m = some A ∧ (∀ a, a ≠ m → A a = I a) ∧ (∀ j, j < 6 → A m j = I m j) ∧ TkM m fed 0 A (I (m + 3)) := by
  obtain ⟨A, a1, a2, a3, a4, a5, a6, -⟩ := e_mnext (A := up2 I m 6 0) (P := P) (p := 0) hM hfed (Nat.zero_le _) (by rw [up2_k (by decide)]; exact h5) (by rw [up2_s]; rfl)
  rw [up2_o (show m + 3 ≠ m by omega)] at a4 a5 a6
  exact ⟨A, a1, fun a ha => by rw [a2 a ha, up2_o ha], fun j hj => by rw [a3 j (by omega) (by omega) (by omega) (by omega), up2_k (by omega)], by rw [a3 5 (by decide) (by decide) (by decide) (by decide), up2_k (by decide)]; exact h5, a4, a5, a6⟩
theorem L3k {k : Nat} (hk : k < 8) : (nI k = (3 : Int32)) ↔ k = 3 := nI_eq (b := 3) (by omega) (by decide)
theorem e_overF {K N : Nat → Nat} {P : Nat → Nat → Option Nat} {I : Nat → Nat → Int32} {m fed : Nat} {L : Int32} {mk : Nat → Int32} {cv : Nat → Nat → Nat → Int32} {S : DT} (h : StM K N P I m mk cv) (h3 : Fr3 L mk m I) (hfed : fed ≤ 60) (h5 : I m 5 = nI fed) (hG : GrX L I I m S) (hf : (fsP (I (m + 3)) fed).1 = 2) : ∃ s, fn_X10_goesOver K N I P m L = some (nI (fsP (I (m + 3)) fed).2.1, s) ∧ GrX L I s m S ∧ ∀ j, j < 6 → s m j = I m j := by
  have hM := h.1
  have km : K m = 11 := h.1.1.1
  obtain ⟨A, a1, a2, a3, aT⟩ := e_over0 (P := P) hM hfed h5
  obtain ⟨t5, t6, t7, t8⟩ := id aT
  have hk : kdP (I (m + 3)) fed 0 < 8 := kdP_lt
  unfold fn_X10_goesOver
  rw [gd_pos km, Option.bind_some, a1, Option.bind_some, t8]
  by_cases k : kdP (I (m + 3)) fed 0 = 3
  · have e : fsP (I (m + 3)) fed = plP (I (m + 3)) fed (eP (I (m + 3)) fed 0) := by unfold fsP; rw [if_pos k]
    rw [e] at hf ⊢
    obtain ⟨R, s, r1, r2, -, r4⟩ := e_go1 (s := A) (L := L) (S := S) h (fun q => by rw [a3 3 (by decide)]; exact h3 q) hfed (Nat.zero_le _) aT (hG.put a2) k
    obtain ⟨r5, r6, r7⟩ := r4 hf
    rw [if_pos ((L3k hk).mpr k), r1, Option.bind_some]
    dsimp only
    rw [if_pos r5, r7]
    exact ⟨s, rfl, r6, fun j hj => by rw [r2 j hj, a3 j hj]⟩
  · have e : fsP (I (m + 3)) fed = (2, sP (I (m + 3)) fed 0, 0, 0) := by unfold fsP; rw [if_neg k]
    rw [if_neg (fun q => k ((L3k hk).mp q)), t7, e]
    exact ⟨A, rfl, hG.put a2, a3⟩
def OvI (L : Int32) (I : Nat → Nat → Int32) (m fed : Nat) (mk : Nat → Int32) (cv : Nat → Nat → Nat → Int32) (S : DT) (n : Nat) (s : Nat → Nat → Int32) : Prop := GrX L I s m (pol mk (I (m + 1) 4) cv (xsN (I (m + 3)) fed) (ysN (I (m + 3)) fed) S n) ∧ (∀ j, j < 6 → s m j = I m j) ∧ NwM m (xsN (I (m + 3)) fed n) (ysN (I (m + 3)) fed n) (xsN (I (m + 3)) fed 0) (ysN (I (m + 3)) fed 0) (stm (xsN (I (m + 3)) fed) (ysN (I (m + 3)) fed) n) s
theorem e_overN {K N : Nat → Nat} {P : Nat → Nat → Option Nat} {I s : Nat → Nat → Int32} {m fed n : Nat} {L : Int32} {mk : Nat → Int32} {cv : Nat → Nat → Nat → Int32} {S : DT} (hM : ModSh K N P m) (hfed : fed ≤ 60) (h5 : I m 5 = nI fed) (hs : OvI L I m fed mk cv S n s) (hp : (stN (I (m + 3)) fed n).1 ≤ fed) (h6 : s m 6 = nI (stN (I (m + 3)) fed n).1) : ∃ z, fn_X10_next K N s P m = some z ∧ OvI L I m fed mk cv S n z ∧ TkM m fed (stN (I (m + 3)) fed n).1 z (I (m + 3)) := by
  obtain ⟨g, g2, g10, g11, g12, g13, g14⟩ := hs
  obtain ⟨z, a1, a2, a3, a4, a5, a6, -⟩ := e_mnext (A := s) (P := P) hM hfed hp (by rw [g2 5 (by decide)]; exact h5) h6
  rw [g.tape] at a4 a5 a6
  have kp : ∀ j, j < 6 ∨ 9 < j → z m j = s m j := fun j hj => a3 j (by omega) (by omega) (by omega) (by omega)
  exact ⟨z, a1, ⟨g.put a2, fun j hj => by rw [kp j (by omega)]; exact g2 j hj, by rw [kp 10 (by decide)]; exact g10, by rw [kp 11 (by decide)]; exact g11, by rw [kp 12 (by decide)]; exact g12, by rw [kp 13 (by decide)]; exact g13, by rw [kp 14 (by decide)]; exact g14⟩, by rw [kp 5 (by decide), g2 5 (by decide)]; exact h5, a4, a5, a6⟩
theorem e_overT {K N : Nat → Nat} {P : Nat → Nat → Option Nat} {I : Nat → Nat → Int32} {m fed n : Nat} {L : Int32} {mk : Nat → Int32} {cv : Nat → Nat → Nat → Int32} {S : DT} (h : StM K N P I m mk cv) (h3 : Fr3 L mk m I) (hfed : fed ≤ 60) (h5 : I m 5 = nI fed) (hG : GrX L I I m S) (hf : (fsP (I (m + 3)) fed).1 = 1) (hn : n ≤ 56) (hc : ∀ i, i < n → cdN (I (m + 3)) fed i = 1) (he : cdN (I (m + 3)) fed n = 0 ∨ cdN (I (m + 3)) fed n = 2) : ∃ v s, fn_X10_goesOver K N I P m L = some (v, s) ∧ (cdN (I (m + 3)) fed n = 0 → v = -1 ∧ OvI L I m fed mk cv S n s) ∧ (cdN (I (m + 3)) fed n = 2 → v = nI (stN (I (m + 3)) fed (n + 1)).1 ∧ (∃ S', GrX L I s m S') ∧ ∀ j, j < 6 → s m j = I m j) := by
  have hM := h.1
  have km : K m = 11 := h.1.1.1
  obtain ⟨A, a1, a2, a3, aT⟩ := e_over0 (P := P) hM hfed h5
  obtain ⟨f, hff⟩ : ∃ f, f = I (m + 3) := ⟨_, rfl⟩
  have hk : kdP f fed 0 < 8 := kdP_lt
  have k : kdP f fed 0 = 3 := by
    by_cases k : kdP f fed 0 = 3
    · exact k
    · rw [← hff] at hf; unfold fsP at hf; rw [if_neg k] at hf; exact absurd hf n21
  have e : fsP f fed = plP f fed (eP f fed 0) := by unfold fsP; rw [if_pos k]
  obtain ⟨R, s, r1, r2, r3, -⟩ := e_go1 (s := A) (L := L) (S := S) h (fun q => by rw [a3 3 (by decide)]; exact h3 q) hfed (Nat.zero_le _) aT (hG.put a2) (by rw [← hff]; exact k)
  rw [← hff, ← e] at r3
  have hf' := hf
  rw [← hff] at hf'
  obtain ⟨r4, r5, r6, r7⟩ := r3 hf'
  obtain ⟨q1, q2, q3, q4⟩ := (fsP_ok f fed).2.1 hf'
  have OV0 : OvI L I m fed mk cv S 0 s := by
    refine ⟨?_, fun j hj => by rw [r2 j hj, a3 j hj], ?_⟩
    · rw [← hff]; exact r5
    · rw [← hff]; exact r7
  have S' := fun v (hv : v ≤ n) => stN_ok (f := f) (fed := fed) hf' v (fun i hi => by rw [hff]; exact hc i (by omega))
  have XY := xy_ok (n := n) hf' (fun i hi => by rw [hff]; exact hc i hi)
  obtain ⟨z, z1, z2, z3⟩ := e_overN (P := P) hM hfed h5 OV0 (by rw [← hff]; exact q2) (by rw [← hff]; exact r6)
  have key := while_ok (F := fun g v s => fn_X10_goesOver_L34 K N m L P g s) 57 (fun v s => v ≤ n ∧ OvI L I m fed mk cv S v s ∧ TkM m fed (stN f fed v).1 s f) (fun u => ∃ v s, Sum.elim (fun t => some t) (fun xx10 => some ((-1 : Int32), xx10)) u = some (v, s) ∧ (cdN f fed n = 0 → v = -1 ∧ OvI L I m fed mk cv S n s) ∧ (cdN f fed n = 2 → v = nI (stN f fed (n + 1)).1 ∧ (∃ S', GrX L I s m S') ∧ ∀ j, j < 6 → s m j = I m j))
    (fun g v s hs kk => by
      simp only [fn_X10_goesOver_L34]
      obtain ⟨hv, ov, tk⟩ := hs
      obtain ⟨t5, t6, t7, t8⟩ := id tk
      obtain ⟨i1, i2, i3, i4⟩ := S' v hv
      obtain ⟨p, hp⟩ : ∃ p, p = (stN f fed v).1 := ⟨_, rfl⟩
      rw [← hp] at tk t6 t7 t8 i1 i2
      have hkl : kdP f fed p < 8 := kdP_lt
      have hcv : cdN f fed v = (nxP f fed (xsN f fed 0) (ysN f fed 0) p (xsN f fed v) (ysN f fed v)).1 := by rw [hp]; rfl
      have hst : (stN f fed (v + 1)) = (nxP f fed (xsN f fed 0) (ysN f fed 0) p (xsN f fed v) (ysN f fed v)).2 := by rw [hp]; rfl
      have hcc : v < n → cdN f fed v = 1 := fun q => by rw [hff]; exact hc v q
      have hee : cdN f fed n = 0 ∨ cdN f fed n = 2 := by rw [hff]; exact he
      rw [t8]
      by_cases k0 : kdP f fed p = 0
      · rw [k0, if_pos (show nI 0 = (0 : Int32) from rfl)]
        have hz : cdN f fed v = 0 := by rw [hcv]; unfold nxP; rw [if_pos k0]
        have hvn : v = n := by
          by_cases q : v < n
          · have := hcc q; omega
          · omega
        subst hvn
        exact ok_some.mpr ⟨-1, s, rfl, fun _ => ⟨rfl, ov⟩, fun q => by omega⟩
      rw [if_neg (show ¬ nI (kdP f fed p) = (0 : Int32) from fun q => k0 ((nI_eq (b := 0) (by omega) (by decide)).mp q))]
      have ox := XY v hv
      have o0 := XY 0 (Nat.zero_le _)
      by_cases k3 : kdP f fed p = 3
      · rw [if_pos ((L3k hkl).mpr k3), t7]
        have e2 : nxP f fed (xsN f fed 0) (ysN f fed 0) p (xsN f fed v) (ysN f fed v) = (2, sP f fed p, 0, 0) := by unfold nxP; rw [if_neg k0, if_neg (by omega), if_neg (by omega), if_neg (by omega), if_neg (by omega)]
        rw [e2] at hcv hst
        have hz : cdN f fed v = 2 := hcv
        have hvn : v = n := by
          by_cases q : v < n
          · have := hcc q; omega
          · omega
        subst hvn
        refine ok_some.mpr ⟨_, s, rfl, fun q => by omega, fun _ => ⟨by rw [hst], ⟨_, ov.1⟩, ov.2.1⟩⟩
      rw [if_neg (fun q => k3 ((L3k hkl).mp q))]
      have nw := ov.2.2
      rw [← hff] at nw
      obtain ⟨R, w, w1, w2, w3, w4⟩ := e_goN (s := s) (L := L) (p := p) h (fun q => by rw [ov.2.1 3 (by decide)]; exact h3 q) hfed i2 ox.1 ox.2 o0.1 o0.2 (by rw [← hff]; exact tk) nw ov.1 (by rw [← hff]; exact k0) (by rw [← hff]; exact k3)
      rw [← hff, ← hcv, ← hst] at w3 w4
      rw [w1, Option.bind_some]
      dsimp only
      by_cases c1 : cdN f fed v = 1
      · obtain ⟨w5, w6, w7, w8⟩ := w3 c1
        have hvn : v < n := by
          by_cases q : v < n
          · exact q
          · have : v = n := by omega
            rw [this] at c1; omega
        obtain ⟨j1, j2, j3, j4⟩ := S' (v + 1) (by omega)
        have ov' : OvI L I m fed mk cv S (v + 1) w := by
          refine ⟨?_, fun j hj => by rw [w2 j hj]; exact ov.2.1 j hj, ?_⟩
          · rw [← hff]; exact w6
          · rw [← hff]; exact w8
        obtain ⟨y, y1, y2, y3⟩ := e_overN (P := P) hM hfed h5 ov' (by rw [← hff]; exact j2) (by rw [← hff]; exact w7)
        rw [← hff] at y3
        rw [if_neg (by rw [w5]; decide), y1, Option.bind_some]
        exact kk y (by omega) ⟨by omega, y2, y3⟩
      · have hvn : v = n := by
          by_cases q : v < n
          · exact absurd (hcc q) c1
          · omega
        subst hvn
        have c2 : cdN f fed v = 2 := by
          rcases hee with q | q
          · exfalso
            rw [hcv] at q
            have ns : ¬ sP f fed p = fed := fun q2 => k0 (kdP_0 q2)
            exact nxP_n0 i2 ns q
          · exact q
        obtain ⟨w5, w6, w7⟩ := w4 c2
        rw [if_pos w5, w7]
        exact ok_some.mpr ⟨_, w, rfl, fun q => by omega, fun _ => ⟨rfl, ⟨_, w6⟩, fun j hj => by rw [w2 j hj]; exact ov.2.1 j hj⟩⟩)
    FU 0 z (by omega) (FU_lt (by omega)) ⟨Nat.zero_le _, z2, by rw [hff]; exact z3⟩
  obtain ⟨u, u1, v, w, u2, u3⟩ := key
  have u1 : fn_X10_goesOver_L34 K N m L P FU z = some u := u1
  refine ⟨v, w, ?_, by rw [← hff]; exact u3⟩
  unfold fn_X10_goesOver
  rw [gd_pos km, Option.bind_some, a1, Option.bind_some, aT.2.2.2, ← hff, k, if_pos (show nI 3 = (3 : Int32) from rfl), r1, Option.bind_some]
  dsimp only
  rw [if_neg (by rw [r4]; decide), z1, Option.bind_some, u1, Option.bind_some]
  exact u2
