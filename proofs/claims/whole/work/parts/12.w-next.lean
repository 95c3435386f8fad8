/-! the next token, the next number, in the model -/
noncomputable def kdP (f : Nat → Int32) (fed p : Nat) : Nat := if sP f fed p = fed then 0 else @ite _ (dgt (f (sP f fed p))) (Classical.propDecidable _) (if eP f fed p - sP f fed p ≤ 2 then 2 else 1) (wk f (sP f fed p) (eP f fed p))
theorem wk_v (f : Nat → Int32) (s e : Nat) : wk f s e ≠ 0 ∧ wk f s e ≠ 2 ∧ wk f s e < 8 := by
  unfold wk
  by_cases d0 : Wd f s e 0
  · rw [if_pos d0]; decide
  rw [if_neg d0]
  by_cases d1 : Wd f s e 1
  · rw [if_pos d1]; decide
  rw [if_neg d1]
  by_cases d2 : Wd f s e 2
  · rw [if_pos d2]; decide
  rw [if_neg d2]
  by_cases d3 : Wd f s e 3
  · rw [if_pos d3]; decide
  rw [if_neg d3]
  by_cases d4 : Wd f s e 4
  · rw [if_pos d4]; decide
  rw [if_neg d4]; decide
theorem kdP_0 {f : Nat → Int32} {fed p : Nat} (h : sP f fed p = fed) : kdP f fed p = 0 := if_pos h
theorem kdP_d {f : Nat → Int32} {fed p : Nat} (h : ¬ sP f fed p = fed) (hd : dgt (f (sP f fed p))) : kdP f fed p = if eP f fed p - sP f fed p ≤ 2 then 2 else 1 := by
  unfold kdP; rw [if_neg h, if_pos hd]
theorem kdP_w {f : Nat → Int32} {fed p : Nat} (h : ¬ sP f fed p = fed) (hd : ¬ dgt (f (sP f fed p))) : kdP f fed p = wk f (sP f fed p) (eP f fed p) := by
  unfold kdP; rw [if_neg h, if_neg hd]
theorem wk_no {f : Nat → Int32} {s e : Nat} (h : e - s < 4) : wk f s e = 1 := by
  have no : ∀ w, w < 5 → ¬ Wd f s e w := fun w hw hh => by
    have h1 := hh.1
    have h2 := (sl_tab w (by omega)).2
    omega
  unfold wk
  rw [if_neg (no 0 (by decide)), if_neg (no 1 (by decide)), if_neg (no 2 (by decide)), if_neg (no 3 (by decide)), if_neg (no 4 (by decide))]
theorem eP_nd {f : Nat → Int32} {fed p : Nat} (hp : p ≤ fed) (h : ¬ (sP f fed p < fed ∧ dgt (f (sP f fed p)))) : eP f fed p = eL f fed (sP f fed p) := by
  obtain ⟨h1, h2⟩ := sP_ok (f := f) hp
  obtain ⟨g1, g2, -, -⟩ := skp_ok ltr f (fed - sP f fed p) (sP f fed p)
  unfold eP
  by_cases c : eL f fed (sP f fed p) ≤ sP f fed p
  · rw [if_pos c]
    have e1 : eL f fed (sP f fed p) = sP f fed p := by unfold eL at c ⊢; omega
    rw [e1]
    unfold eD
    by_cases k : sP f fed p < fed
    · rw [show fed - sP f fed p = (fed - sP f fed p - 1) + 1 by omega, skp_f (fun e => h ⟨k, e⟩)]
    · rw [show fed - sP f fed p = 0 by omega]; rfl
  · rw [if_neg c]
theorem e_mnext {K N : Nat → Nat} {A : Nat → Nat → Int32} {P : Nat → Nat → Option Nat} {m fed p : Nat} (hM : ModSh K N P m) (hfed : fed ≤ 60) (hp : p ≤ fed) (h5 : A m 5 = nI fed) (h6 : A m 6 = nI p) : ∃ s, fn_X10_next K N A P m = some s ∧ (∀ a, a ≠ m → s a = A a) ∧ (∀ j, j ≠ 6 → j ≠ 7 → j ≠ 8 → j ≠ 9 → s m j = A m j) ∧ s m 6 = nI (eP (A (m + 3)) fed p) ∧ s m 7 = nI (sP (A (m + 3)) fed p) ∧ s m 8 = nI (kdP (A (m + 3)) fed p) ∧ (kdP (A (m + 3)) fed p = 2 → s m 9 = nI (nv (A (m + 3)) (sP (A (m + 3)) fed p) (eP (A (m + 3)) fed p))) := by
  obtain ⟨hs1, hs2⟩ := sP_ok (f := A (m + 3)) hp
  obtain ⟨he1, he2⟩ := eP_ok (f := A (m + 3)) hp
  obtain ⟨B, b1, b2, b3, b4⟩ := e_mB hM hfed hp h5 h6
  obtain ⟨s, hs⟩ : ∃ s, s = sP (A (m + 3)) fed p := ⟨_, rfl⟩
  obtain ⟨f, hf⟩ : ∃ f, f = A (m + 3) := ⟨_, rfl⟩
  rw [← hf] at hs hs1 hs2 he1 he2 b4 ⊢
  rw [← hs] at hs1 hs2 he1 b4 ⊢
  obtain ⟨C, hC⟩ : ∃ C, C = up2 B m 7 (nI s) := ⟨_, rfl⟩
  obtain ⟨c0, hc0⟩ : ∃ c0 : Nat, c0 = if s = fed then 0 else 1 := ⟨_, rfl⟩
  obtain ⟨D, hD⟩ : ∃ D, D = up2 C m 8 (nI c0) := ⟨_, rfl⟩
  have C6 : C m 6 = nI s := by rw [hC, up2_k (by decide)]; exact b4
  have C5 : C m 5 = nI fed := by rw [hC, up2_k (by decide), b3 5 (by decide)]; exact h5
  have Da : ∀ a, a ≠ m → D a = A a := fun a ha => by rw [hD, up2_o ha, hC, up2_o ha, b2 a ha]
  have Dj : ∀ j, j ≠ 6 → j ≠ 7 → j ≠ 8 → D m j = A m j := fun j h6 h7 h8 => by rw [hD, up2_k h8, hC, up2_k h7, b3 j h6]
  have D6 : D m 6 = nI s := by rw [hD, up2_k (by decide)]; exact C6
  have D7 : D m 7 = nI s := by rw [hD, up2_k (by decide), hC, up2_s]
  have D5 : D m 5 = nI fed := by rw [hD, up2_k (by decide)]; exact C5
  have Df : D (m + 3) = f := by rw [Da _ (by omega), hf]
  have hj : (if C m 6 = C m 5 then (some (0 : Int32)) else some 1) = some (nI c0) := by
    rw [C6, C5, hc0]
    by_cases c : s = fed
    · rw [if_pos (by rw [c]), if_pos c]; rfl
    · rw [if_neg (fun e => c ((nI_eq (by omega) (by omega)).mp e)), if_neg c]; rfl
  have hh := e_here (s := D) (P := P) hM hfed D5 D6 hs2
  rw [Df] at hh
  by_cases q : s < fed ∧ dgt (f s)
  · obtain ⟨q1, q2⟩ := q
    have hrd : hrF f fed s = f s := by unfold hrF; rw [if_neg (by omega)]
    obtain ⟨E, hE⟩ : ∃ E, E = up2 D m 9 0 := ⟨_, rfl⟩
    obtain ⟨F, f1, f2, f3, f4, f5⟩ := e_mD (A := E) (p := s) hM hfed hs2 (by rw [hE, up2_k (by decide)]; exact D5) (by rw [hE, up2_k (by decide)]; exact D6) (by rw [hE, up2_s])
    have Ef : E (m + 3) = f := by rw [hE, up2_o (by omega)]; exact Df
    rw [Ef] at f4 f5
    have hne : ¬ sP f fed p = fed := by rw [← hs]; omega
    obtain ⟨k1, k2⟩ := eP_dgt (f := f) hp (by rw [← hs]; exact q1) (by rw [← hs]; exact q2)
    have heD : eP f fed p = eD f fed s := by
      have : eL f fed s ≤ s := by
        obtain ⟨a1, a2, a3, a4⟩ := skp_ok ltr f (fed - s) s
        by_cases c : skp ltr f (fed - s) s ≤ s
        · exact c
        · have hl := a3 s (Nat.le_refl _) (by omega)
          exfalso
          have u1 := q2.2
          have u2 := hl.1
          have p57 : (57 : Int32).toInt = 57 := rfl
          have p97 : (97 : Int32).toInt = 97 := rfl
          rw [Int32.lt_iff_toInt_lt, p57] at u1
          rw [Int32.lt_iff_toInt_lt, p97] at u2
          omega
      unfold eP; rw [← hs, if_pos this]
    rw [← heD] at f4 f5
    rw [← hs] at k1 k2
    have F7 : F m 7 = nI s := by rw [f3 7 (by decide) (by decide), hE, up2_k (by decide)]; exact D7
    have kd := kdP_d (f := f) (fed := fed) (p := p) hne (by rw [← hs]; exact q2)
    rw [← hs] at kd
    have front : ∀ X, (if F m 6 - F m 7 ≤ (2 : Int32) then Option.bind (some (up2 F m 8 2)) (fun I53 => some I53) else Option.bind (some (up2 F m 8 1)) (fun I54 => some I54)) = X → fn_X10_next K N A P m = X := by
      intro X hX
      unfold fn_X10_next
      rw [b1, Option.bind_some, gd_pos hM.1.1, b4, Option.bind_some, ← hC, hj, Option.bind_some, Option.bind_some, ← hD, hh, Option.bind_some, isIn_dgt, hrd, bI_t q2, Option.bind_some, if_neg (by decide), Option.bind_some, ← hE, f1, Option.bind_some]
      exact hX
    have fr : ∀ c, (∀ a, a ≠ m → up2 F m 8 c a = A a) ∧ (∀ j, j ≠ 6 → j ≠ 7 → j ≠ 8 → j ≠ 9 → up2 F m 8 c m j = A m j) := fun c => ⟨fun a ha => by rw [up2_o ha, f2 a ha, hE, up2_o ha]; exact Da a ha, fun j h6 h7 h8 h9 => by rw [up2_k h8, f3 j h6 h9, hE, up2_k h9]; exact Dj j h6 h7 h8⟩
    by_cases c : eP f fed p - s ≤ 2
    · refine ⟨up2 F m 8 2, front _ ?_, (fr 2).1, (fr 2).2, by rw [up2_k (by decide)]; exact f4, by rw [up2_k (by decide)]; exact F7, by rw [up2_s, kd, if_pos c]; rfl, fun _ => ?_⟩
      · rw [f4, F7, pk_sub (by omega), if_pos (show nI (eP f fed p - s) ≤ (2 : Int32) from nI_le (b := 2) c (by decide)), Option.bind_some]
      · rw [up2_k (by decide), f5, capN_lo q2 c]
        exact (nv_lt q2 (fun h2 => k2 (s + 1) (by omega) (by omega)) (by omega) c).2
    · refine ⟨up2 F m 8 1, front _ ?_, (fr 1).1, (fr 1).2, by rw [up2_k (by decide)]; exact f4, by rw [up2_k (by decide)]; exact F7, by rw [up2_s, kd, if_neg c]; rfl, fun h => by rw [kd, if_neg c] at h; exact absurd h (by decide)⟩
      rw [f4, F7, pk_sub (by omega), if_neg (show ¬ nI (eP f fed p - s) ≤ (2 : Int32) from nI_ge (a := 2) (by omega) (by omega)), Option.bind_some]
  · have hnd : ¬ dgt (hrF f fed s) := by
      unfold hrF
      by_cases c : fed ≤ s
      · rw [if_pos c]; exact m1_cls.2.2
      · rw [if_neg c]; exact fun e => q ⟨by omega, e⟩
    obtain ⟨E, e1, e2, e3, e4⟩ := e_mL (A := D) (p := s) hM hfed hs2 D5 D6
    rw [Df] at e4
    have hEq := eP_nd (f := f) hp (by rw [← hs]; exact q)
    rw [← hs] at hEq
    rw [← hEq] at e4
    have E7 : E m 7 = nI s := by rw [e3 7 (by decide)]; exact D7
    have E8 : E m 8 = nI c0 := by rw [e3 8 (by decide), hD, up2_s]
    obtain ⟨Y, y1, y2, y3, y4⟩ := e_words (X := E) (P := P) (fed := fed) hM he1 he2 hfed e4 E7 E8
    rw [e2 (m + 3) (by omega), Df] at y4
    refine ⟨Y, ?_, fun a ha => by rw [y2 a ha, e2 a ha]; exact Da a ha, fun j h6 h7 h8 h9 => by rw [y3 j h8, e3 j h6]; exact Dj j h6 h7 h8, by rw [y3 6 (by decide)]; exact e4, by rw [y3 7 (by decide)]; exact E7, ?_, ?_⟩
    · unfold fn_X10_next
      rw [b1, Option.bind_some, gd_pos hM.1.1, b4, Option.bind_some, ← hC, hj, Option.bind_some, Option.bind_some, ← hD, hh, Option.bind_some, isIn_dgt, bI_f hnd, Option.bind_some, if_pos rfl, e1, Option.bind_some]
      exact y1
    · rw [y4]
      by_cases c : s = fed
      · have k0 := kdP_0 (f := f) (fed := fed) (p := p) (by rw [← hs]; exact c)
        rw [k0, wk_no (by omega), if_pos rfl, hc0, if_pos c]
      · have kd := kdP_w (f := f) (fed := fed) (p := p) (by rw [← hs]; exact c) (by rw [← hs]; exact fun e => q ⟨by omega, e⟩)
        rw [← hs] at kd
        rw [kd, hc0, if_neg c]
        by_cases w1 : wk f s (eP f fed p) = 1
        · rw [if_pos w1, w1]
        · rw [if_neg w1]
    · intro h
      exfalso
      by_cases c : s = fed
      · rw [kdP_0 (by rw [← hs]; exact c)] at h; exact absurd h (by decide)
      · rw [kdP_w (by rw [← hs]; exact c) (by rw [← hs]; exact fun e => q ⟨by omega, e⟩)] at h
        exact (wk_v _ _ _).2.1 h
theorem kd2_iff {f : Nat → Int32} {fed p : Nat} (hp : p ≤ fed) : kdP f fed p = 2 ↔ (sP f fed p < fed ∧ dgt (f (sP f fed p)) ∧ eP f fed p - sP f fed p ≤ 2) := by
  obtain ⟨hs1, hs2⟩ := sP_ok (f := f) hp
  constructor
  · intro h
    by_cases c : sP f fed p = fed
    · rw [kdP_0 c] at h; exact absurd h (by decide)
    · by_cases d : dgt (f (sP f fed p))
      · rw [kdP_d c d] at h
        by_cases l : eP f fed p - sP f fed p ≤ 2
        · exact ⟨by omega, d, l⟩
        · rw [if_neg l] at h; exact absurd h (by decide)
      · rw [kdP_w c d] at h; exact absurd h (wk_v _ _ _).2.1
  · rintro ⟨h1, h2, h3⟩
    rw [kdP_d (by omega) h2, if_pos h3]
theorem nv_lt100 {f : Nat → Int32} {fed p : Nat} (hp : p ≤ fed) (h : kdP f fed p = 2) : nv f (sP f fed p) (eP f fed p) < 100 := by
  obtain ⟨h1, h2, h3⟩ := (kd2_iff hp).mp h
  obtain ⟨k1, k2⟩ := eP_dgt hp h1 h2
  exact (nv_lt h2 (fun h => k2 _ (by omega) (by omega)) (by omega) h3).1
theorem e_mnumber {K N : Nat → Nat} {A : Nat → Nat → Int32} {P : Nat → Nat → Option Nat} {m fed p lim : Nat} (hM : ModSh K N P m) (hfed : fed ≤ 60) (hp : p ≤ fed) (hl : lim < 100) (h5 : A m 5 = nI fed) (h6 : A m 6 = nI p) : ∃ s v, fn_X10_number K N A P m (nI lim) = some (v, s) ∧ (∀ a, a ≠ m → s a = A a) ∧ (∀ j, j ≠ 6 → j ≠ 7 → j ≠ 8 → j ≠ 9 → s m j = A m j) ∧ s m 6 = nI (eP (A (m + 3)) fed p) ∧ s m 7 = nI (sP (A (m + 3)) fed p) ∧ (isNum (A (m + 3)) fed p lim → v = nI (nv (A (m + 3)) (sP (A (m + 3)) fed p) (eP (A (m + 3)) fed p))) ∧ (¬ isNum (A (m + 3)) fed p lim → v = -1) := by
  obtain ⟨s, s1, s2, s3, s4, s5, s6, s7⟩ := e_mnext hM hfed hp h5 h6
  have hkd8 : kdP (A (m + 3)) fed p < 8 := by
    unfold kdP
    by_cases c : sP (A (m + 3)) fed p = fed
    · rw [if_pos c]; decide
    · rw [if_neg c]
      by_cases d : dgt (A (m + 3) (sP (A (m + 3)) fed p))
      · rw [if_pos d]; split <;> decide
      · rw [if_neg d]; exact (wk_v _ _ _).2.2
  have k2 := kd2_iff (f := A (m + 3)) hp
  have front : fn_X10_number K N A P m (nI lim) = if s m 8 = 2 then (if nI lim ≤ s m 9 then some (-1, s) else some (s m 9, s)) else some (-1, s) := by
    unfold fn_X10_number
    rw [s1, Option.bind_some, gd_pos hM.1.1]
  by_cases c : kdP (A (m + 3)) fed p = 2
  · have h100 := nv_lt100 hp c
    obtain ⟨u1, u2, u3⟩ := k2.mp c
    rw [s6, c, if_pos (show nI 2 = (2 : Int32) from rfl), s7 c] at front
    by_cases d : nv (A (m + 3)) (sP (A (m + 3)) fed p) (eP (A (m + 3)) fed p) < lim
    · rw [if_neg (nI_ge d (by omega))] at front
      exact ⟨s, _, front, s2, s3, s4, s5, fun _ => rfl, fun h => absurd ⟨u1, u2, u3, d⟩ h⟩
    · rw [if_pos (nI_le (by omega) (by omega))] at front
      exact ⟨s, _, front, s2, s3, s4, s5, fun h => absurd h.2.2.2 d, fun _ => rfl⟩
  · rw [s6, if_neg (show ¬ nI (kdP (A (m + 3)) fed p) = (2 : Int32) from fun e => c ((nI_eq (b := 2) (by omega) (by decide)).mp e))] at front
    exact ⟨s, _, front, s2, s3, s4, s5, fun h => absurd (k2.mpr ⟨h.1, h.2.1, h.2.2.1⟩) c, fun _ => rfl⟩
