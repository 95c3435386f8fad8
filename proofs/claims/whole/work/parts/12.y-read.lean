/-! the class reads its tape: one place, one step -/
def TapS2 (K N : Nat → Nat) (P : Nat → Nat → Option Nat) (t r X Y : Nat) : Prop := TapSh K N P t r ∧ (P t 2 = some X ∧ P t 3 = some Y) ∧ (K X = 12 ∧ N X = 60 ∧ K Y = 12 ∧ N Y = 60) ∧ (X ≠ t ∧ Y ≠ t ∧ X ≠ r ∧ Y ≠ r ∧ X ≠ Y)
def ResP (t X Y k : Nat) (s : Nat → Nat → Int32) (pr : PR) (s' : Nat → Nat → Int32) : Prop := (∀ a, a ≠ t → a ≠ X → a ≠ Y → s' a = s a) ∧ s' t 1 = s t 1 ∧ (pr.1 = 1 → s' t 4 = nI (k + 1) ∧ s' t 5 = -1 ∧ s' t 7 = nI pr.2.1 ∧ (∀ j, s' X j = if j = k then nI pr.2.2.1 else s X j) ∧ ∀ j, s' Y j = if j = k then nI pr.2.2.2 else s Y j) ∧ (pr.1 = 2 → s' t 5 = nI pr.2.1)
theorem e_goTo {K N : Nat → Nat} {A : Nat → Nat → Int32} {P : Nat → Nat → Option Nat} {t r X Y k : Nat} (hT : TapS2 K N P t r X Y) (hk : k < 60) (h4 : A t 4 = nI k) (h5 : A t 5 = -1) (x y : Int32) : ∃ s, fn_X8_goTo K N A P t x y = some s ∧ (∀ a, a ≠ t → a ≠ X → a ≠ Y → s a = A a) ∧ (∀ j, j ≠ 4 → s t j = A t j) ∧ s t 4 = nI (k + 1) ∧ (∀ j, s X j = if j = k then x else A X j) ∧ ∀ j, s Y j = if j = k then y else A Y j := by
  obtain ⟨⟨k9, p0, kr, nr, hrt⟩, ⟨p2, p3⟩, ⟨kX, nX, kY, nY⟩, n1, n2, n3, n4, n5⟩ := hT
  refine ⟨up2 (up2 (up2 A X k x) Y k y) t 4 (nI (k + 1)), ?_, fun a h1 h2 h3 => by rw [up2_o h1, up2_o h3, up2_o h2], fun j hj => by rw [up2_k hj, up2_o (Ne.symm n2), up2_o (Ne.symm n1)], up2_s, fun j => ?_, fun j => ?_⟩
  · unfold fn_X8_goTo
    rw [gd_pos k9, if_pos h5, h4, if_neg (show ¬ (60 : Int32) ≤ nI k from nI_ge (b := 60) hk (by omega)), p2, Option.bind_some, gd_pos ⟨kX, by rw [nX]; exact vp_in_nI hk (by omega)⟩, Option.bind_some, p3, Option.bind_some, up2_o (Ne.symm n1), h4, gd_pos ⟨kY, by rw [nY]; exact vp_in_nI hk (by omega)⟩, Option.bind_some, up2_o (Ne.symm n2), up2_o (Ne.symm n1), h4, nI_1, Option.bind_some, nI_clamp (by omega)]
  · rw [up2_o n1, up2_o n5]; simp [up2]
  · rw [up2_o n2, ← (up2_o (I := A) (a := X) (k := k) (v := x) (Ne.symm n5))]; simp [up2]
theorem e_goToF {K N : Nat → Nat} {A : Nat → Nat → Int32} {P : Nat → Nat → Option Nat} {t : Nat} (k9 : K t = 9) (h5 : ¬ A t 5 = -1) (x y : Int32) : fn_X8_goTo K N A P t x y = some A := by
  unfold fn_X8_goTo
  rw [gd_pos k9, if_neg h5]
theorem e_placeC {K N : Nat → Nat} {A : Nat → Nat → Int32} {P : Nat → Nat → Option Nat} {t r X Y k fed e : Nat} (hT : TapS2 K N P t r X Y) (hfed : fed ≤ 60) (he : e ≤ fed) (hk : k < 60) (h1 : A t 1 = nI fed) (h4 : A t 4 = nI k) (h5 : A t 5 = -1) (h7 : A t 7 = nI e) : ∃ s, fn_X8_readPlace K N A P t = some s ∧ ResP t X Y k A (plP (A r) fed e) s := by
  obtain ⟨hT1, ⟨p2, p3⟩, ⟨kX, nX, kY, nY⟩, n1, n2, n3, n4, n5⟩ := id hT
  have hrt := hT1.2.2.2.2
  obtain ⟨b1, b2⟩ := eP_ok (f := A r) he
  obtain ⟨q1, q2⟩ := e_readNum (A := A) (lim := 16) hT1 hfed he (by omega) (by omega) h1 h5 h7
  have l15 : (15 : Int32) = nI (16 - 1) := rfl
  have l11 : (11 : Int32) = nI (12 - 1) := rfl
  unfold fn_X8_readPlace plP
  by_cases c : isNum (A r) fed e 16
  · obtain ⟨s, s1, s2, s3, s4⟩ := q1 c
    have sr : s r = A r := s2 r hrt
    obtain ⟨u1, u2⟩ := e_readNum (A := s) (p := eP (A r) fed e) (lim := 12) hT1 hfed b2 (by omega) (by omega) (by rw [s3 1 (by decide) (by decide)]; exact h1) (by rw [s3 5 (by decide) (by decide)]; exact h5) s4
    rw [sr] at u1 u2
    rw [if_pos c, l15, s1, Option.bind_some, gd_pos hT1.1, l11]
    by_cases c2 : isNum (A r) fed (eP (A r) fed e) 12
    · obtain ⟨z, z1, z2, z3, z4⟩ := u1 c2
      obtain ⟨w, w1, w2, w3, w4, w5, w6⟩ := e_goTo (A := z) hT hk (by rw [z3 4 (by decide) (by decide), s3 4 (by decide) (by decide)]; exact h4) (by rw [z3 5 (by decide) (by decide), s3 5 (by decide) (by decide)]; exact h5) (nI (nv (A r) (sP (A r) fed e) (eP (A r) fed e))) (nI (nv (A r) (sP (A r) fed (eP (A r) fed e)) (eP (A r) fed (eP (A r) fed e))))
      rw [if_pos c2, z1, Option.bind_some]
      show ∃ s, (Option.bind (fn_X8_goTo K N z P t _ _) fun r4 => some r4) = some s ∧ _
      rw [w1, Option.bind_some]
      refine ⟨w, rfl, fun a h1 h2 h3 => by rw [w2 a h1 h2 h3, z2 a h1, s2 a h1], by rw [w3 1 (by decide), z3 1 (by decide) (by decide), s3 1 (by decide) (by decide)], fun _ => ⟨w4, by rw [w3 5 (by decide), z3 5 (by decide) (by decide), s3 5 (by decide) (by decide)]; exact h5, by rw [w3 7 (by decide)]; exact z4, fun j => by rw [w5, z2 X n1, s2 X n1]; rfl, fun j => by rw [w6, z2 Y n2, s2 Y n2]; rfl⟩, fun h => absurd h (show ¬ (1 : Nat) = 2 by decide)⟩
    · obtain ⟨z, z1, z2, z3, z4⟩ := u2 c2
      rw [if_neg c2, z1, Option.bind_some]
      show ∃ s, (Option.bind (fn_X8_goTo K N z P t _ _) fun r4 => some r4) = some s ∧ _
      rw [e_goToF hT1.1 (by rw [z4]; exact nI_m1 (by have := (sP_ok (f := A r) b2).2; omega)), Option.bind_some]
      exact ⟨z, rfl, fun a h1 h2 h3 => by rw [z2 a h1, s2 a h1], by rw [z3 1 (by decide) (by decide) (by decide), s3 1 (by decide) (by decide)], fun h => absurd h n21, fun _ => z4⟩
  · obtain ⟨s, s1, s2, s3, s4⟩ := q2 c
    have hne : ¬ s t 5 = -1 := by rw [s4]; exact nI_m1 (by have := (sP_ok (f := A r) he).2; omega)
    have second : fn_X8_readNumber K N s P t 11 = some (0, s) := by
      unfold fn_X8_readNumber
      rw [gd_pos hT1.1, if_neg hne]
    rw [if_neg c, l15, s1, Option.bind_some, gd_pos hT1.1]
    show ∃ w, (Option.bind (fn_X8_readNumber K N s P t 11) fun r3 => Option.bind (fn_X8_goTo K N r3.2 P t 0 r3.1) fun r4 => some r4) = some w ∧ _
    rw [second, Option.bind_some]
    show ∃ w, (Option.bind (fn_X8_goTo K N s P t 0 0) fun r4 => some r4) = some w ∧ _
    rw [e_goToF hT1.1 hne, Option.bind_some]
    exact ⟨s, rfl, fun a h1 h2 h3 => s2 a h1, s3 1 (by decide) (by decide) (by decide), fun h => absurd h n21, fun _ => s4⟩
theorem Wd_nd {f : Nat → Int32} {s e w : Nat} (hw : w < 5) (h : Wd f s e w) : ¬ dgt (f s) := by
  have t : ∀ w, w < 5 → (57 : Int32) < chW w 0 := by decide +kernel
  have h0 := h.2 0 (by have := (sl_tab w (by omega)).2; omega)
  have h0 : f s = chW w 0 := h0
  rw [h0]
  exact fun e => e.2 (t w hw)
theorem wk_iff {f : Nat → Int32} {s e w : Nat} (hw : w < 5) : wk f s e = w + 3 ↔ Wd f s e w := by
  have ne : ∀ a c, a < 5 → c < 5 → a ≠ c → Wd f s e a → ¬ Wd f s e c := fun a c ha hc h h1 h2 => h (Wd_one ha hc h1 h2)
  constructor
  · intro h
    unfold wk at h
    by_cases d0 : Wd f s e 0
    · rw [if_pos d0] at h; rw [show w = 0 by omega]; exact d0
    rw [if_neg d0] at h
    by_cases d1 : Wd f s e 1
    · rw [if_pos d1] at h; rw [show w = 1 by omega]; exact d1
    rw [if_neg d1] at h
    by_cases d2 : Wd f s e 2
    · rw [if_pos d2] at h; rw [show w = 2 by omega]; exact d2
    rw [if_neg d2] at h
    by_cases d3 : Wd f s e 3
    · rw [if_pos d3] at h; rw [show w = 3 by omega]; exact d3
    rw [if_neg d3] at h
    by_cases d4 : Wd f s e 4
    · rw [if_pos d4] at h; rw [show w = 4 by omega]; exact d4
    rw [if_neg d4] at h; omega
  · intro h
    have c : w = 0 ∨ w = 1 ∨ w = 2 ∨ w = 3 ∨ w = 4 := by omega
    unfold wk
    rcases c with rfl | rfl | rfl | rfl | rfl
    · rw [if_pos h]
    · rw [if_neg (ne 1 0 (by decide) (by decide) (by decide) h), if_pos h]
    · rw [if_neg (ne 2 0 (by decide) (by decide) (by decide) h), if_neg (ne 2 1 (by decide) (by decide) (by decide) h), if_pos h]
    · rw [if_neg (ne 3 0 (by decide) (by decide) (by decide) h), if_neg (ne 3 1 (by decide) (by decide) (by decide) h), if_neg (ne 3 2 (by decide) (by decide) (by decide) h), if_pos h]
    · rw [if_neg (ne 4 0 (by decide) (by decide) (by decide) h), if_neg (ne 4 1 (by decide) (by decide) (by decide) h), if_neg (ne 4 2 (by decide) (by decide) (by decide) h), if_neg (ne 4 3 (by decide) (by decide) (by decide) h), if_pos h]
theorem kd_w {f : Nat → Int32} {fed p w : Nat} (hw : w < 5) (hp : p ≤ fed) : Wd f (sP f fed p) (eP f fed p) w ↔ kdP f fed p = w + 3 := by
  obtain ⟨a1, a2⟩ := sP_ok (f := f) hp
  obtain ⟨b1, b2⟩ := eP_ok (f := f) hp
  constructor
  · intro h
    have h4 : sP f fed p + 4 ≤ eP f fed p := by
      have h1 := h.1
      have h2 := (sl_tab w (by omega)).2
      omega
    rw [kdP_w (by omega) (Wd_nd hw h)]
    exact (wk_iff hw).mpr h
  · intro h
    by_cases c : sP f fed p = fed
    · rw [kdP_0 c] at h; omega
    · by_cases d : dgt (f (sP f fed p))
      · rw [kdP_d c d] at h; split at h <;> omega
      · rw [kdP_w c d] at h; exact (wk_iff hw).mp h
