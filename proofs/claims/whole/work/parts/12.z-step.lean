/-! one step of the class's reading, and all of it -/
theorem n12 : ¬ (1 : Nat) = 2 := by decide
theorem i10 : ¬ (1 : Int32) = 0 := by decide
theorem kd_ne0 {f : Nat → Int32} {fed p : Nat} (h : ¬ sP f fed p = fed) : ¬ kdP f fed p = 0 := by
  by_cases d : dgt (f (sP f fed p))
  · rw [kdP_d h d]; split <;> decide
  · rw [kdP_w h d]; exact (wk_v _ _ _).1
theorem e_isWordK {K N : Nat → Nat} {A : Nat → Nat → Int32} {P : Nat → Nat → Option Nat} {t r fed p w : Nat} (hT : TapSh K N P t r) (hw : w < 5) (hfed : fed ≤ 60) (hp : p ≤ fed) (h1 : A t 1 = nI fed) (h6 : A t 6 = nI (sP (A r) fed p)) (h7 : A t 7 = nI (eP (A r) fed p)) : fn_X8_isWord K N A P t w = some (bI (kdP (A r) fed p = w + 3)) := by
  obtain ⟨k9, p0, kr, nr, hrt⟩ := hT
  obtain ⟨a1, a2⟩ := eP_ok (f := A r) hp
  rw [e_isWordC (by omega) k9 p0 kr nr a1 a2 hfed h1 h6 h7]
  exact congrArg (fun x => some (bI x)) (propext (kd_w hw hp))
theorem e_stepC {K N : Nat → Nat} {A : Nat → Nat → Int32} {P : Nat → Nat → Option Nat} {t r X Y k fed p x y x0 y0 : Nat} (hT : TapS2 K N P t r X Y) (hfed : fed ≤ 60) (hp : p ≤ fed) (hk : k + 1 < 60) (h1 : A t 1 = nI fed) (h4 : A t 4 = nI (k + 1)) (h5 : A t 5 = -1) (h6 : A t 6 = nI (sP (A r) fed p)) (h7 : A t 7 = nI (eP (A r) fed p)) (hne : ¬ sP (A r) fed p = fed) (hx : A X k = nI x) (hy : A Y k = nI y) (hx0 : A X 0 = nI x0) (hy0 : A Y 0 = nI y0) : ∃ s, fn_X8_readStep K N A P t = some s ∧ ResP t X Y (k + 1) A (nxP (A r) fed x0 y0 p x y) s := by
  obtain ⟨hT1, ⟨p2, p3⟩, ⟨kX, nX, kY, nY⟩, n1, n2, n3, n4, n5⟩ := id hT
  have W := fun w (hw : w < 5) => e_isWordK (P := P) (w := w) hT1 hw hfed hp h1 h6 h7
  have w1 : fn_X8_isWord K N A P t 1 = some (bI (kdP (A r) fed p = 4)) := W 1 (by decide)
  have w2 : fn_X8_isWord K N A P t 2 = some (bI (kdP (A r) fed p = 5)) := W 2 (by decide)
  have w3 : fn_X8_isWord K N A P t 3 = some (bI (kdP (A r) fed p = 6)) := W 3 (by decide)
  have w4 : fn_X8_isWord K N A P t 4 = some (bI (kdP (A r) fed p = 7)) := W 4 (by decide)
  obtain ⟨a1, a2⟩ := eP_ok (f := A r) hp
  obtain ⟨a3, a4⟩ := sP_ok (f := A r) a2
  have k0 := kd_ne0 hne
  have hlast : nI (k + 1) - (1 : Int32) = nI k := nI_pred k
  have hin : fn_X9_isWithin (nI k) 0 59 = some 1 := by
    have : fn_X9_isWithin (nI k) 0 59 = some (bI (inR (nI k) 60)) := isWithin_nI (n := 60) (by decide) (by decide)
    rw [this, bI_t ⟨k, by omega, rfl⟩]
  have l15 : (15 : Int32) = nI (16 - 1) := rfl
  have l11 : (11 : Int32) = nI (12 - 1) := rfl
  have vk : vp_in (nI k) 60 := vp_in_nI (by omega) (by decide)
  have v0 : vp_in (0 : Int32) 60 := vp_in_nI (n := 0) (by decide) (by decide)
  unfold fn_X8_readStep
  rw [gd_pos hT1.1, h4, Option.bind_some, hlast, hin, Option.bind_some, if_neg i10, w1, Option.bind_some]
  by_cases c4 : kdP (A r) fed p = 4
  · have e : nxP (A r) fed x0 y0 p x y = plP (A r) fed (eP (A r) fed p) := by unfold nxP; rw [if_neg k0, if_pos c4]
    obtain ⟨s, s1, s2⟩ := e_placeC hT hfed a2 hk h1 h4 h5 h7
    rw [bI_t c4, if_neg i10, s1, Option.bind_some, e]
    exact ⟨s, rfl, s2⟩
  rw [bI_f c4, if_pos rfl, w2, Option.bind_some]
  by_cases c5 : kdP (A r) fed p = 5
  · have e : nxP (A r) fed x0 y0 p x y = acP (A r) fed (eP (A r) fed p) y := by unfold nxP; rw [if_neg k0, if_neg c4, if_pos c5]
    obtain ⟨q1, q2⟩ := e_readNum (A := A) (lim := 16) hT1 hfed a2 (by omega) (by omega) h1 h5 h7
    rw [bI_t c5, if_neg i10, l15, e]
    unfold acP
    by_cases c : isNum (A r) fed (eP (A r) fed p) 16
    · obtain ⟨s, s1, s2, s3, s4⟩ := q1 c
      obtain ⟨w, g1, g2, g3, g4, g5, g6⟩ := e_goTo (A := s) hT hk (by rw [s3 4 (by decide) (by decide)]; exact h4) (by rw [s3 5 (by decide) (by decide)]; exact h5) (nI (nv (A r) (sP (A r) fed (eP (A r) fed p)) (eP (A r) fed (eP (A r) fed p)))) (nI y)
      rw [if_pos c, s1, Option.bind_some, p3, Option.bind_some, gd_pos ⟨kY, by rw [nY]; exact vk⟩, nI_clamp (by omega)]
      dsimp only
      rw [s2 Y n2, hy, g1, Option.bind_some]
      exact ⟨w, rfl, fun a h1 h2 h3 => by rw [g2 a h1 h2 h3, s2 a h1], by rw [g3 1 (by decide), s3 1 (by decide) (by decide)], fun _ => ⟨g4, by rw [g3 5 (by decide), s3 5 (by decide) (by decide)]; exact h5, by rw [g3 7 (by decide)]; exact s4, fun j => by rw [g5, s2 X n1]; rfl, fun j => by rw [g6, s2 Y n2]⟩, fun h => absurd h n12⟩
    · obtain ⟨s, s1, s2, s3, s4⟩ := q2 c
      rw [if_neg c, s1, Option.bind_some, p3, Option.bind_some, gd_pos ⟨kY, by rw [nY]; exact vk⟩]
      dsimp only
      rw [e_goToF hT1.1 (by rw [s4]; exact nI_m1 (by omega)), Option.bind_some]
      exact ⟨s, rfl, fun a h1 h2 h3 => s2 a h1, s3 1 (by decide) (by decide) (by decide), fun h => absurd h n21, fun _ => s4⟩
  rw [bI_f c5, if_pos rfl, w3, Option.bind_some]
  by_cases c6 : kdP (A r) fed p = 6
  · have e : nxP (A r) fed x0 y0 p x y = dnP (A r) fed (eP (A r) fed p) x := by unfold nxP; rw [if_neg k0, if_neg c4, if_neg c5, if_pos c6]
    obtain ⟨q1, q2⟩ := e_readNum (A := A) (lim := 12) hT1 hfed a2 (by omega) (by omega) h1 h5 h7
    rw [bI_t c6, if_neg i10, l11, e, p2, Option.bind_some, gd_pos ⟨kX, by rw [nX]; exact vk⟩, nI_clamp (by omega), hx]
    unfold dnP
    by_cases c : isNum (A r) fed (eP (A r) fed p) 12
    · obtain ⟨s, s1, s2, s3, s4⟩ := q1 c
      obtain ⟨w, g1, g2, g3, g4, g5, g6⟩ := e_goTo (A := s) hT hk (by rw [s3 4 (by decide) (by decide)]; exact h4) (by rw [s3 5 (by decide) (by decide)]; exact h5) (nI x) (nI (nv (A r) (sP (A r) fed (eP (A r) fed p)) (eP (A r) fed (eP (A r) fed p))))
      rw [if_pos c, s1, Option.bind_some]
      dsimp only
      rw [g1, Option.bind_some]
      exact ⟨w, rfl, fun a h1 h2 h3 => by rw [g2 a h1 h2 h3, s2 a h1], by rw [g3 1 (by decide), s3 1 (by decide) (by decide)], fun _ => ⟨g4, by rw [g3 5 (by decide), s3 5 (by decide) (by decide)]; exact h5, by rw [g3 7 (by decide)]; exact s4, fun j => by rw [g5, s2 X n1], fun j => by rw [g6, s2 Y n2]; rfl⟩, fun h => absurd h n12⟩
    · obtain ⟨s, s1, s2, s3, s4⟩ := q2 c
      rw [if_neg c, s1, Option.bind_some]
      dsimp only
      rw [e_goToF hT1.1 (by rw [s4]; exact nI_m1 (by omega)), Option.bind_some]
      exact ⟨s, rfl, fun a h1 h2 h3 => s2 a h1, s3 1 (by decide) (by decide) (by decide), fun h => absurd h n21, fun _ => s4⟩
  rw [bI_f c6, if_pos rfl, w4, Option.bind_some]
  by_cases c7 : kdP (A r) fed p = 7
  · have e : nxP (A r) fed x0 y0 p x y = (1, eP (A r) fed p, x0, y0) := by unfold nxP; rw [if_neg k0, if_neg c4, if_neg c5, if_neg c6, if_pos c7]
    obtain ⟨w, g1, g2, g3, g4, g5, g6⟩ := e_goTo (A := A) hT hk h4 h5 (nI x0) (nI y0)
    rw [bI_t c7, if_neg i10, p2, Option.bind_some, gd_pos ⟨kX, by rw [nX]; exact v0⟩, p3, Option.bind_some, gd_pos ⟨kY, by rw [nY]; exact v0⟩, hx0, hy0, g1, Option.bind_some, e]
    exact ⟨w, rfl, g2, g3 1 (by decide), fun _ => ⟨g4, by rw [g3 5 (by decide)]; exact h5, by rw [g3 7 (by decide)]; exact h7, g5, g6⟩, fun h => absurd h n12⟩
  have e : nxP (A r) fed x0 y0 p x y = (2, sP (A r) fed p, 0, 0) := by unfold nxP; rw [if_neg k0, if_neg c4, if_neg c5, if_neg c6, if_neg c7]
  rw [bI_f c7, if_pos rfl, Option.bind_some, e]
  exact ⟨_, rfl, fun a h1 h2 h3 => up2_o h1, up2_k (by decide), fun h => absurd h n21, fun _ => by rw [up2_s]; exact h6⟩
theorem nxP_n0 {f : Nat → Int32} {fed x0 y0 p x y : Nat} (hp : p ≤ fed) (h : ¬ sP f fed p = fed) : ¬ (nxP f fed x0 y0 p x y).1 = 0 := by
  obtain ⟨a1, a2⟩ := eP_ok (f := f) hp
  have k0 := kd_ne0 h
  unfold nxP
  rw [if_neg k0]
  by_cases k4 : kdP f fed p = 4
  · rw [if_pos k4]
    have := (plP_ok (f := f) a2).1
    omega
  rw [if_neg k4]
  by_cases k5 : kdP f fed p = 5
  · rw [if_pos k5]
    unfold acP
    by_cases c : isNum f fed (eP f fed p) 16
    · rw [if_pos c]; exact (by decide : ¬ (1 : Nat) = 0)
    · rw [if_neg c]; exact (by decide : ¬ (2 : Nat) = 0)
  rw [if_neg k5]
  by_cases k6 : kdP f fed p = 6
  · rw [if_pos k6]
    unfold dnP
    by_cases c : isNum f fed (eP f fed p) 12
    · rw [if_pos c]; exact (by decide : ¬ (1 : Nat) = 0)
    · rw [if_neg c]; exact (by decide : ¬ (2 : Nat) = 0)
  rw [if_neg k6]
  by_cases k7 : kdP f fed p = 7
  · rw [if_pos k7]; exact (by decide : ¬ (1 : Nat) = 0)
  · rw [if_neg k7]; exact (by decide : ¬ (2 : Nat) = 0)
theorem nxP_y0 {f : Nat → Int32} {fed x0 y0 p x y : Nat} (h : sP f fed p = fed) : (nxP f fed x0 y0 p x y).1 = 0 := by
  unfold nxP; rw [if_pos (kdP_0 h)]
