/-! one command of the model -/
/-- the token at p is read -/
def TkM (m fed p : Nat) (s : Nat → Nat → Int32) (f : Nat → Int32) : Prop := s m 5 = nI fed ∧ s m 6 = nI (eP f fed p) ∧ s m 7 = nI (sP f fed p) ∧ s m 8 = nI (kdP f fed p)
def NwM (m x y x0 y0 c : Nat) (s : Nat → Nat → Int32) : Prop := s m 10 = nI x ∧ s m 11 = nI y ∧ s m 12 = nI x0 ∧ s m 13 = nI y0 ∧ s m 14 = nI c
theorem kdP_lt {f : Nat → Int32} {fed p : Nat} : kdP f fed p < 8 := by
  unfold kdP
  by_cases c : sP f fed p = fed
  · rw [if_pos c]; decide
  · rw [if_neg c]
    by_cases d : dgt (f (sP f fed p))
    · rw [if_pos d]; split <;> decide
    · rw [if_neg d]; exact (wk_v _ _ _).2.2
theorem e_numX {K N : Nat → Nat} {P : Nat → Nat → Option Nat} {B s : Nat → Nat → Int32} {m fed p lim : Nat} {L : Int32} {S : DT} (hM : ModSh K N P m) (hG : GrX L B s m S) (hfed : fed ≤ 60) (hp : p ≤ fed) (hl : lim < 100) (h5 : s m 5 = nI fed) (h6 : s m 6 = nI p) : ∃ z v, fn_X10_number K N s P m (nI lim) = some (v, z) ∧ GrX L B z m S ∧ (∀ j, j < 6 ∨ 9 < j → z m j = s m j) ∧ z m 6 = nI (eP (B (m + 3)) fed p) ∧ z m 7 = nI (sP (B (m + 3)) fed p) ∧ (isNum (B (m + 3)) fed p lim → v = nI (nvA (B (m + 3)) fed p) ∧ 0 ≤ v) ∧ (¬ isNum (B (m + 3)) fed p lim → ¬ 0 ≤ v) := by
  obtain ⟨z, v, z1, z2, z3, z4, z5, z6, z7⟩ := e_mnumber (A := s) (P := P) (lim := lim) hM hfed hp hl h5 h6
  rw [hG.tape] at z4 z5 z6 z7
  refine ⟨z, v, z1, hG.put z2, fun j hj => z3 j (by omega) (by omega) (by omega) (by omega), z4, z5, fun h => ?_, fun h => ?_⟩
  · have e := z6 h
    refine ⟨e, ?_⟩
    rw [e]
    exact nI_pos' (by have := h.2.2.2; omega)
  · rw [z7 h]; decide
def GoR (L : Int32) (B : Nat → Nat → Int32) (m : Nat) (mk : Nat → Int32) (cv : Nat → Nat → Nat → Int32) (x y x0 y0 c : Nat) (S : DT) (s : Nat → Nat → Int32) (R : Int32) (s' : Nat → Nat → Int32) (pr : PR) : Prop := (∀ j, j < 6 → s' m j = s m j) ∧ (pr.1 = 1 → R = 1 ∧ GrX L B s' m (lin mk (B (m + 1) 4) cv x y pr.2.2.1 pr.2.2.2 S) ∧ s' m 6 = nI pr.2.1 ∧ NwM m pr.2.2.1 pr.2.2.2 x0 y0 (c + ln x y pr.2.2.1 pr.2.2.2) s') ∧ (pr.1 = 2 → R = 0 ∧ GrX L B s' m S ∧ s' m 7 = nI pr.2.1)
def GoM (L : Int32) (B : Nat → Nat → Int32) (m : Nat) (mk : Nat → Int32) (cv : Nat → Nat → Nat → Int32) (S : DT) (s : Nat → Nat → Int32) (R : Int32) (s' : Nat → Nat → Int32) (pr : PR) : Prop := (∀ j, j < 6 → s' m j = s m j) ∧ (pr.1 = 1 → R = 1 ∧ GrX L B s' m (st1 mk (B (m + 1) 4) cv pr.2.2.1 pr.2.2.2 S) ∧ s' m 6 = nI pr.2.1 ∧ NwM m pr.2.2.1 pr.2.2.2 pr.2.2.1 pr.2.2.2 1 s') ∧ (pr.1 = 2 → R = 0 ∧ GrX L B s' m S ∧ s' m 7 = nI pr.2.1)
theorem GoR.one {L : Int32} {B : Nat → Nat → Int32} {m : Nat} {mk : Nat → Int32} {cv : Nat → Nat → Nat → Int32} {x y x0 y0 c E u v : Nat} {S : DT} {s s' : Nat → Nat → Int32} (h1 : ∀ j, j < 6 → s' m j = s m j) (h2 : GrX L B s' m (lin mk (B (m + 1) 4) cv x y u v S)) (h3 : s' m 6 = nI E) (h4 : NwM m u v x0 y0 (c + ln x y u v) s') : GoR L B m mk cv x y x0 y0 c S s 1 s' (1, E, u, v) := ⟨h1, fun _ => ⟨rfl, h2, h3, h4⟩, fun q => absurd q n12⟩
theorem GoR.two {L : Int32} {B : Nat → Nat → Int32} {m : Nat} {mk : Nat → Int32} {cv : Nat → Nat → Nat → Int32} {x y x0 y0 c E : Nat} {S : DT} {s s' : Nat → Nat → Int32} (h1 : ∀ j, j < 6 → s' m j = s m j) (h2 : GrX L B s' m S) (h3 : s' m 7 = nI E) : GoR L B m mk cv x y x0 y0 c S s 0 s' (2, E, 0, 0) := ⟨h1, fun q => absurd q n21, fun _ => ⟨rfl, h2, h3⟩⟩
theorem GoM.one {L : Int32} {B : Nat → Nat → Int32} {m : Nat} {mk : Nat → Int32} {cv : Nat → Nat → Nat → Int32} {E u v : Nat} {S : DT} {s s' : Nat → Nat → Int32} (h1 : ∀ j, j < 6 → s' m j = s m j) (h2 : GrX L B s' m (st1 mk (B (m + 1) 4) cv u v S)) (h3 : s' m 6 = nI E) (h4 : NwM m u v u v 1 s') : GoM L B m mk cv S s 1 s' (1, E, u, v) := ⟨h1, fun _ => ⟨rfl, h2, h3, h4⟩, fun q => absurd q n12⟩
theorem GoM.two {L : Int32} {B : Nat → Nat → Int32} {m : Nat} {mk : Nat → Int32} {cv : Nat → Nat → Nat → Int32} {E : Nat} {S : DT} {s s' : Nat → Nat → Int32} (h1 : ∀ j, j < 6 → s' m j = s m j) (h2 : GrX L B s' m S) (h3 : s' m 7 = nI E) : GoM L B m mk cv S s 0 s' (2, E, 0, 0) := ⟨h1, fun q => absurd q n21, fun _ => ⟨rfl, h2, h3⟩⟩
theorem e_goN {K N : Nat → Nat} {P : Nat → Nat → Option Nat} {B s : Nat → Nat → Int32} {m fed p x y x0 y0 c : Nat} {L : Int32} {mk : Nat → Int32} {cv : Nat → Nat → Nat → Int32} {S : DT} (h : StM K N P B m mk cv) (h3 : Fr3 L mk m s) (hfed : fed ≤ 60) (hp : p ≤ fed) (hx : x < 16) (hy : y < 12) (hx0 : x0 < 16) (hy0 : y0 < 12) (hT : TkM m fed p s (B (m + 3))) (hN : NwM m x y x0 y0 c s) (hG : GrX L B s m S) (k0 : ¬ kdP (B (m + 3)) fed p = 0) (k3 : ¬ kdP (B (m + 3)) fed p = 3) : ∃ R s', fn_X10_goes K N s P m L = some (R, s') ∧ GoR L B m mk cv x y x0 y0 c S s R s' (nxP (B (m + 3)) fed x0 y0 p x y) := by
  have hM := h.1
  have km : K m = 11 := h.1.1.1
  obtain ⟨t5, t6, t7, t8⟩ := hT
  obtain ⟨n10, n11, n12', n13, n14⟩ := hN
  obtain ⟨f, hf⟩ : ∃ f, f = B (m + 3) := ⟨_, rfl⟩
  have hlt : kdP f fed p < 8 := kdP_lt
  have NX := fun (z : Nat → Nat → Int32) (S' : DT) lim q (hq : q ≤ fed) (hl : lim < 100) (hz : GrX L B z m S') (z5 : z m 5 = nI fed) (z6 : z m 6 = nI q) => e_numX (P := P) (lim := lim) hM hz hfed hq hl z5 z6
  rw [← hf] at t6 t7 t8 k0 k3 NX ⊢
  obtain ⟨a1, a2⟩ := eP_ok (f := f) hp
  obtain ⟨b1, b2⟩ := eP_ok (f := f) a2
  have Lit : ∀ k : Nat, k < 8 → (nI (kdP f fed p) = nI k ↔ kdP f fed p = k) := fun k hk => nI_eq (by omega) (by omega)
  have L3 : (nI (kdP f fed p) = (3 : Int32)) ↔ kdP f fed p = 3 := Lit 3 (by decide)
  have L4 : (nI (kdP f fed p) = (4 : Int32)) ↔ kdP f fed p = 4 := Lit 4 (by decide)
  have L5 : (nI (kdP f fed p) = (5 : Int32)) ↔ kdP f fed p = 5 := Lit 5 (by decide)
  have L6 : (nI (kdP f fed p) = (6 : Int32)) ↔ kdP f fed p = 6 := Lit 6 (by decide)
  have L7 : (nI (kdP f fed p) = (7 : Int32)) ↔ kdP f fed p = 7 := Lit 7 (by decide)
  have px : 0 ≤ nI x := nI_pos' (by omega)
  have py : 0 ≤ nI y := nI_pos' (by omega)
  have px0 : 0 ≤ nI x0 := nI_pos' (by omega)
  have py0 : 0 ≤ nI y0 := nI_pos' (by omega)
  have l16 : (16 : Int32) = nI 16 := rfl
  have l12 : (12 : Int32) = nI 12 := rfl
  unfold fn_X10_goes
  rw [gd_pos km, t8]
  by_cases c3 : kdP f fed p < 3
  · have e : nxP f fed x0 y0 p x y = (2, sP f fed p, 0, 0) := by unfold nxP; rw [if_neg k0, if_neg (by omega), if_neg (by omega), if_neg (by omega), if_neg (by omega)]
    rw [if_neg (show ¬ (3 : Int32) ≤ nI (kdP f fed p) from nI_ge (b := 3) c3 (by decide)), e]
    exact ⟨0, s, rfl, GoR.two (fun _ _ => rfl) hG t7⟩
  rw [if_pos (show (3 : Int32) ≤ nI (kdP f fed p) from nI_le (a := 3) (by omega) (by omega)), Option.bind_some, if_neg (fun q => k3 (L3.mp q))]
  by_cases c4 : kdP f fed p = 4
  · have e : nxP f fed x0 y0 p x y = plP f fed (eP f fed p) := by unfold nxP; rw [if_neg k0, if_pos c4]
    obtain ⟨z, v, z1, z2, z3, z4, z5, z6, z7⟩ := NX s S 16 _ a2 (by decide) hG t5 t6
    rw [if_pos (L4.mpr c4), l16, z1, Option.bind_some, Option.bind_some, e]
    dsimp only
    by_cases i1 : isNum f fed (eP f fed p) 16
    · obtain ⟨v1, v2⟩ := z6 i1
      have vlt : nvA f fed (eP f fed p) < 16 := i1.2.2.2
      obtain ⟨w, u, w1, w2, w3, w4, w5, w6, w7⟩ := NX z S 12 _ b2 (by decide) z2 (by rw [z3 5 (by decide)]; exact t5) z4
      rw [if_pos v2, if_neg (fun q => k3 (L3.mp q)), if_pos (L4.mpr c4), l12, w1, Option.bind_some, Option.bind_some]
      dsimp only
      by_cases i2 : isNum f fed (eP f fed (eP f fed p)) 12
      · obtain ⟨u1, u2⟩ := w6 i2
        have ult : nvA f fed (eP f fed (eP f fed p)) < 12 := i2.2.2.2
        have wk : ∀ j, j < 6 ∨ 9 < j → w m j = s m j := fun j hj => by rw [w3 j hj, z3 j hj]
        obtain ⟨r, r1, r2, r3, r4, r5, r6⟩ := e_linM (s := w) (L := L) (c := c) h (fun q => by rw [wk 3 (by decide)]; exact h3 q) hx hy vlt ult (by rw [wk 10 (by decide)]; exact n10) (by rw [wk 11 (by decide)]; exact n11) (by rw [wk 14 (by decide)]; exact n14) w2
        have ep : plP f fed (eP f fed p) = (1, eP f fed (eP f fed (eP f fed p)), nvA f fed (eP f fed p), nvA f fed (eP f fed (eP f fed p))) := by unfold plP; rw [if_pos i1, if_pos i2]
        rw [if_pos u2, if_neg (fun q => k3 (L3.mp q)), v1, u1, r1, Option.bind_some, ep]
        exact ⟨1, r, rfl, GoR.one (fun j hj => by rw [r3 j (by omega) (by omega) (by omega), wk j (by omega)]) r2 (by rw [r3 6 (by decide) (by decide) (by decide)]; exact w4) ⟨r4, r5, by rw [r3 12 (by decide) (by decide) (by decide), wk 12 (by decide)]; exact n12', by rw [r3 13 (by decide) (by decide) (by decide), wk 13 (by decide)]; exact n13, r6⟩⟩
      · have ep : plP f fed (eP f fed p) = (2, sP f fed (eP f fed (eP f fed p)), 0, 0) := by unfold plP; rw [if_pos i1, if_neg i2]
        rw [if_neg (w7 i2), ep]
        exact ⟨0, w, rfl, GoR.two (fun j hj => by rw [w3 j (by omega), z3 j (by omega)]) w2 w5⟩
    · have ep : plP f fed (eP f fed p) = (2, sP f fed (eP f fed p), 0, 0) := by unfold plP; rw [if_neg i1]
      rw [if_neg (z7 i1), ep]
      exact ⟨0, z, rfl, GoR.two (fun j hj => z3 j (by omega)) z2 z5⟩
  rw [if_neg (fun q => c4 (L4.mp q))]
  by_cases c5 : kdP f fed p = 5
  · have e : nxP f fed x0 y0 p x y = acP f fed (eP f fed p) y := by unfold nxP; rw [if_neg k0, if_neg c4, if_pos c5]
    obtain ⟨z, v, z1, z2, z3, z4, z5, z6, z7⟩ := NX s S 16 _ a2 (by decide) hG t5 t6
    rw [if_pos (L5.mpr c5), l16, z1, Option.bind_some, Option.bind_some, e]
    dsimp only
    by_cases i1 : isNum f fed (eP f fed p) 16
    · obtain ⟨v1, v2⟩ := z6 i1
      have vlt : nvA f fed (eP f fed p) < 16 := i1.2.2.2
      have z11 : z m 11 = nI y := by rw [z3 11 (by decide)]; exact n11
      obtain ⟨r, r1, r2, r3, r4, r5, r6⟩ := e_linM (s := z) (L := L) (c := c) h (fun q => by rw [z3 3 (by decide)]; exact h3 q) hx hy vlt hy (by rw [z3 10 (by decide)]; exact n10) z11 (by rw [z3 14 (by decide)]; exact n14) z2
      have ep : acP f fed (eP f fed p) y = (1, eP f fed (eP f fed p), nvA f fed (eP f fed p), y) := by unfold acP; rw [if_pos i1]
      rw [if_pos v2, if_neg (fun q => k3 (L3.mp q)), if_neg (fun q => c4 (L4.mp q)), if_neg (fun q => by have := L6.mp q; omega), if_neg (fun q => by have := L7.mp q; omega), Option.bind_some, z11]
      dsimp only
      rw [if_pos py, if_neg (fun q => k3 (L3.mp q)), v1, r1, Option.bind_some, ep]
      exact ⟨1, r, rfl, GoR.one (fun j hj => by rw [r3 j (by omega) (by omega) (by omega), z3 j (by omega)]) r2 (by rw [r3 6 (by decide) (by decide) (by decide)]; exact z4) ⟨r4, r5, by rw [r3 12 (by decide) (by decide) (by decide), z3 12 (by decide)]; exact n12', by rw [r3 13 (by decide) (by decide) (by decide), z3 13 (by decide)]; exact n13, r6⟩⟩
    · have ep : acP f fed (eP f fed p) y = (2, sP f fed (eP f fed p), 0, 0) := by unfold acP; rw [if_neg i1]
      rw [if_neg (z7 i1), ep]
      exact ⟨0, z, rfl, GoR.two (fun j hj => z3 j (by omega)) z2 z5⟩
  rw [if_neg (fun q => c5 (L5.mp q))]
  by_cases c7 : kdP f fed p = 7
  · have e : nxP f fed x0 y0 p x y = (1, eP f fed p, x0, y0) := by unfold nxP; rw [if_neg k0, if_neg c4, if_neg c5, if_neg (by omega), if_pos c7]
    obtain ⟨r, r1, r2, r3, r4, r5, r6⟩ := e_linM (s := s) (L := L) (c := c) h h3 hx hy hx0 hy0 n10 n11 n14 hG
    rw [if_pos (L7.mpr c7), n12', Option.bind_some]
    dsimp only
    rw [if_pos px0, if_neg (fun q => k3 (L3.mp q)), if_neg (fun q => c4 (L4.mp q)), if_neg (fun q => by have := L6.mp q; omega), if_pos (L7.mpr c7), n13, Option.bind_some]
    dsimp only
    rw [if_pos py0, if_neg (fun q => k3 (L3.mp q)), r1, Option.bind_some, e]
    exact ⟨1, r, rfl, GoR.one (fun j hj => r3 j (by omega) (by omega) (by omega)) r2 (by rw [r3 6 (by decide) (by decide) (by decide)]; exact t6) ⟨r4, r5, by rw [r3 12 (by decide) (by decide) (by decide)]; exact n12', by rw [r3 13 (by decide) (by decide) (by decide)]; exact n13, r6⟩⟩
  have c6 : kdP f fed p = 6 := by omega
  have e : nxP f fed x0 y0 p x y = dnP f fed (eP f fed p) x := by unfold nxP; rw [if_neg k0, if_neg c4, if_neg c5, if_pos c6]
  obtain ⟨z, v, z1, z2, z3, z4, z5, z6, z7⟩ := NX s S 12 _ a2 (by decide) hG t5 t6
  rw [if_neg (fun q => c7 (L7.mp q)), n10, Option.bind_some]
  dsimp only
  rw [if_pos px, if_neg (fun q => k3 (L3.mp q)), if_neg (fun q => c4 (L4.mp q)), if_pos (L6.mpr c6), l12, z1, Option.bind_some, Option.bind_some, e]
  dsimp only
  by_cases i1 : isNum f fed (eP f fed p) 12
  · obtain ⟨v1, v2⟩ := z6 i1
    have vlt : nvA f fed (eP f fed p) < 12 := i1.2.2.2
    obtain ⟨r, r1, r2, r3, r4, r5, r6⟩ := e_linM (s := z) (L := L) (c := c) h (fun q => by rw [z3 3 (by decide)]; exact h3 q) hx hy hx vlt (by rw [z3 10 (by decide)]; exact n10) (by rw [z3 11 (by decide)]; exact n11) (by rw [z3 14 (by decide)]; exact n14) z2
    have ep : dnP f fed (eP f fed p) x = (1, eP f fed (eP f fed p), x, nvA f fed (eP f fed p)) := by unfold dnP; rw [if_pos i1]
    rw [if_pos v2, if_neg (fun q => k3 (L3.mp q)), v1, r1, Option.bind_some, ep]
    exact ⟨1, r, rfl, GoR.one (fun j hj => by rw [r3 j (by omega) (by omega) (by omega), z3 j (by omega)]) r2 (by rw [r3 6 (by decide) (by decide) (by decide)]; exact z4) ⟨r4, r5, by rw [r3 12 (by decide) (by decide) (by decide), z3 12 (by decide)]; exact n12', by rw [r3 13 (by decide) (by decide) (by decide), z3 13 (by decide)]; exact n13, r6⟩⟩
  · have ep : dnP f fed (eP f fed p) x = (2, sP f fed (eP f fed p), 0, 0) := by unfold dnP; rw [if_neg i1]
    rw [if_neg (z7 i1), ep]
    exact ⟨0, z, rfl, GoR.two (fun j hj => z3 j (by omega)) z2 z5⟩
theorem e_go1 {K N : Nat → Nat} {P : Nat → Nat → Option Nat} {B s : Nat → Nat → Int32} {m fed p : Nat} {L : Int32} {mk : Nat → Int32} {cv : Nat → Nat → Nat → Int32} {S : DT} (h : StM K N P B m mk cv) (h3 : Fr3 L mk m s) (hfed : fed ≤ 60) (hp : p ≤ fed) (hT : TkM m fed p s (B (m + 3))) (hG : GrX L B s m S) (k3 : kdP (B (m + 3)) fed p = 3) : ∃ R s', fn_X10_goes K N s P m L = some (R, s') ∧ GoM L B m mk cv S s R s' (plP (B (m + 3)) fed (eP (B (m + 3)) fed p)) := by
  have hM := h.1
  have km : K m = 11 := h.1.1.1
  obtain ⟨t5, t6, t7, t8⟩ := hT
  obtain ⟨f, hf⟩ : ∃ f, f = B (m + 3) := ⟨_, rfl⟩
  have NX := fun (z : Nat → Nat → Int32) (S' : DT) lim q (hq : q ≤ fed) (hl : lim < 100) (hz : GrX L B z m S') (z5 : z m 5 = nI fed) (z6 : z m 6 = nI q) => e_numX (P := P) (lim := lim) hM hz hfed hq hl z5 z6
  rw [← hf] at t6 t7 t8 k3 NX ⊢
  obtain ⟨a1, a2⟩ := eP_ok (f := f) hp
  obtain ⟨b1, b2⟩ := eP_ok (f := f) a2
  have L3 : nI 3 = (3 : Int32) := rfl
  have l16 : (16 : Int32) = nI 16 := rfl
  have l12 : (12 : Int32) = nI 12 := rfl
  obtain ⟨z, v, z1, z2, z3, z4, z5, z6, z7⟩ := NX s S 16 _ a2 (by decide) hG t5 t6
  unfold fn_X10_goes
  rw [gd_pos km, t8, k3, if_pos (show (3 : Int32) ≤ nI 3 from nI_le (a := 3) (Nat.le_refl _) (by decide)), Option.bind_some, if_pos L3, l16, z1, Option.bind_some, Option.bind_some]
  dsimp only
  by_cases i1 : isNum f fed (eP f fed p) 16
  · obtain ⟨v1, v2⟩ := z6 i1
    have vlt : nvA f fed (eP f fed p) < 16 := i1.2.2.2
    obtain ⟨w, u, w1, w2, w3, w4, w5, w6, w7⟩ := NX z S 12 _ b2 (by decide) z2 (by rw [z3 5 (by decide)]; exact t5) z4
    rw [if_pos v2, if_pos L3, l12, w1, Option.bind_some, Option.bind_some]
    dsimp only
    by_cases i2 : isNum f fed (eP f fed (eP f fed p)) 12
    · obtain ⟨u1, u2⟩ := w6 i2
      have ult : nvA f fed (eP f fed (eP f fed p)) < 12 := i2.2.2.2
      have wk : ∀ j, j < 6 ∨ 9 < j → w m j = s m j := fun j hj => by rw [w3 j hj, z3 j hj]
      obtain ⟨r, r1, r2, r3, r4, r5, r6, r7, r8⟩ := e_movM (s := w) (L := L) h (fun q => by rw [wk 3 (by decide)]; exact h3 q) vlt ult w2
      have ep : plP f fed (eP f fed p) = (1, eP f fed (eP f fed (eP f fed p)), nvA f fed (eP f fed p), nvA f fed (eP f fed (eP f fed p))) := by unfold plP; rw [if_pos i1, if_pos i2]
      rw [if_pos u2, if_pos L3, v1, u1, r1, Option.bind_some, ep]
      exact ⟨1, r, rfl, GoM.one (fun j hj => by rw [r3 j (by omega), wk j (by omega)]) r2 (by rw [r3 6 (by decide)]; exact w4) ⟨r4, r5, r6, r7, r8⟩⟩
    · have ep : plP f fed (eP f fed p) = (2, sP f fed (eP f fed (eP f fed p)), 0, 0) := by unfold plP; rw [if_pos i1, if_neg i2]
      rw [if_neg (w7 i2), ep]
      exact ⟨0, w, rfl, GoM.two (fun j hj => by rw [w3 j (by omega), z3 j (by omega)]) w2 w5⟩
  · have ep : plP f fed (eP f fed p) = (2, sP f fed (eP f fed p), 0, 0) := by unfold plP; rw [if_neg i1]
    rw [if_neg (z7 i1), ep]
    exact ⟨0, z, rfl, GoM.two (fun j hj => z3 j (by omega)) z2 z5⟩
