/-! dither -/
noncomputable def lvF (x y v : Int32) (L : Nat → Int32) : Nat → Int32 := @ite _ (inR x 16 ∧ inR y 12) (Classical.propDecidable _) (up1 L (16 * y.toNatClampNeg + x.toNatClampNeg) (L (16 * y.toNatClampNeg + x.toNatClampNeg) + v)) L
theorem e_leave {K N : Nat → Nat} {A s : Nat → Nat → Int32} {P : Nat → Nat → Option Nat} {b r : Nat} {L : Nat → Int32} (kb : K b = 10) (pb : P b 7 = some r) (kr : K r = 12) (nr : N r = 192) (x y v : Int32) (h1 : ∀ a, a ≠ r → s a = A a) (h2 : ∀ d, d < 192 → s r d = L d) : ∃ s', fn_X9_leave K N s P b x y v = some s' ∧ (∀ a, a ≠ r → s' a = A a) ∧ ∀ d, d < 192 → s' r d = lvF x y v L d := by
  unfold fn_X9_leave lvF
  rw [e_isDot]
  by_cases h : inR x 16 ∧ inR y 12
  · rw [bI_t h, if_pos h]
    obtain ⟨⟨x, hx, rfl⟩, ⟨y, hy, rfl⟩⟩ := h
    rw [nI_clamp (by omega), nI_clamp (by omega), Option.bind_some, if_neg (by decide), gd_pos kb, pb, Option.bind_some, e_dotAt, Option.bind_some, gd_pos ⟨kr, by rw [nr]; exact vp_192 (by omega)⟩, Option.bind_some, nI_clamp (by omega), h2 _ (by omega)]
    refine ⟨_, rfl, fun a ha => by rw [up2_o ha]; exact h1 a ha, fun d hd => ?_⟩
    by_cases k : d = 16 * y + x
    · rw [k, up2_s, up1_s]
    · rw [up2_k k, up1_k k]; exact h2 d hd
  · rw [bI_f h, if_neg h, Option.bind_some, if_pos rfl]
    exact ⟨s, rfl, h1, h2⟩
theorem e_leaves {K N : Nat → Nat} {A s : Nat → Nat → Int32} {P : Nat → Nat → Option Nat} {m : Nat} {L : Nat → Int32} (hM : ModSh K N P m) (x y v : Int32) (h1 : ∀ a, a ≠ m + 7 → s a = A a) (h2 : ∀ d, d < 192 → s (m + 7) d = L d) : ∃ s', fn_X10_leaves K N s P m x y v = some s' ∧ (∀ a, a ≠ m + 7 → s' a = A a) ∧ ∀ d, d < 192 → s' (m + 7) d = lvF x y v L d := by
  have k8 : K (m + 7) = 12 := hM.1.2.2.2.2.2.2.2.1
  have n8 : N (m + 7) = 192 := hM.2.1.2.2.2.2.2.2.1
  have p8 : P m 18 = some (m + 7) := hM.2.2.2.2.2.2.2.2.1
  unfold fn_X10_leaves lvF
  rw [e_isDot']
  by_cases h : inR x 16 ∧ inR y 12
  · rw [bI_t h, if_pos h]
    obtain ⟨⟨x, hx, rfl⟩, ⟨y, hy, rfl⟩⟩ := h
    rw [nI_clamp (by omega), nI_clamp (by omega), Option.bind_some, if_neg (by decide), gd_pos hM.1.1, p8, Option.bind_some, e_dotOf, Option.bind_some, gd_pos ⟨k8, by rw [n8]; exact vp_192 (by omega)⟩, Option.bind_some, nI_clamp (by omega), h2 _ (by omega)]
    refine ⟨_, rfl, fun a ha => by rw [up2_o ha]; exact h1 a ha, fun d hd => ?_⟩
    by_cases k : d = 16 * y + x
    · rw [k, up2_s, up1_s]
    · rw [up2_k k, up1_k k]; exact h2 d hd
  · rw [bI_f h, if_neg h, Option.bind_some, if_pos rfl]
    exact ⟨s, rfl, h1, h2⟩
/-- the four that get of what is left -/
noncomputable def sprF (x y e : Int32) (L : Nat → Int32) : Nat → Int32 := lvF (x + 1) (y + 1) (e / 16) (lvF x (y + 1) (5 * e / 16) (lvF (x - 1) (y + 1) (3 * e / 16) (lvF (x + 1) y (7 * e / 16) L)))
theorem e_spreadLeft {K N : Nat → Nat} {A s : Nat → Nat → Int32} {P : Nat → Nat → Option Nat} {b r : Nat} {L : Nat → Int32} (kb : K b = 10) (pb : P b 7 = some r) (kr : K r = 12) (nr : N r = 192) (x y e : Int32) (h1 : ∀ a, a ≠ r → s a = A a) (h2 : ∀ d, d < 192 → s r d = L d) : ∃ s', fn_X9_spreadLeft K N s P b x y e = some s' ∧ (∀ a, a ≠ r → s' a = A a) ∧ ∀ d, d < 192 → s' r d = sprF x y e L d := by
  obtain ⟨sa, a1, a2, a3⟩ := e_leave kb pb kr nr (x + 1) y (7 * e / 16) h1 h2
  obtain ⟨sb, b1, b2, b3⟩ := e_leave kb pb kr nr (x - 1) (y + 1) (3 * e / 16) a2 a3
  obtain ⟨sc, c1, c2, c3⟩ := e_leave kb pb kr nr x (y + 1) (5 * e / 16) b2 b3
  obtain ⟨sd, d1, d2, d3⟩ := e_leave kb pb kr nr (x + 1) (y + 1) (e / 16) c2 c3
  refine ⟨sd, ?_, d2, d3⟩
  unfold fn_X9_spreadLeft
  rw [a1, Option.bind_some, gd_pos kb, b1, Option.bind_some, c1, Option.bind_some, d1, Option.bind_some]
def difE (v : Int32) : Int32 := if v < 128 then v else v - 255
/-- a row's dots, one after the other: its bits and what is left -/
noncomputable def difX (key : Nat → Int32) (y : Nat) (L : Nat → Int32) : Nat → Int32 × (Nat → Int32)
  | 0 => (0, L)
  | x + 1 => (if key (16 * y + x) + (difX key y L x).2 (16 * y + x) < 128 then (difX key y L x).1 else (difX key y L x).1 ||| ((1 : Int32) <<< (nI x &&& 31)), sprF (nI x) (nI y) (difE (key (16 * y + x) + (difX key y L x).2 (16 * y + x))) (difX key y L x).2)
noncomputable def difY (key : Nat → Int32) : Nat → Int32 × (Nat → Int32)
  | 0 => (0, fun _ => 0)
  | y + 1 => difX key y (difY key y).2 16
theorem e_difC {K N : Nat → Nat} {A : Nat → Nat → Int32} {P : Nat → Nat → Option Nat} {b r y : Nat} {key : Nat → Int32} (kb : K b = 10) (pb : P b 7 = some r) (kr : K r = 12) (nr : N r = 192) (hy : y < 12) (hsee : ∀ z : Nat → Nat → Int32, (∀ a, a ≠ r → z a = A a) → ∀ d, d < 192 → fn_X9_seenAt K N z P b (nI d) = some (key d)) (hA : ∀ d, d < 192 → A r d = 0) : ∃ s, fn_X9_spreadDither_L12 K N b (nI y) P r FU 0 0 A = some ((difY key (y + 1)).1, s) ∧ ∀ a, a ≠ r → s a = A a := by
  have inner : ∀ (v : Nat) (s : Nat → Nat → Int32) (L : Nat → Int32), v < 12 → (∀ a, a ≠ r → s a = A a) → (∀ d, d < 192 → s r d = L d) → ∃ s', fn_X9_spreadDither_L22 K N b P r (nI v) FU 0 0 s = some ((difX key v L 16).1, s') ∧ (∀ a, a ≠ r → s' a = A a) ∧ ∀ d, d < 192 → s' r d = (difX key v L 16).2 d := by
    intro v s L hv s1 s2
    have k := loop_ok (F := fun f x (z : Int32 × (Nat → Nat → Int32)) => fn_X9_spreadDither_L22 K N b P r (nI v) f z.1 (nI x) z.2) 16 (fun x z => z.1 = (difX key v L x).1 ∧ (∀ a, a ≠ r → z.2 a = A a) ∧ ∀ d, d < 192 → z.2 r d = (difX key v L x).2 d) (fun z => z.1 = (difX key v L 16).1 ∧ (∀ a, a ≠ r → z.2 a = A a) ∧ ∀ d, d < 192 → z.2 r d = (difX key v L 16).2 d)
      (fun f z hz => by
        simp only [fn_X9_spreadDither_L22]
        rw [if_pos (show (16 : Int32) ≤ nI 16 from nI_le (a := 16) (Nat.le_refl _) (by omega))]
        exact ok_some.mpr hz)
      (fun f x z hx hz kk => by
        simp only [fn_X9_spreadDither_L22]
        obtain ⟨z1, z2, z3⟩ := hz
        have hd := dot_lt hx hv
        rw [if_neg (show ¬ (16 : Int32) ≤ nI x from nI_ge (b := 16) hx (by omega)), e_dotAt, Option.bind_some, hsee z.2 z2 _ hd, Option.bind_some, Option.bind_some, gd_pos ⟨kr, by rw [nr]; exact vp_192 hd⟩, Option.bind_some, nI_clamp (by omega), z3 _ hd]
        obtain ⟨w, hw⟩ : ∃ w, w = key (16 * v + x) + (difX key v L x).2 (16 * v + x) := ⟨_, rfl⟩
        rw [← hw]
        have hn : difX key v L (x + 1) = (if w < 128 then (difX key v L x).1 else (difX key v L x).1 ||| ((1 : Int32) <<< (nI x &&& 31)), sprF (nI x) (nI v) (difE w) (difX key v L x).2) := by rw [hw]; rfl
        by_cases c : w < 128
        · obtain ⟨s', t1, t2, t3⟩ := e_spreadLeft kb pb kr nr (nI x) (nI v) w z2 z3
          rw [if_pos c, Option.bind_some, if_pos rfl, Option.bind_some, if_pos rfl, t1, Option.bind_some, nI_1]
          exact kk (z.1, s') (by rw [hn, if_pos c]; unfold difE; rw [if_pos c]; exact ⟨z1, t2, t3⟩)
        · obtain ⟨s', t1, t2, t3⟩ := e_spreadLeft kb pb kr nr (nI x) (nI v) (w - 255) z2 z3
          rw [if_neg c, Option.bind_some, if_neg (show ¬ (1 : Int32) = 0 by decide), Option.bind_some, Option.bind_some, if_neg (show ¬ (1 : Int32) = 0 by decide), t1, Option.bind_some, nI_1]
          exact kk (z.1 ||| ((1 : Int32) <<< (nI x &&& 31)), s') (by rw [hn, if_neg c]; unfold difE; rw [if_neg c]; exact ⟨by rw [z1], t2, t3⟩))
      FU 0 (0, s) (Nat.zero_le _) (FU_lt (by omega)) ⟨rfl, s1, s2⟩
    obtain ⟨⟨u, s'⟩, h1, h2, h3⟩ := k
    refine ⟨s', ?_, h3⟩
    rw [← h2]; exact h1
  have k := loop_ok (F := fun f v (z : Int32 × (Nat → Nat → Int32)) => fn_X9_spreadDither_L12 K N b (nI y) P r f z.1 (nI v) z.2) (y + 1) (fun v z => z.1 = (difY key v).1 ∧ (∀ a, a ≠ r → z.2 a = A a) ∧ ∀ d, d < 192 → z.2 r d = (difY key v).2 d) (fun z => z.1 = (difY key (y + 1)).1 ∧ ∀ a, a ≠ r → z.2 a = A a)
    (fun f z hz => by
      simp only [fn_X9_spreadDither_L12]
      rw [if_pos (nI_lt (Nat.lt_succ_self y) (by omega))]
      exact ok_some.mpr ⟨hz.1, hz.2.1⟩)
    (fun f v z hv hz kk => by
      simp only [fn_X9_spreadDither_L12]
      obtain ⟨z1, z2, z3⟩ := hz
      obtain ⟨s', w1, w2, w3⟩ := inner v z.2 _ (by omega) z2 z3
      rw [if_neg (nI_nlt (by omega) (by omega)), w1, Option.bind_some, nI_1]
      exact kk (_, s') ⟨rfl, w2, w3⟩)
    FU 0 (0, A) (Nat.zero_le _) (FU_lt (by omega)) ⟨rfl, fun _ _ => rfl, hA⟩
  obtain ⟨⟨u, s⟩, h1, h2, h3⟩ := k
  refine ⟨s, ?_, h3⟩
  rw [← h2]; exact h1
theorem e_difM {K N : Nat → Nat} {A : Nat → Nat → Int32} {P : Nat → Nat → Option Nat} {m y : Nat} {key : Nat → Int32} (hM : ModSh K N P m) (hy : y < 12) (hsee : ∀ z : Nat → Nat → Int32, (∀ a, a ≠ m + 7 → z a = A a) → ∀ d, d < 192 → fn_X10_seen_ K N z P m (nI d) = some (key d)) (hA : ∀ d, d < 192 → A (m + 7) d = 0) : ∃ s, fn_X10_diffused_L26 K N m (nI y) P FU 0 0 A = some ((difY key (y + 1)).1, s) ∧ ∀ a, a ≠ m + 7 → s a = A a := by
  have k8 : K (m + 7) = 12 := hM.1.2.2.2.2.2.2.2.1
  have n8 : N (m + 7) = 192 := hM.2.1.2.2.2.2.2.2.1
  have p8 : P m 18 = some (m + 7) := hM.2.2.2.2.2.2.2.2.1
  have o0 : ∀ z : Int32, z ||| (0 : Int32) = z := fun z => Int32.or_zero
  have inner : ∀ (v : Nat) (s : Nat → Nat → Int32) (L : Nat → Int32), v < 12 → (∀ a, a ≠ m + 7 → s a = A a) → (∀ d, d < 192 → s (m + 7) d = L d) → ∃ s', fn_X10_diffused_L34 K N m (nI y) P (nI v) FU 0 0 s = some (if v = y then (difX key v L 16).1 else 0, s') ∧ (∀ a, a ≠ m + 7 → s' a = A a) ∧ ∀ d, d < 192 → s' (m + 7) d = (difX key v L 16).2 d := by
    intro v s L hv s1 s2
    have k := loop_ok (F := fun f x (z : Int32 × (Nat → Nat → Int32)) => fn_X10_diffused_L34 K N m (nI y) P (nI v) f z.1 (nI x) z.2) 16 (fun x z => z.1 = (if v = y then (difX key v L x).1 else 0) ∧ (∀ a, a ≠ m + 7 → z.2 a = A a) ∧ ∀ d, d < 192 → z.2 (m + 7) d = (difX key v L x).2 d) (fun z => z.1 = (if v = y then (difX key v L 16).1 else 0) ∧ (∀ a, a ≠ m + 7 → z.2 a = A a) ∧ ∀ d, d < 192 → z.2 (m + 7) d = (difX key v L 16).2 d)
      (fun f z hz => by
        simp only [fn_X10_diffused_L34]
        rw [if_pos (show (16 : Int32) ≤ nI 16 from nI_le (a := 16) (Nat.le_refl _) (by omega))]
        exact ok_some.mpr hz)
      (fun f x z hx hz kk => by
        simp only [fn_X10_diffused_L34]
        obtain ⟨z1, z2, z3⟩ := hz
        have hd := dot_lt hx hv
        rw [if_neg (show ¬ (16 : Int32) ≤ nI x from nI_ge (b := 16) hx (by omega)), e_dotOf, Option.bind_some, hsee z.2 z2 _ hd, Option.bind_some, gd_pos hM.1.1, p8, Option.bind_some, Option.bind_some, gd_pos ⟨k8, by rw [n8]; exact vp_192 hd⟩, Option.bind_some, nI_clamp (by omega), z3 _ hd]
        obtain ⟨w, hw⟩ : ∃ w, w = key (16 * v + x) + (difX key v L x).2 (16 * v + x) := ⟨_, rfl⟩
        rw [← hw]
        have hn : difX key v L (x + 1) = (if w < 128 then (difX key v L x).1 else (difX key v L x).1 ||| ((1 : Int32) <<< (nI x &&& 31)), sprF (nI x) (nI v) (difE w) (difX key v L x).2) := by rw [hw]; rfl
        have hj : (if w < 128 then some (0 : Int32) else if nI v = nI y then some ((1 : Int32) <<< (nI x &&& 31)) else some 0) = some (if w < 128 then 0 else if v = y then (1 : Int32) <<< (nI x &&& 31) else 0) := by
          by_cases c : w < 128
          · rw [if_pos c, if_pos c]
          · rw [if_neg c, if_neg c]
            by_cases c2 : v = y
            · rw [if_pos c2, if_pos (by rw [c2])]
            · rw [if_neg c2, if_neg (fun e => c2 ((nI_eq (by omega) (by omega)).mp e))]
        have he : (if w < 128 then some w else some (w - 255)) = some (difE w) := by unfold difE; split <;> rfl
        rw [hj, he, Option.bind_some, Option.bind_some, Option.bind_some]
        obtain ⟨sa, a1, a2, a3⟩ := e_leaves hM (nI x + 1) (nI v) (7 * difE w / 16) z2 z3
        obtain ⟨sb, b1, b2, b3⟩ := e_leaves hM (nI x - 1) (nI v + 1) (3 * difE w / 16) a2 a3
        obtain ⟨sc, c1, c2, c3⟩ := e_leaves hM (nI x) (nI v + 1) (5 * difE w / 16) b2 b3
        obtain ⟨sd, d1, d2, d3⟩ := e_leaves hM (nI x + 1) (nI v + 1) (difE w / 16) c2 c3
        rw [a1, Option.bind_some, b1, Option.bind_some, c1, Option.bind_some, d1, Option.bind_some, nI_1 x]
        refine kk (_, sd) ⟨?_, d2, by rw [hn]; exact d3⟩
        show z.1 ||| _ = _
        rw [hn, z1]
        by_cases c2 : v = y
        · rw [if_pos c2, if_pos c2, if_pos c2]
          by_cases c : w < 128
          · rw [if_pos c, if_pos c, o0]
          · rw [if_neg c, if_neg c]
        · rw [if_neg c2, if_neg c2, if_neg c2]
          have : (if w < 128 then (0 : Int32) else 0) = 0 := by split <;> rfl
          rw [this, o0])
      FU 0 (0, s) (Nat.zero_le _) (FU_lt (by omega)) ⟨by show (0 : Int32) = if v = y then (0 : Int32) else 0; split <;> rfl, s1, s2⟩
    obtain ⟨⟨u, s'⟩, h1, h2, h3⟩ := k
    refine ⟨s', ?_, h3⟩
    rw [← h2]; exact h1
  have k := loop_ok (F := fun f v (z : Int32 × (Nat → Nat → Int32)) => fn_X10_diffused_L26 K N m (nI y) P f z.1 (nI v) z.2) (y + 1) (fun v z => z.1 = (if v = y + 1 then (difY key v).1 else 0) ∧ (∀ a, a ≠ m + 7 → z.2 a = A a) ∧ ∀ d, d < 192 → z.2 (m + 7) d = (difY key v).2 d) (fun z => z.1 = (difY key (y + 1)).1 ∧ ∀ a, a ≠ m + 7 → z.2 a = A a)
    (fun f z hz => by
      simp only [fn_X10_diffused_L26]
      rw [if_pos (nI_lt (Nat.lt_succ_self y) (by omega))]
      exact ok_some.mpr ⟨by rw [hz.1, if_pos rfl], hz.2.1⟩)
    (fun f v z hv hz kk => by
      simp only [fn_X10_diffused_L26]
      obtain ⟨z1, z2, z3⟩ := hz
      rw [if_neg (by omega)] at z1
      obtain ⟨s', w1, w2, w3⟩ := inner v z.2 _ (by omega) z2 z3
      rw [if_neg (nI_nlt (by omega) (by omega)), z1, w1, Option.bind_some, nI_1]
      refine kk (_, s') ⟨?_, w2, w3⟩
      show (if v = y then _ else _) = _
      by_cases c : v = y
      · rw [if_pos c, if_pos (by omega)]; rfl
      · rw [if_neg c, if_neg (by omega)])
    FU 0 (0, A) (Nat.zero_le _) (FU_lt (by omega)) ⟨by rw [if_neg (by omega)], fun _ _ => rfl, hA⟩
  obtain ⟨⟨u, s⟩, h1, h2, h3⟩ := k
  refine ⟨s, ?_, h3⟩
  rw [← h2]; exact h1
