/-! a token's number, in the class -/
def dg (c : Int32) : Nat := (c - 48).toNatClampNeg
theorem dgt_n {c : Int32} (h : dgt c) : dg c < 10 ∧ c = nI (48 + dg c) := by
  obtain ⟨h1, h2⟩ := h
  have p48 : (48 : Int32).toInt = 48 := rfl
  have p57 : (57 : Int32).toInt = 57 := rfl
  rw [Int32.lt_iff_toInt_lt, p48] at h1
  rw [Int32.lt_iff_toInt_lt, p57] at h2
  obtain ⟨j, hj, e⟩ := (inR_iff (x := c) (n := 58) (by decide)).mpr ⟨by omega, by omega⟩
  subst e
  rw [nI_toInt (by omega)] at h1 h2
  have : nI j - 48 = nI (j - 48) := by rw [show (48 : Int32) = nI 48 from rfl, pk_sub (by omega)]
  unfold dg
  rw [this, nI_clamp (by omega)]
  exact ⟨by omega, by congr 1; omega⟩
def nv (f : Nat → Int32) (s e : Nat) : Nat := if e - s = 1 then dg (f s) else 10 * dg (f s) + dg (f (s + 1))
def clN (f : Nat → Int32) (s : Nat) : Nat → Int32
  | 0 => 0
  | j + 1 => 10 * clN f s j + f (s + j) - 48
theorem clN_1 {f : Nat → Int32} {s : Nat} (h : dgt (f s)) : clN f s 1 = nI (dg (f s)) := by
  obtain ⟨h1, h2⟩ := dgt_n h
  show 10 * (0 : Int32) + f (s + 0) - 48 = _
  rw [show s + 0 = s from rfl]
  rw [show f s = nI (48 + dg (f s)) from h2, show (10 : Int32) * 0 = nI 0 from rfl, nI_add, show (48 : Int32) = nI 48 from rfl, pk_sub (by omega)]
  rw [← h2]; congr 1; omega
theorem clN_2 {f : Nat → Int32} {s : Nat} (h : dgt (f s)) (h2 : dgt (f (s + 1))) : clN f s 2 = nI (10 * dg (f s) + dg (f (s + 1))) := by
  obtain ⟨g1, g2⟩ := dgt_n h2
  have e1 := clN_1 h
  show 10 * clN f s 1 + f (s + 1) - 48 = _
  rw [e1]
  obtain ⟨a, ha⟩ : ∃ a, a = dg (f s) := ⟨_, rfl⟩
  obtain ⟨c, hc⟩ : ∃ c, c = dg (f (s + 1)) := ⟨_, rfl⟩
  rw [← ha, ← hc]
  rw [← hc] at g2
  rw [g2, show (10 : Int32) = nI 10 from rfl, pk_mul, nI_add, show (48 : Int32) = nI 48 from rfl, pk_sub (by omega)]
  congr 1; omega
theorem nv_lt {f : Nat → Int32} {s e : Nat} (h : dgt (f s)) (h2 : e - s = 2 → dgt (f (s + 1))) (he : 1 ≤ e - s) (he2 : e - s ≤ 2) : nv f s e < 100 ∧ clN f s (e - s) = nI (nv f s e) := by
  obtain ⟨h1, -⟩ := dgt_n h
  unfold nv
  by_cases c : e - s = 1
  · rw [if_pos c, c]; exact ⟨by omega, clN_1 h⟩
  · have c2 : e - s = 2 := by omega
    obtain ⟨g1, -⟩ := dgt_n (h2 c2)
    rw [if_neg c, c2]; exact ⟨by omega, clN_2 h (h2 c2)⟩
/-- digits stand from s up to e -/
def dgs (f : Nat → Int32) (s e : Nat) : Prop := ∀ j, s ≤ j → j < e → dgt (f j)
theorem eP_dgt {f : Nat → Int32} {fed p : Nat} (hp : p ≤ fed) (hs : sP f fed p < fed) (h : dgt (f (sP f fed p))) : sP f fed p < eP f fed p ∧ dgs f (sP f fed p) (eP f fed p) := by
  obtain ⟨a1, a2, a3, a4⟩ := skp_ok ltr f (fed - sP f fed p) (sP f fed p)
  have nl : ¬ ltr (f (sP f fed p)) := fun e => by
    have h1 := h.2
    have h2 := e.1
    have p57 : (57 : Int32).toInt = 57 := rfl
    have p97 : (97 : Int32).toInt = 97 := rfl
    rw [Int32.lt_iff_toInt_lt, p57] at h1
    rw [Int32.lt_iff_toInt_lt, p97] at h2
    omega
  have hL : eL f fed (sP f fed p) = sP f fed p := by
    unfold eL
    by_cases c : skp ltr f (fed - sP f fed p) (sP f fed p) = sP f fed p
    · exact c
    · exact absurd (a3 (sP f fed p) (Nat.le_refl _) (by omega)) nl
  have hE : eP f fed p = eD f fed (sP f fed p) := by unfold eP; rw [if_pos (by omega)]
  obtain ⟨k1, k2, k3, k4⟩ := skp_ok dgt f (fed - sP f fed p) (sP f fed p)
  rw [hE]
  refine ⟨?_, fun j j1 j2 => k3 j j1 j2⟩
  unfold eD
  by_cases c : skp dgt f (fed - sP f fed p) (sP f fed p) = sP f fed p
  · have := k4 (by omega)
    rw [c] at this; exact absurd h this
  · omega
/-- the token at p is a number below lim -/
def isNum (f : Nat → Int32) (fed p lim : Nat) : Prop := sP f fed p < fed ∧ dgt (f (sP f fed p)) ∧ eP f fed p - sP f fed p ≤ 2 ∧ nv f (sP f fed p) (eP f fed p) < lim
theorem e_tokNum {K N : Nat → Nat} {A : Nat → Nat → Int32} {P : Nat → Nat → Option Nat} {t r fed p lim : Nat} (hT : TapSh K N P t r) (hfed : fed ≤ 60) (hp : p ≤ fed) (hl : lim < 100) (hl0 : 0 < lim) (h1 : A t 1 = nI fed) (h6 : A t 6 = nI (sP (A r) fed p)) (h7 : A t 7 = nI (eP (A r) fed p)) : (isNum (A r) fed p lim → fn_X8_tokenNumber K N A P t = some (nI (nv (A r) (sP (A r) fed p) (eP (A r) fed p)))) ∧ (¬ isNum (A r) fed p lim → ∃ v, fn_X8_tokenNumber K N A P t = some v ∧ ¬ inR v lim) := by
  obtain ⟨k9, p0, kr, nr, hrt⟩ := id hT
  obtain ⟨hs1, hs2⟩ := sP_ok (f := A r) hp
  obtain ⟨he1, he2⟩ := eP_ok (f := A r) hp
  have hdg := eP_dgt (f := A r) hp
  obtain ⟨s, hs⟩ : ∃ s, s = sP (A r) fed p := ⟨_, rfl⟩
  obtain ⟨e, he⟩ : ∃ e, e = eP (A r) fed p := ⟨_, rfl⟩
  unfold isNum
  rw [← hs, ← he] at hdg
  rw [← hs] at hs1 hs2 he1 h6 ⊢
  rw [← he] at he1 he2 h7 ⊢
  have m1 : ¬ inR (-1) lim := m1_out (by omega)
  unfold fn_X8_tokenNumber
  rw [gd_pos k9, h6, h7, h1, pk_sub he1]
  by_cases c1 : e - s < 1
  · rw [if_pos (show nI (e - s) < (1 : Int32) from nI_lt (b := 1) c1 (by decide))]
    exact ⟨fun h => absurd (hdg h.1 h.2.1).1 (by omega), fun _ => ⟨_, rfl, m1⟩⟩
  rw [if_neg (show ¬ nI (e - s) < (1 : Int32) from nI_nlt (b := 1) (by omega) (by omega))]
  by_cases c2 : 2 < e - s
  · rw [if_pos (show (2 : Int32) < nI (e - s) from nI_lt (a := 2) c2 (by omega))]
    exact ⟨fun h => absurd h.2.2.1 (by omega), fun _ => ⟨_, rfl, m1⟩⟩
  rw [if_neg (show ¬ (2 : Int32) < nI (e - s) from nI_nlt (a := 2) (by omega) (by omega)), if_neg (nI_nlt he2 (by omega)), p0, Option.bind_some, gd_pos ⟨kr, by rw [nr]; exact vp_in_nI (by omega) (by omega)⟩, nI_clamp (by omega), e_dgtC, Option.bind_some]
  by_cases c3 : dgt (A r s)
  · rw [bI_t c3, if_neg (by decide), Option.bind_some]
    obtain ⟨d1, d2⟩ := hdg (by omega) c3
    have key := loop_ok (F := fun f v z => fn_X8_tokenNumber_L61 K N t A r f z (nI v)) e (fun v z => s ≤ v ∧ z = clN (A r) s (v - s)) (fun z => z = clN (A r) s (e - s))
      (fun f z hz => by
        simp only [fn_X8_tokenNumber_L61]
        rw [h7, if_pos (nI_le (Nat.le_refl _) (by omega))]
        exact ok_some.mpr hz.2)
      (fun f v z hv hz kk => by
        simp only [fn_X8_tokenNumber_L61]
        rw [h7, if_neg (nI_ge hv (by omega)), gd_pos ⟨kr, by rw [nr]; exact vp_in_nI (by omega) (by omega)⟩, Option.bind_some, nI_clamp (by omega), nI_1]
        refine kk _ ⟨by omega, ?_⟩
        rw [show v + 1 - s = (v - s) + 1 by omega, clN, show s + (v - s) = v by omega, hz.2])
      FU s 0 he1 (FU_lt (by omega)) ⟨Nat.le_refl _, by rw [Nat.sub_self]; rfl⟩
    obtain ⟨z, z1, z2⟩ := key
    have z1 : fn_X8_tokenNumber_L61 K N t A r FU 0 (nI s) = some z := z1
    obtain ⟨n1, n2⟩ := nv_lt (e := e) c3 (fun h2 => d2 (s + 1) (by omega) (by omega)) (by omega) (by omega)
    rw [z1, Option.bind_some, z2, n2]
    refine ⟨fun _ => rfl, fun h => ⟨_, rfl, fun hh => h ⟨by omega, c3, by omega, ?_⟩⟩⟩
    exact (inR_nI (by omega)).mp hh
  · rw [bI_f c3, if_pos rfl]
    exact ⟨fun h => absurd h.2.1 c3, fun _ => ⟨_, rfl, m1⟩⟩
theorem e_readNum {K N : Nat → Nat} {A : Nat → Nat → Int32} {P : Nat → Nat → Option Nat} {t r fed p lim : Nat} (hT : TapSh K N P t r) (hfed : fed ≤ 60) (hp : p ≤ fed) (hl : lim < 100) (hl0 : 0 < lim) (h1 : A t 1 = nI fed) (h5 : A t 5 = -1) (h7 : A t 7 = nI p) : (isNum (A r) fed p lim → ∃ s, fn_X8_readNumber K N A P t (nI (lim - 1)) = some (nI (nv (A r) (sP (A r) fed p) (eP (A r) fed p)), s) ∧ (∀ a, a ≠ t → s a = A a) ∧ (∀ j, j ≠ 6 → j ≠ 7 → s t j = A t j) ∧ s t 7 = nI (eP (A r) fed p)) ∧ (¬ isNum (A r) fed p lim → ∃ s, fn_X8_readNumber K N A P t (nI (lim - 1)) = some (0, s) ∧ (∀ a, a ≠ t → s a = A a) ∧ (∀ j, j ≠ 5 → j ≠ 6 → j ≠ 7 → s t j = A t j) ∧ s t 5 = nI (sP (A r) fed p)) := by
  obtain ⟨B, b1, b2, b3, b4, b5⟩ := e_nextC hT hfed hp h1 h7
  have Br : B r = A r := b2 r hT.2.2.2.2
  obtain ⟨t1, t2⟩ := e_tokNum (A := B) (lim := lim) hT hfed hp hl hl0 (by rw [b3 1 (by decide) (by decide)]; exact h1) (by rw [Br]; exact b4) (by rw [Br]; exact b5)
  rw [Br] at t1 t2
  have front : ∀ v, fn_X8_tokenNumber K N B P t = some v → fn_X8_readNumber K N A P t (nI (lim - 1)) = if bI (inR v lim) = 0 then some (0, up2 B t 5 (B t 6)) else some (v, B) := by
    intro v hv
    unfold fn_X8_readNumber
    rw [gd_pos hT.1, if_pos h5, b1, Option.bind_some, hv, Option.bind_some, isWithin_nI hl0 (by omega), Option.bind_some, Option.bind_some]
  constructor
  · intro h
    obtain ⟨g1, g2, g3, g4⟩ := h
    refine ⟨B, ?_, b2, b3, b5⟩
    rw [front _ (t1 ⟨g1, g2, g3, g4⟩), bI_t ⟨_, g4, rfl⟩, if_neg (by decide)]
  · intro h
    obtain ⟨v, v1, v2⟩ := t2 h
    refine ⟨up2 B t 5 (B t 6), ?_, fun a ha => by rw [up2_o ha]; exact b2 a ha, fun j h5 h6 h7 => by rw [up2_k h5]; exact b3 j h6 h7, by rw [up2_s]; exact b4⟩
    rw [front v v1, bI_f v2, if_pos rfl]
