/-! the tokens of a tape -/
def blk (c : Int32) : Prop := c = 32 ∨ c = 10
def ltr (c : Int32) : Prop := ¬ c < 97 ∧ ¬ 122 < c
def dgt (c : Int32) : Prop := ¬ c < 48 ∧ ¬ 57 < c
noncomputable def skp (pr : Int32 → Prop) (f : Nat → Int32) : Nat → Nat → Nat
  | 0, p => p
  | k + 1, p => @ite _ (pr (f p)) (Classical.propDecidable _) (skp pr f k (p + 1)) p
theorem skp_t {pr : Int32 → Prop} {f : Nat → Int32} {k p : Nat} (h : pr (f p)) : skp pr f (k + 1) p = skp pr f k (p + 1) := by
  show @ite _ (pr (f p)) (Classical.propDecidable _) _ _ = _
  rw [if_pos h]
theorem skp_f {pr : Int32 → Prop} {f : Nat → Int32} {k p : Nat} (h : ¬ pr (f p)) : skp pr f (k + 1) p = p := by
  show @ite _ (pr (f p)) (Classical.propDecidable _) _ _ = _
  rw [if_neg h]
theorem skp_ok (pr : Int32 → Prop) (f : Nat → Int32) : ∀ k p, p ≤ skp pr f k p ∧ skp pr f k p ≤ p + k ∧ (∀ j, p ≤ j → j < skp pr f k p → pr (f j)) ∧ (skp pr f k p < p + k → ¬ pr (f (skp pr f k p)))
  | 0, p => ⟨Nat.le_refl _, Nat.le_refl _, fun j h1 h2 => by have h2 : j < p := h2; omega, fun h => by have h : p < p + 0 := h; omega⟩
  | k + 1, p => by
    by_cases c : pr (f p)
    · obtain ⟨h1, h2, h3, h4⟩ := skp_ok pr f k (p + 1)
      rw [skp_t c]
      refine ⟨by omega, by omega, fun j j1 j2 => ?_, fun h => h4 (by omega)⟩
      by_cases e : j = p
      · rw [e]; exact c
      · exact h3 j (by omega) j2
    · rw [skp_f c]
      exact ⟨Nat.le_refl _, by omega, fun j j1 j2 => by omega, fun _ => c⟩
theorem e_blkC (c : Int32) : fn_X8_isBlank c = some (bI (blk c)) := by
  unfold fn_X8_isBlank blk
  by_cases h : c = 32
  · rw [if_pos h, bI_t (Or.inl h)]
  · rw [if_neg h]
    by_cases h2 : c = 10
    · rw [if_pos h2, bI_t (Or.inr h2)]
    · rw [if_neg h2, bI_f (fun e => e.elim h h2)]
theorem e_ltrC (c : Int32) : fn_X8_isLetter c = some (bI (ltr c)) := by
  unfold fn_X8_isLetter ltr
  by_cases h : c < 97
  · rw [if_pos h, bI_f (fun e => e.1 h)]
  · rw [if_neg h]
    by_cases h2 : 122 < c
    · rw [if_pos h2, bI_f (fun e => e.2 h2)]
    · rw [if_neg h2, bI_t ⟨h, h2⟩]
theorem e_dgtC (c : Int32) : fn_X8_isDigit c = some (bI (dgt c)) := by
  unfold fn_X8_isDigit dgt
  by_cases h : c < 48
  · rw [if_pos h, bI_f (fun e => e.1 h)]
  · rw [if_neg h]
    by_cases h2 : 57 < c
    · rw [if_pos h2, bI_f (fun e => e.2 h2)]
    · rw [if_neg h2, bI_t ⟨h, h2⟩]
def TapSh (K N : Nat → Nat) (P : Nat → Nat → Option Nat) (t r : Nat) : Prop := K t = 9 ∧ P t 0 = some r ∧ K r = 12 ∧ N r = 60 ∧ r ≠ t
theorem e_tkB {K N : Nat → Nat} {A : Nat → Nat → Int32} {P : Nat → Nat → Option Nat} {t r fed p : Nat} (hT : TapSh K N P t r) (hfed : fed ≤ 60) (hp : p ≤ fed) (h1 : A t 1 = nI fed) (h6 : A t 6 = nI p) : ∃ s, fn_X8_nextToken_L8 K N t P FU A = some s ∧ (∀ a, a ≠ t → s a = A a) ∧ (∀ j, j ≠ 6 → s t j = A t j) ∧ s t 6 = nI (skp blk (A r) (fed - p) p) := by
  obtain ⟨k9, p0, kr, nr, hrt⟩ := hT
  have key := while_ok (F := fun f (_ : Nat) s => fn_X8_nextToken_L8 K N t P f s) fed (fun i s => i ≤ fed ∧ (∀ a, a ≠ t → s a = A a) ∧ (∀ j, j ≠ 6 → s t j = A t j) ∧ s t 6 = nI i ∧ skp blk (A r) (fed - i) i = skp blk (A r) (fed - p) p) (fun s => (∀ a, a ≠ t → s a = A a) ∧ (∀ j, j ≠ 6 → s t j = A t j) ∧ s t 6 = nI (skp blk (A r) (fed - p) p))
    (fun f i s hs kk => by
      simp only [fn_X8_nextToken_L8]
      obtain ⟨i0, s1, s2, s3, s4⟩ := hs
      rw [s2 1 (by decide), h1, s3]
      by_cases c : fed ≤ i
      · rw [if_pos (nI_le c (by omega))]
        refine ok_some.mpr ⟨s1, s2, ?_⟩
        rw [s3, ← s4, show fed - i = 0 by omega]; rfl
      · rw [if_neg (nI_ge (by omega) (by omega)), p0, Option.bind_some, gd_pos ⟨kr, by rw [nr]; exact vp_in_nI (by omega) (by omega)⟩, nI_clamp (by omega), s1 r hrt, e_blkC, Option.bind_some]
        rw [show fed - i = (fed - (i + 1)) + 1 by omega] at s4
        by_cases q : blk (A r i)
        · rw [bI_t q, if_neg (by decide), Option.bind_some, nI_1]
          rw [skp_t q] at s4
          exact kk _ (by omega) ⟨by omega, fun a ha => by rw [up2_o ha]; exact s1 a ha, fun j hj => by rw [up2_k hj]; exact s2 j hj, up2_s, s4⟩
        · rw [bI_f q, if_pos rfl]
          rw [skp_f q] at s4
          exact ok_some.mpr ⟨s1, s2, by rw [s3, ← s4]⟩)
    FU p A hp (FU_lt (by omega)) ⟨hp, fun _ _ => rfl, fun _ _ => rfl, h6, rfl⟩
  obtain ⟨s, h1, h2⟩ := key
  exact ⟨s, h1, h2⟩
theorem e_tkL {K N : Nat → Nat} {A : Nat → Nat → Int32} {P : Nat → Nat → Option Nat} {t r fed p : Nat} (hT : TapSh K N P t r) (hfed : fed ≤ 60) (hp : p ≤ fed) (h1 : A t 1 = nI fed) (h6 : A t 7 = nI p) : ∃ s, fn_X8_nextToken_L55 K N t P FU A = some s ∧ (∀ a, a ≠ t → s a = A a) ∧ (∀ j, j ≠ 7 → s t j = A t j) ∧ s t 7 = nI (skp ltr (A r) (fed - p) p) := by
  obtain ⟨k9, p0, kr, nr, hrt⟩ := hT
  have key := while_ok (F := fun f (_ : Nat) s => fn_X8_nextToken_L55 K N t P f s) fed (fun i s => i ≤ fed ∧ (∀ a, a ≠ t → s a = A a) ∧ (∀ j, j ≠ 7 → s t j = A t j) ∧ s t 7 = nI i ∧ skp ltr (A r) (fed - i) i = skp ltr (A r) (fed - p) p) (fun s => (∀ a, a ≠ t → s a = A a) ∧ (∀ j, j ≠ 7 → s t j = A t j) ∧ s t 7 = nI (skp ltr (A r) (fed - p) p))
    (fun f i s hs kk => by
      simp only [fn_X8_nextToken_L55]
      obtain ⟨i0, s1, s2, s3, s4⟩ := hs
      rw [s2 1 (by decide), h1, s3]
      by_cases c : fed ≤ i
      · rw [if_pos (nI_le c (by omega))]
        refine ok_some.mpr ⟨s1, s2, ?_⟩
        rw [s3, ← s4, show fed - i = 0 by omega]; rfl
      · rw [if_neg (nI_ge (by omega) (by omega)), p0, Option.bind_some, gd_pos ⟨kr, by rw [nr]; exact vp_in_nI (by omega) (by omega)⟩, nI_clamp (by omega), s1 r hrt, e_ltrC, Option.bind_some]
        rw [show fed - i = (fed - (i + 1)) + 1 by omega] at s4
        by_cases q : ltr (A r i)
        · rw [bI_t q, if_neg (by decide), Option.bind_some, nI_1]
          rw [skp_t q] at s4
          exact kk _ (by omega) ⟨by omega, fun a ha => by rw [up2_o ha]; exact s1 a ha, fun j hj => by rw [up2_k hj]; exact s2 j hj, up2_s, s4⟩
        · rw [bI_f q, if_pos rfl]
          rw [skp_f q] at s4
          exact ok_some.mpr ⟨s1, s2, by rw [s3, ← s4]⟩)
    FU p A hp (FU_lt (by omega)) ⟨hp, fun _ _ => rfl, fun _ _ => rfl, h6, rfl⟩
  obtain ⟨s, h1, h2⟩ := key
  exact ⟨s, h1, h2⟩
theorem e_tkD {K N : Nat → Nat} {A : Nat → Nat → Int32} {P : Nat → Nat → Option Nat} {t r fed p : Nat} (hT : TapSh K N P t r) (hfed : fed ≤ 60) (hp : p ≤ fed) (h1 : A t 1 = nI fed) (h6 : A t 7 = nI p) : ∃ s, fn_X8_nextToken_L106 K N t P FU A = some s ∧ (∀ a, a ≠ t → s a = A a) ∧ (∀ j, j ≠ 7 → s t j = A t j) ∧ s t 7 = nI (skp dgt (A r) (fed - p) p) := by
  obtain ⟨k9, p0, kr, nr, hrt⟩ := hT
  have key := while_ok (F := fun f (_ : Nat) s => fn_X8_nextToken_L106 K N t P f s) fed (fun i s => i ≤ fed ∧ (∀ a, a ≠ t → s a = A a) ∧ (∀ j, j ≠ 7 → s t j = A t j) ∧ s t 7 = nI i ∧ skp dgt (A r) (fed - i) i = skp dgt (A r) (fed - p) p) (fun s => (∀ a, a ≠ t → s a = A a) ∧ (∀ j, j ≠ 7 → s t j = A t j) ∧ s t 7 = nI (skp dgt (A r) (fed - p) p))
    (fun f i s hs kk => by
      simp only [fn_X8_nextToken_L106]
      obtain ⟨i0, s1, s2, s3, s4⟩ := hs
      rw [s2 1 (by decide), h1, s3]
      by_cases c : fed ≤ i
      · rw [if_pos (nI_le c (by omega))]
        refine ok_some.mpr ⟨s1, s2, ?_⟩
        rw [s3, ← s4, show fed - i = 0 by omega]; rfl
      · rw [if_neg (nI_ge (by omega) (by omega)), p0, Option.bind_some, gd_pos ⟨kr, by rw [nr]; exact vp_in_nI (by omega) (by omega)⟩, nI_clamp (by omega), s1 r hrt, e_dgtC, Option.bind_some]
        rw [show fed - i = (fed - (i + 1)) + 1 by omega] at s4
        by_cases q : dgt (A r i)
        · rw [bI_t q, if_neg (by decide), Option.bind_some, nI_1]
          rw [skp_t q] at s4
          exact kk _ (by omega) ⟨by omega, fun a ha => by rw [up2_o ha]; exact s1 a ha, fun j hj => by rw [up2_k hj]; exact s2 j hj, up2_s, s4⟩
        · rw [bI_f q, if_pos rfl]
          rw [skp_f q] at s4
          exact ok_some.mpr ⟨s1, s2, by rw [s3, ← s4]⟩)
    FU p A hp (FU_lt (by omega)) ⟨hp, fun _ _ => rfl, fun _ _ => rfl, h6, rfl⟩
  obtain ⟨s, h1, h2⟩ := key
  exact ⟨s, h1, h2⟩
noncomputable def sP (f : Nat → Int32) (fed p : Nat) : Nat := skp blk f (fed - p) p
noncomputable def eL (f : Nat → Int32) (fed s : Nat) : Nat := skp ltr f (fed - s) s
noncomputable def eD (f : Nat → Int32) (fed s : Nat) : Nat := skp dgt f (fed - s) s
noncomputable def eP (f : Nat → Int32) (fed p : Nat) : Nat := if eL f fed (sP f fed p) ≤ sP f fed p then eD f fed (sP f fed p) else eL f fed (sP f fed p)
theorem sP_ok {f : Nat → Int32} {fed p : Nat} (hp : p ≤ fed) : p ≤ sP f fed p ∧ sP f fed p ≤ fed := by
  obtain ⟨h1, h2, -, -⟩ := skp_ok blk f (fed - p) p
  unfold sP; omega
theorem eP_ok {f : Nat → Int32} {fed p : Nat} (hp : p ≤ fed) : sP f fed p ≤ eP f fed p ∧ eP f fed p ≤ fed := by
  obtain ⟨h1, h2⟩ := sP_ok (f := f) hp
  obtain ⟨g1, g2, -, -⟩ := skp_ok ltr f (fed - sP f fed p) (sP f fed p)
  obtain ⟨k1, k2, -, -⟩ := skp_ok dgt f (fed - sP f fed p) (sP f fed p)
  unfold eP eL eD
  split <;> omega
theorem e_nextC {K N : Nat → Nat} {A : Nat → Nat → Int32} {P : Nat → Nat → Option Nat} {t r fed p : Nat} (hT : TapSh K N P t r) (hfed : fed ≤ 60) (hp : p ≤ fed) (h1 : A t 1 = nI fed) (h7 : A t 7 = nI p) : ∃ s, fn_X8_nextToken K N A P t = some s ∧ (∀ a, a ≠ t → s a = A a) ∧ (∀ j, j ≠ 6 → j ≠ 7 → s t j = A t j) ∧ s t 6 = nI (sP (A r) fed p) ∧ s t 7 = nI (eP (A r) fed p) := by
  obtain ⟨k9, p0, kr, nr, hrt⟩ := id hT
  obtain ⟨hs1, hs2⟩ := sP_ok (f := A r) hp
  obtain ⟨B, hB⟩ : ∃ B, B = up2 A t 6 (nI p) := ⟨_, rfl⟩
  obtain ⟨C, c1, c2, c3, c4⟩ := e_tkB (A := B) (p := p) hT hfed hp (by rw [hB, up2_k (by decide)]; exact h1) (by rw [hB, up2_s])
  have Br : B r = A r := by rw [hB, up2_o hrt]
  rw [Br] at c4
  have c4 : C t 6 = nI (sP (A r) fed p) := c4
  have Bt : ∀ j, j ≠ 6 → B t j = A t j := fun j hj => by rw [hB, up2_k hj]
  have Ba : ∀ a, a ≠ t → B a = A a := fun a ha => by rw [hB, up2_o ha]
  obtain ⟨D, hD⟩ : ∃ D, D = up2 C t 7 (nI (sP (A r) fed p)) := ⟨_, rfl⟩
  have Dt : ∀ j, j ≠ 7 → D t j = C t j := fun j hj => by rw [hD, up2_k hj]
  have Da : ∀ a, a ≠ t → D a = A a := fun a ha => by rw [hD, up2_o ha, c2 a ha, Ba a ha]
  have D1 : D t 1 = nI fed := by rw [Dt 1 (by decide), c3 1 (by decide), Bt 1 (by decide)]; exact h1
  obtain ⟨E, e1, e2, e3, e4⟩ := e_tkL (A := D) (p := sP (A r) fed p) hT hfed hs2 D1 (by rw [hD, up2_s])
  rw [Da r hrt] at e4
  have e4 : E t 7 = nI (eL (A r) fed (sP (A r) fed p)) := e4
  have E6 : E t 6 = nI (sP (A r) fed p) := by rw [e3 6 (by decide), Dt 6 (by decide)]; exact c4
  obtain ⟨g1, g2, -, -⟩ := skp_ok ltr (A r) (fed - sP (A r) fed p) (sP (A r) fed p)
  have g1 : sP (A r) fed p ≤ eL (A r) fed (sP (A r) fed p) := g1
  have g2 : eL (A r) fed (sP (A r) fed p) ≤ fed := by show skp _ _ _ _ ≤ _; omega
  have front : ∀ X, (if E t 7 ≤ E t 6 then (Option.bind (fn_X8_nextToken_L106 K N t P FU E) (fun r22 => some r22)) else some E) = X → fn_X8_nextToken K N A P t = X := by
    intro X hX
    unfold fn_X8_nextToken
    rw [gd_pos k9, h7, Option.bind_some, ← hB, c1, Option.bind_some, c4, Option.bind_some, ← hD, e1, Option.bind_some]
    exact hX
  by_cases c : eL (A r) fed (sP (A r) fed p) ≤ sP (A r) fed p
  · have E7 : E t 7 = nI (sP (A r) fed p) := by rw [e4]; congr 1; omega
    obtain ⟨F, f1, f2, f3, f4⟩ := e_tkD (A := E) (p := sP (A r) fed p) hT hfed hs2 (by rw [e3 1 (by decide)]; exact D1) E7
    rw [e2 r hrt, Da r hrt] at f4
    refine ⟨F, front _ (by rw [E7, E6, if_pos (nI_le (Nat.le_refl _) (by omega)), f1, Option.bind_some]), fun a ha => by rw [f2 a ha, e2 a ha, Da a ha], fun j h6 h7 => by rw [f3 j h7, e3 j h7, Dt j h7, c3 j h6, Bt j h6], by rw [f3 6 (by decide)]; exact E6, ?_⟩
    rw [f4]; unfold eP; rw [if_pos c]; rfl
  · refine ⟨E, front _ (by rw [e4, E6, if_neg (nI_ge (by omega) (by omega))]), fun a ha => by rw [e2 a ha, Da a ha], fun j h6 h7 => by rw [e3 j h7, Dt j h7, c3 j h6, Bt j h6], E6, ?_⟩
    rw [e4]; unfold eP; rw [if_neg c]
