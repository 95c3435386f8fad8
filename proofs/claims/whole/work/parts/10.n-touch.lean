/-! touch -/
theorem inR_ite {c : Prop} [Decidable c] {a b : Int32} {n : Nat} (h : inR a n) (h' : inR b n) : inR (if c then a else b) n := by
  by_cases k : c
  · rw [if_pos k]; exact h
  · rw [if_neg k]; exact h'
set_option maxHeartbeats 4000000 in
theorem e_cover {K N : Nat → Nat} {I : Nat → Nat → Int32} {P : Nat → Nat → Option Nat} {q m : Nat} (hk : K q = 3) (hM : ModSh K N P m) (h2 : I q 0 = I (m + 1) 2) (h3 : I q 1 = I (m + 1) 3) (h5 : I q 3 = I (m + 1) 5) (i2 : inR (I (m + 1) 2) 5) (i3 : inR (I (m + 1) 3) 5) (i5 : inR (I (m + 1) 5) 10) {dx dy : Int32} {f : Nat} (hf : f < 361) (hd : dx * dx + dy * dy = nI f) : ∃ v, fn_X2_coverAt K N I P q dx dy = some v ∧ fn_X10_touched K N I P m dx dy = some v ∧ inR v 256 ∧ ∀ r : Nat, r < 5 → I (m + 1) 3 = nI r → r * r < f → (nI r < (if 0 ≤ dx then dx else 0 - dx) ∨ nI r < (if 0 ≤ dy then dy else 0 - dy)) → v = 0 := by
  obtain ⟨r, hr, er⟩ := i3
  obtain ⟨w, hw, ew⟩ := i5
  rw [er] at h3
  rw [ew] at h5
  have km := hM.1.1
  have pm := hM.2.2.1
  have v2 : K (m + 1) = 12 ∧ vp_in 2 (N (m + 1)) := vp_g hM (j := 2) (by decide)
  have v3 : K (m + 1) = 12 ∧ vp_in 3 (N (m + 1)) := vp_g hM (j := 3) (by decide)
  have v5 : K (m + 1) = 12 ∧ vp_in 5 (N (m + 1)) := vp_g hM (j := 5) (by decide)
  have hrr : nI r * nI r = nI (r * r) := pk_mul r r
  have hrr1 : nI (r * r) + 1 = nI (r * r + 1) := nI_1 _
  have hsq : r * r ≤ 16 := Nat.mul_le_mul (show r ≤ 4 by omega) (show r ≤ 4 by omega)
  have hj : (if nI (r * r) < nI f then (some 0 : Option Int32) else some 255) = some (if r * r < f then 0 else 255) := by
    by_cases hlt : r * r < f
    · rw [if_pos (show nI (r * r) < nI f by rw [Int32.lt_iff_toInt_lt, nI_toInt (by omega), nI_toInt (by omega)]; omega), if_pos hlt]
    · rw [if_neg (show ¬ nI (r * r) < nI f by rw [Int32.lt_iff_toInt_lt, nI_toInt (by omega), nI_toInt (by omega)]; omega), if_neg hlt]
  have hround : fn_X2_round K N I P q dx dy = some (if r * r < f then 0 else 255) := by
    unfold fn_X2_round
    rw [gd_pos hk, h3, hrr, hd, hj]
  obtain ⟨s1, s2, s3, s4, s5⟩ := e_soft hr hf
  have hsoft : fn_X2_soft K N I P q dx dy = some (softV r f) := by
    unfold fn_X2_soft
    rw [Option.bind_some, gd_pos hk, h3, hrr, hrr1, hd, Option.bind_some, hround, Option.bind_some, gd_pos s1, gd_pos s2, gd_pos s3]
    rfl
  have hsqr : fn_X2_square K N I P q dx dy = some (if nI r < (if 0 ≤ dx then dx else 0 - dx) ∨ nI r < (if 0 ≤ dy then dy else 0 - dy) then 0 else 255) := by
    unfold fn_X2_square
    rw [gd_pos hk, h3]
    by_cases a : nI r < (if 0 ≤ dx then dx else 0 - dx)
    · rw [if_pos a, if_pos (Or.inl a)]
    · rw [if_neg a]
      by_cases c : nI r < (if 0 ≤ dy then dy else 0 - dy)
      · rw [if_pos c, if_pos (Or.inr c)]
      · rw [if_neg c, if_neg (fun h => h.elim a c)]
  have i255 : inR (255 : Int32) 256 := ⟨255, by decide, rfl⟩
  have i0 : inR (0 : Int32) 256 := ⟨0, by decide, rfl⟩
  have hrr' : ∀ r' : Nat, r' < 5 → I (m + 1) 3 = nI r' → r' = r := fun r' h e => by
    rw [er] at e
    exact ((nI_eq (by omega) (by omega)).mp e).symm
  have i2' : I (m + 1) 2 = 0 ∨ I (m + 1) 2 = 1 ∨ I (m + 1) 2 = 2 ∨ I (m + 1) 2 = 3 ∨ I (m + 1) 2 = 4 := by
    obtain ⟨j, hj, e⟩ := i2
    have : j = 0 ∨ j = 1 ∨ j = 2 ∨ j = 3 ∨ j = 4 := by omega
    rcases this with h | h | h | h | h <;> subst h <;> rw [e]
    · exact Or.inl rfl
    · exact Or.inr (Or.inl rfl)
    · exact Or.inr (Or.inr (Or.inl rfl))
    · exact Or.inr (Or.inr (Or.inr (Or.inl rfl)))
    · exact Or.inr (Or.inr (Or.inr (Or.inr rfl)))
  rcases i2' with e | e | e | e | e
  · refine ⟨if r * r < f then 0 else 255, ?_, ?_, ?_, ?_⟩
    · simp [fn_X2_coverAt, gd_pos hk, h2, e, hround]
    · simp [fn_X10_touched, gd_pos km, pm, gd_pos v2, gd_pos v3, e, er, hrr, hd, hj]
    · split
      · exact i0
      · exact i255
    · intro r' h1 h2 h3 _
      rw [hrr' r' h1 h2] at h3
      rw [if_pos h3]
  · refine ⟨softV r f, ?_, ?_, s4, ?_⟩
    · simp [fn_X2_coverAt, gd_pos hk, h2, e, hsoft]
    · simp [fn_X10_touched, gd_pos km, pm, gd_pos v2, gd_pos v3, e, er, hrr, hrr1, hd, hj, gd_pos s1, gd_pos s2, gd_pos s3]
      rfl
    · intro r' h1 h2 h3 _
      rw [hrr' r' h1 h2] at h3
      exact s5 h3
  · refine ⟨if nI r < (if 0 ≤ dx then dx else 0 - dx) ∨ nI r < (if 0 ≤ dy then dy else 0 - dy) then 0 else 255, ?_, ?_, ?_, ?_⟩
    · simp only [fn_X2_coverAt]
      rw [gd_pos hk, h2, e, if_neg (by decide), if_pos rfl, hsqr, Option.bind_some]
    · simp only [fn_X10_touched]
      rw [gd_pos km, pm, Option.bind_some, gd_pos v3, Option.bind_some, Option.bind_some, gd_pos v2, e, er, if_pos rfl]
      by_cases a : nI r < (if 0 ≤ dx then dx else 0 - dx)
      · rw [if_pos a, if_pos (Or.inl a)]; rfl
      · rw [if_neg a]
        by_cases c : nI r < (if 0 ≤ dy then dy else 0 - dy)
        · rw [if_pos c, if_pos (Or.inr c)]; rfl
        · rw [if_neg c, if_pos rfl, if_neg (show ¬ (nI r < (if 0 ≤ dx then dx else 0 - dx) ∨ nI r < (if 0 ≤ dy then dy else 0 - dy)) from fun h => h.elim a c)]; rfl
    · exact inR_ite i0 i255
    · intro r' h1 h2 h3 h4
      rw [hrr' r' h1 h2] at h4
      rw [if_pos h4]
  · obtain ⟨s, hs, es⟩ := id s4
    obtain ⟨a1, a2, a3, a4⟩ := e_air hs hw
    refine ⟨airV s w, ?_, ?_, a3, ?_⟩
    · simp [fn_X2_coverAt, gd_pos hk, h2, e, hsoft, h5, es, gd_pos a1, gd_pos a2]
      rfl
    · have es' : FP.f2i (FP.fmul (FP.i2f (if r * r < f then 0 else 255)) (FP.fsub FP.fconst1 (FP.fdiv (FP.i2f (nI f)) (FP.i2f (nI (r * r + 1)))))) = nI s := es
      simp [fn_X10_touched, gd_pos km, pm, gd_pos v2, gd_pos v3, gd_pos v5, e, er, ew, hrr, hrr1, hd, hj, gd_pos s1, gd_pos s2, gd_pos s3, es', gd_pos a1, gd_pos a2]
      rfl
    · intro r' h1 h2 h3 _
      rw [hrr' r' h1 h2] at h3
      refine a4 ?_
      have := s5 h3
      rw [es] at this
      exact (nI_eq (by omega) (by omega)).mp this
  · refine ⟨if dx = 0 ∨ dy = 0 then (if nI r < (if 0 ≤ dx then dx else 0 - dx) ∨ nI r < (if 0 ≤ dy then dy else 0 - dy) then 0 else 255) else 0, ?_, ?_, ?_, ?_⟩
    · simp only [fn_X2_coverAt]
      rw [gd_pos hk, h2, e, if_neg (by decide), if_neg (by decide), if_neg (by decide), if_pos rfl, hsqr, Option.bind_some]
      by_cases x0 : dx = 0
      · rw [if_pos x0, if_pos (Or.inl x0)]
      · rw [if_neg x0]
        by_cases y0 : dy = 0
        · rw [if_pos y0, if_pos (Or.inr y0)]
        · rw [if_neg y0, if_neg (fun h => h.elim x0 y0)]
    · simp only [fn_X10_touched]
      rw [gd_pos km, pm, Option.bind_some, gd_pos v3, Option.bind_some, Option.bind_some, gd_pos v2, e, er, if_neg (show ¬ (4 : Int32) = 2 by decide), if_pos rfl]
      by_cases a : nI r < (if 0 ≤ dx then dx else 0 - dx)
      · rw [if_pos a, if_pos (Or.inl a)]
        split <;> rfl
      · rw [if_neg a]
        by_cases c : nI r < (if 0 ≤ dy then dy else 0 - dy)
        · rw [if_pos c, if_pos (Or.inr c)]
          split <;> rfl
        · rw [if_neg c, if_neg (show ¬ (4 : Int32) = 2 by decide), if_neg (show ¬ (nI r < (if 0 ≤ dx then dx else 0 - dx) ∨ nI r < (if 0 ≤ dy then dy else 0 - dy)) from fun h => h.elim a c)]
          by_cases x0 : dx = 0
          · rw [if_pos x0, if_pos (Or.inl x0)]; rfl
          · rw [if_neg x0]
            by_cases y0 : dy = 0
            · rw [if_pos y0, if_pos (Or.inr y0)]; rfl
            · rw [if_neg y0, if_neg (fun h => h.elim x0 y0)]; rfl
    · exact inR_ite (inR_ite i0 i255) i0
    · intro r' h1 h2 h3 h4
      rw [hrr' r' h1 h2] at h4
      rw [if_pos h4]
      split <;> rfl
