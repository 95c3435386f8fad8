/-! put -/
theorem e_isInTop {n : Nat} (hn : n ≤ 40) (x : Int32) : fn_X10_isIn x 0 (nI n - 1) = some (bI (inR x n)) := by
  by_cases h0 : n = 0
  · subst h0
    rw [isIn_eq, isWithin_bI]
    congr 1
    rw [bI_f (fun h => by
      have h1 := Int32.le_iff_toInt_le.mp h.1
      have h2 := Int32.le_iff_toInt_le.mp h.2
      have e1 : (nI 0 - 1 : Int32).toInt = -1 := rfl
      have e0 : (0 : Int32).toInt = 0 := rfl
      omega), bI_f (fun ⟨j, hj, _⟩ => absurd hj (by omega))]
  · have e1 : nI n - 1 = nI (n - 1) := pk_sub (a := n) (b := 1) (by omega)
    rw [e1]
    exact isIn_nI (by omega) (by omega)
theorem e_wrong {K N : Nat → Nat} {I : Nat → Nat → Int32} {P : Nat → Nat → Option Nat} {m : Nat} (hM : ModSh K N P m) (x : Int32) : (∀ i, i < 4 → x = nI i → fn_X10_wrong K N I P m x = some (if I (m + 9) i = -1 then -11 else 0)) ∧ (¬ inR x 4 → fn_X10_wrong K N I P m x = some (-2)) := by
  have k9 : K (m + 9) = 12 := hM.1.2.2.2.2.2.2.2.2.2.1
  have n9 : N (m + 9) = 4 := hM.2.1.2.2.2.2.2.2.2.2.1
  have p9 : P m 20 = some (m + 9) := hM.2.2.2.2.2.2.2.2.2.2.1
  refine ⟨fun i hi e => ?_, fun h => ?_⟩
  · unfold fn_X10_wrong
    rw [e_isSheet', bI_t ⟨i, hi, e⟩, Option.bind_some, if_neg (by decide), gd_pos hM.1.1, p9, Option.bind_some, e, gd_pos ⟨k9, by rw [n9]; exact vp_in_nI hi (by decide)⟩, nI_clamp (by omega)]
    split <;> rfl
  · unfold fn_X10_wrong
    rw [e_isSheet', bI_f h, Option.bind_some, if_pos rfl]
