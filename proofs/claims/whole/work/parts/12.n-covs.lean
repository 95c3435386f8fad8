/-! the cover of a stamp's dots -/
theorem ab_lt {a x r : Nat} (ha : a < 2 ^ 20) (hx : x < 2 ^ 20) (hr : r < 2 ^ 20) (h : a + r < x ∨ x + r < a) : nI r < (if 0 ≤ nI a - nI x then nI a - nI x else 0 - (nI a - nI x)) := by
  have e : (nI a - nI x).toInt = (a : Int) - x := by rw [t_sub (by rw [nI_toInt (by omega), nI_toInt (by omega)]; omega) (by rw [nI_toInt (by omega), nI_toInt (by omega)]; omega), nI_toInt (by omega), nI_toInt (by omega)]
  have z0 : (0 : Int32).toInt = 0 := rfl
  by_cases c : 0 ≤ nI a - nI x
  · rw [if_pos c]
    rw [Int32.le_iff_toInt_le, e, z0] at c
    rw [Int32.lt_iff_toInt_lt, e, nI_toInt (by omega)]; omega
  · rw [if_neg c]
    rw [Int32.le_iff_toInt_le, e, z0] at c
    have e2 : (0 - (nI a - nI x)).toInt = 0 - (nI a - nI x).toInt := t_sub (by rw [e, z0]; omega) (by rw [e, z0]; omega)
    rw [Int32.lt_iff_toInt_lt, e2, e, nI_toInt (by omega)]; omega
theorem sq_gt {X : Int} {r : Nat} (h : (r : Int) < X ∨ X < -(r : Int)) : (r : Int) * r < X * X := by
  have key : ∀ Z : Int, (r : Int) + 1 ≤ Z → (r : Int) * r < Z * Z := fun Z hz => by
    have h1 : ((r : Int) + 1) * ((r : Int) + 1) ≤ Z * Z := Int.mul_le_mul hz hz (by omega) (by omega)
    have h2 : ((r : Int) + 1) * ((r : Int) + 1) = (r : Int) * r + r + r + 1 := by
      rw [Int.add_mul, Int.mul_add, Int.one_mul, Int.mul_one]; omega
    omega
  rcases h with h | h
  · exact key X (by omega)
  · have := key (-X) (by omega)
    rwa [Int.neg_mul_neg] at this
noncomputable def covD (K N : Nat → Nat) (I : Nat → Nat → Int32) (P : Nat → Nat → Option Nat) (m x y d : Nat) : Int32 := (fn_X10_touched K N I P m (nI (d % 16) - nI x) (nI (d / 16) - nI y)).getD 0
theorem e_covs {K N : Nat → Nat} {I : Nat → Nat → Int32} {P : Nat → Nat → Option Nat} {c m x y r : Nat} (k3 : K (c + 4) = 3) (hM : ModSh K N P m) (hbr : BrR I c (I (m + 1))) (hx : x < 16) (hy : y < 12) (hr : r < 5) (er : I (m + 1) 3 = nI r) : ∀ d, d < 192 → inR (covD K N I P m x y d) 256 ∧ (∀ z : Nat → Nat → Int32, z (c + 4) = I (c + 4) → z (m + 1) = I (m + 1) → fn_X2_coverAt K N z P (c + 4) (nI (d % 16) - nI x) (nI (d / 16) - nI y) = some (covD K N I P m x y d)) ∧ (∀ (z : Nat → Nat → Int32) (P' : Nat → Nat → Option Nat), P' m = P m → z (m + 1) 2 = I (m + 1) 2 → z (m + 1) 3 = I (m + 1) 3 → z (m + 1) 5 = I (m + 1) 5 → fn_X10_touched K N z P' m (nI (d % 16) - nI x) (nI (d / 16) - nI y) = some (covD K N I P m x y d)) ∧ ((d % 16 + r < x ∨ x + r < d % 16 ∨ d / 16 + r < y ∨ y + r < d / 16) → covD K N I P m x y d = 0) := by
  intro d hd
  obtain ⟨⟨b0, b1, b2, b3⟩, i2, i3, -, i5⟩ := hbr
  have ex : (nI (d % 16) - nI x).toInt = ((d % 16 : Nat) : Int) - x := by rw [t_sub (by rw [nI_toInt (by omega), nI_toInt (by omega)]; omega) (by rw [nI_toInt (by omega), nI_toInt (by omega)]; omega), nI_toInt (by omega), nI_toInt (by omega)]
  have ey : (nI (d / 16) - nI y).toInt = ((d / 16 : Nat) : Int) - y := by rw [t_sub (by rw [nI_toInt (by omega), nI_toInt (by omega)]; omega) (by rw [nI_toInt (by omega), nI_toInt (by omega)]; omega), nI_toInt (by omega), nI_toInt (by omega)]
  obtain ⟨f1, f2⟩ := e_far (dx := nI (d % 16) - nI x) (dy := nI (d / 16) - nI y) (by omega) (by omega) (by omega) (by omega)
  have C := fun (z : Nat → Nat → Int32) (hz : z (c + 4) = I (c + 4)) (hz2 : z (m + 1) = I (m + 1)) => e_cover (I := z) (P := P) (q := c + 4) (m := m) k3 hM (by rw [hz, hz2]; exact b0) (by rw [hz, hz2]; exact b1) (by rw [hz, hz2]; exact b3) (by rw [hz2]; exact i2) (by rw [hz2]; exact i3) (by rw [hz2]; exact i5) f2 f1
  obtain ⟨v, v1, v2, v3, v4⟩ := C I rfl rfl
  have hv : covD K N I P m x y d = v := by unfold covD; rw [v2]; rfl
  rw [hv]
  refine ⟨v3, fun z hz hz2 => ?_, fun z P' hP h2 h3 h5 => by rw [touched_cong hM.2.2.1 hP h2 h3 h5]; exact v2, fun h => ?_⟩
  · obtain ⟨w, w1, w2, -, -⟩ := C z hz hz2
    rw [touched_cong (s := z) (I := I) hM.2.2.1 rfl (by rw [hz2]) (by rw [hz2]) (by rw [hz2]), v2] at w2
    injection w2 with w2
    rw [w1, w2]
  · have hX0 := (sq_le (x := ((d % 16 : Nat) : Int) - x) (n := 15) (by omega) (by omega)).2
    have hY0 := (sq_le (x := ((d / 16 : Nat) : Int) - y) (n := 11) (by omega) (by omega)).2
    have hcast : ((r * r : Nat) : Int) = (r : Int) * r := Int.natCast_mul r r
    refine v4 r hr er ?_ ?_
    · rw [ex, ey]
      by_cases c : d % 16 + r < x ∨ x + r < d % 16
      · have := sq_gt (X := ((d % 16 : Nat) : Int) - x) (r := r) (by omega)
        omega
      · have := sq_gt (X := ((d / 16 : Nat) : Int) - y) (r := r) (by omega)
        omega
    · by_cases c : d % 16 + r < x ∨ x + r < d % 16
      · exact Or.inl (ab_lt (by omega) (by omega) (by omega) c)
      · exact Or.inr (ab_lt (by omega) (by omega) (by omega) (by omega))
