/-! touch, the method -/
theorem sq_le {x : Int} {n : Int} (h1 : -n ≤ x) (h2 : x ≤ n) : x * x ≤ n * n ∧ 0 ≤ x * x := by
  have a := Int.mul_nonneg (show 0 ≤ n - x by omega) (show 0 ≤ n + x by omega)
  have e : (n - x) * (n + x) = n * n - x * x := by
    rw [Int.sub_mul, Int.mul_add, Int.mul_add, Int.mul_comm x n]
    omega
  refine ⟨by omega, ?_⟩
  rcases Int.le_total 0 x with h | h
  · exact Int.mul_nonneg h h
  · exact Int.mul_nonneg_of_nonpos_of_nonpos h h
/-- the square of what lies between -/
theorem e_far {dx dy : Int32} (h1 : -15 ≤ dx.toInt) (h2 : dx.toInt ≤ 15) (h3 : -11 ≤ dy.toInt) (h4 : dy.toInt ≤ 11) : dx * dx + dy * dy = nI (dx.toInt * dx.toInt + dy.toInt * dy.toInt).toNat ∧ (dx.toInt * dx.toInt + dy.toInt * dy.toInt).toNat < 361 := by
  obtain ⟨a1, a2⟩ := sq_le h1 h2
  obtain ⟨b1, b2⟩ := sq_le h3 h4
  have e1 : (dx * dx).toInt = dx.toInt * dx.toInt := t_mul (by omega) (by omega)
  have e2 : (dy * dy).toInt = dy.toInt * dy.toInt := t_mul (by omega) (by omega)
  have e3 : (dx * dx + dy * dy).toInt = (dx * dx).toInt + (dy * dy).toInt := t_add (by omega) (by omega)
  refine ⟨?_, by omega⟩
  rw [← Int32.toInt_inj, e3, e1, e2, nI_toInt (by omega)]
  omega
theorem q_touch {K N : Nat → Nat} {b : Nat} : sp_touch (Rel K N b) b K N := by
  intro I P x1 x2 hR
  have hR0 := hR
  obtain ⟨⟨hroot, hp1, hp53, hmod⟩, ⟨cnt, kp, al, σ, τ, hpic⟩, himg, ⟨fed, htape⟩, hsheets⟩ := hR
  have hpic : PicR I P (b + 1) (I (b + 126 + 1)) cnt kp al σ τ := hpic
  have hpic0 := hpic
  obtain ⟨⟨hcnt, hkp, hal⟩, ⟨hσ, hτ, hlay, hact⟩, ⟨hc1, hg0⟩, ⟨hpap, hpap2⟩, hbr, hlays, hmask, ⟨ha1, ha2, ha3, ha4⟩, hacts⟩ := hpic
  obtain ⟨⟨kb, pb0, pb1, pb3, pb4, pb5, pb6, pb7⟩, hrt, hrs, hrc, hrth, hrl⟩ := id hroot
  obtain ⟨⟨k7, k15, n4, k6, k13, n192, k3, k2, k14, n11⟩, ⟨pp0, pp3, pp4, pp5, pm0, pa0⟩, hacsh, hlash⟩ := id hp1
  have km := hmod.1.1
  have pm := hmod.2.2.1
  suffices h : ∃ r, fn_X9_touch K N I P b x1 x2 = some r ∧ fn_X10_touch K N I P (b + 126) x1 x2 = some r by
    obtain ⟨r, h1, h2⟩ := h
    exact ⟨r, h1, r, h2, rfl, hR0⟩
  have c1 := isWithin_bI x1 (-9) 9
  have c2 := isWithin_bI x2 (-9) 9
  have d1 : fn_X10_isIn x1 (-9) 9 = _ := c1
  have d2 : fn_X10_isIn x2 (-9) 9 = _ := c2
  by_cases h1 : -9 ≤ x1 ∧ x1 ≤ 9
  · rw [bI_t h1] at c1 d1
    by_cases h2 : -9 ≤ x2 ∧ x2 ≤ 9
    · rw [bI_t h2] at c2 d2
      have m9 : (-9 : Int32).toInt = -9 := rfl
      have p9 : (9 : Int32).toInt = 9 := rfl
      rw [Int32.le_iff_toInt_le, Int32.le_iff_toInt_le, m9, p9] at h1 h2
      obtain ⟨f1, f2⟩ := e_far (dx := x1) (dy := x2) (by omega) (by omega) (by omega) (by omega)
      obtain ⟨v, w1, w2, -, -⟩ := e_cover (q := b + 1 + 4) (m := b + 126) k3 hmod hbr.1.1 hbr.1.2.1 hbr.1.2.2.2 hbr.2.1 hbr.2.2.1 hbr.2.2.2.2 f2 f1
      exact ⟨v, by simp [fn_X9_touch, c1, c2, gd_pos kb, pb0, gd_pos k7, pp4, w1, gd_pos k3], by simp [fn_X10_touch, d1, d2, w2, gd_pos km]⟩
    · rw [bI_f h2] at c2 d2
      exact ⟨-2, by simp [fn_X9_touch, c1, c2], by simp [fn_X10_touch, d1, d2]⟩
  · rw [bI_f h1] at c1 d1
    exact ⟨-2, by simp [fn_X9_touch, c1], by simp [fn_X10_touch, d1]⟩
