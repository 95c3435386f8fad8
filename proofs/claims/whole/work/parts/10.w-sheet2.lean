/-! sheet -/
theorem three {x : Int32} (h : -1 ≤ x ∧ x ≤ 1) : x = -1 ∨ x = 0 ∨ x = 1 := by
  have m1 : (-1 : Int32).toInt = -1 := rfl
  have z0 : (0 : Int32).toInt = 0 := rfl
  have p1 : (1 : Int32).toInt = 1 := rfl
  rw [Int32.le_iff_toInt_le, Int32.le_iff_toInt_le, m1, p1] at h
  rw [← Int32.toInt_inj, ← Int32.toInt_inj, ← Int32.toInt_inj, m1, z0, p1]
  omega
theorem upto40 {x : Int32} (h : x ≤ 40) (h0 : 0 ≤ x) : ∃ n, n ≤ 40 ∧ x = nI n := by
  have z0 : (0 : Int32).toInt = 0 := rfl
  have p1 : (40 : Int32).toInt = 40 := rfl
  rw [Int32.le_iff_toInt_le, p1] at h
  rw [Int32.le_iff_toInt_le, z0] at h0
  obtain ⟨j, hj, e⟩ := (inR_iff (x := x) (n := 41) (by decide)).mpr ⟨h0, by omega⟩
  exact ⟨j, by omega, e⟩
set_option maxHeartbeats 4000000 in
theorem q_sheet {K N : Nat → Nat} {b : Nat} : sp_sheet (Rel K N b) b K N := by
  intro I P x1 x2 x3 hR
  have hR0 := hR
  obtain ⟨⟨hroot, hp1, hp53, hmod⟩, ⟨cnt, kp, al, σ, τ, hpic⟩, himg, ⟨fed, htape⟩, hsheets⟩ := hR
  have hpic : PicR I P (b + 1) (I (b + 126 + 1)) cnt kp al σ τ := hpic
  have hpic0 := hpic
  obtain ⟨⟨hcnt, hkp, hal⟩, ⟨hσ, hτ, hlay, hact⟩, ⟨hc1, hg0⟩, ⟨hpap, hpap2⟩, hbr, hlays, hmask, ⟨ha1, ha2, ha3, ha4⟩, hacts⟩ := hpic
  obtain ⟨⟨kb, pb0, pb1, pb3, pb4, pb5, pb6, pb7⟩, hrt, hrs, hrc, hrth, hrl⟩ := id hroot
  obtain ⟨⟨k7, k15, n4, k6, k13, n192, k3, k2, k14, n11⟩, ⟨pp0, pp3, pp4, pp5, pm0, pa0⟩, hacsh, hlash⟩ := id hp1
  have km := hmod.1.1
  have pm := hmod.2.2.1
  have c1 := e_isSheet x1
  have d1 := e_isSheet' x1
  have c2 := isWithin_bI x2 (-1) 1
  have d2 : fn_X10_isIn x2 (-1) 1 = _ := c2
  by_cases h1 : inR x1 4
  · rw [bI_t h1] at c1 d1
    obtain ⟨i, hi, rfl⟩ := h1
    by_cases h2 : -1 ≤ x2 ∧ x2 ≤ 1
    · rw [bI_t h2] at c2 d2
      have ht := three h2
      have g1 : K (b + 109) = 16 ∧ vp_in (nI i) (N (b + 109)) := ⟨hrs.1, by rw [hrs.2.1]; exact vp_in_nI hi (by decide)⟩
      have g2 : P (b + 109) (nI i).toNatClampNeg = some (b + 110 + 2 * i) := by rw [nI_clamp (by omega)]; exact (hrs.2.2 i hi).1
      have k8 := (hrs.2.2 i hi).2.1
      have p21 : P (b + 126) 21 = some (b + 126 + 10) := hmod.2.2.2.2.2.2.2.2.2.2.2.1
      have p20 : P (b + 126) 20 = some (b + 126 + 9) := hmod.2.2.2.2.2.2.2.2.2.2.1
      have k9 : K (b + 126 + 9) = 12 ∧ vp_in (nI i) (N (b + 126 + 9)) := ⟨hmod.1.2.2.2.2.2.2.2.2.2.1, by rw [hmod.2.1.2.2.2.2.2.2.2.2.1]; exact vp_in_nI hi (by decide)⟩
      have k10 : K (b + 126 + 10) = 12 ∧ vp_in (nI i) (N (b + 126 + 10)) := ⟨hmod.1.2.2.2.2.2.2.2.2.2.2.1, by rw [hmod.2.1.2.2.2.2.2.2.2.2.2.1]; exact vp_in_nI hi (by decide)⟩
      by_cases hm : x2 = -1
      · subst hm
        obtain ⟨I1, w1, I2, w2, w3⟩ := e_newSheet I P i 0 (-1) hR0 hi (by omega) (Or.inl rfl) (fun _ => rfl)
        have w1 : fn_X7_become K N I P (b + 110 + 2 * i) (-1) 0 = some I1 := w1
        have w2 : fn_X10_sheet_L68 K N (b + 126) (nI i) P FU 0 (up2 (up2 I1 (b + 126 + 9) i (-1)) (b + 126 + 10) i 0) = some I2 := w2
        refine ⟨(1, I1), ?_, (1, I2), ?_, rfl, w3⟩
        · simp [fn_X9_sheet, c1, c2, gd_pos kb, pb4, gd_pos g1, g2, w1, gd_pos k8]
        · simp [fn_X10_sheet, d1, d2, gd_pos km, p20, p21, gd_pos k9, gd_pos k10, nI_clamp (show i < 2 ^ 31 by omega), w2]
      · by_cases h3 : x3 ≤ 40
        · by_cases h0 : 0 ≤ x3
          · obtain ⟨n, hn, rfl⟩ := upto40 h3 h0
            obtain ⟨I1, w1, I2, w2, w3⟩ := e_newSheet I P i n x2 hR0 hi hn ht (fun e => absurd e hm)
            refine ⟨(1, I1), ?_, (1, I2), ?_, rfl, w3⟩
            · simp [fn_X9_sheet, c1, c2, hm, h3, h0, gd_pos kb, pb4, gd_pos g1, g2, w1, gd_pos k8]
            · simp [fn_X10_sheet, d1, d2, hm, h3, h0, gd_pos km, p20, p21, gd_pos k9, gd_pos k10, nI_clamp (show i < 2 ^ 31 by omega), w2]
          · exact ⟨(-14, I), by simp [fn_X9_sheet, c1, c2, hm, h3, h0], (-14, I), by simp [fn_X10_sheet, d1, d2, hm, h3, h0], rfl, hR0⟩
        · exact ⟨(-2, I), by simp [fn_X9_sheet, c1, c2, hm, h3], (-2, I), by simp [fn_X10_sheet, d1, d2, hm, h3], rfl, hR0⟩
    · rw [bI_f h2] at c2 d2
      exact ⟨(-2, I), by simp [fn_X9_sheet, c1, c2], (-2, I), by simp [fn_X10_sheet, d1, d2], rfl, hR0⟩
  · rw [bI_f h1] at c1 d1
    exact ⟨(-2, I), by simp [fn_X9_sheet, c1], (-2, I), by simp [fn_X10_sheet, d1], rfl, hR0⟩
