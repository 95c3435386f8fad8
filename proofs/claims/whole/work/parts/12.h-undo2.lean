/-! undo, the method -/
set_option maxHeartbeats 4000000 in
theorem q_undo {K N : Nat → Nat} {b : Nat} : sp_undo (Rel K N b) b K N := by
  intro I P x1 hR
  have hR0 := hR
  obtain ⟨⟨hroot, hp1, hp53, hmod⟩, ⟨cnt, kp, al, σ, τ, hpic⟩, himg, ⟨fed, htape⟩, hsheets⟩ := hR
  have hpic : PicR I P (b + 1) (I (b + 126 + 1)) cnt kp al σ τ := hpic
  have hpic0 := hpic
  obtain ⟨⟨hcnt, hkp, hal⟩, ⟨hσ, hτ, hlay, hact⟩, ⟨hc1, hg0⟩, ⟨hpap, hpap2⟩, hbr, hlays, hmask, ⟨ha1, ha2, ha3, ha4⟩, hacts⟩ := hpic
  obtain ⟨⟨kb, pb0, pb1, pb3, pb4, pb5, pb6, pb7⟩, hrt, hrs, hrc, hrth, hrl⟩ := id hroot
  obtain ⟨⟨k7, k15, n4, k6, k13, n192, k3, k2, k14, n11⟩, ⟨pp0, pp3, pp4, pp5, pm0, pa0⟩, hacsh, hlash⟩ := id hp1
  have km := hmod.1.1
  have pm := hmod.2.2.1
  have d1 : fn_X10_isIn x1 0 1 = some (bI (inR x1 2)) := isIn_nI (n := 2) (by decide) (by decide)
  have v6 : K (b + 126 + 1) = 12 ∧ vp_in (6 : Int32) (N (b + 126 + 1)) := vp_g hmod (j := 6) (by decide)
  have v7 : K (b + 126 + 1) = 12 ∧ vp_in (7 : Int32) (N (b + 126 + 1)) := vp_g hmod (j := 7) (by decide)
  have ga : ∀ k, k < 11 → (K (b + 1 + 6) = 14 ∧ vp_in (nI k) (N (b + 1 + 6))) := fun k hk => ⟨k14, by rw [n11]; exact vp_in_nI hk (by decide)⟩
  have act : ∀ k : Nat, (1748 : Int32) + (386 : Int32) * nI k = nI (1748 + 386 * k) := fun k => by
    rw [show (386 : Int32) = nI 386 from rfl, show (1748 : Int32) = nI 1748 from rfl, pk_mul, nI_add]
  have act1 : ∀ k : Nat, nI (1748 + 386 * k) + (1 : Int32) = nI (1749 + 386 * k) := fun k => by rw [nI_1]; congr 1; omega
  by_cases hx : inR x1 2
  · rw [bI_t hx] at d1
    rcases inR2 hx with rfl | rfl
    · -- taken back
      by_cases h0 : kp = 0
      · have e1 : I (b + 1 + 5) 1 = 0 := by rw [ha1, h0]; rfl
        have e2 : I (b + 126 + 1) 6 - 1 = -1 := by rw [ha2, h0]; rfl
        have neg : (-1 : Int32) < 0 := by decide
        exact ⟨(-3, I), by simp [fn_X9_undo, gd_pos kb, pb0, gd_pos k7, pp5, pp0, fn_X1_takeBack, gd_pos k2, e1], (-3, I), by simp [fn_X10_undo, d1, gd_pos km, pm, gd_pos v6, e2, neg], rfl, hR0⟩
      · have hk : kp - 1 < al := by omega
        have dn : nI kp - (1 : Int32) = nI (kp - 1) := by rw [show (1 : Int32) = nI 1 from rfl, pk_sub (by omega)]
        obtain ⟨J0, hJ0⟩ : ∃ J0, J0 = up2 I (b + 1 + 5) 1 (nI (kp - 1)) := ⟨_, rfl⟩
        have j0 : J0 (b + 1 + 5) 2 + 1 = nI (al - (kp - 1)) := by rw [hJ0, up2_k (by decide), ha3, nI_1]; congr 1; omega
        obtain ⟨J, hJ⟩ : ∃ J, J = up2 J0 (b + 1 + 5) 2 (nI (al - (kp - 1))) := ⟨_, rfl⟩
        have j1 : J (b + 1 + 5) 1 = nI (kp - 1) := by rw [hJ, up2_k (by decide), hJ0, up2_s]
        obtain ⟨l, r, I1, w1, w2, w3, w4, M, m1, m2, m3, m4⟩ := e_undoBoth (J := J) hR0 hpic0 hk (show kp - 1 ≤ al by omega) (fun a h => by rw [hJ, up2_o h, hJ0, up2_o h]) j1 (by rw [hJ, up2_s])
        obtain ⟨I2, hI2⟩ : ∃ I2, I2 = up2 M (b + 126 + 1) 6 (nI (kp - 1)) := ⟨_, rfl⟩
        have hrow : P (b + 1 + 6) (kp - 1) = some (b + 1 + 7 + 3 * τ (kp - 1)) := hact _ (by omega)
        have ne : ¬ I (b + 1 + 5) 1 = 0 := by rw [ha1]; exact fun e => h0 ((nI_eq (b := 0) (by omega) (by decide)).mp e)
        have og : I1 (b + 126 + 1) = I (b + 126 + 1) := w4 _ (by omega)
        have i6 : I1 (b + 126 + 1) 6 = nI kp := by rw [og]; exact ha2
        have i7 : I1 (b + 126 + 1) 7 = nI al := by rw [og]; exact ha4
        have il : I1 (b + 126 + 1) (1748 + 386 * (kp - 1)) = nI l := by rw [og]; exact w1
        have dn2 : nI kp + (-1 : Int32) = nI (kp - 1) := nI_dn (by omega)
        have ib : I2 (b + 126 + 1) (1749 + 386 * (kp - 1)) = M (b + 126 + 1) (1749 + 386 * (kp - 1)) := by rw [hI2, up2_k (by omega)]
        rw [← hI2] at m4
        refine ⟨(r, I1), ?_, (r, I2), ?_, rfl, m4⟩
        · have ne' := ne
          rw [ha1] at ne'
          simp [fn_X9_undo, gd_pos kb, pb0, gd_pos k7, pp5, pp0, fn_X1_takeBack, gd_pos k2, ha1, ne', dn, ← hJ0, j0, ← hJ, j1, pa0, gd_pos (ga _ (show kp - 1 < 11 by omega)), nI_clamp (show kp - 1 < 2 ^ 31 by omega), hrow, w3]
        · simp [fn_X10_undo, d1, gd_pos km, pm, gd_pos v6, gd_pos v7, i6, i7, dn, nI_pos (show kp - 1 < 2 ^ 31 by omega), nI_lt hk (show al < 2 ^ 31 by omega), act, act1, gd_pos (vp_g hmod (show 1748 + 386 * (kp - 1) < 5608 by omega)), gd_pos (vp_g hmod (show 1749 + 386 * (kp - 1) < 5608 by omega)), nI_clamp (show 1748 + 386 * (kp - 1) < 2 ^ 31 by omega), nI_clamp (show 1749 + 386 * (kp - 1) < 2 ^ 31 by omega), il, m1, m3, dn2, ← hI2, ib, m2]
    · -- done again
      have n10 : ¬ (1 : Int32) = 0 := by decide
      by_cases h0 : al = kp
      · have e1 : I (b + 1 + 5) 2 = 0 := by rw [ha3, h0, Nat.sub_self]; rfl
        have e2 : I (b + 126 + 1) 6 = nI kp := ha2
        have e3 : I (b + 126 + 1) 7 = nI kp := by rw [ha4, h0]
        exact ⟨(-3, I), by simp [fn_X9_undo, gd_pos kb, pb0, gd_pos k7, pp5, pp0, fn_X1_doAgain, gd_pos k2, e1], (-3, I), by simp [fn_X10_undo, d1, gd_pos km, pm, gd_pos v6, gd_pos v7, e2, e3, nI_pos (show kp < 2 ^ 31 by omega), nI_nlt (Nat.le_refl kp) (show kp < 2 ^ 31 by omega)], rfl, hR0⟩
      · have hk : kp < al := by omega
        have dn : nI (al - kp) - (1 : Int32) = nI (al - (kp + 1)) := by rw [show (1 : Int32) = nI 1 from rfl, pk_sub (by omega)]; congr 1
        have up : nI kp + (1 : Int32) = nI (kp + 1) := nI_1 kp
        obtain ⟨J0, hJ0⟩ : ∃ J0, J0 = up2 I (b + 1 + 5) 1 (nI (kp + 1)) := ⟨_, rfl⟩
        have j0 : J0 (b + 1 + 5) 2 - 1 = nI (al - (kp + 1)) := by rw [hJ0, up2_k (by decide), ha3, dn]
        obtain ⟨J, hJ⟩ : ∃ J, J = up2 J0 (b + 1 + 5) 2 (nI (al - (kp + 1))) := ⟨_, rfl⟩
        have j1 : J (b + 1 + 5) 1 = nI (kp + 1) := by rw [hJ, up2_k (by decide), hJ0, up2_s]
        have j1' : nI (kp + 1) - (1 : Int32) = nI kp := by rw [show (1 : Int32) = nI 1 from rfl, pk_sub (by omega)]; congr 1
        obtain ⟨l, r, I1, w1, w2, w3, w4, M, m1, m2, m3, m4⟩ := e_undoBoth (J := J) hR0 hpic0 hk (show kp + 1 ≤ al by omega) (fun a h => by rw [hJ, up2_o h, hJ0, up2_o h]) j1 (by rw [hJ, up2_s])
        obtain ⟨I2, hI2⟩ : ∃ I2, I2 = up2 M (b + 126 + 1) 6 (nI (kp + 1)) := ⟨_, rfl⟩
        have hrow : P (b + 1 + 6) kp = some (b + 1 + 7 + 3 * τ kp) := hact _ (by omega)
        have ne : ¬ nI (al - kp) = 0 := fun e => h0 (by have := (nI_eq (b := 0) (by omega) (by decide)).mp e; omega)
        have og : I1 (b + 126 + 1) = I (b + 126 + 1) := w4 _ (by omega)
        have i6 : I1 (b + 126 + 1) 6 = nI kp := by rw [og]; exact ha2
        have i7 : I1 (b + 126 + 1) 7 = nI al := by rw [og]; exact ha4
        have il : I1 (b + 126 + 1) (1748 + 386 * kp) = nI l := by rw [og]; exact w1
        have ib : I2 (b + 126 + 1) (1749 + 386 * kp) = M (b + 126 + 1) (1749 + 386 * kp) := by rw [hI2, up2_k (by omega)]
        rw [← hI2] at m4
        refine ⟨(r, I1), ?_, (r, I2), ?_, rfl, m4⟩
        · simp [fn_X9_undo, gd_pos kb, pb0, gd_pos k7, pp5, pp0, fn_X1_doAgain, gd_pos k2, ha3, ne, ha1, up, ← hJ0, j0, ← hJ, j1, j1', pa0, gd_pos (ga _ (show kp < 11 by omega)), nI_clamp (show kp < 2 ^ 31 by omega), hrow, w3]
        · simp [fn_X10_undo, d1, gd_pos km, pm, gd_pos v6, gd_pos v7, i6, i7, nI_pos (show kp < 2 ^ 31 by omega), nI_lt hk (show al < 2 ^ 31 by omega), act, act1, gd_pos (vp_g hmod (show 1748 + 386 * kp < 5608 by omega)), gd_pos (vp_g hmod (show 1749 + 386 * kp < 5608 by omega)), nI_clamp (show 1748 + 386 * kp < 2 ^ 31 by omega), nI_clamp (show 1749 + 386 * kp < 2 ^ 31 by omega), il, m1, m3, up, ← hI2, ib, m2]
  · rw [bI_f hx] at d1
    have n0 : ¬ x1 = 0 := fun e => hx (e ▸ ⟨0, by decide, rfl⟩)
    have n1 : ¬ x1 = 1 := fun e => hx (e ▸ ⟨1, by decide, rfl⟩)
    exact ⟨(-2, I), by simp [fn_X9_undo, n0, n1], (-2, I), by simp [fn_X10_undo, d1], rfl, hR0⟩
