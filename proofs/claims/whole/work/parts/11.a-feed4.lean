/-! feed, both sides -/
set_option maxHeartbeats 4000000 in
theorem q_feed_ok {K N : Nat → Nat} {b : Nat} : ∀ (I : Nat → Nat → Int32) (P : Nat → Nat → Option Nat) (f n : Nat) (x2 x3 x4 x5 x6 : Int32), Rel K N b I P → TapeR I b f → 1 ≤ n → n ≤ 5 → f + n ≤ 60 → by5 x2 x3 x4 x5 x6 → ∃ u, fn_X9_feed K N I P b (nI n) x2 x3 x4 x5 x6 = some u ∧ ∃ u2, fn_X10_feed K N u.2 P (b + 126) (nI n) x2 x3 x4 x5 x6 = some u2 ∧ u.1 = u2.1 ∧ Rel K N b u2.2 P := by
  intro I P f n x2 x3 x4 x5 x6 hR
  have hR0 := hR
  obtain ⟨⟨hroot, hp1, hp53, hmod⟩, ⟨cnt, kp, al, σ, τ, hpic⟩, himg, ⟨fed, htape⟩, hsheets⟩ := hR
  have hpic : PicR I P (b + 1) (I (b + 126 + 1)) cnt kp al σ τ := hpic
  have hpic0 := hpic
  obtain ⟨⟨hcnt, hkp, hal⟩, ⟨hσ, hτ, hlay, hact⟩, ⟨hc1, hg0⟩, ⟨hpap, hpap2⟩, hbr, hlays, hmask, ⟨ha1, ha2, ha3, ha4⟩, hacts⟩ := hpic
  obtain ⟨⟨kb, pb0, pb1, pb3, pb4, pb5, pb6, pb7⟩, hrt, hrs, hrc, hrth, hrl⟩ := id hroot
  obtain ⟨⟨k7, k15, n4, k6, k13, n192, k3, k2, k14, n11⟩, ⟨pp0, pp3, pp4, pp5, pm0, pa0⟩, hacsh, hlash⟩ := id hp1
  have km := hmod.1.1
  have pm := hmod.2.2.1
  intro hT h1 h5 hf hb
  obtain ⟨t0, t1, t2, t3⟩ := hT
  have hc := e_addAll I P f n x2 x3 x4 x5 x6 hR0 t1 h1 h5 hf hb
  obtain ⟨J, hJ⟩ : ∃ J, J = addN I (b + 105) (b + 106) f (fy x2 x3 x4 x5 x6) n := ⟨_, rfl⟩
  rw [← hJ] at hc
  have oJ : ∀ a, a ≠ b + 105 → a ≠ b + 106 → J a = I a := fun a h h' => by rw [hJ]; exact addN_o h h' n
  have j5 : J (b + 126) 5 = nI f := by rw [oJ _ (by omega) (by omega)]; exact t2
  obtain ⟨L, l1, l2, l3⟩ := e_feedL (J := J) (x2 := x2) (x3 := x3) (x4 := x4) (x5 := x5) (x6 := x6) hmod h5 hf j5
  obtain ⟨I2, hI2⟩ : ∃ I2, I2 = up2 L (b + 126) 5 (nI (f + n)) := ⟨_, rfl⟩
  obtain ⟨b2, b3, b4, b5, b6⟩ := id hb
  have c1 : fn_X10_isIn (nI n) 1 5 = some 1 := by
    rw [isIn_eq, isWithin_bI, bI_t ⟨nI_le (a := 1) h1 (by omega), nI_le (b := 5) h5 (by omega)⟩]
  have y2 := e_isByte' x2
  have y3 := e_isByte' x3
  have y4 := e_isByte' x4
  have y5 := e_isByte' x5
  have y6 := e_isByte' x6
  rw [bI_t b2] at y2
  rw [bI_t b3] at y3
  rw [bI_t b4] at y4
  rw [bI_t b5] at y5
  rw [bI_t b6] at y6
  have hle : nI (f + n) ≤ 60 := nI_le (b := 60) hf (by decide)
  have L5 : L (b + 126) 5 = nI f := by rw [l2 _ (by omega)]; exact j5
  refine ⟨(nI (f + n), J), hc, (nI (f + n), I2), ?_, rfl, ?_⟩
  · simp [fn_X10_feed, y2, y3, y4, y5, y6, c1, gd_pos km, j5, nI_add, hle, l1, L5, hI2, up2_s]
  · have ho : ∀ a, a ≠ b + 105 → a ≠ b + 106 → a ≠ b + 126 → a ≠ b + 126 + 3 → I2 a = I a := fun a h h' h2 h3 => by
      rw [hI2, up2_o h2, l2 a h3]; exact oJ a h h'
    show Rel K N b I2 P
    refine hR0.tape (fun a h h' h2 h3 => ho a h h' h2 h3) ?_ ⟨f + n, hf, ?_, ?_, fun j hj => ?_⟩
    · rw [hI2, up2_k (by decide), l2 _ (by omega), oJ _ (by omega) (by omega)]
    · rw [hI2, up2_o (by omega), l2 _ (by omega), hJ]; exact addN_q t1 n
    · rw [hI2, up2_s]
    · have e1 : I2 (b + 106) j = if f ≤ j ∧ j < f + n then fy x2 x3 x4 x5 x6 (j - f) else I (b + 106) j := by
        rw [hI2, up2_o (by omega), l2 _ (by omega), hJ]; exact addN_r (by omega) n j
      have e2 : I2 (b + 129) j = if f ≤ j ∧ j < f + n then fy x2 x3 x4 x5 x6 (j - f) else I (b + 129) j := by
        rw [hI2, up2_o (by omega)]
        rw [show L (b + 129) j = _ from l3 j, oJ _ (by omega) (by omega)]
      rw [e1, e2]
      by_cases hk : f ≤ j ∧ j < f + n
      · rw [if_pos hk, if_pos hk]
        refine ⟨rfl, ?_⟩
        unfold fy
        exact inR_ite b2 (inR_ite b3 (inR_ite b4 (inR_ite b5 b6)))
      · rw [if_neg hk, if_neg hk]
        exact t3 j (by omega)
