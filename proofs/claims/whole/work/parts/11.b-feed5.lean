/-! feed -/
set_option maxHeartbeats 4000000 in
theorem q_feed {K N : Nat → Nat} {b : Nat} : sp_feed (Rel K N b) b K N := by
  intro I P x1 x2 x3 x4 x5 x6 hR
  have hR0 := hR
  obtain ⟨⟨hroot, hp1, hp53, hmod⟩, ⟨cnt, kp, al, σ, τ, hpic⟩, himg, ⟨fed, htape⟩, hsheets⟩ := hR
  have hpic : PicR I P (b + 1) (I (b + 126 + 1)) cnt kp al σ τ := hpic
  have hpic0 := hpic
  obtain ⟨⟨hcnt, hkp, hal⟩, ⟨hσ, hτ, hlay, hact⟩, ⟨hc1, hg0⟩, ⟨hpap, hpap2⟩, hbr, hlays, hmask, ⟨ha1, ha2, ha3, ha4⟩, hacts⟩ := hpic
  obtain ⟨⟨kb, pb0, pb1, pb3, pb4, pb5, pb6, pb7⟩, hrt, hrs, hrc, hrth, hrl⟩ := id hroot
  obtain ⟨⟨k7, k15, n4, k6, k13, n192, k3, k2, k14, n11⟩, ⟨pp0, pp3, pp4, pp5, pm0, pa0⟩, hacsh, hlash⟩ := id hp1
  have km := hmod.1.1
  have pm := hmod.2.2.1
  have c1 := isWithin_bI x1 1 5
  have d1 : fn_X10_isIn x1 1 5 = _ := c1
  have eb : fn_X10_isByte = fn_X9_isByte := funext fun x => (e_isByte' x).trans (e_isByte x).symm
  have y2 := e_isByte x2
  have y3 := e_isByte x3
  have y4 := e_isByte x4
  have y5 := e_isByte x5
  have y6 := e_isByte x6
  by_cases hv : 1 ≤ x1 ∧ x1 ≤ 5
  · by_cases hb : by5 x2 x3 x4 x5 x6
    · obtain ⟨n, h1, h5, rfl⟩ := five hv
      by_cases hf : fed + n ≤ 60
      · exact q_feed_ok I P fed n x2 x3 x4 x5 x6 hR0 htape h1 h5 hf hb
      · obtain ⟨b2, b3, b4, b5, b6⟩ := hb
        rw [bI_t b2] at y2
        rw [bI_t b3] at y3
        rw [bI_t b4] at y4
        rw [bI_t b5] at y5
        rw [bI_t b6] at y6
        rw [bI_t hv] at c1 d1
        have hgt : ¬ nI (fed + n) ≤ 60 := nI_ge (a := 60) (by omega) (by have := htape.1; omega)
        exact ⟨(-4, I), by simp [fn_X9_feed, c1, y2, y3, y4, y5, y6, gd_pos kb, pb3, gd_pos hrt.1, htape.2.1, nI_add, hgt], (-4, I), by simp [fn_X10_feed, eb, d1, y2, y3, y4, y5, y6, gd_pos km, htape.2.2.1, nI_add, hgt], rfl, hR0⟩
    · rw [bI_t hv] at c1 d1
      unfold by5 at hb
      refine ⟨(-2, I), ?_, (-2, I), ?_, rfl, hR0⟩
      · unfold fn_X9_feed
        rw [c1, Option.bind_some, if_neg (by decide), y2, y3, y4, y5, y6]
        simp only [Option.bind_some, bI_self, bI_and]
        rw [if_pos (bI_f hb)]
      · unfold fn_X10_feed
        rw [eb, y2, y3, y4, y5, y6]
        simp only [Option.bind_some, bI_self, bI_and, d1]
        rw [if_neg (by decide), if_pos (bI_f hb)]
  · rw [bI_f hv] at c1 d1
    refine ⟨(-2, I), by simp [fn_X9_feed, c1], (-2, I), ?_, rfl, hR0⟩
    unfold fn_X10_feed
    rw [eb, y2, y3, y4, y5, y6]
    simp only [Option.bind_some, bI_self, bI_and, d1]
    rw [if_pos trivial]
