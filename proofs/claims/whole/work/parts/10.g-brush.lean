/-! brush, the paper -/
set_option maxHeartbeats 4000000 in
theorem q_brush {K N : Nat → Nat} {b : Nat} : sp_brush (Rel K N b) b K N := by
  intro I P x1 x2 x3 x4 hR
  have hR0 := hR
  obtain ⟨⟨hroot, hp1, hp53, hmod⟩, ⟨cnt, kp, al, σ, τ, hpic⟩, himg, ⟨fed, htape⟩, hsheets⟩ := hR
  have hpic : PicR I P (b + 1) (I (b + 126 + 1)) cnt kp al σ τ := hpic
  have hpic0 := hpic
  obtain ⟨⟨hcnt, hkp, hal⟩, ⟨hσ, hτ, hlay, hact⟩, ⟨hc1, hg0⟩, ⟨hpap, hpap2⟩, hbr, hlays, hmask, ⟨ha1, ha2, ha3, ha4⟩, hacts⟩ := hpic
  obtain ⟨⟨kb, pb0, pb1, pb3, pb4, pb5, pb6, pb7⟩, hrt, hrs, hrc, hrth, hrl⟩ := id hroot
  obtain ⟨⟨k7, k15, n4, k6, k13, n192, k3, k2, k14, n11⟩, ⟨pp0, pp3, pp4, pp5, pm0, pa0⟩, hacsh, hlash⟩ := id hp1
  have km := hmod.1.1
  have pm := hmod.2.2.1
  have c1 : fn_X9_isWithin x1 0 4 = some (bI (inR x1 5)) := isWithin_nI (n := 5) (by decide) (by decide)
  have c2 : fn_X9_isWithin x2 0 4 = some (bI (inR x2 5)) := isWithin_nI (n := 5) (by decide) (by decide)
  have c3 : fn_X9_isWithin x3 (-1) 255 = some (bI (x3 = -1 ∨ inR x3 256)) := by rw [isWithin_bI]; congr 2; exact propext (ink_iff x3)
  have c4 : fn_X9_isWithin x4 0 9 = some (bI (inR x4 10)) := isWithin_nI (n := 10) (by decide) (by decide)
  by_cases hg : inR x1 5 ∧ inR x2 5 ∧ (x3 = -1 ∨ inR x3 256) ∧ inR x4 10
  · obtain ⟨g1, g2, g3, g4⟩ := hg
    rw [bI_t g1] at c1
    rw [bI_t g2] at c2
    rw [bI_t g3] at c3
    rw [bI_t g4] at c4
    obtain ⟨I1, hI1⟩ : ∃ I1, I1 = up2 (up2 (up2 (up2 I (b + 1 + 4) 0 x1) (b + 1 + 4) 1 x2) (b + 1 + 4) 2 x3) (b + 1 + 4) 3 x4 := ⟨_, rfl⟩
    obtain ⟨I2, hI2⟩ : ∃ I2, I2 = up2 (up2 (up2 (up2 I1 (b + 126 + 1) 2 x1) (b + 126 + 1) 3 x2) (b + 126 + 1) 4 x3) (b + 126 + 1) 5 x4 := ⟨_, rfl⟩
    have o1 : ∀ a, a ≠ b + 1 + 4 → I1 a = I a := fun a h => by rw [hI1, up2_o h, up2_o h, up2_o h, up2_o h]
    have o2 : ∀ a, a ≠ b + 126 + 1 → I2 a = I1 a := fun a h => by rw [hI2, up2_o h, up2_o h, up2_o h, up2_o h]
    have r1 : ∀ j, I1 (b + 1 + 4) j = if j = 3 then x4 else if j = 2 then x3 else if j = 1 then x2 else if j = 0 then x1 else I (b + 1 + 4) j := fun j => by rw [hI1]; simp [up2]
    have r2 : ∀ j, I2 (b + 126 + 1) j = if j = 5 then x4 else if j = 4 then x3 else if j = 3 then x2 else if j = 2 then x1 else I (b + 126 + 1) j := fun j => by rw [hI2, ← o1 (b + 126 + 1) (by omega)]; simp [up2]
    refine ⟨(10 * I (b + 1 + 4) 0 + I (b + 1 + 4) 1, I1), ?_, (10 * I (b + 1 + 4) 0 + I (b + 1 + 4) 1, I2), ?_, rfl, ?_⟩
    · simp [fn_X9_brush, fn_X2_become, c1, c2, c3, c4, gd_pos kb, pb0, gd_pos k7, pp4, gd_pos k3, hI1]
    · have d2 : I1 (b + 126 + 1) 2 = I (b + 1 + 4) 0 := by rw [o1 _ (by omega)]; exact hbr.1.1.symm
      have d3 : I1 (b + 126 + 1) 3 = I (b + 1 + 4) 1 := by rw [o1 _ (by omega)]; exact hbr.1.2.1.symm
      have v2 := vp_g hmod (j := 2) (by decide)
      have v3 := vp_g hmod (j := 3) (by decide)
      have v4 := vp_g hmod (j := 4) (by decide)
      have v5 := vp_g hmod (j := 5) (by decide)
      have e1 : fn_X10_isIn x1 0 4 = some 1 := c1
      have e2 : fn_X10_isIn x2 0 4 = some 1 := c2
      have e4 : fn_X10_isIn x4 0 9 = some 1 := c4
      by_cases hm1 : x3 = -1
      · subst hm1
        simp [fn_X10_brush, e1, e2, e4, gd_pos km, pm, gd_pos (show K (b + 126 + 1) = 12 ∧ vp_in 2 (N (b + 126 + 1)) from v2), gd_pos (show K (b + 126 + 1) = 12 ∧ vp_in 3 (N (b + 126 + 1)) from v3), gd_pos (show K (b + 126 + 1) = 12 ∧ vp_in 4 (N (b + 126 + 1)) from v4), gd_pos (show K (b + 126 + 1) = 12 ∧ vp_in 5 (N (b + 126 + 1)) from v5), d2, d3, hI2]
      · have e3 : fn_X10_isByte x3 = some 1 := by rw [e_isByte', bI_t (g3.resolve_left hm1)]
        simp [fn_X10_brush, e1, e2, e3, e4, hm1, gd_pos km, pm, gd_pos (show K (b + 126 + 1) = 12 ∧ vp_in 2 (N (b + 126 + 1)) from v2), gd_pos (show K (b + 126 + 1) = 12 ∧ vp_in 3 (N (b + 126 + 1)) from v3), gd_pos (show K (b + 126 + 1) = 12 ∧ vp_in 4 (N (b + 126 + 1)) from v4), gd_pos (show K (b + 126 + 1) = 12 ∧ vp_in 5 (N (b + 126 + 1)) from v5), d2, d3, hI2]
    · have ho : ∀ a, a ≠ b + 1 + 4 → a ≠ b + 126 + 1 → I2 a = I a := fun a h h' => (o2 a h').trans (o1 a h)
      have hgo : ∀ j, (j < 2 ∨ 6 ≤ j) → I2 (b + 126 + 1) j = I (b + 126 + 1) j := fun j hj => by
        rw [r2 j, if_neg (by omega), if_neg (by omega), if_neg (by omega), if_neg (by omega)]
      show Rel K N b I2 P
      refine hR0.pic ⟨ho _ (by omega) (by omega), fun a _ _ => ho _ (by omega) (by omega), ⟨by rw [ho _ (by omega) (by omega)], by rw [ho _ (by omega) (by omega)]⟩, ho _ (by omega) (by omega), ho _ (by omega) (by omega), ho _ (by omega) (by omega), ho _ (by omega) (by omega), ho _ (by omega) (by omega)⟩ (fun _ _ _ => rfl) ⟨cnt, kp, al, σ, τ, ?_⟩
      refine hpic0.mod (I' := I2) (g' := I2 (b + 126 + 1)) ⟨rfl, rfl⟩ ⟨by rw [ho _ (by omega) (by omega)], hgo 0 (by omega)⟩ ⟨by rw [ho _ (by omega) (by omega), hgo 1 (by omega)]; exact hpap, by rw [hgo 1 (by omega)]; exact hpap2⟩ ?_ (hpic0.lays (fun a _ _ => ho a (by omega) (by omega)) (fun j _ _ => hgo j (by omega))) (hmask.keep (ho _ (by omega) (by omega)) (ho _ (by omega) (by omega)) (fun j _ _ => hgo j (by omega))) ⟨ho _ (by omega) (by omega), hgo 6 (by omega), hgo 7 (by omega)⟩ (hpic0.acts (fun a _ _ => ho a (by omega) (by omega)) (fun j _ _ => hgo j (by omega)))
      have e4 : I2 (b + 1 + 4) = I1 (b + 1 + 4) := o2 _ (by omega)
      refine ⟨⟨?_, ?_, ?_, ?_⟩, ?_, ?_, ?_, ?_⟩
      · rw [e4, r1, r2]; rfl
      · rw [e4, r1, r2]; rfl
      · rw [e4, r1, r2]; rfl
      · rw [e4, r1, r2]; rfl
      · rw [r2]; exact g1
      · rw [r2]; exact g2
      · rw [r2]; exact g3
      · rw [r2]; exact g4
  · refine ⟨(-2, I), ?_, (-2, I), ?_, rfl, hR0⟩
    · by_cases g1 : inR x1 5
      · rw [bI_t g1] at c1
        by_cases g2 : inR x2 5
        · rw [bI_t g2] at c2
          by_cases g3 : x3 = -1 ∨ inR x3 256
          · rw [bI_t g3] at c3
            have g4 : ¬ inR x4 10 := fun h => hg ⟨g1, g2, g3, h⟩
            rw [bI_f g4] at c4
            simp [fn_X9_brush, c1, c2, c3, c4]
          · rw [bI_f g3] at c3
            simp [fn_X9_brush, c1, c2, c3]
        · rw [bI_f g2] at c2
          simp [fn_X9_brush, c1, c2]
      · rw [bI_f g1] at c1
        simp [fn_X9_brush, c1]
    · have e1 : fn_X10_isIn x1 0 4 = some (bI (inR x1 5)) := c1
      have e2 : fn_X10_isIn x2 0 4 = some (bI (inR x2 5)) := c2
      have e4 : fn_X10_isIn x4 0 9 = some (bI (inR x4 10)) := c4
      by_cases g1 : inR x1 5
      · rw [bI_t g1] at e1
        by_cases g2 : inR x2 5
        · rw [bI_t g2] at e2
          by_cases hm1 : x3 = -1
          · have g4 : ¬ inR x4 10 := fun h => hg ⟨g1, g2, Or.inl hm1, h⟩
            rw [bI_f g4] at e4
            simp [fn_X10_brush, e1, e2, hm1, e4]
          · have e3 := e_isByte' x3
            by_cases g3 : inR x3 256
            · rw [bI_t g3] at e3
              have g4 : ¬ inR x4 10 := fun h => hg ⟨g1, g2, Or.inr g3, h⟩
              rw [bI_f g4] at e4
              simp [fn_X10_brush, e1, e2, hm1, e3, e4]
            · rw [bI_f g3] at e3
              simp [fn_X10_brush, e1, e2, hm1, e3]
        · rw [bI_f g2] at e2
          simp [fn_X10_brush, e1, e2]
      · rw [bI_f g1] at e1
        simp [fn_X10_brush, e1]
