/-! dress -/
theorem rest_all {b : Nat} {I I2 : Nat → Nat → Int32} (h : ∀ a, ¬ (b + 1 ≤ a ∧ a < b + 53) → a ≠ b + 126 + 1 → I2 a = I a) : Rest b I I2 :=
  ⟨h _ (by omega) (by omega), fun a _ _ => h a (by omega) (by omega), ⟨by rw [h _ (by omega) (by omega)], by rw [h _ (by omega) (by omega)]⟩, h _ (by omega) (by omega), h _ (by omega) (by omega), h _ (by omega) (by omega), h _ (by omega) (by omega), h _ (by omega) (by omega)⟩
set_option maxHeartbeats 4000000 in
theorem q_dress_paper {K N : Nat → Nat} {b : Nat} : ∀ (I : Nat → Nat → Int32) (P : Nat → Nat → Option Nat) (x2 x3 x4 : Int32), Rel K N b I P → ∃ u, fn_X9_dress K N I P b (-1) x2 x3 x4 = some u ∧ ∃ u2, fn_X10_dress K N u.2 P (b + 126) (-1) x2 x3 x4 = some u2 ∧ u.1 = u2.1 ∧ Rel K N b u2.2 P := by
  intro I P x2 x3 x4 hR
  have hR0 := hR
  obtain ⟨⟨hroot, hp1, hp53, hmod⟩, ⟨cnt, kp, al, σ, τ, hpic⟩, himg, ⟨fed, htape⟩, hsheets⟩ := hR
  have hpic : PicR I P (b + 1) (I (b + 126 + 1)) cnt kp al σ τ := hpic
  have hpic0 := hpic
  obtain ⟨⟨hcnt, hkp, hal⟩, ⟨hσ, hτ, hlay, hact⟩, ⟨hc1, hg0⟩, ⟨hpap, hpap2⟩, hbr, hlays, hmask, ⟨ha1, ha2, ha3, ha4⟩, hacts⟩ := hpic
  obtain ⟨⟨kb, pb0, pb1, pb3, pb4, pb5, pb6, pb7⟩, hrt, hrs, hrc, hrth, hrl⟩ := id hroot
  obtain ⟨⟨k7, k15, n4, k6, k13, n192, k3, k2, k14, n11⟩, ⟨pp0, pp3, pp4, pp5, pm0, pa0⟩, hacsh, hlash⟩ := id hp1
  have km := hmod.1.1
  have pm := hmod.2.2.1
  have c1 := e_isByte x4
  have d1 := e_isByte' x4
  by_cases h4 : inR x4 256
  · rw [bI_t h4] at c1 d1
    obtain ⟨I1, hI1⟩ : ∃ I1, I1 = up2 I (b + 1) 2 x4 := ⟨_, rfl⟩
    obtain ⟨I2, hI2⟩ : ∃ I2, I2 = up2 I1 (b + 126 + 1) 1 x4 := ⟨_, rfl⟩
    have o1 : ∀ a, a ≠ b + 1 → I1 a = I a := fun a h => by rw [hI1, up2_o h]
    have o2 : ∀ a, a ≠ b + 126 + 1 → I2 a = I1 a := fun a h => by rw [hI2, up2_o h]
    have r1 : ∀ j, I1 (b + 1) j = if j = 2 then x4 else I (b + 1) j := fun j => by rw [hI1]; simp [up2]
    have r2 : ∀ j, I2 (b + 126 + 1) j = if j = 1 then x4 else I (b + 126 + 1) j := fun j => by rw [hI2, ← o1 (b + 126 + 1) (by omega)]; simp [up2]
    have v1 : K (b + 126 + 1) = 12 ∧ vp_in 1 (N (b + 126 + 1)) := vp_g hmod (j := 1) (by decide)
    have g1 : I1 (b + 126 + 1) 1 = I (b + 1) 2 := by rw [o1 _ (by omega)]; exact hpap.symm
    refine ⟨(I (b + 1) 2, I1), ?_, (I (b + 1) 2, I2), ?_, rfl, ?_⟩
    · simp [fn_X9_dress, fn_X9_dressPaper, c1, gd_pos kb, pb0, gd_pos k7, hI1]
    · simp [fn_X10_dress, d1, gd_pos km, pm, gd_pos v1, g1, hI2]
    · have ho : ∀ a, a ≠ b + 1 → a ≠ b + 126 + 1 → I2 a = I a := fun a h h' => (o2 a h').trans (o1 a h)
      have hgo : ∀ j, j ≠ 1 → I2 (b + 126 + 1) j = I (b + 126 + 1) j := fun j hj => by rw [r2 j, if_neg hj]
      have e4 : I2 (b + 1) = I1 (b + 1) := o2 _ (by omega)
      show Rel K N b I2 P
      refine hR0.pic (rest_all (fun a h h' => ho a (by omega) h')) (fun _ _ _ => rfl) ⟨cnt, kp, al, σ, τ, ?_⟩
      refine hpic0.mod (I' := I2) (g' := I2 (b + 126 + 1)) ⟨rfl, rfl⟩ ⟨by rw [e4, r1]; rfl, hgo 0 (by omega)⟩ ⟨by rw [e4, r1, r2]; rfl, by rw [r2]; exact h4⟩ ?_ (hpic0.lays (fun a _ _ => ho a (by omega) (by omega)) (fun j _ _ => hgo j (by omega))) (hmask.keep (ho _ (by omega) (by omega)) (ho _ (by omega) (by omega)) (fun j _ _ => hgo j (by omega))) ⟨ho _ (by omega) (by omega), hgo 6 (by omega), hgo 7 (by omega)⟩ (hpic0.acts (fun a _ _ => ho a (by omega) (by omega)) (fun j _ _ => hgo j (by omega)))
      unfold BrR at hbr ⊢
      rw [ho _ (by omega) (by omega), hgo 2 (by omega), hgo 3 (by omega), hgo 4 (by omega), hgo 5 (by omega)]
      exact hbr
  · rw [bI_f h4] at c1 d1
    exact ⟨(-2, I), by simp [fn_X9_dress, fn_X9_dressPaper, c1, gd_pos kb], (-2, I), by simp [fn_X10_dress, d1], rfl, hR0⟩
