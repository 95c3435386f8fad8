/-! masked, count -/
/-- the bits of a row of a mask -/
def rowB (g : Nat → Int32) (y : Nat) : Nat → Int32
  | 0 => 0
  | n + 1 => if g (16 * y + n) = 0 then rowB g y n else rowB g y n ||| ((1 : Int32) <<< (nI n &&& 31))
theorem sh_0 (k : Int32) (a : Int32) : a ||| ((0 : Int32) <<< k) = a := by
  apply Int32.toBitVec_inj.mp
  simp
set_option maxHeartbeats 2000000 in
theorem q_masked {K N : Nat → Nat} {b : Nat} : sp_masked (Rel K N b) b K N := by
  intro I P x1 hR
  have hR0 := hR
  obtain ⟨⟨hroot, hp1, hp53, hmod⟩, ⟨cnt, kp, al, σ, τ, hpic⟩, himg, ⟨fed, htape⟩, hsheets⟩ := hR
  have hpic : PicR I P (b + 1) (I (b + 126 + 1)) cnt kp al σ τ := hpic
  have hpic0 := hpic
  obtain ⟨⟨hcnt, hkp, hal⟩, ⟨hσ, hτ, hlay, hact⟩, ⟨hc1, hg0⟩, ⟨hpap, hpap2⟩, hbr, hlays, hmask, ⟨ha1, ha2, ha3, ha4⟩, hacts⟩ := hpic
  obtain ⟨⟨kb, pb0, pb1, pb3, pb4, pb5, pb6, pb7⟩, hrt, hrs, hrc, hrth, hrl⟩ := id hroot
  obtain ⟨⟨k7, k15, n4, k6, k13, n192, k3, k2, k14, n11⟩, ⟨pp0, pp3, pp4, pp5, pm0, pa0⟩, hacsh, hlash⟩ := id hp1
  have km := hmod.1.1
  have pm := hmod.2.2.1
  suffices h : ∃ r, fn_X9_masked K N I P b x1 = some r ∧ fn_X10_masked_ K N I P (b + 126) x1 = some r by
    obtain ⟨r, h1, h2⟩ := h
    exact ⟨r, h1, r, h2, rfl, hR0⟩
  have c2 := e_isRow x1
  have d2 : fn_X10_isIn x1 0 11 = some (bI (inR x1 12)) := isIn_nI (n := 12) (by decide) (by decide)
  by_cases h2 : inR x1 12
  · rw [bI_t h2] at c2 d2
    obtain ⟨y, hy, rfl⟩ := h2
    have k1 := loop_ok (F := fun n i s => fn_X5_rowBits_L4 K N (b + 1 + 2) (nI y) I P n s (nI i)) 16 (fun i s => s = rowB (I (b + 1 + 3)) y i) (fun r => r = rowB (I (b + 1 + 3)) y 16)
      (fun n s hs => by
        simp only [fn_X5_rowBits_L4]
        rw [show (16 : Int32) = nI 16 from rfl, if_pos (nI_le (Nat.le_refl _) (by omega))]
        exact ok_some.mpr hs)
      (fun n i s hi hs k => by
        simp only [fn_X5_rowBits_L4]
        rw [if_neg (show ¬ (16 : Int32) ≤ nI i from nI_ge (b := 16) hi (by decide)), gd_pos k6, pm0, Option.bind_some, e_dotAt, Option.bind_some, gd_pos ⟨k13, by rw [n192]; exact vp_192 (by omega)⟩, nI_clamp (by omega), nI_1, Option.bind_some]
        by_cases h : I (b + 1 + 3) (16 * y + i) = 0
        · rw [if_pos h]
          exact k _ (by rw [hs]; simp [rowB, h])
        · rw [if_neg h]
          exact k _ (by rw [hs]; simp [rowB, h]))
      FU 0 0 (Nat.zero_le _) (FU_lt (by omega)) rfl
    have k2 := loop_ok (F := fun n i s => fn_X10_masked__L17 K N (b + 126) (nI y) I P n s (nI i)) 16 (fun i s => s = rowB (I (b + 1 + 3)) y i) (fun r => r = rowB (I (b + 1 + 3)) y 16)
      (fun n s hs => by
        simp only [fn_X10_masked__L17]
        rw [show (16 : Int32) = nI 16 from rfl, if_pos (nI_le (Nat.le_refl _) (by omega))]
        exact ok_some.mpr hs)
      (fun n i s hi hs k => by
        simp only [fn_X10_masked__L17]
        have hd : 16 * y + i < 192 := by omega
        have a1 : (1556 : Int32) + nI (16 * y + i) = nI (1556 + (16 * y + i)) := e_sl 1556 _
        rw [if_neg (show ¬ (16 : Int32) ≤ nI i from nI_ge (b := 16) hi (by decide)), gd_pos km, pm, Option.bind_some, e_dotOf, Option.bind_some, a1, gd_pos (vp_g hmod (by omega)), nI_clamp (by omega), nI_1, Option.bind_some, ← (hmask.1 _ hd).1]
        have h01 := (hmask.1 _ hd).2
        rw [← (hmask.1 _ hd).1] at h01
        rcases h01 with h | h
        · rw [h, sh_0]
          exact k _ (by rw [hs]; simp [rowB, h])
        · rw [h]
          exact k _ (by rw [hs]; simp [rowB, h]))
      FU 0 0 (Nat.zero_le _) (FU_lt (by omega)) rfl
    obtain ⟨r, h1, h2⟩ := k1
    obtain ⟨r', h1', h2'⟩ := k2
    subst h2 h2'
    have h1 : fn_X5_rowBits_L4 K N (b + 1 + 2) (nI y) I P FU 0 0 = some (rowB (I (b + 1 + 3)) y 16) := h1
    have h1' : fn_X10_masked__L17 K N (b + 126) (nI y) I P FU 0 0 = some (rowB (I (b + 1 + 3)) y 16) := h1'
    refine ⟨rowB (I (b + 1 + 3)) y 16, ?_, ?_⟩
    · simp [fn_X9_masked, c2, gd_pos kb, pb0, gd_pos k7, pp3, fn_X5_rowBits, h1, gd_pos k6]
    · simp [fn_X10_masked_, d2, h1']
  · rw [bI_f h2] at c2 d2
    exact ⟨-2, by simp [fn_X9_masked, c2], by simp [fn_X10_masked_, d2]⟩
