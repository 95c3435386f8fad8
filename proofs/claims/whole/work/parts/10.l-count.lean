/-! count -/
noncomputable def tileS (g : Nat → Int32) : Nat → Int32
  | 0 => 0
  | n + 1 => tileS g n + (fn_X10_bits (g (1749 + 386 * n))).getD 0
theorem e_act {k : Nat} : (1748 : Int32) + 386 * nI k + 1 = nI (1749 + 386 * k) := by
  rw [show (386 : Int32) = nI 386 from rfl, show (1748 : Int32) = nI 1748 from rfl, pk_mul, nI_add, nI_1]
  congr 1; omega
theorem e_tileCount {K N : Nat → Nat} {b : Nat} : ∀ (I : Nat → Nat → Int32) (P : Nat → Nat → Option Nat), Rel K N b I P → ∃ r, fn_X1_tileCount K N I P (b + 1 + 5) = some r ∧ fn_X10_tiles K N I P (b + 126) = some r := by
  intro I P  hR
  have hR0 := hR
  obtain ⟨⟨hroot, hp1, hp53, hmod⟩, ⟨cnt, kp, al, σ, τ, hpic⟩, himg, ⟨fed, htape⟩, hsheets⟩ := hR
  have hpic : PicR I P (b + 1) (I (b + 126 + 1)) cnt kp al σ τ := hpic
  have hpic0 := hpic
  obtain ⟨⟨hcnt, hkp, hal⟩, ⟨hσ, hτ, hlay, hact⟩, ⟨hc1, hg0⟩, ⟨hpap, hpap2⟩, hbr, hlays, hmask, ⟨ha1, ha2, ha3, ha4⟩, hacts⟩ := hpic
  obtain ⟨⟨kb, pb0, pb1, pb3, pb4, pb5, pb6, pb7⟩, hrt, hrs, hrc, hrth, hrl⟩ := id hroot
  obtain ⟨⟨k7, k15, n4, k6, k13, n192, k3, k2, k14, n11⟩, ⟨pp0, pp3, pp4, pp5, pm0, pa0⟩, hacsh, hlash⟩ := id hp1
  have km := hmod.1.1
  have pm := hmod.2.2.1
  have hsum : I (b + 1 + 5) 1 + I (b + 1 + 5) 2 = nI al := by rw [ha1, ha3, nI_add]; congr 1; omega
  have k1 := loop_ok (F := fun n i s => fn_X1_tileCount_L4 K N (b + 1 + 5) I P n s (nI i)) al (fun i s => s = tileS (I (b + 126 + 1)) i) (fun r => r = tileS (I (b + 126 + 1)) al)
    (fun n s hs => by
      simp only [fn_X1_tileCount_L4]
      rw [gd_pos k2, hsum, if_pos (nI_le (Nat.le_refl _) (by omega))]
      exact ok_some.mpr hs)
    (fun n i s hi hs k => by
      simp only [fn_X1_tileCount_L4]
      obtain ⟨⟨r0, r1, rd⟩, ⟨i0, i1, di⟩⟩ := hacts i hi
      obtain ⟨r, b1, b2⟩ := e_bits' i1
      have hka := (hacsh (τ i) (hτ.1 i (by omega))).1
      rw [gd_pos k2, hsum, if_neg (nI_ge hi (by omega)), pa0, Option.bind_some, gd_pos ⟨k14, by rw [n11]; exact vp_in_nI (by omega) (by decide)⟩, nI_clamp (by omega), hact i (by omega), Option.bind_some, gd_pos hka, r1, b1, Option.bind_some, Option.bind_some, nI_1]
      exact k _ (by rw [hs]; simp [tileS, b2]))
    FU 0 0 (Nat.zero_le _) (FU_lt (by omega)) rfl
  have k2 := loop_ok (F := fun n i s => fn_X10_tiles_L4 K N (b + 126) I P n s (nI i)) al (fun i s => s = tileS (I (b + 126 + 1)) i) (fun r => r = tileS (I (b + 126 + 1)) al)
    (fun n s hs => by
      simp only [fn_X10_tiles_L4]
      rw [gd_pos km, pm, Option.bind_some, gd_pos (show K (b + 126 + 1) = 12 ∧ vp_in 7 (N (b + 126 + 1)) from vp_g hmod (j := 7) (by decide)), ha4, if_pos (nI_le (Nat.le_refl _) (by omega))]
      exact ok_some.mpr hs)
    (fun n i s hi hs k => by
      simp only [fn_X10_tiles_L4]
      obtain ⟨⟨r0, r1, rd⟩, ⟨i0, i1, di⟩⟩ := hacts i hi
      obtain ⟨r, b1, b2⟩ := e_bits' i1
      rw [gd_pos km, pm, Option.bind_some, gd_pos (show K (b + 126 + 1) = 12 ∧ vp_in 7 (N (b + 126 + 1)) from vp_g hmod (j := 7) (by decide)), ha4, if_neg (nI_ge hi (by omega)), e_act, gd_pos (vp_g hmod (by omega)), nI_clamp (by omega), b2, Option.bind_some, Option.bind_some, nI_1]
      exact k _ (by rw [hs]; simp [tileS, b2]))
    FU 0 0 (Nat.zero_le _) (FU_lt (by omega)) rfl
  obtain ⟨r, h1, h2⟩ := k1
  obtain ⟨r', h1', h2'⟩ := k2
  subst h2 h2'
  refine ⟨tileS (I (b + 126 + 1)) al, ?_, ?_⟩
  · unfold fn_X1_tileCount
    rw [show fn_X1_tileCount_L4 K N (b + 1 + 5) I P FU 0 0 = some _ from h1, Option.bind_some]
  · unfold fn_X10_tiles
    rw [show fn_X10_tiles_L4 K N (b + 126) I P FU 0 0 = some _ from h1', Option.bind_some]
theorem e_masked {K N : Nat → Nat} {I : Nat → Nat → Int32} {P : Nat → Nat → Option Nat} {m : Nat} (hM : ModSh K N P m) (h01 : ∀ d, d < 192 → I (m + 1) (1556 + d) = 0 ∨ I (m + 1) (1556 + d) = 1) : fn_X10_masked K N I P m = some (nI (cnt1 (fun d => I (m + 1) (1556 + d)) 192)) := by
  have key := loop_ok (F := fun n i s => fn_X10_masked_L4 K N m I P n s (nI i)) 192 (fun i s => s = nI (cnt1 (fun d => I (m + 1) (1556 + d)) i)) (fun r => r = nI (cnt1 (fun d => I (m + 1) (1556 + d)) 192))
    (fun n s hs => by
      simp only [fn_X10_masked_L4]
      rw [show (192 : Int32) = nI 192 from rfl, if_pos (nI_le (Nat.le_refl _) (by omega))]
      exact ok_some.mpr hs)
    (fun n i s hi hs k => by
      simp only [fn_X10_masked_L4]
      rw [if_neg (show ¬ (192 : Int32) ≤ nI i from nI_ge (b := 192) hi (by decide)), gd_pos hM.1.1, hM.2.2.1, Option.bind_some, show (1556 : Int32) + nI i = nI (1556 + i) from e_sl 1556 i, gd_pos (vp_g hM (by omega)), nI_clamp (by omega), Option.bind_some, nI_1]
      rcases h01 i hi with h | h
      · exact k _ (by rw [hs, h]; simp [cnt1, h])
      · exact k _ (by rw [hs, h]; simp [cnt1, h]; exact nI_1 _))
    FU 0 0 (Nat.zero_le _) (FU_lt (by omega)) rfl
  obtain ⟨r, h1, h2⟩ := key
  unfold fn_X10_masked
  rw [show fn_X10_masked_L4 K N m I P FU 0 0 = some r from h1, Option.bind_some, h2]
set_option maxHeartbeats 2000000 in
theorem q_count {K N : Nat → Nat} {b : Nat} : sp_count (Rel K N b) b K N := by
  intro I P x1 hR
  have hR0 := hR
  obtain ⟨⟨hroot, hp1, hp53, hmod⟩, ⟨cnt, kp, al, σ, τ, hpic⟩, himg, ⟨fed, htape⟩, hsheets⟩ := hR
  have hpic : PicR I P (b + 1) (I (b + 126 + 1)) cnt kp al σ τ := hpic
  have hpic0 := hpic
  obtain ⟨⟨hcnt, hkp, hal⟩, ⟨hσ, hτ, hlay, hact⟩, ⟨hc1, hg0⟩, ⟨hpap, hpap2⟩, hbr, hlays, hmask, ⟨ha1, ha2, ha3, ha4⟩, hacts⟩ := hpic
  obtain ⟨⟨kb, pb0, pb1, pb3, pb4, pb5, pb6, pb7⟩, hrt, hrs, hrc, hrth, hrl⟩ := id hroot
  obtain ⟨⟨k7, k15, n4, k6, k13, n192, k3, k2, k14, n11⟩, ⟨pp0, pp3, pp4, pp5, pm0, pa0⟩, hacsh, hlash⟩ := id hp1
  have km := hmod.1.1
  have pm := hmod.2.2.1
  suffices h : ∃ r, fn_X9_count K N I P b x1 = some r ∧ fn_X10_count K N I P (b + 126) x1 = some r by
    obtain ⟨r, h1, h2⟩ := h
    exact ⟨r, h1, r, h2, rfl, hR0⟩
  obtain ⟨t, t1, t2⟩ := e_tileCount I P hR0
  have hm := e_masked hmod (fun d hd => (hmask.1 d hd).2)
  have v0 : K (b + 126 + 1) = 12 ∧ vp_in 0 (N (b + 126 + 1)) := vp_g hmod (j := 0) (by decide)
  have v4 : K (b + 126 + 1) = 12 ∧ vp_in 4 (N (b + 126 + 1)) := vp_g hmod (j := 4) (by decide)
  have v5 : K (b + 126 + 1) = 12 ∧ vp_in 5 (N (b + 126 + 1)) := vp_g hmod (j := 5) (by decide)
  have v6 : K (b + 126 + 1) = 12 ∧ vp_in 6 (N (b + 126 + 1)) := vp_g hmod (j := 6) (by decide)
  have v7 : K (b + 126 + 1) = 12 ∧ vp_in 7 (N (b + 126 + 1)) := vp_g hmod (j := 7) (by decide)
  unfold fn_X9_count fn_X10_count
  by_cases h0 : x1 = 0
  · rw [if_pos h0, if_pos h0]
    exact ⟨nI cnt, by simp [gd_pos kb, pb0, gd_pos k7, hc1], by simp [gd_pos km, pm, gd_pos v0, hg0]⟩
  rw [if_neg h0, if_neg h0]
  by_cases h0 : x1 = 1
  · rw [if_pos h0, if_pos h0]
    exact ⟨nI kp, by simp [gd_pos kb, pb0, gd_pos k7, pp5, gd_pos k2, ha1], by simp [gd_pos km, pm, gd_pos v6, ha2]⟩
  rw [if_neg h0, if_neg h0]
  by_cases h0 : x1 = 2
  · rw [if_pos h0, if_pos h0]
    exact ⟨nI (al - kp), by simp [gd_pos kb, pb0, gd_pos k7, pp5, gd_pos k2, ha3], by simp [gd_pos km, pm, gd_pos v6, gd_pos v7, ha2, ha4, pk_sub hkp]⟩
  rw [if_neg h0, if_neg h0]
  by_cases h0 : x1 = 3
  · rw [if_pos h0, if_pos h0]
    exact ⟨t, by simp [gd_pos kb, pb0, gd_pos k7, pp5, gd_pos k2, t1], by simp [gd_pos km, t2]⟩
  rw [if_neg h0, if_neg h0]
  by_cases h0 : x1 = 4
  · rw [if_pos h0, if_pos h0]
    exact ⟨nI (cnt1 (fun d => I (b + 126 + 1) (1556 + d)) 192), by simp [gd_pos kb, pb0, gd_pos k7, pp3, gd_pos k6, hmask.2], by simp [gd_pos km, hm]⟩
  rw [if_neg h0, if_neg h0]
  by_cases h0 : x1 = 5
  · rw [if_pos h0, if_pos h0]
    exact ⟨I (b + 126 + 1) 5, by simp [gd_pos kb, pb0, gd_pos k7, pp4, gd_pos k3, hbr.1.2.2.2], by simp [gd_pos km, pm, gd_pos v5]⟩
  rw [if_neg h0, if_neg h0]
  by_cases h0 : x1 = 6
  · rw [if_pos h0, if_pos h0]
    exact ⟨I (b + 126 + 1) 4, by simp [gd_pos kb, pb0, gd_pos k7, pp4, gd_pos k3, hbr.1.2.2.1], by simp [gd_pos km, pm, gd_pos v4]⟩
  rw [if_neg h0, if_neg h0]
  by_cases h0 : x1 = 7
  · rw [if_pos h0, if_pos h0]
    exact ⟨nI fed, by simp [gd_pos kb, pb3, gd_pos hrt.1, htape.2.1], by simp [gd_pos km, htape.2.2.1]⟩
  rw [if_neg h0, if_neg h0]
  exact ⟨-2, rfl, rfl⟩
