/-! put, the method -/
set_option maxHeartbeats 4000000 in
theorem q_put {K N : Nat → Nat} {b : Nat} : sp_put (Rel K N b) b K N := by
  intro I P x1 x2 x3 hR
  have hR0 := hR
  obtain ⟨⟨hroot, hp1, hp53, hmod⟩, ⟨cnt, kp, al, σ, τ, hpic⟩, himg, ⟨fed, htape⟩, hsheets⟩ := hR
  have hpic : PicR I P (b + 1) (I (b + 126 + 1)) cnt kp al σ τ := hpic
  have hpic0 := hpic
  obtain ⟨⟨hcnt, hkp, hal⟩, ⟨hσ, hτ, hlay, hact⟩, ⟨hc1, hg0⟩, ⟨hpap, hpap2⟩, hbr, hlays, hmask, ⟨ha1, ha2, ha3, ha4⟩, hacts⟩ := hpic
  obtain ⟨⟨kb, pb0, pb1, pb3, pb4, pb5, pb6, pb7⟩, hrt, hrs, hrc, hrth, hrl⟩ := id hroot
  obtain ⟨⟨k7, k15, n4, k6, k13, n192, k3, k2, k14, n11⟩, ⟨pp0, pp3, pp4, pp5, pm0, pa0⟩, hacsh, hlash⟩ := id hp1
  have km := hmod.1.1
  have pm := hmod.2.2.1
  have c1 := e_isSheet x1
  obtain ⟨w1, w2⟩ := e_wrong (I := I) hmod x1
  by_cases h1 : inR x1 4
  · rw [bI_t h1] at c1
    obtain ⟨i, hi, rfl⟩ := h1
    have w := w1 i hi rfl
    obtain ⟨k16, n4', hsh⟩ := hrs
    obtain ⟨pi, k8, k12, n40, p2⟩ := hsh i hi
    have g1 : K (b + 109) = 16 ∧ vp_in (nI i) (N (b + 109)) := ⟨k16, by rw [n4']; exact vp_in_nI hi (by decide)⟩
    have g2 : P (b + 109) (nI i).toNatClampNeg = some (b + 110 + 2 * i) := by rw [nI_clamp (by omega)]; exact pi
    obtain ⟨n, hn, s0, s01, sm, s1, m1, it⟩ := hsheets i hi
    have s0' : I (b + 126 + 9) i = I (b + 110 + 2 * i) 0 := s0.symm
    rw [s0'] at w
    by_cases hmis : I (b + 110 + 2 * i) 0 = -1
    · rw [if_pos hmis] at w
      exact ⟨(-11, I), by simp [fn_X9_put, c1, gd_pos kb, pb4, gd_pos g1, g2, fn_X7_isMissing, gd_pos k8, hmis], (-11, I), by simp [fn_X10_put, w, gd_pos km], rfl, hR0⟩
    · rw [if_neg hmis] at w
      have p21 : P (b + 126) 21 = some (b + 126 + 10) := hmod.2.2.2.2.2.2.2.2.2.2.2.1
      have p22 : P (b + 126) 22 = some (b + 126 + 11) := hmod.2.2.2.2.2.2.2.2.2.2.2.2
      have p20 : P (b + 126) 20 = some (b + 126 + 9) := hmod.2.2.2.2.2.2.2.2.2.2.1
      have k9 : K (b + 126 + 9) = 12 ∧ vp_in (nI i) (N (b + 126 + 9)) := ⟨hmod.1.2.2.2.2.2.2.2.2.2.1, by rw [hmod.2.1.2.2.2.2.2.2.2.2.1]; exact vp_in_nI hi (by decide)⟩
      have k10 : K (b + 126 + 10) = 12 ∧ vp_in (nI i) (N (b + 126 + 10)) := ⟨hmod.1.2.2.2.2.2.2.2.2.2.2.1, by rw [hmod.2.1.2.2.2.2.2.2.2.2.2.1]; exact vp_in_nI hi (by decide)⟩
      have m1' : I (b + 126 + 10) i = nI n := m1
      have hin := e_isInTop hn x2
      by_cases h2 : inR x2 n
      · rw [bI_t h2] at hin
        obtain ⟨j, hj, rfl⟩ := h2
        have a1 : (40 : Int32) * nI i + nI j = nI (40 * i + j) := by rw [show (40 : Int32) = nI 40 from rfl, pk_mul, nI_add]
        have k11 : K (b + 126 + 11) = 12 ∧ vp_in (nI (40 * i + j)) (N (b + 126 + 11)) := ⟨hmod.1.2.2.2.2.2.2.2.2.2.2.2, by rw [hmod.2.1.2.2.2.2.2.2.2.2.2.2]; exact vp_in_nI (by omega) (by decide)⟩
        have g3 : K (b + 111 + 2 * i) = 12 ∧ vp_in (nI j) (N (b + 111 + 2 * i)) := ⟨k12, by rw [n40]; exact vp_in_nI (by omega) (by decide)⟩
        obtain ⟨v, hv⟩ : ∃ v, v = if I (b + 110 + 2 * i) 0 = 0 then Int16.toInt32 (Int32.toInt16 x3) else x3 := ⟨_, rfl⟩
        obtain ⟨I1, hI1⟩ : ∃ I1, I1 = up2 I (b + 111 + 2 * i) j v := ⟨_, rfl⟩
        obtain ⟨I2, hI2⟩ : ∃ I2, I2 = up2 I1 (b + 126 + 11) (40 * i + j) v := ⟨_, rfl⟩
        have o1 : ∀ a, a ≠ b + 111 + 2 * i → I1 a = I a := fun a h => by rw [hI1, up2_o h]
        have o2 : ∀ a, a ≠ b + 126 + 11 → I2 a = I1 a := fun a h => by rw [hI2, up2_o h]
        have ho : ∀ a, a ≠ b + 111 + 2 * i → a ≠ b + 126 + 11 → I2 a = I a := fun a h h' => (o2 a h').trans (o1 a h)
        have t1 : ∀ k, I2 (b + 111 + 2 * i) k = if k = j then v else I (b + 111 + 2 * i) k := fun k => by rw [o2 _ (by omega), hI1]; simp [up2]
        have t2 : ∀ k, I2 (b + 126 + 11) k = if k = 40 * i + j then v else I (b + 126 + 11) k := fun k => by rw [hI2, ← o1 (b + 126 + 11) (by omega)]; simp [up2]
        refine ⟨(1, I1), ?_, (1, I2), ?_, rfl, ?_⟩
        · have hset : fn_X7_set K N I P (b + 110 + 2 * i) (nI j) x3 = some I1 := by
            unfold fn_X7_set
            rw [if_neg (nI_pos (by omega)), gd_pos k8, s1, if_neg (nI_ge hj (by omega)), p2, Option.bind_some, gd_pos g3, gd_pos g3, Option.bind_some, Option.bind_some, nI_clamp (by omega), hI1, hv]
            split <;> rfl
          simp [fn_X9_put, c1, gd_pos kb, pb4, gd_pos g1, g2, fn_X7_isMissing, gd_pos k8, hmis, nI_pos (show j < 2 ^ 31 by omega), s1, nI_lt hj (show n < 2 ^ 31 by omega), hset]
        · have w' : fn_X10_wrong K N I1 P (b + 126) (nI i) = some 0 := by
            rw [(e_wrong (I := I1) hmod (nI i)).1 i hi rfl, o1 _ (by omega), s0', if_neg hmis]
          have q1 : I1 (b + 126 + 10) i = nI n := by rw [o1 _ (by omega)]; exact m1'
          have q2 : I1 (b + 126 + 9) i = I (b + 110 + 2 * i) 0 := by rw [o1 _ (by omega)]; exact s0'
          simp [fn_X10_put, w', gd_pos km, p21, p22, p20, gd_pos k9, gd_pos k10, nI_clamp (show i < 2 ^ 31 by omega), q1, q2, hin, a1, gd_pos k11, nI_clamp (show 40 * i + j < 2 ^ 31 by omega), hI2, hv]
          split <;> rfl
        · show Rel K N b I2 P
          refine hR0.sheets (fun a h h1 h2 h3 => ho a (by omega) (by omega)) (fun k hk => ?_)
          obtain ⟨nk, hnk, z0, z01, zm, z1, zm1, zit⟩ := hsheets k hk
          have e9 : I2 (b + 135) = I (b + 135) := ho _ (by omega) (by omega)
          have e10 : I2 (b + 136) = I (b + 136) := ho _ (by omega) (by omega)
          have e0 : I2 (b + 110 + 2 * k) = I (b + 110 + 2 * k) := ho _ (by omega) (by omega)
          refine ⟨nk, hnk, by rw [e0, e9]; exact z0, by rw [e9]; exact z01, by rw [e9]; exact zm, by rw [e0]; exact z1, by rw [e10]; exact zm1, fun d hd => ?_⟩
          have hz : I (b + 111 + 2 * k) d = I (b + 126 + 11) (40 * k + d) := zit d hd
          show I2 (b + 111 + 2 * k) d = I2 (b + 126 + 11) (40 * k + d)
          by_cases hki : k = i
          · subst hki
            rw [t1, t2]
            by_cases hdj : d = j
            · rw [if_pos hdj, if_pos (by omega)]
            · rw [if_neg hdj, if_neg (by omega)]; exact hz
          · rw [ho (b + 111 + 2 * k) (by omega) (by omega), t2, if_neg (by omega)]; exact hz
      · rw [bI_f h2] at hin
        refine ⟨(-12, I), ?_, (-12, I), by simp [fn_X10_put, w, gd_pos km, p21, gd_pos k10, nI_clamp (show i < 2 ^ 31 by omega), m1', hin], rfl, hR0⟩
        by_cases hneg : x2 < 0
        · simp [fn_X9_put, c1, gd_pos kb, pb4, gd_pos g1, g2, fn_X7_isMissing, gd_pos k8, hmis, hneg]
        · have hge : ¬ x2 < nI n := fun hl => by
            rcases Int32_cases x2 n (by omega) with ⟨j, hj, e⟩ | h | h
            · exact h2 ⟨j, hj, e⟩
            · exact hneg h
            · exact absurd hl (Int32.not_lt.mpr h)
          simp [fn_X9_put, c1, gd_pos kb, pb4, gd_pos g1, g2, fn_X7_isMissing, gd_pos k8, hmis, hneg, s1, hge]
  · rw [bI_f h1] at c1
    exact ⟨(-2, I), by simp [fn_X9_put, c1], (-2, I), by simp [fn_X10_put, w2 h1, gd_pos km], rfl, hR0⟩
