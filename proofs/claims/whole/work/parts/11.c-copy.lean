/-! copy -/
theorem e_copyL {K N : Nat → Nat} {I : Nat → Nat → Int32} {P : Nat → Nat → Option Nat} {m i k s t n : Nat} (hM : ModSh K N P m) (hi : i < 4) (hk : k < 4) (hs : s + n ≤ 40) (ht : t + n ≤ 40) : ∃ I2, fn_X10_copy_L126 K N m (nI i) (nI s) (nI k) (nI t) (nI n) P FU 0 I = some I2 ∧ (∀ a, a ≠ m + 11 → I2 a = I a) ∧ ∀ j, I2 (m + 11) j = if 40 * k + t ≤ j ∧ j < 40 * k + t + n then I (m + 11) (40 * i + s + (j - (40 * k + t))) else I (m + 11) j := by
  have p22 : P m 22 = some (m + 11) := hM.2.2.2.2.2.2.2.2.2.2.2.2
  have k11 : K (m + 11) = 12 := hM.1.2.2.2.2.2.2.2.2.2.2.2
  have n11 : N (m + 11) = 160 := hM.2.1.2.2.2.2.2.2.2.2.2.2
  have a1 : ∀ j, (40 : Int32) * nI i + nI s + nI j = nI (40 * i + s + j) := fun j => by rw [show (40 : Int32) = nI 40 from rfl, pk_mul, nI_add, nI_add]
  have a2 : ∀ j, (40 : Int32) * nI k + nI t + nI j = nI (40 * k + t + j) := fun j => by rw [show (40 : Int32) = nI 40 from rfl, pk_mul, nI_add, nI_add]
  have g1 : ∀ j, j < n → (K (m + 11) = 12 ∧ vp_in (nI (40 * i + s + j)) (N (m + 11))) := fun j hj => ⟨k11, by rw [n11]; exact vp_in_nI (by omega) (by omega)⟩
  have g2 : ∀ j, j < n → (K (m + 11) = 12 ∧ vp_in (nI (40 * k + t + j)) (N (m + 11))) := fun j hj => ⟨k11, by rw [n11]; exact vp_in_nI (by omega) (by omega)⟩
  by_cases hb : s ≤ t
  · have key := loop_ok (F := fun f q z => fn_X10_copy_L126 K N m (nI i) (nI s) (nI k) (nI t) (nI n) P f (nI q) z) n (fun q z => (∀ a, a ≠ m + 11 → z a = I a) ∧ ∀ j, z (m + 11) j = if 40 * k + t + (n - q) ≤ j ∧ j < 40 * k + t + n then I (m + 11) (40 * i + s + (j - (40 * k + t))) else I (m + 11) j) (fun z => (∀ a, a ≠ m + 11 → z a = I a) ∧ ∀ j, z (m + 11) j = if 40 * k + t ≤ j ∧ j < 40 * k + t + n then I (m + 11) (40 * i + s + (j - (40 * k + t))) else I (m + 11) j)
      (fun f z hz => by
        simp only [fn_X10_copy_L126]
        rw [if_pos (nI_le (Nat.le_refl _) (by omega))]
        refine ok_some.mpr ⟨hz.1, fun j => ?_⟩
        have := hz.2 j
        simpa using this)
      (fun f q z hq hz kk => by
        simp only [fn_X10_copy_L126]
        have e1 : nI n - 1 - nI q = nI (n - 1 - q) := by rw [show (1 : Int32) = nI 1 from rfl, pk_sub (by omega), pk_sub (by omega)]
        rw [if_neg (nI_ge hq (by omega)), if_pos (nI_le hb (by omega)), e1, Option.bind_some, p22, Option.bind_some, a1, a2, gd_pos (g1 _ (by omega)), gd_pos (g2 _ (by omega)), Option.bind_some, nI_clamp (by omega), nI_clamp (by omega), nI_1]
        refine kk _ ⟨fun a ha => by rw [up2_o ha]; exact hz.1 a ha, fun j => ?_⟩
        by_cases hj : j = 40 * k + t + (n - 1 - q)
        · subst hj
          rw [up2_s, hz.2, if_neg (by omega), if_pos (by omega)]
          congr 1; omega
        · rw [up2_k hj, hz.2]
          by_cases h2 : 40 * k + t + (n - q) ≤ j ∧ j < 40 * k + t + n
          · rw [if_pos h2, if_pos (by omega)]
          · rw [if_neg h2, if_neg (by omega)])
      FU 0 I (Nat.zero_le _) (FU_lt (by omega)) ⟨fun _ _ => rfl, fun j => by rw [if_neg (by omega)]⟩
    obtain ⟨r, h1, h2⟩ := key
    exact ⟨r, h1, h2⟩
  · have key := loop_ok (F := fun f q z => fn_X10_copy_L126 K N m (nI i) (nI s) (nI k) (nI t) (nI n) P f (nI q) z) n (fun q z => (∀ a, a ≠ m + 11 → z a = I a) ∧ ∀ j, z (m + 11) j = if 40 * k + t ≤ j ∧ j < 40 * k + t + q then I (m + 11) (40 * i + s + (j - (40 * k + t))) else I (m + 11) j) (fun z => (∀ a, a ≠ m + 11 → z a = I a) ∧ ∀ j, z (m + 11) j = if 40 * k + t ≤ j ∧ j < 40 * k + t + n then I (m + 11) (40 * i + s + (j - (40 * k + t))) else I (m + 11) j)
      (fun f z hz => by
        simp only [fn_X10_copy_L126]
        rw [if_pos (nI_le (Nat.le_refl _) (by omega))]
        exact ok_some.mpr hz)
      (fun f q z hq hz kk => by
        simp only [fn_X10_copy_L126]
        rw [if_neg (nI_ge hq (by omega)), if_neg (nI_ge (by omega) (by omega)), Option.bind_some, p22, Option.bind_some, a1, a2, gd_pos (g1 _ hq), gd_pos (g2 _ hq), Option.bind_some, nI_clamp (by omega), nI_clamp (by omega), nI_1]
        refine kk _ ⟨fun a ha => by rw [up2_o ha]; exact hz.1 a ha, fun j => ?_⟩
        by_cases hj : j = 40 * k + t + q
        · subst hj
          rw [up2_s, hz.2, if_neg (by omega), if_pos (by omega)]
          congr 1; omega
        · rw [up2_k hj, hz.2]
          by_cases h2 : 40 * k + t ≤ j ∧ j < 40 * k + t + q
          · rw [if_pos h2, if_pos (by omega)]
          · rw [if_neg h2, if_neg (by omega)])
      FU 0 I (Nat.zero_le _) (FU_lt (by omega)) ⟨fun _ _ => rfl, fun j => by rw [if_neg (by omega)]⟩
    obtain ⟨r, h1, h2⟩ := key
    exact ⟨r, h1, h2⟩
/-- x of nothing below 0: a number -/
theorem natOf {x : Int32} (h : ¬ x < 0) : ∃ n, n < 2 ^ 31 ∧ x = nI n := by
  rw [Int32.lt_iff_toInt_lt] at h
  have z0 : (0 : Int32).toInt = 0 := rfl
  have h1 := x.toInt_lt
  refine ⟨x.toInt.toNat, by omega, ?_⟩
  rw [← Int32.toInt_inj, nI_toInt (by omega)]; omega
set_option maxHeartbeats 4000000 in
theorem q_copy {K N : Nat → Nat} {b : Nat} : sp_copy (Rel K N b) b K N := by
  intro I P x1 x2 x3 x4 x5 hR
  have hR0 := hR
  obtain ⟨⟨hroot, hp1, hp53, hmod⟩, ⟨cnt, kp, al, σ, τ, hpic⟩, himg, ⟨fed, htape⟩, hsheets⟩ := hR
  have hpic : PicR I P (b + 1) (I (b + 126 + 1)) cnt kp al σ τ := hpic
  have hpic0 := hpic
  obtain ⟨⟨hcnt, hkp, hal⟩, ⟨hσ, hτ, hlay, hact⟩, ⟨hc1, hg0⟩, ⟨hpap, hpap2⟩, hbr, hlays, hmask, ⟨ha1, ha2, ha3, ha4⟩, hacts⟩ := hpic
  obtain ⟨⟨kb, pb0, pb1, pb3, pb4, pb5, pb6, pb7⟩, hrt, hrs, hrc, hrth, hrl⟩ := id hroot
  obtain ⟨⟨k7, k15, n4, k6, k13, n192, k3, k2, k14, n11⟩, ⟨pp0, pp3, pp4, pp5, pm0, pa0⟩, hacsh, hlash⟩ := id hp1
  have km := hmod.1.1
  have pm := hmod.2.2.1
  have c1 := e_isSheet x1
  have d1 := e_isSheet' x1
  have c3 := e_isSheet x3
  have d3 := e_isSheet' x3
  by_cases h1 : inR x1 4
  · rw [bI_t h1] at c1 d1
    by_cases h3 : inR x3 4
    · rw [bI_t h3] at c3 d3
      obtain ⟨i, hi, rfl⟩ := h1
      obtain ⟨k, hk, rfl⟩ := h3
      obtain ⟨k16, n4', hsh⟩ := hrs
      obtain ⟨pi, k8, k12, n40, p2⟩ := hsh i hi
      obtain ⟨pk, l8, l12, l40, r2⟩ := hsh k hk
      have g1 : K (b + 109) = 16 ∧ vp_in (nI i) (N (b + 109)) := ⟨k16, by rw [n4']; exact vp_in_nI hi (by decide)⟩
      have g2 : P (b + 109) (nI i).toNatClampNeg = some (b + 110 + 2 * i) := by rw [nI_clamp (by omega)]; exact pi
      have f1 : K (b + 109) = 16 ∧ vp_in (nI k) (N (b + 109)) := ⟨k16, by rw [n4']; exact vp_in_nI hk (by decide)⟩
      have f2 : P (b + 109) (nI k).toNatClampNeg = some (b + 110 + 2 * k) := by rw [nI_clamp (by omega)]; exact pk
      obtain ⟨n, hn, s0, s01, sm, s1, m1, it⟩ := hsheets i hi
      obtain ⟨n', hn', s0', s01', sm', s1', m1', it'⟩ := hsheets k hk
      have s0 : I (b + 126 + 9) i = I (b + 110 + 2 * i) 0 := s0.symm
      have s0' : I (b + 126 + 9) k = I (b + 110 + 2 * k) 0 := s0'.symm
      have m1 : I (b + 126 + 10) i = nI n := m1
      have m1' : I (b + 126 + 10) k = nI n' := m1'
      have p20 : P (b + 126) 20 = some (b + 126 + 9) := hmod.2.2.2.2.2.2.2.2.2.2.1
      have p21 : P (b + 126) 21 = some (b + 126 + 10) := hmod.2.2.2.2.2.2.2.2.2.2.2.1
      have k9 : K (b + 126 + 9) = 12 ∧ vp_in (nI i) (N (b + 126 + 9)) := ⟨hmod.1.2.2.2.2.2.2.2.2.2.1, by rw [hmod.2.1.2.2.2.2.2.2.2.2.1]; exact vp_in_nI hi (by decide)⟩
      have k9' : K (b + 126 + 9) = 12 ∧ vp_in (nI k) (N (b + 126 + 9)) := ⟨hmod.1.2.2.2.2.2.2.2.2.2.1, by rw [hmod.2.1.2.2.2.2.2.2.2.2.1]; exact vp_in_nI hk (by decide)⟩
      have k10 : K (b + 126 + 10) = 12 ∧ vp_in (nI i) (N (b + 126 + 10)) := ⟨hmod.1.2.2.2.2.2.2.2.2.2.2.1, by rw [hmod.2.1.2.2.2.2.2.2.2.2.2.1]; exact vp_in_nI hi (by decide)⟩
      have k10' : K (b + 126 + 10) = 12 ∧ vp_in (nI k) (N (b + 126 + 10)) := ⟨hmod.1.2.2.2.2.2.2.2.2.2.2.1, by rw [hmod.2.1.2.2.2.2.2.2.2.2.2.1]; exact vp_in_nI hk (by decide)⟩
      have cl : (nI i).toNatClampNeg = i := nI_clamp (by omega)
      have cl' : (nI k).toNatClampNeg = k := nI_clamp (by omega)
      by_cases hmis : I (b + 110 + 2 * i) 0 = -1
      · exact ⟨(-11, I), by simp [fn_X9_copy, c1, c3, gd_pos kb, pb4, gd_pos g1, g2, gd_pos f1, f2, fn_X7_isMissing, gd_pos k8, hmis], (-11, I), by simp [fn_X10_copy, d1, d3, gd_pos km, p20, gd_pos k9, cl, s0, hmis], rfl, hR0⟩
      · by_cases hmis' : I (b + 110 + 2 * k) 0 = -1
        · exact ⟨(-11, I), by simp [fn_X9_copy, c1, c3, gd_pos kb, pb4, gd_pos g1, g2, gd_pos f1, f2, fn_X7_isMissing, gd_pos k8, gd_pos l8, hmis, hmis'], (-11, I), by simp [fn_X10_copy, d1, d3, gd_pos km, p20, gd_pos k9, gd_pos k9', cl, cl', s0, s0', hmis, hmis'], rfl, hR0⟩
        · by_cases hty : I (b + 110 + 2 * i) 0 = I (b + 110 + 2 * k) 0
          · have bad : ∀ (hq : x5 < 0 ∨ x2 < 0 ∨ x4 < 0 ∨ nI n < x2 ∨ nI n' < x4 ∨ nI n - x2 < x5 ∨ nI n' - x4 < x5), ∃ u, fn_X9_copy K N I P b (nI i) x2 (nI k) x4 x5 = some u ∧ ∃ u2, fn_X10_copy K N u.2 P (b + 126) (nI i) x2 (nI k) x4 x5 = some u2 ∧ u.1 = u2.1 ∧ Rel K N b u2.2 P := by
              intro hq
              refine ⟨(-12, I), ?_, (-12, I), ?_, rfl, hR0⟩
              · rw [hty] at hmis
                by_cases q1 : x5 < 0
                · simp [fn_X9_copy, c1, c3, gd_pos kb, pb4, gd_pos g1, g2, gd_pos f1, f2, fn_X7_isMissing, gd_pos k8, gd_pos l8, hmis, hmis', hty, fn_X7_hasPart, q1]
                by_cases q2 : x2 < 0
                · simp [fn_X9_copy, c1, c3, gd_pos kb, pb4, gd_pos g1, g2, gd_pos f1, f2, fn_X7_isMissing, gd_pos k8, gd_pos l8, hmis, hmis', hty, fn_X7_hasPart, q1, q2]
                by_cases q4 : nI n < x2
                · simp [fn_X9_copy, c1, c3, gd_pos kb, pb4, gd_pos g1, g2, gd_pos f1, f2, fn_X7_isMissing, gd_pos k8, gd_pos l8, hmis, hmis', hty, fn_X7_hasPart, q1, q2, s1, q4]
                by_cases q6 : nI n - x2 < x5
                · simp [fn_X9_copy, c1, c3, gd_pos kb, pb4, gd_pos g1, g2, gd_pos f1, f2, fn_X7_isMissing, gd_pos k8, gd_pos l8, hmis, hmis', hty, fn_X7_hasPart, q1, q2, s1, q4, q6]
                by_cases q3 : x4 < 0
                · simp [fn_X9_copy, c1, c3, gd_pos kb, pb4, gd_pos g1, g2, gd_pos f1, f2, fn_X7_isMissing, gd_pos k8, gd_pos l8, hmis, hmis', hty, fn_X7_hasPart, q1, q2, s1, q4, q6, q3]
                by_cases q5 : nI n' < x4
                · simp [fn_X9_copy, c1, c3, gd_pos kb, pb4, gd_pos g1, g2, gd_pos f1, f2, fn_X7_isMissing, gd_pos k8, gd_pos l8, hmis, hmis', hty, fn_X7_hasPart, q1, q2, s1, q4, q6, q3, s1', q5]
                have q7 : nI n' - x4 < x5 := by rcases hq with h | h | h | h | h | h | h <;> first | exact h | exact absurd h (by assumption)
                simp [fn_X9_copy, c1, c3, gd_pos kb, pb4, gd_pos g1, g2, gd_pos f1, f2, fn_X7_isMissing, gd_pos k8, gd_pos l8, hmis, hmis', hty, fn_X7_hasPart, q1, q2, s1, q4, q6, q3, s1', q5, q7]
              · rw [hty] at hmis s0
                by_cases q1 : x5 < 0
                · simp [fn_X10_copy, d1, d3, gd_pos km, p20, gd_pos k9, gd_pos k9', cl, cl', s0, s0', hmis, hmis', q1]
                by_cases q2 : x2 < 0
                · simp [fn_X10_copy, d1, d3, gd_pos km, p20, gd_pos k9, gd_pos k9', cl, cl', s0, s0', hmis, hmis', q1, q2]
                by_cases q3 : x4 < 0
                · simp [fn_X10_copy, d1, d3, gd_pos km, p20, gd_pos k9, gd_pos k9', cl, cl', s0, s0', hmis, hmis', q1, q2, q3]
                by_cases q4 : nI n < x2
                · simp [fn_X10_copy, d1, d3, gd_pos km, p20, p21, gd_pos k9, gd_pos k9', gd_pos k10, gd_pos k10', cl, cl', s0, s0', hmis, hmis', q1, q2, q3, m1, q4]
                by_cases q5 : nI n' < x4
                · simp [fn_X10_copy, d1, d3, gd_pos km, p20, p21, gd_pos k9, gd_pos k9', gd_pos k10, gd_pos k10', cl, cl', s0, s0', hmis, hmis', q1, q2, q3, m1, q4, m1', q5]
                by_cases q6 : nI n - x2 < x5
                · simp [fn_X10_copy, d1, d3, gd_pos km, p20, p21, gd_pos k9, gd_pos k9', gd_pos k10, gd_pos k10', cl, cl', s0, s0', hmis, hmis', q1, q2, q3, m1, q4, m1', q5, q6]
                have q7 : nI n' - x4 < x5 := by rcases hq with h | h | h | h | h | h | h <;> first | exact h | exact absurd h (by assumption)
                have q7 := Int32.not_le.mpr q7
                simp [fn_X10_copy, d1, d3, gd_pos km, p20, p21, gd_pos k9, gd_pos k9', gd_pos k10, gd_pos k10', cl, cl', s0, s0', hmis, hmis', q1, q2, q3, m1, q4, m1', q5, q6, q7]
            by_cases q1 : x5 < 0
            · exact bad (Or.inl q1)
            by_cases q2 : x2 < 0
            · exact bad (Or.inr (Or.inl q2))
            by_cases q3 : x4 < 0
            · exact bad (Or.inr (Or.inr (Or.inl q3)))
            by_cases q4 : nI n < x2
            · exact bad (Or.inr (Or.inr (Or.inr (Or.inl q4))))
            by_cases q5 : nI n' < x4
            · exact bad (Or.inr (Or.inr (Or.inr (Or.inr (Or.inl q5)))))
            by_cases q6 : nI n - x2 < x5
            · exact bad (Or.inr (Or.inr (Or.inr (Or.inr (Or.inr (Or.inl q6))))))
            by_cases q7 : nI n' - x4 < x5
            · exact bad (Or.inr (Or.inr (Or.inr (Or.inr (Or.inr (Or.inr q7))))))
            obtain ⟨c, hc, rfl⟩ := natOf q1
            obtain ⟨s, hs, rfl⟩ := natOf q2
            obtain ⟨t, ht, rfl⟩ := natOf q3
            have h4 : s ≤ n := Nat.not_lt.mp (fun h => q4 (nI_lt h hs))
            have h5 : t ≤ n' := Nat.not_lt.mp (fun h => q5 (nI_lt h ht))
            have q6' : ¬ nI (n - s) < nI c := by rw [← pk_sub h4]; exact q6
            have q7' : ¬ nI (n' - t) < nI c := by rw [← pk_sub h5]; exact q7
            have h6 : c ≤ n - s := Nat.not_lt.mp (fun h => q6' (nI_lt h hc))
            have h7 : c ≤ n' - t := Nat.not_lt.mp (fun h => q7' (nI_lt h hc))
            obtain ⟨I1, hI1⟩ : ∃ I1, I1 = cp2 I (b + 111 + 2 * i) s (b + 111 + 2 * k) t c := ⟨_, rfl⟩
            obtain ⟨I2, w1, w2, w3⟩ := e_copyL (I := I1) (i := i) (k := k) (s := s) (t := t) (n := c) hmod hi hk (by omega) (by omega)
            have o1 : ∀ a, a ≠ b + 111 + 2 * k → I1 a = I a := fun a h => by rw [hI1]; exact cp2_ne I _ _ _ _ h
            have ho : ∀ a, a ≠ b + 111 + 2 * k → a ≠ b + 126 + 11 → I2 a = I a := fun a h h' => (w2 a h').trans (o1 a h)
            have t1 : ∀ j, I2 (b + 111 + 2 * k) j = if t ≤ j ∧ j < t + c then I (b + 111 + 2 * i) (s + (j - t)) else I (b + 111 + 2 * k) j := fun j => by rw [w2 _ (by omega), hI1, cp2_row]; rfl
            have gc : cpg K N (b + 111 + 2 * i) (nI s) (b + 111 + 2 * k) (nI t) (nI c) := ⟨k12, l12, nI_pos (by omega), nI_pos (by omega), nI_pos (by omega), by rw [nI_clamp (by omega), nI_clamp (by omega), n40]; omega, by rw [nI_clamp (by omega), nI_clamp (by omega), l40]; omega⟩
            refine ⟨(nI c, I1), ?_, (nI c, I2), ?_, rfl, ?_⟩
            · rw [hty] at hmis
              simp [fn_X9_copy, c1, c3, gd_pos kb, pb4, gd_pos g1, g2, gd_pos f1, f2, fn_X7_isMissing, gd_pos k8, gd_pos l8, hmis, hmis', hty, fn_X7_hasPart, q1, q2, s1, q4, q6, q3, s1', q5, q7, p2, r2, gd_pos gc, nI_clamp hs, nI_clamp ht, nI_clamp hc, ← hI1]
            · have u0 : I1 (b + 126 + 9) = I (b + 126 + 9) := o1 _ (by omega)
              have u1 : I1 (b + 126 + 10) = I (b + 126 + 10) := o1 _ (by omega)
              have q7 := Int32.not_lt.mp q7
              rw [hty] at hmis s0
              simp [fn_X10_copy, d1, d3, gd_pos km, p20, p21, gd_pos k9, gd_pos k9', gd_pos k10, gd_pos k10', cl, cl', u0, u1, s0, s0', hmis, hmis', q1, q2, q3, m1, q4, m1', q5, q6, q7, w1]
            · show Rel K N b I2 P
              refine hR0.sheets (fun a h h1 h2 h3 => ho a (by omega) (by omega)) (fun z hz => ?_)
              obtain ⟨nk, hnk, z0, z01, zm, z1, zm1, zit⟩ := hsheets z hz
              have e9 : I2 (b + 135) = I (b + 135) := ho _ (by omega) (by omega)
              have e10 : I2 (b + 136) = I (b + 136) := ho _ (by omega) (by omega)
              have e0 : I2 (b + 110 + 2 * z) = I (b + 110 + 2 * z) := ho _ (by omega) (by omega)
              refine ⟨nk, hnk, by rw [e0, e9]; exact z0, by rw [e9]; exact z01, by rw [e9]; exact zm, by rw [e0]; exact z1, by rw [e10]; exact zm1, fun d hd => ?_⟩
              have hz2 : I (b + 111 + 2 * z) d = I (b + 126 + 11) (40 * z + d) := zit d hd
              show I2 (b + 111 + 2 * z) d = I2 (b + 126 + 11) (40 * z + d)
              have v11 : I1 (b + 126 + 11) = I (b + 126 + 11) := o1 _ (by omega)
              rw [w3, v11]
              by_cases hki : z = k
              · subst hki
                rw [t1]
                by_cases hdj : t ≤ d ∧ d < t + c
                · rw [if_pos hdj, if_pos (by omega)]
                  have e := it (s + (d - t)) (by omega)
                  have e : I (b + 111 + 2 * i) (s + (d - t)) = I (b + 126 + 11) (40 * i + (s + (d - t))) := e
                  rw [e]; congr 1; omega
                · rw [if_neg hdj, if_neg (by omega)]; exact hz2
              · rw [ho (b + 111 + 2 * z) (by omega) (by omega), if_neg (by omega)]; exact hz2
          · refine ⟨(-13, I), by simp [fn_X9_copy, c1, c3, gd_pos kb, pb4, gd_pos g1, g2, gd_pos f1, f2, fn_X7_isMissing, gd_pos k8, gd_pos l8, hmis, hmis', hty], (-13, I), by simp [fn_X10_copy, d1, d3, gd_pos km, p20, gd_pos k9, gd_pos k9', cl, cl', s0, s0', hmis, hmis', hty], rfl, hR0⟩
    · rw [bI_f h3] at c3 d3
      exact ⟨(-2, I), by simp [fn_X9_copy, c1, c3], (-2, I), by simp [fn_X10_copy, d1, d3], rfl, hR0⟩
  · rw [bI_f h1] at c1 d1
    exact ⟨(-2, I), by simp [fn_X9_copy, c1], (-2, I), by simp [fn_X10_copy, d1], rfl, hR0⟩
