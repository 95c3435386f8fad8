/-! answers that change nothing: told, taken, dot -/
theorem e_hasLayer {K N : Nat → Nat} {I : Nat → Nat → Int32} {P : Nat → Nat → Option Nat} {c cnt : Nat} (hk : K c = 7) (hc : cnt < 2 ^ 31) (hg : I c 1 = nI cnt) (x : Int32) : fn_X6_hasLayer K N I P c x = some (bI (inR x cnt)) := by
  unfold fn_X6_hasLayer
  rcases Int32_cases x cnt hc with ⟨j, hj, rfl⟩ | h
  · rw [if_neg (nI_pos (by omega)), gd_pos hk, hg, if_neg (nI_ge hj hc), bI_t ⟨j, hj, rfl⟩]
  · have hn : ¬ inR x cnt := by
      rintro ⟨j, hj, rfl⟩
      rcases h with h | h
      · exact nI_pos (by omega) h
      · exact nI_ge hj hc h
    rw [bI_f hn]
    by_cases h1 : x < 0
    · rw [if_pos h1]
    · rw [if_neg h1, gd_pos hk, hg, if_pos (h.resolve_left h1)]
theorem e_isLayer {K N : Nat → Nat} {I : Nat → Nat → Int32} {P : Nat → Nat → Option Nat} {m cnt : Nat} (hM : ModSh K N P m) (hc : cnt ≤ 4) (hg : I (m + 1) 0 = nI cnt) (x : Int32) : fn_X10_isLayer K N I P m x = some (bI (inR x cnt)) := by
  obtain ⟨⟨k0, k1, -⟩, ⟨n1, -⟩, ⟨p0, -⟩⟩ := hM
  unfold fn_X10_isLayer
  rw [gd_pos k0, p0, Option.bind_some, gd_pos ⟨k1, by rw [n1]; exact vp_in_nI (n := 0) (by decide) (by decide)⟩, hg]
  have e : fn_X10_isIn x 0 (nI cnt - 1) = some (bI (inR x cnt)) := by
    by_cases h0 : cnt = 0
    · subst h0
      rw [isIn_eq, isWithin_bI]
      congr 1
      rw [bI_f (fun h => by
        have h1 := Int32.le_iff_toInt_le.mp h.1
        have h2 := Int32.le_iff_toInt_le.mp h.2
        have e1 : (nI 0 - 1 : Int32).toInt = -1 := rfl
        have e0 : (0 : Int32).toInt = 0 := rfl
        omega), bI_f (fun ⟨j, hj, _⟩ => absurd hj (by omega))]
    · have e1 : nI cnt - 1 = nI (cnt - 1) := pk_sub (a := cnt) (b := 1) (by omega)
      rw [e1]
      exact isIn_nI (by omega) (by omega)
  rw [e, Option.bind_some, gd_01]
theorem m_l {k x : Nat} (l : Nat) (h : (nI k : Int32) = nI x) : (nI k : Int32) + nI l = nI (x + l) := by rw [h, nI_add]
/-- the model's slot of a layer -/
theorem e_sl (k l : Nat) : (nI k : Int32) + nI l = nI (k + l) := nI_add k l
theorem e_sd (k l d : Nat) : (nI k : Int32) + (192 : Int32) * nI l + nI d = nI (k + 192 * l + d) := by rw [show (192 : Int32) = nI 192 from rfl, pk_mul, nI_add, nI_add]
theorem vp_g {K N : Nat → Nat} {P : Nat → Nat → Option Nat} {m : Nat} (hM : ModSh K N P m) {j : Nat} (hj : j < 5608) : K (m + 1) = 12 ∧ vp_in (nI j) (N (m + 1)) := ⟨hM.1.2.1, by rw [hM.2.1.1]; exact vp_in_nI hj (by decide)⟩
/-- the class's counting of covered dots, the model's -/
theorem e_coveredDots {K N : Nat → Nat} {I : Nat → Nat → Int32} {P : Nat → Nat → Option Nat} {q : Nat} (hL : LaySh K N P q) : fn_X4_coveredDots K N I P q = some (nI (cnt1 (fun d => I (q + 2) d) 192)) := by
  obtain ⟨k0, k1, n1, k2, n2, p0, p1⟩ := hL
  have key := loop_ok (F := fun n i s => fn_X4_coveredDots_L4 K N q I P n s (nI i)) 192 (fun i s => s = nI (cnt1 (fun d => I (q + 2) d) i)) (fun r => r = nI (cnt1 (fun d => I (q + 2) d) 192))
    (fun n s hs => by
      simp only [fn_X4_coveredDots_L4]
      rw [show (192 : Int32) = nI 192 from rfl, if_pos (nI_le (Nat.le_refl _) (by omega))]
      exact ok_some.mpr hs)
    (fun n i s hi hs k => by
      simp only [fn_X4_coveredDots_L4]
      rw [show (192 : Int32) = nI 192 from rfl, if_neg (nI_ge hi (by omega)), gd_pos k0, p1, Option.bind_some, gd_pos ⟨k2, by rw [n2]; exact vp_192 hi⟩, nI_clamp (by omega)]
      by_cases h : I (q + 2) i = 0
      · rw [if_pos h, nI_1]
        exact k _ (by rw [hs]; simp [cnt1, h])
      · rw [if_neg h, nI_1]
        exact k _ (by rw [hs, nI_1]; simp [cnt1, h]))
    FU 0 0 (Nat.zero_le _) (FU_lt (by omega)) rfl
  obtain ⟨r, h1, h2⟩ := key
  unfold fn_X4_coveredDots
  rw [show fn_X4_coveredDots_L4 K N q I P FU 0 0 = some r from h1, Option.bind_some, h2]
theorem e_covered {K N : Nat → Nat} {I : Nat → Nat → Int32} {P : Nat → Nat → Option Nat} {m l : Nat} (hM : ModSh K N P m) (hl : l < 4) (hr : ∀ d, d < 192 → inR (I (m + 1) (788 + 192 * l + d)) 256) : fn_X10_covered K N I P m (nI l) = some (nI (cnt1 (fun d => I (m + 1) (788 + 192 * l + d)) 192)) := by
  have key := loop_ok (F := fun n i s => fn_X10_covered_L4 K N m (nI l) I P n s (nI i)) 192 (fun i s => s = nI (cnt1 (fun d => I (m + 1) (788 + 192 * l + d)) i)) (fun r => r = nI (cnt1 (fun d => I (m + 1) (788 + 192 * l + d)) 192))
    (fun n s hs => by
      simp only [fn_X10_covered_L4]
      rw [show (192 : Int32) = nI 192 from rfl, if_pos (nI_le (Nat.le_refl _) (by omega))]
      exact ok_some.mpr hs)
    (fun n i s hi hs k => by
      simp only [fn_X10_covered_L4]
      rw [if_neg (show ¬ (192 : Int32) ≤ nI i from nI_ge (b := 192) hi (by decide)), gd_pos hM.1.1, hM.2.2.1, Option.bind_some, show (788 : Int32) + (192 : Int32) * nI l + nI i = nI (788 + 192 * l + i) from e_sd 788 l i, gd_pos (vp_g hM (by omega)), nI_clamp (by omega)]
      have h0 := r_256.mp (hr i hi)
      have z0 : (0 : Int32).toInt = 0 := rfl
      by_cases h : I (m + 1) (788 + 192 * l + i) = 0
      · rw [if_pos (by rw [h]; decide), Option.bind_some, nI_1]
        exact k _ (by rw [hs]; simp [cnt1, h])
      · rw [if_neg (fun e => h (by rw [Int32.le_iff_toInt_le] at e; rw [← Int32.toInt_inj]; omega)), Option.bind_some, nI_1]
        exact k _ (by rw [hs, nI_1]; simp [cnt1, h]))
    FU 0 0 (Nat.zero_le _) (FU_lt (by omega)) rfl
  obtain ⟨r, h1, h2⟩ := key
  unfold fn_X10_covered
  rw [show fn_X10_covered_L4 K N m (nI l) I P FU 0 0 = some r from h1, Option.bind_some, h2]
theorem cnt1_cong {f g : Nat → Int32} : ∀ n, (∀ d, d < n → f d = g d) → cnt1 f n = cnt1 g n
  | 0, _ => rfl
  | n + 1, h => by rw [cnt1, cnt1, cnt1_cong n (fun d hd => h d (by omega)), h n (Nat.lt_succ_self n)]
/-- the layer at a place: its cell -/
theorem e_layAt {K N : Nat → Nat} {P : Nat → Nat → Option Nat} {c l : Nat} {σ : Nat → Nat} (hP : PicSh K N P c) (hl : l < 4) (hs : ∀ i, i < 4 → P (c + 1) i = some (c + 40 + 3 * σ i)) : (K (c + 1) = 15 ∧ vp_in (nI l) (N (c + 1))) ∧ P (c + 1) (nI l).toNatClampNeg = some (c + 40 + 3 * σ l) := by
  obtain ⟨⟨k0, k1, n1, -⟩, -⟩ := hP
  exact ⟨⟨k1, by rw [n1]; exact vp_in_nI hl (by decide)⟩, by rw [nI_clamp (by omega)]; exact hs l hl⟩
theorem inR4 {x : Int32} (h : inR x 4) : x = 0 ∨ x = 1 ∨ x = 2 ∨ x = 3 := by
  obtain ⟨j, hj, rfl⟩ := h
  have : j = 0 ∨ j = 1 ∨ j = 2 ∨ j = 3 := by omega
  rcases this with rfl | rfl | rfl | rfl
  · exact Or.inl rfl
  · exact Or.inr (Or.inl rfl)
  · exact Or.inr (Or.inr (Or.inl rfl))
  · exact Or.inr (Or.inr (Or.inr rfl))
theorem inR_lit {j n : Nat} (h : j < n) : inR (nI j) n := ⟨j, h, rfl⟩
set_option maxHeartbeats 2000000 in
theorem q_told {K N : Nat → Nat} {b : Nat} : sp_told (Rel K N b) b K N := by
  intro I P x1 x2 hR
  have hR0 := hR
  obtain ⟨⟨hroot, hp1, hp53, hmod⟩, ⟨cnt, kp, al, σ, τ, ⟨hcnt, -, -⟩, ⟨hσ, -, hlay, -⟩, ⟨hc1, hg0⟩, -, -, hlays, -⟩, -, -, -⟩ := hR
  have hg0 : I (b + 126 + 1) 0 = nI cnt := hg0
  have hlays : ∀ i, i < cnt → LayR I (b + 1 + 40 + 3 * σ i) (I (b + 126 + 1)) i ∧ LayI (I (b + 126 + 1)) i := hlays
  obtain ⟨⟨kb, pb0, -⟩, -⟩ := hroot
  have k7 : K (b + 1) = 7 := hp1.1.1
  have p0 : P (b + 1) 0 = some (b + 1 + 1) := hp1.2.1.1
  have km := hmod.1.1
  have pm := hmod.2.2.1
  suffices h : ∃ r, fn_X9_told K N I P b x1 x2 = some r ∧ fn_X10_told K N I P (b + 126) x1 x2 = some r by
    obtain ⟨r, h1, h2⟩ := h
    exact ⟨r, h1, r, h2, rfl, hR0⟩
  have e1 := e_hasLayer (N := N) (P := P) k7 (show cnt < 2 ^ 31 by omega) hc1 x1
  have e2 := e_isLayer hmod hcnt hg0 x1
  by_cases hx : inR x1 cnt
  · rw [bI_t hx] at e1 e2
    obtain ⟨l, hl, rfl⟩ := hx
    obtain ⟨⟨r2, r3, r4, rd⟩, ⟨-, -, -, di⟩⟩ := hlays l hl
    obtain ⟨g1, g2⟩ := e_layAt hp1 (show l < 4 by omega) hlay
    have hsh := hp1.2.2.2 (σ l) (hσ.1 l (by omega))
    have ks := hsh.1
    have e3 : fn_X10_isIn x2 0 3 = some (bI (inR x2 4)) := isIn_nI (n := 4) (by decide) (by decide)
    have s8 : (8 : Int32) + nI l = nI (8 + l) := e_sl 8 l
    have s12 : (12 : Int32) + nI l = nI (12 + l) := e_sl 12 l
    have s16 : (16 : Int32) + nI l = nI (16 + l) := e_sl 16 l
    by_cases h2 : inR x2 4
    · rw [bI_t h2] at e3
      rcases inR4 h2 with rfl | rfl | rfl | rfl
      · refine ⟨I (b + 1 + 40 + 3 * σ l) 2, ?_, ?_⟩
        · simp [fn_X9_told, gd_pos kb, pb0, e1, gd_pos k7, p0, gd_pos g1, g2, gd_pos ks]
        · simp [fn_X10_told, e2, gd_pos km, e3, pm, s8, gd_pos (vp_g hmod (show 8 + l < 5608 by omega)), nI_clamp (show 8 + l < 2 ^ 31 by omega), r2]
      · refine ⟨I (b + 1 + 40 + 3 * σ l) 3, ?_, ?_⟩
        · simp [fn_X9_told, gd_pos kb, pb0, e1, gd_pos k7, p0, gd_pos g1, g2, gd_pos ks]
        · simp [fn_X10_told, e2, gd_pos km, e3, pm, s12, gd_pos (vp_g hmod (show 12 + l < 5608 by omega)), nI_clamp (show 12 + l < 2 ^ 31 by omega), r3]
      · refine ⟨I (b + 1 + 40 + 3 * σ l) 4, ?_, ?_⟩
        · simp [fn_X9_told, gd_pos kb, pb0, e1, gd_pos k7, p0, gd_pos g1, g2, gd_pos ks]
        · simp [fn_X10_told, e2, gd_pos km, e3, pm, s16, gd_pos (vp_g hmod (show 16 + l < 5608 by omega)), nI_clamp (show 16 + l < 2 ^ 31 by omega), r4]
      · refine ⟨nI (cnt1 (fun d => I (b + 1 + 40 + 3 * σ l + 2) d) 192), ?_, ?_⟩
        · simp [fn_X9_told, gd_pos kb, pb0, e1, gd_pos k7, p0, gd_pos g1, g2, gd_pos ks, e_coveredDots hsh]
        · simp [fn_X10_told, e2, gd_pos km, e3, e_covered hmod (show l < 4 by omega) (fun d hd => (di d hd).2.1)]
          rw [cnt1_cong 192 (fun d hd => (rd d hd).2)]
    · rw [bI_f h2] at e3
      have n0 : ¬ x2 = 0 := fun e => h2 (e ▸ inR_lit (j := 0) (by decide))
      have n1 : ¬ x2 = 1 := fun e => h2 (e ▸ inR_lit (j := 1) (by decide))
      have n2 : ¬ x2 = 2 := fun e => h2 (e ▸ inR_lit (j := 2) (by decide))
      have n3 : ¬ x2 = 3 := fun e => h2 (e ▸ inR_lit (j := 3) (by decide))
      refine ⟨-2, ?_, ?_⟩
      · simp [fn_X9_told, gd_pos kb, pb0, e1, gd_pos k7, p0, gd_pos g1, g2, n0, n1, n2, n3]
      · simp [fn_X10_told, e2, gd_pos km, e3]
  · rw [bI_f hx] at e1 e2
    refine ⟨-2, ?_, ?_⟩
    · simp [fn_X9_told, gd_pos kb, pb0, e1, gd_pos k7]
    · simp [fn_X10_told, e2, gd_pos km]
