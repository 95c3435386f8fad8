/-! taken: modes under modes -/
theorem u_step {u : Int32} {m i : Nat} (hm : m < 6) (hi : i < 6) (n : Nat) : fn_X9_isUnder_L4 u (n + 1) (nI m) (nI i) = if nI m = u then some (Sum.inl 1) else fn_X9_isUnder_L4 u n (mm_zm m) (nI (i + 1)) := by
  simp only [fn_X9_isUnder_L4]
  rw [if_neg (show ¬ (6 : Int32) ≤ nI i from nI_ge (b := 6) hi (by decide)), show (5 : Int32) = nI (6 - 1) from rfl, isWithin_nI (by decide) (by decide), Option.bind_some, bI_t ⟨m, hm, rfl⟩, if_neg (by decide), gd_pos (vp_in_nI hm (by decide)), Option.bind_some, nI_clamp (by omega), nI_1]
theorem u_end {u : Int32} {i : Nat} (n : Nat) : fn_X9_isUnder_L4 u (n + 1) (-1) (nI i) = some (Sum.inr ()) := by
  simp only [fn_X9_isUnder_L4]
  split
  · rfl
  · rw [show fn_X9_isWithin (-1) 0 5 = some 0 from rfl, Option.bind_some, if_pos rfl]
theorem a_step {u : Int32} {v : Int32} (n : Nat) : fn_X10_taken_L38 u (n + 1) v = if v = u then some v else if v = -1 then some v else Option.bind (fn_X10_above v) (fun r => fn_X10_taken_L38 u n r) := by
  simp only [fn_X10_taken_L38]
theorem inR6 {x : Int32} (h : inR x 6) : x = nI 0 ∨ x = nI 1 ∨ x = nI 2 ∨ x = nI 3 ∨ x = nI 4 ∨ x = nI 5 := by
  obtain ⟨j, hj, rfl⟩ := h
  have : j = 0 ∨ j = 1 ∨ j = 2 ∨ j = 3 ∨ j = 4 ∨ j = 5 := by omega
  rcases this with h | h | h | h | h | h <;> subst h <;> simp
def undr (m u : Int32) : Prop := m = u ∨ u = 0 ∨ (m = 3 ∧ u = 1) ∨ (m = 4 ∧ u = 2)
theorem z0 : mm_zm 0 = -1 := by rfl
theorem z1 : mm_zm 1 = nI 0 := by rfl
theorem z2 : mm_zm 2 = nI 0 := by rfl
theorem z3 : mm_zm 3 = nI 1 := by rfl
theorem z4 : mm_zm 4 = nI 2 := by rfl
theorem z5 : mm_zm 5 = nI 0 := by rfl
theorem FU_6 : FU = 5994 + 1 + 1 + 1 + 1 + 1 + 1 := rfl
theorem e_isUnder {K N : Nat → Nat} {I : Nat → Nat → Int32} {P : Nat → Nat → Option Nat} {m u : Int32} (hm : inR m 6) (hu : inR u 6) : fn_X9_isUnder K N I P m u = some (bI (undr m u)) := by
  unfold fn_X9_isUnder
  rw [FU_6]
  rcases inR6 hm with rfl | rfl | rfl | rfl | rfl | rfl <;> rcases inR6 hu with rfl | rfl | rfl | rfl | rfl | rfl <;>
    (rw [show (0 : Int32) = nI 0 from rfl]
     repeat (first | rw [u_step (by decide) (by decide)] | rw [u_end])
     simp only [z0, z1, z2, z3, z4, z5]
     repeat (first | rw [u_step (by decide) (by decide)] | rw [u_end] | simp only [z0, z1, z2, z3, z4, z5])
     first | rw [bI_t (show undr _ _ by unfold undr; decide)] | rw [bI_f (show ¬ undr _ _ by unfold undr; decide)]
     first | rfl | (simp [nI_eq]; done) | (simp [nI_eq]; rfl))
theorem e_takenL {m u : Int32} (hm : inR m 6) (hu : inR u 6) : fn_X10_taken_L38 u FU m = some (if bI (undr m u) = 0 then -1 else u) := by
  rw [FU_6]
  rcases inR6 hm with rfl | rfl | rfl | rfl | rfl | rfl <;> rcases inR6 hu with rfl | rfl | rfl | rfl | rfl | rfl <;>
    (first | rw [bI_t (show undr _ _ by unfold undr; decide)] | rw [bI_f (show ¬ undr _ _ by unfold undr; decide)]
     first | rfl | decide | (simp only [a_step, fn_X10_above]; first | rfl | decide | (simp [nI_eq]; done) | (simp [nI_eq]; rfl)))
theorem ne_m1 {x : Int32} {n : Nat} (hn : n < 2 ^ 31) (h : inR x n) : ¬ x = -1 := by
  intro e
  have h1 := ((inR_iff hn).mp h).1
  rw [e] at h1
  exact absurd h1 (by decide)
set_option maxHeartbeats 2000000 in
theorem q_taken {K N : Nat → Nat} {b : Nat} : sp_taken (Rel K N b) b K N := by
  intro I P x1 x2 x3 hR
  have hR0 := hR
  obtain ⟨⟨hroot, hp1, hp53, hmod⟩, ⟨cnt, kp, al, σ, τ, hpic⟩, himg, ⟨fed, htape⟩, hsheets⟩ := hR
  have hpic : PicR I P (b + 1) (I (b + 126 + 1)) cnt kp al σ τ := hpic
  have hpic0 := hpic
  obtain ⟨⟨hcnt, hkp, hal⟩, ⟨hσ, hτ, hlay, hact⟩, ⟨hc1, hg0⟩, ⟨hpap, hpap2⟩, hbr, hlays, hmask, ⟨ha1, ha2, ha3, ha4⟩, hacts⟩ := hpic
  obtain ⟨⟨kb, pb0, pb1, pb3, pb4, pb5, pb6, pb7⟩, hrt, hrs, hrc, hrth, hrl⟩ := id hroot
  obtain ⟨⟨k7, k15, n4, k6, k13, n192, k3, k2, k14, n11⟩, ⟨pp0, pp3, pp4, pp5, pm0, pa0⟩, hacsh, hlash⟩ := id hp1
  have km := hmod.1.1
  have pm := hmod.2.2.1
  suffices h : ∃ r, fn_X9_taken K N I P b x1 x2 x3 = some r ∧ fn_X10_taken K N I P (b + 126) x1 x2 x3 = some r by
    obtain ⟨r, h1, h2⟩ := h
    exact ⟨r, h1, r, h2, rfl, hR0⟩
  have e1 := e_hasLayer (N := N) (P := P) k7 (show cnt < 2 ^ 31 by omega) hc1 x1
  have e2 := e_isLayer hmod hcnt hg0 x1
  have c2 : fn_X9_isWithin x2 0 5 = some (bI (inR x2 6)) := isWithin_nI (n := 6) (by decide) (by decide)
  have d2 : fn_X10_isIn x2 0 5 = some (bI (inR x2 6)) := isIn_nI (n := 6) (by decide) (by decide)
  have c3 := e_isByte x3
  have d3 := e_isByte' x3
  by_cases hx : inR x1 cnt
  · rw [bI_t hx] at e1 e2
    obtain ⟨l, hl, rfl⟩ := hx
    obtain ⟨⟨r2, r3, r4, rd⟩, ⟨im, ig, io, di⟩⟩ := hlays l hl
    obtain ⟨g1, g2⟩ := e_layAt hp1 (show l < 4 by omega) hlay
    have hsh := hlash (σ l) (hσ.1 l (by omega))
    have ks := hsh.1
    have s8 : (8 : Int32) + nI l = nI (8 + l) := e_sl 8 l
    have s12 : (12 : Int32) + nI l = nI (12 + l) := e_sl 12 l
    by_cases h2 : inR x2 6
    · rw [bI_t h2] at c2 d2
      by_cases h3 : inR x3 256
      · rw [bI_t h3] at c3 d3
        have hu := e_isUnder (K := K) (N := N) (I := I) (P := P) im h2
        have hv := e_takenL im h2
        have hmk := e_makes (N := N) (P := P) (q := b + 1 + 40 + 3 * σ l) (b := x3) (v := 200) (I := I) ks h3 (inR_lit (j := 200) (by decide)) (by rw [r3]; exact ig)
        by_cases hq : undr (I (b + 126 + 1) (8 + l)) x2
        · rw [bI_t hq] at hu hv
          have hne : ¬ x2 = -1 := ne_m1 (by decide) h2
          refine ⟨bl (I (b + 1 + 40 + 3 * σ l) 2) (I (b + 1 + 40 + 3 * σ l) 3) x3 200, ?_, ?_⟩
          · simp [fn_X9_taken, gd_pos kb, pb0, e1, gd_pos k7, pp0, c2, c3, gd_pos g1, g2, gd_pos ks, r2, hu, hmk]
          · simp [fn_X10_taken, e2, gd_pos km, d2, d3, pm, s8, s12, gd_pos (vp_g hmod (show 8 + l < 5608 by omega)), gd_pos (vp_g hmod (show 12 + l < 5608 by omega)), nI_clamp (show 8 + l < 2 ^ 31 by omega), nI_clamp (show 12 + l < 2 ^ 31 by omega), hv, hne, e_blended, r2, r3]
        · rw [bI_f hq] at hu hv
          refine ⟨-13, ?_, ?_⟩
          · simp [fn_X9_taken, gd_pos kb, pb0, e1, gd_pos k7, pp0, c2, c3, gd_pos g1, g2, gd_pos ks, r2, hu]
          · simp [fn_X10_taken, e2, gd_pos km, d2, d3, pm, s8, gd_pos (vp_g hmod (show 8 + l < 5608 by omega)), nI_clamp (show 8 + l < 2 ^ 31 by omega), hv]
      · rw [bI_f h3] at c3 d3
        refine ⟨-2, ?_, ?_⟩
        · simp [fn_X9_taken, gd_pos kb, pb0, e1, gd_pos k7, c2, c3]
        · simp [fn_X10_taken, e2, gd_pos km, d2, d3]
    · rw [bI_f h2] at c2 d2
      refine ⟨-2, ?_, ?_⟩
      · simp [fn_X9_taken, gd_pos kb, pb0, e1, gd_pos k7, c2]
      · simp [fn_X10_taken, e2, gd_pos km, d2]
  · rw [bI_f hx] at e1 e2
    refine ⟨-2, ?_, ?_⟩
    · simp [fn_X9_taken, gd_pos kb, pb0, e1, gd_pos k7]
    · simp [fn_X10_taken, e2, gd_pos km]
