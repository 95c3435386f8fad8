/-! dot, masked, count -/
theorem nI_m1 {l : Nat} (h : l < 2 ^ 31) : ¬ nI l = -1 := fun e => by
  have h1 := congrArg Int32.toInt e
  have m1 : (-1 : Int32).toInt = -1 := rfl
  rw [nI_toInt h, m1] at h1
  omega
theorem e_seenNow {K N : Nat → Nat} {b : Nat} : ∀ (I : Nat → Nat → Int32) (P : Nat → Nat → Option Nat) (d : Nat), Rel K N b I P → d < 192 → ∃ r, fn_X9_seenAt K N I P b (nI d) = some r ∧ fn_X10_seen_ K N I P (b + 126) (nI d) = some r ∧ inR r 256 := by
  intro I P d hR
  have hR0 := hR
  obtain ⟨⟨hroot, hp1, hp53, hmod⟩, ⟨cnt, kp, al, σ, τ, hpic⟩, himg, ⟨fed, htape⟩, hsheets⟩ := hR
  have hpic : PicR I P (b + 1) (I (b + 126 + 1)) cnt kp al σ τ := hpic
  have hpic0 := hpic
  obtain ⟨⟨hcnt, hkp, hal⟩, ⟨hσ, hτ, hlay, hact⟩, ⟨hc1, hg0⟩, ⟨hpap, hpap2⟩, hbr, hlays, hmask, ⟨ha1, ha2, ha3, ha4⟩, hacts⟩ := hpic
  obtain ⟨⟨kb, pb0, pb1, pb3, pb4, pb5, pb6, pb7⟩, hrt, hrs, hrc, hrth, hrl⟩ := id hroot
  obtain ⟨⟨k7, k15, n4, k6, k13, n192, k3, k2, k14, n11⟩, ⟨pp0, pp3, pp4, pp5, pm0, pa0⟩, hacsh, hlash⟩ := id hp1
  have km := hmod.1.1
  have pm := hmod.2.2.1
  intro hd
  have hb : inR (I (b + 1) 2) 256 := by rw [hpap]; exact hpap2
  have hin : ∀ l, l < cnt → inR (I (b + 1 + 40 + 3 * σ l) 3) 100 ∧ inR (I (b + 1 + 40 + 3 * σ l) 4) 256 ∧ inR (I (b + 1 + 40 + 3 * σ l + 1) d) 256 ∧ inR (I (b + 1 + 40 + 3 * σ l + 2) d) 256 := fun l hl => by
    obtain ⟨⟨r2, r3, r4, rd⟩, ⟨im, ig, io, di⟩⟩ := hlays l hl
    rw [r3, r4, (rd d hd).1, (rd d hd).2]
    exact ⟨ig, io, (di d hd).1, (di d hd).2.1⟩
  have h1 := e_seenIf hp1 hrth hd hcnt hc1 hσ hlay (-1) (fun l => b + 1 + 40 + 3 * σ l) (fun l hl => by rw [if_neg (nI_m1 (by omega))]) hin (I (b + 1) 2) hb
  have h2 := e_mseen hmod hd hcnt hg0 (I (b + 126 + 1) 1) (-1) 0
  refine ⟨seeL (fun l => I (b + 1 + 40 + 3 * σ l) 2) (fun l => I (b + 1 + 40 + 3 * σ l) 3) (fun l => I (b + 1 + 40 + 3 * σ l) 4) (fun l => I (b + 1 + 40 + 3 * σ l + 1) d) (fun l => I (b + 1 + 40 + 3 * σ l + 2) d) cnt (I (b + 1) 2), ?_, ?_, seeL_in hb cnt hin⟩
  · unfold fn_X9_seenAt
    rw [gd_pos kb, pb0, Option.bind_some, gd_pos k7, pb6, Option.bind_some, h1, Option.bind_some]
  · unfold fn_X10_seen_
    rw [gd_pos km, pm, Option.bind_some, gd_pos (show K (b + 126 + 1) = 12 ∧ vp_in 1 (N (b + 126 + 1)) from vp_g hmod (j := 1) (by decide)), h2, Option.bind_some]
    congr 1
    rw [show I (b + 126 + 1) 1 = I (b + 1) 2 from hpap.symm]
    refine seeL_cong cnt (fun l hl => ?_)
    obtain ⟨⟨r2, r3, r4, rd⟩, -⟩ := hlays l hl
    exact ⟨by rw [if_neg (nI_m1 (by omega)), r2], r3.symm, r4.symm, (rd d hd).1.symm, (rd d hd).2.symm⟩
theorem dot_lt {x y : Nat} (hx : x < 16) (hy : y < 12) : 16 * y + x < 192 := by omega
theorem inR2 {x : Int32} (h : inR x 2) : x = 0 ∨ x = 1 := by
  obtain ⟨j, hj, rfl⟩ := h
  have : j = 0 ∨ j = 1 := by omega
  rcases this with rfl | rfl
  · exact Or.inl rfl
  · exact Or.inr rfl
theorem e_sd' (k l d : Nat) : (OfNat.ofNat k : Int32) + ((192 : Int32) * nI l) + nI d = nI (k + 192 * l + d) := e_sd k l d
set_option maxHeartbeats 2000000 in
theorem q_dot {K N : Nat → Nat} {b : Nat} : sp_dot (Rel K N b) b K N := by
  intro I P x1 x2 x3 x4 hR
  have hR0 := hR
  obtain ⟨⟨hroot, hp1, hp53, hmod⟩, ⟨cnt, kp, al, σ, τ, hpic⟩, himg, ⟨fed, htape⟩, hsheets⟩ := hR
  have hpic : PicR I P (b + 1) (I (b + 126 + 1)) cnt kp al σ τ := hpic
  have hpic0 := hpic
  obtain ⟨⟨hcnt, hkp, hal⟩, ⟨hσ, hτ, hlay, hact⟩, ⟨hc1, hg0⟩, ⟨hpap, hpap2⟩, hbr, hlays, hmask, ⟨ha1, ha2, ha3, ha4⟩, hacts⟩ := hpic
  obtain ⟨⟨kb, pb0, pb1, pb3, pb4, pb5, pb6, pb7⟩, hrt, hrs, hrc, hrth, hrl⟩ := id hroot
  obtain ⟨⟨k7, k15, n4, k6, k13, n192, k3, k2, k14, n11⟩, ⟨pp0, pp3, pp4, pp5, pm0, pa0⟩, hacsh, hlash⟩ := id hp1
  have km := hmod.1.1
  have pm := hmod.2.2.1
  suffices h : ∃ r, fn_X9_dot K N I P b x1 x2 x3 x4 = some r ∧ fn_X10_dot K N I P (b + 126) x1 x2 x3 x4 = some r by
    obtain ⟨r, h1, h2⟩ := h
    exact ⟨r, h1, r, h2, rfl, hR0⟩
  have e1 := e_hasLayer (N := N) (P := P) k7 (show cnt < 2 ^ 31 by omega) hc1 x1
  have e2 := e_isLayer hmod hcnt hg0 x1
  have c2 := e_isDot x2 x3
  have d2 := e_isDot' x2 x3
  have c3 : fn_X9_isWithin x4 0 1 = some (bI (inR x4 2)) := isWithin_nI (n := 2) (by decide) (by decide)
  have d3 : fn_X10_isIn x4 0 1 = some (bI (inR x4 2)) := isIn_nI (n := 2) (by decide) (by decide)
  have d3' : fn_X10_isIn x4 0 0 = some (bI (inR x4 1)) := isIn_nI (n := 1) (by decide) (by decide)
  by_cases h2 : inR x2 16 ∧ inR x3 12
  · rw [bI_t h2] at c2 d2
    obtain ⟨⟨x, hx, rfl⟩, ⟨y, hy, rfl⟩⟩ := h2
    have c4 := e_dotAt x y
    have d4 := e_dotOf x y
    have hd := dot_lt hx hy
    generalize 16 * y + x = d at c4 d4 hd
    by_cases hm : x1 = -1
    · subst hm
      obtain ⟨r, s1, s2, -⟩ := e_seenNow I P d hR0 hd
      by_cases h4 : x4 = 0
      · subst h4
        rw [bI_t (show inR 0 1 from ⟨0, by decide, rfl⟩)] at d3'
        refine ⟨r, ?_, ?_⟩
        · simp [fn_X9_dot, c2, c4, s1, gd_pos kb]
        · simp [fn_X10_dot, d2, d3', d4, s2, gd_pos km]
      · rw [bI_f (fun ⟨j, hj, e⟩ => h4 (by rw [e, show j = 0 by omega]; rfl))] at d3'
        refine ⟨-2, ?_, ?_⟩
        · simp [fn_X9_dot, c2, h4]
        · simp [fn_X10_dot, d2, d3']
    · by_cases hx : inR x1 cnt
      · rw [bI_t hx] at e1 e2
        obtain ⟨l, hl, rfl⟩ := hx
        obtain ⟨⟨r2, r3, r4, rd⟩, ⟨im, ig, io, di⟩⟩ := hlays l hl
        obtain ⟨g1, g2⟩ := e_layAt hp1 (show l < 4 by omega) hlay
        obtain ⟨ks, q1, m1, q2, m2, w1, w2⟩ := hlash (σ l) (hσ.1 l (by omega))
        have s20 : (20 : Int32) + 192 * nI l + nI d = nI (20 + 192 * l + d) := e_sd 20 l d
        have s788 : (788 : Int32) + 192 * nI l + nI d = nI (788 + 192 * l + d) := e_sd 788 l d
        by_cases h4 : inR x4 2
        · rw [bI_t h4] at c3 d3
          rcases inR2 h4 with rfl | rfl
          · refine ⟨I (b + 1 + 40 + 3 * σ l + 1) d, ?_, ?_⟩
            · simp [fn_X9_dot, c2, hm, gd_pos kb, pb0, e1, gd_pos k7, c3, pp0, gd_pos g1, g2, gd_pos ks, w1, c4, gd_pos (show K (b + 1 + 40 + 3 * σ l + 1) = 12 ∧ vp_in (nI d) (N (b + 1 + 40 + 3 * σ l + 1)) from ⟨q1, by rw [m1]; exact vp_192 hd⟩), nI_clamp (show d < 2 ^ 31 by omega)]
            · simp [fn_X10_dot, hm, e2, gd_pos km, d2, d3, d4, pm, s20, gd_pos (vp_g hmod (show 20 + 192 * l + d < 5608 by omega)), nI_clamp (show 20 + 192 * l + d < 2 ^ 31 by omega), (rd d hd).1]
          · refine ⟨I (b + 1 + 40 + 3 * σ l + 2) d, ?_, ?_⟩
            · simp [fn_X9_dot, c2, hm, gd_pos kb, pb0, e1, gd_pos k7, c3, pp0, gd_pos g1, g2, gd_pos ks, w2, c4, gd_pos (show K (b + 1 + 40 + 3 * σ l + 2) = 12 ∧ vp_in (nI d) (N (b + 1 + 40 + 3 * σ l + 2)) from ⟨q2, by rw [m2]; exact vp_192 hd⟩), nI_clamp (show d < 2 ^ 31 by omega)]
            · simp [fn_X10_dot, hm, e2, gd_pos km, d2, d3, d4, pm, s788, gd_pos (vp_g hmod (show 788 + 192 * l + d < 5608 by omega)), nI_clamp (show 788 + 192 * l + d < 2 ^ 31 by omega), (rd d hd).2]
        · rw [bI_f h4] at c3 d3
          refine ⟨-2, ?_, ?_⟩
          · simp [fn_X9_dot, c2, hm, gd_pos kb, pb0, e1, gd_pos k7, c3]
          · simp [fn_X10_dot, hm, e2, gd_pos km, d2, d3]
      · rw [bI_f hx] at e1 e2
        refine ⟨-2, ?_, ?_⟩
        · simp [fn_X9_dot, c2, hm, gd_pos kb, pb0, e1, gd_pos k7]
        · simp [fn_X10_dot, hm, e2, gd_pos km]
  · rw [bI_f h2] at c2 d2
    refine ⟨-2, by simp [fn_X9_dot, c2], ?_⟩
    by_cases hm : x1 = -1
    · simp [fn_X10_dot, hm, d2]
    · by_cases hx : inR x1 cnt
      · rw [bI_t hx] at e2
        simp [fn_X10_dot, hm, e2, gd_pos km, d2]
      · rw [bI_f hx] at e2
        simp [fn_X10_dot, hm, e2, gd_pos km]
