/-! flood, wand -/
theorem regS_01 (key : Nat → Int32) {st d : Nat} (hs : st < 192) (hd : d < 192) : (regS key st 192).2.2 d = 0 ∨ (regS key st 192).2.2 d = 1 := by
  have h1 : BOk 0 (stepB key (key st) S0 (some st)) := (S0_ok.step (fun x hx => by injection hx with hx; omega)).1
  unfold regS
  exact (bfsN_ok (key := key) (k := key st) h1 192).2.1 d hd
theorem e_isRegionY {K N : Nat → Nat} {I : Nat → Nat → Int32} {P : Nat → Nat → Option Nat} {m cnt l x y : Nat} {t : Int32} {i o : Nat → Int32} (hM : ModSh K N P m) (hc : cnt ≤ 4) (hg : I (m + 1) 0 = nI cnt) (hl : l < cnt) (hx : x < 16) (hy : y < 12) (ht : inR t 256) (hi : ∀ d, d < 192 → I (m + 1) (20 + 192 * l + d) = i d ∧ I (m + 1) (788 + 192 * l + d) = o d) : ∃ I', fn_X10_isRegion K N I P m (nI l) (nI x) (nI y) t = some (1, I') ∧ (∀ a, a ≠ m + 5 → a ≠ m + 6 → I' a = I a) ∧ ∀ d, d < 192 → I' (m + 5) d = (regS (likeV i o (16 * y + x) t) (16 * y + x) 192).2.2 d := by
  obtain ⟨I', w1, w2, w3⟩ := e_region (I := I) (t := t) hM (show l < 4 by omega) hx hy ht hi
  refine ⟨I', ?_, w2, w3⟩
  unfold fn_X10_isRegion
  rw [e_isLayer hM hc hg, bI_t ⟨l, hl, rfl⟩, Option.bind_some, gd_pos hM.1.1, if_neg (by decide), e_isDot', bI_t ⟨⟨x, hx, rfl⟩, ⟨y, hy, rfl⟩⟩, Option.bind_some, if_neg (by decide), e_isByte', bI_t ht, Option.bind_some, if_neg (by decide), w1, Option.bind_some]
theorem e_isRegionN {K N : Nat → Nat} {I : Nat → Nat → Int32} {P : Nat → Nat → Option Nat} {m cnt : Nat} {x1 x2 x3 x4 : Int32} (hM : ModSh K N P m) (hc : cnt ≤ 4) (hg : I (m + 1) 0 = nI cnt) (h : ¬ (inR x1 cnt ∧ (inR x2 16 ∧ inR x3 12) ∧ inR x4 256)) : fn_X10_isRegion K N I P m x1 x2 x3 x4 = some (0, I) := by
  unfold fn_X10_isRegion
  rw [e_isLayer hM hc hg]
  by_cases h1 : inR x1 cnt
  · rw [bI_t h1, Option.bind_some, gd_pos hM.1.1, if_neg (by decide), e_isDot']
    by_cases h2 : inR x2 16 ∧ inR x3 12
    · rw [bI_t h2, Option.bind_some, if_neg (by decide), e_isByte', bI_f (fun e => h ⟨h1, h2, e⟩), Option.bind_some, if_pos rfl]
    · rw [bI_f h2, Option.bind_some, if_pos rfl]
  · rw [bI_f h1, Option.bind_some, gd_pos hM.1.1, if_pos rfl]
set_option maxHeartbeats 4000000 in
theorem q_flood {K N : Nat → Nat} {b : Nat} : sp_flood (Rel K N b) b K N := by
  intro I P x1 x2 x3 x4 hR
  have hR0 := hR
  obtain ⟨⟨hroot, hp1, hp53, hmod⟩, ⟨cnt, kp, al, σ, τ, hpic⟩, himg, ⟨fed, htape⟩, hsheets⟩ := hR
  have hpic : PicR I P (b + 1) (I (b + 126 + 1)) cnt kp al σ τ := hpic
  have hpic0 := hpic
  obtain ⟨⟨hcnt, hkp, hal⟩, ⟨hσ, hτ, hlay, hact⟩, ⟨hc1, hg0⟩, ⟨hpap, hpap2⟩, hbr, hlays, hmask, ⟨ha1, ha2, ha3, ha4⟩, hacts⟩ := hpic
  obtain ⟨⟨kb, pb0, pb1, pb3, pb4, pb5, pb6, pb7⟩, hrt, hrs, hrc, hrth, hrl⟩ := id hroot
  obtain ⟨⟨k7, k15, n4, k6, k13, n192, k3, k2, k14, n11⟩, ⟨pp0, pp3, pp4, pp5, pm0, pa0⟩, hacsh, hlash⟩ := id hp1
  have km := hmod.1.1
  have pm := hmod.2.2.1
  have e1 := e_hasLayer (N := N) (P := P) k7 (show cnt < 2 ^ 31 by omega) hc1 x1
  have c1 := e_isDot x2 x3
  have c2 := e_isByte x4
  by_cases hall : inR x1 cnt ∧ (inR x2 16 ∧ inR x3 12) ∧ inR x4 256
  · obtain ⟨hx, h1, h2⟩ := hall
    rw [bI_t hx] at e1
    rw [bI_t h1] at c1
    rw [bI_t h2] at c2
    obtain ⟨l, hl, rfl⟩ := hx
    obtain ⟨⟨x, hx, rfl⟩, ⟨y, hy, rfl⟩⟩ := h1
    have hC := chSh_of hroot
    have hpc : P (b + 118) 0 = some (b + 119) := hC.2.2.2.2.2.2.2.1
    have hsl := hσ.1 l (by omega)
    obtain ⟨g1, g2⟩ := e_layAt hp1 (show l < 4 by omega) hlay
    obtain ⟨A, a1, a2, a3⟩ := e_chooseRegion (I := I) (st := 16 * y + x) (t := x4) (i := fun d => I (b + 126 + 1) (20 + 192 * l + d)) (o := fun d => I (b + 126 + 1) (788 + 192 * l + d)) hC (hlash _ hsl) (by omega) (dot_lt hx hy) (fun d hd => (hlays l hl).1.2.2.2 d hd)
    obtain ⟨r, J', P', w1, w2, w3, w4⟩ := e_fillBoth (I0 := A) _ hR0 hpic0 hl (fun a h => a2 a (by omega)) a3
    have hmod' : ModSh K N P' (b + 126) := hmod.keep (w2 _ (by omega))
    obtain ⟨B, b1, b2, b3⟩ := e_isRegionY (I := J') (l := l) (i := fun d => I (b + 126 + 1) (20 + 192 * l + d)) (o := fun d => I (b + 126 + 1) (788 + 192 * l + d)) hmod' hcnt (by rw [w3 _ (by omega)]; exact hg0) hl hx hy h2 (fun d hd => by rw [w3 _ (by omega)]; exact ⟨rfl, rfl⟩)
    obtain ⟨I2, v1, v2⟩ := w4 B (fun a h => b2 a (by omega) (by omega)) b3
    refine ⟨(r, J', P'), ?_, (r, I2), ?_, rfl, v2⟩
    · simp [fn_X9_flood, gd_pos kb, pb0, e1, gd_pos k7, c1, c2, pb5, pp0, gd_pos g1, g2, e_dotAt, a1, gd_pos hC.1, hpc, w1]
    · simp [fn_X10_flood, b1, gd_pos km, v1]
  · refine ⟨(-2, I, P), ?_, (-2, I), by simp [fn_X10_flood, e_isRegionN hmod hcnt hg0 hall, gd_pos km], rfl, hR0⟩
    by_cases hx : inR x1 cnt
    · rw [bI_t hx] at e1
      by_cases h1 : inR x2 16 ∧ inR x3 12
      · rw [bI_t h1] at c1
        rw [bI_f (fun e => hall ⟨hx, h1, e⟩)] at c2
        simp [fn_X9_flood, gd_pos kb, pb0, e1, gd_pos k7, c1, c2]
      · rw [bI_f h1] at c1
        simp [fn_X9_flood, gd_pos kb, pb0, e1, gd_pos k7, c1]
    · rw [bI_f hx] at e1
      simp [fn_X9_flood, gd_pos kb, pb0, e1, gd_pos k7]
set_option maxHeartbeats 4000000 in
theorem q_wand {K N : Nat → Nat} {b : Nat} : sp_wand (Rel K N b) b K N := by
  intro I P x1 x2 x3 x4 x5 hR
  have hR0 := hR
  obtain ⟨⟨hroot, hp1, hp53, hmod⟩, ⟨cnt, kp, al, σ, τ, hpic⟩, himg, ⟨fed, htape⟩, hsheets⟩ := hR
  have hpic : PicR I P (b + 1) (I (b + 126 + 1)) cnt kp al σ τ := hpic
  have hpic0 := hpic
  obtain ⟨⟨hcnt, hkp, hal⟩, ⟨hσ, hτ, hlay, hact⟩, ⟨hc1, hg0⟩, ⟨hpap, hpap2⟩, hbr, hlays, hmask, ⟨ha1, ha2, ha3, ha4⟩, hacts⟩ := hpic
  obtain ⟨⟨kb, pb0, pb1, pb3, pb4, pb5, pb6, pb7⟩, hrt, hrs, hrc, hrth, hrl⟩ := id hroot
  obtain ⟨⟨k7, k15, n4, k6, k13, n192, k3, k2, k14, n11⟩, ⟨pp0, pp3, pp4, pp5, pm0, pa0⟩, hacsh, hlash⟩ := id hp1
  have km := hmod.1.1
  have pm := hmod.2.2.1
  have e1 := e_hasLayer (N := N) (P := P) k7 (show cnt < 2 ^ 31 by omega) hc1 x1
  have c1 := e_isDot x2 x3
  have c2 := e_isByte x4
  have c3 : fn_X9_isWithin x5 0 3 = some (bI (inR x5 4)) := isWithin_nI (n := 4) (by decide) (by decide)
  have d3 : fn_X10_isIn x5 0 3 = some (bI (inR x5 4)) := isIn_nI (n := 4) (by decide) (by decide)
  by_cases hall : inR x1 cnt ∧ (inR x2 16 ∧ inR x3 12) ∧ inR x4 256
  · obtain ⟨hx, h1, h2⟩ := hall
    rw [bI_t hx] at e1
    rw [bI_t h1] at c1
    rw [bI_t h2] at c2
    by_cases h3 : inR x5 4
    · rw [bI_t h3] at c3 d3
      obtain ⟨l, hl, rfl⟩ := hx
      obtain ⟨⟨x, hx, rfl⟩, ⟨y, hy, rfl⟩⟩ := h1
      have hC := chSh_of hroot
      have hpc : P (b + 118) 0 = some (b + 119) := hC.2.2.2.2.2.2.2.1
      have hsl := hσ.1 l (by omega)
      obtain ⟨g1, g2⟩ := e_layAt hp1 (show l < 4 by omega) hlay
      obtain ⟨A, a1, a2, a3⟩ := e_chooseRegion (I := I) (st := 16 * y + x) (t := x4) (i := fun d => I (b + 126 + 1) (20 + 192 * l + d)) (o := fun d => I (b + 126 + 1) (788 + 192 * l + d)) hC (hlash _ hsl) (by omega) (dot_lt hx hy) (fun d hd => (hlays l hl).1.2.2.2 d hd)
      obtain ⟨r, I1, j1, j2, j3, j4, j5⟩ := e_joinBoth (A := A) x5 _ hR0 (fun d hd => ⟨a3 d hd, regS_01 _ (dot_lt hx hy) hd⟩) (fun a h => a2 a (by omega))
      obtain ⟨B, b1, b2, b3⟩ := e_isRegionY (I := I1) (l := l) (i := fun d => I (b + 126 + 1) (20 + 192 * l + d)) (o := fun d => I (b + 126 + 1) (788 + 192 * l + d)) hmod hcnt (by rw [j3 _ (by omega)]; exact hg0) hl hx hy h2 (fun d hd => by rw [j3 _ (by omega)]; exact ⟨rfl, rfl⟩)
      obtain ⟨I2, v1, v2⟩ := j5 B b3 (fun a h => b2 a (by omega) (by omega))
      refine ⟨(r, I1), ?_, (r, I2), ?_, rfl, v2⟩
      · simp [fn_X9_wand, gd_pos kb, pb0, e1, gd_pos k7, c1, c2, c3, pb5, pp0, gd_pos g1, g2, e_dotAt, a1, gd_pos hC.1, pp3, hpc, j1, gd_pos k6, j2]
      · simp [fn_X10_wand, d3, b1, gd_pos km, v1]
    · rw [bI_f h3] at c3 d3
      exact ⟨(-2, I), by simp [fn_X9_wand, gd_pos kb, pb0, e1, gd_pos k7, c1, c2, c3], (-2, I), by simp [fn_X10_wand, d3], rfl, hR0⟩
  · refine ⟨(-2, I), ?_, (-2, I), ?_, rfl, hR0⟩
    · by_cases hx : inR x1 cnt
      · rw [bI_t hx] at e1
        by_cases h1 : inR x2 16 ∧ inR x3 12
        · rw [bI_t h1] at c1
          rw [bI_f (fun e => hall ⟨hx, h1, e⟩)] at c2
          simp [fn_X9_wand, gd_pos kb, pb0, e1, gd_pos k7, c1, c2]
        · rw [bI_f h1] at c1
          simp [fn_X9_wand, gd_pos kb, pb0, e1, gd_pos k7, c1]
      · rw [bI_f hx] at e1
        simp [fn_X9_wand, gd_pos kb, pb0, e1, gd_pos k7]
    · by_cases h3 : inR x5 4
      · rw [bI_t h3] at d3
        simp [fn_X10_wand, d3, e_isRegionN hmod hcnt hg0 hall, gd_pos km]
      · rw [bI_f h3] at d3
        simp [fn_X10_wand, d3]
