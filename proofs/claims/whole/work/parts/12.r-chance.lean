/-! sprayed, chance -/
theorem Rel.scratch2 {K N : Nat → Nat} {b : Nat} {I I' : Nat → Nat → Int32} {P : Nat → Nat → Option Nat} (hR : Rel K N b I P) (ho : ∀ a, ¬ (b + 118 ≤ a ∧ a < b + 126) → ¬ (b + 130 ≤ a ∧ a < b + 135) → a ≠ b + 126 → I' a = I a) (h2 : ∀ j, j ≠ 3 → I' (b + 126) j = I (b + 126) j) : Rel K N b I' P := by
  obtain ⟨-, ⟨cnt, kp, al, σ, τ, hpic⟩, -⟩ := id hR
  refine hR.pic ⟨ho _ (by omega) (by omega) (by omega), fun a _ _ => ho _ (by omega) (by omega) (by omega), ⟨h2 2 (by decide), h2 5 (by decide)⟩, ho _ (by omega) (by omega) (by omega), ho _ (by omega) (by omega) (by omega), ho _ (by omega) (by omega) (by omega), ho _ (by omega) (by omega) (by omega), ho _ (by omega) (by omega) (by omega)⟩ (fun _ _ _ => rfl) ⟨cnt, kp, al, σ, τ, ?_⟩
  rw [ho (b + 127) (by omega) (by omega) (by omega)]
  exact hpic.keep (fun a _ _ => ho a (by omega) (by omega) (by omega)) (fun _ _ _ => rfl)
def cnN (key nw : Nat → Int32) : Nat → Int32
  | 0 => 0
  | n + 1 => if key n = nw n then cnN key nw n else cnN key nw n + 1
set_option maxHeartbeats 4000000 in
theorem q_sprayed {K N : Nat → Nat} {b : Nat} : sp_sprayed (Rel K N b) b K N := by
  intro I P x1 x2 x3 hR
  have hR0 := hR
  obtain ⟨⟨hroot, hp1, hp53, hmod⟩, ⟨cnt, kp, al, σ, τ, hpic⟩, himg, ⟨fed, htape⟩, hsheets⟩ := hR
  have hpic : PicR I P (b + 1) (I (b + 126 + 1)) cnt kp al σ τ := hpic
  have hpic0 := hpic
  obtain ⟨⟨hcnt, hkp, hal⟩, ⟨hσ, hτ, hlay, hact⟩, ⟨hc1, hg0⟩, ⟨hpap, hpap2⟩, hbr, hlays, hmask, ⟨ha1, ha2, ha3, ha4⟩, hacts⟩ := hpic
  obtain ⟨⟨kb, pb0, pb1, pb3, pb4, pb5, pb6, pb7⟩, hrt, hrs, hrc, hrth, hrl⟩ := id hroot
  obtain ⟨⟨k7, k15, n4, k6, k13, n192, k3, k2, k14, n11⟩, ⟨pp0, pp3, pp4, pp5, pm0, pa0⟩, hacsh, hlash⟩ := id hp1
  have km := hmod.1.1
  have pm := hmod.2.2.1
  have e1 := e_hasLayer (N := N) (P := P) k7 (show cnt < 2 ^ 31 by omega) hc1 x1
  have e2 := e_isLayer hmod hcnt hg0 x1
  have c3 : fn_X9_isWithin x3 0 30 = some (bI (inR x3 31)) := isWithin_nI (n := 31) (by decide) (by decide)
  have d3 : fn_X10_isIn x3 0 30 = some (bI (inR x3 31)) := isIn_nI (n := 31) (by decide) (by decide)
  by_cases hx : inR x1 cnt
  · rw [bI_t hx] at e1 e2
    by_cases h3 : inR x3 31
    · rw [bI_t h3] at c3 d3
      obtain ⟨l, hl, rfl⟩ := hx
      obtain ⟨n, hn, rfl⟩ := h3
      have hA : AllSh K N P b := hR0.1
      obtain ⟨S, hS⟩ : ∃ S, S = sprN (fun d => I (b + 126 + 1) (1556 + d)) (I (b + 126 + 1) 4) (fun x y d => covD K N I P (b + 126) x y d) (x2, (fun d => I (b + 126 + 1) (20 + 192 * l + d)), fun d => I (b + 126 + 1) (788 + 192 * l + d)) n := ⟨_, rfl⟩
      obtain ⟨I1, j1, j2, j3⟩ := e_thought (z := I) x2 hR0 hpic0 hl (show n < 2000 by omega) (fun _ _ => rfl) S hS
      obtain ⟨key, hkey⟩ : ∃ key : Nat → Int32, key = fun d => seenV I b σ cnt d := ⟨_, rfl⟩
      obtain ⟨nw, hnw⟩ : ∃ nw : Nat → Int32, nw = fun d => nwD (I (b + 126 + 1)) cnt l S.2.1 S.2.2 d := ⟨_, rfl⟩
      have j3 : ∀ d, d < 192 → fn_X9_isOtherwiseInThought K N I1 P b (nI l) (nI d) = some (if key d = nw d then 0 else 1) := by rw [hkey, hnw]; exact j3
      have hsee : ∀ z : Nat → Nat → Int32, (∀ a, ¬ (b + 118 ≤ a ∧ a < b + 126) → ¬ (b + 130 ≤ a ∧ a < b + 135) → z a = I a) → ∀ d, d < 192 → fn_X10_seen_ K N z P (b + 126) (nI d) = some (key d) := by
        intro z hz d hd
        have hzp : PicR z P (b + 1) (z (b + 127)) cnt kp al σ τ := by
          rw [hz (b + 127) (by omega) (by omega)]
          exact hpic0.keep (fun a _ _ => hz a (by omega) (by omega)) (fun _ _ _ => rfl)
        have hsv : seenV z b σ cnt d = seenV I b σ cnt d := seenV_keep hσ hcnt (fun a _ _ => hz a (by omega) (by omega))
        have := (e_seenPic hA hzp hd).2.1
        rw [hsv] at this
        rw [hkey]; exact this
      have l1 := loop_ok (F := fun f v z => fn_X9_sprayed_L37 K N b (nI l) P I1 f z (nI v)) 192 (fun v z => z = cnN key nw v) (fun z => z = cnN key nw 192)
        (fun f z hz => by
          simp only [fn_X9_sprayed_L37]
          rw [if_pos (show (192 : Int32) ≤ nI 192 from nI_le (a := 192) (Nat.le_refl _) (by omega))]
          exact ok_some.mpr hz)
        (fun f v z hv hz kk => by
          simp only [fn_X9_sprayed_L37]
          rw [if_neg (show ¬ (192 : Int32) ≤ nI v from nI_ge (b := 192) hv (by omega)), j3 v hv, Option.bind_some, nI_1 v]
          by_cases c : key v = nw v
          · rw [if_pos c, if_pos rfl]; exact kk _ (by rw [cnN, if_pos c]; exact hz)
          · rw [if_neg c, if_neg (show ¬ (1 : Int32) = 0 by decide)]; exact kk _ (by rw [cnN, if_neg c, hz]))
        FU 0 0 (Nat.zero_le _) (FU_lt (by omega)) rfl
      obtain ⟨r, r1, r2⟩ := l1
      have r1 : fn_X9_sprayed_L37 K N b (nI l) P I1 FU 0 0 = some r := r1
      -- the model's look
      have k8 : K (b + 126 + 8) = 12 := hmod.1.2.2.2.2.2.2.2.2.1
      have n8 : N (b + 126 + 8) = 192 := hmod.2.1.2.2.2.2.2.2.2.1
      have p8 : P (b + 126) 19 = some (b + 126 + 8) := hmod.2.2.2.2.2.2.2.2.2.1
      have l2 := loop_ok (F := fun f v s => fn_X10_sprayed_L24 K N (b + 126) P f (nI v) s) 192 (fun v s => (∀ a, a ≠ b + 126 + 8 → s a = I1 a) ∧ ∀ d, d < v → s (b + 126 + 8) d = key d) (fun s => (∀ a, a ≠ b + 126 + 8 → s a = I1 a) ∧ ∀ d, d < 192 → s (b + 126 + 8) d = key d)
        (fun f s hs => by
          simp only [fn_X10_sprayed_L24]
          rw [if_pos (show (192 : Int32) ≤ nI 192 from nI_le (a := 192) (Nat.le_refl _) (by omega))]
          exact ok_some.mpr hs)
        (fun f v s hv hs kk => by
          simp only [fn_X10_sprayed_L24]
          rw [if_neg (show ¬ (192 : Int32) ≤ nI v from nI_ge (b := 192) hv (by omega)), p8, Option.bind_some, hsee s (fun a h1 h2 => by rw [hs.1 a (by omega)]; exact j2 a (by omega)) v hv, Option.bind_some, gd_pos ⟨k8, by rw [n8]; exact vp_192 hv⟩, Option.bind_some, nI_clamp (by omega), nI_1]
          refine kk _ ⟨fun a ha => by rw [up2_o ha]; exact hs.1 a ha, fun d hd => ?_⟩
          by_cases h : d = v
          · subst h; rw [up2_s]
          · rw [up2_k h]; exact hs.2 d (by omega))
        FU 0 I1 (Nat.zero_le _) (FU_lt (by omega)) ⟨fun _ _ => rfl, fun d hd => absurd hd (by omega)⟩
      obtain ⟨C, v1, v2, v3⟩ := l2
      have v1 : fn_X10_sprayed_L24 K N (b + 126) P FU 0 I1 = some C := v1
      have oC : ∀ a, a ≠ b + 126 + 8 → ¬ (b + 122 ≤ a ∧ a < b + 125) → C a = I a := fun a h h' => by rw [v2 a h, j2 a h']
      obtain ⟨s, s1, s2, s3, I2, s4, s5, s6⟩ := e_sprays (z := C) x2 hR0 hpic0 hl (show n < 2000 by omega) (oC _ (by omega) (by omega)) S hS
      have s3 : ∀ d, d < 192 → fn_X10_seen_ K N s P (b + 126) (nI d) = some (nw d) := by rw [hnw]; exact s3
      have l3 := loop_ok (F := fun f v z => fn_X10_sprayed_L64 K N (b + 126) P s f z (nI v)) 192 (fun v z => z = cnN key nw v) (fun z => z = cnN key nw 192)
        (fun f z hz => by
          simp only [fn_X10_sprayed_L64]
          rw [if_pos (show (192 : Int32) ≤ nI 192 from nI_le (a := 192) (Nat.le_refl _) (by omega))]
          exact ok_some.mpr hz)
        (fun f v z hv hz kk => by
          simp only [fn_X10_sprayed_L64]
          have lk : s (b + 126 + 8) v = key v := by rw [s2]; exact v3 v hv
          rw [if_neg (show ¬ (192 : Int32) ≤ nI v from nI_ge (b := 192) hv (by omega)), s3 v hv, Option.bind_some, p8, Option.bind_some, gd_pos ⟨k8, by rw [n8]; exact vp_192 hv⟩, nI_clamp (by omega), lk, nI_1 v, Option.bind_some, Option.bind_some]
          by_cases c : key v = nw v
          · rw [if_pos c.symm]; exact kk _ (by rw [cnN, if_pos c, hz]; exact Int32.add_zero _)
          · rw [if_neg (fun e => c e.symm)]; exact kk _ (by rw [cnN, if_neg c, hz]))
        FU 0 0 (Nat.zero_le _) (FU_lt (by omega)) rfl
      obtain ⟨r', t1, t2⟩ := l3
      have t1 : fn_X10_sprayed_L64 K N (b + 126) P s FU 0 0 = some r := by rw [r2, ← t2]; exact t1
      have hg1 : I1 (b + 126 + 1) 0 = nI cnt := by rw [j2 _ (by omega)]; exact hg0
      have e2' : fn_X10_isLayer K N I1 P (b + 126) (nI l) = some 1 := by rw [e_isLayer hmod hcnt hg1 (nI l), bI_t ⟨l, hl, rfl⟩]
      refine ⟨(r, I1), ?_, (r, I2), ?_, rfl, hR0.scratch2 (fun a h1 h2 h3 => ?_) (fun j hj => ?_)⟩
      · simp [fn_X9_sprayed, gd_pos kb, pb0, e1, gd_pos k7, c3, j1, r1]
      · simp [fn_X10_sprayed, e2', gd_pos km, d3, v1, s1, t1, s4]
      · show I2 a = I a
        rw [s5 a h3 (by omega)]; exact oC a (by omega) (by omega)
      · show I2 (b + 126) j = I (b + 126) j
        rw [s6 j hj, oC _ (by omega) (by omega)]
    · rw [bI_f h3] at c3 d3
      exact ⟨(-2, I), by simp [fn_X9_sprayed, gd_pos kb, pb0, e1, gd_pos k7, c3], (-2, I), by simp [fn_X10_sprayed, e2, gd_pos km, d3], rfl, hR0⟩
  · rw [bI_f hx] at e1 e2
    exact ⟨(-2, I), by simp [fn_X9_sprayed, gd_pos kb, pb0, e1, gd_pos k7], (-2, I), by simp [fn_X10_sprayed, e2, gd_pos km], rfl, hR0⟩
def chN (key : Int32) (nw : Nat → Int32) : Nat → Nat
  | 0 => 0
  | n + 1 => if key = nw n then chN key nw n else chN key nw n + 1
theorem chN_le (key : Int32) (nw : Nat → Int32) : ∀ n, chN key nw n ≤ n
  | 0 => Nat.le_refl _
  | n + 1 => by have := chN_le key nw n; unfold chN; split <;> omega
set_option maxHeartbeats 4000000 in
theorem q_chance {K N : Nat → Nat} {b : Nat} : sp_chance (Rel K N b) b K N := by
  intro I P x1 x2 x3 x4 x5 x6 hR
  have hR0 := hR
  obtain ⟨⟨hroot, hp1, hp53, hmod⟩, ⟨cnt, kp, al, σ, τ, hpic⟩, himg, ⟨fed, htape⟩, hsheets⟩ := hR
  have hpic : PicR I P (b + 1) (I (b + 126 + 1)) cnt kp al σ τ := hpic
  have hpic0 := hpic
  obtain ⟨⟨hcnt, hkp, hal⟩, ⟨hσ, hτ, hlay, hact⟩, ⟨hc1, hg0⟩, ⟨hpap, hpap2⟩, hbr, hlays, hmask, ⟨ha1, ha2, ha3, ha4⟩, hacts⟩ := hpic
  obtain ⟨⟨kb, pb0, pb1, pb3, pb4, pb5, pb6, pb7⟩, hrt, hrs, hrc, hrth, hrl⟩ := id hroot
  obtain ⟨⟨k7, k15, n4, k6, k13, n192, k3, k2, k14, n11⟩, ⟨pp0, pp3, pp4, pp5, pm0, pa0⟩, hacsh, hlash⟩ := id hp1
  have km := hmod.1.1
  have pm := hmod.2.2.1
  have e1 := e_hasLayer (N := N) (P := P) k7 (show cnt < 2 ^ 31 by omega) hc1 x1
  have e2 := e_isLayer hmod hcnt hg0 x1
  have c3 := isWithin_bI x3 1 10
  have d3 : fn_X10_isIn x3 1 10 = _ := c3
  have c4 := e_isDot x4 x5
  have d4 := e_isDot' x4 x5
  have c6 : fn_X9_isWithin x6 0 1 = some (bI (inR x6 2)) := isWithin_nI (n := 2) (by decide) (by decide)
  have d6 : fn_X10_isIn x6 0 1 = some (bI (inR x6 2)) := isIn_nI (n := 2) (by decide) (by decide)
  by_cases hx : inR x1 cnt
  · rw [bI_t hx] at e1 e2
    by_cases h3 : 1 ≤ x3 ∧ x3 ≤ 10
    · rw [bI_t h3] at c3 d3
      by_cases h4 : inR x4 16 ∧ inR x5 12
      · rw [bI_t h4] at c4 d4
        by_cases h6 : inR x6 2
        · rw [bI_t h6] at c6 d6
          obtain ⟨l, hl, rfl⟩ := hx
          obtain ⟨⟨x, hx, rfl⟩, ⟨y, hy, rfl⟩⟩ := h4
          obtain ⟨n, hn, h1n, rfl⟩ : ∃ n, n < 11 ∧ 1 ≤ n ∧ x3 = nI n := by
            have p1 : (1 : Int32).toInt = 1 := rfl
            have p10 : (10 : Int32).toInt = 10 := rfl
            rw [Int32.le_iff_toInt_le, Int32.le_iff_toInt_le, p1, p10] at h3
            obtain ⟨j, hj, e⟩ := (inR_iff (x := x3) (n := 11) (by decide)).mpr ⟨by omega, by omega⟩
            subst e
            rw [nI_toInt (by omega)] at h3
            exact ⟨j, hj, by omega, rfl⟩
          have hA : AllSh K N P b := hR0.1
          obtain ⟨d, hdd⟩ : ∃ d, d = 16 * y + x := ⟨_, rfl⟩
          have hd : d < 192 := by omega
          obtain ⟨SS, hSS⟩ : ∃ SS : Nat → SP, SS = fun v => sprN (fun d => I (b + 126 + 1) (1556 + d)) (I (b + 126 + 1) 4) (fun x y d => covD K N I P (b + 126) x y d) (x2 + nI v, (fun d => I (b + 126 + 1) (20 + 192 * l + d)), fun d => I (b + 126 + 1) (788 + 192 * l + d)) 4 := ⟨_, rfl⟩
          obtain ⟨key, hkey⟩ : ∃ key : Int32, key = seenV I b σ cnt d := ⟨_, rfl⟩
          obtain ⟨nw, hnw⟩ : ∃ nw : Nat → Int32, nw = fun v => nwD (I (b + 126 + 1)) cnt l (SS v).2.1 (SS v).2.2 d := ⟨_, rfl⟩
          have p4 : (4 : Int32) = nI 4 := rfl
          have l1 := loop_ok (F := fun f v (z : Int32 × (Nat → Nat → Int32)) => fn_X9_chance_L62 K N b (nI l) x2 (nI n) (nI x) (nI y) P f z.1 (nI v) z.2) n (fun v z => z.1 = nI (chN key nw v) ∧ ∀ a, ¬ (b + 122 ≤ a ∧ a < b + 125) → z.2 a = I a) (fun z => z.1 = nI (chN key nw n) ∧ ∀ a, ¬ (b + 122 ≤ a ∧ a < b + 125) → z.2 a = I a)
            (fun f z hz => by
              simp only [fn_X9_chance_L62]
              rw [if_pos (nI_le (Nat.le_refl _) (by omega))]
              exact ok_some.mpr hz)
            (fun f v z hv hz kk => by
              simp only [fn_X9_chance_L62]
              obtain ⟨z1, z2⟩ := hz
              obtain ⟨J, j1, j2, j3⟩ := e_thought (z := z.2) (x2 + nI v) hR0 hpic0 hl (show 4 < 2000 by omega) z2 (SS v) (by rw [hSS])
              have hv' : nwD (I (b + 126 + 1)) cnt l (SS v).2.1 (SS v).2.2 d = nw v := by rw [hnw]
              rw [if_neg (nI_ge hv (by omega)), p4, j1, Option.bind_some, e_dotAt, Option.bind_some, ← hdd, j3 d hd, Option.bind_some, hv', ← hkey, nI_1 v]
              by_cases c : key = nw v
              · rw [if_pos c, if_pos rfl]; exact kk (z.1, J) ⟨by rw [chN, if_pos c]; exact z1, j2⟩
              · rw [if_neg c, if_neg (show ¬ (1 : Int32) = 0 by decide)]; exact kk (z.1 + 1, J) ⟨by rw [chN, if_neg c, z1, nI_1], j2⟩)
            FU 0 (0, I) (Nat.zero_le _) (FU_lt (by omega)) ⟨rfl, fun _ _ => rfl⟩
          obtain ⟨⟨r, I1⟩, r1, r2, r3⟩ := l1
          have r1 : fn_X9_chance_L62 K N b (nI l) x2 (nI n) (nI x) (nI y) P FU 0 0 I = some (r, I1) := r1
          have r2 : r = nI (chN key nw n) := r2
          have r3 : ∀ a, ¬ (b + 122 ≤ a ∧ a < b + 125) → I1 a = I a := r3
          have hsee : fn_X10_seen_ K N I1 P (b + 126) (nI d) = some key := by
            have hzp : PicR I1 P (b + 1) (I1 (b + 127)) cnt kp al σ τ := by
              rw [r3 (b + 127) (by omega)]
              exact hpic0.keep (fun a _ _ => r3 a (by omega)) (fun _ _ _ => rfl)
            have hsv : seenV I1 b σ cnt d = seenV I b σ cnt d := seenV_keep hσ hcnt (fun a _ _ => r3 a (by omega))
            have := (e_seenPic hA hzp hd).2.1
            rw [hsv] at this
            rw [hkey]; exact this
          have l2 := loop_ok (F := fun f v (z : Int32 × (Nat → Nat → Int32)) => fn_X10_chance_L60 K N (b + 126) (nI l) x2 (nI n) (nI x) (nI y) P key f z.1 (nI v) z.2) n (fun v z => z.1 = nI (chN key nw v) ∧ (∀ a, a ≠ b + 126 → a ≠ b + 126 + 4 → z.2 a = I1 a) ∧ ∀ j, j ≠ 3 → z.2 (b + 126) j = I1 (b + 126) j) (fun z => z.1 = nI (chN key nw n) ∧ (∀ a, a ≠ b + 126 → a ≠ b + 126 + 4 → z.2 a = I1 a) ∧ ∀ j, j ≠ 3 → z.2 (b + 126) j = I1 (b + 126) j)
            (fun f z hz => by
              simp only [fn_X10_chance_L60]
              rw [if_pos (nI_le (Nat.le_refl _) (by omega))]
              exact ok_some.mpr hz)
            (fun f v z hv hz kk => by
              simp only [fn_X10_chance_L60]
              obtain ⟨z1, z2, z3⟩ := hz
              obtain ⟨s, s1, s2, s3, s', s4, s5, s6⟩ := e_sprays (z := z.2) (x2 + nI v) hR0 hpic0 hl (show 4 < 2000 by omega) (by rw [z2 _ (by omega) (by omega)]; exact r3 _ (by omega)) (SS v) (by rw [hSS])
              have hv' : nwD (I (b + 126 + 1)) cnt l (SS v).2.1 (SS v).2.2 d = nw v := by rw [hnw]
              rw [if_neg (nI_ge hv (by omega)), p4, s1, Option.bind_some, e_dotOf, Option.bind_some, ← hdd, s3 d hd, Option.bind_some, hv', s4, nI_1 v]
              by_cases c : key = nw v
              · rw [if_pos c.symm, Option.bind_some, Option.bind_some, Option.bind_some]
                exact kk (_, s') ⟨by rw [chN, if_pos c]; show z.1 + 0 = _; rw [z1]; exact Int32.add_zero _, fun a h1 h2 => (s5 a h1 h2).trans (z2 a h1 h2), fun j hj => (s6 j hj).trans (z3 j hj)⟩
              · rw [if_neg (fun e => c e.symm), Option.bind_some, Option.bind_some, Option.bind_some]
                exact kk (_, s') ⟨by rw [chN, if_neg c]; show z.1 + 1 = _; rw [z1, nI_1], fun a h1 h2 => (s5 a h1 h2).trans (z2 a h1 h2), fun j hj => (s6 j hj).trans (z3 j hj)⟩)
            FU 0 (0, I1) (Nat.zero_le _) (FU_lt (by omega)) ⟨rfl, fun _ _ _ => rfl, fun _ _ => rfl⟩
          obtain ⟨⟨r', I2⟩, t1, t2, t3, t4⟩ := l2
          have t2 : r' = nI (chN key nw n) := t2
          have t1 : fn_X10_chance_L60 K N (b + 126) (nI l) x2 (nI n) (nI x) (nI y) P key FU 0 0 I1 = some (r, I2) := by rw [r2, ← t2]; exact t1
          have hrel : Rel K N b I2 P := hR0.scratch2 (fun a h1 h2 h3 => by rw [show I2 a = I1 a from t3 a h3 (by omega)]; exact r3 a (by omega)) (fun j hj => by rw [show I2 (b + 126) j = I1 (b + 126) j from t4 j hj, r3 _ (by omega)])
          have hcl := chN_le key nw n
          obtain ⟨w, w1, w2, w3, w4⟩ := e_common hn h1n hcl
          rw [← r2] at w1 w3 w4
          have hg1 : I1 (b + 126 + 1) 0 = nI cnt := by rw [r3 _ (by omega)]; exact hg0
          have e2' : fn_X10_isLayer K N I1 P (b + 126) (nI l) = some 1 := by rw [e_isLayer hmod hcnt hg1 (nI l), bI_t ⟨l, hl, rfl⟩]
          have dOf := e_dotOf x y
          rw [← hdd] at dOf
          rcases inR2 h6 with rfl | rfl
          · refine ⟨(lowN r (nI n) 9, I1), ?_, (lowN r (nI n) 9, I2), ?_, rfl, hrel⟩
            · simp [fn_X9_chance, gd_pos kb, pb0, e1, gd_pos k7, c3, c4, c6, r1, e_lowest]
            · simp [fn_X10_chance, e2', gd_pos km, d3, d4, d6, dOf, hsee, t1, w1, gd_pos w2, w3]
          · have n10 : ¬ (1 : Int32) = 0 := by decide
            refine ⟨(lowN (nI n) r 9, I1), ?_, (lowN (nI n) r 9, I2), ?_, rfl, hrel⟩
            · simp [fn_X9_chance, gd_pos kb, pb0, e1, gd_pos k7, c3, c4, c6, r1, e_lowest]
            · simp [fn_X10_chance, e2', gd_pos km, d3, d4, d6, dOf, hsee, t1, w1, gd_pos w2, w4]
        · rw [bI_f h6] at c6 d6
          exact ⟨(-2, I), by simp [fn_X9_chance, gd_pos kb, pb0, e1, gd_pos k7, c3, c4, c6], (-2, I), by simp [fn_X10_chance, e2, gd_pos km, d3, d4, d6], rfl, hR0⟩
      · rw [bI_f h4] at c4 d4
        exact ⟨(-2, I), by simp [fn_X9_chance, gd_pos kb, pb0, e1, gd_pos k7, c3, c4], (-2, I), by simp [fn_X10_chance, e2, gd_pos km, d3, d4], rfl, hR0⟩
    · rw [bI_f h3] at c3 d3
      exact ⟨(-2, I), by simp [fn_X9_chance, gd_pos kb, pb0, e1, gd_pos k7, c3], (-2, I), by simp [fn_X10_chance, e2, gd_pos km, d3], rfl, hR0⟩
  · rw [bI_f hx] at e1 e2
    exact ⟨(-2, I), by simp [fn_X9_chance, gd_pos kb, pb0, e1, gd_pos k7], (-2, I), by simp [fn_X10_chance, e2, gd_pos km], rfl, hR0⟩
