/-! areas, the method -/
theorem e_arM {K N : Nat → Nat} {A : Nat → Nat → Int32} {P : Nat → Nat → Option Nat} {m : Nat} {key : Nat → Int32} (hM : ModSh K N P m) (hk : ∀ d, d < 192 → inR (key d) 256) (hA : ∀ d, d < 192 → A (m + 8) d = key d) : ∃ s, fn_X10_areas_L48 K N m P FU 0 0 0 0 A = some (nI (arN key 192).1, nI (arN key 192).2.1, (arN key 192).2.2.1, s) ∧ ∀ a, a ≠ m + 6 → a ≠ m + 8 → s a = A a := by
  have k8 : K (m + 8) = 12 := hM.1.2.2.2.2.2.2.2.2.1
  have n8 : N (m + 8) = 192 := hM.2.1.2.2.2.2.2.2.2.1
  have p8 : P m 19 = some (m + 8) := hM.2.2.2.2.2.2.2.2.2.1
  obtain ⟨R, hR⟩ : ∃ R, R = arN key 192 := ⟨_, rfl⟩
  rw [← hR]
  have key2 := loop_ok (F := fun f d (z : Int32 × Int32 × Int32 × (Nat → Nat → Int32)) => fn_X10_areas_L48 K N m P f z.1 z.2.1 z.2.2.1 (nI d) z.2.2.2) 192 (fun d z => (z.1 = nI (arN key d).1 ∧ z.2.1 = nI (arN key d).2.1 ∧ z.2.2.1 = (arN key d).2.2.1) ∧ (∀ a, a ≠ m + 6 → a ≠ m + 8 → z.2.2.2 a = A a) ∧ ∀ e, e < 192 → z.2.2.2 (m + 8) e = if (arN key d).2.2.2 e = 0 then key e else -1) (fun z => (z.1 = nI R.1 ∧ z.2.1 = nI R.2.1 ∧ z.2.2.1 = R.2.2.1) ∧ ∀ a, a ≠ m + 6 → a ≠ m + 8 → z.2.2.2 a = A a)
    (fun f z hz => by
      simp only [fn_X10_areas_L48]
      rw [if_pos (show (192 : Int32) ≤ nI 192 from nI_le (a := 192) (Nat.le_refl _) (by omega))]
      rw [← hR] at hz
      exact ok_some.mpr ⟨hz.1, hz.2.1⟩)
    (fun f d z hd hz kk => by
      simp only [fn_X10_areas_L48]
      obtain ⟨⟨z1, z2, z3⟩, z4, z6⟩ := hz
      obtain ⟨a1, a2, a3⟩ := arN_ok key d (by omega)
      have hn := arN_s key d
      have hkm : ¬ key d = -1 := fun e => m1_out (n := 256) (by decide) (e ▸ hk d hd)
      rw [if_neg (show ¬ (192 : Int32) ≤ nI d from nI_ge (b := 192) hd (by omega)), gd_pos hM.1.1, p8, Option.bind_some, gd_pos ⟨k8, by rw [n8]; exact vp_192 hd⟩, nI_clamp (by omega), z6 d hd, nI_1]
      by_cases c : (arN key d).2.2.2 d = 0
      · rw [if_pos c] at hn
        rw [if_pos c, if_neg hkm, Option.bind_some]
        obtain ⟨s', w1, w2, w3⟩ := e_area (I := z.2.2.2) (P := P) (key := key) hM hd a1 c (hk d hd) z6
        have hle := (arS_ok (key := key) a1 hd).le
        generalize arS key (arN key d).2.2.2 d = T at hn w1 w3 hle
        have oo : ∀ a, a ≠ m + 6 → a ≠ m + 8 → s' a = A a := fun a h h' => by rw [w2 a h h']; exact z4 a h h'
        rw [w1, Option.bind_some]
        show ok (Option.bind (if nI T.1 ≤ z.2.1 then some z.2.2.1 else some (key d)) (fun j26 => Option.bind (some (if z.2.1 < nI T.1 then nI T.1 else z.2.1)) (fun v27 => fn_X10_areas_L48 K N m P f (z.1 + 1) v27 j26 (nI (d + 1)) s'))) _
        rw [z2]
        by_cases h : T.1 ≤ (arN key d).2.1
        · rw [if_pos ((le_nI (by omega) (by omega)).mpr h), Option.bind_some, if_neg (nI_nlt h (by omega)), Option.bind_some]
          rw [if_pos h, if_pos h] at hn
          exact kk (z.1 + 1, nI (arN key d).2.1, z.2.2.1, s') ⟨⟨by rw [hn, z1, nI_1], by rw [hn], by rw [hn]; exact z3⟩, oo, by rw [hn]; exact w3⟩
        · rw [if_neg (fun e => h ((le_nI (by omega) (by omega)).mp e)), Option.bind_some, if_pos (nI_lt (by omega) (by omega)), Option.bind_some]
          rw [if_neg h, if_neg h] at hn
          exact kk (z.1 + 1, nI T.1, key d, s') ⟨⟨by rw [hn, z1, nI_1], by rw [hn], by rw [hn]⟩, oo, by rw [hn]; exact w3⟩
      · rw [if_neg c] at hn
        rw [if_neg c, if_pos rfl]
        exact kk z (by rw [hn]; exact ⟨⟨z1, z2, z3⟩, z4, z6⟩))
    FU 0 (0, 0, 0, A) (Nat.zero_le _) (FU_lt (by omega)) ⟨⟨rfl, rfl, rfl⟩, fun _ _ _ => rfl, fun e he => hA e he⟩
  obtain ⟨⟨r1, r2, r3, s⟩, h1, ⟨h2, h3, h4⟩, h5⟩ := key2
  refine ⟨s, ?_, h5⟩
  rw [← h2, ← h3, ← h4]; exact h1
set_option maxHeartbeats 4000000 in
theorem q_areas {K N : Nat → Nat} {b : Nat} : sp_areas (Rel K N b) b K N := by
  intro I P x1 hR
  have hR0 := hR
  obtain ⟨⟨hroot, hp1, hp53, hmod⟩, ⟨cnt, kp, al, σ, τ, hpic⟩, himg, ⟨fed, htape⟩, hsheets⟩ := hR
  have hpic : PicR I P (b + 1) (I (b + 126 + 1)) cnt kp al σ τ := hpic
  have hpic0 := hpic
  obtain ⟨⟨hcnt, hkp, hal⟩, ⟨hσ, hτ, hlay, hact⟩, ⟨hc1, hg0⟩, ⟨hpap, hpap2⟩, hbr, hlays, hmask, ⟨ha1, ha2, ha3, ha4⟩, hacts⟩ := hpic
  obtain ⟨⟨kb, pb0, pb1, pb3, pb4, pb5, pb6, pb7⟩, hrt, hrs, hrc, hrth, hrl⟩ := id hroot
  obtain ⟨⟨k7, k15, n4, k6, k13, n192, k3, k2, k14, n11⟩, ⟨pp0, pp3, pp4, pp5, pm0, pa0⟩, hacsh, hlash⟩ := id hp1
  have km := hmod.1.1
  have pm := hmod.2.2.1
  have c1 : fn_X9_isWithin x1 0 2 = some (bI (inR x1 3)) := isWithin_nI (n := 3) (by decide) (by decide)
  have d1 : fn_X10_isIn x1 0 2 = some (bI (inR x1 3)) := isIn_nI (n := 3) (by decide) (by decide)
  by_cases hx : inR x1 3
  · rw [bI_t hx] at c1 d1
    have hC := chSh_of hroot
    obtain ⟨kc0, kc1, nc1, kc2, nc2, kc3, nc3, pc0, pc1, pc2⟩ := id hC
    have hA : AllSh K N P b := hR0.1
    obtain ⟨key, hkey⟩ : ∃ key : Nat → Int32, key = fun d => seenV I b σ cnt d := ⟨_, rfl⟩
    have hsee : ∀ z : Nat → Nat → Int32, (∀ a, ¬ (b + 118 ≤ a ∧ a < b + 126) → ¬ (b + 130 ≤ a ∧ a < b + 135) → z a = I a) → ∀ d, d < 192 → fn_X9_seenAt K N z P b (nI d) = some (key d) ∧ fn_X10_seen_ K N z P (b + 126) (nI d) = some (key d) ∧ inR (key d) 256 := by
      intro z hz d hd
      have hzp : PicR z P (b + 1) (z (b + 127)) cnt kp al σ τ := by
        rw [hz (b + 127) (by omega) (by omega)]
        exact hpic0.keep (fun a _ _ => hz a (by omega) (by omega)) (fun _ _ _ => rfl)
      have hsv : seenV z b σ cnt d = seenV I b σ cnt d := seenV_keep hσ hcnt (fun a _ _ => hz a (by omega) (by omega))
      have := e_seenPic hA hzp hd
      rw [hsv] at this
      rw [hkey]; exact this
    have hk256 : ∀ d, d < 192 → inR (key d) 256 := fun d hd => (hsee I (fun _ _ _ => rfl) d hd).2.2
    -- the class's keys
    have l1 := loop_ok (F := fun f v s => fn_X9_areas_L14 K N b P f (nI v) s) 192 (fun v s => (∀ a, a ≠ b + 120 → s a = I a) ∧ ∀ d, d < v → s (b + 120) d = key d) (fun s => (∀ a, a ≠ b + 120 → s a = I a) ∧ ∀ d, d < 192 → s (b + 120) d = key d)
      (fun f s hs => by
        simp only [fn_X9_areas_L14]
        rw [if_pos (show (192 : Int32) ≤ nI 192 from nI_le (a := 192) (Nat.le_refl _) (by omega))]
        exact ok_some.mpr hs)
      (fun f v s hv hs kk => by
        simp only [fn_X9_areas_L14]
        rw [if_neg (show ¬ (192 : Int32) ≤ nI v from nI_ge (b := 192) hv (by omega)), gd_pos kb, pb5, Option.bind_some, gd_pos kc0, pc1, Option.bind_some, (hsee s (fun a h1 h2 => hs.1 a (by omega)) v hv).1, Option.bind_some, gd_pos ⟨kc2, by rw [nc2]; exact vp_192 hv⟩, Option.bind_some, nI_clamp (by omega), nI_1]
        refine kk _ ⟨fun a ha => by rw [up2_o ha]; exact hs.1 a ha, fun d hd => ?_⟩
        by_cases h : d = v
        · subst h; rw [up2_s]
        · rw [up2_k h]; exact hs.2 d (by omega))
      FU 0 I (Nat.zero_le _) (FU_lt (by omega)) ⟨fun _ _ => rfl, fun d hd => absurd hd (by omega)⟩
    obtain ⟨A, w1, w2, w3⟩ := l1
    have w1 : fn_X9_areas_L14 K N b P FU 0 I = some A := w1
    obtain ⟨B, b1, b2, b3⟩ := e_chClear (I := A) hC
    obtain ⟨I1, s1, s2⟩ := e_arC (A := B) (P := P) (key := key) hC (fun d hd => by rw [b2 _ (by omega)]; exact w3 d hd) b3
    have o1 : ∀ a, ¬ (b + 118 ≤ a ∧ a < b + 126) → I1 a = I a := fun a h => by rw [s2 a (by omega), b2 a (by omega), w2 a (by omega)]
    -- the model's look
    have k8 : K (b + 126 + 8) = 12 := hmod.1.2.2.2.2.2.2.2.2.1
    have n8 : N (b + 126 + 8) = 192 := hmod.2.1.2.2.2.2.2.2.2.1
    have p8 : P (b + 126) 19 = some (b + 126 + 8) := hmod.2.2.2.2.2.2.2.2.2.1
    have l2 := loop_ok (F := fun f v s => fn_X10_areas_L14 K N (b + 126) P f (nI v) s) 192 (fun v s => (∀ a, a ≠ b + 126 + 8 → s a = I1 a) ∧ ∀ d, d < v → s (b + 126 + 8) d = key d) (fun s => (∀ a, a ≠ b + 126 + 8 → s a = I1 a) ∧ ∀ d, d < 192 → s (b + 126 + 8) d = key d)
      (fun f s hs => by
        simp only [fn_X10_areas_L14]
        rw [if_pos (show (192 : Int32) ≤ nI 192 from nI_le (a := 192) (Nat.le_refl _) (by omega))]
        exact ok_some.mpr hs)
      (fun f v s hv hs kk => by
        simp only [fn_X10_areas_L14]
        rw [if_neg (show ¬ (192 : Int32) ≤ nI v from nI_ge (b := 192) hv (by omega)), gd_pos km, p8, Option.bind_some, (hsee s (fun a h1 h2 => by rw [hs.1 a (by omega)]; exact o1 a h1) v hv).2.1, Option.bind_some, gd_pos ⟨k8, by rw [n8]; exact vp_192 hv⟩, Option.bind_some, nI_clamp (by omega), nI_1]
        refine kk _ ⟨fun a ha => by rw [up2_o ha]; exact hs.1 a ha, fun d hd => ?_⟩
        by_cases h : d = v
        · subst h; rw [up2_s]
        · rw [up2_k h]; exact hs.2 d (by omega))
      FU 0 I1 (Nat.zero_le _) (FU_lt (by omega)) ⟨fun _ _ => rfl, fun d hd => absurd hd (by omega)⟩
    obtain ⟨C, v1, v2, v3⟩ := l2
    have v1 : fn_X10_areas_L14 K N (b + 126) P FU 0 I1 = some C := v1
    obtain ⟨I2, t1, t2⟩ := e_arM (A := C) (P := P) hmod hk256 v3
    have hrel : Rel K N b I2 P := hR0.scratch (fun a h1 h2 => by rw [t2 a (by omega) (by omega), v2 a (by omega)]; exact o1 a h1)
    obtain ⟨R, hR⟩ : ∃ R, R = arN key 192 := ⟨_, rfl⟩
    rw [← hR] at s1 t1
    rcases inR3 hx with rfl | rfl | rfl
    · exact ⟨(nI R.1, I1), by simp [fn_X9_areas, c1, w1, gd_pos kb, pb5, b1, gd_pos kc0, s1], (nI R.1, I2), by simp [fn_X10_areas, d1, v1, t1], rfl, hrel⟩
    · exact ⟨(nI R.2.1, I1), by simp [fn_X9_areas, c1, w1, gd_pos kb, pb5, b1, gd_pos kc0, s1], (nI R.2.1, I2), by simp [fn_X10_areas, d1, v1, t1], rfl, hrel⟩
    · exact ⟨(R.2.2.1, I1), by simp [fn_X9_areas, c1, w1, gd_pos kb, pb5, b1, gd_pos kc0, s1], (R.2.2.1, I2), by simp [fn_X10_areas, d1, v1, t1], rfl, hrel⟩
  · rw [bI_f hx] at c1 d1
    exact ⟨(-2, I), by simp [fn_X9_areas, c1], (-2, I), by simp [fn_X10_areas, d1], rfl, hR0⟩
