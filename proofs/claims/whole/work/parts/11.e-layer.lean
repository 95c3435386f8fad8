/-! layer -/
theorem e_clear {K N : Nat → Nat} {I : Nat → Nat → Int32} {P : Nat → Nat → Option Nat} {q : Nat} (hL : LaySh K N P q) : ∃ I', fn_X4_clear K N I P q = some I' ∧ (∀ a, a ≠ q + 1 → a ≠ q + 2 → I' a = I a) ∧ ∀ j, j < 192 → I' (q + 1) j = 0 ∧ I' (q + 2) j = 0 := by
  obtain ⟨k0, k1, n1, k2, n2, p0, p1⟩ := hL
  obtain ⟨I1, a1, a2, a3⟩ := e_fill (I := I) (P := P) k1 n1 (by omega) 0
  obtain ⟨I2, b1, b2, b3⟩ := e_fill (I := I1) (P := P) k2 n2 (by omega) 0
  refine ⟨I2, ?_, fun a h h' => (b2 a h').trans (a2 a h), fun j hj => ⟨?_, ?_⟩⟩
  · unfold fn_X4_clear
    rw [gd_pos k0, p0, Option.bind_some, a1, Option.bind_some, p1, Option.bind_some, b1, Option.bind_some]
  · rw [b2 _ (by omega), a3, if_pos hj]
  · rw [b3, if_pos hj]
theorem e_newL {K N : Nat → Nat} {I : Nat → Nat → Int32} {P : Nat → Nat → Option Nat} {m l : Nat} (hM : ModSh K N P m) (hl : l < 4) : ∃ I', fn_X10_layer_L65 K N (m + 1) (nI l) FU 0 I = some I' ∧ (∀ a, a ≠ m + 1 → I' a = I a) ∧ ∀ j, I' (m + 1) j = if (20 + 192 * l ≤ j ∧ j < 20 + 192 * l + 192) ∨ (788 + 192 * l ≤ j ∧ j < 788 + 192 * l + 192) then 0 else I (m + 1) j := by
  have key := loop_ok (F := fun f k s => fn_X10_layer_L65 K N (m + 1) (nI l) f (nI k) s) 192 (fun k s => (∀ a, a ≠ m + 1 → s a = I a) ∧ ∀ j, s (m + 1) j = if (20 + 192 * l ≤ j ∧ j < 20 + 192 * l + k) ∨ (788 + 192 * l ≤ j ∧ j < 788 + 192 * l + k) then 0 else I (m + 1) j) (fun s => (∀ a, a ≠ m + 1 → s a = I a) ∧ ∀ j, s (m + 1) j = if (20 + 192 * l ≤ j ∧ j < 20 + 192 * l + 192) ∨ (788 + 192 * l ≤ j ∧ j < 788 + 192 * l + 192) then 0 else I (m + 1) j)
    (fun f s hs => by
      simp only [fn_X10_layer_L65]
      rw [if_pos (show (192 : Int32) ≤ nI 192 from nI_le (a := 192) (Nat.le_refl _) (by omega))]
      exact ok_some.mpr hs)
    (fun f k s hk hs kk => by
      simp only [fn_X10_layer_L65]
      rw [if_neg (show ¬ (192 : Int32) ≤ nI k from nI_ge (b := 192) hk (by omega)), show (20 : Int32) + (192 : Int32) * nI l + nI k = nI (20 + 192 * l + k) from e_sd 20 l k, show (788 : Int32) + (192 : Int32) * nI l + nI k = nI (788 + 192 * l + k) from e_sd 788 l k, gd_pos (vp_g hM (by omega)), Option.bind_some, gd_pos (vp_g hM (by omega)), Option.bind_some, nI_clamp (by omega), nI_clamp (by omega), nI_1]
      refine kk _ ⟨fun a ha => by rw [up2_o ha, up2_o ha]; exact hs.1 a ha, fun j => ?_⟩
      by_cases hj : j = 788 + 192 * l + k
      · subst hj; rw [up2_s, if_pos (by omega)]
      · rw [up2_k hj]
        by_cases hj2 : j = 20 + 192 * l + k
        · subst hj2; rw [up2_s, if_pos (by omega)]
        · rw [up2_k hj2, hs.2]
          by_cases h2 : (20 + 192 * l ≤ j ∧ j < 20 + 192 * l + k) ∨ (788 + 192 * l ≤ j ∧ j < 788 + 192 * l + k)
          · rw [if_pos h2, if_pos (by omega)]
          · rw [if_neg h2, if_neg (by omega)])
    FU 0 I (Nat.zero_le _) (FU_lt (by omega)) ⟨fun _ _ => rfl, fun j => by rw [if_neg (by omega)]⟩
  obtain ⟨r, h1, h2⟩ := key
  exact ⟨r, h1, h2⟩
theorem e_noActs {K N : Nat → Nat} {I : Nat → Nat → Int32} {P : Nat → Nat → Option Nat} {m : Nat} (hM : ModSh K N P m) : fn_X10_noActs K N I P m = some (up2 (up2 I (m + 1) 6 0) (m + 1) 7 0) := by
  unfold fn_X10_noActs
  rw [gd_pos hM.1.1, hM.2.2.1, Option.bind_some, gd_pos (show K (m + 1) = 12 ∧ vp_in 6 (N (m + 1)) from vp_g hM (j := 6) (by decide)), Option.bind_some, gd_pos (show K (m + 1) = 12 ∧ vp_in 7 (N (m + 1)) from vp_g hM (j := 7) (by decide)), Option.bind_some]
theorem e_forget {K N : Nat → Nat} {I : Nat → Nat → Int32} {P : Nat → Nat → Option Nat} {q : Nat} (hk : K q = 2) : fn_X1_forget K N I P q = some (up2 (up2 I q 1 0) q 2 0) := by
  unfold fn_X1_forget
  rw [gd_pos hk, Option.bind_some, Option.bind_some]
set_option maxHeartbeats 4000000 in
theorem q_layer {K N : Nat → Nat} {b : Nat} : sp_layer (Rel K N b) b K N := by
  intro I P x1 x2 x3 hR
  have hR0 := hR
  obtain ⟨⟨hroot, hp1, hp53, hmod⟩, ⟨cnt, kp, al, σ, τ, hpic⟩, himg, ⟨fed, htape⟩, hsheets⟩ := hR
  have hpic : PicR I P (b + 1) (I (b + 126 + 1)) cnt kp al σ τ := hpic
  have hpic0 := hpic
  obtain ⟨⟨hcnt, hkp, hal⟩, ⟨hσ, hτ, hlay, hact⟩, ⟨hc1, hg0⟩, ⟨hpap, hpap2⟩, hbr, hlays, hmask, ⟨ha1, ha2, ha3, ha4⟩, hacts⟩ := hpic
  obtain ⟨⟨kb, pb0, pb1, pb3, pb4, pb5, pb6, pb7⟩, hrt, hrs, hrc, hrth, hrl⟩ := id hroot
  obtain ⟨⟨k7, k15, n4, k6, k13, n192, k3, k2, k14, n11⟩, ⟨pp0, pp3, pp4, pp5, pm0, pa0⟩, hacsh, hlash⟩ := id hp1
  have km := hmod.1.1
  have pm := hmod.2.2.1
  have c1 := e_isDress x1 x2 x3
  have d1 := e_isDress' x1 x2 x3
  have g0v : K (b + 126 + 1) = 12 ∧ vp_in 0 (N (b + 126 + 1)) := vp_g hmod (j := 0) (by decide)
  by_cases h1 : inR x1 6 ∧ inR x2 100 ∧ inR x3 256
  · rw [bI_t h1] at c1 d1
    obtain ⟨h1, h2, h3⟩ := h1
    by_cases h4 : cnt = 4
    · have e4 : I (b + 1) 1 = 4 := by rw [hc1, h4]; rfl
      have e4' : I (b + 126 + 1) 0 = 4 := by rw [hg0, h4]; rfl
      exact ⟨(-4, I), by simp [fn_X9_layer, c1, gd_pos kb, pb0, gd_pos k7, e4], (-4, I), by simp [fn_X10_layer, d1, gd_pos km, pm, gd_pos g0v, e4'], rfl, hR0⟩
    · have hl : cnt < 4 := by omega
      have hsl := hσ.1 cnt hl
      have hsh := hlash (σ cnt) hsl
      have ks := hsh.1
      obtain ⟨q, hq⟩ : ∃ q, q = b + 1 + 40 + 3 * σ cnt := ⟨_, rfl⟩
      rw [← hq] at hsh ks
      have hlq : P (b + 1 + 1) cnt = some q := by rw [hq]; exact hlay cnt hl
      have gl : K (b + 1 + 1) = 15 ∧ vp_in (nI cnt) (N (b + 1 + 1)) := ⟨k15, by rw [n4]; exact vp_in_nI hl (by decide)⟩
      obtain ⟨J, hJ⟩ : ∃ J, J = up2 (up2 I (b + 1 + 5) 1 0) (b + 1 + 5) 2 0 := ⟨_, rfl⟩
      have oJ : ∀ a, a ≠ b + 1 + 5 → J a = I a := fun a h => by rw [hJ, up2_o h, up2_o h]
      obtain ⟨J2, w1, w2, w3⟩ := e_clear (I := J) hsh
      obtain ⟨J3, hJ3⟩ : ∃ J3, J3 = up2 (up2 (up2 J2 q 2 x1) q 3 x2) q 4 x3 := ⟨_, rfl⟩
      have oJ3 : ∀ a, a ≠ q → J3 a = J2 a := fun a h => by rw [hJ3, up2_o h, up2_o h, up2_o h]
      obtain ⟨I1, hI1⟩ : ∃ I1, I1 = up2 J3 (b + 1) 1 (nI cnt + 1) := ⟨_, rfl⟩
      have o1' : ∀ a, a ≠ b + 1 → I1 a = J3 a := fun a h => by rw [hI1, up2_o h]
      have o1 : ∀ a, a ≠ b + 1 → a ≠ b + 1 + 5 → a ≠ q → a ≠ q + 1 → a ≠ q + 2 → I1 a = I a := fun a ha hb hc hd he => by rw [o1' a ha, oJ3 a hc, w2 a hd he, oJ a hb]
      have jc : J (b + 1) 1 = nI cnt := by rw [oJ _ (by omega)]; exact hc1
      have jc2 : J2 (b + 1) 1 = nI cnt := by rw [w2 _ (by omega) (by omega)]; exact jc
      have jc3 : J3 (b + 1) 1 = nI cnt := by rw [oJ3 _ (by omega)]; exact jc2
      have i1c : I1 (b + 1) 1 = nI cnt + 1 := by rw [hI1, up2_s]
      have back1 : nI cnt + 1 - 1 = nI cnt := by rw [nI_1, show (1 : Int32) = nI 1 from rfl, pk_sub (by omega)]; rfl
      -- the model's
      obtain ⟨M, hM⟩ : ∃ M, M = up2 (up2 (up2 I1 (b + 126 + 1) (8 + cnt) x1) (b + 126 + 1) (12 + cnt) x2) (b + 126 + 1) (16 + cnt) x3 := ⟨_, rfl⟩
      have oM : ∀ a, a ≠ b + 126 + 1 → M a = I1 a := fun a h => by rw [hM, up2_o h, up2_o h, up2_o h]
      obtain ⟨M2, v1, v2, v3⟩ := e_newL (I := M) hmod hl
      have tM : ∀ j, M (b + 126 + 1) j = if j = 16 + cnt then x3 else if j = 12 + cnt then x2 else if j = 8 + cnt then x1 else I (b + 126 + 1) j := fun j => by rw [hM, ← o1 (b + 126 + 1) (by omega) (by omega) (by omega) (by omega) (by omega)]; simp [up2]
      have m20 : M2 (b + 126 + 1) 0 = nI cnt := by rw [v3, if_neg (by omega), tM, if_neg (by omega), if_neg (by omega), if_neg (by omega)]; exact hg0
      obtain ⟨I2, hI2⟩ : ∃ I2, I2 = up2 (up2 (up2 M2 (b + 126 + 1) 0 (nI cnt + 1)) (b + 126 + 1) 6 0) (b + 126 + 1) 7 0 := ⟨_, rfl⟩
      have o2 : ∀ a, a ≠ b + 126 + 1 → I2 a = I1 a := fun a h => by rw [hI2, up2_o h, up2_o h, up2_o h, v2 a h, oM a h]
      have t2 : ∀ j, I2 (b + 126 + 1) j = if j = 7 then 0 else if j = 6 then 0 else if j = 0 then nI cnt + 1 else M2 (b + 126 + 1) j := fun j => by rw [hI2]; simp [up2]
      have s8 : (8 : Int32) + nI cnt = nI (8 + cnt) := e_sl 8 cnt
      have s12 : (12 : Int32) + nI cnt = nI (12 + cnt) := e_sl 12 cnt
      have s16 : (16 : Int32) + nI cnt = nI (16 + cnt) := e_sl 16 cnt
      have i10 : I1 (b + 126 + 1) 0 = nI cnt := by rw [o1 _ (by omega) (by omega) (by omega) (by omega) (by omega)]; exact hg0
      have lt4 : nI cnt < 4 := nI_lt (b := 4) hl (by decide)
      have ne4 : ¬ nI cnt = 4 := fun e => h4 ((nI_eq (b := 4) (by omega) (by decide)).mp e)
      refine ⟨(nI cnt, I1), ?_, (nI cnt, I2), ?_, rfl, ?_⟩
      · simp [fn_X9_layer, c1, gd_pos kb, pb0, gd_pos k7, hc1, lt4, fn_X6_addLayer, pp5, e_forget k2, ← hJ, gd_pos k2, pp0, jc, jc2, jc3, gd_pos gl, nI_clamp (show cnt < 2 ^ 31 by omega), hlq, w1, gd_pos ks, fn_X4_wear, ← hJ3, ← hI1, i1c, back1]
      · simp [fn_X10_layer, d1, gd_pos km, pm, gd_pos g0v, i10, ne4, s8, s12, s16, gd_pos (vp_g hmod (show 8 + cnt < 5608 by omega)), gd_pos (vp_g hmod (show 12 + cnt < 5608 by omega)), gd_pos (vp_g hmod (show 16 + cnt < 5608 by omega)), nI_clamp (show 8 + cnt < 2 ^ 31 by omega), nI_clamp (show 12 + cnt < 2 ^ 31 by omega), nI_clamp (show 16 + cnt < 2 ^ 31 by omega), ← hM, v1, m20, e_noActs hmod, ← hI2]
      · show Rel K N b I2 P
        have ho : ∀ a, a ≠ b + 1 → a ≠ b + 1 + 5 → a ≠ q → a ≠ q + 1 → a ≠ q + 2 → a ≠ b + 126 + 1 → I2 a = I a := fun a ha hb hc hd he hf => (o2 a hf).trans (o1 a ha hb hc hd he)
        have hgo : ∀ j, j ≠ 0 → j ≠ 6 → j ≠ 7 → j ≠ 8 + cnt → j ≠ 12 + cnt → j ≠ 16 + cnt → ¬ (20 + 192 * cnt ≤ j ∧ j < 20 + 192 * cnt + 192) → ¬ (788 + 192 * cnt ≤ j ∧ j < 788 + 192 * cnt + 192) → I2 (b + 126 + 1) j = I (b + 126 + 1) j := fun j ha hb hc hd he hf hg hh => by
          rw [t2, if_neg hc, if_neg hb, if_neg ha, v3, if_neg (by omega), tM, if_neg hf, if_neg he, if_neg hd]
        have rq : ∀ j, I2 q j = if j = 4 then x3 else if j = 3 then x2 else if j = 2 then x1 else J2 q j := fun j => by rw [o2 _ (by omega), o1' _ (by omega), hJ3]; simp [up2]
        have rc : ∀ j, I2 (b + 1) j = if j = 1 then nI cnt + 1 else I (b + 1) j := fun j => by
          rw [o2 _ (by omega), hI1, show I (b + 1) j = J3 (b + 1) j by rw [oJ3 _ (by omega), w2 _ (by omega) (by omega), oJ _ (by omega)]]; simp [up2]
        have ra : ∀ j, I2 (b + 1 + 5) j = if j = 2 then 0 else if j = 1 then 0 else I (b + 1 + 5) j := fun j => by
          rw [o2 _ (by omega), o1' _ (by omega), oJ3 _ (by omega), w2 _ (by omega) (by omega), hJ]; simp [up2]
        refine hR0.pic (rest_all (fun a h h' => ho a (by omega) (by omega) (by omega) (by omega) (by omega) h')) (fun _ _ _ => rfl) ⟨cnt + 1, 0, 0, σ, τ, ⟨by omega, by omega, by omega⟩, ⟨hσ, hτ, hlay, hact⟩, ⟨?_, ?_⟩, ⟨?_, ?_⟩, ?_, ?_, ?_, ⟨?_, ?_, ?_, ?_⟩, fun k hk => absurd hk (by omega)⟩
        · rw [rc, if_pos rfl, nI_1]
        · show I2 (b + 126 + 1) 0 = nI (cnt + 1)
          rw [t2, if_neg (by decide), if_neg (by decide), if_pos rfl, nI_1]
        · show I2 (b + 1) 2 = I2 (b + 126 + 1) 1
          rw [rc, if_neg (by decide), hgo 1 (by omega) (by omega) (by omega) (by omega) (by omega) (by omega) (by omega) (by omega)]; exact hpap
        · show inR (I2 (b + 126 + 1) 1) 256
          rw [hgo 1 (by omega) (by omega) (by omega) (by omega) (by omega) (by omega) (by omega) (by omega)]; exact hpap2
        · exact hbr.keep (ho _ (by omega) (by omega) (by omega) (by omega) (by omega) (by omega)) (fun j _ _ => hgo j (by omega) (by omega) (by omega) (by omega) (by omega) (by omega) (by omega) (by omega))
        · intro i hi
          show LayR I2 (b + 1 + 40 + 3 * σ i) (I2 (b + 126 + 1)) i ∧ LayI (I2 (b + 126 + 1)) i
          by_cases hil : i = cnt
          · subst hil
            rw [← hq]
            have z8 : I2 (b + 126 + 1) (8 + i) = x1 := by rw [t2, if_neg (by omega), if_neg (by omega), if_neg (by omega), v3, if_neg (by omega), tM, if_neg (by omega), if_neg (by omega), if_pos rfl]
            have z12 : I2 (b + 126 + 1) (12 + i) = x2 := by rw [t2, if_neg (by omega), if_neg (by omega), if_neg (by omega), v3, if_neg (by omega), tM, if_neg (by omega), if_pos rfl]
            have z16 : I2 (b + 126 + 1) (16 + i) = x3 := by rw [t2, if_neg (by omega), if_neg (by omega), if_neg (by omega), v3, if_neg (by omega), tM, if_pos rfl]
            have z20 : ∀ d, d < 192 → I2 (b + 126 + 1) (20 + 192 * i + d) = 0 := fun d hd => by rw [t2, if_neg (by omega), if_neg (by omega), if_neg (by omega), v3, if_pos (by omega)]
            have z788 : ∀ d, d < 192 → I2 (b + 126 + 1) (788 + 192 * i + d) = 0 := fun d hd => by rw [t2, if_neg (by omega), if_neg (by omega), if_neg (by omega), v3, if_pos (by omega)]
            refine ⟨⟨?_, ?_, ?_, fun d hd => ⟨?_, ?_⟩⟩, ⟨?_, ?_, ?_, fun d hd => ?_⟩⟩
            · rw [z8, rq, if_neg (by decide), if_neg (by decide), if_pos rfl]
            · rw [z12, rq, if_neg (by decide), if_pos rfl]
            · rw [z16, rq, if_pos rfl]
            · rw [z20 d hd, o2 _ (by omega), o1' _ (by omega), oJ3 _ (by omega)]; exact (w3 d hd).1
            · rw [z788 d hd, o2 _ (by omega), o1' _ (by omega), oJ3 _ (by omega)]; exact (w3 d hd).2
            · rw [z8]; exact h1
            · rw [z12]; exact h2
            · rw [z16]; exact h3
            · rw [z20 d hd, z788 d hd]; exact ⟨⟨0, by decide, rfl⟩, ⟨0, by decide, rfl⟩, fun _ => rfl⟩
          · have hi' : i < cnt := by omega
            have hne : σ i ≠ σ cnt := fun e => hil (hσ.2 i cnt (by omega) (by omega) e)
            have hsi := hσ.1 i (by omega)
            obtain ⟨⟨y2, y3, y4, yd⟩, ⟨zm, zg, zo, zd⟩⟩ := hlays i hi'
            have u8 := hgo (8 + i) (by omega) (by omega) (by omega) (by omega) (by omega) (by omega) (by omega) (by omega)
            have u12 := hgo (12 + i) (by omega) (by omega) (by omega) (by omega) (by omega) (by omega) (by omega) (by omega)
            have u16 := hgo (16 + i) (by omega) (by omega) (by omega) (by omega) (by omega) (by omega) (by omega) (by omega)
            have u20 : ∀ d, d < 192 → I2 (b + 126 + 1) (20 + 192 * i + d) = I (b + 126 + 1) (20 + 192 * i + d) := fun d hd => hgo _ (by omega) (by omega) (by omega) (by omega) (by omega) (by omega) (by omega) (by omega)
            have u788 : ∀ d, d < 192 → I2 (b + 126 + 1) (788 + 192 * i + d) = I (b + 126 + 1) (788 + 192 * i + d) := fun d hd => hgo _ (by omega) (by omega) (by omega) (by omega) (by omega) (by omega) (by omega) (by omega)
            have r0 : I2 (b + 1 + 40 + 3 * σ i) = I (b + 1 + 40 + 3 * σ i) := ho _ (by omega) (by omega) (by omega) (by omega) (by omega) (by omega)
            have r1 : I2 (b + 1 + 40 + 3 * σ i + 1) = I (b + 1 + 40 + 3 * σ i + 1) := ho _ (by omega) (by omega) (by omega) (by omega) (by omega) (by omega)
            have r2 : I2 (b + 1 + 40 + 3 * σ i + 2) = I (b + 1 + 40 + 3 * σ i + 2) := ho _ (by omega) (by omega) (by omega) (by omega) (by omega) (by omega)
            refine ⟨⟨?_, ?_, ?_, fun d hd => ?_⟩, ⟨?_, ?_, ?_, fun d hd => ?_⟩⟩
            · rw [r0, u8]; exact y2
            · rw [r0, u12]; exact y3
            · rw [r0, u16]; exact y4
            · rw [r1, r2, u20 d hd, u788 d hd]; exact yd d hd
            · rw [u8]; exact zm
            · rw [u12]; exact zg
            · rw [u16]; exact zo
            · rw [u20 d hd, u788 d hd]; exact zd d hd
        · exact hmask.keep (ho _ (by omega) (by omega) (by omega) (by omega) (by omega) (by omega)) (ho _ (by omega) (by omega) (by omega) (by omega) (by omega) (by omega)) (fun j _ _ => hgo j (by omega) (by omega) (by omega) (by omega) (by omega) (by omega) (by omega) (by omega))
        · rw [ra]; rfl
        · show I2 (b + 126 + 1) 6 = nI 0
          rw [t2]; rfl
        · rw [ra]; rfl
        · show I2 (b + 126 + 1) 7 = nI 0
          rw [t2]; rfl
  · rw [bI_f h1] at c1 d1
    exact ⟨(-2, I), by simp [fn_X9_layer, c1], (-2, I), by simp [fn_X10_layer, d1], rfl, hR0⟩
