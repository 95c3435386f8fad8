/-! what is seen, by the picture alone -/
noncomputable def seenV (I : Nat → Nat → Int32) (b : Nat) (σ : Nat → Nat) (cnt d : Nat) : Int32 := seeL (fun l => I (b + 1 + 40 + 3 * σ l) 2) (fun l => I (b + 1 + 40 + 3 * σ l) 3) (fun l => I (b + 1 + 40 + 3 * σ l) 4) (fun l => I (b + 1 + 40 + 3 * σ l + 1) d) (fun l => I (b + 1 + 40 + 3 * σ l + 2) d) cnt (I (b + 1) 2)
theorem seenV_keep {I I' : Nat → Nat → Int32} {b cnt d : Nat} {σ : Nat → Nat} (hσ : Perm 4 σ) (hc : cnt ≤ 4) (h : ∀ a, b + 1 ≤ a → a < b + 53 → I' a = I a) : seenV I' b σ cnt d = seenV I b σ cnt d := by
  unfold seenV
  rw [h (b + 1) (by omega) (by omega)]
  refine seeL_cong cnt (fun l hl => ?_)
  have := hσ.1 l (by omega)
  rw [h (b + 1 + 40 + 3 * σ l) (by omega) (by omega), h (b + 1 + 40 + 3 * σ l + 1) (by omega) (by omega), h (b + 1 + 40 + 3 * σ l + 2) (by omega) (by omega)]
  exact ⟨rfl, rfl, rfl, rfl, rfl⟩
theorem e_seenPic {K N : Nat → Nat} {b : Nat} {I : Nat → Nat → Int32} {P : Nat → Nat → Option Nat} {cnt kp al : Nat} {σ τ : Nat → Nat} (hA : AllSh K N P b) (hpic : PicR I P (b + 1) (I (b + 127)) cnt kp al σ τ) {d : Nat} (hd : d < 192) : fn_X9_seenAt K N I P b (nI d) = some (seenV I b σ cnt d) ∧ fn_X10_seen_ K N I P (b + 126) (nI d) = some (seenV I b σ cnt d) ∧ inR (seenV I b σ cnt d) 256 := by
  obtain ⟨hroot, hp1, hp53, hmod⟩ := hA
  have hpic : PicR I P (b + 1) (I (b + 126 + 1)) cnt kp al σ τ := hpic
  obtain ⟨⟨hcnt, hkp, hal⟩, ⟨hσ, hτ, hlay, hact⟩, ⟨hc1, hg0⟩, ⟨hpap, hpap2⟩, hbr, hlays, hmask, ⟨ha1, ha2, ha3, ha4⟩, hacts⟩ := hpic
  obtain ⟨⟨kb, pb0, pb1, pb3, pb4, pb5, pb6, pb7⟩, hrt, hrs, hrc, hrth, hrl⟩ := id hroot
  obtain ⟨⟨k7, k15, n4, k6, k13, n192, k3, k2, k14, n11⟩, ⟨pp0, pp3, pp4, pp5, pm0, pa0⟩, hacsh, hlash⟩ := id hp1
  have km := hmod.1.1
  have pm := hmod.2.2.1
  have hb : inR (I (b + 1) 2) 256 := by rw [hpap]; exact hpap2
  have hin : ∀ l, l < cnt → inR (I (b + 1 + 40 + 3 * σ l) 3) 100 ∧ inR (I (b + 1 + 40 + 3 * σ l) 4) 256 ∧ inR (I (b + 1 + 40 + 3 * σ l + 1) d) 256 ∧ inR (I (b + 1 + 40 + 3 * σ l + 2) d) 256 := fun l hl => by
    obtain ⟨⟨r2, r3, r4, rd⟩, ⟨im, ig, io, di⟩⟩ := hlays l hl
    rw [r3, r4, (rd d hd).1, (rd d hd).2]
    exact ⟨ig, io, (di d hd).1, (di d hd).2.1⟩
  have h1 := e_seenIf hp1 hrth hd hcnt hc1 hσ hlay (-1) (fun l => b + 1 + 40 + 3 * σ l) (fun l hl => by rw [if_neg (nI_m1 (by omega))]) hin (I (b + 1) 2) hb
  have h2 := e_mseen hmod hd hcnt hg0 (I (b + 126 + 1) 1) (-1) 0
  refine ⟨?_, ?_, seeL_in hb cnt hin⟩
  · unfold fn_X9_seenAt
    rw [gd_pos kb, pb0, Option.bind_some, gd_pos k7, pb6, Option.bind_some, h1, Option.bind_some]
    rfl
  · unfold fn_X10_seen_
    rw [gd_pos km, pm, Option.bind_some, gd_pos (show K (b + 126 + 1) = 12 ∧ vp_in 1 (N (b + 126 + 1)) from vp_g hmod (j := 1) (by decide)), h2, Option.bind_some]
    congr 1
    rw [show I (b + 126 + 1) 1 = I (b + 1) 2 from hpap.symm]
    refine seeL_cong cnt (fun l hl => ?_)
    obtain ⟨⟨r2, r3, r4, rd⟩, -⟩ := hlays l hl
    exact ⟨by rw [if_neg (nI_m1 (by omega)), r2], r3.symm, r4.symm, (rd d hd).1.symm, (rd d hd).2.symm⟩
theorem byte16 {v : Int32} (h : inR v 256) : Int16.toInt32 (Int32.toInt16 v) = v := by
  obtain ⟨j, hj, rfl⟩ := h
  have key : ∀ j : Fin 256, Int16.toInt32 (Int32.toInt16 (nI j.val)) = nI j.val := by decide +kernel
  exact key ⟨j, hj⟩
set_option maxHeartbeats 4000000 in
theorem q_film {K N : Nat → Nat} {b : Nat} : sp_film (Rel K N b) b K N := by
  intro I P x1 x2 hR
  have hR0 := hR
  obtain ⟨⟨hroot, hp1, hp53, hmod⟩, ⟨cnt, kp, al, σ, τ, hpic⟩, himg, ⟨fed, htape⟩, hsheets⟩ := hR
  have hpic : PicR I P (b + 1) (I (b + 126 + 1)) cnt kp al σ τ := hpic
  have hpic0 := hpic
  obtain ⟨⟨hcnt, hkp, hal⟩, ⟨hσ, hτ, hlay, hact⟩, ⟨hc1, hg0⟩, ⟨hpap, hpap2⟩, hbr, hlays, hmask, ⟨ha1, ha2, ha3, ha4⟩, hacts⟩ := hpic
  obtain ⟨⟨kb, pb0, pb1, pb3, pb4, pb5, pb6, pb7⟩, hrt, hrs, hrc, hrth, hrl⟩ := id hroot
  obtain ⟨⟨k7, k15, n4, k6, k13, n192, k3, k2, k14, n11⟩, ⟨pp0, pp3, pp4, pp5, pm0, pa0⟩, hacsh, hlash⟩ := id hp1
  have km := hmod.1.1
  have pm := hmod.2.2.1
  have c1 := e_isSheet x1
  have d1 := e_isSheet' x1
  have c2 := e_isRow x2
  have d2 : fn_X10_isIn x2 0 11 = _ := isIn_nI (x := x2) (n := 12) (by decide) (by decide)
  by_cases h1 : inR x1 4
  · rw [bI_t h1] at c1 d1
    by_cases h2 : inR x2 12
    · rw [bI_t h2] at c2 d2
      obtain ⟨i, hi, rfl⟩ := h1
      obtain ⟨y, hy, rfl⟩ := h2
      have hA : AllSh K N P b := hR0.1
      obtain ⟨k16, n4', hsh⟩ := hrs
      obtain ⟨pi, k8, k12, n40, p2⟩ := hsh i hi
      have g1 : K (b + 109) = 16 ∧ vp_in (nI i) (N (b + 109)) := ⟨k16, by rw [n4']; exact vp_in_nI hi (by decide)⟩
      have g2 : P (b + 109) (nI i).toNatClampNeg = some (b + 110 + 2 * i) := by rw [nI_clamp (by omega)]; exact pi
      have p20 : P (b + 126) 20 = some (b + 126 + 9) := hmod.2.2.2.2.2.2.2.2.2.2.1
      have p21 : P (b + 126) 21 = some (b + 126 + 10) := hmod.2.2.2.2.2.2.2.2.2.2.2.1
      have p22 : P (b + 126) 22 = some (b + 126 + 11) := hmod.2.2.2.2.2.2.2.2.2.2.2.2
      have k11 : K (b + 126 + 11) = 12 := hmod.1.2.2.2.2.2.2.2.2.2.2.2
      have n11' : N (b + 126 + 11) = 160 := hmod.2.1.2.2.2.2.2.2.2.2.2.2
      have k9 : K (b + 126 + 9) = 12 ∧ vp_in (nI i) (N (b + 126 + 9)) := ⟨hmod.1.2.2.2.2.2.2.2.2.2.1, by rw [hmod.2.1.2.2.2.2.2.2.2.2.1]; exact vp_in_nI hi (by decide)⟩
      have k10 : K (b + 126 + 10) = 12 ∧ vp_in (nI i) (N (b + 126 + 10)) := ⟨hmod.1.2.2.2.2.2.2.2.2.2.2.1, by rw [hmod.2.1.2.2.2.2.2.2.2.2.2.1]; exact vp_in_nI hi (by decide)⟩
      obtain ⟨J, hJ⟩ : ∃ J, J = up2 (up2 I (b + 110 + 2 * i) 0 0) (b + 110 + 2 * i) 1 16 := ⟨_, rfl⟩
      obtain ⟨I0, f1, f2, f3⟩ := e_fill (I := J) (P := P) k12 n40 (by omega) 0
      have wb : fn_X7_become K N I P (b + 110 + 2 * i) 0 16 = some I0 := by
        unfold fn_X7_become
        rw [gd_pos k8, Option.bind_some, Option.bind_some, p2, Option.bind_some, ← hJ, f1, Option.bind_some]
      have oJ : ∀ a, a ≠ b + 110 + 2 * i → J a = I a := fun a h => by rw [hJ, up2_o h, up2_o h]
      have o0 : ∀ a, a ≠ b + 110 + 2 * i → a ≠ b + 111 + 2 * i → I0 a = I a := fun a h h' => (f2 a h').trans (oJ a h)
      have tq0 : ∀ j, I0 (b + 110 + 2 * i) j = if j = 1 then 16 else if j = 0 then 0 else I (b + 110 + 2 * i) j := fun j => by
        rw [f2 _ (by omega), hJ]; simp [up2]
      have hdot : ∀ v, v < 16 → 16 * y + v < 192 := fun v hv => dot_lt hv hy
      -- the class's walk
      have key := loop_ok (F := fun f v z => fn_X9_film_L31 K N b (nI y) P (b + 110 + 2 * i) f (nI v) z) 16 (fun v z => (∀ a, a ≠ b + 111 + 2 * i → z a = I0 a) ∧ ∀ j, j < v → z (b + 111 + 2 * i) j = seenV I b σ cnt (16 * y + j)) (fun z => (∀ a, a ≠ b + 111 + 2 * i → z a = I0 a) ∧ ∀ j, j < 16 → z (b + 111 + 2 * i) j = seenV I b σ cnt (16 * y + j))
        (fun f z hz => by
          simp only [fn_X9_film_L31]
          rw [if_pos (show (16 : Int32) ≤ nI 16 from nI_le (a := 16) (Nat.le_refl _) (by omega))]
          exact ok_some.mpr hz)
        (fun f v z hv hz kk => by
          simp only [fn_X9_film_L31]
          have hzp : PicR z P (b + 1) (z (b + 127)) cnt kp al σ τ := by
            rw [hz.1 (b + 127) (by omega), o0 (b + 127) (by omega) (by omega)]
            exact hpic0.keep (fun a _ _ => by rw [hz.1 a (by omega), o0 a (by omega) (by omega)]) (fun _ _ _ => rfl)
          have hsv : seenV z b σ cnt (16 * y + v) = seenV I b σ cnt (16 * y + v) := seenV_keep hσ hcnt (fun a _ _ => by rw [hz.1 a (by omega), o0 a (by omega) (by omega)])
          obtain ⟨w1, -, w3⟩ := e_seenPic hA hzp (hdot v hv)
          rw [hsv] at w1 w3
          have z1 : z (b + 110 + 2 * i) 1 = nI 16 := by rw [hz.1 _ (by omega), tq0, if_pos rfl]; rfl
          have z0 : z (b + 110 + 2 * i) 0 = 0 := by rw [hz.1 _ (by omega), tq0, if_neg (by decide), if_pos rfl]
          have hset : fn_X7_set K N z P (b + 110 + 2 * i) (nI v) (seenV I b σ cnt (16 * y + v)) = some (up2 z (b + 111 + 2 * i) v (seenV I b σ cnt (16 * y + v))) := by
            unfold fn_X7_set
            rw [if_neg (nI_pos (by omega)), gd_pos k8, z1, if_neg (nI_ge hv (by omega)), p2, Option.bind_some, if_pos z0, gd_pos ⟨k12, by rw [n40]; exact vp_in_nI (by omega) (by omega)⟩, Option.bind_some, nI_clamp (by omega), byte16 w3]
          rw [if_neg (show ¬ (16 : Int32) ≤ nI v from nI_ge (b := 16) hv (by omega)), e_dotAt, Option.bind_some, w1, Option.bind_some, hset, Option.bind_some, nI_1]
          refine kk _ ⟨fun a ha => by rw [up2_o ha]; exact hz.1 a ha, fun j hj => ?_⟩
          by_cases hjv : j = v
          · subst hjv; rw [up2_s]
          · rw [up2_k hjv]; exact hz.2 j (by omega))
        FU 0 I0 (Nat.zero_le _) (FU_lt (by omega)) ⟨fun _ _ => rfl, fun j hj => absurd hj (by omega)⟩
      obtain ⟨I1, w1, w2, w3⟩ := key
      have w1 : fn_X9_film_L31 K N b (nI y) P (b + 110 + 2 * i) FU 0 I0 = some I1 := w1
      -- the model's walk
      obtain ⟨M, hM⟩ : ∃ M, M = up2 (up2 I1 (b + 126 + 9) i 0) (b + 126 + 10) i 16 := ⟨_, rfl⟩
      have oM : ∀ a, a ≠ b + 126 + 9 → a ≠ b + 126 + 10 → M a = I1 a := fun a h h' => by rw [hM, up2_o h', up2_o h]
      have oMI : ∀ a, a ≠ b + 126 + 9 → a ≠ b + 126 + 10 → a ≠ b + 110 + 2 * i → a ≠ b + 111 + 2 * i → M a = I a := fun a h1 h2 h3 h4 => by rw [oM a h1 h2, w2 a h4, o0 a h3 h4]
      have key2 := loop_ok (F := fun f v z => fn_X10_film_L37 K N (b + 126) (nI i) (nI y) P f (nI v) z) 16 (fun v z => (∀ a, a ≠ b + 126 + 11 → z a = M a) ∧ ∀ j, z (b + 126 + 11) j = if 40 * i ≤ j ∧ j < 40 * i + v then seenV I b σ cnt (16 * y + (j - 40 * i)) else M (b + 126 + 11) j) (fun z => (∀ a, a ≠ b + 126 + 11 → z a = M a) ∧ ∀ j, z (b + 126 + 11) j = if 40 * i ≤ j ∧ j < 40 * i + 16 then seenV I b σ cnt (16 * y + (j - 40 * i)) else M (b + 126 + 11) j)
        (fun f z hz => by
          simp only [fn_X10_film_L37]
          rw [if_pos (show (16 : Int32) ≤ nI 16 from nI_le (a := 16) (Nat.le_refl _) (by omega))]
          exact ok_some.mpr hz)
        (fun f v z hv hz kk => by
          simp only [fn_X10_film_L37]
          have hzp : PicR z P (b + 1) (z (b + 127)) cnt kp al σ τ := by
            rw [hz.1 (b + 127) (by omega), oMI (b + 127) (by omega) (by omega) (by omega) (by omega)]
            exact hpic0.keep (fun a _ _ => by rw [hz.1 a (by omega), oMI a (by omega) (by omega) (by omega) (by omega)]) (fun _ _ _ => rfl)
          have hsv : seenV z b σ cnt (16 * y + v) = seenV I b σ cnt (16 * y + v) := seenV_keep hσ hcnt (fun a _ _ => by rw [hz.1 a (by omega), oMI a (by omega) (by omega) (by omega) (by omega)])
          obtain ⟨-, w1, -⟩ := e_seenPic hA hzp (hdot v hv)
          rw [hsv] at w1
          have a1 : (40 : Int32) * nI i + nI v = nI (40 * i + v) := by rw [show (40 : Int32) = nI 40 from rfl, pk_mul, nI_add]
          rw [if_neg (show ¬ (16 : Int32) ≤ nI v from nI_ge (b := 16) hv (by omega)), p22, Option.bind_some, e_dotOf, Option.bind_some, w1, Option.bind_some, a1, gd_pos ⟨k11, by rw [n11']; exact vp_in_nI (by omega) (by omega)⟩, Option.bind_some, nI_clamp (by omega), nI_1]
          refine kk _ ⟨fun a ha => by rw [up2_o ha]; exact hz.1 a ha, fun j => ?_⟩
          by_cases hjv : j = 40 * i + v
          · subst hjv; rw [up2_s, if_pos (by omega)]; congr 1; omega
          · rw [up2_k hjv, hz.2 j]
            by_cases h2 : 40 * i ≤ j ∧ j < 40 * i + v
            · rw [if_pos h2, if_pos (by omega)]
            · rw [if_neg h2, if_neg (by omega)])
        FU 0 M (Nat.zero_le _) (FU_lt (by omega)) ⟨fun _ _ => rfl, fun j => by rw [if_neg (by omega)]⟩
      obtain ⟨I2, v1, v2, v3⟩ := key2
      have v1 : fn_X10_film_L37 K N (b + 126) (nI i) (nI y) P FU 0 M = some I2 := v1
      refine ⟨(16, I1), ?_, (16, I2), ?_, rfl, ?_⟩
      · simp [fn_X9_film, c1, c2, gd_pos kb, pb4, gd_pos g1, g2, wb, gd_pos k8, w1]
      · simp [fn_X10_film, d1, d2, gd_pos km, p20, p21, gd_pos k9, gd_pos k10, nI_clamp (show i < 2 ^ 31 by omega), ← hM, v1]
      · show Rel K N b I2 P
        have ho : ∀ a, a ≠ b + 110 + 2 * i → a ≠ b + 111 + 2 * i → a ≠ b + 126 + 9 → a ≠ b + 126 + 10 → a ≠ b + 126 + 11 → I2 a = I a := fun a h1 h2 h3 h4 h5 => by rw [v2 a h5, oMI a h3 h4 h1 h2]
        have t9 : ∀ j, I2 (b + 126 + 9) j = if j = i then 0 else I (b + 126 + 9) j := fun j => by
          rw [v2 _ (by omega), hM, up2_o (show b + 126 + 9 ≠ b + 126 + 10 by omega), ← o0 (b + 126 + 9) (by omega) (by omega), ← w2 (b + 126 + 9) (by omega)]; simp [up2]
        have t10 : ∀ j, I2 (b + 126 + 10) j = if j = i then 16 else I (b + 126 + 10) j := fun j => by
          rw [v2 _ (by omega), hM, ← o0 (b + 126 + 10) (by omega) (by omega), ← w2 (b + 126 + 10) (by omega)]; simp [up2]
        have tq : ∀ j, I2 (b + 110 + 2 * i) j = if j = 1 then 16 else if j = 0 then 0 else I (b + 110 + 2 * i) j := fun j => by
          rw [v2 _ (by omega), oM _ (by omega) (by omega), w2 _ (by omega), tq0]
        refine hR0.sheets (fun a h h1 h2 h3 => ho a (by omega) (by omega) (by omega) (by omega) (by omega)) (fun k hk => ?_)
        obtain ⟨nk, hnk, z0, z01, zm, z1, zm1, zit⟩ := hsheets k hk
        by_cases hki : k = i
        · subst hki
          have e9 : I2 (b + 135) k = 0 := by rw [show I2 (b + 135) k = _ from t9 k, if_pos rfl]
          have e10 : I2 (b + 136) k = 16 := by rw [show I2 (b + 136) k = _ from t10 k, if_pos rfl]
          refine ⟨16, by omega, ?_, by rw [e9]; exact Or.inr (Or.inl rfl), by rw [e9]; exact fun e => absurd e (by decide), ?_, e10, fun d hd => ?_⟩
          · rw [e9, tq, if_neg (by decide), if_pos rfl]
          · rw [tq, if_pos rfl]; rfl
          · rw [show I2 (b + 137) (40 * k + d) = _ from v3 (40 * k + d), if_pos (by omega), v2 _ (by omega), oM _ (by omega) (by omega), w3 d hd, show 40 * k + d - 40 * k = d by omega]
        · have e9 : I2 (b + 135) k = I (b + 135) k := by rw [show I2 (b + 135) k = _ from t9 k, if_neg hki]
          have e10 : I2 (b + 136) k = I (b + 136) k := by rw [show I2 (b + 136) k = _ from t10 k, if_neg hki]
          refine ⟨nk, hnk, ?_, by rw [e9]; exact z01, by rw [e9]; exact zm, ?_, e10.trans zm1, fun d hd => ?_⟩
          · rw [e9, ho _ (by omega) (by omega) (by omega) (by omega) (by omega)]; exact z0
          · rw [ho _ (by omega) (by omega) (by omega) (by omega) (by omega)]; exact z1
          · rw [ho (b + 111 + 2 * k) (by omega) (by omega) (by omega) (by omega) (by omega), show I2 (b + 137) (40 * k + d) = _ from v3 (40 * k + d), if_neg (by omega), oMI _ (by omega) (by omega) (by omega) (by omega)]
            exact zit d hd
    · rw [bI_f h2] at c2 d2
      exact ⟨(-2, I), by simp [fn_X9_film, c1, c2], (-2, I), by simp [fn_X10_film, d1, d2], rfl, hR0⟩
  · rw [bI_f h1] at c1 d1
    exact ⟨(-2, I), by simp [fn_X9_film, c1], (-2, I), by simp [fn_X10_film, d1], rfl, hR0⟩
