/-! the thought layer, the sprayed layer: what is seen with them -/
def nwD (g : Nat → Int32) (cnt l : Nat) (si so : Nat → Int32) (d : Nat) : Int32 := seeL (fun l' => g (8 + l')) (fun l' => g (12 + l')) (fun l' => g (16 + l')) (fun l' => if l' = l then si d else g (20 + 192 * l' + d)) (fun l' => if l' = l then so d else g (788 + 192 * l' + d)) cnt (g 1)
set_option maxHeartbeats 4000000 in
theorem e_thought {K N : Nat → Nat} {b : Nat} {I z : Nat → Nat → Int32} {P : Nat → Nat → Option Nat} {cnt kp al l n : Nat} {σ τ : Nat → Nat} (seed : Int32) (hR : Rel K N b I P) (hpic0 : PicR I P (b + 1) (I (b + 126 + 1)) cnt kp al σ τ) (hl : l < cnt) (hn : n < 2000) (hz : ∀ a, ¬ (b + 122 ≤ a ∧ a < b + 125) → z a = I a) (S : SP) (hS : S = sprN (fun d => I (b + 126 + 1) (1556 + d)) (I (b + 126 + 1) 4) (fun x y d => covD K N I P (b + 126) x y d) (seed, (fun d => I (b + 126 + 1) (20 + 192 * l + d)), fun d => I (b + 126 + 1) (788 + 192 * l + d)) n) : ∃ J, fn_X9_sprayThought K N z P b (nI l) seed (nI n) = some J ∧ (∀ a, ¬ (b + 122 ≤ a ∧ a < b + 125) → J a = I a) ∧ ∀ d, d < 192 → fn_X9_isOtherwiseInThought K N J P b (nI l) (nI d) = some (if seenV I b σ cnt d = nwD (I (b + 126 + 1)) cnt l S.2.1 S.2.2 d then 0 else 1) := by
  have hA : AllSh K N P b := hR.1
  obtain ⟨hroot, hp1, hp53, hmod⟩ := id hA
  obtain ⟨⟨hcnt, hkp, hal⟩, ⟨hσ, hτ, hlay, hact⟩, ⟨hc1, hg0⟩, ⟨hpap, hpap2⟩, hbr, hlays, hmask, ⟨ha1, ha2, ha3, ha4⟩, hacts⟩ := id hpic0
  obtain ⟨⟨kb, pb0, pb1, pb3, pb4, pb5, pb6, pb7⟩, hrt, hrs, hrc, hrth, hrl⟩ := id hroot
  obtain ⟨⟨k7, k15, n4, k6, k13, n192, k3, k2, k14, n11⟩, ⟨pp0, pp3, pp4, pp5, pm0, pa0⟩, hacsh, hlash⟩ := id hp1
  have hth : LaySh K N P (b + 122) := hrth
  have hsl := hσ.1 l (by omega)
  obtain ⟨e1, e2⟩ := e_layAt hp1 (show l < 4 by omega) hlay
  obtain ⟨⟨r2, r3, r4, rd⟩, ⟨im, ig, io, di⟩⟩ := hlays l hl
  obtain ⟨T, t1, t2, t3⟩ := e_layBecome (I := z) hth (hlash (σ l) hsl) (Or.inr (by omega))
  obtain ⟨⟨b0, b1, b2, b3⟩, i2, i3, i4, i5⟩ := id hbr
  obtain ⟨r, hr, er⟩ := i3
  have oT : ∀ a, ¬ (b + 122 ≤ a ∧ a < b + 125) → T a = I a := fun a h => by rw [t2 a (by omega), hz a h]
  have tq := fun d (hd : d < 192) => t3.2.2.2 d hd
  have hbi : T (b + 1 + 4) 2 = I (b + 126 + 1) 4 := by rw [oT _ (by omega)]; exact b2
  have C := fun x y (hx : x < 16) (hy : y < 12) => e_covs (P := P) (m := b + 126) k3 hmod hbr hx hy hr er
  obtain ⟨J, j1, j2⟩ := e_sprayC (A := T) (s := T) (P := P) (c := b + 1) (q := b + 122) (r := r) (n := n) (mk := fun d => I (b + 126 + 1) (1556 + d)) (cv := fun x y d => covD K N I P (b + 126) x y d) (s0 := (seed, (fun d => I (b + 126 + 1) (20 + 192 * l + d)), fun d => I (b + 126 + 1) (788 + 192 * l + d))) hp1 hth (by omega) hr hn (by rw [hbi]; exact i4) (by rw [oT _ (by omega)]; exact b1.trans er) (by rw [oT _ (by omega)]; exact hmask.2) (fun d hd => by rw [oT _ (by omega)]; exact (hmask.1 d hd).1) (fun x y hx hy w hw d hd => (C x y hx hy d hd).2.1 w (by rw [hw _ (by omega) (by omega), oT _ (by omega)]) (by rw [hw _ (by omega) (by omega), oT _ (by omega)])) (fun x y hx hy d hd => ⟨(C x y hx hy d hd).1, (C x y hx hy d hd).2.2.2⟩) (fun d hd => di d hd) ⟨fun _ _ _ => rfl, fun d hd => ⟨by rw [(tq d hd).1, hz _ (by omega)]; exact (rd d hd).1, by rw [(tq d hd).2, hz _ (by omega)]; exact (rd d hd).2⟩⟩
  rw [hbi, ← hS] at j2
  have oJ : ∀ a, ¬ (b + 122 ≤ a ∧ a < b + 125) → J a = I a := fun a h => by rw [j2.1 a (by omega) (by omega), oT a h]
  have hSin : ∀ d, d < 192 → DotI (S.2.1 d) (S.2.2 d) := by
    rw [hS]
    exact sprN_in i4 (fun x y hx hy d hd => (C x y hx hy d hd).1) (fun d hd => di d hd) n
  refine ⟨J, ?_, oJ, fun d hd => ?_⟩
  · unfold fn_X9_sprayThought
    rw [gd_pos kb, pb6, Option.bind_some, pb0, Option.bind_some, gd_pos k7, pp0, Option.bind_some, gd_pos e1, e2, Option.bind_some, t1, Option.bind_some, gd_pos hth.1, j1, Option.bind_some]
  · have hJp : PicR J P (b + 1) (J (b + 127)) cnt kp al σ τ := by
      rw [oJ (b + 127) (by omega)]
      exact hpic0.keep (fun a _ _ => oJ a (by omega)) (fun _ _ _ => rfl)
    have hsv : seenV J b σ cnt d = seenV I b σ cnt d := seenV_keep hσ hcnt (fun a _ _ => oJ a (by omega))
    obtain ⟨w1, -, -⟩ := e_seenPic hA hJp hd
    rw [hsv] at w1
    have q3 : J (b + 122) 3 = I (b + 126 + 1) (12 + l) := by rw [j2.1 _ (by omega) (by omega), t3.2.1, hz _ (by omega)]; exact r3
    have q4 : J (b + 122) 4 = I (b + 126 + 1) (16 + l) := by rw [j2.1 _ (by omega) (by omega), t3.2.2.1, hz _ (by omega)]; exact r4
    have q2 : J (b + 122) 2 = I (b + 126 + 1) (8 + l) := by rw [j2.1 _ (by omega) (by omega), t3.1, hz _ (by omega)]; exact r2
    have d1 := (j2.2 d hd).1
    have d2 := (j2.2 d hd).2
    have hp2 : J (b + 1) 2 = I (b + 126 + 1) 1 := by rw [oJ _ (by omega)]; exact hpap
    have w2 := e_seeIfC (z := J) hA hpic0 (fun a h1 h2 => oJ a (by omega)) (nI l) (J (b + 1) 2) hd (by rw [hp2]; exact hpap2) (fun l' hl' e => by
      have : l' = l := (nI_eq (by omega) (by omega)).mp e
      subst this
      rw [q3, q4]
      refine ⟨ig, io, ?_, ?_⟩
      · rw [show J (b + 123) d = _ from d1]; exact (hSin d hd).1
      · rw [show J (b + 124) d = _ from d2]; exact (hSin d hd).2.1)
    have w3 : seeT J (b + 122) (I (b + 126 + 1)) cnt (J (b + 1) 2) (nI l) d = nwD (I (b + 126 + 1)) cnt l S.2.1 S.2.2 d := by
      unfold seeT nwD
      rw [hp2]
      refine seeL_cong cnt (fun l' hl' => ?_)
      by_cases c : l' = l
      · subst c
        rw [if_pos rfl, if_pos rfl, if_pos rfl, if_pos rfl, if_pos rfl, if_pos rfl, if_pos rfl]
        exact ⟨q2, q3, q4, d1, d2⟩
      · have c2 : ¬ nI l' = nI l := fun e => c ((nI_eq (by omega) (by omega)).mp e)
        rw [if_neg c2, if_neg c2, if_neg c2, if_neg c2, if_neg c2, if_neg c, if_neg c]
        exact ⟨rfl, rfl, rfl, rfl, rfl⟩
    unfold fn_X9_isOtherwiseInThought
    rw [w1, Option.bind_some, gd_pos kb, pb0, Option.bind_some, gd_pos k7, pb6, Option.bind_some, w2, w3, Option.bind_some]
    split <;> rfl
set_option maxHeartbeats 4000000 in
theorem e_sprays {K N : Nat → Nat} {b : Nat} {I z : Nat → Nat → Int32} {P : Nat → Nat → Option Nat} {cnt kp al l n : Nat} {σ τ : Nat → Nat} (seed : Int32) (hR : Rel K N b I P) (hpic0 : PicR I P (b + 1) (I (b + 126 + 1)) cnt kp al σ τ) (hl : l < cnt) (hn : n < 2000) (hz : z (b + 126 + 1) = I (b + 126 + 1)) (S : SP) (hS : S = sprN (fun d => I (b + 126 + 1) (1556 + d)) (I (b + 126 + 1) 4) (fun x y d => covD K N I P (b + 126) x y d) (seed, (fun d => I (b + 126 + 1) (20 + 192 * l + d)), fun d => I (b + 126 + 1) (788 + 192 * l + d)) n) : ∃ s, fn_X10_sprays K N z P (b + 126) (nI l) seed (nI n) = some s ∧ s (b + 126 + 8) = z (b + 126 + 8) ∧ (∀ d, d < 192 → fn_X10_seen_ K N s P (b + 126) (nI d) = some (nwD (I (b + 126 + 1)) cnt l S.2.1 S.2.2 d)) ∧ ∃ s', fn_X10_comesBack K N s P (b + 126) (nI l) = some s' ∧ (∀ a, a ≠ b + 126 → a ≠ b + 126 + 4 → s' a = z a) ∧ ∀ j, j ≠ 3 → s' (b + 126) j = z (b + 126) j := by
  have hA : AllSh K N P b := hR.1
  obtain ⟨hroot, hp1, hp53, hmod⟩ := id hA
  obtain ⟨⟨hcnt, hkp, hal⟩, ⟨hσ, hτ, hlay, hact⟩, ⟨hc1, hg0⟩, ⟨hpap, hpap2⟩, hbr, hlays, hmask, ⟨ha1, ha2, ha3, ha4⟩, hacts⟩ := id hpic0
  have k3 : K (b + 1 + 4) = 3 := hp1.1.2.2.2.2.2.2.1
  have hmk := e_masked (I := z) hmod (fun d hd => by rw [hz]; exact (hmask.1 d hd).2)
  rw [hz] at hmk
  have hc192 := cnt1_le (fun d => I (b + 126 + 1) (1556 + d)) 192
  obtain ⟨B, c1, c2, c3, c4⟩ := e_mbegin (I := z) (l := l) hmod (by omega) (by omega) hmk
  rw [hz] at c4
  have bg : B (b + 126 + 1) = I (b + 126 + 1) := by rw [c2 _ (by omega) (by omega)]; exact hz
  obtain ⟨r, hr, er⟩ := hbr.2.2.1
  have C := fun x y (hx : x < 16) (hy : y < 12) => e_covs (P := P) (m := b + 126) k3 hmod hbr hx hy hr er
  obtain ⟨s, s1, s2⟩ := e_sprayM (B := B) (s := B) (P := P) (l := l) (n := n) (mk := fun d => I (b + 126 + 1) (1556 + d)) (cv := fun x y d => covD K N I P (b + 126) x y d) (s0 := (seed, (fun d => I (b + 126 + 1) (20 + 192 * l + d)), fun d => I (b + 126 + 1) (788 + 192 * l + d))) hmod (by omega) hn (by rw [c3, if_pos rfl]) (fun d hd => by rw [bg]; exact ⟨rfl, (hmask.1 d hd).2⟩) (fun x y hx hy w h2 h3 h5 d hd => (C x y hx hy d hd).2.2.1 w P rfl (by rw [h2, bg]) (by rw [h3, bg]) (by rw [h5, bg])) ⟨fun _ _ => rfl, fun _ _ _ => rfl, fun d hd => by rw [bg]; exact ⟨rfl, rfl⟩⟩
  rw [bg, ← hS] at s2
  refine ⟨s, ?_, by rw [s2.1 _ (by omega), c2 _ (by omega) (by omega)], fun d hd => ?_, B, e_comesBack hmod (by omega) c4 (fun d hd => by rw [bg]; exact ⟨rfl, rfl⟩) s2, fun a h1 h2 => c2 a h1 h2, fun j hj => by rw [c3, if_neg hj]⟩
  · unfold fn_X10_sprays
    rw [c1, Option.bind_some, gd_pos hmod.1.1, s1, Option.bind_some]
  · have sg : ∀ j, ¬ (20 + 192 * l ≤ j ∧ j < 20 + 192 * l + 192) → ¬ (788 + 192 * l ≤ j ∧ j < 788 + 192 * l + 192) → s (b + 126 + 1) j = I (b + 126 + 1) j := fun j h1 h2 => by rw [s2.2.1 j h1 h2, bg]
    unfold fn_X10_seen_
    rw [gd_pos hmod.1.1, hmod.2.2.1, Option.bind_some, gd_pos (show K (b + 126 + 1) = 12 ∧ vp_in 1 (N (b + 126 + 1)) from vp_g hmod (j := 1) (by decide)), e_mseen hmod hd hcnt (by rw [sg 0 (by omega) (by omega)]; exact hg0) _ (-1) 0, Option.bind_some, sg 1 (by omega) (by omega)]
    congr 1
    unfold nwD
    refine seeL_cong cnt (fun l' hl' => ?_)
    rw [if_neg (nI_m1 (by omega)), sg (8 + l') (by omega) (by omega), sg (12 + l') (by omega) (by omega), sg (16 + l') (by omega) (by omega)]
    refine ⟨rfl, rfl, rfl, ?_, ?_⟩
    · by_cases c : l' = l
      · subst c; rw [if_pos rfl]; exact (s2.2.2 d hd).1
      · rw [if_neg c]; exact sg _ (by omega) (by omega)
    · by_cases c : l' = l
      · subst c; rw [if_pos rfl]; exact (s2.2.2 d hd).2
      · rw [if_neg c]; exact sg _ (by omega) (by omega)
