/-! drop, move -/
theorem PicR.turned {I I' : Nat → Nat → Int32} {P P' : Nat → Nat → Option Nat} {c : Nat} {g g' : Nat → Int32} {cnt kp al cnt' x y : Nat} {σ τ : Nat → Nat} (h : PicR I P c g cnt kp al σ τ) (hx : x < cnt) (hy : y < cnt) (hc : cnt' ≤ cnt) (c1 : I' c 1 = nI cnt') (c2 : I' c 2 = I c 2) (a1 : I' (c + 5) 1 = 0) (a2 : I' (c + 5) 2 = 0) (ho : ∀ a, c < a → a < c + 52 → a ≠ c + 5 → I' a = I a) (p6 : P' (c + 6) = P (c + 6)) (p1 : ∀ l, l < 4 → P' (c + 1) l = some (c + 40 + 3 * σ (rot x y l))) (g0 : g' 0 = nI cnt') (g6 : g' 6 = 0) (g7 : g' 7 = 0) (hg : ∀ j, (1 ≤ j ∧ j < 6 ∨ 1556 ≤ j) → g' j = g j) (hl : ∀ l, l < 4 → laySame g' g l (rot x y l)) : PicR I' P' c g' cnt' 0 0 (fun l => σ (rot x y l)) τ := by
  obtain ⟨⟨h1, h2, h3⟩, ⟨hσ, hτ, hlay, hact⟩, ⟨hc1, hg0⟩, ⟨hpap, hpap2⟩, hbr, hlays, hmask, -, -⟩ := h
  have hr := rot_perm x y (by omega) (by omega)
  refine ⟨⟨by omega, by omega, by omega⟩, ⟨⟨fun i hi => hσ.1 _ (hr.1 i hi), fun i j hi hj e => hr.2 i j hi hj (hσ.2 _ _ (hr.1 i hi) (hr.1 j hj) e)⟩, hτ, p1, fun i hi => by rw [p6]; exact hact i hi⟩, ⟨c1, g0⟩, ⟨by rw [c2, hg 1 (by omega)]; exact hpap, by rw [hg 1 (by omega)]; exact hpap2⟩, hbr.keep (ho _ (by omega) (by omega) (by omega)) (fun j _ _ => hg j (by omega)), ?_, hmask.keep (ho _ (by omega) (by omega) (by omega)) (ho _ (by omega) (by omega) (by omega)) (fun j _ _ => hg j (by omega)), ⟨a1, g6, a2, g7⟩, fun k hk => absurd hk (by omega)⟩
  intro i hi
  have hlt := rot_lt hx hy (show i < cnt by omega)
  obtain ⟨r, hr'⟩ : ∃ r, r = rot x y i := ⟨_, rfl⟩
  have hs := hl i (by omega)
  rw [← hr'] at hlt hs
  show LayR I' (c + 40 + 3 * σ (rot x y i)) g' i ∧ LayI g' i
  rw [← hr']
  obtain ⟨⟨y2, y3, y4, yd⟩, ⟨zm, zg, zo, zd⟩⟩ := hlays r hlt
  obtain ⟨s1, s2, s3, s4⟩ := hs
  have hsr := hσ.1 r (by omega)
  have r0 : I' (c + 40 + 3 * σ r) = I (c + 40 + 3 * σ r) := ho _ (by omega) (by omega) (by omega)
  have r1 : I' (c + 40 + 3 * σ r + 1) = I (c + 40 + 3 * σ r + 1) := ho _ (by omega) (by omega) (by omega)
  have r2 : I' (c + 40 + 3 * σ r + 2) = I (c + 40 + 3 * σ r + 2) := ho _ (by omega) (by omega) (by omega)
  refine ⟨⟨?_, ?_, ?_, fun d hd => ?_⟩, ⟨?_, ?_, ?_, fun d hd => ?_⟩⟩
  · rw [r0, s1]; exact y2
  · rw [r0, s2]; exact y3
  · rw [r0, s3]; exact y4
  · rw [r1, r2, (s4 d hd).1, (s4 d hd).2]; exact yd d hd
  · rw [s1]; exact zm
  · rw [s2]; exact zg
  · rw [s3]; exact zo
  · rw [(s4 d hd).1, (s4 d hd).2]; exact zd d hd
set_option maxHeartbeats 4000000 in
theorem q_move {K N : Nat → Nat} {b : Nat} : sp_move (Rel K N b) b K N := by
  intro I P x1 x2 hR
  have hR0 := hR
  obtain ⟨⟨hroot, hp1, hp53, hmod⟩, ⟨cnt, kp, al, σ, τ, hpic⟩, himg, ⟨fed, htape⟩, hsheets⟩ := hR
  have hpic : PicR I P (b + 1) (I (b + 126 + 1)) cnt kp al σ τ := hpic
  have hpic0 := hpic
  obtain ⟨⟨hcnt, hkp, hal⟩, ⟨hσ, hτ, hlay, hact⟩, ⟨hc1, hg0⟩, ⟨hpap, hpap2⟩, hbr, hlays, hmask, ⟨ha1, ha2, ha3, ha4⟩, hacts⟩ := hpic
  obtain ⟨⟨kb, pb0, pb1, pb3, pb4, pb5, pb6, pb7⟩, hrt, hrs, hrc, hrth, hrl⟩ := id hroot
  obtain ⟨⟨k7, k15, n4, k6, k13, n192, k3, k2, k14, n11⟩, ⟨pp0, pp3, pp4, pp5, pm0, pa0⟩, hacsh, hlash⟩ := id hp1
  have km := hmod.1.1
  have pm := hmod.2.2.1
  have e1 := e_hasLayer (N := N) (P := P) k7 (show cnt < 2 ^ 31 by omega) hc1 x1
  have e2 := e_isLayer hmod hcnt hg0 x1
  have f1 := e_hasLayer (N := N) (P := P) k7 (show cnt < 2 ^ 31 by omega) hc1 x2
  have f2 := e_isLayer hmod hcnt hg0 x2
  by_cases hx : inR x1 cnt
  · rw [bI_t hx] at e1 e2
    by_cases hy : inR x2 cnt
    · rw [bI_t hy] at f1 f2
      obtain ⟨x, hx, rfl⟩ := hx
      obtain ⟨y, hy, rfl⟩ := hy
      obtain ⟨P1, w1, w2, w3⟩ := e_shift (I := I) hp1 hσ hlay (show x < 4 by omega) (show y < 4 by omega)
      obtain ⟨I1, hI1⟩ : ∃ I1, I1 = up2 (up2 I (b + 1 + 5) 1 0) (b + 1 + 5) 2 0 := ⟨_, rfl⟩
      rw [← hI1] at w1
      have hA1 : AllSh K N P1 b := hR0.1.keep (fun a h1 _ _ _ => w2 a h1)
      obtain ⟨I2, v1, v2, ⟨v6, v7⟩, v3, v4⟩ := e_goesTo (I := I1) (P := P1) hA1.2.2.2 (show x < 4 by omega) (show y < 4 by omega)
      have o1 : ∀ a, a ≠ b + 1 + 5 → I1 a = I a := fun a h => by rw [hI1, up2_o h, up2_o h]
      have t1 : ∀ j, I1 (b + 1 + 5) j = if j = 2 then 0 else if j = 1 then 0 else I (b + 1 + 5) j := fun j => by rw [hI1]; simp [up2]
      have ho : ∀ a, a ≠ b + 1 + 5 → a ≠ b + 126 + 1 → I2 a = I a := fun a h h' => (v2 a h').trans (o1 a h)
      have e2 : fn_X10_isLayer K N I1 P1 (b + 126) (nI x) = some 1 := by
        rw [e_isLayer hA1.2.2.2 hcnt (by rw [o1 _ (by omega)]; exact hg0) (nI x), bI_t ⟨x, hx, rfl⟩]
      have f2 : fn_X10_isLayer K N I1 P1 (b + 126) (nI y) = some 1 := by
        rw [e_isLayer hA1.2.2.2 hcnt (by rw [o1 _ (by omega)]; exact hg0) (nI y), bI_t ⟨y, hy, rfl⟩]
      refine ⟨(nI y, I1, P1), ?_, (nI y, I2), ?_, rfl, ?_⟩
      · simp [fn_X9_move, gd_pos kb, pb0, e1, gd_pos k7, f1, w1]
      · simp [fn_X10_move, e2, gd_pos km, f2, v1]
      · show Rel K N b I2 P1
        have og : I1 (b + 126 + 1) = I (b + 126 + 1) := o1 _ (by omega)
        rw [og] at v3 v4
        refine hR0.pic (rest_all (fun a h h' => ho a (by omega) h')) (fun a h _ => w2 a h) ⟨cnt, 0, 0, fun l => σ (rot x y l), τ, ?_⟩
        exact hpic0.turned (I' := I2) (g' := I2 (b + 126 + 1)) hx hy (Nat.le_refl _) (by rw [ho _ (by omega) (by omega)]; exact hc1) (by rw [ho _ (by omega) (by omega)]) (by rw [v2 _ (by omega), t1]; rfl) (by rw [v2 _ (by omega), t1]; rfl) (fun a _ _ h => ho a h (by omega)) (w2 _ (by omega)) w3 (by rw [v3 0 (by omega)]; exact hg0) v6 v7 (fun j hj => v3 j (by omega)) v4
    · rw [bI_f hy] at f1 f2
      exact ⟨(-2, I, P), by simp [fn_X9_move, gd_pos kb, pb0, e1, gd_pos k7, f1], (-2, I), by simp [fn_X10_move, e2, gd_pos km, f2], rfl, hR0⟩
  · rw [bI_f hx] at e1 e2
    exact ⟨(-2, I, P), by simp [fn_X9_move, gd_pos kb, pb0, e1, gd_pos k7], (-2, I), by simp [fn_X10_move, e2, gd_pos km], rfl, hR0⟩
set_option maxHeartbeats 4000000 in
theorem q_drop {K N : Nat → Nat} {b : Nat} : sp_drop (Rel K N b) b K N := by
  intro I P x1 hR
  have hR0 := hR
  obtain ⟨⟨hroot, hp1, hp53, hmod⟩, ⟨cnt, kp, al, σ, τ, hpic⟩, himg, ⟨fed, htape⟩, hsheets⟩ := hR
  have hpic : PicR I P (b + 1) (I (b + 126 + 1)) cnt kp al σ τ := hpic
  have hpic0 := hpic
  obtain ⟨⟨hcnt, hkp, hal⟩, ⟨hσ, hτ, hlay, hact⟩, ⟨hc1, hg0⟩, ⟨hpap, hpap2⟩, hbr, hlays, hmask, ⟨ha1, ha2, ha3, ha4⟩, hacts⟩ := hpic
  obtain ⟨⟨kb, pb0, pb1, pb3, pb4, pb5, pb6, pb7⟩, hrt, hrs, hrc, hrth, hrl⟩ := id hroot
  obtain ⟨⟨k7, k15, n4, k6, k13, n192, k3, k2, k14, n11⟩, ⟨pp0, pp3, pp4, pp5, pm0, pa0⟩, hacsh, hlash⟩ := id hp1
  have km := hmod.1.1
  have pm := hmod.2.2.1
  have e1 := e_hasLayer (N := N) (P := P) k7 (show cnt < 2 ^ 31 by omega) hc1 x1
  have e2 := e_isLayer hmod hcnt hg0 x1
  by_cases hx : inR x1 cnt
  · rw [bI_t hx] at e1 e2
    obtain ⟨x, hx, rfl⟩ := hx
    obtain ⟨P1, w1, w2, w3⟩ := e_shift (I := I) hp1 hσ hlay (show x < 4 by omega) (show cnt - 1 < 4 by omega)
    obtain ⟨J, hJ⟩ : ∃ J, J = up2 (up2 I (b + 1 + 5) 1 0) (b + 1 + 5) 2 0 := ⟨_, rfl⟩
    rw [← hJ] at w1
    obtain ⟨I1, hI1⟩ : ∃ I1, I1 = up2 J (b + 1) 1 (nI (cnt - 1)) := ⟨_, rfl⟩
    have hA1 : AllSh K N P1 b := hR0.1.keep (fun a h1 _ _ _ => w2 a h1)
    obtain ⟨M, v1, v2, ⟨v6, v7⟩, v3, v4⟩ := e_goesTo (I := I1) (P := P1) hA1.2.2.2 (show x < 4 by omega) (show cnt - 1 < 4 by omega)
    obtain ⟨I2, hI2⟩ : ∃ I2, I2 = up2 M (b + 126 + 1) 0 (nI (cnt - 1)) := ⟨_, rfl⟩
    have oJ : ∀ a, a ≠ b + 1 + 5 → J a = I a := fun a h => by rw [hJ, up2_o h, up2_o h]
    have tJ : ∀ j, J (b + 1 + 5) j = if j = 2 then 0 else if j = 1 then 0 else I (b + 1 + 5) j := fun j => by rw [hJ]; simp [up2]
    have o1 : ∀ a, a ≠ b + 1 + 5 → a ≠ b + 1 → I1 a = I a := fun a h h' => by rw [hI1, up2_o h', oJ a h]
    have t1 : ∀ j, I1 (b + 1) j = if j = 1 then nI (cnt - 1) else I (b + 1) j := fun j => by rw [hI1, ← oJ (b + 1) (by omega)]; simp [up2]
    have o2 : ∀ a, a ≠ b + 126 + 1 → I2 a = I1 a := fun a h => by rw [hI2, up2_o h, v2 a h]
    have t2 : ∀ j, I2 (b + 126 + 1) j = if j = 0 then nI (cnt - 1) else M (b + 126 + 1) j := fun j => by rw [hI2]; simp [up2]
    have ho : ∀ a, a ≠ b + 1 + 5 → a ≠ b + 1 → a ≠ b + 126 + 1 → I2 a = I a := fun a h h1 h' => (o2 a h').trans (o1 a h h1)
    have og : I1 (b + 126 + 1) = I (b + 126 + 1) := o1 _ (by omega) (by omega)
    have dn : nI cnt - (1 : Int32) = nI (cnt - 1) := by rw [show (1 : Int32) = nI 1 from rfl, pk_sub (by omega)]
    have jc : J (b + 1) 1 = nI cnt := by rw [oJ _ (by omega)]; exact hc1
    have i1c : I1 (b + 1) 1 = nI (cnt - 1) := by rw [t1, if_pos rfl]
    have pb0' : P1 b 0 = some (b + 1) := by rw [w2 b (by omega)]; exact pb0
    have e2 : fn_X10_isLayer K N I1 P1 (b + 126) (nI x) = some 1 := by
      rw [e_isLayer hA1.2.2.2 hcnt (by rw [og]; exact hg0) (nI x), bI_t ⟨x, hx, rfl⟩]
    have pm' : P1 (b + 126) 0 = some (b + 126 + 1) := hA1.2.2.2.2.2.1
    have gv : K (b + 126 + 1) = 12 ∧ vp_in 0 (N (b + 126 + 1)) := vp_g hmod (j := 0) (by decide)
    have ig : I1 (b + 126 + 1) 0 = nI cnt := by rw [og]; exact hg0
    have mg : M (b + 126 + 1) 0 = nI cnt := by rw [v3 0 (by omega)]; exact ig
    have i2g : I2 (b + 126 + 1) 0 = nI (cnt - 1) := by rw [t2, if_pos rfl]
    refine ⟨(nI (cnt - 1), I1, P1), ?_, (nI (cnt - 1), I2), ?_, rfl, ?_⟩
    · simp [fn_X9_drop, gd_pos kb, pb0, e1, gd_pos k7, fn_X6_removeLayer, hc1, dn, w1, jc, ← hI1, pb0', i1c]
    · simp [fn_X10_drop, e2, gd_pos km, pm', gd_pos gv, ig, dn, v1, mg, ← hI2, i2g]
    · show Rel K N b I2 P1
      rw [og] at v3 v4
      refine hR0.pic (rest_all (fun a h h' => ho a (by omega) (by omega) h')) (fun a h _ => w2 a h) ⟨cnt - 1, 0, 0, fun l => σ (rot x (cnt - 1) l), τ, ?_⟩
      refine hpic0.turned (I' := I2) (g' := I2 (b + 126 + 1)) hx (show cnt - 1 < cnt by omega) (Nat.sub_le _ _) (by rw [o2 _ (by omega)]; exact i1c) (by rw [o2 _ (by omega), t1, if_neg (by decide)]) (by rw [o2 _ (by omega), hI1, up2_o (by omega), tJ]; rfl) (by rw [o2 _ (by omega), hI1, up2_o (by omega), tJ]; rfl) (fun a h1 _ h => ho a h (by omega) (by omega)) (w2 _ (by omega)) w3 i2g (by rw [t2, if_neg (by decide)]; exact v6) (by rw [t2, if_neg (by decide)]; exact v7) (fun j hj => by rw [t2, if_neg (by omega)]; exact v3 j (by omega)) (fun l hl => ?_)
      obtain ⟨s1, s2, s3, s4⟩ := v4 l hl
      refine ⟨by rw [t2, if_neg (by omega)]; exact s1, by rw [t2, if_neg (by omega)]; exact s2, by rw [t2, if_neg (by omega)]; exact s3, fun d hd => ⟨by rw [t2, if_neg (by omega)]; exact (s4 d hd).1, by rw [t2, if_neg (by omega)]; exact (s4 d hd).2⟩⟩
  · rw [bI_f hx] at e1 e2
    exact ⟨(-2, I, P), by simp [fn_X9_drop, gd_pos kb, pb0, e1, gd_pos k7], (-2, I), by simp [fn_X10_drop, e2, gd_pos km], rfl, hR0⟩
