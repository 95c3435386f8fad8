/-! tells, the method -/
def seeM (g : Nat → Int32) (cnt : Nat) (p x4 x5 : Int32) (d : Nat) : Int32 := seeL (fun l => if nI l = x4 then x5 else g (8 + l)) (fun l => g (12 + l)) (fun l => g (16 + l)) (fun l => g (20 + 192 * l + d)) (fun l => g (788 + 192 * l + d)) cnt p
theorem seeT_M {z : Nat → Nat → Int32} {q : Nat} {g : Nat → Int32} {cnt : Nat} {p x4 x5 : Int32} {d : Nat} (h : ∀ l, l < cnt → nI l = x4 → z q 2 = x5 ∧ z q 3 = g (12 + l) ∧ z q 4 = g (16 + l) ∧ z (q + 1) d = g (20 + 192 * l + d) ∧ z (q + 2) d = g (788 + 192 * l + d)) : seeT z q g cnt p x4 d = seeM g cnt p x4 x5 d := by
  unfold seeT seeM
  refine seeL_cong cnt (fun l hl => ?_)
  by_cases c : nI l = x4
  · obtain ⟨h1, h2, h3, h4, h5⟩ := h l hl c
    simp [c, h1, h2, h3, h4, h5]
  · simp [c]
def ppN (W : Int32 → Int32) : Nat → Int32
  | 0 => 0
  | n + 1 => if W (nI n) = -1 then ppN W n + 1 else ppN W n
def mdN (W : Int32 → Int32) : Nat → Int32
  | 0 => 0
  | n + 1 => if W (nI n) = -1 then mdN W n ||| ((1 : Int32) <<< (nI n &&& 31)) else mdN W n
set_option maxHeartbeats 8000000 in
theorem q_tells {K N : Nat → Nat} {b : Nat} : sp_tells (Rel K N b) b K N := by
  intro I P x1 x2 x3 hR
  have hR0 := hR
  obtain ⟨⟨hroot, hp1, hp53, hmod⟩, ⟨cnt, kp, al, σ, τ, hpic⟩, himg, ⟨fed, htape⟩, hsheets⟩ := hR
  have hpic : PicR I P (b + 1) (I (b + 126 + 1)) cnt kp al σ τ := hpic
  have hpic0 := hpic
  obtain ⟨⟨hcnt, hkp, hal⟩, ⟨hσ, hτ, hlay, hact⟩, ⟨hc1, hg0⟩, ⟨hpap, hpap2⟩, hbr, hlays, hmask, ⟨ha1, ha2, ha3, ha4⟩, hacts⟩ := hpic
  obtain ⟨⟨kb, pb0, pb1, pb3, pb4, pb5, pb6, pb7⟩, hrt, hrs, hrc, hrth, hrl⟩ := id hroot
  obtain ⟨⟨k7, k15, n4, k6, k13, n192, k3, k2, k14, n11⟩, ⟨pp0, pp3, pp4, pp5, pm0, pa0⟩, hacsh, hlash⟩ := id hp1
  have km := hmod.1.1
  have pm := hmod.2.2.1
  have c1 := e_isSheet x1
  have d1 := e_isSheet' x1
  have c2 := e_isRow x2
  have d2 : fn_X10_isIn x2 0 11 = _ := isIn_nI (x := x2) (n := 12) (by decide) (by decide)
  have c3 : fn_X9_isWithin x3 0 (nI cnt + 1) = some (bI (inR x3 (cnt + 2))) := by
    rw [nI_1, show cnt + 1 = cnt + 2 - 1 by omega]; exact isWithin_nI (by omega) (by omega)
  have d3 : fn_X10_isIn x3 0 (1 + nI cnt) = some (bI (inR x3 (cnt + 2))) := by
    rw [show (1 : Int32) = nI 1 from rfl, nI_add, show 1 + cnt = cnt + 2 - 1 by omega]; exact isIn_nI (by omega) (by omega)
  have v0 : K (b + 126 + 1) = 12 ∧ vp_in (0 : Int32) (N (b + 126 + 1)) := vp_g hmod (j := 0) (by decide)
  have v1' : K (b + 126 + 1) = 12 ∧ vp_in (1 : Int32) (N (b + 126 + 1)) := vp_g hmod (j := 1) (by decide)
  by_cases h1 : inR x1 4
  · rw [bI_t h1] at c1 d1
    by_cases h2 : inR x2 12
    · rw [bI_t h2] at c2 d2
      by_cases h3 : inR x3 (cnt + 2)
      · rw [bI_t h3] at c3 d3
        obtain ⟨i, hi, rfl⟩ := h1
        obtain ⟨y, hy, rfl⟩ := h2
        obtain ⟨w, hw, rfl⟩ := h3
        have hA : AllSh K N P b := hR0.1
        obtain ⟨k16, n4', hsh⟩ := hrs
        obtain ⟨pi, k8, k12, n40, p2⟩ := hsh i hi
        have g1 : K (b + 109) = 16 ∧ vp_in (nI i) (N (b + 109)) := ⟨k16, by rw [n4']; exact vp_in_nI hi (by decide)⟩
        have g2 : P (b + 109) (nI i).toNatClampNeg = some (b + 110 + 2 * i) := by rw [nI_clamp (by omega)]; exact pi
        obtain ⟨n, hn, s0, s01, sm, s1, m1, it⟩ := hsheets i hi
        have s0 : I (b + 126 + 9) i = I (b + 110 + 2 * i) 0 := s0.symm
        have m1 : I (b + 126 + 10) i = nI n := m1
        have p20 : P (b + 126) 20 = some (b + 126 + 9) := hmod.2.2.2.2.2.2.2.2.2.2.1
        have p21 : P (b + 126) 21 = some (b + 126 + 10) := hmod.2.2.2.2.2.2.2.2.2.2.2.1
        have k9 : K (b + 126 + 9) = 12 ∧ vp_in (nI i) (N (b + 126 + 9)) := ⟨hmod.1.2.2.2.2.2.2.2.2.2.1, by rw [hmod.2.1.2.2.2.2.2.2.2.2.1]; exact vp_in_nI hi (by decide)⟩
        have k10 : K (b + 126 + 10) = 12 ∧ vp_in (nI i) (N (b + 126 + 10)) := ⟨hmod.1.2.2.2.2.2.2.2.2.2.2.1, by rw [hmod.2.1.2.2.2.2.2.2.2.2.2.1]; exact vp_in_nI hi (by decide)⟩
        have cl : (nI i).toNatClampNeg = i := nI_clamp (by omega)
        by_cases hmis : I (b + 110 + 2 * i) 0 = -1
        · exact ⟨(-11, I), by simp [fn_X9_tells, c1, c2, gd_pos kb, pb0, gd_pos k7, hc1, c3, pb4, gd_pos g1, g2, fn_X7_isMissing, gd_pos k8, hmis], -11, by simp [fn_X10_tells, d1, d2, gd_pos km, pm, gd_pos v0, hg0, d3, p20, gd_pos k9, cl, s0, hmis], rfl, hR0⟩
        · by_cases hbig : n ≤ 16
          · have le16 : nI n ≤ (16 : Int32) := nI_le (b := 16) hbig (by decide)
            obtain ⟨W, hW⟩ : ∃ W : Int32 → Int32 → Int32 → Int32, W = fun p x4 x5 => fstD (fun x => I (b + 126 + 11) (40 * i + x)) (fun x => seeM (I (b + 126 + 1)) cnt p x4 x5 (16 * y + x)) 0 n := ⟨_, rfl⟩
            have items : ∀ j, j < n → I (b + 111 + 2 * i) j = I (b + 126 + 11) (40 * i + j) := it
            have hC : ∀ (z : Nat → Nat → Int32) (p x4 x5 : Int32), (∀ a, ¬ (b + 122 ≤ a ∧ a < b + 125) → z a = I a) → inR p 256 → (∀ l, l < cnt → nI l = x4 → z (b + 122) 2 = x5 ∧ z (b + 122) 3 = I (b + 126 + 1) (12 + l) ∧ z (b + 122) 4 = I (b + 126 + 1) (16 + l) ∧ ∀ d, d < 192 → z (b + 123) d = I (b + 126 + 1) (20 + 192 * l + d) ∧ z (b + 124) d = I (b + 126 + 1) (788 + 192 * l + d)) → fn_X9_firstOtherwise K N z P b (b + 110 + 2 * i) (nI y) p x4 = some (W p x4 x5) := by
              intro z p x4 x5 hz hp ht
              rw [e_firstC (n := n) (see := fun x => seeM (I (b + 126 + 1)) cnt p x4 x5 (16 * y + x)) kb pb0 k7 pb6 k8 p2 k12 n40 hbig (by rw [hz _ (by omega)]; exact s1) (fun x hx => ?_), hW]
              · congr 1
                refine fstD_cong n 0 (fun j hj => ⟨?_, rfl⟩)
                rw [hz _ (by omega)]; exact items j (by omega)
              · have hd : 16 * y + x < 192 := by omega
                rw [e_seeIfC (z := z) hA hpic0 (fun a h1 h2 => hz a (by omega)) x4 p hd hp (fun l hl hlx => ?_)]
                · exact congrArg some (seeT_M (fun l hl hlx => ⟨(ht l hl hlx).1, (ht l hl hlx).2.1, (ht l hl hlx).2.2.1, ((ht l hl hlx).2.2.2 _ hd).1, ((ht l hl hlx).2.2.2 _ hd).2⟩))
                · obtain ⟨t1, t2, t3, t4⟩ := ht l hl hlx
                  obtain ⟨im, ig, io, di⟩ := (hlays l hl).2
                  rw [t2, t3, (t4 _ hd).1, (t4 _ hd).2]
                  exact ⟨ig, io, (di _ hd).1, (di _ hd).2.1⟩
            have hM : ∀ (z : Nat → Nat → Int32) (p x4 x5 : Int32), (∀ a, ¬ (b + 122 ≤ a ∧ a < b + 125) → z a = I a) → fn_X10_otherwise K N z P (b + 126) (nI i) (nI y) p x4 x5 = some (W p x4 x5) := by
              intro z p x4 x5 hz
              have zg : z (b + 126 + 1) = I (b + 126 + 1) := hz _ (by omega)
              rw [e_firstM (n := n) (cnt := cnt) (see := fun x => seeM (I (b + 126 + 1)) cnt p x4 x5 (16 * y + x)) hmod hi hbig (by rw [hz _ (by omega)]; exact m1) (fun x hx => ?_), hW, hz (b + 126 + 11) (by omega)]
              rw [e_mseen hmod (show 16 * y + x < 192 by omega) hcnt (by rw [zg]; exact hg0) p x4 x5, zg]
              rfl
            have hpap' : I (b + 126 + 1) 1 = I (b + 1) 2 := hpap.symm
            have hpin : inR (I (b + 1) 2) 256 := by rw [hpap]; exact hpap2
            have nom1 : ∀ l, l < cnt → ¬ nI l = (-1 : Int32) := fun l hl => nI_m1 (by omega)
            have front : ∀ (v : Option (Int32 × (Nat → Nat → Int32))), (Option.bind (fn_X7_isMissing K N I P (b + 110 + 2 * i)) (fun r13 => gd (K (b + 110 + 2 * i) = 8) (if r13 = 0 then v else some (-11, I)))) = v := fun v => by
              simp [fn_X7_isMissing, gd_pos k8, hmis]
            by_cases w0 : w = 0
            · subst w0
              have z0 : (nI 0 : Int32) = 0 := rfl
              rw [z0] at c3 d3
              refine ⟨(W (I (b + 1) 2) (-1) 0, I), ?_, W (I (b + 1) 2) (-1) 0, ?_, rfl, hR0⟩
              · simp [fn_X9_tells, c1, c2, gd_pos kb, pb0, gd_pos k7, hc1, c3, pb4, gd_pos g1, g2, fn_X7_isMissing, gd_pos k8, hmis, s1, le16, z0, hC I _ (-1) 0 (fun _ _ => rfl) hpin (fun l hl h => absurd h (nom1 l hl))]
              · simp [fn_X10_tells, d1, d2, gd_pos km, pm, gd_pos v0, gd_pos v1', hg0, d3, p20, gd_pos k9, cl, s0, hmis, p21, gd_pos k10, m1, le16, z0, hpap', hM I _ (-1) 0 (fun _ _ => rfl)]
            by_cases w1 : w = 1
            · subst w1
              have z1 : (nI 1 : Int32) = 1 := rfl
              rw [z1] at c3 d3
              have l1 := loop_ok (F := fun f v z => fn_X9_papersTold_L5 K N b (b + 110 + 2 * i) (nI y) I P f z (nI v)) 256 (fun v z => z = ppN (fun p => W p (-1) 0) v) (fun z => z = ppN (fun p => W p (-1) 0) 256)
                (fun f z hz => by
                  simp only [fn_X9_papersTold_L5]
                  rw [if_pos (show (255 : Int32) < nI 256 from nI_lt (a := 255) (by omega) (by omega))]
                  exact ok_some.mpr hz)
                (fun f v z hv hz kk => by
                  simp only [fn_X9_papersTold_L5]
                  rw [if_neg (show ¬ (255 : Int32) < nI v from nI_nlt (b := v) (a := 255) (by omega) (by omega)), hC I _ (-1) 0 (fun _ _ => rfl) ⟨v, hv, rfl⟩ (fun l hl h => absurd h (nom1 l hl)), Option.bind_some, gd_pos kb, nI_1 v]
                  by_cases c : W (nI v) (-1) 0 = -1
                  · rw [if_pos c]; exact kk _ (by rw [ppN, if_pos c, hz])
                  · rw [if_neg c]; exact kk _ (by rw [ppN, if_neg c, hz]))
                FU 0 0 (Nat.zero_le _) (FU_lt (by omega)) rfl
              have l2 := loop_ok (F := fun f v z => fn_X10_tells_L88 K N (b + 126) (nI i) (nI y) 1 I P f z (nI v)) 256 (fun v z => z = ppN (fun p => W p (-1) 0) v) (fun z => z = ppN (fun p => W p (-1) 0) 256)
                (fun f z hz => by
                  simp only [fn_X10_tells_L88]
                  rw [if_pos trivial, if_pos (show (256 : Int32) ≤ nI 256 from nI_le (a := 256) (Nat.le_refl _) (by omega))]
                  exact ok_some.mpr hz)
                (fun f v z hv hz kk => by
                  simp only [fn_X10_tells_L88]
                  rw [if_pos trivial, if_neg (show ¬ (256 : Int32) ≤ nI v from nI_ge (b := 256) hv (by omega)), hM I _ (-1) 0 (fun _ _ => rfl), Option.bind_some, Option.bind_some, Option.bind_some, nI_1 v]
                  by_cases c : W (nI v) (-1) 0 = -1
                  · rw [if_pos c]; exact kk _ (by rw [ppN, if_pos c, hz])
                  · rw [if_neg c]; exact kk _ (by rw [ppN, if_neg c, hz]; exact Int32.add_zero _))
                FU 0 0 (Nat.zero_le _) (FU_lt (by omega)) rfl
              obtain ⟨r, a1, a2⟩ := l1
              obtain ⟨r', b1, b2⟩ := l2
              have a1 : fn_X9_papersTold_L5 K N b (b + 110 + 2 * i) (nI y) I P FU 0 0 = some r := a1
              have b1 : fn_X10_tells_L88 K N (b + 126) (nI i) (nI y) 1 I P FU 0 0 = some r := by rw [a2, ← b2]; exact b1
              have b3 : fn_X10_tells_L134 K N (b + 126) (nI i) (nI y) 1 I P (b + 126 + 1) FU r 0 = some r := by
                show fn_X10_tells_L134 K N (b + 126) (nI i) (nI y) 1 I P (b + 126 + 1) (5999 + 1) r 0 = some r
                generalize 5999 = f
                simp only [fn_X10_tells_L134]
                rw [if_pos (by decide)]
              have n10 : ¬ (1 : Int32) = 0 := by decide
              refine ⟨(r, I), ?_, r, ?_, rfl, hR0⟩
              · simp [fn_X9_tells, c1, c2, gd_pos kb, pb0, gd_pos k7, hc1, c3, pb4, gd_pos g1, g2, fn_X7_isMissing, gd_pos k8, hmis, s1, le16, z1, fn_X9_papersTold, a1]
              · simp [fn_X10_tells, d1, d2, gd_pos km, pm, gd_pos v0, hg0, d3, p20, gd_pos k9, cl, s0, hmis, p21, gd_pos k10, m1, le16, z1, b1, b3]
            · obtain ⟨l, hl⟩ : ∃ l, w = l + 2 := ⟨w - 2, by omega⟩
              subst hl
              have hlc : l < cnt := by omega
              have hsl := hσ.1 l (by omega)
              have hth : LaySh K N P (b + 122) := hrth
              obtain ⟨T, t1, t2, t3⟩ := e_layBecome (I := I) hth (hlash (σ l) hsl) (Or.inr (by omega))
              obtain ⟨e1, e2⟩ := e_layAt hp1 (show l < 4 by omega) hlay
              obtain ⟨⟨r2, r3, r4, rd⟩, -⟩ := hlays l hlc
              have sub2 : nI (l + 2) - (2 : Int32) = nI l := by rw [show (2 : Int32) = nI 2 from rfl, pk_sub (by omega)]; congr 1
              have ne0 : ¬ nI (l + 2) = (0 : Int32) := fun e => by have := (nI_eq (b := 0) (by omega) (by decide)).mp e; omega
              have ne1 : ¬ nI (l + 2) = (1 : Int32) := fun e => by have := (nI_eq (b := 1) (by omega) (by decide)).mp e; omega
              have nle1 : ¬ nI (l + 2) ≤ (1 : Int32) := nI_ge (a := 1) (by omega) (by omega)
              have l1 := loop_ok (F := fun f v (z : Int32 × (Nat → Nat → Int32)) => fn_X9_modesTold_L22 K N b (b + 110 + 2 * i) (nI y) (nI l) P (b + 122) (b + 1) f z.1 (nI v) z.2) 6 (fun v z => z.1 = mdN (fun md => W (I (b + 1) 2) (nI l) md) v ∧ (∀ a, a ≠ b + 122 → z.2 a = T a) ∧ ∀ j, j ≠ 2 → z.2 (b + 122) j = T (b + 122) j) (fun z => z.1 = mdN (fun md => W (I (b + 1) 2) (nI l) md) 6 ∧ ∀ a, a ≠ b + 122 → z.2 a = T a)
                (fun f z hz => by
                  simp only [fn_X9_modesTold_L22]
                  rw [if_pos (show (6 : Int32) ≤ nI 6 from nI_le (a := 6) (Nat.le_refl _) (by omega))]
                  exact ok_some.mpr ⟨hz.1, hz.2.1⟩)
                (fun f v z hv hz kk => by
                  simp only [fn_X9_modesTold_L22]
                  obtain ⟨z1, z2, z3⟩ := hz
                  obtain ⟨U, hU⟩ : ∃ U, U = up2 z.2 (b + 122) 2 (nI v) := ⟨_, rfl⟩
                  rw [if_neg (show ¬ (6 : Int32) ≤ nI v from nI_ge (b := 6) hv (by omega)), Option.bind_some, ← hU]
                  have u1 : ∀ a, a ≠ b + 122 → U a = T a := fun a h => by rw [hU, up2_o h]; exact z2 a h
                  have u2 : ∀ j, U (b + 122) j = if j = 2 then nI v else T (b + 122) j := fun j => by
                    by_cases c : j = 2
                    · rw [if_pos c, c, hU, up2_s]
                    · rw [if_neg c, hU, up2_k c]; exact z3 j c
                  have uI : ∀ a, ¬ (b + 122 ≤ a ∧ a < b + 125) → U a = I a := fun a h => by rw [u1 a (by omega), t2 a (by omega)]
                  have q1 : U (b + 1) 2 = I (b + 1) 2 := by rw [uI _ (by omega)]
                  rw [q1, hC U (I (b + 1) 2) (nI l) (nI v) uI hpin (fun l' hl' e => ?_), Option.bind_some, nI_1 v]
                  · by_cases c : W (I (b + 1) 2) (nI l) (nI v) = -1
                    · rw [if_pos c, Option.bind_some]
                      exact kk (_, U) ⟨by show _ = mdN _ (v + 1); rw [mdN, if_pos c, z1], u1, fun j hj => by show U (b + 122) j = _; rw [u2, if_neg hj]⟩
                    · rw [if_neg c]
                      exact kk (_, U) ⟨by show _ = mdN _ (v + 1); rw [mdN, if_neg c]; exact z1, u1, fun j hj => by show U (b + 122) j = _; rw [u2, if_neg hj]⟩
                  · have : l' = l := (nI_eq (by omega) (by omega)).mp e
                    subst this
                    refine ⟨by rw [u2, if_pos rfl], by rw [u2, if_neg (by decide), t3.2.1]; exact r3, by rw [u2, if_neg (by decide), t3.2.2.1]; exact r4, fun d hd => ⟨?_, ?_⟩⟩
                    · rw [u1 _ (by omega)]; exact ((t3.2.2.2 d hd).1).trans (rd d hd).1
                    · rw [u1 _ (by omega)]; exact ((t3.2.2.2 d hd).2).trans (rd d hd).2)
                FU 0 (0, T) (Nat.zero_le _) (FU_lt (by omega)) ⟨rfl, fun _ _ => rfl, fun _ _ => rfl⟩
              obtain ⟨⟨r, I1⟩, a1, a2, a3⟩ := l1
              have a1 : fn_X9_modesTold_L22 K N b (b + 110 + 2 * i) (nI y) (nI l) P (b + 122) (b + 1) FU 0 0 T = some (r, I1) := a1
              have o1 : ∀ a, ¬ (b + 122 ≤ a ∧ a < b + 125) → I1 a = I a := fun a h => by rw [show I1 a = T a from a3 a (by omega), t2 a (by omega)]
              have l2 := loop_ok (F := fun f v z => fn_X10_tells_L134 K N (b + 126) (nI i) (nI y) (nI (l + 2)) I1 P (b + 126 + 1) f z (nI v)) 6 (fun v z => z = mdN (fun md => W (I (b + 1) 2) (nI l) md) v) (fun z => z = mdN (fun md => W (I (b + 1) 2) (nI l) md) 6)
                (fun f z hz => by
                  simp only [fn_X10_tells_L134]
                  rw [if_neg nle1, if_pos (show (6 : Int32) ≤ nI 6 from nI_le (a := 6) (Nat.le_refl _) (by omega))]
                  exact ok_some.mpr hz)
                (fun f v z hv hz kk => by
                  simp only [fn_X10_tells_L134]
                  have q1 : I1 (b + 126 + 1) 1 = I (b + 1) 2 := by rw [o1 _ (by omega)]; exact hpap'
                  rw [if_neg nle1, if_neg (show ¬ (6 : Int32) ≤ nI v from nI_ge (b := 6) hv (by omega)), gd_pos v1', q1, sub2, hM I1 _ (nI l) (nI v) o1, Option.bind_some, Option.bind_some, Option.bind_some, nI_1 v]
                  by_cases c : W (I (b + 1) 2) (nI l) (nI v) = -1
                  · rw [if_pos c]; exact kk _ (by rw [mdN, if_pos c, hz])
                  · rw [if_neg c]; exact kk _ (by rw [mdN, if_neg c, hz]; exact Int32.or_zero))
                FU 0 0 (Nat.zero_le _) (FU_lt (by omega)) rfl
              obtain ⟨r', b1, b2⟩ := l2
              have a2 : r = mdN (fun md => W (I (b + 1) 2) (nI l) md) 6 := a2
              have b1 : fn_X10_tells_L134 K N (b + 126) (nI i) (nI y) (nI (l + 2)) I1 P (b + 126 + 1) FU 0 0 = some r := by rw [a2, ← b2]; exact b1
              have b3 : fn_X10_tells_L88 K N (b + 126) (nI i) (nI y) (nI (l + 2)) I1 P FU 0 0 = some 0 := by
                show fn_X10_tells_L88 K N (b + 126) (nI i) (nI y) (nI (l + 2)) I1 P (5999 + 1) 0 0 = some 0
                generalize 5999 = f
                simp only [fn_X10_tells_L88]
                rw [if_neg ne1]
              have og : I1 (b + 126 + 1) = I (b + 126 + 1) := o1 _ (by omega)
              have o9 : I1 (b + 126 + 9) = I (b + 126 + 9) := o1 _ (by omega)
              have o10 : I1 (b + 126 + 10) = I (b + 126 + 10) := o1 _ (by omega)
              refine ⟨(r, I1), ?_, r, ?_, rfl, hR0.scratch (fun a h1 h2 => o1 a (by omega))⟩
              · simp [fn_X9_tells, c1, c2, gd_pos kb, pb0, gd_pos k7, hc1, c3, pb4, gd_pos g1, g2, fn_X7_isMissing, gd_pos k8, hmis, s1, le16, ne0, ne1, fn_X9_modesTold, pb6, pp0, sub2, gd_pos e1, e2, t1, gd_pos hth.1, a1]
              · simp [fn_X10_tells, d1, d2, gd_pos km, pm, gd_pos v0, og, o9, o10, hg0, d3, p20, gd_pos k9, cl, s0, hmis, p21, gd_pos k10, m1, le16, ne0, b3, b1]
          · have nle : ¬ nI n ≤ (16 : Int32) := nI_ge (a := 16) (by omega) (by omega)
            exact ⟨(-2, I), by simp [fn_X9_tells, c1, c2, gd_pos kb, pb0, gd_pos k7, hc1, c3, pb4, gd_pos g1, g2, fn_X7_isMissing, gd_pos k8, hmis, s1, nle], -2, by simp [fn_X10_tells, d1, d2, gd_pos km, pm, gd_pos v0, hg0, d3, p20, gd_pos k9, cl, s0, hmis, p21, gd_pos k10, m1, nle], rfl, hR0⟩
      · rw [bI_f h3] at c3 d3
        exact ⟨(-2, I), by simp [fn_X9_tells, c1, c2, gd_pos kb, pb0, gd_pos k7, hc1, c3], -2, by simp [fn_X10_tells, d1, d2, gd_pos km, pm, gd_pos v0, hg0, d3], rfl, hR0⟩
    · rw [bI_f h2] at c2 d2
      exact ⟨(-2, I), by simp [fn_X9_tells, c1, c2], -2, by simp [fn_X10_tells, d1, d2], rfl, hR0⟩
  · rw [bI_f h1] at c1 d1
    exact ⟨(-2, I), by simp [fn_X9_tells, c1], -2, by simp [fn_X10_tells, d1], rfl, hR0⟩
