/-! stroke -/
theorem GrX.dry {L : Int32} {B s : Nat → Nat → Int32} {m : Nat} {S : DT} (h : GrX L B s m S) (hL : L < 0) : ∀ a, a ≠ m → s a = B a := by
  rcases h with ⟨h1, h2⟩ | ⟨l, h1, h2, h3, h4, h5⟩
  · exact h2
  · rw [h2] at hL; exact absurd hL (nI_pos (by omega))
theorem Rel.untape {K N : Nat → Nat} {b : Nat} {I I' : Nat → Nat → Int32} {P : Nat → Nat → Option Nat} (hR : Rel K N b I P) (ho : ∀ a, a ≠ b + 105 → a ≠ b + 107 → a ≠ b + 108 → a ≠ b + 126 → I' a = I a) (h1 : I' (b + 105) 1 = 0) (h5 : I' (b + 126) 5 = 0) (h2 : I' (b + 126) 2 = I (b + 126) 2) : Rel K N b I' P := by
  obtain ⟨hall, ⟨cnt, kp, al, σ, τ, hp⟩, ⟨h3, h4⟩, -, h6⟩ := hR
  refine ⟨hall, ⟨cnt, kp, al, σ, τ, ?_⟩, ⟨by rw [ho b (by omega) (by omega) (by omega) (by omega), h2]; exact h3, ?_⟩, ⟨0, Nat.zero_le _, h1, h5, fun j hj => absurd hj (by omega)⟩, fun i hi => (h6 i hi).keep (ho _ (by omega) (by omega) (by omega) (by omega)) (ho _ (by omega) (by omega) (by omega) (by omega)) (ho _ (by omega) (by omega) (by omega) (by omega)) (ho _ (by omega) (by omega) (by omega) (by omega)) (ho _ (by omega) (by omega) (by omega) (by omega))⟩
  · rw [ho (b + 127) (by omega) (by omega) (by omega) (by omega)]
    exact hp.keep (fun a g1 g2 => ho a (by omega) (by omega) (by omega) (by omega)) (fun _ _ _ => rfl)
  · rcases h4 with ⟨z, r⟩ | ⟨z, cnt', kp', al', σ', τ', hp'⟩
    · exact Or.inl ⟨by rw [h2]; exact z, r⟩
    · refine Or.inr ⟨by rw [h2]; exact z, cnt', kp', al', σ', τ', ?_⟩
      rw [ho (b + 128) (by omega) (by omega) (by omega) (by omega)]
      exact hp'.keep (fun a g1 g2 => ho a (by omega) (by omega) (by omega) (by omega)) (fun _ _ _ => rfl)
theorem stM_of {K N : Nat → Nat} {b : Nat} {I z : Nat → Nat → Int32} {P P' : Nat → Nat → Option Nat} (hmod : ModSh K N P (b + 126)) (k3 : K (b + 1 + 4) = 3) (hbr : BrR I (b + 1) (I (b + 126 + 1))) (hm : ∀ d, d < 192 → I (b + 126 + 1) (1556 + d) = 0 ∨ I (b + 126 + 1) (1556 + d) = 1) (hP : P' (b + 126) = P (b + 126)) (hz : z (b + 126 + 1) = I (b + 126 + 1)) : StM K N P' z (b + 126) (fun d => I (b + 126 + 1) (1556 + d)) (fun x y d => covD K N I P (b + 126) x y d) := by
  obtain ⟨r, hr, er⟩ := hbr.2.2.1
  have C := fun x y (hx : x < 16) (hy : y < 12) => e_covs (P := P) (m := b + 126) k3 hmod hbr hx hy hr er
  exact ⟨hmod.keep hP, fun d hd => by rw [hz]; exact ⟨rfl, hm d hd⟩, fun x y hx hy w h2 h3 h5 d hd => (C x y hx hy d hd).2.2.1 w P' hP (by rw [h2, hz]) (by rw [h3, hz]) (by rw [h5, hz])⟩
theorem stC_of {K N : Nat → Nat} {b q r : Nat} {I A : Nat → Nat → Int32} {P : Nat → Nat → Option Nat} (hp1 : PicSh K N P (b + 1)) (hL : LaySh K N P q) (hq : b + 1 + 5 < q) (hq2 : q + 2 < b + 126) (hmod : ModSh K N P (b + 126)) (k3 : K (b + 1 + 4) = 3) (hbr : BrR I (b + 1) (I (b + 126 + 1))) (hmask : MaskR I (b + 1) (I (b + 126 + 1))) (hr : r < 5) (er : I (b + 126 + 1) 3 = nI r) (h2 : A (b + 1 + 2) = I (b + 1 + 2)) (h3 : A (b + 1 + 3) = I (b + 1 + 3)) (h4 : A (b + 1 + 4) = I (b + 1 + 4)) (hg : A (b + 126 + 1) = I (b + 126 + 1)) : StC K N P A (b + 1) q r (fun d => I (b + 126 + 1) (1556 + d)) (fun x y d => covD K N I P (b + 126) x y d) := by
  have C := fun x y (hx : x < 16) (hy : y < 12) => e_covs (P := P) (m := b + 126) k3 hmod hbr hx hy hr er
  obtain ⟨⟨b0, b1, b2, b3⟩, i2, i3, i4, i5⟩ := hbr
  exact ⟨hp1, hL, hq, hr, ⟨by rw [h4]; exact b1.trans er, by rw [h4, b2]; exact i4⟩, ⟨by rw [h2]; exact hmask.2, fun d hd => by rw [h3]; exact (hmask.1 d hd).1⟩, fun x y hx hy w hw d hd => (C x y hx hy d hd).2.1 w (by rw [hw _ (by omega) (by omega), h4]) (by rw [hw _ (by omega) (by omega), hg]), fun x y hx hy d hd => (C x y hx hy d hd).1, fun x y hx hy d hd => (C x y hx hy d hd).2.2.2⟩
set_option maxHeartbeats 4000000 in
theorem q_stroke {K N : Nat → Nat} {b : Nat} : sp_stroke (Rel K N b) b K N := by
  intro I P x1 hR
  have hR0 := hR
  obtain ⟨⟨hroot, hp1, hp53, hmod⟩, ⟨cnt, kp, al, σ, τ, hpic⟩, himg, ⟨fed, htape⟩, hsheets⟩ := hR
  have hpic : PicR I P (b + 1) (I (b + 126 + 1)) cnt kp al σ τ := hpic
  have hpic0 := hpic
  obtain ⟨⟨hcnt, hkp, hal⟩, ⟨hσ, hτ, hlay, hact⟩, ⟨hc1, hg0⟩, ⟨hpap, hpap2⟩, hbr, hlays, hmask, ⟨ha1, ha2, ha3, ha4⟩, hacts⟩ := hpic
  obtain ⟨⟨kb, pb0, pb1, pb3, pb4, pb5, pb6, pb7⟩, hrt, hrs, hrc, hrth, hrl⟩ := id hroot
  obtain ⟨⟨k7, k15, n4, k6, k13, n192, k3, k2, k14, n11⟩, ⟨pp0, pp3, pp4, pp5, pm0, pa0⟩, hacsh, hlash⟩ := id hp1
  have km := hmod.1.1
  have pm := hmod.2.2.1
  have e1 := e_hasLayer (N := N) (P := P) k7 (show cnt < 2 ^ 31 by omega) hc1 x1
  have e2 := e_isLayer hmod hcnt hg0 x1
  by_cases hx : inR x1 cnt
  · rw [bI_t hx] at e1 e2
    obtain ⟨l, hl, rfl⟩ := hx
    obtain ⟨tk, tk6, tn6, tk7, tn7, tk8, tn8, tp0, tp2, tp3⟩ := id hrt
    have hT : TapS2 K N P (b + 105) (b + 106) (b + 107) (b + 108) := ⟨⟨tk, tp0, tk6, tn6, by omega⟩, ⟨tp2, tp3⟩, ⟨tk7, tn7, tk8, tn8⟩, by omega, by omega, by omega, by omega, by omega⟩
    obtain ⟨hfed, hs1, hs5, hby⟩ := htape
    obtain ⟨f, hf⟩ : ∃ f, f = I (b + 106) := ⟨_, rfl⟩
    obtain ⟨g, hg⟩ : ∃ g, g = I (b + 126 + 3) := ⟨_, rfl⟩
    have hag : Ag fed f g := fun j hj => by rw [hf, hg]; exact (hby j hj).1
    have hmk : ∀ d, d < 192 → I (b + 126 + 1) (1556 + d) = 0 ∨ I (b + 126 + 1) (1556 + d) = 1 := fun d hd => (hmask.1 d hd).2
    have v0 : vp_in (0 : Int32) 60 := vp_in_nI (n := 0) (by decide) (by decide)
    have m1 : ((-1 : Int32)) < 0 := by decide
    have fault : ∀ (pos : Nat) (s : Nat → Nat → Int32), pos < 2 ^ 20 → fn_X8_read K N I P (b + 105) = some s → RdF (b + 105) (b + 107) (b + 108) fed I s → s (b + 105) 5 = nI pos → (∀ z : Nat → Nat → Int32, (∀ a, b + 108 < a → z a = I a) → ∃ y, fn_X10_goesOver K N z P (b + 126) (-1) = some (nI pos, y) ∧ (∀ a, a ≠ b + 126 → y a = z a) ∧ ∀ j, j < 6 → y (b + 126) j = z (b + 126) j) → ∃ u, fn_X9_stroke K N I P b (nI l) = some u ∧ ∃ u2, fn_X10_stroke K N u.2.1 u.2.2 (b + 126) (nI l) = some u2 ∧ u.1 = u2.1 ∧ Rel K N b u2.2 u.2.2 := by
      intro pos s hp h1 h2 h3 h4
      obtain ⟨z, hz⟩ : ∃ z, z = up2 s (b + 105) 1 0 := ⟨_, rfl⟩
      have zI : ∀ a, b + 108 < a → z a = I a := fun a ha => by rw [hz, up2_o (by omega), h2.1 a (by omega) (by omega) (by omega)]
      obtain ⟨y, y1, y2, y3⟩ := h4 z zI
      have e2' : fn_X10_isLayer K N z P (b + 126) (nI l) = some 1 := by
        rw [e_isLayer hmod hcnt (by rw [zI _ (by omega)]; exact hg0) (nI l), bI_t ⟨l, hl, rfl⟩]
      have s5 : z (b + 105) 5 = nI pos := by rw [hz, up2_k (by decide)]; exact h3
      refine ⟨(-100 - nI pos, z, P), ?_, (-100 - nI pos, up2 y (b + 126) 5 0), ?_, rfl, ?_⟩
      · unfold fn_X9_stroke
        rw [gd_pos kb, pb0, Option.bind_some, e1, Option.bind_some, gd_pos k7, if_neg i10, pb3, Option.bind_some, h1, Option.bind_some, gd_pos tk, Option.bind_some, ← hz, s5, if_neg (nI_m1 (by omega))]
      · show fn_X10_stroke K N z P (b + 126) (nI l) = _
        unfold fn_X10_stroke
        rw [e2', Option.bind_some, gd_pos km, if_neg i10, y1, Option.bind_some]
        dsimp only
        rw [if_neg (nI_pos (by omega)), Option.bind_some]
      · show Rel K N b (up2 y (b + 126) 5 0) P
        refine hR0.untape (fun a g1 g2 g3 g4 => ?_) ?_ up2_s ?_
        · rw [up2_o g4, y2 a g4, hz, up2_o g1, h2.1 a g1 g2 g3]
        · rw [up2_o (by omega), y2 _ (by omega), hz, up2_s]
        · rw [up2_k (by decide), y3 2 (by decide), zI _ (by omega)]
    obtain ⟨hfs, hfs1, hfs2⟩ := fsP_ok f fed
    rcases hfs with c1 | c2
    · obtain ⟨n, hn, hc, he⟩ := end_ex hfed c1
      obtain ⟨cg1, cg2⟩ := stN_cong hag c1 n hc
      have fg : (fsP g fed).1 = 1 := by rw [← fsP_cong hag]; exact c1
      have hcg : ∀ i, i < n → cdN g fed i = 1 := fun i hi => by rw [← (cg2 i (by omega)).1]; exact hc i hi
      have hng : cdN f fed n = cdN g fed n := (cg2 n (Nat.le_refl _)).1
      have heg : cdN g fed n = 0 ∨ cdN g fed n = 2 := by rw [← hng]; exact he
      obtain ⟨s, s1, s2, s3, s4⟩ := e_readT hT hfed hs1 (by rw [← hf]; exact c1) hn (by rw [← hf]; exact hc) (by rw [← hf]; exact he)
      rw [← hf] at s3 s4
      rcases he with h0 | h2
      · obtain ⟨i5, i4, ixy⟩ := s3 h0
        have hzg : cdN g fed n = 0 := by rw [← hng]; exact h0
        obtain ⟨I9, hI9⟩ : ∃ z, z = up2 s (b + 105) 1 0 := ⟨_, rfl⟩
        obtain ⟨Ir, hIr⟩ : ∃ z, z = up2 I9 (b + 126) 5 0 := ⟨_, rfl⟩
        have o9 : ∀ a, a ≠ b + 105 → a ≠ b + 107 → a ≠ b + 108 → I9 a = I a := fun a h1 h2 h3 => by rw [hI9, up2_o h1, s2.1 a h1 h2 h3]
        have orr : ∀ a, a ≠ b + 126 → Ir a = I9 a := fun a h => by rw [hIr, up2_o h]
        have hRr : Rel K N b Ir P := hR0.untape (fun a h1 h2 h3 h4 => by rw [orr a h4, o9 a h1 h2 h3]) (by rw [orr _ (by omega), hI9, up2_s]) (by rw [hIr, up2_s]) (by rw [hIr, up2_k (by decide), o9 _ (by omega) (by omega) (by omega)])
        have rg : Ir (b + 126 + 1) = I (b + 126 + 1) := by rw [orr _ (by omega), o9 _ (by omega) (by omega) (by omega)]
        have hpr : PicR Ir P (b + 1) (Ir (b + 126 + 1)) cnt kp al σ τ := by
          rw [rg]
          exact hpic0.keep (fun a h1 h2 => by rw [orr a (by omega), o9 a (by omega) (by omega) (by omega)]) (fun _ _ _ => rfl)
        have hsl := hσ.1 l (by omega)
        obtain ⟨q, hq⟩ : ∃ q, q = b + 1 + 40 + 3 * σ l := ⟨_, rfl⟩
        obtain ⟨A, a1, a2, a3, a4⟩ := e_actW (I0 := I9) hRr hpr hl (fun a h h' => (orr a h').symm)
        rw [rg] at a3
        rw [← hq] at a1 a3 a4
        obtain ⟨S0, hS0⟩ : ∃ S0 : DT, S0 = ((fun d => I (b + 126 + 1) (20 + 192 * l + d)), fun d => I (b + 126 + 1) (788 + 192 * l + d)) := ⟨_, rfl⟩
        have a3' : LyD A A q S0.1 S0.2 := by rw [hS0]; exact a3
        have dS0 : DI S0 := by rw [hS0]; exact fun d hd => (hlays l hl).2.2.2.2 d hd
        have oA : ∀ a, ¬ (b + 8 ≤ a ∧ a < b + 41) → a ≠ b + 105 → a ≠ b + 107 → a ≠ b + 108 → A a = I a := fun a h h1 h2 h3 => by rw [a2 a h, o9 a h1 h2 h3]
        obtain ⟨r, hr, er⟩ := hbr.2.2.1
        have hLq : LaySh K N P q := by rw [hq]; exact hlash _ hsl
        have sc := stC_of (A := A) hp1 hLq (by omega) (by omega) hmod k3 hbr hmask hr er (oA _ (by omega) (by omega) (by omega) (by omega)) (oA _ (by omega) (by omega) (by omega) (by omega)) (oA _ (by omega) (by omega) (by omega) (by omega)) (oA _ (by omega) (by omega) (by omega) (by omega))
        have hbi : A (b + 1 + 4) 2 = I (b + 126 + 1) 4 := by rw [oA _ (by omega) (by omega) (by omega) (by omega)]; exact hbr.1.2.2.1
        have At : A (b + 105) 4 = nI (n + 1) := by rw [a2 _ (by omega), hI9, up2_k (by decide)]; exact i4
        have XY := xy_ok fg hcg
        have hxy : ∀ j, j ≤ n → (A (b + 107) j = nI (xsN g fed j) ∧ A (b + 108) j = nI (ysN g fed j)) ∧ xsN g fed j < 16 ∧ ysN g fed j < 12 := by
          intro j hj
          refine ⟨⟨?_, ?_⟩, XY j hj⟩
          · rw [a2 _ (by omega), hI9, up2_o (by omega), (ixy j hj).1]; unfold xsN; rw [cg1 j hj]
          · rw [a2 _ (by omega), hI9, up2_o (by omega), (ixy j hj).2]; unfold ysN; rw [cg1 j hj]
        obtain ⟨t1, w1, w2⟩ := e_stC1 sc (hxy 0 (Nat.zero_le _)).2.1 (hxy 0 (Nat.zero_le _)).2.2 dS0 a3'
        obtain ⟨J, j1, j2⟩ := e_polC (s := t1) (xs := xsN g fed) (ys := ysN g fed) sc ⟨tk7, tn7, tk8, tn8⟩ ⟨by omega, by omega, by omega, by omega, by omega, by omega⟩ hn At hxy dS0 w2
        rw [hbi] at j2
        have pin := pol_in (mk := fun d => I (b + 126 + 1) (1556 + d)) (xs := xsN g fed) (ys := ysN g fed) hbr.2.2.2.1 sc.2.2.2.2.2.2.2.1 dS0 n (fun j hj => (hxy j hj).2)
        obtain ⟨J', P', f1, f2, f3, f4⟩ := a4 J _ j2 pin
        have ds : fn_X6_drawStroke K N I9 P (b + 1) (nI l) (b + 105) = some (nI (stm (xsN g fed) (ysN g fed) n), J', P') := by
          obtain ⟨g1, g2⟩ := e_layAt hp1 (show l < 4 by omega) hlay
          rw [← hq] at g2
          unfold fn_X6_drawStroke
          rw [gd_pos k7, pp5, Option.bind_some, pp0, Option.bind_some, gd_pos g1, g2, Option.bind_some, a1, Option.bind_some, gd_pos k2, gd_pos tk, tp2, Option.bind_some, gd_pos ⟨tk7, by rw [tn7]; exact v0⟩, tp3, Option.bind_some, gd_pos ⟨tk8, by rw [tn8]; exact v0⟩, (hxy 0 (Nat.zero_le _)).1.1, (hxy 0 (Nat.zero_le _)).1.2, w1, Option.bind_some, j1, Option.bind_some]
          dsimp only
          rw [f1, Option.bind_some]
        have cls : fn_X9_stroke K N I P b (nI l) = some (nI (stm (xsN g fed) (ysN g fed) n), J', P') := by
          have s5 : I9 (b + 105) 5 = -1 := by rw [hI9, up2_k (by decide)]; exact i5
          unfold fn_X9_stroke
          rw [gd_pos kb, pb0, Option.bind_some, e1, Option.bind_some, gd_pos k7, if_neg i10, pb3, Option.bind_some, s1, Option.bind_some, gd_pos tk, Option.bind_some, ← hI9, if_pos s5, ds, Option.bind_some]
        have hmod' : ModSh K N P' (b + 126) := hmod.keep (f2 _ (by omega))
        have fJ : ∀ a, b + 126 ≤ a → J' a = I a := fun a h => by rw [f3 a h, o9 a (by omega) (by omega) (by omega)]
        have J5 : J' (b + 126) 5 = nI fed := by rw [fJ _ (by omega)]; exact hs5
        have tJ : J' (b + 126 + 3) = g := by rw [fJ _ (by omega), ← hg]
        obtain ⟨v, y, y1, y2, -⟩ := e_overT (I := J') (P := P') (L := -1) (S := S0) (n := n) (stM_of hmod k3 hbr hmk (f2 _ (by omega)) (fJ _ (by omega))) (fun q => absurd m1 q) hfed J5 (Or.inl ⟨m1, fun _ _ => rfl⟩) (by rw [tJ]; exact fg) hn (by rw [tJ]; exact hcg) (by rw [tJ]; exact heg)
        obtain ⟨hv, ov⟩ := y2 (by rw [tJ]; exact hzg)
        have yJ : ∀ a, a ≠ b + 126 → y a = J' a := ov.1.dry m1
        have y6 : ∀ j, j < 6 → y (b + 126) j = J' (b + 126) j := ov.2.1
        obtain ⟨B, b1, b2, b3, b4, b5⟩ := f4 y (fun a _ h => yJ a h)
        rw [rg] at b3 b4
        have B5 : B (b + 126) 5 = nI fed := by rw [b3, if_neg (by decide), y6 5 (by decide)]; exact J5
        have tB : B (b + 126 + 3) = g := by rw [b2 _ (by omega) (by omega), yJ _ (by omega)]; exact tJ
        obtain ⟨v', y', z1, z2, -⟩ := e_overT (I := B) (P := P') (L := nI l) (S := S0) (n := n) (stM_of hmod k3 hbr hmk (f2 _ (by omega)) b4) (fun _ => by rw [b3, if_pos rfl]) hfed B5 (Or.inr ⟨l, by omega, rfl, fun _ _ _ => rfl, fun _ _ _ => rfl, fun d hd => by rw [b4, hS0]; exact ⟨rfl, rfl⟩⟩) (by rw [tB]; exact fg) hn (by rw [tB]; exact hcg) (by rw [tB]; exact heg)
        obtain ⟨-, gx, y6', nw⟩ := z2 (by rw [tB]; exact hzg)
        have gx' := gx.put (s' := up2 y' (b + 126) 5 0) (fun a ha => up2_o ha)
        rcases gx' with ⟨q1, -⟩ | ⟨l', l1, l2, gw⟩
        · exact absurd q1 (nI_pos (by omega))
        have ll' : l = l' := (nI_eq (by omega) (by omega)).mp l2
        subst ll'
        rw [tB, b4] at gw
        rw [tB] at nw
        obtain ⟨I2, u1, u2, u3⟩ := b5 _ gw (by rw [up2_k (by decide), y6' 2 (by decide), b3, if_neg (by decide), y6 2 (by decide), f3 _ (by omega), hIr, up2_k (by decide)]) (by rw [up2_s, hIr, up2_s])
        have e2' : fn_X10_isLayer K N J' P' (b + 126) (nI l) = some 1 := by
          rw [e_isLayer hmod' hcnt (by rw [fJ _ (by omega)]; exact hg0) (nI l), bI_t ⟨l, hl, rfl⟩]
        refine ⟨(nI (stm (xsN g fed) (ysN g fed) n), J', P'), cls, (nI (stm (xsN g fed) (ysN g fed) n), I2), ?_, rfl, u3⟩
        show fn_X10_stroke K N J' P' (b + 126) (nI l) = _
        unfold fn_X10_stroke
        rw [e2', Option.bind_some, gd_pos km, if_neg i10, y1, Option.bind_some]
        dsimp only
        rw [hv, if_pos m1, b1, Option.bind_some, z1, Option.bind_some]
        dsimp only
        rw [Option.bind_some, u1, Option.bind_some, u2, up2_k (by decide), nw.2.2.2.2]
      · obtain ⟨i1, i2, i3, i4⟩ := stN_ok c1 n hc
        obtain ⟨q1, q2, q3, q4⟩ := hfs1 c1
        have hb : (stN f fed (n + 1)).1 ≤ 2 * fed := (nxP_ok (f := f) i2 i3 i4 q3 q4).2.2
        refine fault _ s (by omega) s1 s2 (s4 h2) (fun z hz => ?_)
        have tz : z (b + 126 + 3) = g := by rw [hz _ (by omega), ← hg]
        obtain ⟨v, y, y1, -, y3⟩ := e_overT (I := z) (P := P) (L := -1) (S := ((fun _ => 0), fun _ => 0)) (n := n) (stM_of hmod k3 hbr hmk rfl (hz _ (by omega))) (fun q => absurd m1 q) hfed (by rw [hz _ (by omega)]; exact hs5) (Or.inl ⟨m1, fun _ _ => rfl⟩) (by rw [tz]; exact fg) hn (by rw [tz]; exact hcg) (by rw [tz]; exact heg)
        obtain ⟨w1, ⟨S', w2⟩, w3⟩ := y3 (by rw [tz, ← hng]; exact h2)
        rw [tz] at w1
        exact ⟨y, by rw [y1, w1, (cg2 n (Nat.le_refl _)).2], w2.dry m1, w3⟩
    · obtain ⟨s, s1, s2, s3⟩ := e_readF hT hfed hs1 (by rw [← hf]; exact c2)
      rw [← hf] at s3
      refine fault _ s (by omega) s1 s2 s3 (fun z hz => ?_)
      have tz : z (b + 126 + 3) = g := by rw [hz _ (by omega), ← hg]
      obtain ⟨y, y1, y2, y3⟩ := e_overF (I := z) (P := P) (L := -1) (S := ((fun _ => 0), fun _ => 0)) (stM_of hmod k3 hbr hmk rfl (hz _ (by omega))) (fun q => absurd m1 q) hfed (by rw [hz _ (by omega)]; exact hs5) (Or.inl ⟨m1, fun _ _ => rfl⟩) (by rw [tz, ← fsP_cong hag]; exact c2)
      rw [tz, ← fsP_cong hag] at y1
      exact ⟨y, y1, y2.dry m1, y3⟩
  · rw [bI_f hx] at e1 e2
    refine ⟨(-2, I, P), ?_, (-2, I), ?_, rfl, hR0⟩
    · unfold fn_X9_stroke
      rw [gd_pos kb, pb0, Option.bind_some, e1, Option.bind_some, gd_pos k7, if_pos rfl]
    · show fn_X10_stroke K N I P (b + 126) x1 = _
      unfold fn_X10_stroke
      rw [e2, Option.bind_some, gd_pos km, if_pos rfl]
