/-! undo -/
theorem sw2_in {bits : Int32} {d : Nat} {i o i' o' : Int32} (h : DotI i o) (h' : DotI i' o') : DotI (sw2 bits 192 d i i') (sw2 bits 192 d o o') := by
  unfold sw2
  by_cases c : d < 192 ∧ ¬ bits &&& tbit d = 0
  · rw [if_pos c, if_pos c]; exact h'
  · rw [if_neg c, if_neg c]; exact h
set_option maxHeartbeats 4000000 in
theorem e_undoBoth {K N : Nat → Nat} {b : Nat} {I J : Nat → Nat → Int32} {P : Nat → Nat → Option Nat} {cnt kp al k kp' : Nat} {σ τ : Nat → Nat} (hR : Rel K N b I P) (hpic0 : PicR I P (b + 1) (I (b + 126 + 1)) cnt kp al σ τ) (hk : k < al) (hkp' : kp' ≤ al) (oJ : ∀ a, a ≠ b + 1 + 5 → J a = I a) (j1 : J (b + 1 + 5) 1 = nI kp') (j2 : J (b + 1 + 5) 2 = nI (al - kp')) : ∃ l r I1, I (b + 126 + 1) (1748 + 386 * k) = nI l ∧ l < cnt ∧ fn_X1_swapped K N J P (b + 1 + 7 + 3 * τ k) (b + 1 + 1) = some (r, I1) ∧ (∀ a, b + 126 ≤ a → I1 a = I a) ∧ ∃ M, fn_X10_undo_L75 K N (b + 126) P (b + 126 + 1) (nI (1748 + 386 * k)) (nI l) FU 0 I1 = some M ∧ fn_X10_bits (M (b + 126 + 1) (1749 + 386 * k)) = some r ∧ M (b + 126 + 1) 6 = nI kp ∧ Rel K N b (up2 M (b + 126 + 1) 6 (nI kp')) P := by
  obtain ⟨⟨hroot, hp1, hp53, hmod⟩, -, -, -, -⟩ := id hR
  obtain ⟨⟨hcnt, hkp, hal⟩, ⟨hσ, hτ, hlay, hact⟩, ⟨hc1, hg0⟩, ⟨hpap, hpap2⟩, hbr, hlays, hmask, ⟨ha1, ha2, ha3, ha4⟩, hacts⟩ := id hpic0
  obtain ⟨⟨y0, y1, yd⟩, ⟨z0, z1, zd⟩⟩ := hacts k hk
  obtain ⟨l, hl, hl2⟩ := z0
  have htk := hτ.1 k (by omega)
  have hsl := hσ.1 l (by omega)
  obtain ⟨⟨x2, x3, x4, xd⟩, ⟨wm, wg, wo, wd⟩⟩ := hlays l hl
  have hA := hp1.2.2.1 (τ k) htk
  have hLq := hp1.2.2.2 (σ l) hsl
  obtain ⟨a, ha⟩ : ∃ a, a = b + 1 + 7 + 3 * τ k := ⟨_, rfl⟩
  obtain ⟨q, hq⟩ : ∃ q, q = b + 1 + 40 + 3 * σ l := ⟨_, rfl⟩
  rw [← ha] at y0 y1 yd hA ⊢
  rw [← hq] at x2 x3 x4 xd hLq
  obtain ⟨I1, s0, s1, s2⟩ := e_swapTiles (I := J) hA hLq (Or.inl (by omega))
  have Ja : J a = I a := oJ _ (by omega)
  have Ja1 : J (a + 1) = I (a + 1) := oJ _ (by omega)
  have Ja2 : J (a + 2) = I (a + 2) := oJ _ (by omega)
  have Jq1 : J (q + 1) = I (q + 1) := oJ _ (by omega)
  have Jq2 : J (q + 2) = I (q + 2) := oJ _ (by omega)
  rw [Ja, Ja1, Ja2, Jq1, Jq2] at s2
  have hbits : I a 1 = I (b + 126 + 1) (1749 + 386 * k) := y1
  rw [hbits] at s2
  obtain ⟨r, b1, b2⟩ := e_bits' z1
  have oI1 : ∀ x, x ≠ a + 1 → x ≠ a + 2 → x ≠ q + 1 → x ≠ q + 2 → x ≠ b + 1 + 5 → I1 x = I x := fun x h1 h2 h3 h4 h5 => by rw [s1 x h1 h2 h3 h4, oJ x h5]
  have g1 : I1 (b + 126 + 1) = I (b + 126 + 1) := oI1 _ (by omega) (by omega) (by omega) (by omega) (by omega)
  obtain ⟨M, m1, m2, m3, m4⟩ := e_mswap (I := I1) (P := P) (l := l) (k := k) hmod (by omega) (by omega) (by rw [g1]; exact z1)
  rw [g1] at m3 m4
  refine ⟨l, r, I1, hl2, hl, ?_, fun x hx => oI1 x (by omega) (by omega) (by omega) (by omega) (by omega), M, m1, by rw [m3 _ (by omega) (by omega) (by omega)]; exact b2, by rw [m3 6 (by omega) (by omega) (by omega)]; exact ha2, ?_⟩
  · obtain ⟨e1, e2⟩ := e_layAt hp1 (show l < 4 by omega) hlay
    have I1a : I1 a 1 = I (b + 126 + 1) (1749 + 386 * k) := by rw [oI1 _ (by omega) (by omega) (by omega) (by omega) (by omega)]; exact hbits
    have y0' : I a 0 = nI l := y0.trans hl2
    rw [← hq] at e2
    unfold fn_X1_swapped
    rw [gd_pos hA.1, Ja, y0', gd_pos e1, e2, Option.bind_some, s0, Option.bind_some, I1a, b1, Option.bind_some]
  · obtain ⟨I2, hI2⟩ : ∃ I2, I2 = up2 M (b + 126 + 1) 6 (nI kp') := ⟨_, rfl⟩
    rw [← hI2]
    have o2 : ∀ x, x ≠ b + 126 + 1 → I2 x = I1 x := fun x h => by rw [hI2, up2_o h, m2 x h]
    have t2 : ∀ j, I2 (b + 126 + 1) j = if j = 6 then nI kp' else M (b + 126 + 1) j := fun j => by rw [hI2]; simp [up2]
    have ho : ∀ x, x ≠ a + 1 → x ≠ a + 2 → x ≠ q + 1 → x ≠ q + 2 → x ≠ b + 1 + 5 → x ≠ b + 126 + 1 → I2 x = I x := fun x h1 h2 h3 h4 h5 h6 => by rw [o2 x h6, oI1 x h1 h2 h3 h4 h5]
    have hg : ∀ j, j ≠ 6 → ¬ (20 + 192 * l ≤ j ∧ j < 20 + 192 * l + 192) → ¬ (788 + 192 * l ≤ j ∧ j < 788 + 192 * l + 192) → ¬ (1750 + 386 * k ≤ j ∧ j < 1750 + 386 * k + 384) → I2 (b + 126 + 1) j = I (b + 126 + 1) j := fun j h0 h1 h2 h3 => by rw [t2, if_neg h0]; exact m3 j h1 h2 h3
    have e5 : ∀ j, j = 1 ∨ j = 2 → I2 (b + 1 + 5) j = J (b + 1 + 5) j := fun j _ => by rw [o2 _ (by omega), s1 _ (by omega) (by omega) (by omega) (by omega)]
    have hc0 : I2 (b + 1) = I (b + 1) := ho _ (by omega) (by omega) (by omega) (by omega) (by omega) (by omega)
    have g0' := hg 0 (by omega) (by omega) (by omega) (by omega)
    have g1' := hg 1 (by omega) (by omega) (by omega) (by omega)
    have rows : ∀ d, d < 192 → (I2 (q + 1) d = I2 (b + 126 + 1) (20 + 192 * l + d) ∧ I2 (q + 2) d = I2 (b + 126 + 1) (788 + 192 * l + d)) ∧ (I2 (a + 1) d = I2 (b + 126 + 1) (1750 + 386 * k + d) ∧ I2 (a + 2) d = I2 (b + 126 + 1) (1942 + 386 * k + d)) ∧ DotI (I2 (b + 126 + 1) (20 + 192 * l + d)) (I2 (b + 126 + 1) (788 + 192 * l + d)) ∧ DotI (I2 (b + 126 + 1) (1750 + 386 * k + d)) (I2 (b + 126 + 1) (1942 + 386 * k + d)) := by
      intro d hd
      obtain ⟨c1, c2, c3, c4⟩ := s2 d
      obtain ⟨n1, n2, n3, n4⟩ := m4 d hd
      have E1 := (xd d hd).1
      have E2 := (xd d hd).2
      have E3 := (yd d hd).1
      have E4 := (yd d hd).2
      have E3 : I (a + 1) d = I (b + 126 + 1) (1750 + 386 * k + d) := E3
      have E4 : I (a + 2) d = I (b + 126 + 1) (1942 + 386 * k + d) := E4
      have E1 : I (q + 1) d = I (b + 126 + 1) (20 + 192 * l + d) := E1
      have E2 : I (q + 2) d = I (b + 126 + 1) (788 + 192 * l + d) := E2
      rw [E1, E3] at c1 c3
      rw [E2, E4] at c2 c4
      have u1 : I2 (b + 126 + 1) (20 + 192 * l + d) = _ := (t2 _).trans ((if_neg (by omega)).trans n1)
      have u2 : I2 (b + 126 + 1) (788 + 192 * l + d) = _ := (t2 _).trans ((if_neg (by omega)).trans n2)
      have u3 : I2 (b + 126 + 1) (1750 + 386 * k + d) = _ := (t2 _).trans ((if_neg (by omega)).trans n3)
      have u4 : I2 (b + 126 + 1) (1942 + 386 * k + d) = _ := (t2 _).trans ((if_neg (by omega)).trans n4)
      refine ⟨⟨?_, ?_⟩, ⟨?_, ?_⟩, ?_, ?_⟩
      · rw [o2 _ (by omega), c3, u1]
      · rw [o2 _ (by omega), c4, u2]
      · rw [o2 _ (by omega), c1, u3]
      · rw [o2 _ (by omega), c2, u4]
      · rw [u1, u2]; exact sw2_in (wd d hd) (zd d hd)
      · rw [u3, u4]; exact sw2_in (zd d hd) (wd d hd)
    refine hR.pic (rest_all (fun x h h' => ho x (by omega) (by omega) (by omega) (by omega) (by omega) h')) (fun _ _ _ => rfl) ⟨cnt, kp', al, σ, τ, ⟨hcnt, hkp', hal⟩, ⟨hσ, hτ, hlay, hact⟩, ⟨by rw [hc0]; exact hc1, g0'.trans hg0⟩, ⟨by rw [hc0]; exact hpap.trans g1'.symm, by rw [show I2 (b + 127) 1 = _ from g1']; exact hpap2⟩, hbr.keep (ho _ (by omega) (by omega) (by omega) (by omega) (by omega) (by omega)) (fun j _ _ => hg j (by omega) (by omega) (by omega) (by omega)), ?_, hmask.keep (ho _ (by omega) (by omega) (by omega) (by omega) (by omega) (by omega)) (ho _ (by omega) (by omega) (by omega) (by omega) (by omega) (by omega)) (fun j _ _ => hg j (by omega) (by omega) (by omega) (by omega)), ⟨(e5 1 (Or.inl rfl)).trans j1, (t2 6).trans (if_pos rfl), (e5 2 (Or.inr rfl)).trans j2, (hg 7 (by omega) (by omega) (by omega) (by omega)).trans ha4⟩, ?_⟩
    · intro i hi
      show LayR I2 (b + 1 + 40 + 3 * σ i) (I2 (b + 126 + 1)) i ∧ LayI (I2 (b + 126 + 1)) i
      obtain ⟨⟨f2, f3, f4, fd⟩, ⟨gm, gg, go, gD⟩⟩ := hlays i hi
      have hsi := hσ.1 i (by omega)
      have u8 := hg (8 + i) (by omega) (by omega) (by omega) (by omega)
      have u12 := hg (12 + i) (by omega) (by omega) (by omega) (by omega)
      have u16 := hg (16 + i) (by omega) (by omega) (by omega) (by omega)
      have r0 : I2 (b + 1 + 40 + 3 * σ i) = I (b + 1 + 40 + 3 * σ i) := ho _ (by omega) (by omega) (by omega) (by omega) (by omega) (by omega)
      by_cases hil : i = l
      · subst hil
        refine ⟨⟨?_, ?_, ?_, fun d hd => ?_⟩, ⟨?_, ?_, ?_, fun d hd => ?_⟩⟩
        · rw [r0, u8]; exact f2
        · rw [r0, u12]; exact f3
        · rw [r0, u16]; exact f4
        · rw [← hq]; exact (rows d hd).1
        · rw [u8]; exact gm
        · rw [u12]; exact gg
        · rw [u16]; exact go
        · exact (rows d hd).2.2.1
      · have hne : σ i ≠ σ l := fun e => hil (hσ.2 i l (by omega) (by omega) e)
        have u20 : ∀ d, d < 192 → I2 (b + 126 + 1) (20 + 192 * i + d) = I (b + 126 + 1) (20 + 192 * i + d) := fun d hd => hg _ (by omega) (by omega) (by omega) (by omega)
        have u788 : ∀ d, d < 192 → I2 (b + 126 + 1) (788 + 192 * i + d) = I (b + 126 + 1) (788 + 192 * i + d) := fun d hd => hg _ (by omega) (by omega) (by omega) (by omega)
        have r1 : I2 (b + 1 + 40 + 3 * σ i + 1) = I (b + 1 + 40 + 3 * σ i + 1) := ho _ (by omega) (by omega) (by omega) (by omega) (by omega) (by omega)
        have r2 : I2 (b + 1 + 40 + 3 * σ i + 2) = I (b + 1 + 40 + 3 * σ i + 2) := ho _ (by omega) (by omega) (by omega) (by omega) (by omega) (by omega)
        refine ⟨⟨?_, ?_, ?_, fun d hd => ?_⟩, ⟨?_, ?_, ?_, fun d hd => ?_⟩⟩
        · rw [r0, u8]; exact f2
        · rw [r0, u12]; exact f3
        · rw [r0, u16]; exact f4
        · rw [r1, r2, u20 d hd, u788 d hd]; exact fd d hd
        · rw [u8]; exact gm
        · rw [u12]; exact gg
        · rw [u16]; exact go
        · rw [u20 d hd, u788 d hd]; exact gD d hd
    · intro i hi
      show ActR I2 (b + 1 + 7 + 3 * τ i) (I2 (b + 126 + 1)) i ∧ ActI (I2 (b + 126 + 1)) i cnt
      obtain ⟨⟨f0, f1, fd⟩, ⟨g0, g1, gD⟩⟩ := hacts i hi
      have hti := hτ.1 i (by omega)
      have u0 := hg (1748 + 386 * i) (by omega) (by omega) (by omega) (by omega)
      have u1 := hg (1749 + 386 * i) (by omega) (by omega) (by omega) (by omega)
      have r0 : I2 (b + 1 + 7 + 3 * τ i) = I (b + 1 + 7 + 3 * τ i) := ho _ (by omega) (by omega) (by omega) (by omega) (by omega) (by omega)
      by_cases hik : i = k
      · subst hik
        refine ⟨⟨by rw [r0, u0]; exact f0, by rw [r0, u1]; exact f1, fun d hd => by rw [← ha]; exact (rows d hd).2.1⟩, ⟨by rw [u0]; exact g0, by rw [u1]; exact g1, fun d hd => (rows d hd).2.2.2⟩⟩
      · have hne : τ i ≠ τ k := fun e => hik (hτ.2 i k (by omega) (by omega) e)
        have v1 : ∀ d, d < 192 → I2 (b + 126 + 1) (1750 + 386 * i + d) = I (b + 126 + 1) (1750 + 386 * i + d) := fun d hd => hg _ (by omega) (by omega) (by omega) (by omega)
        have v2 : ∀ d, d < 192 → I2 (b + 126 + 1) (1942 + 386 * i + d) = I (b + 126 + 1) (1942 + 386 * i + d) := fun d hd => hg _ (by omega) (by omega) (by omega) (by omega)
        have r1 : I2 (b + 1 + 7 + 3 * τ i + 1) = I (b + 1 + 7 + 3 * τ i + 1) := ho _ (by omega) (by omega) (by omega) (by omega) (by omega) (by omega)
        have r2 : I2 (b + 1 + 7 + 3 * τ i + 2) = I (b + 1 + 7 + 3 * τ i + 2) := ho _ (by omega) (by omega) (by omega) (by omega) (by omega) (by omega)
        refine ⟨⟨by rw [r0, u0]; exact f0, by rw [r0, u1]; exact f1, fun d hd => by rw [r1, r2, v1 d hd, v2 d hd]; exact fd d hd⟩, ⟨by rw [u0]; exact g0, by rw [u1]; exact g1, fun d hd => by rw [v1 d hd, v2 d hd]; exact gD d hd⟩⟩
