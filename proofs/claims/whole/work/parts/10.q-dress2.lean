/-! dress of a layer -/
set_option maxHeartbeats 4000000 in
theorem q_dress {K N : Nat → Nat} {b : Nat} : sp_dress (Rel K N b) b K N := by
  intro I P x1 x2 x3 x4 hR
  have hR0 := hR
  obtain ⟨⟨hroot, hp1, hp53, hmod⟩, ⟨cnt, kp, al, σ, τ, hpic⟩, himg, ⟨fed, htape⟩, hsheets⟩ := hR
  have hpic : PicR I P (b + 1) (I (b + 126 + 1)) cnt kp al σ τ := hpic
  have hpic0 := hpic
  obtain ⟨⟨hcnt, hkp, hal⟩, ⟨hσ, hτ, hlay, hact⟩, ⟨hc1, hg0⟩, ⟨hpap, hpap2⟩, hbr, hlays, hmask, ⟨ha1, ha2, ha3, ha4⟩, hacts⟩ := hpic
  obtain ⟨⟨kb, pb0, pb1, pb3, pb4, pb5, pb6, pb7⟩, hrt, hrs, hrc, hrth, hrl⟩ := id hroot
  obtain ⟨⟨k7, k15, n4, k6, k13, n192, k3, k2, k14, n11⟩, ⟨pp0, pp3, pp4, pp5, pm0, pa0⟩, hacsh, hlash⟩ := id hp1
  have km := hmod.1.1
  have pm := hmod.2.2.1
  by_cases hm1 : x1 = -1
  · subst hm1
    exact q_dress_paper I P x2 x3 x4 hR0
  have e1 := e_hasLayer (N := N) (P := P) k7 (show cnt < 2 ^ 31 by omega) hc1 x1
  have e2 := e_isLayer hmod hcnt hg0 x1
  have c2 := e_isDress x2 x3 x4
  have d2 := e_isDress' x2 x3 x4
  by_cases hx : inR x1 cnt
  · rw [bI_t hx] at e1 e2
    obtain ⟨l, hl, rfl⟩ := hx
    by_cases h2 : inR x2 6 ∧ inR x3 100 ∧ inR x4 256
    · rw [bI_t h2] at c2 d2
      obtain ⟨h2, h3, h4⟩ := h2
      obtain ⟨⟨r2, r3, r4, rd⟩, ⟨im, ig, io, di⟩⟩ := hlays l hl
      obtain ⟨g1, g2⟩ := e_layAt hp1 (show l < 4 by omega) hlay
      have hsl := hσ.1 l (by omega)
      have hsh := hlash (σ l) hsl
      have ks := hsh.1
      have s8 : (8 : Int32) + nI l = nI (8 + l) := e_sl 8 l
      have s12 : (12 : Int32) + nI l = nI (12 + l) := e_sl 12 l
      have s16 : (16 : Int32) + nI l = nI (16 + l) := e_sl 16 l
      obtain ⟨q, hq⟩ : ∃ q, q = b + 1 + 40 + 3 * σ l := ⟨_, rfl⟩
      rw [← hq] at r2 r3 r4 rd g2 ks
      obtain ⟨I1, hI1⟩ : ∃ I1, I1 = up2 (up2 (up2 I q 2 x2) q 3 x3) q 4 x4 := ⟨_, rfl⟩
      obtain ⟨I2, hI2⟩ : ∃ I2, I2 = up2 (up2 (up2 I1 (b + 126 + 1) (8 + l) x2) (b + 126 + 1) (12 + l) x3) (b + 126 + 1) (16 + l) x4 := ⟨_, rfl⟩
      have o1 : ∀ a, a ≠ q → I1 a = I a := fun a h => by rw [hI1, up2_o h, up2_o h, up2_o h]
      have o2 : ∀ a, a ≠ b + 126 + 1 → I2 a = I1 a := fun a h => by rw [hI2, up2_o h, up2_o h, up2_o h]
      have t1 : ∀ j, I1 q j = if j = 4 then x4 else if j = 3 then x3 else if j = 2 then x2 else I q j := fun j => by rw [hI1]; simp [up2]
      have t2 : ∀ j, I2 (b + 126 + 1) j = if j = 16 + l then x4 else if j = 12 + l then x3 else if j = 8 + l then x2 else I (b + 126 + 1) j := fun j => by rw [hI2, ← o1 (b + 126 + 1) (by omega)]; simp [up2]
      have w8 := vp_g hmod (show 8 + l < 5608 by omega)
      have w12 := vp_g hmod (show 12 + l < 5608 by omega)
      have w16 := vp_g hmod (show 16 + l < 5608 by omega)
      have u16 : I1 (b + 126 + 1) (16 + l) = I q 4 := by rw [o1 _ (by omega)]; exact r4.symm
      refine ⟨(I q 4, I1), ?_, (I q 4, I2), ?_, rfl, ?_⟩
      · simp [fn_X9_dress, hm1, gd_pos kb, pb0, e1, gd_pos k7, c2, pp0, gd_pos g1, g2, gd_pos ks, fn_X4_wear, hI1]
      · have e2 := e_isLayer (I := I1) hmod hcnt (by rw [o1 _ (by omega)]; exact hg0) (nI l)
        rw [bI_t ⟨l, hl, rfl⟩] at e2
        simp [fn_X10_dress, hm1, e2, gd_pos km, d2, pm, s8, s12, s16, gd_pos w8, gd_pos w12, gd_pos w16, nI_clamp (show 8 + l < 2 ^ 31 by omega), nI_clamp (show 12 + l < 2 ^ 31 by omega), nI_clamp (show 16 + l < 2 ^ 31 by omega), u16, hI2]
      · have ho : ∀ a, a ≠ q → a ≠ b + 126 + 1 → I2 a = I a := fun a h h' => (o2 a h').trans (o1 a h)
        have hgo : ∀ j, j ≠ 8 + l → j ≠ 12 + l → j ≠ 16 + l → I2 (b + 126 + 1) j = I (b + 126 + 1) j := fun j h h' h'' => by rw [t2 j, if_neg h'', if_neg h', if_neg h]
        have e4 : I2 q = I1 q := o2 _ (by omega)
        show Rel K N b I2 P
        refine hR0.pic (rest_all (fun a h h' => ho a (by omega) h')) (fun _ _ _ => rfl) ⟨cnt, kp, al, σ, τ, ?_⟩
        refine hpic0.mod (I' := I2) (g' := I2 (b + 126 + 1)) ⟨rfl, rfl⟩ ⟨by rw [ho _ (by omega) (by omega)], hgo 0 (by omega) (by omega) (by omega)⟩ ⟨by rw [ho _ (by omega) (by omega), hgo 1 (by omega) (by omega) (by omega)]; exact hpap, by rw [hgo 1 (by omega) (by omega) (by omega)]; exact hpap2⟩ ?_ ?_ (hmask.keep (ho _ (by omega) (by omega)) (ho _ (by omega) (by omega)) (fun j _ _ => hgo j (by omega) (by omega) (by omega))) ⟨ho _ (by omega) (by omega), hgo 6 (by omega) (by omega) (by omega), hgo 7 (by omega) (by omega) (by omega)⟩ (hpic0.acts (fun a _ _ => ho a (by omega) (by omega)) (fun j _ _ => hgo j (by omega) (by omega) (by omega)))
        · unfold BrR at hbr ⊢
          rw [ho _ (by omega) (by omega), hgo 2 (by omega) (by omega) (by omega), hgo 3 (by omega) (by omega) (by omega), hgo 4 (by omega) (by omega) (by omega), hgo 5 (by omega) (by omega) (by omega)]
          exact hbr
        · intro i hi
          obtain ⟨⟨y2, y3, y4, yd⟩, ⟨zm, zg, zo, zd⟩⟩ := hlays i hi
          have hsi := hσ.1 i (by omega)
          by_cases hil : i = l
          · subst hil
            rw [← hq]
            refine ⟨⟨?_, ?_, ?_, fun d hd => ?_⟩, ⟨?_, ?_, ?_, fun d hd => ?_⟩⟩
            · rw [e4, t1, t2, if_neg (by decide), if_neg (by decide), if_pos rfl, if_neg (by omega), if_neg (by omega), if_pos rfl]
            · rw [e4, t1, t2, if_neg (by decide), if_pos rfl, if_neg (by omega), if_pos rfl]
            · rw [e4, t1, t2, if_pos rfl, if_pos rfl]
            · rw [ho (q + 1) (by omega) (by omega), ho (q + 2) (by omega) (by omega), hgo (20 + 192 * i + d) (by omega) (by omega) (by omega), hgo (788 + 192 * i + d) (by omega) (by omega) (by omega)]
              exact rd d hd
            · rw [t2, if_neg (by omega), if_neg (by omega), if_pos rfl]; exact h2
            · rw [t2, if_neg (by omega), if_pos rfl]; exact h3
            · rw [t2, if_pos rfl]; exact h4
            · rw [hgo (20 + 192 * i + d) (by omega) (by omega) (by omega), hgo (788 + 192 * i + d) (by omega) (by omega) (by omega)]
              exact di d hd
          · have hne : σ i ≠ σ l := fun e => hil (hσ.2 i l (by omega) (by omega) e)
            refine ⟨⟨?_, ?_, ?_, fun d hd => ?_⟩, ⟨?_, ?_, ?_, fun d hd => ?_⟩⟩
            · rw [ho _ (by omega) (by omega), hgo _ (by omega) (by omega) (by omega)]; exact y2
            · rw [ho _ (by omega) (by omega), hgo _ (by omega) (by omega) (by omega)]; exact y3
            · rw [ho _ (by omega) (by omega), hgo _ (by omega) (by omega) (by omega)]; exact y4
            · rw [ho (b + 1 + 40 + 3 * σ i + 1) (by omega) (by omega), ho (b + 1 + 40 + 3 * σ i + 2) (by omega) (by omega), hgo (20 + 192 * i + d) (by omega) (by omega) (by omega), hgo (788 + 192 * i + d) (by omega) (by omega) (by omega)]
              exact yd d hd
            · rw [hgo _ (by omega) (by omega) (by omega)]; exact zm
            · rw [hgo _ (by omega) (by omega) (by omega)]; exact zg
            · rw [hgo _ (by omega) (by omega) (by omega)]; exact zo
            · rw [hgo (20 + 192 * i + d) (by omega) (by omega) (by omega), hgo (788 + 192 * i + d) (by omega) (by omega) (by omega)]
              exact zd d hd
    · rw [bI_f h2] at c2 d2
      exact ⟨(-2, I), by simp [fn_X9_dress, hm1, gd_pos kb, pb0, e1, gd_pos k7, c2], (-2, I), by simp [fn_X10_dress, hm1, e2, gd_pos km, d2], rfl, hR0⟩
  · rw [bI_f hx] at e1 e2
    exact ⟨(-2, I), by simp [fn_X9_dress, hm1, gd_pos kb, pb0, e1, gd_pos k7], (-2, I), by simp [fn_X10_dress, hm1, e2, gd_pos km], rfl, hR0⟩
