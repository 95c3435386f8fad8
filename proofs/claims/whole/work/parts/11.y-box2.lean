/-! box -/
set_option maxHeartbeats 4000000 in
theorem q_box {K N : Nat → Nat} {b : Nat} : sp_box (Rel K N b) b K N := by
  intro I P x1 x2 x3 x4 x5 hR
  have hR0 := hR
  obtain ⟨⟨hroot, hp1, hp53, hmod⟩, ⟨cnt, kp, al, σ, τ, hpic⟩, himg, ⟨fed, htape⟩, hsheets⟩ := hR
  have hpic : PicR I P (b + 1) (I (b + 126 + 1)) cnt kp al σ τ := hpic
  have hpic0 := hpic
  obtain ⟨⟨hcnt, hkp, hal⟩, ⟨hσ, hτ, hlay, hact⟩, ⟨hc1, hg0⟩, ⟨hpap, hpap2⟩, hbr, hlays, hmask, ⟨ha1, ha2, ha3, ha4⟩, hacts⟩ := hpic
  obtain ⟨⟨kb, pb0, pb1, pb3, pb4, pb5, pb6, pb7⟩, hrt, hrs, hrc, hrth, hrl⟩ := id hroot
  obtain ⟨⟨k7, k15, n4, k6, k13, n192, k3, k2, k14, n11⟩, ⟨pp0, pp3, pp4, pp5, pm0, pa0⟩, hacsh, hlash⟩ := id hp1
  have km := hmod.1.1
  have pm := hmod.2.2.1
  have e1 := e_hasLayer (N := N) (P := P) k7 (show cnt < 2 ^ 31 by omega) hc1 x1
  have e2 := e_isLayer hmod hcnt hg0 x1
  have c1 := e_isDot x2 x3
  have c2 := e_isDot x4 x5
  by_cases hx : inR x1 cnt
  · rw [bI_t hx] at e1 e2
    obtain ⟨l, hl, rfl⟩ := hx
    by_cases h12 : (inR x2 16 ∧ inR x3 12) ∧ (inR x4 16 ∧ inR x5 12)
    · obtain ⟨h1, h2⟩ := h12
      rw [bI_t h1] at c1
      rw [bI_t h2] at c2
      obtain ⟨⟨x, hx, rfl⟩, ⟨y, hy, rfl⟩⟩ := h1
      obtain ⟨⟨z, hz, rfl⟩, ⟨w, hw, rfl⟩⟩ := h2
      have hC := chSh_of hroot
      have hpc : P (b + 118) 0 = some (b + 119) := hC.2.2.2.2.2.2.2.1
      obtain ⟨A, a1, a2, a3⟩ := e_chooseBox (I := I) hC hx hy hz hw
      obtain ⟨r, J', P', w1, w2, w3, w4⟩ := e_fillBoth (I0 := A) (fun d => boxF (min x z) (min y w) (max x z) (max y w) d) hR0 hpic0 hl (fun a h => a2 a (by omega)) a3
      have hmod' : ModSh K N P' (b + 126) := hmod.keep (w2 _ (by omega))
      obtain ⟨B, b1, b2, b3⟩ := e_isBoxed (I := J') hmod' hx hy hz hw
      obtain ⟨I2, v1, v2⟩ := w4 B (fun a h => b2 a (by omega)) b3
      have e2' : fn_X10_isLayer K N J' P' (b + 126) (nI l) = some 1 := by
        rw [e_isLayer hmod' hcnt (by rw [w3 _ (by omega)]; exact hg0) (nI l), bI_t ⟨l, hl, rfl⟩]
      refine ⟨(r, J', P'), ?_, (r, I2), ?_, rfl, v2⟩
      · simp [fn_X9_box, gd_pos kb, pb0, e1, gd_pos k7, c1, c2, pb5, a1, gd_pos hC.1, hpc, w1]
      · simp [fn_X10_box, e2', gd_pos km, b1, v1]
    · refine ⟨(-2, I, P), ?_, (-2, I), by simp [fn_X10_box, e2, gd_pos km, e_boxNot h12], rfl, hR0⟩
      by_cases h1 : inR x2 16 ∧ inR x3 12
      · rw [bI_t h1] at c1
        rw [bI_f (fun e => h12 ⟨h1, e⟩)] at c2
        simp [fn_X9_box, gd_pos kb, pb0, e1, gd_pos k7, c1, c2]
      · rw [bI_f h1] at c1
        simp [fn_X9_box, gd_pos kb, pb0, e1, gd_pos k7, c1]
  · rw [bI_f hx] at e1 e2
    exact ⟨(-2, I, P), by simp [fn_X9_box, gd_pos kb, pb0, e1, gd_pos k7], (-2, I), by simp [fn_X10_box, e2, gd_pos km], rfl, hR0⟩
