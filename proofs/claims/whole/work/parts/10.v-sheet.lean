/-! a new sheet -/
set_option maxHeartbeats 4000000 in
theorem e_newSheet {K N : Nat → Nat} {b : Nat} : ∀ (I : Nat → Nat → Int32) (P : Nat → Nat → Option Nat) (i n : Nat) (t : Int32), Rel K N b I P → i < 4 → n ≤ 40 → (t = -1 ∨ t = 0 ∨ t = 1) → (t = -1 → n = 0) → ∃ I1, fn_X7_become K N I P (b + 110 + 2 * i) t (nI n) = some I1 ∧ ∃ I2, fn_X10_sheet_L68 K N (b + 126) (nI i) P FU 0 (up2 (up2 I1 (b + 126 + 9) i t) (b + 126 + 10) i (nI n)) = some I2 ∧ Rel K N b I2 P := by
  intro I P i n t hR
  have hR0 := hR
  obtain ⟨⟨hroot, hp1, hp53, hmod⟩, ⟨cnt, kp, al, σ, τ, hpic⟩, himg, ⟨fed, htape⟩, hsheets⟩ := hR
  have hpic : PicR I P (b + 1) (I (b + 126 + 1)) cnt kp al σ τ := hpic
  have hpic0 := hpic
  obtain ⟨⟨hcnt, hkp, hal⟩, ⟨hσ, hτ, hlay, hact⟩, ⟨hc1, hg0⟩, ⟨hpap, hpap2⟩, hbr, hlays, hmask, ⟨ha1, ha2, ha3, ha4⟩, hacts⟩ := hpic
  obtain ⟨⟨kb, pb0, pb1, pb3, pb4, pb5, pb6, pb7⟩, hrt, hrs, hrc, hrth, hrl⟩ := id hroot
  obtain ⟨⟨k7, k15, n4, k6, k13, n192, k3, k2, k14, n11⟩, ⟨pp0, pp3, pp4, pp5, pm0, pa0⟩, hacsh, hlash⟩ := id hp1
  have km := hmod.1.1
  have pm := hmod.2.2.1
  intro hi hn ht htn
  obtain ⟨k16, n4', hsh⟩ := hrs
  obtain ⟨pi, k8, k12, n40, p2⟩ := hsh i hi
  obtain ⟨J, hJ⟩ : ∃ J, J = up2 (up2 I (b + 110 + 2 * i) 0 t) (b + 110 + 2 * i) 1 (nI n) := ⟨_, rfl⟩
  obtain ⟨I1, f1, f2, f3⟩ := e_fill (I := J) (P := P) k12 n40 (by omega) 0
  obtain ⟨M, hM⟩ : ∃ M, M = up2 (up2 I1 (b + 126 + 9) i t) (b + 126 + 10) i (nI n) := ⟨_, rfl⟩
  obtain ⟨I2, g1, g2, g3⟩ := e_fill40 (I := M) (i := i) hmod hi
  refine ⟨I1, ?_, I2, ?_, ?_⟩
  · unfold fn_X7_become
    rw [gd_pos k8, Option.bind_some, Option.bind_some, p2, Option.bind_some, ← hJ, f1, Option.bind_some]
  · rw [← hM]; exact g1
  · have oJ : ∀ a, a ≠ b + 110 + 2 * i → J a = I a := fun a h => by rw [hJ, up2_o h, up2_o h]
    have oM : ∀ a, a ≠ b + 126 + 9 → a ≠ b + 126 + 10 → M a = I1 a := fun a h h' => by rw [hM, up2_o h', up2_o h]
    have ho : ∀ a, a ≠ b + 110 + 2 * i → a ≠ b + 111 + 2 * i → a ≠ b + 126 + 9 → a ≠ b + 126 + 10 → a ≠ b + 126 + 11 → I2 a = I a := fun a h1 h2 h3 h4 h5 => ((g2 a h5).trans (oM a h3 h4)).trans ((f2 a h2).trans (oJ a h1))
    have tq : ∀ j, I2 (b + 110 + 2 * i) j = if j = 1 then nI n else if j = 0 then t else I (b + 110 + 2 * i) j := fun j => by
      rw [g2 _ (by omega), oM _ (by omega) (by omega), f2 _ (by omega), hJ]; simp [up2]
    have tr : ∀ j, I2 (b + 111 + 2 * i) j = if j < 40 then 0 else I (b + 111 + 2 * i) j := fun j => by
      rw [g2 _ (by omega), oM _ (by omega) (by omega), f3, oJ _ (by omega)]
    have t9 : ∀ j, I2 (b + 126 + 9) j = if j = i then t else I (b + 126 + 9) j := fun j => by
      rw [g2 _ (by omega), hM, up2_o (show b + 126 + 9 ≠ b + 126 + 10 by omega), ← oJ (b + 126 + 9) (by omega), ← f2 (b + 126 + 9) (by omega)]; simp [up2]
    have t10 : ∀ j, I2 (b + 126 + 10) j = if j = i then nI n else I (b + 126 + 10) j := fun j => by
      rw [g2 _ (by omega), hM, ← oJ (b + 126 + 10) (by omega), ← f2 (b + 126 + 10) (by omega)]; simp [up2]
    have t11 : ∀ j, I2 (b + 126 + 11) j = if 40 * i ≤ j ∧ j < 40 * i + 40 then 0 else I (b + 126 + 11) j := fun j => by
      rw [g3, oM _ (by omega) (by omega), f2 _ (by omega), oJ _ (by omega)]
    refine hR0.sheets (fun a h h1 h2 h3 => ho a (by omega) (by omega) (by omega) (by omega) (by omega)) (fun k hk => ?_)
    obtain ⟨nk, hnk, z0, z01, zm, z1, zm1, zit⟩ := hsheets k hk
    by_cases hki : k = i
    · subst hki
      have e9 : I2 (b + 135) k = t := by rw [show I2 (b + 135) k = _ from t9 k, if_pos rfl]
      have e10 : I2 (b + 136) k = nI n := by rw [show I2 (b + 136) k = _ from t10 k, if_pos rfl]
      refine ⟨n, hn, ?_, by rw [e9]; exact ht, by rw [e9]; exact htn, ?_, e10, fun d hd => ?_⟩
      · rw [e9, tq, if_neg (by decide), if_pos rfl]
      · rw [tq, if_pos rfl]
      · rw [tr, if_pos (by omega), show I2 (b + 137) (40 * k + d) = _ from t11 (40 * k + d), if_pos (by omega)]
    · have e9 : I2 (b + 135) k = I (b + 135) k := by rw [show I2 (b + 135) k = _ from t9 k, if_neg hki]
      have e10 : I2 (b + 136) k = I (b + 136) k := by rw [show I2 (b + 136) k = _ from t10 k, if_neg hki]
      refine ⟨nk, hnk, ?_, by rw [e9]; exact z01, by rw [e9]; exact zm, ?_, e10.trans zm1, fun d hd => ?_⟩
      · rw [e9, ho _ (by omega) (by omega) (by omega) (by omega) (by omega)]; exact z0
      · rw [ho _ (by omega) (by omega) (by omega) (by omega) (by omega)]; exact z1
      · rw [ho (b + 111 + 2 * k) (by omega) (by omega) (by omega) (by omega) (by omega), show I2 (b + 137) (40 * k + d) = _ from t11 (40 * k + d), if_neg (by omega)]
        exact zit d hd
