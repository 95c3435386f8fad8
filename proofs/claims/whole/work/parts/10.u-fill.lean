/-! fill; a sheet made empty -/
theorem e_fill {K N : Nat → Nat} {I : Nat → Nat → Int32} {P : Nat → Nat → Option Nat} {q n : Nat} (hk : K q = 12) (hn : N q = n) (hn2 : n < 5999) (v : Int32) : ∃ I', fn_J7_fill_53178 K N I P q v = some I' ∧ (∀ a, a ≠ q → I' a = I a) ∧ ∀ j, I' q j = if j < n then v else I q j := by
  have key := loop_ok (F := fun f i s => fn_J7_fill_53178_L5 K N q v (nI n) f (nI i) s) n (fun i s => (∀ a, a ≠ q → s a = I a) ∧ ∀ j, s q j = if j < i then v else I q j) (fun r => (∀ a, a ≠ q → r a = I a) ∧ ∀ j, r q j = if j < n then v else I q j)
    (fun f s hs => by
      simp only [fn_J7_fill_53178_L5]
      rw [if_pos (nI_le (Nat.le_refl _) (by omega))]
      exact ok_some.mpr hs)
    (fun f i s hi hs k => by
      simp only [fn_J7_fill_53178_L5]
      rw [if_neg (nI_ge hi (by omega)), gd_pos ⟨hk, by rw [hn]; exact vp_in_nI hi (by omega)⟩, Option.bind_some, nI_clamp (by omega), nI_1]
      refine k _ ⟨fun a ha => by rw [up2_o ha]; exact hs.1 a ha, fun j => ?_⟩
      by_cases hj : j = i
      · subst hj; rw [up2_s, if_pos (by omega)]
      · rw [up2_k hj, hs.2]
        by_cases h2 : j < i
        · rw [if_pos h2, if_pos (by omega)]
        · rw [if_neg h2, if_neg (by omega)])
    FU 0 I (Nat.zero_le _) (FU_lt (by omega)) ⟨fun _ _ => rfl, fun j => by rw [if_neg (by omega)]⟩
  obtain ⟨r, h1, h2⟩ := key
  have h1 : fn_J7_fill_53178_L5 K N q v (nI n) FU 0 I = some r := h1
  refine ⟨r, ?_, h2⟩
  unfold fn_J7_fill_53178
  rw [gd_pos hk, Option.bind_some, hn, show Int32.ofNat n = nI n from rfl, h1, Option.bind_some]
theorem e_fill40 {K N : Nat → Nat} {I : Nat → Nat → Int32} {P : Nat → Nat → Option Nat} {m i : Nat} (hM : ModSh K N P m) (hi : i < 4) : ∃ I', fn_X10_sheet_L68 K N m (nI i) P FU 0 I = some I' ∧ (∀ a, a ≠ m + 11 → I' a = I a) ∧ ∀ j, I' (m + 11) j = if 40 * i ≤ j ∧ j < 40 * i + 40 then 0 else I (m + 11) j := by
  have p22 : P m 22 = some (m + 11) := hM.2.2.2.2.2.2.2.2.2.2.2.2
  have k11 : K (m + 11) = 12 := hM.1.2.2.2.2.2.2.2.2.2.2.2
  have n11 : N (m + 11) = 160 := hM.2.1.2.2.2.2.2.2.2.2.2.2
  have key := loop_ok (F := fun f k s => fn_X10_sheet_L68 K N m (nI i) P f (nI k) s) 40 (fun k s => (∀ a, a ≠ m + 11 → s a = I a) ∧ ∀ j, s (m + 11) j = if 40 * i ≤ j ∧ j < 40 * i + k then 0 else I (m + 11) j) (fun r => (∀ a, a ≠ m + 11 → r a = I a) ∧ ∀ j, r (m + 11) j = if 40 * i ≤ j ∧ j < 40 * i + 40 then 0 else I (m + 11) j)
    (fun f s hs => by
      simp only [fn_X10_sheet_L68]
      rw [if_pos (show (40 : Int32) ≤ nI 40 from nI_le (a := 40) (Nat.le_refl _) (by omega))]
      exact ok_some.mpr hs)
    (fun f k s hk hs kk => by
      simp only [fn_X10_sheet_L68]
      have a1 : (40 : Int32) * nI i + nI k = nI (40 * i + k) := by rw [show (40 : Int32) = nI 40 from rfl, pk_mul, nI_add]
      rw [if_neg (show ¬ (40 : Int32) ≤ nI k from nI_ge (b := 40) hk (by omega)), p22, Option.bind_some, a1, gd_pos ⟨k11, by rw [n11]; exact vp_in_nI (by omega) (by omega)⟩, Option.bind_some, nI_clamp (by omega), nI_1]
      refine kk _ ⟨fun a ha => by rw [up2_o ha]; exact hs.1 a ha, fun j => ?_⟩
      by_cases hj : j = 40 * i + k
      · subst hj; rw [up2_s, if_pos (by omega)]
      · rw [up2_k hj, hs.2]
        by_cases h2 : 40 * i ≤ j ∧ j < 40 * i + k
        · rw [if_pos h2, if_pos (by omega)]
        · rw [if_neg h2, if_neg (by omega)])
    FU 0 I (Nat.zero_le _) (FU_lt (by omega)) ⟨fun _ _ => rfl, fun j => by rw [if_neg (by omega)]⟩
  obtain ⟨r, h1, h2⟩ := key
  exact ⟨r, h1, h2⟩
