/-! the layers' order: what a shift makes of it -/
def rot (x y i : Nat) : Nat := if x ≤ y then (if i < x ∨ y < i then i else if i = y then x else i + 1) else (if i < y ∨ x < i then i else if i = y then x else i - 1)
theorem rot_perm (x y : Nat) (hx : x < 4) (hy : y < 4) : Perm 4 (rot x y) := by
  have key : ∀ x, x < 4 → ∀ y, y < 4 → ((∀ i, i < 4 → rot x y i < 4) ∧ ∀ i, i < 4 → ∀ j, j < 4 → rot x y i = rot x y j → i = j) := by decide +kernel
  exact ⟨(key x hx y hy).1, fun i j hi hj => (key x hx y hy).2 i hi j hj⟩
theorem rot_lt {x y n i : Nat} (hx : x < n) (hy : y < n) (hi : i < n) : rot x y i < n := by
  unfold rot
  split <;> split <;> (try split) <;> omega
def laySame (g' g : Nat → Int32) (i j : Nat) : Prop := g' (8 + i) = g (8 + j) ∧ g' (12 + i) = g (12 + j) ∧ g' (16 + i) = g (16 + j) ∧ ∀ d, d < 192 → g' (20 + 192 * i + d) = g (20 + 192 * j + d) ∧ g' (788 + 192 * i + d) = g (788 + 192 * j + d)
theorem laySame.trans {a b c : Nat → Int32} {i j k : Nat} (h : laySame a b i j) (h' : laySame b c j k) : laySame a c i k := by
  obtain ⟨h1, h2, h3, h4⟩ := h
  obtain ⟨k1, k2, k3, k4⟩ := h'
  exact ⟨h1.trans k1, h2.trans k2, h3.trans k3, fun d hd => ⟨(h4 d hd).1.trans (k4 d hd).1, (h4 d hd).2.trans (k4 d hd).2⟩⟩
theorem laySame.refl (a : Nat → Int32) (i : Nat) : laySame a a i i := ⟨rfl, rfl, rfl, fun _ _ => ⟨rfl, rfl⟩⟩
theorem e_swapsOne {K N : Nat → Nat} {I : Nat → Nat → Int32} {P : Nat → Nat → Option Nat} {m j k : Nat} (hM : ModSh K N P m) (hj : j < 5608) (hk : k < 5608) : fn_X10_swapsOne K N I P m (nI j) (nI k) = some (up2 (up2 I (m + 1) j (I (m + 1) k)) (m + 1) k (I (m + 1) j)) := by
  unfold fn_X10_swapsOne
  rw [gd_pos hM.1.1, hM.2.2.1, Option.bind_some, gd_pos (vp_g hM hj), Option.bind_some, gd_pos (vp_g hM hk), Option.bind_some, Option.bind_some, nI_clamp (by omega), nI_clamp (by omega)]
theorem e_swaps {K N : Nat → Nat} {I : Nat → Nat → Int32} {P : Nat → Nat → Option Nat} {m i k : Nat} (hM : ModSh K N P m) (hi : i < 4) (hk : k < 4) (hik : i ≠ k) : ∃ I', fn_X10_swaps K N I P m (nI i) (nI k) = some I' ∧ (∀ a, a ≠ m + 1 → I' a = I a) ∧ (∀ j, (j < 8 ∨ 1556 ≤ j) → I' (m + 1) j = I (m + 1) j) ∧ laySame (I' (m + 1)) (I (m + 1)) i k ∧ laySame (I' (m + 1)) (I (m + 1)) k i ∧ ∀ l, l < 4 → l ≠ i → l ≠ k → laySame (I' (m + 1)) (I (m + 1)) l l := by
  obtain ⟨A, hA⟩ : ∃ A, A = up2 (up2 I (m + 1) (8 + i) (I (m + 1) (8 + k))) (m + 1) (8 + k) (I (m + 1) (8 + i)) := ⟨_, rfl⟩
  obtain ⟨B, hB⟩ : ∃ B, B = up2 (up2 A (m + 1) (12 + i) (A (m + 1) (12 + k))) (m + 1) (12 + k) (A (m + 1) (12 + i)) := ⟨_, rfl⟩
  obtain ⟨C, hC⟩ : ∃ C, C = up2 (up2 B (m + 1) (16 + i) (B (m + 1) (16 + k))) (m + 1) (16 + k) (B (m + 1) (16 + i)) := ⟨_, rfl⟩
  have key := loop_ok (F := fun f d s => fn_X10_swaps_L38 K N m (nI i) (nI k) P f (nI d) s) 192 (fun d s => (∀ a, a ≠ m + 1 → s a = C a) ∧ (∀ j, ¬ (20 + 192 * i ≤ j ∧ j < 20 + 192 * i + d) → ¬ (20 + 192 * k ≤ j ∧ j < 20 + 192 * k + d) → ¬ (788 + 192 * i ≤ j ∧ j < 788 + 192 * i + d) → ¬ (788 + 192 * k ≤ j ∧ j < 788 + 192 * k + d) → s (m + 1) j = C (m + 1) j) ∧ ∀ e, e < d → s (m + 1) (20 + 192 * i + e) = C (m + 1) (20 + 192 * k + e) ∧ s (m + 1) (20 + 192 * k + e) = C (m + 1) (20 + 192 * i + e) ∧ s (m + 1) (788 + 192 * i + e) = C (m + 1) (788 + 192 * k + e) ∧ s (m + 1) (788 + 192 * k + e) = C (m + 1) (788 + 192 * i + e)) (fun s => (∀ a, a ≠ m + 1 → s a = C a) ∧ (∀ j, ¬ (20 + 192 * i ≤ j ∧ j < 20 + 192 * i + 192) → ¬ (20 + 192 * k ≤ j ∧ j < 20 + 192 * k + 192) → ¬ (788 + 192 * i ≤ j ∧ j < 788 + 192 * i + 192) → ¬ (788 + 192 * k ≤ j ∧ j < 788 + 192 * k + 192) → s (m + 1) j = C (m + 1) j) ∧ ∀ e, e < 192 → s (m + 1) (20 + 192 * i + e) = C (m + 1) (20 + 192 * k + e) ∧ s (m + 1) (20 + 192 * k + e) = C (m + 1) (20 + 192 * i + e) ∧ s (m + 1) (788 + 192 * i + e) = C (m + 1) (788 + 192 * k + e) ∧ s (m + 1) (788 + 192 * k + e) = C (m + 1) (788 + 192 * i + e))
    (fun f s hs => by
      simp only [fn_X10_swaps_L38]
      rw [if_pos (show (192 : Int32) ≤ nI 192 from nI_le (a := 192) (Nat.le_refl _) (by omega))]
      exact ok_some.mpr hs)
    (fun f d s hd hs kk => by
      simp only [fn_X10_swaps_L38]
      obtain ⟨s1, s2, s3⟩ := hs
      rw [if_neg (show ¬ (192 : Int32) ≤ nI d from nI_ge (b := 192) hd (by omega)), show (20 : Int32) + (192 : Int32) * nI i + nI d = nI (20 + 192 * i + d) from e_sd 20 i d, show (20 : Int32) + (192 : Int32) * nI k + nI d = nI (20 + 192 * k + d) from e_sd 20 k d, show (788 : Int32) + (192 : Int32) * nI i + nI d = nI (788 + 192 * i + d) from e_sd 788 i d, show (788 : Int32) + (192 : Int32) * nI k + nI d = nI (788 + 192 * k + d) from e_sd 788 k d, e_swapsOne hM (by omega) (by omega), Option.bind_some, e_swapsOne hM (by omega) (by omega), Option.bind_some, nI_1]
      have q1 : s (m + 1) (20 + 192 * i + d) = C (m + 1) (20 + 192 * i + d) := s2 _ (by omega) (by omega) (by omega) (by omega)
      have q2 : s (m + 1) (20 + 192 * k + d) = C (m + 1) (20 + 192 * k + d) := s2 _ (by omega) (by omega) (by omega) (by omega)
      have q3 : s (m + 1) (788 + 192 * i + d) = C (m + 1) (788 + 192 * i + d) := s2 _ (by omega) (by omega) (by omega) (by omega)
      have q4 : s (m + 1) (788 + 192 * k + d) = C (m + 1) (788 + 192 * k + d) := s2 _ (by omega) (by omega) (by omega) (by omega)
      refine kk _ ⟨fun a ha => by rw [up2_o ha, up2_o ha, up2_o ha, up2_o ha]; exact s1 a ha, fun j h1 h2 h3 h4 => ?_, fun e he => ?_⟩
      · rw [up2_k (by omega), up2_k (by omega), up2_k (by omega), up2_k (by omega)]
        exact s2 j (by omega) (by omega) (by omega) (by omega)
      · by_cases hed : e = d
        · subst hed
          refine ⟨?_, ?_, ?_, ?_⟩
          · rw [up2_k (by omega), up2_k (by omega), up2_k (by omega), up2_s]; exact q2
          · rw [up2_k (by omega), up2_k (by omega), up2_s]; exact q1
          · rw [up2_k (by omega), up2_s, up2_k (by omega), up2_k (by omega)]; exact q4
          · rw [up2_s, up2_k (by omega), up2_k (by omega)]; exact q3
        · obtain ⟨z1, z2, z3, z4⟩ := s3 e (by omega)
          refine ⟨?_, ?_, ?_, ?_⟩ <;> (rw [up2_k (by omega), up2_k (by omega), up2_k (by omega), up2_k (by omega)]; assumption))
    FU 0 C (Nat.zero_le _) (FU_lt (by omega)) ⟨fun _ _ => rfl, fun _ _ _ _ _ => rfl, fun e he => absurd he (by omega)⟩
  obtain ⟨D, w1, w2, w3, w4⟩ := key
  have w1 : fn_X10_swaps_L38 K N m (nI i) (nI k) P FU 0 C = some D := w1
  have oC : ∀ a, a ≠ m + 1 → C a = I a := fun a h => by rw [hC, up2_o h, up2_o h, hB, up2_o h, up2_o h, hA, up2_o h, up2_o h]
  have tA : ∀ j, A (m + 1) j = if j = 8 + k then I (m + 1) (8 + i) else if j = 8 + i then I (m + 1) (8 + k) else I (m + 1) j := fun j => by rw [hA]; simp [up2]
  have tB : ∀ j, B (m + 1) j = if j = 12 + k then A (m + 1) (12 + i) else if j = 12 + i then A (m + 1) (12 + k) else A (m + 1) j := fun j => by rw [hB]; simp [up2]
  have tC : ∀ j, C (m + 1) j = if j = 16 + k then B (m + 1) (16 + i) else if j = 16 + i then B (m + 1) (16 + k) else B (m + 1) j := fun j => by rw [hC]; simp [up2]
  have tI : ∀ j, (j < 8 ∨ 20 ≤ j) → C (m + 1) j = I (m + 1) j := fun j hj => by
    rw [tC, if_neg (by omega), if_neg (by omega), tB, if_neg (by omega), if_neg (by omega), tA, if_neg (by omega), if_neg (by omega)]
  have n8 : ∀ l, l < 4 → D (m + 1) (8 + l) = A (m + 1) (8 + l) := fun l hl => by
    rw [w3 _ (by omega) (by omega) (by omega) (by omega), tC, if_neg (by omega), if_neg (by omega), tB, if_neg (by omega), if_neg (by omega)]
  have n12 : ∀ l, l < 4 → D (m + 1) (12 + l) = B (m + 1) (12 + l) := fun l hl => by
    rw [w3 _ (by omega) (by omega) (by omega) (by omega), tC, if_neg (by omega), if_neg (by omega)]
  have n16 : ∀ l, l < 4 → D (m + 1) (16 + l) = C (m + 1) (16 + l) := fun l hl => w3 _ (by omega) (by omega) (by omega) (by omega)
  have a12 : ∀ l, l < 4 → A (m + 1) (12 + l) = I (m + 1) (12 + l) := fun l hl => by rw [tA, if_neg (by omega), if_neg (by omega)]
  have b16 : ∀ l, l < 4 → B (m + 1) (16 + l) = I (m + 1) (16 + l) := fun l hl => by rw [tB, if_neg (by omega), if_neg (by omega), tA, if_neg (by omega), if_neg (by omega)]
  refine ⟨D, ?_, fun a h => (w2 a h).trans (oC a h), fun j hj => (w3 j (by omega) (by omega) (by omega) (by omega)).trans (tI j (by omega)), ⟨?_, ?_, ?_, fun d hd => ⟨?_, ?_⟩⟩, ⟨?_, ?_, ?_, fun d hd => ⟨?_, ?_⟩⟩, fun l hl h1 h2 => ⟨?_, ?_, ?_, fun d hd => ⟨?_, ?_⟩⟩⟩
  · unfold fn_X10_swaps
    rw [show (8 : Int32) + nI i = nI (8 + i) from e_sl 8 i, show (8 : Int32) + nI k = nI (8 + k) from e_sl 8 k, show (12 : Int32) + nI i = nI (12 + i) from e_sl 12 i, show (12 : Int32) + nI k = nI (12 + k) from e_sl 12 k, show (16 : Int32) + nI i = nI (16 + i) from e_sl 16 i, show (16 : Int32) + nI k = nI (16 + k) from e_sl 16 k, e_swapsOne hM (by omega) (by omega), Option.bind_some, ← hA, gd_pos hM.1.1, e_swapsOne hM (by omega) (by omega), Option.bind_some, ← hB, e_swapsOne hM (by omega) (by omega), Option.bind_some, ← hC, w1, Option.bind_some]
  · rw [n8 i hi, tA, if_neg (by omega), if_pos rfl]
  · rw [n12 i hi, tB, if_neg (by omega), if_pos rfl]; exact a12 k hk
  · rw [n16 i hi, tC, if_neg (by omega), if_pos rfl]; exact b16 k hk
  · rw [(w4 d hd).1]; exact tI _ (by omega)
  · rw [(w4 d hd).2.2.1]; exact tI _ (by omega)
  · rw [n8 k hk, tA, if_pos rfl]
  · rw [n12 k hk, tB, if_pos rfl]; exact a12 i hi
  · rw [n16 k hk, tC, if_pos rfl]; exact b16 i hi
  · rw [(w4 d hd).2.1]; exact tI _ (by omega)
  · rw [(w4 d hd).2.2.2]; exact tI _ (by omega)
  · rw [n8 l hl, tA, if_neg (by omega), if_neg (by omega)]
  · rw [n12 l hl, tB, if_neg (by omega), if_neg (by omega)]; exact a12 l hl
  · rw [n16 l hl, tC, if_neg (by omega), if_neg (by omega)]; exact b16 l hl
  · rw [w3 _ (by omega) (by omega) (by omega) (by omega)]; exact tI _ (by omega)
  · rw [w3 _ (by omega) (by omega) (by omega) (by omega)]; exact tI _ (by omega)
