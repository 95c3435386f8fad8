/-! an act's tiles swapped with its layer's -/
/-- what stands at d, of two rows that change places where the bit is -/
noncomputable def sw2 (bits : Int32) (n d : Nat) (x y : Int32) : Int32 := if d < n ∧ ¬ bits &&& tbit d = 0 then y else x
theorem sw2_0 (bits : Int32) (d : Nat) (x y : Int32) : sw2 bits 0 d x y = x := if_neg (by omega)
theorem sw2_k {bits : Int32} {n d : Nat} {x y : Int32} (h : d ≠ n) : sw2 bits (n + 1) d x y = sw2 bits n d x y := by
  unfold sw2
  by_cases c : d < n ∧ ¬ bits &&& tbit d = 0
  · rw [if_pos c, if_pos ⟨by omega, c.2⟩]
  · rw [if_neg c, if_neg (fun e => c ⟨by omega, e.2⟩)]
theorem sw2_b {bits : Int32} {n : Nat} {x y : Int32} (h : bits &&& tbit n = 0) (d : Nat) : sw2 bits (n + 1) d x y = sw2 bits n d x y := by
  by_cases k : d = n
  · subst k; unfold sw2; rw [if_neg (fun e => e.2 h), if_neg (by omega)]
  · exact sw2_k k
theorem sw2_y {bits : Int32} {n : Nat} {x y : Int32} (h : ¬ bits &&& tbit n = 0) : sw2 bits (n + 1) n x y = y := if_pos ⟨by omega, h⟩
theorem sw2_n {bits : Int32} {n : Nat} {x y : Int32} : sw2 bits n n x y = x := if_neg (by omega)
theorem e_swapTiles {K N : Nat → Nat} {I : Nat → Nat → Int32} {P : Nat → Nat → Option Nat} {a q : Nat} (hA : ActSh K N P a) (hL : LaySh K N P q) (hd : a + 2 < q ∨ q + 2 < a) : ∃ s, fn_X0_swapTiles K N I P a q = some s ∧ (∀ x, x ≠ a + 1 → x ≠ a + 2 → x ≠ q + 1 → x ≠ q + 2 → s x = I x) ∧ ∀ d, s (a + 1) d = sw2 (I a 1) 192 d (I (a + 1) d) (I (q + 1) d) ∧ s (a + 2) d = sw2 (I a 1) 192 d (I (a + 2) d) (I (q + 2) d) ∧ s (q + 1) d = sw2 (I a 1) 192 d (I (q + 1) d) (I (a + 1) d) ∧ s (q + 2) d = sw2 (I a 1) 192 d (I (q + 2) d) (I (a + 2) d) := by
  obtain ⟨k0, k1, n1, k2, n2, p2, p3⟩ := hA
  obtain ⟨l0, l1, m1, l2, m2, r0, r1⟩ := hL
  have key := loop_ok (F := fun f n s => fn_X0_swapTiles_L2 K N a q P f (nI n) s) 192 (fun n s => (∀ x, x ≠ a + 1 → x ≠ a + 2 → x ≠ q + 1 → x ≠ q + 2 → s x = I x) ∧ ∀ d, s (a + 1) d = sw2 (I a 1) n d (I (a + 1) d) (I (q + 1) d) ∧ s (a + 2) d = sw2 (I a 1) n d (I (a + 2) d) (I (q + 2) d) ∧ s (q + 1) d = sw2 (I a 1) n d (I (q + 1) d) (I (a + 1) d) ∧ s (q + 2) d = sw2 (I a 1) n d (I (q + 2) d) (I (a + 2) d)) (fun s => (∀ x, x ≠ a + 1 → x ≠ a + 2 → x ≠ q + 1 → x ≠ q + 2 → s x = I x) ∧ ∀ d, s (a + 1) d = sw2 (I a 1) 192 d (I (a + 1) d) (I (q + 1) d) ∧ s (a + 2) d = sw2 (I a 1) 192 d (I (a + 2) d) (I (q + 2) d) ∧ s (q + 1) d = sw2 (I a 1) 192 d (I (q + 1) d) (I (a + 1) d) ∧ s (q + 2) d = sw2 (I a 1) 192 d (I (q + 2) d) (I (a + 2) d))
    (fun f s hs => by
      simp only [fn_X0_swapTiles_L2]
      rw [if_pos (show (192 : Int32) ≤ nI 192 from nI_le (a := 192) (Nat.le_refl _) (by omega))]
      exact ok_some.mpr hs)
    (fun f n s hn hs kk => by
      simp only [fn_X0_swapTiles_L2]
      obtain ⟨s1, s2⟩ := hs
      have ha : s a = I a := s1 a (by omega) (by omega) (by omega) (by omega)
      rw [if_neg (show ¬ (192 : Int32) ≤ nI n from nI_ge (b := 192) hn (by omega)), gd_pos k0, e_tileBit, Option.bind_some, ha, nI_1]
      by_cases h : I a 1 &&& tbit n = 0
      · rw [if_pos h]
        exact kk s ⟨s1, fun d => by rw [sw2_b h, sw2_b h, sw2_b h, sw2_b h]; exact s2 d⟩
      · obtain ⟨t1, t2, t3, t4⟩ := s2 n
        rw [sw2_n] at t1 t2 t3 t4
        rw [if_neg h, p2, Option.bind_some, gd_pos ⟨k1, by rw [n1]; exact vp_192 hn⟩, Option.bind_some, p3, Option.bind_some, gd_pos ⟨k2, by rw [n2]; exact vp_192 hn⟩, Option.bind_some, gd_pos l0, r0, Option.bind_some, gd_pos ⟨l1, by rw [m1]; exact vp_192 hn⟩, Option.bind_some, r1, Option.bind_some, gd_pos ⟨l2, by rw [m2]; exact vp_192 hn⟩, Option.bind_some, Option.bind_some, Option.bind_some, nI_clamp (by omega), up2_o (show q + 2 ≠ a + 1 by omega), t1, t2, t3, t4]
        refine kk _ ⟨fun x x1 x2 x3 x4 => by rw [up2_o x4, up2_o x3, up2_o x2, up2_o x1]; exact s1 x x1 x2 x3 x4, fun d => ?_⟩
        obtain ⟨u1, u2, u3, u4⟩ := s2 d
        by_cases hdn : d = n
        · subst hdn
          refine ⟨?_, ?_, ?_, ?_⟩
          · rw [up2_o (by omega), up2_o (by omega), up2_o (by omega), up2_s, sw2_y h]
          · rw [up2_o (by omega), up2_o (by omega), up2_s, sw2_y h]
          · rw [up2_o (by omega), up2_s, sw2_y h]
          · rw [up2_s, sw2_y h]
        · rw [sw2_k hdn, sw2_k hdn, sw2_k hdn, sw2_k hdn]
          refine ⟨?_, ?_, ?_, ?_⟩
          · rw [up2_o (by omega), up2_o (by omega), up2_o (by omega), up2_k hdn]; exact u1
          · rw [up2_o (by omega), up2_o (by omega), up2_k hdn, up2_o (by omega)]; exact u2
          · rw [up2_o (by omega), up2_k hdn, up2_o (by omega), up2_o (by omega)]; exact u3
          · rw [up2_k hdn, up2_o (by omega), up2_o (by omega), up2_o (by omega)]; exact u4)
    FU 0 I (Nat.zero_le _) (FU_lt (by omega)) ⟨fun _ _ _ _ _ => rfl, fun d => by rw [sw2_0, sw2_0, sw2_0, sw2_0]; exact ⟨rfl, rfl, rfl, rfl⟩⟩
  obtain ⟨s, h1, h2⟩ := key
  have h1 : fn_X0_swapTiles_L2 K N a q P FU 0 I = some s := h1
  refine ⟨s, ?_, h2⟩
  unfold fn_X0_swapTiles
  rw [h1, Option.bind_some]
/-- the model's -/
theorem e_mswap {K N : Nat → Nat} {I : Nat → Nat → Int32} {P : Nat → Nat → Option Nat} {m l k : Nat} (hM : ModSh K N P m) (hl : l < 4) (hk : k < 10) (hb : inR (I (m + 1) (1749 + 386 * k)) 4096) : ∃ s, fn_X10_undo_L75 K N m P (m + 1) (nI (1748 + 386 * k)) (nI l) FU 0 I = some s ∧ (∀ x, x ≠ m + 1 → s x = I x) ∧ (∀ j, ¬ (20 + 192 * l ≤ j ∧ j < 20 + 192 * l + 192) → ¬ (788 + 192 * l ≤ j ∧ j < 788 + 192 * l + 192) → ¬ (1750 + 386 * k ≤ j ∧ j < 1750 + 386 * k + 384) → s (m + 1) j = I (m + 1) j) ∧ ∀ d, d < 192 → s (m + 1) (20 + 192 * l + d) = sw2 (I (m + 1) (1749 + 386 * k)) 192 d (I (m + 1) (20 + 192 * l + d)) (I (m + 1) (1750 + 386 * k + d)) ∧ s (m + 1) (788 + 192 * l + d) = sw2 (I (m + 1) (1749 + 386 * k)) 192 d (I (m + 1) (788 + 192 * l + d)) (I (m + 1) (1942 + 386 * k + d)) ∧ s (m + 1) (1750 + 386 * k + d) = sw2 (I (m + 1) (1749 + 386 * k)) 192 d (I (m + 1) (1750 + 386 * k + d)) (I (m + 1) (20 + 192 * l + d)) ∧ s (m + 1) (1942 + 386 * k + d) = sw2 (I (m + 1) (1749 + 386 * k)) 192 d (I (m + 1) (1942 + 386 * k + d)) (I (m + 1) (788 + 192 * l + d)) := by
  have a1 : nI (1748 + 386 * k) + 1 = nI (1749 + 386 * k) := by rw [nI_1]; congr 1; omega
  have a2 : ∀ v, nI (1748 + 386 * k) + (2 : Int32) + nI v = nI (1750 + 386 * k + v) := fun v => by
    rw [show (2 : Int32) = nI 2 from rfl, nI_add, nI_add]; congr 1; omega
  have a3 : ∀ v, nI (1748 + 386 * k) + (2 : Int32) + (192 : Int32) + nI v = nI (1942 + 386 * k + v) := fun v => by
    rw [show (2 : Int32) = nI 2 from rfl, show (192 : Int32) = nI 192 from rfl, nI_add, nI_add, nI_add]; congr 1; omega
  have key := loop_ok (F := fun f n s => fn_X10_undo_L75 K N m P (m + 1) (nI (1748 + 386 * k)) (nI l) f (nI n) s) 192 (fun n s => (∀ x, x ≠ m + 1 → s x = I x) ∧ (∀ j, ¬ (20 + 192 * l ≤ j ∧ j < 20 + 192 * l + 192) → ¬ (788 + 192 * l ≤ j ∧ j < 788 + 192 * l + 192) → ¬ (1750 + 386 * k ≤ j ∧ j < 1750 + 386 * k + 384) → s (m + 1) j = I (m + 1) j) ∧ ∀ d, d < 192 → s (m + 1) (20 + 192 * l + d) = sw2 (I (m + 1) (1749 + 386 * k)) n d (I (m + 1) (20 + 192 * l + d)) (I (m + 1) (1750 + 386 * k + d)) ∧ s (m + 1) (788 + 192 * l + d) = sw2 (I (m + 1) (1749 + 386 * k)) n d (I (m + 1) (788 + 192 * l + d)) (I (m + 1) (1942 + 386 * k + d)) ∧ s (m + 1) (1750 + 386 * k + d) = sw2 (I (m + 1) (1749 + 386 * k)) n d (I (m + 1) (1750 + 386 * k + d)) (I (m + 1) (20 + 192 * l + d)) ∧ s (m + 1) (1942 + 386 * k + d) = sw2 (I (m + 1) (1749 + 386 * k)) n d (I (m + 1) (1942 + 386 * k + d)) (I (m + 1) (788 + 192 * l + d))) (fun s => (∀ x, x ≠ m + 1 → s x = I x) ∧ (∀ j, ¬ (20 + 192 * l ≤ j ∧ j < 20 + 192 * l + 192) → ¬ (788 + 192 * l ≤ j ∧ j < 788 + 192 * l + 192) → ¬ (1750 + 386 * k ≤ j ∧ j < 1750 + 386 * k + 384) → s (m + 1) j = I (m + 1) j) ∧ ∀ d, d < 192 → s (m + 1) (20 + 192 * l + d) = sw2 (I (m + 1) (1749 + 386 * k)) 192 d (I (m + 1) (20 + 192 * l + d)) (I (m + 1) (1750 + 386 * k + d)) ∧ s (m + 1) (788 + 192 * l + d) = sw2 (I (m + 1) (1749 + 386 * k)) 192 d (I (m + 1) (788 + 192 * l + d)) (I (m + 1) (1942 + 386 * k + d)) ∧ s (m + 1) (1750 + 386 * k + d) = sw2 (I (m + 1) (1749 + 386 * k)) 192 d (I (m + 1) (1750 + 386 * k + d)) (I (m + 1) (20 + 192 * l + d)) ∧ s (m + 1) (1942 + 386 * k + d) = sw2 (I (m + 1) (1749 + 386 * k)) 192 d (I (m + 1) (1942 + 386 * k + d)) (I (m + 1) (788 + 192 * l + d)))
    (fun f s hs => by
      simp only [fn_X10_undo_L75]
      rw [if_pos (show (192 : Int32) ≤ nI 192 from nI_le (a := 192) (Nat.le_refl _) (by omega))]
      exact ok_some.mpr hs)
    (fun f n s hn hs kk => by
      simp only [fn_X10_undo_L75]
      obtain ⟨s0, s1, s2⟩ := hs
      have hbit : s (m + 1) (1749 + 386 * k) = I (m + 1) (1749 + 386 * k) := s1 _ (by omega) (by omega) (by omega)
      rw [if_neg (show ¬ (192 : Int32) ≤ nI n from nI_ge (b := 192) hn (by omega)), a1, gd_pos (vp_g hM (by omega)), e_tileOf, Option.bind_some, nI_clamp (by omega), hbit, nI_1 n]
      have he := e_bit hb hn
      by_cases h : I (m + 1) (1749 + 386 * k) &&& tbit n = 0
      · rw [if_pos (he.mpr h)]
        exact kk s ⟨s0, s1, fun d hd => by rw [sw2_b h, sw2_b h, sw2_b h, sw2_b h]; exact s2 d hd⟩
      · obtain ⟨t1, t2, t3, t4⟩ := s2 n hn
        rw [sw2_n] at t1 t2 t3 t4
        rw [if_neg (fun e => h (he.mp e)), show (20 : Int32) + (192 : Int32) * nI l + nI n = nI (20 + 192 * l + n) from e_sd 20 l n, show (788 : Int32) + (192 : Int32) * nI l + nI n = nI (788 + 192 * l + n) from e_sd 788 l n, a2, a3, e_swapsOne hM (by omega) (by omega), Option.bind_some, e_swapsOne hM (by omega) (by omega), Option.bind_some]
        obtain ⟨A, hA⟩ : ∃ A, A = up2 (up2 s (m + 1) (20 + 192 * l + n) (s (m + 1) (1750 + 386 * k + n))) (m + 1) (1750 + 386 * k + n) (s (m + 1) (20 + 192 * l + n)) := ⟨_, rfl⟩
        rw [← hA]
        have tA : ∀ j, A (m + 1) j = if j = 1750 + 386 * k + n then s (m + 1) (20 + 192 * l + n) else if j = 20 + 192 * l + n then s (m + 1) (1750 + 386 * k + n) else s (m + 1) j := fun j => by rw [hA]; simp [up2]
        have oA : ∀ x, x ≠ m + 1 → A x = s x := fun x h => by rw [hA, up2_o h, up2_o h]
        have A1 : A (m + 1) (788 + 192 * l + n) = I (m + 1) (788 + 192 * l + n) := by rw [tA, if_neg (by omega), if_neg (by omega)]; exact t2
        have A2 : A (m + 1) (1942 + 386 * k + n) = I (m + 1) (1942 + 386 * k + n) := by rw [tA, if_neg (by omega), if_neg (by omega)]; exact t4
        rw [A1, A2]
        refine kk _ ⟨fun x hx => by rw [up2_o hx, up2_o hx, oA x hx]; exact s0 x hx, fun j j1 j2 j3 => by rw [up2_k (by omega), up2_k (by omega), tA, if_neg (by omega), if_neg (by omega)]; exact s1 j j1 j2 j3, fun d hd => ?_⟩
        obtain ⟨u1, u2, u3, u4⟩ := s2 d hd
        by_cases hdn : d = n
        · subst hdn
          refine ⟨?_, ?_, ?_, ?_⟩
          · rw [up2_k (by omega), up2_k (by omega), tA, if_neg (by omega), if_pos rfl, sw2_y h]; exact t3
          · rw [up2_k (by omega), up2_s, sw2_y h]
          · rw [up2_k (by omega), up2_k (by omega), tA, if_pos rfl, sw2_y h]; exact t1
          · rw [up2_s, sw2_y h]
        · rw [sw2_k hdn, sw2_k hdn, sw2_k hdn, sw2_k hdn]
          refine ⟨?_, ?_, ?_, ?_⟩
          · rw [up2_k (by omega), up2_k (by omega), tA, if_neg (by omega), if_neg (by omega)]; exact u1
          · rw [up2_k (by omega), up2_k (by omega), tA, if_neg (by omega), if_neg (by omega)]; exact u2
          · rw [up2_k (by omega), up2_k (by omega), tA, if_neg (by omega), if_neg (by omega)]; exact u3
          · rw [up2_k (by omega), up2_k (by omega), tA, if_neg (by omega), if_neg (by omega)]; exact u4)
    FU 0 I (Nat.zero_le _) (FU_lt (by omega)) ⟨fun _ _ => rfl, fun _ _ _ _ => rfl, fun d _ => by rw [sw2_0, sw2_0, sw2_0, sw2_0]; exact ⟨rfl, rfl, rfl, rfl⟩⟩
  obtain ⟨s, h1, h2⟩ := key
  exact ⟨s, h1, h2⟩
