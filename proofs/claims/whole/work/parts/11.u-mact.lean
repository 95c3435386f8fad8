/-! the model's act: begun, ended -/
theorem e_looksFree {K N : Nat → Nat} {I : Nat → Nat → Int32} {P : Nat → Nat → Option Nat} {m n : Nat} (hM : ModSh K N P m) (hn : n < 2 ^ 31) (h : fn_X10_masked K N I P m = some (nI n)) : fn_X10_looksFree K N I P m = some (up2 I m 3 (if n = 0 then 1 else 0)) := by
  unfold fn_X10_looksFree
  rw [h, Option.bind_some, gd_pos hM.1.1]
  by_cases c : n = 0
  · rw [if_pos (by rw [c]; rfl), if_pos c, Option.bind_some]
  · rw [if_neg (show ¬ nI n = 0 from fun e => c ((nI_eq (b := 0) hn (by decide)).mp e)), if_neg c, Option.bind_some]
theorem e_mbegin {K N : Nat → Nat} {I : Nat → Nat → Int32} {P : Nat → Nat → Option Nat} {m l n : Nat} (hM : ModSh K N P m) (hl : l < 4) (hn : n < 2 ^ 31) (h : fn_X10_masked K N I P m = some (nI n)) : ∃ B, fn_X10_beginsAct K N I P m (nI l) = some B ∧ (∀ a, a ≠ m → a ≠ m + 4 → B a = I a) ∧ (∀ j, B m j = if j = 3 then (if n = 0 then 1 else 0) else I m j) ∧ ∀ d, d < 192 → B (m + 4) d = I (m + 1) (20 + 192 * l + d) ∧ B (m + 4) (192 + d) = I (m + 1) (788 + 192 * l + d) := by
  have k4 : K (m + 4) = 12 := hM.1.2.2.2.2.1
  have n4 : N (m + 4) = 384 := hM.2.1.2.2.2.1
  have p4 : P m 15 = some (m + 4) := hM.2.2.2.2.2.1
  have g4 : ∀ j, j < 384 → (K (m + 4) = 12 ∧ vp_in (nI j) (N (m + 4))) := fun j hj => ⟨k4, by rw [n4]; exact vp_in_nI hj (by decide)⟩
  obtain ⟨Z, hZ⟩ : ∃ Z, Z = up2 I m 3 (if n = 0 then 1 else 0) := ⟨_, rfl⟩
  have oZ : ∀ a, a ≠ m → Z a = I a := fun a h => by rw [hZ, up2_o h]
  have tZ : ∀ j, Z m j = if j = 3 then (if n = 0 then 1 else 0) else I m j := fun j => by rw [hZ]; simp [up2]
  have key := loop_ok (F := fun f v s => fn_X10_beginsAct_L6 K N m (nI l) P f (nI v) s) 192 (fun v s => (∀ a, a ≠ m + 4 → s a = Z a) ∧ ∀ d, d < v → s (m + 4) d = Z (m + 1) (20 + 192 * l + d) ∧ s (m + 4) (192 + d) = Z (m + 1) (788 + 192 * l + d)) (fun s => (∀ a, a ≠ m + 4 → s a = Z a) ∧ ∀ d, d < 192 → s (m + 4) d = Z (m + 1) (20 + 192 * l + d) ∧ s (m + 4) (192 + d) = Z (m + 1) (788 + 192 * l + d))
    (fun f s hs => by
      simp only [fn_X10_beginsAct_L6]
      rw [if_pos (show (192 : Int32) ≤ nI 192 from nI_le (a := 192) (Nat.le_refl _) (by omega))]
      exact ok_some.mpr hs)
    (fun f v s hv hs kk => by
      simp only [fn_X10_beginsAct_L6]
      obtain ⟨s1, s2⟩ := hs
      rw [if_neg (show ¬ (192 : Int32) ≤ nI v from nI_ge (b := 192) hv (by omega)), p4, Option.bind_some, hM.2.2.1, Option.bind_some, show (20 : Int32) + (192 : Int32) * nI l + nI v = nI (20 + 192 * l + v) from e_sd 20 l v, show (788 : Int32) + (192 : Int32) * nI l + nI v = nI (788 + 192 * l + v) from e_sd 788 l v, show (192 : Int32) + nI v = nI (192 + v) from nI_add 192 v, gd_pos (vp_g hM (by omega)), gd_pos (g4 v (by omega)), Option.bind_some, gd_pos (vp_g hM (by omega)), gd_pos (g4 (192 + v) (by omega)), Option.bind_some, nI_clamp (by omega), nI_clamp (by omega), nI_clamp (by omega), nI_clamp (by omega), nI_1 v, up2_o (show m + 1 ≠ m + 4 by omega), s1 (m + 1) (by omega)]
      refine kk _ ⟨fun a ha => by rw [up2_o ha, up2_o ha]; exact s1 a ha, fun d hd => ?_⟩
      by_cases h : d = v
      · subst h
        exact ⟨by rw [up2_k (by omega), up2_s], by rw [up2_s]⟩
      · exact ⟨by rw [up2_k (by omega), up2_k (by omega)]; exact (s2 d (by omega)).1, by rw [up2_k (by omega), up2_k (by omega)]; exact (s2 d (by omega)).2⟩)
    FU 0 Z (Nat.zero_le _) (FU_lt (by omega)) ⟨fun _ _ => rfl, fun d hd => absurd hd (by omega)⟩
  obtain ⟨B, h1, h2, h3⟩ := key
  have h1 : fn_X10_beginsAct_L6 K N m (nI l) P FU 0 Z = some B := h1
  refine ⟨B, ?_, fun a x y => by rw [h2 a y, oZ a x], fun j => by rw [h2 m (by omega), tZ], fun d hd => by rw [← oZ (m + 1) (by omega)]; exact h3 d hd⟩
  unfold fn_X10_beginsAct
  rw [e_looksFree hM hn h, Option.bind_some, gd_pos hM.1.1, ← hZ, h1, Option.bind_some]
theorem e_mtiles {K N : Nat → Nat} {s : Nat → Nat → Int32} {P : Nat → Nat → Option Nat} {m l : Nat} {i0 o0 i1 o1 : Nat → Int32} (hM : ModSh K N P m) (hl : l < 4) (hb : ∀ d, d < 192 → s (m + 4) d = i0 d ∧ s (m + 4) (192 + d) = o0 d) (hg : ∀ d, d < 192 → s (m + 1) (20 + 192 * l + d) = i1 d ∧ s (m + 1) (788 + 192 * l + d) = o1 d) : fn_X10_endsAct_L4 K N m (nI l) s P FU 0 0 = some (tb i0 o0 i1 o1 192) := by
  have k4 : K (m + 4) = 12 := hM.1.2.2.2.2.1
  have n4 : N (m + 4) = 384 := hM.2.1.2.2.2.1
  have p4 : P m 15 = some (m + 4) := hM.2.2.2.2.2.1
  have g4 : ∀ j, j < 384 → (K (m + 4) = 12 ∧ vp_in (nI j) (N (m + 4))) := fun j hj => ⟨k4, by rw [n4]; exact vp_in_nI hj (by decide)⟩
  have key := loop_ok (F := fun f v z => fn_X10_endsAct_L4 K N m (nI l) s P f z (nI v)) 192 (fun v z => z = tb i0 o0 i1 o1 v) (fun z => z = tb i0 o0 i1 o1 192)
    (fun f z hz => by
      simp only [fn_X10_endsAct_L4]
      rw [if_pos (show (192 : Int32) ≤ nI 192 from nI_le (a := 192) (Nat.le_refl _) (by omega))]
      exact ok_some.mpr hz)
    (fun f v z hv hz kk => by
      simp only [fn_X10_endsAct_L4]
      obtain ⟨b1, b2⟩ := hb v hv
      obtain ⟨c1, c2⟩ := hg v hv
      have o0' : z ||| (0 : Int32) = z := Int32.or_zero
      rw [if_neg (show ¬ (192 : Int32) ≤ nI v from nI_ge (b := 192) hv (by omega)), gd_pos hM.1.1, p4, Option.bind_some, gd_pos (g4 v (by omega)), hM.2.2.1, Option.bind_some, show (20 : Int32) + (192 : Int32) * nI l + nI v = nI (20 + 192 * l + v) from e_sd 20 l v, show (788 : Int32) + (192 : Int32) * nI l + nI v = nI (788 + 192 * l + v) from e_sd 788 l v, show (192 : Int32) + nI v = nI (192 + v) from nI_add 192 v, gd_pos (vp_g hM (by omega)), gd_pos (vp_g hM (by omega)), gd_pos (g4 (192 + v) (by omega)), nI_clamp (by omega), nI_clamp (by omega), nI_clamp (by omega), nI_clamp (by omega), nI_1 v, b1, b2, c1, c2, o0', e_tileOf, Option.bind_some, Option.bind_some, Option.bind_some]
      have diff : ¬ (i0 v = i1 v ∧ o0 v = o1 v) → ok (fn_X10_endsAct_L4 K N m (nI l) s P f (z ||| (1 : Int32) <<< (tl v &&& 31)) (nI (v + 1))) (fun z => z = tb i0 o0 i1 o1 192) := fun h => kk _ (by rw [hz, tb_s, if_neg h]; rfl)
      by_cases h1 : i0 v = i1 v
      · rw [if_pos h1]
        by_cases h2 : o0 v = o1 v
        · rw [if_pos h2]; exact kk _ (by rw [hz, tb_s, if_pos ⟨h1, h2⟩])
        · rw [if_neg h2]; exact diff (fun e => h2 e.2)
      · rw [if_neg h1]; exact diff (fun e => h1 e.1))
    FU 0 0 (Nat.zero_le _) (FU_lt (by omega)) rfl
  obtain ⟨r, h1, h2⟩ := key
  rw [← h2]; exact h1
/-- the acts moved down by one -/
theorem e_mshift {K N : Nat → Nat} {s : Nat → Nat → Int32} {P : Nat → Nat → Option Nat} {m : Nat} (hM : ModSh K N P m) : ∃ s', fn_X10_endsAct_L102 K N (m + 1) FU 0 s = some s' ∧ (∀ a, a ≠ m + 1 → s' a = s a) ∧ ∀ j, s' (m + 1) j = if 1748 ≤ j ∧ j < 1748 + 3474 then s (m + 1) (j + 386) else s (m + 1) j := by
  have key := loop_ok (F := fun f v z => fn_X10_endsAct_L102 K N (m + 1) f (nI v) z) 3474 (fun v z => (∀ a, a ≠ m + 1 → z a = s a) ∧ ∀ j, z (m + 1) j = if 1748 ≤ j ∧ j < 1748 + v then s (m + 1) (j + 386) else s (m + 1) j) (fun z => (∀ a, a ≠ m + 1 → z a = s a) ∧ ∀ j, z (m + 1) j = if 1748 ≤ j ∧ j < 1748 + 3474 then s (m + 1) (j + 386) else s (m + 1) j)
    (fun f z hz => by
      simp only [fn_X10_endsAct_L102]
      rw [if_pos (show (3474 : Int32) ≤ nI 3474 from nI_le (a := 3474) (Nat.le_refl _) (by omega))]
      exact ok_some.mpr hz)
    (fun f v z hv hz kk => by
      simp only [fn_X10_endsAct_L102]
      rw [if_neg (show ¬ (3474 : Int32) ≤ nI v from nI_ge (b := 3474) hv (by omega)), show (2134 : Int32) + nI v = nI (2134 + v) from nI_add 2134 v, show (1748 : Int32) + nI v = nI (1748 + v) from nI_add 1748 v, gd_pos (vp_g hM (by omega)), gd_pos (vp_g hM (by omega)), Option.bind_some, nI_clamp (by omega), nI_clamp (by omega), nI_1 v]
      refine kk _ ⟨fun a ha => by rw [up2_o ha]; exact hz.1 a ha, fun j => ?_⟩
      by_cases h : j = 1748 + v
      · rw [h, up2_s, hz.2, if_neg (by omega), if_pos (by omega)]; congr 1; omega
      · rw [up2_k h, hz.2]
        by_cases c : 1748 ≤ j ∧ j < 1748 + v
        · rw [if_pos c, if_pos (by omega)]
        · rw [if_neg c, if_neg (by omega)])
    FU 0 s (Nat.zero_le _) (FU_lt (by omega)) ⟨fun _ _ => rfl, fun j => by rw [if_neg (by omega)]⟩
  obtain ⟨r, h1, h2⟩ := key
  exact ⟨r, h1, h2⟩
theorem e_mput {K N : Nat → Nat} {s : Nat → Nat → Int32} {P : Nat → Nat → Option Nat} {m k : Nat} (hM : ModSh K N P m) (hk : k < 10) : ∃ s', fn_X10_endsAct_L181 K N m P (m + 1) (nI (1748 + 386 * k)) FU 0 s = some s' ∧ (∀ a, a ≠ m + 1 → s' a = s a) ∧ ∀ j, s' (m + 1) j = if 1750 + 386 * k ≤ j ∧ j < 1750 + 386 * k + 384 then s (m + 4) (j - (1750 + 386 * k)) else s (m + 1) j := by
  have k4 : K (m + 4) = 12 := hM.1.2.2.2.2.1
  have n4 : N (m + 4) = 384 := hM.2.1.2.2.2.1
  have p4 : P m 15 = some (m + 4) := hM.2.2.2.2.2.1
  have g4 : ∀ j, j < 384 → (K (m + 4) = 12 ∧ vp_in (nI j) (N (m + 4))) := fun j hj => ⟨k4, by rw [n4]; exact vp_in_nI hj (by decide)⟩
  have a2 : ∀ v, nI (1748 + 386 * k) + (2 : Int32) + nI v = nI (1750 + 386 * k + v) := fun v => by
    rw [show (2 : Int32) = nI 2 from rfl, nI_add, nI_add]; congr 1; omega
  have key := loop_ok (F := fun f v z => fn_X10_endsAct_L181 K N m P (m + 1) (nI (1748 + 386 * k)) f (nI v) z) 384 (fun v z => (∀ a, a ≠ m + 1 → z a = s a) ∧ ∀ j, z (m + 1) j = if 1750 + 386 * k ≤ j ∧ j < 1750 + 386 * k + v then s (m + 4) (j - (1750 + 386 * k)) else s (m + 1) j) (fun z => (∀ a, a ≠ m + 1 → z a = s a) ∧ ∀ j, z (m + 1) j = if 1750 + 386 * k ≤ j ∧ j < 1750 + 386 * k + 384 then s (m + 4) (j - (1750 + 386 * k)) else s (m + 1) j)
    (fun f z hz => by
      simp only [fn_X10_endsAct_L181]
      rw [if_pos (show (384 : Int32) ≤ nI 384 from nI_le (a := 384) (Nat.le_refl _) (by omega))]
      exact ok_some.mpr hz)
    (fun f v z hv hz kk => by
      simp only [fn_X10_endsAct_L181]
      rw [if_neg (show ¬ (384 : Int32) ≤ nI v from nI_ge (b := 384) hv (by omega)), p4, Option.bind_some, gd_pos (g4 v hv), a2, gd_pos (vp_g hM (by omega)), Option.bind_some, nI_clamp (by omega), nI_clamp (by omega), nI_1 v, hz.1 (m + 4) (by omega)]
      refine kk _ ⟨fun a ha => by rw [up2_o ha]; exact hz.1 a ha, fun j => ?_⟩
      by_cases h : j = 1750 + 386 * k + v
      · rw [h, up2_s, if_pos (by omega)]; congr 1; omega
      · rw [up2_k h, hz.2]
        by_cases c : 1750 + 386 * k ≤ j ∧ j < 1750 + 386 * k + v
        · rw [if_pos c, if_pos (by omega)]
        · rw [if_neg c, if_neg (by omega)])
    FU 0 s (Nat.zero_le _) (FU_lt (by omega)) ⟨fun _ _ => rfl, fun j => by rw [if_neg (by omega)]⟩
  obtain ⟨r, h1, h2⟩ := key
  exact ⟨r, h1, h2⟩
theorem e_mend {K N : Nat → Nat} {s : Nat → Nat → Int32} {P : Nat → Nat → Option Nat} {m l kp : Nat} {i0 o0 i1 o1 : Nat → Int32} (hM : ModSh K N P m) (hl : l < 4) (hkp : kp ≤ 10) (hb : ∀ d, d < 192 → s (m + 4) d = i0 d ∧ s (m + 4) (192 + d) = o0 d) (hg : ∀ d, d < 192 → s (m + 1) (20 + 192 * l + d) = i1 d ∧ s (m + 1) (788 + 192 * l + d) = o1 d) (h6 : s (m + 1) 6 = nI kp) : ∃ s', fn_X10_endsAct K N s P m (nI l) = some s' ∧ (tb i0 o0 i1 o1 192 = 0 → s' = s) ∧ (tb i0 o0 i1 o1 192 ≠ 0 → (∀ a, a ≠ m + 1 → s' a = s a) ∧ (∀ j, j < 1748 → j ≠ 6 → j ≠ 7 → s' (m + 1) j = s (m + 1) j) ∧ (s' (m + 1) 6 = nI (nkp kp + 1) ∧ s' (m + 1) 7 = nI (nkp kp + 1)) ∧ (∀ k r, k < nkp kp → r < 386 → s' (m + 1) (1748 + 386 * k + r) = s (m + 1) (1748 + 386 * (if kp < 10 then k else k + 1) + r)) ∧ s' (m + 1) (1748 + 386 * nkp kp) = nI l ∧ s' (m + 1) (1749 + 386 * nkp kp) = tb i0 o0 i1 o1 192 ∧ ∀ d, d < 192 → s' (m + 1) (1750 + 386 * nkp kp + d) = i0 d ∧ s' (m + 1) (1942 + 386 * nkp kp + d) = o0 d) := by
  unfold fn_X10_endsAct
  rw [e_mtiles hM hl hb hg, Option.bind_some]
  by_cases b0 : tb i0 o0 i1 o1 192 = 0
  · rw [if_pos b0]; exact ⟨s, rfl, fun _ => rfl, fun h => absurd b0 h⟩
  have hn : nkp kp < 10 := by unfold nkp; split <;> omega
  have v6 : K (m + 1) = 12 ∧ vp_in (6 : Int32) (N (m + 1)) := vp_g hM (j := 6) (by decide)
  have v7 : K (m + 1) = 12 ∧ vp_in (7 : Int32) (N (m + 1)) := vp_g hM (j := 7) (by decide)
  suffices h : ∃ A, (if s (m + 1) 6 = (10 : Int32) then Option.bind (fn_X10_endsAct_L102 K N (m + 1) FU 0 s) (fun r43 => Option.bind (some (up2 r43 (m + 1) 6 (r43 (m + 1) 6 - 1))) (fun I48 => some I48)) else some s) = some A ∧ (∀ a, a ≠ m + 1 → A a = s a) ∧ A (m + 1) 6 = nI (nkp kp) ∧ (∀ j, j < 1748 → j ≠ 6 → A (m + 1) j = s (m + 1) j) ∧ ∀ k r, k < nkp kp → r < 386 → A (m + 1) (1748 + 386 * k + r) = s (m + 1) (1748 + 386 * (if kp < 10 then k else k + 1) + r) by
    obtain ⟨A, e1, e2, e3, e4, e5⟩ := h
    rw [if_neg b0, gd_pos hM.1.1, hM.2.2.1, Option.bind_some, gd_pos v6, e1, Option.bind_some, e3, show (386 : Int32) = nI 386 from rfl, show (1748 : Int32) = nI 1748 from rfl, pk_mul, nI_add, Option.bind_some, gd_pos (vp_g hM (by omega)), Option.bind_some, nI_1, gd_pos (vp_g hM (by omega)), Option.bind_some, nI_clamp (by omega), nI_clamp (by omega)]
    obtain ⟨B, hB⟩ : ∃ B, B = up2 (up2 A (m + 1) (1748 + 386 * nkp kp) (nI l)) (m + 1) (1748 + 386 * nkp kp + 1) (tb i0 o0 i1 o1 192) := ⟨_, rfl⟩
    rw [← hB]
    have oB : ∀ a, a ≠ m + 1 → B a = A a := fun a h => by rw [hB, up2_o h, up2_o h]
    have tB : ∀ j, B (m + 1) j = if j = 1748 + 386 * nkp kp + 1 then tb i0 o0 i1 o1 192 else if j = 1748 + 386 * nkp kp then nI l else A (m + 1) j := fun j => by rw [hB]; simp [up2]
    obtain ⟨C, c1, c2, c3⟩ := e_mput (s := B) hM hn
    rw [c1, Option.bind_some]
    have c6 : C (m + 1) 6 = nI (nkp kp) := by rw [c3, if_neg (by omega), tB, if_neg (by omega), if_neg (by omega)]; exact e3
    rw [c6, nI_1, Option.bind_some, gd_pos v7, Option.bind_some, up2_s]
    obtain ⟨D, hD⟩ : ∃ D, D = up2 (up2 C (m + 1) 6 (nI (nkp kp + 1))) (m + 1) 7 (nI (nkp kp + 1)) := ⟨_, rfl⟩
    rw [← hD]
    have oD : ∀ a, a ≠ m + 1 → D a = C a := fun a h => by rw [hD, up2_o h, up2_o h]
    have tD : ∀ j, D (m + 1) j = if j = 7 then nI (nkp kp + 1) else if j = 6 then nI (nkp kp + 1) else C (m + 1) j := fun j => by rw [hD]; simp [up2]
    refine ⟨D, rfl, fun h => absurd h b0, fun _ => ⟨fun a h => by rw [oD a h, c2 a h, oB a h, e2 a h], fun j h1 h2 h3 => by rw [tD, if_neg h3, if_neg h2, c3, if_neg (by omega), tB, if_neg (by omega), if_neg (by omega), e4 j h1 h2], ⟨by rw [tD]; rfl, by rw [tD]; rfl⟩, fun k r hk hr => ?_, ?_, ?_, fun d hd => ⟨?_, ?_⟩⟩⟩
    · rw [tD, if_neg (by omega), if_neg (by omega), c3, if_neg (by omega), tB, if_neg (by omega), if_neg (by omega)]; exact e5 k r hk hr
    · rw [tD, if_neg (by omega), if_neg (by omega), c3, if_neg (by omega), tB, if_neg (by omega), if_pos rfl]
    · rw [tD, if_neg (by omega), if_neg (by omega), c3, if_neg (by omega), tB, if_pos (by omega)]
    · rw [tD, if_neg (by omega), if_neg (by omega), c3, if_pos (by omega), oB _ (by omega), e2 _ (by omega), ← (hb d hd).1]; congr 1; omega
    · rw [tD, if_neg (by omega), if_neg (by omega), c3, if_pos (by omega), oB _ (by omega), e2 _ (by omega), ← (hb d hd).2]; congr 1; omega
  by_cases h : kp < 10
  · have ne : ¬ s (m + 1) 6 = 10 := fun e => by rw [h6] at e; have := (nI_eq (b := 10) (by omega) (by decide)).mp e; omega
    refine ⟨s, by rw [if_neg ne], fun _ _ => rfl, by rw [h6]; unfold nkp; rw [if_pos h], fun _ _ _ => rfl, fun k r _ _ => by rw [if_pos h]⟩
  · have hk10 : kp = 10 := by omega
    have e10 : s (m + 1) 6 = 10 := by rw [h6, hk10]; rfl
    obtain ⟨Z, z1, z2, z3⟩ := e_mshift (s := s) hM
    have z6 : Z (m + 1) 6 - 1 = 9 := by rw [z3, if_neg (by omega), e10]; rfl
    refine ⟨_, by rw [if_pos e10, z1, Option.bind_some, Option.bind_some], fun a h => by rw [up2_o h]; exact z2 a h, ?_, fun j h1 h2 => by rw [up2_k h2, z3, if_neg (by omega)], fun k r hk hr => ?_⟩
    · rw [up2_s, z6]; unfold nkp; rw [if_neg h]; rfl
    · have hk9 : k < 9 := by unfold nkp at hk; rw [if_neg h] at hk; exact hk
      rw [up2_k (by omega), z3, if_pos (by omega), if_neg h]; congr 1; omega
