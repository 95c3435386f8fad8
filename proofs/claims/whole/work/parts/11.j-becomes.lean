/-! a picture becomes another -/
def LayC (s : Nat → Nat → Int32) (q : Nat) (I : Nat → Nat → Int32) (q' : Nat) : Prop := s q 2 = I q' 2 ∧ s q 3 = I q' 3 ∧ s q 4 = I q' 4 ∧ ∀ d, d < 192 → s (q + 1) d = I (q' + 1) d ∧ s (q + 2) d = I (q' + 2) d
def ActC (s : Nat → Nat → Int32) (q : Nat) (I : Nat → Nat → Int32) (q' : Nat) : Prop := s q 0 = I q' 0 ∧ s q 1 = I q' 1 ∧ ∀ d, d < 192 → s (q + 1) d = I (q' + 1) d ∧ s (q + 2) d = I (q' + 2) d
theorem cp_all {I : Nat → Nat → Int32} {a0 a1 d : Nat} (hd : d < 192) : cp2 I a0 0 a1 0 192 a1 d = I a0 d := by
  rw [cp2_row]
  show (if 0 ≤ d ∧ d < 0 + 192 then I a0 (0 + (d - 0)) else I a1 d) = I a0 d
  rw [if_pos (by omega)]; congr 1; omega
theorem cpg_all {K N : Nat → Nat} {a0 a1 : Nat} (k0 : K a0 = 12) (n0 : N a0 = 192) (k1 : K a1 = 12) (n1 : N a1 = 192) : cpg K N a0 (0 : Int32) a1 (0 : Int32) (192 : Int32) := by
  refine ⟨k0, k1, by decide, by decide, by decide, ?_, ?_⟩
  · rw [n0]; decide
  · rw [n1]; decide
theorem e_layBecome {K N : Nat → Nat} {I : Nat → Nat → Int32} {P : Nat → Nat → Option Nat} {q q' : Nat} (hL : LaySh K N P q) (hL' : LaySh K N P q') (hd : q + 2 < q' ∨ q' + 2 < q) : ∃ I', fn_X4_become K N I P q q' = some I' ∧ (∀ a, ¬ (q ≤ a ∧ a < q + 3) → I' a = I a) ∧ LayC I' q I q' := by
  obtain ⟨k0, k1, n1, k2, n2, p0, p1⟩ := hL
  obtain ⟨k0', k1', n1', k2', n2', p0', p1'⟩ := hL'
  obtain ⟨A, hA⟩ : ∃ A, A = cp2 I (q' + 1) 0 (q + 1) 0 192 := ⟨_, rfl⟩
  obtain ⟨B, hB⟩ : ∃ B, B = cp2 A (q' + 2) 0 (q + 2) 0 192 := ⟨_, rfl⟩
  obtain ⟨C, hC⟩ : ∃ C, C = up2 (up2 (up2 B q 2 (B q' 2)) q 3 (B q' 3)) q 4 (B q' 4) := ⟨_, rfl⟩
  have oA : ∀ a, a ≠ q + 1 → A a = I a := fun a h => by rw [hA]; exact cp2_ne I _ _ _ _ h
  have oB : ∀ a, a ≠ q + 2 → B a = A a := fun a h => by rw [hB]; exact cp2_ne A _ _ _ _ h
  have oC : ∀ a, a ≠ q → C a = B a := fun a h => by rw [hC, up2_o h, up2_o h, up2_o h]
  have tC : ∀ j, C q j = if j = 4 then B q' 4 else if j = 3 then B q' 3 else if j = 2 then B q' 2 else B q j := fun j => by rw [hC]; simp [up2]
  have bq : B q' = I q' := by rw [oB _ (by omega), oA _ (by omega)]
  refine ⟨C, ?_, fun a h => by rw [oC a (by omega), oB a (by omega), oA a (by omega)], ?_, ?_, ?_, fun d hd => ⟨?_, ?_⟩⟩
  · unfold fn_X4_become
    rw [gd_pos k0', p0', Option.bind_some, gd_pos k0, p0, Option.bind_some, gd_pos (cpg_all k1' n1' k1 n1), Option.bind_some, p1', Option.bind_some, p1, Option.bind_some, gd_pos (cpg_all k2' n2' k2 n2), Option.bind_some, ← hA, ← hB]
    unfold fn_X4_wear
    rw [gd_pos k0, Option.bind_some, Option.bind_some, Option.bind_some, Option.bind_some, ← hC]
  · rw [tC, if_neg (by decide), if_neg (by decide), if_pos rfl, bq]
  · rw [tC, if_neg (by decide), if_pos rfl, bq]
  · rw [tC, if_pos rfl, bq]
  · rw [oC _ (by omega), oB _ (by omega), hA, cp_all hd]
  · rw [oC _ (by omega), hB, cp_all hd, oA _ (by omega)]
theorem e_actBecome {K N : Nat → Nat} {I : Nat → Nat → Int32} {P : Nat → Nat → Option Nat} {q q' : Nat} (hL : ActSh K N P q) (hL' : ActSh K N P q') (hd : q + 2 < q' ∨ q' + 2 < q) : ∃ I', fn_X0_become K N I P q q' = some I' ∧ (∀ a, ¬ (q ≤ a ∧ a < q + 3) → I' a = I a) ∧ ActC I' q I q' := by
  obtain ⟨k0, k1, n1, k2, n2, p0, p1⟩ := hL
  obtain ⟨k0', k1', n1', k2', n2', p0', p1'⟩ := hL'
  obtain ⟨Z, hZ⟩ : ∃ Z, Z = up2 I q 0 (I q' 0) := ⟨_, rfl⟩
  obtain ⟨C, hC⟩ : ∃ C, C = up2 Z q 1 (Z q' 1) := ⟨_, rfl⟩
  obtain ⟨A, hA⟩ : ∃ A, A = cp2 C (q' + 1) 0 (q + 1) 0 192 := ⟨_, rfl⟩
  obtain ⟨B, hB⟩ : ∃ B, B = cp2 A (q' + 2) 0 (q + 2) 0 192 := ⟨_, rfl⟩
  have oA : ∀ a, a ≠ q + 1 → A a = C a := fun a h => by rw [hA]; exact cp2_ne C _ _ _ _ h
  have oB : ∀ a, a ≠ q + 2 → B a = A a := fun a h => by rw [hB]; exact cp2_ne A _ _ _ _ h
  have oZ : ∀ a, a ≠ q → Z a = I a := fun a h => by rw [hZ, up2_o h]
  have oC : ∀ a, a ≠ q → C a = I a := fun a h => by rw [hC, up2_o h, oZ a h]
  have tC : ∀ j, C q j = if j = 1 then Z q' 1 else Z q j := fun j => by rw [hC]; simp [up2]
  have tZ : ∀ j, Z q j = if j = 0 then I q' 0 else I q j := fun j => by rw [hZ]; simp [up2]
  refine ⟨B, ?_, fun a h => by rw [oB a (by omega), oA a (by omega), oC a (by omega)], ?_, ?_, fun d hd => ⟨?_, ?_⟩⟩
  · unfold fn_X0_become
    rw [gd_pos k0', gd_pos k0, Option.bind_some, Option.bind_some, p0', Option.bind_some, p0, Option.bind_some, gd_pos (cpg_all k1' n1' k1 n1), Option.bind_some, p1', Option.bind_some, p1, Option.bind_some, gd_pos (cpg_all k2' n2' k2 n2), Option.bind_some, ← hZ, ← hC, ← hA, ← hB]
  · rw [oB _ (by omega), oA _ (by omega), tC, if_neg (by decide), tZ, if_pos rfl]
  · rw [oB _ (by omega), oA _ (by omega), tC, if_pos rfl, oZ _ (by omega)]
  · rw [oB _ (by omega), hA, cp_all hd, oC _ (by omega)]
  · rw [hB, cp_all hd, oA _ (by omega), oC _ (by omega)]
/-- far apart: two pictures -/
def Apart (c c' : Nat) : Prop := c + 52 ≤ c' ∨ c' + 52 ≤ c
theorem e_laysBecome {K N : Nat → Nat} {I : Nat → Nat → Int32} {P : Nat → Nat → Option Nat} {c c' : Nat} {σ σ' : Nat → Nat} (hP : PicSh K N P c) (hP' : PicSh K N P c') (hd : Apart c c') (hσ : Perm 4 σ) (hσ' : Perm 4 σ') (hl : ∀ i, i < 4 → P (c + 1) i = some (c + 40 + 3 * σ i)) (hl' : ∀ i, i < 4 → P (c' + 1) i = some (c' + 40 + 3 * σ' i)) : ∃ I', fn_X6_become_L2 K N c c' P FU 0 I = some I' ∧ (∀ a, ¬ (c + 40 ≤ a ∧ a < c + 52) → I' a = I a) ∧ ∀ i, i < 4 → LayC I' (c + 40 + 3 * σ i) I (c' + 40 + 3 * σ' i) := by
  obtain ⟨⟨k0, k1, n1, -⟩, ⟨p0, -⟩, -, hsh⟩ := hP
  obtain ⟨⟨k0', k1', n1', -⟩, ⟨p0', -⟩, -, hsh'⟩ := hP'
  unfold Apart at hd
  have key := loop_ok (F := fun f i s => fn_X6_become_L2 K N c c' P f (nI i) s) 4 (fun i s => (∀ a, ¬ (c + 40 ≤ a ∧ a < c + 52) → s a = I a) ∧ ∀ l, l < i → LayC s (c + 40 + 3 * σ l) I (c' + 40 + 3 * σ' l)) (fun s => (∀ a, ¬ (c + 40 ≤ a ∧ a < c + 52) → s a = I a) ∧ ∀ l, l < 4 → LayC s (c + 40 + 3 * σ l) I (c' + 40 + 3 * σ' l))
    (fun f s hs => by
      simp only [fn_X6_become_L2]
      rw [if_pos (show (4 : Int32) ≤ nI 4 from nI_le (a := 4) (Nat.le_refl _) (by omega))]
      exact ok_some.mpr hs)
    (fun f i s hi hs kk => by
      simp only [fn_X6_become_L2]
      obtain ⟨s1, s2⟩ := hs
      have m1 := hσ.1 i hi
      have m2 := hσ'.1 i hi
      obtain ⟨s', w1, w2, w3⟩ := e_layBecome (I := s) (hsh _ m1) (hsh' _ m2) (by omega)
      rw [if_neg (show ¬ (4 : Int32) ≤ nI i from nI_ge (b := 4) hi (by omega)), gd_pos k0, p0, Option.bind_some, gd_pos ⟨k1, by rw [n1]; exact vp_in_nI hi (by omega)⟩, nI_clamp (by omega), hl i hi, Option.bind_some, gd_pos k0', p0', Option.bind_some, gd_pos ⟨k1', by rw [n1']; exact vp_in_nI hi (by omega)⟩, hl' i hi, Option.bind_some, w1, Option.bind_some, gd_pos (hsh _ m1).1, nI_1]
      refine kk _ ⟨fun a ha => (w2 a (by omega)).trans (s1 a ha), fun l hl2 => ?_⟩
      by_cases hli : l = i
      · subst hli
        unfold LayC at w3 ⊢
        rw [s1 (c' + 40 + 3 * σ' l) (by omega), s1 (c' + 40 + 3 * σ' l + 1) (by omega), s1 (c' + 40 + 3 * σ' l + 2) (by omega)] at w3
        exact w3
      · have hne : σ l ≠ σ i := fun e => hli (hσ.2 l i (by omega) hi e)
        have hc := s2 l (by omega)
        unfold LayC at hc ⊢
        rw [w2 (c + 40 + 3 * σ l) (by omega), w2 (c + 40 + 3 * σ l + 1) (by omega), w2 (c + 40 + 3 * σ l + 2) (by omega)]
        exact hc)
    FU 0 I (Nat.zero_le _) (FU_lt (by omega)) ⟨fun _ _ => rfl, fun l hl2 => absurd hl2 (by omega)⟩
  obtain ⟨r, h1, h2⟩ := key
  exact ⟨r, h1, h2⟩
theorem e_actsBecome {K N : Nat → Nat} {I : Nat → Nat → Int32} {P : Nat → Nat → Option Nat} {c c' : Nat} {τ τ' : Nat → Nat} (hP : PicSh K N P c) (hP' : PicSh K N P c') (hd : Apart c c') (hτ : Perm 11 τ) (hτ' : Perm 11 τ') (hl : ∀ i, i < 11 → P (c + 6) i = some (c + 7 + 3 * τ i)) (hl' : ∀ i, i < 11 → P (c' + 6) i = some (c' + 7 + 3 * τ' i)) : ∃ I', fn_X1_become_L18 K N (c + 5) (c' + 5) P FU 0 I = some I' ∧ (∀ a, ¬ (c + 7 ≤ a ∧ a < c + 40) → I' a = I a) ∧ ∀ i, i < 10 → ActC I' (c + 7 + 3 * τ i) I (c' + 7 + 3 * τ' i) := by
  obtain ⟨⟨k0, k1, n1, -, -, -, -, k5, k14, n11⟩, ⟨-, -, -, -, -, p0⟩, hsh, -⟩ := hP
  obtain ⟨⟨k0', k1', n1', -, -, -, -, k5', k14', n11'⟩, ⟨-, -, -, -, -, p0'⟩, hsh', -⟩ := hP'
  unfold Apart at hd
  have key := loop_ok (F := fun f i s => fn_X1_become_L18 K N (c + 5) (c' + 5) P f (nI i) s) 10 (fun i s => (∀ a, ¬ (c + 7 ≤ a ∧ a < c + 40) → s a = I a) ∧ ∀ l, l < i → ActC s (c + 7 + 3 * τ l) I (c' + 7 + 3 * τ' l)) (fun s => (∀ a, ¬ (c + 7 ≤ a ∧ a < c + 40) → s a = I a) ∧ ∀ l, l < 10 → ActC s (c + 7 + 3 * τ l) I (c' + 7 + 3 * τ' l))
    (fun f s hs => by
      simp only [fn_X1_become_L18]
      rw [if_pos (show (10 : Int32) ≤ nI 10 from nI_le (a := 10) (Nat.le_refl _) (by omega))]
      exact ok_some.mpr hs)
    (fun f i s hi hs kk => by
      simp only [fn_X1_become_L18]
      obtain ⟨s1, s2⟩ := hs
      have m1 := hτ.1 i (by omega)
      have m2 := hτ'.1 i (by omega)
      obtain ⟨s', w1, w2, w3⟩ := e_actBecome (I := s) (hsh _ m1) (hsh' _ m2) (by omega)
      rw [if_neg (show ¬ (10 : Int32) ≤ nI i from nI_ge (b := 10) hi (by omega)), p0, Option.bind_some, gd_pos ⟨k14, by rw [n11]; exact vp_in_nI (by omega) (by omega)⟩, nI_clamp (by omega), hl i (by omega), Option.bind_some, p0', Option.bind_some, gd_pos ⟨k14', by rw [n11']; exact vp_in_nI (by omega) (by omega)⟩, hl' i (by omega), Option.bind_some, w1, Option.bind_some, gd_pos (hsh _ m1).1, nI_1]
      refine kk _ ⟨fun a ha => (w2 a (by omega)).trans (s1 a ha), fun l hl2 => ?_⟩
      by_cases hli : l = i
      · subst hli
        unfold ActC at w3 ⊢
        rw [s1 (c' + 7 + 3 * τ' l) (by omega), s1 (c' + 7 + 3 * τ' l + 1) (by omega), s1 (c' + 7 + 3 * τ' l + 2) (by omega)] at w3
        exact w3
      · have hne : τ l ≠ τ i := fun e => hli (hτ.2 l i (by omega) (by omega) e)
        have hc := s2 l (by omega)
        unfold ActC at hc ⊢
        rw [w2 (c + 7 + 3 * τ l) (by omega), w2 (c + 7 + 3 * τ l + 1) (by omega), w2 (c + 7 + 3 * τ l + 2) (by omega)]
        exact hc)
    FU 0 I (Nat.zero_le _) (FU_lt (by omega)) ⟨fun _ _ => rfl, fun l hl2 => absurd hl2 (by omega)⟩
  obtain ⟨r, h1, h2⟩ := key
  exact ⟨r, h1, h2⟩
