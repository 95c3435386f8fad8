/-! the model's token -/
noncomputable def hrF (f : Nat → Int32) (fed i : Nat) : Int32 := if fed ≤ i then -1 else f i
theorem e_here {K N : Nat → Nat} {s : Nat → Nat → Int32} {P : Nat → Nat → Option Nat} {m fed i : Nat} (hM : ModSh K N P m) (hfed : fed ≤ 60) (h5 : s m 5 = nI fed) (h6 : s m 6 = nI i) (hi : i ≤ fed) : fn_X10_here K N s P m = some (hrF (s (m + 3)) fed i) := by
  have k3 : K (m + 3) = 12 := hM.1.2.2.2.1
  have n3 : N (m + 3) = 60 := hM.2.1.2.2.1
  have p4 : P m 4 = some (m + 3) := hM.2.2.2.2.1
  unfold fn_X10_here hrF
  rw [gd_pos hM.1.1, h5, h6]
  by_cases c : fed ≤ i
  · rw [if_pos (nI_le c (by omega)), if_pos c]
  · rw [if_neg (nI_ge (by omega) (by omega)), if_neg c, p4, Option.bind_some, gd_pos ⟨k3, by rw [n3]; exact vp_in_nI (by omega) (by omega)⟩, nI_clamp (by omega)]
theorem isIn_dgt (c : Int32) : fn_X10_isIn c 48 57 = some (bI (dgt c)) := e_dgtC c
theorem isIn_ltr (c : Int32) : fn_X10_isIn c 97 122 = some (bI (ltr c)) := e_ltrC c
theorem m1_cls : ¬ blk (-1) ∧ ¬ ltr (-1) ∧ ¬ dgt (-1) := by
  refine ⟨fun h => ?_, fun h => ?_, fun h => ?_⟩
  · rcases h with h | h <;> exact absurd h (by decide)
  · exact absurd h.1 (by decide)
  · exact absurd h.1 (by decide)
theorem skp_hr {pr : Int32 → Prop} {f : Nat → Int32} {fed i : Nat} (hi : i ≤ fed) (hm : ¬ pr (-1)) : (pr (hrF f fed i) → i < fed ∧ skp pr f (fed - i) i = skp pr f (fed - (i + 1)) (i + 1)) ∧ (¬ pr (hrF f fed i) → skp pr f (fed - i) i = i) := by
  unfold hrF
  by_cases c : fed ≤ i
  · rw [if_pos c, show fed - i = 0 by omega]
    exact ⟨fun h => absurd h hm, fun _ => rfl⟩
  · rw [if_neg c, show fed - i = (fed - (i + 1)) + 1 by omega]
    exact ⟨fun h => ⟨by omega, skp_t h⟩, fun h => skp_f h⟩
theorem e_mB {K N : Nat → Nat} {A : Nat → Nat → Int32} {P : Nat → Nat → Option Nat} {m fed p : Nat} (hM : ModSh K N P m) (hfed : fed ≤ 60) (hp : p ≤ fed) (h5 : A m 5 = nI fed) (h6 : A m 6 = nI p) : ∃ s, fn_X10_next_L0 K N m P FU A = some s ∧ (∀ a, a ≠ m → s a = A a) ∧ (∀ j, j ≠ 6 → s m j = A m j) ∧ s m 6 = nI (sP (A (m + 3)) fed p) := by
  have key := while_ok (F := fun f (_ : Nat) s => fn_X10_next_L0 K N m P f s) fed (fun i s => i ≤ fed ∧ (∀ a, a ≠ m → s a = A a) ∧ (∀ j, j ≠ 6 → s m j = A m j) ∧ s m 6 = nI i ∧ skp blk (A (m + 3)) (fed - i) i = sP (A (m + 3)) fed p) (fun s => (∀ a, a ≠ m → s a = A a) ∧ (∀ j, j ≠ 6 → s m j = A m j) ∧ s m 6 = nI (sP (A (m + 3)) fed p))
    (fun f i s hs kk => by
      simp only [fn_X10_next_L0]
      obtain ⟨i0, s1, s2, s3, s4⟩ := hs
      obtain ⟨q1, q2⟩ := skp_hr (f := A (m + 3)) i0 m1_cls.1
      rw [e_here hM hfed (by rw [s2 5 (by decide)]; exact h5) s3 i0, Option.bind_some, gd_pos hM.1.1, s1 (m + 3) (by omega), s3, nI_1]
      have go : blk (hrF (A (m + 3)) fed i) → ok (fn_X10_next_L0 K N m P f (up2 s m 6 (nI (i + 1)))) (fun s => (∀ a, a ≠ m → s a = A a) ∧ (∀ j, j ≠ 6 → s m j = A m j) ∧ s m 6 = nI (sP (A (m + 3)) fed p)) := fun h => by
        obtain ⟨h1, h2⟩ := q1 h
        rw [h2] at s4
        exact kk _ (by omega) ⟨by omega, fun a ha => by rw [up2_o ha]; exact s1 a ha, fun j hj => by rw [up2_k hj]; exact s2 j hj, up2_s, s4⟩
      by_cases c : hrF (A (m + 3)) fed i = 32
      · rw [if_pos c, Option.bind_some]; exact go (Or.inl c)
      · rw [if_neg c, Option.bind_some]
        by_cases c2 : hrF (A (m + 3)) fed i = 10
        · rw [if_pos c2, Option.bind_some]; exact go (Or.inr c2)
        · rw [if_neg c2]
          have := q2 (fun e => e.elim c c2)
          rw [this] at s4
          exact ok_some.mpr ⟨s1, s2, by rw [s3, s4]⟩)
    FU p A hp (FU_lt (by omega)) ⟨hp, fun _ _ => rfl, fun _ _ => rfl, h6, rfl⟩
  obtain ⟨s, h1, h2⟩ := key
  exact ⟨s, h1, h2⟩
theorem e_mL {K N : Nat → Nat} {A : Nat → Nat → Int32} {P : Nat → Nat → Option Nat} {m fed p : Nat} (hM : ModSh K N P m) (hfed : fed ≤ 60) (hp : p ≤ fed) (h5 : A m 5 = nI fed) (h6 : A m 6 = nI p) : ∃ s, fn_X10_next_L153 K N m P FU A = some s ∧ (∀ a, a ≠ m → s a = A a) ∧ (∀ j, j ≠ 6 → s m j = A m j) ∧ s m 6 = nI (eL (A (m + 3)) fed p) := by
  have key := while_ok (F := fun f (_ : Nat) s => fn_X10_next_L153 K N m P f s) fed (fun i s => i ≤ fed ∧ (∀ a, a ≠ m → s a = A a) ∧ (∀ j, j ≠ 6 → s m j = A m j) ∧ s m 6 = nI i ∧ skp ltr (A (m + 3)) (fed - i) i = eL (A (m + 3)) fed p) (fun s => (∀ a, a ≠ m → s a = A a) ∧ (∀ j, j ≠ 6 → s m j = A m j) ∧ s m 6 = nI (eL (A (m + 3)) fed p))
    (fun f i s hs kk => by
      simp only [fn_X10_next_L153]
      obtain ⟨i0, s1, s2, s3, s4⟩ := hs
      obtain ⟨q1, q2⟩ := skp_hr (f := A (m + 3)) i0 m1_cls.2.1
      rw [e_here hM hfed (by rw [s2 5 (by decide)]; exact h5) s3 i0, Option.bind_some, isIn_ltr, Option.bind_some, s1 (m + 3) (by omega), s3, nI_1]
      by_cases c : ltr (hrF (A (m + 3)) fed i)
      · rw [bI_t c, if_neg (by decide), Option.bind_some]
        obtain ⟨h1, h2⟩ := q1 c
        rw [h2] at s4
        exact kk _ (by omega) ⟨by omega, fun a ha => by rw [up2_o ha]; exact s1 a ha, fun j hj => by rw [up2_k hj]; exact s2 j hj, up2_s, s4⟩
      · rw [bI_f c, if_pos rfl]
        rw [q2 c] at s4
        exact ok_some.mpr ⟨s1, s2, by rw [s3, s4]⟩)
    FU p A hp (FU_lt (by omega)) ⟨hp, fun _ _ => rfl, fun _ _ => rfl, h6, rfl⟩
  obtain ⟨s, h1, h2⟩ := key
  exact ⟨s, h1, h2⟩
def capN (f : Nat → Int32) (s : Nat) : Nat → Int32
  | 0 => 0
  | j + 1 => 10 * (if 1000 < capN f s j then 1000 else capN f s j) + f (s + j) - 48
theorem e_mD {K N : Nat → Nat} {A : Nat → Nat → Int32} {P : Nat → Nat → Option Nat} {m fed p : Nat} (hM : ModSh K N P m) (hfed : fed ≤ 60) (hp : p ≤ fed) (h5 : A m 5 = nI fed) (h6 : A m 6 = nI p) (h9 : A m 9 = 0) : ∃ s, fn_X10_next_L78 K N m P FU A = some s ∧ (∀ a, a ≠ m → s a = A a) ∧ (∀ j, j ≠ 6 → j ≠ 9 → s m j = A m j) ∧ s m 6 = nI (eD (A (m + 3)) fed p) ∧ s m 9 = capN (A (m + 3)) p (eD (A (m + 3)) fed p - p) := by
  have key := while_ok (F := fun f (_ : Nat) s => fn_X10_next_L78 K N m P f s) fed (fun i s => p ≤ i ∧ i ≤ fed ∧ (∀ a, a ≠ m → s a = A a) ∧ (∀ j, j ≠ 6 → j ≠ 9 → s m j = A m j) ∧ s m 6 = nI i ∧ s m 9 = capN (A (m + 3)) p (i - p) ∧ skp dgt (A (m + 3)) (fed - i) i = eD (A (m + 3)) fed p) (fun s => (∀ a, a ≠ m → s a = A a) ∧ (∀ j, j ≠ 6 → j ≠ 9 → s m j = A m j) ∧ s m 6 = nI (eD (A (m + 3)) fed p) ∧ s m 9 = capN (A (m + 3)) p (eD (A (m + 3)) fed p - p))
    (fun f i s hs kk => by
      simp only [fn_X10_next_L78]
      obtain ⟨ip, i0, s1, s2, s3, s9, s4⟩ := hs
      obtain ⟨q1, q2⟩ := skp_hr (f := A (m + 3)) i0 m1_cls.2.2
      rw [e_here hM hfed (by rw [s2 5 (by decide) (by decide)]; exact h5) s3 i0, Option.bind_some, isIn_dgt, Option.bind_some, s1 (m + 3) (by omega)]
      by_cases c : dgt (hrF (A (m + 3)) fed i)
      · obtain ⟨h1, h2⟩ := q1 c
        have hb : hrF (A (m + 3)) fed i = A (m + 3) i := by unfold hrF; rw [if_neg (by omega)]
        rw [bI_t c, if_neg (by decide), Option.bind_some, Option.bind_some, Option.bind_some, up2_k (by decide), s3, nI_1, hb, s9]
        rw [h2] at s4
        refine kk _ (by omega) ⟨by omega, by omega, fun a ha => by rw [up2_o ha, up2_o ha]; exact s1 a ha, fun j hj hj9 => by rw [up2_k hj, up2_k hj9]; exact s2 j hj hj9, up2_s, ?_, s4⟩
        rw [up2_k (by decide), up2_s, show i + 1 - p = (i - p) + 1 by omega, capN, show p + (i - p) = i by omega]
      · rw [bI_f c, if_pos rfl]
        rw [q2 c] at s4
        exact ok_some.mpr ⟨s1, s2, by rw [s3, s4], by rw [s9, s4]⟩)
    FU p A hp (FU_lt (by omega)) ⟨Nat.le_refl _, hp, fun _ _ => rfl, fun _ _ _ => rfl, h6, by rw [h9, Nat.sub_self]; rfl, rfl⟩
  obtain ⟨s, h1, h2⟩ := key
  exact ⟨s, h1, h2⟩
theorem capN_lo {f : Nat → Int32} {s e : Nat} (h : dgt (f s)) (he : e - s ≤ 2) : capN f s (e - s) = clN f s (e - s) := by
  have l0 : ¬ (1000 : Int32) < 0 := by decide
  have h1 : capN f s 1 = clN f s 1 := by
    show 10 * (if (1000 : Int32) < 0 then 1000 else 0) + f (s + 0) - 48 = 10 * 0 + f (s + 0) - 48
    rw [if_neg l0]
  have c : e - s = 0 ∨ e - s = 1 ∨ e - s = 2 := by omega
  rcases c with c | c | c <;> rw [c]
  · rfl
  · exact h1
  · show 10 * (if 1000 < capN f s 1 then 1000 else capN f s 1) + f (s + 1) - 48 = 10 * clN f s 1 + f (s + 1) - 48
    rw [h1, clN_1 h, if_neg (show ¬ (1000 : Int32) < nI (dg (f s)) from nI_nlt (b := dg (f s)) (a := 1000) (by have := (dgt_n h).1; omega) (by omega))]
/-- the words, by their numbers -/
def Wd (f : Nat → Int32) (s e w : Nat) : Prop := e - s = mm_sl w ∧ isW f w s
theorem Wd_5 (f : Nat → Int32) (s e w : Nat) (hw : w < 5) : Wd f s e (5 + w) ↔ Wd f s e w := by
  have h1 : mm_sl (5 + w) = mm_sl w := by
    have : ∀ w, w < 5 → mm_sl (5 + w) = mm_sl w := by decide
    exact this w hw
  have h2 : ∀ i, chW (5 + w) i = chW w i := by
    have : w = 0 ∨ w = 1 ∨ w = 2 ∨ w = 3 ∨ w = 4 := by omega
    intro i
    rcases this with rfl | rfl | rfl | rfl | rfl <;> rfl
  unfold Wd isW
  rw [h1]
  simp only [h2]
theorem Wd_one {f : Nat → Int32} {s e w w' : Nat} (hw : w < 5) (hw' : w' < 5) (h : Wd f s e w) (h' : Wd f s e w') : w = w' := by
  have t : ∀ w, w < 5 → ∀ w', w' < 5 → chW w 0 = chW w' 0 → w = w' := by decide +kernel
  refine t w hw w' hw' ?_
  have a := h.2 0 (by have := (sl_tab w (by omega)).2; omega)
  have b := h'.2 0 (by have := (sl_tab w' (by omega)).2; omega)
  rw [← a, ← b]
/-- the sort of the token at p: 0 none, 1 wrong, 2 a number, 3 to 7 the words -/
noncomputable def wk (f : Nat → Int32) (s e : Nat) : Nat := @ite _ (Wd f s e 0) (Classical.propDecidable _) 3 (@ite _ (Wd f s e 1) (Classical.propDecidable _) 4 (@ite _ (Wd f s e 2) (Classical.propDecidable _) 5 (@ite _ (Wd f s e 3) (Classical.propDecidable _) 6 (@ite _ (Wd f s e 4) (Classical.propDecidable _) 7 1))))
noncomputable def wst (D : Prop) (X : Nat → Nat → Int32) (m : Nat) (c : Int32) : Nat → Nat → Int32 := @ite _ D (Classical.propDecidable _) (up2 X m 8 c) X
theorem wst_t {D : Prop} {X : Nat → Nat → Int32} {m : Nat} {c : Int32} (h : D) : wst D X m c = up2 X m 8 c := if_pos h
theorem wst_f {D : Prop} {X : Nat → Nat → Int32} {m : Nat} {c : Int32} (h : ¬ D) : wst D X m c = X := if_neg h
theorem wst_o {D : Prop} {X : Nat → Nat → Int32} {m : Nat} {c : Int32} : (∀ a, a ≠ m → wst D X m c a = X a) ∧ ∀ j, j ≠ 8 → wst D X m c m j = X m j := by
  by_cases h : D
  · rw [wst_t h]; exact ⟨fun a ha => up2_o ha, fun j hj => up2_k hj⟩
  · rw [wst_f h]; exact ⟨fun _ _ => rfl, fun _ _ => rfl⟩
theorem e_wst {D : Prop} {X : Nat → Nat → Int32} {m : Nat} {c : Int32} : (if bI D = 0 then some X else Option.bind (some (up2 X m 8 c)) (fun Y => some Y)) = some (wst D X m c) := by
  by_cases h : D
  · rw [bI_t h, if_neg (by decide), wst_t h, Option.bind_some]
  · rw [bI_f h, if_pos rfl, wst_f h]
theorem e_words {K N : Nat → Nat} {X : Nat → Nat → Int32} {P : Nat → Nat → Option Nat} {m s e fed : Nat} {c0 : Nat} (hM : ModSh K N P m) (hse : s ≤ e) (hef : e ≤ fed) (hfed : fed ≤ 60) (h6 : X m 6 = nI e) (h7 : X m 7 = nI s) (h8 : X m 8 = nI c0) : ∃ Y, Option.bind (fn_X10_isWord K N X P m 5) (fun r24 => Option.bind (if r24 = 0 then some X else Option.bind (some (up2 X m 8 3)) (fun I42 => some I42)) (fun j26 => Option.bind (fn_X10_isWord K N j26 P m 6) (fun r27 => Option.bind (if r27 = 0 then some j26 else Option.bind (some (up2 j26 m 8 4)) (fun I41 => some I41)) (fun j29 => Option.bind (fn_X10_isWord K N j29 P m 7) (fun r30 => Option.bind (if r30 = 0 then some j29 else Option.bind (some (up2 j29 m 8 5)) (fun I40 => some I40)) (fun j32 => Option.bind (fn_X10_isWord K N j32 P m 8) (fun r33 => Option.bind (if r33 = 0 then some j32 else Option.bind (some (up2 j32 m 8 6)) (fun I39 => some I39)) (fun j35 => Option.bind (fn_X10_isWord K N j35 P m 9) (fun r36 => if r36 = 0 then some j35 else Option.bind (some (up2 j35 m 8 7)) (fun I38 => some I38)))))))))) = some Y ∧ (∀ a, a ≠ m → Y a = X a) ∧ (∀ j, j ≠ 8 → Y m j = X m j) ∧ Y m 8 = nI (if wk (X (m + 3)) s e = 1 then c0 else wk (X (m + 3)) s e) := by
  have W : ∀ (Z : Nat → Nat → Int32) w, w < 5 → (∀ a, a ≠ m → Z a = X a) → (∀ j, j ≠ 8 → Z m j = X m j) → fn_X10_isWord K N Z P m (5 + w) = some (bI (Wd (X (m + 3)) s e w)) := by
    intro Z w hw z1 z2
    rw [e_isWordM (s := s) (e := e) (fed := fed) (show 5 + w < 10 by omega) hM hse hef hfed (by rw [z2 6 (by decide)]; exact h6) (by rw [z2 7 (by decide)]; exact h7), z1 (m + 3) (by omega)]
    exact congrArg (fun x => some (bI x)) (propext (Wd_5 _ _ _ _ hw))
  obtain ⟨f, hf⟩ : ∃ f, f = X (m + 3) := ⟨_, rfl⟩
  rw [← hf] at W ⊢
  have st : ∀ (Z : Nat → Nat → Int32) (D : Prop) (c : Int32), (∀ a, a ≠ m → Z a = X a) → (∀ j, j ≠ 8 → Z m j = X m j) → (∀ a, a ≠ m → wst D Z m c a = X a) ∧ ∀ j, j ≠ 8 → wst D Z m c m j = X m j := fun Z D c z1 z2 => ⟨fun a ha => (wst_o.1 a ha).trans (z1 a ha), fun j hj => (wst_o.2 j hj).trans (z2 j hj)⟩
  obtain ⟨X1, hX1⟩ : ∃ X1, X1 = wst (Wd f s e 0) X m 3 := ⟨_, rfl⟩
  have k1 := st X (Wd f s e 0) 3 (fun _ _ => rfl) (fun _ _ => rfl)
  rw [← hX1] at k1
  obtain ⟨X2, hX2⟩ : ∃ X2, X2 = wst (Wd f s e 1) X1 m 4 := ⟨_, rfl⟩
  have k2 := st X1 (Wd f s e 1) 4 k1.1 k1.2
  rw [← hX2] at k2
  obtain ⟨X3, hX3⟩ : ∃ X3, X3 = wst (Wd f s e 2) X2 m 5 := ⟨_, rfl⟩
  have k3 := st X2 (Wd f s e 2) 5 k2.1 k2.2
  rw [← hX3] at k3
  obtain ⟨X4, hX4⟩ : ∃ X4, X4 = wst (Wd f s e 3) X3 m 6 := ⟨_, rfl⟩
  have k4 := st X3 (Wd f s e 3) 6 k3.1 k3.2
  rw [← hX4] at k4
  obtain ⟨X5, hX5⟩ : ∃ X5, X5 = wst (Wd f s e 4) X4 m 7 := ⟨_, rfl⟩
  have k5 := st X4 (Wd f s e 4) 7 k4.1 k4.2
  rw [← hX5] at k5
  refine ⟨X5, ?_, k5.1, k5.2, ?_⟩
  · rw [W X 0 (by decide) (fun _ _ => rfl) (fun _ _ => rfl), Option.bind_some, e_wst, ← hX1, Option.bind_some, W X1 1 (by decide) k1.1 k1.2, Option.bind_some, e_wst, ← hX2, Option.bind_some, W X2 2 (by decide) k2.1 k2.2, Option.bind_some, e_wst, ← hX3, Option.bind_some, W X3 3 (by decide) k3.1 k3.2, Option.bind_some, e_wst, ← hX4, Option.bind_some, W X4 4 (by decide) k4.1 k4.2, Option.bind_some, e_wst, ← hX5]
  · have ne : ∀ a c, a < 5 → c < 5 → a ≠ c → Wd f s e a → ¬ Wd f s e c := fun a c ha hc h h1 h2 => h (Wd_one ha hc h1 h2)
    unfold wk
    by_cases d0 : Wd f s e 0
    · rw [hX5, wst_f (ne 0 4 (by decide) (by decide) (by decide) d0), hX4, wst_f (ne 0 3 (by decide) (by decide) (by decide) d0), hX3, wst_f (ne 0 2 (by decide) (by decide) (by decide) d0), hX2, wst_f (ne 0 1 (by decide) (by decide) (by decide) d0), hX1, wst_t d0, up2_s, if_pos d0]; rfl
    by_cases d1 : Wd f s e 1
    · rw [hX5, wst_f (ne 1 4 (by decide) (by decide) (by decide) d1), hX4, wst_f (ne 1 3 (by decide) (by decide) (by decide) d1), hX3, wst_f (ne 1 2 (by decide) (by decide) (by decide) d1), hX2, wst_t d1, up2_s, if_neg d0, if_pos d1]; rfl
    by_cases d2 : Wd f s e 2
    · rw [hX5, wst_f (ne 2 4 (by decide) (by decide) (by decide) d2), hX4, wst_f (ne 2 3 (by decide) (by decide) (by decide) d2), hX3, wst_t d2, up2_s, if_neg d0, if_neg d1, if_pos d2]; rfl
    by_cases d3 : Wd f s e 3
    · rw [hX5, wst_f (ne 3 4 (by decide) (by decide) (by decide) d3), hX4, wst_t d3, up2_s, if_neg d0, if_neg d1, if_neg d2, if_pos d3]; rfl
    by_cases d4 : Wd f s e 4
    · rw [hX5, wst_t d4, up2_s, if_neg d0, if_neg d1, if_neg d2, if_neg d3, if_pos d4]; rfl
    · rw [hX5, wst_f d4, hX4, wst_f d3, hX3, wst_f d2, hX2, wst_f d1, hX1, wst_f d0, if_neg d0, if_neg d1, if_neg d2, if_neg d3, if_neg d4, if_pos rfl]; exact h8
