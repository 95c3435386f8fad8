/-! the model's shift, the class's -/
def rotF (x t l : Nat) : Nat := if l < x ∨ t < l then l else if l = t then x else l + 1
def rotB (x v l : Nat) : Nat := if l < v ∨ x < l then l else if l = v then x else l - 1
theorem nI_dn {n : Nat} (h : 1 ≤ n) : nI n + (-1 : Int32) = nI (n - 1) := by
  rw [← Int32.sub_eq_add_neg, show (1 : Int32) = nI 1 from rfl, pk_sub h]
def GoRel (I : Nat → Nat → Int32) (m : Nat) (f : Nat → Nat) (s : Nat → Nat → Int32) : Prop := (∀ a, a ≠ m + 1 → s a = I a) ∧ (∀ j, (j < 8 ∨ 1556 ≤ j) → s (m + 1) j = I (m + 1) j) ∧ ∀ l, l < 4 → laySame (s (m + 1)) (I (m + 1)) l (f l)
theorem e_goF {K N : Nat → Nat} {I : Nat → Nat → Int32} {P : Nat → Nat → Option Nat} {m x y : Nat} (hM : ModSh K N P m) (hx : x ≤ y) (hy : y < 4) : ∃ I', fn_X10_goesTo_L2 K N m (nI y) P FU (nI x) I = some I' ∧ GoRel I m (rotF x y) I' := by
  have key := loop_ok (F := fun f t s => fn_X10_goesTo_L2 K N m (nI y) P f (nI t) s) y (fun t s => x ≤ t ∧ GoRel I m (rotF x t) s) (fun s => GoRel I m (rotF x y) s)
    (fun f s hs => by
      simp only [fn_X10_goesTo_L2]
      rw [if_pos (nI_le (Nat.le_refl _) (by omega))]
      exact ok_some.mpr hs.2)
    (fun f t s ht hs kk => by
      simp only [fn_X10_goesTo_L2]
      obtain ⟨hxt, s1, s2, s3⟩ := hs
      obtain ⟨I', w1, w2, w3, w4, w5, w6⟩ := e_swaps (I := s) hM (show t < 4 by omega) (show t + 1 < 4 by omega) (by omega)
      rw [if_neg (nI_ge ht (by omega)), nI_1, w1, Option.bind_some, gd_pos hM.1.1]
      refine kk _ ⟨by omega, fun a h => (w2 a h).trans (s1 a h), fun j hj => (w3 j hj).trans (s2 j hj), fun l hl => ?_⟩
      by_cases h1 : l = t
      · subst h1
        rw [show rotF x (l + 1) l = rotF x l (l + 1) by unfold rotF; rw [if_neg (by omega), if_neg (by omega), if_pos (by omega)]]
        exact w4.trans (s3 (l + 1) (by omega))
      · by_cases h2 : l = t + 1
        · subst h2
          rw [show rotF x (t + 1) (t + 1) = rotF x t t by unfold rotF; rw [if_neg (by omega), if_pos rfl, if_neg (by omega), if_pos rfl]]
          exact w5.trans (s3 t (by omega))
        · rw [show rotF x (t + 1) l = rotF x t l by unfold rotF; split <;> split <;> (try split) <;> (try split) <;> omega]
          exact (w6 l hl h1 h2).trans (s3 l hl))
    FU x I hx (FU_lt (by omega)) ⟨Nat.le_refl _, fun _ _ => rfl, fun _ _ => rfl, fun l hl => by
      rw [show rotF x x l = l by unfold rotF; split <;> (try split) <;> omega]
      exact laySame.refl _ _⟩
  obtain ⟨r, h1, h2⟩ := key
  exact ⟨r, h1, h2⟩
theorem e_goB {K N : Nat → Nat} {I : Nat → Nat → Int32} {P : Nat → Nat → Option Nat} {m x y : Nat} (hM : ModSh K N P m) (hy : y ≤ x) (hx : x < 4) : ∃ I', fn_X10_goesTo_L23 K N m (nI y) P FU (nI x) I = some I' ∧ GoRel I m (rotB x y) I' := by
  have key := loop_ok (F := fun f t s => fn_X10_goesTo_L23 K N m (nI y) P f (nI (x - t)) s) (x - y) (fun t s => GoRel I m (rotB x (x - t)) s) (fun s => GoRel I m (rotB x y) s)
    (fun f s hs => by
      simp only [fn_X10_goesTo_L23]
      have e : x - (x - y) = y := by omega
      rw [e] at hs ⊢
      rw [if_pos (nI_le (Nat.le_refl _) (by omega))]
      exact ok_some.mpr hs)
    (fun f t s ht hs kk => by
      simp only [fn_X10_goesTo_L23]
      have e1 : nI (x - t) - (1 : Int32) = nI (x - (t + 1)) := by rw [show (1 : Int32) = nI 1 from rfl, pk_sub (by omega)]; congr 1
      have e2 : nI (x - t) + (-1 : Int32) = nI (x - (t + 1)) := by rw [nI_dn (by omega)]; congr 1
      obtain ⟨s1, s2, s3⟩ := hs
      obtain ⟨v, hv⟩ : ∃ v, v = x - (t + 1) := ⟨_, rfl⟩
      have hv' : x - t = v + 1 := by omega
      rw [e1, e2, ← hv, hv']
      rw [hv'] at s3
      obtain ⟨I', w1, w2, w3, w4, w5, w6⟩ := e_swaps (I := s) hM (show v + 1 < 4 by omega) (show v < 4 by omega) (by omega)
      rw [if_neg (nI_ge (by omega) (by omega)), w1, Option.bind_some, gd_pos hM.1.1, hv]
      refine kk _ ⟨fun a h => (w2 a h).trans (s1 a h), fun j hj => (w3 j hj).trans (s2 j hj), fun l hl => ?_⟩
      rw [← hv]
      by_cases h1 : l = v + 1
      · subst h1
        rw [show rotB x v (v + 1) = rotB x (v + 1) v by unfold rotB; rw [if_neg (by omega), if_neg (by omega), if_pos (by omega)]; omega]
        exact w4.trans (s3 v (by omega))
      · by_cases h2 : l = v
        · subst h2
          rw [show rotB x l l = rotB x (l + 1) (l + 1) by unfold rotB; rw [if_neg (by omega), if_pos rfl, if_neg (by omega), if_pos rfl]]
          exact w5.trans (s3 (l + 1) (by omega))
        · rw [show rotB x v l = rotB x (v + 1) l by unfold rotB; split <;> split <;> (try split) <;> (try split) <;> omega]
          exact (w6 l hl h1 h2).trans (s3 l hl))
    FU 0 I (Nat.zero_le _) (FU_lt (by omega)) ⟨fun _ _ => rfl, fun _ _ => rfl, fun l hl => by
      rw [show rotB x (x - 0) l = l by unfold rotB; split <;> (try split) <;> omega]
      exact laySame.refl _ _⟩
  obtain ⟨r, h1, h2⟩ := key
  exact ⟨r, h1, h2⟩
theorem d_L23 {K N : Nat → Nat} {I : Nat → Nat → Int32} {P : Nat → Nat → Option Nat} {m n : Nat} {x y : Int32} (h : x ≤ y) : fn_X10_goesTo_L23 K N m y P (n + 1) x I = some I := by
  simp only [fn_X10_goesTo_L23]; rw [if_pos h]
theorem d_L2 {K N : Nat → Nat} {I : Nat → Nat → Int32} {P : Nat → Nat → Option Nat} {m n : Nat} {x y : Int32} (h : y ≤ x) : fn_X10_goesTo_L2 K N m y P (n + 1) x I = some I := by
  simp only [fn_X10_goesTo_L2]; rw [if_pos h]
theorem d_L48 {K N : Nat → Nat} {P : Nat → Nat → Option Nat} {m n : Nat} {x y : Int32} (h : x ≤ y) : fn_X6_shiftLayer_L48 K N m y (n + 1) x P = some P := by
  simp only [fn_X6_shiftLayer_L48]; rw [if_pos h]
theorem d_L17 {K N : Nat → Nat} {P : Nat → Nat → Option Nat} {m n : Nat} {x y : Int32} (h : y ≤ x) : fn_X6_shiftLayer_L17 K N m y (n + 1) x P = some P := by
  simp only [fn_X6_shiftLayer_L17]; rw [if_pos h]
theorem e_goesTo {K N : Nat → Nat} {I : Nat → Nat → Int32} {P : Nat → Nat → Option Nat} {m x y : Nat} (hM : ModSh K N P m) (hx : x < 4) (hy : y < 4) : ∃ I', fn_X10_goesTo K N I P m (nI x) (nI y) = some I' ∧ (∀ a, a ≠ m + 1 → I' a = I a) ∧ (I' (m + 1) 6 = 0 ∧ I' (m + 1) 7 = 0) ∧ (∀ j, (j < 6 ∨ 1556 ≤ j) → I' (m + 1) j = I (m + 1) j) ∧ ∀ l, l < 4 → laySame (I' (m + 1)) (I (m + 1)) l (rot x y l) := by
  suffices h : ∃ I1 I2, fn_X10_goesTo_L2 K N m (nI y) P FU (nI x) I = some I1 ∧ fn_X10_goesTo_L23 K N m (nI y) P FU (nI x) I1 = some I2 ∧ GoRel I m (rot x y) I2 by
    obtain ⟨I1, I2, h1, h2, h3, h4, h5⟩ := h
    have t : ∀ j, (up2 (up2 I2 (m + 1) 6 0) (m + 1) 7 0) (m + 1) j = if j = 7 then 0 else if j = 6 then 0 else I2 (m + 1) j := fun j => by simp [up2]
    refine ⟨up2 (up2 I2 (m + 1) 6 0) (m + 1) 7 0, ?_, fun a h => by rw [up2_o h, up2_o h]; exact h3 a h, ⟨by rw [t]; rfl, by rw [t]; rfl⟩, fun j hj => by rw [t, if_neg (by omega), if_neg (by omega)]; exact h4 j (by omega), fun l hl => ?_⟩
    · unfold fn_X10_goesTo
      rw [h1, Option.bind_some, h2, Option.bind_some, e_noActs hM, Option.bind_some, gd_pos hM.1.1]
    · obtain ⟨q1, q2, q3, q4⟩ := h5 l hl
      refine ⟨?_, ?_, ?_, fun d hd => ⟨?_, ?_⟩⟩
      · rw [t, if_neg (by omega), if_neg (by omega)]; exact q1
      · rw [t, if_neg (by omega), if_neg (by omega)]; exact q2
      · rw [t, if_neg (by omega), if_neg (by omega)]; exact q3
      · rw [t, if_neg (by omega), if_neg (by omega)]; exact (q4 d hd).1
      · rw [t, if_neg (by omega), if_neg (by omega)]; exact (q4 d hd).2
  by_cases h : x ≤ y
  · obtain ⟨I1, h1, h2⟩ := e_goF (I := I) hM h hy
    refine ⟨I1, I1, h1, ?_, ?_⟩
    · exact d_L23 (n := 5999) (nI_le h (by omega))
    · rw [show rot x y = rotF x y from funext fun l => by unfold rot rotF; rw [if_pos h]]
      exact h2
  · obtain ⟨I1, h1, h2⟩ := e_goB (I := I) hM (show y ≤ x by omega) hx
    refine ⟨I, I1, ?_, h1, ?_⟩
    · exact d_L2 (n := 5999) (nI_le (by omega) (by omega))
    · rw [show rot x y = rotB x y from funext fun l => by unfold rot rotB; rw [if_neg h]]
      exact h2
/-! the class's -/
theorem e_shF {K N : Nat → Nat} {P : Nat → Nat → Option Nat} {c x y : Nat} {σ : Nat → Nat} (hP : PicSh K N P c) (hσ : Perm 4 σ) (hl : ∀ i, i < 4 → P (c + 1) i = some (c + 40 + 3 * σ i)) (hx : x ≤ y) (hy : y < 4) : ∃ P', fn_X6_shiftLayer_L17 K N c (nI y) FU (nI x) P = some P' ∧ (∀ a, a ≠ c + 1 → P' a = P a) ∧ ∀ l, l < 4 → P' (c + 1) l = some (c + 40 + 3 * σ (if x ≤ l ∧ l < y then l + 1 else l)) := by
  obtain ⟨⟨k0, k1, n1, -⟩, ⟨p0, -⟩, -, hsh⟩ := hP
  have key := loop_ok (F := fun f t s => fn_X6_shiftLayer_L17 K N c (nI y) f (nI t) s) y (fun t p => x ≤ t ∧ (∀ a, a ≠ c + 1 → p a = P a) ∧ ∀ l, l < 4 → p (c + 1) l = some (c + 40 + 3 * σ (if x ≤ l ∧ l < t then l + 1 else l))) (fun p => (∀ a, a ≠ c + 1 → p a = P a) ∧ ∀ l, l < 4 → p (c + 1) l = some (c + 40 + 3 * σ (if x ≤ l ∧ l < y then l + 1 else l)))
    (fun f s hs => by
      simp only [fn_X6_shiftLayer_L17]
      rw [if_pos (nI_le (Nat.le_refl _) (by omega))]
      exact ok_some.mpr hs.2)
    (fun f t s ht hs kk => by
      simp only [fn_X6_shiftLayer_L17]
      obtain ⟨hxt, s1, s2⟩ := hs
      have g1 : K (c + 1) = 15 ∧ vp_in (nI (t + 1)) (N (c + 1)) := ⟨k1, by rw [n1]; exact vp_in_nI (by omega) (by omega)⟩
      have g2 : K (c + 1) = 15 ∧ vp_in (nI t) (N (c + 1)) := ⟨k1, by rw [n1]; exact vp_in_nI (by omega) (by omega)⟩
      rw [if_neg (nI_ge ht (by omega)), s1 c (by omega), p0, Option.bind_some, nI_1, gd_pos g1, nI_clamp (by omega), s2 (t + 1) (by omega), if_neg (by omega), Option.bind_some, gd_pos g2, gd_pos (hsh _ (hσ.1 (t + 1) (by omega))).1, Option.bind_some, nI_clamp (by omega)]
      refine kk _ ⟨by omega, fun a h => by rw [upP_a h]; exact s1 a h, fun l hl2 => ?_⟩
      by_cases h1 : l = t
      · subst h1; rw [upP_s, if_pos (by omega)]
      · rw [upP_k h1, s2 l hl2]
        by_cases h2 : x ≤ l ∧ l < t
        · rw [if_pos h2, if_pos (by omega)]
        · rw [if_neg h2, if_neg (by omega)])
    FU x P hx (FU_lt (by omega)) ⟨Nat.le_refl _, fun _ _ => rfl, fun l hl2 => by rw [if_neg (by omega)]; exact hl l hl2⟩
  obtain ⟨r, h1, h2⟩ := key
  exact ⟨r, h1, h2⟩
theorem e_shB {K N : Nat → Nat} {P : Nat → Nat → Option Nat} {c x y : Nat} {σ : Nat → Nat} (hP : PicSh K N P c) (hσ : Perm 4 σ) (hl : ∀ i, i < 4 → P (c + 1) i = some (c + 40 + 3 * σ i)) (hy : y ≤ x) (hx : x < 4) : ∃ P', fn_X6_shiftLayer_L48 K N c (nI y) FU (nI x) P = some P' ∧ (∀ a, a ≠ c + 1 → P' a = P a) ∧ ∀ l, l < 4 → P' (c + 1) l = some (c + 40 + 3 * σ (if y < l ∧ l ≤ x then l - 1 else l)) := by
  obtain ⟨⟨k0, k1, n1, -⟩, ⟨p0, -⟩, -, hsh⟩ := hP
  have key := loop_ok (F := fun f t s => fn_X6_shiftLayer_L48 K N c (nI y) f (nI (x - t)) s) (x - y) (fun t p => (∀ a, a ≠ c + 1 → p a = P a) ∧ ∀ l, l < 4 → p (c + 1) l = some (c + 40 + 3 * σ (if x - t < l ∧ l ≤ x then l - 1 else l))) (fun p => (∀ a, a ≠ c + 1 → p a = P a) ∧ ∀ l, l < 4 → p (c + 1) l = some (c + 40 + 3 * σ (if y < l ∧ l ≤ x then l - 1 else l)))
    (fun f s hs => by
      simp only [fn_X6_shiftLayer_L48]
      have e : x - (x - y) = y := by omega
      rw [e] at hs ⊢
      rw [if_pos (nI_le (Nat.le_refl _) (by omega))]
      exact ok_some.mpr hs)
    (fun f t s ht hs kk => by
      simp only [fn_X6_shiftLayer_L48]
      obtain ⟨s1, s2⟩ := hs
      have e1 : nI (x - t) - (1 : Int32) = nI (x - (t + 1)) := by rw [show (1 : Int32) = nI 1 from rfl, pk_sub (by omega)]; congr 1
      have e2 : nI (x - t) + (-1 : Int32) = nI (x - (t + 1)) := by rw [nI_dn (by omega)]; congr 1
      obtain ⟨v, hv⟩ : ∃ v, v = x - (t + 1) := ⟨_, rfl⟩
      have hv' : x - t = v + 1 := by omega
      rw [e1, e2, ← hv, hv']
      rw [hv'] at s2
      have g1 : K (c + 1) = 15 ∧ vp_in (nI (v + 1)) (N (c + 1)) := ⟨k1, by rw [n1]; exact vp_in_nI (by omega) (by omega)⟩
      have g2 : K (c + 1) = 15 ∧ vp_in (nI v) (N (c + 1)) := ⟨k1, by rw [n1]; exact vp_in_nI (by omega) (by omega)⟩
      rw [if_neg (nI_ge (by omega) (by omega)), s1 c (by omega), p0, Option.bind_some, gd_pos g2, nI_clamp (by omega), s2 v (by omega), if_neg (by omega), Option.bind_some, gd_pos g1, gd_pos (hsh _ (hσ.1 v (by omega))).1, Option.bind_some, nI_clamp (by omega), hv]
      refine kk _ ⟨fun a h => by rw [upP_a h]; exact s1 a h, fun l hl2 => ?_⟩
      rw [← hv]
      by_cases h1 : l = v + 1
      · subst h1; rw [upP_s, if_pos (by omega)]; rfl
      · rw [upP_k h1, s2 l hl2]
        by_cases h2 : v + 1 < l ∧ l ≤ x
        · rw [if_pos h2, if_pos (by omega)]
        · rw [if_neg h2, if_neg (by omega)])
    FU 0 P (Nat.zero_le _) (FU_lt (by omega)) ⟨fun _ _ => rfl, fun l hl2 => by rw [if_neg (by omega)]; exact hl l hl2⟩
  obtain ⟨r, h1, h2⟩ := key
  exact ⟨r, h1, h2⟩
theorem e_shift {K N : Nat → Nat} {I : Nat → Nat → Int32} {P : Nat → Nat → Option Nat} {c x y : Nat} {σ : Nat → Nat} (hP : PicSh K N P c) (hσ : Perm 4 σ) (hl : ∀ i, i < 4 → P (c + 1) i = some (c + 40 + 3 * σ i)) (hx : x < 4) (hy : y < 4) : ∃ P', fn_X6_shiftLayer K N I P c (nI x) (nI y) = some (up2 (up2 I (c + 5) 1 0) (c + 5) 2 0, P') ∧ (∀ a, a ≠ c + 1 → P' a = P a) ∧ ∀ l, l < 4 → P' (c + 1) l = some (c + 40 + 3 * σ (rot x y l)) := by
  have hP0 := hP
  obtain ⟨⟨k0, k1, n1, -, -, -, -, k5, -⟩, ⟨p0, -, -, p5, -⟩, -, hsh⟩ := hP
  suffices h : ∃ P1 P2, fn_X6_shiftLayer_L17 K N c (nI y) FU (nI x) P = some P1 ∧ fn_X6_shiftLayer_L48 K N c (nI y) FU (nI x) P1 = some P2 ∧ (∀ a, a ≠ c + 1 → P2 a = P a) ∧ ∀ l, l < 4 → l ≠ y → P2 (c + 1) l = some (c + 40 + 3 * σ (rot x y l)) by
    obtain ⟨P1, P2, h1, h2, h3, h4⟩ := h
    have g1 : K (c + 1) = 15 ∧ vp_in (nI x) (N (c + 1)) := ⟨k1, by rw [n1]; exact vp_in_nI (by omega) (by omega)⟩
    have g2 : K (c + 1) = 15 ∧ vp_in (nI y) (N (c + 1)) := ⟨k1, by rw [n1]; exact vp_in_nI (by omega) (by omega)⟩
    refine ⟨upP P2 (c + 1) y (some (c + 40 + 3 * σ x)), ?_, fun a h => by rw [upP_a h]; exact h3 a h, fun l hl2 => ?_⟩
    · unfold fn_X6_shiftLayer
      rw [gd_pos k0, p5, Option.bind_some, e_forget k5, Option.bind_some, gd_pos k5, p0, Option.bind_some, gd_pos g1, nI_clamp (by omega), hl x hx, Option.bind_some, h1, Option.bind_some, h2, Option.bind_some, h3 c (by omega), p0, Option.bind_some, gd_pos g2, gd_pos (hsh _ (hσ.1 x hx)).1, Option.bind_some, nI_clamp (by omega)]
    · by_cases h5 : l = y
      · subst h5
        rw [upP_s, show rot x l l = x by unfold rot; split <;> split <;> (try split) <;> omega]
      · rw [upP_k h5]; exact h4 l hl2 h5
  by_cases h : x ≤ y
  · obtain ⟨P1, h1, h2, h3⟩ := e_shF hP0 hσ hl h hy
    refine ⟨P1, P1, h1, ?_, h2, fun l hl2 hne => ?_⟩
    · exact d_L48 (n := 5999) (nI_le h (by omega))
    · rw [h3 l hl2]
      congr 4
      unfold rot
      split <;> split <;> (try split) <;> (try split) <;> omega
  · obtain ⟨P1, h1, h2, h3⟩ := e_shB hP0 hσ hl (show y ≤ x by omega) hx
    refine ⟨P, P1, ?_, h1, h2, fun l hl2 hne => ?_⟩
    · exact d_L17 (n := 5999) (nI_le (by omega) (by omega))
    · rw [h3 l hl2]
      congr 4
      unfold rot
      split <;> split <;> (try split) <;> (try split) <;> omega
