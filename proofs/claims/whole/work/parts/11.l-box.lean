/-! a box chosen -/
theorem d16 {v : Nat} (h : v < 2 ^ 31) : nI v / (16 : Int32) = nI (v / 16) := by
  have e := t_div (x := nI v) (y := 16) 16 rfl (by decide)
  rw [nI_toInt h, (t_td 16 (by decide)).1 (by omega)] at e
  rw [← Int32.toInt_inj, e, nI_toInt (by omega)]
  omega
theorem m16 {v : Nat} (h : v < 2 ^ 31) : nI v - nI v / (16 : Int32) * (16 : Int32) = nI (v % 16) := by
  rw [d16 h, show (16 : Int32) = nI 16 from rfl, pk_mul, pk_sub (by omega)]
  congr 1; omega
theorem le_nI {a b : Nat} (ha : a < 2 ^ 31) (hb : b < 2 ^ 31) : nI a ≤ nI b ↔ a ≤ b := by
  rw [Int32.le_iff_toInt_le, nI_toInt ha, nI_toInt hb]; omega
theorem lt_nI {a b : Nat} (ha : a < 2 ^ 31) (hb : b < 2 ^ 31) : nI a < nI b ↔ a < b := by
  rw [Int32.lt_iff_toInt_lt, nI_toInt ha, nI_toInt hb]; omega
theorem e_min {a c : Nat} (ha : a < 2 ^ 31) (hc : c < 2 ^ 31) : (if nI c < nI a then nI c else nI a) = nI (min a c) := by
  by_cases h : c < a
  · rw [if_pos ((lt_nI hc ha).mpr h), Nat.min_eq_right (by omega)]
  · rw [if_neg (fun e => h ((lt_nI hc ha).mp e)), Nat.min_eq_left (by omega)]
theorem e_max {a c : Nat} (ha : a < 2 ^ 31) (hc : c < 2 ^ 31) : (if nI a < nI c then nI c else nI a) = nI (max a c) := by
  by_cases h : a < c
  · rw [if_pos ((lt_nI ha hc).mpr h), Nat.max_eq_right (by omega)]
  · rw [if_neg (fun e => h ((lt_nI ha hc).mp e)), Nat.max_eq_left (by omega)]
def ChSh (K N : Nat → Nat) (P : Nat → Nat → Option Nat) (q : Nat) : Prop := K q = 4 ∧ K (q + 1) = 13 ∧ N (q + 1) = 192 ∧ K (q + 2) = 12 ∧ N (q + 2) = 192 ∧ K (q + 3) = 12 ∧ N (q + 3) = 192 ∧ P q 0 = some (q + 1) ∧ P q 1 = some (q + 2) ∧ P q 2 = some (q + 3)
theorem e_chClear {K N : Nat → Nat} {I : Nat → Nat → Int32} {P : Nat → Nat → Option Nat} {q : Nat} (hC : ChSh K N P q) : ∃ I', fn_X3_clear K N I P q = some I' ∧ (∀ a, a ≠ q + 1 → I' a = I a) ∧ ∀ d, d < 192 → I' (q + 1) d = 0 := by
  obtain ⟨k0, k1, n1, -, -, -, -, p0, -⟩ := hC
  have key := loop_ok (F := fun f i s => fn_X3_clear_L2 K N q P f (nI i) s) 192 (fun i s => (∀ a, a ≠ q + 1 → s a = I a) ∧ ∀ d, d < i → s (q + 1) d = 0) (fun s => (∀ a, a ≠ q + 1 → s a = I a) ∧ ∀ d, d < 192 → s (q + 1) d = 0)
    (fun f s hs => by
      simp only [fn_X3_clear_L2]
      rw [if_pos (show (192 : Int32) ≤ nI 192 from nI_le (a := 192) (Nat.le_refl _) (by omega))]
      exact ok_some.mpr hs)
    (fun f i s hi hs kk => by
      simp only [fn_X3_clear_L2]
      rw [if_neg (show ¬ (192 : Int32) ≤ nI i from nI_ge (b := 192) hi (by omega)), gd_pos k0, p0, Option.bind_some, gd_pos ⟨k1, by rw [n1]; exact vp_192 hi⟩, Option.bind_some, nI_clamp (by omega), nar_0, nI_1]
      refine kk _ ⟨fun a ha => by rw [up2_o ha]; exact hs.1 a ha, fun d hd => ?_⟩
      by_cases h : d = i
      · subst h; rw [up2_s]
      · rw [up2_k h]; exact hs.2 d (by omega))
    FU 0 I (Nat.zero_le _) (FU_lt (by omega)) ⟨fun _ _ => rfl, fun d hd => absurd hd (by omega)⟩
  obtain ⟨r, h1, h2⟩ := key
  have h1 : fn_X3_clear_L2 K N q P FU 0 I = some r := h1
  refine ⟨r, ?_, h2⟩
  unfold fn_X3_clear
  rw [h1, Option.bind_some]
def boxF (x y X Y d : Nat) : Int32 := if x ≤ d % 16 ∧ d % 16 ≤ X ∧ y ≤ d / 16 ∧ d / 16 ≤ Y then 1 else 0
theorem e_chooseBox {K N : Nat → Nat} {I : Nat → Nat → Int32} {P : Nat → Nat → Option Nat} {q x y z w : Nat} (hC : ChSh K N P q) (hx : x < 16) (hy : y < 12) (hz : z < 16) (hw : w < 12) : ∃ I', fn_X3_chooseBox K N I P q (nI x) (nI y) (nI z) (nI w) = some I' ∧ (∀ a, a ≠ q + 1 → I' a = I a) ∧ ∀ d, d < 192 → I' (q + 1) d = boxF (min x z) (min y w) (max x z) (max y w) d := by
  obtain ⟨J, j1, j2, j3⟩ := e_chClear (I := I) hC
  obtain ⟨k0, k1, n1, -, -, -, -, p0, -⟩ := hC
  obtain ⟨l, hl⟩ : ∃ l, l = min x z := ⟨_, rfl⟩
  obtain ⟨r, hr⟩ : ∃ r, r = max x z := ⟨_, rfl⟩
  obtain ⟨t, ht⟩ : ∃ t, t = min y w := ⟨_, rfl⟩
  obtain ⟨u, hu⟩ : ∃ u, u = max y w := ⟨_, rfl⟩
  have hlr : l ≤ r := by omega
  have htu : t ≤ u := by omega
  have hr16 : r < 16 := by omega
  have hu12 : u < 12 := by omega
  rw [← hl, ← hr, ← ht, ← hu]
  have inner : ∀ (v : Nat) (s : Nat → Nat → Int32), v ≤ u → t ≤ v → (∀ a, a ≠ q + 1 → s a = I a) → (∀ d, d < 192 → s (q + 1) d = if l ≤ d % 16 ∧ d % 16 ≤ r ∧ t ≤ d / 16 ∧ d / 16 < v then 1 else 0) → ∃ s', fn_X3_chooseBox_L30 K N q (nI x) (nI z) P (nI v) FU (nI l) s = some s' ∧ (∀ a, a ≠ q + 1 → s' a = I a) ∧ (∀ d, d < 192 → s' (q + 1) d = if l ≤ d % 16 ∧ d % 16 ≤ r ∧ t ≤ d / 16 ∧ d / 16 < v + 1 then 1 else 0) := by
    intro v s hv hvt s1 s2
    have key := loop_ok (F := fun f i z' => fn_X3_chooseBox_L30 K N q (nI x) (nI z) P (nI v) f (nI i) z') (r + 1) (fun i s => l ≤ i ∧ (∀ a, a ≠ q + 1 → s a = I a) ∧ ∀ d, d < 192 → s (q + 1) d = if (l ≤ d % 16 ∧ d % 16 ≤ r ∧ t ≤ d / 16 ∧ d / 16 < v) ∨ (l ≤ d % 16 ∧ d % 16 < i ∧ d / 16 = v) then 1 else 0) (fun s' => (∀ a, a ≠ q + 1 → s' a = I a) ∧ (∀ d, d < 192 → s' (q + 1) d = if l ≤ d % 16 ∧ d % 16 ≤ r ∧ t ≤ d / 16 ∧ d / 16 < v + 1 then 1 else 0))
      (fun f s hs => by
        simp only [fn_X3_chooseBox_L30]
        rw [e_max (by omega) (by omega), ← hr, if_pos (nI_lt (by omega) (by omega))]
        refine ok_some.mpr ⟨hs.2.1, fun d hd => ?_⟩
        rw [hs.2.2 d hd]
        by_cases c : l ≤ d % 16 ∧ d % 16 ≤ r ∧ t ≤ d / 16 ∧ d / 16 < v + 1
        · rw [if_pos c, if_pos (by omega)]
        · rw [if_neg c, if_neg (by omega)])
      (fun f i s hi hs kk => by
        simp only [fn_X3_chooseBox_L30]
        rw [e_max (by omega) (by omega), ← hr, if_neg (nI_nlt (by omega) (by omega)), p0, Option.bind_some, e_dotAt, Option.bind_some, gd_pos ⟨k1, by rw [n1]; exact vp_192 (by omega)⟩, Option.bind_some, nI_clamp (by omega), nar_1, nI_1]
        refine kk _ ⟨by omega, fun a ha => by rw [up2_o ha]; exact hs.2.1 a ha, fun d hd => ?_⟩
        by_cases h : d = 16 * v + i
        · subst h; rw [up2_s, if_pos (by omega)]
        · rw [up2_k h, hs.2.2 d hd]
          by_cases c : (l ≤ d % 16 ∧ d % 16 ≤ r ∧ t ≤ d / 16 ∧ d / 16 < v) ∨ (l ≤ d % 16 ∧ d % 16 < i ∧ d / 16 = v)
          · rw [if_pos c, if_pos (by omega)]
          · rw [if_neg c, if_neg (by omega)])
      FU l s (by omega) (FU_lt (by omega)) ⟨Nat.le_refl _, s1, fun d hd => by
        rw [s2 d hd]
        by_cases c : l ≤ d % 16 ∧ d % 16 ≤ r ∧ t ≤ d / 16 ∧ d / 16 < v
        · rw [if_pos c, if_pos (by omega)]
        · rw [if_neg c, if_neg (by omega)]⟩
    obtain ⟨s', h1, h2⟩ := key
    exact ⟨s', h1, h2⟩
  have key := loop_ok (F := fun f v s => fn_X3_chooseBox_L12 K N q (nI x) (nI y) (nI z) (nI w) P f (nI v) s) (u + 1) (fun v s => t ≤ v ∧ (∀ a, a ≠ q + 1 → s a = I a) ∧ ∀ d, d < 192 → s (q + 1) d = if l ≤ d % 16 ∧ d % 16 ≤ r ∧ t ≤ d / 16 ∧ d / 16 < v then 1 else 0) (fun s => (∀ a, a ≠ q + 1 → s a = I a) ∧ ∀ d, d < 192 → s (q + 1) d = boxF l t r u d)
    (fun f s hs => by
      simp only [fn_X3_chooseBox_L12]
      rw [e_max (by omega) (by omega), ← hu, if_pos (nI_lt (by omega) (by omega))]
      refine ok_some.mpr ⟨hs.2.1, fun d hd => ?_⟩
      rw [hs.2.2 d hd]
      unfold boxF
      by_cases c : l ≤ d % 16 ∧ d % 16 ≤ r ∧ t ≤ d / 16 ∧ d / 16 ≤ u
      · rw [if_pos c, if_pos (by omega)]
      · rw [if_neg c, if_neg (by omega)])
    (fun f v s hv hs kk => by
      simp only [fn_X3_chooseBox_L12]
      obtain ⟨s', w1, w2, w3⟩ := inner v s (by omega) hs.1 hs.2.1 hs.2.2
      rw [e_max (by omega) (by omega), ← hu, if_neg (nI_nlt (by omega) (by omega)), e_min (by omega) (by omega), ← hl, Option.bind_some, w1, Option.bind_some, nI_1]
      exact kk _ ⟨by omega, w2, w3⟩)
    FU t J (by omega) (FU_lt (by omega)) ⟨Nat.le_refl _, j2, fun d hd => by rw [j3 d hd, if_neg (by omega)]⟩
  obtain ⟨I', h1, h2⟩ := key
  have h1 : fn_X3_chooseBox_L12 K N q (nI x) (nI y) (nI z) (nI w) P FU (nI t) J = some I' := h1
  refine ⟨I', ?_, h2⟩
  unfold fn_X3_chooseBox
  rw [j1, Option.bind_some, gd_pos k0, e_min (by omega) (by omega), ← ht, Option.bind_some, h1, Option.bind_some]
/-- the model's -/
theorem isIn_nat {v a c : Nat} (hv : v < 2 ^ 31) (ha : a < 2 ^ 31) (hc : c < 2 ^ 31) : fn_X10_isIn (nI v) (nI a) (nI c) = some (bI (a ≤ v ∧ v ≤ c)) := by
  rw [isIn_eq, isWithin_bI, le_nI ha hv, le_nI hv hc]
theorem e_isBoxed {K N : Nat → Nat} {I : Nat → Nat → Int32} {P : Nat → Nat → Option Nat} {m x y z w : Nat} (hM : ModSh K N P m) (hx : x < 16) (hy : y < 12) (hz : z < 16) (hw : w < 12) : ∃ I', fn_X10_isBoxed K N I P m (nI x) (nI y) (nI z) (nI w) = some (1, I') ∧ (∀ a, a ≠ m + 5 → I' a = I a) ∧ ∀ d, d < 192 → I' (m + 5) d = boxF (min x z) (min y w) (max x z) (max y w) d := by
  have k5 : K (m + 5) = 12 := hM.1.2.2.2.2.2.1
  have n5 : N (m + 5) = 192 := hM.2.1.2.2.2.2.1
  have p5 : P m 16 = some (m + 5) := hM.2.2.2.2.2.2.1
  have key := loop_ok (F := fun f v s => fn_X10_isBoxed_L22 K N m (nI x) (nI y) (nI z) (nI w) P f (nI v) s) 192 (fun v s => (∀ a, a ≠ m + 5 → s a = I a) ∧ ∀ d, d < v → s (m + 5) d = boxF (min x z) (min y w) (max x z) (max y w) d) (fun s => (∀ a, a ≠ m + 5 → s a = I a) ∧ ∀ d, d < 192 → s (m + 5) d = boxF (min x z) (min y w) (max x z) (max y w) d)
    (fun f s hs => by
      simp only [fn_X10_isBoxed_L22]
      rw [if_pos (show (192 : Int32) ≤ nI 192 from nI_le (a := 192) (Nat.le_refl _) (by omega))]
      exact ok_some.mpr hs)
    (fun f v s hv hs kk => by
      simp only [fn_X10_isBoxed_L22]
      rw [if_neg (show ¬ (192 : Int32) ≤ nI v from nI_ge (b := 192) hv (by omega)), gd_pos hM.1.1, p5, Option.bind_some, m16 (by omega), d16 (by omega), e_min (by omega) (by omega), e_max (by omega) (by omega), e_min (by omega) (by omega), e_max (by omega) (by omega), isIn_nat (by omega) (by omega) (by omega), isIn_nat (by omega) (by omega) (by omega), Option.bind_some, Option.bind_some, gd_pos ⟨k5, by rw [n5]; exact vp_192 hv⟩, gd_pos ⟨k5, by rw [n5]; exact vp_192 hv⟩, nI_clamp (by omega), Option.bind_some, Option.bind_some, nI_1]
      have fin : ∀ c : Int32, c = boxF (min x z) (min y w) (max x z) (max y w) v → ok (fn_X10_isBoxed_L22 K N m (nI x) (nI y) (nI z) (nI w) P f (nI (v + 1)) (up2 s (m + 5) v c)) (fun s => (∀ a, a ≠ m + 5 → s a = I a) ∧ ∀ d, d < 192 → s (m + 5) d = boxF (min x z) (min y w) (max x z) (max y w) d) := by
        intro c hc
        refine kk _ ⟨fun a ha => by rw [up2_o ha]; exact hs.1 a ha, fun d hd => ?_⟩
        by_cases h : d = v
        · subst h; rw [up2_s]; exact hc
        · rw [up2_k h]; exact hs.2 d (by omega)
      by_cases c1 : min x z ≤ v % 16 ∧ v % 16 ≤ max x z
      · rw [bI_t c1, if_neg (by decide)]
        by_cases c2 : min y w ≤ v / 16 ∧ v / 16 ≤ max y w
        · rw [bI_t c2, if_neg (by decide)]
          exact fin 1 (by unfold boxF; rw [if_pos ⟨c1.1, c1.2, c2.1, c2.2⟩])
        · rw [bI_f c2, if_pos rfl]
          exact fin 0 (by unfold boxF; rw [if_neg (fun e => c2 ⟨e.2.2.1, e.2.2.2⟩)])
      · rw [bI_f c1, if_pos rfl]
        exact fin 0 (by unfold boxF; rw [if_neg (fun e => c1 ⟨e.1, e.2.1⟩)]))
    FU 0 I (Nat.zero_le _) (FU_lt (by omega)) ⟨fun _ _ => rfl, fun d hd => absurd hd (by omega)⟩
  obtain ⟨r, h1, h2⟩ := key
  have h1 : fn_X10_isBoxed_L22 K N m (nI x) (nI y) (nI z) (nI w) P FU 0 I = some r := h1
  refine ⟨r, ?_, h2⟩
  unfold fn_X10_isBoxed
  rw [e_isDot', bI_t ⟨⟨x, hx, rfl⟩, ⟨y, hy, rfl⟩⟩, Option.bind_some, if_neg (by decide), e_isDot', bI_t ⟨⟨z, hz, rfl⟩, ⟨w, hw, rfl⟩⟩, Option.bind_some, if_neg (by decide), h1, Option.bind_some]
