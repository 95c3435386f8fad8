/-! the spreading, by its states: how many, the row of dots, what is reached -/
theorem while_ok {σ τ : Type} (F : Nat → Nat → σ → Option τ) (B : Nat) (Inv : Nat → σ → Prop) (Post : τ → Prop) (hs : ∀ n i s, Inv i s → (∀ s', i < B → Inv (i + 1) s' → ok (F n (i + 1) s') Post) → ok (F (n + 1) i s) Post) : ∀ (n i : Nat) (s : σ), i ≤ B → B < i + n → Inv i s → ok (F n i s) Post := by
  intro n
  induction n with
  | zero => intro i s h1 h2; omega
  | succ n ih =>
    intro i s h1 h2 h3
    exact hs n i s h3 (fun s' h4 h5 => ih (i + 1) s' (by omega) (by omega) h5)
abbrev BS : Type := Nat × (Nat → Nat) × (Nat → Int32)
def stepB (key : Nat → Int32) (k : Int32) (s : BS) : Option Nat → BS
  | none => s
  | some e => if s.2.2 e = 0 then (if key e = k then (s.1 + 1, (fun i => if i = s.1 then e else s.2.1 i), up1 s.2.2 e 1) else s) else s
theorem stepB_y {key : Nat → Int32} {k : Int32} {s : BS} {e : Nat} (z : s.2.2 e = 0) (w : key e = k) : stepB key k s (some e) = (s.1 + 1, (fun i => if i = s.1 then e else s.2.1 i), up1 s.2.2 e 1) := by
  show (if s.2.2 e = 0 then (if key e = k then _ else s) else s) = _
  rw [if_pos z, if_pos w]
theorem stepB_w {key : Nat → Int32} {k : Int32} {s : BS} {e : Nat} (w : ¬ key e = k) : stepB key k s (some e) = s := by
  show (if s.2.2 e = 0 then (if key e = k then _ else s) else s) = _
  rw [if_neg w]; split <;> rfl
theorem stepB_z {key : Nat → Int32} {k : Int32} {s : BS} {e : Nat} (z : ¬ s.2.2 e = 0) : stepB key k s (some e) = s := by
  show (if s.2.2 e = 0 then (if key e = k then _ else s) else s) = _
  rw [if_neg z]
def expP (key : Nat → Int32) (k : Int32) (d : Nat) (s : BS) : Nat → BS
  | 0 => s
  | j + 1 => stepB key k (expP key k d s j) (nbr d j)
def bfsN (key : Nat → Int32) (k : Int32) (s : BS) : Nat → BS
  | 0 => s
  | i + 1 => if (bfsN key k s i).1 ≤ i then bfsN key k s i else expP key k ((bfsN key k s i).2.1 i) (bfsN key k s i) 4
def BOk (n0 : Nat) (s : BS) : Prop := cnt1 s.2.2 192 = n0 + s.1 ∧ (∀ d, d < 192 → s.2.2 d = 0 ∨ s.2.2 d = 1) ∧ ∀ i, i < s.1 → s.2.1 i < 192
theorem cnt1_up {f : Nat → Int32} {e : Nat} (h : f e = 0) : ∀ n, cnt1 (up1 f e 1) n = if e < n then cnt1 f n + 1 else cnt1 f n
  | 0 => by rw [if_neg (by omega)]; rfl
  | n + 1 => by
    unfold cnt1
    rw [cnt1_up h n]
    by_cases k : n = e
    · subst k
      rw [up1_s, if_neg (show ¬ (1 : Int32) = 0 by decide), if_neg (by omega), if_pos (by omega), h, if_pos rfl]
    · rw [up1_k k]
      by_cases c : e < n
      · rw [if_pos c, if_pos (show e < n + 1 by omega)]; omega
      · rw [if_neg c, if_neg (show ¬ e < n + 1 by omega)]
theorem BOk.le {n0 : Nat} {s : BS} (h : BOk n0 s) : s.1 ≤ 192 := by have := h.1; have := cnt1_le s.2.2 192; omega
theorem BOk.lt {n0 e : Nat} {s : BS} (h : BOk n0 s) (he : e < 192) (hz : s.2.2 e = 0) : s.1 < 192 := by
  have h1 := cnt1_up hz 192
  rw [if_pos he] at h1
  have h2 := cnt1_le (up1 s.2.2 e 1) 192
  have h3 := h.1
  omega
theorem BOk.step {n0 : Nat} {s : BS} {key : Nat → Int32} {k : Int32} {e : Option Nat} (h : BOk n0 s) (he : ∀ x, e = some x → x < 192) : BOk n0 (stepB key k s e) ∧ s.1 ≤ (stepB key k s e).1 ∧ ∀ i, i < s.1 → (stepB key k s e).2.1 i = s.2.1 i := by
  cases e with
  | none => exact ⟨h, Nat.le_refl _, fun _ _ => rfl⟩
  | some e =>
    have he := he e rfl
    by_cases hz : s.2.2 e = 0
    · by_cases w : key e = k
      · rw [stepB_y hz w]
        obtain ⟨h1, h2, h3⟩ := h
        refine ⟨⟨?_, fun d hd => ?_, fun i hi => ?_⟩, Nat.le_succ _, fun i hi => ?_⟩
        · show cnt1 (up1 s.2.2 e 1) 192 = n0 + (s.1 + 1)
          rw [cnt1_up hz, if_pos he, h1]; omega
        · show up1 s.2.2 e 1 d = 0 ∨ up1 s.2.2 e 1 d = 1
          by_cases k : d = e
          · rw [k, up1_s]; exact Or.inr rfl
          · rw [up1_k k]; exact h2 d hd
        · show (if i = s.1 then e else s.2.1 i) < 192
          by_cases k : i = s.1
          · rw [if_pos k]; exact he
          · rw [if_neg k]; have hi : i < s.1 + 1 := hi; exact h3 i (by omega)
        · show (if i = s.1 then e else s.2.1 i) = s.2.1 i
          rw [if_neg (by omega)]
      · rw [stepB_w w]; exact ⟨h, Nat.le_refl _, fun _ _ => rfl⟩
    · rw [stepB_z hz]; exact ⟨h, Nat.le_refl _, fun _ _ => rfl⟩
theorem expP_ok {n0 d : Nat} {s : BS} {key : Nat → Int32} {k : Int32} (h : BOk n0 s) (hd : d < 192) : ∀ j, BOk n0 (expP key k d s j) ∧ s.1 ≤ (expP key k d s j).1 ∧ ∀ i, i < s.1 → (expP key k d s j).2.1 i = s.2.1 i
  | 0 => ⟨h, Nat.le_refl _, fun _ _ => rfl⟩
  | j + 1 => by
    obtain ⟨h1, h2, h3⟩ := expP_ok (key := key) (k := k) h hd j
    obtain ⟨g1, g2, g3⟩ := h1.step (key := key) (k := k) (e := nbr d j) (fun x hx => nbr_lt hd hx)
    exact ⟨g1, Nat.le_trans h2 g2, fun i hi => (g3 i (by omega)).trans (h3 i hi)⟩
theorem bfsN_ok {n0 : Nat} {s : BS} {key : Nat → Int32} {k : Int32} (h : BOk n0 s) : ∀ i, BOk n0 (bfsN key k s i)
  | 0 => h
  | i + 1 => by
    have ih := bfsN_ok (key := key) (k := k) h i
    unfold bfsN
    split
    · exact ih
    · exact (expP_ok ih (ih.2.2 i (by omega)) 4).1
theorem bfs_stop {s : BS} {key : Nat → Int32} {k : Int32} {i : Nat} (h : (bfsN key k s i).1 ≤ i) : ∀ j, bfsN key k s (i + j) = bfsN key k s i
  | 0 => rfl
  | j + 1 => by
    have ih := bfs_stop h j
    show bfsN key k s (i + j + 1) = _
    rw [bfsN, ih, if_pos (by omega)]
theorem bfs_end {n0 i : Nat} {s : BS} {key : Nat → Int32} {k : Int32} (h : (bfsN key k s i).1 ≤ i) (hi : i ≤ 192) : bfsN key k s 192 = bfsN key k s i := by
  have := bfs_stop h (192 - i)
  rw [show i + (192 - i) = 192 by omega] at this
  exact this
/-! the class's spreading -/
def CS (q : Nat) (A : Nat → Nat → Int32) (S : BS) (s : Nat → Nat → Int32) : Prop := (∀ a, a ≠ q → a ≠ q + 1 → a ≠ q + 3 → s a = A a) ∧ (∀ j, j ≠ 3 → s q j = A q j) ∧ s q 3 = nI S.1 ∧ (∀ d, d < 192 → s (q + 1) d = S.2.2 d) ∧ ∀ i, i < S.1 → s (q + 3) i = nI (S.2.1 i)
theorem e_reachAt {K N : Nat → Nat} {A s : Nat → Nat → Int32} {P : Nat → Nat → Option Nat} {q n0 u v : Nat} {S : BS} {key : Nat → Int32} {k : Int32} (hC : ChSh K N P q) (hS : BOk n0 S) (h : CS q A S s) (hk : ∀ d, d < 192 → A (q + 2) d = key d) (hu : u < 16) (hv : v < 12) : ∃ s', fn_X3_reach K N s P q (nI u) (nI v) k = some s' ∧ CS q A (stepB key k S (some (16 * v + u))) s' := by
  obtain ⟨k0, k1, n1, k2, n2, k3, n3, p0, p1, p2⟩ := hC
  obtain ⟨h1, h2, h3, h4, h5⟩ := h
  have hd : 16 * v + u < 192 := by omega
  obtain ⟨e, he⟩ : ∃ e, e = 16 * v + u := ⟨_, rfl⟩
  rw [← he] at hd ⊢
  have hle := hS.le
  unfold fn_X3_reach
  rw [e_isDot, bI_t ⟨⟨u, hu, rfl⟩, ⟨v, hv, rfl⟩⟩, Option.bind_some, if_neg (by decide), gd_pos k0, h3, e_dotAt, Option.bind_some, ← he, p0, Option.bind_some, gd_pos ⟨k1, by rw [n1]; exact vp_192 hd⟩, nI_clamp (by omega), h4 e hd, p1, Option.bind_some, gd_pos ⟨k2, by rw [n2]; exact vp_192 hd⟩, h1 (q + 2) (by omega) (by omega) (by omega), hk e hd]
  by_cases z : S.2.2 e = 0
  · have hlt := hS.lt hd z
    rw [if_pos (show nI S.1 < (192 : Int32) from nI_lt (b := 192) hlt (by decide)), if_pos z]
    by_cases w : key e = k
    · rw [if_pos w, Option.bind_some, nar_1, up2_o (show q ≠ q + 1 by omega), h3, p2, Option.bind_some, gd_pos ⟨k3, by rw [n3]; exact vp_192 hlt⟩, Option.bind_some, nI_clamp (by omega), up2_o (show q ≠ q + 3 by omega), up2_o (show q ≠ q + 1 by omega), h3, nI_1, Option.bind_some]
      rw [stepB_y z w]
      refine ⟨_, rfl, fun a x y z' => by rw [up2_o x, up2_o z', up2_o y]; exact h1 a x y z', fun j hj => by rw [up2_k hj, up2_o (by omega), up2_o (by omega)]; exact h2 j hj, by rw [up2_s], fun d hd2 => ?_, fun i hi => ?_⟩
      · rw [up2_o (by omega), up2_o (by omega)]
        show _ = up1 S.2.2 e 1 d
        by_cases k : d = e
        · rw [k, up1_s, up2_s]
        · rw [up1_k k, up2_k k]; exact h4 d hd2
      · rw [up2_o (by omega)]
        show _ = nI (if i = S.1 then e else S.2.1 i)
        by_cases k : i = S.1
        · rw [if_pos k, k, up2_s]
        · rw [if_neg k, up2_k k, up2_o (by omega)]
          have hi : i < S.1 + 1 := hi
          exact h5 i (by omega)
    · rw [if_neg w]
      exact ⟨s, rfl, by rw [stepB_w w]; exact ⟨h1, h2, h3, h4, h5⟩⟩
  · rw [stepB_z z, if_neg z]
    refine ⟨s, ?_, h1, h2, h3, h4, h5⟩
    split <;> rfl
theorem e_reachN {K N : Nat → Nat} {A s : Nat → Nat → Int32} {P : Nat → Nat → Option Nat} {q n0 d j : Nat} {S : BS} {key : Nat → Int32} {k : Int32} (hC : ChSh K N P q) (hS : BOk n0 S) (h : CS q A S s) (hk : ∀ d, d < 192 → A (q + 2) d = key d) (hd : d < 192) (hj : j < 4) (x y : Int32) (hx : x = if j = 0 then nI (d % 16) - 1 else if j = 1 then nI (d % 16) + 1 else nI (d % 16)) (hy : y = if j = 0 then nI (d / 16) else if j = 1 then nI (d / 16) else if j = 2 then nI (d / 16) - 1 else nI (d / 16) + 1) : ∃ s', fn_X3_reach K N s P q x y k = some s' ∧ CS q A (stepB key k S (nbr d j)) s' := by
  rcases nbr_at hd hj x y hx hy with ⟨h1, h2⟩ | ⟨u, v, hu, hv, h1, h2, h3⟩
  · refine ⟨s, ?_, by rw [h1]; exact h⟩
    unfold fn_X3_reach
    rw [e_isDot, bI_f h2, Option.bind_some, if_pos rfl]
  · rw [h1, h2, h3]
    exact e_reachAt hC hS h hk hu hv
theorem e_spread {K N : Nat → Nat} {A : Nat → Nat → Int32} {P : Nat → Nat → Option Nat} {q n0 st : Nat} {V : Nat → Int32} {key : Nat → Int32} (hC : ChSh K N P q) (hst : st < 192) (hV : BOk n0 (0, fun _ => 0, V)) (hk : ∀ d, d < 192 → A (q + 2) d = key d) (hA : ∀ d, d < 192 → A (q + 1) d = V d) : ∃ s, fn_X3_spreadFrom K N A P q (nI st) = some (nI (bfsN key (key st) (stepB key (key st) (0, fun _ => 0, V) (some st)) 192).1, s) ∧ CS q A (bfsN key (key st) (stepB key (key st) (0, fun _ => 0, V) (some st)) 192) s := by
  obtain ⟨k0, k1, n1, k2, n2, k3, n3, p0, p1, p2⟩ := id hC
  obtain ⟨Z, hZ⟩ : ∃ Z, Z = up2 A q 3 0 := ⟨_, rfl⟩
  have hZ0 : CS q A (0, fun _ => 0, V) Z := ⟨fun a x _ _ => by rw [hZ, up2_o x], fun j hj => by rw [hZ, up2_k hj], by rw [hZ, up2_s]; rfl, fun d hd => by rw [hZ, up2_o (by omega)]; exact hA d hd, fun i hi => absurd hi (by omega)⟩
  have ks : ∀ s S, CS q A S s → s (q + 2) st = key st := fun s S h => by rw [h.1 _ (by omega) (by omega) (by omega)]; exact hk st hst
  obtain ⟨s0, w1, w2⟩ := e_reachAt (k := key st) hC hV hZ0 hk (show st % 16 < 16 by omega) (show st / 16 < 12 by omega)
  rw [show 16 * (st / 16) + st % 16 = st by omega] at w2
  obtain ⟨S1, hS1⟩ : ∃ S1, S1 = stepB key (key st) (0, fun _ => 0, V) (some st) := ⟨_, rfl⟩
  rw [← hS1] at w2 ⊢
  have hok1 : BOk n0 S1 := by rw [hS1]; exact (hV.step (fun x hx => by injection hx with hx; omega)).1
  have key2 := while_ok (F := fun f i s => fn_X3_spreadFrom_L25 K N q (nI st) P (q + 2) f (nI i) s) 192 (fun i s => i ≤ 192 ∧ CS q A (bfsN key (key st) S1 i) s) (fun s => CS q A (bfsN key (key st) S1 192) s)
    (fun f i s hs kk => by
      simp only [fn_X3_spreadFrom_L25]
      obtain ⟨hi, hs⟩ := hs
      have hok := bfsN_ok (key := key) (k := key st) hok1 i
      have hle := hok.le
      rw [hs.2.2.1]
      by_cases c : (bfsN key (key st) S1 i).1 ≤ i
      · rw [if_pos (nI_le c (by omega))]
        exact ok_some.mpr (by rw [bfs_end (n0 := n0) c hi]; exact hs)
      · have hlt : i < (bfsN key (key st) S1 i).1 := by omega
        have hd := hok.2.2 i hlt
        obtain ⟨d, hd'⟩ : ∃ d, d = (bfsN key (key st) S1 i).2.1 i := ⟨_, rfl⟩
        rw [← hd'] at hd
        have hq : s (q + 3) i = nI d := by rw [hs.2.2.2.2 i hlt, hd']
        have hn : bfsN key (key st) S1 (i + 1) = expP key (key st) d (bfsN key (key st) S1 i) 4 := by rw [bfsN, if_neg c, hd']
        have E := expP_ok (key := key) (k := key st) hok hd
        rw [if_neg (nI_ge hlt (by omega)), p2, Option.bind_some, gd_pos ⟨k3, by rw [n3]; exact vp_192 (by omega)⟩, nI_clamp (by omega), hq, m16 (by omega), d16 (by omega), Option.bind_some, Option.bind_some, nI_clamp (by omega), ks s _ hs]
        obtain ⟨sa, a1, a2⟩ := e_reachN (j := 0) hC hok hs hk hd (by omega) (nI (d % 16) - 1) (nI (d / 16)) (by simp) (by simp)
        rw [a1, Option.bind_some, ks sa _ a2]
        obtain ⟨sb, b1, b2⟩ := e_reachN (j := 1) hC (E 1).1 a2 hk hd (by omega) (nI (d % 16) + 1) (nI (d / 16)) (by simp) (by simp)
        rw [b1, Option.bind_some, ks sb _ b2]
        obtain ⟨sc, c1, c2⟩ := e_reachN (j := 2) hC (E 2).1 b2 hk hd (by omega) (nI (d % 16)) (nI (d / 16) - 1) (by simp) (by simp)
        rw [c1, Option.bind_some, ks sc _ c2]
        obtain ⟨sd, d1, d2⟩ := e_reachN (j := 3) hC (E 3).1 c2 hk hd (by omega) (nI (d % 16)) (nI (d / 16) + 1) (by simp) (by simp)
        rw [d1, Option.bind_some, nI_1]
        exact kk sd (by omega) ⟨by omega, by rw [hn]; exact d2⟩)
    FU 0 s0 (Nat.zero_le _) (FU_lt (by omega)) ⟨Nat.zero_le _, w2⟩
  obtain ⟨s, v1, v2⟩ := key2
  have v1 : fn_X3_spreadFrom_L25 K N q (nI st) P (q + 2) FU 0 s0 = some s := v1
  refine ⟨s, ?_, v2⟩
  unfold fn_X3_spreadFrom
  rw [gd_pos k0, Option.bind_some, ← hZ, p1, Option.bind_some, gd_pos ⟨k2, by rw [n2]; exact vp_192 hst⟩, m16 (by omega), d16 (by omega), nI_clamp (by omega), ks Z _ hZ0, w1, Option.bind_some, v1, Option.bind_some, v2.2.2.1]
