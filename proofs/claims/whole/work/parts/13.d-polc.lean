/-! lines and strokes of the class -/
def StC (K N : Nat → Nat) (P : Nat → Nat → Option Nat) (A : Nat → Nat → Int32) (c q r : Nat) (mk : Nat → Int32) (cv : Nat → Nat → Nat → Int32) : Prop := PicSh K N P c ∧ LaySh K N P q ∧ c + 5 < q ∧ r < 5 ∧ (A (c + 4) 1 = nI r ∧ (A (c + 4) 2 = -1 ∨ inR (A (c + 4) 2) 256)) ∧ (A (c + 2) 1 = nI (cnt1 mk 192) ∧ ∀ d, d < 192 → A (c + 3) d = mk d) ∧ (∀ x y, x < 16 → y < 12 → ∀ z : Nat → Nat → Int32, (∀ a, a ≠ q + 1 → a ≠ q + 2 → z a = A a) → ∀ d, d < 192 → fn_X2_coverAt K N z P (c + 4) (nI (d % 16) - nI x) (nI (d / 16) - nI y) = some (cv x y d)) ∧ CvI cv ∧ ∀ x y, x < 16 → y < 12 → ∀ d, d < 192 → (d % 16 + r < x ∨ x + r < d % 16 ∨ d / 16 + r < y ∨ y + r < d / 16) → cv x y d = 0
theorem e_stC1 {K N : Nat → Nat} {P : Nat → Nat → Option Nat} {A s : Nat → Nat → Int32} {c q r x y : Nat} {mk : Nat → Int32} {cv : Nat → Nat → Nat → Int32} {S : DT} (h : StC K N P A c q r mk cv) (hx : x < 16) (hy : y < 12) (hS : DI S) (hL : LyD A s q S.1 S.2) : ∃ s', fn_X6_stamp K N s P c q (nI x) (nI y) = some s' ∧ LyD A s' q (st1 mk (A (c + 4) 2) cv x y S).1 (st1 mk (A (c + 4) 2) cv x y S).2 := by
  obtain ⟨h1, h2, h3, h4, ⟨h5, h6⟩, ⟨h7, h8⟩, h9, h10, h11⟩ := h
  exact e_stampC (cov := cv x y) h1 h2 h3 hx hy h4 h5 h7 h8 (h9 x y hx hy) (h11 x y hx hy) hS hL
theorem e_linC {K N : Nat → Nat} {P : Nat → Nat → Option Nat} {A s : Nat → Nat → Int32} {c q r x y u v : Nat} {mk : Nat → Int32} {cv : Nat → Nat → Nat → Int32} {S : DT} (h : StC K N P A c q r mk cv) (hx : x < 16) (hy : y < 12) (hu : u < 16) (hv : v < 12) (hS : DI S) (hL : LyD A s q S.1 S.2) : ∃ s', fn_X6_drawLine K N s P c q (nI x) (nI y) (nI u) (nI v) = some (nI (ln x y u v), s') ∧ LyD A s' q (lin mk (A (c + 4) 2) cv x y u v S).1 (lin mk (A (c + 4) 2) cv x y u v S).2 := by
  obtain ⟨n, hn⟩ : ∃ n, n = ln x y u v := ⟨_, rfl⟩
  have hl := ln_lt hx hy hu hv
  have k7 : K c = 7 := h.1.1.1
  have hb := h.2.2.2.2.1.2
  have hc := h.2.2.2.2.2.2.2.1
  have key := loop_ok (F := fun f k s => fn_X6_drawLine_L22 K N c q (nI x) (nI y) (nI u) (nI v) P (nI n) f (nI k) s) (n + 1) (fun k s => 1 ≤ k ∧ LyD A s q (linK mk (A (c + 4) 2) cv x y u v S (k - 1)).1 (linK mk (A (c + 4) 2) cv x y u v S (k - 1)).2) (fun s => LyD A s q (linK mk (A (c + 4) 2) cv x y u v S n).1 (linK mk (A (c + 4) 2) cv x y u v S n).2)
    (fun f s hs => by
      simp only [fn_X6_drawLine_L22]
      rw [if_pos (nI_lt (Nat.lt_succ_self _) (by omega))]
      exact ok_some.mpr hs.2)
    (fun f k s hk hs kk => by
      simp only [fn_X6_drawLine_L22]
      obtain ⟨k1, hs⟩ := hs
      have o1 := btN_ok (m := 16) (k := k) (n := n) (Nat.le_refl _) hx hu k1 (by omega) (by omega) (by rw [hn]; unfold ln; omega)
      have o2 := btN_ok (m := 12) (k := k) (n := n) (by decide) hy hv k1 (by omega) (by omega) (by rw [hn]; unfold ln; omega)
      rw [if_neg (nI_nlt (by omega) (by omega)), e_bet k1 (by omega) (by omega), Option.bind_some, e_bet k1 (by omega) (by omega), Option.bind_some, o1.1, o2.1]
      obtain ⟨s', w1, w2⟩ := e_stC1 h o1.2 o2.2 (linK_in hb hc hx hy hu hv hS (k - 1) (by omega)) hs
      rw [w1, Option.bind_some, gd_pos k7, nI_1]
      refine kk s' ⟨by omega, ?_⟩
      have e : linK mk (A (c + 4) 2) cv x y u v S (k + 1 - 1) = st1 mk (A (c + 4) 2) cv (btN x u k n) (btN y v k n) (linK mk (A (c + 4) 2) cv x y u v S (k - 1)) := by
        obtain ⟨j, rfl⟩ : ∃ j, k = j + 1 := ⟨k - 1, by omega⟩
        rw [hn]; rfl
      rw [e]
      exact w2)
    FU 1 s (by omega) (FU_lt (by omega)) ⟨Nat.le_refl _, hL⟩
  obtain ⟨s', h1, h2⟩ := key
  have h1 : fn_X6_drawLine_L22 K N c q (nI x) (nI y) (nI u) (nI v) P (nI n) FU 1 s = some s' := h1
  refine ⟨s', ?_, ?_⟩
  · unfold fn_X6_drawLine
    rw [e_ln (by omega) (by omega) (by omega) (by omega), Option.bind_some, ← hn, h1, Option.bind_some]
  · unfold lin; rw [← hn]; exact h2
theorem e_polC {K N : Nat → Nat} {P : Nat → Nat → Option Nat} {A s : Nat → Nat → Int32} {c q r t X Y n : Nat} {xs ys : Nat → Nat} {mk : Nat → Int32} {cv : Nat → Nat → Nat → Int32} {S : DT} (h : StC K N P A c q r mk cv) (hX : K X = 12 ∧ N X = 60 ∧ K Y = 12 ∧ N Y = 60) (hq : t ≠ q + 1 ∧ t ≠ q + 2 ∧ X ≠ q + 1 ∧ X ≠ q + 2 ∧ Y ≠ q + 1 ∧ Y ≠ q + 2) (hn : n ≤ 56) (h4 : A t 4 = nI (n + 1)) (hxy : ∀ j, j ≤ n → (A X j = nI (xs j) ∧ A Y j = nI (ys j)) ∧ xs j < 16 ∧ ys j < 12) (hS : DI S) (hL : LyD A s q (pol mk (A (c + 4) 2) cv xs ys S 0).1 (pol mk (A (c + 4) 2) cv xs ys S 0).2) : ∃ s', fn_X6_drawStroke_L41 K N c t P q X Y FU 1 1 s = some (nI (stm xs ys n), s') ∧ LyD A s' q (pol mk (A (c + 4) 2) cv xs ys S n).1 (pol mk (A (c + 4) 2) cv xs ys S n).2 := by
  have hb := h.2.2.2.2.1.2
  have hc := h.2.2.2.2.2.2.2.1
  obtain ⟨bi, hbi⟩ : ∃ bi, bi = A (c + 4) 2 := ⟨_, rfl⟩
  rw [← hbi] at hL hb ⊢
  obtain ⟨kX, nX, kY, nY⟩ := hX
  obtain ⟨t1, t2, t3, t4, t5, t6⟩ := hq
  have key := loop_ok (F := fun f k (z : Int32 × (Nat → Nat → Int32)) => fn_X6_drawStroke_L41 K N c t P q X Y f z.1 (nI k) z.2) (n + 1) (fun k z => 1 ≤ k ∧ z.1 = nI (stm xs ys (k - 1)) ∧ LyD A z.2 q (pol mk bi cv xs ys S (k - 1)).1 (pol mk bi cv xs ys S (k - 1)).2) (fun z => z.1 = nI (stm xs ys n) ∧ LyD A z.2 q (pol mk bi cv xs ys S n).1 (pol mk bi cv xs ys S n).2)
    (fun f z hz => by
      simp only [fn_X6_drawStroke_L41]
      obtain ⟨k1, z1, z2⟩ := hz
      rw [z2.1 t t1 t2, h4, if_pos (nI_le (Nat.le_refl _) (by omega))]
      exact ok_some.mpr ⟨z1, z2⟩)
    (fun f k z hk hz kk => by
      simp only [fn_X6_drawStroke_L41]
      obtain ⟨k1, z1, z2⟩ := hz
      obtain ⟨⟨a1, a2⟩, a3, a4⟩ := hxy (k - 1) (by omega)
      obtain ⟨⟨b1, b2⟩, b3, b4⟩ := hxy k (by omega)
      have hm : nI k - (1 : Int32) = nI (k - 1) := pk_sub (b := 1) k1
      have vk : vp_in (nI k) 60 := vp_in_nI (by omega) (by decide)
      have vj : vp_in (nI (k - 1)) 60 := vp_in_nI (by omega) (by decide)
      rw [z2.1 t t1 t2, h4, if_neg (nI_ge hk (by omega)), hm, gd_pos ⟨kX, by rw [nX]; exact vj⟩, gd_pos ⟨kY, by rw [nY]; exact vj⟩, gd_pos ⟨kX, by rw [nX]; exact vk⟩, gd_pos ⟨kY, by rw [nY]; exact vk⟩, nI_clamp (by omega), nI_clamp (by omega), z2.1 X t3 t4, z2.1 Y t5 t6, a1, a2, b1, b2]
      obtain ⟨s', w1, w2⟩ := e_linC (s := z.2) h a3 a4 b3 b4 (pol_in (mk := mk) (bi := bi) (xs := xs) (ys := ys) (n := k - 1) hb hc hS (fun j hj => (hxy j (by omega)).2)) z2
      rw [w1, Option.bind_some, Option.bind_some, z1, nI_add, nI_1]
      refine kk (nI (stm xs ys (k - 1) + ln (xs (k - 1)) (ys (k - 1)) (xs k) (ys k)), s') ⟨by omega, ?_⟩
      rw [← hbi] at w2
      obtain ⟨j, rfl⟩ : ∃ j, k = j + 1 := ⟨k - 1, by omega⟩
      exact ⟨rfl, w2⟩)
    FU 1 (1, s) (by omega) (FU_lt (by omega)) ⟨Nat.le_refl _, rfl, hL⟩
  obtain ⟨z, h1, h2, h3⟩ := key
  have h1 : fn_X6_drawStroke_L41 K N c t P q X Y FU 1 1 s = some z := h1
  exact ⟨z.2, by rw [h1, ← h2], h3⟩
