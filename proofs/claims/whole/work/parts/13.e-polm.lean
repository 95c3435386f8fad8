/-! lines of the model, in a layer or in none -/
def GrW (B s : Nat → Nat → Int32) (m l : Nat) (S : DT) : Prop := (∀ a, a ≠ m → a ≠ m + 1 → s a = B a) ∧ (∀ j, ¬ (20 + 192 * l ≤ j ∧ j < 20 + 192 * l + 192) → ¬ (788 + 192 * l ≤ j ∧ j < 788 + 192 * l + 192) → s (m + 1) j = B (m + 1) j) ∧ ∀ d, d < 192 → s (m + 1) (20 + 192 * l + d) = S.1 d ∧ s (m + 1) (788 + 192 * l + d) = S.2 d
def GrX (L : Int32) (B s : Nat → Nat → Int32) (m : Nat) (S : DT) : Prop := (L < 0 ∧ ∀ a, a ≠ m → s a = B a) ∨ (∃ l, l < 4 ∧ L = nI l ∧ GrW B s m l S)
theorem GrX.put {L : Int32} {B s s' : Nat → Nat → Int32} {m : Nat} {S : DT} (h : GrX L B s m S) (hs : ∀ a, a ≠ m → s' a = s a) : GrX L B s' m S := by
  rcases h with ⟨h1, h2⟩ | ⟨l, h1, h2, h3, h4, h5⟩
  · exact Or.inl ⟨h1, fun a ha => by rw [hs a ha]; exact h2 a ha⟩
  · refine Or.inr ⟨l, h1, h2, fun a ha hb => by rw [hs a ha]; exact h3 a ha hb, fun j g1 g2 => ?_, fun d hd => ?_⟩
    · rw [hs (m + 1) (by omega)]; exact h4 j g1 g2
    · rw [hs (m + 1) (by omega)]; exact h5 d hd
theorem GrX.tape {L : Int32} {B s : Nat → Nat → Int32} {m : Nat} {S : DT} (h : GrX L B s m S) : s (m + 3) = B (m + 3) := by
  rcases h with ⟨h1, h2⟩ | ⟨l, h1, h2, h3, h4, h5⟩
  · exact h2 _ (by omega)
  · exact h3 _ (by omega) (by omega)
def StM (K N : Nat → Nat) (P : Nat → Nat → Option Nat) (B : Nat → Nat → Int32) (m : Nat) (mk : Nat → Int32) (cv : Nat → Nat → Nat → Int32) : Prop := ModSh K N P m ∧ (∀ d, d < 192 → B (m + 1) (1556 + d) = mk d ∧ (mk d = 0 ∨ mk d = 1)) ∧ ∀ x y, x < 16 → y < 12 → ∀ z : Nat → Nat → Int32, z (m + 1) 2 = B (m + 1) 2 → z (m + 1) 3 = B (m + 1) 3 → z (m + 1) 5 = B (m + 1) 5 → ∀ d, d < 192 → fn_X10_touched K N z P m (nI (d % 16) - nI x) (nI (d / 16) - nI y) = some (cv x y d)
def Fr3 (L : Int32) (mk : Nat → Int32) (m : Nat) (s : Nat → Nat → Int32) : Prop := ¬ L < 0 → s m 3 = if cnt1 mk 192 = 0 then 1 else 0
theorem e_stM1 {K N : Nat → Nat} {P : Nat → Nat → Option Nat} {B s : Nat → Nat → Int32} {m x y : Nat} {L : Int32} {mk : Nat → Int32} {cv : Nat → Nat → Nat → Int32} {S : DT} (h : StM K N P B m mk cv) (h3 : Fr3 L mk m s) (hx : x < 16) (hy : y < 12) (hL : ¬ L < 0) (hG : GrX L B s m S) : ∃ s', fn_X10_stamps K N s P m L (nI x) (nI y) = some s' ∧ GrX L B s' m (st1 mk (B (m + 1) 4) cv x y S) ∧ s' m = s m := by
  obtain ⟨hM, hm, hcv⟩ := h
  rcases hG with ⟨h1, h2⟩ | ⟨l, h1, h2, g1, g2, g3⟩
  · exact absurd h1 hL
  · have gk : ∀ j, (j < 20 ∨ 1556 ≤ j) → s (m + 1) j = B (m + 1) j := fun j hj => g2 j (by omega) (by omega)
    obtain ⟨s', w1, w2⟩ := e_stampM (B := s) (s := s) (cov := cv x y) (mk := mk) hM h1 (h3 hL) (fun d hd => by rw [gk _ (by omega)]; exact hm d hd) (fun z e2 e3 e5 => hcv x y hx hy z (by rw [e2]; exact gk 2 (by omega)) (by rw [e3]; exact gk 3 (by omega)) (by rw [e5]; exact gk 5 (by omega))) ⟨fun _ _ => rfl, fun _ _ _ => rfl, g3⟩
    rw [gk 4 (by omega)] at w2
    obtain ⟨v1, v2, v3⟩ := w2
    refine ⟨s', by rw [h2]; exact w1, Or.inr ⟨l, h1, h2, fun a ha hb => by rw [v1 a hb]; exact g1 a ha hb, fun j j1 j2 => by rw [v2 j j1 j2]; exact g2 j j1 j2, v3⟩, v1 m (by omega)⟩
theorem dry_st {L : Int32} {B s : Nat → Nat → Int32} {m : Nat} {S S' : DT} (hL : L < 0) (h : GrX L B s m S) : GrX L B s m S' := by
  rcases h with ⟨h1, h2⟩ | ⟨l, h1, h2, g1, g2, g3⟩
  · exact Or.inl ⟨h1, h2⟩
  · rw [h2] at hL; exact absurd hL (nI_pos (by omega))
theorem e_linM {K N : Nat → Nat} {P : Nat → Nat → Option Nat} {B s : Nat → Nat → Int32} {m x y u v c : Nat} {L : Int32} {mk : Nat → Int32} {cv : Nat → Nat → Nat → Int32} {S : DT} (h : StM K N P B m mk cv) (h3 : Fr3 L mk m s) (hx : x < 16) (hy : y < 12) (hu : u < 16) (hv : v < 12) (h10 : s m 10 = nI x) (h11 : s m 11 = nI y) (h14 : s m 14 = nI c) (hG : GrX L B s m S) : ∃ s', fn_X10_lineTo K N s P m L (nI u) (nI v) = some s' ∧ GrX L B s' m (lin mk (B (m + 1) 4) cv x y u v S) ∧ (∀ j, j ≠ 10 → j ≠ 11 → j ≠ 14 → s' m j = s m j) ∧ s' m 10 = nI u ∧ s' m 11 = nI v ∧ s' m 14 = nI (c + ln x y u v) := by
  obtain ⟨n, hn⟩ : ∃ n, n = ln x y u v := ⟨_, rfl⟩
  have hl := ln_lt hx hy hu hv
  have km : K m = 11 := h.1.1.1
  have key : ∃ r, fn_X10_lineTo_L26 K N m L (nI u) (nI v) P (nI n) FU 1 s = some r ∧ GrX L B r m (lin mk (B (m + 1) 4) cv x y u v S) ∧ r m = s m := by
    by_cases hL : L < 0
    · obtain ⟨g, hg⟩ : ∃ g, FU = g + 1 := ⟨5999, rfl⟩
      have k1 : ok (fn_X10_lineTo_L26 K N m L (nI u) (nI v) P (nI n) FU 1 s) (fun r => r = s) := by
        rw [hg]
        simp only [fn_X10_lineTo_L26]
        by_cases q0 : nI n < (1 : Int32)
        · rw [if_pos q0]; exact ok_some.mpr rfl
        · rw [if_neg q0, if_pos hL]; exact ok_some.mpr rfl
      obtain ⟨r, r1, r2⟩ := k1
      exact ⟨r, r1, by rw [r2]; exact dry_st hL hG, by rw [r2]⟩
    · have k1 := loop_ok (F := fun f k s => fn_X10_lineTo_L26 K N m L (nI u) (nI v) P (nI n) f (nI k) s) (n + 1) (fun k z => 1 ≤ k ∧ GrX L B z m (linK mk (B (m + 1) 4) cv x y u v S (k - 1)) ∧ z m = s m) (fun z => GrX L B z m (linK mk (B (m + 1) 4) cv x y u v S n) ∧ z m = s m)
        (fun f z hz => by
          simp only [fn_X10_lineTo_L26]
          rw [if_pos (nI_lt (Nat.lt_succ_self _) (by omega))]
          exact ok_some.mpr hz.2)
        (fun f k z hk hz kk => by
          simp only [fn_X10_lineTo_L26]
          obtain ⟨k1, hz, zm⟩ := hz
          have o1 := btN_ok (m := 16) (k := k) (n := n) (Nat.le_refl _) hx hu k1 (by omega) (by omega) (by rw [hn]; unfold ln; omega)
          have o2 := btN_ok (m := 12) (k := k) (n := n) (by decide) hy hv k1 (by omega) (by omega) (by rw [hn]; unfold ln; omega)
          have t2 := two_n (n := n) (by omega) (by omega)
          have z10 : z m 10 = nI x := by rw [zm]; exact h10
          have z11 : z m 11 = nI y := by rw [zm]; exact h11
          obtain ⟨s', w1, w2, w3⟩ := e_stM1 (s := z) h (fun q => by rw [zm]; exact h3 q) o1.2 o2.2 hL hz
          rw [← o1.1, ← o2.1] at w1
          have w1 : fn_X10_stamps K N z P m L (nI x + fl (((2 : Int32) * nI k) * (nI u - nI x) + nI n) ((2 : Int32) * nI n)) (nI y + fl (((2 : Int32) * nI k) * (nI v - nI y) + nI n) ((2 : Int32) * nI n)) = some s' := w1
          rw [if_neg (nI_nlt (by omega) (by omega)), if_neg hL, z10, z11, e_fl t2, Option.bind_some, e_fl t2, Option.bind_some, w1, Option.bind_some, nI_1]
          refine kk s' ⟨by omega, ?_, by rw [w3]; exact zm⟩
          have e : linK mk (B (m + 1) 4) cv x y u v S (k + 1 - 1) = st1 mk (B (m + 1) 4) cv (btN x u k n) (btN y v k n) (linK mk (B (m + 1) 4) cv x y u v S (k - 1)) := by
            obtain ⟨j, rfl⟩ : ∃ j, k = j + 1 := ⟨k - 1, by omega⟩
            rw [hn]; rfl
          rw [e]
          exact w2)
        FU 1 s (by omega) (FU_lt (by omega)) ⟨Nat.le_refl _, hG, rfl⟩
      obtain ⟨r, r1, r2, r3⟩ := k1
      exact ⟨r, r1, by unfold lin; rw [← hn]; exact r2, r3⟩
  obtain ⟨r, r1, r2, r3⟩ := key
  refine ⟨up2 (up2 (up2 r m 14 (r m 14 + nI n)) m 10 (nI u)) m 11 (nI v), ?_, r2.put (fun a ha => by rw [up2_o ha, up2_o ha, up2_o ha]), fun j j1 j2 j3 => by rw [up2_k j2, up2_k j1, up2_k j3, r3], by rw [up2_k (by decide), up2_s], up2_s, ?_⟩
  · unfold fn_X10_lineTo
    rw [gd_pos km, h10, h11, e_ln (by omega) (by omega) (by omega) (by omega), Option.bind_some, ← hn, r1, Option.bind_some, Option.bind_some, Option.bind_some, Option.bind_some]
  · rw [up2_k (by decide), up2_k (by decide), up2_s, r3, h14, nI_add, hn]
theorem e_movM {K N : Nat → Nat} {P : Nat → Nat → Option Nat} {B s : Nat → Nat → Int32} {m x y : Nat} {L : Int32} {mk : Nat → Int32} {cv : Nat → Nat → Nat → Int32} {S : DT} (h : StM K N P B m mk cv) (h3 : Fr3 L mk m s) (hx : x < 16) (hy : y < 12) (hG : GrX L B s m S) : ∃ s', fn_X10_moveTo K N s P m L (nI x) (nI y) = some s' ∧ GrX L B s' m (st1 mk (B (m + 1) 4) cv x y S) ∧ (∀ j, j < 10 ∨ 14 < j → s' m j = s m j) ∧ s' m 10 = nI x ∧ s' m 11 = nI y ∧ s' m 12 = nI x ∧ s' m 13 = nI y ∧ s' m 14 = nI 1 := by
  have km : K m = 11 := h.1.1.1
  have key : ∃ r, (if L < 0 then (some s) else (Option.bind (fn_X10_stamps K N s P m L (nI x) (nI y)) (fun r9 => gd (K m = 11) (some r9)))) = some r ∧ GrX L B r m (st1 mk (B (m + 1) 4) cv x y S) ∧ r m = s m := by
    by_cases hL : L < 0
    · exact ⟨s, by rw [if_pos hL], dry_st hL hG, rfl⟩
    · obtain ⟨r, w1, w2, w3⟩ := e_stM1 h h3 hx hy hL hG
      exact ⟨r, by rw [if_neg hL, w1, Option.bind_some, gd_pos km], w2, w3⟩
  obtain ⟨r, r1, r2, r3⟩ := key
  refine ⟨up2 (up2 (up2 (up2 (up2 r m 14 1) m 10 (nI x)) m 11 (nI y)) m 12 (nI x)) m 13 (nI y), ?_, r2.put (fun a ha => by rw [up2_o ha, up2_o ha, up2_o ha, up2_o ha, up2_o ha]), fun j hj => by rw [up2_k (by omega), up2_k (by omega), up2_k (by omega), up2_k (by omega), up2_k (by omega), r3], ?_, ?_, ?_, up2_s, ?_⟩
  · unfold fn_X10_moveTo
    rw [r1, Option.bind_some, gd_pos km, Option.bind_some, Option.bind_some, Option.bind_some, Option.bind_some, Option.bind_some]
  · rw [up2_k (by decide), up2_k (by decide), up2_k (by decide), up2_s]
  · rw [up2_k (by decide), up2_k (by decide), up2_s]
  · rw [up2_k (by decide), up2_s]
  · rw [up2_k (by decide), up2_k (by decide), up2_k (by decide), up2_k (by decide), up2_s]; rfl
