/-! the parse, pure -/
theorem t12 : (1 : Nat) ≤ 2 := by decide
theorem t22 : (2 : Nat) ≤ 2 := by decide
theorem n21 : ¬ (2 : Nat) = 1 := by decide
abbrev PR : Type := Nat × Nat × Nat × Nat
noncomputable def nvA (f : Nat → Int32) (fed p : Nat) : Nat := nv f (sP f fed p) (eP f fed p)
/-- a place is read at e -/
noncomputable def plP (f : Nat → Int32) (fed e : Nat) : PR := @ite _ (isNum f fed e 16) (Classical.propDecidable _) (@ite _ (isNum f fed (eP f fed e) 12) (Classical.propDecidable _) (1, eP f fed (eP f fed e), nvA f fed e, nvA f fed (eP f fed e)) (2, sP f fed (eP f fed e), 0, 0)) (2, sP f fed e, 0, 0)
noncomputable def acP (f : Nat → Int32) (fed e y : Nat) : PR := @ite _ (isNum f fed e 16) (Classical.propDecidable _) (1, eP f fed e, nvA f fed e, y) (2, sP f fed e, 0, 0)
noncomputable def dnP (f : Nat → Int32) (fed e x : Nat) : PR := @ite _ (isNum f fed e 12) (Classical.propDecidable _) (1, eP f fed e, x, nvA f fed e) (2, sP f fed e, 0, 0)
noncomputable def nxP (f : Nat → Int32) (fed x0 y0 p x y : Nat) : PR := if kdP f fed p = 0 then (0, 0, 0, 0) else if kdP f fed p = 4 then plP f fed (eP f fed p) else if kdP f fed p = 5 then acP f fed (eP f fed p) y else if kdP f fed p = 6 then dnP f fed (eP f fed p) x else if kdP f fed p = 7 then (1, eP f fed p, x0, y0) else (2, sP f fed p, 0, 0)
noncomputable def fsP (f : Nat → Int32) (fed : Nat) : PR := if kdP f fed 0 = 3 then plP f fed (eP f fed 0) else (2, sP f fed 0, 0, 0)
noncomputable def stN (f : Nat → Int32) (fed : Nat) : Nat → Nat × Nat × Nat
  | 0 => (fsP f fed).2
  | n + 1 => (nxP f fed (fsP f fed).2.2.1 (fsP f fed).2.2.2 (stN f fed n).1 (stN f fed n).2.1 (stN f fed n).2.2).2
noncomputable def cdN (f : Nat → Int32) (fed n : Nat) : Nat := (nxP f fed (fsP f fed).2.2.1 (fsP f fed).2.2.2 (stN f fed n).1 (stN f fed n).2.1 (stN f fed n).2.2).1
theorem plP_ok {f : Nat → Int32} {fed e : Nat} (he : e ≤ fed) : ((plP f fed e).1 = 1 ∨ (plP f fed e).1 = 2) ∧ ((plP f fed e).1 = 1 → e ≤ (plP f fed e).2.1 ∧ (plP f fed e).2.1 ≤ fed ∧ (plP f fed e).2.2.1 < 16 ∧ (plP f fed e).2.2.2 < 12) ∧ (plP f fed e).2.1 ≤ 2 * fed := by
  obtain ⟨a1, a2⟩ := sP_ok (f := f) he
  obtain ⟨b1, b2⟩ := eP_ok (f := f) he
  obtain ⟨c1, c2⟩ := sP_ok (f := f) b2
  obtain ⟨d1, d2⟩ := eP_ok (f := f) b2
  unfold plP
  by_cases h : isNum f fed e 16
  · rw [if_pos h]
    by_cases h2 : isNum f fed (eP f fed e) 12
    · rw [if_pos h2]
      exact ⟨Or.inl rfl, fun _ => ⟨by show e ≤ eP f fed (eP f fed e); omega, by show eP f fed (eP f fed e) ≤ fed; omega, h.2.2.2, h2.2.2.2⟩, by show eP f fed (eP f fed e) ≤ _; omega⟩
    · rw [if_neg h2]
      exact ⟨Or.inr rfl, fun h => absurd h n21, by show sP f fed (eP f fed e) ≤ _; omega⟩
  · rw [if_neg h]
    exact ⟨Or.inr rfl, fun h => absurd h n21, by show sP f fed e ≤ _; omega⟩
theorem wk_len {f : Nat → Int32} {s e : Nat} (h : 3 ≤ wk f s e) : s + 4 ≤ e := by
  by_cases c : e - s < 4
  · rw [wk_no c] at h; omega
  · omega
theorem kd_len {f : Nat → Int32} {fed p : Nat} (h : 3 ≤ kdP f fed p) : sP f fed p + 4 ≤ eP f fed p := by
  by_cases c : sP f fed p = fed
  · rw [kdP_0 c] at h; omega
  · by_cases d : dgt (f (sP f fed p))
    · rw [kdP_d c d] at h; split at h <;> omega
    · rw [kdP_w c d] at h; exact wk_len h
theorem nxP_ok {f : Nat → Int32} {fed x0 y0 p x y : Nat} (hp : p ≤ fed) (hx : x < 16) (hy : y < 12) (hx0 : x0 < 16) (hy0 : y0 < 12) : (nxP f fed x0 y0 p x y).1 ≤ 2 ∧ ((nxP f fed x0 y0 p x y).1 = 1 → p + 1 ≤ (nxP f fed x0 y0 p x y).2.1 ∧ (nxP f fed x0 y0 p x y).2.1 ≤ fed ∧ (nxP f fed x0 y0 p x y).2.2.1 < 16 ∧ (nxP f fed x0 y0 p x y).2.2.2 < 12) ∧ (nxP f fed x0 y0 p x y).2.1 ≤ 2 * fed := by
  obtain ⟨a1, a2⟩ := sP_ok (f := f) hp
  obtain ⟨b1, b2⟩ := eP_ok (f := f) hp
  have hk := kd_len (f := f) (fed := fed) (p := p)
  unfold nxP
  by_cases k0 : kdP f fed p = 0
  · rw [if_pos k0]; exact ⟨by decide, fun h => absurd h (by decide), Nat.zero_le _⟩
  rw [if_neg k0]
  by_cases k4 : kdP f fed p = 4
  · rw [if_pos k4]
    obtain ⟨h1, h2, h3⟩ := plP_ok (f := f) b2
    have := hk (by omega)
    refine ⟨by omega, fun h => ?_, h3⟩
    obtain ⟨q1, q2, q3, q4⟩ := h2 h
    exact ⟨by omega, q2, q3, q4⟩
  rw [if_neg k4]
  by_cases k5 : kdP f fed p = 5
  · rw [if_pos k5]
    have := hk (by omega)
    obtain ⟨c1, c2⟩ := sP_ok (f := f) b2
    obtain ⟨d1, d2⟩ := eP_ok (f := f) b2
    unfold acP
    by_cases h : isNum f fed (eP f fed p) 16
    · rw [if_pos h]
      exact ⟨t12, fun _ => ⟨by show p + 1 ≤ eP f fed (eP f fed p); omega, by show eP f fed (eP f fed p) ≤ fed; omega, h.2.2.2, hy⟩, by show eP f fed (eP f fed p) ≤ _; omega⟩
    · rw [if_neg h]; exact ⟨t22, fun h => absurd h n21, by show sP f fed (eP f fed p) ≤ _; omega⟩
  rw [if_neg k5]
  by_cases k6 : kdP f fed p = 6
  · rw [if_pos k6]
    have := hk (by omega)
    obtain ⟨c1, c2⟩ := sP_ok (f := f) b2
    obtain ⟨d1, d2⟩ := eP_ok (f := f) b2
    unfold dnP
    by_cases h : isNum f fed (eP f fed p) 12
    · rw [if_pos h]
      exact ⟨t12, fun _ => ⟨by show p + 1 ≤ eP f fed (eP f fed p); omega, by show eP f fed (eP f fed p) ≤ fed; omega, hx, h.2.2.2⟩, by show eP f fed (eP f fed p) ≤ _; omega⟩
    · rw [if_neg h]; exact ⟨t22, fun h => absurd h n21, by show sP f fed (eP f fed p) ≤ _; omega⟩
  rw [if_neg k6]
  by_cases k7 : kdP f fed p = 7
  · rw [if_pos k7]
    have := hk (by omega)
    exact ⟨t12, fun _ => ⟨by show p + 1 ≤ eP f fed p; omega, b2, hx0, hy0⟩, by show eP f fed p ≤ _; omega⟩
  rw [if_neg k7]
  exact ⟨t22, fun h => absurd h n21, by show sP f fed p ≤ _; omega⟩
theorem fsP_ok (f : Nat → Int32) (fed : Nat) : ((fsP f fed).1 = 1 ∨ (fsP f fed).1 = 2) ∧ ((fsP f fed).1 = 1 → 4 ≤ (fsP f fed).2.1 ∧ (fsP f fed).2.1 ≤ fed ∧ (fsP f fed).2.2.1 < 16 ∧ (fsP f fed).2.2.2 < 12) ∧ (fsP f fed).2.1 ≤ 2 * fed := by
  obtain ⟨a1, a2⟩ := sP_ok (f := f) (Nat.zero_le fed)
  obtain ⟨b1, b2⟩ := eP_ok (f := f) (Nat.zero_le fed)
  unfold fsP
  by_cases k : kdP f fed 0 = 3
  · rw [if_pos k]
    obtain ⟨h1, h2, h3⟩ := plP_ok (f := f) b2
    have := kd_len (f := f) (fed := fed) (p := 0) (by omega)
    refine ⟨h1, fun h => ?_, h3⟩
    obtain ⟨q1, q2, q3, q4⟩ := h2 h
    exact ⟨by omega, q2, q3, q4⟩
  · rw [if_neg k]
    exact ⟨Or.inr rfl, fun h => absurd h n21, by show sP f fed 0 ≤ _; omega⟩
theorem stN_ok {f : Nat → Int32} {fed : Nat} (h1 : (fsP f fed).1 = 1) (n : Nat) : (∀ i, i < n → cdN f fed i = 1) → 4 + n ≤ (stN f fed n).1 ∧ (stN f fed n).1 ≤ fed ∧ (stN f fed n).2.1 < 16 ∧ (stN f fed n).2.2 < 12 := by
  obtain ⟨q1, q2, q3, q4⟩ := (fsP_ok f fed).2.1 h1
  induction n with
  | zero => intro _; exact ⟨q1, q2, q3, q4⟩
  | succ n ih =>
    intro h
    obtain ⟨i1, i2, i3, i4⟩ := ih (fun i hi => h i (by omega))
    obtain ⟨-, n2, -⟩ := nxP_ok (f := f) i2 i3 i4 q3 q4
    obtain ⟨r1, r2, r3, r4⟩ := n2 (h n (by omega))
    refine ⟨?_, r2, r3, r4⟩
    show 4 + (n + 1) ≤ (nxP f fed (fsP f fed).2.2.1 (fsP f fed).2.2.2 (stN f fed n).1 (stN f fed n).2.1 (stN f fed n).2.2).2.1
    omega
/-- where the steps end -/
theorem end_ex {f : Nat → Int32} {fed : Nat} (hfed : fed ≤ 60) (h1 : (fsP f fed).1 = 1) : ∃ n, n ≤ 56 ∧ (∀ i, i < n → cdN f fed i = 1) ∧ (cdN f fed n = 0 ∨ cdN f fed n = 2) := by
  have key : ∀ m, (∀ i, i < m → cdN f fed i = 1) ∨ ∃ n, n < m ∧ (∀ i, i < n → cdN f fed i = 1) ∧ cdN f fed n ≠ 1 := by
    intro m
    induction m with
    | zero => exact Or.inl (fun i hi => absurd hi (by omega))
    | succ m ih =>
      rcases ih with h | ⟨n, h1, h2, h3⟩
      · by_cases c : cdN f fed m = 1
        · exact Or.inl (fun i hi => by
            by_cases e : i = m
            · rw [e]; exact c
            · exact h i (by omega))
        · exact Or.inr ⟨m, by omega, h, c⟩
      · exact Or.inr ⟨n, by omega, h2, h3⟩
  rcases key 57 with h | ⟨n, h2, h3, h4⟩
  · have := stN_ok h1 57 h
    omega
  · obtain ⟨i1, i2, i3, i4⟩ := stN_ok h1 n h3
    obtain ⟨q1, q2, q3, q4⟩ := (fsP_ok f fed).2.1 h1
    have := (nxP_ok (f := f) i2 i3 i4 q3 q4).1
    have h5 : cdN f fed n ≤ 2 := this
    exact ⟨n, by omega, h3, by omega⟩
