/-! feed -/
def fy (x2 x3 x4 x5 x6 : Int32) (k : Nat) : Int32 := if k = 0 then x2 else if k = 1 then x3 else if k = 2 then x4 else if k = 3 then x5 else x6
def addN (I : Nat → Nat → Int32) (q r f : Nat) (y : Nat → Int32) : Nat → Nat → Nat → Int32
  | 0 => I
  | k + 1 => up2 (up2 (addN I q r f y k) r (f + k) (y k)) q 1 (nI (f + k + 1))
theorem addN_o {I : Nat → Nat → Int32} {q r f : Nat} {y : Nat → Int32} {a : Nat} (h : a ≠ q) (h' : a ≠ r) : ∀ k, addN I q r f y k a = I a
  | 0 => rfl
  | k + 1 => by rw [addN, up2_o h, up2_o h', addN_o h h' k]
theorem addN_q {I : Nat → Nat → Int32} {q r f : Nat} {y : Nat → Int32} (h : I q 1 = nI f) : ∀ k, addN I q r f y k q 1 = nI (f + k)
  | 0 => h
  | k + 1 => by rw [addN, up2_s]; rfl
theorem addN_r {I : Nat → Nat → Int32} {q r f : Nat} {y : Nat → Int32} (hqr : q ≠ r) : ∀ k j, addN I q r f y k r j = if f ≤ j ∧ j < f + k then y (j - f) else I r j
  | 0, j => by rw [if_neg (by omega)]; rfl
  | k + 1, j => by
    rw [addN, up2_o (fun e => hqr e.symm)]
    by_cases hj : j = f + k
    · subst hj
      rw [up2_s, if_pos (by omega), Nat.add_sub_cancel_left]
    · rw [up2_k hj, addN_r hqr k j]
      by_cases h2 : f ≤ j ∧ j < f + k
      · rw [if_pos h2, if_pos (by omega)]
      · rw [if_neg h2, if_neg (by omega)]
theorem e_feedL {K N : Nat → Nat} {J : Nat → Nat → Int32} {P : Nat → Nat → Option Nat} {m fed n : Nat} {x2 x3 x4 x5 x6 : Int32} (hM : ModSh K N P m) (hn : n ≤ 5) (hf : fed + n ≤ 60) (h5 : J m 5 = nI fed) : ∃ I', fn_X10_feed_L79 K N m (nI n) x2 x3 x4 x5 x6 P FU 0 J = some I' ∧ (∀ a, a ≠ m + 3 → I' a = J a) ∧ ∀ j, I' (m + 3) j = if fed ≤ j ∧ j < fed + n then fy x2 x3 x4 x5 x6 (j - fed) else J (m + 3) j := by
  have p4 : P m 4 = some (m + 3) := hM.2.2.2.2.1
  have k3 : K (m + 3) = 12 := hM.1.2.2.2.1
  have n3 : N (m + 3) = 60 := hM.2.1.2.2.1
  have key := loop_ok (F := fun f i s => fn_X10_feed_L79 K N m (nI n) x2 x3 x4 x5 x6 P f (nI i) s) n (fun i s => (∀ a, a ≠ m + 3 → s a = J a) ∧ ∀ j, s (m + 3) j = if fed ≤ j ∧ j < fed + i then fy x2 x3 x4 x5 x6 (j - fed) else J (m + 3) j) (fun r => (∀ a, a ≠ m + 3 → r a = J a) ∧ ∀ j, r (m + 3) j = if fed ≤ j ∧ j < fed + n then fy x2 x3 x4 x5 x6 (j - fed) else J (m + 3) j)
    (fun f s hs => by
      simp only [fn_X10_feed_L79]
      rw [if_pos (nI_le (Nat.le_refl _) (by omega))]
      exact ok_some.mpr hs)
    (fun f i s hi hs k => by
      have e5 : s m 5 = nI fed := by rw [hs.1 m (by omega)]; exact h5
      have hk : ok (fn_X10_feed_L79 K N m (nI n) x2 x3 x4 x5 x6 P f (nI (i + 1)) (up2 s (m + 3) (fed + i) (fy x2 x3 x4 x5 x6 i))) _ := k _ ⟨fun a ha => by rw [up2_o ha]; exact hs.1 a ha, fun j => by
        by_cases hj : j = fed + i
        · subst hj; rw [up2_s, if_pos (by omega), Nat.add_sub_cancel_left]
        · rw [up2_k hj, hs.2]
          by_cases h2 : fed ≤ j ∧ j < fed + i
          · rw [if_pos h2, if_pos (by omega)]
          · rw [if_neg h2, if_neg (by omega)]⟩
      have vi : K (m + 3) = 12 ∧ vp_in (nI (fed + i)) (N (m + 3)) := ⟨k3, by rw [n3]; exact vp_in_nI (by omega) (by decide)⟩
      simp only [fn_X10_feed_L79]
      rw [if_neg (nI_ge hi (by omega)), p4, Option.bind_some, e5, nI_add, gd_pos vi, gd_pos vi, gd_pos vi, gd_pos vi, gd_pos vi, nI_clamp (by omega), nI_1]
      simp only [Option.bind_some]
      have hc : i = 0 ∨ i = 1 ∨ i = 2 ∨ i = 3 ∨ i = 4 := by omega
      rcases hc with h | h | h | h | h <;> subst h
      · exact hk
      · exact hk
      · exact hk
      · exact hk
      · exact hk)
    FU 0 J (Nat.zero_le _) (FU_lt (by omega)) ⟨fun _ _ => rfl, fun j => by rw [if_neg (by omega)]⟩
  obtain ⟨r, h1, h2⟩ := key
  exact ⟨r, h1, h2⟩
