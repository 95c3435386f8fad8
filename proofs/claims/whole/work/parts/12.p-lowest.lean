/-! lowest terms -/
def lowN (x0 x1 : Int32) : Nat → Int32
  | 0 => x0
  | k + 1 => if x0 - x0 / nI (k + 2) * nI (k + 2) = 0 then (if x1 - x1 / nI (k + 2) * nI (k + 2) = 0 then x0 / nI (k + 2) else lowN x0 x1 k) else lowN x0 x1 k
theorem e_lowest (x0 x1 : Int32) : fn_X9_inLowestTerms x0 x1 = some (lowN x0 x1 9) := by
  have key := loop_ok (F := fun f t (_ : Unit) => fn_X9_inLowestTerms_L3 x0 x1 f (nI (10 - t))) 9 (fun t _ => lowN x0 x1 (9 - t) = lowN x0 x1 9) (fun u => Sum.elim (fun t => t) (fun _ => x0) u = lowN x0 x1 9)
    (fun f s hs => by
      simp only [fn_X9_inLowestTerms_L3]
      rw [if_pos (show nI (10 - 9) ≤ (1 : Int32) from nI_le (b := 1) (by omega) (by omega))]
      exact ok_some.mpr hs)
    (fun f t s ht hs kk => by
      simp only [fn_X9_inLowestTerms_L3]
      obtain ⟨k, hk⟩ : ∃ k, 9 - t = k + 1 := ⟨8 - t, by omega⟩
      have hv : 10 - t = k + 2 := by omega
      have hn : 10 - (t + 1) = k + 1 := by omega
      have hd : nI (k + 2) + (-1 : Int32) = nI (10 - (t + 1)) := by rw [nI_dn (by omega), hn]; congr 1
      have e9 : 9 - (t + 1) = k := by omega
      rw [hk] at hs
      have hl : lowN x0 x1 (k + 1) = if x0 - x0 / nI (k + 2) * nI (k + 2) = 0 then (if x1 - x1 / nI (k + 2) * nI (k + 2) = 0 then x0 / nI (k + 2) else lowN x0 x1 k) else lowN x0 x1 k := rfl
      rw [hl] at hs
      rw [hv, if_neg (show ¬ nI (k + 2) ≤ (1 : Int32) from nI_ge (a := 1) (by omega) (by omega)), gd_pos (show ¬ nI (k + 2) = 0 from fun e => by have := (nI_eq (b := 0) (by omega) (by decide)).mp e; omega), hd]
      by_cases c : x0 - x0 / nI (k + 2) * nI (k + 2) = 0
      · rw [if_pos c] at hs ⊢
        by_cases c2 : x1 - x1 / nI (k + 2) * nI (k + 2) = 0
        · rw [if_pos c2] at hs ⊢
          exact ok_some.mpr hs
        · rw [if_neg c2] at hs ⊢
          exact kk () (by rw [e9]; exact hs)
      · rw [if_neg c] at hs ⊢
        exact kk () (by rw [e9]; exact hs))
    FU 0 () (Nat.zero_le _) (FU_lt (by omega)) rfl
  obtain ⟨u, h1, h2⟩ := key
  have h1 : fn_X9_inLowestTerms_L3 x0 x1 FU 10 = some u := h1
  unfold fn_X9_inLowestTerms
  rw [h1, Option.bind_some, ← h2]
  cases u <;> rfl
def lowC (n c : Nat) : Bool := decide (n = 0) || decide (n < c) || ((fn_cm 8 (nI c) (nI n)).isSome && decide ((fn_cm 8 (nI c) (nI n)).getD 0 ≠ 0) && decide (lowN (nI c) (nI n) 9 = nI c / (fn_cm 8 (nI c) (nI n)).getD 0) && decide (lowN (nI n) (nI c) 9 = nI n / (fn_cm 8 (nI c) (nI n)).getD 0))
theorem low_tab : ∀ n, n < 11 → ∀ c, c < 11 → lowC n c = true := by decide +kernel
theorem e_common {c n : Nat} (hn : n < 11) (h1 : 1 ≤ n) (hc : c ≤ n) : ∃ r, fn_X10_common (nI c) (nI n) = some r ∧ r ≠ 0 ∧ lowN (nI c) (nI n) 9 = nI c / r ∧ lowN (nI n) (nI c) 9 = nI n / r := by
  have t := low_tab n hn c (by omega)
  unfold lowC at t
  rw [decide_eq_false (show ¬ n = 0 by omega), decide_eq_false (show ¬ n < c by omega), Bool.false_or, Bool.false_or, Bool.and_eq_true, Bool.and_eq_true, Bool.and_eq_true, decide_eq_true_eq, decide_eq_true_eq, decide_eq_true_eq] at t
  obtain ⟨⟨⟨t1, t2⟩, t3⟩, t4⟩ := t
  obtain ⟨r, hr⟩ := Option.isSome_iff_exists.mp t1
  rw [hr] at t2 t3 t4
  exact ⟨r, hr, t2, t3, t4⟩
