/-! the class's act ended -/
def nkp (kp : Nat) : Nat := if kp < 10 then kp else 9
theorem e_end {K N : Nat → Nat} {J : Nat → Nat → Int32} {P : Nat → Nat → Option Nat} {c kp q : Nat} {τ : Nat → Nat} (bits : Int32) (hP : PicSh K N P c) (hL : LaySh K N P q) (hd : c + 7 + 3 * τ 10 + 2 < q) (hτ : Perm 11 τ) (ht : ∀ i, i < 11 → P (c + 6) i = some (c + 7 + 3 * τ i)) (hk : kp ≤ 10) (hk1 : J (c + 5) 1 = nI kp) (hb : bits = tb (J (c + 7 + 3 * τ 10 + 1)) (J (c + 7 + 3 * τ 10 + 2)) (J (q + 1)) (J (q + 2)) 192) : ∃ J' P', fn_X1_end K N J P (c + 5) q = some (J', P') ∧ (∀ x, x ≠ c + 7 + 3 * τ 10 → x ≠ c + 5 → J' x = J x) ∧ (∀ j, J' (c + 7 + 3 * τ 10) j = if j = 1 then bits else J (c + 7 + 3 * τ 10) j) ∧ (∀ x, x ≠ c + 6 → P' x = P x) ∧ (bits = 0 → J' (c + 5) = J (c + 5) ∧ P' = P) ∧ (bits ≠ 0 → J' (c + 5) 1 = nI (nkp kp + 1) ∧ J' (c + 5) 2 = 0 ∧ ∀ i, i < 11 → P' (c + 6) i = some (c + 7 + 3 * τ (aft kp i))) := by
  have hP0 := hP
  obtain ⟨⟨-, -, -, -, -, -, -, k5, k14, n11⟩, ⟨-, -, -, -, -, p50⟩, hsh, -⟩ := hP
  have g : ∀ i, i < 11 → (K (c + 6) = 14 ∧ vp_in (nI i) (N (c + 6))) := fun i hi => ⟨k14, by rw [n11]; exact vp_in_nI hi (by decide)⟩
  have g10 : K (c + 6) = 14 ∧ vp_in (10 : Int32) (N (c + 6)) := g 10 (by omega)
  have m10 := hτ.1 10 (by omega)
  obtain ⟨a, ha⟩ : ∃ a, a = c + 7 + 3 * τ 10 := ⟨_, rfl⟩
  have hA := hsh _ m10
  rw [← ha] at hA hd hb ⊢
  obtain ⟨A, w1, w2, w3⟩ := e_findTiles (J := J) hA hL (Or.inl hd)
  rw [← hb] at w3
  have h10 : P (c + 6) 10 = some a := by rw [ha]; exact ht 10 (by omega)
  have wa : A a 1 = bits := by rw [w3, if_pos rfl]
  unfold fn_X1_end
  rw [gd_pos k5, p50, Option.bind_some, gd_pos g10, h10, Option.bind_some, w1, Option.bind_some, gd_pos hA.1, wa]
  by_cases b0 : bits = 0
  · rw [if_pos b0]
    exact ⟨A, P, rfl, fun x h1 _ => w2 x h1, w3, fun _ _ => rfl, fun _ => ⟨w2 _ (by omega), rfl⟩, fun h => absurd b0 h⟩
  · rw [if_neg b0, Option.bind_some]
    obtain ⟨B, hB⟩ : ∃ B, B = up2 A (c + 5) 2 0 := ⟨_, rfl⟩
    rw [← hB]
    have oB : ∀ x, x ≠ c + 5 → B x = A x := fun x h => by rw [hB, up2_o h]
    have tB : ∀ j, B (c + 5) j = if j = 2 then 0 else J (c + 5) j := fun j => by rw [hB, ← w2 (c + 5) (by omega)]; simp [up2]
    have b1 : B (c + 5) 1 = nI kp := by rw [tB, if_neg (by decide)]; exact hk1
    rw [b1]
    -- after the oldest went, if it went
    suffices h : ∃ (C : Nat → Nat → Int32) (Q : Nat → Nat → Option Nat) (τ' : Nat → Nat), (if nI kp < (10 : Int32) then some (B, P) else Option.bind (fn_X1_dropOldest K N B P (c + 5)) (fun r21 => some (r21.1, r21.2))) = some (C, Q) ∧ (∀ x, x ≠ c + 5 → C x = B x) ∧ C (c + 5) 1 = nI (nkp kp) ∧ C (c + 5) 2 = 0 ∧ (∀ x, x ≠ c + 6 → Q x = P x) ∧ (∀ i, i < 11 → Q (c + 6) i = some (c + 7 + 3 * τ' i)) ∧ (∀ i, i < 11 → τ' i < 11) ∧ τ' 10 = τ 10 ∧ ∀ i, i < 11 → τ' (trA (nkp kp) i) = τ (aft kp i) by
      obtain ⟨C, Q, τ', e1, e2, e3, e4, e5, e6, e7, e8, e9⟩ := h
      have hn : nkp kp < 10 := by unfold nkp; split <;> omega
      have h5 : Q (c + 5) 0 = some (c + 6) := by rw [e5 _ (by omega)]; exact p50
      rw [e1, Option.bind_some]
      simp only [h5, Option.bind_some, e3]
      rw [gd_pos (g _ (by omega)), nI_clamp (by omega), e6 _ (by omega), Option.bind_some, gd_pos g10, gd_pos (hsh _ (e7 _ (by omega))).1, upP_a (by omega), h5, Option.bind_some, gd_pos (g _ (by omega))]
      refine ⟨_, _, rfl, fun x h1 h2 => by rw [up2_o h2, e2 x h2, oB x h2, w2 x h1], fun j => by rw [up2_o (by omega), e2 _ (by omega), oB _ (by omega), w3], fun x hx => by rw [upP_a hx, upP_a hx, e5 x hx], fun h => absurd h b0, fun _ => ⟨by rw [up2_s, nI_1], by rw [up2_k (by decide)]; exact e4, fun i hi => ?_⟩⟩
      rw [← e9 i hi]
      unfold trA
      by_cases i1 : i = nkp kp
      · rw [i1, upP_s, if_pos rfl, e8, ha]
      · rw [upP_k i1, if_neg i1]
        by_cases i2 : i = 10
        · rw [i2, upP_s, if_pos rfl]
        · rw [upP_k i2, if_neg i2]; exact e6 i hi
    by_cases h : kp < 10
    · refine ⟨B, P, τ, by rw [if_pos (show nI kp < (10 : Int32) from nI_lt (b := 10) h (by decide))], fun _ _ => rfl, ?_, by rw [tB, if_pos rfl], fun _ _ => rfl, ht, hτ.1, rfl, fun i hi => ?_⟩
      · rw [b1]; unfold nkp; rw [if_pos h]
      · unfold aft nkp; rw [if_pos h, if_pos h]
    · obtain ⟨Q, d1, d2, d3⟩ := e_dropOldest (I := B) hP0 hτ ht
      have hr : ∀ i, i < 11 → rotA i < 11 := fun i hi => by unfold rotA; split <;> (try split) <;> omega
      refine ⟨up2 B (c + 5) 1 9, Q, fun i => τ (rotA i), by rw [if_neg (show ¬ nI kp < (10 : Int32) from nI_nlt (b := 10) (by omega) (by omega)), d1, Option.bind_some], fun x hx => by rw [up2_o hx], ?_, ?_, d2, d3, fun i hi => hτ.1 _ (hr i hi), rfl, fun i hi => ?_⟩
      · rw [up2_s]; unfold nkp; rw [if_neg h]; rfl
      · rw [up2_k (by decide), tB, if_pos rfl]
      · show τ (rotA (trA (nkp kp) i)) = τ (aft kp i)
        unfold aft nkp; rw [if_neg h, if_neg h]
