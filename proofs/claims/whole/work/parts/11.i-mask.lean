/-! the mask: counted anew, joined -/
theorem nar_0 : vp_nar .boolean 0 = 0 := rfl
theorem nar_1 : vp_nar .boolean 1 = 1 := rfl
theorem nar_bb {x : Int32} (h : x = 0 ∨ x = 1) : vp_nar .boolean x = x := by
  rcases h with rfl | rfl
  · exact nar_0
  · exact nar_1
theorem e_recount {K N : Nat → Nat} {I : Nat → Nat → Int32} {P : Nat → Nat → Option Nat} {q r : Nat} (hk : K q = 6) (hp : P q 0 = some r) (hr : K r = 13) (hn : N r = 192) (hqr : q ≠ r) : ∃ I', fn_X5_recount K N I P q = some I' ∧ (∀ a, a ≠ q → I' a = I a) ∧ ∀ j, I' q j = if j = 1 then nI (cnt1 (fun d => I r d) 192) else I q j := by
  obtain ⟨J, hJ⟩ : ∃ J, J = up2 I q 1 0 := ⟨_, rfl⟩
  have oJ : ∀ a, a ≠ q → J a = I a := fun a h => by rw [hJ, up2_o h]
  have tJ : ∀ j, J q j = if j = 1 then 0 else I q j := fun j => by rw [hJ]; simp [up2]
  have key := loop_ok (F := fun f i s => fn_X5_recount_L7 K N q P f (nI i) s) 192 (fun i s => (∀ a, a ≠ q → s a = I a) ∧ ∀ j, s q j = if j = 1 then nI (cnt1 (fun d => I r d) i) else I q j) (fun s => (∀ a, a ≠ q → s a = I a) ∧ ∀ j, s q j = if j = 1 then nI (cnt1 (fun d => I r d) 192) else I q j)
    (fun f s hs => by
      simp only [fn_X5_recount_L7]
      rw [if_pos (show (192 : Int32) ≤ nI 192 from nI_le (a := 192) (Nat.le_refl _) (by omega))]
      exact ok_some.mpr hs)
    (fun f i s hi hs kk => by
      simp only [fn_X5_recount_L7]
      obtain ⟨s1, s2⟩ := hs
      rw [if_neg (show ¬ (192 : Int32) ≤ nI i from nI_ge (b := 192) hi (by omega)), hp, Option.bind_some, gd_pos ⟨hr, by rw [hn]; exact vp_192 hi⟩, nI_clamp (by omega), s1 r (by omega), nI_1]
      by_cases h : I r i = 0
      · rw [if_pos h]
        exact kk _ ⟨s1, fun j => by rw [s2]; simp [cnt1, h]⟩
      · rw [if_neg h, Option.bind_some]
        refine kk _ ⟨fun a ha => by rw [up2_o ha]; exact s1 a ha, fun j => ?_⟩
        by_cases hj : j = 1
        · subst hj; rw [up2_s, s2, if_pos rfl, if_pos rfl, nI_1]; simp [cnt1, h]
        · rw [up2_k hj, s2, if_neg hj, if_neg hj])
    FU 0 J (Nat.zero_le _) (FU_lt (by omega)) ⟨oJ, fun j => tJ j⟩
  obtain ⟨I', w1, w2⟩ := key
  have w1 : fn_X5_recount_L7 K N q P FU 0 J = some I' := w1
  refine ⟨I', ?_, w2⟩
  unfold fn_X5_recount
  rw [gd_pos hk, Option.bind_some, ← hJ, w1, Option.bind_some]
theorem e_join {K N : Nat → Nat} {I : Nat → Nat → Int32} {P : Nat → Nat → Option Nat} {q r a1 : Nat} {x2 : Int32} {h : Nat → Int32} (hk : K q = 6) (hp : P q 0 = some r) (hr : K r = 13) (hn : N r = 192) (hqr : q ≠ r) (hk1 : K a1 = 13) (hn1 : N a1 = 192) (hra : r ≠ a1) (hh : ∀ d, d < 192 → fn_X5_isHeldAfter (I r d) (I a1 d) x2 = some (h d) ∧ (h d = 0 ∨ h d = 1)) : ∃ I', fn_X5_join K N I P q a1 x2 = some I' ∧ (∀ a, a ≠ q → a ≠ r → I' a = I a) ∧ (∀ d, d < 192 → I' r d = h d) ∧ ∀ j, I' q j = if j = 1 then nI (cnt1 h 192) else I q j := by
  have key := loop_ok (F := fun f i s => fn_X5_join_L2 K N q a1 x2 P f (nI i) s) 192 (fun i s => (∀ a, a ≠ r → s a = I a) ∧ (∀ d, d < i → s r d = h d) ∧ ∀ d, i ≤ d → s r d = I r d) (fun s => (∀ a, a ≠ r → s a = I a) ∧ (∀ d, d < 192 → s r d = h d))
    (fun f s hs => by
      simp only [fn_X5_join_L2]
      rw [if_pos (show (192 : Int32) ≤ nI 192 from nI_le (a := 192) (Nat.le_refl _) (by omega))]
      exact ok_some.mpr ⟨hs.1, hs.2.1⟩)
    (fun f i s hi hs kk => by
      simp only [fn_X5_join_L2]
      obtain ⟨s1, s2, s3⟩ := hs
      obtain ⟨e1, e2⟩ := hh i hi
      rw [if_neg (show ¬ (192 : Int32) ≤ nI i from nI_ge (b := 192) hi (by omega)), gd_pos hk, hp, Option.bind_some, gd_pos ⟨hr, by rw [hn]; exact vp_192 hi⟩, gd_pos ⟨hk1, by rw [hn1]; exact vp_192 hi⟩, nI_clamp (by omega), s3 i (Nat.le_refl _), s1 a1 (Ne.symm hra), e1, Option.bind_some, Option.bind_some, nar_bb e2, nI_1]
      refine kk _ ⟨fun a ha => by rw [up2_o ha]; exact s1 a ha, fun d hd => ?_, fun d hd => by rw [up2_k (by omega)]; exact s3 d (by omega)⟩
      by_cases hdi : d = i
      · subst hdi; rw [up2_s]
      · rw [up2_k hdi]; exact s2 d (by omega))
    FU 0 I (Nat.zero_le _) (FU_lt (by omega)) ⟨fun _ _ => rfl, fun d hd => absurd hd (by omega), fun _ _ => rfl⟩
  obtain ⟨J, w1, w2, w3⟩ := key
  have w1 : fn_X5_join_L2 K N q a1 x2 P FU 0 I = some J := w1
  obtain ⟨I', v1, v2, v3⟩ := e_recount (I := J) (P := P) hk hp hr hn hqr
  refine ⟨I', ?_, fun a h1 h2 => (v2 a h1).trans (w2 a h2), fun d hd => by rw [v2 r (by omega)]; exact w3 d hd, fun j => ?_⟩
  · unfold fn_X5_join
    rw [w1, Option.bind_some, v1, Option.bind_some, gd_pos hk]
  · rw [v3, w2 q hqr, cnt1_cong 192 (fun d hd => w3 d hd)]
