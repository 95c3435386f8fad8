/-! an act whose model goes over its tape as well -/
set_option maxHeartbeats 4000000 in
theorem e_actW {K N : Nat → Nat} {b : Nat} {I I0 : Nat → Nat → Int32} {P : Nat → Nat → Option Nat} {cnt kp al l : Nat} {σ τ : Nat → Nat} (hR : Rel K N b I P) (hpic0 : PicR I P (b + 1) (I (b + 126 + 1)) cnt kp al σ τ) (hl : l < cnt) (h0 : ∀ a, ¬ (b + 118 ≤ a ∧ a < b + 126) → a ≠ b + 126 → I0 a = I a) :
    ∃ A, fn_X1_begin K N I0 P (b + 1 + 5) (nI l) (b + 1 + 40 + 3 * σ l) = some A ∧ (∀ a, ¬ (b + 8 ≤ a ∧ a < b + 41) → A a = I0 a) ∧ LyD A A (b + 1 + 40 + 3 * σ l) (fun d => I (b + 126 + 1) (20 + 192 * l + d)) (fun d => I (b + 126 + 1) (788 + 192 * l + d)) ∧
    ∀ J (S : DT), LyD A J (b + 1 + 40 + 3 * σ l) S.1 S.2 → DI S → ∃ J' P', fn_X1_end K N J P (b + 1 + 5) (b + 1 + 40 + 3 * σ l) = some (J', P') ∧ (∀ x, x ≠ b + 1 + 6 → P' x = P x) ∧ (∀ a, b + 126 ≤ a → J' a = I0 a) ∧
    ∀ B0, (∀ a, ¬ (b + 130 ≤ a ∧ a < b + 135) → a ≠ b + 126 → B0 a = J' a) → ∃ B, fn_X10_beginsAct K N B0 P' (b + 126) (nI l) = some B ∧ (∀ a, b + 126 + 1 ≤ a → a ≠ b + 126 + 4 → B a = B0 a) ∧ (∀ j, B (b + 126) j = if j = 3 then (if cnt1 (fun d => I (b + 126 + 1) (1556 + d)) 192 = 0 then 1 else 0) else B0 (b + 126) j) ∧ B (b + 126 + 1) = I (b + 126 + 1) ∧
    ∀ s, GrW B s (b + 126) l S → s (b + 126) 2 = I (b + 126) 2 → s (b + 126) 5 = I (b + 126) 5 → ∃ I2, fn_X10_endsAct K N s P' (b + 126) (nI l) = some I2 ∧ I2 (b + 126) = s (b + 126) ∧ Rel K N b I2 P' := by
  obtain ⟨⟨hroot, hp1, hp53, hmod⟩, -, -, -, -⟩ := id hR
  obtain ⟨⟨hcnt, hkp, hal⟩, ⟨hσ, hτ, hlay, hact⟩, ⟨hc1, hg0⟩, ⟨hpap, hpap2⟩, hbr, hlays, hmask, ⟨ha1, ha2, ha3, ha4⟩, hacts⟩ := id hpic0
  have hacsh := hp1.2.2.1
  have hlash := hp1.2.2.2
  have m10 := hτ.1 10 (by omega)
  have hsl := hσ.1 l (by omega)
  have hn : nkp kp < 10 := by unfold nkp; split <;> omega
  obtain ⟨A, a1, a2, a3, a4⟩ := e_begin (I := I0) (nI l) hp1 (hacsh _ m10) (hlash _ hsl) (Or.inl (by omega)) (hact 10 (by omega))
  have oA : ∀ a, ¬ (b + 8 ≤ a ∧ a < b + 41) → A a = I0 a := fun a h => a2 a (by omega)
  obtain ⟨⟨y2, y3, y4, yd⟩, zl⟩ := hlays l hl
  have i0q1 : I0 (b + 1 + 40 + 3 * σ l + 1) = I (b + 1 + 40 + 3 * σ l + 1) := h0 _ (by omega) (by omega)
  have i0q2 : I0 (b + 1 + 40 + 3 * σ l + 2) = I (b + 1 + 40 + 3 * σ l + 2) := h0 _ (by omega) (by omega)
  refine ⟨A, a1, oA, ⟨fun _ _ _ => rfl, fun d hd => ?_⟩, ?_⟩
  · rw [oA _ (by omega), oA _ (by omega), i0q1, i0q2]; exact yd d hd
  intro J S hJ hdi
  obtain ⟨j1, j2⟩ := hJ
  have oJ : ∀ a, a ≠ b + 1 + 40 + 3 * σ l + 1 → a ≠ b + 1 + 40 + 3 * σ l + 2 → ¬ (b + 1 + 7 + 3 * τ 10 ≤ a ∧ a < b + 1 + 7 + 3 * τ 10 + 3) → ¬ (b + 118 ≤ a ∧ a < b + 126) → a ≠ b + 126 → J a = I a := fun a h1 h2 h3 h4 h9 => by rw [j1 a h1 h2, a2 a h3, h0 a h4 h9]
  obtain ⟨J', P', e1, e2, e3, e4, e5, e6⟩ := e_end (J := J) (kp := kp) _ hp1 (hlash _ hsl) (by omega) hτ hact (by omega) (by rw [oJ (b + 1 + 5) (by omega) (by omega) (by omega) (by omega) (by omega)]; exact ha1) rfl
  have ta : ∀ d, d < 192 → J (b + 1 + 7 + 3 * τ 10 + 1) d = I (b + 126 + 1) (20 + 192 * l + d) ∧ J (b + 1 + 7 + 3 * τ 10 + 2) d = I (b + 126 + 1) (788 + 192 * l + d) := fun d hd => by
    rw [j1 _ (by omega) (by omega), j1 _ (by omega) (by omega), (a4 d hd).1, (a4 d hd).2, i0q1, i0q2]; exact yd d hd
  have hbits : tb (J (b + 1 + 7 + 3 * τ 10 + 1)) (J (b + 1 + 7 + 3 * τ 10 + 2)) (J (b + 1 + 40 + 3 * σ l + 1)) (J (b + 1 + 40 + 3 * σ l + 2)) 192 = tb (fun d => I (b + 126 + 1) (20 + 192 * l + d)) (fun d => I (b + 126 + 1) (788 + 192 * l + d)) S.1 S.2 192 := tb_cong 192 (fun d hd => ⟨(ta d hd).1, (ta d hd).2, (j2 d hd).1, (j2 d hd).2⟩)
  rw [hbits] at e3 e5 e6
  have oJ' : ∀ a, a ≠ b + 1 + 40 + 3 * σ l + 1 → a ≠ b + 1 + 40 + 3 * σ l + 2 → ¬ (b + 1 + 7 + 3 * τ 10 ≤ a ∧ a < b + 1 + 7 + 3 * τ 10 + 3) → ¬ (b + 118 ≤ a ∧ a < b + 126) → a ≠ b + 1 + 5 → a ≠ b + 126 → J' a = I a := fun a h1 h2 h3 h4 h5 h9 => by rw [e2 a (by omega) h5, oJ a h1 h2 h3 h4 h9]
  refine ⟨J', P', e1, e4, fun a h => by rw [e2 a (by omega) (by omega), j1 a (by omega) (by omega), a2 a (by omega)], ?_⟩
  intro B0 hB0
  have hmod' : ModSh K N P' (b + 126) := hmod.keep (e4 _ (by omega))
  have oB0 : ∀ a, b + 126 < a → ¬ (b + 130 ≤ a ∧ a < b + 135) → B0 a = I a := fun a h h' => by rw [hB0 a h' (by omega), oJ' a (by omega) (by omega) (by omega) (by omega) (by omega) (by omega)]
  have b0g : B0 (b + 126 + 1) = I (b + 126 + 1) := oB0 _ (by omega) (by omega)
  have hmk := e_masked (I := B0) hmod' (fun d hd => by rw [b0g]; exact (hmask.1 d hd).2)
  rw [b0g] at hmk
  have hcle : ∀ (f : Nat → Int32) (n : Nat), cnt1 f n ≤ n := fun f n => by
    induction n with
    | zero => exact Nat.le_refl _
    | succ n ih => unfold cnt1; split <;> omega
  have hc192 := hcle (fun d => I (b + 126 + 1) (1556 + d)) 192
  obtain ⟨B, c1, c2, c3, c4⟩ := e_mbegin (I := B0) (l := l) hmod' (by omega) (by omega) hmk
  rw [b0g] at c4
  have bg : B (b + 126 + 1) = I (b + 126 + 1) := by rw [c2 _ (by omega) (by omega)]; exact b0g
  refine ⟨B, c1, fun a h h' => c2 a (by omega) h', c3, bg, ?_⟩
  intro s hs hs2 hs5
  obtain ⟨s1, s2, s3⟩ := hs
  rw [bg] at s2
  obtain ⟨I2, f1, f2, f3⟩ := e_mend (s := s) (l := l) (kp := kp) hmod' (by omega) (by omega) (fun d hd => by rw [s1 (b + 126 + 4) (by omega) (by omega)]; exact c4 d hd) s3 (by rw [s2 6 (by omega) (by omega)]; exact ha2)
  -- where no class cell and no kept cell changes
  have os : ∀ a, a ≠ b + 126 + 1 → I2 a = s a := by
    intro a h
    by_cases z : tb (fun d => I (b + 126 + 1) (20 + 192 * l + d)) (fun d => I (b + 126 + 1) (788 + 192 * l + d)) S.1 S.2 192 = 0
    · rw [f2 z]
    · exact (f3 z).1 a h
  refine ⟨I2, f1, os _ (by omega), ?_⟩
  have oC : ∀ a, a < b + 126 → I2 a = J' a := fun a h => by rw [os a (by omega), s1 a (by omega) (by omega), c2 a (by omega) (by omega), hB0 a (by omega) (by omega)]
  have oM : ∀ a, b + 126 < a → a ≠ b + 126 + 1 → ¬ (b + 130 ≤ a ∧ a < b + 135) → I2 a = I a := fun a h h1 h2 => by rw [os a h1, s1 a (by omega) h1, c2 a (by omega) (by omega), oB0 a (by omega) h2]
  have hrest : Rest b I I2 := by
    refine ⟨?_, fun a h h' => ?_, ⟨by rw [os _ (by omega)]; exact hs2, by rw [os _ (by omega)]; exact hs5⟩, oM _ (by omega) (by omega) (by omega), oM _ (by omega) (by omega) (by omega), oM _ (by omega) (by omega) (by omega), oM _ (by omega) (by omega) (by omega), oM _ (by omega) (by omega) (by omega)⟩
    · rw [oC b (by omega)]; exact oJ' b (by omega) (by omega) (by omega) (by omega) (by omega) (by omega)
    · rw [oC a (by omega)]; exact oJ' a (by omega) (by omega) (by omega) (by omega) (by omega) (by omega)
  refine Rel.acted (i1 := S.1) (o1 := S.2) hR hpic0 hl hdi hrest e4 (fun a h1 h2 h3 h4 h5 h6 => by rw [oC a (by omega)]; exact oJ' a h3 h4 h5 (by omega) h6 (by omega)) (fun d hd => ?_) ?_ ?_ ?_
  · rw [oC _ (by omega), oC _ (by omega), e2 _ (by omega) (by omega), e2 _ (by omega) (by omega)]; exact j2 d hd
  · intro j h1 h2 h3 h4 h5
    by_cases z : tb (fun d => I (b + 126 + 1) (20 + 192 * l + d)) (fun d => I (b + 126 + 1) (788 + 192 * l + d)) S.1 S.2 192 = 0
    · rw [f2 z]; exact s2 j h4 h5
    · rw [(f3 z).2.1 j h1 h2 h3]; exact s2 j h4 h5
  · intro d hd
    by_cases z : tb (fun d => I (b + 126 + 1) (20 + 192 * l + d)) (fun d => I (b + 126 + 1) (788 + 192 * l + d)) S.1 S.2 192 = 0
    · rw [f2 z]; exact s3 d hd
    · rw [(f3 z).2.1 _ (by omega) (by omega) (by omega), (f3 z).2.1 _ (by omega) (by omega) (by omega)]; exact s3 d hd
  · by_cases z : tb (fun d => I (b + 126 + 1) (20 + 192 * l + d)) (fun d => I (b + 126 + 1) (788 + 192 * l + d)) S.1 S.2 192 = 0
    · refine Or.inl ⟨(e5 z).2, ?_, fun j hj => ?_⟩
      · rw [oC _ (by omega), (e5 z).1]; exact oJ _ (by omega) (by omega) (by omega) (by omega) (by omega)
      · rw [f2 z]; exact s2 j (by omega) (by omega)
    · obtain ⟨-, g2, g3, g4, g5, g6, g7⟩ := f3 z
      obtain ⟨h1, h2, h3⟩ := e6 z
      refine Or.inr ⟨_, tb_in _ _ _ _ 192 (Nat.le_refl _), ⟨by rw [oC _ (by omega)]; exact h1, by rw [oC _ (by omega)]; exact h2⟩, h3, g3, fun k r hk hr => ?_, g5, g6, g7, ?_, ?_, fun d hd => ?_⟩
      · rw [g4 k r hk hr, s2 _ (by split <;> omega) (by split <;> omega)]
      · rw [oC _ (by omega), e3, if_neg (by decide), j1 _ (by omega) (by omega)]; exact a3
      · rw [oC _ (by omega), e3, if_pos rfl]
      · rw [oC _ (by omega), oC _ (by omega), e2 _ (by omega) (by omega), e2 _ (by omega) (by omega)]; exact ta d hd
