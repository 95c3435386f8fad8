/-! what keeps the shapes, what keeps the rest -/
theorem LaySh.keep {K N : Nat → Nat} {P P' : Nat → Nat → Option Nat} {q : Nat} (h : LaySh K N P q) (hq : P' q = P q) : LaySh K N P' q := by
  unfold LaySh at h ⊢; rw [hq]; exact h
theorem ActSh.keep {K N : Nat → Nat} {P P' : Nat → Nat → Option Nat} {q : Nat} (h : ActSh K N P q) (hq : P' q = P q) : ActSh K N P' q := by
  unfold ActSh at h ⊢; rw [hq]; exact h
theorem PicSh.keep {K N : Nat → Nat} {P P' : Nat → Nat → Option Nat} {c : Nat} (h : PicSh K N P c) (hq : ∀ a, c ≤ a → a < c + 52 → a ≠ c + 1 → a ≠ c + 6 → P' a = P a) : PicSh K N P' c := by
  obtain ⟨h1, h2, h3, h4⟩ := h
  refine ⟨h1, ?_, fun i hi => (h3 i hi).keep (hq _ (by omega) (by omega) (by omega) (by omega)), fun i hi => (h4 i hi).keep (hq _ (by omega) (by omega) (by omega) (by omega))⟩
  rw [hq c (by omega) (by omega) (by omega) (by omega), hq (c + 2) (by omega) (by omega) (by omega) (by omega), hq (c + 5) (by omega) (by omega) (by omega) (by omega)]
  exact h2
theorem AllSh.keep {K N : Nat → Nat} {P P' : Nat → Nat → Option Nat} {b : Nat} (h : AllSh K N P b) (hq : ∀ a, a ≠ b + 2 → a ≠ b + 7 → a ≠ b + 54 → a ≠ b + 59 → P' a = P a) : AllSh K N P' b := by
  obtain ⟨⟨r1, r2, r3, r4, r5, r6⟩, h2, h3, h4⟩ := h
  refine ⟨⟨?_, ?_, ?_, ?_, r5.keep (hq _ (by omega) (by omega) (by omega) (by omega)), r6⟩, h2.keep (fun a _ _ _ _ => hq a (by omega) (by omega) (by omega) (by omega)), h3.keep (fun a _ _ _ _ => hq a (by omega) (by omega) (by omega) (by omega)), ?_⟩
  · rw [hq b (by omega) (by omega) (by omega) (by omega)]; exact r1
  · rw [hq (b + 105) (by omega) (by omega) (by omega) (by omega)]; exact r2
  · refine ⟨r3.1, r3.2.1, fun i hi => ?_⟩
    rw [hq (b + 109) (by omega) (by omega) (by omega) (by omega), hq (b + 110 + 2 * i) (by omega) (by omega) (by omega) (by omega)]; exact r3.2.2 i hi
  · rw [hq (b + 118) (by omega) (by omega) (by omega) (by omega)]; exact r4
  · unfold ModSh at h4 ⊢
    rw [hq (b + 126) (by omega) (by omega) (by omega) (by omega)]; exact h4
/-- the rest, where an act changes the picture, the model's row g and what is scratch alone -/
def Rest (b : Nat) (I I' : Nat → Nat → Int32) : Prop := I' b = I b ∧ (∀ a, b + 53 ≤ a → a < b + 118 → I' a = I a) ∧ (I' (b + 126) 2 = I (b + 126) 2 ∧ I' (b + 126) 5 = I (b + 126) 5) ∧ I' (b + 128) = I (b + 128) ∧ I' (b + 129) = I (b + 129) ∧ I' (b + 135) = I (b + 135) ∧ I' (b + 136) = I (b + 136) ∧ I' (b + 137) = I (b + 137)
theorem Rest.trans {b : Nat} {I I' I2 : Nat → Nat → Int32} (h : Rest b I I') (k : Rest b I' I2) : Rest b I I2 := by
  obtain ⟨h1, h2, ⟨h3, h4⟩, h5, h6, h7, h8, h9⟩ := h
  obtain ⟨k1, k2, ⟨k3, k4⟩, k5, k6, k7, k8, k9⟩ := k
  exact ⟨k1.trans h1, fun a x y => (k2 a x y).trans (h2 a x y), ⟨k3.trans h3, k4.trans h4⟩, k5.trans h5, k6.trans h6, k7.trans h7, k8.trans h8, k9.trans h9⟩
theorem Rest.refl (b : Nat) (I : Nat → Nat → Int32) : Rest b I I := ⟨rfl, fun _ _ _ => rfl, ⟨rfl, rfl⟩, rfl, rfl, rfl, rfl, rfl⟩
theorem SheetR.keep {I I' : Nat → Nat → Int32} {b i : Nat} (h : SheetR I b i) (h1 : I' (b + 110 + 2 * i) = I (b + 110 + 2 * i)) (h2 : I' (b + 111 + 2 * i) = I (b + 111 + 2 * i)) (h3 : I' (b + 135) = I (b + 135)) (h4 : I' (b + 136) = I (b + 136)) (h5 : I' (b + 137) = I (b + 137)) : SheetR I' b i := by
  unfold SheetR at h ⊢; rw [h1, h2, h3, h4, h5]; exact h
theorem Rel.pic {K N : Nat → Nat} {b : Nat} {I I' : Nat → Nat → Int32} {P P' : Nat → Nat → Option Nat} (hR : Rel K N b I P) (hs : Rest b I I') (hP : ∀ a, a ≠ b + 2 → a ≠ b + 7 → P' a = P a) (hpic : ∃ cnt kp al σ τ, PicR I' P' (b + 1) (I' (b + 127)) cnt kp al σ τ) : Rel K N b I' P' := by
  obtain ⟨h1, -, h3, ⟨fed, h4⟩, h5⟩ := hR
  obtain ⟨s1, s2, ⟨s3, s4⟩, s5, s6, s7, s8, s9⟩ := hs
  refine ⟨h1.keep (fun a x y _ _ => hP a x y), hpic, ?_, ⟨fed, ?_⟩, fun i hi => (h5 i hi).keep (s2 _ (by omega) (by omega)) (s2 _ (by omega) (by omega)) s7 s8 s9⟩
  · rw [s1, s3, s5]
    refine ⟨h3.1, ?_⟩
    rcases h3.2 with ⟨e0, σ, τ, p1, p2, p3, p4⟩ | ⟨e1, cnt, kp, al, σ, τ, hp⟩
    · refine Or.inl ⟨e0, σ, τ, p1, p2, ?_, ?_⟩
      · rw [hP (b + 54) (by omega) (by omega)]; exact p3
      · rw [hP (b + 59) (by omega) (by omega)]; exact p4
    · exact Or.inr ⟨e1, cnt, kp, al, σ, τ, hp.keep (fun a x y => s2 a (by omega) (by omega)) (fun a x y => hP a (by omega) (by omega))⟩
  · unfold TapeR at h4 ⊢
    rw [s2 (b + 105) (by omega) (by omega), s4, s2 (b + 106) (by omega) (by omega), s6]
    exact h4
/-- rows of one run: the class's leave the model's, the model's leave the class's -/
theorem up2_o {I : Nat → Nat → Int32} {a k x : Nat} {v : Int32} (h : x ≠ a) : up2 I a k v x = I x := up2_ne I k v h
theorem BrR.keep {I I' : Nat → Nat → Int32} {c : Nat} {g g' : Nat → Int32} (h : BrR I c g) (h1 : I' (c + 4) = I (c + 4)) (h2 : ∀ j, 2 ≤ j → j < 6 → g' j = g j) : BrR I' c g' := by
  unfold BrR at h ⊢
  rw [h1, h2 2 (by decide) (by decide), h2 3 (by decide) (by decide), h2 4 (by decide) (by decide), h2 5 (by decide) (by decide)]; exact h
theorem LayI.keep {g g' : Nat → Int32} {l cnt : Nat} (h : LayI g l) (hl : l < cnt) (hc : cnt ≤ 4) (h2 : ∀ j, 8 ≤ j → j < 1556 → g' j = g j) : LayI g' l := by
  unfold LayI at h ⊢
  rw [h2 (8 + l) (by omega) (by omega), h2 (12 + l) (by omega) (by omega), h2 (16 + l) (by omega) (by omega)]
  exact ⟨h.1, h.2.1, h.2.2.1, fun d hd => by rw [h2 _ (by omega) (by omega), h2 _ (by omega) (by omega)]; exact h.2.2.2 d hd⟩
theorem LayR.keep2 {I I' : Nat → Nat → Int32} {q : Nat} {g g' : Nat → Int32} {l cnt : Nat} (h : LayR I q g l) (hl : l < cnt) (hc : cnt ≤ 4) (h0 : I' q = I q) (h1 : I' (q + 1) = I (q + 1)) (h3 : I' (q + 2) = I (q + 2)) (h2 : ∀ j, 8 ≤ j → j < 1556 → g' j = g j) : LayR I' q g' l := by
  obtain ⟨a, b, c, d⟩ := h
  refine ⟨by rw [h0, h2 _ (by omega) (by omega), a], by rw [h0, h2 _ (by omega) (by omega), b], by rw [h0, h2 _ (by omega) (by omega), c], fun e he => ?_⟩
  rw [h1, h3, h2 _ (by omega) (by omega), h2 _ (by omega) (by omega)]
  exact d e he
theorem MaskR.keep {I I' : Nat → Nat → Int32} {c : Nat} {g g' : Nat → Int32} (h : MaskR I c g) (h1 : I' (c + 2) = I (c + 2)) (h3 : I' (c + 3) = I (c + 3)) (h2 : ∀ j, 1556 ≤ j → j < 1748 → g' j = g j) : MaskR I' c g' := by
  unfold MaskR at h ⊢
  refine ⟨fun d hd => by rw [h3, h2 _ (by omega) (by omega)]; exact h.1 d hd, ?_⟩
  rw [h1, h.2]
  exact congrArg nI (cnt1_cong 192 (fun d hd => (h2 (1556 + d) (by omega) (by omega)).symm))
theorem ActR.keep {I I' : Nat → Nat → Int32} {q : Nat} {g g' : Nat → Int32} {k : Nat} (h : ActR I q g k) (hk : k < 10) (h0 : I' q = I q) (h1 : I' (q + 1) = I (q + 1)) (h3 : I' (q + 2) = I (q + 2)) (h2 : ∀ j, 1748 ≤ j → j < 5608 → g' j = g j) : ActR I' q g' k := by
  obtain ⟨a, b, d⟩ := h
  refine ⟨by rw [h0, h2 _ (by omega) (by omega), a], by rw [h0, h2 _ (by omega) (by omega), b], fun e he => ?_⟩
  rw [h1, h3, h2 _ (by omega) (by omega), h2 _ (by omega) (by omega)]
  exact d e he
theorem ActI.keep {g g' : Nat → Int32} {k cnt : Nat} (h : ActI g k cnt) (hk : k < 10) (h2 : ∀ j, 1748 ≤ j → j < 5608 → g' j = g j) : ActI g' k cnt := by
  obtain ⟨a, b, d⟩ := h
  refine ⟨by rw [h2 _ (by omega) (by omega)]; exact a, by rw [h2 _ (by omega) (by omega)]; exact b, fun e he => ?_⟩
  rw [h2 _ (by omega) (by omega), h2 _ (by omega) (by omega)]
  exact d e he
/-- the picture, part by part -/
theorem PicR.mod {I I' : Nat → Nat → Int32} {P P' : Nat → Nat → Option Nat} {c : Nat} {g g' : Nat → Int32} {cnt kp al : Nat} {σ τ : Nat → Nat} (h : PicR I P c g cnt kp al σ τ) (hP : P' (c + 1) = P (c + 1) ∧ P' (c + 6) = P (c + 6)) (hc : I' c 1 = I c 1 ∧ g' 0 = g 0) (hp : I' c 2 = g' 1 ∧ inR (g' 1) 256) (hb : BrR I' c g') (hl : ∀ i, i < cnt → LayR I' (c + 40 + 3 * σ i) g' i ∧ LayI g' i) (hm : MaskR I' c g') (ha : I' (c + 5) = I (c + 5) ∧ g' 6 = g 6 ∧ g' 7 = g 7) (hk : ∀ k, k < al → ActR I' (c + 7 + 3 * τ k) g' k ∧ ActI g' k cnt) : PicR I' P' c g' cnt kp al σ τ := by
  obtain ⟨a1, ⟨a2, a3, a4, a5⟩, a6, -, -, -, -, a11, -⟩ := h
  refine ⟨a1, ⟨a2, a3, by rw [hP.1]; exact a4, by rw [hP.2]; exact a5⟩, by rw [hc.1, hc.2]; exact a6, hp, hb, hl, hm, by rw [ha.1, ha.2.1, ha.2.2]; exact a11, hk⟩
theorem PicR.lays {I I' : Nat → Nat → Int32} {P : Nat → Nat → Option Nat} {c : Nat} {g g' : Nat → Int32} {cnt kp al : Nat} {σ τ : Nat → Nat} (h : PicR I P c g cnt kp al σ τ) (hI : ∀ a, c + 40 ≤ a → a < c + 52 → I' a = I a) (h2 : ∀ j, 8 ≤ j → j < 1556 → g' j = g j) : ∀ i, i < cnt → LayR I' (c + 40 + 3 * σ i) g' i ∧ LayI g' i := by
  obtain ⟨a1, ⟨a2, a3, a4, a5⟩, a6, -, -, a9, -⟩ := h
  intro i hi
  have := a2.1 i (by omega)
  exact ⟨(a9 i hi).1.keep2 hi a1.1 (hI _ (by omega) (by omega)) (hI _ (by omega) (by omega)) (hI _ (by omega) (by omega)) h2, (a9 i hi).2.keep hi a1.1 h2⟩
theorem PicR.acts {I I' : Nat → Nat → Int32} {P : Nat → Nat → Option Nat} {c : Nat} {g g' : Nat → Int32} {cnt kp al : Nat} {σ τ : Nat → Nat} (h : PicR I P c g cnt kp al σ τ) (hI : ∀ a, c + 7 ≤ a → a < c + 40 → I' a = I a) (h2 : ∀ j, 1748 ≤ j → j < 5608 → g' j = g j) : ∀ k, k < al → ActR I' (c + 7 + 3 * τ k) g' k ∧ ActI g' k cnt := by
  obtain ⟨a1, ⟨a2, a3, a4, a5⟩, a6, -, -, -, -, -, a12⟩ := h
  intro k hk
  have := a3.1 k (by omega)
  exact ⟨(a12 k hk).1.keep (by omega) (hI _ (by omega) (by omega)) (hI _ (by omega) (by omega)) (hI _ (by omega) (by omega)) h2, (a12 k hk).2.keep (by omega) h2⟩
theorem ink_iff (x : Int32) : (-1 ≤ x ∧ x ≤ 255) ↔ (x = -1 ∨ inR x 256) := by
  have m1 : (-1 : Int32).toInt = -1 := rfl
  rw [Int32.le_iff_toInt_le, Int32.le_iff_toInt_le, r_256, m1, t_255, ← Int32.toInt_inj, m1]
  omega
