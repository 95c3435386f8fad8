/-! only the tape changes; only the sheets change -/
theorem Rel.tape {K N : Nat → Nat} {b : Nat} {I I' : Nat → Nat → Int32} {P : Nat → Nat → Option Nat} (hR : Rel K N b I P) (h : ∀ a, a ≠ b + 105 → a ≠ b + 106 → a ≠ b + 126 → a ≠ b + 129 → I' a = I a) (h2 : I' (b + 126) 2 = I (b + 126) 2) (ht : ∃ fed, TapeR I' b fed) : Rel K N b I' P := by
  obtain ⟨h1, ⟨cnt, kp, al, σ, τ, hp⟩, ⟨hk1, hk2⟩, -, hs⟩ := hR
  have e127 : I' (b + 127) = I (b + 127) := h _ (by omega) (by omega) (by omega) (by omega)
  have e128 : I' (b + 128) = I (b + 128) := h _ (by omega) (by omega) (by omega) (by omega)
  refine ⟨h1, ⟨cnt, kp, al, σ, τ, ?_⟩, ⟨?_, ?_⟩, ht, fun i hi => (hs i hi).keep (h _ (by omega) (by omega) (by omega) (by omega)) (h _ (by omega) (by omega) (by omega) (by omega)) (h _ (by omega) (by omega) (by omega) (by omega)) (h _ (by omega) (by omega) (by omega) (by omega)) (h _ (by omega) (by omega) (by omega) (by omega))⟩
  · rw [e127]
    exact hp.keep (fun a _ _ => h a (by omega) (by omega) (by omega) (by omega)) (fun _ _ _ => rfl)
  · rw [h b (by omega) (by omega) (by omega) (by omega), h2]; exact hk1
  · rw [h2, e128]
    rcases hk2 with k | ⟨k1, c2, kp2, al2, σ2, τ2, k2⟩
    · exact Or.inl k
    · exact Or.inr ⟨k1, c2, kp2, al2, σ2, τ2, k2.keep (fun a _ _ => h a (by omega) (by omega) (by omega) (by omega)) (fun _ _ _ => rfl)⟩
theorem Rel.sheets {K N : Nat → Nat} {b : Nat} {I I' : Nat → Nat → Int32} {P : Nat → Nat → Option Nat} (hR : Rel K N b I P) (h : ∀ a, ¬ (b + 110 ≤ a ∧ a < b + 118) → a ≠ b + 135 → a ≠ b + 136 → a ≠ b + 137 → I' a = I a) (hs : ∀ i, i < 4 → SheetR I' b i) : Rel K N b I' P := by
  obtain ⟨h1, ⟨cnt, kp, al, σ, τ, hp⟩, ⟨hk1, hk2⟩, ⟨fed, ht⟩, -⟩ := hR
  have e127 : I' (b + 127) = I (b + 127) := h _ (by omega) (by omega) (by omega) (by omega)
  have e128 : I' (b + 128) = I (b + 128) := h _ (by omega) (by omega) (by omega) (by omega)
  have e126 : I' (b + 126) = I (b + 126) := h _ (by omega) (by omega) (by omega) (by omega)
  refine ⟨h1, ⟨cnt, kp, al, σ, τ, ?_⟩, ⟨?_, ?_⟩, ⟨fed, ?_⟩, hs⟩
  · rw [e127]
    exact hp.keep (fun a _ _ => h a (by omega) (by omega) (by omega) (by omega)) (fun _ _ _ => rfl)
  · rw [h b (by omega) (by omega) (by omega) (by omega), e126]; exact hk1
  · rw [e126, e128]
    rcases hk2 with k | ⟨k1, c2, kp2, al2, σ2, τ2, k2⟩
    · exact Or.inl k
    · exact Or.inr ⟨k1, c2, kp2, al2, σ2, τ2, k2.keep (fun a _ _ => h a (by omega) (by omega) (by omega) (by omega)) (fun _ _ _ => rfl)⟩
  · unfold TapeR at ht ⊢
    rw [h (b + 105) (by omega) (by omega) (by omega) (by omega), e126, h (b + 106) (by omega) (by omega) (by omega) (by omega), h (b + 129) (by omega) (by omega) (by omega) (by omega)]
    exact ht
