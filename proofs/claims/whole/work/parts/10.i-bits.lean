/-! the bits of a number below 4096 -/
theorem bits_tab : ∀ a, a < 64 → ∀ c, c < 64 → fn_J6_bitCount_0f7a4 (nI (64 * a + c)) = fn_X10_bits (nI (64 * a + c)) := by decide +kernel
theorem e_bits {x : Int32} (h : inR x 4096) : fn_J6_bitCount_0f7a4 x = fn_X10_bits x := by
  obtain ⟨j, hj, rfl⟩ := h
  have := bits_tab (j / 64) (by omega) (j % 64) (by omega)
  rw [show 64 * (j / 64) + j % 64 = j by omega] at this
  exact this
theorem bits_some : ∀ a, a < 64 → ∀ c, c < 64 → (fn_X10_bits (nI (64 * a + c))).isSome = true := by decide +kernel
theorem e_bits' {x : Int32} (h : inR x 4096) : ∃ r, fn_J6_bitCount_0f7a4 x = some r ∧ fn_X10_bits x = some r := by
  have h0 := e_bits h
  obtain ⟨j, hj, rfl⟩ := h
  have := bits_some (j / 64) (by omega) (j % 64) (by omega)
  rw [show 64 * (j / 64) + j % 64 = j by omega] at this
  obtain ⟨r, hr⟩ := Option.isSome_iff_exists.mp this
  exact ⟨r, h0.trans hr, hr⟩
