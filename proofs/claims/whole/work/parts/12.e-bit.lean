/-! a tile's bit, read in two ways -/
theorem tl_tab : ∀ d, d < 192 → tl d = nI (d / 16 / 4 * 4 + d % 16 / 4) := by decide +kernel
theorem bit_tab : ∀ t, t < 12 → ∀ a, a < 64 → ∀ c, c < 64 → (nI (64 * a + c) &&& ((1 : Int32) <<< (nI t &&& 31)) = 0 ↔ (nI (64 * a + c) >>> (nI t &&& 31)) &&& (1 : Int32) = 0) := by decide +kernel
theorem e_bit {x : Int32} {d : Nat} (hx : inR x 4096) (hd : d < 192) : ((x >>> (tl d &&& 31)) &&& (1 : Int32) = 0) ↔ x &&& tbit d = 0 := by
  obtain ⟨n, hn, rfl⟩ := hx
  unfold tbit
  rw [tl_tab d hd]
  have := bit_tab (d / 16 / 4 * 4 + d % 16 / 4) (by omega) (n / 64) (by omega) (n % 64) (by omega)
  rw [show 64 * (n / 64) + n % 64 = n by omega] at this
  exact this.symm
