/-! feed: one number more -/
theorem e_add {K N : Nat → Nat} {I : Nat → Nat → Int32} {P : Nat → Nat → Option Nat} {q r f : Nat} (hk : K q = 9) (hp : P q 0 = some r) (hr : K r = 12) (hn : N r = 60) (hqr : q ≠ r) (hf : f < 60) (hI : I q 1 = nI f) (x : Int32) : fn_X8_add K N I P q x = some (up2 (up2 I r f x) q 1 (nI (f + 1))) := by
  unfold fn_X8_add
  rw [gd_pos hk, hI, if_neg (show ¬ (60 : Int32) ≤ nI f from nI_ge (b := 60) hf (by decide)), hp, Option.bind_some, gd_pos ⟨hr, by rw [hn]; exact vp_in_nI hf (by decide)⟩, Option.bind_some, Option.bind_some, nI_clamp (by omega), up2_o hqr, hI, nI_1]
