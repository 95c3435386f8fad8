/-! the numbers of soft brushes -/
def nb (r : UInt32) : Bool := decide (r &&& 0x7fffffff ≤ 0x7f800000)
theorem nb_t {r : UInt32} (h : nb r = true) : vf_n32 r := by unfold vf_n32; exact of_decide_eq_true h
/-- a soft dot: r the radius, f the square of what lies between -/
def softV (r f : Nat) : Int32 := FP.f2i (FP.fmul (FP.i2f (if r * r < f then 0 else 255)) (FP.fsub FP.fconst1 (FP.fdiv (FP.i2f (nI f)) (FP.i2f (nI (r * r + 1))))))
def softG (r f : Nat) : Bool := nb (FP.fdiv (FP.i2f (nI f)) (FP.i2f (nI (r * r + 1)))) && nb (FP.fsub FP.fconst1 (FP.fdiv (FP.i2f (nI f)) (FP.i2f (nI (r * r + 1))))) && nb (FP.fmul (FP.i2f (if r * r < f then 0 else 255)) (FP.fsub FP.fconst1 (FP.fdiv (FP.i2f (nI f)) (FP.i2f (nI (r * r + 1)))))) && decide (0 ≤ (softV r f).toInt) && decide ((softV r f).toInt < 256) && (decide (f ≤ r * r) || decide (softV r f = 0))
theorem soft_tab : ∀ r, r < 5 → ∀ a, a < 19 → ∀ c, c < 19 → softG r (19 * a + c) = true := by decide +kernel
theorem e_soft {r f : Nat} (hr : r < 5) (hf : f < 361) : vf_n32 (FP.fdiv (FP.i2f (nI f)) (FP.i2f (nI (r * r + 1)))) ∧ vf_n32 (FP.fsub FP.fconst1 (FP.fdiv (FP.i2f (nI f)) (FP.i2f (nI (r * r + 1))))) ∧ vf_n32 (FP.fmul (FP.i2f (if r * r < f then 0 else 255)) (FP.fsub FP.fconst1 (FP.fdiv (FP.i2f (nI f)) (FP.i2f (nI (r * r + 1)))))) ∧ inR (softV r f) 256 ∧ (r * r < f → softV r f = 0) := by
  have h := soft_tab r hr (f / 19) (by omega) (f % 19) (by omega)
  rw [show 19 * (f / 19) + f % 19 = f by omega] at h
  simp only [softG, Bool.and_eq_true, Bool.or_eq_true, decide_eq_true_eq] at h
  obtain ⟨⟨⟨⟨⟨h1, h2⟩, h3⟩, h4⟩, h5⟩, h6⟩ := h
  exact ⟨nb_t h1, nb_t h2, nb_t h3, (inR_iff (by decide)).mpr ⟨h4, h5⟩, fun hlt => h6.resolve_left (by omega)⟩
/-- the air brush: v the soft dot, w the flow -/
def airV (v w : Nat) : Int32 := FP.f2i (FP.fdiv (FP.fmul (FP.i2f (nI v)) (FP.i2f (nI w))) (1091567616 : UInt32))
def airG (v w : Nat) : Bool := nb (FP.fmul (FP.i2f (nI v)) (FP.i2f (nI w))) && nb (FP.fdiv (FP.fmul (FP.i2f (nI v)) (FP.i2f (nI w))) (1091567616 : UInt32)) && decide (0 ≤ (airV v w).toInt) && decide ((airV v w).toInt < 256) && (decide (v ≠ 0) || decide (airV v w = 0))
theorem air_tab : ∀ w, w < 10 → ∀ a, a < 16 → ∀ c, c < 16 → airG (16 * a + c) w = true := by decide +kernel
theorem e_air {v w : Nat} (hv : v < 256) (hw : w < 10) : vf_n32 (FP.fmul (FP.i2f (nI v)) (FP.i2f (nI w))) ∧ vf_n32 (FP.fdiv (FP.fmul (FP.i2f (nI v)) (FP.i2f (nI w))) (1091567616 : UInt32)) ∧ inR (airV v w) 256 ∧ (v = 0 → airV v w = 0) := by
  have h := air_tab w hw (v / 16) (by omega) (v % 16) (by omega)
  rw [show 16 * (v / 16) + v % 16 = v by omega] at h
  simp only [airG, Bool.and_eq_true, Bool.or_eq_true, decide_eq_true_eq] at h
  obtain ⟨⟨⟨⟨h1, h2⟩, h4⟩, h5⟩, h6⟩ := h
  exact ⟨nb_t h1, nb_t h2, (inR_iff (by decide)).mpr ⟨h4, h5⟩, fun h0 => h6.resolve_left (fun n => n h0)⟩
