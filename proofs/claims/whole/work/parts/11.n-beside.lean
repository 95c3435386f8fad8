/-! the dots beside -/
theorem m1_out {n : Nat} (h : n < 2 ^ 31) : ¬ inR (-1) n := fun e => by
  have h1 := ((inR_iff h).mp e).1
  have m1 : (-1 : Int32).toInt = -1 := rfl
  omega
def nbr (d k : Nat) : Option Nat := if k = 0 then (if d % 16 = 0 then none else some (d - 1)) else if k = 1 then (if d % 16 = 15 then none else some (d + 1)) else if k = 2 then (if d / 16 = 0 then none else some (d - 16)) else (if d / 16 = 11 then none else some (d + 16))
theorem nbr_lt {d k e : Nat} (hd : d < 192) (h : nbr d k = some e) : e < 192 := by
  unfold nbr at h
  split at h
  · split at h
    · cases h
    · injection h with h; omega
  · split at h
    · split at h
      · cases h
      · injection h with h; omega
    · split at h
      · split at h
        · cases h
        · injection h with h; omega
      · split at h
        · cases h
        · injection h with h; omega
theorem lo_out {u n : Nat} (hn : n < 2 ^ 31) (hu : u < n) : (u = 0 ∧ ¬ inR (nI u - 1) n) ∨ (1 ≤ u ∧ nI u - 1 = nI (u - 1)) := by
  by_cases h : u = 0
  · subst h; exact Or.inl ⟨rfl, m1_out hn⟩
  · exact Or.inr ⟨by omega, by rw [show (1 : Int32) = nI 1 from rfl, pk_sub (by omega)]⟩
theorem hi_out {u n : Nat} (hn : n < 2 ^ 31) (hu : u < n) : (u + 1 = n ∧ ¬ inR (nI u + 1) n) ∨ (u + 1 < n ∧ nI u + 1 = nI (u + 1)) := by
  rw [nI_1]
  by_cases h : u + 1 = n
  · exact Or.inl ⟨h, by rw [inR_nI (by omega)]; omega⟩
  · exact Or.inr ⟨by omega, rfl⟩
/-- the shifted dot, by the two coordinates that both sides make -/
theorem nbr_at {d k : Nat} (hd : d < 192) (hk : k < 4) (x y : Int32) (hx : x = if k = 0 then nI (d % 16) - 1 else if k = 1 then nI (d % 16) + 1 else nI (d % 16)) (hy : y = if k = 0 then nI (d / 16) else if k = 1 then nI (d / 16) else if k = 2 then nI (d / 16) - 1 else nI (d / 16) + 1) : (nbr d k = none ∧ ¬ (inR x 16 ∧ inR y 12)) ∨ (∃ u v, u < 16 ∧ v < 12 ∧ x = nI u ∧ y = nI v ∧ nbr d k = some (16 * v + u)) := by
  unfold nbr
  have h1 : d % 16 < 16 := by omega
  have h2 : d / 16 < 12 := by omega
  by_cases k0 : k = 0
  · rw [if_pos k0] at hx hy ⊢
    rcases lo_out (n := 16) (by decide) h1 with ⟨a, c⟩ | ⟨a, c⟩
    · rw [if_pos a]; exact Or.inl ⟨rfl, by rw [hx]; exact fun e => c e.1⟩
    · rw [if_neg (by omega)]; exact Or.inr ⟨d % 16 - 1, d / 16, by omega, h2, by rw [hx, c], hy, by congr 1; omega⟩
  rw [if_neg k0] at hx hy ⊢
  by_cases k1 : k = 1
  · rw [if_pos k1] at hx hy ⊢
    rcases hi_out (n := 16) (by decide) h1 with ⟨a, c⟩ | ⟨a, c⟩
    · rw [if_pos (by omega)]; exact Or.inl ⟨rfl, by rw [hx]; exact fun e => c e.1⟩
    · rw [if_neg (by omega)]; exact Or.inr ⟨d % 16 + 1, d / 16, by omega, h2, by rw [hx, c], hy, by congr 1; omega⟩
  rw [if_neg k1] at hx hy ⊢
  by_cases k2 : k = 2
  · rw [if_pos k2] at hy ⊢
    rcases lo_out (n := 12) (by decide) h2 with ⟨a, c⟩ | ⟨a, c⟩
    · rw [if_pos a]; exact Or.inl ⟨rfl, by rw [hy]; exact fun e => c e.2⟩
    · rw [if_neg (by omega)]; exact Or.inr ⟨d % 16, d / 16 - 1, h1, by omega, hx, by rw [hy, c], by congr 1; omega⟩
  rw [if_neg k2] at hy ⊢
  rcases hi_out (n := 12) (by decide) h2 with ⟨a, c⟩ | ⟨a, c⟩
  · rw [if_pos (by omega)]; exact Or.inl ⟨rfl, by rw [hy]; exact fun e => c e.2⟩
  · rw [if_neg (by omega)]; exact Or.inr ⟨d % 16, d / 16 + 1, h1, by omega, hx, by rw [hy, c], by congr 1; omega⟩
