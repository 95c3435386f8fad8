/-- the model's -/
theorem e_beside {d k : Nat} (hd : d < 192) (hk : k < 4) : fn_X10_beside (nI d) (nI k) = some (match nbr d k with | none => -1 | some e => nI e) := by
  have ne : ∀ a c : Nat, a < 4 → c < 4 → a ≠ c → ¬ nI a = nI c := fun a c ha hc h e => h ((nI_eq (by omega) (by omega)).mp e)
  have z : ∀ x : Int32, x + 0 = x := fun x => Int32.add_zero x
  have mm : ∀ x : Int32, x + (-1) = x - 1 := fun x => (Int32.sub_eq_add_neg x 1).symm
  suffices h : ∀ x y : Int32, (x = if k = 0 then nI (d % 16) - 1 else if k = 1 then nI (d % 16) + 1 else nI (d % 16)) → (y = if k = 0 then nI (d / 16) else if k = 1 then nI (d / 16) else if k = 2 then nI (d / 16) - 1 else nI (d / 16) + 1) → Option.bind (fn_X10_isDot x y) (fun r7 => if r7 = 0 then some (-1 : Int32) else Option.bind (fn_X10_dotOf x y) (fun r9 => some r9)) = some (match nbr d k with | none => -1 | some e => nI e) by
    unfold fn_X10_beside
    have kk : k = 0 ∨ k = 1 ∨ k = 2 ∨ k = 3 := by omega
    rcases kk with rfl | rfl | rfl | rfl
    · rw [if_pos (show nI 0 = 0 from rfl), if_neg (show ¬ nI 0 = 2 from ne 0 2 (by decide) (by decide) (by decide)), if_neg (show ¬ nI 0 = 3 from ne 0 3 (by decide) (by decide) (by decide)), Option.bind_some, Option.bind_some, Option.bind_some, Option.bind_some, m16 (by omega), d16 (by omega), mm, z]
      exact h _ _ (by simp) (by simp)
    · rw [if_neg (show ¬ nI 1 = 0 from ne 1 0 (by decide) (by decide) (by decide)), if_pos (show nI 1 = 1 from rfl), if_neg (show ¬ nI 1 = 2 from ne 1 2 (by decide) (by decide) (by decide)), if_neg (show ¬ nI 1 = 3 from ne 1 3 (by decide) (by decide) (by decide)), Option.bind_some, Option.bind_some, Option.bind_some, Option.bind_some, m16 (by omega), d16 (by omega), z]
      exact h _ _ (by simp) (by simp)
    · rw [if_neg (show ¬ nI 2 = 0 from ne 2 0 (by decide) (by decide) (by decide)), if_neg (show ¬ nI 2 = 1 from ne 2 1 (by decide) (by decide) (by decide)), if_pos (show nI 2 = 2 from rfl), Option.bind_some, Option.bind_some, Option.bind_some, Option.bind_some, m16 (by omega), d16 (by omega), mm, z]
      exact h _ _ (by simp) (by simp)
    · rw [if_neg (show ¬ nI 3 = 0 from ne 3 0 (by decide) (by decide) (by decide)), if_neg (show ¬ nI 3 = 1 from ne 3 1 (by decide) (by decide) (by decide)), if_neg (show ¬ nI 3 = 2 from ne 3 2 (by decide) (by decide) (by decide)), if_pos (show nI 3 = 3 from rfl), Option.bind_some, Option.bind_some, Option.bind_some, Option.bind_some, m16 (by omega), d16 (by omega), z]
      exact h _ _ (by simp) (by simp)
  intro x y hx hy
  rw [e_isDot']
  rcases nbr_at hd hk x y hx hy with ⟨h1, h2⟩ | ⟨u, v, hu, hv, h1, h2, h3⟩
  · rw [bI_f h2, Option.bind_some, if_pos rfl, h1]
  · rw [bI_t ⟨⟨u, hu, h1⟩, ⟨v, hv, h2⟩⟩, Option.bind_some, if_neg (by decide), h1, h2, e_dotOf, Option.bind_some, h3]
