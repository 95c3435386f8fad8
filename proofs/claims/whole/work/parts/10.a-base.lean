/-! THE PURE SIDE. ok x Q: x is some answer with Q -/
def ok {α : Type} (x : Option α) (Q : α → Prop) : Prop := ∃ r, x = some r ∧ Q r
theorem ok_some {α : Type} {a : α} {Q : α → Prop} : ok (some a) Q ↔ Q a := ⟨fun ⟨r, h, q⟩ => by cases h; exact q, fun q => ⟨a, rfl, q⟩⟩
theorem ok_gd {α : Type} {c : Prop} {x : Option α} {Q : α → Prop} : ok (gd c x) Q ↔ c ∧ ok x Q := by
  constructor
  · rintro ⟨r, h, q⟩
    exact gd_e h (fun hc hx => ⟨hc, r, hx, q⟩)
  · rintro ⟨hc, r, h, q⟩
    exact ⟨r, by rw [gd_pos hc]; exact h, q⟩
theorem ok_bd {α β : Type} {x : Option α} {f : α → Option β} {Q : β → Prop} : ok (Option.bind x f) Q ↔ ok x (fun v => ok (f v) Q) := by
  constructor
  · rintro ⟨r, h, q⟩
    obtain ⟨v, h1, h2⟩ := Option.bind_eq_some_iff.mp h
    exact ⟨v, h1, r, h2, q⟩
  · rintro ⟨v, h1, r, h2, q⟩
    exact ⟨r, by rw [h1]; exact h2, q⟩
theorem ok_ite {α : Type} {c : Prop} [Decidable c] {x y : Option α} {Q : α → Prop} : ok (if c then x else y) Q ↔ (c → ok x Q) ∧ (¬ c → ok y Q) := by
  by_cases h : c
  · rw [if_pos h]; exact ⟨fun k => ⟨fun _ => k, fun n => absurd h n⟩, fun k => k.1 h⟩
  · rw [if_neg h]; exact ⟨fun k => ⟨fun n => absurd n h, fun _ => k⟩, fun k => k.2 h⟩
theorem ok_none {α : Type} {Q : α → Prop} : ok (none : Option α) Q ↔ False := ⟨fun ⟨_, h, _⟩ => by (cases h), fun h => h.elim⟩
theorem ok.mono {α : Type} {x : Option α} {Q R : α → Prop} (h : ok x Q) (k : ∀ r, Q r → R r) : ok x R := by obtain ⟨r, h1, h2⟩ := h; exact ⟨r, h1, k r h2⟩
theorem ok_eq {α : Type} {x : Option α} {a : α} {Q : α → Prop} (h : x = some a) : ok x Q ↔ Q a := by rw [h]; exact ok_some
theorem ok_get {α : Type} {x : Option α} {Q : α → Prop} (h : ok x Q) {r : α} (hr : x = some r) : Q r := (ok_eq hr).mp h
theorem gd_true {α : Type} {x : Option α} : gd True x = x := gd_pos trivial
/-! numbers -/
theorem nI_lit (n : Nat) : (OfNat.ofNat n : Int32) = nI n := rfl
theorem Int32_cases (x : Int32) (n : Nat) (hn : n < 2 ^ 31) : (∃ j, j < n ∧ x = nI j) ∨ (x < 0 ∨ nI n ≤ x) := by
  rcases pk_ix x hn with h | h | h
  · exact Or.inr (Or.inl h)
  · exact Or.inr (Or.inr h)
  · exact Or.inl h
/-- x is one of 0 .. n - 1 -/
def inR (x : Int32) (n : Nat) : Prop := ∃ j, j < n ∧ x = nI j
noncomputable def bI (c : Prop) : Int32 := @ite _ c (Classical.propDecidable c) 1 0
theorem bI_t {c : Prop} (h : c) : bI c = 1 := if_pos h
theorem bI_f {c : Prop} (h : ¬ c) : bI c = 0 := if_neg h
theorem bI_01 (c : Prop) : bI c = 0 ∨ bI c = 1 := by
  by_cases h : c
  · exact Or.inr (bI_t h)
  · exact Or.inl (bI_f h)
theorem bI_0 {c : Prop} : bI c = 0 ↔ ¬ c := by
  by_cases h : c
  · rw [bI_t h]; exact ⟨fun e => absurd e (by decide), fun n => absurd h n⟩
  · rw [bI_f h]; exact ⟨fun _ => h, fun _ => rfl⟩
theorem inR_iff {x : Int32} {n : Nat} (hn : n < 2 ^ 31) : inR x n ↔ 0 ≤ x.toInt ∧ x.toInt < n := by
  constructor
  · rintro ⟨j, h, rfl⟩
    rw [nI_toInt (by omega)]; omega
  · rintro ⟨h1, h2⟩
    refine ⟨x.toInt.toNat, by omega, ?_⟩
    rw [← Int32.toInt_inj, nI_toInt (by omega)]; omega
theorem inR_nI {j n : Nat} (hj : j < 2 ^ 31) : inR (nI j) n ↔ j < n := by
  constructor
  · rintro ⟨i, h, e⟩
    by_cases hi : i < 2 ^ 31
    · rw [(nI_eq hj hi).mp e]; exact h
    · omega
  · intro h; exact ⟨j, h, rfl⟩
theorem isWithin_nI {x : Int32} {n : Nat} (h0 : 0 < n) (hn : n < 2 ^ 31) : fn_X9_isWithin x 0 (nI (n - 1)) = some (bI (inR x n)) := by
  unfold fn_X9_isWithin
  by_cases h : inR x n
  · rw [bI_t h]
    obtain ⟨j, hj, rfl⟩ := h
    rw [if_neg (nI_pos (by omega)), if_neg (nI_nlt (by omega) (by omega))]
  · rw [bI_f h]
    by_cases h1 : x < 0
    · rw [if_pos h1]
    · rw [if_neg h1]
      have h2 : nI (n - 1) < x := by
        rw [Int32.lt_iff_toInt_lt, nI_toInt (by omega)]
        have h3 : ¬ x.toInt < 0 := fun e => h1 (by rw [Int32.lt_iff_toInt_lt]; exact e)
        have h4 : ¬ (0 ≤ x.toInt ∧ x.toInt < n) := fun e => h ((inR_iff hn).mpr e)
        omega
      rw [if_pos h2]
theorem isIn_eq : fn_X10_isIn = fn_X9_isWithin := rfl
theorem isIn_nI {x : Int32} {n : Nat} (h0 : 0 < n) (hn : n < 2 ^ 31) : fn_X10_isIn x 0 (nI (n - 1)) = some (bI (inR x n)) := by rw [isIn_eq]; exact isWithin_nI h0 hn
theorem isWithin_bI (x a b : Int32) : fn_X9_isWithin x a b = some (bI (a ≤ x ∧ x ≤ b)) := by
  unfold fn_X9_isWithin
  by_cases h1 : x < a
  · rw [if_pos h1, bI_f (fun h => absurd h1 (Int32.not_lt.mpr h.1))]
  · rw [if_neg h1]
    by_cases h2 : b < x
    · rw [if_pos h2, bI_f (fun h => absurd h2 (Int32.not_lt.mpr h.2))]
    · rw [if_neg h2, bI_t ⟨Int32.not_lt.mp h1, Int32.not_lt.mp h2⟩]
theorem gd_01 {c : Prop} {f : Option Int32} : gd (bI c = 0 ∨ bI c = 1) f = f := gd_pos (bI_01 c)
theorem bI_and {c d : Prop} : (if bI c = 0 then (some 0 : Option Int32) else some (bI d)) = some (bI (c ∧ d)) := by
  by_cases h : c
  · rw [if_neg (by rw [bI_t h]; decide)]
    congr 1
    by_cases h2 : d
    · rw [bI_t h2, bI_t ⟨h, h2⟩]
    · rw [bI_f h2, bI_f (fun e => h2 e.2)]
  · rw [if_pos (bI_f h), bI_f (fun e => h e.1)]
theorem bI_self {c : Prop} : (if bI c = 0 then (some 0 : Option Int32) else some 1) = some (bI c) := by
  by_cases h : c
  · rw [if_neg (by rw [bI_t h]; decide), bI_t h]
  · rw [if_pos (bI_f h), bI_f h]
theorem e_isByte (x : Int32) : fn_X9_isByte x = some (bI (inR x 256)) := by
  unfold fn_X9_isByte
  rw [show (255 : Int32) = nI (256 - 1) from rfl, isWithin_nI (by decide) (by decide), Option.bind_some, gd_01]
theorem e_isByte' (x : Int32) : fn_X10_isByte x = some (bI (inR x 256)) := by
  unfold fn_X10_isByte
  rw [show (255 : Int32) = nI (256 - 1) from rfl, isIn_nI (by decide) (by decide), Option.bind_some, gd_01]
theorem e_isRow (x : Int32) : fn_X9_isRow x = some (bI (inR x 12)) := by
  unfold fn_X9_isRow
  rw [show (11 : Int32) = nI (12 - 1) from rfl, isWithin_nI (by decide) (by decide), Option.bind_some, gd_01]
theorem e_isSheet (x : Int32) : fn_X9_isSheet x = some (bI (inR x 4)) := by
  unfold fn_X9_isSheet
  rw [show (3 : Int32) = nI (4 - 1) from rfl, isWithin_nI (by decide) (by decide), Option.bind_some, gd_01]
theorem e_isSheet' (x : Int32) : fn_X10_isSheet x = some (bI (inR x 4)) := by
  unfold fn_X10_isSheet
  rw [show (3 : Int32) = nI (4 - 1) from rfl, isIn_nI (by decide) (by decide), Option.bind_some, gd_01]
theorem e_isDot (x y : Int32) : fn_X9_isDot x y = some (bI (inR x 16 ∧ inR y 12)) := by
  unfold fn_X9_isDot
  rw [show (15 : Int32) = nI (16 - 1) from rfl, isWithin_nI (by decide) (by decide), Option.bind_some, e_isRow, Option.bind_some, bI_self, bI_and]
theorem e_isDot' (x y : Int32) : fn_X10_isDot x y = some (bI (inR x 16 ∧ inR y 12)) := by
  unfold fn_X10_isDot
  rw [show (15 : Int32) = nI (16 - 1) from rfl, isIn_nI (by decide) (by decide), Option.bind_some, show (11 : Int32) = nI (12 - 1) from rfl, isIn_nI (by decide) (by decide), Option.bind_some, bI_self, bI_and]
theorem e_isDress (x y v : Int32) : fn_X9_isDress x y v = some (bI (inR x 6 ∧ inR y 100 ∧ inR v 256)) := by
  unfold fn_X9_isDress
  rw [show (5 : Int32) = nI (6 - 1) from rfl, isWithin_nI (by decide) (by decide), Option.bind_some, show (99 : Int32) = nI (100 - 1) from rfl, isWithin_nI (by decide) (by decide), Option.bind_some, e_isByte, Option.bind_some, bI_self, bI_and, bI_and]
theorem e_isDress' (x y v : Int32) : fn_X10_isDress x y v = some (bI (inR x 6 ∧ inR y 100 ∧ inR v 256)) := by
  unfold fn_X10_isDress
  rw [show (5 : Int32) = nI (6 - 1) from rfl, isIn_nI (by decide) (by decide), Option.bind_some, show (99 : Int32) = nI (100 - 1) from rfl, isIn_nI (by decide) (by decide), Option.bind_some, e_isByte', Option.bind_some, bI_self, bI_and, bI_and]
theorem e_dotAt (x y : Nat) : fn_X9_dotAt (nI x) (nI y) = some (nI (16 * y + x)) := by
  unfold fn_X9_dotAt
  rw [show (16 : Int32) = nI 16 from rfl, pk_mul, nI_add, Nat.mul_comm y 16]
theorem e_dotOf (x y : Nat) : fn_X10_dotOf (nI x) (nI y) = some (nI (16 * y + x)) := by
  unfold fn_X10_dotOf
  rw [show (16 : Int32) = nI 16 from rfl, pk_mul, nI_add]
/-- reading what was set -/
theorem up2_s {I : Nat → Nat → Int32} {a k : Nat} {v : Int32} : up2 I a k v a k = v := by simp [up2]
theorem up2_k {I : Nat → Nat → Int32} {a k j : Nat} {v : Int32} (h : j ≠ k) : up2 I a k v a j = I a j := by simp [up2, h]
theorem up2_a {I : Nat → Nat → Int32} {a b k : Nat} {v : Int32} (h : b ≠ a) : up2 I a k v b = I b := up2_ne I k v h
theorem upP_s {P : Nat → Nat → Option Nat} {a k : Nat} {v : Option Nat} : upP P a k v a k = v := by simp [upP]
theorem upP_k {P : Nat → Nat → Option Nat} {a k j : Nat} {v : Option Nat} (h : j ≠ k) : upP P a k v a j = P a j := by simp [upP, h]
theorem upP_a {P : Nat → Nat → Option Nat} {a b k : Nat} {v : Option Nat} (h : b ≠ a) : upP P a k v b = P b := upP_ne P k v h
/-- a counting loop, by its steps -/
theorem loop_ok {σ τ : Type} (F : Nat → Nat → σ → Option τ) (e : Nat) (Inv : Nat → σ → Prop) (Post : τ → Prop) (hx : ∀ n s, Inv e s → ok (F (n + 1) e s) Post) (hs : ∀ n i s, i < e → Inv i s → (∀ s', Inv (i + 1) s' → ok (F n (i + 1) s') Post) → ok (F (n + 1) i s) Post) : ∀ (n i : Nat) (s : σ), i ≤ e → e < i + n → Inv i s → ok (F n i s) Post := by
  intro n
  induction n with
  | zero => intro i s h1 h2; omega
  | succ n ih =>
    intro i s h1 h2 h3
    by_cases h : i = e
    · subst h; exact hx n s h3
    · exact hs n i s (by omega) h3 (fun s' h' => ih (i + 1) s' (by omega) (by omega) h')
theorem FU_lt {e i : Nat} (h : e < i + 6000) : e < i + FU := h
