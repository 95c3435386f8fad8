/-! a line's dots, in numbers -/
def fl (a b : Int32) : Int32 := if 0 ≤ (a ^^^ b) then a / b else if (a / b) * b = a then a / b else a / b - 1
theorem e_fl {a b : Int32} (hb : ¬ b = 0) : fn_J9_floorDiv_7cf53 a b = some (fl a b) := by
  unfold fn_J9_floorDiv_7cf53 fl
  rw [gd_pos hb, Option.bind_some]
  by_cases h : 0 ≤ (a ^^^ b)
  · rw [if_pos h, if_pos h]
  · rw [if_neg h, if_neg h]
    by_cases h2 : (a / b) * b = a
    · rw [if_pos h2, if_pos h2]
    · rw [if_neg h2, if_neg h2]
def flK (e k n : Nat) : Int32 := fl (((2 : Int32) * nI k) * (nI e - nI 15) + nI n) ((2 : Int32) * nI n)
def flB (n k e : Nat) : Bool := !(decide (1 ≤ k) && decide (k ≤ n) && decide (e ≤ 15 + n) && decide (15 ≤ e + n)) || ((decide (15 < e) || (decide ((e : Int) - 15 ≤ (flK e k n).toInt) && decide ((flK e k n).toInt ≤ 0))) && (decide (e < 15) || (decide (0 ≤ (flK e k n).toInt) && decide ((flK e k n).toInt ≤ (e : Int) - 15))))
theorem fl_all : ∀ n : Nat, n < 16 → ∀ k : Nat, k < 16 → ∀ e : Nat, e < 31 → flB n k e = true := by decide +kernel
theorem fl_tab {n k e : Nat} (hn : n < 16) (hk : k < 16) (h1 : 1 ≤ k) (h2 : k ≤ n) (he : e < 31) (h3 : e ≤ 15 + n) (h4 : 15 ≤ e + n) : (e ≤ 15 → (e : Int) - 15 ≤ (flK e k n).toInt ∧ (flK e k n).toInt ≤ 0) ∧ (15 ≤ e → 0 ≤ (flK e k n).toInt ∧ (flK e k n).toInt ≤ (e : Int) - 15) := by
  have h := fl_all n hn k hk e he
  unfold flB at h
  simp only [Bool.or_eq_true, Bool.and_eq_true, Bool.not_eq_true', Bool.and_eq_false_iff, decide_eq_true_eq, decide_eq_false_iff_not] at h
  omega
def adf (x u : Nat) : Nat := (x - u) + (u - x)
def ln (x y u v : Nat) : Nat := max (adf x u) (adf y v)
def btV (x u k n : Nat) : Int32 := nI x + fl (((2 : Int32) * nI k) * (nI u - nI x) + nI n) ((2 : Int32) * nI n)
def btN (x u k n : Nat) : Nat := (btV x u k n).toNatClampNeg
theorem btN_ok {x u k n m : Nat} (hm : m ≤ 16) (hx : x < m) (hu : u < m) (hk : 1 ≤ k) (hkn : k ≤ n) (hn : n < 16) (ha : adf x u ≤ n) : btV x u k n = nI (btN x u k n) ∧ btN x u k n < m := by
  have e : nI u - nI x = nI (15 + u - x) - nI 15 := by
    rw [← Int32.toInt_inj, pk_sub_toInt (by omega) (by omega), pk_sub_toInt (by omega) (by omega)]; omega
  unfold adf at ha
  obtain ⟨h1, h2⟩ := fl_tab (n := n) (k := k) (e := 15 + u - x) hn (by omega) hk hkn (by omega) (by omega) (by omega)
  have hv : btV x u k n = nI x + flK (15 + u - x) k n := by unfold btV flK; rw [e]
  have hR : inR (btV x u k n) m := by
    rw [hv, inR_iff (by omega), t_add (by rw [nI_toInt (by omega)]; omega) (by rw [nI_toInt (by omega)]; omega), nI_toInt (by omega)]
    omega
  obtain ⟨j, hj, ej⟩ := hR
  unfold btN
  rw [ej, nI_clamp (by omega)]
  exact ⟨rfl, hj⟩
theorem e_adf {x u : Nat} (hx : x < 2 ^ 20) (hu : u < 2 ^ 20) : (if 0 ≤ nI u - nI x then nI u - nI x else 0 - (nI u - nI x)) = nI (adf x u) := by
  unfold adf
  by_cases h : x ≤ u
  · rw [pk_sub h, if_pos (nI_pos' (by omega)), show x - u + (u - x) = u - x by omega]
  · have hn := pk_sneg (a := u) (b := x) (by omega) (by omega)
    rw [if_neg (Int32.not_le.mpr hn), show x - u + (u - x) = x - u by omega, ← pk_sub (by omega)]
    rw [← Int32.toInt_inj, t_sub (by rw [pk_sub_toInt (by omega) (by omega)]; have : (0 : Int32).toInt = 0 := rfl; omega) (by rw [pk_sub_toInt (by omega) (by omega)]; have : (0 : Int32).toInt = 0 := rfl; omega), pk_sub_toInt (by omega) (by omega), pk_sub_toInt (by omega) (by omega)]
    have : (0 : Int32).toInt = 0 := rfl
    omega
theorem e_ln {x y u v : Nat} (hx : x < 2 ^ 20) (hy : y < 2 ^ 20) (hu : u < 2 ^ 20) (hv : v < 2 ^ 20) : (if (if 0 ≤ nI u - nI x then nI u - nI x else 0 - (nI u - nI x)) < (if 0 ≤ nI v - nI y then nI v - nI y else 0 - (nI v - nI y)) then (if 0 ≤ nI v - nI y then nI v - nI y else 0 - (nI v - nI y)) else (if 0 ≤ nI u - nI x then nI u - nI x else 0 - (nI u - nI x))) = nI (ln x y u v) := by
  rw [e_adf hx hu, e_adf hy hv]
  have b1 : adf x u < 2 ^ 31 := by unfold adf; omega
  have b2 : adf y v < 2 ^ 31 := by unfold adf; omega
  unfold ln
  by_cases h : adf x u < adf y v
  · rw [if_pos (nI_lt h b2), Nat.max_eq_right (by omega)]
  · rw [if_neg (nI_nlt (by omega) b1), Nat.max_eq_left (by omega)]
theorem ln_lt {x y u v : Nat} (hx : x < 16) (hy : y < 12) (hu : u < 16) (hv : v < 12) : ln x y u v < 16 := by unfold ln adf; omega
theorem two_n {n : Nat} (h : 1 ≤ n) (hn : n < 16) : ¬ (2 : Int32) * nI n = 0 := by
  rw [show (2 : Int32) = nI 2 from rfl, pk_mul]; exact nI_ne0 (by omega) (by omega)
theorem e_bet {x u k n : Nat} (hk : 1 ≤ k) (hkn : k ≤ n) (hn : n < 16) : fn_X6_between (nI x) (nI u) (nI k) (nI n) = some (btV x u k n) := by
  unfold fn_X6_between
  rw [if_pos (show (1 : Int32) ≤ nI n from nI_le (a := 1) (by omega) (by omega)), e_fl (two_n (by omega) hn), Option.bind_some]
  rfl
/-! stamps, lines, strokes: what they make of a layer's dots -/
abbrev DT : Type := (Nat → Int32) × (Nat → Int32)
def DI (s : DT) : Prop := ∀ d, d < 192 → DotI (s.1 d) (s.2 d)
def st1 (mk : Nat → Int32) (bi : Int32) (cv : Nat → Nat → Nat → Int32) (x y : Nat) (s : DT) : DT := (stpI mk (cv x y) bi s.1 s.2, stpO mk (cv x y) bi s.2)
def linK (mk : Nat → Int32) (bi : Int32) (cv : Nat → Nat → Nat → Int32) (x y u v : Nat) (s : DT) : Nat → DT
  | 0 => s
  | k + 1 => st1 mk bi cv (btN x u (k + 1) (ln x y u v)) (btN y v (k + 1) (ln x y u v)) (linK mk bi cv x y u v s k)
def lin (mk : Nat → Int32) (bi : Int32) (cv : Nat → Nat → Nat → Int32) (x y u v : Nat) (s : DT) : DT := linK mk bi cv x y u v s (ln x y u v)
def pol (mk : Nat → Int32) (bi : Int32) (cv : Nat → Nat → Nat → Int32) (xs ys : Nat → Nat) (s : DT) : Nat → DT
  | 0 => st1 mk bi cv (xs 0) (ys 0) s
  | k + 1 => lin mk bi cv (xs k) (ys k) (xs (k + 1)) (ys (k + 1)) (pol mk bi cv xs ys s k)
def stm (xs ys : Nat → Nat) : Nat → Nat
  | 0 => 1
  | k + 1 => stm xs ys k + ln (xs k) (ys k) (xs (k + 1)) (ys (k + 1))
theorem stm_le {xs ys : Nat → Nat} : ∀ n, (∀ j, j ≤ n → xs j < 16 ∧ ys j < 12) → stm xs ys n ≤ 1 + 15 * n
  | 0, _ => Nat.le_refl _
  | n + 1, h => by
    have ih := stm_le (xs := xs) (ys := ys) n (fun j hj => h j (by omega))
    obtain ⟨h1, h2⟩ := h n (by omega)
    obtain ⟨h3, h4⟩ := h (n + 1) (Nat.le_refl _)
    have := ln_lt h1 h2 h3 h4
    unfold stm
    omega
def CvI (cv : Nat → Nat → Nat → Int32) : Prop := ∀ x y, x < 16 → y < 12 → ∀ d, d < 192 → inR (cv x y d) 256
theorem st1_in {mk : Nat → Int32} {bi : Int32} {cv : Nat → Nat → Nat → Int32} {x y : Nat} {s : DT} (hb : bi = -1 ∨ inR bi 256) (hc : CvI cv) (hx : x < 16) (hy : y < 12) (h : DI s) : DI (st1 mk bi cv x y s) := stp_in hb (hc x y hx hy) h
theorem linK_in {mk : Nat → Int32} {bi : Int32} {cv : Nat → Nat → Nat → Int32} {x y u v : Nat} {s : DT} (hb : bi = -1 ∨ inR bi 256) (hc : CvI cv) (hx : x < 16) (hy : y < 12) (hu : u < 16) (hv : v < 12) (h : DI s) : ∀ k, k ≤ ln x y u v → DI (linK mk bi cv x y u v s k)
  | 0, _ => h
  | k + 1, hk => by
    have ih := linK_in (mk := mk) hb hc hx hy hu hv h k (by omega)
    have hn := ln_lt hx hy hu hv
    have h1 := (btN_ok (m := 16) (k := k + 1) (n := ln x y u v) (Nat.le_refl _) hx hu (by omega) hk hn (by unfold ln; omega)).2
    have h2 := (btN_ok (m := 12) (k := k + 1) (n := ln x y u v) (by decide) hy hv (by omega) hk hn (by unfold ln; omega)).2
    exact st1_in hb hc h1 h2 ih
theorem pol_in {mk : Nat → Int32} {bi : Int32} {cv : Nat → Nat → Nat → Int32} {xs ys : Nat → Nat} {s : DT} (hb : bi = -1 ∨ inR bi 256) (hc : CvI cv) (h : DI s) : ∀ n, (∀ j, j ≤ n → xs j < 16 ∧ ys j < 12) → DI (pol mk bi cv xs ys s n)
  | 0, hx => st1_in hb hc (hx 0 (Nat.le_refl _)).1 (hx 0 (Nat.le_refl _)).2 h
  | n + 1, hx => by
    have ih := pol_in (mk := mk) hb hc h n (fun j hj => hx j (by omega))
    exact linK_in hb hc (hx n (by omega)).1 (hx n (by omega)).2 (hx (n + 1) (by omega)).1 (hx (n + 1) (by omega)).2 ih _ (Nat.le_refl _)
