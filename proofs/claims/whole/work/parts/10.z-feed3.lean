/-! feed, the method -/
theorem bI_and' {c d : Prop} {f : Option Int32} (h : f = some (bI d)) : (if bI c = 0 then (some 0 : Option Int32) else f) = some (bI (c ∧ d)) := by rw [h]; exact bI_and
def by5 (x2 x3 x4 x5 x6 : Int32) : Prop := inR x2 256 ∧ inR x3 256 ∧ inR x4 256 ∧ inR x5 256 ∧ inR x6 256
theorem five {x : Int32} (h : 1 ≤ x ∧ x ≤ 5) : ∃ n, 1 ≤ n ∧ n ≤ 5 ∧ x = nI n := by
  have p1 : (1 : Int32).toInt = 1 := rfl
  have p5 : (5 : Int32).toInt = 5 := rfl
  rw [Int32.le_iff_toInt_le, Int32.le_iff_toInt_le, p1, p5] at h
  obtain ⟨j, hj, e⟩ := (inR_iff (x := x) (n := 6) (by decide)).mpr ⟨by omega, by omega⟩
  have := congrArg Int32.toInt e
  rw [nI_toInt (by omega)] at this
  exact ⟨j, by omega, by omega, e⟩
set_option maxHeartbeats 4000000 in
theorem e_addAll {K N : Nat → Nat} {b : Nat} : ∀ (I : Nat → Nat → Int32) (P : Nat → Nat → Option Nat) (f n : Nat) (x2 x3 x4 x5 x6 : Int32), Rel K N b I P → I (b + 105) 1 = nI f → 1 ≤ n → n ≤ 5 → f + n ≤ 60 → by5 x2 x3 x4 x5 x6 → fn_X9_feed K N I P b (nI n) x2 x3 x4 x5 x6 = some (nI (f + n), addN I (b + 105) (b + 106) f (fy x2 x3 x4 x5 x6) n) := by
  intro I P f n x2 x3 x4 x5 x6 hR
  have hR0 := hR
  obtain ⟨⟨hroot, hp1, hp53, hmod⟩, ⟨cnt, kp, al, σ, τ, hpic⟩, himg, ⟨fed, htape⟩, hsheets⟩ := hR
  have hpic : PicR I P (b + 1) (I (b + 126 + 1)) cnt kp al σ τ := hpic
  have hpic0 := hpic
  obtain ⟨⟨hcnt, hkp, hal⟩, ⟨hσ, hτ, hlay, hact⟩, ⟨hc1, hg0⟩, ⟨hpap, hpap2⟩, hbr, hlays, hmask, ⟨ha1, ha2, ha3, ha4⟩, hacts⟩ := hpic
  obtain ⟨⟨kb, pb0, pb1, pb3, pb4, pb5, pb6, pb7⟩, hrt, hrs, hrc, hrth, hrl⟩ := id hroot
  obtain ⟨⟨k7, k15, n4, k6, k13, n192, k3, k2, k14, n11⟩, ⟨pp0, pp3, pp4, pp5, pm0, pa0⟩, hacsh, hlash⟩ := id hp1
  have km := hmod.1.1
  have pm := hmod.2.2.1
  intro hI h1 h5 hf hb
  obtain ⟨b2, b3, b4, b5, b6⟩ := hb
  obtain ⟨k9, k12, n60, -, -, -, -, q0, -⟩ := hrt
  have c1 : fn_X9_isWithin (nI n) 1 5 = some 1 := by
    rw [isWithin_bI, bI_t ⟨nI_le (a := 1) h1 (by omega), nI_le (b := 5) h5 (by omega)⟩]
  have y2 := e_isByte x2
  have y3 := e_isByte x3
  have y4 := e_isByte x4
  have y5 := e_isByte x5
  have y6 := e_isByte x6
  rw [bI_t b2] at y2
  rw [bI_t b3] at y3
  rw [bI_t b4] at y4
  rw [bI_t b5] at y5
  rw [bI_t b6] at y6
  have hle : nI f + nI n ≤ 60 := by rw [nI_add]; exact nI_le (b := 60) hf (by decide)
  have ad : ∀ k, k < n → fn_X8_add K N (addN I (b + 105) (b + 106) f (fy x2 x3 x4 x5 x6) k) P (b + 105) (fy x2 x3 x4 x5 x6 k) = some (addN I (b + 105) (b + 106) f (fy x2 x3 x4 x5 x6) (k + 1)) := fun k hk => e_add k9 q0 k12 n60 (by omega) (by omega) (addN_q hI k) _
  have a0 : 0 < n → fn_X8_add K N I P (b + 105) x2 = some (addN I (b + 105) (b + 106) f (fy x2 x3 x4 x5 x6) 1) := ad 0
  have a1 : 1 < n → fn_X8_add K N (addN I (b + 105) (b + 106) f (fy x2 x3 x4 x5 x6) 1) P (b + 105) x3 = some (addN I (b + 105) (b + 106) f (fy x2 x3 x4 x5 x6) 2) := ad 1
  have a2 : 2 < n → fn_X8_add K N (addN I (b + 105) (b + 106) f (fy x2 x3 x4 x5 x6) 2) P (b + 105) x4 = some (addN I (b + 105) (b + 106) f (fy x2 x3 x4 x5 x6) 3) := ad 2
  have a3 : 3 < n → fn_X8_add K N (addN I (b + 105) (b + 106) f (fy x2 x3 x4 x5 x6) 3) P (b + 105) x5 = some (addN I (b + 105) (b + 106) f (fy x2 x3 x4 x5 x6) 4) := ad 3
  have a4 : 4 < n → fn_X8_add K N (addN I (b + 105) (b + 106) f (fy x2 x3 x4 x5 x6) 4) P (b + 105) x6 = some (addN I (b + 105) (b + 106) f (fy x2 x3 x4 x5 x6) 5) := ad 4
  have qq := fun k => addN_q (r := b + 106) (y := fy x2 x3 x4 x5 x6) hI k
  have hc : n = 1 ∨ n = 2 ∨ n = 3 ∨ n = 4 ∨ n = 5 := by omega
  unfold fn_X9_feed
  rw [c1, Option.bind_some, if_neg (by decide), y2, Option.bind_some, if_neg (by decide), y3, Option.bind_some, if_neg (by decide), y4, Option.bind_some, if_neg (by decide), y5, Option.bind_some, if_neg (by decide), y6, Option.bind_some, if_neg (by decide), Option.bind_some, if_neg (by decide), gd_pos kb, pb3, Option.bind_some, gd_pos k9, hI, if_pos hle, a0 (by omega), Option.bind_some]
  rcases hc with h | h | h | h | h <;> subst h
  · simp only [show nI 1 ≤ 1 by decide, show nI 1 ≤ 2 by decide, show nI 1 ≤ 3 by decide, show nI 1 ≤ 4 by decide, if_true, Option.bind_some, qq]
  · simp only [show ¬ nI 2 ≤ 1 by decide, show nI 2 ≤ 2 by decide, show nI 2 ≤ 3 by decide, show nI 2 ≤ 4 by decide, if_true, if_false, Option.bind_some, a1 (by decide), qq]
  · simp only [show ¬ nI 3 ≤ 1 by decide, show ¬ nI 3 ≤ 2 by decide, show nI 3 ≤ 3 by decide, show nI 3 ≤ 4 by decide, if_true, if_false, Option.bind_some, a1 (by decide), a2 (by decide), qq]
  · simp only [show ¬ nI 4 ≤ 1 by decide, show ¬ nI 4 ≤ 2 by decide, show ¬ nI 4 ≤ 3 by decide, show nI 4 ≤ 4 by decide, if_true, if_false, Option.bind_some, a1 (by decide), a2 (by decide), a3 (by decide), qq]
  · simp only [show ¬ nI 5 ≤ 1 by decide, show ¬ nI 5 ≤ 2 by decide, show ¬ nI 5 ≤ 3 by decide, show ¬ nI 5 ≤ 4 by decide, if_false, Option.bind_some, a1 (by decide), a2 (by decide), a3 (by decide), a4 (by decide), qq]
