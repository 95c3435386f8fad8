/-! dither, the method -/
def patN (key : Nat → Int32) (y : Nat) : Nat → Int32
  | 0 => 0
  | x + 1 => if key (16 * y + x) ≤ (16 : Int32) * mm_zt (4 * (y % 4) + x % 4) + 7 then patN key y x else patN key y x ||| ((1 : Int32) <<< (nI x &&& 31))
theorem m4 {v : Nat} (h : v < 2 ^ 30) : nI v - nI v / (4 : Int32) * (4 : Int32) = nI (v % 4) := by
  have e := t_div (x := nI v) (y := 4) 4 rfl (by decide)
  rw [nI_toInt (by omega), (t_td 4 (by decide)).1 (by omega)] at e
  have d4 : nI v / (4 : Int32) = nI (v / 4) := by
    rw [← Int32.toInt_inj, e, nI_toInt (by omega)]; omega
  rw [d4, show (4 : Int32) = nI 4 from rfl, pk_mul, pk_sub (by omega)]
  congr 1; omega
set_option maxHeartbeats 4000000 in
theorem q_dither {K N : Nat → Nat} {b : Nat} : sp_dither (Rel K N b) b K N := by
  intro I P x1 x2 hR
  have hR0 := hR
  obtain ⟨⟨hroot, hp1, hp53, hmod⟩, ⟨cnt, kp, al, σ, τ, hpic⟩, himg, ⟨fed, htape⟩, hsheets⟩ := hR
  have hpic : PicR I P (b + 1) (I (b + 126 + 1)) cnt kp al σ τ := hpic
  have hpic0 := hpic
  obtain ⟨⟨hcnt, hkp, hal⟩, ⟨hσ, hτ, hlay, hact⟩, ⟨hc1, hg0⟩, ⟨hpap, hpap2⟩, hbr, hlays, hmask, ⟨ha1, ha2, ha3, ha4⟩, hacts⟩ := hpic
  obtain ⟨⟨kb, pb0, pb1, pb3, pb4, pb5, pb6, pb7⟩, hrt, hrs, hrc, hrth, hrl⟩ := id hroot
  obtain ⟨⟨k7, k15, n4, k6, k13, n192, k3, k2, k14, n11⟩, ⟨pp0, pp3, pp4, pp5, pm0, pa0⟩, hacsh, hlash⟩ := id hp1
  have km := hmod.1.1
  have pm := hmod.2.2.1
  have c1 : fn_X9_isWithin x1 0 1 = some (bI (inR x1 2)) := isWithin_nI (n := 2) (by decide) (by decide)
  have d1 : fn_X10_isIn x1 0 1 = some (bI (inR x1 2)) := isIn_nI (n := 2) (by decide) (by decide)
  have c2 := e_isRow x2
  have d2 : fn_X10_isIn x2 0 11 = _ := isIn_nI (x := x2) (n := 12) (by decide) (by decide)
  by_cases hx : inR x1 2
  · rw [bI_t hx] at c1 d1
    by_cases h2 : inR x2 12
    · rw [bI_t h2] at c2 d2
      obtain ⟨y, hy, rfl⟩ := h2
      have hA : AllSh K N P b := hR0.1
      obtain ⟨key, hkey⟩ : ∃ key : Nat → Int32, key = fun d => seenV I b σ cnt d := ⟨_, rfl⟩
      have hsee : ∀ z : Nat → Nat → Int32, (∀ a, ¬ (b + 118 ≤ a ∧ a < b + 126) → ¬ (b + 130 ≤ a ∧ a < b + 135) → z a = I a) → ∀ d, d < 192 → fn_X9_seenAt K N z P b (nI d) = some (key d) ∧ fn_X10_seen_ K N z P (b + 126) (nI d) = some (key d) ∧ inR (key d) 256 := by
        intro z hz d hd
        have hzp : PicR z P (b + 1) (z (b + 127)) cnt kp al σ τ := by
          rw [hz (b + 127) (by omega) (by omega)]
          exact hpic0.keep (fun a _ _ => hz a (by omega) (by omega)) (fun _ _ _ => rfl)
        have hsv : seenV z b σ cnt d = seenV I b σ cnt d := seenV_keep hσ hcnt (fun a _ _ => hz a (by omega) (by omega))
        have := e_seenPic hA hzp hd
        rw [hsv] at this
        rw [hkey]; exact this
      rcases inR2 hx with rfl | rfl
      · -- what is left goes on
        obtain ⟨kr, nr⟩ : K (b + 125) = 12 ∧ N (b + 125) = 192 := hrl
        obtain ⟨A, f1, f2, f3⟩ := e_fill (I := I) (P := P) kr nr (by omega) 0
        obtain ⟨I1, w1, w2⟩ := e_difC (A := A) (key := key) kb pb7 kr nr hy (fun z hz d hd => (hsee z (fun a h1 h2 => by rw [hz a (by omega), f2 a (by omega)]) d hd).1) (fun d hd => by rw [f3, if_pos hd])
        have o1 : ∀ a, a ≠ b + 125 → I1 a = I a := fun a h => by rw [w2 a h, f2 a h]
        have k7' : K (b + 126 + 7) = 12 := hmod.1.2.2.2.2.2.2.2.1
        have n7' : N (b + 126 + 7) = 192 := hmod.2.1.2.2.2.2.2.2.1
        have p7' : P (b + 126) 18 = some (b + 126 + 7) := hmod.2.2.2.2.2.2.2.2.1
        have l2 := loop_ok (F := fun f v s => fn_X10_diffused_L2 K N (b + 126) P f (nI v) s) 192 (fun v s => (∀ a, a ≠ b + 126 + 7 → s a = I1 a) ∧ ∀ d, d < v → s (b + 126 + 7) d = 0) (fun s => (∀ a, a ≠ b + 126 + 7 → s a = I1 a) ∧ ∀ d, d < 192 → s (b + 126 + 7) d = 0)
          (fun f s hs => by
            simp only [fn_X10_diffused_L2]
            rw [if_pos (show (192 : Int32) ≤ nI 192 from nI_le (a := 192) (Nat.le_refl _) (by omega))]
            exact ok_some.mpr hs)
          (fun f v s hv hs kk => by
            simp only [fn_X10_diffused_L2]
            rw [if_neg (show ¬ (192 : Int32) ≤ nI v from nI_ge (b := 192) hv (by omega)), gd_pos km, p7', Option.bind_some, gd_pos ⟨k7', by rw [n7']; exact vp_192 hv⟩, Option.bind_some, nI_clamp (by omega), nI_1]
            refine kk _ ⟨fun a ha => by rw [up2_o ha]; exact hs.1 a ha, fun d hd => ?_⟩
            by_cases h : d = v
            · subst h; rw [up2_s]
            · rw [up2_k h]; exact hs.2 d (by omega))
          FU 0 I1 (Nat.zero_le _) (FU_lt (by omega)) ⟨fun _ _ => rfl, fun d hd => absurd hd (by omega)⟩
        obtain ⟨C, v1, v2, v3⟩ := l2
        have v1 : fn_X10_diffused_L2 K N (b + 126) P FU 0 I1 = some C := v1
        obtain ⟨I2, t1, t2⟩ := e_difM (A := C) (key := key) hmod hy (fun z hz d hd => (hsee z (fun a h1 h2 => by rw [hz a (by omega), v2 a (by omega), o1 a (by omega)]) d hd).2.1) v3
        refine ⟨((difY key (y + 1)).1, I1), ?_, ((difY key (y + 1)).1, I2), ?_, rfl, hR0.scratch (fun a h1 h2 => by show I2 a = I a; rw [t2 a (by omega), v2 a (by omega), o1 a (by omega)])⟩
        · simp [fn_X9_dither, c1, c2, fn_X9_spreadDither, gd_pos kb, pb7, f1, w1]
        · simp [fn_X10_dither, d1, d2, fn_X10_diffused, v1, t1, gd_pos km]
      · -- a pattern
        have idx : ∀ x, x < 16 → ((nI y - nI y / (4 : Int32) * (4 : Int32)) * (4 : Int32) + (nI x - nI x / (4 : Int32) * (4 : Int32)) = nI (4 * (y % 4) + x % 4)) ∧ ((4 : Int32) * (nI y - nI y / (4 : Int32) * (4 : Int32)) + (nI x - nI x / (4 : Int32) * (4 : Int32)) = nI (4 * (y % 4) + x % 4)) := fun x hx => by
          rw [m4 (by omega), m4 (by omega), show (4 : Int32) = nI 4 from rfl, pk_mul, pk_mul, nI_add, nI_add]
          exact ⟨by congr 1; omega, rfl⟩
        have n10 : ¬ (1 : Int32) = 0 := by decide
        have o0 : ∀ z : Int32, z ||| (0 : Int32) = z := fun z => Int32.or_zero
        have l1 := loop_ok (F := fun f x z => fn_X9_patternDither_L4 K N b (nI y) I P f z (nI x)) 16 (fun x z => z = patN key y x) (fun z => z = patN key y 16)
          (fun f z hz => by
            simp only [fn_X9_patternDither_L4]
            rw [if_pos (show (16 : Int32) ≤ nI 16 from nI_le (a := 16) (Nat.le_refl _) (by omega))]
            exact ok_some.mpr hz)
          (fun f x z hx hz kk => by
            simp only [fn_X9_patternDither_L4]
            have hp : patN key y (x + 1) = if key (16 * y + x) ≤ (16 : Int32) * mm_zt (4 * (y % 4) + x % 4) + 7 then patN key y x else patN key y x ||| ((1 : Int32) <<< (nI x &&& 31)) := rfl
            rw [if_neg (show ¬ (16 : Int32) ≤ nI x from nI_ge (b := 16) hx (by omega)), (idx x hx).1, gd_pos (vp_in_nI (by omega) (by omega)), Option.bind_some, e_dotAt, Option.bind_some, (hsee I (fun _ _ _ => rfl) _ (dot_lt hx hy)).1, Option.bind_some, gd_pos kb, nI_clamp (by omega), nI_1 x]
            by_cases c : key (16 * y + x) ≤ (16 : Int32) * mm_zt (4 * (y % 4) + x % 4) + 7
            · rw [if_pos c]; exact kk _ (by rw [hp, if_pos c]; exact hz)
            · rw [if_neg c, Option.bind_some]; exact kk _ (by rw [hp, if_neg c, hz]))
          FU 0 0 (Nat.zero_le _) (FU_lt (by omega)) rfl
        have l2 := loop_ok (F := fun f x z => fn_X10_dither_L37 K N (b + 126) (nI y) I P f z (nI x)) 16 (fun x z => z = patN key y x) (fun z => z = patN key y 16)
          (fun f z hz => by
            simp only [fn_X10_dither_L37]
            rw [if_pos (show (16 : Int32) ≤ nI 16 from nI_le (a := 16) (Nat.le_refl _) (by omega))]
            exact ok_some.mpr hz)
          (fun f x z hx hz kk => by
            simp only [fn_X10_dither_L37]
            have hp : patN key y (x + 1) = if key (16 * y + x) ≤ (16 : Int32) * mm_zt (4 * (y % 4) + x % 4) + 7 then patN key y x else patN key y x ||| ((1 : Int32) <<< (nI x &&& 31)) := rfl
            rw [if_neg (show ¬ (16 : Int32) ≤ nI x from nI_ge (b := 16) hx (by omega)), e_dotOf, Option.bind_some, (hsee I (fun _ _ _ => rfl) _ (dot_lt hx hy)).2.1, Option.bind_some, gd_pos km, (idx x hx).2, gd_pos (vp_in_nI (by omega) (by omega)), Option.bind_some, Option.bind_some, nI_clamp (by omega), nI_1 x, o0]
            by_cases c : key (16 * y + x) ≤ (16 : Int32) * mm_zt (4 * (y % 4) + x % 4) + 7
            · rw [if_pos c]; exact kk _ (by rw [hp, if_pos c]; exact hz)
            · rw [if_neg c]; exact kk _ (by rw [hp, if_neg c, hz]))
          FU 0 0 (Nat.zero_le _) (FU_lt (by omega)) rfl
        obtain ⟨r, w1, w2⟩ := l1
        obtain ⟨r', v1, v2⟩ := l2
        have w1 : fn_X9_patternDither_L4 K N b (nI y) I P FU 0 0 = some r := w1
        have v1 : fn_X10_dither_L37 K N (b + 126) (nI y) I P FU 0 0 = some r := by rw [w2, ← v2]; exact v1
        exact ⟨(r, I), by simp [fn_X9_dither, c1, c2, fn_X9_patternDither, w1, gd_pos kb], (r, I), by simp [fn_X10_dither, d1, d2, v1], rfl, hR0⟩
    · rw [bI_f h2] at c2 d2
      exact ⟨(-2, I), by simp [fn_X9_dither, c1, c2], (-2, I), by simp [fn_X10_dither, d1, d2], rfl, hR0⟩
  · rw [bI_f hx] at c1 d1
    exact ⟨(-2, I), by simp [fn_X9_dither, c1], (-2, I), by simp [fn_X10_dither, d1], rfl, hR0⟩
