/-! mask -/
def hv (mode o n : Int32) : Int32 := if mode = 0 then n else if mode = 1 then o ||| n else if mode = 2 then o &&& (n ^^^ (-1)) else o &&& n
theorem e_held {o n : Int32} (mode : Int32) (ho : o = 0 ∨ o = 1) (hn : n = 0 ∨ n = 1) : fn_X5_isHeldAfter o n mode = some (hv mode o n) ∧ (hv mode o n = 0 ∨ hv mode o n = 1) := by
  unfold fn_X5_isHeldAfter hv
  by_cases h0 : mode = 0
  · rw [if_pos h0, if_pos h0, gd_pos hn]; exact ⟨rfl, hn⟩
  rw [if_neg h0, if_neg h0]
  by_cases h1 : mode = 1
  · rw [if_pos h1, if_pos h1]
    rcases ho with rfl | rfl <;> rcases hn with rfl | rfl <;> exact ⟨rfl, by decide⟩
  rw [if_neg h1, if_neg h1]
  by_cases h2 : mode = 2
  · rw [if_pos h2, if_pos h2]
    rcases ho with rfl | rfl <;> rcases hn with rfl | rfl <;> exact ⟨rfl, by decide⟩
  rw [if_neg h2, if_neg h2]
  rcases ho with rfl | rfl <;> rcases hn with rfl | rfl <;> exact ⟨rfl, by decide⟩
theorem e_masks {K N : Nat → Nat} {I : Nat → Nat → Int32} {P : Nat → Nat → Option Nat} {m : Nat} (mode : Int32) (hM : ModSh K N P m) (ch : Nat → Int32) (hch : ∀ d, d < 192 → I (m + 5) d = ch d ∧ (ch d = 0 ∨ ch d = 1)) (hm : ∀ d, d < 192 → I (m + 1) (1556 + d) = 0 ∨ I (m + 1) (1556 + d) = 1) : ∃ I', fn_X10_masks K N I P m mode = some (nI (cnt1 (fun d => hv mode (I (m + 1) (1556 + d)) (ch d)) 192), I') ∧ (∀ a, a ≠ m + 1 → I' a = I a) ∧ (∀ j, j < 1556 ∨ 1748 ≤ j → I' (m + 1) j = I (m + 1) j) ∧ ∀ d, d < 192 → I' (m + 1) (1556 + d) = hv mode (I (m + 1) (1556 + d)) (ch d) := by
  have k5 : K (m + 5) = 12 := hM.1.2.2.2.2.2.1
  have n5 : N (m + 5) = 192 := hM.2.1.2.2.2.2.1
  have p5 : P m 16 = some (m + 5) := hM.2.2.2.2.2.2.1
  have key := loop_ok (F := fun f v s => fn_X10_masks_L2 K N m mode P f (nI v) s) 192 (fun v s => (∀ a, a ≠ m + 1 → s a = I a) ∧ (∀ j, j < 1556 ∨ 1556 + v ≤ j → s (m + 1) j = I (m + 1) j) ∧ ∀ d, d < v → s (m + 1) (1556 + d) = hv mode (I (m + 1) (1556 + d)) (ch d)) (fun s => (∀ a, a ≠ m + 1 → s a = I a) ∧ (∀ j, j < 1556 ∨ 1748 ≤ j → s (m + 1) j = I (m + 1) j) ∧ ∀ d, d < 192 → s (m + 1) (1556 + d) = hv mode (I (m + 1) (1556 + d)) (ch d))
    (fun f s hs => by
      simp only [fn_X10_masks_L2]
      rw [if_pos (show (192 : Int32) ≤ nI 192 from nI_le (a := 192) (Nat.le_refl _) (by omega))]
      exact ok_some.mpr hs)
    (fun f v s hvl hs kk => by
      simp only [fn_X10_masks_L2]
      obtain ⟨s1, s2, s3⟩ := hs
      have g5 : K (m + 5) = 12 ∧ vp_in (nI v) (N (m + 5)) := ⟨k5, by rw [n5]; exact vp_192 hvl⟩
      have fin : ∀ c : Int32, c = hv mode (I (m + 1) (1556 + v)) (ch v) → ok (fn_X10_masks_L2 K N m mode P f (nI (v + 1)) (up2 s (m + 1) (1556 + v) c)) (fun s => (∀ a, a ≠ m + 1 → s a = I a) ∧ (∀ j, j < 1556 ∨ 1748 ≤ j → s (m + 1) j = I (m + 1) j) ∧ ∀ d, d < 192 → s (m + 1) (1556 + d) = hv mode (I (m + 1) (1556 + d)) (ch d)) := by
        intro c hc
        refine kk _ ⟨fun a ha => by rw [up2_o ha]; exact s1 a ha, fun j hj => by rw [up2_k (by omega)]; exact s2 j (by omega), fun d hd => ?_⟩
        by_cases h : d = v
        · subst h; rw [up2_s]; exact hc
        · rw [up2_k (by omega)]; exact s3 d (by omega)
      rw [if_neg (show ¬ (192 : Int32) ≤ nI v from nI_ge (b := 192) hvl (by omega)), gd_pos hM.1.1, hM.2.2.1, Option.bind_some, show (1556 : Int32) + nI v = nI (1556 + v) from nI_add 1556 v, gd_pos (vp_g hM (by omega))]
      simp only [p5, Option.bind_some, gd_pos g5]
      rw [nI_clamp (by omega), nI_clamp (by omega), s2 _ (by omega), s1 (m + 5) (by omega), (hch v hvl).1, nI_1]
      unfold hv at fin
      by_cases h0 : mode = 0
      · rw [if_pos h0]; exact fin _ (by rw [if_pos h0])
      rw [if_neg h0]
      by_cases h1 : mode = 1
      · rw [if_pos h1]; exact fin _ (by rw [if_neg h0, if_pos h1])
      rw [if_neg h1]
      by_cases h2 : mode = 2
      · rw [if_pos h2]; exact fin _ (by rw [if_neg h0, if_neg h1, if_pos h2])
      rw [if_neg h2]
      exact fin _ (by rw [if_neg h0, if_neg h1, if_neg h2]))
    FU 0 I (Nat.zero_le _) (FU_lt (by omega)) ⟨fun _ _ => rfl, fun _ _ => rfl, fun d hd => absurd hd (by omega)⟩
  obtain ⟨r, h1, h2, h3, h4⟩ := key
  have h1 : fn_X10_masks_L2 K N m mode P FU 0 I = some r := h1
  refine ⟨r, ?_, h2, h3, h4⟩
  unfold fn_X10_masks
  rw [h1, Option.bind_some, e_masked hM (fun d hd => by rw [h4 d hd]; exact (e_held mode (hm d hd) (hch d hd).2).2), Option.bind_some, gd_pos hM.1.1, cnt1_cong 192 (fun d hd => h4 d hd)]
/-- what stays is what the relation speaks of -/
theorem Rel.mask {K N : Nat → Nat} {b : Nat} {I I' : Nat → Nat → Int32} {P : Nat → Nat → Option Nat} (hR : Rel K N b I P) (nw : Nat → Int32) (hnw : ∀ d, d < 192 → nw d = 0 ∨ nw d = 1) (h3 : ∀ d, d < 192 → I' (b + 1 + 3) d = nw d) (h2 : I' (b + 1 + 2) 1 = nI (cnt1 nw 192)) (hg : ∀ j, j < 1556 ∨ 1748 ≤ j → I' (b + 126 + 1) j = I (b + 126 + 1) j) (hgm : ∀ d, d < 192 → I' (b + 126 + 1) (1556 + d) = nw d) (ho : ∀ a, a ≠ b + 1 + 2 → a ≠ b + 1 + 3 → ¬ (b + 118 ≤ a ∧ a < b + 126) → a ≠ b + 126 + 1 → ¬ (b + 130 ≤ a ∧ a < b + 135) → I' a = I a) : Rel K N b I' P := by
  have hR0 := hR
  obtain ⟨-, ⟨cnt, kp, al, σ, τ, hpic⟩, -⟩ := hR
  have hpic : PicR I P (b + 1) (I (b + 126 + 1)) cnt kp al σ τ := hpic
  have hpic0 := hpic
  obtain ⟨⟨hcnt, hkp, hal⟩, ⟨hσ, hτ, hlay, hact⟩, ⟨hc1, hg0⟩, ⟨hpap, hpap2⟩, hbr, hlays, hmask, ⟨ha1, ha2, ha3, ha4⟩, hacts⟩ := hpic
  have oo : ∀ a, a < b + 118 → a ≠ b + 1 + 2 → a ≠ b + 1 + 3 → I' a = I a := fun a h h2 h3 => ho a h2 h3 (by omega) (by omega) (by omega)
  have ox : ∀ a, b + 126 ≤ a → a ≠ b + 126 + 1 → ¬ (b + 130 ≤ a ∧ a < b + 135) → I' a = I a := fun a h h2 h3 => ho a (by omega) (by omega) (by omega) h2 h3
  refine hR0.pic ⟨oo b (by omega) (by omega) (by omega), fun a _ _ => oo a (by omega) (by omega) (by omega), ⟨by rw [ox (b + 126) (by omega) (by omega) (by omega)], by rw [ox (b + 126) (by omega) (by omega) (by omega)]⟩, ox _ (by omega) (by omega) (by omega), ox _ (by omega) (by omega) (by omega), ox _ (by omega) (by omega) (by omega), ox _ (by omega) (by omega) (by omega), ox _ (by omega) (by omega) (by omega)⟩ (fun _ _ _ => rfl) ⟨cnt, kp, al, σ, τ, ?_⟩
  refine hpic0.mod (I' := I') (g' := I' (b + 126 + 1)) ⟨rfl, rfl⟩ ⟨by rw [oo _ (by omega) (by omega) (by omega)], hg 0 (by omega)⟩ ⟨by rw [oo _ (by omega) (by omega) (by omega), hg 1 (by omega)]; exact hpap, by rw [hg 1 (by omega)]; exact hpap2⟩ (hbr.keep (oo _ (by omega) (by omega) (by omega)) (fun j _ _ => hg j (by omega))) (hpic0.lays (fun a _ _ => oo a (by omega) (by omega) (by omega)) (fun j _ _ => hg j (by omega))) ⟨fun d hd => ⟨by rw [h3 d hd, hgm d hd], by rw [hgm d hd]; exact hnw d hd⟩, by rw [h2, cnt1_cong 192 (fun d hd => (hgm d hd).symm)]⟩ ⟨oo _ (by omega) (by omega) (by omega), hg 6 (by omega), hg 7 (by omega)⟩ (hpic0.acts (fun a _ _ => oo a (by omega) (by omega) (by omega)) (fun j _ _ => hg j (by omega)))
theorem chSh_of {K N : Nat → Nat} {P : Nat → Nat → Option Nat} {b : Nat} (h : RootSh K N P b) : ChSh K N P (b + 118) := h.2.2.2.1
/-- both join: the class's join, then the model's with its set -/
theorem e_joinBoth {K N : Nat → Nat} {b : Nat} {I A : Nat → Nat → Int32} {P : Nat → Nat → Option Nat} (mode : Int32) (ch : Nat → Int32) (hR : Rel K N b I P) (hch : ∀ d, d < 192 → A (b + 119) d = ch d ∧ (ch d = 0 ∨ ch d = 1)) (oA : ∀ a, ¬ (b + 118 ≤ a ∧ a < b + 126) → A a = I a) : ∃ r I1, fn_X5_join K N A P (b + 1 + 2) (b + 119) mode = some I1 ∧ I1 (b + 1 + 2) 1 = r ∧ (∀ a, a < b + 1 ∨ b + 126 ≤ a → I1 a = I a) ∧ (∀ a, b + 1 ≤ a → a < b + 126 → a ≠ b + 1 + 2 → a ≠ b + 1 + 3 → I1 a = A a) ∧ ∀ B : Nat → Nat → Int32, (∀ d, d < 192 → B (b + 126 + 5) d = ch d) → (∀ a, ¬ (b + 130 ≤ a ∧ a < b + 135) → B a = I1 a) → ∃ I2, fn_X10_masks K N B P (b + 126) mode = some (r, I2) ∧ Rel K N b I2 P := by
  have hR0 := hR
  obtain ⟨⟨hroot, hp1, hp53, hmod⟩, ⟨cnt, kp, al, σ, τ, hpic⟩, himg, ⟨fed, htape⟩, hsheets⟩ := hR
  have hpic : PicR I P (b + 1) (I (b + 126 + 1)) cnt kp al σ τ := hpic
  obtain ⟨⟨hcnt, hkp, hal⟩, ⟨hσ, hτ, hlay, hact⟩, ⟨hc1, hg0⟩, ⟨hpap, hpap2⟩, hbr, hlays, hmask, ⟨ha1, ha2, ha3, ha4⟩, hacts⟩ := hpic
  obtain ⟨⟨k7, k15, n4, k6, k13, n192, k3, k2, k14, n11⟩, ⟨pp0, pp3, pp4, pp5, pm0, pa0⟩, hacsh, hlash⟩ := id hp1
  obtain ⟨kc0, kc1, nc1, -⟩ := chSh_of hroot
  obtain ⟨nw, hnw⟩ : ∃ nw : Nat → Int32, nw = fun d => hv mode (I (b + 126 + 1) (1556 + d)) (ch d) := ⟨_, rfl⟩
  have hh : ∀ d, d < 192 → fn_X5_isHeldAfter (A (b + 1 + 3) d) (A (b + 119) d) mode = some (nw d) ∧ (nw d = 0 ∨ nw d = 1) := fun d hd => by
    obtain ⟨m1, m2⟩ := hmask.1 d hd
    rw [oA (b + 1 + 3) (by omega), m1, (hch d hd).1, hnw]
    exact e_held mode m2 (hch d hd).2
  obtain ⟨I1, j1, j2, j3, j4⟩ := e_join (I := A) (q := b + 1 + 2) (r := b + 1 + 3) (a1 := b + 119) k6 pm0 k13 n192 (by omega) kc1 nc1 (by omega) hh
  refine ⟨nI (cnt1 nw 192), I1, j1, by rw [j4, if_pos rfl], fun a h => by rw [j2 a (by omega) (by omega), oA a (by omega)], fun a h1 h2 h3 h4 => j2 a h3 h4, ?_⟩
  intro B hB oB
  have oBI : ∀ a, a < b + 1 ∨ b + 126 ≤ a → ¬ (b + 130 ≤ a ∧ a < b + 135) → B a = I a := fun a h h' => by rw [oB a h', j2 a (by omega) (by omega), oA a (by omega)]
  obtain ⟨I2, v1, v2, v3, v4⟩ := e_masks (I := B) mode hmod ch (fun d hd => ⟨hB d hd, (hch d hd).2⟩) (fun d hd => by rw [oBI (b + 126 + 1) (by omega) (by omega)]; exact (hmask.1 d hd).2)
  rw [oBI (b + 126 + 1) (by omega) (by omega)] at v1 v3 v4
  rw [← hnw] at v1
  refine ⟨I2, v1, ?_⟩
  refine hR0.mask nw (fun d hd => (hh d hd).2) (fun d hd => by rw [v2 _ (by omega), oB _ (by omega)]; exact j3 d hd) (by rw [v2 _ (by omega), oB _ (by omega), j4, if_pos rfl]) v3 (fun d hd => by rw [v4 d hd, hnw]) (fun a h1 h2 h3 h4 h5 => by rw [v2 a h4, oB a h5, j2 a h1 h2, oA a h3])
theorem boxF_01 (x y X Y d : Nat) : boxF x y X Y d = 0 ∨ boxF x y X Y d = 1 := by
  unfold boxF; split
  · exact Or.inr rfl
  · exact Or.inl rfl
theorem e_boxNot {K N : Nat → Nat} {I : Nat → Nat → Int32} {P : Nat → Nat → Option Nat} {m : Nat} {x1 x2 x3 x4 : Int32} (h : ¬ ((inR x1 16 ∧ inR x2 12) ∧ (inR x3 16 ∧ inR x4 12))) : fn_X10_isBoxed K N I P m x1 x2 x3 x4 = some (0, I) := by
  unfold fn_X10_isBoxed
  rw [e_isDot']
  by_cases c : inR x1 16 ∧ inR x2 12
  · rw [bI_t c, Option.bind_some, if_neg (by decide), e_isDot', bI_f (fun e => h ⟨c, e⟩), Option.bind_some, if_pos rfl]
  · rw [bI_f c, Option.bind_some, if_pos rfl]
set_option maxHeartbeats 4000000 in
theorem q_mask {K N : Nat → Nat} {b : Nat} : sp_mask (Rel K N b) b K N := by
  intro I P x1 x2 x3 x4 x5 hR
  have hR0 := hR
  obtain ⟨⟨hroot, hp1, hp53, hmod⟩, ⟨cnt, kp, al, σ, τ, hpic⟩, himg, ⟨fed, htape⟩, hsheets⟩ := hR
  have hpic : PicR I P (b + 1) (I (b + 126 + 1)) cnt kp al σ τ := hpic
  have hpic0 := hpic
  obtain ⟨⟨hcnt, hkp, hal⟩, ⟨hσ, hτ, hlay, hact⟩, ⟨hc1, hg0⟩, ⟨hpap, hpap2⟩, hbr, hlays, hmask, ⟨ha1, ha2, ha3, ha4⟩, hacts⟩ := hpic
  obtain ⟨⟨kb, pb0, pb1, pb3, pb4, pb5, pb6, pb7⟩, hrt, hrs, hrc, hrth, hrl⟩ := id hroot
  obtain ⟨⟨k7, k15, n4, k6, k13, n192, k3, k2, k14, n11⟩, ⟨pp0, pp3, pp4, pp5, pm0, pa0⟩, hacsh, hlash⟩ := id hp1
  have km := hmod.1.1
  have pm := hmod.2.2.1
  have c1 := e_isDot x1 x2
  have c2 := e_isDot x3 x4
  have c3 : fn_X9_isWithin x5 0 3 = some (bI (inR x5 4)) := isWithin_nI (n := 4) (by decide) (by decide)
  have d3 : fn_X10_isIn x5 0 3 = some (bI (inR x5 4)) := isIn_nI (n := 4) (by decide) (by decide)
  by_cases h3 : inR x5 4
  · rw [bI_t h3] at c3 d3
    by_cases h12 : (inR x1 16 ∧ inR x2 12) ∧ (inR x3 16 ∧ inR x4 12)
    · obtain ⟨h1, h2⟩ := h12
      rw [bI_t h1] at c1
      rw [bI_t h2] at c2
      obtain ⟨⟨x, hx, rfl⟩, ⟨y, hy, rfl⟩⟩ := h1
      obtain ⟨⟨z, hz, rfl⟩, ⟨w, hw, rfl⟩⟩ := h2
      have hC := chSh_of hroot
      obtain ⟨A, a1, a2, a3⟩ := e_chooseBox (I := I) hC hx hy hz hw
      obtain ⟨r, I1, j1, j2, j3, j4, j5⟩ := e_joinBoth (A := A) x5 (fun d => boxF (min x z) (min y w) (max x z) (max y w) d) hR0 (fun d hd => ⟨a3 d hd, boxF_01 _ _ _ _ _⟩) (fun a h => a2 a (by omega))
      obtain ⟨B, b1, b2, b3⟩ := e_isBoxed (I := I1) hmod hx hy hz hw
      obtain ⟨I2, v1, v2⟩ := j5 B b3 (fun a h => b2 a (by omega))
      have hpc : P (b + 118) 0 = some (b + 119) := hC.2.2.2.2.2.2.2.1
      refine ⟨(r, I1), ?_, (r, I2), ?_, rfl, v2⟩
      · simp [fn_X9_mask, c1, c2, c3, gd_pos kb, pb5, a1, gd_pos hC.1, pb0, gd_pos k7, pp3, hpc, j1, gd_pos k6, j2]
      · simp [fn_X10_mask, d3, b1, gd_pos km, v1]
    · refine ⟨(-2, I), ?_, (-2, I), by simp [fn_X10_mask, d3, e_boxNot h12, gd_pos km], rfl, hR0⟩
      by_cases h1 : inR x1 16 ∧ inR x2 12
      · rw [bI_t h1] at c1
        rw [bI_f (fun e => h12 ⟨h1, e⟩)] at c2
        simp [fn_X9_mask, c1, c2]
      · rw [bI_f h1] at c1
        simp [fn_X9_mask, c1]
  · rw [bI_f h3] at c3 d3
    refine ⟨(-2, I), ?_, (-2, I), by simp [fn_X10_mask, d3], rfl, hR0⟩
    by_cases h1 : inR x1 16 ∧ inR x2 12
    · rw [bI_t h1] at c1
      by_cases h2 : inR x3 16 ∧ inR x4 12
      · rw [bI_t h2] at c2
        simp [fn_X9_mask, c1, c2, c3]
      · rw [bI_f h2] at c2
        simp [fn_X9_mask, c1, c2]
    · rw [bI_f h1] at c1
      simp [fn_X9_mask, c1]
