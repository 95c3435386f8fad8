/-! grow -/
theorem e_maskTo {K N : Nat → Nat} {b : Nat} {I I1 : Nat → Nat → Int32} {P : Nat → Nat → Option Nat} (nw : Nat → Int32) (hR : Rel K N b I P) (hnw : ∀ d, d < 192 → nw d = 0 ∨ nw d = 1) (h3 : ∀ d, d < 192 → I1 (b + 1 + 3) d = nw d) (h2 : I1 (b + 1 + 2) 1 = nI (cnt1 nw 192)) (oA : ∀ a, a ≠ b + 1 + 2 → a ≠ b + 1 + 3 → ¬ (b + 118 ≤ a ∧ a < b + 126) → I1 a = I a) (B : Nat → Nat → Int32) (hB : ∀ d, d < 192 → B (b + 126 + 5) d = nw d) (oB : ∀ a, ¬ (b + 130 ≤ a ∧ a < b + 135) → B a = I1 a) : ∃ I2, fn_X10_masks K N B P (b + 126) 0 = some (nI (cnt1 nw 192), I2) ∧ Rel K N b I2 P := by
  have hR0 := hR
  obtain ⟨⟨hroot, hp1, hp53, hmod⟩, ⟨cnt, kp, al, σ, τ, hpic⟩, himg, ⟨fed, htape⟩, hsheets⟩ := hR
  have hpic : PicR I P (b + 1) (I (b + 126 + 1)) cnt kp al σ τ := hpic
  obtain ⟨⟨hcnt, hkp, hal⟩, ⟨hσ, hτ, hlay, hact⟩, ⟨hc1, hg0⟩, ⟨hpap, hpap2⟩, hbr, hlays, hmask, ⟨ha1, ha2, ha3, ha4⟩, hacts⟩ := hpic
  have oBI : ∀ a, b + 126 ≤ a → ¬ (b + 130 ≤ a ∧ a < b + 135) → B a = I a := fun a h h' => by rw [oB a h', oA a (by omega) (by omega) (by omega)]
  obtain ⟨I2, v1, v2, v3, v4⟩ := e_masks (I := B) 0 hmod nw (fun d hd => ⟨hB d hd, hnw d hd⟩) (fun d hd => by rw [oBI (b + 126 + 1) (by omega) (by omega)]; exact (hmask.1 d hd).2)
  rw [oBI (b + 126 + 1) (by omega) (by omega)] at v1 v3 v4
  have hz : ∀ o n : Int32, hv 0 o n = n := fun o n => rfl
  refine ⟨I2, ?_, ?_⟩
  · rw [v1, cnt1_cong 192 (fun d hd => hz (I (b + 126 + 1) (1556 + d)) (nw d))]
  · exact hR0.mask nw hnw (fun d hd => by rw [v2 _ (by omega), oB _ (by omega)]; exact h3 d hd) (by rw [v2 _ (by omega), oB _ (by omega)]; exact h2) v3 (fun d hd => by rw [v4 d hd, hz]) (fun a h1 h2 h3 h4 h5 => by rw [v2 a h4, oB a h5, oA a h1 h2 h3])
theorem e_turn {K N : Nat → Nat} {I : Nat → Nat → Int32} {P : Nat → Nat → Option Nat} {q r : Nat} (hk : K q = 6) (hp : P q 0 = some r) (hr : K r = 13) (hn : N r = 192) (hqr : q ≠ r) (hm : ∀ d, d < 192 → I r d = 0 ∨ I r d = 1) : ∃ I', fn_X5_turn K N I P q = some I' ∧ (∀ a, a ≠ q → a ≠ r → I' a = I a) ∧ (∀ d, d < 192 → I' r d = 1 - I r d) ∧ I' q 1 = nI (cnt1 (fun d => 1 - I r d) 192) := by
  have key := loop_ok (F := fun f i s => fn_X5_turn_L2 K N q P f (nI i) s) 192 (fun i s => (∀ a, a ≠ r → s a = I a) ∧ (∀ d, d < i → s r d = 1 - I r d) ∧ ∀ d, i ≤ d → s r d = I r d) (fun s => (∀ a, a ≠ r → s a = I a) ∧ (∀ d, d < 192 → s r d = 1 - I r d))
    (fun f s hs => by
      simp only [fn_X5_turn_L2]
      rw [if_pos (show (192 : Int32) ≤ nI 192 from nI_le (a := 192) (Nat.le_refl _) (by omega))]
      exact ok_some.mpr ⟨hs.1, hs.2.1⟩)
    (fun f i s hi hs kk => by
      simp only [fn_X5_turn_L2]
      obtain ⟨s1, s2, s3⟩ := hs
      have gr : K r = 13 ∧ vp_in (nI i) (N r) := ⟨hr, by rw [hn]; exact vp_192 hi⟩
      have fin : ∀ c : Int32, c = 1 - I r i → ok (fn_X5_turn_L2 K N q P f (nI (i + 1)) (up2 s r i c)) (fun s => (∀ a, a ≠ r → s a = I a) ∧ (∀ d, d < 192 → s r d = 1 - I r d)) := by
        intro c hc
        refine kk _ ⟨fun a ha => by rw [up2_o ha]; exact s1 a ha, fun d hd => ?_, fun d hd => by rw [up2_k (by omega)]; exact s3 d (by omega)⟩
        by_cases hdi : d = i
        · subst hdi; rw [up2_s]; exact hc
        · rw [up2_k hdi]; exact s2 d (by omega)
      rw [if_neg (show ¬ (192 : Int32) ≤ nI i from nI_ge (b := 192) hi (by omega)), gd_pos hk, hp, Option.bind_some, gd_pos gr, nI_clamp (by omega), s3 i (Nat.le_refl _), nI_1]
      simp only [Option.bind_some, nar_0, nar_1]
      rcases hm i hi with e | e
      · rw [if_pos e]; exact fin 1 (by rw [e]; rfl)
      · rw [if_neg (by rw [e]; decide)]; exact fin 0 (by rw [e]; rfl))
    FU 0 I (Nat.zero_le _) (FU_lt (by omega)) ⟨fun _ _ => rfl, fun d hd => absurd hd (by omega), fun _ _ => rfl⟩
  obtain ⟨J, w1, w2, w3⟩ := key
  have w1 : fn_X5_turn_L2 K N q P FU 0 I = some J := w1
  obtain ⟨I', v1, v2, v3⟩ := e_recount (I := J) (P := P) hk hp hr hn hqr
  refine ⟨I', ?_, fun a h1 h2 => (v2 a h1).trans (w2 a h2), fun d hd => by rw [v2 r (by omega)]; exact w3 d hd, ?_⟩
  · unfold fn_X5_turn
    rw [w1, Option.bind_some, v1, Option.bind_some, gd_pos hk]
  · rw [v3, if_pos rfl, cnt1_cong 192 (fun d hd => w3 d hd)]
/-- what the model's three ways make -/
noncomputable def grV (x1 : Int32) (f : Nat → Int32) (d : Nat) : Int32 := if x1 = 2 then 1 - f d else if x1 = 0 then (if f d = 1 then 1 else bI (hasN f 1 d 4)) else (if f d = 1 then 1 - bI (hasN f 0 d 4) else 0)
theorem e_growL {K N : Nat → Nat} {I : Nat → Nat → Int32} {P : Nat → Nat → Option Nat} {m : Nat} (x1 : Int32) (hM : ModSh K N P m) : ∃ I', fn_X10_grow_L14 K N m x1 P FU 0 I = some I' ∧ (∀ a, a ≠ m + 5 → I' a = I a) ∧ ∀ d, d < 192 → I' (m + 5) d = grV x1 (fun e => I (m + 1) (1556 + e)) d := by
  have k5 : K (m + 5) = 12 := hM.1.2.2.2.2.2.1
  have n5 : N (m + 5) = 192 := hM.2.1.2.2.2.2.1
  have p5 : P m 16 = some (m + 5) := hM.2.2.2.2.2.2.1
  have key := loop_ok (F := fun f v s => fn_X10_grow_L14 K N m x1 P f (nI v) s) 192 (fun v s => (∀ a, a ≠ m + 5 → s a = I a) ∧ ∀ d, d < v → s (m + 5) d = grV x1 (fun e => I (m + 1) (1556 + e)) d) (fun s => (∀ a, a ≠ m + 5 → s a = I a) ∧ ∀ d, d < 192 → s (m + 5) d = grV x1 (fun e => I (m + 1) (1556 + e)) d)
    (fun f s hs => by
      simp only [fn_X10_grow_L14]
      rw [if_pos (show (192 : Int32) ≤ nI 192 from nI_le (a := 192) (Nat.le_refl _) (by omega))]
      exact ok_some.mpr hs)
    (fun f v s hvl hs kk => by
      simp only [fn_X10_grow_L14]
      obtain ⟨s1, s2⟩ := hs
      have g5 : K (m + 5) = 12 ∧ vp_in (nI v) (N (m + 5)) := ⟨k5, by rw [n5]; exact vp_192 hvl⟩
      have fin : ∀ c : Int32, c = grV x1 (fun e => I (m + 1) (1556 + e)) v → ok (fn_X10_grow_L14 K N m x1 P f (nI (v + 1)) (up2 s (m + 5) v c)) (fun s => (∀ a, a ≠ m + 5 → s a = I a) ∧ ∀ d, d < 192 → s (m + 5) d = grV x1 (fun e => I (m + 1) (1556 + e)) d) := by
        intro c hc
        refine kk _ ⟨fun a ha => by rw [up2_o ha]; exact s1 a ha, fun d hd => ?_⟩
        by_cases h : d = v
        · subst h; rw [up2_s]; exact hc
        · rw [up2_k (by omega)]; exact s2 d (by omega)
      have b1 := e_hasBeside (I := s) 1 hM hvl
      have b0 := e_hasBeside (I := s) 0 hM hvl
      rw [s1 (m + 1) (by omega)] at b0 b1
      rw [if_neg (show ¬ (192 : Int32) ≤ nI v from nI_ge (b := 192) hvl (by omega)), gd_pos hM.1.1, hM.2.2.1, Option.bind_some, show (1556 : Int32) + nI v = nI (1556 + v) from nI_add 1556 v, gd_pos (vp_g hM (by omega)), b0, b1, nI_1 v]
      simp only [p5, Option.bind_some, gd_pos g5]
      rw [nI_clamp (by omega), nI_clamp (by omega), s1 (m + 1) (by omega)]
      unfold grV at fin
      by_cases h2 : x1 = 2
      · rw [if_pos h2]; exact fin _ (by rw [if_pos h2])
      rw [if_neg h2]
      by_cases h0 : x1 = 0
      · rw [if_pos h0]
        by_cases o : I (m + 1) (1556 + v) = 1
        · rw [if_pos o]; exact fin _ (by rw [if_neg h2, if_pos h0, if_pos o])
        · rw [if_neg o]
          by_cases c : hasN (fun e => I (m + 1) (1556 + e)) 1 v 4
          · rw [bI_t c, if_neg (by decide)]; exact fin _ (by rw [if_neg h2, if_pos h0, if_neg o, bI_t c])
          · rw [bI_f c, if_pos rfl]; exact fin _ (by rw [if_neg h2, if_pos h0, if_neg o, bI_f c])
      · rw [if_neg h0]
        by_cases o : I (m + 1) (1556 + v) = 1
        · rw [if_pos o]
          by_cases c : hasN (fun e => I (m + 1) (1556 + e)) 0 v 4
          · rw [bI_t c, if_neg (by decide)]; exact fin _ (by rw [if_neg h2, if_neg h0, if_pos o, bI_t c]; rfl)
          · rw [bI_f c, if_pos rfl]; exact fin _ (by rw [if_neg h2, if_neg h0, if_pos o, bI_f c]; rfl)
        · rw [if_neg o]; exact fin _ (by rw [if_neg h2, if_neg h0, if_neg o]))
    FU 0 I (Nat.zero_le _) (FU_lt (by omega)) ⟨fun _ _ => rfl, fun d hd => absurd hd (by omega)⟩
  obtain ⟨r, h1, h2, h3⟩ := key
  exact ⟨r, h1, h2, h3⟩
theorem inR3 {x : Int32} (h : inR x 3) : x = 0 ∨ x = 1 ∨ x = 2 := by
  obtain ⟨j, hj, rfl⟩ := h
  have : j = 0 ∨ j = 1 ∨ j = 2 := by omega
  rcases this with rfl | rfl | rfl
  · exact Or.inl rfl
  · exact Or.inr (Or.inl rfl)
  · exact Or.inr (Or.inr rfl)
theorem hasN_cong {f g : Nat → Int32} {v : Int32} {d n : Nat} (hd : d < 192) (h : ∀ e, e < 192 → f e = g e) : hasN f v d n ↔ hasN g v d n := by
  constructor
  · rintro ⟨k, hk, e, h1, h2⟩; exact ⟨k, hk, e, h1, by rw [← h e (nbr_lt hd h1)]; exact h2⟩
  · rintro ⟨k, hk, e, h1, h2⟩; exact ⟨k, hk, e, h1, by rw [h e (nbr_lt hd h1)]; exact h2⟩
set_option maxHeartbeats 4000000 in
theorem q_grow {K N : Nat → Nat} {b : Nat} : sp_grow (Rel K N b) b K N := by
  intro I P x1 hR
  have hR0 := hR
  obtain ⟨⟨hroot, hp1, hp53, hmod⟩, ⟨cnt, kp, al, σ, τ, hpic⟩, himg, ⟨fed, htape⟩, hsheets⟩ := hR
  have hpic : PicR I P (b + 1) (I (b + 126 + 1)) cnt kp al σ τ := hpic
  have hpic0 := hpic
  obtain ⟨⟨hcnt, hkp, hal⟩, ⟨hσ, hτ, hlay, hact⟩, ⟨hc1, hg0⟩, ⟨hpap, hpap2⟩, hbr, hlays, hmask, ⟨ha1, ha2, ha3, ha4⟩, hacts⟩ := hpic
  obtain ⟨⟨kb, pb0, pb1, pb3, pb4, pb5, pb6, pb7⟩, hrt, hrs, hrc, hrth, hrl⟩ := id hroot
  obtain ⟨⟨k7, k15, n4, k6, k13, n192, k3, k2, k14, n11⟩, ⟨pp0, pp3, pp4, pp5, pm0, pa0⟩, hacsh, hlash⟩ := id hp1
  have km := hmod.1.1
  have pm := hmod.2.2.1
  have c1 : fn_X10_isIn x1 0 2 = some (bI (inR x1 3)) := isIn_nI (n := 3) (by decide) (by decide)
  have hC := chSh_of hroot
  have hpc : P (b + 118) 0 = some (b + 119) := hC.2.2.2.2.2.2.2.1
  have hm3 : ∀ d, d < 192 → I (b + 1 + 3) d = 0 ∨ I (b + 1 + 3) d = 1 := fun d hd => by rw [(hmask.1 d hd).1]; exact (hmask.1 d hd).2
  have heq : ∀ d, d < 192 → I (b + 1 + 3) d = I (b + 126 + 1) (1556 + d) := fun d hd => (hmask.1 d hd).1
  -- the ending, for any class side
  have fin : ∀ I1 : Nat → Nat → Int32, inR x1 3 → fn_X9_grow K N I P b x1 = some (I1 (b + 1 + 2) 1, I1) → (∀ d, d < 192 → I1 (b + 1 + 3) d = grV x1 (fun e => I (b + 1 + 3) e) d) → (∀ d, d < 192 → grV x1 (fun e => I (b + 1 + 3) e) d = 0 ∨ grV x1 (fun e => I (b + 1 + 3) e) d = 1) → I1 (b + 1 + 2) 1 = nI (cnt1 (grV x1 (fun e => I (b + 1 + 3) e)) 192) → (∀ a, a ≠ b + 1 + 2 → a ≠ b + 1 + 3 → ¬ (b + 118 ≤ a ∧ a < b + 126) → I1 a = I a) → ∃ u, fn_X9_grow K N I P b x1 = some u ∧ ∃ u2, fn_X10_grow K N u.2 P (b + 126) x1 = some u2 ∧ u.1 = u2.1 ∧ Rel K N b u2.2 P := by
    intro I1 hx w1 w2 w01 w3 w4
    rw [bI_t hx] at c1
    obtain ⟨B, b1, b2, b3⟩ := e_growL (I := I1) x1 hmod
    have og : I1 (b + 126 + 1) = I (b + 126 + 1) := w4 _ (by omega) (by omega) (by omega)
    rw [og] at b3
    have b3' : ∀ d, d < 192 → B (b + 126 + 5) d = grV x1 (fun e => I (b + 1 + 3) e) d := fun d hd => by
      rw [b3 d hd]
      unfold grV
      have h1 : bI (hasN (fun e => I (b + 126 + 1) (1556 + e)) 1 d 4) = bI (hasN (fun e => I (b + 1 + 3) e) 1 d 4) := congrArg bI (propext (hasN_cong hd (fun e he => (heq e he).symm)))
      have h0 : bI (hasN (fun e => I (b + 126 + 1) (1556 + e)) 0 d 4) = bI (hasN (fun e => I (b + 1 + 3) e) 0 d 4) := congrArg bI (propext (hasN_cong hd (fun e he => (heq e he).symm)))
      rw [h1, h0]
      simp only [heq d hd]
    obtain ⟨I2, v1, v2⟩ := e_maskTo (I1 := I1) (grV x1 (fun e => I (b + 1 + 3) e)) hR0 w01 w2 w3 w4 B b3' (fun a h => b2 a (by omega))
    refine ⟨_, w1, (nI (cnt1 (grV x1 (fun e => I (b + 1 + 3) e)) 192), I2), ?_, w3, v2⟩
    simp [fn_X10_grow, c1, b1, v1, gd_pos km]
  by_cases hx : inR x1 3
  · rcases inR3 hx with rfl | rfl | rfl
    · obtain ⟨A, a1, a2, a3⟩ := e_chooseBeside (I := I) (P := P) (a := b + 1 + 3) 1 hC k13 n192 (by omega)
      have a3 : ∀ d, d < 192 → A (b + 119) d = bI (hasN (fun e => I (b + 1 + 3) e) 1 d 4) := a3
      have hh : ∀ d, d < 192 → fn_X5_isHeldAfter (A (b + 1 + 3) d) (A (b + 119) d) 1 = some (grV 0 (fun e => I (b + 1 + 3) e) d) ∧ (grV 0 (fun e => I (b + 1 + 3) e) d = 0 ∨ grV 0 (fun e => I (b + 1 + 3) e) d = 1) := fun d hd => by
        rw [a2 (b + 1 + 3) (by omega), a3 d hd]
        obtain ⟨e1, e2⟩ := e_held 1 (hm3 d hd) (bI_01 (hasN (fun e => I (b + 1 + 3) e) 1 d 4))
        have e3 : hv 1 (I (b + 1 + 3) d) (bI (hasN (fun e => I (b + 1 + 3) e) 1 d 4)) = grV 0 (fun e => I (b + 1 + 3) e) d := by
          unfold grV hv
          rw [if_neg (show ¬ (1 : Int32) = 0 by decide), if_pos rfl, if_neg (show ¬ (0 : Int32) = 2 by decide), if_pos rfl]
          rcases hm3 d hd with o | o <;> rcases bI_01 (hasN (fun e => I (b + 1 + 3) e) 1 d 4) with h | h <;> rw [h] <;> simp only [o] <;> rfl
        rw [e3] at e1 e2
        exact ⟨e1, e2⟩
      obtain ⟨I1, j1, j2, j3, j4⟩ := e_join (I := A) (q := b + 1 + 2) (r := b + 1 + 3) (a1 := b + 119) k6 pm0 k13 n192 (by omega) hC.2.1 hC.2.2.1 (by omega) hh
      exact fin I1 hx (by simp [fn_X9_grow, gd_pos kb, pb5, pb0, gd_pos k7, pp3, gd_pos k6, pm0, a1, gd_pos hC.1, hpc, j1]) j3 (fun d hd => (hh d hd).2) (by rw [j4, if_pos rfl]) (fun a h1 h2 h3 => by rw [j2 a h1 h2, a2 a (by omega)])
    · obtain ⟨A, a1, a2, a3⟩ := e_chooseBeside (I := I) (P := P) (a := b + 1 + 3) 0 hC k13 n192 (by omega)
      have a3 : ∀ d, d < 192 → A (b + 119) d = bI (hasN (fun e => I (b + 1 + 3) e) 0 d 4) := a3
      have hh : ∀ d, d < 192 → fn_X5_isHeldAfter (A (b + 1 + 3) d) (A (b + 119) d) 2 = some (grV 1 (fun e => I (b + 1 + 3) e) d) ∧ (grV 1 (fun e => I (b + 1 + 3) e) d = 0 ∨ grV 1 (fun e => I (b + 1 + 3) e) d = 1) := fun d hd => by
        rw [a2 (b + 1 + 3) (by omega), a3 d hd]
        obtain ⟨e1, e2⟩ := e_held 2 (hm3 d hd) (bI_01 (hasN (fun e => I (b + 1 + 3) e) 0 d 4))
        have e3 : hv 2 (I (b + 1 + 3) d) (bI (hasN (fun e => I (b + 1 + 3) e) 0 d 4)) = grV 1 (fun e => I (b + 1 + 3) e) d := by
          unfold grV hv
          rw [if_neg (show ¬ (2 : Int32) = 0 by decide), if_neg (show ¬ (2 : Int32) = 1 by decide), if_pos rfl, if_neg (show ¬ (1 : Int32) = 2 by decide), if_neg (show ¬ (1 : Int32) = 0 by decide)]
          rcases hm3 d hd with o | o <;> rcases bI_01 (hasN (fun e => I (b + 1 + 3) e) 0 d 4) with h | h <;> rw [h] <;> simp only [o] <;> rfl
        rw [e3] at e1 e2
        exact ⟨e1, e2⟩
      obtain ⟨I1, j1, j2, j3, j4⟩ := e_join (I := A) (q := b + 1 + 2) (r := b + 1 + 3) (a1 := b + 119) k6 pm0 k13 n192 (by omega) hC.2.1 hC.2.2.1 (by omega) hh
      exact fin I1 hx (by simp [fn_X9_grow, gd_pos kb, pb5, pb0, gd_pos k7, pp3, gd_pos k6, pm0, a1, gd_pos hC.1, hpc, j1]) j3 (fun d hd => (hh d hd).2) (by rw [j4, if_pos rfl]) (fun a h1 h2 h3 => by rw [j2 a h1 h2, a2 a (by omega)])
    · obtain ⟨I1, j1, j2, j3, j4⟩ := e_turn (I := I) (q := b + 1 + 2) (r := b + 1 + 3) k6 pm0 k13 n192 (by omega) hm3
      have e2 : ∀ d, grV 2 (fun e => I (b + 1 + 3) e) d = 1 - I (b + 1 + 3) d := fun d => by unfold grV; rw [if_pos rfl]
      exact fin I1 hx (by simp [fn_X9_grow, gd_pos kb, pb0, gd_pos k7, pp3, gd_pos k6, j1]) (fun d hd => by rw [j3 d hd, e2]) (fun d hd => by rw [e2]; rcases hm3 d hd with o | o <;> rw [o] <;> decide) (by rw [j4]; exact congrArg nI (cnt1_cong 192 (fun d _ => (e2 d).symm))) (fun a h1 h2 h3 => j2 a h1 h2)
  · rw [bI_f hx] at c1
    have n0 : ¬ x1 = 0 := fun e => hx (e ▸ ⟨0, by decide, rfl⟩)
    have n1 : ¬ x1 = 1 := fun e => hx (e ▸ ⟨1, by decide, rfl⟩)
    have n2 : ¬ x1 = 2 := fun e => hx (e ▸ ⟨2, by decide, rfl⟩)
    exact ⟨(-2, I), by simp [fn_X9_grow, n0, n1, n2], (-2, I), by simp [fn_X10_grow, c1], rfl, hR0⟩
