/-! what is chosen is filled -/
def frV (mk : Nat → Int32) (d : Nat) : Int32 := if cnt1 mk 192 = 0 then 1 else if mk d = 0 then 0 else 1
theorem cnt1_le (f : Nat → Int32) : ∀ n, cnt1 f n ≤ n
  | 0 => Nat.le_refl _
  | n + 1 => by have := cnt1_le f n; unfold cnt1; split <;> omega
theorem e_isFreeC {K N : Nat → Nat} {s : Nat → Nat → Int32} {P : Nat → Nat → Option Nat} {c d : Nat} {mk : Nat → Int32} (hP : PicSh K N P c) (hd : d < 192) (h1 : s (c + 2) 1 = nI (cnt1 mk 192)) (h2 : s (c + 3) d = mk d) : fn_X5_isFree K N s P (c + 2) (nI d) = some (frV mk d) := by
  obtain ⟨⟨k7, k15, n4, k6, k13, n192, k3, k2, k14, n11⟩, ⟨pp0, pp3, pp4, pp5, pm0, pa0⟩, -, -⟩ := hP
  have hle := cnt1_le mk 192
  unfold fn_X5_isFree frV
  rw [gd_pos k6, h1]
  by_cases z : cnt1 mk 192 = 0
  · rw [if_pos (show nI (cnt1 mk 192) = 0 by rw [z]; rfl), if_pos z]
  · rw [if_neg (show ¬ nI (cnt1 mk 192) = 0 from fun e => z ((nI_eq (b := 0) (by omega) (by decide)).mp e)), if_neg z, pm0, Option.bind_some, gd_pos ⟨k13, by rw [n192]; exact vp_192 hd⟩, nI_clamp (by omega), h2]
    split <;> rfl
theorem e_isFreeM {K N : Nat → Nat} {s : Nat → Nat → Int32} {P : Nat → Nat → Option Nat} {m d : Nat} {mk : Nat → Int32} (hM : ModSh K N P m) (hd : d < 192) (h1 : s m 3 = if cnt1 mk 192 = 0 then 1 else 0) (h2 : s (m + 1) (1556 + d) = mk d) (h3 : mk d = 0 ∨ mk d = 1) : fn_X10_isFree K N s P m (nI d) = some (frV mk d) := by
  unfold fn_X10_isFree frV
  rw [gd_pos hM.1.1, h1]
  by_cases z : cnt1 mk 192 = 0
  · rw [if_pos z, if_neg (by decide), if_pos z]
  · rw [if_neg z, if_pos rfl, if_neg z, hM.2.2.1, Option.bind_some, show (1556 : Int32) + nI d = nI (1556 + d) from nI_add 1556 d, gd_pos (vp_g hM (by omega)), nI_clamp (by omega), h2]
    rcases h3 with e | e <;> rw [e] <;> rfl
def fillN (ch mk : Nat → Int32) (bi : Int32) (i0 o0 : Nat → Int32) : Nat → Nat × (Nat → Int32) × (Nat → Int32)
  | 0 => (0, i0, o0)
  | n + 1 => if ch n = 0 then fillN ch mk bi i0 o0 n else if frV mk n = 0 then fillN ch mk bi i0 o0 n else ((fillN ch mk bi i0 o0 n).1 + 1, up1 (fillN ch mk bi i0 o0 n).2.1 n (pntI bi 255 ((fillN ch mk bi i0 o0 n).2.1 n) ((fillN ch mk bi i0 o0 n).2.2 n)), up1 (fillN ch mk bi i0 o0 n).2.2 n (pntO bi 255 ((fillN ch mk bi i0 o0 n).2.2 n)))
theorem up_in {i o : Nat → Int32} {d : Nat} {bi c : Int32} (hb : bi = -1 ∨ inR bi 256) (hc : inR c 256) (h : ∀ e, e < 192 → DotI (i e) (o e)) (hd : d < 192) : ∀ e, e < 192 → DotI (up1 i d (pntI bi c (i d) (o d)) e) (up1 o d (pntO bi c (o d)) e) := by
  intro e he
  by_cases k : e = d
  · rw [k, up1_s, up1_s]; exact pnt_in (h d hd) hb hc
  · rw [up1_k k, up1_k k]; exact h e he
theorem fillN_in {ch mk : Nat → Int32} {bi : Int32} {i0 o0 : Nat → Int32} (hb : bi = -1 ∨ inR bi 256) (h : ∀ e, e < 192 → DotI (i0 e) (o0 e)) : ∀ n, n ≤ 192 → ∀ e, e < 192 → DotI ((fillN ch mk bi i0 o0 n).2.1 e) ((fillN ch mk bi i0 o0 n).2.2 e)
  | 0, _ => h
  | n + 1, hn => by
    have ih := fillN_in (ch := ch) (mk := mk) hb h n (by omega)
    unfold fillN
    split
    · exact ih
    · split
      · exact ih
      · exact up_in hb ⟨255, by decide, rfl⟩ ih (by omega)
theorem e_fillC {K N : Nat → Nat} {A : Nat → Nat → Int32} {P : Nat → Nat → Option Nat} {c q a : Nat} {i0 o0 ch mk : Nat → Int32} (hP : PicSh K N P c) (hL : LaySh K N P q) (ka : K a = 13) (na : N a = 192) (hq : c + 5 < q) (haq : a ≠ q + 1 ∧ a ≠ q + 2) (hA : LyD A A q i0 o0) (hch : ∀ d, d < 192 → A a d = ch d) (hm1 : A (c + 2) 1 = nI (cnt1 mk 192)) (hm2 : ∀ d, d < 192 → A (c + 3) d = mk d) : ∃ J, fn_X6_fillChosen_L19 K N c a P q FU 0 0 A = some (nI (fillN ch mk (A (c + 4) 2) i0 o0 192).1, J) ∧ LyD A J q (fillN ch mk (A (c + 4) 2) i0 o0 192).2.1 (fillN ch mk (A (c + 4) 2) i0 o0 192).2.2 := by
  obtain ⟨⟨k7, k15, n4, k6, k13, n192, k3, k2, k14, n11⟩, ⟨pp0, pp3, pp4, pp5, pm0, pa0⟩, -, -⟩ := id hP
  have key := loop_ok (F := fun f d (z : Int32 × (Nat → Nat → Int32)) => fn_X6_fillChosen_L19 K N c a P q f z.1 (nI d) z.2) 192 (fun d z => z.1 = nI (fillN ch mk (A (c + 4) 2) i0 o0 d).1 ∧ LyD A z.2 q (fillN ch mk (A (c + 4) 2) i0 o0 d).2.1 (fillN ch mk (A (c + 4) 2) i0 o0 d).2.2) (fun z => z.1 = nI (fillN ch mk (A (c + 4) 2) i0 o0 192).1 ∧ LyD A z.2 q (fillN ch mk (A (c + 4) 2) i0 o0 192).2.1 (fillN ch mk (A (c + 4) 2) i0 o0 192).2.2)
    (fun f z hz => by
      simp only [fn_X6_fillChosen_L19]
      rw [if_pos (show (192 : Int32) ≤ nI 192 from nI_le (a := 192) (Nat.le_refl _) (by omega))]
      exact ok_some.mpr hz)
    (fun f d z hd hz kk => by
      simp only [fn_X6_fillChosen_L19]
      obtain ⟨z1, z2⟩ := hz
      have zc : z.2 a d = ch d := by rw [z2.1 a haq.1 haq.2]; exact hch d hd
      have hf := e_isFreeC (s := z.2) (mk := mk) hP hd (by rw [z2.1 _ (by omega) (by omega)]; exact hm1) (by rw [z2.1 _ (by omega) (by omega)]; exact hm2 d hd)
      rw [if_neg (show ¬ (192 : Int32) ≤ nI d from nI_ge (b := 192) hd (by omega)), gd_pos ⟨ka, by rw [na]; exact vp_192 hd⟩, nI_clamp (by omega), zc, pp3, Option.bind_some, hf, Option.bind_some, gd_pos k6, nI_1 d]
      by_cases c0 : ch d = 0
      · rw [if_pos c0]
        exact kk (z.1, z.2) (by unfold fillN; rw [if_pos c0]; exact ⟨z1, z2⟩)
      · rw [if_neg c0]
        by_cases f0 : frV mk d = 0
        · rw [if_pos f0]
          exact kk (z.1, z.2) (by unfold fillN; rw [if_neg c0, if_pos f0]; exact ⟨z1, z2⟩)
        · rw [if_neg f0]
          obtain ⟨s', w1, w2⟩ := e_apply (cv := 255) hL k7 pp4 k3 ⟨by omega, by omega⟩ z2 hd
          rw [w1, Option.bind_some]
          exact kk (z.1 + 1, s') (by unfold fillN; rw [if_neg c0, if_neg f0]; exact ⟨by rw [z1, nI_1], w2⟩))
    FU 0 (0, A) (Nat.zero_le _) (FU_lt (by omega)) ⟨rfl, hA⟩
  obtain ⟨⟨r, J⟩, h1, h2, h3⟩ := key
  refine ⟨J, ?_, h3⟩
  rw [← h2]; exact h1
theorem e_fillM {K N : Nat → Nat} {B : Nat → Nat → Int32} {P : Nat → Nat → Option Nat} {m l : Nat} {i0 o0 ch mk : Nat → Int32} (hM : ModSh K N P m) (hl : l < 4) (hB : GrD B B m l i0 o0) (hch : ∀ d, d < 192 → B (m + 5) d = ch d) (hm1 : B m 3 = if cnt1 mk 192 = 0 then 1 else 0) (hm2 : ∀ d, d < 192 → B (m + 1) (1556 + d) = mk d ∧ (mk d = 0 ∨ mk d = 1)) : ∃ s, fn_X10_fills_L9 K N m (nI l) P FU 0 0 B = some (nI (fillN ch mk (B (m + 1) 4) i0 o0 192).1, s) ∧ GrD B s m l (fillN ch mk (B (m + 1) 4) i0 o0 192).2.1 (fillN ch mk (B (m + 1) 4) i0 o0 192).2.2 := by
  have k5 : K (m + 5) = 12 := hM.1.2.2.2.2.2.1
  have n5 : N (m + 5) = 192 := hM.2.1.2.2.2.2.1
  have p5 : P m 16 = some (m + 5) := hM.2.2.2.2.2.2.1
  have key := loop_ok (F := fun f d (z : Int32 × (Nat → Nat → Int32)) => fn_X10_fills_L9 K N m (nI l) P f z.1 (nI d) z.2) 192 (fun d z => z.1 = nI (fillN ch mk (B (m + 1) 4) i0 o0 d).1 ∧ GrD B z.2 m l (fillN ch mk (B (m + 1) 4) i0 o0 d).2.1 (fillN ch mk (B (m + 1) 4) i0 o0 d).2.2) (fun z => z.1 = nI (fillN ch mk (B (m + 1) 4) i0 o0 192).1 ∧ GrD B z.2 m l (fillN ch mk (B (m + 1) 4) i0 o0 192).2.1 (fillN ch mk (B (m + 1) 4) i0 o0 192).2.2)
    (fun f z hz => by
      simp only [fn_X10_fills_L9]
      rw [if_pos (show (192 : Int32) ≤ nI 192 from nI_le (a := 192) (Nat.le_refl _) (by omega))]
      exact ok_some.mpr hz)
    (fun f d z hd hz kk => by
      simp only [fn_X10_fills_L9]
      obtain ⟨z1, z2⟩ := hz
      have zc : z.2 (m + 5) d = ch d := by rw [z2.1 _ (by omega)]; exact hch d hd
      have hf := e_isFreeM (s := z.2) (mk := mk) hM hd (by rw [z2.1 _ (by omega)]; exact hm1) (by rw [z2.2.1 _ (by omega) (by omega)]; exact (hm2 d hd).1) (hm2 d hd).2
      rw [if_neg (show ¬ (192 : Int32) ≤ nI d from nI_ge (b := 192) hd (by omega)), p5, Option.bind_some, gd_pos ⟨k5, by rw [n5]; exact vp_192 hd⟩, nI_clamp (by omega), zc, hf, Option.bind_some, nI_1 d]
      by_cases c0 : ch d = 0
      · rw [if_pos c0]
        exact kk (z.1, z.2) (by unfold fillN; rw [if_pos c0]; exact ⟨z1, z2⟩)
      · rw [if_neg c0]
        by_cases f0 : frV mk d = 0
        · rw [if_pos f0]
          exact kk (z.1, z.2) (by unfold fillN; rw [if_neg c0, if_pos f0]; exact ⟨z1, z2⟩)
        · rw [if_neg f0]
          obtain ⟨s', w1, w2⟩ := e_paints (cv := 255) hM hl z2 hd
          rw [w1, Option.bind_some]
          exact kk (z.1 + 1, s') (by unfold fillN; rw [if_neg c0, if_neg f0]; exact ⟨by rw [z1, nI_1], w2⟩))
    FU 0 (0, B) (Nat.zero_le _) (FU_lt (by omega)) ⟨rfl, hB⟩
  obtain ⟨⟨r, J⟩, h1, h2, h3⟩ := key
  refine ⟨J, ?_, h3⟩
  rw [← h2]; exact h1
set_option maxHeartbeats 4000000 in
theorem e_fillBoth {K N : Nat → Nat} {b : Nat} {I I0 : Nat → Nat → Int32} {P : Nat → Nat → Option Nat} {cnt kp al l : Nat} {σ τ : Nat → Nat} (ch : Nat → Int32) (hR : Rel K N b I P) (hpic0 : PicR I P (b + 1) (I (b + 126 + 1)) cnt kp al σ τ) (hl : l < cnt) (h0 : ∀ a, ¬ (b + 118 ≤ a ∧ a < b + 126) → I0 a = I a) (hch : ∀ d, d < 192 → I0 (b + 119) d = ch d) : ∃ r J' P', fn_X6_fillChosen K N I0 P (b + 1) (nI l) (b + 119) = some (r, J', P') ∧ (∀ x, x ≠ b + 1 + 6 → P' x = P x) ∧ (∀ a, b + 126 ≤ a → J' a = I a) ∧ ∀ B0, (∀ a, ¬ (b + 130 ≤ a ∧ a < b + 135) → B0 a = J' a) → (∀ d, d < 192 → B0 (b + 126 + 5) d = ch d) → ∃ I2, fn_X10_fills K N B0 P' (b + 126) (nI l) = some (r, I2) ∧ Rel K N b I2 P' := by
  obtain ⟨⟨hroot, hp1, hp53, hmod⟩, -, -, -, -⟩ := id hR
  obtain ⟨⟨hcnt, hkp, hal⟩, ⟨hσ, hτ, hlay, hact⟩, ⟨hc1, hg0⟩, ⟨hpap, hpap2⟩, hbr, hlays, hmask, ⟨ha1, ha2, ha3, ha4⟩, hacts⟩ := id hpic0
  obtain ⟨⟨k7, k15, n4, k6, k13, n192, k3, k2, k14, n11⟩, ⟨pp0, pp3, pp4, pp5, pm0, pa0⟩, hacsh, hlash⟩ := id hp1
  have hC := chSh_of hroot
  have hsl := hσ.1 l (by omega)
  have hLq := hlash _ hsl
  obtain ⟨A, a1, a2, a3, a4⟩ := e_actAll hR hpic0 hl h0
  have oA : ∀ a, ¬ (b + 8 ≤ a ∧ a < b + 41) → ¬ (b + 118 ≤ a ∧ a < b + 126) → A a = I a := fun a h h' => by rw [a2 a h, h0 a h']
  have hbi : A (b + 1 + 4) 2 = I (b + 126 + 1) 4 := by rw [oA _ (by omega) (by omega)]; exact hbr.1.2.2.1
  obtain ⟨J, j1, j2⟩ := e_fillC (A := A) (a := b + 119) (ch := ch) (mk := fun d => I (b + 126 + 1) (1556 + d)) hp1 hLq hC.2.1 hC.2.2.1 (by omega) ⟨by omega, by omega⟩ a3 (fun d hd => by rw [a2 _ (by omega)]; exact hch d hd) (by rw [oA _ (by omega) (by omega)]; exact hmask.2) (fun d hd => by rw [oA _ (by omega) (by omega)]; exact (hmask.1 d hd).1)
  rw [hbi] at j1 j2
  have hdi := fillN_in (ch := ch) (mk := fun d => I (b + 126 + 1) (1556 + d)) (i0 := fun d => I (b + 126 + 1) (20 + 192 * l + d)) (o0 := fun d => I (b + 126 + 1) (788 + 192 * l + d)) hbr.2.2.2.1 (fun d hd => (hlays l hl).2.2.2.2 d hd) 192 (Nat.le_refl _)
  obtain ⟨W, hW⟩ : ∃ W, W = fillN ch (fun d => I (b + 126 + 1) (1556 + d)) (I (b + 126 + 1) 4) (fun d => I (b + 126 + 1) (20 + 192 * l + d)) (fun d => I (b + 126 + 1) (788 + 192 * l + d)) 192 := ⟨_, rfl⟩
  rw [← hW] at j1 j2 hdi
  obtain ⟨J', P', e1, e2, e3, e4⟩ := a4 J _ _ j2 hdi
  refine ⟨nI W.1, J', P', ?_, e2, e3, ?_⟩
  · obtain ⟨g1, g2⟩ := e_layAt hp1 (show l < 4 by omega) hlay
    unfold fn_X6_fillChosen
    rw [gd_pos k7, pp5, Option.bind_some, pp0, Option.bind_some, gd_pos g1, g2, Option.bind_some, a1, Option.bind_some, gd_pos k2, j1, Option.bind_some, e1, Option.bind_some]
  · intro B0 h1 h2
    obtain ⟨B, b1, b2, b3, b4, b5⟩ := e4 B0 h1
    have bg : B (b + 126 + 1) = I (b + 126 + 1) := by rw [b2 _ (by omega) (by omega), h1 _ (by omega), e3 _ (by omega)]
    obtain ⟨s, s1, s2⟩ := e_fillM (B := B) (ch := ch) (mk := fun d => I (b + 126 + 1) (1556 + d)) (hmod.keep (e2 _ (by omega))) (by omega) b4 (fun d hd => by rw [b2 _ (by omega) (by omega)]; exact h2 d hd) b3 (fun d hd => by rw [bg]; exact ⟨rfl, (hmask.1 d hd).2⟩)
    rw [bg, ← hW] at s1 s2
    obtain ⟨I2, f1, f2⟩ := b5 s s2
    refine ⟨I2, ?_, f2⟩
    unfold fn_X10_fills
    rw [b1, Option.bind_some, gd_pos hmod.1.1, s1, Option.bind_some, f1, Option.bind_some]
