/-! a region, on both sides -/
def ab (x : Int32) : Int32 := if 0 ≤ x then x else 0 - x
def likeV (i o : Nat → Int32) (st : Nat) (t : Int32) (e : Nat) : Int32 := if t < ab (i e - i st) then 0 else if t < ab (o e - o st) then 0 else 1
theorem likeV_st {i o : Nat → Int32} {st : Nat} {t : Int32} (ht : inR t 256) : likeV i o st t st = 1 := by
  unfold likeV
  have z : ab (0 : Int32) = 0 := rfl
  have nt : ¬ t < 0 := by
    obtain ⟨j, hj, rfl⟩ := ht
    exact nI_pos (by omega)
  rw [Int32.sub_self, Int32.sub_self, z, if_neg nt, if_neg nt]
theorem likeV_01 (i o : Nat → Int32) (st : Nat) (t : Int32) (e : Nat) : likeV i o st t e = 0 ∨ likeV i o st t e = 1 := by
  unfold likeV
  split
  · exact Or.inl rfl
  · split
    · exact Or.inl rfl
    · exact Or.inr rfl
theorem e_isLike {K N : Nat → Nat} {I : Nat → Nat → Int32} {P : Nat → Nat → Option Nat} {m l e st : Nat} {t : Int32} {i o : Nat → Int32} (hM : ModSh K N P m) (hl : l < 4) (he : e < 192) (hs : st < 192) (hi : ∀ d, d < 192 → I (m + 1) (20 + 192 * l + d) = i d ∧ I (m + 1) (788 + 192 * l + d) = o d) : fn_X10_isLike K N I P m (nI l) (nI e) (nI st) t = some (likeV i o st t e) := by
  unfold fn_X10_isLike
  rw [gd_pos hM.1.1, hM.2.2.1, Option.bind_some, show (20 : Int32) + (192 : Int32) * nI l + nI e = nI (20 + 192 * l + e) from e_sd 20 l e, show (20 : Int32) + (192 : Int32) * nI l + nI st = nI (20 + 192 * l + st) from e_sd 20 l st, show (788 : Int32) + (192 : Int32) * nI l + nI e = nI (788 + 192 * l + e) from e_sd 788 l e, show (788 : Int32) + (192 : Int32) * nI l + nI st = nI (788 + 192 * l + st) from e_sd 788 l st, gd_pos (vp_g hM (by omega)), gd_pos (vp_g hM (by omega)), gd_pos (vp_g hM (by omega)), gd_pos (vp_g hM (by omega)), nI_clamp (by omega), nI_clamp (by omega), nI_clamp (by omega), nI_clamp (by omega), (hi e he).1, (hi e he).2, (hi st hs).1, (hi st hs).2]
  unfold likeV
  show (if t < ab (i e - i st) then some (0 : Int32) else if t < ab (o e - o st) then some 0 else some 1) = _
  split
  · rfl
  · split <;> rfl
def S0 : BS := (0, fun _ => 0, fun _ => 0)
def regS (key : Nat → Int32) (st : Nat) (n : Nat) : BS := bfsN key (key st) (stepB key (key st) S0 (some st)) n
theorem S0_ok : BOk 0 S0 := by
  refine ⟨?_, fun _ _ => Or.inl rfl, fun i hi => absurd hi (by unfold S0; omega)⟩
  have : ∀ n, cnt1 (fun _ => (0 : Int32)) n = 0 := fun n => by
    induction n with
    | zero => rfl
    | succ n ih => unfold cnt1; rw [ih, if_pos rfl]
  exact this 192
theorem e_chooseRegion {K N : Nat → Nat} {I : Nat → Nat → Int32} {P : Nat → Nat → Option Nat} {q a st : Nat} {t : Int32} {i o : Nat → Int32} (hC : ChSh K N P q) (hL : LaySh K N P a) (haq : a + 2 < q) (hs : st < 192) (hi : ∀ d, d < 192 → I (a + 1) d = i d ∧ I (a + 2) d = o d) : ∃ I', fn_X3_chooseRegion K N I P q a (nI st) t = some I' ∧ (∀ x, ¬ (q ≤ x ∧ x < q + 4) → I' x = I x) ∧ ∀ d, d < 192 → I' (q + 1) d = (regS (likeV i o st t) st 192).2.2 d := by
  obtain ⟨k0, k1, n1, k2, n2, k3, n3, p0, p1, p2⟩ := id hC
  obtain ⟨l0, l1, m1, l2, m2, r0, r1⟩ := hL
  have key := loop_ok (F := fun f v s => fn_X3_chooseRegion_L19 K N q t P (a + 1) (i st) (a + 2) (o st) f (nI v) s) 192 (fun v s => (∀ x, x ≠ q + 2 → s x = I x) ∧ ∀ d, d < v → s (q + 2) d = likeV i o st t d) (fun s => (∀ x, x ≠ q + 2 → s x = I x) ∧ ∀ d, d < 192 → s (q + 2) d = likeV i o st t d)
    (fun f s hz => by
      simp only [fn_X3_chooseRegion_L19]
      rw [if_pos (show (192 : Int32) ≤ nI 192 from nI_le (a := 192) (Nat.le_refl _) (by omega))]
      exact ok_some.mpr hz)
    (fun f v s hv hz kk => by
      simp only [fn_X3_chooseRegion_L19]
      obtain ⟨s1, s2⟩ := hz
      have gk : K (q + 2) = 12 ∧ vp_in (nI v) (N (q + 2)) := ⟨k2, by rw [n2]; exact vp_192 hv⟩
      rw [if_neg (show ¬ (192 : Int32) ≤ nI v from nI_ge (b := 192) hv (by omega)), gd_pos ⟨l1, by rw [m1]; exact vp_192 hv⟩, gd_pos ⟨l2, by rw [m2]; exact vp_192 hv⟩, nI_clamp (by omega), s1 (a + 1) (by omega), s1 (a + 2) (by omega), (hi v hv).1, (hi v hv).2, nI_1]
      have hm : (if t < (if 0 ≤ i v - i st then i v - i st else 0 - (i v - i st)) then some (0 : Int32) else (if t < (if 0 ≤ o v - o st then o v - o st else 0 - (o v - o st)) then some (0 : Int32) else some 1)) = some (likeV i o st t v) := by
        unfold likeV
        show (if t < ab (i v - i st) then some (0 : Int32) else if t < ab (o v - o st) then some 0 else some 1) = _
        split
        · rfl
        · split <;> rfl
      rw [hm, Option.bind_some, gd_pos k0, p1, Option.bind_some, gd_pos gk, gd_pos gk, Option.bind_some, Option.bind_some]
      have fin : ∀ c : Int32, c = likeV i o st t v → ok (fn_X3_chooseRegion_L19 K N q t P (a + 1) (i st) (a + 2) (o st) f (nI (v + 1)) (up2 s (q + 2) v c)) (fun s => (∀ x, x ≠ q + 2 → s x = I x) ∧ ∀ d, d < 192 → s (q + 2) d = likeV i o st t d) := by
        intro c hc
        refine kk _ ⟨fun x hx => by rw [up2_o hx]; exact s1 x hx, fun d hd => ?_⟩
        by_cases h : d = v
        · subst h; rw [up2_s]; exact hc
        · rw [up2_k h]; exact s2 d (by omega)
      rcases likeV_01 i o st t v with h | h
      · rw [if_pos h]; exact fin 0 h.symm
      · rw [if_neg (by rw [h]; decide)]; exact fin 1 h.symm)
    FU 0 I (Nat.zero_le _) (FU_lt (by omega)) ⟨fun _ _ => rfl, fun d hd => absurd hd (by omega)⟩
  obtain ⟨A, w1, w2, w3⟩ := key
  have w1 : fn_X3_chooseRegion_L19 K N q t P (a + 1) (i st) (a + 2) (o st) FU 0 I = some A := w1
  obtain ⟨B, b1, b2, b3⟩ := e_chClear (I := A) hC
  obtain ⟨C, c1, c2⟩ := e_spread (A := B) (P := P) (n0 := 0) (V := fun _ => 0) (key := likeV i o st t) hC hs S0_ok (fun d hd => by rw [b2 _ (by omega)]; exact w3 d hd) b3
  refine ⟨C, ?_, fun x hx => by rw [c2.1 x (by omega) (by omega) (by omega), b2 x (by omega), w2 x (by omega)], by unfold regS S0; exact c2.2.2.2.1⟩
  unfold fn_X3_chooseRegion
  rw [gd_pos l0, r0, Option.bind_some, gd_pos ⟨l1, by rw [m1]; exact vp_192 hs⟩, Option.bind_some, r1, Option.bind_some, gd_pos ⟨l2, by rw [m2]; exact vp_192 hs⟩, Option.bind_some, nI_clamp (by omega), (hi st hs).1, (hi st hs).2, w1, Option.bind_some, b1, Option.bind_some, gd_pos k0, c1, Option.bind_some]
/-! the model's -/
def MS (m : Nat) (A : Nat → Nat → Int32) (S : BS) (s : Nat → Nat → Int32) : Prop := (∀ a, a ≠ m + 5 → a ≠ m + 6 → s a = A a) ∧ (∀ d, d < 192 → s (m + 5) d = S.2.2 d) ∧ ∀ i, i < S.1 → s (m + 6) i = nI (S.2.1 i)
theorem e_rIn {K N : Nat → Nat} {A s : Nat → Nat → Int32} {P : Nat → Nat → Option Nat} {m l st iq d n0 : Nat} {t : Int32} {i o : Nat → Int32} {S : BS} (hM : ModSh K N P m) (hl : l < 4) (hs : st < 192) (ht : inR t 256) (hi : ∀ d, d < 192 → A (m + 1) (20 + 192 * l + d) = i d ∧ A (m + 1) (788 + 192 * l + d) = o d) (hS : BOk n0 S) (hd : d < 192) (hiq : iq < S.1) (hdq : S.2.1 iq = d) (h : MS m A S s) : ∃ s', fn_X10_region_L64 K N m (nI l) t P (nI st) (m + 5) (m + 6) (nI iq) FU (nI S.1) 0 s = some (nI (expP (likeV i o st t) 1 d S 4).1, s') ∧ MS m A (expP (likeV i o st t) 1 d S 4) s' := by
  have k5 : K (m + 5) = 12 := hM.1.2.2.2.2.2.1
  have n5 : N (m + 5) = 192 := hM.2.1.2.2.2.2.1
  have k6 : K (m + 6) = 12 := hM.1.2.2.2.2.2.2.1
  have n6 : N (m + 6) = 192 := hM.2.1.2.2.2.2.2.1
  have hle := hS.le
  have key := loop_ok (F := fun f j (z : Int32 × (Nat → Nat → Int32)) => fn_X10_region_L64 K N m (nI l) t P (nI st) (m + 5) (m + 6) (nI iq) f z.1 (nI j) z.2) 4 (fun j z => z.1 = nI (expP (likeV i o st t) 1 d S j).1 ∧ MS m A (expP (likeV i o st t) 1 d S j) z.2) (fun z => z.1 = nI (expP (likeV i o st t) 1 d S 4).1 ∧ MS m A (expP (likeV i o st t) 1 d S 4) z.2)
    (fun f z hz => by
      simp only [fn_X10_region_L64]
      rw [if_pos (show (4 : Int32) ≤ nI 4 from nI_le (a := 4) (Nat.le_refl _) (by omega))]
      exact ok_some.mpr hz)
    (fun f j z hj hz kk => by
      simp only [fn_X10_region_L64]
      obtain ⟨z1, z2, z3, z4⟩ := hz
      obtain ⟨E1, E2, E3⟩ := expP_ok (key := likeV i o st t) (k := 1) hS hd j
      have hq : z.2 (m + 6) iq = nI d := by rw [z4 iq (by omega), E3 iq hiq, hdq]
      have he : expP (likeV i o st t) 1 d S (j + 1) = stepB (likeV i o st t) 1 (expP (likeV i o st t) 1 d S j) (nbr d j) := rfl
      obtain ⟨T, hT⟩ : ∃ T, T = expP (likeV i o st t) 1 d S j := ⟨_, rfl⟩
      rw [← hT] at z1 z3 z4 E1 E2 he
      have hTle := E1.le
      rw [if_neg (show ¬ (4 : Int32) ≤ nI j from nI_ge (b := 4) hj (by omega)), gd_pos ⟨k6, by rw [n6]; exact vp_192 (by omega)⟩, nI_clamp (by omega), hq, e_beside hd hj, Option.bind_some, nI_1]
      cases hn : nbr d j with
      | none =>
        have neg : (-1 : Int32) < 0 := by decide
        simp only [if_pos neg]
        exact kk z (by rw [he, hn]; exact ⟨z1, z2, z3, z4⟩)
      | some e =>
        have hel := nbr_lt hd hn
        have pos : ¬ nI e < 0 := nI_pos (by omega)
        have hlk := e_isLike (I := z.2) (e := e) (st := st) (t := t) hM hl hel hs (by rw [z2 (m + 1) (by omega) (by omega)]; exact hi)
        simp only [if_neg pos]
        rw [gd_pos ⟨k5, by rw [n5]; exact vp_192 hel⟩, nI_clamp (by omega), z3 e hel, hlk, Option.bind_some]
        rcases E1.2.1 e hel with hv | hv
        · rw [if_neg (by rw [hv]; decide)]
          rcases likeV_01 i o st t e with hk | hk
          · rw [if_pos hk]
            exact kk z (by rw [he, hn, stepB_w (by rw [hk]; decide)]; exact ⟨z1, z2, z3, z4⟩)
          · have hlt := E1.lt hel hv
            rw [if_neg (by rw [hk]; decide), Option.bind_some, z1, gd_pos ⟨k6, by rw [n6]; exact vp_192 hlt⟩, Option.bind_some, nI_clamp (by omega), nI_1]
            refine kk (nI (T.1 + 1), up2 (up2 z.2 (m + 5) e 1) (m + 6) T.1 (nI e)) ?_
            rw [he, hn, stepB_y hv hk]
            refine ⟨rfl, fun a x y => by show up2 _ _ _ _ a = _; rw [up2_o y, up2_o x]; exact z2 a x y, fun d' hd' => ?_, fun i' hi' => ?_⟩
            · show up2 (up2 z.2 (m + 5) e 1) (m + 6) T.1 (nI e) (m + 5) d' = up1 T.2.2 e 1 d'
              rw [up2_o (by omega)]
              by_cases k : d' = e
              · rw [k, up1_s, up2_s]
              · rw [up1_k k, up2_k k]; exact z3 d' hd'
            · show up2 (up2 z.2 (m + 5) e 1) (m + 6) T.1 (nI e) (m + 6) i' = nI (if i' = T.1 then e else T.2.1 i')
              by_cases k : i' = T.1
              · rw [if_pos k, k, up2_s]
              · have hi' : i' < T.1 + 1 := hi'
                rw [if_neg k, up2_k k, up2_o (by omega)]; exact z4 i' (by omega)
        · rw [if_pos hv]
          exact kk z (by rw [he, hn, stepB_z (by rw [hv]; decide)]; exact ⟨z1, z2, z3, z4⟩))
    FU 0 (nI S.1, s) (Nat.zero_le _) (FU_lt (by omega)) ⟨rfl, h⟩
  obtain ⟨⟨r, s'⟩, h1, h2, h3⟩ := key
  refine ⟨s', ?_, h3⟩
  rw [← h2]; exact h1
theorem e_region {K N : Nat → Nat} {I : Nat → Nat → Int32} {P : Nat → Nat → Option Nat} {m l x y : Nat} {t : Int32} {i o : Nat → Int32} (hM : ModSh K N P m) (hl : l < 4) (hx : x < 16) (hy : y < 12) (ht : inR t 256) (hi : ∀ d, d < 192 → I (m + 1) (20 + 192 * l + d) = i d ∧ I (m + 1) (788 + 192 * l + d) = o d) : ∃ I', fn_X10_region K N I P m (nI l) (nI x) (nI y) t = some I' ∧ (∀ a, a ≠ m + 5 → a ≠ m + 6 → I' a = I a) ∧ ∀ d, d < 192 → I' (m + 5) d = (regS (likeV i o (16 * y + x) t) (16 * y + x) 192).2.2 d := by
  have k5 : K (m + 5) = 12 := hM.1.2.2.2.2.2.1
  have n5 : N (m + 5) = 192 := hM.2.1.2.2.2.2.1
  have p5 : P m 16 = some (m + 5) := hM.2.2.2.2.2.2.1
  have k6 : K (m + 6) = 12 := hM.1.2.2.2.2.2.2.1
  have n6 : N (m + 6) = 192 := hM.2.1.2.2.2.2.2.1
  have p6 : P m 17 = some (m + 6) := hM.2.2.2.2.2.2.2.1
  have hs : 16 * y + x < 192 := by omega
  obtain ⟨st, hst⟩ : ∃ st, st = 16 * y + x := ⟨_, rfl⟩
  have key := loop_ok (F := fun f v s => fn_X10_region_L10 K N m P f (nI v) s) 192 (fun v s => (∀ a, a ≠ m + 5 → s a = I a) ∧ ∀ d, d < v → s (m + 5) d = 0) (fun s => (∀ a, a ≠ m + 5 → s a = I a) ∧ ∀ d, d < 192 → s (m + 5) d = 0)
    (fun f s hz => by
      simp only [fn_X10_region_L10]
      rw [if_pos (show (192 : Int32) ≤ nI 192 from nI_le (a := 192) (Nat.le_refl _) (by omega))]
      exact ok_some.mpr hz)
    (fun f v s hv hz kk => by
      simp only [fn_X10_region_L10]
      rw [if_neg (show ¬ (192 : Int32) ≤ nI v from nI_ge (b := 192) hv (by omega)), gd_pos hM.1.1, p5, Option.bind_some, gd_pos ⟨k5, by rw [n5]; exact vp_192 hv⟩, Option.bind_some, nI_clamp (by omega), nI_1]
      refine kk _ ⟨fun a ha => by rw [up2_o ha]; exact hz.1 a ha, fun d hd => ?_⟩
      by_cases h : d = v
      · subst h; rw [up2_s]
      · rw [up2_k h]; exact hz.2 d (by omega))
    FU 0 I (Nat.zero_le _) (FU_lt (by omega)) ⟨fun _ _ => rfl, fun d hd => absurd hd (by omega)⟩
  obtain ⟨A, w1, w2, w3⟩ := key
  have w1 : fn_X10_region_L10 K N m P FU 0 I = some A := w1
  rw [← hst] at hs ⊢
  have hk1 : likeV i o st t st = 1 := likeV_st ht
  obtain ⟨B, hB⟩ : ∃ B, B = up2 (up2 A (m + 5) st 1) (m + 6) 0 (nI st) := ⟨_, rfl⟩
  obtain ⟨S1, hS1⟩ : ∃ S1, S1 = stepB (likeV i o st t) (likeV i o st t st) S0 (some st) := ⟨_, rfl⟩
  have hS1' : S1 = (1, (fun i => if i = 0 then st else 0), up1 (fun _ => 0) st 1) := by rw [hS1, stepB_y (s := S0) rfl rfl]; rfl
  have hok1 : BOk 0 S1 := by rw [hS1]; exact (S0_ok.step (fun x hx => by injection hx with hx; omega)).1
  have hB1 : MS m A S1 B := by
    rw [hS1']
    refine ⟨fun a x y => by rw [hB, up2_o y, up2_o x], fun d hd => ?_, fun i' hi' => ?_⟩
    · show B (m + 5) d = up1 (fun _ => 0) st 1 d
      rw [hB, up2_o (by omega)]
      by_cases k : d = st
      · rw [k, up1_s, up2_s]
      · rw [up1_k k, up2_k k]; exact w3 d hd
    · have hi' : i' < 1 := hi'
      have : i' = 0 := by omega
      subst this
      rw [hB, up2_s]; rfl
  have key2 := while_ok (F := fun f iq (z : Int32 × (Nat → Nat → Int32)) => fn_X10_region_L54 K N m (nI l) t P (nI st) (m + 5) (m + 6) f z.1 (nI iq) z.2) 192 (fun iq z => iq ≤ 192 ∧ z.1 = nI (bfsN (likeV i o st t) 1 S1 iq).1 ∧ MS m A (bfsN (likeV i o st t) 1 S1 iq) z.2) (fun s => MS m A (bfsN (likeV i o st t) 1 S1 192) s)
    (fun f iq z hz kk => by
      simp only [fn_X10_region_L54]
      obtain ⟨hiq, z1, z2⟩ := hz
      have hok := bfsN_ok (key := likeV i o st t) (k := 1) hok1 iq
      have hle := hok.le
      rw [z1]
      by_cases c : (bfsN (likeV i o st t) 1 S1 iq).1 ≤ iq
      · rw [if_pos (nI_le c (by omega))]
        exact ok_some.mpr (by rw [bfs_end (n0 := 0) c hiq]; exact z2)
      · have hlt : iq < (bfsN (likeV i o st t) 1 S1 iq).1 := by omega
        have hd := hok.2.2 iq hlt
        have hn : bfsN (likeV i o st t) 1 S1 (iq + 1) = expP (likeV i o st t) 1 ((bfsN (likeV i o st t) 1 S1 iq).2.1 iq) (bfsN (likeV i o st t) 1 S1 iq) 4 := by rw [bfsN, if_neg c]
        obtain ⟨s', v1, v2⟩ := e_rIn (st := st) (t := t) hM hl hs ht (by rw [w2 (m + 1) (by omega)]; exact hi) hok hd hlt rfl z2
        rw [if_neg (nI_ge hlt (by omega)), v1, Option.bind_some, nI_1]
        exact kk (_, s') (by omega) ⟨by omega, by rw [hn], by rw [hn]; exact v2⟩)
    FU 0 (1, B) (Nat.zero_le _) (FU_lt (by omega)) ⟨Nat.zero_le _, by show (1 : Int32) = nI S1.1; rw [hS1']; rfl, hB1⟩
  obtain ⟨C, c1, c2⟩ := key2
  have c1 : fn_X10_region_L54 K N m (nI l) t P (nI st) (m + 5) (m + 6) FU 1 0 B = some C := c1
  refine ⟨C, ?_, fun a x y => by rw [c2.1 a x y, w2 a x], ?_⟩
  · unfold fn_X10_region
    rw [e_dotOf, ← hst, Option.bind_some, w1, Option.bind_some, gd_pos hM.1.1, p5, Option.bind_some, gd_pos ⟨k5, by rw [n5]; exact vp_192 hs⟩, Option.bind_some, p6, Option.bind_some, gd_pos (show K (m + 6) = 12 ∧ vp_in (0 : Int32) (N (m + 6)) from ⟨k6, by rw [n6]; exact vp_192 (d := 0) (by omega)⟩), Option.bind_some, nI_clamp (by omega), ← hB, c1, Option.bind_some]
  · intro d hd
    have e : regS (likeV i o st t) st 192 = bfsN (likeV i o st t) 1 S1 192 := by unfold regS; rw [← hS1, hk1]
    rw [e]; exact c2.2.1 d hd
