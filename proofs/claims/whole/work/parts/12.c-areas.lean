/-! areas -/
theorem Rel.scratch {K N : Nat → Nat} {b : Nat} {I I' : Nat → Nat → Int32} {P : Nat → Nat → Option Nat} (hR : Rel K N b I P) (ho : ∀ a, ¬ (b + 118 ≤ a ∧ a < b + 126) → ¬ (b + 130 ≤ a ∧ a < b + 135) → I' a = I a) : Rel K N b I' P := by
  obtain ⟨-, ⟨cnt, kp, al, σ, τ, hpic⟩, -⟩ := id hR
  refine hR.pic ⟨ho _ (by omega) (by omega), fun a _ _ => ho _ (by omega) (by omega), ⟨by rw [ho (b + 126) (by omega) (by omega)], by rw [ho (b + 126) (by omega) (by omega)]⟩, ho _ (by omega) (by omega), ho _ (by omega) (by omega), ho _ (by omega) (by omega), ho _ (by omega) (by omega), ho _ (by omega) (by omega)⟩ (fun _ _ _ => rfl) ⟨cnt, kp, al, σ, τ, ?_⟩
  rw [ho (b + 127) (by omega) (by omega)]
  exact hpic.keep (fun a _ _ => ho a (by omega) (by omega)) (fun _ _ _ => rfl)
theorem arS_ex (key V : Nat → Int32) (d : Nat) : ∃ T : BS, T = bfsN key (key d) (stepB key (key d) (0, fun _ => 0, V) (some d)) 192 := ⟨_, rfl⟩
noncomputable def arS (key V : Nat → Int32) (d : Nat) : BS := Classical.choose (arS_ex key V d)
theorem arS_eq (key V : Nat → Int32) (d : Nat) : arS key V d = bfsN key (key d) (stepB key (key d) (0, fun _ => 0, V) (some d)) 192 := Classical.choose_spec (arS_ex key V d)
abbrev AR : Type := Nat × Nat × Int32 × (Nat → Int32)
noncomputable def arN (key : Nat → Int32) : Nat → AR
  | 0 => (0, 0, 0, fun _ => 0)
  | d + 1 => if (arN key d).2.2.2 d = 0 then ((arN key d).1 + 1, if (arS key (arN key d).2.2.2 d).1 ≤ (arN key d).2.1 then (arN key d).2.1 else (arS key (arN key d).2.2.2 d).1, if (arS key (arN key d).2.2.2 d).1 ≤ (arN key d).2.1 then (arN key d).2.2.1 else key d, (arS key (arN key d).2.2.2 d).2.2) else arN key d
theorem ar_ok {V : Nat → Int32} (h : ∀ d, d < 192 → V d = 0 ∨ V d = 1) : BOk (cnt1 V 192) (0, fun _ => 0, V) := by
  refine ⟨?_, h, fun i hi => absurd hi (Nat.not_lt_zero i)⟩
  show cnt1 V 192 = cnt1 V 192 + 0
  rw [Nat.add_zero]
theorem arS_ok {key V : Nat → Int32} {d : Nat} (h : ∀ d, d < 192 → V d = 0 ∨ V d = 1) (hd : d < 192) : BOk (cnt1 V 192) (arS key V d) := by
  rw [arS_eq]
  exact bfsN_ok ((ar_ok h).step (fun x hx => by injection hx with hx; omega)).1 192
theorem arN_s (key : Nat → Int32) (d : Nat) : arN key (d + 1) = if (arN key d).2.2.2 d = 0 then ((arN key d).1 + 1, if (arS key (arN key d).2.2.2 d).1 ≤ (arN key d).2.1 then (arN key d).2.1 else (arS key (arN key d).2.2.2 d).1, if (arS key (arN key d).2.2.2 d).1 ≤ (arN key d).2.1 then (arN key d).2.2.1 else key d, (arS key (arN key d).2.2.2 d).2.2) else arN key d := rfl
theorem arN_ok (key : Nat → Int32) (n : Nat) : n ≤ 192 → (∀ d, d < 192 → (arN key n).2.2.2 d = 0 ∨ (arN key n).2.2.2 d = 1) ∧ (arN key n).2.1 ≤ 192 ∧ (arN key n).1 ≤ n := by
  induction n with
  | zero => intro _; exact ⟨fun _ _ => Or.inl rfl, Nat.zero_le _, Nat.le_refl _⟩
  | succ n ih =>
    intro h
    obtain ⟨i1, i2, i3⟩ := ih (by omega)
    have h1 := arS_ok (key := key) i1 (show n < 192 by omega)
    have h2 := h1.le
    have h3 := h1.2.1
    clear h1
    rw [arN_s]
    by_cases c : (arN key n).2.2.2 n = 0
    · rw [if_pos c]
      generalize arS key (arN key n).2.2.2 n = T at h2 h3 ⊢
      refine ⟨h3, ?_, Nat.succ_le_succ i3⟩
      show (if _ then _ else _) ≤ 192
      split
      · exact i2
      · exact h2
    · rw [if_neg c]; exact ⟨i1, i2, by omega⟩
/-- the class's areas -/
theorem e_arC {K N : Nat → Nat} {A : Nat → Nat → Int32} {P : Nat → Nat → Option Nat} {q : Nat} {key : Nat → Int32} (hC : ChSh K N P q) (hk : ∀ d, d < 192 → A (q + 2) d = key d) (hA : ∀ d, d < 192 → A (q + 1) d = 0) : ∃ s, fn_X9_areas_L58 K N P q FU 0 0 0 0 A = some (nI (arN key 192).1, nI (arN key 192).2.1, (arN key 192).2.2.1, s) ∧ ∀ a, ¬ (q ≤ a ∧ a < q + 4) → s a = A a := by
  obtain ⟨k0, k1, n1, k2, n2, k3, n3, p0, p1, p2⟩ := id hC
  obtain ⟨R, hR⟩ : ∃ R, R = arN key 192 := ⟨_, rfl⟩
  rw [← hR]
  have key2 := loop_ok (F := fun f d (z : Int32 × Int32 × Int32 × (Nat → Nat → Int32)) => fn_X9_areas_L58 K N P q f z.1 z.2.1 z.2.2.1 (nI d) z.2.2.2) 192 (fun d z => (z.1 = nI (arN key d).1 ∧ z.2.1 = nI (arN key d).2.1 ∧ z.2.2.1 = (arN key d).2.2.1) ∧ (∀ a, ¬ (q ≤ a ∧ a < q + 4) → z.2.2.2 a = A a) ∧ (∀ e, e < 192 → z.2.2.2 (q + 2) e = key e) ∧ ∀ e, e < 192 → z.2.2.2 (q + 1) e = (arN key d).2.2.2 e) (fun z => (z.1 = nI R.1 ∧ z.2.1 = nI R.2.1 ∧ z.2.2.1 = R.2.2.1) ∧ ∀ a, ¬ (q ≤ a ∧ a < q + 4) → z.2.2.2 a = A a)
    (fun f z hz => by
      simp only [fn_X9_areas_L58]
      rw [if_pos (show (192 : Int32) ≤ nI 192 from nI_le (a := 192) (Nat.le_refl _) (by omega))]
      rw [← hR] at hz
      exact ok_some.mpr ⟨hz.1, hz.2.1⟩)
    (fun f d z hd hz kk => by
      simp only [fn_X9_areas_L58]
      obtain ⟨⟨z1, z2, z3⟩, z4, z5, z6⟩ := hz
      obtain ⟨a1, a2, a3⟩ := arN_ok key d (by omega)
      have hn : arN key (d + 1) = if (arN key d).2.2.2 d = 0 then ((arN key d).1 + 1, if (arS key (arN key d).2.2.2 d).1 ≤ (arN key d).2.1 then (arN key d).2.1 else (arS key (arN key d).2.2.2 d).1, if (arS key (arN key d).2.2.2 d).1 ≤ (arN key d).2.1 then (arN key d).2.2.1 else key d, (arS key (arN key d).2.2.2 d).2.2) else arN key d := rfl
      rw [if_neg (show ¬ (192 : Int32) ≤ nI d from nI_ge (b := 192) hd (by omega)), p0, Option.bind_some, gd_pos ⟨k1, by rw [n1]; exact vp_192 hd⟩, nI_clamp (by omega), z6 d hd, nI_1]
      by_cases c : (arN key d).2.2.2 d = 0
      · rw [if_pos c] at hn ⊢
        obtain ⟨s', w1, w2⟩ := e_spread (A := z.2.2.2) (P := P) (st := d) (key := key) hC hd (ar_ok a1) z5 z6
        have w1 : fn_X3_spreadFrom K N z.2.2.2 P q (nI d) = some (nI (arS key (arN key d).2.2.2 d).1, s') := by rw [arS_eq]; exact w1
        have w2 : CS q z.2.2.2 (arS key (arN key d).2.2.2 d) s' := by rw [arS_eq]; exact w2
        have hle := (arS_ok (key := key) a1 hd).le
        generalize arS key (arN key d).2.2.2 d = T at hn w1 w2 hle
        have key5 : ∀ e, e < 192 → s' (q + 2) e = key e := fun e he => by rw [w2.1 _ (by omega) (by omega) (by omega)]; exact z5 e he
        have oo : ∀ a, ¬ (q ≤ a ∧ a < q + 4) → s' a = A a := fun a h => by rw [w2.1 a (by omega) (by omega) (by omega)]; exact z4 a h
        rw [w1, Option.bind_some]
        show ok (if nI T.1 ≤ z.2.1 then _ else _) _
        rw [z2]
        by_cases m : T.1 ≤ (arN key d).2.1
        · rw [if_pos ((le_nI (by omega) (by omega)).mpr m)]
          rw [if_pos m, if_pos m] at hn
          exact kk (z.1 + 1, nI (arN key d).2.1, z.2.2.1, s') ⟨⟨by rw [hn, z1, nI_1], by rw [hn], by rw [hn]; exact z3⟩, oo, key5, by rw [hn]; exact w2.2.2.2.1⟩
        · rw [if_neg (fun e => m ((le_nI (by omega) (by omega)).mp e)), p1, Option.bind_some, gd_pos ⟨k2, by rw [n2]; exact vp_192 hd⟩, Option.bind_some]
          rw [if_neg m, if_neg m] at hn
          exact kk (z.1 + 1, nI T.1, s' (q + 2) d, s') ⟨⟨by rw [hn, z1, nI_1], by rw [hn], by rw [hn]; exact key5 d hd⟩, oo, key5, by rw [hn]; exact w2.2.2.2.1⟩
      · rw [if_neg c] at hn ⊢
        exact kk z (by rw [hn]; exact ⟨⟨z1, z2, z3⟩, z4, z5, z6⟩))
    FU 0 (0, 0, 0, A) (Nat.zero_le _) (FU_lt (by omega)) ⟨⟨rfl, rfl, rfl⟩, fun _ _ => rfl, hk, hA⟩
  obtain ⟨⟨r1, r2, r3, s⟩, h1, ⟨h2, h3, h4⟩, h5⟩ := key2
  refine ⟨s, ?_, h5⟩
  rw [← h2, ← h3, ← h4]; exact h1
/-! the model's -/
def AS (m : Nat) (A : Nat → Nat → Int32) (key : Nat → Int32) (S : BS) (s : Nat → Nat → Int32) : Prop := (∀ a, a ≠ m + 6 → a ≠ m + 8 → s a = A a) ∧ (∀ d, d < 192 → s (m + 8) d = if S.2.2 d = 0 then key d else -1) ∧ ∀ i, i < S.1 → s (m + 6) i = nI (S.2.1 i)
theorem e_aIn {K N : Nat → Nat} {A s : Nat → Nat → Int32} {m iq d n0 : Nat} {k : Int32} {key : Nat → Int32} {P : Nat → Nat → Option Nat} {S : BS} (hM : ModSh K N P m) (hk : inR k 256) (hS : BOk n0 S) (hd : d < 192) (hiq : iq < S.1) (hdq : S.2.1 iq = d) (h : AS m A key S s) : ∃ s', fn_X10_area_L35 K N (m + 8) k (m + 6) (nI iq) FU (nI S.1) 0 s = some (nI (expP key k d S 4).1, s') ∧ AS m A key (expP key k d S 4) s' := by
  have k8 : K (m + 8) = 12 := hM.1.2.2.2.2.2.2.2.2.1
  have n8 : N (m + 8) = 192 := hM.2.1.2.2.2.2.2.2.2.1
  have k6 : K (m + 6) = 12 := hM.1.2.2.2.2.2.2.1
  have n6 : N (m + 6) = 192 := hM.2.1.2.2.2.2.2.1
  have hle := hS.le
  have hkm : ¬ (-1 : Int32) = k := fun e => m1_out (n := 256) (by decide) (e ▸ hk)
  have key2 := loop_ok (F := fun f j (z : Int32 × (Nat → Nat → Int32)) => fn_X10_area_L35 K N (m + 8) k (m + 6) (nI iq) f z.1 (nI j) z.2) 4 (fun j z => z.1 = nI (expP key k d S j).1 ∧ AS m A key (expP key k d S j) z.2) (fun z => z.1 = nI (expP key k d S 4).1 ∧ AS m A key (expP key k d S 4) z.2)
    (fun f z hz => by
      simp only [fn_X10_area_L35]
      rw [if_pos (show (4 : Int32) ≤ nI 4 from nI_le (a := 4) (Nat.le_refl _) (by omega))]
      exact ok_some.mpr hz)
    (fun f j z hj hz kk => by
      simp only [fn_X10_area_L35]
      obtain ⟨z1, z2, z3, z4⟩ := hz
      obtain ⟨E1, E2, E3⟩ := expP_ok (key := key) (k := k) hS hd j
      have hq : z.2 (m + 6) iq = nI d := by rw [z4 iq (by omega), E3 iq hiq, hdq]
      have he : expP key k d S (j + 1) = stepB key k (expP key k d S j) (nbr d j) := rfl
      obtain ⟨T, hT⟩ : ∃ T, T = expP key k d S j := ⟨_, rfl⟩
      rw [← hT] at z1 z3 z4 E1 E2 he
      have hTle := E1.le
      rw [if_neg (show ¬ (4 : Int32) ≤ nI j from nI_ge (b := 4) hj (by omega)), gd_pos ⟨k6, by rw [n6]; exact vp_192 (by omega)⟩, nI_clamp (by omega), hq, e_beside hd hj, Option.bind_some, nI_1]
      cases hn : nbr d j with
      | none =>
        have neg : (-1 : Int32) < 0 := by decide
        simp only [if_pos neg]
        exact kk z (by rw [he, hn]; exact ⟨z1, z2, z3, z4⟩)
      | some e =>
        have hel := nbr_lt hd hn
        have pos : ¬ nI e < 0 := nI_pos (by omega)
        simp only [if_neg pos]
        rw [gd_pos ⟨k8, by rw [n8]; exact vp_192 hel⟩, nI_clamp (by omega), z3 e hel]
        by_cases hv : T.2.2 e = 0
        · rw [if_pos hv]
          by_cases hk2 : key e = k
          · have hlt := E1.lt hel hv
            rw [if_pos hk2, Option.bind_some, z1, gd_pos ⟨k6, by rw [n6]; exact vp_192 hlt⟩, Option.bind_some, nI_clamp (by omega), nI_1]
            refine kk (nI (T.1 + 1), up2 (up2 z.2 (m + 8) e (-1)) (m + 6) T.1 (nI e)) ?_
            rw [he, hn, stepB_y hv hk2]
            refine ⟨rfl, fun a x y => by show up2 _ _ _ _ a = _; rw [up2_o x, up2_o y]; exact z2 a x y, fun d' hd' => ?_, fun i' hi' => ?_⟩
            · show up2 (up2 z.2 (m + 8) e (-1)) (m + 6) T.1 (nI e) (m + 8) d' = if up1 T.2.2 e 1 d' = 0 then key d' else -1
              rw [up2_o (by omega)]
              by_cases k : d' = e
              · rw [k, up1_s, up2_s, if_neg (by decide)]
              · rw [up1_k k, up2_k k]; exact z3 d' hd'
            · show up2 (up2 z.2 (m + 8) e (-1)) (m + 6) T.1 (nI e) (m + 6) i' = nI (if i' = T.1 then e else T.2.1 i')
              by_cases k : i' = T.1
              · rw [if_pos k, k, up2_s]
              · have hi' : i' < T.1 + 1 := hi'
                rw [if_neg k, up2_k k, up2_o (by omega)]; exact z4 i' (by omega)
          · rw [if_neg hk2]
            exact kk z (by rw [he, hn, stepB_w hk2]; exact ⟨z1, z2, z3, z4⟩)
        · rw [if_neg hv, if_neg hkm]
          exact kk z (by rw [he, hn, stepB_z hv]; exact ⟨z1, z2, z3, z4⟩))
    FU 0 (nI S.1, s) (Nat.zero_le _) (FU_lt (by omega)) ⟨rfl, h⟩
  obtain ⟨⟨r, s'⟩, h1, h2, h3⟩ := key2
  refine ⟨s', ?_, h3⟩
  rw [← h2]; exact h1
theorem e_area {K N : Nat → Nat} {I : Nat → Nat → Int32} {P : Nat → Nat → Option Nat} {m st : Nat} {V key : Nat → Int32} (hM : ModSh K N P m) (hs : st < 192) (hV : ∀ d, d < 192 → V d = 0 ∨ V d = 1) (hz : V st = 0) (hk : inR (key st) 256) (hi : ∀ d, d < 192 → I (m + 8) d = if V d = 0 then key d else -1) : ∃ I', fn_X10_area K N I P m (nI st) = some (nI (arS key V st).1, I') ∧ (∀ a, a ≠ m + 6 → a ≠ m + 8 → I' a = I a) ∧ ∀ d, d < 192 → I' (m + 8) d = if (arS key V st).2.2 d = 0 then key d else -1 := by
  have k8 : K (m + 8) = 12 := hM.1.2.2.2.2.2.2.2.2.1
  have n8 : N (m + 8) = 192 := hM.2.1.2.2.2.2.2.2.2.1
  have p8 : P m 19 = some (m + 8) := hM.2.2.2.2.2.2.2.2.2.1
  have k6 : K (m + 6) = 12 := hM.1.2.2.2.2.2.2.1
  have n6 : N (m + 6) = 192 := hM.2.1.2.2.2.2.2.1
  have p6 : P m 17 = some (m + 6) := hM.2.2.2.2.2.2.2.1
  obtain ⟨B, hB⟩ : ∃ B, B = up2 (up2 I (m + 6) 0 (nI st)) (m + 8) st (-1) := ⟨_, rfl⟩
  obtain ⟨S1, hS1⟩ : ∃ S1, S1 = stepB key (key st) (0, fun _ => 0, V) (some st) := ⟨_, rfl⟩
  have hS1' : S1 = (1, (fun i => if i = 0 then st else 0), up1 V st 1) := by rw [hS1, stepB_y hz rfl]
  have hok1 : BOk (cnt1 V 192) S1 := by rw [hS1]; exact ((ar_ok hV).step (fun x hx => by injection hx with hx; omega)).1
  have hB1 : AS m I key S1 B := by
    rw [hS1']
    refine ⟨fun a x y => by rw [hB, up2_o y, up2_o x], fun d hd => ?_, fun i' hi' => ?_⟩
    · show B (m + 8) d = if up1 V st 1 d = 0 then key d else -1
      rw [hB]
      by_cases k : d = st
      · rw [k, up1_s, up2_s, if_neg (by decide)]
      · rw [up1_k k, up2_k k, up2_o (by omega)]; exact hi d hd
    · have hi' : i' < 1 := hi'
      have : i' = 0 := by omega
      subst this
      rw [hB, up2_o (by omega), up2_s]; rfl
  obtain ⟨T, hT⟩ : ∃ T, T = bfsN key (key st) S1 192 := ⟨_, rfl⟩
  have key2 := while_ok (F := fun f iq (z : Int32 × (Nat → Nat → Int32)) => fn_X10_area_L26 K N (m + 8) (key st) (m + 6) f z.1 (nI iq) z.2) 192 (fun iq z => iq ≤ 192 ∧ z.1 = nI (bfsN key (key st) S1 iq).1 ∧ AS m I key (bfsN key (key st) S1 iq) z.2) (fun r => r.1 = nI T.1 ∧ AS m I key T r.2)
    (fun f iq z hz kk => by
      simp only [fn_X10_area_L26]
      obtain ⟨hiq, z1, z2⟩ := hz
      have hok := bfsN_ok (key := key) (k := key st) hok1 iq
      have hle := hok.le
      rw [z1]
      by_cases c : (bfsN key (key st) S1 iq).1 ≤ iq
      · rw [if_pos (nI_le c (by omega))]
        exact ok_some.mpr (by rw [hT, bfs_end (n0 := cnt1 V 192) c hiq]; exact ⟨rfl, z2⟩)
      · have hlt : iq < (bfsN key (key st) S1 iq).1 := by omega
        have hd := hok.2.2 iq hlt
        have hn : bfsN key (key st) S1 (iq + 1) = expP key (key st) ((bfsN key (key st) S1 iq).2.1 iq) (bfsN key (key st) S1 iq) 4 := by rw [bfsN, if_neg c]
        obtain ⟨s', v1, v2⟩ := e_aIn (P := P) hM hk hok hd hlt rfl z2
        rw [if_neg (nI_ge hlt (by omega)), v1, Option.bind_some, nI_1]
        exact kk (_, s') (by omega) ⟨by omega, by rw [hn], by rw [hn]; exact v2⟩)
    FU 0 (1, B) (Nat.zero_le _) (FU_lt (by omega)) ⟨Nat.zero_le _, by show (1 : Int32) = nI S1.1; rw [hS1']; rfl, hB1⟩
  obtain ⟨⟨r, C⟩, c1, c2, c3⟩ := key2
  have c1 : fn_X10_area_L26 K N (m + 8) (key st) (m + 6) FU 1 0 B = some (r, C) := c1
  have c2 : r = nI T.1 := c2
  have e : arS key V st = T := by rw [arS_eq, ← hS1, ← hT]
  rw [e]
  refine ⟨C, ?_, fun a x y => c3.1 a x y, c3.2.1⟩
  unfold fn_X10_area
  rw [gd_pos hM.1.1, p8, Option.bind_some, gd_pos ⟨k8, by rw [n8]; exact vp_192 hs⟩, Option.bind_some, p6, Option.bind_some, gd_pos (show K (m + 6) = 12 ∧ vp_in (0 : Int32) (N (m + 6)) from ⟨k6, by rw [n6]; exact vp_192 (d := 0) (by omega)⟩), Option.bind_some, nI_clamp (by omega), Option.bind_some, ← hB, hi st hs, if_pos hz, c1, Option.bind_some, c2]
