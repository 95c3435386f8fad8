/-! what sprays by draws -/
def un (s : Int32) : Nat := (s.toUInt32 >>> ((9 : Int32).toUInt32 &&& Int32.toUInt32 31)).toNat
theorem ius_un (s : Int32) : ius s 9 = nI (un s) ∧ un s < 2 ^ 31 := by
  constructor
  · unfold ius un
    apply Int32.toBitVec_inj.mp
    show (s.toUInt32 >>> ((9 : Int32).toUInt32 &&& Int32.toUInt32 31)).toBitVec = BitVec.ofNat 32 (s.toUInt32 >>> ((9 : Int32).toUInt32 &&& Int32.toUInt32 31)).toNat
    rw [← UInt32.toNat_toBitVec, BitVec.ofNat_toNat, BitVec.setWidth_eq]
  · unfold un
    rw [UInt32.toNat_shiftRight]
    have h1 : ((9 : Int32).toUInt32 &&& Int32.toUInt32 31).toNat % 32 = 9 := by decide
    have h2 := s.toUInt32.toNat_lt
    rw [h1, Nat.shiftRight_eq_div_pow]
    omega
def lcg (s : Int32) : Int32 := s * (1103515245 : Int32) + (12345 : Int32)
def rx (s : Int32) : Nat := un s % 16
def ry (s : Int32) : Nat := un s % 12
theorem e_rx (s : Int32) : ius s 9 - ius s 9 / (16 : Int32) * (16 : Int32) = nI (rx s) := by
  rw [(ius_un s).1]; exact m16 (ius_un s).2
theorem m12 {v : Nat} (h : v < 2 ^ 31) : nI v - nI v / (12 : Int32) * (12 : Int32) = nI (v % 12) := by
  have e := t_div (x := nI v) (y := 12) 12 rfl (by decide)
  rw [nI_toInt h, (t_td 12 (by decide)).1 (by omega)] at e
  have d12 : nI v / (12 : Int32) = nI (v / 12) := by
    rw [← Int32.toInt_inj, e, nI_toInt (by omega)]; omega
  rw [d12, show (12 : Int32) = nI 12 from rfl, pk_mul, pk_sub (by omega)]
  congr 1; omega
theorem e_ry (s : Int32) : ius s 9 - ius s 9 / (12 : Int32) * (12 : Int32) = nI (ry s) := by
  rw [(ius_un s).1]; exact m12 (ius_un s).2
theorem rx_lt (s : Int32) : rx s < 16 := Nat.mod_lt _ (by decide)
theorem ry_lt (s : Int32) : ry s < 12 := Nat.mod_lt _ (by decide)
abbrev SP : Type := Int32 × (Nat → Int32) × (Nat → Int32)
def sprN (mk : Nat → Int32) (bi : Int32) (cv : Nat → Nat → Nat → Int32) (s0 : SP) : Nat → SP
  | 0 => s0
  | n + 1 => (lcg (lcg (sprN mk bi cv s0 n).1), stpI mk (cv (rx (lcg (sprN mk bi cv s0 n).1)) (ry (lcg (lcg (sprN mk bi cv s0 n).1)))) bi (sprN mk bi cv s0 n).2.1 (sprN mk bi cv s0 n).2.2, stpO mk (cv (rx (lcg (sprN mk bi cv s0 n).1)) (ry (lcg (lcg (sprN mk bi cv s0 n).1)))) bi (sprN mk bi cv s0 n).2.2)
theorem sprN_s (mk : Nat → Int32) (bi : Int32) (cv : Nat → Nat → Nat → Int32) (s0 : SP) (n : Nat) : sprN mk bi cv s0 (n + 1) = (lcg (lcg (sprN mk bi cv s0 n).1), stpI mk (cv (rx (lcg (sprN mk bi cv s0 n).1)) (ry (lcg (lcg (sprN mk bi cv s0 n).1)))) bi (sprN mk bi cv s0 n).2.1 (sprN mk bi cv s0 n).2.2, stpO mk (cv (rx (lcg (sprN mk bi cv s0 n).1)) (ry (lcg (lcg (sprN mk bi cv s0 n).1)))) bi (sprN mk bi cv s0 n).2.2) := rfl
theorem sprN_in {mk : Nat → Int32} {bi : Int32} {cv : Nat → Nat → Nat → Int32} {s0 : SP} (hb : bi = -1 ∨ inR bi 256) (hc : ∀ x y, x < 16 → y < 12 → ∀ d, d < 192 → inR (cv x y d) 256) (h : ∀ d, d < 192 → DotI (s0.2.1 d) (s0.2.2 d)) (n : Nat) : ∀ d, d < 192 → DotI ((sprN mk bi cv s0 n).2.1 d) ((sprN mk bi cv s0 n).2.2 d) := by
  induction n with
  | zero => exact h
  | succ n ih =>
    rw [sprN_s]
    exact stp_in hb (hc _ _ (rx_lt _) (ry_lt _)) ih
theorem e_sprayC {K N : Nat → Nat} {A s : Nat → Nat → Int32} {P : Nat → Nat → Option Nat} {c q r n : Nat} {mk : Nat → Int32} {cv : Nat → Nat → Nat → Int32} {s0 : SP} (hP : PicSh K N P c) (hL : LaySh K N P q) (hcq : c + 5 < q) (hr : r < 5) (hn : n < 2000) (hb : A (c + 4) 2 = -1 ∨ inR (A (c + 4) 2) 256) (hA1 : A (c + 4) 1 = nI r) (hm1 : A (c + 2) 1 = nI (cnt1 mk 192)) (hm2 : ∀ d, d < 192 → A (c + 3) d = mk d) (hcov : ∀ x y, x < 16 → y < 12 → ∀ z : Nat → Nat → Int32, (∀ a, a ≠ q + 1 → a ≠ q + 2 → z a = A a) → ∀ d, d < 192 → fn_X2_coverAt K N z P (c + 4) (nI (d % 16) - nI x) (nI (d / 16) - nI y) = some (cv x y d)) (hc : ∀ x y, x < 16 → y < 12 → ∀ d, d < 192 → inR (cv x y d) 256 ∧ ((d % 16 + r < x ∨ x + r < d % 16 ∨ d / 16 + r < y ∨ y + r < d / 16) → cv x y d = 0)) (hdi : ∀ d, d < 192 → DotI (s0.2.1 d) (s0.2.2 d)) (h : LyD A s q s0.2.1 s0.2.2) : ∃ s', fn_X9_sprayThought_L22 K N (nI n) P q c FU s0.1 0 s = some s' ∧ LyD A s' q (sprN mk (A (c + 4) 2) cv s0 n).2.1 (sprN mk (A (c + 4) 2) cv s0 n).2.2 := by
  have key := loop_ok (F := fun f v (z : Int32 × (Nat → Nat → Int32)) => fn_X9_sprayThought_L22 K N (nI n) P q c f z.1 (nI v) z.2) n (fun v z => z.1 = (sprN mk (A (c + 4) 2) cv s0 v).1 ∧ LyD A z.2 q (sprN mk (A (c + 4) 2) cv s0 v).2.1 (sprN mk (A (c + 4) 2) cv s0 v).2.2) (fun z => LyD A z q (sprN mk (A (c + 4) 2) cv s0 n).2.1 (sprN mk (A (c + 4) 2) cv s0 n).2.2)
    (fun f z hz => by
      simp only [fn_X9_sprayThought_L22]
      rw [if_pos (nI_le (Nat.le_refl _) (by omega))]
      exact ok_some.mpr hz.2)
    (fun f v z hv hz kk => by
      simp only [fn_X9_sprayThought_L22]
      obtain ⟨z1, z2⟩ := hz
      have hdv := sprN_in (mk := mk) hb (fun x y hx hy d hd => (hc x y hx hy d hd).1) hdi v
      obtain ⟨s', w1, w2⟩ := e_stampC (mk := mk) (cov := cv (rx (lcg z.1)) (ry (lcg (lcg z.1)))) hP hL hcq (rx_lt (lcg z.1)) (ry_lt (lcg (lcg z.1))) hr hA1 hm1 hm2 (hcov _ _ (rx_lt _) (ry_lt _)) (fun d hd => (hc _ _ (rx_lt _) (ry_lt _) d hd).2) hdv z2
      rw [if_neg (nI_ge hv (by omega)), show fn_X9_drawnAfter z.1 = some (lcg z.1) from rfl, Option.bind_some, e_rx, Option.bind_some, show fn_X9_drawnAfter (lcg z.1) = some (lcg (lcg z.1)) from rfl, Option.bind_some, e_ry, Option.bind_some, w1, Option.bind_some, nI_1]
      refine kk (lcg (lcg z.1), s') ?_
      rw [sprN_s, ← z1]
      exact ⟨rfl, w2⟩)
    FU 0 (s0.1, s) (Nat.zero_le _) (FU_lt (by omega)) ⟨rfl, h⟩
  obtain ⟨s', h1, h2⟩ := key
  exact ⟨s', h1, h2⟩
theorem e_sprayM {K N : Nat → Nat} {B s : Nat → Nat → Int32} {P : Nat → Nat → Option Nat} {m l n : Nat} {mk : Nat → Int32} {cv : Nat → Nat → Nat → Int32} {s0 : SP} (hM : ModSh K N P m) (hl : l < 4) (hn : n < 2000) (hm1 : B m 3 = if cnt1 mk 192 = 0 then 1 else 0) (hm2 : ∀ d, d < 192 → B (m + 1) (1556 + d) = mk d ∧ (mk d = 0 ∨ mk d = 1)) (hcov : ∀ x y, x < 16 → y < 12 → ∀ z : Nat → Nat → Int32, z (m + 1) 2 = B (m + 1) 2 → z (m + 1) 3 = B (m + 1) 3 → z (m + 1) 5 = B (m + 1) 5 → ∀ d, d < 192 → fn_X10_touched K N z P m (nI (d % 16) - nI x) (nI (d / 16) - nI y) = some (cv x y d)) (h : GrD B s m l s0.2.1 s0.2.2) : ∃ s', fn_X10_sprays_L11 K N m (nI l) (nI n) P FU s0.1 0 s = some s' ∧ GrD B s' m l (sprN mk (B (m + 1) 4) cv s0 n).2.1 (sprN mk (B (m + 1) 4) cv s0 n).2.2 := by
  have key := loop_ok (F := fun f v (z : Int32 × (Nat → Nat → Int32)) => fn_X10_sprays_L11 K N m (nI l) (nI n) P f z.1 (nI v) z.2) n (fun v z => z.1 = (sprN mk (B (m + 1) 4) cv s0 v).1 ∧ GrD B z.2 m l (sprN mk (B (m + 1) 4) cv s0 v).2.1 (sprN mk (B (m + 1) 4) cv s0 v).2.2) (fun z => GrD B z m l (sprN mk (B (m + 1) 4) cv s0 n).2.1 (sprN mk (B (m + 1) 4) cv s0 n).2.2)
    (fun f z hz => by
      simp only [fn_X10_sprays_L11]
      rw [if_pos (nI_le (Nat.le_refl _) (by omega))]
      exact ok_some.mpr hz.2)
    (fun f v z hv hz kk => by
      simp only [fn_X10_sprays_L11]
      obtain ⟨z1, z2⟩ := hz
      obtain ⟨s', w1, w2⟩ := e_stampM (mk := mk) (cov := cv (rx (lcg z.1)) (ry (lcg (lcg z.1)))) hM hl hm1 hm2 (hcov _ _ (rx_lt (lcg z.1)) (ry_lt (lcg (lcg z.1)))) z2
      rw [if_neg (nI_ge hv (by omega)), show z.1 * (1103515245 : Int32) + (12345 : Int32) = lcg z.1 from rfl, Option.bind_some, e_rx, Option.bind_some, show lcg z.1 * (1103515245 : Int32) + (12345 : Int32) = lcg (lcg z.1) from rfl, Option.bind_some, e_ry, w1, Option.bind_some, nI_1]
      refine kk (lcg (lcg z.1), s') ?_
      rw [sprN_s, ← z1]
      exact ⟨rfl, w2⟩)
    FU 0 (s0.1, s) (Nat.zero_le _) (FU_lt (by omega)) ⟨rfl, h⟩
  obtain ⟨s', h1, h2⟩ := key
  exact ⟨s', h1, h2⟩
/-- the layer's dots come back -/
theorem e_comesBack {K N : Nat → Nat} {B s : Nat → Nat → Int32} {P : Nat → Nat → Option Nat} {m l : Nat} {i o i0 o0 : Nat → Int32} (hM : ModSh K N P m) (hl : l < 4) (hb : ∀ d, d < 192 → B (m + 4) d = i0 d ∧ B (m + 4) (192 + d) = o0 d) (hg : ∀ d, d < 192 → B (m + 1) (20 + 192 * l + d) = i0 d ∧ B (m + 1) (788 + 192 * l + d) = o0 d) (h : GrD B s m l i o) : fn_X10_comesBack K N s P m (nI l) = some B := by
  have k4 : K (m + 4) = 12 := hM.1.2.2.2.2.1
  have n4 : N (m + 4) = 384 := hM.2.1.2.2.2.1
  have p4 : P m 15 = some (m + 4) := hM.2.2.2.2.2.1
  have g4 : ∀ j, j < 384 → (K (m + 4) = 12 ∧ vp_in (nI j) (N (m + 4))) := fun j hj => ⟨k4, by rw [n4]; exact vp_in_nI hj (by decide)⟩
  have key := loop_ok (F := fun f v z => fn_X10_comesBack_L2 K N m (nI l) P f (nI v) z) 192 (fun v z => (∀ a, a ≠ m + 1 → z a = B a) ∧ (∀ j, ¬ (20 + 192 * l ≤ j ∧ j < 20 + 192 * l + 192) → ¬ (788 + 192 * l ≤ j ∧ j < 788 + 192 * l + 192) → z (m + 1) j = B (m + 1) j) ∧ ∀ d, d < v → z (m + 1) (20 + 192 * l + d) = i0 d ∧ z (m + 1) (788 + 192 * l + d) = o0 d) (fun z => z = B)
    (fun f z hz => by
      simp only [fn_X10_comesBack_L2]
      rw [if_pos (show (192 : Int32) ≤ nI 192 from nI_le (a := 192) (Nat.le_refl _) (by omega))]
      refine ok_some.mpr ?_
      obtain ⟨z1, z2, z3⟩ := hz
      funext a
      by_cases k : a = m + 1
      · subst k
        funext j
        by_cases c1 : 20 + 192 * l ≤ j ∧ j < 20 + 192 * l + 192
        · have e1 := (z3 (j - (20 + 192 * l)) (by omega)).1
          have e2 := (hg (j - (20 + 192 * l)) (by omega)).1
          rw [show 20 + 192 * l + (j - (20 + 192 * l)) = j by omega] at e1 e2
          rw [e1, e2]
        · by_cases c2 : 788 + 192 * l ≤ j ∧ j < 788 + 192 * l + 192
          · have e1 := (z3 (j - (788 + 192 * l)) (by omega)).2
            have e2 := (hg (j - (788 + 192 * l)) (by omega)).2
            rw [show 788 + 192 * l + (j - (788 + 192 * l)) = j by omega] at e1 e2
            rw [e1, e2]
          · exact z2 j c1 c2
      · exact z1 a k)
    (fun f v z hv hz kk => by
      simp only [fn_X10_comesBack_L2]
      obtain ⟨z1, z2, z3⟩ := hz
      rw [if_neg (show ¬ (192 : Int32) ≤ nI v from nI_ge (b := 192) hv (by omega)), gd_pos hM.1.1, hM.2.2.1, Option.bind_some, p4, Option.bind_some, show (20 : Int32) + (192 : Int32) * nI l + nI v = nI (20 + 192 * l + v) from e_sd 20 l v, show (788 : Int32) + (192 : Int32) * nI l + nI v = nI (788 + 192 * l + v) from e_sd 788 l v, show (192 : Int32) + nI v = nI (192 + v) from nI_add 192 v, gd_pos (g4 v (by omega)), gd_pos (vp_g hM (by omega)), Option.bind_some, gd_pos (g4 (192 + v) (by omega)), gd_pos (vp_g hM (by omega)), Option.bind_some, nI_clamp (by omega), nI_clamp (by omega), nI_clamp (by omega), nI_clamp (by omega), nI_1 v, up2_o (show m + 4 ≠ m + 1 by omega), z1 (m + 4) (by omega), (hb v hv).1, (hb v hv).2]
      refine kk _ ⟨fun a ha => by rw [up2_o ha, up2_o ha]; exact z1 a ha, fun j h1 h2 => by rw [up2_k (by omega), up2_k (by omega)]; exact z2 j h1 h2, fun d hd => ?_⟩
      by_cases k : d = v
      · subst k
        exact ⟨by rw [up2_k (by omega), up2_s], by rw [up2_s]⟩
      · exact ⟨by rw [up2_k (by omega), up2_k (by omega)]; exact (z3 d (by omega)).1, by rw [up2_k (by omega), up2_k (by omega)]; exact (z3 d (by omega)).2⟩)
    FU 0 s (Nat.zero_le _) (FU_lt (by omega)) ⟨h.1, h.2.1, fun d hd => absurd hd (by omega)⟩
  obtain ⟨z, h1, h2⟩ := key
  have h1 : fn_X10_comesBack_L2 K N m (nI l) P FU 0 s = some z := h1
  unfold fn_X10_comesBack
  rw [h1, Option.bind_some, h2]
