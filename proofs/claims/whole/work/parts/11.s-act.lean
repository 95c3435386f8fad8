/-! an act of the class: begun, ended -/
def tl (d : Nat) : Int32 := ((nI d / (16 : Int32)) / (4 : Int32)) * (4 : Int32) + (nI d - nI d / (16 : Int32) * (16 : Int32)) / (4 : Int32)
def tbit (d : Nat) : Int32 := (1 : Int32) <<< (tl d &&& 31)
theorem e_tileBit (d : Nat) : fn_X0_tileBit (nI d) = some (tbit d) := rfl
theorem e_tileOf (d : Nat) : fn_X10_tileOf (nI d) = some (tl d) := rfl
theorem tbit_tab : ∀ d, d < 192 → 0 ≤ (tbit d).toInt ∧ (tbit d).toInt < 4096 := by decide +kernel
theorem tbit_in {d : Nat} (h : d < 192) : inR (tbit d) 4096 := (inR_iff (by decide)).mpr (tbit_tab d h)
theorem or_in {a b : Int32} (ha : inR a 4096) (hb : inR b 4096) : inR (a ||| b) 4096 := by
  obtain ⟨x, hx, rfl⟩ := ha
  obtain ⟨y, hy, rfl⟩ := hb
  refine ⟨x ||| y, Nat.or_lt_two_pow (n := 12) hx hy, ?_⟩
  apply Int32.toBitVec_inj.mp
  show BitVec.ofNat 32 x ||| BitVec.ofNat 32 y = BitVec.ofNat 32 (x ||| y)
  exact (BitVec.ofNat_or (w := 32) (x := x) (y := y)).symm
/-- the tiles of the dots that differ -/
def tb (i0 o0 i1 o1 : Nat → Int32) : Nat → Int32
  | 0 => 0
  | n + 1 => if i0 n = i1 n ∧ o0 n = o1 n then tb i0 o0 i1 o1 n else tb i0 o0 i1 o1 n ||| tbit n
theorem tb_s (i0 o0 i1 o1 : Nat → Int32) (n : Nat) : tb i0 o0 i1 o1 (n + 1) = if i0 n = i1 n ∧ o0 n = o1 n then tb i0 o0 i1 o1 n else tb i0 o0 i1 o1 n ||| tbit n := rfl
theorem tb_in (i0 o0 i1 o1 : Nat → Int32) : ∀ n, n ≤ 192 → inR (tb i0 o0 i1 o1 n) 4096
  | 0, _ => ⟨0, by decide, rfl⟩
  | n + 1, h => by
    unfold tb
    split
    · exact tb_in i0 o0 i1 o1 n (by omega)
    · exact or_in (tb_in i0 o0 i1 o1 n (by omega)) (tbit_in (by omega))
theorem tb_cong {i0 o0 i1 o1 i0' o0' i1' o1' : Nat → Int32} : ∀ n, (∀ d, d < n → i0 d = i0' d ∧ o0 d = o0' d ∧ i1 d = i1' d ∧ o1 d = o1' d) → tb i0 o0 i1 o1 n = tb i0' o0' i1' o1' n
  | 0, _ => rfl
  | n + 1, h => by
    obtain ⟨h1, h2, h3, h4⟩ := h n (by omega)
    unfold tb
    rw [tb_cong n (fun d hd => h d (by omega)), h1, h2, h3, h4]
theorem e_findTiles {K N : Nat → Nat} {J : Nat → Nat → Int32} {P : Nat → Nat → Option Nat} {a q : Nat} (hA : ActSh K N P a) (hL : LaySh K N P q) (hd : a + 2 < q ∨ q + 2 < a) : ∃ J', fn_X0_findTiles K N J P a q = some J' ∧ (∀ x, x ≠ a → J' x = J x) ∧ ∀ j, J' a j = if j = 1 then tb (J (a + 1)) (J (a + 2)) (J (q + 1)) (J (q + 2)) 192 else J a j := by
  obtain ⟨k0, k1, n1, k2, n2, p2, p3⟩ := hA
  obtain ⟨l0, l1, m1, l2, m2, r0, r1⟩ := hL
  have key := loop_ok (F := fun f n s => fn_X0_findTiles_L7 K N a q P f (nI n) s) 192 (fun n s => (∀ x, x ≠ a → s x = J x) ∧ ∀ j, s a j = if j = 1 then tb (J (a + 1)) (J (a + 2)) (J (q + 1)) (J (q + 2)) n else J a j) (fun s => (∀ x, x ≠ a → s x = J x) ∧ ∀ j, s a j = if j = 1 then tb (J (a + 1)) (J (a + 2)) (J (q + 1)) (J (q + 2)) 192 else J a j)
    (fun f s hs => by
      simp only [fn_X0_findTiles_L7]
      rw [if_pos (show (192 : Int32) ≤ nI 192 from nI_le (a := 192) (Nat.le_refl _) (by omega))]
      exact ok_some.mpr hs)
    (fun f n s hn hs kk => by
      simp only [fn_X0_findTiles_L7]
      obtain ⟨s1, s2⟩ := hs
      have same : (J (a + 1) n = J (q + 1) n ∧ J (a + 2) n = J (q + 2) n) → ok (fn_X0_findTiles_L7 K N a q P f (nI (n + 1)) s) (fun s => (∀ x, x ≠ a → s x = J x) ∧ ∀ j, s a j = if j = 1 then tb (J (a + 1)) (J (a + 2)) (J (q + 1)) (J (q + 2)) 192 else J a j) := fun h => kk _ ⟨s1, fun j => by rw [s2, tb_s, if_pos h]⟩
      have diff : ¬ (J (a + 1) n = J (q + 1) n ∧ J (a + 2) n = J (q + 2) n) → ok (fn_X0_findTiles_L7 K N a q P f (nI (n + 1)) (up2 s a 1 (s a 1 ||| tbit n))) (fun s => (∀ x, x ≠ a → s x = J x) ∧ ∀ j, s a j = if j = 1 then tb (J (a + 1)) (J (a + 2)) (J (q + 1)) (J (q + 2)) 192 else J a j) := fun h => kk _ ⟨fun x hx => by rw [up2_o hx]; exact s1 x hx, fun j => by
        by_cases hj : j = 1
        · subst hj; rw [up2_s, s2, if_pos rfl, if_pos rfl]
          show _ = (if J (a + 1) n = J (q + 1) n ∧ J (a + 2) n = J (q + 2) n then _ else _)
          rw [if_neg h]
        · rw [up2_k hj, s2, if_neg hj, if_neg hj]⟩
      rw [if_neg (show ¬ (192 : Int32) ≤ nI n from nI_ge (b := 192) hn (by omega)), p2, Option.bind_some, gd_pos ⟨k1, by rw [n1]; exact vp_192 hn⟩, gd_pos l0, r0, Option.bind_some, gd_pos ⟨l1, by rw [m1]; exact vp_192 hn⟩, nI_clamp (by omega), s1 (a + 1) (by omega), s1 (q + 1) (by omega), nI_1 n]
      by_cases h1 : J (a + 1) n = J (q + 1) n
      · rw [if_pos h1, p3, Option.bind_some, gd_pos ⟨k2, by rw [n2]; exact vp_192 hn⟩, r1, Option.bind_some, gd_pos ⟨l2, by rw [m2]; exact vp_192 hn⟩, s1 (a + 2) (by omega), s1 (q + 2) (by omega)]
        by_cases h2 : J (a + 2) n = J (q + 2) n
        · rw [if_pos h2]; exact same ⟨h1, h2⟩
        · rw [if_neg h2, e_tileBit, Option.bind_some, Option.bind_some]; exact diff (fun e => h2 e.2)
      · rw [if_neg h1, e_tileBit, Option.bind_some, Option.bind_some]; exact diff (fun e => h1 e.1))
    FU 0 (up2 J a 1 0) (Nat.zero_le _) (FU_lt (by omega)) ⟨fun x hx => up2_o hx, fun j => by simp [up2, tb]⟩
  obtain ⟨J', h1, h2⟩ := key
  have h1 : fn_X0_findTiles_L7 K N a q P FU 0 (up2 J a 1 0) = some J' := h1
  refine ⟨J', ?_, h2⟩
  unfold fn_X0_findTiles
  rw [gd_pos k0, Option.bind_some, h1, Option.bind_some]
theorem e_begin {K N : Nat → Nat} {I : Nat → Nat → Int32} {P : Nat → Nat → Option Nat} {c a q : Nat} (x : Int32) (hP : PicSh K N P c) (hA : ActSh K N P a) (hL : LaySh K N P q) (hd : a + 2 < q ∨ q + 2 < a) (ha : P (c + 6) 10 = some a) : ∃ A, fn_X1_begin K N I P (c + 5) x q = some A ∧ (∀ y, ¬ (a ≤ y ∧ y < a + 3) → A y = I y) ∧ A a 0 = x ∧ ∀ d, d < 192 → A (a + 1) d = I (q + 1) d ∧ A (a + 2) d = I (q + 2) d := by
  obtain ⟨k0, k1, n1, k2, n2, p2, p3⟩ := hA
  obtain ⟨l0, l1, m1, l2, m2, r0, r1⟩ := hL
  obtain ⟨⟨-, -, -, -, -, -, -, k5, k14, n11⟩, ⟨-, -, -, -, -, p50⟩, -, -⟩ := hP
  obtain ⟨Z, hZ⟩ : ∃ Z, Z = up2 I a 0 x := ⟨_, rfl⟩
  obtain ⟨A, hA⟩ : ∃ A, A = cp2 Z (q + 1) 0 (a + 1) 0 192 := ⟨_, rfl⟩
  obtain ⟨B, hB⟩ : ∃ B, B = cp2 A (q + 2) 0 (a + 2) 0 192 := ⟨_, rfl⟩
  have oZ : ∀ y, y ≠ a → Z y = I y := fun y h => by rw [hZ, up2_o h]
  have oA : ∀ y, y ≠ a + 1 → A y = Z y := fun y h => by rw [hA]; exact cp2_ne Z _ _ _ _ h
  have oB : ∀ y, y ≠ a + 2 → B y = A y := fun y h => by rw [hB]; exact cp2_ne A _ _ _ _ h
  refine ⟨B, ?_, fun y h => by rw [oB y (by omega), oA y (by omega), oZ y (by omega)], ?_, fun d hd2 => ⟨?_, ?_⟩⟩
  · unfold fn_X1_begin
    rw [gd_pos k5, p50, Option.bind_some, gd_pos (show K (c + 6) = 14 ∧ vp_in (10 : Int32) (N (c + 6)) from ⟨k14, by rw [n11]; exact vp_in_nI (n := 10) (by decide) (by decide)⟩), ha, Option.bind_some]
    unfold fn_X0_note
    rw [gd_pos k0, Option.bind_some, ← hZ, gd_pos l0, r0, Option.bind_some, p2, Option.bind_some, gd_pos (cpg_all l1 m1 k1 n1), Option.bind_some, ← hA, r1, Option.bind_some, p3, Option.bind_some, gd_pos (cpg_all l2 m2 k2 n2), Option.bind_some, ← hB, Option.bind_some, gd_pos k0]
  · rw [oB _ (by omega), oA _ (by omega), hZ, up2_s]
  · rw [oB _ (by omega), hA, cp_all hd2, oZ _ (by omega)]
  · rw [hB, cp_all hd2, oA _ (by omega), oZ _ (by omega)]
/-! the row of acts after an act -/
def trA (k i : Nat) : Nat := if i = k then 10 else if i = 10 then k else i
def rotA (i : Nat) : Nat := if i < 9 then i + 1 else if i = 9 then 0 else i
def aft (kp i : Nat) : Nat := if kp < 10 then trA kp i else rotA (trA 9 i)
theorem aft_perm (kp : Nat) (h : kp ≤ 10) : Perm 11 (aft kp) := by
  have key : ∀ kp, kp < 11 → ((∀ i, i < 11 → aft kp i < 11) ∧ ∀ i, i < 11 → ∀ j, j < 11 → aft kp i = aft kp j → i = j) := by decide +kernel
  exact ⟨(key kp (by omega)).1, fun i j hi hj => (key kp (by omega)).2 i hi j hj⟩
theorem e_dropOldest {K N : Nat → Nat} {I : Nat → Nat → Int32} {P : Nat → Nat → Option Nat} {c : Nat} {τ : Nat → Nat} (hP : PicSh K N P c) (hτ : Perm 11 τ) (ht : ∀ i, i < 11 → P (c + 6) i = some (c + 7 + 3 * τ i)) : ∃ P', fn_X1_dropOldest K N I P (c + 5) = some (up2 I (c + 5) 1 9, P') ∧ (∀ x, x ≠ c + 6 → P' x = P x) ∧ ∀ i, i < 11 → P' (c + 6) i = some (c + 7 + 3 * τ (rotA i)) := by
  obtain ⟨⟨-, -, -, -, -, -, -, k5, k14, n11⟩, ⟨-, -, -, -, -, p50⟩, hsh, -⟩ := hP
  have g : ∀ i, i < 11 → (K (c + 6) = 14 ∧ vp_in (nI i) (N (c + 6))) := fun i hi => ⟨k14, by rw [n11]; exact vp_in_nI hi (by decide)⟩
  have key := loop_ok (F := fun f v p => fn_X1_dropOldest_L9 K N (c + 5) f (nI v) p) 9 (fun v p => (∀ x, x ≠ c + 6 → p x = P x) ∧ ∀ i, i < 11 → p (c + 6) i = some (c + 7 + 3 * τ (if i < v then i + 1 else i))) (fun p => (∀ x, x ≠ c + 6 → p x = P x) ∧ ∀ i, i < 11 → p (c + 6) i = some (c + 7 + 3 * τ (if i < 9 then i + 1 else i)))
    (fun f p hp => by
      simp only [fn_X1_dropOldest_L9]
      rw [if_pos (show (9 : Int32) ≤ nI 9 from nI_le (a := 9) (Nat.le_refl _) (by omega))]
      exact ok_some.mpr hp)
    (fun f v p hv hp kk => by
      simp only [fn_X1_dropOldest_L9]
      obtain ⟨s1, s2⟩ := hp
      rw [if_neg (show ¬ (9 : Int32) ≤ nI v from nI_ge (b := 9) hv (by omega)), s1 (c + 5) (by omega), p50, Option.bind_some, nI_1, gd_pos (g (v + 1) (by omega)), nI_clamp (by omega), s2 (v + 1) (by omega), if_neg (by omega), Option.bind_some, gd_pos (g v (by omega)), gd_pos (hsh _ (hτ.1 (v + 1) (by omega))).1, Option.bind_some, nI_clamp (by omega)]
      refine kk _ ⟨fun x hx => by rw [upP_a hx]; exact s1 x hx, fun i hi => ?_⟩
      by_cases h : i = v
      · subst h; rw [upP_s, if_pos (by omega)]
      · rw [upP_k h, s2 i hi]
        by_cases h2 : i < v
        · rw [if_pos h2, if_pos (by omega)]
        · rw [if_neg h2, if_neg (by omega)])
    FU 0 P (Nat.zero_le _) (FU_lt (by omega)) ⟨fun _ _ => rfl, fun i hi => by rw [if_neg (by omega)]; exact ht i hi⟩
  obtain ⟨p, h1, h2, h3⟩ := key
  have h1 : fn_X1_dropOldest_L9 K N (c + 5) FU 0 P = some p := h1
  have g0 : K (c + 6) = 14 ∧ vp_in (0 : Int32) (N (c + 6)) := g 0 (by omega)
  have g9 : K (c + 6) = 14 ∧ vp_in (9 : Int32) (N (c + 6)) := g 9 (by omega)
  refine ⟨upP p (c + 6) 9 (some (c + 7 + 3 * τ 0)), ?_, fun x hx => by rw [upP_a hx]; exact h2 x hx, fun i hi => ?_⟩
  · unfold fn_X1_dropOldest
    rw [gd_pos k5, p50, Option.bind_some, gd_pos g0, ht 0 (by omega), Option.bind_some, h1, Option.bind_some, h2 (c + 5) (by omega), p50, Option.bind_some, gd_pos g9, gd_pos (hsh _ (hτ.1 0 (by omega))).1, Option.bind_some, Option.bind_some]
  · unfold rotA
    by_cases h : i = 9
    · subst h; rw [upP_s]; rfl
    · rw [upP_k h, h3 i hi]
      by_cases h2 : i < 9
      · rw [if_pos h2, if_pos h2]
      · rw [if_neg h2, if_neg h2, if_neg h]
