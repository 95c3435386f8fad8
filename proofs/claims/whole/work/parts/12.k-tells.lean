/-! what would be seen with another layer in a place -/
def seeT (z : Nat → Nat → Int32) (q : Nat) (g : Nat → Int32) (cnt : Nat) (p x4 : Int32) (d : Nat) : Int32 := seeL (fun l => if nI l = x4 then z q 2 else g (8 + l)) (fun l => if nI l = x4 then z q 3 else g (12 + l)) (fun l => if nI l = x4 then z q 4 else g (16 + l)) (fun l => if nI l = x4 then z (q + 1) d else g (20 + 192 * l + d)) (fun l => if nI l = x4 then z (q + 2) d else g (788 + 192 * l + d)) cnt p
theorem e_seeIfC {K N : Nat → Nat} {b : Nat} {I z : Nat → Nat → Int32} {P : Nat → Nat → Option Nat} {cnt kp al : Nat} {σ τ : Nat → Nat} (hA : AllSh K N P b) (hpic : PicR I P (b + 1) (I (b + 126 + 1)) cnt kp al σ τ) (hz : ∀ a, b + 1 ≤ a → a < b + 53 → z a = I a) (x4 p : Int32) {d : Nat} (hd : d < 192) (hp : inR p 256) (ht : ∀ l, l < cnt → nI l = x4 → inR (z (b + 122) 3) 100 ∧ inR (z (b + 122) 4) 256 ∧ inR (z (b + 123) d) 256 ∧ inR (z (b + 124) d) 256) : fn_X6_seenIf K N z P (b + 1) (nI d) p x4 (b + 122) = some (seeT z (b + 122) (I (b + 126 + 1)) cnt p x4 d) := by
  obtain ⟨hroot, hp1, hp53, hmod⟩ := hA
  obtain ⟨⟨hcnt, hkp, hal⟩, ⟨hσ, hτ, hlay, hact⟩, ⟨hc1, hg0⟩, ⟨hpap, hpap2⟩, hbr, hlays, hmask, ⟨ha1, ha2, ha3, ha4⟩, hacts⟩ := hpic
  have hth : LaySh K N P (b + 122) := hroot.2.2.2.2.1
  have hs := fun l (hl : l < cnt) => hσ.1 l (by omega)
  rw [e_seenIf hp1 hth hd hcnt (by rw [hz _ (by omega) (by omega)]; exact hc1) hσ hlay x4 (fun l => if nI l = x4 then b + 122 else b + 1 + 40 + 3 * σ l) (fun l hl => rfl) (fun l hl => ?_) p hp]
  · congr 1
    refine seeL_cong cnt (fun l hl => ?_)
    obtain ⟨⟨r2, r3, r4, rd⟩, -⟩ := hlays l hl
    have := hs l hl
    by_cases c : nI l = x4
    · simp [c]
    · simp only [if_neg c]
      rw [hz (b + 1 + 40 + 3 * σ l) (by omega) (by omega), hz (b + 1 + 40 + 3 * σ l + 1) (by omega) (by omega), hz (b + 1 + 40 + 3 * σ l + 2) (by omega) (by omega)]
      exact ⟨r2, r3, r4, (rd d hd).1, (rd d hd).2⟩
  · obtain ⟨⟨r2, r3, r4, rd⟩, ⟨im, ig, io, di⟩⟩ := hlays l hl
    have := hs l hl
    by_cases c : nI l = x4
    · simp only [if_pos c]; exact ht l hl c
    · simp only [if_neg c]
      rw [hz (b + 1 + 40 + 3 * σ l) (by omega) (by omega), hz (b + 1 + 40 + 3 * σ l + 1) (by omega) (by omega), hz (b + 1 + 40 + 3 * σ l + 2) (by omega) (by omega), r3, r4, (rd d hd).1, (rd d hd).2]
      exact ⟨ig, io, (di d hd).1, (di d hd).2.1⟩
/-- the first that is otherwise -/
def fstD (it see : Nat → Int32) : Nat → Nat → Int32
  | _, 0 => -1
  | i, k + 1 => if it i = see i then fstD it see (i + 1) k else nI i
theorem fstD_s (it see : Nat → Int32) (i k : Nat) : fstD it see i (k + 1) = if it i = see i then fstD it see (i + 1) k else nI i := rfl
theorem fstD_cong {it see it' see' : Nat → Int32} : ∀ k i, (∀ j, j < i + k → it j = it' j ∧ see j = see' j) → fstD it see i k = fstD it' see' i k
  | 0, _, _ => rfl
  | k + 1, i, h => by
    unfold fstD
    rw [(h i (by omega)).1, (h i (by omega)).2, fstD_cong k (i + 1) (fun j hj => h j (by omega))]
theorem e_firstC {K N : Nat → Nat} {z : Nat → Nat → Int32} {P : Nat → Nat → Option Nat} {b q r y n : Nat} {x3 x4 : Int32} {see : Nat → Int32} (kb : K b = 10) (pb0 : P b 0 = some (b + 1)) (k7 : K (b + 1) = 7) (pb6 : P b 6 = some (b + 122)) (k8 : K q = 8) (p2 : P q 2 = some r) (kr : K r = 12) (nr : N r = 40) (hn : n ≤ 16) (h1 : z q 1 = nI n) (hsee : ∀ x, x < n → fn_X6_seenIf K N z P (b + 1) (nI (16 * y + x)) x3 x4 (b + 122) = some (see x)) : fn_X9_firstOtherwise K N z P b q (nI y) x3 x4 = some (fstD (z r) see 0 n) := by
  have key := loop_ok (F := fun f i (_ : Unit) => fn_X9_firstOtherwise_L3 K N b q (nI y) x3 x4 z P f (nI i)) n (fun i _ => fstD (z r) see i (n - i) = fstD (z r) see 0 n) (fun u => Sum.elim (fun t => t) (fun _ => (-1 : Int32)) u = fstD (z r) see 0 n)
    (fun f s hs => by
      simp only [fn_X9_firstOtherwise_L3]
      rw [Nat.sub_self] at hs
      by_cases c : 16 ≤ n
      · rw [if_pos (show (16 : Int32) ≤ nI n from nI_le (a := 16) c (by omega))]
        exact ok_some.mpr hs
      · rw [if_neg (show ¬ (16 : Int32) ≤ nI n from nI_ge (b := 16) (by omega) (by omega)), gd_pos k8, h1, if_pos (nI_le (Nat.le_refl _) (by omega))]
        exact ok_some.mpr hs)
    (fun f i s hi hs kk => by
      simp only [fn_X9_firstOtherwise_L3]
      rw [if_neg (show ¬ (16 : Int32) ≤ nI i from nI_ge (b := 16) (by omega) (by omega)), gd_pos k8, h1, if_neg (nI_ge hi (by omega)), p2, Option.bind_some, gd_pos ⟨kr, by rw [nr]; exact vp_in_nI (by omega) (by omega)⟩, gd_pos kb, pb0, Option.bind_some, e_dotAt, Option.bind_some, pb6, Option.bind_some, hsee i hi, Option.bind_some, gd_pos k7, nI_clamp (by omega), nI_1]
      rw [show n - i = (n - (i + 1)) + 1 by omega] at hs
      rw [fstD_s] at hs
      by_cases c : z r i = see i
      · rw [if_pos c] at hs ⊢
        exact kk () hs
      · rw [if_neg c] at hs ⊢
        exact ok_some.mpr hs)
    FU 0 () (Nat.zero_le _) (FU_lt (by omega)) rfl
  obtain ⟨u, h2, h3⟩ := key
  have h2 : fn_X9_firstOtherwise_L3 K N b q (nI y) x3 x4 z P FU 0 = some u := h2
  unfold fn_X9_firstOtherwise
  rw [h2, Option.bind_some, ← h3]
  cases u <;> rfl
theorem e_firstM {K N : Nat → Nat} {z : Nat → Nat → Int32} {P : Nat → Nat → Option Nat} {m i y n cnt : Nat} {x3 x4 x5 : Int32} {see : Nat → Int32} (hM : ModSh K N P m) (hi : i < 4) (hn : n ≤ 16) (h1 : z (m + 10) i = nI n) (hsee : ∀ x, x < n → fn_X10_seen K N z P m (nI (16 * y + x)) x3 x4 x5 = some (see x)) : fn_X10_otherwise K N z P m (nI i) (nI y) x3 x4 x5 = some (fstD (fun x => z (m + 11) (40 * i + x)) see 0 n) := by
  have p21 : P m 21 = some (m + 10) := hM.2.2.2.2.2.2.2.2.2.2.2.1
  have p22 : P m 22 = some (m + 11) := hM.2.2.2.2.2.2.2.2.2.2.2.2
  have k10 : K (m + 10) = 12 ∧ vp_in (nI i) (N (m + 10)) := ⟨hM.1.2.2.2.2.2.2.2.2.2.2.1, by rw [hM.2.1.2.2.2.2.2.2.2.2.2.1]; exact vp_in_nI hi (by decide)⟩
  have k11 : ∀ j, j < 160 → (K (m + 11) = 12 ∧ vp_in (nI j) (N (m + 11))) := fun j hj => ⟨hM.1.2.2.2.2.2.2.2.2.2.2.2, by rw [hM.2.1.2.2.2.2.2.2.2.2.2.2]; exact vp_in_nI hj (by decide)⟩
  have a1 : ∀ j, (40 : Int32) * nI i + nI j = nI (40 * i + j) := fun j => by rw [show (40 : Int32) = nI 40 from rfl, pk_mul, nI_add]
  have key := loop_ok (F := fun f j (_ : Unit) => fn_X10_otherwise_L3 K N m (nI i) (nI y) x3 x4 x5 z P f (nI j)) n (fun j _ => fstD (fun x => z (m + 11) (40 * i + x)) see j (n - j) = fstD (fun x => z (m + 11) (40 * i + x)) see 0 n) (fun u => Sum.elim (fun t => t) (fun _ => (-1 : Int32)) u = fstD (fun x => z (m + 11) (40 * i + x)) see 0 n)
    (fun f s hs => by
      simp only [fn_X10_otherwise_L3]
      rw [Nat.sub_self] at hs
      rw [gd_pos hM.1.1, p21, Option.bind_some, gd_pos k10, nI_clamp (by omega), h1, if_pos (nI_le (Nat.le_refl _) (by omega))]
      exact ok_some.mpr hs)
    (fun f j s hj hs kk => by
      simp only [fn_X10_otherwise_L3]
      rw [gd_pos hM.1.1, p21, Option.bind_some, gd_pos k10, nI_clamp (by omega), h1, if_neg (nI_ge hj (by omega)), p22, Option.bind_some, a1, gd_pos (k11 _ (by omega)), e_dotOf, Option.bind_some, hsee j hj, Option.bind_some, nI_clamp (by omega), nI_1]
      rw [show n - j = (n - (j + 1)) + 1 by omega] at hs
      rw [fstD_s] at hs
      by_cases c : z (m + 11) (40 * i + j) = see j
      · rw [if_pos c] at hs ⊢
        exact kk () hs
      · rw [if_neg c] at hs ⊢
        exact ok_some.mpr hs)
    FU 0 () (Nat.zero_le _) (FU_lt (by omega)) rfl
  obtain ⟨u, h2, h3⟩ := key
  have h2 : fn_X10_otherwise_L3 K N m (nI i) (nI y) x3 x4 x5 z P FU 0 = some u := h2
  unfold fn_X10_otherwise
  rw [h2, Option.bind_some, ← h3]
  cases u <;> rfl
