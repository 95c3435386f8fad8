/-! a layer's methods; what is seen -/
theorem vp_192 {d : Nat} (h : d < 192) : vp_in (nI d) 192 := vp_in_nI h (by decide)
theorem e_makes {K N : Nat → Nat} {I : Nat → Nat → Int32} {P : Nat → Nat → Option Nat} {q : Nat} {b v : Int32} (hk : K q = 5) (hb : inR b 256) (hv : inR v 256) (hf : inR (I q 3) 100) : fn_X4_makes K N I P q b v = some (bl (I q 2) (I q 3) b v) := by
  have ht := r_256.mp (blT_in hb hv)
  have hs := r_256.mp (blS_in hb hv)
  have hb' := r_256.mp hb
  have hv' := r_256.mp hv
  have hf' := (inR_iff (by decide)).mp hf
  have e1 : (blT b v - I q 3).toInt = (blT b v).toInt - (I q 3).toInt := t_sub (by omega) (by omega)
  have e2 : (blS b v + I q 3).toInt = (blS b v).toInt + (I q 3).toInt := t_add (by omega) (by omega)
  have e3 : (v - b).toInt = v.toInt - b.toInt := t_sub (by omega) (by omega)
  have e4 : (b - v).toInt = b.toInt - v.toInt := t_sub (by omega) (by omega)
  have z0 : (0 : Int32).toInt = 0 := rfl
  unfold fn_X4_makes fn_X4_times fn_X4_screened bl
  rw [gd_pos hk]
  by_cases h1 : I q 2 = 1
  · rw [if_pos h1, if_pos h1]; rfl
  rw [if_neg h1, if_neg h1]
  by_cases h2 : I q 2 = 2
  · rw [if_pos h2, if_pos h2]; rfl
  rw [if_neg h2, if_neg h2]
  by_cases h3 : I q 2 = 3
  · rw [if_pos h3, if_pos h3, Option.bind_some]
    congr 1
    show (if blT b v - I q 3 < 0 then (0 : Int32) else blT b v - I q 3) = _
    by_cases k : blT b v - I q 3 < 0
    · rw [if_pos k, if_neg]
      intro k2
      rw [Int32.lt_iff_toInt_lt] at k k2
      omega
    · rw [if_neg k]
      by_cases k2 : 0 < blT b v - I q 3
      · rw [if_pos k2]
      · rw [if_neg k2]
        rw [Int32.lt_iff_toInt_lt] at k k2
        rw [← Int32.toInt_inj]; omega
  rw [if_neg h3, if_neg h3]
  by_cases h4 : I q 2 = 4
  · rw [if_pos h4, if_pos h4, Option.bind_some]
    congr 1
    show (if 255 < blS b v + I q 3 then (255 : Int32) else blS b v + I q 3) = _
    by_cases k : 255 < blS b v + I q 3
    · rw [if_pos k, if_neg]
      intro k2
      rw [Int32.lt_iff_toInt_lt, t_255] at k k2
      omega
    · rw [if_neg k]
      by_cases k2 : blS b v + I q 3 < 255
      · rw [if_pos k2]
      · rw [if_neg k2]
        rw [Int32.lt_iff_toInt_lt, t_255] at k k2
        rw [← Int32.toInt_inj, t_255]; omega
  rw [if_neg h4, if_neg h4]
  by_cases h5 : I q 2 = 5
  · rw [if_pos h5, if_pos h5]
    congr 1
    by_cases k : b < v
    · rw [if_pos k]
      rw [Int32.lt_iff_toInt_lt] at k
      rw [if_neg (by rw [Int32.le_iff_toInt_le]; omega), ← Int32.toInt_inj, t_sub (by omega) (by omega)]
      omega
    · rw [if_neg k]
      rw [Int32.lt_iff_toInt_lt] at k
      rw [if_pos (by rw [Int32.le_iff_toInt_le]; omega)]
  rw [if_neg h5, if_neg h5]
theorem e_blended (x0 x1 x2 x3 : Int32) : fn_X10_blended x0 x1 x2 x3 = some (bl x0 x1 x2 x3) := by
  unfold fn_X10_blended bl
  by_cases h1 : x0 = 1
  · rw [if_pos h1, if_pos h1]; rfl
  rw [if_neg h1, if_neg h1]
  by_cases h2 : x0 = 2
  · rw [if_pos h2, if_pos h2]; rfl
  rw [if_neg h2, if_neg h2]
  by_cases h3 : x0 = 3
  · rw [if_pos h3, if_pos h3]; rfl
  rw [if_neg h3, if_neg h3]
  by_cases h4 : x0 = 4
  · rw [if_pos h4, if_pos h4]; rfl
  rw [if_neg h4, if_neg h4]
  by_cases h5 : x0 = 5
  · rw [if_pos h5, if_pos h5]
    by_cases k : x2 < x3
    · rw [if_pos k, if_neg (fun h => absurd k (Int32.not_lt.mpr h))]
    · rw [if_neg k, if_pos (Int32.not_lt.mp k)]
  rw [if_neg h5, if_neg h5]
def lay1 (md fg op ik cv b : Int32) : Int32 := b + (bl md fg b ik - b) * (cv * op / 255) / 255
theorem lay1_in {md fg op ik cv b : Int32} (hf : inR fg 100) (ho : inR op 256) (hi : inR ik 256) (hc : inR cv 256) (hb : inR b 256) : inR (lay1 md fg op ik cv b) 256 := lerp_in hb (bl_in hf hb hi) (part_in hc ho).1
def seeL (md fg op ik cv : Nat → Int32) : Nat → Int32 → Int32
  | 0, b => b
  | l + 1, b => lay1 (md l) (fg l) (op l) (ik l) (cv l) (seeL md fg op ik cv l b)
theorem seeL_in {md fg op ik cv : Nat → Int32} {b : Int32} (hb : inR b 256) : ∀ n, (∀ l, l < n → inR (fg l) 100 ∧ inR (op l) 256 ∧ inR (ik l) 256 ∧ inR (cv l) 256) → inR (seeL md fg op ik cv n b) 256
  | 0, _ => hb
  | n + 1, h => by
    obtain ⟨h1, h2, h3, h4⟩ := h n (Nat.lt_succ_self n)
    exact lay1_in h1 h2 h3 h4 (seeL_in hb n (fun l hl => h l (by omega)))
theorem seeL_cong {md fg op ik cv md' fg' op' ik' cv' : Nat → Int32} {b : Int32} : ∀ n, (∀ l, l < n → md l = md' l ∧ fg l = fg' l ∧ op l = op' l ∧ ik l = ik' l ∧ cv l = cv' l) → seeL md fg op ik cv n b = seeL md' fg' op' ik' cv' n b
  | 0, _ => rfl
  | n + 1, h => by
    obtain ⟨h1, h2, h3, h4, h5⟩ := h n (Nat.lt_succ_self n)
    show lay1 _ _ _ _ _ _ = lay1 _ _ _ _ _ _
    rw [h1, h2, h3, h4, h5, seeL_cong n (fun l hl => h l (by omega))]
theorem e_seenOver {K N : Nat → Nat} {I : Nat → Nat → Int32} {P : Nat → Nat → Option Nat} {q d : Nat} {b : Int32} (hL : LaySh K N P q) (hd : d < 192) (hb : inR b 256) (hv : inR (I (q + 1) d) 256) (hf : inR (I q 3) 100) : fn_X4_seenOver K N I P q b (nI d) = some (lay1 (I q 2) (I q 3) (I q 4) (I (q + 1) d) (I (q + 2) d) b) := by
  obtain ⟨k0, k1, n1, k2, n2, p0, p1⟩ := hL
  unfold fn_X4_seenOver
  rw [gd_pos k0, p1, Option.bind_some, gd_pos ⟨k2, by rw [n2]; exact vp_192 hd⟩, Option.bind_some, p0, Option.bind_some, gd_pos ⟨k1, by rw [n1]; exact vp_192 hd⟩, nI_clamp (by omega), e_makes k0 hb hv hf, Option.bind_some]
  rfl
/-- the model's -/
theorem e_mseen {K N : Nat → Nat} {I : Nat → Nat → Int32} {P : Nat → Nat → Option Nat} {m d cnt : Nat} (hM : ModSh K N P m) (hd : d < 192) (hc : cnt ≤ 4) (hg : I (m + 1) 0 = nI cnt) (b x3 x4 : Int32) : fn_X10_seen K N I P m (nI d) b x3 x4 = some (seeL (fun l => if nI l = x3 then x4 else I (m + 1) (8 + l)) (fun l => I (m + 1) (12 + l)) (fun l => I (m + 1) (16 + l)) (fun l => I (m + 1) (20 + 192 * l + d)) (fun l => I (m + 1) (788 + 192 * l + d)) cnt b) := by
  obtain ⟨⟨k0, k1, -⟩, ⟨n1, -⟩, ⟨p0, -⟩⟩ := hM
  have vp : ∀ j, j < 5608 → vp_in (nI j) (N (m + 1)) := fun j hj => by rw [n1]; exact vp_in_nI hj (by decide)
  have key := loop_ok (F := fun n i s => fn_X10_seen_L6 K N m (nI d) x3 x4 I P n s (nI i)) cnt (fun i s => s = seeL (fun l => if nI l = x3 then x4 else I (m + 1) (8 + l)) (fun l => I (m + 1) (12 + l)) (fun l => I (m + 1) (16 + l)) (fun l => I (m + 1) (20 + 192 * l + d)) (fun l => I (m + 1) (788 + 192 * l + d)) i b) (fun r => r = seeL (fun l => if nI l = x3 then x4 else I (m + 1) (8 + l)) (fun l => I (m + 1) (12 + l)) (fun l => I (m + 1) (16 + l)) (fun l => I (m + 1) (20 + 192 * l + d)) (fun l => I (m + 1) (788 + 192 * l + d)) cnt b)
    (fun n s hs => by
      simp only [fn_X10_seen_L6]
      rw [gd_pos k0, p0, Option.bind_some, gd_pos ⟨k1, vp 0 (by decide)⟩, hg, if_pos (nI_le (Nat.le_refl _) (by omega))]
      exact ok_some.mpr hs)
    (fun n i s hi hs k => by
      simp only [fn_X10_seen_L6]
      have a1 : (788 : Int32) + 192 * nI i + nI d = nI (788 + 192 * i + d) := by rw [show (192 : Int32) = nI 192 from rfl, pk_mul, show (788 : Int32) = nI 788 from rfl, nI_add, nI_add]
      have a2 : (20 : Int32) + 192 * nI i + nI d = nI (20 + 192 * i + d) := by rw [show (192 : Int32) = nI 192 from rfl, pk_mul, show (20 : Int32) = nI 20 from rfl, nI_add, nI_add]
      have a3 : (16 : Int32) + nI i = nI (16 + i) := by rw [show (16 : Int32) = nI 16 from rfl, nI_add]
      have a4 : (8 : Int32) + nI i = nI (8 + i) := by rw [show (8 : Int32) = nI 8 from rfl, nI_add]
      have a5 : (12 : Int32) + nI i = nI (12 + i) := by rw [show (12 : Int32) = nI 12 from rfl, nI_add]
      rw [gd_pos k0, p0, Option.bind_some, gd_pos ⟨k1, vp 0 (by decide)⟩, hg, if_neg (nI_ge hi (by omega)), a1, a2, a3, a4, a5, gd_pos ⟨k1, vp _ (by omega)⟩, gd_pos ⟨k1, vp _ (by omega)⟩, Option.bind_some]
      have hm : (if nI i = x3 then some x4 else gd (K (m + 1) = 12 ∧ vp_in (nI (8 + i)) (N (m + 1))) (some (I (m + 1) (nI (8 + i)).toNatClampNeg))) = some (if nI i = x3 then x4 else I (m + 1) (8 + i)) := by
        split
        · rfl
        · rw [gd_pos ⟨k1, vp _ (by omega)⟩, nI_clamp (by omega)]
      rw [hm, Option.bind_some, gd_pos ⟨k1, vp _ (by omega)⟩, gd_pos ⟨k1, vp _ (by omega)⟩, e_blended, Option.bind_some, Option.bind_some, nI_clamp (by omega), nI_clamp (by omega), nI_clamp (by omega), nI_clamp (by omega), nI_1]
      exact k _ (by rw [hs]; rfl))
    FU 0 b (Nat.zero_le _) (FU_lt (by omega)) rfl
  obtain ⟨r, h1, h2⟩ := key
  unfold fn_X10_seen
  rw [show fn_X10_seen_L6 K N m (nI d) x3 x4 I P FU b 0 = some r from h1, Option.bind_some, h2]
/-- the class's: the layer that stands at place l -/
theorem e_seenIf {K N : Nat → Nat} {I : Nat → Nat → Int32} {P : Nat → Nat → Option Nat} {c d cnt a4 : Nat} {σ : Nat → Nat} (hP : PicSh K N P c) (hL4 : LaySh K N P a4) (hd : d < 192) (hc : cnt ≤ 4) (hg : I c 1 = nI cnt) (hσ : Perm 4 σ) (hl : ∀ i, i < 4 → P (c + 1) i = some (c + 40 + 3 * σ i)) (x3 : Int32) (lq : Nat → Nat) (hlq : ∀ l, l < cnt → lq l = if nI l = x3 then a4 else c + 40 + 3 * σ l) (hr : ∀ l, l < cnt → inR (I (lq l) 3) 100 ∧ inR (I (lq l) 4) 256 ∧ inR (I (lq l + 1) d) 256 ∧ inR (I (lq l + 2) d) 256) (b : Int32) (hb : inR b 256) :
    fn_X6_seenIf K N I P c (nI d) b x3 a4 = some (seeL (fun l => I (lq l) 2) (fun l => I (lq l) 3) (fun l => I (lq l) 4) (fun l => I (lq l + 1) d) (fun l => I (lq l + 2) d) cnt b) := by
  obtain ⟨⟨k0, k1, n1, -⟩, ⟨p0, -⟩, -, hlay⟩ := hP
  have hsh : ∀ l, l < cnt → LaySh K N P (lq l) := fun l hlt => by
    rw [hlq l hlt]
    split
    · exact hL4
    · exact hlay _ (hσ.1 l (by omega))
  have key := loop_ok (F := fun n i s => fn_X6_seenIf_L6 K N c (nI d) x3 a4 I P n s (nI i)) cnt (fun i s => s = seeL (fun l => I (lq l) 2) (fun l => I (lq l) 3) (fun l => I (lq l) 4) (fun l => I (lq l + 1) d) (fun l => I (lq l + 2) d) i b) (fun r => r = seeL (fun l => I (lq l) 2) (fun l => I (lq l) 3) (fun l => I (lq l) 4) (fun l => I (lq l + 1) d) (fun l => I (lq l + 2) d) cnt b)
    (fun n s hs => by
      simp only [fn_X6_seenIf_L6]
      rw [gd_pos k0, hg, if_pos (nI_le (Nat.le_refl _) (by omega))]
      exact ok_some.mpr hs)
    (fun n i s hi hs k => by
      simp only [fn_X6_seenIf_L6]
      have hin : inR s 256 := by rw [hs]; exact seeL_in hb i (fun l hl2 => hr l (by omega))
      have hm : (if nI i = x3 then some a4 else Option.bind (P c 0) (fun q10 => gd (K q10 = 15 ∧ vp_in (nI i) (N q10)) (Option.bind (P q10 (nI i).toNatClampNeg) (fun q12 => some q12)))) = some (lq i) := by
        rw [hlq i hi]
        split
        · rfl
        · rw [p0, Option.bind_some, gd_pos ⟨k1, by rw [n1]; exact vp_in_nI (by omega) (by decide)⟩, nI_clamp (by omega), hl i (by omega), Option.bind_some]
      obtain ⟨r1, r2, r3, r4⟩ := hr i hi
      rw [gd_pos k0, hg, if_neg (nI_ge hi (by omega)), hm, Option.bind_some, e_seenOver (hsh i hi) hd hin r3 r1, Option.bind_some, gd_pos (hsh i hi).1, nI_1]
      exact k _ (by rw [hs]; rfl))
    FU 0 b (Nat.zero_le _) (FU_lt (by omega)) rfl
  obtain ⟨r, h1, h2⟩ := key
  unfold fn_X6_seenIf
  rw [show fn_X6_seenIf_L6 K N c (nI d) x3 a4 I P FU b 0 = some r from h1, Option.bind_some, h2]
