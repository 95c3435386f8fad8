/-! a dot painted -/
def up1 (f : Nat → Int32) (d : Nat) (v : Int32) : Nat → Int32 := fun e => if e = d then v else f e
def pntI (bi c i o : Int32) : Int32 := if bi = -1 then (if o * (255 - c) / 255 = 0 then 0 else i) else if c = 0 then i else if o = 0 then bi else i + (bi - i) * c / 255
def pntO (bi c o : Int32) : Int32 := if bi = -1 then o * (255 - c) / 255 else if c = 0 then o else o + (255 - o) * c / 255
theorem pnt_in {bi c i o : Int32} (hd : DotI i o) (hb : bi = -1 ∨ inR bi 256) (hc : inR c 256) : DotI (pntI bi c i o) (pntO bi c o) := by
  obtain ⟨h1, h2, h3⟩ := hd
  unfold pntI pntO
  by_cases b1 : bi = -1
  · rw [if_pos b1, if_pos b1]
    have h4 := (part_in h2 (inv_in hc).1).1
    by_cases z : o * (255 - c) / 255 = 0
    · rw [if_pos z]; exact ⟨⟨0, by decide, rfl⟩, h4, fun _ => rfl⟩
    · rw [if_neg z]; exact ⟨h1, h4, fun e => absurd e z⟩
  · rw [if_neg b1, if_neg b1]
    have hb := hb.resolve_left b1
    by_cases c0 : c = 0
    · rw [if_pos c0, if_pos c0]; exact ⟨h1, h2, h3⟩
    · rw [if_neg c0, if_neg c0]
      obtain ⟨q1, q2, q3⟩ := cov_up h2 hc
      refine ⟨?_, q1, fun e => ?_⟩
      · by_cases o0 : o = 0
        · rw [if_pos o0]; exact hb
        · rw [if_neg o0]; exact lerp_in h1 hb hc
      · exfalso
        by_cases o0 : o = 0
        · exact c0 ((q3 o0).symm.trans e)
        · rw [e] at q2
          have h := r_256.mp h2
          have z0 : (0 : Int32).toInt = 0 := rfl
          exact o0 (by rw [← Int32.toInt_inj]; omega)
def LyD (A s : Nat → Nat → Int32) (q : Nat) (i o : Nat → Int32) : Prop := (∀ a, a ≠ q + 1 → a ≠ q + 2 → s a = A a) ∧ ∀ d, d < 192 → s (q + 1) d = i d ∧ s (q + 2) d = o d
def GrD (B s : Nat → Nat → Int32) (m l : Nat) (i o : Nat → Int32) : Prop := (∀ a, a ≠ m + 1 → s a = B a) ∧ (∀ j, ¬ (20 + 192 * l ≤ j ∧ j < 20 + 192 * l + 192) → ¬ (788 + 192 * l ≤ j ∧ j < 788 + 192 * l + 192) → s (m + 1) j = B (m + 1) j) ∧ ∀ d, d < 192 → s (m + 1) (20 + 192 * l + d) = i d ∧ s (m + 1) (788 + 192 * l + d) = o d
theorem up1_s {f : Nat → Int32} {d : Nat} {v : Int32} : up1 f d v d = v := if_pos rfl
theorem up1_k {f : Nat → Int32} {d e : Nat} {v : Int32} (h : e ≠ d) : up1 f d v e = f e := if_neg h
theorem LyD.set {A s s' : Nat → Nat → Int32} {q d : Nat} {i o : Nat → Int32} {vi vo : Int32} (h : LyD A s q i o) (hs : ∀ a, a ≠ q + 1 → a ≠ q + 2 → s' a = s a) (h1 : ∀ e, s' (q + 1) e = if e = d then vi else s (q + 1) e) (h2 : ∀ e, s' (q + 2) e = if e = d then vo else s (q + 2) e) : LyD A s' q (up1 i d vi) (up1 o d vo) := by
  refine ⟨fun a x y => (hs a x y).trans (h.1 a x y), fun e he => ⟨?_, ?_⟩⟩
  · rw [h1]
    by_cases k : e = d
    · rw [if_pos k, k, up1_s]
    · rw [if_neg k, up1_k k]; exact (h.2 e he).1
  · rw [h2]
    by_cases k : e = d
    · rw [if_pos k, k, up1_s]
    · rw [if_neg k, up1_k k]; exact (h.2 e he).2
theorem e_apply {K N : Nat → Nat} {A s : Nat → Nat → Int32} {P : Nat → Nat → Option Nat} {c q d : Nat} {i o : Nat → Int32} {cv : Int32} (hL : LaySh K N P q) (k7 : K c = 7) (p4 : P c 4 = some (c + 4)) (k3 : K (c + 4) = 3) (hq : q + 1 ≠ c + 4 ∧ q + 2 ≠ c + 4) (h : LyD A s q i o) (hd : d < 192) : ∃ s', fn_X6_apply K N s P c q (nI d) cv = some s' ∧ LyD A s' q (up1 i d (pntI (A (c + 4) 2) cv (i d) (o d))) (up1 o d (pntO (A (c + 4) 2) cv (o d))) := by
  obtain ⟨k0, k1, n1, k2, n2, p0, p1⟩ := hL
  have g1 : K (q + 1) = 12 ∧ vp_in (nI d) (N (q + 1)) := ⟨k1, by rw [n1]; exact vp_192 hd⟩
  have g2 : K (q + 2) = 12 ∧ vp_in (nI d) (N (q + 2)) := ⟨k2, by rw [n2]; exact vp_192 hd⟩
  obtain ⟨e1, e2⟩ := h.2 d hd
  have hbi : s (c + 4) 2 = A (c + 4) 2 := by rw [h.1 _ (Ne.symm hq.1) (Ne.symm hq.2)]
  unfold fn_X6_apply
  rw [gd_pos k7, p4, Option.bind_some, gd_pos k3, hbi]
  by_cases b1 : A (c + 4) 2 = -1
  · rw [if_pos b1]
    unfold fn_X4_wipe
    rw [gd_pos k0, p1, Option.bind_some, gd_pos g2, Option.bind_some, nI_clamp (by omega), up2_s, p0, Option.bind_some, gd_pos g1, Option.bind_some, e2]
    unfold pntI pntO
    rw [if_pos b1, if_pos b1]
    by_cases z : o d * (255 - cv) / 255 = 0
    · rw [if_pos z, if_pos z, Option.bind_some, gd_pos k0]
      refine ⟨_, rfl, h.set (fun a x y => by rw [up2_o x, up2_o y]) (fun e => ?_) (fun e => ?_)⟩
      · simp [up2]
      · simp [up2]
    · rw [if_neg z, if_neg z, Option.bind_some, gd_pos k0]
      refine ⟨_, rfl, h.set (fun a x y => by rw [up2_o y]) (fun e => ?_) (fun e => ?_)⟩
      · by_cases k : e = d
        · rw [if_pos k, k, up2_o (by omega)]; exact e1
        · rw [if_neg k, up2_o (by omega)]
      · simp [up2]
  · rw [if_neg b1]
    unfold fn_X4_paint
    unfold pntI pntO
    rw [if_neg b1, if_neg b1]
    by_cases c0 : cv = 0
    · rw [if_pos c0, if_pos c0, if_pos c0, Option.bind_some, gd_pos k0]
      refine ⟨_, rfl, h.set (fun a x y => rfl) (fun e => ?_) (fun e => ?_)⟩
      · by_cases k : e = d
        · rw [if_pos k, k]; exact e1
        · rw [if_neg k]
      · by_cases k : e = d
        · rw [if_pos k, k]; exact e2
        · rw [if_neg k]
    · rw [if_neg c0, if_neg c0, if_neg c0, gd_pos k0, p0, Option.bind_some, gd_pos g1, Option.bind_some, p1, Option.bind_some, gd_pos g2, nI_clamp (by omega), e1, e2]
      have hm : (if o d = 0 then (some (A (c + 4) 2) : Option Int32) else some (i d + (A (c + 4) 2 - i d) * cv / 255)) = some (if o d = 0 then A (c + 4) 2 else i d + (A (c + 4) 2 - i d) * cv / 255) := by split <;> rfl
      rw [hm, Option.bind_some, Option.bind_some, Option.bind_some, Option.bind_some, gd_pos k0, up2_o (show q + 2 ≠ q + 1 by omega), e2]
      refine ⟨_, rfl, h.set (fun a x y => by rw [up2_o y, up2_o x]) (fun e => ?_) (fun e => ?_)⟩
      · simp [up2]
      · simp [up2]
theorem GrD.set {B s s' : Nat → Nat → Int32} {m l d : Nat} {i o : Nat → Int32} {vi vo : Int32} (hl : l < 4) (hd : d < 192) (h : GrD B s m l i o) (hs : ∀ a, a ≠ m + 1 → s' a = s a) (h1 : ∀ j, s' (m + 1) j = if j = 20 + 192 * l + d then vi else if j = 788 + 192 * l + d then vo else s (m + 1) j) : GrD B s' m l (up1 i d vi) (up1 o d vo) := by
  refine ⟨fun a x => (hs a x).trans (h.1 a x), fun j x y => by rw [h1, if_neg (by omega), if_neg (by omega)]; exact h.2.1 j x y, fun e he => ⟨?_, ?_⟩⟩
  · rw [h1]
    by_cases k : e = d
    · rw [if_pos (by omega), k, up1_s]
    · rw [if_neg (by omega), if_neg (by omega), up1_k k]; exact (h.2.2 e he).1
  · rw [h1]
    by_cases k : e = d
    · rw [if_neg (by omega), if_pos (by omega), k, up1_s]
    · rw [if_neg (by omega), if_neg (by omega), up1_k k]; exact (h.2.2 e he).2
theorem e_paints {K N : Nat → Nat} {B s : Nat → Nat → Int32} {P : Nat → Nat → Option Nat} {m l d : Nat} {i o : Nat → Int32} {cv : Int32} (hM : ModSh K N P m) (hl : l < 4) (h : GrD B s m l i o) (hd : d < 192) : ∃ s', fn_X10_paints K N s P m (nI l) (nI d) cv = some s' ∧ GrD B s' m l (up1 i d (pntI (B (m + 1) 4) cv (i d) (o d))) (up1 o d (pntO (B (m + 1) 4) cv (o d))) := by
  obtain ⟨e1, e2⟩ := h.2.2 d hd
  have g1 := vp_g hM (show 20 + 192 * l + d < 5608 by omega)
  have g2 := vp_g hM (show 788 + 192 * l + d < 5608 by omega)
  have hbi : s (m + 1) 4 = B (m + 1) 4 := h.2.1 4 (by omega) (by omega)
  unfold fn_X10_paints
  rw [Option.bind_some, Option.bind_some, gd_pos hM.1.1, hM.2.2.1, Option.bind_some, gd_pos (show K (m + 1) = 12 ∧ vp_in 4 (N (m + 1)) from vp_g hM (j := 4) (by decide)), hbi, show (20 : Int32) + (192 : Int32) * nI l + nI d = nI (20 + 192 * l + d) from e_sd 20 l d, show (788 : Int32) + (192 : Int32) * nI l + nI d = nI (788 + 192 * l + d) from e_sd 788 l d]
  by_cases b1 : B (m + 1) 4 = -1
  · rw [if_pos b1, gd_pos g2, Option.bind_some, nI_clamp (by omega), up2_s, gd_pos g1, Option.bind_some, nI_clamp (by omega), e2]
    unfold pntI pntO
    rw [if_pos b1, if_pos b1]
    by_cases z : o d * (255 - cv) / 255 = 0
    · rw [if_pos z, if_pos z]
      refine ⟨_, rfl, h.set hl hd (fun a x => by rw [up2_o x, up2_o x]) (fun j => ?_)⟩
      simp [up2]
    · rw [if_neg z, if_neg z]
      refine ⟨_, rfl, h.set hl hd (fun a x => by rw [up2_o x]) (fun j => ?_)⟩
      by_cases k : j = 20 + 192 * l + d
      · rw [if_pos k, k, up2_k (by omega)]; exact e1
      · rw [if_neg k]; simp [up2]
  · rw [if_neg b1]
    unfold pntI pntO
    rw [if_neg b1, if_neg b1]
    by_cases c0 : cv = 0
    · rw [if_pos c0, if_pos c0, if_pos c0]
      refine ⟨_, rfl, h.set hl hd (fun a x => rfl) (fun j => ?_)⟩
      by_cases k : j = 20 + 192 * l + d
      · rw [if_pos k, k]; exact e1
      · rw [if_neg k]
        by_cases k2 : j = 788 + 192 * l + d
        · rw [if_pos k2, k2]; exact e2
        · rw [if_neg k2]
    · rw [if_neg c0, if_neg c0, if_neg c0, gd_pos g2, gd_pos g1, nI_clamp (by omega), nI_clamp (by omega), e1, e2]
      have hm : (if o d = 0 then (some (B (m + 1) 4) : Option Int32) else some (i d + (B (m + 1) 4 - i d) * cv / 255)) = some (if o d = 0 then B (m + 1) 4 else i d + (B (m + 1) 4 - i d) * cv / 255) := by split <;> rfl
      rw [hm, Option.bind_some, gd_pos g1, Option.bind_some, Option.bind_some, up2_k (show 788 + 192 * l + d ≠ 20 + 192 * l + d by omega), e2]
      refine ⟨_, rfl, h.set hl hd (fun a x => by rw [up2_o x, up2_o x]) (fun j => ?_)⟩
      by_cases k : j = 788 + 192 * l + d
      · rw [k, up2_s, if_neg (by omega), if_pos rfl]
      · rw [up2_k k]
        by_cases k2 : j = 20 + 192 * l + d
        · rw [k2, up2_s, if_pos rfl]
        · rw [up2_k k2, if_neg k2, if_neg k]
