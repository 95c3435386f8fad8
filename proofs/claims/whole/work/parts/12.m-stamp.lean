/-! a stamp, on both sides -/
theorem touched_cong {K N : Nat → Nat} {s I : Nat → Nat → Int32} {P P' : Nat → Nat → Option Nat} {m : Nat} {dx dy : Int32} (h0 : P m 0 = some (m + 1)) (hp : P' m = P m) (h2 : s (m + 1) 2 = I (m + 1) 2) (h3 : s (m + 1) 3 = I (m + 1) 3) (h5 : s (m + 1) 5 = I (m + 1) 5) : fn_X10_touched K N s P' m dx dy = fn_X10_touched K N I P m dx dy := by
  unfold fn_X10_touched
  rw [hp, h0]
  simp only [Option.bind_some, h2, h3, h5]
theorem pnt_0 {bi i o : Int32} (h : DotI i o) : pntI bi 0 i o = i ∧ pntO bi 0 o = o := by
  unfold pntI pntO
  by_cases b1 : bi = -1
  · rw [if_pos b1, if_pos b1]
    obtain ⟨h1, h2, h3⟩ := h
    have e : o * (255 - 0) / 255 = o := by
      have h4 := (part_in h2 (inv_in (x := 0) ⟨0, by decide, rfl⟩).1).2.1
      rw [← Int32.toInt_inj, h4, (inv_in (x := 0) ⟨0, by decide, rfl⟩).2]
      have z0 : (0 : Int32).toInt = 0 := rfl
      have := r_256.mp h2
      rw [z0]; omega
    rw [e]
    refine ⟨?_, rfl⟩
    by_cases z : o = 0
    · rw [if_pos z, h3 z]
    · rw [if_neg z]
  · rw [if_neg b1, if_neg b1, if_pos rfl, if_pos rfl]; exact ⟨rfl, rfl⟩
def stpI (mk cov : Nat → Int32) (bi : Int32) (i o : Nat → Int32) (d : Nat) : Int32 := if frV mk d = 0 then i d else pntI bi (cov d) (i d) (o d)
def stpO (mk cov : Nat → Int32) (bi : Int32) (o : Nat → Int32) (d : Nat) : Int32 := if frV mk d = 0 then o d else pntO bi (cov d) (o d)
theorem stp_in {mk cov : Nat → Int32} {bi : Int32} {i o : Nat → Int32} (hb : bi = -1 ∨ inR bi 256) (hc : ∀ d, d < 192 → inR (cov d) 256) (h : ∀ d, d < 192 → DotI (i d) (o d)) : ∀ d, d < 192 → DotI (stpI mk cov bi i o d) (stpO mk cov bi o d) := by
  intro d hd
  unfold stpI stpO
  split
  · exact h d hd
  · exact pnt_in (h d hd) hb (hc d hd)
theorem LyD.congr {A s : Nat → Nat → Int32} {q : Nat} {i o i' o' : Nat → Int32} (h : LyD A s q i o) (he : ∀ d, d < 192 → i' d = i d ∧ o' d = o d) : LyD A s q i' o' := ⟨h.1, fun d hd => ⟨(h.2 d hd).1.trans (he d hd).1.symm, (h.2 d hd).2.trans (he d hd).2.symm⟩⟩
theorem GrD.congr {B s : Nat → Nat → Int32} {m l : Nat} {i o i' o' : Nat → Int32} (h : GrD B s m l i o) (he : ∀ d, d < 192 → i' d = i d ∧ o' d = o d) : GrD B s m l i' o' := ⟨h.1, h.2.1, fun d hd => ⟨(h.2.2 d hd).1.trans (he d hd).1.symm, (h.2.2 d hd).2.trans (he d hd).2.symm⟩⟩
theorem lo0 {a r : Nat} (ha : a < 2 ^ 30) (hr : r < 2 ^ 30) : (if nI a - nI r < (0 : Int32) then (0 : Int32) else nI a - nI r) = nI (a - r) := by
  have e : (nI a - nI r).toInt = (a : Int) - r := by rw [t_sub (by rw [nI_toInt (by omega), nI_toInt (by omega)]; omega) (by rw [nI_toInt (by omega), nI_toInt (by omega)]; omega), nI_toInt (by omega), nI_toInt (by omega)]
  have z0 : (0 : Int32).toInt = 0 := rfl
  by_cases c : a < r
  · rw [if_pos (by rw [Int32.lt_iff_toInt_lt, e, z0]; omega), show a - r = 0 by omega]; rfl
  · rw [if_neg (by rw [Int32.lt_iff_toInt_lt, e, z0]; omega), pk_sub (by omega)]
theorem hi11 {a k : Nat} (ha : a < 2 ^ 30) (hk : k < 2 ^ 30) : (if nI k < nI a then nI k else nI a) = nI (min k a) := by
  by_cases c : k < a
  · rw [if_pos ((lt_nI (by omega) (by omega)).mpr c), Nat.min_eq_left (by omega)]
  · rw [if_neg (fun e => c ((lt_nI (by omega) (by omega)).mp e)), Nat.min_eq_right (by omega)]
noncomputable def prt (c : Prop) (a b : Int32) : Int32 := @ite _ c (Classical.propDecidable c) a b
theorem prt_t {c : Prop} {a b : Int32} (h : c) : prt c a b = a := if_pos h
theorem prt_f {c : Prop} {a b : Int32} (h : ¬ c) : prt c a b = b := if_neg h
theorem prt_iff {c c' : Prop} {a b : Int32} (h : c ↔ c') : prt c a b = prt c' a b := by rw [propext h]
def bxD (x0 x1 y0 y1 d : Nat) : Prop := x0 ≤ d % 16 ∧ d % 16 < x1 ∧ y0 ≤ d / 16 ∧ d / 16 < y1
theorem e_stampC {K N : Nat → Nat} {A s : Nat → Nat → Int32} {P : Nat → Nat → Option Nat} {c q x y r : Nat} {i o mk cov : Nat → Int32} (hP : PicSh K N P c) (hL : LaySh K N P q) (hcq : c + 5 < q) (hx : x < 16) (hy : y < 12) (hr : r < 5) (hA1 : A (c + 4) 1 = nI r) (hm1 : A (c + 2) 1 = nI (cnt1 mk 192)) (hm2 : ∀ d, d < 192 → A (c + 3) d = mk d) (hcov : ∀ z : Nat → Nat → Int32, (∀ a, a ≠ q + 1 → a ≠ q + 2 → z a = A a) → ∀ d, d < 192 → fn_X2_coverAt K N z P (c + 4) (nI (d % 16) - nI x) (nI (d / 16) - nI y) = some (cov d)) (hz : ∀ d, d < 192 → (d % 16 + r < x ∨ x + r < d % 16 ∨ d / 16 + r < y ∨ y + r < d / 16) → cov d = 0) (hdi : ∀ d, d < 192 → DotI (i d) (o d)) (h : LyD A s q i o) : ∃ s', fn_X6_stamp K N s P c q (nI x) (nI y) = some s' ∧ LyD A s' q (stpI mk cov (A (c + 4) 2) i o) (stpO mk cov (A (c + 4) 2) o) := by
  obtain ⟨⟨k7, k15, n4, k6, k13, n192, k3, k2, k14, n11⟩, ⟨pp0, pp3, pp4, pp5, pm0, pa0⟩, -, -⟩ := id hP
  obtain ⟨bi, hbi⟩ : ∃ bi, bi = A (c + 4) 2 := ⟨_, rfl⟩
  rw [← hbi]
  obtain ⟨x0, hx0⟩ : ∃ x0, x0 = x - r := ⟨_, rfl⟩
  obtain ⟨x1, hx1⟩ : ∃ x1, x1 = min 15 (x + r) := ⟨_, rfl⟩
  obtain ⟨y0, hy0⟩ : ∃ y0, y0 = y - r := ⟨_, rfl⟩
  obtain ⟨y1, hy1⟩ : ∃ y1, y1 = min 11 (y + r) := ⟨_, rfl⟩
  let pI : Nat → Nat → Nat → Int32 := fun v u d => prt (bxD x0 (x1 + 1) y0 v d ∨ (d / 16 = v ∧ x0 ≤ d % 16 ∧ d % 16 < u)) (stpI mk cov bi i o d) (i d)
  let pO : Nat → Nat → Nat → Int32 := fun v u d => prt (bxD x0 (x1 + 1) y0 v d ∨ (d / 16 = v ∧ x0 ≤ d % 16 ∧ d % 16 < u)) (stpO mk cov bi o d) (o d)
  have pe : ∀ (v u v' u' d : Nat), ((bxD x0 (x1 + 1) y0 v d ∨ (d / 16 = v ∧ x0 ≤ d % 16 ∧ d % 16 < u)) ↔ (bxD x0 (x1 + 1) y0 v' d ∨ (d / 16 = v' ∧ x0 ≤ d % 16 ∧ d % 16 < u'))) → pI v u d = pI v' u' d ∧ pO v u d = pO v' u' d := by
    intro v u v' u' d hh
    exact ⟨prt_iff hh, prt_iff hh⟩
  have inner : ∀ (v : Nat) (z : Nat → Nat → Int32), y0 ≤ v → v ≤ y1 → LyD A z q (pI v x0) (pO v x0) → ∃ z', fn_X6_stamp_L69 K N c q (nI x) (nI y) P (c + 4) (nI x1) (nI v) FU (nI x0) z = some z' ∧ LyD A z' q (pI (v + 1) x0) (pO (v + 1) x0) := by
    intro v z hv0 hv1 hzz
    have key := loop_ok (F := fun f u z => fn_X6_stamp_L69 K N c q (nI x) (nI y) P (c + 4) (nI x1) (nI v) f (nI u) z) (x1 + 1) (fun u z => x0 ≤ u ∧ LyD A z q (pI v u) (pO v u)) (fun z => LyD A z q (pI (v + 1) x0) (pO (v + 1) x0))
      (fun f z hz2 => by
        simp only [fn_X6_stamp_L69]
        rw [if_pos (nI_lt (Nat.lt_succ_self _) (by omega))]
        refine ok_some.mpr (hz2.2.congr (fun d hd => ?_))
        refine pe _ _ _ _ d ?_
        unfold bxD; omega)
      (fun f u z hu hz2 kk => by
        simp only [fn_X6_stamp_L69]
        obtain ⟨hu0, zz⟩ := hz2
        have hd : 16 * v + u < 192 := by omega
        have hf := e_isFreeC (s := z) (mk := mk) hP hd (by rw [zz.1 _ (by omega) (by omega)]; exact hm1) (by rw [zz.1 _ (by omega) (by omega)]; exact hm2 _ hd)
        have hno : ¬ (bxD x0 (x1 + 1) y0 v (16 * v + u) ∨ ((16 * v + u) / 16 = v ∧ x0 ≤ (16 * v + u) % 16 ∧ (16 * v + u) % 16 < u)) := by unfold bxD; omega
        have pn : pI v u (16 * v + u) = i (16 * v + u) ∧ pO v u (16 * v + u) = o (16 * v + u) := ⟨prt_f hno, prt_f hno⟩
        have py : pI v (u + 1) (16 * v + u) = stpI mk cov bi i o (16 * v + u) ∧ pO v (u + 1) (16 * v + u) = stpO mk cov bi o (16 * v + u) := ⟨prt_t (Or.inr (by omega)), prt_t (Or.inr (by omega))⟩
        have pk : ∀ d, d ≠ 16 * v + u → pI v (u + 1) d = pI v u d ∧ pO v (u + 1) d = pO v u d := fun d hne => pe _ _ _ _ d (by unfold bxD; omega)
        rw [if_neg (nI_nlt (by omega) (by omega)), pp3, Option.bind_some, e_dotAt, Option.bind_some, hf, Option.bind_some, gd_pos k6]
        by_cases f0 : frV mk (16 * v + u) = 0
        · rw [if_pos f0, nI_1 u]
          refine kk z ⟨by omega, zz.congr (fun d hd2 => ?_)⟩
          by_cases k : d = 16 * v + u
          · rw [k, py.1, py.2, pn.1, pn.2]
            unfold stpI stpO; rw [if_pos f0, if_pos f0]; exact ⟨rfl, rfl⟩
          · exact pk d k
        · have hcv := hcov z zz.1 _ hd
          rw [show (16 * v + u) % 16 = u by omega, show (16 * v + u) / 16 = v by omega] at hcv
          obtain ⟨z', w1, w2⟩ := e_apply (cv := cov (16 * v + u)) hL k7 pp4 k3 ⟨by omega, by omega⟩ zz hd
          rw [← hbi, pn.1, pn.2] at w2
          rw [if_neg f0, Option.bind_some, hcv, Option.bind_some, w1, Option.bind_some, nI_1 u]
          refine kk z' ⟨by omega, w2.congr (fun d hd2 => ?_)⟩
          by_cases k : d = 16 * v + u
          · rw [k, py.1, py.2, up1_s, up1_s]
            unfold stpI stpO; rw [if_neg f0, if_neg f0]; exact ⟨rfl, rfl⟩
          · rw [up1_k k, up1_k k]; exact pk d k)
      FU x0 z (by omega) (FU_lt (by omega)) ⟨Nat.le_refl _, hzz⟩
    obtain ⟨z', h1, h2⟩ := key
    exact ⟨z', h1, h2⟩
  have key := loop_ok (F := fun f v z => fn_X6_stamp_L47 K N c q (nI x) (nI y) P (c + 4) (nI y1) (nI x1) f (nI v) z) (y1 + 1) (fun v z => y0 ≤ v ∧ LyD A z q (pI v x0) (pO v x0)) (fun z => LyD A z q (pI (y1 + 1) x0) (pO (y1 + 1) x0))
    (fun f z hz2 => by
      simp only [fn_X6_stamp_L47]
      rw [if_pos (nI_lt (Nat.lt_succ_self _) (by omega))]
      exact ok_some.mpr hz2.2)
    (fun f v z hv hz2 kk => by
      simp only [fn_X6_stamp_L47]
      obtain ⟨hv0, zz⟩ := hz2
      have zr : z (c + 4) 1 = nI r := by rw [zz.1 _ (by omega) (by omega)]; exact hA1
      obtain ⟨z', w1, w2⟩ := inner v z hv0 (by omega) zz
      rw [if_neg (nI_nlt (by omega) (by omega)), zr, lo0 (by omega) (by omega), ← hx0, Option.bind_some, w1, Option.bind_some, nI_1 v]
      exact kk z' ⟨by omega, w2⟩)
    FU y0 s (by omega) (FU_lt (by omega)) ⟨Nat.le_refl _, h.congr (fun d hd => ?_)⟩
  · obtain ⟨s', h1, h2⟩ := key
    have h1 : fn_X6_stamp_L47 K N c q (nI x) (nI y) P (c + 4) (nI y1) (nI x1) FU (nI y0) s = some s' := h1
    refine ⟨s', ?_, h2.congr (fun d hd => ?_)⟩
    · have sr : s (c + 4) 1 = nI r := by rw [h.1 _ (by omega) (by omega)]; exact hA1
      unfold fn_X6_stamp
      rw [gd_pos k7, pp4, Option.bind_some, gd_pos k3, sr, nI_add, nI_add, show (11 : Int32) = nI 11 from rfl, show (15 : Int32) = nI 15 from rfl, hi11 (by omega) (by omega), hi11 (by omega) (by omega), lo0 (by omega) (by omega), ← hx1, ← hy1, ← hy0, Option.bind_some, Option.bind_some, Option.bind_some, h1, Option.bind_some]
    · show _ = pI (y1 + 1) x0 d ∧ _ = pO (y1 + 1) x0 d
      by_cases k : bxD x0 (x1 + 1) y0 (y1 + 1) d ∨ (d / 16 = y1 + 1 ∧ x0 ≤ d % 16 ∧ d % 16 < x0)
      · exact ⟨(prt_t k).symm, (prt_t k).symm⟩
      · have hc0 := hz d hd (by unfold bxD at k; omega)
        have e1 : pI (y1 + 1) x0 d = i d := prt_f k
        have e2 : pO (y1 + 1) x0 d = o d := prt_f k
        rw [e1, e2]
        unfold stpI stpO
        rw [hc0, (pnt_0 (hdi d hd)).1, (pnt_0 (hdi d hd)).2]
        exact ⟨by split <;> rfl, by split <;> rfl⟩
  · have k : ¬ (bxD x0 (x1 + 1) y0 y0 d ∨ (d / 16 = y0 ∧ x0 ≤ d % 16 ∧ d % 16 < x0)) := by unfold bxD; omega
    exact ⟨prt_f k, prt_f k⟩
theorem e_stampM {K N : Nat → Nat} {B s : Nat → Nat → Int32} {P : Nat → Nat → Option Nat} {m l x y : Nat} {i o mk cov : Nat → Int32} (hM : ModSh K N P m) (hl : l < 4) (hm1 : B m 3 = if cnt1 mk 192 = 0 then 1 else 0) (hm2 : ∀ d, d < 192 → B (m + 1) (1556 + d) = mk d ∧ (mk d = 0 ∨ mk d = 1)) (hcov : ∀ z : Nat → Nat → Int32, z (m + 1) 2 = B (m + 1) 2 → z (m + 1) 3 = B (m + 1) 3 → z (m + 1) 5 = B (m + 1) 5 → ∀ d, d < 192 → fn_X10_touched K N z P m (nI (d % 16) - nI x) (nI (d / 16) - nI y) = some (cov d)) (h : GrD B s m l i o) : ∃ s', fn_X10_stamps K N s P m (nI l) (nI x) (nI y) = some s' ∧ GrD B s' m l (stpI mk cov (B (m + 1) 4) i o) (stpO mk cov (B (m + 1) 4) o) := by
  obtain ⟨bi, hbi⟩ : ∃ bi, bi = B (m + 1) 4 := ⟨_, rfl⟩
  rw [← hbi]
  let pI : Nat → Nat → Int32 := fun v d => prt (d < v) (stpI mk cov bi i o d) (i d)
  let pO : Nat → Nat → Int32 := fun v d => prt (d < v) (stpO mk cov bi o d) (o d)
  have pn : ∀ v d, ¬ d < v → pI v d = i d ∧ pO v d = o d := fun v d h => ⟨prt_f h, prt_f h⟩
  have py : ∀ v d, d < v → pI v d = stpI mk cov bi i o d ∧ pO v d = stpO mk cov bi o d := fun v d h => ⟨prt_t h, prt_t h⟩
  have pk : ∀ v d, d ≠ v → pI (v + 1) d = pI v d ∧ pO (v + 1) d = pO v d := fun v d h => ⟨prt_iff (by omega), prt_iff (by omega)⟩
  have key := loop_ok (F := fun f v z => fn_X10_stamps_L3 K N m (nI l) (nI x) (nI y) P f (nI v) z) 192 (fun v z => GrD B z m l (pI v) (pO v)) (fun z => GrD B z m l (stpI mk cov bi i o) (stpO mk cov bi o))
    (fun f z hz => by
      simp only [fn_X10_stamps_L3]
      rw [if_pos (show (192 : Int32) ≤ nI 192 from nI_le (a := 192) (Nat.le_refl _) (by omega))]
      exact ok_some.mpr (hz.congr (fun d hd => ⟨(py 192 d hd).1.symm, (py 192 d hd).2.symm⟩)))
    (fun f v z hv zz kk => by
      simp only [fn_X10_stamps_L3]
      have hf := e_isFreeM (s := z) (mk := mk) hM hv (by rw [zz.1 _ (by omega)]; exact hm1) (by rw [zz.2.1 _ (by omega) (by omega)]; exact (hm2 v hv).1) (hm2 v hv).2
      have hcv := hcov z (zz.2.1 _ (by omega) (by omega)) (zz.2.1 _ (by omega) (by omega)) (zz.2.1 _ (by omega) (by omega)) v hv
      rw [if_neg (show ¬ (192 : Int32) ≤ nI v from nI_ge (b := 192) hv (by omega)), hf, Option.bind_some, gd_pos hM.1.1, m16 (by omega), d16 (by omega), hcv, Option.bind_some, nI_1 v]
      by_cases f0 : frV mk v = 0
      · rw [if_pos f0]
        refine kk z (zz.congr (fun d hd => ?_))
        by_cases k : d = v
        · rw [k, (py (v + 1) v (Nat.lt_succ_self v)).1, (py (v + 1) v (Nat.lt_succ_self v)).2, (pn v v (Nat.lt_irrefl v)).1, (pn v v (Nat.lt_irrefl v)).2]
          unfold stpI stpO; rw [if_pos f0, if_pos f0]; exact ⟨rfl, rfl⟩
        · exact pk v d k
      · obtain ⟨z', w1, w2⟩ := e_paints (cv := cov v) hM hl zz hv
        rw [← hbi, (pn v v (Nat.lt_irrefl v)).1, (pn v v (Nat.lt_irrefl v)).2] at w2
        rw [if_neg f0, w1, Option.bind_some]
        refine kk z' (w2.congr (fun d hd => ?_))
        by_cases k : d = v
        · rw [k, up1_s, up1_s, (py (v + 1) v (Nat.lt_succ_self v)).1, (py (v + 1) v (Nat.lt_succ_self v)).2]
          unfold stpI stpO; rw [if_neg f0, if_neg f0]; exact ⟨rfl, rfl⟩
        · rw [up1_k k, up1_k k]
          exact pk v d k)
    FU 0 s (Nat.zero_le _) (FU_lt (by omega)) (h.congr (fun d hd => pn 0 d (Nat.not_lt_zero d)))
  obtain ⟨s', h1, h2⟩ := key
  have h1 : fn_X10_stamps_L3 K N m (nI l) (nI x) (nI y) P FU 0 s = some s' := h1
  refine ⟨s', ?_, h2⟩
  unfold fn_X10_stamps
  rw [h1, Option.bind_some]
