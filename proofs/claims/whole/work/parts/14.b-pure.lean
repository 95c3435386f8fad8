/-! the relation at the start -/
abbrev Kst (b : Nat) : Nat → Nat := kk b (Ls 138)
abbrev Nst (b : Nat) : Nat → Nat := nn b (Ls 138)
abbrev Ist (b : Nat) : Nat → Nat → Int32 := It b (Ss 22)
abbrev Pst (b : Nat) : Nat → Nat → Option Nat := Pt b (Ts 136)
def fnd (i k j : Nat) : Bool := decide ((Ts 136).find? (fun t => t.1 == i && t.2.1 == k) = some (i, k, j))
def at? (j : Nat) (x : Nat × Nat) : Bool := decide ((Ls 138)[j]? = some x)
theorem fnd_rd {b i k j : Nat} (h : fnd i k j = true) : Pst b (b + i) k = some (b + j) := Pt_rd (of_decide_eq_true h)
theorem at_k {b j : Nat} {x : Nat × Nat} (h : at? j x = true) : Kst b (b + j) = x.1 ∧ Nst b (b + j) = x.2 := ⟨kkq (of_decide_eq_true h), nnq (of_decide_eq_true h)⟩
def layB (q : Nat) : Bool := at? q (5, 0) && (at? (q + 1) (12, 192) && (at? (q + 2) (12, 192) && (fnd q 0 (q + 1) && fnd q 1 (q + 2))))
def actB (q : Nat) : Bool := at? q (1, 0) && (at? (q + 1) (12, 192) && (at? (q + 2) (12, 192) && (fnd q 2 (q + 1) && fnd q 3 (q + 2))))
def sheB (i : Nat) : Bool := fnd 109 i (110 + 2 * i) && (at? (110 + 2 * i) (8, 0) && (at? (111 + 2 * i) (12, 40) && fnd (110 + 2 * i) 2 (111 + 2 * i)))
theorem layB_ok {b q : Nat} (h : layB q = true) : LaySh (Kst b) (Nst b) (Pst b) (b + q) := by
  unfold layB at h
  simp only [Bool.and_eq_true] at h
  obtain ⟨h0, h1, h2, h3, h4⟩ := h
  exact ⟨(at_k h0).1, (at_k h1).1, (at_k h1).2, (at_k h2).1, (at_k h2).2, fnd_rd h3, fnd_rd h4⟩
theorem actB_ok {b q : Nat} (h : actB q = true) : ActSh (Kst b) (Nst b) (Pst b) (b + q) := by
  unfold actB at h
  simp only [Bool.and_eq_true] at h
  obtain ⟨h0, h1, h2, h3, h4⟩ := h
  exact ⟨(at_k h0).1, (at_k h1).1, (at_k h1).2, (at_k h2).1, (at_k h2).2, fnd_rd h3, fnd_rd h4⟩
theorem act_all1 : ∀ i, i < 11 → actB (8 + 3 * i) = true ∧ fnd 7 i (8 + 3 * i) = true := by decide +kernel
theorem act_all2 : ∀ i, i < 11 → actB (60 + 3 * i) = true ∧ fnd 59 i (60 + 3 * i) = true := by decide +kernel
theorem lay_all1 : ∀ i, i < 4 → layB (41 + 3 * i) = true ∧ fnd 2 i (41 + 3 * i) = true := by decide +kernel
theorem lay_all2 : ∀ i, i < 4 → layB (93 + 3 * i) = true ∧ fnd 54 i (93 + 3 * i) = true := by decide +kernel
theorem she_all : ∀ i, i < 4 → sheB i = true := by decide +kernel
set_option maxRecDepth 20000 in
theorem st_pic (b : Nat) : PicSh (Kst b) (Nst b) (Pst b) (b + 1) := by
  refine ⟨⟨kkq (j := 1) (x := (7, 0)) rfl, kkq (j := 2) (x := (15, 4)) rfl, nnq (j := 2) (x := (15, 4)) rfl, kkq (j := 3) (x := (6, 0)) rfl, kkq (j := 4) (x := (13, 192)) rfl, nnq (j := 4) (x := (13, 192)) rfl, kkq (j := 5) (x := (3, 0)) rfl, kkq (j := 6) (x := (2, 0)) rfl, kkq (j := 7) (x := (14, 11)) rfl, nnq (j := 7) (x := (14, 11)) rfl⟩, ⟨Pt_rd (i := 1) (k := 0) (j := 2) rfl, Pt_rd (i := 1) (k := 3) (j := 3) rfl, Pt_rd (i := 1) (k := 4) (j := 5) rfl, Pt_rd (i := 1) (k := 5) (j := 6) rfl, Pt_rd (i := 3) (k := 0) (j := 4) rfl, Pt_rd (i := 6) (k := 0) (j := 7) rfl⟩, fun i hi => ?_, fun i hi => ?_⟩
  · have h := actB_ok (b := b) (act_all1 i hi).1
    rwa [show b + (8 + 3 * i) = b + 1 + 7 + 3 * i by omega] at h
  · have h := layB_ok (b := b) (lay_all1 i hi).1
    rwa [show b + (41 + 3 * i) = b + 1 + 40 + 3 * i by omega] at h
set_option maxRecDepth 20000 in
theorem st_kept (b : Nat) : PicSh (Kst b) (Nst b) (Pst b) (b + 53) := by
  refine ⟨⟨kkq (j := 53) (x := (7, 0)) rfl, kkq (j := 54) (x := (15, 4)) rfl, nnq (j := 54) (x := (15, 4)) rfl, kkq (j := 55) (x := (6, 0)) rfl, kkq (j := 56) (x := (13, 192)) rfl, nnq (j := 56) (x := (13, 192)) rfl, kkq (j := 57) (x := (3, 0)) rfl, kkq (j := 58) (x := (2, 0)) rfl, kkq (j := 59) (x := (14, 11)) rfl, nnq (j := 59) (x := (14, 11)) rfl⟩, ⟨Pt_rd (i := 53) (k := 0) (j := 54) rfl, Pt_rd (i := 53) (k := 3) (j := 55) rfl, Pt_rd (i := 53) (k := 4) (j := 57) rfl, Pt_rd (i := 53) (k := 5) (j := 58) rfl, Pt_rd (i := 55) (k := 0) (j := 56) rfl, Pt_rd (i := 58) (k := 0) (j := 59) rfl⟩, fun i hi => ?_, fun i hi => ?_⟩
  · have h := actB_ok (b := b) (act_all2 i hi).1
    rwa [show b + (60 + 3 * i) = b + 53 + 7 + 3 * i by omega] at h
  · have h := layB_ok (b := b) (lay_all2 i hi).1
    rwa [show b + (93 + 3 * i) = b + 53 + 40 + 3 * i by omega] at h
set_option maxRecDepth 20000 in
theorem st_mod (b : Nat) : ModSh (Kst b) (Nst b) (Pst b) (b + 126) := ⟨⟨kkq (j := 126) (x := (11, 0)) rfl, kkq (j := 127) (x := (12, 5608)) rfl, kkq (j := 128) (x := (12, 5608)) rfl, kkq (j := 129) (x := (12, 60)) rfl, kkq (j := 130) (x := (12, 384)) rfl, kkq (j := 131) (x := (12, 192)) rfl, kkq (j := 132) (x := (12, 192)) rfl, kkq (j := 133) (x := (12, 192)) rfl, kkq (j := 134) (x := (12, 192)) rfl, kkq (j := 135) (x := (12, 4)) rfl, kkq (j := 136) (x := (12, 4)) rfl, kkq (j := 137) (x := (12, 160)) rfl⟩, ⟨nnq (j := 127) (x := (12, 5608)) rfl, nnq (j := 128) (x := (12, 5608)) rfl, nnq (j := 129) (x := (12, 60)) rfl, nnq (j := 130) (x := (12, 384)) rfl, nnq (j := 131) (x := (12, 192)) rfl, nnq (j := 132) (x := (12, 192)) rfl, nnq (j := 133) (x := (12, 192)) rfl, nnq (j := 134) (x := (12, 192)) rfl, nnq (j := 135) (x := (12, 4)) rfl, nnq (j := 136) (x := (12, 4)) rfl, nnq (j := 137) (x := (12, 160)) rfl⟩, ⟨Pt_rd (i := 126) (k := 0) (j := 127) rfl, Pt_rd (i := 126) (k := 1) (j := 128) rfl, Pt_rd (i := 126) (k := 4) (j := 129) rfl, Pt_rd (i := 126) (k := 15) (j := 130) rfl, Pt_rd (i := 126) (k := 16) (j := 131) rfl, Pt_rd (i := 126) (k := 17) (j := 132) rfl, Pt_rd (i := 126) (k := 18) (j := 133) rfl, Pt_rd (i := 126) (k := 19) (j := 134) rfl, Pt_rd (i := 126) (k := 20) (j := 135) rfl, Pt_rd (i := 126) (k := 21) (j := 136) rfl, Pt_rd (i := 126) (k := 22) (j := 137) rfl⟩⟩
set_option maxRecDepth 20000 in
theorem st_root (b : Nat) : RootSh (Kst b) (Nst b) (Pst b) b := by
  refine ⟨⟨kkq (j := 0) (x := (10, 0)) rfl, Pt_rd (i := 0) (k := 0) (j := 1) rfl, Pt_rd (i := 0) (k := 1) (j := 53) rfl, Pt_rd (i := 0) (k := 3) (j := 105) rfl, Pt_rd (i := 0) (k := 4) (j := 109) rfl, Pt_rd (i := 0) (k := 5) (j := 118) rfl, Pt_rd (i := 0) (k := 6) (j := 122) rfl, Pt_rd (i := 0) (k := 7) (j := 125) rfl⟩, ⟨kkq (j := 105) (x := (9, 0)) rfl, kkq (j := 106) (x := (12, 60)) rfl, nnq (j := 106) (x := (12, 60)) rfl, kkq (j := 107) (x := (12, 60)) rfl, nnq (j := 107) (x := (12, 60)) rfl, kkq (j := 108) (x := (12, 60)) rfl, nnq (j := 108) (x := (12, 60)) rfl, Pt_rd (i := 105) (k := 0) (j := 106) rfl, Pt_rd (i := 105) (k := 2) (j := 107) rfl, Pt_rd (i := 105) (k := 3) (j := 108) rfl⟩, ⟨kkq (j := 109) (x := (16, 4)) rfl, nnq (j := 109) (x := (16, 4)) rfl, fun i hi => ?_⟩, ⟨kkq (j := 118) (x := (4, 0)) rfl, kkq (j := 119) (x := (13, 192)) rfl, nnq (j := 119) (x := (13, 192)) rfl, kkq (j := 120) (x := (12, 192)) rfl, nnq (j := 120) (x := (12, 192)) rfl, kkq (j := 121) (x := (12, 192)) rfl, nnq (j := 121) (x := (12, 192)) rfl, Pt_rd (i := 118) (k := 0) (j := 119) rfl, Pt_rd (i := 118) (k := 1) (j := 120) rfl, Pt_rd (i := 118) (k := 2) (j := 121) rfl⟩, layB_ok (q := 122) rfl, kkq (j := 125) (x := (12, 192)) rfl, nnq (j := 125) (x := (12, 192)) rfl⟩
  have h := she_all i hi
  unfold sheB at h
  simp only [Bool.and_eq_true] at h
  obtain ⟨h0, h1, h2, h3⟩ := h
  have r0 := fnd_rd (b := b) h0
  have r1 := (at_k (b := b) h1).1
  have r2 := at_k (b := b) h2
  have r3 := fnd_rd (b := b) h3
  rw [show b + (110 + 2 * i) = b + 110 + 2 * i by omega] at r0 r1 r3
  rw [show b + (111 + 2 * i) = b + 111 + 2 * i by omega] at r2 r3
  exact ⟨r0, r1, r2.1, r2.2, r3⟩
def nhi (i lo : Nat) : Bool := (Ss 22).all (fun t => !(t.1 == i && decide (lo ≤ t.2.1)))
theorem It_no {b i lo k : Nat} (h : nhi i lo = true) (hk : lo ≤ k) : Ist b (b + i) k = 0 := by
  refine It_r0 ?_
  rw [List.find?_eq_none]
  intro t ht
  unfold nhi at h
  rw [List.all_eq_true] at h
  have h1 := h t ht
  intro h2
  rw [Bool.and_eq_true, beq_iff_eq, beq_iff_eq] at h2
  obtain ⟨h3, h4⟩ := h2
  simp [h3, h4, hk] at h1
theorem cnt1_z {f : Nat → Int32} (h : ∀ d, f d = 0) : ∀ n, cnt1 f n = 0
  | 0 => rfl
  | n + 1 => by unfold cnt1; rw [cnt1_z h n, if_pos (h n)]
theorem id_perm (n : Nat) : Perm n (fun i => i) := ⟨fun _ h => h, fun _ _ _ _ h => h⟩
theorem st_picR (b : Nat) : PicR (Ist b) (Pst b) (b + 1) (Ist b (b + 127)) 0 0 0 (fun i => i) (fun i => i) := by
  have g0 : Ist b (b + 127) 0 = 0 := (It_r0 (T := Ss 22) (b := b) (i := 127) (k := 0) rfl)
  have g1 : Ist b (b + 127) 1 = 255 := (It_rd (T := Ss 22) (b := b) (i := 127) (k := 1) (v := 255) rfl)
  have g2 : Ist b (b + 127) 2 = 0 := (It_r0 (T := Ss 22) (b := b) (i := 127) (k := 2) rfl)
  have g3 : Ist b (b + 127) 3 = 1 := (It_rd (T := Ss 22) (b := b) (i := 127) (k := 3) (v := 1) rfl)
  have g4 : Ist b (b + 127) 4 = 0 := (It_r0 (T := Ss 22) (b := b) (i := 127) (k := 4) rfl)
  have g5 : Ist b (b + 127) 5 = 9 := (It_rd (T := Ss 22) (b := b) (i := 127) (k := 5) (v := 9) rfl)
  have g6 : Ist b (b + 127) 6 = 0 := (It_r0 (T := Ss 22) (b := b) (i := 127) (k := 6) rfl)
  have g7 : Ist b (b + 127) 7 = 0 := (It_r0 (T := Ss 22) (b := b) (i := 127) (k := 7) rfl)
  have gm : ∀ d, Ist b (b + 127) (1556 + d) = 0 := fun d => It_no (i := 127) (lo := 10) (by decide +kernel) (by omega)
  have cm : ∀ d, Ist b (b + 1 + 3) d = 0 := fun d => It_no (i := 4) (lo := 0) (by decide +kernel) (by omega)
  have c1 : Ist b (b + 1) 1 = 0 := (It_r0 (T := Ss 22) (b := b) (i := 1) (k := 1) rfl)
  have c2 : Ist b (b + 1) 2 = 255 := (It_rd (T := Ss 22) (b := b) (i := 1) (k := 2) (v := 255) rfl)
  have b0 : Ist b (b + 1 + 4) 0 = 0 := (It_rd (T := Ss 22) (b := b) (i := 5) (k := 0) (v := 0) rfl)
  have b1 : Ist b (b + 1 + 4) 1 = 1 := (It_rd (T := Ss 22) (b := b) (i := 5) (k := 1) (v := 1) rfl)
  have b2 : Ist b (b + 1 + 4) 2 = 0 := (It_rd (T := Ss 22) (b := b) (i := 5) (k := 2) (v := 0) rfl)
  have b3 : Ist b (b + 1 + 4) 3 = 9 := (It_rd (T := Ss 22) (b := b) (i := 5) (k := 3) (v := 9) rfl)
  have m1 : Ist b (b + 1 + 2) 1 = 0 := (It_r0 (T := Ss 22) (b := b) (i := 3) (k := 1) rfl)
  have a1 : Ist b (b + 1 + 5) 1 = 0 := (It_r0 (T := Ss 22) (b := b) (i := 6) (k := 1) rfl)
  have a2 : Ist b (b + 1 + 5) 2 = 0 := (It_r0 (T := Ss 22) (b := b) (i := 6) (k := 2) rfl)
  refine ⟨⟨by omega, by omega, by omega⟩, ⟨id_perm 4, id_perm 11, fun i hi => ?_, fun i hi => ?_⟩, ⟨c1, g0⟩, ⟨by rw [c2, g1], by rw [g1]; exact ⟨255, by decide, rfl⟩⟩, ⟨⟨by rw [b0, g2], by rw [b1, g3], by rw [b2, g4], by rw [b3, g5]⟩, by rw [g2]; exact ⟨0, by decide, rfl⟩, by rw [g3]; exact ⟨1, by decide, rfl⟩, Or.inr (by rw [g4]; exact ⟨0, by decide, rfl⟩), by rw [g5]; exact ⟨9, by decide, rfl⟩⟩, fun i hi => absurd hi (Nat.not_lt_zero i), ⟨fun d hd => ⟨by rw [cm, gm], Or.inl (gm d)⟩, ?_⟩, ⟨a1, g6, a2, g7⟩, fun k hk => absurd hk (Nat.not_lt_zero k)⟩
  · have h := fnd_rd (b := b) (lay_all1 i hi).2
    rwa [show b + (41 + 3 * i) = b + 1 + 40 + 3 * i by omega] at h
  · have h := fnd_rd (b := b) (act_all1 i hi).2
    rwa [show b + (8 + 3 * i) = b + 1 + 7 + 3 * i by omega] at h
  · rw [m1, cnt1_z gm]; rfl
def shvB (i : Nat) : Bool := decide ((Ss 22).find? (fun t => t.1 == 110 + 2 * i && t.2.1 == 0) = some (110 + 2 * i, 0, -1)) && (decide ((Ss 22).find? (fun t => t.1 == 135 && t.2.1 == i) = some (135, i, -1)) && (decide ((Ss 22).find? (fun t => t.1 == 110 + 2 * i && t.2.1 == 1) = none) && decide ((Ss 22).find? (fun t => t.1 == 136 && t.2.1 == i) = none)))
theorem shv_all : ∀ i, i < 4 → shvB i = true := by decide +kernel
theorem st_sheet (b i : Nat) (hi : i < 4) : SheetR (Ist b) b i := by
  have h := shv_all i hi
  unfold shvB at h
  simp only [Bool.and_eq_true, decide_eq_true_eq] at h
  obtain ⟨h0, h1, h2, h3⟩ := h
  have r0 : Ist b (b + (110 + 2 * i)) 0 = -1 := It_rd h0
  have r1 : Ist b (b + 135) i = -1 := It_rd h1
  have r2 : Ist b (b + (110 + 2 * i)) 1 = 0 := It_r0 h2
  have r3 : Ist b (b + 136) i = 0 := It_r0 h3
  rw [show b + (110 + 2 * i) = b + 110 + 2 * i by omega] at r0 r2
  exact ⟨0, by omega, by rw [r0, r1], Or.inl r1, fun _ => rfl, r2, r3, fun j hj => absurd hj (Nat.not_lt_zero j)⟩
theorem st_rel (b : Nat) : Rel (Kst b) (Nst b) b (Ist b) (Pst b) := by
  have i0 : Ist b b 2 = 0 := (It_rd (T := Ss 22) (b := b) (i := 0) (k := 2) (v := 0) rfl)
  have m2 : Ist b (b + 126) 2 = 0 := (It_r0 (T := Ss 22) (b := b) (i := 126) (k := 2) rfl)
  have t1 : Ist b (b + 105) 1 = 0 := (It_r0 (T := Ss 22) (b := b) (i := 105) (k := 1) rfl)
  have m5 : Ist b (b + 126) 5 = 0 := (It_r0 (T := Ss 22) (b := b) (i := 126) (k := 5) rfl)
  refine ⟨⟨st_root b, st_pic b, st_kept b, st_mod b⟩, ⟨0, 0, 0, _, _, st_picR b⟩, ⟨by rw [i0, m2], Or.inl ⟨m2, fun i => i, fun i => i, id_perm 4, id_perm 11, fun i hi => ?_, fun i hi => ?_⟩⟩, ⟨0, by omega, t1, m5, fun j hj => absurd hj (Nat.not_lt_zero j)⟩, fun i hi => st_sheet b i hi⟩
  · have h := fnd_rd (b := b) (lay_all2 i hi).2
    rwa [show b + (93 + 3 * i) = b + 93 + 3 * i by omega] at h
  · have h := fnd_rd (b := b) (act_all2 i hi).2
    rwa [show b + (60 + 3 * i) = b + 60 + 3 * i by omega] at h
theorem pure_all : Pure := by
  intro bb
  have eP : (fun _ _ => none : Nat → Nat → Option Nat) = Pt bb (Ts 0) := by
    funext a k; unfold Pt; split <;> rfl
  have eI : (fun _ _ => 0 : Nat → Nat → Int32) = It bb (Ss 0) := by
    funext a k; unfold It; split <;> rfl
  refine ⟨Rel (Kst bb) (Nst bb) bb, (Ls 126, It bb (Ss 15), Pt bb (Ts 125)), ?_, (Ls 138, It bb (Ss 22), Pt bb (Ts 136)), ?_, rfl, kkq (j := 0) (x := (10, 0)) rfl, kkq (j := 126) (x := (11, 0)) rfl, st_rel bb, q_layer, q_drop, q_move, q_dress, q_told, q_taken, q_dot, q_brush, q_touch, q_feed, q_stroke, q_box, q_flood, q_undo, q_mask, q_wand, q_grow, q_masked, q_dither, q_areas, q_sprayed, q_chance, q_tells, q_film, q_image, q_back, q_count, q_sheet, q_put, q_copy⟩
  · rw [eP, eI]; exact si_X9_1 bb
  · exact si_X10_1 bb
