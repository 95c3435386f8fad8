/-! the start: what the constructors make, cell by cell -/
def sL : List (Nat × Nat) := [(10, 0), (7, 0), (15, 4), (6, 0), (13, 192), (3, 0), (2, 0), (14, 11), (1, 0), (12, 192), (12, 192), (1, 0), (12, 192), (12, 192), (1, 0), (12, 192), (12, 192), (1, 0), (12, 192), (12, 192), (1, 0), (12, 192), (12, 192), (1, 0), (12, 192), (12, 192), (1, 0), (12, 192), (12, 192), (1, 0), (12, 192), (12, 192), (1, 0), (12, 192), (12, 192), (1, 0), (12, 192), (12, 192), (1, 0), (12, 192), (12, 192), (5, 0), (12, 192), (12, 192), (5, 0), (12, 192), (12, 192), (5, 0), (12, 192), (12, 192), (5, 0), (12, 192), (12, 192), (7, 0), (15, 4), (6, 0), (13, 192), (3, 0), (2, 0), (14, 11), (1, 0), (12, 192), (12, 192), (1, 0), (12, 192), (12, 192), (1, 0), (12, 192), (12, 192), (1, 0), (12, 192), (12, 192), (1, 0), (12, 192), (12, 192), (1, 0), (12, 192), (12, 192), (1, 0), (12, 192), (12, 192), (1, 0), (12, 192), (12, 192), (1, 0), (12, 192), (12, 192), (1, 0), (12, 192), (12, 192), (1, 0), (12, 192), (12, 192), (5, 0), (12, 192), (12, 192), (5, 0), (12, 192), (12, 192), (5, 0), (12, 192), (12, 192), (5, 0), (12, 192), (12, 192), (9, 0), (12, 60), (12, 60), (12, 60), (16, 4), (8, 0), (12, 40), (8, 0), (12, 40), (8, 0), (12, 40), (8, 0), (12, 40), (4, 0), (13, 192), (12, 192), (12, 192), (5, 0), (12, 192), (12, 192), (12, 192), (11, 0), (12, 5608), (12, 5608), (12, 60), (12, 384), (12, 192), (12, 192), (12, 192), (12, 192), (12, 4), (12, 4), (12, 160)]
def sT : List (Nat × Nat × Nat) := [(1, 0, 2), (3, 0, 4), (1, 3, 3), (1, 4, 5), (6, 0, 7), (8, 2, 9), (8, 3, 10), (7, 0, 8), (11, 2, 12), (11, 3, 13), (7, 1, 11), (14, 2, 15), (14, 3, 16), (7, 2, 14), (17, 2, 18), (17, 3, 19), (7, 3, 17), (20, 2, 21), (20, 3, 22), (7, 4, 20), (23, 2, 24), (23, 3, 25), (7, 5, 23), (26, 2, 27), (26, 3, 28), (7, 6, 26), (29, 2, 30), (29, 3, 31), (7, 7, 29), (32, 2, 33), (32, 3, 34), (7, 8, 32), (35, 2, 36), (35, 3, 37), (7, 9, 35), (38, 2, 39), (38, 3, 40), (7, 10, 38), (1, 5, 6), (41, 0, 42), (41, 1, 43), (2, 0, 41), (44, 0, 45), (44, 1, 46), (2, 1, 44), (47, 0, 48), (47, 1, 49), (2, 2, 47), (50, 0, 51), (50, 1, 52), (2, 3, 50), (0, 0, 1), (53, 0, 54), (55, 0, 56), (53, 3, 55), (53, 4, 57), (58, 0, 59), (60, 2, 61), (60, 3, 62), (59, 0, 60), (63, 2, 64), (63, 3, 65), (59, 1, 63), (66, 2, 67), (66, 3, 68), (59, 2, 66), (69, 2, 70), (69, 3, 71), (59, 3, 69), (72, 2, 73), (72, 3, 74), (59, 4, 72), (75, 2, 76), (75, 3, 77), (59, 5, 75), (78, 2, 79), (78, 3, 80), (59, 6, 78), (81, 2, 82), (81, 3, 83), (59, 7, 81), (84, 2, 85), (84, 3, 86), (59, 8, 84), (87, 2, 88), (87, 3, 89), (59, 9, 87), (90, 2, 91), (90, 3, 92), (59, 10, 90), (53, 5, 58), (93, 0, 94), (93, 1, 95), (54, 0, 93), (96, 0, 97), (96, 1, 98), (54, 1, 96), (99, 0, 100), (99, 1, 101), (54, 2, 99), (102, 0, 103), (102, 1, 104), (54, 3, 102), (0, 1, 53), (105, 0, 106), (105, 2, 107), (105, 3, 108), (0, 3, 105), (0, 4, 109), (110, 2, 111), (109, 0, 110), (112, 2, 113), (109, 1, 112), (114, 2, 115), (109, 2, 114), (116, 2, 117), (109, 3, 116), (118, 0, 119), (118, 1, 120), (118, 2, 121), (0, 5, 118), (122, 0, 123), (122, 1, 124), (0, 6, 122), (0, 7, 125), (126, 0, 127), (126, 1, 128), (126, 4, 129), (126, 15, 130), (126, 16, 131), (126, 17, 132), (126, 18, 133), (126, 19, 134), (126, 20, 135), (126, 21, 136), (126, 22, 137)]
def sS : List (Nat × Nat × Int32) := [(1, 2, (255 : Int32)), (5, 0, (0 : Int32)), (5, 1, (1 : Int32)), (5, 2, (0 : Int32)), (5, 3, (9 : Int32)), (53, 2, (255 : Int32)), (57, 0, (0 : Int32)), (57, 1, (1 : Int32)), (57, 2, (0 : Int32)), (57, 3, (9 : Int32)), (0, 2, (0 : Int32)), (110, 0, (-1 : Int32)), (112, 0, (-1 : Int32)), (114, 0, (-1 : Int32)), (116, 0, (-1 : Int32)), (127, 1, (255 : Int32)), (127, 3, (1 : Int32)), (127, 5, (9 : Int32)), (135, 0, (-1 : Int32)), (135, 1, (-1 : Int32)), (135, 2, (-1 : Int32)), (135, 3, (-1 : Int32))]
def Ls (n : Nat) : List (Nat × Nat) := sL.take n
def Ts (n : Nat) : List (Nat × Nat × Nat) := sT.take n
def Ss (n : Nat) : List (Nat × Nat × Int32) := sS.take n
def Pt (b : Nat) (T : List (Nat × Nat × Nat)) : Nat → Nat → Option Nat := fun a k => if b ≤ a then (T.find? (fun t => t.1 == a - b && t.2.1 == k)).map (fun t => b + t.2.2) else none
def It (b : Nat) (T : List (Nat × Nat × Int32)) : Nat → Nat → Int32 := fun a k => if b ≤ a then ((T.find? (fun t => t.1 == a - b && t.2.1 == k)).map (fun t => t.2.2)).getD 0 else 0
theorem sl_al {α : Type} {b : Nat} {kn kn' : List (Nat × Nat)} {q : Nat} {x : Nat × Nat} {F : List (Nat × Nat) → Nat → Option α} {R : Option α} (hk : kn' = kn ++ [x]) (hq : q = b + kn.length) (h : F kn' q = R) : Option.bind (some (kn ++ [x])) (fun kn1 => Option.bind (some (b + kn.length)) (fun q => F kn1 q)) = R := by
  subst hk hq; exact h
theorem sl_gs {α : Type} {c : Prop} {x R : Option α} (h : c) (k : x = R) : gd c x = R := by rw [gd_pos h]; exact k
theorem sl_pu {α β : Type} {P P' : α} {F : α → Option β} {R : Option β} (hP : P' = P) (k : F P' = R) : Option.bind (some P) F = R := by subst hP; exact k
theorem sl_ca {α β : Type} {x : Option α} {r : α} {F : α → Option β} {R : Option β} (h : x = some r) (k : F r = R) : Option.bind x F = R := by subst h; exact k
theorem kkq {b j : Nat} {l : List (Nat × Nat)} {x : Nat × Nat} (h : l[j]? = some x) : kk b l (b + j) = x.1 := by
  unfold kk; rw [if_pos (Nat.le_add_right _ _), show b + j - b = j by omega, List.getD_eq_getElem?_getD, h]; rfl
theorem nnq {b j : Nat} {l : List (Nat × Nat)} {x : Nat × Nat} (h : l[j]? = some x) : nn b l (b + j) = x.2 := by
  unfold nn; rw [if_pos (Nat.le_add_right _ _), show b + j - b = j by omega, List.getD_eq_getElem?_getD, h]; rfl
theorem vpq {b j : Nat} {l : List (Nat × Nat)} {x : Nat × Nat} {v : Int32} (h : l[j]? = some x) (hv : vp_in v x.2) : vp_in v (nn b l (b + j)) := by rw [nnq h]; exact hv
theorem Pt_rd {b i k j : Nat} {T : List (Nat × Nat × Nat)} (h : T.find? (fun t => t.1 == i && t.2.1 == k) = some (i, k, j)) : Pt b T (b + i) k = some (b + j) := by
  unfold Pt; rw [if_pos (Nat.le_add_right _ _), show b + i - b = i by omega, h]; rfl
theorem It_rd {b i k : Nat} {v : Int32} {T : List (Nat × Nat × Int32)} (h : T.find? (fun t => t.1 == i && t.2.1 == k) = some (i, k, v)) : It b T (b + i) k = v := by
  unfold It; rw [if_pos (Nat.le_add_right _ _), show b + i - b = i by omega, h]; rfl
theorem It_r0 {b i k : Nat} {T : List (Nat × Nat × Int32)} (h : T.find? (fun t => t.1 == i && t.2.1 == k) = none) : It b T (b + i) k = 0 := by
  unfold It; rw [if_pos (Nat.le_add_right _ _), show b + i - b = i by omega, h]; rfl
theorem sl_key {i k x y : Nat} (h : ¬ (x = i ∧ y = k)) : (i == x && k == y) = false := by
  rw [Bool.and_eq_false_iff]
  by_cases c : x = i
  · exact Or.inr (by rw [beq_eq_false_iff_ne]; exact fun e => h ⟨c, e.symm⟩)
  · exact Or.inl (by rw [beq_eq_false_iff_ne]; exact fun e => c e.symm)
theorem Pt_up {b i k j : Nat} {T T' : List (Nat × Nat × Nat)} (hT : T' = T ++ [(i, k, j)]) (hn : T.find? (fun t => t.1 == i && t.2.1 == k) = none) : Pt b T' = upP (Pt b T) (b + i) k (some (b + j)) := by
  subst hT
  funext a y
  unfold Pt upP
  dsimp only
  by_cases h : a = b + i
  · subst h
    rw [if_pos rfl, if_pos (Nat.le_add_right _ _), show b + i - b = i by omega, List.find?_append]
    by_cases h2 : y = k
    · subst h2
      rw [if_pos rfl, hn]
      simp
    · have e : ([(i, k, j)] : List (Nat × Nat × Nat)).find? (fun t => t.1 == i && t.2.1 == y) = none := by
        rw [List.find?_cons, show ((i, k, j).1 == i && (i, k, j).2.1 == y) = false from sl_key (x := i) (fun q => h2 q.2)]; rfl
      rw [if_neg h2, if_pos (Nat.le_add_right _ _), e, Option.or_none]
  · rw [if_neg h]
    by_cases h3 : b ≤ a
    · rw [if_pos h3, if_pos h3, List.find?_append]
      have e : ([(i, k, j)] : List (Nat × Nat × Nat)).find? (fun t => t.1 == a - b && t.2.1 == y) = none := by
        rw [List.find?_cons, show ((i, k, j).1 == a - b && (i, k, j).2.1 == y) = false from sl_key (x := a - b) (fun q => h (by omega))]; rfl
      rw [e, Option.or_none]
    · rw [if_neg h3, if_neg h3]
theorem It_up {b i k : Nat} {v : Int32} {T T' : List (Nat × Nat × Int32)} (hT : T' = T ++ [(i, k, v)]) (hn : T.find? (fun t => t.1 == i && t.2.1 == k) = none) : It b T' = up2 (It b T) (b + i) k v := by
  subst hT
  funext a y
  unfold It up2
  dsimp only
  by_cases h : a = b + i
  · subst h
    rw [if_pos rfl, if_pos (Nat.le_add_right _ _), show b + i - b = i by omega, List.find?_append]
    by_cases h2 : y = k
    · subst h2
      rw [if_pos rfl, hn]
      simp
    · have e : ([(i, k, v)] : List (Nat × Nat × Int32)).find? (fun t => t.1 == i && t.2.1 == y) = none := by
        rw [List.find?_cons, show ((i, k, v).1 == i && (i, k, v).2.1 == y) = false from sl_key (x := i) (fun q => h2 q.2)]; rfl
      rw [if_neg h2, if_pos (Nat.le_add_right _ _), e, Option.or_none]
  · rw [if_neg h]
    by_cases h3 : b ≤ a
    · rw [if_pos h3, if_pos h3, List.find?_append]
      have e : ([(i, k, v)] : List (Nat × Nat × Int32)).find? (fun t => t.1 == a - b && t.2.1 == y) = none := by
        rw [List.find?_cons, show ((i, k, v).1 == a - b && (i, k, v).2.1 == y) = false from sl_key (x := a - b) (fun q => h (by omega))]; rfl
      rw [e, Option.or_none]
    · rw [if_neg h3, if_neg h3]
set_option maxRecDepth 20000 in
theorem si_X5_1 (b : Nat) : fn_X5_init b (Ls 4) (It b (Ss 1)) (Pt b (Ts 1)) (b + 3) = some (Ls 5, It b (Ss 1), Pt b (Ts 2)) := by
  unfold fn_X5_init
  refine sl_al (kn' := Ls 5) (q := b + 4) rfl rfl ?_
  refine sl_gs (kkq (x := (6, 0)) rfl) ?_
  refine sl_pu (P' := Pt b (Ts 2)) (Pt_up (T := Ts 1) (i := 3) (j := 4) rfl rfl) ?_
  exact rfl
set_option maxRecDepth 20000 in
theorem si_X2_1 (b : Nat) : fn_X2_init b (Ls 6) (It b (Ss 1)) (Pt b (Ts 3)) (b + 5) = some (Ls 6, It b (Ss 5), Pt b (Ts 3)) := by
  unfold fn_X2_init
  refine sl_gs (kkq (x := (3, 0)) rfl) ?_
  refine sl_pu (P' := It b (Ss 2)) (It_up (T := Ss 1) (i := 5) rfl rfl) ?_
  refine sl_pu (P' := It b (Ss 3)) (It_up (T := Ss 2) (i := 5) rfl rfl) ?_
  refine sl_pu (P' := It b (Ss 4)) (It_up (T := Ss 3) (i := 5) rfl rfl) ?_
  refine sl_pu (P' := It b (Ss 5)) (It_up (T := Ss 4) (i := 5) rfl rfl) ?_
  exact rfl
set_option maxRecDepth 20000 in
theorem si_X0_1 (b : Nat) : fn_X0_init b (Ls 9) (It b (Ss 5)) (Pt b (Ts 5)) (b + 8) = some (Ls 11, It b (Ss 5), Pt b (Ts 7)) := by
  unfold fn_X0_init
  refine sl_al (kn' := Ls 10) (q := b + 9) rfl rfl ?_
  refine sl_gs (kkq (x := (1, 0)) rfl) ?_
  refine sl_pu (P' := Pt b (Ts 6)) (Pt_up (T := Ts 5) (i := 8) (j := 9) rfl rfl) ?_
  refine sl_al (kn' := Ls 11) (q := b + 10) rfl rfl ?_
  refine sl_gs (kkq (x := (1, 0)) rfl) ?_
  refine sl_pu (P' := Pt b (Ts 7)) (Pt_up (T := Ts 6) (i := 8) (j := 10) rfl rfl) ?_
  exact rfl
set_option maxRecDepth 20000 in
theorem si_X0_2 (b : Nat) : fn_X0_init b (Ls 12) (It b (Ss 5)) (Pt b (Ts 8)) (b + 11) = some (Ls 14, It b (Ss 5), Pt b (Ts 10)) := by
  unfold fn_X0_init
  refine sl_al (kn' := Ls 13) (q := b + 12) rfl rfl ?_
  refine sl_gs (kkq (x := (1, 0)) rfl) ?_
  refine sl_pu (P' := Pt b (Ts 9)) (Pt_up (T := Ts 8) (i := 11) (j := 12) rfl rfl) ?_
  refine sl_al (kn' := Ls 14) (q := b + 13) rfl rfl ?_
  refine sl_gs (kkq (x := (1, 0)) rfl) ?_
  refine sl_pu (P' := Pt b (Ts 10)) (Pt_up (T := Ts 9) (i := 11) (j := 13) rfl rfl) ?_
  exact rfl
set_option maxRecDepth 20000 in
theorem si_X0_3 (b : Nat) : fn_X0_init b (Ls 15) (It b (Ss 5)) (Pt b (Ts 11)) (b + 14) = some (Ls 17, It b (Ss 5), Pt b (Ts 13)) := by
  unfold fn_X0_init
  refine sl_al (kn' := Ls 16) (q := b + 15) rfl rfl ?_
  refine sl_gs (kkq (x := (1, 0)) rfl) ?_
  refine sl_pu (P' := Pt b (Ts 12)) (Pt_up (T := Ts 11) (i := 14) (j := 15) rfl rfl) ?_
  refine sl_al (kn' := Ls 17) (q := b + 16) rfl rfl ?_
  refine sl_gs (kkq (x := (1, 0)) rfl) ?_
  refine sl_pu (P' := Pt b (Ts 13)) (Pt_up (T := Ts 12) (i := 14) (j := 16) rfl rfl) ?_
  exact rfl
set_option maxRecDepth 20000 in
theorem si_X0_4 (b : Nat) : fn_X0_init b (Ls 18) (It b (Ss 5)) (Pt b (Ts 14)) (b + 17) = some (Ls 20, It b (Ss 5), Pt b (Ts 16)) := by
  unfold fn_X0_init
  refine sl_al (kn' := Ls 19) (q := b + 18) rfl rfl ?_
  refine sl_gs (kkq (x := (1, 0)) rfl) ?_
  refine sl_pu (P' := Pt b (Ts 15)) (Pt_up (T := Ts 14) (i := 17) (j := 18) rfl rfl) ?_
  refine sl_al (kn' := Ls 20) (q := b + 19) rfl rfl ?_
  refine sl_gs (kkq (x := (1, 0)) rfl) ?_
  refine sl_pu (P' := Pt b (Ts 16)) (Pt_up (T := Ts 15) (i := 17) (j := 19) rfl rfl) ?_
  exact rfl
set_option maxRecDepth 20000 in
theorem si_X0_5 (b : Nat) : fn_X0_init b (Ls 21) (It b (Ss 5)) (Pt b (Ts 17)) (b + 20) = some (Ls 23, It b (Ss 5), Pt b (Ts 19)) := by
  unfold fn_X0_init
  refine sl_al (kn' := Ls 22) (q := b + 21) rfl rfl ?_
  refine sl_gs (kkq (x := (1, 0)) rfl) ?_
  refine sl_pu (P' := Pt b (Ts 18)) (Pt_up (T := Ts 17) (i := 20) (j := 21) rfl rfl) ?_
  refine sl_al (kn' := Ls 23) (q := b + 22) rfl rfl ?_
  refine sl_gs (kkq (x := (1, 0)) rfl) ?_
  refine sl_pu (P' := Pt b (Ts 19)) (Pt_up (T := Ts 18) (i := 20) (j := 22) rfl rfl) ?_
  exact rfl
set_option maxRecDepth 20000 in
theorem si_X0_6 (b : Nat) : fn_X0_init b (Ls 24) (It b (Ss 5)) (Pt b (Ts 20)) (b + 23) = some (Ls 26, It b (Ss 5), Pt b (Ts 22)) := by
  unfold fn_X0_init
  refine sl_al (kn' := Ls 25) (q := b + 24) rfl rfl ?_
  refine sl_gs (kkq (x := (1, 0)) rfl) ?_
  refine sl_pu (P' := Pt b (Ts 21)) (Pt_up (T := Ts 20) (i := 23) (j := 24) rfl rfl) ?_
  refine sl_al (kn' := Ls 26) (q := b + 25) rfl rfl ?_
  refine sl_gs (kkq (x := (1, 0)) rfl) ?_
  refine sl_pu (P' := Pt b (Ts 22)) (Pt_up (T := Ts 21) (i := 23) (j := 25) rfl rfl) ?_
  exact rfl
set_option maxRecDepth 20000 in
theorem si_X0_7 (b : Nat) : fn_X0_init b (Ls 27) (It b (Ss 5)) (Pt b (Ts 23)) (b + 26) = some (Ls 29, It b (Ss 5), Pt b (Ts 25)) := by
  unfold fn_X0_init
  refine sl_al (kn' := Ls 28) (q := b + 27) rfl rfl ?_
  refine sl_gs (kkq (x := (1, 0)) rfl) ?_
  refine sl_pu (P' := Pt b (Ts 24)) (Pt_up (T := Ts 23) (i := 26) (j := 27) rfl rfl) ?_
  refine sl_al (kn' := Ls 29) (q := b + 28) rfl rfl ?_
  refine sl_gs (kkq (x := (1, 0)) rfl) ?_
  refine sl_pu (P' := Pt b (Ts 25)) (Pt_up (T := Ts 24) (i := 26) (j := 28) rfl rfl) ?_
  exact rfl
set_option maxRecDepth 20000 in
theorem si_X0_8 (b : Nat) : fn_X0_init b (Ls 30) (It b (Ss 5)) (Pt b (Ts 26)) (b + 29) = some (Ls 32, It b (Ss 5), Pt b (Ts 28)) := by
  unfold fn_X0_init
  refine sl_al (kn' := Ls 31) (q := b + 30) rfl rfl ?_
  refine sl_gs (kkq (x := (1, 0)) rfl) ?_
  refine sl_pu (P' := Pt b (Ts 27)) (Pt_up (T := Ts 26) (i := 29) (j := 30) rfl rfl) ?_
  refine sl_al (kn' := Ls 32) (q := b + 31) rfl rfl ?_
  refine sl_gs (kkq (x := (1, 0)) rfl) ?_
  refine sl_pu (P' := Pt b (Ts 28)) (Pt_up (T := Ts 27) (i := 29) (j := 31) rfl rfl) ?_
  exact rfl
set_option maxRecDepth 20000 in
theorem si_X0_9 (b : Nat) : fn_X0_init b (Ls 33) (It b (Ss 5)) (Pt b (Ts 29)) (b + 32) = some (Ls 35, It b (Ss 5), Pt b (Ts 31)) := by
  unfold fn_X0_init
  refine sl_al (kn' := Ls 34) (q := b + 33) rfl rfl ?_
  refine sl_gs (kkq (x := (1, 0)) rfl) ?_
  refine sl_pu (P' := Pt b (Ts 30)) (Pt_up (T := Ts 29) (i := 32) (j := 33) rfl rfl) ?_
  refine sl_al (kn' := Ls 35) (q := b + 34) rfl rfl ?_
  refine sl_gs (kkq (x := (1, 0)) rfl) ?_
  refine sl_pu (P' := Pt b (Ts 31)) (Pt_up (T := Ts 30) (i := 32) (j := 34) rfl rfl) ?_
  exact rfl
set_option maxRecDepth 20000 in
theorem si_X0_10 (b : Nat) : fn_X0_init b (Ls 36) (It b (Ss 5)) (Pt b (Ts 32)) (b + 35) = some (Ls 38, It b (Ss 5), Pt b (Ts 34)) := by
  unfold fn_X0_init
  refine sl_al (kn' := Ls 37) (q := b + 36) rfl rfl ?_
  refine sl_gs (kkq (x := (1, 0)) rfl) ?_
  refine sl_pu (P' := Pt b (Ts 33)) (Pt_up (T := Ts 32) (i := 35) (j := 36) rfl rfl) ?_
  refine sl_al (kn' := Ls 38) (q := b + 37) rfl rfl ?_
  refine sl_gs (kkq (x := (1, 0)) rfl) ?_
  refine sl_pu (P' := Pt b (Ts 34)) (Pt_up (T := Ts 33) (i := 35) (j := 37) rfl rfl) ?_
  exact rfl
set_option maxRecDepth 20000 in
theorem si_X0_11 (b : Nat) : fn_X0_init b (Ls 39) (It b (Ss 5)) (Pt b (Ts 35)) (b + 38) = some (Ls 41, It b (Ss 5), Pt b (Ts 37)) := by
  unfold fn_X0_init
  refine sl_al (kn' := Ls 40) (q := b + 39) rfl rfl ?_
  refine sl_gs (kkq (x := (1, 0)) rfl) ?_
  refine sl_pu (P' := Pt b (Ts 36)) (Pt_up (T := Ts 35) (i := 38) (j := 39) rfl rfl) ?_
  refine sl_al (kn' := Ls 41) (q := b + 40) rfl rfl ?_
  refine sl_gs (kkq (x := (1, 0)) rfl) ?_
  refine sl_pu (P' := Pt b (Ts 37)) (Pt_up (T := Ts 36) (i := 38) (j := 40) rfl rfl) ?_
  exact rfl
set_option maxRecDepth 20000 in
theorem si_X1_1 (b : Nat) : fn_X1_init b (Ls 7) (It b (Ss 5)) (Pt b (Ts 4)) (b + 6) = some (Ls 41, It b (Ss 5), Pt b (Ts 38)) := by
  unfold fn_X1_init
  refine sl_al (kn' := Ls 8) (q := b + 7) rfl rfl ?_
  refine sl_gs (kkq (x := (2, 0)) rfl) ?_
  refine sl_pu (P' := Pt b (Ts 5)) (Pt_up (T := Ts 4) (i := 6) (j := 7) rfl rfl) ?_
  refine sl_ca (Pt_rd (T := Ts 5) (i := 6) (j := 7) rfl) ?_
  refine sl_al (kn' := Ls 9) (q := b + 8) rfl rfl ?_
  refine sl_ca (si_X0_1 b) ?_
  dsimp only
  refine sl_gs ⟨kkq (x := (14, 11)) rfl, vpq (x := (14, 11)) rfl (vp_in_nI (n := 0) (by decide) (by decide))⟩ ?_
  refine sl_gs (kkq (x := (1, 0)) rfl) ?_
  refine sl_pu (P' := Pt b (Ts 8)) (Pt_up (T := Ts 7) (i := 7) (j := 8) rfl rfl) ?_
  refine sl_gs (kkq (x := (2, 0)) rfl) ?_
  refine sl_ca (Pt_rd (T := Ts 8) (i := 6) (j := 7) rfl) ?_
  refine sl_al (kn' := Ls 12) (q := b + 11) rfl rfl ?_
  refine sl_ca (si_X0_2 b) ?_
  dsimp only
  refine sl_gs ⟨kkq (x := (14, 11)) rfl, vpq (x := (14, 11)) rfl (vp_in_nI (n := 1) (by decide) (by decide))⟩ ?_
  refine sl_gs (kkq (x := (1, 0)) rfl) ?_
  refine sl_pu (P' := Pt b (Ts 11)) (Pt_up (T := Ts 10) (i := 7) (j := 11) rfl rfl) ?_
  refine sl_gs (kkq (x := (2, 0)) rfl) ?_
  refine sl_ca (Pt_rd (T := Ts 11) (i := 6) (j := 7) rfl) ?_
  refine sl_al (kn' := Ls 15) (q := b + 14) rfl rfl ?_
  refine sl_ca (si_X0_3 b) ?_
  dsimp only
  refine sl_gs ⟨kkq (x := (14, 11)) rfl, vpq (x := (14, 11)) rfl (vp_in_nI (n := 2) (by decide) (by decide))⟩ ?_
  refine sl_gs (kkq (x := (1, 0)) rfl) ?_
  refine sl_pu (P' := Pt b (Ts 14)) (Pt_up (T := Ts 13) (i := 7) (j := 14) rfl rfl) ?_
  refine sl_gs (kkq (x := (2, 0)) rfl) ?_
  refine sl_ca (Pt_rd (T := Ts 14) (i := 6) (j := 7) rfl) ?_
  refine sl_al (kn' := Ls 18) (q := b + 17) rfl rfl ?_
  refine sl_ca (si_X0_4 b) ?_
  dsimp only
  refine sl_gs ⟨kkq (x := (14, 11)) rfl, vpq (x := (14, 11)) rfl (vp_in_nI (n := 3) (by decide) (by decide))⟩ ?_
  refine sl_gs (kkq (x := (1, 0)) rfl) ?_
  refine sl_pu (P' := Pt b (Ts 17)) (Pt_up (T := Ts 16) (i := 7) (j := 17) rfl rfl) ?_
  refine sl_gs (kkq (x := (2, 0)) rfl) ?_
  refine sl_ca (Pt_rd (T := Ts 17) (i := 6) (j := 7) rfl) ?_
  refine sl_al (kn' := Ls 21) (q := b + 20) rfl rfl ?_
  refine sl_ca (si_X0_5 b) ?_
  dsimp only
  refine sl_gs ⟨kkq (x := (14, 11)) rfl, vpq (x := (14, 11)) rfl (vp_in_nI (n := 4) (by decide) (by decide))⟩ ?_
  refine sl_gs (kkq (x := (1, 0)) rfl) ?_
  refine sl_pu (P' := Pt b (Ts 20)) (Pt_up (T := Ts 19) (i := 7) (j := 20) rfl rfl) ?_
  refine sl_gs (kkq (x := (2, 0)) rfl) ?_
  refine sl_ca (Pt_rd (T := Ts 20) (i := 6) (j := 7) rfl) ?_
  refine sl_al (kn' := Ls 24) (q := b + 23) rfl rfl ?_
  refine sl_ca (si_X0_6 b) ?_
  dsimp only
  refine sl_gs ⟨kkq (x := (14, 11)) rfl, vpq (x := (14, 11)) rfl (vp_in_nI (n := 5) (by decide) (by decide))⟩ ?_
  refine sl_gs (kkq (x := (1, 0)) rfl) ?_
  refine sl_pu (P' := Pt b (Ts 23)) (Pt_up (T := Ts 22) (i := 7) (j := 23) rfl rfl) ?_
  refine sl_gs (kkq (x := (2, 0)) rfl) ?_
  refine sl_ca (Pt_rd (T := Ts 23) (i := 6) (j := 7) rfl) ?_
  refine sl_al (kn' := Ls 27) (q := b + 26) rfl rfl ?_
  refine sl_ca (si_X0_7 b) ?_
  dsimp only
  refine sl_gs ⟨kkq (x := (14, 11)) rfl, vpq (x := (14, 11)) rfl (vp_in_nI (n := 6) (by decide) (by decide))⟩ ?_
  refine sl_gs (kkq (x := (1, 0)) rfl) ?_
  refine sl_pu (P' := Pt b (Ts 26)) (Pt_up (T := Ts 25) (i := 7) (j := 26) rfl rfl) ?_
  refine sl_gs (kkq (x := (2, 0)) rfl) ?_
  refine sl_ca (Pt_rd (T := Ts 26) (i := 6) (j := 7) rfl) ?_
  refine sl_al (kn' := Ls 30) (q := b + 29) rfl rfl ?_
  refine sl_ca (si_X0_8 b) ?_
  dsimp only
  refine sl_gs ⟨kkq (x := (14, 11)) rfl, vpq (x := (14, 11)) rfl (vp_in_nI (n := 7) (by decide) (by decide))⟩ ?_
  refine sl_gs (kkq (x := (1, 0)) rfl) ?_
  refine sl_pu (P' := Pt b (Ts 29)) (Pt_up (T := Ts 28) (i := 7) (j := 29) rfl rfl) ?_
  refine sl_gs (kkq (x := (2, 0)) rfl) ?_
  refine sl_ca (Pt_rd (T := Ts 29) (i := 6) (j := 7) rfl) ?_
  refine sl_al (kn' := Ls 33) (q := b + 32) rfl rfl ?_
  refine sl_ca (si_X0_9 b) ?_
  dsimp only
  refine sl_gs ⟨kkq (x := (14, 11)) rfl, vpq (x := (14, 11)) rfl (vp_in_nI (n := 8) (by decide) (by decide))⟩ ?_
  refine sl_gs (kkq (x := (1, 0)) rfl) ?_
  refine sl_pu (P' := Pt b (Ts 32)) (Pt_up (T := Ts 31) (i := 7) (j := 32) rfl rfl) ?_
  refine sl_gs (kkq (x := (2, 0)) rfl) ?_
  refine sl_ca (Pt_rd (T := Ts 32) (i := 6) (j := 7) rfl) ?_
  refine sl_al (kn' := Ls 36) (q := b + 35) rfl rfl ?_
  refine sl_ca (si_X0_10 b) ?_
  dsimp only
  refine sl_gs ⟨kkq (x := (14, 11)) rfl, vpq (x := (14, 11)) rfl (vp_in_nI (n := 9) (by decide) (by decide))⟩ ?_
  refine sl_gs (kkq (x := (1, 0)) rfl) ?_
  refine sl_pu (P' := Pt b (Ts 35)) (Pt_up (T := Ts 34) (i := 7) (j := 35) rfl rfl) ?_
  refine sl_gs (kkq (x := (2, 0)) rfl) ?_
  refine sl_ca (Pt_rd (T := Ts 35) (i := 6) (j := 7) rfl) ?_
  refine sl_al (kn' := Ls 39) (q := b + 38) rfl rfl ?_
  refine sl_ca (si_X0_11 b) ?_
  dsimp only
  refine sl_gs ⟨kkq (x := (14, 11)) rfl, vpq (x := (14, 11)) rfl (vp_in_nI (n := 10) (by decide) (by decide))⟩ ?_
  refine sl_gs (kkq (x := (1, 0)) rfl) ?_
  refine sl_pu (P' := Pt b (Ts 38)) (Pt_up (T := Ts 37) (i := 7) (j := 38) rfl rfl) ?_
  exact rfl
set_option maxRecDepth 20000 in
theorem si_X4_1 (b : Nat) : fn_X4_init b (Ls 42) (It b (Ss 5)) (Pt b (Ts 39)) (b + 41) = some (Ls 44, It b (Ss 5), Pt b (Ts 41)) := by
  unfold fn_X4_init
  refine sl_al (kn' := Ls 43) (q := b + 42) rfl rfl ?_
  refine sl_gs (kkq (x := (5, 0)) rfl) ?_
  refine sl_pu (P' := Pt b (Ts 40)) (Pt_up (T := Ts 39) (i := 41) (j := 42) rfl rfl) ?_
  refine sl_al (kn' := Ls 44) (q := b + 43) rfl rfl ?_
  refine sl_gs (kkq (x := (5, 0)) rfl) ?_
  refine sl_pu (P' := Pt b (Ts 41)) (Pt_up (T := Ts 40) (i := 41) (j := 43) rfl rfl) ?_
  exact rfl
set_option maxRecDepth 20000 in
theorem si_X4_2 (b : Nat) : fn_X4_init b (Ls 45) (It b (Ss 5)) (Pt b (Ts 42)) (b + 44) = some (Ls 47, It b (Ss 5), Pt b (Ts 44)) := by
  unfold fn_X4_init
  refine sl_al (kn' := Ls 46) (q := b + 45) rfl rfl ?_
  refine sl_gs (kkq (x := (5, 0)) rfl) ?_
  refine sl_pu (P' := Pt b (Ts 43)) (Pt_up (T := Ts 42) (i := 44) (j := 45) rfl rfl) ?_
  refine sl_al (kn' := Ls 47) (q := b + 46) rfl rfl ?_
  refine sl_gs (kkq (x := (5, 0)) rfl) ?_
  refine sl_pu (P' := Pt b (Ts 44)) (Pt_up (T := Ts 43) (i := 44) (j := 46) rfl rfl) ?_
  exact rfl
set_option maxRecDepth 20000 in
theorem si_X4_3 (b : Nat) : fn_X4_init b (Ls 48) (It b (Ss 5)) (Pt b (Ts 45)) (b + 47) = some (Ls 50, It b (Ss 5), Pt b (Ts 47)) := by
  unfold fn_X4_init
  refine sl_al (kn' := Ls 49) (q := b + 48) rfl rfl ?_
  refine sl_gs (kkq (x := (5, 0)) rfl) ?_
  refine sl_pu (P' := Pt b (Ts 46)) (Pt_up (T := Ts 45) (i := 47) (j := 48) rfl rfl) ?_
  refine sl_al (kn' := Ls 50) (q := b + 49) rfl rfl ?_
  refine sl_gs (kkq (x := (5, 0)) rfl) ?_
  refine sl_pu (P' := Pt b (Ts 47)) (Pt_up (T := Ts 46) (i := 47) (j := 49) rfl rfl) ?_
  exact rfl
set_option maxRecDepth 20000 in
theorem si_X4_4 (b : Nat) : fn_X4_init b (Ls 51) (It b (Ss 5)) (Pt b (Ts 48)) (b + 50) = some (Ls 53, It b (Ss 5), Pt b (Ts 50)) := by
  unfold fn_X4_init
  refine sl_al (kn' := Ls 52) (q := b + 51) rfl rfl ?_
  refine sl_gs (kkq (x := (5, 0)) rfl) ?_
  refine sl_pu (P' := Pt b (Ts 49)) (Pt_up (T := Ts 48) (i := 50) (j := 51) rfl rfl) ?_
  refine sl_al (kn' := Ls 53) (q := b + 52) rfl rfl ?_
  refine sl_gs (kkq (x := (5, 0)) rfl) ?_
  refine sl_pu (P' := Pt b (Ts 50)) (Pt_up (T := Ts 49) (i := 50) (j := 52) rfl rfl) ?_
  exact rfl
set_option maxRecDepth 20000 in
theorem si_X6_1 (b : Nat) : fn_X6_init b (Ls 2) (It b (Ss 0)) (Pt b (Ts 0)) (b + 1) = some (Ls 53, It b (Ss 5), Pt b (Ts 51)) := by
  unfold fn_X6_init
  refine sl_al (kn' := Ls 3) (q := b + 2) rfl rfl ?_
  refine sl_gs (kkq (x := (7, 0)) rfl) ?_
  refine sl_pu (P' := Pt b (Ts 1)) (Pt_up (T := Ts 0) (i := 1) (j := 2) rfl rfl) ?_
  refine sl_pu (P' := It b (Ss 1)) (It_up (T := Ss 0) (i := 1) rfl rfl) ?_
  refine sl_al (kn' := Ls 4) (q := b + 3) rfl rfl ?_
  refine sl_ca (si_X5_1 b) ?_
  dsimp only
  refine sl_gs (kkq (x := (7, 0)) rfl) ?_
  refine sl_pu (P' := Pt b (Ts 3)) (Pt_up (T := Ts 2) (i := 1) (j := 3) rfl rfl) ?_
  refine sl_al (kn' := Ls 6) (q := b + 5) rfl rfl ?_
  refine sl_ca (si_X2_1 b) ?_
  dsimp only
  refine sl_gs (kkq (x := (7, 0)) rfl) ?_
  refine sl_pu (P' := Pt b (Ts 4)) (Pt_up (T := Ts 3) (i := 1) (j := 5) rfl rfl) ?_
  refine sl_al (kn' := Ls 7) (q := b + 6) rfl rfl ?_
  refine sl_ca (si_X1_1 b) ?_
  dsimp only
  refine sl_gs (kkq (x := (7, 0)) rfl) ?_
  refine sl_pu (P' := Pt b (Ts 39)) (Pt_up (T := Ts 38) (i := 1) (j := 6) rfl rfl) ?_
  refine sl_ca (Pt_rd (T := Ts 39) (i := 1) (j := 2) rfl) ?_
  refine sl_al (kn' := Ls 42) (q := b + 41) rfl rfl ?_
  refine sl_ca (si_X4_1 b) ?_
  dsimp only
  refine sl_gs ⟨kkq (x := (15, 4)) rfl, vpq (x := (15, 4)) rfl (vp_in_nI (n := 0) (by decide) (by decide))⟩ ?_
  refine sl_gs (kkq (x := (5, 0)) rfl) ?_
  refine sl_pu (P' := Pt b (Ts 42)) (Pt_up (T := Ts 41) (i := 2) (j := 41) rfl rfl) ?_
  refine sl_gs (kkq (x := (7, 0)) rfl) ?_
  refine sl_ca (Pt_rd (T := Ts 42) (i := 1) (j := 2) rfl) ?_
  refine sl_al (kn' := Ls 45) (q := b + 44) rfl rfl ?_
  refine sl_ca (si_X4_2 b) ?_
  dsimp only
  refine sl_gs ⟨kkq (x := (15, 4)) rfl, vpq (x := (15, 4)) rfl (vp_in_nI (n := 1) (by decide) (by decide))⟩ ?_
  refine sl_gs (kkq (x := (5, 0)) rfl) ?_
  refine sl_pu (P' := Pt b (Ts 45)) (Pt_up (T := Ts 44) (i := 2) (j := 44) rfl rfl) ?_
  refine sl_gs (kkq (x := (7, 0)) rfl) ?_
  refine sl_ca (Pt_rd (T := Ts 45) (i := 1) (j := 2) rfl) ?_
  refine sl_al (kn' := Ls 48) (q := b + 47) rfl rfl ?_
  refine sl_ca (si_X4_3 b) ?_
  dsimp only
  refine sl_gs ⟨kkq (x := (15, 4)) rfl, vpq (x := (15, 4)) rfl (vp_in_nI (n := 2) (by decide) (by decide))⟩ ?_
  refine sl_gs (kkq (x := (5, 0)) rfl) ?_
  refine sl_pu (P' := Pt b (Ts 48)) (Pt_up (T := Ts 47) (i := 2) (j := 47) rfl rfl) ?_
  refine sl_gs (kkq (x := (7, 0)) rfl) ?_
  refine sl_ca (Pt_rd (T := Ts 48) (i := 1) (j := 2) rfl) ?_
  refine sl_al (kn' := Ls 51) (q := b + 50) rfl rfl ?_
  refine sl_ca (si_X4_4 b) ?_
  dsimp only
  refine sl_gs ⟨kkq (x := (15, 4)) rfl, vpq (x := (15, 4)) rfl (vp_in_nI (n := 3) (by decide) (by decide))⟩ ?_
  refine sl_gs (kkq (x := (5, 0)) rfl) ?_
  refine sl_pu (P' := Pt b (Ts 51)) (Pt_up (T := Ts 50) (i := 2) (j := 50) rfl rfl) ?_
  exact rfl
set_option maxRecDepth 20000 in
theorem si_X5_2 (b : Nat) : fn_X5_init b (Ls 56) (It b (Ss 6)) (Pt b (Ts 53)) (b + 55) = some (Ls 57, It b (Ss 6), Pt b (Ts 54)) := by
  unfold fn_X5_init
  refine sl_al (kn' := Ls 57) (q := b + 56) rfl rfl ?_
  refine sl_gs (kkq (x := (6, 0)) rfl) ?_
  refine sl_pu (P' := Pt b (Ts 54)) (Pt_up (T := Ts 53) (i := 55) (j := 56) rfl rfl) ?_
  exact rfl
set_option maxRecDepth 20000 in
theorem si_X2_2 (b : Nat) : fn_X2_init b (Ls 58) (It b (Ss 6)) (Pt b (Ts 55)) (b + 57) = some (Ls 58, It b (Ss 10), Pt b (Ts 55)) := by
  unfold fn_X2_init
  refine sl_gs (kkq (x := (3, 0)) rfl) ?_
  refine sl_pu (P' := It b (Ss 7)) (It_up (T := Ss 6) (i := 57) rfl rfl) ?_
  refine sl_pu (P' := It b (Ss 8)) (It_up (T := Ss 7) (i := 57) rfl rfl) ?_
  refine sl_pu (P' := It b (Ss 9)) (It_up (T := Ss 8) (i := 57) rfl rfl) ?_
  refine sl_pu (P' := It b (Ss 10)) (It_up (T := Ss 9) (i := 57) rfl rfl) ?_
  exact rfl
set_option maxRecDepth 20000 in
theorem si_X0_12 (b : Nat) : fn_X0_init b (Ls 61) (It b (Ss 10)) (Pt b (Ts 57)) (b + 60) = some (Ls 63, It b (Ss 10), Pt b (Ts 59)) := by
  unfold fn_X0_init
  refine sl_al (kn' := Ls 62) (q := b + 61) rfl rfl ?_
  refine sl_gs (kkq (x := (1, 0)) rfl) ?_
  refine sl_pu (P' := Pt b (Ts 58)) (Pt_up (T := Ts 57) (i := 60) (j := 61) rfl rfl) ?_
  refine sl_al (kn' := Ls 63) (q := b + 62) rfl rfl ?_
  refine sl_gs (kkq (x := (1, 0)) rfl) ?_
  refine sl_pu (P' := Pt b (Ts 59)) (Pt_up (T := Ts 58) (i := 60) (j := 62) rfl rfl) ?_
  exact rfl
set_option maxRecDepth 20000 in
theorem si_X0_13 (b : Nat) : fn_X0_init b (Ls 64) (It b (Ss 10)) (Pt b (Ts 60)) (b + 63) = some (Ls 66, It b (Ss 10), Pt b (Ts 62)) := by
  unfold fn_X0_init
  refine sl_al (kn' := Ls 65) (q := b + 64) rfl rfl ?_
  refine sl_gs (kkq (x := (1, 0)) rfl) ?_
  refine sl_pu (P' := Pt b (Ts 61)) (Pt_up (T := Ts 60) (i := 63) (j := 64) rfl rfl) ?_
  refine sl_al (kn' := Ls 66) (q := b + 65) rfl rfl ?_
  refine sl_gs (kkq (x := (1, 0)) rfl) ?_
  refine sl_pu (P' := Pt b (Ts 62)) (Pt_up (T := Ts 61) (i := 63) (j := 65) rfl rfl) ?_
  exact rfl
set_option maxRecDepth 20000 in
theorem si_X0_14 (b : Nat) : fn_X0_init b (Ls 67) (It b (Ss 10)) (Pt b (Ts 63)) (b + 66) = some (Ls 69, It b (Ss 10), Pt b (Ts 65)) := by
  unfold fn_X0_init
  refine sl_al (kn' := Ls 68) (q := b + 67) rfl rfl ?_
  refine sl_gs (kkq (x := (1, 0)) rfl) ?_
  refine sl_pu (P' := Pt b (Ts 64)) (Pt_up (T := Ts 63) (i := 66) (j := 67) rfl rfl) ?_
  refine sl_al (kn' := Ls 69) (q := b + 68) rfl rfl ?_
  refine sl_gs (kkq (x := (1, 0)) rfl) ?_
  refine sl_pu (P' := Pt b (Ts 65)) (Pt_up (T := Ts 64) (i := 66) (j := 68) rfl rfl) ?_
  exact rfl
set_option maxRecDepth 20000 in
theorem si_X0_15 (b : Nat) : fn_X0_init b (Ls 70) (It b (Ss 10)) (Pt b (Ts 66)) (b + 69) = some (Ls 72, It b (Ss 10), Pt b (Ts 68)) := by
  unfold fn_X0_init
  refine sl_al (kn' := Ls 71) (q := b + 70) rfl rfl ?_
  refine sl_gs (kkq (x := (1, 0)) rfl) ?_
  refine sl_pu (P' := Pt b (Ts 67)) (Pt_up (T := Ts 66) (i := 69) (j := 70) rfl rfl) ?_
  refine sl_al (kn' := Ls 72) (q := b + 71) rfl rfl ?_
  refine sl_gs (kkq (x := (1, 0)) rfl) ?_
  refine sl_pu (P' := Pt b (Ts 68)) (Pt_up (T := Ts 67) (i := 69) (j := 71) rfl rfl) ?_
  exact rfl
set_option maxRecDepth 20000 in
theorem si_X0_16 (b : Nat) : fn_X0_init b (Ls 73) (It b (Ss 10)) (Pt b (Ts 69)) (b + 72) = some (Ls 75, It b (Ss 10), Pt b (Ts 71)) := by
  unfold fn_X0_init
  refine sl_al (kn' := Ls 74) (q := b + 73) rfl rfl ?_
  refine sl_gs (kkq (x := (1, 0)) rfl) ?_
  refine sl_pu (P' := Pt b (Ts 70)) (Pt_up (T := Ts 69) (i := 72) (j := 73) rfl rfl) ?_
  refine sl_al (kn' := Ls 75) (q := b + 74) rfl rfl ?_
  refine sl_gs (kkq (x := (1, 0)) rfl) ?_
  refine sl_pu (P' := Pt b (Ts 71)) (Pt_up (T := Ts 70) (i := 72) (j := 74) rfl rfl) ?_
  exact rfl
set_option maxRecDepth 20000 in
theorem si_X0_17 (b : Nat) : fn_X0_init b (Ls 76) (It b (Ss 10)) (Pt b (Ts 72)) (b + 75) = some (Ls 78, It b (Ss 10), Pt b (Ts 74)) := by
  unfold fn_X0_init
  refine sl_al (kn' := Ls 77) (q := b + 76) rfl rfl ?_
  refine sl_gs (kkq (x := (1, 0)) rfl) ?_
  refine sl_pu (P' := Pt b (Ts 73)) (Pt_up (T := Ts 72) (i := 75) (j := 76) rfl rfl) ?_
  refine sl_al (kn' := Ls 78) (q := b + 77) rfl rfl ?_
  refine sl_gs (kkq (x := (1, 0)) rfl) ?_
  refine sl_pu (P' := Pt b (Ts 74)) (Pt_up (T := Ts 73) (i := 75) (j := 77) rfl rfl) ?_
  exact rfl
set_option maxRecDepth 20000 in
theorem si_X0_18 (b : Nat) : fn_X0_init b (Ls 79) (It b (Ss 10)) (Pt b (Ts 75)) (b + 78) = some (Ls 81, It b (Ss 10), Pt b (Ts 77)) := by
  unfold fn_X0_init
  refine sl_al (kn' := Ls 80) (q := b + 79) rfl rfl ?_
  refine sl_gs (kkq (x := (1, 0)) rfl) ?_
  refine sl_pu (P' := Pt b (Ts 76)) (Pt_up (T := Ts 75) (i := 78) (j := 79) rfl rfl) ?_
  refine sl_al (kn' := Ls 81) (q := b + 80) rfl rfl ?_
  refine sl_gs (kkq (x := (1, 0)) rfl) ?_
  refine sl_pu (P' := Pt b (Ts 77)) (Pt_up (T := Ts 76) (i := 78) (j := 80) rfl rfl) ?_
  exact rfl
set_option maxRecDepth 20000 in
theorem si_X0_19 (b : Nat) : fn_X0_init b (Ls 82) (It b (Ss 10)) (Pt b (Ts 78)) (b + 81) = some (Ls 84, It b (Ss 10), Pt b (Ts 80)) := by
  unfold fn_X0_init
  refine sl_al (kn' := Ls 83) (q := b + 82) rfl rfl ?_
  refine sl_gs (kkq (x := (1, 0)) rfl) ?_
  refine sl_pu (P' := Pt b (Ts 79)) (Pt_up (T := Ts 78) (i := 81) (j := 82) rfl rfl) ?_
  refine sl_al (kn' := Ls 84) (q := b + 83) rfl rfl ?_
  refine sl_gs (kkq (x := (1, 0)) rfl) ?_
  refine sl_pu (P' := Pt b (Ts 80)) (Pt_up (T := Ts 79) (i := 81) (j := 83) rfl rfl) ?_
  exact rfl
set_option maxRecDepth 20000 in
theorem si_X0_20 (b : Nat) : fn_X0_init b (Ls 85) (It b (Ss 10)) (Pt b (Ts 81)) (b + 84) = some (Ls 87, It b (Ss 10), Pt b (Ts 83)) := by
  unfold fn_X0_init
  refine sl_al (kn' := Ls 86) (q := b + 85) rfl rfl ?_
  refine sl_gs (kkq (x := (1, 0)) rfl) ?_
  refine sl_pu (P' := Pt b (Ts 82)) (Pt_up (T := Ts 81) (i := 84) (j := 85) rfl rfl) ?_
  refine sl_al (kn' := Ls 87) (q := b + 86) rfl rfl ?_
  refine sl_gs (kkq (x := (1, 0)) rfl) ?_
  refine sl_pu (P' := Pt b (Ts 83)) (Pt_up (T := Ts 82) (i := 84) (j := 86) rfl rfl) ?_
  exact rfl
set_option maxRecDepth 20000 in
theorem si_X0_21 (b : Nat) : fn_X0_init b (Ls 88) (It b (Ss 10)) (Pt b (Ts 84)) (b + 87) = some (Ls 90, It b (Ss 10), Pt b (Ts 86)) := by
  unfold fn_X0_init
  refine sl_al (kn' := Ls 89) (q := b + 88) rfl rfl ?_
  refine sl_gs (kkq (x := (1, 0)) rfl) ?_
  refine sl_pu (P' := Pt b (Ts 85)) (Pt_up (T := Ts 84) (i := 87) (j := 88) rfl rfl) ?_
  refine sl_al (kn' := Ls 90) (q := b + 89) rfl rfl ?_
  refine sl_gs (kkq (x := (1, 0)) rfl) ?_
  refine sl_pu (P' := Pt b (Ts 86)) (Pt_up (T := Ts 85) (i := 87) (j := 89) rfl rfl) ?_
  exact rfl
set_option maxRecDepth 20000 in
theorem si_X0_22 (b : Nat) : fn_X0_init b (Ls 91) (It b (Ss 10)) (Pt b (Ts 87)) (b + 90) = some (Ls 93, It b (Ss 10), Pt b (Ts 89)) := by
  unfold fn_X0_init
  refine sl_al (kn' := Ls 92) (q := b + 91) rfl rfl ?_
  refine sl_gs (kkq (x := (1, 0)) rfl) ?_
  refine sl_pu (P' := Pt b (Ts 88)) (Pt_up (T := Ts 87) (i := 90) (j := 91) rfl rfl) ?_
  refine sl_al (kn' := Ls 93) (q := b + 92) rfl rfl ?_
  refine sl_gs (kkq (x := (1, 0)) rfl) ?_
  refine sl_pu (P' := Pt b (Ts 89)) (Pt_up (T := Ts 88) (i := 90) (j := 92) rfl rfl) ?_
  exact rfl
set_option maxRecDepth 20000 in
theorem si_X1_2 (b : Nat) : fn_X1_init b (Ls 59) (It b (Ss 10)) (Pt b (Ts 56)) (b + 58) = some (Ls 93, It b (Ss 10), Pt b (Ts 90)) := by
  unfold fn_X1_init
  refine sl_al (kn' := Ls 60) (q := b + 59) rfl rfl ?_
  refine sl_gs (kkq (x := (2, 0)) rfl) ?_
  refine sl_pu (P' := Pt b (Ts 57)) (Pt_up (T := Ts 56) (i := 58) (j := 59) rfl rfl) ?_
  refine sl_ca (Pt_rd (T := Ts 57) (i := 58) (j := 59) rfl) ?_
  refine sl_al (kn' := Ls 61) (q := b + 60) rfl rfl ?_
  refine sl_ca (si_X0_12 b) ?_
  dsimp only
  refine sl_gs ⟨kkq (x := (14, 11)) rfl, vpq (x := (14, 11)) rfl (vp_in_nI (n := 0) (by decide) (by decide))⟩ ?_
  refine sl_gs (kkq (x := (1, 0)) rfl) ?_
  refine sl_pu (P' := Pt b (Ts 60)) (Pt_up (T := Ts 59) (i := 59) (j := 60) rfl rfl) ?_
  refine sl_gs (kkq (x := (2, 0)) rfl) ?_
  refine sl_ca (Pt_rd (T := Ts 60) (i := 58) (j := 59) rfl) ?_
  refine sl_al (kn' := Ls 64) (q := b + 63) rfl rfl ?_
  refine sl_ca (si_X0_13 b) ?_
  dsimp only
  refine sl_gs ⟨kkq (x := (14, 11)) rfl, vpq (x := (14, 11)) rfl (vp_in_nI (n := 1) (by decide) (by decide))⟩ ?_
  refine sl_gs (kkq (x := (1, 0)) rfl) ?_
  refine sl_pu (P' := Pt b (Ts 63)) (Pt_up (T := Ts 62) (i := 59) (j := 63) rfl rfl) ?_
  refine sl_gs (kkq (x := (2, 0)) rfl) ?_
  refine sl_ca (Pt_rd (T := Ts 63) (i := 58) (j := 59) rfl) ?_
  refine sl_al (kn' := Ls 67) (q := b + 66) rfl rfl ?_
  refine sl_ca (si_X0_14 b) ?_
  dsimp only
  refine sl_gs ⟨kkq (x := (14, 11)) rfl, vpq (x := (14, 11)) rfl (vp_in_nI (n := 2) (by decide) (by decide))⟩ ?_
  refine sl_gs (kkq (x := (1, 0)) rfl) ?_
  refine sl_pu (P' := Pt b (Ts 66)) (Pt_up (T := Ts 65) (i := 59) (j := 66) rfl rfl) ?_
  refine sl_gs (kkq (x := (2, 0)) rfl) ?_
  refine sl_ca (Pt_rd (T := Ts 66) (i := 58) (j := 59) rfl) ?_
  refine sl_al (kn' := Ls 70) (q := b + 69) rfl rfl ?_
  refine sl_ca (si_X0_15 b) ?_
  dsimp only
  refine sl_gs ⟨kkq (x := (14, 11)) rfl, vpq (x := (14, 11)) rfl (vp_in_nI (n := 3) (by decide) (by decide))⟩ ?_
  refine sl_gs (kkq (x := (1, 0)) rfl) ?_
  refine sl_pu (P' := Pt b (Ts 69)) (Pt_up (T := Ts 68) (i := 59) (j := 69) rfl rfl) ?_
  refine sl_gs (kkq (x := (2, 0)) rfl) ?_
  refine sl_ca (Pt_rd (T := Ts 69) (i := 58) (j := 59) rfl) ?_
  refine sl_al (kn' := Ls 73) (q := b + 72) rfl rfl ?_
  refine sl_ca (si_X0_16 b) ?_
  dsimp only
  refine sl_gs ⟨kkq (x := (14, 11)) rfl, vpq (x := (14, 11)) rfl (vp_in_nI (n := 4) (by decide) (by decide))⟩ ?_
  refine sl_gs (kkq (x := (1, 0)) rfl) ?_
  refine sl_pu (P' := Pt b (Ts 72)) (Pt_up (T := Ts 71) (i := 59) (j := 72) rfl rfl) ?_
  refine sl_gs (kkq (x := (2, 0)) rfl) ?_
  refine sl_ca (Pt_rd (T := Ts 72) (i := 58) (j := 59) rfl) ?_
  refine sl_al (kn' := Ls 76) (q := b + 75) rfl rfl ?_
  refine sl_ca (si_X0_17 b) ?_
  dsimp only
  refine sl_gs ⟨kkq (x := (14, 11)) rfl, vpq (x := (14, 11)) rfl (vp_in_nI (n := 5) (by decide) (by decide))⟩ ?_
  refine sl_gs (kkq (x := (1, 0)) rfl) ?_
  refine sl_pu (P' := Pt b (Ts 75)) (Pt_up (T := Ts 74) (i := 59) (j := 75) rfl rfl) ?_
  refine sl_gs (kkq (x := (2, 0)) rfl) ?_
  refine sl_ca (Pt_rd (T := Ts 75) (i := 58) (j := 59) rfl) ?_
  refine sl_al (kn' := Ls 79) (q := b + 78) rfl rfl ?_
  refine sl_ca (si_X0_18 b) ?_
  dsimp only
  refine sl_gs ⟨kkq (x := (14, 11)) rfl, vpq (x := (14, 11)) rfl (vp_in_nI (n := 6) (by decide) (by decide))⟩ ?_
  refine sl_gs (kkq (x := (1, 0)) rfl) ?_
  refine sl_pu (P' := Pt b (Ts 78)) (Pt_up (T := Ts 77) (i := 59) (j := 78) rfl rfl) ?_
  refine sl_gs (kkq (x := (2, 0)) rfl) ?_
  refine sl_ca (Pt_rd (T := Ts 78) (i := 58) (j := 59) rfl) ?_
  refine sl_al (kn' := Ls 82) (q := b + 81) rfl rfl ?_
  refine sl_ca (si_X0_19 b) ?_
  dsimp only
  refine sl_gs ⟨kkq (x := (14, 11)) rfl, vpq (x := (14, 11)) rfl (vp_in_nI (n := 7) (by decide) (by decide))⟩ ?_
  refine sl_gs (kkq (x := (1, 0)) rfl) ?_
  refine sl_pu (P' := Pt b (Ts 81)) (Pt_up (T := Ts 80) (i := 59) (j := 81) rfl rfl) ?_
  refine sl_gs (kkq (x := (2, 0)) rfl) ?_
  refine sl_ca (Pt_rd (T := Ts 81) (i := 58) (j := 59) rfl) ?_
  refine sl_al (kn' := Ls 85) (q := b + 84) rfl rfl ?_
  refine sl_ca (si_X0_20 b) ?_
  dsimp only
  refine sl_gs ⟨kkq (x := (14, 11)) rfl, vpq (x := (14, 11)) rfl (vp_in_nI (n := 8) (by decide) (by decide))⟩ ?_
  refine sl_gs (kkq (x := (1, 0)) rfl) ?_
  refine sl_pu (P' := Pt b (Ts 84)) (Pt_up (T := Ts 83) (i := 59) (j := 84) rfl rfl) ?_
  refine sl_gs (kkq (x := (2, 0)) rfl) ?_
  refine sl_ca (Pt_rd (T := Ts 84) (i := 58) (j := 59) rfl) ?_
  refine sl_al (kn' := Ls 88) (q := b + 87) rfl rfl ?_
  refine sl_ca (si_X0_21 b) ?_
  dsimp only
  refine sl_gs ⟨kkq (x := (14, 11)) rfl, vpq (x := (14, 11)) rfl (vp_in_nI (n := 9) (by decide) (by decide))⟩ ?_
  refine sl_gs (kkq (x := (1, 0)) rfl) ?_
  refine sl_pu (P' := Pt b (Ts 87)) (Pt_up (T := Ts 86) (i := 59) (j := 87) rfl rfl) ?_
  refine sl_gs (kkq (x := (2, 0)) rfl) ?_
  refine sl_ca (Pt_rd (T := Ts 87) (i := 58) (j := 59) rfl) ?_
  refine sl_al (kn' := Ls 91) (q := b + 90) rfl rfl ?_
  refine sl_ca (si_X0_22 b) ?_
  dsimp only
  refine sl_gs ⟨kkq (x := (14, 11)) rfl, vpq (x := (14, 11)) rfl (vp_in_nI (n := 10) (by decide) (by decide))⟩ ?_
  refine sl_gs (kkq (x := (1, 0)) rfl) ?_
  refine sl_pu (P' := Pt b (Ts 90)) (Pt_up (T := Ts 89) (i := 59) (j := 90) rfl rfl) ?_
  exact rfl
set_option maxRecDepth 20000 in
theorem si_X4_5 (b : Nat) : fn_X4_init b (Ls 94) (It b (Ss 10)) (Pt b (Ts 91)) (b + 93) = some (Ls 96, It b (Ss 10), Pt b (Ts 93)) := by
  unfold fn_X4_init
  refine sl_al (kn' := Ls 95) (q := b + 94) rfl rfl ?_
  refine sl_gs (kkq (x := (5, 0)) rfl) ?_
  refine sl_pu (P' := Pt b (Ts 92)) (Pt_up (T := Ts 91) (i := 93) (j := 94) rfl rfl) ?_
  refine sl_al (kn' := Ls 96) (q := b + 95) rfl rfl ?_
  refine sl_gs (kkq (x := (5, 0)) rfl) ?_
  refine sl_pu (P' := Pt b (Ts 93)) (Pt_up (T := Ts 92) (i := 93) (j := 95) rfl rfl) ?_
  exact rfl
set_option maxRecDepth 20000 in
theorem si_X4_6 (b : Nat) : fn_X4_init b (Ls 97) (It b (Ss 10)) (Pt b (Ts 94)) (b + 96) = some (Ls 99, It b (Ss 10), Pt b (Ts 96)) := by
  unfold fn_X4_init
  refine sl_al (kn' := Ls 98) (q := b + 97) rfl rfl ?_
  refine sl_gs (kkq (x := (5, 0)) rfl) ?_
  refine sl_pu (P' := Pt b (Ts 95)) (Pt_up (T := Ts 94) (i := 96) (j := 97) rfl rfl) ?_
  refine sl_al (kn' := Ls 99) (q := b + 98) rfl rfl ?_
  refine sl_gs (kkq (x := (5, 0)) rfl) ?_
  refine sl_pu (P' := Pt b (Ts 96)) (Pt_up (T := Ts 95) (i := 96) (j := 98) rfl rfl) ?_
  exact rfl
set_option maxRecDepth 20000 in
theorem si_X4_7 (b : Nat) : fn_X4_init b (Ls 100) (It b (Ss 10)) (Pt b (Ts 97)) (b + 99) = some (Ls 102, It b (Ss 10), Pt b (Ts 99)) := by
  unfold fn_X4_init
  refine sl_al (kn' := Ls 101) (q := b + 100) rfl rfl ?_
  refine sl_gs (kkq (x := (5, 0)) rfl) ?_
  refine sl_pu (P' := Pt b (Ts 98)) (Pt_up (T := Ts 97) (i := 99) (j := 100) rfl rfl) ?_
  refine sl_al (kn' := Ls 102) (q := b + 101) rfl rfl ?_
  refine sl_gs (kkq (x := (5, 0)) rfl) ?_
  refine sl_pu (P' := Pt b (Ts 99)) (Pt_up (T := Ts 98) (i := 99) (j := 101) rfl rfl) ?_
  exact rfl
set_option maxRecDepth 20000 in
theorem si_X4_8 (b : Nat) : fn_X4_init b (Ls 103) (It b (Ss 10)) (Pt b (Ts 100)) (b + 102) = some (Ls 105, It b (Ss 10), Pt b (Ts 102)) := by
  unfold fn_X4_init
  refine sl_al (kn' := Ls 104) (q := b + 103) rfl rfl ?_
  refine sl_gs (kkq (x := (5, 0)) rfl) ?_
  refine sl_pu (P' := Pt b (Ts 101)) (Pt_up (T := Ts 100) (i := 102) (j := 103) rfl rfl) ?_
  refine sl_al (kn' := Ls 105) (q := b + 104) rfl rfl ?_
  refine sl_gs (kkq (x := (5, 0)) rfl) ?_
  refine sl_pu (P' := Pt b (Ts 102)) (Pt_up (T := Ts 101) (i := 102) (j := 104) rfl rfl) ?_
  exact rfl
set_option maxRecDepth 20000 in
theorem si_X6_2 (b : Nat) : fn_X6_init b (Ls 54) (It b (Ss 5)) (Pt b (Ts 52)) (b + 53) = some (Ls 105, It b (Ss 10), Pt b (Ts 103)) := by
  unfold fn_X6_init
  refine sl_al (kn' := Ls 55) (q := b + 54) rfl rfl ?_
  refine sl_gs (kkq (x := (7, 0)) rfl) ?_
  refine sl_pu (P' := Pt b (Ts 53)) (Pt_up (T := Ts 52) (i := 53) (j := 54) rfl rfl) ?_
  refine sl_pu (P' := It b (Ss 6)) (It_up (T := Ss 5) (i := 53) rfl rfl) ?_
  refine sl_al (kn' := Ls 56) (q := b + 55) rfl rfl ?_
  refine sl_ca (si_X5_2 b) ?_
  dsimp only
  refine sl_gs (kkq (x := (7, 0)) rfl) ?_
  refine sl_pu (P' := Pt b (Ts 55)) (Pt_up (T := Ts 54) (i := 53) (j := 55) rfl rfl) ?_
  refine sl_al (kn' := Ls 58) (q := b + 57) rfl rfl ?_
  refine sl_ca (si_X2_2 b) ?_
  dsimp only
  refine sl_gs (kkq (x := (7, 0)) rfl) ?_
  refine sl_pu (P' := Pt b (Ts 56)) (Pt_up (T := Ts 55) (i := 53) (j := 57) rfl rfl) ?_
  refine sl_al (kn' := Ls 59) (q := b + 58) rfl rfl ?_
  refine sl_ca (si_X1_2 b) ?_
  dsimp only
  refine sl_gs (kkq (x := (7, 0)) rfl) ?_
  refine sl_pu (P' := Pt b (Ts 91)) (Pt_up (T := Ts 90) (i := 53) (j := 58) rfl rfl) ?_
  refine sl_ca (Pt_rd (T := Ts 91) (i := 53) (j := 54) rfl) ?_
  refine sl_al (kn' := Ls 94) (q := b + 93) rfl rfl ?_
  refine sl_ca (si_X4_5 b) ?_
  dsimp only
  refine sl_gs ⟨kkq (x := (15, 4)) rfl, vpq (x := (15, 4)) rfl (vp_in_nI (n := 0) (by decide) (by decide))⟩ ?_
  refine sl_gs (kkq (x := (5, 0)) rfl) ?_
  refine sl_pu (P' := Pt b (Ts 94)) (Pt_up (T := Ts 93) (i := 54) (j := 93) rfl rfl) ?_
  refine sl_gs (kkq (x := (7, 0)) rfl) ?_
  refine sl_ca (Pt_rd (T := Ts 94) (i := 53) (j := 54) rfl) ?_
  refine sl_al (kn' := Ls 97) (q := b + 96) rfl rfl ?_
  refine sl_ca (si_X4_6 b) ?_
  dsimp only
  refine sl_gs ⟨kkq (x := (15, 4)) rfl, vpq (x := (15, 4)) rfl (vp_in_nI (n := 1) (by decide) (by decide))⟩ ?_
  refine sl_gs (kkq (x := (5, 0)) rfl) ?_
  refine sl_pu (P' := Pt b (Ts 97)) (Pt_up (T := Ts 96) (i := 54) (j := 96) rfl rfl) ?_
  refine sl_gs (kkq (x := (7, 0)) rfl) ?_
  refine sl_ca (Pt_rd (T := Ts 97) (i := 53) (j := 54) rfl) ?_
  refine sl_al (kn' := Ls 100) (q := b + 99) rfl rfl ?_
  refine sl_ca (si_X4_7 b) ?_
  dsimp only
  refine sl_gs ⟨kkq (x := (15, 4)) rfl, vpq (x := (15, 4)) rfl (vp_in_nI (n := 2) (by decide) (by decide))⟩ ?_
  refine sl_gs (kkq (x := (5, 0)) rfl) ?_
  refine sl_pu (P' := Pt b (Ts 100)) (Pt_up (T := Ts 99) (i := 54) (j := 99) rfl rfl) ?_
  refine sl_gs (kkq (x := (7, 0)) rfl) ?_
  refine sl_ca (Pt_rd (T := Ts 100) (i := 53) (j := 54) rfl) ?_
  refine sl_al (kn' := Ls 103) (q := b + 102) rfl rfl ?_
  refine sl_ca (si_X4_8 b) ?_
  dsimp only
  refine sl_gs ⟨kkq (x := (15, 4)) rfl, vpq (x := (15, 4)) rfl (vp_in_nI (n := 3) (by decide) (by decide))⟩ ?_
  refine sl_gs (kkq (x := (5, 0)) rfl) ?_
  refine sl_pu (P' := Pt b (Ts 103)) (Pt_up (T := Ts 102) (i := 54) (j := 102) rfl rfl) ?_
  exact rfl
set_option maxRecDepth 20000 in
theorem si_X8_1 (b : Nat) : fn_X8_init b (Ls 106) (It b (Ss 11)) (Pt b (Ts 104)) (b + 105) = some (Ls 109, It b (Ss 11), Pt b (Ts 107)) := by
  unfold fn_X8_init
  refine sl_al (kn' := Ls 107) (q := b + 106) rfl rfl ?_
  refine sl_gs (kkq (x := (9, 0)) rfl) ?_
  refine sl_pu (P' := Pt b (Ts 105)) (Pt_up (T := Ts 104) (i := 105) (j := 106) rfl rfl) ?_
  refine sl_al (kn' := Ls 108) (q := b + 107) rfl rfl ?_
  refine sl_gs (kkq (x := (9, 0)) rfl) ?_
  refine sl_pu (P' := Pt b (Ts 106)) (Pt_up (T := Ts 105) (i := 105) (j := 107) rfl rfl) ?_
  refine sl_al (kn' := Ls 109) (q := b + 108) rfl rfl ?_
  refine sl_gs (kkq (x := (9, 0)) rfl) ?_
  refine sl_pu (P' := Pt b (Ts 107)) (Pt_up (T := Ts 106) (i := 105) (j := 108) rfl rfl) ?_
  exact rfl
set_option maxRecDepth 20000 in
theorem si_X7_1 (b : Nat) : fn_X7_init b (Ls 111) (It b (Ss 11)) (Pt b (Ts 109)) (b + 110) = some (Ls 112, It b (Ss 12), Pt b (Ts 110)) := by
  unfold fn_X7_init
  refine sl_gs (kkq (x := (8, 0)) rfl) ?_
  refine sl_pu (P' := It b (Ss 12)) (It_up (T := Ss 11) (i := 110) rfl rfl) ?_
  refine sl_al (kn' := Ls 112) (q := b + 111) rfl rfl ?_
  refine sl_gs (kkq (x := (8, 0)) rfl) ?_
  refine sl_pu (P' := Pt b (Ts 110)) (Pt_up (T := Ts 109) (i := 110) (j := 111) rfl rfl) ?_
  exact rfl
set_option maxRecDepth 20000 in
theorem si_X7_2 (b : Nat) : fn_X7_init b (Ls 113) (It b (Ss 12)) (Pt b (Ts 111)) (b + 112) = some (Ls 114, It b (Ss 13), Pt b (Ts 112)) := by
  unfold fn_X7_init
  refine sl_gs (kkq (x := (8, 0)) rfl) ?_
  refine sl_pu (P' := It b (Ss 13)) (It_up (T := Ss 12) (i := 112) rfl rfl) ?_
  refine sl_al (kn' := Ls 114) (q := b + 113) rfl rfl ?_
  refine sl_gs (kkq (x := (8, 0)) rfl) ?_
  refine sl_pu (P' := Pt b (Ts 112)) (Pt_up (T := Ts 111) (i := 112) (j := 113) rfl rfl) ?_
  exact rfl
set_option maxRecDepth 20000 in
theorem si_X7_3 (b : Nat) : fn_X7_init b (Ls 115) (It b (Ss 13)) (Pt b (Ts 113)) (b + 114) = some (Ls 116, It b (Ss 14), Pt b (Ts 114)) := by
  unfold fn_X7_init
  refine sl_gs (kkq (x := (8, 0)) rfl) ?_
  refine sl_pu (P' := It b (Ss 14)) (It_up (T := Ss 13) (i := 114) rfl rfl) ?_
  refine sl_al (kn' := Ls 116) (q := b + 115) rfl rfl ?_
  refine sl_gs (kkq (x := (8, 0)) rfl) ?_
  refine sl_pu (P' := Pt b (Ts 114)) (Pt_up (T := Ts 113) (i := 114) (j := 115) rfl rfl) ?_
  exact rfl
set_option maxRecDepth 20000 in
theorem si_X7_4 (b : Nat) : fn_X7_init b (Ls 117) (It b (Ss 14)) (Pt b (Ts 115)) (b + 116) = some (Ls 118, It b (Ss 15), Pt b (Ts 116)) := by
  unfold fn_X7_init
  refine sl_gs (kkq (x := (8, 0)) rfl) ?_
  refine sl_pu (P' := It b (Ss 15)) (It_up (T := Ss 14) (i := 116) rfl rfl) ?_
  refine sl_al (kn' := Ls 118) (q := b + 117) rfl rfl ?_
  refine sl_gs (kkq (x := (8, 0)) rfl) ?_
  refine sl_pu (P' := Pt b (Ts 116)) (Pt_up (T := Ts 115) (i := 116) (j := 117) rfl rfl) ?_
  exact rfl
set_option maxRecDepth 20000 in
theorem si_X3_1 (b : Nat) : fn_X3_init b (Ls 119) (It b (Ss 15)) (Pt b (Ts 117)) (b + 118) = some (Ls 122, It b (Ss 15), Pt b (Ts 120)) := by
  unfold fn_X3_init
  refine sl_al (kn' := Ls 120) (q := b + 119) rfl rfl ?_
  refine sl_gs (kkq (x := (4, 0)) rfl) ?_
  refine sl_pu (P' := Pt b (Ts 118)) (Pt_up (T := Ts 117) (i := 118) (j := 119) rfl rfl) ?_
  refine sl_al (kn' := Ls 121) (q := b + 120) rfl rfl ?_
  refine sl_gs (kkq (x := (4, 0)) rfl) ?_
  refine sl_pu (P' := Pt b (Ts 119)) (Pt_up (T := Ts 118) (i := 118) (j := 120) rfl rfl) ?_
  refine sl_al (kn' := Ls 122) (q := b + 121) rfl rfl ?_
  refine sl_gs (kkq (x := (4, 0)) rfl) ?_
  refine sl_pu (P' := Pt b (Ts 120)) (Pt_up (T := Ts 119) (i := 118) (j := 121) rfl rfl) ?_
  exact rfl
set_option maxRecDepth 20000 in
theorem si_X4_9 (b : Nat) : fn_X4_init b (Ls 123) (It b (Ss 15)) (Pt b (Ts 121)) (b + 122) = some (Ls 125, It b (Ss 15), Pt b (Ts 123)) := by
  unfold fn_X4_init
  refine sl_al (kn' := Ls 124) (q := b + 123) rfl rfl ?_
  refine sl_gs (kkq (x := (5, 0)) rfl) ?_
  refine sl_pu (P' := Pt b (Ts 122)) (Pt_up (T := Ts 121) (i := 122) (j := 123) rfl rfl) ?_
  refine sl_al (kn' := Ls 125) (q := b + 124) rfl rfl ?_
  refine sl_gs (kkq (x := (5, 0)) rfl) ?_
  refine sl_pu (P' := Pt b (Ts 123)) (Pt_up (T := Ts 122) (i := 122) (j := 124) rfl rfl) ?_
  exact rfl
set_option maxRecDepth 20000 in
theorem si_X9_1 (b : Nat) : fn_X9_init b (Ls 1) (It b (Ss 0)) (Pt b (Ts 0)) (b + 0) = some (Ls 126, It b (Ss 15), Pt b (Ts 125)) := by
  unfold fn_X9_init
  refine sl_al (kn' := Ls 2) (q := b + 1) rfl rfl ?_
  refine sl_ca (si_X6_1 b) ?_
  dsimp only
  refine sl_gs (kkq (x := (10, 0)) rfl) ?_
  refine sl_pu (P' := Pt b (Ts 52)) (Pt_up (T := Ts 51) (i := 0) (j := 1) rfl rfl) ?_
  refine sl_al (kn' := Ls 54) (q := b + 53) rfl rfl ?_
  refine sl_ca (si_X6_2 b) ?_
  dsimp only
  refine sl_gs (kkq (x := (10, 0)) rfl) ?_
  refine sl_pu (P' := Pt b (Ts 104)) (Pt_up (T := Ts 103) (i := 0) (j := 53) rfl rfl) ?_
  refine sl_pu (P' := It b (Ss 11)) (It_up (T := Ss 10) (i := 0) rfl rfl) ?_
  refine sl_al (kn' := Ls 106) (q := b + 105) rfl rfl ?_
  refine sl_ca (si_X8_1 b) ?_
  dsimp only
  refine sl_gs (kkq (x := (10, 0)) rfl) ?_
  refine sl_pu (P' := Pt b (Ts 108)) (Pt_up (T := Ts 107) (i := 0) (j := 105) rfl rfl) ?_
  refine sl_al (kn' := Ls 110) (q := b + 109) rfl rfl ?_
  refine sl_gs (kkq (x := (10, 0)) rfl) ?_
  refine sl_pu (P' := Pt b (Ts 109)) (Pt_up (T := Ts 108) (i := 0) (j := 109) rfl rfl) ?_
  refine sl_ca (Pt_rd (T := Ts 109) (i := 0) (j := 109) rfl) ?_
  refine sl_al (kn' := Ls 111) (q := b + 110) rfl rfl ?_
  refine sl_ca (si_X7_1 b) ?_
  dsimp only
  refine sl_gs ⟨kkq (x := (16, 4)) rfl, vpq (x := (16, 4)) rfl (vp_in_nI (n := 0) (by decide) (by decide))⟩ ?_
  refine sl_gs (kkq (x := (8, 0)) rfl) ?_
  refine sl_pu (P' := Pt b (Ts 111)) (Pt_up (T := Ts 110) (i := 109) (j := 110) rfl rfl) ?_
  refine sl_gs (kkq (x := (10, 0)) rfl) ?_
  refine sl_ca (Pt_rd (T := Ts 111) (i := 0) (j := 109) rfl) ?_
  refine sl_al (kn' := Ls 113) (q := b + 112) rfl rfl ?_
  refine sl_ca (si_X7_2 b) ?_
  dsimp only
  refine sl_gs ⟨kkq (x := (16, 4)) rfl, vpq (x := (16, 4)) rfl (vp_in_nI (n := 1) (by decide) (by decide))⟩ ?_
  refine sl_gs (kkq (x := (8, 0)) rfl) ?_
  refine sl_pu (P' := Pt b (Ts 113)) (Pt_up (T := Ts 112) (i := 109) (j := 112) rfl rfl) ?_
  refine sl_gs (kkq (x := (10, 0)) rfl) ?_
  refine sl_ca (Pt_rd (T := Ts 113) (i := 0) (j := 109) rfl) ?_
  refine sl_al (kn' := Ls 115) (q := b + 114) rfl rfl ?_
  refine sl_ca (si_X7_3 b) ?_
  dsimp only
  refine sl_gs ⟨kkq (x := (16, 4)) rfl, vpq (x := (16, 4)) rfl (vp_in_nI (n := 2) (by decide) (by decide))⟩ ?_
  refine sl_gs (kkq (x := (8, 0)) rfl) ?_
  refine sl_pu (P' := Pt b (Ts 115)) (Pt_up (T := Ts 114) (i := 109) (j := 114) rfl rfl) ?_
  refine sl_gs (kkq (x := (10, 0)) rfl) ?_
  refine sl_ca (Pt_rd (T := Ts 115) (i := 0) (j := 109) rfl) ?_
  refine sl_al (kn' := Ls 117) (q := b + 116) rfl rfl ?_
  refine sl_ca (si_X7_4 b) ?_
  dsimp only
  refine sl_gs ⟨kkq (x := (16, 4)) rfl, vpq (x := (16, 4)) rfl (vp_in_nI (n := 3) (by decide) (by decide))⟩ ?_
  refine sl_gs (kkq (x := (8, 0)) rfl) ?_
  refine sl_pu (P' := Pt b (Ts 117)) (Pt_up (T := Ts 116) (i := 109) (j := 116) rfl rfl) ?_
  refine sl_al (kn' := Ls 119) (q := b + 118) rfl rfl ?_
  refine sl_ca (si_X3_1 b) ?_
  dsimp only
  refine sl_gs (kkq (x := (10, 0)) rfl) ?_
  refine sl_pu (P' := Pt b (Ts 121)) (Pt_up (T := Ts 120) (i := 0) (j := 118) rfl rfl) ?_
  refine sl_al (kn' := Ls 123) (q := b + 122) rfl rfl ?_
  refine sl_ca (si_X4_9 b) ?_
  dsimp only
  refine sl_gs (kkq (x := (10, 0)) rfl) ?_
  refine sl_pu (P' := Pt b (Ts 124)) (Pt_up (T := Ts 123) (i := 0) (j := 122) rfl rfl) ?_
  refine sl_al (kn' := Ls 126) (q := b + 125) rfl rfl ?_
  refine sl_gs (kkq (x := (10, 0)) rfl) ?_
  refine sl_pu (P' := Pt b (Ts 125)) (Pt_up (T := Ts 124) (i := 0) (j := 125) rfl rfl) ?_
  exact rfl
set_option maxRecDepth 20000 in
theorem si_X10_1 (b : Nat) : fn_X10_init b (Ls 127) (It b (Ss 15)) (Pt b (Ts 125)) (b + 126) = some (Ls 138, It b (Ss 22), Pt b (Ts 136)) := by
  unfold fn_X10_init
  refine sl_al (kn' := Ls 128) (q := b + 127) rfl rfl ?_
  refine sl_gs (kkq (x := (11, 0)) rfl) ?_
  refine sl_pu (P' := Pt b (Ts 126)) (Pt_up (T := Ts 125) (i := 126) (j := 127) rfl rfl) ?_
  refine sl_al (kn' := Ls 129) (q := b + 128) rfl rfl ?_
  refine sl_gs (kkq (x := (11, 0)) rfl) ?_
  refine sl_pu (P' := Pt b (Ts 127)) (Pt_up (T := Ts 126) (i := 126) (j := 128) rfl rfl) ?_
  refine sl_al (kn' := Ls 130) (q := b + 129) rfl rfl ?_
  refine sl_gs (kkq (x := (11, 0)) rfl) ?_
  refine sl_pu (P' := Pt b (Ts 128)) (Pt_up (T := Ts 127) (i := 126) (j := 129) rfl rfl) ?_
  refine sl_al (kn' := Ls 131) (q := b + 130) rfl rfl ?_
  refine sl_gs (kkq (x := (11, 0)) rfl) ?_
  refine sl_pu (P' := Pt b (Ts 129)) (Pt_up (T := Ts 128) (i := 126) (j := 130) rfl rfl) ?_
  refine sl_al (kn' := Ls 132) (q := b + 131) rfl rfl ?_
  refine sl_gs (kkq (x := (11, 0)) rfl) ?_
  refine sl_pu (P' := Pt b (Ts 130)) (Pt_up (T := Ts 129) (i := 126) (j := 131) rfl rfl) ?_
  refine sl_al (kn' := Ls 133) (q := b + 132) rfl rfl ?_
  refine sl_gs (kkq (x := (11, 0)) rfl) ?_
  refine sl_pu (P' := Pt b (Ts 131)) (Pt_up (T := Ts 130) (i := 126) (j := 132) rfl rfl) ?_
  refine sl_al (kn' := Ls 134) (q := b + 133) rfl rfl ?_
  refine sl_gs (kkq (x := (11, 0)) rfl) ?_
  refine sl_pu (P' := Pt b (Ts 132)) (Pt_up (T := Ts 131) (i := 126) (j := 133) rfl rfl) ?_
  refine sl_al (kn' := Ls 135) (q := b + 134) rfl rfl ?_
  refine sl_gs (kkq (x := (11, 0)) rfl) ?_
  refine sl_pu (P' := Pt b (Ts 133)) (Pt_up (T := Ts 132) (i := 126) (j := 134) rfl rfl) ?_
  refine sl_al (kn' := Ls 136) (q := b + 135) rfl rfl ?_
  refine sl_gs (kkq (x := (11, 0)) rfl) ?_
  refine sl_pu (P' := Pt b (Ts 134)) (Pt_up (T := Ts 133) (i := 126) (j := 135) rfl rfl) ?_
  refine sl_al (kn' := Ls 137) (q := b + 136) rfl rfl ?_
  refine sl_gs (kkq (x := (11, 0)) rfl) ?_
  refine sl_pu (P' := Pt b (Ts 135)) (Pt_up (T := Ts 134) (i := 126) (j := 136) rfl rfl) ?_
  refine sl_al (kn' := Ls 138) (q := b + 137) rfl rfl ?_
  refine sl_gs (kkq (x := (11, 0)) rfl) ?_
  refine sl_pu (P' := Pt b (Ts 136)) (Pt_up (T := Ts 135) (i := 126) (j := 137) rfl rfl) ?_
  refine sl_ca (Pt_rd (T := Ts 136) (i := 126) (j := 127) rfl) ?_
  refine sl_gs ⟨kkq (x := (12, 5608)) rfl, vpq (x := (12, 5608)) rfl (vp_in_nI (n := 1) (by decide) (by decide))⟩ ?_
  refine sl_pu (P' := It b (Ss 16)) (It_up (T := Ss 15) (i := 127) rfl rfl) ?_
  refine sl_gs ⟨kkq (x := (12, 5608)) rfl, vpq (x := (12, 5608)) rfl (vp_in_nI (n := 3) (by decide) (by decide))⟩ ?_
  refine sl_pu (P' := It b (Ss 17)) (It_up (T := Ss 16) (i := 127) rfl rfl) ?_
  refine sl_gs ⟨kkq (x := (12, 5608)) rfl, vpq (x := (12, 5608)) rfl (vp_in_nI (n := 5) (by decide) (by decide))⟩ ?_
  refine sl_pu (P' := It b (Ss 18)) (It_up (T := Ss 17) (i := 127) rfl rfl) ?_
  refine sl_ca (Pt_rd (T := Ts 136) (i := 126) (j := 135) rfl) ?_
  refine sl_gs ⟨kkq (x := (12, 4)) rfl, vpq (x := (12, 4)) rfl (vp_in_nI (n := 0) (by decide) (by decide))⟩ ?_
  refine sl_pu (P' := It b (Ss 19)) (It_up (T := Ss 18) (i := 135) rfl rfl) ?_
  refine sl_gs ⟨kkq (x := (12, 4)) rfl, vpq (x := (12, 4)) rfl (vp_in_nI (n := 1) (by decide) (by decide))⟩ ?_
  refine sl_pu (P' := It b (Ss 20)) (It_up (T := Ss 19) (i := 135) rfl rfl) ?_
  refine sl_gs ⟨kkq (x := (12, 4)) rfl, vpq (x := (12, 4)) rfl (vp_in_nI (n := 2) (by decide) (by decide))⟩ ?_
  refine sl_pu (P' := It b (Ss 21)) (It_up (T := Ss 20) (i := 135) rfl rfl) ?_
  refine sl_gs ⟨kkq (x := (12, 4)) rfl, vpq (x := (12, 4)) rfl (vp_in_nI (n := 3) (by decide) (by decide))⟩ ?_
  refine sl_pu (P' := It b (Ss 22)) (It_up (T := Ss 21) (i := 135) rfl rfl) ?_
  exact rfl
