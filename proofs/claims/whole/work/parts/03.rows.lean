/-! THE MEMORY: kinds K and lengths N of the cells, their numbers I (cell, slot), their references P (cell, slot); it lies in the cells L -/
abbrev mm_C : Type := ClassId × ClassId × ClassId × ClassId × ClassId
def mm_e (cs : mm_C) (k n : Nat) (f : Nat → Int32) (g : Nat → Option Nat) : va_E := match k with
  | 1 => .inr (0, [.int (f 0), .int (f 1), va_rf (g 2), va_rf (g 3)])
  | 2 => .inr (1, [va_rf (g 0), .int (f 1), .int (f 2)])
  | 3 => .inr (2, [.int (f 0), .int (f 1), .int (f 2), .int (f 3)])
  | 4 => .inr (3, [va_rf (g 0), va_rf (g 1), va_rf (g 2), .int (f 3)])
  | 5 => .inr (4, [va_rf (g 0), va_rf (g 1), .int (f 2), .int (f 3), .int (f 4)])
  | 6 => .inr (5, [va_rf (g 0), .int (f 1)])
  | 7 => .inr (6, [va_rf (g 0), .int (f 1), .int (f 2), va_rf (g 3), va_rf (g 4), va_rf (g 5)])
  | 8 => .inr (7, [.int (f 0), .int (f 1), va_rf (g 2)])
  | 9 => .inr (8, [va_rf (g 0), .int (f 1), va_rf (g 2), va_rf (g 3), .int (f 4), .int (f 5), .int (f 6), .int (f 7)])
  | 10 => .inr (9, [va_rf (g 0), va_rf (g 1), .int (f 2), va_rf (g 3), va_rf (g 4), va_rf (g 5), va_rf (g 6), va_rf (g 7)])
  | 11 => .inr (10, [va_rf (g 0), va_rf (g 1), .int (f 2), .int (f 3), va_rf (g 4), .int (f 5), .int (f 6), .int (f 7), .int (f 8), .int (f 9), .int (f 10), .int (f 11), .int (f 12), .int (f 13), .int (f 14), va_rf (g 15), va_rf (g 16), va_rf (g 17), va_rf (g 18), va_rf (g 19), va_rf (g 20), va_rf (g 21), va_rf (g 22)])
  | 13 => .inl (cs.2.1, n, .inl f)
  | 14 => .inl (cs.2.2.1, n, .inr (.inr (.inr (.inr g))))
  | 15 => .inl (cs.2.2.2.1, n, .inr (.inr (.inr (.inr g))))
  | 16 => .inl (cs.2.2.2.2, n, .inr (.inr (.inr (.inr g))))
  | _ => .inl (cs.1, n, .inl f)
abbrev mm_T (cs : mm_C) : List (ClassId × FieldType) := [(cs.1, .int), (cs.2.1, .boolean), (cs.2.2.1, .object "RasterPainter$Act"), (cs.2.2.2.1, .object "RasterPainter$Layer"), (cs.2.2.2.2, .object "RasterPainter$Sheet")]
def mm_E (cs : mm_C) (K N : Nat → Nat) (I : Nat → Nat → Int32) (P : Nat → Nat → Option Nat) (a : Nat) : va_E := mm_e cs (K a) (N a) (I a) (P a)
/-- one number, one reference set; a stretch of numbers copied -/
def up2 (I : Nat → Nat → Int32) (a k : Nat) (v : Int32) : Nat → Nat → Int32 := fun b j => if b = a then (if j = k then v else I b j) else I b j
def upP (P : Nat → Nat → Option Nat) (a k : Nat) (v : Option Nat) : Nat → Nat → Option Nat := fun b j => if b = a then (if j = k then v else P b j) else P b j
def cp2 (I : Nat → Nat → Int32) (a0 sp a1 dp n : Nat) : Nat → Nat → Int32 := fun b j => if b = a1 then va_cpy (I a0) (I a1) sp dp n j else I b j
theorem up2_row (I : Nat → Nat → Int32) (a k : Nat) (v : Int32) : up2 I a k v a = upd (I a) k v := by funext j; simp [up2, upd]
theorem up2_ne (I : Nat → Nat → Int32) {a b : Nat} (k : Nat) (v : Int32) (h : b ≠ a) : up2 I a k v b = I b := by funext j; simp [up2, h]
theorem upP_row (P : Nat → Nat → Option Nat) (a k : Nat) (v : Option Nat) : upP P a k v a = va_up (P a) k v := by funext j; simp [upP, va_up]
theorem upP_ne (P : Nat → Nat → Option Nat) {a b : Nat} (k : Nat) (v : Option Nat) (h : b ≠ a) : upP P a k v b = P b := by funext j; simp [upP, h]
theorem cp2_row (I : Nat → Nat → Int32) (a0 sp a1 dp n : Nat) : cp2 I a0 sp a1 dp n a1 = va_cpy (I a0) (I a1) sp dp n := by funext j; simp [cp2]
theorem cp2_ne (I : Nat → Nat → Int32) {a1 b : Nat} (a0 sp dp n : Nat) (h : b ≠ a1) : cp2 I a0 sp a1 dp n b = I b := by funext j; simp [cp2, h]
theorem mm_E_up {cs : mm_C} {K N : Nat → Nat} {I I' : Nat → Nat → Int32} {P P' : Nat → Nat → Option Nat} {a : Nat} {x : va_E} (hx : x = mm_e cs (K a) (N a) (I' a) (P' a)) (hI : ∀ b, b ≠ a → I' b = I b) (hP : ∀ b, b ≠ a → P' b = P b) : va_up (mm_E cs K N I P) a x = mm_E cs K N I' P' := by
  funext b
  by_cases h : b = a
  · subst h
    simp [va_up, mm_E, hx]
  · rw [va_up_ne _ _ h]
    simp [mm_E, hI b h, hP b h]
/-- the nest's links, the static arrays, the texts, as the start has them; z: their addresses -/
def mm_sl : Nat → Nat := fun i => [4, 4, 6, 4, 5, 4, 4, 6, 4, 5].getD i 0
def mm_sb : Nat → List Int32 := fun i => [[109, 111, 118, 101], [108, 105, 110, 101], [97, 99, 114, 111, 115, 115], [100, 111, 119, 110], [99, 108, 111, 115, 101], [109, 111, 118, 101], [108, 105, 110, 101], [97, 99, 114, 111, 115, 115], [100, 111, 119, 110], [99, 108, 111, 115, 101]].getD i []
def mm_zm : Nat → Int32 := fun j => [-1, 0, 0, 1, 2, 0].getD j 0
def mm_zt : Nat → Int32 := fun j => [0, 8, 2, 10, 12, 4, 14, 6, 3, 11, 1, 9, 15, 7, 13, 5].getD j 0
def mm_Zn (U : State) : Prop := va_Nw (.methodLinkNest "RasterPainter$Tape" 52 ⟨"RasterPainter", "isWithin", "(III)Z"⟩ "RasterPainter") U ∧ va_Nw (.methodLinkNest "RasterPainter$Picture" 140 ⟨"RasterPainter", "dotAt", "(II)I"⟩ "RasterPainter") U ∧ va_Nw (.methodLinkNest "RasterPainter$Choice" 34 ⟨"RasterPainter", "dotAt", "(II)I"⟩ "RasterPainter") U ∧ va_Nw (.methodLinkNest "RasterPainter$Choice" 56 ⟨"RasterPainter", "isDot", "(II)Z"⟩ "RasterPainter") U ∧ va_Nw (.methodLinkNest "RasterPainter$Mask" 26 ⟨"RasterPainter", "dotAt", "(II)I"⟩ "RasterPainter") U
def mm_Zs (z : Nat → Nat) (w : Option Nat) (A : Nat → Prop) (U : State) (H : Heap) : Prop := va_Z "RasterPainter" "MODE_ABOVE" "[I" (.ref (z 0)) A U H ∧ va_T .int (z 0) 6 (fun j => .int (mm_zm j)) A U H ∧ va_Z "RasterPainter" "THRESHOLDS" "[I" (.ref (z 1)) A U H ∧ va_T .int (z 1) 16 (fun j => .int (mm_zt j)) A U H ∧ va_Z "RasterPainterModel" "ORDER" "[I" (.ref (z 2)) A U H ∧ va_T .int (z 2) 16 (fun j => .int (mm_zt j)) A U H ∧ va_Z "java/lang/String" "COMPACT_STRINGS" "Z" (.int 1) A U H ∧ va_Z "jdk/internal/util/Preconditions" "SIOOBE_FORMATTER" "Ljava/util/function/BiFunction;" (va_rf w) A U H
def mm_Zt (z : Nat → Nat) (A : Nat → Prop) (U : State) (H : Heap) : Prop := ∀ i : Nat, i < 10 → va_O "java/lang/String" (z (10 + i)) A U H ∧ va_OF "java/lang/String" "coder" "B" (.int 0) (z (10 + i)) A U H ∧ va_OF "java/lang/String" "value" "[B" (.ref (z (20 + i))) (z (10 + i)) A U H ∧ va_T .byte (z (20 + i)) (mm_sl i) (fun j => .int ((mm_sb i).getD j 0)) A U H
def mm_Zr (z : Nat → Nat) (U : State) : Prop := (vk_R "RasterPainter$Tape" 37 "move" (z 10) U ∧ vk_R "RasterPainter$Tape" 56 "line" (z 11) U ∧ vk_R "RasterPainter$Tape" 58 "across" (z 12) U ∧ vk_R "RasterPainter$Tape" 68 "down" (z 13) U ∧ vk_R "RasterPainter$Tape" 70 "close" (z 14) U) ∧ (vk_R "RasterPainterModel" 152 "move" (z 15) U ∧ vk_R "RasterPainterModel" 158 "line" (z 16) U ∧ vk_R "RasterPainterModel" 160 "across" (z 17) U ∧ vk_R "RasterPainterModel" 162 "down" (z 18) U ∧ vk_R "RasterPainterModel" 164 "close" (z 19) U)
def mm_Z (z : Nat → Nat) (w : Option Nat) (A : Nat → Prop) (U : State) : Prop := mm_Zn U ∧ mm_Zr z U ∧ mm_Zs z w A U U.heap ∧ mm_Zt z A U U.heap
theorem mm_Zn_warm {s U : State} (hW : s.WarmedH U.vm) (h : mm_Zn s) : mm_Zn U := ⟨h.1.warmM hW, h.2.1.warmM hW, h.2.2.1.warmM hW, h.2.2.2.1.warmM hW, h.2.2.2.2.warmM hW⟩
theorem mm_Zr_warm {z : Nat → Nat} {s U : State} (hW : s.WarmedH U.vm) (h : mm_Zr z s) : mm_Zr z U := ⟨⟨h.1.1.warm hW, h.1.2.1.warm hW, h.1.2.2.1.warm hW, h.1.2.2.2.1.warm hW, h.1.2.2.2.2.warm hW⟩, ⟨h.2.1.warm hW, h.2.2.1.warm hW, h.2.2.2.1.warm hW, h.2.2.2.2.1.warm hW, h.2.2.2.2.2.warm hW⟩⟩
theorem mm_Zs_to {z : Nat → Nat} {w : Option Nat} {A : Nat → Prop} {s U : State} {H H1 : Heap} (hvm : s.vm.Alike U.vm) (hq : ∀ a : Nat, a < H.size → ¬ A a → H1[a]? = H[a]?) (h : mm_Zs z w A s H) : mm_Zs z w A U H1 := by
  obtain ⟨h1, h2, h3, h4, h5, h6, h7, h8⟩ := h
  exact ⟨(h1.moved hvm).kept hq, (h2.moved hvm).kept hq, (h3.moved hvm).kept hq, (h4.moved hvm).kept hq, (h5.moved hvm).kept hq, (h6.moved hvm).kept hq, (h7.moved hvm).kept hq, (h8.moved hvm).kept hq⟩
theorem mm_Zt_to {z : Nat → Nat} {A : Nat → Prop} {s U : State} {H H1 : Heap} (hvm : s.vm.Alike U.vm) (hq : ∀ a : Nat, a < H.size → ¬ A a → H1[a]? = H[a]?) (h : mm_Zt z A s H) : mm_Zt z A U H1 := fun i hi => by
  obtain ⟨h1, h2, h3, h4⟩ := h i hi
  exact ⟨(h1.moved hvm).kept hq, (h2.moved hvm).kept hq, (h3.moved hvm).kept hq, (h4.moved hvm).kept hq⟩
theorem mm_Z_to {z : Nat → Nat} {w : Option Nat} {A : Nat → Prop} {s U : State} (hW : s.WarmedH U.vm) (hq : ∀ a : Nat, a < s.heap.size → ¬ A a → U.heap[a]? = s.heap[a]?) (h : mm_Z z w A s) : mm_Z z w A U :=
  ⟨mm_Zn_warm hW h.1, mm_Zr_warm hW h.2.1, mm_Zs_to hW.alike hq h.2.2.1, mm_Zt_to hW.alike hq h.2.2.2⟩
theorem mm_Zn_same {u U : State} (hv : u.vm = U.vm) (h : mm_Zn u) : mm_Zn U := ⟨h.1.same rfl hv, h.2.1.same rfl hv, h.2.2.1.same rfl hv, h.2.2.2.1.same rfl hv, h.2.2.2.2.same rfl hv⟩
theorem mm_Zr_same {z : Nat → Nat} {u U : State} (hv : U.vm = u.vm) (h : mm_Zr z u) : mm_Zr z U := ⟨⟨h.1.1.same hv, h.1.2.1.same hv, h.1.2.2.1.same hv, h.1.2.2.2.1.same hv, h.1.2.2.2.2.same hv⟩, ⟨h.2.1.same hv, h.2.2.1.same hv, h.2.2.2.1.same hv, h.2.2.2.2.1.same hv, h.2.2.2.2.2.same hv⟩⟩
theorem mm_Z_same {z : Nat → Nat} {w : Option Nat} {A : Nat → Prop} {u U : State} (hv : U.vm = u.vm) (hh : U.heap = u.heap) (h : mm_Z z w A u) : mm_Z z w A U := by
  have ha : u.vm.Alike U.vm := by rw [hv]; exact Vm.Alike.refl _
  have hq : ∀ a : Nat, a < u.heap.size → ¬ A a → U.heap[a]? = u.heap[a]? := fun a _ _ => by rw [hh]
  exact ⟨mm_Zn_same hv.symm h.1, mm_Zr_same hv h.2.1, mm_Zs_to ha hq h.2.2.1, mm_Zt_to ha hq h.2.2.2⟩
/-- the memory lies in the heap H -/
def mm_W (D : va_G) (cs : mm_C) (A : Nat → Prop) (L : List Nat) (K N : Nat → Nat) (H0 : Heap) (I : Nat → Nat → Int32) (P : Nat → Nat → Option Nat) (H : Heap) (locs : List Loc) : Prop :=
  (∀ b, K b ≠ 0 → b ∈ L) ∧ va_P D vwCl ([] ++ va_pl L (mm_E cs K N I P)) H ∧ va_D A ([] ++ va_pl L (mm_E cs K N I P)) ∧ va_S A H0 H locs
def mm_B (D : va_G) (cs : mm_C) (A : Nat → Prop) (L : List Nat) (K N z : Nat → Nat) (w : Option Nat) (I : Nat → Nat → Int32) (P : Nat → Nat → Option Nat) (U : State) : Prop :=
  (∀ b, K b ≠ 0 → b ∈ L) ∧ va_P D vwCl ([] ++ va_pl L (mm_E cs K N I P)) U.heap ∧ va_D A ([] ++ va_pl L (mm_E cs K N I P)) ∧ va_K D vwCl (mm_T cs) U ∧ mm_Z z w A U
theorem mm_B_blind {D : va_G} {cs : mm_C} {A : Nat → Prop} {L : List Nat} {K N z : Nat → Nat} {w : Option Nat} {I : Nat → Nat → Int32} {P : Nat → Nat → Option Nat} {av : List Value} : FrameBlind (va_Pc av (mm_B D cs A L K N z w I P)) := fun a U g mk q => by
  obtain ⟨q0, q1, q2, q3, q4, q5⟩ := q
  exact ⟨q0, q1, q2, q3, va_K.moved (u := U) (U := U.calling g mk a) (Vm.Alike.refl U.vm) q4, mm_Z_same (u := U) (U := U.calling g mk a) rfl rfl q5⟩
theorem mm_B_of {D : va_G} {cs : mm_C} {A : Nat → Prop} {L : List Nat} {K N z : Nat → Nat} {w : Option Nat} {I : Nat → Nat → Int32} {P : Nat → Nat → Option Nat} {s U : State} {H : Heap} {locs : List Loc} (hK : va_K D vwCl (mm_T cs) s) (hZ : mm_Z z w A s) (hM : mm_W D cs A L K N s.heap I P H locs) (hU : U.heap = H) (hW : s.WarmedH U.vm) : mm_B D cs A L K N z w I P U :=
  ⟨hM.1, by rw [hU]; exact hM.2.1, hM.2.2.1, va_K.moved hW.alike hK, mm_Z_to hW (fun a h1 h2 => by rw [hU]; exact hM.2.2.2.2.1 a h1 h2) hZ⟩
/-- a guard -/
noncomputable def gd {α : Type} (c : Prop) (x : Option α) : Option α := @ite _ c (Classical.propDecidable c) x none
theorem gd_pos {α : Type} {c : Prop} {x : Option α} (h : c) : gd c x = x := if_pos h
theorem gd_e {α : Type} {c : Prop} {x : Option α} {r : α} {G : Prop} (h : gd c x = some r) (k : c → x = some r → G) : G := by
  unfold gd at h
  split at h
  · exact k ‹_› h
  · cases h
theorem bd_e {α β : Type} {x : Option α} {f : α → Option β} {r : β} {G : Prop} (h : x.bind f = some r) (k : ∀ v, x = some v → f v = some r → G) : G := by
  obtain ⟨v, h1, h2⟩ := Option.bind_eq_some_iff.mp h
  exact k v h1 h2
theorem nn_x {α : Type} {r : α} {G : Prop} (h : (none : Option α) = some r) : G := by cases h
theorem nm_x {α β : Type} {e v : α} {f : α → Option β} {r : β} (hv : v = e) (h : (some e).bind f = some r) : f v = some r := by subst hv; exact h
theorem it_p {α : Type} {c : Prop} [i : Decidable c] {x y z : Option α} (h : (if c then x else y) = z) (hc : c) : x = z := by rw [if_pos hc] at h; exact h
theorem it_n {α : Type} {c : Prop} [i : Decidable c] {x y z : Option α} (h : (if c then x else y) = z) (hc : ¬ c) : y = z := by rw [if_neg hc] at h; exact h
section EV
variable {p : Program} {l : Launch} {e : Env} {R : Room} {s : State} {m : MethodId} {args : Array Value} {below : List Frame} {meth : Method} {c : Code} {H : Heap} {locs : List Loc} {cells slots : Nat} {Q : State → Prop}
variable {cc : ByteArray} {pc : Nat} {ls : Array Slot} {rest st0 : List Value} {nL : Nat} {Ts : List Cond} {own : String} {D : va_G} {cs : mm_C} {A : Nat → Prop} {H0 : Heap} {L : List Nat} {K N z : Nat → Nat} {w : Option Nat} {I I' : Nat → Nat → Int32} {P P' : Nat → Nat → Option Nat} {a : Nat}
theorem mm_W.mem (hM : mm_W D cs A L K N H0 I P H locs) {k : Nat} (h : K a = k) (h0 : k ≠ 0) : ∃ q : Nat, ([] ++ va_pl L (mm_E cs K N I P))[q]? = some (a, mm_e cs k (N a) (I a) (P a)) := by
  obtain ⟨q, hq⟩ := va_pl_get (X := []) (f := mm_E cs K N I P) (hM.1 a (by rw [h]; exact h0))
  exact ⟨q, by rw [hq]; simp only [mm_E, h]⟩
theorem ev_get (S : CallFix p m c cc nL s args Ts own) (hK : va_K D vwCl (mm_T cs) s) (hM : mm_W D cs A L K N H0 I P H locs) {ci n index : Nat} {C : String} {T : u_T} (hin : ∀ w ∈ u_ws C T n, w ∈ Ts) (hc : vwCl[ci]? = some (C, T, n)) (hk : K a = ci + 1) (k : Nat) (hkn : k < n) {nm ty : String} (hlink : (Cond.fieldLink own index C nm ty).before args s = true) (hnm : ((T k).1, (T k).2.1, (T k).2.2.1) = (C, nm, ty)) {fs : List Value} {v : Value} (he : mm_e cs (ci + 1) (N a) (I a) (P a) = .inr (ci, fs)) (hv : fs[k]? = some v) (hdg : decode cc pc = .ok (.getfield index, 3))
    (kk : W p l e R s m args below meth c H locs cells slots Q (F0 m (pc + 3) ls (v :: rest))) : W p l e R s m args below meth c H locs cells slots Q (F0 m pc ls (.ref a :: rest)) := by
  obtain ⟨q, hq⟩ := hM.mem hk (Nat.succ_ne_zero _)
  rw [he] at hq
  obtain ⟨e1, e2⟩ := Prod.mk.inj hnm
  obtain ⟨e2, e3⟩ := Prod.mk.inj e2
  exact va_get (ref := C) S.1 S.2.1 S.2.2.2.2 hin S.2.2.2.1 hK hM.2.1 q hq hc k hkn (by rw [e2, e3]; exact hlink) (fun x h => by rw [e1] at h; exact h) hv hdg kk
theorem ev_getP (S : CallFix p m c cc nL s args Ts own) (hK : va_K D vwCl (mm_T cs) s) (hM : mm_W D cs A L K N H0 I P H locs) {ci n index : Nat} {C : String} {T : u_T} (hin : ∀ w ∈ u_ws C T n, w ∈ Ts) (hc : vwCl[ci]? = some (C, T, n)) (hk : K a = ci + 1) (k : Nat) (hkn : k < n) {nm ty : String} (hlink : (Cond.fieldLink own index C nm ty).before args s = true) (hnm : ((T k).1, (T k).2.1, (T k).2.2.1) = (C, nm, ty)) {fs : List Value} {v : Nat} (he : mm_e cs (ci + 1) (N a) (I a) (P a) = .inr (ci, fs)) (hp : P a k = some v) (hv : fs[k]? = some (va_rf (P a k))) (hdg : decode cc pc = .ok (.getfield index, 3))
    (kk : W p l e R s m args below meth c H locs cells slots Q (F0 m (pc + 3) ls (.ref v :: rest))) : W p l e R s m args below meth c H locs cells slots Q (F0 m pc ls (.ref a :: rest)) :=
  ev_get S hK hM hin hc hk k hkn hlink hnm he hv hdg (by rw [hp]; exact kk)
theorem ev_put (S : CallFix p m c cc nL s args Ts own) (hK : va_K D vwCl (mm_T cs) s) (hM : mm_W D cs A L K N H0 I P H locs) {ci n index : Nat} {C : String} {T : u_T} (hin : ∀ w ∈ u_ws C T n, w ∈ Ts) (ty0 : Nat → FieldType) (hty : ∀ k, k < n → parseFieldDescriptor (T k).2.2.1 = some (ty0 k)) (hnu : ∀ a, a < n → ∀ b, b < n → a ≠ b → (T a).2.1 ≠ (T b).2.1) (hc : vwCl[ci]? = some (C, T, n)) (hk : K a = ci + 1) (k : Nat) (hkn : k < n) {nm ty : String} (hlink : (Cond.fieldLink own index C nm ty).before args s = true) (hnm : ((T k).1, (T k).2.1, (T k).2.2.1) = (C, nm, ty)) (hfin : (T k).2.2.2 = false) {x : Int32} (hn : narrow (ty0 k) (.int x) = .int x) (hfit : fits (ty0 k) (.int x) = true) {fs : List Value} (he : mm_e cs (ci + 1) (N a) (I a) (P a) = .inr (ci, fs)) (hl : k < fs.length) (hs : .inr (ci, fs.set k (.int x)) = mm_e cs (ci + 1) (N a) (upd (I a) k x) (P a)) (hdg : decode cc pc = .ok (.putfield index, 3))
    (kk : ∀ (I1 : Nat → Nat → Int32), I1 = up2 I a k x → ∀ (H1 : Heap) (locs1 : List Loc), mm_W D cs A L K N H0 I1 P H1 locs1 → W p l e R s m args below meth c H1 locs1 cells slots Q (F0 m (pc + 3) ls rest)) : W p l e R s m args below meth c H locs cells slots Q (F0 m pc ls (.int x :: .ref a :: rest)) := by
  obtain ⟨q, hq0⟩ := va_pl_get (X := []) (f := mm_E cs K N I P) (hM.1 a (by rw [hk]; exact Nat.succ_ne_zero _))
  have hq : ([] ++ va_pl L (mm_E cs K N I P))[q]? = some (a, .inr (ci, fs)) := by rw [hq0]; simp only [mm_E, hk]; rw [he]
  obtain ⟨e1, e2⟩ := Prod.mk.inj hnm
  obtain ⟨e2, e3⟩ := Prod.mk.inj e2
  refine va_put (ref := C) S.1 S.2.1 S.2.2.2.2 hin ty0 hty hnu S.2.2.2.1 hK hM.2.1 hM.2.2.1 hM.2.2.2 q hq hc k hkn (by rw [e2, e3]; exact hlink) (fun x h => by rw [e1] at h; exact h) hfin (hty k hkn) hn hfit hl hdg (fun H1 locs1 h1 h2 h3 => ?_)
  have e4 : ([] ++ va_pl L (mm_E cs K N I P)).set q (a, .inr (ci, fs.set k (.int x))) = [] ++ va_pl L (mm_E cs K N (up2 I a k x) P) := by
    rw [va_pl_set hM.2.2.1 (hM.1 a (by rw [hk]; exact Nat.succ_ne_zero _)) hq0, mm_E_up (I' := up2 I a k x) (P' := P) (by rw [up2_row, hk]; exact hs) (fun b hb => up2_ne I k x hb) (fun _ _ => rfl)]
  rw [e4] at h1 h2
  exact kk _ rfl H1 locs1 ⟨hM.1, h1, h2, h3⟩
theorem ev_iald (S : CallFix p m c cc nL s args Ts own) (hK : va_K D vwCl (mm_T cs) s) (hM : mm_W D cs A L K N H0 I P H locs) {i : Int32} (hg : K a = 12 ∧ vp_in i (N a)) {j : Nat} (hj : i.toNatClampNeg = j) (hdg : decode cc pc = .ok (.iaload, 1))
    (kk : W p l e R s m args below meth c H locs cells slots Q (F0 m (pc + 1) ls (.int (I a j) :: rest))) : W p l e R s m args below meth c H locs cells slots Q (F0 m pc ls (.int i :: .ref a :: rest)) := by
  subst hj
  obtain ⟨q, hq⟩ := hM.mem hg.1 (by decide)
  exact va_iald S.1 S.2.1 hK hM.2.1 q 0 hq rfl hg.2 hdg kk
theorem ev_zald (S : CallFix p m c cc nL s args Ts own) (hK : va_K D vwCl (mm_T cs) s) (hM : mm_W D cs A L K N H0 I P H locs) {i : Int32} (hg : K a = 13 ∧ vp_in i (N a)) {j : Nat} (hj : i.toNatClampNeg = j) (hdg : decode cc pc = .ok (.baload, 1))
    (kk : W p l e R s m args below meth c H locs cells slots Q (F0 m (pc + 1) ls (.int (I a j) :: rest))) : W p l e R s m args below meth c H locs cells slots Q (F0 m pc ls (.int i :: .ref a :: rest)) := by
  subst hj
  obtain ⟨q, hq⟩ := hM.mem hg.1 (by decide)
  exact va_zald S.1 S.2.1 hK hM.2.1 q 1 hq rfl hg.2 hdg kk
theorem mm_W.put (hM : mm_W D cs A L K N H0 I P H locs) {x : va_E} {q : Nat} (h0 : K a ≠ 0) (hq : ([] ++ va_pl L (mm_E cs K N I P))[q]? = some (a, mm_E cs K N I P a)) (hx : x = mm_e cs (K a) (N a) (I' a) (P' a)) (hI : ∀ b, b ≠ a → I' b = I b) (hP : ∀ b, b ≠ a → P' b = P b) {H1 : Heap} {locs1 : List Loc} (h1 : va_P D vwCl (([] ++ va_pl L (mm_E cs K N I P)).set q (a, x)) H1) (h2 : va_D A (([] ++ va_pl L (mm_E cs K N I P)).set q (a, x))) (h3 : va_S A H0 H1 locs1) : mm_W D cs A L K N H0 I' P' H1 locs1 := by
  rw [va_pl_set hM.2.2.1 (hM.1 a h0) hq, mm_E_up hx hI hP] at h1 h2
  exact ⟨hM.1, h1, h2, h3⟩
theorem ev_iast (S : CallFix p m c cc nL s args Ts own) (hK : va_K D vwCl (mm_T cs) s) (hM : mm_W D cs A L K N H0 I P H locs) {i x : Int32} (hg : K a = 12 ∧ vp_in i (N a)) {j : Nat} (hj : i.toNatClampNeg = j) (hdg : decode cc pc = .ok (.iastore, 1))
    (kk : ∀ (I1 : Nat → Nat → Int32), I1 = up2 I a j x → ∀ (H1 : Heap) (locs1 : List Loc), mm_W D cs A L K N H0 I1 P H1 locs1 → W p l e R s m args below meth c H1 locs1 cells slots Q (F0 m (pc + 1) ls rest)) : W p l e R s m args below meth c H locs cells slots Q (F0 m pc ls (.int x :: .int i :: .ref a :: rest)) := by
  subst hj
  have h0 : K a ≠ 0 := by rw [hg.1]; decide
  obtain ⟨q, hq⟩ := va_pl_get (X := []) (f := mm_E cs K N I P) (hM.1 a h0)
  refine va_iast S.1 S.2.1 hK hM.2.1 hM.2.2.1 hM.2.2.2 q 0 (cA := cs.1) (n := N a) (f := I a) (by rw [hq]; simp only [mm_E, hg.1]; rfl) rfl hg.2 hdg (fun H1 locs1 h1 h2 h3 => kk _ rfl H1 locs1 (hM.put h0 hq ?_ (fun b hb => up2_ne I _ x hb) (fun _ _ => rfl) h1 h2 h3))
  rw [up2_row, hg.1]; rfl
theorem ev_zast (S : CallFix p m c cc nL s args Ts own) (hK : va_K D vwCl (mm_T cs) s) (hM : mm_W D cs A L K N H0 I P H locs) {i x : Int32} (hg : K a = 13 ∧ vp_in i (N a)) {j : Nat} (hj : i.toNatClampNeg = j) (hdg : decode cc pc = .ok (.bastore, 1))
    (kk : ∀ (I1 : Nat → Nat → Int32), I1 = up2 I a j (vp_nar .boolean x) → ∀ (H1 : Heap) (locs1 : List Loc), mm_W D cs A L K N H0 I1 P H1 locs1 → W p l e R s m args below meth c H1 locs1 cells slots Q (F0 m (pc + 1) ls rest)) : W p l e R s m args below meth c H locs cells slots Q (F0 m pc ls (.int x :: .int i :: .ref a :: rest)) := by
  subst hj
  have h0 : K a ≠ 0 := by rw [hg.1]; decide
  obtain ⟨q, hq⟩ := va_pl_get (X := []) (f := mm_E cs K N I P) (hM.1 a h0)
  refine va_zast S.1 S.2.1 hK hM.2.1 hM.2.2.1 hM.2.2.2 q 1 (cA := cs.2.1) (n := N a) (f := I a) (by rw [hq]; simp only [mm_E, hg.1]; rfl) rfl hg.2 hdg (fun H1 locs1 h1 h2 h3 => kk _ rfl H1 locs1 (hM.put h0 hq ?_ (fun b hb => up2_ne I _ _ hb) (fun _ _ => rfl) h1 h2 h3))
  rw [up2_row, hg.1]; rfl
/-- arrays of references: kind 14 Act, 15 Layer, 16 Sheet -/
theorem ev_aald14 (S : CallFix p m c cc nL s args Ts own) (hK : va_K D vwCl (mm_T cs) s) (hM : mm_W D cs A L K N H0 I P H locs) {i : Int32} {v : Nat} (hg : K a = 14 ∧ vp_in i (N a)) {j : Nat} (hj : i.toNatClampNeg = j) (hv : P a j = some v) (hdg : decode cc pc = .ok (.aaload, 1))
    (kk : W p l e R s m args below meth c H locs cells slots Q (F0 m (pc + 1) ls (.ref v :: rest))) : W p l e R s m args below meth c H locs cells slots Q (F0 m pc ls (.int i :: .ref a :: rest)) := by
  subst hj
  obtain ⟨q, hq⟩ := hM.mem hg.1 (by decide)
  exact va_aldq S.1 S.2.1 hK hM.2.1 q 2 hq rfl hg.2 hdg (by rw [hv]; exact kk)
theorem ev_aald15 (S : CallFix p m c cc nL s args Ts own) (hK : va_K D vwCl (mm_T cs) s) (hM : mm_W D cs A L K N H0 I P H locs) {i : Int32} {v : Nat} (hg : K a = 15 ∧ vp_in i (N a)) {j : Nat} (hj : i.toNatClampNeg = j) (hv : P a j = some v) (hdg : decode cc pc = .ok (.aaload, 1))
    (kk : W p l e R s m args below meth c H locs cells slots Q (F0 m (pc + 1) ls (.ref v :: rest))) : W p l e R s m args below meth c H locs cells slots Q (F0 m pc ls (.int i :: .ref a :: rest)) := by
  subst hj
  obtain ⟨q, hq⟩ := hM.mem hg.1 (by decide)
  exact va_aldq S.1 S.2.1 hK hM.2.1 q 3 hq rfl hg.2 hdg (by rw [hv]; exact kk)
theorem ev_aald16 (S : CallFix p m c cc nL s args Ts own) (hK : va_K D vwCl (mm_T cs) s) (hM : mm_W D cs A L K N H0 I P H locs) {i : Int32} {v : Nat} (hg : K a = 16 ∧ vp_in i (N a)) {j : Nat} (hj : i.toNatClampNeg = j) (hv : P a j = some v) (hdg : decode cc pc = .ok (.aaload, 1))
    (kk : W p l e R s m args below meth c H locs cells slots Q (F0 m (pc + 1) ls (.ref v :: rest))) : W p l e R s m args below meth c H locs cells slots Q (F0 m pc ls (.int i :: .ref a :: rest)) := by
  subst hj
  obtain ⟨q, hq⟩ := hM.mem hg.1 (by decide)
  exact va_aldq S.1 S.2.1 hK hM.2.1 q 4 hq rfl hg.2 hdg (by rw [hv]; exact kk)
theorem ev_aast14 (S : CallFix p m c cc nL s args Ts own) (hK : va_K D vwCl (mm_T cs) s) (hM : mm_W D cs A L K N H0 I P H locs) {i : Int32} {v : Nat} (hg : K a = 14 ∧ vp_in i (N a)) {j : Nat} (hj : i.toNatClampNeg = j) (hv : K v = 1) (hdg : decode cc pc = .ok (.aastore, 1))
    (kk : ∀ (P1 : Nat → Nat → Option Nat), P1 = upP P a j (some v) → ∀ (H1 : Heap) (locs1 : List Loc), mm_W D cs A L K N H0 I P1 H1 locs1 → W p l e R s m args below meth c H1 locs1 cells slots Q (F0 m (pc + 1) ls rest)) : W p l e R s m args below meth c H locs cells slots Q (F0 m pc ls (.ref v :: .int i :: .ref a :: rest)) := by
  subst hj
  have h0 : K a ≠ 0 := by rw [hg.1]; decide
  obtain ⟨q, hq⟩ := va_pl_get (X := []) (f := mm_E cs K N I P) (hM.1 a h0)
  obtain ⟨qv, hqv⟩ := hM.mem hv (by decide)
  refine va_astq S.1 S.2.1 hK hM.2.1 hM.2.2.1 hM.2.2.2 q 2 qv 0 (cA := cs.2.2.1) (n := N a) (f := P a) (by rw [hq]; simp only [mm_E, hg.1]; rfl) rfl hqv rfl hg.2 hdg (fun H1 locs1 h1 h2 h3 => kk _ rfl H1 locs1 (hM.put h0 hq ?_ (fun _ _ => rfl) (fun b hb => upP_ne P _ _ hb) h1 h2 h3))
  rw [upP_row, hg.1]; rfl
theorem ev_aast15 (S : CallFix p m c cc nL s args Ts own) (hK : va_K D vwCl (mm_T cs) s) (hM : mm_W D cs A L K N H0 I P H locs) {i : Int32} {v : Nat} (hg : K a = 15 ∧ vp_in i (N a)) {j : Nat} (hj : i.toNatClampNeg = j) (hv : K v = 5) (hdg : decode cc pc = .ok (.aastore, 1))
    (kk : ∀ (P1 : Nat → Nat → Option Nat), P1 = upP P a j (some v) → ∀ (H1 : Heap) (locs1 : List Loc), mm_W D cs A L K N H0 I P1 H1 locs1 → W p l e R s m args below meth c H1 locs1 cells slots Q (F0 m (pc + 1) ls rest)) : W p l e R s m args below meth c H locs cells slots Q (F0 m pc ls (.ref v :: .int i :: .ref a :: rest)) := by
  subst hj
  have h0 : K a ≠ 0 := by rw [hg.1]; decide
  obtain ⟨q, hq⟩ := va_pl_get (X := []) (f := mm_E cs K N I P) (hM.1 a h0)
  obtain ⟨qv, hqv⟩ := hM.mem hv (by decide)
  refine va_astq S.1 S.2.1 hK hM.2.1 hM.2.2.1 hM.2.2.2 q 3 qv 4 (cA := cs.2.2.2.1) (n := N a) (f := P a) (by rw [hq]; simp only [mm_E, hg.1]; rfl) rfl hqv rfl hg.2 hdg (fun H1 locs1 h1 h2 h3 => kk _ rfl H1 locs1 (hM.put h0 hq ?_ (fun _ _ => rfl) (fun b hb => upP_ne P _ _ hb) h1 h2 h3))
  rw [upP_row, hg.1]; rfl
theorem ev_alen (S : CallFix p m c cc nL s args Ts own) (hK : va_K D vwCl (mm_T cs) s) (hM : mm_W D cs A L K N H0 I P H locs) (hg : K a = 12) (hdg : decode cc pc = .ok (.arraylength, 1))
    (kk : W p l e R s m args below meth c H locs cells slots Q (F0 m (pc + 1) ls (.int (Int32.ofNat (N a)) :: rest))) : W p l e R s m args below meth c H locs cells slots Q (F0 m pc ls (.ref a :: rest)) := by
  obtain ⟨q, hq⟩ := hM.mem hg (by decide)
  exact va_alen S.1 S.2.1 hK hM.2.1 q 0 (x := (N a, .inl (I a))) hq rfl rfl hdg kk
/-- what arraycopy asks -/
def cpg (K N : Nat → Nat) (a0 : Nat) (sp : Int32) (a1 : Nat) (dp n : Int32) : Prop := K a0 = 12 ∧ K a1 = 12 ∧ ¬ sp < 0 ∧ ¬ dp < 0 ∧ ¬ n < 0 ∧ sp.toNatClampNeg + n.toNatClampNeg ≤ N a0 ∧ dp.toNatClampNeg + n.toNatClampNeg ≤ N a1
theorem ev_copy (S : CallFix p m c cc nL s args Ts own) (hls : nL = ls.size) (hK : va_K D vwCl (mm_T cs) s) (hM : mm_W D cs A L K N H0 I P H locs) {index : Nat} (hlink : (Cond.methodLink own index arraycopyName).before args s = true) (hnat : (Cond.native arraycopyName).before args s = true) (hstat : (Cond.static arraycopyName).before args s = true) (hini : (Cond.initialized "java/lang/System").before args s = true) {a0 : Nat} {sp dp n : Int32} (hg : cpg K N a0 sp a dp n) {j1 j2 j3 : Nat} (hj1 : sp.toNatClampNeg = j1) (hj2 : dp.toNatClampNeg = j2) (hj3 : n.toNatClampNeg = j3) (hframes : 1 ≤ R.frames) (hlocals : (rest.map fun v => v.category).sum + (nativeFrameWords "java/lang/System" "arraycopy" 5 + 11) ≤ R.locals) (hdg : decode cc pc = .ok (.invokestatic index, 3))
    (kk : ∀ (I1 : Nat → Nat → Int32), I1 = cp2 I a0 j1 a j2 j3 → ∀ (H1 : Heap) (locs1 : List Loc), mm_W D cs A L K N H0 I1 P H1 locs1 → W p l e R s m args below meth c H1 locs1 cells slots Q (F0 m (pc + 3) ls rest)) : W p l e R s m args below meth c H locs cells slots Q (F0 m pc ls (.int n :: .int dp :: .ref a :: .int sp :: .ref a0 :: rest)) := by
  subst hj1; subst hj2; subst hj3
  obtain ⟨g0, g1, g2, g3, g4, g5, g6⟩ := hg
  have h0 : K a ≠ 0 := by rw [g1]; decide
  obtain ⟨q, hq⟩ := va_pl_get (X := []) (f := mm_E cs K N I P) (hM.1 a h0)
  obtain ⟨qv, hqv⟩ := hM.mem g0 (by decide)
  refine va_copyi S.1 S.2.1 (S.2.2.1.trans hls) S.2.2.2.1 hlink hnat hstat hini hK hM.2.1 hM.2.2.1 hM.2.2.2 qv q 0 0 (c0 := cs.1) (c1 := cs.1) (n0 := N a0) (n1 := N a) (f := I a0) (g := I a) (ty := .int) hqv (by rw [hq]; simp only [mm_E, g1]; rfl) rfl rfl rfl g2 g3 g4 g5 g6 (fun _ _ => rfl) hframes hlocals hdg (fun H1 locs1 h1 h2 h3 => kk _ rfl H1 locs1 (hM.put h0 hq ?_ (fun b hb => cp2_ne I _ _ _ _ hb) (fun _ _ => rfl) h1 h2 h3))
  rw [cp2_row, g1]; rfl
/-- static arrays: 0 MODE_ABOVE, 1 THRESHOLDS, 2 ORDER -/
theorem ev_gets0 (S : CallFix p m c cc nL s args Ts own) (hZ : mm_Z z w A s) (hM : mm_W D cs A L K N s.heap I P H locs) {index : Nat} (hlink : (Cond.fieldLink own index "RasterPainter" "MODE_ABOVE" "[I").before args s = true) (hdg : decode cc pc = .ok (.getstatic index, 3))
    (kk : W p l e R s m args below meth c H locs cells slots Q (F0 m (pc + 3) ls (.ref (z 0) :: rest))) : W p l e R s m args below meth c H locs cells slots Q (F0 m pc ls rest) := va_gets S.1 S.2.1 hZ.2.2.1.1 hM.2.2.2 S.2.2.2.1 hlink (fun _ h => h) hdg kk
theorem ev_gets1 (S : CallFix p m c cc nL s args Ts own) (hZ : mm_Z z w A s) (hM : mm_W D cs A L K N s.heap I P H locs) {index : Nat} (hlink : (Cond.fieldLink own index "RasterPainter" "THRESHOLDS" "[I").before args s = true) (hdg : decode cc pc = .ok (.getstatic index, 3))
    (kk : W p l e R s m args below meth c H locs cells slots Q (F0 m (pc + 3) ls (.ref (z 1) :: rest))) : W p l e R s m args below meth c H locs cells slots Q (F0 m pc ls rest) := va_gets S.1 S.2.1 hZ.2.2.1.2.2.1 hM.2.2.2 S.2.2.2.1 hlink (fun _ h => h) hdg kk
theorem ev_gets2 (S : CallFix p m c cc nL s args Ts own) (hZ : mm_Z z w A s) (hM : mm_W D cs A L K N s.heap I P H locs) {index : Nat} (hlink : (Cond.fieldLink own index "RasterPainterModel" "ORDER" "[I").before args s = true) (hdg : decode cc pc = .ok (.getstatic index, 3))
    (kk : W p l e R s m args below meth c H locs cells slots Q (F0 m (pc + 3) ls (.ref (z 2) :: rest))) : W p l e R s m args below meth c H locs cells slots Q (F0 m pc ls rest) := va_gets S.1 S.2.1 hZ.2.2.1.2.2.2.2.1 hM.2.2.2 S.2.2.2.1 hlink (fun _ h => h) hdg kk
theorem ev_sld0 (S : CallFix p m c cc nL s args Ts own) (hZ : mm_Z z w A s) (hM : mm_W D cs A L K N s.heap I P H locs) {i : Int32} (hg : vp_in i 6) (hdg : decode cc pc = .ok (.iaload, 1))
    (kk : W p l e R s m args below meth c H locs cells slots Q (F0 m (pc + 1) ls (.int (mm_zm i.toNatClampNeg) :: rest))) : W p l e R s m args below meth c H locs cells slots Q (F0 m pc ls (.int i :: .ref (z 0) :: rest)) := va_ti S.1 S.2.1 hZ.2.2.1.2.1 hM.2.2.2 hg rfl hdg kk
theorem ev_sld1 (S : CallFix p m c cc nL s args Ts own) (hZ : mm_Z z w A s) (hM : mm_W D cs A L K N s.heap I P H locs) {i : Int32} (hg : vp_in i 16) (hdg : decode cc pc = .ok (.iaload, 1))
    (kk : W p l e R s m args below meth c H locs cells slots Q (F0 m (pc + 1) ls (.int (mm_zt i.toNatClampNeg) :: rest))) : W p l e R s m args below meth c H locs cells slots Q (F0 m pc ls (.int i :: .ref (z 1) :: rest)) := va_ti S.1 S.2.1 hZ.2.2.1.2.2.2.1 hM.2.2.2 hg rfl hdg kk
theorem ev_sld2 (S : CallFix p m c cc nL s args Ts own) (hZ : mm_Z z w A s) (hM : mm_W D cs A L K N s.heap I P H locs) {i : Int32} (hg : vp_in i 16) (hdg : decode cc pc = .ok (.iaload, 1))
    (kk : W p l e R s m args below meth c H locs cells slots Q (F0 m (pc + 1) ls (.int (mm_zt i.toNatClampNeg) :: rest))) : W p l e R s m args below meth c H locs cells slots Q (F0 m pc ls (.int i :: .ref (z 2) :: rest)) := va_ti S.1 S.2.1 hZ.2.2.1.2.2.2.2.2.1 hM.2.2.2 hg rfl hdg kk
/-- the texts -/
theorem ev_strv (S : CallFix p m c cc nL s args Ts own) (hZ : mm_Z z w A s) (hM : mm_W D cs A L K N s.heap I P H locs) {i index : Nat} (hi : i < 10) (hlink : (Cond.fieldLink own index "java/lang/String" "value" "[B").before args s = true) (hdg : decode cc pc = .ok (.getfield index, 3))
    (kk : W p l e R s m args below meth c H locs cells slots Q (F0 m (pc + 3) ls (.ref (z (20 + i)) :: rest))) : W p l e R s m args below meth c H locs cells slots Q (F0 m pc ls (.ref (z (10 + i)) :: rest)) := vk_getf S.1 S.2.1 (hZ.2.2.2 i hi).2.2.1 hM.2.2.2 S.2.2.2.1 hlink (fun _ h => h) hdg kk
theorem ev_strc (S : CallFix p m c cc nL s args Ts own) (hZ : mm_Z z w A s) (hM : mm_W D cs A L K N s.heap I P H locs) {i index : Nat} (hi : i < 10) (hlink : (Cond.fieldLink own index "java/lang/String" "coder" "B").before args s = true) (hdg : decode cc pc = .ok (.getfield index, 3))
    (kk : W p l e R s m args below meth c H locs cells slots Q (F0 m (pc + 3) ls (.int 0 :: rest))) : W p l e R s m args below meth c H locs cells slots Q (F0 m pc ls (.ref (z (10 + i)) :: rest)) := vk_getf S.1 S.2.1 (hZ.2.2.2 i hi).2.1 hM.2.2.2 S.2.2.2.1 hlink (fun _ h => h) hdg kk
theorem ev_cs (S : CallFix p m c cc nL s args Ts own) (hZ : mm_Z z w A s) (hM : mm_W D cs A L K N s.heap I P H locs) {index : Nat} (hlink : (Cond.fieldLink own index "java/lang/String" "COMPACT_STRINGS" "Z").before args s = true) (hdg : decode cc pc = .ok (.getstatic index, 3))
    (kk : W p l e R s m args below meth c H locs cells slots Q (F0 m (pc + 3) ls (.int 1 :: rest))) : W p l e R s m args below meth c H locs cells slots Q (F0 m pc ls rest) := va_gets S.1 S.2.1 hZ.2.2.1.2.2.2.2.2.2.1 hM.2.2.2 S.2.2.2.1 hlink (fun _ h => h) hdg kk
theorem ev_sio (S : CallFix p m c cc nL s args Ts own) (hZ : mm_Z z w A s) (hM : mm_W D cs A L K N s.heap I P H locs) {index : Nat} (hlink : (Cond.fieldLink own index "jdk/internal/util/Preconditions" "SIOOBE_FORMATTER" "Ljava/util/function/BiFunction;").before args s = true) (hdg : decode cc pc = .ok (.getstatic index, 3))
    (kk : W p l e R s m args below meth c H locs cells slots Q (F0 m (pc + 3) ls (va_rf w :: rest))) : W p l e R s m args below meth c H locs cells slots Q (F0 m pc ls rest) := va_gets S.1 S.2.1 hZ.2.2.1.2.2.2.2.2.2.2 hM.2.2.2 S.2.2.2.1 hlink (fun _ h => h) hdg kk
theorem ev_strl (S : CallFix p m c cc nL s args Ts own) (hZ : mm_Z z w A s) (hM : mm_W D cs A L K N s.heap I P H locs) {i : Nat} (hi : i < 10) (hdg : decode cc pc = .ok (.arraylength, 1))
    (kk : W p l e R s m args below meth c H locs cells slots Q (F0 m (pc + 1) ls (.int (Int32.ofNat (mm_sl i)) :: rest))) : W p l e R s m args below meth c H locs cells slots Q (F0 m pc ls (.ref (z (20 + i)) :: rest)) := va_tlen S.1 S.2.1 (hZ.2.2.2 i hi).2.2.2 hM.2.2.2 rfl hdg kk
theorem ev_strb (S : CallFix p m c cc nL s args Ts own) (hZ : mm_Z z w A s) (hM : mm_W D cs A L K N s.heap I P H locs) {i : Nat} {j : Int32} (hi : i < 10) (hg : vp_in j (mm_sl i)) (hdg : decode cc pc = .ok (.baload, 1))
    (kk : W p l e R s m args below meth c H locs cells slots Q (F0 m (pc + 1) ls (.int (List.getD (mm_sb i) (Int32.toNatClampNeg j) 0) :: rest))) : W p l e R s m args below meth c H locs cells slots Q (F0 m pc ls (.int j :: .ref (z (20 + i)) :: rest)) := va_tb S.1 S.2.1 (hZ.2.2.2 i hi).2.2.2 hM.2.2.2 hg rfl hdg kk
theorem ev_recvT (hZ : mm_Z z w A s) (hM : mm_W D cs A L K N s.heap I P H locs) {i : Nat} (hi : i < 10) : ∃ cell : Cell, H[z (10 + i)]? = some cell ∧ cell.vm.isStatics = false ∧ s.vm.findClass "java/lang/String" = some cell.cls := by
  obtain ⟨cell, h1, h2, h3, -⟩ := (hZ.2.2.2 i hi).1.kept hM.2.2.2.2.1
  exact ⟨cell, h1, h2, h3⟩
def chn (x : Int32) : Int32 := (x.toUInt32 % 65536).toInt32
def FU : Nat := 6000
theorem sm_r {α β γ : Type} {f : α → γ} {g : β → γ} {x : β} {y : γ} (h : Sum.elim f g (Sum.inr x) = y) : g x = y := h
/-- the shift of iushr; a boolean's narrowing -/
def ius (x y : Int32) : Int32 := (x.toUInt32 >>> (y.toUInt32 &&& Int32.toUInt32 31)).toInt32
theorem nar_b {v : Int32} (h : v = 0 ∨ v = 1) : narrow .boolean (.int v) = .int v := by rcases h with rfl | rfl <;> rfl
theorem fit_b {v : Int32} (h : v = 0 ∨ v = 1) : fits .boolean (.int v) = true := by rcases h with rfl | rfl <;> rfl
theorem ne_t {x k : Int32} {y : Int} (h : ¬ x = k) (hk : k.toInt = y) : x.toInt ≠ y := fun e => h (Int32.toInt_inj.mp (e.trans hk.symm))
/-- calls: what the callee's contract says, and on -/
theorem ev_calli {v : Int32} {a0 : Array Value} (hr : va_Run p l e R s m args below meth c H locs cells slots 0 0 (F0 m pc ls st0) rest (va_Qi (fun r (_ : Unit) => r = v) (fun _ => mm_B D cs A L K N z w I' P') A a0) A) (hM : mm_W D cs A L K N H0 I P H locs)
    (kk : ∀ (H1 : Heap) (locs1 : List Loc), mm_W D cs A L K N H0 I' P' H1 locs1 → W p l e R s m args below meth c H1 locs1 cells slots Q (F0 m (pc + 3) ls (.int v :: rest))) : W p l e R s m args below meth c H locs cells slots Q (F0 m pc ls st0) :=
  va_calli hr hM.2.2.2 (fun _ _ h => h) (fun _ h => h) (fun r u t H1 locs1 ht _ hp hB _ _ hS => by
    subst hp
    exact kk H1 locs1 ⟨hB.1, by rw [← ht]; exact hB.2.1, hB.2.2.1, hS⟩)
theorem ev_callv {a0 : Array Value} (hr : va_Run p l e R s m args below meth c H locs cells slots 0 0 (F0 m pc ls st0) rest (va_Qv (fun (_ : Unit) => True) (fun _ => mm_B D cs A L K N z w I' P') A a0) A) (hM : mm_W D cs A L K N H0 I P H locs)
    (kk : ∀ (H1 : Heap) (locs1 : List Loc), mm_W D cs A L K N H0 I' P' H1 locs1 → W p l e R s m args below meth c H1 locs1 cells slots Q (F0 m (pc + 3) ls rest)) : W p l e R s m args below meth c H locs cells slots Q (F0 m pc ls st0) :=
  va_callv hr hM.2.2.2 (fun _ _ h => h) (fun _ h => h) (fun u t H1 locs1 ht _ _ hB _ _ hS => kk H1 locs1 ⟨hB.1, by rw [← ht]; exact hB.2.1, hB.2.2.1, hS⟩)
theorem ev_recv (hK : va_K D vwCl (mm_T cs) s) (hM : mm_W D cs A L K N H0 I P H locs) {ci : Nat} {q : vw_C} {fs : List Value} (hc : vwCl[ci]? = some q) (hk : K a = ci + 1) (he : mm_e cs (ci + 1) (N a) (I a) (P a) = .inr (ci, fs)) : ∃ cell : Cell, H[a]? = some cell ∧ cell.vm.isStatics = false ∧ s.vm.findClass q.1 = some cell.cls := by
  obtain ⟨k, h⟩ := hM.mem hk (Nat.succ_ne_zero _)
  rw [he] at h
  exact va_recv hK hM.2.1 hc h
/-- ends -/
theorem ev_iret (S : CallFix p m c cc nL s args Ts own) (hr : meth.sig.returnType = some .int) (hlocks : meth.locks = false) (hK : va_K D vwCl (mm_T cs) s) (hZ : mm_Z z w A s) (hM : mm_W D cs A L K N s.heap I P H locs) {v : Int32} (hdg : decode cc pc = .ok (.ireturn, 1)) : W p l e R s m args below meth c H locs 0 0 (MQ below (va_Qi (fun r (_ : Unit) => r = v) (fun _ => mm_B D cs A L K N z w I P) A) args s 0 0 A) (F0 m pc ls [.int v]) :=
  W.iret (v := v) S.1 S.2.1 hr (fun t ht hW => ⟨⟨v, (), rfl, rfl, mm_B_of hK hZ hM ht hW⟩, hM.2.2.2.F ht⟩) hM.2.2.2.2.2 hdg hlocks
theorem ev_zret (S : CallFix p m c cc nL s args Ts own) {ty : FieldType} (hr : meth.sig.returnType = some ty) (hlocks : meth.locks = false) (hK : va_K D vwCl (mm_T cs) s) (hZ : mm_Z z w A s) (hM : mm_W D cs A L K N s.heap I P H locs) {v : Int32} (hn : narrow ty (.int v) = .int v) (hdg : decode cc pc = .ok (.ireturn, 1)) : W p l e R s m args below meth c H locs 0 0 (MQ below (va_Qi (fun r (_ : Unit) => r = v) (fun _ => mm_B D cs A L K N z w I P) A) args s 0 0 A) (F0 m pc ls [.int v]) :=
  W.zret (v := v) S.1 S.2.1 hr hn (fun t ht hW => ⟨⟨v, (), rfl, rfl, mm_B_of hK hZ hM ht hW⟩, hM.2.2.2.F ht⟩) hM.2.2.2.2.2 hdg hlocks
theorem ev_vret (S : CallFix p m c cc nL s args Ts own) (hr : meth.sig.returnType = none) (hlocks : meth.locks = false) (hK : va_K D vwCl (mm_T cs) s) (hZ : mm_Z z w A s) (hM : mm_W D cs A L K N s.heap I P H locs) (hdg : decode cc pc = .ok (.return_, 1)) : W p l e R s m args below meth c H locs 0 0 (MQ below (va_Qv (fun (_ : Unit) => True) (fun _ => mm_B D cs A L K N z w I P) A) args s 0 0 A) (F0 m pc ls []) :=
  W.vret S.1 S.2.1 hr (fun t ht hW => ⟨⟨(), rfl, trivial, mm_B_of hK hZ hM ht hW⟩, hM.2.2.2.F ht⟩) hM.2.2.2.2.2 hdg hlocks
end EV
