/-! THE MEMORY WHILE IT GROWS: cells b, b + 1, .. in the order in which they were made; kn: kind and length of each -/
def ll (b : Nat) (kn : List (Nat × Nat)) : List Nat := (List.range kn.length).map (fun j => b + j)
def kk (b : Nat) (kn : List (Nat × Nat)) (a : Nat) : Nat := if b ≤ a then (kn.getD (a - b) (0, 0)).1 else 0
def nn (b : Nat) (kn : List (Nat × Nat)) (a : Nat) : Nat := if b ≤ a then (kn.getD (a - b) (0, 0)).2 else 0
theorem ll_in {b : Nat} {kn : List (Nat × Nat)} {a : Nat} : a ∈ ll b kn ↔ b ≤ a ∧ a < b + kn.length := by
  unfold ll
  rw [List.mem_map]
  constructor
  · rintro ⟨j, hj, rfl⟩
    have := List.mem_range.mp hj
    omega
  · rintro ⟨h1, h2⟩
    exact ⟨a - b, List.mem_range.mpr (by omega), by omega⟩
theorem kk_in {b : Nat} {kn : List (Nat × Nat)} {a : Nat} (h : kk b kn a ≠ 0) : b ≤ a ∧ a < b + kn.length := by
  unfold kk at h
  by_cases h1 : b ≤ a
  · rw [if_pos h1] at h
    refine ⟨h1, ?_⟩
    by_cases h2 : a - b < kn.length
    · omega
    · exact absurd (by rw [List.getD_eq_getElem?_getD, List.getElem?_eq_none (by omega)]; rfl) h
  · rw [if_neg h1] at h; exact absurd rfl h
theorem kk_app {b : Nat} {kn : List (Nat × Nat)} (x : Nat × Nat) {a : Nat} (h : a < b + kn.length) : kk b (kn ++ [x]) a = kk b kn a := by
  unfold kk
  by_cases h1 : b ≤ a
  · rw [if_pos h1, if_pos h1, List.getD_eq_getElem?_getD, List.getD_eq_getElem?_getD, List.getElem?_append_left (by omega)]
  · rw [if_neg h1, if_neg h1]
theorem nn_app {b : Nat} {kn : List (Nat × Nat)} (x : Nat × Nat) {a : Nat} (h : a < b + kn.length) : nn b (kn ++ [x]) a = nn b kn a := by
  unfold nn
  by_cases h1 : b ≤ a
  · rw [if_pos h1, if_pos h1, List.getD_eq_getElem?_getD, List.getD_eq_getElem?_getD, List.getElem?_append_left (by omega)]
  · rw [if_neg h1, if_neg h1]
theorem kk_new (b : Nat) (kn : List (Nat × Nat)) (x : Nat × Nat) : kk b (kn ++ [x]) (b + kn.length) = x.1 := by
  unfold kk
  rw [if_pos (Nat.le_add_right _ _), show b + kn.length - b = kn.length by omega, List.getD_eq_getElem?_getD, List.getElem?_concat_length]
  rfl
theorem nn_new (b : Nat) (kn : List (Nat × Nat)) (x : Nat × Nat) : nn b (kn ++ [x]) (b + kn.length) = x.2 := by
  unfold nn
  rw [if_pos (Nat.le_add_right _ _), show b + kn.length - b = kn.length by omega, List.getD_eq_getElem?_getD, List.getElem?_concat_length]
  rfl
def zb (b : Nat) (kn : List (Nat × Nat)) (I : Nat → Nat → Int32) (P : Nat → Nat → Option Nat) : Prop := ∀ a, b + kn.length ≤ a → I a = (fun _ => 0) ∧ P a = (fun _ => none)
def mm_G (D : va_G) (cs : mm_C) (A : Nat → Prop) (b : Nat) (kn : List (Nat × Nat)) (H0 : Heap) (I : Nat → Nat → Int32) (P : Nat → Nat → Option Nat) (H : Heap) (locs : List Loc) (cells : Nat) : Prop :=
  mm_W D cs A (ll b kn) (kk b kn) (nn b kn) H0 I P H locs ∧ H.size = b + kn.length ∧ H0.size + cells = b + kn.length ∧ zb b kn I P
def mm_O (U : State) : Prop := (va_AO "RasterPainter$Act" U ∧ va_AO "RasterPainter$Layer" U ∧ va_AO "RasterPainter$Sheet" U) ∧
  (va_Nw (.methodLinkNest "RasterPainter$Picture" 23 ⟨"RasterPainter$Mask", "<init>", "()V"⟩ "RasterPainter") U ∧ va_Nw (.methodLinkNest "RasterPainter$Picture" 30 ⟨"RasterPainter$Brush", "<init>", "()V"⟩ "RasterPainter") U ∧ va_Nw (.methodLinkNest "RasterPainter$Acts" 17 ⟨"RasterPainter$Act", "<init>", "()V"⟩ "RasterPainter") U ∧ va_Nw (.methodLinkNest "RasterPainter$Picture" 42 ⟨"RasterPainter$Layer", "<init>", "()V"⟩ "RasterPainter") U) ∧
  (va_Nw (.methodLinkNest "RasterPainter" 25 ⟨"RasterPainter$Tape", "<init>", "()V"⟩ "RasterPainter") U ∧ va_Nw (.methodLinkNest "RasterPainter" 36 ⟨"RasterPainter$Sheet", "<init>", "()V"⟩ "RasterPainter") U ∧ va_Nw (.methodLinkNest "RasterPainter" 39 ⟨"RasterPainter$Choice", "<init>", "()V"⟩ "RasterPainter") U ∧ va_Nw (.methodLinkNest "RasterPainter" 46 ⟨"RasterPainter$Layer", "<init>", "()V"⟩ "RasterPainter") U)
theorem mm_O_warm {s U : State} (hW : s.WarmedH U.vm) (h : mm_O s) : mm_O U := ⟨⟨h.1.1.moved hW.alike, h.1.2.1.moved hW.alike, h.1.2.2.moved hW.alike⟩, ⟨h.2.1.1.warmM hW, h.2.1.2.1.warmM hW, h.2.1.2.2.1.warmM hW, h.2.1.2.2.2.warmM hW⟩, ⟨h.2.2.1.warmM hW, h.2.2.2.1.warmM hW, h.2.2.2.2.1.warmM hW, h.2.2.2.2.2.warmM hW⟩⟩
theorem mm_O_same {u U : State} (hv : u.vm = U.vm) (h : mm_O u) : mm_O U := by
  have ha : u.vm.Alike U.vm := by rw [hv]; exact Vm.Alike.refl _
  exact ⟨⟨h.1.1.moved ha, h.1.2.1.moved ha, h.1.2.2.moved ha⟩, ⟨h.2.1.1.same rfl hv, h.2.1.2.1.same rfl hv, h.2.1.2.2.1.same rfl hv, h.2.1.2.2.2.same rfl hv⟩, ⟨h.2.2.1.same rfl hv, h.2.2.2.1.same rfl hv, h.2.2.2.2.1.same rfl hv, h.2.2.2.2.2.same rfl hv⟩⟩
def mm_Bg (D : va_G) (cs : mm_C) (A : Nat → Prop) (b : Nat) (z : Nat → Nat) (w : Option Nat) (kn : List (Nat × Nat)) (I : Nat → Nat → Int32) (P : Nat → Nat → Option Nat) (U : State) : Prop :=
  mm_B D cs A (ll b kn) (kk b kn) (nn b kn) z w I P U ∧ U.heap.size = b + kn.length ∧ zb b kn I P ∧ mm_O U
theorem mm_Bg_blind {D : va_G} {cs : mm_C} {A : Nat → Prop} {b : Nat} {z : Nat → Nat} {w : Option Nat} {kn : List (Nat × Nat)} {I : Nat → Nat → Int32} {P : Nat → Nat → Option Nat} {av : List Value} : FrameBlind (va_Pc av (mm_Bg D cs A b z w kn I P)) := fun a U g mk q => by
  obtain ⟨q0, q1, q2, q3, q4⟩ := q
  exact ⟨q0, (mm_B_blind (av := a.toList) a U g mk ⟨by simp, q1⟩).2, q2, q3, mm_O_same (u := U) (U := U.calling g mk a) rfl q4⟩
theorem mm_Bg_of {D : va_G} {cs : mm_C} {A : Nat → Prop} {b : Nat} {z : Nat → Nat} {w : Option Nat} {kn : List (Nat × Nat)} {I : Nat → Nat → Int32} {P : Nat → Nat → Option Nat} {s U : State} {H : Heap} {locs : List Loc} {cells : Nat} (hK : va_K D vwCl (mm_T cs) s) (hZ : mm_Z z w A s) (hO : mm_O s) (hM : mm_G D cs A b kn s.heap I P H locs cells) (hU : U.heap = H) (hW : s.WarmedH U.vm) : mm_Bg D cs A b z w kn I P U :=
  ⟨mm_B_of hK hZ hM.1 hU hW, by rw [hU]; exact hM.2.1, hM.2.2.2, mm_O_warm hW hO⟩
section EG
variable {p : Program} {l : Launch} {e : Env} {R : Room} {s : State} {m : MethodId} {args : Array Value} {below : List Frame} {meth : Method} {c : Code} {H H1 : Heap} {locs locs1 : List Loc} {cells slots : Nat} {Q : State → Prop}
variable {cc : ByteArray} {pc : Nat} {ls : Array Slot} {rest st0 : List Value} {nL : Nat} {Ts : List Cond} {own : String} {D : va_G} {cs : mm_C} {A : Nat → Prop} {H0 : Heap} {b : Nat} {kn kn' : List (Nat × Nat)} {z : Nat → Nat} {w : Option Nat} {I I' : Nat → Nat → Int32} {P P' : Nat → Nat → Option Nat} {a : Nat}
theorem W_sz (k : H.size ≤ s.heap.size + cells → W p l e R s m args below meth c H locs cells slots Q (F0 m pc ls rest)) : W p l e R s m args below meth c H locs cells slots Q (F0 m pc ls rest) := fun T hT X => k (by rw [← hT]; exact X.same.2.2.1) T hT X
theorem mm_G.put (hM : mm_G D cs A b kn H0 I P H locs cells) (hW : mm_W D cs A (ll b kn) (kk b kn) (nn b kn) H0 I' P' H1 locs1) (hs : H1.size ≤ H0.size + cells) (ha : kk b kn a ≠ 0) (hI : ∀ q, q ≠ a → I' q = I q) (hP : ∀ q, q ≠ a → P' q = P q) : mm_G D cs A b kn H0 I' P' H1 locs1 cells := by
  obtain ⟨a1, a2⟩ := kk_in ha
  obtain ⟨-, g2, g3, g4⟩ := hM
  refine ⟨hW, ?_, g3, fun q hq => ?_⟩
  · have hl : b + (kn.length - 1) < H1.size := by
      obtain ⟨k, hk⟩ := va_pl_get (X := []) (f := mm_E cs (kk b kn) (nn b kn) I' P') (ll_in.mpr (⟨by omega, by omega⟩ : b ≤ b + (kn.length - 1) ∧ b + (kn.length - 1) < b + kn.length))
      exact (hW.2.1 k _ hk).lt
    omega
  · rw [hI q (by omega), hP q (by omega)]
    exact g4 q hq
theorem mm_G.push (hA : ∀ q, A q ↔ b ≤ q) (hM : mm_G D cs A b kn H0 I P H locs cells) {x : va_E} {k n q : Nat} (hx : x = mm_e cs k n (fun _ => 0) (fun _ => none)) (h1 : va_P D vwCl (([] ++ va_pl (ll b kn) (mm_E cs (kk b kn) (nn b kn) I P)) ++ [(q, x)]) H1) (h2 : va_D A (([] ++ va_pl (ll b kn) (mm_E cs (kk b kn) (nn b kn) I P)) ++ [(q, x)])) (h3 : va_S A H0 H1 locs) (hs : H1.size ≤ H0.size + (cells + 1)) : q = b + kn.length ∧ mm_G D cs A b (kn ++ [(k, n)]) H0 I P H1 locs (cells + 1) := by
  obtain ⟨g1, g2, g3, g4⟩ := hM
  have hlen : ([] ++ va_pl (ll b kn) (mm_E cs (kk b kn) (nn b kn) I P)).length = kn.length := by simp [va_pl, ll]
  have hlast : (([] ++ va_pl (ll b kn) (mm_E cs (kk b kn) (nn b kn) I P)) ++ [(q, x)])[kn.length]? = some (q, x) := by
    rw [List.getElem?_append_right (by omega), hlen, Nat.sub_self]; rfl
  have hq1 : b ≤ q := (hA q).mp (h2.2 _ _ hlast)
  have hq2 : q < H1.size := (h1 _ _ hlast).lt
  have hq3 : ¬ q < b + kn.length := fun h => by
    have hj : ([] ++ va_pl (ll b kn) (mm_E cs (kk b kn) (nn b kn) I P))[q - b]? = some (q, mm_E cs (kk b kn) (nn b kn) I P q) := by
      simp only [va_pl, ll, List.nil_append, List.map_map, List.getElem?_map]
      rw [List.getElem?_range (by omega)]
      simp only [Option.map_some, Function.comp]
      rw [show b + (q - b) = q by omega]
    have := h2.1 (q - b) kn.length (q, mm_E cs (kk b kn) (nn b kn) I P q) (q, x) (by rw [List.getElem?_append_left (by omega)]; exact hj) hlast rfl
    omega
  have hq : q = b + kn.length := by omega
  subst hq
  have hll : ll b (kn ++ [(k, n)]) = ll b kn ++ [b + kn.length] := by
    unfold ll
    rw [List.length_append, List.length_cons, List.length_nil, List.range_succ, List.map_append]; rfl
  have e0 : va_pl (ll b (kn ++ [(k, n)])) (mm_E cs (kk b (kn ++ [(k, n)])) (nn b (kn ++ [(k, n)])) I P) = va_pl (ll b kn) (mm_E cs (kk b kn) (nn b kn) I P) ++ [(b + kn.length, x)] := by
    rw [hll]
    unfold va_pl
    rw [List.map_append]
    congr 1
    · refine List.map_congr_left (fun a ha => ?_)
      obtain ⟨-, a2⟩ := ll_in.mp ha
      simp only [mm_E, kk_app _ a2, nn_app _ a2]
    · simp only [List.map_cons, List.map_nil, mm_E, kk_new, nn_new]
      obtain ⟨z1, z2⟩ := g4 (b + kn.length) (Nat.le_refl _)
      rw [z1, z2, hx]
  refine ⟨rfl, ⟨⟨fun a ha => ll_in.mpr (kk_in ha), ?_, ?_, h3⟩, ?_, ?_, fun a ha => g4 a ?_⟩⟩
  · rw [e0, ← List.append_assoc]; exact h1
  · rw [e0, ← List.append_assoc]; exact h2
  · rw [List.length_append, List.length_cons, List.length_nil]; omega
  · rw [List.length_append, List.length_cons, List.length_nil]; omega
  · rw [List.length_append, List.length_cons, List.length_nil] at ha; omega
theorem eg_new (S : CallFix p m c cc nL s args Ts own) (hA : ∀ q, A q ↔ b ≤ q) (hbs : b ≤ s.heap.size) (hK : va_K D vwCl (mm_T cs) s) (hM : mm_G D cs A b kn s.heap I P H locs cells) {ci n index : Nat} {C : String} {T : u_T} (hin : ∀ w ∈ u_ws C T n, w ∈ Ts) (ty : Nat → FieldType) (hty : ∀ k, k < n → parseFieldDescriptor (T k).2.2.1 = some (ty k)) (hcl : (Cond.classLink own index C).before args s = true) (hinst : (Cond.instantiable C n).before args s = true) (hini : (Cond.initialized C).before args s = true) (hc : vwCl[ci]? = some (C, T, n)) {fs : List Value} (he : .inr (ci, fs) = mm_e cs (ci + 1) 0 (fun _ => 0) (fun _ => none)) (hfs : ∀ j, j < n → defaultValue (ty j) = vp_V fs j) (hcells : cells + 1 ≤ R.cells) (hslots : slots + n ≤ R.slots) (hdg : decode cc pc = .ok (.new index, 3))
    (k9 : ∀ (kn1 : List (Nat × Nat)), kn1 = kn ++ [(ci + 1, 0)] → ∀ (H1 : Heap), mm_G D cs A b kn1 s.heap I P H1 locs (cells + 1) → W p l e R s m args below meth c H1 locs (cells + 1) (slots + n) Q (F0 m (pc + 3) ls (.ref (b + kn.length) :: rest))) : W p l e R s m args below meth c H locs cells slots Q (F0 m pc ls rest) := by
  refine va_new S.1 S.2.1 S.2.2.2.2 hin ty hty S.2.2.2.1 hcl hinst hini hK hM.1.2.1 hM.1.2.2.1 hM.1.2.2.2 (fun q h => (hA q).mpr (Nat.le_trans hbs h)) hc hfs hcells hslots hdg (fun q H1 h1 h2 h3 => W_sz (fun hs => ?_))
  obtain ⟨rfl, hG⟩ := mm_G.push hA hM he h1 h2 h3 hs
  exact k9 _ rfl H1 hG
theorem eg_newI (S : CallFix p m c cc nL s args Ts own) (hA : ∀ q, A q ↔ b ≤ q) (hbs : b ≤ s.heap.size) (hK : va_K D vwCl (mm_T cs) s) (hM : mm_G D cs A b kn s.heap I P H locs cells) (harr : (Cond.arrayClass .int).before args s = true) {n : Int32} {N' : Nat} (hn : ¬ n < 0) (hN : n.toNatClampNeg = N') (hbytes : N' * componentBytes .int ≤ 536870912) (hcells : cells + 1 ≤ R.cells) (hslots : slots + N' ≤ R.slots) (hdg : decode cc pc = .ok (.newarray .int, 2))
    (k9 : ∀ (kn1 : List (Nat × Nat)), kn1 = kn ++ [(12, N')] → ∀ (H1 : Heap), mm_G D cs A b kn1 s.heap I P H1 locs (cells + 1) → W p l e R s m args below meth c H1 locs (cells + 1) (slots + N') Q (F0 m (pc + 2) ls (.ref (b + kn.length) :: rest))) : W p l e R s m args below meth c H locs cells slots Q (F0 m pc ls (.int n :: rest)) := by
  refine va_newa (atype := .int) (a0 := (N', .inl (fun _ => 0))) S.1 S.2.1 harr rfl hK hM.1.2.1 hM.1.2.2.1 hM.1.2.2.2 (fun q h => (hA q).mpr (Nat.le_trans hbs h)) (fun _ => rfl) hn hN hbytes hcells hslots hdg (fun q cA H1 hK1 h1 h2 h3 => W_sz (fun hs => ?_))
  have e1 : cA = cs.1 := Option.some.inj ((hK1.2 5 (cA, .int) rfl).2.symm.trans (hK.2 0 (cs.1, .int) rfl).2)
  subst e1
  obtain ⟨rfl, hG⟩ := mm_G.push (k := 12) (n := N') hA hM rfl h1 h2 h3 hs
  exact k9 _ rfl H1 hG
theorem eg_newZ (S : CallFix p m c cc nL s args Ts own) (hA : ∀ q, A q ↔ b ≤ q) (hbs : b ≤ s.heap.size) (hK : va_K D vwCl (mm_T cs) s) (hM : mm_G D cs A b kn s.heap I P H locs cells) (harr : (Cond.arrayClass .boolean).before args s = true) {n : Int32} {N' : Nat} (hn : ¬ n < 0) (hN : n.toNatClampNeg = N') (hbytes : N' * componentBytes .boolean ≤ 536870912) (hcells : cells + 1 ≤ R.cells) (hslots : slots + N' ≤ R.slots) (hdg : decode cc pc = .ok (.newarray .boolean, 2))
    (k9 : ∀ (kn1 : List (Nat × Nat)), kn1 = kn ++ [(13, N')] → ∀ (H1 : Heap), mm_G D cs A b kn1 s.heap I P H1 locs (cells + 1) → W p l e R s m args below meth c H1 locs (cells + 1) (slots + N') Q (F0 m (pc + 2) ls (.ref (b + kn.length) :: rest))) : W p l e R s m args below meth c H locs cells slots Q (F0 m pc ls (.int n :: rest)) := by
  refine va_newa (atype := .boolean) (a0 := (N', .inl (fun _ => 0))) S.1 S.2.1 harr rfl hK hM.1.2.1 hM.1.2.2.1 hM.1.2.2.2 (fun q h => (hA q).mpr (Nat.le_trans hbs h)) (fun _ => rfl) hn hN hbytes hcells hslots hdg (fun q cA H1 hK1 h1 h2 h3 => W_sz (fun hs => ?_))
  have e1 : cA = cs.2.1 := Option.some.inj ((hK1.2 5 (cA, .boolean) rfl).2.symm.trans (hK.2 1 (cs.2.1, .boolean) rfl).2)
  subst e1
  obtain ⟨rfl, hG⟩ := mm_G.push (k := 13) (n := N') hA hM rfl h1 h2 h3 hs
  exact k9 _ rfl H1 hG
theorem eg_newq (S : CallFix p m c cc nL s args Ts own) (hA : ∀ q, A q ↔ b ≤ q) (hbs : b ≤ s.heap.size) (hK : va_K D vwCl (mm_T cs) s) (hM : mm_G D cs A b kn s.heap I P H locs cells) {C : String} {index k0 t0 : Nat} {cB : ClassId} (hclink : (Cond.classLink own index C).before args s = true) (hover : va_AO C s) (ht0 : (mm_T cs)[t0]? = some (cB, .object C)) (hk0 : ∀ n : Nat, mm_e cs k0 n (fun _ => 0) (fun _ => none) = .inl (cB, n, .inr (.inr (.inr (.inr (fun _ => none)))))) {n : Int32} {N' : Nat} (hn : ¬ n < 0) (hN : n.toNatClampNeg = N') (hbytes : N' * 4 ≤ 536870912) (hcells : cells + 1 ≤ R.cells) (hslots : slots + N' ≤ R.slots) (hdg : decode cc pc = .ok (.anewarray index, 3))
    (k9 : ∀ (kn1 : List (Nat × Nat)), kn1 = kn ++ [(k0, N')] → ∀ (H1 : Heap), mm_G D cs A b kn1 s.heap I P H1 locs (cells + 1) → W p l e R s m args below meth c H1 locs (cells + 1) (slots + N') Q (F0 m (pc + 3) ls (.ref (b + kn.length) :: rest))) : W p l e R s m args below meth c H locs cells slots Q (F0 m pc ls (.int n :: rest)) := by
  refine va_newq S.1 S.2.1 S.2.2.2.1 hclink hover hK hM.1.2.1 hM.1.2.2.1 hM.1.2.2.2 (fun q h => (hA q).mpr (Nat.le_trans hbs h)) hn hN hbytes hcells hslots hdg (fun q cA H1 hK1 h1 h2 h3 => W_sz (fun hs => ?_))
  have e1 : cA = cB := by
    obtain ⟨-, -, -, -, -, f1⟩ := (hK1.2 5 (cA, .object C) rfl).2
    obtain ⟨-, -, -, -, -, f2⟩ := (hK.2 t0 (cB, .object C) ht0).2
    exact Option.some.inj (f1.symm.trans f2)
  subst e1
  obtain ⟨rfl, hG⟩ := mm_G.push (k := k0) (n := N') hA hM (hk0 N').symm h1 h2 h3 hs
  exact k9 _ rfl H1 hG
theorem eg_get (S : CallFix p m c cc nL s args Ts own) (hK : va_K D vwCl (mm_T cs) s) (hM : mm_G D cs A b kn H0 I P H locs cells) {ci n index : Nat} {C : String} {T : u_T} (hin : ∀ w ∈ u_ws C T n, w ∈ Ts) (hc : vwCl[ci]? = some (C, T, n)) (hk : kk b kn a = ci + 1) (k : Nat) (hkn : k < n) {nm ty : String} (hlink : (Cond.fieldLink own index C nm ty).before args s = true) (hnm : ((T k).1, (T k).2.1, (T k).2.2.1) = (C, nm, ty)) {fs : List Value} {v : Nat} (he : mm_e cs (ci + 1) (nn b kn a) (I a) (P a) = .inr (ci, fs)) (hp : P a k = some v) (hv : fs[k]? = some (va_rf (P a k))) (hdg : decode cc pc = .ok (.getfield index, 3))
    (k9 : W p l e R s m args below meth c H locs cells slots Q (F0 m (pc + 3) ls (.ref v :: rest))) : W p l e R s m args below meth c H locs cells slots Q (F0 m pc ls (.ref a :: rest)) := ev_getP S hK hM.1 hin hc hk k hkn hlink hnm he hp hv hdg k9
theorem eg_put (S : CallFix p m c cc nL s args Ts own) (hK : va_K D vwCl (mm_T cs) s) (hM : mm_G D cs A b kn s.heap I P H locs cells) {ci n index : Nat} {C : String} {T : u_T} (hin : ∀ w ∈ u_ws C T n, w ∈ Ts) (ty0 : Nat → FieldType) (hty : ∀ k, k < n → parseFieldDescriptor (T k).2.2.1 = some (ty0 k)) (hnu : ∀ a, a < n → ∀ b, b < n → a ≠ b → (T a).2.1 ≠ (T b).2.1) (hc : vwCl[ci]? = some (C, T, n)) (hk : kk b kn a = ci + 1) (k : Nat) (hkn : k < n) {nm ty : String} (hlink : (Cond.fieldLink own index C nm ty).before args s = true) (hnm : ((T k).1, (T k).2.1, (T k).2.2.1) = (C, nm, ty)) (hfin : (T k).2.2.2 = false) {x : Int32} (hn : narrow (ty0 k) (.int x) = .int x) (hfit : fits (ty0 k) (.int x) = true) {fs : List Value} (he : mm_e cs (ci + 1) (nn b kn a) (I a) (P a) = .inr (ci, fs)) (hl : k < fs.length) (hs : .inr (ci, fs.set k (.int x)) = mm_e cs (ci + 1) (nn b kn a) (upd (I a) k x) (P a)) (hdg : decode cc pc = .ok (.putfield index, 3))
    (k9 : ∀ (I1 : Nat → Nat → Int32), I1 = up2 I a k x → ∀ (H1 : Heap) (locs1 : List Loc), mm_G D cs A b kn s.heap I1 P H1 locs1 cells → W p l e R s m args below meth c H1 locs1 cells slots Q (F0 m (pc + 3) ls rest)) : W p l e R s m args below meth c H locs cells slots Q (F0 m pc ls (.int x :: .ref a :: rest)) :=
  ev_put S hK hM.1 hin ty0 hty hnu hc hk k hkn hlink hnm hfin hn hfit he hl hs hdg (fun I1 e1 H1 locs1 h1 => W_sz (fun hz => k9 I1 e1 H1 locs1 (hM.put h1 hz (by rw [hk]; exact Nat.succ_ne_zero _) (fun q hq => by rw [e1]; exact up2_ne I k x hq) (fun _ _ => rfl))))
theorem eg_putP (S : CallFix p m c cc nL s args Ts own) (hK : va_K D vwCl (mm_T cs) s) (hM : mm_G D cs A b kn s.heap I P H locs cells) {ci n index : Nat} {C : String} {T : u_T} (hin : ∀ w ∈ u_ws C T n, w ∈ Ts) (ty0 : Nat → FieldType) (hty : ∀ k, k < n → parseFieldDescriptor (T k).2.2.1 = some (ty0 k)) (hnu : ∀ a, a < n → ∀ b, b < n → a ≠ b → (T a).2.1 ≠ (T b).2.1) (hc : vwCl[ci]? = some (C, T, n)) (hk : kk b kn a = ci + 1) (k : Nat) (hkn : k < n) {nm ty : String} (hlink : (Cond.fieldLink own index C nm ty).before args s = true) (hnm : ((T k).1, (T k).2.1, (T k).2.2.1) = (C, nm, ty)) (hfin : (T k).2.2.2 = true) (hin2 : meth.name = "<init>") (hdecl : (T k).1 = own) {v : Nat} (hn : narrow (ty0 k) (.ref v) = .ref v) (hfit : fits (ty0 k) (.ref v) = true) {fs : List Value} (he : mm_e cs (ci + 1) (nn b kn a) (I a) (P a) = .inr (ci, fs)) (hl : k < fs.length) (hs : .inr (ci, fs.set k (.ref v)) = mm_e cs (ci + 1) (nn b kn a) (I a) (va_up (P a) k (some v))) (hdg : decode cc pc = .ok (.putfield index, 3))
    (k9 : ∀ (P1 : Nat → Nat → Option Nat), P1 = upP P a k (some v) → ∀ (H1 : Heap) (locs1 : List Loc), mm_G D cs A b kn s.heap I P1 H1 locs1 cells → W p l e R s m args below meth c H1 locs1 cells slots Q (F0 m (pc + 3) ls rest)) : W p l e R s m args below meth c H locs cells slots Q (F0 m pc ls (.ref v :: .ref a :: rest)) := by
  have h0 : kk b kn a ≠ 0 := by rw [hk]; exact Nat.succ_ne_zero _
  obtain ⟨q, hq0⟩ := va_pl_get (X := []) (f := mm_E cs (kk b kn) (nn b kn) I P) (hM.1.1 a h0)
  have hq : ([] ++ va_pl (ll b kn) (mm_E cs (kk b kn) (nn b kn) I P))[q]? = some (a, .inr (ci, fs)) := by rw [hq0]; simp only [mm_E, hk]; rw [he]
  obtain ⟨e1, e2⟩ := Prod.mk.inj hnm
  obtain ⟨e2, e3⟩ := Prod.mk.inj e2
  refine va_putF (ref := C) S.1 S.2.1 S.2.2.2.2 hin ty0 hty hnu S.2.2.2.1 hK hM.1.2.1 hM.1.2.2.1 hM.1.2.2.2 q hq hc k hkn (by rw [e2, e3]; exact hlink) (fun x h => by rw [e1] at h; exact h) hfin hin2 hdecl (hty k hkn) hn hfit hl hdg (fun H1 locs1 h1 h2 h3 => W_sz (fun hz => ?_))
  have hW : mm_W D cs A (ll b kn) (kk b kn) (nn b kn) s.heap I (upP P a k (some v)) H1 locs1 := hM.1.put h0 hq0 (by rw [upP_row, hk]; exact hs) (fun _ _ => rfl) (fun x hx => upP_ne P k _ hx) h1 h2 h3
  exact k9 _ rfl H1 locs1 (hM.put hW hz h0 (fun _ _ => rfl) (fun x hx => upP_ne P k _ hx))
theorem eg_aast14 (S : CallFix p m c cc nL s args Ts own) (hK : va_K D vwCl (mm_T cs) s) (hM : mm_G D cs A b kn s.heap I P H locs cells) {i : Int32} {v : Nat} (hg : kk b kn a = 14 ∧ vp_in i (nn b kn a)) {j : Nat} (hj : i.toNatClampNeg = j) (hv : kk b kn v = 1) (hdg : decode cc pc = .ok (.aastore, 1))
    (k9 : ∀ (P1 : Nat → Nat → Option Nat), P1 = upP P a j (some v) → ∀ (H1 : Heap) (locs1 : List Loc), mm_G D cs A b kn s.heap I P1 H1 locs1 cells → W p l e R s m args below meth c H1 locs1 cells slots Q (F0 m (pc + 1) ls rest)) : W p l e R s m args below meth c H locs cells slots Q (F0 m pc ls (.ref v :: .int i :: .ref a :: rest)) :=
  ev_aast14 S hK hM.1 hg hj hv hdg (fun P1 e1 H1 locs1 h1 => W_sz (fun hz => k9 P1 e1 H1 locs1 (hM.put h1 hz (by rw [hg.1]; decide) (fun _ _ => rfl) (fun q hq => by rw [e1]; exact upP_ne P _ _ hq))))
theorem eg_aast15 (S : CallFix p m c cc nL s args Ts own) (hK : va_K D vwCl (mm_T cs) s) (hM : mm_G D cs A b kn s.heap I P H locs cells) {i : Int32} {v : Nat} (hg : kk b kn a = 15 ∧ vp_in i (nn b kn a)) {j : Nat} (hj : i.toNatClampNeg = j) (hv : kk b kn v = 5) (hdg : decode cc pc = .ok (.aastore, 1))
    (k9 : ∀ (P1 : Nat → Nat → Option Nat), P1 = upP P a j (some v) → ∀ (H1 : Heap) (locs1 : List Loc), mm_G D cs A b kn s.heap I P1 H1 locs1 cells → W p l e R s m args below meth c H1 locs1 cells slots Q (F0 m (pc + 1) ls rest)) : W p l e R s m args below meth c H locs cells slots Q (F0 m pc ls (.ref v :: .int i :: .ref a :: rest)) :=
  ev_aast15 S hK hM.1 hg hj hv hdg (fun P1 e1 H1 locs1 h1 => W_sz (fun hz => k9 P1 e1 H1 locs1 (hM.put h1 hz (by rw [hg.1]; decide) (fun _ _ => rfl) (fun q hq => by rw [e1]; exact upP_ne P _ _ hq))))
theorem eg_aast16 (S : CallFix p m c cc nL s args Ts own) (hK : va_K D vwCl (mm_T cs) s) (hM : mm_G D cs A b kn s.heap I P H locs cells) {i : Int32} {v : Nat} (hg : kk b kn a = 16 ∧ vp_in i (nn b kn a)) {j : Nat} (hj : i.toNatClampNeg = j) (hv : kk b kn v = 8) (hdg : decode cc pc = .ok (.aastore, 1))
    (k9 : ∀ (P1 : Nat → Nat → Option Nat), P1 = upP P a j (some v) → ∀ (H1 : Heap) (locs1 : List Loc), mm_G D cs A b kn s.heap I P1 H1 locs1 cells → W p l e R s m args below meth c H1 locs1 cells slots Q (F0 m (pc + 1) ls rest)) : W p l e R s m args below meth c H locs cells slots Q (F0 m pc ls (.ref v :: .int i :: .ref a :: rest)) := by
  subst hj
  have h0 : kk b kn a ≠ 0 := by rw [hg.1]; decide
  obtain ⟨q, hq⟩ := va_pl_get (X := []) (f := mm_E cs (kk b kn) (nn b kn) I P) (hM.1.1 a h0)
  obtain ⟨qv, hqv⟩ := hM.1.mem hv (by decide)
  refine va_astq S.1 S.2.1 hK hM.1.2.1 hM.1.2.2.1 hM.1.2.2.2 q 4 qv 7 (cA := cs.2.2.2.2) (n := nn b kn a) (f := P a) (by rw [hq]; simp only [mm_E, hg.1]; rfl) rfl hqv rfl hg.2 hdg (fun H1 locs1 h1 h2 h3 => W_sz (fun hz => ?_))
  have hW : mm_W D cs A (ll b kn) (kk b kn) (nn b kn) s.heap I (upP P a i.toNatClampNeg (some v)) H1 locs1 := hM.1.put h0 hq (by rw [upP_row, hg.1]; rfl) (fun _ _ => rfl) (fun x hx => upP_ne P _ _ hx) h1 h2 h3
  exact k9 _ rfl H1 locs1 (hM.put hW hz h0 (fun _ _ => rfl) (fun x hx => upP_ne P _ _ hx))
theorem eg_iast (S : CallFix p m c cc nL s args Ts own) (hK : va_K D vwCl (mm_T cs) s) (hM : mm_G D cs A b kn s.heap I P H locs cells) {i x : Int32} (hg : kk b kn a = 12 ∧ vp_in i (nn b kn a)) {j : Nat} (hj : i.toNatClampNeg = j) (hdg : decode cc pc = .ok (.iastore, 1))
    (k9 : ∀ (I1 : Nat → Nat → Int32), I1 = up2 I a j x → ∀ (H1 : Heap) (locs1 : List Loc), mm_G D cs A b kn s.heap I1 P H1 locs1 cells → W p l e R s m args below meth c H1 locs1 cells slots Q (F0 m (pc + 1) ls rest)) : W p l e R s m args below meth c H locs cells slots Q (F0 m pc ls (.int x :: .int i :: .ref a :: rest)) :=
  ev_iast S hK hM.1 hg hj hdg (fun I1 e1 H1 locs1 h1 => W_sz (fun hz => k9 I1 e1 H1 locs1 (hM.put h1 hz (by rw [hg.1]; decide) (fun q hq => by rw [e1]; exact up2_ne I _ _ hq) (fun _ _ => rfl))))
theorem eg_callv {mc ms : Nat} {a0 : Array Value} (hr : va_Run p l e R s m args below meth c H locs cells slots mc ms (F0 m pc ls st0) rest (va_Qv (fun (_ : Unit) => kn'.length = kn.length + mc) (fun _ => mm_Bg D cs A b z w kn' I' P') A a0) A) (hM : mm_G D cs A b kn s.heap I P H locs cells)
    (k9 : ∀ (H1 : Heap) (locs1 : List Loc), kn'.length = kn.length + mc → mm_G D cs A b kn' s.heap I' P' H1 locs1 (cells + mc) → W p l e R s m args below meth c H1 locs1 (cells + mc) (slots + ms) Q (F0 m (pc + 3) ls rest)) : W p l e R s m args below meth c H locs cells slots Q (F0 m pc ls st0) :=
  va_callv hr hM.1.2.2.2 (fun _ _ h => h) (fun _ h => h) (fun u t H1 locs1 ht _ hp hB _ _ hS => k9 H1 locs1 hp ⟨⟨hB.1.1, by rw [← ht]; exact hB.1.2.1, hB.1.2.2.1, hS⟩, by rw [← ht]; exact hB.2.1, by have := hM.2.2.1; omega, hB.2.2.1⟩)
theorem eg_vret (S : CallFix p m c cc nL s args Ts own) (hr : meth.sig.returnType = none) (hlocks : meth.locks = false) (hK : va_K D vwCl (mm_T cs) s) (hZ : mm_Z z w A s) (hO : mm_O s) {q : Prop} (hq : q) (hM : mm_G D cs A b kn s.heap I P H locs cells) (hdg : decode cc pc = .ok (.return_, 1)) : W p l e R s m args below meth c H locs cells slots (MQ below (va_Qv (fun (_ : Unit) => q) (fun _ => mm_Bg D cs A b z w kn I P) A) args s cells slots A) (F0 m pc ls []) :=
  W.vret S.1 S.2.1 hr (fun t ht hW => ⟨⟨(), rfl, hq, mm_Bg_of hK hZ hO hM ht hW⟩, hM.1.2.2.2.F ht⟩) hM.1.2.2.2.2.2 hdg hlocks
end EG
