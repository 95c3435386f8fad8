theorem eg_name {p : Program} {l : Launch} {e : Env} {R : Room} {s : State} {m : MethodId} {args : Array Value} {below : List Frame} {meth : Method} {c : Code} {H : Heap} {locs : List Loc} {cells slots : Nat} {Q : State → Prop} {pc : Nat} {ls : Array Slot} {rest : List Value} {x : Nat} (k : ∀ y : Nat, y = x → W p l e R s m args below meth c H locs cells slots Q (F0 m pc ls (.ref y :: rest))) : W p l e R s m args below meth c H locs cells slots Q (F0 m pc ls (.ref x :: rest)) := k x rfl
theorem eg_obj {p : Program} {l : Launch} {e : Env} {R : Room} {s : State} {m : MethodId} {args : Array Value} {below : List Frame} {meth : Method} {c : Code} {H : Heap} {locs : List Loc} {cells slots : Nat} {Q : State → Prop} {cc : ByteArray} (hexec : p.tables.exec = Jvm.exec) (hb : c.code = cc) {own : String} (hown : s.vm.findClass own = some m.cls) {idx : Nat} (hlink : (Cond.methodLink own idx Lib.objectInit).before args s = true) (hinst : (Cond.instanceMethod Lib.objectInit).before args s = true) (hcode : (Cond.code Lib.objectInit ⟨#[0xb1]⟩ 1 none).before args s = true) {a pc : Nat} {ls : Array Slot} {rest : List Value} (hsize : ls.size = c.maxLocals) (hd : decode cc pc = .ok (.invokespecial idx, 3)) (hframes : 1 ≤ R.frames) (hlocals : 2 * (F0 m pc ls (.ref a :: rest)).monitorRoom + (rest.map fun v => v.category).sum + 12 ≤ R.locals) (kk : W p l e R s m args below meth c H locs cells slots Q (F0 m (pc + 3) ls rest)) : W p l e R s m args below meth c H locs cells slots Q (F0 m pc ls (.ref a :: rest)) := W.objInit hexec hb hown hlink hinst hcode rfl hsize rfl hd hframes hlocals kk
section CT
variable {l : Launch} {D : va_G} {cs : mm_C} {A : Nat → Prop} {b : Nat} {z : Nat → Nat} {w : Option Nat}
noncomputable def fn_X0_init (b : Nat) (kn : List (Nat × Nat)) (I : Nat → Nat → Int32) (P : Nat → Nat → Option Nat) (a0 : Nat) : Option (List (Nat × Nat) × (Nat → Nat → Int32) × (Nat → Nat → Option Nat)) := Option.bind (some (kn ++ [(12, 192)])) (fun kn1 => Option.bind (some (b + kn.length)) (fun q2 => gd (kk b kn1 a0 = 1) (Option.bind (some (upP P a0 2 (some q2))) (fun P4 => Option.bind (some (kn1 ++ [(12, 192)])) (fun kn5 => Option.bind (some (b + kn1.length)) (fun q6 => gd (kk b kn5 a0 = 1) (Option.bind (some (upP P4 a0 3 (some q6))) (fun P8 => some (kn5, I, P8)))))))))
abbrev wz_X0_init : List Cond := Cond.code yX0_init cX0_init 1 none :: WA
abbrev rm_X0_init : Room := { frames := 1, cells := 2, slots := 384, locals := 12 }
set_option maxHeartbeats 4000000 in
set_option maxRecDepth 100000 in
theorem c_X0_init (hA : ∀ q, A q ↔ b ≤ q) (kn : List (Nat × Nat)) (I : Nat → Nat → Int32) (P : Nat → Nat → Option Nat) (a0 : Nat) (res : List (Nat × Nat) × (Nat → Nat → Int32) × (Nat → Nat → Option Nat)) (hf : fn_X0_init b kn I P a0 = some res) : Met l yX0_init wz_X0_init rm_X0_init (va_Pc [.ref a0] (mm_Bg D cs A b z w kn I P)) (va_Qv (fun (_ : Unit) => res.1.length = kn.length + 2) (fun _ => mm_Bg D cs A b z w res.1 res.2.1 res.2.2) A) 2 384 A := by
  refine Met.ofW (cc := cX0_init) (maxL := 1) (ret := none) (by decide) rfl ?_
  intro p e s m args below meth c s₁ B hml hv
  obtain ⟨rfl, hBm⟩ := hv
  have hx := B.exec
  have hb := B.bytes
  have hr := B.returns
  have hts := atoms_spec (ws := wz_X0_init) B.pre
  have hWA : ∀ w ∈ WA, w.before ([.ref a0] : List Value).toArray s = true := fun u9 h9 => hts u9 (List.mem_cons_of_mem _ h9)
  have hown : s.vm.findClass RX0 = some m.cls := findClass_of_methodNamed B.named
  have hlocks := B.notSynchronized
  have hin : meth.name = "<init>" := (name_of_methodNamed B.named B.method).1
  have S : CallFix p m c cX0_init 1 s ([.ref a0] : List Value).toArray wz_X0_init RX0 := ⟨hx, hb, hml, hown, hts⟩
  have hK := hBm.1.2.2.2.1
  have hZ := hBm.1.2.2.2.2
  have hO := hBm.2.2.2
  have hbs : b ≤ s.heap.size := by rw [hBm.2.1]; exact Nat.le_add_right _ _
  have hM : mm_G D cs A b kn s.heap I P s.heap [] 0 := ⟨⟨hBm.1.1, hBm.1.2.1, hBm.1.2.2.1, va_S.rf⟩, hBm.2.1, hBm.2.1, hBm.2.2.1⟩
  have hl := lv_entry ([.ref a0]) (n := 1) (Nat.le_of_ble_eq_true rfl)
  rw [lg_entry_eq]
  generalize (lg_sl ([.ref a0]) ++ List.replicate (1 - (lg_sl ([.ref a0])).length) Slot.unset).toArray = ls at hl ⊢
  have hl : lv_has ls 1 [(0, .ref a0)] := hl
  have hin0 : ∀ w ∈ wsX00, w ∈ wz_X0_init := fun w h => List.mem_cons_of_mem _ (wu_X0 w h)
  have lk9 : (Cond.fieldLink RX0 9 RX0 "inks" "[I").before ([.ref a0] : List Value).toArray s = true := hWA _ wa_1_97
  have lk15 : (Cond.fieldLink RX0 15 RX0 "covers" "[I").before ([.ref a0] : List Value).toArray s = true := hWA _ wa_1_98
  generalize hQ : MQ below (va_Qv (fun (_ : Unit) => res.1.length = kn.length + 2) (fun _ => mm_Bg D cs A b z w res.1 res.2.1 res.2.2) A) ([.ref a0] : List Value).toArray s 2 384 A = QQ
  rw [fn_X0_init] at hf
  refine lv_aload_n hx hb dX0_init_0 rfl (lv_at hl 0 rfl) ?_
  refine eg_obj hx hb hown (hWA _ wa_1_92) (hWA _ wa_1_26) (hWA _ wa_1_27) (by rw [hml]; exact hl.1) dX0_init_1 (Nat.le_of_ble_eq_true rfl) (Nat.le_of_ble_eq_true rfl) ?_
  refine lv_aload_n hx hb dX0_init_4 rfl (lv_at hl 0 rfl) ?_
  refine lv_sipush (v := (192 : Int32)) hx hb dX0_init_5 (by decide) ?_
  refine eg_newI S hA hbs hK hM (hWA _ wa_1_108) (by decide) (N' := 192) rfl (Nat.le_of_ble_eq_true rfl) (Nat.le_of_ble_eq_true rfl) (Nat.le_of_ble_eq_true rfl) dX0_init_8 (fun kn1 ekn1 H hM => ?_)
  have hf := nm_x ekn1 hf
  have lkn1 : kn1.length = kn.length + 1 := by rw [ekn1]; exact List.length_append
  refine eg_name (fun q2 eq2 => ?_)
  have hf := nm_x eq2 hf
  refine gd_e hf (fun hg3 hf => ?_)
  refine eg_putP S hK hM (ci := 0) (n := 4) (C := RX0) (T := TX0) hin0 tyX0 tyX0_ok nmX0 rfl hg3 2 (by decide) lk9 rfl rfl hin rfl rfl rfl rfl (Nat.le_of_ble_eq_true rfl) rfl dX0_init_10 (fun P4 eP4 H locs hM => ?_)
  have hf := nm_x eP4 hf
  refine lv_aload_n hx hb dX0_init_13 rfl (lv_at hl 0 rfl) ?_
  refine lv_sipush (v := (192 : Int32)) hx hb dX0_init_14 (by decide) ?_
  refine eg_newI S hA hbs hK hM (hWA _ wa_1_108) (by decide) (N' := 192) rfl (Nat.le_of_ble_eq_true rfl) (Nat.le_of_ble_eq_true rfl) (Nat.le_of_ble_eq_true rfl) dX0_init_17 (fun kn5 ekn5 H hM => ?_)
  have hf := nm_x ekn5 hf
  have lkn5 : kn5.length = kn1.length + 1 := by rw [ekn5]; exact List.length_append
  refine eg_name (fun q6 eq6 => ?_)
  have hf := nm_x eq6 hf
  refine gd_e hf (fun hg7 hf => ?_)
  refine eg_putP S hK hM (ci := 0) (n := 4) (C := RX0) (T := TX0) hin0 tyX0 tyX0_ok nmX0 rfl hg7 3 (by decide) lk15 rfl rfl hin rfl rfl rfl rfl (Nat.le_of_ble_eq_true rfl) rfl dX0_init_19 (fun P8 eP8 H locs hM => ?_)
  have hf := nm_x eP8 hf
  obtain rfl := Option.some.inj hf
  subst hQ
  exact eg_vret S hr hlocks hK hZ hO (by show (kn5).length = kn.length + 2; omega) hM dX0_init_22
noncomputable def fn_X1_init (b : Nat) (kn : List (Nat × Nat)) (I : Nat → Nat → Int32) (P : Nat → Nat → Option Nat) (a0 : Nat) : Option (List (Nat × Nat) × (Nat → Nat → Int32) × (Nat → Nat → Option Nat)) := Option.bind (some (kn ++ [(14, 11)])) (fun kn1 => Option.bind (some (b + kn.length)) (fun q2 => gd (kk b kn1 a0 = 2) (Option.bind (some (upP P a0 0 (some q2))) (fun P4 => Option.bind (P4 a0 0) (fun q5 => Option.bind (some (kn1 ++ [(1, 0)])) (fun kn6 => Option.bind (some (b + kn1.length)) (fun q7 => Option.bind (fn_X0_init b kn6 I P4 q7) (fun (r8 : List (Nat × Nat) × (Nat → Nat → Int32) × (Nat → Nat → Option Nat)) => gd (kk b r8.1 q5 = 14 ∧ vp_in (0 : Int32) (nn b r8.1 q5)) (gd (kk b r8.1 q7 = 1) (Option.bind (some (upP r8.2.2 q5 0 (some q7))) (fun P11 => gd (kk b r8.1 a0 = 2) (Option.bind (P11 a0 0) (fun q13 => Option.bind (some (r8.1 ++ [(1, 0)])) (fun kn14 => Option.bind (some (b + r8.1.length)) (fun q15 => Option.bind (fn_X0_init b kn14 r8.2.1 P11 q15) (fun (r16 : List (Nat × Nat) × (Nat → Nat → Int32) × (Nat → Nat → Option Nat)) => gd (kk b r16.1 q13 = 14 ∧ vp_in (1 : Int32) (nn b r16.1 q13)) (gd (kk b r16.1 q15 = 1) (Option.bind (some (upP r16.2.2 q13 1 (some q15))) (fun P19 => gd (kk b r16.1 a0 = 2) (Option.bind (P19 a0 0) (fun q21 => Option.bind (some (r16.1 ++ [(1, 0)])) (fun kn22 => Option.bind (some (b + r16.1.length)) (fun q23 => Option.bind (fn_X0_init b kn22 r16.2.1 P19 q23) (fun (r24 : List (Nat × Nat) × (Nat → Nat → Int32) × (Nat → Nat → Option Nat)) => gd (kk b r24.1 q21 = 14 ∧ vp_in (2 : Int32) (nn b r24.1 q21)) (gd (kk b r24.1 q23 = 1) (Option.bind (some (upP r24.2.2 q21 2 (some q23))) (fun P27 => gd (kk b r24.1 a0 = 2) (Option.bind (P27 a0 0) (fun q29 => Option.bind (some (r24.1 ++ [(1, 0)])) (fun kn30 => Option.bind (some (b + r24.1.length)) (fun q31 => Option.bind (fn_X0_init b kn30 r24.2.1 P27 q31) (fun (r32 : List (Nat × Nat) × (Nat → Nat → Int32) × (Nat → Nat → Option Nat)) => gd (kk b r32.1 q29 = 14 ∧ vp_in (3 : Int32) (nn b r32.1 q29)) (gd (kk b r32.1 q31 = 1) (Option.bind (some (upP r32.2.2 q29 3 (some q31))) (fun P35 => gd (kk b r32.1 a0 = 2) (Option.bind (P35 a0 0) (fun q37 => Option.bind (some (r32.1 ++ [(1, 0)])) (fun kn38 => Option.bind (some (b + r32.1.length)) (fun q39 => Option.bind (fn_X0_init b kn38 r32.2.1 P35 q39) (fun (r40 : List (Nat × Nat) × (Nat → Nat → Int32) × (Nat → Nat → Option Nat)) => gd (kk b r40.1 q37 = 14 ∧ vp_in (4 : Int32) (nn b r40.1 q37)) (gd (kk b r40.1 q39 = 1) (Option.bind (some (upP r40.2.2 q37 4 (some q39))) (fun P43 => gd (kk b r40.1 a0 = 2) (Option.bind (P43 a0 0) (fun q45 => Option.bind (some (r40.1 ++ [(1, 0)])) (fun kn46 => Option.bind (some (b + r40.1.length)) (fun q47 => Option.bind (fn_X0_init b kn46 r40.2.1 P43 q47) (fun (r48 : List (Nat × Nat) × (Nat → Nat → Int32) × (Nat → Nat → Option Nat)) => gd (kk b r48.1 q45 = 14 ∧ vp_in (5 : Int32) (nn b r48.1 q45)) (gd (kk b r48.1 q47 = 1) (Option.bind (some (upP r48.2.2 q45 5 (some q47))) (fun P51 => gd (kk b r48.1 a0 = 2) (Option.bind (P51 a0 0) (fun q53 => Option.bind (some (r48.1 ++ [(1, 0)])) (fun kn54 => Option.bind (some (b + r48.1.length)) (fun q55 => Option.bind (fn_X0_init b kn54 r48.2.1 P51 q55) (fun (r56 : List (Nat × Nat) × (Nat → Nat → Int32) × (Nat → Nat → Option Nat)) => gd (kk b r56.1 q53 = 14 ∧ vp_in (6 : Int32) (nn b r56.1 q53)) (gd (kk b r56.1 q55 = 1) (Option.bind (some (upP r56.2.2 q53 6 (some q55))) (fun P59 => gd (kk b r56.1 a0 = 2) (Option.bind (P59 a0 0) (fun q61 => Option.bind (some (r56.1 ++ [(1, 0)])) (fun kn62 => Option.bind (some (b + r56.1.length)) (fun q63 => Option.bind (fn_X0_init b kn62 r56.2.1 P59 q63) (fun (r64 : List (Nat × Nat) × (Nat → Nat → Int32) × (Nat → Nat → Option Nat)) => gd (kk b r64.1 q61 = 14 ∧ vp_in (7 : Int32) (nn b r64.1 q61)) (gd (kk b r64.1 q63 = 1) (Option.bind (some (upP r64.2.2 q61 7 (some q63))) (fun P67 => gd (kk b r64.1 a0 = 2) (Option.bind (P67 a0 0) (fun q69 => Option.bind (some (r64.1 ++ [(1, 0)])) (fun kn70 => Option.bind (some (b + r64.1.length)) (fun q71 => Option.bind (fn_X0_init b kn70 r64.2.1 P67 q71) (fun (r72 : List (Nat × Nat) × (Nat → Nat → Int32) × (Nat → Nat → Option Nat)) => gd (kk b r72.1 q69 = 14 ∧ vp_in (8 : Int32) (nn b r72.1 q69)) (gd (kk b r72.1 q71 = 1) (Option.bind (some (upP r72.2.2 q69 8 (some q71))) (fun P75 => gd (kk b r72.1 a0 = 2) (Option.bind (P75 a0 0) (fun q77 => Option.bind (some (r72.1 ++ [(1, 0)])) (fun kn78 => Option.bind (some (b + r72.1.length)) (fun q79 => Option.bind (fn_X0_init b kn78 r72.2.1 P75 q79) (fun (r80 : List (Nat × Nat) × (Nat → Nat → Int32) × (Nat → Nat → Option Nat)) => gd (kk b r80.1 q77 = 14 ∧ vp_in (9 : Int32) (nn b r80.1 q77)) (gd (kk b r80.1 q79 = 1) (Option.bind (some (upP r80.2.2 q77 9 (some q79))) (fun P83 => gd (kk b r80.1 a0 = 2) (Option.bind (P83 a0 0) (fun q85 => Option.bind (some (r80.1 ++ [(1, 0)])) (fun kn86 => Option.bind (some (b + r80.1.length)) (fun q87 => Option.bind (fn_X0_init b kn86 r80.2.1 P83 q87) (fun (r88 : List (Nat × Nat) × (Nat → Nat → Int32) × (Nat → Nat → Option Nat)) => gd (kk b r88.1 q85 = 14 ∧ vp_in (10 : Int32) (nn b r88.1 q85)) (gd (kk b r88.1 q87 = 1) (Option.bind (some (upP r88.2.2 q85 10 (some q87))) (fun P91 => some (r88.1, r88.2.1, P91))))))))))))))))))))))))))))))))))))))))))))))))))))))))))))))))))))))))))))))))))))))))))))
abbrev wz_X1_init : List Cond := Cond.code yX1_init cX1_init 2 none :: WA
abbrev rm_X1_init : Room := { frames := 2, cells := 34, slots := 4279, locals := 32 }
set_option maxHeartbeats 4000000 in
set_option maxRecDepth 100000 in
theorem c_X1_init (hA : ∀ q, A q ↔ b ≤ q) (kn : List (Nat × Nat)) (I : Nat → Nat → Int32) (P : Nat → Nat → Option Nat) (a0 : Nat) (res : List (Nat × Nat) × (Nat → Nat → Int32) × (Nat → Nat → Option Nat)) (hf : fn_X1_init b kn I P a0 = some res) : Met l yX1_init wz_X1_init rm_X1_init (va_Pc [.ref a0] (mm_Bg D cs A b z w kn I P)) (va_Qv (fun (_ : Unit) => res.1.length = kn.length + 34) (fun _ => mm_Bg D cs A b z w res.1 res.2.1 res.2.2) A) 34 4279 A := by
  refine Met.ofW (cc := cX1_init) (maxL := 2) (ret := none) (by decide) rfl ?_
  intro p e s m args below meth c s₁ B hml hv
  obtain ⟨rfl, hBm⟩ := hv
  have hx := B.exec
  have hb := B.bytes
  have hr := B.returns
  have hts := atoms_spec (ws := wz_X1_init) B.pre
  have hWA : ∀ w ∈ WA, w.before ([.ref a0] : List Value).toArray s = true := fun u9 h9 => hts u9 (List.mem_cons_of_mem _ h9)
  have hown : s.vm.findClass RX1 = some m.cls := findClass_of_methodNamed B.named
  have hlocks := B.notSynchronized
  have hin : meth.name = "<init>" := (name_of_methodNamed B.named B.method).1
  have S : CallFix p m c cX1_init 2 s ([.ref a0] : List Value).toArray wz_X1_init RX1 := ⟨hx, hb, hml, hown, hts⟩
  have hK := hBm.1.2.2.2.1
  have hZ := hBm.1.2.2.2.2
  have hO := hBm.2.2.2
  have hbs : b ≤ s.heap.size := by rw [hBm.2.1]; exact Nat.le_add_right _ _
  have hM : mm_G D cs A b kn s.heap I P s.heap [] 0 := ⟨⟨hBm.1.1, hBm.1.2.1, hBm.1.2.2.1, va_S.rf⟩, hBm.2.1, hBm.2.1, hBm.2.2.1⟩
  have hl := lv_entry ([.ref a0]) (n := 2) (Nat.le_of_ble_eq_true rfl)
  rw [lg_entry_eq]
  generalize (lg_sl ([.ref a0]) ++ List.replicate (2 - (lg_sl ([.ref a0])).length) Slot.unset).toArray = ls at hl ⊢
  have hl : lv_has ls 2 [(0, .ref a0)] := hl
  have hin1 : ∀ w ∈ wsX10, w ∈ wz_X1_init := fun w h => List.mem_cons_of_mem _ (wu_X1 w h)
  have hin0 : ∀ w ∈ wsX00, w ∈ wz_X1_init := fun w h => List.mem_cons_of_mem _ (wu_X0 w h)
  have lk11 : (Cond.fieldLink RX1 11 RX1 "all" "[LRasterPainter$Act;").before ([.ref a0] : List Value).toArray s = true := hWA _ wa_1_109
  generalize hQ : MQ below (va_Qv (fun (_ : Unit) => res.1.length = kn.length + 34) (fun _ => mm_Bg D cs A b z w res.1 res.2.1 res.2.2) A) ([.ref a0] : List Value).toArray s 34 4279 A = QQ
  rw [fn_X1_init] at hf
  refine lv_aload_n hx hb dX1_init_0 rfl (lv_at hl 0 rfl) ?_
  refine eg_obj hx hb hown (hWA _ wa_1_85) (hWA _ wa_1_26) (hWA _ wa_1_27) (by rw [hml]; exact hl.1) dX1_init_1 (Nat.le_of_ble_eq_true rfl) (Nat.le_of_ble_eq_true rfl) ?_
  refine lv_aload_n hx hb dX1_init_4 rfl (lv_at hl 0 rfl) ?_
  refine lv_bipush (v := (11 : Int32)) hx hb dX1_init_5 (by decide) ?_
  refine eg_newq S hA hbs hK hM (C := "RasterPainter$Act") (k0 := 14) (t0 := 2) (cB := cs.2.2.1) (hWA _ wa_1_86) hO.1.1 rfl (fun _ => rfl) (by decide) (N' := 11) rfl (Nat.le_of_ble_eq_true rfl) (Nat.le_of_ble_eq_true rfl) (Nat.le_of_ble_eq_true rfl) dX1_init_7 (fun kn1 ekn1 H hM => ?_)
  have hf := nm_x ekn1 hf
  have lkn1 : kn1.length = kn.length + 1 := by rw [ekn1]; exact List.length_append
  refine eg_name (fun q2 eq2 => ?_)
  have hf := nm_x eq2 hf
  refine gd_e hf (fun hg3 hf => ?_)
  refine eg_putP S hK hM (ci := 1) (n := 3) (C := RX1) (T := TX1) hin1 tyX1 tyX1_ok nmX1 rfl hg3 0 (by decide) lk11 rfl rfl hin rfl rfl rfl rfl (Nat.le_of_ble_eq_true rfl) rfl dX1_init_10 (fun P4 eP4 H locs hM => ?_)
  have hf := nm_x eP4 hf
  refine lv_iconst (v := (0 : Int32)) hx hb dX1_init_13 (by decide) ?_
  refine lv_istore_n (lv' := [(1, .int (0 : Int32)), (0, .ref a0)]) hx hb dX1_init_14 rfl hl (by decide) rfl (fun ls hl => ?_)
  refine lv_iload_n hx hb dX1_init_15 rfl (lv_at hl 0 rfl) ?_
  refine lv_bipush (v := (10 : Int32)) hx hb dX1_init_16 (by decide) ?_
  refine lv_icmp_gt (tgt := 40) hx hb dX1_init_18 (by decide) (fun h => absurd h (by decide)) (fun _ => ?_)
  refine lv_aload_n hx hb dX1_init_21 rfl (lv_at hl 1 rfl) ?_
  refine bd_e hf (fun q5 eq5 hf => ?_)
  refine eg_get (v := q5) S hK hM (ci := 1) (n := 3) (C := RX1) (T := TX1) hin1 rfl hg3 0 (by decide) lk11 rfl rfl eq5 rfl dX1_init_22 ?_
  refine lv_iload_n hx hb dX1_init_25 rfl (lv_at hl 0 rfl) ?_
  refine eg_new S hA hbs hK hM (ci := 0) (n := 4) (C := RX0) (T := TX0) (fs := [.int 0, .int 0, .null, .null]) hin0 tyX0 tyX0_ok (hWA _ wa_1_86) (hWA _ wa_1_88) (hWA _ wa_1_6) rfl rfl (fun j hj => by rcases (show j = 0 ∨ j = 1 ∨ j = 2 ∨ j = 3 by omega) with rfl | rfl | rfl | rfl <;> rfl) (Nat.le_of_ble_eq_true rfl) (Nat.le_of_ble_eq_true rfl) dX1_init_26 (fun kn6 ekn6 H hM => ?_)
  have hf := nm_x ekn6 hf
  have lkn6 : kn6.length = kn1.length + 1 := by rw [ekn6]; exact List.length_append
  refine eg_name (fun q7 eq7 => ?_)
  have hf := nm_x eq7 hf
  refine lv_dup hx hb dX1_init_29 rfl ?_
  refine bd_e hf (fun r8 er8 hf => ?_)
  refine eg_callv (va_runIN (As := []) (rest := [.ref q7, .int (0 : Int32), .ref q5]) S (c_X0_init (l := l) hA kn6 I P4 q7 r8 er8) ⟨va_cnB 0 hts (gi_n wa_1_91) rfl rfl rfl hO.2.1.2.2.1 (hWA _ wa_1_6) (by decide +kernel) ⟨Nat.le_of_ble_eq_true rfl, Nat.le_of_ble_eq_true rfl⟩, rfl, hWA _ wa_1_90⟩ ⟨mm_Bg_blind, fun U hU hW => ⟨rfl, mm_Bg_of hK hZ hO hM hU hW⟩⟩ rfl rfl hl.1 rfl (lv_room (Nat.le_of_ble_eq_true rfl)) dX1_init_30 ⟨Nat.le_of_ble_eq_true rfl, Nat.le_of_ble_eq_true rfl⟩) hM (fun H locs lr8 hM => ?_)
  refine gd_e hf (fun hg9 hf => ?_)
  refine gd_e hf (fun hg10 hf => ?_)
  refine eg_aast14 S hK hM hg9 (j := 0) rfl hg10 dX1_init_33 (fun P11 eP11 H locs hM => ?_)
  have hf := nm_x eP11 hf
  refine lv_iinc (v := (1 : Int32)) (lv' := [(1, .int (1 : Int32)), (0, .ref a0)]) hx hb dX1_init_34 hl (k := 0) rfl (by decide) (by decide) rfl (fun ls hl => ?_)
  refine lv_goto (tgt := 15) hx hb dX1_init_37 (by decide) ?_
  refine lv_iload_n hx hb dX1_init_15 rfl (lv_at hl 0 rfl) ?_
  refine lv_bipush (v := (10 : Int32)) hx hb dX1_init_16 (by decide) ?_
  refine lv_icmp_gt (tgt := 40) hx hb dX1_init_18 (by decide) (fun h => absurd h (by decide)) (fun _ => ?_)
  refine lv_aload_n hx hb dX1_init_21 rfl (lv_at hl 1 rfl) ?_
  refine gd_e hf (fun hg12 hf => ?_)
  refine bd_e hf (fun q13 eq13 hf => ?_)
  refine eg_get (v := q13) S hK hM (ci := 1) (n := 3) (C := RX1) (T := TX1) hin1 rfl hg12 0 (by decide) lk11 rfl rfl eq13 rfl dX1_init_22 ?_
  refine lv_iload_n hx hb dX1_init_25 rfl (lv_at hl 0 rfl) ?_
  refine eg_new S hA hbs hK hM (ci := 0) (n := 4) (C := RX0) (T := TX0) (fs := [.int 0, .int 0, .null, .null]) hin0 tyX0 tyX0_ok (hWA _ wa_1_86) (hWA _ wa_1_88) (hWA _ wa_1_6) rfl rfl (fun j hj => by rcases (show j = 0 ∨ j = 1 ∨ j = 2 ∨ j = 3 by omega) with rfl | rfl | rfl | rfl <;> rfl) (Nat.le_of_ble_eq_true rfl) (Nat.le_of_ble_eq_true rfl) dX1_init_26 (fun kn14 ekn14 H hM => ?_)
  have hf := nm_x ekn14 hf
  have lkn14 : kn14.length = r8.1.length + 1 := by rw [ekn14]; exact List.length_append
  refine eg_name (fun q15 eq15 => ?_)
  have hf := nm_x eq15 hf
  refine lv_dup hx hb dX1_init_29 rfl ?_
  refine bd_e hf (fun r16 er16 hf => ?_)
  refine eg_callv (va_runIN (As := []) (rest := [.ref q15, .int (1 : Int32), .ref q13]) S (c_X0_init (l := l) hA kn14 r8.2.1 P11 q15 r16 er16) ⟨va_cnB 0 hts (gi_n wa_1_91) rfl rfl rfl hO.2.1.2.2.1 (hWA _ wa_1_6) (by decide +kernel) ⟨Nat.le_of_ble_eq_true rfl, Nat.le_of_ble_eq_true rfl⟩, rfl, hWA _ wa_1_90⟩ ⟨mm_Bg_blind, fun U hU hW => ⟨rfl, mm_Bg_of hK hZ hO hM hU hW⟩⟩ rfl rfl hl.1 rfl (lv_room (Nat.le_of_ble_eq_true rfl)) dX1_init_30 ⟨Nat.le_of_ble_eq_true rfl, Nat.le_of_ble_eq_true rfl⟩) hM (fun H locs lr16 hM => ?_)
  refine gd_e hf (fun hg17 hf => ?_)
  refine gd_e hf (fun hg18 hf => ?_)
  refine eg_aast14 S hK hM hg17 (j := 1) rfl hg18 dX1_init_33 (fun P19 eP19 H locs hM => ?_)
  have hf := nm_x eP19 hf
  refine lv_iinc (v := (2 : Int32)) (lv' := [(1, .int (2 : Int32)), (0, .ref a0)]) hx hb dX1_init_34 hl (k := 0) rfl (by decide) (by decide) rfl (fun ls hl => ?_)
  refine lv_goto (tgt := 15) hx hb dX1_init_37 (by decide) ?_
  refine lv_iload_n hx hb dX1_init_15 rfl (lv_at hl 0 rfl) ?_
  refine lv_bipush (v := (10 : Int32)) hx hb dX1_init_16 (by decide) ?_
  refine lv_icmp_gt (tgt := 40) hx hb dX1_init_18 (by decide) (fun h => absurd h (by decide)) (fun _ => ?_)
  refine lv_aload_n hx hb dX1_init_21 rfl (lv_at hl 1 rfl) ?_
  refine gd_e hf (fun hg20 hf => ?_)
  refine bd_e hf (fun q21 eq21 hf => ?_)
  refine eg_get (v := q21) S hK hM (ci := 1) (n := 3) (C := RX1) (T := TX1) hin1 rfl hg20 0 (by decide) lk11 rfl rfl eq21 rfl dX1_init_22 ?_
  refine lv_iload_n hx hb dX1_init_25 rfl (lv_at hl 0 rfl) ?_
  refine eg_new S hA hbs hK hM (ci := 0) (n := 4) (C := RX0) (T := TX0) (fs := [.int 0, .int 0, .null, .null]) hin0 tyX0 tyX0_ok (hWA _ wa_1_86) (hWA _ wa_1_88) (hWA _ wa_1_6) rfl rfl (fun j hj => by rcases (show j = 0 ∨ j = 1 ∨ j = 2 ∨ j = 3 by omega) with rfl | rfl | rfl | rfl <;> rfl) (Nat.le_of_ble_eq_true rfl) (Nat.le_of_ble_eq_true rfl) dX1_init_26 (fun kn22 ekn22 H hM => ?_)
  have hf := nm_x ekn22 hf
  have lkn22 : kn22.length = r16.1.length + 1 := by rw [ekn22]; exact List.length_append
  refine eg_name (fun q23 eq23 => ?_)
  have hf := nm_x eq23 hf
  refine lv_dup hx hb dX1_init_29 rfl ?_
  refine bd_e hf (fun r24 er24 hf => ?_)
  refine eg_callv (va_runIN (As := []) (rest := [.ref q23, .int (2 : Int32), .ref q21]) S (c_X0_init (l := l) hA kn22 r16.2.1 P19 q23 r24 er24) ⟨va_cnB 0 hts (gi_n wa_1_91) rfl rfl rfl hO.2.1.2.2.1 (hWA _ wa_1_6) (by decide +kernel) ⟨Nat.le_of_ble_eq_true rfl, Nat.le_of_ble_eq_true rfl⟩, rfl, hWA _ wa_1_90⟩ ⟨mm_Bg_blind, fun U hU hW => ⟨rfl, mm_Bg_of hK hZ hO hM hU hW⟩⟩ rfl rfl hl.1 rfl (lv_room (Nat.le_of_ble_eq_true rfl)) dX1_init_30 ⟨Nat.le_of_ble_eq_true rfl, Nat.le_of_ble_eq_true rfl⟩) hM (fun H locs lr24 hM => ?_)
  refine gd_e hf (fun hg25 hf => ?_)
  refine gd_e hf (fun hg26 hf => ?_)
  refine eg_aast14 S hK hM hg25 (j := 2) rfl hg26 dX1_init_33 (fun P27 eP27 H locs hM => ?_)
  have hf := nm_x eP27 hf
  refine lv_iinc (v := (3 : Int32)) (lv' := [(1, .int (3 : Int32)), (0, .ref a0)]) hx hb dX1_init_34 hl (k := 0) rfl (by decide) (by decide) rfl (fun ls hl => ?_)
  refine lv_goto (tgt := 15) hx hb dX1_init_37 (by decide) ?_
  refine lv_iload_n hx hb dX1_init_15 rfl (lv_at hl 0 rfl) ?_
  refine lv_bipush (v := (10 : Int32)) hx hb dX1_init_16 (by decide) ?_
  refine lv_icmp_gt (tgt := 40) hx hb dX1_init_18 (by decide) (fun h => absurd h (by decide)) (fun _ => ?_)
  refine lv_aload_n hx hb dX1_init_21 rfl (lv_at hl 1 rfl) ?_
  refine gd_e hf (fun hg28 hf => ?_)
  refine bd_e hf (fun q29 eq29 hf => ?_)
  refine eg_get (v := q29) S hK hM (ci := 1) (n := 3) (C := RX1) (T := TX1) hin1 rfl hg28 0 (by decide) lk11 rfl rfl eq29 rfl dX1_init_22 ?_
  refine lv_iload_n hx hb dX1_init_25 rfl (lv_at hl 0 rfl) ?_
  refine eg_new S hA hbs hK hM (ci := 0) (n := 4) (C := RX0) (T := TX0) (fs := [.int 0, .int 0, .null, .null]) hin0 tyX0 tyX0_ok (hWA _ wa_1_86) (hWA _ wa_1_88) (hWA _ wa_1_6) rfl rfl (fun j hj => by rcases (show j = 0 ∨ j = 1 ∨ j = 2 ∨ j = 3 by omega) with rfl | rfl | rfl | rfl <;> rfl) (Nat.le_of_ble_eq_true rfl) (Nat.le_of_ble_eq_true rfl) dX1_init_26 (fun kn30 ekn30 H hM => ?_)
  have hf := nm_x ekn30 hf
  have lkn30 : kn30.length = r24.1.length + 1 := by rw [ekn30]; exact List.length_append
  refine eg_name (fun q31 eq31 => ?_)
  have hf := nm_x eq31 hf
  refine lv_dup hx hb dX1_init_29 rfl ?_
  refine bd_e hf (fun r32 er32 hf => ?_)
  refine eg_callv (va_runIN (As := []) (rest := [.ref q31, .int (3 : Int32), .ref q29]) S (c_X0_init (l := l) hA kn30 r24.2.1 P27 q31 r32 er32) ⟨va_cnB 0 hts (gi_n wa_1_91) rfl rfl rfl hO.2.1.2.2.1 (hWA _ wa_1_6) (by decide +kernel) ⟨Nat.le_of_ble_eq_true rfl, Nat.le_of_ble_eq_true rfl⟩, rfl, hWA _ wa_1_90⟩ ⟨mm_Bg_blind, fun U hU hW => ⟨rfl, mm_Bg_of hK hZ hO hM hU hW⟩⟩ rfl rfl hl.1 rfl (lv_room (Nat.le_of_ble_eq_true rfl)) dX1_init_30 ⟨Nat.le_of_ble_eq_true rfl, Nat.le_of_ble_eq_true rfl⟩) hM (fun H locs lr32 hM => ?_)
  refine gd_e hf (fun hg33 hf => ?_)
  refine gd_e hf (fun hg34 hf => ?_)
  refine eg_aast14 S hK hM hg33 (j := 3) rfl hg34 dX1_init_33 (fun P35 eP35 H locs hM => ?_)
  have hf := nm_x eP35 hf
  refine lv_iinc (v := (4 : Int32)) (lv' := [(1, .int (4 : Int32)), (0, .ref a0)]) hx hb dX1_init_34 hl (k := 0) rfl (by decide) (by decide) rfl (fun ls hl => ?_)
  refine lv_goto (tgt := 15) hx hb dX1_init_37 (by decide) ?_
  refine lv_iload_n hx hb dX1_init_15 rfl (lv_at hl 0 rfl) ?_
  refine lv_bipush (v := (10 : Int32)) hx hb dX1_init_16 (by decide) ?_
  refine lv_icmp_gt (tgt := 40) hx hb dX1_init_18 (by decide) (fun h => absurd h (by decide)) (fun _ => ?_)
  refine lv_aload_n hx hb dX1_init_21 rfl (lv_at hl 1 rfl) ?_
  refine gd_e hf (fun hg36 hf => ?_)
  refine bd_e hf (fun q37 eq37 hf => ?_)
  refine eg_get (v := q37) S hK hM (ci := 1) (n := 3) (C := RX1) (T := TX1) hin1 rfl hg36 0 (by decide) lk11 rfl rfl eq37 rfl dX1_init_22 ?_
  refine lv_iload_n hx hb dX1_init_25 rfl (lv_at hl 0 rfl) ?_
  refine eg_new S hA hbs hK hM (ci := 0) (n := 4) (C := RX0) (T := TX0) (fs := [.int 0, .int 0, .null, .null]) hin0 tyX0 tyX0_ok (hWA _ wa_1_86) (hWA _ wa_1_88) (hWA _ wa_1_6) rfl rfl (fun j hj => by rcases (show j = 0 ∨ j = 1 ∨ j = 2 ∨ j = 3 by omega) with rfl | rfl | rfl | rfl <;> rfl) (Nat.le_of_ble_eq_true rfl) (Nat.le_of_ble_eq_true rfl) dX1_init_26 (fun kn38 ekn38 H hM => ?_)
  have hf := nm_x ekn38 hf
  have lkn38 : kn38.length = r32.1.length + 1 := by rw [ekn38]; exact List.length_append
  refine eg_name (fun q39 eq39 => ?_)
  have hf := nm_x eq39 hf
  refine lv_dup hx hb dX1_init_29 rfl ?_
  refine bd_e hf (fun r40 er40 hf => ?_)
  refine eg_callv (va_runIN (As := []) (rest := [.ref q39, .int (4 : Int32), .ref q37]) S (c_X0_init (l := l) hA kn38 r32.2.1 P35 q39 r40 er40) ⟨va_cnB 0 hts (gi_n wa_1_91) rfl rfl rfl hO.2.1.2.2.1 (hWA _ wa_1_6) (by decide +kernel) ⟨Nat.le_of_ble_eq_true rfl, Nat.le_of_ble_eq_true rfl⟩, rfl, hWA _ wa_1_90⟩ ⟨mm_Bg_blind, fun U hU hW => ⟨rfl, mm_Bg_of hK hZ hO hM hU hW⟩⟩ rfl rfl hl.1 rfl (lv_room (Nat.le_of_ble_eq_true rfl)) dX1_init_30 ⟨Nat.le_of_ble_eq_true rfl, Nat.le_of_ble_eq_true rfl⟩) hM (fun H locs lr40 hM => ?_)
  refine gd_e hf (fun hg41 hf => ?_)
  refine gd_e hf (fun hg42 hf => ?_)
  refine eg_aast14 S hK hM hg41 (j := 4) rfl hg42 dX1_init_33 (fun P43 eP43 H locs hM => ?_)
  have hf := nm_x eP43 hf
  refine lv_iinc (v := (5 : Int32)) (lv' := [(1, .int (5 : Int32)), (0, .ref a0)]) hx hb dX1_init_34 hl (k := 0) rfl (by decide) (by decide) rfl (fun ls hl => ?_)
  refine lv_goto (tgt := 15) hx hb dX1_init_37 (by decide) ?_
  refine lv_iload_n hx hb dX1_init_15 rfl (lv_at hl 0 rfl) ?_
  refine lv_bipush (v := (10 : Int32)) hx hb dX1_init_16 (by decide) ?_
  refine lv_icmp_gt (tgt := 40) hx hb dX1_init_18 (by decide) (fun h => absurd h (by decide)) (fun _ => ?_)
  refine lv_aload_n hx hb dX1_init_21 rfl (lv_at hl 1 rfl) ?_
  refine gd_e hf (fun hg44 hf => ?_)
  refine bd_e hf (fun q45 eq45 hf => ?_)
  refine eg_get (v := q45) S hK hM (ci := 1) (n := 3) (C := RX1) (T := TX1) hin1 rfl hg44 0 (by decide) lk11 rfl rfl eq45 rfl dX1_init_22 ?_
  refine lv_iload_n hx hb dX1_init_25 rfl (lv_at hl 0 rfl) ?_
  refine eg_new S hA hbs hK hM (ci := 0) (n := 4) (C := RX0) (T := TX0) (fs := [.int 0, .int 0, .null, .null]) hin0 tyX0 tyX0_ok (hWA _ wa_1_86) (hWA _ wa_1_88) (hWA _ wa_1_6) rfl rfl (fun j hj => by rcases (show j = 0 ∨ j = 1 ∨ j = 2 ∨ j = 3 by omega) with rfl | rfl | rfl | rfl <;> rfl) (Nat.le_of_ble_eq_true rfl) (Nat.le_of_ble_eq_true rfl) dX1_init_26 (fun kn46 ekn46 H hM => ?_)
  have hf := nm_x ekn46 hf
  have lkn46 : kn46.length = r40.1.length + 1 := by rw [ekn46]; exact List.length_append
  refine eg_name (fun q47 eq47 => ?_)
  have hf := nm_x eq47 hf
  refine lv_dup hx hb dX1_init_29 rfl ?_
  refine bd_e hf (fun r48 er48 hf => ?_)
  refine eg_callv (va_runIN (As := []) (rest := [.ref q47, .int (5 : Int32), .ref q45]) S (c_X0_init (l := l) hA kn46 r40.2.1 P43 q47 r48 er48) ⟨va_cnB 0 hts (gi_n wa_1_91) rfl rfl rfl hO.2.1.2.2.1 (hWA _ wa_1_6) (by decide +kernel) ⟨Nat.le_of_ble_eq_true rfl, Nat.le_of_ble_eq_true rfl⟩, rfl, hWA _ wa_1_90⟩ ⟨mm_Bg_blind, fun U hU hW => ⟨rfl, mm_Bg_of hK hZ hO hM hU hW⟩⟩ rfl rfl hl.1 rfl (lv_room (Nat.le_of_ble_eq_true rfl)) dX1_init_30 ⟨Nat.le_of_ble_eq_true rfl, Nat.le_of_ble_eq_true rfl⟩) hM (fun H locs lr48 hM => ?_)
  refine gd_e hf (fun hg49 hf => ?_)
  refine gd_e hf (fun hg50 hf => ?_)
  refine eg_aast14 S hK hM hg49 (j := 5) rfl hg50 dX1_init_33 (fun P51 eP51 H locs hM => ?_)
  have hf := nm_x eP51 hf
  refine lv_iinc (v := (6 : Int32)) (lv' := [(1, .int (6 : Int32)), (0, .ref a0)]) hx hb dX1_init_34 hl (k := 0) rfl (by decide) (by decide) rfl (fun ls hl => ?_)
  refine lv_goto (tgt := 15) hx hb dX1_init_37 (by decide) ?_
  refine lv_iload_n hx hb dX1_init_15 rfl (lv_at hl 0 rfl) ?_
  refine lv_bipush (v := (10 : Int32)) hx hb dX1_init_16 (by decide) ?_
  refine lv_icmp_gt (tgt := 40) hx hb dX1_init_18 (by decide) (fun h => absurd h (by decide)) (fun _ => ?_)
  refine lv_aload_n hx hb dX1_init_21 rfl (lv_at hl 1 rfl) ?_
  refine gd_e hf (fun hg52 hf => ?_)
  refine bd_e hf (fun q53 eq53 hf => ?_)
  refine eg_get (v := q53) S hK hM (ci := 1) (n := 3) (C := RX1) (T := TX1) hin1 rfl hg52 0 (by decide) lk11 rfl rfl eq53 rfl dX1_init_22 ?_
  refine lv_iload_n hx hb dX1_init_25 rfl (lv_at hl 0 rfl) ?_
  refine eg_new S hA hbs hK hM (ci := 0) (n := 4) (C := RX0) (T := TX0) (fs := [.int 0, .int 0, .null, .null]) hin0 tyX0 tyX0_ok (hWA _ wa_1_86) (hWA _ wa_1_88) (hWA _ wa_1_6) rfl rfl (fun j hj => by rcases (show j = 0 ∨ j = 1 ∨ j = 2 ∨ j = 3 by omega) with rfl | rfl | rfl | rfl <;> rfl) (Nat.le_of_ble_eq_true rfl) (Nat.le_of_ble_eq_true rfl) dX1_init_26 (fun kn54 ekn54 H hM => ?_)
  have hf := nm_x ekn54 hf
  have lkn54 : kn54.length = r48.1.length + 1 := by rw [ekn54]; exact List.length_append
  refine eg_name (fun q55 eq55 => ?_)
  have hf := nm_x eq55 hf
  refine lv_dup hx hb dX1_init_29 rfl ?_
  refine bd_e hf (fun r56 er56 hf => ?_)
  refine eg_callv (va_runIN (As := []) (rest := [.ref q55, .int (6 : Int32), .ref q53]) S (c_X0_init (l := l) hA kn54 r48.2.1 P51 q55 r56 er56) ⟨va_cnB 0 hts (gi_n wa_1_91) rfl rfl rfl hO.2.1.2.2.1 (hWA _ wa_1_6) (by decide +kernel) ⟨Nat.le_of_ble_eq_true rfl, Nat.le_of_ble_eq_true rfl⟩, rfl, hWA _ wa_1_90⟩ ⟨mm_Bg_blind, fun U hU hW => ⟨rfl, mm_Bg_of hK hZ hO hM hU hW⟩⟩ rfl rfl hl.1 rfl (lv_room (Nat.le_of_ble_eq_true rfl)) dX1_init_30 ⟨Nat.le_of_ble_eq_true rfl, Nat.le_of_ble_eq_true rfl⟩) hM (fun H locs lr56 hM => ?_)
  refine gd_e hf (fun hg57 hf => ?_)
  refine gd_e hf (fun hg58 hf => ?_)
  refine eg_aast14 S hK hM hg57 (j := 6) rfl hg58 dX1_init_33 (fun P59 eP59 H locs hM => ?_)
  have hf := nm_x eP59 hf
  refine lv_iinc (v := (7 : Int32)) (lv' := [(1, .int (7 : Int32)), (0, .ref a0)]) hx hb dX1_init_34 hl (k := 0) rfl (by decide) (by decide) rfl (fun ls hl => ?_)
  refine lv_goto (tgt := 15) hx hb dX1_init_37 (by decide) ?_
  refine lv_iload_n hx hb dX1_init_15 rfl (lv_at hl 0 rfl) ?_
  refine lv_bipush (v := (10 : Int32)) hx hb dX1_init_16 (by decide) ?_
  refine lv_icmp_gt (tgt := 40) hx hb dX1_init_18 (by decide) (fun h => absurd h (by decide)) (fun _ => ?_)
  refine lv_aload_n hx hb dX1_init_21 rfl (lv_at hl 1 rfl) ?_
  refine gd_e hf (fun hg60 hf => ?_)
  refine bd_e hf (fun q61 eq61 hf => ?_)
  refine eg_get (v := q61) S hK hM (ci := 1) (n := 3) (C := RX1) (T := TX1) hin1 rfl hg60 0 (by decide) lk11 rfl rfl eq61 rfl dX1_init_22 ?_
  refine lv_iload_n hx hb dX1_init_25 rfl (lv_at hl 0 rfl) ?_
  refine eg_new S hA hbs hK hM (ci := 0) (n := 4) (C := RX0) (T := TX0) (fs := [.int 0, .int 0, .null, .null]) hin0 tyX0 tyX0_ok (hWA _ wa_1_86) (hWA _ wa_1_88) (hWA _ wa_1_6) rfl rfl (fun j hj => by rcases (show j = 0 ∨ j = 1 ∨ j = 2 ∨ j = 3 by omega) with rfl | rfl | rfl | rfl <;> rfl) (Nat.le_of_ble_eq_true rfl) (Nat.le_of_ble_eq_true rfl) dX1_init_26 (fun kn62 ekn62 H hM => ?_)
  have hf := nm_x ekn62 hf
  have lkn62 : kn62.length = r56.1.length + 1 := by rw [ekn62]; exact List.length_append
  refine eg_name (fun q63 eq63 => ?_)
  have hf := nm_x eq63 hf
  refine lv_dup hx hb dX1_init_29 rfl ?_
  refine bd_e hf (fun r64 er64 hf => ?_)
  refine eg_callv (va_runIN (As := []) (rest := [.ref q63, .int (7 : Int32), .ref q61]) S (c_X0_init (l := l) hA kn62 r56.2.1 P59 q63 r64 er64) ⟨va_cnB 0 hts (gi_n wa_1_91) rfl rfl rfl hO.2.1.2.2.1 (hWA _ wa_1_6) (by decide +kernel) ⟨Nat.le_of_ble_eq_true rfl, Nat.le_of_ble_eq_true rfl⟩, rfl, hWA _ wa_1_90⟩ ⟨mm_Bg_blind, fun U hU hW => ⟨rfl, mm_Bg_of hK hZ hO hM hU hW⟩⟩ rfl rfl hl.1 rfl (lv_room (Nat.le_of_ble_eq_true rfl)) dX1_init_30 ⟨Nat.le_of_ble_eq_true rfl, Nat.le_of_ble_eq_true rfl⟩) hM (fun H locs lr64 hM => ?_)
  refine gd_e hf (fun hg65 hf => ?_)
  refine gd_e hf (fun hg66 hf => ?_)
  refine eg_aast14 S hK hM hg65 (j := 7) rfl hg66 dX1_init_33 (fun P67 eP67 H locs hM => ?_)
  have hf := nm_x eP67 hf
  refine lv_iinc (v := (8 : Int32)) (lv' := [(1, .int (8 : Int32)), (0, .ref a0)]) hx hb dX1_init_34 hl (k := 0) rfl (by decide) (by decide) rfl (fun ls hl => ?_)
  refine lv_goto (tgt := 15) hx hb dX1_init_37 (by decide) ?_
  refine lv_iload_n hx hb dX1_init_15 rfl (lv_at hl 0 rfl) ?_
  refine lv_bipush (v := (10 : Int32)) hx hb dX1_init_16 (by decide) ?_
  refine lv_icmp_gt (tgt := 40) hx hb dX1_init_18 (by decide) (fun h => absurd h (by decide)) (fun _ => ?_)
  refine lv_aload_n hx hb dX1_init_21 rfl (lv_at hl 1 rfl) ?_
  refine gd_e hf (fun hg68 hf => ?_)
  refine bd_e hf (fun q69 eq69 hf => ?_)
  refine eg_get (v := q69) S hK hM (ci := 1) (n := 3) (C := RX1) (T := TX1) hin1 rfl hg68 0 (by decide) lk11 rfl rfl eq69 rfl dX1_init_22 ?_
  refine lv_iload_n hx hb dX1_init_25 rfl (lv_at hl 0 rfl) ?_
  refine eg_new S hA hbs hK hM (ci := 0) (n := 4) (C := RX0) (T := TX0) (fs := [.int 0, .int 0, .null, .null]) hin0 tyX0 tyX0_ok (hWA _ wa_1_86) (hWA _ wa_1_88) (hWA _ wa_1_6) rfl rfl (fun j hj => by rcases (show j = 0 ∨ j = 1 ∨ j = 2 ∨ j = 3 by omega) with rfl | rfl | rfl | rfl <;> rfl) (Nat.le_of_ble_eq_true rfl) (Nat.le_of_ble_eq_true rfl) dX1_init_26 (fun kn70 ekn70 H hM => ?_)
  have hf := nm_x ekn70 hf
  have lkn70 : kn70.length = r64.1.length + 1 := by rw [ekn70]; exact List.length_append
  refine eg_name (fun q71 eq71 => ?_)
  have hf := nm_x eq71 hf
  refine lv_dup hx hb dX1_init_29 rfl ?_
  refine bd_e hf (fun r72 er72 hf => ?_)
  refine eg_callv (va_runIN (As := []) (rest := [.ref q71, .int (8 : Int32), .ref q69]) S (c_X0_init (l := l) hA kn70 r64.2.1 P67 q71 r72 er72) ⟨va_cnB 0 hts (gi_n wa_1_91) rfl rfl rfl hO.2.1.2.2.1 (hWA _ wa_1_6) (by decide +kernel) ⟨Nat.le_of_ble_eq_true rfl, Nat.le_of_ble_eq_true rfl⟩, rfl, hWA _ wa_1_90⟩ ⟨mm_Bg_blind, fun U hU hW => ⟨rfl, mm_Bg_of hK hZ hO hM hU hW⟩⟩ rfl rfl hl.1 rfl (lv_room (Nat.le_of_ble_eq_true rfl)) dX1_init_30 ⟨Nat.le_of_ble_eq_true rfl, Nat.le_of_ble_eq_true rfl⟩) hM (fun H locs lr72 hM => ?_)
  refine gd_e hf (fun hg73 hf => ?_)
  refine gd_e hf (fun hg74 hf => ?_)
  refine eg_aast14 S hK hM hg73 (j := 8) rfl hg74 dX1_init_33 (fun P75 eP75 H locs hM => ?_)
  have hf := nm_x eP75 hf
  refine lv_iinc (v := (9 : Int32)) (lv' := [(1, .int (9 : Int32)), (0, .ref a0)]) hx hb dX1_init_34 hl (k := 0) rfl (by decide) (by decide) rfl (fun ls hl => ?_)
  refine lv_goto (tgt := 15) hx hb dX1_init_37 (by decide) ?_
  refine lv_iload_n hx hb dX1_init_15 rfl (lv_at hl 0 rfl) ?_
  refine lv_bipush (v := (10 : Int32)) hx hb dX1_init_16 (by decide) ?_
  refine lv_icmp_gt (tgt := 40) hx hb dX1_init_18 (by decide) (fun h => absurd h (by decide)) (fun _ => ?_)
  refine lv_aload_n hx hb dX1_init_21 rfl (lv_at hl 1 rfl) ?_
  refine gd_e hf (fun hg76 hf => ?_)
  refine bd_e hf (fun q77 eq77 hf => ?_)
  refine eg_get (v := q77) S hK hM (ci := 1) (n := 3) (C := RX1) (T := TX1) hin1 rfl hg76 0 (by decide) lk11 rfl rfl eq77 rfl dX1_init_22 ?_
  refine lv_iload_n hx hb dX1_init_25 rfl (lv_at hl 0 rfl) ?_
  refine eg_new S hA hbs hK hM (ci := 0) (n := 4) (C := RX0) (T := TX0) (fs := [.int 0, .int 0, .null, .null]) hin0 tyX0 tyX0_ok (hWA _ wa_1_86) (hWA _ wa_1_88) (hWA _ wa_1_6) rfl rfl (fun j hj => by rcases (show j = 0 ∨ j = 1 ∨ j = 2 ∨ j = 3 by omega) with rfl | rfl | rfl | rfl <;> rfl) (Nat.le_of_ble_eq_true rfl) (Nat.le_of_ble_eq_true rfl) dX1_init_26 (fun kn78 ekn78 H hM => ?_)
  have hf := nm_x ekn78 hf
  have lkn78 : kn78.length = r72.1.length + 1 := by rw [ekn78]; exact List.length_append
  refine eg_name (fun q79 eq79 => ?_)
  have hf := nm_x eq79 hf
  refine lv_dup hx hb dX1_init_29 rfl ?_
  refine bd_e hf (fun r80 er80 hf => ?_)
  refine eg_callv (va_runIN (As := []) (rest := [.ref q79, .int (9 : Int32), .ref q77]) S (c_X0_init (l := l) hA kn78 r72.2.1 P75 q79 r80 er80) ⟨va_cnB 0 hts (gi_n wa_1_91) rfl rfl rfl hO.2.1.2.2.1 (hWA _ wa_1_6) (by decide +kernel) ⟨Nat.le_of_ble_eq_true rfl, Nat.le_of_ble_eq_true rfl⟩, rfl, hWA _ wa_1_90⟩ ⟨mm_Bg_blind, fun U hU hW => ⟨rfl, mm_Bg_of hK hZ hO hM hU hW⟩⟩ rfl rfl hl.1 rfl (lv_room (Nat.le_of_ble_eq_true rfl)) dX1_init_30 ⟨Nat.le_of_ble_eq_true rfl, Nat.le_of_ble_eq_true rfl⟩) hM (fun H locs lr80 hM => ?_)
  refine gd_e hf (fun hg81 hf => ?_)
  refine gd_e hf (fun hg82 hf => ?_)
  refine eg_aast14 S hK hM hg81 (j := 9) rfl hg82 dX1_init_33 (fun P83 eP83 H locs hM => ?_)
  have hf := nm_x eP83 hf
  refine lv_iinc (v := (10 : Int32)) (lv' := [(1, .int (10 : Int32)), (0, .ref a0)]) hx hb dX1_init_34 hl (k := 0) rfl (by decide) (by decide) rfl (fun ls hl => ?_)
  refine lv_goto (tgt := 15) hx hb dX1_init_37 (by decide) ?_
  refine lv_iload_n hx hb dX1_init_15 rfl (lv_at hl 0 rfl) ?_
  refine lv_bipush (v := (10 : Int32)) hx hb dX1_init_16 (by decide) ?_
  refine lv_icmp_gt (tgt := 40) hx hb dX1_init_18 (by decide) (fun h => absurd h (by decide)) (fun _ => ?_)
  refine lv_aload_n hx hb dX1_init_21 rfl (lv_at hl 1 rfl) ?_
  refine gd_e hf (fun hg84 hf => ?_)
  refine bd_e hf (fun q85 eq85 hf => ?_)
  refine eg_get (v := q85) S hK hM (ci := 1) (n := 3) (C := RX1) (T := TX1) hin1 rfl hg84 0 (by decide) lk11 rfl rfl eq85 rfl dX1_init_22 ?_
  refine lv_iload_n hx hb dX1_init_25 rfl (lv_at hl 0 rfl) ?_
  refine eg_new S hA hbs hK hM (ci := 0) (n := 4) (C := RX0) (T := TX0) (fs := [.int 0, .int 0, .null, .null]) hin0 tyX0 tyX0_ok (hWA _ wa_1_86) (hWA _ wa_1_88) (hWA _ wa_1_6) rfl rfl (fun j hj => by rcases (show j = 0 ∨ j = 1 ∨ j = 2 ∨ j = 3 by omega) with rfl | rfl | rfl | rfl <;> rfl) (Nat.le_of_ble_eq_true rfl) (Nat.le_of_ble_eq_true rfl) dX1_init_26 (fun kn86 ekn86 H hM => ?_)
  have hf := nm_x ekn86 hf
  have lkn86 : kn86.length = r80.1.length + 1 := by rw [ekn86]; exact List.length_append
  refine eg_name (fun q87 eq87 => ?_)
  have hf := nm_x eq87 hf
  refine lv_dup hx hb dX1_init_29 rfl ?_
  refine bd_e hf (fun r88 er88 hf => ?_)
  refine eg_callv (va_runIN (As := []) (rest := [.ref q87, .int (10 : Int32), .ref q85]) S (c_X0_init (l := l) hA kn86 r80.2.1 P83 q87 r88 er88) ⟨va_cnB 0 hts (gi_n wa_1_91) rfl rfl rfl hO.2.1.2.2.1 (hWA _ wa_1_6) (by decide +kernel) ⟨Nat.le_of_ble_eq_true rfl, Nat.le_of_ble_eq_true rfl⟩, rfl, hWA _ wa_1_90⟩ ⟨mm_Bg_blind, fun U hU hW => ⟨rfl, mm_Bg_of hK hZ hO hM hU hW⟩⟩ rfl rfl hl.1 rfl (lv_room (Nat.le_of_ble_eq_true rfl)) dX1_init_30 ⟨Nat.le_of_ble_eq_true rfl, Nat.le_of_ble_eq_true rfl⟩) hM (fun H locs lr88 hM => ?_)
  refine gd_e hf (fun hg89 hf => ?_)
  refine gd_e hf (fun hg90 hf => ?_)
  refine eg_aast14 S hK hM hg89 (j := 10) rfl hg90 dX1_init_33 (fun P91 eP91 H locs hM => ?_)
  have hf := nm_x eP91 hf
  refine lv_iinc (v := (11 : Int32)) (lv' := [(1, .int (11 : Int32)), (0, .ref a0)]) hx hb dX1_init_34 hl (k := 0) rfl (by decide) (by decide) rfl (fun ls hl => ?_)
  refine lv_goto (tgt := 15) hx hb dX1_init_37 (by decide) ?_
  refine lv_iload_n hx hb dX1_init_15 rfl (lv_at hl 0 rfl) ?_
  refine lv_bipush (v := (10 : Int32)) hx hb dX1_init_16 (by decide) ?_
  refine lv_icmp_gt (tgt := 40) hx hb dX1_init_18 (by decide) (fun _ => ?_) (fun h => absurd (by decide) h)
  obtain rfl := Option.some.inj hf
  subst hQ
  exact eg_vret S hr hlocks hK hZ hO (by show (r88.1).length = kn.length + 34; omega) hM dX1_init_40
noncomputable def fn_X2_init (b : Nat) (kn : List (Nat × Nat)) (I : Nat → Nat → Int32) (P : Nat → Nat → Option Nat) (a0 : Nat) : Option (List (Nat × Nat) × (Nat → Nat → Int32) × (Nat → Nat → Option Nat)) := gd (kk b kn a0 = 3) (Option.bind (some (up2 I a0 0 (0 : Int32))) (fun I2 => Option.bind (some (up2 I2 a0 1 (1 : Int32))) (fun I3 => Option.bind (some (up2 I3 a0 2 (0 : Int32))) (fun I4 => Option.bind (some (up2 I4 a0 3 (9 : Int32))) (fun I5 => some (kn, I5, P))))))
abbrev wz_X2_init : List Cond := Cond.code yX2_init cX2_init 1 none :: WA
abbrev rm_X2_init : Room := { frames := 1, cells := 0, slots := 0, locals := 12 }
set_option maxHeartbeats 4000000 in
set_option maxRecDepth 100000 in
theorem c_X2_init (hA : ∀ q, A q ↔ b ≤ q) (kn : List (Nat × Nat)) (I : Nat → Nat → Int32) (P : Nat → Nat → Option Nat) (a0 : Nat) (res : List (Nat × Nat) × (Nat → Nat → Int32) × (Nat → Nat → Option Nat)) (hf : fn_X2_init b kn I P a0 = some res) : Met l yX2_init wz_X2_init rm_X2_init (va_Pc [.ref a0] (mm_Bg D cs A b z w kn I P)) (va_Qv (fun (_ : Unit) => res.1.length = kn.length + 0) (fun _ => mm_Bg D cs A b z w res.1 res.2.1 res.2.2) A) 0 0 A := by
  refine Met.ofW (cc := cX2_init) (maxL := 1) (ret := none) (by decide) rfl ?_
  intro p e s m args below meth c s₁ B hml hv
  obtain ⟨rfl, hBm⟩ := hv
  have hx := B.exec
  have hb := B.bytes
  have hr := B.returns
  have hts := atoms_spec (ws := wz_X2_init) B.pre
  have hWA : ∀ w ∈ WA, w.before ([.ref a0] : List Value).toArray s = true := fun u9 h9 => hts u9 (List.mem_cons_of_mem _ h9)
  have hown : s.vm.findClass RX2 = some m.cls := findClass_of_methodNamed B.named
  have hlocks := B.notSynchronized
  have hin : meth.name = "<init>" := (name_of_methodNamed B.named B.method).1
  have S : CallFix p m c cX2_init 1 s ([.ref a0] : List Value).toArray wz_X2_init RX2 := ⟨hx, hb, hml, hown, hts⟩
  have hK := hBm.1.2.2.2.1
  have hZ := hBm.1.2.2.2.2
  have hO := hBm.2.2.2
  have hbs : b ≤ s.heap.size := by rw [hBm.2.1]; exact Nat.le_add_right _ _
  have hM : mm_G D cs A b kn s.heap I P s.heap [] 0 := ⟨⟨hBm.1.1, hBm.1.2.1, hBm.1.2.2.1, va_S.rf⟩, hBm.2.1, hBm.2.1, hBm.2.2.1⟩
  have hl := lv_entry ([.ref a0]) (n := 1) (Nat.le_of_ble_eq_true rfl)
  rw [lg_entry_eq]
  generalize (lg_sl ([.ref a0]) ++ List.replicate (1 - (lg_sl ([.ref a0])).length) Slot.unset).toArray = ls at hl ⊢
  have hl : lv_has ls 1 [(0, .ref a0)] := hl
  have hin2 : ∀ w ∈ wsX20, w ∈ wz_X2_init := fun w h => List.mem_cons_of_mem _ (wu_X2 w h)
  have lk9 : (Cond.fieldLink RX2 9 RX2 "kind" "I").before ([.ref a0] : List Value).toArray s = true := hWA _ wa_1_59
  have lk15 : (Cond.fieldLink RX2 15 RX2 "radius" "I").before ([.ref a0] : List Value).toArray s = true := hWA _ wa_1_62
  have lk18 : (Cond.fieldLink RX2 18 RX2 "ink" "I").before ([.ref a0] : List Value).toArray s = true := hWA _ wa_1_65
  have lk21 : (Cond.fieldLink RX2 21 RX2 "flow" "I").before ([.ref a0] : List Value).toArray s = true := hWA _ wa_1_68
  generalize hQ : MQ below (va_Qv (fun (_ : Unit) => res.1.length = kn.length + 0) (fun _ => mm_Bg D cs A b z w res.1 res.2.1 res.2.2) A) ([.ref a0] : List Value).toArray s 0 0 A = QQ
  rw [fn_X2_init] at hf
  refine lv_aload_n hx hb dX2_init_0 rfl (lv_at hl 0 rfl) ?_
  refine eg_obj hx hb hown (hWA _ wa_1_58) (hWA _ wa_1_26) (hWA _ wa_1_27) (by rw [hml]; exact hl.1) dX2_init_1 (Nat.le_of_ble_eq_true rfl) (Nat.le_of_ble_eq_true rfl) ?_
  refine lv_aload_n hx hb dX2_init_4 rfl (lv_at hl 0 rfl) ?_
  refine lv_iconst (v := (0 : Int32)) hx hb dX2_init_5 (by decide) ?_
  refine gd_e hf (fun hg1 hf => ?_)
  refine eg_put S hK hM (ci := 2) (n := 4) (C := RX2) (T := TX2) hin2 tyX2 tyX2_ok nmX2 rfl hg1 0 (by decide) lk9 rfl rfl rfl rfl rfl (Nat.le_of_ble_eq_true rfl) rfl dX2_init_6 (fun I2 eI2 H locs hM => ?_)
  have hf := nm_x eI2 hf
  refine lv_aload_n hx hb dX2_init_9 rfl (lv_at hl 0 rfl) ?_
  refine lv_iconst (v := (1 : Int32)) hx hb dX2_init_10 (by decide) ?_
  refine eg_put S hK hM (ci := 2) (n := 4) (C := RX2) (T := TX2) hin2 tyX2 tyX2_ok nmX2 rfl hg1 1 (by decide) lk15 rfl rfl rfl rfl rfl (Nat.le_of_ble_eq_true rfl) rfl dX2_init_11 (fun I3 eI3 H locs hM => ?_)
  have hf := nm_x eI3 hf
  refine lv_aload_n hx hb dX2_init_14 rfl (lv_at hl 0 rfl) ?_
  refine lv_iconst (v := (0 : Int32)) hx hb dX2_init_15 (by decide) ?_
  refine eg_put S hK hM (ci := 2) (n := 4) (C := RX2) (T := TX2) hin2 tyX2 tyX2_ok nmX2 rfl hg1 2 (by decide) lk18 rfl rfl rfl rfl rfl (Nat.le_of_ble_eq_true rfl) rfl dX2_init_16 (fun I4 eI4 H locs hM => ?_)
  have hf := nm_x eI4 hf
  refine lv_aload_n hx hb dX2_init_19 rfl (lv_at hl 0 rfl) ?_
  refine lv_bipush (v := (9 : Int32)) hx hb dX2_init_20 (by decide) ?_
  refine eg_put S hK hM (ci := 2) (n := 4) (C := RX2) (T := TX2) hin2 tyX2 tyX2_ok nmX2 rfl hg1 3 (by decide) lk21 rfl rfl rfl rfl rfl (Nat.le_of_ble_eq_true rfl) rfl dX2_init_22 (fun I5 eI5 H locs hM => ?_)
  have hf := nm_x eI5 hf
  obtain rfl := Option.some.inj hf
  subst hQ
  exact eg_vret S hr hlocks hK hZ hO (by show (kn).length = kn.length + 0; omega) hM dX2_init_25
noncomputable def fn_X3_init (b : Nat) (kn : List (Nat × Nat)) (I : Nat → Nat → Int32) (P : Nat → Nat → Option Nat) (a0 : Nat) : Option (List (Nat × Nat) × (Nat → Nat → Int32) × (Nat → Nat → Option Nat)) := Option.bind (some (kn ++ [(13, 192)])) (fun kn1 => Option.bind (some (b + kn.length)) (fun q2 => gd (kk b kn1 a0 = 4) (Option.bind (some (upP P a0 0 (some q2))) (fun P4 => Option.bind (some (kn1 ++ [(12, 192)])) (fun kn5 => Option.bind (some (b + kn1.length)) (fun q6 => gd (kk b kn5 a0 = 4) (Option.bind (some (upP P4 a0 1 (some q6))) (fun P8 => Option.bind (some (kn5 ++ [(12, 192)])) (fun kn9 => Option.bind (some (b + kn5.length)) (fun q10 => gd (kk b kn9 a0 = 4) (Option.bind (some (upP P8 a0 2 (some q10))) (fun P12 => some (kn9, I, P12)))))))))))))
abbrev wz_X3_init : List Cond := Cond.code yX3_init cX3_init 1 none :: WA
abbrev rm_X3_init : Room := { frames := 1, cells := 3, slots := 576, locals := 12 }
set_option maxHeartbeats 4000000 in
set_option maxRecDepth 100000 in
theorem c_X3_init (hA : ∀ q, A q ↔ b ≤ q) (kn : List (Nat × Nat)) (I : Nat → Nat → Int32) (P : Nat → Nat → Option Nat) (a0 : Nat) (res : List (Nat × Nat) × (Nat → Nat → Int32) × (Nat → Nat → Option Nat)) (hf : fn_X3_init b kn I P a0 = some res) : Met l yX3_init wz_X3_init rm_X3_init (va_Pc [.ref a0] (mm_Bg D cs A b z w kn I P)) (va_Qv (fun (_ : Unit) => res.1.length = kn.length + 3) (fun _ => mm_Bg D cs A b z w res.1 res.2.1 res.2.2) A) 3 576 A := by
  refine Met.ofW (cc := cX3_init) (maxL := 1) (ret := none) (by decide) rfl ?_
  intro p e s m args below meth c s₁ B hml hv
  obtain ⟨rfl, hBm⟩ := hv
  have hx := B.exec
  have hb := B.bytes
  have hr := B.returns
  have hts := atoms_spec (ws := wz_X3_init) B.pre
  have hWA : ∀ w ∈ WA, w.before ([.ref a0] : List Value).toArray s = true := fun u9 h9 => hts u9 (List.mem_cons_of_mem _ h9)
  have hown : s.vm.findClass RX3 = some m.cls := findClass_of_methodNamed B.named
  have hlocks := B.notSynchronized
  have hin : meth.name = "<init>" := (name_of_methodNamed B.named B.method).1
  have S : CallFix p m c cX3_init 1 s ([.ref a0] : List Value).toArray wz_X3_init RX3 := ⟨hx, hb, hml, hown, hts⟩
  have hK := hBm.1.2.2.2.1
  have hZ := hBm.1.2.2.2.2
  have hO := hBm.2.2.2
  have hbs : b ≤ s.heap.size := by rw [hBm.2.1]; exact Nat.le_add_right _ _
  have hM : mm_G D cs A b kn s.heap I P s.heap [] 0 := ⟨⟨hBm.1.1, hBm.1.2.1, hBm.1.2.2.1, va_S.rf⟩, hBm.2.1, hBm.2.1, hBm.2.2.1⟩
  have hl := lv_entry ([.ref a0]) (n := 1) (Nat.le_of_ble_eq_true rfl)
  rw [lg_entry_eq]
  generalize (lg_sl ([.ref a0]) ++ List.replicate (1 - (lg_sl ([.ref a0])).length) Slot.unset).toArray = ls at hl ⊢
  have hl : lv_has ls 1 [(0, .ref a0)] := hl
  have hin3 : ∀ w ∈ wsX30, w ∈ wz_X3_init := fun w h => List.mem_cons_of_mem _ (wu_X3 w h)
  have lk9 : (Cond.fieldLink RX3 9 RX3 "chosen" "[Z").before ([.ref a0] : List Value).toArray s = true := hWA _ wa_1_238
  have lk15 : (Cond.fieldLink RX3 15 RX3 "keys" "[I").before ([.ref a0] : List Value).toArray s = true := hWA _ wa_2_0
  have lk19 : (Cond.fieldLink RX3 19 RX3 "queue" "[I").before ([.ref a0] : List Value).toArray s = true := hWA _ wa_2_2
  generalize hQ : MQ below (va_Qv (fun (_ : Unit) => res.1.length = kn.length + 3) (fun _ => mm_Bg D cs A b z w res.1 res.2.1 res.2.2) A) ([.ref a0] : List Value).toArray s 3 576 A = QQ
  rw [fn_X3_init] at hf
  refine lv_aload_n hx hb dX3_init_0 rfl (lv_at hl 0 rfl) ?_
  refine eg_obj hx hb hown (hWA _ wa_1_237) (hWA _ wa_1_26) (hWA _ wa_1_27) (by rw [hml]; exact hl.1) dX3_init_1 (Nat.le_of_ble_eq_true rfl) (Nat.le_of_ble_eq_true rfl) ?_
  refine lv_aload_n hx hb dX3_init_4 rfl (lv_at hl 0 rfl) ?_
  refine lv_sipush (v := (192 : Int32)) hx hb dX3_init_5 (by decide) ?_
  refine eg_newZ S hA hbs hK hM (hWA _ wa_1_52) (by decide) (N' := 192) rfl (Nat.le_of_ble_eq_true rfl) (Nat.le_of_ble_eq_true rfl) (Nat.le_of_ble_eq_true rfl) dX3_init_8 (fun kn1 ekn1 H hM => ?_)
  have hf := nm_x ekn1 hf
  have lkn1 : kn1.length = kn.length + 1 := by rw [ekn1]; exact List.length_append
  refine eg_name (fun q2 eq2 => ?_)
  have hf := nm_x eq2 hf
  refine gd_e hf (fun hg3 hf => ?_)
  refine eg_putP S hK hM (ci := 3) (n := 4) (C := RX3) (T := TX3) hin3 tyX3 tyX3_ok nmX3 rfl hg3 0 (by decide) lk9 rfl rfl hin rfl rfl rfl rfl (Nat.le_of_ble_eq_true rfl) rfl dX3_init_10 (fun P4 eP4 H locs hM => ?_)
  have hf := nm_x eP4 hf
  refine lv_aload_n hx hb dX3_init_13 rfl (lv_at hl 0 rfl) ?_
  refine lv_sipush (v := (192 : Int32)) hx hb dX3_init_14 (by decide) ?_
  refine eg_newI S hA hbs hK hM (hWA _ wa_1_108) (by decide) (N' := 192) rfl (Nat.le_of_ble_eq_true rfl) (Nat.le_of_ble_eq_true rfl) (Nat.le_of_ble_eq_true rfl) dX3_init_17 (fun kn5 ekn5 H hM => ?_)
  have hf := nm_x ekn5 hf
  have lkn5 : kn5.length = kn1.length + 1 := by rw [ekn5]; exact List.length_append
  refine eg_name (fun q6 eq6 => ?_)
  have hf := nm_x eq6 hf
  refine gd_e hf (fun hg7 hf => ?_)
  refine eg_putP S hK hM (ci := 3) (n := 4) (C := RX3) (T := TX3) hin3 tyX3 tyX3_ok nmX3 rfl hg7 1 (by decide) lk15 rfl rfl hin rfl rfl rfl rfl (Nat.le_of_ble_eq_true rfl) rfl dX3_init_19 (fun P8 eP8 H locs hM => ?_)
  have hf := nm_x eP8 hf
  refine lv_aload_n hx hb dX3_init_22 rfl (lv_at hl 0 rfl) ?_
  refine lv_sipush (v := (192 : Int32)) hx hb dX3_init_23 (by decide) ?_
  refine eg_newI S hA hbs hK hM (hWA _ wa_1_108) (by decide) (N' := 192) rfl (Nat.le_of_ble_eq_true rfl) (Nat.le_of_ble_eq_true rfl) (Nat.le_of_ble_eq_true rfl) dX3_init_26 (fun kn9 ekn9 H hM => ?_)
  have hf := nm_x ekn9 hf
  have lkn9 : kn9.length = kn5.length + 1 := by rw [ekn9]; exact List.length_append
  refine eg_name (fun q10 eq10 => ?_)
  have hf := nm_x eq10 hf
  refine gd_e hf (fun hg11 hf => ?_)
  refine eg_putP S hK hM (ci := 3) (n := 4) (C := RX3) (T := TX3) hin3 tyX3 tyX3_ok nmX3 rfl hg11 2 (by decide) lk19 rfl rfl hin rfl rfl rfl rfl (Nat.le_of_ble_eq_true rfl) rfl dX3_init_28 (fun P12 eP12 H locs hM => ?_)
  have hf := nm_x eP12 hf
  obtain rfl := Option.some.inj hf
  subst hQ
  exact eg_vret S hr hlocks hK hZ hO (by show (kn9).length = kn.length + 3; omega) hM dX3_init_31
noncomputable def fn_X4_init (b : Nat) (kn : List (Nat × Nat)) (I : Nat → Nat → Int32) (P : Nat → Nat → Option Nat) (a0 : Nat) : Option (List (Nat × Nat) × (Nat → Nat → Int32) × (Nat → Nat → Option Nat)) := Option.bind (some (kn ++ [(12, 192)])) (fun kn1 => Option.bind (some (b + kn.length)) (fun q2 => gd (kk b kn1 a0 = 5) (Option.bind (some (upP P a0 0 (some q2))) (fun P4 => Option.bind (some (kn1 ++ [(12, 192)])) (fun kn5 => Option.bind (some (b + kn1.length)) (fun q6 => gd (kk b kn5 a0 = 5) (Option.bind (some (upP P4 a0 1 (some q6))) (fun P8 => some (kn5, I, P8)))))))))
abbrev wz_X4_init : List Cond := Cond.code yX4_init cX4_init 1 none :: WA
abbrev rm_X4_init : Room := { frames := 1, cells := 2, slots := 384, locals := 12 }
set_option maxHeartbeats 4000000 in
set_option maxRecDepth 100000 in
theorem c_X4_init (hA : ∀ q, A q ↔ b ≤ q) (kn : List (Nat × Nat)) (I : Nat → Nat → Int32) (P : Nat → Nat → Option Nat) (a0 : Nat) (res : List (Nat × Nat) × (Nat → Nat → Int32) × (Nat → Nat → Option Nat)) (hf : fn_X4_init b kn I P a0 = some res) : Met l yX4_init wz_X4_init rm_X4_init (va_Pc [.ref a0] (mm_Bg D cs A b z w kn I P)) (va_Qv (fun (_ : Unit) => res.1.length = kn.length + 2) (fun _ => mm_Bg D cs A b z w res.1 res.2.1 res.2.2) A) 2 384 A := by
  refine Met.ofW (cc := cX4_init) (maxL := 1) (ret := none) (by decide) rfl ?_
  intro p e s m args below meth c s₁ B hml hv
  obtain ⟨rfl, hBm⟩ := hv
  have hx := B.exec
  have hb := B.bytes
  have hr := B.returns
  have hts := atoms_spec (ws := wz_X4_init) B.pre
  have hWA : ∀ w ∈ WA, w.before ([.ref a0] : List Value).toArray s = true := fun u9 h9 => hts u9 (List.mem_cons_of_mem _ h9)
  have hown : s.vm.findClass RX4 = some m.cls := findClass_of_methodNamed B.named
  have hlocks := B.notSynchronized
  have hin : meth.name = "<init>" := (name_of_methodNamed B.named B.method).1
  have S : CallFix p m c cX4_init 1 s ([.ref a0] : List Value).toArray wz_X4_init RX4 := ⟨hx, hb, hml, hown, hts⟩
  have hK := hBm.1.2.2.2.1
  have hZ := hBm.1.2.2.2.2
  have hO := hBm.2.2.2
  have hbs : b ≤ s.heap.size := by rw [hBm.2.1]; exact Nat.le_add_right _ _
  have hM : mm_G D cs A b kn s.heap I P s.heap [] 0 := ⟨⟨hBm.1.1, hBm.1.2.1, hBm.1.2.2.1, va_S.rf⟩, hBm.2.1, hBm.2.1, hBm.2.2.1⟩
  have hl := lv_entry ([.ref a0]) (n := 1) (Nat.le_of_ble_eq_true rfl)
  rw [lg_entry_eq]
  generalize (lg_sl ([.ref a0]) ++ List.replicate (1 - (lg_sl ([.ref a0])).length) Slot.unset).toArray = ls at hl ⊢
  have hl : lv_has ls 1 [(0, .ref a0)] := hl
  have hin4 : ∀ w ∈ wsX40, w ∈ wz_X4_init := fun w h => List.mem_cons_of_mem _ (wu_X4 w h)
  have lk9 : (Cond.fieldLink RX4 9 RX4 "inks" "[I").before ([.ref a0] : List Value).toArray s = true := hWA _ wa_1_126
  have lk15 : (Cond.fieldLink RX4 15 RX4 "covers" "[I").before ([.ref a0] : List Value).toArray s = true := hWA _ wa_1_130
  generalize hQ : MQ below (va_Qv (fun (_ : Unit) => res.1.length = kn.length + 2) (fun _ => mm_Bg D cs A b z w res.1 res.2.1 res.2.2) A) ([.ref a0] : List Value).toArray s 2 384 A = QQ
  rw [fn_X4_init] at hf
  refine lv_aload_n hx hb dX4_init_0 rfl (lv_at hl 0 rfl) ?_
  refine eg_obj hx hb hown (hWA _ wa_1_125) (hWA _ wa_1_26) (hWA _ wa_1_27) (by rw [hml]; exact hl.1) dX4_init_1 (Nat.le_of_ble_eq_true rfl) (Nat.le_of_ble_eq_true rfl) ?_
  refine lv_aload_n hx hb dX4_init_4 rfl (lv_at hl 0 rfl) ?_
  refine lv_sipush (v := (192 : Int32)) hx hb dX4_init_5 (by decide) ?_
  refine eg_newI S hA hbs hK hM (hWA _ wa_1_108) (by decide) (N' := 192) rfl (Nat.le_of_ble_eq_true rfl) (Nat.le_of_ble_eq_true rfl) (Nat.le_of_ble_eq_true rfl) dX4_init_8 (fun kn1 ekn1 H hM => ?_)
  have hf := nm_x ekn1 hf
  have lkn1 : kn1.length = kn.length + 1 := by rw [ekn1]; exact List.length_append
  refine eg_name (fun q2 eq2 => ?_)
  have hf := nm_x eq2 hf
  refine gd_e hf (fun hg3 hf => ?_)
  refine eg_putP S hK hM (ci := 4) (n := 5) (C := RX4) (T := TX4) hin4 tyX4 tyX4_ok nmX4 rfl hg3 0 (by decide) lk9 rfl rfl hin rfl rfl rfl rfl (Nat.le_of_ble_eq_true rfl) rfl dX4_init_10 (fun P4 eP4 H locs hM => ?_)
  have hf := nm_x eP4 hf
  refine lv_aload_n hx hb dX4_init_13 rfl (lv_at hl 0 rfl) ?_
  refine lv_sipush (v := (192 : Int32)) hx hb dX4_init_14 (by decide) ?_
  refine eg_newI S hA hbs hK hM (hWA _ wa_1_108) (by decide) (N' := 192) rfl (Nat.le_of_ble_eq_true rfl) (Nat.le_of_ble_eq_true rfl) (Nat.le_of_ble_eq_true rfl) dX4_init_17 (fun kn5 ekn5 H hM => ?_)
  have hf := nm_x ekn5 hf
  have lkn5 : kn5.length = kn1.length + 1 := by rw [ekn5]; exact List.length_append
  refine eg_name (fun q6 eq6 => ?_)
  have hf := nm_x eq6 hf
  refine gd_e hf (fun hg7 hf => ?_)
  refine eg_putP S hK hM (ci := 4) (n := 5) (C := RX4) (T := TX4) hin4 tyX4 tyX4_ok nmX4 rfl hg7 1 (by decide) lk15 rfl rfl hin rfl rfl rfl rfl (Nat.le_of_ble_eq_true rfl) rfl dX4_init_19 (fun P8 eP8 H locs hM => ?_)
  have hf := nm_x eP8 hf
  obtain rfl := Option.some.inj hf
  subst hQ
  exact eg_vret S hr hlocks hK hZ hO (by show (kn5).length = kn.length + 2; omega) hM dX4_init_22
noncomputable def fn_X5_init (b : Nat) (kn : List (Nat × Nat)) (I : Nat → Nat → Int32) (P : Nat → Nat → Option Nat) (a0 : Nat) : Option (List (Nat × Nat) × (Nat → Nat → Int32) × (Nat → Nat → Option Nat)) := Option.bind (some (kn ++ [(13, 192)])) (fun kn1 => Option.bind (some (b + kn.length)) (fun q2 => gd (kk b kn1 a0 = 6) (Option.bind (some (upP P a0 0 (some q2))) (fun P4 => some (kn1, I, P4)))))
abbrev wz_X5_init : List Cond := Cond.code yX5_init cX5_init 1 none :: WA
abbrev rm_X5_init : Room := { frames := 1, cells := 1, slots := 192, locals := 12 }
set_option maxHeartbeats 4000000 in
set_option maxRecDepth 100000 in
theorem c_X5_init (hA : ∀ q, A q ↔ b ≤ q) (kn : List (Nat × Nat)) (I : Nat → Nat → Int32) (P : Nat → Nat → Option Nat) (a0 : Nat) (res : List (Nat × Nat) × (Nat → Nat → Int32) × (Nat → Nat → Option Nat)) (hf : fn_X5_init b kn I P a0 = some res) : Met l yX5_init wz_X5_init rm_X5_init (va_Pc [.ref a0] (mm_Bg D cs A b z w kn I P)) (va_Qv (fun (_ : Unit) => res.1.length = kn.length + 1) (fun _ => mm_Bg D cs A b z w res.1 res.2.1 res.2.2) A) 1 192 A := by
  refine Met.ofW (cc := cX5_init) (maxL := 1) (ret := none) (by decide) rfl ?_
  intro p e s m args below meth c s₁ B hml hv
  obtain ⟨rfl, hBm⟩ := hv
  have hx := B.exec
  have hb := B.bytes
  have hr := B.returns
  have hts := atoms_spec (ws := wz_X5_init) B.pre
  have hWA : ∀ w ∈ WA, w.before ([.ref a0] : List Value).toArray s = true := fun u9 h9 => hts u9 (List.mem_cons_of_mem _ h9)
  have hown : s.vm.findClass RX5 = some m.cls := findClass_of_methodNamed B.named
  have hlocks := B.notSynchronized
  have hin : meth.name = "<init>" := (name_of_methodNamed B.named B.method).1
  have S : CallFix p m c cX5_init 1 s ([.ref a0] : List Value).toArray wz_X5_init RX5 := ⟨hx, hb, hml, hown, hts⟩
  have hK := hBm.1.2.2.2.1
  have hZ := hBm.1.2.2.2.2
  have hO := hBm.2.2.2
  have hbs : b ≤ s.heap.size := by rw [hBm.2.1]; exact Nat.le_add_right _ _
  have hM : mm_G D cs A b kn s.heap I P s.heap [] 0 := ⟨⟨hBm.1.1, hBm.1.2.1, hBm.1.2.2.1, va_S.rf⟩, hBm.2.1, hBm.2.1, hBm.2.2.1⟩
  have hl := lv_entry ([.ref a0]) (n := 1) (Nat.le_of_ble_eq_true rfl)
  rw [lg_entry_eq]
  generalize (lg_sl ([.ref a0]) ++ List.replicate (1 - (lg_sl ([.ref a0])).length) Slot.unset).toArray = ls at hl ⊢
  have hl : lv_has ls 1 [(0, .ref a0)] := hl
  have hin5 : ∀ w ∈ wsX50, w ∈ wz_X5_init := fun w h => List.mem_cons_of_mem _ (wu_X5 w h)
  have lk9 : (Cond.fieldLink RX5 9 RX5 "held" "[Z").before ([.ref a0] : List Value).toArray s = true := hWA _ wa_1_42
  generalize hQ : MQ below (va_Qv (fun (_ : Unit) => res.1.length = kn.length + 1) (fun _ => mm_Bg D cs A b z w res.1 res.2.1 res.2.2) A) ([.ref a0] : List Value).toArray s 1 192 A = QQ
  rw [fn_X5_init] at hf
  refine lv_aload_n hx hb dX5_init_0 rfl (lv_at hl 0 rfl) ?_
  refine eg_obj hx hb hown (hWA _ wa_1_41) (hWA _ wa_1_26) (hWA _ wa_1_27) (by rw [hml]; exact hl.1) dX5_init_1 (Nat.le_of_ble_eq_true rfl) (Nat.le_of_ble_eq_true rfl) ?_
  refine lv_aload_n hx hb dX5_init_4 rfl (lv_at hl 0 rfl) ?_
  refine lv_sipush (v := (192 : Int32)) hx hb dX5_init_5 (by decide) ?_
  refine eg_newZ S hA hbs hK hM (hWA _ wa_1_52) (by decide) (N' := 192) rfl (Nat.le_of_ble_eq_true rfl) (Nat.le_of_ble_eq_true rfl) (Nat.le_of_ble_eq_true rfl) dX5_init_8 (fun kn1 ekn1 H hM => ?_)
  have hf := nm_x ekn1 hf
  have lkn1 : kn1.length = kn.length + 1 := by rw [ekn1]; exact List.length_append
  refine eg_name (fun q2 eq2 => ?_)
  have hf := nm_x eq2 hf
  refine gd_e hf (fun hg3 hf => ?_)
  refine eg_putP S hK hM (ci := 5) (n := 2) (C := RX5) (T := TX5) hin5 tyX5 tyX5_ok nmX5 rfl hg3 0 (by decide) lk9 rfl rfl hin rfl rfl rfl rfl (Nat.le_of_ble_eq_true rfl) rfl dX5_init_10 (fun P4 eP4 H locs hM => ?_)
  have hf := nm_x eP4 hf
  obtain rfl := Option.some.inj hf
  subst hQ
  exact eg_vret S hr hlocks hK hZ hO (by show (kn1).length = kn.length + 1; omega) hM dX5_init_13
noncomputable def fn_X7_init (b : Nat) (kn : List (Nat × Nat)) (I : Nat → Nat → Int32) (P : Nat → Nat → Option Nat) (a0 : Nat) : Option (List (Nat × Nat) × (Nat → Nat → Int32) × (Nat → Nat → Option Nat)) := gd (kk b kn a0 = 8) (Option.bind (some (up2 I a0 0 (-1 : Int32))) (fun I2 => Option.bind (some (kn ++ [(12, 40)])) (fun kn3 => Option.bind (some (b + kn.length)) (fun q4 => gd (kk b kn3 a0 = 8) (Option.bind (some (upP P a0 2 (some q4))) (fun P6 => some (kn3, I2, P6)))))))
abbrev wz_X7_init : List Cond := Cond.code yX7_init cX7_init 1 none :: WA
abbrev rm_X7_init : Room := { frames := 1, cells := 1, slots := 40, locals := 12 }
set_option maxHeartbeats 4000000 in
set_option maxRecDepth 100000 in
theorem c_X7_init (hA : ∀ q, A q ↔ b ≤ q) (kn : List (Nat × Nat)) (I : Nat → Nat → Int32) (P : Nat → Nat → Option Nat) (a0 : Nat) (res : List (Nat × Nat) × (Nat → Nat → Int32) × (Nat → Nat → Option Nat)) (hf : fn_X7_init b kn I P a0 = some res) : Met l yX7_init wz_X7_init rm_X7_init (va_Pc [.ref a0] (mm_Bg D cs A b z w kn I P)) (va_Qv (fun (_ : Unit) => res.1.length = kn.length + 1) (fun _ => mm_Bg D cs A b z w res.1 res.2.1 res.2.2) A) 1 40 A := by
  refine Met.ofW (cc := cX7_init) (maxL := 1) (ret := none) (by decide) rfl ?_
  intro p e s m args below meth c s₁ B hml hv
  obtain ⟨rfl, hBm⟩ := hv
  have hx := B.exec
  have hb := B.bytes
  have hr := B.returns
  have hts := atoms_spec (ws := wz_X7_init) B.pre
  have hWA : ∀ w ∈ WA, w.before ([.ref a0] : List Value).toArray s = true := fun u9 h9 => hts u9 (List.mem_cons_of_mem _ h9)
  have hown : s.vm.findClass RX7 = some m.cls := findClass_of_methodNamed B.named
  have hlocks := B.notSynchronized
  have hin : meth.name = "<init>" := (name_of_methodNamed B.named B.method).1
  have S : CallFix p m c cX7_init 1 s ([.ref a0] : List Value).toArray wz_X7_init RX7 := ⟨hx, hb, hml, hown, hts⟩
  have hK := hBm.1.2.2.2.1
  have hZ := hBm.1.2.2.2.2
  have hO := hBm.2.2.2
  have hbs : b ≤ s.heap.size := by rw [hBm.2.1]; exact Nat.le_add_right _ _
  have hM : mm_G D cs A b kn s.heap I P s.heap [] 0 := ⟨⟨hBm.1.1, hBm.1.2.1, hBm.1.2.2.1, va_S.rf⟩, hBm.2.1, hBm.2.1, hBm.2.2.1⟩
  have hl := lv_entry ([.ref a0]) (n := 1) (Nat.le_of_ble_eq_true rfl)
  rw [lg_entry_eq]
  generalize (lg_sl ([.ref a0]) ++ List.replicate (1 - (lg_sl ([.ref a0])).length) Slot.unset).toArray = ls at hl ⊢
  have hl : lv_has ls 1 [(0, .ref a0)] := hl
  have hin7 : ∀ w ∈ wsX70, w ∈ wz_X7_init := fun w h => List.mem_cons_of_mem _ (wu_X7 w h)
  have lk9 : (Cond.fieldLink RX7 9 RX7 "sort" "I").before ([.ref a0] : List Value).toArray s = true := hWA _ wa_1_219
  have lk15 : (Cond.fieldLink RX7 15 RX7 "items" "[I").before ([.ref a0] : List Value).toArray s = true := hWA _ wa_1_223
  generalize hQ : MQ below (va_Qv (fun (_ : Unit) => res.1.length = kn.length + 1) (fun _ => mm_Bg D cs A b z w res.1 res.2.1 res.2.2) A) ([.ref a0] : List Value).toArray s 1 40 A = QQ
  rw [fn_X7_init] at hf
  refine lv_aload_n hx hb dX7_init_0 rfl (lv_at hl 0 rfl) ?_
  refine eg_obj hx hb hown (hWA _ wa_1_218) (hWA _ wa_1_26) (hWA _ wa_1_27) (by rw [hml]; exact hl.1) dX7_init_1 (Nat.le_of_ble_eq_true rfl) (Nat.le_of_ble_eq_true rfl) ?_
  refine lv_aload_n hx hb dX7_init_4 rfl (lv_at hl 0 rfl) ?_
  refine lv_iconst (v := (-1 : Int32)) hx hb dX7_init_5 (by decide) ?_
  refine gd_e hf (fun hg1 hf => ?_)
  refine eg_put S hK hM (ci := 7) (n := 3) (C := RX7) (T := TX7) hin7 tyX7 tyX7_ok nmX7 rfl hg1 0 (by decide) lk9 rfl rfl rfl rfl rfl (Nat.le_of_ble_eq_true rfl) rfl dX7_init_6 (fun I2 eI2 H locs hM => ?_)
  have hf := nm_x eI2 hf
  refine lv_aload_n hx hb dX7_init_9 rfl (lv_at hl 0 rfl) ?_
  refine lv_bipush (v := (40 : Int32)) hx hb dX7_init_10 (by decide) ?_
  refine eg_newI S hA hbs hK hM (hWA _ wa_1_108) (by decide) (N' := 40) rfl (Nat.le_of_ble_eq_true rfl) (Nat.le_of_ble_eq_true rfl) (Nat.le_of_ble_eq_true rfl) dX7_init_12 (fun kn3 ekn3 H hM => ?_)
  have hf := nm_x ekn3 hf
  have lkn3 : kn3.length = kn.length + 1 := by rw [ekn3]; exact List.length_append
  refine eg_name (fun q4 eq4 => ?_)
  have hf := nm_x eq4 hf
  refine gd_e hf (fun hg5 hf => ?_)
  refine eg_putP S hK hM (ci := 7) (n := 3) (C := RX7) (T := TX7) hin7 tyX7 tyX7_ok nmX7 rfl hg5 2 (by decide) lk15 rfl rfl hin rfl rfl rfl rfl (Nat.le_of_ble_eq_true rfl) rfl dX7_init_14 (fun P6 eP6 H locs hM => ?_)
  have hf := nm_x eP6 hf
  obtain rfl := Option.some.inj hf
  subst hQ
  exact eg_vret S hr hlocks hK hZ hO (by show (kn3).length = kn.length + 1; omega) hM dX7_init_17
noncomputable def fn_X8_init (b : Nat) (kn : List (Nat × Nat)) (I : Nat → Nat → Int32) (P : Nat → Nat → Option Nat) (a0 : Nat) : Option (List (Nat × Nat) × (Nat → Nat → Int32) × (Nat → Nat → Option Nat)) := Option.bind (some (kn ++ [(12, 60)])) (fun kn1 => Option.bind (some (b + kn.length)) (fun q2 => gd (kk b kn1 a0 = 9) (Option.bind (some (upP P a0 0 (some q2))) (fun P4 => Option.bind (some (kn1 ++ [(12, 60)])) (fun kn5 => Option.bind (some (b + kn1.length)) (fun q6 => gd (kk b kn5 a0 = 9) (Option.bind (some (upP P4 a0 2 (some q6))) (fun P8 => Option.bind (some (kn5 ++ [(12, 60)])) (fun kn9 => Option.bind (some (b + kn5.length)) (fun q10 => gd (kk b kn9 a0 = 9) (Option.bind (some (upP P8 a0 3 (some q10))) (fun P12 => some (kn9, I, P12)))))))))))))
abbrev wz_X8_init : List Cond := Cond.code yX8_init cX8_init 1 none :: WA
abbrev rm_X8_init : Room := { frames := 1, cells := 3, slots := 180, locals := 12 }
set_option maxHeartbeats 4000000 in
set_option maxRecDepth 100000 in
theorem c_X8_init (hA : ∀ q, A q ↔ b ≤ q) (kn : List (Nat × Nat)) (I : Nat → Nat → Int32) (P : Nat → Nat → Option Nat) (a0 : Nat) (res : List (Nat × Nat) × (Nat → Nat → Int32) × (Nat → Nat → Option Nat)) (hf : fn_X8_init b kn I P a0 = some res) : Met l yX8_init wz_X8_init rm_X8_init (va_Pc [.ref a0] (mm_Bg D cs A b z w kn I P)) (va_Qv (fun (_ : Unit) => res.1.length = kn.length + 3) (fun _ => mm_Bg D cs A b z w res.1 res.2.1 res.2.2) A) 3 180 A := by
  refine Met.ofW (cc := cX8_init) (maxL := 1) (ret := none) (by decide) rfl ?_
  intro p e s m args below meth c s₁ B hml hv
  obtain ⟨rfl, hBm⟩ := hv
  have hx := B.exec
  have hb := B.bytes
  have hr := B.returns
  have hts := atoms_spec (ws := wz_X8_init) B.pre
  have hWA : ∀ w ∈ WA, w.before ([.ref a0] : List Value).toArray s = true := fun u9 h9 => hts u9 (List.mem_cons_of_mem _ h9)
  have hown : s.vm.findClass RX8 = some m.cls := findClass_of_methodNamed B.named
  have hlocks := B.notSynchronized
  have hin : meth.name = "<init>" := (name_of_methodNamed B.named B.method).1
  have S : CallFix p m c cX8_init 1 s ([.ref a0] : List Value).toArray wz_X8_init RX8 := ⟨hx, hb, hml, hown, hts⟩
  have hK := hBm.1.2.2.2.1
  have hZ := hBm.1.2.2.2.2
  have hO := hBm.2.2.2
  have hbs : b ≤ s.heap.size := by rw [hBm.2.1]; exact Nat.le_add_right _ _
  have hM : mm_G D cs A b kn s.heap I P s.heap [] 0 := ⟨⟨hBm.1.1, hBm.1.2.1, hBm.1.2.2.1, va_S.rf⟩, hBm.2.1, hBm.2.1, hBm.2.2.1⟩
  have hl := lv_entry ([.ref a0]) (n := 1) (Nat.le_of_ble_eq_true rfl)
  rw [lg_entry_eq]
  generalize (lg_sl ([.ref a0]) ++ List.replicate (1 - (lg_sl ([.ref a0])).length) Slot.unset).toArray = ls at hl ⊢
  have hl : lv_has ls 1 [(0, .ref a0)] := hl
  have hin8 : ∀ w ∈ wsX80, w ∈ wz_X8_init := fun w h => List.mem_cons_of_mem _ (wu_X8 w h)
  have lk9 : (Cond.fieldLink RX8 9 RX8 "bytes" "[I").before ([.ref a0] : List Value).toArray s = true := hWA _ wa_1_182
  have lk15 : (Cond.fieldLink RX8 15 RX8 "xs" "[I").before ([.ref a0] : List Value).toArray s = true := hWA _ wa_1_185
  have lk18 : (Cond.fieldLink RX8 18 RX8 "ys" "[I").before ([.ref a0] : List Value).toArray s = true := hWA _ wa_1_187
  generalize hQ : MQ below (va_Qv (fun (_ : Unit) => res.1.length = kn.length + 3) (fun _ => mm_Bg D cs A b z w res.1 res.2.1 res.2.2) A) ([.ref a0] : List Value).toArray s 3 180 A = QQ
  rw [fn_X8_init] at hf
  refine lv_aload_n hx hb dX8_init_0 rfl (lv_at hl 0 rfl) ?_
  refine eg_obj hx hb hown (hWA _ wa_1_181) (hWA _ wa_1_26) (hWA _ wa_1_27) (by rw [hml]; exact hl.1) dX8_init_1 (Nat.le_of_ble_eq_true rfl) (Nat.le_of_ble_eq_true rfl) ?_
  refine lv_aload_n hx hb dX8_init_4 rfl (lv_at hl 0 rfl) ?_
  refine lv_bipush (v := (60 : Int32)) hx hb dX8_init_5 (by decide) ?_
  refine eg_newI S hA hbs hK hM (hWA _ wa_1_108) (by decide) (N' := 60) rfl (Nat.le_of_ble_eq_true rfl) (Nat.le_of_ble_eq_true rfl) (Nat.le_of_ble_eq_true rfl) dX8_init_7 (fun kn1 ekn1 H hM => ?_)
  have hf := nm_x ekn1 hf
  have lkn1 : kn1.length = kn.length + 1 := by rw [ekn1]; exact List.length_append
  refine eg_name (fun q2 eq2 => ?_)
  have hf := nm_x eq2 hf
  refine gd_e hf (fun hg3 hf => ?_)
  refine eg_putP S hK hM (ci := 8) (n := 8) (C := RX8) (T := TX8) hin8 tyX8 tyX8_ok nmX8 rfl hg3 0 (by decide) lk9 rfl rfl hin rfl rfl rfl rfl (Nat.le_of_ble_eq_true rfl) rfl dX8_init_9 (fun P4 eP4 H locs hM => ?_)
  have hf := nm_x eP4 hf
  refine lv_aload_n hx hb dX8_init_12 rfl (lv_at hl 0 rfl) ?_
  refine lv_bipush (v := (60 : Int32)) hx hb dX8_init_13 (by decide) ?_
  refine eg_newI S hA hbs hK hM (hWA _ wa_1_108) (by decide) (N' := 60) rfl (Nat.le_of_ble_eq_true rfl) (Nat.le_of_ble_eq_true rfl) (Nat.le_of_ble_eq_true rfl) dX8_init_15 (fun kn5 ekn5 H hM => ?_)
  have hf := nm_x ekn5 hf
  have lkn5 : kn5.length = kn1.length + 1 := by rw [ekn5]; exact List.length_append
  refine eg_name (fun q6 eq6 => ?_)
  have hf := nm_x eq6 hf
  refine gd_e hf (fun hg7 hf => ?_)
  refine eg_putP S hK hM (ci := 8) (n := 8) (C := RX8) (T := TX8) hin8 tyX8 tyX8_ok nmX8 rfl hg7 2 (by decide) lk15 rfl rfl hin rfl rfl rfl rfl (Nat.le_of_ble_eq_true rfl) rfl dX8_init_17 (fun P8 eP8 H locs hM => ?_)
  have hf := nm_x eP8 hf
  refine lv_aload_n hx hb dX8_init_20 rfl (lv_at hl 0 rfl) ?_
  refine lv_bipush (v := (60 : Int32)) hx hb dX8_init_21 (by decide) ?_
  refine eg_newI S hA hbs hK hM (hWA _ wa_1_108) (by decide) (N' := 60) rfl (Nat.le_of_ble_eq_true rfl) (Nat.le_of_ble_eq_true rfl) (Nat.le_of_ble_eq_true rfl) dX8_init_23 (fun kn9 ekn9 H hM => ?_)
  have hf := nm_x ekn9 hf
  have lkn9 : kn9.length = kn5.length + 1 := by rw [ekn9]; exact List.length_append
  refine eg_name (fun q10 eq10 => ?_)
  have hf := nm_x eq10 hf
  refine gd_e hf (fun hg11 hf => ?_)
  refine eg_putP S hK hM (ci := 8) (n := 8) (C := RX8) (T := TX8) hin8 tyX8 tyX8_ok nmX8 rfl hg11 3 (by decide) lk18 rfl rfl hin rfl rfl rfl rfl (Nat.le_of_ble_eq_true rfl) rfl dX8_init_25 (fun P12 eP12 H locs hM => ?_)
  have hf := nm_x eP12 hf
  obtain rfl := Option.some.inj hf
  subst hQ
  exact eg_vret S hr hlocks hK hZ hO (by show (kn9).length = kn.length + 3; omega) hM dX8_init_28
noncomputable def fn_X6_init (b : Nat) (kn : List (Nat × Nat)) (I : Nat → Nat → Int32) (P : Nat → Nat → Option Nat) (a0 : Nat) : Option (List (Nat × Nat) × (Nat → Nat → Int32) × (Nat → Nat → Option Nat)) := Option.bind (some (kn ++ [(15, 4)])) (fun kn1 => Option.bind (some (b + kn.length)) (fun q2 => gd (kk b kn1 a0 = 7) (Option.bind (some (upP P a0 0 (some q2))) (fun P4 => Option.bind (some (up2 I a0 2 (255 : Int32))) (fun I5 => Option.bind (some (kn1 ++ [(6, 0)])) (fun kn6 => Option.bind (some (b + kn1.length)) (fun q7 => Option.bind (fn_X5_init b kn6 I5 P4 q7) (fun (r8 : List (Nat × Nat) × (Nat → Nat → Int32) × (Nat → Nat → Option Nat)) => gd (kk b r8.1 a0 = 7) (Option.bind (some (upP r8.2.2 a0 3 (some q7))) (fun P10 => Option.bind (some (r8.1 ++ [(3, 0)])) (fun kn11 => Option.bind (some (b + r8.1.length)) (fun q12 => Option.bind (fn_X2_init b kn11 r8.2.1 P10 q12) (fun (r13 : List (Nat × Nat) × (Nat → Nat → Int32) × (Nat → Nat → Option Nat)) => gd (kk b r13.1 a0 = 7) (Option.bind (some (upP r13.2.2 a0 4 (some q12))) (fun P15 => Option.bind (some (r13.1 ++ [(2, 0)])) (fun kn16 => Option.bind (some (b + r13.1.length)) (fun q17 => Option.bind (fn_X1_init b kn16 r13.2.1 P15 q17) (fun (r18 : List (Nat × Nat) × (Nat → Nat → Int32) × (Nat → Nat → Option Nat)) => gd (kk b r18.1 a0 = 7) (Option.bind (some (upP r18.2.2 a0 5 (some q17))) (fun P20 => Option.bind (P20 a0 0) (fun q21 => Option.bind (some (r18.1 ++ [(5, 0)])) (fun kn22 => Option.bind (some (b + r18.1.length)) (fun q23 => Option.bind (fn_X4_init b kn22 r18.2.1 P20 q23) (fun (r24 : List (Nat × Nat) × (Nat → Nat → Int32) × (Nat → Nat → Option Nat)) => gd (kk b r24.1 q21 = 15 ∧ vp_in (0 : Int32) (nn b r24.1 q21)) (gd (kk b r24.1 q23 = 5) (Option.bind (some (upP r24.2.2 q21 0 (some q23))) (fun P27 => gd (kk b r24.1 a0 = 7) (Option.bind (P27 a0 0) (fun q29 => Option.bind (some (r24.1 ++ [(5, 0)])) (fun kn30 => Option.bind (some (b + r24.1.length)) (fun q31 => Option.bind (fn_X4_init b kn30 r24.2.1 P27 q31) (fun (r32 : List (Nat × Nat) × (Nat → Nat → Int32) × (Nat → Nat → Option Nat)) => gd (kk b r32.1 q29 = 15 ∧ vp_in (1 : Int32) (nn b r32.1 q29)) (gd (kk b r32.1 q31 = 5) (Option.bind (some (upP r32.2.2 q29 1 (some q31))) (fun P35 => gd (kk b r32.1 a0 = 7) (Option.bind (P35 a0 0) (fun q37 => Option.bind (some (r32.1 ++ [(5, 0)])) (fun kn38 => Option.bind (some (b + r32.1.length)) (fun q39 => Option.bind (fn_X4_init b kn38 r32.2.1 P35 q39) (fun (r40 : List (Nat × Nat) × (Nat → Nat → Int32) × (Nat → Nat → Option Nat)) => gd (kk b r40.1 q37 = 15 ∧ vp_in (2 : Int32) (nn b r40.1 q37)) (gd (kk b r40.1 q39 = 5) (Option.bind (some (upP r40.2.2 q37 2 (some q39))) (fun P43 => gd (kk b r40.1 a0 = 7) (Option.bind (P43 a0 0) (fun q45 => Option.bind (some (r40.1 ++ [(5, 0)])) (fun kn46 => Option.bind (some (b + r40.1.length)) (fun q47 => Option.bind (fn_X4_init b kn46 r40.2.1 P43 q47) (fun (r48 : List (Nat × Nat) × (Nat → Nat → Int32) × (Nat → Nat → Option Nat)) => gd (kk b r48.1 q45 = 15 ∧ vp_in (3 : Int32) (nn b r48.1 q45)) (gd (kk b r48.1 q47 = 5) (Option.bind (some (upP r48.2.2 q45 3 (some q47))) (fun P51 => some (r48.1, r48.2.1, P51))))))))))))))))))))))))))))))))))))))))))))))))))))
abbrev wz_X6_init : List Cond := Cond.code yX6_init cX6_init 2 none :: WA
abbrev rm_X6_init : Room := { frames := 3, cells := 51, slots := 6040, locals := 53 }
set_option maxHeartbeats 4000000 in
set_option maxRecDepth 100000 in
theorem c_X6_init (hA : ∀ q, A q ↔ b ≤ q) (kn : List (Nat × Nat)) (I : Nat → Nat → Int32) (P : Nat → Nat → Option Nat) (a0 : Nat) (res : List (Nat × Nat) × (Nat → Nat → Int32) × (Nat → Nat → Option Nat)) (hf : fn_X6_init b kn I P a0 = some res) : Met l yX6_init wz_X6_init rm_X6_init (va_Pc [.ref a0] (mm_Bg D cs A b z w kn I P)) (va_Qv (fun (_ : Unit) => res.1.length = kn.length + 51) (fun _ => mm_Bg D cs A b z w res.1 res.2.1 res.2.2) A) 51 6040 A := by
  refine Met.ofW (cc := cX6_init) (maxL := 2) (ret := none) (by decide) rfl ?_
  intro p e s m args below meth c s₁ B hml hv
  obtain ⟨rfl, hBm⟩ := hv
  have hx := B.exec
  have hb := B.bytes
  have hr := B.returns
  have hts := atoms_spec (ws := wz_X6_init) B.pre
  have hWA : ∀ w ∈ WA, w.before ([.ref a0] : List Value).toArray s = true := fun u9 h9 => hts u9 (List.mem_cons_of_mem _ h9)
  have hown : s.vm.findClass RX6 = some m.cls := findClass_of_methodNamed B.named
  have hlocks := B.notSynchronized
  have hin : meth.name = "<init>" := (name_of_methodNamed B.named B.method).1
  have S : CallFix p m c cX6_init 2 s ([.ref a0] : List Value).toArray wz_X6_init RX6 := ⟨hx, hb, hml, hown, hts⟩
  have hK := hBm.1.2.2.2.1
  have hZ := hBm.1.2.2.2.2
  have hO := hBm.2.2.2
  have hbs : b ≤ s.heap.size := by rw [hBm.2.1]; exact Nat.le_add_right _ _
  have hM : mm_G D cs A b kn s.heap I P s.heap [] 0 := ⟨⟨hBm.1.1, hBm.1.2.1, hBm.1.2.2.1, va_S.rf⟩, hBm.2.1, hBm.2.1, hBm.2.2.1⟩
  have hl := lv_entry ([.ref a0]) (n := 2) (Nat.le_of_ble_eq_true rfl)
  rw [lg_entry_eq]
  generalize (lg_sl ([.ref a0]) ++ List.replicate (2 - (lg_sl ([.ref a0])).length) Slot.unset).toArray = ls at hl ⊢
  have hl : lv_has ls 2 [(0, .ref a0)] := hl
  have hin6 : ∀ w ∈ wsX60, w ∈ wz_X6_init := fun w h => List.mem_cons_of_mem _ (wu_X6 w h)
  have hin5 : ∀ w ∈ wsX50, w ∈ wz_X6_init := fun w h => List.mem_cons_of_mem _ (wu_X5 w h)
  have hin2 : ∀ w ∈ wsX20, w ∈ wz_X6_init := fun w h => List.mem_cons_of_mem _ (wu_X2 w h)
  have hin1 : ∀ w ∈ wsX10, w ∈ wz_X6_init := fun w h => List.mem_cons_of_mem _ (wu_X1 w h)
  have hin4 : ∀ w ∈ wsX40, w ∈ wz_X6_init := fun w h => List.mem_cons_of_mem _ (wu_X4 w h)
  have lk11 : (Cond.fieldLink RX6 11 RX6 "layers" "[LRasterPainter$Layer;").before ([.ref a0] : List Value).toArray s = true := hWA _ wa_1_151
  have lk17 : (Cond.fieldLink RX6 17 RX6 "paper" "I").before ([.ref a0] : List Value).toArray s = true := hWA _ wa_1_155
  have lk24 : (Cond.fieldLink RX6 24 RX6 "mask" "LRasterPainter$Mask;").before ([.ref a0] : List Value).toArray s = true := hWA _ wa_1_157
  have lk31 : (Cond.fieldLink RX6 31 RX6 "brush" "LRasterPainter$Brush;").before ([.ref a0] : List Value).toArray s = true := hWA _ wa_1_159
  have lk38 : (Cond.fieldLink RX6 38 RX6 "acts" "LRasterPainter$Acts;").before ([.ref a0] : List Value).toArray s = true := hWA _ wa_1_161
  generalize hQ : MQ below (va_Qv (fun (_ : Unit) => res.1.length = kn.length + 51) (fun _ => mm_Bg D cs A b z w res.1 res.2.1 res.2.2) A) ([.ref a0] : List Value).toArray s 51 6040 A = QQ
  rw [fn_X6_init] at hf
  refine lv_aload_n hx hb dX6_init_0 rfl (lv_at hl 0 rfl) ?_
  refine eg_obj hx hb hown (hWA _ wa_1_33) (hWA _ wa_1_26) (hWA _ wa_1_27) (by rw [hml]; exact hl.1) dX6_init_1 (Nat.le_of_ble_eq_true rfl) (Nat.le_of_ble_eq_true rfl) ?_
  refine lv_aload_n hx hb dX6_init_4 rfl (lv_at hl 0 rfl) ?_
  refine lv_iconst (v := (4 : Int32)) hx hb dX6_init_5 (by decide) ?_
  refine eg_newq S hA hbs hK hM (C := "RasterPainter$Layer") (k0 := 15) (t0 := 3) (cB := cs.2.2.2.1) (hWA _ wa_1_34) hO.1.2.1 rfl (fun _ => rfl) (by decide) (N' := 4) rfl (Nat.le_of_ble_eq_true rfl) (Nat.le_of_ble_eq_true rfl) (Nat.le_of_ble_eq_true rfl) dX6_init_6 (fun kn1 ekn1 H hM => ?_)
  have hf := nm_x ekn1 hf
  have lkn1 : kn1.length = kn.length + 1 := by rw [ekn1]; exact List.length_append
  refine eg_name (fun q2 eq2 => ?_)
  have hf := nm_x eq2 hf
  refine gd_e hf (fun hg3 hf => ?_)
  refine eg_putP S hK hM (ci := 6) (n := 6) (C := RX6) (T := TX6) hin6 tyX6 tyX6_ok nmX6 rfl hg3 0 (by decide) lk11 rfl rfl hin rfl rfl rfl rfl (Nat.le_of_ble_eq_true rfl) rfl dX6_init_9 (fun P4 eP4 H locs hM => ?_)
  have hf := nm_x eP4 hf
  refine lv_aload_n hx hb dX6_init_12 rfl (lv_at hl 0 rfl) ?_
  refine lv_sipush (v := (255 : Int32)) hx hb dX6_init_13 (by decide) ?_
  refine eg_put S hK hM (ci := 6) (n := 6) (C := RX6) (T := TX6) hin6 tyX6 tyX6_ok nmX6 rfl hg3 2 (by decide) lk17 rfl rfl rfl rfl rfl (Nat.le_of_ble_eq_true rfl) rfl dX6_init_16 (fun I5 eI5 H locs hM => ?_)
  have hf := nm_x eI5 hf
  refine lv_aload_n hx hb dX6_init_19 rfl (lv_at hl 0 rfl) ?_
  refine eg_new S hA hbs hK hM (ci := 5) (n := 2) (C := RX5) (T := TX5) (fs := [.null, .int 0]) hin5 tyX5 tyX5_ok (hWA _ wa_1_36) (hWA _ wa_1_37) (hWA _ wa_1_3) rfl rfl (fun j hj => by rcases (show j = 0 ∨ j = 1 by omega) with rfl | rfl <;> rfl) (Nat.le_of_ble_eq_true rfl) (Nat.le_of_ble_eq_true rfl) dX6_init_20 (fun kn6 ekn6 H hM => ?_)
  have hf := nm_x ekn6 hf
  have lkn6 : kn6.length = kn1.length + 1 := by rw [ekn6]; exact List.length_append
  refine eg_name (fun q7 eq7 => ?_)
  have hf := nm_x eq7 hf
  refine lv_dup hx hb dX6_init_23 rfl ?_
  refine bd_e hf (fun r8 er8 hf => ?_)
  refine eg_callv (va_runIN (As := []) (rest := [.ref q7, .ref a0]) S (c_X5_init (l := l) hA kn6 I5 P4 q7 r8 er8) ⟨va_cnB 0 hts (gi_n wa_1_40) rfl rfl rfl hO.2.1.1 (hWA _ wa_1_3) (by decide +kernel) ⟨Nat.le_of_ble_eq_true rfl, Nat.le_of_ble_eq_true rfl⟩, rfl, hWA _ wa_1_39⟩ ⟨mm_Bg_blind, fun U hU hW => ⟨rfl, mm_Bg_of hK hZ hO hM hU hW⟩⟩ rfl rfl hl.1 rfl (lv_room (Nat.le_of_ble_eq_true rfl)) dX6_init_24 ⟨Nat.le_of_ble_eq_true rfl, Nat.le_of_ble_eq_true rfl⟩) hM (fun H locs lr8 hM => ?_)
  refine gd_e hf (fun hg9 hf => ?_)
  refine eg_putP S hK hM (ci := 6) (n := 6) (C := RX6) (T := TX6) hin6 tyX6 tyX6_ok nmX6 rfl hg9 3 (by decide) lk24 rfl rfl hin rfl rfl rfl rfl (Nat.le_of_ble_eq_true rfl) rfl dX6_init_27 (fun P10 eP10 H locs hM => ?_)
  have hf := nm_x eP10 hf
  refine lv_aload_n hx hb dX6_init_30 rfl (lv_at hl 0 rfl) ?_
  refine eg_new S hA hbs hK hM (ci := 2) (n := 4) (C := RX2) (T := TX2) (fs := [.int 0, .int 0, .int 0, .int 0]) hin2 tyX2 tyX2_ok (hWA _ wa_1_53) (hWA _ wa_1_54) (hWA _ wa_1_4) rfl rfl (fun j hj => by rcases (show j = 0 ∨ j = 1 ∨ j = 2 ∨ j = 3 by omega) with rfl | rfl | rfl | rfl <;> rfl) (Nat.le_of_ble_eq_true rfl) (Nat.le_of_ble_eq_true rfl) dX6_init_31 (fun kn11 ekn11 H hM => ?_)
  have hf := nm_x ekn11 hf
  have lkn11 : kn11.length = r8.1.length + 1 := by rw [ekn11]; exact List.length_append
  refine eg_name (fun q12 eq12 => ?_)
  have hf := nm_x eq12 hf
  refine lv_dup hx hb dX6_init_34 rfl ?_
  refine bd_e hf (fun r13 er13 hf => ?_)
  refine eg_callv (va_runIN (As := []) (rest := [.ref q12, .ref a0]) S (c_X2_init (l := l) hA kn11 r8.2.1 P10 q12 r13 er13) ⟨va_cnB 0 hts (gi_n wa_1_57) rfl rfl rfl hO.2.1.2.1 (hWA _ wa_1_4) (by decide +kernel) ⟨Nat.le_of_ble_eq_true rfl, Nat.le_of_ble_eq_true rfl⟩, rfl, hWA _ wa_1_56⟩ ⟨mm_Bg_blind, fun U hU hW => ⟨rfl, mm_Bg_of hK hZ hO hM hU hW⟩⟩ rfl rfl hl.1 rfl (lv_room (Nat.le_of_ble_eq_true rfl)) dX6_init_35 ⟨Nat.le_of_ble_eq_true rfl, Nat.le_of_ble_eq_true rfl⟩) hM (fun H locs lr13 hM => ?_)
  refine gd_e hf (fun hg14 hf => ?_)
  refine eg_putP S hK hM (ci := 6) (n := 6) (C := RX6) (T := TX6) hin6 tyX6 tyX6_ok nmX6 rfl hg14 4 (by decide) lk31 rfl rfl hin rfl rfl rfl rfl (Nat.le_of_ble_eq_true rfl) rfl dX6_init_38 (fun P15 eP15 H locs hM => ?_)
  have hf := nm_x eP15 hf
  refine lv_aload_n hx hb dX6_init_41 rfl (lv_at hl 0 rfl) ?_
  refine eg_new S hA hbs hK hM (ci := 1) (n := 3) (C := RX1) (T := TX1) (fs := [.null, .int 0, .int 0]) hin1 tyX1 tyX1_ok (hWA _ wa_1_80) (hWA _ wa_1_81) (hWA _ wa_1_5) rfl rfl (fun j hj => by rcases (show j = 0 ∨ j = 1 ∨ j = 2 by omega) with rfl | rfl | rfl <;> rfl) (Nat.le_of_ble_eq_true rfl) (Nat.le_of_ble_eq_true rfl) dX6_init_42 (fun kn16 ekn16 H hM => ?_)
  have hf := nm_x ekn16 hf
  have lkn16 : kn16.length = r13.1.length + 1 := by rw [ekn16]; exact List.length_append
  refine eg_name (fun q17 eq17 => ?_)
  have hf := nm_x eq17 hf
  refine lv_dup hx hb dX6_init_45 rfl ?_
  refine bd_e hf (fun r18 er18 hf => ?_)
  refine eg_callv (va_runI (As := []) (rest := [.ref q17, .ref a0]) S (c_X1_init (l := l) hA kn16 r13.2.1 P15 q17 r18 er18) (cwI 0 hts (gi_n wa_1_84) rfl rfl rfl (hWA _ wa_1_5) (hWA _ wa_1_82) (hWA _ wa_1_83) rfl (by decide +kernel) ⟨Nat.le_of_ble_eq_true rfl, Nat.le_of_ble_eq_true rfl⟩) ⟨mm_Bg_blind, fun U hU hW => ⟨rfl, mm_Bg_of hK hZ hO hM hU hW⟩⟩ rfl rfl hl.1 rfl (lv_room (Nat.le_of_ble_eq_true rfl)) dX6_init_46 ⟨Nat.le_of_ble_eq_true rfl, Nat.le_of_ble_eq_true rfl⟩) hM (fun H locs lr18 hM => ?_)
  refine gd_e hf (fun hg19 hf => ?_)
  refine eg_putP S hK hM (ci := 6) (n := 6) (C := RX6) (T := TX6) hin6 tyX6 tyX6_ok nmX6 rfl hg19 5 (by decide) lk38 rfl rfl hin rfl rfl rfl rfl (Nat.le_of_ble_eq_true rfl) rfl dX6_init_49 (fun P20 eP20 H locs hM => ?_)
  have hf := nm_x eP20 hf
  refine lv_iconst (v := (0 : Int32)) hx hb dX6_init_52 (by decide) ?_
  refine lv_istore_n (lv' := [(1, .int (0 : Int32)), (0, .ref a0)]) hx hb dX6_init_53 rfl hl (by decide) rfl (fun ls hl => ?_)
  refine lv_iload_n hx hb dX6_init_54 rfl (lv_at hl 0 rfl) ?_
  refine lv_iconst (v := (4 : Int32)) hx hb dX6_init_55 (by decide) ?_
  refine lv_icmp_ge (tgt := 78) hx hb dX6_init_56 (by decide) (fun h => absurd h (by decide)) (fun _ => ?_)
  refine lv_aload_n hx hb dX6_init_59 rfl (lv_at hl 1 rfl) ?_
  refine bd_e hf (fun q21 eq21 hf => ?_)
  refine eg_get (v := q21) S hK hM (ci := 6) (n := 6) (C := RX6) (T := TX6) hin6 rfl hg19 0 (by decide) lk11 rfl rfl eq21 rfl dX6_init_60 ?_
  refine lv_iload_n hx hb dX6_init_63 rfl (lv_at hl 0 rfl) ?_
  refine eg_new S hA hbs hK hM (ci := 4) (n := 5) (C := RX4) (T := TX4) (fs := [.null, .null, .int 0, .int 0, .int 0]) hin4 tyX4 tyX4_ok (hWA _ wa_1_34) (hWA _ wa_1_121) (hWA _ wa_1_7) rfl rfl (fun j hj => by rcases (show j = 0 ∨ j = 1 ∨ j = 2 ∨ j = 3 ∨ j = 4 by omega) with rfl | rfl | rfl | rfl | rfl <;> rfl) (Nat.le_of_ble_eq_true rfl) (Nat.le_of_ble_eq_true rfl) dX6_init_64 (fun kn22 ekn22 H hM => ?_)
  have hf := nm_x ekn22 hf
  have lkn22 : kn22.length = r18.1.length + 1 := by rw [ekn22]; exact List.length_append
  refine eg_name (fun q23 eq23 => ?_)
  have hf := nm_x eq23 hf
  refine lv_dup hx hb dX6_init_67 rfl ?_
  refine bd_e hf (fun r24 er24 hf => ?_)
  refine eg_callv (va_runIN (As := []) (rest := [.ref q23, .int (0 : Int32), .ref q21]) S (c_X4_init (l := l) hA kn22 r18.2.1 P20 q23 r24 er24) ⟨va_cnB 0 hts (gi_n wa_1_124) rfl rfl rfl hO.2.1.2.2.2 (hWA _ wa_1_7) (by decide +kernel) ⟨Nat.le_of_ble_eq_true rfl, Nat.le_of_ble_eq_true rfl⟩, rfl, hWA _ wa_1_123⟩ ⟨mm_Bg_blind, fun U hU hW => ⟨rfl, mm_Bg_of hK hZ hO hM hU hW⟩⟩ rfl rfl hl.1 rfl (lv_room (Nat.le_of_ble_eq_true rfl)) dX6_init_68 ⟨Nat.le_of_ble_eq_true rfl, Nat.le_of_ble_eq_true rfl⟩) hM (fun H locs lr24 hM => ?_)
  refine gd_e hf (fun hg25 hf => ?_)
  refine gd_e hf (fun hg26 hf => ?_)
  refine eg_aast15 S hK hM hg25 (j := 0) rfl hg26 dX6_init_71 (fun P27 eP27 H locs hM => ?_)
  have hf := nm_x eP27 hf
  refine lv_iinc (v := (1 : Int32)) (lv' := [(1, .int (1 : Int32)), (0, .ref a0)]) hx hb dX6_init_72 hl (k := 0) rfl (by decide) (by decide) rfl (fun ls hl => ?_)
  refine lv_goto (tgt := 54) hx hb dX6_init_75 (by decide) ?_
  refine lv_iload_n hx hb dX6_init_54 rfl (lv_at hl 0 rfl) ?_
  refine lv_iconst (v := (4 : Int32)) hx hb dX6_init_55 (by decide) ?_
  refine lv_icmp_ge (tgt := 78) hx hb dX6_init_56 (by decide) (fun h => absurd h (by decide)) (fun _ => ?_)
  refine lv_aload_n hx hb dX6_init_59 rfl (lv_at hl 1 rfl) ?_
  refine gd_e hf (fun hg28 hf => ?_)
  refine bd_e hf (fun q29 eq29 hf => ?_)
  refine eg_get (v := q29) S hK hM (ci := 6) (n := 6) (C := RX6) (T := TX6) hin6 rfl hg28 0 (by decide) lk11 rfl rfl eq29 rfl dX6_init_60 ?_
  refine lv_iload_n hx hb dX6_init_63 rfl (lv_at hl 0 rfl) ?_
  refine eg_new S hA hbs hK hM (ci := 4) (n := 5) (C := RX4) (T := TX4) (fs := [.null, .null, .int 0, .int 0, .int 0]) hin4 tyX4 tyX4_ok (hWA _ wa_1_34) (hWA _ wa_1_121) (hWA _ wa_1_7) rfl rfl (fun j hj => by rcases (show j = 0 ∨ j = 1 ∨ j = 2 ∨ j = 3 ∨ j = 4 by omega) with rfl | rfl | rfl | rfl | rfl <;> rfl) (Nat.le_of_ble_eq_true rfl) (Nat.le_of_ble_eq_true rfl) dX6_init_64 (fun kn30 ekn30 H hM => ?_)
  have hf := nm_x ekn30 hf
  have lkn30 : kn30.length = r24.1.length + 1 := by rw [ekn30]; exact List.length_append
  refine eg_name (fun q31 eq31 => ?_)
  have hf := nm_x eq31 hf
  refine lv_dup hx hb dX6_init_67 rfl ?_
  refine bd_e hf (fun r32 er32 hf => ?_)
  refine eg_callv (va_runIN (As := []) (rest := [.ref q31, .int (1 : Int32), .ref q29]) S (c_X4_init (l := l) hA kn30 r24.2.1 P27 q31 r32 er32) ⟨va_cnB 0 hts (gi_n wa_1_124) rfl rfl rfl hO.2.1.2.2.2 (hWA _ wa_1_7) (by decide +kernel) ⟨Nat.le_of_ble_eq_true rfl, Nat.le_of_ble_eq_true rfl⟩, rfl, hWA _ wa_1_123⟩ ⟨mm_Bg_blind, fun U hU hW => ⟨rfl, mm_Bg_of hK hZ hO hM hU hW⟩⟩ rfl rfl hl.1 rfl (lv_room (Nat.le_of_ble_eq_true rfl)) dX6_init_68 ⟨Nat.le_of_ble_eq_true rfl, Nat.le_of_ble_eq_true rfl⟩) hM (fun H locs lr32 hM => ?_)
  refine gd_e hf (fun hg33 hf => ?_)
  refine gd_e hf (fun hg34 hf => ?_)
  refine eg_aast15 S hK hM hg33 (j := 1) rfl hg34 dX6_init_71 (fun P35 eP35 H locs hM => ?_)
  have hf := nm_x eP35 hf
  refine lv_iinc (v := (2 : Int32)) (lv' := [(1, .int (2 : Int32)), (0, .ref a0)]) hx hb dX6_init_72 hl (k := 0) rfl (by decide) (by decide) rfl (fun ls hl => ?_)
  refine lv_goto (tgt := 54) hx hb dX6_init_75 (by decide) ?_
  refine lv_iload_n hx hb dX6_init_54 rfl (lv_at hl 0 rfl) ?_
  refine lv_iconst (v := (4 : Int32)) hx hb dX6_init_55 (by decide) ?_
  refine lv_icmp_ge (tgt := 78) hx hb dX6_init_56 (by decide) (fun h => absurd h (by decide)) (fun _ => ?_)
  refine lv_aload_n hx hb dX6_init_59 rfl (lv_at hl 1 rfl) ?_
  refine gd_e hf (fun hg36 hf => ?_)
  refine bd_e hf (fun q37 eq37 hf => ?_)
  refine eg_get (v := q37) S hK hM (ci := 6) (n := 6) (C := RX6) (T := TX6) hin6 rfl hg36 0 (by decide) lk11 rfl rfl eq37 rfl dX6_init_60 ?_
  refine lv_iload_n hx hb dX6_init_63 rfl (lv_at hl 0 rfl) ?_
  refine eg_new S hA hbs hK hM (ci := 4) (n := 5) (C := RX4) (T := TX4) (fs := [.null, .null, .int 0, .int 0, .int 0]) hin4 tyX4 tyX4_ok (hWA _ wa_1_34) (hWA _ wa_1_121) (hWA _ wa_1_7) rfl rfl (fun j hj => by rcases (show j = 0 ∨ j = 1 ∨ j = 2 ∨ j = 3 ∨ j = 4 by omega) with rfl | rfl | rfl | rfl | rfl <;> rfl) (Nat.le_of_ble_eq_true rfl) (Nat.le_of_ble_eq_true rfl) dX6_init_64 (fun kn38 ekn38 H hM => ?_)
  have hf := nm_x ekn38 hf
  have lkn38 : kn38.length = r32.1.length + 1 := by rw [ekn38]; exact List.length_append
  refine eg_name (fun q39 eq39 => ?_)
  have hf := nm_x eq39 hf
  refine lv_dup hx hb dX6_init_67 rfl ?_
  refine bd_e hf (fun r40 er40 hf => ?_)
  refine eg_callv (va_runIN (As := []) (rest := [.ref q39, .int (2 : Int32), .ref q37]) S (c_X4_init (l := l) hA kn38 r32.2.1 P35 q39 r40 er40) ⟨va_cnB 0 hts (gi_n wa_1_124) rfl rfl rfl hO.2.1.2.2.2 (hWA _ wa_1_7) (by decide +kernel) ⟨Nat.le_of_ble_eq_true rfl, Nat.le_of_ble_eq_true rfl⟩, rfl, hWA _ wa_1_123⟩ ⟨mm_Bg_blind, fun U hU hW => ⟨rfl, mm_Bg_of hK hZ hO hM hU hW⟩⟩ rfl rfl hl.1 rfl (lv_room (Nat.le_of_ble_eq_true rfl)) dX6_init_68 ⟨Nat.le_of_ble_eq_true rfl, Nat.le_of_ble_eq_true rfl⟩) hM (fun H locs lr40 hM => ?_)
  refine gd_e hf (fun hg41 hf => ?_)
  refine gd_e hf (fun hg42 hf => ?_)
  refine eg_aast15 S hK hM hg41 (j := 2) rfl hg42 dX6_init_71 (fun P43 eP43 H locs hM => ?_)
  have hf := nm_x eP43 hf
  refine lv_iinc (v := (3 : Int32)) (lv' := [(1, .int (3 : Int32)), (0, .ref a0)]) hx hb dX6_init_72 hl (k := 0) rfl (by decide) (by decide) rfl (fun ls hl => ?_)
  refine lv_goto (tgt := 54) hx hb dX6_init_75 (by decide) ?_
  refine lv_iload_n hx hb dX6_init_54 rfl (lv_at hl 0 rfl) ?_
  refine lv_iconst (v := (4 : Int32)) hx hb dX6_init_55 (by decide) ?_
  refine lv_icmp_ge (tgt := 78) hx hb dX6_init_56 (by decide) (fun h => absurd h (by decide)) (fun _ => ?_)
  refine lv_aload_n hx hb dX6_init_59 rfl (lv_at hl 1 rfl) ?_
  refine gd_e hf (fun hg44 hf => ?_)
  refine bd_e hf (fun q45 eq45 hf => ?_)
  refine eg_get (v := q45) S hK hM (ci := 6) (n := 6) (C := RX6) (T := TX6) hin6 rfl hg44 0 (by decide) lk11 rfl rfl eq45 rfl dX6_init_60 ?_
  refine lv_iload_n hx hb dX6_init_63 rfl (lv_at hl 0 rfl) ?_
  refine eg_new S hA hbs hK hM (ci := 4) (n := 5) (C := RX4) (T := TX4) (fs := [.null, .null, .int 0, .int 0, .int 0]) hin4 tyX4 tyX4_ok (hWA _ wa_1_34) (hWA _ wa_1_121) (hWA _ wa_1_7) rfl rfl (fun j hj => by rcases (show j = 0 ∨ j = 1 ∨ j = 2 ∨ j = 3 ∨ j = 4 by omega) with rfl | rfl | rfl | rfl | rfl <;> rfl) (Nat.le_of_ble_eq_true rfl) (Nat.le_of_ble_eq_true rfl) dX6_init_64 (fun kn46 ekn46 H hM => ?_)
  have hf := nm_x ekn46 hf
  have lkn46 : kn46.length = r40.1.length + 1 := by rw [ekn46]; exact List.length_append
  refine eg_name (fun q47 eq47 => ?_)
  have hf := nm_x eq47 hf
  refine lv_dup hx hb dX6_init_67 rfl ?_
  refine bd_e hf (fun r48 er48 hf => ?_)
  refine eg_callv (va_runIN (As := []) (rest := [.ref q47, .int (3 : Int32), .ref q45]) S (c_X4_init (l := l) hA kn46 r40.2.1 P43 q47 r48 er48) ⟨va_cnB 0 hts (gi_n wa_1_124) rfl rfl rfl hO.2.1.2.2.2 (hWA _ wa_1_7) (by decide +kernel) ⟨Nat.le_of_ble_eq_true rfl, Nat.le_of_ble_eq_true rfl⟩, rfl, hWA _ wa_1_123⟩ ⟨mm_Bg_blind, fun U hU hW => ⟨rfl, mm_Bg_of hK hZ hO hM hU hW⟩⟩ rfl rfl hl.1 rfl (lv_room (Nat.le_of_ble_eq_true rfl)) dX6_init_68 ⟨Nat.le_of_ble_eq_true rfl, Nat.le_of_ble_eq_true rfl⟩) hM (fun H locs lr48 hM => ?_)
  refine gd_e hf (fun hg49 hf => ?_)
  refine gd_e hf (fun hg50 hf => ?_)
  refine eg_aast15 S hK hM hg49 (j := 3) rfl hg50 dX6_init_71 (fun P51 eP51 H locs hM => ?_)
  have hf := nm_x eP51 hf
  refine lv_iinc (v := (4 : Int32)) (lv' := [(1, .int (4 : Int32)), (0, .ref a0)]) hx hb dX6_init_72 hl (k := 0) rfl (by decide) (by decide) rfl (fun ls hl => ?_)
  refine lv_goto (tgt := 54) hx hb dX6_init_75 (by decide) ?_
  refine lv_iload_n hx hb dX6_init_54 rfl (lv_at hl 0 rfl) ?_
  refine lv_iconst (v := (4 : Int32)) hx hb dX6_init_55 (by decide) ?_
  refine lv_icmp_ge (tgt := 78) hx hb dX6_init_56 (by decide) (fun _ => ?_) (fun h => absurd (by decide) h)
  obtain rfl := Option.some.inj hf
  subst hQ
  exact eg_vret S hr hlocks hK hZ hO (by show (r48.1).length = kn.length + 51; omega) hM dX6_init_78
noncomputable def fn_X9_init (b : Nat) (kn : List (Nat × Nat)) (I : Nat → Nat → Int32) (P : Nat → Nat → Option Nat) (a0 : Nat) : Option (List (Nat × Nat) × (Nat → Nat → Int32) × (Nat → Nat → Option Nat)) := Option.bind (some (kn ++ [(7, 0)])) (fun kn1 => Option.bind (some (b + kn.length)) (fun q2 => Option.bind (fn_X6_init b kn1 I P q2) (fun (r3 : List (Nat × Nat) × (Nat → Nat → Int32) × (Nat → Nat → Option Nat)) => gd (kk b r3.1 a0 = 10) (Option.bind (some (upP r3.2.2 a0 0 (some q2))) (fun P5 => Option.bind (some (r3.1 ++ [(7, 0)])) (fun kn6 => Option.bind (some (b + r3.1.length)) (fun q7 => Option.bind (fn_X6_init b kn6 r3.2.1 P5 q7) (fun (r8 : List (Nat × Nat) × (Nat → Nat → Int32) × (Nat → Nat → Option Nat)) => gd (kk b r8.1 a0 = 10) (Option.bind (some (upP r8.2.2 a0 1 (some q7))) (fun P10 => Option.bind (some (up2 r8.2.1 a0 2 (0 : Int32))) (fun I11 => Option.bind (some (r8.1 ++ [(9, 0)])) (fun kn12 => Option.bind (some (b + r8.1.length)) (fun q13 => Option.bind (fn_X8_init b kn12 I11 P10 q13) (fun (r14 : List (Nat × Nat) × (Nat → Nat → Int32) × (Nat → Nat → Option Nat)) => gd (kk b r14.1 a0 = 10) (Option.bind (some (upP r14.2.2 a0 3 (some q13))) (fun P16 => Option.bind (some (r14.1 ++ [(16, 4)])) (fun kn17 => Option.bind (some (b + r14.1.length)) (fun q18 => gd (kk b kn17 a0 = 10) (Option.bind (some (upP P16 a0 4 (some q18))) (fun P20 => Option.bind (P20 a0 4) (fun q21 => Option.bind (some (kn17 ++ [(8, 0)])) (fun kn22 => Option.bind (some (b + kn17.length)) (fun q23 => Option.bind (fn_X7_init b kn22 r14.2.1 P20 q23) (fun (r24 : List (Nat × Nat) × (Nat → Nat → Int32) × (Nat → Nat → Option Nat)) => gd (kk b r24.1 q21 = 16 ∧ vp_in (0 : Int32) (nn b r24.1 q21)) (gd (kk b r24.1 q23 = 8) (Option.bind (some (upP r24.2.2 q21 0 (some q23))) (fun P27 => gd (kk b r24.1 a0 = 10) (Option.bind (P27 a0 4) (fun q29 => Option.bind (some (r24.1 ++ [(8, 0)])) (fun kn30 => Option.bind (some (b + r24.1.length)) (fun q31 => Option.bind (fn_X7_init b kn30 r24.2.1 P27 q31) (fun (r32 : List (Nat × Nat) × (Nat → Nat → Int32) × (Nat → Nat → Option Nat)) => gd (kk b r32.1 q29 = 16 ∧ vp_in (1 : Int32) (nn b r32.1 q29)) (gd (kk b r32.1 q31 = 8) (Option.bind (some (upP r32.2.2 q29 1 (some q31))) (fun P35 => gd (kk b r32.1 a0 = 10) (Option.bind (P35 a0 4) (fun q37 => Option.bind (some (r32.1 ++ [(8, 0)])) (fun kn38 => Option.bind (some (b + r32.1.length)) (fun q39 => Option.bind (fn_X7_init b kn38 r32.2.1 P35 q39) (fun (r40 : List (Nat × Nat) × (Nat → Nat → Int32) × (Nat → Nat → Option Nat)) => gd (kk b r40.1 q37 = 16 ∧ vp_in (2 : Int32) (nn b r40.1 q37)) (gd (kk b r40.1 q39 = 8) (Option.bind (some (upP r40.2.2 q37 2 (some q39))) (fun P43 => gd (kk b r40.1 a0 = 10) (Option.bind (P43 a0 4) (fun q45 => Option.bind (some (r40.1 ++ [(8, 0)])) (fun kn46 => Option.bind (some (b + r40.1.length)) (fun q47 => Option.bind (fn_X7_init b kn46 r40.2.1 P43 q47) (fun (r48 : List (Nat × Nat) × (Nat → Nat → Int32) × (Nat → Nat → Option Nat)) => gd (kk b r48.1 q45 = 16 ∧ vp_in (3 : Int32) (nn b r48.1 q45)) (gd (kk b r48.1 q47 = 8) (Option.bind (some (upP r48.2.2 q45 3 (some q47))) (fun P51 => Option.bind (some (r48.1 ++ [(4, 0)])) (fun kn52 => Option.bind (some (b + r48.1.length)) (fun q53 => Option.bind (fn_X3_init b kn52 r48.2.1 P51 q53) (fun (r54 : List (Nat × Nat) × (Nat → Nat → Int32) × (Nat → Nat → Option Nat)) => gd (kk b r54.1 a0 = 10) (Option.bind (some (upP r54.2.2 a0 5 (some q53))) (fun P56 => Option.bind (some (r54.1 ++ [(5, 0)])) (fun kn57 => Option.bind (some (b + r54.1.length)) (fun q58 => Option.bind (fn_X4_init b kn57 r54.2.1 P56 q58) (fun (r59 : List (Nat × Nat) × (Nat → Nat → Int32) × (Nat → Nat → Option Nat)) => gd (kk b r59.1 a0 = 10) (Option.bind (some (upP r59.2.2 a0 6 (some q58))) (fun P61 => Option.bind (some (r59.1 ++ [(12, 192)])) (fun kn62 => Option.bind (some (b + r59.1.length)) (fun q63 => gd (kk b kn62 a0 = 10) (Option.bind (some (upP P61 a0 7 (some q63))) (fun P65 => some (kn62, r59.2.1, P65))))))))))))))))))))))))))))))))))))))))))))))))))))))))))))))))))
abbrev wz_X9_init : List Cond := Cond.code yX9_init cX9_init 2 none :: WA
abbrev rm_X9_init : Room := { frames := 4, cells := 125, slots := 13617, locals := 74 }
set_option maxHeartbeats 4000000 in
set_option maxRecDepth 100000 in
theorem c_X9_init (hA : ∀ q, A q ↔ b ≤ q) (kn : List (Nat × Nat)) (I : Nat → Nat → Int32) (P : Nat → Nat → Option Nat) (a0 : Nat) (res : List (Nat × Nat) × (Nat → Nat → Int32) × (Nat → Nat → Option Nat)) (hf : fn_X9_init b kn I P a0 = some res) : Met l yX9_init wz_X9_init rm_X9_init (va_Pc [.ref a0] (mm_Bg D cs A b z w kn I P)) (va_Qv (fun (_ : Unit) => res.1.length = kn.length + 125) (fun _ => mm_Bg D cs A b z w res.1 res.2.1 res.2.2) A) 125 13617 A := by
  refine Met.ofW (cc := cX9_init) (maxL := 2) (ret := none) (by decide) rfl ?_
  intro p e s m args below meth c s₁ B hml hv
  obtain ⟨rfl, hBm⟩ := hv
  have hx := B.exec
  have hb := B.bytes
  have hr := B.returns
  have hts := atoms_spec (ws := wz_X9_init) B.pre
  have hWA : ∀ w ∈ WA, w.before ([.ref a0] : List Value).toArray s = true := fun u9 h9 => hts u9 (List.mem_cons_of_mem _ h9)
  have hown : s.vm.findClass RX9 = some m.cls := findClass_of_methodNamed B.named
  have hlocks := B.notSynchronized
  have hin : meth.name = "<init>" := (name_of_methodNamed B.named B.method).1
  have S : CallFix p m c cX9_init 2 s ([.ref a0] : List Value).toArray wz_X9_init RX9 := ⟨hx, hb, hml, hown, hts⟩
  have hK := hBm.1.2.2.2.1
  have hZ := hBm.1.2.2.2.2
  have hO := hBm.2.2.2
  have hbs : b ≤ s.heap.size := by rw [hBm.2.1]; exact Nat.le_add_right _ _
  have hM : mm_G D cs A b kn s.heap I P s.heap [] 0 := ⟨⟨hBm.1.1, hBm.1.2.1, hBm.1.2.2.1, va_S.rf⟩, hBm.2.1, hBm.2.1, hBm.2.2.1⟩
  have hl := lv_entry ([.ref a0]) (n := 2) (Nat.le_of_ble_eq_true rfl)
  rw [lg_entry_eq]
  generalize (lg_sl ([.ref a0]) ++ List.replicate (2 - (lg_sl ([.ref a0])).length) Slot.unset).toArray = ls at hl ⊢
  have hl : lv_has ls 2 [(0, .ref a0)] := hl
  have hin6 : ∀ w ∈ wsX60, w ∈ wz_X9_init := fun w h => List.mem_cons_of_mem _ (wu_X6 w h)
  have hin9 : ∀ w ∈ wsX90, w ∈ wz_X9_init := fun w h => List.mem_cons_of_mem _ (wu_X9 w h)
  have hin8 : ∀ w ∈ wsX80, w ∈ wz_X9_init := fun w h => List.mem_cons_of_mem _ (wu_X8 w h)
  have hin7 : ∀ w ∈ wsX70, w ∈ wz_X9_init := fun w h => List.mem_cons_of_mem _ (wu_X7 w h)
  have hin3 : ∀ w ∈ wsX30, w ∈ wz_X9_init := fun w h => List.mem_cons_of_mem _ (wu_X3 w h)
  have hin4 : ∀ w ∈ wsX40, w ∈ wz_X9_init := fun w h => List.mem_cons_of_mem _ (wu_X4 w h)
  have lk10 : (Cond.fieldLink RX9 10 RX9 "picture" "LRasterPainter$Picture;").before ([.ref a0] : List Value).toArray s = true := hWA _ wa_2_15
  have lk16 : (Cond.fieldLink RX9 16 RX9 "kept" "LRasterPainter$Picture;").before ([.ref a0] : List Value).toArray s = true := hWA _ wa_2_16
  have lk19 : (Cond.fieldLink RX9 19 RX9 "hasImage" "Z").before ([.ref a0] : List Value).toArray s = true := hWA _ wa_2_17
  have lk26 : (Cond.fieldLink RX9 26 RX9 "tape" "LRasterPainter$Tape;").before ([.ref a0] : List Value).toArray s = true := hWA _ wa_2_18
  have lk32 : (Cond.fieldLink RX9 32 RX9 "sheets" "[LRasterPainter$Sheet;").before ([.ref a0] : List Value).toArray s = true := hWA _ wa_2_19
  have lk40 : (Cond.fieldLink RX9 40 RX9 "choice" "LRasterPainter$Choice;").before ([.ref a0] : List Value).toArray s = true := hWA _ wa_2_20
  have lk47 : (Cond.fieldLink RX9 47 RX9 "thought" "LRasterPainter$Layer;").before ([.ref a0] : List Value).toArray s = true := hWA _ wa_2_21
  have lk51 : (Cond.fieldLink RX9 51 RX9 "lefts" "[I").before ([.ref a0] : List Value).toArray s = true := hWA _ wa_2_22
  generalize hQ : MQ below (va_Qv (fun (_ : Unit) => res.1.length = kn.length + 125) (fun _ => mm_Bg D cs A b z w res.1 res.2.1 res.2.2) A) ([.ref a0] : List Value).toArray s 125 13617 A = QQ
  rw [fn_X9_init] at hf
  refine lv_aload_n hx hb dX9_init_0 rfl (lv_at hl 0 rfl) ?_
  refine eg_obj hx hb hown (hWA _ wa_1_25) (hWA _ wa_1_26) (hWA _ wa_1_27) (by rw [hml]; exact hl.1) dX9_init_1 (Nat.le_of_ble_eq_true rfl) (Nat.le_of_ble_eq_true rfl) ?_
  refine lv_aload_n hx hb dX9_init_4 rfl (lv_at hl 0 rfl) ?_
  refine eg_new S hA hbs hK hM (ci := 6) (n := 6) (C := RX6) (T := TX6) (fs := [.null, .int 0, .int 0, .null, .null, .null]) hin6 tyX6 tyX6_ok (hWA _ wa_1_28) (hWA _ wa_1_29) (hWA _ wa_1_2) rfl rfl (fun j hj => by rcases (show j = 0 ∨ j = 1 ∨ j = 2 ∨ j = 3 ∨ j = 4 ∨ j = 5 by omega) with rfl | rfl | rfl | rfl | rfl | rfl <;> rfl) (Nat.le_of_ble_eq_true rfl) (Nat.le_of_ble_eq_true rfl) dX9_init_5 (fun kn1 ekn1 H hM => ?_)
  have hf := nm_x ekn1 hf
  have lkn1 : kn1.length = kn.length + 1 := by rw [ekn1]; exact List.length_append
  refine eg_name (fun q2 eq2 => ?_)
  have hf := nm_x eq2 hf
  refine lv_dup hx hb dX9_init_8 rfl ?_
  refine bd_e hf (fun r3 er3 hf => ?_)
  refine eg_callv (va_runI (As := []) (rest := [.ref q2, .ref a0]) S (c_X6_init (l := l) hA kn1 I P q2 r3 er3) (cwI 0 hts (gi_n wa_1_32) rfl rfl rfl (hWA _ wa_1_2) (hWA _ wa_1_30) (hWA _ wa_1_31) rfl (by decide +kernel) ⟨Nat.le_of_ble_eq_true rfl, Nat.le_of_ble_eq_true rfl⟩) ⟨mm_Bg_blind, fun U hU hW => ⟨rfl, mm_Bg_of hK hZ hO hM hU hW⟩⟩ rfl rfl hl.1 rfl (lv_room (Nat.le_of_ble_eq_true rfl)) dX9_init_9 ⟨Nat.le_of_ble_eq_true rfl, Nat.le_of_ble_eq_true rfl⟩) hM (fun H locs lr3 hM => ?_)
  refine gd_e hf (fun hg4 hf => ?_)
  refine eg_putP S hK hM (ci := 9) (n := 8) (C := RX9) (T := TX9) hin9 tyX9 tyX9_ok nmX9 rfl hg4 0 (by decide) lk10 rfl rfl hin rfl rfl rfl rfl (Nat.le_of_ble_eq_true rfl) rfl dX9_init_12 (fun P5 eP5 H locs hM => ?_)
  have hf := nm_x eP5 hf
  refine lv_aload_n hx hb dX9_init_15 rfl (lv_at hl 0 rfl) ?_
  refine eg_new S hA hbs hK hM (ci := 6) (n := 6) (C := RX6) (T := TX6) (fs := [.null, .int 0, .int 0, .null, .null, .null]) hin6 tyX6 tyX6_ok (hWA _ wa_1_28) (hWA _ wa_1_29) (hWA _ wa_1_2) rfl rfl (fun j hj => by rcases (show j = 0 ∨ j = 1 ∨ j = 2 ∨ j = 3 ∨ j = 4 ∨ j = 5 by omega) with rfl | rfl | rfl | rfl | rfl | rfl <;> rfl) (Nat.le_of_ble_eq_true rfl) (Nat.le_of_ble_eq_true rfl) dX9_init_16 (fun kn6 ekn6 H hM => ?_)
  have hf := nm_x ekn6 hf
  have lkn6 : kn6.length = r3.1.length + 1 := by rw [ekn6]; exact List.length_append
  refine eg_name (fun q7 eq7 => ?_)
  have hf := nm_x eq7 hf
  refine lv_dup hx hb dX9_init_19 rfl ?_
  refine bd_e hf (fun r8 er8 hf => ?_)
  refine eg_callv (va_runI (As := []) (rest := [.ref q7, .ref a0]) S (c_X6_init (l := l) hA kn6 r3.2.1 P5 q7 r8 er8) (cwI 0 hts (gi_n wa_1_32) rfl rfl rfl (hWA _ wa_1_2) (hWA _ wa_1_30) (hWA _ wa_1_31) rfl (by decide +kernel) ⟨Nat.le_of_ble_eq_true rfl, Nat.le_of_ble_eq_true rfl⟩) ⟨mm_Bg_blind, fun U hU hW => ⟨rfl, mm_Bg_of hK hZ hO hM hU hW⟩⟩ rfl rfl hl.1 rfl (lv_room (Nat.le_of_ble_eq_true rfl)) dX9_init_20 ⟨Nat.le_of_ble_eq_true rfl, Nat.le_of_ble_eq_true rfl⟩) hM (fun H locs lr8 hM => ?_)
  refine gd_e hf (fun hg9 hf => ?_)
  refine eg_putP S hK hM (ci := 9) (n := 8) (C := RX9) (T := TX9) hin9 tyX9 tyX9_ok nmX9 rfl hg9 1 (by decide) lk16 rfl rfl hin rfl rfl rfl rfl (Nat.le_of_ble_eq_true rfl) rfl dX9_init_23 (fun P10 eP10 H locs hM => ?_)
  have hf := nm_x eP10 hf
  refine lv_aload_n hx hb dX9_init_26 rfl (lv_at hl 0 rfl) ?_
  refine lv_iconst (v := (0 : Int32)) hx hb dX9_init_27 (by decide) ?_
  refine eg_put S hK hM (ci := 9) (n := 8) (C := RX9) (T := TX9) hin9 tyX9 tyX9_ok nmX9 rfl hg9 2 (by decide) lk19 rfl rfl rfl rfl rfl (Nat.le_of_ble_eq_true rfl) rfl dX9_init_28 (fun I11 eI11 H locs hM => ?_)
  have hf := nm_x eI11 hf
  refine lv_aload_n hx hb dX9_init_31 rfl (lv_at hl 0 rfl) ?_
  refine eg_new S hA hbs hK hM (ci := 8) (n := 8) (C := RX8) (T := TX8) (fs := [.null, .int 0, .null, .null, .int 0, .int 0, .int 0, .int 0]) hin8 tyX8 tyX8_ok (hWA _ wa_1_176) (hWA _ wa_1_177) (hWA _ wa_1_8) rfl rfl (fun j hj => by rcases (show j = 0 ∨ j = 1 ∨ j = 2 ∨ j = 3 ∨ j = 4 ∨ j = 5 ∨ j = 6 ∨ j = 7 by omega) with rfl | rfl | rfl | rfl | rfl | rfl | rfl | rfl <;> rfl) (Nat.le_of_ble_eq_true rfl) (Nat.le_of_ble_eq_true rfl) dX9_init_32 (fun kn12 ekn12 H hM => ?_)
  have hf := nm_x ekn12 hf
  have lkn12 : kn12.length = r8.1.length + 1 := by rw [ekn12]; exact List.length_append
  refine eg_name (fun q13 eq13 => ?_)
  have hf := nm_x eq13 hf
  refine lv_dup hx hb dX9_init_35 rfl ?_
  refine bd_e hf (fun r14 er14 hf => ?_)
  refine eg_callv (va_runIN (As := []) (rest := [.ref q13, .ref a0]) S (c_X8_init (l := l) hA kn12 I11 P10 q13 r14 er14) ⟨va_cnB 0 hts (gi_n wa_1_180) rfl rfl rfl hO.2.2.1 (hWA _ wa_1_8) (by decide +kernel) ⟨Nat.le_of_ble_eq_true rfl, Nat.le_of_ble_eq_true rfl⟩, rfl, hWA _ wa_1_179⟩ ⟨mm_Bg_blind, fun U hU hW => ⟨rfl, mm_Bg_of hK hZ hO hM hU hW⟩⟩ rfl rfl hl.1 rfl (lv_room (Nat.le_of_ble_eq_true rfl)) dX9_init_36 ⟨Nat.le_of_ble_eq_true rfl, Nat.le_of_ble_eq_true rfl⟩) hM (fun H locs lr14 hM => ?_)
  refine gd_e hf (fun hg15 hf => ?_)
  refine eg_putP S hK hM (ci := 9) (n := 8) (C := RX9) (T := TX9) hin9 tyX9 tyX9_ok nmX9 rfl hg15 3 (by decide) lk26 rfl rfl hin rfl rfl rfl rfl (Nat.le_of_ble_eq_true rfl) rfl dX9_init_39 (fun P16 eP16 H locs hM => ?_)
  have hf := nm_x eP16 hf
  refine lv_aload_n hx hb dX9_init_42 rfl (lv_at hl 0 rfl) ?_
  refine lv_iconst (v := (4 : Int32)) hx hb dX9_init_43 (by decide) ?_
  refine eg_newq S hA hbs hK hM (C := "RasterPainter$Sheet") (k0 := 16) (t0 := 4) (cB := cs.2.2.2.2) (hWA _ wa_1_212) hO.1.2.2 rfl (fun _ => rfl) (by decide) (N' := 4) rfl (Nat.le_of_ble_eq_true rfl) (Nat.le_of_ble_eq_true rfl) (Nat.le_of_ble_eq_true rfl) dX9_init_44 (fun kn17 ekn17 H hM => ?_)
  have hf := nm_x ekn17 hf
  have lkn17 : kn17.length = r14.1.length + 1 := by rw [ekn17]; exact List.length_append
  refine eg_name (fun q18 eq18 => ?_)
  have hf := nm_x eq18 hf
  refine gd_e hf (fun hg19 hf => ?_)
  refine eg_putP S hK hM (ci := 9) (n := 8) (C := RX9) (T := TX9) hin9 tyX9 tyX9_ok nmX9 rfl hg19 4 (by decide) lk32 rfl rfl hin rfl rfl rfl rfl (Nat.le_of_ble_eq_true rfl) rfl dX9_init_47 (fun P20 eP20 H locs hM => ?_)
  have hf := nm_x eP20 hf
  refine lv_iconst (v := (0 : Int32)) hx hb dX9_init_50 (by decide) ?_
  refine lv_istore_n (lv' := [(1, .int (0 : Int32)), (0, .ref a0)]) hx hb dX9_init_51 rfl hl (by decide) rfl (fun ls hl => ?_)
  refine lv_iload_n hx hb dX9_init_52 rfl (lv_at hl 0 rfl) ?_
  refine lv_iconst (v := (4 : Int32)) hx hb dX9_init_53 (by decide) ?_
  refine lv_icmp_ge (tgt := 76) hx hb dX9_init_54 (by decide) (fun h => absurd h (by decide)) (fun _ => ?_)
  refine lv_aload_n hx hb dX9_init_57 rfl (lv_at hl 1 rfl) ?_
  refine bd_e hf (fun q21 eq21 hf => ?_)
  refine eg_get (v := q21) S hK hM (ci := 9) (n := 8) (C := RX9) (T := TX9) hin9 rfl hg19 4 (by decide) lk32 rfl rfl eq21 rfl dX9_init_58 ?_
  refine lv_iload_n hx hb dX9_init_61 rfl (lv_at hl 0 rfl) ?_
  refine eg_new S hA hbs hK hM (ci := 7) (n := 3) (C := RX7) (T := TX7) (fs := [.int 0, .int 0, .null]) hin7 tyX7 tyX7_ok (hWA _ wa_1_212) (hWA _ wa_1_214) (hWA _ wa_1_9) rfl rfl (fun j hj => by rcases (show j = 0 ∨ j = 1 ∨ j = 2 by omega) with rfl | rfl | rfl <;> rfl) (Nat.le_of_ble_eq_true rfl) (Nat.le_of_ble_eq_true rfl) dX9_init_62 (fun kn22 ekn22 H hM => ?_)
  have hf := nm_x ekn22 hf
  have lkn22 : kn22.length = kn17.length + 1 := by rw [ekn22]; exact List.length_append
  refine eg_name (fun q23 eq23 => ?_)
  have hf := nm_x eq23 hf
  refine lv_dup hx hb dX9_init_65 rfl ?_
  refine bd_e hf (fun r24 er24 hf => ?_)
  refine eg_callv (va_runIN (As := []) (rest := [.ref q23, .int (0 : Int32), .ref q21]) S (c_X7_init (l := l) hA kn22 r14.2.1 P20 q23 r24 er24) ⟨va_cnB 0 hts (gi_n wa_1_217) rfl rfl rfl hO.2.2.2.1 (hWA _ wa_1_9) (by decide +kernel) ⟨Nat.le_of_ble_eq_true rfl, Nat.le_of_ble_eq_true rfl⟩, rfl, hWA _ wa_1_216⟩ ⟨mm_Bg_blind, fun U hU hW => ⟨rfl, mm_Bg_of hK hZ hO hM hU hW⟩⟩ rfl rfl hl.1 rfl (lv_room (Nat.le_of_ble_eq_true rfl)) dX9_init_66 ⟨Nat.le_of_ble_eq_true rfl, Nat.le_of_ble_eq_true rfl⟩) hM (fun H locs lr24 hM => ?_)
  refine gd_e hf (fun hg25 hf => ?_)
  refine gd_e hf (fun hg26 hf => ?_)
  refine eg_aast16 S hK hM hg25 (j := 0) rfl hg26 dX9_init_69 (fun P27 eP27 H locs hM => ?_)
  have hf := nm_x eP27 hf
  refine lv_iinc (v := (1 : Int32)) (lv' := [(1, .int (1 : Int32)), (0, .ref a0)]) hx hb dX9_init_70 hl (k := 0) rfl (by decide) (by decide) rfl (fun ls hl => ?_)
  refine lv_goto (tgt := 52) hx hb dX9_init_73 (by decide) ?_
  refine lv_iload_n hx hb dX9_init_52 rfl (lv_at hl 0 rfl) ?_
  refine lv_iconst (v := (4 : Int32)) hx hb dX9_init_53 (by decide) ?_
  refine lv_icmp_ge (tgt := 76) hx hb dX9_init_54 (by decide) (fun h => absurd h (by decide)) (fun _ => ?_)
  refine lv_aload_n hx hb dX9_init_57 rfl (lv_at hl 1 rfl) ?_
  refine gd_e hf (fun hg28 hf => ?_)
  refine bd_e hf (fun q29 eq29 hf => ?_)
  refine eg_get (v := q29) S hK hM (ci := 9) (n := 8) (C := RX9) (T := TX9) hin9 rfl hg28 4 (by decide) lk32 rfl rfl eq29 rfl dX9_init_58 ?_
  refine lv_iload_n hx hb dX9_init_61 rfl (lv_at hl 0 rfl) ?_
  refine eg_new S hA hbs hK hM (ci := 7) (n := 3) (C := RX7) (T := TX7) (fs := [.int 0, .int 0, .null]) hin7 tyX7 tyX7_ok (hWA _ wa_1_212) (hWA _ wa_1_214) (hWA _ wa_1_9) rfl rfl (fun j hj => by rcases (show j = 0 ∨ j = 1 ∨ j = 2 by omega) with rfl | rfl | rfl <;> rfl) (Nat.le_of_ble_eq_true rfl) (Nat.le_of_ble_eq_true rfl) dX9_init_62 (fun kn30 ekn30 H hM => ?_)
  have hf := nm_x ekn30 hf
  have lkn30 : kn30.length = r24.1.length + 1 := by rw [ekn30]; exact List.length_append
  refine eg_name (fun q31 eq31 => ?_)
  have hf := nm_x eq31 hf
  refine lv_dup hx hb dX9_init_65 rfl ?_
  refine bd_e hf (fun r32 er32 hf => ?_)
  refine eg_callv (va_runIN (As := []) (rest := [.ref q31, .int (1 : Int32), .ref q29]) S (c_X7_init (l := l) hA kn30 r24.2.1 P27 q31 r32 er32) ⟨va_cnB 0 hts (gi_n wa_1_217) rfl rfl rfl hO.2.2.2.1 (hWA _ wa_1_9) (by decide +kernel) ⟨Nat.le_of_ble_eq_true rfl, Nat.le_of_ble_eq_true rfl⟩, rfl, hWA _ wa_1_216⟩ ⟨mm_Bg_blind, fun U hU hW => ⟨rfl, mm_Bg_of hK hZ hO hM hU hW⟩⟩ rfl rfl hl.1 rfl (lv_room (Nat.le_of_ble_eq_true rfl)) dX9_init_66 ⟨Nat.le_of_ble_eq_true rfl, Nat.le_of_ble_eq_true rfl⟩) hM (fun H locs lr32 hM => ?_)
  refine gd_e hf (fun hg33 hf => ?_)
  refine gd_e hf (fun hg34 hf => ?_)
  refine eg_aast16 S hK hM hg33 (j := 1) rfl hg34 dX9_init_69 (fun P35 eP35 H locs hM => ?_)
  have hf := nm_x eP35 hf
  refine lv_iinc (v := (2 : Int32)) (lv' := [(1, .int (2 : Int32)), (0, .ref a0)]) hx hb dX9_init_70 hl (k := 0) rfl (by decide) (by decide) rfl (fun ls hl => ?_)
  refine lv_goto (tgt := 52) hx hb dX9_init_73 (by decide) ?_
  refine lv_iload_n hx hb dX9_init_52 rfl (lv_at hl 0 rfl) ?_
  refine lv_iconst (v := (4 : Int32)) hx hb dX9_init_53 (by decide) ?_
  refine lv_icmp_ge (tgt := 76) hx hb dX9_init_54 (by decide) (fun h => absurd h (by decide)) (fun _ => ?_)
  refine lv_aload_n hx hb dX9_init_57 rfl (lv_at hl 1 rfl) ?_
  refine gd_e hf (fun hg36 hf => ?_)
  refine bd_e hf (fun q37 eq37 hf => ?_)
  refine eg_get (v := q37) S hK hM (ci := 9) (n := 8) (C := RX9) (T := TX9) hin9 rfl hg36 4 (by decide) lk32 rfl rfl eq37 rfl dX9_init_58 ?_
  refine lv_iload_n hx hb dX9_init_61 rfl (lv_at hl 0 rfl) ?_
  refine eg_new S hA hbs hK hM (ci := 7) (n := 3) (C := RX7) (T := TX7) (fs := [.int 0, .int 0, .null]) hin7 tyX7 tyX7_ok (hWA _ wa_1_212) (hWA _ wa_1_214) (hWA _ wa_1_9) rfl rfl (fun j hj => by rcases (show j = 0 ∨ j = 1 ∨ j = 2 by omega) with rfl | rfl | rfl <;> rfl) (Nat.le_of_ble_eq_true rfl) (Nat.le_of_ble_eq_true rfl) dX9_init_62 (fun kn38 ekn38 H hM => ?_)
  have hf := nm_x ekn38 hf
  have lkn38 : kn38.length = r32.1.length + 1 := by rw [ekn38]; exact List.length_append
  refine eg_name (fun q39 eq39 => ?_)
  have hf := nm_x eq39 hf
  refine lv_dup hx hb dX9_init_65 rfl ?_
  refine bd_e hf (fun r40 er40 hf => ?_)
  refine eg_callv (va_runIN (As := []) (rest := [.ref q39, .int (2 : Int32), .ref q37]) S (c_X7_init (l := l) hA kn38 r32.2.1 P35 q39 r40 er40) ⟨va_cnB 0 hts (gi_n wa_1_217) rfl rfl rfl hO.2.2.2.1 (hWA _ wa_1_9) (by decide +kernel) ⟨Nat.le_of_ble_eq_true rfl, Nat.le_of_ble_eq_true rfl⟩, rfl, hWA _ wa_1_216⟩ ⟨mm_Bg_blind, fun U hU hW => ⟨rfl, mm_Bg_of hK hZ hO hM hU hW⟩⟩ rfl rfl hl.1 rfl (lv_room (Nat.le_of_ble_eq_true rfl)) dX9_init_66 ⟨Nat.le_of_ble_eq_true rfl, Nat.le_of_ble_eq_true rfl⟩) hM (fun H locs lr40 hM => ?_)
  refine gd_e hf (fun hg41 hf => ?_)
  refine gd_e hf (fun hg42 hf => ?_)
  refine eg_aast16 S hK hM hg41 (j := 2) rfl hg42 dX9_init_69 (fun P43 eP43 H locs hM => ?_)
  have hf := nm_x eP43 hf
  refine lv_iinc (v := (3 : Int32)) (lv' := [(1, .int (3 : Int32)), (0, .ref a0)]) hx hb dX9_init_70 hl (k := 0) rfl (by decide) (by decide) rfl (fun ls hl => ?_)
  refine lv_goto (tgt := 52) hx hb dX9_init_73 (by decide) ?_
  refine lv_iload_n hx hb dX9_init_52 rfl (lv_at hl 0 rfl) ?_
  refine lv_iconst (v := (4 : Int32)) hx hb dX9_init_53 (by decide) ?_
  refine lv_icmp_ge (tgt := 76) hx hb dX9_init_54 (by decide) (fun h => absurd h (by decide)) (fun _ => ?_)
  refine lv_aload_n hx hb dX9_init_57 rfl (lv_at hl 1 rfl) ?_
  refine gd_e hf (fun hg44 hf => ?_)
  refine bd_e hf (fun q45 eq45 hf => ?_)
  refine eg_get (v := q45) S hK hM (ci := 9) (n := 8) (C := RX9) (T := TX9) hin9 rfl hg44 4 (by decide) lk32 rfl rfl eq45 rfl dX9_init_58 ?_
  refine lv_iload_n hx hb dX9_init_61 rfl (lv_at hl 0 rfl) ?_
  refine eg_new S hA hbs hK hM (ci := 7) (n := 3) (C := RX7) (T := TX7) (fs := [.int 0, .int 0, .null]) hin7 tyX7 tyX7_ok (hWA _ wa_1_212) (hWA _ wa_1_214) (hWA _ wa_1_9) rfl rfl (fun j hj => by rcases (show j = 0 ∨ j = 1 ∨ j = 2 by omega) with rfl | rfl | rfl <;> rfl) (Nat.le_of_ble_eq_true rfl) (Nat.le_of_ble_eq_true rfl) dX9_init_62 (fun kn46 ekn46 H hM => ?_)
  have hf := nm_x ekn46 hf
  have lkn46 : kn46.length = r40.1.length + 1 := by rw [ekn46]; exact List.length_append
  refine eg_name (fun q47 eq47 => ?_)
  have hf := nm_x eq47 hf
  refine lv_dup hx hb dX9_init_65 rfl ?_
  refine bd_e hf (fun r48 er48 hf => ?_)
  refine eg_callv (va_runIN (As := []) (rest := [.ref q47, .int (3 : Int32), .ref q45]) S (c_X7_init (l := l) hA kn46 r40.2.1 P43 q47 r48 er48) ⟨va_cnB 0 hts (gi_n wa_1_217) rfl rfl rfl hO.2.2.2.1 (hWA _ wa_1_9) (by decide +kernel) ⟨Nat.le_of_ble_eq_true rfl, Nat.le_of_ble_eq_true rfl⟩, rfl, hWA _ wa_1_216⟩ ⟨mm_Bg_blind, fun U hU hW => ⟨rfl, mm_Bg_of hK hZ hO hM hU hW⟩⟩ rfl rfl hl.1 rfl (lv_room (Nat.le_of_ble_eq_true rfl)) dX9_init_66 ⟨Nat.le_of_ble_eq_true rfl, Nat.le_of_ble_eq_true rfl⟩) hM (fun H locs lr48 hM => ?_)
  refine gd_e hf (fun hg49 hf => ?_)
  refine gd_e hf (fun hg50 hf => ?_)
  refine eg_aast16 S hK hM hg49 (j := 3) rfl hg50 dX9_init_69 (fun P51 eP51 H locs hM => ?_)
  have hf := nm_x eP51 hf
  refine lv_iinc (v := (4 : Int32)) (lv' := [(1, .int (4 : Int32)), (0, .ref a0)]) hx hb dX9_init_70 hl (k := 0) rfl (by decide) (by decide) rfl (fun ls hl => ?_)
  refine lv_goto (tgt := 52) hx hb dX9_init_73 (by decide) ?_
  refine lv_iload_n hx hb dX9_init_52 rfl (lv_at hl 0 rfl) ?_
  refine lv_iconst (v := (4 : Int32)) hx hb dX9_init_53 (by decide) ?_
  refine lv_icmp_ge (tgt := 76) hx hb dX9_init_54 (by decide) (fun _ => ?_) (fun h => absurd (by decide) h)
  refine lv_aload_n hx hb dX9_init_76 rfl (lv_at hl 1 rfl) ?_
  refine eg_new S hA hbs hK hM (ci := 3) (n := 4) (C := RX3) (T := TX3) (fs := [.null, .null, .null, .int 0]) hin3 tyX3 tyX3_ok (hWA _ wa_1_232) (hWA _ wa_1_233) (hWA _ wa_1_10) rfl rfl (fun j hj => by rcases (show j = 0 ∨ j = 1 ∨ j = 2 ∨ j = 3 by omega) with rfl | rfl | rfl | rfl <;> rfl) (Nat.le_of_ble_eq_true rfl) (Nat.le_of_ble_eq_true rfl) dX9_init_77 (fun kn52 ekn52 H hM => ?_)
  have hf := nm_x ekn52 hf
  have lkn52 : kn52.length = r48.1.length + 1 := by rw [ekn52]; exact List.length_append
  refine eg_name (fun q53 eq53 => ?_)
  have hf := nm_x eq53 hf
  refine lv_dup hx hb dX9_init_80 rfl ?_
  refine bd_e hf (fun r54 er54 hf => ?_)
  refine eg_callv (va_runIN (As := []) (rest := [.ref q53, .ref a0]) S (c_X3_init (l := l) hA kn52 r48.2.1 P51 q53 r54 er54) ⟨va_cnB 0 hts (gi_n wa_1_236) rfl rfl rfl hO.2.2.2.2.1 (hWA _ wa_1_10) (by decide +kernel) ⟨Nat.le_of_ble_eq_true rfl, Nat.le_of_ble_eq_true rfl⟩, rfl, hWA _ wa_1_235⟩ ⟨mm_Bg_blind, fun U hU hW => ⟨rfl, mm_Bg_of hK hZ hO hM hU hW⟩⟩ rfl rfl hl.1 rfl (lv_room (Nat.le_of_ble_eq_true rfl)) dX9_init_81 ⟨Nat.le_of_ble_eq_true rfl, Nat.le_of_ble_eq_true rfl⟩) hM (fun H locs lr54 hM => ?_)
  refine gd_e hf (fun hg55 hf => ?_)
  refine eg_putP S hK hM (ci := 9) (n := 8) (C := RX9) (T := TX9) hin9 tyX9 tyX9_ok nmX9 rfl hg55 5 (by decide) lk40 rfl rfl hin rfl rfl rfl rfl (Nat.le_of_ble_eq_true rfl) rfl dX9_init_84 (fun P56 eP56 H locs hM => ?_)
  have hf := nm_x eP56 hf
  refine lv_aload_n hx hb dX9_init_87 rfl (lv_at hl 1 rfl) ?_
  refine eg_new S hA hbs hK hM (ci := 4) (n := 5) (C := RX4) (T := TX4) (fs := [.null, .null, .int 0, .int 0, .int 0]) hin4 tyX4 tyX4_ok (hWA _ wa_2_13) (hWA _ wa_1_121) (hWA _ wa_1_7) rfl rfl (fun j hj => by rcases (show j = 0 ∨ j = 1 ∨ j = 2 ∨ j = 3 ∨ j = 4 by omega) with rfl | rfl | rfl | rfl | rfl <;> rfl) (Nat.le_of_ble_eq_true rfl) (Nat.le_of_ble_eq_true rfl) dX9_init_88 (fun kn57 ekn57 H hM => ?_)
  have hf := nm_x ekn57 hf
  have lkn57 : kn57.length = r54.1.length + 1 := by rw [ekn57]; exact List.length_append
  refine eg_name (fun q58 eq58 => ?_)
  have hf := nm_x eq58 hf
  refine lv_dup hx hb dX9_init_91 rfl ?_
  refine bd_e hf (fun r59 er59 hf => ?_)
  refine eg_callv (va_runIN (As := []) (rest := [.ref q58, .ref a0]) S (c_X4_init (l := l) hA kn57 r54.2.1 P56 q58 r59 er59) ⟨va_cnB 0 hts (gi_n wa_1_124) rfl rfl rfl hO.2.2.2.2.2 (hWA _ wa_1_7) (by decide +kernel) ⟨Nat.le_of_ble_eq_true rfl, Nat.le_of_ble_eq_true rfl⟩, rfl, hWA _ wa_1_123⟩ ⟨mm_Bg_blind, fun U hU hW => ⟨rfl, mm_Bg_of hK hZ hO hM hU hW⟩⟩ rfl rfl hl.1 rfl (lv_room (Nat.le_of_ble_eq_true rfl)) dX9_init_92 ⟨Nat.le_of_ble_eq_true rfl, Nat.le_of_ble_eq_true rfl⟩) hM (fun H locs lr59 hM => ?_)
  refine gd_e hf (fun hg60 hf => ?_)
  refine eg_putP S hK hM (ci := 9) (n := 8) (C := RX9) (T := TX9) hin9 tyX9 tyX9_ok nmX9 rfl hg60 6 (by decide) lk47 rfl rfl hin rfl rfl rfl rfl (Nat.le_of_ble_eq_true rfl) rfl dX9_init_95 (fun P61 eP61 H locs hM => ?_)
  have hf := nm_x eP61 hf
  refine lv_aload_n hx hb dX9_init_98 rfl (lv_at hl 1 rfl) ?_
  refine lv_sipush (v := (192 : Int32)) hx hb dX9_init_99 (by decide) ?_
  refine eg_newI S hA hbs hK hM (hWA _ wa_1_108) (by decide) (N' := 192) rfl (Nat.le_of_ble_eq_true rfl) (Nat.le_of_ble_eq_true rfl) (Nat.le_of_ble_eq_true rfl) dX9_init_102 (fun kn62 ekn62 H hM => ?_)
  have hf := nm_x ekn62 hf
  have lkn62 : kn62.length = r59.1.length + 1 := by rw [ekn62]; exact List.length_append
  refine eg_name (fun q63 eq63 => ?_)
  have hf := nm_x eq63 hf
  refine gd_e hf (fun hg64 hf => ?_)
  refine eg_putP S hK hM (ci := 9) (n := 8) (C := RX9) (T := TX9) hin9 tyX9 tyX9_ok nmX9 rfl hg64 7 (by decide) lk51 rfl rfl hin rfl rfl rfl rfl (Nat.le_of_ble_eq_true rfl) rfl dX9_init_104 (fun P65 eP65 H locs hM => ?_)
  have hf := nm_x eP65 hf
  obtain rfl := Option.some.inj hf
  subst hQ
  exact eg_vret S hr hlocks hK hZ hO (by show (kn62).length = kn.length + 125; omega) hM dX9_init_107
noncomputable def fn_X10_init (b : Nat) (kn : List (Nat × Nat)) (I : Nat → Nat → Int32) (P : Nat → Nat → Option Nat) (a0 : Nat) : Option (List (Nat × Nat) × (Nat → Nat → Int32) × (Nat → Nat → Option Nat)) := Option.bind (some (kn ++ [(12, 5608)])) (fun kn1 => Option.bind (some (b + kn.length)) (fun q2 => gd (kk b kn1 a0 = 11) (Option.bind (some (upP P a0 0 (some q2))) (fun P4 => Option.bind (some (kn1 ++ [(12, 5608)])) (fun kn5 => Option.bind (some (b + kn1.length)) (fun q6 => gd (kk b kn5 a0 = 11) (Option.bind (some (upP P4 a0 1 (some q6))) (fun P8 => Option.bind (some (kn5 ++ [(12, 60)])) (fun kn9 => Option.bind (some (b + kn5.length)) (fun q10 => gd (kk b kn9 a0 = 11) (Option.bind (some (upP P8 a0 4 (some q10))) (fun P12 => Option.bind (some (kn9 ++ [(12, 384)])) (fun kn13 => Option.bind (some (b + kn9.length)) (fun q14 => gd (kk b kn13 a0 = 11) (Option.bind (some (upP P12 a0 15 (some q14))) (fun P16 => Option.bind (some (kn13 ++ [(12, 192)])) (fun kn17 => Option.bind (some (b + kn13.length)) (fun q18 => gd (kk b kn17 a0 = 11) (Option.bind (some (upP P16 a0 16 (some q18))) (fun P20 => Option.bind (some (kn17 ++ [(12, 192)])) (fun kn21 => Option.bind (some (b + kn17.length)) (fun q22 => gd (kk b kn21 a0 = 11) (Option.bind (some (upP P20 a0 17 (some q22))) (fun P24 => Option.bind (some (kn21 ++ [(12, 192)])) (fun kn25 => Option.bind (some (b + kn21.length)) (fun q26 => gd (kk b kn25 a0 = 11) (Option.bind (some (upP P24 a0 18 (some q26))) (fun P28 => Option.bind (some (kn25 ++ [(12, 192)])) (fun kn29 => Option.bind (some (b + kn25.length)) (fun q30 => gd (kk b kn29 a0 = 11) (Option.bind (some (upP P28 a0 19 (some q30))) (fun P32 => Option.bind (some (kn29 ++ [(12, 4)])) (fun kn33 => Option.bind (some (b + kn29.length)) (fun q34 => gd (kk b kn33 a0 = 11) (Option.bind (some (upP P32 a0 20 (some q34))) (fun P36 => Option.bind (some (kn33 ++ [(12, 4)])) (fun kn37 => Option.bind (some (b + kn33.length)) (fun q38 => gd (kk b kn37 a0 = 11) (Option.bind (some (upP P36 a0 21 (some q38))) (fun P40 => Option.bind (some (kn37 ++ [(12, 160)])) (fun kn41 => Option.bind (some (b + kn37.length)) (fun q42 => gd (kk b kn41 a0 = 11) (Option.bind (some (upP P40 a0 22 (some q42))) (fun P44 => Option.bind (P44 a0 0) (fun q45 => gd (kk b kn41 q45 = 12 ∧ vp_in (1 : Int32) (nn b kn41 q45)) (Option.bind (some (up2 I q45 1 (255 : Int32))) (fun I47 => gd (kk b kn41 q45 = 12 ∧ vp_in (3 : Int32) (nn b kn41 q45)) (Option.bind (some (up2 I47 q45 3 (1 : Int32))) (fun I49 => gd (kk b kn41 q45 = 12 ∧ vp_in (5 : Int32) (nn b kn41 q45)) (Option.bind (some (up2 I49 q45 5 (9 : Int32))) (fun I51 => Option.bind (P44 a0 20) (fun q52 => gd (kk b kn41 q52 = 12 ∧ vp_in (0 : Int32) (nn b kn41 q52)) (Option.bind (some (up2 I51 q52 0 (-1 : Int32))) (fun I54 => gd (kk b kn41 q52 = 12 ∧ vp_in (1 : Int32) (nn b kn41 q52)) (Option.bind (some (up2 I54 q52 1 (-1 : Int32))) (fun I56 => gd (kk b kn41 q52 = 12 ∧ vp_in (2 : Int32) (nn b kn41 q52)) (Option.bind (some (up2 I56 q52 2 (-1 : Int32))) (fun I58 => gd (kk b kn41 q52 = 12 ∧ vp_in (3 : Int32) (nn b kn41 q52)) (Option.bind (some (up2 I58 q52 3 (-1 : Int32))) (fun I60 => some (kn41, I60, P44)))))))))))))))))))))))))))))))))))))))))))))))))))))))))))))
abbrev wz_X10_init : List Cond := Cond.code yX10_init cX10_init 2 none :: WA
abbrev rm_X10_init : Room := { frames := 1, cells := 11, slots := 12596, locals := 12 }
set_option maxHeartbeats 4000000 in
set_option maxRecDepth 100000 in
theorem c_X10_init (hA : ∀ q, A q ↔ b ≤ q) (kn : List (Nat × Nat)) (I : Nat → Nat → Int32) (P : Nat → Nat → Option Nat) (a0 : Nat) (res : List (Nat × Nat) × (Nat → Nat → Int32) × (Nat → Nat → Option Nat)) (hf : fn_X10_init b kn I P a0 = some res) : Met l yX10_init wz_X10_init rm_X10_init (va_Pc [.ref a0] (mm_Bg D cs A b z w kn I P)) (va_Qv (fun (_ : Unit) => res.1.length = kn.length + 11) (fun _ => mm_Bg D cs A b z w res.1 res.2.1 res.2.2) A) 11 12596 A := by
  refine Met.ofW (cc := cX10_init) (maxL := 2) (ret := none) (by decide) rfl ?_
  intro p e s m args below meth c s₁ B hml hv
  obtain ⟨rfl, hBm⟩ := hv
  have hx := B.exec
  have hb := B.bytes
  have hr := B.returns
  have hts := atoms_spec (ws := wz_X10_init) B.pre
  have hWA : ∀ w ∈ WA, w.before ([.ref a0] : List Value).toArray s = true := fun u9 h9 => hts u9 (List.mem_cons_of_mem _ h9)
  have hown : s.vm.findClass RX10 = some m.cls := findClass_of_methodNamed B.named
  have hlocks := B.notSynchronized
  have hin : meth.name = "<init>" := (name_of_methodNamed B.named B.method).1
  have S : CallFix p m c cX10_init 2 s ([.ref a0] : List Value).toArray wz_X10_init RX10 := ⟨hx, hb, hml, hown, hts⟩
  have hK := hBm.1.2.2.2.1
  have hZ := hBm.1.2.2.2.2
  have hO := hBm.2.2.2
  have hbs : b ≤ s.heap.size := by rw [hBm.2.1]; exact Nat.le_add_right _ _
  have hM : mm_G D cs A b kn s.heap I P s.heap [] 0 := ⟨⟨hBm.1.1, hBm.1.2.1, hBm.1.2.2.1, va_S.rf⟩, hBm.2.1, hBm.2.1, hBm.2.2.1⟩
  have hl := lv_entry ([.ref a0]) (n := 2) (Nat.le_of_ble_eq_true rfl)
  rw [lg_entry_eq]
  generalize (lg_sl ([.ref a0]) ++ List.replicate (2 - (lg_sl ([.ref a0])).length) Slot.unset).toArray = ls at hl ⊢
  have hl : lv_has ls 2 [(0, .ref a0)] := hl
  have hin10 : ∀ w ∈ wsX100, w ∈ wz_X10_init := fun w h => List.mem_cons_of_mem _ (wu_X10 w h)
  have lk9 : (Cond.fieldLink RX10 9 RX10 "g" "[I").before ([.ref a0] : List Value).toArray s = true := hWA _ wa_4_141
  have lk13 : (Cond.fieldLink RX10 13 RX10 "kept" "[I").before ([.ref a0] : List Value).toArray s = true := hWA _ wa_4_142
  have lk16 : (Cond.fieldLink RX10 16 RX10 "tape" "[I").before ([.ref a0] : List Value).toArray s = true := hWA _ wa_4_145
  have lk19 : (Cond.fieldLink RX10 19 RX10 "before" "[I").before ([.ref a0] : List Value).toArray s = true := hWA _ wa_4_156
  have lk22 : (Cond.fieldLink RX10 22 RX10 "set" "[I").before ([.ref a0] : List Value).toArray s = true := hWA _ wa_4_157
  have lk25 : (Cond.fieldLink RX10 25 RX10 "open" "[I").before ([.ref a0] : List Value).toArray s = true := hWA _ wa_4_158
  have lk28 : (Cond.fieldLink RX10 28 RX10 "left" "[I").before ([.ref a0] : List Value).toArray s = true := hWA _ wa_4_159
  have lk31 : (Cond.fieldLink RX10 31 RX10 "look" "[I").before ([.ref a0] : List Value).toArray s = true := hWA _ wa_4_160
  have lk34 : (Cond.fieldLink RX10 34 RX10 "sort" "[I").before ([.ref a0] : List Value).toArray s = true := hWA _ wa_4_161
  have lk37 : (Cond.fieldLink RX10 37 RX10 "size" "[I").before ([.ref a0] : List Value).toArray s = true := hWA _ wa_4_162
  have lk40 : (Cond.fieldLink RX10 40 RX10 "item" "[I").before ([.ref a0] : List Value).toArray s = true := hWA _ wa_4_163
  generalize hQ : MQ below (va_Qv (fun (_ : Unit) => res.1.length = kn.length + 11) (fun _ => mm_Bg D cs A b z w res.1 res.2.1 res.2.2) A) ([.ref a0] : List Value).toArray s 11 12596 A = QQ
  rw [fn_X10_init] at hf
  refine lv_aload_n hx hb dX10_init_0 rfl (lv_at hl 0 rfl) ?_
  refine eg_obj hx hb hown (hWA _ wa_4_140) (hWA _ wa_1_26) (hWA _ wa_1_27) (by rw [hml]; exact hl.1) dX10_init_1 (Nat.le_of_ble_eq_true rfl) (Nat.le_of_ble_eq_true rfl) ?_
  refine lv_aload_n hx hb dX10_init_4 rfl (lv_at hl 0 rfl) ?_
  refine lv_sipush (v := (5608 : Int32)) hx hb dX10_init_5 (by decide) ?_
  refine eg_newI S hA hbs hK hM (hWA _ wa_1_108) (by decide) (N' := 5608) rfl (Nat.le_of_ble_eq_true rfl) (Nat.le_of_ble_eq_true rfl) (Nat.le_of_ble_eq_true rfl) dX10_init_8 (fun kn1 ekn1 H hM => ?_)
  have hf := nm_x ekn1 hf
  have lkn1 : kn1.length = kn.length + 1 := by rw [ekn1]; exact List.length_append
  refine eg_name (fun q2 eq2 => ?_)
  have hf := nm_x eq2 hf
  refine gd_e hf (fun hg3 hf => ?_)
  refine eg_putP S hK hM (ci := 10) (n := 23) (C := RX10) (T := TX10) hin10 tyX10 tyX10_ok nmX10 rfl hg3 0 (by decide) lk9 rfl rfl hin rfl rfl rfl rfl (Nat.le_of_ble_eq_true rfl) rfl dX10_init_10 (fun P4 eP4 H locs hM => ?_)
  have hf := nm_x eP4 hf
  refine lv_aload_n hx hb dX10_init_13 rfl (lv_at hl 0 rfl) ?_
  refine lv_sipush (v := (5608 : Int32)) hx hb dX10_init_14 (by decide) ?_
  refine eg_newI S hA hbs hK hM (hWA _ wa_1_108) (by decide) (N' := 5608) rfl (Nat.le_of_ble_eq_true rfl) (Nat.le_of_ble_eq_true rfl) (Nat.le_of_ble_eq_true rfl) dX10_init_17 (fun kn5 ekn5 H hM => ?_)
  have hf := nm_x ekn5 hf
  have lkn5 : kn5.length = kn1.length + 1 := by rw [ekn5]; exact List.length_append
  refine eg_name (fun q6 eq6 => ?_)
  have hf := nm_x eq6 hf
  refine gd_e hf (fun hg7 hf => ?_)
  refine eg_putP S hK hM (ci := 10) (n := 23) (C := RX10) (T := TX10) hin10 tyX10 tyX10_ok nmX10 rfl hg7 1 (by decide) lk13 rfl rfl hin rfl rfl rfl rfl (Nat.le_of_ble_eq_true rfl) rfl dX10_init_19 (fun P8 eP8 H locs hM => ?_)
  have hf := nm_x eP8 hf
  refine lv_aload_n hx hb dX10_init_22 rfl (lv_at hl 0 rfl) ?_
  refine lv_bipush (v := (60 : Int32)) hx hb dX10_init_23 (by decide) ?_
  refine eg_newI S hA hbs hK hM (hWA _ wa_1_108) (by decide) (N' := 60) rfl (Nat.le_of_ble_eq_true rfl) (Nat.le_of_ble_eq_true rfl) (Nat.le_of_ble_eq_true rfl) dX10_init_25 (fun kn9 ekn9 H hM => ?_)
  have hf := nm_x ekn9 hf
  have lkn9 : kn9.length = kn5.length + 1 := by rw [ekn9]; exact List.length_append
  refine eg_name (fun q10 eq10 => ?_)
  have hf := nm_x eq10 hf
  refine gd_e hf (fun hg11 hf => ?_)
  refine eg_putP S hK hM (ci := 10) (n := 23) (C := RX10) (T := TX10) hin10 tyX10 tyX10_ok nmX10 rfl hg11 4 (by decide) lk16 rfl rfl hin rfl rfl rfl rfl (Nat.le_of_ble_eq_true rfl) rfl dX10_init_27 (fun P12 eP12 H locs hM => ?_)
  have hf := nm_x eP12 hf
  refine lv_aload_n hx hb dX10_init_30 rfl (lv_at hl 0 rfl) ?_
  refine lv_sipush (v := (384 : Int32)) hx hb dX10_init_31 (by decide) ?_
  refine eg_newI S hA hbs hK hM (hWA _ wa_1_108) (by decide) (N' := 384) rfl (Nat.le_of_ble_eq_true rfl) (Nat.le_of_ble_eq_true rfl) (Nat.le_of_ble_eq_true rfl) dX10_init_34 (fun kn13 ekn13 H hM => ?_)
  have hf := nm_x ekn13 hf
  have lkn13 : kn13.length = kn9.length + 1 := by rw [ekn13]; exact List.length_append
  refine eg_name (fun q14 eq14 => ?_)
  have hf := nm_x eq14 hf
  refine gd_e hf (fun hg15 hf => ?_)
  refine eg_putP S hK hM (ci := 10) (n := 23) (C := RX10) (T := TX10) hin10 tyX10 tyX10_ok nmX10 rfl hg15 15 (by decide) lk19 rfl rfl hin rfl rfl rfl rfl (Nat.le_of_ble_eq_true rfl) rfl dX10_init_36 (fun P16 eP16 H locs hM => ?_)
  have hf := nm_x eP16 hf
  refine lv_aload_n hx hb dX10_init_39 rfl (lv_at hl 0 rfl) ?_
  refine lv_sipush (v := (192 : Int32)) hx hb dX10_init_40 (by decide) ?_
  refine eg_newI S hA hbs hK hM (hWA _ wa_1_108) (by decide) (N' := 192) rfl (Nat.le_of_ble_eq_true rfl) (Nat.le_of_ble_eq_true rfl) (Nat.le_of_ble_eq_true rfl) dX10_init_43 (fun kn17 ekn17 H hM => ?_)
  have hf := nm_x ekn17 hf
  have lkn17 : kn17.length = kn13.length + 1 := by rw [ekn17]; exact List.length_append
  refine eg_name (fun q18 eq18 => ?_)
  have hf := nm_x eq18 hf
  refine gd_e hf (fun hg19 hf => ?_)
  refine eg_putP S hK hM (ci := 10) (n := 23) (C := RX10) (T := TX10) hin10 tyX10 tyX10_ok nmX10 rfl hg19 16 (by decide) lk22 rfl rfl hin rfl rfl rfl rfl (Nat.le_of_ble_eq_true rfl) rfl dX10_init_45 (fun P20 eP20 H locs hM => ?_)
  have hf := nm_x eP20 hf
  refine lv_aload_n hx hb dX10_init_48 rfl (lv_at hl 0 rfl) ?_
  refine lv_sipush (v := (192 : Int32)) hx hb dX10_init_49 (by decide) ?_
  refine eg_newI S hA hbs hK hM (hWA _ wa_1_108) (by decide) (N' := 192) rfl (Nat.le_of_ble_eq_true rfl) (Nat.le_of_ble_eq_true rfl) (Nat.le_of_ble_eq_true rfl) dX10_init_52 (fun kn21 ekn21 H hM => ?_)
  have hf := nm_x ekn21 hf
  have lkn21 : kn21.length = kn17.length + 1 := by rw [ekn21]; exact List.length_append
  refine eg_name (fun q22 eq22 => ?_)
  have hf := nm_x eq22 hf
  refine gd_e hf (fun hg23 hf => ?_)
  refine eg_putP S hK hM (ci := 10) (n := 23) (C := RX10) (T := TX10) hin10 tyX10 tyX10_ok nmX10 rfl hg23 17 (by decide) lk25 rfl rfl hin rfl rfl rfl rfl (Nat.le_of_ble_eq_true rfl) rfl dX10_init_54 (fun P24 eP24 H locs hM => ?_)
  have hf := nm_x eP24 hf
  refine lv_aload_n hx hb dX10_init_57 rfl (lv_at hl 0 rfl) ?_
  refine lv_sipush (v := (192 : Int32)) hx hb dX10_init_58 (by decide) ?_
  refine eg_newI S hA hbs hK hM (hWA _ wa_1_108) (by decide) (N' := 192) rfl (Nat.le_of_ble_eq_true rfl) (Nat.le_of_ble_eq_true rfl) (Nat.le_of_ble_eq_true rfl) dX10_init_61 (fun kn25 ekn25 H hM => ?_)
  have hf := nm_x ekn25 hf
  have lkn25 : kn25.length = kn21.length + 1 := by rw [ekn25]; exact List.length_append
  refine eg_name (fun q26 eq26 => ?_)
  have hf := nm_x eq26 hf
  refine gd_e hf (fun hg27 hf => ?_)
  refine eg_putP S hK hM (ci := 10) (n := 23) (C := RX10) (T := TX10) hin10 tyX10 tyX10_ok nmX10 rfl hg27 18 (by decide) lk28 rfl rfl hin rfl rfl rfl rfl (Nat.le_of_ble_eq_true rfl) rfl dX10_init_63 (fun P28 eP28 H locs hM => ?_)
  have hf := nm_x eP28 hf
  refine lv_aload_n hx hb dX10_init_66 rfl (lv_at hl 0 rfl) ?_
  refine lv_sipush (v := (192 : Int32)) hx hb dX10_init_67 (by decide) ?_
  refine eg_newI S hA hbs hK hM (hWA _ wa_1_108) (by decide) (N' := 192) rfl (Nat.le_of_ble_eq_true rfl) (Nat.le_of_ble_eq_true rfl) (Nat.le_of_ble_eq_true rfl) dX10_init_70 (fun kn29 ekn29 H hM => ?_)
  have hf := nm_x ekn29 hf
  have lkn29 : kn29.length = kn25.length + 1 := by rw [ekn29]; exact List.length_append
  refine eg_name (fun q30 eq30 => ?_)
  have hf := nm_x eq30 hf
  refine gd_e hf (fun hg31 hf => ?_)
  refine eg_putP S hK hM (ci := 10) (n := 23) (C := RX10) (T := TX10) hin10 tyX10 tyX10_ok nmX10 rfl hg31 19 (by decide) lk31 rfl rfl hin rfl rfl rfl rfl (Nat.le_of_ble_eq_true rfl) rfl dX10_init_72 (fun P32 eP32 H locs hM => ?_)
  have hf := nm_x eP32 hf
  refine lv_aload_n hx hb dX10_init_75 rfl (lv_at hl 0 rfl) ?_
  refine lv_iconst (v := (4 : Int32)) hx hb dX10_init_76 (by decide) ?_
  refine eg_newI S hA hbs hK hM (hWA _ wa_1_108) (by decide) (N' := 4) rfl (Nat.le_of_ble_eq_true rfl) (Nat.le_of_ble_eq_true rfl) (Nat.le_of_ble_eq_true rfl) dX10_init_77 (fun kn33 ekn33 H hM => ?_)
  have hf := nm_x ekn33 hf
  have lkn33 : kn33.length = kn29.length + 1 := by rw [ekn33]; exact List.length_append
  refine eg_name (fun q34 eq34 => ?_)
  have hf := nm_x eq34 hf
  refine gd_e hf (fun hg35 hf => ?_)
  refine eg_putP S hK hM (ci := 10) (n := 23) (C := RX10) (T := TX10) hin10 tyX10 tyX10_ok nmX10 rfl hg35 20 (by decide) lk34 rfl rfl hin rfl rfl rfl rfl (Nat.le_of_ble_eq_true rfl) rfl dX10_init_79 (fun P36 eP36 H locs hM => ?_)
  have hf := nm_x eP36 hf
  refine lv_aload_n hx hb dX10_init_82 rfl (lv_at hl 0 rfl) ?_
  refine lv_iconst (v := (4 : Int32)) hx hb dX10_init_83 (by decide) ?_
  refine eg_newI S hA hbs hK hM (hWA _ wa_1_108) (by decide) (N' := 4) rfl (Nat.le_of_ble_eq_true rfl) (Nat.le_of_ble_eq_true rfl) (Nat.le_of_ble_eq_true rfl) dX10_init_84 (fun kn37 ekn37 H hM => ?_)
  have hf := nm_x ekn37 hf
  have lkn37 : kn37.length = kn33.length + 1 := by rw [ekn37]; exact List.length_append
  refine eg_name (fun q38 eq38 => ?_)
  have hf := nm_x eq38 hf
  refine gd_e hf (fun hg39 hf => ?_)
  refine eg_putP S hK hM (ci := 10) (n := 23) (C := RX10) (T := TX10) hin10 tyX10 tyX10_ok nmX10 rfl hg39 21 (by decide) lk37 rfl rfl hin rfl rfl rfl rfl (Nat.le_of_ble_eq_true rfl) rfl dX10_init_86 (fun P40 eP40 H locs hM => ?_)
  have hf := nm_x eP40 hf
  refine lv_aload_n hx hb dX10_init_89 rfl (lv_at hl 0 rfl) ?_
  refine lv_sipush (v := (160 : Int32)) hx hb dX10_init_90 (by decide) ?_
  refine eg_newI S hA hbs hK hM (hWA _ wa_1_108) (by decide) (N' := 160) rfl (Nat.le_of_ble_eq_true rfl) (Nat.le_of_ble_eq_true rfl) (Nat.le_of_ble_eq_true rfl) dX10_init_93 (fun kn41 ekn41 H hM => ?_)
  have hf := nm_x ekn41 hf
  have lkn41 : kn41.length = kn37.length + 1 := by rw [ekn41]; exact List.length_append
  refine eg_name (fun q42 eq42 => ?_)
  have hf := nm_x eq42 hf
  refine gd_e hf (fun hg43 hf => ?_)
  refine eg_putP S hK hM (ci := 10) (n := 23) (C := RX10) (T := TX10) hin10 tyX10 tyX10_ok nmX10 rfl hg43 22 (by decide) lk40 rfl rfl hin rfl rfl rfl rfl (Nat.le_of_ble_eq_true rfl) rfl dX10_init_95 (fun P44 eP44 H locs hM => ?_)
  have hf := nm_x eP44 hf
  refine lv_aload_n hx hb dX10_init_98 rfl (lv_at hl 0 rfl) ?_
  refine bd_e hf (fun q45 eq45 hf => ?_)
  refine eg_get (v := q45) S hK hM (ci := 10) (n := 23) (C := RX10) (T := TX10) hin10 rfl hg43 0 (by decide) lk9 rfl rfl eq45 rfl dX10_init_99 ?_
  refine lv_iconst (v := (1 : Int32)) hx hb dX10_init_102 (by decide) ?_
  refine lv_sipush (v := (255 : Int32)) hx hb dX10_init_103 (by decide) ?_
  refine gd_e hf (fun hg46 hf => ?_)
  refine eg_iast S hK hM hg46 (j := 1) rfl dX10_init_106 (fun I47 eI47 H locs hM => ?_)
  have hf := nm_x eI47 hf
  refine lv_aload_n hx hb dX10_init_107 rfl (lv_at hl 0 rfl) ?_
  refine eg_get (v := q45) S hK hM (ci := 10) (n := 23) (C := RX10) (T := TX10) hin10 rfl hg43 0 (by decide) lk9 rfl rfl eq45 rfl dX10_init_108 ?_
  refine lv_iconst (v := (3 : Int32)) hx hb dX10_init_111 (by decide) ?_
  refine lv_iconst (v := (1 : Int32)) hx hb dX10_init_112 (by decide) ?_
  refine gd_e hf (fun hg48 hf => ?_)
  refine eg_iast S hK hM hg48 (j := 3) rfl dX10_init_113 (fun I49 eI49 H locs hM => ?_)
  have hf := nm_x eI49 hf
  refine lv_aload_n hx hb dX10_init_114 rfl (lv_at hl 0 rfl) ?_
  refine eg_get (v := q45) S hK hM (ci := 10) (n := 23) (C := RX10) (T := TX10) hin10 rfl hg43 0 (by decide) lk9 rfl rfl eq45 rfl dX10_init_115 ?_
  refine lv_iconst (v := (5 : Int32)) hx hb dX10_init_118 (by decide) ?_
  refine lv_bipush (v := (9 : Int32)) hx hb dX10_init_119 (by decide) ?_
  refine gd_e hf (fun hg50 hf => ?_)
  refine eg_iast S hK hM hg50 (j := 5) rfl dX10_init_121 (fun I51 eI51 H locs hM => ?_)
  have hf := nm_x eI51 hf
  refine lv_iconst (v := (0 : Int32)) hx hb dX10_init_122 (by decide) ?_
  refine lv_istore_n (lv' := [(1, .int (0 : Int32)), (0, .ref a0)]) hx hb dX10_init_123 rfl hl (by decide) rfl (fun ls hl => ?_)
  refine lv_iload_n hx hb dX10_init_124 rfl (lv_at hl 0 rfl) ?_
  refine lv_iconst (v := (4 : Int32)) hx hb dX10_init_125 (by decide) ?_
  refine lv_icmp_ge (tgt := 142) hx hb dX10_init_126 (by decide) (fun h => absurd h (by decide)) (fun _ => ?_)
  refine lv_aload_n hx hb dX10_init_129 rfl (lv_at hl 1 rfl) ?_
  refine bd_e hf (fun q52 eq52 hf => ?_)
  refine eg_get (v := q52) S hK hM (ci := 10) (n := 23) (C := RX10) (T := TX10) hin10 rfl hg43 20 (by decide) lk34 rfl rfl eq52 rfl dX10_init_130 ?_
  refine lv_iload_n hx hb dX10_init_133 rfl (lv_at hl 0 rfl) ?_
  refine lv_iconst (v := (-1 : Int32)) hx hb dX10_init_134 (by decide) ?_
  refine gd_e hf (fun hg53 hf => ?_)
  refine eg_iast S hK hM hg53 (j := 0) rfl dX10_init_135 (fun I54 eI54 H locs hM => ?_)
  have hf := nm_x eI54 hf
  refine lv_iinc (v := (1 : Int32)) (lv' := [(1, .int (1 : Int32)), (0, .ref a0)]) hx hb dX10_init_136 hl (k := 0) rfl (by decide) (by decide) rfl (fun ls hl => ?_)
  refine lv_goto (tgt := 124) hx hb dX10_init_139 (by decide) ?_
  refine lv_iload_n hx hb dX10_init_124 rfl (lv_at hl 0 rfl) ?_
  refine lv_iconst (v := (4 : Int32)) hx hb dX10_init_125 (by decide) ?_
  refine lv_icmp_ge (tgt := 142) hx hb dX10_init_126 (by decide) (fun h => absurd h (by decide)) (fun _ => ?_)
  refine lv_aload_n hx hb dX10_init_129 rfl (lv_at hl 1 rfl) ?_
  refine eg_get (v := q52) S hK hM (ci := 10) (n := 23) (C := RX10) (T := TX10) hin10 rfl hg43 20 (by decide) lk34 rfl rfl eq52 rfl dX10_init_130 ?_
  refine lv_iload_n hx hb dX10_init_133 rfl (lv_at hl 0 rfl) ?_
  refine lv_iconst (v := (-1 : Int32)) hx hb dX10_init_134 (by decide) ?_
  refine gd_e hf (fun hg55 hf => ?_)
  refine eg_iast S hK hM hg55 (j := 1) rfl dX10_init_135 (fun I56 eI56 H locs hM => ?_)
  have hf := nm_x eI56 hf
  refine lv_iinc (v := (2 : Int32)) (lv' := [(1, .int (2 : Int32)), (0, .ref a0)]) hx hb dX10_init_136 hl (k := 0) rfl (by decide) (by decide) rfl (fun ls hl => ?_)
  refine lv_goto (tgt := 124) hx hb dX10_init_139 (by decide) ?_
  refine lv_iload_n hx hb dX10_init_124 rfl (lv_at hl 0 rfl) ?_
  refine lv_iconst (v := (4 : Int32)) hx hb dX10_init_125 (by decide) ?_
  refine lv_icmp_ge (tgt := 142) hx hb dX10_init_126 (by decide) (fun h => absurd h (by decide)) (fun _ => ?_)
  refine lv_aload_n hx hb dX10_init_129 rfl (lv_at hl 1 rfl) ?_
  refine eg_get (v := q52) S hK hM (ci := 10) (n := 23) (C := RX10) (T := TX10) hin10 rfl hg43 20 (by decide) lk34 rfl rfl eq52 rfl dX10_init_130 ?_
  refine lv_iload_n hx hb dX10_init_133 rfl (lv_at hl 0 rfl) ?_
  refine lv_iconst (v := (-1 : Int32)) hx hb dX10_init_134 (by decide) ?_
  refine gd_e hf (fun hg57 hf => ?_)
  refine eg_iast S hK hM hg57 (j := 2) rfl dX10_init_135 (fun I58 eI58 H locs hM => ?_)
  have hf := nm_x eI58 hf
  refine lv_iinc (v := (3 : Int32)) (lv' := [(1, .int (3 : Int32)), (0, .ref a0)]) hx hb dX10_init_136 hl (k := 0) rfl (by decide) (by decide) rfl (fun ls hl => ?_)
  refine lv_goto (tgt := 124) hx hb dX10_init_139 (by decide) ?_
  refine lv_iload_n hx hb dX10_init_124 rfl (lv_at hl 0 rfl) ?_
  refine lv_iconst (v := (4 : Int32)) hx hb dX10_init_125 (by decide) ?_
  refine lv_icmp_ge (tgt := 142) hx hb dX10_init_126 (by decide) (fun h => absurd h (by decide)) (fun _ => ?_)
  refine lv_aload_n hx hb dX10_init_129 rfl (lv_at hl 1 rfl) ?_
  refine eg_get (v := q52) S hK hM (ci := 10) (n := 23) (C := RX10) (T := TX10) hin10 rfl hg43 20 (by decide) lk34 rfl rfl eq52 rfl dX10_init_130 ?_
  refine lv_iload_n hx hb dX10_init_133 rfl (lv_at hl 0 rfl) ?_
  refine lv_iconst (v := (-1 : Int32)) hx hb dX10_init_134 (by decide) ?_
  refine gd_e hf (fun hg59 hf => ?_)
  refine eg_iast S hK hM hg59 (j := 3) rfl dX10_init_135 (fun I60 eI60 H locs hM => ?_)
  have hf := nm_x eI60 hf
  refine lv_iinc (v := (4 : Int32)) (lv' := [(1, .int (4 : Int32)), (0, .ref a0)]) hx hb dX10_init_136 hl (k := 0) rfl (by decide) (by decide) rfl (fun ls hl => ?_)
  refine lv_goto (tgt := 124) hx hb dX10_init_139 (by decide) ?_
  refine lv_iload_n hx hb dX10_init_124 rfl (lv_at hl 0 rfl) ?_
  refine lv_iconst (v := (4 : Int32)) hx hb dX10_init_125 (by decide) ?_
  refine lv_icmp_ge (tgt := 142) hx hb dX10_init_126 (by decide) (fun _ => ?_) (fun h => absurd (by decide) h)
  obtain rfl := Option.some.inj hf
  subst hQ
  exact eg_vret S hr hlocks hK hZ hO (by show (kn41).length = kn.length + 11; omega) hM dX10_init_142
end CT
