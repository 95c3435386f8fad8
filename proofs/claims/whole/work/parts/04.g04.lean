section G04
variable {l : Launch} {D : va_G} {cs : mm_C} {A : Nat → Prop} {L : List Nat} {K N z : Nat → Nat} {w : Option Nat}
noncomputable def fn_X9_flood (K N : Nat → Nat) (I : Nat → Nat → Int32) (P : Nat → Nat → Option Nat) (a0 : Nat) (x1 : Int32) (x2 : Int32) (x3 : Int32) (x4 : Int32) : Option (Int32 × (Nat → Nat → Int32) × (Nat → Nat → Option Nat)) := gd (K a0 = 10) (Option.bind (P a0 (0)) (fun q2 => Option.bind (fn_X6_hasLayer K N I P q2 x1) (fun (r3 : Int32) => gd (K q2 = 7) (if r3 = 0 then (some ((-2 : Int32), I, P)) else (Option.bind (fn_X9_isDot x2 x3) (fun (r6 : Int32) => if r6 = 0 then (some ((-2 : Int32), I, P)) else (Option.bind (fn_X9_isByte x4) (fun (r8 : Int32) => if r8 = 0 then (some ((-2 : Int32), I, P)) else (Option.bind (P a0 (5)) (fun q10 => Option.bind (P q2 (0)) (fun q11 => gd (K q11 = 15 ∧ vp_in x1 (N q11)) (Option.bind (P q11 (x1.toNatClampNeg)) (fun q13 => Option.bind (fn_X9_dotAt x2 x3) (fun (r14 : Int32) => Option.bind (fn_X3_chooseRegion K N I P q10 q13 r14 x4) (fun (r15 : (Nat → Nat → Int32)) => gd (K q10 = 4) (Option.bind (P q10 (0)) (fun q17 => Option.bind (fn_X6_fillChosen K N r15 P q2 x1 q17) (fun (r18 : Int32 × (Nat → Nat → Int32) × (Nat → Nat → Option Nat)) => some (r18.1, r18.2.1, r18.2.2)))))))))))))))))))
abbrev wz_X9_flood : List Cond := Cond.code yX9_flood cX9_flood 5 (some .int) :: WA
abbrev rm_X9_flood : Room := { frames := 7, cells := 0, slots := 0, locals := 150 }
set_option maxHeartbeats 4000000 in
set_option maxRecDepth 100000 in
theorem c_X9_flood (I : Nat → Nat → Int32) (P : Nat → Nat → Option Nat) (a0 : Nat) (x1 : Int32) (x2 : Int32) (x3 : Int32) (x4 : Int32) (res : Int32 × (Nat → Nat → Int32) × (Nat → Nat → Option Nat)) (hf : fn_X9_flood K N I P a0 x1 x2 x3 x4 = some res) : Met l yX9_flood wz_X9_flood rm_X9_flood (va_Pc [.ref a0, .int x1, .int x2, .int x3, .int x4] (mm_B D cs A L K N z w I P)) (va_Qi (fun r (_ : Unit) => r = res.1) (fun _ => mm_B D cs A L K N z w res.2.1 res.2.2) A) 0 0 A := by
  refine Met.ofW (cc := cX9_flood) (maxL := 5) (ret := (some .int)) (by decide) rfl ?_
  intro p e s m args below meth c s₁ B hml hv
  obtain ⟨rfl, hBm⟩ := hv
  have hx := B.exec
  have hb := B.bytes
  have hr := B.returns
  have hts := atoms_spec (ws := wz_X9_flood) B.pre
  have hWA : ∀ w ∈ WA, w.before ([.ref a0, .int x1, .int x2, .int x3, .int x4] : List Value).toArray s = true := fun u9 h9 => hts u9 (List.mem_cons_of_mem _ h9)
  have hown : s.vm.findClass RX9 = some m.cls := findClass_of_methodNamed B.named
  have hlocks := B.notSynchronized
  have S : CallFix p m c cX9_flood 5 s ([.ref a0, .int x1, .int x2, .int x3, .int x4] : List Value).toArray wz_X9_flood RX9 := ⟨hx, hb, hml, hown, hts⟩
  have hK := hBm.2.2.2.1
  have hZ := hBm.2.2.2.2
  have hM : mm_W D cs A L K N s.heap I P s.heap [] := ⟨hBm.1, hBm.2.1, hBm.2.2.1, va_S.rf⟩
  have hl := lv_entry ([.ref a0, .int x1, .int x2, .int x3, .int x4]) (n := 5) (Nat.le_of_ble_eq_true rfl)
  rw [lg_entry_eq]
  generalize (lg_sl ([.ref a0, .int x1, .int x2, .int x3, .int x4]) ++ List.replicate (5 - (lg_sl ([.ref a0, .int x1, .int x2, .int x3, .int x4])).length) Slot.unset).toArray = ls at hl ⊢
  have hl : lv_has ls 5 [(0, .ref a0), (1, .int x1), (2, .int x2), (3, .int x3), (4, .int x4)] := hl
  have hin9 : ∀ w ∈ wsX90, w ∈ wz_X9_flood := fun w h => List.mem_cons_of_mem _ (wu_X9 w h)
  have hin6 : ∀ w ∈ wsX60, w ∈ wz_X9_flood := fun w h => List.mem_cons_of_mem _ (wu_X6 w h)
  have hin3 : ∀ w ∈ wsX30, w ∈ wz_X9_flood := fun w h => List.mem_cons_of_mem _ (wu_X3 w h)
  have lk10 : (Cond.fieldLink RX9 10 RX9 "picture" "LRasterPainter$Picture;").before ([.ref a0, .int x1, .int x2, .int x3, .int x4] : List Value).toArray s = true := hWA _ wa_2_15
  have lk40 : (Cond.fieldLink RX9 40 RX9 "choice" "LRasterPainter$Choice;").before ([.ref a0, .int x1, .int x2, .int x3, .int x4] : List Value).toArray s = true := hWA _ wa_2_20
  have lk83 : (Cond.fieldLink RX9 83 RX6 "layers" "[LRasterPainter$Layer;").before ([.ref a0, .int x1, .int x2, .int x3, .int x4] : List Value).toArray s = true := hWA _ wa_1_152
  have lk171 : (Cond.fieldLink RX9 171 RX3 "chosen" "[Z").before ([.ref a0, .int x1, .int x2, .int x3, .int x4] : List Value).toArray s = true := hWA _ wa_1_239
  generalize hQ : MQ below (va_Qi (fun r (_ : Unit) => r = res.1) (fun _ => mm_B D cs A L K N z w res.2.1 res.2.2) A) ([.ref a0, .int x1, .int x2, .int x3, .int x4] : List Value).toArray s 0 0 A = QQ
  rw [fn_X9_flood] at hf
  refine lv_aload_n hx hb dX9_flood_0 rfl (lv_at hl 0 rfl) ?_
  refine gd_e hf (fun hg1 hf => ?_)
  refine bd_e hf (fun q2 eq2 hf => ?_)
  refine ev_getP (v := q2) S hK hM (ci := 9) (n := 8) (C := RX9) (T := TX9) hin9 rfl hg1 0 (by decide) lk10 rfl rfl eq2 rfl dX9_flood_1 ?_
  refine lv_iload_n hx hb dX9_flood_4 rfl (lv_at hl 1 rfl) ?_
  refine bd_e hf (fun r3 er3 hf => ?_)
  refine gd_e hf (fun hg4 hf => ?_)
  refine ev_calli (va_runV (As := [.int x1]) (rest := []) S (c_X6_hasLayer (l := l) I P q2 x1 r3 er3) (cwV 1 hts (gi_v wa_2_76 wa_2_77 wa_2_78 wa_1_2 wa_2_79) rfl rfl rfl (by decide +kernel) ⟨Nat.le_of_ble_eq_true rfl, Nat.le_of_ble_eq_true rfl⟩) ⟨mm_B_blind, ev_recv hK hM (ci := 6) rfl hg4 rfl, fun U hU hW => ⟨rfl, mm_B_of hK hZ hM hU hW⟩⟩ rfl rfl hl.1 rfl (lv_room (Nat.le_of_ble_eq_true rfl)) dX9_flood_5 ⟨Nat.zero_le _, Nat.zero_le _⟩) hM (fun H locs hM => ?_)
  refine lv_if_eq (tgt := 27) hx hb dX9_flood_8 (by decide) (fun hc5 => ?_) (fun hc5 => ?_)
  · have hf := it_p hf hc5
    refine lv_bipush (v := (-2 : Int32)) hx hb dX9_flood_27 (by decide) ?_
    obtain rfl := Option.some.inj hf
    subst hQ
    exact ev_iret S hr hlocks hK hZ hM dX9_flood_29
  · have hf := it_n hf hc5
    refine lv_iload_n hx hb dX9_flood_11 rfl (lv_at hl 2 rfl) ?_
    refine lv_iload_n hx hb dX9_flood_12 rfl (lv_at hl 3 rfl) ?_
    refine bd_e hf (fun r6 er6 hf => ?_)
    refine ev_calli (va_runS (As := [.int x2, .int x3]) (rest := []) S (c_X9_isDot (l := l) I P x2 x3 r6 er6) (va_cwS 2 hts (gi_s wa_2_142 wa_2_143 wa_1_1 wa_2_144) rfl rfl rfl (by decide +kernel) ⟨Nat.le_of_ble_eq_true rfl, Nat.le_of_ble_eq_true rfl⟩) ⟨mm_B_blind, fun U hU hW => ⟨rfl, mm_B_of hK hZ hM hU hW⟩⟩ rfl rfl hl.1 rfl (lv_room (Nat.le_of_ble_eq_true rfl)) dX9_flood_13 ⟨Nat.zero_le _, Nat.zero_le _⟩) hM (fun H locs hM => ?_)
    refine lv_if_eq (tgt := 27) hx hb dX9_flood_16 (by decide) (fun hc7 => ?_) (fun hc7 => ?_)
    · have hf := it_p hf hc7
      refine lv_bipush (v := (-2 : Int32)) hx hb dX9_flood_27 (by decide) ?_
      obtain rfl := Option.some.inj hf
      subst hQ
      exact ev_iret S hr hlocks hK hZ hM dX9_flood_29
    · have hf := it_n hf hc7
      refine lv_iload hx hb dX9_flood_19 (lv_at hl 4 rfl) ?_
      refine bd_e hf (fun r8 er8 hf => ?_)
      refine ev_calli (va_runS (As := [.int x4]) (rest := []) S (c_X9_isByte (l := l) I P x4 r8 er8) (va_cwS 1 hts (gi_s wa_2_50 wa_2_51 wa_1_1 wa_2_52) rfl rfl rfl (by decide +kernel) ⟨Nat.le_of_ble_eq_true rfl, Nat.le_of_ble_eq_true rfl⟩) ⟨mm_B_blind, fun U hU hW => ⟨rfl, mm_B_of hK hZ hM hU hW⟩⟩ rfl rfl hl.1 rfl (lv_room (Nat.le_of_ble_eq_true rfl)) dX9_flood_21 ⟨Nat.zero_le _, Nat.zero_le _⟩) hM (fun H locs hM => ?_)
      refine lv_if_ne (tgt := 30) hx hb dX9_flood_24 (by decide) (fun hc9 => ?_) (fun hc9 => ?_)
      · have hf := it_n hf hc9
        refine lv_aload_n hx hb dX9_flood_30 rfl (lv_at hl 0 rfl) ?_
        refine bd_e hf (fun q10 eq10 hf => ?_)
        refine ev_getP (v := q10) S hK hM (ci := 9) (n := 8) (C := RX9) (T := TX9) hin9 rfl hg1 5 (by decide) lk40 rfl rfl eq10 rfl dX9_flood_31 ?_
        refine lv_aload_n hx hb dX9_flood_34 rfl (lv_at hl 0 rfl) ?_
        refine ev_getP (v := q2) S hK hM (ci := 9) (n := 8) (C := RX9) (T := TX9) hin9 rfl hg1 0 (by decide) lk10 rfl rfl eq2 rfl dX9_flood_35 ?_
        refine bd_e hf (fun q11 eq11 hf => ?_)
        refine ev_getP (v := q11) S hK hM (ci := 6) (n := 6) (C := RX6) (T := TX6) hin6 rfl hg4 0 (by decide) lk83 rfl rfl eq11 rfl dX9_flood_38 ?_
        refine lv_iload_n hx hb dX9_flood_41 rfl (lv_at hl 1 rfl) ?_
        refine gd_e hf (fun hg12 hf => ?_)
        refine bd_e hf (fun q13 eq13 hf => ?_)
        refine ev_aald15 S hK hM hg12 (j := x1.toNatClampNeg) rfl eq13 dX9_flood_42 ?_
        refine lv_iload_n hx hb dX9_flood_43 rfl (lv_at hl 2 rfl) ?_
        refine lv_iload_n hx hb dX9_flood_44 rfl (lv_at hl 3 rfl) ?_
        refine bd_e hf (fun r14 er14 hf => ?_)
        refine ev_calli (va_runS (As := [.int x2, .int x3]) (rest := [.ref q13, .ref q10]) S (c_X9_dotAt (l := l) I P x2 x3 r14 er14) (va_cwS 2 hts (gi_s wa_2_148 wa_2_149 wa_1_1 wa_2_150) rfl rfl rfl (by decide +kernel) ⟨Nat.le_of_ble_eq_true rfl, Nat.le_of_ble_eq_true rfl⟩) ⟨mm_B_blind, fun U hU hW => ⟨rfl, mm_B_of hK hZ hM hU hW⟩⟩ rfl rfl hl.1 rfl (lv_room (Nat.le_of_ble_eq_true rfl)) dX9_flood_45 ⟨Nat.zero_le _, Nat.zero_le _⟩) hM (fun H locs hM => ?_)
        refine lv_iload hx hb dX9_flood_48 (lv_at hl 4 rfl) ?_
        refine bd_e hf (fun r15 er15 hf => ?_)
        refine gd_e hf (fun hg16 hf => ?_)
        refine ev_callv (va_runV (As := [.ref q13, .int r14, .int x4]) (rest := []) S (c_X3_chooseRegion (l := l) I P q10 q13 r14 x4 r15 er15) (cwV 3 hts (gi_v wa_3_150 wa_3_151 wa_3_152 wa_1_10 wa_3_153) rfl rfl rfl (by decide +kernel) ⟨Nat.le_of_ble_eq_true rfl, Nat.le_of_ble_eq_true rfl⟩) ⟨mm_B_blind, ev_recv hK hM (ci := 3) rfl hg16 rfl, fun U hU hW => ⟨rfl, mm_B_of hK hZ hM hU hW⟩⟩ rfl rfl hl.1 rfl (lv_room (Nat.le_of_ble_eq_true rfl)) dX9_flood_50 ⟨Nat.zero_le _, Nat.zero_le _⟩) hM (fun H locs hM => ?_)
        refine lv_aload_n hx hb dX9_flood_53 rfl (lv_at hl 0 rfl) ?_
        refine ev_getP (v := q2) S hK hM (ci := 9) (n := 8) (C := RX9) (T := TX9) hin9 rfl hg1 0 (by decide) lk10 rfl rfl eq2 rfl dX9_flood_54 ?_
        refine lv_iload_n hx hb dX9_flood_57 rfl (lv_at hl 1 rfl) ?_
        refine lv_aload_n hx hb dX9_flood_58 rfl (lv_at hl 0 rfl) ?_
        refine ev_getP (v := q10) S hK hM (ci := 9) (n := 8) (C := RX9) (T := TX9) hin9 rfl hg1 5 (by decide) lk40 rfl rfl eq10 rfl dX9_flood_59 ?_
        refine bd_e hf (fun q17 eq17 hf => ?_)
        refine ev_getP (v := q17) S hK hM (ci := 3) (n := 4) (C := RX3) (T := TX3) hin3 rfl hg16 0 (by decide) lk171 rfl rfl eq17 rfl dX9_flood_62 ?_
        refine bd_e hf (fun r18 er18 hf => ?_)
        refine ev_calli (va_runV (As := [.int x1, .ref q17]) (rest := []) S (c_X6_fillChosen (l := l) r15 P q2 x1 q17 r18 er18) (cwV 2 hts (gi_v wa_3_142 wa_3_143 wa_3_144 wa_1_2 wa_3_145) rfl rfl rfl (by decide +kernel) ⟨Nat.le_of_ble_eq_true rfl, Nat.le_of_ble_eq_true rfl⟩) ⟨mm_B_blind, ev_recv hK hM (ci := 6) rfl hg4 rfl, fun U hU hW => ⟨rfl, mm_B_of hK hZ hM hU hW⟩⟩ rfl rfl hl.1 rfl (lv_room (Nat.le_of_ble_eq_true rfl)) dX9_flood_65 ⟨Nat.zero_le _, Nat.zero_le _⟩) hM (fun H locs hM => ?_)
        obtain rfl := Option.some.inj hf
        subst hQ
        exact ev_iret S hr hlocks hK hZ hM dX9_flood_68
      · have hf := it_p hf hc9
        refine lv_bipush (v := (-2 : Int32)) hx hb dX9_flood_27 (by decide) ?_
        obtain rfl := Option.some.inj hf
        subst hQ
        exact ev_iret S hr hlocks hK hZ hM dX9_flood_29
noncomputable def fn_X9_undo (K N : Nat → Nat) (I : Nat → Nat → Int32) (P : Nat → Nat → Option Nat) (a0 : Nat) (x1 : Int32) : Option (Int32 × (Nat → Nat → Int32)) := if x1 = (0 : Int32) then (gd (K a0 = 10) (Option.bind (P a0 (0)) (fun q4 => gd (K q4 = 7) (Option.bind (P q4 (5)) (fun q6 => Option.bind (P q4 (0)) (fun q7 => Option.bind (fn_X1_takeBack K N I P q6 q7) (fun (r8 : Int32 × (Nat → Nat → Int32)) => gd (K q6 = 2) (some (r8.1, r8.2))))))))) else (if x1 = (1 : Int32) then (gd (K a0 = 10) (Option.bind (P a0 (0)) (fun q11 => gd (K q11 = 7) (Option.bind (P q11 (5)) (fun q13 => Option.bind (P q11 (0)) (fun q14 => Option.bind (fn_X1_doAgain K N I P q13 q14) (fun (r15 : Int32 × (Nat → Nat → Int32)) => gd (K q13 = 2) (some (r15.1, r15.2))))))))) else (some ((-2 : Int32), I)))
abbrev wz_X9_undo : List Cond := Cond.code yX9_undo cX9_undo 2 (some .int) :: WA
abbrev rm_X9_undo : Room := { frames := 5, cells := 0, slots := 0, locals := 100 }
set_option maxHeartbeats 4000000 in
set_option maxRecDepth 100000 in
theorem c_X9_undo (I : Nat → Nat → Int32) (P : Nat → Nat → Option Nat) (a0 : Nat) (x1 : Int32) (res : Int32 × (Nat → Nat → Int32)) (hf : fn_X9_undo K N I P a0 x1 = some res) : Met l yX9_undo wz_X9_undo rm_X9_undo (va_Pc [.ref a0, .int x1] (mm_B D cs A L K N z w I P)) (va_Qi (fun r (_ : Unit) => r = res.1) (fun _ => mm_B D cs A L K N z w res.2 P) A) 0 0 A := by
  refine Met.ofW (cc := cX9_undo) (maxL := 2) (ret := (some .int)) (by decide) rfl ?_
  intro p e s m args below meth c s₁ B hml hv
  obtain ⟨rfl, hBm⟩ := hv
  have hx := B.exec
  have hb := B.bytes
  have hr := B.returns
  have hts := atoms_spec (ws := wz_X9_undo) B.pre
  have hWA : ∀ w ∈ WA, w.before ([.ref a0, .int x1] : List Value).toArray s = true := fun u9 h9 => hts u9 (List.mem_cons_of_mem _ h9)
  have hown : s.vm.findClass RX9 = some m.cls := findClass_of_methodNamed B.named
  have hlocks := B.notSynchronized
  have S : CallFix p m c cX9_undo 2 s ([.ref a0, .int x1] : List Value).toArray wz_X9_undo RX9 := ⟨hx, hb, hml, hown, hts⟩
  have hK := hBm.2.2.2.1
  have hZ := hBm.2.2.2.2
  have hM : mm_W D cs A L K N s.heap I P s.heap [] := ⟨hBm.1, hBm.2.1, hBm.2.2.1, va_S.rf⟩
  have hl := lv_entry ([.ref a0, .int x1]) (n := 2) (Nat.le_of_ble_eq_true rfl)
  rw [lg_entry_eq]
  generalize (lg_sl ([.ref a0, .int x1]) ++ List.replicate (2 - (lg_sl ([.ref a0, .int x1])).length) Slot.unset).toArray = ls at hl ⊢
  have hl : lv_has ls 2 [(0, .ref a0), (1, .int x1)] := hl
  have hin9 : ∀ w ∈ wsX90, w ∈ wz_X9_undo := fun w h => List.mem_cons_of_mem _ (wu_X9 w h)
  have hin6 : ∀ w ∈ wsX60, w ∈ wz_X9_undo := fun w h => List.mem_cons_of_mem _ (wu_X6 w h)
  have lk10 : (Cond.fieldLink RX9 10 RX9 "picture" "LRasterPainter$Picture;").before ([.ref a0, .int x1] : List Value).toArray s = true := hWA _ wa_2_15
  have lk183 : (Cond.fieldLink RX9 183 RX6 "acts" "LRasterPainter$Acts;").before ([.ref a0, .int x1] : List Value).toArray s = true := hWA _ wa_1_162
  have lk83 : (Cond.fieldLink RX9 83 RX6 "layers" "[LRasterPainter$Layer;").before ([.ref a0, .int x1] : List Value).toArray s = true := hWA _ wa_1_152
  generalize hQ : MQ below (va_Qi (fun r (_ : Unit) => r = res.1) (fun _ => mm_B D cs A L K N z w res.2 P) A) ([.ref a0, .int x1] : List Value).toArray s 0 0 A = QQ
  rw [fn_X9_undo] at hf
  refine lv_iload_n hx hb dX9_undo_0 rfl (lv_at hl 1 rfl) ?_
  refine (Classical.em (x1 = (0 : Int32))).elim (fun hc1 => ?_) (fun hc1 => ?_)
  · have hf := it_p hf hc1
    refine lv_lookup (off := 27) (tgt := 28) hx hb dX9_undo_1 (by decide) (by rw [hc1]; decide) (by decide) ?_
    refine lv_aload_n hx hb dX9_undo_28 rfl (lv_at hl 0 rfl) ?_
    refine gd_e hf (fun hg3 hf => ?_)
    refine bd_e hf (fun q4 eq4 hf => ?_)
    refine ev_getP (v := q4) S hK hM (ci := 9) (n := 8) (C := RX9) (T := TX9) hin9 rfl hg3 0 (by decide) lk10 rfl rfl eq4 rfl dX9_undo_29 ?_
    refine gd_e hf (fun hg5 hf => ?_)
    refine bd_e hf (fun q6 eq6 hf => ?_)
    refine ev_getP (v := q6) S hK hM (ci := 6) (n := 6) (C := RX6) (T := TX6) hin6 rfl hg5 5 (by decide) lk183 rfl rfl eq6 rfl dX9_undo_32 ?_
    refine lv_aload_n hx hb dX9_undo_35 rfl (lv_at hl 0 rfl) ?_
    refine ev_getP (v := q4) S hK hM (ci := 9) (n := 8) (C := RX9) (T := TX9) hin9 rfl hg3 0 (by decide) lk10 rfl rfl eq4 rfl dX9_undo_36 ?_
    refine bd_e hf (fun q7 eq7 hf => ?_)
    refine ev_getP (v := q7) S hK hM (ci := 6) (n := 6) (C := RX6) (T := TX6) hin6 rfl hg5 0 (by decide) lk83 rfl rfl eq7 rfl dX9_undo_39 ?_
    refine bd_e hf (fun r8 er8 hf => ?_)
    refine gd_e hf (fun hg9 hf => ?_)
    refine ev_calli (va_runV (As := [.ref q7]) (rest := []) S (c_X1_takeBack (l := l) I P q6 q7 r8 er8) (cwV 1 hts (gi_v wa_3_168 wa_3_169 wa_3_170 wa_1_5 wa_3_171) rfl rfl rfl (by decide +kernel) ⟨Nat.le_of_ble_eq_true rfl, Nat.le_of_ble_eq_true rfl⟩) ⟨mm_B_blind, ev_recv hK hM (ci := 1) rfl hg9 rfl, fun U hU hW => ⟨rfl, mm_B_of hK hZ hM hU hW⟩⟩ rfl rfl hl.1 rfl (lv_room (Nat.le_of_ble_eq_true rfl)) dX9_undo_42 ⟨Nat.zero_le _, Nat.zero_le _⟩) hM (fun H locs hM => ?_)
    obtain rfl := Option.some.inj hf
    subst hQ
    exact ev_iret S hr hlocks hK hZ hM dX9_undo_45
  · have hf := it_n hf hc1
    refine (Classical.em (x1 = (1 : Int32))).elim (fun hc2 => ?_) (fun hc2 => ?_)
    · have hf := it_p hf hc2
      refine lv_lookup (off := 45) (tgt := 46) hx hb dX9_undo_1 (by decide) (by rw [hc2]; decide) (by decide) ?_
      refine lv_aload_n hx hb dX9_undo_46 rfl (lv_at hl 0 rfl) ?_
      refine gd_e hf (fun hg10 hf => ?_)
      refine bd_e hf (fun q11 eq11 hf => ?_)
      refine ev_getP (v := q11) S hK hM (ci := 9) (n := 8) (C := RX9) (T := TX9) hin9 rfl hg10 0 (by decide) lk10 rfl rfl eq11 rfl dX9_undo_47 ?_
      refine gd_e hf (fun hg12 hf => ?_)
      refine bd_e hf (fun q13 eq13 hf => ?_)
      refine ev_getP (v := q13) S hK hM (ci := 6) (n := 6) (C := RX6) (T := TX6) hin6 rfl hg12 5 (by decide) lk183 rfl rfl eq13 rfl dX9_undo_50 ?_
      refine lv_aload_n hx hb dX9_undo_53 rfl (lv_at hl 0 rfl) ?_
      refine ev_getP (v := q11) S hK hM (ci := 9) (n := 8) (C := RX9) (T := TX9) hin9 rfl hg10 0 (by decide) lk10 rfl rfl eq11 rfl dX9_undo_54 ?_
      refine bd_e hf (fun q14 eq14 hf => ?_)
      refine ev_getP (v := q14) S hK hM (ci := 6) (n := 6) (C := RX6) (T := TX6) hin6 rfl hg12 0 (by decide) lk83 rfl rfl eq14 rfl dX9_undo_57 ?_
      refine bd_e hf (fun r15 er15 hf => ?_)
      refine gd_e hf (fun hg16 hf => ?_)
      refine ev_calli (va_runV (As := [.ref q14]) (rest := []) S (c_X1_doAgain (l := l) I P q13 q14 r15 er15) (cwV 1 hts (gi_v wa_3_185 wa_3_186 wa_3_187 wa_1_5 wa_3_188) rfl rfl rfl (by decide +kernel) ⟨Nat.le_of_ble_eq_true rfl, Nat.le_of_ble_eq_true rfl⟩) ⟨mm_B_blind, ev_recv hK hM (ci := 1) rfl hg16 rfl, fun U hU hW => ⟨rfl, mm_B_of hK hZ hM hU hW⟩⟩ rfl rfl hl.1 rfl (lv_room (Nat.le_of_ble_eq_true rfl)) dX9_undo_60 ⟨Nat.zero_le _, Nat.zero_le _⟩) hM (fun H locs hM => ?_)
      obtain rfl := Option.some.inj hf
      subst hQ
      exact ev_iret S hr hlocks hK hZ hM dX9_undo_63
    · have hf := it_n hf hc2
      refine lv_lookup (off := 63) (tgt := 64) hx hb dX9_undo_1 (by decide) (by have t0 := ne_t hc1 (y := 0) rfl; have t1 := ne_t hc2 (y := 1) rfl; simp [Op.lookupswitch.offset, Ne.symm t0, Ne.symm t1, t0, t1]) (by decide) ?_
      refine lv_bipush (v := (-2 : Int32)) hx hb dX9_undo_64 (by decide) ?_
      obtain rfl := Option.some.inj hf
      subst hQ
      exact ev_iret S hr hlocks hK hZ hM dX9_undo_66
noncomputable def fn_X9_mask (K N : Nat → Nat) (I : Nat → Nat → Int32) (P : Nat → Nat → Option Nat) (a0 : Nat) (x1 : Int32) (x2 : Int32) (x3 : Int32) (x4 : Int32) (x5 : Int32) : Option (Int32 × (Nat → Nat → Int32)) := Option.bind (fn_X9_isDot x1 x2) (fun (r1 : Int32) => if r1 = 0 then (some ((-2 : Int32), I)) else (Option.bind (fn_X9_isDot x3 x4) (fun (r3 : Int32) => if r3 = 0 then (some ((-2 : Int32), I)) else (Option.bind (fn_X9_isWithin x5 (0 : Int32) (3 : Int32)) (fun (r5 : Int32) => if r5 = 0 then (some ((-2 : Int32), I)) else (gd (K a0 = 10) (Option.bind (P a0 (5)) (fun q8 => Option.bind (fn_X3_chooseBox K N I P q8 x1 x2 x3 x4) (fun (r9 : (Nat → Nat → Int32)) => gd (K q8 = 4) (Option.bind (P a0 (0)) (fun q11 => gd (K q11 = 7) (Option.bind (P q11 (3)) (fun q13 => Option.bind (P q8 (0)) (fun q14 => Option.bind (fn_X5_join K N r9 P q13 q14 x5) (fun (r15 : (Nat → Nat → Int32)) => gd (K q13 = 6) (some ((r15 q13 1), r15)))))))))))))))))
abbrev wz_X9_mask : List Cond := Cond.code yX9_mask cX9_mask 6 (some .int) :: WA
abbrev rm_X9_mask : Room := { frames := 4, cells := 0, slots := 0, locals := 75 }
set_option maxHeartbeats 4000000 in
set_option maxRecDepth 100000 in
theorem c_X9_mask (I : Nat → Nat → Int32) (P : Nat → Nat → Option Nat) (a0 : Nat) (x1 : Int32) (x2 : Int32) (x3 : Int32) (x4 : Int32) (x5 : Int32) (res : Int32 × (Nat → Nat → Int32)) (hf : fn_X9_mask K N I P a0 x1 x2 x3 x4 x5 = some res) : Met l yX9_mask wz_X9_mask rm_X9_mask (va_Pc [.ref a0, .int x1, .int x2, .int x3, .int x4, .int x5] (mm_B D cs A L K N z w I P)) (va_Qi (fun r (_ : Unit) => r = res.1) (fun _ => mm_B D cs A L K N z w res.2 P) A) 0 0 A := by
  refine Met.ofW (cc := cX9_mask) (maxL := 6) (ret := (some .int)) (by decide) rfl ?_
  intro p e s m args below meth c s₁ B hml hv
  obtain ⟨rfl, hBm⟩ := hv
  have hx := B.exec
  have hb := B.bytes
  have hr := B.returns
  have hts := atoms_spec (ws := wz_X9_mask) B.pre
  have hWA : ∀ w ∈ WA, w.before ([.ref a0, .int x1, .int x2, .int x3, .int x4, .int x5] : List Value).toArray s = true := fun u9 h9 => hts u9 (List.mem_cons_of_mem _ h9)
  have hown : s.vm.findClass RX9 = some m.cls := findClass_of_methodNamed B.named
  have hlocks := B.notSynchronized
  have S : CallFix p m c cX9_mask 6 s ([.ref a0, .int x1, .int x2, .int x3, .int x4, .int x5] : List Value).toArray wz_X9_mask RX9 := ⟨hx, hb, hml, hown, hts⟩
  have hK := hBm.2.2.2.1
  have hZ := hBm.2.2.2.2
  have hM : mm_W D cs A L K N s.heap I P s.heap [] := ⟨hBm.1, hBm.2.1, hBm.2.2.1, va_S.rf⟩
  have hl := lv_entry ([.ref a0, .int x1, .int x2, .int x3, .int x4, .int x5]) (n := 6) (Nat.le_of_ble_eq_true rfl)
  rw [lg_entry_eq]
  generalize (lg_sl ([.ref a0, .int x1, .int x2, .int x3, .int x4, .int x5]) ++ List.replicate (6 - (lg_sl ([.ref a0, .int x1, .int x2, .int x3, .int x4, .int x5])).length) Slot.unset).toArray = ls at hl ⊢
  have hl : lv_has ls 6 [(0, .ref a0), (1, .int x1), (2, .int x2), (3, .int x3), (4, .int x4), (5, .int x5)] := hl
  have hin9 : ∀ w ∈ wsX90, w ∈ wz_X9_mask := fun w h => List.mem_cons_of_mem _ (wu_X9 w h)
  have hin6 : ∀ w ∈ wsX60, w ∈ wz_X9_mask := fun w h => List.mem_cons_of_mem _ (wu_X6 w h)
  have hin3 : ∀ w ∈ wsX30, w ∈ wz_X9_mask := fun w h => List.mem_cons_of_mem _ (wu_X3 w h)
  have hin5 : ∀ w ∈ wsX50, w ∈ wz_X9_mask := fun w h => List.mem_cons_of_mem _ (wu_X5 w h)
  have lk40 : (Cond.fieldLink RX9 40 RX9 "choice" "LRasterPainter$Choice;").before ([.ref a0, .int x1, .int x2, .int x3, .int x4, .int x5] : List Value).toArray s = true := hWA _ wa_2_20
  have lk10 : (Cond.fieldLink RX9 10 RX9 "picture" "LRasterPainter$Picture;").before ([.ref a0, .int x1, .int x2, .int x3, .int x4, .int x5] : List Value).toArray s = true := hWA _ wa_2_15
  have lk196 : (Cond.fieldLink RX9 196 RX6 "mask" "LRasterPainter$Mask;").before ([.ref a0, .int x1, .int x2, .int x3, .int x4, .int x5] : List Value).toArray s = true := hWA _ wa_1_158
  have lk171 : (Cond.fieldLink RX9 171 RX3 "chosen" "[Z").before ([.ref a0, .int x1, .int x2, .int x3, .int x4, .int x5] : List Value).toArray s = true := hWA _ wa_1_239
  have lk206 : (Cond.fieldLink RX9 206 RX5 "size" "I").before ([.ref a0, .int x1, .int x2, .int x3, .int x4, .int x5] : List Value).toArray s = true := hWA _ wa_1_46
  generalize hQ : MQ below (va_Qi (fun r (_ : Unit) => r = res.1) (fun _ => mm_B D cs A L K N z w res.2 P) A) ([.ref a0, .int x1, .int x2, .int x3, .int x4, .int x5] : List Value).toArray s 0 0 A = QQ
  rw [fn_X9_mask] at hf
  refine lv_iload_n hx hb dX9_mask_0 rfl (lv_at hl 1 rfl) ?_
  refine lv_iload_n hx hb dX9_mask_1 rfl (lv_at hl 2 rfl) ?_
  refine bd_e hf (fun r1 er1 hf => ?_)
  refine ev_calli (va_runS (As := [.int x1, .int x2]) (rest := []) S (c_X9_isDot (l := l) I P x1 x2 r1 er1) (va_cwS 2 hts (gi_s wa_2_142 wa_2_143 wa_1_1 wa_2_144) rfl rfl rfl (by decide +kernel) ⟨Nat.le_of_ble_eq_true rfl, Nat.le_of_ble_eq_true rfl⟩) ⟨mm_B_blind, fun U hU hW => ⟨rfl, mm_B_of hK hZ hM hU hW⟩⟩ rfl rfl hl.1 rfl (lv_room (Nat.le_of_ble_eq_true rfl)) dX9_mask_2 ⟨Nat.zero_le _, Nat.zero_le _⟩) hM (fun H locs hM => ?_)
  refine lv_if_eq (tgt := 27) hx hb dX9_mask_5 (by decide) (fun hc2 => ?_) (fun hc2 => ?_)
  · have hf := it_p hf hc2
    refine lv_bipush (v := (-2 : Int32)) hx hb dX9_mask_27 (by decide) ?_
    obtain rfl := Option.some.inj hf
    subst hQ
    exact ev_iret S hr hlocks hK hZ hM dX9_mask_29
  · have hf := it_n hf hc2
    refine lv_iload_n hx hb dX9_mask_8 rfl (lv_at hl 3 rfl) ?_
    refine lv_iload hx hb dX9_mask_9 (lv_at hl 4 rfl) ?_
    refine bd_e hf (fun r3 er3 hf => ?_)
    refine ev_calli (va_runS (As := [.int x3, .int x4]) (rest := []) S (c_X9_isDot (l := l) I P x3 x4 r3 er3) (va_cwS 2 hts (gi_s wa_2_142 wa_2_143 wa_1_1 wa_2_144) rfl rfl rfl (by decide +kernel) ⟨Nat.le_of_ble_eq_true rfl, Nat.le_of_ble_eq_true rfl⟩) ⟨mm_B_blind, fun U hU hW => ⟨rfl, mm_B_of hK hZ hM hU hW⟩⟩ rfl rfl hl.1 rfl (lv_room (Nat.le_of_ble_eq_true rfl)) dX9_mask_11 ⟨Nat.zero_le _, Nat.zero_le _⟩) hM (fun H locs hM => ?_)
    refine lv_if_eq (tgt := 27) hx hb dX9_mask_14 (by decide) (fun hc4 => ?_) (fun hc4 => ?_)
    · have hf := it_p hf hc4
      refine lv_bipush (v := (-2 : Int32)) hx hb dX9_mask_27 (by decide) ?_
      obtain rfl := Option.some.inj hf
      subst hQ
      exact ev_iret S hr hlocks hK hZ hM dX9_mask_29
    · have hf := it_n hf hc4
      refine lv_iload hx hb dX9_mask_17 (lv_at hl 5 rfl) ?_
      refine lv_iconst (v := (0 : Int32)) hx hb dX9_mask_19 (by decide) ?_
      refine lv_iconst (v := (3 : Int32)) hx hb dX9_mask_20 (by decide) ?_
      refine bd_e hf (fun r5 er5 hf => ?_)
      refine ev_calli (va_runS (As := [.int x5, .int (0 : Int32), .int (3 : Int32)]) (rest := []) S (c_X9_isWithin (l := l) I P x5 (0 : Int32) (3 : Int32) r5 er5) (va_cwS 3 hts (gi_s wa_2_47 wa_2_48 wa_1_1 wa_2_49) rfl rfl rfl (by decide +kernel) ⟨Nat.le_of_ble_eq_true rfl, Nat.le_of_ble_eq_true rfl⟩) ⟨mm_B_blind, fun U hU hW => ⟨rfl, mm_B_of hK hZ hM hU hW⟩⟩ rfl rfl hl.1 rfl (lv_room (Nat.le_of_ble_eq_true rfl)) dX9_mask_21 ⟨Nat.zero_le _, Nat.zero_le _⟩) hM (fun H locs hM => ?_)
      refine lv_if_ne (tgt := 30) hx hb dX9_mask_24 (by decide) (fun hc6 => ?_) (fun hc6 => ?_)
      · have hf := it_n hf hc6
        refine lv_aload_n hx hb dX9_mask_30 rfl (lv_at hl 0 rfl) ?_
        refine gd_e hf (fun hg7 hf => ?_)
        refine bd_e hf (fun q8 eq8 hf => ?_)
        refine ev_getP (v := q8) S hK hM (ci := 9) (n := 8) (C := RX9) (T := TX9) hin9 rfl hg7 5 (by decide) lk40 rfl rfl eq8 rfl dX9_mask_31 ?_
        refine lv_iload_n hx hb dX9_mask_34 rfl (lv_at hl 1 rfl) ?_
        refine lv_iload_n hx hb dX9_mask_35 rfl (lv_at hl 2 rfl) ?_
        refine lv_iload_n hx hb dX9_mask_36 rfl (lv_at hl 3 rfl) ?_
        refine lv_iload hx hb dX9_mask_37 (lv_at hl 4 rfl) ?_
        refine bd_e hf (fun r9 er9 hf => ?_)
        refine gd_e hf (fun hg10 hf => ?_)
        refine ev_callv (va_runV (As := [.int x1, .int x2, .int x3, .int x4]) (rest := []) S (c_X3_chooseBox (l := l) I P q8 x1 x2 x3 x4 r9 er9) (cwV 4 hts (gi_v wa_3_131 wa_3_132 wa_3_133 wa_1_10 wa_3_134) rfl rfl rfl (by decide +kernel) ⟨Nat.le_of_ble_eq_true rfl, Nat.le_of_ble_eq_true rfl⟩) ⟨mm_B_blind, ev_recv hK hM (ci := 3) rfl hg10 rfl, fun U hU hW => ⟨rfl, mm_B_of hK hZ hM hU hW⟩⟩ rfl rfl hl.1 rfl (lv_room (Nat.le_of_ble_eq_true rfl)) dX9_mask_39 ⟨Nat.zero_le _, Nat.zero_le _⟩) hM (fun H locs hM => ?_)
        refine lv_aload_n hx hb dX9_mask_42 rfl (lv_at hl 0 rfl) ?_
        refine bd_e hf (fun q11 eq11 hf => ?_)
        refine ev_getP (v := q11) S hK hM (ci := 9) (n := 8) (C := RX9) (T := TX9) hin9 rfl hg7 0 (by decide) lk10 rfl rfl eq11 rfl dX9_mask_43 ?_
        refine gd_e hf (fun hg12 hf => ?_)
        refine bd_e hf (fun q13 eq13 hf => ?_)
        refine ev_getP (v := q13) S hK hM (ci := 6) (n := 6) (C := RX6) (T := TX6) hin6 rfl hg12 3 (by decide) lk196 rfl rfl eq13 rfl dX9_mask_46 ?_
        refine lv_aload_n hx hb dX9_mask_49 rfl (lv_at hl 0 rfl) ?_
        refine ev_getP (v := q8) S hK hM (ci := 9) (n := 8) (C := RX9) (T := TX9) hin9 rfl hg7 5 (by decide) lk40 rfl rfl eq8 rfl dX9_mask_50 ?_
        refine bd_e hf (fun q14 eq14 hf => ?_)
        refine ev_getP (v := q14) S hK hM (ci := 3) (n := 4) (C := RX3) (T := TX3) hin3 rfl hg10 0 (by decide) lk171 rfl rfl eq14 rfl dX9_mask_53 ?_
        refine lv_iload hx hb dX9_mask_56 (lv_at hl 5 rfl) ?_
        refine bd_e hf (fun r15 er15 hf => ?_)
        refine gd_e hf (fun hg16 hf => ?_)
        refine ev_callv (va_runV (As := [.ref q14, .int x5]) (rest := []) S (c_X5_join (l := l) r9 P q13 q14 x5 r15 er15) (cwV 2 hts (gi_v wa_3_193 wa_3_194 wa_3_195 wa_1_3 wa_3_196) rfl rfl rfl (by decide +kernel) ⟨Nat.le_of_ble_eq_true rfl, Nat.le_of_ble_eq_true rfl⟩) ⟨mm_B_blind, ev_recv hK hM (ci := 5) rfl hg16 rfl, fun U hU hW => ⟨rfl, mm_B_of hK hZ hM hU hW⟩⟩ rfl rfl hl.1 rfl (lv_room (Nat.le_of_ble_eq_true rfl)) dX9_mask_58 ⟨Nat.zero_le _, Nat.zero_le _⟩) hM (fun H locs hM => ?_)
        refine lv_aload_n hx hb dX9_mask_61 rfl (lv_at hl 0 rfl) ?_
        refine ev_getP (v := q11) S hK hM (ci := 9) (n := 8) (C := RX9) (T := TX9) hin9 rfl hg7 0 (by decide) lk10 rfl rfl eq11 rfl dX9_mask_62 ?_
        refine ev_getP (v := q13) S hK hM (ci := 6) (n := 6) (C := RX6) (T := TX6) hin6 rfl hg12 3 (by decide) lk196 rfl rfl eq13 rfl dX9_mask_65 ?_
        refine ev_get (v := .int (r15 q13 1)) S hK hM (ci := 5) (n := 2) (C := RX5) (T := TX5) hin5 rfl hg16 1 (by decide) lk206 rfl rfl rfl dX9_mask_68 ?_
        obtain rfl := Option.some.inj hf
        subst hQ
        exact ev_iret S hr hlocks hK hZ hM dX9_mask_71
      · have hf := it_p hf hc6
        refine lv_bipush (v := (-2 : Int32)) hx hb dX9_mask_27 (by decide) ?_
        obtain rfl := Option.some.inj hf
        subst hQ
        exact ev_iret S hr hlocks hK hZ hM dX9_mask_29
noncomputable def fn_X9_wand (K N : Nat → Nat) (I : Nat → Nat → Int32) (P : Nat → Nat → Option Nat) (a0 : Nat) (x1 : Int32) (x2 : Int32) (x3 : Int32) (x4 : Int32) (x5 : Int32) : Option (Int32 × (Nat → Nat → Int32)) := gd (K a0 = 10) (Option.bind (P a0 (0)) (fun q2 => Option.bind (fn_X6_hasLayer K N I P q2 x1) (fun (r3 : Int32) => gd (K q2 = 7) (if r3 = 0 then (some ((-2 : Int32), I)) else (Option.bind (fn_X9_isDot x2 x3) (fun (r6 : Int32) => if r6 = 0 then (some ((-2 : Int32), I)) else (Option.bind (fn_X9_isByte x4) (fun (r8 : Int32) => if r8 = 0 then (some ((-2 : Int32), I)) else (Option.bind (fn_X9_isWithin x5 (0 : Int32) (3 : Int32)) (fun (r10 : Int32) => if r10 = 0 then (some ((-2 : Int32), I)) else (Option.bind (P a0 (5)) (fun q12 => Option.bind (P q2 (0)) (fun q13 => gd (K q13 = 15 ∧ vp_in x1 (N q13)) (Option.bind (P q13 (x1.toNatClampNeg)) (fun q15 => Option.bind (fn_X9_dotAt x2 x3) (fun (r16 : Int32) => Option.bind (fn_X3_chooseRegion K N I P q12 q15 r16 x4) (fun (r17 : (Nat → Nat → Int32)) => gd (K q12 = 4) (Option.bind (P q2 (3)) (fun q19 => Option.bind (P q12 (0)) (fun q20 => Option.bind (fn_X5_join K N r17 P q19 q20 x5) (fun (r21 : (Nat → Nat → Int32)) => gd (K q19 = 6) (some ((r21 q19 1), r21)))))))))))))))))))))))
abbrev wz_X9_wand : List Cond := Cond.code yX9_wand cX9_wand 6 (some .int) :: WA
abbrev rm_X9_wand : Room := { frames := 7, cells := 0, slots := 0, locals := 150 }
set_option maxHeartbeats 4000000 in
set_option maxRecDepth 100000 in
theorem c_X9_wand (I : Nat → Nat → Int32) (P : Nat → Nat → Option Nat) (a0 : Nat) (x1 : Int32) (x2 : Int32) (x3 : Int32) (x4 : Int32) (x5 : Int32) (res : Int32 × (Nat → Nat → Int32)) (hf : fn_X9_wand K N I P a0 x1 x2 x3 x4 x5 = some res) : Met l yX9_wand wz_X9_wand rm_X9_wand (va_Pc [.ref a0, .int x1, .int x2, .int x3, .int x4, .int x5] (mm_B D cs A L K N z w I P)) (va_Qi (fun r (_ : Unit) => r = res.1) (fun _ => mm_B D cs A L K N z w res.2 P) A) 0 0 A := by
  refine Met.ofW (cc := cX9_wand) (maxL := 6) (ret := (some .int)) (by decide) rfl ?_
  intro p e s m args below meth c s₁ B hml hv
  obtain ⟨rfl, hBm⟩ := hv
  have hx := B.exec
  have hb := B.bytes
  have hr := B.returns
  have hts := atoms_spec (ws := wz_X9_wand) B.pre
  have hWA : ∀ w ∈ WA, w.before ([.ref a0, .int x1, .int x2, .int x3, .int x4, .int x5] : List Value).toArray s = true := fun u9 h9 => hts u9 (List.mem_cons_of_mem _ h9)
  have hown : s.vm.findClass RX9 = some m.cls := findClass_of_methodNamed B.named
  have hlocks := B.notSynchronized
  have S : CallFix p m c cX9_wand 6 s ([.ref a0, .int x1, .int x2, .int x3, .int x4, .int x5] : List Value).toArray wz_X9_wand RX9 := ⟨hx, hb, hml, hown, hts⟩
  have hK := hBm.2.2.2.1
  have hZ := hBm.2.2.2.2
  have hM : mm_W D cs A L K N s.heap I P s.heap [] := ⟨hBm.1, hBm.2.1, hBm.2.2.1, va_S.rf⟩
  have hl := lv_entry ([.ref a0, .int x1, .int x2, .int x3, .int x4, .int x5]) (n := 6) (Nat.le_of_ble_eq_true rfl)
  rw [lg_entry_eq]
  generalize (lg_sl ([.ref a0, .int x1, .int x2, .int x3, .int x4, .int x5]) ++ List.replicate (6 - (lg_sl ([.ref a0, .int x1, .int x2, .int x3, .int x4, .int x5])).length) Slot.unset).toArray = ls at hl ⊢
  have hl : lv_has ls 6 [(0, .ref a0), (1, .int x1), (2, .int x2), (3, .int x3), (4, .int x4), (5, .int x5)] := hl
  have hin9 : ∀ w ∈ wsX90, w ∈ wz_X9_wand := fun w h => List.mem_cons_of_mem _ (wu_X9 w h)
  have hin6 : ∀ w ∈ wsX60, w ∈ wz_X9_wand := fun w h => List.mem_cons_of_mem _ (wu_X6 w h)
  have hin3 : ∀ w ∈ wsX30, w ∈ wz_X9_wand := fun w h => List.mem_cons_of_mem _ (wu_X3 w h)
  have hin5 : ∀ w ∈ wsX50, w ∈ wz_X9_wand := fun w h => List.mem_cons_of_mem _ (wu_X5 w h)
  have lk10 : (Cond.fieldLink RX9 10 RX9 "picture" "LRasterPainter$Picture;").before ([.ref a0, .int x1, .int x2, .int x3, .int x4, .int x5] : List Value).toArray s = true := hWA _ wa_2_15
  have lk40 : (Cond.fieldLink RX9 40 RX9 "choice" "LRasterPainter$Choice;").before ([.ref a0, .int x1, .int x2, .int x3, .int x4, .int x5] : List Value).toArray s = true := hWA _ wa_2_20
  have lk83 : (Cond.fieldLink RX9 83 RX6 "layers" "[LRasterPainter$Layer;").before ([.ref a0, .int x1, .int x2, .int x3, .int x4, .int x5] : List Value).toArray s = true := hWA _ wa_1_152
  have lk196 : (Cond.fieldLink RX9 196 RX6 "mask" "LRasterPainter$Mask;").before ([.ref a0, .int x1, .int x2, .int x3, .int x4, .int x5] : List Value).toArray s = true := hWA _ wa_1_158
  have lk171 : (Cond.fieldLink RX9 171 RX3 "chosen" "[Z").before ([.ref a0, .int x1, .int x2, .int x3, .int x4, .int x5] : List Value).toArray s = true := hWA _ wa_1_239
  have lk206 : (Cond.fieldLink RX9 206 RX5 "size" "I").before ([.ref a0, .int x1, .int x2, .int x3, .int x4, .int x5] : List Value).toArray s = true := hWA _ wa_1_46
  generalize hQ : MQ below (va_Qi (fun r (_ : Unit) => r = res.1) (fun _ => mm_B D cs A L K N z w res.2 P) A) ([.ref a0, .int x1, .int x2, .int x3, .int x4, .int x5] : List Value).toArray s 0 0 A = QQ
  rw [fn_X9_wand] at hf
  refine lv_aload_n hx hb dX9_wand_0 rfl (lv_at hl 0 rfl) ?_
  refine gd_e hf (fun hg1 hf => ?_)
  refine bd_e hf (fun q2 eq2 hf => ?_)
  refine ev_getP (v := q2) S hK hM (ci := 9) (n := 8) (C := RX9) (T := TX9) hin9 rfl hg1 0 (by decide) lk10 rfl rfl eq2 rfl dX9_wand_1 ?_
  refine lv_iload_n hx hb dX9_wand_4 rfl (lv_at hl 1 rfl) ?_
  refine bd_e hf (fun r3 er3 hf => ?_)
  refine gd_e hf (fun hg4 hf => ?_)
  refine ev_calli (va_runV (As := [.int x1]) (rest := []) S (c_X6_hasLayer (l := l) I P q2 x1 r3 er3) (cwV 1 hts (gi_v wa_2_76 wa_2_77 wa_2_78 wa_1_2 wa_2_79) rfl rfl rfl (by decide +kernel) ⟨Nat.le_of_ble_eq_true rfl, Nat.le_of_ble_eq_true rfl⟩) ⟨mm_B_blind, ev_recv hK hM (ci := 6) rfl hg4 rfl, fun U hU hW => ⟨rfl, mm_B_of hK hZ hM hU hW⟩⟩ rfl rfl hl.1 rfl (lv_room (Nat.le_of_ble_eq_true rfl)) dX9_wand_5 ⟨Nat.zero_le _, Nat.zero_le _⟩) hM (fun H locs hM => ?_)
  refine lv_if_eq (tgt := 37) hx hb dX9_wand_8 (by decide) (fun hc5 => ?_) (fun hc5 => ?_)
  · have hf := it_p hf hc5
    refine lv_bipush (v := (-2 : Int32)) hx hb dX9_wand_37 (by decide) ?_
    obtain rfl := Option.some.inj hf
    subst hQ
    exact ev_iret S hr hlocks hK hZ hM dX9_wand_39
  · have hf := it_n hf hc5
    refine lv_iload_n hx hb dX9_wand_11 rfl (lv_at hl 2 rfl) ?_
    refine lv_iload_n hx hb dX9_wand_12 rfl (lv_at hl 3 rfl) ?_
    refine bd_e hf (fun r6 er6 hf => ?_)
    refine ev_calli (va_runS (As := [.int x2, .int x3]) (rest := []) S (c_X9_isDot (l := l) I P x2 x3 r6 er6) (va_cwS 2 hts (gi_s wa_2_142 wa_2_143 wa_1_1 wa_2_144) rfl rfl rfl (by decide +kernel) ⟨Nat.le_of_ble_eq_true rfl, Nat.le_of_ble_eq_true rfl⟩) ⟨mm_B_blind, fun U hU hW => ⟨rfl, mm_B_of hK hZ hM hU hW⟩⟩ rfl rfl hl.1 rfl (lv_room (Nat.le_of_ble_eq_true rfl)) dX9_wand_13 ⟨Nat.zero_le _, Nat.zero_le _⟩) hM (fun H locs hM => ?_)
    refine lv_if_eq (tgt := 37) hx hb dX9_wand_16 (by decide) (fun hc7 => ?_) (fun hc7 => ?_)
    · have hf := it_p hf hc7
      refine lv_bipush (v := (-2 : Int32)) hx hb dX9_wand_37 (by decide) ?_
      obtain rfl := Option.some.inj hf
      subst hQ
      exact ev_iret S hr hlocks hK hZ hM dX9_wand_39
    · have hf := it_n hf hc7
      refine lv_iload hx hb dX9_wand_19 (lv_at hl 4 rfl) ?_
      refine bd_e hf (fun r8 er8 hf => ?_)
      refine ev_calli (va_runS (As := [.int x4]) (rest := []) S (c_X9_isByte (l := l) I P x4 r8 er8) (va_cwS 1 hts (gi_s wa_2_50 wa_2_51 wa_1_1 wa_2_52) rfl rfl rfl (by decide +kernel) ⟨Nat.le_of_ble_eq_true rfl, Nat.le_of_ble_eq_true rfl⟩) ⟨mm_B_blind, fun U hU hW => ⟨rfl, mm_B_of hK hZ hM hU hW⟩⟩ rfl rfl hl.1 rfl (lv_room (Nat.le_of_ble_eq_true rfl)) dX9_wand_21 ⟨Nat.zero_le _, Nat.zero_le _⟩) hM (fun H locs hM => ?_)
      refine lv_if_eq (tgt := 37) hx hb dX9_wand_24 (by decide) (fun hc9 => ?_) (fun hc9 => ?_)
      · have hf := it_p hf hc9
        refine lv_bipush (v := (-2 : Int32)) hx hb dX9_wand_37 (by decide) ?_
        obtain rfl := Option.some.inj hf
        subst hQ
        exact ev_iret S hr hlocks hK hZ hM dX9_wand_39
      · have hf := it_n hf hc9
        refine lv_iload hx hb dX9_wand_27 (lv_at hl 5 rfl) ?_
        refine lv_iconst (v := (0 : Int32)) hx hb dX9_wand_29 (by decide) ?_
        refine lv_iconst (v := (3 : Int32)) hx hb dX9_wand_30 (by decide) ?_
        refine bd_e hf (fun r10 er10 hf => ?_)
        refine ev_calli (va_runS (As := [.int x5, .int (0 : Int32), .int (3 : Int32)]) (rest := []) S (c_X9_isWithin (l := l) I P x5 (0 : Int32) (3 : Int32) r10 er10) (va_cwS 3 hts (gi_s wa_2_47 wa_2_48 wa_1_1 wa_2_49) rfl rfl rfl (by decide +kernel) ⟨Nat.le_of_ble_eq_true rfl, Nat.le_of_ble_eq_true rfl⟩) ⟨mm_B_blind, fun U hU hW => ⟨rfl, mm_B_of hK hZ hM hU hW⟩⟩ rfl rfl hl.1 rfl (lv_room (Nat.le_of_ble_eq_true rfl)) dX9_wand_31 ⟨Nat.zero_le _, Nat.zero_le _⟩) hM (fun H locs hM => ?_)
        refine lv_if_ne (tgt := 40) hx hb dX9_wand_34 (by decide) (fun hc11 => ?_) (fun hc11 => ?_)
        · have hf := it_n hf hc11
          refine lv_aload_n hx hb dX9_wand_40 rfl (lv_at hl 0 rfl) ?_
          refine bd_e hf (fun q12 eq12 hf => ?_)
          refine ev_getP (v := q12) S hK hM (ci := 9) (n := 8) (C := RX9) (T := TX9) hin9 rfl hg1 5 (by decide) lk40 rfl rfl eq12 rfl dX9_wand_41 ?_
          refine lv_aload_n hx hb dX9_wand_44 rfl (lv_at hl 0 rfl) ?_
          refine ev_getP (v := q2) S hK hM (ci := 9) (n := 8) (C := RX9) (T := TX9) hin9 rfl hg1 0 (by decide) lk10 rfl rfl eq2 rfl dX9_wand_45 ?_
          refine bd_e hf (fun q13 eq13 hf => ?_)
          refine ev_getP (v := q13) S hK hM (ci := 6) (n := 6) (C := RX6) (T := TX6) hin6 rfl hg4 0 (by decide) lk83 rfl rfl eq13 rfl dX9_wand_48 ?_
          refine lv_iload_n hx hb dX9_wand_51 rfl (lv_at hl 1 rfl) ?_
          refine gd_e hf (fun hg14 hf => ?_)
          refine bd_e hf (fun q15 eq15 hf => ?_)
          refine ev_aald15 S hK hM hg14 (j := x1.toNatClampNeg) rfl eq15 dX9_wand_52 ?_
          refine lv_iload_n hx hb dX9_wand_53 rfl (lv_at hl 2 rfl) ?_
          refine lv_iload_n hx hb dX9_wand_54 rfl (lv_at hl 3 rfl) ?_
          refine bd_e hf (fun r16 er16 hf => ?_)
          refine ev_calli (va_runS (As := [.int x2, .int x3]) (rest := [.ref q15, .ref q12]) S (c_X9_dotAt (l := l) I P x2 x3 r16 er16) (va_cwS 2 hts (gi_s wa_2_148 wa_2_149 wa_1_1 wa_2_150) rfl rfl rfl (by decide +kernel) ⟨Nat.le_of_ble_eq_true rfl, Nat.le_of_ble_eq_true rfl⟩) ⟨mm_B_blind, fun U hU hW => ⟨rfl, mm_B_of hK hZ hM hU hW⟩⟩ rfl rfl hl.1 rfl (lv_room (Nat.le_of_ble_eq_true rfl)) dX9_wand_55 ⟨Nat.zero_le _, Nat.zero_le _⟩) hM (fun H locs hM => ?_)
          refine lv_iload hx hb dX9_wand_58 (lv_at hl 4 rfl) ?_
          refine bd_e hf (fun r17 er17 hf => ?_)
          refine gd_e hf (fun hg18 hf => ?_)
          refine ev_callv (va_runV (As := [.ref q15, .int r16, .int x4]) (rest := []) S (c_X3_chooseRegion (l := l) I P q12 q15 r16 x4 r17 er17) (cwV 3 hts (gi_v wa_3_150 wa_3_151 wa_3_152 wa_1_10 wa_3_153) rfl rfl rfl (by decide +kernel) ⟨Nat.le_of_ble_eq_true rfl, Nat.le_of_ble_eq_true rfl⟩) ⟨mm_B_blind, ev_recv hK hM (ci := 3) rfl hg18 rfl, fun U hU hW => ⟨rfl, mm_B_of hK hZ hM hU hW⟩⟩ rfl rfl hl.1 rfl (lv_room (Nat.le_of_ble_eq_true rfl)) dX9_wand_60 ⟨Nat.zero_le _, Nat.zero_le _⟩) hM (fun H locs hM => ?_)
          refine lv_aload_n hx hb dX9_wand_63 rfl (lv_at hl 0 rfl) ?_
          refine ev_getP (v := q2) S hK hM (ci := 9) (n := 8) (C := RX9) (T := TX9) hin9 rfl hg1 0 (by decide) lk10 rfl rfl eq2 rfl dX9_wand_64 ?_
          refine bd_e hf (fun q19 eq19 hf => ?_)
          refine ev_getP (v := q19) S hK hM (ci := 6) (n := 6) (C := RX6) (T := TX6) hin6 rfl hg4 3 (by decide) lk196 rfl rfl eq19 rfl dX9_wand_67 ?_
          refine lv_aload_n hx hb dX9_wand_70 rfl (lv_at hl 0 rfl) ?_
          refine ev_getP (v := q12) S hK hM (ci := 9) (n := 8) (C := RX9) (T := TX9) hin9 rfl hg1 5 (by decide) lk40 rfl rfl eq12 rfl dX9_wand_71 ?_
          refine bd_e hf (fun q20 eq20 hf => ?_)
          refine ev_getP (v := q20) S hK hM (ci := 3) (n := 4) (C := RX3) (T := TX3) hin3 rfl hg18 0 (by decide) lk171 rfl rfl eq20 rfl dX9_wand_74 ?_
          refine lv_iload hx hb dX9_wand_77 (lv_at hl 5 rfl) ?_
          refine bd_e hf (fun r21 er21 hf => ?_)
          refine gd_e hf (fun hg22 hf => ?_)
          refine ev_callv (va_runV (As := [.ref q20, .int x5]) (rest := []) S (c_X5_join (l := l) r17 P q19 q20 x5 r21 er21) (cwV 2 hts (gi_v wa_3_193 wa_3_194 wa_3_195 wa_1_3 wa_3_196) rfl rfl rfl (by decide +kernel) ⟨Nat.le_of_ble_eq_true rfl, Nat.le_of_ble_eq_true rfl⟩) ⟨mm_B_blind, ev_recv hK hM (ci := 5) rfl hg22 rfl, fun U hU hW => ⟨rfl, mm_B_of hK hZ hM hU hW⟩⟩ rfl rfl hl.1 rfl (lv_room (Nat.le_of_ble_eq_true rfl)) dX9_wand_79 ⟨Nat.zero_le _, Nat.zero_le _⟩) hM (fun H locs hM => ?_)
          refine lv_aload_n hx hb dX9_wand_82 rfl (lv_at hl 0 rfl) ?_
          refine ev_getP (v := q2) S hK hM (ci := 9) (n := 8) (C := RX9) (T := TX9) hin9 rfl hg1 0 (by decide) lk10 rfl rfl eq2 rfl dX9_wand_83 ?_
          refine ev_getP (v := q19) S hK hM (ci := 6) (n := 6) (C := RX6) (T := TX6) hin6 rfl hg4 3 (by decide) lk196 rfl rfl eq19 rfl dX9_wand_86 ?_
          refine ev_get (v := .int (r21 q19 1)) S hK hM (ci := 5) (n := 2) (C := RX5) (T := TX5) hin5 rfl hg22 1 (by decide) lk206 rfl rfl rfl dX9_wand_89 ?_
          obtain rfl := Option.some.inj hf
          subst hQ
          exact ev_iret S hr hlocks hK hZ hM dX9_wand_92
        · have hf := it_p hf hc11
          refine lv_bipush (v := (-2 : Int32)) hx hb dX9_wand_37 (by decide) ?_
          obtain rfl := Option.some.inj hf
          subst hQ
          exact ev_iret S hr hlocks hK hZ hM dX9_wand_39
noncomputable def fn_X9_grow (K N : Nat → Nat) (I : Nat → Nat → Int32) (P : Nat → Nat → Option Nat) (a0 : Nat) (x1 : Int32) : Option (Int32 × (Nat → Nat → Int32)) := if x1 = (0 : Int32) then (gd (K a0 = 10) (Option.bind (P a0 (5)) (fun q5 => Option.bind (P a0 (0)) (fun q6 => gd (K q6 = 7) (Option.bind (P q6 (3)) (fun q8 => gd (K q8 = 6) (Option.bind (P q8 (0)) (fun q10 => Option.bind (fn_X3_chooseBeside K N I P q5 q10 (1 : Int32)) (fun (r11 : (Nat → Nat → Int32)) => gd (K q5 = 4) (Option.bind (P q5 (0)) (fun q13 => Option.bind (fn_X5_join K N r11 P q8 q13 (1 : Int32)) (fun (r14 : (Nat → Nat → Int32)) => some ((r14 q8 1), r14))))))))))))) else (if x1 = (1 : Int32) then (gd (K a0 = 10) (Option.bind (P a0 (5)) (fun q16 => Option.bind (P a0 (0)) (fun q17 => gd (K q17 = 7) (Option.bind (P q17 (3)) (fun q19 => gd (K q19 = 6) (Option.bind (P q19 (0)) (fun q21 => Option.bind (fn_X3_chooseBeside K N I P q16 q21 (0 : Int32)) (fun (r22 : (Nat → Nat → Int32)) => gd (K q16 = 4) (Option.bind (P q16 (0)) (fun q24 => Option.bind (fn_X5_join K N r22 P q19 q24 (2 : Int32)) (fun (r25 : (Nat → Nat → Int32)) => some ((r25 q19 1), r25))))))))))))) else (if x1 = (2 : Int32) then (gd (K a0 = 10) (Option.bind (P a0 (0)) (fun q27 => gd (K q27 = 7) (Option.bind (P q27 (3)) (fun q29 => Option.bind (fn_X5_turn K N I P q29) (fun (r30 : (Nat → Nat → Int32)) => gd (K q29 = 6) (some ((r30 q29 1), r30)))))))) else (some ((-2 : Int32), I))))
abbrev wz_X9_grow : List Cond := Cond.code yX9_grow cX9_grow 2 (some .int) :: WA
abbrev rm_X9_grow : Room := { frames := 6, cells := 0, slots := 0, locals := 123 }
set_option maxHeartbeats 4000000 in
set_option maxRecDepth 100000 in
theorem c_X9_grow (I : Nat → Nat → Int32) (P : Nat → Nat → Option Nat) (a0 : Nat) (x1 : Int32) (res : Int32 × (Nat → Nat → Int32)) (hf : fn_X9_grow K N I P a0 x1 = some res) : Met l yX9_grow wz_X9_grow rm_X9_grow (va_Pc [.ref a0, .int x1] (mm_B D cs A L K N z w I P)) (va_Qi (fun r (_ : Unit) => r = res.1) (fun _ => mm_B D cs A L K N z w res.2 P) A) 0 0 A := by
  refine Met.ofW (cc := cX9_grow) (maxL := 2) (ret := (some .int)) (by decide) rfl ?_
  intro p e s m args below meth c s₁ B hml hv
  obtain ⟨rfl, hBm⟩ := hv
  have hx := B.exec
  have hb := B.bytes
  have hr := B.returns
  have hts := atoms_spec (ws := wz_X9_grow) B.pre
  have hWA : ∀ w ∈ WA, w.before ([.ref a0, .int x1] : List Value).toArray s = true := fun u9 h9 => hts u9 (List.mem_cons_of_mem _ h9)
  have hown : s.vm.findClass RX9 = some m.cls := findClass_of_methodNamed B.named
  have hlocks := B.notSynchronized
  have S : CallFix p m c cX9_grow 2 s ([.ref a0, .int x1] : List Value).toArray wz_X9_grow RX9 := ⟨hx, hb, hml, hown, hts⟩
  have hK := hBm.2.2.2.1
  have hZ := hBm.2.2.2.2
  have hM : mm_W D cs A L K N s.heap I P s.heap [] := ⟨hBm.1, hBm.2.1, hBm.2.2.1, va_S.rf⟩
  have hl := lv_entry ([.ref a0, .int x1]) (n := 2) (Nat.le_of_ble_eq_true rfl)
  rw [lg_entry_eq]
  generalize (lg_sl ([.ref a0, .int x1]) ++ List.replicate (2 - (lg_sl ([.ref a0, .int x1])).length) Slot.unset).toArray = ls at hl ⊢
  have hl : lv_has ls 2 [(0, .ref a0), (1, .int x1)] := hl
  have hin9 : ∀ w ∈ wsX90, w ∈ wz_X9_grow := fun w h => List.mem_cons_of_mem _ (wu_X9 w h)
  have hin6 : ∀ w ∈ wsX60, w ∈ wz_X9_grow := fun w h => List.mem_cons_of_mem _ (wu_X6 w h)
  have hin5 : ∀ w ∈ wsX50, w ∈ wz_X9_grow := fun w h => List.mem_cons_of_mem _ (wu_X5 w h)
  have hin3 : ∀ w ∈ wsX30, w ∈ wz_X9_grow := fun w h => List.mem_cons_of_mem _ (wu_X3 w h)
  have lk40 : (Cond.fieldLink RX9 40 RX9 "choice" "LRasterPainter$Choice;").before ([.ref a0, .int x1] : List Value).toArray s = true := hWA _ wa_2_20
  have lk10 : (Cond.fieldLink RX9 10 RX9 "picture" "LRasterPainter$Picture;").before ([.ref a0, .int x1] : List Value).toArray s = true := hWA _ wa_2_15
  have lk196 : (Cond.fieldLink RX9 196 RX6 "mask" "LRasterPainter$Mask;").before ([.ref a0, .int x1] : List Value).toArray s = true := hWA _ wa_1_158
  have lk207 : (Cond.fieldLink RX9 207 RX5 "held" "[Z").before ([.ref a0, .int x1] : List Value).toArray s = true := hWA _ wa_1_44
  have lk171 : (Cond.fieldLink RX9 171 RX3 "chosen" "[Z").before ([.ref a0, .int x1] : List Value).toArray s = true := hWA _ wa_1_239
  have lk206 : (Cond.fieldLink RX9 206 RX5 "size" "I").before ([.ref a0, .int x1] : List Value).toArray s = true := hWA _ wa_1_46
  generalize hQ : MQ below (va_Qi (fun r (_ : Unit) => r = res.1) (fun _ => mm_B D cs A L K N z w res.2 P) A) ([.ref a0, .int x1] : List Value).toArray s 0 0 A = QQ
  rw [fn_X9_grow] at hf
  refine lv_iload_n hx hb dX9_grow_0 rfl (lv_at hl 1 rfl) ?_
  refine (Classical.em (x1 = (0 : Int32))).elim (fun hc1 => ?_) (fun hc1 => ?_)
  · have hf := it_p hf hc1
    refine lv_tableIn (off := 27) (tgt := 28) hx hb dX9_grow_1 (by rw [hc1]; decide) (by rw [hc1]; decide) (by rw [hc1]; rfl) (by decide) ?_
    refine lv_aload_n hx hb dX9_grow_28 rfl (lv_at hl 0 rfl) ?_
    refine gd_e hf (fun hg4 hf => ?_)
    refine bd_e hf (fun q5 eq5 hf => ?_)
    refine ev_getP (v := q5) S hK hM (ci := 9) (n := 8) (C := RX9) (T := TX9) hin9 rfl hg4 5 (by decide) lk40 rfl rfl eq5 rfl dX9_grow_29 ?_
    refine lv_aload_n hx hb dX9_grow_32 rfl (lv_at hl 0 rfl) ?_
    refine bd_e hf (fun q6 eq6 hf => ?_)
    refine ev_getP (v := q6) S hK hM (ci := 9) (n := 8) (C := RX9) (T := TX9) hin9 rfl hg4 0 (by decide) lk10 rfl rfl eq6 rfl dX9_grow_33 ?_
    refine gd_e hf (fun hg7 hf => ?_)
    refine bd_e hf (fun q8 eq8 hf => ?_)
    refine ev_getP (v := q8) S hK hM (ci := 6) (n := 6) (C := RX6) (T := TX6) hin6 rfl hg7 3 (by decide) lk196 rfl rfl eq8 rfl dX9_grow_36 ?_
    refine gd_e hf (fun hg9 hf => ?_)
    refine bd_e hf (fun q10 eq10 hf => ?_)
    refine ev_getP (v := q10) S hK hM (ci := 5) (n := 2) (C := RX5) (T := TX5) hin5 rfl hg9 0 (by decide) lk207 rfl rfl eq10 rfl dX9_grow_39 ?_
    refine lv_iconst (v := (1 : Int32)) hx hb dX9_grow_42 (by decide) ?_
    refine bd_e hf (fun r11 er11 hf => ?_)
    refine gd_e hf (fun hg12 hf => ?_)
    refine ev_callv (va_runV (As := [.ref q10, .int (1 : Int32)]) (rest := []) S (c_X3_chooseBeside (l := l) I P q5 q10 (1 : Int32) r11 er11) (cwV 2 hts (gi_v wa_3_212 wa_3_213 wa_3_214 wa_1_10 wa_3_215) rfl rfl rfl (by decide +kernel) ⟨Nat.le_of_ble_eq_true rfl, Nat.le_of_ble_eq_true rfl⟩) ⟨mm_B_blind, ev_recv hK hM (ci := 3) rfl hg12 rfl, fun U hU hW => ⟨rfl, mm_B_of hK hZ hM hU hW⟩⟩ rfl rfl hl.1 rfl (lv_room (Nat.le_of_ble_eq_true rfl)) dX9_grow_43 ⟨Nat.zero_le _, Nat.zero_le _⟩) hM (fun H locs hM => ?_)
    refine lv_aload_n hx hb dX9_grow_46 rfl (lv_at hl 0 rfl) ?_
    refine ev_getP (v := q6) S hK hM (ci := 9) (n := 8) (C := RX9) (T := TX9) hin9 rfl hg4 0 (by decide) lk10 rfl rfl eq6 rfl dX9_grow_47 ?_
    refine ev_getP (v := q8) S hK hM (ci := 6) (n := 6) (C := RX6) (T := TX6) hin6 rfl hg7 3 (by decide) lk196 rfl rfl eq8 rfl dX9_grow_50 ?_
    refine lv_aload_n hx hb dX9_grow_53 rfl (lv_at hl 0 rfl) ?_
    refine ev_getP (v := q5) S hK hM (ci := 9) (n := 8) (C := RX9) (T := TX9) hin9 rfl hg4 5 (by decide) lk40 rfl rfl eq5 rfl dX9_grow_54 ?_
    refine bd_e hf (fun q13 eq13 hf => ?_)
    refine ev_getP (v := q13) S hK hM (ci := 3) (n := 4) (C := RX3) (T := TX3) hin3 rfl hg12 0 (by decide) lk171 rfl rfl eq13 rfl dX9_grow_57 ?_
    refine lv_iconst (v := (1 : Int32)) hx hb dX9_grow_60 (by decide) ?_
    refine bd_e hf (fun r14 er14 hf => ?_)
    refine ev_callv (va_runV (As := [.ref q13, .int (1 : Int32)]) (rest := []) S (c_X5_join (l := l) r11 P q8 q13 (1 : Int32) r14 er14) (cwV 2 hts (gi_v wa_3_193 wa_3_194 wa_3_195 wa_1_3 wa_3_196) rfl rfl rfl (by decide +kernel) ⟨Nat.le_of_ble_eq_true rfl, Nat.le_of_ble_eq_true rfl⟩) ⟨mm_B_blind, ev_recv hK hM (ci := 5) rfl hg9 rfl, fun U hU hW => ⟨rfl, mm_B_of hK hZ hM hU hW⟩⟩ rfl rfl hl.1 rfl (lv_room (Nat.le_of_ble_eq_true rfl)) dX9_grow_61 ⟨Nat.zero_le _, Nat.zero_le _⟩) hM (fun H locs hM => ?_)
    refine lv_aload_n hx hb dX9_grow_64 rfl (lv_at hl 0 rfl) ?_
    refine ev_getP (v := q6) S hK hM (ci := 9) (n := 8) (C := RX9) (T := TX9) hin9 rfl hg4 0 (by decide) lk10 rfl rfl eq6 rfl dX9_grow_65 ?_
    refine ev_getP (v := q8) S hK hM (ci := 6) (n := 6) (C := RX6) (T := TX6) hin6 rfl hg7 3 (by decide) lk196 rfl rfl eq8 rfl dX9_grow_68 ?_
    refine ev_get (v := .int (r14 q8 1)) S hK hM (ci := 5) (n := 2) (C := RX5) (T := TX5) hin5 rfl hg9 1 (by decide) lk206 rfl rfl rfl dX9_grow_71 ?_
    obtain rfl := Option.some.inj hf
    subst hQ
    exact ev_iret S hr hlocks hK hZ hM dX9_grow_74
  · have hf := it_n hf hc1
    refine (Classical.em (x1 = (1 : Int32))).elim (fun hc2 => ?_) (fun hc2 => ?_)
    · have hf := it_p hf hc2
      refine lv_tableIn (off := 74) (tgt := 75) hx hb dX9_grow_1 (by rw [hc2]; decide) (by rw [hc2]; decide) (by rw [hc2]; rfl) (by decide) ?_
      refine lv_aload_n hx hb dX9_grow_75 rfl (lv_at hl 0 rfl) ?_
      refine gd_e hf (fun hg15 hf => ?_)
      refine bd_e hf (fun q16 eq16 hf => ?_)
      refine ev_getP (v := q16) S hK hM (ci := 9) (n := 8) (C := RX9) (T := TX9) hin9 rfl hg15 5 (by decide) lk40 rfl rfl eq16 rfl dX9_grow_76 ?_
      refine lv_aload_n hx hb dX9_grow_79 rfl (lv_at hl 0 rfl) ?_
      refine bd_e hf (fun q17 eq17 hf => ?_)
      refine ev_getP (v := q17) S hK hM (ci := 9) (n := 8) (C := RX9) (T := TX9) hin9 rfl hg15 0 (by decide) lk10 rfl rfl eq17 rfl dX9_grow_80 ?_
      refine gd_e hf (fun hg18 hf => ?_)
      refine bd_e hf (fun q19 eq19 hf => ?_)
      refine ev_getP (v := q19) S hK hM (ci := 6) (n := 6) (C := RX6) (T := TX6) hin6 rfl hg18 3 (by decide) lk196 rfl rfl eq19 rfl dX9_grow_83 ?_
      refine gd_e hf (fun hg20 hf => ?_)
      refine bd_e hf (fun q21 eq21 hf => ?_)
      refine ev_getP (v := q21) S hK hM (ci := 5) (n := 2) (C := RX5) (T := TX5) hin5 rfl hg20 0 (by decide) lk207 rfl rfl eq21 rfl dX9_grow_86 ?_
      refine lv_iconst (v := (0 : Int32)) hx hb dX9_grow_89 (by decide) ?_
      refine bd_e hf (fun r22 er22 hf => ?_)
      refine gd_e hf (fun hg23 hf => ?_)
      refine ev_callv (va_runV (As := [.ref q21, .int (0 : Int32)]) (rest := []) S (c_X3_chooseBeside (l := l) I P q16 q21 (0 : Int32) r22 er22) (cwV 2 hts (gi_v wa_3_212 wa_3_213 wa_3_214 wa_1_10 wa_3_215) rfl rfl rfl (by decide +kernel) ⟨Nat.le_of_ble_eq_true rfl, Nat.le_of_ble_eq_true rfl⟩) ⟨mm_B_blind, ev_recv hK hM (ci := 3) rfl hg23 rfl, fun U hU hW => ⟨rfl, mm_B_of hK hZ hM hU hW⟩⟩ rfl rfl hl.1 rfl (lv_room (Nat.le_of_ble_eq_true rfl)) dX9_grow_90 ⟨Nat.zero_le _, Nat.zero_le _⟩) hM (fun H locs hM => ?_)
      refine lv_aload_n hx hb dX9_grow_93 rfl (lv_at hl 0 rfl) ?_
      refine ev_getP (v := q17) S hK hM (ci := 9) (n := 8) (C := RX9) (T := TX9) hin9 rfl hg15 0 (by decide) lk10 rfl rfl eq17 rfl dX9_grow_94 ?_
      refine ev_getP (v := q19) S hK hM (ci := 6) (n := 6) (C := RX6) (T := TX6) hin6 rfl hg18 3 (by decide) lk196 rfl rfl eq19 rfl dX9_grow_97 ?_
      refine lv_aload_n hx hb dX9_grow_100 rfl (lv_at hl 0 rfl) ?_
      refine ev_getP (v := q16) S hK hM (ci := 9) (n := 8) (C := RX9) (T := TX9) hin9 rfl hg15 5 (by decide) lk40 rfl rfl eq16 rfl dX9_grow_101 ?_
      refine bd_e hf (fun q24 eq24 hf => ?_)
      refine ev_getP (v := q24) S hK hM (ci := 3) (n := 4) (C := RX3) (T := TX3) hin3 rfl hg23 0 (by decide) lk171 rfl rfl eq24 rfl dX9_grow_104 ?_
      refine lv_iconst (v := (2 : Int32)) hx hb dX9_grow_107 (by decide) ?_
      refine bd_e hf (fun r25 er25 hf => ?_)
      refine ev_callv (va_runV (As := [.ref q24, .int (2 : Int32)]) (rest := []) S (c_X5_join (l := l) r22 P q19 q24 (2 : Int32) r25 er25) (cwV 2 hts (gi_v wa_3_193 wa_3_194 wa_3_195 wa_1_3 wa_3_196) rfl rfl rfl (by decide +kernel) ⟨Nat.le_of_ble_eq_true rfl, Nat.le_of_ble_eq_true rfl⟩) ⟨mm_B_blind, ev_recv hK hM (ci := 5) rfl hg20 rfl, fun U hU hW => ⟨rfl, mm_B_of hK hZ hM hU hW⟩⟩ rfl rfl hl.1 rfl (lv_room (Nat.le_of_ble_eq_true rfl)) dX9_grow_108 ⟨Nat.zero_le _, Nat.zero_le _⟩) hM (fun H locs hM => ?_)
      refine lv_aload_n hx hb dX9_grow_111 rfl (lv_at hl 0 rfl) ?_
      refine ev_getP (v := q17) S hK hM (ci := 9) (n := 8) (C := RX9) (T := TX9) hin9 rfl hg15 0 (by decide) lk10 rfl rfl eq17 rfl dX9_grow_112 ?_
      refine ev_getP (v := q19) S hK hM (ci := 6) (n := 6) (C := RX6) (T := TX6) hin6 rfl hg18 3 (by decide) lk196 rfl rfl eq19 rfl dX9_grow_115 ?_
      refine ev_get (v := .int (r25 q19 1)) S hK hM (ci := 5) (n := 2) (C := RX5) (T := TX5) hin5 rfl hg20 1 (by decide) lk206 rfl rfl rfl dX9_grow_118 ?_
      obtain rfl := Option.some.inj hf
      subst hQ
      exact ev_iret S hr hlocks hK hZ hM dX9_grow_121
    · have hf := it_n hf hc2
      refine (Classical.em (x1 = (2 : Int32))).elim (fun hc3 => ?_) (fun hc3 => ?_)
      · have hf := it_p hf hc3
        refine lv_tableIn (off := 121) (tgt := 122) hx hb dX9_grow_1 (by rw [hc3]; decide) (by rw [hc3]; decide) (by rw [hc3]; rfl) (by decide) ?_
        refine lv_aload_n hx hb dX9_grow_122 rfl (lv_at hl 0 rfl) ?_
        refine gd_e hf (fun hg26 hf => ?_)
        refine bd_e hf (fun q27 eq27 hf => ?_)
        refine ev_getP (v := q27) S hK hM (ci := 9) (n := 8) (C := RX9) (T := TX9) hin9 rfl hg26 0 (by decide) lk10 rfl rfl eq27 rfl dX9_grow_123 ?_
        refine gd_e hf (fun hg28 hf => ?_)
        refine bd_e hf (fun q29 eq29 hf => ?_)
        refine ev_getP (v := q29) S hK hM (ci := 6) (n := 6) (C := RX6) (T := TX6) hin6 rfl hg28 3 (by decide) lk196 rfl rfl eq29 rfl dX9_grow_126 ?_
        refine bd_e hf (fun r30 er30 hf => ?_)
        refine gd_e hf (fun hg31 hf => ?_)
        refine ev_callv (va_runV (As := []) (rest := []) S (c_X5_turn (l := l) I P q29 r30 er30) (cwV 0 hts (gi_v wa_3_219 wa_3_220 wa_3_221 wa_1_3 wa_3_222) rfl rfl rfl (by decide +kernel) ⟨Nat.le_of_ble_eq_true rfl, Nat.le_of_ble_eq_true rfl⟩) ⟨mm_B_blind, ev_recv hK hM (ci := 5) rfl hg31 rfl, fun U hU hW => ⟨rfl, mm_B_of hK hZ hM hU hW⟩⟩ rfl rfl hl.1 rfl (lv_room (Nat.le_of_ble_eq_true rfl)) dX9_grow_129 ⟨Nat.zero_le _, Nat.zero_le _⟩) hM (fun H locs hM => ?_)
        refine lv_aload_n hx hb dX9_grow_132 rfl (lv_at hl 0 rfl) ?_
        refine ev_getP (v := q27) S hK hM (ci := 9) (n := 8) (C := RX9) (T := TX9) hin9 rfl hg26 0 (by decide) lk10 rfl rfl eq27 rfl dX9_grow_133 ?_
        refine ev_getP (v := q29) S hK hM (ci := 6) (n := 6) (C := RX6) (T := TX6) hin6 rfl hg28 3 (by decide) lk196 rfl rfl eq29 rfl dX9_grow_136 ?_
        refine ev_get (v := .int (r30 q29 1)) S hK hM (ci := 5) (n := 2) (C := RX5) (T := TX5) hin5 rfl hg31 1 (by decide) lk206 rfl rfl rfl dX9_grow_139 ?_
        obtain rfl := Option.some.inj hf
        subst hQ
        exact ev_iret S hr hlocks hK hZ hM dX9_grow_142
      · have hf := it_n hf hc3
        refine lv_tableOut (tgt := 143) hx hb dX9_grow_1 (by have t0 := ne_t hc1 (y := 0) rfl; have t1 := ne_t hc2 (y := 1) rfl; have t2 := ne_t hc3 (y := 2) rfl; omega) (by decide) ?_
        refine lv_bipush (v := (-2 : Int32)) hx hb dX9_grow_143 (by decide) ?_
        obtain rfl := Option.some.inj hf
        subst hQ
        exact ev_iret S hr hlocks hK hZ hM dX9_grow_145
noncomputable def fn_X9_masked (K N : Nat → Nat) (I : Nat → Nat → Int32) (P : Nat → Nat → Option Nat) (a0 : Nat) (x1 : Int32) : Option (Int32) := Option.bind (fn_X9_isRow x1) (fun (r1 : Int32) => if r1 = 0 then (some (-2 : Int32)) else (gd (K a0 = 10) (Option.bind (P a0 (0)) (fun q4 => gd (K q4 = 7) (Option.bind (P q4 (3)) (fun q6 => Option.bind (fn_X5_rowBits K N I P q6 x1) (fun (r7 : Int32) => gd (K q6 = 6) (some r7))))))))
abbrev wz_X9_masked : List Cond := Cond.code yX9_masked cX9_masked 2 (some .int) :: WA
abbrev rm_X9_masked : Room := { frames := 3, cells := 0, slots := 0, locals := 56 }
set_option maxHeartbeats 4000000 in
set_option maxRecDepth 100000 in
theorem c_X9_masked (I : Nat → Nat → Int32) (P : Nat → Nat → Option Nat) (a0 : Nat) (x1 : Int32) (res : Int32) (hf : fn_X9_masked K N I P a0 x1 = some res) : Met l yX9_masked wz_X9_masked rm_X9_masked (va_Pc [.ref a0, .int x1] (mm_B D cs A L K N z w I P)) (va_Qi (fun r (_ : Unit) => r = res) (fun _ => mm_B D cs A L K N z w I P) A) 0 0 A := by
  refine Met.ofW (cc := cX9_masked) (maxL := 2) (ret := (some .int)) (by decide) rfl ?_
  intro p e s m args below meth c s₁ B hml hv
  obtain ⟨rfl, hBm⟩ := hv
  have hx := B.exec
  have hb := B.bytes
  have hr := B.returns
  have hts := atoms_spec (ws := wz_X9_masked) B.pre
  have hWA : ∀ w ∈ WA, w.before ([.ref a0, .int x1] : List Value).toArray s = true := fun u9 h9 => hts u9 (List.mem_cons_of_mem _ h9)
  have hown : s.vm.findClass RX9 = some m.cls := findClass_of_methodNamed B.named
  have hlocks := B.notSynchronized
  have S : CallFix p m c cX9_masked 2 s ([.ref a0, .int x1] : List Value).toArray wz_X9_masked RX9 := ⟨hx, hb, hml, hown, hts⟩
  have hK := hBm.2.2.2.1
  have hZ := hBm.2.2.2.2
  have hM : mm_W D cs A L K N s.heap I P s.heap [] := ⟨hBm.1, hBm.2.1, hBm.2.2.1, va_S.rf⟩
  have hl := lv_entry ([.ref a0, .int x1]) (n := 2) (Nat.le_of_ble_eq_true rfl)
  rw [lg_entry_eq]
  generalize (lg_sl ([.ref a0, .int x1]) ++ List.replicate (2 - (lg_sl ([.ref a0, .int x1])).length) Slot.unset).toArray = ls at hl ⊢
  have hl : lv_has ls 2 [(0, .ref a0), (1, .int x1)] := hl
  have hin9 : ∀ w ∈ wsX90, w ∈ wz_X9_masked := fun w h => List.mem_cons_of_mem _ (wu_X9 w h)
  have hin6 : ∀ w ∈ wsX60, w ∈ wz_X9_masked := fun w h => List.mem_cons_of_mem _ (wu_X6 w h)
  have lk10 : (Cond.fieldLink RX9 10 RX9 "picture" "LRasterPainter$Picture;").before ([.ref a0, .int x1] : List Value).toArray s = true := hWA _ wa_2_15
  have lk196 : (Cond.fieldLink RX9 196 RX6 "mask" "LRasterPainter$Mask;").before ([.ref a0, .int x1] : List Value).toArray s = true := hWA _ wa_1_158
  generalize hQ : MQ below (va_Qi (fun r (_ : Unit) => r = res) (fun _ => mm_B D cs A L K N z w I P) A) ([.ref a0, .int x1] : List Value).toArray s 0 0 A = QQ
  rw [fn_X9_masked] at hf
  refine lv_iload_n hx hb dX9_masked_0 rfl (lv_at hl 1 rfl) ?_
  refine bd_e hf (fun r1 er1 hf => ?_)
  refine ev_calli (va_runS (As := [.int x1]) (rest := []) S (c_X9_isRow (l := l) I P x1 r1 er1) (va_cwS 1 hts (gi_s wa_2_145 wa_2_146 wa_1_1 wa_2_147) rfl rfl rfl (by decide +kernel) ⟨Nat.le_of_ble_eq_true rfl, Nat.le_of_ble_eq_true rfl⟩) ⟨mm_B_blind, fun U hU hW => ⟨rfl, mm_B_of hK hZ hM hU hW⟩⟩ rfl rfl hl.1 rfl (lv_room (Nat.le_of_ble_eq_true rfl)) dX9_masked_1 ⟨Nat.zero_le _, Nat.zero_le _⟩) hM (fun H locs hM => ?_)
  refine lv_if_eq (tgt := 21) hx hb dX9_masked_4 (by decide) (fun hc2 => ?_) (fun hc2 => ?_)
  · have hf := it_p hf hc2
    refine lv_bipush (v := (-2 : Int32)) hx hb dX9_masked_21 (by decide) ?_
    obtain rfl := Option.some.inj hf
    subst hQ
    exact ev_iret S hr hlocks hK hZ hM dX9_masked_23
  · have hf := it_n hf hc2
    refine lv_aload_n hx hb dX9_masked_7 rfl (lv_at hl 0 rfl) ?_
    refine gd_e hf (fun hg3 hf => ?_)
    refine bd_e hf (fun q4 eq4 hf => ?_)
    refine ev_getP (v := q4) S hK hM (ci := 9) (n := 8) (C := RX9) (T := TX9) hin9 rfl hg3 0 (by decide) lk10 rfl rfl eq4 rfl dX9_masked_8 ?_
    refine gd_e hf (fun hg5 hf => ?_)
    refine bd_e hf (fun q6 eq6 hf => ?_)
    refine ev_getP (v := q6) S hK hM (ci := 6) (n := 6) (C := RX6) (T := TX6) hin6 rfl hg5 3 (by decide) lk196 rfl rfl eq6 rfl dX9_masked_11 ?_
    refine lv_iload_n hx hb dX9_masked_14 rfl (lv_at hl 1 rfl) ?_
    refine bd_e hf (fun r7 er7 hf => ?_)
    refine gd_e hf (fun hg8 hf => ?_)
    refine ev_calli (va_runV (As := [.int x1]) (rest := []) S (c_X5_rowBits (l := l) I P q6 x1 r7 er7) (cwV 1 hts (gi_v wa_3_227 wa_3_228 wa_3_229 wa_1_3 wa_3_230) rfl rfl rfl (by decide +kernel) ⟨Nat.le_of_ble_eq_true rfl, Nat.le_of_ble_eq_true rfl⟩) ⟨mm_B_blind, ev_recv hK hM (ci := 5) rfl hg8 rfl, fun U hU hW => ⟨rfl, mm_B_of hK hZ hM hU hW⟩⟩ rfl rfl hl.1 rfl (lv_room (Nat.le_of_ble_eq_true rfl)) dX9_masked_15 ⟨Nat.zero_le _, Nat.zero_le _⟩) hM (fun H locs hM => ?_)
    refine lv_goto (tgt := 23) hx hb dX9_masked_18 (by decide) ?_
    obtain rfl := Option.some.inj hf
    subst hQ
    exact ev_iret S hr hlocks hK hZ hM dX9_masked_23
noncomputable def fn_X9_leave (K N : Nat → Nat) (I : Nat → Nat → Int32) (P : Nat → Nat → Option Nat) (a0 : Nat) (x1 : Int32) (x2 : Int32) (x3 : Int32) : Option ((Nat → Nat → Int32)) := Option.bind (fn_X9_isDot x1 x2) (fun (r1 : Int32) => if r1 = 0 then (some I) else (gd (K a0 = 10) (Option.bind (P a0 (7)) (fun q4 => Option.bind (fn_X9_dotAt x1 x2) (fun (r5 : Int32) => gd (K q4 = 12 ∧ vp_in r5 (N q4)) (Option.bind (some (up2 I q4 (r5.toNatClampNeg) ((I q4 (r5.toNatClampNeg)) + x3))) (fun I7 => some I7)))))))
abbrev wz_X9_leave : List Cond := Cond.code yX9_leave cX9_leave 4 none :: WA
abbrev rm_X9_leave : Room := { frames := 4, cells := 0, slots := 0, locals := 75 }
set_option maxHeartbeats 4000000 in
set_option maxRecDepth 100000 in
theorem c_X9_leave (I : Nat → Nat → Int32) (P : Nat → Nat → Option Nat) (a0 : Nat) (x1 : Int32) (x2 : Int32) (x3 : Int32) (res : (Nat → Nat → Int32)) (hf : fn_X9_leave K N I P a0 x1 x2 x3 = some res) : Met l yX9_leave wz_X9_leave rm_X9_leave (va_Pc [.ref a0, .int x1, .int x2, .int x3] (mm_B D cs A L K N z w I P)) (va_Qv (fun (_ : Unit) => True) (fun _ => mm_B D cs A L K N z w res P) A) 0 0 A := by
  refine Met.ofW (cc := cX9_leave) (maxL := 4) (ret := none) (by decide) rfl ?_
  intro p e s m args below meth c s₁ B hml hv
  obtain ⟨rfl, hBm⟩ := hv
  have hx := B.exec
  have hb := B.bytes
  have hr := B.returns
  have hts := atoms_spec (ws := wz_X9_leave) B.pre
  have hWA : ∀ w ∈ WA, w.before ([.ref a0, .int x1, .int x2, .int x3] : List Value).toArray s = true := fun u9 h9 => hts u9 (List.mem_cons_of_mem _ h9)
  have hown : s.vm.findClass RX9 = some m.cls := findClass_of_methodNamed B.named
  have hlocks := B.notSynchronized
  have S : CallFix p m c cX9_leave 4 s ([.ref a0, .int x1, .int x2, .int x3] : List Value).toArray wz_X9_leave RX9 := ⟨hx, hb, hml, hown, hts⟩
  have hK := hBm.2.2.2.1
  have hZ := hBm.2.2.2.2
  have hM : mm_W D cs A L K N s.heap I P s.heap [] := ⟨hBm.1, hBm.2.1, hBm.2.2.1, va_S.rf⟩
  have hl := lv_entry ([.ref a0, .int x1, .int x2, .int x3]) (n := 4) (Nat.le_of_ble_eq_true rfl)
  rw [lg_entry_eq]
  generalize (lg_sl ([.ref a0, .int x1, .int x2, .int x3]) ++ List.replicate (4 - (lg_sl ([.ref a0, .int x1, .int x2, .int x3])).length) Slot.unset).toArray = ls at hl ⊢
  have hl : lv_has ls 4 [(0, .ref a0), (1, .int x1), (2, .int x2), (3, .int x3)] := hl
  have hin9 : ∀ w ∈ wsX90, w ∈ wz_X9_leave := fun w h => List.mem_cons_of_mem _ (wu_X9 w h)
  have lk51 : (Cond.fieldLink RX9 51 RX9 "lefts" "[I").before ([.ref a0, .int x1, .int x2, .int x3] : List Value).toArray s = true := hWA _ wa_2_22
  generalize hQ : MQ below (va_Qv (fun (_ : Unit) => True) (fun _ => mm_B D cs A L K N z w res P) A) ([.ref a0, .int x1, .int x2, .int x3] : List Value).toArray s 0 0 A = QQ
  rw [fn_X9_leave] at hf
  refine lv_iload_n hx hb dX9_leave_0 rfl (lv_at hl 1 rfl) ?_
  refine lv_iload_n hx hb dX9_leave_1 rfl (lv_at hl 2 rfl) ?_
  refine bd_e hf (fun r1 er1 hf => ?_)
  refine ev_calli (va_runS (As := [.int x1, .int x2]) (rest := []) S (c_X9_isDot (l := l) I P x1 x2 r1 er1) (va_cwS 2 hts (gi_s wa_2_142 wa_2_143 wa_1_1 wa_2_144) rfl rfl rfl (by decide +kernel) ⟨Nat.le_of_ble_eq_true rfl, Nat.le_of_ble_eq_true rfl⟩) ⟨mm_B_blind, fun U hU hW => ⟨rfl, mm_B_of hK hZ hM hU hW⟩⟩ rfl rfl hl.1 rfl (lv_room (Nat.le_of_ble_eq_true rfl)) dX9_leave_2 ⟨Nat.zero_le _, Nat.zero_le _⟩) hM (fun H locs hM => ?_)
  refine lv_if_eq (tgt := 22) hx hb dX9_leave_5 (by decide) (fun hc2 => ?_) (fun hc2 => ?_)
  · have hf := it_p hf hc2
    obtain rfl := Option.some.inj hf
    subst hQ
    exact ev_vret S hr hlocks hK hZ hM dX9_leave_22
  · have hf := it_n hf hc2
    refine lv_aload_n hx hb dX9_leave_8 rfl (lv_at hl 0 rfl) ?_
    refine gd_e hf (fun hg3 hf => ?_)
    refine bd_e hf (fun q4 eq4 hf => ?_)
    refine ev_getP (v := q4) S hK hM (ci := 9) (n := 8) (C := RX9) (T := TX9) hin9 rfl hg3 7 (by decide) lk51 rfl rfl eq4 rfl dX9_leave_9 ?_
    refine lv_iload_n hx hb dX9_leave_12 rfl (lv_at hl 1 rfl) ?_
    refine lv_iload_n hx hb dX9_leave_13 rfl (lv_at hl 2 rfl) ?_
    refine bd_e hf (fun r5 er5 hf => ?_)
    refine ev_calli (va_runS (As := [.int x1, .int x2]) (rest := [.ref q4]) S (c_X9_dotAt (l := l) I P x1 x2 r5 er5) (va_cwS 2 hts (gi_s wa_2_148 wa_2_149 wa_1_1 wa_2_150) rfl rfl rfl (by decide +kernel) ⟨Nat.le_of_ble_eq_true rfl, Nat.le_of_ble_eq_true rfl⟩) ⟨mm_B_blind, fun U hU hW => ⟨rfl, mm_B_of hK hZ hM hU hW⟩⟩ rfl rfl hl.1 rfl (lv_room (Nat.le_of_ble_eq_true rfl)) dX9_leave_14 ⟨Nat.zero_le _, Nat.zero_le _⟩) hM (fun H locs hM => ?_)
    refine lv_dup2_11 hx hb dX9_leave_17 rfl rfl ?_
    refine gd_e hf (fun hg6 hf => ?_)
    refine ev_iald S hK hM hg6 (j := r5.toNatClampNeg) rfl dX9_leave_18 ?_
    refine lv_iload_n hx hb dX9_leave_19 rfl (lv_at hl 3 rfl) ?_
    refine lv_iadd hx hb dX9_leave_20 ?_
    refine ev_iast S hK hM hg6 (j := r5.toNatClampNeg) rfl dX9_leave_21 (fun I7 eI7 H locs hM => ?_)
    have hf := nm_x eI7 hf
    obtain rfl := Option.some.inj hf
    subst hQ
    exact ev_vret S hr hlocks hK hZ hM dX9_leave_22
noncomputable def fn_X9_spreadLeft (K N : Nat → Nat) (I : Nat → Nat → Int32) (P : Nat → Nat → Option Nat) (a0 : Nat) (x1 : Int32) (x2 : Int32) (x3 : Int32) : Option ((Nat → Nat → Int32)) := Option.bind (fn_X9_leave K N I P a0 (x1 + (1 : Int32)) x2 (((7 : Int32) * x3) / (16 : Int32))) (fun (r1 : (Nat → Nat → Int32)) => gd (K a0 = 10) (Option.bind (fn_X9_leave K N r1 P a0 (x1 - (1 : Int32)) (x2 + (1 : Int32)) (((3 : Int32) * x3) / (16 : Int32))) (fun (r3 : (Nat → Nat → Int32)) => Option.bind (fn_X9_leave K N r3 P a0 x1 (x2 + (1 : Int32)) (((5 : Int32) * x3) / (16 : Int32))) (fun (r4 : (Nat → Nat → Int32)) => Option.bind (fn_X9_leave K N r4 P a0 (x1 + (1 : Int32)) (x2 + (1 : Int32)) (x3 / (16 : Int32))) (fun (r5 : (Nat → Nat → Int32)) => some r5)))))
abbrev wz_X9_spreadLeft : List Cond := Cond.code yX9_spreadLeft cX9_spreadLeft 4 none :: WA
abbrev rm_X9_spreadLeft : Room := { frames := 5, cells := 0, slots := 0, locals := 98 }
set_option maxHeartbeats 4000000 in
set_option maxRecDepth 100000 in
theorem c_X9_spreadLeft (I : Nat → Nat → Int32) (P : Nat → Nat → Option Nat) (a0 : Nat) (x1 : Int32) (x2 : Int32) (x3 : Int32) (res : (Nat → Nat → Int32)) (hf : fn_X9_spreadLeft K N I P a0 x1 x2 x3 = some res) : Met l yX9_spreadLeft wz_X9_spreadLeft rm_X9_spreadLeft (va_Pc [.ref a0, .int x1, .int x2, .int x3] (mm_B D cs A L K N z w I P)) (va_Qv (fun (_ : Unit) => True) (fun _ => mm_B D cs A L K N z w res P) A) 0 0 A := by
  refine Met.ofW (cc := cX9_spreadLeft) (maxL := 4) (ret := none) (by decide) rfl ?_
  intro p e s m args below meth c s₁ B hml hv
  obtain ⟨rfl, hBm⟩ := hv
  have hx := B.exec
  have hb := B.bytes
  have hr := B.returns
  have hts := atoms_spec (ws := wz_X9_spreadLeft) B.pre
  have hWA : ∀ w ∈ WA, w.before ([.ref a0, .int x1, .int x2, .int x3] : List Value).toArray s = true := fun u9 h9 => hts u9 (List.mem_cons_of_mem _ h9)
  have hown : s.vm.findClass RX9 = some m.cls := findClass_of_methodNamed B.named
  have hlocks := B.notSynchronized
  have S : CallFix p m c cX9_spreadLeft 4 s ([.ref a0, .int x1, .int x2, .int x3] : List Value).toArray wz_X9_spreadLeft RX9 := ⟨hx, hb, hml, hown, hts⟩
  have hK := hBm.2.2.2.1
  have hZ := hBm.2.2.2.2
  have hM : mm_W D cs A L K N s.heap I P s.heap [] := ⟨hBm.1, hBm.2.1, hBm.2.2.1, va_S.rf⟩
  have hl := lv_entry ([.ref a0, .int x1, .int x2, .int x3]) (n := 4) (Nat.le_of_ble_eq_true rfl)
  rw [lg_entry_eq]
  generalize (lg_sl ([.ref a0, .int x1, .int x2, .int x3]) ++ List.replicate (4 - (lg_sl ([.ref a0, .int x1, .int x2, .int x3])).length) Slot.unset).toArray = ls at hl ⊢
  have hl : lv_has ls 4 [(0, .ref a0), (1, .int x1), (2, .int x2), (3, .int x3)] := hl
  generalize hQ : MQ below (va_Qv (fun (_ : Unit) => True) (fun _ => mm_B D cs A L K N z w res P) A) ([.ref a0, .int x1, .int x2, .int x3] : List Value).toArray s 0 0 A = QQ
  rw [fn_X9_spreadLeft] at hf
  refine lv_aload_n hx hb dX9_spreadLeft_0 rfl (lv_at hl 0 rfl) ?_
  refine lv_iload_n hx hb dX9_spreadLeft_1 rfl (lv_at hl 1 rfl) ?_
  refine lv_iconst (v := (1 : Int32)) hx hb dX9_spreadLeft_2 (by decide) ?_
  refine lv_iadd hx hb dX9_spreadLeft_3 ?_
  refine lv_iload_n hx hb dX9_spreadLeft_4 rfl (lv_at hl 2 rfl) ?_
  refine lv_bipush (v := (7 : Int32)) hx hb dX9_spreadLeft_5 (by decide) ?_
  refine lv_iload_n hx hb dX9_spreadLeft_7 rfl (lv_at hl 3 rfl) ?_
  refine lv_imul hx hb dX9_spreadLeft_8 ?_
  refine lv_bipush (v := (16 : Int32)) hx hb dX9_spreadLeft_9 (by decide) ?_
  refine lv_idiv hx hb dX9_spreadLeft_11 (by decide) ?_
  refine bd_e hf (fun r1 er1 hf => ?_)
  refine gd_e hf (fun hg2 hf => ?_)
  refine ev_callv (va_runV (As := [.int (x1 + (1 : Int32)), .int x2, .int (((7 : Int32) * x3) / (16 : Int32))]) (rest := []) S (c_X9_leave (l := l) I P a0 (x1 + (1 : Int32)) x2 (((7 : Int32) * x3) / (16 : Int32)) r1 er1) (cwV 3 hts (gi_v wa_4_5 wa_4_7 wa_s_19 wa_1_1 wa_4_8) rfl rfl rfl (by decide +kernel) ⟨Nat.le_of_ble_eq_true rfl, Nat.le_of_ble_eq_true rfl⟩) ⟨mm_B_blind, ev_recv hK hM (ci := 9) rfl hg2 rfl, fun U hU hW => ⟨rfl, mm_B_of hK hZ hM hU hW⟩⟩ rfl rfl hl.1 rfl (lv_room (Nat.le_of_ble_eq_true rfl)) dX9_spreadLeft_12 ⟨Nat.zero_le _, Nat.zero_le _⟩) hM (fun H locs hM => ?_)
  refine lv_aload_n hx hb dX9_spreadLeft_15 rfl (lv_at hl 0 rfl) ?_
  refine lv_iload_n hx hb dX9_spreadLeft_16 rfl (lv_at hl 1 rfl) ?_
  refine lv_iconst (v := (1 : Int32)) hx hb dX9_spreadLeft_17 (by decide) ?_
  refine lv_isub hx hb dX9_spreadLeft_18 ?_
  refine lv_iload_n hx hb dX9_spreadLeft_19 rfl (lv_at hl 2 rfl) ?_
  refine lv_iconst (v := (1 : Int32)) hx hb dX9_spreadLeft_20 (by decide) ?_
  refine lv_iadd hx hb dX9_spreadLeft_21 ?_
  refine lv_iconst (v := (3 : Int32)) hx hb dX9_spreadLeft_22 (by decide) ?_
  refine lv_iload_n hx hb dX9_spreadLeft_23 rfl (lv_at hl 3 rfl) ?_
  refine lv_imul hx hb dX9_spreadLeft_24 ?_
  refine lv_bipush (v := (16 : Int32)) hx hb dX9_spreadLeft_25 (by decide) ?_
  refine lv_idiv hx hb dX9_spreadLeft_27 (by decide) ?_
  refine bd_e hf (fun r3 er3 hf => ?_)
  refine ev_callv (va_runV (As := [.int (x1 - (1 : Int32)), .int (x2 + (1 : Int32)), .int (((3 : Int32) * x3) / (16 : Int32))]) (rest := []) S (c_X9_leave (l := l) r1 P a0 (x1 - (1 : Int32)) (x2 + (1 : Int32)) (((3 : Int32) * x3) / (16 : Int32)) r3 er3) (cwV 3 hts (gi_v wa_4_5 wa_4_7 wa_s_19 wa_1_1 wa_4_8) rfl rfl rfl (by decide +kernel) ⟨Nat.le_of_ble_eq_true rfl, Nat.le_of_ble_eq_true rfl⟩) ⟨mm_B_blind, ev_recv hK hM (ci := 9) rfl hg2 rfl, fun U hU hW => ⟨rfl, mm_B_of hK hZ hM hU hW⟩⟩ rfl rfl hl.1 rfl (lv_room (Nat.le_of_ble_eq_true rfl)) dX9_spreadLeft_28 ⟨Nat.zero_le _, Nat.zero_le _⟩) hM (fun H locs hM => ?_)
  refine lv_aload_n hx hb dX9_spreadLeft_31 rfl (lv_at hl 0 rfl) ?_
  refine lv_iload_n hx hb dX9_spreadLeft_32 rfl (lv_at hl 1 rfl) ?_
  refine lv_iload_n hx hb dX9_spreadLeft_33 rfl (lv_at hl 2 rfl) ?_
  refine lv_iconst (v := (1 : Int32)) hx hb dX9_spreadLeft_34 (by decide) ?_
  refine lv_iadd hx hb dX9_spreadLeft_35 ?_
  refine lv_iconst (v := (5 : Int32)) hx hb dX9_spreadLeft_36 (by decide) ?_
  refine lv_iload_n hx hb dX9_spreadLeft_37 rfl (lv_at hl 3 rfl) ?_
  refine lv_imul hx hb dX9_spreadLeft_38 ?_
  refine lv_bipush (v := (16 : Int32)) hx hb dX9_spreadLeft_39 (by decide) ?_
  refine lv_idiv hx hb dX9_spreadLeft_41 (by decide) ?_
  refine bd_e hf (fun r4 er4 hf => ?_)
  refine ev_callv (va_runV (As := [.int x1, .int (x2 + (1 : Int32)), .int (((5 : Int32) * x3) / (16 : Int32))]) (rest := []) S (c_X9_leave (l := l) r3 P a0 x1 (x2 + (1 : Int32)) (((5 : Int32) * x3) / (16 : Int32)) r4 er4) (cwV 3 hts (gi_v wa_4_5 wa_4_7 wa_s_19 wa_1_1 wa_4_8) rfl rfl rfl (by decide +kernel) ⟨Nat.le_of_ble_eq_true rfl, Nat.le_of_ble_eq_true rfl⟩) ⟨mm_B_blind, ev_recv hK hM (ci := 9) rfl hg2 rfl, fun U hU hW => ⟨rfl, mm_B_of hK hZ hM hU hW⟩⟩ rfl rfl hl.1 rfl (lv_room (Nat.le_of_ble_eq_true rfl)) dX9_spreadLeft_42 ⟨Nat.zero_le _, Nat.zero_le _⟩) hM (fun H locs hM => ?_)
  refine lv_aload_n hx hb dX9_spreadLeft_45 rfl (lv_at hl 0 rfl) ?_
  refine lv_iload_n hx hb dX9_spreadLeft_46 rfl (lv_at hl 1 rfl) ?_
  refine lv_iconst (v := (1 : Int32)) hx hb dX9_spreadLeft_47 (by decide) ?_
  refine lv_iadd hx hb dX9_spreadLeft_48 ?_
  refine lv_iload_n hx hb dX9_spreadLeft_49 rfl (lv_at hl 2 rfl) ?_
  refine lv_iconst (v := (1 : Int32)) hx hb dX9_spreadLeft_50 (by decide) ?_
  refine lv_iadd hx hb dX9_spreadLeft_51 ?_
  refine lv_iload_n hx hb dX9_spreadLeft_52 rfl (lv_at hl 3 rfl) ?_
  refine lv_bipush (v := (16 : Int32)) hx hb dX9_spreadLeft_53 (by decide) ?_
  refine lv_idiv hx hb dX9_spreadLeft_55 (by decide) ?_
  refine bd_e hf (fun r5 er5 hf => ?_)
  refine ev_callv (va_runV (As := [.int (x1 + (1 : Int32)), .int (x2 + (1 : Int32)), .int (x3 / (16 : Int32))]) (rest := []) S (c_X9_leave (l := l) r4 P a0 (x1 + (1 : Int32)) (x2 + (1 : Int32)) (x3 / (16 : Int32)) r5 er5) (cwV 3 hts (gi_v wa_4_5 wa_4_7 wa_s_19 wa_1_1 wa_4_8) rfl rfl rfl (by decide +kernel) ⟨Nat.le_of_ble_eq_true rfl, Nat.le_of_ble_eq_true rfl⟩) ⟨mm_B_blind, ev_recv hK hM (ci := 9) rfl hg2 rfl, fun U hU hW => ⟨rfl, mm_B_of hK hZ hM hU hW⟩⟩ rfl rfl hl.1 rfl (lv_room (Nat.le_of_ble_eq_true rfl)) dX9_spreadLeft_56 ⟨Nat.zero_le _, Nat.zero_le _⟩) hM (fun H locs hM => ?_)
  obtain rfl := Option.some.inj hf
  subst hQ
  exact ev_vret S hr hlocks hK hZ hM dX9_spreadLeft_59
noncomputable def fn_X9_spreadDither_L22 (K : Nat → Nat) (N : Nat → Nat) (a0 : Nat) (P : Nat → Nat → Option Nat) (q2 : Nat) (v5 : Int32) : Nat → Int32 → Int32 → (Nat → Nat → Int32) → Option (Int32 × (Nat → Nat → Int32))
  | 0, _, _, _ => none
  | n + 1, v9, v10, I11 => if (16 : Int32) ≤ v10 then (some (v9, I11)) else (Option.bind (fn_X9_dotAt v10 v5) (fun (r14 : Int32) => Option.bind (fn_X9_seenAt K N I11 P a0 r14) (fun (r15 : Int32) => Option.bind (fn_X9_dotAt v10 v5) (fun (r16 : Int32) => gd (K q2 = 12 ∧ vp_in r16 (N q2)) (Option.bind (some (r15 + (I11 q2 (r16.toNatClampNeg)))) (fun v18 => Option.bind (if v18 < (128 : Int32) then (some (0 : Int32)) else (some (1 : Int32))) (fun (j20 : Int32) => Option.bind (if j20 = 0 then (some v9) else (Option.bind (some (v9 ||| ((1 : Int32) <<< (v10 &&& 31)))) (fun v26 => some v26))) (fun (j22 : Int32) => if j20 = 0 then (Option.bind (fn_X9_spreadLeft K N I11 P a0 v10 v5 v18) (fun (r24 : (Nat → Nat → Int32)) => fn_X9_spreadDither_L22 K N a0 P q2 v5 n j22 (v10 + (1 : Int32)) r24)) else (Option.bind (fn_X9_spreadLeft K N I11 P a0 v10 v5 (v18 - (255 : Int32))) (fun (r25 : (Nat → Nat → Int32)) => fn_X9_spreadDither_L22 K N a0 P q2 v5 n j22 (v10 + (1 : Int32)) r25))))))))))
noncomputable def fn_X9_spreadDither_L12 (K : Nat → Nat) (N : Nat → Nat) (a0 : Nat) (x1 : Int32) (P : Nat → Nat → Option Nat) (q2 : Nat) : Nat → Int32 → Int32 → (Nat → Nat → Int32) → Option (Int32 × (Nat → Nat → Int32))
  | 0, _, _, _ => none
  | n + 1, v4, v5, I6 => if x1 < v5 then (some (v4, I6)) else (Option.bind (fn_X9_spreadDither_L22 K N a0 P q2 v5 FU (0 : Int32) (0 : Int32) I6) (fun (r12 : Int32 × (Nat → Nat → Int32)) => fn_X9_spreadDither_L12 K N a0 x1 P q2 n r12.1 (v5 + (1 : Int32)) r12.2))
noncomputable def fn_X9_spreadDither (K N : Nat → Nat) (I : Nat → Nat → Int32) (P : Nat → Nat → Option Nat) (a0 : Nat) (x1 : Int32) : Option (Int32 × (Nat → Nat → Int32)) := gd (K a0 = 10) (Option.bind (P a0 (7)) (fun q2 => Option.bind (fn_J7_fill_53178 K N I P q2 (0 : Int32)) (fun (r3 : (Nat → Nat → Int32)) => Option.bind (fn_X9_spreadDither_L12 K N a0 x1 P q2 FU (0 : Int32) (0 : Int32) r3) (fun (r7 : Int32 × (Nat → Nat → Int32)) => some (r7.1, r7.2)))))
abbrev wz_X9_spreadDither : List Cond := Cond.code yX9_spreadDither cX9_spreadDither 7 (some .int) :: WA
abbrev rm_X9_spreadDither : Room := { frames := 6, cells := 0, slots := 0, locals := 126 }
set_option maxHeartbeats 4000000 in
set_option maxRecDepth 100000 in
theorem c_X9_spreadDither (I : Nat → Nat → Int32) (P : Nat → Nat → Option Nat) (a0 : Nat) (x1 : Int32) (res : Int32 × (Nat → Nat → Int32)) (hf : fn_X9_spreadDither K N I P a0 x1 = some res) : Met l yX9_spreadDither wz_X9_spreadDither rm_X9_spreadDither (va_Pc [.ref a0, .int x1] (mm_B D cs A L K N z w I P)) (va_Qi (fun r (_ : Unit) => r = res.1) (fun _ => mm_B D cs A L K N z w res.2 P) A) 0 0 A := by
  refine Met.ofW (cc := cX9_spreadDither) (maxL := 7) (ret := (some .int)) (by decide) rfl ?_
  intro p e s m args below meth c s₁ B hml hv
  obtain ⟨rfl, hBm⟩ := hv
  have hx := B.exec
  have hb := B.bytes
  have hr := B.returns
  have hts := atoms_spec (ws := wz_X9_spreadDither) B.pre
  have hWA : ∀ w ∈ WA, w.before ([.ref a0, .int x1] : List Value).toArray s = true := fun u9 h9 => hts u9 (List.mem_cons_of_mem _ h9)
  have hown : s.vm.findClass RX9 = some m.cls := findClass_of_methodNamed B.named
  have hlocks := B.notSynchronized
  have S : CallFix p m c cX9_spreadDither 7 s ([.ref a0, .int x1] : List Value).toArray wz_X9_spreadDither RX9 := ⟨hx, hb, hml, hown, hts⟩
  have hK := hBm.2.2.2.1
  have hZ := hBm.2.2.2.2
  have hM : mm_W D cs A L K N s.heap I P s.heap [] := ⟨hBm.1, hBm.2.1, hBm.2.2.1, va_S.rf⟩
  have hl := lv_entry ([.ref a0, .int x1]) (n := 7) (Nat.le_of_ble_eq_true rfl)
  rw [lg_entry_eq]
  generalize (lg_sl ([.ref a0, .int x1]) ++ List.replicate (7 - (lg_sl ([.ref a0, .int x1])).length) Slot.unset).toArray = ls at hl ⊢
  have hl : lv_has ls 7 [(0, .ref a0), (1, .int x1)] := hl
  have hin9 : ∀ w ∈ wsX90, w ∈ wz_X9_spreadDither := fun w h => List.mem_cons_of_mem _ (wu_X9 w h)
  have lk51 : (Cond.fieldLink RX9 51 RX9 "lefts" "[I").before ([.ref a0, .int x1] : List Value).toArray s = true := hWA _ wa_2_22
  generalize hQ : MQ below (va_Qi (fun r (_ : Unit) => r = res.1) (fun _ => mm_B D cs A L K N z w res.2 P) A) ([.ref a0, .int x1] : List Value).toArray s 0 0 A = QQ
  rw [fn_X9_spreadDither] at hf
  refine lv_aload_n hx hb dX9_spreadDither_0 rfl (lv_at hl 0 rfl) ?_
  refine gd_e hf (fun hg1 hf => ?_)
  refine bd_e hf (fun q2 eq2 hf => ?_)
  refine ev_getP (v := q2) S hK hM (ci := 9) (n := 8) (C := RX9) (T := TX9) hin9 rfl hg1 7 (by decide) lk51 rfl rfl eq2 rfl dX9_spreadDither_1 ?_
  refine lv_iconst (v := (0 : Int32)) hx hb dX9_spreadDither_4 (by decide) ?_
  refine bd_e hf (fun r3 er3 hf => ?_)
  refine ev_callv (va_runS (As := [.ref q2, .int (0 : Int32)]) (rest := []) S (c_J7_fill_53178 (l := l) I P q2 (0 : Int32) r3 er3) (va_cwS 2 hts (gi_s wa_4_0 wa_2_66 wa_1_12 wa_2_67) rfl rfl rfl (by decide +kernel) ⟨Nat.le_of_ble_eq_true rfl, Nat.le_of_ble_eq_true rfl⟩) ⟨mm_B_blind, fun U hU hW => ⟨rfl, mm_B_of hK hZ hM hU hW⟩⟩ rfl rfl hl.1 rfl (lv_room (Nat.le_of_ble_eq_true rfl)) dX9_spreadDither_5 ⟨Nat.zero_le _, Nat.zero_le _⟩) hM (fun H locs hM => ?_)
  refine lv_iconst (v := (0 : Int32)) hx hb dX9_spreadDither_8 (by decide) ?_
  refine lv_istore_n (lv' := [(2, .int (0 : Int32)), (0, .ref a0), (1, .int x1)]) hx hb dX9_spreadDither_9 rfl hl (by decide) rfl (fun ls hl => ?_)
  refine lv_iconst (v := (0 : Int32)) hx hb dX9_spreadDither_10 (by decide) ?_
  refine lv_istore_n (lv' := [(3, .int (0 : Int32)), (2, .int (0 : Int32)), (0, .ref a0), (1, .int x1)]) hx hb dX9_spreadDither_11 rfl hl (by decide) rfl (fun ls hl => ?_)
  have lp12_26 : ∀ (n : Nat) (v4 : Int32) (v5 : Int32) (I6 : Nat → Nat → Int32) (H : Heap) (locs : List Loc) (ls : Array Slot) (r7 : Int32 × (Nat → Nat → Int32)), mm_W D cs A L K N s.heap I6 P H locs → lv_has ls 7 [(0, .ref a0), (1, .int x1), (2, .int v4), (3, .int v5)] → fn_X9_spreadDither_L12 K N a0 x1 P q2 n v4 v5 I6 = some r7 → (∀ (H : Heap) (locs : List Loc) (ls : Array Slot), mm_W D cs A L K N s.heap r7.2 P H locs → lv_has ls 7 [(2, .int r7.1)] → W p l e (headSpec wz_X9_spreadDither rm_X9_spreadDither).room s m ([.ref a0, .int x1] : List Value).toArray below meth c H locs 0 0 QQ (F0 m 115 ls [])) → W p l e (headSpec wz_X9_spreadDither rm_X9_spreadDither).room s m ([.ref a0, .int x1] : List Value).toArray below meth c H locs 0 0 QQ (F0 m 12 ls []) := by
    intro n
    induction n with
    | zero => intro v4 v5 I6 H locs ls r7 hM hl hf kk; exact nn_x (show (none : Option (Int32 × (Nat → Nat → Int32))) = some r7 from hf)
    | succ n ih =>
      intro v4 v5 I6 H locs ls r7 hM hl hf kk
      rw [fn_X9_spreadDither_L12] at hf
      refine lv_iload_n hx hb dX9_spreadDither_12 rfl (lv_at hl 3 rfl) ?_
      refine lv_iload_n hx hb dX9_spreadDither_13 rfl (lv_at hl 1 rfl) ?_
      refine lv_icmp_gt (tgt := 115) hx hb dX9_spreadDither_14 (by decide) (fun hc8 => ?_) (fun hc8 => ?_)
      · have hf := it_p hf hc8
        obtain rfl := Option.some.inj hf
        exact kk _ _ _ hM (lv_sub hl [2] rfl)
      · have hf := it_n hf hc8
        refine lv_iconst (v := (0 : Int32)) hx hb dX9_spreadDither_17 (by decide) ?_
        refine lv_istore_n (lv' := [(2, .int (0 : Int32)), (0, .ref a0), (1, .int x1), (3, .int v5)]) hx hb dX9_spreadDither_18 rfl hl (by decide) rfl (fun ls hl => ?_)
        refine lv_iconst (v := (0 : Int32)) hx hb dX9_spreadDither_19 (by decide) ?_
        refine lv_istore (lv' := [(4, .int (0 : Int32)), (2, .int (0 : Int32)), (0, .ref a0), (1, .int x1), (3, .int v5)]) hx hb dX9_spreadDither_20 hl (by decide) rfl (fun ls hl => ?_)
        have lp22_26 : ∀ (n : Nat) (v9 : Int32) (v10 : Int32) (I11 : Nat → Nat → Int32) (H : Heap) (locs : List Loc) (ls : Array Slot) (r12 : Int32 × (Nat → Nat → Int32)), mm_W D cs A L K N s.heap I11 P H locs → lv_has ls 7 [(0, .ref a0), (1, .int x1), (2, .int v9), (3, .int v5), (4, .int v10)] → fn_X9_spreadDither_L22 K N a0 P q2 v5 n v9 v10 I11 = some r12 → (∀ (H : Heap) (locs : List Loc) (ls : Array Slot), mm_W D cs A L K N s.heap r12.2 P H locs → lv_has ls 7 [(0, .ref a0), (1, .int x1), (2, .int r12.1), (3, .int v5)] → W p l e (headSpec wz_X9_spreadDither rm_X9_spreadDither).room s m ([.ref a0, .int x1] : List Value).toArray below meth c H locs 0 0 QQ (F0 m 109 ls [])) → W p l e (headSpec wz_X9_spreadDither rm_X9_spreadDither).room s m ([.ref a0, .int x1] : List Value).toArray below meth c H locs 0 0 QQ (F0 m 22 ls []) := by
          intro n
          induction n with
          | zero => intro v9 v10 I11 H locs ls r12 hM hl hf kk; exact nn_x (show (none : Option (Int32 × (Nat → Nat → Int32))) = some r12 from hf)
          | succ n ih =>
            intro v9 v10 I11 H locs ls r12 hM hl hf kk
            rw [fn_X9_spreadDither_L22] at hf
            refine lv_iload hx hb dX9_spreadDither_22 (lv_at hl 4 rfl) ?_
            refine lv_bipush (v := (16 : Int32)) hx hb dX9_spreadDither_24 (by decide) ?_
            refine lv_icmp_ge (tgt := 109) hx hb dX9_spreadDither_26 (by decide) (fun hc13 => ?_) (fun hc13 => ?_)
            · have hf := it_p hf hc13
              obtain rfl := Option.some.inj hf
              exact kk _ _ _ hM (lv_sub hl [0, 1, 2, 3] rfl)
            · have hf := it_n hf hc13
              refine lv_aload_n hx hb dX9_spreadDither_29 rfl (lv_at hl 0 rfl) ?_
              refine lv_iload hx hb dX9_spreadDither_30 (lv_at hl 4 rfl) ?_
              refine lv_iload_n hx hb dX9_spreadDither_32 rfl (lv_at hl 3 rfl) ?_
              refine bd_e hf (fun r14 er14 hf => ?_)
              refine ev_calli (va_runS (As := [.int v10, .int v5]) (rest := [.ref a0]) S (c_X9_dotAt (l := l) I11 P v10 v5 r14 er14) (va_cwS 2 hts (gi_s wa_2_148 wa_2_149 wa_1_1 wa_2_150) rfl rfl rfl (by decide +kernel) ⟨Nat.le_of_ble_eq_true rfl, Nat.le_of_ble_eq_true rfl⟩) ⟨mm_B_blind, fun U hU hW => ⟨rfl, mm_B_of hK hZ hM hU hW⟩⟩ rfl rfl hl.1 rfl (lv_room (Nat.le_of_ble_eq_true rfl)) dX9_spreadDither_33 ⟨Nat.zero_le _, Nat.zero_le _⟩) hM (fun H locs hM => ?_)
              refine bd_e hf (fun r15 er15 hf => ?_)
              refine ev_calli (va_runV (As := [.int r14]) (rest := []) S (c_X9_seenAt (l := l) I11 P a0 r14 r15 er15) (cwV 1 hts (gi_v wa_2_151 wa_2_153 wa_s_1 wa_1_1 wa_2_154) rfl rfl rfl (by decide +kernel) ⟨Nat.le_of_ble_eq_true rfl, Nat.le_of_ble_eq_true rfl⟩) ⟨mm_B_blind, ev_recv hK hM (ci := 9) rfl hg1 rfl, fun U hU hW => ⟨rfl, mm_B_of hK hZ hM hU hW⟩⟩ rfl rfl hl.1 rfl (lv_room (Nat.le_of_ble_eq_true rfl)) dX9_spreadDither_36 ⟨Nat.zero_le _, Nat.zero_le _⟩) hM (fun H locs hM => ?_)
              refine lv_aload_n hx hb dX9_spreadDither_39 rfl (lv_at hl 0 rfl) ?_
              refine ev_getP (v := q2) S hK hM (ci := 9) (n := 8) (C := RX9) (T := TX9) hin9 rfl hg1 7 (by decide) lk51 rfl rfl eq2 rfl dX9_spreadDither_40 ?_
              refine lv_iload hx hb dX9_spreadDither_43 (lv_at hl 4 rfl) ?_
              refine lv_iload_n hx hb dX9_spreadDither_45 rfl (lv_at hl 3 rfl) ?_
              refine bd_e hf (fun r16 er16 hf => ?_)
              refine ev_calli (va_runS (As := [.int v10, .int v5]) (rest := [.ref q2, .int r15]) S (c_X9_dotAt (l := l) I11 P v10 v5 r16 er16) (va_cwS 2 hts (gi_s wa_2_148 wa_2_149 wa_1_1 wa_2_150) rfl rfl rfl (by decide +kernel) ⟨Nat.le_of_ble_eq_true rfl, Nat.le_of_ble_eq_true rfl⟩) ⟨mm_B_blind, fun U hU hW => ⟨rfl, mm_B_of hK hZ hM hU hW⟩⟩ rfl rfl hl.1 rfl (lv_room (Nat.le_of_ble_eq_true rfl)) dX9_spreadDither_46 ⟨Nat.zero_le _, Nat.zero_le _⟩) hM (fun H locs hM => ?_)
              refine gd_e hf (fun hg17 hf => ?_)
              refine ev_iald S hK hM hg17 (j := r16.toNatClampNeg) rfl dX9_spreadDither_49 ?_
              refine lv_iadd hx hb dX9_spreadDither_50 ?_
              refine lv_topi (fun v18 ev18 => ?_)
              have hf := nm_x ev18 hf
              refine lv_istore (lv' := [(5, .int v18), (0, .ref a0), (1, .int x1), (2, .int v9), (3, .int v5), (4, .int v10)]) hx hb dX9_spreadDither_51 hl (by decide) rfl (fun ls hl => ?_)
              refine lv_iload hx hb dX9_spreadDither_53 (lv_at hl 0 rfl) ?_
              refine lv_sipush (v := (128 : Int32)) hx hb dX9_spreadDither_55 (by decide) ?_
              refine bd_e hf (fun j20 ej20 hf => ?_)
              have kj20 : ∀ (H : Heap) (locs : List Loc) (ls : Array Slot), mm_W D cs A L K N s.heap I11 P H locs → lv_has ls 7 [(0, .ref a0), (1, .int x1), (2, .int v9), (3, .int v5), (4, .int v10), (5, .int v18)] → W p l e (headSpec wz_X9_spreadDither rm_X9_spreadDither).room s m ([.ref a0, .int x1] : List Value).toArray below meth c H locs 0 0 QQ (F0 m 66 ls [.int j20]) := by
                intro H locs ls hM hl
                refine lv_istore (lv' := [(6, .int j20), (0, .ref a0), (1, .int x1), (2, .int v9), (3, .int v5), (4, .int v10), (5, .int v18)]) hx hb dX9_spreadDither_66 hl (by decide) rfl (fun ls hl => ?_)
                refine lv_iload hx hb dX9_spreadDither_68 (lv_at hl 0 rfl) ?_
                refine bd_e hf (fun j22 ej22 hf => ?_)
                have kj22 : ∀ (H : Heap) (locs : List Loc) (ls : Array Slot), mm_W D cs A L K N s.heap I11 P H locs → lv_has ls 7 [(0, .ref a0), (1, .int x1), (2, .int j22), (3, .int v5), (4, .int v10), (5, .int v18), (6, .int j20)] → W p l e (headSpec wz_X9_spreadDither rm_X9_spreadDither).room s m ([.ref a0, .int x1] : List Value).toArray below meth c H locs 0 0 QQ (F0 m 80 ls []) := by
                  intro H locs ls hM hl
                  refine lv_aload_n hx hb dX9_spreadDither_80 rfl (lv_at hl 0 rfl) ?_
                  refine lv_iload hx hb dX9_spreadDither_81 (lv_at hl 4 rfl) ?_
                  refine lv_iload_n hx hb dX9_spreadDither_83 rfl (lv_at hl 3 rfl) ?_
                  refine lv_iload hx hb dX9_spreadDither_84 (lv_at hl 6 rfl) ?_
                  refine lv_if_eq (tgt := 98) hx hb dX9_spreadDither_86 (by decide) (fun hc23 => ?_) (fun hc23 => ?_)
                  · have hf := it_p hf hc23
                    refine lv_iload hx hb dX9_spreadDither_98 (lv_at hl 5 rfl) ?_
                    refine bd_e hf (fun r24 er24 hf => ?_)
                    refine ev_callv (va_runV (As := [.int v10, .int v5, .int v18]) (rest := []) S (c_X9_spreadLeft (l := l) I11 P a0 v10 v5 v18 r24 er24) (cwV 3 hts (gi_v wa_4_1 wa_4_3 wa_s_18 wa_1_1 wa_4_4) rfl rfl rfl (by decide +kernel) ⟨Nat.le_of_ble_eq_true rfl, Nat.le_of_ble_eq_true rfl⟩) ⟨mm_B_blind, ev_recv hK hM (ci := 9) rfl hg1 rfl, fun U hU hW => ⟨rfl, mm_B_of hK hZ hM hU hW⟩⟩ rfl rfl hl.1 rfl (lv_room (Nat.le_of_ble_eq_true rfl)) dX9_spreadDither_100 ⟨Nat.zero_le _, Nat.zero_le _⟩) hM (fun H locs hM => ?_)
                    refine lv_iinc (v := (v10 + (1 : Int32))) (lv' := [(4, .int (v10 + (1 : Int32))), (0, .ref a0), (1, .int x1), (2, .int j22), (3, .int v5), (5, .int v18), (6, .int j20)]) hx hb dX9_spreadDither_103 hl (k := 4) rfl rfl (by decide) rfl (fun ls hl => ?_)
                    refine lv_goto (tgt := 22) hx hb dX9_spreadDither_106 (by decide) ?_
                    exact ih j22 (v10 + (1 : Int32)) r24 _ _ _ _ hM (lv_sub hl [1, 2, 3, 4, 0] rfl) hf kk
                  · have hf := it_n hf hc23
                    refine lv_iload hx hb dX9_spreadDither_89 (lv_at hl 5 rfl) ?_
                    refine lv_sipush (v := (255 : Int32)) hx hb dX9_spreadDither_91 (by decide) ?_
                    refine lv_isub hx hb dX9_spreadDither_94 ?_
                    refine lv_goto (tgt := 100) hx hb dX9_spreadDither_95 (by decide) ?_
                    refine bd_e hf (fun r25 er25 hf => ?_)
                    refine ev_callv (va_runV (As := [.int v10, .int v5, .int (v18 - (255 : Int32))]) (rest := []) S (c_X9_spreadLeft (l := l) I11 P a0 v10 v5 (v18 - (255 : Int32)) r25 er25) (cwV 3 hts (gi_v wa_4_1 wa_4_3 wa_s_18 wa_1_1 wa_4_4) rfl rfl rfl (by decide +kernel) ⟨Nat.le_of_ble_eq_true rfl, Nat.le_of_ble_eq_true rfl⟩) ⟨mm_B_blind, ev_recv hK hM (ci := 9) rfl hg1 rfl, fun U hU hW => ⟨rfl, mm_B_of hK hZ hM hU hW⟩⟩ rfl rfl hl.1 rfl (lv_room (Nat.le_of_ble_eq_true rfl)) dX9_spreadDither_100 ⟨Nat.zero_le _, Nat.zero_le _⟩) hM (fun H locs hM => ?_)
                    refine lv_iinc (v := (v10 + (1 : Int32))) (lv' := [(4, .int (v10 + (1 : Int32))), (0, .ref a0), (1, .int x1), (2, .int j22), (3, .int v5), (5, .int v18), (6, .int j20)]) hx hb dX9_spreadDither_103 hl (k := 4) rfl rfl (by decide) rfl (fun ls hl => ?_)
                    refine lv_goto (tgt := 22) hx hb dX9_spreadDither_106 (by decide) ?_
                    exact ih j22 (v10 + (1 : Int32)) r25 _ _ _ _ hM (lv_sub hl [1, 2, 3, 4, 0] rfl) hf kk
                have hf := ej22
                refine lv_if_eq (tgt := 80) hx hb dX9_spreadDither_70 (by decide) (fun hc21 => ?_) (fun hc21 => ?_)
                · have hf := it_p hf hc21
                  obtain rfl := Option.some.inj hf
                  exact kj22 _ _ _ hM (lv_sub hl [1, 2, 3, 4, 5, 6, 0] rfl)
                · have hf := it_n hf hc21
                  refine lv_iload_n hx hb dX9_spreadDither_73 rfl (lv_at hl 3 rfl) ?_
                  refine lv_iconst (v := (1 : Int32)) hx hb dX9_spreadDither_74 (by decide) ?_
                  refine lv_iload hx hb dX9_spreadDither_75 (lv_at hl 5 rfl) ?_
                  refine lv_ishl hx hb dX9_spreadDither_77 ?_
                  refine lv_ior hx hb dX9_spreadDither_78 ?_
                  refine lv_topi (fun v26 ev26 => ?_)
                  have hf := nm_x ev26 hf
                  refine lv_istore_n (lv' := [(2, .int v26), (6, .int j20), (0, .ref a0), (1, .int x1), (3, .int v5), (4, .int v10), (5, .int v18)]) hx hb dX9_spreadDither_79 rfl hl (by decide) rfl (fun ls hl => ?_)
                  obtain rfl := Option.some.inj hf
                  exact kj22 _ _ _ hM (lv_sub hl [2, 3, 0, 4, 5, 6, 1] rfl)
              have hf := ej20
              refine lv_icmp_lt (tgt := 65) hx hb dX9_spreadDither_58 (by decide) (fun hc19 => ?_) (fun hc19 => ?_)
              · have hf := it_p hf hc19
                refine lv_iconst (v := (0 : Int32)) hx hb dX9_spreadDither_65 (by decide) ?_
                obtain rfl := Option.some.inj hf
                exact kj20 _ _ _ hM (lv_sub hl [1, 2, 3, 4, 5, 0] rfl)
              · have hf := it_n hf hc19
                refine lv_iconst (v := (1 : Int32)) hx hb dX9_spreadDither_61 (by decide) ?_
                refine lv_goto (tgt := 66) hx hb dX9_spreadDither_62 (by decide) ?_
                obtain rfl := Option.some.inj hf
                exact kj20 _ _ _ hM (lv_sub hl [1, 2, 3, 4, 5, 0] rfl)
        refine bd_e hf (fun r12 er12 hf => ?_)
        refine lp22_26 FU (0 : Int32) (0 : Int32) I6 _ _ _ r12 hM (lv_sub hl [2, 3, 1, 4, 0] rfl) er12 (fun H locs ls hM hl => ?_)
        refine lv_iinc (v := (v5 + (1 : Int32))) (lv' := [(3, .int (v5 + (1 : Int32))), (0, .ref a0), (1, .int x1), (2, .int r12.1)]) hx hb dX9_spreadDither_109 hl (k := 3) rfl rfl (by decide) rfl (fun ls hl => ?_)
        refine lv_goto (tgt := 12) hx hb dX9_spreadDither_112 (by decide) ?_
        exact ih r12.1 (v5 + (1 : Int32)) r12.2 _ _ _ _ hM (lv_sub hl [1, 2, 3, 0] rfl) hf kk
  refine bd_e hf (fun r7 er7 hf => ?_)
  refine lp12_26 FU (0 : Int32) (0 : Int32) r3 _ _ _ r7 hM (lv_sub hl [2, 3, 1, 0] rfl) er7 (fun H locs ls hM hl => ?_)
  refine lv_iload_n hx hb dX9_spreadDither_115 rfl (lv_at hl 0 rfl) ?_
  obtain rfl := Option.some.inj hf
  subst hQ
  exact ev_iret S hr hlocks hK hZ hM dX9_spreadDither_116
noncomputable def fn_X9_patternDither_L4 (K : Nat → Nat) (N : Nat → Nat) (a0 : Nat) (x1 : Int32) (I : Nat → Nat → Int32) (P : Nat → Nat → Option Nat) : Nat → Int32 → Int32 → Option (Int32)
  | 0, _, _ => none
  | n + 1, v1, v2 => if (16 : Int32) ≤ v2 then (some v1) else (gd (vp_in (((x1 - x1 / (4 : Int32) * (4 : Int32)) * (4 : Int32)) + (v2 - v2 / (4 : Int32) * (4 : Int32))) 16) (Option.bind (some (mm_zt (Int32.toNatClampNeg (((x1 - x1 / (4 : Int32) * (4 : Int32)) * (4 : Int32)) + (v2 - v2 / (4 : Int32) * (4 : Int32)))))) (fun v6 => Option.bind (fn_X9_dotAt v2 x1) (fun (r7 : Int32) => Option.bind (fn_X9_seenAt K N I P a0 r7) (fun (r8 : Int32) => gd (K a0 = 10) (if r8 ≤ (((16 : Int32) * v6) + (7 : Int32)) then (fn_X9_patternDither_L4 K N a0 x1 I P n v1 (v2 + (1 : Int32))) else (Option.bind (some (v1 ||| ((1 : Int32) <<< (v2 &&& 31)))) (fun v11 => fn_X9_patternDither_L4 K N a0 x1 I P n v11 (v2 + (1 : Int32))))))))))
noncomputable def fn_X9_patternDither (K N : Nat → Nat) (I : Nat → Nat → Int32) (P : Nat → Nat → Option Nat) (a0 : Nat) (x1 : Int32) : Option (Int32) := Option.bind (fn_X9_patternDither_L4 K N a0 x1 I P FU (0 : Int32) (0 : Int32)) (fun (r3 : Int32) => some r3)
abbrev wz_X9_patternDither : List Cond := Cond.code yX9_patternDither cX9_patternDither 5 (some .int) :: WA
abbrev rm_X9_patternDither : Room := { frames := 6, cells := 0, slots := 0, locals := 126 }
set_option maxHeartbeats 4000000 in
set_option maxRecDepth 100000 in
theorem c_X9_patternDither (I : Nat → Nat → Int32) (P : Nat → Nat → Option Nat) (a0 : Nat) (x1 : Int32) (res : Int32) (hf : fn_X9_patternDither K N I P a0 x1 = some res) : Met l yX9_patternDither wz_X9_patternDither rm_X9_patternDither (va_Pc [.ref a0, .int x1] (mm_B D cs A L K N z w I P)) (va_Qi (fun r (_ : Unit) => r = res) (fun _ => mm_B D cs A L K N z w I P) A) 0 0 A := by
  refine Met.ofW (cc := cX9_patternDither) (maxL := 5) (ret := (some .int)) (by decide) rfl ?_
  intro p e s m args below meth c s₁ B hml hv
  obtain ⟨rfl, hBm⟩ := hv
  have hx := B.exec
  have hb := B.bytes
  have hr := B.returns
  have hts := atoms_spec (ws := wz_X9_patternDither) B.pre
  have hWA : ∀ w ∈ WA, w.before ([.ref a0, .int x1] : List Value).toArray s = true := fun u9 h9 => hts u9 (List.mem_cons_of_mem _ h9)
  have hown : s.vm.findClass RX9 = some m.cls := findClass_of_methodNamed B.named
  have hlocks := B.notSynchronized
  have S : CallFix p m c cX9_patternDither 5 s ([.ref a0, .int x1] : List Value).toArray wz_X9_patternDither RX9 := ⟨hx, hb, hml, hown, hts⟩
  have hK := hBm.2.2.2.1
  have hZ := hBm.2.2.2.2
  have hM : mm_W D cs A L K N s.heap I P s.heap [] := ⟨hBm.1, hBm.2.1, hBm.2.2.1, va_S.rf⟩
  have hl := lv_entry ([.ref a0, .int x1]) (n := 5) (Nat.le_of_ble_eq_true rfl)
  rw [lg_entry_eq]
  generalize (lg_sl ([.ref a0, .int x1]) ++ List.replicate (5 - (lg_sl ([.ref a0, .int x1])).length) Slot.unset).toArray = ls at hl ⊢
  have hl : lv_has ls 5 [(0, .ref a0), (1, .int x1)] := hl
  generalize hQ : MQ below (va_Qi (fun r (_ : Unit) => r = res) (fun _ => mm_B D cs A L K N z w I P) A) ([.ref a0, .int x1] : List Value).toArray s 0 0 A = QQ
  rw [fn_X9_patternDither] at hf
  refine lv_iconst (v := (0 : Int32)) hx hb dX9_patternDither_0 (by decide) ?_
  refine lv_istore_n (lv' := [(2, .int (0 : Int32)), (0, .ref a0), (1, .int x1)]) hx hb dX9_patternDither_1 rfl hl (by decide) rfl (fun ls hl => ?_)
  refine lv_iconst (v := (0 : Int32)) hx hb dX9_patternDither_2 (by decide) ?_
  refine lv_istore_n (lv' := [(3, .int (0 : Int32)), (2, .int (0 : Int32)), (0, .ref a0), (1, .int x1)]) hx hb dX9_patternDither_3 rfl hl (by decide) rfl (fun ls hl => ?_)
  have lp4_11 : ∀ (n : Nat) (v1 : Int32) (v2 : Int32) (H : Heap) (locs : List Loc) (ls : Array Slot) (r3 : Int32), mm_W D cs A L K N s.heap I P H locs → lv_has ls 5 [(0, .ref a0), (1, .int x1), (2, .int v1), (3, .int v2)] → fn_X9_patternDither_L4 K N a0 x1 I P n v1 v2 = some r3 → (∀ (H : Heap) (locs : List Loc) (ls : Array Slot), mm_W D cs A L K N s.heap I P H locs → lv_has ls 5 [(2, .int r3)] → W p l e (headSpec wz_X9_patternDither rm_X9_patternDither).room s m ([.ref a0, .int x1] : List Value).toArray below meth c H locs 0 0 QQ (F0 m 57 ls [])) → W p l e (headSpec wz_X9_patternDither rm_X9_patternDither).room s m ([.ref a0, .int x1] : List Value).toArray below meth c H locs 0 0 QQ (F0 m 4 ls []) := by
    intro n
    induction n with
    | zero => intro v1 v2 H locs ls r3 hM hl hf kk; exact nn_x (show (none : Option (Int32)) = some r3 from hf)
    | succ n ih =>
      intro v1 v2 H locs ls r3 hM hl hf kk
      rw [fn_X9_patternDither_L4] at hf
      refine lv_iload_n hx hb dX9_patternDither_4 rfl (lv_at hl 3 rfl) ?_
      refine lv_bipush (v := (16 : Int32)) hx hb dX9_patternDither_5 (by decide) ?_
      refine lv_icmp_ge (tgt := 57) hx hb dX9_patternDither_7 (by decide) (fun hc4 => ?_) (fun hc4 => ?_)
      · have hf := it_p hf hc4
        obtain rfl := Option.some.inj hf
        exact kk _ _ _ hM (lv_sub hl [2] rfl)
      · have hf := it_n hf hc4
        refine ev_gets1 S hZ hM (hWA _ wa_4_13) dX9_patternDither_10 ?_
        refine lv_iload_n hx hb dX9_patternDither_13 rfl (lv_at hl 1 rfl) ?_
        refine lv_iconst (v := (4 : Int32)) hx hb dX9_patternDither_14 (by decide) ?_
        refine lv_irem hx hb dX9_patternDither_15 (by decide) ?_
        refine lv_iconst (v := (4 : Int32)) hx hb dX9_patternDither_16 (by decide) ?_
        refine lv_imul hx hb dX9_patternDither_17 ?_
        refine lv_iload_n hx hb dX9_patternDither_18 rfl (lv_at hl 3 rfl) ?_
        refine lv_iconst (v := (4 : Int32)) hx hb dX9_patternDither_19 (by decide) ?_
        refine lv_irem hx hb dX9_patternDither_20 (by decide) ?_
        refine lv_iadd hx hb dX9_patternDither_21 ?_
        refine gd_e hf (fun hg5 hf => ?_)
        refine ev_sld1 S hZ hM hg5 dX9_patternDither_22 ?_
        refine lv_topi (fun v6 ev6 => ?_)
        have hf := nm_x ev6 hf
        refine lv_istore (lv' := [(4, .int v6), (0, .ref a0), (1, .int x1), (2, .int v1), (3, .int v2)]) hx hb dX9_patternDither_23 hl (by decide) rfl (fun ls hl => ?_)
        refine lv_aload_n hx hb dX9_patternDither_25 rfl (lv_at hl 1 rfl) ?_
        refine lv_iload_n hx hb dX9_patternDither_26 rfl (lv_at hl 4 rfl) ?_
        refine lv_iload_n hx hb dX9_patternDither_27 rfl (lv_at hl 2 rfl) ?_
        refine bd_e hf (fun r7 er7 hf => ?_)
        refine ev_calli (va_runS (As := [.int v2, .int x1]) (rest := [.ref a0]) S (c_X9_dotAt (l := l) I P v2 x1 r7 er7) (va_cwS 2 hts (gi_s wa_2_148 wa_2_149 wa_1_1 wa_2_150) rfl rfl rfl (by decide +kernel) ⟨Nat.le_of_ble_eq_true rfl, Nat.le_of_ble_eq_true rfl⟩) ⟨mm_B_blind, fun U hU hW => ⟨rfl, mm_B_of hK hZ hM hU hW⟩⟩ rfl rfl hl.1 rfl (lv_room (Nat.le_of_ble_eq_true rfl)) dX9_patternDither_28 ⟨Nat.zero_le _, Nat.zero_le _⟩) hM (fun H locs hM => ?_)
        refine bd_e hf (fun r8 er8 hf => ?_)
        refine gd_e hf (fun hg9 hf => ?_)
        refine ev_calli (va_runV (As := [.int r7]) (rest := []) S (c_X9_seenAt (l := l) I P a0 r7 r8 er8) (cwV 1 hts (gi_v wa_2_151 wa_2_153 wa_s_1 wa_1_1 wa_2_154) rfl rfl rfl (by decide +kernel) ⟨Nat.le_of_ble_eq_true rfl, Nat.le_of_ble_eq_true rfl⟩) ⟨mm_B_blind, ev_recv hK hM (ci := 9) rfl hg9 rfl, fun U hU hW => ⟨rfl, mm_B_of hK hZ hM hU hW⟩⟩ rfl rfl hl.1 rfl (lv_room (Nat.le_of_ble_eq_true rfl)) dX9_patternDither_31 ⟨Nat.zero_le _, Nat.zero_le _⟩) hM (fun H locs hM => ?_)
        refine lv_bipush (v := (16 : Int32)) hx hb dX9_patternDither_34 (by decide) ?_
        refine lv_iload hx hb dX9_patternDither_36 (lv_at hl 0 rfl) ?_
        refine lv_imul hx hb dX9_patternDither_38 ?_
        refine lv_bipush (v := (7 : Int32)) hx hb dX9_patternDither_39 (by decide) ?_
        refine lv_iadd hx hb dX9_patternDither_41 ?_
        refine lv_icmp_le (tgt := 51) hx hb dX9_patternDither_42 (by decide) (fun hc10 => ?_) (fun hc10 => ?_)
        · have hf := it_p hf hc10
          refine lv_iinc (v := (v2 + (1 : Int32))) (lv' := [(3, .int (v2 + (1 : Int32))), (4, .int v6), (0, .ref a0), (1, .int x1), (2, .int v1)]) hx hb dX9_patternDither_51 hl (k := 4) rfl rfl (by decide) rfl (fun ls hl => ?_)
          refine lv_goto (tgt := 4) hx hb dX9_patternDither_54 (by decide) ?_
          exact ih v1 (v2 + (1 : Int32)) _ _ _ _ hM (lv_sub hl [2, 3, 4, 0] rfl) hf kk
        · have hf := it_n hf hc10
          refine lv_iload_n hx hb dX9_patternDither_45 rfl (lv_at hl 3 rfl) ?_
          refine lv_iconst (v := (1 : Int32)) hx hb dX9_patternDither_46 (by decide) ?_
          refine lv_iload_n hx hb dX9_patternDither_47 rfl (lv_at hl 4 rfl) ?_
          refine lv_ishl hx hb dX9_patternDither_48 ?_
          refine lv_ior hx hb dX9_patternDither_49 ?_
          refine lv_topi (fun v11 ev11 => ?_)
          have hf := nm_x ev11 hf
          refine lv_istore_n (lv' := [(2, .int v11), (4, .int v6), (0, .ref a0), (1, .int x1), (3, .int v2)]) hx hb dX9_patternDither_50 rfl hl (by decide) rfl (fun ls hl => ?_)
          refine lv_iinc (v := (v2 + (1 : Int32))) (lv' := [(3, .int (v2 + (1 : Int32))), (2, .int v11), (4, .int v6), (0, .ref a0), (1, .int x1)]) hx hb dX9_patternDither_51 hl (k := 4) rfl rfl (by decide) rfl (fun ls hl => ?_)
          refine lv_goto (tgt := 4) hx hb dX9_patternDither_54 (by decide) ?_
          exact ih v11 (v2 + (1 : Int32)) _ _ _ _ hM (lv_sub hl [3, 4, 1, 0] rfl) hf kk
  refine bd_e hf (fun r3 er3 hf => ?_)
  refine lp4_11 FU (0 : Int32) (0 : Int32) _ _ _ r3 hM (lv_sub hl [2, 3, 1, 0] rfl) er3 (fun H locs ls hM hl => ?_)
  refine lv_iload_n hx hb dX9_patternDither_57 rfl (lv_at hl 0 rfl) ?_
  obtain rfl := Option.some.inj hf
  subst hQ
  exact ev_iret S hr hlocks hK hZ hM dX9_patternDither_58
noncomputable def fn_X9_dither (K N : Nat → Nat) (I : Nat → Nat → Int32) (P : Nat → Nat → Option Nat) (a0 : Nat) (x1 : Int32) (x2 : Int32) : Option (Int32 × (Nat → Nat → Int32)) := Option.bind (fn_X9_isWithin x1 (0 : Int32) (1 : Int32)) (fun (r1 : Int32) => if r1 = 0 then (some ((-2 : Int32), I)) else (Option.bind (fn_X9_isRow x2) (fun (r3 : Int32) => if r3 = 0 then (some ((-2 : Int32), I)) else (if x1 = 0 then (Option.bind (fn_X9_spreadDither K N I P a0 x2) (fun (r8 : Int32 × (Nat → Nat → Int32)) => gd (K a0 = 10) (some (r8.1, r8.2)))) else (Option.bind (fn_X9_patternDither K N I P a0 x2) (fun (r6 : Int32) => gd (K a0 = 10) (some (r6, I))))))))
abbrev wz_X9_dither : List Cond := Cond.code yX9_dither cX9_dither 3 (some .int) :: WA
abbrev rm_X9_dither : Room := { frames := 7, cells := 0, slots := 0, locals := 152 }
set_option maxHeartbeats 4000000 in
set_option maxRecDepth 100000 in
theorem c_X9_dither (I : Nat → Nat → Int32) (P : Nat → Nat → Option Nat) (a0 : Nat) (x1 : Int32) (x2 : Int32) (res : Int32 × (Nat → Nat → Int32)) (hf : fn_X9_dither K N I P a0 x1 x2 = some res) : Met l yX9_dither wz_X9_dither rm_X9_dither (va_Pc [.ref a0, .int x1, .int x2] (mm_B D cs A L K N z w I P)) (va_Qi (fun r (_ : Unit) => r = res.1) (fun _ => mm_B D cs A L K N z w res.2 P) A) 0 0 A := by
  refine Met.ofW (cc := cX9_dither) (maxL := 3) (ret := (some .int)) (by decide) rfl ?_
  intro p e s m args below meth c s₁ B hml hv
  obtain ⟨rfl, hBm⟩ := hv
  have hx := B.exec
  have hb := B.bytes
  have hr := B.returns
  have hts := atoms_spec (ws := wz_X9_dither) B.pre
  have hWA : ∀ w ∈ WA, w.before ([.ref a0, .int x1, .int x2] : List Value).toArray s = true := fun u9 h9 => hts u9 (List.mem_cons_of_mem _ h9)
  have hown : s.vm.findClass RX9 = some m.cls := findClass_of_methodNamed B.named
  have hlocks := B.notSynchronized
  have S : CallFix p m c cX9_dither 3 s ([.ref a0, .int x1, .int x2] : List Value).toArray wz_X9_dither RX9 := ⟨hx, hb, hml, hown, hts⟩
  have hK := hBm.2.2.2.1
  have hZ := hBm.2.2.2.2
  have hM : mm_W D cs A L K N s.heap I P s.heap [] := ⟨hBm.1, hBm.2.1, hBm.2.2.1, va_S.rf⟩
  have hl := lv_entry ([.ref a0, .int x1, .int x2]) (n := 3) (Nat.le_of_ble_eq_true rfl)
  rw [lg_entry_eq]
  generalize (lg_sl ([.ref a0, .int x1, .int x2]) ++ List.replicate (3 - (lg_sl ([.ref a0, .int x1, .int x2])).length) Slot.unset).toArray = ls at hl ⊢
  have hl : lv_has ls 3 [(0, .ref a0), (1, .int x1), (2, .int x2)] := hl
  generalize hQ : MQ below (va_Qi (fun r (_ : Unit) => r = res.1) (fun _ => mm_B D cs A L K N z w res.2 P) A) ([.ref a0, .int x1, .int x2] : List Value).toArray s 0 0 A = QQ
  rw [fn_X9_dither] at hf
  refine lv_iload_n hx hb dX9_dither_0 rfl (lv_at hl 1 rfl) ?_
  refine lv_iconst (v := (0 : Int32)) hx hb dX9_dither_1 (by decide) ?_
  refine lv_iconst (v := (1 : Int32)) hx hb dX9_dither_2 (by decide) ?_
  refine bd_e hf (fun r1 er1 hf => ?_)
  refine ev_calli (va_runS (As := [.int x1, .int (0 : Int32), .int (1 : Int32)]) (rest := []) S (c_X9_isWithin (l := l) I P x1 (0 : Int32) (1 : Int32) r1 er1) (va_cwS 3 hts (gi_s wa_2_47 wa_2_48 wa_1_1 wa_2_49) rfl rfl rfl (by decide +kernel) ⟨Nat.le_of_ble_eq_true rfl, Nat.le_of_ble_eq_true rfl⟩) ⟨mm_B_blind, fun U hU hW => ⟨rfl, mm_B_of hK hZ hM hU hW⟩⟩ rfl rfl hl.1 rfl (lv_room (Nat.le_of_ble_eq_true rfl)) dX9_dither_3 ⟨Nat.zero_le _, Nat.zero_le _⟩) hM (fun H locs hM => ?_)
  refine lv_if_eq (tgt := 16) hx hb dX9_dither_6 (by decide) (fun hc2 => ?_) (fun hc2 => ?_)
  · have hf := it_p hf hc2
    refine lv_bipush (v := (-2 : Int32)) hx hb dX9_dither_16 (by decide) ?_
    obtain rfl := Option.some.inj hf
    subst hQ
    exact ev_iret S hr hlocks hK hZ hM dX9_dither_18
  · have hf := it_n hf hc2
    refine lv_iload_n hx hb dX9_dither_9 rfl (lv_at hl 2 rfl) ?_
    refine bd_e hf (fun r3 er3 hf => ?_)
    refine ev_calli (va_runS (As := [.int x2]) (rest := []) S (c_X9_isRow (l := l) I P x2 r3 er3) (va_cwS 1 hts (gi_s wa_2_145 wa_2_146 wa_1_1 wa_2_147) rfl rfl rfl (by decide +kernel) ⟨Nat.le_of_ble_eq_true rfl, Nat.le_of_ble_eq_true rfl⟩) ⟨mm_B_blind, fun U hU hW => ⟨rfl, mm_B_of hK hZ hM hU hW⟩⟩ rfl rfl hl.1 rfl (lv_room (Nat.le_of_ble_eq_true rfl)) dX9_dither_10 ⟨Nat.zero_le _, Nat.zero_le _⟩) hM (fun H locs hM => ?_)
    refine lv_if_ne (tgt := 19) hx hb dX9_dither_13 (by decide) (fun hc4 => ?_) (fun hc4 => ?_)
    · have hf := it_n hf hc4
      refine lv_iload_n hx hb dX9_dither_19 rfl (lv_at hl 1 rfl) ?_
      refine lv_if_ne (tgt := 31) hx hb dX9_dither_20 (by decide) (fun hc5 => ?_) (fun hc5 => ?_)
      · have hf := it_n hf hc5
        refine lv_aload_n hx hb dX9_dither_31 rfl (lv_at hl 0 rfl) ?_
        refine lv_iload_n hx hb dX9_dither_32 rfl (lv_at hl 2 rfl) ?_
        refine bd_e hf (fun r6 er6 hf => ?_)
        refine gd_e hf (fun hg7 hf => ?_)
        refine ev_calli (va_runV (As := [.int x2]) (rest := []) S (c_X9_patternDither (l := l) I P a0 x2 r6 er6) (cwV 1 hts (gi_v wa_4_9 wa_4_11 wa_s_20 wa_1_1 wa_4_12) rfl rfl rfl (by decide +kernel) ⟨Nat.le_of_ble_eq_true rfl, Nat.le_of_ble_eq_true rfl⟩) ⟨mm_B_blind, ev_recv hK hM (ci := 9) rfl hg7 rfl, fun U hU hW => ⟨rfl, mm_B_of hK hZ hM hU hW⟩⟩ rfl rfl hl.1 rfl (lv_room (Nat.le_of_ble_eq_true rfl)) dX9_dither_33 ⟨Nat.zero_le _, Nat.zero_le _⟩) hM (fun H locs hM => ?_)
        obtain rfl := Option.some.inj hf
        subst hQ
        exact ev_iret S hr hlocks hK hZ hM dX9_dither_36
      · have hf := it_p hf hc5
        refine lv_aload_n hx hb dX9_dither_23 rfl (lv_at hl 0 rfl) ?_
        refine lv_iload_n hx hb dX9_dither_24 rfl (lv_at hl 2 rfl) ?_
        refine bd_e hf (fun r8 er8 hf => ?_)
        refine gd_e hf (fun hg9 hf => ?_)
        refine ev_calli (va_runV (As := [.int x2]) (rest := []) S (c_X9_spreadDither (l := l) I P a0 x2 r8 er8) (cwV 1 hts (gi_v wa_3_236 wa_3_238 wa_s_17 wa_1_1 wa_3_239) rfl rfl rfl (by decide +kernel) ⟨Nat.le_of_ble_eq_true rfl, Nat.le_of_ble_eq_true rfl⟩) ⟨mm_B_blind, ev_recv hK hM (ci := 9) rfl hg9 rfl, fun U hU hW => ⟨rfl, mm_B_of hK hZ hM hU hW⟩⟩ rfl rfl hl.1 rfl (lv_room (Nat.le_of_ble_eq_true rfl)) dX9_dither_25 ⟨Nat.zero_le _, Nat.zero_le _⟩) hM (fun H locs hM => ?_)
        refine lv_goto (tgt := 36) hx hb dX9_dither_28 (by decide) ?_
        obtain rfl := Option.some.inj hf
        subst hQ
        exact ev_iret S hr hlocks hK hZ hM dX9_dither_36
    · have hf := it_p hf hc4
      refine lv_bipush (v := (-2 : Int32)) hx hb dX9_dither_16 (by decide) ?_
      obtain rfl := Option.some.inj hf
      subst hQ
      exact ev_iret S hr hlocks hK hZ hM dX9_dither_18
noncomputable def fn_X9_areas_L14 (K : Nat → Nat) (N : Nat → Nat) (a0 : Nat) (P : Nat → Nat → Option Nat) : Nat → Int32 → (Nat → Nat → Int32) → Option ((Nat → Nat → Int32))
  | 0, _, _ => none
  | n + 1, v3, I4 => if (192 : Int32) ≤ v3 then (some I4) else (gd (K a0 = 10) (Option.bind (P a0 (5)) (fun q8 => gd (K q8 = 4) (Option.bind (P q8 (1)) (fun q10 => Option.bind (fn_X9_seenAt K N I4 P a0 v3) (fun (r11 : Int32) => gd (K q10 = 12 ∧ vp_in v3 (N q10)) (Option.bind (some (up2 I4 q10 (v3.toNatClampNeg) r11)) (fun I13 => fn_X9_areas_L14 K N a0 P n (v3 + (1 : Int32)) I13))))))))
noncomputable def fn_X9_areas_L58 (K : Nat → Nat) (N : Nat → Nat) (P : Nat → Nat → Option Nat) (q15 : Nat) : Nat → Int32 → Int32 → Int32 → Int32 → (Nat → Nat → Int32) → Option (Int32 × Int32 × Int32 × (Nat → Nat → Int32))
  | 0, _, _, _, _, _ => none
  | n + 1, v18, v19, v20, v21, I22 => if (192 : Int32) ≤ v21 then (some (v18, v19, v20, I22)) else (Option.bind (P q15 (0)) (fun q25 => gd (K q25 = 13 ∧ vp_in v21 (N q25)) (if (I22 q25 (v21.toNatClampNeg)) = 0 then (Option.bind (fn_X3_spreadFrom K N I22 P q15 v21) (fun (r28 : Int32 × (Nat → Nat → Int32)) => if r28.1 ≤ v19 then (fn_X9_areas_L58 K N P q15 n (v18 + (1 : Int32)) v19 v20 (v21 + (1 : Int32)) r28.2) else (Option.bind (P q15 (1)) (fun q30 => gd (K q30 = 12 ∧ vp_in v21 (N q30)) (Option.bind (some (r28.2 q30 (v21.toNatClampNeg))) (fun v32 => fn_X9_areas_L58 K N P q15 n (v18 + (1 : Int32)) r28.1 v32 (v21 + (1 : Int32)) r28.2)))))) else (fn_X9_areas_L58 K N P q15 n v18 v19 v20 (v21 + (1 : Int32)) I22))))
noncomputable def fn_X9_areas (K N : Nat → Nat) (I : Nat → Nat → Int32) (P : Nat → Nat → Option Nat) (a0 : Nat) (x1 : Int32) : Option (Int32 × (Nat → Nat → Int32)) := Option.bind (fn_X9_isWithin x1 (0 : Int32) (2 : Int32)) (fun (r1 : Int32) => if r1 = 0 then (some ((-2 : Int32), I)) else (Option.bind (fn_X9_areas_L14 K N a0 P FU (0 : Int32) I) (fun (r5 : (Nat → Nat → Int32)) => gd (K a0 = 10) (Option.bind (P a0 (5)) (fun q15 => Option.bind (fn_X3_clear K N r5 P q15) (fun (r16 : (Nat → Nat → Int32)) => gd (K q15 = 4) (Option.bind (fn_X9_areas_L58 K N P q15 FU (0 : Int32) (0 : Int32) (0 : Int32) (0 : Int32) r16) (fun (r23 : Int32 × Int32 × Int32 × (Nat → Nat → Int32)) => if x1 = 0 then (some (r23.1, r23.2.2.2)) else (if x1 = (1 : Int32) then (some (r23.2.1, r23.2.2.2)) else (some (r23.2.2.1, r23.2.2.2)))))))))))
abbrev wz_X9_areas : List Cond := Cond.code yX9_areas cX9_areas 7 (some .int) :: WA
abbrev rm_X9_areas : Room := { frames := 6, cells := 0, slots := 0, locals := 126 }
set_option maxHeartbeats 4000000 in
set_option maxRecDepth 100000 in
theorem c_X9_areas (I : Nat → Nat → Int32) (P : Nat → Nat → Option Nat) (a0 : Nat) (x1 : Int32) (res : Int32 × (Nat → Nat → Int32)) (hf : fn_X9_areas K N I P a0 x1 = some res) : Met l yX9_areas wz_X9_areas rm_X9_areas (va_Pc [.ref a0, .int x1] (mm_B D cs A L K N z w I P)) (va_Qi (fun r (_ : Unit) => r = res.1) (fun _ => mm_B D cs A L K N z w res.2 P) A) 0 0 A := by
  refine Met.ofW (cc := cX9_areas) (maxL := 7) (ret := (some .int)) (by decide) rfl ?_
  intro p e s m args below meth c s₁ B hml hv
  obtain ⟨rfl, hBm⟩ := hv
  have hx := B.exec
  have hb := B.bytes
  have hr := B.returns
  have hts := atoms_spec (ws := wz_X9_areas) B.pre
  have hWA : ∀ w ∈ WA, w.before ([.ref a0, .int x1] : List Value).toArray s = true := fun u9 h9 => hts u9 (List.mem_cons_of_mem _ h9)
  have hown : s.vm.findClass RX9 = some m.cls := findClass_of_methodNamed B.named
  have hlocks := B.notSynchronized
  have S : CallFix p m c cX9_areas 7 s ([.ref a0, .int x1] : List Value).toArray wz_X9_areas RX9 := ⟨hx, hb, hml, hown, hts⟩
  have hK := hBm.2.2.2.1
  have hZ := hBm.2.2.2.2
  have hM : mm_W D cs A L K N s.heap I P s.heap [] := ⟨hBm.1, hBm.2.1, hBm.2.2.1, va_S.rf⟩
  have hl := lv_entry ([.ref a0, .int x1]) (n := 7) (Nat.le_of_ble_eq_true rfl)
  rw [lg_entry_eq]
  generalize (lg_sl ([.ref a0, .int x1]) ++ List.replicate (7 - (lg_sl ([.ref a0, .int x1])).length) Slot.unset).toArray = ls at hl ⊢
  have hl : lv_has ls 7 [(0, .ref a0), (1, .int x1)] := hl
  have hin9 : ∀ w ∈ wsX90, w ∈ wz_X9_areas := fun w h => List.mem_cons_of_mem _ (wu_X9 w h)
  have hin3 : ∀ w ∈ wsX30, w ∈ wz_X9_areas := fun w h => List.mem_cons_of_mem _ (wu_X3 w h)
  have lk40 : (Cond.fieldLink RX9 40 RX9 "choice" "LRasterPainter$Choice;").before ([.ref a0, .int x1] : List Value).toArray s = true := hWA _ wa_2_20
  have lk229 : (Cond.fieldLink RX9 229 RX3 "keys" "[I").before ([.ref a0, .int x1] : List Value).toArray s = true := hWA _ wa_2_1
  have lk171 : (Cond.fieldLink RX9 171 RX3 "chosen" "[Z").before ([.ref a0, .int x1] : List Value).toArray s = true := hWA _ wa_1_239
  generalize hQ : MQ below (va_Qi (fun r (_ : Unit) => r = res.1) (fun _ => mm_B D cs A L K N z w res.2 P) A) ([.ref a0, .int x1] : List Value).toArray s 0 0 A = QQ
  rw [fn_X9_areas] at hf
  refine lv_iload_n hx hb dX9_areas_0 rfl (lv_at hl 1 rfl) ?_
  refine lv_iconst (v := (0 : Int32)) hx hb dX9_areas_1 (by decide) ?_
  refine lv_iconst (v := (2 : Int32)) hx hb dX9_areas_2 (by decide) ?_
  refine bd_e hf (fun r1 er1 hf => ?_)
  refine ev_calli (va_runS (As := [.int x1, .int (0 : Int32), .int (2 : Int32)]) (rest := []) S (c_X9_isWithin (l := l) I P x1 (0 : Int32) (2 : Int32) r1 er1) (va_cwS 3 hts (gi_s wa_2_47 wa_2_48 wa_1_1 wa_2_49) rfl rfl rfl (by decide +kernel) ⟨Nat.le_of_ble_eq_true rfl, Nat.le_of_ble_eq_true rfl⟩) ⟨mm_B_blind, fun U hU hW => ⟨rfl, mm_B_of hK hZ hM hU hW⟩⟩ rfl rfl hl.1 rfl (lv_room (Nat.le_of_ble_eq_true rfl)) dX9_areas_3 ⟨Nat.zero_le _, Nat.zero_le _⟩) hM (fun H locs hM => ?_)
  refine lv_if_ne (tgt := 12) hx hb dX9_areas_6 (by decide) (fun hc2 => ?_) (fun hc2 => ?_)
  · have hf := it_n hf hc2
    refine lv_iconst (v := (0 : Int32)) hx hb dX9_areas_12 (by decide) ?_
    refine lv_istore_n (lv' := [(2, .int (0 : Int32)), (0, .ref a0), (1, .int x1)]) hx hb dX9_areas_13 rfl hl (by decide) rfl (fun ls hl => ?_)
    have lp14_13 : ∀ (n : Nat) (v3 : Int32) (I4 : Nat → Nat → Int32) (H : Heap) (locs : List Loc) (ls : Array Slot) (r5 : (Nat → Nat → Int32)), mm_W D cs A L K N s.heap I4 P H locs → lv_has ls 7 [(0, .ref a0), (1, .int x1), (2, .int v3)] → fn_X9_areas_L14 K N a0 P n v3 I4 = some r5 → (∀ (H : Heap) (locs : List Loc) (ls : Array Slot), mm_W D cs A L K N s.heap r5 P H locs → lv_has ls 7 [(0, .ref a0), (1, .int x1)] → W p l e (headSpec wz_X9_areas rm_X9_areas).room s m ([.ref a0, .int x1] : List Value).toArray below meth c H locs 0 0 QQ (F0 m 41 ls [])) → W p l e (headSpec wz_X9_areas rm_X9_areas).room s m ([.ref a0, .int x1] : List Value).toArray below meth c H locs 0 0 QQ (F0 m 14 ls []) := by
      intro n
      induction n with
      | zero => intro v3 I4 H locs ls r5 hM hl hf kk; exact nn_x (show (none : Option ((Nat → Nat → Int32))) = some r5 from hf)
      | succ n ih =>
        intro v3 I4 H locs ls r5 hM hl hf kk
        rw [fn_X9_areas_L14] at hf
        refine lv_iload_n hx hb dX9_areas_14 rfl (lv_at hl 2 rfl) ?_
        refine lv_sipush (v := (192 : Int32)) hx hb dX9_areas_15 (by decide) ?_
        refine lv_icmp_ge (tgt := 41) hx hb dX9_areas_18 (by decide) (fun hc6 => ?_) (fun hc6 => ?_)
        · have hf := it_p hf hc6
          obtain rfl := Option.some.inj hf
          exact kk _ _ _ hM (lv_sub hl [0, 1] rfl)
        · have hf := it_n hf hc6
          refine lv_aload_n hx hb dX9_areas_21 rfl (lv_at hl 0 rfl) ?_
          refine gd_e hf (fun hg7 hf => ?_)
          refine bd_e hf (fun q8 eq8 hf => ?_)
          refine ev_getP (v := q8) S hK hM (ci := 9) (n := 8) (C := RX9) (T := TX9) hin9 rfl hg7 5 (by decide) lk40 rfl rfl eq8 rfl dX9_areas_22 ?_
          refine gd_e hf (fun hg9 hf => ?_)
          refine bd_e hf (fun q10 eq10 hf => ?_)
          refine ev_getP (v := q10) S hK hM (ci := 3) (n := 4) (C := RX3) (T := TX3) hin3 rfl hg9 1 (by decide) lk229 rfl rfl eq10 rfl dX9_areas_25 ?_
          refine lv_iload_n hx hb dX9_areas_28 rfl (lv_at hl 2 rfl) ?_
          refine lv_aload_n hx hb dX9_areas_29 rfl (lv_at hl 0 rfl) ?_
          refine lv_iload_n hx hb dX9_areas_30 rfl (lv_at hl 2 rfl) ?_
          refine bd_e hf (fun r11 er11 hf => ?_)
          refine ev_calli (va_runV (As := [.int v3]) (rest := [.int v3, .ref q10]) S (c_X9_seenAt (l := l) I4 P a0 v3 r11 er11) (cwV 1 hts (gi_v wa_2_151 wa_2_153 wa_s_1 wa_1_1 wa_2_154) rfl rfl rfl (by decide +kernel) ⟨Nat.le_of_ble_eq_true rfl, Nat.le_of_ble_eq_true rfl⟩) ⟨mm_B_blind, ev_recv hK hM (ci := 9) rfl hg7 rfl, fun U hU hW => ⟨rfl, mm_B_of hK hZ hM hU hW⟩⟩ rfl rfl hl.1 rfl (lv_room (Nat.le_of_ble_eq_true rfl)) dX9_areas_31 ⟨Nat.zero_le _, Nat.zero_le _⟩) hM (fun H locs hM => ?_)
          refine gd_e hf (fun hg12 hf => ?_)
          refine ev_iast S hK hM hg12 (j := v3.toNatClampNeg) rfl dX9_areas_34 (fun I13 eI13 H locs hM => ?_)
          have hf := nm_x eI13 hf
          refine lv_iinc (v := (v3 + (1 : Int32))) (lv' := [(2, .int (v3 + (1 : Int32))), (0, .ref a0), (1, .int x1)]) hx hb dX9_areas_35 hl (k := 2) rfl rfl (by decide) rfl (fun ls hl => ?_)
          refine lv_goto (tgt := 14) hx hb dX9_areas_38 (by decide) ?_
          exact ih (v3 + (1 : Int32)) I13 _ _ _ _ hM (lv_sub hl [1, 2, 0] rfl) hf kk
    refine bd_e hf (fun r5 er5 hf => ?_)
    refine lp14_13 FU (0 : Int32) I _ _ _ r5 hM (lv_sub hl [1, 2, 0] rfl) er5 (fun H locs ls hM hl => ?_)
    refine lv_aload_n hx hb dX9_areas_41 rfl (lv_at hl 0 rfl) ?_
    refine gd_e hf (fun hg14 hf => ?_)
    refine bd_e hf (fun q15 eq15 hf => ?_)
    refine ev_getP (v := q15) S hK hM (ci := 9) (n := 8) (C := RX9) (T := TX9) hin9 rfl hg14 5 (by decide) lk40 rfl rfl eq15 rfl dX9_areas_42 ?_
    refine bd_e hf (fun r16 er16 hf => ?_)
    refine gd_e hf (fun hg17 hf => ?_)
    refine ev_callv (va_runV (As := []) (rest := []) S (c_X3_clear (l := l) r5 P q15 r16 er16) (cwV 0 hts (gi_v wa_4_19 wa_3_136 wa_3_137 wa_1_10 wa_3_138) rfl rfl rfl (by decide +kernel) ⟨Nat.le_of_ble_eq_true rfl, Nat.le_of_ble_eq_true rfl⟩) ⟨mm_B_blind, ev_recv hK hM (ci := 3) rfl hg17 rfl, fun U hU hW => ⟨rfl, mm_B_of hK hZ hM hU hW⟩⟩ rfl rfl hl.1 rfl (lv_room (Nat.le_of_ble_eq_true rfl)) dX9_areas_45 ⟨Nat.zero_le _, Nat.zero_le _⟩) hM (fun H locs hM => ?_)
    refine lv_iconst (v := (0 : Int32)) hx hb dX9_areas_48 (by decide) ?_
    refine lv_istore_n (lv' := [(2, .int (0 : Int32)), (0, .ref a0), (1, .int x1)]) hx hb dX9_areas_49 rfl hl (by decide) rfl (fun ls hl => ?_)
    refine lv_iconst (v := (0 : Int32)) hx hb dX9_areas_50 (by decide) ?_
    refine lv_istore_n (lv' := [(3, .int (0 : Int32)), (2, .int (0 : Int32)), (0, .ref a0), (1, .int x1)]) hx hb dX9_areas_51 rfl hl (by decide) rfl (fun ls hl => ?_)
    refine lv_iconst (v := (0 : Int32)) hx hb dX9_areas_52 (by decide) ?_
    refine lv_istore (lv' := [(4, .int (0 : Int32)), (3, .int (0 : Int32)), (2, .int (0 : Int32)), (0, .ref a0), (1, .int x1)]) hx hb dX9_areas_53 hl (by decide) rfl (fun ls hl => ?_)
    refine lv_iconst (v := (0 : Int32)) hx hb dX9_areas_55 (by decide) ?_
    refine lv_istore (lv' := [(5, .int (0 : Int32)), (4, .int (0 : Int32)), (3, .int (0 : Int32)), (2, .int (0 : Int32)), (0, .ref a0), (1, .int x1)]) hx hb dX9_areas_56 hl (by decide) rfl (fun ls hl => ?_)
    have lp58_32 : ∀ (n : Nat) (v18 : Int32) (v19 : Int32) (v20 : Int32) (v21 : Int32) (I22 : Nat → Nat → Int32) (H : Heap) (locs : List Loc) (ls : Array Slot) (r23 : Int32 × Int32 × Int32 × (Nat → Nat → Int32)), mm_W D cs A L K N s.heap I22 P H locs → lv_has ls 7 [(0, .ref a0), (1, .int x1), (2, .int v18), (3, .int v19), (4, .int v20), (5, .int v21)] → fn_X9_areas_L58 K N P q15 n v18 v19 v20 v21 I22 = some r23 → (∀ (H : Heap) (locs : List Loc) (ls : Array Slot), mm_W D cs A L K N s.heap r23.2.2.2 P H locs → lv_has ls 7 [(1, .int x1), (2, .int r23.1), (3, .int r23.2.1), (4, .int r23.2.2.1)] → W p l e (headSpec wz_X9_areas rm_X9_areas).room s m ([.ref a0, .int x1] : List Value).toArray below meth c H locs 0 0 QQ (F0 m 120 ls [])) → W p l e (headSpec wz_X9_areas rm_X9_areas).room s m ([.ref a0, .int x1] : List Value).toArray below meth c H locs 0 0 QQ (F0 m 58 ls []) := by
      intro n
      induction n with
      | zero => intro v18 v19 v20 v21 I22 H locs ls r23 hM hl hf kk; exact nn_x (show (none : Option (Int32 × Int32 × Int32 × (Nat → Nat → Int32))) = some r23 from hf)
      | succ n ih =>
        intro v18 v19 v20 v21 I22 H locs ls r23 hM hl hf kk
        rw [fn_X9_areas_L58] at hf
        refine lv_iload hx hb dX9_areas_58 (lv_at hl 5 rfl) ?_
        refine lv_sipush (v := (192 : Int32)) hx hb dX9_areas_60 (by decide) ?_
        refine lv_icmp_ge (tgt := 120) hx hb dX9_areas_63 (by decide) (fun hc24 => ?_) (fun hc24 => ?_)
        · have hf := it_p hf hc24
          obtain rfl := Option.some.inj hf
          exact kk _ _ _ hM (lv_sub hl [1, 2, 3, 4] rfl)
        · have hf := it_n hf hc24
          refine lv_aload_n hx hb dX9_areas_66 rfl (lv_at hl 0 rfl) ?_
          refine ev_getP (v := q15) S hK hM (ci := 9) (n := 8) (C := RX9) (T := TX9) hin9 rfl hg14 5 (by decide) lk40 rfl rfl eq15 rfl dX9_areas_67 ?_
          refine bd_e hf (fun q25 eq25 hf => ?_)
          refine ev_getP (v := q25) S hK hM (ci := 3) (n := 4) (C := RX3) (T := TX3) hin3 rfl hg17 0 (by decide) lk171 rfl rfl eq25 rfl dX9_areas_70 ?_
          refine lv_iload hx hb dX9_areas_73 (lv_at hl 5 rfl) ?_
          refine gd_e hf (fun hg26 hf => ?_)
          refine ev_zald S hK hM hg26 (j := v21.toNatClampNeg) rfl dX9_areas_75 ?_
          refine lv_if_ne (tgt := 114) hx hb dX9_areas_76 (by decide) (fun hc27 => ?_) (fun hc27 => ?_)
          · have hf := it_n hf hc27
            refine lv_iinc (v := (v21 + (1 : Int32))) (lv' := [(5, .int (v21 + (1 : Int32))), (0, .ref a0), (1, .int x1), (2, .int v18), (3, .int v19), (4, .int v20)]) hx hb dX9_areas_114 hl (k := 5) rfl rfl (by decide) rfl (fun ls hl => ?_)
            refine lv_goto (tgt := 58) hx hb dX9_areas_117 (by decide) ?_
            exact ih v18 v19 v20 (v21 + (1 : Int32)) I22 _ _ _ _ hM (lv_sub hl [1, 2, 3, 4, 5, 0] rfl) hf kk
          · have hf := it_p hf hc27
            refine lv_aload_n hx hb dX9_areas_79 rfl (lv_at hl 0 rfl) ?_
            refine ev_getP (v := q15) S hK hM (ci := 9) (n := 8) (C := RX9) (T := TX9) hin9 rfl hg14 5 (by decide) lk40 rfl rfl eq15 rfl dX9_areas_80 ?_
            refine lv_iload hx hb dX9_areas_83 (lv_at hl 5 rfl) ?_
            refine bd_e hf (fun r28 er28 hf => ?_)
            refine ev_calli (va_runV (As := [.int v21]) (rest := []) S (c_X3_spreadFrom (l := l) I22 P q15 v21 r28 er28) (cwV 1 hts (gi_v wa_4_20 wa_3_156 wa_3_157 wa_1_10 wa_3_158) rfl rfl rfl (by decide +kernel) ⟨Nat.le_of_ble_eq_true rfl, Nat.le_of_ble_eq_true rfl⟩) ⟨mm_B_blind, ev_recv hK hM (ci := 3) rfl hg17 rfl, fun U hU hW => ⟨rfl, mm_B_of hK hZ hM hU hW⟩⟩ rfl rfl hl.1 rfl (lv_room (Nat.le_of_ble_eq_true rfl)) dX9_areas_85 ⟨Nat.zero_le _, Nat.zero_le _⟩) hM (fun H locs hM => ?_)
            refine lv_istore (lv' := [(6, .int r28.1), (0, .ref a0), (1, .int x1), (2, .int v18), (3, .int v19), (4, .int v20), (5, .int v21)]) hx hb dX9_areas_88 hl (by decide) rfl (fun ls hl => ?_)
            refine lv_iinc (v := (v18 + (1 : Int32))) (lv' := [(2, .int (v18 + (1 : Int32))), (6, .int r28.1), (0, .ref a0), (1, .int x1), (3, .int v19), (4, .int v20), (5, .int v21)]) hx hb dX9_areas_90 hl (k := 3) rfl rfl (by decide) rfl (fun ls hl => ?_)
            refine lv_iload hx hb dX9_areas_93 (lv_at hl 1 rfl) ?_
            refine lv_iload_n hx hb dX9_areas_95 rfl (lv_at hl 4 rfl) ?_
            refine lv_icmp_le (tgt := 114) hx hb dX9_areas_96 (by decide) (fun hc29 => ?_) (fun hc29 => ?_)
            · have hf := it_p hf hc29
              refine lv_iinc (v := (v21 + (1 : Int32))) (lv' := [(5, .int (v21 + (1 : Int32))), (2, .int (v18 + (1 : Int32))), (6, .int r28.1), (0, .ref a0), (1, .int x1), (3, .int v19), (4, .int v20)]) hx hb dX9_areas_114 hl (k := 6) rfl rfl (by decide) rfl (fun ls hl => ?_)
              refine lv_goto (tgt := 58) hx hb dX9_areas_117 (by decide) ?_
              exact ih (v18 + (1 : Int32)) v19 v20 (v21 + (1 : Int32)) r28.2 _ _ _ _ hM (lv_sub hl [3, 4, 1, 5, 6, 0] rfl) hf kk
            · have hf := it_n hf hc29
              refine lv_iload hx hb dX9_areas_99 (lv_at hl 1 rfl) ?_
              refine lv_istore_n (lv' := [(3, .int r28.1), (2, .int (v18 + (1 : Int32))), (6, .int r28.1), (0, .ref a0), (1, .int x1), (4, .int v20), (5, .int v21)]) hx hb dX9_areas_101 rfl hl (by decide) rfl (fun ls hl => ?_)
              refine lv_aload_n hx hb dX9_areas_102 rfl (lv_at hl 3 rfl) ?_
              refine ev_getP (v := q15) S hK hM (ci := 9) (n := 8) (C := RX9) (T := TX9) hin9 rfl hg14 5 (by decide) lk40 rfl rfl eq15 rfl dX9_areas_103 ?_
              refine bd_e hf (fun q30 eq30 hf => ?_)
              refine ev_getP (v := q30) S hK hM (ci := 3) (n := 4) (C := RX3) (T := TX3) hin3 rfl hg17 1 (by decide) lk229 rfl rfl eq30 rfl dX9_areas_106 ?_
              refine lv_iload hx hb dX9_areas_109 (lv_at hl 6 rfl) ?_
              refine gd_e hf (fun hg31 hf => ?_)
              refine ev_iald S hK hM hg31 (j := v21.toNatClampNeg) rfl dX9_areas_111 ?_
              refine lv_topi (fun v32 ev32 => ?_)
              have hf := nm_x ev32 hf
              refine lv_istore (lv' := [(4, .int v32), (3, .int r28.1), (2, .int (v18 + (1 : Int32))), (6, .int r28.1), (0, .ref a0), (1, .int x1), (5, .int v21)]) hx hb dX9_areas_112 hl (by decide) rfl (fun ls hl => ?_)
              refine lv_iinc (v := (v21 + (1 : Int32))) (lv' := [(5, .int (v21 + (1 : Int32))), (4, .int v32), (3, .int r28.1), (2, .int (v18 + (1 : Int32))), (6, .int r28.1), (0, .ref a0), (1, .int x1)]) hx hb dX9_areas_114 hl (k := 6) rfl rfl (by decide) rfl (fun ls hl => ?_)
              refine lv_goto (tgt := 58) hx hb dX9_areas_117 (by decide) ?_
              exact ih (v18 + (1 : Int32)) r28.1 v32 (v21 + (1 : Int32)) r28.2 _ _ _ _ hM (lv_sub hl [5, 6, 3, 2, 1, 0] rfl) hf kk
    refine bd_e hf (fun r23 er23 hf => ?_)
    refine lp58_32 FU (0 : Int32) (0 : Int32) (0 : Int32) (0 : Int32) r16 _ _ _ r23 hM (lv_sub hl [4, 5, 3, 2, 1, 0] rfl) er23 (fun H locs ls hM hl => ?_)
    refine lv_iload_n hx hb dX9_areas_120 rfl (lv_at hl 0 rfl) ?_
    refine lv_if_ne (tgt := 126) hx hb dX9_areas_121 (by decide) (fun hc33 => ?_) (fun hc33 => ?_)
    · have hf := it_n hf hc33
      refine lv_iload_n hx hb dX9_areas_126 rfl (lv_at hl 0 rfl) ?_
      refine lv_iconst (v := (1 : Int32)) hx hb dX9_areas_127 (by decide) ?_
      refine lv_icmp_ne (tgt := 135) hx hb dX9_areas_128 (by decide) (fun hc34 => ?_) (fun hc34 => ?_)
      · have hf := it_n hf hc34
        refine lv_iload hx hb dX9_areas_135 (lv_at hl 3 rfl) ?_
        obtain rfl := Option.some.inj hf
        subst hQ
        exact ev_iret S hr hlocks hK hZ hM dX9_areas_137
      · have hf := it_p hf hc34
        refine lv_iload_n hx hb dX9_areas_131 rfl (lv_at hl 2 rfl) ?_
        refine lv_goto (tgt := 137) hx hb dX9_areas_132 (by decide) ?_
        obtain rfl := Option.some.inj hf
        subst hQ
        exact ev_iret S hr hlocks hK hZ hM dX9_areas_137
    · have hf := it_p hf hc33
      refine lv_iload_n hx hb dX9_areas_124 rfl (lv_at hl 1 rfl) ?_
      obtain rfl := Option.some.inj hf
      subst hQ
      exact ev_iret S hr hlocks hK hZ hM dX9_areas_125
  · have hf := it_p hf hc2
    refine lv_bipush (v := (-2 : Int32)) hx hb dX9_areas_9 (by decide) ?_
    obtain rfl := Option.some.inj hf
    subst hQ
    exact ev_iret S hr hlocks hK hZ hM dX9_areas_11
noncomputable def fn_X9_drawnAfter (x0 : Int32) : Option (Int32) := some ((x0 * (1103515245 : Int32)) + (12345 : Int32))
abbrev wz_X9_drawnAfter : List Cond := Cond.code yX9_drawnAfter cX9_drawnAfter 1 (some .int) :: WA
abbrev rm_X9_drawnAfter : Room := { frames := 1, cells := 0, slots := 0, locals := 12 }
set_option maxHeartbeats 4000000 in
set_option maxRecDepth 100000 in
theorem c_X9_drawnAfter (I : Nat → Nat → Int32) (P : Nat → Nat → Option Nat) (x0 : Int32) (res : Int32) (hf : fn_X9_drawnAfter x0 = some res) : Met l yX9_drawnAfter wz_X9_drawnAfter rm_X9_drawnAfter (va_Pc [.int x0] (mm_B D cs A L K N z w I P)) (va_Qi (fun r (_ : Unit) => r = res) (fun _ => mm_B D cs A L K N z w I P) A) 0 0 A := by
  refine Met.ofW (cc := cX9_drawnAfter) (maxL := 1) (ret := (some .int)) (by decide) rfl ?_
  intro p e s m args below meth c s₁ B hml hv
  obtain ⟨rfl, hBm⟩ := hv
  have hx := B.exec
  have hb := B.bytes
  have hr := B.returns
  have hts := atoms_spec (ws := wz_X9_drawnAfter) B.pre
  have hWA : ∀ w ∈ WA, w.before ([.int x0] : List Value).toArray s = true := fun u9 h9 => hts u9 (List.mem_cons_of_mem _ h9)
  have hown : s.vm.findClass RX9 = some m.cls := findClass_of_methodNamed B.named
  have hlocks := B.notSynchronized
  have S : CallFix p m c cX9_drawnAfter 1 s ([.int x0] : List Value).toArray wz_X9_drawnAfter RX9 := ⟨hx, hb, hml, hown, hts⟩
  have hK := hBm.2.2.2.1
  have hZ := hBm.2.2.2.2
  have hM : mm_W D cs A L K N s.heap I P s.heap [] := ⟨hBm.1, hBm.2.1, hBm.2.2.1, va_S.rf⟩
  have hl := lv_entry ([.int x0]) (n := 1) (Nat.le_of_ble_eq_true rfl)
  rw [lg_entry_eq]
  generalize (lg_sl ([.int x0]) ++ List.replicate (1 - (lg_sl ([.int x0])).length) Slot.unset).toArray = ls at hl ⊢
  have hl : lv_has ls 1 [(0, .int x0)] := hl
  generalize hQ : MQ below (va_Qi (fun r (_ : Unit) => r = res) (fun _ => mm_B D cs A L K N z w I P) A) ([.int x0] : List Value).toArray s 0 0 A = QQ
  unfold fn_X9_drawnAfter at hf
  refine lv_iload_n hx hb dX9_drawnAfter_0 rfl (lv_at hl 0 rfl) ?_
  refine lv_ldcw (v := 1103515245) hx hb hown (hWA _ wa_4_38) dX9_drawnAfter_1 ?_
  refine lv_imul hx hb dX9_drawnAfter_4 ?_
  refine lv_sipush (v := (12345 : Int32)) hx hb dX9_drawnAfter_5 (by decide) ?_
  refine lv_iadd hx hb dX9_drawnAfter_8 ?_
  obtain rfl := Option.some.inj hf
  subst hQ
  exact ev_iret S hr hlocks hK hZ hM dX9_drawnAfter_9
noncomputable def fn_X9_sprayThought_L22 (K : Nat → Nat) (N : Nat → Nat) (x3 : Int32) (P : Nat → Nat → Option Nat) (q2 : Nat) (q3 : Nat) : Nat → Int32 → Int32 → (Nat → Nat → Int32) → Option ((Nat → Nat → Int32))
  | 0, _, _, _ => none
  | n + 1, v10, v11, I12 => if x3 ≤ v11 then (some I12) else (Option.bind (fn_X9_drawnAfter v10) (fun (r15 : Int32) => Option.bind (some ((ius r15 (9 : Int32)) - (ius r15 (9 : Int32)) / (16 : Int32) * (16 : Int32))) (fun v16 => Option.bind (fn_X9_drawnAfter r15) (fun (r17 : Int32) => Option.bind (some ((ius r17 (9 : Int32)) - (ius r17 (9 : Int32)) / (12 : Int32) * (12 : Int32))) (fun v18 => Option.bind (fn_X6_stamp K N I12 P q3 q2 v16 v18) (fun (r19 : (Nat → Nat → Int32)) => fn_X9_sprayThought_L22 K N x3 P q2 q3 n r17 (v11 + (1 : Int32)) r19))))))
noncomputable def fn_X9_sprayThought (K N : Nat → Nat) (I : Nat → Nat → Int32) (P : Nat → Nat → Option Nat) (a0 : Nat) (x1 : Int32) (x2 : Int32) (x3 : Int32) : Option ((Nat → Nat → Int32)) := gd (K a0 = 10) (Option.bind (P a0 (6)) (fun q2 => Option.bind (P a0 (0)) (fun q3 => gd (K q3 = 7) (Option.bind (P q3 (0)) (fun q5 => gd (K q5 = 15 ∧ vp_in x1 (N q5)) (Option.bind (P q5 (x1.toNatClampNeg)) (fun q7 => Option.bind (fn_X4_become K N I P q2 q7) (fun (r8 : (Nat → Nat → Int32)) => gd (K q2 = 5) (Option.bind (fn_X9_sprayThought_L22 K N x3 P q2 q3 FU x2 (0 : Int32) r8) (fun (r13 : (Nat → Nat → Int32)) => some r13))))))))))
abbrev wz_X9_sprayThought : List Cond := Cond.code yX9_sprayThought cX9_sprayThought 8 none :: WA
abbrev rm_X9_sprayThought : Room := { frames := 5, cells := 0, slots := 0, locals := 107 }
set_option maxHeartbeats 4000000 in
set_option maxRecDepth 100000 in
theorem c_X9_sprayThought (I : Nat → Nat → Int32) (P : Nat → Nat → Option Nat) (a0 : Nat) (x1 : Int32) (x2 : Int32) (x3 : Int32) (res : (Nat → Nat → Int32)) (hf : fn_X9_sprayThought K N I P a0 x1 x2 x3 = some res) : Met l yX9_sprayThought wz_X9_sprayThought rm_X9_sprayThought (va_Pc [.ref a0, .int x1, .int x2, .int x3] (mm_B D cs A L K N z w I P)) (va_Qv (fun (_ : Unit) => True) (fun _ => mm_B D cs A L K N z w res P) A) 0 0 A := by
  refine Met.ofW (cc := cX9_sprayThought) (maxL := 8) (ret := none) (by decide) rfl ?_
  intro p e s m args below meth c s₁ B hml hv
  obtain ⟨rfl, hBm⟩ := hv
  have hx := B.exec
  have hb := B.bytes
  have hr := B.returns
  have hts := atoms_spec (ws := wz_X9_sprayThought) B.pre
  have hWA : ∀ w ∈ WA, w.before ([.ref a0, .int x1, .int x2, .int x3] : List Value).toArray s = true := fun u9 h9 => hts u9 (List.mem_cons_of_mem _ h9)
  have hown : s.vm.findClass RX9 = some m.cls := findClass_of_methodNamed B.named
  have hlocks := B.notSynchronized
  have S : CallFix p m c cX9_sprayThought 8 s ([.ref a0, .int x1, .int x2, .int x3] : List Value).toArray wz_X9_sprayThought RX9 := ⟨hx, hb, hml, hown, hts⟩
  have hK := hBm.2.2.2.1
  have hZ := hBm.2.2.2.2
  have hM : mm_W D cs A L K N s.heap I P s.heap [] := ⟨hBm.1, hBm.2.1, hBm.2.2.1, va_S.rf⟩
  have hl := lv_entry ([.ref a0, .int x1, .int x2, .int x3]) (n := 8) (Nat.le_of_ble_eq_true rfl)
  rw [lg_entry_eq]
  generalize (lg_sl ([.ref a0, .int x1, .int x2, .int x3]) ++ List.replicate (8 - (lg_sl ([.ref a0, .int x1, .int x2, .int x3])).length) Slot.unset).toArray = ls at hl ⊢
  have hl : lv_has ls 8 [(0, .ref a0), (1, .int x1), (2, .int x2), (3, .int x3)] := hl
  have hin9 : ∀ w ∈ wsX90, w ∈ wz_X9_sprayThought := fun w h => List.mem_cons_of_mem _ (wu_X9 w h)
  have hin6 : ∀ w ∈ wsX60, w ∈ wz_X9_sprayThought := fun w h => List.mem_cons_of_mem _ (wu_X6 w h)
  have lk47 : (Cond.fieldLink RX9 47 RX9 "thought" "LRasterPainter$Layer;").before ([.ref a0, .int x1, .int x2, .int x3] : List Value).toArray s = true := hWA _ wa_2_21
  have lk10 : (Cond.fieldLink RX9 10 RX9 "picture" "LRasterPainter$Picture;").before ([.ref a0, .int x1, .int x2, .int x3] : List Value).toArray s = true := hWA _ wa_2_15
  have lk83 : (Cond.fieldLink RX9 83 RX6 "layers" "[LRasterPainter$Layer;").before ([.ref a0, .int x1, .int x2, .int x3] : List Value).toArray s = true := hWA _ wa_1_152
  generalize hQ : MQ below (va_Qv (fun (_ : Unit) => True) (fun _ => mm_B D cs A L K N z w res P) A) ([.ref a0, .int x1, .int x2, .int x3] : List Value).toArray s 0 0 A = QQ
  rw [fn_X9_sprayThought] at hf
  refine lv_aload_n hx hb dX9_sprayThought_0 rfl (lv_at hl 0 rfl) ?_
  refine gd_e hf (fun hg1 hf => ?_)
  refine bd_e hf (fun q2 eq2 hf => ?_)
  refine ev_getP (v := q2) S hK hM (ci := 9) (n := 8) (C := RX9) (T := TX9) hin9 rfl hg1 6 (by decide) lk47 rfl rfl eq2 rfl dX9_sprayThought_1 ?_
  refine lv_aload_n hx hb dX9_sprayThought_4 rfl (lv_at hl 0 rfl) ?_
  refine bd_e hf (fun q3 eq3 hf => ?_)
  refine ev_getP (v := q3) S hK hM (ci := 9) (n := 8) (C := RX9) (T := TX9) hin9 rfl hg1 0 (by decide) lk10 rfl rfl eq3 rfl dX9_sprayThought_5 ?_
  refine gd_e hf (fun hg4 hf => ?_)
  refine bd_e hf (fun q5 eq5 hf => ?_)
  refine ev_getP (v := q5) S hK hM (ci := 6) (n := 6) (C := RX6) (T := TX6) hin6 rfl hg4 0 (by decide) lk83 rfl rfl eq5 rfl dX9_sprayThought_8 ?_
  refine lv_iload_n hx hb dX9_sprayThought_11 rfl (lv_at hl 1 rfl) ?_
  refine gd_e hf (fun hg6 hf => ?_)
  refine bd_e hf (fun q7 eq7 hf => ?_)
  refine ev_aald15 S hK hM hg6 (j := x1.toNatClampNeg) rfl eq7 dX9_sprayThought_12 ?_
  refine bd_e hf (fun r8 er8 hf => ?_)
  refine gd_e hf (fun hg9 hf => ?_)
  refine ev_callv (va_runV (As := [.ref q7]) (rest := []) S (c_X4_become (l := l) I P q2 q7 r8 er8) (cwV 1 hts (gi_v wa_4_29 wa_4_30 wa_4_31 wa_1_7 wa_4_32) rfl rfl rfl (by decide +kernel) ⟨Nat.le_of_ble_eq_true rfl, Nat.le_of_ble_eq_true rfl⟩) ⟨mm_B_blind, ev_recv hK hM (ci := 4) rfl hg9 rfl, fun U hU hW => ⟨rfl, mm_B_of hK hZ hM hU hW⟩⟩ rfl rfl hl.1 rfl (lv_room (Nat.le_of_ble_eq_true rfl)) dX9_sprayThought_13 ⟨Nat.zero_le _, Nat.zero_le _⟩) hM (fun H locs hM => ?_)
  refine lv_iload_n hx hb dX9_sprayThought_16 rfl (lv_at hl 2 rfl) ?_
  refine lv_istore (lv' := [(4, .int x2), (0, .ref a0), (1, .int x1), (2, .int x2), (3, .int x3)]) hx hb dX9_sprayThought_17 hl (by decide) rfl (fun ls hl => ?_)
  refine lv_iconst (v := (0 : Int32)) hx hb dX9_sprayThought_19 (by decide) ?_
  refine lv_istore (lv' := [(5, .int (0 : Int32)), (4, .int x2), (0, .ref a0), (1, .int x1), (2, .int x2), (3, .int x3)]) hx hb dX9_sprayThought_20 hl (by decide) rfl (fun ls hl => ?_)
  have lp22_19 : ∀ (n : Nat) (v10 : Int32) (v11 : Int32) (I12 : Nat → Nat → Int32) (H : Heap) (locs : List Loc) (ls : Array Slot) (r13 : (Nat → Nat → Int32)), mm_W D cs A L K N s.heap I12 P H locs → lv_has ls 8 [(0, .ref a0), (3, .int x3), (4, .int v10), (5, .int v11)] → fn_X9_sprayThought_L22 K N x3 P q2 q3 n v10 v11 I12 = some r13 → (∀ (H : Heap) (locs : List Loc) (ls : Array Slot), mm_W D cs A L K N s.heap r13 P H locs → lv_has ls 8 [] → W p l e (headSpec wz_X9_sprayThought rm_X9_sprayThought).room s m ([.ref a0, .int x1, .int x2, .int x3] : List Value).toArray below meth c H locs 0 0 QQ (F0 m 83 ls [])) → W p l e (headSpec wz_X9_sprayThought rm_X9_sprayThought).room s m ([.ref a0, .int x1, .int x2, .int x3] : List Value).toArray below meth c H locs 0 0 QQ (F0 m 22 ls []) := by
    intro n
    induction n with
    | zero => intro v10 v11 I12 H locs ls r13 hM hl hf kk; exact nn_x (show (none : Option ((Nat → Nat → Int32))) = some r13 from hf)
    | succ n ih =>
      intro v10 v11 I12 H locs ls r13 hM hl hf kk
      rw [fn_X9_sprayThought_L22] at hf
      refine lv_iload hx hb dX9_sprayThought_22 (lv_at hl 3 rfl) ?_
      refine lv_iload_n hx hb dX9_sprayThought_24 rfl (lv_at hl 1 rfl) ?_
      refine lv_icmp_ge (tgt := 83) hx hb dX9_sprayThought_25 (by decide) (fun hc14 => ?_) (fun hc14 => ?_)
      · have hf := it_p hf hc14
        obtain rfl := Option.some.inj hf
        exact kk _ _ _ hM (lv_sub hl [] rfl)
      · have hf := it_n hf hc14
        refine lv_iload hx hb dX9_sprayThought_28 (lv_at hl 2 rfl) ?_
        refine bd_e hf (fun r15 er15 hf => ?_)
        refine ev_calli (va_runS (As := [.int v10]) (rest := []) S (c_X9_drawnAfter (l := l) I12 P v10 r15 er15) (va_cwS 1 hts (gi_s wa_4_35 wa_4_36 wa_1_1 wa_4_37) rfl rfl rfl (by decide +kernel) ⟨Nat.le_of_ble_eq_true rfl, Nat.le_of_ble_eq_true rfl⟩) ⟨mm_B_blind, fun U hU hW => ⟨rfl, mm_B_of hK hZ hM hU hW⟩⟩ rfl rfl hl.1 rfl (lv_room (Nat.le_of_ble_eq_true rfl)) dX9_sprayThought_30 ⟨Nat.zero_le _, Nat.zero_le _⟩) hM (fun H locs hM => ?_)
        refine lv_istore (lv' := [(4, .int r15), (0, .ref a0), (3, .int x3), (5, .int v11)]) hx hb dX9_sprayThought_33 hl (by decide) rfl (fun ls hl => ?_)
        refine lv_iload hx hb dX9_sprayThought_35 (lv_at hl 0 rfl) ?_
        refine lv_bipush (v := (9 : Int32)) hx hb dX9_sprayThought_37 (by decide) ?_
        refine lv_iushr (v := (ius r15 (9 : Int32))) hx hb dX9_sprayThought_39 rfl ?_
        refine lv_bipush (v := (16 : Int32)) hx hb dX9_sprayThought_40 (by decide) ?_
        refine lv_irem hx hb dX9_sprayThought_42 (by decide) ?_
        refine lv_topi (fun v16 ev16 => ?_)
        have hf := nm_x ev16 hf
        refine lv_istore (lv' := [(6, .int v16), (4, .int r15), (0, .ref a0), (3, .int x3), (5, .int v11)]) hx hb dX9_sprayThought_43 hl (by decide) rfl (fun ls hl => ?_)
        refine lv_iload hx hb dX9_sprayThought_45 (lv_at hl 1 rfl) ?_
        refine bd_e hf (fun r17 er17 hf => ?_)
        refine ev_calli (va_runS (As := [.int r15]) (rest := []) S (c_X9_drawnAfter (l := l) I12 P r15 r17 er17) (va_cwS 1 hts (gi_s wa_4_35 wa_4_36 wa_1_1 wa_4_37) rfl rfl rfl (by decide +kernel) ⟨Nat.le_of_ble_eq_true rfl, Nat.le_of_ble_eq_true rfl⟩) ⟨mm_B_blind, fun U hU hW => ⟨rfl, mm_B_of hK hZ hM hU hW⟩⟩ rfl rfl hl.1 rfl (lv_room (Nat.le_of_ble_eq_true rfl)) dX9_sprayThought_47 ⟨Nat.zero_le _, Nat.zero_le _⟩) hM (fun H locs hM => ?_)
        refine lv_istore (lv' := [(4, .int r17), (6, .int v16), (0, .ref a0), (3, .int x3), (5, .int v11)]) hx hb dX9_sprayThought_50 hl (by decide) rfl (fun ls hl => ?_)
        refine lv_iload hx hb dX9_sprayThought_52 (lv_at hl 0 rfl) ?_
        refine lv_bipush (v := (9 : Int32)) hx hb dX9_sprayThought_54 (by decide) ?_
        refine lv_iushr (v := (ius r17 (9 : Int32))) hx hb dX9_sprayThought_56 rfl ?_
        refine lv_bipush (v := (12 : Int32)) hx hb dX9_sprayThought_57 (by decide) ?_
        refine lv_irem hx hb dX9_sprayThought_59 (by decide) ?_
        refine lv_topi (fun v18 ev18 => ?_)
        have hf := nm_x ev18 hf
        refine lv_istore (lv' := [(7, .int v18), (4, .int r17), (6, .int v16), (0, .ref a0), (3, .int x3), (5, .int v11)]) hx hb dX9_sprayThought_60 hl (by decide) rfl (fun ls hl => ?_)
        refine lv_aload_n hx hb dX9_sprayThought_62 rfl (lv_at hl 3 rfl) ?_
        refine ev_getP (v := q3) S hK hM (ci := 9) (n := 8) (C := RX9) (T := TX9) hin9 rfl hg1 0 (by decide) lk10 rfl rfl eq3 rfl dX9_sprayThought_63 ?_
        refine lv_aload_n hx hb dX9_sprayThought_66 rfl (lv_at hl 3 rfl) ?_
        refine ev_getP (v := q2) S hK hM (ci := 9) (n := 8) (C := RX9) (T := TX9) hin9 rfl hg1 6 (by decide) lk47 rfl rfl eq2 rfl dX9_sprayThought_67 ?_
        refine lv_iload hx hb dX9_sprayThought_70 (lv_at hl 2 rfl) ?_
        refine lv_iload hx hb dX9_sprayThought_72 (lv_at hl 0 rfl) ?_
        refine bd_e hf (fun r19 er19 hf => ?_)
        refine ev_callv (va_runV (As := [.ref q2, .int v16, .int v18]) (rest := []) S (c_X6_stamp (l := l) I12 P q3 q2 v16 v18 r19 er19) (cwV 3 hts (gi_v wa_4_39 wa_3_77 wa_3_78 wa_1_2 wa_3_79) rfl rfl rfl (by decide +kernel) ⟨Nat.le_of_ble_eq_true rfl, Nat.le_of_ble_eq_true rfl⟩) ⟨mm_B_blind, ev_recv hK hM (ci := 6) rfl hg4 rfl, fun U hU hW => ⟨rfl, mm_B_of hK hZ hM hU hW⟩⟩ rfl rfl hl.1 rfl (lv_room (Nat.le_of_ble_eq_true rfl)) dX9_sprayThought_74 ⟨Nat.zero_le _, Nat.zero_le _⟩) hM (fun H locs hM => ?_)
        refine lv_iinc (v := (v11 + (1 : Int32))) (lv' := [(5, .int (v11 + (1 : Int32))), (7, .int v18), (4, .int r17), (6, .int v16), (0, .ref a0), (3, .int x3)]) hx hb dX9_sprayThought_77 hl (k := 5) rfl rfl (by decide) rfl (fun ls hl => ?_)
        refine lv_goto (tgt := 22) hx hb dX9_sprayThought_80 (by decide) ?_
        exact ih r17 (v11 + (1 : Int32)) r19 _ _ _ _ hM (lv_sub hl [4, 5, 2, 0] rfl) hf kk
  refine bd_e hf (fun r13 er13 hf => ?_)
  refine lp22_19 FU x2 (0 : Int32) r8 _ _ _ r13 hM (lv_sub hl [2, 5, 1, 0] rfl) er13 (fun H locs ls hM hl => ?_)
  obtain rfl := Option.some.inj hf
  subst hQ
  exact ev_vret S hr hlocks hK hZ hM dX9_sprayThought_83
noncomputable def fn_X9_isOtherwiseInThought (K N : Nat → Nat) (I : Nat → Nat → Int32) (P : Nat → Nat → Option Nat) (a0 : Nat) (x1 : Int32) (x2 : Int32) : Option (Int32) := Option.bind (fn_X9_seenAt K N I P a0 x2) (fun (r1 : Int32) => gd (K a0 = 10) (Option.bind (P a0 (0)) (fun q3 => gd (K q3 = 7) (Option.bind (P a0 (6)) (fun q5 => Option.bind (fn_X6_seenIf K N I P q3 x2 (I q3 2) x1 q5) (fun (r6 : Int32) => if r1 = r6 then (some (0 : Int32)) else (some (1 : Int32))))))))
abbrev wz_X9_isOtherwiseInThought : List Cond := Cond.code yX9_isOtherwiseInThought cX9_isOtherwiseInThought 3 (some .boolean) :: WA
abbrev rm_X9_isOtherwiseInThought : Room := { frames := 6, cells := 0, slots := 0, locals := 126 }
set_option maxHeartbeats 4000000 in
set_option maxRecDepth 100000 in
theorem c_X9_isOtherwiseInThought (I : Nat → Nat → Int32) (P : Nat → Nat → Option Nat) (a0 : Nat) (x1 : Int32) (x2 : Int32) (res : Int32) (hf : fn_X9_isOtherwiseInThought K N I P a0 x1 x2 = some res) : Met l yX9_isOtherwiseInThought wz_X9_isOtherwiseInThought rm_X9_isOtherwiseInThought (va_Pc [.ref a0, .int x1, .int x2] (mm_B D cs A L K N z w I P)) (va_Qi (fun r (_ : Unit) => r = res) (fun _ => mm_B D cs A L K N z w I P) A) 0 0 A := by
  refine Met.ofW (cc := cX9_isOtherwiseInThought) (maxL := 3) (ret := (some .boolean)) (by decide) rfl ?_
  intro p e s m args below meth c s₁ B hml hv
  obtain ⟨rfl, hBm⟩ := hv
  have hx := B.exec
  have hb := B.bytes
  have hr := B.returns
  have hts := atoms_spec (ws := wz_X9_isOtherwiseInThought) B.pre
  have hWA : ∀ w ∈ WA, w.before ([.ref a0, .int x1, .int x2] : List Value).toArray s = true := fun u9 h9 => hts u9 (List.mem_cons_of_mem _ h9)
  have hown : s.vm.findClass RX9 = some m.cls := findClass_of_methodNamed B.named
  have hlocks := B.notSynchronized
  have S : CallFix p m c cX9_isOtherwiseInThought 3 s ([.ref a0, .int x1, .int x2] : List Value).toArray wz_X9_isOtherwiseInThought RX9 := ⟨hx, hb, hml, hown, hts⟩
  have hK := hBm.2.2.2.1
  have hZ := hBm.2.2.2.2
  have hM : mm_W D cs A L K N s.heap I P s.heap [] := ⟨hBm.1, hBm.2.1, hBm.2.2.1, va_S.rf⟩
  have hl := lv_entry ([.ref a0, .int x1, .int x2]) (n := 3) (Nat.le_of_ble_eq_true rfl)
  rw [lg_entry_eq]
  generalize (lg_sl ([.ref a0, .int x1, .int x2]) ++ List.replicate (3 - (lg_sl ([.ref a0, .int x1, .int x2])).length) Slot.unset).toArray = ls at hl ⊢
  have hl : lv_has ls 3 [(0, .ref a0), (1, .int x1), (2, .int x2)] := hl
  have hin9 : ∀ w ∈ wsX90, w ∈ wz_X9_isOtherwiseInThought := fun w h => List.mem_cons_of_mem _ (wu_X9 w h)
  have hin6 : ∀ w ∈ wsX60, w ∈ wz_X9_isOtherwiseInThought := fun w h => List.mem_cons_of_mem _ (wu_X6 w h)
  have lk10 : (Cond.fieldLink RX9 10 RX9 "picture" "LRasterPainter$Picture;").before ([.ref a0, .int x1, .int x2] : List Value).toArray s = true := hWA _ wa_2_15
  have lk255 : (Cond.fieldLink RX9 255 RX6 "paper" "I").before ([.ref a0, .int x1, .int x2] : List Value).toArray s = true := hWA _ wa_1_156
  have lk47 : (Cond.fieldLink RX9 47 RX9 "thought" "LRasterPainter$Layer;").before ([.ref a0, .int x1, .int x2] : List Value).toArray s = true := hWA _ wa_2_21
  generalize hQ : MQ below (va_Qi (fun r (_ : Unit) => r = res) (fun _ => mm_B D cs A L K N z w I P) A) ([.ref a0, .int x1, .int x2] : List Value).toArray s 0 0 A = QQ
  rw [fn_X9_isOtherwiseInThought] at hf
  refine lv_aload_n hx hb dX9_isOtherwiseInThought_0 rfl (lv_at hl 0 rfl) ?_
  refine lv_iload_n hx hb dX9_isOtherwiseInThought_1 rfl (lv_at hl 2 rfl) ?_
  refine bd_e hf (fun r1 er1 hf => ?_)
  refine gd_e hf (fun hg2 hf => ?_)
  refine ev_calli (va_runV (As := [.int x2]) (rest := []) S (c_X9_seenAt (l := l) I P a0 x2 r1 er1) (cwV 1 hts (gi_v wa_2_151 wa_2_153 wa_s_1 wa_1_1 wa_2_154) rfl rfl rfl (by decide +kernel) ⟨Nat.le_of_ble_eq_true rfl, Nat.le_of_ble_eq_true rfl⟩) ⟨mm_B_blind, ev_recv hK hM (ci := 9) rfl hg2 rfl, fun U hU hW => ⟨rfl, mm_B_of hK hZ hM hU hW⟩⟩ rfl rfl hl.1 rfl (lv_room (Nat.le_of_ble_eq_true rfl)) dX9_isOtherwiseInThought_2 ⟨Nat.zero_le _, Nat.zero_le _⟩) hM (fun H locs hM => ?_)
  refine lv_aload_n hx hb dX9_isOtherwiseInThought_5 rfl (lv_at hl 0 rfl) ?_
  refine bd_e hf (fun q3 eq3 hf => ?_)
  refine ev_getP (v := q3) S hK hM (ci := 9) (n := 8) (C := RX9) (T := TX9) hin9 rfl hg2 0 (by decide) lk10 rfl rfl eq3 rfl dX9_isOtherwiseInThought_6 ?_
  refine lv_iload_n hx hb dX9_isOtherwiseInThought_9 rfl (lv_at hl 2 rfl) ?_
  refine lv_aload_n hx hb dX9_isOtherwiseInThought_10 rfl (lv_at hl 0 rfl) ?_
  refine ev_getP (v := q3) S hK hM (ci := 9) (n := 8) (C := RX9) (T := TX9) hin9 rfl hg2 0 (by decide) lk10 rfl rfl eq3 rfl dX9_isOtherwiseInThought_11 ?_
  refine gd_e hf (fun hg4 hf => ?_)
  refine ev_get (v := .int (I q3 2)) S hK hM (ci := 6) (n := 6) (C := RX6) (T := TX6) hin6 rfl hg4 2 (by decide) lk255 rfl rfl rfl dX9_isOtherwiseInThought_14 ?_
  refine lv_iload_n hx hb dX9_isOtherwiseInThought_17 rfl (lv_at hl 1 rfl) ?_
  refine lv_aload_n hx hb dX9_isOtherwiseInThought_18 rfl (lv_at hl 0 rfl) ?_
  refine bd_e hf (fun q5 eq5 hf => ?_)
  refine ev_getP (v := q5) S hK hM (ci := 9) (n := 8) (C := RX9) (T := TX9) hin9 rfl hg2 6 (by decide) lk47 rfl rfl eq5 rfl dX9_isOtherwiseInThought_19 ?_
  refine bd_e hf (fun r6 er6 hf => ?_)
  refine ev_calli (va_runV (As := [.int x2, .int (I q3 2), .int x1, .ref q5]) (rest := [.int r1]) S (c_X6_seenIf (l := l) I P q3 x2 (I q3 2) x1 q5 r6 er6) (cwV 4 hts (gi_v wa_2_155 wa_2_156 wa_2_157 wa_1_2 wa_2_158) rfl rfl rfl (by decide +kernel) ⟨Nat.le_of_ble_eq_true rfl, Nat.le_of_ble_eq_true rfl⟩) ⟨mm_B_blind, ev_recv hK hM (ci := 6) rfl hg4 rfl, fun U hU hW => ⟨rfl, mm_B_of hK hZ hM hU hW⟩⟩ rfl rfl hl.1 rfl (lv_room (Nat.le_of_ble_eq_true rfl)) dX9_isOtherwiseInThought_22 ⟨Nat.zero_le _, Nat.zero_le _⟩) hM (fun H locs hM => ?_)
  refine lv_icmp_eq (tgt := 32) hx hb dX9_isOtherwiseInThought_25 (by decide) (fun hc7 => ?_) (fun hc7 => ?_)
  · have hf := it_p hf hc7
    refine lv_iconst (v := (0 : Int32)) hx hb dX9_isOtherwiseInThought_32 (by decide) ?_
    obtain rfl := Option.some.inj hf
    subst hQ
    exact ev_zret (v := (0 : Int32)) S hr hlocks hK hZ hM rfl dX9_isOtherwiseInThought_33
  · have hf := it_n hf hc7
    refine lv_iconst (v := (1 : Int32)) hx hb dX9_isOtherwiseInThought_28 (by decide) ?_
    refine lv_goto (tgt := 33) hx hb dX9_isOtherwiseInThought_29 (by decide) ?_
    obtain rfl := Option.some.inj hf
    subst hQ
    exact ev_zret (v := (1 : Int32)) S hr hlocks hK hZ hM rfl dX9_isOtherwiseInThought_33
noncomputable def fn_X9_sprayed_L37 (K : Nat → Nat) (N : Nat → Nat) (a0 : Nat) (x1 : Int32) (P : Nat → Nat → Option Nat) (r8 : Nat → Nat → Int32) : Nat → Int32 → Int32 → Option (Int32)
  | 0, _, _ => none
  | n + 1, v9, v10 => if (192 : Int32) ≤ v10 then (some v9) else (Option.bind (fn_X9_isOtherwiseInThought K N r8 P a0 x1 v10) (fun (r13 : Int32) => if r13 = 0 then (fn_X9_sprayed_L37 K N a0 x1 P r8 n v9 (v10 + (1 : Int32))) else (fn_X9_sprayed_L37 K N a0 x1 P r8 n (v9 + (1 : Int32)) (v10 + (1 : Int32)))))
noncomputable def fn_X9_sprayed (K N : Nat → Nat) (I : Nat → Nat → Int32) (P : Nat → Nat → Option Nat) (a0 : Nat) (x1 : Int32) (x2 : Int32) (x3 : Int32) : Option (Int32 × (Nat → Nat → Int32)) := gd (K a0 = 10) (Option.bind (P a0 (0)) (fun q2 => Option.bind (fn_X6_hasLayer K N I P q2 x1) (fun (r3 : Int32) => gd (K q2 = 7) (if r3 = 0 then (some ((-2 : Int32), I)) else (Option.bind (fn_X9_isWithin x3 (0 : Int32) (30 : Int32)) (fun (r6 : Int32) => if r6 = 0 then (some ((-2 : Int32), I)) else (Option.bind (fn_X9_sprayThought K N I P a0 x1 x2 x3) (fun (r8 : (Nat → Nat → Int32)) => Option.bind (fn_X9_sprayed_L37 K N a0 x1 P r8 FU (0 : Int32) (0 : Int32)) (fun (r11 : Int32) => some (r11, r8))))))))))
abbrev wz_X9_sprayed : List Cond := Cond.code yX9_sprayed cX9_sprayed 6 (some .int) :: WA
abbrev rm_X9_sprayed : Room := { frames := 7, cells := 0, slots := 0, locals := 148 }
set_option maxHeartbeats 4000000 in
set_option maxRecDepth 100000 in
theorem c_X9_sprayed (I : Nat → Nat → Int32) (P : Nat → Nat → Option Nat) (a0 : Nat) (x1 : Int32) (x2 : Int32) (x3 : Int32) (res : Int32 × (Nat → Nat → Int32)) (hf : fn_X9_sprayed K N I P a0 x1 x2 x3 = some res) : Met l yX9_sprayed wz_X9_sprayed rm_X9_sprayed (va_Pc [.ref a0, .int x1, .int x2, .int x3] (mm_B D cs A L K N z w I P)) (va_Qi (fun r (_ : Unit) => r = res.1) (fun _ => mm_B D cs A L K N z w res.2 P) A) 0 0 A := by
  refine Met.ofW (cc := cX9_sprayed) (maxL := 6) (ret := (some .int)) (by decide) rfl ?_
  intro p e s m args below meth c s₁ B hml hv
  obtain ⟨rfl, hBm⟩ := hv
  have hx := B.exec
  have hb := B.bytes
  have hr := B.returns
  have hts := atoms_spec (ws := wz_X9_sprayed) B.pre
  have hWA : ∀ w ∈ WA, w.before ([.ref a0, .int x1, .int x2, .int x3] : List Value).toArray s = true := fun u9 h9 => hts u9 (List.mem_cons_of_mem _ h9)
  have hown : s.vm.findClass RX9 = some m.cls := findClass_of_methodNamed B.named
  have hlocks := B.notSynchronized
  have S : CallFix p m c cX9_sprayed 6 s ([.ref a0, .int x1, .int x2, .int x3] : List Value).toArray wz_X9_sprayed RX9 := ⟨hx, hb, hml, hown, hts⟩
  have hK := hBm.2.2.2.1
  have hZ := hBm.2.2.2.2
  have hM : mm_W D cs A L K N s.heap I P s.heap [] := ⟨hBm.1, hBm.2.1, hBm.2.2.1, va_S.rf⟩
  have hl := lv_entry ([.ref a0, .int x1, .int x2, .int x3]) (n := 6) (Nat.le_of_ble_eq_true rfl)
  rw [lg_entry_eq]
  generalize (lg_sl ([.ref a0, .int x1, .int x2, .int x3]) ++ List.replicate (6 - (lg_sl ([.ref a0, .int x1, .int x2, .int x3])).length) Slot.unset).toArray = ls at hl ⊢
  have hl : lv_has ls 6 [(0, .ref a0), (1, .int x1), (2, .int x2), (3, .int x3)] := hl
  have hin9 : ∀ w ∈ wsX90, w ∈ wz_X9_sprayed := fun w h => List.mem_cons_of_mem _ (wu_X9 w h)
  have lk10 : (Cond.fieldLink RX9 10 RX9 "picture" "LRasterPainter$Picture;").before ([.ref a0, .int x1, .int x2, .int x3] : List Value).toArray s = true := hWA _ wa_2_15
  generalize hQ : MQ below (va_Qi (fun r (_ : Unit) => r = res.1) (fun _ => mm_B D cs A L K N z w res.2 P) A) ([.ref a0, .int x1, .int x2, .int x3] : List Value).toArray s 0 0 A = QQ
  rw [fn_X9_sprayed] at hf
  refine lv_aload_n hx hb dX9_sprayed_0 rfl (lv_at hl 0 rfl) ?_
  refine gd_e hf (fun hg1 hf => ?_)
  refine bd_e hf (fun q2 eq2 hf => ?_)
  refine ev_getP (v := q2) S hK hM (ci := 9) (n := 8) (C := RX9) (T := TX9) hin9 rfl hg1 0 (by decide) lk10 rfl rfl eq2 rfl dX9_sprayed_1 ?_
  refine lv_iload_n hx hb dX9_sprayed_4 rfl (lv_at hl 1 rfl) ?_
  refine bd_e hf (fun r3 er3 hf => ?_)
  refine gd_e hf (fun hg4 hf => ?_)
  refine ev_calli (va_runV (As := [.int x1]) (rest := []) S (c_X6_hasLayer (l := l) I P q2 x1 r3 er3) (cwV 1 hts (gi_v wa_2_76 wa_2_77 wa_2_78 wa_1_2 wa_2_79) rfl rfl rfl (by decide +kernel) ⟨Nat.le_of_ble_eq_true rfl, Nat.le_of_ble_eq_true rfl⟩) ⟨mm_B_blind, ev_recv hK hM (ci := 6) rfl hg4 rfl, fun U hU hW => ⟨rfl, mm_B_of hK hZ hM hU hW⟩⟩ rfl rfl hl.1 rfl (lv_room (Nat.le_of_ble_eq_true rfl)) dX9_sprayed_5 ⟨Nat.zero_le _, Nat.zero_le _⟩) hM (fun H locs hM => ?_)
  refine lv_if_eq (tgt := 21) hx hb dX9_sprayed_8 (by decide) (fun hc5 => ?_) (fun hc5 => ?_)
  · have hf := it_p hf hc5
    refine lv_bipush (v := (-2 : Int32)) hx hb dX9_sprayed_21 (by decide) ?_
    obtain rfl := Option.some.inj hf
    subst hQ
    exact ev_iret S hr hlocks hK hZ hM dX9_sprayed_23
  · have hf := it_n hf hc5
    refine lv_iload_n hx hb dX9_sprayed_11 rfl (lv_at hl 3 rfl) ?_
    refine lv_iconst (v := (0 : Int32)) hx hb dX9_sprayed_12 (by decide) ?_
    refine lv_bipush (v := (30 : Int32)) hx hb dX9_sprayed_13 (by decide) ?_
    refine bd_e hf (fun r6 er6 hf => ?_)
    refine ev_calli (va_runS (As := [.int x3, .int (0 : Int32), .int (30 : Int32)]) (rest := []) S (c_X9_isWithin (l := l) I P x3 (0 : Int32) (30 : Int32) r6 er6) (va_cwS 3 hts (gi_s wa_2_47 wa_2_48 wa_1_1 wa_2_49) rfl rfl rfl (by decide +kernel) ⟨Nat.le_of_ble_eq_true rfl, Nat.le_of_ble_eq_true rfl⟩) ⟨mm_B_blind, fun U hU hW => ⟨rfl, mm_B_of hK hZ hM hU hW⟩⟩ rfl rfl hl.1 rfl (lv_room (Nat.le_of_ble_eq_true rfl)) dX9_sprayed_15 ⟨Nat.zero_le _, Nat.zero_le _⟩) hM (fun H locs hM => ?_)
    refine lv_if_ne (tgt := 24) hx hb dX9_sprayed_18 (by decide) (fun hc7 => ?_) (fun hc7 => ?_)
    · have hf := it_n hf hc7
      refine lv_aload_n hx hb dX9_sprayed_24 rfl (lv_at hl 0 rfl) ?_
      refine lv_iload_n hx hb dX9_sprayed_25 rfl (lv_at hl 1 rfl) ?_
      refine lv_iload_n hx hb dX9_sprayed_26 rfl (lv_at hl 2 rfl) ?_
      refine lv_iload_n hx hb dX9_sprayed_27 rfl (lv_at hl 3 rfl) ?_
      refine bd_e hf (fun r8 er8 hf => ?_)
      refine ev_callv (va_runV (As := [.int x1, .int x2, .int x3]) (rest := []) S (c_X9_sprayThought (l := l) I P a0 x1 x2 x3 r8 er8) (cwV 3 hts (gi_v wa_4_25 wa_4_27 wa_s_21 wa_1_1 wa_4_28) rfl rfl rfl (by decide +kernel) ⟨Nat.le_of_ble_eq_true rfl, Nat.le_of_ble_eq_true rfl⟩) ⟨mm_B_blind, ev_recv hK hM (ci := 9) rfl hg1 rfl, fun U hU hW => ⟨rfl, mm_B_of hK hZ hM hU hW⟩⟩ rfl rfl hl.1 rfl (lv_room (Nat.le_of_ble_eq_true rfl)) dX9_sprayed_28 ⟨Nat.zero_le _, Nat.zero_le _⟩) hM (fun H locs hM => ?_)
      refine lv_iconst (v := (0 : Int32)) hx hb dX9_sprayed_31 (by decide) ?_
      refine lv_istore (lv' := [(4, .int (0 : Int32)), (0, .ref a0), (1, .int x1), (2, .int x2), (3, .int x3)]) hx hb dX9_sprayed_32 hl (by decide) rfl (fun ls hl => ?_)
      refine lv_iconst (v := (0 : Int32)) hx hb dX9_sprayed_34 (by decide) ?_
      refine lv_istore (lv' := [(5, .int (0 : Int32)), (4, .int (0 : Int32)), (0, .ref a0), (1, .int x1), (2, .int x2), (3, .int x3)]) hx hb dX9_sprayed_35 hl (by decide) rfl (fun ls hl => ?_)
      have lp37_14 : ∀ (n : Nat) (v9 : Int32) (v10 : Int32) (H : Heap) (locs : List Loc) (ls : Array Slot) (r11 : Int32), mm_W D cs A L K N s.heap r8 P H locs → lv_has ls 6 [(0, .ref a0), (1, .int x1), (4, .int v9), (5, .int v10)] → fn_X9_sprayed_L37 K N a0 x1 P r8 n v9 v10 = some r11 → (∀ (H : Heap) (locs : List Loc) (ls : Array Slot), mm_W D cs A L K N s.heap r8 P H locs → lv_has ls 6 [(4, .int r11)] → W p l e (headSpec wz_X9_sprayed rm_X9_sprayed).room s m ([.ref a0, .int x1, .int x2, .int x3] : List Value).toArray below meth c H locs 0 0 QQ (F0 m 64 ls [])) → W p l e (headSpec wz_X9_sprayed rm_X9_sprayed).room s m ([.ref a0, .int x1, .int x2, .int x3] : List Value).toArray below meth c H locs 0 0 QQ (F0 m 37 ls []) := by
        intro n
        induction n with
        | zero => intro v9 v10 H locs ls r11 hM hl hf kk; exact nn_x (show (none : Option (Int32)) = some r11 from hf)
        | succ n ih =>
          intro v9 v10 H locs ls r11 hM hl hf kk
          rw [fn_X9_sprayed_L37] at hf
          refine lv_iload hx hb dX9_sprayed_37 (lv_at hl 3 rfl) ?_
          refine lv_sipush (v := (192 : Int32)) hx hb dX9_sprayed_39 (by decide) ?_
          refine lv_icmp_ge (tgt := 64) hx hb dX9_sprayed_42 (by decide) (fun hc12 => ?_) (fun hc12 => ?_)
          · have hf := it_p hf hc12
            obtain rfl := Option.some.inj hf
            exact kk _ _ _ hM (lv_sub hl [2] rfl)
          · have hf := it_n hf hc12
            refine lv_aload_n hx hb dX9_sprayed_45 rfl (lv_at hl 0 rfl) ?_
            refine lv_iload_n hx hb dX9_sprayed_46 rfl (lv_at hl 1 rfl) ?_
            refine lv_iload hx hb dX9_sprayed_47 (lv_at hl 3 rfl) ?_
            refine bd_e hf (fun r13 er13 hf => ?_)
            refine ev_calli (va_runV (As := [.int x1, .int v10]) (rest := []) S (c_X9_isOtherwiseInThought (l := l) r8 P a0 x1 v10 r13 er13) (cwV 2 hts (gi_v wa_4_40 wa_4_42 wa_s_22 wa_1_1 wa_4_43) rfl rfl rfl (by decide +kernel) ⟨Nat.le_of_ble_eq_true rfl, Nat.le_of_ble_eq_true rfl⟩) ⟨mm_B_blind, ev_recv hK hM (ci := 9) rfl hg1 rfl, fun U hU hW => ⟨rfl, mm_B_of hK hZ hM hU hW⟩⟩ rfl rfl hl.1 rfl (lv_room (Nat.le_of_ble_eq_true rfl)) dX9_sprayed_49 ⟨Nat.zero_le _, Nat.zero_le _⟩) hM (fun H locs hM => ?_)
            refine lv_if_eq (tgt := 58) hx hb dX9_sprayed_52 (by decide) (fun hc14 => ?_) (fun hc14 => ?_)
            · have hf := it_p hf hc14
              refine lv_iinc (v := (v10 + (1 : Int32))) (lv' := [(5, .int (v10 + (1 : Int32))), (0, .ref a0), (1, .int x1), (4, .int v9)]) hx hb dX9_sprayed_58 hl (k := 3) rfl rfl (by decide) rfl (fun ls hl => ?_)
              refine lv_goto (tgt := 37) hx hb dX9_sprayed_61 (by decide) ?_
              exact ih v9 (v10 + (1 : Int32)) _ _ _ _ hM (lv_sub hl [1, 2, 3, 0] rfl) hf kk
            · have hf := it_n hf hc14
              refine lv_iinc (v := (v9 + (1 : Int32))) (lv' := [(4, .int (v9 + (1 : Int32))), (0, .ref a0), (1, .int x1), (5, .int v10)]) hx hb dX9_sprayed_55 hl (k := 2) rfl rfl (by decide) rfl (fun ls hl => ?_)
              refine lv_iinc (v := (v10 + (1 : Int32))) (lv' := [(5, .int (v10 + (1 : Int32))), (4, .int (v9 + (1 : Int32))), (0, .ref a0), (1, .int x1)]) hx hb dX9_sprayed_58 hl (k := 3) rfl rfl (by decide) rfl (fun ls hl => ?_)
              refine lv_goto (tgt := 37) hx hb dX9_sprayed_61 (by decide) ?_
              exact ih (v9 + (1 : Int32)) (v10 + (1 : Int32)) _ _ _ _ hM (lv_sub hl [2, 3, 1, 0] rfl) hf kk
      refine bd_e hf (fun r11 er11 hf => ?_)
      refine lp37_14 FU (0 : Int32) (0 : Int32) _ _ _ r11 hM (lv_sub hl [2, 3, 1, 0] rfl) er11 (fun H locs ls hM hl => ?_)
      refine lv_iload hx hb dX9_sprayed_64 (lv_at hl 0 rfl) ?_
      obtain rfl := Option.some.inj hf
      subst hQ
      exact ev_iret S hr hlocks hK hZ hM dX9_sprayed_66
    · have hf := it_p hf hc7
      refine lv_bipush (v := (-2 : Int32)) hx hb dX9_sprayed_21 (by decide) ?_
      obtain rfl := Option.some.inj hf
      subst hQ
      exact ev_iret S hr hlocks hK hZ hM dX9_sprayed_23
noncomputable def fn_X9_isSheet (x0 : Int32) : Option (Int32) := Option.bind (fn_X9_isWithin x0 (0 : Int32) (3 : Int32)) (fun (r1 : Int32) => gd (r1 = 0 ∨ r1 = 1) (some r1))
abbrev wz_X9_isSheet : List Cond := Cond.code yX9_isSheet cX9_isSheet 1 (some .boolean) :: WA
abbrev rm_X9_isSheet : Room := { frames := 2, cells := 0, slots := 0, locals := 34 }
set_option maxHeartbeats 4000000 in
set_option maxRecDepth 100000 in
theorem c_X9_isSheet (I : Nat → Nat → Int32) (P : Nat → Nat → Option Nat) (x0 : Int32) (res : Int32) (hf : fn_X9_isSheet x0 = some res) : Met l yX9_isSheet wz_X9_isSheet rm_X9_isSheet (va_Pc [.int x0] (mm_B D cs A L K N z w I P)) (va_Qi (fun r (_ : Unit) => r = res) (fun _ => mm_B D cs A L K N z w I P) A) 0 0 A := by
  refine Met.ofW (cc := cX9_isSheet) (maxL := 1) (ret := (some .boolean)) (by decide) rfl ?_
  intro p e s m args below meth c s₁ B hml hv
  obtain ⟨rfl, hBm⟩ := hv
  have hx := B.exec
  have hb := B.bytes
  have hr := B.returns
  have hts := atoms_spec (ws := wz_X9_isSheet) B.pre
  have hWA : ∀ w ∈ WA, w.before ([.int x0] : List Value).toArray s = true := fun u9 h9 => hts u9 (List.mem_cons_of_mem _ h9)
  have hown : s.vm.findClass RX9 = some m.cls := findClass_of_methodNamed B.named
  have hlocks := B.notSynchronized
  have S : CallFix p m c cX9_isSheet 1 s ([.int x0] : List Value).toArray wz_X9_isSheet RX9 := ⟨hx, hb, hml, hown, hts⟩
  have hK := hBm.2.2.2.1
  have hZ := hBm.2.2.2.2
  have hM : mm_W D cs A L K N s.heap I P s.heap [] := ⟨hBm.1, hBm.2.1, hBm.2.2.1, va_S.rf⟩
  have hl := lv_entry ([.int x0]) (n := 1) (Nat.le_of_ble_eq_true rfl)
  rw [lg_entry_eq]
  generalize (lg_sl ([.int x0]) ++ List.replicate (1 - (lg_sl ([.int x0])).length) Slot.unset).toArray = ls at hl ⊢
  have hl : lv_has ls 1 [(0, .int x0)] := hl
  generalize hQ : MQ below (va_Qi (fun r (_ : Unit) => r = res) (fun _ => mm_B D cs A L K N z w I P) A) ([.int x0] : List Value).toArray s 0 0 A = QQ
  unfold fn_X9_isSheet at hf
  refine lv_iload_n hx hb dX9_isSheet_0 rfl (lv_at hl 0 rfl) ?_
  refine lv_iconst (v := (0 : Int32)) hx hb dX9_isSheet_1 (by decide) ?_
  refine lv_iconst (v := (3 : Int32)) hx hb dX9_isSheet_2 (by decide) ?_
  refine bd_e hf (fun r1 er1 hf => ?_)
  refine ev_calli (va_runS (As := [.int x0, .int (0 : Int32), .int (3 : Int32)]) (rest := []) S (c_X9_isWithin (l := l) I P x0 (0 : Int32) (3 : Int32) r1 er1) (va_cwS 3 hts (gi_s wa_2_47 wa_2_48 wa_1_1 wa_2_49) rfl rfl rfl (by decide +kernel) ⟨Nat.le_of_ble_eq_true rfl, Nat.le_of_ble_eq_true rfl⟩) ⟨mm_B_blind, fun U hU hW => ⟨rfl, mm_B_of hK hZ hM hU hW⟩⟩ rfl rfl hl.1 rfl (lv_room (Nat.le_of_ble_eq_true rfl)) dX9_isSheet_3 ⟨Nat.zero_le _, Nat.zero_le _⟩) hM (fun H locs hM => ?_)
  refine gd_e hf (fun hg2 hf => ?_)
  obtain rfl := Option.some.inj hf
  subst hQ
  exact ev_zret (v := r1) S hr hlocks hK hZ hM (nar_b hg2) dX9_isSheet_6
noncomputable def fn_X9_firstOtherwise_L3 (K : Nat → Nat) (N : Nat → Nat) (a0 : Nat) (a1 : Nat) (x2 : Int32) (x3 : Int32) (x4 : Int32) (I : Nat → Nat → Int32) (P : Nat → Nat → Option Nat) : Nat → Int32 → Option ((Int32) ⊕ (Unit))
  | 0, _ => none
  | n + 1, v1 => if (16 : Int32) ≤ v1 then (some (Sum.inr ())) else (gd (K a1 = 8) (if (I a1 1) ≤ v1 then (some (Sum.inr ())) else (Option.bind (P a1 (2)) (fun q7 => gd (K q7 = 12 ∧ vp_in v1 (N q7)) (gd (K a0 = 10) (Option.bind (P a0 (0)) (fun q10 => Option.bind (fn_X9_dotAt v1 x2) (fun (r11 : Int32) => Option.bind (P a0 (6)) (fun q12 => Option.bind (fn_X6_seenIf K N I P q10 r11 x3 x4 q12) (fun (r13 : Int32) => gd (K q10 = 7) (if (I q7 (v1.toNatClampNeg)) = r13 then (fn_X9_firstOtherwise_L3 K N a0 a1 x2 x3 x4 I P n (v1 + (1 : Int32))) else (some (Sum.inl v1)))))))))))))
noncomputable def fn_X9_firstOtherwise (K N : Nat → Nat) (I : Nat → Nat → Int32) (P : Nat → Nat → Option Nat) (a0 : Nat) (a1 : Nat) (x2 : Int32) (x3 : Int32) (x4 : Int32) : Option (Int32) := Option.bind (fn_X9_firstOtherwise_L3 K N a0 a1 x2 x3 x4 I P FU (0 : Int32)) (fun (r2 : (Int32) ⊕ (Unit)) => Sum.elim (fun t => some t) (fun (xx3 : Unit) => some (-1 : Int32)) r2)
abbrev wz_X9_firstOtherwise : List Cond := Cond.code yX9_firstOtherwise cX9_firstOtherwise 6 (some .int) :: WA
abbrev rm_X9_firstOtherwise : Room := { frames := 5, cells := 0, slots := 0, locals := 105 }
set_option maxHeartbeats 4000000 in
set_option maxRecDepth 100000 in
theorem c_X9_firstOtherwise (I : Nat → Nat → Int32) (P : Nat → Nat → Option Nat) (a0 : Nat) (a1 : Nat) (x2 : Int32) (x3 : Int32) (x4 : Int32) (res : Int32) (hf : fn_X9_firstOtherwise K N I P a0 a1 x2 x3 x4 = some res) : Met l yX9_firstOtherwise wz_X9_firstOtherwise rm_X9_firstOtherwise (va_Pc [.ref a0, .ref a1, .int x2, .int x3, .int x4] (mm_B D cs A L K N z w I P)) (va_Qi (fun r (_ : Unit) => r = res) (fun _ => mm_B D cs A L K N z w I P) A) 0 0 A := by
  refine Met.ofW (cc := cX9_firstOtherwise) (maxL := 6) (ret := (some .int)) (by decide) rfl ?_
  intro p e s m args below meth c s₁ B hml hv
  obtain ⟨rfl, hBm⟩ := hv
  have hx := B.exec
  have hb := B.bytes
  have hr := B.returns
  have hts := atoms_spec (ws := wz_X9_firstOtherwise) B.pre
  have hWA : ∀ w ∈ WA, w.before ([.ref a0, .ref a1, .int x2, .int x3, .int x4] : List Value).toArray s = true := fun u9 h9 => hts u9 (List.mem_cons_of_mem _ h9)
  have hown : s.vm.findClass RX9 = some m.cls := findClass_of_methodNamed B.named
  have hlocks := B.notSynchronized
  have S : CallFix p m c cX9_firstOtherwise 6 s ([.ref a0, .ref a1, .int x2, .int x3, .int x4] : List Value).toArray wz_X9_firstOtherwise RX9 := ⟨hx, hb, hml, hown, hts⟩
  have hK := hBm.2.2.2.1
  have hZ := hBm.2.2.2.2
  have hM : mm_W D cs A L K N s.heap I P s.heap [] := ⟨hBm.1, hBm.2.1, hBm.2.2.1, va_S.rf⟩
  have hl := lv_entry ([.ref a0, .ref a1, .int x2, .int x3, .int x4]) (n := 6) (Nat.le_of_ble_eq_true rfl)
  rw [lg_entry_eq]
  generalize (lg_sl ([.ref a0, .ref a1, .int x2, .int x3, .int x4]) ++ List.replicate (6 - (lg_sl ([.ref a0, .ref a1, .int x2, .int x3, .int x4])).length) Slot.unset).toArray = ls at hl ⊢
  have hl : lv_has ls 6 [(0, .ref a0), (1, .ref a1), (2, .int x2), (3, .int x3), (4, .int x4)] := hl
  have hin7 : ∀ w ∈ wsX70, w ∈ wz_X9_firstOtherwise := fun w h => List.mem_cons_of_mem _ (wu_X7 w h)
  have hin9 : ∀ w ∈ wsX90, w ∈ wz_X9_firstOtherwise := fun w h => List.mem_cons_of_mem _ (wu_X9 w h)
  have lk254 : (Cond.fieldLink RX9 254 RX7 "size" "I").before ([.ref a0, .ref a1, .int x2, .int x3, .int x4] : List Value).toArray s = true := hWA _ wa_1_222
  have lk299 : (Cond.fieldLink RX9 299 RX7 "items" "[I").before ([.ref a0, .ref a1, .int x2, .int x3, .int x4] : List Value).toArray s = true := hWA _ wa_1_224
  have lk10 : (Cond.fieldLink RX9 10 RX9 "picture" "LRasterPainter$Picture;").before ([.ref a0, .ref a1, .int x2, .int x3, .int x4] : List Value).toArray s = true := hWA _ wa_2_15
  have lk47 : (Cond.fieldLink RX9 47 RX9 "thought" "LRasterPainter$Layer;").before ([.ref a0, .ref a1, .int x2, .int x3, .int x4] : List Value).toArray s = true := hWA _ wa_2_21
  generalize hQ : MQ below (va_Qi (fun r (_ : Unit) => r = res) (fun _ => mm_B D cs A L K N z w I P) A) ([.ref a0, .ref a1, .int x2, .int x3, .int x4] : List Value).toArray s 0 0 A = QQ
  rw [fn_X9_firstOtherwise] at hf
  refine lv_iconst (v := (0 : Int32)) hx hb dX9_firstOtherwise_0 (by decide) ?_
  refine lv_istore (lv' := [(5, .int (0 : Int32)), (0, .ref a0), (1, .ref a1), (2, .int x2), (3, .int x3), (4, .int x4)]) hx hb dX9_firstOtherwise_1 hl (by decide) rfl (fun ls hl => ?_)
  have lp3_15 : ∀ (n : Nat) (v1 : Int32) (H : Heap) (locs : List Loc) (ls : Array Slot) (r2 : (Int32) ⊕ (Unit)), mm_W D cs A L K N s.heap I P H locs → lv_has ls 6 [(0, .ref a0), (1, .ref a1), (2, .int x2), (3, .int x3), (4, .int x4), (5, .int v1)] → fn_X9_firstOtherwise_L3 K N a0 a1 x2 x3 x4 I P n v1 = some r2 → (∀ xx3 : Unit, r2 = Sum.inr xx3 → ∀ (H : Heap) (locs : List Loc) (ls : Array Slot), mm_W D cs A L K N s.heap I P H locs → lv_has ls 6 [] → W p l e (headSpec wz_X9_firstOtherwise rm_X9_firstOtherwise).room s m ([.ref a0, .ref a1, .int x2, .int x3, .int x4] : List Value).toArray below meth c H locs 0 0 QQ (F0 m 58 ls [])) → (∀ t : Int32, r2 = Sum.inl t → t = res) → W p l e (headSpec wz_X9_firstOtherwise rm_X9_firstOtherwise).room s m ([.ref a0, .ref a1, .int x2, .int x3, .int x4] : List Value).toArray below meth c H locs 0 0 QQ (F0 m 3 ls []) := by
    intro n
    induction n with
    | zero => intro v1 H locs ls r2 hM hl hf kk kr; exact nn_x (show (none : Option ((Int32) ⊕ (Unit))) = some r2 from hf)
    | succ n ih =>
      intro v1 H locs ls r2 hM hl hf kk kr
      rw [fn_X9_firstOtherwise_L3] at hf
      refine lv_iload hx hb dX9_firstOtherwise_3 (lv_at hl 5 rfl) ?_
      refine lv_bipush (v := (16 : Int32)) hx hb dX9_firstOtherwise_5 (by decide) ?_
      refine lv_icmp_ge (tgt := 58) hx hb dX9_firstOtherwise_7 (by decide) (fun hc4 => ?_) (fun hc4 => ?_)
      · have hf := it_p hf hc4
        exact kk _ (Option.some.inj hf).symm _ _ _ hM (lv_sub hl [] rfl)
      · have hf := it_n hf hc4
        refine lv_iload hx hb dX9_firstOtherwise_10 (lv_at hl 5 rfl) ?_
        refine lv_aload_n hx hb dX9_firstOtherwise_12 rfl (lv_at hl 1 rfl) ?_
        refine gd_e hf (fun hg5 hf => ?_)
        refine ev_get (v := .int (I a1 1)) S hK hM (ci := 7) (n := 3) (C := RX7) (T := TX7) hin7 rfl hg5 1 (by decide) lk254 rfl rfl rfl dX9_firstOtherwise_13 ?_
        refine lv_icmp_ge (tgt := 58) hx hb dX9_firstOtherwise_16 (by decide) (fun hc6 => ?_) (fun hc6 => ?_)
        · have hf := it_p hf hc6
          exact kk _ (Option.some.inj hf).symm _ _ _ hM (lv_sub hl [] rfl)
        · have hf := it_n hf hc6
          refine lv_aload_n hx hb dX9_firstOtherwise_19 rfl (lv_at hl 1 rfl) ?_
          refine bd_e hf (fun q7 eq7 hf => ?_)
          refine ev_getP (v := q7) S hK hM (ci := 7) (n := 3) (C := RX7) (T := TX7) hin7 rfl hg5 2 (by decide) lk299 rfl rfl eq7 rfl dX9_firstOtherwise_20 ?_
          refine lv_iload hx hb dX9_firstOtherwise_23 (lv_at hl 5 rfl) ?_
          refine gd_e hf (fun hg8 hf => ?_)
          refine ev_iald S hK hM hg8 (j := v1.toNatClampNeg) rfl dX9_firstOtherwise_25 ?_
          refine lv_aload_n hx hb dX9_firstOtherwise_26 rfl (lv_at hl 0 rfl) ?_
          refine gd_e hf (fun hg9 hf => ?_)
          refine bd_e hf (fun q10 eq10 hf => ?_)
          refine ev_getP (v := q10) S hK hM (ci := 9) (n := 8) (C := RX9) (T := TX9) hin9 rfl hg9 0 (by decide) lk10 rfl rfl eq10 rfl dX9_firstOtherwise_27 ?_
          refine lv_iload hx hb dX9_firstOtherwise_30 (lv_at hl 5 rfl) ?_
          refine lv_iload_n hx hb dX9_firstOtherwise_32 rfl (lv_at hl 2 rfl) ?_
          refine bd_e hf (fun r11 er11 hf => ?_)
          refine ev_calli (va_runS (As := [.int v1, .int x2]) (rest := [.ref q10, .int (I q7 (v1.toNatClampNeg))]) S (c_X9_dotAt (l := l) I P v1 x2 r11 er11) (va_cwS 2 hts (gi_s wa_2_148 wa_2_149 wa_1_1 wa_2_150) rfl rfl rfl (by decide +kernel) ⟨Nat.le_of_ble_eq_true rfl, Nat.le_of_ble_eq_true rfl⟩) ⟨mm_B_blind, fun U hU hW => ⟨rfl, mm_B_of hK hZ hM hU hW⟩⟩ rfl rfl hl.1 rfl (lv_room (Nat.le_of_ble_eq_true rfl)) dX9_firstOtherwise_33 ⟨Nat.zero_le _, Nat.zero_le _⟩) hM (fun H locs hM => ?_)
          refine lv_iload_n hx hb dX9_firstOtherwise_36 rfl (lv_at hl 3 rfl) ?_
          refine lv_iload hx hb dX9_firstOtherwise_37 (lv_at hl 4 rfl) ?_
          refine lv_aload_n hx hb dX9_firstOtherwise_39 rfl (lv_at hl 0 rfl) ?_
          refine bd_e hf (fun q12 eq12 hf => ?_)
          refine ev_getP (v := q12) S hK hM (ci := 9) (n := 8) (C := RX9) (T := TX9) hin9 rfl hg9 6 (by decide) lk47 rfl rfl eq12 rfl dX9_firstOtherwise_40 ?_
          refine bd_e hf (fun r13 er13 hf => ?_)
          refine gd_e hf (fun hg14 hf => ?_)
          refine ev_calli (va_runV (As := [.int r11, .int x3, .int x4, .ref q12]) (rest := [.int (I q7 (v1.toNatClampNeg))]) S (c_X6_seenIf (l := l) I P q10 r11 x3 x4 q12 r13 er13) (cwV 4 hts (gi_v wa_2_155 wa_2_156 wa_2_157 wa_1_2 wa_2_158) rfl rfl rfl (by decide +kernel) ⟨Nat.le_of_ble_eq_true rfl, Nat.le_of_ble_eq_true rfl⟩) ⟨mm_B_blind, ev_recv hK hM (ci := 6) rfl hg14 rfl, fun U hU hW => ⟨rfl, mm_B_of hK hZ hM hU hW⟩⟩ rfl rfl hl.1 rfl (lv_room (Nat.le_of_ble_eq_true rfl)) dX9_firstOtherwise_43 ⟨Nat.zero_le _, Nat.zero_le _⟩) hM (fun H locs hM => ?_)
          refine lv_icmp_eq (tgt := 52) hx hb dX9_firstOtherwise_46 (by decide) (fun hc15 => ?_) (fun hc15 => ?_)
          · have hf := it_p hf hc15
            refine lv_iinc (v := (v1 + (1 : Int32))) (lv' := [(5, .int (v1 + (1 : Int32))), (0, .ref a0), (1, .ref a1), (2, .int x2), (3, .int x3), (4, .int x4)]) hx hb dX9_firstOtherwise_52 hl (k := 5) rfl rfl (by decide) rfl (fun ls hl => ?_)
            refine lv_goto (tgt := 3) hx hb dX9_firstOtherwise_55 (by decide) ?_
            exact ih (v1 + (1 : Int32)) _ _ _ _ hM (lv_sub hl [1, 2, 3, 4, 5, 0] rfl) hf kk kr
          · have hf := it_n hf hc15
            refine lv_iload hx hb dX9_firstOtherwise_49 (lv_at hl 5 rfl) ?_
            have hrr := kr _ (Option.some.inj hf).symm
            subst hrr
            subst hQ
            exact ev_iret S hr hlocks hK hZ hM dX9_firstOtherwise_51
  refine bd_e hf (fun r2 er2 hf => ?_)
  refine lp3_15 FU (0 : Int32) _ _ _ r2 hM (lv_sub hl [1, 2, 3, 4, 5, 0] rfl) er2 (fun xx3 exxx3 H locs ls hM hl => ?_) (fun t ht => by subst ht; exact Option.some.inj hf)
  subst exxx3
  have hf := sm_r hf
  refine lv_iconst (v := (-1 : Int32)) hx hb dX9_firstOtherwise_58 (by decide) ?_
  obtain rfl := Option.some.inj hf
  subst hQ
  exact ev_iret S hr hlocks hK hZ hM dX9_firstOtherwise_59
noncomputable def fn_X9_papersTold_L5 (K : Nat → Nat) (N : Nat → Nat) (a0 : Nat) (a1 : Nat) (x2 : Int32) (I : Nat → Nat → Int32) (P : Nat → Nat → Option Nat) : Nat → Int32 → Int32 → Option (Int32)
  | 0, _, _ => none
  | n + 1, v1, v2 => if (255 : Int32) < v2 then (some v1) else (Option.bind (fn_X9_firstOtherwise K N I P a0 a1 x2 v2 (-1 : Int32)) (fun (r5 : Int32) => gd (K a0 = 10) (if r5 = (-1 : Int32) then (fn_X9_papersTold_L5 K N a0 a1 x2 I P n (v1 + (1 : Int32)) (v2 + (1 : Int32))) else (fn_X9_papersTold_L5 K N a0 a1 x2 I P n v1 (v2 + (1 : Int32))))))
noncomputable def fn_X9_papersTold (K N : Nat → Nat) (I : Nat → Nat → Int32) (P : Nat → Nat → Option Nat) (a0 : Nat) (a1 : Nat) (x2 : Int32) : Option (Int32) := Option.bind (fn_X9_papersTold_L5 K N a0 a1 x2 I P FU (0 : Int32) (0 : Int32)) (fun (r3 : Int32) => some r3)
abbrev wz_X9_papersTold : List Cond := Cond.code yX9_papersTold cX9_papersTold 5 (some .int) :: WA
abbrev rm_X9_papersTold : Room := { frames := 6, cells := 0, slots := 0, locals := 130 }
set_option maxHeartbeats 4000000 in
set_option maxRecDepth 100000 in
theorem c_X9_papersTold (I : Nat → Nat → Int32) (P : Nat → Nat → Option Nat) (a0 : Nat) (a1 : Nat) (x2 : Int32) (res : Int32) (hf : fn_X9_papersTold K N I P a0 a1 x2 = some res) : Met l yX9_papersTold wz_X9_papersTold rm_X9_papersTold (va_Pc [.ref a0, .ref a1, .int x2] (mm_B D cs A L K N z w I P)) (va_Qi (fun r (_ : Unit) => r = res) (fun _ => mm_B D cs A L K N z w I P) A) 0 0 A := by
  refine Met.ofW (cc := cX9_papersTold) (maxL := 5) (ret := (some .int)) (by decide) rfl ?_
  intro p e s m args below meth c s₁ B hml hv
  obtain ⟨rfl, hBm⟩ := hv
  have hx := B.exec
  have hb := B.bytes
  have hr := B.returns
  have hts := atoms_spec (ws := wz_X9_papersTold) B.pre
  have hWA : ∀ w ∈ WA, w.before ([.ref a0, .ref a1, .int x2] : List Value).toArray s = true := fun u9 h9 => hts u9 (List.mem_cons_of_mem _ h9)
  have hown : s.vm.findClass RX9 = some m.cls := findClass_of_methodNamed B.named
  have hlocks := B.notSynchronized
  have S : CallFix p m c cX9_papersTold 5 s ([.ref a0, .ref a1, .int x2] : List Value).toArray wz_X9_papersTold RX9 := ⟨hx, hb, hml, hown, hts⟩
  have hK := hBm.2.2.2.1
  have hZ := hBm.2.2.2.2
  have hM : mm_W D cs A L K N s.heap I P s.heap [] := ⟨hBm.1, hBm.2.1, hBm.2.2.1, va_S.rf⟩
  have hl := lv_entry ([.ref a0, .ref a1, .int x2]) (n := 5) (Nat.le_of_ble_eq_true rfl)
  rw [lg_entry_eq]
  generalize (lg_sl ([.ref a0, .ref a1, .int x2]) ++ List.replicate (5 - (lg_sl ([.ref a0, .ref a1, .int x2])).length) Slot.unset).toArray = ls at hl ⊢
  have hl : lv_has ls 5 [(0, .ref a0), (1, .ref a1), (2, .int x2)] := hl
  generalize hQ : MQ below (va_Qi (fun r (_ : Unit) => r = res) (fun _ => mm_B D cs A L K N z w I P) A) ([.ref a0, .ref a1, .int x2] : List Value).toArray s 0 0 A = QQ
  rw [fn_X9_papersTold] at hf
  refine lv_iconst (v := (0 : Int32)) hx hb dX9_papersTold_0 (by decide) ?_
  refine lv_istore_n (lv' := [(3, .int (0 : Int32)), (0, .ref a0), (1, .ref a1), (2, .int x2)]) hx hb dX9_papersTold_1 rfl hl (by decide) rfl (fun ls hl => ?_)
  refine lv_iconst (v := (0 : Int32)) hx hb dX9_papersTold_2 (by decide) ?_
  refine lv_istore (lv' := [(4, .int (0 : Int32)), (3, .int (0 : Int32)), (0, .ref a0), (1, .ref a1), (2, .int x2)]) hx hb dX9_papersTold_3 hl (by decide) rfl (fun ls hl => ?_)
  have lp5_7 : ∀ (n : Nat) (v1 : Int32) (v2 : Int32) (H : Heap) (locs : List Loc) (ls : Array Slot) (r3 : Int32), mm_W D cs A L K N s.heap I P H locs → lv_has ls 5 [(0, .ref a0), (1, .ref a1), (2, .int x2), (3, .int v1), (4, .int v2)] → fn_X9_papersTold_L5 K N a0 a1 x2 I P n v1 v2 = some r3 → (∀ (H : Heap) (locs : List Loc) (ls : Array Slot), mm_W D cs A L K N s.heap I P H locs → lv_has ls 5 [(3, .int r3)] → W p l e (headSpec wz_X9_papersTold rm_X9_papersTold).room s m ([.ref a0, .ref a1, .int x2] : List Value).toArray below meth c H locs 0 0 QQ (F0 m 35 ls [])) → W p l e (headSpec wz_X9_papersTold rm_X9_papersTold).room s m ([.ref a0, .ref a1, .int x2] : List Value).toArray below meth c H locs 0 0 QQ (F0 m 5 ls []) := by
    intro n
    induction n with
    | zero => intro v1 v2 H locs ls r3 hM hl hf kk; exact nn_x (show (none : Option (Int32)) = some r3 from hf)
    | succ n ih =>
      intro v1 v2 H locs ls r3 hM hl hf kk
      rw [fn_X9_papersTold_L5] at hf
      refine lv_iload hx hb dX9_papersTold_5 (lv_at hl 4 rfl) ?_
      refine lv_sipush (v := (255 : Int32)) hx hb dX9_papersTold_7 (by decide) ?_
      refine lv_icmp_gt (tgt := 35) hx hb dX9_papersTold_10 (by decide) (fun hc4 => ?_) (fun hc4 => ?_)
      · have hf := it_p hf hc4
        obtain rfl := Option.some.inj hf
        exact kk _ _ _ hM (lv_sub hl [3] rfl)
      · have hf := it_n hf hc4
        refine lv_aload_n hx hb dX9_papersTold_13 rfl (lv_at hl 0 rfl) ?_
        refine lv_aload_n hx hb dX9_papersTold_14 rfl (lv_at hl 1 rfl) ?_
        refine lv_iload_n hx hb dX9_papersTold_15 rfl (lv_at hl 2 rfl) ?_
        refine lv_iload hx hb dX9_papersTold_16 (lv_at hl 4 rfl) ?_
        refine lv_iconst (v := (-1 : Int32)) hx hb dX9_papersTold_18 (by decide) ?_
        refine bd_e hf (fun r5 er5 hf => ?_)
        refine gd_e hf (fun hg6 hf => ?_)
        refine ev_calli (va_runV (As := [.ref a1, .int x2, .int v2, .int (-1 : Int32)]) (rest := []) S (c_X9_firstOtherwise (l := l) I P a0 a1 x2 v2 (-1 : Int32) r5 er5) (cwV 4 hts (gi_v wa_4_62 wa_4_64 wa_s_23 wa_1_1 wa_4_65) rfl rfl rfl (by decide +kernel) ⟨Nat.le_of_ble_eq_true rfl, Nat.le_of_ble_eq_true rfl⟩) ⟨mm_B_blind, ev_recv hK hM (ci := 9) rfl hg6 rfl, fun U hU hW => ⟨rfl, mm_B_of hK hZ hM hU hW⟩⟩ rfl rfl hl.1 rfl (lv_room (Nat.le_of_ble_eq_true rfl)) dX9_papersTold_19 ⟨Nat.zero_le _, Nat.zero_le _⟩) hM (fun H locs hM => ?_)
        refine lv_iconst (v := (-1 : Int32)) hx hb dX9_papersTold_22 (by decide) ?_
        refine lv_icmp_ne (tgt := 29) hx hb dX9_papersTold_23 (by decide) (fun hc7 => ?_) (fun hc7 => ?_)
        · have hf := it_n hf hc7
          refine lv_iinc (v := (v2 + (1 : Int32))) (lv' := [(4, .int (v2 + (1 : Int32))), (0, .ref a0), (1, .ref a1), (2, .int x2), (3, .int v1)]) hx hb dX9_papersTold_29 hl (k := 4) rfl rfl (by decide) rfl (fun ls hl => ?_)
          refine lv_goto (tgt := 5) hx hb dX9_papersTold_32 (by decide) ?_
          exact ih v1 (v2 + (1 : Int32)) _ _ _ _ hM (lv_sub hl [1, 2, 3, 4, 0] rfl) hf kk
        · have hf := it_p hf hc7
          refine lv_iinc (v := (v1 + (1 : Int32))) (lv' := [(3, .int (v1 + (1 : Int32))), (0, .ref a0), (1, .ref a1), (2, .int x2), (4, .int v2)]) hx hb dX9_papersTold_26 hl (k := 3) rfl rfl (by decide) rfl (fun ls hl => ?_)
          refine lv_iinc (v := (v2 + (1 : Int32))) (lv' := [(4, .int (v2 + (1 : Int32))), (3, .int (v1 + (1 : Int32))), (0, .ref a0), (1, .ref a1), (2, .int x2)]) hx hb dX9_papersTold_29 hl (k := 4) rfl rfl (by decide) rfl (fun ls hl => ?_)
          refine lv_goto (tgt := 5) hx hb dX9_papersTold_32 (by decide) ?_
          exact ih (v1 + (1 : Int32)) (v2 + (1 : Int32)) _ _ _ _ hM (lv_sub hl [2, 3, 4, 1, 0] rfl) hf kk
  refine bd_e hf (fun r3 er3 hf => ?_)
  refine lp5_7 FU (0 : Int32) (0 : Int32) _ _ _ r3 hM (lv_sub hl [2, 3, 4, 1, 0] rfl) er3 (fun H locs ls hM hl => ?_)
  refine lv_iload_n hx hb dX9_papersTold_35 rfl (lv_at hl 0 rfl) ?_
  obtain rfl := Option.some.inj hf
  subst hQ
  exact ev_iret S hr hlocks hK hZ hM dX9_papersTold_36
noncomputable def fn_X9_modesTold_L22 (K : Nat → Nat) (N : Nat → Nat) (a0 : Nat) (a1 : Nat) (x2 : Int32) (x3 : Int32) (P : Nat → Nat → Option Nat) (q2 : Nat) (q3 : Nat) : Nat → Int32 → Int32 → (Nat → Nat → Int32) → Option (Int32 × (Nat → Nat → Int32))
  | 0, _, _, _ => none
  | n + 1, v10, v11, I12 => if (6 : Int32) ≤ v11 then (some (v10, I12)) else (Option.bind (some (up2 I12 q2 2 v11)) (fun I15 => Option.bind (fn_X9_firstOtherwise K N I15 P a0 a1 x2 (I15 q3 2) x3) (fun (r16 : Int32) => if r16 = (-1 : Int32) then (Option.bind (some (v10 ||| ((1 : Int32) <<< (v11 &&& 31)))) (fun v18 => fn_X9_modesTold_L22 K N a0 a1 x2 x3 P q2 q3 n v18 (v11 + (1 : Int32)) I15)) else (fn_X9_modesTold_L22 K N a0 a1 x2 x3 P q2 q3 n v10 (v11 + (1 : Int32)) I15))))
noncomputable def fn_X9_modesTold (K N : Nat → Nat) (I : Nat → Nat → Int32) (P : Nat → Nat → Option Nat) (a0 : Nat) (a1 : Nat) (x2 : Int32) (x3 : Int32) : Option (Int32 × (Nat → Nat → Int32)) := gd (K a0 = 10) (Option.bind (P a0 (6)) (fun q2 => Option.bind (P a0 (0)) (fun q3 => gd (K q3 = 7) (Option.bind (P q3 (0)) (fun q5 => gd (K q5 = 15 ∧ vp_in x3 (N q5)) (Option.bind (P q5 (x3.toNatClampNeg)) (fun q7 => Option.bind (fn_X4_become K N I P q2 q7) (fun (r8 : (Nat → Nat → Int32)) => gd (K q2 = 5) (Option.bind (fn_X9_modesTold_L22 K N a0 a1 x2 x3 P q2 q3 FU (0 : Int32) (0 : Int32) r8) (fun (r13 : Int32 × (Nat → Nat → Int32)) => some (r13.1, r13.2)))))))))))
abbrev wz_X9_modesTold : List Cond := Cond.code yX9_modesTold cX9_modesTold 6 (some .int) :: WA
abbrev rm_X9_modesTold : Room := { frames := 6, cells := 0, slots := 0, locals := 130 }
set_option maxHeartbeats 4000000 in
set_option maxRecDepth 100000 in
theorem c_X9_modesTold (I : Nat → Nat → Int32) (P : Nat → Nat → Option Nat) (a0 : Nat) (a1 : Nat) (x2 : Int32) (x3 : Int32) (res : Int32 × (Nat → Nat → Int32)) (hf : fn_X9_modesTold K N I P a0 a1 x2 x3 = some res) : Met l yX9_modesTold wz_X9_modesTold rm_X9_modesTold (va_Pc [.ref a0, .ref a1, .int x2, .int x3] (mm_B D cs A L K N z w I P)) (va_Qi (fun r (_ : Unit) => r = res.1) (fun _ => mm_B D cs A L K N z w res.2 P) A) 0 0 A := by
  refine Met.ofW (cc := cX9_modesTold) (maxL := 6) (ret := (some .int)) (by decide) rfl ?_
  intro p e s m args below meth c s₁ B hml hv
  obtain ⟨rfl, hBm⟩ := hv
  have hx := B.exec
  have hb := B.bytes
  have hr := B.returns
  have hts := atoms_spec (ws := wz_X9_modesTold) B.pre
  have hWA : ∀ w ∈ WA, w.before ([.ref a0, .ref a1, .int x2, .int x3] : List Value).toArray s = true := fun u9 h9 => hts u9 (List.mem_cons_of_mem _ h9)
  have hown : s.vm.findClass RX9 = some m.cls := findClass_of_methodNamed B.named
  have hlocks := B.notSynchronized
  have S : CallFix p m c cX9_modesTold 6 s ([.ref a0, .ref a1, .int x2, .int x3] : List Value).toArray wz_X9_modesTold RX9 := ⟨hx, hb, hml, hown, hts⟩
  have hK := hBm.2.2.2.1
  have hZ := hBm.2.2.2.2
  have hM : mm_W D cs A L K N s.heap I P s.heap [] := ⟨hBm.1, hBm.2.1, hBm.2.2.1, va_S.rf⟩
  have hl := lv_entry ([.ref a0, .ref a1, .int x2, .int x3]) (n := 6) (Nat.le_of_ble_eq_true rfl)
  rw [lg_entry_eq]
  generalize (lg_sl ([.ref a0, .ref a1, .int x2, .int x3]) ++ List.replicate (6 - (lg_sl ([.ref a0, .ref a1, .int x2, .int x3])).length) Slot.unset).toArray = ls at hl ⊢
  have hl : lv_has ls 6 [(0, .ref a0), (1, .ref a1), (2, .int x2), (3, .int x3)] := hl
  have hin9 : ∀ w ∈ wsX90, w ∈ wz_X9_modesTold := fun w h => List.mem_cons_of_mem _ (wu_X9 w h)
  have hin6 : ∀ w ∈ wsX60, w ∈ wz_X9_modesTold := fun w h => List.mem_cons_of_mem _ (wu_X6 w h)
  have hin4 : ∀ w ∈ wsX40, w ∈ wz_X9_modesTold := fun w h => List.mem_cons_of_mem _ (wu_X4 w h)
  have lk47 : (Cond.fieldLink RX9 47 RX9 "thought" "LRasterPainter$Layer;").before ([.ref a0, .ref a1, .int x2, .int x3] : List Value).toArray s = true := hWA _ wa_2_21
  have lk10 : (Cond.fieldLink RX9 10 RX9 "picture" "LRasterPainter$Picture;").before ([.ref a0, .ref a1, .int x2, .int x3] : List Value).toArray s = true := hWA _ wa_2_15
  have lk83 : (Cond.fieldLink RX9 83 RX6 "layers" "[LRasterPainter$Layer;").before ([.ref a0, .ref a1, .int x2, .int x3] : List Value).toArray s = true := hWA _ wa_1_152
  have lk94 : (Cond.fieldLink RX9 94 RX4 "mode" "I").before ([.ref a0, .ref a1, .int x2, .int x3] : List Value).toArray s = true := hWA _ wa_1_135
  have lk255 : (Cond.fieldLink RX9 255 RX6 "paper" "I").before ([.ref a0, .ref a1, .int x2, .int x3] : List Value).toArray s = true := hWA _ wa_1_156
  generalize hQ : MQ below (va_Qi (fun r (_ : Unit) => r = res.1) (fun _ => mm_B D cs A L K N z w res.2 P) A) ([.ref a0, .ref a1, .int x2, .int x3] : List Value).toArray s 0 0 A = QQ
  rw [fn_X9_modesTold] at hf
  refine lv_aload_n hx hb dX9_modesTold_0 rfl (lv_at hl 0 rfl) ?_
  refine gd_e hf (fun hg1 hf => ?_)
  refine bd_e hf (fun q2 eq2 hf => ?_)
  refine ev_getP (v := q2) S hK hM (ci := 9) (n := 8) (C := RX9) (T := TX9) hin9 rfl hg1 6 (by decide) lk47 rfl rfl eq2 rfl dX9_modesTold_1 ?_
  refine lv_aload_n hx hb dX9_modesTold_4 rfl (lv_at hl 0 rfl) ?_
  refine bd_e hf (fun q3 eq3 hf => ?_)
  refine ev_getP (v := q3) S hK hM (ci := 9) (n := 8) (C := RX9) (T := TX9) hin9 rfl hg1 0 (by decide) lk10 rfl rfl eq3 rfl dX9_modesTold_5 ?_
  refine gd_e hf (fun hg4 hf => ?_)
  refine bd_e hf (fun q5 eq5 hf => ?_)
  refine ev_getP (v := q5) S hK hM (ci := 6) (n := 6) (C := RX6) (T := TX6) hin6 rfl hg4 0 (by decide) lk83 rfl rfl eq5 rfl dX9_modesTold_8 ?_
  refine lv_iload_n hx hb dX9_modesTold_11 rfl (lv_at hl 3 rfl) ?_
  refine gd_e hf (fun hg6 hf => ?_)
  refine bd_e hf (fun q7 eq7 hf => ?_)
  refine ev_aald15 S hK hM hg6 (j := x3.toNatClampNeg) rfl eq7 dX9_modesTold_12 ?_
  refine bd_e hf (fun r8 er8 hf => ?_)
  refine gd_e hf (fun hg9 hf => ?_)
  refine ev_callv (va_runV (As := [.ref q7]) (rest := []) S (c_X4_become (l := l) I P q2 q7 r8 er8) (cwV 1 hts (gi_v wa_4_29 wa_4_30 wa_4_31 wa_1_7 wa_4_32) rfl rfl rfl (by decide +kernel) ⟨Nat.le_of_ble_eq_true rfl, Nat.le_of_ble_eq_true rfl⟩) ⟨mm_B_blind, ev_recv hK hM (ci := 4) rfl hg9 rfl, fun U hU hW => ⟨rfl, mm_B_of hK hZ hM hU hW⟩⟩ rfl rfl hl.1 rfl (lv_room (Nat.le_of_ble_eq_true rfl)) dX9_modesTold_13 ⟨Nat.zero_le _, Nat.zero_le _⟩) hM (fun H locs hM => ?_)
  refine lv_iconst (v := (0 : Int32)) hx hb dX9_modesTold_16 (by decide) ?_
  refine lv_istore (lv' := [(4, .int (0 : Int32)), (0, .ref a0), (1, .ref a1), (2, .int x2), (3, .int x3)]) hx hb dX9_modesTold_17 hl (by decide) rfl (fun ls hl => ?_)
  refine lv_iconst (v := (0 : Int32)) hx hb dX9_modesTold_19 (by decide) ?_
  refine lv_istore (lv' := [(5, .int (0 : Int32)), (4, .int (0 : Int32)), (0, .ref a0), (1, .ref a1), (2, .int x2), (3, .int x3)]) hx hb dX9_modesTold_20 hl (by decide) rfl (fun ls hl => ?_)
  have lp22_18 : ∀ (n : Nat) (v10 : Int32) (v11 : Int32) (I12 : Nat → Nat → Int32) (H : Heap) (locs : List Loc) (ls : Array Slot) (r13 : Int32 × (Nat → Nat → Int32)), mm_W D cs A L K N s.heap I12 P H locs → lv_has ls 6 [(0, .ref a0), (1, .ref a1), (2, .int x2), (3, .int x3), (4, .int v10), (5, .int v11)] → fn_X9_modesTold_L22 K N a0 a1 x2 x3 P q2 q3 n v10 v11 I12 = some r13 → (∀ (H : Heap) (locs : List Loc) (ls : Array Slot), mm_W D cs A L K N s.heap r13.2 P H locs → lv_has ls 6 [(4, .int r13.1)] → W p l e (headSpec wz_X9_modesTold rm_X9_modesTold).room s m ([.ref a0, .ref a1, .int x2, .int x3] : List Value).toArray below meth c H locs 0 0 QQ (F0 m 71 ls [])) → W p l e (headSpec wz_X9_modesTold rm_X9_modesTold).room s m ([.ref a0, .ref a1, .int x2, .int x3] : List Value).toArray below meth c H locs 0 0 QQ (F0 m 22 ls []) := by
    intro n
    induction n with
    | zero => intro v10 v11 I12 H locs ls r13 hM hl hf kk; exact nn_x (show (none : Option (Int32 × (Nat → Nat → Int32))) = some r13 from hf)
    | succ n ih =>
      intro v10 v11 I12 H locs ls r13 hM hl hf kk
      rw [fn_X9_modesTold_L22] at hf
      refine lv_iload hx hb dX9_modesTold_22 (lv_at hl 5 rfl) ?_
      refine lv_bipush (v := (6 : Int32)) hx hb dX9_modesTold_24 (by decide) ?_
      refine lv_icmp_ge (tgt := 71) hx hb dX9_modesTold_26 (by decide) (fun hc14 => ?_) (fun hc14 => ?_)
      · have hf := it_p hf hc14
        obtain rfl := Option.some.inj hf
        exact kk _ _ _ hM (lv_sub hl [4] rfl)
      · have hf := it_n hf hc14
        refine lv_aload_n hx hb dX9_modesTold_29 rfl (lv_at hl 0 rfl) ?_
        refine ev_getP (v := q2) S hK hM (ci := 9) (n := 8) (C := RX9) (T := TX9) hin9 rfl hg1 6 (by decide) lk47 rfl rfl eq2 rfl dX9_modesTold_30 ?_
        refine lv_iload hx hb dX9_modesTold_33 (lv_at hl 5 rfl) ?_
        refine ev_put S hK hM (ci := 4) (n := 5) (C := RX4) (T := TX4) hin4 tyX4 tyX4_ok nmX4 rfl hg9 2 (by decide) lk94 rfl rfl rfl rfl rfl (Nat.le_of_ble_eq_true rfl) rfl dX9_modesTold_35 (fun I15 eI15 H locs hM => ?_)
        have hf := nm_x eI15 hf
        refine lv_aload_n hx hb dX9_modesTold_38 rfl (lv_at hl 0 rfl) ?_
        refine lv_aload_n hx hb dX9_modesTold_39 rfl (lv_at hl 1 rfl) ?_
        refine lv_iload_n hx hb dX9_modesTold_40 rfl (lv_at hl 2 rfl) ?_
        refine lv_aload_n hx hb dX9_modesTold_41 rfl (lv_at hl 0 rfl) ?_
        refine ev_getP (v := q3) S hK hM (ci := 9) (n := 8) (C := RX9) (T := TX9) hin9 rfl hg1 0 (by decide) lk10 rfl rfl eq3 rfl dX9_modesTold_42 ?_
        refine ev_get (v := .int (I15 q3 2)) S hK hM (ci := 6) (n := 6) (C := RX6) (T := TX6) hin6 rfl hg4 2 (by decide) lk255 rfl rfl rfl dX9_modesTold_45 ?_
        refine lv_iload_n hx hb dX9_modesTold_48 rfl (lv_at hl 3 rfl) ?_
        refine bd_e hf (fun r16 er16 hf => ?_)
        refine ev_calli (va_runV (As := [.ref a1, .int x2, .int (I15 q3 2), .int x3]) (rest := []) S (c_X9_firstOtherwise (l := l) I15 P a0 a1 x2 (I15 q3 2) x3 r16 er16) (cwV 4 hts (gi_v wa_4_62 wa_4_64 wa_s_23 wa_1_1 wa_4_65) rfl rfl rfl (by decide +kernel) ⟨Nat.le_of_ble_eq_true rfl, Nat.le_of_ble_eq_true rfl⟩) ⟨mm_B_blind, ev_recv hK hM (ci := 9) rfl hg1 rfl, fun U hU hW => ⟨rfl, mm_B_of hK hZ hM hU hW⟩⟩ rfl rfl hl.1 rfl (lv_room (Nat.le_of_ble_eq_true rfl)) dX9_modesTold_49 ⟨Nat.zero_le _, Nat.zero_le _⟩) hM (fun H locs hM => ?_)
        refine lv_iconst (v := (-1 : Int32)) hx hb dX9_modesTold_52 (by decide) ?_
        refine lv_icmp_ne (tgt := 65) hx hb dX9_modesTold_53 (by decide) (fun hc17 => ?_) (fun hc17 => ?_)
        · have hf := it_n hf hc17
          refine lv_iinc (v := (v11 + (1 : Int32))) (lv' := [(5, .int (v11 + (1 : Int32))), (0, .ref a0), (1, .ref a1), (2, .int x2), (3, .int x3), (4, .int v10)]) hx hb dX9_modesTold_65 hl (k := 5) rfl rfl (by decide) rfl (fun ls hl => ?_)
          refine lv_goto (tgt := 22) hx hb dX9_modesTold_68 (by decide) ?_
          exact ih v10 (v11 + (1 : Int32)) I15 _ _ _ _ hM (lv_sub hl [1, 2, 3, 4, 5, 0] rfl) hf kk
        · have hf := it_p hf hc17
          refine lv_iload hx hb dX9_modesTold_56 (lv_at hl 4 rfl) ?_
          refine lv_iconst (v := (1 : Int32)) hx hb dX9_modesTold_58 (by decide) ?_
          refine lv_iload hx hb dX9_modesTold_59 (lv_at hl 5 rfl) ?_
          refine lv_ishl hx hb dX9_modesTold_61 ?_
          refine lv_ior hx hb dX9_modesTold_62 ?_
          refine lv_topi (fun v18 ev18 => ?_)
          have hf := nm_x ev18 hf
          refine lv_istore (lv' := [(4, .int v18), (0, .ref a0), (1, .ref a1), (2, .int x2), (3, .int x3), (5, .int v11)]) hx hb dX9_modesTold_63 hl (by decide) rfl (fun ls hl => ?_)
          refine lv_iinc (v := (v11 + (1 : Int32))) (lv' := [(5, .int (v11 + (1 : Int32))), (4, .int v18), (0, .ref a0), (1, .ref a1), (2, .int x2), (3, .int x3)]) hx hb dX9_modesTold_65 hl (k := 5) rfl rfl (by decide) rfl (fun ls hl => ?_)
          refine lv_goto (tgt := 22) hx hb dX9_modesTold_68 (by decide) ?_
          exact ih v18 (v11 + (1 : Int32)) I15 _ _ _ _ hM (lv_sub hl [2, 3, 4, 5, 1, 0] rfl) hf kk
  refine bd_e hf (fun r13 er13 hf => ?_)
  refine lp22_18 FU (0 : Int32) (0 : Int32) r8 _ _ _ r13 hM (lv_sub hl [2, 3, 4, 5, 1, 0] rfl) er13 (fun H locs ls hM hl => ?_)
  refine lv_iload hx hb dX9_modesTold_71 (lv_at hl 0 rfl) ?_
  obtain rfl := Option.some.inj hf
  subst hQ
  exact ev_iret S hr hlocks hK hZ hM dX9_modesTold_73
noncomputable def fn_X9_tells (K N : Nat → Nat) (I : Nat → Nat → Int32) (P : Nat → Nat → Option Nat) (a0 : Nat) (x1 : Int32) (x2 : Int32) (x3 : Int32) : Option (Int32 × (Nat → Nat → Int32)) := Option.bind (fn_X9_isSheet x1) (fun (r1 : Int32) => if r1 = 0 then (some ((-2 : Int32), I)) else (Option.bind (fn_X9_isRow x2) (fun (r3 : Int32) => if r3 = 0 then (some ((-2 : Int32), I)) else (gd (K a0 = 10) (Option.bind (P a0 (0)) (fun q6 => gd (K q6 = 7) (Option.bind (fn_X9_isWithin x3 (0 : Int32) ((I q6 1) + (1 : Int32))) (fun (r8 : Int32) => if r8 = 0 then (some ((-2 : Int32), I)) else (Option.bind (P a0 (4)) (fun q10 => gd (K q10 = 16 ∧ vp_in x1 (N q10)) (Option.bind (P q10 (x1.toNatClampNeg)) (fun q12 => Option.bind (fn_X7_isMissing K N I P q12) (fun (r13 : Int32) => gd (K q12 = 8) (if r13 = 0 then (if (I q12 1) ≤ (16 : Int32) then (if x3 = 0 then (Option.bind (fn_X9_firstOtherwise K N I P a0 q12 x2 (I q6 2) (-1 : Int32)) (fun (r21 : Int32) => some (r21, I))) else (if x3 = (1 : Int32) then (Option.bind (fn_X9_papersTold K N I P a0 q12 x2) (fun (r20 : Int32) => some (r20, I))) else (Option.bind (fn_X9_modesTold K N I P a0 q12 x2 (x3 - (2 : Int32))) (fun (r19 : Int32 × (Nat → Nat → Int32)) => some (r19.1, r19.2))))) else (some ((-2 : Int32), I))) else (some ((-11 : Int32), I))))))))))))))))
abbrev wz_X9_tells : List Cond := Cond.code yX9_tells cX9_tells 5 (some .int) :: WA
abbrev rm_X9_tells : Room := { frames := 7, cells := 0, slots := 0, locals := 155 }
set_option maxHeartbeats 4000000 in
set_option maxRecDepth 100000 in
theorem c_X9_tells (I : Nat → Nat → Int32) (P : Nat → Nat → Option Nat) (a0 : Nat) (x1 : Int32) (x2 : Int32) (x3 : Int32) (res : Int32 × (Nat → Nat → Int32)) (hf : fn_X9_tells K N I P a0 x1 x2 x3 = some res) : Met l yX9_tells wz_X9_tells rm_X9_tells (va_Pc [.ref a0, .int x1, .int x2, .int x3] (mm_B D cs A L K N z w I P)) (va_Qi (fun r (_ : Unit) => r = res.1) (fun _ => mm_B D cs A L K N z w res.2 P) A) 0 0 A := by
  refine Met.ofW (cc := cX9_tells) (maxL := 5) (ret := (some .int)) (by decide) rfl ?_
  intro p e s m args below meth c s₁ B hml hv
  obtain ⟨rfl, hBm⟩ := hv
  have hx := B.exec
  have hb := B.bytes
  have hr := B.returns
  have hts := atoms_spec (ws := wz_X9_tells) B.pre
  have hWA : ∀ w ∈ WA, w.before ([.ref a0, .int x1, .int x2, .int x3] : List Value).toArray s = true := fun u9 h9 => hts u9 (List.mem_cons_of_mem _ h9)
  have hown : s.vm.findClass RX9 = some m.cls := findClass_of_methodNamed B.named
  have hlocks := B.notSynchronized
  have S : CallFix p m c cX9_tells 5 s ([.ref a0, .int x1, .int x2, .int x3] : List Value).toArray wz_X9_tells RX9 := ⟨hx, hb, hml, hown, hts⟩
  have hK := hBm.2.2.2.1
  have hZ := hBm.2.2.2.2
  have hM : mm_W D cs A L K N s.heap I P s.heap [] := ⟨hBm.1, hBm.2.1, hBm.2.2.1, va_S.rf⟩
  have hl := lv_entry ([.ref a0, .int x1, .int x2, .int x3]) (n := 5) (Nat.le_of_ble_eq_true rfl)
  rw [lg_entry_eq]
  generalize (lg_sl ([.ref a0, .int x1, .int x2, .int x3]) ++ List.replicate (5 - (lg_sl ([.ref a0, .int x1, .int x2, .int x3])).length) Slot.unset).toArray = ls at hl ⊢
  have hl : lv_has ls 5 [(0, .ref a0), (1, .int x1), (2, .int x2), (3, .int x3)] := hl
  have hin9 : ∀ w ∈ wsX90, w ∈ wz_X9_tells := fun w h => List.mem_cons_of_mem _ (wu_X9 w h)
  have hin6 : ∀ w ∈ wsX60, w ∈ wz_X9_tells := fun w h => List.mem_cons_of_mem _ (wu_X6 w h)
  have hin7 : ∀ w ∈ wsX70, w ∈ wz_X9_tells := fun w h => List.mem_cons_of_mem _ (wu_X7 w h)
  have lk10 : (Cond.fieldLink RX9 10 RX9 "picture" "LRasterPainter$Picture;").before ([.ref a0, .int x1, .int x2, .int x3] : List Value).toArray s = true := hWA _ wa_2_15
  have lk59 : (Cond.fieldLink RX9 59 RX6 "layerCount" "I").before ([.ref a0, .int x1, .int x2, .int x3] : List Value).toArray s = true := hWA _ wa_1_153
  have lk32 : (Cond.fieldLink RX9 32 RX9 "sheets" "[LRasterPainter$Sheet;").before ([.ref a0, .int x1, .int x2, .int x3] : List Value).toArray s = true := hWA _ wa_2_19
  have lk254 : (Cond.fieldLink RX9 254 RX7 "size" "I").before ([.ref a0, .int x1, .int x2, .int x3] : List Value).toArray s = true := hWA _ wa_1_222
  have lk255 : (Cond.fieldLink RX9 255 RX6 "paper" "I").before ([.ref a0, .int x1, .int x2, .int x3] : List Value).toArray s = true := hWA _ wa_1_156
  generalize hQ : MQ below (va_Qi (fun r (_ : Unit) => r = res.1) (fun _ => mm_B D cs A L K N z w res.2 P) A) ([.ref a0, .int x1, .int x2, .int x3] : List Value).toArray s 0 0 A = QQ
  rw [fn_X9_tells] at hf
  refine lv_iload_n hx hb dX9_tells_0 rfl (lv_at hl 1 rfl) ?_
  refine bd_e hf (fun r1 er1 hf => ?_)
  refine ev_calli (va_runS (As := [.int x1]) (rest := []) S (c_X9_isSheet (l := l) I P x1 r1 er1) (va_cwS 1 hts (gi_s wa_4_55 wa_4_56 wa_1_1 wa_4_57) rfl rfl rfl (by decide +kernel) ⟨Nat.le_of_ble_eq_true rfl, Nat.le_of_ble_eq_true rfl⟩) ⟨mm_B_blind, fun U hU hW => ⟨rfl, mm_B_of hK hZ hM hU hW⟩⟩ rfl rfl hl.1 rfl (lv_room (Nat.le_of_ble_eq_true rfl)) dX9_tells_1 ⟨Nat.zero_le _, Nat.zero_le _⟩) hM (fun H locs hM => ?_)
  refine lv_if_eq (tgt := 31) hx hb dX9_tells_4 (by decide) (fun hc2 => ?_) (fun hc2 => ?_)
  · have hf := it_p hf hc2
    refine lv_bipush (v := (-2 : Int32)) hx hb dX9_tells_31 (by decide) ?_
    obtain rfl := Option.some.inj hf
    subst hQ
    exact ev_iret S hr hlocks hK hZ hM dX9_tells_33
  · have hf := it_n hf hc2
    refine lv_iload_n hx hb dX9_tells_7 rfl (lv_at hl 2 rfl) ?_
    refine bd_e hf (fun r3 er3 hf => ?_)
    refine ev_calli (va_runS (As := [.int x2]) (rest := []) S (c_X9_isRow (l := l) I P x2 r3 er3) (va_cwS 1 hts (gi_s wa_2_145 wa_2_146 wa_1_1 wa_2_147) rfl rfl rfl (by decide +kernel) ⟨Nat.le_of_ble_eq_true rfl, Nat.le_of_ble_eq_true rfl⟩) ⟨mm_B_blind, fun U hU hW => ⟨rfl, mm_B_of hK hZ hM hU hW⟩⟩ rfl rfl hl.1 rfl (lv_room (Nat.le_of_ble_eq_true rfl)) dX9_tells_8 ⟨Nat.zero_le _, Nat.zero_le _⟩) hM (fun H locs hM => ?_)
    refine lv_if_eq (tgt := 31) hx hb dX9_tells_11 (by decide) (fun hc4 => ?_) (fun hc4 => ?_)
    · have hf := it_p hf hc4
      refine lv_bipush (v := (-2 : Int32)) hx hb dX9_tells_31 (by decide) ?_
      obtain rfl := Option.some.inj hf
      subst hQ
      exact ev_iret S hr hlocks hK hZ hM dX9_tells_33
    · have hf := it_n hf hc4
      refine lv_iload_n hx hb dX9_tells_14 rfl (lv_at hl 3 rfl) ?_
      refine lv_iconst (v := (0 : Int32)) hx hb dX9_tells_15 (by decide) ?_
      refine lv_aload_n hx hb dX9_tells_16 rfl (lv_at hl 0 rfl) ?_
      refine gd_e hf (fun hg5 hf => ?_)
      refine bd_e hf (fun q6 eq6 hf => ?_)
      refine ev_getP (v := q6) S hK hM (ci := 9) (n := 8) (C := RX9) (T := TX9) hin9 rfl hg5 0 (by decide) lk10 rfl rfl eq6 rfl dX9_tells_17 ?_
      refine gd_e hf (fun hg7 hf => ?_)
      refine ev_get (v := .int (I q6 1)) S hK hM (ci := 6) (n := 6) (C := RX6) (T := TX6) hin6 rfl hg7 1 (by decide) lk59 rfl rfl rfl dX9_tells_20 ?_
      refine lv_iconst (v := (1 : Int32)) hx hb dX9_tells_23 (by decide) ?_
      refine lv_iadd hx hb dX9_tells_24 ?_
      refine bd_e hf (fun r8 er8 hf => ?_)
      refine ev_calli (va_runS (As := [.int x3, .int (0 : Int32), .int ((I q6 1) + (1 : Int32))]) (rest := []) S (c_X9_isWithin (l := l) I P x3 (0 : Int32) ((I q6 1) + (1 : Int32)) r8 er8) (va_cwS 3 hts (gi_s wa_2_47 wa_2_48 wa_1_1 wa_2_49) rfl rfl rfl (by decide +kernel) ⟨Nat.le_of_ble_eq_true rfl, Nat.le_of_ble_eq_true rfl⟩) ⟨mm_B_blind, fun U hU hW => ⟨rfl, mm_B_of hK hZ hM hU hW⟩⟩ rfl rfl hl.1 rfl (lv_room (Nat.le_of_ble_eq_true rfl)) dX9_tells_25 ⟨Nat.zero_le _, Nat.zero_le _⟩) hM (fun H locs hM => ?_)
      refine lv_if_ne (tgt := 34) hx hb dX9_tells_28 (by decide) (fun hc9 => ?_) (fun hc9 => ?_)
      · have hf := it_n hf hc9
        refine lv_aload_n hx hb dX9_tells_34 rfl (lv_at hl 0 rfl) ?_
        refine bd_e hf (fun q10 eq10 hf => ?_)
        refine ev_getP (v := q10) S hK hM (ci := 9) (n := 8) (C := RX9) (T := TX9) hin9 rfl hg5 4 (by decide) lk32 rfl rfl eq10 rfl dX9_tells_35 ?_
        refine lv_iload_n hx hb dX9_tells_38 rfl (lv_at hl 1 rfl) ?_
        refine gd_e hf (fun hg11 hf => ?_)
        refine bd_e hf (fun q12 eq12 hf => ?_)
        refine ev_aald16 S hK hM hg11 (j := x1.toNatClampNeg) rfl eq12 dX9_tells_39 ?_
        refine lv_astore (lv' := [(4, .ref q12), (0, .ref a0), (1, .int x1), (2, .int x2), (3, .int x3)]) hx hb dX9_tells_40 hl (by decide) rfl (fun ls hl => ?_)
        refine lv_aload hx hb dX9_tells_42 (lv_at hl 0 rfl) ?_
        refine bd_e hf (fun r13 er13 hf => ?_)
        refine gd_e hf (fun hg14 hf => ?_)
        refine ev_calli (va_runV (As := []) (rest := []) S (c_X7_isMissing (l := l) I P q12 r13 er13) (cwV 0 hts (gi_v wa_4_58 wa_4_59 wa_4_60 wa_1_9 wa_4_61) rfl rfl rfl (by decide +kernel) ⟨Nat.le_of_ble_eq_true rfl, Nat.le_of_ble_eq_true rfl⟩) ⟨mm_B_blind, ev_recv hK hM (ci := 7) rfl hg14 rfl, fun U hU hW => ⟨rfl, mm_B_of hK hZ hM hU hW⟩⟩ rfl rfl hl.1 rfl (lv_room (Nat.le_of_ble_eq_true rfl)) dX9_tells_44 ⟨Nat.zero_le _, Nat.zero_le _⟩) hM (fun H locs hM => ?_)
        refine lv_if_eq (tgt := 53) hx hb dX9_tells_47 (by decide) (fun hc15 => ?_) (fun hc15 => ?_)
        · have hf := it_p hf hc15
          refine lv_aload hx hb dX9_tells_53 (lv_at hl 0 rfl) ?_
          refine ev_get (v := .int (I q12 1)) S hK hM (ci := 7) (n := 3) (C := RX7) (T := TX7) hin7 rfl hg14 1 (by decide) lk254 rfl rfl rfl dX9_tells_55 ?_
          refine lv_bipush (v := (16 : Int32)) hx hb dX9_tells_58 (by decide) ?_
          refine lv_icmp_le (tgt := 66) hx hb dX9_tells_60 (by decide) (fun hc16 => ?_) (fun hc16 => ?_)
          · have hf := it_p hf hc16
            refine lv_iload_n hx hb dX9_tells_66 rfl (lv_at hl 4 rfl) ?_
            refine lv_if_ne (tgt := 86) hx hb dX9_tells_67 (by decide) (fun hc17 => ?_) (fun hc17 => ?_)
            · have hf := it_n hf hc17
              refine lv_iload_n hx hb dX9_tells_86 rfl (lv_at hl 4 rfl) ?_
              refine lv_iconst (v := (1 : Int32)) hx hb dX9_tells_87 (by decide) ?_
              refine lv_icmp_ne (tgt := 101) hx hb dX9_tells_88 (by decide) (fun hc18 => ?_) (fun hc18 => ?_)
              · have hf := it_n hf hc18
                refine lv_aload_n hx hb dX9_tells_101 rfl (lv_at hl 1 rfl) ?_
                refine lv_aload hx hb dX9_tells_102 (lv_at hl 0 rfl) ?_
                refine lv_iload_n hx hb dX9_tells_104 rfl (lv_at hl 3 rfl) ?_
                refine lv_iload_n hx hb dX9_tells_105 rfl (lv_at hl 4 rfl) ?_
                refine lv_iconst (v := (2 : Int32)) hx hb dX9_tells_106 (by decide) ?_
                refine lv_isub hx hb dX9_tells_107 ?_
                refine bd_e hf (fun r19 er19 hf => ?_)
                refine ev_calli (va_runV (As := [.ref q12, .int x2, .int (x3 - (2 : Int32))]) (rest := []) S (c_X9_modesTold (l := l) I P a0 q12 x2 (x3 - (2 : Int32)) r19 er19) (cwV 3 hts (gi_v wa_4_70 wa_4_72 wa_s_25 wa_1_1 wa_4_73) rfl rfl rfl (by decide +kernel) ⟨Nat.le_of_ble_eq_true rfl, Nat.le_of_ble_eq_true rfl⟩) ⟨mm_B_blind, ev_recv hK hM (ci := 9) rfl hg5 rfl, fun U hU hW => ⟨rfl, mm_B_of hK hZ hM hU hW⟩⟩ rfl rfl hl.1 rfl (lv_room (Nat.le_of_ble_eq_true rfl)) dX9_tells_108 ⟨Nat.zero_le _, Nat.zero_le _⟩) hM (fun H locs hM => ?_)
                obtain rfl := Option.some.inj hf
                subst hQ
                exact ev_iret S hr hlocks hK hZ hM dX9_tells_111
              · have hf := it_p hf hc18
                refine lv_aload_n hx hb dX9_tells_91 rfl (lv_at hl 1 rfl) ?_
                refine lv_aload hx hb dX9_tells_92 (lv_at hl 0 rfl) ?_
                refine lv_iload_n hx hb dX9_tells_94 rfl (lv_at hl 3 rfl) ?_
                refine bd_e hf (fun r20 er20 hf => ?_)
                refine ev_calli (va_runV (As := [.ref q12, .int x2]) (rest := []) S (c_X9_papersTold (l := l) I P a0 q12 x2 r20 er20) (cwV 2 hts (gi_v wa_4_66 wa_4_68 wa_s_24 wa_1_1 wa_4_69) rfl rfl rfl (by decide +kernel) ⟨Nat.le_of_ble_eq_true rfl, Nat.le_of_ble_eq_true rfl⟩) ⟨mm_B_blind, ev_recv hK hM (ci := 9) rfl hg5 rfl, fun U hU hW => ⟨rfl, mm_B_of hK hZ hM hU hW⟩⟩ rfl rfl hl.1 rfl (lv_room (Nat.le_of_ble_eq_true rfl)) dX9_tells_95 ⟨Nat.zero_le _, Nat.zero_le _⟩) hM (fun H locs hM => ?_)
                refine lv_goto (tgt := 111) hx hb dX9_tells_98 (by decide) ?_
                obtain rfl := Option.some.inj hf
                subst hQ
                exact ev_iret S hr hlocks hK hZ hM dX9_tells_111
            · have hf := it_p hf hc17
              refine lv_aload_n hx hb dX9_tells_70 rfl (lv_at hl 1 rfl) ?_
              refine lv_aload hx hb dX9_tells_71 (lv_at hl 0 rfl) ?_
              refine lv_iload_n hx hb dX9_tells_73 rfl (lv_at hl 3 rfl) ?_
              refine lv_aload_n hx hb dX9_tells_74 rfl (lv_at hl 1 rfl) ?_
              refine ev_getP (v := q6) S hK hM (ci := 9) (n := 8) (C := RX9) (T := TX9) hin9 rfl hg5 0 (by decide) lk10 rfl rfl eq6 rfl dX9_tells_75 ?_
              refine ev_get (v := .int (I q6 2)) S hK hM (ci := 6) (n := 6) (C := RX6) (T := TX6) hin6 rfl hg7 2 (by decide) lk255 rfl rfl rfl dX9_tells_78 ?_
              refine lv_iconst (v := (-1 : Int32)) hx hb dX9_tells_81 (by decide) ?_
              refine bd_e hf (fun r21 er21 hf => ?_)
              refine ev_calli (va_runV (As := [.ref q12, .int x2, .int (I q6 2), .int (-1 : Int32)]) (rest := []) S (c_X9_firstOtherwise (l := l) I P a0 q12 x2 (I q6 2) (-1 : Int32) r21 er21) (cwV 4 hts (gi_v wa_4_62 wa_4_64 wa_s_23 wa_1_1 wa_4_65) rfl rfl rfl (by decide +kernel) ⟨Nat.le_of_ble_eq_true rfl, Nat.le_of_ble_eq_true rfl⟩) ⟨mm_B_blind, ev_recv hK hM (ci := 9) rfl hg5 rfl, fun U hU hW => ⟨rfl, mm_B_of hK hZ hM hU hW⟩⟩ rfl rfl hl.1 rfl (lv_room (Nat.le_of_ble_eq_true rfl)) dX9_tells_82 ⟨Nat.zero_le _, Nat.zero_le _⟩) hM (fun H locs hM => ?_)
              obtain rfl := Option.some.inj hf
              subst hQ
              exact ev_iret S hr hlocks hK hZ hM dX9_tells_85
          · have hf := it_n hf hc16
            refine lv_bipush (v := (-2 : Int32)) hx hb dX9_tells_63 (by decide) ?_
            obtain rfl := Option.some.inj hf
            subst hQ
            exact ev_iret S hr hlocks hK hZ hM dX9_tells_65
        · have hf := it_n hf hc15
          refine lv_bipush (v := (-11 : Int32)) hx hb dX9_tells_50 (by decide) ?_
          obtain rfl := Option.some.inj hf
          subst hQ
          exact ev_iret S hr hlocks hK hZ hM dX9_tells_52
      · have hf := it_p hf hc9
        refine lv_bipush (v := (-2 : Int32)) hx hb dX9_tells_31 (by decide) ?_
        obtain rfl := Option.some.inj hf
        subst hQ
        exact ev_iret S hr hlocks hK hZ hM dX9_tells_33
noncomputable def fn_X9_film_L31 (K : Nat → Nat) (N : Nat → Nat) (a0 : Nat) (x2 : Int32) (P : Nat → Nat → Option Nat) (q8 : Nat) : Nat → Int32 → (Nat → Nat → Int32) → Option ((Nat → Nat → Int32))
  | 0, _, _ => none
  | n + 1, v11, I12 => if (16 : Int32) ≤ v11 then (some I12) else (Option.bind (fn_X9_dotAt v11 x2) (fun (r15 : Int32) => Option.bind (fn_X9_seenAt K N I12 P a0 r15) (fun (r16 : Int32) => Option.bind (fn_X7_set K N I12 P q8 v11 r16) (fun (r17 : (Nat → Nat → Int32)) => fn_X9_film_L31 K N a0 x2 P q8 n (v11 + (1 : Int32)) r17))))
noncomputable def fn_X9_film (K N : Nat → Nat) (I : Nat → Nat → Int32) (P : Nat → Nat → Option Nat) (a0 : Nat) (x1 : Int32) (x2 : Int32) : Option (Int32 × (Nat → Nat → Int32)) := Option.bind (fn_X9_isSheet x1) (fun (r1 : Int32) => if r1 = 0 then (some ((-2 : Int32), I)) else (Option.bind (fn_X9_isRow x2) (fun (r3 : Int32) => if r3 = 0 then (some ((-2 : Int32), I)) else (gd (K a0 = 10) (Option.bind (P a0 (4)) (fun q6 => gd (K q6 = 16 ∧ vp_in x1 (N q6)) (Option.bind (P q6 (x1.toNatClampNeg)) (fun q8 => Option.bind (fn_X7_become K N I P q8 (0 : Int32) (16 : Int32)) (fun (r9 : (Nat → Nat → Int32)) => gd (K q8 = 8) (Option.bind (fn_X9_film_L31 K N a0 x2 P q8 FU (0 : Int32) r9) (fun (r13 : (Nat → Nat → Int32)) => some ((16 : Int32), r13))))))))))))
abbrev wz_X9_film : List Cond := Cond.code yX9_film cX9_film 4 (some .int) :: WA
abbrev rm_X9_film : Room := { frames := 6, cells := 0, slots := 0, locals := 126 }
set_option maxHeartbeats 4000000 in
set_option maxRecDepth 100000 in
theorem c_X9_film (I : Nat → Nat → Int32) (P : Nat → Nat → Option Nat) (a0 : Nat) (x1 : Int32) (x2 : Int32) (res : Int32 × (Nat → Nat → Int32)) (hf : fn_X9_film K N I P a0 x1 x2 = some res) : Met l yX9_film wz_X9_film rm_X9_film (va_Pc [.ref a0, .int x1, .int x2] (mm_B D cs A L K N z w I P)) (va_Qi (fun r (_ : Unit) => r = res.1) (fun _ => mm_B D cs A L K N z w res.2 P) A) 0 0 A := by
  refine Met.ofW (cc := cX9_film) (maxL := 4) (ret := (some .int)) (by decide) rfl ?_
  intro p e s m args below meth c s₁ B hml hv
  obtain ⟨rfl, hBm⟩ := hv
  have hx := B.exec
  have hb := B.bytes
  have hr := B.returns
  have hts := atoms_spec (ws := wz_X9_film) B.pre
  have hWA : ∀ w ∈ WA, w.before ([.ref a0, .int x1, .int x2] : List Value).toArray s = true := fun u9 h9 => hts u9 (List.mem_cons_of_mem _ h9)
  have hown : s.vm.findClass RX9 = some m.cls := findClass_of_methodNamed B.named
  have hlocks := B.notSynchronized
  have S : CallFix p m c cX9_film 4 s ([.ref a0, .int x1, .int x2] : List Value).toArray wz_X9_film RX9 := ⟨hx, hb, hml, hown, hts⟩
  have hK := hBm.2.2.2.1
  have hZ := hBm.2.2.2.2
  have hM : mm_W D cs A L K N s.heap I P s.heap [] := ⟨hBm.1, hBm.2.1, hBm.2.2.1, va_S.rf⟩
  have hl := lv_entry ([.ref a0, .int x1, .int x2]) (n := 4) (Nat.le_of_ble_eq_true rfl)
  rw [lg_entry_eq]
  generalize (lg_sl ([.ref a0, .int x1, .int x2]) ++ List.replicate (4 - (lg_sl ([.ref a0, .int x1, .int x2])).length) Slot.unset).toArray = ls at hl ⊢
  have hl : lv_has ls 4 [(0, .ref a0), (1, .int x1), (2, .int x2)] := hl
  have hin9 : ∀ w ∈ wsX90, w ∈ wz_X9_film := fun w h => List.mem_cons_of_mem _ (wu_X9 w h)
  have lk32 : (Cond.fieldLink RX9 32 RX9 "sheets" "[LRasterPainter$Sheet;").before ([.ref a0, .int x1, .int x2] : List Value).toArray s = true := hWA _ wa_2_19
  generalize hQ : MQ below (va_Qi (fun r (_ : Unit) => r = res.1) (fun _ => mm_B D cs A L K N z w res.2 P) A) ([.ref a0, .int x1, .int x2] : List Value).toArray s 0 0 A = QQ
  rw [fn_X9_film] at hf
  refine lv_iload_n hx hb dX9_film_0 rfl (lv_at hl 1 rfl) ?_
  refine bd_e hf (fun r1 er1 hf => ?_)
  refine ev_calli (va_runS (As := [.int x1]) (rest := []) S (c_X9_isSheet (l := l) I P x1 r1 er1) (va_cwS 1 hts (gi_s wa_4_55 wa_4_56 wa_1_1 wa_4_57) rfl rfl rfl (by decide +kernel) ⟨Nat.le_of_ble_eq_true rfl, Nat.le_of_ble_eq_true rfl⟩) ⟨mm_B_blind, fun U hU hW => ⟨rfl, mm_B_of hK hZ hM hU hW⟩⟩ rfl rfl hl.1 rfl (lv_room (Nat.le_of_ble_eq_true rfl)) dX9_film_1 ⟨Nat.zero_le _, Nat.zero_le _⟩) hM (fun H locs hM => ?_)
  refine lv_if_eq (tgt := 14) hx hb dX9_film_4 (by decide) (fun hc2 => ?_) (fun hc2 => ?_)
  · have hf := it_p hf hc2
    refine lv_bipush (v := (-2 : Int32)) hx hb dX9_film_14 (by decide) ?_
    obtain rfl := Option.some.inj hf
    subst hQ
    exact ev_iret S hr hlocks hK hZ hM dX9_film_16
  · have hf := it_n hf hc2
    refine lv_iload_n hx hb dX9_film_7 rfl (lv_at hl 2 rfl) ?_
    refine bd_e hf (fun r3 er3 hf => ?_)
    refine ev_calli (va_runS (As := [.int x2]) (rest := []) S (c_X9_isRow (l := l) I P x2 r3 er3) (va_cwS 1 hts (gi_s wa_2_145 wa_2_146 wa_1_1 wa_2_147) rfl rfl rfl (by decide +kernel) ⟨Nat.le_of_ble_eq_true rfl, Nat.le_of_ble_eq_true rfl⟩) ⟨mm_B_blind, fun U hU hW => ⟨rfl, mm_B_of hK hZ hM hU hW⟩⟩ rfl rfl hl.1 rfl (lv_room (Nat.le_of_ble_eq_true rfl)) dX9_film_8 ⟨Nat.zero_le _, Nat.zero_le _⟩) hM (fun H locs hM => ?_)
    refine lv_if_ne (tgt := 17) hx hb dX9_film_11 (by decide) (fun hc4 => ?_) (fun hc4 => ?_)
    · have hf := it_n hf hc4
      refine lv_aload_n hx hb dX9_film_17 rfl (lv_at hl 0 rfl) ?_
      refine gd_e hf (fun hg5 hf => ?_)
      refine bd_e hf (fun q6 eq6 hf => ?_)
      refine ev_getP (v := q6) S hK hM (ci := 9) (n := 8) (C := RX9) (T := TX9) hin9 rfl hg5 4 (by decide) lk32 rfl rfl eq6 rfl dX9_film_18 ?_
      refine lv_iload_n hx hb dX9_film_21 rfl (lv_at hl 1 rfl) ?_
      refine gd_e hf (fun hg7 hf => ?_)
      refine bd_e hf (fun q8 eq8 hf => ?_)
      refine ev_aald16 S hK hM hg7 (j := x1.toNatClampNeg) rfl eq8 dX9_film_22 ?_
      refine lv_iconst (v := (0 : Int32)) hx hb dX9_film_23 (by decide) ?_
      refine lv_bipush (v := (16 : Int32)) hx hb dX9_film_24 (by decide) ?_
      refine bd_e hf (fun r9 er9 hf => ?_)
      refine gd_e hf (fun hg10 hf => ?_)
      refine ev_callv (va_runV (As := [.int (0 : Int32), .int (16 : Int32)]) (rest := []) S (c_X7_become (l := l) I P q8 (0 : Int32) (16 : Int32) r9 er9) (cwV 2 hts (gi_v wa_4_78 wa_4_79 wa_4_80 wa_1_9 wa_4_81) rfl rfl rfl (by decide +kernel) ⟨Nat.le_of_ble_eq_true rfl, Nat.le_of_ble_eq_true rfl⟩) ⟨mm_B_blind, ev_recv hK hM (ci := 7) rfl hg10 rfl, fun U hU hW => ⟨rfl, mm_B_of hK hZ hM hU hW⟩⟩ rfl rfl hl.1 rfl (lv_room (Nat.le_of_ble_eq_true rfl)) dX9_film_26 ⟨Nat.zero_le _, Nat.zero_le _⟩) hM (fun H locs hM => ?_)
      refine lv_iconst (v := (0 : Int32)) hx hb dX9_film_29 (by decide) ?_
      refine lv_istore_n (lv' := [(3, .int (0 : Int32)), (0, .ref a0), (1, .int x1), (2, .int x2)]) hx hb dX9_film_30 rfl hl (by decide) rfl (fun ls hl => ?_)
      have lp31_17 : ∀ (n : Nat) (v11 : Int32) (I12 : Nat → Nat → Int32) (H : Heap) (locs : List Loc) (ls : Array Slot) (r13 : (Nat → Nat → Int32)), mm_W D cs A L K N s.heap I12 P H locs → lv_has ls 4 [(0, .ref a0), (1, .int x1), (2, .int x2), (3, .int v11)] → fn_X9_film_L31 K N a0 x2 P q8 n v11 I12 = some r13 → (∀ (H : Heap) (locs : List Loc) (ls : Array Slot), mm_W D cs A L K N s.heap r13 P H locs → lv_has ls 4 [] → W p l e (headSpec wz_X9_film rm_X9_film).room s m ([.ref a0, .int x1, .int x2] : List Value).toArray below meth c H locs 0 0 QQ (F0 m 62 ls [])) → W p l e (headSpec wz_X9_film rm_X9_film).room s m ([.ref a0, .int x1, .int x2] : List Value).toArray below meth c H locs 0 0 QQ (F0 m 31 ls []) := by
        intro n
        induction n with
        | zero => intro v11 I12 H locs ls r13 hM hl hf kk; exact nn_x (show (none : Option ((Nat → Nat → Int32))) = some r13 from hf)
        | succ n ih =>
          intro v11 I12 H locs ls r13 hM hl hf kk
          rw [fn_X9_film_L31] at hf
          refine lv_iload_n hx hb dX9_film_31 rfl (lv_at hl 3 rfl) ?_
          refine lv_bipush (v := (16 : Int32)) hx hb dX9_film_32 (by decide) ?_
          refine lv_icmp_ge (tgt := 62) hx hb dX9_film_34 (by decide) (fun hc14 => ?_) (fun hc14 => ?_)
          · have hf := it_p hf hc14
            obtain rfl := Option.some.inj hf
            exact kk _ _ _ hM (lv_sub hl [] rfl)
          · have hf := it_n hf hc14
            refine lv_aload_n hx hb dX9_film_37 rfl (lv_at hl 0 rfl) ?_
            refine ev_getP (v := q6) S hK hM (ci := 9) (n := 8) (C := RX9) (T := TX9) hin9 rfl hg5 4 (by decide) lk32 rfl rfl eq6 rfl dX9_film_38 ?_
            refine lv_iload_n hx hb dX9_film_41 rfl (lv_at hl 1 rfl) ?_
            refine ev_aald16 S hK hM hg7 (j := x1.toNatClampNeg) rfl eq8 dX9_film_42 ?_
            refine lv_iload_n hx hb dX9_film_43 rfl (lv_at hl 3 rfl) ?_
            refine lv_aload_n hx hb dX9_film_44 rfl (lv_at hl 0 rfl) ?_
            refine lv_iload_n hx hb dX9_film_45 rfl (lv_at hl 3 rfl) ?_
            refine lv_iload_n hx hb dX9_film_46 rfl (lv_at hl 2 rfl) ?_
            refine bd_e hf (fun r15 er15 hf => ?_)
            refine ev_calli (va_runS (As := [.int v11, .int x2]) (rest := [.ref a0, .int v11, .ref q8]) S (c_X9_dotAt (l := l) I12 P v11 x2 r15 er15) (va_cwS 2 hts (gi_s wa_2_148 wa_2_149 wa_1_1 wa_2_150) rfl rfl rfl (by decide +kernel) ⟨Nat.le_of_ble_eq_true rfl, Nat.le_of_ble_eq_true rfl⟩) ⟨mm_B_blind, fun U hU hW => ⟨rfl, mm_B_of hK hZ hM hU hW⟩⟩ rfl rfl hl.1 rfl (lv_room (Nat.le_of_ble_eq_true rfl)) dX9_film_47 ⟨Nat.zero_le _, Nat.zero_le _⟩) hM (fun H locs hM => ?_)
            refine bd_e hf (fun r16 er16 hf => ?_)
            refine ev_calli (va_runV (As := [.int r15]) (rest := [.int v11, .ref q8]) S (c_X9_seenAt (l := l) I12 P a0 r15 r16 er16) (cwV 1 hts (gi_v wa_2_151 wa_2_153 wa_s_1 wa_1_1 wa_2_154) rfl rfl rfl (by decide +kernel) ⟨Nat.le_of_ble_eq_true rfl, Nat.le_of_ble_eq_true rfl⟩) ⟨mm_B_blind, ev_recv hK hM (ci := 9) rfl hg5 rfl, fun U hU hW => ⟨rfl, mm_B_of hK hZ hM hU hW⟩⟩ rfl rfl hl.1 rfl (lv_room (Nat.le_of_ble_eq_true rfl)) dX9_film_50 ⟨Nat.zero_le _, Nat.zero_le _⟩) hM (fun H locs hM => ?_)
            refine bd_e hf (fun r17 er17 hf => ?_)
            refine ev_callv (va_runV (As := [.int v11, .int r16]) (rest := []) S (c_X7_set (l := l) I12 P q8 v11 r16 r17 er17) (cwV 2 hts (gi_v wa_4_83 wa_4_84 wa_4_85 wa_1_9 wa_4_86) rfl rfl rfl (by decide +kernel) ⟨Nat.le_of_ble_eq_true rfl, Nat.le_of_ble_eq_true rfl⟩) ⟨mm_B_blind, ev_recv hK hM (ci := 7) rfl hg10 rfl, fun U hU hW => ⟨rfl, mm_B_of hK hZ hM hU hW⟩⟩ rfl rfl hl.1 rfl (lv_room (Nat.le_of_ble_eq_true rfl)) dX9_film_53 ⟨Nat.zero_le _, Nat.zero_le _⟩) hM (fun H locs hM => ?_)
            refine lv_iinc (v := (v11 + (1 : Int32))) (lv' := [(3, .int (v11 + (1 : Int32))), (0, .ref a0), (1, .int x1), (2, .int x2)]) hx hb dX9_film_56 hl (k := 3) rfl rfl (by decide) rfl (fun ls hl => ?_)
            refine lv_goto (tgt := 31) hx hb dX9_film_59 (by decide) ?_
            exact ih (v11 + (1 : Int32)) r17 _ _ _ _ hM (lv_sub hl [1, 2, 3, 0] rfl) hf kk
      refine bd_e hf (fun r13 er13 hf => ?_)
      refine lp31_17 FU (0 : Int32) r9 _ _ _ r13 hM (lv_sub hl [1, 2, 3, 0] rfl) er13 (fun H locs ls hM hl => ?_)
      refine lv_bipush (v := (16 : Int32)) hx hb dX9_film_62 (by decide) ?_
      obtain rfl := Option.some.inj hf
      subst hQ
      exact ev_iret S hr hlocks hK hZ hM dX9_film_64
    · have hf := it_p hf hc4
      refine lv_bipush (v := (-2 : Int32)) hx hb dX9_film_14 (by decide) ?_
      obtain rfl := Option.some.inj hf
      subst hQ
      exact ev_iret S hr hlocks hK hZ hM dX9_film_16
noncomputable def fn_X9_image (K N : Nat → Nat) (I : Nat → Nat → Int32) (P : Nat → Nat → Option Nat) (a0 : Nat) : Option (Int32 × (Nat → Nat → Int32)) := gd (K a0 = 10) (Option.bind (P a0 (1)) (fun q2 => Option.bind (P a0 (0)) (fun q3 => Option.bind (fn_X6_become K N I P q2 q3) (fun (r4 : (Nat → Nat → Int32)) => gd (K q2 = 7) (Option.bind (some (up2 r4 a0 2 (1 : Int32))) (fun I6 => some ((I6 q2 1), I6)))))))
abbrev wz_X9_image : List Cond := Cond.code yX9_image cX9_image 1 (some .int) :: WA
abbrev rm_X9_image : Room := { frames := 5, cells := 0, slots := 0, locals := 125 }
set_option maxHeartbeats 4000000 in
set_option maxRecDepth 100000 in
theorem c_X9_image (I : Nat → Nat → Int32) (P : Nat → Nat → Option Nat) (a0 : Nat) (res : Int32 × (Nat → Nat → Int32)) (hf : fn_X9_image K N I P a0 = some res) : Met l yX9_image wz_X9_image rm_X9_image (va_Pc [.ref a0] (mm_B D cs A L K N z w I P)) (va_Qi (fun r (_ : Unit) => r = res.1) (fun _ => mm_B D cs A L K N z w res.2 P) A) 0 0 A := by
  refine Met.ofW (cc := cX9_image) (maxL := 1) (ret := (some .int)) (by decide) rfl ?_
  intro p e s m args below meth c s₁ B hml hv
  obtain ⟨rfl, hBm⟩ := hv
  have hx := B.exec
  have hb := B.bytes
  have hr := B.returns
  have hts := atoms_spec (ws := wz_X9_image) B.pre
  have hWA : ∀ w ∈ WA, w.before ([.ref a0] : List Value).toArray s = true := fun u9 h9 => hts u9 (List.mem_cons_of_mem _ h9)
  have hown : s.vm.findClass RX9 = some m.cls := findClass_of_methodNamed B.named
  have hlocks := B.notSynchronized
  have S : CallFix p m c cX9_image 1 s ([.ref a0] : List Value).toArray wz_X9_image RX9 := ⟨hx, hb, hml, hown, hts⟩
  have hK := hBm.2.2.2.1
  have hZ := hBm.2.2.2.2
  have hM : mm_W D cs A L K N s.heap I P s.heap [] := ⟨hBm.1, hBm.2.1, hBm.2.2.1, va_S.rf⟩
  have hl := lv_entry ([.ref a0]) (n := 1) (Nat.le_of_ble_eq_true rfl)
  rw [lg_entry_eq]
  generalize (lg_sl ([.ref a0]) ++ List.replicate (1 - (lg_sl ([.ref a0])).length) Slot.unset).toArray = ls at hl ⊢
  have hl : lv_has ls 1 [(0, .ref a0)] := hl
  have hin9 : ∀ w ∈ wsX90, w ∈ wz_X9_image := fun w h => List.mem_cons_of_mem _ (wu_X9 w h)
  have hin6 : ∀ w ∈ wsX60, w ∈ wz_X9_image := fun w h => List.mem_cons_of_mem _ (wu_X6 w h)
  have lk16 : (Cond.fieldLink RX9 16 RX9 "kept" "LRasterPainter$Picture;").before ([.ref a0] : List Value).toArray s = true := hWA _ wa_2_16
  have lk10 : (Cond.fieldLink RX9 10 RX9 "picture" "LRasterPainter$Picture;").before ([.ref a0] : List Value).toArray s = true := hWA _ wa_2_15
  have lk19 : (Cond.fieldLink RX9 19 RX9 "hasImage" "Z").before ([.ref a0] : List Value).toArray s = true := hWA _ wa_2_17
  have lk59 : (Cond.fieldLink RX9 59 RX6 "layerCount" "I").before ([.ref a0] : List Value).toArray s = true := hWA _ wa_1_153
  generalize hQ : MQ below (va_Qi (fun r (_ : Unit) => r = res.1) (fun _ => mm_B D cs A L K N z w res.2 P) A) ([.ref a0] : List Value).toArray s 0 0 A = QQ
  rw [fn_X9_image] at hf
  refine lv_aload_n hx hb dX9_image_0 rfl (lv_at hl 0 rfl) ?_
  refine gd_e hf (fun hg1 hf => ?_)
  refine bd_e hf (fun q2 eq2 hf => ?_)
  refine ev_getP (v := q2) S hK hM (ci := 9) (n := 8) (C := RX9) (T := TX9) hin9 rfl hg1 1 (by decide) lk16 rfl rfl eq2 rfl dX9_image_1 ?_
  refine lv_aload_n hx hb dX9_image_4 rfl (lv_at hl 0 rfl) ?_
  refine bd_e hf (fun q3 eq3 hf => ?_)
  refine ev_getP (v := q3) S hK hM (ci := 9) (n := 8) (C := RX9) (T := TX9) hin9 rfl hg1 0 (by decide) lk10 rfl rfl eq3 rfl dX9_image_5 ?_
  refine bd_e hf (fun r4 er4 hf => ?_)
  refine gd_e hf (fun hg5 hf => ?_)
  refine ev_callv (va_runV (As := [.ref q3]) (rest := []) S (c_X6_become (l := l) I P q2 q3 r4 er4) (cwV 1 hts (gi_v wa_4_91 wa_4_92 wa_4_93 wa_1_2 wa_4_94) rfl rfl rfl (by decide +kernel) ⟨Nat.le_of_ble_eq_true rfl, Nat.le_of_ble_eq_true rfl⟩) ⟨mm_B_blind, ev_recv hK hM (ci := 6) rfl hg5 rfl, fun U hU hW => ⟨rfl, mm_B_of hK hZ hM hU hW⟩⟩ rfl rfl hl.1 rfl (lv_room (Nat.le_of_ble_eq_true rfl)) dX9_image_8 ⟨Nat.zero_le _, Nat.zero_le _⟩) hM (fun H locs hM => ?_)
  refine lv_aload_n hx hb dX9_image_11 rfl (lv_at hl 0 rfl) ?_
  refine lv_iconst (v := (1 : Int32)) hx hb dX9_image_12 (by decide) ?_
  refine ev_put S hK hM (ci := 9) (n := 8) (C := RX9) (T := TX9) hin9 tyX9 tyX9_ok nmX9 rfl hg1 2 (by decide) lk19 rfl rfl rfl rfl rfl (Nat.le_of_ble_eq_true rfl) rfl dX9_image_13 (fun I6 eI6 H locs hM => ?_)
  have hf := nm_x eI6 hf
  refine lv_aload_n hx hb dX9_image_16 rfl (lv_at hl 0 rfl) ?_
  refine ev_getP (v := q2) S hK hM (ci := 9) (n := 8) (C := RX9) (T := TX9) hin9 rfl hg1 1 (by decide) lk16 rfl rfl eq2 rfl dX9_image_17 ?_
  refine ev_get (v := .int (I6 q2 1)) S hK hM (ci := 6) (n := 6) (C := RX6) (T := TX6) hin6 rfl hg5 1 (by decide) lk59 rfl rfl rfl dX9_image_20 ?_
  obtain rfl := Option.some.inj hf
  subst hQ
  exact ev_iret S hr hlocks hK hZ hM dX9_image_23
noncomputable def fn_X9_back (K N : Nat → Nat) (I : Nat → Nat → Int32) (P : Nat → Nat → Option Nat) (a0 : Nat) : Option (Int32 × (Nat → Nat → Int32)) := gd (K a0 = 10) (if (I a0 2) = 0 then (some ((-3 : Int32), I)) else (Option.bind (P a0 (0)) (fun q3 => Option.bind (P a0 (1)) (fun q4 => Option.bind (fn_X6_become K N I P q3 q4) (fun (r5 : (Nat → Nat → Int32)) => gd (K q3 = 7) (some ((r5 q3 1), r5)))))))
abbrev wz_X9_back : List Cond := Cond.code yX9_back cX9_back 1 (some .int) :: WA
abbrev rm_X9_back : Room := { frames := 5, cells := 0, slots := 0, locals := 125 }
set_option maxHeartbeats 4000000 in
set_option maxRecDepth 100000 in
theorem c_X9_back (I : Nat → Nat → Int32) (P : Nat → Nat → Option Nat) (a0 : Nat) (res : Int32 × (Nat → Nat → Int32)) (hf : fn_X9_back K N I P a0 = some res) : Met l yX9_back wz_X9_back rm_X9_back (va_Pc [.ref a0] (mm_B D cs A L K N z w I P)) (va_Qi (fun r (_ : Unit) => r = res.1) (fun _ => mm_B D cs A L K N z w res.2 P) A) 0 0 A := by
  refine Met.ofW (cc := cX9_back) (maxL := 1) (ret := (some .int)) (by decide) rfl ?_
  intro p e s m args below meth c s₁ B hml hv
  obtain ⟨rfl, hBm⟩ := hv
  have hx := B.exec
  have hb := B.bytes
  have hr := B.returns
  have hts := atoms_spec (ws := wz_X9_back) B.pre
  have hWA : ∀ w ∈ WA, w.before ([.ref a0] : List Value).toArray s = true := fun u9 h9 => hts u9 (List.mem_cons_of_mem _ h9)
  have hown : s.vm.findClass RX9 = some m.cls := findClass_of_methodNamed B.named
  have hlocks := B.notSynchronized
  have S : CallFix p m c cX9_back 1 s ([.ref a0] : List Value).toArray wz_X9_back RX9 := ⟨hx, hb, hml, hown, hts⟩
  have hK := hBm.2.2.2.1
  have hZ := hBm.2.2.2.2
  have hM : mm_W D cs A L K N s.heap I P s.heap [] := ⟨hBm.1, hBm.2.1, hBm.2.2.1, va_S.rf⟩
  have hl := lv_entry ([.ref a0]) (n := 1) (Nat.le_of_ble_eq_true rfl)
  rw [lg_entry_eq]
  generalize (lg_sl ([.ref a0]) ++ List.replicate (1 - (lg_sl ([.ref a0])).length) Slot.unset).toArray = ls at hl ⊢
  have hl : lv_has ls 1 [(0, .ref a0)] := hl
  have hin9 : ∀ w ∈ wsX90, w ∈ wz_X9_back := fun w h => List.mem_cons_of_mem _ (wu_X9 w h)
  have hin6 : ∀ w ∈ wsX60, w ∈ wz_X9_back := fun w h => List.mem_cons_of_mem _ (wu_X6 w h)
  have lk19 : (Cond.fieldLink RX9 19 RX9 "hasImage" "Z").before ([.ref a0] : List Value).toArray s = true := hWA _ wa_2_17
  have lk10 : (Cond.fieldLink RX9 10 RX9 "picture" "LRasterPainter$Picture;").before ([.ref a0] : List Value).toArray s = true := hWA _ wa_2_15
  have lk16 : (Cond.fieldLink RX9 16 RX9 "kept" "LRasterPainter$Picture;").before ([.ref a0] : List Value).toArray s = true := hWA _ wa_2_16
  have lk59 : (Cond.fieldLink RX9 59 RX6 "layerCount" "I").before ([.ref a0] : List Value).toArray s = true := hWA _ wa_1_153
  generalize hQ : MQ below (va_Qi (fun r (_ : Unit) => r = res.1) (fun _ => mm_B D cs A L K N z w res.2 P) A) ([.ref a0] : List Value).toArray s 0 0 A = QQ
  rw [fn_X9_back] at hf
  refine lv_aload_n hx hb dX9_back_0 rfl (lv_at hl 0 rfl) ?_
  refine gd_e hf (fun hg1 hf => ?_)
  refine ev_get (v := .int (I a0 2)) S hK hM (ci := 9) (n := 8) (C := RX9) (T := TX9) hin9 rfl hg1 2 (by decide) lk19 rfl rfl rfl dX9_back_1 ?_
  refine lv_if_ne (tgt := 10) hx hb dX9_back_4 (by decide) (fun hc2 => ?_) (fun hc2 => ?_)
  · have hf := it_n hf hc2
    refine lv_aload_n hx hb dX9_back_10 rfl (lv_at hl 0 rfl) ?_
    refine bd_e hf (fun q3 eq3 hf => ?_)
    refine ev_getP (v := q3) S hK hM (ci := 9) (n := 8) (C := RX9) (T := TX9) hin9 rfl hg1 0 (by decide) lk10 rfl rfl eq3 rfl dX9_back_11 ?_
    refine lv_aload_n hx hb dX9_back_14 rfl (lv_at hl 0 rfl) ?_
    refine bd_e hf (fun q4 eq4 hf => ?_)
    refine ev_getP (v := q4) S hK hM (ci := 9) (n := 8) (C := RX9) (T := TX9) hin9 rfl hg1 1 (by decide) lk16 rfl rfl eq4 rfl dX9_back_15 ?_
    refine bd_e hf (fun r5 er5 hf => ?_)
    refine gd_e hf (fun hg6 hf => ?_)
    refine ev_callv (va_runV (As := [.ref q4]) (rest := []) S (c_X6_become (l := l) I P q3 q4 r5 er5) (cwV 1 hts (gi_v wa_4_91 wa_4_92 wa_4_93 wa_1_2 wa_4_94) rfl rfl rfl (by decide +kernel) ⟨Nat.le_of_ble_eq_true rfl, Nat.le_of_ble_eq_true rfl⟩) ⟨mm_B_blind, ev_recv hK hM (ci := 6) rfl hg6 rfl, fun U hU hW => ⟨rfl, mm_B_of hK hZ hM hU hW⟩⟩ rfl rfl hl.1 rfl (lv_room (Nat.le_of_ble_eq_true rfl)) dX9_back_18 ⟨Nat.zero_le _, Nat.zero_le _⟩) hM (fun H locs hM => ?_)
    refine lv_aload_n hx hb dX9_back_21 rfl (lv_at hl 0 rfl) ?_
    refine ev_getP (v := q3) S hK hM (ci := 9) (n := 8) (C := RX9) (T := TX9) hin9 rfl hg1 0 (by decide) lk10 rfl rfl eq3 rfl dX9_back_22 ?_
    refine ev_get (v := .int (r5 q3 1)) S hK hM (ci := 6) (n := 6) (C := RX6) (T := TX6) hin6 rfl hg6 1 (by decide) lk59 rfl rfl rfl dX9_back_25 ?_
    obtain rfl := Option.some.inj hf
    subst hQ
    exact ev_iret S hr hlocks hK hZ hM dX9_back_28
  · have hf := it_p hf hc2
    refine lv_bipush (v := (-3 : Int32)) hx hb dX9_back_7 (by decide) ?_
    obtain rfl := Option.some.inj hf
    subst hQ
    exact ev_iret S hr hlocks hK hZ hM dX9_back_9
noncomputable def fn_X9_count (K N : Nat → Nat) (I : Nat → Nat → Int32) (P : Nat → Nat → Option Nat) (a0 : Nat) (x1 : Int32) : Option (Int32) := if x1 = (0 : Int32) then (gd (K a0 = 10) (Option.bind (P a0 (0)) (fun q10 => gd (K q10 = 7) (some (I q10 1))))) else (if x1 = (1 : Int32) then (gd (K a0 = 10) (Option.bind (P a0 (0)) (fun q13 => gd (K q13 = 7) (Option.bind (P q13 (5)) (fun q15 => gd (K q15 = 2) (some (I q15 1))))))) else (if x1 = (2 : Int32) then (gd (K a0 = 10) (Option.bind (P a0 (0)) (fun q18 => gd (K q18 = 7) (Option.bind (P q18 (5)) (fun q20 => gd (K q20 = 2) (some (I q20 2))))))) else (if x1 = (3 : Int32) then (gd (K a0 = 10) (Option.bind (P a0 (0)) (fun q23 => gd (K q23 = 7) (Option.bind (P q23 (5)) (fun q25 => Option.bind (fn_X1_tileCount K N I P q25) (fun (r26 : Int32) => gd (K q25 = 2) (some r26))))))) else (if x1 = (4 : Int32) then (gd (K a0 = 10) (Option.bind (P a0 (0)) (fun q29 => gd (K q29 = 7) (Option.bind (P q29 (3)) (fun q31 => gd (K q31 = 6) (some (I q31 1))))))) else (if x1 = (5 : Int32) then (gd (K a0 = 10) (Option.bind (P a0 (0)) (fun q34 => gd (K q34 = 7) (Option.bind (P q34 (4)) (fun q36 => gd (K q36 = 3) (some (I q36 3))))))) else (if x1 = (6 : Int32) then (gd (K a0 = 10) (Option.bind (P a0 (0)) (fun q39 => gd (K q39 = 7) (Option.bind (P q39 (4)) (fun q41 => gd (K q41 = 3) (some (I q41 2))))))) else (if x1 = (7 : Int32) then (gd (K a0 = 10) (Option.bind (P a0 (3)) (fun q44 => gd (K q44 = 9) (some (I q44 1))))) else (some (-2 : Int32)))))))))
abbrev wz_X9_count : List Cond := Cond.code yX9_count cX9_count 2 (some .int) :: WA
abbrev rm_X9_count : Room := { frames := 3, cells := 0, slots := 0, locals := 54 }
set_option maxHeartbeats 4000000 in
set_option maxRecDepth 100000 in
theorem c_X9_count (I : Nat → Nat → Int32) (P : Nat → Nat → Option Nat) (a0 : Nat) (x1 : Int32) (res : Int32) (hf : fn_X9_count K N I P a0 x1 = some res) : Met l yX9_count wz_X9_count rm_X9_count (va_Pc [.ref a0, .int x1] (mm_B D cs A L K N z w I P)) (va_Qi (fun r (_ : Unit) => r = res) (fun _ => mm_B D cs A L K N z w I P) A) 0 0 A := by
  refine Met.ofW (cc := cX9_count) (maxL := 2) (ret := (some .int)) (by decide) rfl ?_
  intro p e s m args below meth c s₁ B hml hv
  obtain ⟨rfl, hBm⟩ := hv
  have hx := B.exec
  have hb := B.bytes
  have hr := B.returns
  have hts := atoms_spec (ws := wz_X9_count) B.pre
  have hWA : ∀ w ∈ WA, w.before ([.ref a0, .int x1] : List Value).toArray s = true := fun u9 h9 => hts u9 (List.mem_cons_of_mem _ h9)
  have hown : s.vm.findClass RX9 = some m.cls := findClass_of_methodNamed B.named
  have hlocks := B.notSynchronized
  have S : CallFix p m c cX9_count 2 s ([.ref a0, .int x1] : List Value).toArray wz_X9_count RX9 := ⟨hx, hb, hml, hown, hts⟩
  have hK := hBm.2.2.2.1
  have hZ := hBm.2.2.2.2
  have hM : mm_W D cs A L K N s.heap I P s.heap [] := ⟨hBm.1, hBm.2.1, hBm.2.2.1, va_S.rf⟩
  have hl := lv_entry ([.ref a0, .int x1]) (n := 2) (Nat.le_of_ble_eq_true rfl)
  rw [lg_entry_eq]
  generalize (lg_sl ([.ref a0, .int x1]) ++ List.replicate (2 - (lg_sl ([.ref a0, .int x1])).length) Slot.unset).toArray = ls at hl ⊢
  have hl : lv_has ls 2 [(0, .ref a0), (1, .int x1)] := hl
  have hin9 : ∀ w ∈ wsX90, w ∈ wz_X9_count := fun w h => List.mem_cons_of_mem _ (wu_X9 w h)
  have hin6 : ∀ w ∈ wsX60, w ∈ wz_X9_count := fun w h => List.mem_cons_of_mem _ (wu_X6 w h)
  have hin1 : ∀ w ∈ wsX10, w ∈ wz_X9_count := fun w h => List.mem_cons_of_mem _ (wu_X1 w h)
  have hin5 : ∀ w ∈ wsX50, w ∈ wz_X9_count := fun w h => List.mem_cons_of_mem _ (wu_X5 w h)
  have hin2 : ∀ w ∈ wsX20, w ∈ wz_X9_count := fun w h => List.mem_cons_of_mem _ (wu_X2 w h)
  have hin8 : ∀ w ∈ wsX80, w ∈ wz_X9_count := fun w h => List.mem_cons_of_mem _ (wu_X8 w h)
  have lk10 : (Cond.fieldLink RX9 10 RX9 "picture" "LRasterPainter$Picture;").before ([.ref a0, .int x1] : List Value).toArray s = true := hWA _ wa_2_15
  have lk59 : (Cond.fieldLink RX9 59 RX6 "layerCount" "I").before ([.ref a0, .int x1] : List Value).toArray s = true := hWA _ wa_1_153
  have lk183 : (Cond.fieldLink RX9 183 RX6 "acts" "LRasterPainter$Acts;").before ([.ref a0, .int x1] : List Value).toArray s = true := hWA _ wa_1_162
  have lk278 : (Cond.fieldLink RX9 278 RX1 "keptCount" "I").before ([.ref a0, .int x1] : List Value).toArray s = true := hWA _ wa_1_111
  have lk281 : (Cond.fieldLink RX9 281 RX1 "undoneCount" "I").before ([.ref a0, .int x1] : List Value).toArray s = true := hWA _ wa_1_113
  have lk196 : (Cond.fieldLink RX9 196 RX6 "mask" "LRasterPainter$Mask;").before ([.ref a0, .int x1] : List Value).toArray s = true := hWA _ wa_1_158
  have lk206 : (Cond.fieldLink RX9 206 RX5 "size" "I").before ([.ref a0, .int x1] : List Value).toArray s = true := hWA _ wa_1_46
  have lk133 : (Cond.fieldLink RX9 133 RX6 "brush" "LRasterPainter$Brush;").before ([.ref a0, .int x1] : List Value).toArray s = true := hWA _ wa_1_160
  have lk287 : (Cond.fieldLink RX9 287 RX2 "flow" "I").before ([.ref a0, .int x1] : List Value).toArray s = true := hWA _ wa_1_70
  have lk290 : (Cond.fieldLink RX9 290 RX2 "ink" "I").before ([.ref a0, .int x1] : List Value).toArray s = true := hWA _ wa_1_67
  have lk26 : (Cond.fieldLink RX9 26 RX9 "tape" "LRasterPainter$Tape;").before ([.ref a0, .int x1] : List Value).toArray s = true := hWA _ wa_2_18
  have lk152 : (Cond.fieldLink RX9 152 RX8 "size" "I").before ([.ref a0, .int x1] : List Value).toArray s = true := hWA _ wa_1_184
  generalize hQ : MQ below (va_Qi (fun r (_ : Unit) => r = res) (fun _ => mm_B D cs A L K N z w I P) A) ([.ref a0, .int x1] : List Value).toArray s 0 0 A = QQ
  rw [fn_X9_count] at hf
  refine lv_iload_n hx hb dX9_count_0 rfl (lv_at hl 1 rfl) ?_
  refine (Classical.em (x1 = (0 : Int32))).elim (fun hc1 => ?_) (fun hc1 => ?_)
  · have hf := it_p hf hc1
    refine lv_tableIn (off := 47) (tgt := 48) hx hb dX9_count_1 (by rw [hc1]; decide) (by rw [hc1]; decide) (by rw [hc1]; rfl) (by decide) ?_
    refine lv_aload_n hx hb dX9_count_48 rfl (lv_at hl 0 rfl) ?_
    refine gd_e hf (fun hg9 hf => ?_)
    refine bd_e hf (fun q10 eq10 hf => ?_)
    refine ev_getP (v := q10) S hK hM (ci := 9) (n := 8) (C := RX9) (T := TX9) hin9 rfl hg9 0 (by decide) lk10 rfl rfl eq10 rfl dX9_count_49 ?_
    refine gd_e hf (fun hg11 hf => ?_)
    refine ev_get (v := .int (I q10 1)) S hK hM (ci := 6) (n := 6) (C := RX6) (T := TX6) hin6 rfl hg11 1 (by decide) lk59 rfl rfl rfl dX9_count_52 ?_
    obtain rfl := Option.some.inj hf
    subst hQ
    exact ev_iret S hr hlocks hK hZ hM dX9_count_55
  · have hf := it_n hf hc1
    refine (Classical.em (x1 = (1 : Int32))).elim (fun hc2 => ?_) (fun hc2 => ?_)
    · have hf := it_p hf hc2
      refine lv_tableIn (off := 55) (tgt := 56) hx hb dX9_count_1 (by rw [hc2]; decide) (by rw [hc2]; decide) (by rw [hc2]; rfl) (by decide) ?_
      refine lv_aload_n hx hb dX9_count_56 rfl (lv_at hl 0 rfl) ?_
      refine gd_e hf (fun hg12 hf => ?_)
      refine bd_e hf (fun q13 eq13 hf => ?_)
      refine ev_getP (v := q13) S hK hM (ci := 9) (n := 8) (C := RX9) (T := TX9) hin9 rfl hg12 0 (by decide) lk10 rfl rfl eq13 rfl dX9_count_57 ?_
      refine gd_e hf (fun hg14 hf => ?_)
      refine bd_e hf (fun q15 eq15 hf => ?_)
      refine ev_getP (v := q15) S hK hM (ci := 6) (n := 6) (C := RX6) (T := TX6) hin6 rfl hg14 5 (by decide) lk183 rfl rfl eq15 rfl dX9_count_60 ?_
      refine gd_e hf (fun hg16 hf => ?_)
      refine ev_get (v := .int (I q15 1)) S hK hM (ci := 1) (n := 3) (C := RX1) (T := TX1) hin1 rfl hg16 1 (by decide) lk278 rfl rfl rfl dX9_count_63 ?_
      obtain rfl := Option.some.inj hf
      subst hQ
      exact ev_iret S hr hlocks hK hZ hM dX9_count_66
    · have hf := it_n hf hc2
      refine (Classical.em (x1 = (2 : Int32))).elim (fun hc3 => ?_) (fun hc3 => ?_)
      · have hf := it_p hf hc3
        refine lv_tableIn (off := 66) (tgt := 67) hx hb dX9_count_1 (by rw [hc3]; decide) (by rw [hc3]; decide) (by rw [hc3]; rfl) (by decide) ?_
        refine lv_aload_n hx hb dX9_count_67 rfl (lv_at hl 0 rfl) ?_
        refine gd_e hf (fun hg17 hf => ?_)
        refine bd_e hf (fun q18 eq18 hf => ?_)
        refine ev_getP (v := q18) S hK hM (ci := 9) (n := 8) (C := RX9) (T := TX9) hin9 rfl hg17 0 (by decide) lk10 rfl rfl eq18 rfl dX9_count_68 ?_
        refine gd_e hf (fun hg19 hf => ?_)
        refine bd_e hf (fun q20 eq20 hf => ?_)
        refine ev_getP (v := q20) S hK hM (ci := 6) (n := 6) (C := RX6) (T := TX6) hin6 rfl hg19 5 (by decide) lk183 rfl rfl eq20 rfl dX9_count_71 ?_
        refine gd_e hf (fun hg21 hf => ?_)
        refine ev_get (v := .int (I q20 2)) S hK hM (ci := 1) (n := 3) (C := RX1) (T := TX1) hin1 rfl hg21 2 (by decide) lk281 rfl rfl rfl dX9_count_74 ?_
        obtain rfl := Option.some.inj hf
        subst hQ
        exact ev_iret S hr hlocks hK hZ hM dX9_count_77
      · have hf := it_n hf hc3
        refine (Classical.em (x1 = (3 : Int32))).elim (fun hc4 => ?_) (fun hc4 => ?_)
        · have hf := it_p hf hc4
          refine lv_tableIn (off := 77) (tgt := 78) hx hb dX9_count_1 (by rw [hc4]; decide) (by rw [hc4]; decide) (by rw [hc4]; rfl) (by decide) ?_
          refine lv_aload_n hx hb dX9_count_78 rfl (lv_at hl 0 rfl) ?_
          refine gd_e hf (fun hg22 hf => ?_)
          refine bd_e hf (fun q23 eq23 hf => ?_)
          refine ev_getP (v := q23) S hK hM (ci := 9) (n := 8) (C := RX9) (T := TX9) hin9 rfl hg22 0 (by decide) lk10 rfl rfl eq23 rfl dX9_count_79 ?_
          refine gd_e hf (fun hg24 hf => ?_)
          refine bd_e hf (fun q25 eq25 hf => ?_)
          refine ev_getP (v := q25) S hK hM (ci := 6) (n := 6) (C := RX6) (T := TX6) hin6 rfl hg24 5 (by decide) lk183 rfl rfl eq25 rfl dX9_count_82 ?_
          refine bd_e hf (fun r26 er26 hf => ?_)
          refine gd_e hf (fun hg27 hf => ?_)
          refine ev_calli (va_runV (As := []) (rest := []) S (c_X1_tileCount (l := l) I P q25 r26 er26) (cwV 0 hts (gi_v wa_4_114 wa_4_115 wa_4_116 wa_1_5 wa_4_117) rfl rfl rfl (by decide +kernel) ⟨Nat.le_of_ble_eq_true rfl, Nat.le_of_ble_eq_true rfl⟩) ⟨mm_B_blind, ev_recv hK hM (ci := 1) rfl hg27 rfl, fun U hU hW => ⟨rfl, mm_B_of hK hZ hM hU hW⟩⟩ rfl rfl hl.1 rfl (lv_room (Nat.le_of_ble_eq_true rfl)) dX9_count_85 ⟨Nat.zero_le _, Nat.zero_le _⟩) hM (fun H locs hM => ?_)
          obtain rfl := Option.some.inj hf
          subst hQ
          exact ev_iret S hr hlocks hK hZ hM dX9_count_88
        · have hf := it_n hf hc4
          refine (Classical.em (x1 = (4 : Int32))).elim (fun hc5 => ?_) (fun hc5 => ?_)
          · have hf := it_p hf hc5
            refine lv_tableIn (off := 88) (tgt := 89) hx hb dX9_count_1 (by rw [hc5]; decide) (by rw [hc5]; decide) (by rw [hc5]; rfl) (by decide) ?_
            refine lv_aload_n hx hb dX9_count_89 rfl (lv_at hl 0 rfl) ?_
            refine gd_e hf (fun hg28 hf => ?_)
            refine bd_e hf (fun q29 eq29 hf => ?_)
            refine ev_getP (v := q29) S hK hM (ci := 9) (n := 8) (C := RX9) (T := TX9) hin9 rfl hg28 0 (by decide) lk10 rfl rfl eq29 rfl dX9_count_90 ?_
            refine gd_e hf (fun hg30 hf => ?_)
            refine bd_e hf (fun q31 eq31 hf => ?_)
            refine ev_getP (v := q31) S hK hM (ci := 6) (n := 6) (C := RX6) (T := TX6) hin6 rfl hg30 3 (by decide) lk196 rfl rfl eq31 rfl dX9_count_93 ?_
            refine gd_e hf (fun hg32 hf => ?_)
            refine ev_get (v := .int (I q31 1)) S hK hM (ci := 5) (n := 2) (C := RX5) (T := TX5) hin5 rfl hg32 1 (by decide) lk206 rfl rfl rfl dX9_count_96 ?_
            obtain rfl := Option.some.inj hf
            subst hQ
            exact ev_iret S hr hlocks hK hZ hM dX9_count_99
          · have hf := it_n hf hc5
            refine (Classical.em (x1 = (5 : Int32))).elim (fun hc6 => ?_) (fun hc6 => ?_)
            · have hf := it_p hf hc6
              refine lv_tableIn (off := 99) (tgt := 100) hx hb dX9_count_1 (by rw [hc6]; decide) (by rw [hc6]; decide) (by rw [hc6]; rfl) (by decide) ?_
              refine lv_aload_n hx hb dX9_count_100 rfl (lv_at hl 0 rfl) ?_
              refine gd_e hf (fun hg33 hf => ?_)
              refine bd_e hf (fun q34 eq34 hf => ?_)
              refine ev_getP (v := q34) S hK hM (ci := 9) (n := 8) (C := RX9) (T := TX9) hin9 rfl hg33 0 (by decide) lk10 rfl rfl eq34 rfl dX9_count_101 ?_
              refine gd_e hf (fun hg35 hf => ?_)
              refine bd_e hf (fun q36 eq36 hf => ?_)
              refine ev_getP (v := q36) S hK hM (ci := 6) (n := 6) (C := RX6) (T := TX6) hin6 rfl hg35 4 (by decide) lk133 rfl rfl eq36 rfl dX9_count_104 ?_
              refine gd_e hf (fun hg37 hf => ?_)
              refine ev_get (v := .int (I q36 3)) S hK hM (ci := 2) (n := 4) (C := RX2) (T := TX2) hin2 rfl hg37 3 (by decide) lk287 rfl rfl rfl dX9_count_107 ?_
              obtain rfl := Option.some.inj hf
              subst hQ
              exact ev_iret S hr hlocks hK hZ hM dX9_count_110
            · have hf := it_n hf hc6
              refine (Classical.em (x1 = (6 : Int32))).elim (fun hc7 => ?_) (fun hc7 => ?_)
              · have hf := it_p hf hc7
                refine lv_tableIn (off := 110) (tgt := 111) hx hb dX9_count_1 (by rw [hc7]; decide) (by rw [hc7]; decide) (by rw [hc7]; rfl) (by decide) ?_
                refine lv_aload_n hx hb dX9_count_111 rfl (lv_at hl 0 rfl) ?_
                refine gd_e hf (fun hg38 hf => ?_)
                refine bd_e hf (fun q39 eq39 hf => ?_)
                refine ev_getP (v := q39) S hK hM (ci := 9) (n := 8) (C := RX9) (T := TX9) hin9 rfl hg38 0 (by decide) lk10 rfl rfl eq39 rfl dX9_count_112 ?_
                refine gd_e hf (fun hg40 hf => ?_)
                refine bd_e hf (fun q41 eq41 hf => ?_)
                refine ev_getP (v := q41) S hK hM (ci := 6) (n := 6) (C := RX6) (T := TX6) hin6 rfl hg40 4 (by decide) lk133 rfl rfl eq41 rfl dX9_count_115 ?_
                refine gd_e hf (fun hg42 hf => ?_)
                refine ev_get (v := .int (I q41 2)) S hK hM (ci := 2) (n := 4) (C := RX2) (T := TX2) hin2 rfl hg42 2 (by decide) lk290 rfl rfl rfl dX9_count_118 ?_
                obtain rfl := Option.some.inj hf
                subst hQ
                exact ev_iret S hr hlocks hK hZ hM dX9_count_121
              · have hf := it_n hf hc7
                refine (Classical.em (x1 = (7 : Int32))).elim (fun hc8 => ?_) (fun hc8 => ?_)
                · have hf := it_p hf hc8
                  refine lv_tableIn (off := 121) (tgt := 122) hx hb dX9_count_1 (by rw [hc8]; decide) (by rw [hc8]; decide) (by rw [hc8]; rfl) (by decide) ?_
                  refine lv_aload_n hx hb dX9_count_122 rfl (lv_at hl 0 rfl) ?_
                  refine gd_e hf (fun hg43 hf => ?_)
                  refine bd_e hf (fun q44 eq44 hf => ?_)
                  refine ev_getP (v := q44) S hK hM (ci := 9) (n := 8) (C := RX9) (T := TX9) hin9 rfl hg43 3 (by decide) lk26 rfl rfl eq44 rfl dX9_count_123 ?_
                  refine gd_e hf (fun hg45 hf => ?_)
                  refine ev_get (v := .int (I q44 1)) S hK hM (ci := 8) (n := 8) (C := RX8) (T := TX8) hin8 rfl hg45 1 (by decide) lk152 rfl rfl rfl dX9_count_126 ?_
                  obtain rfl := Option.some.inj hf
                  subst hQ
                  exact ev_iret S hr hlocks hK hZ hM dX9_count_129
                · have hf := it_n hf hc8
                  refine lv_tableOut (tgt := 130) hx hb dX9_count_1 (by have t0 := ne_t hc1 (y := 0) rfl; have t1 := ne_t hc2 (y := 1) rfl; have t2 := ne_t hc3 (y := 2) rfl; have t3 := ne_t hc4 (y := 3) rfl; have t4 := ne_t hc5 (y := 4) rfl; have t5 := ne_t hc6 (y := 5) rfl; have t6 := ne_t hc7 (y := 6) rfl; have t7 := ne_t hc8 (y := 7) rfl; omega) (by decide) ?_
                  refine lv_bipush (v := (-2 : Int32)) hx hb dX9_count_130 (by decide) ?_
                  obtain rfl := Option.some.inj hf
                  subst hQ
                  exact ev_iret S hr hlocks hK hZ hM dX9_count_132
noncomputable def fn_X9_sheet (K N : Nat → Nat) (I : Nat → Nat → Int32) (P : Nat → Nat → Option Nat) (a0 : Nat) (x1 : Int32) (x2 : Int32) (x3 : Int32) : Option (Int32 × (Nat → Nat → Int32)) := Option.bind (fn_X9_isSheet x1) (fun (r1 : Int32) => if r1 = 0 then (some ((-2 : Int32), I)) else (Option.bind (fn_X9_isWithin x2 (-1 : Int32) (1 : Int32)) (fun (r3 : Int32) => if r3 = 0 then (some ((-2 : Int32), I)) else (if x2 = (-1 : Int32) then (gd (K a0 = 10) (Option.bind (P a0 (4)) (fun q15 => gd (K q15 = 16 ∧ vp_in x1 (N q15)) (Option.bind (P q15 (x1.toNatClampNeg)) (fun q17 => Option.bind (fn_X7_become K N I P q17 (-1 : Int32) (0 : Int32)) (fun (r18 : (Nat → Nat → Int32)) => gd (K q17 = 8) (some ((1 : Int32), r18)))))))) else (if x3 ≤ (40 : Int32) then (if 0 ≤ x3 then (gd (K a0 = 10) (Option.bind (P a0 (4)) (fun q9 => gd (K q9 = 16 ∧ vp_in x1 (N q9)) (Option.bind (P q9 (x1.toNatClampNeg)) (fun q11 => Option.bind (fn_X7_become K N I P q11 x2 x3) (fun (r12 : (Nat → Nat → Int32)) => gd (K q11 = 8) (some ((1 : Int32), r12)))))))) else (some ((-14 : Int32), I))) else (some ((-2 : Int32), I)))))))
abbrev wz_X9_sheet : List Cond := Cond.code yX9_sheet cX9_sheet 4 (some .int) :: WA
abbrev rm_X9_sheet : Room := { frames := 3, cells := 0, slots := 0, locals := 57 }
set_option maxHeartbeats 4000000 in
set_option maxRecDepth 100000 in
theorem c_X9_sheet (I : Nat → Nat → Int32) (P : Nat → Nat → Option Nat) (a0 : Nat) (x1 : Int32) (x2 : Int32) (x3 : Int32) (res : Int32 × (Nat → Nat → Int32)) (hf : fn_X9_sheet K N I P a0 x1 x2 x3 = some res) : Met l yX9_sheet wz_X9_sheet rm_X9_sheet (va_Pc [.ref a0, .int x1, .int x2, .int x3] (mm_B D cs A L K N z w I P)) (va_Qi (fun r (_ : Unit) => r = res.1) (fun _ => mm_B D cs A L K N z w res.2 P) A) 0 0 A := by
  refine Met.ofW (cc := cX9_sheet) (maxL := 4) (ret := (some .int)) (by decide) rfl ?_
  intro p e s m args below meth c s₁ B hml hv
  obtain ⟨rfl, hBm⟩ := hv
  have hx := B.exec
  have hb := B.bytes
  have hr := B.returns
  have hts := atoms_spec (ws := wz_X9_sheet) B.pre
  have hWA : ∀ w ∈ WA, w.before ([.ref a0, .int x1, .int x2, .int x3] : List Value).toArray s = true := fun u9 h9 => hts u9 (List.mem_cons_of_mem _ h9)
  have hown : s.vm.findClass RX9 = some m.cls := findClass_of_methodNamed B.named
  have hlocks := B.notSynchronized
  have S : CallFix p m c cX9_sheet 4 s ([.ref a0, .int x1, .int x2, .int x3] : List Value).toArray wz_X9_sheet RX9 := ⟨hx, hb, hml, hown, hts⟩
  have hK := hBm.2.2.2.1
  have hZ := hBm.2.2.2.2
  have hM : mm_W D cs A L K N s.heap I P s.heap [] := ⟨hBm.1, hBm.2.1, hBm.2.2.1, va_S.rf⟩
  have hl := lv_entry ([.ref a0, .int x1, .int x2, .int x3]) (n := 4) (Nat.le_of_ble_eq_true rfl)
  rw [lg_entry_eq]
  generalize (lg_sl ([.ref a0, .int x1, .int x2, .int x3]) ++ List.replicate (4 - (lg_sl ([.ref a0, .int x1, .int x2, .int x3])).length) Slot.unset).toArray = ls at hl ⊢
  have hl : lv_has ls 4 [(0, .ref a0), (1, .int x1), (2, .int x2), (3, .int x3)] := hl
  have hin9 : ∀ w ∈ wsX90, w ∈ wz_X9_sheet := fun w h => List.mem_cons_of_mem _ (wu_X9 w h)
  have lk32 : (Cond.fieldLink RX9 32 RX9 "sheets" "[LRasterPainter$Sheet;").before ([.ref a0, .int x1, .int x2, .int x3] : List Value).toArray s = true := hWA _ wa_2_19
  generalize hQ : MQ below (va_Qi (fun r (_ : Unit) => r = res.1) (fun _ => mm_B D cs A L K N z w res.2 P) A) ([.ref a0, .int x1, .int x2, .int x3] : List Value).toArray s 0 0 A = QQ
  rw [fn_X9_sheet] at hf
  refine lv_iload_n hx hb dX9_sheet_0 rfl (lv_at hl 1 rfl) ?_
  refine bd_e hf (fun r1 er1 hf => ?_)
  refine ev_calli (va_runS (As := [.int x1]) (rest := []) S (c_X9_isSheet (l := l) I P x1 r1 er1) (va_cwS 1 hts (gi_s wa_4_55 wa_4_56 wa_1_1 wa_4_57) rfl rfl rfl (by decide +kernel) ⟨Nat.le_of_ble_eq_true rfl, Nat.le_of_ble_eq_true rfl⟩) ⟨mm_B_blind, fun U hU hW => ⟨rfl, mm_B_of hK hZ hM hU hW⟩⟩ rfl rfl hl.1 rfl (lv_room (Nat.le_of_ble_eq_true rfl)) dX9_sheet_1 ⟨Nat.zero_le _, Nat.zero_le _⟩) hM (fun H locs hM => ?_)
  refine lv_if_eq (tgt := 16) hx hb dX9_sheet_4 (by decide) (fun hc2 => ?_) (fun hc2 => ?_)
  · have hf := it_p hf hc2
    refine lv_bipush (v := (-2 : Int32)) hx hb dX9_sheet_16 (by decide) ?_
    obtain rfl := Option.some.inj hf
    subst hQ
    exact ev_iret S hr hlocks hK hZ hM dX9_sheet_18
  · have hf := it_n hf hc2
    refine lv_iload_n hx hb dX9_sheet_7 rfl (lv_at hl 2 rfl) ?_
    refine lv_iconst (v := (-1 : Int32)) hx hb dX9_sheet_8 (by decide) ?_
    refine lv_iconst (v := (1 : Int32)) hx hb dX9_sheet_9 (by decide) ?_
    refine bd_e hf (fun r3 er3 hf => ?_)
    refine ev_calli (va_runS (As := [.int x2, .int (-1 : Int32), .int (1 : Int32)]) (rest := []) S (c_X9_isWithin (l := l) I P x2 (-1 : Int32) (1 : Int32) r3 er3) (va_cwS 3 hts (gi_s wa_2_47 wa_2_48 wa_1_1 wa_2_49) rfl rfl rfl (by decide +kernel) ⟨Nat.le_of_ble_eq_true rfl, Nat.le_of_ble_eq_true rfl⟩) ⟨mm_B_blind, fun U hU hW => ⟨rfl, mm_B_of hK hZ hM hU hW⟩⟩ rfl rfl hl.1 rfl (lv_room (Nat.le_of_ble_eq_true rfl)) dX9_sheet_10 ⟨Nat.zero_le _, Nat.zero_le _⟩) hM (fun H locs hM => ?_)
    refine lv_if_ne (tgt := 19) hx hb dX9_sheet_13 (by decide) (fun hc4 => ?_) (fun hc4 => ?_)
    · have hf := it_n hf hc4
      refine lv_iload_n hx hb dX9_sheet_19 rfl (lv_at hl 2 rfl) ?_
      refine lv_iconst (v := (-1 : Int32)) hx hb dX9_sheet_20 (by decide) ?_
      refine lv_icmp_ne (tgt := 37) hx hb dX9_sheet_21 (by decide) (fun hc5 => ?_) (fun hc5 => ?_)
      · have hf := it_n hf hc5
        refine lv_iload_n hx hb dX9_sheet_37 rfl (lv_at hl 3 rfl) ?_
        refine lv_bipush (v := (40 : Int32)) hx hb dX9_sheet_38 (by decide) ?_
        refine lv_icmp_le (tgt := 46) hx hb dX9_sheet_40 (by decide) (fun hc6 => ?_) (fun hc6 => ?_)
        · have hf := it_p hf hc6
          refine lv_iload_n hx hb dX9_sheet_46 rfl (lv_at hl 3 rfl) ?_
          refine lv_if_ge (tgt := 53) hx hb dX9_sheet_47 (by decide) (fun hc7 => ?_) (fun hc7 => ?_)
          · have hf := it_p hf hc7
            refine lv_aload_n hx hb dX9_sheet_53 rfl (lv_at hl 0 rfl) ?_
            refine gd_e hf (fun hg8 hf => ?_)
            refine bd_e hf (fun q9 eq9 hf => ?_)
            refine ev_getP (v := q9) S hK hM (ci := 9) (n := 8) (C := RX9) (T := TX9) hin9 rfl hg8 4 (by decide) lk32 rfl rfl eq9 rfl dX9_sheet_54 ?_
            refine lv_iload_n hx hb dX9_sheet_57 rfl (lv_at hl 1 rfl) ?_
            refine gd_e hf (fun hg10 hf => ?_)
            refine bd_e hf (fun q11 eq11 hf => ?_)
            refine ev_aald16 S hK hM hg10 (j := x1.toNatClampNeg) rfl eq11 dX9_sheet_58 ?_
            refine lv_iload_n hx hb dX9_sheet_59 rfl (lv_at hl 2 rfl) ?_
            refine lv_iload_n hx hb dX9_sheet_60 rfl (lv_at hl 3 rfl) ?_
            refine bd_e hf (fun r12 er12 hf => ?_)
            refine gd_e hf (fun hg13 hf => ?_)
            refine ev_callv (va_runV (As := [.int x2, .int x3]) (rest := []) S (c_X7_become (l := l) I P q11 x2 x3 r12 er12) (cwV 2 hts (gi_v wa_4_78 wa_4_79 wa_4_80 wa_1_9 wa_4_81) rfl rfl rfl (by decide +kernel) ⟨Nat.le_of_ble_eq_true rfl, Nat.le_of_ble_eq_true rfl⟩) ⟨mm_B_blind, ev_recv hK hM (ci := 7) rfl hg13 rfl, fun U hU hW => ⟨rfl, mm_B_of hK hZ hM hU hW⟩⟩ rfl rfl hl.1 rfl (lv_room (Nat.le_of_ble_eq_true rfl)) dX9_sheet_61 ⟨Nat.zero_le _, Nat.zero_le _⟩) hM (fun H locs hM => ?_)
            refine lv_iconst (v := (1 : Int32)) hx hb dX9_sheet_64 (by decide) ?_
            obtain rfl := Option.some.inj hf
            subst hQ
            exact ev_iret S hr hlocks hK hZ hM dX9_sheet_65
          · have hf := it_n hf hc7
            refine lv_bipush (v := (-14 : Int32)) hx hb dX9_sheet_50 (by decide) ?_
            obtain rfl := Option.some.inj hf
            subst hQ
            exact ev_iret S hr hlocks hK hZ hM dX9_sheet_52
        · have hf := it_n hf hc6
          refine lv_bipush (v := (-2 : Int32)) hx hb dX9_sheet_43 (by decide) ?_
          obtain rfl := Option.some.inj hf
          subst hQ
          exact ev_iret S hr hlocks hK hZ hM dX9_sheet_45
      · have hf := it_p hf hc5
        refine lv_aload_n hx hb dX9_sheet_24 rfl (lv_at hl 0 rfl) ?_
        refine gd_e hf (fun hg14 hf => ?_)
        refine bd_e hf (fun q15 eq15 hf => ?_)
        refine ev_getP (v := q15) S hK hM (ci := 9) (n := 8) (C := RX9) (T := TX9) hin9 rfl hg14 4 (by decide) lk32 rfl rfl eq15 rfl dX9_sheet_25 ?_
        refine lv_iload_n hx hb dX9_sheet_28 rfl (lv_at hl 1 rfl) ?_
        refine gd_e hf (fun hg16 hf => ?_)
        refine bd_e hf (fun q17 eq17 hf => ?_)
        refine ev_aald16 S hK hM hg16 (j := x1.toNatClampNeg) rfl eq17 dX9_sheet_29 ?_
        refine lv_iconst (v := (-1 : Int32)) hx hb dX9_sheet_30 (by decide) ?_
        refine lv_iconst (v := (0 : Int32)) hx hb dX9_sheet_31 (by decide) ?_
        refine bd_e hf (fun r18 er18 hf => ?_)
        refine gd_e hf (fun hg19 hf => ?_)
        refine ev_callv (va_runV (As := [.int (-1 : Int32), .int (0 : Int32)]) (rest := []) S (c_X7_become (l := l) I P q17 (-1 : Int32) (0 : Int32) r18 er18) (cwV 2 hts (gi_v wa_4_78 wa_4_79 wa_4_80 wa_1_9 wa_4_81) rfl rfl rfl (by decide +kernel) ⟨Nat.le_of_ble_eq_true rfl, Nat.le_of_ble_eq_true rfl⟩) ⟨mm_B_blind, ev_recv hK hM (ci := 7) rfl hg19 rfl, fun U hU hW => ⟨rfl, mm_B_of hK hZ hM hU hW⟩⟩ rfl rfl hl.1 rfl (lv_room (Nat.le_of_ble_eq_true rfl)) dX9_sheet_32 ⟨Nat.zero_le _, Nat.zero_le _⟩) hM (fun H locs hM => ?_)
        refine lv_iconst (v := (1 : Int32)) hx hb dX9_sheet_35 (by decide) ?_
        obtain rfl := Option.some.inj hf
        subst hQ
        exact ev_iret S hr hlocks hK hZ hM dX9_sheet_36
    · have hf := it_p hf hc4
      refine lv_bipush (v := (-2 : Int32)) hx hb dX9_sheet_16 (by decide) ?_
      obtain rfl := Option.some.inj hf
      subst hQ
      exact ev_iret S hr hlocks hK hZ hM dX9_sheet_18
noncomputable def fn_X9_put (K N : Nat → Nat) (I : Nat → Nat → Int32) (P : Nat → Nat → Option Nat) (a0 : Nat) (x1 : Int32) (x2 : Int32) (x3 : Int32) : Option (Int32 × (Nat → Nat → Int32)) := Option.bind (fn_X9_isSheet x1) (fun (r1 : Int32) => if r1 = 0 then (some ((-2 : Int32), I)) else (gd (K a0 = 10) (Option.bind (P a0 (4)) (fun q4 => gd (K q4 = 16 ∧ vp_in x1 (N q4)) (Option.bind (P q4 (x1.toNatClampNeg)) (fun q6 => Option.bind (fn_X7_isMissing K N I P q6) (fun (r7 : Int32) => gd (K q6 = 8) (if r7 = 0 then (if x2 < 0 then (some ((-12 : Int32), I)) else (if x2 < (I q6 1) then (Option.bind (fn_X7_set K N I P q6 x2 x3) (fun (r12 : (Nat → Nat → Int32)) => some ((1 : Int32), r12))) else (some ((-12 : Int32), I)))) else (some ((-11 : Int32), I))))))))))
abbrev wz_X9_put : List Cond := Cond.code yX9_put cX9_put 5 (some .int) :: WA
abbrev rm_X9_put : Room := { frames := 3, cells := 0, slots := 0, locals := 54 }
set_option maxHeartbeats 4000000 in
set_option maxRecDepth 100000 in
theorem c_X9_put (I : Nat → Nat → Int32) (P : Nat → Nat → Option Nat) (a0 : Nat) (x1 : Int32) (x2 : Int32) (x3 : Int32) (res : Int32 × (Nat → Nat → Int32)) (hf : fn_X9_put K N I P a0 x1 x2 x3 = some res) : Met l yX9_put wz_X9_put rm_X9_put (va_Pc [.ref a0, .int x1, .int x2, .int x3] (mm_B D cs A L K N z w I P)) (va_Qi (fun r (_ : Unit) => r = res.1) (fun _ => mm_B D cs A L K N z w res.2 P) A) 0 0 A := by
  refine Met.ofW (cc := cX9_put) (maxL := 5) (ret := (some .int)) (by decide) rfl ?_
  intro p e s m args below meth c s₁ B hml hv
  obtain ⟨rfl, hBm⟩ := hv
  have hx := B.exec
  have hb := B.bytes
  have hr := B.returns
  have hts := atoms_spec (ws := wz_X9_put) B.pre
  have hWA : ∀ w ∈ WA, w.before ([.ref a0, .int x1, .int x2, .int x3] : List Value).toArray s = true := fun u9 h9 => hts u9 (List.mem_cons_of_mem _ h9)
  have hown : s.vm.findClass RX9 = some m.cls := findClass_of_methodNamed B.named
  have hlocks := B.notSynchronized
  have S : CallFix p m c cX9_put 5 s ([.ref a0, .int x1, .int x2, .int x3] : List Value).toArray wz_X9_put RX9 := ⟨hx, hb, hml, hown, hts⟩
  have hK := hBm.2.2.2.1
  have hZ := hBm.2.2.2.2
  have hM : mm_W D cs A L K N s.heap I P s.heap [] := ⟨hBm.1, hBm.2.1, hBm.2.2.1, va_S.rf⟩
  have hl := lv_entry ([.ref a0, .int x1, .int x2, .int x3]) (n := 5) (Nat.le_of_ble_eq_true rfl)
  rw [lg_entry_eq]
  generalize (lg_sl ([.ref a0, .int x1, .int x2, .int x3]) ++ List.replicate (5 - (lg_sl ([.ref a0, .int x1, .int x2, .int x3])).length) Slot.unset).toArray = ls at hl ⊢
  have hl : lv_has ls 5 [(0, .ref a0), (1, .int x1), (2, .int x2), (3, .int x3)] := hl
  have hin9 : ∀ w ∈ wsX90, w ∈ wz_X9_put := fun w h => List.mem_cons_of_mem _ (wu_X9 w h)
  have hin7 : ∀ w ∈ wsX70, w ∈ wz_X9_put := fun w h => List.mem_cons_of_mem _ (wu_X7 w h)
  have lk32 : (Cond.fieldLink RX9 32 RX9 "sheets" "[LRasterPainter$Sheet;").before ([.ref a0, .int x1, .int x2, .int x3] : List Value).toArray s = true := hWA _ wa_2_19
  have lk254 : (Cond.fieldLink RX9 254 RX7 "size" "I").before ([.ref a0, .int x1, .int x2, .int x3] : List Value).toArray s = true := hWA _ wa_1_222
  generalize hQ : MQ below (va_Qi (fun r (_ : Unit) => r = res.1) (fun _ => mm_B D cs A L K N z w res.2 P) A) ([.ref a0, .int x1, .int x2, .int x3] : List Value).toArray s 0 0 A = QQ
  rw [fn_X9_put] at hf
  refine lv_iload_n hx hb dX9_put_0 rfl (lv_at hl 1 rfl) ?_
  refine bd_e hf (fun r1 er1 hf => ?_)
  refine ev_calli (va_runS (As := [.int x1]) (rest := []) S (c_X9_isSheet (l := l) I P x1 r1 er1) (va_cwS 1 hts (gi_s wa_4_55 wa_4_56 wa_1_1 wa_4_57) rfl rfl rfl (by decide +kernel) ⟨Nat.le_of_ble_eq_true rfl, Nat.le_of_ble_eq_true rfl⟩) ⟨mm_B_blind, fun U hU hW => ⟨rfl, mm_B_of hK hZ hM hU hW⟩⟩ rfl rfl hl.1 rfl (lv_room (Nat.le_of_ble_eq_true rfl)) dX9_put_1 ⟨Nat.zero_le _, Nat.zero_le _⟩) hM (fun H locs hM => ?_)
  refine lv_if_ne (tgt := 10) hx hb dX9_put_4 (by decide) (fun hc2 => ?_) (fun hc2 => ?_)
  · have hf := it_n hf hc2
    refine lv_aload_n hx hb dX9_put_10 rfl (lv_at hl 0 rfl) ?_
    refine gd_e hf (fun hg3 hf => ?_)
    refine bd_e hf (fun q4 eq4 hf => ?_)
    refine ev_getP (v := q4) S hK hM (ci := 9) (n := 8) (C := RX9) (T := TX9) hin9 rfl hg3 4 (by decide) lk32 rfl rfl eq4 rfl dX9_put_11 ?_
    refine lv_iload_n hx hb dX9_put_14 rfl (lv_at hl 1 rfl) ?_
    refine gd_e hf (fun hg5 hf => ?_)
    refine bd_e hf (fun q6 eq6 hf => ?_)
    refine ev_aald16 S hK hM hg5 (j := x1.toNatClampNeg) rfl eq6 dX9_put_15 ?_
    refine lv_astore (lv' := [(4, .ref q6), (0, .ref a0), (1, .int x1), (2, .int x2), (3, .int x3)]) hx hb dX9_put_16 hl (by decide) rfl (fun ls hl => ?_)
    refine lv_aload hx hb dX9_put_18 (lv_at hl 0 rfl) ?_
    refine bd_e hf (fun r7 er7 hf => ?_)
    refine gd_e hf (fun hg8 hf => ?_)
    refine ev_calli (va_runV (As := []) (rest := []) S (c_X7_isMissing (l := l) I P q6 r7 er7) (cwV 0 hts (gi_v wa_4_58 wa_4_59 wa_4_60 wa_1_9 wa_4_61) rfl rfl rfl (by decide +kernel) ⟨Nat.le_of_ble_eq_true rfl, Nat.le_of_ble_eq_true rfl⟩) ⟨mm_B_blind, ev_recv hK hM (ci := 7) rfl hg8 rfl, fun U hU hW => ⟨rfl, mm_B_of hK hZ hM hU hW⟩⟩ rfl rfl hl.1 rfl (lv_room (Nat.le_of_ble_eq_true rfl)) dX9_put_20 ⟨Nat.zero_le _, Nat.zero_le _⟩) hM (fun H locs hM => ?_)
    refine lv_if_eq (tgt := 29) hx hb dX9_put_23 (by decide) (fun hc9 => ?_) (fun hc9 => ?_)
    · have hf := it_p hf hc9
      refine lv_iload_n hx hb dX9_put_29 rfl (lv_at hl 3 rfl) ?_
      refine lv_if_lt (tgt := 42) hx hb dX9_put_30 (by decide) (fun hc10 => ?_) (fun hc10 => ?_)
      · have hf := it_p hf hc10
        refine lv_bipush (v := (-12 : Int32)) hx hb dX9_put_42 (by decide) ?_
        obtain rfl := Option.some.inj hf
        subst hQ
        exact ev_iret S hr hlocks hK hZ hM dX9_put_44
      · have hf := it_n hf hc10
        refine lv_iload_n hx hb dX9_put_33 rfl (lv_at hl 3 rfl) ?_
        refine lv_aload hx hb dX9_put_34 (lv_at hl 0 rfl) ?_
        refine ev_get (v := .int (I q6 1)) S hK hM (ci := 7) (n := 3) (C := RX7) (T := TX7) hin7 rfl hg8 1 (by decide) lk254 rfl rfl rfl dX9_put_36 ?_
        refine lv_icmp_lt (tgt := 45) hx hb dX9_put_39 (by decide) (fun hc11 => ?_) (fun hc11 => ?_)
        · have hf := it_p hf hc11
          refine lv_aload hx hb dX9_put_45 (lv_at hl 0 rfl) ?_
          refine lv_iload_n hx hb dX9_put_47 rfl (lv_at hl 3 rfl) ?_
          refine lv_iload_n hx hb dX9_put_48 rfl (lv_at hl 4 rfl) ?_
          refine bd_e hf (fun r12 er12 hf => ?_)
          refine ev_callv (va_runV (As := [.int x2, .int x3]) (rest := []) S (c_X7_set (l := l) I P q6 x2 x3 r12 er12) (cwV 2 hts (gi_v wa_4_83 wa_4_84 wa_4_85 wa_1_9 wa_4_86) rfl rfl rfl (by decide +kernel) ⟨Nat.le_of_ble_eq_true rfl, Nat.le_of_ble_eq_true rfl⟩) ⟨mm_B_blind, ev_recv hK hM (ci := 7) rfl hg8 rfl, fun U hU hW => ⟨rfl, mm_B_of hK hZ hM hU hW⟩⟩ rfl rfl hl.1 rfl (lv_room (Nat.le_of_ble_eq_true rfl)) dX9_put_49 ⟨Nat.zero_le _, Nat.zero_le _⟩) hM (fun H locs hM => ?_)
          refine lv_iconst (v := (1 : Int32)) hx hb dX9_put_52 (by decide) ?_
          obtain rfl := Option.some.inj hf
          subst hQ
          exact ev_iret S hr hlocks hK hZ hM dX9_put_53
        · have hf := it_n hf hc11
          refine lv_bipush (v := (-12 : Int32)) hx hb dX9_put_42 (by decide) ?_
          obtain rfl := Option.some.inj hf
          subst hQ
          exact ev_iret S hr hlocks hK hZ hM dX9_put_44
    · have hf := it_n hf hc9
      refine lv_bipush (v := (-11 : Int32)) hx hb dX9_put_26 (by decide) ?_
      obtain rfl := Option.some.inj hf
      subst hQ
      exact ev_iret S hr hlocks hK hZ hM dX9_put_28
  · have hf := it_p hf hc2
    refine lv_bipush (v := (-2 : Int32)) hx hb dX9_put_7 (by decide) ?_
    obtain rfl := Option.some.inj hf
    subst hQ
    exact ev_iret S hr hlocks hK hZ hM dX9_put_9
noncomputable def fn_X9_copy (K N : Nat → Nat) (I : Nat → Nat → Int32) (P : Nat → Nat → Option Nat) (a0 : Nat) (x1 : Int32) (x2 : Int32) (x3 : Int32) (x4 : Int32) (x5 : Int32) : Option (Int32 × (Nat → Nat → Int32)) := Option.bind (fn_X9_isSheet x1) (fun (r1 : Int32) => if r1 = 0 then (some ((-2 : Int32), I)) else (Option.bind (fn_X9_isSheet x3) (fun (r3 : Int32) => if r3 = 0 then (some ((-2 : Int32), I)) else (gd (K a0 = 10) (Option.bind (P a0 (4)) (fun q6 => gd (K q6 = 16 ∧ vp_in x1 (N q6)) (Option.bind (P q6 (x1.toNatClampNeg)) (fun q8 => gd (K q6 = 16 ∧ vp_in x3 (N q6)) (Option.bind (P q6 (x3.toNatClampNeg)) (fun q10 => Option.bind (fn_X7_isMissing K N I P q8) (fun (r11 : Int32) => gd (K q8 = 8) (if r11 = 0 then (Option.bind (fn_X7_isMissing K N I P q10) (fun (r14 : Int32) => gd (K q10 = 8) (if r14 = 0 then (if (I q8 0) = (I q10 0) then (Option.bind (fn_X7_hasPart K N I P q8 x2 x5) (fun (r18 : Int32) => if r18 = 0 then (some ((-12 : Int32), I)) else (Option.bind (fn_X7_hasPart K N I P q10 x4 x5) (fun (r20 : Int32) => if r20 = 0 then (some ((-12 : Int32), I)) else (Option.bind (P q8 (2)) (fun q22 => Option.bind (P q10 (2)) (fun q23 => gd (cpg K N q22 x2 q23 x4 x5) (Option.bind (some (cp2 I q22 (x2.toNatClampNeg) q23 (x4.toNatClampNeg) (x5.toNatClampNeg))) (fun I25 => some (x5, I25)))))))))) else (some ((-13 : Int32), I))) else (some ((-11 : Int32), I))))) else (some ((-11 : Int32), I))))))))))))))
abbrev wz_X9_copy : List Cond := Cond.code yX9_copy cX9_copy 8 (some .int) :: WA
abbrev rm_X9_copy : Room := { frames := 3, cells := 0, slots := 0, locals := 60 }
set_option maxHeartbeats 4000000 in
set_option maxRecDepth 100000 in
theorem c_X9_copy (I : Nat → Nat → Int32) (P : Nat → Nat → Option Nat) (a0 : Nat) (x1 : Int32) (x2 : Int32) (x3 : Int32) (x4 : Int32) (x5 : Int32) (res : Int32 × (Nat → Nat → Int32)) (hf : fn_X9_copy K N I P a0 x1 x2 x3 x4 x5 = some res) : Met l yX9_copy wz_X9_copy rm_X9_copy (va_Pc [.ref a0, .int x1, .int x2, .int x3, .int x4, .int x5] (mm_B D cs A L K N z w I P)) (va_Qi (fun r (_ : Unit) => r = res.1) (fun _ => mm_B D cs A L K N z w res.2 P) A) 0 0 A := by
  refine Met.ofW (cc := cX9_copy) (maxL := 8) (ret := (some .int)) (by decide) rfl ?_
  intro p e s m args below meth c s₁ B hml hv
  obtain ⟨rfl, hBm⟩ := hv
  have hx := B.exec
  have hb := B.bytes
  have hr := B.returns
  have hts := atoms_spec (ws := wz_X9_copy) B.pre
  have hWA : ∀ w ∈ WA, w.before ([.ref a0, .int x1, .int x2, .int x3, .int x4, .int x5] : List Value).toArray s = true := fun u9 h9 => hts u9 (List.mem_cons_of_mem _ h9)
  have hown : s.vm.findClass RX9 = some m.cls := findClass_of_methodNamed B.named
  have hlocks := B.notSynchronized
  have S : CallFix p m c cX9_copy 8 s ([.ref a0, .int x1, .int x2, .int x3, .int x4, .int x5] : List Value).toArray wz_X9_copy RX9 := ⟨hx, hb, hml, hown, hts⟩
  have hK := hBm.2.2.2.1
  have hZ := hBm.2.2.2.2
  have hM : mm_W D cs A L K N s.heap I P s.heap [] := ⟨hBm.1, hBm.2.1, hBm.2.2.1, va_S.rf⟩
  have hl := lv_entry ([.ref a0, .int x1, .int x2, .int x3, .int x4, .int x5]) (n := 8) (Nat.le_of_ble_eq_true rfl)
  rw [lg_entry_eq]
  generalize (lg_sl ([.ref a0, .int x1, .int x2, .int x3, .int x4, .int x5]) ++ List.replicate (8 - (lg_sl ([.ref a0, .int x1, .int x2, .int x3, .int x4, .int x5])).length) Slot.unset).toArray = ls at hl ⊢
  have hl : lv_has ls 8 [(0, .ref a0), (1, .int x1), (2, .int x2), (3, .int x3), (4, .int x4), (5, .int x5)] := hl
  have hin9 : ∀ w ∈ wsX90, w ∈ wz_X9_copy := fun w h => List.mem_cons_of_mem _ (wu_X9 w h)
  have hin7 : ∀ w ∈ wsX70, w ∈ wz_X9_copy := fun w h => List.mem_cons_of_mem _ (wu_X7 w h)
  have lk32 : (Cond.fieldLink RX9 32 RX9 "sheets" "[LRasterPainter$Sheet;").before ([.ref a0, .int x1, .int x2, .int x3, .int x4, .int x5] : List Value).toArray s = true := hWA _ wa_2_19
  have lk293 : (Cond.fieldLink RX9 293 RX7 "sort" "I").before ([.ref a0, .int x1, .int x2, .int x3, .int x4, .int x5] : List Value).toArray s = true := hWA _ wa_1_220
  have lk299 : (Cond.fieldLink RX9 299 RX7 "items" "[I").before ([.ref a0, .int x1, .int x2, .int x3, .int x4, .int x5] : List Value).toArray s = true := hWA _ wa_1_224
  generalize hQ : MQ below (va_Qi (fun r (_ : Unit) => r = res.1) (fun _ => mm_B D cs A L K N z w res.2 P) A) ([.ref a0, .int x1, .int x2, .int x3, .int x4, .int x5] : List Value).toArray s 0 0 A = QQ
  rw [fn_X9_copy] at hf
  refine lv_iload_n hx hb dX9_copy_0 rfl (lv_at hl 1 rfl) ?_
  refine bd_e hf (fun r1 er1 hf => ?_)
  refine ev_calli (va_runS (As := [.int x1]) (rest := []) S (c_X9_isSheet (l := l) I P x1 r1 er1) (va_cwS 1 hts (gi_s wa_4_55 wa_4_56 wa_1_1 wa_4_57) rfl rfl rfl (by decide +kernel) ⟨Nat.le_of_ble_eq_true rfl, Nat.le_of_ble_eq_true rfl⟩) ⟨mm_B_blind, fun U hU hW => ⟨rfl, mm_B_of hK hZ hM hU hW⟩⟩ rfl rfl hl.1 rfl (lv_room (Nat.le_of_ble_eq_true rfl)) dX9_copy_1 ⟨Nat.zero_le _, Nat.zero_le _⟩) hM (fun H locs hM => ?_)
  refine lv_if_eq (tgt := 14) hx hb dX9_copy_4 (by decide) (fun hc2 => ?_) (fun hc2 => ?_)
  · have hf := it_p hf hc2
    refine lv_bipush (v := (-2 : Int32)) hx hb dX9_copy_14 (by decide) ?_
    obtain rfl := Option.some.inj hf
    subst hQ
    exact ev_iret S hr hlocks hK hZ hM dX9_copy_16
  · have hf := it_n hf hc2
    refine lv_iload_n hx hb dX9_copy_7 rfl (lv_at hl 3 rfl) ?_
    refine bd_e hf (fun r3 er3 hf => ?_)
    refine ev_calli (va_runS (As := [.int x3]) (rest := []) S (c_X9_isSheet (l := l) I P x3 r3 er3) (va_cwS 1 hts (gi_s wa_4_55 wa_4_56 wa_1_1 wa_4_57) rfl rfl rfl (by decide +kernel) ⟨Nat.le_of_ble_eq_true rfl, Nat.le_of_ble_eq_true rfl⟩) ⟨mm_B_blind, fun U hU hW => ⟨rfl, mm_B_of hK hZ hM hU hW⟩⟩ rfl rfl hl.1 rfl (lv_room (Nat.le_of_ble_eq_true rfl)) dX9_copy_8 ⟨Nat.zero_le _, Nat.zero_le _⟩) hM (fun H locs hM => ?_)
    refine lv_if_ne (tgt := 17) hx hb dX9_copy_11 (by decide) (fun hc4 => ?_) (fun hc4 => ?_)
    · have hf := it_n hf hc4
      refine lv_aload_n hx hb dX9_copy_17 rfl (lv_at hl 0 rfl) ?_
      refine gd_e hf (fun hg5 hf => ?_)
      refine bd_e hf (fun q6 eq6 hf => ?_)
      refine ev_getP (v := q6) S hK hM (ci := 9) (n := 8) (C := RX9) (T := TX9) hin9 rfl hg5 4 (by decide) lk32 rfl rfl eq6 rfl dX9_copy_18 ?_
      refine lv_iload_n hx hb dX9_copy_21 rfl (lv_at hl 1 rfl) ?_
      refine gd_e hf (fun hg7 hf => ?_)
      refine bd_e hf (fun q8 eq8 hf => ?_)
      refine ev_aald16 S hK hM hg7 (j := x1.toNatClampNeg) rfl eq8 dX9_copy_22 ?_
      refine lv_astore (lv' := [(6, .ref q8), (0, .ref a0), (1, .int x1), (2, .int x2), (3, .int x3), (4, .int x4), (5, .int x5)]) hx hb dX9_copy_23 hl (by decide) rfl (fun ls hl => ?_)
      refine lv_aload_n hx hb dX9_copy_25 rfl (lv_at hl 1 rfl) ?_
      refine ev_getP (v := q6) S hK hM (ci := 9) (n := 8) (C := RX9) (T := TX9) hin9 rfl hg5 4 (by decide) lk32 rfl rfl eq6 rfl dX9_copy_26 ?_
      refine lv_iload_n hx hb dX9_copy_29 rfl (lv_at hl 4 rfl) ?_
      refine gd_e hf (fun hg9 hf => ?_)
      refine bd_e hf (fun q10 eq10 hf => ?_)
      refine ev_aald16 S hK hM hg9 (j := x3.toNatClampNeg) rfl eq10 dX9_copy_30 ?_
      refine lv_astore (lv' := [(7, .ref q10), (6, .ref q8), (0, .ref a0), (1, .int x1), (2, .int x2), (3, .int x3), (4, .int x4), (5, .int x5)]) hx hb dX9_copy_31 hl (by decide) rfl (fun ls hl => ?_)
      refine lv_aload hx hb dX9_copy_33 (lv_at hl 1 rfl) ?_
      refine bd_e hf (fun r11 er11 hf => ?_)
      refine gd_e hf (fun hg12 hf => ?_)
      refine ev_calli (va_runV (As := []) (rest := []) S (c_X7_isMissing (l := l) I P q8 r11 er11) (cwV 0 hts (gi_v wa_4_58 wa_4_59 wa_4_60 wa_1_9 wa_4_61) rfl rfl rfl (by decide +kernel) ⟨Nat.le_of_ble_eq_true rfl, Nat.le_of_ble_eq_true rfl⟩) ⟨mm_B_blind, ev_recv hK hM (ci := 7) rfl hg12 rfl, fun U hU hW => ⟨rfl, mm_B_of hK hZ hM hU hW⟩⟩ rfl rfl hl.1 rfl (lv_room (Nat.le_of_ble_eq_true rfl)) dX9_copy_35 ⟨Nat.zero_le _, Nat.zero_le _⟩) hM (fun H locs hM => ?_)
      refine lv_if_ne (tgt := 49) hx hb dX9_copy_38 (by decide) (fun hc13 => ?_) (fun hc13 => ?_)
      · have hf := it_n hf hc13
        refine lv_bipush (v := (-11 : Int32)) hx hb dX9_copy_49 (by decide) ?_
        obtain rfl := Option.some.inj hf
        subst hQ
        exact ev_iret S hr hlocks hK hZ hM dX9_copy_51
      · have hf := it_p hf hc13
        refine lv_aload hx hb dX9_copy_41 (lv_at hl 0 rfl) ?_
        refine bd_e hf (fun r14 er14 hf => ?_)
        refine gd_e hf (fun hg15 hf => ?_)
        refine ev_calli (va_runV (As := []) (rest := []) S (c_X7_isMissing (l := l) I P q10 r14 er14) (cwV 0 hts (gi_v wa_4_58 wa_4_59 wa_4_60 wa_1_9 wa_4_61) rfl rfl rfl (by decide +kernel) ⟨Nat.le_of_ble_eq_true rfl, Nat.le_of_ble_eq_true rfl⟩) ⟨mm_B_blind, ev_recv hK hM (ci := 7) rfl hg15 rfl, fun U hU hW => ⟨rfl, mm_B_of hK hZ hM hU hW⟩⟩ rfl rfl hl.1 rfl (lv_room (Nat.le_of_ble_eq_true rfl)) dX9_copy_43 ⟨Nat.zero_le _, Nat.zero_le _⟩) hM (fun H locs hM => ?_)
        refine lv_if_eq (tgt := 52) hx hb dX9_copy_46 (by decide) (fun hc16 => ?_) (fun hc16 => ?_)
        · have hf := it_p hf hc16
          refine lv_aload hx hb dX9_copy_52 (lv_at hl 1 rfl) ?_
          refine ev_get (v := .int (I q8 0)) S hK hM (ci := 7) (n := 3) (C := RX7) (T := TX7) hin7 rfl hg12 0 (by decide) lk293 rfl rfl rfl dX9_copy_54 ?_
          refine lv_aload hx hb dX9_copy_57 (lv_at hl 0 rfl) ?_
          refine ev_get (v := .int (I q10 0)) S hK hM (ci := 7) (n := 3) (C := RX7) (T := TX7) hin7 rfl hg15 0 (by decide) lk293 rfl rfl rfl dX9_copy_59 ?_
          refine lv_icmp_eq (tgt := 68) hx hb dX9_copy_62 (by decide) (fun hc17 => ?_) (fun hc17 => ?_)
          · have hf := it_p hf hc17
            refine lv_aload hx hb dX9_copy_68 (lv_at hl 1 rfl) ?_
            refine lv_iload_n hx hb dX9_copy_70 rfl (lv_at hl 4 rfl) ?_
            refine lv_iload hx hb dX9_copy_71 (lv_at hl 7 rfl) ?_
            refine bd_e hf (fun r18 er18 hf => ?_)
            refine ev_calli (va_runV (As := [.int x2, .int x5]) (rest := []) S (c_X7_hasPart (l := l) I P q8 x2 x5 r18 er18) (cwV 2 hts (gi_v wa_4_130 wa_4_131 wa_4_132 wa_1_9 wa_4_133) rfl rfl rfl (by decide +kernel) ⟨Nat.le_of_ble_eq_true rfl, Nat.le_of_ble_eq_true rfl⟩) ⟨mm_B_blind, ev_recv hK hM (ci := 7) rfl hg12 rfl, fun U hU hW => ⟨rfl, mm_B_of hK hZ hM hU hW⟩⟩ rfl rfl hl.1 rfl (lv_room (Nat.le_of_ble_eq_true rfl)) dX9_copy_73 ⟨Nat.zero_le _, Nat.zero_le _⟩) hM (fun H locs hM => ?_)
            refine lv_if_eq (tgt := 91) hx hb dX9_copy_76 (by decide) (fun hc19 => ?_) (fun hc19 => ?_)
            · have hf := it_p hf hc19
              refine lv_bipush (v := (-12 : Int32)) hx hb dX9_copy_91 (by decide) ?_
              obtain rfl := Option.some.inj hf
              subst hQ
              exact ev_iret S hr hlocks hK hZ hM dX9_copy_93
            · have hf := it_n hf hc19
              refine lv_aload hx hb dX9_copy_79 (lv_at hl 0 rfl) ?_
              refine lv_iload hx hb dX9_copy_81 (lv_at hl 6 rfl) ?_
              refine lv_iload hx hb dX9_copy_83 (lv_at hl 7 rfl) ?_
              refine bd_e hf (fun r20 er20 hf => ?_)
              refine ev_calli (va_runV (As := [.int x4, .int x5]) (rest := []) S (c_X7_hasPart (l := l) I P q10 x4 x5 r20 er20) (cwV 2 hts (gi_v wa_4_130 wa_4_131 wa_4_132 wa_1_9 wa_4_133) rfl rfl rfl (by decide +kernel) ⟨Nat.le_of_ble_eq_true rfl, Nat.le_of_ble_eq_true rfl⟩) ⟨mm_B_blind, ev_recv hK hM (ci := 7) rfl hg15 rfl, fun U hU hW => ⟨rfl, mm_B_of hK hZ hM hU hW⟩⟩ rfl rfl hl.1 rfl (lv_room (Nat.le_of_ble_eq_true rfl)) dX9_copy_85 ⟨Nat.zero_le _, Nat.zero_le _⟩) hM (fun H locs hM => ?_)
              refine lv_if_ne (tgt := 94) hx hb dX9_copy_88 (by decide) (fun hc21 => ?_) (fun hc21 => ?_)
              · have hf := it_n hf hc21
                refine lv_aload hx hb dX9_copy_94 (lv_at hl 1 rfl) ?_
                refine bd_e hf (fun q22 eq22 hf => ?_)
                refine ev_getP (v := q22) S hK hM (ci := 7) (n := 3) (C := RX7) (T := TX7) hin7 rfl hg12 2 (by decide) lk299 rfl rfl eq22 rfl dX9_copy_96 ?_
                refine lv_iload_n hx hb dX9_copy_99 rfl (lv_at hl 4 rfl) ?_
                refine lv_aload hx hb dX9_copy_100 (lv_at hl 0 rfl) ?_
                refine bd_e hf (fun q23 eq23 hf => ?_)
                refine ev_getP (v := q23) S hK hM (ci := 7) (n := 3) (C := RX7) (T := TX7) hin7 rfl hg15 2 (by decide) lk299 rfl rfl eq23 rfl dX9_copy_102 ?_
                refine lv_iload hx hb dX9_copy_105 (lv_at hl 6 rfl) ?_
                refine lv_iload hx hb dX9_copy_107 (lv_at hl 7 rfl) ?_
                refine gd_e hf (fun hg24 hf => ?_)
                refine ev_copy S hl.1.symm hK hM (hWA _ wa_4_134) (hWA _ wa_3_75) (hWA _ wa_3_74) (hWA _ wa_1_18) hg24 (j1 := x2.toNatClampNeg) (j2 := x4.toNatClampNeg) (j3 := x5.toNatClampNeg) rfl rfl rfl (Nat.le_of_ble_eq_true rfl) (Nat.le_of_ble_eq_true rfl) dX9_copy_109 (fun I25 eI25 H locs hM => ?_)
                have hf := nm_x eI25 hf
                refine lv_iload hx hb dX9_copy_112 (lv_at hl 7 rfl) ?_
                obtain rfl := Option.some.inj hf
                subst hQ
                exact ev_iret S hr hlocks hK hZ hM dX9_copy_114
              · have hf := it_p hf hc21
                refine lv_bipush (v := (-12 : Int32)) hx hb dX9_copy_91 (by decide) ?_
                obtain rfl := Option.some.inj hf
                subst hQ
                exact ev_iret S hr hlocks hK hZ hM dX9_copy_93
          · have hf := it_n hf hc17
            refine lv_bipush (v := (-13 : Int32)) hx hb dX9_copy_65 (by decide) ?_
            obtain rfl := Option.some.inj hf
            subst hQ
            exact ev_iret S hr hlocks hK hZ hM dX9_copy_67
        · have hf := it_n hf hc16
          refine lv_bipush (v := (-11 : Int32)) hx hb dX9_copy_49 (by decide) ?_
          obtain rfl := Option.some.inj hf
          subst hQ
          exact ev_iret S hr hlocks hK hZ hM dX9_copy_51
    · have hf := it_p hf hc4
      refine lv_bipush (v := (-2 : Int32)) hx hb dX9_copy_14 (by decide) ?_
      obtain rfl := Option.some.inj hf
      subst hQ
      exact ev_iret S hr hlocks hK hZ hM dX9_copy_16
end G04
