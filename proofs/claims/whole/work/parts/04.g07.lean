section G07
variable {l : Launch} {D : va_G} {cs : mm_C} {A : Nat → Prop} {L : List Nat} {K N z : Nat → Nat} {w : Option Nat}
noncomputable def fn_X10_beside (x0 : Int32) (x1 : Int32) : Option (Int32) := Option.bind (if x1 = 0 then (some (-1 : Int32)) else (if x1 = (1 : Int32) then (some (1 : Int32)) else (some (0 : Int32)))) (fun (j2 : Int32) => Option.bind (some ((x0 - x0 / (16 : Int32) * (16 : Int32)) + j2)) (fun v3 => Option.bind (if x1 = (2 : Int32) then (some (-1 : Int32)) else (if x1 = (3 : Int32) then (some (1 : Int32)) else (some (0 : Int32)))) (fun (j5 : Int32) => Option.bind (some ((x0 / (16 : Int32)) + j5)) (fun v6 => Option.bind (fn_X10_isDot v3 v6) (fun (r7 : Int32) => if r7 = 0 then (some (-1 : Int32)) else (Option.bind (fn_X10_dotOf v3 v6) (fun (r9 : Int32) => some r9)))))))
abbrev wz_X10_beside : List Cond := Cond.code yX10_beside cX10_beside 4 (some .int) :: WA
abbrev rm_X10_beside : Room := { frames := 3, cells := 0, slots := 0, locals := 55 }
set_option maxHeartbeats 4000000 in
set_option maxRecDepth 100000 in
theorem c_X10_beside (I : Nat → Nat → Int32) (P : Nat → Nat → Option Nat) (x0 : Int32) (x1 : Int32) (res : Int32) (hf : fn_X10_beside x0 x1 = some res) : Met l yX10_beside wz_X10_beside rm_X10_beside (va_Pc [.int x0, .int x1] (mm_B D cs A L K N z w I P)) (va_Qi (fun r (_ : Unit) => r = res) (fun _ => mm_B D cs A L K N z w I P) A) 0 0 A := by
  refine Met.ofW (cc := cX10_beside) (maxL := 4) (ret := (some .int)) (by decide) rfl ?_
  intro p e s m args below meth c s₁ B hml hv
  obtain ⟨rfl, hBm⟩ := hv
  have hx := B.exec
  have hb := B.bytes
  have hr := B.returns
  have hts := atoms_spec (ws := wz_X10_beside) B.pre
  have hWA : ∀ w ∈ WA, w.before ([.int x0, .int x1] : List Value).toArray s = true := fun u9 h9 => hts u9 (List.mem_cons_of_mem _ h9)
  have hown : s.vm.findClass RX10 = some m.cls := findClass_of_methodNamed B.named
  have hlocks := B.notSynchronized
  have S : CallFix p m c cX10_beside 4 s ([.int x0, .int x1] : List Value).toArray wz_X10_beside RX10 := ⟨hx, hb, hml, hown, hts⟩
  have hK := hBm.2.2.2.1
  have hZ := hBm.2.2.2.2
  have hM : mm_W D cs A L K N s.heap I P s.heap [] := ⟨hBm.1, hBm.2.1, hBm.2.2.1, va_S.rf⟩
  have hl := lv_entry ([.int x0, .int x1]) (n := 4) (Nat.le_of_ble_eq_true rfl)
  rw [lg_entry_eq]
  generalize (lg_sl ([.int x0, .int x1]) ++ List.replicate (4 - (lg_sl ([.int x0, .int x1])).length) Slot.unset).toArray = ls at hl ⊢
  have hl : lv_has ls 4 [(0, .int x0), (1, .int x1)] := hl
  generalize hQ : MQ below (va_Qi (fun r (_ : Unit) => r = res) (fun _ => mm_B D cs A L K N z w I P) A) ([.int x0, .int x1] : List Value).toArray s 0 0 A = QQ
  unfold fn_X10_beside at hf
  refine lv_iload_n hx hb dX10_beside_0 rfl (lv_at hl 0 rfl) ?_
  refine lv_bipush (v := (16 : Int32)) hx hb dX10_beside_1 (by decide) ?_
  refine lv_irem hx hb dX10_beside_3 (by decide) ?_
  refine lv_iload_n hx hb dX10_beside_4 rfl (lv_at hl 1 rfl) ?_
  refine bd_e hf (fun j2 ej2 hf => ?_)
  have kj2 : ∀ (H : Heap) (locs : List Loc) (ls : Array Slot), mm_W D cs A L K N s.heap I P H locs → lv_has ls 4 [(0, .int x0), (1, .int x1)] → W p l e (headSpec wz_X10_beside rm_X10_beside).room s m ([.int x0, .int x1] : List Value).toArray below meth c H locs 0 0 QQ (F0 m 22 ls [.int j2, .int (x0 - x0 / (16 : Int32) * (16 : Int32))]) := by
    intro H locs ls hM hl
    refine lv_iadd hx hb dX10_beside_22 ?_
    refine lv_topi (fun v3 ev3 => ?_)
    have hf := nm_x ev3 hf
    refine lv_istore_n (lv' := [(2, .int v3), (0, .int x0), (1, .int x1)]) hx hb dX10_beside_23 rfl hl (by decide) rfl (fun ls hl => ?_)
    refine lv_iload_n hx hb dX10_beside_24 rfl (lv_at hl 1 rfl) ?_
    refine lv_bipush (v := (16 : Int32)) hx hb dX10_beside_25 (by decide) ?_
    refine lv_idiv hx hb dX10_beside_27 (by decide) ?_
    refine lv_iload_n hx hb dX10_beside_28 rfl (lv_at hl 2 rfl) ?_
    refine lv_iconst (v := (2 : Int32)) hx hb dX10_beside_29 (by decide) ?_
    refine bd_e hf (fun j5 ej5 hf => ?_)
    have kj5 : ∀ (H : Heap) (locs : List Loc) (ls : Array Slot), mm_W D cs A L K N s.heap I P H locs → lv_has ls 4 [(2, .int v3)] → W p l e (headSpec wz_X10_beside rm_X10_beside).room s m ([.int x0, .int x1] : List Value).toArray below meth c H locs 0 0 QQ (F0 m 47 ls [.int j5, .int (x0 / (16 : Int32))]) := by
      intro H locs ls hM hl
      refine lv_iadd hx hb dX10_beside_47 ?_
      refine lv_topi (fun v6 ev6 => ?_)
      have hf := nm_x ev6 hf
      refine lv_istore_n (lv' := [(3, .int v6), (2, .int v3)]) hx hb dX10_beside_48 rfl hl (by decide) rfl (fun ls hl => ?_)
      refine lv_iload_n hx hb dX10_beside_49 rfl (lv_at hl 1 rfl) ?_
      refine lv_iload_n hx hb dX10_beside_50 rfl (lv_at hl 0 rfl) ?_
      refine bd_e hf (fun r7 er7 hf => ?_)
      refine ev_calli (va_runS (As := [.int v3, .int v6]) (rest := []) S (c_X10_isDot (l := l) I P v3 v6 r7 er7) (va_cwS 2 hts (gi_s wa_5_40 wa_5_41 wa_1_11 wa_5_42) rfl rfl rfl (by decide +kernel) ⟨Nat.le_of_ble_eq_true rfl, Nat.le_of_ble_eq_true rfl⟩) ⟨mm_B_blind, fun U hU hW => ⟨rfl, mm_B_of hK hZ hM hU hW⟩⟩ rfl rfl hl.1 rfl (lv_room (Nat.le_of_ble_eq_true rfl)) dX10_beside_51 ⟨Nat.zero_le _, Nat.zero_le _⟩) hM (fun H locs hM => ?_)
      refine lv_if_eq (tgt := 65) hx hb dX10_beside_54 (by decide) (fun hc8 => ?_) (fun hc8 => ?_)
      · have hf := it_p hf hc8
        refine lv_iconst (v := (-1 : Int32)) hx hb dX10_beside_65 (by decide) ?_
        obtain rfl := Option.some.inj hf
        subst hQ
        exact ev_iret S hr hlocks hK hZ hM dX10_beside_66
      · have hf := it_n hf hc8
        refine lv_iload_n hx hb dX10_beside_57 rfl (lv_at hl 1 rfl) ?_
        refine lv_iload_n hx hb dX10_beside_58 rfl (lv_at hl 0 rfl) ?_
        refine bd_e hf (fun r9 er9 hf => ?_)
        refine ev_calli (va_runS (As := [.int v3, .int v6]) (rest := []) S (c_X10_dotOf (l := l) I P v3 v6 r9 er9) (va_cwS 2 hts (gi_s wa_5_43 wa_5_44 wa_1_11 wa_5_45) rfl rfl rfl (by decide +kernel) ⟨Nat.le_of_ble_eq_true rfl, Nat.le_of_ble_eq_true rfl⟩) ⟨mm_B_blind, fun U hU hW => ⟨rfl, mm_B_of hK hZ hM hU hW⟩⟩ rfl rfl hl.1 rfl (lv_room (Nat.le_of_ble_eq_true rfl)) dX10_beside_59 ⟨Nat.zero_le _, Nat.zero_le _⟩) hM (fun H locs hM => ?_)
        refine lv_goto (tgt := 66) hx hb dX10_beside_62 (by decide) ?_
        obtain rfl := Option.some.inj hf
        subst hQ
        exact ev_iret S hr hlocks hK hZ hM dX10_beside_66
    have hf := ej5
    refine lv_icmp_ne (tgt := 37) hx hb dX10_beside_30 (by decide) (fun hc4 => ?_) (fun hc4 => ?_)
    · have hf := it_n hf hc4
      refine lv_iload_n hx hb dX10_beside_37 rfl (lv_at hl 2 rfl) ?_
      refine lv_iconst (v := (3 : Int32)) hx hb dX10_beside_38 (by decide) ?_
      refine lv_icmp_ne (tgt := 46) hx hb dX10_beside_39 (by decide) (fun hc10 => ?_) (fun hc10 => ?_)
      · have hf := it_n hf hc10
        refine lv_iconst (v := (0 : Int32)) hx hb dX10_beside_46 (by decide) ?_
        obtain rfl := Option.some.inj hf
        exact kj5 _ _ _ hM (lv_sub hl [0] rfl)
      · have hf := it_p hf hc10
        refine lv_iconst (v := (1 : Int32)) hx hb dX10_beside_42 (by decide) ?_
        refine lv_goto (tgt := 47) hx hb dX10_beside_43 (by decide) ?_
        obtain rfl := Option.some.inj hf
        exact kj5 _ _ _ hM (lv_sub hl [0] rfl)
    · have hf := it_p hf hc4
      refine lv_iconst (v := (-1 : Int32)) hx hb dX10_beside_33 (by decide) ?_
      refine lv_goto (tgt := 47) hx hb dX10_beside_34 (by decide) ?_
      obtain rfl := Option.some.inj hf
      exact kj5 _ _ _ hM (lv_sub hl [0] rfl)
  have hf := ej2
  refine lv_if_ne (tgt := 12) hx hb dX10_beside_5 (by decide) (fun hc1 => ?_) (fun hc1 => ?_)
  · have hf := it_n hf hc1
    refine lv_iload_n hx hb dX10_beside_12 rfl (lv_at hl 1 rfl) ?_
    refine lv_iconst (v := (1 : Int32)) hx hb dX10_beside_13 (by decide) ?_
    refine lv_icmp_ne (tgt := 21) hx hb dX10_beside_14 (by decide) (fun hc11 => ?_) (fun hc11 => ?_)
    · have hf := it_n hf hc11
      refine lv_iconst (v := (0 : Int32)) hx hb dX10_beside_21 (by decide) ?_
      obtain rfl := Option.some.inj hf
      exact kj2 _ _ _ hM (hl)
    · have hf := it_p hf hc11
      refine lv_iconst (v := (1 : Int32)) hx hb dX10_beside_17 (by decide) ?_
      refine lv_goto (tgt := 22) hx hb dX10_beside_18 (by decide) ?_
      obtain rfl := Option.some.inj hf
      exact kj2 _ _ _ hM (hl)
  · have hf := it_p hf hc1
    refine lv_iconst (v := (-1 : Int32)) hx hb dX10_beside_8 (by decide) ?_
    refine lv_goto (tgt := 22) hx hb dX10_beside_9 (by decide) ?_
    obtain rfl := Option.some.inj hf
    exact kj2 _ _ _ hM (hl)
noncomputable def fn_X10_region_L10 (K : Nat → Nat) (N : Nat → Nat) (a0 : Nat) (P : Nat → Nat → Option Nat) : Nat → Int32 → (Nat → Nat → Int32) → Option ((Nat → Nat → Int32))
  | 0, _, _ => none
  | n + 1, v2, I3 => if (192 : Int32) ≤ v2 then (some I3) else (gd (K a0 = 11) (Option.bind (P a0 (16)) (fun q7 => gd (K q7 = 12 ∧ vp_in v2 (N q7)) (Option.bind (some (up2 I3 q7 (v2.toNatClampNeg) (0 : Int32))) (fun I9 => fn_X10_region_L10 K N a0 P n (v2 + (1 : Int32)) I9)))))
noncomputable def fn_X10_region_L64 (K : Nat → Nat) (N : Nat → Nat) (a0 : Nat) (x1 : Int32) (x4 : Int32) (P : Nat → Nat → Option Nat) (r1 : Int32) (q11 : Nat) (q14 : Nat) (v18 : Int32) : Nat → Int32 → Int32 → (Nat → Nat → Int32) → Option (Int32 × (Nat → Nat → Int32))
  | 0, _, _, _ => none
  | n + 1, v22, v23, I24 => if (4 : Int32) ≤ v23 then (some (v22, I24)) else (gd (K q14 = 12 ∧ vp_in v18 (N q14)) (Option.bind (fn_X10_beside (I24 q14 (v18.toNatClampNeg)) v23) (fun (r28 : Int32) => if r28 < 0 then (fn_X10_region_L64 K N a0 x1 x4 P r1 q11 q14 v18 n v22 (v23 + (1 : Int32)) I24) else (gd (K q11 = 12 ∧ vp_in r28 (N q11)) (if (I24 q11 (r28.toNatClampNeg)) = (1 : Int32) then (fn_X10_region_L64 K N a0 x1 x4 P r1 q11 q14 v18 n v22 (v23 + (1 : Int32)) I24) else (Option.bind (fn_X10_isLike K N I24 P a0 x1 r28 r1 x4) (fun (r32 : Int32) => if r32 = 0 then (fn_X10_region_L64 K N a0 x1 x4 P r1 q11 q14 v18 n v22 (v23 + (1 : Int32)) I24) else (Option.bind (some (up2 I24 q11 (r28.toNatClampNeg) (1 : Int32))) (fun I34 => gd (K q14 = 12 ∧ vp_in v22 (N q14)) (Option.bind (some (up2 I34 q14 (v22.toNatClampNeg) r28)) (fun I36 => fn_X10_region_L64 K N a0 x1 x4 P r1 q11 q14 v18 n (v22 + (1 : Int32)) (v23 + (1 : Int32)) I36)))))))))))
noncomputable def fn_X10_region_L54 (K : Nat → Nat) (N : Nat → Nat) (a0 : Nat) (x1 : Int32) (x4 : Int32) (P : Nat → Nat → Option Nat) (r1 : Int32) (q11 : Nat) (q14 : Nat) : Nat → Int32 → Int32 → (Nat → Nat → Int32) → Option ((Nat → Nat → Int32))
  | 0, _, _, _ => none
  | n + 1, v17, v18, I19 => if v17 ≤ v18 then (some I19) else (Option.bind (fn_X10_region_L64 K N a0 x1 x4 P r1 q11 q14 v18 FU v17 (0 : Int32) I19) (fun (r25 : Int32 × (Nat → Nat → Int32)) => fn_X10_region_L54 K N a0 x1 x4 P r1 q11 q14 n r25.1 (v18 + (1 : Int32)) r25.2))
noncomputable def fn_X10_region (K N : Nat → Nat) (I : Nat → Nat → Int32) (P : Nat → Nat → Option Nat) (a0 : Nat) (x1 : Int32) (x2 : Int32) (x3 : Int32) (x4 : Int32) : Option ((Nat → Nat → Int32)) := Option.bind (fn_X10_dotOf x2 x3) (fun (r1 : Int32) => Option.bind (fn_X10_region_L10 K N a0 P FU (0 : Int32) I) (fun (r4 : (Nat → Nat → Int32)) => gd (K a0 = 11) (Option.bind (P a0 (16)) (fun q11 => gd (K q11 = 12 ∧ vp_in r1 (N q11)) (Option.bind (some (up2 r4 q11 (r1.toNatClampNeg) (1 : Int32))) (fun I13 => Option.bind (P a0 (17)) (fun q14 => gd (K q14 = 12 ∧ vp_in (0 : Int32) (N q14)) (Option.bind (some (up2 I13 q14 (0) r1)) (fun I16 => Option.bind (fn_X10_region_L54 K N a0 x1 x4 P r1 q11 q14 FU (1 : Int32) (0 : Int32) I16) (fun (r20 : (Nat → Nat → Int32)) => some r20))))))))))
abbrev wz_X10_region : List Cond := Cond.code yX10_region cX10_region 10 none :: WA
abbrev rm_X10_region : Room := { frames := 4, cells := 0, slots := 0, locals := 78 }
set_option maxHeartbeats 4000000 in
set_option maxRecDepth 100000 in
theorem c_X10_region (I : Nat → Nat → Int32) (P : Nat → Nat → Option Nat) (a0 : Nat) (x1 : Int32) (x2 : Int32) (x3 : Int32) (x4 : Int32) (res : (Nat → Nat → Int32)) (hf : fn_X10_region K N I P a0 x1 x2 x3 x4 = some res) : Met l yX10_region wz_X10_region rm_X10_region (va_Pc [.ref a0, .int x1, .int x2, .int x3, .int x4] (mm_B D cs A L K N z w I P)) (va_Qv (fun (_ : Unit) => True) (fun _ => mm_B D cs A L K N z w res P) A) 0 0 A := by
  refine Met.ofW (cc := cX10_region) (maxL := 10) (ret := none) (by decide) rfl ?_
  intro p e s m args below meth c s₁ B hml hv
  obtain ⟨rfl, hBm⟩ := hv
  have hx := B.exec
  have hb := B.bytes
  have hr := B.returns
  have hts := atoms_spec (ws := wz_X10_region) B.pre
  have hWA : ∀ w ∈ WA, w.before ([.ref a0, .int x1, .int x2, .int x3, .int x4] : List Value).toArray s = true := fun u9 h9 => hts u9 (List.mem_cons_of_mem _ h9)
  have hown : s.vm.findClass RX10 = some m.cls := findClass_of_methodNamed B.named
  have hlocks := B.notSynchronized
  have S : CallFix p m c cX10_region 10 s ([.ref a0, .int x1, .int x2, .int x3, .int x4] : List Value).toArray wz_X10_region RX10 := ⟨hx, hb, hml, hown, hts⟩
  have hK := hBm.2.2.2.1
  have hZ := hBm.2.2.2.2
  have hM : mm_W D cs A L K N s.heap I P s.heap [] := ⟨hBm.1, hBm.2.1, hBm.2.2.1, va_S.rf⟩
  have hl := lv_entry ([.ref a0, .int x1, .int x2, .int x3, .int x4]) (n := 10) (Nat.le_of_ble_eq_true rfl)
  rw [lg_entry_eq]
  generalize (lg_sl ([.ref a0, .int x1, .int x2, .int x3, .int x4]) ++ List.replicate (10 - (lg_sl ([.ref a0, .int x1, .int x2, .int x3, .int x4])).length) Slot.unset).toArray = ls at hl ⊢
  have hl : lv_has ls 10 [(0, .ref a0), (1, .int x1), (2, .int x2), (3, .int x3), (4, .int x4)] := hl
  have hin10 : ∀ w ∈ wsX100, w ∈ wz_X10_region := fun w h => List.mem_cons_of_mem _ (wu_X10 w h)
  have lk22 : (Cond.fieldLink RX10 22 RX10 "set" "[I").before ([.ref a0, .int x1, .int x2, .int x3, .int x4] : List Value).toArray s = true := hWA _ wa_4_157
  have lk25 : (Cond.fieldLink RX10 25 RX10 "open" "[I").before ([.ref a0, .int x1, .int x2, .int x3, .int x4] : List Value).toArray s = true := hWA _ wa_4_158
  generalize hQ : MQ below (va_Qv (fun (_ : Unit) => True) (fun _ => mm_B D cs A L K N z w res P) A) ([.ref a0, .int x1, .int x2, .int x3, .int x4] : List Value).toArray s 0 0 A = QQ
  rw [fn_X10_region] at hf
  refine lv_iload_n hx hb dX10_region_0 rfl (lv_at hl 2 rfl) ?_
  refine lv_iload_n hx hb dX10_region_1 rfl (lv_at hl 3 rfl) ?_
  refine bd_e hf (fun r1 er1 hf => ?_)
  refine ev_calli (va_runS (As := [.int x2, .int x3]) (rest := []) S (c_X10_dotOf (l := l) I P x2 x3 r1 er1) (va_cwS 2 hts (gi_s wa_5_43 wa_5_44 wa_1_11 wa_5_45) rfl rfl rfl (by decide +kernel) ⟨Nat.le_of_ble_eq_true rfl, Nat.le_of_ble_eq_true rfl⟩) ⟨mm_B_blind, fun U hU hW => ⟨rfl, mm_B_of hK hZ hM hU hW⟩⟩ rfl rfl hl.1 rfl (lv_room (Nat.le_of_ble_eq_true rfl)) dX10_region_2 ⟨Nat.zero_le _, Nat.zero_le _⟩) hM (fun H locs hM => ?_)
  refine lv_istore (lv' := [(5, .int r1), (0, .ref a0), (1, .int x1), (2, .int x2), (3, .int x3), (4, .int x4)]) hx hb dX10_region_5 hl (by decide) rfl (fun ls hl => ?_)
  refine lv_iconst (v := (0 : Int32)) hx hb dX10_region_7 (by decide) ?_
  refine lv_istore (lv' := [(6, .int (0 : Int32)), (5, .int r1), (0, .ref a0), (1, .int x1), (2, .int x2), (3, .int x3), (4, .int x4)]) hx hb dX10_region_8 hl (by decide) rfl (fun ls hl => ?_)
  have lp10_9 : ∀ (n : Nat) (v2 : Int32) (I3 : Nat → Nat → Int32) (H : Heap) (locs : List Loc) (ls : Array Slot) (r4 : (Nat → Nat → Int32)), mm_W D cs A L K N s.heap I3 P H locs → lv_has ls 10 [(0, .ref a0), (1, .int x1), (4, .int x4), (5, .int r1), (6, .int v2)] → fn_X10_region_L10 K N a0 P n v2 I3 = some r4 → (∀ (H : Heap) (locs : List Loc) (ls : Array Slot), mm_W D cs A L K N s.heap r4 P H locs → lv_has ls 10 [(0, .ref a0), (1, .int x1), (4, .int x4), (5, .int r1)] → W p l e (headSpec wz_X10_region rm_X10_region).room s m ([.ref a0, .int x1, .int x2, .int x3, .int x4] : List Value).toArray below meth c H locs 0 0 QQ (F0 m 32 ls [])) → W p l e (headSpec wz_X10_region rm_X10_region).room s m ([.ref a0, .int x1, .int x2, .int x3, .int x4] : List Value).toArray below meth c H locs 0 0 QQ (F0 m 10 ls []) := by
    intro n
    induction n with
    | zero => intro v2 I3 H locs ls r4 hM hl hf kk; exact nn_x (show (none : Option ((Nat → Nat → Int32))) = some r4 from hf)
    | succ n ih =>
      intro v2 I3 H locs ls r4 hM hl hf kk
      rw [fn_X10_region_L10] at hf
      refine lv_iload hx hb dX10_region_10 (lv_at hl 4 rfl) ?_
      refine lv_sipush (v := (192 : Int32)) hx hb dX10_region_12 (by decide) ?_
      refine lv_icmp_ge (tgt := 32) hx hb dX10_region_15 (by decide) (fun hc5 => ?_) (fun hc5 => ?_)
      · have hf := it_p hf hc5
        obtain rfl := Option.some.inj hf
        exact kk _ _ _ hM (lv_sub hl [0, 1, 2, 3] rfl)
      · have hf := it_n hf hc5
        refine lv_aload_n hx hb dX10_region_18 rfl (lv_at hl 0 rfl) ?_
        refine gd_e hf (fun hg6 hf => ?_)
        refine bd_e hf (fun q7 eq7 hf => ?_)
        refine ev_getP (v := q7) S hK hM (ci := 10) (n := 23) (C := RX10) (T := TX10) hin10 rfl hg6 16 (by decide) lk22 rfl rfl eq7 rfl dX10_region_19 ?_
        refine lv_iload hx hb dX10_region_22 (lv_at hl 4 rfl) ?_
        refine lv_iconst (v := (0 : Int32)) hx hb dX10_region_24 (by decide) ?_
        refine gd_e hf (fun hg8 hf => ?_)
        refine ev_iast S hK hM hg8 (j := v2.toNatClampNeg) rfl dX10_region_25 (fun I9 eI9 H locs hM => ?_)
        have hf := nm_x eI9 hf
        refine lv_iinc (v := (v2 + (1 : Int32))) (lv' := [(6, .int (v2 + (1 : Int32))), (0, .ref a0), (1, .int x1), (4, .int x4), (5, .int r1)]) hx hb dX10_region_26 hl (k := 4) rfl rfl (by decide) rfl (fun ls hl => ?_)
        refine lv_goto (tgt := 10) hx hb dX10_region_29 (by decide) ?_
        exact ih (v2 + (1 : Int32)) I9 _ _ _ _ hM (lv_sub hl [1, 2, 3, 4, 0] rfl) hf kk
  refine bd_e hf (fun r4 er4 hf => ?_)
  refine lp10_9 FU (0 : Int32) I _ _ _ r4 hM (lv_sub hl [2, 3, 6, 1, 0] rfl) er4 (fun H locs ls hM hl => ?_)
  refine lv_aload_n hx hb dX10_region_32 rfl (lv_at hl 0 rfl) ?_
  refine gd_e hf (fun hg10 hf => ?_)
  refine bd_e hf (fun q11 eq11 hf => ?_)
  refine ev_getP (v := q11) S hK hM (ci := 10) (n := 23) (C := RX10) (T := TX10) hin10 rfl hg10 16 (by decide) lk22 rfl rfl eq11 rfl dX10_region_33 ?_
  refine lv_iload hx hb dX10_region_36 (lv_at hl 3 rfl) ?_
  refine lv_iconst (v := (1 : Int32)) hx hb dX10_region_38 (by decide) ?_
  refine gd_e hf (fun hg12 hf => ?_)
  refine ev_iast S hK hM hg12 (j := r1.toNatClampNeg) rfl dX10_region_39 (fun I13 eI13 H locs hM => ?_)
  have hf := nm_x eI13 hf
  refine lv_aload_n hx hb dX10_region_40 rfl (lv_at hl 0 rfl) ?_
  refine bd_e hf (fun q14 eq14 hf => ?_)
  refine ev_getP (v := q14) S hK hM (ci := 10) (n := 23) (C := RX10) (T := TX10) hin10 rfl hg10 17 (by decide) lk25 rfl rfl eq14 rfl dX10_region_41 ?_
  refine lv_iconst (v := (0 : Int32)) hx hb dX10_region_44 (by decide) ?_
  refine lv_iload hx hb dX10_region_45 (lv_at hl 3 rfl) ?_
  refine gd_e hf (fun hg15 hf => ?_)
  refine ev_iast S hK hM hg15 (j := 0) rfl dX10_region_47 (fun I16 eI16 H locs hM => ?_)
  have hf := nm_x eI16 hf
  refine lv_iconst (v := (1 : Int32)) hx hb dX10_region_48 (by decide) ?_
  refine lv_istore (lv' := [(6, .int (1 : Int32)), (0, .ref a0), (1, .int x1), (4, .int x4), (5, .int r1)]) hx hb dX10_region_49 hl (by decide) rfl (fun ls hl => ?_)
  refine lv_iconst (v := (0 : Int32)) hx hb dX10_region_51 (by decide) ?_
  refine lv_istore (lv' := [(7, .int (0 : Int32)), (6, .int (1 : Int32)), (0, .ref a0), (1, .int x1), (4, .int x4), (5, .int r1)]) hx hb dX10_region_52 hl (by decide) rfl (fun ls hl => ?_)
  have lp54_36 : ∀ (n : Nat) (v17 : Int32) (v18 : Int32) (I19 : Nat → Nat → Int32) (H : Heap) (locs : List Loc) (ls : Array Slot) (r20 : (Nat → Nat → Int32)), mm_W D cs A L K N s.heap I19 P H locs → lv_has ls 10 [(0, .ref a0), (1, .int x1), (4, .int x4), (5, .int r1), (6, .int v17), (7, .int v18)] → fn_X10_region_L54 K N a0 x1 x4 P r1 q11 q14 n v17 v18 I19 = some r20 → (∀ (H : Heap) (locs : List Loc) (ls : Array Slot), mm_W D cs A L K N s.heap r20 P H locs → lv_has ls 10 [] → W p l e (headSpec wz_X10_region rm_X10_region).room s m ([.ref a0, .int x1, .int x2, .int x3, .int x4] : List Value).toArray below meth c H locs 0 0 QQ (F0 m 149 ls [])) → W p l e (headSpec wz_X10_region rm_X10_region).room s m ([.ref a0, .int x1, .int x2, .int x3, .int x4] : List Value).toArray below meth c H locs 0 0 QQ (F0 m 54 ls []) := by
    intro n
    induction n with
    | zero => intro v17 v18 I19 H locs ls r20 hM hl hf kk; exact nn_x (show (none : Option ((Nat → Nat → Int32))) = some r20 from hf)
    | succ n ih =>
      intro v17 v18 I19 H locs ls r20 hM hl hf kk
      rw [fn_X10_region_L54] at hf
      refine lv_iload hx hb dX10_region_54 (lv_at hl 5 rfl) ?_
      refine lv_iload hx hb dX10_region_56 (lv_at hl 4 rfl) ?_
      refine lv_icmp_ge (tgt := 149) hx hb dX10_region_58 (by decide) (fun hc21 => ?_) (fun hc21 => ?_)
      · have hf := it_p hf hc21
        obtain rfl := Option.some.inj hf
        exact kk _ _ _ hM (lv_sub hl [] rfl)
      · have hf := it_n hf hc21
        refine lv_iconst (v := (0 : Int32)) hx hb dX10_region_61 (by decide) ?_
        refine lv_istore (lv' := [(8, .int (0 : Int32)), (0, .ref a0), (1, .int x1), (4, .int x4), (5, .int r1), (6, .int v17), (7, .int v18)]) hx hb dX10_region_62 hl (by decide) rfl (fun ls hl => ?_)
        have lp64_36 : ∀ (n : Nat) (v22 : Int32) (v23 : Int32) (I24 : Nat → Nat → Int32) (H : Heap) (locs : List Loc) (ls : Array Slot) (r25 : Int32 × (Nat → Nat → Int32)), mm_W D cs A L K N s.heap I24 P H locs → lv_has ls 10 [(0, .ref a0), (1, .int x1), (4, .int x4), (5, .int r1), (6, .int v22), (7, .int v18), (8, .int v23)] → fn_X10_region_L64 K N a0 x1 x4 P r1 q11 q14 v18 n v22 v23 I24 = some r25 → (∀ (H : Heap) (locs : List Loc) (ls : Array Slot), mm_W D cs A L K N s.heap r25.2 P H locs → lv_has ls 10 [(0, .ref a0), (1, .int x1), (4, .int x4), (5, .int r1), (6, .int r25.1), (7, .int v18)] → W p l e (headSpec wz_X10_region rm_X10_region).room s m ([.ref a0, .int x1, .int x2, .int x3, .int x4] : List Value).toArray below meth c H locs 0 0 QQ (F0 m 143 ls [])) → W p l e (headSpec wz_X10_region rm_X10_region).room s m ([.ref a0, .int x1, .int x2, .int x3, .int x4] : List Value).toArray below meth c H locs 0 0 QQ (F0 m 64 ls []) := by
          intro n
          induction n with
          | zero => intro v22 v23 I24 H locs ls r25 hM hl hf kk; exact nn_x (show (none : Option (Int32 × (Nat → Nat → Int32))) = some r25 from hf)
          | succ n ih =>
            intro v22 v23 I24 H locs ls r25 hM hl hf kk
            rw [fn_X10_region_L64] at hf
            refine lv_iload hx hb dX10_region_64 (lv_at hl 6 rfl) ?_
            refine lv_iconst (v := (4 : Int32)) hx hb dX10_region_66 (by decide) ?_
            refine lv_icmp_ge (tgt := 143) hx hb dX10_region_67 (by decide) (fun hc26 => ?_) (fun hc26 => ?_)
            · have hf := it_p hf hc26
              obtain rfl := Option.some.inj hf
              exact kk _ _ _ hM (lv_sub hl [0, 1, 2, 3, 4, 5] rfl)
            · have hf := it_n hf hc26
              refine lv_aload_n hx hb dX10_region_70 rfl (lv_at hl 0 rfl) ?_
              refine ev_getP (v := q14) S hK hM (ci := 10) (n := 23) (C := RX10) (T := TX10) hin10 rfl hg10 17 (by decide) lk25 rfl rfl eq14 rfl dX10_region_71 ?_
              refine lv_iload hx hb dX10_region_74 (lv_at hl 5 rfl) ?_
              refine gd_e hf (fun hg27 hf => ?_)
              refine ev_iald S hK hM hg27 (j := v18.toNatClampNeg) rfl dX10_region_76 ?_
              refine lv_iload hx hb dX10_region_77 (lv_at hl 6 rfl) ?_
              refine bd_e hf (fun r28 er28 hf => ?_)
              refine ev_calli (va_runS (As := [.int (I24 q14 (v18.toNatClampNeg)), .int v23]) (rest := []) S (c_X10_beside (l := l) I24 P (I24 q14 (v18.toNatClampNeg)) v23 r28 er28) (va_cwS 2 hts (gi_s wa_5_178 wa_5_179 wa_1_11 wa_5_180) rfl rfl rfl (by decide +kernel) ⟨Nat.le_of_ble_eq_true rfl, Nat.le_of_ble_eq_true rfl⟩) ⟨mm_B_blind, fun U hU hW => ⟨rfl, mm_B_of hK hZ hM hU hW⟩⟩ rfl rfl hl.1 rfl (lv_room (Nat.le_of_ble_eq_true rfl)) dX10_region_79 ⟨Nat.zero_le _, Nat.zero_le _⟩) hM (fun H locs hM => ?_)
              refine lv_istore (lv' := [(9, .int r28), (0, .ref a0), (1, .int x1), (4, .int x4), (5, .int r1), (6, .int v22), (7, .int v18), (8, .int v23)]) hx hb dX10_region_82 hl (by decide) rfl (fun ls hl => ?_)
              refine lv_iload hx hb dX10_region_84 (lv_at hl 0 rfl) ?_
              refine lv_if_lt (tgt := 137) hx hb dX10_region_86 (by decide) (fun hc29 => ?_) (fun hc29 => ?_)
              · have hf := it_p hf hc29
                refine lv_iinc (v := (v23 + (1 : Int32))) (lv' := [(8, .int (v23 + (1 : Int32))), (9, .int r28), (0, .ref a0), (1, .int x1), (4, .int x4), (5, .int r1), (6, .int v22), (7, .int v18)]) hx hb dX10_region_137 hl (k := 7) rfl rfl (by decide) rfl (fun ls hl => ?_)
                refine lv_goto (tgt := 64) hx hb dX10_region_140 (by decide) ?_
                exact ih v22 (v23 + (1 : Int32)) I24 _ _ _ _ hM (lv_sub hl [2, 3, 4, 5, 6, 7, 0] rfl) hf kk
              · have hf := it_n hf hc29
                refine lv_aload_n hx hb dX10_region_89 rfl (lv_at hl 1 rfl) ?_
                refine ev_getP (v := q11) S hK hM (ci := 10) (n := 23) (C := RX10) (T := TX10) hin10 rfl hg10 16 (by decide) lk22 rfl rfl eq11 rfl dX10_region_90 ?_
                refine lv_iload hx hb dX10_region_93 (lv_at hl 0 rfl) ?_
                refine gd_e hf (fun hg30 hf => ?_)
                refine ev_iald S hK hM hg30 (j := r28.toNatClampNeg) rfl dX10_region_95 ?_
                refine lv_iconst (v := (1 : Int32)) hx hb dX10_region_96 (by decide) ?_
                refine lv_icmp_eq (tgt := 137) hx hb dX10_region_97 (by decide) (fun hc31 => ?_) (fun hc31 => ?_)
                · have hf := it_p hf hc31
                  refine lv_iinc (v := (v23 + (1 : Int32))) (lv' := [(8, .int (v23 + (1 : Int32))), (9, .int r28), (0, .ref a0), (1, .int x1), (4, .int x4), (5, .int r1), (6, .int v22), (7, .int v18)]) hx hb dX10_region_137 hl (k := 7) rfl rfl (by decide) rfl (fun ls hl => ?_)
                  refine lv_goto (tgt := 64) hx hb dX10_region_140 (by decide) ?_
                  exact ih v22 (v23 + (1 : Int32)) I24 _ _ _ _ hM (lv_sub hl [2, 3, 4, 5, 6, 7, 0] rfl) hf kk
                · have hf := it_n hf hc31
                  refine lv_aload_n hx hb dX10_region_100 rfl (lv_at hl 1 rfl) ?_
                  refine lv_iload_n hx hb dX10_region_101 rfl (lv_at hl 2 rfl) ?_
                  refine lv_iload hx hb dX10_region_102 (lv_at hl 0 rfl) ?_
                  refine lv_iload hx hb dX10_region_104 (lv_at hl 4 rfl) ?_
                  refine lv_iload hx hb dX10_region_106 (lv_at hl 3 rfl) ?_
                  refine bd_e hf (fun r32 er32 hf => ?_)
                  refine ev_calli (va_runV (As := [.int x1, .int r28, .int r1, .int x4]) (rest := []) S (c_X10_isLike (l := l) I24 P a0 x1 r28 r1 x4 r32 er32) (cwV 4 hts (gi_v wa_5_181 wa_5_183 wa_s_54 wa_1_11 wa_5_184) rfl rfl rfl (by decide +kernel) ⟨Nat.le_of_ble_eq_true rfl, Nat.le_of_ble_eq_true rfl⟩) ⟨mm_B_blind, ev_recv hK hM (ci := 10) rfl hg10 rfl, fun U hU hW => ⟨rfl, mm_B_of hK hZ hM hU hW⟩⟩ rfl rfl hl.1 rfl (lv_room (Nat.le_of_ble_eq_true rfl)) dX10_region_108 ⟨Nat.zero_le _, Nat.zero_le _⟩) hM (fun H locs hM => ?_)
                  refine lv_if_ne (tgt := 117) hx hb dX10_region_111 (by decide) (fun hc33 => ?_) (fun hc33 => ?_)
                  · have hf := it_n hf hc33
                    refine lv_aload_n hx hb dX10_region_117 rfl (lv_at hl 1 rfl) ?_
                    refine ev_getP (v := q11) S hK hM (ci := 10) (n := 23) (C := RX10) (T := TX10) hin10 rfl hg10 16 (by decide) lk22 rfl rfl eq11 rfl dX10_region_118 ?_
                    refine lv_iload hx hb dX10_region_121 (lv_at hl 0 rfl) ?_
                    refine lv_iconst (v := (1 : Int32)) hx hb dX10_region_123 (by decide) ?_
                    refine ev_iast S hK hM hg30 (j := r28.toNatClampNeg) rfl dX10_region_124 (fun I34 eI34 H locs hM => ?_)
                    have hf := nm_x eI34 hf
                    refine lv_aload_n hx hb dX10_region_125 rfl (lv_at hl 1 rfl) ?_
                    refine ev_getP (v := q14) S hK hM (ci := 10) (n := 23) (C := RX10) (T := TX10) hin10 rfl hg10 17 (by decide) lk25 rfl rfl eq14 rfl dX10_region_126 ?_
                    refine lv_iload hx hb dX10_region_129 (lv_at hl 5 rfl) ?_
                    refine lv_iload hx hb dX10_region_131 (lv_at hl 0 rfl) ?_
                    refine gd_e hf (fun hg35 hf => ?_)
                    refine ev_iast S hK hM hg35 (j := v22.toNatClampNeg) rfl dX10_region_133 (fun I36 eI36 H locs hM => ?_)
                    have hf := nm_x eI36 hf
                    refine lv_iinc (v := (v22 + (1 : Int32))) (lv' := [(6, .int (v22 + (1 : Int32))), (9, .int r28), (0, .ref a0), (1, .int x1), (4, .int x4), (5, .int r1), (7, .int v18), (8, .int v23)]) hx hb dX10_region_134 hl (k := 5) rfl rfl (by decide) rfl (fun ls hl => ?_)
                    refine lv_iinc (v := (v23 + (1 : Int32))) (lv' := [(8, .int (v23 + (1 : Int32))), (6, .int (v22 + (1 : Int32))), (9, .int r28), (0, .ref a0), (1, .int x1), (4, .int x4), (5, .int r1), (7, .int v18)]) hx hb dX10_region_137 hl (k := 7) rfl rfl (by decide) rfl (fun ls hl => ?_)
                    refine lv_goto (tgt := 64) hx hb dX10_region_140 (by decide) ?_
                    exact ih (v22 + (1 : Int32)) (v23 + (1 : Int32)) I36 _ _ _ _ hM (lv_sub hl [3, 4, 5, 6, 1, 7, 0] rfl) hf kk
                  · have hf := it_p hf hc33
                    refine lv_goto (tgt := 137) hx hb dX10_region_114 (by decide) ?_
                    refine lv_iinc (v := (v23 + (1 : Int32))) (lv' := [(8, .int (v23 + (1 : Int32))), (9, .int r28), (0, .ref a0), (1, .int x1), (4, .int x4), (5, .int r1), (6, .int v22), (7, .int v18)]) hx hb dX10_region_137 hl (k := 7) rfl rfl (by decide) rfl (fun ls hl => ?_)
                    refine lv_goto (tgt := 64) hx hb dX10_region_140 (by decide) ?_
                    exact ih v22 (v23 + (1 : Int32)) I24 _ _ _ _ hM (lv_sub hl [2, 3, 4, 5, 6, 7, 0] rfl) hf kk
        refine bd_e hf (fun r25 er25 hf => ?_)
        refine lp64_36 FU v17 (0 : Int32) I19 _ _ _ r25 hM (lv_sub hl [1, 2, 3, 4, 5, 6, 0] rfl) er25 (fun H locs ls hM hl => ?_)
        refine lv_iinc (v := (v18 + (1 : Int32))) (lv' := [(7, .int (v18 + (1 : Int32))), (0, .ref a0), (1, .int x1), (4, .int x4), (5, .int r1), (6, .int r25.1)]) hx hb dX10_region_143 hl (k := 5) rfl rfl (by decide) rfl (fun ls hl => ?_)
        refine lv_goto (tgt := 54) hx hb dX10_region_146 (by decide) ?_
        exact ih r25.1 (v18 + (1 : Int32)) r25.2 _ _ _ _ hM (lv_sub hl [1, 2, 3, 4, 5, 0] rfl) hf kk
  refine bd_e hf (fun r20 er20 hf => ?_)
  refine lp54_36 FU (1 : Int32) (0 : Int32) I16 _ _ _ r20 hM (lv_sub hl [2, 3, 4, 5, 1, 0] rfl) er20 (fun H locs ls hM hl => ?_)
  obtain rfl := Option.some.inj hf
  subst hQ
  exact ev_vret S hr hlocks hK hZ hM dX10_region_149
noncomputable def fn_X10_fills_L9 (K : Nat → Nat) (N : Nat → Nat) (a0 : Nat) (x1 : Int32) (P : Nat → Nat → Option Nat) : Nat → Int32 → Int32 → (Nat → Nat → Int32) → Option (Int32 × (Nat → Nat → Int32))
  | 0, _, _, _ => none
  | n + 1, v3, v4, I5 => if (192 : Int32) ≤ v4 then (some (v3, I5)) else (Option.bind (P a0 (16)) (fun q8 => gd (K q8 = 12 ∧ vp_in v4 (N q8)) (if (I5 q8 (v4.toNatClampNeg)) = 0 then (fn_X10_fills_L9 K N a0 x1 P n v3 (v4 + (1 : Int32)) I5) else (Option.bind (fn_X10_isFree K N I5 P a0 v4) (fun (r11 : Int32) => if r11 = 0 then (fn_X10_fills_L9 K N a0 x1 P n v3 (v4 + (1 : Int32)) I5) else (Option.bind (fn_X10_paints K N I5 P a0 x1 v4 (255 : Int32)) (fun (r13 : (Nat → Nat → Int32)) => fn_X10_fills_L9 K N a0 x1 P n (v3 + (1 : Int32)) (v4 + (1 : Int32)) r13)))))))
noncomputable def fn_X10_fills (K N : Nat → Nat) (I : Nat → Nat → Int32) (P : Nat → Nat → Option Nat) (a0 : Nat) (x1 : Int32) : Option (Int32 × (Nat → Nat → Int32)) := Option.bind (fn_X10_beginsAct K N I P a0 x1) (fun (r1 : (Nat → Nat → Int32)) => gd (K a0 = 11) (Option.bind (fn_X10_fills_L9 K N a0 x1 P FU (0 : Int32) (0 : Int32) r1) (fun (r6 : Int32 × (Nat → Nat → Int32)) => Option.bind (fn_X10_endsAct K N r6.2 P a0 x1) (fun (r14 : (Nat → Nat → Int32)) => some (r6.1, r14)))))
abbrev wz_X10_fills : List Cond := Cond.code yX10_fills cX10_fills 4 (some .int) :: WA
abbrev rm_X10_fills : Room := { frames := 4, cells := 0, slots := 0, locals := 76 }
set_option maxHeartbeats 4000000 in
set_option maxRecDepth 100000 in
theorem c_X10_fills (I : Nat → Nat → Int32) (P : Nat → Nat → Option Nat) (a0 : Nat) (x1 : Int32) (res : Int32 × (Nat → Nat → Int32)) (hf : fn_X10_fills K N I P a0 x1 = some res) : Met l yX10_fills wz_X10_fills rm_X10_fills (va_Pc [.ref a0, .int x1] (mm_B D cs A L K N z w I P)) (va_Qi (fun r (_ : Unit) => r = res.1) (fun _ => mm_B D cs A L K N z w res.2 P) A) 0 0 A := by
  refine Met.ofW (cc := cX10_fills) (maxL := 4) (ret := (some .int)) (by decide) rfl ?_
  intro p e s m args below meth c s₁ B hml hv
  obtain ⟨rfl, hBm⟩ := hv
  have hx := B.exec
  have hb := B.bytes
  have hr := B.returns
  have hts := atoms_spec (ws := wz_X10_fills) B.pre
  have hWA : ∀ w ∈ WA, w.before ([.ref a0, .int x1] : List Value).toArray s = true := fun u9 h9 => hts u9 (List.mem_cons_of_mem _ h9)
  have hown : s.vm.findClass RX10 = some m.cls := findClass_of_methodNamed B.named
  have hlocks := B.notSynchronized
  have S : CallFix p m c cX10_fills 4 s ([.ref a0, .int x1] : List Value).toArray wz_X10_fills RX10 := ⟨hx, hb, hml, hown, hts⟩
  have hK := hBm.2.2.2.1
  have hZ := hBm.2.2.2.2
  have hM : mm_W D cs A L K N s.heap I P s.heap [] := ⟨hBm.1, hBm.2.1, hBm.2.2.1, va_S.rf⟩
  have hl := lv_entry ([.ref a0, .int x1]) (n := 4) (Nat.le_of_ble_eq_true rfl)
  rw [lg_entry_eq]
  generalize (lg_sl ([.ref a0, .int x1]) ++ List.replicate (4 - (lg_sl ([.ref a0, .int x1])).length) Slot.unset).toArray = ls at hl ⊢
  have hl : lv_has ls 4 [(0, .ref a0), (1, .int x1)] := hl
  have hin10 : ∀ w ∈ wsX100, w ∈ wz_X10_fills := fun w h => List.mem_cons_of_mem _ (wu_X10 w h)
  have lk22 : (Cond.fieldLink RX10 22 RX10 "set" "[I").before ([.ref a0, .int x1] : List Value).toArray s = true := hWA _ wa_4_157
  generalize hQ : MQ below (va_Qi (fun r (_ : Unit) => r = res.1) (fun _ => mm_B D cs A L K N z w res.2 P) A) ([.ref a0, .int x1] : List Value).toArray s 0 0 A = QQ
  rw [fn_X10_fills] at hf
  refine lv_aload_n hx hb dX10_fills_0 rfl (lv_at hl 0 rfl) ?_
  refine lv_iload_n hx hb dX10_fills_1 rfl (lv_at hl 1 rfl) ?_
  refine bd_e hf (fun r1 er1 hf => ?_)
  refine gd_e hf (fun hg2 hf => ?_)
  refine ev_callv (va_runV (As := [.int x1]) (rest := []) S (c_X10_beginsAct (l := l) I P a0 x1 r1 er1) (cwV 1 hts (gi_v wa_5_128 wa_5_130 wa_s_46 wa_1_11 wa_5_131) rfl rfl rfl (by decide +kernel) ⟨Nat.le_of_ble_eq_true rfl, Nat.le_of_ble_eq_true rfl⟩) ⟨mm_B_blind, ev_recv hK hM (ci := 10) rfl hg2 rfl, fun U hU hW => ⟨rfl, mm_B_of hK hZ hM hU hW⟩⟩ rfl rfl hl.1 rfl (lv_room (Nat.le_of_ble_eq_true rfl)) dX10_fills_2 ⟨Nat.zero_le _, Nat.zero_le _⟩) hM (fun H locs hM => ?_)
  refine lv_iconst (v := (0 : Int32)) hx hb dX10_fills_5 (by decide) ?_
  refine lv_istore_n (lv' := [(2, .int (0 : Int32)), (0, .ref a0), (1, .int x1)]) hx hb dX10_fills_6 rfl hl (by decide) rfl (fun ls hl => ?_)
  refine lv_iconst (v := (0 : Int32)) hx hb dX10_fills_7 (by decide) ?_
  refine lv_istore_n (lv' := [(3, .int (0 : Int32)), (2, .int (0 : Int32)), (0, .ref a0), (1, .int x1)]) hx hb dX10_fills_8 rfl hl (by decide) rfl (fun ls hl => ?_)
  have lp9_13 : ∀ (n : Nat) (v3 : Int32) (v4 : Int32) (I5 : Nat → Nat → Int32) (H : Heap) (locs : List Loc) (ls : Array Slot) (r6 : Int32 × (Nat → Nat → Int32)), mm_W D cs A L K N s.heap I5 P H locs → lv_has ls 4 [(0, .ref a0), (1, .int x1), (2, .int v3), (3, .int v4)] → fn_X10_fills_L9 K N a0 x1 P n v3 v4 I5 = some r6 → (∀ (H : Heap) (locs : List Loc) (ls : Array Slot), mm_W D cs A L K N s.heap r6.2 P H locs → lv_has ls 4 [(0, .ref a0), (1, .int x1), (2, .int r6.1)] → W p l e (headSpec wz_X10_fills rm_X10_fills).room s m ([.ref a0, .int x1] : List Value).toArray below meth c H locs 0 0 QQ (F0 m 54 ls [])) → W p l e (headSpec wz_X10_fills rm_X10_fills).room s m ([.ref a0, .int x1] : List Value).toArray below meth c H locs 0 0 QQ (F0 m 9 ls []) := by
    intro n
    induction n with
    | zero => intro v3 v4 I5 H locs ls r6 hM hl hf kk; exact nn_x (show (none : Option (Int32 × (Nat → Nat → Int32))) = some r6 from hf)
    | succ n ih =>
      intro v3 v4 I5 H locs ls r6 hM hl hf kk
      rw [fn_X10_fills_L9] at hf
      refine lv_iload_n hx hb dX10_fills_9 rfl (lv_at hl 3 rfl) ?_
      refine lv_sipush (v := (192 : Int32)) hx hb dX10_fills_10 (by decide) ?_
      refine lv_icmp_ge (tgt := 54) hx hb dX10_fills_13 (by decide) (fun hc7 => ?_) (fun hc7 => ?_)
      · have hf := it_p hf hc7
        obtain rfl := Option.some.inj hf
        exact kk _ _ _ hM (lv_sub hl [0, 1, 2] rfl)
      · have hf := it_n hf hc7
        refine lv_aload_n hx hb dX10_fills_16 rfl (lv_at hl 0 rfl) ?_
        refine bd_e hf (fun q8 eq8 hf => ?_)
        refine ev_getP (v := q8) S hK hM (ci := 10) (n := 23) (C := RX10) (T := TX10) hin10 rfl hg2 16 (by decide) lk22 rfl rfl eq8 rfl dX10_fills_17 ?_
        refine lv_iload_n hx hb dX10_fills_20 rfl (lv_at hl 3 rfl) ?_
        refine gd_e hf (fun hg9 hf => ?_)
        refine ev_iald S hK hM hg9 (j := v4.toNatClampNeg) rfl dX10_fills_21 ?_
        refine lv_if_eq (tgt := 48) hx hb dX10_fills_22 (by decide) (fun hc10 => ?_) (fun hc10 => ?_)
        · have hf := it_p hf hc10
          refine lv_iinc (v := (v4 + (1 : Int32))) (lv' := [(3, .int (v4 + (1 : Int32))), (0, .ref a0), (1, .int x1), (2, .int v3)]) hx hb dX10_fills_48 hl (k := 3) rfl rfl (by decide) rfl (fun ls hl => ?_)
          refine lv_goto (tgt := 9) hx hb dX10_fills_51 (by decide) ?_
          exact ih v3 (v4 + (1 : Int32)) I5 _ _ _ _ hM (lv_sub hl [1, 2, 3, 0] rfl) hf kk
        · have hf := it_n hf hc10
          refine lv_aload_n hx hb dX10_fills_25 rfl (lv_at hl 0 rfl) ?_
          refine lv_iload_n hx hb dX10_fills_26 rfl (lv_at hl 3 rfl) ?_
          refine bd_e hf (fun r11 er11 hf => ?_)
          refine ev_calli (va_runV (As := [.int v4]) (rest := []) S (c_X10_isFree (l := l) I5 P a0 v4 r11 er11) (cwV 1 hts (gi_v wa_5_115 wa_5_117 wa_s_43 wa_1_11 wa_5_118) rfl rfl rfl (by decide +kernel) ⟨Nat.le_of_ble_eq_true rfl, Nat.le_of_ble_eq_true rfl⟩) ⟨mm_B_blind, ev_recv hK hM (ci := 10) rfl hg2 rfl, fun U hU hW => ⟨rfl, mm_B_of hK hZ hM hU hW⟩⟩ rfl rfl hl.1 rfl (lv_room (Nat.le_of_ble_eq_true rfl)) dX10_fills_27 ⟨Nat.zero_le _, Nat.zero_le _⟩) hM (fun H locs hM => ?_)
          refine lv_if_ne (tgt := 36) hx hb dX10_fills_30 (by decide) (fun hc12 => ?_) (fun hc12 => ?_)
          · have hf := it_n hf hc12
            refine lv_aload_n hx hb dX10_fills_36 rfl (lv_at hl 0 rfl) ?_
            refine lv_iload_n hx hb dX10_fills_37 rfl (lv_at hl 1 rfl) ?_
            refine lv_iload_n hx hb dX10_fills_38 rfl (lv_at hl 3 rfl) ?_
            refine lv_sipush (v := (255 : Int32)) hx hb dX10_fills_39 (by decide) ?_
            refine bd_e hf (fun r13 er13 hf => ?_)
            refine ev_callv (va_runV (As := [.int x1, .int v4, .int (255 : Int32)]) (rest := []) S (c_X10_paints (l := l) I5 P a0 x1 v4 (255 : Int32) r13 er13) (cwV 3 hts (gi_v wa_5_119 wa_5_121 wa_s_44 wa_1_11 wa_5_122) rfl rfl rfl (by decide +kernel) ⟨Nat.le_of_ble_eq_true rfl, Nat.le_of_ble_eq_true rfl⟩) ⟨mm_B_blind, ev_recv hK hM (ci := 10) rfl hg2 rfl, fun U hU hW => ⟨rfl, mm_B_of hK hZ hM hU hW⟩⟩ rfl rfl hl.1 rfl (lv_room (Nat.le_of_ble_eq_true rfl)) dX10_fills_42 ⟨Nat.zero_le _, Nat.zero_le _⟩) hM (fun H locs hM => ?_)
            refine lv_iinc (v := (v3 + (1 : Int32))) (lv' := [(2, .int (v3 + (1 : Int32))), (0, .ref a0), (1, .int x1), (3, .int v4)]) hx hb dX10_fills_45 hl (k := 2) rfl rfl (by decide) rfl (fun ls hl => ?_)
            refine lv_iinc (v := (v4 + (1 : Int32))) (lv' := [(3, .int (v4 + (1 : Int32))), (2, .int (v3 + (1 : Int32))), (0, .ref a0), (1, .int x1)]) hx hb dX10_fills_48 hl (k := 3) rfl rfl (by decide) rfl (fun ls hl => ?_)
            refine lv_goto (tgt := 9) hx hb dX10_fills_51 (by decide) ?_
            exact ih (v3 + (1 : Int32)) (v4 + (1 : Int32)) r13 _ _ _ _ hM (lv_sub hl [2, 3, 1, 0] rfl) hf kk
          · have hf := it_p hf hc12
            refine lv_goto (tgt := 48) hx hb dX10_fills_33 (by decide) ?_
            refine lv_iinc (v := (v4 + (1 : Int32))) (lv' := [(3, .int (v4 + (1 : Int32))), (0, .ref a0), (1, .int x1), (2, .int v3)]) hx hb dX10_fills_48 hl (k := 3) rfl rfl (by decide) rfl (fun ls hl => ?_)
            refine lv_goto (tgt := 9) hx hb dX10_fills_51 (by decide) ?_
            exact ih v3 (v4 + (1 : Int32)) I5 _ _ _ _ hM (lv_sub hl [1, 2, 3, 0] rfl) hf kk
  refine bd_e hf (fun r6 er6 hf => ?_)
  refine lp9_13 FU (0 : Int32) (0 : Int32) r1 _ _ _ r6 hM (lv_sub hl [2, 3, 1, 0] rfl) er6 (fun H locs ls hM hl => ?_)
  refine lv_aload_n hx hb dX10_fills_54 rfl (lv_at hl 0 rfl) ?_
  refine lv_iload_n hx hb dX10_fills_55 rfl (lv_at hl 1 rfl) ?_
  refine bd_e hf (fun r14 er14 hf => ?_)
  refine ev_callv (va_runV (As := [.int x1]) (rest := []) S (c_X10_endsAct (l := l) r6.2 P a0 x1 r14 er14) (cwV 1 hts (gi_v wa_5_140 wa_5_142 wa_s_49 wa_1_11 wa_5_143) rfl rfl rfl (by decide +kernel) ⟨Nat.le_of_ble_eq_true rfl, Nat.le_of_ble_eq_true rfl⟩) ⟨mm_B_blind, ev_recv hK hM (ci := 10) rfl hg2 rfl, fun U hU hW => ⟨rfl, mm_B_of hK hZ hM hU hW⟩⟩ rfl rfl hl.1 rfl (lv_room (Nat.le_of_ble_eq_true rfl)) dX10_fills_56 ⟨Nat.zero_le _, Nat.zero_le _⟩) hM (fun H locs hM => ?_)
  refine lv_iload_n hx hb dX10_fills_59 rfl (lv_at hl 2 rfl) ?_
  obtain rfl := Option.some.inj hf
  subst hQ
  exact ev_iret S hr hlocks hK hZ hM dX10_fills_60
noncomputable def fn_X10_box (K N : Nat → Nat) (I : Nat → Nat → Int32) (P : Nat → Nat → Option Nat) (a0 : Nat) (x1 : Int32) (x2 : Int32) (x3 : Int32) (x4 : Int32) (x5 : Int32) : Option (Int32 × (Nat → Nat → Int32)) := Option.bind (fn_X10_isLayer K N I P a0 x1) (fun (r1 : Int32) => gd (K a0 = 11) (if r1 = 0 then (some ((-2 : Int32), I)) else (Option.bind (fn_X10_isBoxed K N I P a0 x2 x3 x4 x5) (fun (r4 : Int32 × (Nat → Nat → Int32)) => if r4.1 = 0 then (some ((-2 : Int32), r4.2)) else (Option.bind (fn_X10_fills K N r4.2 P a0 x1) (fun (r6 : Int32 × (Nat → Nat → Int32)) => some (r6.1, r6.2)))))))
abbrev wz_X10_box : List Cond := Cond.code yX10_box cX10_box 6 (some .int) :: WA
abbrev rm_X10_box : Room := { frames := 5, cells := 0, slots := 0, locals := 99 }
set_option maxHeartbeats 4000000 in
set_option maxRecDepth 100000 in
theorem c_X10_box (I : Nat → Nat → Int32) (P : Nat → Nat → Option Nat) (a0 : Nat) (x1 : Int32) (x2 : Int32) (x3 : Int32) (x4 : Int32) (x5 : Int32) (res : Int32 × (Nat → Nat → Int32)) (hf : fn_X10_box K N I P a0 x1 x2 x3 x4 x5 = some res) : Met l yX10_box wz_X10_box rm_X10_box (va_Pc [.ref a0, .int x1, .int x2, .int x3, .int x4, .int x5] (mm_B D cs A L K N z w I P)) (va_Qi (fun r (_ : Unit) => r = res.1) (fun _ => mm_B D cs A L K N z w res.2 P) A) 0 0 A := by
  refine Met.ofW (cc := cX10_box) (maxL := 6) (ret := (some .int)) (by decide) rfl ?_
  intro p e s m args below meth c s₁ B hml hv
  obtain ⟨rfl, hBm⟩ := hv
  have hx := B.exec
  have hb := B.bytes
  have hr := B.returns
  have hts := atoms_spec (ws := wz_X10_box) B.pre
  have hWA : ∀ w ∈ WA, w.before ([.ref a0, .int x1, .int x2, .int x3, .int x4, .int x5] : List Value).toArray s = true := fun u9 h9 => hts u9 (List.mem_cons_of_mem _ h9)
  have hown : s.vm.findClass RX10 = some m.cls := findClass_of_methodNamed B.named
  have hlocks := B.notSynchronized
  have S : CallFix p m c cX10_box 6 s ([.ref a0, .int x1, .int x2, .int x3, .int x4, .int x5] : List Value).toArray wz_X10_box RX10 := ⟨hx, hb, hml, hown, hts⟩
  have hK := hBm.2.2.2.1
  have hZ := hBm.2.2.2.2
  have hM : mm_W D cs A L K N s.heap I P s.heap [] := ⟨hBm.1, hBm.2.1, hBm.2.2.1, va_S.rf⟩
  have hl := lv_entry ([.ref a0, .int x1, .int x2, .int x3, .int x4, .int x5]) (n := 6) (Nat.le_of_ble_eq_true rfl)
  rw [lg_entry_eq]
  generalize (lg_sl ([.ref a0, .int x1, .int x2, .int x3, .int x4, .int x5]) ++ List.replicate (6 - (lg_sl ([.ref a0, .int x1, .int x2, .int x3, .int x4, .int x5])).length) Slot.unset).toArray = ls at hl ⊢
  have hl : lv_has ls 6 [(0, .ref a0), (1, .int x1), (2, .int x2), (3, .int x3), (4, .int x4), (5, .int x5)] := hl
  generalize hQ : MQ below (va_Qi (fun r (_ : Unit) => r = res.1) (fun _ => mm_B D cs A L K N z w res.2 P) A) ([.ref a0, .int x1, .int x2, .int x3, .int x4, .int x5] : List Value).toArray s 0 0 A = QQ
  rw [fn_X10_box] at hf
  refine lv_aload_n hx hb dX10_box_0 rfl (lv_at hl 0 rfl) ?_
  refine lv_iload_n hx hb dX10_box_1 rfl (lv_at hl 1 rfl) ?_
  refine bd_e hf (fun r1 er1 hf => ?_)
  refine gd_e hf (fun hg2 hf => ?_)
  refine ev_calli (va_runV (As := [.int x1]) (rest := []) S (c_X10_isLayer (l := l) I P a0 x1 r1 er1) (cwV 1 hts (gi_v wa_4_232 wa_4_234 wa_s_27 wa_1_11 wa_4_235) rfl rfl rfl (by decide +kernel) ⟨Nat.le_of_ble_eq_true rfl, Nat.le_of_ble_eq_true rfl⟩) ⟨mm_B_blind, ev_recv hK hM (ci := 10) rfl hg2 rfl, fun U hU hW => ⟨rfl, mm_B_of hK hZ hM hU hW⟩⟩ rfl rfl hl.1 rfl (lv_room (Nat.le_of_ble_eq_true rfl)) dX10_box_2 ⟨Nat.zero_le _, Nat.zero_le _⟩) hM (fun H locs hM => ?_)
  refine lv_if_eq (tgt := 29) hx hb dX10_box_5 (by decide) (fun hc3 => ?_) (fun hc3 => ?_)
  · have hf := it_p hf hc3
    refine lv_bipush (v := (-2 : Int32)) hx hb dX10_box_29 (by decide) ?_
    obtain rfl := Option.some.inj hf
    subst hQ
    exact ev_iret S hr hlocks hK hZ hM dX10_box_31
  · have hf := it_n hf hc3
    refine lv_aload_n hx hb dX10_box_8 rfl (lv_at hl 0 rfl) ?_
    refine lv_iload_n hx hb dX10_box_9 rfl (lv_at hl 2 rfl) ?_
    refine lv_iload_n hx hb dX10_box_10 rfl (lv_at hl 3 rfl) ?_
    refine lv_iload hx hb dX10_box_11 (lv_at hl 4 rfl) ?_
    refine lv_iload hx hb dX10_box_13 (lv_at hl 5 rfl) ?_
    refine bd_e hf (fun r4 er4 hf => ?_)
    refine ev_calli (va_runV (As := [.int x2, .int x3, .int x4, .int x5]) (rest := []) S (c_X10_isBoxed (l := l) I P a0 x2 x3 x4 x5 r4 er4) (cwV 4 hts (gi_v wa_5_158 wa_5_160 wa_s_50 wa_1_11 wa_5_161) rfl rfl rfl (by decide +kernel) ⟨Nat.le_of_ble_eq_true rfl, Nat.le_of_ble_eq_true rfl⟩) ⟨mm_B_blind, ev_recv hK hM (ci := 10) rfl hg2 rfl, fun U hU hW => ⟨rfl, mm_B_of hK hZ hM hU hW⟩⟩ rfl rfl hl.1 rfl (lv_room (Nat.le_of_ble_eq_true rfl)) dX10_box_15 ⟨Nat.zero_le _, Nat.zero_le _⟩) hM (fun H locs hM => ?_)
    refine lv_if_eq (tgt := 29) hx hb dX10_box_18 (by decide) (fun hc5 => ?_) (fun hc5 => ?_)
    · have hf := it_p hf hc5
      refine lv_bipush (v := (-2 : Int32)) hx hb dX10_box_29 (by decide) ?_
      obtain rfl := Option.some.inj hf
      subst hQ
      exact ev_iret S hr hlocks hK hZ hM dX10_box_31
    · have hf := it_n hf hc5
      refine lv_aload_n hx hb dX10_box_21 rfl (lv_at hl 0 rfl) ?_
      refine lv_iload_n hx hb dX10_box_22 rfl (lv_at hl 1 rfl) ?_
      refine bd_e hf (fun r6 er6 hf => ?_)
      refine ev_calli (va_runV (As := [.int x1]) (rest := []) S (c_X10_fills (l := l) r4.2 P a0 x1 r6 er6) (cwV 1 hts (gi_v wa_5_162 wa_5_164 wa_s_51 wa_1_11 wa_5_165) rfl rfl rfl (by decide +kernel) ⟨Nat.le_of_ble_eq_true rfl, Nat.le_of_ble_eq_true rfl⟩) ⟨mm_B_blind, ev_recv hK hM (ci := 10) rfl hg2 rfl, fun U hU hW => ⟨rfl, mm_B_of hK hZ hM hU hW⟩⟩ rfl rfl hl.1 rfl (lv_room (Nat.le_of_ble_eq_true rfl)) dX10_box_23 ⟨Nat.zero_le _, Nat.zero_le _⟩) hM (fun H locs hM => ?_)
      refine lv_goto (tgt := 31) hx hb dX10_box_26 (by decide) ?_
      obtain rfl := Option.some.inj hf
      subst hQ
      exact ev_iret S hr hlocks hK hZ hM dX10_box_31
noncomputable def fn_X10_isRegion (K N : Nat → Nat) (I : Nat → Nat → Int32) (P : Nat → Nat → Option Nat) (a0 : Nat) (x1 : Int32) (x2 : Int32) (x3 : Int32) (x4 : Int32) : Option (Int32 × (Nat → Nat → Int32)) := Option.bind (fn_X10_isLayer K N I P a0 x1) (fun (r1 : Int32) => gd (K a0 = 11) (if r1 = 0 then (some ((0 : Int32), I)) else (Option.bind (fn_X10_isDot x2 x3) (fun (r4 : Int32) => if r4 = 0 then (some ((0 : Int32), I)) else (Option.bind (fn_X10_isByte x4) (fun (r6 : Int32) => if r6 = 0 then (some ((0 : Int32), I)) else (Option.bind (fn_X10_region K N I P a0 x1 x2 x3 x4) (fun (r8 : (Nat → Nat → Int32)) => some ((1 : Int32), r8)))))))))
abbrev wz_X10_isRegion : List Cond := Cond.code yX10_isRegion cX10_isRegion 5 (some .boolean) :: WA
abbrev rm_X10_isRegion : Room := { frames := 5, cells := 0, slots := 0, locals := 107 }
set_option maxHeartbeats 4000000 in
set_option maxRecDepth 100000 in
theorem c_X10_isRegion (I : Nat → Nat → Int32) (P : Nat → Nat → Option Nat) (a0 : Nat) (x1 : Int32) (x2 : Int32) (x3 : Int32) (x4 : Int32) (res : Int32 × (Nat → Nat → Int32)) (hf : fn_X10_isRegion K N I P a0 x1 x2 x3 x4 = some res) : Met l yX10_isRegion wz_X10_isRegion rm_X10_isRegion (va_Pc [.ref a0, .int x1, .int x2, .int x3, .int x4] (mm_B D cs A L K N z w I P)) (va_Qi (fun r (_ : Unit) => r = res.1) (fun _ => mm_B D cs A L K N z w res.2 P) A) 0 0 A := by
  refine Met.ofW (cc := cX10_isRegion) (maxL := 5) (ret := (some .boolean)) (by decide) rfl ?_
  intro p e s m args below meth c s₁ B hml hv
  obtain ⟨rfl, hBm⟩ := hv
  have hx := B.exec
  have hb := B.bytes
  have hr := B.returns
  have hts := atoms_spec (ws := wz_X10_isRegion) B.pre
  have hWA : ∀ w ∈ WA, w.before ([.ref a0, .int x1, .int x2, .int x3, .int x4] : List Value).toArray s = true := fun u9 h9 => hts u9 (List.mem_cons_of_mem _ h9)
  have hown : s.vm.findClass RX10 = some m.cls := findClass_of_methodNamed B.named
  have hlocks := B.notSynchronized
  have S : CallFix p m c cX10_isRegion 5 s ([.ref a0, .int x1, .int x2, .int x3, .int x4] : List Value).toArray wz_X10_isRegion RX10 := ⟨hx, hb, hml, hown, hts⟩
  have hK := hBm.2.2.2.1
  have hZ := hBm.2.2.2.2
  have hM : mm_W D cs A L K N s.heap I P s.heap [] := ⟨hBm.1, hBm.2.1, hBm.2.2.1, va_S.rf⟩
  have hl := lv_entry ([.ref a0, .int x1, .int x2, .int x3, .int x4]) (n := 5) (Nat.le_of_ble_eq_true rfl)
  rw [lg_entry_eq]
  generalize (lg_sl ([.ref a0, .int x1, .int x2, .int x3, .int x4]) ++ List.replicate (5 - (lg_sl ([.ref a0, .int x1, .int x2, .int x3, .int x4])).length) Slot.unset).toArray = ls at hl ⊢
  have hl : lv_has ls 5 [(0, .ref a0), (1, .int x1), (2, .int x2), (3, .int x3), (4, .int x4)] := hl
  generalize hQ : MQ below (va_Qi (fun r (_ : Unit) => r = res.1) (fun _ => mm_B D cs A L K N z w res.2 P) A) ([.ref a0, .int x1, .int x2, .int x3, .int x4] : List Value).toArray s 0 0 A = QQ
  rw [fn_X10_isRegion] at hf
  refine lv_aload_n hx hb dX10_isRegion_0 rfl (lv_at hl 0 rfl) ?_
  refine lv_iload_n hx hb dX10_isRegion_1 rfl (lv_at hl 1 rfl) ?_
  refine bd_e hf (fun r1 er1 hf => ?_)
  refine gd_e hf (fun hg2 hf => ?_)
  refine ev_calli (va_runV (As := [.int x1]) (rest := []) S (c_X10_isLayer (l := l) I P a0 x1 r1 er1) (cwV 1 hts (gi_v wa_4_232 wa_4_234 wa_s_27 wa_1_11 wa_4_235) rfl rfl rfl (by decide +kernel) ⟨Nat.le_of_ble_eq_true rfl, Nat.le_of_ble_eq_true rfl⟩) ⟨mm_B_blind, ev_recv hK hM (ci := 10) rfl hg2 rfl, fun U hU hW => ⟨rfl, mm_B_of hK hZ hM hU hW⟩⟩ rfl rfl hl.1 rfl (lv_room (Nat.le_of_ble_eq_true rfl)) dX10_isRegion_2 ⟨Nat.zero_le _, Nat.zero_le _⟩) hM (fun H locs hM => ?_)
  refine lv_if_eq (tgt := 24) hx hb dX10_isRegion_5 (by decide) (fun hc3 => ?_) (fun hc3 => ?_)
  · have hf := it_p hf hc3
    refine lv_iconst (v := (0 : Int32)) hx hb dX10_isRegion_24 (by decide) ?_
    obtain rfl := Option.some.inj hf
    subst hQ
    exact ev_zret (v := (0 : Int32)) S hr hlocks hK hZ hM rfl dX10_isRegion_25
  · have hf := it_n hf hc3
    refine lv_iload_n hx hb dX10_isRegion_8 rfl (lv_at hl 2 rfl) ?_
    refine lv_iload_n hx hb dX10_isRegion_9 rfl (lv_at hl 3 rfl) ?_
    refine bd_e hf (fun r4 er4 hf => ?_)
    refine ev_calli (va_runS (As := [.int x2, .int x3]) (rest := []) S (c_X10_isDot (l := l) I P x2 x3 r4 er4) (va_cwS 2 hts (gi_s wa_5_40 wa_5_41 wa_1_11 wa_5_42) rfl rfl rfl (by decide +kernel) ⟨Nat.le_of_ble_eq_true rfl, Nat.le_of_ble_eq_true rfl⟩) ⟨mm_B_blind, fun U hU hW => ⟨rfl, mm_B_of hK hZ hM hU hW⟩⟩ rfl rfl hl.1 rfl (lv_room (Nat.le_of_ble_eq_true rfl)) dX10_isRegion_10 ⟨Nat.zero_le _, Nat.zero_le _⟩) hM (fun H locs hM => ?_)
    refine lv_if_eq (tgt := 24) hx hb dX10_isRegion_13 (by decide) (fun hc5 => ?_) (fun hc5 => ?_)
    · have hf := it_p hf hc5
      refine lv_iconst (v := (0 : Int32)) hx hb dX10_isRegion_24 (by decide) ?_
      obtain rfl := Option.some.inj hf
      subst hQ
      exact ev_zret (v := (0 : Int32)) S hr hlocks hK hZ hM rfl dX10_isRegion_25
    · have hf := it_n hf hc5
      refine lv_iload hx hb dX10_isRegion_16 (lv_at hl 4 rfl) ?_
      refine bd_e hf (fun r6 er6 hf => ?_)
      refine ev_calli (va_runS (As := [.int x4]) (rest := []) S (c_X10_isByte (l := l) I P x4 r6 er6) (va_cwS 1 hts (gi_s wa_4_221 wa_4_222 wa_1_11 wa_4_223) rfl rfl rfl (by decide +kernel) ⟨Nat.le_of_ble_eq_true rfl, Nat.le_of_ble_eq_true rfl⟩) ⟨mm_B_blind, fun U hU hW => ⟨rfl, mm_B_of hK hZ hM hU hW⟩⟩ rfl rfl hl.1 rfl (lv_room (Nat.le_of_ble_eq_true rfl)) dX10_isRegion_18 ⟨Nat.zero_le _, Nat.zero_le _⟩) hM (fun H locs hM => ?_)
      refine lv_if_ne (tgt := 26) hx hb dX10_isRegion_21 (by decide) (fun hc7 => ?_) (fun hc7 => ?_)
      · have hf := it_n hf hc7
        refine lv_aload_n hx hb dX10_isRegion_26 rfl (lv_at hl 0 rfl) ?_
        refine lv_iload_n hx hb dX10_isRegion_27 rfl (lv_at hl 1 rfl) ?_
        refine lv_iload_n hx hb dX10_isRegion_28 rfl (lv_at hl 2 rfl) ?_
        refine lv_iload_n hx hb dX10_isRegion_29 rfl (lv_at hl 3 rfl) ?_
        refine lv_iload hx hb dX10_isRegion_30 (lv_at hl 4 rfl) ?_
        refine bd_e hf (fun r8 er8 hf => ?_)
        refine ev_callv (va_runV (As := [.int x1, .int x2, .int x3, .int x4]) (rest := []) S (c_X10_region (l := l) I P a0 x1 x2 x3 x4 r8 er8) (cwV 4 hts (gi_v wa_5_174 wa_5_176 wa_s_53 wa_1_11 wa_5_177) rfl rfl rfl (by decide +kernel) ⟨Nat.le_of_ble_eq_true rfl, Nat.le_of_ble_eq_true rfl⟩) ⟨mm_B_blind, ev_recv hK hM (ci := 10) rfl hg2 rfl, fun U hU hW => ⟨rfl, mm_B_of hK hZ hM hU hW⟩⟩ rfl rfl hl.1 rfl (lv_room (Nat.le_of_ble_eq_true rfl)) dX10_isRegion_32 ⟨Nat.zero_le _, Nat.zero_le _⟩) hM (fun H locs hM => ?_)
        refine lv_iconst (v := (1 : Int32)) hx hb dX10_isRegion_35 (by decide) ?_
        obtain rfl := Option.some.inj hf
        subst hQ
        exact ev_zret (v := (1 : Int32)) S hr hlocks hK hZ hM rfl dX10_isRegion_36
      · have hf := it_p hf hc7
        refine lv_iconst (v := (0 : Int32)) hx hb dX10_isRegion_24 (by decide) ?_
        obtain rfl := Option.some.inj hf
        subst hQ
        exact ev_zret (v := (0 : Int32)) S hr hlocks hK hZ hM rfl dX10_isRegion_25
noncomputable def fn_X10_flood (K N : Nat → Nat) (I : Nat → Nat → Int32) (P : Nat → Nat → Option Nat) (a0 : Nat) (x1 : Int32) (x2 : Int32) (x3 : Int32) (x4 : Int32) : Option (Int32 × (Nat → Nat → Int32)) := Option.bind (fn_X10_isRegion K N I P a0 x1 x2 x3 x4) (fun (r1 : Int32 × (Nat → Nat → Int32)) => gd (K a0 = 11) (if r1.1 = 0 then (some ((-2 : Int32), r1.2)) else (Option.bind (fn_X10_fills K N r1.2 P a0 x1) (fun (r4 : Int32 × (Nat → Nat → Int32)) => some (r4.1, r4.2)))))
abbrev wz_X10_flood : List Cond := Cond.code yX10_flood cX10_flood 5 (some .int) :: WA
abbrev rm_X10_flood : Room := { frames := 6, cells := 0, slots := 0, locals := 131 }
set_option maxHeartbeats 4000000 in
set_option maxRecDepth 100000 in
theorem c_X10_flood (I : Nat → Nat → Int32) (P : Nat → Nat → Option Nat) (a0 : Nat) (x1 : Int32) (x2 : Int32) (x3 : Int32) (x4 : Int32) (res : Int32 × (Nat → Nat → Int32)) (hf : fn_X10_flood K N I P a0 x1 x2 x3 x4 = some res) : Met l yX10_flood wz_X10_flood rm_X10_flood (va_Pc [.ref a0, .int x1, .int x2, .int x3, .int x4] (mm_B D cs A L K N z w I P)) (va_Qi (fun r (_ : Unit) => r = res.1) (fun _ => mm_B D cs A L K N z w res.2 P) A) 0 0 A := by
  refine Met.ofW (cc := cX10_flood) (maxL := 5) (ret := (some .int)) (by decide) rfl ?_
  intro p e s m args below meth c s₁ B hml hv
  obtain ⟨rfl, hBm⟩ := hv
  have hx := B.exec
  have hb := B.bytes
  have hr := B.returns
  have hts := atoms_spec (ws := wz_X10_flood) B.pre
  have hWA : ∀ w ∈ WA, w.before ([.ref a0, .int x1, .int x2, .int x3, .int x4] : List Value).toArray s = true := fun u9 h9 => hts u9 (List.mem_cons_of_mem _ h9)
  have hown : s.vm.findClass RX10 = some m.cls := findClass_of_methodNamed B.named
  have hlocks := B.notSynchronized
  have S : CallFix p m c cX10_flood 5 s ([.ref a0, .int x1, .int x2, .int x3, .int x4] : List Value).toArray wz_X10_flood RX10 := ⟨hx, hb, hml, hown, hts⟩
  have hK := hBm.2.2.2.1
  have hZ := hBm.2.2.2.2
  have hM : mm_W D cs A L K N s.heap I P s.heap [] := ⟨hBm.1, hBm.2.1, hBm.2.2.1, va_S.rf⟩
  have hl := lv_entry ([.ref a0, .int x1, .int x2, .int x3, .int x4]) (n := 5) (Nat.le_of_ble_eq_true rfl)
  rw [lg_entry_eq]
  generalize (lg_sl ([.ref a0, .int x1, .int x2, .int x3, .int x4]) ++ List.replicate (5 - (lg_sl ([.ref a0, .int x1, .int x2, .int x3, .int x4])).length) Slot.unset).toArray = ls at hl ⊢
  have hl : lv_has ls 5 [(0, .ref a0), (1, .int x1), (2, .int x2), (3, .int x3), (4, .int x4)] := hl
  generalize hQ : MQ below (va_Qi (fun r (_ : Unit) => r = res.1) (fun _ => mm_B D cs A L K N z w res.2 P) A) ([.ref a0, .int x1, .int x2, .int x3, .int x4] : List Value).toArray s 0 0 A = QQ
  rw [fn_X10_flood] at hf
  refine lv_aload_n hx hb dX10_flood_0 rfl (lv_at hl 0 rfl) ?_
  refine lv_iload_n hx hb dX10_flood_1 rfl (lv_at hl 1 rfl) ?_
  refine lv_iload_n hx hb dX10_flood_2 rfl (lv_at hl 2 rfl) ?_
  refine lv_iload_n hx hb dX10_flood_3 rfl (lv_at hl 3 rfl) ?_
  refine lv_iload hx hb dX10_flood_4 (lv_at hl 4 rfl) ?_
  refine bd_e hf (fun r1 er1 hf => ?_)
  refine gd_e hf (fun hg2 hf => ?_)
  refine ev_calli (va_runV (As := [.int x1, .int x2, .int x3, .int x4]) (rest := []) S (c_X10_isRegion (l := l) I P a0 x1 x2 x3 x4 r1 er1) (cwV 4 hts (gi_v wa_5_170 wa_5_172 wa_s_52 wa_1_11 wa_5_173) rfl rfl rfl (by decide +kernel) ⟨Nat.le_of_ble_eq_true rfl, Nat.le_of_ble_eq_true rfl⟩) ⟨mm_B_blind, ev_recv hK hM (ci := 10) rfl hg2 rfl, fun U hU hW => ⟨rfl, mm_B_of hK hZ hM hU hW⟩⟩ rfl rfl hl.1 rfl (lv_room (Nat.le_of_ble_eq_true rfl)) dX10_flood_6 ⟨Nat.zero_le _, Nat.zero_le _⟩) hM (fun H locs hM => ?_)
  refine lv_if_eq (tgt := 20) hx hb dX10_flood_9 (by decide) (fun hc3 => ?_) (fun hc3 => ?_)
  · have hf := it_p hf hc3
    refine lv_bipush (v := (-2 : Int32)) hx hb dX10_flood_20 (by decide) ?_
    obtain rfl := Option.some.inj hf
    subst hQ
    exact ev_iret S hr hlocks hK hZ hM dX10_flood_22
  · have hf := it_n hf hc3
    refine lv_aload_n hx hb dX10_flood_12 rfl (lv_at hl 0 rfl) ?_
    refine lv_iload_n hx hb dX10_flood_13 rfl (lv_at hl 1 rfl) ?_
    refine bd_e hf (fun r4 er4 hf => ?_)
    refine ev_calli (va_runV (As := [.int x1]) (rest := []) S (c_X10_fills (l := l) r1.2 P a0 x1 r4 er4) (cwV 1 hts (gi_v wa_5_162 wa_5_164 wa_s_51 wa_1_11 wa_5_165) rfl rfl rfl (by decide +kernel) ⟨Nat.le_of_ble_eq_true rfl, Nat.le_of_ble_eq_true rfl⟩) ⟨mm_B_blind, ev_recv hK hM (ci := 10) rfl hg2 rfl, fun U hU hW => ⟨rfl, mm_B_of hK hZ hM hU hW⟩⟩ rfl rfl hl.1 rfl (lv_room (Nat.le_of_ble_eq_true rfl)) dX10_flood_14 ⟨Nat.zero_le _, Nat.zero_le _⟩) hM (fun H locs hM => ?_)
    refine lv_goto (tgt := 22) hx hb dX10_flood_17 (by decide) ?_
    obtain rfl := Option.some.inj hf
    subst hQ
    exact ev_iret S hr hlocks hK hZ hM dX10_flood_22
noncomputable def fn_X10_masks_L2 (K : Nat → Nat) (N : Nat → Nat) (a0 : Nat) (x1 : Int32) (P : Nat → Nat → Option Nat) : Nat → Int32 → (Nat → Nat → Int32) → Option ((Nat → Nat → Int32))
  | 0, _, _ => none
  | n + 1, v1, I2 => if (192 : Int32) ≤ v1 then (some I2) else (gd (K a0 = 11) (Option.bind (P a0 (0)) (fun q6 => gd (K q6 = 12 ∧ vp_in ((1556 : Int32) + v1) (N q6)) (Option.bind (some (I2 q6 (((1556 : Int32) + v1)).toNatClampNeg)) (fun v8 => if x1 = 0 then (Option.bind (P a0 (16)) (fun q21 => gd (K q21 = 12 ∧ vp_in v1 (N q21)) (Option.bind (some (up2 I2 q6 (((1556 : Int32) + v1)).toNatClampNeg (I2 q21 (v1.toNatClampNeg)))) (fun I23 => fn_X10_masks_L2 K N a0 x1 P n (v1 + (1 : Int32)) I23)))) else (if x1 = (1 : Int32) then (Option.bind (P a0 (16)) (fun q18 => gd (K q18 = 12 ∧ vp_in v1 (N q18)) (Option.bind (some (up2 I2 q6 (((1556 : Int32) + v1)).toNatClampNeg (v8 ||| (I2 q18 (v1.toNatClampNeg))))) (fun I20 => fn_X10_masks_L2 K N a0 x1 P n (v1 + (1 : Int32)) I20)))) else (if x1 = (2 : Int32) then (Option.bind (P a0 (16)) (fun q15 => gd (K q15 = 12 ∧ vp_in v1 (N q15)) (Option.bind (some (up2 I2 q6 (((1556 : Int32) + v1)).toNatClampNeg (v8 &&& ((I2 q15 (v1.toNatClampNeg)) ^^^ (-1 : Int32))))) (fun I17 => fn_X10_masks_L2 K N a0 x1 P n (v1 + (1 : Int32)) I17)))) else (Option.bind (P a0 (16)) (fun q12 => gd (K q12 = 12 ∧ vp_in v1 (N q12)) (Option.bind (some (up2 I2 q6 (((1556 : Int32) + v1)).toNatClampNeg (v8 &&& (I2 q12 (v1.toNatClampNeg))))) (fun I14 => fn_X10_masks_L2 K N a0 x1 P n (v1 + (1 : Int32)) I14)))))))))))
noncomputable def fn_X10_masks (K N : Nat → Nat) (I : Nat → Nat → Int32) (P : Nat → Nat → Option Nat) (a0 : Nat) (x1 : Int32) : Option (Int32 × (Nat → Nat → Int32)) := Option.bind (fn_X10_masks_L2 K N a0 x1 P FU (0 : Int32) I) (fun (r3 : (Nat → Nat → Int32)) => Option.bind (fn_X10_masked K N r3 P a0) (fun (r24 : Int32) => gd (K a0 = 11) (some (r24, r3))))
abbrev wz_X10_masks : List Cond := Cond.code yX10_masks cX10_masks 4 (some .int) :: WA
abbrev rm_X10_masks : Room := { frames := 2, cells := 0, slots := 0, locals := 34 }
set_option maxHeartbeats 4000000 in
set_option maxRecDepth 100000 in
theorem c_X10_masks (I : Nat → Nat → Int32) (P : Nat → Nat → Option Nat) (a0 : Nat) (x1 : Int32) (res : Int32 × (Nat → Nat → Int32)) (hf : fn_X10_masks K N I P a0 x1 = some res) : Met l yX10_masks wz_X10_masks rm_X10_masks (va_Pc [.ref a0, .int x1] (mm_B D cs A L K N z w I P)) (va_Qi (fun r (_ : Unit) => r = res.1) (fun _ => mm_B D cs A L K N z w res.2 P) A) 0 0 A := by
  refine Met.ofW (cc := cX10_masks) (maxL := 4) (ret := (some .int)) (by decide) rfl ?_
  intro p e s m args below meth c s₁ B hml hv
  obtain ⟨rfl, hBm⟩ := hv
  have hx := B.exec
  have hb := B.bytes
  have hr := B.returns
  have hts := atoms_spec (ws := wz_X10_masks) B.pre
  have hWA : ∀ w ∈ WA, w.before ([.ref a0, .int x1] : List Value).toArray s = true := fun u9 h9 => hts u9 (List.mem_cons_of_mem _ h9)
  have hown : s.vm.findClass RX10 = some m.cls := findClass_of_methodNamed B.named
  have hlocks := B.notSynchronized
  have S : CallFix p m c cX10_masks 4 s ([.ref a0, .int x1] : List Value).toArray wz_X10_masks RX10 := ⟨hx, hb, hml, hown, hts⟩
  have hK := hBm.2.2.2.1
  have hZ := hBm.2.2.2.2
  have hM : mm_W D cs A L K N s.heap I P s.heap [] := ⟨hBm.1, hBm.2.1, hBm.2.2.1, va_S.rf⟩
  have hl := lv_entry ([.ref a0, .int x1]) (n := 4) (Nat.le_of_ble_eq_true rfl)
  rw [lg_entry_eq]
  generalize (lg_sl ([.ref a0, .int x1]) ++ List.replicate (4 - (lg_sl ([.ref a0, .int x1])).length) Slot.unset).toArray = ls at hl ⊢
  have hl : lv_has ls 4 [(0, .ref a0), (1, .int x1)] := hl
  have hin10 : ∀ w ∈ wsX100, w ∈ wz_X10_masks := fun w h => List.mem_cons_of_mem _ (wu_X10 w h)
  have lk9 : (Cond.fieldLink RX10 9 RX10 "g" "[I").before ([.ref a0, .int x1] : List Value).toArray s = true := hWA _ wa_4_141
  have lk22 : (Cond.fieldLink RX10 22 RX10 "set" "[I").before ([.ref a0, .int x1] : List Value).toArray s = true := hWA _ wa_4_157
  generalize hQ : MQ below (va_Qi (fun r (_ : Unit) => r = res.1) (fun _ => mm_B D cs A L K N z w res.2 P) A) ([.ref a0, .int x1] : List Value).toArray s 0 0 A = QQ
  rw [fn_X10_masks] at hf
  refine lv_iconst (v := (0 : Int32)) hx hb dX10_masks_0 (by decide) ?_
  refine lv_istore_n (lv' := [(2, .int (0 : Int32)), (0, .ref a0), (1, .int x1)]) hx hb dX10_masks_1 rfl hl (by decide) rfl (fun ls hl => ?_)
  have lp2_23 : ∀ (n : Nat) (v1 : Int32) (I2 : Nat → Nat → Int32) (H : Heap) (locs : List Loc) (ls : Array Slot) (r3 : (Nat → Nat → Int32)), mm_W D cs A L K N s.heap I2 P H locs → lv_has ls 4 [(0, .ref a0), (1, .int x1), (2, .int v1)] → fn_X10_masks_L2 K N a0 x1 P n v1 I2 = some r3 → (∀ (H : Heap) (locs : List Loc) (ls : Array Slot), mm_W D cs A L K N s.heap r3 P H locs → lv_has ls 4 [(0, .ref a0)] → W p l e (headSpec wz_X10_masks rm_X10_masks).room s m ([.ref a0, .int x1] : List Value).toArray below meth c H locs 0 0 QQ (F0 m 91 ls [])) → W p l e (headSpec wz_X10_masks rm_X10_masks).room s m ([.ref a0, .int x1] : List Value).toArray below meth c H locs 0 0 QQ (F0 m 2 ls []) := by
    intro n
    induction n with
    | zero => intro v1 I2 H locs ls r3 hM hl hf kk; exact nn_x (show (none : Option ((Nat → Nat → Int32))) = some r3 from hf)
    | succ n ih =>
      intro v1 I2 H locs ls r3 hM hl hf kk
      rw [fn_X10_masks_L2] at hf
      refine lv_iload_n hx hb dX10_masks_2 rfl (lv_at hl 2 rfl) ?_
      refine lv_sipush (v := (192 : Int32)) hx hb dX10_masks_3 (by decide) ?_
      refine lv_icmp_ge (tgt := 91) hx hb dX10_masks_6 (by decide) (fun hc4 => ?_) (fun hc4 => ?_)
      · have hf := it_p hf hc4
        obtain rfl := Option.some.inj hf
        exact kk _ _ _ hM (lv_sub hl [0] rfl)
      · have hf := it_n hf hc4
        refine lv_aload_n hx hb dX10_masks_9 rfl (lv_at hl 0 rfl) ?_
        refine gd_e hf (fun hg5 hf => ?_)
        refine bd_e hf (fun q6 eq6 hf => ?_)
        refine ev_getP (v := q6) S hK hM (ci := 10) (n := 23) (C := RX10) (T := TX10) hin10 rfl hg5 0 (by decide) lk9 rfl rfl eq6 rfl dX10_masks_10 ?_
        refine lv_sipush (v := (1556 : Int32)) hx hb dX10_masks_13 (by decide) ?_
        refine lv_iload_n hx hb dX10_masks_16 rfl (lv_at hl 2 rfl) ?_
        refine lv_iadd hx hb dX10_masks_17 ?_
        refine gd_e hf (fun hg7 hf => ?_)
        refine ev_iald S hK hM hg7 (j := (((1556 : Int32) + v1)).toNatClampNeg) rfl dX10_masks_18 ?_
        refine lv_topi (fun v8 ev8 => ?_)
        have hf := nm_x ev8 hf
        refine lv_istore_n (lv' := [(3, .int v8), (0, .ref a0), (1, .int x1), (2, .int v1)]) hx hb dX10_masks_19 rfl hl (by decide) rfl (fun ls hl => ?_)
        refine lv_aload_n hx hb dX10_masks_20 rfl (lv_at hl 1 rfl) ?_
        refine ev_getP (v := q6) S hK hM (ci := 10) (n := 23) (C := RX10) (T := TX10) hin10 rfl hg5 0 (by decide) lk9 rfl rfl eq6 rfl dX10_masks_21 ?_
        refine lv_sipush (v := (1556 : Int32)) hx hb dX10_masks_24 (by decide) ?_
        refine lv_iload_n hx hb dX10_masks_27 rfl (lv_at hl 3 rfl) ?_
        refine lv_iadd hx hb dX10_masks_28 ?_
        refine lv_iload_n hx hb dX10_masks_29 rfl (lv_at hl 2 rfl) ?_
        refine lv_if_ne (tgt := 42) hx hb dX10_masks_30 (by decide) (fun hc9 => ?_) (fun hc9 => ?_)
        · have hf := it_n hf hc9
          refine lv_iload_n hx hb dX10_masks_42 rfl (lv_at hl 2 rfl) ?_
          refine lv_iconst (v := (1 : Int32)) hx hb dX10_masks_43 (by decide) ?_
          refine lv_icmp_ne (tgt := 58) hx hb dX10_masks_44 (by decide) (fun hc10 => ?_) (fun hc10 => ?_)
          · have hf := it_n hf hc10
            refine lv_iload_n hx hb dX10_masks_58 rfl (lv_at hl 2 rfl) ?_
            refine lv_iconst (v := (2 : Int32)) hx hb dX10_masks_59 (by decide) ?_
            refine lv_icmp_ne (tgt := 76) hx hb dX10_masks_60 (by decide) (fun hc11 => ?_) (fun hc11 => ?_)
            · have hf := it_n hf hc11
              refine lv_iload_n hx hb dX10_masks_76 rfl (lv_at hl 0 rfl) ?_
              refine lv_aload_n hx hb dX10_masks_77 rfl (lv_at hl 1 rfl) ?_
              refine bd_e hf (fun q12 eq12 hf => ?_)
              refine ev_getP (v := q12) S hK hM (ci := 10) (n := 23) (C := RX10) (T := TX10) hin10 rfl hg5 16 (by decide) lk22 rfl rfl eq12 rfl dX10_masks_78 ?_
              refine lv_iload_n hx hb dX10_masks_81 rfl (lv_at hl 3 rfl) ?_
              refine gd_e hf (fun hg13 hf => ?_)
              refine ev_iald S hK hM hg13 (j := v1.toNatClampNeg) rfl dX10_masks_82 ?_
              refine lv_iand hx hb dX10_masks_83 ?_
              refine ev_iast S hK hM hg7 (j := (((1556 : Int32) + v1)).toNatClampNeg) rfl dX10_masks_84 (fun I14 eI14 H locs hM => ?_)
              have hf := nm_x eI14 hf
              refine lv_iinc (v := (v1 + (1 : Int32))) (lv' := [(2, .int (v1 + (1 : Int32))), (3, .int v8), (0, .ref a0), (1, .int x1)]) hx hb dX10_masks_85 hl (k := 3) rfl rfl (by decide) rfl (fun ls hl => ?_)
              refine lv_goto (tgt := 2) hx hb dX10_masks_88 (by decide) ?_
              exact ih (v1 + (1 : Int32)) I14 _ _ _ _ hM (lv_sub hl [2, 3, 0] rfl) hf kk
            · have hf := it_p hf hc11
              refine lv_iload_n hx hb dX10_masks_63 rfl (lv_at hl 0 rfl) ?_
              refine lv_aload_n hx hb dX10_masks_64 rfl (lv_at hl 1 rfl) ?_
              refine bd_e hf (fun q15 eq15 hf => ?_)
              refine ev_getP (v := q15) S hK hM (ci := 10) (n := 23) (C := RX10) (T := TX10) hin10 rfl hg5 16 (by decide) lk22 rfl rfl eq15 rfl dX10_masks_65 ?_
              refine lv_iload_n hx hb dX10_masks_68 rfl (lv_at hl 3 rfl) ?_
              refine gd_e hf (fun hg16 hf => ?_)
              refine ev_iald S hK hM hg16 (j := v1.toNatClampNeg) rfl dX10_masks_69 ?_
              refine lv_iconst (v := (-1 : Int32)) hx hb dX10_masks_70 (by decide) ?_
              refine lv_ixor hx hb dX10_masks_71 ?_
              refine lv_iand hx hb dX10_masks_72 ?_
              refine lv_goto (tgt := 84) hx hb dX10_masks_73 (by decide) ?_
              refine ev_iast S hK hM hg7 (j := (((1556 : Int32) + v1)).toNatClampNeg) rfl dX10_masks_84 (fun I17 eI17 H locs hM => ?_)
              have hf := nm_x eI17 hf
              refine lv_iinc (v := (v1 + (1 : Int32))) (lv' := [(2, .int (v1 + (1 : Int32))), (3, .int v8), (0, .ref a0), (1, .int x1)]) hx hb dX10_masks_85 hl (k := 3) rfl rfl (by decide) rfl (fun ls hl => ?_)
              refine lv_goto (tgt := 2) hx hb dX10_masks_88 (by decide) ?_
              exact ih (v1 + (1 : Int32)) I17 _ _ _ _ hM (lv_sub hl [2, 3, 0] rfl) hf kk
          · have hf := it_p hf hc10
            refine lv_iload_n hx hb dX10_masks_47 rfl (lv_at hl 0 rfl) ?_
            refine lv_aload_n hx hb dX10_masks_48 rfl (lv_at hl 1 rfl) ?_
            refine bd_e hf (fun q18 eq18 hf => ?_)
            refine ev_getP (v := q18) S hK hM (ci := 10) (n := 23) (C := RX10) (T := TX10) hin10 rfl hg5 16 (by decide) lk22 rfl rfl eq18 rfl dX10_masks_49 ?_
            refine lv_iload_n hx hb dX10_masks_52 rfl (lv_at hl 3 rfl) ?_
            refine gd_e hf (fun hg19 hf => ?_)
            refine ev_iald S hK hM hg19 (j := v1.toNatClampNeg) rfl dX10_masks_53 ?_
            refine lv_ior hx hb dX10_masks_54 ?_
            refine lv_goto (tgt := 84) hx hb dX10_masks_55 (by decide) ?_
            refine ev_iast S hK hM hg7 (j := (((1556 : Int32) + v1)).toNatClampNeg) rfl dX10_masks_84 (fun I20 eI20 H locs hM => ?_)
            have hf := nm_x eI20 hf
            refine lv_iinc (v := (v1 + (1 : Int32))) (lv' := [(2, .int (v1 + (1 : Int32))), (3, .int v8), (0, .ref a0), (1, .int x1)]) hx hb dX10_masks_85 hl (k := 3) rfl rfl (by decide) rfl (fun ls hl => ?_)
            refine lv_goto (tgt := 2) hx hb dX10_masks_88 (by decide) ?_
            exact ih (v1 + (1 : Int32)) I20 _ _ _ _ hM (lv_sub hl [2, 3, 0] rfl) hf kk
        · have hf := it_p hf hc9
          refine lv_aload_n hx hb dX10_masks_33 rfl (lv_at hl 1 rfl) ?_
          refine bd_e hf (fun q21 eq21 hf => ?_)
          refine ev_getP (v := q21) S hK hM (ci := 10) (n := 23) (C := RX10) (T := TX10) hin10 rfl hg5 16 (by decide) lk22 rfl rfl eq21 rfl dX10_masks_34 ?_
          refine lv_iload_n hx hb dX10_masks_37 rfl (lv_at hl 3 rfl) ?_
          refine gd_e hf (fun hg22 hf => ?_)
          refine ev_iald S hK hM hg22 (j := v1.toNatClampNeg) rfl dX10_masks_38 ?_
          refine lv_goto (tgt := 84) hx hb dX10_masks_39 (by decide) ?_
          refine ev_iast S hK hM hg7 (j := (((1556 : Int32) + v1)).toNatClampNeg) rfl dX10_masks_84 (fun I23 eI23 H locs hM => ?_)
          have hf := nm_x eI23 hf
          refine lv_iinc (v := (v1 + (1 : Int32))) (lv' := [(2, .int (v1 + (1 : Int32))), (3, .int v8), (0, .ref a0), (1, .int x1)]) hx hb dX10_masks_85 hl (k := 3) rfl rfl (by decide) rfl (fun ls hl => ?_)
          refine lv_goto (tgt := 2) hx hb dX10_masks_88 (by decide) ?_
          exact ih (v1 + (1 : Int32)) I23 _ _ _ _ hM (lv_sub hl [2, 3, 0] rfl) hf kk
  refine bd_e hf (fun r3 er3 hf => ?_)
  refine lp2_23 FU (0 : Int32) I _ _ _ r3 hM (lv_sub hl [1, 2, 0] rfl) er3 (fun H locs ls hM hl => ?_)
  refine lv_aload_n hx hb dX10_masks_91 rfl (lv_at hl 0 rfl) ?_
  refine bd_e hf (fun r24 er24 hf => ?_)
  refine gd_e hf (fun hg25 hf => ?_)
  refine ev_calli (va_runV (As := []) (rest := []) S (c_X10_masked (l := l) r3 P a0 r24 er24) (cwV 0 hts (gi_v wa_5_136 wa_5_138 wa_s_48 wa_1_11 wa_5_139) rfl rfl rfl (by decide +kernel) ⟨Nat.le_of_ble_eq_true rfl, Nat.le_of_ble_eq_true rfl⟩) ⟨mm_B_blind, ev_recv hK hM (ci := 10) rfl hg25 rfl, fun U hU hW => ⟨rfl, mm_B_of hK hZ hM hU hW⟩⟩ rfl rfl hl.1 rfl (lv_room (Nat.le_of_ble_eq_true rfl)) dX10_masks_92 ⟨Nat.zero_le _, Nat.zero_le _⟩) hM (fun H locs hM => ?_)
  obtain rfl := Option.some.inj hf
  subst hQ
  exact ev_iret S hr hlocks hK hZ hM dX10_masks_95
noncomputable def fn_X10_mask (K N : Nat → Nat) (I : Nat → Nat → Int32) (P : Nat → Nat → Option Nat) (a0 : Nat) (x1 : Int32) (x2 : Int32) (x3 : Int32) (x4 : Int32) (x5 : Int32) : Option (Int32 × (Nat → Nat → Int32)) := Option.bind (fn_X10_isIn x5 (0 : Int32) (3 : Int32)) (fun (r1 : Int32) => if r1 = 0 then (some ((-2 : Int32), I)) else (Option.bind (fn_X10_isBoxed K N I P a0 x1 x2 x3 x4) (fun (r3 : Int32 × (Nat → Nat → Int32)) => gd (K a0 = 11) (if r3.1 = 0 then (some ((-2 : Int32), r3.2)) else (Option.bind (fn_X10_masks K N r3.2 P a0 x5) (fun (r6 : Int32 × (Nat → Nat → Int32)) => some (r6.1, r6.2)))))))
abbrev wz_X10_mask : List Cond := Cond.code yX10_mask cX10_mask 6 (some .int) :: WA
abbrev rm_X10_mask : Room := { frames := 4, cells := 0, slots := 0, locals := 80 }
set_option maxHeartbeats 4000000 in
set_option maxRecDepth 100000 in
theorem c_X10_mask (I : Nat → Nat → Int32) (P : Nat → Nat → Option Nat) (a0 : Nat) (x1 : Int32) (x2 : Int32) (x3 : Int32) (x4 : Int32) (x5 : Int32) (res : Int32 × (Nat → Nat → Int32)) (hf : fn_X10_mask K N I P a0 x1 x2 x3 x4 x5 = some res) : Met l yX10_mask wz_X10_mask rm_X10_mask (va_Pc [.ref a0, .int x1, .int x2, .int x3, .int x4, .int x5] (mm_B D cs A L K N z w I P)) (va_Qi (fun r (_ : Unit) => r = res.1) (fun _ => mm_B D cs A L K N z w res.2 P) A) 0 0 A := by
  refine Met.ofW (cc := cX10_mask) (maxL := 6) (ret := (some .int)) (by decide) rfl ?_
  intro p e s m args below meth c s₁ B hml hv
  obtain ⟨rfl, hBm⟩ := hv
  have hx := B.exec
  have hb := B.bytes
  have hr := B.returns
  have hts := atoms_spec (ws := wz_X10_mask) B.pre
  have hWA : ∀ w ∈ WA, w.before ([.ref a0, .int x1, .int x2, .int x3, .int x4, .int x5] : List Value).toArray s = true := fun u9 h9 => hts u9 (List.mem_cons_of_mem _ h9)
  have hown : s.vm.findClass RX10 = some m.cls := findClass_of_methodNamed B.named
  have hlocks := B.notSynchronized
  have S : CallFix p m c cX10_mask 6 s ([.ref a0, .int x1, .int x2, .int x3, .int x4, .int x5] : List Value).toArray wz_X10_mask RX10 := ⟨hx, hb, hml, hown, hts⟩
  have hK := hBm.2.2.2.1
  have hZ := hBm.2.2.2.2
  have hM : mm_W D cs A L K N s.heap I P s.heap [] := ⟨hBm.1, hBm.2.1, hBm.2.2.1, va_S.rf⟩
  have hl := lv_entry ([.ref a0, .int x1, .int x2, .int x3, .int x4, .int x5]) (n := 6) (Nat.le_of_ble_eq_true rfl)
  rw [lg_entry_eq]
  generalize (lg_sl ([.ref a0, .int x1, .int x2, .int x3, .int x4, .int x5]) ++ List.replicate (6 - (lg_sl ([.ref a0, .int x1, .int x2, .int x3, .int x4, .int x5])).length) Slot.unset).toArray = ls at hl ⊢
  have hl : lv_has ls 6 [(0, .ref a0), (1, .int x1), (2, .int x2), (3, .int x3), (4, .int x4), (5, .int x5)] := hl
  generalize hQ : MQ below (va_Qi (fun r (_ : Unit) => r = res.1) (fun _ => mm_B D cs A L K N z w res.2 P) A) ([.ref a0, .int x1, .int x2, .int x3, .int x4, .int x5] : List Value).toArray s 0 0 A = QQ
  rw [fn_X10_mask] at hf
  refine lv_iload hx hb dX10_mask_0 (lv_at hl 5 rfl) ?_
  refine lv_iconst (v := (0 : Int32)) hx hb dX10_mask_2 (by decide) ?_
  refine lv_iconst (v := (3 : Int32)) hx hb dX10_mask_3 (by decide) ?_
  refine bd_e hf (fun r1 er1 hf => ?_)
  refine ev_calli (va_runS (As := [.int x5, .int (0 : Int32), .int (3 : Int32)]) (rest := []) S (c_X10_isIn (l := l) I P x5 (0 : Int32) (3 : Int32) r1 er1) (va_cwS 3 hts (gi_s wa_4_218 wa_4_219 wa_1_11 wa_4_220) rfl rfl rfl (by decide +kernel) ⟨Nat.le_of_ble_eq_true rfl, Nat.le_of_ble_eq_true rfl⟩) ⟨mm_B_blind, fun U hU hW => ⟨rfl, mm_B_of hK hZ hM hU hW⟩⟩ rfl rfl hl.1 rfl (lv_room (Nat.le_of_ble_eq_true rfl)) dX10_mask_4 ⟨Nat.zero_le _, Nat.zero_le _⟩) hM (fun H locs hM => ?_)
  refine lv_if_eq (tgt := 31) hx hb dX10_mask_7 (by decide) (fun hc2 => ?_) (fun hc2 => ?_)
  · have hf := it_p hf hc2
    refine lv_bipush (v := (-2 : Int32)) hx hb dX10_mask_31 (by decide) ?_
    obtain rfl := Option.some.inj hf
    subst hQ
    exact ev_iret S hr hlocks hK hZ hM dX10_mask_33
  · have hf := it_n hf hc2
    refine lv_aload_n hx hb dX10_mask_10 rfl (lv_at hl 0 rfl) ?_
    refine lv_iload_n hx hb dX10_mask_11 rfl (lv_at hl 1 rfl) ?_
    refine lv_iload_n hx hb dX10_mask_12 rfl (lv_at hl 2 rfl) ?_
    refine lv_iload_n hx hb dX10_mask_13 rfl (lv_at hl 3 rfl) ?_
    refine lv_iload hx hb dX10_mask_14 (lv_at hl 4 rfl) ?_
    refine bd_e hf (fun r3 er3 hf => ?_)
    refine gd_e hf (fun hg4 hf => ?_)
    refine ev_calli (va_runV (As := [.int x1, .int x2, .int x3, .int x4]) (rest := []) S (c_X10_isBoxed (l := l) I P a0 x1 x2 x3 x4 r3 er3) (cwV 4 hts (gi_v wa_5_158 wa_5_160 wa_s_50 wa_1_11 wa_5_161) rfl rfl rfl (by decide +kernel) ⟨Nat.le_of_ble_eq_true rfl, Nat.le_of_ble_eq_true rfl⟩) ⟨mm_B_blind, ev_recv hK hM (ci := 10) rfl hg4 rfl, fun U hU hW => ⟨rfl, mm_B_of hK hZ hM hU hW⟩⟩ rfl rfl hl.1 rfl (lv_room (Nat.le_of_ble_eq_true rfl)) dX10_mask_16 ⟨Nat.zero_le _, Nat.zero_le _⟩) hM (fun H locs hM => ?_)
    refine lv_if_eq (tgt := 31) hx hb dX10_mask_19 (by decide) (fun hc5 => ?_) (fun hc5 => ?_)
    · have hf := it_p hf hc5
      refine lv_bipush (v := (-2 : Int32)) hx hb dX10_mask_31 (by decide) ?_
      obtain rfl := Option.some.inj hf
      subst hQ
      exact ev_iret S hr hlocks hK hZ hM dX10_mask_33
    · have hf := it_n hf hc5
      refine lv_aload_n hx hb dX10_mask_22 rfl (lv_at hl 0 rfl) ?_
      refine lv_iload hx hb dX10_mask_23 (lv_at hl 5 rfl) ?_
      refine bd_e hf (fun r6 er6 hf => ?_)
      refine ev_calli (va_runV (As := [.int x5]) (rest := []) S (c_X10_masks (l := l) r3.2 P a0 x5 r6 er6) (cwV 1 hts (gi_v wa_5_189 wa_5_191 wa_s_55 wa_1_11 wa_5_192) rfl rfl rfl (by decide +kernel) ⟨Nat.le_of_ble_eq_true rfl, Nat.le_of_ble_eq_true rfl⟩) ⟨mm_B_blind, ev_recv hK hM (ci := 10) rfl hg4 rfl, fun U hU hW => ⟨rfl, mm_B_of hK hZ hM hU hW⟩⟩ rfl rfl hl.1 rfl (lv_room (Nat.le_of_ble_eq_true rfl)) dX10_mask_25 ⟨Nat.zero_le _, Nat.zero_le _⟩) hM (fun H locs hM => ?_)
      refine lv_goto (tgt := 33) hx hb dX10_mask_28 (by decide) ?_
      obtain rfl := Option.some.inj hf
      subst hQ
      exact ev_iret S hr hlocks hK hZ hM dX10_mask_33
noncomputable def fn_X10_wand (K N : Nat → Nat) (I : Nat → Nat → Int32) (P : Nat → Nat → Option Nat) (a0 : Nat) (x1 : Int32) (x2 : Int32) (x3 : Int32) (x4 : Int32) (x5 : Int32) : Option (Int32 × (Nat → Nat → Int32)) := Option.bind (fn_X10_isIn x5 (0 : Int32) (3 : Int32)) (fun (r1 : Int32) => if r1 = 0 then (some ((-2 : Int32), I)) else (Option.bind (fn_X10_isRegion K N I P a0 x1 x2 x3 x4) (fun (r3 : Int32 × (Nat → Nat → Int32)) => gd (K a0 = 11) (if r3.1 = 0 then (some ((-2 : Int32), r3.2)) else (Option.bind (fn_X10_masks K N r3.2 P a0 x5) (fun (r6 : Int32 × (Nat → Nat → Int32)) => some (r6.1, r6.2)))))))
abbrev wz_X10_wand : List Cond := Cond.code yX10_wand cX10_wand 6 (some .int) :: WA
abbrev rm_X10_wand : Room := { frames := 6, cells := 0, slots := 0, locals := 131 }
set_option maxHeartbeats 4000000 in
set_option maxRecDepth 100000 in
theorem c_X10_wand (I : Nat → Nat → Int32) (P : Nat → Nat → Option Nat) (a0 : Nat) (x1 : Int32) (x2 : Int32) (x3 : Int32) (x4 : Int32) (x5 : Int32) (res : Int32 × (Nat → Nat → Int32)) (hf : fn_X10_wand K N I P a0 x1 x2 x3 x4 x5 = some res) : Met l yX10_wand wz_X10_wand rm_X10_wand (va_Pc [.ref a0, .int x1, .int x2, .int x3, .int x4, .int x5] (mm_B D cs A L K N z w I P)) (va_Qi (fun r (_ : Unit) => r = res.1) (fun _ => mm_B D cs A L K N z w res.2 P) A) 0 0 A := by
  refine Met.ofW (cc := cX10_wand) (maxL := 6) (ret := (some .int)) (by decide) rfl ?_
  intro p e s m args below meth c s₁ B hml hv
  obtain ⟨rfl, hBm⟩ := hv
  have hx := B.exec
  have hb := B.bytes
  have hr := B.returns
  have hts := atoms_spec (ws := wz_X10_wand) B.pre
  have hWA : ∀ w ∈ WA, w.before ([.ref a0, .int x1, .int x2, .int x3, .int x4, .int x5] : List Value).toArray s = true := fun u9 h9 => hts u9 (List.mem_cons_of_mem _ h9)
  have hown : s.vm.findClass RX10 = some m.cls := findClass_of_methodNamed B.named
  have hlocks := B.notSynchronized
  have S : CallFix p m c cX10_wand 6 s ([.ref a0, .int x1, .int x2, .int x3, .int x4, .int x5] : List Value).toArray wz_X10_wand RX10 := ⟨hx, hb, hml, hown, hts⟩
  have hK := hBm.2.2.2.1
  have hZ := hBm.2.2.2.2
  have hM : mm_W D cs A L K N s.heap I P s.heap [] := ⟨hBm.1, hBm.2.1, hBm.2.2.1, va_S.rf⟩
  have hl := lv_entry ([.ref a0, .int x1, .int x2, .int x3, .int x4, .int x5]) (n := 6) (Nat.le_of_ble_eq_true rfl)
  rw [lg_entry_eq]
  generalize (lg_sl ([.ref a0, .int x1, .int x2, .int x3, .int x4, .int x5]) ++ List.replicate (6 - (lg_sl ([.ref a0, .int x1, .int x2, .int x3, .int x4, .int x5])).length) Slot.unset).toArray = ls at hl ⊢
  have hl : lv_has ls 6 [(0, .ref a0), (1, .int x1), (2, .int x2), (3, .int x3), (4, .int x4), (5, .int x5)] := hl
  generalize hQ : MQ below (va_Qi (fun r (_ : Unit) => r = res.1) (fun _ => mm_B D cs A L K N z w res.2 P) A) ([.ref a0, .int x1, .int x2, .int x3, .int x4, .int x5] : List Value).toArray s 0 0 A = QQ
  rw [fn_X10_wand] at hf
  refine lv_iload hx hb dX10_wand_0 (lv_at hl 5 rfl) ?_
  refine lv_iconst (v := (0 : Int32)) hx hb dX10_wand_2 (by decide) ?_
  refine lv_iconst (v := (3 : Int32)) hx hb dX10_wand_3 (by decide) ?_
  refine bd_e hf (fun r1 er1 hf => ?_)
  refine ev_calli (va_runS (As := [.int x5, .int (0 : Int32), .int (3 : Int32)]) (rest := []) S (c_X10_isIn (l := l) I P x5 (0 : Int32) (3 : Int32) r1 er1) (va_cwS 3 hts (gi_s wa_4_218 wa_4_219 wa_1_11 wa_4_220) rfl rfl rfl (by decide +kernel) ⟨Nat.le_of_ble_eq_true rfl, Nat.le_of_ble_eq_true rfl⟩) ⟨mm_B_blind, fun U hU hW => ⟨rfl, mm_B_of hK hZ hM hU hW⟩⟩ rfl rfl hl.1 rfl (lv_room (Nat.le_of_ble_eq_true rfl)) dX10_wand_4 ⟨Nat.zero_le _, Nat.zero_le _⟩) hM (fun H locs hM => ?_)
  refine lv_if_eq (tgt := 31) hx hb dX10_wand_7 (by decide) (fun hc2 => ?_) (fun hc2 => ?_)
  · have hf := it_p hf hc2
    refine lv_bipush (v := (-2 : Int32)) hx hb dX10_wand_31 (by decide) ?_
    obtain rfl := Option.some.inj hf
    subst hQ
    exact ev_iret S hr hlocks hK hZ hM dX10_wand_33
  · have hf := it_n hf hc2
    refine lv_aload_n hx hb dX10_wand_10 rfl (lv_at hl 0 rfl) ?_
    refine lv_iload_n hx hb dX10_wand_11 rfl (lv_at hl 1 rfl) ?_
    refine lv_iload_n hx hb dX10_wand_12 rfl (lv_at hl 2 rfl) ?_
    refine lv_iload_n hx hb dX10_wand_13 rfl (lv_at hl 3 rfl) ?_
    refine lv_iload hx hb dX10_wand_14 (lv_at hl 4 rfl) ?_
    refine bd_e hf (fun r3 er3 hf => ?_)
    refine gd_e hf (fun hg4 hf => ?_)
    refine ev_calli (va_runV (As := [.int x1, .int x2, .int x3, .int x4]) (rest := []) S (c_X10_isRegion (l := l) I P a0 x1 x2 x3 x4 r3 er3) (cwV 4 hts (gi_v wa_5_170 wa_5_172 wa_s_52 wa_1_11 wa_5_173) rfl rfl rfl (by decide +kernel) ⟨Nat.le_of_ble_eq_true rfl, Nat.le_of_ble_eq_true rfl⟩) ⟨mm_B_blind, ev_recv hK hM (ci := 10) rfl hg4 rfl, fun U hU hW => ⟨rfl, mm_B_of hK hZ hM hU hW⟩⟩ rfl rfl hl.1 rfl (lv_room (Nat.le_of_ble_eq_true rfl)) dX10_wand_16 ⟨Nat.zero_le _, Nat.zero_le _⟩) hM (fun H locs hM => ?_)
    refine lv_if_eq (tgt := 31) hx hb dX10_wand_19 (by decide) (fun hc5 => ?_) (fun hc5 => ?_)
    · have hf := it_p hf hc5
      refine lv_bipush (v := (-2 : Int32)) hx hb dX10_wand_31 (by decide) ?_
      obtain rfl := Option.some.inj hf
      subst hQ
      exact ev_iret S hr hlocks hK hZ hM dX10_wand_33
    · have hf := it_n hf hc5
      refine lv_aload_n hx hb dX10_wand_22 rfl (lv_at hl 0 rfl) ?_
      refine lv_iload hx hb dX10_wand_23 (lv_at hl 5 rfl) ?_
      refine bd_e hf (fun r6 er6 hf => ?_)
      refine ev_calli (va_runV (As := [.int x5]) (rest := []) S (c_X10_masks (l := l) r3.2 P a0 x5 r6 er6) (cwV 1 hts (gi_v wa_5_189 wa_5_191 wa_s_55 wa_1_11 wa_5_192) rfl rfl rfl (by decide +kernel) ⟨Nat.le_of_ble_eq_true rfl, Nat.le_of_ble_eq_true rfl⟩) ⟨mm_B_blind, ev_recv hK hM (ci := 10) rfl hg4 rfl, fun U hU hW => ⟨rfl, mm_B_of hK hZ hM hU hW⟩⟩ rfl rfl hl.1 rfl (lv_room (Nat.le_of_ble_eq_true rfl)) dX10_wand_25 ⟨Nat.zero_le _, Nat.zero_le _⟩) hM (fun H locs hM => ?_)
      refine lv_goto (tgt := 33) hx hb dX10_wand_28 (by decide) ?_
      obtain rfl := Option.some.inj hf
      subst hQ
      exact ev_iret S hr hlocks hK hZ hM dX10_wand_33
noncomputable def fn_X10_hasBeside_L5 (K : Nat → Nat) (N : Nat → Nat) (a0 : Nat) (x1 : Int32) (x2 : Int32) (I : Nat → Nat → Int32) (P : Nat → Nat → Option Nat) : Nat → Int32 → Int32 → Option (Int32)
  | 0, _, _ => none
  | n + 1, v1, v2 => if (4 : Int32) ≤ v2 then (some v1) else (Option.bind (fn_X10_beside x1 v2) (fun (r5 : Int32) => if r5 < 0 then (Option.bind (some (v1 ||| (0 : Int32))) (fun v7 => fn_X10_hasBeside_L5 K N a0 x1 x2 I P n v7 (v2 + (1 : Int32)))) else (gd (K a0 = 11) (Option.bind (P a0 (0)) (fun q9 => Option.bind (fn_X10_beside x1 v2) (fun (r10 : Int32) => gd (K q9 = 12 ∧ vp_in ((1556 : Int32) + r10) (N q9)) (if (I q9 (((1556 : Int32) + r10)).toNatClampNeg) = x2 then (Option.bind (some (v1 ||| (1 : Int32))) (fun v14 => fn_X10_hasBeside_L5 K N a0 x1 x2 I P n v14 (v2 + (1 : Int32)))) else (Option.bind (some (v1 ||| (0 : Int32))) (fun v13 => fn_X10_hasBeside_L5 K N a0 x1 x2 I P n v13 (v2 + (1 : Int32)))))))))))
noncomputable def fn_X10_hasBeside (K N : Nat → Nat) (I : Nat → Nat → Int32) (P : Nat → Nat → Option Nat) (a0 : Nat) (x1 : Int32) (x2 : Int32) : Option (Int32) := Option.bind (fn_X10_hasBeside_L5 K N a0 x1 x2 I P FU (0 : Int32) (0 : Int32)) (fun (r3 : Int32) => gd (r3 = 0 ∨ r3 = 1) (some r3))
abbrev wz_X10_hasBeside : List Cond := Cond.code yX10_hasBeside cX10_hasBeside 5 (some .boolean) :: WA
abbrev rm_X10_hasBeside : Room := { frames := 4, cells := 0, slots := 0, locals := 78 }
set_option maxHeartbeats 4000000 in
set_option maxRecDepth 100000 in
theorem c_X10_hasBeside (I : Nat → Nat → Int32) (P : Nat → Nat → Option Nat) (a0 : Nat) (x1 : Int32) (x2 : Int32) (res : Int32) (hf : fn_X10_hasBeside K N I P a0 x1 x2 = some res) : Met l yX10_hasBeside wz_X10_hasBeside rm_X10_hasBeside (va_Pc [.ref a0, .int x1, .int x2] (mm_B D cs A L K N z w I P)) (va_Qi (fun r (_ : Unit) => r = res) (fun _ => mm_B D cs A L K N z w I P) A) 0 0 A := by
  refine Met.ofW (cc := cX10_hasBeside) (maxL := 5) (ret := (some .boolean)) (by decide) rfl ?_
  intro p e s m args below meth c s₁ B hml hv
  obtain ⟨rfl, hBm⟩ := hv
  have hx := B.exec
  have hb := B.bytes
  have hr := B.returns
  have hts := atoms_spec (ws := wz_X10_hasBeside) B.pre
  have hWA : ∀ w ∈ WA, w.before ([.ref a0, .int x1, .int x2] : List Value).toArray s = true := fun u9 h9 => hts u9 (List.mem_cons_of_mem _ h9)
  have hown : s.vm.findClass RX10 = some m.cls := findClass_of_methodNamed B.named
  have hlocks := B.notSynchronized
  have S : CallFix p m c cX10_hasBeside 5 s ([.ref a0, .int x1, .int x2] : List Value).toArray wz_X10_hasBeside RX10 := ⟨hx, hb, hml, hown, hts⟩
  have hK := hBm.2.2.2.1
  have hZ := hBm.2.2.2.2
  have hM : mm_W D cs A L K N s.heap I P s.heap [] := ⟨hBm.1, hBm.2.1, hBm.2.2.1, va_S.rf⟩
  have hl := lv_entry ([.ref a0, .int x1, .int x2]) (n := 5) (Nat.le_of_ble_eq_true rfl)
  rw [lg_entry_eq]
  generalize (lg_sl ([.ref a0, .int x1, .int x2]) ++ List.replicate (5 - (lg_sl ([.ref a0, .int x1, .int x2])).length) Slot.unset).toArray = ls at hl ⊢
  have hl : lv_has ls 5 [(0, .ref a0), (1, .int x1), (2, .int x2)] := hl
  have hin10 : ∀ w ∈ wsX100, w ∈ wz_X10_hasBeside := fun w h => List.mem_cons_of_mem _ (wu_X10 w h)
  have lk9 : (Cond.fieldLink RX10 9 RX10 "g" "[I").before ([.ref a0, .int x1, .int x2] : List Value).toArray s = true := hWA _ wa_4_141
  generalize hQ : MQ below (va_Qi (fun r (_ : Unit) => r = res) (fun _ => mm_B D cs A L K N z w I P) A) ([.ref a0, .int x1, .int x2] : List Value).toArray s 0 0 A = QQ
  rw [fn_X10_hasBeside] at hf
  refine lv_iconst (v := (0 : Int32)) hx hb dX10_hasBeside_0 (by decide) ?_
  refine lv_istore_n (lv' := [(3, .int (0 : Int32)), (0, .ref a0), (1, .int x1), (2, .int x2)]) hx hb dX10_hasBeside_1 rfl hl (by decide) rfl (fun ls hl => ?_)
  refine lv_iconst (v := (0 : Int32)) hx hb dX10_hasBeside_2 (by decide) ?_
  refine lv_istore (lv' := [(4, .int (0 : Int32)), (3, .int (0 : Int32)), (0, .ref a0), (1, .int x1), (2, .int x2)]) hx hb dX10_hasBeside_3 hl (by decide) rfl (fun ls hl => ?_)
  have lp5_14 : ∀ (n : Nat) (v1 : Int32) (v2 : Int32) (H : Heap) (locs : List Loc) (ls : Array Slot) (r3 : Int32), mm_W D cs A L K N s.heap I P H locs → lv_has ls 5 [(0, .ref a0), (1, .int x1), (2, .int x2), (3, .int v1), (4, .int v2)] → fn_X10_hasBeside_L5 K N a0 x1 x2 I P n v1 v2 = some r3 → (∀ (H : Heap) (locs : List Loc) (ls : Array Slot), mm_W D cs A L K N s.heap I P H locs → lv_has ls 5 [(3, .int r3)] → W p l e (headSpec wz_X10_hasBeside rm_X10_hasBeside).room s m ([.ref a0, .int x1, .int x2] : List Value).toArray below meth c H locs 0 0 QQ (F0 m 53 ls [])) → W p l e (headSpec wz_X10_hasBeside rm_X10_hasBeside).room s m ([.ref a0, .int x1, .int x2] : List Value).toArray below meth c H locs 0 0 QQ (F0 m 5 ls []) := by
    intro n
    induction n with
    | zero => intro v1 v2 H locs ls r3 hM hl hf kk; exact nn_x (show (none : Option (Int32)) = some r3 from hf)
    | succ n ih =>
      intro v1 v2 H locs ls r3 hM hl hf kk
      rw [fn_X10_hasBeside_L5] at hf
      refine lv_iload hx hb dX10_hasBeside_5 (lv_at hl 4 rfl) ?_
      refine lv_iconst (v := (4 : Int32)) hx hb dX10_hasBeside_7 (by decide) ?_
      refine lv_icmp_ge (tgt := 53) hx hb dX10_hasBeside_8 (by decide) (fun hc4 => ?_) (fun hc4 => ?_)
      · have hf := it_p hf hc4
        obtain rfl := Option.some.inj hf
        exact kk _ _ _ hM (lv_sub hl [3] rfl)
      · have hf := it_n hf hc4
        refine lv_iload_n hx hb dX10_hasBeside_11 rfl (lv_at hl 3 rfl) ?_
        refine lv_iload_n hx hb dX10_hasBeside_12 rfl (lv_at hl 1 rfl) ?_
        refine lv_iload hx hb dX10_hasBeside_13 (lv_at hl 4 rfl) ?_
        refine bd_e hf (fun r5 er5 hf => ?_)
        refine ev_calli (va_runS (As := [.int x1, .int v2]) (rest := [.int v1]) S (c_X10_beside (l := l) I P x1 v2 r5 er5) (va_cwS 2 hts (gi_s wa_5_178 wa_5_179 wa_1_11 wa_5_180) rfl rfl rfl (by decide +kernel) ⟨Nat.le_of_ble_eq_true rfl, Nat.le_of_ble_eq_true rfl⟩) ⟨mm_B_blind, fun U hU hW => ⟨rfl, mm_B_of hK hZ hM hU hW⟩⟩ rfl rfl hl.1 rfl (lv_room (Nat.le_of_ble_eq_true rfl)) dX10_hasBeside_15 ⟨Nat.zero_le _, Nat.zero_le _⟩) hM (fun H locs hM => ?_)
        refine lv_if_lt (tgt := 44) hx hb dX10_hasBeside_18 (by decide) (fun hc6 => ?_) (fun hc6 => ?_)
        · have hf := it_p hf hc6
          refine lv_iconst (v := (0 : Int32)) hx hb dX10_hasBeside_44 (by decide) ?_
          refine lv_ior hx hb dX10_hasBeside_45 ?_
          refine lv_topi (fun v7 ev7 => ?_)
          have hf := nm_x ev7 hf
          refine lv_istore_n (lv' := [(3, .int v7), (0, .ref a0), (1, .int x1), (2, .int x2), (4, .int v2)]) hx hb dX10_hasBeside_46 rfl hl (by decide) rfl (fun ls hl => ?_)
          refine lv_iinc (v := (v2 + (1 : Int32))) (lv' := [(4, .int (v2 + (1 : Int32))), (3, .int v7), (0, .ref a0), (1, .int x1), (2, .int x2)]) hx hb dX10_hasBeside_47 hl (k := 4) rfl rfl (by decide) rfl (fun ls hl => ?_)
          refine lv_goto (tgt := 5) hx hb dX10_hasBeside_50 (by decide) ?_
          exact ih v7 (v2 + (1 : Int32)) _ _ _ _ hM (lv_sub hl [2, 3, 4, 1, 0] rfl) hf kk
        · have hf := it_n hf hc6
          refine lv_aload_n hx hb dX10_hasBeside_21 rfl (lv_at hl 0 rfl) ?_
          refine gd_e hf (fun hg8 hf => ?_)
          refine bd_e hf (fun q9 eq9 hf => ?_)
          refine ev_getP (v := q9) S hK hM (ci := 10) (n := 23) (C := RX10) (T := TX10) hin10 rfl hg8 0 (by decide) lk9 rfl rfl eq9 rfl dX10_hasBeside_22 ?_
          refine lv_sipush (v := (1556 : Int32)) hx hb dX10_hasBeside_25 (by decide) ?_
          refine lv_iload_n hx hb dX10_hasBeside_28 rfl (lv_at hl 1 rfl) ?_
          refine lv_iload hx hb dX10_hasBeside_29 (lv_at hl 4 rfl) ?_
          refine bd_e hf (fun r10 er10 hf => ?_)
          refine ev_calli (va_runS (As := [.int x1, .int v2]) (rest := [.int (1556 : Int32), .ref q9, .int v1]) S (c_X10_beside (l := l) I P x1 v2 r10 er10) (va_cwS 2 hts (gi_s wa_5_178 wa_5_179 wa_1_11 wa_5_180) rfl rfl rfl (by decide +kernel) ⟨Nat.le_of_ble_eq_true rfl, Nat.le_of_ble_eq_true rfl⟩) ⟨mm_B_blind, fun U hU hW => ⟨rfl, mm_B_of hK hZ hM hU hW⟩⟩ rfl rfl hl.1 rfl (lv_room (Nat.le_of_ble_eq_true rfl)) dX10_hasBeside_31 ⟨Nat.zero_le _, Nat.zero_le _⟩) hM (fun H locs hM => ?_)
          refine lv_iadd hx hb dX10_hasBeside_34 ?_
          refine gd_e hf (fun hg11 hf => ?_)
          refine ev_iald S hK hM hg11 (j := (((1556 : Int32) + r10)).toNatClampNeg) rfl dX10_hasBeside_35 ?_
          refine lv_iload_n hx hb dX10_hasBeside_36 rfl (lv_at hl 2 rfl) ?_
          refine lv_icmp_ne (tgt := 44) hx hb dX10_hasBeside_37 (by decide) (fun hc12 => ?_) (fun hc12 => ?_)
          · have hf := it_n hf hc12
            refine lv_iconst (v := (0 : Int32)) hx hb dX10_hasBeside_44 (by decide) ?_
            refine lv_ior hx hb dX10_hasBeside_45 ?_
            refine lv_topi (fun v13 ev13 => ?_)
            have hf := nm_x ev13 hf
            refine lv_istore_n (lv' := [(3, .int v13), (0, .ref a0), (1, .int x1), (2, .int x2), (4, .int v2)]) hx hb dX10_hasBeside_46 rfl hl (by decide) rfl (fun ls hl => ?_)
            refine lv_iinc (v := (v2 + (1 : Int32))) (lv' := [(4, .int (v2 + (1 : Int32))), (3, .int v13), (0, .ref a0), (1, .int x1), (2, .int x2)]) hx hb dX10_hasBeside_47 hl (k := 4) rfl rfl (by decide) rfl (fun ls hl => ?_)
            refine lv_goto (tgt := 5) hx hb dX10_hasBeside_50 (by decide) ?_
            exact ih v13 (v2 + (1 : Int32)) _ _ _ _ hM (lv_sub hl [2, 3, 4, 1, 0] rfl) hf kk
          · have hf := it_p hf hc12
            refine lv_iconst (v := (1 : Int32)) hx hb dX10_hasBeside_40 (by decide) ?_
            refine lv_goto (tgt := 45) hx hb dX10_hasBeside_41 (by decide) ?_
            refine lv_ior hx hb dX10_hasBeside_45 ?_
            refine lv_topi (fun v14 ev14 => ?_)
            have hf := nm_x ev14 hf
            refine lv_istore_n (lv' := [(3, .int v14), (0, .ref a0), (1, .int x1), (2, .int x2), (4, .int v2)]) hx hb dX10_hasBeside_46 rfl hl (by decide) rfl (fun ls hl => ?_)
            refine lv_iinc (v := (v2 + (1 : Int32))) (lv' := [(4, .int (v2 + (1 : Int32))), (3, .int v14), (0, .ref a0), (1, .int x1), (2, .int x2)]) hx hb dX10_hasBeside_47 hl (k := 4) rfl rfl (by decide) rfl (fun ls hl => ?_)
            refine lv_goto (tgt := 5) hx hb dX10_hasBeside_50 (by decide) ?_
            exact ih v14 (v2 + (1 : Int32)) _ _ _ _ hM (lv_sub hl [2, 3, 4, 1, 0] rfl) hf kk
  refine bd_e hf (fun r3 er3 hf => ?_)
  refine lp5_14 FU (0 : Int32) (0 : Int32) _ _ _ r3 hM (lv_sub hl [2, 3, 4, 1, 0] rfl) er3 (fun H locs ls hM hl => ?_)
  refine lv_iload_n hx hb dX10_hasBeside_53 rfl (lv_at hl 0 rfl) ?_
  refine gd_e hf (fun hg15 hf => ?_)
  obtain rfl := Option.some.inj hf
  subst hQ
  exact ev_zret (v := r3) S hr hlocks hK hZ hM (nar_b hg15) dX10_hasBeside_54
noncomputable def fn_X10_grow_L14 (K : Nat → Nat) (N : Nat → Nat) (a0 : Nat) (x1 : Int32) (P : Nat → Nat → Option Nat) : Nat → Int32 → (Nat → Nat → Int32) → Option ((Nat → Nat → Int32))
  | 0, _, _ => none
  | n + 1, v3, I4 => if (192 : Int32) ≤ v3 then (some I4) else (gd (K a0 = 11) (Option.bind (P a0 (0)) (fun q8 => gd (K q8 = 12 ∧ vp_in ((1556 : Int32) + v3) (N q8)) (Option.bind (some (I4 q8 (((1556 : Int32) + v3)).toNatClampNeg)) (fun v10 => Option.bind (P a0 (16)) (fun q11 => if x1 = (2 : Int32) then (gd (K q11 = 12 ∧ vp_in v3 (N q11)) (Option.bind (some (up2 I4 q11 (v3.toNatClampNeg) ((1 : Int32) - v10))) (fun I33 => fn_X10_grow_L14 K N a0 x1 P n (v3 + (1 : Int32)) I33))) else (if x1 = 0 then (if v10 = (1 : Int32) then (gd (K q11 = 12 ∧ vp_in v3 (N q11)) (Option.bind (some (up2 I4 q11 (v3.toNatClampNeg) (1 : Int32))) (fun I25 => fn_X10_grow_L14 K N a0 x1 P n (v3 + (1 : Int32)) I25))) else (Option.bind (fn_X10_hasBeside K N I4 P a0 v3 (1 : Int32)) (fun (r26 : Int32) => if r26 = 0 then (gd (K q11 = 12 ∧ vp_in v3 (N q11)) (Option.bind (some (up2 I4 q11 (v3.toNatClampNeg) (0 : Int32))) (fun I29 => fn_X10_grow_L14 K N a0 x1 P n (v3 + (1 : Int32)) I29))) else (gd (K q11 = 12 ∧ vp_in v3 (N q11)) (Option.bind (some (up2 I4 q11 (v3.toNatClampNeg) (1 : Int32))) (fun I31 => fn_X10_grow_L14 K N a0 x1 P n (v3 + (1 : Int32)) I31)))))) else (if v10 = (1 : Int32) then (Option.bind (fn_X10_hasBeside K N I4 P a0 v3 (0 : Int32)) (fun (r17 : Int32) => if r17 = 0 then (gd (K q11 = 12 ∧ vp_in v3 (N q11)) (Option.bind (some (up2 I4 q11 (v3.toNatClampNeg) (1 : Int32))) (fun I22 => fn_X10_grow_L14 K N a0 x1 P n (v3 + (1 : Int32)) I22))) else (gd (K q11 = 12 ∧ vp_in v3 (N q11)) (Option.bind (some (up2 I4 q11 (v3.toNatClampNeg) (0 : Int32))) (fun I20 => fn_X10_grow_L14 K N a0 x1 P n (v3 + (1 : Int32)) I20))))) else (gd (K q11 = 12 ∧ vp_in v3 (N q11)) (Option.bind (some (up2 I4 q11 (v3.toNatClampNeg) (0 : Int32))) (fun I16 => fn_X10_grow_L14 K N a0 x1 P n (v3 + (1 : Int32)) I16)))))))))))
noncomputable def fn_X10_grow (K N : Nat → Nat) (I : Nat → Nat → Int32) (P : Nat → Nat → Option Nat) (a0 : Nat) (x1 : Int32) : Option (Int32 × (Nat → Nat → Int32)) := Option.bind (fn_X10_isIn x1 (0 : Int32) (2 : Int32)) (fun (r1 : Int32) => if r1 = 0 then (some ((-2 : Int32), I)) else (Option.bind (fn_X10_grow_L14 K N a0 x1 P FU (0 : Int32) I) (fun (r5 : (Nat → Nat → Int32)) => Option.bind (fn_X10_masks K N r5 P a0 (0 : Int32)) (fun (r34 : Int32 × (Nat → Nat → Int32)) => gd (K a0 = 11) (some (r34.1, r34.2))))))
abbrev wz_X10_grow : List Cond := Cond.code yX10_grow cX10_grow 4 (some .int) :: WA
abbrev rm_X10_grow : Room := { frames := 5, cells := 0, slots := 0, locals := 102 }
set_option maxHeartbeats 4000000 in
set_option maxRecDepth 100000 in
theorem c_X10_grow (I : Nat → Nat → Int32) (P : Nat → Nat → Option Nat) (a0 : Nat) (x1 : Int32) (res : Int32 × (Nat → Nat → Int32)) (hf : fn_X10_grow K N I P a0 x1 = some res) : Met l yX10_grow wz_X10_grow rm_X10_grow (va_Pc [.ref a0, .int x1] (mm_B D cs A L K N z w I P)) (va_Qi (fun r (_ : Unit) => r = res.1) (fun _ => mm_B D cs A L K N z w res.2 P) A) 0 0 A := by
  refine Met.ofW (cc := cX10_grow) (maxL := 4) (ret := (some .int)) (by decide) rfl ?_
  intro p e s m args below meth c s₁ B hml hv
  obtain ⟨rfl, hBm⟩ := hv
  have hx := B.exec
  have hb := B.bytes
  have hr := B.returns
  have hts := atoms_spec (ws := wz_X10_grow) B.pre
  have hWA : ∀ w ∈ WA, w.before ([.ref a0, .int x1] : List Value).toArray s = true := fun u9 h9 => hts u9 (List.mem_cons_of_mem _ h9)
  have hown : s.vm.findClass RX10 = some m.cls := findClass_of_methodNamed B.named
  have hlocks := B.notSynchronized
  have S : CallFix p m c cX10_grow 4 s ([.ref a0, .int x1] : List Value).toArray wz_X10_grow RX10 := ⟨hx, hb, hml, hown, hts⟩
  have hK := hBm.2.2.2.1
  have hZ := hBm.2.2.2.2
  have hM : mm_W D cs A L K N s.heap I P s.heap [] := ⟨hBm.1, hBm.2.1, hBm.2.2.1, va_S.rf⟩
  have hl := lv_entry ([.ref a0, .int x1]) (n := 4) (Nat.le_of_ble_eq_true rfl)
  rw [lg_entry_eq]
  generalize (lg_sl ([.ref a0, .int x1]) ++ List.replicate (4 - (lg_sl ([.ref a0, .int x1])).length) Slot.unset).toArray = ls at hl ⊢
  have hl : lv_has ls 4 [(0, .ref a0), (1, .int x1)] := hl
  have hin10 : ∀ w ∈ wsX100, w ∈ wz_X10_grow := fun w h => List.mem_cons_of_mem _ (wu_X10 w h)
  have lk9 : (Cond.fieldLink RX10 9 RX10 "g" "[I").before ([.ref a0, .int x1] : List Value).toArray s = true := hWA _ wa_4_141
  have lk22 : (Cond.fieldLink RX10 22 RX10 "set" "[I").before ([.ref a0, .int x1] : List Value).toArray s = true := hWA _ wa_4_157
  generalize hQ : MQ below (va_Qi (fun r (_ : Unit) => r = res.1) (fun _ => mm_B D cs A L K N z w res.2 P) A) ([.ref a0, .int x1] : List Value).toArray s 0 0 A = QQ
  rw [fn_X10_grow] at hf
  refine lv_iload_n hx hb dX10_grow_0 rfl (lv_at hl 1 rfl) ?_
  refine lv_iconst (v := (0 : Int32)) hx hb dX10_grow_1 (by decide) ?_
  refine lv_iconst (v := (2 : Int32)) hx hb dX10_grow_2 (by decide) ?_
  refine bd_e hf (fun r1 er1 hf => ?_)
  refine ev_calli (va_runS (As := [.int x1, .int (0 : Int32), .int (2 : Int32)]) (rest := []) S (c_X10_isIn (l := l) I P x1 (0 : Int32) (2 : Int32) r1 er1) (va_cwS 3 hts (gi_s wa_4_218 wa_4_219 wa_1_11 wa_4_220) rfl rfl rfl (by decide +kernel) ⟨Nat.le_of_ble_eq_true rfl, Nat.le_of_ble_eq_true rfl⟩) ⟨mm_B_blind, fun U hU hW => ⟨rfl, mm_B_of hK hZ hM hU hW⟩⟩ rfl rfl hl.1 rfl (lv_room (Nat.le_of_ble_eq_true rfl)) dX10_grow_3 ⟨Nat.zero_le _, Nat.zero_le _⟩) hM (fun H locs hM => ?_)
  refine lv_if_ne (tgt := 12) hx hb dX10_grow_6 (by decide) (fun hc2 => ?_) (fun hc2 => ?_)
  · have hf := it_n hf hc2
    refine lv_iconst (v := (0 : Int32)) hx hb dX10_grow_12 (by decide) ?_
    refine lv_istore_n (lv' := [(2, .int (0 : Int32)), (0, .ref a0), (1, .int x1)]) hx hb dX10_grow_13 rfl hl (by decide) rfl (fun ls hl => ?_)
    have lp14_33 : ∀ (n : Nat) (v3 : Int32) (I4 : Nat → Nat → Int32) (H : Heap) (locs : List Loc) (ls : Array Slot) (r5 : (Nat → Nat → Int32)), mm_W D cs A L K N s.heap I4 P H locs → lv_has ls 4 [(0, .ref a0), (1, .int x1), (2, .int v3)] → fn_X10_grow_L14 K N a0 x1 P n v3 I4 = some r5 → (∀ (H : Heap) (locs : List Loc) (ls : Array Slot), mm_W D cs A L K N s.heap r5 P H locs → lv_has ls 4 [(0, .ref a0)] → W p l e (headSpec wz_X10_grow rm_X10_grow).room s m ([.ref a0, .int x1] : List Value).toArray below meth c H locs 0 0 QQ (F0 m 100 ls [])) → W p l e (headSpec wz_X10_grow rm_X10_grow).room s m ([.ref a0, .int x1] : List Value).toArray below meth c H locs 0 0 QQ (F0 m 14 ls []) := by
      intro n
      induction n with
      | zero => intro v3 I4 H locs ls r5 hM hl hf kk; exact nn_x (show (none : Option ((Nat → Nat → Int32))) = some r5 from hf)
      | succ n ih =>
        intro v3 I4 H locs ls r5 hM hl hf kk
        rw [fn_X10_grow_L14] at hf
        refine lv_iload_n hx hb dX10_grow_14 rfl (lv_at hl 2 rfl) ?_
        refine lv_sipush (v := (192 : Int32)) hx hb dX10_grow_15 (by decide) ?_
        refine lv_icmp_ge (tgt := 100) hx hb dX10_grow_18 (by decide) (fun hc6 => ?_) (fun hc6 => ?_)
        · have hf := it_p hf hc6
          obtain rfl := Option.some.inj hf
          exact kk _ _ _ hM (lv_sub hl [0] rfl)
        · have hf := it_n hf hc6
          refine lv_aload_n hx hb dX10_grow_21 rfl (lv_at hl 0 rfl) ?_
          refine gd_e hf (fun hg7 hf => ?_)
          refine bd_e hf (fun q8 eq8 hf => ?_)
          refine ev_getP (v := q8) S hK hM (ci := 10) (n := 23) (C := RX10) (T := TX10) hin10 rfl hg7 0 (by decide) lk9 rfl rfl eq8 rfl dX10_grow_22 ?_
          refine lv_sipush (v := (1556 : Int32)) hx hb dX10_grow_25 (by decide) ?_
          refine lv_iload_n hx hb dX10_grow_28 rfl (lv_at hl 2 rfl) ?_
          refine lv_iadd hx hb dX10_grow_29 ?_
          refine gd_e hf (fun hg9 hf => ?_)
          refine ev_iald S hK hM hg9 (j := (((1556 : Int32) + v3)).toNatClampNeg) rfl dX10_grow_30 ?_
          refine lv_topi (fun v10 ev10 => ?_)
          have hf := nm_x ev10 hf
          refine lv_istore_n (lv' := [(3, .int v10), (0, .ref a0), (1, .int x1), (2, .int v3)]) hx hb dX10_grow_31 rfl hl (by decide) rfl (fun ls hl => ?_)
          refine lv_aload_n hx hb dX10_grow_32 rfl (lv_at hl 1 rfl) ?_
          refine bd_e hf (fun q11 eq11 hf => ?_)
          refine ev_getP (v := q11) S hK hM (ci := 10) (n := 23) (C := RX10) (T := TX10) hin10 rfl hg7 16 (by decide) lk22 rfl rfl eq11 rfl dX10_grow_33 ?_
          refine lv_iload_n hx hb dX10_grow_36 rfl (lv_at hl 3 rfl) ?_
          refine lv_iload_n hx hb dX10_grow_37 rfl (lv_at hl 2 rfl) ?_
          refine lv_iconst (v := (2 : Int32)) hx hb dX10_grow_38 (by decide) ?_
          refine lv_icmp_ne (tgt := 48) hx hb dX10_grow_39 (by decide) (fun hc12 => ?_) (fun hc12 => ?_)
          · have hf := it_n hf hc12
            refine lv_iload_n hx hb dX10_grow_48 rfl (lv_at hl 2 rfl) ?_
            refine lv_if_ne (tgt := 74) hx hb dX10_grow_49 (by decide) (fun hc13 => ?_) (fun hc13 => ?_)
            · have hf := it_n hf hc13
              refine lv_iload_n hx hb dX10_grow_74 rfl (lv_at hl 0 rfl) ?_
              refine lv_iconst (v := (1 : Int32)) hx hb dX10_grow_75 (by decide) ?_
              refine lv_icmp_ne (tgt := 92) hx hb dX10_grow_76 (by decide) (fun hc14 => ?_) (fun hc14 => ?_)
              · have hf := it_n hf hc14
                refine lv_iconst (v := (0 : Int32)) hx hb dX10_grow_92 (by decide) ?_
                refine gd_e hf (fun hg15 hf => ?_)
                refine ev_iast S hK hM hg15 (j := v3.toNatClampNeg) rfl dX10_grow_93 (fun I16 eI16 H locs hM => ?_)
                have hf := nm_x eI16 hf
                refine lv_iinc (v := (v3 + (1 : Int32))) (lv' := [(2, .int (v3 + (1 : Int32))), (3, .int v10), (0, .ref a0), (1, .int x1)]) hx hb dX10_grow_94 hl (k := 3) rfl rfl (by decide) rfl (fun ls hl => ?_)
                refine lv_goto (tgt := 14) hx hb dX10_grow_97 (by decide) ?_
                exact ih (v3 + (1 : Int32)) I16 _ _ _ _ hM (lv_sub hl [2, 3, 0] rfl) hf kk
              · have hf := it_p hf hc14
                refine lv_aload_n hx hb dX10_grow_79 rfl (lv_at hl 1 rfl) ?_
                refine lv_iload_n hx hb dX10_grow_80 rfl (lv_at hl 3 rfl) ?_
                refine lv_iconst (v := (0 : Int32)) hx hb dX10_grow_81 (by decide) ?_
                refine bd_e hf (fun r17 er17 hf => ?_)
                refine ev_calli (va_runV (As := [.int v3, .int (0 : Int32)]) (rest := [.int v3, .ref q11]) S (c_X10_hasBeside (l := l) I4 P a0 v3 (0 : Int32) r17 er17) (cwV 2 hts (gi_v wa_5_201 wa_5_203 wa_s_56 wa_1_11 wa_5_204) rfl rfl rfl (by decide +kernel) ⟨Nat.le_of_ble_eq_true rfl, Nat.le_of_ble_eq_true rfl⟩) ⟨mm_B_blind, ev_recv hK hM (ci := 10) rfl hg7 rfl, fun U hU hW => ⟨rfl, mm_B_of hK hZ hM hU hW⟩⟩ rfl rfl hl.1 rfl (lv_room (Nat.le_of_ble_eq_true rfl)) dX10_grow_82 ⟨Nat.zero_le _, Nat.zero_le _⟩) hM (fun H locs hM => ?_)
                refine lv_if_ne (tgt := 92) hx hb dX10_grow_85 (by decide) (fun hc18 => ?_) (fun hc18 => ?_)
                · have hf := it_n hf hc18
                  refine lv_iconst (v := (0 : Int32)) hx hb dX10_grow_92 (by decide) ?_
                  refine gd_e hf (fun hg19 hf => ?_)
                  refine ev_iast S hK hM hg19 (j := v3.toNatClampNeg) rfl dX10_grow_93 (fun I20 eI20 H locs hM => ?_)
                  have hf := nm_x eI20 hf
                  refine lv_iinc (v := (v3 + (1 : Int32))) (lv' := [(2, .int (v3 + (1 : Int32))), (3, .int v10), (0, .ref a0), (1, .int x1)]) hx hb dX10_grow_94 hl (k := 3) rfl rfl (by decide) rfl (fun ls hl => ?_)
                  refine lv_goto (tgt := 14) hx hb dX10_grow_97 (by decide) ?_
                  exact ih (v3 + (1 : Int32)) I20 _ _ _ _ hM (lv_sub hl [2, 3, 0] rfl) hf kk
                · have hf := it_p hf hc18
                  refine lv_iconst (v := (1 : Int32)) hx hb dX10_grow_88 (by decide) ?_
                  refine lv_goto (tgt := 93) hx hb dX10_grow_89 (by decide) ?_
                  refine gd_e hf (fun hg21 hf => ?_)
                  refine ev_iast S hK hM hg21 (j := v3.toNatClampNeg) rfl dX10_grow_93 (fun I22 eI22 H locs hM => ?_)
                  have hf := nm_x eI22 hf
                  refine lv_iinc (v := (v3 + (1 : Int32))) (lv' := [(2, .int (v3 + (1 : Int32))), (3, .int v10), (0, .ref a0), (1, .int x1)]) hx hb dX10_grow_94 hl (k := 3) rfl rfl (by decide) rfl (fun ls hl => ?_)
                  refine lv_goto (tgt := 14) hx hb dX10_grow_97 (by decide) ?_
                  exact ih (v3 + (1 : Int32)) I22 _ _ _ _ hM (lv_sub hl [2, 3, 0] rfl) hf kk
            · have hf := it_p hf hc13
              refine lv_iload_n hx hb dX10_grow_52 rfl (lv_at hl 0 rfl) ?_
              refine lv_iconst (v := (1 : Int32)) hx hb dX10_grow_53 (by decide) ?_
              refine lv_icmp_eq (tgt := 66) hx hb dX10_grow_54 (by decide) (fun hc23 => ?_) (fun hc23 => ?_)
              · have hf := it_p hf hc23
                refine lv_iconst (v := (1 : Int32)) hx hb dX10_grow_66 (by decide) ?_
                refine lv_goto (tgt := 93) hx hb dX10_grow_67 (by decide) ?_
                refine gd_e hf (fun hg24 hf => ?_)
                refine ev_iast S hK hM hg24 (j := v3.toNatClampNeg) rfl dX10_grow_93 (fun I25 eI25 H locs hM => ?_)
                have hf := nm_x eI25 hf
                refine lv_iinc (v := (v3 + (1 : Int32))) (lv' := [(2, .int (v3 + (1 : Int32))), (3, .int v10), (0, .ref a0), (1, .int x1)]) hx hb dX10_grow_94 hl (k := 3) rfl rfl (by decide) rfl (fun ls hl => ?_)
                refine lv_goto (tgt := 14) hx hb dX10_grow_97 (by decide) ?_
                exact ih (v3 + (1 : Int32)) I25 _ _ _ _ hM (lv_sub hl [2, 3, 0] rfl) hf kk
              · have hf := it_n hf hc23
                refine lv_aload_n hx hb dX10_grow_57 rfl (lv_at hl 1 rfl) ?_
                refine lv_iload_n hx hb dX10_grow_58 rfl (lv_at hl 3 rfl) ?_
                refine lv_iconst (v := (1 : Int32)) hx hb dX10_grow_59 (by decide) ?_
                refine bd_e hf (fun r26 er26 hf => ?_)
                refine ev_calli (va_runV (As := [.int v3, .int (1 : Int32)]) (rest := [.int v3, .ref q11]) S (c_X10_hasBeside (l := l) I4 P a0 v3 (1 : Int32) r26 er26) (cwV 2 hts (gi_v wa_5_201 wa_5_203 wa_s_56 wa_1_11 wa_5_204) rfl rfl rfl (by decide +kernel) ⟨Nat.le_of_ble_eq_true rfl, Nat.le_of_ble_eq_true rfl⟩) ⟨mm_B_blind, ev_recv hK hM (ci := 10) rfl hg7 rfl, fun U hU hW => ⟨rfl, mm_B_of hK hZ hM hU hW⟩⟩ rfl rfl hl.1 rfl (lv_room (Nat.le_of_ble_eq_true rfl)) dX10_grow_60 ⟨Nat.zero_le _, Nat.zero_le _⟩) hM (fun H locs hM => ?_)
                refine lv_if_eq (tgt := 70) hx hb dX10_grow_63 (by decide) (fun hc27 => ?_) (fun hc27 => ?_)
                · have hf := it_p hf hc27
                  refine lv_iconst (v := (0 : Int32)) hx hb dX10_grow_70 (by decide) ?_
                  refine lv_goto (tgt := 93) hx hb dX10_grow_71 (by decide) ?_
                  refine gd_e hf (fun hg28 hf => ?_)
                  refine ev_iast S hK hM hg28 (j := v3.toNatClampNeg) rfl dX10_grow_93 (fun I29 eI29 H locs hM => ?_)
                  have hf := nm_x eI29 hf
                  refine lv_iinc (v := (v3 + (1 : Int32))) (lv' := [(2, .int (v3 + (1 : Int32))), (3, .int v10), (0, .ref a0), (1, .int x1)]) hx hb dX10_grow_94 hl (k := 3) rfl rfl (by decide) rfl (fun ls hl => ?_)
                  refine lv_goto (tgt := 14) hx hb dX10_grow_97 (by decide) ?_
                  exact ih (v3 + (1 : Int32)) I29 _ _ _ _ hM (lv_sub hl [2, 3, 0] rfl) hf kk
                · have hf := it_n hf hc27
                  refine lv_iconst (v := (1 : Int32)) hx hb dX10_grow_66 (by decide) ?_
                  refine lv_goto (tgt := 93) hx hb dX10_grow_67 (by decide) ?_
                  refine gd_e hf (fun hg30 hf => ?_)
                  refine ev_iast S hK hM hg30 (j := v3.toNatClampNeg) rfl dX10_grow_93 (fun I31 eI31 H locs hM => ?_)
                  have hf := nm_x eI31 hf
                  refine lv_iinc (v := (v3 + (1 : Int32))) (lv' := [(2, .int (v3 + (1 : Int32))), (3, .int v10), (0, .ref a0), (1, .int x1)]) hx hb dX10_grow_94 hl (k := 3) rfl rfl (by decide) rfl (fun ls hl => ?_)
                  refine lv_goto (tgt := 14) hx hb dX10_grow_97 (by decide) ?_
                  exact ih (v3 + (1 : Int32)) I31 _ _ _ _ hM (lv_sub hl [2, 3, 0] rfl) hf kk
          · have hf := it_p hf hc12
            refine lv_iconst (v := (1 : Int32)) hx hb dX10_grow_42 (by decide) ?_
            refine lv_iload_n hx hb dX10_grow_43 rfl (lv_at hl 0 rfl) ?_
            refine lv_isub hx hb dX10_grow_44 ?_
            refine lv_goto (tgt := 93) hx hb dX10_grow_45 (by decide) ?_
            refine gd_e hf (fun hg32 hf => ?_)
            refine ev_iast S hK hM hg32 (j := v3.toNatClampNeg) rfl dX10_grow_93 (fun I33 eI33 H locs hM => ?_)
            have hf := nm_x eI33 hf
            refine lv_iinc (v := (v3 + (1 : Int32))) (lv' := [(2, .int (v3 + (1 : Int32))), (3, .int v10), (0, .ref a0), (1, .int x1)]) hx hb dX10_grow_94 hl (k := 3) rfl rfl (by decide) rfl (fun ls hl => ?_)
            refine lv_goto (tgt := 14) hx hb dX10_grow_97 (by decide) ?_
            exact ih (v3 + (1 : Int32)) I33 _ _ _ _ hM (lv_sub hl [2, 3, 0] rfl) hf kk
    refine bd_e hf (fun r5 er5 hf => ?_)
    refine lp14_33 FU (0 : Int32) I _ _ _ r5 hM (lv_sub hl [1, 2, 0] rfl) er5 (fun H locs ls hM hl => ?_)
    refine lv_aload_n hx hb dX10_grow_100 rfl (lv_at hl 0 rfl) ?_
    refine lv_iconst (v := (0 : Int32)) hx hb dX10_grow_101 (by decide) ?_
    refine bd_e hf (fun r34 er34 hf => ?_)
    refine gd_e hf (fun hg35 hf => ?_)
    refine ev_calli (va_runV (As := [.int (0 : Int32)]) (rest := []) S (c_X10_masks (l := l) r5 P a0 (0 : Int32) r34 er34) (cwV 1 hts (gi_v wa_5_189 wa_5_191 wa_s_55 wa_1_11 wa_5_192) rfl rfl rfl (by decide +kernel) ⟨Nat.le_of_ble_eq_true rfl, Nat.le_of_ble_eq_true rfl⟩) ⟨mm_B_blind, ev_recv hK hM (ci := 10) rfl hg35 rfl, fun U hU hW => ⟨rfl, mm_B_of hK hZ hM hU hW⟩⟩ rfl rfl hl.1 rfl (lv_room (Nat.le_of_ble_eq_true rfl)) dX10_grow_102 ⟨Nat.zero_le _, Nat.zero_le _⟩) hM (fun H locs hM => ?_)
    obtain rfl := Option.some.inj hf
    subst hQ
    exact ev_iret S hr hlocks hK hZ hM dX10_grow_105
  · have hf := it_p hf hc2
    refine lv_bipush (v := (-2 : Int32)) hx hb dX10_grow_9 (by decide) ?_
    obtain rfl := Option.some.inj hf
    subst hQ
    exact ev_iret S hr hlocks hK hZ hM dX10_grow_11
noncomputable def fn_X10_masked__L17 (K : Nat → Nat) (N : Nat → Nat) (a0 : Nat) (x1 : Int32) (I : Nat → Nat → Int32) (P : Nat → Nat → Option Nat) : Nat → Int32 → Int32 → Option (Int32)
  | 0, _, _ => none
  | n + 1, v3, v4 => if (16 : Int32) ≤ v4 then (some v3) else (gd (K a0 = 11) (Option.bind (P a0 (0)) (fun q8 => Option.bind (fn_X10_dotOf v4 x1) (fun (r9 : Int32) => gd (K q8 = 12 ∧ vp_in ((1556 : Int32) + r9) (N q8)) (Option.bind (some (v3 ||| ((I q8 (((1556 : Int32) + r9)).toNatClampNeg) <<< (v4 &&& 31)))) (fun v11 => fn_X10_masked__L17 K N a0 x1 I P n v11 (v4 + (1 : Int32))))))))
noncomputable def fn_X10_masked_ (K N : Nat → Nat) (I : Nat → Nat → Int32) (P : Nat → Nat → Option Nat) (a0 : Nat) (x1 : Int32) : Option (Int32) := Option.bind (fn_X10_isIn x1 (0 : Int32) (11 : Int32)) (fun (r1 : Int32) => if r1 = 0 then (some (-2 : Int32)) else (Option.bind (fn_X10_masked__L17 K N a0 x1 I P FU (0 : Int32) (0 : Int32)) (fun (r5 : Int32) => some r5)))
abbrev wz_X10_masked_ : List Cond := Cond.code yX10_masked_ cX10_masked_ 4 (some .int) :: WA
abbrev rm_X10_masked_ : Room := { frames := 2, cells := 0, slots := 0, locals := 34 }
set_option maxHeartbeats 4000000 in
set_option maxRecDepth 100000 in
theorem c_X10_masked_ (I : Nat → Nat → Int32) (P : Nat → Nat → Option Nat) (a0 : Nat) (x1 : Int32) (res : Int32) (hf : fn_X10_masked_ K N I P a0 x1 = some res) : Met l yX10_masked_ wz_X10_masked_ rm_X10_masked_ (va_Pc [.ref a0, .int x1] (mm_B D cs A L K N z w I P)) (va_Qi (fun r (_ : Unit) => r = res) (fun _ => mm_B D cs A L K N z w I P) A) 0 0 A := by
  refine Met.ofW (cc := cX10_masked_) (maxL := 4) (ret := (some .int)) (by decide) rfl ?_
  intro p e s m args below meth c s₁ B hml hv
  obtain ⟨rfl, hBm⟩ := hv
  have hx := B.exec
  have hb := B.bytes
  have hr := B.returns
  have hts := atoms_spec (ws := wz_X10_masked_) B.pre
  have hWA : ∀ w ∈ WA, w.before ([.ref a0, .int x1] : List Value).toArray s = true := fun u9 h9 => hts u9 (List.mem_cons_of_mem _ h9)
  have hown : s.vm.findClass RX10 = some m.cls := findClass_of_methodNamed B.named
  have hlocks := B.notSynchronized
  have S : CallFix p m c cX10_masked_ 4 s ([.ref a0, .int x1] : List Value).toArray wz_X10_masked_ RX10 := ⟨hx, hb, hml, hown, hts⟩
  have hK := hBm.2.2.2.1
  have hZ := hBm.2.2.2.2
  have hM : mm_W D cs A L K N s.heap I P s.heap [] := ⟨hBm.1, hBm.2.1, hBm.2.2.1, va_S.rf⟩
  have hl := lv_entry ([.ref a0, .int x1]) (n := 4) (Nat.le_of_ble_eq_true rfl)
  rw [lg_entry_eq]
  generalize (lg_sl ([.ref a0, .int x1]) ++ List.replicate (4 - (lg_sl ([.ref a0, .int x1])).length) Slot.unset).toArray = ls at hl ⊢
  have hl : lv_has ls 4 [(0, .ref a0), (1, .int x1)] := hl
  have hin10 : ∀ w ∈ wsX100, w ∈ wz_X10_masked_ := fun w h => List.mem_cons_of_mem _ (wu_X10 w h)
  have lk9 : (Cond.fieldLink RX10 9 RX10 "g" "[I").before ([.ref a0, .int x1] : List Value).toArray s = true := hWA _ wa_4_141
  generalize hQ : MQ below (va_Qi (fun r (_ : Unit) => r = res) (fun _ => mm_B D cs A L K N z w I P) A) ([.ref a0, .int x1] : List Value).toArray s 0 0 A = QQ
  rw [fn_X10_masked_] at hf
  refine lv_iload_n hx hb dX10_masked__0 rfl (lv_at hl 1 rfl) ?_
  refine lv_iconst (v := (0 : Int32)) hx hb dX10_masked__1 (by decide) ?_
  refine lv_bipush (v := (11 : Int32)) hx hb dX10_masked__2 (by decide) ?_
  refine bd_e hf (fun r1 er1 hf => ?_)
  refine ev_calli (va_runS (As := [.int x1, .int (0 : Int32), .int (11 : Int32)]) (rest := []) S (c_X10_isIn (l := l) I P x1 (0 : Int32) (11 : Int32) r1 er1) (va_cwS 3 hts (gi_s wa_4_218 wa_4_219 wa_1_11 wa_4_220) rfl rfl rfl (by decide +kernel) ⟨Nat.le_of_ble_eq_true rfl, Nat.le_of_ble_eq_true rfl⟩) ⟨mm_B_blind, fun U hU hW => ⟨rfl, mm_B_of hK hZ hM hU hW⟩⟩ rfl rfl hl.1 rfl (lv_room (Nat.le_of_ble_eq_true rfl)) dX10_masked__4 ⟨Nat.zero_le _, Nat.zero_le _⟩) hM (fun H locs hM => ?_)
  refine lv_if_ne (tgt := 13) hx hb dX10_masked__7 (by decide) (fun hc2 => ?_) (fun hc2 => ?_)
  · have hf := it_n hf hc2
    refine lv_iconst (v := (0 : Int32)) hx hb dX10_masked__13 (by decide) ?_
    refine lv_istore_n (lv' := [(2, .int (0 : Int32)), (0, .ref a0), (1, .int x1)]) hx hb dX10_masked__14 rfl hl (by decide) rfl (fun ls hl => ?_)
    refine lv_iconst (v := (0 : Int32)) hx hb dX10_masked__15 (by decide) ?_
    refine lv_istore_n (lv' := [(3, .int (0 : Int32)), (2, .int (0 : Int32)), (0, .ref a0), (1, .int x1)]) hx hb dX10_masked__16 rfl hl (by decide) rfl (fun ls hl => ?_)
    have lp17_11 : ∀ (n : Nat) (v3 : Int32) (v4 : Int32) (H : Heap) (locs : List Loc) (ls : Array Slot) (r5 : Int32), mm_W D cs A L K N s.heap I P H locs → lv_has ls 4 [(0, .ref a0), (1, .int x1), (2, .int v3), (3, .int v4)] → fn_X10_masked__L17 K N a0 x1 I P n v3 v4 = some r5 → (∀ (H : Heap) (locs : List Loc) (ls : Array Slot), mm_W D cs A L K N s.heap I P H locs → lv_has ls 4 [(2, .int r5)] → W p l e (headSpec wz_X10_masked_ rm_X10_masked_).room s m ([.ref a0, .int x1] : List Value).toArray below meth c H locs 0 0 QQ (F0 m 48 ls [])) → W p l e (headSpec wz_X10_masked_ rm_X10_masked_).room s m ([.ref a0, .int x1] : List Value).toArray below meth c H locs 0 0 QQ (F0 m 17 ls []) := by
      intro n
      induction n with
      | zero => intro v3 v4 H locs ls r5 hM hl hf kk; exact nn_x (show (none : Option (Int32)) = some r5 from hf)
      | succ n ih =>
        intro v3 v4 H locs ls r5 hM hl hf kk
        rw [fn_X10_masked__L17] at hf
        refine lv_iload_n hx hb dX10_masked__17 rfl (lv_at hl 3 rfl) ?_
        refine lv_bipush (v := (16 : Int32)) hx hb dX10_masked__18 (by decide) ?_
        refine lv_icmp_ge (tgt := 48) hx hb dX10_masked__20 (by decide) (fun hc6 => ?_) (fun hc6 => ?_)
        · have hf := it_p hf hc6
          obtain rfl := Option.some.inj hf
          exact kk _ _ _ hM (lv_sub hl [2] rfl)
        · have hf := it_n hf hc6
          refine lv_iload_n hx hb dX10_masked__23 rfl (lv_at hl 2 rfl) ?_
          refine lv_aload_n hx hb dX10_masked__24 rfl (lv_at hl 0 rfl) ?_
          refine gd_e hf (fun hg7 hf => ?_)
          refine bd_e hf (fun q8 eq8 hf => ?_)
          refine ev_getP (v := q8) S hK hM (ci := 10) (n := 23) (C := RX10) (T := TX10) hin10 rfl hg7 0 (by decide) lk9 rfl rfl eq8 rfl dX10_masked__25 ?_
          refine lv_sipush (v := (1556 : Int32)) hx hb dX10_masked__28 (by decide) ?_
          refine lv_iload_n hx hb dX10_masked__31 rfl (lv_at hl 3 rfl) ?_
          refine lv_iload_n hx hb dX10_masked__32 rfl (lv_at hl 1 rfl) ?_
          refine bd_e hf (fun r9 er9 hf => ?_)
          refine ev_calli (va_runS (As := [.int v4, .int x1]) (rest := [.int (1556 : Int32), .ref q8, .int v3]) S (c_X10_dotOf (l := l) I P v4 x1 r9 er9) (va_cwS 2 hts (gi_s wa_5_43 wa_5_44 wa_1_11 wa_5_45) rfl rfl rfl (by decide +kernel) ⟨Nat.le_of_ble_eq_true rfl, Nat.le_of_ble_eq_true rfl⟩) ⟨mm_B_blind, fun U hU hW => ⟨rfl, mm_B_of hK hZ hM hU hW⟩⟩ rfl rfl hl.1 rfl (lv_room (Nat.le_of_ble_eq_true rfl)) dX10_masked__33 ⟨Nat.zero_le _, Nat.zero_le _⟩) hM (fun H locs hM => ?_)
          refine lv_iadd hx hb dX10_masked__36 ?_
          refine gd_e hf (fun hg10 hf => ?_)
          refine ev_iald S hK hM hg10 (j := (((1556 : Int32) + r9)).toNatClampNeg) rfl dX10_masked__37 ?_
          refine lv_iload_n hx hb dX10_masked__38 rfl (lv_at hl 3 rfl) ?_
          refine lv_ishl hx hb dX10_masked__39 ?_
          refine lv_ior hx hb dX10_masked__40 ?_
          refine lv_topi (fun v11 ev11 => ?_)
          have hf := nm_x ev11 hf
          refine lv_istore_n (lv' := [(2, .int v11), (0, .ref a0), (1, .int x1), (3, .int v4)]) hx hb dX10_masked__41 rfl hl (by decide) rfl (fun ls hl => ?_)
          refine lv_iinc (v := (v4 + (1 : Int32))) (lv' := [(3, .int (v4 + (1 : Int32))), (2, .int v11), (0, .ref a0), (1, .int x1)]) hx hb dX10_masked__42 hl (k := 3) rfl rfl (by decide) rfl (fun ls hl => ?_)
          refine lv_goto (tgt := 17) hx hb dX10_masked__45 (by decide) ?_
          exact ih v11 (v4 + (1 : Int32)) _ _ _ _ hM (lv_sub hl [2, 3, 1, 0] rfl) hf kk
    refine bd_e hf (fun r5 er5 hf => ?_)
    refine lp17_11 FU (0 : Int32) (0 : Int32) _ _ _ r5 hM (lv_sub hl [2, 3, 1, 0] rfl) er5 (fun H locs ls hM hl => ?_)
    refine lv_iload_n hx hb dX10_masked__48 rfl (lv_at hl 0 rfl) ?_
    obtain rfl := Option.some.inj hf
    subst hQ
    exact ev_iret S hr hlocks hK hZ hM dX10_masked__49
  · have hf := it_p hf hc2
    refine lv_bipush (v := (-2 : Int32)) hx hb dX10_masked__10 (by decide) ?_
    obtain rfl := Option.some.inj hf
    subst hQ
    exact ev_iret S hr hlocks hK hZ hM dX10_masked__12
noncomputable def fn_X10_leaves (K N : Nat → Nat) (I : Nat → Nat → Int32) (P : Nat → Nat → Option Nat) (a0 : Nat) (x1 : Int32) (x2 : Int32) (x3 : Int32) : Option ((Nat → Nat → Int32)) := Option.bind (fn_X10_isDot x1 x2) (fun (r1 : Int32) => if r1 = 0 then (some I) else (gd (K a0 = 11) (Option.bind (P a0 (18)) (fun q4 => Option.bind (fn_X10_dotOf x1 x2) (fun (r5 : Int32) => gd (K q4 = 12 ∧ vp_in r5 (N q4)) (Option.bind (some (up2 I q4 (r5.toNatClampNeg) ((I q4 (r5.toNatClampNeg)) + x3))) (fun I7 => some I7)))))))
abbrev wz_X10_leaves : List Cond := Cond.code yX10_leaves cX10_leaves 4 none :: WA
abbrev rm_X10_leaves : Room := { frames := 3, cells := 0, slots := 0, locals := 55 }
set_option maxHeartbeats 4000000 in
set_option maxRecDepth 100000 in
theorem c_X10_leaves (I : Nat → Nat → Int32) (P : Nat → Nat → Option Nat) (a0 : Nat) (x1 : Int32) (x2 : Int32) (x3 : Int32) (res : (Nat → Nat → Int32)) (hf : fn_X10_leaves K N I P a0 x1 x2 x3 = some res) : Met l yX10_leaves wz_X10_leaves rm_X10_leaves (va_Pc [.ref a0, .int x1, .int x2, .int x3] (mm_B D cs A L K N z w I P)) (va_Qv (fun (_ : Unit) => True) (fun _ => mm_B D cs A L K N z w res P) A) 0 0 A := by
  refine Met.ofW (cc := cX10_leaves) (maxL := 4) (ret := none) (by decide) rfl ?_
  intro p e s m args below meth c s₁ B hml hv
  obtain ⟨rfl, hBm⟩ := hv
  have hx := B.exec
  have hb := B.bytes
  have hr := B.returns
  have hts := atoms_spec (ws := wz_X10_leaves) B.pre
  have hWA : ∀ w ∈ WA, w.before ([.ref a0, .int x1, .int x2, .int x3] : List Value).toArray s = true := fun u9 h9 => hts u9 (List.mem_cons_of_mem _ h9)
  have hown : s.vm.findClass RX10 = some m.cls := findClass_of_methodNamed B.named
  have hlocks := B.notSynchronized
  have S : CallFix p m c cX10_leaves 4 s ([.ref a0, .int x1, .int x2, .int x3] : List Value).toArray wz_X10_leaves RX10 := ⟨hx, hb, hml, hown, hts⟩
  have hK := hBm.2.2.2.1
  have hZ := hBm.2.2.2.2
  have hM : mm_W D cs A L K N s.heap I P s.heap [] := ⟨hBm.1, hBm.2.1, hBm.2.2.1, va_S.rf⟩
  have hl := lv_entry ([.ref a0, .int x1, .int x2, .int x3]) (n := 4) (Nat.le_of_ble_eq_true rfl)
  rw [lg_entry_eq]
  generalize (lg_sl ([.ref a0, .int x1, .int x2, .int x3]) ++ List.replicate (4 - (lg_sl ([.ref a0, .int x1, .int x2, .int x3])).length) Slot.unset).toArray = ls at hl ⊢
  have hl : lv_has ls 4 [(0, .ref a0), (1, .int x1), (2, .int x2), (3, .int x3)] := hl
  have hin10 : ∀ w ∈ wsX100, w ∈ wz_X10_leaves := fun w h => List.mem_cons_of_mem _ (wu_X10 w h)
  have lk28 : (Cond.fieldLink RX10 28 RX10 "left" "[I").before ([.ref a0, .int x1, .int x2, .int x3] : List Value).toArray s = true := hWA _ wa_4_159
  generalize hQ : MQ below (va_Qv (fun (_ : Unit) => True) (fun _ => mm_B D cs A L K N z w res P) A) ([.ref a0, .int x1, .int x2, .int x3] : List Value).toArray s 0 0 A = QQ
  rw [fn_X10_leaves] at hf
  refine lv_iload_n hx hb dX10_leaves_0 rfl (lv_at hl 1 rfl) ?_
  refine lv_iload_n hx hb dX10_leaves_1 rfl (lv_at hl 2 rfl) ?_
  refine bd_e hf (fun r1 er1 hf => ?_)
  refine ev_calli (va_runS (As := [.int x1, .int x2]) (rest := []) S (c_X10_isDot (l := l) I P x1 x2 r1 er1) (va_cwS 2 hts (gi_s wa_5_40 wa_5_41 wa_1_11 wa_5_42) rfl rfl rfl (by decide +kernel) ⟨Nat.le_of_ble_eq_true rfl, Nat.le_of_ble_eq_true rfl⟩) ⟨mm_B_blind, fun U hU hW => ⟨rfl, mm_B_of hK hZ hM hU hW⟩⟩ rfl rfl hl.1 rfl (lv_room (Nat.le_of_ble_eq_true rfl)) dX10_leaves_2 ⟨Nat.zero_le _, Nat.zero_le _⟩) hM (fun H locs hM => ?_)
  refine lv_if_eq (tgt := 22) hx hb dX10_leaves_5 (by decide) (fun hc2 => ?_) (fun hc2 => ?_)
  · have hf := it_p hf hc2
    obtain rfl := Option.some.inj hf
    subst hQ
    exact ev_vret S hr hlocks hK hZ hM dX10_leaves_22
  · have hf := it_n hf hc2
    refine lv_aload_n hx hb dX10_leaves_8 rfl (lv_at hl 0 rfl) ?_
    refine gd_e hf (fun hg3 hf => ?_)
    refine bd_e hf (fun q4 eq4 hf => ?_)
    refine ev_getP (v := q4) S hK hM (ci := 10) (n := 23) (C := RX10) (T := TX10) hin10 rfl hg3 18 (by decide) lk28 rfl rfl eq4 rfl dX10_leaves_9 ?_
    refine lv_iload_n hx hb dX10_leaves_12 rfl (lv_at hl 1 rfl) ?_
    refine lv_iload_n hx hb dX10_leaves_13 rfl (lv_at hl 2 rfl) ?_
    refine bd_e hf (fun r5 er5 hf => ?_)
    refine ev_calli (va_runS (As := [.int x1, .int x2]) (rest := [.ref q4]) S (c_X10_dotOf (l := l) I P x1 x2 r5 er5) (va_cwS 2 hts (gi_s wa_5_43 wa_5_44 wa_1_11 wa_5_45) rfl rfl rfl (by decide +kernel) ⟨Nat.le_of_ble_eq_true rfl, Nat.le_of_ble_eq_true rfl⟩) ⟨mm_B_blind, fun U hU hW => ⟨rfl, mm_B_of hK hZ hM hU hW⟩⟩ rfl rfl hl.1 rfl (lv_room (Nat.le_of_ble_eq_true rfl)) dX10_leaves_14 ⟨Nat.zero_le _, Nat.zero_le _⟩) hM (fun H locs hM => ?_)
    refine lv_dup2_11 hx hb dX10_leaves_17 rfl rfl ?_
    refine gd_e hf (fun hg6 hf => ?_)
    refine ev_iald S hK hM hg6 (j := r5.toNatClampNeg) rfl dX10_leaves_18 ?_
    refine lv_iload_n hx hb dX10_leaves_19 rfl (lv_at hl 3 rfl) ?_
    refine lv_iadd hx hb dX10_leaves_20 ?_
    refine ev_iast S hK hM hg6 (j := r5.toNatClampNeg) rfl dX10_leaves_21 (fun I7 eI7 H locs hM => ?_)
    have hf := nm_x eI7 hf
    obtain rfl := Option.some.inj hf
    subst hQ
    exact ev_vret S hr hlocks hK hZ hM dX10_leaves_22
noncomputable def fn_X10_diffused_L2 (K : Nat → Nat) (N : Nat → Nat) (a0 : Nat) (P : Nat → Nat → Option Nat) : Nat → Int32 → (Nat → Nat → Int32) → Option ((Nat → Nat → Int32))
  | 0, _, _ => none
  | n + 1, v1, I2 => if (192 : Int32) ≤ v1 then (some I2) else (gd (K a0 = 11) (Option.bind (P a0 (18)) (fun q6 => gd (K q6 = 12 ∧ vp_in v1 (N q6)) (Option.bind (some (up2 I2 q6 (v1.toNatClampNeg) (0 : Int32))) (fun I8 => fn_X10_diffused_L2 K N a0 P n (v1 + (1 : Int32)) I8)))))
noncomputable def fn_X10_diffused_L34 (K : Nat → Nat) (N : Nat → Nat) (a0 : Nat) (x1 : Int32) (P : Nat → Nat → Option Nat) (v10 : Int32) : Nat → Int32 → Int32 → (Nat → Nat → Int32) → Option (Int32 × (Nat → Nat → Int32))
  | 0, _, _, _ => none
  | n + 1, v14, v15, I16 => if (16 : Int32) ≤ v15 then (some (v14, I16)) else (Option.bind (fn_X10_dotOf v15 v10) (fun (r19 : Int32) => Option.bind (fn_X10_seen_ K N I16 P a0 r19) (fun (r20 : Int32) => gd (K a0 = 11) (Option.bind (P a0 (18)) (fun q22 => Option.bind (fn_X10_dotOf v15 v10) (fun (r23 : Int32) => gd (K q22 = 12 ∧ vp_in r23 (N q22)) (Option.bind (some (r20 + (I16 q22 (r23.toNatClampNeg)))) (fun v25 => Option.bind (if v25 < (128 : Int32) then (some (0 : Int32)) else (if v10 = x1 then (some ((1 : Int32) <<< (v15 &&& 31))) else (some (0 : Int32)))) (fun (j27 : Int32) => Option.bind (some (v14 ||| j27)) (fun v28 => Option.bind (if v25 < (128 : Int32) then (some v25) else (some (v25 - (255 : Int32)))) (fun (j30 : Int32) => Option.bind (fn_X10_leaves K N I16 P a0 (v15 + (1 : Int32)) v10 (((7 : Int32) * j30) / (16 : Int32))) (fun (r31 : (Nat → Nat → Int32)) => Option.bind (fn_X10_leaves K N r31 P a0 (v15 - (1 : Int32)) (v10 + (1 : Int32)) (((3 : Int32) * j30) / (16 : Int32))) (fun (r32 : (Nat → Nat → Int32)) => Option.bind (fn_X10_leaves K N r32 P a0 v15 (v10 + (1 : Int32)) (((5 : Int32) * j30) / (16 : Int32))) (fun (r33 : (Nat → Nat → Int32)) => Option.bind (fn_X10_leaves K N r33 P a0 (v15 + (1 : Int32)) (v10 + (1 : Int32)) (j30 / (16 : Int32))) (fun (r34 : (Nat → Nat → Int32)) => fn_X10_diffused_L34 K N a0 x1 P v10 n v28 (v15 + (1 : Int32)) r34)))))))))))))))
noncomputable def fn_X10_diffused_L26 (K : Nat → Nat) (N : Nat → Nat) (a0 : Nat) (x1 : Int32) (P : Nat → Nat → Option Nat) : Nat → Int32 → Int32 → (Nat → Nat → Int32) → Option (Int32 × (Nat → Nat → Int32))
  | 0, _, _, _ => none
  | n + 1, v9, v10, I11 => if x1 < v10 then (some (v9, I11)) else (Option.bind (fn_X10_diffused_L34 K N a0 x1 P v10 FU v9 (0 : Int32) I11) (fun (r17 : Int32 × (Nat → Nat → Int32)) => fn_X10_diffused_L26 K N a0 x1 P n r17.1 (v10 + (1 : Int32)) r17.2))
noncomputable def fn_X10_diffused (K N : Nat → Nat) (I : Nat → Nat → Int32) (P : Nat → Nat → Option Nat) (a0 : Nat) (x1 : Int32) : Option (Int32 × (Nat → Nat → Int32)) := Option.bind (fn_X10_diffused_L2 K N a0 P FU (0 : Int32) I) (fun (r3 : (Nat → Nat → Int32)) => Option.bind (fn_X10_diffused_L26 K N a0 x1 P FU (0 : Int32) (0 : Int32) r3) (fun (r12 : Int32 × (Nat → Nat → Int32)) => some (r12.1, r12.2)))
abbrev wz_X10_diffused : List Cond := Cond.code yX10_diffused cX10_diffused 7 (some .int) :: WA
abbrev rm_X10_diffused : Room := { frames := 5, cells := 0, slots := 0, locals := 102 }
set_option maxHeartbeats 4000000 in
set_option maxRecDepth 100000 in
theorem c_X10_diffused (I : Nat → Nat → Int32) (P : Nat → Nat → Option Nat) (a0 : Nat) (x1 : Int32) (res : Int32 × (Nat → Nat → Int32)) (hf : fn_X10_diffused K N I P a0 x1 = some res) : Met l yX10_diffused wz_X10_diffused rm_X10_diffused (va_Pc [.ref a0, .int x1] (mm_B D cs A L K N z w I P)) (va_Qi (fun r (_ : Unit) => r = res.1) (fun _ => mm_B D cs A L K N z w res.2 P) A) 0 0 A := by
  refine Met.ofW (cc := cX10_diffused) (maxL := 7) (ret := (some .int)) (by decide) rfl ?_
  intro p e s m args below meth c s₁ B hml hv
  obtain ⟨rfl, hBm⟩ := hv
  have hx := B.exec
  have hb := B.bytes
  have hr := B.returns
  have hts := atoms_spec (ws := wz_X10_diffused) B.pre
  have hWA : ∀ w ∈ WA, w.before ([.ref a0, .int x1] : List Value).toArray s = true := fun u9 h9 => hts u9 (List.mem_cons_of_mem _ h9)
  have hown : s.vm.findClass RX10 = some m.cls := findClass_of_methodNamed B.named
  have hlocks := B.notSynchronized
  have S : CallFix p m c cX10_diffused 7 s ([.ref a0, .int x1] : List Value).toArray wz_X10_diffused RX10 := ⟨hx, hb, hml, hown, hts⟩
  have hK := hBm.2.2.2.1
  have hZ := hBm.2.2.2.2
  have hM : mm_W D cs A L K N s.heap I P s.heap [] := ⟨hBm.1, hBm.2.1, hBm.2.2.1, va_S.rf⟩
  have hl := lv_entry ([.ref a0, .int x1]) (n := 7) (Nat.le_of_ble_eq_true rfl)
  rw [lg_entry_eq]
  generalize (lg_sl ([.ref a0, .int x1]) ++ List.replicate (7 - (lg_sl ([.ref a0, .int x1])).length) Slot.unset).toArray = ls at hl ⊢
  have hl : lv_has ls 7 [(0, .ref a0), (1, .int x1)] := hl
  have hin10 : ∀ w ∈ wsX100, w ∈ wz_X10_diffused := fun w h => List.mem_cons_of_mem _ (wu_X10 w h)
  have lk28 : (Cond.fieldLink RX10 28 RX10 "left" "[I").before ([.ref a0, .int x1] : List Value).toArray s = true := hWA _ wa_4_159
  generalize hQ : MQ below (va_Qi (fun r (_ : Unit) => r = res.1) (fun _ => mm_B D cs A L K N z w res.2 P) A) ([.ref a0, .int x1] : List Value).toArray s 0 0 A = QQ
  rw [fn_X10_diffused] at hf
  refine lv_iconst (v := (0 : Int32)) hx hb dX10_diffused_0 (by decide) ?_
  refine lv_istore_n (lv' := [(2, .int (0 : Int32)), (0, .ref a0), (1, .int x1)]) hx hb dX10_diffused_1 rfl hl (by decide) rfl (fun ls hl => ?_)
  have lp2_8 : ∀ (n : Nat) (v1 : Int32) (I2 : Nat → Nat → Int32) (H : Heap) (locs : List Loc) (ls : Array Slot) (r3 : (Nat → Nat → Int32)), mm_W D cs A L K N s.heap I2 P H locs → lv_has ls 7 [(0, .ref a0), (1, .int x1), (2, .int v1)] → fn_X10_diffused_L2 K N a0 P n v1 I2 = some r3 → (∀ (H : Heap) (locs : List Loc) (ls : Array Slot), mm_W D cs A L K N s.heap r3 P H locs → lv_has ls 7 [(0, .ref a0), (1, .int x1)] → W p l e (headSpec wz_X10_diffused rm_X10_diffused).room s m ([.ref a0, .int x1] : List Value).toArray below meth c H locs 0 0 QQ (F0 m 22 ls [])) → W p l e (headSpec wz_X10_diffused rm_X10_diffused).room s m ([.ref a0, .int x1] : List Value).toArray below meth c H locs 0 0 QQ (F0 m 2 ls []) := by
    intro n
    induction n with
    | zero => intro v1 I2 H locs ls r3 hM hl hf kk; exact nn_x (show (none : Option ((Nat → Nat → Int32))) = some r3 from hf)
    | succ n ih =>
      intro v1 I2 H locs ls r3 hM hl hf kk
      rw [fn_X10_diffused_L2] at hf
      refine lv_iload_n hx hb dX10_diffused_2 rfl (lv_at hl 2 rfl) ?_
      refine lv_sipush (v := (192 : Int32)) hx hb dX10_diffused_3 (by decide) ?_
      refine lv_icmp_ge (tgt := 22) hx hb dX10_diffused_6 (by decide) (fun hc4 => ?_) (fun hc4 => ?_)
      · have hf := it_p hf hc4
        obtain rfl := Option.some.inj hf
        exact kk _ _ _ hM (lv_sub hl [0, 1] rfl)
      · have hf := it_n hf hc4
        refine lv_aload_n hx hb dX10_diffused_9 rfl (lv_at hl 0 rfl) ?_
        refine gd_e hf (fun hg5 hf => ?_)
        refine bd_e hf (fun q6 eq6 hf => ?_)
        refine ev_getP (v := q6) S hK hM (ci := 10) (n := 23) (C := RX10) (T := TX10) hin10 rfl hg5 18 (by decide) lk28 rfl rfl eq6 rfl dX10_diffused_10 ?_
        refine lv_iload_n hx hb dX10_diffused_13 rfl (lv_at hl 2 rfl) ?_
        refine lv_iconst (v := (0 : Int32)) hx hb dX10_diffused_14 (by decide) ?_
        refine gd_e hf (fun hg7 hf => ?_)
        refine ev_iast S hK hM hg7 (j := v1.toNatClampNeg) rfl dX10_diffused_15 (fun I8 eI8 H locs hM => ?_)
        have hf := nm_x eI8 hf
        refine lv_iinc (v := (v1 + (1 : Int32))) (lv' := [(2, .int (v1 + (1 : Int32))), (0, .ref a0), (1, .int x1)]) hx hb dX10_diffused_16 hl (k := 2) rfl rfl (by decide) rfl (fun ls hl => ?_)
        refine lv_goto (tgt := 2) hx hb dX10_diffused_19 (by decide) ?_
        exact ih (v1 + (1 : Int32)) I8 _ _ _ _ hM (lv_sub hl [1, 2, 0] rfl) hf kk
  refine bd_e hf (fun r3 er3 hf => ?_)
  refine lp2_8 FU (0 : Int32) I _ _ _ r3 hM (lv_sub hl [1, 2, 0] rfl) er3 (fun H locs ls hM hl => ?_)
  refine lv_iconst (v := (0 : Int32)) hx hb dX10_diffused_22 (by decide) ?_
  refine lv_istore_n (lv' := [(2, .int (0 : Int32)), (0, .ref a0), (1, .int x1)]) hx hb dX10_diffused_23 rfl hl (by decide) rfl (fun ls hl => ?_)
  refine lv_iconst (v := (0 : Int32)) hx hb dX10_diffused_24 (by decide) ?_
  refine lv_istore_n (lv' := [(3, .int (0 : Int32)), (2, .int (0 : Int32)), (0, .ref a0), (1, .int x1)]) hx hb dX10_diffused_25 rfl hl (by decide) rfl (fun ls hl => ?_)
  have lp26_35 : ∀ (n : Nat) (v9 : Int32) (v10 : Int32) (I11 : Nat → Nat → Int32) (H : Heap) (locs : List Loc) (ls : Array Slot) (r12 : Int32 × (Nat → Nat → Int32)), mm_W D cs A L K N s.heap I11 P H locs → lv_has ls 7 [(0, .ref a0), (1, .int x1), (2, .int v9), (3, .int v10)] → fn_X10_diffused_L26 K N a0 x1 P n v9 v10 I11 = some r12 → (∀ (H : Heap) (locs : List Loc) (ls : Array Slot), mm_W D cs A L K N s.heap r12.2 P H locs → lv_has ls 7 [(2, .int r12.1)] → W p l e (headSpec wz_X10_diffused rm_X10_diffused).room s m ([.ref a0, .int x1] : List Value).toArray below meth c H locs 0 0 QQ (F0 m 189 ls [])) → W p l e (headSpec wz_X10_diffused rm_X10_diffused).room s m ([.ref a0, .int x1] : List Value).toArray below meth c H locs 0 0 QQ (F0 m 26 ls []) := by
    intro n
    induction n with
    | zero => intro v9 v10 I11 H locs ls r12 hM hl hf kk; exact nn_x (show (none : Option (Int32 × (Nat → Nat → Int32))) = some r12 from hf)
    | succ n ih =>
      intro v9 v10 I11 H locs ls r12 hM hl hf kk
      rw [fn_X10_diffused_L26] at hf
      refine lv_iload_n hx hb dX10_diffused_26 rfl (lv_at hl 3 rfl) ?_
      refine lv_iload_n hx hb dX10_diffused_27 rfl (lv_at hl 1 rfl) ?_
      refine lv_icmp_gt (tgt := 189) hx hb dX10_diffused_28 (by decide) (fun hc13 => ?_) (fun hc13 => ?_)
      · have hf := it_p hf hc13
        obtain rfl := Option.some.inj hf
        exact kk _ _ _ hM (lv_sub hl [2] rfl)
      · have hf := it_n hf hc13
        refine lv_iconst (v := (0 : Int32)) hx hb dX10_diffused_31 (by decide) ?_
        refine lv_istore (lv' := [(4, .int (0 : Int32)), (0, .ref a0), (1, .int x1), (2, .int v9), (3, .int v10)]) hx hb dX10_diffused_32 hl (by decide) rfl (fun ls hl => ?_)
        have lp34_35 : ∀ (n : Nat) (v14 : Int32) (v15 : Int32) (I16 : Nat → Nat → Int32) (H : Heap) (locs : List Loc) (ls : Array Slot) (r17 : Int32 × (Nat → Nat → Int32)), mm_W D cs A L K N s.heap I16 P H locs → lv_has ls 7 [(0, .ref a0), (1, .int x1), (2, .int v14), (3, .int v10), (4, .int v15)] → fn_X10_diffused_L34 K N a0 x1 P v10 n v14 v15 I16 = some r17 → (∀ (H : Heap) (locs : List Loc) (ls : Array Slot), mm_W D cs A L K N s.heap r17.2 P H locs → lv_has ls 7 [(0, .ref a0), (1, .int x1), (2, .int r17.1), (3, .int v10)] → W p l e (headSpec wz_X10_diffused rm_X10_diffused).room s m ([.ref a0, .int x1] : List Value).toArray below meth c H locs 0 0 QQ (F0 m 183 ls [])) → W p l e (headSpec wz_X10_diffused rm_X10_diffused).room s m ([.ref a0, .int x1] : List Value).toArray below meth c H locs 0 0 QQ (F0 m 34 ls []) := by
          intro n
          induction n with
          | zero => intro v14 v15 I16 H locs ls r17 hM hl hf kk; exact nn_x (show (none : Option (Int32 × (Nat → Nat → Int32))) = some r17 from hf)
          | succ n ih =>
            intro v14 v15 I16 H locs ls r17 hM hl hf kk
            rw [fn_X10_diffused_L34] at hf
            refine lv_iload hx hb dX10_diffused_34 (lv_at hl 4 rfl) ?_
            refine lv_bipush (v := (16 : Int32)) hx hb dX10_diffused_36 (by decide) ?_
            refine lv_icmp_ge (tgt := 183) hx hb dX10_diffused_38 (by decide) (fun hc18 => ?_) (fun hc18 => ?_)
            · have hf := it_p hf hc18
              obtain rfl := Option.some.inj hf
              exact kk _ _ _ hM (lv_sub hl [0, 1, 2, 3] rfl)
            · have hf := it_n hf hc18
              refine lv_aload_n hx hb dX10_diffused_41 rfl (lv_at hl 0 rfl) ?_
              refine lv_iload hx hb dX10_diffused_42 (lv_at hl 4 rfl) ?_
              refine lv_iload_n hx hb dX10_diffused_44 rfl (lv_at hl 3 rfl) ?_
              refine bd_e hf (fun r19 er19 hf => ?_)
              refine ev_calli (va_runS (As := [.int v15, .int v10]) (rest := [.ref a0]) S (c_X10_dotOf (l := l) I16 P v15 v10 r19 er19) (va_cwS 2 hts (gi_s wa_5_43 wa_5_44 wa_1_11 wa_5_45) rfl rfl rfl (by decide +kernel) ⟨Nat.le_of_ble_eq_true rfl, Nat.le_of_ble_eq_true rfl⟩) ⟨mm_B_blind, fun U hU hW => ⟨rfl, mm_B_of hK hZ hM hU hW⟩⟩ rfl rfl hl.1 rfl (lv_room (Nat.le_of_ble_eq_true rfl)) dX10_diffused_45 ⟨Nat.zero_le _, Nat.zero_le _⟩) hM (fun H locs hM => ?_)
              refine bd_e hf (fun r20 er20 hf => ?_)
              refine gd_e hf (fun hg21 hf => ?_)
              refine ev_calli (va_runV (As := [.int r19]) (rest := []) S (c_X10_seen_ (l := l) I16 P a0 r19 r20 er20) (cwV 1 hts (gi_v wa_5_46 wa_5_48 wa_s_32 wa_1_11 wa_5_49) rfl rfl rfl (by decide +kernel) ⟨Nat.le_of_ble_eq_true rfl, Nat.le_of_ble_eq_true rfl⟩) ⟨mm_B_blind, ev_recv hK hM (ci := 10) rfl hg21 rfl, fun U hU hW => ⟨rfl, mm_B_of hK hZ hM hU hW⟩⟩ rfl rfl hl.1 rfl (lv_room (Nat.le_of_ble_eq_true rfl)) dX10_diffused_48 ⟨Nat.zero_le _, Nat.zero_le _⟩) hM (fun H locs hM => ?_)
              refine lv_aload_n hx hb dX10_diffused_51 rfl (lv_at hl 0 rfl) ?_
              refine bd_e hf (fun q22 eq22 hf => ?_)
              refine ev_getP (v := q22) S hK hM (ci := 10) (n := 23) (C := RX10) (T := TX10) hin10 rfl hg21 18 (by decide) lk28 rfl rfl eq22 rfl dX10_diffused_52 ?_
              refine lv_iload hx hb dX10_diffused_55 (lv_at hl 4 rfl) ?_
              refine lv_iload_n hx hb dX10_diffused_57 rfl (lv_at hl 3 rfl) ?_
              refine bd_e hf (fun r23 er23 hf => ?_)
              refine ev_calli (va_runS (As := [.int v15, .int v10]) (rest := [.ref q22, .int r20]) S (c_X10_dotOf (l := l) I16 P v15 v10 r23 er23) (va_cwS 2 hts (gi_s wa_5_43 wa_5_44 wa_1_11 wa_5_45) rfl rfl rfl (by decide +kernel) ⟨Nat.le_of_ble_eq_true rfl, Nat.le_of_ble_eq_true rfl⟩) ⟨mm_B_blind, fun U hU hW => ⟨rfl, mm_B_of hK hZ hM hU hW⟩⟩ rfl rfl hl.1 rfl (lv_room (Nat.le_of_ble_eq_true rfl)) dX10_diffused_58 ⟨Nat.zero_le _, Nat.zero_le _⟩) hM (fun H locs hM => ?_)
              refine gd_e hf (fun hg24 hf => ?_)
              refine ev_iald S hK hM hg24 (j := r23.toNatClampNeg) rfl dX10_diffused_61 ?_
              refine lv_iadd hx hb dX10_diffused_62 ?_
              refine lv_topi (fun v25 ev25 => ?_)
              have hf := nm_x ev25 hf
              refine lv_istore (lv' := [(5, .int v25), (0, .ref a0), (1, .int x1), (2, .int v14), (3, .int v10), (4, .int v15)]) hx hb dX10_diffused_63 hl (by decide) rfl (fun ls hl => ?_)
              refine lv_iload_n hx hb dX10_diffused_65 rfl (lv_at hl 3 rfl) ?_
              refine lv_iload hx hb dX10_diffused_66 (lv_at hl 0 rfl) ?_
              refine lv_sipush (v := (128 : Int32)) hx hb dX10_diffused_68 (by decide) ?_
              refine bd_e hf (fun j27 ej27 hf => ?_)
              have kj27 : ∀ (H : Heap) (locs : List Loc) (ls : Array Slot), mm_W D cs A L K N s.heap I16 P H locs → lv_has ls 7 [(0, .ref a0), (1, .int x1), (3, .int v10), (4, .int v15), (5, .int v25)] → W p l e (headSpec wz_X10_diffused rm_X10_diffused).room s m ([.ref a0, .int x1] : List Value).toArray below meth c H locs 0 0 QQ (F0 m 87 ls [.int j27, .int v14]) := by
                intro H locs ls hM hl
                refine lv_ior hx hb dX10_diffused_87 ?_
                refine lv_topi (fun v28 ev28 => ?_)
                have hf := nm_x ev28 hf
                refine lv_istore_n (lv' := [(2, .int v28), (0, .ref a0), (1, .int x1), (3, .int v10), (4, .int v15), (5, .int v25)]) hx hb dX10_diffused_88 rfl hl (by decide) rfl (fun ls hl => ?_)
                refine lv_iload hx hb dX10_diffused_89 (lv_at hl 5 rfl) ?_
                refine lv_sipush (v := (128 : Int32)) hx hb dX10_diffused_91 (by decide) ?_
                refine bd_e hf (fun j30 ej30 hf => ?_)
                have kj30 : ∀ (H : Heap) (locs : List Loc) (ls : Array Slot), mm_W D cs A L K N s.heap I16 P H locs → lv_has ls 7 [(0, .ref a0), (1, .int x1), (2, .int v28), (3, .int v10), (4, .int v15)] → W p l e (headSpec wz_X10_diffused rm_X10_diffused).room s m ([.ref a0, .int x1] : List Value).toArray below meth c H locs 0 0 QQ (F0 m 108 ls [.int j30]) := by
                  intro H locs ls hM hl
                  refine lv_istore (lv' := [(6, .int j30), (0, .ref a0), (1, .int x1), (2, .int v28), (3, .int v10), (4, .int v15)]) hx hb dX10_diffused_108 hl (by decide) rfl (fun ls hl => ?_)
                  refine lv_aload_n hx hb dX10_diffused_110 rfl (lv_at hl 1 rfl) ?_
                  refine lv_iload hx hb dX10_diffused_111 (lv_at hl 5 rfl) ?_
                  refine lv_iconst (v := (1 : Int32)) hx hb dX10_diffused_113 (by decide) ?_
                  refine lv_iadd hx hb dX10_diffused_114 ?_
                  refine lv_iload_n hx hb dX10_diffused_115 rfl (lv_at hl 4 rfl) ?_
                  refine lv_bipush (v := (7 : Int32)) hx hb dX10_diffused_116 (by decide) ?_
                  refine lv_iload hx hb dX10_diffused_118 (lv_at hl 0 rfl) ?_
                  refine lv_imul hx hb dX10_diffused_120 ?_
                  refine lv_bipush (v := (16 : Int32)) hx hb dX10_diffused_121 (by decide) ?_
                  refine lv_idiv hx hb dX10_diffused_123 (by decide) ?_
                  refine bd_e hf (fun r31 er31 hf => ?_)
                  refine ev_callv (va_runV (As := [.int (v15 + (1 : Int32)), .int v10, .int (((7 : Int32) * j30) / (16 : Int32))]) (rest := []) S (c_X10_leaves (l := l) I16 P a0 (v15 + (1 : Int32)) v10 (((7 : Int32) * j30) / (16 : Int32)) r31 er31) (cwV 3 hts (gi_v wa_5_217 wa_5_219 wa_s_58 wa_1_11 wa_5_220) rfl rfl rfl (by decide +kernel) ⟨Nat.le_of_ble_eq_true rfl, Nat.le_of_ble_eq_true rfl⟩) ⟨mm_B_blind, ev_recv hK hM (ci := 10) rfl hg21 rfl, fun U hU hW => ⟨rfl, mm_B_of hK hZ hM hU hW⟩⟩ rfl rfl hl.1 rfl (lv_room (Nat.le_of_ble_eq_true rfl)) dX10_diffused_124 ⟨Nat.zero_le _, Nat.zero_le _⟩) hM (fun H locs hM => ?_)
                  refine lv_aload_n hx hb dX10_diffused_127 rfl (lv_at hl 1 rfl) ?_
                  refine lv_iload hx hb dX10_diffused_128 (lv_at hl 5 rfl) ?_
                  refine lv_iconst (v := (1 : Int32)) hx hb dX10_diffused_130 (by decide) ?_
                  refine lv_isub hx hb dX10_diffused_131 ?_
                  refine lv_iload_n hx hb dX10_diffused_132 rfl (lv_at hl 4 rfl) ?_
                  refine lv_iconst (v := (1 : Int32)) hx hb dX10_diffused_133 (by decide) ?_
                  refine lv_iadd hx hb dX10_diffused_134 ?_
                  refine lv_iconst (v := (3 : Int32)) hx hb dX10_diffused_135 (by decide) ?_
                  refine lv_iload hx hb dX10_diffused_136 (lv_at hl 0 rfl) ?_
                  refine lv_imul hx hb dX10_diffused_138 ?_
                  refine lv_bipush (v := (16 : Int32)) hx hb dX10_diffused_139 (by decide) ?_
                  refine lv_idiv hx hb dX10_diffused_141 (by decide) ?_
                  refine bd_e hf (fun r32 er32 hf => ?_)
                  refine ev_callv (va_runV (As := [.int (v15 - (1 : Int32)), .int (v10 + (1 : Int32)), .int (((3 : Int32) * j30) / (16 : Int32))]) (rest := []) S (c_X10_leaves (l := l) r31 P a0 (v15 - (1 : Int32)) (v10 + (1 : Int32)) (((3 : Int32) * j30) / (16 : Int32)) r32 er32) (cwV 3 hts (gi_v wa_5_217 wa_5_219 wa_s_58 wa_1_11 wa_5_220) rfl rfl rfl (by decide +kernel) ⟨Nat.le_of_ble_eq_true rfl, Nat.le_of_ble_eq_true rfl⟩) ⟨mm_B_blind, ev_recv hK hM (ci := 10) rfl hg21 rfl, fun U hU hW => ⟨rfl, mm_B_of hK hZ hM hU hW⟩⟩ rfl rfl hl.1 rfl (lv_room (Nat.le_of_ble_eq_true rfl)) dX10_diffused_142 ⟨Nat.zero_le _, Nat.zero_le _⟩) hM (fun H locs hM => ?_)
                  refine lv_aload_n hx hb dX10_diffused_145 rfl (lv_at hl 1 rfl) ?_
                  refine lv_iload hx hb dX10_diffused_146 (lv_at hl 5 rfl) ?_
                  refine lv_iload_n hx hb dX10_diffused_148 rfl (lv_at hl 4 rfl) ?_
                  refine lv_iconst (v := (1 : Int32)) hx hb dX10_diffused_149 (by decide) ?_
                  refine lv_iadd hx hb dX10_diffused_150 ?_
                  refine lv_iconst (v := (5 : Int32)) hx hb dX10_diffused_151 (by decide) ?_
                  refine lv_iload hx hb dX10_diffused_152 (lv_at hl 0 rfl) ?_
                  refine lv_imul hx hb dX10_diffused_154 ?_
                  refine lv_bipush (v := (16 : Int32)) hx hb dX10_diffused_155 (by decide) ?_
                  refine lv_idiv hx hb dX10_diffused_157 (by decide) ?_
                  refine bd_e hf (fun r33 er33 hf => ?_)
                  refine ev_callv (va_runV (As := [.int v15, .int (v10 + (1 : Int32)), .int (((5 : Int32) * j30) / (16 : Int32))]) (rest := []) S (c_X10_leaves (l := l) r32 P a0 v15 (v10 + (1 : Int32)) (((5 : Int32) * j30) / (16 : Int32)) r33 er33) (cwV 3 hts (gi_v wa_5_217 wa_5_219 wa_s_58 wa_1_11 wa_5_220) rfl rfl rfl (by decide +kernel) ⟨Nat.le_of_ble_eq_true rfl, Nat.le_of_ble_eq_true rfl⟩) ⟨mm_B_blind, ev_recv hK hM (ci := 10) rfl hg21 rfl, fun U hU hW => ⟨rfl, mm_B_of hK hZ hM hU hW⟩⟩ rfl rfl hl.1 rfl (lv_room (Nat.le_of_ble_eq_true rfl)) dX10_diffused_158 ⟨Nat.zero_le _, Nat.zero_le _⟩) hM (fun H locs hM => ?_)
                  refine lv_aload_n hx hb dX10_diffused_161 rfl (lv_at hl 1 rfl) ?_
                  refine lv_iload hx hb dX10_diffused_162 (lv_at hl 5 rfl) ?_
                  refine lv_iconst (v := (1 : Int32)) hx hb dX10_diffused_164 (by decide) ?_
                  refine lv_iadd hx hb dX10_diffused_165 ?_
                  refine lv_iload_n hx hb dX10_diffused_166 rfl (lv_at hl 4 rfl) ?_
                  refine lv_iconst (v := (1 : Int32)) hx hb dX10_diffused_167 (by decide) ?_
                  refine lv_iadd hx hb dX10_diffused_168 ?_
                  refine lv_iload hx hb dX10_diffused_169 (lv_at hl 0 rfl) ?_
                  refine lv_bipush (v := (16 : Int32)) hx hb dX10_diffused_171 (by decide) ?_
                  refine lv_idiv hx hb dX10_diffused_173 (by decide) ?_
                  refine bd_e hf (fun r34 er34 hf => ?_)
                  refine ev_callv (va_runV (As := [.int (v15 + (1 : Int32)), .int (v10 + (1 : Int32)), .int (j30 / (16 : Int32))]) (rest := []) S (c_X10_leaves (l := l) r33 P a0 (v15 + (1 : Int32)) (v10 + (1 : Int32)) (j30 / (16 : Int32)) r34 er34) (cwV 3 hts (gi_v wa_5_217 wa_5_219 wa_s_58 wa_1_11 wa_5_220) rfl rfl rfl (by decide +kernel) ⟨Nat.le_of_ble_eq_true rfl, Nat.le_of_ble_eq_true rfl⟩) ⟨mm_B_blind, ev_recv hK hM (ci := 10) rfl hg21 rfl, fun U hU hW => ⟨rfl, mm_B_of hK hZ hM hU hW⟩⟩ rfl rfl hl.1 rfl (lv_room (Nat.le_of_ble_eq_true rfl)) dX10_diffused_174 ⟨Nat.zero_le _, Nat.zero_le _⟩) hM (fun H locs hM => ?_)
                  refine lv_iinc (v := (v15 + (1 : Int32))) (lv' := [(4, .int (v15 + (1 : Int32))), (6, .int j30), (0, .ref a0), (1, .int x1), (2, .int v28), (3, .int v10)]) hx hb dX10_diffused_177 hl (k := 5) rfl rfl (by decide) rfl (fun ls hl => ?_)
                  refine lv_goto (tgt := 34) hx hb dX10_diffused_180 (by decide) ?_
                  exact ih v28 (v15 + (1 : Int32)) r34 _ _ _ _ hM (lv_sub hl [2, 3, 4, 5, 0] rfl) hf kk
                have hf := ej30
                refine lv_icmp_lt (tgt := 106) hx hb dX10_diffused_94 (by decide) (fun hc29 => ?_) (fun hc29 => ?_)
                · have hf := it_p hf hc29
                  refine lv_iload hx hb dX10_diffused_106 (lv_at hl 5 rfl) ?_
                  obtain rfl := Option.some.inj hf
                  exact kj30 _ _ _ hM (lv_sub hl [1, 2, 0, 3, 4] rfl)
                · have hf := it_n hf hc29
                  refine lv_iload hx hb dX10_diffused_97 (lv_at hl 5 rfl) ?_
                  refine lv_sipush (v := (255 : Int32)) hx hb dX10_diffused_99 (by decide) ?_
                  refine lv_isub hx hb dX10_diffused_102 ?_
                  refine lv_goto (tgt := 108) hx hb dX10_diffused_103 (by decide) ?_
                  obtain rfl := Option.some.inj hf
                  exact kj30 _ _ _ hM (lv_sub hl [1, 2, 0, 3, 4] rfl)
              have hf := ej27
              refine lv_icmp_lt (tgt := 86) hx hb dX10_diffused_71 (by decide) (fun hc26 => ?_) (fun hc26 => ?_)
              · have hf := it_p hf hc26
                refine lv_iconst (v := (0 : Int32)) hx hb dX10_diffused_86 (by decide) ?_
                obtain rfl := Option.some.inj hf
                exact kj27 _ _ _ hM (lv_sub hl [1, 2, 4, 5, 0] rfl)
              · have hf := it_n hf hc26
                refine lv_iload_n hx hb dX10_diffused_74 rfl (lv_at hl 4 rfl) ?_
                refine lv_iload_n hx hb dX10_diffused_75 rfl (lv_at hl 2 rfl) ?_
                refine lv_icmp_ne (tgt := 86) hx hb dX10_diffused_76 (by decide) (fun hc35 => ?_) (fun hc35 => ?_)
                · have hf := it_n hf hc35
                  refine lv_iconst (v := (0 : Int32)) hx hb dX10_diffused_86 (by decide) ?_
                  obtain rfl := Option.some.inj hf
                  exact kj27 _ _ _ hM (lv_sub hl [1, 2, 4, 5, 0] rfl)
                · have hf := it_p hf hc35
                  refine lv_iconst (v := (1 : Int32)) hx hb dX10_diffused_79 (by decide) ?_
                  refine lv_iload hx hb dX10_diffused_80 (lv_at hl 5 rfl) ?_
                  refine lv_ishl hx hb dX10_diffused_82 ?_
                  refine lv_goto (tgt := 87) hx hb dX10_diffused_83 (by decide) ?_
                  obtain rfl := Option.some.inj hf
                  exact kj27 _ _ _ hM (lv_sub hl [1, 2, 4, 5, 0] rfl)
        refine bd_e hf (fun r17 er17 hf => ?_)
        refine lp34_35 FU v9 (0 : Int32) I11 _ _ _ r17 hM (lv_sub hl [1, 2, 3, 4, 0] rfl) er17 (fun H locs ls hM hl => ?_)
        refine lv_iinc (v := (v10 + (1 : Int32))) (lv' := [(3, .int (v10 + (1 : Int32))), (0, .ref a0), (1, .int x1), (2, .int r17.1)]) hx hb dX10_diffused_183 hl (k := 3) rfl rfl (by decide) rfl (fun ls hl => ?_)
        refine lv_goto (tgt := 26) hx hb dX10_diffused_186 (by decide) ?_
        exact ih r17.1 (v10 + (1 : Int32)) r17.2 _ _ _ _ hM (lv_sub hl [1, 2, 3, 0] rfl) hf kk
  refine bd_e hf (fun r12 er12 hf => ?_)
  refine lp26_35 FU (0 : Int32) (0 : Int32) r3 _ _ _ r12 hM (lv_sub hl [2, 3, 1, 0] rfl) er12 (fun H locs ls hM hl => ?_)
  refine lv_iload_n hx hb dX10_diffused_189 rfl (lv_at hl 0 rfl) ?_
  obtain rfl := Option.some.inj hf
  subst hQ
  exact ev_iret S hr hlocks hK hZ hM dX10_diffused_190
noncomputable def fn_X10_dither_L37 (K : Nat → Nat) (N : Nat → Nat) (a0 : Nat) (x2 : Int32) (I : Nat → Nat → Int32) (P : Nat → Nat → Option Nat) : Nat → Int32 → Int32 → Option (Int32)
  | 0, _, _ => none
  | n + 1, v6, v7 => if (16 : Int32) ≤ v7 then (some v6) else (Option.bind (fn_X10_dotOf v7 x2) (fun (r10 : Int32) => Option.bind (fn_X10_seen_ K N I P a0 r10) (fun (r11 : Int32) => gd (K a0 = 11) (gd (vp_in (((4 : Int32) * (x2 - x2 / (4 : Int32) * (4 : Int32))) + (v7 - v7 / (4 : Int32) * (4 : Int32))) 16) (if r11 ≤ (((16 : Int32) * (mm_zt (Int32.toNatClampNeg (((4 : Int32) * (x2 - x2 / (4 : Int32) * (4 : Int32))) + (v7 - v7 / (4 : Int32) * (4 : Int32)))))) + (7 : Int32)) then (Option.bind (some (v6 ||| (0 : Int32))) (fun v15 => fn_X10_dither_L37 K N a0 x2 I P n v15 (v7 + (1 : Int32)))) else (Option.bind (some (v6 ||| ((1 : Int32) <<< (v7 &&& 31)))) (fun v16 => fn_X10_dither_L37 K N a0 x2 I P n v16 (v7 + (1 : Int32)))))))))
noncomputable def fn_X10_dither (K N : Nat → Nat) (I : Nat → Nat → Int32) (P : Nat → Nat → Option Nat) (a0 : Nat) (x1 : Int32) (x2 : Int32) : Option (Int32 × (Nat → Nat → Int32)) := Option.bind (fn_X10_isIn x1 (0 : Int32) (1 : Int32)) (fun (r1 : Int32) => if r1 = 0 then (some ((-2 : Int32), I)) else (Option.bind (fn_X10_isIn x2 (0 : Int32) (11 : Int32)) (fun (r3 : Int32) => if r3 = 0 then (some ((-2 : Int32), I)) else (if x1 = 0 then (Option.bind (fn_X10_diffused K N I P a0 x2) (fun (r17 : Int32 × (Nat → Nat → Int32)) => gd (K a0 = 11) (some (r17.1, r17.2)))) else (Option.bind (fn_X10_dither_L37 K N a0 x2 I P FU (0 : Int32) (0 : Int32)) (fun (r8 : Int32) => some (r8, I)))))))
abbrev wz_X10_dither : List Cond := Cond.code yX10_dither cX10_dither 5 (some .int) :: WA
abbrev rm_X10_dither : Room := { frames := 6, cells := 0, slots := 0, locals := 128 }
set_option maxHeartbeats 4000000 in
set_option maxRecDepth 100000 in
theorem c_X10_dither (I : Nat → Nat → Int32) (P : Nat → Nat → Option Nat) (a0 : Nat) (x1 : Int32) (x2 : Int32) (res : Int32 × (Nat → Nat → Int32)) (hf : fn_X10_dither K N I P a0 x1 x2 = some res) : Met l yX10_dither wz_X10_dither rm_X10_dither (va_Pc [.ref a0, .int x1, .int x2] (mm_B D cs A L K N z w I P)) (va_Qi (fun r (_ : Unit) => r = res.1) (fun _ => mm_B D cs A L K N z w res.2 P) A) 0 0 A := by
  refine Met.ofW (cc := cX10_dither) (maxL := 5) (ret := (some .int)) (by decide) rfl ?_
  intro p e s m args below meth c s₁ B hml hv
  obtain ⟨rfl, hBm⟩ := hv
  have hx := B.exec
  have hb := B.bytes
  have hr := B.returns
  have hts := atoms_spec (ws := wz_X10_dither) B.pre
  have hWA : ∀ w ∈ WA, w.before ([.ref a0, .int x1, .int x2] : List Value).toArray s = true := fun u9 h9 => hts u9 (List.mem_cons_of_mem _ h9)
  have hown : s.vm.findClass RX10 = some m.cls := findClass_of_methodNamed B.named
  have hlocks := B.notSynchronized
  have S : CallFix p m c cX10_dither 5 s ([.ref a0, .int x1, .int x2] : List Value).toArray wz_X10_dither RX10 := ⟨hx, hb, hml, hown, hts⟩
  have hK := hBm.2.2.2.1
  have hZ := hBm.2.2.2.2
  have hM : mm_W D cs A L K N s.heap I P s.heap [] := ⟨hBm.1, hBm.2.1, hBm.2.2.1, va_S.rf⟩
  have hl := lv_entry ([.ref a0, .int x1, .int x2]) (n := 5) (Nat.le_of_ble_eq_true rfl)
  rw [lg_entry_eq]
  generalize (lg_sl ([.ref a0, .int x1, .int x2]) ++ List.replicate (5 - (lg_sl ([.ref a0, .int x1, .int x2])).length) Slot.unset).toArray = ls at hl ⊢
  have hl : lv_has ls 5 [(0, .ref a0), (1, .int x1), (2, .int x2)] := hl
  generalize hQ : MQ below (va_Qi (fun r (_ : Unit) => r = res.1) (fun _ => mm_B D cs A L K N z w res.2 P) A) ([.ref a0, .int x1, .int x2] : List Value).toArray s 0 0 A = QQ
  rw [fn_X10_dither] at hf
  refine lv_iload_n hx hb dX10_dither_0 rfl (lv_at hl 1 rfl) ?_
  refine lv_iconst (v := (0 : Int32)) hx hb dX10_dither_1 (by decide) ?_
  refine lv_iconst (v := (1 : Int32)) hx hb dX10_dither_2 (by decide) ?_
  refine bd_e hf (fun r1 er1 hf => ?_)
  refine ev_calli (va_runS (As := [.int x1, .int (0 : Int32), .int (1 : Int32)]) (rest := []) S (c_X10_isIn (l := l) I P x1 (0 : Int32) (1 : Int32) r1 er1) (va_cwS 3 hts (gi_s wa_4_218 wa_4_219 wa_1_11 wa_4_220) rfl rfl rfl (by decide +kernel) ⟨Nat.le_of_ble_eq_true rfl, Nat.le_of_ble_eq_true rfl⟩) ⟨mm_B_blind, fun U hU hW => ⟨rfl, mm_B_of hK hZ hM hU hW⟩⟩ rfl rfl hl.1 rfl (lv_room (Nat.le_of_ble_eq_true rfl)) dX10_dither_3 ⟨Nat.zero_le _, Nat.zero_le _⟩) hM (fun H locs hM => ?_)
  refine lv_if_eq (tgt := 19) hx hb dX10_dither_6 (by decide) (fun hc2 => ?_) (fun hc2 => ?_)
  · have hf := it_p hf hc2
    refine lv_bipush (v := (-2 : Int32)) hx hb dX10_dither_19 (by decide) ?_
    obtain rfl := Option.some.inj hf
    subst hQ
    exact ev_iret S hr hlocks hK hZ hM dX10_dither_21
  · have hf := it_n hf hc2
    refine lv_iload_n hx hb dX10_dither_9 rfl (lv_at hl 2 rfl) ?_
    refine lv_iconst (v := (0 : Int32)) hx hb dX10_dither_10 (by decide) ?_
    refine lv_bipush (v := (11 : Int32)) hx hb dX10_dither_11 (by decide) ?_
    refine bd_e hf (fun r3 er3 hf => ?_)
    refine ev_calli (va_runS (As := [.int x2, .int (0 : Int32), .int (11 : Int32)]) (rest := []) S (c_X10_isIn (l := l) I P x2 (0 : Int32) (11 : Int32) r3 er3) (va_cwS 3 hts (gi_s wa_4_218 wa_4_219 wa_1_11 wa_4_220) rfl rfl rfl (by decide +kernel) ⟨Nat.le_of_ble_eq_true rfl, Nat.le_of_ble_eq_true rfl⟩) ⟨mm_B_blind, fun U hU hW => ⟨rfl, mm_B_of hK hZ hM hU hW⟩⟩ rfl rfl hl.1 rfl (lv_room (Nat.le_of_ble_eq_true rfl)) dX10_dither_13 ⟨Nat.zero_le _, Nat.zero_le _⟩) hM (fun H locs hM => ?_)
    refine lv_if_ne (tgt := 22) hx hb dX10_dither_16 (by decide) (fun hc4 => ?_) (fun hc4 => ?_)
    · have hf := it_n hf hc4
      refine lv_iload_n hx hb dX10_dither_22 rfl (lv_at hl 1 rfl) ?_
      refine lv_if_ne (tgt := 32) hx hb dX10_dither_23 (by decide) (fun hc5 => ?_) (fun hc5 => ?_)
      · have hf := it_n hf hc5
        refine lv_iconst (v := (0 : Int32)) hx hb dX10_dither_32 (by decide) ?_
        refine lv_istore_n (lv' := [(3, .int (0 : Int32)), (0, .ref a0), (1, .int x1), (2, .int x2)]) hx hb dX10_dither_33 rfl hl (by decide) rfl (fun ls hl => ?_)
        refine lv_iconst (v := (0 : Int32)) hx hb dX10_dither_34 (by decide) ?_
        refine lv_istore (lv' := [(4, .int (0 : Int32)), (3, .int (0 : Int32)), (0, .ref a0), (1, .int x1), (2, .int x2)]) hx hb dX10_dither_35 hl (by decide) rfl (fun ls hl => ?_)
        have lp37_16 : ∀ (n : Nat) (v6 : Int32) (v7 : Int32) (H : Heap) (locs : List Loc) (ls : Array Slot) (r8 : Int32), mm_W D cs A L K N s.heap I P H locs → lv_has ls 5 [(0, .ref a0), (2, .int x2), (3, .int v6), (4, .int v7)] → fn_X10_dither_L37 K N a0 x2 I P n v6 v7 = some r8 → (∀ (H : Heap) (locs : List Loc) (ls : Array Slot), mm_W D cs A L K N s.heap I P H locs → lv_has ls 5 [(3, .int r8)] → W p l e (headSpec wz_X10_dither rm_X10_dither).room s m ([.ref a0, .int x1, .int x2] : List Value).toArray below meth c H locs 0 0 QQ (F0 m 94 ls [])) → W p l e (headSpec wz_X10_dither rm_X10_dither).room s m ([.ref a0, .int x1, .int x2] : List Value).toArray below meth c H locs 0 0 QQ (F0 m 37 ls []) := by
          intro n
          induction n with
          | zero => intro v6 v7 H locs ls r8 hM hl hf kk; exact nn_x (show (none : Option (Int32)) = some r8 from hf)
          | succ n ih =>
            intro v6 v7 H locs ls r8 hM hl hf kk
            rw [fn_X10_dither_L37] at hf
            refine lv_iload hx hb dX10_dither_37 (lv_at hl 3 rfl) ?_
            refine lv_bipush (v := (16 : Int32)) hx hb dX10_dither_39 (by decide) ?_
            refine lv_icmp_ge (tgt := 94) hx hb dX10_dither_41 (by decide) (fun hc9 => ?_) (fun hc9 => ?_)
            · have hf := it_p hf hc9
              obtain rfl := Option.some.inj hf
              exact kk _ _ _ hM (lv_sub hl [2] rfl)
            · have hf := it_n hf hc9
              refine lv_iload_n hx hb dX10_dither_44 rfl (lv_at hl 2 rfl) ?_
              refine lv_aload_n hx hb dX10_dither_45 rfl (lv_at hl 0 rfl) ?_
              refine lv_iload hx hb dX10_dither_46 (lv_at hl 3 rfl) ?_
              refine lv_iload_n hx hb dX10_dither_48 rfl (lv_at hl 1 rfl) ?_
              refine bd_e hf (fun r10 er10 hf => ?_)
              refine ev_calli (va_runS (As := [.int v7, .int x2]) (rest := [.ref a0, .int v6]) S (c_X10_dotOf (l := l) I P v7 x2 r10 er10) (va_cwS 2 hts (gi_s wa_5_43 wa_5_44 wa_1_11 wa_5_45) rfl rfl rfl (by decide +kernel) ⟨Nat.le_of_ble_eq_true rfl, Nat.le_of_ble_eq_true rfl⟩) ⟨mm_B_blind, fun U hU hW => ⟨rfl, mm_B_of hK hZ hM hU hW⟩⟩ rfl rfl hl.1 rfl (lv_room (Nat.le_of_ble_eq_true rfl)) dX10_dither_49 ⟨Nat.zero_le _, Nat.zero_le _⟩) hM (fun H locs hM => ?_)
              refine bd_e hf (fun r11 er11 hf => ?_)
              refine gd_e hf (fun hg12 hf => ?_)
              refine ev_calli (va_runV (As := [.int r10]) (rest := [.int v6]) S (c_X10_seen_ (l := l) I P a0 r10 r11 er11) (cwV 1 hts (gi_v wa_5_46 wa_5_48 wa_s_32 wa_1_11 wa_5_49) rfl rfl rfl (by decide +kernel) ⟨Nat.le_of_ble_eq_true rfl, Nat.le_of_ble_eq_true rfl⟩) ⟨mm_B_blind, ev_recv hK hM (ci := 10) rfl hg12 rfl, fun U hU hW => ⟨rfl, mm_B_of hK hZ hM hU hW⟩⟩ rfl rfl hl.1 rfl (lv_room (Nat.le_of_ble_eq_true rfl)) dX10_dither_52 ⟨Nat.zero_le _, Nat.zero_le _⟩) hM (fun H locs hM => ?_)
              refine lv_bipush (v := (16 : Int32)) hx hb dX10_dither_55 (by decide) ?_
              refine ev_gets2 S hZ hM (hWA _ wa_5_221) dX10_dither_57 ?_
              refine lv_iconst (v := (4 : Int32)) hx hb dX10_dither_60 (by decide) ?_
              refine lv_iload_n hx hb dX10_dither_61 rfl (lv_at hl 1 rfl) ?_
              refine lv_iconst (v := (4 : Int32)) hx hb dX10_dither_62 (by decide) ?_
              refine lv_irem hx hb dX10_dither_63 (by decide) ?_
              refine lv_imul hx hb dX10_dither_64 ?_
              refine lv_iload hx hb dX10_dither_65 (lv_at hl 3 rfl) ?_
              refine lv_iconst (v := (4 : Int32)) hx hb dX10_dither_67 (by decide) ?_
              refine lv_irem hx hb dX10_dither_68 (by decide) ?_
              refine lv_iadd hx hb dX10_dither_69 ?_
              refine gd_e hf (fun hg13 hf => ?_)
              refine ev_sld2 S hZ hM hg13 dX10_dither_70 ?_
              refine lv_imul hx hb dX10_dither_71 ?_
              refine lv_bipush (v := (7 : Int32)) hx hb dX10_dither_72 (by decide) ?_
              refine lv_iadd hx hb dX10_dither_74 ?_
              refine lv_icmp_le (tgt := 85) hx hb dX10_dither_75 (by decide) (fun hc14 => ?_) (fun hc14 => ?_)
              · have hf := it_p hf hc14
                refine lv_iconst (v := (0 : Int32)) hx hb dX10_dither_85 (by decide) ?_
                refine lv_ior hx hb dX10_dither_86 ?_
                refine lv_topi (fun v15 ev15 => ?_)
                have hf := nm_x ev15 hf
                refine lv_istore_n (lv' := [(3, .int v15), (0, .ref a0), (2, .int x2), (4, .int v7)]) hx hb dX10_dither_87 rfl hl (by decide) rfl (fun ls hl => ?_)
                refine lv_iinc (v := (v7 + (1 : Int32))) (lv' := [(4, .int (v7 + (1 : Int32))), (3, .int v15), (0, .ref a0), (2, .int x2)]) hx hb dX10_dither_88 hl (k := 3) rfl rfl (by decide) rfl (fun ls hl => ?_)
                refine lv_goto (tgt := 37) hx hb dX10_dither_91 (by decide) ?_
                exact ih v15 (v7 + (1 : Int32)) _ _ _ _ hM (lv_sub hl [2, 3, 1, 0] rfl) hf kk
              · have hf := it_n hf hc14
                refine lv_iconst (v := (1 : Int32)) hx hb dX10_dither_78 (by decide) ?_
                refine lv_iload hx hb dX10_dither_79 (lv_at hl 3 rfl) ?_
                refine lv_ishl hx hb dX10_dither_81 ?_
                refine lv_goto (tgt := 86) hx hb dX10_dither_82 (by decide) ?_
                refine lv_ior hx hb dX10_dither_86 ?_
                refine lv_topi (fun v16 ev16 => ?_)
                have hf := nm_x ev16 hf
                refine lv_istore_n (lv' := [(3, .int v16), (0, .ref a0), (2, .int x2), (4, .int v7)]) hx hb dX10_dither_87 rfl hl (by decide) rfl (fun ls hl => ?_)
                refine lv_iinc (v := (v7 + (1 : Int32))) (lv' := [(4, .int (v7 + (1 : Int32))), (3, .int v16), (0, .ref a0), (2, .int x2)]) hx hb dX10_dither_88 hl (k := 3) rfl rfl (by decide) rfl (fun ls hl => ?_)
                refine lv_goto (tgt := 37) hx hb dX10_dither_91 (by decide) ?_
                exact ih v16 (v7 + (1 : Int32)) _ _ _ _ hM (lv_sub hl [2, 3, 1, 0] rfl) hf kk
        refine bd_e hf (fun r8 er8 hf => ?_)
        refine lp37_16 FU (0 : Int32) (0 : Int32) _ _ _ r8 hM (lv_sub hl [2, 4, 1, 0] rfl) er8 (fun H locs ls hM hl => ?_)
        refine lv_iload_n hx hb dX10_dither_94 rfl (lv_at hl 0 rfl) ?_
        obtain rfl := Option.some.inj hf
        subst hQ
        exact ev_iret S hr hlocks hK hZ hM dX10_dither_95
      · have hf := it_p hf hc5
        refine lv_aload_n hx hb dX10_dither_26 rfl (lv_at hl 0 rfl) ?_
        refine lv_iload_n hx hb dX10_dither_27 rfl (lv_at hl 2 rfl) ?_
        refine bd_e hf (fun r17 er17 hf => ?_)
        refine gd_e hf (fun hg18 hf => ?_)
        refine ev_calli (va_runV (As := [.int x2]) (rest := []) S (c_X10_diffused (l := l) I P a0 x2 r17 er17) (cwV 1 hts (gi_v wa_5_213 wa_5_215 wa_s_57 wa_1_11 wa_5_216) rfl rfl rfl (by decide +kernel) ⟨Nat.le_of_ble_eq_true rfl, Nat.le_of_ble_eq_true rfl⟩) ⟨mm_B_blind, ev_recv hK hM (ci := 10) rfl hg18 rfl, fun U hU hW => ⟨rfl, mm_B_of hK hZ hM hU hW⟩⟩ rfl rfl hl.1 rfl (lv_room (Nat.le_of_ble_eq_true rfl)) dX10_dither_28 ⟨Nat.zero_le _, Nat.zero_le _⟩) hM (fun H locs hM => ?_)
        obtain rfl := Option.some.inj hf
        subst hQ
        exact ev_iret S hr hlocks hK hZ hM dX10_dither_31
    · have hf := it_p hf hc4
      refine lv_bipush (v := (-2 : Int32)) hx hb dX10_dither_19 (by decide) ?_
      obtain rfl := Option.some.inj hf
      subst hQ
      exact ev_iret S hr hlocks hK hZ hM dX10_dither_21
noncomputable def fn_X10_area_L35 (K : Nat → Nat) (N : Nat → Nat) (q2 : Nat) (v4 : Int32) (q5 : Nat) (v10 : Int32) : Nat → Int32 → Int32 → (Nat → Nat → Int32) → Option (Int32 × (Nat → Nat → Int32))
  | 0, _, _, _ => none
  | n + 1, v14, v15, I16 => if (4 : Int32) ≤ v15 then (some (v14, I16)) else (gd (K q5 = 12 ∧ vp_in v10 (N q5)) (Option.bind (fn_X10_beside (I16 q5 (v10.toNatClampNeg)) v15) (fun (r20 : Int32) => if r20 < 0 then (fn_X10_area_L35 K N q2 v4 q5 v10 n v14 (v15 + (1 : Int32)) I16) else (gd (K q2 = 12 ∧ vp_in r20 (N q2)) (if (I16 q2 (r20.toNatClampNeg)) = v4 then (Option.bind (some (up2 I16 q2 (r20.toNatClampNeg) (-1 : Int32))) (fun I24 => gd (K q5 = 12 ∧ vp_in v14 (N q5)) (Option.bind (some (up2 I24 q5 (v14.toNatClampNeg) r20)) (fun I26 => fn_X10_area_L35 K N q2 v4 q5 v10 n (v14 + (1 : Int32)) (v15 + (1 : Int32)) I26)))) else (fn_X10_area_L35 K N q2 v4 q5 v10 n v14 (v15 + (1 : Int32)) I16))))))
noncomputable def fn_X10_area_L26 (K : Nat → Nat) (N : Nat → Nat) (q2 : Nat) (v4 : Int32) (q5 : Nat) : Nat → Int32 → Int32 → (Nat → Nat → Int32) → Option (Int32 × (Nat → Nat → Int32))
  | 0, _, _, _ => none
  | n + 1, v9, v10, I11 => if v9 ≤ v10 then (some (v9, I11)) else (Option.bind (fn_X10_area_L35 K N q2 v4 q5 v10 FU v9 (0 : Int32) I11) (fun (r17 : Int32 × (Nat → Nat → Int32)) => fn_X10_area_L26 K N q2 v4 q5 n r17.1 (v10 + (1 : Int32)) r17.2))
noncomputable def fn_X10_area (K N : Nat → Nat) (I : Nat → Nat → Int32) (P : Nat → Nat → Option Nat) (a0 : Nat) (x1 : Int32) : Option (Int32 × (Nat → Nat → Int32)) := gd (K a0 = 11) (Option.bind (P a0 (19)) (fun q2 => gd (K q2 = 12 ∧ vp_in x1 (N q2)) (Option.bind (some (I q2 (x1.toNatClampNeg))) (fun v4 => Option.bind (P a0 (17)) (fun q5 => gd (K q5 = 12 ∧ vp_in (0 : Int32) (N q5)) (Option.bind (some (up2 I q5 (0) x1)) (fun I7 => Option.bind (some (up2 I7 q2 (x1.toNatClampNeg) (-1 : Int32))) (fun I8 => Option.bind (fn_X10_area_L26 K N q2 v4 q5 FU (1 : Int32) (0 : Int32) I8) (fun (r12 : Int32 × (Nat → Nat → Int32)) => some (r12.1, r12.2))))))))))
abbrev wz_X10_area : List Cond := Cond.code yX10_area cX10_area 7 (some .int) :: WA
abbrev rm_X10_area : Room := { frames := 4, cells := 0, slots := 0, locals := 78 }
set_option maxHeartbeats 4000000 in
set_option maxRecDepth 100000 in
theorem c_X10_area (I : Nat → Nat → Int32) (P : Nat → Nat → Option Nat) (a0 : Nat) (x1 : Int32) (res : Int32 × (Nat → Nat → Int32)) (hf : fn_X10_area K N I P a0 x1 = some res) : Met l yX10_area wz_X10_area rm_X10_area (va_Pc [.ref a0, .int x1] (mm_B D cs A L K N z w I P)) (va_Qi (fun r (_ : Unit) => r = res.1) (fun _ => mm_B D cs A L K N z w res.2 P) A) 0 0 A := by
  refine Met.ofW (cc := cX10_area) (maxL := 7) (ret := (some .int)) (by decide) rfl ?_
  intro p e s m args below meth c s₁ B hml hv
  obtain ⟨rfl, hBm⟩ := hv
  have hx := B.exec
  have hb := B.bytes
  have hr := B.returns
  have hts := atoms_spec (ws := wz_X10_area) B.pre
  have hWA : ∀ w ∈ WA, w.before ([.ref a0, .int x1] : List Value).toArray s = true := fun u9 h9 => hts u9 (List.mem_cons_of_mem _ h9)
  have hown : s.vm.findClass RX10 = some m.cls := findClass_of_methodNamed B.named
  have hlocks := B.notSynchronized
  have S : CallFix p m c cX10_area 7 s ([.ref a0, .int x1] : List Value).toArray wz_X10_area RX10 := ⟨hx, hb, hml, hown, hts⟩
  have hK := hBm.2.2.2.1
  have hZ := hBm.2.2.2.2
  have hM : mm_W D cs A L K N s.heap I P s.heap [] := ⟨hBm.1, hBm.2.1, hBm.2.2.1, va_S.rf⟩
  have hl := lv_entry ([.ref a0, .int x1]) (n := 7) (Nat.le_of_ble_eq_true rfl)
  rw [lg_entry_eq]
  generalize (lg_sl ([.ref a0, .int x1]) ++ List.replicate (7 - (lg_sl ([.ref a0, .int x1])).length) Slot.unset).toArray = ls at hl ⊢
  have hl : lv_has ls 7 [(0, .ref a0), (1, .int x1)] := hl
  have hin10 : ∀ w ∈ wsX100, w ∈ wz_X10_area := fun w h => List.mem_cons_of_mem _ (wu_X10 w h)
  have lk31 : (Cond.fieldLink RX10 31 RX10 "look" "[I").before ([.ref a0, .int x1] : List Value).toArray s = true := hWA _ wa_4_160
  have lk25 : (Cond.fieldLink RX10 25 RX10 "open" "[I").before ([.ref a0, .int x1] : List Value).toArray s = true := hWA _ wa_4_158
  generalize hQ : MQ below (va_Qi (fun r (_ : Unit) => r = res.1) (fun _ => mm_B D cs A L K N z w res.2 P) A) ([.ref a0, .int x1] : List Value).toArray s 0 0 A = QQ
  rw [fn_X10_area] at hf
  refine lv_aload_n hx hb dX10_area_0 rfl (lv_at hl 0 rfl) ?_
  refine gd_e hf (fun hg1 hf => ?_)
  refine bd_e hf (fun q2 eq2 hf => ?_)
  refine ev_getP (v := q2) S hK hM (ci := 10) (n := 23) (C := RX10) (T := TX10) hin10 rfl hg1 19 (by decide) lk31 rfl rfl eq2 rfl dX10_area_1 ?_
  refine lv_iload_n hx hb dX10_area_4 rfl (lv_at hl 1 rfl) ?_
  refine gd_e hf (fun hg3 hf => ?_)
  refine ev_iald S hK hM hg3 (j := x1.toNatClampNeg) rfl dX10_area_5 ?_
  refine lv_topi (fun v4 ev4 => ?_)
  have hf := nm_x ev4 hf
  refine lv_istore_n (lv' := [(2, .int v4), (0, .ref a0), (1, .int x1)]) hx hb dX10_area_6 rfl hl (by decide) rfl (fun ls hl => ?_)
  refine lv_aload_n hx hb dX10_area_7 rfl (lv_at hl 1 rfl) ?_
  refine bd_e hf (fun q5 eq5 hf => ?_)
  refine ev_getP (v := q5) S hK hM (ci := 10) (n := 23) (C := RX10) (T := TX10) hin10 rfl hg1 17 (by decide) lk25 rfl rfl eq5 rfl dX10_area_8 ?_
  refine lv_iconst (v := (0 : Int32)) hx hb dX10_area_11 (by decide) ?_
  refine lv_iload_n hx hb dX10_area_12 rfl (lv_at hl 2 rfl) ?_
  refine gd_e hf (fun hg6 hf => ?_)
  refine ev_iast S hK hM hg6 (j := 0) rfl dX10_area_13 (fun I7 eI7 H locs hM => ?_)
  have hf := nm_x eI7 hf
  refine lv_aload_n hx hb dX10_area_14 rfl (lv_at hl 1 rfl) ?_
  refine ev_getP (v := q2) S hK hM (ci := 10) (n := 23) (C := RX10) (T := TX10) hin10 rfl hg1 19 (by decide) lk31 rfl rfl eq2 rfl dX10_area_15 ?_
  refine lv_iload_n hx hb dX10_area_18 rfl (lv_at hl 2 rfl) ?_
  refine lv_iconst (v := (-1 : Int32)) hx hb dX10_area_19 (by decide) ?_
  refine ev_iast S hK hM hg3 (j := x1.toNatClampNeg) rfl dX10_area_20 (fun I8 eI8 H locs hM => ?_)
  have hf := nm_x eI8 hf
  refine lv_iconst (v := (1 : Int32)) hx hb dX10_area_21 (by decide) ?_
  refine lv_istore_n (lv' := [(3, .int (1 : Int32)), (2, .int v4), (0, .ref a0), (1, .int x1)]) hx hb dX10_area_22 rfl hl (by decide) rfl (fun ls hl => ?_)
  refine lv_iconst (v := (0 : Int32)) hx hb dX10_area_23 (by decide) ?_
  refine lv_istore (lv' := [(4, .int (0 : Int32)), (3, .int (1 : Int32)), (2, .int v4), (0, .ref a0), (1, .int x1)]) hx hb dX10_area_24 hl (by decide) rfl (fun ls hl => ?_)
  have lp26_26 : ∀ (n : Nat) (v9 : Int32) (v10 : Int32) (I11 : Nat → Nat → Int32) (H : Heap) (locs : List Loc) (ls : Array Slot) (r12 : Int32 × (Nat → Nat → Int32)), mm_W D cs A L K N s.heap I11 P H locs → lv_has ls 7 [(0, .ref a0), (2, .int v4), (3, .int v9), (4, .int v10)] → fn_X10_area_L26 K N q2 v4 q5 n v9 v10 I11 = some r12 → (∀ (H : Heap) (locs : List Loc) (ls : Array Slot), mm_W D cs A L K N s.heap r12.2 P H locs → lv_has ls 7 [(3, .int r12.1)] → W p l e (headSpec wz_X10_area rm_X10_area).room s m ([.ref a0, .int x1] : List Value).toArray below meth c H locs 0 0 QQ (F0 m 105 ls [])) → W p l e (headSpec wz_X10_area rm_X10_area).room s m ([.ref a0, .int x1] : List Value).toArray below meth c H locs 0 0 QQ (F0 m 26 ls []) := by
    intro n
    induction n with
    | zero => intro v9 v10 I11 H locs ls r12 hM hl hf kk; exact nn_x (show (none : Option (Int32 × (Nat → Nat → Int32))) = some r12 from hf)
    | succ n ih =>
      intro v9 v10 I11 H locs ls r12 hM hl hf kk
      rw [fn_X10_area_L26] at hf
      refine lv_iload hx hb dX10_area_26 (lv_at hl 3 rfl) ?_
      refine lv_iload_n hx hb dX10_area_28 rfl (lv_at hl 2 rfl) ?_
      refine lv_icmp_ge (tgt := 105) hx hb dX10_area_29 (by decide) (fun hc13 => ?_) (fun hc13 => ?_)
      · have hf := it_p hf hc13
        obtain rfl := Option.some.inj hf
        exact kk _ _ _ hM (lv_sub hl [2] rfl)
      · have hf := it_n hf hc13
        refine lv_iconst (v := (0 : Int32)) hx hb dX10_area_32 (by decide) ?_
        refine lv_istore (lv' := [(5, .int (0 : Int32)), (0, .ref a0), (2, .int v4), (3, .int v9), (4, .int v10)]) hx hb dX10_area_33 hl (by decide) rfl (fun ls hl => ?_)
        have lp35_26 : ∀ (n : Nat) (v14 : Int32) (v15 : Int32) (I16 : Nat → Nat → Int32) (H : Heap) (locs : List Loc) (ls : Array Slot) (r17 : Int32 × (Nat → Nat → Int32)), mm_W D cs A L K N s.heap I16 P H locs → lv_has ls 7 [(0, .ref a0), (2, .int v4), (3, .int v14), (4, .int v10), (5, .int v15)] → fn_X10_area_L35 K N q2 v4 q5 v10 n v14 v15 I16 = some r17 → (∀ (H : Heap) (locs : List Loc) (ls : Array Slot), mm_W D cs A L K N s.heap r17.2 P H locs → lv_has ls 7 [(0, .ref a0), (2, .int v4), (3, .int r17.1), (4, .int v10)] → W p l e (headSpec wz_X10_area rm_X10_area).room s m ([.ref a0, .int x1] : List Value).toArray below meth c H locs 0 0 QQ (F0 m 99 ls [])) → W p l e (headSpec wz_X10_area rm_X10_area).room s m ([.ref a0, .int x1] : List Value).toArray below meth c H locs 0 0 QQ (F0 m 35 ls []) := by
          intro n
          induction n with
          | zero => intro v14 v15 I16 H locs ls r17 hM hl hf kk; exact nn_x (show (none : Option (Int32 × (Nat → Nat → Int32))) = some r17 from hf)
          | succ n ih =>
            intro v14 v15 I16 H locs ls r17 hM hl hf kk
            rw [fn_X10_area_L35] at hf
            refine lv_iload hx hb dX10_area_35 (lv_at hl 4 rfl) ?_
            refine lv_iconst (v := (4 : Int32)) hx hb dX10_area_37 (by decide) ?_
            refine lv_icmp_ge (tgt := 99) hx hb dX10_area_38 (by decide) (fun hc18 => ?_) (fun hc18 => ?_)
            · have hf := it_p hf hc18
              obtain rfl := Option.some.inj hf
              exact kk _ _ _ hM (lv_sub hl [0, 1, 2, 3] rfl)
            · have hf := it_n hf hc18
              refine lv_aload_n hx hb dX10_area_41 rfl (lv_at hl 0 rfl) ?_
              refine ev_getP (v := q5) S hK hM (ci := 10) (n := 23) (C := RX10) (T := TX10) hin10 rfl hg1 17 (by decide) lk25 rfl rfl eq5 rfl dX10_area_42 ?_
              refine lv_iload hx hb dX10_area_45 (lv_at hl 3 rfl) ?_
              refine gd_e hf (fun hg19 hf => ?_)
              refine ev_iald S hK hM hg19 (j := v10.toNatClampNeg) rfl dX10_area_47 ?_
              refine lv_iload hx hb dX10_area_48 (lv_at hl 4 rfl) ?_
              refine bd_e hf (fun r20 er20 hf => ?_)
              refine ev_calli (va_runS (As := [.int (I16 q5 (v10.toNatClampNeg)), .int v15]) (rest := []) S (c_X10_beside (l := l) I16 P (I16 q5 (v10.toNatClampNeg)) v15 r20 er20) (va_cwS 2 hts (gi_s wa_5_178 wa_5_179 wa_1_11 wa_5_180) rfl rfl rfl (by decide +kernel) ⟨Nat.le_of_ble_eq_true rfl, Nat.le_of_ble_eq_true rfl⟩) ⟨mm_B_blind, fun U hU hW => ⟨rfl, mm_B_of hK hZ hM hU hW⟩⟩ rfl rfl hl.1 rfl (lv_room (Nat.le_of_ble_eq_true rfl)) dX10_area_50 ⟨Nat.zero_le _, Nat.zero_le _⟩) hM (fun H locs hM => ?_)
              refine lv_istore (lv' := [(6, .int r20), (0, .ref a0), (2, .int v4), (3, .int v14), (4, .int v10), (5, .int v15)]) hx hb dX10_area_53 hl (by decide) rfl (fun ls hl => ?_)
              refine lv_iload hx hb dX10_area_55 (lv_at hl 0 rfl) ?_
              refine lv_if_lt (tgt := 93) hx hb dX10_area_57 (by decide) (fun hc21 => ?_) (fun hc21 => ?_)
              · have hf := it_p hf hc21
                refine lv_iinc (v := (v15 + (1 : Int32))) (lv' := [(5, .int (v15 + (1 : Int32))), (6, .int r20), (0, .ref a0), (2, .int v4), (3, .int v14), (4, .int v10)]) hx hb dX10_area_93 hl (k := 5) rfl rfl (by decide) rfl (fun ls hl => ?_)
                refine lv_goto (tgt := 35) hx hb dX10_area_96 (by decide) ?_
                exact ih v14 (v15 + (1 : Int32)) I16 _ _ _ _ hM (lv_sub hl [2, 3, 4, 5, 0] rfl) hf kk
              · have hf := it_n hf hc21
                refine lv_aload_n hx hb dX10_area_60 rfl (lv_at hl 1 rfl) ?_
                refine ev_getP (v := q2) S hK hM (ci := 10) (n := 23) (C := RX10) (T := TX10) hin10 rfl hg1 19 (by decide) lk31 rfl rfl eq2 rfl dX10_area_61 ?_
                refine lv_iload hx hb dX10_area_64 (lv_at hl 0 rfl) ?_
                refine gd_e hf (fun hg22 hf => ?_)
                refine ev_iald S hK hM hg22 (j := r20.toNatClampNeg) rfl dX10_area_66 ?_
                refine lv_iload_n hx hb dX10_area_67 rfl (lv_at hl 2 rfl) ?_
                refine lv_icmp_eq (tgt := 74) hx hb dX10_area_68 (by decide) (fun hc23 => ?_) (fun hc23 => ?_)
                · have hf := it_p hf hc23
                  refine lv_aload_n hx hb dX10_area_74 rfl (lv_at hl 1 rfl) ?_
                  refine ev_getP (v := q2) S hK hM (ci := 10) (n := 23) (C := RX10) (T := TX10) hin10 rfl hg1 19 (by decide) lk31 rfl rfl eq2 rfl dX10_area_75 ?_
                  refine lv_iload hx hb dX10_area_78 (lv_at hl 0 rfl) ?_
                  refine lv_iconst (v := (-1 : Int32)) hx hb dX10_area_80 (by decide) ?_
                  refine ev_iast S hK hM hg22 (j := r20.toNatClampNeg) rfl dX10_area_81 (fun I24 eI24 H locs hM => ?_)
                  have hf := nm_x eI24 hf
                  refine lv_aload_n hx hb dX10_area_82 rfl (lv_at hl 1 rfl) ?_
                  refine ev_getP (v := q5) S hK hM (ci := 10) (n := 23) (C := RX10) (T := TX10) hin10 rfl hg1 17 (by decide) lk25 rfl rfl eq5 rfl dX10_area_83 ?_
                  refine lv_iload_n hx hb dX10_area_86 rfl (lv_at hl 3 rfl) ?_
                  refine lv_iload hx hb dX10_area_87 (lv_at hl 0 rfl) ?_
                  refine gd_e hf (fun hg25 hf => ?_)
                  refine ev_iast S hK hM hg25 (j := v14.toNatClampNeg) rfl dX10_area_89 (fun I26 eI26 H locs hM => ?_)
                  have hf := nm_x eI26 hf
                  refine lv_iinc (v := (v14 + (1 : Int32))) (lv' := [(3, .int (v14 + (1 : Int32))), (6, .int r20), (0, .ref a0), (2, .int v4), (4, .int v10), (5, .int v15)]) hx hb dX10_area_90 hl (k := 3) rfl rfl (by decide) rfl (fun ls hl => ?_)
                  refine lv_iinc (v := (v15 + (1 : Int32))) (lv' := [(5, .int (v15 + (1 : Int32))), (3, .int (v14 + (1 : Int32))), (6, .int r20), (0, .ref a0), (2, .int v4), (4, .int v10)]) hx hb dX10_area_93 hl (k := 5) rfl rfl (by decide) rfl (fun ls hl => ?_)
                  refine lv_goto (tgt := 35) hx hb dX10_area_96 (by decide) ?_
                  exact ih (v14 + (1 : Int32)) (v15 + (1 : Int32)) I26 _ _ _ _ hM (lv_sub hl [3, 4, 1, 5, 0] rfl) hf kk
                · have hf := it_n hf hc23
                  refine lv_goto (tgt := 93) hx hb dX10_area_71 (by decide) ?_
                  refine lv_iinc (v := (v15 + (1 : Int32))) (lv' := [(5, .int (v15 + (1 : Int32))), (6, .int r20), (0, .ref a0), (2, .int v4), (3, .int v14), (4, .int v10)]) hx hb dX10_area_93 hl (k := 5) rfl rfl (by decide) rfl (fun ls hl => ?_)
                  refine lv_goto (tgt := 35) hx hb dX10_area_96 (by decide) ?_
                  exact ih v14 (v15 + (1 : Int32)) I16 _ _ _ _ hM (lv_sub hl [2, 3, 4, 5, 0] rfl) hf kk
        refine bd_e hf (fun r17 er17 hf => ?_)
        refine lp35_26 FU v9 (0 : Int32) I11 _ _ _ r17 hM (lv_sub hl [1, 2, 3, 4, 0] rfl) er17 (fun H locs ls hM hl => ?_)
        refine lv_iinc (v := (v10 + (1 : Int32))) (lv' := [(4, .int (v10 + (1 : Int32))), (0, .ref a0), (2, .int v4), (3, .int r17.1)]) hx hb dX10_area_99 hl (k := 3) rfl rfl (by decide) rfl (fun ls hl => ?_)
        refine lv_goto (tgt := 26) hx hb dX10_area_102 (by decide) ?_
        exact ih r17.1 (v10 + (1 : Int32)) r17.2 _ _ _ _ hM (lv_sub hl [1, 2, 3, 0] rfl) hf kk
  refine bd_e hf (fun r12 er12 hf => ?_)
  refine lp26_26 FU (1 : Int32) (0 : Int32) I8 _ _ _ r12 hM (lv_sub hl [3, 2, 1, 0] rfl) er12 (fun H locs ls hM hl => ?_)
  refine lv_iload_n hx hb dX10_area_105 rfl (lv_at hl 0 rfl) ?_
  obtain rfl := Option.some.inj hf
  subst hQ
  exact ev_iret S hr hlocks hK hZ hM dX10_area_106
noncomputable def fn_X10_areas_L14 (K : Nat → Nat) (N : Nat → Nat) (a0 : Nat) (P : Nat → Nat → Option Nat) : Nat → Int32 → (Nat → Nat → Int32) → Option ((Nat → Nat → Int32))
  | 0, _, _ => none
  | n + 1, v3, I4 => if (192 : Int32) ≤ v3 then (some I4) else (gd (K a0 = 11) (Option.bind (P a0 (19)) (fun q8 => Option.bind (fn_X10_seen_ K N I4 P a0 v3) (fun (r9 : Int32) => gd (K q8 = 12 ∧ vp_in v3 (N q8)) (Option.bind (some (up2 I4 q8 (v3.toNatClampNeg) r9)) (fun I11 => fn_X10_areas_L14 K N a0 P n (v3 + (1 : Int32)) I11))))))
noncomputable def fn_X10_areas_L48 (K : Nat → Nat) (N : Nat → Nat) (a0 : Nat) (P : Nat → Nat → Option Nat) : Nat → Int32 → Int32 → Int32 → Int32 → (Nat → Nat → Int32) → Option (Int32 × Int32 × Int32 × (Nat → Nat → Int32))
  | 0, _, _, _, _, _ => none
  | n + 1, v12, v13, v14, v15, I16 => if (192 : Int32) ≤ v15 then (some (v12, v13, v14, I16)) else (gd (K a0 = 11) (Option.bind (P a0 (19)) (fun q20 => gd (K q20 = 12 ∧ vp_in v15 (N q20)) (if (I16 q20 (v15.toNatClampNeg)) = (-1 : Int32) then (fn_X10_areas_L48 K N a0 P n v12 v13 v14 (v15 + (1 : Int32)) I16) else (Option.bind (some (I16 q20 (v15.toNatClampNeg))) (fun v23 => Option.bind (fn_X10_area K N I16 P a0 v15) (fun (r24 : Int32 × (Nat → Nat → Int32)) => Option.bind (if r24.1 ≤ v13 then (some v14) else (some v23)) (fun (j26 : Int32) => Option.bind (some (if v13 < r24.1 then r24.1 else v13)) (fun v27 => fn_X10_areas_L48 K N a0 P n (v12 + (1 : Int32)) v27 j26 (v15 + (1 : Int32)) r24.2)))))))))
noncomputable def fn_X10_areas (K N : Nat → Nat) (I : Nat → Nat → Int32) (P : Nat → Nat → Option Nat) (a0 : Nat) (x1 : Int32) : Option (Int32 × (Nat → Nat → Int32)) := Option.bind (fn_X10_isIn x1 (0 : Int32) (2 : Int32)) (fun (r1 : Int32) => if r1 = 0 then (some ((-2 : Int32), I)) else (Option.bind (fn_X10_areas_L14 K N a0 P FU (0 : Int32) I) (fun (r5 : (Nat → Nat → Int32)) => Option.bind (fn_X10_areas_L48 K N a0 P FU (0 : Int32) (0 : Int32) (0 : Int32) (0 : Int32) r5) (fun (r17 : Int32 × Int32 × Int32 × (Nat → Nat → Int32)) => if x1 = 0 then (some (r17.1, r17.2.2.2)) else (if x1 = (1 : Int32) then (some (r17.2.1, r17.2.2.2)) else (some (r17.2.2.1, r17.2.2.2)))))))
abbrev wz_X10_areas : List Cond := Cond.code yX10_areas cX10_areas 8 (some .int) :: WA
abbrev rm_X10_areas : Room := { frames := 5, cells := 0, slots := 0, locals := 104 }
set_option maxHeartbeats 4000000 in
set_option maxRecDepth 100000 in
theorem c_X10_areas (I : Nat → Nat → Int32) (P : Nat → Nat → Option Nat) (a0 : Nat) (x1 : Int32) (res : Int32 × (Nat → Nat → Int32)) (hf : fn_X10_areas K N I P a0 x1 = some res) : Met l yX10_areas wz_X10_areas rm_X10_areas (va_Pc [.ref a0, .int x1] (mm_B D cs A L K N z w I P)) (va_Qi (fun r (_ : Unit) => r = res.1) (fun _ => mm_B D cs A L K N z w res.2 P) A) 0 0 A := by
  refine Met.ofW (cc := cX10_areas) (maxL := 8) (ret := (some .int)) (by decide) rfl ?_
  intro p e s m args below meth c s₁ B hml hv
  obtain ⟨rfl, hBm⟩ := hv
  have hx := B.exec
  have hb := B.bytes
  have hr := B.returns
  have hts := atoms_spec (ws := wz_X10_areas) B.pre
  have hWA : ∀ w ∈ WA, w.before ([.ref a0, .int x1] : List Value).toArray s = true := fun u9 h9 => hts u9 (List.mem_cons_of_mem _ h9)
  have hown : s.vm.findClass RX10 = some m.cls := findClass_of_methodNamed B.named
  have hlocks := B.notSynchronized
  have S : CallFix p m c cX10_areas 8 s ([.ref a0, .int x1] : List Value).toArray wz_X10_areas RX10 := ⟨hx, hb, hml, hown, hts⟩
  have hK := hBm.2.2.2.1
  have hZ := hBm.2.2.2.2
  have hM : mm_W D cs A L K N s.heap I P s.heap [] := ⟨hBm.1, hBm.2.1, hBm.2.2.1, va_S.rf⟩
  have hl := lv_entry ([.ref a0, .int x1]) (n := 8) (Nat.le_of_ble_eq_true rfl)
  rw [lg_entry_eq]
  generalize (lg_sl ([.ref a0, .int x1]) ++ List.replicate (8 - (lg_sl ([.ref a0, .int x1])).length) Slot.unset).toArray = ls at hl ⊢
  have hl : lv_has ls 8 [(0, .ref a0), (1, .int x1)] := hl
  have hin10 : ∀ w ∈ wsX100, w ∈ wz_X10_areas := fun w h => List.mem_cons_of_mem _ (wu_X10 w h)
  have lk31 : (Cond.fieldLink RX10 31 RX10 "look" "[I").before ([.ref a0, .int x1] : List Value).toArray s = true := hWA _ wa_4_160
  generalize hQ : MQ below (va_Qi (fun r (_ : Unit) => r = res.1) (fun _ => mm_B D cs A L K N z w res.2 P) A) ([.ref a0, .int x1] : List Value).toArray s 0 0 A = QQ
  rw [fn_X10_areas] at hf
  refine lv_iload_n hx hb dX10_areas_0 rfl (lv_at hl 1 rfl) ?_
  refine lv_iconst (v := (0 : Int32)) hx hb dX10_areas_1 (by decide) ?_
  refine lv_iconst (v := (2 : Int32)) hx hb dX10_areas_2 (by decide) ?_
  refine bd_e hf (fun r1 er1 hf => ?_)
  refine ev_calli (va_runS (As := [.int x1, .int (0 : Int32), .int (2 : Int32)]) (rest := []) S (c_X10_isIn (l := l) I P x1 (0 : Int32) (2 : Int32) r1 er1) (va_cwS 3 hts (gi_s wa_4_218 wa_4_219 wa_1_11 wa_4_220) rfl rfl rfl (by decide +kernel) ⟨Nat.le_of_ble_eq_true rfl, Nat.le_of_ble_eq_true rfl⟩) ⟨mm_B_blind, fun U hU hW => ⟨rfl, mm_B_of hK hZ hM hU hW⟩⟩ rfl rfl hl.1 rfl (lv_room (Nat.le_of_ble_eq_true rfl)) dX10_areas_3 ⟨Nat.zero_le _, Nat.zero_le _⟩) hM (fun H locs hM => ?_)
  refine lv_if_ne (tgt := 12) hx hb dX10_areas_6 (by decide) (fun hc2 => ?_) (fun hc2 => ?_)
  · have hf := it_n hf hc2
    refine lv_iconst (v := (0 : Int32)) hx hb dX10_areas_12 (by decide) ?_
    refine lv_istore_n (lv' := [(2, .int (0 : Int32)), (0, .ref a0), (1, .int x1)]) hx hb dX10_areas_13 rfl hl (by decide) rfl (fun ls hl => ?_)
    have lp14_11 : ∀ (n : Nat) (v3 : Int32) (I4 : Nat → Nat → Int32) (H : Heap) (locs : List Loc) (ls : Array Slot) (r5 : (Nat → Nat → Int32)), mm_W D cs A L K N s.heap I4 P H locs → lv_has ls 8 [(0, .ref a0), (1, .int x1), (2, .int v3)] → fn_X10_areas_L14 K N a0 P n v3 I4 = some r5 → (∀ (H : Heap) (locs : List Loc) (ls : Array Slot), mm_W D cs A L K N s.heap r5 P H locs → lv_has ls 8 [(0, .ref a0), (1, .int x1)] → W p l e (headSpec wz_X10_areas rm_X10_areas).room s m ([.ref a0, .int x1] : List Value).toArray below meth c H locs 0 0 QQ (F0 m 38 ls [])) → W p l e (headSpec wz_X10_areas rm_X10_areas).room s m ([.ref a0, .int x1] : List Value).toArray below meth c H locs 0 0 QQ (F0 m 14 ls []) := by
      intro n
      induction n with
      | zero => intro v3 I4 H locs ls r5 hM hl hf kk; exact nn_x (show (none : Option ((Nat → Nat → Int32))) = some r5 from hf)
      | succ n ih =>
        intro v3 I4 H locs ls r5 hM hl hf kk
        rw [fn_X10_areas_L14] at hf
        refine lv_iload_n hx hb dX10_areas_14 rfl (lv_at hl 2 rfl) ?_
        refine lv_sipush (v := (192 : Int32)) hx hb dX10_areas_15 (by decide) ?_
        refine lv_icmp_ge (tgt := 38) hx hb dX10_areas_18 (by decide) (fun hc6 => ?_) (fun hc6 => ?_)
        · have hf := it_p hf hc6
          obtain rfl := Option.some.inj hf
          exact kk _ _ _ hM (lv_sub hl [0, 1] rfl)
        · have hf := it_n hf hc6
          refine lv_aload_n hx hb dX10_areas_21 rfl (lv_at hl 0 rfl) ?_
          refine gd_e hf (fun hg7 hf => ?_)
          refine bd_e hf (fun q8 eq8 hf => ?_)
          refine ev_getP (v := q8) S hK hM (ci := 10) (n := 23) (C := RX10) (T := TX10) hin10 rfl hg7 19 (by decide) lk31 rfl rfl eq8 rfl dX10_areas_22 ?_
          refine lv_iload_n hx hb dX10_areas_25 rfl (lv_at hl 2 rfl) ?_
          refine lv_aload_n hx hb dX10_areas_26 rfl (lv_at hl 0 rfl) ?_
          refine lv_iload_n hx hb dX10_areas_27 rfl (lv_at hl 2 rfl) ?_
          refine bd_e hf (fun r9 er9 hf => ?_)
          refine ev_calli (va_runV (As := [.int v3]) (rest := [.int v3, .ref q8]) S (c_X10_seen_ (l := l) I4 P a0 v3 r9 er9) (cwV 1 hts (gi_v wa_5_46 wa_5_48 wa_s_32 wa_1_11 wa_5_49) rfl rfl rfl (by decide +kernel) ⟨Nat.le_of_ble_eq_true rfl, Nat.le_of_ble_eq_true rfl⟩) ⟨mm_B_blind, ev_recv hK hM (ci := 10) rfl hg7 rfl, fun U hU hW => ⟨rfl, mm_B_of hK hZ hM hU hW⟩⟩ rfl rfl hl.1 rfl (lv_room (Nat.le_of_ble_eq_true rfl)) dX10_areas_28 ⟨Nat.zero_le _, Nat.zero_le _⟩) hM (fun H locs hM => ?_)
          refine gd_e hf (fun hg10 hf => ?_)
          refine ev_iast S hK hM hg10 (j := v3.toNatClampNeg) rfl dX10_areas_31 (fun I11 eI11 H locs hM => ?_)
          have hf := nm_x eI11 hf
          refine lv_iinc (v := (v3 + (1 : Int32))) (lv' := [(2, .int (v3 + (1 : Int32))), (0, .ref a0), (1, .int x1)]) hx hb dX10_areas_32 hl (k := 2) rfl rfl (by decide) rfl (fun ls hl => ?_)
          refine lv_goto (tgt := 14) hx hb dX10_areas_35 (by decide) ?_
          exact ih (v3 + (1 : Int32)) I11 _ _ _ _ hM (lv_sub hl [1, 2, 0] rfl) hf kk
    refine bd_e hf (fun r5 er5 hf => ?_)
    refine lp14_11 FU (0 : Int32) I _ _ _ r5 hM (lv_sub hl [1, 2, 0] rfl) er5 (fun H locs ls hM hl => ?_)
    refine lv_iconst (v := (0 : Int32)) hx hb dX10_areas_38 (by decide) ?_
    refine lv_istore_n (lv' := [(2, .int (0 : Int32)), (0, .ref a0), (1, .int x1)]) hx hb dX10_areas_39 rfl hl (by decide) rfl (fun ls hl => ?_)
    refine lv_iconst (v := (0 : Int32)) hx hb dX10_areas_40 (by decide) ?_
    refine lv_istore_n (lv' := [(3, .int (0 : Int32)), (2, .int (0 : Int32)), (0, .ref a0), (1, .int x1)]) hx hb dX10_areas_41 rfl hl (by decide) rfl (fun ls hl => ?_)
    refine lv_iconst (v := (0 : Int32)) hx hb dX10_areas_42 (by decide) ?_
    refine lv_istore (lv' := [(4, .int (0 : Int32)), (3, .int (0 : Int32)), (2, .int (0 : Int32)), (0, .ref a0), (1, .int x1)]) hx hb dX10_areas_43 hl (by decide) rfl (fun ls hl => ?_)
    refine lv_iconst (v := (0 : Int32)) hx hb dX10_areas_45 (by decide) ?_
    refine lv_istore (lv' := [(5, .int (0 : Int32)), (4, .int (0 : Int32)), (3, .int (0 : Int32)), (2, .int (0 : Int32)), (0, .ref a0), (1, .int x1)]) hx hb dX10_areas_46 hl (by decide) rfl (fun ls hl => ?_)
    have lp48_27 : ∀ (n : Nat) (v12 : Int32) (v13 : Int32) (v14 : Int32) (v15 : Int32) (I16 : Nat → Nat → Int32) (H : Heap) (locs : List Loc) (ls : Array Slot) (r17 : Int32 × Int32 × Int32 × (Nat → Nat → Int32)), mm_W D cs A L K N s.heap I16 P H locs → lv_has ls 8 [(0, .ref a0), (1, .int x1), (2, .int v12), (3, .int v13), (4, .int v14), (5, .int v15)] → fn_X10_areas_L48 K N a0 P n v12 v13 v14 v15 I16 = some r17 → (∀ (H : Heap) (locs : List Loc) (ls : Array Slot), mm_W D cs A L K N s.heap r17.2.2.2 P H locs → lv_has ls 8 [(1, .int x1), (2, .int r17.1), (3, .int r17.2.1), (4, .int r17.2.2.1)] → W p l e (headSpec wz_X10_areas rm_X10_areas).room s m ([.ref a0, .int x1] : List Value).toArray below meth c H locs 0 0 QQ (F0 m 118 ls [])) → W p l e (headSpec wz_X10_areas rm_X10_areas).room s m ([.ref a0, .int x1] : List Value).toArray below meth c H locs 0 0 QQ (F0 m 48 ls []) := by
      intro n
      induction n with
      | zero => intro v12 v13 v14 v15 I16 H locs ls r17 hM hl hf kk; exact nn_x (show (none : Option (Int32 × Int32 × Int32 × (Nat → Nat → Int32))) = some r17 from hf)
      | succ n ih =>
        intro v12 v13 v14 v15 I16 H locs ls r17 hM hl hf kk
        rw [fn_X10_areas_L48] at hf
        refine lv_iload hx hb dX10_areas_48 (lv_at hl 5 rfl) ?_
        refine lv_sipush (v := (192 : Int32)) hx hb dX10_areas_50 (by decide) ?_
        refine lv_icmp_ge (tgt := 118) hx hb dX10_areas_53 (by decide) (fun hc18 => ?_) (fun hc18 => ?_)
        · have hf := it_p hf hc18
          obtain rfl := Option.some.inj hf
          exact kk _ _ _ hM (lv_sub hl [1, 2, 3, 4] rfl)
        · have hf := it_n hf hc18
          refine lv_aload_n hx hb dX10_areas_56 rfl (lv_at hl 0 rfl) ?_
          refine gd_e hf (fun hg19 hf => ?_)
          refine bd_e hf (fun q20 eq20 hf => ?_)
          refine ev_getP (v := q20) S hK hM (ci := 10) (n := 23) (C := RX10) (T := TX10) hin10 rfl hg19 19 (by decide) lk31 rfl rfl eq20 rfl dX10_areas_57 ?_
          refine lv_iload hx hb dX10_areas_60 (lv_at hl 5 rfl) ?_
          refine gd_e hf (fun hg21 hf => ?_)
          refine ev_iald S hK hM hg21 (j := v15.toNatClampNeg) rfl dX10_areas_62 ?_
          refine lv_iconst (v := (-1 : Int32)) hx hb dX10_areas_63 (by decide) ?_
          refine lv_icmp_ne (tgt := 70) hx hb dX10_areas_64 (by decide) (fun hc22 => ?_) (fun hc22 => ?_)
          · have hf := it_n hf hc22
            refine lv_aload_n hx hb dX10_areas_70 rfl (lv_at hl 0 rfl) ?_
            refine ev_getP (v := q20) S hK hM (ci := 10) (n := 23) (C := RX10) (T := TX10) hin10 rfl hg19 19 (by decide) lk31 rfl rfl eq20 rfl dX10_areas_71 ?_
            refine lv_iload hx hb dX10_areas_74 (lv_at hl 5 rfl) ?_
            refine ev_iald S hK hM hg21 (j := v15.toNatClampNeg) rfl dX10_areas_76 ?_
            refine lv_topi (fun v23 ev23 => ?_)
            have hf := nm_x ev23 hf
            refine lv_istore (lv' := [(6, .int v23), (0, .ref a0), (1, .int x1), (2, .int v12), (3, .int v13), (4, .int v14), (5, .int v15)]) hx hb dX10_areas_77 hl (by decide) rfl (fun ls hl => ?_)
            refine lv_aload_n hx hb dX10_areas_79 rfl (lv_at hl 1 rfl) ?_
            refine lv_iload hx hb dX10_areas_80 (lv_at hl 6 rfl) ?_
            refine bd_e hf (fun r24 er24 hf => ?_)
            refine ev_calli (va_runV (As := [.int v15]) (rest := []) S (c_X10_area (l := l) I16 P a0 v15 r24 er24) (cwV 1 hts (gi_v wa_5_227 wa_5_229 wa_s_59 wa_1_11 wa_5_230) rfl rfl rfl (by decide +kernel) ⟨Nat.le_of_ble_eq_true rfl, Nat.le_of_ble_eq_true rfl⟩) ⟨mm_B_blind, ev_recv hK hM (ci := 10) rfl hg19 rfl, fun U hU hW => ⟨rfl, mm_B_of hK hZ hM hU hW⟩⟩ rfl rfl hl.1 rfl (lv_room (Nat.le_of_ble_eq_true rfl)) dX10_areas_82 ⟨Nat.zero_le _, Nat.zero_le _⟩) hM (fun H locs hM => ?_)
            refine lv_istore (lv' := [(7, .int r24.1), (6, .int v23), (0, .ref a0), (1, .int x1), (2, .int v12), (3, .int v13), (4, .int v14), (5, .int v15)]) hx hb dX10_areas_85 hl (by decide) rfl (fun ls hl => ?_)
            refine lv_iload hx hb dX10_areas_87 (lv_at hl 0 rfl) ?_
            refine lv_iload_n hx hb dX10_areas_89 rfl (lv_at hl 5 rfl) ?_
            refine bd_e hf (fun j26 ej26 hf => ?_)
            have kj26 : ∀ (H : Heap) (locs : List Loc) (ls : Array Slot), mm_W D cs A L K N s.heap r24.2 P H locs → lv_has ls 8 [(0, .ref a0), (1, .int x1), (2, .int v12), (3, .int v13), (5, .int v15), (7, .int r24.1)] → W p l e (headSpec wz_X10_areas rm_X10_areas).room s m ([.ref a0, .int x1] : List Value).toArray below meth c H locs 0 0 QQ (F0 m 100 ls [.int j26]) := by
              intro H locs ls hM hl
              refine lv_istore (lv' := [(4, .int j26), (0, .ref a0), (1, .int x1), (2, .int v12), (3, .int v13), (5, .int v15), (7, .int r24.1)]) hx hb dX10_areas_100 hl (by decide) rfl (fun ls hl => ?_)
              refine lv_iload_n hx hb dX10_areas_102 rfl (lv_at hl 4 rfl) ?_
              refine lv_iload hx hb dX10_areas_103 (lv_at hl 6 rfl) ?_
              refine va_mmax hx hb (hml.trans hl.1.symm) hown (hWA _ wa_5_34) (hWA _ wa_2_130) (hWA _ wa_1_13) (hWA _ wa_2_131) (Nat.le_of_ble_eq_true rfl) (Nat.le_of_ble_eq_true rfl) (Nat.zero_le _) (Nat.zero_le _) dX10_areas_105 ?_
              refine lv_topi (fun v27 ev27 => ?_)
              have hf := nm_x ev27 hf
              refine lv_istore_n (lv' := [(3, .int v27), (4, .int j26), (0, .ref a0), (1, .int x1), (2, .int v12), (5, .int v15), (7, .int r24.1)]) hx hb dX10_areas_108 rfl hl (by decide) rfl (fun ls hl => ?_)
              refine lv_iinc (v := (v12 + (1 : Int32))) (lv' := [(2, .int (v12 + (1 : Int32))), (3, .int v27), (4, .int j26), (0, .ref a0), (1, .int x1), (5, .int v15), (7, .int r24.1)]) hx hb dX10_areas_109 hl (k := 4) rfl rfl (by decide) rfl (fun ls hl => ?_)
              refine lv_iinc (v := (v15 + (1 : Int32))) (lv' := [(5, .int (v15 + (1 : Int32))), (2, .int (v12 + (1 : Int32))), (3, .int v27), (4, .int j26), (0, .ref a0), (1, .int x1), (7, .int r24.1)]) hx hb dX10_areas_112 hl (k := 5) rfl rfl (by decide) rfl (fun ls hl => ?_)
              refine lv_goto (tgt := 48) hx hb dX10_areas_115 (by decide) ?_
              exact ih (v12 + (1 : Int32)) v27 j26 (v15 + (1 : Int32)) r24.2 _ _ _ _ hM (lv_sub hl [4, 5, 1, 2, 3, 0] rfl) hf kk
            have hf := ej26
            refine lv_icmp_le (tgt := 98) hx hb dX10_areas_90 (by decide) (fun hc25 => ?_) (fun hc25 => ?_)
            · have hf := it_p hf hc25
              refine lv_iload hx hb dX10_areas_98 (lv_at hl 6 rfl) ?_
              obtain rfl := Option.some.inj hf
              exact kj26 _ _ _ hM (lv_sub hl [2, 3, 4, 5, 7, 0] rfl)
            · have hf := it_n hf hc25
              refine lv_iload hx hb dX10_areas_93 (lv_at hl 1 rfl) ?_
              refine lv_goto (tgt := 100) hx hb dX10_areas_95 (by decide) ?_
              obtain rfl := Option.some.inj hf
              exact kj26 _ _ _ hM (lv_sub hl [2, 3, 4, 5, 7, 0] rfl)
          · have hf := it_p hf hc22
            refine lv_goto (tgt := 112) hx hb dX10_areas_67 (by decide) ?_
            refine lv_iinc (v := (v15 + (1 : Int32))) (lv' := [(5, .int (v15 + (1 : Int32))), (0, .ref a0), (1, .int x1), (2, .int v12), (3, .int v13), (4, .int v14)]) hx hb dX10_areas_112 hl (k := 5) rfl rfl (by decide) rfl (fun ls hl => ?_)
            refine lv_goto (tgt := 48) hx hb dX10_areas_115 (by decide) ?_
            exact ih v12 v13 v14 (v15 + (1 : Int32)) I16 _ _ _ _ hM (lv_sub hl [1, 2, 3, 4, 5, 0] rfl) hf kk
    refine bd_e hf (fun r17 er17 hf => ?_)
    refine lp48_27 FU (0 : Int32) (0 : Int32) (0 : Int32) (0 : Int32) r5 _ _ _ r17 hM (lv_sub hl [4, 5, 3, 2, 1, 0] rfl) er17 (fun H locs ls hM hl => ?_)
    refine lv_iload_n hx hb dX10_areas_118 rfl (lv_at hl 0 rfl) ?_
    refine lv_if_ne (tgt := 126) hx hb dX10_areas_119 (by decide) (fun hc28 => ?_) (fun hc28 => ?_)
    · have hf := it_n hf hc28
      refine lv_iload_n hx hb dX10_areas_126 rfl (lv_at hl 0 rfl) ?_
      refine lv_iconst (v := (1 : Int32)) hx hb dX10_areas_127 (by decide) ?_
      refine lv_icmp_ne (tgt := 135) hx hb dX10_areas_128 (by decide) (fun hc29 => ?_) (fun hc29 => ?_)
      · have hf := it_n hf hc29
        refine lv_iload hx hb dX10_areas_135 (lv_at hl 3 rfl) ?_
        obtain rfl := Option.some.inj hf
        subst hQ
        exact ev_iret S hr hlocks hK hZ hM dX10_areas_137
      · have hf := it_p hf hc29
        refine lv_iload_n hx hb dX10_areas_131 rfl (lv_at hl 2 rfl) ?_
        refine lv_goto (tgt := 137) hx hb dX10_areas_132 (by decide) ?_
        obtain rfl := Option.some.inj hf
        subst hQ
        exact ev_iret S hr hlocks hK hZ hM dX10_areas_137
    · have hf := it_p hf hc28
      refine lv_iload_n hx hb dX10_areas_122 rfl (lv_at hl 1 rfl) ?_
      refine lv_goto (tgt := 137) hx hb dX10_areas_123 (by decide) ?_
      obtain rfl := Option.some.inj hf
      subst hQ
      exact ev_iret S hr hlocks hK hZ hM dX10_areas_137
  · have hf := it_p hf hc2
    refine lv_bipush (v := (-2 : Int32)) hx hb dX10_areas_9 (by decide) ?_
    obtain rfl := Option.some.inj hf
    subst hQ
    exact ev_iret S hr hlocks hK hZ hM dX10_areas_11
noncomputable def fn_X10_comesBack_L2 (K : Nat → Nat) (N : Nat → Nat) (a0 : Nat) (x1 : Int32) (P : Nat → Nat → Option Nat) : Nat → Int32 → (Nat → Nat → Int32) → Option ((Nat → Nat → Int32))
  | 0, _, _ => none
  | n + 1, v1, I2 => if (192 : Int32) ≤ v1 then (some I2) else (gd (K a0 = 11) (Option.bind (P a0 (0)) (fun q6 => Option.bind (P a0 (15)) (fun q7 => gd (K q7 = 12 ∧ vp_in v1 (N q7)) (gd (K q6 = 12 ∧ vp_in (((20 : Int32) + ((192 : Int32) * x1)) + v1) (N q6)) (Option.bind (some (up2 I2 q6 ((((20 : Int32) + ((192 : Int32) * x1)) + v1)).toNatClampNeg (I2 q7 (v1.toNatClampNeg)))) (fun I10 => gd (K q7 = 12 ∧ vp_in ((192 : Int32) + v1) (N q7)) (gd (K q6 = 12 ∧ vp_in (((788 : Int32) + ((192 : Int32) * x1)) + v1) (N q6)) (Option.bind (some (up2 I10 q6 ((((788 : Int32) + ((192 : Int32) * x1)) + v1)).toNatClampNeg (I10 q7 (((192 : Int32) + v1)).toNatClampNeg))) (fun I13 => fn_X10_comesBack_L2 K N a0 x1 P n (v1 + (1 : Int32)) I13))))))))))
noncomputable def fn_X10_comesBack (K N : Nat → Nat) (I : Nat → Nat → Int32) (P : Nat → Nat → Option Nat) (a0 : Nat) (x1 : Int32) : Option ((Nat → Nat → Int32)) := Option.bind (fn_X10_comesBack_L2 K N a0 x1 P FU (0 : Int32) I) (fun (r3 : (Nat → Nat → Int32)) => some r3)
abbrev wz_X10_comesBack : List Cond := Cond.code yX10_comesBack cX10_comesBack 3 none :: WA
abbrev rm_X10_comesBack : Room := { frames := 1, cells := 0, slots := 0, locals := 12 }
set_option maxHeartbeats 4000000 in
set_option maxRecDepth 100000 in
theorem c_X10_comesBack (I : Nat → Nat → Int32) (P : Nat → Nat → Option Nat) (a0 : Nat) (x1 : Int32) (res : (Nat → Nat → Int32)) (hf : fn_X10_comesBack K N I P a0 x1 = some res) : Met l yX10_comesBack wz_X10_comesBack rm_X10_comesBack (va_Pc [.ref a0, .int x1] (mm_B D cs A L K N z w I P)) (va_Qv (fun (_ : Unit) => True) (fun _ => mm_B D cs A L K N z w res P) A) 0 0 A := by
  refine Met.ofW (cc := cX10_comesBack) (maxL := 3) (ret := none) (by decide) rfl ?_
  intro p e s m args below meth c s₁ B hml hv
  obtain ⟨rfl, hBm⟩ := hv
  have hx := B.exec
  have hb := B.bytes
  have hr := B.returns
  have hts := atoms_spec (ws := wz_X10_comesBack) B.pre
  have hWA : ∀ w ∈ WA, w.before ([.ref a0, .int x1] : List Value).toArray s = true := fun u9 h9 => hts u9 (List.mem_cons_of_mem _ h9)
  have hown : s.vm.findClass RX10 = some m.cls := findClass_of_methodNamed B.named
  have hlocks := B.notSynchronized
  have S : CallFix p m c cX10_comesBack 3 s ([.ref a0, .int x1] : List Value).toArray wz_X10_comesBack RX10 := ⟨hx, hb, hml, hown, hts⟩
  have hK := hBm.2.2.2.1
  have hZ := hBm.2.2.2.2
  have hM : mm_W D cs A L K N s.heap I P s.heap [] := ⟨hBm.1, hBm.2.1, hBm.2.2.1, va_S.rf⟩
  have hl := lv_entry ([.ref a0, .int x1]) (n := 3) (Nat.le_of_ble_eq_true rfl)
  rw [lg_entry_eq]
  generalize (lg_sl ([.ref a0, .int x1]) ++ List.replicate (3 - (lg_sl ([.ref a0, .int x1])).length) Slot.unset).toArray = ls at hl ⊢
  have hl : lv_has ls 3 [(0, .ref a0), (1, .int x1)] := hl
  have hin10 : ∀ w ∈ wsX100, w ∈ wz_X10_comesBack := fun w h => List.mem_cons_of_mem _ (wu_X10 w h)
  have lk9 : (Cond.fieldLink RX10 9 RX10 "g" "[I").before ([.ref a0, .int x1] : List Value).toArray s = true := hWA _ wa_4_141
  have lk19 : (Cond.fieldLink RX10 19 RX10 "before" "[I").before ([.ref a0, .int x1] : List Value).toArray s = true := hWA _ wa_4_156
  generalize hQ : MQ below (va_Qv (fun (_ : Unit) => True) (fun _ => mm_B D cs A L K N z w res P) A) ([.ref a0, .int x1] : List Value).toArray s 0 0 A = QQ
  rw [fn_X10_comesBack] at hf
  refine lv_iconst (v := (0 : Int32)) hx hb dX10_comesBack_0 (by decide) ?_
  refine lv_istore_n (lv' := [(2, .int (0 : Int32)), (0, .ref a0), (1, .int x1)]) hx hb dX10_comesBack_1 rfl hl (by decide) rfl (fun ls hl => ?_)
  have lp2_13 : ∀ (n : Nat) (v1 : Int32) (I2 : Nat → Nat → Int32) (H : Heap) (locs : List Loc) (ls : Array Slot) (r3 : (Nat → Nat → Int32)), mm_W D cs A L K N s.heap I2 P H locs → lv_has ls 3 [(0, .ref a0), (1, .int x1), (2, .int v1)] → fn_X10_comesBack_L2 K N a0 x1 P n v1 I2 = some r3 → (∀ (H : Heap) (locs : List Loc) (ls : Array Slot), mm_W D cs A L K N s.heap r3 P H locs → lv_has ls 3 [] → W p l e (headSpec wz_X10_comesBack rm_X10_comesBack).room s m ([.ref a0, .int x1] : List Value).toArray below meth c H locs 0 0 QQ (F0 m 62 ls [])) → W p l e (headSpec wz_X10_comesBack rm_X10_comesBack).room s m ([.ref a0, .int x1] : List Value).toArray below meth c H locs 0 0 QQ (F0 m 2 ls []) := by
    intro n
    induction n with
    | zero => intro v1 I2 H locs ls r3 hM hl hf kk; exact nn_x (show (none : Option ((Nat → Nat → Int32))) = some r3 from hf)
    | succ n ih =>
      intro v1 I2 H locs ls r3 hM hl hf kk
      rw [fn_X10_comesBack_L2] at hf
      refine lv_iload_n hx hb dX10_comesBack_2 rfl (lv_at hl 2 rfl) ?_
      refine lv_sipush (v := (192 : Int32)) hx hb dX10_comesBack_3 (by decide) ?_
      refine lv_icmp_ge (tgt := 62) hx hb dX10_comesBack_6 (by decide) (fun hc4 => ?_) (fun hc4 => ?_)
      · have hf := it_p hf hc4
        obtain rfl := Option.some.inj hf
        exact kk _ _ _ hM (lv_sub hl [] rfl)
      · have hf := it_n hf hc4
        refine lv_aload_n hx hb dX10_comesBack_9 rfl (lv_at hl 0 rfl) ?_
        refine gd_e hf (fun hg5 hf => ?_)
        refine bd_e hf (fun q6 eq6 hf => ?_)
        refine ev_getP (v := q6) S hK hM (ci := 10) (n := 23) (C := RX10) (T := TX10) hin10 rfl hg5 0 (by decide) lk9 rfl rfl eq6 rfl dX10_comesBack_10 ?_
        refine lv_bipush (v := (20 : Int32)) hx hb dX10_comesBack_13 (by decide) ?_
        refine lv_sipush (v := (192 : Int32)) hx hb dX10_comesBack_15 (by decide) ?_
        refine lv_iload_n hx hb dX10_comesBack_18 rfl (lv_at hl 1 rfl) ?_
        refine lv_imul hx hb dX10_comesBack_19 ?_
        refine lv_iadd hx hb dX10_comesBack_20 ?_
        refine lv_iload_n hx hb dX10_comesBack_21 rfl (lv_at hl 2 rfl) ?_
        refine lv_iadd hx hb dX10_comesBack_22 ?_
        refine lv_aload_n hx hb dX10_comesBack_23 rfl (lv_at hl 0 rfl) ?_
        refine bd_e hf (fun q7 eq7 hf => ?_)
        refine ev_getP (v := q7) S hK hM (ci := 10) (n := 23) (C := RX10) (T := TX10) hin10 rfl hg5 15 (by decide) lk19 rfl rfl eq7 rfl dX10_comesBack_24 ?_
        refine lv_iload_n hx hb dX10_comesBack_27 rfl (lv_at hl 2 rfl) ?_
        refine gd_e hf (fun hg8 hf => ?_)
        refine ev_iald S hK hM hg8 (j := v1.toNatClampNeg) rfl dX10_comesBack_28 ?_
        refine gd_e hf (fun hg9 hf => ?_)
        refine ev_iast S hK hM hg9 (j := ((((20 : Int32) + ((192 : Int32) * x1)) + v1)).toNatClampNeg) rfl dX10_comesBack_29 (fun I10 eI10 H locs hM => ?_)
        have hf := nm_x eI10 hf
        refine lv_aload_n hx hb dX10_comesBack_30 rfl (lv_at hl 0 rfl) ?_
        refine ev_getP (v := q6) S hK hM (ci := 10) (n := 23) (C := RX10) (T := TX10) hin10 rfl hg5 0 (by decide) lk9 rfl rfl eq6 rfl dX10_comesBack_31 ?_
        refine lv_sipush (v := (788 : Int32)) hx hb dX10_comesBack_34 (by decide) ?_
        refine lv_sipush (v := (192 : Int32)) hx hb dX10_comesBack_37 (by decide) ?_
        refine lv_iload_n hx hb dX10_comesBack_40 rfl (lv_at hl 1 rfl) ?_
        refine lv_imul hx hb dX10_comesBack_41 ?_
        refine lv_iadd hx hb dX10_comesBack_42 ?_
        refine lv_iload_n hx hb dX10_comesBack_43 rfl (lv_at hl 2 rfl) ?_
        refine lv_iadd hx hb dX10_comesBack_44 ?_
        refine lv_aload_n hx hb dX10_comesBack_45 rfl (lv_at hl 0 rfl) ?_
        refine ev_getP (v := q7) S hK hM (ci := 10) (n := 23) (C := RX10) (T := TX10) hin10 rfl hg5 15 (by decide) lk19 rfl rfl eq7 rfl dX10_comesBack_46 ?_
        refine lv_sipush (v := (192 : Int32)) hx hb dX10_comesBack_49 (by decide) ?_
        refine lv_iload_n hx hb dX10_comesBack_52 rfl (lv_at hl 2 rfl) ?_
        refine lv_iadd hx hb dX10_comesBack_53 ?_
        refine gd_e hf (fun hg11 hf => ?_)
        refine ev_iald S hK hM hg11 (j := (((192 : Int32) + v1)).toNatClampNeg) rfl dX10_comesBack_54 ?_
        refine gd_e hf (fun hg12 hf => ?_)
        refine ev_iast S hK hM hg12 (j := ((((788 : Int32) + ((192 : Int32) * x1)) + v1)).toNatClampNeg) rfl dX10_comesBack_55 (fun I13 eI13 H locs hM => ?_)
        have hf := nm_x eI13 hf
        refine lv_iinc (v := (v1 + (1 : Int32))) (lv' := [(2, .int (v1 + (1 : Int32))), (0, .ref a0), (1, .int x1)]) hx hb dX10_comesBack_56 hl (k := 2) rfl rfl (by decide) rfl (fun ls hl => ?_)
        refine lv_goto (tgt := 2) hx hb dX10_comesBack_59 (by decide) ?_
        exact ih (v1 + (1 : Int32)) I13 _ _ _ _ hM (lv_sub hl [1, 2, 0] rfl) hf kk
  refine bd_e hf (fun r3 er3 hf => ?_)
  refine lp2_13 FU (0 : Int32) I _ _ _ r3 hM (lv_sub hl [1, 2, 0] rfl) er3 (fun H locs ls hM hl => ?_)
  obtain rfl := Option.some.inj hf
  subst hQ
  exact ev_vret S hr hlocks hK hZ hM dX10_comesBack_62
noncomputable def fn_X10_sprays_L11 (K : Nat → Nat) (N : Nat → Nat) (a0 : Nat) (x1 : Int32) (x3 : Int32) (P : Nat → Nat → Option Nat) : Nat → Int32 → Int32 → (Nat → Nat → Int32) → Option ((Nat → Nat → Int32))
  | 0, _, _, _ => none
  | n + 1, v3, v4, I5 => if x3 ≤ v4 then (some I5) else (Option.bind (some ((v3 * (1103515245 : Int32)) + (12345 : Int32))) (fun v8 => Option.bind (some ((ius v8 (9 : Int32)) - (ius v8 (9 : Int32)) / (16 : Int32) * (16 : Int32))) (fun v9 => Option.bind (some ((v8 * (1103515245 : Int32)) + (12345 : Int32))) (fun v10 => Option.bind (fn_X10_stamps K N I5 P a0 x1 v9 ((ius v10 (9 : Int32)) - (ius v10 (9 : Int32)) / (12 : Int32) * (12 : Int32))) (fun (r11 : (Nat → Nat → Int32)) => fn_X10_sprays_L11 K N a0 x1 x3 P n v10 (v4 + (1 : Int32)) r11)))))
noncomputable def fn_X10_sprays (K N : Nat → Nat) (I : Nat → Nat → Int32) (P : Nat → Nat → Option Nat) (a0 : Nat) (x1 : Int32) (x2 : Int32) (x3 : Int32) : Option ((Nat → Nat → Int32)) := Option.bind (fn_X10_beginsAct K N I P a0 x1) (fun (r1 : (Nat → Nat → Int32)) => gd (K a0 = 11) (Option.bind (fn_X10_sprays_L11 K N a0 x1 x3 P FU x2 (0 : Int32) r1) (fun (r6 : (Nat → Nat → Int32)) => some r6)))
abbrev wz_X10_sprays : List Cond := Cond.code yX10_sprays cX10_sprays 7 none :: WA
abbrev rm_X10_sprays : Room := { frames := 4, cells := 0, slots := 0, locals := 81 }
set_option maxHeartbeats 4000000 in
set_option maxRecDepth 100000 in
theorem c_X10_sprays (I : Nat → Nat → Int32) (P : Nat → Nat → Option Nat) (a0 : Nat) (x1 : Int32) (x2 : Int32) (x3 : Int32) (res : (Nat → Nat → Int32)) (hf : fn_X10_sprays K N I P a0 x1 x2 x3 = some res) : Met l yX10_sprays wz_X10_sprays rm_X10_sprays (va_Pc [.ref a0, .int x1, .int x2, .int x3] (mm_B D cs A L K N z w I P)) (va_Qv (fun (_ : Unit) => True) (fun _ => mm_B D cs A L K N z w res P) A) 0 0 A := by
  refine Met.ofW (cc := cX10_sprays) (maxL := 7) (ret := none) (by decide) rfl ?_
  intro p e s m args below meth c s₁ B hml hv
  obtain ⟨rfl, hBm⟩ := hv
  have hx := B.exec
  have hb := B.bytes
  have hr := B.returns
  have hts := atoms_spec (ws := wz_X10_sprays) B.pre
  have hWA : ∀ w ∈ WA, w.before ([.ref a0, .int x1, .int x2, .int x3] : List Value).toArray s = true := fun u9 h9 => hts u9 (List.mem_cons_of_mem _ h9)
  have hown : s.vm.findClass RX10 = some m.cls := findClass_of_methodNamed B.named
  have hlocks := B.notSynchronized
  have S : CallFix p m c cX10_sprays 7 s ([.ref a0, .int x1, .int x2, .int x3] : List Value).toArray wz_X10_sprays RX10 := ⟨hx, hb, hml, hown, hts⟩
  have hK := hBm.2.2.2.1
  have hZ := hBm.2.2.2.2
  have hM : mm_W D cs A L K N s.heap I P s.heap [] := ⟨hBm.1, hBm.2.1, hBm.2.2.1, va_S.rf⟩
  have hl := lv_entry ([.ref a0, .int x1, .int x2, .int x3]) (n := 7) (Nat.le_of_ble_eq_true rfl)
  rw [lg_entry_eq]
  generalize (lg_sl ([.ref a0, .int x1, .int x2, .int x3]) ++ List.replicate (7 - (lg_sl ([.ref a0, .int x1, .int x2, .int x3])).length) Slot.unset).toArray = ls at hl ⊢
  have hl : lv_has ls 7 [(0, .ref a0), (1, .int x1), (2, .int x2), (3, .int x3)] := hl
  generalize hQ : MQ below (va_Qv (fun (_ : Unit) => True) (fun _ => mm_B D cs A L K N z w res P) A) ([.ref a0, .int x1, .int x2, .int x3] : List Value).toArray s 0 0 A = QQ
  rw [fn_X10_sprays] at hf
  refine lv_aload_n hx hb dX10_sprays_0 rfl (lv_at hl 0 rfl) ?_
  refine lv_iload_n hx hb dX10_sprays_1 rfl (lv_at hl 1 rfl) ?_
  refine bd_e hf (fun r1 er1 hf => ?_)
  refine gd_e hf (fun hg2 hf => ?_)
  refine ev_callv (va_runV (As := [.int x1]) (rest := []) S (c_X10_beginsAct (l := l) I P a0 x1 r1 er1) (cwV 1 hts (gi_v wa_5_128 wa_5_130 wa_s_46 wa_1_11 wa_5_131) rfl rfl rfl (by decide +kernel) ⟨Nat.le_of_ble_eq_true rfl, Nat.le_of_ble_eq_true rfl⟩) ⟨mm_B_blind, ev_recv hK hM (ci := 10) rfl hg2 rfl, fun U hU hW => ⟨rfl, mm_B_of hK hZ hM hU hW⟩⟩ rfl rfl hl.1 rfl (lv_room (Nat.le_of_ble_eq_true rfl)) dX10_sprays_2 ⟨Nat.zero_le _, Nat.zero_le _⟩) hM (fun H locs hM => ?_)
  refine lv_iload_n hx hb dX10_sprays_5 rfl (lv_at hl 2 rfl) ?_
  refine lv_istore (lv' := [(4, .int x2), (0, .ref a0), (1, .int x1), (2, .int x2), (3, .int x3)]) hx hb dX10_sprays_6 hl (by decide) rfl (fun ls hl => ?_)
  refine lv_iconst (v := (0 : Int32)) hx hb dX10_sprays_8 (by decide) ?_
  refine lv_istore (lv' := [(5, .int (0 : Int32)), (4, .int x2), (0, .ref a0), (1, .int x1), (2, .int x2), (3, .int x3)]) hx hb dX10_sprays_9 hl (by decide) rfl (fun ls hl => ?_)
  have lp11_11 : ∀ (n : Nat) (v3 : Int32) (v4 : Int32) (I5 : Nat → Nat → Int32) (H : Heap) (locs : List Loc) (ls : Array Slot) (r6 : (Nat → Nat → Int32)), mm_W D cs A L K N s.heap I5 P H locs → lv_has ls 7 [(0, .ref a0), (1, .int x1), (3, .int x3), (4, .int v3), (5, .int v4)] → fn_X10_sprays_L11 K N a0 x1 x3 P n v3 v4 I5 = some r6 → (∀ (H : Heap) (locs : List Loc) (ls : Array Slot), mm_W D cs A L K N s.heap r6 P H locs → lv_has ls 7 [] → W p l e (headSpec wz_X10_sprays rm_X10_sprays).room s m ([.ref a0, .int x1, .int x2, .int x3] : List Value).toArray below meth c H locs 0 0 QQ (F0 m 72 ls [])) → W p l e (headSpec wz_X10_sprays rm_X10_sprays).room s m ([.ref a0, .int x1, .int x2, .int x3] : List Value).toArray below meth c H locs 0 0 QQ (F0 m 11 ls []) := by
    intro n
    induction n with
    | zero => intro v3 v4 I5 H locs ls r6 hM hl hf kk; exact nn_x (show (none : Option ((Nat → Nat → Int32))) = some r6 from hf)
    | succ n ih =>
      intro v3 v4 I5 H locs ls r6 hM hl hf kk
      rw [fn_X10_sprays_L11] at hf
      refine lv_iload hx hb dX10_sprays_11 (lv_at hl 4 rfl) ?_
      refine lv_iload_n hx hb dX10_sprays_13 rfl (lv_at hl 2 rfl) ?_
      refine lv_icmp_ge (tgt := 72) hx hb dX10_sprays_14 (by decide) (fun hc7 => ?_) (fun hc7 => ?_)
      · have hf := it_p hf hc7
        obtain rfl := Option.some.inj hf
        exact kk _ _ _ hM (lv_sub hl [] rfl)
      · have hf := it_n hf hc7
        refine lv_iload hx hb dX10_sprays_17 (lv_at hl 3 rfl) ?_
        refine lv_ldcw (v := 1103515245) hx hb hown (hWA _ wa_5_239) dX10_sprays_19 ?_
        refine lv_imul hx hb dX10_sprays_22 ?_
        refine lv_sipush (v := (12345 : Int32)) hx hb dX10_sprays_23 (by decide) ?_
        refine lv_iadd hx hb dX10_sprays_26 ?_
        refine lv_topi (fun v8 ev8 => ?_)
        have hf := nm_x ev8 hf
        refine lv_istore (lv' := [(4, .int v8), (0, .ref a0), (1, .int x1), (3, .int x3), (5, .int v4)]) hx hb dX10_sprays_27 hl (by decide) rfl (fun ls hl => ?_)
        refine lv_iload hx hb dX10_sprays_29 (lv_at hl 0 rfl) ?_
        refine lv_bipush (v := (9 : Int32)) hx hb dX10_sprays_31 (by decide) ?_
        refine lv_iushr (v := (ius v8 (9 : Int32))) hx hb dX10_sprays_33 rfl ?_
        refine lv_bipush (v := (16 : Int32)) hx hb dX10_sprays_34 (by decide) ?_
        refine lv_irem hx hb dX10_sprays_36 (by decide) ?_
        refine lv_topi (fun v9 ev9 => ?_)
        have hf := nm_x ev9 hf
        refine lv_istore (lv' := [(6, .int v9), (4, .int v8), (0, .ref a0), (1, .int x1), (3, .int x3), (5, .int v4)]) hx hb dX10_sprays_37 hl (by decide) rfl (fun ls hl => ?_)
        refine lv_iload hx hb dX10_sprays_39 (lv_at hl 1 rfl) ?_
        refine lv_ldcw (v := 1103515245) hx hb hown (hWA _ wa_5_239) dX10_sprays_41 ?_
        refine lv_imul hx hb dX10_sprays_44 ?_
        refine lv_sipush (v := (12345 : Int32)) hx hb dX10_sprays_45 (by decide) ?_
        refine lv_iadd hx hb dX10_sprays_48 ?_
        refine lv_topi (fun v10 ev10 => ?_)
        have hf := nm_x ev10 hf
        refine lv_istore (lv' := [(4, .int v10), (6, .int v9), (0, .ref a0), (1, .int x1), (3, .int x3), (5, .int v4)]) hx hb dX10_sprays_49 hl (by decide) rfl (fun ls hl => ?_)
        refine lv_aload_n hx hb dX10_sprays_51 rfl (lv_at hl 2 rfl) ?_
        refine lv_iload_n hx hb dX10_sprays_52 rfl (lv_at hl 3 rfl) ?_
        refine lv_iload hx hb dX10_sprays_53 (lv_at hl 1 rfl) ?_
        refine lv_iload hx hb dX10_sprays_55 (lv_at hl 0 rfl) ?_
        refine lv_bipush (v := (9 : Int32)) hx hb dX10_sprays_57 (by decide) ?_
        refine lv_iushr (v := (ius v10 (9 : Int32))) hx hb dX10_sprays_59 rfl ?_
        refine lv_bipush (v := (12 : Int32)) hx hb dX10_sprays_60 (by decide) ?_
        refine lv_irem hx hb dX10_sprays_62 (by decide) ?_
        refine bd_e hf (fun r11 er11 hf => ?_)
        refine ev_callv (va_runV (As := [.int x1, .int v9, .int ((ius v10 (9 : Int32)) - (ius v10 (9 : Int32)) / (12 : Int32) * (12 : Int32))]) (rest := []) S (c_X10_stamps (l := l) I5 P a0 x1 v9 ((ius v10 (9 : Int32)) - (ius v10 (9 : Int32)) / (12 : Int32) * (12 : Int32)) r11 er11) (cwV 3 hts (gi_v wa_5_111 wa_5_113 wa_s_42 wa_1_11 wa_5_114) rfl rfl rfl (by decide +kernel) ⟨Nat.le_of_ble_eq_true rfl, Nat.le_of_ble_eq_true rfl⟩) ⟨mm_B_blind, ev_recv hK hM (ci := 10) rfl hg2 rfl, fun U hU hW => ⟨rfl, mm_B_of hK hZ hM hU hW⟩⟩ rfl rfl hl.1 rfl (lv_room (Nat.le_of_ble_eq_true rfl)) dX10_sprays_63 ⟨Nat.zero_le _, Nat.zero_le _⟩) hM (fun H locs hM => ?_)
        refine lv_iinc (v := (v4 + (1 : Int32))) (lv' := [(5, .int (v4 + (1 : Int32))), (4, .int v10), (6, .int v9), (0, .ref a0), (1, .int x1), (3, .int x3)]) hx hb dX10_sprays_66 hl (k := 5) rfl rfl (by decide) rfl (fun ls hl => ?_)
        refine lv_goto (tgt := 11) hx hb dX10_sprays_69 (by decide) ?_
        exact ih v10 (v4 + (1 : Int32)) r11 _ _ _ _ hM (lv_sub hl [3, 4, 5, 1, 0] rfl) hf kk
  refine bd_e hf (fun r6 er6 hf => ?_)
  refine lp11_11 FU x2 (0 : Int32) r1 _ _ _ r6 hM (lv_sub hl [2, 3, 5, 1, 0] rfl) er6 (fun H locs ls hM hl => ?_)
  obtain rfl := Option.some.inj hf
  subst hQ
  exact ev_vret S hr hlocks hK hZ hM dX10_sprays_72
noncomputable def fn_X10_sprayed_L24 (K : Nat → Nat) (N : Nat → Nat) (a0 : Nat) (P : Nat → Nat → Option Nat) : Nat → Int32 → (Nat → Nat → Int32) → Option ((Nat → Nat → Int32))
  | 0, _, _ => none
  | n + 1, v6, I7 => if (192 : Int32) ≤ v6 then (some I7) else (Option.bind (P a0 (19)) (fun q10 => Option.bind (fn_X10_seen_ K N I7 P a0 v6) (fun (r11 : Int32) => gd (K q10 = 12 ∧ vp_in v6 (N q10)) (Option.bind (some (up2 I7 q10 (v6.toNatClampNeg) r11)) (fun I13 => fn_X10_sprayed_L24 K N a0 P n (v6 + (1 : Int32)) I13)))))
noncomputable def fn_X10_sprayed_L64 (K : Nat → Nat) (N : Nat → Nat) (a0 : Nat) (P : Nat → Nat → Option Nat) (r14 : Nat → Nat → Int32) : Nat → Int32 → Int32 → Option (Int32)
  | 0, _, _ => none
  | n + 1, v15, v16 => if (192 : Int32) ≤ v16 then (some v15) else (Option.bind (fn_X10_seen_ K N r14 P a0 v16) (fun (r19 : Int32) => Option.bind (P a0 (19)) (fun q20 => gd (K q20 = 12 ∧ vp_in v16 (N q20)) (if r19 = (r14 q20 (v16.toNatClampNeg)) then (Option.bind (some (v15 + (0 : Int32))) (fun v23 => fn_X10_sprayed_L64 K N a0 P r14 n v23 (v16 + (1 : Int32)))) else (Option.bind (some (v15 + (1 : Int32))) (fun v24 => fn_X10_sprayed_L64 K N a0 P r14 n v24 (v16 + (1 : Int32))))))))
noncomputable def fn_X10_sprayed (K N : Nat → Nat) (I : Nat → Nat → Int32) (P : Nat → Nat → Option Nat) (a0 : Nat) (x1 : Int32) (x2 : Int32) (x3 : Int32) : Option (Int32 × (Nat → Nat → Int32)) := Option.bind (fn_X10_isLayer K N I P a0 x1) (fun (r1 : Int32) => gd (K a0 = 11) (if r1 = 0 then (some ((-2 : Int32), I)) else (Option.bind (fn_X10_isIn x3 (0 : Int32) (30 : Int32)) (fun (r4 : Int32) => if r4 = 0 then (some ((-2 : Int32), I)) else (Option.bind (fn_X10_sprayed_L24 K N a0 P FU (0 : Int32) I) (fun (r8 : (Nat → Nat → Int32)) => Option.bind (fn_X10_sprays K N r8 P a0 x1 x2 x3) (fun (r14 : (Nat → Nat → Int32)) => Option.bind (fn_X10_sprayed_L64 K N a0 P r14 FU (0 : Int32) (0 : Int32)) (fun (r17 : Int32) => Option.bind (fn_X10_comesBack K N r14 P a0 x1) (fun (r25 : (Nat → Nat → Int32)) => some (r17, r25))))))))))
abbrev wz_X10_sprayed : List Cond := Cond.code yX10_sprayed cX10_sprayed 6 (some .int) :: WA
abbrev rm_X10_sprayed : Room := { frames := 5, cells := 0, slots := 0, locals := 107 }
set_option maxHeartbeats 4000000 in
set_option maxRecDepth 100000 in
theorem c_X10_sprayed (I : Nat → Nat → Int32) (P : Nat → Nat → Option Nat) (a0 : Nat) (x1 : Int32) (x2 : Int32) (x3 : Int32) (res : Int32 × (Nat → Nat → Int32)) (hf : fn_X10_sprayed K N I P a0 x1 x2 x3 = some res) : Met l yX10_sprayed wz_X10_sprayed rm_X10_sprayed (va_Pc [.ref a0, .int x1, .int x2, .int x3] (mm_B D cs A L K N z w I P)) (va_Qi (fun r (_ : Unit) => r = res.1) (fun _ => mm_B D cs A L K N z w res.2 P) A) 0 0 A := by
  refine Met.ofW (cc := cX10_sprayed) (maxL := 6) (ret := (some .int)) (by decide) rfl ?_
  intro p e s m args below meth c s₁ B hml hv
  obtain ⟨rfl, hBm⟩ := hv
  have hx := B.exec
  have hb := B.bytes
  have hr := B.returns
  have hts := atoms_spec (ws := wz_X10_sprayed) B.pre
  have hWA : ∀ w ∈ WA, w.before ([.ref a0, .int x1, .int x2, .int x3] : List Value).toArray s = true := fun u9 h9 => hts u9 (List.mem_cons_of_mem _ h9)
  have hown : s.vm.findClass RX10 = some m.cls := findClass_of_methodNamed B.named
  have hlocks := B.notSynchronized
  have S : CallFix p m c cX10_sprayed 6 s ([.ref a0, .int x1, .int x2, .int x3] : List Value).toArray wz_X10_sprayed RX10 := ⟨hx, hb, hml, hown, hts⟩
  have hK := hBm.2.2.2.1
  have hZ := hBm.2.2.2.2
  have hM : mm_W D cs A L K N s.heap I P s.heap [] := ⟨hBm.1, hBm.2.1, hBm.2.2.1, va_S.rf⟩
  have hl := lv_entry ([.ref a0, .int x1, .int x2, .int x3]) (n := 6) (Nat.le_of_ble_eq_true rfl)
  rw [lg_entry_eq]
  generalize (lg_sl ([.ref a0, .int x1, .int x2, .int x3]) ++ List.replicate (6 - (lg_sl ([.ref a0, .int x1, .int x2, .int x3])).length) Slot.unset).toArray = ls at hl ⊢
  have hl : lv_has ls 6 [(0, .ref a0), (1, .int x1), (2, .int x2), (3, .int x3)] := hl
  have hin10 : ∀ w ∈ wsX100, w ∈ wz_X10_sprayed := fun w h => List.mem_cons_of_mem _ (wu_X10 w h)
  have lk31 : (Cond.fieldLink RX10 31 RX10 "look" "[I").before ([.ref a0, .int x1, .int x2, .int x3] : List Value).toArray s = true := hWA _ wa_4_160
  generalize hQ : MQ below (va_Qi (fun r (_ : Unit) => r = res.1) (fun _ => mm_B D cs A L K N z w res.2 P) A) ([.ref a0, .int x1, .int x2, .int x3] : List Value).toArray s 0 0 A = QQ
  rw [fn_X10_sprayed] at hf
  refine lv_aload_n hx hb dX10_sprayed_0 rfl (lv_at hl 0 rfl) ?_
  refine lv_iload_n hx hb dX10_sprayed_1 rfl (lv_at hl 1 rfl) ?_
  refine bd_e hf (fun r1 er1 hf => ?_)
  refine gd_e hf (fun hg2 hf => ?_)
  refine ev_calli (va_runV (As := [.int x1]) (rest := []) S (c_X10_isLayer (l := l) I P a0 x1 r1 er1) (cwV 1 hts (gi_v wa_4_232 wa_4_234 wa_s_27 wa_1_11 wa_4_235) rfl rfl rfl (by decide +kernel) ⟨Nat.le_of_ble_eq_true rfl, Nat.le_of_ble_eq_true rfl⟩) ⟨mm_B_blind, ev_recv hK hM (ci := 10) rfl hg2 rfl, fun U hU hW => ⟨rfl, mm_B_of hK hZ hM hU hW⟩⟩ rfl rfl hl.1 rfl (lv_room (Nat.le_of_ble_eq_true rfl)) dX10_sprayed_2 ⟨Nat.zero_le _, Nat.zero_le _⟩) hM (fun H locs hM => ?_)
  refine lv_if_eq (tgt := 18) hx hb dX10_sprayed_5 (by decide) (fun hc3 => ?_) (fun hc3 => ?_)
  · have hf := it_p hf hc3
    refine lv_bipush (v := (-2 : Int32)) hx hb dX10_sprayed_18 (by decide) ?_
    obtain rfl := Option.some.inj hf
    subst hQ
    exact ev_iret S hr hlocks hK hZ hM dX10_sprayed_20
  · have hf := it_n hf hc3
    refine lv_iload_n hx hb dX10_sprayed_8 rfl (lv_at hl 3 rfl) ?_
    refine lv_iconst (v := (0 : Int32)) hx hb dX10_sprayed_9 (by decide) ?_
    refine lv_bipush (v := (30 : Int32)) hx hb dX10_sprayed_10 (by decide) ?_
    refine bd_e hf (fun r4 er4 hf => ?_)
    refine ev_calli (va_runS (As := [.int x3, .int (0 : Int32), .int (30 : Int32)]) (rest := []) S (c_X10_isIn (l := l) I P x3 (0 : Int32) (30 : Int32) r4 er4) (va_cwS 3 hts (gi_s wa_4_218 wa_4_219 wa_1_11 wa_4_220) rfl rfl rfl (by decide +kernel) ⟨Nat.le_of_ble_eq_true rfl, Nat.le_of_ble_eq_true rfl⟩) ⟨mm_B_blind, fun U hU hW => ⟨rfl, mm_B_of hK hZ hM hU hW⟩⟩ rfl rfl hl.1 rfl (lv_room (Nat.le_of_ble_eq_true rfl)) dX10_sprayed_12 ⟨Nat.zero_le _, Nat.zero_le _⟩) hM (fun H locs hM => ?_)
    refine lv_if_ne (tgt := 21) hx hb dX10_sprayed_15 (by decide) (fun hc5 => ?_) (fun hc5 => ?_)
    · have hf := it_n hf hc5
      refine lv_iconst (v := (0 : Int32)) hx hb dX10_sprayed_21 (by decide) ?_
      refine lv_istore (lv' := [(4, .int (0 : Int32)), (0, .ref a0), (1, .int x1), (2, .int x2), (3, .int x3)]) hx hb dX10_sprayed_22 hl (by decide) rfl (fun ls hl => ?_)
      have lp24_13 : ∀ (n : Nat) (v6 : Int32) (I7 : Nat → Nat → Int32) (H : Heap) (locs : List Loc) (ls : Array Slot) (r8 : (Nat → Nat → Int32)), mm_W D cs A L K N s.heap I7 P H locs → lv_has ls 6 [(0, .ref a0), (1, .int x1), (2, .int x2), (3, .int x3), (4, .int v6)] → fn_X10_sprayed_L24 K N a0 P n v6 I7 = some r8 → (∀ (H : Heap) (locs : List Loc) (ls : Array Slot), mm_W D cs A L K N s.heap r8 P H locs → lv_has ls 6 [(0, .ref a0), (1, .int x1), (2, .int x2), (3, .int x3)] → W p l e (headSpec wz_X10_sprayed rm_X10_sprayed).room s m ([.ref a0, .int x1, .int x2, .int x3] : List Value).toArray below meth c H locs 0 0 QQ (F0 m 51 ls [])) → W p l e (headSpec wz_X10_sprayed rm_X10_sprayed).room s m ([.ref a0, .int x1, .int x2, .int x3] : List Value).toArray below meth c H locs 0 0 QQ (F0 m 24 ls []) := by
        intro n
        induction n with
        | zero => intro v6 I7 H locs ls r8 hM hl hf kk; exact nn_x (show (none : Option ((Nat → Nat → Int32))) = some r8 from hf)
        | succ n ih =>
          intro v6 I7 H locs ls r8 hM hl hf kk
          rw [fn_X10_sprayed_L24] at hf
          refine lv_iload hx hb dX10_sprayed_24 (lv_at hl 4 rfl) ?_
          refine lv_sipush (v := (192 : Int32)) hx hb dX10_sprayed_26 (by decide) ?_
          refine lv_icmp_ge (tgt := 51) hx hb dX10_sprayed_29 (by decide) (fun hc9 => ?_) (fun hc9 => ?_)
          · have hf := it_p hf hc9
            obtain rfl := Option.some.inj hf
            exact kk _ _ _ hM (lv_sub hl [0, 1, 2, 3] rfl)
          · have hf := it_n hf hc9
            refine lv_aload_n hx hb dX10_sprayed_32 rfl (lv_at hl 0 rfl) ?_
            refine bd_e hf (fun q10 eq10 hf => ?_)
            refine ev_getP (v := q10) S hK hM (ci := 10) (n := 23) (C := RX10) (T := TX10) hin10 rfl hg2 19 (by decide) lk31 rfl rfl eq10 rfl dX10_sprayed_33 ?_
            refine lv_iload hx hb dX10_sprayed_36 (lv_at hl 4 rfl) ?_
            refine lv_aload_n hx hb dX10_sprayed_38 rfl (lv_at hl 0 rfl) ?_
            refine lv_iload hx hb dX10_sprayed_39 (lv_at hl 4 rfl) ?_
            refine bd_e hf (fun r11 er11 hf => ?_)
            refine ev_calli (va_runV (As := [.int v6]) (rest := [.int v6, .ref q10]) S (c_X10_seen_ (l := l) I7 P a0 v6 r11 er11) (cwV 1 hts (gi_v wa_5_46 wa_5_48 wa_s_32 wa_1_11 wa_5_49) rfl rfl rfl (by decide +kernel) ⟨Nat.le_of_ble_eq_true rfl, Nat.le_of_ble_eq_true rfl⟩) ⟨mm_B_blind, ev_recv hK hM (ci := 10) rfl hg2 rfl, fun U hU hW => ⟨rfl, mm_B_of hK hZ hM hU hW⟩⟩ rfl rfl hl.1 rfl (lv_room (Nat.le_of_ble_eq_true rfl)) dX10_sprayed_41 ⟨Nat.zero_le _, Nat.zero_le _⟩) hM (fun H locs hM => ?_)
            refine gd_e hf (fun hg12 hf => ?_)
            refine ev_iast S hK hM hg12 (j := v6.toNatClampNeg) rfl dX10_sprayed_44 (fun I13 eI13 H locs hM => ?_)
            have hf := nm_x eI13 hf
            refine lv_iinc (v := (v6 + (1 : Int32))) (lv' := [(4, .int (v6 + (1 : Int32))), (0, .ref a0), (1, .int x1), (2, .int x2), (3, .int x3)]) hx hb dX10_sprayed_45 hl (k := 4) rfl rfl (by decide) rfl (fun ls hl => ?_)
            refine lv_goto (tgt := 24) hx hb dX10_sprayed_48 (by decide) ?_
            exact ih (v6 + (1 : Int32)) I13 _ _ _ _ hM (lv_sub hl [1, 2, 3, 4, 0] rfl) hf kk
      refine bd_e hf (fun r8 er8 hf => ?_)
      refine lp24_13 FU (0 : Int32) I _ _ _ r8 hM (lv_sub hl [1, 2, 3, 4, 0] rfl) er8 (fun H locs ls hM hl => ?_)
      refine lv_aload_n hx hb dX10_sprayed_51 rfl (lv_at hl 0 rfl) ?_
      refine lv_iload_n hx hb dX10_sprayed_52 rfl (lv_at hl 1 rfl) ?_
      refine lv_iload_n hx hb dX10_sprayed_53 rfl (lv_at hl 2 rfl) ?_
      refine lv_iload_n hx hb dX10_sprayed_54 rfl (lv_at hl 3 rfl) ?_
      refine bd_e hf (fun r14 er14 hf => ?_)
      refine ev_callv (va_runV (As := [.int x1, .int x2, .int x3]) (rest := []) S (c_X10_sprays (l := l) r8 P a0 x1 x2 x3 r14 er14) (cwV 3 hts (gi_v wa_5_235 wa_5_237 wa_s_60 wa_1_11 wa_5_238) rfl rfl rfl (by decide +kernel) ⟨Nat.le_of_ble_eq_true rfl, Nat.le_of_ble_eq_true rfl⟩) ⟨mm_B_blind, ev_recv hK hM (ci := 10) rfl hg2 rfl, fun U hU hW => ⟨rfl, mm_B_of hK hZ hM hU hW⟩⟩ rfl rfl hl.1 rfl (lv_room (Nat.le_of_ble_eq_true rfl)) dX10_sprayed_55 ⟨Nat.zero_le _, Nat.zero_le _⟩) hM (fun H locs hM => ?_)
      refine lv_iconst (v := (0 : Int32)) hx hb dX10_sprayed_58 (by decide) ?_
      refine lv_istore (lv' := [(4, .int (0 : Int32)), (0, .ref a0), (1, .int x1), (2, .int x2), (3, .int x3)]) hx hb dX10_sprayed_59 hl (by decide) rfl (fun ls hl => ?_)
      refine lv_iconst (v := (0 : Int32)) hx hb dX10_sprayed_61 (by decide) ?_
      refine lv_istore (lv' := [(5, .int (0 : Int32)), (4, .int (0 : Int32)), (0, .ref a0), (1, .int x1), (2, .int x2), (3, .int x3)]) hx hb dX10_sprayed_62 hl (by decide) rfl (fun ls hl => ?_)
      have lp64_24 : ∀ (n : Nat) (v15 : Int32) (v16 : Int32) (H : Heap) (locs : List Loc) (ls : Array Slot) (r17 : Int32), mm_W D cs A L K N s.heap r14 P H locs → lv_has ls 6 [(0, .ref a0), (1, .int x1), (4, .int v15), (5, .int v16)] → fn_X10_sprayed_L64 K N a0 P r14 n v15 v16 = some r17 → (∀ (H : Heap) (locs : List Loc) (ls : Array Slot), mm_W D cs A L K N s.heap r14 P H locs → lv_has ls 6 [(0, .ref a0), (1, .int x1), (4, .int r17)] → W p l e (headSpec wz_X10_sprayed rm_X10_sprayed).room s m ([.ref a0, .int x1, .int x2, .int x3] : List Value).toArray below meth c H locs 0 0 QQ (F0 m 104 ls [])) → W p l e (headSpec wz_X10_sprayed rm_X10_sprayed).room s m ([.ref a0, .int x1, .int x2, .int x3] : List Value).toArray below meth c H locs 0 0 QQ (F0 m 64 ls []) := by
        intro n
        induction n with
        | zero => intro v15 v16 H locs ls r17 hM hl hf kk; exact nn_x (show (none : Option (Int32)) = some r17 from hf)
        | succ n ih =>
          intro v15 v16 H locs ls r17 hM hl hf kk
          rw [fn_X10_sprayed_L64] at hf
          refine lv_iload hx hb dX10_sprayed_64 (lv_at hl 3 rfl) ?_
          refine lv_sipush (v := (192 : Int32)) hx hb dX10_sprayed_66 (by decide) ?_
          refine lv_icmp_ge (tgt := 104) hx hb dX10_sprayed_69 (by decide) (fun hc18 => ?_) (fun hc18 => ?_)
          · have hf := it_p hf hc18
            obtain rfl := Option.some.inj hf
            exact kk _ _ _ hM (lv_sub hl [0, 1, 2] rfl)
          · have hf := it_n hf hc18
            refine lv_iload hx hb dX10_sprayed_72 (lv_at hl 2 rfl) ?_
            refine lv_aload_n hx hb dX10_sprayed_74 rfl (lv_at hl 0 rfl) ?_
            refine lv_iload hx hb dX10_sprayed_75 (lv_at hl 3 rfl) ?_
            refine bd_e hf (fun r19 er19 hf => ?_)
            refine ev_calli (va_runV (As := [.int v16]) (rest := [.int v15]) S (c_X10_seen_ (l := l) r14 P a0 v16 r19 er19) (cwV 1 hts (gi_v wa_5_46 wa_5_48 wa_s_32 wa_1_11 wa_5_49) rfl rfl rfl (by decide +kernel) ⟨Nat.le_of_ble_eq_true rfl, Nat.le_of_ble_eq_true rfl⟩) ⟨mm_B_blind, ev_recv hK hM (ci := 10) rfl hg2 rfl, fun U hU hW => ⟨rfl, mm_B_of hK hZ hM hU hW⟩⟩ rfl rfl hl.1 rfl (lv_room (Nat.le_of_ble_eq_true rfl)) dX10_sprayed_77 ⟨Nat.zero_le _, Nat.zero_le _⟩) hM (fun H locs hM => ?_)
            refine lv_aload_n hx hb dX10_sprayed_80 rfl (lv_at hl 0 rfl) ?_
            refine bd_e hf (fun q20 eq20 hf => ?_)
            refine ev_getP (v := q20) S hK hM (ci := 10) (n := 23) (C := RX10) (T := TX10) hin10 rfl hg2 19 (by decide) lk31 rfl rfl eq20 rfl dX10_sprayed_81 ?_
            refine lv_iload hx hb dX10_sprayed_84 (lv_at hl 3 rfl) ?_
            refine gd_e hf (fun hg21 hf => ?_)
            refine ev_iald S hK hM hg21 (j := v16.toNatClampNeg) rfl dX10_sprayed_86 ?_
            refine lv_icmp_eq (tgt := 94) hx hb dX10_sprayed_87 (by decide) (fun hc22 => ?_) (fun hc22 => ?_)
            · have hf := it_p hf hc22
              refine lv_iconst (v := (0 : Int32)) hx hb dX10_sprayed_94 (by decide) ?_
              refine lv_iadd hx hb dX10_sprayed_95 ?_
              refine lv_topi (fun v23 ev23 => ?_)
              have hf := nm_x ev23 hf
              refine lv_istore (lv' := [(4, .int v23), (0, .ref a0), (1, .int x1), (5, .int v16)]) hx hb dX10_sprayed_96 hl (by decide) rfl (fun ls hl => ?_)
              refine lv_iinc (v := (v16 + (1 : Int32))) (lv' := [(5, .int (v16 + (1 : Int32))), (4, .int v23), (0, .ref a0), (1, .int x1)]) hx hb dX10_sprayed_98 hl (k := 3) rfl rfl (by decide) rfl (fun ls hl => ?_)
              refine lv_goto (tgt := 64) hx hb dX10_sprayed_101 (by decide) ?_
              exact ih v23 (v16 + (1 : Int32)) _ _ _ _ hM (lv_sub hl [2, 3, 1, 0] rfl) hf kk
            · have hf := it_n hf hc22
              refine lv_iconst (v := (1 : Int32)) hx hb dX10_sprayed_90 (by decide) ?_
              refine lv_goto (tgt := 95) hx hb dX10_sprayed_91 (by decide) ?_
              refine lv_iadd hx hb dX10_sprayed_95 ?_
              refine lv_topi (fun v24 ev24 => ?_)
              have hf := nm_x ev24 hf
              refine lv_istore (lv' := [(4, .int v24), (0, .ref a0), (1, .int x1), (5, .int v16)]) hx hb dX10_sprayed_96 hl (by decide) rfl (fun ls hl => ?_)
              refine lv_iinc (v := (v16 + (1 : Int32))) (lv' := [(5, .int (v16 + (1 : Int32))), (4, .int v24), (0, .ref a0), (1, .int x1)]) hx hb dX10_sprayed_98 hl (k := 3) rfl rfl (by decide) rfl (fun ls hl => ?_)
              refine lv_goto (tgt := 64) hx hb dX10_sprayed_101 (by decide) ?_
              exact ih v24 (v16 + (1 : Int32)) _ _ _ _ hM (lv_sub hl [2, 3, 1, 0] rfl) hf kk
      refine bd_e hf (fun r17 er17 hf => ?_)
      refine lp64_24 FU (0 : Int32) (0 : Int32) _ _ _ r17 hM (lv_sub hl [2, 3, 1, 0] rfl) er17 (fun H locs ls hM hl => ?_)
      refine lv_aload_n hx hb dX10_sprayed_104 rfl (lv_at hl 0 rfl) ?_
      refine lv_iload_n hx hb dX10_sprayed_105 rfl (lv_at hl 1 rfl) ?_
      refine bd_e hf (fun r25 er25 hf => ?_)
      refine ev_callv (va_runV (As := [.int x1]) (rest := []) S (c_X10_comesBack (l := l) r14 P a0 x1 r25 er25) (cwV 1 hts (gi_v wa_6_0 wa_6_2 wa_s_61 wa_1_11 wa_6_3) rfl rfl rfl (by decide +kernel) ⟨Nat.le_of_ble_eq_true rfl, Nat.le_of_ble_eq_true rfl⟩) ⟨mm_B_blind, ev_recv hK hM (ci := 10) rfl hg2 rfl, fun U hU hW => ⟨rfl, mm_B_of hK hZ hM hU hW⟩⟩ rfl rfl hl.1 rfl (lv_room (Nat.le_of_ble_eq_true rfl)) dX10_sprayed_106 ⟨Nat.zero_le _, Nat.zero_le _⟩) hM (fun H locs hM => ?_)
      refine lv_iload hx hb dX10_sprayed_109 (lv_at hl 2 rfl) ?_
      obtain rfl := Option.some.inj hf
      subst hQ
      exact ev_iret S hr hlocks hK hZ hM dX10_sprayed_111
    · have hf := it_p hf hc5
      refine lv_bipush (v := (-2 : Int32)) hx hb dX10_sprayed_18 (by decide) ?_
      obtain rfl := Option.some.inj hf
      subst hQ
      exact ev_iret S hr hlocks hK hZ hM dX10_sprayed_20
noncomputable def fn_X10_isSheet (x0 : Int32) : Option (Int32) := Option.bind (fn_X10_isIn x0 (0 : Int32) (3 : Int32)) (fun (r1 : Int32) => gd (r1 = 0 ∨ r1 = 1) (some r1))
abbrev wz_X10_isSheet : List Cond := Cond.code yX10_isSheet cX10_isSheet 1 (some .boolean) :: WA
abbrev rm_X10_isSheet : Room := { frames := 2, cells := 0, slots := 0, locals := 34 }
set_option maxHeartbeats 4000000 in
set_option maxRecDepth 100000 in
theorem c_X10_isSheet (I : Nat → Nat → Int32) (P : Nat → Nat → Option Nat) (x0 : Int32) (res : Int32) (hf : fn_X10_isSheet x0 = some res) : Met l yX10_isSheet wz_X10_isSheet rm_X10_isSheet (va_Pc [.int x0] (mm_B D cs A L K N z w I P)) (va_Qi (fun r (_ : Unit) => r = res) (fun _ => mm_B D cs A L K N z w I P) A) 0 0 A := by
  refine Met.ofW (cc := cX10_isSheet) (maxL := 1) (ret := (some .boolean)) (by decide) rfl ?_
  intro p e s m args below meth c s₁ B hml hv
  obtain ⟨rfl, hBm⟩ := hv
  have hx := B.exec
  have hb := B.bytes
  have hr := B.returns
  have hts := atoms_spec (ws := wz_X10_isSheet) B.pre
  have hWA : ∀ w ∈ WA, w.before ([.int x0] : List Value).toArray s = true := fun u9 h9 => hts u9 (List.mem_cons_of_mem _ h9)
  have hown : s.vm.findClass RX10 = some m.cls := findClass_of_methodNamed B.named
  have hlocks := B.notSynchronized
  have S : CallFix p m c cX10_isSheet 1 s ([.int x0] : List Value).toArray wz_X10_isSheet RX10 := ⟨hx, hb, hml, hown, hts⟩
  have hK := hBm.2.2.2.1
  have hZ := hBm.2.2.2.2
  have hM : mm_W D cs A L K N s.heap I P s.heap [] := ⟨hBm.1, hBm.2.1, hBm.2.2.1, va_S.rf⟩
  have hl := lv_entry ([.int x0]) (n := 1) (Nat.le_of_ble_eq_true rfl)
  rw [lg_entry_eq]
  generalize (lg_sl ([.int x0]) ++ List.replicate (1 - (lg_sl ([.int x0])).length) Slot.unset).toArray = ls at hl ⊢
  have hl : lv_has ls 1 [(0, .int x0)] := hl
  generalize hQ : MQ below (va_Qi (fun r (_ : Unit) => r = res) (fun _ => mm_B D cs A L K N z w I P) A) ([.int x0] : List Value).toArray s 0 0 A = QQ
  unfold fn_X10_isSheet at hf
  refine lv_iload_n hx hb dX10_isSheet_0 rfl (lv_at hl 0 rfl) ?_
  refine lv_iconst (v := (0 : Int32)) hx hb dX10_isSheet_1 (by decide) ?_
  refine lv_iconst (v := (3 : Int32)) hx hb dX10_isSheet_2 (by decide) ?_
  refine bd_e hf (fun r1 er1 hf => ?_)
  refine ev_calli (va_runS (As := [.int x0, .int (0 : Int32), .int (3 : Int32)]) (rest := []) S (c_X10_isIn (l := l) I P x0 (0 : Int32) (3 : Int32) r1 er1) (va_cwS 3 hts (gi_s wa_4_218 wa_4_219 wa_1_11 wa_4_220) rfl rfl rfl (by decide +kernel) ⟨Nat.le_of_ble_eq_true rfl, Nat.le_of_ble_eq_true rfl⟩) ⟨mm_B_blind, fun U hU hW => ⟨rfl, mm_B_of hK hZ hM hU hW⟩⟩ rfl rfl hl.1 rfl (lv_room (Nat.le_of_ble_eq_true rfl)) dX10_isSheet_3 ⟨Nat.zero_le _, Nat.zero_le _⟩) hM (fun H locs hM => ?_)
  refine gd_e hf (fun hg2 hf => ?_)
  obtain rfl := Option.some.inj hf
  subst hQ
  exact ev_zret (v := r1) S hr hlocks hK hZ hM (nar_b hg2) dX10_isSheet_6
noncomputable def fn_X10_wrong (K N : Nat → Nat) (I : Nat → Nat → Int32) (P : Nat → Nat → Option Nat) (a0 : Nat) (x1 : Int32) : Option (Int32) := Option.bind (fn_X10_isSheet x1) (fun (r1 : Int32) => if r1 = 0 then (some (-2 : Int32)) else (gd (K a0 = 11) (Option.bind (P a0 (20)) (fun q4 => gd (K q4 = 12 ∧ vp_in x1 (N q4)) (if (I q4 (x1.toNatClampNeg)) = (-1 : Int32) then (some (-11 : Int32)) else (some (0 : Int32)))))))
abbrev wz_X10_wrong : List Cond := Cond.code yX10_wrong cX10_wrong 2 (some .int) :: WA
abbrev rm_X10_wrong : Room := { frames := 3, cells := 0, slots := 0, locals := 54 }
set_option maxHeartbeats 4000000 in
set_option maxRecDepth 100000 in
theorem c_X10_wrong (I : Nat → Nat → Int32) (P : Nat → Nat → Option Nat) (a0 : Nat) (x1 : Int32) (res : Int32) (hf : fn_X10_wrong K N I P a0 x1 = some res) : Met l yX10_wrong wz_X10_wrong rm_X10_wrong (va_Pc [.ref a0, .int x1] (mm_B D cs A L K N z w I P)) (va_Qi (fun r (_ : Unit) => r = res) (fun _ => mm_B D cs A L K N z w I P) A) 0 0 A := by
  refine Met.ofW (cc := cX10_wrong) (maxL := 2) (ret := (some .int)) (by decide) rfl ?_
  intro p e s m args below meth c s₁ B hml hv
  obtain ⟨rfl, hBm⟩ := hv
  have hx := B.exec
  have hb := B.bytes
  have hr := B.returns
  have hts := atoms_spec (ws := wz_X10_wrong) B.pre
  have hWA : ∀ w ∈ WA, w.before ([.ref a0, .int x1] : List Value).toArray s = true := fun u9 h9 => hts u9 (List.mem_cons_of_mem _ h9)
  have hown : s.vm.findClass RX10 = some m.cls := findClass_of_methodNamed B.named
  have hlocks := B.notSynchronized
  have S : CallFix p m c cX10_wrong 2 s ([.ref a0, .int x1] : List Value).toArray wz_X10_wrong RX10 := ⟨hx, hb, hml, hown, hts⟩
  have hK := hBm.2.2.2.1
  have hZ := hBm.2.2.2.2
  have hM : mm_W D cs A L K N s.heap I P s.heap [] := ⟨hBm.1, hBm.2.1, hBm.2.2.1, va_S.rf⟩
  have hl := lv_entry ([.ref a0, .int x1]) (n := 2) (Nat.le_of_ble_eq_true rfl)
  rw [lg_entry_eq]
  generalize (lg_sl ([.ref a0, .int x1]) ++ List.replicate (2 - (lg_sl ([.ref a0, .int x1])).length) Slot.unset).toArray = ls at hl ⊢
  have hl : lv_has ls 2 [(0, .ref a0), (1, .int x1)] := hl
  have hin10 : ∀ w ∈ wsX100, w ∈ wz_X10_wrong := fun w h => List.mem_cons_of_mem _ (wu_X10 w h)
  have lk34 : (Cond.fieldLink RX10 34 RX10 "sort" "[I").before ([.ref a0, .int x1] : List Value).toArray s = true := hWA _ wa_4_161
  generalize hQ : MQ below (va_Qi (fun r (_ : Unit) => r = res) (fun _ => mm_B D cs A L K N z w I P) A) ([.ref a0, .int x1] : List Value).toArray s 0 0 A = QQ
  rw [fn_X10_wrong] at hf
  refine lv_iload_n hx hb dX10_wrong_0 rfl (lv_at hl 1 rfl) ?_
  refine bd_e hf (fun r1 er1 hf => ?_)
  refine ev_calli (va_runS (As := [.int x1]) (rest := []) S (c_X10_isSheet (l := l) I P x1 r1 er1) (va_cwS 1 hts (gi_s wa_6_15 wa_6_16 wa_1_11 wa_6_17) rfl rfl rfl (by decide +kernel) ⟨Nat.le_of_ble_eq_true rfl, Nat.le_of_ble_eq_true rfl⟩) ⟨mm_B_blind, fun U hU hW => ⟨rfl, mm_B_of hK hZ hM hU hW⟩⟩ rfl rfl hl.1 rfl (lv_room (Nat.le_of_ble_eq_true rfl)) dX10_wrong_1 ⟨Nat.zero_le _, Nat.zero_le _⟩) hM (fun H locs hM => ?_)
  refine lv_if_ne (tgt := 12) hx hb dX10_wrong_4 (by decide) (fun hc2 => ?_) (fun hc2 => ?_)
  · have hf := it_n hf hc2
    refine lv_aload_n hx hb dX10_wrong_12 rfl (lv_at hl 0 rfl) ?_
    refine gd_e hf (fun hg3 hf => ?_)
    refine bd_e hf (fun q4 eq4 hf => ?_)
    refine ev_getP (v := q4) S hK hM (ci := 10) (n := 23) (C := RX10) (T := TX10) hin10 rfl hg3 20 (by decide) lk34 rfl rfl eq4 rfl dX10_wrong_13 ?_
    refine lv_iload_n hx hb dX10_wrong_16 rfl (lv_at hl 1 rfl) ?_
    refine gd_e hf (fun hg5 hf => ?_)
    refine ev_iald S hK hM hg5 (j := x1.toNatClampNeg) rfl dX10_wrong_17 ?_
    refine lv_iconst (v := (-1 : Int32)) hx hb dX10_wrong_18 (by decide) ?_
    refine lv_icmp_ne (tgt := 27) hx hb dX10_wrong_19 (by decide) (fun hc6 => ?_) (fun hc6 => ?_)
    · have hf := it_n hf hc6
      refine lv_iconst (v := (0 : Int32)) hx hb dX10_wrong_27 (by decide) ?_
      obtain rfl := Option.some.inj hf
      subst hQ
      exact ev_iret S hr hlocks hK hZ hM dX10_wrong_28
    · have hf := it_p hf hc6
      refine lv_bipush (v := (-11 : Int32)) hx hb dX10_wrong_22 (by decide) ?_
      refine lv_goto (tgt := 28) hx hb dX10_wrong_24 (by decide) ?_
      obtain rfl := Option.some.inj hf
      subst hQ
      exact ev_iret S hr hlocks hK hZ hM dX10_wrong_28
  · have hf := it_p hf hc2
    refine lv_bipush (v := (-2 : Int32)) hx hb dX10_wrong_7 (by decide) ?_
    refine lv_goto (tgt := 28) hx hb dX10_wrong_9 (by decide) ?_
    obtain rfl := Option.some.inj hf
    subst hQ
    exact ev_iret S hr hlocks hK hZ hM dX10_wrong_28
noncomputable def fn_X10_otherwise_L3 (K : Nat → Nat) (N : Nat → Nat) (a0 : Nat) (x1 : Int32) (x2 : Int32) (x3 : Int32) (x4 : Int32) (x5 : Int32) (I : Nat → Nat → Int32) (P : Nat → Nat → Option Nat) : Nat → Int32 → Option ((Int32) ⊕ (Unit))
  | 0, _ => none
  | n + 1, v1 => gd (K a0 = 11) (Option.bind (P a0 (21)) (fun q5 => gd (K q5 = 12 ∧ vp_in x1 (N q5)) (if (I q5 (x1.toNatClampNeg)) ≤ v1 then (some (Sum.inr ())) else (Option.bind (P a0 (22)) (fun q8 => gd (K q8 = 12 ∧ vp_in (((40 : Int32) * x1) + v1) (N q8)) (Option.bind (fn_X10_dotOf v1 x2) (fun (r10 : Int32) => Option.bind (fn_X10_seen K N I P a0 r10 x3 x4 x5) (fun (r11 : Int32) => if (I q8 ((((40 : Int32) * x1) + v1)).toNatClampNeg) = r11 then (fn_X10_otherwise_L3 K N a0 x1 x2 x3 x4 x5 I P n (v1 + (1 : Int32))) else (some (Sum.inl v1))))))))))
noncomputable def fn_X10_otherwise (K N : Nat → Nat) (I : Nat → Nat → Int32) (P : Nat → Nat → Option Nat) (a0 : Nat) (x1 : Int32) (x2 : Int32) (x3 : Int32) (x4 : Int32) (x5 : Int32) : Option (Int32) := Option.bind (fn_X10_otherwise_L3 K N a0 x1 x2 x3 x4 x5 I P FU (0 : Int32)) (fun (r2 : (Int32) ⊕ (Unit)) => Sum.elim (fun t => some t) (fun (xx3 : Unit) => some (-1 : Int32)) r2)
abbrev wz_X10_otherwise : List Cond := Cond.code yX10_otherwise cX10_otherwise 7 (some .int) :: WA
abbrev rm_X10_otherwise : Room := { frames := 4, cells := 0, slots := 0, locals := 81 }
set_option maxHeartbeats 4000000 in
set_option maxRecDepth 100000 in
theorem c_X10_otherwise (I : Nat → Nat → Int32) (P : Nat → Nat → Option Nat) (a0 : Nat) (x1 : Int32) (x2 : Int32) (x3 : Int32) (x4 : Int32) (x5 : Int32) (res : Int32) (hf : fn_X10_otherwise K N I P a0 x1 x2 x3 x4 x5 = some res) : Met l yX10_otherwise wz_X10_otherwise rm_X10_otherwise (va_Pc [.ref a0, .int x1, .int x2, .int x3, .int x4, .int x5] (mm_B D cs A L K N z w I P)) (va_Qi (fun r (_ : Unit) => r = res) (fun _ => mm_B D cs A L K N z w I P) A) 0 0 A := by
  refine Met.ofW (cc := cX10_otherwise) (maxL := 7) (ret := (some .int)) (by decide) rfl ?_
  intro p e s m args below meth c s₁ B hml hv
  obtain ⟨rfl, hBm⟩ := hv
  have hx := B.exec
  have hb := B.bytes
  have hr := B.returns
  have hts := atoms_spec (ws := wz_X10_otherwise) B.pre
  have hWA : ∀ w ∈ WA, w.before ([.ref a0, .int x1, .int x2, .int x3, .int x4, .int x5] : List Value).toArray s = true := fun u9 h9 => hts u9 (List.mem_cons_of_mem _ h9)
  have hown : s.vm.findClass RX10 = some m.cls := findClass_of_methodNamed B.named
  have hlocks := B.notSynchronized
  have S : CallFix p m c cX10_otherwise 7 s ([.ref a0, .int x1, .int x2, .int x3, .int x4, .int x5] : List Value).toArray wz_X10_otherwise RX10 := ⟨hx, hb, hml, hown, hts⟩
  have hK := hBm.2.2.2.1
  have hZ := hBm.2.2.2.2
  have hM : mm_W D cs A L K N s.heap I P s.heap [] := ⟨hBm.1, hBm.2.1, hBm.2.2.1, va_S.rf⟩
  have hl := lv_entry ([.ref a0, .int x1, .int x2, .int x3, .int x4, .int x5]) (n := 7) (Nat.le_of_ble_eq_true rfl)
  rw [lg_entry_eq]
  generalize (lg_sl ([.ref a0, .int x1, .int x2, .int x3, .int x4, .int x5]) ++ List.replicate (7 - (lg_sl ([.ref a0, .int x1, .int x2, .int x3, .int x4, .int x5])).length) Slot.unset).toArray = ls at hl ⊢
  have hl : lv_has ls 7 [(0, .ref a0), (1, .int x1), (2, .int x2), (3, .int x3), (4, .int x4), (5, .int x5)] := hl
  have hin10 : ∀ w ∈ wsX100, w ∈ wz_X10_otherwise := fun w h => List.mem_cons_of_mem _ (wu_X10 w h)
  have lk37 : (Cond.fieldLink RX10 37 RX10 "size" "[I").before ([.ref a0, .int x1, .int x2, .int x3, .int x4, .int x5] : List Value).toArray s = true := hWA _ wa_4_162
  have lk40 : (Cond.fieldLink RX10 40 RX10 "item" "[I").before ([.ref a0, .int x1, .int x2, .int x3, .int x4, .int x5] : List Value).toArray s = true := hWA _ wa_4_163
  generalize hQ : MQ below (va_Qi (fun r (_ : Unit) => r = res) (fun _ => mm_B D cs A L K N z w I P) A) ([.ref a0, .int x1, .int x2, .int x3, .int x4, .int x5] : List Value).toArray s 0 0 A = QQ
  rw [fn_X10_otherwise] at hf
  refine lv_iconst (v := (0 : Int32)) hx hb dX10_otherwise_0 (by decide) ?_
  refine lv_istore (lv' := [(6, .int (0 : Int32)), (0, .ref a0), (1, .int x1), (2, .int x2), (3, .int x3), (4, .int x4), (5, .int x5)]) hx hb dX10_otherwise_1 hl (by decide) rfl (fun ls hl => ?_)
  have lp3_12 : ∀ (n : Nat) (v1 : Int32) (H : Heap) (locs : List Loc) (ls : Array Slot) (r2 : (Int32) ⊕ (Unit)), mm_W D cs A L K N s.heap I P H locs → lv_has ls 7 [(0, .ref a0), (1, .int x1), (2, .int x2), (3, .int x3), (4, .int x4), (5, .int x5), (6, .int v1)] → fn_X10_otherwise_L3 K N a0 x1 x2 x3 x4 x5 I P n v1 = some r2 → (∀ xx3 : Unit, r2 = Sum.inr xx3 → ∀ (H : Heap) (locs : List Loc) (ls : Array Slot), mm_W D cs A L K N s.heap I P H locs → lv_has ls 7 [] → W p l e (headSpec wz_X10_otherwise rm_X10_otherwise).room s m ([.ref a0, .int x1, .int x2, .int x3, .int x4, .int x5] : List Value).toArray below meth c H locs 0 0 QQ (F0 m 53 ls [])) → (∀ t : Int32, r2 = Sum.inl t → t = res) → W p l e (headSpec wz_X10_otherwise rm_X10_otherwise).room s m ([.ref a0, .int x1, .int x2, .int x3, .int x4, .int x5] : List Value).toArray below meth c H locs 0 0 QQ (F0 m 3 ls []) := by
    intro n
    induction n with
    | zero => intro v1 H locs ls r2 hM hl hf kk kr; exact nn_x (show (none : Option ((Int32) ⊕ (Unit))) = some r2 from hf)
    | succ n ih =>
      intro v1 H locs ls r2 hM hl hf kk kr
      rw [fn_X10_otherwise_L3] at hf
      refine lv_iload hx hb dX10_otherwise_3 (lv_at hl 6 rfl) ?_
      refine lv_aload_n hx hb dX10_otherwise_5 rfl (lv_at hl 0 rfl) ?_
      refine gd_e hf (fun hg4 hf => ?_)
      refine bd_e hf (fun q5 eq5 hf => ?_)
      refine ev_getP (v := q5) S hK hM (ci := 10) (n := 23) (C := RX10) (T := TX10) hin10 rfl hg4 21 (by decide) lk37 rfl rfl eq5 rfl dX10_otherwise_6 ?_
      refine lv_iload_n hx hb dX10_otherwise_9 rfl (lv_at hl 1 rfl) ?_
      refine gd_e hf (fun hg6 hf => ?_)
      refine ev_iald S hK hM hg6 (j := x1.toNatClampNeg) rfl dX10_otherwise_10 ?_
      refine lv_icmp_ge (tgt := 53) hx hb dX10_otherwise_11 (by decide) (fun hc7 => ?_) (fun hc7 => ?_)
      · have hf := it_p hf hc7
        exact kk _ (Option.some.inj hf).symm _ _ _ hM (lv_sub hl [] rfl)
      · have hf := it_n hf hc7
        refine lv_aload_n hx hb dX10_otherwise_14 rfl (lv_at hl 0 rfl) ?_
        refine bd_e hf (fun q8 eq8 hf => ?_)
        refine ev_getP (v := q8) S hK hM (ci := 10) (n := 23) (C := RX10) (T := TX10) hin10 rfl hg4 22 (by decide) lk40 rfl rfl eq8 rfl dX10_otherwise_15 ?_
        refine lv_bipush (v := (40 : Int32)) hx hb dX10_otherwise_18 (by decide) ?_
        refine lv_iload_n hx hb dX10_otherwise_20 rfl (lv_at hl 1 rfl) ?_
        refine lv_imul hx hb dX10_otherwise_21 ?_
        refine lv_iload hx hb dX10_otherwise_22 (lv_at hl 6 rfl) ?_
        refine lv_iadd hx hb dX10_otherwise_24 ?_
        refine gd_e hf (fun hg9 hf => ?_)
        refine ev_iald S hK hM hg9 (j := ((((40 : Int32) * x1) + v1)).toNatClampNeg) rfl dX10_otherwise_25 ?_
        refine lv_aload_n hx hb dX10_otherwise_26 rfl (lv_at hl 0 rfl) ?_
        refine lv_iload hx hb dX10_otherwise_27 (lv_at hl 6 rfl) ?_
        refine lv_iload_n hx hb dX10_otherwise_29 rfl (lv_at hl 2 rfl) ?_
        refine bd_e hf (fun r10 er10 hf => ?_)
        refine ev_calli (va_runS (As := [.int v1, .int x2]) (rest := [.ref a0, .int (I q8 ((((40 : Int32) * x1) + v1)).toNatClampNeg)]) S (c_X10_dotOf (l := l) I P v1 x2 r10 er10) (va_cwS 2 hts (gi_s wa_5_43 wa_5_44 wa_1_11 wa_5_45) rfl rfl rfl (by decide +kernel) ⟨Nat.le_of_ble_eq_true rfl, Nat.le_of_ble_eq_true rfl⟩) ⟨mm_B_blind, fun U hU hW => ⟨rfl, mm_B_of hK hZ hM hU hW⟩⟩ rfl rfl hl.1 rfl (lv_room (Nat.le_of_ble_eq_true rfl)) dX10_otherwise_30 ⟨Nat.zero_le _, Nat.zero_le _⟩) hM (fun H locs hM => ?_)
        refine lv_iload_n hx hb dX10_otherwise_33 rfl (lv_at hl 3 rfl) ?_
        refine lv_iload hx hb dX10_otherwise_34 (lv_at hl 4 rfl) ?_
        refine lv_iload hx hb dX10_otherwise_36 (lv_at hl 5 rfl) ?_
        refine bd_e hf (fun r11 er11 hf => ?_)
        refine ev_calli (va_runV (As := [.int r10, .int x3, .int x4, .int x5]) (rest := [.int (I q8 ((((40 : Int32) * x1) + v1)).toNatClampNeg)]) S (c_X10_seen (l := l) I P a0 r10 x3 x4 x5 r11 er11) (cwV 4 hts (gi_v wa_5_50 wa_5_52 wa_s_33 wa_1_11 wa_5_53) rfl rfl rfl (by decide +kernel) ⟨Nat.le_of_ble_eq_true rfl, Nat.le_of_ble_eq_true rfl⟩) ⟨mm_B_blind, ev_recv hK hM (ci := 10) rfl hg4 rfl, fun U hU hW => ⟨rfl, mm_B_of hK hZ hM hU hW⟩⟩ rfl rfl hl.1 rfl (lv_room (Nat.le_of_ble_eq_true rfl)) dX10_otherwise_38 ⟨Nat.zero_le _, Nat.zero_le _⟩) hM (fun H locs hM => ?_)
        refine lv_icmp_eq (tgt := 47) hx hb dX10_otherwise_41 (by decide) (fun hc12 => ?_) (fun hc12 => ?_)
        · have hf := it_p hf hc12
          refine lv_iinc (v := (v1 + (1 : Int32))) (lv' := [(6, .int (v1 + (1 : Int32))), (0, .ref a0), (1, .int x1), (2, .int x2), (3, .int x3), (4, .int x4), (5, .int x5)]) hx hb dX10_otherwise_47 hl (k := 6) rfl rfl (by decide) rfl (fun ls hl => ?_)
          refine lv_goto (tgt := 3) hx hb dX10_otherwise_50 (by decide) ?_
          exact ih (v1 + (1 : Int32)) _ _ _ _ hM (lv_sub hl [1, 2, 3, 4, 5, 6, 0] rfl) hf kk kr
        · have hf := it_n hf hc12
          refine lv_iload hx hb dX10_otherwise_44 (lv_at hl 6 rfl) ?_
          have hrr := kr _ (Option.some.inj hf).symm
          subst hrr
          subst hQ
          exact ev_iret S hr hlocks hK hZ hM dX10_otherwise_46
  refine bd_e hf (fun r2 er2 hf => ?_)
  refine lp3_12 FU (0 : Int32) _ _ _ r2 hM (lv_sub hl [1, 2, 3, 4, 5, 6, 0] rfl) er2 (fun xx3 exxx3 H locs ls hM hl => ?_) (fun t ht => by subst ht; exact Option.some.inj hf)
  subst exxx3
  have hf := sm_r hf
  refine lv_iconst (v := (-1 : Int32)) hx hb dX10_otherwise_53 (by decide) ?_
  obtain rfl := Option.some.inj hf
  subst hQ
  exact ev_iret S hr hlocks hK hZ hM dX10_otherwise_54
noncomputable def fn_X10_tells_L88 (K : Nat → Nat) (N : Nat → Nat) (a0 : Nat) (x1 : Int32) (x2 : Int32) (x3 : Int32) (I : Nat → Nat → Int32) (P : Nat → Nat → Option Nat) : Nat → Int32 → Int32 → Option (Int32)
  | 0, _, _ => none
  | n + 1, v17, v18 => if x3 = (1 : Int32) then (if (256 : Int32) ≤ v18 then (some v17) else (Option.bind (fn_X10_otherwise K N I P a0 x1 x2 v18 (-1 : Int32) (0 : Int32)) (fun (r22 : Int32) => if r22 = (-1 : Int32) then (Option.bind (some (v17 + (1 : Int32))) (fun v25 => fn_X10_tells_L88 K N a0 x1 x2 x3 I P n v25 (v18 + (1 : Int32)))) else (Option.bind (some (v17 + (0 : Int32))) (fun v24 => fn_X10_tells_L88 K N a0 x1 x2 x3 I P n v24 (v18 + (1 : Int32))))))) else (some v17)
noncomputable def fn_X10_tells_L134 (K : Nat → Nat) (N : Nat → Nat) (a0 : Nat) (x1 : Int32) (x2 : Int32) (x3 : Int32) (I : Nat → Nat → Int32) (P : Nat → Nat → Option Nat) (q6 : Nat) : Nat → Int32 → Int32 → Option (Int32)
  | 0, _, _ => none
  | n + 1, v26, v27 => if x3 ≤ (1 : Int32) then (some v26) else (if (6 : Int32) ≤ v27 then (some v26) else (gd (K q6 = 12 ∧ vp_in (1 : Int32) (N q6)) (Option.bind (fn_X10_otherwise K N I P a0 x1 x2 (I q6 (1)) (x3 - (2 : Int32)) v27) (fun (r32 : Int32) => if r32 = (-1 : Int32) then (Option.bind (some (v26 ||| ((1 : Int32) <<< (v27 &&& 31)))) (fun v35 => fn_X10_tells_L134 K N a0 x1 x2 x3 I P q6 n v35 (v27 + (1 : Int32)))) else (Option.bind (some (v26 ||| (0 : Int32))) (fun v34 => fn_X10_tells_L134 K N a0 x1 x2 x3 I P q6 n v34 (v27 + (1 : Int32))))))))
noncomputable def fn_X10_tells (K N : Nat → Nat) (I : Nat → Nat → Int32) (P : Nat → Nat → Option Nat) (a0 : Nat) (x1 : Int32) (x2 : Int32) (x3 : Int32) : Option (Int32) := Option.bind (fn_X10_isSheet x1) (fun (r1 : Int32) => if r1 = 0 then (some (-2 : Int32)) else (Option.bind (fn_X10_isIn x2 (0 : Int32) (11 : Int32)) (fun (r3 : Int32) => if r3 = 0 then (some (-2 : Int32)) else (gd (K a0 = 11) (Option.bind (P a0 (0)) (fun q6 => gd (K q6 = 12 ∧ vp_in (0 : Int32) (N q6)) (Option.bind (fn_X10_isIn x3 (0 : Int32) ((1 : Int32) + (I q6 (0)))) (fun (r8 : Int32) => if r8 = 0 then (some (-2 : Int32)) else (Option.bind (P a0 (20)) (fun q10 => gd (K q10 = 12 ∧ vp_in x1 (N q10)) (if (I q10 (x1.toNatClampNeg)) = (-1 : Int32) then (some (-11 : Int32)) else (Option.bind (P a0 (21)) (fun q13 => gd (K q13 = 12 ∧ vp_in x1 (N q13)) (if (I q13 (x1.toNatClampNeg)) ≤ (16 : Int32) then (if x3 = 0 then (gd (K q6 = 12 ∧ vp_in (1 : Int32) (N q6)) (Option.bind (fn_X10_otherwise K N I P a0 x1 x2 (I q6 (1)) (-1 : Int32) (0 : Int32)) (fun (r37 : Int32) => some r37))) else (Option.bind (fn_X10_tells_L88 K N a0 x1 x2 x3 I P FU (0 : Int32) (0 : Int32)) (fun (r19 : Int32) => Option.bind (fn_X10_tells_L134 K N a0 x1 x2 x3 I P q6 FU r19 (0 : Int32)) (fun (r28 : Int32) => some r28)))) else (some (-2 : Int32))))))))))))))))
abbrev wz_X10_tells : List Cond := Cond.code yX10_tells cX10_tells 6 (some .int) :: WA
abbrev rm_X10_tells : Room := { frames := 5, cells := 0, slots := 0, locals := 107 }
set_option maxHeartbeats 4000000 in
set_option maxRecDepth 100000 in
theorem c_X10_tells (I : Nat → Nat → Int32) (P : Nat → Nat → Option Nat) (a0 : Nat) (x1 : Int32) (x2 : Int32) (x3 : Int32) (res : Int32) (hf : fn_X10_tells K N I P a0 x1 x2 x3 = some res) : Met l yX10_tells wz_X10_tells rm_X10_tells (va_Pc [.ref a0, .int x1, .int x2, .int x3] (mm_B D cs A L K N z w I P)) (va_Qi (fun r (_ : Unit) => r = res) (fun _ => mm_B D cs A L K N z w I P) A) 0 0 A := by
  refine Met.ofW (cc := cX10_tells) (maxL := 6) (ret := (some .int)) (by decide) rfl ?_
  intro p e s m args below meth c s₁ B hml hv
  obtain ⟨rfl, hBm⟩ := hv
  have hx := B.exec
  have hb := B.bytes
  have hr := B.returns
  have hts := atoms_spec (ws := wz_X10_tells) B.pre
  have hWA : ∀ w ∈ WA, w.before ([.ref a0, .int x1, .int x2, .int x3] : List Value).toArray s = true := fun u9 h9 => hts u9 (List.mem_cons_of_mem _ h9)
  have hown : s.vm.findClass RX10 = some m.cls := findClass_of_methodNamed B.named
  have hlocks := B.notSynchronized
  have S : CallFix p m c cX10_tells 6 s ([.ref a0, .int x1, .int x2, .int x3] : List Value).toArray wz_X10_tells RX10 := ⟨hx, hb, hml, hown, hts⟩
  have hK := hBm.2.2.2.1
  have hZ := hBm.2.2.2.2
  have hM : mm_W D cs A L K N s.heap I P s.heap [] := ⟨hBm.1, hBm.2.1, hBm.2.2.1, va_S.rf⟩
  have hl := lv_entry ([.ref a0, .int x1, .int x2, .int x3]) (n := 6) (Nat.le_of_ble_eq_true rfl)
  rw [lg_entry_eq]
  generalize (lg_sl ([.ref a0, .int x1, .int x2, .int x3]) ++ List.replicate (6 - (lg_sl ([.ref a0, .int x1, .int x2, .int x3])).length) Slot.unset).toArray = ls at hl ⊢
  have hl : lv_has ls 6 [(0, .ref a0), (1, .int x1), (2, .int x2), (3, .int x3)] := hl
  have hin10 : ∀ w ∈ wsX100, w ∈ wz_X10_tells := fun w h => List.mem_cons_of_mem _ (wu_X10 w h)
  have lk9 : (Cond.fieldLink RX10 9 RX10 "g" "[I").before ([.ref a0, .int x1, .int x2, .int x3] : List Value).toArray s = true := hWA _ wa_4_141
  have lk34 : (Cond.fieldLink RX10 34 RX10 "sort" "[I").before ([.ref a0, .int x1, .int x2, .int x3] : List Value).toArray s = true := hWA _ wa_4_161
  have lk37 : (Cond.fieldLink RX10 37 RX10 "size" "[I").before ([.ref a0, .int x1, .int x2, .int x3] : List Value).toArray s = true := hWA _ wa_4_162
  generalize hQ : MQ below (va_Qi (fun r (_ : Unit) => r = res) (fun _ => mm_B D cs A L K N z w I P) A) ([.ref a0, .int x1, .int x2, .int x3] : List Value).toArray s 0 0 A = QQ
  rw [fn_X10_tells] at hf
  refine lv_iload_n hx hb dX10_tells_0 rfl (lv_at hl 1 rfl) ?_
  refine bd_e hf (fun r1 er1 hf => ?_)
  refine ev_calli (va_runS (As := [.int x1]) (rest := []) S (c_X10_isSheet (l := l) I P x1 r1 er1) (va_cwS 1 hts (gi_s wa_6_15 wa_6_16 wa_1_11 wa_6_17) rfl rfl rfl (by decide +kernel) ⟨Nat.le_of_ble_eq_true rfl, Nat.le_of_ble_eq_true rfl⟩) ⟨mm_B_blind, fun U hU hW => ⟨rfl, mm_B_of hK hZ hM hU hW⟩⟩ rfl rfl hl.1 rfl (lv_room (Nat.le_of_ble_eq_true rfl)) dX10_tells_1 ⟨Nat.zero_le _, Nat.zero_le _⟩) hM (fun H locs hM => ?_)
  refine lv_if_eq (tgt := 33) hx hb dX10_tells_4 (by decide) (fun hc2 => ?_) (fun hc2 => ?_)
  · have hf := it_p hf hc2
    refine lv_bipush (v := (-2 : Int32)) hx hb dX10_tells_33 (by decide) ?_
    obtain rfl := Option.some.inj hf
    subst hQ
    exact ev_iret S hr hlocks hK hZ hM dX10_tells_35
  · have hf := it_n hf hc2
    refine lv_iload_n hx hb dX10_tells_7 rfl (lv_at hl 2 rfl) ?_
    refine lv_iconst (v := (0 : Int32)) hx hb dX10_tells_8 (by decide) ?_
    refine lv_bipush (v := (11 : Int32)) hx hb dX10_tells_9 (by decide) ?_
    refine bd_e hf (fun r3 er3 hf => ?_)
    refine ev_calli (va_runS (As := [.int x2, .int (0 : Int32), .int (11 : Int32)]) (rest := []) S (c_X10_isIn (l := l) I P x2 (0 : Int32) (11 : Int32) r3 er3) (va_cwS 3 hts (gi_s wa_4_218 wa_4_219 wa_1_11 wa_4_220) rfl rfl rfl (by decide +kernel) ⟨Nat.le_of_ble_eq_true rfl, Nat.le_of_ble_eq_true rfl⟩) ⟨mm_B_blind, fun U hU hW => ⟨rfl, mm_B_of hK hZ hM hU hW⟩⟩ rfl rfl hl.1 rfl (lv_room (Nat.le_of_ble_eq_true rfl)) dX10_tells_11 ⟨Nat.zero_le _, Nat.zero_le _⟩) hM (fun H locs hM => ?_)
    refine lv_if_eq (tgt := 33) hx hb dX10_tells_14 (by decide) (fun hc4 => ?_) (fun hc4 => ?_)
    · have hf := it_p hf hc4
      refine lv_bipush (v := (-2 : Int32)) hx hb dX10_tells_33 (by decide) ?_
      obtain rfl := Option.some.inj hf
      subst hQ
      exact ev_iret S hr hlocks hK hZ hM dX10_tells_35
    · have hf := it_n hf hc4
      refine lv_iload_n hx hb dX10_tells_17 rfl (lv_at hl 3 rfl) ?_
      refine lv_iconst (v := (0 : Int32)) hx hb dX10_tells_18 (by decide) ?_
      refine lv_iconst (v := (1 : Int32)) hx hb dX10_tells_19 (by decide) ?_
      refine lv_aload_n hx hb dX10_tells_20 rfl (lv_at hl 0 rfl) ?_
      refine gd_e hf (fun hg5 hf => ?_)
      refine bd_e hf (fun q6 eq6 hf => ?_)
      refine ev_getP (v := q6) S hK hM (ci := 10) (n := 23) (C := RX10) (T := TX10) hin10 rfl hg5 0 (by decide) lk9 rfl rfl eq6 rfl dX10_tells_21 ?_
      refine lv_iconst (v := (0 : Int32)) hx hb dX10_tells_24 (by decide) ?_
      refine gd_e hf (fun hg7 hf => ?_)
      refine ev_iald S hK hM hg7 (j := 0) rfl dX10_tells_25 ?_
      refine lv_iadd hx hb dX10_tells_26 ?_
      refine bd_e hf (fun r8 er8 hf => ?_)
      refine ev_calli (va_runS (As := [.int x3, .int (0 : Int32), .int ((1 : Int32) + (I q6 (0)))]) (rest := []) S (c_X10_isIn (l := l) I P x3 (0 : Int32) ((1 : Int32) + (I q6 (0))) r8 er8) (va_cwS 3 hts (gi_s wa_4_218 wa_4_219 wa_1_11 wa_4_220) rfl rfl rfl (by decide +kernel) ⟨Nat.le_of_ble_eq_true rfl, Nat.le_of_ble_eq_true rfl⟩) ⟨mm_B_blind, fun U hU hW => ⟨rfl, mm_B_of hK hZ hM hU hW⟩⟩ rfl rfl hl.1 rfl (lv_room (Nat.le_of_ble_eq_true rfl)) dX10_tells_27 ⟨Nat.zero_le _, Nat.zero_le _⟩) hM (fun H locs hM => ?_)
      refine lv_if_ne (tgt := 36) hx hb dX10_tells_30 (by decide) (fun hc9 => ?_) (fun hc9 => ?_)
      · have hf := it_n hf hc9
        refine lv_aload_n hx hb dX10_tells_36 rfl (lv_at hl 0 rfl) ?_
        refine bd_e hf (fun q10 eq10 hf => ?_)
        refine ev_getP (v := q10) S hK hM (ci := 10) (n := 23) (C := RX10) (T := TX10) hin10 rfl hg5 20 (by decide) lk34 rfl rfl eq10 rfl dX10_tells_37 ?_
        refine lv_iload_n hx hb dX10_tells_40 rfl (lv_at hl 1 rfl) ?_
        refine gd_e hf (fun hg11 hf => ?_)
        refine ev_iald S hK hM hg11 (j := x1.toNatClampNeg) rfl dX10_tells_41 ?_
        refine lv_iconst (v := (-1 : Int32)) hx hb dX10_tells_42 (by decide) ?_
        refine lv_icmp_ne (tgt := 49) hx hb dX10_tells_43 (by decide) (fun hc12 => ?_) (fun hc12 => ?_)
        · have hf := it_n hf hc12
          refine lv_aload_n hx hb dX10_tells_49 rfl (lv_at hl 0 rfl) ?_
          refine bd_e hf (fun q13 eq13 hf => ?_)
          refine ev_getP (v := q13) S hK hM (ci := 10) (n := 23) (C := RX10) (T := TX10) hin10 rfl hg5 21 (by decide) lk37 rfl rfl eq13 rfl dX10_tells_50 ?_
          refine lv_iload_n hx hb dX10_tells_53 rfl (lv_at hl 1 rfl) ?_
          refine gd_e hf (fun hg14 hf => ?_)
          refine ev_iald S hK hM hg14 (j := x1.toNatClampNeg) rfl dX10_tells_54 ?_
          refine lv_bipush (v := (16 : Int32)) hx hb dX10_tells_55 (by decide) ?_
          refine lv_icmp_le (tgt := 63) hx hb dX10_tells_57 (by decide) (fun hc15 => ?_) (fun hc15 => ?_)
          · have hf := it_p hf hc15
            refine lv_iload_n hx hb dX10_tells_63 rfl (lv_at hl 3 rfl) ?_
            refine lv_if_ne (tgt := 82) hx hb dX10_tells_64 (by decide) (fun hc16 => ?_) (fun hc16 => ?_)
            · have hf := it_n hf hc16
              refine lv_iconst (v := (0 : Int32)) hx hb dX10_tells_82 (by decide) ?_
              refine lv_istore (lv' := [(4, .int (0 : Int32)), (0, .ref a0), (1, .int x1), (2, .int x2), (3, .int x3)]) hx hb dX10_tells_83 hl (by decide) rfl (fun ls hl => ?_)
              refine lv_iconst (v := (0 : Int32)) hx hb dX10_tells_85 (by decide) ?_
              refine lv_istore (lv' := [(5, .int (0 : Int32)), (4, .int (0 : Int32)), (0, .ref a0), (1, .int x1), (2, .int x2), (3, .int x3)]) hx hb dX10_tells_86 hl (by decide) rfl (fun ls hl => ?_)
              have lp88_25 : ∀ (n : Nat) (v17 : Int32) (v18 : Int32) (H : Heap) (locs : List Loc) (ls : Array Slot) (r19 : Int32), mm_W D cs A L K N s.heap I P H locs → lv_has ls 6 [(0, .ref a0), (1, .int x1), (2, .int x2), (3, .int x3), (4, .int v17), (5, .int v18)] → fn_X10_tells_L88 K N a0 x1 x2 x3 I P n v17 v18 = some r19 → (∀ (H : Heap) (locs : List Loc) (ls : Array Slot), mm_W D cs A L K N s.heap I P H locs → lv_has ls 6 [(0, .ref a0), (1, .int x1), (2, .int x2), (3, .int x3), (4, .int r19)] → W p l e (headSpec wz_X10_tells rm_X10_tells).room s m ([.ref a0, .int x1, .int x2, .int x3] : List Value).toArray below meth c H locs 0 0 QQ (F0 m 131 ls [])) → W p l e (headSpec wz_X10_tells rm_X10_tells).room s m ([.ref a0, .int x1, .int x2, .int x3] : List Value).toArray below meth c H locs 0 0 QQ (F0 m 88 ls []) := by
                intro n
                induction n with
                | zero => intro v17 v18 H locs ls r19 hM hl hf kk; exact nn_x (show (none : Option (Int32)) = some r19 from hf)
                | succ n ih =>
                  intro v17 v18 H locs ls r19 hM hl hf kk
                  rw [fn_X10_tells_L88] at hf
                  refine lv_iload_n hx hb dX10_tells_88 rfl (lv_at hl 3 rfl) ?_
                  refine lv_iconst (v := (1 : Int32)) hx hb dX10_tells_89 (by decide) ?_
                  refine lv_icmp_ne (tgt := 131) hx hb dX10_tells_90 (by decide) (fun hc20 => ?_) (fun hc20 => ?_)
                  · have hf := it_n hf hc20
                    obtain rfl := Option.some.inj hf
                    exact kk _ _ _ hM (lv_sub hl [0, 1, 2, 3, 4] rfl)
                  · have hf := it_p hf hc20
                    refine lv_iload hx hb dX10_tells_93 (lv_at hl 5 rfl) ?_
                    refine lv_sipush (v := (256 : Int32)) hx hb dX10_tells_95 (by decide) ?_
                    refine lv_icmp_ge (tgt := 131) hx hb dX10_tells_98 (by decide) (fun hc21 => ?_) (fun hc21 => ?_)
                    · have hf := it_p hf hc21
                      obtain rfl := Option.some.inj hf
                      exact kk _ _ _ hM (lv_sub hl [0, 1, 2, 3, 4] rfl)
                    · have hf := it_n hf hc21
                      refine lv_iload hx hb dX10_tells_101 (lv_at hl 4 rfl) ?_
                      refine lv_aload_n hx hb dX10_tells_103 rfl (lv_at hl 0 rfl) ?_
                      refine lv_iload_n hx hb dX10_tells_104 rfl (lv_at hl 1 rfl) ?_
                      refine lv_iload_n hx hb dX10_tells_105 rfl (lv_at hl 2 rfl) ?_
                      refine lv_iload hx hb dX10_tells_106 (lv_at hl 5 rfl) ?_
                      refine lv_iconst (v := (-1 : Int32)) hx hb dX10_tells_108 (by decide) ?_
                      refine lv_iconst (v := (0 : Int32)) hx hb dX10_tells_109 (by decide) ?_
                      refine bd_e hf (fun r22 er22 hf => ?_)
                      refine ev_calli (va_runV (As := [.int x1, .int x2, .int v18, .int (-1 : Int32), .int (0 : Int32)]) (rest := [.int v17]) S (c_X10_otherwise (l := l) I P a0 x1 x2 v18 (-1 : Int32) (0 : Int32) r22 er22) (cwV 5 hts (gi_v wa_6_18 wa_6_20 wa_s_62 wa_1_11 wa_6_21) rfl rfl rfl (by decide +kernel) ⟨Nat.le_of_ble_eq_true rfl, Nat.le_of_ble_eq_true rfl⟩) ⟨mm_B_blind, ev_recv hK hM (ci := 10) rfl hg5 rfl, fun U hU hW => ⟨rfl, mm_B_of hK hZ hM hU hW⟩⟩ rfl rfl hl.1 rfl (lv_room (Nat.le_of_ble_eq_true rfl)) dX10_tells_110 ⟨Nat.zero_le _, Nat.zero_le _⟩) hM (fun H locs hM => ?_)
                      refine lv_iconst (v := (-1 : Int32)) hx hb dX10_tells_113 (by decide) ?_
                      refine lv_icmp_ne (tgt := 121) hx hb dX10_tells_114 (by decide) (fun hc23 => ?_) (fun hc23 => ?_)
                      · have hf := it_n hf hc23
                        refine lv_iconst (v := (0 : Int32)) hx hb dX10_tells_121 (by decide) ?_
                        refine lv_iadd hx hb dX10_tells_122 ?_
                        refine lv_topi (fun v24 ev24 => ?_)
                        have hf := nm_x ev24 hf
                        refine lv_istore (lv' := [(4, .int v24), (0, .ref a0), (1, .int x1), (2, .int x2), (3, .int x3), (5, .int v18)]) hx hb dX10_tells_123 hl (by decide) rfl (fun ls hl => ?_)
                        refine lv_iinc (v := (v18 + (1 : Int32))) (lv' := [(5, .int (v18 + (1 : Int32))), (4, .int v24), (0, .ref a0), (1, .int x1), (2, .int x2), (3, .int x3)]) hx hb dX10_tells_125 hl (k := 5) rfl rfl (by decide) rfl (fun ls hl => ?_)
                        refine lv_goto (tgt := 88) hx hb dX10_tells_128 (by decide) ?_
                        exact ih v24 (v18 + (1 : Int32)) _ _ _ _ hM (lv_sub hl [2, 3, 4, 5, 1, 0] rfl) hf kk
                      · have hf := it_p hf hc23
                        refine lv_iconst (v := (1 : Int32)) hx hb dX10_tells_117 (by decide) ?_
                        refine lv_goto (tgt := 122) hx hb dX10_tells_118 (by decide) ?_
                        refine lv_iadd hx hb dX10_tells_122 ?_
                        refine lv_topi (fun v25 ev25 => ?_)
                        have hf := nm_x ev25 hf
                        refine lv_istore (lv' := [(4, .int v25), (0, .ref a0), (1, .int x1), (2, .int x2), (3, .int x3), (5, .int v18)]) hx hb dX10_tells_123 hl (by decide) rfl (fun ls hl => ?_)
                        refine lv_iinc (v := (v18 + (1 : Int32))) (lv' := [(5, .int (v18 + (1 : Int32))), (4, .int v25), (0, .ref a0), (1, .int x1), (2, .int x2), (3, .int x3)]) hx hb dX10_tells_125 hl (k := 5) rfl rfl (by decide) rfl (fun ls hl => ?_)
                        refine lv_goto (tgt := 88) hx hb dX10_tells_128 (by decide) ?_
                        exact ih v25 (v18 + (1 : Int32)) _ _ _ _ hM (lv_sub hl [2, 3, 4, 5, 1, 0] rfl) hf kk
              refine bd_e hf (fun r19 er19 hf => ?_)
              refine lp88_25 FU (0 : Int32) (0 : Int32) _ _ _ r19 hM (lv_sub hl [2, 3, 4, 5, 1, 0] rfl) er19 (fun H locs ls hM hl => ?_)
              refine lv_iconst (v := (0 : Int32)) hx hb dX10_tells_131 (by decide) ?_
              refine lv_istore (lv' := [(5, .int (0 : Int32)), (0, .ref a0), (1, .int x1), (2, .int x2), (3, .int x3), (4, .int r19)]) hx hb dX10_tells_132 hl (by decide) rfl (fun ls hl => ?_)
              have lp134_35 : ∀ (n : Nat) (v26 : Int32) (v27 : Int32) (H : Heap) (locs : List Loc) (ls : Array Slot) (r28 : Int32), mm_W D cs A L K N s.heap I P H locs → lv_has ls 6 [(0, .ref a0), (1, .int x1), (2, .int x2), (3, .int x3), (4, .int v26), (5, .int v27)] → fn_X10_tells_L134 K N a0 x1 x2 x3 I P q6 n v26 v27 = some r28 → (∀ (H : Heap) (locs : List Loc) (ls : Array Slot), mm_W D cs A L K N s.heap I P H locs → lv_has ls 6 [(4, .int r28)] → W p l e (headSpec wz_X10_tells rm_X10_tells).room s m ([.ref a0, .int x1, .int x2, .int x3] : List Value).toArray below meth c H locs 0 0 QQ (F0 m 186 ls [])) → W p l e (headSpec wz_X10_tells rm_X10_tells).room s m ([.ref a0, .int x1, .int x2, .int x3] : List Value).toArray below meth c H locs 0 0 QQ (F0 m 134 ls []) := by
                intro n
                induction n with
                | zero => intro v26 v27 H locs ls r28 hM hl hf kk; exact nn_x (show (none : Option (Int32)) = some r28 from hf)
                | succ n ih =>
                  intro v26 v27 H locs ls r28 hM hl hf kk
                  rw [fn_X10_tells_L134] at hf
                  refine lv_iload_n hx hb dX10_tells_134 rfl (lv_at hl 3 rfl) ?_
                  refine lv_iconst (v := (1 : Int32)) hx hb dX10_tells_135 (by decide) ?_
                  refine lv_icmp_le (tgt := 186) hx hb dX10_tells_136 (by decide) (fun hc29 => ?_) (fun hc29 => ?_)
                  · have hf := it_p hf hc29
                    obtain rfl := Option.some.inj hf
                    exact kk _ _ _ hM (lv_sub hl [4] rfl)
                  · have hf := it_n hf hc29
                    refine lv_iload hx hb dX10_tells_139 (lv_at hl 5 rfl) ?_
                    refine lv_bipush (v := (6 : Int32)) hx hb dX10_tells_141 (by decide) ?_
                    refine lv_icmp_ge (tgt := 186) hx hb dX10_tells_143 (by decide) (fun hc30 => ?_) (fun hc30 => ?_)
                    · have hf := it_p hf hc30
                      obtain rfl := Option.some.inj hf
                      exact kk _ _ _ hM (lv_sub hl [4] rfl)
                    · have hf := it_n hf hc30
                      refine lv_iload hx hb dX10_tells_146 (lv_at hl 4 rfl) ?_
                      refine lv_aload_n hx hb dX10_tells_148 rfl (lv_at hl 0 rfl) ?_
                      refine lv_iload_n hx hb dX10_tells_149 rfl (lv_at hl 1 rfl) ?_
                      refine lv_iload_n hx hb dX10_tells_150 rfl (lv_at hl 2 rfl) ?_
                      refine lv_aload_n hx hb dX10_tells_151 rfl (lv_at hl 0 rfl) ?_
                      refine ev_getP (v := q6) S hK hM (ci := 10) (n := 23) (C := RX10) (T := TX10) hin10 rfl hg5 0 (by decide) lk9 rfl rfl eq6 rfl dX10_tells_152 ?_
                      refine lv_iconst (v := (1 : Int32)) hx hb dX10_tells_155 (by decide) ?_
                      refine gd_e hf (fun hg31 hf => ?_)
                      refine ev_iald S hK hM hg31 (j := 1) rfl dX10_tells_156 ?_
                      refine lv_iload_n hx hb dX10_tells_157 rfl (lv_at hl 3 rfl) ?_
                      refine lv_iconst (v := (2 : Int32)) hx hb dX10_tells_158 (by decide) ?_
                      refine lv_isub hx hb dX10_tells_159 ?_
                      refine lv_iload hx hb dX10_tells_160 (lv_at hl 5 rfl) ?_
                      refine bd_e hf (fun r32 er32 hf => ?_)
                      refine ev_calli (va_runV (As := [.int x1, .int x2, .int (I q6 (1)), .int (x3 - (2 : Int32)), .int v27]) (rest := [.int v26]) S (c_X10_otherwise (l := l) I P a0 x1 x2 (I q6 (1)) (x3 - (2 : Int32)) v27 r32 er32) (cwV 5 hts (gi_v wa_6_18 wa_6_20 wa_s_62 wa_1_11 wa_6_21) rfl rfl rfl (by decide +kernel) ⟨Nat.le_of_ble_eq_true rfl, Nat.le_of_ble_eq_true rfl⟩) ⟨mm_B_blind, ev_recv hK hM (ci := 10) rfl hg5 rfl, fun U hU hW => ⟨rfl, mm_B_of hK hZ hM hU hW⟩⟩ rfl rfl hl.1 rfl (lv_room (Nat.le_of_ble_eq_true rfl)) dX10_tells_162 ⟨Nat.zero_le _, Nat.zero_le _⟩) hM (fun H locs hM => ?_)
                      refine lv_iconst (v := (-1 : Int32)) hx hb dX10_tells_165 (by decide) ?_
                      refine lv_icmp_ne (tgt := 176) hx hb dX10_tells_166 (by decide) (fun hc33 => ?_) (fun hc33 => ?_)
                      · have hf := it_n hf hc33
                        refine lv_iconst (v := (0 : Int32)) hx hb dX10_tells_176 (by decide) ?_
                        refine lv_ior hx hb dX10_tells_177 ?_
                        refine lv_topi (fun v34 ev34 => ?_)
                        have hf := nm_x ev34 hf
                        refine lv_istore (lv' := [(4, .int v34), (0, .ref a0), (1, .int x1), (2, .int x2), (3, .int x3), (5, .int v27)]) hx hb dX10_tells_178 hl (by decide) rfl (fun ls hl => ?_)
                        refine lv_iinc (v := (v27 + (1 : Int32))) (lv' := [(5, .int (v27 + (1 : Int32))), (4, .int v34), (0, .ref a0), (1, .int x1), (2, .int x2), (3, .int x3)]) hx hb dX10_tells_180 hl (k := 5) rfl rfl (by decide) rfl (fun ls hl => ?_)
                        refine lv_goto (tgt := 134) hx hb dX10_tells_183 (by decide) ?_
                        exact ih v34 (v27 + (1 : Int32)) _ _ _ _ hM (lv_sub hl [2, 3, 4, 5, 1, 0] rfl) hf kk
                      · have hf := it_p hf hc33
                        refine lv_iconst (v := (1 : Int32)) hx hb dX10_tells_169 (by decide) ?_
                        refine lv_iload hx hb dX10_tells_170 (lv_at hl 5 rfl) ?_
                        refine lv_ishl hx hb dX10_tells_172 ?_
                        refine lv_goto (tgt := 177) hx hb dX10_tells_173 (by decide) ?_
                        refine lv_ior hx hb dX10_tells_177 ?_
                        refine lv_topi (fun v35 ev35 => ?_)
                        have hf := nm_x ev35 hf
                        refine lv_istore (lv' := [(4, .int v35), (0, .ref a0), (1, .int x1), (2, .int x2), (3, .int x3), (5, .int v27)]) hx hb dX10_tells_178 hl (by decide) rfl (fun ls hl => ?_)
                        refine lv_iinc (v := (v27 + (1 : Int32))) (lv' := [(5, .int (v27 + (1 : Int32))), (4, .int v35), (0, .ref a0), (1, .int x1), (2, .int x2), (3, .int x3)]) hx hb dX10_tells_180 hl (k := 5) rfl rfl (by decide) rfl (fun ls hl => ?_)
                        refine lv_goto (tgt := 134) hx hb dX10_tells_183 (by decide) ?_
                        exact ih v35 (v27 + (1 : Int32)) _ _ _ _ hM (lv_sub hl [2, 3, 4, 5, 1, 0] rfl) hf kk
              refine bd_e hf (fun r28 er28 hf => ?_)
              refine lp134_35 FU r19 (0 : Int32) _ _ _ r28 hM (lv_sub hl [1, 2, 3, 4, 5, 0] rfl) er28 (fun H locs ls hM hl => ?_)
              refine lv_iload hx hb dX10_tells_186 (lv_at hl 0 rfl) ?_
              obtain rfl := Option.some.inj hf
              subst hQ
              exact ev_iret S hr hlocks hK hZ hM dX10_tells_188
            · have hf := it_p hf hc16
              refine lv_aload_n hx hb dX10_tells_67 rfl (lv_at hl 0 rfl) ?_
              refine lv_iload_n hx hb dX10_tells_68 rfl (lv_at hl 1 rfl) ?_
              refine lv_iload_n hx hb dX10_tells_69 rfl (lv_at hl 2 rfl) ?_
              refine lv_aload_n hx hb dX10_tells_70 rfl (lv_at hl 0 rfl) ?_
              refine ev_getP (v := q6) S hK hM (ci := 10) (n := 23) (C := RX10) (T := TX10) hin10 rfl hg5 0 (by decide) lk9 rfl rfl eq6 rfl dX10_tells_71 ?_
              refine lv_iconst (v := (1 : Int32)) hx hb dX10_tells_74 (by decide) ?_
              refine gd_e hf (fun hg36 hf => ?_)
              refine ev_iald S hK hM hg36 (j := 1) rfl dX10_tells_75 ?_
              refine lv_iconst (v := (-1 : Int32)) hx hb dX10_tells_76 (by decide) ?_
              refine lv_iconst (v := (0 : Int32)) hx hb dX10_tells_77 (by decide) ?_
              refine bd_e hf (fun r37 er37 hf => ?_)
              refine ev_calli (va_runV (As := [.int x1, .int x2, .int (I q6 (1)), .int (-1 : Int32), .int (0 : Int32)]) (rest := []) S (c_X10_otherwise (l := l) I P a0 x1 x2 (I q6 (1)) (-1 : Int32) (0 : Int32) r37 er37) (cwV 5 hts (gi_v wa_6_18 wa_6_20 wa_s_62 wa_1_11 wa_6_21) rfl rfl rfl (by decide +kernel) ⟨Nat.le_of_ble_eq_true rfl, Nat.le_of_ble_eq_true rfl⟩) ⟨mm_B_blind, ev_recv hK hM (ci := 10) rfl hg5 rfl, fun U hU hW => ⟨rfl, mm_B_of hK hZ hM hU hW⟩⟩ rfl rfl hl.1 rfl (lv_room (Nat.le_of_ble_eq_true rfl)) dX10_tells_78 ⟨Nat.zero_le _, Nat.zero_le _⟩) hM (fun H locs hM => ?_)
              obtain rfl := Option.some.inj hf
              subst hQ
              exact ev_iret S hr hlocks hK hZ hM dX10_tells_81
          · have hf := it_n hf hc15
            refine lv_bipush (v := (-2 : Int32)) hx hb dX10_tells_60 (by decide) ?_
            obtain rfl := Option.some.inj hf
            subst hQ
            exact ev_iret S hr hlocks hK hZ hM dX10_tells_62
        · have hf := it_p hf hc12
          refine lv_bipush (v := (-11 : Int32)) hx hb dX10_tells_46 (by decide) ?_
          obtain rfl := Option.some.inj hf
          subst hQ
          exact ev_iret S hr hlocks hK hZ hM dX10_tells_48
      · have hf := it_p hf hc9
        refine lv_bipush (v := (-2 : Int32)) hx hb dX10_tells_33 (by decide) ?_
        obtain rfl := Option.some.inj hf
        subst hQ
        exact ev_iret S hr hlocks hK hZ hM dX10_tells_35
end G07
