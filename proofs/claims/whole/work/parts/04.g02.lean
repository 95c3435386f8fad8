section G02
variable {l : Launch} {D : va_G} {cs : mm_C} {A : Nat → Prop} {L : List Nat} {K N z : Nat → Nat} {w : Option Nat}
noncomputable def fn_X3_isHeldAs (K N : Nat → Nat) (I : Nat → Nat → Int32) (P : Nat → Nat → Option Nat) (a0 : Nat) (x1 : Int32) (x2 : Int32) (x3 : Int32) : Option (Int32) := Option.bind (fn_X9_isDot x2 x3) (fun (r1 : Int32) => if r1 = 0 then (some (0 : Int32)) else (Option.bind (fn_X9_dotAt x2 x3) (fun (r3 : Int32) => gd (K a0 = 13 ∧ vp_in r3 (N a0)) (if (I a0 (r3.toNatClampNeg)) = x1 then (some (1 : Int32)) else (some (0 : Int32))))))
abbrev wz_X3_isHeldAs : List Cond := Cond.code yX3_isHeldAs cX3_isHeldAs 4 (some .boolean) :: WA
abbrev rm_X3_isHeldAs : Room := { frames := 4, cells := 0, slots := 0, locals := 75 }
set_option maxHeartbeats 4000000 in
set_option maxRecDepth 100000 in
theorem c_X3_isHeldAs (I : Nat → Nat → Int32) (P : Nat → Nat → Option Nat) (a0 : Nat) (x1 : Int32) (x2 : Int32) (x3 : Int32) (res : Int32) (hf : fn_X3_isHeldAs K N I P a0 x1 x2 x3 = some res) : Met l yX3_isHeldAs wz_X3_isHeldAs rm_X3_isHeldAs (va_Pc [.ref a0, .int x1, .int x2, .int x3] (mm_B D cs A L K N z w I P)) (va_Qi (fun r (_ : Unit) => r = res) (fun _ => mm_B D cs A L K N z w I P) A) 0 0 A := by
  refine Met.ofW (cc := cX3_isHeldAs) (maxL := 4) (ret := (some .boolean)) (by decide) rfl ?_
  intro p e s m args below meth c s₁ B hml hv
  obtain ⟨rfl, hBm⟩ := hv
  have hx := B.exec
  have hb := B.bytes
  have hr := B.returns
  have hts := atoms_spec (ws := wz_X3_isHeldAs) B.pre
  have hWA : ∀ w ∈ WA, w.before ([.ref a0, .int x1, .int x2, .int x3] : List Value).toArray s = true := fun u9 h9 => hts u9 (List.mem_cons_of_mem _ h9)
  have hown : s.vm.findClass RX3 = some m.cls := findClass_of_methodNamed B.named
  have hlocks := B.notSynchronized
  have S : CallFix p m c cX3_isHeldAs 4 s ([.ref a0, .int x1, .int x2, .int x3] : List Value).toArray wz_X3_isHeldAs RX3 := ⟨hx, hb, hml, hown, hts⟩
  have hK := hBm.2.2.2.1
  have hZ := hBm.2.2.2.2
  have hM : mm_W D cs A L K N s.heap I P s.heap [] := ⟨hBm.1, hBm.2.1, hBm.2.2.1, va_S.rf⟩
  have hl := lv_entry ([.ref a0, .int x1, .int x2, .int x3]) (n := 4) (Nat.le_of_ble_eq_true rfl)
  rw [lg_entry_eq]
  generalize (lg_sl ([.ref a0, .int x1, .int x2, .int x3]) ++ List.replicate (4 - (lg_sl ([.ref a0, .int x1, .int x2, .int x3])).length) Slot.unset).toArray = ls at hl ⊢
  have hl : lv_has ls 4 [(0, .ref a0), (1, .int x1), (2, .int x2), (3, .int x3)] := hl
  generalize hQ : MQ below (va_Qi (fun r (_ : Unit) => r = res) (fun _ => mm_B D cs A L K N z w I P) A) ([.ref a0, .int x1, .int x2, .int x3] : List Value).toArray s 0 0 A = QQ
  rw [fn_X3_isHeldAs] at hf
  refine lv_iload_n hx hb dX3_isHeldAs_0 rfl (lv_at hl 2 rfl) ?_
  refine lv_iload_n hx hb dX3_isHeldAs_1 rfl (lv_at hl 3 rfl) ?_
  refine bd_e hf (fun r1 er1 hf => ?_)
  refine ev_calli (va_runSN (As := [.int x2, .int x3]) (rest := []) S (c_X9_isDot (l := l) I P x2 x3 r1 er1) ⟨va_cnB 2 hts (gi_n wa_2_144) rfl rfl rfl hZ.1.2.2.2.1 (hWA _ wa_1_1) (by decide +kernel) ⟨Nat.le_of_ble_eq_true rfl, Nat.le_of_ble_eq_true rfl⟩, hWA _ wa_2_143, trivial⟩ ⟨mm_B_blind, fun U hU hW => ⟨rfl, mm_B_of hK hZ hM hU hW⟩⟩ rfl rfl hl.1 rfl (lv_room (Nat.le_of_ble_eq_true rfl)) dX3_isHeldAs_2 ⟨Nat.zero_le _, Nat.zero_le _⟩) hM (fun H locs hM => ?_)
  refine lv_if_eq (tgt := 23) hx hb dX3_isHeldAs_5 (by decide) (fun hc2 => ?_) (fun hc2 => ?_)
  · have hf := it_p hf hc2
    refine lv_iconst (v := (0 : Int32)) hx hb dX3_isHeldAs_23 (by decide) ?_
    obtain rfl := Option.some.inj hf
    subst hQ
    exact ev_zret (v := (0 : Int32)) S hr hlocks hK hZ hM rfl dX3_isHeldAs_24
  · have hf := it_n hf hc2
    refine lv_aload_n hx hb dX3_isHeldAs_8 rfl (lv_at hl 0 rfl) ?_
    refine lv_iload_n hx hb dX3_isHeldAs_9 rfl (lv_at hl 2 rfl) ?_
    refine lv_iload_n hx hb dX3_isHeldAs_10 rfl (lv_at hl 3 rfl) ?_
    refine bd_e hf (fun r3 er3 hf => ?_)
    refine ev_calli (va_runSN (As := [.int x2, .int x3]) (rest := [.ref a0]) S (c_X9_dotAt (l := l) I P x2 x3 r3 er3) ⟨va_cnB 2 hts (gi_n wa_2_150) rfl rfl rfl hZ.1.2.2.1 (hWA _ wa_1_1) (by decide +kernel) ⟨Nat.le_of_ble_eq_true rfl, Nat.le_of_ble_eq_true rfl⟩, hWA _ wa_2_149, trivial⟩ ⟨mm_B_blind, fun U hU hW => ⟨rfl, mm_B_of hK hZ hM hU hW⟩⟩ rfl rfl hl.1 rfl (lv_room (Nat.le_of_ble_eq_true rfl)) dX3_isHeldAs_11 ⟨Nat.zero_le _, Nat.zero_le _⟩) hM (fun H locs hM => ?_)
    refine gd_e hf (fun hg4 hf => ?_)
    refine ev_zald S hK hM hg4 (j := r3.toNatClampNeg) rfl dX3_isHeldAs_14 ?_
    refine lv_iload_n hx hb dX3_isHeldAs_15 rfl (lv_at hl 1 rfl) ?_
    refine lv_icmp_ne (tgt := 23) hx hb dX3_isHeldAs_16 (by decide) (fun hc5 => ?_) (fun hc5 => ?_)
    · have hf := it_n hf hc5
      refine lv_iconst (v := (0 : Int32)) hx hb dX3_isHeldAs_23 (by decide) ?_
      obtain rfl := Option.some.inj hf
      subst hQ
      exact ev_zret (v := (0 : Int32)) S hr hlocks hK hZ hM rfl dX3_isHeldAs_24
    · have hf := it_p hf hc5
      refine lv_iconst (v := (1 : Int32)) hx hb dX3_isHeldAs_19 (by decide) ?_
      refine lv_goto (tgt := 24) hx hb dX3_isHeldAs_20 (by decide) ?_
      obtain rfl := Option.some.inj hf
      subst hQ
      exact ev_zret (v := (1 : Int32)) S hr hlocks hK hZ hM rfl dX3_isHeldAs_24
noncomputable def fn_X3_chooseBeside_L2 (K : Nat → Nat) (N : Nat → Nat) (a0 : Nat) (a1 : Nat) (x2 : Int32) (P : Nat → Nat → Option Nat) : Nat → Int32 → (Nat → Nat → Int32) → Option ((Nat → Nat → Int32))
  | 0, _, _ => none
  | n + 1, v1, I2 => if (192 : Int32) ≤ v1 then (some I2) else (Option.bind (some (v1 - v1 / (16 : Int32) * (16 : Int32))) (fun v5 => Option.bind (some (v1 / (16 : Int32))) (fun v6 => gd (K a0 = 4) (Option.bind (P a0 (0)) (fun q8 => Option.bind (fn_X3_isHeldAs K N I2 P a1 x2 (v5 - (1 : Int32)) v6) (fun (r9 : Int32) => if r9 = 0 then (Option.bind (fn_X3_isHeldAs K N I2 P a1 x2 (v5 + (1 : Int32)) v6) (fun (r13 : Int32) => if r13 = 0 then (Option.bind (fn_X3_isHeldAs K N I2 P a1 x2 v5 (v6 - (1 : Int32))) (fun (r17 : Int32) => if r17 = 0 then (Option.bind (fn_X3_isHeldAs K N I2 P a1 x2 v5 (v6 + (1 : Int32))) (fun (r21 : Int32) => if r21 = 0 then (gd (K q8 = 13 ∧ vp_in v1 (N q8)) (Option.bind (some (up2 I2 q8 (v1.toNatClampNeg) (vp_nar .boolean (0 : Int32)))) (fun I24 => fn_X3_chooseBeside_L2 K N a0 a1 x2 P n (v1 + (1 : Int32)) I24))) else (gd (K q8 = 13 ∧ vp_in v1 (N q8)) (Option.bind (some (up2 I2 q8 (v1.toNatClampNeg) (vp_nar .boolean (1 : Int32)))) (fun I26 => fn_X3_chooseBeside_L2 K N a0 a1 x2 P n (v1 + (1 : Int32)) I26))))) else (gd (K q8 = 13 ∧ vp_in v1 (N q8)) (Option.bind (some (up2 I2 q8 (v1.toNatClampNeg) (vp_nar .boolean (1 : Int32)))) (fun I20 => fn_X3_chooseBeside_L2 K N a0 a1 x2 P n (v1 + (1 : Int32)) I20))))) else (gd (K q8 = 13 ∧ vp_in v1 (N q8)) (Option.bind (some (up2 I2 q8 (v1.toNatClampNeg) (vp_nar .boolean (1 : Int32)))) (fun I16 => fn_X3_chooseBeside_L2 K N a0 a1 x2 P n (v1 + (1 : Int32)) I16))))) else (gd (K q8 = 13 ∧ vp_in v1 (N q8)) (Option.bind (some (up2 I2 q8 (v1.toNatClampNeg) (vp_nar .boolean (1 : Int32)))) (fun I12 => fn_X3_chooseBeside_L2 K N a0 a1 x2 P n (v1 + (1 : Int32)) I12)))))))))
noncomputable def fn_X3_chooseBeside (K N : Nat → Nat) (I : Nat → Nat → Int32) (P : Nat → Nat → Option Nat) (a0 : Nat) (a1 : Nat) (x2 : Int32) : Option ((Nat → Nat → Int32)) := Option.bind (fn_X3_chooseBeside_L2 K N a0 a1 x2 P FU (0 : Int32) I) (fun (r3 : (Nat → Nat → Int32)) => some r3)
abbrev wz_X3_chooseBeside : List Cond := Cond.code yX3_chooseBeside cX3_chooseBeside 6 none :: WA
abbrev rm_X3_chooseBeside : Room := { frames := 5, cells := 0, slots := 0, locals := 98 }
set_option maxHeartbeats 4000000 in
set_option maxRecDepth 100000 in
theorem c_X3_chooseBeside (I : Nat → Nat → Int32) (P : Nat → Nat → Option Nat) (a0 : Nat) (a1 : Nat) (x2 : Int32) (res : (Nat → Nat → Int32)) (hf : fn_X3_chooseBeside K N I P a0 a1 x2 = some res) : Met l yX3_chooseBeside wz_X3_chooseBeside rm_X3_chooseBeside (va_Pc [.ref a0, .ref a1, .int x2] (mm_B D cs A L K N z w I P)) (va_Qv (fun (_ : Unit) => True) (fun _ => mm_B D cs A L K N z w res P) A) 0 0 A := by
  refine Met.ofW (cc := cX3_chooseBeside) (maxL := 6) (ret := none) (by decide) rfl ?_
  intro p e s m args below meth c s₁ B hml hv
  obtain ⟨rfl, hBm⟩ := hv
  have hx := B.exec
  have hb := B.bytes
  have hr := B.returns
  have hts := atoms_spec (ws := wz_X3_chooseBeside) B.pre
  have hWA : ∀ w ∈ WA, w.before ([.ref a0, .ref a1, .int x2] : List Value).toArray s = true := fun u9 h9 => hts u9 (List.mem_cons_of_mem _ h9)
  have hown : s.vm.findClass RX3 = some m.cls := findClass_of_methodNamed B.named
  have hlocks := B.notSynchronized
  have S : CallFix p m c cX3_chooseBeside 6 s ([.ref a0, .ref a1, .int x2] : List Value).toArray wz_X3_chooseBeside RX3 := ⟨hx, hb, hml, hown, hts⟩
  have hK := hBm.2.2.2.1
  have hZ := hBm.2.2.2.2
  have hM : mm_W D cs A L K N s.heap I P s.heap [] := ⟨hBm.1, hBm.2.1, hBm.2.2.1, va_S.rf⟩
  have hl := lv_entry ([.ref a0, .ref a1, .int x2]) (n := 6) (Nat.le_of_ble_eq_true rfl)
  rw [lg_entry_eq]
  generalize (lg_sl ([.ref a0, .ref a1, .int x2]) ++ List.replicate (6 - (lg_sl ([.ref a0, .ref a1, .int x2])).length) Slot.unset).toArray = ls at hl ⊢
  have hl : lv_has ls 6 [(0, .ref a0), (1, .ref a1), (2, .int x2)] := hl
  have hin3 : ∀ w ∈ wsX30, w ∈ wz_X3_chooseBeside := fun w h => List.mem_cons_of_mem _ (wu_X3 w h)
  have lk9 : (Cond.fieldLink RX3 9 RX3 "chosen" "[Z").before ([.ref a0, .ref a1, .int x2] : List Value).toArray s = true := hWA _ wa_1_238
  generalize hQ : MQ below (va_Qv (fun (_ : Unit) => True) (fun _ => mm_B D cs A L K N z w res P) A) ([.ref a0, .ref a1, .int x2] : List Value).toArray s 0 0 A = QQ
  rw [fn_X3_chooseBeside] at hf
  refine lv_iconst (v := (0 : Int32)) hx hb dX3_chooseBeside_0 (by decide) ?_
  refine lv_istore_n (lv' := [(3, .int (0 : Int32)), (0, .ref a0), (1, .ref a1), (2, .int x2)]) hx hb dX3_chooseBeside_1 rfl hl (by decide) rfl (fun ls hl => ?_)
  have lp2_26 : ∀ (n : Nat) (v1 : Int32) (I2 : Nat → Nat → Int32) (H : Heap) (locs : List Loc) (ls : Array Slot) (r3 : (Nat → Nat → Int32)), mm_W D cs A L K N s.heap I2 P H locs → lv_has ls 6 [(0, .ref a0), (1, .ref a1), (2, .int x2), (3, .int v1)] → fn_X3_chooseBeside_L2 K N a0 a1 x2 P n v1 I2 = some r3 → (∀ (H : Heap) (locs : List Loc) (ls : Array Slot), mm_W D cs A L K N s.heap r3 P H locs → lv_has ls 6 [] → W p l e (headSpec wz_X3_chooseBeside rm_X3_chooseBeside).room s m ([.ref a0, .ref a1, .int x2] : List Value).toArray below meth c H locs 0 0 QQ (F0 m 94 ls [])) → W p l e (headSpec wz_X3_chooseBeside rm_X3_chooseBeside).room s m ([.ref a0, .ref a1, .int x2] : List Value).toArray below meth c H locs 0 0 QQ (F0 m 2 ls []) := by
    intro n
    induction n with
    | zero => intro v1 I2 H locs ls r3 hM hl hf kk; exact nn_x (show (none : Option ((Nat → Nat → Int32))) = some r3 from hf)
    | succ n ih =>
      intro v1 I2 H locs ls r3 hM hl hf kk
      rw [fn_X3_chooseBeside_L2] at hf
      refine lv_iload_n hx hb dX3_chooseBeside_2 rfl (lv_at hl 3 rfl) ?_
      refine lv_sipush (v := (192 : Int32)) hx hb dX3_chooseBeside_3 (by decide) ?_
      refine lv_icmp_ge (tgt := 94) hx hb dX3_chooseBeside_6 (by decide) (fun hc4 => ?_) (fun hc4 => ?_)
      · have hf := it_p hf hc4
        obtain rfl := Option.some.inj hf
        exact kk _ _ _ hM (lv_sub hl [] rfl)
      · have hf := it_n hf hc4
        refine lv_iload_n hx hb dX3_chooseBeside_9 rfl (lv_at hl 3 rfl) ?_
        refine lv_bipush (v := (16 : Int32)) hx hb dX3_chooseBeside_10 (by decide) ?_
        refine lv_irem hx hb dX3_chooseBeside_12 (by decide) ?_
        refine lv_topi (fun v5 ev5 => ?_)
        have hf := nm_x ev5 hf
        refine lv_istore (lv' := [(4, .int v5), (0, .ref a0), (1, .ref a1), (2, .int x2), (3, .int v1)]) hx hb dX3_chooseBeside_13 hl (by decide) rfl (fun ls hl => ?_)
        refine lv_iload_n hx hb dX3_chooseBeside_15 rfl (lv_at hl 4 rfl) ?_
        refine lv_bipush (v := (16 : Int32)) hx hb dX3_chooseBeside_16 (by decide) ?_
        refine lv_idiv hx hb dX3_chooseBeside_18 (by decide) ?_
        refine lv_topi (fun v6 ev6 => ?_)
        have hf := nm_x ev6 hf
        refine lv_istore (lv' := [(5, .int v6), (4, .int v5), (0, .ref a0), (1, .ref a1), (2, .int x2), (3, .int v1)]) hx hb dX3_chooseBeside_19 hl (by decide) rfl (fun ls hl => ?_)
        refine lv_aload_n hx hb dX3_chooseBeside_21 rfl (lv_at hl 2 rfl) ?_
        refine gd_e hf (fun hg7 hf => ?_)
        refine bd_e hf (fun q8 eq8 hf => ?_)
        refine ev_getP (v := q8) S hK hM (ci := 3) (n := 4) (C := RX3) (T := TX3) hin3 rfl hg7 0 (by decide) lk9 rfl rfl eq8 rfl dX3_chooseBeside_22 ?_
        refine lv_iload_n hx hb dX3_chooseBeside_25 rfl (lv_at hl 5 rfl) ?_
        refine lv_aload_n hx hb dX3_chooseBeside_26 rfl (lv_at hl 3 rfl) ?_
        refine lv_iload_n hx hb dX3_chooseBeside_27 rfl (lv_at hl 4 rfl) ?_
        refine lv_iload hx hb dX3_chooseBeside_28 (lv_at hl 1 rfl) ?_
        refine lv_iconst (v := (1 : Int32)) hx hb dX3_chooseBeside_30 (by decide) ?_
        refine lv_isub hx hb dX3_chooseBeside_31 ?_
        refine lv_iload hx hb dX3_chooseBeside_32 (lv_at hl 0 rfl) ?_
        refine bd_e hf (fun r9 er9 hf => ?_)
        refine ev_calli (va_runS (As := [.ref a1, .int x2, .int (v5 - (1 : Int32)), .int v6]) (rest := [.int v1, .ref q8]) S (c_X3_isHeldAs (l := l) I2 P a1 x2 (v5 - (1 : Int32)) v6 r9 er9) (va_cwS 4 hts (gi_s wa_3_216 wa_3_217 wa_1_10 wa_3_218) rfl rfl rfl (by decide +kernel) ⟨Nat.le_of_ble_eq_true rfl, Nat.le_of_ble_eq_true rfl⟩) ⟨mm_B_blind, fun U hU hW => ⟨rfl, mm_B_of hK hZ hM hU hW⟩⟩ rfl rfl hl.1 rfl (lv_room (Nat.le_of_ble_eq_true rfl)) dX3_chooseBeside_34 ⟨Nat.zero_le _, Nat.zero_le _⟩) hM (fun H locs hM => ?_)
        refine lv_if_ne (tgt := 82) hx hb dX3_chooseBeside_37 (by decide) (fun hc10 => ?_) (fun hc10 => ?_)
        · have hf := it_n hf hc10
          refine lv_iconst (v := (1 : Int32)) hx hb dX3_chooseBeside_82 (by decide) ?_
          refine lv_goto (tgt := 87) hx hb dX3_chooseBeside_83 (by decide) ?_
          refine gd_e hf (fun hg11 hf => ?_)
          refine ev_zast S hK hM hg11 (j := v1.toNatClampNeg) rfl dX3_chooseBeside_87 (fun I12 eI12 H locs hM => ?_)
          have hf := nm_x eI12 hf
          refine lv_iinc (v := (v1 + (1 : Int32))) (lv' := [(3, .int (v1 + (1 : Int32))), (5, .int v6), (4, .int v5), (0, .ref a0), (1, .ref a1), (2, .int x2)]) hx hb dX3_chooseBeside_88 hl (k := 5) rfl rfl (by decide) rfl (fun ls hl => ?_)
          refine lv_goto (tgt := 2) hx hb dX3_chooseBeside_91 (by decide) ?_
          exact ih (v1 + (1 : Int32)) I12 _ _ _ _ hM (lv_sub hl [3, 4, 5, 0] rfl) hf kk
        · have hf := it_p hf hc10
          refine lv_aload_n hx hb dX3_chooseBeside_40 rfl (lv_at hl 3 rfl) ?_
          refine lv_iload_n hx hb dX3_chooseBeside_41 rfl (lv_at hl 4 rfl) ?_
          refine lv_iload hx hb dX3_chooseBeside_42 (lv_at hl 1 rfl) ?_
          refine lv_iconst (v := (1 : Int32)) hx hb dX3_chooseBeside_44 (by decide) ?_
          refine lv_iadd hx hb dX3_chooseBeside_45 ?_
          refine lv_iload hx hb dX3_chooseBeside_46 (lv_at hl 0 rfl) ?_
          refine bd_e hf (fun r13 er13 hf => ?_)
          refine ev_calli (va_runS (As := [.ref a1, .int x2, .int (v5 + (1 : Int32)), .int v6]) (rest := [.int v1, .ref q8]) S (c_X3_isHeldAs (l := l) I2 P a1 x2 (v5 + (1 : Int32)) v6 r13 er13) (va_cwS 4 hts (gi_s wa_3_216 wa_3_217 wa_1_10 wa_3_218) rfl rfl rfl (by decide +kernel) ⟨Nat.le_of_ble_eq_true rfl, Nat.le_of_ble_eq_true rfl⟩) ⟨mm_B_blind, fun U hU hW => ⟨rfl, mm_B_of hK hZ hM hU hW⟩⟩ rfl rfl hl.1 rfl (lv_room (Nat.le_of_ble_eq_true rfl)) dX3_chooseBeside_48 ⟨Nat.zero_le _, Nat.zero_le _⟩) hM (fun H locs hM => ?_)
          refine lv_if_ne (tgt := 82) hx hb dX3_chooseBeside_51 (by decide) (fun hc14 => ?_) (fun hc14 => ?_)
          · have hf := it_n hf hc14
            refine lv_iconst (v := (1 : Int32)) hx hb dX3_chooseBeside_82 (by decide) ?_
            refine lv_goto (tgt := 87) hx hb dX3_chooseBeside_83 (by decide) ?_
            refine gd_e hf (fun hg15 hf => ?_)
            refine ev_zast S hK hM hg15 (j := v1.toNatClampNeg) rfl dX3_chooseBeside_87 (fun I16 eI16 H locs hM => ?_)
            have hf := nm_x eI16 hf
            refine lv_iinc (v := (v1 + (1 : Int32))) (lv' := [(3, .int (v1 + (1 : Int32))), (5, .int v6), (4, .int v5), (0, .ref a0), (1, .ref a1), (2, .int x2)]) hx hb dX3_chooseBeside_88 hl (k := 5) rfl rfl (by decide) rfl (fun ls hl => ?_)
            refine lv_goto (tgt := 2) hx hb dX3_chooseBeside_91 (by decide) ?_
            exact ih (v1 + (1 : Int32)) I16 _ _ _ _ hM (lv_sub hl [3, 4, 5, 0] rfl) hf kk
          · have hf := it_p hf hc14
            refine lv_aload_n hx hb dX3_chooseBeside_54 rfl (lv_at hl 3 rfl) ?_
            refine lv_iload_n hx hb dX3_chooseBeside_55 rfl (lv_at hl 4 rfl) ?_
            refine lv_iload hx hb dX3_chooseBeside_56 (lv_at hl 1 rfl) ?_
            refine lv_iload hx hb dX3_chooseBeside_58 (lv_at hl 0 rfl) ?_
            refine lv_iconst (v := (1 : Int32)) hx hb dX3_chooseBeside_60 (by decide) ?_
            refine lv_isub hx hb dX3_chooseBeside_61 ?_
            refine bd_e hf (fun r17 er17 hf => ?_)
            refine ev_calli (va_runS (As := [.ref a1, .int x2, .int v5, .int (v6 - (1 : Int32))]) (rest := [.int v1, .ref q8]) S (c_X3_isHeldAs (l := l) I2 P a1 x2 v5 (v6 - (1 : Int32)) r17 er17) (va_cwS 4 hts (gi_s wa_3_216 wa_3_217 wa_1_10 wa_3_218) rfl rfl rfl (by decide +kernel) ⟨Nat.le_of_ble_eq_true rfl, Nat.le_of_ble_eq_true rfl⟩) ⟨mm_B_blind, fun U hU hW => ⟨rfl, mm_B_of hK hZ hM hU hW⟩⟩ rfl rfl hl.1 rfl (lv_room (Nat.le_of_ble_eq_true rfl)) dX3_chooseBeside_62 ⟨Nat.zero_le _, Nat.zero_le _⟩) hM (fun H locs hM => ?_)
            refine lv_if_ne (tgt := 82) hx hb dX3_chooseBeside_65 (by decide) (fun hc18 => ?_) (fun hc18 => ?_)
            · have hf := it_n hf hc18
              refine lv_iconst (v := (1 : Int32)) hx hb dX3_chooseBeside_82 (by decide) ?_
              refine lv_goto (tgt := 87) hx hb dX3_chooseBeside_83 (by decide) ?_
              refine gd_e hf (fun hg19 hf => ?_)
              refine ev_zast S hK hM hg19 (j := v1.toNatClampNeg) rfl dX3_chooseBeside_87 (fun I20 eI20 H locs hM => ?_)
              have hf := nm_x eI20 hf
              refine lv_iinc (v := (v1 + (1 : Int32))) (lv' := [(3, .int (v1 + (1 : Int32))), (5, .int v6), (4, .int v5), (0, .ref a0), (1, .ref a1), (2, .int x2)]) hx hb dX3_chooseBeside_88 hl (k := 5) rfl rfl (by decide) rfl (fun ls hl => ?_)
              refine lv_goto (tgt := 2) hx hb dX3_chooseBeside_91 (by decide) ?_
              exact ih (v1 + (1 : Int32)) I20 _ _ _ _ hM (lv_sub hl [3, 4, 5, 0] rfl) hf kk
            · have hf := it_p hf hc18
              refine lv_aload_n hx hb dX3_chooseBeside_68 rfl (lv_at hl 3 rfl) ?_
              refine lv_iload_n hx hb dX3_chooseBeside_69 rfl (lv_at hl 4 rfl) ?_
              refine lv_iload hx hb dX3_chooseBeside_70 (lv_at hl 1 rfl) ?_
              refine lv_iload hx hb dX3_chooseBeside_72 (lv_at hl 0 rfl) ?_
              refine lv_iconst (v := (1 : Int32)) hx hb dX3_chooseBeside_74 (by decide) ?_
              refine lv_iadd hx hb dX3_chooseBeside_75 ?_
              refine bd_e hf (fun r21 er21 hf => ?_)
              refine ev_calli (va_runS (As := [.ref a1, .int x2, .int v5, .int (v6 + (1 : Int32))]) (rest := [.int v1, .ref q8]) S (c_X3_isHeldAs (l := l) I2 P a1 x2 v5 (v6 + (1 : Int32)) r21 er21) (va_cwS 4 hts (gi_s wa_3_216 wa_3_217 wa_1_10 wa_3_218) rfl rfl rfl (by decide +kernel) ⟨Nat.le_of_ble_eq_true rfl, Nat.le_of_ble_eq_true rfl⟩) ⟨mm_B_blind, fun U hU hW => ⟨rfl, mm_B_of hK hZ hM hU hW⟩⟩ rfl rfl hl.1 rfl (lv_room (Nat.le_of_ble_eq_true rfl)) dX3_chooseBeside_76 ⟨Nat.zero_le _, Nat.zero_le _⟩) hM (fun H locs hM => ?_)
              refine lv_if_eq (tgt := 86) hx hb dX3_chooseBeside_79 (by decide) (fun hc22 => ?_) (fun hc22 => ?_)
              · have hf := it_p hf hc22
                refine lv_iconst (v := (0 : Int32)) hx hb dX3_chooseBeside_86 (by decide) ?_
                refine gd_e hf (fun hg23 hf => ?_)
                refine ev_zast S hK hM hg23 (j := v1.toNatClampNeg) rfl dX3_chooseBeside_87 (fun I24 eI24 H locs hM => ?_)
                have hf := nm_x eI24 hf
                refine lv_iinc (v := (v1 + (1 : Int32))) (lv' := [(3, .int (v1 + (1 : Int32))), (5, .int v6), (4, .int v5), (0, .ref a0), (1, .ref a1), (2, .int x2)]) hx hb dX3_chooseBeside_88 hl (k := 5) rfl rfl (by decide) rfl (fun ls hl => ?_)
                refine lv_goto (tgt := 2) hx hb dX3_chooseBeside_91 (by decide) ?_
                exact ih (v1 + (1 : Int32)) I24 _ _ _ _ hM (lv_sub hl [3, 4, 5, 0] rfl) hf kk
              · have hf := it_n hf hc22
                refine lv_iconst (v := (1 : Int32)) hx hb dX3_chooseBeside_82 (by decide) ?_
                refine lv_goto (tgt := 87) hx hb dX3_chooseBeside_83 (by decide) ?_
                refine gd_e hf (fun hg25 hf => ?_)
                refine ev_zast S hK hM hg25 (j := v1.toNatClampNeg) rfl dX3_chooseBeside_87 (fun I26 eI26 H locs hM => ?_)
                have hf := nm_x eI26 hf
                refine lv_iinc (v := (v1 + (1 : Int32))) (lv' := [(3, .int (v1 + (1 : Int32))), (5, .int v6), (4, .int v5), (0, .ref a0), (1, .ref a1), (2, .int x2)]) hx hb dX3_chooseBeside_88 hl (k := 5) rfl rfl (by decide) rfl (fun ls hl => ?_)
                refine lv_goto (tgt := 2) hx hb dX3_chooseBeside_91 (by decide) ?_
                exact ih (v1 + (1 : Int32)) I26 _ _ _ _ hM (lv_sub hl [3, 4, 5, 0] rfl) hf kk
  refine bd_e hf (fun r3 er3 hf => ?_)
  refine lp2_26 FU (0 : Int32) I _ _ _ r3 hM (lv_sub hl [1, 2, 3, 0] rfl) er3 (fun H locs ls hM hl => ?_)
  obtain rfl := Option.some.inj hf
  subst hQ
  exact ev_vret S hr hlocks hK hZ hM dX3_chooseBeside_94
noncomputable def fn_X4_clear (K N : Nat → Nat) (I : Nat → Nat → Int32) (P : Nat → Nat → Option Nat) (a0 : Nat) : Option ((Nat → Nat → Int32)) := gd (K a0 = 5) (Option.bind (P a0 (0)) (fun q2 => Option.bind (fn_J7_fill_53178 K N I P q2 (0 : Int32)) (fun (r3 : (Nat → Nat → Int32)) => Option.bind (P a0 (1)) (fun q4 => Option.bind (fn_J7_fill_53178 K N r3 P q4 (0 : Int32)) (fun (r5 : (Nat → Nat → Int32)) => some r5)))))
abbrev wz_X4_clear : List Cond := Cond.code yX4_clear cX4_clear 1 none :: WA
abbrev rm_X4_clear : Room := { frames := 2, cells := 0, slots := 0, locals := 35 }
set_option maxHeartbeats 4000000 in
set_option maxRecDepth 100000 in
theorem c_X4_clear (I : Nat → Nat → Int32) (P : Nat → Nat → Option Nat) (a0 : Nat) (res : (Nat → Nat → Int32)) (hf : fn_X4_clear K N I P a0 = some res) : Met l yX4_clear wz_X4_clear rm_X4_clear (va_Pc [.ref a0] (mm_B D cs A L K N z w I P)) (va_Qv (fun (_ : Unit) => True) (fun _ => mm_B D cs A L K N z w res P) A) 0 0 A := by
  refine Met.ofW (cc := cX4_clear) (maxL := 1) (ret := none) (by decide) rfl ?_
  intro p e s m args below meth c s₁ B hml hv
  obtain ⟨rfl, hBm⟩ := hv
  have hx := B.exec
  have hb := B.bytes
  have hr := B.returns
  have hts := atoms_spec (ws := wz_X4_clear) B.pre
  have hWA : ∀ w ∈ WA, w.before ([.ref a0] : List Value).toArray s = true := fun u9 h9 => hts u9 (List.mem_cons_of_mem _ h9)
  have hown : s.vm.findClass RX4 = some m.cls := findClass_of_methodNamed B.named
  have hlocks := B.notSynchronized
  have S : CallFix p m c cX4_clear 1 s ([.ref a0] : List Value).toArray wz_X4_clear RX4 := ⟨hx, hb, hml, hown, hts⟩
  have hK := hBm.2.2.2.1
  have hZ := hBm.2.2.2.2
  have hM : mm_W D cs A L K N s.heap I P s.heap [] := ⟨hBm.1, hBm.2.1, hBm.2.2.1, va_S.rf⟩
  have hl := lv_entry ([.ref a0]) (n := 1) (Nat.le_of_ble_eq_true rfl)
  rw [lg_entry_eq]
  generalize (lg_sl ([.ref a0]) ++ List.replicate (1 - (lg_sl ([.ref a0])).length) Slot.unset).toArray = ls at hl ⊢
  have hl : lv_has ls 1 [(0, .ref a0)] := hl
  have hin4 : ∀ w ∈ wsX40, w ∈ wz_X4_clear := fun w h => List.mem_cons_of_mem _ (wu_X4 w h)
  have lk9 : (Cond.fieldLink RX4 9 RX4 "inks" "[I").before ([.ref a0] : List Value).toArray s = true := hWA _ wa_1_126
  have lk15 : (Cond.fieldLink RX4 15 RX4 "covers" "[I").before ([.ref a0] : List Value).toArray s = true := hWA _ wa_1_130
  generalize hQ : MQ below (va_Qv (fun (_ : Unit) => True) (fun _ => mm_B D cs A L K N z w res P) A) ([.ref a0] : List Value).toArray s 0 0 A = QQ
  rw [fn_X4_clear] at hf
  refine lv_aload_n hx hb dX4_clear_0 rfl (lv_at hl 0 rfl) ?_
  refine gd_e hf (fun hg1 hf => ?_)
  refine bd_e hf (fun q2 eq2 hf => ?_)
  refine ev_getP (v := q2) S hK hM (ci := 4) (n := 5) (C := RX4) (T := TX4) hin4 rfl hg1 0 (by decide) lk9 rfl rfl eq2 rfl dX4_clear_1 ?_
  refine lv_iconst (v := (0 : Int32)) hx hb dX4_clear_4 (by decide) ?_
  refine bd_e hf (fun r3 er3 hf => ?_)
  refine ev_callv (va_runS (As := [.ref q2, .int (0 : Int32)]) (rest := []) S (c_J7_fill_53178 (l := l) I P q2 (0 : Int32) r3 er3) (va_cwS 2 hts (gi_s wa_2_65 wa_2_66 wa_1_12 wa_2_67) rfl rfl rfl (by decide +kernel) ⟨Nat.le_of_ble_eq_true rfl, Nat.le_of_ble_eq_true rfl⟩) ⟨mm_B_blind, fun U hU hW => ⟨rfl, mm_B_of hK hZ hM hU hW⟩⟩ rfl rfl hl.1 rfl (lv_room (Nat.le_of_ble_eq_true rfl)) dX4_clear_5 ⟨Nat.zero_le _, Nat.zero_le _⟩) hM (fun H locs hM => ?_)
  refine lv_aload_n hx hb dX4_clear_8 rfl (lv_at hl 0 rfl) ?_
  refine bd_e hf (fun q4 eq4 hf => ?_)
  refine ev_getP (v := q4) S hK hM (ci := 4) (n := 5) (C := RX4) (T := TX4) hin4 rfl hg1 1 (by decide) lk15 rfl rfl eq4 rfl dX4_clear_9 ?_
  refine lv_iconst (v := (0 : Int32)) hx hb dX4_clear_12 (by decide) ?_
  refine bd_e hf (fun r5 er5 hf => ?_)
  refine ev_callv (va_runS (As := [.ref q4, .int (0 : Int32)]) (rest := []) S (c_J7_fill_53178 (l := l) r3 P q4 (0 : Int32) r5 er5) (va_cwS 2 hts (gi_s wa_2_65 wa_2_66 wa_1_12 wa_2_67) rfl rfl rfl (by decide +kernel) ⟨Nat.le_of_ble_eq_true rfl, Nat.le_of_ble_eq_true rfl⟩) ⟨mm_B_blind, fun U hU hW => ⟨rfl, mm_B_of hK hZ hM hU hW⟩⟩ rfl rfl hl.1 rfl (lv_room (Nat.le_of_ble_eq_true rfl)) dX4_clear_13 ⟨Nat.zero_le _, Nat.zero_le _⟩) hM (fun H locs hM => ?_)
  obtain rfl := Option.some.inj hf
  subst hQ
  exact ev_vret S hr hlocks hK hZ hM dX4_clear_16
noncomputable def fn_X4_wear (K N : Nat → Nat) (I : Nat → Nat → Int32) (P : Nat → Nat → Option Nat) (a0 : Nat) (x1 : Int32) (x2 : Int32) (x3 : Int32) : Option ((Nat → Nat → Int32)) := gd (K a0 = 5) (Option.bind (some (up2 I a0 2 x1)) (fun I2 => Option.bind (some (up2 I2 a0 3 x2)) (fun I3 => Option.bind (some (up2 I3 a0 4 x3)) (fun I4 => some I4))))
abbrev wz_X4_wear : List Cond := Cond.code yX4_wear cX4_wear 4 none :: WA
abbrev rm_X4_wear : Room := { frames := 1, cells := 0, slots := 0, locals := 12 }
set_option maxHeartbeats 4000000 in
set_option maxRecDepth 100000 in
theorem c_X4_wear (I : Nat → Nat → Int32) (P : Nat → Nat → Option Nat) (a0 : Nat) (x1 : Int32) (x2 : Int32) (x3 : Int32) (res : (Nat → Nat → Int32)) (hf : fn_X4_wear K N I P a0 x1 x2 x3 = some res) : Met l yX4_wear wz_X4_wear rm_X4_wear (va_Pc [.ref a0, .int x1, .int x2, .int x3] (mm_B D cs A L K N z w I P)) (va_Qv (fun (_ : Unit) => True) (fun _ => mm_B D cs A L K N z w res P) A) 0 0 A := by
  refine Met.ofW (cc := cX4_wear) (maxL := 4) (ret := none) (by decide) rfl ?_
  intro p e s m args below meth c s₁ B hml hv
  obtain ⟨rfl, hBm⟩ := hv
  have hx := B.exec
  have hb := B.bytes
  have hr := B.returns
  have hts := atoms_spec (ws := wz_X4_wear) B.pre
  have hWA : ∀ w ∈ WA, w.before ([.ref a0, .int x1, .int x2, .int x3] : List Value).toArray s = true := fun u9 h9 => hts u9 (List.mem_cons_of_mem _ h9)
  have hown : s.vm.findClass RX4 = some m.cls := findClass_of_methodNamed B.named
  have hlocks := B.notSynchronized
  have S : CallFix p m c cX4_wear 4 s ([.ref a0, .int x1, .int x2, .int x3] : List Value).toArray wz_X4_wear RX4 := ⟨hx, hb, hml, hown, hts⟩
  have hK := hBm.2.2.2.1
  have hZ := hBm.2.2.2.2
  have hM : mm_W D cs A L K N s.heap I P s.heap [] := ⟨hBm.1, hBm.2.1, hBm.2.2.1, va_S.rf⟩
  have hl := lv_entry ([.ref a0, .int x1, .int x2, .int x3]) (n := 4) (Nat.le_of_ble_eq_true rfl)
  rw [lg_entry_eq]
  generalize (lg_sl ([.ref a0, .int x1, .int x2, .int x3]) ++ List.replicate (4 - (lg_sl ([.ref a0, .int x1, .int x2, .int x3])).length) Slot.unset).toArray = ls at hl ⊢
  have hl : lv_has ls 4 [(0, .ref a0), (1, .int x1), (2, .int x2), (3, .int x3)] := hl
  have hin4 : ∀ w ∈ wsX40, w ∈ wz_X4_wear := fun w h => List.mem_cons_of_mem _ (wu_X4 w h)
  have lk24 : (Cond.fieldLink RX4 24 RX4 "mode" "I").before ([.ref a0, .int x1, .int x2, .int x3] : List Value).toArray s = true := hWA _ wa_1_134
  have lk28 : (Cond.fieldLink RX4 28 RX4 "figure" "I").before ([.ref a0, .int x1, .int x2, .int x3] : List Value).toArray s = true := hWA _ wa_1_136
  have lk31 : (Cond.fieldLink RX4 31 RX4 "opacity" "I").before ([.ref a0, .int x1, .int x2, .int x3] : List Value).toArray s = true := hWA _ wa_1_138
  generalize hQ : MQ below (va_Qv (fun (_ : Unit) => True) (fun _ => mm_B D cs A L K N z w res P) A) ([.ref a0, .int x1, .int x2, .int x3] : List Value).toArray s 0 0 A = QQ
  rw [fn_X4_wear] at hf
  refine lv_aload_n hx hb dX4_wear_0 rfl (lv_at hl 0 rfl) ?_
  refine lv_iload_n hx hb dX4_wear_1 rfl (lv_at hl 1 rfl) ?_
  refine gd_e hf (fun hg1 hf => ?_)
  refine ev_put S hK hM (ci := 4) (n := 5) (C := RX4) (T := TX4) hin4 tyX4 tyX4_ok nmX4 rfl hg1 2 (by decide) lk24 rfl rfl rfl rfl rfl (Nat.le_of_ble_eq_true rfl) rfl dX4_wear_2 (fun I2 eI2 H locs hM => ?_)
  have hf := nm_x eI2 hf
  refine lv_aload_n hx hb dX4_wear_5 rfl (lv_at hl 0 rfl) ?_
  refine lv_iload_n hx hb dX4_wear_6 rfl (lv_at hl 2 rfl) ?_
  refine ev_put S hK hM (ci := 4) (n := 5) (C := RX4) (T := TX4) hin4 tyX4 tyX4_ok nmX4 rfl hg1 3 (by decide) lk28 rfl rfl rfl rfl rfl (Nat.le_of_ble_eq_true rfl) rfl dX4_wear_7 (fun I3 eI3 H locs hM => ?_)
  have hf := nm_x eI3 hf
  refine lv_aload_n hx hb dX4_wear_10 rfl (lv_at hl 0 rfl) ?_
  refine lv_iload_n hx hb dX4_wear_11 rfl (lv_at hl 3 rfl) ?_
  refine ev_put S hK hM (ci := 4) (n := 5) (C := RX4) (T := TX4) hin4 tyX4 tyX4_ok nmX4 rfl hg1 4 (by decide) lk31 rfl rfl rfl rfl rfl (Nat.le_of_ble_eq_true rfl) rfl dX4_wear_12 (fun I4 eI4 H locs hM => ?_)
  have hf := nm_x eI4 hf
  obtain rfl := Option.some.inj hf
  subst hQ
  exact ev_vret S hr hlocks hK hZ hM dX4_wear_15
noncomputable def fn_X4_become (K N : Nat → Nat) (I : Nat → Nat → Int32) (P : Nat → Nat → Option Nat) (a0 : Nat) (a1 : Nat) : Option ((Nat → Nat → Int32)) := gd (K a1 = 5) (Option.bind (P a1 (0)) (fun q2 => gd (K a0 = 5) (Option.bind (P a0 (0)) (fun q4 => gd (cpg K N q2 (0 : Int32) q4 (0 : Int32) (192 : Int32)) (Option.bind (some (cp2 I q2 (0) q4 (0) (192))) (fun I6 => Option.bind (P a1 (1)) (fun q7 => Option.bind (P a0 (1)) (fun q8 => gd (cpg K N q7 (0 : Int32) q8 (0 : Int32) (192 : Int32)) (Option.bind (some (cp2 I6 q7 (0) q8 (0) (192))) (fun I10 => Option.bind (fn_X4_wear K N I10 P a0 (I10 a1 2) (I10 a1 3) (I10 a1 4)) (fun (r11 : (Nat → Nat → Int32)) => some r11)))))))))))
abbrev wz_X4_become : List Cond := Cond.code yX4_become cX4_become 2 none :: WA
abbrev rm_X4_become : Room := { frames := 2, cells := 0, slots := 0, locals := 60 }
set_option maxHeartbeats 4000000 in
set_option maxRecDepth 100000 in
theorem c_X4_become (I : Nat → Nat → Int32) (P : Nat → Nat → Option Nat) (a0 : Nat) (a1 : Nat) (res : (Nat → Nat → Int32)) (hf : fn_X4_become K N I P a0 a1 = some res) : Met l yX4_become wz_X4_become rm_X4_become (va_Pc [.ref a0, .ref a1] (mm_B D cs A L K N z w I P)) (va_Qv (fun (_ : Unit) => True) (fun _ => mm_B D cs A L K N z w res P) A) 0 0 A := by
  refine Met.ofW (cc := cX4_become) (maxL := 2) (ret := none) (by decide) rfl ?_
  intro p e s m args below meth c s₁ B hml hv
  obtain ⟨rfl, hBm⟩ := hv
  have hx := B.exec
  have hb := B.bytes
  have hr := B.returns
  have hts := atoms_spec (ws := wz_X4_become) B.pre
  have hWA : ∀ w ∈ WA, w.before ([.ref a0, .ref a1] : List Value).toArray s = true := fun u9 h9 => hts u9 (List.mem_cons_of_mem _ h9)
  have hown : s.vm.findClass RX4 = some m.cls := findClass_of_methodNamed B.named
  have hlocks := B.notSynchronized
  have S : CallFix p m c cX4_become 2 s ([.ref a0, .ref a1] : List Value).toArray wz_X4_become RX4 := ⟨hx, hb, hml, hown, hts⟩
  have hK := hBm.2.2.2.1
  have hZ := hBm.2.2.2.2
  have hM : mm_W D cs A L K N s.heap I P s.heap [] := ⟨hBm.1, hBm.2.1, hBm.2.2.1, va_S.rf⟩
  have hl := lv_entry ([.ref a0, .ref a1]) (n := 2) (Nat.le_of_ble_eq_true rfl)
  rw [lg_entry_eq]
  generalize (lg_sl ([.ref a0, .ref a1]) ++ List.replicate (2 - (lg_sl ([.ref a0, .ref a1])).length) Slot.unset).toArray = ls at hl ⊢
  have hl : lv_has ls 2 [(0, .ref a0), (1, .ref a1)] := hl
  have hin4 : ∀ w ∈ wsX40, w ∈ wz_X4_become := fun w h => List.mem_cons_of_mem _ (wu_X4 w h)
  have lk9 : (Cond.fieldLink RX4 9 RX4 "inks" "[I").before ([.ref a0, .ref a1] : List Value).toArray s = true := hWA _ wa_1_126
  have lk15 : (Cond.fieldLink RX4 15 RX4 "covers" "[I").before ([.ref a0, .ref a1] : List Value).toArray s = true := hWA _ wa_1_130
  have lk24 : (Cond.fieldLink RX4 24 RX4 "mode" "I").before ([.ref a0, .ref a1] : List Value).toArray s = true := hWA _ wa_1_134
  have lk28 : (Cond.fieldLink RX4 28 RX4 "figure" "I").before ([.ref a0, .ref a1] : List Value).toArray s = true := hWA _ wa_1_136
  have lk31 : (Cond.fieldLink RX4 31 RX4 "opacity" "I").before ([.ref a0, .ref a1] : List Value).toArray s = true := hWA _ wa_1_138
  generalize hQ : MQ below (va_Qv (fun (_ : Unit) => True) (fun _ => mm_B D cs A L K N z w res P) A) ([.ref a0, .ref a1] : List Value).toArray s 0 0 A = QQ
  rw [fn_X4_become] at hf
  refine lv_aload_n hx hb dX4_become_0 rfl (lv_at hl 1 rfl) ?_
  refine gd_e hf (fun hg1 hf => ?_)
  refine bd_e hf (fun q2 eq2 hf => ?_)
  refine ev_getP (v := q2) S hK hM (ci := 4) (n := 5) (C := RX4) (T := TX4) hin4 rfl hg1 0 (by decide) lk9 rfl rfl eq2 rfl dX4_become_1 ?_
  refine lv_iconst (v := (0 : Int32)) hx hb dX4_become_4 (by decide) ?_
  refine lv_aload_n hx hb dX4_become_5 rfl (lv_at hl 0 rfl) ?_
  refine gd_e hf (fun hg3 hf => ?_)
  refine bd_e hf (fun q4 eq4 hf => ?_)
  refine ev_getP (v := q4) S hK hM (ci := 4) (n := 5) (C := RX4) (T := TX4) hin4 rfl hg3 0 (by decide) lk9 rfl rfl eq4 rfl dX4_become_6 ?_
  refine lv_iconst (v := (0 : Int32)) hx hb dX4_become_9 (by decide) ?_
  refine lv_sipush (v := (192 : Int32)) hx hb dX4_become_10 (by decide) ?_
  refine gd_e hf (fun hg5 hf => ?_)
  refine ev_copy S hl.1.symm hK hM (hWA _ wa_4_33) (hWA _ wa_3_75) (hWA _ wa_3_74) (hWA _ wa_1_18) hg5 (j1 := 0) (j2 := 0) (j3 := 192) rfl rfl rfl (Nat.le_of_ble_eq_true rfl) (Nat.le_of_ble_eq_true rfl) dX4_become_13 (fun I6 eI6 H locs hM => ?_)
  have hf := nm_x eI6 hf
  refine lv_aload_n hx hb dX4_become_16 rfl (lv_at hl 1 rfl) ?_
  refine bd_e hf (fun q7 eq7 hf => ?_)
  refine ev_getP (v := q7) S hK hM (ci := 4) (n := 5) (C := RX4) (T := TX4) hin4 rfl hg1 1 (by decide) lk15 rfl rfl eq7 rfl dX4_become_17 ?_
  refine lv_iconst (v := (0 : Int32)) hx hb dX4_become_20 (by decide) ?_
  refine lv_aload_n hx hb dX4_become_21 rfl (lv_at hl 0 rfl) ?_
  refine bd_e hf (fun q8 eq8 hf => ?_)
  refine ev_getP (v := q8) S hK hM (ci := 4) (n := 5) (C := RX4) (T := TX4) hin4 rfl hg3 1 (by decide) lk15 rfl rfl eq8 rfl dX4_become_22 ?_
  refine lv_iconst (v := (0 : Int32)) hx hb dX4_become_25 (by decide) ?_
  refine lv_sipush (v := (192 : Int32)) hx hb dX4_become_26 (by decide) ?_
  refine gd_e hf (fun hg9 hf => ?_)
  refine ev_copy S hl.1.symm hK hM (hWA _ wa_4_33) (hWA _ wa_3_75) (hWA _ wa_3_74) (hWA _ wa_1_18) hg9 (j1 := 0) (j2 := 0) (j3 := 192) rfl rfl rfl (Nat.le_of_ble_eq_true rfl) (Nat.le_of_ble_eq_true rfl) dX4_become_29 (fun I10 eI10 H locs hM => ?_)
  have hf := nm_x eI10 hf
  refine lv_aload_n hx hb dX4_become_32 rfl (lv_at hl 0 rfl) ?_
  refine lv_aload_n hx hb dX4_become_33 rfl (lv_at hl 1 rfl) ?_
  refine ev_get (v := .int (I10 a1 2)) S hK hM (ci := 4) (n := 5) (C := RX4) (T := TX4) hin4 rfl hg1 2 (by decide) lk24 rfl rfl rfl dX4_become_34 ?_
  refine lv_aload_n hx hb dX4_become_37 rfl (lv_at hl 1 rfl) ?_
  refine ev_get (v := .int (I10 a1 3)) S hK hM (ci := 4) (n := 5) (C := RX4) (T := TX4) hin4 rfl hg1 3 (by decide) lk28 rfl rfl rfl dX4_become_38 ?_
  refine lv_aload_n hx hb dX4_become_41 rfl (lv_at hl 1 rfl) ?_
  refine ev_get (v := .int (I10 a1 4)) S hK hM (ci := 4) (n := 5) (C := RX4) (T := TX4) hin4 rfl hg1 4 (by decide) lk31 rfl rfl rfl dX4_become_42 ?_
  refine bd_e hf (fun r11 er11 hf => ?_)
  refine ev_callv (va_runV (As := [.int (I10 a1 2), .int (I10 a1 3), .int (I10 a1 4)]) (rest := []) S (c_X4_wear (l := l) I10 P a0 (I10 a1 2) (I10 a1 3) (I10 a1 4) r11 er11) (cwV 3 hts (gi_v wa_4_34 wa_2_69 wa_2_70 wa_1_7 wa_2_71) rfl rfl rfl (by decide +kernel) ⟨Nat.le_of_ble_eq_true rfl, Nat.le_of_ble_eq_true rfl⟩) ⟨mm_B_blind, ev_recv hK hM (ci := 4) rfl hg3 rfl, fun U hU hW => ⟨rfl, mm_B_of hK hZ hM hU hW⟩⟩ rfl rfl hl.1 rfl (lv_room (Nat.le_of_ble_eq_true rfl)) dX4_become_45 ⟨Nat.zero_le _, Nat.zero_le _⟩) hM (fun H locs hM => ?_)
  obtain rfl := Option.some.inj hf
  subst hQ
  exact ev_vret S hr hlocks hK hZ hM dX4_become_48
noncomputable def fn_X4_coveredDots_L4 (K : Nat → Nat) (N : Nat → Nat) (a0 : Nat) (I : Nat → Nat → Int32) (P : Nat → Nat → Option Nat) : Nat → Int32 → Int32 → Option (Int32)
  | 0, _, _ => none
  | n + 1, v1, v2 => if (192 : Int32) ≤ v2 then (some v1) else (gd (K a0 = 5) (Option.bind (P a0 (1)) (fun q6 => gd (K q6 = 12 ∧ vp_in v2 (N q6)) (if (I q6 (v2.toNatClampNeg)) = 0 then (fn_X4_coveredDots_L4 K N a0 I P n v1 (v2 + (1 : Int32))) else (fn_X4_coveredDots_L4 K N a0 I P n (v1 + (1 : Int32)) (v2 + (1 : Int32)))))))
noncomputable def fn_X4_coveredDots (K N : Nat → Nat) (I : Nat → Nat → Int32) (P : Nat → Nat → Option Nat) (a0 : Nat) : Option (Int32) := Option.bind (fn_X4_coveredDots_L4 K N a0 I P FU (0 : Int32) (0 : Int32)) (fun (r3 : Int32) => some r3)
abbrev wz_X4_coveredDots : List Cond := Cond.code yX4_coveredDots cX4_coveredDots 3 (some .int) :: WA
abbrev rm_X4_coveredDots : Room := { frames := 1, cells := 0, slots := 0, locals := 12 }
set_option maxHeartbeats 4000000 in
set_option maxRecDepth 100000 in
theorem c_X4_coveredDots (I : Nat → Nat → Int32) (P : Nat → Nat → Option Nat) (a0 : Nat) (res : Int32) (hf : fn_X4_coveredDots K N I P a0 = some res) : Met l yX4_coveredDots wz_X4_coveredDots rm_X4_coveredDots (va_Pc [.ref a0] (mm_B D cs A L K N z w I P)) (va_Qi (fun r (_ : Unit) => r = res) (fun _ => mm_B D cs A L K N z w I P) A) 0 0 A := by
  refine Met.ofW (cc := cX4_coveredDots) (maxL := 3) (ret := (some .int)) (by decide) rfl ?_
  intro p e s m args below meth c s₁ B hml hv
  obtain ⟨rfl, hBm⟩ := hv
  have hx := B.exec
  have hb := B.bytes
  have hr := B.returns
  have hts := atoms_spec (ws := wz_X4_coveredDots) B.pre
  have hWA : ∀ w ∈ WA, w.before ([.ref a0] : List Value).toArray s = true := fun u9 h9 => hts u9 (List.mem_cons_of_mem _ h9)
  have hown : s.vm.findClass RX4 = some m.cls := findClass_of_methodNamed B.named
  have hlocks := B.notSynchronized
  have S : CallFix p m c cX4_coveredDots 3 s ([.ref a0] : List Value).toArray wz_X4_coveredDots RX4 := ⟨hx, hb, hml, hown, hts⟩
  have hK := hBm.2.2.2.1
  have hZ := hBm.2.2.2.2
  have hM : mm_W D cs A L K N s.heap I P s.heap [] := ⟨hBm.1, hBm.2.1, hBm.2.2.1, va_S.rf⟩
  have hl := lv_entry ([.ref a0]) (n := 3) (Nat.le_of_ble_eq_true rfl)
  rw [lg_entry_eq]
  generalize (lg_sl ([.ref a0]) ++ List.replicate (3 - (lg_sl ([.ref a0])).length) Slot.unset).toArray = ls at hl ⊢
  have hl : lv_has ls 3 [(0, .ref a0)] := hl
  have hin4 : ∀ w ∈ wsX40, w ∈ wz_X4_coveredDots := fun w h => List.mem_cons_of_mem _ (wu_X4 w h)
  have lk15 : (Cond.fieldLink RX4 15 RX4 "covers" "[I").before ([.ref a0] : List Value).toArray s = true := hWA _ wa_1_130
  generalize hQ : MQ below (va_Qi (fun r (_ : Unit) => r = res) (fun _ => mm_B D cs A L K N z w I P) A) ([.ref a0] : List Value).toArray s 0 0 A = QQ
  rw [fn_X4_coveredDots] at hf
  refine lv_iconst (v := (0 : Int32)) hx hb dX4_coveredDots_0 (by decide) ?_
  refine lv_istore_n (lv' := [(1, .int (0 : Int32)), (0, .ref a0)]) hx hb dX4_coveredDots_1 rfl hl (by decide) rfl (fun ls hl => ?_)
  refine lv_iconst (v := (0 : Int32)) hx hb dX4_coveredDots_2 (by decide) ?_
  refine lv_istore_n (lv' := [(2, .int (0 : Int32)), (1, .int (0 : Int32)), (0, .ref a0)]) hx hb dX4_coveredDots_3 rfl hl (by decide) rfl (fun ls hl => ?_)
  have lp4_8 : ∀ (n : Nat) (v1 : Int32) (v2 : Int32) (H : Heap) (locs : List Loc) (ls : Array Slot) (r3 : Int32), mm_W D cs A L K N s.heap I P H locs → lv_has ls 3 [(0, .ref a0), (1, .int v1), (2, .int v2)] → fn_X4_coveredDots_L4 K N a0 I P n v1 v2 = some r3 → (∀ (H : Heap) (locs : List Loc) (ls : Array Slot), mm_W D cs A L K N s.heap I P H locs → lv_has ls 3 [(1, .int r3)] → W p l e (headSpec wz_X4_coveredDots rm_X4_coveredDots).room s m ([.ref a0] : List Value).toArray below meth c H locs 0 0 QQ (F0 m 29 ls [])) → W p l e (headSpec wz_X4_coveredDots rm_X4_coveredDots).room s m ([.ref a0] : List Value).toArray below meth c H locs 0 0 QQ (F0 m 4 ls []) := by
    intro n
    induction n with
    | zero => intro v1 v2 H locs ls r3 hM hl hf kk; exact nn_x (show (none : Option (Int32)) = some r3 from hf)
    | succ n ih =>
      intro v1 v2 H locs ls r3 hM hl hf kk
      rw [fn_X4_coveredDots_L4] at hf
      refine lv_iload_n hx hb dX4_coveredDots_4 rfl (lv_at hl 2 rfl) ?_
      refine lv_sipush (v := (192 : Int32)) hx hb dX4_coveredDots_5 (by decide) ?_
      refine lv_icmp_ge (tgt := 29) hx hb dX4_coveredDots_8 (by decide) (fun hc4 => ?_) (fun hc4 => ?_)
      · have hf := it_p hf hc4
        obtain rfl := Option.some.inj hf
        exact kk _ _ _ hM (lv_sub hl [1] rfl)
      · have hf := it_n hf hc4
        refine lv_aload_n hx hb dX4_coveredDots_11 rfl (lv_at hl 0 rfl) ?_
        refine gd_e hf (fun hg5 hf => ?_)
        refine bd_e hf (fun q6 eq6 hf => ?_)
        refine ev_getP (v := q6) S hK hM (ci := 4) (n := 5) (C := RX4) (T := TX4) hin4 rfl hg5 1 (by decide) lk15 rfl rfl eq6 rfl dX4_coveredDots_12 ?_
        refine lv_iload_n hx hb dX4_coveredDots_15 rfl (lv_at hl 2 rfl) ?_
        refine gd_e hf (fun hg7 hf => ?_)
        refine ev_iald S hK hM hg7 (j := v2.toNatClampNeg) rfl dX4_coveredDots_16 ?_
        refine lv_if_eq (tgt := 23) hx hb dX4_coveredDots_17 (by decide) (fun hc8 => ?_) (fun hc8 => ?_)
        · have hf := it_p hf hc8
          refine lv_iinc (v := (v2 + (1 : Int32))) (lv' := [(2, .int (v2 + (1 : Int32))), (0, .ref a0), (1, .int v1)]) hx hb dX4_coveredDots_23 hl (k := 2) rfl rfl (by decide) rfl (fun ls hl => ?_)
          refine lv_goto (tgt := 4) hx hb dX4_coveredDots_26 (by decide) ?_
          exact ih v1 (v2 + (1 : Int32)) _ _ _ _ hM (lv_sub hl [1, 2, 0] rfl) hf kk
        · have hf := it_n hf hc8
          refine lv_iinc (v := (v1 + (1 : Int32))) (lv' := [(1, .int (v1 + (1 : Int32))), (0, .ref a0), (2, .int v2)]) hx hb dX4_coveredDots_20 hl (k := 1) rfl rfl (by decide) rfl (fun ls hl => ?_)
          refine lv_iinc (v := (v2 + (1 : Int32))) (lv' := [(2, .int (v2 + (1 : Int32))), (1, .int (v1 + (1 : Int32))), (0, .ref a0)]) hx hb dX4_coveredDots_23 hl (k := 2) rfl rfl (by decide) rfl (fun ls hl => ?_)
          refine lv_goto (tgt := 4) hx hb dX4_coveredDots_26 (by decide) ?_
          exact ih (v1 + (1 : Int32)) (v2 + (1 : Int32)) _ _ _ _ hM (lv_sub hl [2, 1, 0] rfl) hf kk
  refine bd_e hf (fun r3 er3 hf => ?_)
  refine lp4_8 FU (0 : Int32) (0 : Int32) _ _ _ r3 hM (lv_sub hl [2, 1, 0] rfl) er3 (fun H locs ls hM hl => ?_)
  refine lv_iload_n hx hb dX4_coveredDots_29 rfl (lv_at hl 0 rfl) ?_
  obtain rfl := Option.some.inj hf
  subst hQ
  exact ev_iret S hr hlocks hK hZ hM dX4_coveredDots_30
noncomputable def fn_X4_paint (K N : Nat → Nat) (I : Nat → Nat → Int32) (P : Nat → Nat → Option Nat) (a0 : Nat) (x1 : Int32) (x2 : Int32) (x3 : Int32) : Option ((Nat → Nat → Int32)) := if x3 = 0 then (some I) else (gd (K a0 = 5) (Option.bind (P a0 (0)) (fun q3 => gd (K q3 = 12 ∧ vp_in x1 (N q3)) (Option.bind (some (I q3 (x1.toNatClampNeg))) (fun v5 => Option.bind (P a0 (1)) (fun q6 => gd (K q6 = 12 ∧ vp_in x1 (N q6)) (Option.bind (if (I q6 (x1.toNatClampNeg)) = 0 then (some x2) else (some (v5 + (((x2 - v5) * x3) / (255 : Int32))))) (fun (j9 : Int32) => Option.bind (some (up2 I q3 (x1.toNatClampNeg) j9)) (fun I10 => Option.bind (some (up2 I10 q6 (x1.toNatClampNeg) ((I10 q6 (x1.toNatClampNeg)) + ((((255 : Int32) - (I10 q6 (x1.toNatClampNeg))) * x3) / (255 : Int32))))) (fun I11 => some I11))))))))))
abbrev wz_X4_paint : List Cond := Cond.code yX4_paint cX4_paint 5 none :: WA
abbrev rm_X4_paint : Room := { frames := 1, cells := 0, slots := 0, locals := 12 }
set_option maxHeartbeats 4000000 in
set_option maxRecDepth 100000 in
theorem c_X4_paint (I : Nat → Nat → Int32) (P : Nat → Nat → Option Nat) (a0 : Nat) (x1 : Int32) (x2 : Int32) (x3 : Int32) (res : (Nat → Nat → Int32)) (hf : fn_X4_paint K N I P a0 x1 x2 x3 = some res) : Met l yX4_paint wz_X4_paint rm_X4_paint (va_Pc [.ref a0, .int x1, .int x2, .int x3] (mm_B D cs A L K N z w I P)) (va_Qv (fun (_ : Unit) => True) (fun _ => mm_B D cs A L K N z w res P) A) 0 0 A := by
  refine Met.ofW (cc := cX4_paint) (maxL := 5) (ret := none) (by decide) rfl ?_
  intro p e s m args below meth c s₁ B hml hv
  obtain ⟨rfl, hBm⟩ := hv
  have hx := B.exec
  have hb := B.bytes
  have hr := B.returns
  have hts := atoms_spec (ws := wz_X4_paint) B.pre
  have hWA : ∀ w ∈ WA, w.before ([.ref a0, .int x1, .int x2, .int x3] : List Value).toArray s = true := fun u9 h9 => hts u9 (List.mem_cons_of_mem _ h9)
  have hown : s.vm.findClass RX4 = some m.cls := findClass_of_methodNamed B.named
  have hlocks := B.notSynchronized
  have S : CallFix p m c cX4_paint 5 s ([.ref a0, .int x1, .int x2, .int x3] : List Value).toArray wz_X4_paint RX4 := ⟨hx, hb, hml, hown, hts⟩
  have hK := hBm.2.2.2.1
  have hZ := hBm.2.2.2.2
  have hM : mm_W D cs A L K N s.heap I P s.heap [] := ⟨hBm.1, hBm.2.1, hBm.2.2.1, va_S.rf⟩
  have hl := lv_entry ([.ref a0, .int x1, .int x2, .int x3]) (n := 5) (Nat.le_of_ble_eq_true rfl)
  rw [lg_entry_eq]
  generalize (lg_sl ([.ref a0, .int x1, .int x2, .int x3]) ++ List.replicate (5 - (lg_sl ([.ref a0, .int x1, .int x2, .int x3])).length) Slot.unset).toArray = ls at hl ⊢
  have hl : lv_has ls 5 [(0, .ref a0), (1, .int x1), (2, .int x2), (3, .int x3)] := hl
  have hin4 : ∀ w ∈ wsX40, w ∈ wz_X4_paint := fun w h => List.mem_cons_of_mem _ (wu_X4 w h)
  have lk9 : (Cond.fieldLink RX4 9 RX4 "inks" "[I").before ([.ref a0, .int x1, .int x2, .int x3] : List Value).toArray s = true := hWA _ wa_1_126
  have lk15 : (Cond.fieldLink RX4 15 RX4 "covers" "[I").before ([.ref a0, .int x1, .int x2, .int x3] : List Value).toArray s = true := hWA _ wa_1_130
  generalize hQ : MQ below (va_Qv (fun (_ : Unit) => True) (fun _ => mm_B D cs A L K N z w res P) A) ([.ref a0, .int x1, .int x2, .int x3] : List Value).toArray s 0 0 A = QQ
  rw [fn_X4_paint] at hf
  refine lv_iload_n hx hb dX4_paint_0 rfl (lv_at hl 3 rfl) ?_
  refine lv_if_ne (tgt := 5) hx hb dX4_paint_1 (by decide) (fun hc1 => ?_) (fun hc1 => ?_)
  · have hf := it_n hf hc1
    refine lv_aload_n hx hb dX4_paint_5 rfl (lv_at hl 0 rfl) ?_
    refine gd_e hf (fun hg2 hf => ?_)
    refine bd_e hf (fun q3 eq3 hf => ?_)
    refine ev_getP (v := q3) S hK hM (ci := 4) (n := 5) (C := RX4) (T := TX4) hin4 rfl hg2 0 (by decide) lk9 rfl rfl eq3 rfl dX4_paint_6 ?_
    refine lv_iload_n hx hb dX4_paint_9 rfl (lv_at hl 1 rfl) ?_
    refine gd_e hf (fun hg4 hf => ?_)
    refine ev_iald S hK hM hg4 (j := x1.toNatClampNeg) rfl dX4_paint_10 ?_
    refine lv_topi (fun v5 ev5 => ?_)
    have hf := nm_x ev5 hf
    refine lv_istore (lv' := [(4, .int v5), (0, .ref a0), (1, .int x1), (2, .int x2), (3, .int x3)]) hx hb dX4_paint_11 hl (by decide) rfl (fun ls hl => ?_)
    refine lv_aload_n hx hb dX4_paint_13 rfl (lv_at hl 1 rfl) ?_
    refine ev_getP (v := q3) S hK hM (ci := 4) (n := 5) (C := RX4) (T := TX4) hin4 rfl hg2 0 (by decide) lk9 rfl rfl eq3 rfl dX4_paint_14 ?_
    refine lv_iload_n hx hb dX4_paint_17 rfl (lv_at hl 2 rfl) ?_
    refine lv_aload_n hx hb dX4_paint_18 rfl (lv_at hl 1 rfl) ?_
    refine bd_e hf (fun q6 eq6 hf => ?_)
    refine ev_getP (v := q6) S hK hM (ci := 4) (n := 5) (C := RX4) (T := TX4) hin4 rfl hg2 1 (by decide) lk15 rfl rfl eq6 rfl dX4_paint_19 ?_
    refine lv_iload_n hx hb dX4_paint_22 rfl (lv_at hl 2 rfl) ?_
    refine gd_e hf (fun hg7 hf => ?_)
    refine ev_iald S hK hM hg7 (j := x1.toNatClampNeg) rfl dX4_paint_23 ?_
    refine bd_e hf (fun j9 ej9 hf => ?_)
    have kj9 : ∀ (H : Heap) (locs : List Loc) (ls : Array Slot), mm_W D cs A L K N s.heap I P H locs → lv_has ls 5 [(0, .ref a0), (1, .int x1), (3, .int x3)] → W p l e (headSpec wz_X4_paint rm_X4_paint).room s m ([.ref a0, .int x1, .int x2, .int x3] : List Value).toArray below meth c H locs 0 0 QQ (F0 m 44 ls [.int j9, .int x1, .ref q3]) := by
      intro H locs ls hM hl
      refine ev_iast S hK hM hg4 (j := x1.toNatClampNeg) rfl dX4_paint_44 (fun I10 eI10 H locs hM => ?_)
      have hf := nm_x eI10 hf
      refine lv_aload_n hx hb dX4_paint_45 rfl (lv_at hl 0 rfl) ?_
      refine ev_getP (v := q6) S hK hM (ci := 4) (n := 5) (C := RX4) (T := TX4) hin4 rfl hg2 1 (by decide) lk15 rfl rfl eq6 rfl dX4_paint_46 ?_
      refine lv_iload_n hx hb dX4_paint_49 rfl (lv_at hl 1 rfl) ?_
      refine lv_dup2_11 hx hb dX4_paint_50 rfl rfl ?_
      refine ev_iald S hK hM hg7 (j := x1.toNatClampNeg) rfl dX4_paint_51 ?_
      refine lv_sipush (v := (255 : Int32)) hx hb dX4_paint_52 (by decide) ?_
      refine lv_aload_n hx hb dX4_paint_55 rfl (lv_at hl 0 rfl) ?_
      refine ev_getP (v := q6) S hK hM (ci := 4) (n := 5) (C := RX4) (T := TX4) hin4 rfl hg2 1 (by decide) lk15 rfl rfl eq6 rfl dX4_paint_56 ?_
      refine lv_iload_n hx hb dX4_paint_59 rfl (lv_at hl 1 rfl) ?_
      refine ev_iald S hK hM hg7 (j := x1.toNatClampNeg) rfl dX4_paint_60 ?_
      refine lv_isub hx hb dX4_paint_61 ?_
      refine lv_iload_n hx hb dX4_paint_62 rfl (lv_at hl 2 rfl) ?_
      refine lv_imul hx hb dX4_paint_63 ?_
      refine lv_sipush (v := (255 : Int32)) hx hb dX4_paint_64 (by decide) ?_
      refine lv_idiv hx hb dX4_paint_67 (by decide) ?_
      refine lv_iadd hx hb dX4_paint_68 ?_
      refine ev_iast S hK hM hg7 (j := x1.toNatClampNeg) rfl dX4_paint_69 (fun I11 eI11 H locs hM => ?_)
      have hf := nm_x eI11 hf
      obtain rfl := Option.some.inj hf
      subst hQ
      exact ev_vret S hr hlocks hK hZ hM dX4_paint_70
    have hf := ej9
    refine lv_if_ne (tgt := 31) hx hb dX4_paint_24 (by decide) (fun hc8 => ?_) (fun hc8 => ?_)
    · have hf := it_n hf hc8
      refine lv_iload hx hb dX4_paint_31 (lv_at hl 0 rfl) ?_
      refine lv_iload_n hx hb dX4_paint_33 rfl (lv_at hl 3 rfl) ?_
      refine lv_iload hx hb dX4_paint_34 (lv_at hl 0 rfl) ?_
      refine lv_isub hx hb dX4_paint_36 ?_
      refine lv_iload_n hx hb dX4_paint_37 rfl (lv_at hl 4 rfl) ?_
      refine lv_imul hx hb dX4_paint_38 ?_
      refine lv_sipush (v := (255 : Int32)) hx hb dX4_paint_39 (by decide) ?_
      refine lv_idiv hx hb dX4_paint_42 (by decide) ?_
      refine lv_iadd hx hb dX4_paint_43 ?_
      obtain rfl := Option.some.inj hf
      exact kj9 _ _ _ hM (lv_sub hl [1, 2, 4] rfl)
    · have hf := it_p hf hc8
      refine lv_iload_n hx hb dX4_paint_27 rfl (lv_at hl 3 rfl) ?_
      refine lv_goto (tgt := 44) hx hb dX4_paint_28 (by decide) ?_
      obtain rfl := Option.some.inj hf
      exact kj9 _ _ _ hM (lv_sub hl [1, 2, 4] rfl)
  · have hf := it_p hf hc1
    obtain rfl := Option.some.inj hf
    subst hQ
    exact ev_vret S hr hlocks hK hZ hM dX4_paint_4
noncomputable def fn_X4_wipe (K N : Nat → Nat) (I : Nat → Nat → Int32) (P : Nat → Nat → Option Nat) (a0 : Nat) (x1 : Int32) (x2 : Int32) : Option ((Nat → Nat → Int32)) := gd (K a0 = 5) (Option.bind (P a0 (1)) (fun q2 => gd (K q2 = 12 ∧ vp_in x1 (N q2)) (Option.bind (some (up2 I q2 (x1.toNatClampNeg) (((I q2 (x1.toNatClampNeg)) * ((255 : Int32) - x2)) / (255 : Int32)))) (fun I4 => if (I4 q2 (x1.toNatClampNeg)) = 0 then (Option.bind (P a0 (0)) (fun q6 => gd (K q6 = 12 ∧ vp_in x1 (N q6)) (Option.bind (some (up2 I4 q6 (x1.toNatClampNeg) (0 : Int32))) (fun I8 => some I8)))) else (some I4)))))
abbrev wz_X4_wipe : List Cond := Cond.code yX4_wipe cX4_wipe 3 none :: WA
abbrev rm_X4_wipe : Room := { frames := 1, cells := 0, slots := 0, locals := 12 }
set_option maxHeartbeats 4000000 in
set_option maxRecDepth 100000 in
theorem c_X4_wipe (I : Nat → Nat → Int32) (P : Nat → Nat → Option Nat) (a0 : Nat) (x1 : Int32) (x2 : Int32) (res : (Nat → Nat → Int32)) (hf : fn_X4_wipe K N I P a0 x1 x2 = some res) : Met l yX4_wipe wz_X4_wipe rm_X4_wipe (va_Pc [.ref a0, .int x1, .int x2] (mm_B D cs A L K N z w I P)) (va_Qv (fun (_ : Unit) => True) (fun _ => mm_B D cs A L K N z w res P) A) 0 0 A := by
  refine Met.ofW (cc := cX4_wipe) (maxL := 3) (ret := none) (by decide) rfl ?_
  intro p e s m args below meth c s₁ B hml hv
  obtain ⟨rfl, hBm⟩ := hv
  have hx := B.exec
  have hb := B.bytes
  have hr := B.returns
  have hts := atoms_spec (ws := wz_X4_wipe) B.pre
  have hWA : ∀ w ∈ WA, w.before ([.ref a0, .int x1, .int x2] : List Value).toArray s = true := fun u9 h9 => hts u9 (List.mem_cons_of_mem _ h9)
  have hown : s.vm.findClass RX4 = some m.cls := findClass_of_methodNamed B.named
  have hlocks := B.notSynchronized
  have S : CallFix p m c cX4_wipe 3 s ([.ref a0, .int x1, .int x2] : List Value).toArray wz_X4_wipe RX4 := ⟨hx, hb, hml, hown, hts⟩
  have hK := hBm.2.2.2.1
  have hZ := hBm.2.2.2.2
  have hM : mm_W D cs A L K N s.heap I P s.heap [] := ⟨hBm.1, hBm.2.1, hBm.2.2.1, va_S.rf⟩
  have hl := lv_entry ([.ref a0, .int x1, .int x2]) (n := 3) (Nat.le_of_ble_eq_true rfl)
  rw [lg_entry_eq]
  generalize (lg_sl ([.ref a0, .int x1, .int x2]) ++ List.replicate (3 - (lg_sl ([.ref a0, .int x1, .int x2])).length) Slot.unset).toArray = ls at hl ⊢
  have hl : lv_has ls 3 [(0, .ref a0), (1, .int x1), (2, .int x2)] := hl
  have hin4 : ∀ w ∈ wsX40, w ∈ wz_X4_wipe := fun w h => List.mem_cons_of_mem _ (wu_X4 w h)
  have lk15 : (Cond.fieldLink RX4 15 RX4 "covers" "[I").before ([.ref a0, .int x1, .int x2] : List Value).toArray s = true := hWA _ wa_1_130
  have lk9 : (Cond.fieldLink RX4 9 RX4 "inks" "[I").before ([.ref a0, .int x1, .int x2] : List Value).toArray s = true := hWA _ wa_1_126
  generalize hQ : MQ below (va_Qv (fun (_ : Unit) => True) (fun _ => mm_B D cs A L K N z w res P) A) ([.ref a0, .int x1, .int x2] : List Value).toArray s 0 0 A = QQ
  rw [fn_X4_wipe] at hf
  refine lv_aload_n hx hb dX4_wipe_0 rfl (lv_at hl 0 rfl) ?_
  refine gd_e hf (fun hg1 hf => ?_)
  refine bd_e hf (fun q2 eq2 hf => ?_)
  refine ev_getP (v := q2) S hK hM (ci := 4) (n := 5) (C := RX4) (T := TX4) hin4 rfl hg1 1 (by decide) lk15 rfl rfl eq2 rfl dX4_wipe_1 ?_
  refine lv_iload_n hx hb dX4_wipe_4 rfl (lv_at hl 1 rfl) ?_
  refine lv_aload_n hx hb dX4_wipe_5 rfl (lv_at hl 0 rfl) ?_
  refine ev_getP (v := q2) S hK hM (ci := 4) (n := 5) (C := RX4) (T := TX4) hin4 rfl hg1 1 (by decide) lk15 rfl rfl eq2 rfl dX4_wipe_6 ?_
  refine lv_iload_n hx hb dX4_wipe_9 rfl (lv_at hl 1 rfl) ?_
  refine gd_e hf (fun hg3 hf => ?_)
  refine ev_iald S hK hM hg3 (j := x1.toNatClampNeg) rfl dX4_wipe_10 ?_
  refine lv_sipush (v := (255 : Int32)) hx hb dX4_wipe_11 (by decide) ?_
  refine lv_iload_n hx hb dX4_wipe_14 rfl (lv_at hl 2 rfl) ?_
  refine lv_isub hx hb dX4_wipe_15 ?_
  refine lv_imul hx hb dX4_wipe_16 ?_
  refine lv_sipush (v := (255 : Int32)) hx hb dX4_wipe_17 (by decide) ?_
  refine lv_idiv hx hb dX4_wipe_20 (by decide) ?_
  refine ev_iast S hK hM hg3 (j := x1.toNatClampNeg) rfl dX4_wipe_21 (fun I4 eI4 H locs hM => ?_)
  have hf := nm_x eI4 hf
  refine lv_aload_n hx hb dX4_wipe_22 rfl (lv_at hl 0 rfl) ?_
  refine ev_getP (v := q2) S hK hM (ci := 4) (n := 5) (C := RX4) (T := TX4) hin4 rfl hg1 1 (by decide) lk15 rfl rfl eq2 rfl dX4_wipe_23 ?_
  refine lv_iload_n hx hb dX4_wipe_26 rfl (lv_at hl 1 rfl) ?_
  refine ev_iald S hK hM hg3 (j := x1.toNatClampNeg) rfl dX4_wipe_27 ?_
  refine lv_if_ne (tgt := 38) hx hb dX4_wipe_28 (by decide) (fun hc5 => ?_) (fun hc5 => ?_)
  · have hf := it_n hf hc5
    obtain rfl := Option.some.inj hf
    subst hQ
    exact ev_vret S hr hlocks hK hZ hM dX4_wipe_38
  · have hf := it_p hf hc5
    refine lv_aload_n hx hb dX4_wipe_31 rfl (lv_at hl 0 rfl) ?_
    refine bd_e hf (fun q6 eq6 hf => ?_)
    refine ev_getP (v := q6) S hK hM (ci := 4) (n := 5) (C := RX4) (T := TX4) hin4 rfl hg1 0 (by decide) lk9 rfl rfl eq6 rfl dX4_wipe_32 ?_
    refine lv_iload_n hx hb dX4_wipe_35 rfl (lv_at hl 1 rfl) ?_
    refine lv_iconst (v := (0 : Int32)) hx hb dX4_wipe_36 (by decide) ?_
    refine gd_e hf (fun hg7 hf => ?_)
    refine ev_iast S hK hM hg7 (j := x1.toNatClampNeg) rfl dX4_wipe_37 (fun I8 eI8 H locs hM => ?_)
    have hf := nm_x eI8 hf
    obtain rfl := Option.some.inj hf
    subst hQ
    exact ev_vret S hr hlocks hK hZ hM dX4_wipe_38
noncomputable def fn_X4_times (x0 : Int32) (x1 : Int32) : Option (Int32) := some ((x0 * x1) / (255 : Int32))
abbrev wz_X4_times : List Cond := Cond.code yX4_times cX4_times 2 (some .int) :: WA
abbrev rm_X4_times : Room := { frames := 1, cells := 0, slots := 0, locals := 12 }
set_option maxHeartbeats 4000000 in
set_option maxRecDepth 100000 in
theorem c_X4_times (I : Nat → Nat → Int32) (P : Nat → Nat → Option Nat) (x0 : Int32) (x1 : Int32) (res : Int32) (hf : fn_X4_times x0 x1 = some res) : Met l yX4_times wz_X4_times rm_X4_times (va_Pc [.int x0, .int x1] (mm_B D cs A L K N z w I P)) (va_Qi (fun r (_ : Unit) => r = res) (fun _ => mm_B D cs A L K N z w I P) A) 0 0 A := by
  refine Met.ofW (cc := cX4_times) (maxL := 2) (ret := (some .int)) (by decide) rfl ?_
  intro p e s m args below meth c s₁ B hml hv
  obtain ⟨rfl, hBm⟩ := hv
  have hx := B.exec
  have hb := B.bytes
  have hr := B.returns
  have hts := atoms_spec (ws := wz_X4_times) B.pre
  have hWA : ∀ w ∈ WA, w.before ([.int x0, .int x1] : List Value).toArray s = true := fun u9 h9 => hts u9 (List.mem_cons_of_mem _ h9)
  have hown : s.vm.findClass RX4 = some m.cls := findClass_of_methodNamed B.named
  have hlocks := B.notSynchronized
  have S : CallFix p m c cX4_times 2 s ([.int x0, .int x1] : List Value).toArray wz_X4_times RX4 := ⟨hx, hb, hml, hown, hts⟩
  have hK := hBm.2.2.2.1
  have hZ := hBm.2.2.2.2
  have hM : mm_W D cs A L K N s.heap I P s.heap [] := ⟨hBm.1, hBm.2.1, hBm.2.2.1, va_S.rf⟩
  have hl := lv_entry ([.int x0, .int x1]) (n := 2) (Nat.le_of_ble_eq_true rfl)
  rw [lg_entry_eq]
  generalize (lg_sl ([.int x0, .int x1]) ++ List.replicate (2 - (lg_sl ([.int x0, .int x1])).length) Slot.unset).toArray = ls at hl ⊢
  have hl : lv_has ls 2 [(0, .int x0), (1, .int x1)] := hl
  generalize hQ : MQ below (va_Qi (fun r (_ : Unit) => r = res) (fun _ => mm_B D cs A L K N z w I P) A) ([.int x0, .int x1] : List Value).toArray s 0 0 A = QQ
  unfold fn_X4_times at hf
  refine lv_iload_n hx hb dX4_times_0 rfl (lv_at hl 0 rfl) ?_
  refine lv_iload_n hx hb dX4_times_1 rfl (lv_at hl 1 rfl) ?_
  refine lv_imul hx hb dX4_times_2 ?_
  refine lv_sipush (v := (255 : Int32)) hx hb dX4_times_3 (by decide) ?_
  refine lv_idiv hx hb dX4_times_6 (by decide) ?_
  obtain rfl := Option.some.inj hf
  subst hQ
  exact ev_iret S hr hlocks hK hZ hM dX4_times_7
noncomputable def fn_X4_screened (x0 : Int32) (x1 : Int32) : Option (Int32) := some ((255 : Int32) - ((((255 : Int32) - x0) * ((255 : Int32) - x1)) / (255 : Int32)))
abbrev wz_X4_screened : List Cond := Cond.code yX4_screened cX4_screened 2 (some .int) :: WA
abbrev rm_X4_screened : Room := { frames := 1, cells := 0, slots := 0, locals := 12 }
set_option maxHeartbeats 4000000 in
set_option maxRecDepth 100000 in
theorem c_X4_screened (I : Nat → Nat → Int32) (P : Nat → Nat → Option Nat) (x0 : Int32) (x1 : Int32) (res : Int32) (hf : fn_X4_screened x0 x1 = some res) : Met l yX4_screened wz_X4_screened rm_X4_screened (va_Pc [.int x0, .int x1] (mm_B D cs A L K N z w I P)) (va_Qi (fun r (_ : Unit) => r = res) (fun _ => mm_B D cs A L K N z w I P) A) 0 0 A := by
  refine Met.ofW (cc := cX4_screened) (maxL := 2) (ret := (some .int)) (by decide) rfl ?_
  intro p e s m args below meth c s₁ B hml hv
  obtain ⟨rfl, hBm⟩ := hv
  have hx := B.exec
  have hb := B.bytes
  have hr := B.returns
  have hts := atoms_spec (ws := wz_X4_screened) B.pre
  have hWA : ∀ w ∈ WA, w.before ([.int x0, .int x1] : List Value).toArray s = true := fun u9 h9 => hts u9 (List.mem_cons_of_mem _ h9)
  have hown : s.vm.findClass RX4 = some m.cls := findClass_of_methodNamed B.named
  have hlocks := B.notSynchronized
  have S : CallFix p m c cX4_screened 2 s ([.int x0, .int x1] : List Value).toArray wz_X4_screened RX4 := ⟨hx, hb, hml, hown, hts⟩
  have hK := hBm.2.2.2.1
  have hZ := hBm.2.2.2.2
  have hM : mm_W D cs A L K N s.heap I P s.heap [] := ⟨hBm.1, hBm.2.1, hBm.2.2.1, va_S.rf⟩
  have hl := lv_entry ([.int x0, .int x1]) (n := 2) (Nat.le_of_ble_eq_true rfl)
  rw [lg_entry_eq]
  generalize (lg_sl ([.int x0, .int x1]) ++ List.replicate (2 - (lg_sl ([.int x0, .int x1])).length) Slot.unset).toArray = ls at hl ⊢
  have hl : lv_has ls 2 [(0, .int x0), (1, .int x1)] := hl
  generalize hQ : MQ below (va_Qi (fun r (_ : Unit) => r = res) (fun _ => mm_B D cs A L K N z w I P) A) ([.int x0, .int x1] : List Value).toArray s 0 0 A = QQ
  unfold fn_X4_screened at hf
  refine lv_sipush (v := (255 : Int32)) hx hb dX4_screened_0 (by decide) ?_
  refine lv_sipush (v := (255 : Int32)) hx hb dX4_screened_3 (by decide) ?_
  refine lv_iload_n hx hb dX4_screened_6 rfl (lv_at hl 0 rfl) ?_
  refine lv_isub hx hb dX4_screened_7 ?_
  refine lv_sipush (v := (255 : Int32)) hx hb dX4_screened_8 (by decide) ?_
  refine lv_iload_n hx hb dX4_screened_11 rfl (lv_at hl 1 rfl) ?_
  refine lv_isub hx hb dX4_screened_12 ?_
  refine lv_imul hx hb dX4_screened_13 ?_
  refine lv_sipush (v := (255 : Int32)) hx hb dX4_screened_14 (by decide) ?_
  refine lv_idiv hx hb dX4_screened_17 (by decide) ?_
  refine lv_isub hx hb dX4_screened_18 ?_
  obtain rfl := Option.some.inj hf
  subst hQ
  exact ev_iret S hr hlocks hK hZ hM dX4_screened_19
noncomputable def fn_X4_makes (K N : Nat → Nat) (I : Nat → Nat → Int32) (P : Nat → Nat → Option Nat) (a0 : Nat) (x1 : Int32) (x2 : Int32) : Option (Int32) := gd (K a0 = 5) (if (I a0 2) = (1 : Int32) then (Option.bind (fn_X4_times x1 x2) (fun (r7 : Int32) => some r7)) else (if (I a0 2) = (2 : Int32) then (Option.bind (fn_X4_screened x1 x2) (fun (r8 : Int32) => some r8)) else (if (I a0 2) = (3 : Int32) then (Option.bind (fn_X4_times x1 x2) (fun (r9 : Int32) => some (if (r9 - (I a0 3)) < (0 : Int32) then (0 : Int32) else (r9 - (I a0 3))))) else (if (I a0 2) = (4 : Int32) then (Option.bind (fn_X4_screened x1 x2) (fun (r10 : Int32) => some (if (255 : Int32) < (r10 + (I a0 3)) then (255 : Int32) else (r10 + (I a0 3))))) else (if (I a0 2) = (5 : Int32) then (some (if 0 ≤ (x1 - x2) then (x1 - x2) else 0 - (x1 - x2))) else (some x2))))))
abbrev wz_X4_makes : List Cond := Cond.code yX4_makes cX4_makes 3 (some .int) :: WA
abbrev rm_X4_makes : Room := { frames := 2, cells := 0, slots := 0, locals := 33 }
set_option maxHeartbeats 4000000 in
set_option maxRecDepth 100000 in
theorem c_X4_makes (I : Nat → Nat → Int32) (P : Nat → Nat → Option Nat) (a0 : Nat) (x1 : Int32) (x2 : Int32) (res : Int32) (hf : fn_X4_makes K N I P a0 x1 x2 = some res) : Met l yX4_makes wz_X4_makes rm_X4_makes (va_Pc [.ref a0, .int x1, .int x2] (mm_B D cs A L K N z w I P)) (va_Qi (fun r (_ : Unit) => r = res) (fun _ => mm_B D cs A L K N z w I P) A) 0 0 A := by
  refine Met.ofW (cc := cX4_makes) (maxL := 3) (ret := (some .int)) (by decide) rfl ?_
  intro p e s m args below meth c s₁ B hml hv
  obtain ⟨rfl, hBm⟩ := hv
  have hx := B.exec
  have hb := B.bytes
  have hr := B.returns
  have hts := atoms_spec (ws := wz_X4_makes) B.pre
  have hWA : ∀ w ∈ WA, w.before ([.ref a0, .int x1, .int x2] : List Value).toArray s = true := fun u9 h9 => hts u9 (List.mem_cons_of_mem _ h9)
  have hown : s.vm.findClass RX4 = some m.cls := findClass_of_methodNamed B.named
  have hlocks := B.notSynchronized
  have S : CallFix p m c cX4_makes 3 s ([.ref a0, .int x1, .int x2] : List Value).toArray wz_X4_makes RX4 := ⟨hx, hb, hml, hown, hts⟩
  have hK := hBm.2.2.2.1
  have hZ := hBm.2.2.2.2
  have hM : mm_W D cs A L K N s.heap I P s.heap [] := ⟨hBm.1, hBm.2.1, hBm.2.2.1, va_S.rf⟩
  have hl := lv_entry ([.ref a0, .int x1, .int x2]) (n := 3) (Nat.le_of_ble_eq_true rfl)
  rw [lg_entry_eq]
  generalize (lg_sl ([.ref a0, .int x1, .int x2]) ++ List.replicate (3 - (lg_sl ([.ref a0, .int x1, .int x2])).length) Slot.unset).toArray = ls at hl ⊢
  have hl : lv_has ls 3 [(0, .ref a0), (1, .int x1), (2, .int x2)] := hl
  have hin4 : ∀ w ∈ wsX40, w ∈ wz_X4_makes := fun w h => List.mem_cons_of_mem _ (wu_X4 w h)
  have lk24 : (Cond.fieldLink RX4 24 RX4 "mode" "I").before ([.ref a0, .int x1, .int x2] : List Value).toArray s = true := hWA _ wa_1_134
  have lk28 : (Cond.fieldLink RX4 28 RX4 "figure" "I").before ([.ref a0, .int x1, .int x2] : List Value).toArray s = true := hWA _ wa_1_136
  generalize hQ : MQ below (va_Qi (fun r (_ : Unit) => r = res) (fun _ => mm_B D cs A L K N z w I P) A) ([.ref a0, .int x1, .int x2] : List Value).toArray s 0 0 A = QQ
  rw [fn_X4_makes] at hf
  refine lv_aload_n hx hb dX4_makes_0 rfl (lv_at hl 0 rfl) ?_
  refine gd_e hf (fun hg1 hf => ?_)
  refine ev_get (v := .int (I a0 2)) S hK hM (ci := 4) (n := 5) (C := RX4) (T := TX4) hin4 rfl hg1 2 (by decide) lk24 rfl rfl rfl dX4_makes_1 ?_
  refine (Classical.em ((I a0 2) = (1 : Int32))).elim (fun hc2 => ?_) (fun hc2 => ?_)
  · have hf := it_p hf hc2
    refine lv_tableIn (off := 36) (tgt := 40) hx hb dX4_makes_4 (by rw [hc2]; decide) (by rw [hc2]; decide) (by rw [hc2]; rfl) (by decide) ?_
    refine lv_iload_n hx hb dX4_makes_40 rfl (lv_at hl 1 rfl) ?_
    refine lv_iload_n hx hb dX4_makes_41 rfl (lv_at hl 2 rfl) ?_
    refine bd_e hf (fun r7 er7 hf => ?_)
    refine ev_calli (va_runS (As := [.int x1, .int x2]) (rest := []) S (c_X4_times (l := l) I P x1 x2 r7 er7) (va_cwS 2 hts (gi_s wa_2_123 wa_2_124 wa_1_7 wa_2_125) rfl rfl rfl (by decide +kernel) ⟨Nat.le_of_ble_eq_true rfl, Nat.le_of_ble_eq_true rfl⟩) ⟨mm_B_blind, fun U hU hW => ⟨rfl, mm_B_of hK hZ hM hU hW⟩⟩ rfl rfl hl.1 rfl (lv_room (Nat.le_of_ble_eq_true rfl)) dX4_makes_42 ⟨Nat.zero_le _, Nat.zero_le _⟩) hM (fun H locs hM => ?_)
    obtain rfl := Option.some.inj hf
    subst hQ
    exact ev_iret S hr hlocks hK hZ hM dX4_makes_45
  · have hf := it_n hf hc2
    refine (Classical.em ((I a0 2) = (2 : Int32))).elim (fun hc3 => ?_) (fun hc3 => ?_)
    · have hf := it_p hf hc3
      refine lv_tableIn (off := 42) (tgt := 46) hx hb dX4_makes_4 (by rw [hc3]; decide) (by rw [hc3]; decide) (by rw [hc3]; rfl) (by decide) ?_
      refine lv_iload_n hx hb dX4_makes_46 rfl (lv_at hl 1 rfl) ?_
      refine lv_iload_n hx hb dX4_makes_47 rfl (lv_at hl 2 rfl) ?_
      refine bd_e hf (fun r8 er8 hf => ?_)
      refine ev_calli (va_runS (As := [.int x1, .int x2]) (rest := []) S (c_X4_screened (l := l) I P x1 x2 r8 er8) (va_cwS 2 hts (gi_s wa_2_126 wa_2_127 wa_1_7 wa_2_128) rfl rfl rfl (by decide +kernel) ⟨Nat.le_of_ble_eq_true rfl, Nat.le_of_ble_eq_true rfl⟩) ⟨mm_B_blind, fun U hU hW => ⟨rfl, mm_B_of hK hZ hM hU hW⟩⟩ rfl rfl hl.1 rfl (lv_room (Nat.le_of_ble_eq_true rfl)) dX4_makes_48 ⟨Nat.zero_le _, Nat.zero_le _⟩) hM (fun H locs hM => ?_)
      obtain rfl := Option.some.inj hf
      subst hQ
      exact ev_iret S hr hlocks hK hZ hM dX4_makes_51
    · have hf := it_n hf hc3
      refine (Classical.em ((I a0 2) = (3 : Int32))).elim (fun hc4 => ?_) (fun hc4 => ?_)
      · have hf := it_p hf hc4
        refine lv_tableIn (off := 48) (tgt := 52) hx hb dX4_makes_4 (by rw [hc4]; decide) (by rw [hc4]; decide) (by rw [hc4]; rfl) (by decide) ?_
        refine lv_iload_n hx hb dX4_makes_52 rfl (lv_at hl 1 rfl) ?_
        refine lv_iload_n hx hb dX4_makes_53 rfl (lv_at hl 2 rfl) ?_
        refine bd_e hf (fun r9 er9 hf => ?_)
        refine ev_calli (va_runS (As := [.int x1, .int x2]) (rest := []) S (c_X4_times (l := l) I P x1 x2 r9 er9) (va_cwS 2 hts (gi_s wa_2_123 wa_2_124 wa_1_7 wa_2_125) rfl rfl rfl (by decide +kernel) ⟨Nat.le_of_ble_eq_true rfl, Nat.le_of_ble_eq_true rfl⟩) ⟨mm_B_blind, fun U hU hW => ⟨rfl, mm_B_of hK hZ hM hU hW⟩⟩ rfl rfl hl.1 rfl (lv_room (Nat.le_of_ble_eq_true rfl)) dX4_makes_54 ⟨Nat.zero_le _, Nat.zero_le _⟩) hM (fun H locs hM => ?_)
        refine lv_aload_n hx hb dX4_makes_57 rfl (lv_at hl 0 rfl) ?_
        refine ev_get (v := .int (I a0 3)) S hK hM (ci := 4) (n := 5) (C := RX4) (T := TX4) hin4 rfl hg1 3 (by decide) lk28 rfl rfl rfl dX4_makes_58 ?_
        refine lv_isub hx hb dX4_makes_61 ?_
        refine lv_iconst (v := (0 : Int32)) hx hb dX4_makes_62 (by decide) ?_
        refine va_mmax hx hb (hml.trans hl.1.symm) hown (hWA _ wa_2_129) (hWA _ wa_2_130) (hWA _ wa_1_13) (hWA _ wa_2_131) (Nat.le_of_ble_eq_true rfl) (Nat.le_of_ble_eq_true rfl) (Nat.zero_le _) (Nat.zero_le _) dX4_makes_63 ?_
        obtain rfl := Option.some.inj hf
        subst hQ
        exact ev_iret S hr hlocks hK hZ hM dX4_makes_66
      · have hf := it_n hf hc4
        refine (Classical.em ((I a0 2) = (4 : Int32))).elim (fun hc5 => ?_) (fun hc5 => ?_)
        · have hf := it_p hf hc5
          refine lv_tableIn (off := 63) (tgt := 67) hx hb dX4_makes_4 (by rw [hc5]; decide) (by rw [hc5]; decide) (by rw [hc5]; rfl) (by decide) ?_
          refine lv_iload_n hx hb dX4_makes_67 rfl (lv_at hl 1 rfl) ?_
          refine lv_iload_n hx hb dX4_makes_68 rfl (lv_at hl 2 rfl) ?_
          refine bd_e hf (fun r10 er10 hf => ?_)
          refine ev_calli (va_runS (As := [.int x1, .int x2]) (rest := []) S (c_X4_screened (l := l) I P x1 x2 r10 er10) (va_cwS 2 hts (gi_s wa_2_126 wa_2_127 wa_1_7 wa_2_128) rfl rfl rfl (by decide +kernel) ⟨Nat.le_of_ble_eq_true rfl, Nat.le_of_ble_eq_true rfl⟩) ⟨mm_B_blind, fun U hU hW => ⟨rfl, mm_B_of hK hZ hM hU hW⟩⟩ rfl rfl hl.1 rfl (lv_room (Nat.le_of_ble_eq_true rfl)) dX4_makes_69 ⟨Nat.zero_le _, Nat.zero_le _⟩) hM (fun H locs hM => ?_)
          refine lv_aload_n hx hb dX4_makes_72 rfl (lv_at hl 0 rfl) ?_
          refine ev_get (v := .int (I a0 3)) S hK hM (ci := 4) (n := 5) (C := RX4) (T := TX4) hin4 rfl hg1 3 (by decide) lk28 rfl rfl rfl dX4_makes_73 ?_
          refine lv_iadd hx hb dX4_makes_76 ?_
          refine lv_sipush (v := (255 : Int32)) hx hb dX4_makes_77 (by decide) ?_
          refine va_mmin hx hb (hml.trans hl.1.symm) hown (hWA _ wa_2_132) (hWA _ wa_2_133) (hWA _ wa_1_13) (hWA _ wa_2_134) (Nat.le_of_ble_eq_true rfl) (Nat.le_of_ble_eq_true rfl) (Nat.zero_le _) (Nat.zero_le _) dX4_makes_80 ?_
          obtain rfl := Option.some.inj hf
          subst hQ
          exact ev_iret S hr hlocks hK hZ hM dX4_makes_83
        · have hf := it_n hf hc5
          refine (Classical.em ((I a0 2) = (5 : Int32))).elim (fun hc6 => ?_) (fun hc6 => ?_)
          · have hf := it_p hf hc6
            refine lv_tableIn (off := 80) (tgt := 84) hx hb dX4_makes_4 (by rw [hc6]; decide) (by rw [hc6]; decide) (by rw [hc6]; rfl) (by decide) ?_
            refine lv_iload_n hx hb dX4_makes_84 rfl (lv_at hl 1 rfl) ?_
            refine lv_iload_n hx hb dX4_makes_85 rfl (lv_at hl 2 rfl) ?_
            refine lv_isub hx hb dX4_makes_86 ?_
            refine va_mabs hx hb (hml.trans hl.1.symm) hown (hWA _ wa_2_135) (hWA _ wa_2_136) (hWA _ wa_1_13) (hWA _ wa_2_137) (Nat.le_of_ble_eq_true rfl) (Nat.le_of_ble_eq_true rfl) (Nat.zero_le _) (Nat.zero_le _) dX4_makes_87 ?_
            obtain rfl := Option.some.inj hf
            subst hQ
            exact ev_iret S hr hlocks hK hZ hM dX4_makes_90
          · have hf := it_n hf hc6
            refine lv_tableOut (tgt := 91) hx hb dX4_makes_4 (by have t0 := ne_t hc2 (y := 1) rfl; have t1 := ne_t hc3 (y := 2) rfl; have t2 := ne_t hc4 (y := 3) rfl; have t3 := ne_t hc5 (y := 4) rfl; have t4 := ne_t hc6 (y := 5) rfl; omega) (by decide) ?_
            refine lv_iload_n hx hb dX4_makes_91 rfl (lv_at hl 2 rfl) ?_
            obtain rfl := Option.some.inj hf
            subst hQ
            exact ev_iret S hr hlocks hK hZ hM dX4_makes_92
noncomputable def fn_X4_seenOver (K N : Nat → Nat) (I : Nat → Nat → Int32) (P : Nat → Nat → Option Nat) (a0 : Nat) (x1 : Int32) (x2 : Int32) : Option (Int32) := gd (K a0 = 5) (Option.bind (P a0 (1)) (fun q2 => gd (K q2 = 12 ∧ vp_in x2 (N q2)) (Option.bind (some (((I q2 (x2.toNatClampNeg)) * (I a0 4)) / (255 : Int32))) (fun v4 => Option.bind (P a0 (0)) (fun q5 => gd (K q5 = 12 ∧ vp_in x2 (N q5)) (Option.bind (fn_X4_makes K N I P a0 x1 (I q5 (x2.toNatClampNeg))) (fun (r7 : Int32) => some (x1 + (((r7 - x1) * v4) / (255 : Int32))))))))))
abbrev wz_X4_seenOver : List Cond := Cond.code yX4_seenOver cX4_seenOver 4 (some .int) :: WA
abbrev rm_X4_seenOver : Room := { frames := 3, cells := 0, slots := 0, locals := 55 }
set_option maxHeartbeats 4000000 in
set_option maxRecDepth 100000 in
theorem c_X4_seenOver (I : Nat → Nat → Int32) (P : Nat → Nat → Option Nat) (a0 : Nat) (x1 : Int32) (x2 : Int32) (res : Int32) (hf : fn_X4_seenOver K N I P a0 x1 x2 = some res) : Met l yX4_seenOver wz_X4_seenOver rm_X4_seenOver (va_Pc [.ref a0, .int x1, .int x2] (mm_B D cs A L K N z w I P)) (va_Qi (fun r (_ : Unit) => r = res) (fun _ => mm_B D cs A L K N z w I P) A) 0 0 A := by
  refine Met.ofW (cc := cX4_seenOver) (maxL := 4) (ret := (some .int)) (by decide) rfl ?_
  intro p e s m args below meth c s₁ B hml hv
  obtain ⟨rfl, hBm⟩ := hv
  have hx := B.exec
  have hb := B.bytes
  have hr := B.returns
  have hts := atoms_spec (ws := wz_X4_seenOver) B.pre
  have hWA : ∀ w ∈ WA, w.before ([.ref a0, .int x1, .int x2] : List Value).toArray s = true := fun u9 h9 => hts u9 (List.mem_cons_of_mem _ h9)
  have hown : s.vm.findClass RX4 = some m.cls := findClass_of_methodNamed B.named
  have hlocks := B.notSynchronized
  have S : CallFix p m c cX4_seenOver 4 s ([.ref a0, .int x1, .int x2] : List Value).toArray wz_X4_seenOver RX4 := ⟨hx, hb, hml, hown, hts⟩
  have hK := hBm.2.2.2.1
  have hZ := hBm.2.2.2.2
  have hM : mm_W D cs A L K N s.heap I P s.heap [] := ⟨hBm.1, hBm.2.1, hBm.2.2.1, va_S.rf⟩
  have hl := lv_entry ([.ref a0, .int x1, .int x2]) (n := 4) (Nat.le_of_ble_eq_true rfl)
  rw [lg_entry_eq]
  generalize (lg_sl ([.ref a0, .int x1, .int x2]) ++ List.replicate (4 - (lg_sl ([.ref a0, .int x1, .int x2])).length) Slot.unset).toArray = ls at hl ⊢
  have hl : lv_has ls 4 [(0, .ref a0), (1, .int x1), (2, .int x2)] := hl
  have hin4 : ∀ w ∈ wsX40, w ∈ wz_X4_seenOver := fun w h => List.mem_cons_of_mem _ (wu_X4 w h)
  have lk15 : (Cond.fieldLink RX4 15 RX4 "covers" "[I").before ([.ref a0, .int x1, .int x2] : List Value).toArray s = true := hWA _ wa_1_130
  have lk31 : (Cond.fieldLink RX4 31 RX4 "opacity" "I").before ([.ref a0, .int x1, .int x2] : List Value).toArray s = true := hWA _ wa_1_138
  have lk9 : (Cond.fieldLink RX4 9 RX4 "inks" "[I").before ([.ref a0, .int x1, .int x2] : List Value).toArray s = true := hWA _ wa_1_126
  generalize hQ : MQ below (va_Qi (fun r (_ : Unit) => r = res) (fun _ => mm_B D cs A L K N z w I P) A) ([.ref a0, .int x1, .int x2] : List Value).toArray s 0 0 A = QQ
  rw [fn_X4_seenOver] at hf
  refine lv_aload_n hx hb dX4_seenOver_0 rfl (lv_at hl 0 rfl) ?_
  refine gd_e hf (fun hg1 hf => ?_)
  refine bd_e hf (fun q2 eq2 hf => ?_)
  refine ev_getP (v := q2) S hK hM (ci := 4) (n := 5) (C := RX4) (T := TX4) hin4 rfl hg1 1 (by decide) lk15 rfl rfl eq2 rfl dX4_seenOver_1 ?_
  refine lv_iload_n hx hb dX4_seenOver_4 rfl (lv_at hl 2 rfl) ?_
  refine gd_e hf (fun hg3 hf => ?_)
  refine ev_iald S hK hM hg3 (j := x2.toNatClampNeg) rfl dX4_seenOver_5 ?_
  refine lv_aload_n hx hb dX4_seenOver_6 rfl (lv_at hl 0 rfl) ?_
  refine ev_get (v := .int (I a0 4)) S hK hM (ci := 4) (n := 5) (C := RX4) (T := TX4) hin4 rfl hg1 4 (by decide) lk31 rfl rfl rfl dX4_seenOver_7 ?_
  refine lv_imul hx hb dX4_seenOver_10 ?_
  refine lv_sipush (v := (255 : Int32)) hx hb dX4_seenOver_11 (by decide) ?_
  refine lv_idiv hx hb dX4_seenOver_14 (by decide) ?_
  refine lv_topi (fun v4 ev4 => ?_)
  have hf := nm_x ev4 hf
  refine lv_istore_n (lv' := [(3, .int v4), (0, .ref a0), (1, .int x1), (2, .int x2)]) hx hb dX4_seenOver_15 rfl hl (by decide) rfl (fun ls hl => ?_)
  refine lv_iload_n hx hb dX4_seenOver_16 rfl (lv_at hl 2 rfl) ?_
  refine lv_aload_n hx hb dX4_seenOver_17 rfl (lv_at hl 1 rfl) ?_
  refine lv_iload_n hx hb dX4_seenOver_18 rfl (lv_at hl 2 rfl) ?_
  refine lv_aload_n hx hb dX4_seenOver_19 rfl (lv_at hl 1 rfl) ?_
  refine bd_e hf (fun q5 eq5 hf => ?_)
  refine ev_getP (v := q5) S hK hM (ci := 4) (n := 5) (C := RX4) (T := TX4) hin4 rfl hg1 0 (by decide) lk9 rfl rfl eq5 rfl dX4_seenOver_20 ?_
  refine lv_iload_n hx hb dX4_seenOver_23 rfl (lv_at hl 3 rfl) ?_
  refine gd_e hf (fun hg6 hf => ?_)
  refine ev_iald S hK hM hg6 (j := x2.toNatClampNeg) rfl dX4_seenOver_24 ?_
  refine bd_e hf (fun r7 er7 hf => ?_)
  refine ev_calli (va_runV (As := [.int x1, .int (I q5 (x2.toNatClampNeg))]) (rest := [.int x1]) S (c_X4_makes (l := l) I P a0 x1 (I q5 (x2.toNatClampNeg)) r7 er7) (cwV 2 hts (gi_v wa_2_163 wa_2_120 wa_2_121 wa_1_7 wa_2_122) rfl rfl rfl (by decide +kernel) ⟨Nat.le_of_ble_eq_true rfl, Nat.le_of_ble_eq_true rfl⟩) ⟨mm_B_blind, ev_recv hK hM (ci := 4) rfl hg1 rfl, fun U hU hW => ⟨rfl, mm_B_of hK hZ hM hU hW⟩⟩ rfl rfl hl.1 rfl (lv_room (Nat.le_of_ble_eq_true rfl)) dX4_seenOver_25 ⟨Nat.zero_le _, Nat.zero_le _⟩) hM (fun H locs hM => ?_)
  refine lv_iload_n hx hb dX4_seenOver_28 rfl (lv_at hl 2 rfl) ?_
  refine lv_isub hx hb dX4_seenOver_29 ?_
  refine lv_iload_n hx hb dX4_seenOver_30 rfl (lv_at hl 0 rfl) ?_
  refine lv_imul hx hb dX4_seenOver_31 ?_
  refine lv_sipush (v := (255 : Int32)) hx hb dX4_seenOver_32 (by decide) ?_
  refine lv_idiv hx hb dX4_seenOver_35 (by decide) ?_
  refine lv_iadd hx hb dX4_seenOver_36 ?_
  obtain rfl := Option.some.inj hf
  subst hQ
  exact ev_iret S hr hlocks hK hZ hM dX4_seenOver_37
noncomputable def fn_X5_isFree (K N : Nat → Nat) (I : Nat → Nat → Int32) (P : Nat → Nat → Option Nat) (a0 : Nat) (x1 : Int32) : Option (Int32) := gd (K a0 = 6) (if (I a0 1) = 0 then (some (1 : Int32)) else (Option.bind (P a0 (0)) (fun q3 => gd (K q3 = 13 ∧ vp_in x1 (N q3)) (if (I q3 (x1.toNatClampNeg)) = 0 then (some (0 : Int32)) else (some (1 : Int32))))))
abbrev wz_X5_isFree : List Cond := Cond.code yX5_isFree cX5_isFree 2 (some .boolean) :: WA
abbrev rm_X5_isFree : Room := { frames := 1, cells := 0, slots := 0, locals := 12 }
set_option maxHeartbeats 4000000 in
set_option maxRecDepth 100000 in
theorem c_X5_isFree (I : Nat → Nat → Int32) (P : Nat → Nat → Option Nat) (a0 : Nat) (x1 : Int32) (res : Int32) (hf : fn_X5_isFree K N I P a0 x1 = some res) : Met l yX5_isFree wz_X5_isFree rm_X5_isFree (va_Pc [.ref a0, .int x1] (mm_B D cs A L K N z w I P)) (va_Qi (fun r (_ : Unit) => r = res) (fun _ => mm_B D cs A L K N z w I P) A) 0 0 A := by
  refine Met.ofW (cc := cX5_isFree) (maxL := 2) (ret := (some .boolean)) (by decide) rfl ?_
  intro p e s m args below meth c s₁ B hml hv
  obtain ⟨rfl, hBm⟩ := hv
  have hx := B.exec
  have hb := B.bytes
  have hr := B.returns
  have hts := atoms_spec (ws := wz_X5_isFree) B.pre
  have hWA : ∀ w ∈ WA, w.before ([.ref a0, .int x1] : List Value).toArray s = true := fun u9 h9 => hts u9 (List.mem_cons_of_mem _ h9)
  have hown : s.vm.findClass RX5 = some m.cls := findClass_of_methodNamed B.named
  have hlocks := B.notSynchronized
  have S : CallFix p m c cX5_isFree 2 s ([.ref a0, .int x1] : List Value).toArray wz_X5_isFree RX5 := ⟨hx, hb, hml, hown, hts⟩
  have hK := hBm.2.2.2.1
  have hZ := hBm.2.2.2.2
  have hM : mm_W D cs A L K N s.heap I P s.heap [] := ⟨hBm.1, hBm.2.1, hBm.2.2.1, va_S.rf⟩
  have hl := lv_entry ([.ref a0, .int x1]) (n := 2) (Nat.le_of_ble_eq_true rfl)
  rw [lg_entry_eq]
  generalize (lg_sl ([.ref a0, .int x1]) ++ List.replicate (2 - (lg_sl ([.ref a0, .int x1])).length) Slot.unset).toArray = ls at hl ⊢
  have hl : lv_has ls 2 [(0, .ref a0), (1, .int x1)] := hl
  have hin5 : ∀ w ∈ wsX50, w ∈ wz_X5_isFree := fun w h => List.mem_cons_of_mem _ (wu_X5 w h)
  have lk15 : (Cond.fieldLink RX5 15 RX5 "size" "I").before ([.ref a0, .int x1] : List Value).toArray s = true := hWA _ wa_1_45
  have lk9 : (Cond.fieldLink RX5 9 RX5 "held" "[Z").before ([.ref a0, .int x1] : List Value).toArray s = true := hWA _ wa_1_42
  generalize hQ : MQ below (va_Qi (fun r (_ : Unit) => r = res) (fun _ => mm_B D cs A L K N z w I P) A) ([.ref a0, .int x1] : List Value).toArray s 0 0 A = QQ
  rw [fn_X5_isFree] at hf
  refine lv_aload_n hx hb dX5_isFree_0 rfl (lv_at hl 0 rfl) ?_
  refine gd_e hf (fun hg1 hf => ?_)
  refine ev_get (v := .int (I a0 1)) S hK hM (ci := 5) (n := 2) (C := RX5) (T := TX5) hin5 rfl hg1 1 (by decide) lk15 rfl rfl rfl dX5_isFree_1 ?_
  refine lv_if_eq (tgt := 16) hx hb dX5_isFree_4 (by decide) (fun hc2 => ?_) (fun hc2 => ?_)
  · have hf := it_p hf hc2
    refine lv_iconst (v := (1 : Int32)) hx hb dX5_isFree_16 (by decide) ?_
    refine lv_goto (tgt := 21) hx hb dX5_isFree_17 (by decide) ?_
    obtain rfl := Option.some.inj hf
    subst hQ
    exact ev_zret (v := (1 : Int32)) S hr hlocks hK hZ hM rfl dX5_isFree_21
  · have hf := it_n hf hc2
    refine lv_aload_n hx hb dX5_isFree_7 rfl (lv_at hl 0 rfl) ?_
    refine bd_e hf (fun q3 eq3 hf => ?_)
    refine ev_getP (v := q3) S hK hM (ci := 5) (n := 2) (C := RX5) (T := TX5) hin5 rfl hg1 0 (by decide) lk9 rfl rfl eq3 rfl dX5_isFree_8 ?_
    refine lv_iload_n hx hb dX5_isFree_11 rfl (lv_at hl 1 rfl) ?_
    refine gd_e hf (fun hg4 hf => ?_)
    refine ev_zald S hK hM hg4 (j := x1.toNatClampNeg) rfl dX5_isFree_12 ?_
    refine lv_if_eq (tgt := 20) hx hb dX5_isFree_13 (by decide) (fun hc5 => ?_) (fun hc5 => ?_)
    · have hf := it_p hf hc5
      refine lv_iconst (v := (0 : Int32)) hx hb dX5_isFree_20 (by decide) ?_
      obtain rfl := Option.some.inj hf
      subst hQ
      exact ev_zret (v := (0 : Int32)) S hr hlocks hK hZ hM rfl dX5_isFree_21
    · have hf := it_n hf hc5
      refine lv_iconst (v := (1 : Int32)) hx hb dX5_isFree_16 (by decide) ?_
      refine lv_goto (tgt := 21) hx hb dX5_isFree_17 (by decide) ?_
      obtain rfl := Option.some.inj hf
      subst hQ
      exact ev_zret (v := (1 : Int32)) S hr hlocks hK hZ hM rfl dX5_isFree_21
noncomputable def fn_X5_isHeldAfter (x0 : Int32) (x1 : Int32) (x2 : Int32) : Option (Int32) := if x2 = (0 : Int32) then (gd (x1 = 0 ∨ x1 = 1) (some x1)) else (if x2 = (1 : Int32) then (if x0 = 0 then (if x1 = 0 then (some (0 : Int32)) else (some (1 : Int32))) else (some (1 : Int32))) else (if x2 = (2 : Int32) then (if x0 = 0 then (some (0 : Int32)) else (if x1 = 0 then (some (1 : Int32)) else (some (0 : Int32)))) else (if x0 = 0 then (some (0 : Int32)) else (if x1 = 0 then (some (0 : Int32)) else (some (1 : Int32))))))
abbrev wz_X5_isHeldAfter : List Cond := Cond.code yX5_isHeldAfter cX5_isHeldAfter 3 (some .boolean) :: WA
abbrev rm_X5_isHeldAfter : Room := { frames := 1, cells := 0, slots := 0, locals := 12 }
set_option maxHeartbeats 4000000 in
set_option maxRecDepth 100000 in
theorem c_X5_isHeldAfter (I : Nat → Nat → Int32) (P : Nat → Nat → Option Nat) (x0 : Int32) (x1 : Int32) (x2 : Int32) (res : Int32) (hf : fn_X5_isHeldAfter x0 x1 x2 = some res) : Met l yX5_isHeldAfter wz_X5_isHeldAfter rm_X5_isHeldAfter (va_Pc [.int x0, .int x1, .int x2] (mm_B D cs A L K N z w I P)) (va_Qi (fun r (_ : Unit) => r = res) (fun _ => mm_B D cs A L K N z w I P) A) 0 0 A := by
  refine Met.ofW (cc := cX5_isHeldAfter) (maxL := 3) (ret := (some .boolean)) (by decide) rfl ?_
  intro p e s m args below meth c s₁ B hml hv
  obtain ⟨rfl, hBm⟩ := hv
  have hx := B.exec
  have hb := B.bytes
  have hr := B.returns
  have hts := atoms_spec (ws := wz_X5_isHeldAfter) B.pre
  have hWA : ∀ w ∈ WA, w.before ([.int x0, .int x1, .int x2] : List Value).toArray s = true := fun u9 h9 => hts u9 (List.mem_cons_of_mem _ h9)
  have hown : s.vm.findClass RX5 = some m.cls := findClass_of_methodNamed B.named
  have hlocks := B.notSynchronized
  have S : CallFix p m c cX5_isHeldAfter 3 s ([.int x0, .int x1, .int x2] : List Value).toArray wz_X5_isHeldAfter RX5 := ⟨hx, hb, hml, hown, hts⟩
  have hK := hBm.2.2.2.1
  have hZ := hBm.2.2.2.2
  have hM : mm_W D cs A L K N s.heap I P s.heap [] := ⟨hBm.1, hBm.2.1, hBm.2.2.1, va_S.rf⟩
  have hl := lv_entry ([.int x0, .int x1, .int x2]) (n := 3) (Nat.le_of_ble_eq_true rfl)
  rw [lg_entry_eq]
  generalize (lg_sl ([.int x0, .int x1, .int x2]) ++ List.replicate (3 - (lg_sl ([.int x0, .int x1, .int x2])).length) Slot.unset).toArray = ls at hl ⊢
  have hl : lv_has ls 3 [(0, .int x0), (1, .int x1), (2, .int x2)] := hl
  generalize hQ : MQ below (va_Qi (fun r (_ : Unit) => r = res) (fun _ => mm_B D cs A L K N z w I P) A) ([.int x0, .int x1, .int x2] : List Value).toArray s 0 0 A = QQ
  unfold fn_X5_isHeldAfter at hf
  refine lv_iload_n hx hb dX5_isHeldAfter_0 rfl (lv_at hl 2 rfl) ?_
  refine (Classical.em (x2 = (0 : Int32))).elim (fun hc1 => ?_) (fun hc1 => ?_)
  · have hf := it_p hf hc1
    refine lv_tableIn (off := 27) (tgt := 28) hx hb dX5_isHeldAfter_1 (by rw [hc1]; decide) (by rw [hc1]; decide) (by rw [hc1]; rfl) (by decide) ?_
    refine lv_iload_n hx hb dX5_isHeldAfter_28 rfl (lv_at hl 1 rfl) ?_
    refine gd_e hf (fun hg4 hf => ?_)
    obtain rfl := Option.some.inj hf
    subst hQ
    exact ev_zret (v := x1) S hr hlocks hK hZ hM (nar_b hg4) dX5_isHeldAfter_29
  · have hf := it_n hf hc1
    refine (Classical.em (x2 = (1 : Int32))).elim (fun hc2 => ?_) (fun hc2 => ?_)
    · have hf := it_p hf hc2
      refine lv_tableIn (off := 29) (tgt := 30) hx hb dX5_isHeldAfter_1 (by rw [hc2]; decide) (by rw [hc2]; decide) (by rw [hc2]; rfl) (by decide) ?_
      refine lv_iload_n hx hb dX5_isHeldAfter_30 rfl (lv_at hl 0 rfl) ?_
      refine lv_if_ne (tgt := 38) hx hb dX5_isHeldAfter_31 (by decide) (fun hc5 => ?_) (fun hc5 => ?_)
      · have hf := it_n hf hc5
        refine lv_iconst (v := (1 : Int32)) hx hb dX5_isHeldAfter_38 (by decide) ?_
        refine lv_goto (tgt := 43) hx hb dX5_isHeldAfter_39 (by decide) ?_
        obtain rfl := Option.some.inj hf
        subst hQ
        exact ev_zret (v := (1 : Int32)) S hr hlocks hK hZ hM rfl dX5_isHeldAfter_43
      · have hf := it_p hf hc5
        refine lv_iload_n hx hb dX5_isHeldAfter_34 rfl (lv_at hl 1 rfl) ?_
        refine lv_if_eq (tgt := 42) hx hb dX5_isHeldAfter_35 (by decide) (fun hc6 => ?_) (fun hc6 => ?_)
        · have hf := it_p hf hc6
          refine lv_iconst (v := (0 : Int32)) hx hb dX5_isHeldAfter_42 (by decide) ?_
          obtain rfl := Option.some.inj hf
          subst hQ
          exact ev_zret (v := (0 : Int32)) S hr hlocks hK hZ hM rfl dX5_isHeldAfter_43
        · have hf := it_n hf hc6
          refine lv_iconst (v := (1 : Int32)) hx hb dX5_isHeldAfter_38 (by decide) ?_
          refine lv_goto (tgt := 43) hx hb dX5_isHeldAfter_39 (by decide) ?_
          obtain rfl := Option.some.inj hf
          subst hQ
          exact ev_zret (v := (1 : Int32)) S hr hlocks hK hZ hM rfl dX5_isHeldAfter_43
    · have hf := it_n hf hc2
      refine (Classical.em (x2 = (2 : Int32))).elim (fun hc3 => ?_) (fun hc3 => ?_)
      · have hf := it_p hf hc3
        refine lv_tableIn (off := 43) (tgt := 44) hx hb dX5_isHeldAfter_1 (by rw [hc3]; decide) (by rw [hc3]; decide) (by rw [hc3]; rfl) (by decide) ?_
        refine lv_iload_n hx hb dX5_isHeldAfter_44 rfl (lv_at hl 0 rfl) ?_
        refine lv_if_eq (tgt := 56) hx hb dX5_isHeldAfter_45 (by decide) (fun hc7 => ?_) (fun hc7 => ?_)
        · have hf := it_p hf hc7
          refine lv_iconst (v := (0 : Int32)) hx hb dX5_isHeldAfter_56 (by decide) ?_
          obtain rfl := Option.some.inj hf
          subst hQ
          exact ev_zret (v := (0 : Int32)) S hr hlocks hK hZ hM rfl dX5_isHeldAfter_57
        · have hf := it_n hf hc7
          refine lv_iload_n hx hb dX5_isHeldAfter_48 rfl (lv_at hl 1 rfl) ?_
          refine lv_if_ne (tgt := 56) hx hb dX5_isHeldAfter_49 (by decide) (fun hc8 => ?_) (fun hc8 => ?_)
          · have hf := it_n hf hc8
            refine lv_iconst (v := (0 : Int32)) hx hb dX5_isHeldAfter_56 (by decide) ?_
            obtain rfl := Option.some.inj hf
            subst hQ
            exact ev_zret (v := (0 : Int32)) S hr hlocks hK hZ hM rfl dX5_isHeldAfter_57
          · have hf := it_p hf hc8
            refine lv_iconst (v := (1 : Int32)) hx hb dX5_isHeldAfter_52 (by decide) ?_
            refine lv_goto (tgt := 57) hx hb dX5_isHeldAfter_53 (by decide) ?_
            obtain rfl := Option.some.inj hf
            subst hQ
            exact ev_zret (v := (1 : Int32)) S hr hlocks hK hZ hM rfl dX5_isHeldAfter_57
      · have hf := it_n hf hc3
        refine lv_tableOut (tgt := 58) hx hb dX5_isHeldAfter_1 (by have t0 := ne_t hc1 (y := 0) rfl; have t1 := ne_t hc2 (y := 1) rfl; have t2 := ne_t hc3 (y := 2) rfl; omega) (by decide) ?_
        refine lv_iload_n hx hb dX5_isHeldAfter_58 rfl (lv_at hl 0 rfl) ?_
        refine lv_if_eq (tgt := 70) hx hb dX5_isHeldAfter_59 (by decide) (fun hc9 => ?_) (fun hc9 => ?_)
        · have hf := it_p hf hc9
          refine lv_iconst (v := (0 : Int32)) hx hb dX5_isHeldAfter_70 (by decide) ?_
          obtain rfl := Option.some.inj hf
          subst hQ
          exact ev_zret (v := (0 : Int32)) S hr hlocks hK hZ hM rfl dX5_isHeldAfter_71
        · have hf := it_n hf hc9
          refine lv_iload_n hx hb dX5_isHeldAfter_62 rfl (lv_at hl 1 rfl) ?_
          refine lv_if_eq (tgt := 70) hx hb dX5_isHeldAfter_63 (by decide) (fun hc10 => ?_) (fun hc10 => ?_)
          · have hf := it_p hf hc10
            refine lv_iconst (v := (0 : Int32)) hx hb dX5_isHeldAfter_70 (by decide) ?_
            obtain rfl := Option.some.inj hf
            subst hQ
            exact ev_zret (v := (0 : Int32)) S hr hlocks hK hZ hM rfl dX5_isHeldAfter_71
          · have hf := it_n hf hc10
            refine lv_iconst (v := (1 : Int32)) hx hb dX5_isHeldAfter_66 (by decide) ?_
            refine lv_goto (tgt := 71) hx hb dX5_isHeldAfter_67 (by decide) ?_
            obtain rfl := Option.some.inj hf
            subst hQ
            exact ev_zret (v := (1 : Int32)) S hr hlocks hK hZ hM rfl dX5_isHeldAfter_71
noncomputable def fn_X5_recount_L7 (K : Nat → Nat) (N : Nat → Nat) (a0 : Nat) (P : Nat → Nat → Option Nat) : Nat → Int32 → (Nat → Nat → Int32) → Option ((Nat → Nat → Int32))
  | 0, _, _ => none
  | n + 1, v3, I4 => if (192 : Int32) ≤ v3 then (some I4) else (Option.bind (P a0 (0)) (fun q7 => gd (K q7 = 13 ∧ vp_in v3 (N q7)) (if (I4 q7 (v3.toNatClampNeg)) = 0 then (fn_X5_recount_L7 K N a0 P n (v3 + (1 : Int32)) I4) else (Option.bind (some (up2 I4 a0 1 ((I4 a0 1) + (1 : Int32)))) (fun I10 => fn_X5_recount_L7 K N a0 P n (v3 + (1 : Int32)) I10)))))
noncomputable def fn_X5_recount (K N : Nat → Nat) (I : Nat → Nat → Int32) (P : Nat → Nat → Option Nat) (a0 : Nat) : Option ((Nat → Nat → Int32)) := gd (K a0 = 6) (Option.bind (some (up2 I a0 1 (0 : Int32))) (fun I2 => Option.bind (fn_X5_recount_L7 K N a0 P FU (0 : Int32) I2) (fun (r5 : (Nat → Nat → Int32)) => some r5)))
abbrev wz_X5_recount : List Cond := Cond.code yX5_recount cX5_recount 2 none :: WA
abbrev rm_X5_recount : Room := { frames := 1, cells := 0, slots := 0, locals := 12 }
set_option maxHeartbeats 4000000 in
set_option maxRecDepth 100000 in
theorem c_X5_recount (I : Nat → Nat → Int32) (P : Nat → Nat → Option Nat) (a0 : Nat) (res : (Nat → Nat → Int32)) (hf : fn_X5_recount K N I P a0 = some res) : Met l yX5_recount wz_X5_recount rm_X5_recount (va_Pc [.ref a0] (mm_B D cs A L K N z w I P)) (va_Qv (fun (_ : Unit) => True) (fun _ => mm_B D cs A L K N z w res P) A) 0 0 A := by
  refine Met.ofW (cc := cX5_recount) (maxL := 2) (ret := none) (by decide) rfl ?_
  intro p e s m args below meth c s₁ B hml hv
  obtain ⟨rfl, hBm⟩ := hv
  have hx := B.exec
  have hb := B.bytes
  have hr := B.returns
  have hts := atoms_spec (ws := wz_X5_recount) B.pre
  have hWA : ∀ w ∈ WA, w.before ([.ref a0] : List Value).toArray s = true := fun u9 h9 => hts u9 (List.mem_cons_of_mem _ h9)
  have hown : s.vm.findClass RX5 = some m.cls := findClass_of_methodNamed B.named
  have hlocks := B.notSynchronized
  have S : CallFix p m c cX5_recount 2 s ([.ref a0] : List Value).toArray wz_X5_recount RX5 := ⟨hx, hb, hml, hown, hts⟩
  have hK := hBm.2.2.2.1
  have hZ := hBm.2.2.2.2
  have hM : mm_W D cs A L K N s.heap I P s.heap [] := ⟨hBm.1, hBm.2.1, hBm.2.2.1, va_S.rf⟩
  have hl := lv_entry ([.ref a0]) (n := 2) (Nat.le_of_ble_eq_true rfl)
  rw [lg_entry_eq]
  generalize (lg_sl ([.ref a0]) ++ List.replicate (2 - (lg_sl ([.ref a0])).length) Slot.unset).toArray = ls at hl ⊢
  have hl : lv_has ls 2 [(0, .ref a0)] := hl
  have hin5 : ∀ w ∈ wsX50, w ∈ wz_X5_recount := fun w h => List.mem_cons_of_mem _ (wu_X5 w h)
  have lk15 : (Cond.fieldLink RX5 15 RX5 "size" "I").before ([.ref a0] : List Value).toArray s = true := hWA _ wa_1_45
  have lk9 : (Cond.fieldLink RX5 9 RX5 "held" "[Z").before ([.ref a0] : List Value).toArray s = true := hWA _ wa_1_42
  generalize hQ : MQ below (va_Qv (fun (_ : Unit) => True) (fun _ => mm_B D cs A L K N z w res P) A) ([.ref a0] : List Value).toArray s 0 0 A = QQ
  rw [fn_X5_recount] at hf
  refine lv_aload_n hx hb dX5_recount_0 rfl (lv_at hl 0 rfl) ?_
  refine lv_iconst (v := (0 : Int32)) hx hb dX5_recount_1 (by decide) ?_
  refine gd_e hf (fun hg1 hf => ?_)
  refine ev_put S hK hM (ci := 5) (n := 2) (C := RX5) (T := TX5) hin5 tyX5 tyX5_ok nmX5 rfl hg1 1 (by decide) lk15 rfl rfl rfl rfl rfl (Nat.le_of_ble_eq_true rfl) rfl dX5_recount_2 (fun I2 eI2 H locs hM => ?_)
  have hf := nm_x eI2 hf
  refine lv_iconst (v := (0 : Int32)) hx hb dX5_recount_5 (by decide) ?_
  refine lv_istore_n (lv' := [(1, .int (0 : Int32)), (0, .ref a0)]) hx hb dX5_recount_6 rfl hl (by decide) rfl (fun ls hl => ?_)
  have lp7_10 : ∀ (n : Nat) (v3 : Int32) (I4 : Nat → Nat → Int32) (H : Heap) (locs : List Loc) (ls : Array Slot) (r5 : (Nat → Nat → Int32)), mm_W D cs A L K N s.heap I4 P H locs → lv_has ls 2 [(0, .ref a0), (1, .int v3)] → fn_X5_recount_L7 K N a0 P n v3 I4 = some r5 → (∀ (H : Heap) (locs : List Loc) (ls : Array Slot), mm_W D cs A L K N s.heap r5 P H locs → lv_has ls 2 [] → W p l e (headSpec wz_X5_recount rm_X5_recount).room s m ([.ref a0] : List Value).toArray below meth c H locs 0 0 QQ (F0 m 39 ls [])) → W p l e (headSpec wz_X5_recount rm_X5_recount).room s m ([.ref a0] : List Value).toArray below meth c H locs 0 0 QQ (F0 m 7 ls []) := by
    intro n
    induction n with
    | zero => intro v3 I4 H locs ls r5 hM hl hf kk; exact nn_x (show (none : Option ((Nat → Nat → Int32))) = some r5 from hf)
    | succ n ih =>
      intro v3 I4 H locs ls r5 hM hl hf kk
      rw [fn_X5_recount_L7] at hf
      refine lv_iload_n hx hb dX5_recount_7 rfl (lv_at hl 1 rfl) ?_
      refine lv_sipush (v := (192 : Int32)) hx hb dX5_recount_8 (by decide) ?_
      refine lv_icmp_ge (tgt := 39) hx hb dX5_recount_11 (by decide) (fun hc6 => ?_) (fun hc6 => ?_)
      · have hf := it_p hf hc6
        obtain rfl := Option.some.inj hf
        exact kk _ _ _ hM (lv_sub hl [] rfl)
      · have hf := it_n hf hc6
        refine lv_aload_n hx hb dX5_recount_14 rfl (lv_at hl 0 rfl) ?_
        refine bd_e hf (fun q7 eq7 hf => ?_)
        refine ev_getP (v := q7) S hK hM (ci := 5) (n := 2) (C := RX5) (T := TX5) hin5 rfl hg1 0 (by decide) lk9 rfl rfl eq7 rfl dX5_recount_15 ?_
        refine lv_iload_n hx hb dX5_recount_18 rfl (lv_at hl 1 rfl) ?_
        refine gd_e hf (fun hg8 hf => ?_)
        refine ev_zald S hK hM hg8 (j := v3.toNatClampNeg) rfl dX5_recount_19 ?_
        refine lv_if_eq (tgt := 33) hx hb dX5_recount_20 (by decide) (fun hc9 => ?_) (fun hc9 => ?_)
        · have hf := it_p hf hc9
          refine lv_iinc (v := (v3 + (1 : Int32))) (lv' := [(1, .int (v3 + (1 : Int32))), (0, .ref a0)]) hx hb dX5_recount_33 hl (k := 1) rfl rfl (by decide) rfl (fun ls hl => ?_)
          refine lv_goto (tgt := 7) hx hb dX5_recount_36 (by decide) ?_
          exact ih (v3 + (1 : Int32)) I4 _ _ _ _ hM (lv_sub hl [1, 0] rfl) hf kk
        · have hf := it_n hf hc9
          refine lv_aload_n hx hb dX5_recount_23 rfl (lv_at hl 0 rfl) ?_
          refine lv_dup hx hb dX5_recount_24 rfl ?_
          refine ev_get (v := .int (I4 a0 1)) S hK hM (ci := 5) (n := 2) (C := RX5) (T := TX5) hin5 rfl hg1 1 (by decide) lk15 rfl rfl rfl dX5_recount_25 ?_
          refine lv_iconst (v := (1 : Int32)) hx hb dX5_recount_28 (by decide) ?_
          refine lv_iadd hx hb dX5_recount_29 ?_
          refine ev_put S hK hM (ci := 5) (n := 2) (C := RX5) (T := TX5) hin5 tyX5 tyX5_ok nmX5 rfl hg1 1 (by decide) lk15 rfl rfl rfl rfl rfl (Nat.le_of_ble_eq_true rfl) rfl dX5_recount_30 (fun I10 eI10 H locs hM => ?_)
          have hf := nm_x eI10 hf
          refine lv_iinc (v := (v3 + (1 : Int32))) (lv' := [(1, .int (v3 + (1 : Int32))), (0, .ref a0)]) hx hb dX5_recount_33 hl (k := 1) rfl rfl (by decide) rfl (fun ls hl => ?_)
          refine lv_goto (tgt := 7) hx hb dX5_recount_36 (by decide) ?_
          exact ih (v3 + (1 : Int32)) I10 _ _ _ _ hM (lv_sub hl [1, 0] rfl) hf kk
  refine bd_e hf (fun r5 er5 hf => ?_)
  refine lp7_10 FU (0 : Int32) I2 _ _ _ r5 hM (lv_sub hl [1, 0] rfl) er5 (fun H locs ls hM hl => ?_)
  obtain rfl := Option.some.inj hf
  subst hQ
  exact ev_vret S hr hlocks hK hZ hM dX5_recount_39
noncomputable def fn_X5_join_L2 (K : Nat → Nat) (N : Nat → Nat) (a0 : Nat) (a1 : Nat) (x2 : Int32) (P : Nat → Nat → Option Nat) : Nat → Int32 → (Nat → Nat → Int32) → Option ((Nat → Nat → Int32))
  | 0, _, _ => none
  | n + 1, v1, I2 => if (192 : Int32) ≤ v1 then (some I2) else (gd (K a0 = 6) (Option.bind (P a0 (0)) (fun q6 => gd (K q6 = 13 ∧ vp_in v1 (N q6)) (gd (K a1 = 13 ∧ vp_in v1 (N a1)) (Option.bind (fn_X5_isHeldAfter (I2 q6 (v1.toNatClampNeg)) (I2 a1 (v1.toNatClampNeg)) x2) (fun (r9 : Int32) => Option.bind (some (up2 I2 q6 (v1.toNatClampNeg) (vp_nar .boolean r9))) (fun I10 => fn_X5_join_L2 K N a0 a1 x2 P n (v1 + (1 : Int32)) I10)))))))
noncomputable def fn_X5_join (K N : Nat → Nat) (I : Nat → Nat → Int32) (P : Nat → Nat → Option Nat) (a0 : Nat) (a1 : Nat) (x2 : Int32) : Option ((Nat → Nat → Int32)) := Option.bind (fn_X5_join_L2 K N a0 a1 x2 P FU (0 : Int32) I) (fun (r3 : (Nat → Nat → Int32)) => Option.bind (fn_X5_recount K N r3 P a0) (fun (r11 : (Nat → Nat → Int32)) => gd (K a0 = 6) (some r11)))
abbrev wz_X5_join : List Cond := Cond.code yX5_join cX5_join 4 none :: WA
abbrev rm_X5_join : Room := { frames := 2, cells := 0, slots := 0, locals := 34 }
set_option maxHeartbeats 4000000 in
set_option maxRecDepth 100000 in
theorem c_X5_join (I : Nat → Nat → Int32) (P : Nat → Nat → Option Nat) (a0 : Nat) (a1 : Nat) (x2 : Int32) (res : (Nat → Nat → Int32)) (hf : fn_X5_join K N I P a0 a1 x2 = some res) : Met l yX5_join wz_X5_join rm_X5_join (va_Pc [.ref a0, .ref a1, .int x2] (mm_B D cs A L K N z w I P)) (va_Qv (fun (_ : Unit) => True) (fun _ => mm_B D cs A L K N z w res P) A) 0 0 A := by
  refine Met.ofW (cc := cX5_join) (maxL := 4) (ret := none) (by decide) rfl ?_
  intro p e s m args below meth c s₁ B hml hv
  obtain ⟨rfl, hBm⟩ := hv
  have hx := B.exec
  have hb := B.bytes
  have hr := B.returns
  have hts := atoms_spec (ws := wz_X5_join) B.pre
  have hWA : ∀ w ∈ WA, w.before ([.ref a0, .ref a1, .int x2] : List Value).toArray s = true := fun u9 h9 => hts u9 (List.mem_cons_of_mem _ h9)
  have hown : s.vm.findClass RX5 = some m.cls := findClass_of_methodNamed B.named
  have hlocks := B.notSynchronized
  have S : CallFix p m c cX5_join 4 s ([.ref a0, .ref a1, .int x2] : List Value).toArray wz_X5_join RX5 := ⟨hx, hb, hml, hown, hts⟩
  have hK := hBm.2.2.2.1
  have hZ := hBm.2.2.2.2
  have hM : mm_W D cs A L K N s.heap I P s.heap [] := ⟨hBm.1, hBm.2.1, hBm.2.2.1, va_S.rf⟩
  have hl := lv_entry ([.ref a0, .ref a1, .int x2]) (n := 4) (Nat.le_of_ble_eq_true rfl)
  rw [lg_entry_eq]
  generalize (lg_sl ([.ref a0, .ref a1, .int x2]) ++ List.replicate (4 - (lg_sl ([.ref a0, .ref a1, .int x2])).length) Slot.unset).toArray = ls at hl ⊢
  have hl : lv_has ls 4 [(0, .ref a0), (1, .ref a1), (2, .int x2)] := hl
  have hin5 : ∀ w ∈ wsX50, w ∈ wz_X5_join := fun w h => List.mem_cons_of_mem _ (wu_X5 w h)
  have lk9 : (Cond.fieldLink RX5 9 RX5 "held" "[Z").before ([.ref a0, .ref a1, .int x2] : List Value).toArray s = true := hWA _ wa_1_42
  generalize hQ : MQ below (va_Qv (fun (_ : Unit) => True) (fun _ => mm_B D cs A L K N z w res P) A) ([.ref a0, .ref a1, .int x2] : List Value).toArray s 0 0 A = QQ
  rw [fn_X5_join] at hf
  refine lv_iconst (v := (0 : Int32)) hx hb dX5_join_0 (by decide) ?_
  refine lv_istore_n (lv' := [(3, .int (0 : Int32)), (0, .ref a0), (1, .ref a1), (2, .int x2)]) hx hb dX5_join_1 rfl hl (by decide) rfl (fun ls hl => ?_)
  have lp2_10 : ∀ (n : Nat) (v1 : Int32) (I2 : Nat → Nat → Int32) (H : Heap) (locs : List Loc) (ls : Array Slot) (r3 : (Nat → Nat → Int32)), mm_W D cs A L K N s.heap I2 P H locs → lv_has ls 4 [(0, .ref a0), (1, .ref a1), (2, .int x2), (3, .int v1)] → fn_X5_join_L2 K N a0 a1 x2 P n v1 I2 = some r3 → (∀ (H : Heap) (locs : List Loc) (ls : Array Slot), mm_W D cs A L K N s.heap r3 P H locs → lv_has ls 4 [(0, .ref a0)] → W p l e (headSpec wz_X5_join rm_X5_join).room s m ([.ref a0, .ref a1, .int x2] : List Value).toArray below meth c H locs 0 0 QQ (F0 m 34 ls [])) → W p l e (headSpec wz_X5_join rm_X5_join).room s m ([.ref a0, .ref a1, .int x2] : List Value).toArray below meth c H locs 0 0 QQ (F0 m 2 ls []) := by
    intro n
    induction n with
    | zero => intro v1 I2 H locs ls r3 hM hl hf kk; exact nn_x (show (none : Option ((Nat → Nat → Int32))) = some r3 from hf)
    | succ n ih =>
      intro v1 I2 H locs ls r3 hM hl hf kk
      rw [fn_X5_join_L2] at hf
      refine lv_iload_n hx hb dX5_join_2 rfl (lv_at hl 3 rfl) ?_
      refine lv_sipush (v := (192 : Int32)) hx hb dX5_join_3 (by decide) ?_
      refine lv_icmp_ge (tgt := 34) hx hb dX5_join_6 (by decide) (fun hc4 => ?_) (fun hc4 => ?_)
      · have hf := it_p hf hc4
        obtain rfl := Option.some.inj hf
        exact kk _ _ _ hM (lv_sub hl [0] rfl)
      · have hf := it_n hf hc4
        refine lv_aload_n hx hb dX5_join_9 rfl (lv_at hl 0 rfl) ?_
        refine gd_e hf (fun hg5 hf => ?_)
        refine bd_e hf (fun q6 eq6 hf => ?_)
        refine ev_getP (v := q6) S hK hM (ci := 5) (n := 2) (C := RX5) (T := TX5) hin5 rfl hg5 0 (by decide) lk9 rfl rfl eq6 rfl dX5_join_10 ?_
        refine lv_iload_n hx hb dX5_join_13 rfl (lv_at hl 3 rfl) ?_
        refine lv_aload_n hx hb dX5_join_14 rfl (lv_at hl 0 rfl) ?_
        refine ev_getP (v := q6) S hK hM (ci := 5) (n := 2) (C := RX5) (T := TX5) hin5 rfl hg5 0 (by decide) lk9 rfl rfl eq6 rfl dX5_join_15 ?_
        refine lv_iload_n hx hb dX5_join_18 rfl (lv_at hl 3 rfl) ?_
        refine gd_e hf (fun hg7 hf => ?_)
        refine ev_zald S hK hM hg7 (j := v1.toNatClampNeg) rfl dX5_join_19 ?_
        refine lv_aload_n hx hb dX5_join_20 rfl (lv_at hl 1 rfl) ?_
        refine lv_iload_n hx hb dX5_join_21 rfl (lv_at hl 3 rfl) ?_
        refine gd_e hf (fun hg8 hf => ?_)
        refine ev_zald S hK hM hg8 (j := v1.toNatClampNeg) rfl dX5_join_22 ?_
        refine lv_iload_n hx hb dX5_join_23 rfl (lv_at hl 2 rfl) ?_
        refine bd_e hf (fun r9 er9 hf => ?_)
        refine ev_calli (va_runS (As := [.int (I2 q6 (v1.toNatClampNeg)), .int (I2 a1 (v1.toNatClampNeg)), .int x2]) (rest := [.int v1, .ref q6]) S (c_X5_isHeldAfter (l := l) I2 P (I2 q6 (v1.toNatClampNeg)) (I2 a1 (v1.toNatClampNeg)) x2 r9 er9) (va_cwS 3 hts (gi_s wa_3_197 wa_3_198 wa_1_3 wa_3_199) rfl rfl rfl (by decide +kernel) ⟨Nat.le_of_ble_eq_true rfl, Nat.le_of_ble_eq_true rfl⟩) ⟨mm_B_blind, fun U hU hW => ⟨rfl, mm_B_of hK hZ hM hU hW⟩⟩ rfl rfl hl.1 rfl (lv_room (Nat.le_of_ble_eq_true rfl)) dX5_join_24 ⟨Nat.zero_le _, Nat.zero_le _⟩) hM (fun H locs hM => ?_)
        refine ev_zast S hK hM hg7 (j := v1.toNatClampNeg) rfl dX5_join_27 (fun I10 eI10 H locs hM => ?_)
        have hf := nm_x eI10 hf
        refine lv_iinc (v := (v1 + (1 : Int32))) (lv' := [(3, .int (v1 + (1 : Int32))), (0, .ref a0), (1, .ref a1), (2, .int x2)]) hx hb dX5_join_28 hl (k := 3) rfl rfl (by decide) rfl (fun ls hl => ?_)
        refine lv_goto (tgt := 2) hx hb dX5_join_31 (by decide) ?_
        exact ih (v1 + (1 : Int32)) I10 _ _ _ _ hM (lv_sub hl [1, 2, 3, 0] rfl) hf kk
  refine bd_e hf (fun r3 er3 hf => ?_)
  refine lp2_10 FU (0 : Int32) I _ _ _ r3 hM (lv_sub hl [1, 2, 3, 0] rfl) er3 (fun H locs ls hM hl => ?_)
  refine lv_aload_n hx hb dX5_join_34 rfl (lv_at hl 0 rfl) ?_
  refine bd_e hf (fun r11 er11 hf => ?_)
  refine gd_e hf (fun hg12 hf => ?_)
  refine ev_callv (va_runV (As := []) (rest := []) S (c_X5_recount (l := l) r3 P a0 r11 er11) (cwV 0 hts (gi_v wa_3_200 wa_3_202 wa_s_16 wa_1_3 wa_3_203) rfl rfl rfl (by decide +kernel) ⟨Nat.le_of_ble_eq_true rfl, Nat.le_of_ble_eq_true rfl⟩) ⟨mm_B_blind, ev_recv hK hM (ci := 5) rfl hg12 rfl, fun U hU hW => ⟨rfl, mm_B_of hK hZ hM hU hW⟩⟩ rfl rfl hl.1 rfl (lv_room (Nat.le_of_ble_eq_true rfl)) dX5_join_35 ⟨Nat.zero_le _, Nat.zero_le _⟩) hM (fun H locs hM => ?_)
  obtain rfl := Option.some.inj hf
  subst hQ
  exact ev_vret S hr hlocks hK hZ hM dX5_join_38
noncomputable def fn_X5_turn_L2 (K : Nat → Nat) (N : Nat → Nat) (a0 : Nat) (P : Nat → Nat → Option Nat) : Nat → Int32 → (Nat → Nat → Int32) → Option ((Nat → Nat → Int32))
  | 0, _, _ => none
  | n + 1, v1, I2 => if (192 : Int32) ≤ v1 then (some I2) else (gd (K a0 = 6) (Option.bind (P a0 (0)) (fun q6 => gd (K q6 = 13 ∧ vp_in v1 (N q6)) (if (I2 q6 (v1.toNatClampNeg)) = 0 then (Option.bind (some (up2 I2 q6 (v1.toNatClampNeg) (vp_nar .boolean (1 : Int32)))) (fun I10 => fn_X5_turn_L2 K N a0 P n (v1 + (1 : Int32)) I10)) else (Option.bind (some (up2 I2 q6 (v1.toNatClampNeg) (vp_nar .boolean (0 : Int32)))) (fun I9 => fn_X5_turn_L2 K N a0 P n (v1 + (1 : Int32)) I9))))))
noncomputable def fn_X5_turn (K N : Nat → Nat) (I : Nat → Nat → Int32) (P : Nat → Nat → Option Nat) (a0 : Nat) : Option ((Nat → Nat → Int32)) := Option.bind (fn_X5_turn_L2 K N a0 P FU (0 : Int32) I) (fun (r3 : (Nat → Nat → Int32)) => Option.bind (fn_X5_recount K N r3 P a0) (fun (r11 : (Nat → Nat → Int32)) => gd (K a0 = 6) (some r11)))
abbrev wz_X5_turn : List Cond := Cond.code yX5_turn cX5_turn 2 none :: WA
abbrev rm_X5_turn : Room := { frames := 2, cells := 0, slots := 0, locals := 33 }
set_option maxHeartbeats 4000000 in
set_option maxRecDepth 100000 in
theorem c_X5_turn (I : Nat → Nat → Int32) (P : Nat → Nat → Option Nat) (a0 : Nat) (res : (Nat → Nat → Int32)) (hf : fn_X5_turn K N I P a0 = some res) : Met l yX5_turn wz_X5_turn rm_X5_turn (va_Pc [.ref a0] (mm_B D cs A L K N z w I P)) (va_Qv (fun (_ : Unit) => True) (fun _ => mm_B D cs A L K N z w res P) A) 0 0 A := by
  refine Met.ofW (cc := cX5_turn) (maxL := 2) (ret := none) (by decide) rfl ?_
  intro p e s m args below meth c s₁ B hml hv
  obtain ⟨rfl, hBm⟩ := hv
  have hx := B.exec
  have hb := B.bytes
  have hr := B.returns
  have hts := atoms_spec (ws := wz_X5_turn) B.pre
  have hWA : ∀ w ∈ WA, w.before ([.ref a0] : List Value).toArray s = true := fun u9 h9 => hts u9 (List.mem_cons_of_mem _ h9)
  have hown : s.vm.findClass RX5 = some m.cls := findClass_of_methodNamed B.named
  have hlocks := B.notSynchronized
  have S : CallFix p m c cX5_turn 2 s ([.ref a0] : List Value).toArray wz_X5_turn RX5 := ⟨hx, hb, hml, hown, hts⟩
  have hK := hBm.2.2.2.1
  have hZ := hBm.2.2.2.2
  have hM : mm_W D cs A L K N s.heap I P s.heap [] := ⟨hBm.1, hBm.2.1, hBm.2.2.1, va_S.rf⟩
  have hl := lv_entry ([.ref a0]) (n := 2) (Nat.le_of_ble_eq_true rfl)
  rw [lg_entry_eq]
  generalize (lg_sl ([.ref a0]) ++ List.replicate (2 - (lg_sl ([.ref a0])).length) Slot.unset).toArray = ls at hl ⊢
  have hl : lv_has ls 2 [(0, .ref a0)] := hl
  have hin5 : ∀ w ∈ wsX50, w ∈ wz_X5_turn := fun w h => List.mem_cons_of_mem _ (wu_X5 w h)
  have lk9 : (Cond.fieldLink RX5 9 RX5 "held" "[Z").before ([.ref a0] : List Value).toArray s = true := hWA _ wa_1_42
  generalize hQ : MQ below (va_Qv (fun (_ : Unit) => True) (fun _ => mm_B D cs A L K N z w res P) A) ([.ref a0] : List Value).toArray s 0 0 A = QQ
  rw [fn_X5_turn] at hf
  refine lv_iconst (v := (0 : Int32)) hx hb dX5_turn_0 (by decide) ?_
  refine lv_istore_n (lv' := [(1, .int (0 : Int32)), (0, .ref a0)]) hx hb dX5_turn_1 rfl hl (by decide) rfl (fun ls hl => ?_)
  have lp2_10 : ∀ (n : Nat) (v1 : Int32) (I2 : Nat → Nat → Int32) (H : Heap) (locs : List Loc) (ls : Array Slot) (r3 : (Nat → Nat → Int32)), mm_W D cs A L K N s.heap I2 P H locs → lv_has ls 2 [(0, .ref a0), (1, .int v1)] → fn_X5_turn_L2 K N a0 P n v1 I2 = some r3 → (∀ (H : Heap) (locs : List Loc) (ls : Array Slot), mm_W D cs A L K N s.heap r3 P H locs → lv_has ls 2 [(0, .ref a0)] → W p l e (headSpec wz_X5_turn rm_X5_turn).room s m ([.ref a0] : List Value).toArray below meth c H locs 0 0 QQ (F0 m 35 ls [])) → W p l e (headSpec wz_X5_turn rm_X5_turn).room s m ([.ref a0] : List Value).toArray below meth c H locs 0 0 QQ (F0 m 2 ls []) := by
    intro n
    induction n with
    | zero => intro v1 I2 H locs ls r3 hM hl hf kk; exact nn_x (show (none : Option ((Nat → Nat → Int32))) = some r3 from hf)
    | succ n ih =>
      intro v1 I2 H locs ls r3 hM hl hf kk
      rw [fn_X5_turn_L2] at hf
      refine lv_iload_n hx hb dX5_turn_2 rfl (lv_at hl 1 rfl) ?_
      refine lv_sipush (v := (192 : Int32)) hx hb dX5_turn_3 (by decide) ?_
      refine lv_icmp_ge (tgt := 35) hx hb dX5_turn_6 (by decide) (fun hc4 => ?_) (fun hc4 => ?_)
      · have hf := it_p hf hc4
        obtain rfl := Option.some.inj hf
        exact kk _ _ _ hM (lv_sub hl [0] rfl)
      · have hf := it_n hf hc4
        refine lv_aload_n hx hb dX5_turn_9 rfl (lv_at hl 0 rfl) ?_
        refine gd_e hf (fun hg5 hf => ?_)
        refine bd_e hf (fun q6 eq6 hf => ?_)
        refine ev_getP (v := q6) S hK hM (ci := 5) (n := 2) (C := RX5) (T := TX5) hin5 rfl hg5 0 (by decide) lk9 rfl rfl eq6 rfl dX5_turn_10 ?_
        refine lv_iload_n hx hb dX5_turn_13 rfl (lv_at hl 1 rfl) ?_
        refine lv_aload_n hx hb dX5_turn_14 rfl (lv_at hl 0 rfl) ?_
        refine ev_getP (v := q6) S hK hM (ci := 5) (n := 2) (C := RX5) (T := TX5) hin5 rfl hg5 0 (by decide) lk9 rfl rfl eq6 rfl dX5_turn_15 ?_
        refine lv_iload_n hx hb dX5_turn_18 rfl (lv_at hl 1 rfl) ?_
        refine gd_e hf (fun hg7 hf => ?_)
        refine ev_zald S hK hM hg7 (j := v1.toNatClampNeg) rfl dX5_turn_19 ?_
        refine lv_if_ne (tgt := 27) hx hb dX5_turn_20 (by decide) (fun hc8 => ?_) (fun hc8 => ?_)
        · have hf := it_n hf hc8
          refine lv_iconst (v := (0 : Int32)) hx hb dX5_turn_27 (by decide) ?_
          refine ev_zast S hK hM hg7 (j := v1.toNatClampNeg) rfl dX5_turn_28 (fun I9 eI9 H locs hM => ?_)
          have hf := nm_x eI9 hf
          refine lv_iinc (v := (v1 + (1 : Int32))) (lv' := [(1, .int (v1 + (1 : Int32))), (0, .ref a0)]) hx hb dX5_turn_29 hl (k := 1) rfl rfl (by decide) rfl (fun ls hl => ?_)
          refine lv_goto (tgt := 2) hx hb dX5_turn_32 (by decide) ?_
          exact ih (v1 + (1 : Int32)) I9 _ _ _ _ hM (lv_sub hl [1, 0] rfl) hf kk
        · have hf := it_p hf hc8
          refine lv_iconst (v := (1 : Int32)) hx hb dX5_turn_23 (by decide) ?_
          refine lv_goto (tgt := 28) hx hb dX5_turn_24 (by decide) ?_
          refine ev_zast S hK hM hg7 (j := v1.toNatClampNeg) rfl dX5_turn_28 (fun I10 eI10 H locs hM => ?_)
          have hf := nm_x eI10 hf
          refine lv_iinc (v := (v1 + (1 : Int32))) (lv' := [(1, .int (v1 + (1 : Int32))), (0, .ref a0)]) hx hb dX5_turn_29 hl (k := 1) rfl rfl (by decide) rfl (fun ls hl => ?_)
          refine lv_goto (tgt := 2) hx hb dX5_turn_32 (by decide) ?_
          exact ih (v1 + (1 : Int32)) I10 _ _ _ _ hM (lv_sub hl [1, 0] rfl) hf kk
  refine bd_e hf (fun r3 er3 hf => ?_)
  refine lp2_10 FU (0 : Int32) I _ _ _ r3 hM (lv_sub hl [1, 0] rfl) er3 (fun H locs ls hM hl => ?_)
  refine lv_aload_n hx hb dX5_turn_35 rfl (lv_at hl 0 rfl) ?_
  refine bd_e hf (fun r11 er11 hf => ?_)
  refine gd_e hf (fun hg12 hf => ?_)
  refine ev_callv (va_runV (As := []) (rest := []) S (c_X5_recount (l := l) r3 P a0 r11 er11) (cwV 0 hts (gi_v wa_3_200 wa_3_202 wa_s_16 wa_1_3 wa_3_203) rfl rfl rfl (by decide +kernel) ⟨Nat.le_of_ble_eq_true rfl, Nat.le_of_ble_eq_true rfl⟩) ⟨mm_B_blind, ev_recv hK hM (ci := 5) rfl hg12 rfl, fun U hU hW => ⟨rfl, mm_B_of hK hZ hM hU hW⟩⟩ rfl rfl hl.1 rfl (lv_room (Nat.le_of_ble_eq_true rfl)) dX5_turn_36 ⟨Nat.zero_le _, Nat.zero_le _⟩) hM (fun H locs hM => ?_)
  obtain rfl := Option.some.inj hf
  subst hQ
  exact ev_vret S hr hlocks hK hZ hM dX5_turn_39
noncomputable def fn_X5_rowBits_L4 (K : Nat → Nat) (N : Nat → Nat) (a0 : Nat) (x1 : Int32) (I : Nat → Nat → Int32) (P : Nat → Nat → Option Nat) : Nat → Int32 → Int32 → Option (Int32)
  | 0, _, _ => none
  | n + 1, v1, v2 => if (16 : Int32) ≤ v2 then (some v1) else (gd (K a0 = 6) (Option.bind (P a0 (0)) (fun q6 => Option.bind (fn_X9_dotAt v2 x1) (fun (r7 : Int32) => gd (K q6 = 13 ∧ vp_in r7 (N q6)) (if (I q6 (r7.toNatClampNeg)) = 0 then (fn_X5_rowBits_L4 K N a0 x1 I P n v1 (v2 + (1 : Int32))) else (Option.bind (some (v1 ||| ((1 : Int32) <<< (v2 &&& 31)))) (fun v10 => fn_X5_rowBits_L4 K N a0 x1 I P n v10 (v2 + (1 : Int32)))))))))
noncomputable def fn_X5_rowBits (K N : Nat → Nat) (I : Nat → Nat → Int32) (P : Nat → Nat → Option Nat) (a0 : Nat) (x1 : Int32) : Option (Int32) := Option.bind (fn_X5_rowBits_L4 K N a0 x1 I P FU (0 : Int32) (0 : Int32)) (fun (r3 : Int32) => some r3)
abbrev wz_X5_rowBits : List Cond := Cond.code yX5_rowBits cX5_rowBits 4 (some .int) :: WA
abbrev rm_X5_rowBits : Room := { frames := 2, cells := 0, slots := 0, locals := 33 }
set_option maxHeartbeats 4000000 in
set_option maxRecDepth 100000 in
theorem c_X5_rowBits (I : Nat → Nat → Int32) (P : Nat → Nat → Option Nat) (a0 : Nat) (x1 : Int32) (res : Int32) (hf : fn_X5_rowBits K N I P a0 x1 = some res) : Met l yX5_rowBits wz_X5_rowBits rm_X5_rowBits (va_Pc [.ref a0, .int x1] (mm_B D cs A L K N z w I P)) (va_Qi (fun r (_ : Unit) => r = res) (fun _ => mm_B D cs A L K N z w I P) A) 0 0 A := by
  refine Met.ofW (cc := cX5_rowBits) (maxL := 4) (ret := (some .int)) (by decide) rfl ?_
  intro p e s m args below meth c s₁ B hml hv
  obtain ⟨rfl, hBm⟩ := hv
  have hx := B.exec
  have hb := B.bytes
  have hr := B.returns
  have hts := atoms_spec (ws := wz_X5_rowBits) B.pre
  have hWA : ∀ w ∈ WA, w.before ([.ref a0, .int x1] : List Value).toArray s = true := fun u9 h9 => hts u9 (List.mem_cons_of_mem _ h9)
  have hown : s.vm.findClass RX5 = some m.cls := findClass_of_methodNamed B.named
  have hlocks := B.notSynchronized
  have S : CallFix p m c cX5_rowBits 4 s ([.ref a0, .int x1] : List Value).toArray wz_X5_rowBits RX5 := ⟨hx, hb, hml, hown, hts⟩
  have hK := hBm.2.2.2.1
  have hZ := hBm.2.2.2.2
  have hM : mm_W D cs A L K N s.heap I P s.heap [] := ⟨hBm.1, hBm.2.1, hBm.2.2.1, va_S.rf⟩
  have hl := lv_entry ([.ref a0, .int x1]) (n := 4) (Nat.le_of_ble_eq_true rfl)
  rw [lg_entry_eq]
  generalize (lg_sl ([.ref a0, .int x1]) ++ List.replicate (4 - (lg_sl ([.ref a0, .int x1])).length) Slot.unset).toArray = ls at hl ⊢
  have hl : lv_has ls 4 [(0, .ref a0), (1, .int x1)] := hl
  have hin5 : ∀ w ∈ wsX50, w ∈ wz_X5_rowBits := fun w h => List.mem_cons_of_mem _ (wu_X5 w h)
  have lk9 : (Cond.fieldLink RX5 9 RX5 "held" "[Z").before ([.ref a0, .int x1] : List Value).toArray s = true := hWA _ wa_1_42
  generalize hQ : MQ below (va_Qi (fun r (_ : Unit) => r = res) (fun _ => mm_B D cs A L K N z w I P) A) ([.ref a0, .int x1] : List Value).toArray s 0 0 A = QQ
  rw [fn_X5_rowBits] at hf
  refine lv_iconst (v := (0 : Int32)) hx hb dX5_rowBits_0 (by decide) ?_
  refine lv_istore_n (lv' := [(2, .int (0 : Int32)), (0, .ref a0), (1, .int x1)]) hx hb dX5_rowBits_1 rfl hl (by decide) rfl (fun ls hl => ?_)
  refine lv_iconst (v := (0 : Int32)) hx hb dX5_rowBits_2 (by decide) ?_
  refine lv_istore_n (lv' := [(3, .int (0 : Int32)), (2, .int (0 : Int32)), (0, .ref a0), (1, .int x1)]) hx hb dX5_rowBits_3 rfl hl (by decide) rfl (fun ls hl => ?_)
  have lp4_10 : ∀ (n : Nat) (v1 : Int32) (v2 : Int32) (H : Heap) (locs : List Loc) (ls : Array Slot) (r3 : Int32), mm_W D cs A L K N s.heap I P H locs → lv_has ls 4 [(0, .ref a0), (1, .int x1), (2, .int v1), (3, .int v2)] → fn_X5_rowBits_L4 K N a0 x1 I P n v1 v2 = some r3 → (∀ (H : Heap) (locs : List Loc) (ls : Array Slot), mm_W D cs A L K N s.heap I P H locs → lv_has ls 4 [(2, .int r3)] → W p l e (headSpec wz_X5_rowBits rm_X5_rowBits).room s m ([.ref a0, .int x1] : List Value).toArray below meth c H locs 0 0 QQ (F0 m 35 ls [])) → W p l e (headSpec wz_X5_rowBits rm_X5_rowBits).room s m ([.ref a0, .int x1] : List Value).toArray below meth c H locs 0 0 QQ (F0 m 4 ls []) := by
    intro n
    induction n with
    | zero => intro v1 v2 H locs ls r3 hM hl hf kk; exact nn_x (show (none : Option (Int32)) = some r3 from hf)
    | succ n ih =>
      intro v1 v2 H locs ls r3 hM hl hf kk
      rw [fn_X5_rowBits_L4] at hf
      refine lv_iload_n hx hb dX5_rowBits_4 rfl (lv_at hl 3 rfl) ?_
      refine lv_bipush (v := (16 : Int32)) hx hb dX5_rowBits_5 (by decide) ?_
      refine lv_icmp_ge (tgt := 35) hx hb dX5_rowBits_7 (by decide) (fun hc4 => ?_) (fun hc4 => ?_)
      · have hf := it_p hf hc4
        obtain rfl := Option.some.inj hf
        exact kk _ _ _ hM (lv_sub hl [2] rfl)
      · have hf := it_n hf hc4
        refine lv_aload_n hx hb dX5_rowBits_10 rfl (lv_at hl 0 rfl) ?_
        refine gd_e hf (fun hg5 hf => ?_)
        refine bd_e hf (fun q6 eq6 hf => ?_)
        refine ev_getP (v := q6) S hK hM (ci := 5) (n := 2) (C := RX5) (T := TX5) hin5 rfl hg5 0 (by decide) lk9 rfl rfl eq6 rfl dX5_rowBits_11 ?_
        refine lv_iload_n hx hb dX5_rowBits_14 rfl (lv_at hl 3 rfl) ?_
        refine lv_iload_n hx hb dX5_rowBits_15 rfl (lv_at hl 1 rfl) ?_
        refine bd_e hf (fun r7 er7 hf => ?_)
        refine ev_calli (va_runSN (As := [.int v2, .int x1]) (rest := [.ref q6]) S (c_X9_dotAt (l := l) I P v2 x1 r7 er7) ⟨va_cnB 2 hts (gi_n wa_2_150) rfl rfl rfl hZ.1.2.2.2.2 (hWA _ wa_1_1) (by decide +kernel) ⟨Nat.le_of_ble_eq_true rfl, Nat.le_of_ble_eq_true rfl⟩, hWA _ wa_2_149, trivial⟩ ⟨mm_B_blind, fun U hU hW => ⟨rfl, mm_B_of hK hZ hM hU hW⟩⟩ rfl rfl hl.1 rfl (lv_room (Nat.le_of_ble_eq_true rfl)) dX5_rowBits_16 ⟨Nat.zero_le _, Nat.zero_le _⟩) hM (fun H locs hM => ?_)
        refine gd_e hf (fun hg8 hf => ?_)
        refine ev_zald S hK hM hg8 (j := r7.toNatClampNeg) rfl dX5_rowBits_19 ?_
        refine lv_if_eq (tgt := 29) hx hb dX5_rowBits_20 (by decide) (fun hc9 => ?_) (fun hc9 => ?_)
        · have hf := it_p hf hc9
          refine lv_iinc (v := (v2 + (1 : Int32))) (lv' := [(3, .int (v2 + (1 : Int32))), (0, .ref a0), (1, .int x1), (2, .int v1)]) hx hb dX5_rowBits_29 hl (k := 3) rfl rfl (by decide) rfl (fun ls hl => ?_)
          refine lv_goto (tgt := 4) hx hb dX5_rowBits_32 (by decide) ?_
          exact ih v1 (v2 + (1 : Int32)) _ _ _ _ hM (lv_sub hl [1, 2, 3, 0] rfl) hf kk
        · have hf := it_n hf hc9
          refine lv_iload_n hx hb dX5_rowBits_23 rfl (lv_at hl 2 rfl) ?_
          refine lv_iconst (v := (1 : Int32)) hx hb dX5_rowBits_24 (by decide) ?_
          refine lv_iload_n hx hb dX5_rowBits_25 rfl (lv_at hl 3 rfl) ?_
          refine lv_ishl hx hb dX5_rowBits_26 ?_
          refine lv_ior hx hb dX5_rowBits_27 ?_
          refine lv_topi (fun v10 ev10 => ?_)
          have hf := nm_x ev10 hf
          refine lv_istore_n (lv' := [(2, .int v10), (0, .ref a0), (1, .int x1), (3, .int v2)]) hx hb dX5_rowBits_28 rfl hl (by decide) rfl (fun ls hl => ?_)
          refine lv_iinc (v := (v2 + (1 : Int32))) (lv' := [(3, .int (v2 + (1 : Int32))), (2, .int v10), (0, .ref a0), (1, .int x1)]) hx hb dX5_rowBits_29 hl (k := 3) rfl rfl (by decide) rfl (fun ls hl => ?_)
          refine lv_goto (tgt := 4) hx hb dX5_rowBits_32 (by decide) ?_
          exact ih v10 (v2 + (1 : Int32)) _ _ _ _ hM (lv_sub hl [2, 3, 1, 0] rfl) hf kk
  refine bd_e hf (fun r3 er3 hf => ?_)
  refine lp4_10 FU (0 : Int32) (0 : Int32) _ _ _ r3 hM (lv_sub hl [2, 3, 1, 0] rfl) er3 (fun H locs ls hM hl => ?_)
  refine lv_iload_n hx hb dX5_rowBits_35 rfl (lv_at hl 0 rfl) ?_
  obtain rfl := Option.some.inj hf
  subst hQ
  exact ev_iret S hr hlocks hK hZ hM dX5_rowBits_36
noncomputable def fn_X6_become_L2 (K : Nat → Nat) (N : Nat → Nat) (a0 : Nat) (a1 : Nat) (P : Nat → Nat → Option Nat) : Nat → Int32 → (Nat → Nat → Int32) → Option ((Nat → Nat → Int32))
  | 0, _, _ => none
  | n + 1, v1, I2 => if (4 : Int32) ≤ v1 then (some I2) else (gd (K a0 = 7) (Option.bind (P a0 (0)) (fun q6 => gd (K q6 = 15 ∧ vp_in v1 (N q6)) (Option.bind (P q6 (v1.toNatClampNeg)) (fun q8 => gd (K a1 = 7) (Option.bind (P a1 (0)) (fun q10 => gd (K q10 = 15 ∧ vp_in v1 (N q10)) (Option.bind (P q10 (v1.toNatClampNeg)) (fun q12 => Option.bind (fn_X4_become K N I2 P q8 q12) (fun (r13 : (Nat → Nat → Int32)) => gd (K q8 = 5) (fn_X6_become_L2 K N a0 a1 P n (v1 + (1 : Int32)) r13)))))))))))
noncomputable def fn_X6_become (K N : Nat → Nat) (I : Nat → Nat → Int32) (P : Nat → Nat → Option Nat) (a0 : Nat) (a1 : Nat) : Option ((Nat → Nat → Int32)) := Option.bind (fn_X6_become_L2 K N a0 a1 P FU (0 : Int32) I) (fun (r3 : (Nat → Nat → Int32)) => gd (K a1 = 7) (gd (K a0 = 7) (Option.bind (some (up2 r3 a0 1 (r3 a1 1))) (fun I17 => Option.bind (some (up2 I17 a0 2 (I17 a1 2))) (fun I18 => Option.bind (P a0 (3)) (fun q19 => Option.bind (P a1 (3)) (fun q20 => gd (K q20 = 6) (Option.bind (P q20 (0)) (fun q22 => Option.bind (fn_X5_join K N I18 P q19 q22 (0 : Int32)) (fun (r23 : (Nat → Nat → Int32)) => gd (K q19 = 6) (Option.bind (P a0 (4)) (fun q25 => Option.bind (P a1 (4)) (fun q26 => gd (K q26 = 3) (Option.bind (fn_X2_become K N r23 P q25 (r23 q26 0) (r23 q26 1) (r23 q26 2) (r23 q26 3)) (fun (r28 : (Nat → Nat → Int32)) => gd (K q25 = 3) (Option.bind (P a0 (5)) (fun q30 => Option.bind (P a1 (5)) (fun q31 => Option.bind (fn_X1_become K N r28 P q30 q31) (fun (r32 : (Nat → Nat → Int32)) => gd (K q30 = 2) (some r32))))))))))))))))))))
abbrev wz_X6_become : List Cond := Cond.code yX6_become cX6_become 3 none :: WA
abbrev rm_X6_become : Room := { frames := 4, cells := 0, slots := 0, locals := 103 }
set_option maxHeartbeats 4000000 in
set_option maxRecDepth 100000 in
theorem c_X6_become (I : Nat → Nat → Int32) (P : Nat → Nat → Option Nat) (a0 : Nat) (a1 : Nat) (res : (Nat → Nat → Int32)) (hf : fn_X6_become K N I P a0 a1 = some res) : Met l yX6_become wz_X6_become rm_X6_become (va_Pc [.ref a0, .ref a1] (mm_B D cs A L K N z w I P)) (va_Qv (fun (_ : Unit) => True) (fun _ => mm_B D cs A L K N z w res P) A) 0 0 A := by
  refine Met.ofW (cc := cX6_become) (maxL := 3) (ret := none) (by decide) rfl ?_
  intro p e s m args below meth c s₁ B hml hv
  obtain ⟨rfl, hBm⟩ := hv
  have hx := B.exec
  have hb := B.bytes
  have hr := B.returns
  have hts := atoms_spec (ws := wz_X6_become) B.pre
  have hWA : ∀ w ∈ WA, w.before ([.ref a0, .ref a1] : List Value).toArray s = true := fun u9 h9 => hts u9 (List.mem_cons_of_mem _ h9)
  have hown : s.vm.findClass RX6 = some m.cls := findClass_of_methodNamed B.named
  have hlocks := B.notSynchronized
  have S : CallFix p m c cX6_become 3 s ([.ref a0, .ref a1] : List Value).toArray wz_X6_become RX6 := ⟨hx, hb, hml, hown, hts⟩
  have hK := hBm.2.2.2.1
  have hZ := hBm.2.2.2.2
  have hM : mm_W D cs A L K N s.heap I P s.heap [] := ⟨hBm.1, hBm.2.1, hBm.2.2.1, va_S.rf⟩
  have hl := lv_entry ([.ref a0, .ref a1]) (n := 3) (Nat.le_of_ble_eq_true rfl)
  rw [lg_entry_eq]
  generalize (lg_sl ([.ref a0, .ref a1]) ++ List.replicate (3 - (lg_sl ([.ref a0, .ref a1])).length) Slot.unset).toArray = ls at hl ⊢
  have hl : lv_has ls 3 [(0, .ref a0), (1, .ref a1)] := hl
  have hin6 : ∀ w ∈ wsX60, w ∈ wz_X6_become := fun w h => List.mem_cons_of_mem _ (wu_X6 w h)
  have hin5 : ∀ w ∈ wsX50, w ∈ wz_X6_become := fun w h => List.mem_cons_of_mem _ (wu_X5 w h)
  have hin2 : ∀ w ∈ wsX20, w ∈ wz_X6_become := fun w h => List.mem_cons_of_mem _ (wu_X2 w h)
  have lk11 : (Cond.fieldLink RX6 11 RX6 "layers" "[LRasterPainter$Layer;").before ([.ref a0, .ref a1] : List Value).toArray s = true := hWA _ wa_1_151
  have lk47 : (Cond.fieldLink RX6 47 RX6 "layerCount" "I").before ([.ref a0, .ref a1] : List Value).toArray s = true := hWA _ wa_1_154
  have lk17 : (Cond.fieldLink RX6 17 RX6 "paper" "I").before ([.ref a0, .ref a1] : List Value).toArray s = true := hWA _ wa_1_155
  have lk24 : (Cond.fieldLink RX6 24 RX6 "mask" "LRasterPainter$Mask;").before ([.ref a0, .ref a1] : List Value).toArray s = true := hWA _ wa_1_157
  have lk50 : (Cond.fieldLink RX6 50 RX5 "held" "[Z").before ([.ref a0, .ref a1] : List Value).toArray s = true := hWA _ wa_1_43
  have lk31 : (Cond.fieldLink RX6 31 RX6 "brush" "LRasterPainter$Brush;").before ([.ref a0, .ref a1] : List Value).toArray s = true := hWA _ wa_1_159
  have lk58 : (Cond.fieldLink RX6 58 RX2 "kind" "I").before ([.ref a0, .ref a1] : List Value).toArray s = true := hWA _ wa_1_60
  have lk61 : (Cond.fieldLink RX6 61 RX2 "radius" "I").before ([.ref a0, .ref a1] : List Value).toArray s = true := hWA _ wa_1_63
  have lk64 : (Cond.fieldLink RX6 64 RX2 "ink" "I").before ([.ref a0, .ref a1] : List Value).toArray s = true := hWA _ wa_1_66
  have lk67 : (Cond.fieldLink RX6 67 RX2 "flow" "I").before ([.ref a0, .ref a1] : List Value).toArray s = true := hWA _ wa_1_69
  have lk38 : (Cond.fieldLink RX6 38 RX6 "acts" "LRasterPainter$Acts;").before ([.ref a0, .ref a1] : List Value).toArray s = true := hWA _ wa_1_161
  generalize hQ : MQ below (va_Qv (fun (_ : Unit) => True) (fun _ => mm_B D cs A L K N z w res P) A) ([.ref a0, .ref a1] : List Value).toArray s 0 0 A = QQ
  rw [fn_X6_become] at hf
  refine lv_iconst (v := (0 : Int32)) hx hb dX6_become_0 (by decide) ?_
  refine lv_istore_n (lv' := [(2, .int (0 : Int32)), (0, .ref a0), (1, .ref a1)]) hx hb dX6_become_1 rfl hl (by decide) rfl (fun ls hl => ?_)
  have lp2_14 : ∀ (n : Nat) (v1 : Int32) (I2 : Nat → Nat → Int32) (H : Heap) (locs : List Loc) (ls : Array Slot) (r3 : (Nat → Nat → Int32)), mm_W D cs A L K N s.heap I2 P H locs → lv_has ls 3 [(0, .ref a0), (1, .ref a1), (2, .int v1)] → fn_X6_become_L2 K N a0 a1 P n v1 I2 = some r3 → (∀ (H : Heap) (locs : List Loc) (ls : Array Slot), mm_W D cs A L K N s.heap r3 P H locs → lv_has ls 3 [(0, .ref a0), (1, .ref a1)] → W p l e (headSpec wz_X6_become rm_X6_become).room s m ([.ref a0, .ref a1] : List Value).toArray below meth c H locs 0 0 QQ (F0 m 28 ls [])) → W p l e (headSpec wz_X6_become rm_X6_become).room s m ([.ref a0, .ref a1] : List Value).toArray below meth c H locs 0 0 QQ (F0 m 2 ls []) := by
    intro n
    induction n with
    | zero => intro v1 I2 H locs ls r3 hM hl hf kk; exact nn_x (show (none : Option ((Nat → Nat → Int32))) = some r3 from hf)
    | succ n ih =>
      intro v1 I2 H locs ls r3 hM hl hf kk
      rw [fn_X6_become_L2] at hf
      refine lv_iload_n hx hb dX6_become_2 rfl (lv_at hl 2 rfl) ?_
      refine lv_iconst (v := (4 : Int32)) hx hb dX6_become_3 (by decide) ?_
      refine lv_icmp_ge (tgt := 28) hx hb dX6_become_4 (by decide) (fun hc4 => ?_) (fun hc4 => ?_)
      · have hf := it_p hf hc4
        obtain rfl := Option.some.inj hf
        exact kk _ _ _ hM (lv_sub hl [0, 1] rfl)
      · have hf := it_n hf hc4
        refine lv_aload_n hx hb dX6_become_7 rfl (lv_at hl 0 rfl) ?_
        refine gd_e hf (fun hg5 hf => ?_)
        refine bd_e hf (fun q6 eq6 hf => ?_)
        refine ev_getP (v := q6) S hK hM (ci := 6) (n := 6) (C := RX6) (T := TX6) hin6 rfl hg5 0 (by decide) lk11 rfl rfl eq6 rfl dX6_become_8 ?_
        refine lv_iload_n hx hb dX6_become_11 rfl (lv_at hl 2 rfl) ?_
        refine gd_e hf (fun hg7 hf => ?_)
        refine bd_e hf (fun q8 eq8 hf => ?_)
        refine ev_aald15 S hK hM hg7 (j := v1.toNatClampNeg) rfl eq8 dX6_become_12 ?_
        refine lv_aload_n hx hb dX6_become_13 rfl (lv_at hl 1 rfl) ?_
        refine gd_e hf (fun hg9 hf => ?_)
        refine bd_e hf (fun q10 eq10 hf => ?_)
        refine ev_getP (v := q10) S hK hM (ci := 6) (n := 6) (C := RX6) (T := TX6) hin6 rfl hg9 0 (by decide) lk11 rfl rfl eq10 rfl dX6_become_14 ?_
        refine lv_iload_n hx hb dX6_become_17 rfl (lv_at hl 2 rfl) ?_
        refine gd_e hf (fun hg11 hf => ?_)
        refine bd_e hf (fun q12 eq12 hf => ?_)
        refine ev_aald15 S hK hM hg11 (j := v1.toNatClampNeg) rfl eq12 dX6_become_18 ?_
        refine bd_e hf (fun r13 er13 hf => ?_)
        refine gd_e hf (fun hg14 hf => ?_)
        refine ev_callv (va_runV (As := [.ref q12]) (rest := []) S (c_X4_become (l := l) I2 P q8 q12 r13 er13) (cwV 1 hts (gi_v wa_4_95 wa_4_30 wa_4_31 wa_1_7 wa_4_32) rfl rfl rfl (by decide +kernel) ⟨Nat.le_of_ble_eq_true rfl, Nat.le_of_ble_eq_true rfl⟩) ⟨mm_B_blind, ev_recv hK hM (ci := 4) rfl hg14 rfl, fun U hU hW => ⟨rfl, mm_B_of hK hZ hM hU hW⟩⟩ rfl rfl hl.1 rfl (lv_room (Nat.le_of_ble_eq_true rfl)) dX6_become_19 ⟨Nat.zero_le _, Nat.zero_le _⟩) hM (fun H locs hM => ?_)
        refine lv_iinc (v := (v1 + (1 : Int32))) (lv' := [(2, .int (v1 + (1 : Int32))), (0, .ref a0), (1, .ref a1)]) hx hb dX6_become_22 hl (k := 2) rfl rfl (by decide) rfl (fun ls hl => ?_)
        refine lv_goto (tgt := 2) hx hb dX6_become_25 (by decide) ?_
        exact ih (v1 + (1 : Int32)) r13 _ _ _ _ hM (lv_sub hl [1, 2, 0] rfl) hf kk
  refine bd_e hf (fun r3 er3 hf => ?_)
  refine lp2_14 FU (0 : Int32) I _ _ _ r3 hM (lv_sub hl [1, 2, 0] rfl) er3 (fun H locs ls hM hl => ?_)
  refine lv_aload_n hx hb dX6_become_28 rfl (lv_at hl 0 rfl) ?_
  refine lv_aload_n hx hb dX6_become_29 rfl (lv_at hl 1 rfl) ?_
  refine gd_e hf (fun hg15 hf => ?_)
  refine ev_get (v := .int (r3 a1 1)) S hK hM (ci := 6) (n := 6) (C := RX6) (T := TX6) hin6 rfl hg15 1 (by decide) lk47 rfl rfl rfl dX6_become_30 ?_
  refine gd_e hf (fun hg16 hf => ?_)
  refine ev_put S hK hM (ci := 6) (n := 6) (C := RX6) (T := TX6) hin6 tyX6 tyX6_ok nmX6 rfl hg16 1 (by decide) lk47 rfl rfl rfl rfl rfl (Nat.le_of_ble_eq_true rfl) rfl dX6_become_33 (fun I17 eI17 H locs hM => ?_)
  have hf := nm_x eI17 hf
  refine lv_aload_n hx hb dX6_become_36 rfl (lv_at hl 0 rfl) ?_
  refine lv_aload_n hx hb dX6_become_37 rfl (lv_at hl 1 rfl) ?_
  refine ev_get (v := .int (I17 a1 2)) S hK hM (ci := 6) (n := 6) (C := RX6) (T := TX6) hin6 rfl hg15 2 (by decide) lk17 rfl rfl rfl dX6_become_38 ?_
  refine ev_put S hK hM (ci := 6) (n := 6) (C := RX6) (T := TX6) hin6 tyX6 tyX6_ok nmX6 rfl hg16 2 (by decide) lk17 rfl rfl rfl rfl rfl (Nat.le_of_ble_eq_true rfl) rfl dX6_become_41 (fun I18 eI18 H locs hM => ?_)
  have hf := nm_x eI18 hf
  refine lv_aload_n hx hb dX6_become_44 rfl (lv_at hl 0 rfl) ?_
  refine bd_e hf (fun q19 eq19 hf => ?_)
  refine ev_getP (v := q19) S hK hM (ci := 6) (n := 6) (C := RX6) (T := TX6) hin6 rfl hg16 3 (by decide) lk24 rfl rfl eq19 rfl dX6_become_45 ?_
  refine lv_aload_n hx hb dX6_become_48 rfl (lv_at hl 1 rfl) ?_
  refine bd_e hf (fun q20 eq20 hf => ?_)
  refine ev_getP (v := q20) S hK hM (ci := 6) (n := 6) (C := RX6) (T := TX6) hin6 rfl hg15 3 (by decide) lk24 rfl rfl eq20 rfl dX6_become_49 ?_
  refine gd_e hf (fun hg21 hf => ?_)
  refine bd_e hf (fun q22 eq22 hf => ?_)
  refine ev_getP (v := q22) S hK hM (ci := 5) (n := 2) (C := RX5) (T := TX5) hin5 rfl hg21 0 (by decide) lk50 rfl rfl eq22 rfl dX6_become_52 ?_
  refine lv_iconst (v := (0 : Int32)) hx hb dX6_become_55 (by decide) ?_
  refine bd_e hf (fun r23 er23 hf => ?_)
  refine gd_e hf (fun hg24 hf => ?_)
  refine ev_callv (va_runV (As := [.ref q22, .int (0 : Int32)]) (rest := []) S (c_X5_join (l := l) I18 P q19 q22 (0 : Int32) r23 er23) (cwV 2 hts (gi_v wa_4_96 wa_3_194 wa_3_195 wa_1_3 wa_3_196) rfl rfl rfl (by decide +kernel) ⟨Nat.le_of_ble_eq_true rfl, Nat.le_of_ble_eq_true rfl⟩) ⟨mm_B_blind, ev_recv hK hM (ci := 5) rfl hg24 rfl, fun U hU hW => ⟨rfl, mm_B_of hK hZ hM hU hW⟩⟩ rfl rfl hl.1 rfl (lv_room (Nat.le_of_ble_eq_true rfl)) dX6_become_56 ⟨Nat.zero_le _, Nat.zero_le _⟩) hM (fun H locs hM => ?_)
  refine lv_aload_n hx hb dX6_become_59 rfl (lv_at hl 0 rfl) ?_
  refine bd_e hf (fun q25 eq25 hf => ?_)
  refine ev_getP (v := q25) S hK hM (ci := 6) (n := 6) (C := RX6) (T := TX6) hin6 rfl hg16 4 (by decide) lk31 rfl rfl eq25 rfl dX6_become_60 ?_
  refine lv_aload_n hx hb dX6_become_63 rfl (lv_at hl 1 rfl) ?_
  refine bd_e hf (fun q26 eq26 hf => ?_)
  refine ev_getP (v := q26) S hK hM (ci := 6) (n := 6) (C := RX6) (T := TX6) hin6 rfl hg15 4 (by decide) lk31 rfl rfl eq26 rfl dX6_become_64 ?_
  refine gd_e hf (fun hg27 hf => ?_)
  refine ev_get (v := .int (r23 q26 0)) S hK hM (ci := 2) (n := 4) (C := RX2) (T := TX2) hin2 rfl hg27 0 (by decide) lk58 rfl rfl rfl dX6_become_67 ?_
  refine lv_aload_n hx hb dX6_become_70 rfl (lv_at hl 1 rfl) ?_
  refine ev_getP (v := q26) S hK hM (ci := 6) (n := 6) (C := RX6) (T := TX6) hin6 rfl hg15 4 (by decide) lk31 rfl rfl eq26 rfl dX6_become_71 ?_
  refine ev_get (v := .int (r23 q26 1)) S hK hM (ci := 2) (n := 4) (C := RX2) (T := TX2) hin2 rfl hg27 1 (by decide) lk61 rfl rfl rfl dX6_become_74 ?_
  refine lv_aload_n hx hb dX6_become_77 rfl (lv_at hl 1 rfl) ?_
  refine ev_getP (v := q26) S hK hM (ci := 6) (n := 6) (C := RX6) (T := TX6) hin6 rfl hg15 4 (by decide) lk31 rfl rfl eq26 rfl dX6_become_78 ?_
  refine ev_get (v := .int (r23 q26 2)) S hK hM (ci := 2) (n := 4) (C := RX2) (T := TX2) hin2 rfl hg27 2 (by decide) lk64 rfl rfl rfl dX6_become_81 ?_
  refine lv_aload_n hx hb dX6_become_84 rfl (lv_at hl 1 rfl) ?_
  refine ev_getP (v := q26) S hK hM (ci := 6) (n := 6) (C := RX6) (T := TX6) hin6 rfl hg15 4 (by decide) lk31 rfl rfl eq26 rfl dX6_become_85 ?_
  refine ev_get (v := .int (r23 q26 3)) S hK hM (ci := 2) (n := 4) (C := RX2) (T := TX2) hin2 rfl hg27 3 (by decide) lk67 rfl rfl rfl dX6_become_88 ?_
  refine bd_e hf (fun r28 er28 hf => ?_)
  refine gd_e hf (fun hg29 hf => ?_)
  refine ev_callv (va_runV (As := [.int (r23 q26 0), .int (r23 q26 1), .int (r23 q26 2), .int (r23 q26 3)]) (rest := []) S (c_X2_become (l := l) r23 P q25 (r23 q26 0) (r23 q26 1) (r23 q26 2) (r23 q26 3) r28 er28) (cwV 4 hts (gi_v wa_4_97 wa_2_169 wa_2_170 wa_1_4 wa_2_171) rfl rfl rfl (by decide +kernel) ⟨Nat.le_of_ble_eq_true rfl, Nat.le_of_ble_eq_true rfl⟩) ⟨mm_B_blind, ev_recv hK hM (ci := 2) rfl hg29 rfl, fun U hU hW => ⟨rfl, mm_B_of hK hZ hM hU hW⟩⟩ rfl rfl hl.1 rfl (lv_room (Nat.le_of_ble_eq_true rfl)) dX6_become_91 ⟨Nat.zero_le _, Nat.zero_le _⟩) hM (fun H locs hM => ?_)
  refine lv_aload_n hx hb dX6_become_94 rfl (lv_at hl 0 rfl) ?_
  refine bd_e hf (fun q30 eq30 hf => ?_)
  refine ev_getP (v := q30) S hK hM (ci := 6) (n := 6) (C := RX6) (T := TX6) hin6 rfl hg16 5 (by decide) lk38 rfl rfl eq30 rfl dX6_become_95 ?_
  refine lv_aload_n hx hb dX6_become_98 rfl (lv_at hl 1 rfl) ?_
  refine bd_e hf (fun q31 eq31 hf => ?_)
  refine ev_getP (v := q31) S hK hM (ci := 6) (n := 6) (C := RX6) (T := TX6) hin6 rfl hg15 5 (by decide) lk38 rfl rfl eq31 rfl dX6_become_99 ?_
  refine bd_e hf (fun r32 er32 hf => ?_)
  refine gd_e hf (fun hg33 hf => ?_)
  refine ev_callv (va_runV (As := [.ref q31]) (rest := []) S (c_X1_become (l := l) r28 P q30 q31 r32 er32) (cwV 1 hts (gi_v wa_4_98 wa_4_99 wa_4_100 wa_1_5 wa_4_101) rfl rfl rfl (by decide +kernel) ⟨Nat.le_of_ble_eq_true rfl, Nat.le_of_ble_eq_true rfl⟩) ⟨mm_B_blind, ev_recv hK hM (ci := 1) rfl hg33 rfl, fun U hU hW => ⟨rfl, mm_B_of hK hZ hM hU hW⟩⟩ rfl rfl hl.1 rfl (lv_room (Nat.le_of_ble_eq_true rfl)) dX6_become_102 ⟨Nat.zero_le _, Nat.zero_le _⟩) hM (fun H locs hM => ?_)
  obtain rfl := Option.some.inj hf
  subst hQ
  exact ev_vret S hr hlocks hK hZ hM dX6_become_105
noncomputable def fn_X6_hasLayer (K N : Nat → Nat) (I : Nat → Nat → Int32) (P : Nat → Nat → Option Nat) (a0 : Nat) (x1 : Int32) : Option (Int32) := if x1 < 0 then (some (0 : Int32)) else (gd (K a0 = 7) (if (I a0 1) ≤ x1 then (some (0 : Int32)) else (some (1 : Int32))))
abbrev wz_X6_hasLayer : List Cond := Cond.code yX6_hasLayer cX6_hasLayer 2 (some .boolean) :: WA
abbrev rm_X6_hasLayer : Room := { frames := 1, cells := 0, slots := 0, locals := 12 }
set_option maxHeartbeats 4000000 in
set_option maxRecDepth 100000 in
theorem c_X6_hasLayer (I : Nat → Nat → Int32) (P : Nat → Nat → Option Nat) (a0 : Nat) (x1 : Int32) (res : Int32) (hf : fn_X6_hasLayer K N I P a0 x1 = some res) : Met l yX6_hasLayer wz_X6_hasLayer rm_X6_hasLayer (va_Pc [.ref a0, .int x1] (mm_B D cs A L K N z w I P)) (va_Qi (fun r (_ : Unit) => r = res) (fun _ => mm_B D cs A L K N z w I P) A) 0 0 A := by
  refine Met.ofW (cc := cX6_hasLayer) (maxL := 2) (ret := (some .boolean)) (by decide) rfl ?_
  intro p e s m args below meth c s₁ B hml hv
  obtain ⟨rfl, hBm⟩ := hv
  have hx := B.exec
  have hb := B.bytes
  have hr := B.returns
  have hts := atoms_spec (ws := wz_X6_hasLayer) B.pre
  have hWA : ∀ w ∈ WA, w.before ([.ref a0, .int x1] : List Value).toArray s = true := fun u9 h9 => hts u9 (List.mem_cons_of_mem _ h9)
  have hown : s.vm.findClass RX6 = some m.cls := findClass_of_methodNamed B.named
  have hlocks := B.notSynchronized
  have S : CallFix p m c cX6_hasLayer 2 s ([.ref a0, .int x1] : List Value).toArray wz_X6_hasLayer RX6 := ⟨hx, hb, hml, hown, hts⟩
  have hK := hBm.2.2.2.1
  have hZ := hBm.2.2.2.2
  have hM : mm_W D cs A L K N s.heap I P s.heap [] := ⟨hBm.1, hBm.2.1, hBm.2.2.1, va_S.rf⟩
  have hl := lv_entry ([.ref a0, .int x1]) (n := 2) (Nat.le_of_ble_eq_true rfl)
  rw [lg_entry_eq]
  generalize (lg_sl ([.ref a0, .int x1]) ++ List.replicate (2 - (lg_sl ([.ref a0, .int x1])).length) Slot.unset).toArray = ls at hl ⊢
  have hl : lv_has ls 2 [(0, .ref a0), (1, .int x1)] := hl
  have hin6 : ∀ w ∈ wsX60, w ∈ wz_X6_hasLayer := fun w h => List.mem_cons_of_mem _ (wu_X6 w h)
  have lk47 : (Cond.fieldLink RX6 47 RX6 "layerCount" "I").before ([.ref a0, .int x1] : List Value).toArray s = true := hWA _ wa_1_154
  generalize hQ : MQ below (va_Qi (fun r (_ : Unit) => r = res) (fun _ => mm_B D cs A L K N z w I P) A) ([.ref a0, .int x1] : List Value).toArray s 0 0 A = QQ
  rw [fn_X6_hasLayer] at hf
  refine lv_iload_n hx hb dX6_hasLayer_0 rfl (lv_at hl 1 rfl) ?_
  refine lv_if_lt (tgt := 16) hx hb dX6_hasLayer_1 (by decide) (fun hc1 => ?_) (fun hc1 => ?_)
  · have hf := it_p hf hc1
    refine lv_iconst (v := (0 : Int32)) hx hb dX6_hasLayer_16 (by decide) ?_
    obtain rfl := Option.some.inj hf
    subst hQ
    exact ev_zret (v := (0 : Int32)) S hr hlocks hK hZ hM rfl dX6_hasLayer_17
  · have hf := it_n hf hc1
    refine lv_iload_n hx hb dX6_hasLayer_4 rfl (lv_at hl 1 rfl) ?_
    refine lv_aload_n hx hb dX6_hasLayer_5 rfl (lv_at hl 0 rfl) ?_
    refine gd_e hf (fun hg2 hf => ?_)
    refine ev_get (v := .int (I a0 1)) S hK hM (ci := 6) (n := 6) (C := RX6) (T := TX6) hin6 rfl hg2 1 (by decide) lk47 rfl rfl rfl dX6_hasLayer_6 ?_
    refine lv_icmp_ge (tgt := 16) hx hb dX6_hasLayer_9 (by decide) (fun hc3 => ?_) (fun hc3 => ?_)
    · have hf := it_p hf hc3
      refine lv_iconst (v := (0 : Int32)) hx hb dX6_hasLayer_16 (by decide) ?_
      obtain rfl := Option.some.inj hf
      subst hQ
      exact ev_zret (v := (0 : Int32)) S hr hlocks hK hZ hM rfl dX6_hasLayer_17
    · have hf := it_n hf hc3
      refine lv_iconst (v := (1 : Int32)) hx hb dX6_hasLayer_12 (by decide) ?_
      refine lv_goto (tgt := 17) hx hb dX6_hasLayer_13 (by decide) ?_
      obtain rfl := Option.some.inj hf
      subst hQ
      exact ev_zret (v := (1 : Int32)) S hr hlocks hK hZ hM rfl dX6_hasLayer_17
noncomputable def fn_X6_addLayer (K N : Nat → Nat) (I : Nat → Nat → Int32) (P : Nat → Nat → Option Nat) (a0 : Nat) (x1 : Int32) (x2 : Int32) (x3 : Int32) : Option (Int32 × (Nat → Nat → Int32)) := gd (K a0 = 7) (Option.bind (P a0 (5)) (fun q2 => Option.bind (fn_X1_forget K N I P q2) (fun (r3 : (Nat → Nat → Int32)) => gd (K q2 = 2) (Option.bind (P a0 (0)) (fun q5 => gd (K q5 = 15 ∧ vp_in (r3 a0 1) (N q5)) (Option.bind (P q5 ((r3 a0 1)).toNatClampNeg) (fun q7 => Option.bind (fn_X4_clear K N r3 P q7) (fun (r8 : (Nat → Nat → Int32)) => gd (K q7 = 5) (gd (K q5 = 15 ∧ vp_in (r8 a0 1) (N q5)) (Option.bind (P q5 ((r8 a0 1)).toNatClampNeg) (fun q11 => Option.bind (fn_X4_wear K N r8 P q11 x1 x2 x3) (fun (r12 : (Nat → Nat → Int32)) => gd (K q11 = 5) (Option.bind (some (up2 r12 a0 1 ((r12 a0 1) + (1 : Int32)))) (fun I14 => some (((I14 a0 1) - (1 : Int32)), I14)))))))))))))))
abbrev wz_X6_addLayer : List Cond := Cond.code yX6_addLayer cX6_addLayer 4 (some .int) :: WA
abbrev rm_X6_addLayer : Room := { frames := 3, cells := 0, slots := 0, locals := 55 }
set_option maxHeartbeats 4000000 in
set_option maxRecDepth 100000 in
theorem c_X6_addLayer (I : Nat → Nat → Int32) (P : Nat → Nat → Option Nat) (a0 : Nat) (x1 : Int32) (x2 : Int32) (x3 : Int32) (res : Int32 × (Nat → Nat → Int32)) (hf : fn_X6_addLayer K N I P a0 x1 x2 x3 = some res) : Met l yX6_addLayer wz_X6_addLayer rm_X6_addLayer (va_Pc [.ref a0, .int x1, .int x2, .int x3] (mm_B D cs A L K N z w I P)) (va_Qi (fun r (_ : Unit) => r = res.1) (fun _ => mm_B D cs A L K N z w res.2 P) A) 0 0 A := by
  refine Met.ofW (cc := cX6_addLayer) (maxL := 4) (ret := (some .int)) (by decide) rfl ?_
  intro p e s m args below meth c s₁ B hml hv
  obtain ⟨rfl, hBm⟩ := hv
  have hx := B.exec
  have hb := B.bytes
  have hr := B.returns
  have hts := atoms_spec (ws := wz_X6_addLayer) B.pre
  have hWA : ∀ w ∈ WA, w.before ([.ref a0, .int x1, .int x2, .int x3] : List Value).toArray s = true := fun u9 h9 => hts u9 (List.mem_cons_of_mem _ h9)
  have hown : s.vm.findClass RX6 = some m.cls := findClass_of_methodNamed B.named
  have hlocks := B.notSynchronized
  have S : CallFix p m c cX6_addLayer 4 s ([.ref a0, .int x1, .int x2, .int x3] : List Value).toArray wz_X6_addLayer RX6 := ⟨hx, hb, hml, hown, hts⟩
  have hK := hBm.2.2.2.1
  have hZ := hBm.2.2.2.2
  have hM : mm_W D cs A L K N s.heap I P s.heap [] := ⟨hBm.1, hBm.2.1, hBm.2.2.1, va_S.rf⟩
  have hl := lv_entry ([.ref a0, .int x1, .int x2, .int x3]) (n := 4) (Nat.le_of_ble_eq_true rfl)
  rw [lg_entry_eq]
  generalize (lg_sl ([.ref a0, .int x1, .int x2, .int x3]) ++ List.replicate (4 - (lg_sl ([.ref a0, .int x1, .int x2, .int x3])).length) Slot.unset).toArray = ls at hl ⊢
  have hl : lv_has ls 4 [(0, .ref a0), (1, .int x1), (2, .int x2), (3, .int x3)] := hl
  have hin6 : ∀ w ∈ wsX60, w ∈ wz_X6_addLayer := fun w h => List.mem_cons_of_mem _ (wu_X6 w h)
  have lk38 : (Cond.fieldLink RX6 38 RX6 "acts" "LRasterPainter$Acts;").before ([.ref a0, .int x1, .int x2, .int x3] : List Value).toArray s = true := hWA _ wa_1_161
  have lk11 : (Cond.fieldLink RX6 11 RX6 "layers" "[LRasterPainter$Layer;").before ([.ref a0, .int x1, .int x2, .int x3] : List Value).toArray s = true := hWA _ wa_1_151
  have lk47 : (Cond.fieldLink RX6 47 RX6 "layerCount" "I").before ([.ref a0, .int x1, .int x2, .int x3] : List Value).toArray s = true := hWA _ wa_1_154
  generalize hQ : MQ below (va_Qi (fun r (_ : Unit) => r = res.1) (fun _ => mm_B D cs A L K N z w res.2 P) A) ([.ref a0, .int x1, .int x2, .int x3] : List Value).toArray s 0 0 A = QQ
  rw [fn_X6_addLayer] at hf
  refine lv_aload_n hx hb dX6_addLayer_0 rfl (lv_at hl 0 rfl) ?_
  refine gd_e hf (fun hg1 hf => ?_)
  refine bd_e hf (fun q2 eq2 hf => ?_)
  refine ev_getP (v := q2) S hK hM (ci := 6) (n := 6) (C := RX6) (T := TX6) hin6 rfl hg1 5 (by decide) lk38 rfl rfl eq2 rfl dX6_addLayer_1 ?_
  refine bd_e hf (fun r3 er3 hf => ?_)
  refine gd_e hf (fun hg4 hf => ?_)
  refine ev_callv (va_runV (As := []) (rest := []) S (c_X1_forget (l := l) I P q2 r3 er3) (cwV 0 hts (gi_v wa_2_57 wa_2_58 wa_2_59 wa_1_5 wa_2_60) rfl rfl rfl (by decide +kernel) ⟨Nat.le_of_ble_eq_true rfl, Nat.le_of_ble_eq_true rfl⟩) ⟨mm_B_blind, ev_recv hK hM (ci := 1) rfl hg4 rfl, fun U hU hW => ⟨rfl, mm_B_of hK hZ hM hU hW⟩⟩ rfl rfl hl.1 rfl (lv_room (Nat.le_of_ble_eq_true rfl)) dX6_addLayer_4 ⟨Nat.zero_le _, Nat.zero_le _⟩) hM (fun H locs hM => ?_)
  refine lv_aload_n hx hb dX6_addLayer_7 rfl (lv_at hl 0 rfl) ?_
  refine bd_e hf (fun q5 eq5 hf => ?_)
  refine ev_getP (v := q5) S hK hM (ci := 6) (n := 6) (C := RX6) (T := TX6) hin6 rfl hg1 0 (by decide) lk11 rfl rfl eq5 rfl dX6_addLayer_8 ?_
  refine lv_aload_n hx hb dX6_addLayer_11 rfl (lv_at hl 0 rfl) ?_
  refine ev_get (v := .int (r3 a0 1)) S hK hM (ci := 6) (n := 6) (C := RX6) (T := TX6) hin6 rfl hg1 1 (by decide) lk47 rfl rfl rfl dX6_addLayer_12 ?_
  refine gd_e hf (fun hg6 hf => ?_)
  refine bd_e hf (fun q7 eq7 hf => ?_)
  refine ev_aald15 S hK hM hg6 (j := ((r3 a0 1)).toNatClampNeg) rfl eq7 dX6_addLayer_15 ?_
  refine bd_e hf (fun r8 er8 hf => ?_)
  refine gd_e hf (fun hg9 hf => ?_)
  refine ev_callv (va_runV (As := []) (rest := []) S (c_X4_clear (l := l) r3 P q7 r8 er8) (cwV 0 hts (gi_v wa_2_61 wa_2_62 wa_2_63 wa_1_7 wa_2_64) rfl rfl rfl (by decide +kernel) ⟨Nat.le_of_ble_eq_true rfl, Nat.le_of_ble_eq_true rfl⟩) ⟨mm_B_blind, ev_recv hK hM (ci := 4) rfl hg9 rfl, fun U hU hW => ⟨rfl, mm_B_of hK hZ hM hU hW⟩⟩ rfl rfl hl.1 rfl (lv_room (Nat.le_of_ble_eq_true rfl)) dX6_addLayer_16 ⟨Nat.zero_le _, Nat.zero_le _⟩) hM (fun H locs hM => ?_)
  refine lv_aload_n hx hb dX6_addLayer_19 rfl (lv_at hl 0 rfl) ?_
  refine ev_getP (v := q5) S hK hM (ci := 6) (n := 6) (C := RX6) (T := TX6) hin6 rfl hg1 0 (by decide) lk11 rfl rfl eq5 rfl dX6_addLayer_20 ?_
  refine lv_aload_n hx hb dX6_addLayer_23 rfl (lv_at hl 0 rfl) ?_
  refine ev_get (v := .int (r8 a0 1)) S hK hM (ci := 6) (n := 6) (C := RX6) (T := TX6) hin6 rfl hg1 1 (by decide) lk47 rfl rfl rfl dX6_addLayer_24 ?_
  refine gd_e hf (fun hg10 hf => ?_)
  refine bd_e hf (fun q11 eq11 hf => ?_)
  refine ev_aald15 S hK hM hg10 (j := ((r8 a0 1)).toNatClampNeg) rfl eq11 dX6_addLayer_27 ?_
  refine lv_iload_n hx hb dX6_addLayer_28 rfl (lv_at hl 1 rfl) ?_
  refine lv_iload_n hx hb dX6_addLayer_29 rfl (lv_at hl 2 rfl) ?_
  refine lv_iload_n hx hb dX6_addLayer_30 rfl (lv_at hl 3 rfl) ?_
  refine bd_e hf (fun r12 er12 hf => ?_)
  refine gd_e hf (fun hg13 hf => ?_)
  refine ev_callv (va_runV (As := [.int x1, .int x2, .int x3]) (rest := []) S (c_X4_wear (l := l) r8 P q11 x1 x2 x3 r12 er12) (cwV 3 hts (gi_v wa_2_68 wa_2_69 wa_2_70 wa_1_7 wa_2_71) rfl rfl rfl (by decide +kernel) ⟨Nat.le_of_ble_eq_true rfl, Nat.le_of_ble_eq_true rfl⟩) ⟨mm_B_blind, ev_recv hK hM (ci := 4) rfl hg13 rfl, fun U hU hW => ⟨rfl, mm_B_of hK hZ hM hU hW⟩⟩ rfl rfl hl.1 rfl (lv_room (Nat.le_of_ble_eq_true rfl)) dX6_addLayer_31 ⟨Nat.zero_le _, Nat.zero_le _⟩) hM (fun H locs hM => ?_)
  refine lv_aload_n hx hb dX6_addLayer_34 rfl (lv_at hl 0 rfl) ?_
  refine lv_dup hx hb dX6_addLayer_35 rfl ?_
  refine ev_get (v := .int (r12 a0 1)) S hK hM (ci := 6) (n := 6) (C := RX6) (T := TX6) hin6 rfl hg1 1 (by decide) lk47 rfl rfl rfl dX6_addLayer_36 ?_
  refine lv_iconst (v := (1 : Int32)) hx hb dX6_addLayer_39 (by decide) ?_
  refine lv_iadd hx hb dX6_addLayer_40 ?_
  refine ev_put S hK hM (ci := 6) (n := 6) (C := RX6) (T := TX6) hin6 tyX6 tyX6_ok nmX6 rfl hg1 1 (by decide) lk47 rfl rfl rfl rfl rfl (Nat.le_of_ble_eq_true rfl) rfl dX6_addLayer_41 (fun I14 eI14 H locs hM => ?_)
  have hf := nm_x eI14 hf
  refine lv_aload_n hx hb dX6_addLayer_44 rfl (lv_at hl 0 rfl) ?_
  refine ev_get (v := .int (I14 a0 1)) S hK hM (ci := 6) (n := 6) (C := RX6) (T := TX6) hin6 rfl hg1 1 (by decide) lk47 rfl rfl rfl dX6_addLayer_45 ?_
  refine lv_iconst (v := (1 : Int32)) hx hb dX6_addLayer_48 (by decide) ?_
  refine lv_isub hx hb dX6_addLayer_49 ?_
  obtain rfl := Option.some.inj hf
  subst hQ
  exact ev_iret S hr hlocks hK hZ hM dX6_addLayer_50
noncomputable def fn_X6_shiftLayer_L17 (K : Nat → Nat) (N : Nat → Nat) (a0 : Nat) (x2 : Int32) : Nat → Int32 → (Nat → Nat → Option Nat) → Option ((Nat → Nat → Option Nat))
  | 0, _, _ => none
  | n + 1, v8, P9 => if x2 ≤ v8 then (some P9) else (Option.bind (P9 a0 (0)) (fun q12 => gd (K q12 = 15 ∧ vp_in (v8 + (1 : Int32)) (N q12)) (Option.bind (P9 q12 ((v8 + (1 : Int32))).toNatClampNeg) (fun q14 => gd (K q12 = 15 ∧ vp_in v8 (N q12)) (gd (K q14 = 5) (Option.bind (some (upP P9 q12 (v8.toNatClampNeg) (some q14))) (fun P17 => fn_X6_shiftLayer_L17 K N a0 x2 n (v8 + (1 : Int32)) P17)))))))
noncomputable def fn_X6_shiftLayer_L48 (K : Nat → Nat) (N : Nat → Nat) (a0 : Nat) (x2 : Int32) : Nat → Int32 → (Nat → Nat → Option Nat) → Option ((Nat → Nat → Option Nat))
  | 0, _, _ => none
  | n + 1, v18, P19 => if v18 ≤ x2 then (some P19) else (Option.bind (P19 a0 (0)) (fun q22 => gd (K q22 = 15 ∧ vp_in (v18 - (1 : Int32)) (N q22)) (Option.bind (P19 q22 ((v18 - (1 : Int32))).toNatClampNeg) (fun q24 => gd (K q22 = 15 ∧ vp_in v18 (N q22)) (gd (K q24 = 5) (Option.bind (some (upP P19 q22 (v18.toNatClampNeg) (some q24))) (fun P27 => fn_X6_shiftLayer_L48 K N a0 x2 n (v18 + (-1 : Int32)) P27)))))))
noncomputable def fn_X6_shiftLayer (K N : Nat → Nat) (I : Nat → Nat → Int32) (P : Nat → Nat → Option Nat) (a0 : Nat) (x1 : Int32) (x2 : Int32) : Option ((Nat → Nat → Int32) × (Nat → Nat → Option Nat)) := gd (K a0 = 7) (Option.bind (P a0 (5)) (fun q2 => Option.bind (fn_X1_forget K N I P q2) (fun (r3 : (Nat → Nat → Int32)) => gd (K q2 = 2) (Option.bind (P a0 (0)) (fun q5 => gd (K q5 = 15 ∧ vp_in x1 (N q5)) (Option.bind (P q5 (x1.toNatClampNeg)) (fun q7 => Option.bind (fn_X6_shiftLayer_L17 K N a0 x2 FU x1 P) (fun (r10 : (Nat → Nat → Option Nat)) => Option.bind (fn_X6_shiftLayer_L48 K N a0 x2 FU x1 r10) (fun (r20 : (Nat → Nat → Option Nat)) => Option.bind (r20 a0 (0)) (fun q28 => gd (K q28 = 15 ∧ vp_in x2 (N q28)) (gd (K q7 = 5) (Option.bind (some (upP r20 q28 (x2.toNatClampNeg) (some q7))) (fun P31 => some (r3, P31))))))))))))))
abbrev wz_X6_shiftLayer : List Cond := Cond.code yX6_shiftLayer cX6_shiftLayer 5 none :: WA
abbrev rm_X6_shiftLayer : Room := { frames := 2, cells := 0, slots := 0, locals := 32 }
set_option maxHeartbeats 4000000 in
set_option maxRecDepth 100000 in
theorem c_X6_shiftLayer (I : Nat → Nat → Int32) (P : Nat → Nat → Option Nat) (a0 : Nat) (x1 : Int32) (x2 : Int32) (res : (Nat → Nat → Int32) × (Nat → Nat → Option Nat)) (hf : fn_X6_shiftLayer K N I P a0 x1 x2 = some res) : Met l yX6_shiftLayer wz_X6_shiftLayer rm_X6_shiftLayer (va_Pc [.ref a0, .int x1, .int x2] (mm_B D cs A L K N z w I P)) (va_Qv (fun (_ : Unit) => True) (fun _ => mm_B D cs A L K N z w res.1 res.2) A) 0 0 A := by
  refine Met.ofW (cc := cX6_shiftLayer) (maxL := 5) (ret := none) (by decide) rfl ?_
  intro p e s m args below meth c s₁ B hml hv
  obtain ⟨rfl, hBm⟩ := hv
  have hx := B.exec
  have hb := B.bytes
  have hr := B.returns
  have hts := atoms_spec (ws := wz_X6_shiftLayer) B.pre
  have hWA : ∀ w ∈ WA, w.before ([.ref a0, .int x1, .int x2] : List Value).toArray s = true := fun u9 h9 => hts u9 (List.mem_cons_of_mem _ h9)
  have hown : s.vm.findClass RX6 = some m.cls := findClass_of_methodNamed B.named
  have hlocks := B.notSynchronized
  have S : CallFix p m c cX6_shiftLayer 5 s ([.ref a0, .int x1, .int x2] : List Value).toArray wz_X6_shiftLayer RX6 := ⟨hx, hb, hml, hown, hts⟩
  have hK := hBm.2.2.2.1
  have hZ := hBm.2.2.2.2
  have hM : mm_W D cs A L K N s.heap I P s.heap [] := ⟨hBm.1, hBm.2.1, hBm.2.2.1, va_S.rf⟩
  have hl := lv_entry ([.ref a0, .int x1, .int x2]) (n := 5) (Nat.le_of_ble_eq_true rfl)
  rw [lg_entry_eq]
  generalize (lg_sl ([.ref a0, .int x1, .int x2]) ++ List.replicate (5 - (lg_sl ([.ref a0, .int x1, .int x2])).length) Slot.unset).toArray = ls at hl ⊢
  have hl : lv_has ls 5 [(0, .ref a0), (1, .int x1), (2, .int x2)] := hl
  have hin6 : ∀ w ∈ wsX60, w ∈ wz_X6_shiftLayer := fun w h => List.mem_cons_of_mem _ (wu_X6 w h)
  have lk38 : (Cond.fieldLink RX6 38 RX6 "acts" "LRasterPainter$Acts;").before ([.ref a0, .int x1, .int x2] : List Value).toArray s = true := hWA _ wa_1_161
  have lk11 : (Cond.fieldLink RX6 11 RX6 "layers" "[LRasterPainter$Layer;").before ([.ref a0, .int x1, .int x2] : List Value).toArray s = true := hWA _ wa_1_151
  generalize hQ : MQ below (va_Qv (fun (_ : Unit) => True) (fun _ => mm_B D cs A L K N z w res.1 res.2) A) ([.ref a0, .int x1, .int x2] : List Value).toArray s 0 0 A = QQ
  rw [fn_X6_shiftLayer] at hf
  refine lv_aload_n hx hb dX6_shiftLayer_0 rfl (lv_at hl 0 rfl) ?_
  refine gd_e hf (fun hg1 hf => ?_)
  refine bd_e hf (fun q2 eq2 hf => ?_)
  refine ev_getP (v := q2) S hK hM (ci := 6) (n := 6) (C := RX6) (T := TX6) hin6 rfl hg1 5 (by decide) lk38 rfl rfl eq2 rfl dX6_shiftLayer_1 ?_
  refine bd_e hf (fun r3 er3 hf => ?_)
  refine gd_e hf (fun hg4 hf => ?_)
  refine ev_callv (va_runV (As := []) (rest := []) S (c_X1_forget (l := l) I P q2 r3 er3) (cwV 0 hts (gi_v wa_2_57 wa_2_58 wa_2_59 wa_1_5 wa_2_60) rfl rfl rfl (by decide +kernel) ⟨Nat.le_of_ble_eq_true rfl, Nat.le_of_ble_eq_true rfl⟩) ⟨mm_B_blind, ev_recv hK hM (ci := 1) rfl hg4 rfl, fun U hU hW => ⟨rfl, mm_B_of hK hZ hM hU hW⟩⟩ rfl rfl hl.1 rfl (lv_room (Nat.le_of_ble_eq_true rfl)) dX6_shiftLayer_4 ⟨Nat.zero_le _, Nat.zero_le _⟩) hM (fun H locs hM => ?_)
  refine lv_aload_n hx hb dX6_shiftLayer_7 rfl (lv_at hl 0 rfl) ?_
  refine bd_e hf (fun q5 eq5 hf => ?_)
  refine ev_getP (v := q5) S hK hM (ci := 6) (n := 6) (C := RX6) (T := TX6) hin6 rfl hg1 0 (by decide) lk11 rfl rfl eq5 rfl dX6_shiftLayer_8 ?_
  refine lv_iload_n hx hb dX6_shiftLayer_11 rfl (lv_at hl 1 rfl) ?_
  refine gd_e hf (fun hg6 hf => ?_)
  refine bd_e hf (fun q7 eq7 hf => ?_)
  refine ev_aald15 S hK hM hg6 (j := x1.toNatClampNeg) rfl eq7 dX6_shiftLayer_12 ?_
  refine lv_astore_n (lv' := [(3, .ref q7), (0, .ref a0), (1, .int x1), (2, .int x2)]) hx hb dX6_shiftLayer_13 rfl hl (by decide) rfl (fun ls hl => ?_)
  refine lv_iload_n hx hb dX6_shiftLayer_14 rfl (lv_at hl 2 rfl) ?_
  refine lv_istore (lv' := [(4, .int x1), (3, .ref q7), (0, .ref a0), (1, .int x1), (2, .int x2)]) hx hb dX6_shiftLayer_15 hl (by decide) rfl (fun ls hl => ?_)
  have lp17_17 : ∀ (n : Nat) (v8 : Int32) (P9 : Nat → Nat → Option Nat) (H : Heap) (locs : List Loc) (ls : Array Slot) (r10 : (Nat → Nat → Option Nat)), mm_W D cs A L K N s.heap r3 P9 H locs → lv_has ls 5 [(0, .ref a0), (1, .int x1), (2, .int x2), (3, .ref q7), (4, .int v8)] → fn_X6_shiftLayer_L17 K N a0 x2 n v8 P9 = some r10 → (∀ (H : Heap) (locs : List Loc) (ls : Array Slot), mm_W D cs A L K N s.heap r3 r10 H locs → lv_has ls 5 [(0, .ref a0), (1, .int x1), (2, .int x2), (3, .ref q7)] → W p l e (headSpec wz_X6_shiftLayer rm_X6_shiftLayer).room s m ([.ref a0, .int x1, .int x2] : List Value).toArray below meth c H locs 0 0 QQ (F0 m 45 ls [])) → W p l e (headSpec wz_X6_shiftLayer rm_X6_shiftLayer).room s m ([.ref a0, .int x1, .int x2] : List Value).toArray below meth c H locs 0 0 QQ (F0 m 17 ls []) := by
    intro n
    induction n with
    | zero => intro v8 P9 H locs ls r10 hM hl hf kk; exact nn_x (show (none : Option ((Nat → Nat → Option Nat))) = some r10 from hf)
    | succ n ih =>
      intro v8 P9 H locs ls r10 hM hl hf kk
      rw [fn_X6_shiftLayer_L17] at hf
      refine lv_iload hx hb dX6_shiftLayer_17 (lv_at hl 4 rfl) ?_
      refine lv_iload_n hx hb dX6_shiftLayer_19 rfl (lv_at hl 2 rfl) ?_
      refine lv_icmp_ge (tgt := 45) hx hb dX6_shiftLayer_20 (by decide) (fun hc11 => ?_) (fun hc11 => ?_)
      · have hf := it_p hf hc11
        obtain rfl := Option.some.inj hf
        exact kk _ _ _ hM (lv_sub hl [0, 1, 2, 3] rfl)
      · have hf := it_n hf hc11
        refine lv_aload_n hx hb dX6_shiftLayer_23 rfl (lv_at hl 0 rfl) ?_
        refine bd_e hf (fun q12 eq12 hf => ?_)
        refine ev_getP (v := q12) S hK hM (ci := 6) (n := 6) (C := RX6) (T := TX6) hin6 rfl hg1 0 (by decide) lk11 rfl rfl eq12 rfl dX6_shiftLayer_24 ?_
        refine lv_iload hx hb dX6_shiftLayer_27 (lv_at hl 4 rfl) ?_
        refine lv_aload_n hx hb dX6_shiftLayer_29 rfl (lv_at hl 0 rfl) ?_
        refine ev_getP (v := q12) S hK hM (ci := 6) (n := 6) (C := RX6) (T := TX6) hin6 rfl hg1 0 (by decide) lk11 rfl rfl eq12 rfl dX6_shiftLayer_30 ?_
        refine lv_iload hx hb dX6_shiftLayer_33 (lv_at hl 4 rfl) ?_
        refine lv_iconst (v := (1 : Int32)) hx hb dX6_shiftLayer_35 (by decide) ?_
        refine lv_iadd hx hb dX6_shiftLayer_36 ?_
        refine gd_e hf (fun hg13 hf => ?_)
        refine bd_e hf (fun q14 eq14 hf => ?_)
        refine ev_aald15 S hK hM hg13 (j := ((v8 + (1 : Int32))).toNatClampNeg) rfl eq14 dX6_shiftLayer_37 ?_
        refine gd_e hf (fun hg15 hf => ?_)
        refine gd_e hf (fun hg16 hf => ?_)
        refine ev_aast15 S hK hM hg15 (j := v8.toNatClampNeg) rfl hg16 dX6_shiftLayer_38 (fun P17 eP17 H locs hM => ?_)
        have hf := nm_x eP17 hf
        refine lv_iinc (v := (v8 + (1 : Int32))) (lv' := [(4, .int (v8 + (1 : Int32))), (0, .ref a0), (1, .int x1), (2, .int x2), (3, .ref q7)]) hx hb dX6_shiftLayer_39 hl (k := 4) rfl rfl (by decide) rfl (fun ls hl => ?_)
        refine lv_goto (tgt := 17) hx hb dX6_shiftLayer_42 (by decide) ?_
        exact ih (v8 + (1 : Int32)) P17 _ _ _ _ hM (lv_sub hl [1, 2, 3, 4, 0] rfl) hf kk
  refine bd_e hf (fun r10 er10 hf => ?_)
  refine lp17_17 FU x1 P _ _ _ r10 hM (lv_sub hl [2, 3, 4, 1, 0] rfl) er10 (fun H locs ls hM hl => ?_)
  refine lv_iload_n hx hb dX6_shiftLayer_45 rfl (lv_at hl 1 rfl) ?_
  refine lv_istore (lv' := [(4, .int x1), (0, .ref a0), (1, .int x1), (2, .int x2), (3, .ref q7)]) hx hb dX6_shiftLayer_46 hl (by decide) rfl (fun ls hl => ?_)
  have lp48_27 : ∀ (n : Nat) (v18 : Int32) (P19 : Nat → Nat → Option Nat) (H : Heap) (locs : List Loc) (ls : Array Slot) (r20 : (Nat → Nat → Option Nat)), mm_W D cs A L K N s.heap r3 P19 H locs → lv_has ls 5 [(0, .ref a0), (2, .int x2), (3, .ref q7), (4, .int v18)] → fn_X6_shiftLayer_L48 K N a0 x2 n v18 P19 = some r20 → (∀ (H : Heap) (locs : List Loc) (ls : Array Slot), mm_W D cs A L K N s.heap r3 r20 H locs → lv_has ls 5 [(0, .ref a0), (2, .int x2), (3, .ref q7)] → W p l e (headSpec wz_X6_shiftLayer rm_X6_shiftLayer).room s m ([.ref a0, .int x1, .int x2] : List Value).toArray below meth c H locs 0 0 QQ (F0 m 76 ls [])) → W p l e (headSpec wz_X6_shiftLayer rm_X6_shiftLayer).room s m ([.ref a0, .int x1, .int x2] : List Value).toArray below meth c H locs 0 0 QQ (F0 m 48 ls []) := by
    intro n
    induction n with
    | zero => intro v18 P19 H locs ls r20 hM hl hf kk; exact nn_x (show (none : Option ((Nat → Nat → Option Nat))) = some r20 from hf)
    | succ n ih =>
      intro v18 P19 H locs ls r20 hM hl hf kk
      rw [fn_X6_shiftLayer_L48] at hf
      refine lv_iload hx hb dX6_shiftLayer_48 (lv_at hl 3 rfl) ?_
      refine lv_iload_n hx hb dX6_shiftLayer_50 rfl (lv_at hl 1 rfl) ?_
      refine lv_icmp_le (tgt := 76) hx hb dX6_shiftLayer_51 (by decide) (fun hc21 => ?_) (fun hc21 => ?_)
      · have hf := it_p hf hc21
        obtain rfl := Option.some.inj hf
        exact kk _ _ _ hM (lv_sub hl [0, 1, 2] rfl)
      · have hf := it_n hf hc21
        refine lv_aload_n hx hb dX6_shiftLayer_54 rfl (lv_at hl 0 rfl) ?_
        refine bd_e hf (fun q22 eq22 hf => ?_)
        refine ev_getP (v := q22) S hK hM (ci := 6) (n := 6) (C := RX6) (T := TX6) hin6 rfl hg1 0 (by decide) lk11 rfl rfl eq22 rfl dX6_shiftLayer_55 ?_
        refine lv_iload hx hb dX6_shiftLayer_58 (lv_at hl 3 rfl) ?_
        refine lv_aload_n hx hb dX6_shiftLayer_60 rfl (lv_at hl 0 rfl) ?_
        refine ev_getP (v := q22) S hK hM (ci := 6) (n := 6) (C := RX6) (T := TX6) hin6 rfl hg1 0 (by decide) lk11 rfl rfl eq22 rfl dX6_shiftLayer_61 ?_
        refine lv_iload hx hb dX6_shiftLayer_64 (lv_at hl 3 rfl) ?_
        refine lv_iconst (v := (1 : Int32)) hx hb dX6_shiftLayer_66 (by decide) ?_
        refine lv_isub hx hb dX6_shiftLayer_67 ?_
        refine gd_e hf (fun hg23 hf => ?_)
        refine bd_e hf (fun q24 eq24 hf => ?_)
        refine ev_aald15 S hK hM hg23 (j := ((v18 - (1 : Int32))).toNatClampNeg) rfl eq24 dX6_shiftLayer_68 ?_
        refine gd_e hf (fun hg25 hf => ?_)
        refine gd_e hf (fun hg26 hf => ?_)
        refine ev_aast15 S hK hM hg25 (j := v18.toNatClampNeg) rfl hg26 dX6_shiftLayer_69 (fun P27 eP27 H locs hM => ?_)
        have hf := nm_x eP27 hf
        refine lv_iinc (v := (v18 + (-1 : Int32))) (lv' := [(4, .int (v18 + (-1 : Int32))), (0, .ref a0), (2, .int x2), (3, .ref q7)]) hx hb dX6_shiftLayer_70 hl (k := 3) rfl rfl (by decide) rfl (fun ls hl => ?_)
        refine lv_goto (tgt := 48) hx hb dX6_shiftLayer_73 (by decide) ?_
        exact ih (v18 + (-1 : Int32)) P27 _ _ _ _ hM (lv_sub hl [1, 2, 3, 0] rfl) hf kk
  refine bd_e hf (fun r20 er20 hf => ?_)
  refine lp48_27 FU x1 r10 _ _ _ r20 hM (lv_sub hl [1, 3, 4, 0] rfl) er20 (fun H locs ls hM hl => ?_)
  refine lv_aload_n hx hb dX6_shiftLayer_76 rfl (lv_at hl 0 rfl) ?_
  refine bd_e hf (fun q28 eq28 hf => ?_)
  refine ev_getP (v := q28) S hK hM (ci := 6) (n := 6) (C := RX6) (T := TX6) hin6 rfl hg1 0 (by decide) lk11 rfl rfl eq28 rfl dX6_shiftLayer_77 ?_
  refine lv_iload_n hx hb dX6_shiftLayer_80 rfl (lv_at hl 1 rfl) ?_
  refine lv_aload_n hx hb dX6_shiftLayer_81 rfl (lv_at hl 2 rfl) ?_
  refine gd_e hf (fun hg29 hf => ?_)
  refine gd_e hf (fun hg30 hf => ?_)
  refine ev_aast15 S hK hM hg29 (j := x2.toNatClampNeg) rfl hg30 dX6_shiftLayer_82 (fun P31 eP31 H locs hM => ?_)
  have hf := nm_x eP31 hf
  obtain rfl := Option.some.inj hf
  subst hQ
  exact ev_vret S hr hlocks hK hZ hM dX6_shiftLayer_83
noncomputable def fn_X6_removeLayer (K N : Nat → Nat) (I : Nat → Nat → Int32) (P : Nat → Nat → Option Nat) (a0 : Nat) (x1 : Int32) : Option ((Nat → Nat → Int32) × (Nat → Nat → Option Nat)) := gd (K a0 = 7) (Option.bind (fn_X6_shiftLayer K N I P a0 x1 ((I a0 1) - (1 : Int32))) (fun (r2 : (Nat → Nat → Int32) × (Nat → Nat → Option Nat)) => Option.bind (some (up2 r2.1 a0 1 ((r2.1 a0 1) - (1 : Int32)))) (fun I3 => some (I3, r2.2))))
abbrev wz_X6_removeLayer : List Cond := Cond.code yX6_removeLayer cX6_removeLayer 2 none :: WA
abbrev rm_X6_removeLayer : Room := { frames := 3, cells := 0, slots := 0, locals := 56 }
set_option maxHeartbeats 4000000 in
set_option maxRecDepth 100000 in
theorem c_X6_removeLayer (I : Nat → Nat → Int32) (P : Nat → Nat → Option Nat) (a0 : Nat) (x1 : Int32) (res : (Nat → Nat → Int32) × (Nat → Nat → Option Nat)) (hf : fn_X6_removeLayer K N I P a0 x1 = some res) : Met l yX6_removeLayer wz_X6_removeLayer rm_X6_removeLayer (va_Pc [.ref a0, .int x1] (mm_B D cs A L K N z w I P)) (va_Qv (fun (_ : Unit) => True) (fun _ => mm_B D cs A L K N z w res.1 res.2) A) 0 0 A := by
  refine Met.ofW (cc := cX6_removeLayer) (maxL := 2) (ret := none) (by decide) rfl ?_
  intro p e s m args below meth c s₁ B hml hv
  obtain ⟨rfl, hBm⟩ := hv
  have hx := B.exec
  have hb := B.bytes
  have hr := B.returns
  have hts := atoms_spec (ws := wz_X6_removeLayer) B.pre
  have hWA : ∀ w ∈ WA, w.before ([.ref a0, .int x1] : List Value).toArray s = true := fun u9 h9 => hts u9 (List.mem_cons_of_mem _ h9)
  have hown : s.vm.findClass RX6 = some m.cls := findClass_of_methodNamed B.named
  have hlocks := B.notSynchronized
  have S : CallFix p m c cX6_removeLayer 2 s ([.ref a0, .int x1] : List Value).toArray wz_X6_removeLayer RX6 := ⟨hx, hb, hml, hown, hts⟩
  have hK := hBm.2.2.2.1
  have hZ := hBm.2.2.2.2
  have hM : mm_W D cs A L K N s.heap I P s.heap [] := ⟨hBm.1, hBm.2.1, hBm.2.2.1, va_S.rf⟩
  have hl := lv_entry ([.ref a0, .int x1]) (n := 2) (Nat.le_of_ble_eq_true rfl)
  rw [lg_entry_eq]
  generalize (lg_sl ([.ref a0, .int x1]) ++ List.replicate (2 - (lg_sl ([.ref a0, .int x1])).length) Slot.unset).toArray = ls at hl ⊢
  have hl : lv_has ls 2 [(0, .ref a0), (1, .int x1)] := hl
  have hin6 : ∀ w ∈ wsX60, w ∈ wz_X6_removeLayer := fun w h => List.mem_cons_of_mem _ (wu_X6 w h)
  have lk47 : (Cond.fieldLink RX6 47 RX6 "layerCount" "I").before ([.ref a0, .int x1] : List Value).toArray s = true := hWA _ wa_1_154
  generalize hQ : MQ below (va_Qv (fun (_ : Unit) => True) (fun _ => mm_B D cs A L K N z w res.1 res.2) A) ([.ref a0, .int x1] : List Value).toArray s 0 0 A = QQ
  rw [fn_X6_removeLayer] at hf
  refine lv_aload_n hx hb dX6_removeLayer_0 rfl (lv_at hl 0 rfl) ?_
  refine lv_iload_n hx hb dX6_removeLayer_1 rfl (lv_at hl 1 rfl) ?_
  refine lv_aload_n hx hb dX6_removeLayer_2 rfl (lv_at hl 0 rfl) ?_
  refine gd_e hf (fun hg1 hf => ?_)
  refine ev_get (v := .int (I a0 1)) S hK hM (ci := 6) (n := 6) (C := RX6) (T := TX6) hin6 rfl hg1 1 (by decide) lk47 rfl rfl rfl dX6_removeLayer_3 ?_
  refine lv_iconst (v := (1 : Int32)) hx hb dX6_removeLayer_6 (by decide) ?_
  refine lv_isub hx hb dX6_removeLayer_7 ?_
  refine bd_e hf (fun r2 er2 hf => ?_)
  refine ev_callv (va_runV (As := [.int x1, .int ((I a0 1) - (1 : Int32))]) (rest := []) S (c_X6_shiftLayer (l := l) I P a0 x1 ((I a0 1) - (1 : Int32)) r2 er2) (cwV 2 hts (gi_v wa_2_84 wa_2_85 wa_2_86 wa_1_2 wa_2_87) rfl rfl rfl (by decide +kernel) ⟨Nat.le_of_ble_eq_true rfl, Nat.le_of_ble_eq_true rfl⟩) ⟨mm_B_blind, ev_recv hK hM (ci := 6) rfl hg1 rfl, fun U hU hW => ⟨rfl, mm_B_of hK hZ hM hU hW⟩⟩ rfl rfl hl.1 rfl (lv_room (Nat.le_of_ble_eq_true rfl)) dX6_removeLayer_8 ⟨Nat.zero_le _, Nat.zero_le _⟩) hM (fun H locs hM => ?_)
  refine lv_aload_n hx hb dX6_removeLayer_11 rfl (lv_at hl 0 rfl) ?_
  refine lv_dup hx hb dX6_removeLayer_12 rfl ?_
  refine ev_get (v := .int (r2.1 a0 1)) S hK hM (ci := 6) (n := 6) (C := RX6) (T := TX6) hin6 rfl hg1 1 (by decide) lk47 rfl rfl rfl dX6_removeLayer_13 ?_
  refine lv_iconst (v := (1 : Int32)) hx hb dX6_removeLayer_16 (by decide) ?_
  refine lv_isub hx hb dX6_removeLayer_17 ?_
  refine ev_put S hK hM (ci := 6) (n := 6) (C := RX6) (T := TX6) hin6 tyX6 tyX6_ok nmX6 rfl hg1 1 (by decide) lk47 rfl rfl rfl rfl rfl (Nat.le_of_ble_eq_true rfl) rfl dX6_removeLayer_18 (fun I3 eI3 H locs hM => ?_)
  have hf := nm_x eI3 hf
  obtain rfl := Option.some.inj hf
  subst hQ
  exact ev_vret S hr hlocks hK hZ hM dX6_removeLayer_21
noncomputable def fn_X6_seenIf_L6 (K : Nat → Nat) (N : Nat → Nat) (a0 : Nat) (x1 : Int32) (x3 : Int32) (a4 : Nat) (I : Nat → Nat → Int32) (P : Nat → Nat → Option Nat) : Nat → Int32 → Int32 → Option (Int32)
  | 0, _, _ => none
  | n + 1, v1, v2 => gd (K a0 = 7) (if (I a0 1) ≤ v2 then (some v1) else (Option.bind (if v2 = x3 then (some a4) else (Option.bind (P a0 (0)) (fun q10 => gd (K q10 = 15 ∧ vp_in v2 (N q10)) (Option.bind (P q10 (v2.toNatClampNeg)) (fun q12 => some q12))))) (fun (j7 : Nat) => Option.bind (fn_X4_seenOver K N I P j7 v1 x1) (fun (r8 : Int32) => gd (K j7 = 5) (fn_X6_seenIf_L6 K N a0 x1 x3 a4 I P n r8 (v2 + (1 : Int32)))))))
noncomputable def fn_X6_seenIf (K N : Nat → Nat) (I : Nat → Nat → Int32) (P : Nat → Nat → Option Nat) (a0 : Nat) (x1 : Int32) (x2 : Int32) (x3 : Int32) (a4 : Nat) : Option (Int32) := Option.bind (fn_X6_seenIf_L6 K N a0 x1 x3 a4 I P FU x2 (0 : Int32)) (fun (r3 : Int32) => some r3)
abbrev wz_X6_seenIf : List Cond := Cond.code yX6_seenIf cX6_seenIf 8 (some .int) :: WA
abbrev rm_X6_seenIf : Room := { frames := 4, cells := 0, slots := 0, locals := 78 }
set_option maxHeartbeats 4000000 in
set_option maxRecDepth 100000 in
theorem c_X6_seenIf (I : Nat → Nat → Int32) (P : Nat → Nat → Option Nat) (a0 : Nat) (x1 : Int32) (x2 : Int32) (x3 : Int32) (a4 : Nat) (res : Int32) (hf : fn_X6_seenIf K N I P a0 x1 x2 x3 a4 = some res) : Met l yX6_seenIf wz_X6_seenIf rm_X6_seenIf (va_Pc [.ref a0, .int x1, .int x2, .int x3, .ref a4] (mm_B D cs A L K N z w I P)) (va_Qi (fun r (_ : Unit) => r = res) (fun _ => mm_B D cs A L K N z w I P) A) 0 0 A := by
  refine Met.ofW (cc := cX6_seenIf) (maxL := 8) (ret := (some .int)) (by decide) rfl ?_
  intro p e s m args below meth c s₁ B hml hv
  obtain ⟨rfl, hBm⟩ := hv
  have hx := B.exec
  have hb := B.bytes
  have hr := B.returns
  have hts := atoms_spec (ws := wz_X6_seenIf) B.pre
  have hWA : ∀ w ∈ WA, w.before ([.ref a0, .int x1, .int x2, .int x3, .ref a4] : List Value).toArray s = true := fun u9 h9 => hts u9 (List.mem_cons_of_mem _ h9)
  have hown : s.vm.findClass RX6 = some m.cls := findClass_of_methodNamed B.named
  have hlocks := B.notSynchronized
  have S : CallFix p m c cX6_seenIf 8 s ([.ref a0, .int x1, .int x2, .int x3, .ref a4] : List Value).toArray wz_X6_seenIf RX6 := ⟨hx, hb, hml, hown, hts⟩
  have hK := hBm.2.2.2.1
  have hZ := hBm.2.2.2.2
  have hM : mm_W D cs A L K N s.heap I P s.heap [] := ⟨hBm.1, hBm.2.1, hBm.2.2.1, va_S.rf⟩
  have hl := lv_entry ([.ref a0, .int x1, .int x2, .int x3, .ref a4]) (n := 8) (Nat.le_of_ble_eq_true rfl)
  rw [lg_entry_eq]
  generalize (lg_sl ([.ref a0, .int x1, .int x2, .int x3, .ref a4]) ++ List.replicate (8 - (lg_sl ([.ref a0, .int x1, .int x2, .int x3, .ref a4])).length) Slot.unset).toArray = ls at hl ⊢
  have hl : lv_has ls 8 [(0, .ref a0), (1, .int x1), (2, .int x2), (3, .int x3), (4, .ref a4)] := hl
  have hin6 : ∀ w ∈ wsX60, w ∈ wz_X6_seenIf := fun w h => List.mem_cons_of_mem _ (wu_X6 w h)
  have lk47 : (Cond.fieldLink RX6 47 RX6 "layerCount" "I").before ([.ref a0, .int x1, .int x2, .int x3, .ref a4] : List Value).toArray s = true := hWA _ wa_1_154
  have lk11 : (Cond.fieldLink RX6 11 RX6 "layers" "[LRasterPainter$Layer;").before ([.ref a0, .int x1, .int x2, .int x3, .ref a4] : List Value).toArray s = true := hWA _ wa_1_151
  generalize hQ : MQ below (va_Qi (fun r (_ : Unit) => r = res) (fun _ => mm_B D cs A L K N z w I P) A) ([.ref a0, .int x1, .int x2, .int x3, .ref a4] : List Value).toArray s 0 0 A = QQ
  rw [fn_X6_seenIf] at hf
  refine lv_iload_n hx hb dX6_seenIf_0 rfl (lv_at hl 2 rfl) ?_
  refine lv_istore (lv' := [(5, .int x2), (0, .ref a0), (1, .int x1), (2, .int x2), (3, .int x3), (4, .ref a4)]) hx hb dX6_seenIf_1 hl (by decide) rfl (fun ls hl => ?_)
  refine lv_iconst (v := (0 : Int32)) hx hb dX6_seenIf_3 (by decide) ?_
  refine lv_istore (lv' := [(6, .int (0 : Int32)), (5, .int x2), (0, .ref a0), (1, .int x1), (2, .int x2), (3, .int x3), (4, .ref a4)]) hx hb dX6_seenIf_4 hl (by decide) rfl (fun ls hl => ?_)
  have lp6_12 : ∀ (n : Nat) (v1 : Int32) (v2 : Int32) (H : Heap) (locs : List Loc) (ls : Array Slot) (r3 : Int32), mm_W D cs A L K N s.heap I P H locs → lv_has ls 8 [(0, .ref a0), (1, .int x1), (3, .int x3), (4, .ref a4), (5, .int v1), (6, .int v2)] → fn_X6_seenIf_L6 K N a0 x1 x3 a4 I P n v1 v2 = some r3 → (∀ (H : Heap) (locs : List Loc) (ls : Array Slot), mm_W D cs A L K N s.heap I P H locs → lv_has ls 8 [(5, .int r3)] → W p l e (headSpec wz_X6_seenIf rm_X6_seenIf).room s m ([.ref a0, .int x1, .int x2, .int x3, .ref a4] : List Value).toArray below meth c H locs 0 0 QQ (F0 m 51 ls [])) → W p l e (headSpec wz_X6_seenIf rm_X6_seenIf).room s m ([.ref a0, .int x1, .int x2, .int x3, .ref a4] : List Value).toArray below meth c H locs 0 0 QQ (F0 m 6 ls []) := by
    intro n
    induction n with
    | zero => intro v1 v2 H locs ls r3 hM hl hf kk; exact nn_x (show (none : Option (Int32)) = some r3 from hf)
    | succ n ih =>
      intro v1 v2 H locs ls r3 hM hl hf kk
      rw [fn_X6_seenIf_L6] at hf
      refine lv_iload hx hb dX6_seenIf_6 (lv_at hl 5 rfl) ?_
      refine lv_aload_n hx hb dX6_seenIf_8 rfl (lv_at hl 0 rfl) ?_
      refine gd_e hf (fun hg4 hf => ?_)
      refine ev_get (v := .int (I a0 1)) S hK hM (ci := 6) (n := 6) (C := RX6) (T := TX6) hin6 rfl hg4 1 (by decide) lk47 rfl rfl rfl dX6_seenIf_9 ?_
      refine lv_icmp_ge (tgt := 51) hx hb dX6_seenIf_12 (by decide) (fun hc5 => ?_) (fun hc5 => ?_)
      · have hf := it_p hf hc5
        obtain rfl := Option.some.inj hf
        exact kk _ _ _ hM (lv_sub hl [4] rfl)
      · have hf := it_n hf hc5
        refine lv_iload hx hb dX6_seenIf_15 (lv_at hl 5 rfl) ?_
        refine lv_iload_n hx hb dX6_seenIf_17 rfl (lv_at hl 2 rfl) ?_
        refine bd_e hf (fun j7 ej7 hf => ?_)
        have kj7 : ∀ (H : Heap) (locs : List Loc) (ls : Array Slot), mm_W D cs A L K N s.heap I P H locs → lv_has ls 8 [(0, .ref a0), (1, .int x1), (3, .int x3), (4, .ref a4), (5, .int v1), (6, .int v2)] → W p l e (headSpec wz_X6_seenIf rm_X6_seenIf).room s m ([.ref a0, .int x1, .int x2, .int x3, .ref a4] : List Value).toArray below meth c H locs 0 0 QQ (F0 m 33 ls [.ref j7]) := by
          intro H locs ls hM hl
          refine lv_astore (lv' := [(7, .ref j7), (0, .ref a0), (1, .int x1), (3, .int x3), (4, .ref a4), (5, .int v1), (6, .int v2)]) hx hb dX6_seenIf_33 hl (by decide) rfl (fun ls hl => ?_)
          refine lv_aload hx hb dX6_seenIf_35 (lv_at hl 0 rfl) ?_
          refine lv_iload hx hb dX6_seenIf_37 (lv_at hl 5 rfl) ?_
          refine lv_iload_n hx hb dX6_seenIf_39 rfl (lv_at hl 2 rfl) ?_
          refine bd_e hf (fun r8 er8 hf => ?_)
          refine gd_e hf (fun hg9 hf => ?_)
          refine ev_calli (va_runV (As := [.int v1, .int x1]) (rest := []) S (c_X4_seenOver (l := l) I P j7 v1 x1 r8 er8) (cwV 2 hts (gi_v wa_2_159 wa_2_160 wa_2_161 wa_1_7 wa_2_162) rfl rfl rfl (by decide +kernel) ⟨Nat.le_of_ble_eq_true rfl, Nat.le_of_ble_eq_true rfl⟩) ⟨mm_B_blind, ev_recv hK hM (ci := 4) rfl hg9 rfl, fun U hU hW => ⟨rfl, mm_B_of hK hZ hM hU hW⟩⟩ rfl rfl hl.1 rfl (lv_room (Nat.le_of_ble_eq_true rfl)) dX6_seenIf_40 ⟨Nat.zero_le _, Nat.zero_le _⟩) hM (fun H locs hM => ?_)
          refine lv_istore (lv' := [(5, .int r8), (7, .ref j7), (0, .ref a0), (1, .int x1), (3, .int x3), (4, .ref a4), (6, .int v2)]) hx hb dX6_seenIf_43 hl (by decide) rfl (fun ls hl => ?_)
          refine lv_iinc (v := (v2 + (1 : Int32))) (lv' := [(6, .int (v2 + (1 : Int32))), (5, .int r8), (7, .ref j7), (0, .ref a0), (1, .int x1), (3, .int x3), (4, .ref a4)]) hx hb dX6_seenIf_45 hl (k := 6) rfl rfl (by decide) rfl (fun ls hl => ?_)
          refine lv_goto (tgt := 6) hx hb dX6_seenIf_48 (by decide) ?_
          exact ih r8 (v2 + (1 : Int32)) _ _ _ _ hM (lv_sub hl [3, 4, 5, 6, 1, 0] rfl) hf kk
        have hf := ej7
        refine lv_icmp_ne (tgt := 26) hx hb dX6_seenIf_18 (by decide) (fun hc6 => ?_) (fun hc6 => ?_)
        · have hf := it_n hf hc6
          refine lv_aload_n hx hb dX6_seenIf_26 rfl (lv_at hl 0 rfl) ?_
          refine bd_e hf (fun q10 eq10 hf => ?_)
          refine ev_getP (v := q10) S hK hM (ci := 6) (n := 6) (C := RX6) (T := TX6) hin6 rfl hg4 0 (by decide) lk11 rfl rfl eq10 rfl dX6_seenIf_27 ?_
          refine lv_iload hx hb dX6_seenIf_30 (lv_at hl 5 rfl) ?_
          refine gd_e hf (fun hg11 hf => ?_)
          refine bd_e hf (fun q12 eq12 hf => ?_)
          refine ev_aald15 S hK hM hg11 (j := v2.toNatClampNeg) rfl eq12 dX6_seenIf_32 ?_
          obtain rfl := Option.some.inj hf
          exact kj7 _ _ _ hM (hl)
        · have hf := it_p hf hc6
          refine lv_aload hx hb dX6_seenIf_21 (lv_at hl 3 rfl) ?_
          refine lv_goto (tgt := 33) hx hb dX6_seenIf_23 (by decide) ?_
          obtain rfl := Option.some.inj hf
          exact kj7 _ _ _ hM (hl)
  refine bd_e hf (fun r3 er3 hf => ?_)
  refine lp6_12 FU x2 (0 : Int32) _ _ _ r3 hM (lv_sub hl [2, 3, 5, 6, 1, 0] rfl) er3 (fun H locs ls hM hl => ?_)
  refine lv_iload hx hb dX6_seenIf_51 (lv_at hl 0 rfl) ?_
  obtain rfl := Option.some.inj hf
  subst hQ
  exact ev_iret S hr hlocks hK hZ hM dX6_seenIf_53
noncomputable def fn_X6_apply (K N : Nat → Nat) (I : Nat → Nat → Int32) (P : Nat → Nat → Option Nat) (a0 : Nat) (a1 : Nat) (x2 : Int32) (x3 : Int32) : Option ((Nat → Nat → Int32)) := gd (K a0 = 7) (Option.bind (P a0 (4)) (fun q2 => gd (K q2 = 3) (if (I q2 2) = (-1 : Int32) then (Option.bind (fn_X4_wipe K N I P a1 x2 x3) (fun (r7 : (Nat → Nat → Int32)) => gd (K a1 = 5) (some r7))) else (Option.bind (fn_X4_paint K N I P a1 x2 (I q2 2) x3) (fun (r5 : (Nat → Nat → Int32)) => gd (K a1 = 5) (some r5))))))
abbrev wz_X6_apply : List Cond := Cond.code yX6_apply cX6_apply 4 none :: WA
abbrev rm_X6_apply : Room := { frames := 2, cells := 0, slots := 0, locals := 36 }
set_option maxHeartbeats 4000000 in
set_option maxRecDepth 100000 in
theorem c_X6_apply (I : Nat → Nat → Int32) (P : Nat → Nat → Option Nat) (a0 : Nat) (a1 : Nat) (x2 : Int32) (x3 : Int32) (res : (Nat → Nat → Int32)) (hf : fn_X6_apply K N I P a0 a1 x2 x3 = some res) : Met l yX6_apply wz_X6_apply rm_X6_apply (va_Pc [.ref a0, .ref a1, .int x2, .int x3] (mm_B D cs A L K N z w I P)) (va_Qv (fun (_ : Unit) => True) (fun _ => mm_B D cs A L K N z w res P) A) 0 0 A := by
  refine Met.ofW (cc := cX6_apply) (maxL := 4) (ret := none) (by decide) rfl ?_
  intro p e s m args below meth c s₁ B hml hv
  obtain ⟨rfl, hBm⟩ := hv
  have hx := B.exec
  have hb := B.bytes
  have hr := B.returns
  have hts := atoms_spec (ws := wz_X6_apply) B.pre
  have hWA : ∀ w ∈ WA, w.before ([.ref a0, .ref a1, .int x2, .int x3] : List Value).toArray s = true := fun u9 h9 => hts u9 (List.mem_cons_of_mem _ h9)
  have hown : s.vm.findClass RX6 = some m.cls := findClass_of_methodNamed B.named
  have hlocks := B.notSynchronized
  have S : CallFix p m c cX6_apply 4 s ([.ref a0, .ref a1, .int x2, .int x3] : List Value).toArray wz_X6_apply RX6 := ⟨hx, hb, hml, hown, hts⟩
  have hK := hBm.2.2.2.1
  have hZ := hBm.2.2.2.2
  have hM : mm_W D cs A L K N s.heap I P s.heap [] := ⟨hBm.1, hBm.2.1, hBm.2.2.1, va_S.rf⟩
  have hl := lv_entry ([.ref a0, .ref a1, .int x2, .int x3]) (n := 4) (Nat.le_of_ble_eq_true rfl)
  rw [lg_entry_eq]
  generalize (lg_sl ([.ref a0, .ref a1, .int x2, .int x3]) ++ List.replicate (4 - (lg_sl ([.ref a0, .ref a1, .int x2, .int x3])).length) Slot.unset).toArray = ls at hl ⊢
  have hl : lv_has ls 4 [(0, .ref a0), (1, .ref a1), (2, .int x2), (3, .int x3)] := hl
  have hin6 : ∀ w ∈ wsX60, w ∈ wz_X6_apply := fun w h => List.mem_cons_of_mem _ (wu_X6 w h)
  have hin2 : ∀ w ∈ wsX20, w ∈ wz_X6_apply := fun w h => List.mem_cons_of_mem _ (wu_X2 w h)
  have lk31 : (Cond.fieldLink RX6 31 RX6 "brush" "LRasterPainter$Brush;").before ([.ref a0, .ref a1, .int x2, .int x3] : List Value).toArray s = true := hWA _ wa_1_159
  have lk64 : (Cond.fieldLink RX6 64 RX2 "ink" "I").before ([.ref a0, .ref a1, .int x2, .int x3] : List Value).toArray s = true := hWA _ wa_1_66
  generalize hQ : MQ below (va_Qv (fun (_ : Unit) => True) (fun _ => mm_B D cs A L K N z w res P) A) ([.ref a0, .ref a1, .int x2, .int x3] : List Value).toArray s 0 0 A = QQ
  rw [fn_X6_apply] at hf
  refine lv_aload_n hx hb dX6_apply_0 rfl (lv_at hl 0 rfl) ?_
  refine gd_e hf (fun hg1 hf => ?_)
  refine bd_e hf (fun q2 eq2 hf => ?_)
  refine ev_getP (v := q2) S hK hM (ci := 6) (n := 6) (C := RX6) (T := TX6) hin6 rfl hg1 4 (by decide) lk31 rfl rfl eq2 rfl dX6_apply_1 ?_
  refine gd_e hf (fun hg3 hf => ?_)
  refine ev_get (v := .int (I q2 2)) S hK hM (ci := 2) (n := 4) (C := RX2) (T := TX2) hin2 rfl hg3 2 (by decide) lk64 rfl rfl rfl dX6_apply_4 ?_
  refine lv_iconst (v := (-1 : Int32)) hx hb dX6_apply_7 (by decide) ?_
  refine lv_icmp_ne (tgt := 20) hx hb dX6_apply_8 (by decide) (fun hc4 => ?_) (fun hc4 => ?_)
  · have hf := it_n hf hc4
    refine lv_aload_n hx hb dX6_apply_20 rfl (lv_at hl 1 rfl) ?_
    refine lv_iload_n hx hb dX6_apply_21 rfl (lv_at hl 2 rfl) ?_
    refine lv_aload_n hx hb dX6_apply_22 rfl (lv_at hl 0 rfl) ?_
    refine ev_getP (v := q2) S hK hM (ci := 6) (n := 6) (C := RX6) (T := TX6) hin6 rfl hg1 4 (by decide) lk31 rfl rfl eq2 rfl dX6_apply_23 ?_
    refine ev_get (v := .int (I q2 2)) S hK hM (ci := 2) (n := 4) (C := RX2) (T := TX2) hin2 rfl hg3 2 (by decide) lk64 rfl rfl rfl dX6_apply_26 ?_
    refine lv_iload_n hx hb dX6_apply_29 rfl (lv_at hl 3 rfl) ?_
    refine bd_e hf (fun r5 er5 hf => ?_)
    refine gd_e hf (fun hg6 hf => ?_)
    refine ev_callv (va_runV (As := [.int x2, .int (I q2 2), .int x3]) (rest := []) S (c_X4_paint (l := l) I P a1 x2 (I q2 2) x3 r5 er5) (cwV 3 hts (gi_v wa_3_96 wa_3_97 wa_3_98 wa_1_7 wa_3_99) rfl rfl rfl (by decide +kernel) ⟨Nat.le_of_ble_eq_true rfl, Nat.le_of_ble_eq_true rfl⟩) ⟨mm_B_blind, ev_recv hK hM (ci := 4) rfl hg6 rfl, fun U hU hW => ⟨rfl, mm_B_of hK hZ hM hU hW⟩⟩ rfl rfl hl.1 rfl (lv_room (Nat.le_of_ble_eq_true rfl)) dX6_apply_30 ⟨Nat.zero_le _, Nat.zero_le _⟩) hM (fun H locs hM => ?_)
    obtain rfl := Option.some.inj hf
    subst hQ
    exact ev_vret S hr hlocks hK hZ hM dX6_apply_33
  · have hf := it_p hf hc4
    refine lv_aload_n hx hb dX6_apply_11 rfl (lv_at hl 1 rfl) ?_
    refine lv_iload_n hx hb dX6_apply_12 rfl (lv_at hl 2 rfl) ?_
    refine lv_iload_n hx hb dX6_apply_13 rfl (lv_at hl 3 rfl) ?_
    refine bd_e hf (fun r7 er7 hf => ?_)
    refine gd_e hf (fun hg8 hf => ?_)
    refine ev_callv (va_runV (As := [.int x2, .int x3]) (rest := []) S (c_X4_wipe (l := l) I P a1 x2 x3 r7 er7) (cwV 2 hts (gi_v wa_3_92 wa_3_93 wa_3_94 wa_1_7 wa_3_95) rfl rfl rfl (by decide +kernel) ⟨Nat.le_of_ble_eq_true rfl, Nat.le_of_ble_eq_true rfl⟩) ⟨mm_B_blind, ev_recv hK hM (ci := 4) rfl hg8 rfl, fun U hU hW => ⟨rfl, mm_B_of hK hZ hM hU hW⟩⟩ rfl rfl hl.1 rfl (lv_room (Nat.le_of_ble_eq_true rfl)) dX6_apply_14 ⟨Nat.zero_le _, Nat.zero_le _⟩) hM (fun H locs hM => ?_)
    refine lv_goto (tgt := 33) hx hb dX6_apply_17 (by decide) ?_
    obtain rfl := Option.some.inj hf
    subst hQ
    exact ev_vret S hr hlocks hK hZ hM dX6_apply_33
noncomputable def fn_X6_stamp_L69 (K : Nat → Nat) (N : Nat → Nat) (a0 : Nat) (a1 : Nat) (x2 : Int32) (x3 : Int32) (P : Nat → Nat → Option Nat) (q2 : Nat) (v5 : Int32) (v7 : Int32) : Nat → Int32 → (Nat → Nat → Int32) → Option ((Nat → Nat → Int32))
  | 0, _, _ => none
  | n + 1, v12, I13 => if v5 < v12 then (some I13) else (Option.bind (P a0 (3)) (fun q16 => Option.bind (fn_X9_dotAt v12 v7) (fun (r17 : Int32) => Option.bind (fn_X5_isFree K N I13 P q16 r17) (fun (r18 : Int32) => gd (K q16 = 6) (if r18 = 0 then (fn_X6_stamp_L69 K N a0 a1 x2 x3 P q2 v5 v7 n (v12 + (1 : Int32)) I13) else (Option.bind (fn_X9_dotAt v12 v7) (fun (r21 : Int32) => Option.bind (fn_X2_coverAt K N I13 P q2 (v12 - x2) (v7 - x3)) (fun (r22 : Int32) => Option.bind (fn_X6_apply K N I13 P a0 a1 r21 r22) (fun (r23 : (Nat → Nat → Int32)) => fn_X6_stamp_L69 K N a0 a1 x2 x3 P q2 v5 v7 n (v12 + (1 : Int32)) r23)))))))))
noncomputable def fn_X6_stamp_L47 (K : Nat → Nat) (N : Nat → Nat) (a0 : Nat) (a1 : Nat) (x2 : Int32) (x3 : Int32) (P : Nat → Nat → Option Nat) (q2 : Nat) (v4 : Int32) (v5 : Int32) : Nat → Int32 → (Nat → Nat → Int32) → Option ((Nat → Nat → Int32))
  | 0, _, _ => none
  | n + 1, v7, I8 => if v4 < v7 then (some I8) else (Option.bind (some (if (x2 - (I8 q2 1)) < (0 : Int32) then (0 : Int32) else (x2 - (I8 q2 1)))) (fun v11 => Option.bind (fn_X6_stamp_L69 K N a0 a1 x2 x3 P q2 v5 v7 FU v11 I8) (fun (r14 : (Nat → Nat → Int32)) => fn_X6_stamp_L47 K N a0 a1 x2 x3 P q2 v4 v5 n (v7 + (1 : Int32)) r14)))
noncomputable def fn_X6_stamp (K N : Nat → Nat) (I : Nat → Nat → Int32) (P : Nat → Nat → Option Nat) (a0 : Nat) (a1 : Nat) (x2 : Int32) (x3 : Int32) : Option ((Nat → Nat → Int32)) := gd (K a0 = 7) (Option.bind (P a0 (4)) (fun q2 => gd (K q2 = 3) (Option.bind (some (if (11 : Int32) < (x3 + (I q2 1)) then (11 : Int32) else (x3 + (I q2 1)))) (fun v4 => Option.bind (some (if (15 : Int32) < (x2 + (I q2 1)) then (15 : Int32) else (x2 + (I q2 1)))) (fun v5 => Option.bind (some (if (x3 - (I q2 1)) < (0 : Int32) then (0 : Int32) else (x3 - (I q2 1)))) (fun v6 => Option.bind (fn_X6_stamp_L47 K N a0 a1 x2 x3 P q2 v4 v5 FU v6 I) (fun (r9 : (Nat → Nat → Int32)) => some r9)))))))
abbrev wz_X6_stamp : List Cond := Cond.code yX6_stamp cX6_stamp 8 none :: WA
abbrev rm_X6_stamp : Room := { frames := 4, cells := 0, slots := 0, locals := 80 }
set_option maxHeartbeats 4000000 in
set_option maxRecDepth 100000 in
theorem c_X6_stamp (I : Nat → Nat → Int32) (P : Nat → Nat → Option Nat) (a0 : Nat) (a1 : Nat) (x2 : Int32) (x3 : Int32) (res : (Nat → Nat → Int32)) (hf : fn_X6_stamp K N I P a0 a1 x2 x3 = some res) : Met l yX6_stamp wz_X6_stamp rm_X6_stamp (va_Pc [.ref a0, .ref a1, .int x2, .int x3] (mm_B D cs A L K N z w I P)) (va_Qv (fun (_ : Unit) => True) (fun _ => mm_B D cs A L K N z w res P) A) 0 0 A := by
  refine Met.ofW (cc := cX6_stamp) (maxL := 8) (ret := none) (by decide) rfl ?_
  intro p e s m args below meth c s₁ B hml hv
  obtain ⟨rfl, hBm⟩ := hv
  have hx := B.exec
  have hb := B.bytes
  have hr := B.returns
  have hts := atoms_spec (ws := wz_X6_stamp) B.pre
  have hWA : ∀ w ∈ WA, w.before ([.ref a0, .ref a1, .int x2, .int x3] : List Value).toArray s = true := fun u9 h9 => hts u9 (List.mem_cons_of_mem _ h9)
  have hown : s.vm.findClass RX6 = some m.cls := findClass_of_methodNamed B.named
  have hlocks := B.notSynchronized
  have S : CallFix p m c cX6_stamp 8 s ([.ref a0, .ref a1, .int x2, .int x3] : List Value).toArray wz_X6_stamp RX6 := ⟨hx, hb, hml, hown, hts⟩
  have hK := hBm.2.2.2.1
  have hZ := hBm.2.2.2.2
  have hM : mm_W D cs A L K N s.heap I P s.heap [] := ⟨hBm.1, hBm.2.1, hBm.2.2.1, va_S.rf⟩
  have hl := lv_entry ([.ref a0, .ref a1, .int x2, .int x3]) (n := 8) (Nat.le_of_ble_eq_true rfl)
  rw [lg_entry_eq]
  generalize (lg_sl ([.ref a0, .ref a1, .int x2, .int x3]) ++ List.replicate (8 - (lg_sl ([.ref a0, .ref a1, .int x2, .int x3])).length) Slot.unset).toArray = ls at hl ⊢
  have hl : lv_has ls 8 [(0, .ref a0), (1, .ref a1), (2, .int x2), (3, .int x3)] := hl
  have hin6 : ∀ w ∈ wsX60, w ∈ wz_X6_stamp := fun w h => List.mem_cons_of_mem _ (wu_X6 w h)
  have hin2 : ∀ w ∈ wsX20, w ∈ wz_X6_stamp := fun w h => List.mem_cons_of_mem _ (wu_X2 w h)
  have lk31 : (Cond.fieldLink RX6 31 RX6 "brush" "LRasterPainter$Brush;").before ([.ref a0, .ref a1, .int x2, .int x3] : List Value).toArray s = true := hWA _ wa_1_159
  have lk61 : (Cond.fieldLink RX6 61 RX2 "radius" "I").before ([.ref a0, .ref a1, .int x2, .int x3] : List Value).toArray s = true := hWA _ wa_1_63
  have lk24 : (Cond.fieldLink RX6 24 RX6 "mask" "LRasterPainter$Mask;").before ([.ref a0, .ref a1, .int x2, .int x3] : List Value).toArray s = true := hWA _ wa_1_157
  generalize hQ : MQ below (va_Qv (fun (_ : Unit) => True) (fun _ => mm_B D cs A L K N z w res P) A) ([.ref a0, .ref a1, .int x2, .int x3] : List Value).toArray s 0 0 A = QQ
  rw [fn_X6_stamp] at hf
  refine lv_iload_n hx hb dX6_stamp_0 rfl (lv_at hl 3 rfl) ?_
  refine lv_aload_n hx hb dX6_stamp_1 rfl (lv_at hl 0 rfl) ?_
  refine gd_e hf (fun hg1 hf => ?_)
  refine bd_e hf (fun q2 eq2 hf => ?_)
  refine ev_getP (v := q2) S hK hM (ci := 6) (n := 6) (C := RX6) (T := TX6) hin6 rfl hg1 4 (by decide) lk31 rfl rfl eq2 rfl dX6_stamp_2 ?_
  refine gd_e hf (fun hg3 hf => ?_)
  refine ev_get (v := .int (I q2 1)) S hK hM (ci := 2) (n := 4) (C := RX2) (T := TX2) hin2 rfl hg3 1 (by decide) lk61 rfl rfl rfl dX6_stamp_5 ?_
  refine lv_iadd hx hb dX6_stamp_8 ?_
  refine lv_bipush (v := (11 : Int32)) hx hb dX6_stamp_9 (by decide) ?_
  refine va_mmin hx hb (hml.trans hl.1.symm) hown (hWA _ wa_3_80) (hWA _ wa_2_133) (hWA _ wa_1_13) (hWA _ wa_2_134) (Nat.le_of_ble_eq_true rfl) (Nat.le_of_ble_eq_true rfl) (Nat.zero_le _) (Nat.zero_le _) dX6_stamp_11 ?_
  refine lv_topi (fun v4 ev4 => ?_)
  have hf := nm_x ev4 hf
  refine lv_istore (lv' := [(4, .int v4), (0, .ref a0), (1, .ref a1), (2, .int x2), (3, .int x3)]) hx hb dX6_stamp_14 hl (by decide) rfl (fun ls hl => ?_)
  refine lv_iload_n hx hb dX6_stamp_16 rfl (lv_at hl 3 rfl) ?_
  refine lv_aload_n hx hb dX6_stamp_17 rfl (lv_at hl 1 rfl) ?_
  refine ev_getP (v := q2) S hK hM (ci := 6) (n := 6) (C := RX6) (T := TX6) hin6 rfl hg1 4 (by decide) lk31 rfl rfl eq2 rfl dX6_stamp_18 ?_
  refine ev_get (v := .int (I q2 1)) S hK hM (ci := 2) (n := 4) (C := RX2) (T := TX2) hin2 rfl hg3 1 (by decide) lk61 rfl rfl rfl dX6_stamp_21 ?_
  refine lv_iadd hx hb dX6_stamp_24 ?_
  refine lv_bipush (v := (15 : Int32)) hx hb dX6_stamp_25 (by decide) ?_
  refine va_mmin hx hb (hml.trans hl.1.symm) hown (hWA _ wa_3_80) (hWA _ wa_2_133) (hWA _ wa_1_13) (hWA _ wa_2_134) (Nat.le_of_ble_eq_true rfl) (Nat.le_of_ble_eq_true rfl) (Nat.zero_le _) (Nat.zero_le _) dX6_stamp_27 ?_
  refine lv_topi (fun v5 ev5 => ?_)
  have hf := nm_x ev5 hf
  refine lv_istore (lv' := [(5, .int v5), (4, .int v4), (0, .ref a0), (1, .ref a1), (2, .int x2), (3, .int x3)]) hx hb dX6_stamp_30 hl (by decide) rfl (fun ls hl => ?_)
  refine lv_iload_n hx hb dX6_stamp_32 rfl (lv_at hl 5 rfl) ?_
  refine lv_aload_n hx hb dX6_stamp_33 rfl (lv_at hl 2 rfl) ?_
  refine ev_getP (v := q2) S hK hM (ci := 6) (n := 6) (C := RX6) (T := TX6) hin6 rfl hg1 4 (by decide) lk31 rfl rfl eq2 rfl dX6_stamp_34 ?_
  refine ev_get (v := .int (I q2 1)) S hK hM (ci := 2) (n := 4) (C := RX2) (T := TX2) hin2 rfl hg3 1 (by decide) lk61 rfl rfl rfl dX6_stamp_37 ?_
  refine lv_isub hx hb dX6_stamp_40 ?_
  refine lv_iconst (v := (0 : Int32)) hx hb dX6_stamp_41 (by decide) ?_
  refine va_mmax hx hb (hml.trans hl.1.symm) hown (hWA _ wa_3_81) (hWA _ wa_2_130) (hWA _ wa_1_13) (hWA _ wa_2_131) (Nat.le_of_ble_eq_true rfl) (Nat.le_of_ble_eq_true rfl) (Nat.zero_le _) (Nat.zero_le _) dX6_stamp_42 ?_
  refine lv_topi (fun v6 ev6 => ?_)
  have hf := nm_x ev6 hf
  refine lv_istore (lv' := [(6, .int v6), (5, .int v5), (4, .int v4), (0, .ref a0), (1, .ref a1), (2, .int x2), (3, .int x3)]) hx hb dX6_stamp_45 hl (by decide) rfl (fun ls hl => ?_)
  have lp47_23 : ∀ (n : Nat) (v7 : Int32) (I8 : Nat → Nat → Int32) (H : Heap) (locs : List Loc) (ls : Array Slot) (r9 : (Nat → Nat → Int32)), mm_W D cs A L K N s.heap I8 P H locs → lv_has ls 8 [(0, .ref a0), (1, .ref a1), (2, .int x2), (3, .int x3), (4, .int v4), (5, .int v5), (6, .int v7)] → fn_X6_stamp_L47 K N a0 a1 x2 x3 P q2 v4 v5 n v7 I8 = some r9 → (∀ (H : Heap) (locs : List Loc) (ls : Array Slot), mm_W D cs A L K N s.heap r9 P H locs → lv_has ls 8 [] → W p l e (headSpec wz_X6_stamp rm_X6_stamp).room s m ([.ref a0, .ref a1, .int x2, .int x3] : List Value).toArray below meth c H locs 0 0 QQ (F0 m 132 ls [])) → W p l e (headSpec wz_X6_stamp rm_X6_stamp).room s m ([.ref a0, .ref a1, .int x2, .int x3] : List Value).toArray below meth c H locs 0 0 QQ (F0 m 47 ls []) := by
    intro n
    induction n with
    | zero => intro v7 I8 H locs ls r9 hM hl hf kk; exact nn_x (show (none : Option ((Nat → Nat → Int32))) = some r9 from hf)
    | succ n ih =>
      intro v7 I8 H locs ls r9 hM hl hf kk
      rw [fn_X6_stamp_L47] at hf
      refine lv_iload hx hb dX6_stamp_47 (lv_at hl 6 rfl) ?_
      refine lv_iload hx hb dX6_stamp_49 (lv_at hl 4 rfl) ?_
      refine lv_icmp_gt (tgt := 132) hx hb dX6_stamp_51 (by decide) (fun hc10 => ?_) (fun hc10 => ?_)
      · have hf := it_p hf hc10
        obtain rfl := Option.some.inj hf
        exact kk _ _ _ hM (lv_sub hl [] rfl)
      · have hf := it_n hf hc10
        refine lv_iload_n hx hb dX6_stamp_54 rfl (lv_at hl 2 rfl) ?_
        refine lv_aload_n hx hb dX6_stamp_55 rfl (lv_at hl 0 rfl) ?_
        refine ev_getP (v := q2) S hK hM (ci := 6) (n := 6) (C := RX6) (T := TX6) hin6 rfl hg1 4 (by decide) lk31 rfl rfl eq2 rfl dX6_stamp_56 ?_
        refine ev_get (v := .int (I8 q2 1)) S hK hM (ci := 2) (n := 4) (C := RX2) (T := TX2) hin2 rfl hg3 1 (by decide) lk61 rfl rfl rfl dX6_stamp_59 ?_
        refine lv_isub hx hb dX6_stamp_62 ?_
        refine lv_iconst (v := (0 : Int32)) hx hb dX6_stamp_63 (by decide) ?_
        refine va_mmax hx hb (hml.trans hl.1.symm) hown (hWA _ wa_3_81) (hWA _ wa_2_130) (hWA _ wa_1_13) (hWA _ wa_2_131) (Nat.le_of_ble_eq_true rfl) (Nat.le_of_ble_eq_true rfl) (Nat.zero_le _) (Nat.zero_le _) dX6_stamp_64 ?_
        refine lv_topi (fun v11 ev11 => ?_)
        have hf := nm_x ev11 hf
        refine lv_istore (lv' := [(7, .int v11), (0, .ref a0), (1, .ref a1), (2, .int x2), (3, .int x3), (4, .int v4), (5, .int v5), (6, .int v7)]) hx hb dX6_stamp_67 hl (by decide) rfl (fun ls hl => ?_)
        have lp69_23 : ∀ (n : Nat) (v12 : Int32) (I13 : Nat → Nat → Int32) (H : Heap) (locs : List Loc) (ls : Array Slot) (r14 : (Nat → Nat → Int32)), mm_W D cs A L K N s.heap I13 P H locs → lv_has ls 8 [(0, .ref a0), (1, .ref a1), (2, .int x2), (3, .int x3), (4, .int v4), (5, .int v5), (6, .int v7), (7, .int v12)] → fn_X6_stamp_L69 K N a0 a1 x2 x3 P q2 v5 v7 n v12 I13 = some r14 → (∀ (H : Heap) (locs : List Loc) (ls : Array Slot), mm_W D cs A L K N s.heap r14 P H locs → lv_has ls 8 [(0, .ref a0), (1, .ref a1), (2, .int x2), (3, .int x3), (4, .int v4), (5, .int v5), (6, .int v7)] → W p l e (headSpec wz_X6_stamp rm_X6_stamp).room s m ([.ref a0, .ref a1, .int x2, .int x3] : List Value).toArray below meth c H locs 0 0 QQ (F0 m 126 ls [])) → W p l e (headSpec wz_X6_stamp rm_X6_stamp).room s m ([.ref a0, .ref a1, .int x2, .int x3] : List Value).toArray below meth c H locs 0 0 QQ (F0 m 69 ls []) := by
          intro n
          induction n with
          | zero => intro v12 I13 H locs ls r14 hM hl hf kk; exact nn_x (show (none : Option ((Nat → Nat → Int32))) = some r14 from hf)
          | succ n ih =>
            intro v12 I13 H locs ls r14 hM hl hf kk
            rw [fn_X6_stamp_L69] at hf
            refine lv_iload hx hb dX6_stamp_69 (lv_at hl 7 rfl) ?_
            refine lv_iload hx hb dX6_stamp_71 (lv_at hl 5 rfl) ?_
            refine lv_icmp_gt (tgt := 126) hx hb dX6_stamp_73 (by decide) (fun hc15 => ?_) (fun hc15 => ?_)
            · have hf := it_p hf hc15
              obtain rfl := Option.some.inj hf
              exact kk _ _ _ hM (lv_sub hl [0, 1, 2, 3, 4, 5, 6] rfl)
            · have hf := it_n hf hc15
              refine lv_aload_n hx hb dX6_stamp_76 rfl (lv_at hl 0 rfl) ?_
              refine bd_e hf (fun q16 eq16 hf => ?_)
              refine ev_getP (v := q16) S hK hM (ci := 6) (n := 6) (C := RX6) (T := TX6) hin6 rfl hg1 3 (by decide) lk24 rfl rfl eq16 rfl dX6_stamp_77 ?_
              refine lv_iload hx hb dX6_stamp_80 (lv_at hl 7 rfl) ?_
              refine lv_iload hx hb dX6_stamp_82 (lv_at hl 6 rfl) ?_
              refine bd_e hf (fun r17 er17 hf => ?_)
              refine ev_calli (va_runSN (As := [.int v12, .int v7]) (rest := [.ref q16]) S (c_X9_dotAt (l := l) I13 P v12 v7 r17 er17) ⟨va_cnB 2 hts (gi_n wa_2_150) rfl rfl rfl hZ.1.2.1 (hWA _ wa_1_1) (by decide +kernel) ⟨Nat.le_of_ble_eq_true rfl, Nat.le_of_ble_eq_true rfl⟩, hWA _ wa_2_149, trivial⟩ ⟨mm_B_blind, fun U hU hW => ⟨rfl, mm_B_of hK hZ hM hU hW⟩⟩ rfl rfl hl.1 rfl (lv_room (Nat.le_of_ble_eq_true rfl)) dX6_stamp_84 ⟨Nat.zero_le _, Nat.zero_le _⟩) hM (fun H locs hM => ?_)
              refine bd_e hf (fun r18 er18 hf => ?_)
              refine gd_e hf (fun hg19 hf => ?_)
              refine ev_calli (va_runV (As := [.int r17]) (rest := []) S (c_X5_isFree (l := l) I13 P q16 r17 r18 er18) (cwV 1 hts (gi_v wa_3_83 wa_3_84 wa_3_85 wa_1_3 wa_3_86) rfl rfl rfl (by decide +kernel) ⟨Nat.le_of_ble_eq_true rfl, Nat.le_of_ble_eq_true rfl⟩) ⟨mm_B_blind, ev_recv hK hM (ci := 5) rfl hg19 rfl, fun U hU hW => ⟨rfl, mm_B_of hK hZ hM hU hW⟩⟩ rfl rfl hl.1 rfl (lv_room (Nat.le_of_ble_eq_true rfl)) dX6_stamp_87 ⟨Nat.zero_le _, Nat.zero_le _⟩) hM (fun H locs hM => ?_)
              refine lv_if_eq (tgt := 120) hx hb dX6_stamp_90 (by decide) (fun hc20 => ?_) (fun hc20 => ?_)
              · have hf := it_p hf hc20
                refine lv_iinc (v := (v12 + (1 : Int32))) (lv' := [(7, .int (v12 + (1 : Int32))), (0, .ref a0), (1, .ref a1), (2, .int x2), (3, .int x3), (4, .int v4), (5, .int v5), (6, .int v7)]) hx hb dX6_stamp_120 hl (k := 7) rfl rfl (by decide) rfl (fun ls hl => ?_)
                refine lv_goto (tgt := 69) hx hb dX6_stamp_123 (by decide) ?_
                exact ih (v12 + (1 : Int32)) I13 _ _ _ _ hM (lv_sub hl [1, 2, 3, 4, 5, 6, 7, 0] rfl) hf kk
              · have hf := it_n hf hc20
                refine lv_aload_n hx hb dX6_stamp_93 rfl (lv_at hl 0 rfl) ?_
                refine lv_aload_n hx hb dX6_stamp_94 rfl (lv_at hl 1 rfl) ?_
                refine lv_iload hx hb dX6_stamp_95 (lv_at hl 7 rfl) ?_
                refine lv_iload hx hb dX6_stamp_97 (lv_at hl 6 rfl) ?_
                refine bd_e hf (fun r21 er21 hf => ?_)
                refine ev_calli (va_runSN (As := [.int v12, .int v7]) (rest := [.ref a1, .ref a0]) S (c_X9_dotAt (l := l) I13 P v12 v7 r21 er21) ⟨va_cnB 2 hts (gi_n wa_2_150) rfl rfl rfl hZ.1.2.1 (hWA _ wa_1_1) (by decide +kernel) ⟨Nat.le_of_ble_eq_true rfl, Nat.le_of_ble_eq_true rfl⟩, hWA _ wa_2_149, trivial⟩ ⟨mm_B_blind, fun U hU hW => ⟨rfl, mm_B_of hK hZ hM hU hW⟩⟩ rfl rfl hl.1 rfl (lv_room (Nat.le_of_ble_eq_true rfl)) dX6_stamp_99 ⟨Nat.zero_le _, Nat.zero_le _⟩) hM (fun H locs hM => ?_)
                refine lv_aload_n hx hb dX6_stamp_102 rfl (lv_at hl 0 rfl) ?_
                refine ev_getP (v := q2) S hK hM (ci := 6) (n := 6) (C := RX6) (T := TX6) hin6 rfl hg1 4 (by decide) lk31 rfl rfl eq2 rfl dX6_stamp_103 ?_
                refine lv_iload hx hb dX6_stamp_106 (lv_at hl 7 rfl) ?_
                refine lv_iload_n hx hb dX6_stamp_108 rfl (lv_at hl 2 rfl) ?_
                refine lv_isub hx hb dX6_stamp_109 ?_
                refine lv_iload hx hb dX6_stamp_110 (lv_at hl 6 rfl) ?_
                refine lv_iload_n hx hb dX6_stamp_112 rfl (lv_at hl 3 rfl) ?_
                refine lv_isub hx hb dX6_stamp_113 ?_
                refine bd_e hf (fun r22 er22 hf => ?_)
                refine ev_calli (va_runV (As := [.int (v12 - x2), .int (v7 - x3)]) (rest := [.int r21, .ref a1, .ref a0]) S (c_X2_coverAt (l := l) I13 P q2 (v12 - x2) (v7 - x3) r22 er22) (cwV 2 hts (gi_v wa_3_87 wa_2_177 wa_2_178 wa_1_4 wa_2_179) rfl rfl rfl (by decide +kernel) ⟨Nat.le_of_ble_eq_true rfl, Nat.le_of_ble_eq_true rfl⟩) ⟨mm_B_blind, ev_recv hK hM (ci := 2) rfl hg3 rfl, fun U hU hW => ⟨rfl, mm_B_of hK hZ hM hU hW⟩⟩ rfl rfl hl.1 rfl (lv_room (Nat.le_of_ble_eq_true rfl)) dX6_stamp_114 ⟨Nat.zero_le _, Nat.zero_le _⟩) hM (fun H locs hM => ?_)
                refine bd_e hf (fun r23 er23 hf => ?_)
                refine ev_callv (va_runV (As := [.ref a1, .int r21, .int r22]) (rest := []) S (c_X6_apply (l := l) I13 P a0 a1 r21 r22 r23 er23) (cwV 3 hts (gi_v wa_3_88 wa_3_90 wa_s_12 wa_1_2 wa_3_91) rfl rfl rfl (by decide +kernel) ⟨Nat.le_of_ble_eq_true rfl, Nat.le_of_ble_eq_true rfl⟩) ⟨mm_B_blind, ev_recv hK hM (ci := 6) rfl hg1 rfl, fun U hU hW => ⟨rfl, mm_B_of hK hZ hM hU hW⟩⟩ rfl rfl hl.1 rfl (lv_room (Nat.le_of_ble_eq_true rfl)) dX6_stamp_117 ⟨Nat.zero_le _, Nat.zero_le _⟩) hM (fun H locs hM => ?_)
                refine lv_iinc (v := (v12 + (1 : Int32))) (lv' := [(7, .int (v12 + (1 : Int32))), (0, .ref a0), (1, .ref a1), (2, .int x2), (3, .int x3), (4, .int v4), (5, .int v5), (6, .int v7)]) hx hb dX6_stamp_120 hl (k := 7) rfl rfl (by decide) rfl (fun ls hl => ?_)
                refine lv_goto (tgt := 69) hx hb dX6_stamp_123 (by decide) ?_
                exact ih (v12 + (1 : Int32)) r23 _ _ _ _ hM (lv_sub hl [1, 2, 3, 4, 5, 6, 7, 0] rfl) hf kk
        refine bd_e hf (fun r14 er14 hf => ?_)
        refine lp69_23 FU v11 I8 _ _ _ r14 hM (lv_sub hl [1, 2, 3, 4, 5, 6, 7, 0] rfl) er14 (fun H locs ls hM hl => ?_)
        refine lv_iinc (v := (v7 + (1 : Int32))) (lv' := [(6, .int (v7 + (1 : Int32))), (0, .ref a0), (1, .ref a1), (2, .int x2), (3, .int x3), (4, .int v4), (5, .int v5)]) hx hb dX6_stamp_126 hl (k := 6) rfl rfl (by decide) rfl (fun ls hl => ?_)
        refine lv_goto (tgt := 47) hx hb dX6_stamp_129 (by decide) ?_
        exact ih (v7 + (1 : Int32)) r14 _ _ _ _ hM (lv_sub hl [1, 2, 3, 4, 5, 6, 0] rfl) hf kk
  refine bd_e hf (fun r9 er9 hf => ?_)
  refine lp47_23 FU v6 I _ _ _ r9 hM (lv_sub hl [3, 4, 5, 6, 2, 1, 0] rfl) er9 (fun H locs ls hM hl => ?_)
  obtain rfl := Option.some.inj hf
  subst hQ
  exact ev_vret S hr hlocks hK hZ hM dX6_stamp_132
noncomputable def fn_X6_between (x0 : Int32) (x1 : Int32) (x2 : Int32) (x3 : Int32) : Option (Int32) := if (1 : Int32) ≤ x3 then (Option.bind (fn_J9_floorDiv_7cf53 ((((2 : Int32) * x2) * (x1 - x0)) + x3) ((2 : Int32) * x3)) (fun (r2 : Int32) => some (x0 + r2))) else (some x0)
abbrev wz_X6_between : List Cond := Cond.code yX6_between cX6_between 4 (some .int) :: WA
abbrev rm_X6_between : Room := { frames := 2, cells := 0, slots := 0, locals := 34 }
set_option maxHeartbeats 4000000 in
set_option maxRecDepth 100000 in
theorem c_X6_between (I : Nat → Nat → Int32) (P : Nat → Nat → Option Nat) (x0 : Int32) (x1 : Int32) (x2 : Int32) (x3 : Int32) (res : Int32) (hf : fn_X6_between x0 x1 x2 x3 = some res) : Met l yX6_between wz_X6_between rm_X6_between (va_Pc [.int x0, .int x1, .int x2, .int x3] (mm_B D cs A L K N z w I P)) (va_Qi (fun r (_ : Unit) => r = res) (fun _ => mm_B D cs A L K N z w I P) A) 0 0 A := by
  refine Met.ofW (cc := cX6_between) (maxL := 4) (ret := (some .int)) (by decide) rfl ?_
  intro p e s m args below meth c s₁ B hml hv
  obtain ⟨rfl, hBm⟩ := hv
  have hx := B.exec
  have hb := B.bytes
  have hr := B.returns
  have hts := atoms_spec (ws := wz_X6_between) B.pre
  have hWA : ∀ w ∈ WA, w.before ([.int x0, .int x1, .int x2, .int x3] : List Value).toArray s = true := fun u9 h9 => hts u9 (List.mem_cons_of_mem _ h9)
  have hown : s.vm.findClass RX6 = some m.cls := findClass_of_methodNamed B.named
  have hlocks := B.notSynchronized
  have S : CallFix p m c cX6_between 4 s ([.int x0, .int x1, .int x2, .int x3] : List Value).toArray wz_X6_between RX6 := ⟨hx, hb, hml, hown, hts⟩
  have hK := hBm.2.2.2.1
  have hZ := hBm.2.2.2.2
  have hM : mm_W D cs A L K N s.heap I P s.heap [] := ⟨hBm.1, hBm.2.1, hBm.2.2.1, va_S.rf⟩
  have hl := lv_entry ([.int x0, .int x1, .int x2, .int x3]) (n := 4) (Nat.le_of_ble_eq_true rfl)
  rw [lg_entry_eq]
  generalize (lg_sl ([.int x0, .int x1, .int x2, .int x3]) ++ List.replicate (4 - (lg_sl ([.int x0, .int x1, .int x2, .int x3])).length) Slot.unset).toArray = ls at hl ⊢
  have hl : lv_has ls 4 [(0, .int x0), (1, .int x1), (2, .int x2), (3, .int x3)] := hl
  generalize hQ : MQ below (va_Qi (fun r (_ : Unit) => r = res) (fun _ => mm_B D cs A L K N z w I P) A) ([.int x0, .int x1, .int x2, .int x3] : List Value).toArray s 0 0 A = QQ
  unfold fn_X6_between at hf
  refine lv_iload_n hx hb dX6_between_0 rfl (lv_at hl 3 rfl) ?_
  refine lv_iconst (v := (1 : Int32)) hx hb dX6_between_1 (by decide) ?_
  refine lv_icmp_ge (tgt := 7) hx hb dX6_between_2 (by decide) (fun hc1 => ?_) (fun hc1 => ?_)
  · have hf := it_p hf hc1
    refine lv_iload_n hx hb dX6_between_7 rfl (lv_at hl 0 rfl) ?_
    refine lv_iconst (v := (2 : Int32)) hx hb dX6_between_8 (by decide) ?_
    refine lv_iload_n hx hb dX6_between_9 rfl (lv_at hl 2 rfl) ?_
    refine lv_imul hx hb dX6_between_10 ?_
    refine lv_iload_n hx hb dX6_between_11 rfl (lv_at hl 1 rfl) ?_
    refine lv_iload_n hx hb dX6_between_12 rfl (lv_at hl 0 rfl) ?_
    refine lv_isub hx hb dX6_between_13 ?_
    refine lv_imul hx hb dX6_between_14 ?_
    refine lv_iload_n hx hb dX6_between_15 rfl (lv_at hl 3 rfl) ?_
    refine lv_iadd hx hb dX6_between_16 ?_
    refine lv_iconst (v := (2 : Int32)) hx hb dX6_between_17 (by decide) ?_
    refine lv_iload_n hx hb dX6_between_18 rfl (lv_at hl 3 rfl) ?_
    refine lv_imul hx hb dX6_between_19 ?_
    refine bd_e hf (fun r2 er2 hf => ?_)
    refine ev_calli (va_runS (As := [.int ((((2 : Int32) * x2) * (x1 - x0)) + x3), .int ((2 : Int32) * x3)]) (rest := [.int x0]) S (c_J9_floorDiv_7cf53 (l := l) I P ((((2 : Int32) * x2) * (x1 - x0)) + x3) ((2 : Int32) * x3) r2 er2) (va_cwS 2 hts (gi_s wa_3_108 wa_3_109 wa_1_13 wa_3_110) rfl rfl rfl (by decide +kernel) ⟨Nat.le_of_ble_eq_true rfl, Nat.le_of_ble_eq_true rfl⟩) ⟨mm_B_blind, fun U hU hW => ⟨rfl, mm_B_of hK hZ hM hU hW⟩⟩ rfl rfl hl.1 rfl (lv_room (Nat.le_of_ble_eq_true rfl)) dX6_between_20 ⟨Nat.zero_le _, Nat.zero_le _⟩) hM (fun H locs hM => ?_)
    refine lv_iadd hx hb dX6_between_23 ?_
    obtain rfl := Option.some.inj hf
    subst hQ
    exact ev_iret S hr hlocks hK hZ hM dX6_between_24
  · have hf := it_n hf hc1
    refine lv_iload_n hx hb dX6_between_5 rfl (lv_at hl 0 rfl) ?_
    obtain rfl := Option.some.inj hf
    subst hQ
    exact ev_iret S hr hlocks hK hZ hM dX6_between_6
noncomputable def fn_X6_drawLine_L22 (K : Nat → Nat) (N : Nat → Nat) (a0 : Nat) (a1 : Nat) (x2 : Int32) (x3 : Int32) (x4 : Int32) (x5 : Int32) (P : Nat → Nat → Option Nat) (v1 : Int32) : Nat → Int32 → (Nat → Nat → Int32) → Option ((Nat → Nat → Int32))
  | 0, _, _ => none
  | n + 1, v2, I3 => if v1 < v2 then (some I3) else (Option.bind (fn_X6_between x2 x4 v2 v1) (fun (r6 : Int32) => Option.bind (fn_X6_between x3 x5 v2 v1) (fun (r7 : Int32) => Option.bind (fn_X6_stamp K N I3 P a0 a1 r6 r7) (fun (r8 : (Nat → Nat → Int32)) => gd (K a0 = 7) (fn_X6_drawLine_L22 K N a0 a1 x2 x3 x4 x5 P v1 n (v2 + (1 : Int32)) r8)))))
noncomputable def fn_X6_drawLine (K N : Nat → Nat) (I : Nat → Nat → Int32) (P : Nat → Nat → Option Nat) (a0 : Nat) (a1 : Nat) (x2 : Int32) (x3 : Int32) (x4 : Int32) (x5 : Int32) : Option (Int32 × (Nat → Nat → Int32)) := Option.bind (some (if (if 0 ≤ (x4 - x2) then (x4 - x2) else 0 - (x4 - x2)) < (if 0 ≤ (x5 - x3) then (x5 - x3) else 0 - (x5 - x3)) then (if 0 ≤ (x5 - x3) then (x5 - x3) else 0 - (x5 - x3)) else (if 0 ≤ (x4 - x2) then (x4 - x2) else 0 - (x4 - x2)))) (fun v1 => Option.bind (fn_X6_drawLine_L22 K N a0 a1 x2 x3 x4 x5 P v1 FU (1 : Int32) I) (fun (r4 : (Nat → Nat → Int32)) => some (v1, r4)))
abbrev wz_X6_drawLine : List Cond := Cond.code yX6_drawLine cX6_drawLine 8 (some .int) :: WA
abbrev rm_X6_drawLine : Room := { frames := 5, cells := 0, slots := 0, locals := 107 }
set_option maxHeartbeats 4000000 in
set_option maxRecDepth 100000 in
theorem c_X6_drawLine (I : Nat → Nat → Int32) (P : Nat → Nat → Option Nat) (a0 : Nat) (a1 : Nat) (x2 : Int32) (x3 : Int32) (x4 : Int32) (x5 : Int32) (res : Int32 × (Nat → Nat → Int32)) (hf : fn_X6_drawLine K N I P a0 a1 x2 x3 x4 x5 = some res) : Met l yX6_drawLine wz_X6_drawLine rm_X6_drawLine (va_Pc [.ref a0, .ref a1, .int x2, .int x3, .int x4, .int x5] (mm_B D cs A L K N z w I P)) (va_Qi (fun r (_ : Unit) => r = res.1) (fun _ => mm_B D cs A L K N z w res.2 P) A) 0 0 A := by
  refine Met.ofW (cc := cX6_drawLine) (maxL := 8) (ret := (some .int)) (by decide) rfl ?_
  intro p e s m args below meth c s₁ B hml hv
  obtain ⟨rfl, hBm⟩ := hv
  have hx := B.exec
  have hb := B.bytes
  have hr := B.returns
  have hts := atoms_spec (ws := wz_X6_drawLine) B.pre
  have hWA : ∀ w ∈ WA, w.before ([.ref a0, .ref a1, .int x2, .int x3, .int x4, .int x5] : List Value).toArray s = true := fun u9 h9 => hts u9 (List.mem_cons_of_mem _ h9)
  have hown : s.vm.findClass RX6 = some m.cls := findClass_of_methodNamed B.named
  have hlocks := B.notSynchronized
  have S : CallFix p m c cX6_drawLine 8 s ([.ref a0, .ref a1, .int x2, .int x3, .int x4, .int x5] : List Value).toArray wz_X6_drawLine RX6 := ⟨hx, hb, hml, hown, hts⟩
  have hK := hBm.2.2.2.1
  have hZ := hBm.2.2.2.2
  have hM : mm_W D cs A L K N s.heap I P s.heap [] := ⟨hBm.1, hBm.2.1, hBm.2.2.1, va_S.rf⟩
  have hl := lv_entry ([.ref a0, .ref a1, .int x2, .int x3, .int x4, .int x5]) (n := 8) (Nat.le_of_ble_eq_true rfl)
  rw [lg_entry_eq]
  generalize (lg_sl ([.ref a0, .ref a1, .int x2, .int x3, .int x4, .int x5]) ++ List.replicate (8 - (lg_sl ([.ref a0, .ref a1, .int x2, .int x3, .int x4, .int x5])).length) Slot.unset).toArray = ls at hl ⊢
  have hl : lv_has ls 8 [(0, .ref a0), (1, .ref a1), (2, .int x2), (3, .int x3), (4, .int x4), (5, .int x5)] := hl
  generalize hQ : MQ below (va_Qi (fun r (_ : Unit) => r = res.1) (fun _ => mm_B D cs A L K N z w res.2 P) A) ([.ref a0, .ref a1, .int x2, .int x3, .int x4, .int x5] : List Value).toArray s 0 0 A = QQ
  rw [fn_X6_drawLine] at hf
  refine lv_iload hx hb dX6_drawLine_0 (lv_at hl 4 rfl) ?_
  refine lv_iload_n hx hb dX6_drawLine_2 rfl (lv_at hl 2 rfl) ?_
  refine lv_isub hx hb dX6_drawLine_3 ?_
  refine va_mabs hx hb (hml.trans hl.1.symm) hown (hWA _ wa_3_104) (hWA _ wa_2_136) (hWA _ wa_1_13) (hWA _ wa_2_137) (Nat.le_of_ble_eq_true rfl) (Nat.le_of_ble_eq_true rfl) (Nat.zero_le _) (Nat.zero_le _) dX6_drawLine_4 ?_
  refine lv_iload hx hb dX6_drawLine_7 (lv_at hl 5 rfl) ?_
  refine lv_iload_n hx hb dX6_drawLine_9 rfl (lv_at hl 3 rfl) ?_
  refine lv_isub hx hb dX6_drawLine_10 ?_
  refine va_mabs hx hb (hml.trans hl.1.symm) hown (hWA _ wa_3_104) (hWA _ wa_2_136) (hWA _ wa_1_13) (hWA _ wa_2_137) (Nat.le_of_ble_eq_true rfl) (Nat.le_of_ble_eq_true rfl) (Nat.zero_le _) (Nat.zero_le _) dX6_drawLine_11 ?_
  refine va_mmax hx hb (hml.trans hl.1.symm) hown (hWA _ wa_3_81) (hWA _ wa_2_130) (hWA _ wa_1_13) (hWA _ wa_2_131) (Nat.le_of_ble_eq_true rfl) (Nat.le_of_ble_eq_true rfl) (Nat.zero_le _) (Nat.zero_le _) dX6_drawLine_14 ?_
  refine lv_topi (fun v1 ev1 => ?_)
  have hf := nm_x ev1 hf
  refine lv_istore (lv' := [(6, .int v1), (0, .ref a0), (1, .ref a1), (2, .int x2), (3, .int x3), (4, .int x4), (5, .int x5)]) hx hb dX6_drawLine_17 hl (by decide) rfl (fun ls hl => ?_)
  refine lv_iconst (v := (1 : Int32)) hx hb dX6_drawLine_19 (by decide) ?_
  refine lv_istore (lv' := [(7, .int (1 : Int32)), (6, .int v1), (0, .ref a0), (1, .ref a1), (2, .int x2), (3, .int x3), (4, .int x4), (5, .int x5)]) hx hb dX6_drawLine_20 hl (by decide) rfl (fun ls hl => ?_)
  have lp22_9 : ∀ (n : Nat) (v2 : Int32) (I3 : Nat → Nat → Int32) (H : Heap) (locs : List Loc) (ls : Array Slot) (r4 : (Nat → Nat → Int32)), mm_W D cs A L K N s.heap I3 P H locs → lv_has ls 8 [(0, .ref a0), (1, .ref a1), (2, .int x2), (3, .int x3), (4, .int x4), (5, .int x5), (6, .int v1), (7, .int v2)] → fn_X6_drawLine_L22 K N a0 a1 x2 x3 x4 x5 P v1 n v2 I3 = some r4 → (∀ (H : Heap) (locs : List Loc) (ls : Array Slot), mm_W D cs A L K N s.heap r4 P H locs → lv_has ls 8 [(6, .int v1)] → W p l e (headSpec wz_X6_drawLine rm_X6_drawLine).room s m ([.ref a0, .ref a1, .int x2, .int x3, .int x4, .int x5] : List Value).toArray below meth c H locs 0 0 QQ (F0 m 60 ls [])) → W p l e (headSpec wz_X6_drawLine rm_X6_drawLine).room s m ([.ref a0, .ref a1, .int x2, .int x3, .int x4, .int x5] : List Value).toArray below meth c H locs 0 0 QQ (F0 m 22 ls []) := by
    intro n
    induction n with
    | zero => intro v2 I3 H locs ls r4 hM hl hf kk; exact nn_x (show (none : Option ((Nat → Nat → Int32))) = some r4 from hf)
    | succ n ih =>
      intro v2 I3 H locs ls r4 hM hl hf kk
      rw [fn_X6_drawLine_L22] at hf
      refine lv_iload hx hb dX6_drawLine_22 (lv_at hl 7 rfl) ?_
      refine lv_iload hx hb dX6_drawLine_24 (lv_at hl 6 rfl) ?_
      refine lv_icmp_gt (tgt := 60) hx hb dX6_drawLine_26 (by decide) (fun hc5 => ?_) (fun hc5 => ?_)
      · have hf := it_p hf hc5
        obtain rfl := Option.some.inj hf
        exact kk _ _ _ hM (lv_sub hl [6] rfl)
      · have hf := it_n hf hc5
        refine lv_aload_n hx hb dX6_drawLine_29 rfl (lv_at hl 0 rfl) ?_
        refine lv_aload_n hx hb dX6_drawLine_30 rfl (lv_at hl 1 rfl) ?_
        refine lv_iload_n hx hb dX6_drawLine_31 rfl (lv_at hl 2 rfl) ?_
        refine lv_iload hx hb dX6_drawLine_32 (lv_at hl 4 rfl) ?_
        refine lv_iload hx hb dX6_drawLine_34 (lv_at hl 7 rfl) ?_
        refine lv_iload hx hb dX6_drawLine_36 (lv_at hl 6 rfl) ?_
        refine bd_e hf (fun r6 er6 hf => ?_)
        refine ev_calli (va_runS (As := [.int x2, .int x4, .int v2, .int v1]) (rest := [.ref a1, .ref a0]) S (c_X6_between (l := l) I3 P x2 x4 v2 v1 r6 er6) (va_cwS 4 hts (gi_s wa_3_105 wa_3_106 wa_1_2 wa_3_107) rfl rfl rfl (by decide +kernel) ⟨Nat.le_of_ble_eq_true rfl, Nat.le_of_ble_eq_true rfl⟩) ⟨mm_B_blind, fun U hU hW => ⟨rfl, mm_B_of hK hZ hM hU hW⟩⟩ rfl rfl hl.1 rfl (lv_room (Nat.le_of_ble_eq_true rfl)) dX6_drawLine_38 ⟨Nat.zero_le _, Nat.zero_le _⟩) hM (fun H locs hM => ?_)
        refine lv_iload_n hx hb dX6_drawLine_41 rfl (lv_at hl 3 rfl) ?_
        refine lv_iload hx hb dX6_drawLine_42 (lv_at hl 5 rfl) ?_
        refine lv_iload hx hb dX6_drawLine_44 (lv_at hl 7 rfl) ?_
        refine lv_iload hx hb dX6_drawLine_46 (lv_at hl 6 rfl) ?_
        refine bd_e hf (fun r7 er7 hf => ?_)
        refine ev_calli (va_runS (As := [.int x3, .int x5, .int v2, .int v1]) (rest := [.int r6, .ref a1, .ref a0]) S (c_X6_between (l := l) I3 P x3 x5 v2 v1 r7 er7) (va_cwS 4 hts (gi_s wa_3_105 wa_3_106 wa_1_2 wa_3_107) rfl rfl rfl (by decide +kernel) ⟨Nat.le_of_ble_eq_true rfl, Nat.le_of_ble_eq_true rfl⟩) ⟨mm_B_blind, fun U hU hW => ⟨rfl, mm_B_of hK hZ hM hU hW⟩⟩ rfl rfl hl.1 rfl (lv_room (Nat.le_of_ble_eq_true rfl)) dX6_drawLine_48 ⟨Nat.zero_le _, Nat.zero_le _⟩) hM (fun H locs hM => ?_)
        refine bd_e hf (fun r8 er8 hf => ?_)
        refine gd_e hf (fun hg9 hf => ?_)
        refine ev_callv (va_runV (As := [.ref a1, .int r6, .int r7]) (rest := []) S (c_X6_stamp (l := l) I3 P a0 a1 r6 r7 r8 er8) (cwV 3 hts (gi_v wa_3_76 wa_3_77 wa_3_78 wa_1_2 wa_3_79) rfl rfl rfl (by decide +kernel) ⟨Nat.le_of_ble_eq_true rfl, Nat.le_of_ble_eq_true rfl⟩) ⟨mm_B_blind, ev_recv hK hM (ci := 6) rfl hg9 rfl, fun U hU hW => ⟨rfl, mm_B_of hK hZ hM hU hW⟩⟩ rfl rfl hl.1 rfl (lv_room (Nat.le_of_ble_eq_true rfl)) dX6_drawLine_51 ⟨Nat.zero_le _, Nat.zero_le _⟩) hM (fun H locs hM => ?_)
        refine lv_iinc (v := (v2 + (1 : Int32))) (lv' := [(7, .int (v2 + (1 : Int32))), (0, .ref a0), (1, .ref a1), (2, .int x2), (3, .int x3), (4, .int x4), (5, .int x5), (6, .int v1)]) hx hb dX6_drawLine_54 hl (k := 7) rfl rfl (by decide) rfl (fun ls hl => ?_)
        refine lv_goto (tgt := 22) hx hb dX6_drawLine_57 (by decide) ?_
        exact ih (v2 + (1 : Int32)) r8 _ _ _ _ hM (lv_sub hl [1, 2, 3, 4, 5, 6, 7, 0] rfl) hf kk
  refine bd_e hf (fun r4 er4 hf => ?_)
  refine lp22_9 FU (1 : Int32) I _ _ _ r4 hM (lv_sub hl [2, 3, 4, 5, 6, 7, 1, 0] rfl) er4 (fun H locs ls hM hl => ?_)
  refine lv_iload hx hb dX6_drawLine_60 (lv_at hl 0 rfl) ?_
  obtain rfl := Option.some.inj hf
  subst hQ
  exact ev_iret S hr hlocks hK hZ hM dX6_drawLine_62
noncomputable def fn_X6_drawStroke_L41 (K : Nat → Nat) (N : Nat → Nat) (a0 : Nat) (a2 : Nat) (P : Nat → Nat → Option Nat) (q5 : Nat) (q9 : Nat) (q11 : Nat) : Nat → Int32 → Int32 → (Nat → Nat → Int32) → Option (Int32 × (Nat → Nat → Int32))
  | 0, _, _, _ => none
  | n + 1, v14, v15, I16 => if (I16 a2 4) ≤ v15 then (some (v14, I16)) else (gd (K q9 = 12 ∧ vp_in (v15 - (1 : Int32)) (N q9)) (gd (K q11 = 12 ∧ vp_in (v15 - (1 : Int32)) (N q11)) (gd (K q9 = 12 ∧ vp_in v15 (N q9)) (gd (K q11 = 12 ∧ vp_in v15 (N q11)) (Option.bind (fn_X6_drawLine K N I16 P a0 q5 (I16 q9 ((v15 - (1 : Int32))).toNatClampNeg) (I16 q11 ((v15 - (1 : Int32))).toNatClampNeg) (I16 q9 (v15.toNatClampNeg)) (I16 q11 (v15.toNatClampNeg))) (fun (r23 : Int32 × (Nat → Nat → Int32)) => Option.bind (some (v14 + r23.1)) (fun v24 => fn_X6_drawStroke_L41 K N a0 a2 P q5 q9 q11 n v24 (v15 + (1 : Int32)) r23.2)))))))
noncomputable def fn_X6_drawStroke (K N : Nat → Nat) (I : Nat → Nat → Int32) (P : Nat → Nat → Option Nat) (a0 : Nat) (x1 : Int32) (a2 : Nat) : Option (Int32 × (Nat → Nat → Int32) × (Nat → Nat → Option Nat)) := gd (K a0 = 7) (Option.bind (P a0 (5)) (fun q2 => Option.bind (P a0 (0)) (fun q3 => gd (K q3 = 15 ∧ vp_in x1 (N q3)) (Option.bind (P q3 (x1.toNatClampNeg)) (fun q5 => Option.bind (fn_X1_begin K N I P q2 x1 q5) (fun (r6 : (Nat → Nat → Int32)) => gd (K q2 = 2) (gd (K a2 = 9) (Option.bind (P a2 (2)) (fun q9 => gd (K q9 = 12 ∧ vp_in (0 : Int32) (N q9)) (Option.bind (P a2 (3)) (fun q11 => gd (K q11 = 12 ∧ vp_in (0 : Int32) (N q11)) (Option.bind (fn_X6_stamp K N r6 P a0 q5 (r6 q9 (0)) (r6 q11 (0))) (fun (r13 : (Nat → Nat → Int32)) => Option.bind (fn_X6_drawStroke_L41 K N a0 a2 P q5 q9 q11 FU (1 : Int32) (1 : Int32) r13) (fun (r17 : Int32 × (Nat → Nat → Int32)) => Option.bind (fn_X1_end K N r17.2 P q2 q5) (fun (r25 : (Nat → Nat → Int32) × (Nat → Nat → Option Nat)) => some (r17.1, r25.1, r25.2))))))))))))))))
abbrev wz_X6_drawStroke : List Cond := Cond.code yX6_drawStroke cX6_drawStroke 5 (some .int) :: WA
abbrev rm_X6_drawStroke : Room := { frames := 6, cells := 0, slots := 0, locals := 134 }
set_option maxHeartbeats 4000000 in
set_option maxRecDepth 100000 in
theorem c_X6_drawStroke (I : Nat → Nat → Int32) (P : Nat → Nat → Option Nat) (a0 : Nat) (x1 : Int32) (a2 : Nat) (res : Int32 × (Nat → Nat → Int32) × (Nat → Nat → Option Nat)) (hf : fn_X6_drawStroke K N I P a0 x1 a2 = some res) : Met l yX6_drawStroke wz_X6_drawStroke rm_X6_drawStroke (va_Pc [.ref a0, .int x1, .ref a2] (mm_B D cs A L K N z w I P)) (va_Qi (fun r (_ : Unit) => r = res.1) (fun _ => mm_B D cs A L K N z w res.2.1 res.2.2) A) 0 0 A := by
  refine Met.ofW (cc := cX6_drawStroke) (maxL := 5) (ret := (some .int)) (by decide) rfl ?_
  intro p e s m args below meth c s₁ B hml hv
  obtain ⟨rfl, hBm⟩ := hv
  have hx := B.exec
  have hb := B.bytes
  have hr := B.returns
  have hts := atoms_spec (ws := wz_X6_drawStroke) B.pre
  have hWA : ∀ w ∈ WA, w.before ([.ref a0, .int x1, .ref a2] : List Value).toArray s = true := fun u9 h9 => hts u9 (List.mem_cons_of_mem _ h9)
  have hown : s.vm.findClass RX6 = some m.cls := findClass_of_methodNamed B.named
  have hlocks := B.notSynchronized
  have S : CallFix p m c cX6_drawStroke 5 s ([.ref a0, .int x1, .ref a2] : List Value).toArray wz_X6_drawStroke RX6 := ⟨hx, hb, hml, hown, hts⟩
  have hK := hBm.2.2.2.1
  have hZ := hBm.2.2.2.2
  have hM : mm_W D cs A L K N s.heap I P s.heap [] := ⟨hBm.1, hBm.2.1, hBm.2.2.1, va_S.rf⟩
  have hl := lv_entry ([.ref a0, .int x1, .ref a2]) (n := 5) (Nat.le_of_ble_eq_true rfl)
  rw [lg_entry_eq]
  generalize (lg_sl ([.ref a0, .int x1, .ref a2]) ++ List.replicate (5 - (lg_sl ([.ref a0, .int x1, .ref a2])).length) Slot.unset).toArray = ls at hl ⊢
  have hl : lv_has ls 5 [(0, .ref a0), (1, .int x1), (2, .ref a2)] := hl
  have hin6 : ∀ w ∈ wsX60, w ∈ wz_X6_drawStroke := fun w h => List.mem_cons_of_mem _ (wu_X6 w h)
  have hin8 : ∀ w ∈ wsX80, w ∈ wz_X6_drawStroke := fun w h => List.mem_cons_of_mem _ (wu_X8 w h)
  have lk38 : (Cond.fieldLink RX6 38 RX6 "acts" "LRasterPainter$Acts;").before ([.ref a0, .int x1, .ref a2] : List Value).toArray s = true := hWA _ wa_1_161
  have lk11 : (Cond.fieldLink RX6 11 RX6 "layers" "[LRasterPainter$Layer;").before ([.ref a0, .int x1, .ref a2] : List Value).toArray s = true := hWA _ wa_1_151
  have lk98 : (Cond.fieldLink RX6 98 RX8 "xs" "[I").before ([.ref a0, .int x1, .ref a2] : List Value).toArray s = true := hWA _ wa_1_186
  have lk104 : (Cond.fieldLink RX6 104 RX8 "ys" "[I").before ([.ref a0, .int x1, .ref a2] : List Value).toArray s = true := hWA _ wa_1_188
  have lk111 : (Cond.fieldLink RX6 111 RX8 "places" "I").before ([.ref a0, .int x1, .ref a2] : List Value).toArray s = true := hWA _ wa_1_190
  generalize hQ : MQ below (va_Qi (fun r (_ : Unit) => r = res.1) (fun _ => mm_B D cs A L K N z w res.2.1 res.2.2) A) ([.ref a0, .int x1, .ref a2] : List Value).toArray s 0 0 A = QQ
  rw [fn_X6_drawStroke] at hf
  refine lv_aload_n hx hb dX6_drawStroke_0 rfl (lv_at hl 0 rfl) ?_
  refine gd_e hf (fun hg1 hf => ?_)
  refine bd_e hf (fun q2 eq2 hf => ?_)
  refine ev_getP (v := q2) S hK hM (ci := 6) (n := 6) (C := RX6) (T := TX6) hin6 rfl hg1 5 (by decide) lk38 rfl rfl eq2 rfl dX6_drawStroke_1 ?_
  refine lv_iload_n hx hb dX6_drawStroke_4 rfl (lv_at hl 1 rfl) ?_
  refine lv_aload_n hx hb dX6_drawStroke_5 rfl (lv_at hl 0 rfl) ?_
  refine bd_e hf (fun q3 eq3 hf => ?_)
  refine ev_getP (v := q3) S hK hM (ci := 6) (n := 6) (C := RX6) (T := TX6) hin6 rfl hg1 0 (by decide) lk11 rfl rfl eq3 rfl dX6_drawStroke_6 ?_
  refine lv_iload_n hx hb dX6_drawStroke_9 rfl (lv_at hl 1 rfl) ?_
  refine gd_e hf (fun hg4 hf => ?_)
  refine bd_e hf (fun q5 eq5 hf => ?_)
  refine ev_aald15 S hK hM hg4 (j := x1.toNatClampNeg) rfl eq5 dX6_drawStroke_10 ?_
  refine bd_e hf (fun r6 er6 hf => ?_)
  refine gd_e hf (fun hg7 hf => ?_)
  refine ev_callv (va_runV (As := [.int x1, .ref q5]) (rest := []) S (c_X1_begin (l := l) I P q2 x1 q5 r6 er6) (cwV 2 hts (gi_v wa_3_65 wa_3_66 wa_3_67 wa_1_5 wa_3_68) rfl rfl rfl (by decide +kernel) ⟨Nat.le_of_ble_eq_true rfl, Nat.le_of_ble_eq_true rfl⟩) ⟨mm_B_blind, ev_recv hK hM (ci := 1) rfl hg7 rfl, fun U hU hW => ⟨rfl, mm_B_of hK hZ hM hU hW⟩⟩ rfl rfl hl.1 rfl (lv_room (Nat.le_of_ble_eq_true rfl)) dX6_drawStroke_11 ⟨Nat.zero_le _, Nat.zero_le _⟩) hM (fun H locs hM => ?_)
  refine lv_aload_n hx hb dX6_drawStroke_14 rfl (lv_at hl 0 rfl) ?_
  refine lv_aload_n hx hb dX6_drawStroke_15 rfl (lv_at hl 0 rfl) ?_
  refine ev_getP (v := q3) S hK hM (ci := 6) (n := 6) (C := RX6) (T := TX6) hin6 rfl hg1 0 (by decide) lk11 rfl rfl eq3 rfl dX6_drawStroke_16 ?_
  refine lv_iload_n hx hb dX6_drawStroke_19 rfl (lv_at hl 1 rfl) ?_
  refine ev_aald15 S hK hM hg4 (j := x1.toNatClampNeg) rfl eq5 dX6_drawStroke_20 ?_
  refine lv_aload_n hx hb dX6_drawStroke_21 rfl (lv_at hl 2 rfl) ?_
  refine gd_e hf (fun hg8 hf => ?_)
  refine bd_e hf (fun q9 eq9 hf => ?_)
  refine ev_getP (v := q9) S hK hM (ci := 8) (n := 8) (C := RX8) (T := TX8) hin8 rfl hg8 2 (by decide) lk98 rfl rfl eq9 rfl dX6_drawStroke_22 ?_
  refine lv_iconst (v := (0 : Int32)) hx hb dX6_drawStroke_25 (by decide) ?_
  refine gd_e hf (fun hg10 hf => ?_)
  refine ev_iald S hK hM hg10 (j := 0) rfl dX6_drawStroke_26 ?_
  refine lv_aload_n hx hb dX6_drawStroke_27 rfl (lv_at hl 2 rfl) ?_
  refine bd_e hf (fun q11 eq11 hf => ?_)
  refine ev_getP (v := q11) S hK hM (ci := 8) (n := 8) (C := RX8) (T := TX8) hin8 rfl hg8 3 (by decide) lk104 rfl rfl eq11 rfl dX6_drawStroke_28 ?_
  refine lv_iconst (v := (0 : Int32)) hx hb dX6_drawStroke_31 (by decide) ?_
  refine gd_e hf (fun hg12 hf => ?_)
  refine ev_iald S hK hM hg12 (j := 0) rfl dX6_drawStroke_32 ?_
  refine bd_e hf (fun r13 er13 hf => ?_)
  refine ev_callv (va_runV (As := [.ref q5, .int (r6 q9 (0)), .int (r6 q11 (0))]) (rest := []) S (c_X6_stamp (l := l) r6 P a0 q5 (r6 q9 (0)) (r6 q11 (0)) r13 er13) (cwV 3 hts (gi_v wa_3_76 wa_3_77 wa_3_78 wa_1_2 wa_3_79) rfl rfl rfl (by decide +kernel) ⟨Nat.le_of_ble_eq_true rfl, Nat.le_of_ble_eq_true rfl⟩) ⟨mm_B_blind, ev_recv hK hM (ci := 6) rfl hg1 rfl, fun U hU hW => ⟨rfl, mm_B_of hK hZ hM hU hW⟩⟩ rfl rfl hl.1 rfl (lv_room (Nat.le_of_ble_eq_true rfl)) dX6_drawStroke_33 ⟨Nat.zero_le _, Nat.zero_le _⟩) hM (fun H locs hM => ?_)
  refine lv_iconst (v := (1 : Int32)) hx hb dX6_drawStroke_36 (by decide) ?_
  refine lv_istore_n (lv' := [(3, .int (1 : Int32)), (0, .ref a0), (1, .int x1), (2, .ref a2)]) hx hb dX6_drawStroke_37 rfl hl (by decide) rfl (fun ls hl => ?_)
  refine lv_iconst (v := (1 : Int32)) hx hb dX6_drawStroke_38 (by decide) ?_
  refine lv_istore (lv' := [(4, .int (1 : Int32)), (3, .int (1 : Int32)), (0, .ref a0), (1, .int x1), (2, .ref a2)]) hx hb dX6_drawStroke_39 hl (by decide) rfl (fun ls hl => ?_)
  have lp41_24 : ∀ (n : Nat) (v14 : Int32) (v15 : Int32) (I16 : Nat → Nat → Int32) (H : Heap) (locs : List Loc) (ls : Array Slot) (r17 : Int32 × (Nat → Nat → Int32)), mm_W D cs A L K N s.heap I16 P H locs → lv_has ls 5 [(0, .ref a0), (1, .int x1), (2, .ref a2), (3, .int v14), (4, .int v15)] → fn_X6_drawStroke_L41 K N a0 a2 P q5 q9 q11 n v14 v15 I16 = some r17 → (∀ (H : Heap) (locs : List Loc) (ls : Array Slot), mm_W D cs A L K N s.heap r17.2 P H locs → lv_has ls 5 [(0, .ref a0), (1, .int x1), (3, .int r17.1)] → W p l e (headSpec wz_X6_drawStroke rm_X6_drawStroke).room s m ([.ref a0, .int x1, .ref a2] : List Value).toArray below meth c H locs 0 0 QQ (F0 m 101 ls [])) → W p l e (headSpec wz_X6_drawStroke rm_X6_drawStroke).room s m ([.ref a0, .int x1, .ref a2] : List Value).toArray below meth c H locs 0 0 QQ (F0 m 41 ls []) := by
    intro n
    induction n with
    | zero => intro v14 v15 I16 H locs ls r17 hM hl hf kk; exact nn_x (show (none : Option (Int32 × (Nat → Nat → Int32))) = some r17 from hf)
    | succ n ih =>
      intro v14 v15 I16 H locs ls r17 hM hl hf kk
      rw [fn_X6_drawStroke_L41] at hf
      refine lv_iload hx hb dX6_drawStroke_41 (lv_at hl 4 rfl) ?_
      refine lv_aload_n hx hb dX6_drawStroke_43 rfl (lv_at hl 2 rfl) ?_
      refine ev_get (v := .int (I16 a2 4)) S hK hM (ci := 8) (n := 8) (C := RX8) (T := TX8) hin8 rfl hg8 4 (by decide) lk111 rfl rfl rfl dX6_drawStroke_44 ?_
      refine lv_icmp_ge (tgt := 101) hx hb dX6_drawStroke_47 (by decide) (fun hc18 => ?_) (fun hc18 => ?_)
      · have hf := it_p hf hc18
        obtain rfl := Option.some.inj hf
        exact kk _ _ _ hM (lv_sub hl [0, 1, 3] rfl)
      · have hf := it_n hf hc18
        refine lv_iload_n hx hb dX6_drawStroke_50 rfl (lv_at hl 3 rfl) ?_
        refine lv_aload_n hx hb dX6_drawStroke_51 rfl (lv_at hl 0 rfl) ?_
        refine lv_aload_n hx hb dX6_drawStroke_52 rfl (lv_at hl 0 rfl) ?_
        refine ev_getP (v := q3) S hK hM (ci := 6) (n := 6) (C := RX6) (T := TX6) hin6 rfl hg1 0 (by decide) lk11 rfl rfl eq3 rfl dX6_drawStroke_53 ?_
        refine lv_iload_n hx hb dX6_drawStroke_56 rfl (lv_at hl 1 rfl) ?_
        refine ev_aald15 S hK hM hg4 (j := x1.toNatClampNeg) rfl eq5 dX6_drawStroke_57 ?_
        refine lv_aload_n hx hb dX6_drawStroke_58 rfl (lv_at hl 2 rfl) ?_
        refine ev_getP (v := q9) S hK hM (ci := 8) (n := 8) (C := RX8) (T := TX8) hin8 rfl hg8 2 (by decide) lk98 rfl rfl eq9 rfl dX6_drawStroke_59 ?_
        refine lv_iload hx hb dX6_drawStroke_62 (lv_at hl 4 rfl) ?_
        refine lv_iconst (v := (1 : Int32)) hx hb dX6_drawStroke_64 (by decide) ?_
        refine lv_isub hx hb dX6_drawStroke_65 ?_
        refine gd_e hf (fun hg19 hf => ?_)
        refine ev_iald S hK hM hg19 (j := ((v15 - (1 : Int32))).toNatClampNeg) rfl dX6_drawStroke_66 ?_
        refine lv_aload_n hx hb dX6_drawStroke_67 rfl (lv_at hl 2 rfl) ?_
        refine ev_getP (v := q11) S hK hM (ci := 8) (n := 8) (C := RX8) (T := TX8) hin8 rfl hg8 3 (by decide) lk104 rfl rfl eq11 rfl dX6_drawStroke_68 ?_
        refine lv_iload hx hb dX6_drawStroke_71 (lv_at hl 4 rfl) ?_
        refine lv_iconst (v := (1 : Int32)) hx hb dX6_drawStroke_73 (by decide) ?_
        refine lv_isub hx hb dX6_drawStroke_74 ?_
        refine gd_e hf (fun hg20 hf => ?_)
        refine ev_iald S hK hM hg20 (j := ((v15 - (1 : Int32))).toNatClampNeg) rfl dX6_drawStroke_75 ?_
        refine lv_aload_n hx hb dX6_drawStroke_76 rfl (lv_at hl 2 rfl) ?_
        refine ev_getP (v := q9) S hK hM (ci := 8) (n := 8) (C := RX8) (T := TX8) hin8 rfl hg8 2 (by decide) lk98 rfl rfl eq9 rfl dX6_drawStroke_77 ?_
        refine lv_iload hx hb dX6_drawStroke_80 (lv_at hl 4 rfl) ?_
        refine gd_e hf (fun hg21 hf => ?_)
        refine ev_iald S hK hM hg21 (j := v15.toNatClampNeg) rfl dX6_drawStroke_82 ?_
        refine lv_aload_n hx hb dX6_drawStroke_83 rfl (lv_at hl 2 rfl) ?_
        refine ev_getP (v := q11) S hK hM (ci := 8) (n := 8) (C := RX8) (T := TX8) hin8 rfl hg8 3 (by decide) lk104 rfl rfl eq11 rfl dX6_drawStroke_84 ?_
        refine lv_iload hx hb dX6_drawStroke_87 (lv_at hl 4 rfl) ?_
        refine gd_e hf (fun hg22 hf => ?_)
        refine ev_iald S hK hM hg22 (j := v15.toNatClampNeg) rfl dX6_drawStroke_89 ?_
        refine bd_e hf (fun r23 er23 hf => ?_)
        refine ev_calli (va_runV (As := [.ref q5, .int (I16 q9 ((v15 - (1 : Int32))).toNatClampNeg), .int (I16 q11 ((v15 - (1 : Int32))).toNatClampNeg), .int (I16 q9 (v15.toNatClampNeg)), .int (I16 q11 (v15.toNatClampNeg))]) (rest := [.int v14]) S (c_X6_drawLine (l := l) I16 P a0 q5 (I16 q9 ((v15 - (1 : Int32))).toNatClampNeg) (I16 q11 ((v15 - (1 : Int32))).toNatClampNeg) (I16 q9 (v15.toNatClampNeg)) (I16 q11 (v15.toNatClampNeg)) r23 er23) (cwV 5 hts (gi_v wa_3_100 wa_3_102 wa_s_13 wa_1_2 wa_3_103) rfl rfl rfl (by decide +kernel) ⟨Nat.le_of_ble_eq_true rfl, Nat.le_of_ble_eq_true rfl⟩) ⟨mm_B_blind, ev_recv hK hM (ci := 6) rfl hg1 rfl, fun U hU hW => ⟨rfl, mm_B_of hK hZ hM hU hW⟩⟩ rfl rfl hl.1 rfl (lv_room (Nat.le_of_ble_eq_true rfl)) dX6_drawStroke_90 ⟨Nat.zero_le _, Nat.zero_le _⟩) hM (fun H locs hM => ?_)
        refine lv_iadd hx hb dX6_drawStroke_93 ?_
        refine lv_topi (fun v24 ev24 => ?_)
        have hf := nm_x ev24 hf
        refine lv_istore_n (lv' := [(3, .int v24), (0, .ref a0), (1, .int x1), (2, .ref a2), (4, .int v15)]) hx hb dX6_drawStroke_94 rfl hl (by decide) rfl (fun ls hl => ?_)
        refine lv_iinc (v := (v15 + (1 : Int32))) (lv' := [(4, .int (v15 + (1 : Int32))), (3, .int v24), (0, .ref a0), (1, .int x1), (2, .ref a2)]) hx hb dX6_drawStroke_95 hl (k := 4) rfl rfl (by decide) rfl (fun ls hl => ?_)
        refine lv_goto (tgt := 41) hx hb dX6_drawStroke_98 (by decide) ?_
        exact ih v24 (v15 + (1 : Int32)) r23.2 _ _ _ _ hM (lv_sub hl [2, 3, 4, 1, 0] rfl) hf kk
  refine bd_e hf (fun r17 er17 hf => ?_)
  refine lp41_24 FU (1 : Int32) (1 : Int32) r13 _ _ _ r17 hM (lv_sub hl [2, 3, 4, 1, 0] rfl) er17 (fun H locs ls hM hl => ?_)
  refine lv_aload_n hx hb dX6_drawStroke_101 rfl (lv_at hl 0 rfl) ?_
  refine ev_getP (v := q2) S hK hM (ci := 6) (n := 6) (C := RX6) (T := TX6) hin6 rfl hg1 5 (by decide) lk38 rfl rfl eq2 rfl dX6_drawStroke_102 ?_
  refine lv_aload_n hx hb dX6_drawStroke_105 rfl (lv_at hl 0 rfl) ?_
  refine ev_getP (v := q3) S hK hM (ci := 6) (n := 6) (C := RX6) (T := TX6) hin6 rfl hg1 0 (by decide) lk11 rfl rfl eq3 rfl dX6_drawStroke_106 ?_
  refine lv_iload_n hx hb dX6_drawStroke_109 rfl (lv_at hl 1 rfl) ?_
  refine ev_aald15 S hK hM hg4 (j := x1.toNatClampNeg) rfl eq5 dX6_drawStroke_110 ?_
  refine bd_e hf (fun r25 er25 hf => ?_)
  refine ev_callv (va_runV (As := [.ref q5]) (rest := []) S (c_X1_end (l := l) r17.2 P q2 q5 r25 er25) (cwV 1 hts (gi_v wa_3_111 wa_3_112 wa_3_113 wa_1_5 wa_3_114) rfl rfl rfl (by decide +kernel) ⟨Nat.le_of_ble_eq_true rfl, Nat.le_of_ble_eq_true rfl⟩) ⟨mm_B_blind, ev_recv hK hM (ci := 1) rfl hg7 rfl, fun U hU hW => ⟨rfl, mm_B_of hK hZ hM hU hW⟩⟩ rfl rfl hl.1 rfl (lv_room (Nat.le_of_ble_eq_true rfl)) dX6_drawStroke_111 ⟨Nat.zero_le _, Nat.zero_le _⟩) hM (fun H locs hM => ?_)
  refine lv_iload_n hx hb dX6_drawStroke_114 rfl (lv_at hl 2 rfl) ?_
  obtain rfl := Option.some.inj hf
  subst hQ
  exact ev_iret S hr hlocks hK hZ hM dX6_drawStroke_115
noncomputable def fn_X6_fillChosen_L19 (K : Nat → Nat) (N : Nat → Nat) (a0 : Nat) (a2 : Nat) (P : Nat → Nat → Option Nat) (q5 : Nat) : Nat → Int32 → Int32 → (Nat → Nat → Int32) → Option (Int32 × (Nat → Nat → Int32))
  | 0, _, _, _ => none
  | n + 1, v8, v9, I10 => if (192 : Int32) ≤ v9 then (some (v8, I10)) else (gd (K a2 = 13 ∧ vp_in v9 (N a2)) (if (I10 a2 (v9.toNatClampNeg)) = 0 then (fn_X6_fillChosen_L19 K N a0 a2 P q5 n v8 (v9 + (1 : Int32)) I10) else (Option.bind (P a0 (3)) (fun q15 => Option.bind (fn_X5_isFree K N I10 P q15 v9) (fun (r16 : Int32) => gd (K q15 = 6) (if r16 = 0 then (fn_X6_fillChosen_L19 K N a0 a2 P q5 n v8 (v9 + (1 : Int32)) I10) else (Option.bind (fn_X6_apply K N I10 P a0 q5 v9 (255 : Int32)) (fun (r19 : (Nat → Nat → Int32)) => fn_X6_fillChosen_L19 K N a0 a2 P q5 n (v8 + (1 : Int32)) (v9 + (1 : Int32)) r19))))))))
noncomputable def fn_X6_fillChosen (K N : Nat → Nat) (I : Nat → Nat → Int32) (P : Nat → Nat → Option Nat) (a0 : Nat) (x1 : Int32) (a2 : Nat) : Option (Int32 × (Nat → Nat → Int32) × (Nat → Nat → Option Nat)) := gd (K a0 = 7) (Option.bind (P a0 (5)) (fun q2 => Option.bind (P a0 (0)) (fun q3 => gd (K q3 = 15 ∧ vp_in x1 (N q3)) (Option.bind (P q3 (x1.toNatClampNeg)) (fun q5 => Option.bind (fn_X1_begin K N I P q2 x1 q5) (fun (r6 : (Nat → Nat → Int32)) => gd (K q2 = 2) (Option.bind (fn_X6_fillChosen_L19 K N a0 a2 P q5 FU (0 : Int32) (0 : Int32) r6) (fun (r11 : Int32 × (Nat → Nat → Int32)) => Option.bind (fn_X1_end K N r11.2 P q2 q5) (fun (r20 : (Nat → Nat → Int32) × (Nat → Nat → Option Nat)) => some (r11.1, r20.1, r20.2))))))))))
abbrev wz_X6_fillChosen : List Cond := Cond.code yX6_fillChosen cX6_fillChosen 5 (some .int) :: WA
abbrev rm_X6_fillChosen : Room := { frames := 4, cells := 0, slots := 0, locals := 104 }
set_option maxHeartbeats 4000000 in
set_option maxRecDepth 100000 in
theorem c_X6_fillChosen (I : Nat → Nat → Int32) (P : Nat → Nat → Option Nat) (a0 : Nat) (x1 : Int32) (a2 : Nat) (res : Int32 × (Nat → Nat → Int32) × (Nat → Nat → Option Nat)) (hf : fn_X6_fillChosen K N I P a0 x1 a2 = some res) : Met l yX6_fillChosen wz_X6_fillChosen rm_X6_fillChosen (va_Pc [.ref a0, .int x1, .ref a2] (mm_B D cs A L K N z w I P)) (va_Qi (fun r (_ : Unit) => r = res.1) (fun _ => mm_B D cs A L K N z w res.2.1 res.2.2) A) 0 0 A := by
  refine Met.ofW (cc := cX6_fillChosen) (maxL := 5) (ret := (some .int)) (by decide) rfl ?_
  intro p e s m args below meth c s₁ B hml hv
  obtain ⟨rfl, hBm⟩ := hv
  have hx := B.exec
  have hb := B.bytes
  have hr := B.returns
  have hts := atoms_spec (ws := wz_X6_fillChosen) B.pre
  have hWA : ∀ w ∈ WA, w.before ([.ref a0, .int x1, .ref a2] : List Value).toArray s = true := fun u9 h9 => hts u9 (List.mem_cons_of_mem _ h9)
  have hown : s.vm.findClass RX6 = some m.cls := findClass_of_methodNamed B.named
  have hlocks := B.notSynchronized
  have S : CallFix p m c cX6_fillChosen 5 s ([.ref a0, .int x1, .ref a2] : List Value).toArray wz_X6_fillChosen RX6 := ⟨hx, hb, hml, hown, hts⟩
  have hK := hBm.2.2.2.1
  have hZ := hBm.2.2.2.2
  have hM : mm_W D cs A L K N s.heap I P s.heap [] := ⟨hBm.1, hBm.2.1, hBm.2.2.1, va_S.rf⟩
  have hl := lv_entry ([.ref a0, .int x1, .ref a2]) (n := 5) (Nat.le_of_ble_eq_true rfl)
  rw [lg_entry_eq]
  generalize (lg_sl ([.ref a0, .int x1, .ref a2]) ++ List.replicate (5 - (lg_sl ([.ref a0, .int x1, .ref a2])).length) Slot.unset).toArray = ls at hl ⊢
  have hl : lv_has ls 5 [(0, .ref a0), (1, .int x1), (2, .ref a2)] := hl
  have hin6 : ∀ w ∈ wsX60, w ∈ wz_X6_fillChosen := fun w h => List.mem_cons_of_mem _ (wu_X6 w h)
  have lk38 : (Cond.fieldLink RX6 38 RX6 "acts" "LRasterPainter$Acts;").before ([.ref a0, .int x1, .ref a2] : List Value).toArray s = true := hWA _ wa_1_161
  have lk11 : (Cond.fieldLink RX6 11 RX6 "layers" "[LRasterPainter$Layer;").before ([.ref a0, .int x1, .ref a2] : List Value).toArray s = true := hWA _ wa_1_151
  have lk24 : (Cond.fieldLink RX6 24 RX6 "mask" "LRasterPainter$Mask;").before ([.ref a0, .int x1, .ref a2] : List Value).toArray s = true := hWA _ wa_1_157
  generalize hQ : MQ below (va_Qi (fun r (_ : Unit) => r = res.1) (fun _ => mm_B D cs A L K N z w res.2.1 res.2.2) A) ([.ref a0, .int x1, .ref a2] : List Value).toArray s 0 0 A = QQ
  rw [fn_X6_fillChosen] at hf
  refine lv_aload_n hx hb dX6_fillChosen_0 rfl (lv_at hl 0 rfl) ?_
  refine gd_e hf (fun hg1 hf => ?_)
  refine bd_e hf (fun q2 eq2 hf => ?_)
  refine ev_getP (v := q2) S hK hM (ci := 6) (n := 6) (C := RX6) (T := TX6) hin6 rfl hg1 5 (by decide) lk38 rfl rfl eq2 rfl dX6_fillChosen_1 ?_
  refine lv_iload_n hx hb dX6_fillChosen_4 rfl (lv_at hl 1 rfl) ?_
  refine lv_aload_n hx hb dX6_fillChosen_5 rfl (lv_at hl 0 rfl) ?_
  refine bd_e hf (fun q3 eq3 hf => ?_)
  refine ev_getP (v := q3) S hK hM (ci := 6) (n := 6) (C := RX6) (T := TX6) hin6 rfl hg1 0 (by decide) lk11 rfl rfl eq3 rfl dX6_fillChosen_6 ?_
  refine lv_iload_n hx hb dX6_fillChosen_9 rfl (lv_at hl 1 rfl) ?_
  refine gd_e hf (fun hg4 hf => ?_)
  refine bd_e hf (fun q5 eq5 hf => ?_)
  refine ev_aald15 S hK hM hg4 (j := x1.toNatClampNeg) rfl eq5 dX6_fillChosen_10 ?_
  refine bd_e hf (fun r6 er6 hf => ?_)
  refine gd_e hf (fun hg7 hf => ?_)
  refine ev_callv (va_runV (As := [.int x1, .ref q5]) (rest := []) S (c_X1_begin (l := l) I P q2 x1 q5 r6 er6) (cwV 2 hts (gi_v wa_3_65 wa_3_66 wa_3_67 wa_1_5 wa_3_68) rfl rfl rfl (by decide +kernel) ⟨Nat.le_of_ble_eq_true rfl, Nat.le_of_ble_eq_true rfl⟩) ⟨mm_B_blind, ev_recv hK hM (ci := 1) rfl hg7 rfl, fun U hU hW => ⟨rfl, mm_B_of hK hZ hM hU hW⟩⟩ rfl rfl hl.1 rfl (lv_room (Nat.le_of_ble_eq_true rfl)) dX6_fillChosen_11 ⟨Nat.zero_le _, Nat.zero_le _⟩) hM (fun H locs hM => ?_)
  refine lv_iconst (v := (0 : Int32)) hx hb dX6_fillChosen_14 (by decide) ?_
  refine lv_istore_n (lv' := [(3, .int (0 : Int32)), (0, .ref a0), (1, .int x1), (2, .ref a2)]) hx hb dX6_fillChosen_15 rfl hl (by decide) rfl (fun ls hl => ?_)
  refine lv_iconst (v := (0 : Int32)) hx hb dX6_fillChosen_16 (by decide) ?_
  refine lv_istore (lv' := [(4, .int (0 : Int32)), (3, .int (0 : Int32)), (0, .ref a0), (1, .int x1), (2, .ref a2)]) hx hb dX6_fillChosen_17 hl (by decide) rfl (fun ls hl => ?_)
  have lp19_19 : ∀ (n : Nat) (v8 : Int32) (v9 : Int32) (I10 : Nat → Nat → Int32) (H : Heap) (locs : List Loc) (ls : Array Slot) (r11 : Int32 × (Nat → Nat → Int32)), mm_W D cs A L K N s.heap I10 P H locs → lv_has ls 5 [(0, .ref a0), (1, .int x1), (2, .ref a2), (3, .int v8), (4, .int v9)] → fn_X6_fillChosen_L19 K N a0 a2 P q5 n v8 v9 I10 = some r11 → (∀ (H : Heap) (locs : List Loc) (ls : Array Slot), mm_W D cs A L K N s.heap r11.2 P H locs → lv_has ls 5 [(0, .ref a0), (1, .int x1), (3, .int r11.1)] → W p l e (headSpec wz_X6_fillChosen rm_X6_fillChosen).room s m ([.ref a0, .int x1, .ref a2] : List Value).toArray below meth c H locs 0 0 QQ (F0 m 70 ls [])) → W p l e (headSpec wz_X6_fillChosen rm_X6_fillChosen).room s m ([.ref a0, .int x1, .ref a2] : List Value).toArray below meth c H locs 0 0 QQ (F0 m 19 ls []) := by
    intro n
    induction n with
    | zero => intro v8 v9 I10 H locs ls r11 hM hl hf kk; exact nn_x (show (none : Option (Int32 × (Nat → Nat → Int32))) = some r11 from hf)
    | succ n ih =>
      intro v8 v9 I10 H locs ls r11 hM hl hf kk
      rw [fn_X6_fillChosen_L19] at hf
      refine lv_iload hx hb dX6_fillChosen_19 (lv_at hl 4 rfl) ?_
      refine lv_sipush (v := (192 : Int32)) hx hb dX6_fillChosen_21 (by decide) ?_
      refine lv_icmp_ge (tgt := 70) hx hb dX6_fillChosen_24 (by decide) (fun hc12 => ?_) (fun hc12 => ?_)
      · have hf := it_p hf hc12
        obtain rfl := Option.some.inj hf
        exact kk _ _ _ hM (lv_sub hl [0, 1, 3] rfl)
      · have hf := it_n hf hc12
        refine lv_aload_n hx hb dX6_fillChosen_27 rfl (lv_at hl 2 rfl) ?_
        refine lv_iload hx hb dX6_fillChosen_28 (lv_at hl 4 rfl) ?_
        refine gd_e hf (fun hg13 hf => ?_)
        refine ev_zald S hK hM hg13 (j := v9.toNatClampNeg) rfl dX6_fillChosen_30 ?_
        refine lv_if_eq (tgt := 64) hx hb dX6_fillChosen_31 (by decide) (fun hc14 => ?_) (fun hc14 => ?_)
        · have hf := it_p hf hc14
          refine lv_iinc (v := (v9 + (1 : Int32))) (lv' := [(4, .int (v9 + (1 : Int32))), (0, .ref a0), (1, .int x1), (2, .ref a2), (3, .int v8)]) hx hb dX6_fillChosen_64 hl (k := 4) rfl rfl (by decide) rfl (fun ls hl => ?_)
          refine lv_goto (tgt := 19) hx hb dX6_fillChosen_67 (by decide) ?_
          exact ih v8 (v9 + (1 : Int32)) I10 _ _ _ _ hM (lv_sub hl [1, 2, 3, 4, 0] rfl) hf kk
        · have hf := it_n hf hc14
          refine lv_aload_n hx hb dX6_fillChosen_34 rfl (lv_at hl 0 rfl) ?_
          refine bd_e hf (fun q15 eq15 hf => ?_)
          refine ev_getP (v := q15) S hK hM (ci := 6) (n := 6) (C := RX6) (T := TX6) hin6 rfl hg1 3 (by decide) lk24 rfl rfl eq15 rfl dX6_fillChosen_35 ?_
          refine lv_iload hx hb dX6_fillChosen_38 (lv_at hl 4 rfl) ?_
          refine bd_e hf (fun r16 er16 hf => ?_)
          refine gd_e hf (fun hg17 hf => ?_)
          refine ev_calli (va_runV (As := [.int v9]) (rest := []) S (c_X5_isFree (l := l) I10 P q15 v9 r16 er16) (cwV 1 hts (gi_v wa_3_83 wa_3_84 wa_3_85 wa_1_3 wa_3_86) rfl rfl rfl (by decide +kernel) ⟨Nat.le_of_ble_eq_true rfl, Nat.le_of_ble_eq_true rfl⟩) ⟨mm_B_blind, ev_recv hK hM (ci := 5) rfl hg17 rfl, fun U hU hW => ⟨rfl, mm_B_of hK hZ hM hU hW⟩⟩ rfl rfl hl.1 rfl (lv_room (Nat.le_of_ble_eq_true rfl)) dX6_fillChosen_40 ⟨Nat.zero_le _, Nat.zero_le _⟩) hM (fun H locs hM => ?_)
          refine lv_if_eq (tgt := 64) hx hb dX6_fillChosen_43 (by decide) (fun hc18 => ?_) (fun hc18 => ?_)
          · have hf := it_p hf hc18
            refine lv_iinc (v := (v9 + (1 : Int32))) (lv' := [(4, .int (v9 + (1 : Int32))), (0, .ref a0), (1, .int x1), (2, .ref a2), (3, .int v8)]) hx hb dX6_fillChosen_64 hl (k := 4) rfl rfl (by decide) rfl (fun ls hl => ?_)
            refine lv_goto (tgt := 19) hx hb dX6_fillChosen_67 (by decide) ?_
            exact ih v8 (v9 + (1 : Int32)) I10 _ _ _ _ hM (lv_sub hl [1, 2, 3, 4, 0] rfl) hf kk
          · have hf := it_n hf hc18
            refine lv_aload_n hx hb dX6_fillChosen_46 rfl (lv_at hl 0 rfl) ?_
            refine lv_aload_n hx hb dX6_fillChosen_47 rfl (lv_at hl 0 rfl) ?_
            refine ev_getP (v := q3) S hK hM (ci := 6) (n := 6) (C := RX6) (T := TX6) hin6 rfl hg1 0 (by decide) lk11 rfl rfl eq3 rfl dX6_fillChosen_48 ?_
            refine lv_iload_n hx hb dX6_fillChosen_51 rfl (lv_at hl 1 rfl) ?_
            refine ev_aald15 S hK hM hg4 (j := x1.toNatClampNeg) rfl eq5 dX6_fillChosen_52 ?_
            refine lv_iload hx hb dX6_fillChosen_53 (lv_at hl 4 rfl) ?_
            refine lv_sipush (v := (255 : Int32)) hx hb dX6_fillChosen_55 (by decide) ?_
            refine bd_e hf (fun r19 er19 hf => ?_)
            refine ev_callv (va_runV (As := [.ref q5, .int v9, .int (255 : Int32)]) (rest := []) S (c_X6_apply (l := l) I10 P a0 q5 v9 (255 : Int32) r19 er19) (cwV 3 hts (gi_v wa_3_88 wa_3_90 wa_s_12 wa_1_2 wa_3_91) rfl rfl rfl (by decide +kernel) ⟨Nat.le_of_ble_eq_true rfl, Nat.le_of_ble_eq_true rfl⟩) ⟨mm_B_blind, ev_recv hK hM (ci := 6) rfl hg1 rfl, fun U hU hW => ⟨rfl, mm_B_of hK hZ hM hU hW⟩⟩ rfl rfl hl.1 rfl (lv_room (Nat.le_of_ble_eq_true rfl)) dX6_fillChosen_58 ⟨Nat.zero_le _, Nat.zero_le _⟩) hM (fun H locs hM => ?_)
            refine lv_iinc (v := (v8 + (1 : Int32))) (lv' := [(3, .int (v8 + (1 : Int32))), (0, .ref a0), (1, .int x1), (2, .ref a2), (4, .int v9)]) hx hb dX6_fillChosen_61 hl (k := 3) rfl rfl (by decide) rfl (fun ls hl => ?_)
            refine lv_iinc (v := (v9 + (1 : Int32))) (lv' := [(4, .int (v9 + (1 : Int32))), (3, .int (v8 + (1 : Int32))), (0, .ref a0), (1, .int x1), (2, .ref a2)]) hx hb dX6_fillChosen_64 hl (k := 4) rfl rfl (by decide) rfl (fun ls hl => ?_)
            refine lv_goto (tgt := 19) hx hb dX6_fillChosen_67 (by decide) ?_
            exact ih (v8 + (1 : Int32)) (v9 + (1 : Int32)) r19 _ _ _ _ hM (lv_sub hl [2, 3, 4, 1, 0] rfl) hf kk
  refine bd_e hf (fun r11 er11 hf => ?_)
  refine lp19_19 FU (0 : Int32) (0 : Int32) r6 _ _ _ r11 hM (lv_sub hl [2, 3, 4, 1, 0] rfl) er11 (fun H locs ls hM hl => ?_)
  refine lv_aload_n hx hb dX6_fillChosen_70 rfl (lv_at hl 0 rfl) ?_
  refine ev_getP (v := q2) S hK hM (ci := 6) (n := 6) (C := RX6) (T := TX6) hin6 rfl hg1 5 (by decide) lk38 rfl rfl eq2 rfl dX6_fillChosen_71 ?_
  refine lv_aload_n hx hb dX6_fillChosen_74 rfl (lv_at hl 0 rfl) ?_
  refine ev_getP (v := q3) S hK hM (ci := 6) (n := 6) (C := RX6) (T := TX6) hin6 rfl hg1 0 (by decide) lk11 rfl rfl eq3 rfl dX6_fillChosen_75 ?_
  refine lv_iload_n hx hb dX6_fillChosen_78 rfl (lv_at hl 1 rfl) ?_
  refine ev_aald15 S hK hM hg4 (j := x1.toNatClampNeg) rfl eq5 dX6_fillChosen_79 ?_
  refine bd_e hf (fun r20 er20 hf => ?_)
  refine ev_callv (va_runV (As := [.ref q5]) (rest := []) S (c_X1_end (l := l) r11.2 P q2 q5 r20 er20) (cwV 1 hts (gi_v wa_3_111 wa_3_112 wa_3_113 wa_1_5 wa_3_114) rfl rfl rfl (by decide +kernel) ⟨Nat.le_of_ble_eq_true rfl, Nat.le_of_ble_eq_true rfl⟩) ⟨mm_B_blind, ev_recv hK hM (ci := 1) rfl hg7 rfl, fun U hU hW => ⟨rfl, mm_B_of hK hZ hM hU hW⟩⟩ rfl rfl hl.1 rfl (lv_room (Nat.le_of_ble_eq_true rfl)) dX6_fillChosen_80 ⟨Nat.zero_le _, Nat.zero_le _⟩) hM (fun H locs hM => ?_)
  refine lv_iload_n hx hb dX6_fillChosen_83 rfl (lv_at hl 2 rfl) ?_
  obtain rfl := Option.some.inj hf
  subst hQ
  exact ev_iret S hr hlocks hK hZ hM dX6_fillChosen_84
noncomputable def fn_X7_isMissing (K N : Nat → Nat) (I : Nat → Nat → Int32) (P : Nat → Nat → Option Nat) (a0 : Nat) : Option (Int32) := gd (K a0 = 8) (if (I a0 0) = (-1 : Int32) then (some (1 : Int32)) else (some (0 : Int32)))
abbrev wz_X7_isMissing : List Cond := Cond.code yX7_isMissing cX7_isMissing 1 (some .boolean) :: WA
abbrev rm_X7_isMissing : Room := { frames := 1, cells := 0, slots := 0, locals := 12 }
set_option maxHeartbeats 4000000 in
set_option maxRecDepth 100000 in
theorem c_X7_isMissing (I : Nat → Nat → Int32) (P : Nat → Nat → Option Nat) (a0 : Nat) (res : Int32) (hf : fn_X7_isMissing K N I P a0 = some res) : Met l yX7_isMissing wz_X7_isMissing rm_X7_isMissing (va_Pc [.ref a0] (mm_B D cs A L K N z w I P)) (va_Qi (fun r (_ : Unit) => r = res) (fun _ => mm_B D cs A L K N z w I P) A) 0 0 A := by
  refine Met.ofW (cc := cX7_isMissing) (maxL := 1) (ret := (some .boolean)) (by decide) rfl ?_
  intro p e s m args below meth c s₁ B hml hv
  obtain ⟨rfl, hBm⟩ := hv
  have hx := B.exec
  have hb := B.bytes
  have hr := B.returns
  have hts := atoms_spec (ws := wz_X7_isMissing) B.pre
  have hWA : ∀ w ∈ WA, w.before ([.ref a0] : List Value).toArray s = true := fun u9 h9 => hts u9 (List.mem_cons_of_mem _ h9)
  have hown : s.vm.findClass RX7 = some m.cls := findClass_of_methodNamed B.named
  have hlocks := B.notSynchronized
  have S : CallFix p m c cX7_isMissing 1 s ([.ref a0] : List Value).toArray wz_X7_isMissing RX7 := ⟨hx, hb, hml, hown, hts⟩
  have hK := hBm.2.2.2.1
  have hZ := hBm.2.2.2.2
  have hM : mm_W D cs A L K N s.heap I P s.heap [] := ⟨hBm.1, hBm.2.1, hBm.2.2.1, va_S.rf⟩
  have hl := lv_entry ([.ref a0]) (n := 1) (Nat.le_of_ble_eq_true rfl)
  rw [lg_entry_eq]
  generalize (lg_sl ([.ref a0]) ++ List.replicate (1 - (lg_sl ([.ref a0])).length) Slot.unset).toArray = ls at hl ⊢
  have hl : lv_has ls 1 [(0, .ref a0)] := hl
  have hin7 : ∀ w ∈ wsX70, w ∈ wz_X7_isMissing := fun w h => List.mem_cons_of_mem _ (wu_X7 w h)
  have lk9 : (Cond.fieldLink RX7 9 RX7 "sort" "I").before ([.ref a0] : List Value).toArray s = true := hWA _ wa_1_219
  generalize hQ : MQ below (va_Qi (fun r (_ : Unit) => r = res) (fun _ => mm_B D cs A L K N z w I P) A) ([.ref a0] : List Value).toArray s 0 0 A = QQ
  rw [fn_X7_isMissing] at hf
  refine lv_aload_n hx hb dX7_isMissing_0 rfl (lv_at hl 0 rfl) ?_
  refine gd_e hf (fun hg1 hf => ?_)
  refine ev_get (v := .int (I a0 0)) S hK hM (ci := 7) (n := 3) (C := RX7) (T := TX7) hin7 rfl hg1 0 (by decide) lk9 rfl rfl rfl dX7_isMissing_1 ?_
  refine lv_iconst (v := (-1 : Int32)) hx hb dX7_isMissing_4 (by decide) ?_
  refine lv_icmp_ne (tgt := 12) hx hb dX7_isMissing_5 (by decide) (fun hc2 => ?_) (fun hc2 => ?_)
  · have hf := it_n hf hc2
    refine lv_iconst (v := (0 : Int32)) hx hb dX7_isMissing_12 (by decide) ?_
    obtain rfl := Option.some.inj hf
    subst hQ
    exact ev_zret (v := (0 : Int32)) S hr hlocks hK hZ hM rfl dX7_isMissing_13
  · have hf := it_p hf hc2
    refine lv_iconst (v := (1 : Int32)) hx hb dX7_isMissing_8 (by decide) ?_
    refine lv_goto (tgt := 13) hx hb dX7_isMissing_9 (by decide) ?_
    obtain rfl := Option.some.inj hf
    subst hQ
    exact ev_zret (v := (1 : Int32)) S hr hlocks hK hZ hM rfl dX7_isMissing_13
noncomputable def fn_X7_become (K N : Nat → Nat) (I : Nat → Nat → Int32) (P : Nat → Nat → Option Nat) (a0 : Nat) (x1 : Int32) (x2 : Int32) : Option ((Nat → Nat → Int32)) := gd (K a0 = 8) (Option.bind (some (up2 I a0 0 x1)) (fun I2 => Option.bind (some (up2 I2 a0 1 x2)) (fun I3 => Option.bind (P a0 (2)) (fun q4 => Option.bind (fn_J7_fill_53178 K N I3 P q4 (0 : Int32)) (fun (r5 : (Nat → Nat → Int32)) => some r5)))))
abbrev wz_X7_become : List Cond := Cond.code yX7_become cX7_become 3 none :: WA
abbrev rm_X7_become : Room := { frames := 2, cells := 0, slots := 0, locals := 35 }
set_option maxHeartbeats 4000000 in
set_option maxRecDepth 100000 in
theorem c_X7_become (I : Nat → Nat → Int32) (P : Nat → Nat → Option Nat) (a0 : Nat) (x1 : Int32) (x2 : Int32) (res : (Nat → Nat → Int32)) (hf : fn_X7_become K N I P a0 x1 x2 = some res) : Met l yX7_become wz_X7_become rm_X7_become (va_Pc [.ref a0, .int x1, .int x2] (mm_B D cs A L K N z w I P)) (va_Qv (fun (_ : Unit) => True) (fun _ => mm_B D cs A L K N z w res P) A) 0 0 A := by
  refine Met.ofW (cc := cX7_become) (maxL := 3) (ret := none) (by decide) rfl ?_
  intro p e s m args below meth c s₁ B hml hv
  obtain ⟨rfl, hBm⟩ := hv
  have hx := B.exec
  have hb := B.bytes
  have hr := B.returns
  have hts := atoms_spec (ws := wz_X7_become) B.pre
  have hWA : ∀ w ∈ WA, w.before ([.ref a0, .int x1, .int x2] : List Value).toArray s = true := fun u9 h9 => hts u9 (List.mem_cons_of_mem _ h9)
  have hown : s.vm.findClass RX7 = some m.cls := findClass_of_methodNamed B.named
  have hlocks := B.notSynchronized
  have S : CallFix p m c cX7_become 3 s ([.ref a0, .int x1, .int x2] : List Value).toArray wz_X7_become RX7 := ⟨hx, hb, hml, hown, hts⟩
  have hK := hBm.2.2.2.1
  have hZ := hBm.2.2.2.2
  have hM : mm_W D cs A L K N s.heap I P s.heap [] := ⟨hBm.1, hBm.2.1, hBm.2.2.1, va_S.rf⟩
  have hl := lv_entry ([.ref a0, .int x1, .int x2]) (n := 3) (Nat.le_of_ble_eq_true rfl)
  rw [lg_entry_eq]
  generalize (lg_sl ([.ref a0, .int x1, .int x2]) ++ List.replicate (3 - (lg_sl ([.ref a0, .int x1, .int x2])).length) Slot.unset).toArray = ls at hl ⊢
  have hl : lv_has ls 3 [(0, .ref a0), (1, .int x1), (2, .int x2)] := hl
  have hin7 : ∀ w ∈ wsX70, w ∈ wz_X7_become := fun w h => List.mem_cons_of_mem _ (wu_X7 w h)
  have lk9 : (Cond.fieldLink RX7 9 RX7 "sort" "I").before ([.ref a0, .int x1, .int x2] : List Value).toArray s = true := hWA _ wa_1_219
  have lk19 : (Cond.fieldLink RX7 19 RX7 "size" "I").before ([.ref a0, .int x1, .int x2] : List Value).toArray s = true := hWA _ wa_1_221
  have lk15 : (Cond.fieldLink RX7 15 RX7 "items" "[I").before ([.ref a0, .int x1, .int x2] : List Value).toArray s = true := hWA _ wa_1_223
  generalize hQ : MQ below (va_Qv (fun (_ : Unit) => True) (fun _ => mm_B D cs A L K N z w res P) A) ([.ref a0, .int x1, .int x2] : List Value).toArray s 0 0 A = QQ
  rw [fn_X7_become] at hf
  refine lv_aload_n hx hb dX7_become_0 rfl (lv_at hl 0 rfl) ?_
  refine lv_iload_n hx hb dX7_become_1 rfl (lv_at hl 1 rfl) ?_
  refine gd_e hf (fun hg1 hf => ?_)
  refine ev_put S hK hM (ci := 7) (n := 3) (C := RX7) (T := TX7) hin7 tyX7 tyX7_ok nmX7 rfl hg1 0 (by decide) lk9 rfl rfl rfl rfl rfl (Nat.le_of_ble_eq_true rfl) rfl dX7_become_2 (fun I2 eI2 H locs hM => ?_)
  have hf := nm_x eI2 hf
  refine lv_aload_n hx hb dX7_become_5 rfl (lv_at hl 0 rfl) ?_
  refine lv_iload_n hx hb dX7_become_6 rfl (lv_at hl 2 rfl) ?_
  refine ev_put S hK hM (ci := 7) (n := 3) (C := RX7) (T := TX7) hin7 tyX7 tyX7_ok nmX7 rfl hg1 1 (by decide) lk19 rfl rfl rfl rfl rfl (Nat.le_of_ble_eq_true rfl) rfl dX7_become_7 (fun I3 eI3 H locs hM => ?_)
  have hf := nm_x eI3 hf
  refine lv_aload_n hx hb dX7_become_10 rfl (lv_at hl 0 rfl) ?_
  refine bd_e hf (fun q4 eq4 hf => ?_)
  refine ev_getP (v := q4) S hK hM (ci := 7) (n := 3) (C := RX7) (T := TX7) hin7 rfl hg1 2 (by decide) lk15 rfl rfl eq4 rfl dX7_become_11 ?_
  refine lv_iconst (v := (0 : Int32)) hx hb dX7_become_14 (by decide) ?_
  refine bd_e hf (fun r5 er5 hf => ?_)
  refine ev_callv (va_runS (As := [.ref q4, .int (0 : Int32)]) (rest := []) S (c_J7_fill_53178 (l := l) I3 P q4 (0 : Int32) r5 er5) (va_cwS 2 hts (gi_s wa_4_82 wa_2_66 wa_1_12 wa_2_67) rfl rfl rfl (by decide +kernel) ⟨Nat.le_of_ble_eq_true rfl, Nat.le_of_ble_eq_true rfl⟩) ⟨mm_B_blind, fun U hU hW => ⟨rfl, mm_B_of hK hZ hM hU hW⟩⟩ rfl rfl hl.1 rfl (lv_room (Nat.le_of_ble_eq_true rfl)) dX7_become_15 ⟨Nat.zero_le _, Nat.zero_le _⟩) hM (fun H locs hM => ?_)
  obtain rfl := Option.some.inj hf
  subst hQ
  exact ev_vret S hr hlocks hK hZ hM dX7_become_18
noncomputable def fn_X7_set (K N : Nat → Nat) (I : Nat → Nat → Int32) (P : Nat → Nat → Option Nat) (a0 : Nat) (x1 : Int32) (x2 : Int32) : Option ((Nat → Nat → Int32)) := if x1 < 0 then (some I) else (gd (K a0 = 8) (if (I a0 1) ≤ x1 then (some I) else (Option.bind (P a0 (2)) (fun q4 => if (I a0 0) = 0 then (gd (K q4 = 12 ∧ vp_in x1 (N q4)) (Option.bind (some (up2 I q4 (x1.toNatClampNeg) (Int16.toInt32 (Int32.toInt16 x2)))) (fun I9 => some I9))) else (gd (K q4 = 12 ∧ vp_in x1 (N q4)) (Option.bind (some (up2 I q4 (x1.toNatClampNeg) x2)) (fun I7 => some I7)))))))
abbrev wz_X7_set : List Cond := Cond.code yX7_set cX7_set 3 none :: WA
abbrev rm_X7_set : Room := { frames := 1, cells := 0, slots := 0, locals := 12 }
set_option maxHeartbeats 4000000 in
set_option maxRecDepth 100000 in
theorem c_X7_set (I : Nat → Nat → Int32) (P : Nat → Nat → Option Nat) (a0 : Nat) (x1 : Int32) (x2 : Int32) (res : (Nat → Nat → Int32)) (hf : fn_X7_set K N I P a0 x1 x2 = some res) : Met l yX7_set wz_X7_set rm_X7_set (va_Pc [.ref a0, .int x1, .int x2] (mm_B D cs A L K N z w I P)) (va_Qv (fun (_ : Unit) => True) (fun _ => mm_B D cs A L K N z w res P) A) 0 0 A := by
  refine Met.ofW (cc := cX7_set) (maxL := 3) (ret := none) (by decide) rfl ?_
  intro p e s m args below meth c s₁ B hml hv
  obtain ⟨rfl, hBm⟩ := hv
  have hx := B.exec
  have hb := B.bytes
  have hr := B.returns
  have hts := atoms_spec (ws := wz_X7_set) B.pre
  have hWA : ∀ w ∈ WA, w.before ([.ref a0, .int x1, .int x2] : List Value).toArray s = true := fun u9 h9 => hts u9 (List.mem_cons_of_mem _ h9)
  have hown : s.vm.findClass RX7 = some m.cls := findClass_of_methodNamed B.named
  have hlocks := B.notSynchronized
  have S : CallFix p m c cX7_set 3 s ([.ref a0, .int x1, .int x2] : List Value).toArray wz_X7_set RX7 := ⟨hx, hb, hml, hown, hts⟩
  have hK := hBm.2.2.2.1
  have hZ := hBm.2.2.2.2
  have hM : mm_W D cs A L K N s.heap I P s.heap [] := ⟨hBm.1, hBm.2.1, hBm.2.2.1, va_S.rf⟩
  have hl := lv_entry ([.ref a0, .int x1, .int x2]) (n := 3) (Nat.le_of_ble_eq_true rfl)
  rw [lg_entry_eq]
  generalize (lg_sl ([.ref a0, .int x1, .int x2]) ++ List.replicate (3 - (lg_sl ([.ref a0, .int x1, .int x2])).length) Slot.unset).toArray = ls at hl ⊢
  have hl : lv_has ls 3 [(0, .ref a0), (1, .int x1), (2, .int x2)] := hl
  have hin7 : ∀ w ∈ wsX70, w ∈ wz_X7_set := fun w h => List.mem_cons_of_mem _ (wu_X7 w h)
  have lk19 : (Cond.fieldLink RX7 19 RX7 "size" "I").before ([.ref a0, .int x1, .int x2] : List Value).toArray s = true := hWA _ wa_1_221
  have lk15 : (Cond.fieldLink RX7 15 RX7 "items" "[I").before ([.ref a0, .int x1, .int x2] : List Value).toArray s = true := hWA _ wa_1_223
  have lk9 : (Cond.fieldLink RX7 9 RX7 "sort" "I").before ([.ref a0, .int x1, .int x2] : List Value).toArray s = true := hWA _ wa_1_219
  generalize hQ : MQ below (va_Qv (fun (_ : Unit) => True) (fun _ => mm_B D cs A L K N z w res P) A) ([.ref a0, .int x1, .int x2] : List Value).toArray s 0 0 A = QQ
  rw [fn_X7_set] at hf
  refine lv_iload_n hx hb dX7_set_0 rfl (lv_at hl 1 rfl) ?_
  refine lv_if_lt (tgt := 31) hx hb dX7_set_1 (by decide) (fun hc1 => ?_) (fun hc1 => ?_)
  · have hf := it_p hf hc1
    obtain rfl := Option.some.inj hf
    subst hQ
    exact ev_vret S hr hlocks hK hZ hM dX7_set_31
  · have hf := it_n hf hc1
    refine lv_iload_n hx hb dX7_set_4 rfl (lv_at hl 1 rfl) ?_
    refine lv_aload_n hx hb dX7_set_5 rfl (lv_at hl 0 rfl) ?_
    refine gd_e hf (fun hg2 hf => ?_)
    refine ev_get (v := .int (I a0 1)) S hK hM (ci := 7) (n := 3) (C := RX7) (T := TX7) hin7 rfl hg2 1 (by decide) lk19 rfl rfl rfl dX7_set_6 ?_
    refine lv_icmp_ge (tgt := 31) hx hb dX7_set_9 (by decide) (fun hc3 => ?_) (fun hc3 => ?_)
    · have hf := it_p hf hc3
      obtain rfl := Option.some.inj hf
      subst hQ
      exact ev_vret S hr hlocks hK hZ hM dX7_set_31
    · have hf := it_n hf hc3
      refine lv_aload_n hx hb dX7_set_12 rfl (lv_at hl 0 rfl) ?_
      refine bd_e hf (fun q4 eq4 hf => ?_)
      refine ev_getP (v := q4) S hK hM (ci := 7) (n := 3) (C := RX7) (T := TX7) hin7 rfl hg2 2 (by decide) lk15 rfl rfl eq4 rfl dX7_set_13 ?_
      refine lv_iload_n hx hb dX7_set_16 rfl (lv_at hl 1 rfl) ?_
      refine lv_aload_n hx hb dX7_set_17 rfl (lv_at hl 0 rfl) ?_
      refine ev_get (v := .int (I a0 0)) S hK hM (ci := 7) (n := 3) (C := RX7) (T := TX7) hin7 rfl hg2 0 (by decide) lk9 rfl rfl rfl dX7_set_18 ?_
      refine lv_if_ne (tgt := 29) hx hb dX7_set_21 (by decide) (fun hc5 => ?_) (fun hc5 => ?_)
      · have hf := it_n hf hc5
        refine lv_iload_n hx hb dX7_set_29 rfl (lv_at hl 2 rfl) ?_
        refine gd_e hf (fun hg6 hf => ?_)
        refine ev_iast S hK hM hg6 (j := x1.toNatClampNeg) rfl dX7_set_30 (fun I7 eI7 H locs hM => ?_)
        have hf := nm_x eI7 hf
        obtain rfl := Option.some.inj hf
        subst hQ
        exact ev_vret S hr hlocks hK hZ hM dX7_set_31
      · have hf := it_p hf hc5
        refine lv_iload_n hx hb dX7_set_24 rfl (lv_at hl 2 rfl) ?_
        refine lv_i2s (v := (Int16.toInt32 (Int32.toInt16 x2))) hx hb dX7_set_25 rfl ?_
        refine lv_goto (tgt := 30) hx hb dX7_set_26 (by decide) ?_
        refine gd_e hf (fun hg8 hf => ?_)
        refine ev_iast S hK hM hg8 (j := x1.toNatClampNeg) rfl dX7_set_30 (fun I9 eI9 H locs hM => ?_)
        have hf := nm_x eI9 hf
        obtain rfl := Option.some.inj hf
        subst hQ
        exact ev_vret S hr hlocks hK hZ hM dX7_set_31
end G02
