section G08
variable {l : Launch} {D : va_G} {cs : mm_C} {A : Nat → Prop} {L : List Nat} {K N z : Nat → Nat} {w : Option Nat}
noncomputable def fn_X10_film_L37 (K : Nat → Nat) (N : Nat → Nat) (a0 : Nat) (x1 : Int32) (x2 : Int32) (P : Nat → Nat → Option Nat) : Nat → Int32 → (Nat → Nat → Int32) → Option ((Nat → Nat → Int32))
  | 0, _, _ => none
  | n + 1, v12, I13 => if (16 : Int32) ≤ v12 then (some I13) else (Option.bind (P a0 (22)) (fun q16 => Option.bind (fn_X10_dotOf v12 x2) (fun (r17 : Int32) => Option.bind (fn_X10_seen_ K N I13 P a0 r17) (fun (r18 : Int32) => gd (K q16 = 12 ∧ vp_in (((40 : Int32) * x1) + v12) (N q16)) (Option.bind (some (up2 I13 q16 ((((40 : Int32) * x1) + v12)).toNatClampNeg r18)) (fun I20 => fn_X10_film_L37 K N a0 x1 x2 P n (v12 + (1 : Int32)) I20))))))
noncomputable def fn_X10_film (K N : Nat → Nat) (I : Nat → Nat → Int32) (P : Nat → Nat → Option Nat) (a0 : Nat) (x1 : Int32) (x2 : Int32) : Option (Int32 × (Nat → Nat → Int32)) := Option.bind (fn_X10_isSheet x1) (fun (r1 : Int32) => if r1 = 0 then (some ((-2 : Int32), I)) else (Option.bind (fn_X10_isIn x2 (0 : Int32) (11 : Int32)) (fun (r3 : Int32) => if r3 = 0 then (some ((-2 : Int32), I)) else (gd (K a0 = 11) (Option.bind (P a0 (20)) (fun q6 => gd (K q6 = 12 ∧ vp_in x1 (N q6)) (Option.bind (some (up2 I q6 (x1.toNatClampNeg) (0 : Int32))) (fun I8 => Option.bind (P a0 (21)) (fun q9 => gd (K q9 = 12 ∧ vp_in x1 (N q9)) (Option.bind (some (up2 I8 q9 (x1.toNatClampNeg) (16 : Int32))) (fun I11 => Option.bind (fn_X10_film_L37 K N a0 x1 x2 P FU (0 : Int32) I11) (fun (r14 : (Nat → Nat → Int32)) => some ((16 : Int32), r14)))))))))))))
abbrev wz_X10_film : List Cond := Cond.code yX10_film cX10_film 4 (some .int) :: WA
abbrev rm_X10_film : Room := { frames := 5, cells := 0, slots := 0, locals := 102 }
set_option maxHeartbeats 4000000 in
set_option maxRecDepth 100000 in
theorem c_X10_film (I : Nat → Nat → Int32) (P : Nat → Nat → Option Nat) (a0 : Nat) (x1 : Int32) (x2 : Int32) (res : Int32 × (Nat → Nat → Int32)) (hf : fn_X10_film K N I P a0 x1 x2 = some res) : Met l yX10_film wz_X10_film rm_X10_film (va_Pc [.ref a0, .int x1, .int x2] (mm_B D cs A L K N z w I P)) (va_Qi (fun r (_ : Unit) => r = res.1) (fun _ => mm_B D cs A L K N z w res.2 P) A) 0 0 A := by
  refine Met.ofW (cc := cX10_film) (maxL := 4) (ret := (some .int)) (by decide) rfl ?_
  intro p e s m args below meth c s₁ B hml hv
  obtain ⟨rfl, hBm⟩ := hv
  have hx := B.exec
  have hb := B.bytes
  have hr := B.returns
  have hts := atoms_spec (ws := wz_X10_film) B.pre
  have hWA : ∀ w ∈ WA, w.before ([.ref a0, .int x1, .int x2] : List Value).toArray s = true := fun u9 h9 => hts u9 (List.mem_cons_of_mem _ h9)
  have hown : s.vm.findClass RX10 = some m.cls := findClass_of_methodNamed B.named
  have hlocks := B.notSynchronized
  have S : CallFix p m c cX10_film 4 s ([.ref a0, .int x1, .int x2] : List Value).toArray wz_X10_film RX10 := ⟨hx, hb, hml, hown, hts⟩
  have hK := hBm.2.2.2.1
  have hZ := hBm.2.2.2.2
  have hM : mm_W D cs A L K N s.heap I P s.heap [] := ⟨hBm.1, hBm.2.1, hBm.2.2.1, va_S.rf⟩
  have hl := lv_entry ([.ref a0, .int x1, .int x2]) (n := 4) (Nat.le_of_ble_eq_true rfl)
  rw [lg_entry_eq]
  generalize (lg_sl ([.ref a0, .int x1, .int x2]) ++ List.replicate (4 - (lg_sl ([.ref a0, .int x1, .int x2])).length) Slot.unset).toArray = ls at hl ⊢
  have hl : lv_has ls 4 [(0, .ref a0), (1, .int x1), (2, .int x2)] := hl
  have hin10 : ∀ w ∈ wsX100, w ∈ wz_X10_film := fun w h => List.mem_cons_of_mem _ (wu_X10 w h)
  have lk34 : (Cond.fieldLink RX10 34 RX10 "sort" "[I").before ([.ref a0, .int x1, .int x2] : List Value).toArray s = true := hWA _ wa_4_161
  have lk37 : (Cond.fieldLink RX10 37 RX10 "size" "[I").before ([.ref a0, .int x1, .int x2] : List Value).toArray s = true := hWA _ wa_4_162
  have lk40 : (Cond.fieldLink RX10 40 RX10 "item" "[I").before ([.ref a0, .int x1, .int x2] : List Value).toArray s = true := hWA _ wa_4_163
  generalize hQ : MQ below (va_Qi (fun r (_ : Unit) => r = res.1) (fun _ => mm_B D cs A L K N z w res.2 P) A) ([.ref a0, .int x1, .int x2] : List Value).toArray s 0 0 A = QQ
  rw [fn_X10_film] at hf
  refine lv_iload_n hx hb dX10_film_0 rfl (lv_at hl 1 rfl) ?_
  refine bd_e hf (fun r1 er1 hf => ?_)
  refine ev_calli (va_runS (As := [.int x1]) (rest := []) S (c_X10_isSheet (l := l) I P x1 r1 er1) (va_cwS 1 hts (gi_s wa_6_15 wa_6_16 wa_1_11 wa_6_17) rfl rfl rfl (by decide +kernel) ⟨Nat.le_of_ble_eq_true rfl, Nat.le_of_ble_eq_true rfl⟩) ⟨mm_B_blind, fun U hU hW => ⟨rfl, mm_B_of hK hZ hM hU hW⟩⟩ rfl rfl hl.1 rfl (lv_room (Nat.le_of_ble_eq_true rfl)) dX10_film_1 ⟨Nat.zero_le _, Nat.zero_le _⟩) hM (fun H locs hM => ?_)
  refine lv_if_eq (tgt := 17) hx hb dX10_film_4 (by decide) (fun hc2 => ?_) (fun hc2 => ?_)
  · have hf := it_p hf hc2
    refine lv_bipush (v := (-2 : Int32)) hx hb dX10_film_17 (by decide) ?_
    obtain rfl := Option.some.inj hf
    subst hQ
    exact ev_iret S hr hlocks hK hZ hM dX10_film_19
  · have hf := it_n hf hc2
    refine lv_iload_n hx hb dX10_film_7 rfl (lv_at hl 2 rfl) ?_
    refine lv_iconst (v := (0 : Int32)) hx hb dX10_film_8 (by decide) ?_
    refine lv_bipush (v := (11 : Int32)) hx hb dX10_film_9 (by decide) ?_
    refine bd_e hf (fun r3 er3 hf => ?_)
    refine ev_calli (va_runS (As := [.int x2, .int (0 : Int32), .int (11 : Int32)]) (rest := []) S (c_X10_isIn (l := l) I P x2 (0 : Int32) (11 : Int32) r3 er3) (va_cwS 3 hts (gi_s wa_4_218 wa_4_219 wa_1_11 wa_4_220) rfl rfl rfl (by decide +kernel) ⟨Nat.le_of_ble_eq_true rfl, Nat.le_of_ble_eq_true rfl⟩) ⟨mm_B_blind, fun U hU hW => ⟨rfl, mm_B_of hK hZ hM hU hW⟩⟩ rfl rfl hl.1 rfl (lv_room (Nat.le_of_ble_eq_true rfl)) dX10_film_11 ⟨Nat.zero_le _, Nat.zero_le _⟩) hM (fun H locs hM => ?_)
    refine lv_if_ne (tgt := 20) hx hb dX10_film_14 (by decide) (fun hc4 => ?_) (fun hc4 => ?_)
    · have hf := it_n hf hc4
      refine lv_aload_n hx hb dX10_film_20 rfl (lv_at hl 0 rfl) ?_
      refine gd_e hf (fun hg5 hf => ?_)
      refine bd_e hf (fun q6 eq6 hf => ?_)
      refine ev_getP (v := q6) S hK hM (ci := 10) (n := 23) (C := RX10) (T := TX10) hin10 rfl hg5 20 (by decide) lk34 rfl rfl eq6 rfl dX10_film_21 ?_
      refine lv_iload_n hx hb dX10_film_24 rfl (lv_at hl 1 rfl) ?_
      refine lv_iconst (v := (0 : Int32)) hx hb dX10_film_25 (by decide) ?_
      refine gd_e hf (fun hg7 hf => ?_)
      refine ev_iast S hK hM hg7 (j := x1.toNatClampNeg) rfl dX10_film_26 (fun I8 eI8 H locs hM => ?_)
      have hf := nm_x eI8 hf
      refine lv_aload_n hx hb dX10_film_27 rfl (lv_at hl 0 rfl) ?_
      refine bd_e hf (fun q9 eq9 hf => ?_)
      refine ev_getP (v := q9) S hK hM (ci := 10) (n := 23) (C := RX10) (T := TX10) hin10 rfl hg5 21 (by decide) lk37 rfl rfl eq9 rfl dX10_film_28 ?_
      refine lv_iload_n hx hb dX10_film_31 rfl (lv_at hl 1 rfl) ?_
      refine lv_bipush (v := (16 : Int32)) hx hb dX10_film_32 (by decide) ?_
      refine gd_e hf (fun hg10 hf => ?_)
      refine ev_iast S hK hM hg10 (j := x1.toNatClampNeg) rfl dX10_film_34 (fun I11 eI11 H locs hM => ?_)
      have hf := nm_x eI11 hf
      refine lv_iconst (v := (0 : Int32)) hx hb dX10_film_35 (by decide) ?_
      refine lv_istore_n (lv' := [(3, .int (0 : Int32)), (0, .ref a0), (1, .int x1), (2, .int x2)]) hx hb dX10_film_36 rfl hl (by decide) rfl (fun ls hl => ?_)
      have lp37_20 : ∀ (n : Nat) (v12 : Int32) (I13 : Nat → Nat → Int32) (H : Heap) (locs : List Loc) (ls : Array Slot) (r14 : (Nat → Nat → Int32)), mm_W D cs A L K N s.heap I13 P H locs → lv_has ls 4 [(0, .ref a0), (1, .int x1), (2, .int x2), (3, .int v12)] → fn_X10_film_L37 K N a0 x1 x2 P n v12 I13 = some r14 → (∀ (H : Heap) (locs : List Loc) (ls : Array Slot), mm_W D cs A L K N s.heap r14 P H locs → lv_has ls 4 [] → W p l e (headSpec wz_X10_film rm_X10_film).room s m ([.ref a0, .int x1, .int x2] : List Value).toArray below meth c H locs 0 0 QQ (F0 m 69 ls [])) → W p l e (headSpec wz_X10_film rm_X10_film).room s m ([.ref a0, .int x1, .int x2] : List Value).toArray below meth c H locs 0 0 QQ (F0 m 37 ls []) := by
        intro n
        induction n with
        | zero => intro v12 I13 H locs ls r14 hM hl hf kk; exact nn_x (show (none : Option ((Nat → Nat → Int32))) = some r14 from hf)
        | succ n ih =>
          intro v12 I13 H locs ls r14 hM hl hf kk
          rw [fn_X10_film_L37] at hf
          refine lv_iload_n hx hb dX10_film_37 rfl (lv_at hl 3 rfl) ?_
          refine lv_bipush (v := (16 : Int32)) hx hb dX10_film_38 (by decide) ?_
          refine lv_icmp_ge (tgt := 69) hx hb dX10_film_40 (by decide) (fun hc15 => ?_) (fun hc15 => ?_)
          · have hf := it_p hf hc15
            obtain rfl := Option.some.inj hf
            exact kk _ _ _ hM (lv_sub hl [] rfl)
          · have hf := it_n hf hc15
            refine lv_aload_n hx hb dX10_film_43 rfl (lv_at hl 0 rfl) ?_
            refine bd_e hf (fun q16 eq16 hf => ?_)
            refine ev_getP (v := q16) S hK hM (ci := 10) (n := 23) (C := RX10) (T := TX10) hin10 rfl hg5 22 (by decide) lk40 rfl rfl eq16 rfl dX10_film_44 ?_
            refine lv_bipush (v := (40 : Int32)) hx hb dX10_film_47 (by decide) ?_
            refine lv_iload_n hx hb dX10_film_49 rfl (lv_at hl 1 rfl) ?_
            refine lv_imul hx hb dX10_film_50 ?_
            refine lv_iload_n hx hb dX10_film_51 rfl (lv_at hl 3 rfl) ?_
            refine lv_iadd hx hb dX10_film_52 ?_
            refine lv_aload_n hx hb dX10_film_53 rfl (lv_at hl 0 rfl) ?_
            refine lv_iload_n hx hb dX10_film_54 rfl (lv_at hl 3 rfl) ?_
            refine lv_iload_n hx hb dX10_film_55 rfl (lv_at hl 2 rfl) ?_
            refine bd_e hf (fun r17 er17 hf => ?_)
            refine ev_calli (va_runS (As := [.int v12, .int x2]) (rest := [.ref a0, .int (((40 : Int32) * x1) + v12), .ref q16]) S (c_X10_dotOf (l := l) I13 P v12 x2 r17 er17) (va_cwS 2 hts (gi_s wa_5_43 wa_5_44 wa_1_11 wa_5_45) rfl rfl rfl (by decide +kernel) ⟨Nat.le_of_ble_eq_true rfl, Nat.le_of_ble_eq_true rfl⟩) ⟨mm_B_blind, fun U hU hW => ⟨rfl, mm_B_of hK hZ hM hU hW⟩⟩ rfl rfl hl.1 rfl (lv_room (Nat.le_of_ble_eq_true rfl)) dX10_film_56 ⟨Nat.zero_le _, Nat.zero_le _⟩) hM (fun H locs hM => ?_)
            refine bd_e hf (fun r18 er18 hf => ?_)
            refine ev_calli (va_runV (As := [.int r17]) (rest := [.int (((40 : Int32) * x1) + v12), .ref q16]) S (c_X10_seen_ (l := l) I13 P a0 r17 r18 er18) (cwV 1 hts (gi_v wa_5_46 wa_5_48 wa_s_32 wa_1_11 wa_5_49) rfl rfl rfl (by decide +kernel) ⟨Nat.le_of_ble_eq_true rfl, Nat.le_of_ble_eq_true rfl⟩) ⟨mm_B_blind, ev_recv hK hM (ci := 10) rfl hg5 rfl, fun U hU hW => ⟨rfl, mm_B_of hK hZ hM hU hW⟩⟩ rfl rfl hl.1 rfl (lv_room (Nat.le_of_ble_eq_true rfl)) dX10_film_59 ⟨Nat.zero_le _, Nat.zero_le _⟩) hM (fun H locs hM => ?_)
            refine gd_e hf (fun hg19 hf => ?_)
            refine ev_iast S hK hM hg19 (j := ((((40 : Int32) * x1) + v12)).toNatClampNeg) rfl dX10_film_62 (fun I20 eI20 H locs hM => ?_)
            have hf := nm_x eI20 hf
            refine lv_iinc (v := (v12 + (1 : Int32))) (lv' := [(3, .int (v12 + (1 : Int32))), (0, .ref a0), (1, .int x1), (2, .int x2)]) hx hb dX10_film_63 hl (k := 3) rfl rfl (by decide) rfl (fun ls hl => ?_)
            refine lv_goto (tgt := 37) hx hb dX10_film_66 (by decide) ?_
            exact ih (v12 + (1 : Int32)) I20 _ _ _ _ hM (lv_sub hl [1, 2, 3, 0] rfl) hf kk
      refine bd_e hf (fun r14 er14 hf => ?_)
      refine lp37_20 FU (0 : Int32) I11 _ _ _ r14 hM (lv_sub hl [1, 2, 3, 0] rfl) er14 (fun H locs ls hM hl => ?_)
      refine lv_bipush (v := (16 : Int32)) hx hb dX10_film_69 (by decide) ?_
      obtain rfl := Option.some.inj hf
      subst hQ
      exact ev_iret S hr hlocks hK hZ hM dX10_film_71
    · have hf := it_p hf hc4
      refine lv_bipush (v := (-2 : Int32)) hx hb dX10_film_17 (by decide) ?_
      obtain rfl := Option.some.inj hf
      subst hQ
      exact ev_iret S hr hlocks hK hZ hM dX10_film_19
noncomputable def fn_X10_sheet_L68 (K : Nat → Nat) (N : Nat → Nat) (a0 : Nat) (x1 : Int32) (P : Nat → Nat → Option Nat) : Nat → Int32 → (Nat → Nat → Int32) → Option ((Nat → Nat → Int32))
  | 0, _, _ => none
  | n + 1, v16, I17 => if (40 : Int32) ≤ v16 then (some I17) else (Option.bind (P a0 (22)) (fun q20 => gd (K q20 = 12 ∧ vp_in (((40 : Int32) * x1) + v16) (N q20)) (Option.bind (some (up2 I17 q20 ((((40 : Int32) * x1) + v16)).toNatClampNeg (0 : Int32))) (fun I22 => fn_X10_sheet_L68 K N a0 x1 P n (v16 + (1 : Int32)) I22))))
noncomputable def fn_X10_sheet (K N : Nat → Nat) (I : Nat → Nat → Int32) (P : Nat → Nat → Option Nat) (a0 : Nat) (x1 : Int32) (x2 : Int32) (x3 : Int32) : Option (Int32 × (Nat → Nat → Int32)) := Option.bind (fn_X10_isSheet x1) (fun (r1 : Int32) => if r1 = 0 then (some ((-2 : Int32), I)) else (Option.bind (fn_X10_isIn x2 (-1 : Int32) (1 : Int32)) (fun (r3 : Int32) => if r3 = 0 then (some ((-2 : Int32), I)) else (if x2 = (-1 : Int32) then (if x2 = (-1 : Int32) then (gd (K a0 = 11) (Option.bind (P a0 (20)) (fun q8 => gd (K q8 = 12 ∧ vp_in x1 (N q8)) (Option.bind (some (up2 I q8 (x1.toNatClampNeg) x2)) (fun I10 => Option.bind (P a0 (21)) (fun q11 => Option.bind (if x2 = (-1 : Int32) then (some (0 : Int32)) else (some x3)) (fun (j13 : Int32) => gd (K q11 = 12 ∧ vp_in x1 (N q11)) (Option.bind (some (up2 I10 q11 (x1.toNatClampNeg) j13)) (fun I15 => Option.bind (fn_X10_sheet_L68 K N a0 x1 P FU (0 : Int32) I15) (fun (r18 : (Nat → Nat → Int32)) => some ((1 : Int32), r18))))))))))) else (if 0 ≤ x3 then (gd (K a0 = 11) (Option.bind (P a0 (20)) (fun q25 => gd (K q25 = 12 ∧ vp_in x1 (N q25)) (Option.bind (some (up2 I q25 (x1.toNatClampNeg) x2)) (fun I27 => Option.bind (P a0 (21)) (fun q28 => Option.bind (if x2 = (-1 : Int32) then (some (0 : Int32)) else (some x3)) (fun (j30 : Int32) => gd (K q28 = 12 ∧ vp_in x1 (N q28)) (Option.bind (some (up2 I27 q28 (x1.toNatClampNeg) j30)) (fun I32 => Option.bind (fn_X10_sheet_L68 K N a0 x1 P FU (0 : Int32) I32) (fun (r35 : (Nat → Nat → Int32)) => some ((1 : Int32), r35))))))))))) else (some ((-14 : Int32), I)))) else (if x3 ≤ (40 : Int32) then (if x2 = (-1 : Int32) then (gd (K a0 = 11) (Option.bind (P a0 (20)) (fun q43 => gd (K q43 = 12 ∧ vp_in x1 (N q43)) (Option.bind (some (up2 I q43 (x1.toNatClampNeg) x2)) (fun I45 => Option.bind (P a0 (21)) (fun q46 => Option.bind (if x2 = (-1 : Int32) then (some (0 : Int32)) else (some x3)) (fun (j48 : Int32) => gd (K q46 = 12 ∧ vp_in x1 (N q46)) (Option.bind (some (up2 I45 q46 (x1.toNatClampNeg) j48)) (fun I50 => Option.bind (fn_X10_sheet_L68 K N a0 x1 P FU (0 : Int32) I50) (fun (r53 : (Nat → Nat → Int32)) => some ((1 : Int32), r53))))))))))) else (if 0 ≤ x3 then (gd (K a0 = 11) (Option.bind (P a0 (20)) (fun q60 => gd (K q60 = 12 ∧ vp_in x1 (N q60)) (Option.bind (some (up2 I q60 (x1.toNatClampNeg) x2)) (fun I62 => Option.bind (P a0 (21)) (fun q63 => Option.bind (if x2 = (-1 : Int32) then (some (0 : Int32)) else (some x3)) (fun (j65 : Int32) => gd (K q63 = 12 ∧ vp_in x1 (N q63)) (Option.bind (some (up2 I62 q63 (x1.toNatClampNeg) j65)) (fun I67 => Option.bind (fn_X10_sheet_L68 K N a0 x1 P FU (0 : Int32) I67) (fun (r70 : (Nat → Nat → Int32)) => some ((1 : Int32), r70))))))))))) else (some ((-14 : Int32), I)))) else (some ((-2 : Int32), I)))))))
abbrev wz_X10_sheet : List Cond := Cond.code yX10_sheet cX10_sheet 5 (some .int) :: WA
abbrev rm_X10_sheet : Room := { frames := 3, cells := 0, slots := 0, locals := 54 }
set_option maxHeartbeats 4000000 in
set_option maxRecDepth 100000 in
theorem c_X10_sheet (I : Nat → Nat → Int32) (P : Nat → Nat → Option Nat) (a0 : Nat) (x1 : Int32) (x2 : Int32) (x3 : Int32) (res : Int32 × (Nat → Nat → Int32)) (hf : fn_X10_sheet K N I P a0 x1 x2 x3 = some res) : Met l yX10_sheet wz_X10_sheet rm_X10_sheet (va_Pc [.ref a0, .int x1, .int x2, .int x3] (mm_B D cs A L K N z w I P)) (va_Qi (fun r (_ : Unit) => r = res.1) (fun _ => mm_B D cs A L K N z w res.2 P) A) 0 0 A := by
  refine Met.ofW (cc := cX10_sheet) (maxL := 5) (ret := (some .int)) (by decide) rfl ?_
  intro p e s m args below meth c s₁ B hml hv
  obtain ⟨rfl, hBm⟩ := hv
  have hx := B.exec
  have hb := B.bytes
  have hr := B.returns
  have hts := atoms_spec (ws := wz_X10_sheet) B.pre
  have hWA : ∀ w ∈ WA, w.before ([.ref a0, .int x1, .int x2, .int x3] : List Value).toArray s = true := fun u9 h9 => hts u9 (List.mem_cons_of_mem _ h9)
  have hown : s.vm.findClass RX10 = some m.cls := findClass_of_methodNamed B.named
  have hlocks := B.notSynchronized
  have S : CallFix p m c cX10_sheet 5 s ([.ref a0, .int x1, .int x2, .int x3] : List Value).toArray wz_X10_sheet RX10 := ⟨hx, hb, hml, hown, hts⟩
  have hK := hBm.2.2.2.1
  have hZ := hBm.2.2.2.2
  have hM : mm_W D cs A L K N s.heap I P s.heap [] := ⟨hBm.1, hBm.2.1, hBm.2.2.1, va_S.rf⟩
  have hl := lv_entry ([.ref a0, .int x1, .int x2, .int x3]) (n := 5) (Nat.le_of_ble_eq_true rfl)
  rw [lg_entry_eq]
  generalize (lg_sl ([.ref a0, .int x1, .int x2, .int x3]) ++ List.replicate (5 - (lg_sl ([.ref a0, .int x1, .int x2, .int x3])).length) Slot.unset).toArray = ls at hl ⊢
  have hl : lv_has ls 5 [(0, .ref a0), (1, .int x1), (2, .int x2), (3, .int x3)] := hl
  have hin10 : ∀ w ∈ wsX100, w ∈ wz_X10_sheet := fun w h => List.mem_cons_of_mem _ (wu_X10 w h)
  have lk34 : (Cond.fieldLink RX10 34 RX10 "sort" "[I").before ([.ref a0, .int x1, .int x2, .int x3] : List Value).toArray s = true := hWA _ wa_4_161
  have lk37 : (Cond.fieldLink RX10 37 RX10 "size" "[I").before ([.ref a0, .int x1, .int x2, .int x3] : List Value).toArray s = true := hWA _ wa_4_162
  have lk40 : (Cond.fieldLink RX10 40 RX10 "item" "[I").before ([.ref a0, .int x1, .int x2, .int x3] : List Value).toArray s = true := hWA _ wa_4_163
  generalize hQ : MQ below (va_Qi (fun r (_ : Unit) => r = res.1) (fun _ => mm_B D cs A L K N z w res.2 P) A) ([.ref a0, .int x1, .int x2, .int x3] : List Value).toArray s 0 0 A = QQ
  rw [fn_X10_sheet] at hf
  refine lv_iload_n hx hb dX10_sheet_0 rfl (lv_at hl 1 rfl) ?_
  refine bd_e hf (fun r1 er1 hf => ?_)
  refine ev_calli (va_runS (As := [.int x1]) (rest := []) S (c_X10_isSheet (l := l) I P x1 r1 er1) (va_cwS 1 hts (gi_s wa_6_15 wa_6_16 wa_1_11 wa_6_17) rfl rfl rfl (by decide +kernel) ⟨Nat.le_of_ble_eq_true rfl, Nat.le_of_ble_eq_true rfl⟩) ⟨mm_B_blind, fun U hU hW => ⟨rfl, mm_B_of hK hZ hM hU hW⟩⟩ rfl rfl hl.1 rfl (lv_room (Nat.le_of_ble_eq_true rfl)) dX10_sheet_1 ⟨Nat.zero_le _, Nat.zero_le _⟩) hM (fun H locs hM => ?_)
  refine lv_if_eq (tgt := 27) hx hb dX10_sheet_4 (by decide) (fun hc2 => ?_) (fun hc2 => ?_)
  · have hf := it_p hf hc2
    refine lv_bipush (v := (-2 : Int32)) hx hb dX10_sheet_27 (by decide) ?_
    obtain rfl := Option.some.inj hf
    subst hQ
    exact ev_iret S hr hlocks hK hZ hM dX10_sheet_29
  · have hf := it_n hf hc2
    refine lv_iload_n hx hb dX10_sheet_7 rfl (lv_at hl 2 rfl) ?_
    refine lv_iconst (v := (-1 : Int32)) hx hb dX10_sheet_8 (by decide) ?_
    refine lv_iconst (v := (1 : Int32)) hx hb dX10_sheet_9 (by decide) ?_
    refine bd_e hf (fun r3 er3 hf => ?_)
    refine ev_calli (va_runS (As := [.int x2, .int (-1 : Int32), .int (1 : Int32)]) (rest := []) S (c_X10_isIn (l := l) I P x2 (-1 : Int32) (1 : Int32) r3 er3) (va_cwS 3 hts (gi_s wa_4_218 wa_4_219 wa_1_11 wa_4_220) rfl rfl rfl (by decide +kernel) ⟨Nat.le_of_ble_eq_true rfl, Nat.le_of_ble_eq_true rfl⟩) ⟨mm_B_blind, fun U hU hW => ⟨rfl, mm_B_of hK hZ hM hU hW⟩⟩ rfl rfl hl.1 rfl (lv_room (Nat.le_of_ble_eq_true rfl)) dX10_sheet_10 ⟨Nat.zero_le _, Nat.zero_le _⟩) hM (fun H locs hM => ?_)
    refine lv_if_eq (tgt := 27) hx hb dX10_sheet_13 (by decide) (fun hc4 => ?_) (fun hc4 => ?_)
    · have hf := it_p hf hc4
      refine lv_bipush (v := (-2 : Int32)) hx hb dX10_sheet_27 (by decide) ?_
      obtain rfl := Option.some.inj hf
      subst hQ
      exact ev_iret S hr hlocks hK hZ hM dX10_sheet_29
    · have hf := it_n hf hc4
      refine lv_iload_n hx hb dX10_sheet_16 rfl (lv_at hl 2 rfl) ?_
      refine lv_iconst (v := (-1 : Int32)) hx hb dX10_sheet_17 (by decide) ?_
      refine lv_icmp_eq (tgt := 30) hx hb dX10_sheet_18 (by decide) (fun hc5 => ?_) (fun hc5 => ?_)
      · have hf := it_p hf hc5
        refine lv_iload_n hx hb dX10_sheet_30 rfl (lv_at hl 2 rfl) ?_
        refine lv_iconst (v := (-1 : Int32)) hx hb dX10_sheet_31 (by decide) ?_
        refine lv_icmp_eq (tgt := 42) hx hb dX10_sheet_32 (by decide) (fun hc6 => ?_) (fun hc6 => ?_)
        · have hf := it_p hf hc6
          refine lv_aload_n hx hb dX10_sheet_42 rfl (lv_at hl 0 rfl) ?_
          refine gd_e hf (fun hg7 hf => ?_)
          refine bd_e hf (fun q8 eq8 hf => ?_)
          refine ev_getP (v := q8) S hK hM (ci := 10) (n := 23) (C := RX10) (T := TX10) hin10 rfl hg7 20 (by decide) lk34 rfl rfl eq8 rfl dX10_sheet_43 ?_
          refine lv_iload_n hx hb dX10_sheet_46 rfl (lv_at hl 1 rfl) ?_
          refine lv_iload_n hx hb dX10_sheet_47 rfl (lv_at hl 2 rfl) ?_
          refine gd_e hf (fun hg9 hf => ?_)
          refine ev_iast S hK hM hg9 (j := x1.toNatClampNeg) rfl dX10_sheet_48 (fun I10 eI10 H locs hM => ?_)
          have hf := nm_x eI10 hf
          refine lv_aload_n hx hb dX10_sheet_49 rfl (lv_at hl 0 rfl) ?_
          refine bd_e hf (fun q11 eq11 hf => ?_)
          refine ev_getP (v := q11) S hK hM (ci := 10) (n := 23) (C := RX10) (T := TX10) hin10 rfl hg7 21 (by decide) lk37 rfl rfl eq11 rfl dX10_sheet_50 ?_
          refine lv_iload_n hx hb dX10_sheet_53 rfl (lv_at hl 1 rfl) ?_
          refine lv_iload_n hx hb dX10_sheet_54 rfl (lv_at hl 2 rfl) ?_
          refine lv_iconst (v := (-1 : Int32)) hx hb dX10_sheet_55 (by decide) ?_
          refine bd_e hf (fun j13 ej13 hf => ?_)
          have kj13 : ∀ (H : Heap) (locs : List Loc) (ls : Array Slot), mm_W D cs A L K N s.heap I10 P H locs → lv_has ls 5 [(0, .ref a0), (1, .int x1)] → W p l e (headSpec wz_X10_sheet rm_X10_sheet).room s m ([.ref a0, .int x1, .int x2, .int x3] : List Value).toArray below meth c H locs 0 0 QQ (F0 m 64 ls [.int j13, .int x1, .ref q11]) := by
            intro H locs ls hM hl
            refine gd_e hf (fun hg14 hf => ?_)
            refine ev_iast S hK hM hg14 (j := x1.toNatClampNeg) rfl dX10_sheet_64 (fun I15 eI15 H locs hM => ?_)
            have hf := nm_x eI15 hf
            refine lv_iconst (v := (0 : Int32)) hx hb dX10_sheet_65 (by decide) ?_
            refine lv_istore (lv' := [(4, .int (0 : Int32)), (0, .ref a0), (1, .int x1)]) hx hb dX10_sheet_66 hl (by decide) rfl (fun ls hl => ?_)
            have lp68_22 : ∀ (n : Nat) (v16 : Int32) (I17 : Nat → Nat → Int32) (H : Heap) (locs : List Loc) (ls : Array Slot) (r18 : (Nat → Nat → Int32)), mm_W D cs A L K N s.heap I17 P H locs → lv_has ls 5 [(0, .ref a0), (1, .int x1), (4, .int v16)] → fn_X10_sheet_L68 K N a0 x1 P n v16 I17 = some r18 → (∀ (H : Heap) (locs : List Loc) (ls : Array Slot), mm_W D cs A L K N s.heap r18 P H locs → lv_has ls 5 [] → W p l e (headSpec wz_X10_sheet rm_X10_sheet).room s m ([.ref a0, .int x1, .int x2, .int x3] : List Value).toArray below meth c H locs 0 0 QQ (F0 m 94 ls [])) → W p l e (headSpec wz_X10_sheet rm_X10_sheet).room s m ([.ref a0, .int x1, .int x2, .int x3] : List Value).toArray below meth c H locs 0 0 QQ (F0 m 68 ls []) := by
              intro n
              induction n with
              | zero => intro v16 I17 H locs ls r18 hM hl hf kk; exact nn_x (show (none : Option ((Nat → Nat → Int32))) = some r18 from hf)
              | succ n ih =>
                intro v16 I17 H locs ls r18 hM hl hf kk
                rw [fn_X10_sheet_L68] at hf
                refine lv_iload hx hb dX10_sheet_68 (lv_at hl 2 rfl) ?_
                refine lv_bipush (v := (40 : Int32)) hx hb dX10_sheet_70 (by decide) ?_
                refine lv_icmp_ge (tgt := 94) hx hb dX10_sheet_72 (by decide) (fun hc19 => ?_) (fun hc19 => ?_)
                · have hf := it_p hf hc19
                  obtain rfl := Option.some.inj hf
                  exact kk _ _ _ hM (lv_sub hl [] rfl)
                · have hf := it_n hf hc19
                  refine lv_aload_n hx hb dX10_sheet_75 rfl (lv_at hl 0 rfl) ?_
                  refine bd_e hf (fun q20 eq20 hf => ?_)
                  refine ev_getP (v := q20) S hK hM (ci := 10) (n := 23) (C := RX10) (T := TX10) hin10 rfl hg7 22 (by decide) lk40 rfl rfl eq20 rfl dX10_sheet_76 ?_
                  refine lv_bipush (v := (40 : Int32)) hx hb dX10_sheet_79 (by decide) ?_
                  refine lv_iload_n hx hb dX10_sheet_81 rfl (lv_at hl 1 rfl) ?_
                  refine lv_imul hx hb dX10_sheet_82 ?_
                  refine lv_iload hx hb dX10_sheet_83 (lv_at hl 2 rfl) ?_
                  refine lv_iadd hx hb dX10_sheet_85 ?_
                  refine lv_iconst (v := (0 : Int32)) hx hb dX10_sheet_86 (by decide) ?_
                  refine gd_e hf (fun hg21 hf => ?_)
                  refine ev_iast S hK hM hg21 (j := ((((40 : Int32) * x1) + v16)).toNatClampNeg) rfl dX10_sheet_87 (fun I22 eI22 H locs hM => ?_)
                  have hf := nm_x eI22 hf
                  refine lv_iinc (v := (v16 + (1 : Int32))) (lv' := [(4, .int (v16 + (1 : Int32))), (0, .ref a0), (1, .int x1)]) hx hb dX10_sheet_88 hl (k := 2) rfl rfl (by decide) rfl (fun ls hl => ?_)
                  refine lv_goto (tgt := 68) hx hb dX10_sheet_91 (by decide) ?_
                  exact ih (v16 + (1 : Int32)) I22 _ _ _ _ hM (lv_sub hl [1, 2, 0] rfl) hf kk
            refine bd_e hf (fun r18 er18 hf => ?_)
            refine lp68_22 FU (0 : Int32) I15 _ _ _ r18 hM (lv_sub hl [1, 2, 0] rfl) er18 (fun H locs ls hM hl => ?_)
            refine lv_iconst (v := (1 : Int32)) hx hb dX10_sheet_94 (by decide) ?_
            obtain rfl := Option.some.inj hf
            subst hQ
            exact ev_iret S hr hlocks hK hZ hM dX10_sheet_95
          have hf := ej13
          refine lv_icmp_ne (tgt := 63) hx hb dX10_sheet_56 (by decide) (fun hc12 => ?_) (fun hc12 => ?_)
          · have hf := it_n hf hc12
            refine lv_iload_n hx hb dX10_sheet_63 rfl (lv_at hl 3 rfl) ?_
            obtain rfl := Option.some.inj hf
            exact kj13 _ _ _ hM (lv_sub hl [0, 1] rfl)
          · have hf := it_p hf hc12
            refine lv_iconst (v := (0 : Int32)) hx hb dX10_sheet_59 (by decide) ?_
            refine lv_goto (tgt := 64) hx hb dX10_sheet_60 (by decide) ?_
            obtain rfl := Option.some.inj hf
            exact kj13 _ _ _ hM (lv_sub hl [0, 1] rfl)
        · have hf := it_n hf hc6
          refine lv_iload_n hx hb dX10_sheet_35 rfl (lv_at hl 3 rfl) ?_
          refine lv_if_ge (tgt := 42) hx hb dX10_sheet_36 (by decide) (fun hc23 => ?_) (fun hc23 => ?_)
          · have hf := it_p hf hc23
            refine lv_aload_n hx hb dX10_sheet_42 rfl (lv_at hl 0 rfl) ?_
            refine gd_e hf (fun hg24 hf => ?_)
            refine bd_e hf (fun q25 eq25 hf => ?_)
            refine ev_getP (v := q25) S hK hM (ci := 10) (n := 23) (C := RX10) (T := TX10) hin10 rfl hg24 20 (by decide) lk34 rfl rfl eq25 rfl dX10_sheet_43 ?_
            refine lv_iload_n hx hb dX10_sheet_46 rfl (lv_at hl 1 rfl) ?_
            refine lv_iload_n hx hb dX10_sheet_47 rfl (lv_at hl 2 rfl) ?_
            refine gd_e hf (fun hg26 hf => ?_)
            refine ev_iast S hK hM hg26 (j := x1.toNatClampNeg) rfl dX10_sheet_48 (fun I27 eI27 H locs hM => ?_)
            have hf := nm_x eI27 hf
            refine lv_aload_n hx hb dX10_sheet_49 rfl (lv_at hl 0 rfl) ?_
            refine bd_e hf (fun q28 eq28 hf => ?_)
            refine ev_getP (v := q28) S hK hM (ci := 10) (n := 23) (C := RX10) (T := TX10) hin10 rfl hg24 21 (by decide) lk37 rfl rfl eq28 rfl dX10_sheet_50 ?_
            refine lv_iload_n hx hb dX10_sheet_53 rfl (lv_at hl 1 rfl) ?_
            refine lv_iload_n hx hb dX10_sheet_54 rfl (lv_at hl 2 rfl) ?_
            refine lv_iconst (v := (-1 : Int32)) hx hb dX10_sheet_55 (by decide) ?_
            refine bd_e hf (fun j30 ej30 hf => ?_)
            have kj30 : ∀ (H : Heap) (locs : List Loc) (ls : Array Slot), mm_W D cs A L K N s.heap I27 P H locs → lv_has ls 5 [(0, .ref a0), (1, .int x1)] → W p l e (headSpec wz_X10_sheet rm_X10_sheet).room s m ([.ref a0, .int x1, .int x2, .int x3] : List Value).toArray below meth c H locs 0 0 QQ (F0 m 64 ls [.int j30, .int x1, .ref q28]) := by
              intro H locs ls hM hl
              refine gd_e hf (fun hg31 hf => ?_)
              refine ev_iast S hK hM hg31 (j := x1.toNatClampNeg) rfl dX10_sheet_64 (fun I32 eI32 H locs hM => ?_)
              have hf := nm_x eI32 hf
              refine lv_iconst (v := (0 : Int32)) hx hb dX10_sheet_65 (by decide) ?_
              refine lv_istore (lv' := [(4, .int (0 : Int32)), (0, .ref a0), (1, .int x1)]) hx hb dX10_sheet_66 hl (by decide) rfl (fun ls hl => ?_)
              have lp68_39 : ∀ (n : Nat) (v33 : Int32) (I34 : Nat → Nat → Int32) (H : Heap) (locs : List Loc) (ls : Array Slot) (r35 : (Nat → Nat → Int32)), mm_W D cs A L K N s.heap I34 P H locs → lv_has ls 5 [(0, .ref a0), (1, .int x1), (4, .int v33)] → fn_X10_sheet_L68 K N a0 x1 P n v33 I34 = some r35 → (∀ (H : Heap) (locs : List Loc) (ls : Array Slot), mm_W D cs A L K N s.heap r35 P H locs → lv_has ls 5 [] → W p l e (headSpec wz_X10_sheet rm_X10_sheet).room s m ([.ref a0, .int x1, .int x2, .int x3] : List Value).toArray below meth c H locs 0 0 QQ (F0 m 94 ls [])) → W p l e (headSpec wz_X10_sheet rm_X10_sheet).room s m ([.ref a0, .int x1, .int x2, .int x3] : List Value).toArray below meth c H locs 0 0 QQ (F0 m 68 ls []) := by
                intro n
                induction n with
                | zero => intro v33 I34 H locs ls r35 hM hl hf kk; exact nn_x (show (none : Option ((Nat → Nat → Int32))) = some r35 from hf)
                | succ n ih =>
                  intro v33 I34 H locs ls r35 hM hl hf kk
                  rw [fn_X10_sheet_L68] at hf
                  refine lv_iload hx hb dX10_sheet_68 (lv_at hl 2 rfl) ?_
                  refine lv_bipush (v := (40 : Int32)) hx hb dX10_sheet_70 (by decide) ?_
                  refine lv_icmp_ge (tgt := 94) hx hb dX10_sheet_72 (by decide) (fun hc36 => ?_) (fun hc36 => ?_)
                  · have hf := it_p hf hc36
                    obtain rfl := Option.some.inj hf
                    exact kk _ _ _ hM (lv_sub hl [] rfl)
                  · have hf := it_n hf hc36
                    refine lv_aload_n hx hb dX10_sheet_75 rfl (lv_at hl 0 rfl) ?_
                    refine bd_e hf (fun q37 eq37 hf => ?_)
                    refine ev_getP (v := q37) S hK hM (ci := 10) (n := 23) (C := RX10) (T := TX10) hin10 rfl hg24 22 (by decide) lk40 rfl rfl eq37 rfl dX10_sheet_76 ?_
                    refine lv_bipush (v := (40 : Int32)) hx hb dX10_sheet_79 (by decide) ?_
                    refine lv_iload_n hx hb dX10_sheet_81 rfl (lv_at hl 1 rfl) ?_
                    refine lv_imul hx hb dX10_sheet_82 ?_
                    refine lv_iload hx hb dX10_sheet_83 (lv_at hl 2 rfl) ?_
                    refine lv_iadd hx hb dX10_sheet_85 ?_
                    refine lv_iconst (v := (0 : Int32)) hx hb dX10_sheet_86 (by decide) ?_
                    refine gd_e hf (fun hg38 hf => ?_)
                    refine ev_iast S hK hM hg38 (j := ((((40 : Int32) * x1) + v33)).toNatClampNeg) rfl dX10_sheet_87 (fun I39 eI39 H locs hM => ?_)
                    have hf := nm_x eI39 hf
                    refine lv_iinc (v := (v33 + (1 : Int32))) (lv' := [(4, .int (v33 + (1 : Int32))), (0, .ref a0), (1, .int x1)]) hx hb dX10_sheet_88 hl (k := 2) rfl rfl (by decide) rfl (fun ls hl => ?_)
                    refine lv_goto (tgt := 68) hx hb dX10_sheet_91 (by decide) ?_
                    exact ih (v33 + (1 : Int32)) I39 _ _ _ _ hM (lv_sub hl [1, 2, 0] rfl) hf kk
              refine bd_e hf (fun r35 er35 hf => ?_)
              refine lp68_39 FU (0 : Int32) I32 _ _ _ r35 hM (lv_sub hl [1, 2, 0] rfl) er35 (fun H locs ls hM hl => ?_)
              refine lv_iconst (v := (1 : Int32)) hx hb dX10_sheet_94 (by decide) ?_
              obtain rfl := Option.some.inj hf
              subst hQ
              exact ev_iret S hr hlocks hK hZ hM dX10_sheet_95
            have hf := ej30
            refine lv_icmp_ne (tgt := 63) hx hb dX10_sheet_56 (by decide) (fun hc29 => ?_) (fun hc29 => ?_)
            · have hf := it_n hf hc29
              refine lv_iload_n hx hb dX10_sheet_63 rfl (lv_at hl 3 rfl) ?_
              obtain rfl := Option.some.inj hf
              exact kj30 _ _ _ hM (lv_sub hl [0, 1] rfl)
            · have hf := it_p hf hc29
              refine lv_iconst (v := (0 : Int32)) hx hb dX10_sheet_59 (by decide) ?_
              refine lv_goto (tgt := 64) hx hb dX10_sheet_60 (by decide) ?_
              obtain rfl := Option.some.inj hf
              exact kj30 _ _ _ hM (lv_sub hl [0, 1] rfl)
          · have hf := it_n hf hc23
            refine lv_bipush (v := (-14 : Int32)) hx hb dX10_sheet_39 (by decide) ?_
            obtain rfl := Option.some.inj hf
            subst hQ
            exact ev_iret S hr hlocks hK hZ hM dX10_sheet_41
      · have hf := it_n hf hc5
        refine lv_iload_n hx hb dX10_sheet_21 rfl (lv_at hl 3 rfl) ?_
        refine lv_bipush (v := (40 : Int32)) hx hb dX10_sheet_22 (by decide) ?_
        refine lv_icmp_le (tgt := 30) hx hb dX10_sheet_24 (by decide) (fun hc40 => ?_) (fun hc40 => ?_)
        · have hf := it_p hf hc40
          refine lv_iload_n hx hb dX10_sheet_30 rfl (lv_at hl 2 rfl) ?_
          refine lv_iconst (v := (-1 : Int32)) hx hb dX10_sheet_31 (by decide) ?_
          refine lv_icmp_eq (tgt := 42) hx hb dX10_sheet_32 (by decide) (fun hc41 => ?_) (fun hc41 => ?_)
          · have hf := it_p hf hc41
            refine lv_aload_n hx hb dX10_sheet_42 rfl (lv_at hl 0 rfl) ?_
            refine gd_e hf (fun hg42 hf => ?_)
            refine bd_e hf (fun q43 eq43 hf => ?_)
            refine ev_getP (v := q43) S hK hM (ci := 10) (n := 23) (C := RX10) (T := TX10) hin10 rfl hg42 20 (by decide) lk34 rfl rfl eq43 rfl dX10_sheet_43 ?_
            refine lv_iload_n hx hb dX10_sheet_46 rfl (lv_at hl 1 rfl) ?_
            refine lv_iload_n hx hb dX10_sheet_47 rfl (lv_at hl 2 rfl) ?_
            refine gd_e hf (fun hg44 hf => ?_)
            refine ev_iast S hK hM hg44 (j := x1.toNatClampNeg) rfl dX10_sheet_48 (fun I45 eI45 H locs hM => ?_)
            have hf := nm_x eI45 hf
            refine lv_aload_n hx hb dX10_sheet_49 rfl (lv_at hl 0 rfl) ?_
            refine bd_e hf (fun q46 eq46 hf => ?_)
            refine ev_getP (v := q46) S hK hM (ci := 10) (n := 23) (C := RX10) (T := TX10) hin10 rfl hg42 21 (by decide) lk37 rfl rfl eq46 rfl dX10_sheet_50 ?_
            refine lv_iload_n hx hb dX10_sheet_53 rfl (lv_at hl 1 rfl) ?_
            refine lv_iload_n hx hb dX10_sheet_54 rfl (lv_at hl 2 rfl) ?_
            refine lv_iconst (v := (-1 : Int32)) hx hb dX10_sheet_55 (by decide) ?_
            refine bd_e hf (fun j48 ej48 hf => ?_)
            have kj48 : ∀ (H : Heap) (locs : List Loc) (ls : Array Slot), mm_W D cs A L K N s.heap I45 P H locs → lv_has ls 5 [(0, .ref a0), (1, .int x1)] → W p l e (headSpec wz_X10_sheet rm_X10_sheet).room s m ([.ref a0, .int x1, .int x2, .int x3] : List Value).toArray below meth c H locs 0 0 QQ (F0 m 64 ls [.int j48, .int x1, .ref q46]) := by
              intro H locs ls hM hl
              refine gd_e hf (fun hg49 hf => ?_)
              refine ev_iast S hK hM hg49 (j := x1.toNatClampNeg) rfl dX10_sheet_64 (fun I50 eI50 H locs hM => ?_)
              have hf := nm_x eI50 hf
              refine lv_iconst (v := (0 : Int32)) hx hb dX10_sheet_65 (by decide) ?_
              refine lv_istore (lv' := [(4, .int (0 : Int32)), (0, .ref a0), (1, .int x1)]) hx hb dX10_sheet_66 hl (by decide) rfl (fun ls hl => ?_)
              have lp68_57 : ∀ (n : Nat) (v51 : Int32) (I52 : Nat → Nat → Int32) (H : Heap) (locs : List Loc) (ls : Array Slot) (r53 : (Nat → Nat → Int32)), mm_W D cs A L K N s.heap I52 P H locs → lv_has ls 5 [(0, .ref a0), (1, .int x1), (4, .int v51)] → fn_X10_sheet_L68 K N a0 x1 P n v51 I52 = some r53 → (∀ (H : Heap) (locs : List Loc) (ls : Array Slot), mm_W D cs A L K N s.heap r53 P H locs → lv_has ls 5 [] → W p l e (headSpec wz_X10_sheet rm_X10_sheet).room s m ([.ref a0, .int x1, .int x2, .int x3] : List Value).toArray below meth c H locs 0 0 QQ (F0 m 94 ls [])) → W p l e (headSpec wz_X10_sheet rm_X10_sheet).room s m ([.ref a0, .int x1, .int x2, .int x3] : List Value).toArray below meth c H locs 0 0 QQ (F0 m 68 ls []) := by
                intro n
                induction n with
                | zero => intro v51 I52 H locs ls r53 hM hl hf kk; exact nn_x (show (none : Option ((Nat → Nat → Int32))) = some r53 from hf)
                | succ n ih =>
                  intro v51 I52 H locs ls r53 hM hl hf kk
                  rw [fn_X10_sheet_L68] at hf
                  refine lv_iload hx hb dX10_sheet_68 (lv_at hl 2 rfl) ?_
                  refine lv_bipush (v := (40 : Int32)) hx hb dX10_sheet_70 (by decide) ?_
                  refine lv_icmp_ge (tgt := 94) hx hb dX10_sheet_72 (by decide) (fun hc54 => ?_) (fun hc54 => ?_)
                  · have hf := it_p hf hc54
                    obtain rfl := Option.some.inj hf
                    exact kk _ _ _ hM (lv_sub hl [] rfl)
                  · have hf := it_n hf hc54
                    refine lv_aload_n hx hb dX10_sheet_75 rfl (lv_at hl 0 rfl) ?_
                    refine bd_e hf (fun q55 eq55 hf => ?_)
                    refine ev_getP (v := q55) S hK hM (ci := 10) (n := 23) (C := RX10) (T := TX10) hin10 rfl hg42 22 (by decide) lk40 rfl rfl eq55 rfl dX10_sheet_76 ?_
                    refine lv_bipush (v := (40 : Int32)) hx hb dX10_sheet_79 (by decide) ?_
                    refine lv_iload_n hx hb dX10_sheet_81 rfl (lv_at hl 1 rfl) ?_
                    refine lv_imul hx hb dX10_sheet_82 ?_
                    refine lv_iload hx hb dX10_sheet_83 (lv_at hl 2 rfl) ?_
                    refine lv_iadd hx hb dX10_sheet_85 ?_
                    refine lv_iconst (v := (0 : Int32)) hx hb dX10_sheet_86 (by decide) ?_
                    refine gd_e hf (fun hg56 hf => ?_)
                    refine ev_iast S hK hM hg56 (j := ((((40 : Int32) * x1) + v51)).toNatClampNeg) rfl dX10_sheet_87 (fun I57 eI57 H locs hM => ?_)
                    have hf := nm_x eI57 hf
                    refine lv_iinc (v := (v51 + (1 : Int32))) (lv' := [(4, .int (v51 + (1 : Int32))), (0, .ref a0), (1, .int x1)]) hx hb dX10_sheet_88 hl (k := 2) rfl rfl (by decide) rfl (fun ls hl => ?_)
                    refine lv_goto (tgt := 68) hx hb dX10_sheet_91 (by decide) ?_
                    exact ih (v51 + (1 : Int32)) I57 _ _ _ _ hM (lv_sub hl [1, 2, 0] rfl) hf kk
              refine bd_e hf (fun r53 er53 hf => ?_)
              refine lp68_57 FU (0 : Int32) I50 _ _ _ r53 hM (lv_sub hl [1, 2, 0] rfl) er53 (fun H locs ls hM hl => ?_)
              refine lv_iconst (v := (1 : Int32)) hx hb dX10_sheet_94 (by decide) ?_
              obtain rfl := Option.some.inj hf
              subst hQ
              exact ev_iret S hr hlocks hK hZ hM dX10_sheet_95
            have hf := ej48
            refine lv_icmp_ne (tgt := 63) hx hb dX10_sheet_56 (by decide) (fun hc47 => ?_) (fun hc47 => ?_)
            · have hf := it_n hf hc47
              refine lv_iload_n hx hb dX10_sheet_63 rfl (lv_at hl 3 rfl) ?_
              obtain rfl := Option.some.inj hf
              exact kj48 _ _ _ hM (lv_sub hl [0, 1] rfl)
            · have hf := it_p hf hc47
              refine lv_iconst (v := (0 : Int32)) hx hb dX10_sheet_59 (by decide) ?_
              refine lv_goto (tgt := 64) hx hb dX10_sheet_60 (by decide) ?_
              obtain rfl := Option.some.inj hf
              exact kj48 _ _ _ hM (lv_sub hl [0, 1] rfl)
          · have hf := it_n hf hc41
            refine lv_iload_n hx hb dX10_sheet_35 rfl (lv_at hl 3 rfl) ?_
            refine lv_if_ge (tgt := 42) hx hb dX10_sheet_36 (by decide) (fun hc58 => ?_) (fun hc58 => ?_)
            · have hf := it_p hf hc58
              refine lv_aload_n hx hb dX10_sheet_42 rfl (lv_at hl 0 rfl) ?_
              refine gd_e hf (fun hg59 hf => ?_)
              refine bd_e hf (fun q60 eq60 hf => ?_)
              refine ev_getP (v := q60) S hK hM (ci := 10) (n := 23) (C := RX10) (T := TX10) hin10 rfl hg59 20 (by decide) lk34 rfl rfl eq60 rfl dX10_sheet_43 ?_
              refine lv_iload_n hx hb dX10_sheet_46 rfl (lv_at hl 1 rfl) ?_
              refine lv_iload_n hx hb dX10_sheet_47 rfl (lv_at hl 2 rfl) ?_
              refine gd_e hf (fun hg61 hf => ?_)
              refine ev_iast S hK hM hg61 (j := x1.toNatClampNeg) rfl dX10_sheet_48 (fun I62 eI62 H locs hM => ?_)
              have hf := nm_x eI62 hf
              refine lv_aload_n hx hb dX10_sheet_49 rfl (lv_at hl 0 rfl) ?_
              refine bd_e hf (fun q63 eq63 hf => ?_)
              refine ev_getP (v := q63) S hK hM (ci := 10) (n := 23) (C := RX10) (T := TX10) hin10 rfl hg59 21 (by decide) lk37 rfl rfl eq63 rfl dX10_sheet_50 ?_
              refine lv_iload_n hx hb dX10_sheet_53 rfl (lv_at hl 1 rfl) ?_
              refine lv_iload_n hx hb dX10_sheet_54 rfl (lv_at hl 2 rfl) ?_
              refine lv_iconst (v := (-1 : Int32)) hx hb dX10_sheet_55 (by decide) ?_
              refine bd_e hf (fun j65 ej65 hf => ?_)
              have kj65 : ∀ (H : Heap) (locs : List Loc) (ls : Array Slot), mm_W D cs A L K N s.heap I62 P H locs → lv_has ls 5 [(0, .ref a0), (1, .int x1)] → W p l e (headSpec wz_X10_sheet rm_X10_sheet).room s m ([.ref a0, .int x1, .int x2, .int x3] : List Value).toArray below meth c H locs 0 0 QQ (F0 m 64 ls [.int j65, .int x1, .ref q63]) := by
                intro H locs ls hM hl
                refine gd_e hf (fun hg66 hf => ?_)
                refine ev_iast S hK hM hg66 (j := x1.toNatClampNeg) rfl dX10_sheet_64 (fun I67 eI67 H locs hM => ?_)
                have hf := nm_x eI67 hf
                refine lv_iconst (v := (0 : Int32)) hx hb dX10_sheet_65 (by decide) ?_
                refine lv_istore (lv' := [(4, .int (0 : Int32)), (0, .ref a0), (1, .int x1)]) hx hb dX10_sheet_66 hl (by decide) rfl (fun ls hl => ?_)
                have lp68_74 : ∀ (n : Nat) (v68 : Int32) (I69 : Nat → Nat → Int32) (H : Heap) (locs : List Loc) (ls : Array Slot) (r70 : (Nat → Nat → Int32)), mm_W D cs A L K N s.heap I69 P H locs → lv_has ls 5 [(0, .ref a0), (1, .int x1), (4, .int v68)] → fn_X10_sheet_L68 K N a0 x1 P n v68 I69 = some r70 → (∀ (H : Heap) (locs : List Loc) (ls : Array Slot), mm_W D cs A L K N s.heap r70 P H locs → lv_has ls 5 [] → W p l e (headSpec wz_X10_sheet rm_X10_sheet).room s m ([.ref a0, .int x1, .int x2, .int x3] : List Value).toArray below meth c H locs 0 0 QQ (F0 m 94 ls [])) → W p l e (headSpec wz_X10_sheet rm_X10_sheet).room s m ([.ref a0, .int x1, .int x2, .int x3] : List Value).toArray below meth c H locs 0 0 QQ (F0 m 68 ls []) := by
                  intro n
                  induction n with
                  | zero => intro v68 I69 H locs ls r70 hM hl hf kk; exact nn_x (show (none : Option ((Nat → Nat → Int32))) = some r70 from hf)
                  | succ n ih =>
                    intro v68 I69 H locs ls r70 hM hl hf kk
                    rw [fn_X10_sheet_L68] at hf
                    refine lv_iload hx hb dX10_sheet_68 (lv_at hl 2 rfl) ?_
                    refine lv_bipush (v := (40 : Int32)) hx hb dX10_sheet_70 (by decide) ?_
                    refine lv_icmp_ge (tgt := 94) hx hb dX10_sheet_72 (by decide) (fun hc71 => ?_) (fun hc71 => ?_)
                    · have hf := it_p hf hc71
                      obtain rfl := Option.some.inj hf
                      exact kk _ _ _ hM (lv_sub hl [] rfl)
                    · have hf := it_n hf hc71
                      refine lv_aload_n hx hb dX10_sheet_75 rfl (lv_at hl 0 rfl) ?_
                      refine bd_e hf (fun q72 eq72 hf => ?_)
                      refine ev_getP (v := q72) S hK hM (ci := 10) (n := 23) (C := RX10) (T := TX10) hin10 rfl hg59 22 (by decide) lk40 rfl rfl eq72 rfl dX10_sheet_76 ?_
                      refine lv_bipush (v := (40 : Int32)) hx hb dX10_sheet_79 (by decide) ?_
                      refine lv_iload_n hx hb dX10_sheet_81 rfl (lv_at hl 1 rfl) ?_
                      refine lv_imul hx hb dX10_sheet_82 ?_
                      refine lv_iload hx hb dX10_sheet_83 (lv_at hl 2 rfl) ?_
                      refine lv_iadd hx hb dX10_sheet_85 ?_
                      refine lv_iconst (v := (0 : Int32)) hx hb dX10_sheet_86 (by decide) ?_
                      refine gd_e hf (fun hg73 hf => ?_)
                      refine ev_iast S hK hM hg73 (j := ((((40 : Int32) * x1) + v68)).toNatClampNeg) rfl dX10_sheet_87 (fun I74 eI74 H locs hM => ?_)
                      have hf := nm_x eI74 hf
                      refine lv_iinc (v := (v68 + (1 : Int32))) (lv' := [(4, .int (v68 + (1 : Int32))), (0, .ref a0), (1, .int x1)]) hx hb dX10_sheet_88 hl (k := 2) rfl rfl (by decide) rfl (fun ls hl => ?_)
                      refine lv_goto (tgt := 68) hx hb dX10_sheet_91 (by decide) ?_
                      exact ih (v68 + (1 : Int32)) I74 _ _ _ _ hM (lv_sub hl [1, 2, 0] rfl) hf kk
                refine bd_e hf (fun r70 er70 hf => ?_)
                refine lp68_74 FU (0 : Int32) I67 _ _ _ r70 hM (lv_sub hl [1, 2, 0] rfl) er70 (fun H locs ls hM hl => ?_)
                refine lv_iconst (v := (1 : Int32)) hx hb dX10_sheet_94 (by decide) ?_
                obtain rfl := Option.some.inj hf
                subst hQ
                exact ev_iret S hr hlocks hK hZ hM dX10_sheet_95
              have hf := ej65
              refine lv_icmp_ne (tgt := 63) hx hb dX10_sheet_56 (by decide) (fun hc64 => ?_) (fun hc64 => ?_)
              · have hf := it_n hf hc64
                refine lv_iload_n hx hb dX10_sheet_63 rfl (lv_at hl 3 rfl) ?_
                obtain rfl := Option.some.inj hf
                exact kj65 _ _ _ hM (lv_sub hl [0, 1] rfl)
              · have hf := it_p hf hc64
                refine lv_iconst (v := (0 : Int32)) hx hb dX10_sheet_59 (by decide) ?_
                refine lv_goto (tgt := 64) hx hb dX10_sheet_60 (by decide) ?_
                obtain rfl := Option.some.inj hf
                exact kj65 _ _ _ hM (lv_sub hl [0, 1] rfl)
            · have hf := it_n hf hc58
              refine lv_bipush (v := (-14 : Int32)) hx hb dX10_sheet_39 (by decide) ?_
              obtain rfl := Option.some.inj hf
              subst hQ
              exact ev_iret S hr hlocks hK hZ hM dX10_sheet_41
        · have hf := it_n hf hc40
          refine lv_bipush (v := (-2 : Int32)) hx hb dX10_sheet_27 (by decide) ?_
          obtain rfl := Option.some.inj hf
          subst hQ
          exact ev_iret S hr hlocks hK hZ hM dX10_sheet_29
noncomputable def fn_X10_put (K N : Nat → Nat) (I : Nat → Nat → Int32) (P : Nat → Nat → Option Nat) (a0 : Nat) (x1 : Int32) (x2 : Int32) (x3 : Int32) : Option (Int32 × (Nat → Nat → Int32)) := Option.bind (fn_X10_wrong K N I P a0 x1) (fun (r1 : Int32) => gd (K a0 = 11) (if r1 = 0 then (Option.bind (P a0 (21)) (fun q4 => gd (K q4 = 12 ∧ vp_in x1 (N q4)) (Option.bind (fn_X10_isIn x2 (0 : Int32) ((I q4 (x1.toNatClampNeg)) - (1 : Int32))) (fun (r6 : Int32) => if r6 = 0 then (some ((-12 : Int32), I)) else (Option.bind (P a0 (22)) (fun q8 => Option.bind (P a0 (20)) (fun q9 => gd (K q9 = 12 ∧ vp_in x1 (N q9)) (if (I q9 (x1.toNatClampNeg)) = 0 then (gd (K q8 = 12 ∧ vp_in (((40 : Int32) * x1) + x2) (N q8)) (Option.bind (some (up2 I q8 ((((40 : Int32) * x1) + x2)).toNatClampNeg (Int16.toInt32 (Int32.toInt16 x3)))) (fun I15 => some ((1 : Int32), I15)))) else (gd (K q8 = 12 ∧ vp_in (((40 : Int32) * x1) + x2) (N q8)) (Option.bind (some (up2 I q8 ((((40 : Int32) * x1) + x2)).toNatClampNeg x3)) (fun I13 => some ((1 : Int32), I13)))))))))))) else (some (r1, I))))
abbrev wz_X10_put : List Cond := Cond.code yX10_put cX10_put 5 (some .int) :: WA
abbrev rm_X10_put : Room := { frames := 4, cells := 0, slots := 0, locals := 75 }
set_option maxHeartbeats 4000000 in
set_option maxRecDepth 100000 in
theorem c_X10_put (I : Nat → Nat → Int32) (P : Nat → Nat → Option Nat) (a0 : Nat) (x1 : Int32) (x2 : Int32) (x3 : Int32) (res : Int32 × (Nat → Nat → Int32)) (hf : fn_X10_put K N I P a0 x1 x2 x3 = some res) : Met l yX10_put wz_X10_put rm_X10_put (va_Pc [.ref a0, .int x1, .int x2, .int x3] (mm_B D cs A L K N z w I P)) (va_Qi (fun r (_ : Unit) => r = res.1) (fun _ => mm_B D cs A L K N z w res.2 P) A) 0 0 A := by
  refine Met.ofW (cc := cX10_put) (maxL := 5) (ret := (some .int)) (by decide) rfl ?_
  intro p e s m args below meth c s₁ B hml hv
  obtain ⟨rfl, hBm⟩ := hv
  have hx := B.exec
  have hb := B.bytes
  have hr := B.returns
  have hts := atoms_spec (ws := wz_X10_put) B.pre
  have hWA : ∀ w ∈ WA, w.before ([.ref a0, .int x1, .int x2, .int x3] : List Value).toArray s = true := fun u9 h9 => hts u9 (List.mem_cons_of_mem _ h9)
  have hown : s.vm.findClass RX10 = some m.cls := findClass_of_methodNamed B.named
  have hlocks := B.notSynchronized
  have S : CallFix p m c cX10_put 5 s ([.ref a0, .int x1, .int x2, .int x3] : List Value).toArray wz_X10_put RX10 := ⟨hx, hb, hml, hown, hts⟩
  have hK := hBm.2.2.2.1
  have hZ := hBm.2.2.2.2
  have hM : mm_W D cs A L K N s.heap I P s.heap [] := ⟨hBm.1, hBm.2.1, hBm.2.2.1, va_S.rf⟩
  have hl := lv_entry ([.ref a0, .int x1, .int x2, .int x3]) (n := 5) (Nat.le_of_ble_eq_true rfl)
  rw [lg_entry_eq]
  generalize (lg_sl ([.ref a0, .int x1, .int x2, .int x3]) ++ List.replicate (5 - (lg_sl ([.ref a0, .int x1, .int x2, .int x3])).length) Slot.unset).toArray = ls at hl ⊢
  have hl : lv_has ls 5 [(0, .ref a0), (1, .int x1), (2, .int x2), (3, .int x3)] := hl
  have hin10 : ∀ w ∈ wsX100, w ∈ wz_X10_put := fun w h => List.mem_cons_of_mem _ (wu_X10 w h)
  have lk37 : (Cond.fieldLink RX10 37 RX10 "size" "[I").before ([.ref a0, .int x1, .int x2, .int x3] : List Value).toArray s = true := hWA _ wa_4_162
  have lk40 : (Cond.fieldLink RX10 40 RX10 "item" "[I").before ([.ref a0, .int x1, .int x2, .int x3] : List Value).toArray s = true := hWA _ wa_4_163
  have lk34 : (Cond.fieldLink RX10 34 RX10 "sort" "[I").before ([.ref a0, .int x1, .int x2, .int x3] : List Value).toArray s = true := hWA _ wa_4_161
  generalize hQ : MQ below (va_Qi (fun r (_ : Unit) => r = res.1) (fun _ => mm_B D cs A L K N z w res.2 P) A) ([.ref a0, .int x1, .int x2, .int x3] : List Value).toArray s 0 0 A = QQ
  rw [fn_X10_put] at hf
  refine lv_aload_n hx hb dX10_put_0 rfl (lv_at hl 0 rfl) ?_
  refine lv_iload_n hx hb dX10_put_1 rfl (lv_at hl 1 rfl) ?_
  refine bd_e hf (fun r1 er1 hf => ?_)
  refine gd_e hf (fun hg2 hf => ?_)
  refine ev_calli (va_runV (As := [.int x1]) (rest := []) S (c_X10_wrong (l := l) I P a0 x1 r1 er1) (cwV 1 hts (gi_v wa_6_34 wa_6_36 wa_s_63 wa_1_11 wa_6_37) rfl rfl rfl (by decide +kernel) ⟨Nat.le_of_ble_eq_true rfl, Nat.le_of_ble_eq_true rfl⟩) ⟨mm_B_blind, ev_recv hK hM (ci := 10) rfl hg2 rfl, fun U hU hW => ⟨rfl, mm_B_of hK hZ hM hU hW⟩⟩ rfl rfl hl.1 rfl (lv_room (Nat.le_of_ble_eq_true rfl)) dX10_put_2 ⟨Nat.zero_le _, Nat.zero_le _⟩) hM (fun H locs hM => ?_)
  refine lv_istore (lv' := [(4, .int r1), (0, .ref a0), (1, .int x1), (2, .int x2), (3, .int x3)]) hx hb dX10_put_5 hl (by decide) rfl (fun ls hl => ?_)
  refine lv_iload hx hb dX10_put_7 (lv_at hl 0 rfl) ?_
  refine lv_if_eq (tgt := 15) hx hb dX10_put_9 (by decide) (fun hc3 => ?_) (fun hc3 => ?_)
  · have hf := it_p hf hc3
    refine lv_iload_n hx hb dX10_put_15 rfl (lv_at hl 3 rfl) ?_
    refine lv_iconst (v := (0 : Int32)) hx hb dX10_put_16 (by decide) ?_
    refine lv_aload_n hx hb dX10_put_17 rfl (lv_at hl 1 rfl) ?_
    refine bd_e hf (fun q4 eq4 hf => ?_)
    refine ev_getP (v := q4) S hK hM (ci := 10) (n := 23) (C := RX10) (T := TX10) hin10 rfl hg2 21 (by decide) lk37 rfl rfl eq4 rfl dX10_put_18 ?_
    refine lv_iload_n hx hb dX10_put_21 rfl (lv_at hl 2 rfl) ?_
    refine gd_e hf (fun hg5 hf => ?_)
    refine ev_iald S hK hM hg5 (j := x1.toNatClampNeg) rfl dX10_put_22 ?_
    refine lv_iconst (v := (1 : Int32)) hx hb dX10_put_23 (by decide) ?_
    refine lv_isub hx hb dX10_put_24 ?_
    refine bd_e hf (fun r6 er6 hf => ?_)
    refine ev_calli (va_runS (As := [.int x2, .int (0 : Int32), .int ((I q4 (x1.toNatClampNeg)) - (1 : Int32))]) (rest := []) S (c_X10_isIn (l := l) I P x2 (0 : Int32) ((I q4 (x1.toNatClampNeg)) - (1 : Int32)) r6 er6) (va_cwS 3 hts (gi_s wa_4_218 wa_4_219 wa_1_11 wa_4_220) rfl rfl rfl (by decide +kernel) ⟨Nat.le_of_ble_eq_true rfl, Nat.le_of_ble_eq_true rfl⟩) ⟨mm_B_blind, fun U hU hW => ⟨rfl, mm_B_of hK hZ hM hU hW⟩⟩ rfl rfl hl.1 rfl (lv_room (Nat.le_of_ble_eq_true rfl)) dX10_put_25 ⟨Nat.zero_le _, Nat.zero_le _⟩) hM (fun H locs hM => ?_)
    refine lv_if_ne (tgt := 34) hx hb dX10_put_28 (by decide) (fun hc7 => ?_) (fun hc7 => ?_)
    · have hf := it_n hf hc7
      refine lv_aload_n hx hb dX10_put_34 rfl (lv_at hl 1 rfl) ?_
      refine bd_e hf (fun q8 eq8 hf => ?_)
      refine ev_getP (v := q8) S hK hM (ci := 10) (n := 23) (C := RX10) (T := TX10) hin10 rfl hg2 22 (by decide) lk40 rfl rfl eq8 rfl dX10_put_35 ?_
      refine lv_bipush (v := (40 : Int32)) hx hb dX10_put_38 (by decide) ?_
      refine lv_iload_n hx hb dX10_put_40 rfl (lv_at hl 2 rfl) ?_
      refine lv_imul hx hb dX10_put_41 ?_
      refine lv_iload_n hx hb dX10_put_42 rfl (lv_at hl 3 rfl) ?_
      refine lv_iadd hx hb dX10_put_43 ?_
      refine lv_aload_n hx hb dX10_put_44 rfl (lv_at hl 1 rfl) ?_
      refine bd_e hf (fun q9 eq9 hf => ?_)
      refine ev_getP (v := q9) S hK hM (ci := 10) (n := 23) (C := RX10) (T := TX10) hin10 rfl hg2 20 (by decide) lk34 rfl rfl eq9 rfl dX10_put_45 ?_
      refine lv_iload_n hx hb dX10_put_48 rfl (lv_at hl 2 rfl) ?_
      refine gd_e hf (fun hg10 hf => ?_)
      refine ev_iald S hK hM hg10 (j := x1.toNatClampNeg) rfl dX10_put_49 ?_
      refine lv_if_ne (tgt := 58) hx hb dX10_put_50 (by decide) (fun hc11 => ?_) (fun hc11 => ?_)
      · have hf := it_n hf hc11
        refine lv_iload_n hx hb dX10_put_58 rfl (lv_at hl 4 rfl) ?_
        refine gd_e hf (fun hg12 hf => ?_)
        refine ev_iast S hK hM hg12 (j := ((((40 : Int32) * x1) + x2)).toNatClampNeg) rfl dX10_put_59 (fun I13 eI13 H locs hM => ?_)
        have hf := nm_x eI13 hf
        refine lv_iconst (v := (1 : Int32)) hx hb dX10_put_60 (by decide) ?_
        obtain rfl := Option.some.inj hf
        subst hQ
        exact ev_iret S hr hlocks hK hZ hM dX10_put_61
      · have hf := it_p hf hc11
        refine lv_iload_n hx hb dX10_put_53 rfl (lv_at hl 4 rfl) ?_
        refine lv_i2s (v := (Int16.toInt32 (Int32.toInt16 x3))) hx hb dX10_put_54 rfl ?_
        refine lv_goto (tgt := 59) hx hb dX10_put_55 (by decide) ?_
        refine gd_e hf (fun hg14 hf => ?_)
        refine ev_iast S hK hM hg14 (j := ((((40 : Int32) * x1) + x2)).toNatClampNeg) rfl dX10_put_59 (fun I15 eI15 H locs hM => ?_)
        have hf := nm_x eI15 hf
        refine lv_iconst (v := (1 : Int32)) hx hb dX10_put_60 (by decide) ?_
        obtain rfl := Option.some.inj hf
        subst hQ
        exact ev_iret S hr hlocks hK hZ hM dX10_put_61
    · have hf := it_p hf hc7
      refine lv_bipush (v := (-12 : Int32)) hx hb dX10_put_31 (by decide) ?_
      obtain rfl := Option.some.inj hf
      subst hQ
      exact ev_iret S hr hlocks hK hZ hM dX10_put_33
  · have hf := it_n hf hc3
    refine lv_iload hx hb dX10_put_12 (lv_at hl 0 rfl) ?_
    obtain rfl := Option.some.inj hf
    subst hQ
    exact ev_iret S hr hlocks hK hZ hM dX10_put_14
noncomputable def fn_X10_copy_L126 (K : Nat → Nat) (N : Nat → Nat) (a0 : Nat) (x1 : Int32) (x2 : Int32) (x3 : Int32) (x4 : Int32) (x5 : Int32) (P : Nat → Nat → Option Nat) : Nat → Int32 → (Nat → Nat → Int32) → Option ((Nat → Nat → Int32))
  | 0, _, _ => none
  | n + 1, v22, I23 => if x5 ≤ v22 then (some I23) else (Option.bind (if x2 ≤ x4 then (some ((x5 - (1 : Int32)) - v22)) else (some v22)) (fun (j27 : Int32) => Option.bind (P a0 (22)) (fun q28 => gd (K q28 = 12 ∧ vp_in ((((40 : Int32) * x1) + x2) + j27) (N q28)) (gd (K q28 = 12 ∧ vp_in ((((40 : Int32) * x3) + x4) + j27) (N q28)) (Option.bind (some (up2 I23 q28 (((((40 : Int32) * x3) + x4) + j27)).toNatClampNeg (I23 q28 (((((40 : Int32) * x1) + x2) + j27)).toNatClampNeg))) (fun I31 => fn_X10_copy_L126 K N a0 x1 x2 x3 x4 x5 P n (v22 + (1 : Int32)) I31))))))
noncomputable def fn_X10_copy (K N : Nat → Nat) (I : Nat → Nat → Int32) (P : Nat → Nat → Option Nat) (a0 : Nat) (x1 : Int32) (x2 : Int32) (x3 : Int32) (x4 : Int32) (x5 : Int32) : Option (Int32 × (Nat → Nat → Int32)) := Option.bind (fn_X10_isSheet x1) (fun (r1 : Int32) => if r1 = 0 then (some ((-2 : Int32), I)) else (Option.bind (fn_X10_isSheet x3) (fun (r3 : Int32) => if r3 = 0 then (some ((-2 : Int32), I)) else (gd (K a0 = 11) (Option.bind (P a0 (20)) (fun q6 => gd (K q6 = 12 ∧ vp_in x1 (N q6)) (if (I q6 (x1.toNatClampNeg)) = (-1 : Int32) then (some ((-11 : Int32), I)) else (gd (K q6 = 12 ∧ vp_in x3 (N q6)) (if (I q6 (x3.toNatClampNeg)) = (-1 : Int32) then (some ((-11 : Int32), I)) else (if (I q6 (x1.toNatClampNeg)) = (I q6 (x3.toNatClampNeg)) then (if x5 < 0 then (some ((-12 : Int32), I)) else (if x2 < 0 then (some ((-12 : Int32), I)) else (if x4 < 0 then (some ((-12 : Int32), I)) else (Option.bind (P a0 (21)) (fun q15 => gd (K q15 = 12 ∧ vp_in x1 (N q15)) (if (I q15 (x1.toNatClampNeg)) < x2 then (some ((-12 : Int32), I)) else (gd (K q15 = 12 ∧ vp_in x3 (N q15)) (if (I q15 (x3.toNatClampNeg)) < x4 then (some ((-12 : Int32), I)) else (if ((I q15 (x1.toNatClampNeg)) - x2) < x5 then (some ((-12 : Int32), I)) else (if x5 ≤ ((I q15 (x3.toNatClampNeg)) - x4) then (Option.bind (fn_X10_copy_L126 K N a0 x1 x2 x3 x4 x5 P FU (0 : Int32) I) (fun (r24 : (Nat → Nat → Int32)) => some (x5, r24))) else (some ((-12 : Int32), I)))))))))))) else (some ((-13 : Int32), I))))))))))))
abbrev wz_X10_copy : List Cond := Cond.code yX10_copy cX10_copy 8 (some .int) :: WA
abbrev rm_X10_copy : Room := { frames := 3, cells := 0, slots := 0, locals := 54 }
set_option maxHeartbeats 4000000 in
set_option maxRecDepth 100000 in
theorem c_X10_copy (I : Nat → Nat → Int32) (P : Nat → Nat → Option Nat) (a0 : Nat) (x1 : Int32) (x2 : Int32) (x3 : Int32) (x4 : Int32) (x5 : Int32) (res : Int32 × (Nat → Nat → Int32)) (hf : fn_X10_copy K N I P a0 x1 x2 x3 x4 x5 = some res) : Met l yX10_copy wz_X10_copy rm_X10_copy (va_Pc [.ref a0, .int x1, .int x2, .int x3, .int x4, .int x5] (mm_B D cs A L K N z w I P)) (va_Qi (fun r (_ : Unit) => r = res.1) (fun _ => mm_B D cs A L K N z w res.2 P) A) 0 0 A := by
  refine Met.ofW (cc := cX10_copy) (maxL := 8) (ret := (some .int)) (by decide) rfl ?_
  intro p e s m args below meth c s₁ B hml hv
  obtain ⟨rfl, hBm⟩ := hv
  have hx := B.exec
  have hb := B.bytes
  have hr := B.returns
  have hts := atoms_spec (ws := wz_X10_copy) B.pre
  have hWA : ∀ w ∈ WA, w.before ([.ref a0, .int x1, .int x2, .int x3, .int x4, .int x5] : List Value).toArray s = true := fun u9 h9 => hts u9 (List.mem_cons_of_mem _ h9)
  have hown : s.vm.findClass RX10 = some m.cls := findClass_of_methodNamed B.named
  have hlocks := B.notSynchronized
  have S : CallFix p m c cX10_copy 8 s ([.ref a0, .int x1, .int x2, .int x3, .int x4, .int x5] : List Value).toArray wz_X10_copy RX10 := ⟨hx, hb, hml, hown, hts⟩
  have hK := hBm.2.2.2.1
  have hZ := hBm.2.2.2.2
  have hM : mm_W D cs A L K N s.heap I P s.heap [] := ⟨hBm.1, hBm.2.1, hBm.2.2.1, va_S.rf⟩
  have hl := lv_entry ([.ref a0, .int x1, .int x2, .int x3, .int x4, .int x5]) (n := 8) (Nat.le_of_ble_eq_true rfl)
  rw [lg_entry_eq]
  generalize (lg_sl ([.ref a0, .int x1, .int x2, .int x3, .int x4, .int x5]) ++ List.replicate (8 - (lg_sl ([.ref a0, .int x1, .int x2, .int x3, .int x4, .int x5])).length) Slot.unset).toArray = ls at hl ⊢
  have hl : lv_has ls 8 [(0, .ref a0), (1, .int x1), (2, .int x2), (3, .int x3), (4, .int x4), (5, .int x5)] := hl
  have hin10 : ∀ w ∈ wsX100, w ∈ wz_X10_copy := fun w h => List.mem_cons_of_mem _ (wu_X10 w h)
  have lk34 : (Cond.fieldLink RX10 34 RX10 "sort" "[I").before ([.ref a0, .int x1, .int x2, .int x3, .int x4, .int x5] : List Value).toArray s = true := hWA _ wa_4_161
  have lk37 : (Cond.fieldLink RX10 37 RX10 "size" "[I").before ([.ref a0, .int x1, .int x2, .int x3, .int x4, .int x5] : List Value).toArray s = true := hWA _ wa_4_162
  have lk40 : (Cond.fieldLink RX10 40 RX10 "item" "[I").before ([.ref a0, .int x1, .int x2, .int x3, .int x4, .int x5] : List Value).toArray s = true := hWA _ wa_4_163
  generalize hQ : MQ below (va_Qi (fun r (_ : Unit) => r = res.1) (fun _ => mm_B D cs A L K N z w res.2 P) A) ([.ref a0, .int x1, .int x2, .int x3, .int x4, .int x5] : List Value).toArray s 0 0 A = QQ
  rw [fn_X10_copy] at hf
  refine lv_iload_n hx hb dX10_copy_0 rfl (lv_at hl 1 rfl) ?_
  refine bd_e hf (fun r1 er1 hf => ?_)
  refine ev_calli (va_runS (As := [.int x1]) (rest := []) S (c_X10_isSheet (l := l) I P x1 r1 er1) (va_cwS 1 hts (gi_s wa_6_15 wa_6_16 wa_1_11 wa_6_17) rfl rfl rfl (by decide +kernel) ⟨Nat.le_of_ble_eq_true rfl, Nat.le_of_ble_eq_true rfl⟩) ⟨mm_B_blind, fun U hU hW => ⟨rfl, mm_B_of hK hZ hM hU hW⟩⟩ rfl rfl hl.1 rfl (lv_room (Nat.le_of_ble_eq_true rfl)) dX10_copy_1 ⟨Nat.zero_le _, Nat.zero_le _⟩) hM (fun H locs hM => ?_)
  refine lv_if_eq (tgt := 14) hx hb dX10_copy_4 (by decide) (fun hc2 => ?_) (fun hc2 => ?_)
  · have hf := it_p hf hc2
    refine lv_bipush (v := (-2 : Int32)) hx hb dX10_copy_14 (by decide) ?_
    obtain rfl := Option.some.inj hf
    subst hQ
    exact ev_iret S hr hlocks hK hZ hM dX10_copy_16
  · have hf := it_n hf hc2
    refine lv_iload_n hx hb dX10_copy_7 rfl (lv_at hl 3 rfl) ?_
    refine bd_e hf (fun r3 er3 hf => ?_)
    refine ev_calli (va_runS (As := [.int x3]) (rest := []) S (c_X10_isSheet (l := l) I P x3 r3 er3) (va_cwS 1 hts (gi_s wa_6_15 wa_6_16 wa_1_11 wa_6_17) rfl rfl rfl (by decide +kernel) ⟨Nat.le_of_ble_eq_true rfl, Nat.le_of_ble_eq_true rfl⟩) ⟨mm_B_blind, fun U hU hW => ⟨rfl, mm_B_of hK hZ hM hU hW⟩⟩ rfl rfl hl.1 rfl (lv_room (Nat.le_of_ble_eq_true rfl)) dX10_copy_8 ⟨Nat.zero_le _, Nat.zero_le _⟩) hM (fun H locs hM => ?_)
    refine lv_if_ne (tgt := 17) hx hb dX10_copy_11 (by decide) (fun hc4 => ?_) (fun hc4 => ?_)
    · have hf := it_n hf hc4
      refine lv_aload_n hx hb dX10_copy_17 rfl (lv_at hl 0 rfl) ?_
      refine gd_e hf (fun hg5 hf => ?_)
      refine bd_e hf (fun q6 eq6 hf => ?_)
      refine ev_getP (v := q6) S hK hM (ci := 10) (n := 23) (C := RX10) (T := TX10) hin10 rfl hg5 20 (by decide) lk34 rfl rfl eq6 rfl dX10_copy_18 ?_
      refine lv_iload_n hx hb dX10_copy_21 rfl (lv_at hl 1 rfl) ?_
      refine gd_e hf (fun hg7 hf => ?_)
      refine ev_iald S hK hM hg7 (j := x1.toNatClampNeg) rfl dX10_copy_22 ?_
      refine lv_iconst (v := (-1 : Int32)) hx hb dX10_copy_23 (by decide) ?_
      refine lv_icmp_eq (tgt := 37) hx hb dX10_copy_24 (by decide) (fun hc8 => ?_) (fun hc8 => ?_)
      · have hf := it_p hf hc8
        refine lv_bipush (v := (-11 : Int32)) hx hb dX10_copy_37 (by decide) ?_
        obtain rfl := Option.some.inj hf
        subst hQ
        exact ev_iret S hr hlocks hK hZ hM dX10_copy_39
      · have hf := it_n hf hc8
        refine lv_aload_n hx hb dX10_copy_27 rfl (lv_at hl 0 rfl) ?_
        refine ev_getP (v := q6) S hK hM (ci := 10) (n := 23) (C := RX10) (T := TX10) hin10 rfl hg5 20 (by decide) lk34 rfl rfl eq6 rfl dX10_copy_28 ?_
        refine lv_iload_n hx hb dX10_copy_31 rfl (lv_at hl 3 rfl) ?_
        refine gd_e hf (fun hg9 hf => ?_)
        refine ev_iald S hK hM hg9 (j := x3.toNatClampNeg) rfl dX10_copy_32 ?_
        refine lv_iconst (v := (-1 : Int32)) hx hb dX10_copy_33 (by decide) ?_
        refine lv_icmp_ne (tgt := 40) hx hb dX10_copy_34 (by decide) (fun hc10 => ?_) (fun hc10 => ?_)
        · have hf := it_n hf hc10
          refine lv_aload_n hx hb dX10_copy_40 rfl (lv_at hl 0 rfl) ?_
          refine ev_getP (v := q6) S hK hM (ci := 10) (n := 23) (C := RX10) (T := TX10) hin10 rfl hg5 20 (by decide) lk34 rfl rfl eq6 rfl dX10_copy_41 ?_
          refine lv_iload_n hx hb dX10_copy_44 rfl (lv_at hl 1 rfl) ?_
          refine ev_iald S hK hM hg7 (j := x1.toNatClampNeg) rfl dX10_copy_45 ?_
          refine lv_aload_n hx hb dX10_copy_46 rfl (lv_at hl 0 rfl) ?_
          refine ev_getP (v := q6) S hK hM (ci := 10) (n := 23) (C := RX10) (T := TX10) hin10 rfl hg5 20 (by decide) lk34 rfl rfl eq6 rfl dX10_copy_47 ?_
          refine lv_iload_n hx hb dX10_copy_50 rfl (lv_at hl 3 rfl) ?_
          refine ev_iald S hK hM hg9 (j := x3.toNatClampNeg) rfl dX10_copy_51 ?_
          refine lv_icmp_eq (tgt := 58) hx hb dX10_copy_52 (by decide) (fun hc11 => ?_) (fun hc11 => ?_)
          · have hf := it_p hf hc11
            refine lv_iload hx hb dX10_copy_58 (lv_at hl 5 rfl) ?_
            refine lv_if_lt (tgt := 120) hx hb dX10_copy_60 (by decide) (fun hc12 => ?_) (fun hc12 => ?_)
            · have hf := it_p hf hc12
              refine lv_bipush (v := (-12 : Int32)) hx hb dX10_copy_120 (by decide) ?_
              obtain rfl := Option.some.inj hf
              subst hQ
              exact ev_iret S hr hlocks hK hZ hM dX10_copy_122
            · have hf := it_n hf hc12
              refine lv_iload_n hx hb dX10_copy_63 rfl (lv_at hl 2 rfl) ?_
              refine lv_if_lt (tgt := 120) hx hb dX10_copy_64 (by decide) (fun hc13 => ?_) (fun hc13 => ?_)
              · have hf := it_p hf hc13
                refine lv_bipush (v := (-12 : Int32)) hx hb dX10_copy_120 (by decide) ?_
                obtain rfl := Option.some.inj hf
                subst hQ
                exact ev_iret S hr hlocks hK hZ hM dX10_copy_122
              · have hf := it_n hf hc13
                refine lv_iload hx hb dX10_copy_67 (lv_at hl 4 rfl) ?_
                refine lv_if_lt (tgt := 120) hx hb dX10_copy_69 (by decide) (fun hc14 => ?_) (fun hc14 => ?_)
                · have hf := it_p hf hc14
                  refine lv_bipush (v := (-12 : Int32)) hx hb dX10_copy_120 (by decide) ?_
                  obtain rfl := Option.some.inj hf
                  subst hQ
                  exact ev_iret S hr hlocks hK hZ hM dX10_copy_122
                · have hf := it_n hf hc14
                  refine lv_iload_n hx hb dX10_copy_72 rfl (lv_at hl 2 rfl) ?_
                  refine lv_aload_n hx hb dX10_copy_73 rfl (lv_at hl 0 rfl) ?_
                  refine bd_e hf (fun q15 eq15 hf => ?_)
                  refine ev_getP (v := q15) S hK hM (ci := 10) (n := 23) (C := RX10) (T := TX10) hin10 rfl hg5 21 (by decide) lk37 rfl rfl eq15 rfl dX10_copy_74 ?_
                  refine lv_iload_n hx hb dX10_copy_77 rfl (lv_at hl 1 rfl) ?_
                  refine gd_e hf (fun hg16 hf => ?_)
                  refine ev_iald S hK hM hg16 (j := x1.toNatClampNeg) rfl dX10_copy_78 ?_
                  refine lv_icmp_gt (tgt := 120) hx hb dX10_copy_79 (by decide) (fun hc17 => ?_) (fun hc17 => ?_)
                  · have hf := it_p hf hc17
                    refine lv_bipush (v := (-12 : Int32)) hx hb dX10_copy_120 (by decide) ?_
                    obtain rfl := Option.some.inj hf
                    subst hQ
                    exact ev_iret S hr hlocks hK hZ hM dX10_copy_122
                  · have hf := it_n hf hc17
                    refine lv_iload hx hb dX10_copy_82 (lv_at hl 4 rfl) ?_
                    refine lv_aload_n hx hb dX10_copy_84 rfl (lv_at hl 0 rfl) ?_
                    refine ev_getP (v := q15) S hK hM (ci := 10) (n := 23) (C := RX10) (T := TX10) hin10 rfl hg5 21 (by decide) lk37 rfl rfl eq15 rfl dX10_copy_85 ?_
                    refine lv_iload_n hx hb dX10_copy_88 rfl (lv_at hl 3 rfl) ?_
                    refine gd_e hf (fun hg18 hf => ?_)
                    refine ev_iald S hK hM hg18 (j := x3.toNatClampNeg) rfl dX10_copy_89 ?_
                    refine lv_icmp_gt (tgt := 120) hx hb dX10_copy_90 (by decide) (fun hc19 => ?_) (fun hc19 => ?_)
                    · have hf := it_p hf hc19
                      refine lv_bipush (v := (-12 : Int32)) hx hb dX10_copy_120 (by decide) ?_
                      obtain rfl := Option.some.inj hf
                      subst hQ
                      exact ev_iret S hr hlocks hK hZ hM dX10_copy_122
                    · have hf := it_n hf hc19
                      refine lv_iload hx hb dX10_copy_93 (lv_at hl 5 rfl) ?_
                      refine lv_aload_n hx hb dX10_copy_95 rfl (lv_at hl 0 rfl) ?_
                      refine ev_getP (v := q15) S hK hM (ci := 10) (n := 23) (C := RX10) (T := TX10) hin10 rfl hg5 21 (by decide) lk37 rfl rfl eq15 rfl dX10_copy_96 ?_
                      refine lv_iload_n hx hb dX10_copy_99 rfl (lv_at hl 1 rfl) ?_
                      refine ev_iald S hK hM hg16 (j := x1.toNatClampNeg) rfl dX10_copy_100 ?_
                      refine lv_iload_n hx hb dX10_copy_101 rfl (lv_at hl 2 rfl) ?_
                      refine lv_isub hx hb dX10_copy_102 ?_
                      refine lv_icmp_gt (tgt := 120) hx hb dX10_copy_103 (by decide) (fun hc20 => ?_) (fun hc20 => ?_)
                      · have hf := it_p hf hc20
                        refine lv_bipush (v := (-12 : Int32)) hx hb dX10_copy_120 (by decide) ?_
                        obtain rfl := Option.some.inj hf
                        subst hQ
                        exact ev_iret S hr hlocks hK hZ hM dX10_copy_122
                      · have hf := it_n hf hc20
                        refine lv_iload hx hb dX10_copy_106 (lv_at hl 5 rfl) ?_
                        refine lv_aload_n hx hb dX10_copy_108 rfl (lv_at hl 0 rfl) ?_
                        refine ev_getP (v := q15) S hK hM (ci := 10) (n := 23) (C := RX10) (T := TX10) hin10 rfl hg5 21 (by decide) lk37 rfl rfl eq15 rfl dX10_copy_109 ?_
                        refine lv_iload_n hx hb dX10_copy_112 rfl (lv_at hl 3 rfl) ?_
                        refine ev_iald S hK hM hg18 (j := x3.toNatClampNeg) rfl dX10_copy_113 ?_
                        refine lv_iload hx hb dX10_copy_114 (lv_at hl 4 rfl) ?_
                        refine lv_isub hx hb dX10_copy_116 ?_
                        refine lv_icmp_le (tgt := 123) hx hb dX10_copy_117 (by decide) (fun hc21 => ?_) (fun hc21 => ?_)
                        · have hf := it_p hf hc21
                          refine lv_iconst (v := (0 : Int32)) hx hb dX10_copy_123 (by decide) ?_
                          refine lv_istore (lv' := [(6, .int (0 : Int32)), (0, .ref a0), (1, .int x1), (2, .int x2), (3, .int x3), (4, .int x4), (5, .int x5)]) hx hb dX10_copy_124 hl (by decide) rfl (fun ls hl => ?_)
                          have lp126_31 : ∀ (n : Nat) (v22 : Int32) (I23 : Nat → Nat → Int32) (H : Heap) (locs : List Loc) (ls : Array Slot) (r24 : (Nat → Nat → Int32)), mm_W D cs A L K N s.heap I23 P H locs → lv_has ls 8 [(0, .ref a0), (1, .int x1), (2, .int x2), (3, .int x3), (4, .int x4), (5, .int x5), (6, .int v22)] → fn_X10_copy_L126 K N a0 x1 x2 x3 x4 x5 P n v22 I23 = some r24 → (∀ (H : Heap) (locs : List Loc) (ls : Array Slot), mm_W D cs A L K N s.heap r24 P H locs → lv_has ls 8 [(5, .int x5)] → W p l e (headSpec wz_X10_copy rm_X10_copy).room s m ([.ref a0, .int x1, .int x2, .int x3, .int x4, .int x5] : List Value).toArray below meth c H locs 0 0 QQ (F0 m 188 ls [])) → W p l e (headSpec wz_X10_copy rm_X10_copy).room s m ([.ref a0, .int x1, .int x2, .int x3, .int x4, .int x5] : List Value).toArray below meth c H locs 0 0 QQ (F0 m 126 ls []) := by
                            intro n
                            induction n with
                            | zero => intro v22 I23 H locs ls r24 hM hl hf kk; exact nn_x (show (none : Option ((Nat → Nat → Int32))) = some r24 from hf)
                            | succ n ih =>
                              intro v22 I23 H locs ls r24 hM hl hf kk
                              rw [fn_X10_copy_L126] at hf
                              refine lv_iload hx hb dX10_copy_126 (lv_at hl 6 rfl) ?_
                              refine lv_iload hx hb dX10_copy_128 (lv_at hl 5 rfl) ?_
                              refine lv_icmp_ge (tgt := 188) hx hb dX10_copy_130 (by decide) (fun hc25 => ?_) (fun hc25 => ?_)
                              · have hf := it_p hf hc25
                                obtain rfl := Option.some.inj hf
                                exact kk _ _ _ hM (lv_sub hl [5] rfl)
                              · have hf := it_n hf hc25
                                refine lv_iload_n hx hb dX10_copy_133 rfl (lv_at hl 2 rfl) ?_
                                refine lv_iload hx hb dX10_copy_134 (lv_at hl 4 rfl) ?_
                                refine bd_e hf (fun j27 ej27 hf => ?_)
                                have kj27 : ∀ (H : Heap) (locs : List Loc) (ls : Array Slot), mm_W D cs A L K N s.heap I23 P H locs → lv_has ls 8 [(0, .ref a0), (1, .int x1), (2, .int x2), (3, .int x3), (4, .int x4), (5, .int x5), (6, .int v22)] → W p l e (headSpec wz_X10_copy rm_X10_copy).room s m ([.ref a0, .int x1, .int x2, .int x3, .int x4, .int x5] : List Value).toArray below meth c H locs 0 0 QQ (F0 m 151 ls [.int j27]) := by
                                  intro H locs ls hM hl
                                  refine lv_istore (lv' := [(7, .int j27), (0, .ref a0), (1, .int x1), (2, .int x2), (3, .int x3), (4, .int x4), (5, .int x5), (6, .int v22)]) hx hb dX10_copy_151 hl (by decide) rfl (fun ls hl => ?_)
                                  refine lv_aload_n hx hb dX10_copy_153 rfl (lv_at hl 1 rfl) ?_
                                  refine bd_e hf (fun q28 eq28 hf => ?_)
                                  refine ev_getP (v := q28) S hK hM (ci := 10) (n := 23) (C := RX10) (T := TX10) hin10 rfl hg5 22 (by decide) lk40 rfl rfl eq28 rfl dX10_copy_154 ?_
                                  refine lv_bipush (v := (40 : Int32)) hx hb dX10_copy_157 (by decide) ?_
                                  refine lv_iload_n hx hb dX10_copy_159 rfl (lv_at hl 4 rfl) ?_
                                  refine lv_imul hx hb dX10_copy_160 ?_
                                  refine lv_iload hx hb dX10_copy_161 (lv_at hl 5 rfl) ?_
                                  refine lv_iadd hx hb dX10_copy_163 ?_
                                  refine lv_iload hx hb dX10_copy_164 (lv_at hl 0 rfl) ?_
                                  refine lv_iadd hx hb dX10_copy_166 ?_
                                  refine lv_aload_n hx hb dX10_copy_167 rfl (lv_at hl 1 rfl) ?_
                                  refine ev_getP (v := q28) S hK hM (ci := 10) (n := 23) (C := RX10) (T := TX10) hin10 rfl hg5 22 (by decide) lk40 rfl rfl eq28 rfl dX10_copy_168 ?_
                                  refine lv_bipush (v := (40 : Int32)) hx hb dX10_copy_171 (by decide) ?_
                                  refine lv_iload_n hx hb dX10_copy_173 rfl (lv_at hl 2 rfl) ?_
                                  refine lv_imul hx hb dX10_copy_174 ?_
                                  refine lv_iload_n hx hb dX10_copy_175 rfl (lv_at hl 3 rfl) ?_
                                  refine lv_iadd hx hb dX10_copy_176 ?_
                                  refine lv_iload hx hb dX10_copy_177 (lv_at hl 0 rfl) ?_
                                  refine lv_iadd hx hb dX10_copy_179 ?_
                                  refine gd_e hf (fun hg29 hf => ?_)
                                  refine ev_iald S hK hM hg29 (j := (((((40 : Int32) * x1) + x2) + j27)).toNatClampNeg) rfl dX10_copy_180 ?_
                                  refine gd_e hf (fun hg30 hf => ?_)
                                  refine ev_iast S hK hM hg30 (j := (((((40 : Int32) * x3) + x4) + j27)).toNatClampNeg) rfl dX10_copy_181 (fun I31 eI31 H locs hM => ?_)
                                  have hf := nm_x eI31 hf
                                  refine lv_iinc (v := (v22 + (1 : Int32))) (lv' := [(6, .int (v22 + (1 : Int32))), (7, .int j27), (0, .ref a0), (1, .int x1), (2, .int x2), (3, .int x3), (4, .int x4), (5, .int x5)]) hx hb dX10_copy_182 hl (k := 7) rfl rfl (by decide) rfl (fun ls hl => ?_)
                                  refine lv_goto (tgt := 126) hx hb dX10_copy_185 (by decide) ?_
                                  exact ih (v22 + (1 : Int32)) I31 _ _ _ _ hM (lv_sub hl [2, 3, 4, 5, 6, 7, 0] rfl) hf kk
                                have hf := ej27
                                refine lv_icmp_le (tgt := 144) hx hb dX10_copy_136 (by decide) (fun hc26 => ?_) (fun hc26 => ?_)
                                · have hf := it_p hf hc26
                                  refine lv_iload hx hb dX10_copy_144 (lv_at hl 5 rfl) ?_
                                  refine lv_iconst (v := (1 : Int32)) hx hb dX10_copy_146 (by decide) ?_
                                  refine lv_isub hx hb dX10_copy_147 ?_
                                  refine lv_iload hx hb dX10_copy_148 (lv_at hl 6 rfl) ?_
                                  refine lv_isub hx hb dX10_copy_150 ?_
                                  obtain rfl := Option.some.inj hf
                                  exact kj27 _ _ _ hM (hl)
                                · have hf := it_n hf hc26
                                  refine lv_iload hx hb dX10_copy_139 (lv_at hl 6 rfl) ?_
                                  refine lv_goto (tgt := 151) hx hb dX10_copy_141 (by decide) ?_
                                  obtain rfl := Option.some.inj hf
                                  exact kj27 _ _ _ hM (hl)
                          refine bd_e hf (fun r24 er24 hf => ?_)
                          refine lp126_31 FU (0 : Int32) I _ _ _ r24 hM (lv_sub hl [1, 2, 3, 4, 5, 6, 0] rfl) er24 (fun H locs ls hM hl => ?_)
                          refine lv_iload hx hb dX10_copy_188 (lv_at hl 0 rfl) ?_
                          obtain rfl := Option.some.inj hf
                          subst hQ
                          exact ev_iret S hr hlocks hK hZ hM dX10_copy_190
                        · have hf := it_n hf hc21
                          refine lv_bipush (v := (-12 : Int32)) hx hb dX10_copy_120 (by decide) ?_
                          obtain rfl := Option.some.inj hf
                          subst hQ
                          exact ev_iret S hr hlocks hK hZ hM dX10_copy_122
          · have hf := it_n hf hc11
            refine lv_bipush (v := (-13 : Int32)) hx hb dX10_copy_55 (by decide) ?_
            obtain rfl := Option.some.inj hf
            subst hQ
            exact ev_iret S hr hlocks hK hZ hM dX10_copy_57
        · have hf := it_p hf hc10
          refine lv_bipush (v := (-11 : Int32)) hx hb dX10_copy_37 (by decide) ?_
          obtain rfl := Option.some.inj hf
          subst hQ
          exact ev_iret S hr hlocks hK hZ hM dX10_copy_39
    · have hf := it_p hf hc4
      refine lv_bipush (v := (-2 : Int32)) hx hb dX10_copy_14 (by decide) ?_
      obtain rfl := Option.some.inj hf
      subst hQ
      exact ev_iret S hr hlocks hK hZ hM dX10_copy_16
noncomputable def fn_X10_image_L2 (K : Nat → Nat) (N : Nat → Nat) (a0 : Nat) (P : Nat → Nat → Option Nat) : Nat → Int32 → (Nat → Nat → Int32) → Option ((Nat → Nat → Int32))
  | 0, _, _ => none
  | n + 1, v1, I2 => if (5608 : Int32) ≤ v1 then (some I2) else (gd (K a0 = 11) (Option.bind (P a0 (1)) (fun q6 => Option.bind (P a0 (0)) (fun q7 => gd (K q7 = 12 ∧ vp_in v1 (N q7)) (gd (K q6 = 12 ∧ vp_in v1 (N q6)) (Option.bind (some (up2 I2 q6 (v1.toNatClampNeg) (I2 q7 (v1.toNatClampNeg)))) (fun I10 => fn_X10_image_L2 K N a0 P n (v1 + (1 : Int32)) I10)))))))
noncomputable def fn_X10_image (K N : Nat → Nat) (I : Nat → Nat → Int32) (P : Nat → Nat → Option Nat) (a0 : Nat) : Option (Int32 × (Nat → Nat → Int32)) := Option.bind (fn_X10_image_L2 K N a0 P FU (0 : Int32) I) (fun (r3 : (Nat → Nat → Int32)) => gd (K a0 = 11) (Option.bind (some (up2 r3 a0 2 (1 : Int32))) (fun I12 => Option.bind (P a0 (0)) (fun q13 => gd (K q13 = 12 ∧ vp_in (0 : Int32) (N q13)) (some ((I12 q13 (0)), I12))))))
abbrev wz_X10_image : List Cond := Cond.code yX10_image cX10_image 2 (some .int) :: WA
abbrev rm_X10_image : Room := { frames := 1, cells := 0, slots := 0, locals := 12 }
set_option maxHeartbeats 4000000 in
set_option maxRecDepth 100000 in
theorem c_X10_image (I : Nat → Nat → Int32) (P : Nat → Nat → Option Nat) (a0 : Nat) (res : Int32 × (Nat → Nat → Int32)) (hf : fn_X10_image K N I P a0 = some res) : Met l yX10_image wz_X10_image rm_X10_image (va_Pc [.ref a0] (mm_B D cs A L K N z w I P)) (va_Qi (fun r (_ : Unit) => r = res.1) (fun _ => mm_B D cs A L K N z w res.2 P) A) 0 0 A := by
  refine Met.ofW (cc := cX10_image) (maxL := 2) (ret := (some .int)) (by decide) rfl ?_
  intro p e s m args below meth c s₁ B hml hv
  obtain ⟨rfl, hBm⟩ := hv
  have hx := B.exec
  have hb := B.bytes
  have hr := B.returns
  have hts := atoms_spec (ws := wz_X10_image) B.pre
  have hWA : ∀ w ∈ WA, w.before ([.ref a0] : List Value).toArray s = true := fun u9 h9 => hts u9 (List.mem_cons_of_mem _ h9)
  have hown : s.vm.findClass RX10 = some m.cls := findClass_of_methodNamed B.named
  have hlocks := B.notSynchronized
  have S : CallFix p m c cX10_image 2 s ([.ref a0] : List Value).toArray wz_X10_image RX10 := ⟨hx, hb, hml, hown, hts⟩
  have hK := hBm.2.2.2.1
  have hZ := hBm.2.2.2.2
  have hM : mm_W D cs A L K N s.heap I P s.heap [] := ⟨hBm.1, hBm.2.1, hBm.2.2.1, va_S.rf⟩
  have hl := lv_entry ([.ref a0]) (n := 2) (Nat.le_of_ble_eq_true rfl)
  rw [lg_entry_eq]
  generalize (lg_sl ([.ref a0]) ++ List.replicate (2 - (lg_sl ([.ref a0])).length) Slot.unset).toArray = ls at hl ⊢
  have hl : lv_has ls 2 [(0, .ref a0)] := hl
  have hin10 : ∀ w ∈ wsX100, w ∈ wz_X10_image := fun w h => List.mem_cons_of_mem _ (wu_X10 w h)
  have lk13 : (Cond.fieldLink RX10 13 RX10 "kept" "[I").before ([.ref a0] : List Value).toArray s = true := hWA _ wa_4_142
  have lk9 : (Cond.fieldLink RX10 9 RX10 "g" "[I").before ([.ref a0] : List Value).toArray s = true := hWA _ wa_4_141
  have lk279 : (Cond.fieldLink RX10 279 RX10 "isKept" "Z").before ([.ref a0] : List Value).toArray s = true := hWA _ wa_4_143
  generalize hQ : MQ below (va_Qi (fun r (_ : Unit) => r = res.1) (fun _ => mm_B D cs A L K N z w res.2 P) A) ([.ref a0] : List Value).toArray s 0 0 A = QQ
  rw [fn_X10_image] at hf
  refine lv_iconst (v := (0 : Int32)) hx hb dX10_image_0 (by decide) ?_
  refine lv_istore_n (lv' := [(1, .int (0 : Int32)), (0, .ref a0)]) hx hb dX10_image_1 rfl hl (by decide) rfl (fun ls hl => ?_)
  have lp2_10 : ∀ (n : Nat) (v1 : Int32) (I2 : Nat → Nat → Int32) (H : Heap) (locs : List Loc) (ls : Array Slot) (r3 : (Nat → Nat → Int32)), mm_W D cs A L K N s.heap I2 P H locs → lv_has ls 2 [(0, .ref a0), (1, .int v1)] → fn_X10_image_L2 K N a0 P n v1 I2 = some r3 → (∀ (H : Heap) (locs : List Loc) (ls : Array Slot), mm_W D cs A L K N s.heap r3 P H locs → lv_has ls 2 [(0, .ref a0)] → W p l e (headSpec wz_X10_image rm_X10_image).room s m ([.ref a0] : List Value).toArray below meth c H locs 0 0 QQ (F0 m 27 ls [])) → W p l e (headSpec wz_X10_image rm_X10_image).room s m ([.ref a0] : List Value).toArray below meth c H locs 0 0 QQ (F0 m 2 ls []) := by
    intro n
    induction n with
    | zero => intro v1 I2 H locs ls r3 hM hl hf kk; exact nn_x (show (none : Option ((Nat → Nat → Int32))) = some r3 from hf)
    | succ n ih =>
      intro v1 I2 H locs ls r3 hM hl hf kk
      rw [fn_X10_image_L2] at hf
      refine lv_iload_n hx hb dX10_image_2 rfl (lv_at hl 1 rfl) ?_
      refine lv_sipush (v := (5608 : Int32)) hx hb dX10_image_3 (by decide) ?_
      refine lv_icmp_ge (tgt := 27) hx hb dX10_image_6 (by decide) (fun hc4 => ?_) (fun hc4 => ?_)
      · have hf := it_p hf hc4
        obtain rfl := Option.some.inj hf
        exact kk _ _ _ hM (lv_sub hl [0] rfl)
      · have hf := it_n hf hc4
        refine lv_aload_n hx hb dX10_image_9 rfl (lv_at hl 0 rfl) ?_
        refine gd_e hf (fun hg5 hf => ?_)
        refine bd_e hf (fun q6 eq6 hf => ?_)
        refine ev_getP (v := q6) S hK hM (ci := 10) (n := 23) (C := RX10) (T := TX10) hin10 rfl hg5 1 (by decide) lk13 rfl rfl eq6 rfl dX10_image_10 ?_
        refine lv_iload_n hx hb dX10_image_13 rfl (lv_at hl 1 rfl) ?_
        refine lv_aload_n hx hb dX10_image_14 rfl (lv_at hl 0 rfl) ?_
        refine bd_e hf (fun q7 eq7 hf => ?_)
        refine ev_getP (v := q7) S hK hM (ci := 10) (n := 23) (C := RX10) (T := TX10) hin10 rfl hg5 0 (by decide) lk9 rfl rfl eq7 rfl dX10_image_15 ?_
        refine lv_iload_n hx hb dX10_image_18 rfl (lv_at hl 1 rfl) ?_
        refine gd_e hf (fun hg8 hf => ?_)
        refine ev_iald S hK hM hg8 (j := v1.toNatClampNeg) rfl dX10_image_19 ?_
        refine gd_e hf (fun hg9 hf => ?_)
        refine ev_iast S hK hM hg9 (j := v1.toNatClampNeg) rfl dX10_image_20 (fun I10 eI10 H locs hM => ?_)
        have hf := nm_x eI10 hf
        refine lv_iinc (v := (v1 + (1 : Int32))) (lv' := [(1, .int (v1 + (1 : Int32))), (0, .ref a0)]) hx hb dX10_image_21 hl (k := 1) rfl rfl (by decide) rfl (fun ls hl => ?_)
        refine lv_goto (tgt := 2) hx hb dX10_image_24 (by decide) ?_
        exact ih (v1 + (1 : Int32)) I10 _ _ _ _ hM (lv_sub hl [1, 0] rfl) hf kk
  refine bd_e hf (fun r3 er3 hf => ?_)
  refine lp2_10 FU (0 : Int32) I _ _ _ r3 hM (lv_sub hl [1, 0] rfl) er3 (fun H locs ls hM hl => ?_)
  refine lv_aload_n hx hb dX10_image_27 rfl (lv_at hl 0 rfl) ?_
  refine lv_iconst (v := (1 : Int32)) hx hb dX10_image_28 (by decide) ?_
  refine gd_e hf (fun hg11 hf => ?_)
  refine ev_put S hK hM (ci := 10) (n := 23) (C := RX10) (T := TX10) hin10 tyX10 tyX10_ok nmX10 rfl hg11 2 (by decide) lk279 rfl rfl rfl rfl rfl (Nat.le_of_ble_eq_true rfl) rfl dX10_image_29 (fun I12 eI12 H locs hM => ?_)
  have hf := nm_x eI12 hf
  refine lv_aload_n hx hb dX10_image_32 rfl (lv_at hl 0 rfl) ?_
  refine bd_e hf (fun q13 eq13 hf => ?_)
  refine ev_getP (v := q13) S hK hM (ci := 10) (n := 23) (C := RX10) (T := TX10) hin10 rfl hg11 0 (by decide) lk9 rfl rfl eq13 rfl dX10_image_33 ?_
  refine lv_iconst (v := (0 : Int32)) hx hb dX10_image_36 (by decide) ?_
  refine gd_e hf (fun hg14 hf => ?_)
  refine ev_iald S hK hM hg14 (j := 0) rfl dX10_image_37 ?_
  obtain rfl := Option.some.inj hf
  subst hQ
  exact ev_iret S hr hlocks hK hZ hM dX10_image_38
noncomputable def fn_X10_back_L12 (K : Nat → Nat) (N : Nat → Nat) (a0 : Nat) (P : Nat → Nat → Option Nat) : Nat → Int32 → (Nat → Nat → Int32) → Option ((Nat → Nat → Int32))
  | 0, _, _ => none
  | n + 1, v3, I4 => if (5608 : Int32) ≤ v3 then (some I4) else (Option.bind (P a0 (0)) (fun q7 => Option.bind (P a0 (1)) (fun q8 => gd (K q8 = 12 ∧ vp_in v3 (N q8)) (gd (K q7 = 12 ∧ vp_in v3 (N q7)) (Option.bind (some (up2 I4 q7 (v3.toNatClampNeg) (I4 q8 (v3.toNatClampNeg)))) (fun I11 => fn_X10_back_L12 K N a0 P n (v3 + (1 : Int32)) I11))))))
noncomputable def fn_X10_back (K N : Nat → Nat) (I : Nat → Nat → Int32) (P : Nat → Nat → Option Nat) (a0 : Nat) : Option (Int32 × (Nat → Nat → Int32)) := gd (K a0 = 11) (if (I a0 2) = 0 then (some ((-3 : Int32), I)) else (Option.bind (fn_X10_back_L12 K N a0 P FU (0 : Int32) I) (fun (r5 : (Nat → Nat → Int32)) => Option.bind (P a0 (0)) (fun q12 => gd (K q12 = 12 ∧ vp_in (0 : Int32) (N q12)) (some ((r5 q12 (0)), r5))))))
abbrev wz_X10_back : List Cond := Cond.code yX10_back cX10_back 2 (some .int) :: WA
abbrev rm_X10_back : Room := { frames := 1, cells := 0, slots := 0, locals := 12 }
set_option maxHeartbeats 4000000 in
set_option maxRecDepth 100000 in
theorem c_X10_back (I : Nat → Nat → Int32) (P : Nat → Nat → Option Nat) (a0 : Nat) (res : Int32 × (Nat → Nat → Int32)) (hf : fn_X10_back K N I P a0 = some res) : Met l yX10_back wz_X10_back rm_X10_back (va_Pc [.ref a0] (mm_B D cs A L K N z w I P)) (va_Qi (fun r (_ : Unit) => r = res.1) (fun _ => mm_B D cs A L K N z w res.2 P) A) 0 0 A := by
  refine Met.ofW (cc := cX10_back) (maxL := 2) (ret := (some .int)) (by decide) rfl ?_
  intro p e s m args below meth c s₁ B hml hv
  obtain ⟨rfl, hBm⟩ := hv
  have hx := B.exec
  have hb := B.bytes
  have hr := B.returns
  have hts := atoms_spec (ws := wz_X10_back) B.pre
  have hWA : ∀ w ∈ WA, w.before ([.ref a0] : List Value).toArray s = true := fun u9 h9 => hts u9 (List.mem_cons_of_mem _ h9)
  have hown : s.vm.findClass RX10 = some m.cls := findClass_of_methodNamed B.named
  have hlocks := B.notSynchronized
  have S : CallFix p m c cX10_back 2 s ([.ref a0] : List Value).toArray wz_X10_back RX10 := ⟨hx, hb, hml, hown, hts⟩
  have hK := hBm.2.2.2.1
  have hZ := hBm.2.2.2.2
  have hM : mm_W D cs A L K N s.heap I P s.heap [] := ⟨hBm.1, hBm.2.1, hBm.2.2.1, va_S.rf⟩
  have hl := lv_entry ([.ref a0]) (n := 2) (Nat.le_of_ble_eq_true rfl)
  rw [lg_entry_eq]
  generalize (lg_sl ([.ref a0]) ++ List.replicate (2 - (lg_sl ([.ref a0])).length) Slot.unset).toArray = ls at hl ⊢
  have hl : lv_has ls 2 [(0, .ref a0)] := hl
  have hin10 : ∀ w ∈ wsX100, w ∈ wz_X10_back := fun w h => List.mem_cons_of_mem _ (wu_X10 w h)
  have lk279 : (Cond.fieldLink RX10 279 RX10 "isKept" "Z").before ([.ref a0] : List Value).toArray s = true := hWA _ wa_4_143
  have lk9 : (Cond.fieldLink RX10 9 RX10 "g" "[I").before ([.ref a0] : List Value).toArray s = true := hWA _ wa_4_141
  have lk13 : (Cond.fieldLink RX10 13 RX10 "kept" "[I").before ([.ref a0] : List Value).toArray s = true := hWA _ wa_4_142
  generalize hQ : MQ below (va_Qi (fun r (_ : Unit) => r = res.1) (fun _ => mm_B D cs A L K N z w res.2 P) A) ([.ref a0] : List Value).toArray s 0 0 A = QQ
  rw [fn_X10_back] at hf
  refine lv_aload_n hx hb dX10_back_0 rfl (lv_at hl 0 rfl) ?_
  refine gd_e hf (fun hg1 hf => ?_)
  refine ev_get (v := .int (I a0 2)) S hK hM (ci := 10) (n := 23) (C := RX10) (T := TX10) hin10 rfl hg1 2 (by decide) lk279 rfl rfl rfl dX10_back_1 ?_
  refine lv_if_ne (tgt := 10) hx hb dX10_back_4 (by decide) (fun hc2 => ?_) (fun hc2 => ?_)
  · have hf := it_n hf hc2
    refine lv_iconst (v := (0 : Int32)) hx hb dX10_back_10 (by decide) ?_
    refine lv_istore_n (lv' := [(1, .int (0 : Int32)), (0, .ref a0)]) hx hb dX10_back_11 rfl hl (by decide) rfl (fun ls hl => ?_)
    have lp12_11 : ∀ (n : Nat) (v3 : Int32) (I4 : Nat → Nat → Int32) (H : Heap) (locs : List Loc) (ls : Array Slot) (r5 : (Nat → Nat → Int32)), mm_W D cs A L K N s.heap I4 P H locs → lv_has ls 2 [(0, .ref a0), (1, .int v3)] → fn_X10_back_L12 K N a0 P n v3 I4 = some r5 → (∀ (H : Heap) (locs : List Loc) (ls : Array Slot), mm_W D cs A L K N s.heap r5 P H locs → lv_has ls 2 [(0, .ref a0)] → W p l e (headSpec wz_X10_back rm_X10_back).room s m ([.ref a0] : List Value).toArray below meth c H locs 0 0 QQ (F0 m 37 ls [])) → W p l e (headSpec wz_X10_back rm_X10_back).room s m ([.ref a0] : List Value).toArray below meth c H locs 0 0 QQ (F0 m 12 ls []) := by
      intro n
      induction n with
      | zero => intro v3 I4 H locs ls r5 hM hl hf kk; exact nn_x (show (none : Option ((Nat → Nat → Int32))) = some r5 from hf)
      | succ n ih =>
        intro v3 I4 H locs ls r5 hM hl hf kk
        rw [fn_X10_back_L12] at hf
        refine lv_iload_n hx hb dX10_back_12 rfl (lv_at hl 1 rfl) ?_
        refine lv_sipush (v := (5608 : Int32)) hx hb dX10_back_13 (by decide) ?_
        refine lv_icmp_ge (tgt := 37) hx hb dX10_back_16 (by decide) (fun hc6 => ?_) (fun hc6 => ?_)
        · have hf := it_p hf hc6
          obtain rfl := Option.some.inj hf
          exact kk _ _ _ hM (lv_sub hl [0] rfl)
        · have hf := it_n hf hc6
          refine lv_aload_n hx hb dX10_back_19 rfl (lv_at hl 0 rfl) ?_
          refine bd_e hf (fun q7 eq7 hf => ?_)
          refine ev_getP (v := q7) S hK hM (ci := 10) (n := 23) (C := RX10) (T := TX10) hin10 rfl hg1 0 (by decide) lk9 rfl rfl eq7 rfl dX10_back_20 ?_
          refine lv_iload_n hx hb dX10_back_23 rfl (lv_at hl 1 rfl) ?_
          refine lv_aload_n hx hb dX10_back_24 rfl (lv_at hl 0 rfl) ?_
          refine bd_e hf (fun q8 eq8 hf => ?_)
          refine ev_getP (v := q8) S hK hM (ci := 10) (n := 23) (C := RX10) (T := TX10) hin10 rfl hg1 1 (by decide) lk13 rfl rfl eq8 rfl dX10_back_25 ?_
          refine lv_iload_n hx hb dX10_back_28 rfl (lv_at hl 1 rfl) ?_
          refine gd_e hf (fun hg9 hf => ?_)
          refine ev_iald S hK hM hg9 (j := v3.toNatClampNeg) rfl dX10_back_29 ?_
          refine gd_e hf (fun hg10 hf => ?_)
          refine ev_iast S hK hM hg10 (j := v3.toNatClampNeg) rfl dX10_back_30 (fun I11 eI11 H locs hM => ?_)
          have hf := nm_x eI11 hf
          refine lv_iinc (v := (v3 + (1 : Int32))) (lv' := [(1, .int (v3 + (1 : Int32))), (0, .ref a0)]) hx hb dX10_back_31 hl (k := 1) rfl rfl (by decide) rfl (fun ls hl => ?_)
          refine lv_goto (tgt := 12) hx hb dX10_back_34 (by decide) ?_
          exact ih (v3 + (1 : Int32)) I11 _ _ _ _ hM (lv_sub hl [1, 0] rfl) hf kk
    refine bd_e hf (fun r5 er5 hf => ?_)
    refine lp12_11 FU (0 : Int32) I _ _ _ r5 hM (lv_sub hl [1, 0] rfl) er5 (fun H locs ls hM hl => ?_)
    refine lv_aload_n hx hb dX10_back_37 rfl (lv_at hl 0 rfl) ?_
    refine bd_e hf (fun q12 eq12 hf => ?_)
    refine ev_getP (v := q12) S hK hM (ci := 10) (n := 23) (C := RX10) (T := TX10) hin10 rfl hg1 0 (by decide) lk9 rfl rfl eq12 rfl dX10_back_38 ?_
    refine lv_iconst (v := (0 : Int32)) hx hb dX10_back_41 (by decide) ?_
    refine gd_e hf (fun hg13 hf => ?_)
    refine ev_iald S hK hM hg13 (j := 0) rfl dX10_back_42 ?_
    obtain rfl := Option.some.inj hf
    subst hQ
    exact ev_iret S hr hlocks hK hZ hM dX10_back_43
  · have hf := it_p hf hc2
    refine lv_bipush (v := (-3 : Int32)) hx hb dX10_back_7 (by decide) ?_
    obtain rfl := Option.some.inj hf
    subst hQ
    exact ev_iret S hr hlocks hK hZ hM dX10_back_9
noncomputable def fn_X10_tiles_L4 (K : Nat → Nat) (N : Nat → Nat) (a0 : Nat) (I : Nat → Nat → Int32) (P : Nat → Nat → Option Nat) : Nat → Int32 → Int32 → Option (Int32)
  | 0, _, _ => none
  | n + 1, v1, v2 => gd (K a0 = 11) (Option.bind (P a0 (0)) (fun q5 => gd (K q5 = 12 ∧ vp_in (7 : Int32) (N q5)) (if (I q5 (7)) ≤ v2 then (some v1) else (gd (K q5 = 12 ∧ vp_in (((1748 : Int32) + ((386 : Int32) * v2)) + (1 : Int32)) (N q5)) (Option.bind (fn_X10_bits (I q5 ((((1748 : Int32) + ((386 : Int32) * v2)) + (1 : Int32))).toNatClampNeg)) (fun (r9 : Int32) => Option.bind (some (v1 + r9)) (fun v10 => fn_X10_tiles_L4 K N a0 I P n v10 (v2 + (1 : Int32)))))))))
noncomputable def fn_X10_tiles (K N : Nat → Nat) (I : Nat → Nat → Int32) (P : Nat → Nat → Option Nat) (a0 : Nat) : Option (Int32) := Option.bind (fn_X10_tiles_L4 K N a0 I P FU (0 : Int32) (0 : Int32)) (fun (r3 : Int32) => some r3)
abbrev wz_X10_tiles : List Cond := Cond.code yX10_tiles cX10_tiles 3 (some .int) :: WA
abbrev rm_X10_tiles : Room := { frames := 2, cells := 0, slots := 0, locals := 34 }
set_option maxHeartbeats 4000000 in
set_option maxRecDepth 100000 in
theorem c_X10_tiles (I : Nat → Nat → Int32) (P : Nat → Nat → Option Nat) (a0 : Nat) (res : Int32) (hf : fn_X10_tiles K N I P a0 = some res) : Met l yX10_tiles wz_X10_tiles rm_X10_tiles (va_Pc [.ref a0] (mm_B D cs A L K N z w I P)) (va_Qi (fun r (_ : Unit) => r = res) (fun _ => mm_B D cs A L K N z w I P) A) 0 0 A := by
  refine Met.ofW (cc := cX10_tiles) (maxL := 3) (ret := (some .int)) (by decide) rfl ?_
  intro p e s m args below meth c s₁ B hml hv
  obtain ⟨rfl, hBm⟩ := hv
  have hx := B.exec
  have hb := B.bytes
  have hr := B.returns
  have hts := atoms_spec (ws := wz_X10_tiles) B.pre
  have hWA : ∀ w ∈ WA, w.before ([.ref a0] : List Value).toArray s = true := fun u9 h9 => hts u9 (List.mem_cons_of_mem _ h9)
  have hown : s.vm.findClass RX10 = some m.cls := findClass_of_methodNamed B.named
  have hlocks := B.notSynchronized
  have S : CallFix p m c cX10_tiles 3 s ([.ref a0] : List Value).toArray wz_X10_tiles RX10 := ⟨hx, hb, hml, hown, hts⟩
  have hK := hBm.2.2.2.1
  have hZ := hBm.2.2.2.2
  have hM : mm_W D cs A L K N s.heap I P s.heap [] := ⟨hBm.1, hBm.2.1, hBm.2.2.1, va_S.rf⟩
  have hl := lv_entry ([.ref a0]) (n := 3) (Nat.le_of_ble_eq_true rfl)
  rw [lg_entry_eq]
  generalize (lg_sl ([.ref a0]) ++ List.replicate (3 - (lg_sl ([.ref a0])).length) Slot.unset).toArray = ls at hl ⊢
  have hl : lv_has ls 3 [(0, .ref a0)] := hl
  have hin10 : ∀ w ∈ wsX100, w ∈ wz_X10_tiles := fun w h => List.mem_cons_of_mem _ (wu_X10 w h)
  have lk9 : (Cond.fieldLink RX10 9 RX10 "g" "[I").before ([.ref a0] : List Value).toArray s = true := hWA _ wa_4_141
  generalize hQ : MQ below (va_Qi (fun r (_ : Unit) => r = res) (fun _ => mm_B D cs A L K N z w I P) A) ([.ref a0] : List Value).toArray s 0 0 A = QQ
  rw [fn_X10_tiles] at hf
  refine lv_iconst (v := (0 : Int32)) hx hb dX10_tiles_0 (by decide) ?_
  refine lv_istore_n (lv' := [(1, .int (0 : Int32)), (0, .ref a0)]) hx hb dX10_tiles_1 rfl hl (by decide) rfl (fun ls hl => ?_)
  refine lv_iconst (v := (0 : Int32)) hx hb dX10_tiles_2 (by decide) ?_
  refine lv_istore_n (lv' := [(2, .int (0 : Int32)), (1, .int (0 : Int32)), (0, .ref a0)]) hx hb dX10_tiles_3 rfl hl (by decide) rfl (fun ls hl => ?_)
  have lp4_10 : ∀ (n : Nat) (v1 : Int32) (v2 : Int32) (H : Heap) (locs : List Loc) (ls : Array Slot) (r3 : Int32), mm_W D cs A L K N s.heap I P H locs → lv_has ls 3 [(0, .ref a0), (1, .int v1), (2, .int v2)] → fn_X10_tiles_L4 K N a0 I P n v1 v2 = some r3 → (∀ (H : Heap) (locs : List Loc) (ls : Array Slot), mm_W D cs A L K N s.heap I P H locs → lv_has ls 3 [(1, .int r3)] → W p l e (headSpec wz_X10_tiles rm_X10_tiles).room s m ([.ref a0] : List Value).toArray below meth c H locs 0 0 QQ (F0 m 43 ls [])) → W p l e (headSpec wz_X10_tiles rm_X10_tiles).room s m ([.ref a0] : List Value).toArray below meth c H locs 0 0 QQ (F0 m 4 ls []) := by
    intro n
    induction n with
    | zero => intro v1 v2 H locs ls r3 hM hl hf kk; exact nn_x (show (none : Option (Int32)) = some r3 from hf)
    | succ n ih =>
      intro v1 v2 H locs ls r3 hM hl hf kk
      rw [fn_X10_tiles_L4] at hf
      refine lv_iload_n hx hb dX10_tiles_4 rfl (lv_at hl 2 rfl) ?_
      refine lv_aload_n hx hb dX10_tiles_5 rfl (lv_at hl 0 rfl) ?_
      refine gd_e hf (fun hg4 hf => ?_)
      refine bd_e hf (fun q5 eq5 hf => ?_)
      refine ev_getP (v := q5) S hK hM (ci := 10) (n := 23) (C := RX10) (T := TX10) hin10 rfl hg4 0 (by decide) lk9 rfl rfl eq5 rfl dX10_tiles_6 ?_
      refine lv_bipush (v := (7 : Int32)) hx hb dX10_tiles_9 (by decide) ?_
      refine gd_e hf (fun hg6 hf => ?_)
      refine ev_iald S hK hM hg6 (j := 7) rfl dX10_tiles_11 ?_
      refine lv_icmp_ge (tgt := 43) hx hb dX10_tiles_12 (by decide) (fun hc7 => ?_) (fun hc7 => ?_)
      · have hf := it_p hf hc7
        obtain rfl := Option.some.inj hf
        exact kk _ _ _ hM (lv_sub hl [1] rfl)
      · have hf := it_n hf hc7
        refine lv_iload_n hx hb dX10_tiles_15 rfl (lv_at hl 1 rfl) ?_
        refine lv_aload_n hx hb dX10_tiles_16 rfl (lv_at hl 0 rfl) ?_
        refine ev_getP (v := q5) S hK hM (ci := 10) (n := 23) (C := RX10) (T := TX10) hin10 rfl hg4 0 (by decide) lk9 rfl rfl eq5 rfl dX10_tiles_17 ?_
        refine lv_sipush (v := (1748 : Int32)) hx hb dX10_tiles_20 (by decide) ?_
        refine lv_sipush (v := (386 : Int32)) hx hb dX10_tiles_23 (by decide) ?_
        refine lv_iload_n hx hb dX10_tiles_26 rfl (lv_at hl 2 rfl) ?_
        refine lv_imul hx hb dX10_tiles_27 ?_
        refine lv_iadd hx hb dX10_tiles_28 ?_
        refine lv_iconst (v := (1 : Int32)) hx hb dX10_tiles_29 (by decide) ?_
        refine lv_iadd hx hb dX10_tiles_30 ?_
        refine gd_e hf (fun hg8 hf => ?_)
        refine ev_iald S hK hM hg8 (j := ((((1748 : Int32) + ((386 : Int32) * v2)) + (1 : Int32))).toNatClampNeg) rfl dX10_tiles_31 ?_
        refine bd_e hf (fun r9 er9 hf => ?_)
        refine ev_calli (va_runS (As := [.int (I q5 ((((1748 : Int32) + ((386 : Int32) * v2)) + (1 : Int32))).toNatClampNeg)]) (rest := [.int v1]) S (c_X10_bits (l := l) I P (I q5 ((((1748 : Int32) + ((386 : Int32) * v2)) + (1 : Int32))).toNatClampNeg) r9 er9) (va_cwS 1 hts (gi_s wa_5_151 wa_5_152 wa_1_11 wa_5_153) rfl rfl rfl (by decide +kernel) ⟨Nat.le_of_ble_eq_true rfl, Nat.le_of_ble_eq_true rfl⟩) ⟨mm_B_blind, fun U hU hW => ⟨rfl, mm_B_of hK hZ hM hU hW⟩⟩ rfl rfl hl.1 rfl (lv_room (Nat.le_of_ble_eq_true rfl)) dX10_tiles_32 ⟨Nat.zero_le _, Nat.zero_le _⟩) hM (fun H locs hM => ?_)
        refine lv_iadd hx hb dX10_tiles_35 ?_
        refine lv_topi (fun v10 ev10 => ?_)
        have hf := nm_x ev10 hf
        refine lv_istore_n (lv' := [(1, .int v10), (0, .ref a0), (2, .int v2)]) hx hb dX10_tiles_36 rfl hl (by decide) rfl (fun ls hl => ?_)
        refine lv_iinc (v := (v2 + (1 : Int32))) (lv' := [(2, .int (v2 + (1 : Int32))), (1, .int v10), (0, .ref a0)]) hx hb dX10_tiles_37 hl (k := 2) rfl rfl (by decide) rfl (fun ls hl => ?_)
        refine lv_goto (tgt := 4) hx hb dX10_tiles_40 (by decide) ?_
        exact ih v10 (v2 + (1 : Int32)) _ _ _ _ hM (lv_sub hl [2, 1, 0] rfl) hf kk
  refine bd_e hf (fun r3 er3 hf => ?_)
  refine lp4_10 FU (0 : Int32) (0 : Int32) _ _ _ r3 hM (lv_sub hl [2, 1, 0] rfl) er3 (fun H locs ls hM hl => ?_)
  refine lv_iload_n hx hb dX10_tiles_43 rfl (lv_at hl 0 rfl) ?_
  obtain rfl := Option.some.inj hf
  subst hQ
  exact ev_iret S hr hlocks hK hZ hM dX10_tiles_44
noncomputable def fn_X10_count (K N : Nat → Nat) (I : Nat → Nat → Int32) (P : Nat → Nat → Option Nat) (a0 : Nat) (x1 : Int32) : Option (Int32) := if x1 = (0 : Int32) then (gd (K a0 = 11) (Option.bind (P a0 (0)) (fun q10 => gd (K q10 = 12 ∧ vp_in (0 : Int32) (N q10)) (some (I q10 (0)))))) else (if x1 = (1 : Int32) then (gd (K a0 = 11) (Option.bind (P a0 (0)) (fun q13 => gd (K q13 = 12 ∧ vp_in (6 : Int32) (N q13)) (some (I q13 (6)))))) else (if x1 = (2 : Int32) then (gd (K a0 = 11) (Option.bind (P a0 (0)) (fun q16 => gd (K q16 = 12 ∧ vp_in (7 : Int32) (N q16)) (gd (K q16 = 12 ∧ vp_in (6 : Int32) (N q16)) (some ((I q16 (7)) - (I q16 (6)))))))) else (if x1 = (3 : Int32) then (Option.bind (fn_X10_tiles K N I P a0) (fun (r19 : Int32) => gd (K a0 = 11) (some r19))) else (if x1 = (4 : Int32) then (Option.bind (fn_X10_masked K N I P a0) (fun (r21 : Int32) => gd (K a0 = 11) (some r21))) else (if x1 = (5 : Int32) then (gd (K a0 = 11) (Option.bind (P a0 (0)) (fun q24 => gd (K q24 = 12 ∧ vp_in (5 : Int32) (N q24)) (some (I q24 (5)))))) else (if x1 = (6 : Int32) then (gd (K a0 = 11) (Option.bind (P a0 (0)) (fun q27 => gd (K q27 = 12 ∧ vp_in (4 : Int32) (N q27)) (some (I q27 (4)))))) else (if x1 = (7 : Int32) then (gd (K a0 = 11) (some (I a0 5))) else (some (-2 : Int32)))))))))
abbrev wz_X10_count : List Cond := Cond.code yX10_count cX10_count 2 (some .int) :: WA
abbrev rm_X10_count : Room := { frames := 3, cells := 0, slots := 0, locals := 56 }
set_option maxHeartbeats 4000000 in
set_option maxRecDepth 100000 in
theorem c_X10_count (I : Nat → Nat → Int32) (P : Nat → Nat → Option Nat) (a0 : Nat) (x1 : Int32) (res : Int32) (hf : fn_X10_count K N I P a0 x1 = some res) : Met l yX10_count wz_X10_count rm_X10_count (va_Pc [.ref a0, .int x1] (mm_B D cs A L K N z w I P)) (va_Qi (fun r (_ : Unit) => r = res) (fun _ => mm_B D cs A L K N z w I P) A) 0 0 A := by
  refine Met.ofW (cc := cX10_count) (maxL := 2) (ret := (some .int)) (by decide) rfl ?_
  intro p e s m args below meth c s₁ B hml hv
  obtain ⟨rfl, hBm⟩ := hv
  have hx := B.exec
  have hb := B.bytes
  have hr := B.returns
  have hts := atoms_spec (ws := wz_X10_count) B.pre
  have hWA : ∀ w ∈ WA, w.before ([.ref a0, .int x1] : List Value).toArray s = true := fun u9 h9 => hts u9 (List.mem_cons_of_mem _ h9)
  have hown : s.vm.findClass RX10 = some m.cls := findClass_of_methodNamed B.named
  have hlocks := B.notSynchronized
  have S : CallFix p m c cX10_count 2 s ([.ref a0, .int x1] : List Value).toArray wz_X10_count RX10 := ⟨hx, hb, hml, hown, hts⟩
  have hK := hBm.2.2.2.1
  have hZ := hBm.2.2.2.2
  have hM : mm_W D cs A L K N s.heap I P s.heap [] := ⟨hBm.1, hBm.2.1, hBm.2.2.1, va_S.rf⟩
  have hl := lv_entry ([.ref a0, .int x1]) (n := 2) (Nat.le_of_ble_eq_true rfl)
  rw [lg_entry_eq]
  generalize (lg_sl ([.ref a0, .int x1]) ++ List.replicate (2 - (lg_sl ([.ref a0, .int x1])).length) Slot.unset).toArray = ls at hl ⊢
  have hl : lv_has ls 2 [(0, .ref a0), (1, .int x1)] := hl
  have hin10 : ∀ w ∈ wsX100, w ∈ wz_X10_count := fun w h => List.mem_cons_of_mem _ (wu_X10 w h)
  have lk9 : (Cond.fieldLink RX10 9 RX10 "g" "[I").before ([.ref a0, .int x1] : List Value).toArray s = true := hWA _ wa_4_141
  have lk124 : (Cond.fieldLink RX10 124 RX10 "fed" "I").before ([.ref a0, .int x1] : List Value).toArray s = true := hWA _ wa_4_146
  generalize hQ : MQ below (va_Qi (fun r (_ : Unit) => r = res) (fun _ => mm_B D cs A L K N z w I P) A) ([.ref a0, .int x1] : List Value).toArray s 0 0 A = QQ
  rw [fn_X10_count] at hf
  refine lv_iload_n hx hb dX10_count_0 rfl (lv_at hl 1 rfl) ?_
  refine (Classical.em (x1 = (0 : Int32))).elim (fun hc1 => ?_) (fun hc1 => ?_)
  · have hf := it_p hf hc1
    refine lv_tableIn (off := 47) (tgt := 48) hx hb dX10_count_1 (by rw [hc1]; decide) (by rw [hc1]; decide) (by rw [hc1]; rfl) (by decide) ?_
    refine lv_aload_n hx hb dX10_count_48 rfl (lv_at hl 0 rfl) ?_
    refine gd_e hf (fun hg9 hf => ?_)
    refine bd_e hf (fun q10 eq10 hf => ?_)
    refine ev_getP (v := q10) S hK hM (ci := 10) (n := 23) (C := RX10) (T := TX10) hin10 rfl hg9 0 (by decide) lk9 rfl rfl eq10 rfl dX10_count_49 ?_
    refine lv_iconst (v := (0 : Int32)) hx hb dX10_count_52 (by decide) ?_
    refine gd_e hf (fun hg11 hf => ?_)
    refine ev_iald S hK hM hg11 (j := 0) rfl dX10_count_53 ?_
    obtain rfl := Option.some.inj hf
    subst hQ
    exact ev_iret S hr hlocks hK hZ hM dX10_count_54
  · have hf := it_n hf hc1
    refine (Classical.em (x1 = (1 : Int32))).elim (fun hc2 => ?_) (fun hc2 => ?_)
    · have hf := it_p hf hc2
      refine lv_tableIn (off := 54) (tgt := 55) hx hb dX10_count_1 (by rw [hc2]; decide) (by rw [hc2]; decide) (by rw [hc2]; rfl) (by decide) ?_
      refine lv_aload_n hx hb dX10_count_55 rfl (lv_at hl 0 rfl) ?_
      refine gd_e hf (fun hg12 hf => ?_)
      refine bd_e hf (fun q13 eq13 hf => ?_)
      refine ev_getP (v := q13) S hK hM (ci := 10) (n := 23) (C := RX10) (T := TX10) hin10 rfl hg12 0 (by decide) lk9 rfl rfl eq13 rfl dX10_count_56 ?_
      refine lv_bipush (v := (6 : Int32)) hx hb dX10_count_59 (by decide) ?_
      refine gd_e hf (fun hg14 hf => ?_)
      refine ev_iald S hK hM hg14 (j := 6) rfl dX10_count_61 ?_
      obtain rfl := Option.some.inj hf
      subst hQ
      exact ev_iret S hr hlocks hK hZ hM dX10_count_62
    · have hf := it_n hf hc2
      refine (Classical.em (x1 = (2 : Int32))).elim (fun hc3 => ?_) (fun hc3 => ?_)
      · have hf := it_p hf hc3
        refine lv_tableIn (off := 62) (tgt := 63) hx hb dX10_count_1 (by rw [hc3]; decide) (by rw [hc3]; decide) (by rw [hc3]; rfl) (by decide) ?_
        refine lv_aload_n hx hb dX10_count_63 rfl (lv_at hl 0 rfl) ?_
        refine gd_e hf (fun hg15 hf => ?_)
        refine bd_e hf (fun q16 eq16 hf => ?_)
        refine ev_getP (v := q16) S hK hM (ci := 10) (n := 23) (C := RX10) (T := TX10) hin10 rfl hg15 0 (by decide) lk9 rfl rfl eq16 rfl dX10_count_64 ?_
        refine lv_bipush (v := (7 : Int32)) hx hb dX10_count_67 (by decide) ?_
        refine gd_e hf (fun hg17 hf => ?_)
        refine ev_iald S hK hM hg17 (j := 7) rfl dX10_count_69 ?_
        refine lv_aload_n hx hb dX10_count_70 rfl (lv_at hl 0 rfl) ?_
        refine ev_getP (v := q16) S hK hM (ci := 10) (n := 23) (C := RX10) (T := TX10) hin10 rfl hg15 0 (by decide) lk9 rfl rfl eq16 rfl dX10_count_71 ?_
        refine lv_bipush (v := (6 : Int32)) hx hb dX10_count_74 (by decide) ?_
        refine gd_e hf (fun hg18 hf => ?_)
        refine ev_iald S hK hM hg18 (j := 6) rfl dX10_count_76 ?_
        refine lv_isub hx hb dX10_count_77 ?_
        obtain rfl := Option.some.inj hf
        subst hQ
        exact ev_iret S hr hlocks hK hZ hM dX10_count_78
      · have hf := it_n hf hc3
        refine (Classical.em (x1 = (3 : Int32))).elim (fun hc4 => ?_) (fun hc4 => ?_)
        · have hf := it_p hf hc4
          refine lv_tableIn (off := 78) (tgt := 79) hx hb dX10_count_1 (by rw [hc4]; decide) (by rw [hc4]; decide) (by rw [hc4]; rfl) (by decide) ?_
          refine lv_aload_n hx hb dX10_count_79 rfl (lv_at hl 0 rfl) ?_
          refine bd_e hf (fun r19 er19 hf => ?_)
          refine gd_e hf (fun hg20 hf => ?_)
          refine ev_calli (va_runV (As := []) (rest := []) S (c_X10_tiles (l := l) I P a0 r19 er19) (cwV 0 hts (gi_v wa_6_54 wa_6_56 wa_s_64 wa_1_11 wa_6_57) rfl rfl rfl (by decide +kernel) ⟨Nat.le_of_ble_eq_true rfl, Nat.le_of_ble_eq_true rfl⟩) ⟨mm_B_blind, ev_recv hK hM (ci := 10) rfl hg20 rfl, fun U hU hW => ⟨rfl, mm_B_of hK hZ hM hU hW⟩⟩ rfl rfl hl.1 rfl (lv_room (Nat.le_of_ble_eq_true rfl)) dX10_count_80 ⟨Nat.zero_le _, Nat.zero_le _⟩) hM (fun H locs hM => ?_)
          obtain rfl := Option.some.inj hf
          subst hQ
          exact ev_iret S hr hlocks hK hZ hM dX10_count_83
        · have hf := it_n hf hc4
          refine (Classical.em (x1 = (4 : Int32))).elim (fun hc5 => ?_) (fun hc5 => ?_)
          · have hf := it_p hf hc5
            refine lv_tableIn (off := 83) (tgt := 84) hx hb dX10_count_1 (by rw [hc5]; decide) (by rw [hc5]; decide) (by rw [hc5]; rfl) (by decide) ?_
            refine lv_aload_n hx hb dX10_count_84 rfl (lv_at hl 0 rfl) ?_
            refine bd_e hf (fun r21 er21 hf => ?_)
            refine gd_e hf (fun hg22 hf => ?_)
            refine ev_calli (va_runV (As := []) (rest := []) S (c_X10_masked (l := l) I P a0 r21 er21) (cwV 0 hts (gi_v wa_5_136 wa_5_138 wa_s_48 wa_1_11 wa_5_139) rfl rfl rfl (by decide +kernel) ⟨Nat.le_of_ble_eq_true rfl, Nat.le_of_ble_eq_true rfl⟩) ⟨mm_B_blind, ev_recv hK hM (ci := 10) rfl hg22 rfl, fun U hU hW => ⟨rfl, mm_B_of hK hZ hM hU hW⟩⟩ rfl rfl hl.1 rfl (lv_room (Nat.le_of_ble_eq_true rfl)) dX10_count_85 ⟨Nat.zero_le _, Nat.zero_le _⟩) hM (fun H locs hM => ?_)
            obtain rfl := Option.some.inj hf
            subst hQ
            exact ev_iret S hr hlocks hK hZ hM dX10_count_88
          · have hf := it_n hf hc5
            refine (Classical.em (x1 = (5 : Int32))).elim (fun hc6 => ?_) (fun hc6 => ?_)
            · have hf := it_p hf hc6
              refine lv_tableIn (off := 88) (tgt := 89) hx hb dX10_count_1 (by rw [hc6]; decide) (by rw [hc6]; decide) (by rw [hc6]; rfl) (by decide) ?_
              refine lv_aload_n hx hb dX10_count_89 rfl (lv_at hl 0 rfl) ?_
              refine gd_e hf (fun hg23 hf => ?_)
              refine bd_e hf (fun q24 eq24 hf => ?_)
              refine ev_getP (v := q24) S hK hM (ci := 10) (n := 23) (C := RX10) (T := TX10) hin10 rfl hg23 0 (by decide) lk9 rfl rfl eq24 rfl dX10_count_90 ?_
              refine lv_iconst (v := (5 : Int32)) hx hb dX10_count_93 (by decide) ?_
              refine gd_e hf (fun hg25 hf => ?_)
              refine ev_iald S hK hM hg25 (j := 5) rfl dX10_count_94 ?_
              obtain rfl := Option.some.inj hf
              subst hQ
              exact ev_iret S hr hlocks hK hZ hM dX10_count_95
            · have hf := it_n hf hc6
              refine (Classical.em (x1 = (6 : Int32))).elim (fun hc7 => ?_) (fun hc7 => ?_)
              · have hf := it_p hf hc7
                refine lv_tableIn (off := 95) (tgt := 96) hx hb dX10_count_1 (by rw [hc7]; decide) (by rw [hc7]; decide) (by rw [hc7]; rfl) (by decide) ?_
                refine lv_aload_n hx hb dX10_count_96 rfl (lv_at hl 0 rfl) ?_
                refine gd_e hf (fun hg26 hf => ?_)
                refine bd_e hf (fun q27 eq27 hf => ?_)
                refine ev_getP (v := q27) S hK hM (ci := 10) (n := 23) (C := RX10) (T := TX10) hin10 rfl hg26 0 (by decide) lk9 rfl rfl eq27 rfl dX10_count_97 ?_
                refine lv_iconst (v := (4 : Int32)) hx hb dX10_count_100 (by decide) ?_
                refine gd_e hf (fun hg28 hf => ?_)
                refine ev_iald S hK hM hg28 (j := 4) rfl dX10_count_101 ?_
                obtain rfl := Option.some.inj hf
                subst hQ
                exact ev_iret S hr hlocks hK hZ hM dX10_count_102
              · have hf := it_n hf hc7
                refine (Classical.em (x1 = (7 : Int32))).elim (fun hc8 => ?_) (fun hc8 => ?_)
                · have hf := it_p hf hc8
                  refine lv_tableIn (off := 102) (tgt := 103) hx hb dX10_count_1 (by rw [hc8]; decide) (by rw [hc8]; decide) (by rw [hc8]; rfl) (by decide) ?_
                  refine lv_aload_n hx hb dX10_count_103 rfl (lv_at hl 0 rfl) ?_
                  refine gd_e hf (fun hg29 hf => ?_)
                  refine ev_get (v := .int (I a0 5)) S hK hM (ci := 10) (n := 23) (C := RX10) (T := TX10) hin10 rfl hg29 5 (by decide) lk124 rfl rfl rfl dX10_count_104 ?_
                  obtain rfl := Option.some.inj hf
                  subst hQ
                  exact ev_iret S hr hlocks hK hZ hM dX10_count_107
                · have hf := it_n hf hc8
                  refine lv_tableOut (tgt := 108) hx hb dX10_count_1 (by have t0 := ne_t hc1 (y := 0) rfl; have t1 := ne_t hc2 (y := 1) rfl; have t2 := ne_t hc3 (y := 2) rfl; have t3 := ne_t hc4 (y := 3) rfl; have t4 := ne_t hc5 (y := 4) rfl; have t5 := ne_t hc6 (y := 5) rfl; have t6 := ne_t hc7 (y := 6) rfl; have t7 := ne_t hc8 (y := 7) rfl; omega) (by decide) ?_
                  refine lv_bipush (v := (-2 : Int32)) hx hb dX10_count_108 (by decide) ?_
                  obtain rfl := Option.some.inj hf
                  subst hQ
                  exact ev_iret S hr hlocks hK hZ hM dX10_count_110
end G08
