section G90
variable {l : Launch} {D : va_G} {cs : mm_C} {A : Nat → Prop} {L : List Nat} {K N z : Nat → Nat} {w : Option Nat}
noncomputable def fn_X9_chance_L62 (K : Nat → Nat) (N : Nat → Nat) (a0 : Nat) (x1 : Int32) (x2 : Int32) (x3 : Int32) (x4 : Int32) (x5 : Int32) (P : Nat → Nat → Option Nat) : Nat → Int32 → Int32 → (Nat → Nat → Int32) → Option (Int32 × (Nat → Nat → Int32))
  | 0, _, _, _ => none
  | n + 1, v8, v9, I10 => if x3 ≤ v9 then (some (v8, I10)) else (Option.bind (fn_X9_sprayThought K N I10 P a0 x1 (x2 + v9) (4 : Int32)) (fun (r13 : (Nat → Nat → Int32)) => Option.bind (fn_X9_dotAt x4 x5) (fun (r14 : Int32) => Option.bind (fn_X9_isOtherwiseInThought K N r13 P a0 x1 r14) (fun (r15 : Int32) => if r15 = 0 then (fn_X9_chance_L62 K N a0 x1 x2 x3 x4 x5 P n v8 (v9 + (1 : Int32)) r13) else (fn_X9_chance_L62 K N a0 x1 x2 x3 x4 x5 P n (v8 + (1 : Int32)) (v9 + (1 : Int32)) r13)))))
noncomputable def fn_X9_chance (K N : Nat → Nat) (I : Nat → Nat → Int32) (P : Nat → Nat → Option Nat) (a0 : Nat) (x1 : Int32) (x2 : Int32) (x3 : Int32) (x4 : Int32) (x5 : Int32) (x6 : Int32) : Option (Int32 × (Nat → Nat → Int32)) := gd (K a0 = 10) (Option.bind (P a0 (0)) (fun q2 => Option.bind (fn_X6_hasLayer K N I P q2 x1) (fun (r3 : Int32) => gd (K q2 = 7) (Option.bind (if r3 = 0 then (some (0 : Int32)) else (Option.bind (fn_X9_isWithin x3 (1 : Int32) (10 : Int32)) (fun (r20 : Int32) => if r20 = 0 then (some (0 : Int32)) else (Option.bind (fn_X9_isDot x4 x5) (fun (r22 : Int32) => if r22 = 0 then (some (0 : Int32)) else (Option.bind (fn_X9_isWithin x6 (0 : Int32) (1 : Int32)) (fun (r24 : Int32) => if r24 = 0 then (some (0 : Int32)) else (some (1 : Int32))))))))) (fun (j6 : Int32) => if j6 = 0 then (some ((-2 : Int32), I)) else (Option.bind (fn_X9_chance_L62 K N a0 x1 x2 x3 x4 x5 P FU (0 : Int32) (0 : Int32) I) (fun (r11 : Int32 × (Nat → Nat → Int32)) => if x6 = 0 then (Option.bind (fn_X9_inLowestTerms r11.1 x3) (fun (r19 : Int32) => some (r19, r11.2))) else (Option.bind (fn_X9_inLowestTerms x3 r11.1) (fun (r18 : Int32) => some (r18, r11.2))))))))))
abbrev wz_X9_chance : List Cond := Cond.code yX9_chance cX9_chance 10 (some .int) :: WA
abbrev rm_X9_chance : Room := { frames := 7, cells := 0, slots := 0, locals := 148 }
set_option maxHeartbeats 4000000 in
set_option maxRecDepth 100000 in
theorem c_X9_chance (I : Nat → Nat → Int32) (P : Nat → Nat → Option Nat) (a0 : Nat) (x1 : Int32) (x2 : Int32) (x3 : Int32) (x4 : Int32) (x5 : Int32) (x6 : Int32) (res : Int32 × (Nat → Nat → Int32)) (hf : fn_X9_chance K N I P a0 x1 x2 x3 x4 x5 x6 = some res) : Met l yX9_chance wz_X9_chance rm_X9_chance (va_Pc [.ref a0, .int x1, .int x2, .int x3, .int x4, .int x5, .int x6] (mm_B D cs A L K N z w I P)) (va_Qi (fun r (_ : Unit) => r = res.1) (fun _ => mm_B D cs A L K N z w res.2 P) A) 0 0 A := by
  refine Met.ofW (cc := cX9_chance) (maxL := 10) (ret := (some .int)) (by decide) rfl ?_
  intro p e s m args below meth c s₁ B hml hv
  obtain ⟨rfl, hBm⟩ := hv
  have hx := B.exec
  have hb := B.bytes
  have hr := B.returns
  have hts := atoms_spec (ws := wz_X9_chance) B.pre
  have hWA : ∀ w ∈ WA, w.before ([.ref a0, .int x1, .int x2, .int x3, .int x4, .int x5, .int x6] : List Value).toArray s = true := fun u9 h9 => hts u9 (List.mem_cons_of_mem _ h9)
  have hown : s.vm.findClass RX9 = some m.cls := findClass_of_methodNamed B.named
  have hlocks := B.notSynchronized
  have S : CallFix p m c cX9_chance 10 s ([.ref a0, .int x1, .int x2, .int x3, .int x4, .int x5, .int x6] : List Value).toArray wz_X9_chance RX9 := ⟨hx, hb, hml, hown, hts⟩
  have hK := hBm.2.2.2.1
  have hZ := hBm.2.2.2.2
  have hM : mm_W D cs A L K N s.heap I P s.heap [] := ⟨hBm.1, hBm.2.1, hBm.2.2.1, va_S.rf⟩
  have hl := lv_entry ([.ref a0, .int x1, .int x2, .int x3, .int x4, .int x5, .int x6]) (n := 10) (Nat.le_of_ble_eq_true rfl)
  rw [lg_entry_eq]
  generalize (lg_sl ([.ref a0, .int x1, .int x2, .int x3, .int x4, .int x5, .int x6]) ++ List.replicate (10 - (lg_sl ([.ref a0, .int x1, .int x2, .int x3, .int x4, .int x5, .int x6])).length) Slot.unset).toArray = ls at hl ⊢
  have hl : lv_has ls 10 [(0, .ref a0), (1, .int x1), (2, .int x2), (3, .int x3), (4, .int x4), (5, .int x5), (6, .int x6)] := hl
  have hin9 : ∀ w ∈ wsX90, w ∈ wz_X9_chance := fun w h => List.mem_cons_of_mem _ (wu_X9 w h)
  have lk10 : (Cond.fieldLink RX9 10 RX9 "picture" "LRasterPainter$Picture;").before ([.ref a0, .int x1, .int x2, .int x3, .int x4, .int x5, .int x6] : List Value).toArray s = true := hWA _ wa_2_15
  generalize hQ : MQ below (va_Qi (fun r (_ : Unit) => r = res.1) (fun _ => mm_B D cs A L K N z w res.2 P) A) ([.ref a0, .int x1, .int x2, .int x3, .int x4, .int x5, .int x6] : List Value).toArray s 0 0 A = QQ
  rw [fn_X9_chance] at hf
  refine lv_aload_n hx hb dX9_chance_0 rfl (lv_at hl 0 rfl) ?_
  refine gd_e hf (fun hg1 hf => ?_)
  refine bd_e hf (fun q2 eq2 hf => ?_)
  refine ev_getP (v := q2) S hK hM (ci := 9) (n := 8) (C := RX9) (T := TX9) hin9 rfl hg1 0 (by decide) lk10 rfl rfl eq2 rfl dX9_chance_1 ?_
  refine lv_iload_n hx hb dX9_chance_4 rfl (lv_at hl 1 rfl) ?_
  refine bd_e hf (fun r3 er3 hf => ?_)
  refine gd_e hf (fun hg4 hf => ?_)
  refine ev_calli (va_runV (As := [.int x1]) (rest := []) S (c_X6_hasLayer (l := l) I P q2 x1 r3 er3) (cwV 1 hts (gi_v wa_2_76 wa_2_77 wa_2_78 wa_1_2 wa_2_79) rfl rfl rfl (by decide +kernel) ⟨Nat.le_of_ble_eq_true rfl, Nat.le_of_ble_eq_true rfl⟩) ⟨mm_B_blind, ev_recv hK hM (ci := 6) rfl hg4 rfl, fun U hU hW => ⟨rfl, mm_B_of hK hZ hM hU hW⟩⟩ rfl rfl hl.1 rfl (lv_room (Nat.le_of_ble_eq_true rfl)) dX9_chance_5 ⟨Nat.zero_le _, Nat.zero_le _⟩) hM (fun H locs hM => ?_)
  refine bd_e hf (fun j6 ej6 hf => ?_)
  have kj6 : ∀ (H : Heap) (locs : List Loc) (ls : Array Slot), mm_W D cs A L K N s.heap I P H locs → lv_has ls 10 [(0, .ref a0), (1, .int x1), (2, .int x2), (3, .int x3), (4, .int x4), (5, .int x5), (6, .int x6)] → W p l e (headSpec wz_X9_chance rm_X9_chance).room s m ([.ref a0, .int x1, .int x2, .int x3, .int x4, .int x5, .int x6] : List Value).toArray below meth c H locs 0 0 QQ (F0 m 46 ls [.int j6]) := by
    intro H locs ls hM hl
    refine lv_istore (lv' := [(7, .int j6), (0, .ref a0), (1, .int x1), (2, .int x2), (3, .int x3), (4, .int x4), (5, .int x5), (6, .int x6)]) hx hb dX9_chance_46 hl (by decide) rfl (fun ls hl => ?_)
    refine lv_iload hx hb dX9_chance_48 (lv_at hl 0 rfl) ?_
    refine lv_if_ne (tgt := 56) hx hb dX9_chance_50 (by decide) (fun hc7 => ?_) (fun hc7 => ?_)
    · have hf := it_n hf hc7
      refine lv_iconst (v := (0 : Int32)) hx hb dX9_chance_56 (by decide) ?_
      refine lv_istore (lv' := [(8, .int (0 : Int32)), (7, .int j6), (0, .ref a0), (1, .int x1), (2, .int x2), (3, .int x3), (4, .int x4), (5, .int x5), (6, .int x6)]) hx hb dX9_chance_57 hl (by decide) rfl (fun ls hl => ?_)
      refine lv_iconst (v := (0 : Int32)) hx hb dX9_chance_59 (by decide) ?_
      refine lv_istore (lv' := [(9, .int (0 : Int32)), (8, .int (0 : Int32)), (7, .int j6), (0, .ref a0), (1, .int x1), (2, .int x2), (3, .int x3), (4, .int x4), (5, .int x5), (6, .int x6)]) hx hb dX9_chance_60 hl (by decide) rfl (fun ls hl => ?_)
      have lp62_16 : ∀ (n : Nat) (v8 : Int32) (v9 : Int32) (I10 : Nat → Nat → Int32) (H : Heap) (locs : List Loc) (ls : Array Slot) (r11 : Int32 × (Nat → Nat → Int32)), mm_W D cs A L K N s.heap I10 P H locs → lv_has ls 10 [(0, .ref a0), (1, .int x1), (2, .int x2), (3, .int x3), (4, .int x4), (5, .int x5), (6, .int x6), (8, .int v8), (9, .int v9)] → fn_X9_chance_L62 K N a0 x1 x2 x3 x4 x5 P n v8 v9 I10 = some r11 → (∀ (H : Heap) (locs : List Loc) (ls : Array Slot), mm_W D cs A L K N s.heap r11.2 P H locs → lv_has ls 10 [(3, .int x3), (6, .int x6), (8, .int r11.1)] → W p l e (headSpec wz_X9_chance rm_X9_chance).room s m ([.ref a0, .int x1, .int x2, .int x3, .int x4, .int x5, .int x6] : List Value).toArray below meth c H locs 0 0 QQ (F0 m 102 ls [])) → W p l e (headSpec wz_X9_chance rm_X9_chance).room s m ([.ref a0, .int x1, .int x2, .int x3, .int x4, .int x5, .int x6] : List Value).toArray below meth c H locs 0 0 QQ (F0 m 62 ls []) := by
        intro n
        induction n with
        | zero => intro v8 v9 I10 H locs ls r11 hM hl hf kk; exact nn_x (show (none : Option (Int32 × (Nat → Nat → Int32))) = some r11 from hf)
        | succ n ih =>
          intro v8 v9 I10 H locs ls r11 hM hl hf kk
          rw [fn_X9_chance_L62] at hf
          refine lv_iload hx hb dX9_chance_62 (lv_at hl 8 rfl) ?_
          refine lv_iload_n hx hb dX9_chance_64 rfl (lv_at hl 3 rfl) ?_
          refine lv_icmp_ge (tgt := 102) hx hb dX9_chance_65 (by decide) (fun hc12 => ?_) (fun hc12 => ?_)
          · have hf := it_p hf hc12
            obtain rfl := Option.some.inj hf
            exact kk _ _ _ hM (lv_sub hl [3, 6, 7] rfl)
          · have hf := it_n hf hc12
            refine lv_aload_n hx hb dX9_chance_68 rfl (lv_at hl 0 rfl) ?_
            refine lv_iload_n hx hb dX9_chance_69 rfl (lv_at hl 1 rfl) ?_
            refine lv_iload_n hx hb dX9_chance_70 rfl (lv_at hl 2 rfl) ?_
            refine lv_iload hx hb dX9_chance_71 (lv_at hl 8 rfl) ?_
            refine lv_iadd hx hb dX9_chance_73 ?_
            refine lv_iconst (v := (4 : Int32)) hx hb dX9_chance_74 (by decide) ?_
            refine bd_e hf (fun r13 er13 hf => ?_)
            refine ev_callv (va_runV (As := [.int x1, .int (x2 + v9), .int (4 : Int32)]) (rest := []) S (c_X9_sprayThought (l := l) I10 P a0 x1 (x2 + v9) (4 : Int32) r13 er13) (cwV 3 hts (gi_v wa_4_25 wa_4_27 wa_s_21 wa_1_1 wa_4_28) rfl rfl rfl (by decide +kernel) ⟨Nat.le_of_ble_eq_true rfl, Nat.le_of_ble_eq_true rfl⟩) ⟨mm_B_blind, ev_recv hK hM (ci := 9) rfl hg1 rfl, fun U hU hW => ⟨rfl, mm_B_of hK hZ hM hU hW⟩⟩ rfl rfl hl.1 rfl (lv_room (Nat.le_of_ble_eq_true rfl)) dX9_chance_75 ⟨Nat.zero_le _, Nat.zero_le _⟩) hM (fun H locs hM => ?_)
            refine lv_aload_n hx hb dX9_chance_78 rfl (lv_at hl 0 rfl) ?_
            refine lv_iload_n hx hb dX9_chance_79 rfl (lv_at hl 1 rfl) ?_
            refine lv_iload hx hb dX9_chance_80 (lv_at hl 4 rfl) ?_
            refine lv_iload hx hb dX9_chance_82 (lv_at hl 5 rfl) ?_
            refine bd_e hf (fun r14 er14 hf => ?_)
            refine ev_calli (va_runS (As := [.int x4, .int x5]) (rest := [.int x1, .ref a0]) S (c_X9_dotAt (l := l) r13 P x4 x5 r14 er14) (va_cwS 2 hts (gi_s wa_2_148 wa_2_149 wa_1_1 wa_2_150) rfl rfl rfl (by decide +kernel) ⟨Nat.le_of_ble_eq_true rfl, Nat.le_of_ble_eq_true rfl⟩) ⟨mm_B_blind, fun U hU hW => ⟨rfl, mm_B_of hK hZ hM hU hW⟩⟩ rfl rfl hl.1 rfl (lv_room (Nat.le_of_ble_eq_true rfl)) dX9_chance_84 ⟨Nat.zero_le _, Nat.zero_le _⟩) hM (fun H locs hM => ?_)
            refine bd_e hf (fun r15 er15 hf => ?_)
            refine ev_calli (va_runV (As := [.int x1, .int r14]) (rest := []) S (c_X9_isOtherwiseInThought (l := l) r13 P a0 x1 r14 r15 er15) (cwV 2 hts (gi_v wa_4_40 wa_4_42 wa_s_22 wa_1_1 wa_4_43) rfl rfl rfl (by decide +kernel) ⟨Nat.le_of_ble_eq_true rfl, Nat.le_of_ble_eq_true rfl⟩) ⟨mm_B_blind, ev_recv hK hM (ci := 9) rfl hg1 rfl, fun U hU hW => ⟨rfl, mm_B_of hK hZ hM hU hW⟩⟩ rfl rfl hl.1 rfl (lv_room (Nat.le_of_ble_eq_true rfl)) dX9_chance_87 ⟨Nat.zero_le _, Nat.zero_le _⟩) hM (fun H locs hM => ?_)
            refine lv_if_eq (tgt := 96) hx hb dX9_chance_90 (by decide) (fun hc16 => ?_) (fun hc16 => ?_)
            · have hf := it_p hf hc16
              refine lv_iinc (v := (v9 + (1 : Int32))) (lv' := [(9, .int (v9 + (1 : Int32))), (0, .ref a0), (1, .int x1), (2, .int x2), (3, .int x3), (4, .int x4), (5, .int x5), (6, .int x6), (8, .int v8)]) hx hb dX9_chance_96 hl (k := 8) rfl rfl (by decide) rfl (fun ls hl => ?_)
              refine lv_goto (tgt := 62) hx hb dX9_chance_99 (by decide) ?_
              exact ih v8 (v9 + (1 : Int32)) r13 _ _ _ _ hM (lv_sub hl [1, 2, 3, 4, 5, 6, 7, 8, 0] rfl) hf kk
            · have hf := it_n hf hc16
              refine lv_iinc (v := (v8 + (1 : Int32))) (lv' := [(8, .int (v8 + (1 : Int32))), (0, .ref a0), (1, .int x1), (2, .int x2), (3, .int x3), (4, .int x4), (5, .int x5), (6, .int x6), (9, .int v9)]) hx hb dX9_chance_93 hl (k := 7) rfl rfl (by decide) rfl (fun ls hl => ?_)
              refine lv_iinc (v := (v9 + (1 : Int32))) (lv' := [(9, .int (v9 + (1 : Int32))), (8, .int (v8 + (1 : Int32))), (0, .ref a0), (1, .int x1), (2, .int x2), (3, .int x3), (4, .int x4), (5, .int x5), (6, .int x6)]) hx hb dX9_chance_96 hl (k := 8) rfl rfl (by decide) rfl (fun ls hl => ?_)
              refine lv_goto (tgt := 62) hx hb dX9_chance_99 (by decide) ?_
              exact ih (v8 + (1 : Int32)) (v9 + (1 : Int32)) r13 _ _ _ _ hM (lv_sub hl [2, 3, 4, 5, 6, 7, 8, 1, 0] rfl) hf kk
      refine bd_e hf (fun r11 er11 hf => ?_)
      refine lp62_16 FU (0 : Int32) (0 : Int32) I _ _ _ r11 hM (lv_sub hl [3, 4, 5, 6, 7, 8, 9, 1, 0] rfl) er11 (fun H locs ls hM hl => ?_)
      refine lv_iload hx hb dX9_chance_102 (lv_at hl 1 rfl) ?_
      refine lv_if_ne (tgt := 116) hx hb dX9_chance_104 (by decide) (fun hc17 => ?_) (fun hc17 => ?_)
      · have hf := it_n hf hc17
        refine lv_iload_n hx hb dX9_chance_116 rfl (lv_at hl 0 rfl) ?_
        refine lv_iload hx hb dX9_chance_117 (lv_at hl 2 rfl) ?_
        refine bd_e hf (fun r18 er18 hf => ?_)
        refine ev_calli (va_runS (As := [.int x3, .int r11.1]) (rest := []) S (c_X9_inLowestTerms (l := l) r11.2 P x3 r11.1 r18 er18) (va_cwS 2 hts (gi_s wa_4_48 wa_4_49 wa_1_1 wa_4_50) rfl rfl rfl (by decide +kernel) ⟨Nat.le_of_ble_eq_true rfl, Nat.le_of_ble_eq_true rfl⟩) ⟨mm_B_blind, fun U hU hW => ⟨rfl, mm_B_of hK hZ hM hU hW⟩⟩ rfl rfl hl.1 rfl (lv_room (Nat.le_of_ble_eq_true rfl)) dX9_chance_119 ⟨Nat.zero_le _, Nat.zero_le _⟩) hM (fun H locs hM => ?_)
        obtain rfl := Option.some.inj hf
        subst hQ
        exact ev_iret S hr hlocks hK hZ hM dX9_chance_122
      · have hf := it_p hf hc17
        refine lv_iload hx hb dX9_chance_107 (lv_at hl 2 rfl) ?_
        refine lv_iload_n hx hb dX9_chance_109 rfl (lv_at hl 0 rfl) ?_
        refine bd_e hf (fun r19 er19 hf => ?_)
        refine ev_calli (va_runS (As := [.int r11.1, .int x3]) (rest := []) S (c_X9_inLowestTerms (l := l) r11.2 P r11.1 x3 r19 er19) (va_cwS 2 hts (gi_s wa_4_48 wa_4_49 wa_1_1 wa_4_50) rfl rfl rfl (by decide +kernel) ⟨Nat.le_of_ble_eq_true rfl, Nat.le_of_ble_eq_true rfl⟩) ⟨mm_B_blind, fun U hU hW => ⟨rfl, mm_B_of hK hZ hM hU hW⟩⟩ rfl rfl hl.1 rfl (lv_room (Nat.le_of_ble_eq_true rfl)) dX9_chance_110 ⟨Nat.zero_le _, Nat.zero_le _⟩) hM (fun H locs hM => ?_)
        refine lv_goto (tgt := 122) hx hb dX9_chance_113 (by decide) ?_
        obtain rfl := Option.some.inj hf
        subst hQ
        exact ev_iret S hr hlocks hK hZ hM dX9_chance_122
    · have hf := it_p hf hc7
      refine lv_bipush (v := (-2 : Int32)) hx hb dX9_chance_53 (by decide) ?_
      obtain rfl := Option.some.inj hf
      subst hQ
      exact ev_iret S hr hlocks hK hZ hM dX9_chance_55
  have hf := ej6
  refine lv_if_eq (tgt := 45) hx hb dX9_chance_8 (by decide) (fun hc5 => ?_) (fun hc5 => ?_)
  · have hf := it_p hf hc5
    refine lv_iconst (v := (0 : Int32)) hx hb dX9_chance_45 (by decide) ?_
    obtain rfl := Option.some.inj hf
    exact kj6 _ _ _ hM (hl)
  · have hf := it_n hf hc5
    refine lv_iload_n hx hb dX9_chance_11 rfl (lv_at hl 3 rfl) ?_
    refine lv_iconst (v := (1 : Int32)) hx hb dX9_chance_12 (by decide) ?_
    refine lv_bipush (v := (10 : Int32)) hx hb dX9_chance_13 (by decide) ?_
    refine bd_e hf (fun r20 er20 hf => ?_)
    refine ev_calli (va_runS (As := [.int x3, .int (1 : Int32), .int (10 : Int32)]) (rest := []) S (c_X9_isWithin (l := l) I P x3 (1 : Int32) (10 : Int32) r20 er20) (va_cwS 3 hts (gi_s wa_2_47 wa_2_48 wa_1_1 wa_2_49) rfl rfl rfl (by decide +kernel) ⟨Nat.le_of_ble_eq_true rfl, Nat.le_of_ble_eq_true rfl⟩) ⟨mm_B_blind, fun U hU hW => ⟨rfl, mm_B_of hK hZ hM hU hW⟩⟩ rfl rfl hl.1 rfl (lv_room (Nat.le_of_ble_eq_true rfl)) dX9_chance_15 ⟨Nat.zero_le _, Nat.zero_le _⟩) hM (fun H locs hM => ?_)
    refine lv_if_eq (tgt := 45) hx hb dX9_chance_18 (by decide) (fun hc21 => ?_) (fun hc21 => ?_)
    · have hf := it_p hf hc21
      refine lv_iconst (v := (0 : Int32)) hx hb dX9_chance_45 (by decide) ?_
      obtain rfl := Option.some.inj hf
      exact kj6 _ _ _ hM (hl)
    · have hf := it_n hf hc21
      refine lv_iload hx hb dX9_chance_21 (lv_at hl 4 rfl) ?_
      refine lv_iload hx hb dX9_chance_23 (lv_at hl 5 rfl) ?_
      refine bd_e hf (fun r22 er22 hf => ?_)
      refine ev_calli (va_runS (As := [.int x4, .int x5]) (rest := []) S (c_X9_isDot (l := l) I P x4 x5 r22 er22) (va_cwS 2 hts (gi_s wa_2_142 wa_2_143 wa_1_1 wa_2_144) rfl rfl rfl (by decide +kernel) ⟨Nat.le_of_ble_eq_true rfl, Nat.le_of_ble_eq_true rfl⟩) ⟨mm_B_blind, fun U hU hW => ⟨rfl, mm_B_of hK hZ hM hU hW⟩⟩ rfl rfl hl.1 rfl (lv_room (Nat.le_of_ble_eq_true rfl)) dX9_chance_25 ⟨Nat.zero_le _, Nat.zero_le _⟩) hM (fun H locs hM => ?_)
      refine lv_if_eq (tgt := 45) hx hb dX9_chance_28 (by decide) (fun hc23 => ?_) (fun hc23 => ?_)
      · have hf := it_p hf hc23
        refine lv_iconst (v := (0 : Int32)) hx hb dX9_chance_45 (by decide) ?_
        obtain rfl := Option.some.inj hf
        exact kj6 _ _ _ hM (hl)
      · have hf := it_n hf hc23
        refine lv_iload hx hb dX9_chance_31 (lv_at hl 6 rfl) ?_
        refine lv_iconst (v := (0 : Int32)) hx hb dX9_chance_33 (by decide) ?_
        refine lv_iconst (v := (1 : Int32)) hx hb dX9_chance_34 (by decide) ?_
        refine bd_e hf (fun r24 er24 hf => ?_)
        refine ev_calli (va_runS (As := [.int x6, .int (0 : Int32), .int (1 : Int32)]) (rest := []) S (c_X9_isWithin (l := l) I P x6 (0 : Int32) (1 : Int32) r24 er24) (va_cwS 3 hts (gi_s wa_2_47 wa_2_48 wa_1_1 wa_2_49) rfl rfl rfl (by decide +kernel) ⟨Nat.le_of_ble_eq_true rfl, Nat.le_of_ble_eq_true rfl⟩) ⟨mm_B_blind, fun U hU hW => ⟨rfl, mm_B_of hK hZ hM hU hW⟩⟩ rfl rfl hl.1 rfl (lv_room (Nat.le_of_ble_eq_true rfl)) dX9_chance_35 ⟨Nat.zero_le _, Nat.zero_le _⟩) hM (fun H locs hM => ?_)
        refine lv_if_eq (tgt := 45) hx hb dX9_chance_38 (by decide) (fun hc25 => ?_) (fun hc25 => ?_)
        · have hf := it_p hf hc25
          refine lv_iconst (v := (0 : Int32)) hx hb dX9_chance_45 (by decide) ?_
          obtain rfl := Option.some.inj hf
          exact kj6 _ _ _ hM (hl)
        · have hf := it_n hf hc25
          refine lv_iconst (v := (1 : Int32)) hx hb dX9_chance_41 (by decide) ?_
          refine lv_goto (tgt := 46) hx hb dX9_chance_42 (by decide) ?_
          obtain rfl := Option.some.inj hf
          exact kj6 _ _ _ hM (hl)
noncomputable def fn_X10_chance_L60 (K : Nat → Nat) (N : Nat → Nat) (a0 : Nat) (x1 : Int32) (x2 : Int32) (x3 : Int32) (x4 : Int32) (x5 : Int32) (P : Nat → Nat → Option Nat) (r11 : Int32) : Nat → Int32 → Int32 → (Nat → Nat → Int32) → Option (Int32 × (Nat → Nat → Int32))
  | 0, _, _, _ => none
  | n + 1, v12, v13, I14 => if x3 ≤ v13 then (some (v12, I14)) else (Option.bind (fn_X10_sprays K N I14 P a0 x1 (x2 + v13) (4 : Int32)) (fun (r17 : (Nat → Nat → Int32)) => Option.bind (fn_X10_dotOf x4 x5) (fun (r18 : Int32) => Option.bind (fn_X10_seen_ K N r17 P a0 r18) (fun (r19 : Int32) => Option.bind (if r19 = r11 then (some (0 : Int32)) else (some (1 : Int32))) (fun (j21 : Int32) => Option.bind (some (v12 + j21)) (fun v22 => Option.bind (fn_X10_comesBack K N r17 P a0 x1) (fun (r23 : (Nat → Nat → Int32)) => fn_X10_chance_L60 K N a0 x1 x2 x3 x4 x5 P r11 n v22 (v13 + (1 : Int32)) r23)))))))
noncomputable def fn_X10_chance (K N : Nat → Nat) (I : Nat → Nat → Int32) (P : Nat → Nat → Option Nat) (a0 : Nat) (x1 : Int32) (x2 : Int32) (x3 : Int32) (x4 : Int32) (x5 : Int32) (x6 : Int32) : Option (Int32 × (Nat → Nat → Int32)) := Option.bind (fn_X10_isLayer K N I P a0 x1) (fun (r1 : Int32) => gd (K a0 = 11) (if r1 = 0 then (some ((-2 : Int32), I)) else (Option.bind (fn_X10_isIn x3 (1 : Int32) (10 : Int32)) (fun (r4 : Int32) => if r4 = 0 then (some ((-2 : Int32), I)) else (Option.bind (fn_X10_isDot x4 x5) (fun (r6 : Int32) => if r6 = 0 then (some ((-2 : Int32), I)) else (Option.bind (fn_X10_isIn x6 (0 : Int32) (1 : Int32)) (fun (r8 : Int32) => if r8 = 0 then (some ((-2 : Int32), I)) else (Option.bind (fn_X10_dotOf x4 x5) (fun (r10 : Int32) => Option.bind (fn_X10_seen_ K N I P a0 r10) (fun (r11 : Int32) => Option.bind (fn_X10_chance_L60 K N a0 x1 x2 x3 x4 x5 P r11 FU (0 : Int32) (0 : Int32) I) (fun (r15 : Int32 × (Nat → Nat → Int32)) => Option.bind (if x6 = 0 then (some r15.1) else (some x3)) (fun (j25 : Int32) => Option.bind (fn_X10_common r15.1 x3) (fun (r26 : Int32) => gd (¬ r26 = 0) (some ((j25 / r26), r15.2))))))))))))))))
abbrev wz_X10_chance : List Cond := Cond.code yX10_chance cX10_chance 10 (some .int) :: WA
abbrev rm_X10_chance : Room := { frames := 10, cells := 0, slots := 0, locals := 201 }
set_option maxHeartbeats 4000000 in
set_option maxRecDepth 100000 in
theorem c_X10_chance (I : Nat → Nat → Int32) (P : Nat → Nat → Option Nat) (a0 : Nat) (x1 : Int32) (x2 : Int32) (x3 : Int32) (x4 : Int32) (x5 : Int32) (x6 : Int32) (res : Int32 × (Nat → Nat → Int32)) (hf : fn_X10_chance K N I P a0 x1 x2 x3 x4 x5 x6 = some res) : Met l yX10_chance wz_X10_chance rm_X10_chance (va_Pc [.ref a0, .int x1, .int x2, .int x3, .int x4, .int x5, .int x6] (mm_B D cs A L K N z w I P)) (va_Qi (fun r (_ : Unit) => r = res.1) (fun _ => mm_B D cs A L K N z w res.2 P) A) 0 0 A := by
  refine Met.ofW (cc := cX10_chance) (maxL := 10) (ret := (some .int)) (by decide) rfl ?_
  intro p e s m args below meth c s₁ B hml hv
  obtain ⟨rfl, hBm⟩ := hv
  have hx := B.exec
  have hb := B.bytes
  have hr := B.returns
  have hts := atoms_spec (ws := wz_X10_chance) B.pre
  have hWA : ∀ w ∈ WA, w.before ([.ref a0, .int x1, .int x2, .int x3, .int x4, .int x5, .int x6] : List Value).toArray s = true := fun u9 h9 => hts u9 (List.mem_cons_of_mem _ h9)
  have hown : s.vm.findClass RX10 = some m.cls := findClass_of_methodNamed B.named
  have hlocks := B.notSynchronized
  have S : CallFix p m c cX10_chance 10 s ([.ref a0, .int x1, .int x2, .int x3, .int x4, .int x5, .int x6] : List Value).toArray wz_X10_chance RX10 := ⟨hx, hb, hml, hown, hts⟩
  have hK := hBm.2.2.2.1
  have hZ := hBm.2.2.2.2
  have hM : mm_W D cs A L K N s.heap I P s.heap [] := ⟨hBm.1, hBm.2.1, hBm.2.2.1, va_S.rf⟩
  have hl := lv_entry ([.ref a0, .int x1, .int x2, .int x3, .int x4, .int x5, .int x6]) (n := 10) (Nat.le_of_ble_eq_true rfl)
  rw [lg_entry_eq]
  generalize (lg_sl ([.ref a0, .int x1, .int x2, .int x3, .int x4, .int x5, .int x6]) ++ List.replicate (10 - (lg_sl ([.ref a0, .int x1, .int x2, .int x3, .int x4, .int x5, .int x6])).length) Slot.unset).toArray = ls at hl ⊢
  have hl : lv_has ls 10 [(0, .ref a0), (1, .int x1), (2, .int x2), (3, .int x3), (4, .int x4), (5, .int x5), (6, .int x6)] := hl
  generalize hQ : MQ below (va_Qi (fun r (_ : Unit) => r = res.1) (fun _ => mm_B D cs A L K N z w res.2 P) A) ([.ref a0, .int x1, .int x2, .int x3, .int x4, .int x5, .int x6] : List Value).toArray s 0 0 A = QQ
  rw [fn_X10_chance] at hf
  refine lv_aload_n hx hb dX10_chance_0 rfl (lv_at hl 0 rfl) ?_
  refine lv_iload_n hx hb dX10_chance_1 rfl (lv_at hl 1 rfl) ?_
  refine bd_e hf (fun r1 er1 hf => ?_)
  refine gd_e hf (fun hg2 hf => ?_)
  refine ev_calli (va_runV (As := [.int x1]) (rest := []) S (c_X10_isLayer (l := l) I P a0 x1 r1 er1) (cwV 1 hts (gi_v wa_4_232 wa_4_234 wa_s_27 wa_1_11 wa_4_235) rfl rfl rfl (by decide +kernel) ⟨Nat.le_of_ble_eq_true rfl, Nat.le_of_ble_eq_true rfl⟩) ⟨mm_B_blind, ev_recv hK hM (ci := 10) rfl hg2 rfl, fun U hU hW => ⟨rfl, mm_B_of hK hZ hM hU hW⟩⟩ rfl rfl hl.1 rfl (lv_room (Nat.le_of_ble_eq_true rfl)) dX10_chance_2 ⟨Nat.zero_le _, Nat.zero_le _⟩) hM (fun H locs hM => ?_)
  refine lv_if_eq (tgt := 38) hx hb dX10_chance_5 (by decide) (fun hc3 => ?_) (fun hc3 => ?_)
  · have hf := it_p hf hc3
    refine lv_bipush (v := (-2 : Int32)) hx hb dX10_chance_38 (by decide) ?_
    obtain rfl := Option.some.inj hf
    subst hQ
    exact ev_iret S hr hlocks hK hZ hM dX10_chance_40
  · have hf := it_n hf hc3
    refine lv_iload_n hx hb dX10_chance_8 rfl (lv_at hl 3 rfl) ?_
    refine lv_iconst (v := (1 : Int32)) hx hb dX10_chance_9 (by decide) ?_
    refine lv_bipush (v := (10 : Int32)) hx hb dX10_chance_10 (by decide) ?_
    refine bd_e hf (fun r4 er4 hf => ?_)
    refine ev_calli (va_runS (As := [.int x3, .int (1 : Int32), .int (10 : Int32)]) (rest := []) S (c_X10_isIn (l := l) I P x3 (1 : Int32) (10 : Int32) r4 er4) (va_cwS 3 hts (gi_s wa_4_218 wa_4_219 wa_1_11 wa_4_220) rfl rfl rfl (by decide +kernel) ⟨Nat.le_of_ble_eq_true rfl, Nat.le_of_ble_eq_true rfl⟩) ⟨mm_B_blind, fun U hU hW => ⟨rfl, mm_B_of hK hZ hM hU hW⟩⟩ rfl rfl hl.1 rfl (lv_room (Nat.le_of_ble_eq_true rfl)) dX10_chance_12 ⟨Nat.zero_le _, Nat.zero_le _⟩) hM (fun H locs hM => ?_)
    refine lv_if_eq (tgt := 38) hx hb dX10_chance_15 (by decide) (fun hc5 => ?_) (fun hc5 => ?_)
    · have hf := it_p hf hc5
      refine lv_bipush (v := (-2 : Int32)) hx hb dX10_chance_38 (by decide) ?_
      obtain rfl := Option.some.inj hf
      subst hQ
      exact ev_iret S hr hlocks hK hZ hM dX10_chance_40
    · have hf := it_n hf hc5
      refine lv_iload hx hb dX10_chance_18 (lv_at hl 4 rfl) ?_
      refine lv_iload hx hb dX10_chance_20 (lv_at hl 5 rfl) ?_
      refine bd_e hf (fun r6 er6 hf => ?_)
      refine ev_calli (va_runS (As := [.int x4, .int x5]) (rest := []) S (c_X10_isDot (l := l) I P x4 x5 r6 er6) (va_cwS 2 hts (gi_s wa_5_40 wa_5_41 wa_1_11 wa_5_42) rfl rfl rfl (by decide +kernel) ⟨Nat.le_of_ble_eq_true rfl, Nat.le_of_ble_eq_true rfl⟩) ⟨mm_B_blind, fun U hU hW => ⟨rfl, mm_B_of hK hZ hM hU hW⟩⟩ rfl rfl hl.1 rfl (lv_room (Nat.le_of_ble_eq_true rfl)) dX10_chance_22 ⟨Nat.zero_le _, Nat.zero_le _⟩) hM (fun H locs hM => ?_)
      refine lv_if_eq (tgt := 38) hx hb dX10_chance_25 (by decide) (fun hc7 => ?_) (fun hc7 => ?_)
      · have hf := it_p hf hc7
        refine lv_bipush (v := (-2 : Int32)) hx hb dX10_chance_38 (by decide) ?_
        obtain rfl := Option.some.inj hf
        subst hQ
        exact ev_iret S hr hlocks hK hZ hM dX10_chance_40
      · have hf := it_n hf hc7
        refine lv_iload hx hb dX10_chance_28 (lv_at hl 6 rfl) ?_
        refine lv_iconst (v := (0 : Int32)) hx hb dX10_chance_30 (by decide) ?_
        refine lv_iconst (v := (1 : Int32)) hx hb dX10_chance_31 (by decide) ?_
        refine bd_e hf (fun r8 er8 hf => ?_)
        refine ev_calli (va_runS (As := [.int x6, .int (0 : Int32), .int (1 : Int32)]) (rest := []) S (c_X10_isIn (l := l) I P x6 (0 : Int32) (1 : Int32) r8 er8) (va_cwS 3 hts (gi_s wa_4_218 wa_4_219 wa_1_11 wa_4_220) rfl rfl rfl (by decide +kernel) ⟨Nat.le_of_ble_eq_true rfl, Nat.le_of_ble_eq_true rfl⟩) ⟨mm_B_blind, fun U hU hW => ⟨rfl, mm_B_of hK hZ hM hU hW⟩⟩ rfl rfl hl.1 rfl (lv_room (Nat.le_of_ble_eq_true rfl)) dX10_chance_32 ⟨Nat.zero_le _, Nat.zero_le _⟩) hM (fun H locs hM => ?_)
        refine lv_if_ne (tgt := 41) hx hb dX10_chance_35 (by decide) (fun hc9 => ?_) (fun hc9 => ?_)
        · have hf := it_n hf hc9
          refine lv_aload_n hx hb dX10_chance_41 rfl (lv_at hl 0 rfl) ?_
          refine lv_iload hx hb dX10_chance_42 (lv_at hl 4 rfl) ?_
          refine lv_iload hx hb dX10_chance_44 (lv_at hl 5 rfl) ?_
          refine bd_e hf (fun r10 er10 hf => ?_)
          refine ev_calli (va_runS (As := [.int x4, .int x5]) (rest := [.ref a0]) S (c_X10_dotOf (l := l) I P x4 x5 r10 er10) (va_cwS 2 hts (gi_s wa_5_43 wa_5_44 wa_1_11 wa_5_45) rfl rfl rfl (by decide +kernel) ⟨Nat.le_of_ble_eq_true rfl, Nat.le_of_ble_eq_true rfl⟩) ⟨mm_B_blind, fun U hU hW => ⟨rfl, mm_B_of hK hZ hM hU hW⟩⟩ rfl rfl hl.1 rfl (lv_room (Nat.le_of_ble_eq_true rfl)) dX10_chance_46 ⟨Nat.zero_le _, Nat.zero_le _⟩) hM (fun H locs hM => ?_)
          refine bd_e hf (fun r11 er11 hf => ?_)
          refine ev_calli (va_runV (As := [.int r10]) (rest := []) S (c_X10_seen_ (l := l) I P a0 r10 r11 er11) (cwV 1 hts (gi_v wa_5_46 wa_5_48 wa_s_32 wa_1_11 wa_5_49) rfl rfl rfl (by decide +kernel) ⟨Nat.le_of_ble_eq_true rfl, Nat.le_of_ble_eq_true rfl⟩) ⟨mm_B_blind, ev_recv hK hM (ci := 10) rfl hg2 rfl, fun U hU hW => ⟨rfl, mm_B_of hK hZ hM hU hW⟩⟩ rfl rfl hl.1 rfl (lv_room (Nat.le_of_ble_eq_true rfl)) dX10_chance_49 ⟨Nat.zero_le _, Nat.zero_le _⟩) hM (fun H locs hM => ?_)
          refine lv_istore (lv' := [(7, .int r11), (0, .ref a0), (1, .int x1), (2, .int x2), (3, .int x3), (4, .int x4), (5, .int x5), (6, .int x6)]) hx hb dX10_chance_52 hl (by decide) rfl (fun ls hl => ?_)
          refine lv_iconst (v := (0 : Int32)) hx hb dX10_chance_54 (by decide) ?_
          refine lv_istore (lv' := [(8, .int (0 : Int32)), (7, .int r11), (0, .ref a0), (1, .int x1), (2, .int x2), (3, .int x3), (4, .int x4), (5, .int x5), (6, .int x6)]) hx hb dX10_chance_55 hl (by decide) rfl (fun ls hl => ?_)
          refine lv_iconst (v := (0 : Int32)) hx hb dX10_chance_57 (by decide) ?_
          refine lv_istore (lv' := [(9, .int (0 : Int32)), (8, .int (0 : Int32)), (7, .int r11), (0, .ref a0), (1, .int x1), (2, .int x2), (3, .int x3), (4, .int x4), (5, .int x5), (6, .int x6)]) hx hb dX10_chance_58 hl (by decide) rfl (fun ls hl => ?_)
          have lp60_23 : ∀ (n : Nat) (v12 : Int32) (v13 : Int32) (I14 : Nat → Nat → Int32) (H : Heap) (locs : List Loc) (ls : Array Slot) (r15 : Int32 × (Nat → Nat → Int32)), mm_W D cs A L K N s.heap I14 P H locs → lv_has ls 10 [(0, .ref a0), (1, .int x1), (2, .int x2), (3, .int x3), (4, .int x4), (5, .int x5), (6, .int x6), (7, .int r11), (8, .int v12), (9, .int v13)] → fn_X10_chance_L60 K N a0 x1 x2 x3 x4 x5 P r11 n v12 v13 I14 = some r15 → (∀ (H : Heap) (locs : List Loc) (ls : Array Slot), mm_W D cs A L K N s.heap r15.2 P H locs → lv_has ls 10 [(3, .int x3), (6, .int x6), (8, .int r15.1)] → W p l e (headSpec wz_X10_chance rm_X10_chance).room s m ([.ref a0, .int x1, .int x2, .int x3, .int x4, .int x5, .int x6] : List Value).toArray below meth c H locs 0 0 QQ (F0 m 113 ls [])) → W p l e (headSpec wz_X10_chance rm_X10_chance).room s m ([.ref a0, .int x1, .int x2, .int x3, .int x4, .int x5, .int x6] : List Value).toArray below meth c H locs 0 0 QQ (F0 m 60 ls []) := by
            intro n
            induction n with
            | zero => intro v12 v13 I14 H locs ls r15 hM hl hf kk; exact nn_x (show (none : Option (Int32 × (Nat → Nat → Int32))) = some r15 from hf)
            | succ n ih =>
              intro v12 v13 I14 H locs ls r15 hM hl hf kk
              rw [fn_X10_chance_L60] at hf
              refine lv_iload hx hb dX10_chance_60 (lv_at hl 9 rfl) ?_
              refine lv_iload_n hx hb dX10_chance_62 rfl (lv_at hl 3 rfl) ?_
              refine lv_icmp_ge (tgt := 113) hx hb dX10_chance_63 (by decide) (fun hc16 => ?_) (fun hc16 => ?_)
              · have hf := it_p hf hc16
                obtain rfl := Option.some.inj hf
                exact kk _ _ _ hM (lv_sub hl [3, 6, 8] rfl)
              · have hf := it_n hf hc16
                refine lv_aload_n hx hb dX10_chance_66 rfl (lv_at hl 0 rfl) ?_
                refine lv_iload_n hx hb dX10_chance_67 rfl (lv_at hl 1 rfl) ?_
                refine lv_iload_n hx hb dX10_chance_68 rfl (lv_at hl 2 rfl) ?_
                refine lv_iload hx hb dX10_chance_69 (lv_at hl 9 rfl) ?_
                refine lv_iadd hx hb dX10_chance_71 ?_
                refine lv_iconst (v := (4 : Int32)) hx hb dX10_chance_72 (by decide) ?_
                refine bd_e hf (fun r17 er17 hf => ?_)
                refine ev_callv (va_runV (As := [.int x1, .int (x2 + v13), .int (4 : Int32)]) (rest := []) S (c_X10_sprays (l := l) I14 P a0 x1 (x2 + v13) (4 : Int32) r17 er17) (cwV 3 hts (gi_v wa_5_235 wa_5_237 wa_s_60 wa_1_11 wa_5_238) rfl rfl rfl (by decide +kernel) ⟨Nat.le_of_ble_eq_true rfl, Nat.le_of_ble_eq_true rfl⟩) ⟨mm_B_blind, ev_recv hK hM (ci := 10) rfl hg2 rfl, fun U hU hW => ⟨rfl, mm_B_of hK hZ hM hU hW⟩⟩ rfl rfl hl.1 rfl (lv_room (Nat.le_of_ble_eq_true rfl)) dX10_chance_73 ⟨Nat.zero_le _, Nat.zero_le _⟩) hM (fun H locs hM => ?_)
                refine lv_iload hx hb dX10_chance_76 (lv_at hl 8 rfl) ?_
                refine lv_aload_n hx hb dX10_chance_78 rfl (lv_at hl 0 rfl) ?_
                refine lv_iload hx hb dX10_chance_79 (lv_at hl 4 rfl) ?_
                refine lv_iload hx hb dX10_chance_81 (lv_at hl 5 rfl) ?_
                refine bd_e hf (fun r18 er18 hf => ?_)
                refine ev_calli (va_runS (As := [.int x4, .int x5]) (rest := [.ref a0, .int v12]) S (c_X10_dotOf (l := l) r17 P x4 x5 r18 er18) (va_cwS 2 hts (gi_s wa_5_43 wa_5_44 wa_1_11 wa_5_45) rfl rfl rfl (by decide +kernel) ⟨Nat.le_of_ble_eq_true rfl, Nat.le_of_ble_eq_true rfl⟩) ⟨mm_B_blind, fun U hU hW => ⟨rfl, mm_B_of hK hZ hM hU hW⟩⟩ rfl rfl hl.1 rfl (lv_room (Nat.le_of_ble_eq_true rfl)) dX10_chance_83 ⟨Nat.zero_le _, Nat.zero_le _⟩) hM (fun H locs hM => ?_)
                refine bd_e hf (fun r19 er19 hf => ?_)
                refine ev_calli (va_runV (As := [.int r18]) (rest := [.int v12]) S (c_X10_seen_ (l := l) r17 P a0 r18 r19 er19) (cwV 1 hts (gi_v wa_5_46 wa_5_48 wa_s_32 wa_1_11 wa_5_49) rfl rfl rfl (by decide +kernel) ⟨Nat.le_of_ble_eq_true rfl, Nat.le_of_ble_eq_true rfl⟩) ⟨mm_B_blind, ev_recv hK hM (ci := 10) rfl hg2 rfl, fun U hU hW => ⟨rfl, mm_B_of hK hZ hM hU hW⟩⟩ rfl rfl hl.1 rfl (lv_room (Nat.le_of_ble_eq_true rfl)) dX10_chance_86 ⟨Nat.zero_le _, Nat.zero_le _⟩) hM (fun H locs hM => ?_)
                refine lv_iload hx hb dX10_chance_89 (lv_at hl 7 rfl) ?_
                refine bd_e hf (fun j21 ej21 hf => ?_)
                have kj21 : ∀ (H : Heap) (locs : List Loc) (ls : Array Slot), mm_W D cs A L K N s.heap r17 P H locs → lv_has ls 10 [(0, .ref a0), (1, .int x1), (2, .int x2), (3, .int x3), (4, .int x4), (5, .int x5), (6, .int x6), (7, .int r11), (9, .int v13)] → W p l e (headSpec wz_X10_chance rm_X10_chance).room s m ([.ref a0, .int x1, .int x2, .int x3, .int x4, .int x5, .int x6] : List Value).toArray below meth c H locs 0 0 QQ (F0 m 99 ls [.int j21, .int v12]) := by
                  intro H locs ls hM hl
                  refine lv_iadd hx hb dX10_chance_99 ?_
                  refine lv_topi (fun v22 ev22 => ?_)
                  have hf := nm_x ev22 hf
                  refine lv_istore (lv' := [(8, .int v22), (0, .ref a0), (1, .int x1), (2, .int x2), (3, .int x3), (4, .int x4), (5, .int x5), (6, .int x6), (7, .int r11), (9, .int v13)]) hx hb dX10_chance_100 hl (by decide) rfl (fun ls hl => ?_)
                  refine lv_aload_n hx hb dX10_chance_102 rfl (lv_at hl 1 rfl) ?_
                  refine lv_iload_n hx hb dX10_chance_103 rfl (lv_at hl 2 rfl) ?_
                  refine bd_e hf (fun r23 er23 hf => ?_)
                  refine ev_callv (va_runV (As := [.int x1]) (rest := []) S (c_X10_comesBack (l := l) r17 P a0 x1 r23 er23) (cwV 1 hts (gi_v wa_6_0 wa_6_2 wa_s_61 wa_1_11 wa_6_3) rfl rfl rfl (by decide +kernel) ⟨Nat.le_of_ble_eq_true rfl, Nat.le_of_ble_eq_true rfl⟩) ⟨mm_B_blind, ev_recv hK hM (ci := 10) rfl hg2 rfl, fun U hU hW => ⟨rfl, mm_B_of hK hZ hM hU hW⟩⟩ rfl rfl hl.1 rfl (lv_room (Nat.le_of_ble_eq_true rfl)) dX10_chance_104 ⟨Nat.zero_le _, Nat.zero_le _⟩) hM (fun H locs hM => ?_)
                  refine lv_iinc (v := (v13 + (1 : Int32))) (lv' := [(9, .int (v13 + (1 : Int32))), (8, .int v22), (0, .ref a0), (1, .int x1), (2, .int x2), (3, .int x3), (4, .int x4), (5, .int x5), (6, .int x6), (7, .int r11)]) hx hb dX10_chance_107 hl (k := 9) rfl rfl (by decide) rfl (fun ls hl => ?_)
                  refine lv_goto (tgt := 60) hx hb dX10_chance_110 (by decide) ?_
                  exact ih v22 (v13 + (1 : Int32)) r23 _ _ _ _ hM (lv_sub hl [2, 3, 4, 5, 6, 7, 8, 9, 1, 0] rfl) hf kk
                have hf := ej21
                refine lv_icmp_eq (tgt := 98) hx hb dX10_chance_91 (by decide) (fun hc20 => ?_) (fun hc20 => ?_)
                · have hf := it_p hf hc20
                  refine lv_iconst (v := (0 : Int32)) hx hb dX10_chance_98 (by decide) ?_
                  obtain rfl := Option.some.inj hf
                  exact kj21 _ _ _ hM (lv_sub hl [0, 1, 2, 3, 4, 5, 6, 7, 9] rfl)
                · have hf := it_n hf hc20
                  refine lv_iconst (v := (1 : Int32)) hx hb dX10_chance_94 (by decide) ?_
                  refine lv_goto (tgt := 99) hx hb dX10_chance_95 (by decide) ?_
                  obtain rfl := Option.some.inj hf
                  exact kj21 _ _ _ hM (lv_sub hl [0, 1, 2, 3, 4, 5, 6, 7, 9] rfl)
          refine bd_e hf (fun r15 er15 hf => ?_)
          refine lp60_23 FU (0 : Int32) (0 : Int32) I _ _ _ r15 hM (lv_sub hl [3, 4, 5, 6, 7, 8, 9, 2, 1, 0] rfl) er15 (fun H locs ls hM hl => ?_)
          refine lv_iload hx hb dX10_chance_113 (lv_at hl 1 rfl) ?_
          refine bd_e hf (fun j25 ej25 hf => ?_)
          have kj25 : ∀ (H : Heap) (locs : List Loc) (ls : Array Slot), mm_W D cs A L K N s.heap r15.2 P H locs → lv_has ls 10 [(3, .int x3), (8, .int r15.1)] → W p l e (headSpec wz_X10_chance rm_X10_chance).room s m ([.ref a0, .int x1, .int x2, .int x3, .int x4, .int x5, .int x6] : List Value).toArray below meth c H locs 0 0 QQ (F0 m 124 ls [.int j25]) := by
            intro H locs ls hM hl
            refine lv_iload hx hb dX10_chance_124 (lv_at hl 1 rfl) ?_
            refine lv_iload_n hx hb dX10_chance_126 rfl (lv_at hl 0 rfl) ?_
            refine bd_e hf (fun r26 er26 hf => ?_)
            refine ev_calli (va_runS (As := [.int r15.1, .int x3]) (rest := [.int j25]) S (c_X10_common (l := l) r15.2 P r15.1 x3 r26 er26) (va_cwS 2 hts (gi_s wa_6_8 wa_6_9 wa_1_11 wa_6_10) rfl rfl rfl (by decide +kernel) ⟨Nat.le_of_ble_eq_true rfl, Nat.le_of_ble_eq_true rfl⟩) ⟨mm_B_blind, fun U hU hW => ⟨rfl, mm_B_of hK hZ hM hU hW⟩⟩ rfl rfl hl.1 rfl (lv_room (Nat.le_of_ble_eq_true rfl)) dX10_chance_127 ⟨Nat.zero_le _, Nat.zero_le _⟩) hM (fun H locs hM => ?_)
            refine gd_e hf (fun hg27 hf => ?_)
            refine lv_idiv hx hb dX10_chance_130 hg27 ?_
            obtain rfl := Option.some.inj hf
            subst hQ
            exact ev_iret S hr hlocks hK hZ hM dX10_chance_131
          have hf := ej25
          refine lv_if_ne (tgt := 123) hx hb dX10_chance_115 (by decide) (fun hc24 => ?_) (fun hc24 => ?_)
          · have hf := it_n hf hc24
            refine lv_iload_n hx hb dX10_chance_123 rfl (lv_at hl 0 rfl) ?_
            obtain rfl := Option.some.inj hf
            exact kj25 _ _ _ hM (lv_sub hl [0, 2] rfl)
          · have hf := it_p hf hc24
            refine lv_iload hx hb dX10_chance_118 (lv_at hl 2 rfl) ?_
            refine lv_goto (tgt := 124) hx hb dX10_chance_120 (by decide) ?_
            obtain rfl := Option.some.inj hf
            exact kj25 _ _ _ hM (lv_sub hl [0, 2] rfl)
        · have hf := it_p hf hc9
          refine lv_bipush (v := (-2 : Int32)) hx hb dX10_chance_38 (by decide) ?_
          obtain rfl := Option.some.inj hf
          subst hQ
          exact ev_iret S hr hlocks hK hZ hM dX10_chance_40
end G90
