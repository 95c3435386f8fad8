section G01
variable {l : Launch} {D : va_G} {cs : mm_C} {A : Nat → Prop} {L : List Nat} {K N z : Nat → Nat} {w : Option Nat}
noncomputable def fn_J6_bitCount_0f7a4 (x0 : Int32) : Option (Int32) := Option.bind (some (x0 - ((ius x0 (1 : Int32)) &&& (1431655765 : Int32)))) (fun v1 => Option.bind (some ((v1 &&& (858993459 : Int32)) + ((ius v1 (2 : Int32)) &&& (858993459 : Int32)))) (fun v2 => Option.bind (some ((v2 + (ius v2 (4 : Int32))) &&& (252645135 : Int32))) (fun v3 => Option.bind (some (v3 + (ius v3 (8 : Int32)))) (fun v4 => Option.bind (some (v4 + (ius v4 (16 : Int32)))) (fun v5 => some (v5 &&& (63 : Int32)))))))
abbrev wz_J6_bitCount_0f7a4 : List Cond := Cond.code yJ6_bitCount_0f7a4 cJ6_bitCount_0f7a4 1 (some .int) :: WA
abbrev rm_J6_bitCount_0f7a4 : Room := { frames := 1, cells := 0, slots := 0, locals := 12 }
set_option maxHeartbeats 4000000 in
set_option maxRecDepth 100000 in
theorem c_J6_bitCount_0f7a4 (I : Nat → Nat → Int32) (P : Nat → Nat → Option Nat) (x0 : Int32) (res : Int32) (hf : fn_J6_bitCount_0f7a4 x0 = some res) : Met l yJ6_bitCount_0f7a4 wz_J6_bitCount_0f7a4 rm_J6_bitCount_0f7a4 (va_Pc [.int x0] (mm_B D cs A L K N z w I P)) (va_Qi (fun r (_ : Unit) => r = res) (fun _ => mm_B D cs A L K N z w I P) A) 0 0 A := by
  refine Met.ofW (cc := cJ6_bitCount_0f7a4) (maxL := 1) (ret := (some .int)) (by decide) rfl ?_
  intro p e s m args below meth c s₁ B hml hv
  obtain ⟨rfl, hBm⟩ := hv
  have hx := B.exec
  have hb := B.bytes
  have hr := B.returns
  have hts := atoms_spec (ws := wz_J6_bitCount_0f7a4) B.pre
  have hWA : ∀ w ∈ WA, w.before ([.int x0] : List Value).toArray s = true := fun u9 h9 => hts u9 (List.mem_cons_of_mem _ h9)
  have hown : s.vm.findClass RJ6 = some m.cls := findClass_of_methodNamed B.named
  have hlocks := B.notSynchronized
  have S : CallFix p m c cJ6_bitCount_0f7a4 1 s ([.int x0] : List Value).toArray wz_J6_bitCount_0f7a4 RJ6 := ⟨hx, hb, hml, hown, hts⟩
  have hK := hBm.2.2.2.1
  have hZ := hBm.2.2.2.2
  have hM : mm_W D cs A L K N s.heap I P s.heap [] := ⟨hBm.1, hBm.2.1, hBm.2.2.1, va_S.rf⟩
  have hl := lv_entry ([.int x0]) (n := 1) (Nat.le_of_ble_eq_true rfl)
  rw [lg_entry_eq]
  generalize (lg_sl ([.int x0]) ++ List.replicate (1 - (lg_sl ([.int x0])).length) Slot.unset).toArray = ls at hl ⊢
  have hl : lv_has ls 1 [(0, .int x0)] := hl
  generalize hQ : MQ below (va_Qi (fun r (_ : Unit) => r = res) (fun _ => mm_B D cs A L K N z w I P) A) ([.int x0] : List Value).toArray s 0 0 A = QQ
  unfold fn_J6_bitCount_0f7a4 at hf
  refine lv_iload_n hx hb dJ6_bitCount_0f7a4_0 rfl (lv_at hl 0 rfl) ?_
  refine lv_iload_n hx hb dJ6_bitCount_0f7a4_1 rfl (lv_at hl 0 rfl) ?_
  refine lv_iconst (v := (1 : Int32)) hx hb dJ6_bitCount_0f7a4_2 (by decide) ?_
  refine lv_iushr (v := (ius x0 (1 : Int32))) hx hb dJ6_bitCount_0f7a4_3 rfl ?_
  refine lv_ldcw (v := 1431655765) hx hb hown (hWA _ wa_3_182) dJ6_bitCount_0f7a4_4 ?_
  refine lv_iand hx hb dJ6_bitCount_0f7a4_7 ?_
  refine lv_isub hx hb dJ6_bitCount_0f7a4_8 ?_
  refine lv_topi (fun v1 ev1 => ?_)
  have hf := nm_x ev1 hf
  refine lv_istore_n (lv' := [(0, .int v1)]) hx hb dJ6_bitCount_0f7a4_9 rfl hl (by decide) rfl (fun ls hl => ?_)
  refine lv_iload_n hx hb dJ6_bitCount_0f7a4_10 rfl (lv_at hl 0 rfl) ?_
  refine lv_ldcw (v := 858993459) hx hb hown (hWA _ wa_3_183) dJ6_bitCount_0f7a4_11 ?_
  refine lv_iand hx hb dJ6_bitCount_0f7a4_14 ?_
  refine lv_iload_n hx hb dJ6_bitCount_0f7a4_15 rfl (lv_at hl 0 rfl) ?_
  refine lv_iconst (v := (2 : Int32)) hx hb dJ6_bitCount_0f7a4_16 (by decide) ?_
  refine lv_iushr (v := (ius v1 (2 : Int32))) hx hb dJ6_bitCount_0f7a4_17 rfl ?_
  refine lv_ldcw (v := 858993459) hx hb hown (hWA _ wa_3_183) dJ6_bitCount_0f7a4_18 ?_
  refine lv_iand hx hb dJ6_bitCount_0f7a4_21 ?_
  refine lv_iadd hx hb dJ6_bitCount_0f7a4_22 ?_
  refine lv_topi (fun v2 ev2 => ?_)
  have hf := nm_x ev2 hf
  refine lv_istore_n (lv' := [(0, .int v2)]) hx hb dJ6_bitCount_0f7a4_23 rfl hl (by decide) rfl (fun ls hl => ?_)
  refine lv_iload_n hx hb dJ6_bitCount_0f7a4_24 rfl (lv_at hl 0 rfl) ?_
  refine lv_iload_n hx hb dJ6_bitCount_0f7a4_25 rfl (lv_at hl 0 rfl) ?_
  refine lv_iconst (v := (4 : Int32)) hx hb dJ6_bitCount_0f7a4_26 (by decide) ?_
  refine lv_iushr (v := (ius v2 (4 : Int32))) hx hb dJ6_bitCount_0f7a4_27 rfl ?_
  refine lv_iadd hx hb dJ6_bitCount_0f7a4_28 ?_
  refine lv_ldcw (v := 252645135) hx hb hown (hWA _ wa_3_184) dJ6_bitCount_0f7a4_29 ?_
  refine lv_iand hx hb dJ6_bitCount_0f7a4_32 ?_
  refine lv_topi (fun v3 ev3 => ?_)
  have hf := nm_x ev3 hf
  refine lv_istore_n (lv' := [(0, .int v3)]) hx hb dJ6_bitCount_0f7a4_33 rfl hl (by decide) rfl (fun ls hl => ?_)
  refine lv_iload_n hx hb dJ6_bitCount_0f7a4_34 rfl (lv_at hl 0 rfl) ?_
  refine lv_iload_n hx hb dJ6_bitCount_0f7a4_35 rfl (lv_at hl 0 rfl) ?_
  refine lv_bipush (v := (8 : Int32)) hx hb dJ6_bitCount_0f7a4_36 (by decide) ?_
  refine lv_iushr (v := (ius v3 (8 : Int32))) hx hb dJ6_bitCount_0f7a4_38 rfl ?_
  refine lv_iadd hx hb dJ6_bitCount_0f7a4_39 ?_
  refine lv_topi (fun v4 ev4 => ?_)
  have hf := nm_x ev4 hf
  refine lv_istore_n (lv' := [(0, .int v4)]) hx hb dJ6_bitCount_0f7a4_40 rfl hl (by decide) rfl (fun ls hl => ?_)
  refine lv_iload_n hx hb dJ6_bitCount_0f7a4_41 rfl (lv_at hl 0 rfl) ?_
  refine lv_iload_n hx hb dJ6_bitCount_0f7a4_42 rfl (lv_at hl 0 rfl) ?_
  refine lv_bipush (v := (16 : Int32)) hx hb dJ6_bitCount_0f7a4_43 (by decide) ?_
  refine lv_iushr (v := (ius v4 (16 : Int32))) hx hb dJ6_bitCount_0f7a4_45 rfl ?_
  refine lv_iadd hx hb dJ6_bitCount_0f7a4_46 ?_
  refine lv_topi (fun v5 ev5 => ?_)
  have hf := nm_x ev5 hf
  refine lv_istore_n (lv' := [(0, .int v5)]) hx hb dJ6_bitCount_0f7a4_47 rfl hl (by decide) rfl (fun ls hl => ?_)
  refine lv_iload_n hx hb dJ6_bitCount_0f7a4_48 rfl (lv_at hl 0 rfl) ?_
  refine lv_bipush (v := (63 : Int32)) hx hb dJ6_bitCount_0f7a4_49 (by decide) ?_
  refine lv_iand hx hb dJ6_bitCount_0f7a4_51 ?_
  obtain rfl := Option.some.inj hf
  subst hQ
  exact ev_iret S hr hlocks hK hZ hM dJ6_bitCount_0f7a4_52
noncomputable def fn_J9_floorDiv_7cf53 (x0 : Int32) (x1 : Int32) : Option (Int32) := gd (¬ x1 = 0) (Option.bind (some (x0 / x1)) (fun v2 => if 0 ≤ (x0 ^^^ x1) then (some v2) else (if (v2 * x1) = x0 then (some v2) else (some (v2 - (1 : Int32))))))
abbrev wz_J9_floorDiv_7cf53 : List Cond := Cond.code yJ9_floorDiv_7cf53 cJ9_floorDiv_7cf53 3 (some .int) :: WA
abbrev rm_J9_floorDiv_7cf53 : Room := { frames := 1, cells := 0, slots := 0, locals := 12 }
set_option maxHeartbeats 4000000 in
set_option maxRecDepth 100000 in
theorem c_J9_floorDiv_7cf53 (I : Nat → Nat → Int32) (P : Nat → Nat → Option Nat) (x0 : Int32) (x1 : Int32) (res : Int32) (hf : fn_J9_floorDiv_7cf53 x0 x1 = some res) : Met l yJ9_floorDiv_7cf53 wz_J9_floorDiv_7cf53 rm_J9_floorDiv_7cf53 (va_Pc [.int x0, .int x1] (mm_B D cs A L K N z w I P)) (va_Qi (fun r (_ : Unit) => r = res) (fun _ => mm_B D cs A L K N z w I P) A) 0 0 A := by
  refine va_MetF (cc := cJ9_floorDiv_7cf53) (maxL := 3) (ret := (some .int)) (by decide +kernel) rfl ?_
  intro p e s m args below meth c s₁ B hml hv
  obtain ⟨rfl, hBm⟩ := hv
  have hx := B.exec
  have hb := B.bytes
  have hr := B.returns
  have hts := atoms_spec (ws := wz_J9_floorDiv_7cf53) B.pre
  have hWA : ∀ w ∈ WA, w.before ([.int x0, .int x1] : List Value).toArray s = true := fun u9 h9 => hts u9 (List.mem_cons_of_mem _ h9)
  have hown : s.vm.findClass RJ9 = some m.cls := findClass_of_methodNamed B.named
  have hlocks := B.notSynchronized
  have S : CallFix p m c cJ9_floorDiv_7cf53 3 s ([.int x0, .int x1] : List Value).toArray wz_J9_floorDiv_7cf53 RJ9 := ⟨hx, hb, hml, hown, hts⟩
  have hK := hBm.2.2.2.1
  have hZ := hBm.2.2.2.2
  have hM : mm_W D cs A L K N s.heap I P s.heap [] := ⟨hBm.1, hBm.2.1, hBm.2.2.1, va_S.rf⟩
  have hl := lv_entry ([.int x0, .int x1]) (n := 3) (Nat.le_of_ble_eq_true rfl)
  rw [lg_entry_eq]
  generalize (lg_sl ([.int x0, .int x1]) ++ List.replicate (3 - (lg_sl ([.int x0, .int x1])).length) Slot.unset).toArray = ls at hl ⊢
  have hl : lv_has ls 3 [(0, .int x0), (1, .int x1)] := hl
  generalize hQ : MQ below (va_Qi (fun r (_ : Unit) => r = res) (fun _ => mm_B D cs A L K N z w I P) A) ([.int x0, .int x1] : List Value).toArray s 0 0 A = QQ
  unfold fn_J9_floorDiv_7cf53 at hf
  refine lv_iload_n hx hb dJ9_floorDiv_7cf53_0 rfl (lv_at hl 0 rfl) ?_
  refine lv_iload_n hx hb dJ9_floorDiv_7cf53_1 rfl (lv_at hl 1 rfl) ?_
  refine gd_e hf (fun hg1 hf => ?_)
  refine lv_idiv hx hb dJ9_floorDiv_7cf53_2 hg1 ?_
  refine lv_topi (fun v2 ev2 => ?_)
  have hf := nm_x ev2 hf
  refine lv_istore_n (lv' := [(2, .int v2), (0, .int x0), (1, .int x1)]) hx hb dJ9_floorDiv_7cf53_3 rfl hl (by decide) rfl (fun ls hl => ?_)
  refine lv_iload_n hx hb dJ9_floorDiv_7cf53_4 rfl (lv_at hl 1 rfl) ?_
  refine lv_iload_n hx hb dJ9_floorDiv_7cf53_5 rfl (lv_at hl 2 rfl) ?_
  refine lv_ixor hx hb dJ9_floorDiv_7cf53_6 ?_
  refine lv_if_ge (tgt := 21) hx hb dJ9_floorDiv_7cf53_7 (by decide) (fun hc3 => ?_) (fun hc3 => ?_)
  · have hf := it_p hf hc3
    refine lv_iload_n hx hb dJ9_floorDiv_7cf53_21 rfl (lv_at hl 0 rfl) ?_
    obtain rfl := Option.some.inj hf
    subst hQ
    exact ev_iret S hr hlocks hK hZ hM dJ9_floorDiv_7cf53_22
  · have hf := it_n hf hc3
    refine lv_iload_n hx hb dJ9_floorDiv_7cf53_10 rfl (lv_at hl 0 rfl) ?_
    refine lv_iload_n hx hb dJ9_floorDiv_7cf53_11 rfl (lv_at hl 2 rfl) ?_
    refine lv_imul hx hb dJ9_floorDiv_7cf53_12 ?_
    refine lv_iload_n hx hb dJ9_floorDiv_7cf53_13 rfl (lv_at hl 1 rfl) ?_
    refine lv_icmp_eq (tgt := 21) hx hb dJ9_floorDiv_7cf53_14 (by decide) (fun hc4 => ?_) (fun hc4 => ?_)
    · have hf := it_p hf hc4
      refine lv_iload_n hx hb dJ9_floorDiv_7cf53_21 rfl (lv_at hl 0 rfl) ?_
      obtain rfl := Option.some.inj hf
      subst hQ
      exact ev_iret S hr hlocks hK hZ hM dJ9_floorDiv_7cf53_22
    · have hf := it_n hf hc4
      refine lv_iload_n hx hb dJ9_floorDiv_7cf53_17 rfl (lv_at hl 0 rfl) ?_
      refine lv_iconst (v := (1 : Int32)) hx hb dJ9_floorDiv_7cf53_18 (by decide) ?_
      refine lv_isub hx hb dJ9_floorDiv_7cf53_19 ?_
      obtain rfl := Option.some.inj hf
      subst hQ
      exact ev_iret S hr hlocks hK hZ hM dJ9_floorDiv_7cf53_20
noncomputable def fn_J0_coder_7d493 (w0 : Nat) : Option (Int32) := gd (w0 < 10) (some (0 : Int32))
abbrev wz_J0_coder_7d493 : List Cond := Cond.code yJ0_coder_7d493 cJ0_coder_7d493 1 (some .byte) :: WA
abbrev rm_J0_coder_7d493 : Room := { frames := 1, cells := 0, slots := 0, locals := 12 }
set_option maxHeartbeats 4000000 in
set_option maxRecDepth 100000 in
theorem c_J0_coder_7d493 (I : Nat → Nat → Int32) (P : Nat → Nat → Option Nat) (w0 : Nat) (res : Int32) (hf : fn_J0_coder_7d493 w0 = some res) : Met l yJ0_coder_7d493 wz_J0_coder_7d493 rm_J0_coder_7d493 (va_Pc [.ref (z (10 + w0))] (mm_B D cs A L K N z w I P)) (va_Qi (fun r (_ : Unit) => r = res) (fun _ => mm_B D cs A L K N z w I P) A) 0 0 A := by
  refine Met.ofW (cc := cJ0_coder_7d493) (maxL := 1) (ret := (some .byte)) (by decide) rfl ?_
  intro p e s m args below meth c s₁ B hml hv
  obtain ⟨rfl, hBm⟩ := hv
  have hx := B.exec
  have hb := B.bytes
  have hr := B.returns
  have hts := atoms_spec (ws := wz_J0_coder_7d493) B.pre
  have hWA : ∀ w ∈ WA, w.before ([.ref (z (10 + w0))] : List Value).toArray s = true := fun u9 h9 => hts u9 (List.mem_cons_of_mem _ h9)
  have hown : s.vm.findClass RJ0 = some m.cls := findClass_of_methodNamed B.named
  have hlocks := B.notSynchronized
  have S : CallFix p m c cJ0_coder_7d493 1 s ([.ref (z (10 + w0))] : List Value).toArray wz_J0_coder_7d493 RJ0 := ⟨hx, hb, hml, hown, hts⟩
  have hK := hBm.2.2.2.1
  have hZ := hBm.2.2.2.2
  have hM : mm_W D cs A L K N s.heap I P s.heap [] := ⟨hBm.1, hBm.2.1, hBm.2.2.1, va_S.rf⟩
  have hl := lv_entry ([.ref (z (10 + w0))]) (n := 1) (Nat.le_of_ble_eq_true rfl)
  rw [lg_entry_eq]
  generalize (lg_sl ([.ref (z (10 + w0))]) ++ List.replicate (1 - (lg_sl ([.ref (z (10 + w0))])).length) Slot.unset).toArray = ls at hl ⊢
  have hl : lv_has ls 1 [(0, .ref (z (10 + w0)))] := hl
  generalize hQ : MQ below (va_Qi (fun r (_ : Unit) => r = res) (fun _ => mm_B D cs A L K N z w I P) A) ([.ref (z (10 + w0))] : List Value).toArray s 0 0 A = QQ
  unfold fn_J0_coder_7d493 at hf
  refine ev_cs S hZ hM (hWA _ wa_2_236) dJ0_coder_7d493_0 ?_
  refine lv_if_eq (tgt := 13) hx hb dJ0_coder_7d493_3 (by decide) (fun h => absurd h (by decide)) (fun _ => ?_)
  refine lv_aload_n hx hb dJ0_coder_7d493_6 rfl (lv_at hl 0 rfl) ?_
  refine gd_e hf (fun hg1 hf => ?_)
  refine ev_strc S hZ hM hg1 (hWA _ wa_6_59) dJ0_coder_7d493_7 ?_
  refine lv_goto (tgt := 14) hx hb dJ0_coder_7d493_10 (by decide) ?_
  obtain rfl := Option.some.inj hf
  subst hQ
  exact ev_zret (v := (0 : Int32)) S hr hlocks hK hZ hM rfl dJ0_coder_7d493_14
noncomputable def fn_J0_length_8abf5 (w0 : Nat) : Option (Int32) := gd (w0 < 10) (Option.bind (fn_J0_coder_7d493 w0) (fun (r2 : Int32) => some ((Int32.ofNat (mm_sl w0)) >>> (r2 &&& 31))))
abbrev wz_J0_length_8abf5 : List Cond := Cond.code yJ0_length_8abf5 cJ0_length_8abf5 1 (some .int) :: WA
abbrev rm_J0_length_8abf5 : Room := { frames := 2, cells := 0, slots := 0, locals := 32 }
set_option maxHeartbeats 4000000 in
set_option maxRecDepth 100000 in
theorem c_J0_length_8abf5 (I : Nat → Nat → Int32) (P : Nat → Nat → Option Nat) (w0 : Nat) (res : Int32) (hf : fn_J0_length_8abf5 w0 = some res) : Met l yJ0_length_8abf5 wz_J0_length_8abf5 rm_J0_length_8abf5 (va_Pc [.ref (z (10 + w0))] (mm_B D cs A L K N z w I P)) (va_Qi (fun r (_ : Unit) => r = res) (fun _ => mm_B D cs A L K N z w I P) A) 0 0 A := by
  refine Met.ofW (cc := cJ0_length_8abf5) (maxL := 1) (ret := (some .int)) (by decide) rfl ?_
  intro p e s m args below meth c s₁ B hml hv
  obtain ⟨rfl, hBm⟩ := hv
  have hx := B.exec
  have hb := B.bytes
  have hr := B.returns
  have hts := atoms_spec (ws := wz_J0_length_8abf5) B.pre
  have hWA : ∀ w ∈ WA, w.before ([.ref (z (10 + w0))] : List Value).toArray s = true := fun u9 h9 => hts u9 (List.mem_cons_of_mem _ h9)
  have hown : s.vm.findClass RJ0 = some m.cls := findClass_of_methodNamed B.named
  have hlocks := B.notSynchronized
  have S : CallFix p m c cJ0_length_8abf5 1 s ([.ref (z (10 + w0))] : List Value).toArray wz_J0_length_8abf5 RJ0 := ⟨hx, hb, hml, hown, hts⟩
  have hK := hBm.2.2.2.1
  have hZ := hBm.2.2.2.2
  have hM : mm_W D cs A L K N s.heap I P s.heap [] := ⟨hBm.1, hBm.2.1, hBm.2.2.1, va_S.rf⟩
  have hl := lv_entry ([.ref (z (10 + w0))]) (n := 1) (Nat.le_of_ble_eq_true rfl)
  rw [lg_entry_eq]
  generalize (lg_sl ([.ref (z (10 + w0))]) ++ List.replicate (1 - (lg_sl ([.ref (z (10 + w0))])).length) Slot.unset).toArray = ls at hl ⊢
  have hl : lv_has ls 1 [(0, .ref (z (10 + w0)))] := hl
  generalize hQ : MQ below (va_Qi (fun r (_ : Unit) => r = res) (fun _ => mm_B D cs A L K N z w I P) A) ([.ref (z (10 + w0))] : List Value).toArray s 0 0 A = QQ
  unfold fn_J0_length_8abf5 at hf
  refine lv_aload_n hx hb dJ0_length_8abf5_0 rfl (lv_at hl 0 rfl) ?_
  refine gd_e hf (fun hg1 hf => ?_)
  refine ev_strv S hZ hM hg1 (hWA _ wa_6_58) dJ0_length_8abf5_1 ?_
  refine ev_strl S hZ hM hg1 dJ0_length_8abf5_4 ?_
  refine lv_aload_n hx hb dJ0_length_8abf5_5 rfl (lv_at hl 0 rfl) ?_
  refine bd_e hf (fun r2 er2 hf => ?_)
  refine ev_calli (va_runV (As := []) (rest := [.int (Int32.ofNat (mm_sl w0))]) S (c_J0_coder_7d493 (l := l) I P w0 r2 er2) (cwV 0 hts (gi_v wa_2_232 wa_2_233 wa_2_234 wa_1_14 wa_2_235) rfl rfl rfl (by decide +kernel) ⟨Nat.le_of_ble_eq_true rfl, Nat.le_of_ble_eq_true rfl⟩) ⟨mm_B_blind, ev_recvT hZ hM hg1, fun U hU hW => ⟨rfl, mm_B_of hK hZ hM hU hW⟩⟩ rfl rfl hl.1 rfl (lv_room (Nat.le_of_ble_eq_true rfl)) dJ0_length_8abf5_6 ⟨Nat.zero_le _, Nat.zero_le _⟩) hM (fun H locs hM => ?_)
  refine lv_ishr hx hb dJ0_length_8abf5_9 ?_
  obtain rfl := Option.some.inj hf
  subst hQ
  exact ev_iret S hr hlocks hK hZ hM dJ0_length_8abf5_10
noncomputable def fn_J0_isLatin1_aae02 (w0 : Nat) : Option (Int32) := gd (w0 < 10) (some (1 : Int32))
abbrev wz_J0_isLatin1_aae02 : List Cond := Cond.code yJ0_isLatin1_aae02 cJ0_isLatin1_aae02 1 (some .boolean) :: WA
abbrev rm_J0_isLatin1_aae02 : Room := { frames := 1, cells := 0, slots := 0, locals := 12 }
set_option maxHeartbeats 4000000 in
set_option maxRecDepth 100000 in
theorem c_J0_isLatin1_aae02 (I : Nat → Nat → Int32) (P : Nat → Nat → Option Nat) (w0 : Nat) (res : Int32) (hf : fn_J0_isLatin1_aae02 w0 = some res) : Met l yJ0_isLatin1_aae02 wz_J0_isLatin1_aae02 rm_J0_isLatin1_aae02 (va_Pc [.ref (z (10 + w0))] (mm_B D cs A L K N z w I P)) (va_Qi (fun r (_ : Unit) => r = res) (fun _ => mm_B D cs A L K N z w I P) A) 0 0 A := by
  refine Met.ofW (cc := cJ0_isLatin1_aae02) (maxL := 1) (ret := (some .boolean)) (by decide) rfl ?_
  intro p e s m args below meth c s₁ B hml hv
  obtain ⟨rfl, hBm⟩ := hv
  have hx := B.exec
  have hb := B.bytes
  have hr := B.returns
  have hts := atoms_spec (ws := wz_J0_isLatin1_aae02) B.pre
  have hWA : ∀ w ∈ WA, w.before ([.ref (z (10 + w0))] : List Value).toArray s = true := fun u9 h9 => hts u9 (List.mem_cons_of_mem _ h9)
  have hown : s.vm.findClass RJ0 = some m.cls := findClass_of_methodNamed B.named
  have hlocks := B.notSynchronized
  have S : CallFix p m c cJ0_isLatin1_aae02 1 s ([.ref (z (10 + w0))] : List Value).toArray wz_J0_isLatin1_aae02 RJ0 := ⟨hx, hb, hml, hown, hts⟩
  have hK := hBm.2.2.2.1
  have hZ := hBm.2.2.2.2
  have hM : mm_W D cs A L K N s.heap I P s.heap [] := ⟨hBm.1, hBm.2.1, hBm.2.2.1, va_S.rf⟩
  have hl := lv_entry ([.ref (z (10 + w0))]) (n := 1) (Nat.le_of_ble_eq_true rfl)
  rw [lg_entry_eq]
  generalize (lg_sl ([.ref (z (10 + w0))]) ++ List.replicate (1 - (lg_sl ([.ref (z (10 + w0))])).length) Slot.unset).toArray = ls at hl ⊢
  have hl : lv_has ls 1 [(0, .ref (z (10 + w0)))] := hl
  generalize hQ : MQ below (va_Qi (fun r (_ : Unit) => r = res) (fun _ => mm_B D cs A L K N z w I P) A) ([.ref (z (10 + w0))] : List Value).toArray s 0 0 A = QQ
  unfold fn_J0_isLatin1_aae02 at hf
  refine ev_cs S hZ hM (hWA _ wa_2_236) dJ0_isLatin1_aae02_0 ?_
  refine lv_if_eq (tgt := 17) hx hb dJ0_isLatin1_aae02_3 (by decide) (fun h => absurd h (by decide)) (fun _ => ?_)
  refine lv_aload_n hx hb dJ0_isLatin1_aae02_6 rfl (lv_at hl 0 rfl) ?_
  refine gd_e hf (fun hg1 hf => ?_)
  refine ev_strc S hZ hM hg1 (hWA _ wa_6_59) dJ0_isLatin1_aae02_7 ?_
  refine lv_if_ne (tgt := 17) hx hb dJ0_isLatin1_aae02_10 (by decide) (fun h => absurd h (by decide)) (fun _ => ?_)
  refine lv_iconst (v := (1 : Int32)) hx hb dJ0_isLatin1_aae02_13 (by decide) ?_
  refine lv_goto (tgt := 18) hx hb dJ0_isLatin1_aae02_14 (by decide) ?_
  obtain rfl := Option.some.inj hf
  subst hQ
  exact ev_zret (v := (1 : Int32)) S hr hlocks hK hZ hM rfl dJ0_isLatin1_aae02_18
noncomputable def fn_J3_checkIndex_8e157 (x0 : Int32) (x1 : Int32) : Option (Int32) := if x0 < 0 then (none) else (if x0 < x1 then (some x0) else (none))
abbrev wz_J3_checkIndex_8e157 : List Cond := Cond.code yJ3_checkIndex_8e157 cJ3_checkIndex_8e157 3 (some .int) :: WA
abbrev rm_J3_checkIndex_8e157 : Room := { frames := 1, cells := 0, slots := 0, locals := 12 }
set_option maxHeartbeats 4000000 in
set_option maxRecDepth 100000 in
theorem c_J3_checkIndex_8e157 (I : Nat → Nat → Int32) (P : Nat → Nat → Option Nat) (x0 : Int32) (x1 : Int32) (res : Int32) (hf : fn_J3_checkIndex_8e157 x0 x1 = some res) : Met l yJ3_checkIndex_8e157 wz_J3_checkIndex_8e157 rm_J3_checkIndex_8e157 (va_Pc [.int x0, .int x1, va_rf w] (mm_B D cs A L K N z w I P)) (va_Qi (fun r (_ : Unit) => r = res) (fun _ => mm_B D cs A L K N z w I P) A) 0 0 A := by
  cases w with
  | none =>
    refine Met.ofW (cc := cJ3_checkIndex_8e157) (maxL := 3) (ret := (some .int)) (by decide) rfl ?_
    intro p e s m args below meth c s₁ B hml hv
    obtain ⟨rfl, hBm⟩ := hv
    have hx := B.exec
    have hb := B.bytes
    have hr := B.returns
    have hts := atoms_spec (ws := wz_J3_checkIndex_8e157) B.pre
    have hWA : ∀ w ∈ WA, w.before ([.int x0, .int x1, va_rf none] : List Value).toArray s = true := fun u9 h9 => hts u9 (List.mem_cons_of_mem _ h9)
    have hown : s.vm.findClass RJ3 = some m.cls := findClass_of_methodNamed B.named
    have hlocks := B.notSynchronized
    have S : CallFix p m c cJ3_checkIndex_8e157 3 s ([.int x0, .int x1, va_rf none] : List Value).toArray wz_J3_checkIndex_8e157 RJ3 := ⟨hx, hb, hml, hown, hts⟩
    have hK := hBm.2.2.2.1
    have hZ := hBm.2.2.2.2
    have hM : mm_W D cs A L K N s.heap I P s.heap [] := ⟨hBm.1, hBm.2.1, hBm.2.2.1, va_S.rf⟩
    have hl := lv_entry ([.int x0, .int x1, va_rf none]) (n := 3) (Nat.le_of_ble_eq_true rfl)
    rw [lg_entry_eq]
    generalize (lg_sl ([.int x0, .int x1, va_rf none]) ++ List.replicate (3 - (lg_sl ([.int x0, .int x1, va_rf none])).length) Slot.unset).toArray = ls at hl ⊢
    have hl : lv_has ls 3 [(0, .int x0), (1, .int x1), (2, va_rf none)] := hl
    generalize hQ : MQ below (va_Qi (fun r (_ : Unit) => r = res) (fun _ => mm_B D cs A L K N z none I P) A) ([.int x0, .int x1, va_rf none] : List Value).toArray s 0 0 A = QQ
    unfold fn_J3_checkIndex_8e157 at hf
    refine lv_iload_n hx hb dJ3_checkIndex_8e157_0 rfl (lv_at hl 0 rfl) ?_
    refine lv_if_lt (tgt := 9) hx hb dJ3_checkIndex_8e157_1 (by decide) (fun hc1 => ?_) (fun hc1 => ?_)
    · have hf := it_p hf hc1
      exact nn_x (show (none : Option (Int32)) = some _ from hf)
    · have hf := it_n hf hc1
      refine lv_iload_n hx hb dJ3_checkIndex_8e157_4 rfl (lv_at hl 0 rfl) ?_
      refine lv_iload_n hx hb dJ3_checkIndex_8e157_5 rfl (lv_at hl 1 rfl) ?_
      refine lv_icmp_lt (tgt := 16) hx hb dJ3_checkIndex_8e157_6 (by decide) (fun hc2 => ?_) (fun hc2 => ?_)
      · have hf := it_p hf hc2
        refine lv_iload_n hx hb dJ3_checkIndex_8e157_16 rfl (lv_at hl 0 rfl) ?_
        obtain rfl := Option.some.inj hf
        subst hQ
        exact ev_iret S hr hlocks hK hZ hM dJ3_checkIndex_8e157_17
      · have hf := it_n hf hc2
        exact nn_x (show (none : Option (Int32)) = some _ from hf)
  | some wa =>
    refine Met.ofW (cc := cJ3_checkIndex_8e157) (maxL := 3) (ret := (some .int)) (by decide) rfl ?_
    intro p e s m args below meth c s₁ B hml hv
    obtain ⟨rfl, hBm⟩ := hv
    have hx := B.exec
    have hb := B.bytes
    have hr := B.returns
    have hts := atoms_spec (ws := wz_J3_checkIndex_8e157) B.pre
    have hWA : ∀ w ∈ WA, w.before ([.int x0, .int x1, va_rf (some wa)] : List Value).toArray s = true := fun u9 h9 => hts u9 (List.mem_cons_of_mem _ h9)
    have hown : s.vm.findClass RJ3 = some m.cls := findClass_of_methodNamed B.named
    have hlocks := B.notSynchronized
    have S : CallFix p m c cJ3_checkIndex_8e157 3 s ([.int x0, .int x1, va_rf (some wa)] : List Value).toArray wz_J3_checkIndex_8e157 RJ3 := ⟨hx, hb, hml, hown, hts⟩
    have hK := hBm.2.2.2.1
    have hZ := hBm.2.2.2.2
    have hM : mm_W D cs A L K N s.heap I P s.heap [] := ⟨hBm.1, hBm.2.1, hBm.2.2.1, va_S.rf⟩
    have hl := lv_entry ([.int x0, .int x1, va_rf (some wa)]) (n := 3) (Nat.le_of_ble_eq_true rfl)
    rw [lg_entry_eq]
    generalize (lg_sl ([.int x0, .int x1, va_rf (some wa)]) ++ List.replicate (3 - (lg_sl ([.int x0, .int x1, va_rf (some wa)])).length) Slot.unset).toArray = ls at hl ⊢
    have hl : lv_has ls 3 [(0, .int x0), (1, .int x1), (2, va_rf (some wa))] := hl
    generalize hQ : MQ below (va_Qi (fun r (_ : Unit) => r = res) (fun _ => mm_B D cs A L K N z (some wa) I P) A) ([.int x0, .int x1, va_rf (some wa)] : List Value).toArray s 0 0 A = QQ
    unfold fn_J3_checkIndex_8e157 at hf
    refine lv_iload_n hx hb dJ3_checkIndex_8e157_0 rfl (lv_at hl 0 rfl) ?_
    refine lv_if_lt (tgt := 9) hx hb dJ3_checkIndex_8e157_1 (by decide) (fun hc1 => ?_) (fun hc1 => ?_)
    · have hf := it_p hf hc1
      exact nn_x (show (none : Option (Int32)) = some _ from hf)
    · have hf := it_n hf hc1
      refine lv_iload_n hx hb dJ3_checkIndex_8e157_4 rfl (lv_at hl 0 rfl) ?_
      refine lv_iload_n hx hb dJ3_checkIndex_8e157_5 rfl (lv_at hl 1 rfl) ?_
      refine lv_icmp_lt (tgt := 16) hx hb dJ3_checkIndex_8e157_6 (by decide) (fun hc2 => ?_) (fun hc2 => ?_)
      · have hf := it_p hf hc2
        refine lv_iload_n hx hb dJ3_checkIndex_8e157_16 rfl (lv_at hl 0 rfl) ?_
        obtain rfl := Option.some.inj hf
        subst hQ
        exact ev_iret S hr hlocks hK hZ hM dJ3_checkIndex_8e157_17
      · have hf := it_n hf hc2
        exact nn_x (show (none : Option (Int32)) = some _ from hf)
noncomputable def fn_J0_checkIndex_df160 (x0 : Int32) (x1 : Int32) : Option (Unit) := Option.bind (fn_J3_checkIndex_8e157 x0 x1) (fun (r1 : Int32) => some ())
abbrev wz_J0_checkIndex_df160 : List Cond := Cond.code yJ0_checkIndex_df160 cJ0_checkIndex_df160 2 none :: WA
abbrev rm_J0_checkIndex_df160 : Room := { frames := 2, cells := 0, slots := 0, locals := 34 }
set_option maxHeartbeats 4000000 in
set_option maxRecDepth 100000 in
theorem c_J0_checkIndex_df160 (I : Nat → Nat → Int32) (P : Nat → Nat → Option Nat) (x0 : Int32) (x1 : Int32) (res : Unit) (hf : fn_J0_checkIndex_df160 x0 x1 = some res) : Met l yJ0_checkIndex_df160 wz_J0_checkIndex_df160 rm_J0_checkIndex_df160 (va_Pc [.int x0, .int x1] (mm_B D cs A L K N z w I P)) (va_Qv (fun (_ : Unit) => True) (fun _ => mm_B D cs A L K N z w I P) A) 0 0 A := by
  refine Met.ofW (cc := cJ0_checkIndex_df160) (maxL := 2) (ret := none) (by decide) rfl ?_
  intro p e s m args below meth c s₁ B hml hv
  obtain ⟨rfl, hBm⟩ := hv
  have hx := B.exec
  have hb := B.bytes
  have hr := B.returns
  have hts := atoms_spec (ws := wz_J0_checkIndex_df160) B.pre
  have hWA : ∀ w ∈ WA, w.before ([.int x0, .int x1] : List Value).toArray s = true := fun u9 h9 => hts u9 (List.mem_cons_of_mem _ h9)
  have hown : s.vm.findClass RJ0 = some m.cls := findClass_of_methodNamed B.named
  have hlocks := B.notSynchronized
  have S : CallFix p m c cJ0_checkIndex_df160 2 s ([.int x0, .int x1] : List Value).toArray wz_J0_checkIndex_df160 RJ0 := ⟨hx, hb, hml, hown, hts⟩
  have hK := hBm.2.2.2.1
  have hZ := hBm.2.2.2.2
  have hM : mm_W D cs A L K N s.heap I P s.heap [] := ⟨hBm.1, hBm.2.1, hBm.2.2.1, va_S.rf⟩
  have hl := lv_entry ([.int x0, .int x1]) (n := 2) (Nat.le_of_ble_eq_true rfl)
  rw [lg_entry_eq]
  generalize (lg_sl ([.int x0, .int x1]) ++ List.replicate (2 - (lg_sl ([.int x0, .int x1])).length) Slot.unset).toArray = ls at hl ⊢
  have hl : lv_has ls 2 [(0, .int x0), (1, .int x1)] := hl
  generalize hQ : MQ below (va_Qv (fun (_ : Unit) => True) (fun _ => mm_B D cs A L K N z w I P) A) ([.int x0, .int x1] : List Value).toArray s 0 0 A = QQ
  unfold fn_J0_checkIndex_df160 at hf
  refine lv_iload_n hx hb dJ0_checkIndex_df160_0 rfl (lv_at hl 0 rfl) ?_
  refine lv_iload_n hx hb dJ0_checkIndex_df160_1 rfl (lv_at hl 1 rfl) ?_
  refine ev_sio S hZ hM (hWA _ wa_3_12) dJ0_checkIndex_df160_2 ?_
  refine bd_e hf (fun r1 er1 hf => ?_)
  refine ev_calli (va_runS (As := [.int x0, .int x1, va_rf w]) (rest := []) S (c_J3_checkIndex_8e157 (l := l) I P x0 x1 r1 er1) (va_cwS 3 hts (gi_s wa_3_14 wa_3_15 wa_1_16 wa_3_16) rfl rfl rfl (by decide +kernel) ⟨Nat.le_of_ble_eq_true rfl, Nat.le_of_ble_eq_true rfl⟩) ⟨mm_B_blind, fun U hU hW => ⟨rfl, mm_B_of hK hZ hM hU hW⟩⟩ rfl rfl hl.1 rfl (lv_room (Nat.le_of_ble_eq_true rfl)) dJ0_checkIndex_df160_5 ⟨Nat.zero_le _, Nat.zero_le _⟩) hM (fun H locs hM => ?_)
  refine lv_pop hx hb dJ0_checkIndex_df160_8 rfl ?_
  subst hQ
  exact ev_vret S hr hlocks hK hZ hM dJ0_checkIndex_df160_9
noncomputable def fn_J1_charAt_3b067 (u0 : Nat) (x1 : Int32) : Option (Int32) := gd (u0 < 10) (Option.bind (fn_J0_checkIndex_df160 x1 (Int32.ofNat (mm_sl u0))) (fun (r2 : Unit) => gd (vp_in x1 (mm_sl u0)) (gd (narrow .char (.int (chn ((List.getD (mm_sb u0) (Int32.toNatClampNeg x1) 0) &&& (255 : Int32)))) = .int (chn ((List.getD (mm_sb u0) (Int32.toNatClampNeg x1) 0) &&& (255 : Int32)))) (some (chn ((List.getD (mm_sb u0) (Int32.toNatClampNeg x1) 0) &&& (255 : Int32)))))))
abbrev wz_J1_charAt_3b067 : List Cond := Cond.code yJ1_charAt_3b067 cJ1_charAt_3b067 2 (some .char) :: WA
abbrev rm_J1_charAt_3b067 : Room := { frames := 3, cells := 0, slots := 0, locals := 55 }
set_option maxHeartbeats 4000000 in
set_option maxRecDepth 100000 in
theorem c_J1_charAt_3b067 (I : Nat → Nat → Int32) (P : Nat → Nat → Option Nat) (u0 : Nat) (x1 : Int32) (res : Int32) (hf : fn_J1_charAt_3b067 u0 x1 = some res) : Met l yJ1_charAt_3b067 wz_J1_charAt_3b067 rm_J1_charAt_3b067 (va_Pc [.ref (z (20 + u0)), .int x1] (mm_B D cs A L K N z w I P)) (va_Qi (fun r (_ : Unit) => r = res) (fun _ => mm_B D cs A L K N z w I P) A) 0 0 A := by
  refine Met.ofW (cc := cJ1_charAt_3b067) (maxL := 2) (ret := (some .char)) (by decide) rfl ?_
  intro p e s m args below meth c s₁ B hml hv
  obtain ⟨rfl, hBm⟩ := hv
  have hx := B.exec
  have hb := B.bytes
  have hr := B.returns
  have hts := atoms_spec (ws := wz_J1_charAt_3b067) B.pre
  have hWA : ∀ w ∈ WA, w.before ([.ref (z (20 + u0)), .int x1] : List Value).toArray s = true := fun u9 h9 => hts u9 (List.mem_cons_of_mem _ h9)
  have hown : s.vm.findClass RJ1 = some m.cls := findClass_of_methodNamed B.named
  have hlocks := B.notSynchronized
  have S : CallFix p m c cJ1_charAt_3b067 2 s ([.ref (z (20 + u0)), .int x1] : List Value).toArray wz_J1_charAt_3b067 RJ1 := ⟨hx, hb, hml, hown, hts⟩
  have hK := hBm.2.2.2.1
  have hZ := hBm.2.2.2.2
  have hM : mm_W D cs A L K N s.heap I P s.heap [] := ⟨hBm.1, hBm.2.1, hBm.2.2.1, va_S.rf⟩
  have hl := lv_entry ([.ref (z (20 + u0)), .int x1]) (n := 2) (Nat.le_of_ble_eq_true rfl)
  rw [lg_entry_eq]
  generalize (lg_sl ([.ref (z (20 + u0)), .int x1]) ++ List.replicate (2 - (lg_sl ([.ref (z (20 + u0)), .int x1])).length) Slot.unset).toArray = ls at hl ⊢
  have hl : lv_has ls 2 [(0, .ref (z (20 + u0))), (1, .int x1)] := hl
  generalize hQ : MQ below (va_Qi (fun r (_ : Unit) => r = res) (fun _ => mm_B D cs A L K N z w I P) A) ([.ref (z (20 + u0)), .int x1] : List Value).toArray s 0 0 A = QQ
  unfold fn_J1_charAt_3b067 at hf
  refine lv_iload_n hx hb dJ1_charAt_3b067_0 rfl (lv_at hl 1 rfl) ?_
  refine lv_aload_n hx hb dJ1_charAt_3b067_1 rfl (lv_at hl 0 rfl) ?_
  refine gd_e hf (fun hg1 hf => ?_)
  refine ev_strl S hZ hM hg1 dJ1_charAt_3b067_2 ?_
  refine bd_e hf (fun r2 er2 hf => ?_)
  refine ev_callv (va_runS (As := [.int x1, .int (Int32.ofNat (mm_sl u0))]) (rest := []) S (c_J0_checkIndex_df160 (l := l) I P x1 (Int32.ofNat (mm_sl u0)) r2 er2) (va_cwS 2 hts (gi_s wa_3_9 wa_3_10 wa_1_14 wa_3_11) rfl rfl rfl (by decide +kernel) ⟨Nat.le_of_ble_eq_true rfl, Nat.le_of_ble_eq_true rfl⟩) ⟨mm_B_blind, fun U hU hW => ⟨rfl, mm_B_of hK hZ hM hU hW⟩⟩ rfl rfl hl.1 rfl (lv_room (Nat.le_of_ble_eq_true rfl)) dJ1_charAt_3b067_3 ⟨Nat.zero_le _, Nat.zero_le _⟩) hM (fun H locs hM => ?_)
  refine lv_aload_n hx hb dJ1_charAt_3b067_6 rfl (lv_at hl 0 rfl) ?_
  refine lv_iload_n hx hb dJ1_charAt_3b067_7 rfl (lv_at hl 1 rfl) ?_
  refine gd_e hf (fun hg3 hf => ?_)
  refine ev_strb S hZ hM hg1 hg3 dJ1_charAt_3b067_8 ?_
  refine lv_sipush (v := (255 : Int32)) hx hb dJ1_charAt_3b067_9 (by decide) ?_
  refine lv_iand hx hb dJ1_charAt_3b067_12 ?_
  refine lv_i2c (v := (chn ((List.getD (mm_sb u0) (Int32.toNatClampNeg x1) 0) &&& (255 : Int32)))) hx hb dJ1_charAt_3b067_13 rfl ?_
  refine gd_e hf (fun hg4 hf => ?_)
  obtain rfl := Option.some.inj hf
  subst hQ
  exact ev_zret (v := (chn ((List.getD (mm_sb u0) (Int32.toNatClampNeg x1) 0) &&& (255 : Int32)))) S hr hlocks hK hZ hM hg4 dJ1_charAt_3b067_14
noncomputable def fn_J0_charAt_5068e (w0 : Nat) (x1 : Int32) : Option (Int32) := Option.bind (fn_J0_isLatin1_aae02 w0) (fun (r1 : Int32) => gd (w0 < 10) (if r1 = 0 then (none) else (Option.bind (fn_J1_charAt_3b067 w0 x1) (fun (r4 : Int32) => gd (narrow .char (.int r4) = .int r4) (some r4)))))
abbrev wz_J0_charAt_5068e : List Cond := Cond.code yJ0_charAt_5068e cJ0_charAt_5068e 2 (some .char) :: WA
abbrev rm_J0_charAt_5068e : Room := { frames := 4, cells := 0, slots := 0, locals := 76 }
set_option maxHeartbeats 4000000 in
set_option maxRecDepth 100000 in
theorem c_J0_charAt_5068e (I : Nat → Nat → Int32) (P : Nat → Nat → Option Nat) (w0 : Nat) (x1 : Int32) (res : Int32) (hf : fn_J0_charAt_5068e w0 x1 = some res) : Met l yJ0_charAt_5068e wz_J0_charAt_5068e rm_J0_charAt_5068e (va_Pc [.ref (z (10 + w0)), .int x1] (mm_B D cs A L K N z w I P)) (va_Qi (fun r (_ : Unit) => r = res) (fun _ => mm_B D cs A L K N z w I P) A) 0 0 A := by
  refine Met.ofW (cc := cJ0_charAt_5068e) (maxL := 2) (ret := (some .char)) (by decide) rfl ?_
  intro p e s m args below meth c s₁ B hml hv
  obtain ⟨rfl, hBm⟩ := hv
  have hx := B.exec
  have hb := B.bytes
  have hr := B.returns
  have hts := atoms_spec (ws := wz_J0_charAt_5068e) B.pre
  have hWA : ∀ w ∈ WA, w.before ([.ref (z (10 + w0)), .int x1] : List Value).toArray s = true := fun u9 h9 => hts u9 (List.mem_cons_of_mem _ h9)
  have hown : s.vm.findClass RJ0 = some m.cls := findClass_of_methodNamed B.named
  have hlocks := B.notSynchronized
  have S : CallFix p m c cJ0_charAt_5068e 2 s ([.ref (z (10 + w0)), .int x1] : List Value).toArray wz_J0_charAt_5068e RJ0 := ⟨hx, hb, hml, hown, hts⟩
  have hK := hBm.2.2.2.1
  have hZ := hBm.2.2.2.2
  have hM : mm_W D cs A L K N s.heap I P s.heap [] := ⟨hBm.1, hBm.2.1, hBm.2.2.1, va_S.rf⟩
  have hl := lv_entry ([.ref (z (10 + w0)), .int x1]) (n := 2) (Nat.le_of_ble_eq_true rfl)
  rw [lg_entry_eq]
  generalize (lg_sl ([.ref (z (10 + w0)), .int x1]) ++ List.replicate (2 - (lg_sl ([.ref (z (10 + w0)), .int x1])).length) Slot.unset).toArray = ls at hl ⊢
  have hl : lv_has ls 2 [(0, .ref (z (10 + w0))), (1, .int x1)] := hl
  generalize hQ : MQ below (va_Qi (fun r (_ : Unit) => r = res) (fun _ => mm_B D cs A L K N z w I P) A) ([.ref (z (10 + w0)), .int x1] : List Value).toArray s 0 0 A = QQ
  unfold fn_J0_charAt_5068e at hf
  refine lv_aload_n hx hb dJ0_charAt_5068e_0 rfl (lv_at hl 0 rfl) ?_
  refine bd_e hf (fun r1 er1 hf => ?_)
  refine gd_e hf (fun hg2 hf => ?_)
  refine ev_calli (va_runV (As := []) (rest := []) S (c_J0_isLatin1_aae02 (l := l) I P w0 r1 er1) (cwV 0 hts (gi_v wa_3_2 wa_3_3 wa_3_4 wa_1_14 wa_3_5) rfl rfl rfl (by decide +kernel) ⟨Nat.le_of_ble_eq_true rfl, Nat.le_of_ble_eq_true rfl⟩) ⟨mm_B_blind, ev_recvT hZ hM hg2, fun U hU hW => ⟨rfl, mm_B_of hK hZ hM hU hW⟩⟩ rfl rfl hl.1 rfl (lv_room (Nat.le_of_ble_eq_true rfl)) dJ0_charAt_5068e_1 ⟨Nat.zero_le _, Nat.zero_le _⟩) hM (fun H locs hM => ?_)
  refine lv_if_eq (tgt := 16) hx hb dJ0_charAt_5068e_4 (by decide) (fun hc3 => ?_) (fun hc3 => ?_)
  · have hf := it_p hf hc3
    refine lv_aload_n hx hb dJ0_charAt_5068e_16 rfl (lv_at hl 0 rfl) ?_
    refine ev_strv S hZ hM hg2 (hWA _ wa_6_58) dJ0_charAt_5068e_17 ?_
    refine lv_iload_n hx hb dJ0_charAt_5068e_20 rfl (lv_at hl 1 rfl) ?_
    exact nn_x (show (none : Option (Int32)) = some _ from hf)
  · have hf := it_n hf hc3
    refine lv_aload_n hx hb dJ0_charAt_5068e_7 rfl (lv_at hl 0 rfl) ?_
    refine ev_strv S hZ hM hg2 (hWA _ wa_6_58) dJ0_charAt_5068e_8 ?_
    refine lv_iload_n hx hb dJ0_charAt_5068e_11 rfl (lv_at hl 1 rfl) ?_
    refine bd_e hf (fun r4 er4 hf => ?_)
    refine ev_calli (va_runS (As := [.ref (z (20 + w0)), .int x1]) (rest := []) S (c_J1_charAt_3b067 (l := l) I P w0 x1 r4 er4) (va_cwS 2 hts (gi_s wa_3_6 wa_3_7 wa_1_15 wa_3_8) rfl rfl rfl (by decide +kernel) ⟨Nat.le_of_ble_eq_true rfl, Nat.le_of_ble_eq_true rfl⟩) ⟨mm_B_blind, fun U hU hW => ⟨rfl, mm_B_of hK hZ hM hU hW⟩⟩ rfl rfl hl.1 rfl (lv_room (Nat.le_of_ble_eq_true rfl)) dJ0_charAt_5068e_12 ⟨Nat.zero_le _, Nat.zero_le _⟩) hM (fun H locs hM => ?_)
    refine gd_e hf (fun hg5 hf => ?_)
    obtain rfl := Option.some.inj hf
    subst hQ
    exact ev_zret (v := r4) S hr hlocks hK hZ hM hg5 dJ0_charAt_5068e_15
noncomputable def fn_J7_fill_53178_L5 (K : Nat → Nat) (N : Nat → Nat) (a0 : Nat) (x1 : Int32) (v2 : Int32) : Nat → Int32 → (Nat → Nat → Int32) → Option ((Nat → Nat → Int32))
  | 0, _, _ => none
  | n + 1, v3, I4 => if v2 ≤ v3 then (some I4) else (gd (K a0 = 12 ∧ vp_in v3 (N a0)) (Option.bind (some (up2 I4 a0 (v3.toNatClampNeg) x1)) (fun I8 => fn_J7_fill_53178_L5 K N a0 x1 v2 n (v3 + (1 : Int32)) I8)))
noncomputable def fn_J7_fill_53178 (K N : Nat → Nat) (I : Nat → Nat → Int32) (P : Nat → Nat → Option Nat) (a0 : Nat) (x1 : Int32) : Option ((Nat → Nat → Int32)) := gd (K a0 = 12) (Option.bind (some (Int32.ofNat (N a0))) (fun v2 => Option.bind (fn_J7_fill_53178_L5 K N a0 x1 v2 FU (0 : Int32) I) (fun (r5 : (Nat → Nat → Int32)) => some r5)))
abbrev wz_J7_fill_53178 : List Cond := Cond.code yJ7_fill_53178 cJ7_fill_53178 4 none :: WA
abbrev rm_J7_fill_53178 : Room := { frames := 1, cells := 0, slots := 0, locals := 12 }
set_option maxHeartbeats 4000000 in
set_option maxRecDepth 100000 in
theorem c_J7_fill_53178 (I : Nat → Nat → Int32) (P : Nat → Nat → Option Nat) (a0 : Nat) (x1 : Int32) (res : (Nat → Nat → Int32)) (hf : fn_J7_fill_53178 K N I P a0 x1 = some res) : Met l yJ7_fill_53178 wz_J7_fill_53178 rm_J7_fill_53178 (va_Pc [.ref a0, .int x1] (mm_B D cs A L K N z w I P)) (va_Qv (fun (_ : Unit) => True) (fun _ => mm_B D cs A L K N z w res P) A) 0 0 A := by
  refine Met.ofW (cc := cJ7_fill_53178) (maxL := 4) (ret := none) (by decide) rfl ?_
  intro p e s m args below meth c s₁ B hml hv
  obtain ⟨rfl, hBm⟩ := hv
  have hx := B.exec
  have hb := B.bytes
  have hr := B.returns
  have hts := atoms_spec (ws := wz_J7_fill_53178) B.pre
  have hWA : ∀ w ∈ WA, w.before ([.ref a0, .int x1] : List Value).toArray s = true := fun u9 h9 => hts u9 (List.mem_cons_of_mem _ h9)
  have hown : s.vm.findClass RJ7 = some m.cls := findClass_of_methodNamed B.named
  have hlocks := B.notSynchronized
  have S : CallFix p m c cJ7_fill_53178 4 s ([.ref a0, .int x1] : List Value).toArray wz_J7_fill_53178 RJ7 := ⟨hx, hb, hml, hown, hts⟩
  have hK := hBm.2.2.2.1
  have hZ := hBm.2.2.2.2
  have hM : mm_W D cs A L K N s.heap I P s.heap [] := ⟨hBm.1, hBm.2.1, hBm.2.2.1, va_S.rf⟩
  have hl := lv_entry ([.ref a0, .int x1]) (n := 4) (Nat.le_of_ble_eq_true rfl)
  rw [lg_entry_eq]
  generalize (lg_sl ([.ref a0, .int x1]) ++ List.replicate (4 - (lg_sl ([.ref a0, .int x1])).length) Slot.unset).toArray = ls at hl ⊢
  have hl : lv_has ls 4 [(0, .ref a0), (1, .int x1)] := hl
  generalize hQ : MQ below (va_Qv (fun (_ : Unit) => True) (fun _ => mm_B D cs A L K N z w res P) A) ([.ref a0, .int x1] : List Value).toArray s 0 0 A = QQ
  rw [fn_J7_fill_53178] at hf
  refine lv_iconst (v := (0 : Int32)) hx hb dJ7_fill_53178_0 (by decide) ?_
  refine lv_istore_n (lv' := [(2, .int (0 : Int32)), (0, .ref a0), (1, .int x1)]) hx hb dJ7_fill_53178_1 rfl hl (by decide) rfl (fun ls hl => ?_)
  refine lv_aload_n hx hb dJ7_fill_53178_2 rfl (lv_at hl 1 rfl) ?_
  refine gd_e hf (fun hg1 hf => ?_)
  refine ev_alen S hK hM hg1 dJ7_fill_53178_3 ?_
  refine lv_topi (fun v2 ev2 => ?_)
  have hf := nm_x ev2 hf
  refine lv_istore_n (lv' := [(3, .int v2), (2, .int (0 : Int32)), (0, .ref a0), (1, .int x1)]) hx hb dJ7_fill_53178_4 rfl hl (by decide) rfl (fun ls hl => ?_)
  have lp5_8 : ∀ (n : Nat) (v3 : Int32) (I4 : Nat → Nat → Int32) (H : Heap) (locs : List Loc) (ls : Array Slot) (r5 : (Nat → Nat → Int32)), mm_W D cs A L K N s.heap I4 P H locs → lv_has ls 4 [(0, .ref a0), (1, .int x1), (2, .int v3), (3, .int v2)] → fn_J7_fill_53178_L5 K N a0 x1 v2 n v3 I4 = some r5 → (∀ (H : Heap) (locs : List Loc) (ls : Array Slot), mm_W D cs A L K N s.heap r5 P H locs → lv_has ls 4 [] → W p l e (headSpec wz_J7_fill_53178 rm_J7_fill_53178).room s m ([.ref a0, .int x1] : List Value).toArray below meth c H locs 0 0 QQ (F0 m 20 ls [])) → W p l e (headSpec wz_J7_fill_53178 rm_J7_fill_53178).room s m ([.ref a0, .int x1] : List Value).toArray below meth c H locs 0 0 QQ (F0 m 5 ls []) := by
    intro n
    induction n with
    | zero => intro v3 I4 H locs ls r5 hM hl hf kk; exact nn_x (show (none : Option ((Nat → Nat → Int32))) = some r5 from hf)
    | succ n ih =>
      intro v3 I4 H locs ls r5 hM hl hf kk
      rw [fn_J7_fill_53178_L5] at hf
      refine lv_iload_n hx hb dJ7_fill_53178_5 rfl (lv_at hl 2 rfl) ?_
      refine lv_iload_n hx hb dJ7_fill_53178_6 rfl (lv_at hl 3 rfl) ?_
      refine lv_icmp_ge (tgt := 20) hx hb dJ7_fill_53178_7 (by decide) (fun hc6 => ?_) (fun hc6 => ?_)
      · have hf := it_p hf hc6
        obtain rfl := Option.some.inj hf
        exact kk _ _ _ hM (lv_sub hl [] rfl)
      · have hf := it_n hf hc6
        refine lv_aload_n hx hb dJ7_fill_53178_10 rfl (lv_at hl 0 rfl) ?_
        refine lv_iload_n hx hb dJ7_fill_53178_11 rfl (lv_at hl 2 rfl) ?_
        refine lv_iload_n hx hb dJ7_fill_53178_12 rfl (lv_at hl 1 rfl) ?_
        refine gd_e hf (fun hg7 hf => ?_)
        refine ev_iast S hK hM hg7 (j := v3.toNatClampNeg) rfl dJ7_fill_53178_13 (fun I8 eI8 H locs hM => ?_)
        have hf := nm_x eI8 hf
        refine lv_iinc (v := (v3 + (1 : Int32))) (lv' := [(2, .int (v3 + (1 : Int32))), (0, .ref a0), (1, .int x1), (3, .int v2)]) hx hb dJ7_fill_53178_14 hl (k := 2) rfl rfl (by decide) rfl (fun ls hl => ?_)
        refine lv_goto (tgt := 5) hx hb dJ7_fill_53178_17 (by decide) ?_
        exact ih (v3 + (1 : Int32)) I8 _ _ _ _ hM (lv_sub hl [1, 2, 0, 3] rfl) hf kk
  refine bd_e hf (fun r5 er5 hf => ?_)
  refine lp5_8 FU (0 : Int32) I _ _ _ r5 hM (lv_sub hl [2, 3, 1, 0] rfl) er5 (fun H locs ls hM hl => ?_)
  obtain rfl := Option.some.inj hf
  subst hQ
  exact ev_vret S hr hlocks hK hZ hM dJ7_fill_53178_20
noncomputable def fn_X0_note (K N : Nat → Nat) (I : Nat → Nat → Int32) (P : Nat → Nat → Option Nat) (a0 : Nat) (x1 : Int32) (a2 : Nat) : Option ((Nat → Nat → Int32)) := gd (K a0 = 1) (Option.bind (some (up2 I a0 0 x1)) (fun I2 => gd (K a2 = 5) (Option.bind (P a2 (0)) (fun q4 => Option.bind (P a0 (2)) (fun q5 => gd (cpg K N q4 (0 : Int32) q5 (0 : Int32) (192 : Int32)) (Option.bind (some (cp2 I2 q4 (0) q5 (0) (192))) (fun I7 => Option.bind (P a2 (1)) (fun q8 => Option.bind (P a0 (3)) (fun q9 => gd (cpg K N q8 (0 : Int32) q9 (0 : Int32) (192 : Int32)) (Option.bind (some (cp2 I7 q8 (0) q9 (0) (192))) (fun I11 => some I11)))))))))))
abbrev wz_X0_note : List Cond := Cond.code yX0_note cX0_note 3 none :: WA
abbrev rm_X0_note : Room := { frames := 2, cells := 0, slots := 0, locals := 60 }
set_option maxHeartbeats 4000000 in
set_option maxRecDepth 100000 in
theorem c_X0_note (I : Nat → Nat → Int32) (P : Nat → Nat → Option Nat) (a0 : Nat) (x1 : Int32) (a2 : Nat) (res : (Nat → Nat → Int32)) (hf : fn_X0_note K N I P a0 x1 a2 = some res) : Met l yX0_note wz_X0_note rm_X0_note (va_Pc [.ref a0, .int x1, .ref a2] (mm_B D cs A L K N z w I P)) (va_Qv (fun (_ : Unit) => True) (fun _ => mm_B D cs A L K N z w res P) A) 0 0 A := by
  refine Met.ofW (cc := cX0_note) (maxL := 3) (ret := none) (by decide) rfl ?_
  intro p e s m args below meth c s₁ B hml hv
  obtain ⟨rfl, hBm⟩ := hv
  have hx := B.exec
  have hb := B.bytes
  have hr := B.returns
  have hts := atoms_spec (ws := wz_X0_note) B.pre
  have hWA : ∀ w ∈ WA, w.before ([.ref a0, .int x1, .ref a2] : List Value).toArray s = true := fun u9 h9 => hts u9 (List.mem_cons_of_mem _ h9)
  have hown : s.vm.findClass RX0 = some m.cls := findClass_of_methodNamed B.named
  have hlocks := B.notSynchronized
  have S : CallFix p m c cX0_note 3 s ([.ref a0, .int x1, .ref a2] : List Value).toArray wz_X0_note RX0 := ⟨hx, hb, hml, hown, hts⟩
  have hK := hBm.2.2.2.1
  have hZ := hBm.2.2.2.2
  have hM : mm_W D cs A L K N s.heap I P s.heap [] := ⟨hBm.1, hBm.2.1, hBm.2.2.1, va_S.rf⟩
  have hl := lv_entry ([.ref a0, .int x1, .ref a2]) (n := 3) (Nat.le_of_ble_eq_true rfl)
  rw [lg_entry_eq]
  generalize (lg_sl ([.ref a0, .int x1, .ref a2]) ++ List.replicate (3 - (lg_sl ([.ref a0, .int x1, .ref a2])).length) Slot.unset).toArray = ls at hl ⊢
  have hl : lv_has ls 3 [(0, .ref a0), (1, .int x1), (2, .ref a2)] := hl
  have hin0 : ∀ w ∈ wsX00, w ∈ wz_X0_note := fun w h => List.mem_cons_of_mem _ (wu_X0 w h)
  have hin4 : ∀ w ∈ wsX40, w ∈ wz_X0_note := fun w h => List.mem_cons_of_mem _ (wu_X4 w h)
  have lk18 : (Cond.fieldLink RX0 18 RX0 "layer" "I").before ([.ref a0, .int x1, .ref a2] : List Value).toArray s = true := hWA _ wa_1_93
  have lk22 : (Cond.fieldLink RX0 22 RX4 "inks" "[I").before ([.ref a0, .int x1, .ref a2] : List Value).toArray s = true := hWA _ wa_1_127
  have lk9 : (Cond.fieldLink RX0 9 RX0 "inks" "[I").before ([.ref a0, .int x1, .ref a2] : List Value).toArray s = true := hWA _ wa_1_97
  have lk31 : (Cond.fieldLink RX0 31 RX4 "covers" "[I").before ([.ref a0, .int x1, .ref a2] : List Value).toArray s = true := hWA _ wa_1_131
  have lk15 : (Cond.fieldLink RX0 15 RX0 "covers" "[I").before ([.ref a0, .int x1, .ref a2] : List Value).toArray s = true := hWA _ wa_1_98
  generalize hQ : MQ below (va_Qv (fun (_ : Unit) => True) (fun _ => mm_B D cs A L K N z w res P) A) ([.ref a0, .int x1, .ref a2] : List Value).toArray s 0 0 A = QQ
  rw [fn_X0_note] at hf
  refine lv_aload_n hx hb dX0_note_0 rfl (lv_at hl 0 rfl) ?_
  refine lv_iload_n hx hb dX0_note_1 rfl (lv_at hl 1 rfl) ?_
  refine gd_e hf (fun hg1 hf => ?_)
  refine ev_put S hK hM (ci := 0) (n := 4) (C := RX0) (T := TX0) hin0 tyX0 tyX0_ok nmX0 rfl hg1 0 (by decide) lk18 rfl rfl rfl rfl rfl (Nat.le_of_ble_eq_true rfl) rfl dX0_note_2 (fun I2 eI2 H locs hM => ?_)
  have hf := nm_x eI2 hf
  refine lv_aload_n hx hb dX0_note_5 rfl (lv_at hl 2 rfl) ?_
  refine gd_e hf (fun hg3 hf => ?_)
  refine bd_e hf (fun q4 eq4 hf => ?_)
  refine ev_getP (v := q4) S hK hM (ci := 4) (n := 5) (C := RX4) (T := TX4) hin4 rfl hg3 0 (by decide) lk22 rfl rfl eq4 rfl dX0_note_6 ?_
  refine lv_iconst (v := (0 : Int32)) hx hb dX0_note_9 (by decide) ?_
  refine lv_aload_n hx hb dX0_note_10 rfl (lv_at hl 0 rfl) ?_
  refine bd_e hf (fun q5 eq5 hf => ?_)
  refine ev_getP (v := q5) S hK hM (ci := 0) (n := 4) (C := RX0) (T := TX0) hin0 rfl hg1 2 (by decide) lk9 rfl rfl eq5 rfl dX0_note_11 ?_
  refine lv_iconst (v := (0 : Int32)) hx hb dX0_note_14 (by decide) ?_
  refine lv_sipush (v := (192 : Int32)) hx hb dX0_note_15 (by decide) ?_
  refine gd_e hf (fun hg6 hf => ?_)
  refine ev_copy S hl.1.symm hK hM (hWA _ wa_3_73) (hWA _ wa_3_75) (hWA _ wa_3_74) (hWA _ wa_1_18) hg6 (j1 := 0) (j2 := 0) (j3 := 192) rfl rfl rfl (Nat.le_of_ble_eq_true rfl) (Nat.le_of_ble_eq_true rfl) dX0_note_18 (fun I7 eI7 H locs hM => ?_)
  have hf := nm_x eI7 hf
  refine lv_aload_n hx hb dX0_note_21 rfl (lv_at hl 2 rfl) ?_
  refine bd_e hf (fun q8 eq8 hf => ?_)
  refine ev_getP (v := q8) S hK hM (ci := 4) (n := 5) (C := RX4) (T := TX4) hin4 rfl hg3 1 (by decide) lk31 rfl rfl eq8 rfl dX0_note_22 ?_
  refine lv_iconst (v := (0 : Int32)) hx hb dX0_note_25 (by decide) ?_
  refine lv_aload_n hx hb dX0_note_26 rfl (lv_at hl 0 rfl) ?_
  refine bd_e hf (fun q9 eq9 hf => ?_)
  refine ev_getP (v := q9) S hK hM (ci := 0) (n := 4) (C := RX0) (T := TX0) hin0 rfl hg1 3 (by decide) lk15 rfl rfl eq9 rfl dX0_note_27 ?_
  refine lv_iconst (v := (0 : Int32)) hx hb dX0_note_30 (by decide) ?_
  refine lv_sipush (v := (192 : Int32)) hx hb dX0_note_31 (by decide) ?_
  refine gd_e hf (fun hg10 hf => ?_)
  refine ev_copy S hl.1.symm hK hM (hWA _ wa_3_73) (hWA _ wa_3_75) (hWA _ wa_3_74) (hWA _ wa_1_18) hg10 (j1 := 0) (j2 := 0) (j3 := 192) rfl rfl rfl (Nat.le_of_ble_eq_true rfl) (Nat.le_of_ble_eq_true rfl) dX0_note_34 (fun I11 eI11 H locs hM => ?_)
  have hf := nm_x eI11 hf
  obtain rfl := Option.some.inj hf
  subst hQ
  exact ev_vret S hr hlocks hK hZ hM dX0_note_37
noncomputable def fn_X0_become (K N : Nat → Nat) (I : Nat → Nat → Int32) (P : Nat → Nat → Option Nat) (a0 : Nat) (a1 : Nat) : Option ((Nat → Nat → Int32)) := gd (K a1 = 1) (gd (K a0 = 1) (Option.bind (some (up2 I a0 0 (I a1 0))) (fun I3 => Option.bind (some (up2 I3 a0 1 (I3 a1 1))) (fun I4 => Option.bind (P a1 (2)) (fun q5 => Option.bind (P a0 (2)) (fun q6 => gd (cpg K N q5 (0 : Int32) q6 (0 : Int32) (192 : Int32)) (Option.bind (some (cp2 I4 q5 (0) q6 (0) (192))) (fun I8 => Option.bind (P a1 (3)) (fun q9 => Option.bind (P a0 (3)) (fun q10 => gd (cpg K N q9 (0 : Int32) q10 (0 : Int32) (192 : Int32)) (Option.bind (some (cp2 I8 q9 (0) q10 (0) (192))) (fun I12 => some I12))))))))))))
abbrev wz_X0_become : List Cond := Cond.code yX0_become cX0_become 2 none :: WA
abbrev rm_X0_become : Room := { frames := 2, cells := 0, slots := 0, locals := 60 }
set_option maxHeartbeats 4000000 in
set_option maxRecDepth 100000 in
theorem c_X0_become (I : Nat → Nat → Int32) (P : Nat → Nat → Option Nat) (a0 : Nat) (a1 : Nat) (res : (Nat → Nat → Int32)) (hf : fn_X0_become K N I P a0 a1 = some res) : Met l yX0_become wz_X0_become rm_X0_become (va_Pc [.ref a0, .ref a1] (mm_B D cs A L K N z w I P)) (va_Qv (fun (_ : Unit) => True) (fun _ => mm_B D cs A L K N z w res P) A) 0 0 A := by
  refine Met.ofW (cc := cX0_become) (maxL := 2) (ret := none) (by decide) rfl ?_
  intro p e s m args below meth c s₁ B hml hv
  obtain ⟨rfl, hBm⟩ := hv
  have hx := B.exec
  have hb := B.bytes
  have hr := B.returns
  have hts := atoms_spec (ws := wz_X0_become) B.pre
  have hWA : ∀ w ∈ WA, w.before ([.ref a0, .ref a1] : List Value).toArray s = true := fun u9 h9 => hts u9 (List.mem_cons_of_mem _ h9)
  have hown : s.vm.findClass RX0 = some m.cls := findClass_of_methodNamed B.named
  have hlocks := B.notSynchronized
  have S : CallFix p m c cX0_become 2 s ([.ref a0, .ref a1] : List Value).toArray wz_X0_become RX0 := ⟨hx, hb, hml, hown, hts⟩
  have hK := hBm.2.2.2.1
  have hZ := hBm.2.2.2.2
  have hM : mm_W D cs A L K N s.heap I P s.heap [] := ⟨hBm.1, hBm.2.1, hBm.2.2.1, va_S.rf⟩
  have hl := lv_entry ([.ref a0, .ref a1]) (n := 2) (Nat.le_of_ble_eq_true rfl)
  rw [lg_entry_eq]
  generalize (lg_sl ([.ref a0, .ref a1]) ++ List.replicate (2 - (lg_sl ([.ref a0, .ref a1])).length) Slot.unset).toArray = ls at hl ⊢
  have hl : lv_has ls 2 [(0, .ref a0), (1, .ref a1)] := hl
  have hin0 : ∀ w ∈ wsX00, w ∈ wz_X0_become := fun w h => List.mem_cons_of_mem _ (wu_X0 w h)
  have lk18 : (Cond.fieldLink RX0 18 RX0 "layer" "I").before ([.ref a0, .ref a1] : List Value).toArray s = true := hWA _ wa_1_93
  have lk32 : (Cond.fieldLink RX0 32 RX0 "tiles" "I").before ([.ref a0, .ref a1] : List Value).toArray s = true := hWA _ wa_1_95
  have lk9 : (Cond.fieldLink RX0 9 RX0 "inks" "[I").before ([.ref a0, .ref a1] : List Value).toArray s = true := hWA _ wa_1_97
  have lk15 : (Cond.fieldLink RX0 15 RX0 "covers" "[I").before ([.ref a0, .ref a1] : List Value).toArray s = true := hWA _ wa_1_98
  generalize hQ : MQ below (va_Qv (fun (_ : Unit) => True) (fun _ => mm_B D cs A L K N z w res P) A) ([.ref a0, .ref a1] : List Value).toArray s 0 0 A = QQ
  rw [fn_X0_become] at hf
  refine lv_aload_n hx hb dX0_become_0 rfl (lv_at hl 0 rfl) ?_
  refine lv_aload_n hx hb dX0_become_1 rfl (lv_at hl 1 rfl) ?_
  refine gd_e hf (fun hg1 hf => ?_)
  refine ev_get (v := .int (I a1 0)) S hK hM (ci := 0) (n := 4) (C := RX0) (T := TX0) hin0 rfl hg1 0 (by decide) lk18 rfl rfl rfl dX0_become_2 ?_
  refine gd_e hf (fun hg2 hf => ?_)
  refine ev_put S hK hM (ci := 0) (n := 4) (C := RX0) (T := TX0) hin0 tyX0 tyX0_ok nmX0 rfl hg2 0 (by decide) lk18 rfl rfl rfl rfl rfl (Nat.le_of_ble_eq_true rfl) rfl dX0_become_5 (fun I3 eI3 H locs hM => ?_)
  have hf := nm_x eI3 hf
  refine lv_aload_n hx hb dX0_become_8 rfl (lv_at hl 0 rfl) ?_
  refine lv_aload_n hx hb dX0_become_9 rfl (lv_at hl 1 rfl) ?_
  refine ev_get (v := .int (I3 a1 1)) S hK hM (ci := 0) (n := 4) (C := RX0) (T := TX0) hin0 rfl hg1 1 (by decide) lk32 rfl rfl rfl dX0_become_10 ?_
  refine ev_put S hK hM (ci := 0) (n := 4) (C := RX0) (T := TX0) hin0 tyX0 tyX0_ok nmX0 rfl hg2 1 (by decide) lk32 rfl rfl rfl rfl rfl (Nat.le_of_ble_eq_true rfl) rfl dX0_become_13 (fun I4 eI4 H locs hM => ?_)
  have hf := nm_x eI4 hf
  refine lv_aload_n hx hb dX0_become_16 rfl (lv_at hl 1 rfl) ?_
  refine bd_e hf (fun q5 eq5 hf => ?_)
  refine ev_getP (v := q5) S hK hM (ci := 0) (n := 4) (C := RX0) (T := TX0) hin0 rfl hg1 2 (by decide) lk9 rfl rfl eq5 rfl dX0_become_17 ?_
  refine lv_iconst (v := (0 : Int32)) hx hb dX0_become_20 (by decide) ?_
  refine lv_aload_n hx hb dX0_become_21 rfl (lv_at hl 0 rfl) ?_
  refine bd_e hf (fun q6 eq6 hf => ?_)
  refine ev_getP (v := q6) S hK hM (ci := 0) (n := 4) (C := RX0) (T := TX0) hin0 rfl hg2 2 (by decide) lk9 rfl rfl eq6 rfl dX0_become_22 ?_
  refine lv_iconst (v := (0 : Int32)) hx hb dX0_become_25 (by decide) ?_
  refine lv_sipush (v := (192 : Int32)) hx hb dX0_become_26 (by decide) ?_
  refine gd_e hf (fun hg7 hf => ?_)
  refine ev_copy S hl.1.symm hK hM (hWA _ wa_3_73) (hWA _ wa_3_75) (hWA _ wa_3_74) (hWA _ wa_1_18) hg7 (j1 := 0) (j2 := 0) (j3 := 192) rfl rfl rfl (Nat.le_of_ble_eq_true rfl) (Nat.le_of_ble_eq_true rfl) dX0_become_29 (fun I8 eI8 H locs hM => ?_)
  have hf := nm_x eI8 hf
  refine lv_aload_n hx hb dX0_become_32 rfl (lv_at hl 1 rfl) ?_
  refine bd_e hf (fun q9 eq9 hf => ?_)
  refine ev_getP (v := q9) S hK hM (ci := 0) (n := 4) (C := RX0) (T := TX0) hin0 rfl hg1 3 (by decide) lk15 rfl rfl eq9 rfl dX0_become_33 ?_
  refine lv_iconst (v := (0 : Int32)) hx hb dX0_become_36 (by decide) ?_
  refine lv_aload_n hx hb dX0_become_37 rfl (lv_at hl 0 rfl) ?_
  refine bd_e hf (fun q10 eq10 hf => ?_)
  refine ev_getP (v := q10) S hK hM (ci := 0) (n := 4) (C := RX0) (T := TX0) hin0 rfl hg2 3 (by decide) lk15 rfl rfl eq10 rfl dX0_become_38 ?_
  refine lv_iconst (v := (0 : Int32)) hx hb dX0_become_41 (by decide) ?_
  refine lv_sipush (v := (192 : Int32)) hx hb dX0_become_42 (by decide) ?_
  refine gd_e hf (fun hg11 hf => ?_)
  refine ev_copy S hl.1.symm hK hM (hWA _ wa_3_73) (hWA _ wa_3_75) (hWA _ wa_3_74) (hWA _ wa_1_18) hg11 (j1 := 0) (j2 := 0) (j3 := 192) rfl rfl rfl (Nat.le_of_ble_eq_true rfl) (Nat.le_of_ble_eq_true rfl) dX0_become_45 (fun I12 eI12 H locs hM => ?_)
  have hf := nm_x eI12 hf
  obtain rfl := Option.some.inj hf
  subst hQ
  exact ev_vret S hr hlocks hK hZ hM dX0_become_48
noncomputable def fn_X0_tileBit (x0 : Int32) : Option (Int32) := Option.bind (some ((x0 - x0 / (16 : Int32) * (16 : Int32)) / (4 : Int32))) (fun v1 => Option.bind (some ((x0 / (16 : Int32)) / (4 : Int32))) (fun v2 => some ((1 : Int32) <<< (((v2 * (4 : Int32)) + v1) &&& 31))))
abbrev wz_X0_tileBit : List Cond := Cond.code yX0_tileBit cX0_tileBit 3 (some .int) :: WA
abbrev rm_X0_tileBit : Room := { frames := 1, cells := 0, slots := 0, locals := 12 }
set_option maxHeartbeats 4000000 in
set_option maxRecDepth 100000 in
theorem c_X0_tileBit (I : Nat → Nat → Int32) (P : Nat → Nat → Option Nat) (x0 : Int32) (res : Int32) (hf : fn_X0_tileBit x0 = some res) : Met l yX0_tileBit wz_X0_tileBit rm_X0_tileBit (va_Pc [.int x0] (mm_B D cs A L K N z w I P)) (va_Qi (fun r (_ : Unit) => r = res) (fun _ => mm_B D cs A L K N z w I P) A) 0 0 A := by
  refine Met.ofW (cc := cX0_tileBit) (maxL := 3) (ret := (some .int)) (by decide) rfl ?_
  intro p e s m args below meth c s₁ B hml hv
  obtain ⟨rfl, hBm⟩ := hv
  have hx := B.exec
  have hb := B.bytes
  have hr := B.returns
  have hts := atoms_spec (ws := wz_X0_tileBit) B.pre
  have hWA : ∀ w ∈ WA, w.before ([.int x0] : List Value).toArray s = true := fun u9 h9 => hts u9 (List.mem_cons_of_mem _ h9)
  have hown : s.vm.findClass RX0 = some m.cls := findClass_of_methodNamed B.named
  have hlocks := B.notSynchronized
  have S : CallFix p m c cX0_tileBit 3 s ([.int x0] : List Value).toArray wz_X0_tileBit RX0 := ⟨hx, hb, hml, hown, hts⟩
  have hK := hBm.2.2.2.1
  have hZ := hBm.2.2.2.2
  have hM : mm_W D cs A L K N s.heap I P s.heap [] := ⟨hBm.1, hBm.2.1, hBm.2.2.1, va_S.rf⟩
  have hl := lv_entry ([.int x0]) (n := 3) (Nat.le_of_ble_eq_true rfl)
  rw [lg_entry_eq]
  generalize (lg_sl ([.int x0]) ++ List.replicate (3 - (lg_sl ([.int x0])).length) Slot.unset).toArray = ls at hl ⊢
  have hl : lv_has ls 3 [(0, .int x0)] := hl
  generalize hQ : MQ below (va_Qi (fun r (_ : Unit) => r = res) (fun _ => mm_B D cs A L K N z w I P) A) ([.int x0] : List Value).toArray s 0 0 A = QQ
  unfold fn_X0_tileBit at hf
  refine lv_iload_n hx hb dX0_tileBit_0 rfl (lv_at hl 0 rfl) ?_
  refine lv_bipush (v := (16 : Int32)) hx hb dX0_tileBit_1 (by decide) ?_
  refine lv_irem hx hb dX0_tileBit_3 (by decide) ?_
  refine lv_iconst (v := (4 : Int32)) hx hb dX0_tileBit_4 (by decide) ?_
  refine lv_idiv hx hb dX0_tileBit_5 (by decide) ?_
  refine lv_topi (fun v1 ev1 => ?_)
  have hf := nm_x ev1 hf
  refine lv_istore_n (lv' := [(1, .int v1), (0, .int x0)]) hx hb dX0_tileBit_6 rfl hl (by decide) rfl (fun ls hl => ?_)
  refine lv_iload_n hx hb dX0_tileBit_7 rfl (lv_at hl 1 rfl) ?_
  refine lv_bipush (v := (16 : Int32)) hx hb dX0_tileBit_8 (by decide) ?_
  refine lv_idiv hx hb dX0_tileBit_10 (by decide) ?_
  refine lv_iconst (v := (4 : Int32)) hx hb dX0_tileBit_11 (by decide) ?_
  refine lv_idiv hx hb dX0_tileBit_12 (by decide) ?_
  refine lv_topi (fun v2 ev2 => ?_)
  have hf := nm_x ev2 hf
  refine lv_istore_n (lv' := [(2, .int v2), (1, .int v1), (0, .int x0)]) hx hb dX0_tileBit_13 rfl hl (by decide) rfl (fun ls hl => ?_)
  refine lv_iconst (v := (1 : Int32)) hx hb dX0_tileBit_14 (by decide) ?_
  refine lv_iload_n hx hb dX0_tileBit_15 rfl (lv_at hl 0 rfl) ?_
  refine lv_iconst (v := (4 : Int32)) hx hb dX0_tileBit_16 (by decide) ?_
  refine lv_imul hx hb dX0_tileBit_17 ?_
  refine lv_iload_n hx hb dX0_tileBit_18 rfl (lv_at hl 1 rfl) ?_
  refine lv_iadd hx hb dX0_tileBit_19 ?_
  refine lv_ishl hx hb dX0_tileBit_20 ?_
  obtain rfl := Option.some.inj hf
  subst hQ
  exact ev_iret S hr hlocks hK hZ hM dX0_tileBit_21
noncomputable def fn_X0_findTiles_L7 (K : Nat → Nat) (N : Nat → Nat) (a0 : Nat) (a1 : Nat) (P : Nat → Nat → Option Nat) : Nat → Int32 → (Nat → Nat → Int32) → Option ((Nat → Nat → Int32))
  | 0, _, _ => none
  | n + 1, v3, I4 => if (192 : Int32) ≤ v3 then (some I4) else (Option.bind (P a0 (2)) (fun q7 => gd (K q7 = 12 ∧ vp_in v3 (N q7)) (gd (K a1 = 5) (Option.bind (P a1 (0)) (fun q10 => gd (K q10 = 12 ∧ vp_in v3 (N q10)) (if (I4 q7 (v3.toNatClampNeg)) = (I4 q10 (v3.toNatClampNeg)) then (Option.bind (P a0 (3)) (fun q15 => gd (K q15 = 12 ∧ vp_in v3 (N q15)) (Option.bind (P a1 (1)) (fun q17 => gd (K q17 = 12 ∧ vp_in v3 (N q17)) (if (I4 q15 (v3.toNatClampNeg)) = (I4 q17 (v3.toNatClampNeg)) then (fn_X0_findTiles_L7 K N a0 a1 P n (v3 + (1 : Int32)) I4) else (Option.bind (fn_X0_tileBit v3) (fun (r20 : Int32) => Option.bind (some (up2 I4 a0 1 ((I4 a0 1) ||| r20))) (fun I21 => fn_X0_findTiles_L7 K N a0 a1 P n (v3 + (1 : Int32)) I21)))))))) else (Option.bind (fn_X0_tileBit v3) (fun (r13 : Int32) => Option.bind (some (up2 I4 a0 1 ((I4 a0 1) ||| r13))) (fun I14 => fn_X0_findTiles_L7 K N a0 a1 P n (v3 + (1 : Int32)) I14)))))))))
noncomputable def fn_X0_findTiles (K N : Nat → Nat) (I : Nat → Nat → Int32) (P : Nat → Nat → Option Nat) (a0 : Nat) (a1 : Nat) : Option ((Nat → Nat → Int32)) := gd (K a0 = 1) (Option.bind (some (up2 I a0 1 (0 : Int32))) (fun I2 => Option.bind (fn_X0_findTiles_L7 K N a0 a1 P FU (0 : Int32) I2) (fun (r5 : (Nat → Nat → Int32)) => some r5)))
abbrev wz_X0_findTiles : List Cond := Cond.code yX0_findTiles cX0_findTiles 3 none :: WA
abbrev rm_X0_findTiles : Room := { frames := 2, cells := 0, slots := 0, locals := 34 }
set_option maxHeartbeats 4000000 in
set_option maxRecDepth 100000 in
theorem c_X0_findTiles (I : Nat → Nat → Int32) (P : Nat → Nat → Option Nat) (a0 : Nat) (a1 : Nat) (res : (Nat → Nat → Int32)) (hf : fn_X0_findTiles K N I P a0 a1 = some res) : Met l yX0_findTiles wz_X0_findTiles rm_X0_findTiles (va_Pc [.ref a0, .ref a1] (mm_B D cs A L K N z w I P)) (va_Qv (fun (_ : Unit) => True) (fun _ => mm_B D cs A L K N z w res P) A) 0 0 A := by
  refine Met.ofW (cc := cX0_findTiles) (maxL := 3) (ret := none) (by decide) rfl ?_
  intro p e s m args below meth c s₁ B hml hv
  obtain ⟨rfl, hBm⟩ := hv
  have hx := B.exec
  have hb := B.bytes
  have hr := B.returns
  have hts := atoms_spec (ws := wz_X0_findTiles) B.pre
  have hWA : ∀ w ∈ WA, w.before ([.ref a0, .ref a1] : List Value).toArray s = true := fun u9 h9 => hts u9 (List.mem_cons_of_mem _ h9)
  have hown : s.vm.findClass RX0 = some m.cls := findClass_of_methodNamed B.named
  have hlocks := B.notSynchronized
  have S : CallFix p m c cX0_findTiles 3 s ([.ref a0, .ref a1] : List Value).toArray wz_X0_findTiles RX0 := ⟨hx, hb, hml, hown, hts⟩
  have hK := hBm.2.2.2.1
  have hZ := hBm.2.2.2.2
  have hM : mm_W D cs A L K N s.heap I P s.heap [] := ⟨hBm.1, hBm.2.1, hBm.2.2.1, va_S.rf⟩
  have hl := lv_entry ([.ref a0, .ref a1]) (n := 3) (Nat.le_of_ble_eq_true rfl)
  rw [lg_entry_eq]
  generalize (lg_sl ([.ref a0, .ref a1]) ++ List.replicate (3 - (lg_sl ([.ref a0, .ref a1])).length) Slot.unset).toArray = ls at hl ⊢
  have hl : lv_has ls 3 [(0, .ref a0), (1, .ref a1)] := hl
  have hin0 : ∀ w ∈ wsX00, w ∈ wz_X0_findTiles := fun w h => List.mem_cons_of_mem _ (wu_X0 w h)
  have hin4 : ∀ w ∈ wsX40, w ∈ wz_X0_findTiles := fun w h => List.mem_cons_of_mem _ (wu_X4 w h)
  have lk32 : (Cond.fieldLink RX0 32 RX0 "tiles" "I").before ([.ref a0, .ref a1] : List Value).toArray s = true := hWA _ wa_1_95
  have lk9 : (Cond.fieldLink RX0 9 RX0 "inks" "[I").before ([.ref a0, .ref a1] : List Value).toArray s = true := hWA _ wa_1_97
  have lk22 : (Cond.fieldLink RX0 22 RX4 "inks" "[I").before ([.ref a0, .ref a1] : List Value).toArray s = true := hWA _ wa_1_127
  have lk15 : (Cond.fieldLink RX0 15 RX0 "covers" "[I").before ([.ref a0, .ref a1] : List Value).toArray s = true := hWA _ wa_1_98
  have lk31 : (Cond.fieldLink RX0 31 RX4 "covers" "[I").before ([.ref a0, .ref a1] : List Value).toArray s = true := hWA _ wa_1_131
  generalize hQ : MQ below (va_Qv (fun (_ : Unit) => True) (fun _ => mm_B D cs A L K N z w res P) A) ([.ref a0, .ref a1] : List Value).toArray s 0 0 A = QQ
  rw [fn_X0_findTiles] at hf
  refine lv_aload_n hx hb dX0_findTiles_0 rfl (lv_at hl 0 rfl) ?_
  refine lv_iconst (v := (0 : Int32)) hx hb dX0_findTiles_1 (by decide) ?_
  refine gd_e hf (fun hg1 hf => ?_)
  refine ev_put S hK hM (ci := 0) (n := 4) (C := RX0) (T := TX0) hin0 tyX0 tyX0_ok nmX0 rfl hg1 1 (by decide) lk32 rfl rfl rfl rfl rfl (Nat.le_of_ble_eq_true rfl) rfl dX0_findTiles_2 (fun I2 eI2 H locs hM => ?_)
  have hf := nm_x eI2 hf
  refine lv_iconst (v := (0 : Int32)) hx hb dX0_findTiles_5 (by decide) ?_
  refine lv_istore_n (lv' := [(2, .int (0 : Int32)), (0, .ref a0), (1, .ref a1)]) hx hb dX0_findTiles_6 rfl hl (by decide) rfl (fun ls hl => ?_)
  have lp7_21 : ∀ (n : Nat) (v3 : Int32) (I4 : Nat → Nat → Int32) (H : Heap) (locs : List Loc) (ls : Array Slot) (r5 : (Nat → Nat → Int32)), mm_W D cs A L K N s.heap I4 P H locs → lv_has ls 3 [(0, .ref a0), (1, .ref a1), (2, .int v3)] → fn_X0_findTiles_L7 K N a0 a1 P n v3 I4 = some r5 → (∀ (H : Heap) (locs : List Loc) (ls : Array Slot), mm_W D cs A L K N s.heap r5 P H locs → lv_has ls 3 [] → W p l e (headSpec wz_X0_findTiles rm_X0_findTiles).room s m ([.ref a0, .ref a1] : List Value).toArray below meth c H locs 0 0 QQ (F0 m 63 ls [])) → W p l e (headSpec wz_X0_findTiles rm_X0_findTiles).room s m ([.ref a0, .ref a1] : List Value).toArray below meth c H locs 0 0 QQ (F0 m 7 ls []) := by
    intro n
    induction n with
    | zero => intro v3 I4 H locs ls r5 hM hl hf kk; exact nn_x (show (none : Option ((Nat → Nat → Int32))) = some r5 from hf)
    | succ n ih =>
      intro v3 I4 H locs ls r5 hM hl hf kk
      rw [fn_X0_findTiles_L7] at hf
      refine lv_iload_n hx hb dX0_findTiles_7 rfl (lv_at hl 2 rfl) ?_
      refine lv_sipush (v := (192 : Int32)) hx hb dX0_findTiles_8 (by decide) ?_
      refine lv_icmp_ge (tgt := 63) hx hb dX0_findTiles_11 (by decide) (fun hc6 => ?_) (fun hc6 => ?_)
      · have hf := it_p hf hc6
        obtain rfl := Option.some.inj hf
        exact kk _ _ _ hM (lv_sub hl [] rfl)
      · have hf := it_n hf hc6
        refine lv_aload_n hx hb dX0_findTiles_14 rfl (lv_at hl 0 rfl) ?_
        refine bd_e hf (fun q7 eq7 hf => ?_)
        refine ev_getP (v := q7) S hK hM (ci := 0) (n := 4) (C := RX0) (T := TX0) hin0 rfl hg1 2 (by decide) lk9 rfl rfl eq7 rfl dX0_findTiles_15 ?_
        refine lv_iload_n hx hb dX0_findTiles_18 rfl (lv_at hl 2 rfl) ?_
        refine gd_e hf (fun hg8 hf => ?_)
        refine ev_iald S hK hM hg8 (j := v3.toNatClampNeg) rfl dX0_findTiles_19 ?_
        refine lv_aload_n hx hb dX0_findTiles_20 rfl (lv_at hl 1 rfl) ?_
        refine gd_e hf (fun hg9 hf => ?_)
        refine bd_e hf (fun q10 eq10 hf => ?_)
        refine ev_getP (v := q10) S hK hM (ci := 4) (n := 5) (C := RX4) (T := TX4) hin4 rfl hg9 0 (by decide) lk22 rfl rfl eq10 rfl dX0_findTiles_21 ?_
        refine lv_iload_n hx hb dX0_findTiles_24 rfl (lv_at hl 2 rfl) ?_
        refine gd_e hf (fun hg11 hf => ?_)
        refine ev_iald S hK hM hg11 (j := v3.toNatClampNeg) rfl dX0_findTiles_25 ?_
        refine lv_icmp_ne (tgt := 44) hx hb dX0_findTiles_26 (by decide) (fun hc12 => ?_) (fun hc12 => ?_)
        · have hf := it_n hf hc12
          refine lv_aload_n hx hb dX0_findTiles_44 rfl (lv_at hl 0 rfl) ?_
          refine lv_dup hx hb dX0_findTiles_45 rfl ?_
          refine ev_get (v := .int (I4 a0 1)) S hK hM (ci := 0) (n := 4) (C := RX0) (T := TX0) hin0 rfl hg1 1 (by decide) lk32 rfl rfl rfl dX0_findTiles_46 ?_
          refine lv_iload_n hx hb dX0_findTiles_49 rfl (lv_at hl 2 rfl) ?_
          refine bd_e hf (fun r13 er13 hf => ?_)
          refine ev_calli (va_runS (As := [.int v3]) (rest := [.int (I4 a0 1), .ref a0]) S (c_X0_tileBit (l := l) I4 P v3 r13 er13) (va_cwS 1 hts (gi_s wa_3_119 wa_3_120 wa_1_6 wa_3_121) rfl rfl rfl (by decide +kernel) ⟨Nat.le_of_ble_eq_true rfl, Nat.le_of_ble_eq_true rfl⟩) ⟨mm_B_blind, fun U hU hW => ⟨rfl, mm_B_of hK hZ hM hU hW⟩⟩ rfl rfl hl.1 rfl (lv_room (Nat.le_of_ble_eq_true rfl)) dX0_findTiles_50 ⟨Nat.zero_le _, Nat.zero_le _⟩) hM (fun H locs hM => ?_)
          refine lv_ior hx hb dX0_findTiles_53 ?_
          refine ev_put S hK hM (ci := 0) (n := 4) (C := RX0) (T := TX0) hin0 tyX0 tyX0_ok nmX0 rfl hg1 1 (by decide) lk32 rfl rfl rfl rfl rfl (Nat.le_of_ble_eq_true rfl) rfl dX0_findTiles_54 (fun I14 eI14 H locs hM => ?_)
          have hf := nm_x eI14 hf
          refine lv_iinc (v := (v3 + (1 : Int32))) (lv' := [(2, .int (v3 + (1 : Int32))), (0, .ref a0), (1, .ref a1)]) hx hb dX0_findTiles_57 hl (k := 2) rfl rfl (by decide) rfl (fun ls hl => ?_)
          refine lv_goto (tgt := 7) hx hb dX0_findTiles_60 (by decide) ?_
          exact ih (v3 + (1 : Int32)) I14 _ _ _ _ hM (lv_sub hl [1, 2, 0] rfl) hf kk
        · have hf := it_p hf hc12
          refine lv_aload_n hx hb dX0_findTiles_29 rfl (lv_at hl 0 rfl) ?_
          refine bd_e hf (fun q15 eq15 hf => ?_)
          refine ev_getP (v := q15) S hK hM (ci := 0) (n := 4) (C := RX0) (T := TX0) hin0 rfl hg1 3 (by decide) lk15 rfl rfl eq15 rfl dX0_findTiles_30 ?_
          refine lv_iload_n hx hb dX0_findTiles_33 rfl (lv_at hl 2 rfl) ?_
          refine gd_e hf (fun hg16 hf => ?_)
          refine ev_iald S hK hM hg16 (j := v3.toNatClampNeg) rfl dX0_findTiles_34 ?_
          refine lv_aload_n hx hb dX0_findTiles_35 rfl (lv_at hl 1 rfl) ?_
          refine bd_e hf (fun q17 eq17 hf => ?_)
          refine ev_getP (v := q17) S hK hM (ci := 4) (n := 5) (C := RX4) (T := TX4) hin4 rfl hg9 1 (by decide) lk31 rfl rfl eq17 rfl dX0_findTiles_36 ?_
          refine lv_iload_n hx hb dX0_findTiles_39 rfl (lv_at hl 2 rfl) ?_
          refine gd_e hf (fun hg18 hf => ?_)
          refine ev_iald S hK hM hg18 (j := v3.toNatClampNeg) rfl dX0_findTiles_40 ?_
          refine lv_icmp_eq (tgt := 57) hx hb dX0_findTiles_41 (by decide) (fun hc19 => ?_) (fun hc19 => ?_)
          · have hf := it_p hf hc19
            refine lv_iinc (v := (v3 + (1 : Int32))) (lv' := [(2, .int (v3 + (1 : Int32))), (0, .ref a0), (1, .ref a1)]) hx hb dX0_findTiles_57 hl (k := 2) rfl rfl (by decide) rfl (fun ls hl => ?_)
            refine lv_goto (tgt := 7) hx hb dX0_findTiles_60 (by decide) ?_
            exact ih (v3 + (1 : Int32)) I4 _ _ _ _ hM (lv_sub hl [1, 2, 0] rfl) hf kk
          · have hf := it_n hf hc19
            refine lv_aload_n hx hb dX0_findTiles_44 rfl (lv_at hl 0 rfl) ?_
            refine lv_dup hx hb dX0_findTiles_45 rfl ?_
            refine ev_get (v := .int (I4 a0 1)) S hK hM (ci := 0) (n := 4) (C := RX0) (T := TX0) hin0 rfl hg1 1 (by decide) lk32 rfl rfl rfl dX0_findTiles_46 ?_
            refine lv_iload_n hx hb dX0_findTiles_49 rfl (lv_at hl 2 rfl) ?_
            refine bd_e hf (fun r20 er20 hf => ?_)
            refine ev_calli (va_runS (As := [.int v3]) (rest := [.int (I4 a0 1), .ref a0]) S (c_X0_tileBit (l := l) I4 P v3 r20 er20) (va_cwS 1 hts (gi_s wa_3_119 wa_3_120 wa_1_6 wa_3_121) rfl rfl rfl (by decide +kernel) ⟨Nat.le_of_ble_eq_true rfl, Nat.le_of_ble_eq_true rfl⟩) ⟨mm_B_blind, fun U hU hW => ⟨rfl, mm_B_of hK hZ hM hU hW⟩⟩ rfl rfl hl.1 rfl (lv_room (Nat.le_of_ble_eq_true rfl)) dX0_findTiles_50 ⟨Nat.zero_le _, Nat.zero_le _⟩) hM (fun H locs hM => ?_)
            refine lv_ior hx hb dX0_findTiles_53 ?_
            refine ev_put S hK hM (ci := 0) (n := 4) (C := RX0) (T := TX0) hin0 tyX0 tyX0_ok nmX0 rfl hg1 1 (by decide) lk32 rfl rfl rfl rfl rfl (Nat.le_of_ble_eq_true rfl) rfl dX0_findTiles_54 (fun I21 eI21 H locs hM => ?_)
            have hf := nm_x eI21 hf
            refine lv_iinc (v := (v3 + (1 : Int32))) (lv' := [(2, .int (v3 + (1 : Int32))), (0, .ref a0), (1, .ref a1)]) hx hb dX0_findTiles_57 hl (k := 2) rfl rfl (by decide) rfl (fun ls hl => ?_)
            refine lv_goto (tgt := 7) hx hb dX0_findTiles_60 (by decide) ?_
            exact ih (v3 + (1 : Int32)) I21 _ _ _ _ hM (lv_sub hl [1, 2, 0] rfl) hf kk
  refine bd_e hf (fun r5 er5 hf => ?_)
  refine lp7_21 FU (0 : Int32) I2 _ _ _ r5 hM (lv_sub hl [1, 2, 0] rfl) er5 (fun H locs ls hM hl => ?_)
  obtain rfl := Option.some.inj hf
  subst hQ
  exact ev_vret S hr hlocks hK hZ hM dX0_findTiles_63
noncomputable def fn_X0_swapTiles_L2 (K : Nat → Nat) (N : Nat → Nat) (a0 : Nat) (a1 : Nat) (P : Nat → Nat → Option Nat) : Nat → Int32 → (Nat → Nat → Int32) → Option ((Nat → Nat → Int32))
  | 0, _, _ => none
  | n + 1, v1, I2 => if (192 : Int32) ≤ v1 then (some I2) else (gd (K a0 = 1) (Option.bind (fn_X0_tileBit v1) (fun (r6 : Int32) => if ((I2 a0 1) &&& r6) = 0 then (fn_X0_swapTiles_L2 K N a0 a1 P n (v1 + (1 : Int32)) I2) else (Option.bind (P a0 (2)) (fun q8 => gd (K q8 = 12 ∧ vp_in v1 (N q8)) (Option.bind (some (I2 q8 (v1.toNatClampNeg))) (fun v10 => Option.bind (P a0 (3)) (fun q11 => gd (K q11 = 12 ∧ vp_in v1 (N q11)) (Option.bind (some (I2 q11 (v1.toNatClampNeg))) (fun v13 => gd (K a1 = 5) (Option.bind (P a1 (0)) (fun q15 => gd (K q15 = 12 ∧ vp_in v1 (N q15)) (Option.bind (some (up2 I2 q8 (v1.toNatClampNeg) (I2 q15 (v1.toNatClampNeg)))) (fun I17 => Option.bind (P a1 (1)) (fun q18 => gd (K q18 = 12 ∧ vp_in v1 (N q18)) (Option.bind (some (up2 I17 q11 (v1.toNatClampNeg) (I17 q18 (v1.toNatClampNeg)))) (fun I20 => Option.bind (some (up2 I20 q15 (v1.toNatClampNeg) v10)) (fun I21 => Option.bind (some (up2 I21 q18 (v1.toNatClampNeg) v13)) (fun I22 => fn_X0_swapTiles_L2 K N a0 a1 P n (v1 + (1 : Int32)) I22)))))))))))))))))))
noncomputable def fn_X0_swapTiles (K N : Nat → Nat) (I : Nat → Nat → Int32) (P : Nat → Nat → Option Nat) (a0 : Nat) (a1 : Nat) : Option ((Nat → Nat → Int32)) := Option.bind (fn_X0_swapTiles_L2 K N a0 a1 P FU (0 : Int32) I) (fun (r3 : (Nat → Nat → Int32)) => some r3)
abbrev wz_X0_swapTiles : List Cond := Cond.code yX0_swapTiles cX0_swapTiles 5 none :: WA
abbrev rm_X0_swapTiles : Room := { frames := 2, cells := 0, slots := 0, locals := 34 }
set_option maxHeartbeats 4000000 in
set_option maxRecDepth 100000 in
theorem c_X0_swapTiles (I : Nat → Nat → Int32) (P : Nat → Nat → Option Nat) (a0 : Nat) (a1 : Nat) (res : (Nat → Nat → Int32)) (hf : fn_X0_swapTiles K N I P a0 a1 = some res) : Met l yX0_swapTiles wz_X0_swapTiles rm_X0_swapTiles (va_Pc [.ref a0, .ref a1] (mm_B D cs A L K N z w I P)) (va_Qv (fun (_ : Unit) => True) (fun _ => mm_B D cs A L K N z w res P) A) 0 0 A := by
  refine Met.ofW (cc := cX0_swapTiles) (maxL := 5) (ret := none) (by decide) rfl ?_
  intro p e s m args below meth c s₁ B hml hv
  obtain ⟨rfl, hBm⟩ := hv
  have hx := B.exec
  have hb := B.bytes
  have hr := B.returns
  have hts := atoms_spec (ws := wz_X0_swapTiles) B.pre
  have hWA : ∀ w ∈ WA, w.before ([.ref a0, .ref a1] : List Value).toArray s = true := fun u9 h9 => hts u9 (List.mem_cons_of_mem _ h9)
  have hown : s.vm.findClass RX0 = some m.cls := findClass_of_methodNamed B.named
  have hlocks := B.notSynchronized
  have S : CallFix p m c cX0_swapTiles 5 s ([.ref a0, .ref a1] : List Value).toArray wz_X0_swapTiles RX0 := ⟨hx, hb, hml, hown, hts⟩
  have hK := hBm.2.2.2.1
  have hZ := hBm.2.2.2.2
  have hM : mm_W D cs A L K N s.heap I P s.heap [] := ⟨hBm.1, hBm.2.1, hBm.2.2.1, va_S.rf⟩
  have hl := lv_entry ([.ref a0, .ref a1]) (n := 5) (Nat.le_of_ble_eq_true rfl)
  rw [lg_entry_eq]
  generalize (lg_sl ([.ref a0, .ref a1]) ++ List.replicate (5 - (lg_sl ([.ref a0, .ref a1])).length) Slot.unset).toArray = ls at hl ⊢
  have hl : lv_has ls 5 [(0, .ref a0), (1, .ref a1)] := hl
  have hin0 : ∀ w ∈ wsX00, w ∈ wz_X0_swapTiles := fun w h => List.mem_cons_of_mem _ (wu_X0 w h)
  have hin4 : ∀ w ∈ wsX40, w ∈ wz_X0_swapTiles := fun w h => List.mem_cons_of_mem _ (wu_X4 w h)
  have lk32 : (Cond.fieldLink RX0 32 RX0 "tiles" "I").before ([.ref a0, .ref a1] : List Value).toArray s = true := hWA _ wa_1_95
  have lk9 : (Cond.fieldLink RX0 9 RX0 "inks" "[I").before ([.ref a0, .ref a1] : List Value).toArray s = true := hWA _ wa_1_97
  have lk15 : (Cond.fieldLink RX0 15 RX0 "covers" "[I").before ([.ref a0, .ref a1] : List Value).toArray s = true := hWA _ wa_1_98
  have lk22 : (Cond.fieldLink RX0 22 RX4 "inks" "[I").before ([.ref a0, .ref a1] : List Value).toArray s = true := hWA _ wa_1_127
  have lk31 : (Cond.fieldLink RX0 31 RX4 "covers" "[I").before ([.ref a0, .ref a1] : List Value).toArray s = true := hWA _ wa_1_131
  generalize hQ : MQ below (va_Qv (fun (_ : Unit) => True) (fun _ => mm_B D cs A L K N z w res P) A) ([.ref a0, .ref a1] : List Value).toArray s 0 0 A = QQ
  rw [fn_X0_swapTiles] at hf
  refine lv_iconst (v := (0 : Int32)) hx hb dX0_swapTiles_0 (by decide) ?_
  refine lv_istore_n (lv' := [(2, .int (0 : Int32)), (0, .ref a0), (1, .ref a1)]) hx hb dX0_swapTiles_1 rfl hl (by decide) rfl (fun ls hl => ?_)
  have lp2_22 : ∀ (n : Nat) (v1 : Int32) (I2 : Nat → Nat → Int32) (H : Heap) (locs : List Loc) (ls : Array Slot) (r3 : (Nat → Nat → Int32)), mm_W D cs A L K N s.heap I2 P H locs → lv_has ls 5 [(0, .ref a0), (1, .ref a1), (2, .int v1)] → fn_X0_swapTiles_L2 K N a0 a1 P n v1 I2 = some r3 → (∀ (H : Heap) (locs : List Loc) (ls : Array Slot), mm_W D cs A L K N s.heap r3 P H locs → lv_has ls 5 [] → W p l e (headSpec wz_X0_swapTiles rm_X0_swapTiles).room s m ([.ref a0, .ref a1] : List Value).toArray below meth c H locs 0 0 QQ (F0 m 81 ls [])) → W p l e (headSpec wz_X0_swapTiles rm_X0_swapTiles).room s m ([.ref a0, .ref a1] : List Value).toArray below meth c H locs 0 0 QQ (F0 m 2 ls []) := by
    intro n
    induction n with
    | zero => intro v1 I2 H locs ls r3 hM hl hf kk; exact nn_x (show (none : Option ((Nat → Nat → Int32))) = some r3 from hf)
    | succ n ih =>
      intro v1 I2 H locs ls r3 hM hl hf kk
      rw [fn_X0_swapTiles_L2] at hf
      refine lv_iload_n hx hb dX0_swapTiles_2 rfl (lv_at hl 2 rfl) ?_
      refine lv_sipush (v := (192 : Int32)) hx hb dX0_swapTiles_3 (by decide) ?_
      refine lv_icmp_ge (tgt := 81) hx hb dX0_swapTiles_6 (by decide) (fun hc4 => ?_) (fun hc4 => ?_)
      · have hf := it_p hf hc4
        obtain rfl := Option.some.inj hf
        exact kk _ _ _ hM (lv_sub hl [] rfl)
      · have hf := it_n hf hc4
        refine lv_aload_n hx hb dX0_swapTiles_9 rfl (lv_at hl 0 rfl) ?_
        refine gd_e hf (fun hg5 hf => ?_)
        refine ev_get (v := .int (I2 a0 1)) S hK hM (ci := 0) (n := 4) (C := RX0) (T := TX0) hin0 rfl hg5 1 (by decide) lk32 rfl rfl rfl dX0_swapTiles_10 ?_
        refine lv_iload_n hx hb dX0_swapTiles_13 rfl (lv_at hl 2 rfl) ?_
        refine bd_e hf (fun r6 er6 hf => ?_)
        refine ev_calli (va_runS (As := [.int v1]) (rest := [.int (I2 a0 1)]) S (c_X0_tileBit (l := l) I2 P v1 r6 er6) (va_cwS 1 hts (gi_s wa_3_119 wa_3_120 wa_1_6 wa_3_121) rfl rfl rfl (by decide +kernel) ⟨Nat.le_of_ble_eq_true rfl, Nat.le_of_ble_eq_true rfl⟩) ⟨mm_B_blind, fun U hU hW => ⟨rfl, mm_B_of hK hZ hM hU hW⟩⟩ rfl rfl hl.1 rfl (lv_room (Nat.le_of_ble_eq_true rfl)) dX0_swapTiles_14 ⟨Nat.zero_le _, Nat.zero_le _⟩) hM (fun H locs hM => ?_)
        refine lv_iand hx hb dX0_swapTiles_17 ?_
        refine lv_if_eq (tgt := 75) hx hb dX0_swapTiles_18 (by decide) (fun hc7 => ?_) (fun hc7 => ?_)
        · have hf := it_p hf hc7
          refine lv_iinc (v := (v1 + (1 : Int32))) (lv' := [(2, .int (v1 + (1 : Int32))), (0, .ref a0), (1, .ref a1)]) hx hb dX0_swapTiles_75 hl (k := 2) rfl rfl (by decide) rfl (fun ls hl => ?_)
          refine lv_goto (tgt := 2) hx hb dX0_swapTiles_78 (by decide) ?_
          exact ih (v1 + (1 : Int32)) I2 _ _ _ _ hM (lv_sub hl [1, 2, 0] rfl) hf kk
        · have hf := it_n hf hc7
          refine lv_aload_n hx hb dX0_swapTiles_21 rfl (lv_at hl 0 rfl) ?_
          refine bd_e hf (fun q8 eq8 hf => ?_)
          refine ev_getP (v := q8) S hK hM (ci := 0) (n := 4) (C := RX0) (T := TX0) hin0 rfl hg5 2 (by decide) lk9 rfl rfl eq8 rfl dX0_swapTiles_22 ?_
          refine lv_iload_n hx hb dX0_swapTiles_25 rfl (lv_at hl 2 rfl) ?_
          refine gd_e hf (fun hg9 hf => ?_)
          refine ev_iald S hK hM hg9 (j := v1.toNatClampNeg) rfl dX0_swapTiles_26 ?_
          refine lv_topi (fun v10 ev10 => ?_)
          have hf := nm_x ev10 hf
          refine lv_istore_n (lv' := [(3, .int v10), (0, .ref a0), (1, .ref a1), (2, .int v1)]) hx hb dX0_swapTiles_27 rfl hl (by decide) rfl (fun ls hl => ?_)
          refine lv_aload_n hx hb dX0_swapTiles_28 rfl (lv_at hl 1 rfl) ?_
          refine bd_e hf (fun q11 eq11 hf => ?_)
          refine ev_getP (v := q11) S hK hM (ci := 0) (n := 4) (C := RX0) (T := TX0) hin0 rfl hg5 3 (by decide) lk15 rfl rfl eq11 rfl dX0_swapTiles_29 ?_
          refine lv_iload_n hx hb dX0_swapTiles_32 rfl (lv_at hl 3 rfl) ?_
          refine gd_e hf (fun hg12 hf => ?_)
          refine ev_iald S hK hM hg12 (j := v1.toNatClampNeg) rfl dX0_swapTiles_33 ?_
          refine lv_topi (fun v13 ev13 => ?_)
          have hf := nm_x ev13 hf
          refine lv_istore (lv' := [(4, .int v13), (3, .int v10), (0, .ref a0), (1, .ref a1), (2, .int v1)]) hx hb dX0_swapTiles_34 hl (by decide) rfl (fun ls hl => ?_)
          refine lv_aload_n hx hb dX0_swapTiles_36 rfl (lv_at hl 2 rfl) ?_
          refine ev_getP (v := q8) S hK hM (ci := 0) (n := 4) (C := RX0) (T := TX0) hin0 rfl hg5 2 (by decide) lk9 rfl rfl eq8 rfl dX0_swapTiles_37 ?_
          refine lv_iload_n hx hb dX0_swapTiles_40 rfl (lv_at hl 4 rfl) ?_
          refine lv_aload_n hx hb dX0_swapTiles_41 rfl (lv_at hl 3 rfl) ?_
          refine gd_e hf (fun hg14 hf => ?_)
          refine bd_e hf (fun q15 eq15 hf => ?_)
          refine ev_getP (v := q15) S hK hM (ci := 4) (n := 5) (C := RX4) (T := TX4) hin4 rfl hg14 0 (by decide) lk22 rfl rfl eq15 rfl dX0_swapTiles_42 ?_
          refine lv_iload_n hx hb dX0_swapTiles_45 rfl (lv_at hl 4 rfl) ?_
          refine gd_e hf (fun hg16 hf => ?_)
          refine ev_iald S hK hM hg16 (j := v1.toNatClampNeg) rfl dX0_swapTiles_46 ?_
          refine ev_iast S hK hM hg9 (j := v1.toNatClampNeg) rfl dX0_swapTiles_47 (fun I17 eI17 H locs hM => ?_)
          have hf := nm_x eI17 hf
          refine lv_aload_n hx hb dX0_swapTiles_48 rfl (lv_at hl 2 rfl) ?_
          refine ev_getP (v := q11) S hK hM (ci := 0) (n := 4) (C := RX0) (T := TX0) hin0 rfl hg5 3 (by decide) lk15 rfl rfl eq11 rfl dX0_swapTiles_49 ?_
          refine lv_iload_n hx hb dX0_swapTiles_52 rfl (lv_at hl 4 rfl) ?_
          refine lv_aload_n hx hb dX0_swapTiles_53 rfl (lv_at hl 3 rfl) ?_
          refine bd_e hf (fun q18 eq18 hf => ?_)
          refine ev_getP (v := q18) S hK hM (ci := 4) (n := 5) (C := RX4) (T := TX4) hin4 rfl hg14 1 (by decide) lk31 rfl rfl eq18 rfl dX0_swapTiles_54 ?_
          refine lv_iload_n hx hb dX0_swapTiles_57 rfl (lv_at hl 4 rfl) ?_
          refine gd_e hf (fun hg19 hf => ?_)
          refine ev_iald S hK hM hg19 (j := v1.toNatClampNeg) rfl dX0_swapTiles_58 ?_
          refine ev_iast S hK hM hg12 (j := v1.toNatClampNeg) rfl dX0_swapTiles_59 (fun I20 eI20 H locs hM => ?_)
          have hf := nm_x eI20 hf
          refine lv_aload_n hx hb dX0_swapTiles_60 rfl (lv_at hl 3 rfl) ?_
          refine ev_getP (v := q15) S hK hM (ci := 4) (n := 5) (C := RX4) (T := TX4) hin4 rfl hg14 0 (by decide) lk22 rfl rfl eq15 rfl dX0_swapTiles_61 ?_
          refine lv_iload_n hx hb dX0_swapTiles_64 rfl (lv_at hl 4 rfl) ?_
          refine lv_iload_n hx hb dX0_swapTiles_65 rfl (lv_at hl 1 rfl) ?_
          refine ev_iast S hK hM hg16 (j := v1.toNatClampNeg) rfl dX0_swapTiles_66 (fun I21 eI21 H locs hM => ?_)
          have hf := nm_x eI21 hf
          refine lv_aload_n hx hb dX0_swapTiles_67 rfl (lv_at hl 3 rfl) ?_
          refine ev_getP (v := q18) S hK hM (ci := 4) (n := 5) (C := RX4) (T := TX4) hin4 rfl hg14 1 (by decide) lk31 rfl rfl eq18 rfl dX0_swapTiles_68 ?_
          refine lv_iload_n hx hb dX0_swapTiles_71 rfl (lv_at hl 4 rfl) ?_
          refine lv_iload hx hb dX0_swapTiles_72 (lv_at hl 0 rfl) ?_
          refine ev_iast S hK hM hg19 (j := v1.toNatClampNeg) rfl dX0_swapTiles_74 (fun I22 eI22 H locs hM => ?_)
          have hf := nm_x eI22 hf
          refine lv_iinc (v := (v1 + (1 : Int32))) (lv' := [(2, .int (v1 + (1 : Int32))), (4, .int v13), (3, .int v10), (0, .ref a0), (1, .ref a1)]) hx hb dX0_swapTiles_75 hl (k := 4) rfl rfl (by decide) rfl (fun ls hl => ?_)
          refine lv_goto (tgt := 2) hx hb dX0_swapTiles_78 (by decide) ?_
          exact ih (v1 + (1 : Int32)) I22 _ _ _ _ hM (lv_sub hl [3, 4, 0] rfl) hf kk
  refine bd_e hf (fun r3 er3 hf => ?_)
  refine lp2_22 FU (0 : Int32) I _ _ _ r3 hM (lv_sub hl [1, 2, 0] rfl) er3 (fun H locs ls hM hl => ?_)
  obtain rfl := Option.some.inj hf
  subst hQ
  exact ev_vret S hr hlocks hK hZ hM dX0_swapTiles_81
noncomputable def fn_X1_forget (K N : Nat → Nat) (I : Nat → Nat → Int32) (P : Nat → Nat → Option Nat) (a0 : Nat) : Option ((Nat → Nat → Int32)) := gd (K a0 = 2) (Option.bind (some (up2 I a0 1 (0 : Int32))) (fun I2 => Option.bind (some (up2 I2 a0 2 (0 : Int32))) (fun I3 => some I3)))
abbrev wz_X1_forget : List Cond := Cond.code yX1_forget cX1_forget 1 none :: WA
abbrev rm_X1_forget : Room := { frames := 1, cells := 0, slots := 0, locals := 12 }
set_option maxHeartbeats 4000000 in
set_option maxRecDepth 100000 in
theorem c_X1_forget (I : Nat → Nat → Int32) (P : Nat → Nat → Option Nat) (a0 : Nat) (res : (Nat → Nat → Int32)) (hf : fn_X1_forget K N I P a0 = some res) : Met l yX1_forget wz_X1_forget rm_X1_forget (va_Pc [.ref a0] (mm_B D cs A L K N z w I P)) (va_Qv (fun (_ : Unit) => True) (fun _ => mm_B D cs A L K N z w res P) A) 0 0 A := by
  refine Met.ofW (cc := cX1_forget) (maxL := 1) (ret := none) (by decide) rfl ?_
  intro p e s m args below meth c s₁ B hml hv
  obtain ⟨rfl, hBm⟩ := hv
  have hx := B.exec
  have hb := B.bytes
  have hr := B.returns
  have hts := atoms_spec (ws := wz_X1_forget) B.pre
  have hWA : ∀ w ∈ WA, w.before ([.ref a0] : List Value).toArray s = true := fun u9 h9 => hts u9 (List.mem_cons_of_mem _ h9)
  have hown : s.vm.findClass RX1 = some m.cls := findClass_of_methodNamed B.named
  have hlocks := B.notSynchronized
  have S : CallFix p m c cX1_forget 1 s ([.ref a0] : List Value).toArray wz_X1_forget RX1 := ⟨hx, hb, hml, hown, hts⟩
  have hK := hBm.2.2.2.1
  have hZ := hBm.2.2.2.2
  have hM : mm_W D cs A L K N s.heap I P s.heap [] := ⟨hBm.1, hBm.2.1, hBm.2.2.1, va_S.rf⟩
  have hl := lv_entry ([.ref a0]) (n := 1) (Nat.le_of_ble_eq_true rfl)
  rw [lg_entry_eq]
  generalize (lg_sl ([.ref a0]) ++ List.replicate (1 - (lg_sl ([.ref a0])).length) Slot.unset).toArray = ls at hl ⊢
  have hl : lv_has ls 1 [(0, .ref a0)] := hl
  have hin1 : ∀ w ∈ wsX10, w ∈ wz_X1_forget := fun w h => List.mem_cons_of_mem _ (wu_X1 w h)
  have lk18 : (Cond.fieldLink RX1 18 RX1 "keptCount" "I").before ([.ref a0] : List Value).toArray s = true := hWA _ wa_1_110
  have lk22 : (Cond.fieldLink RX1 22 RX1 "undoneCount" "I").before ([.ref a0] : List Value).toArray s = true := hWA _ wa_1_112
  generalize hQ : MQ below (va_Qv (fun (_ : Unit) => True) (fun _ => mm_B D cs A L K N z w res P) A) ([.ref a0] : List Value).toArray s 0 0 A = QQ
  rw [fn_X1_forget] at hf
  refine lv_aload_n hx hb dX1_forget_0 rfl (lv_at hl 0 rfl) ?_
  refine lv_iconst (v := (0 : Int32)) hx hb dX1_forget_1 (by decide) ?_
  refine gd_e hf (fun hg1 hf => ?_)
  refine ev_put S hK hM (ci := 1) (n := 3) (C := RX1) (T := TX1) hin1 tyX1 tyX1_ok nmX1 rfl hg1 1 (by decide) lk18 rfl rfl rfl rfl rfl (Nat.le_of_ble_eq_true rfl) rfl dX1_forget_2 (fun I2 eI2 H locs hM => ?_)
  have hf := nm_x eI2 hf
  refine lv_aload_n hx hb dX1_forget_5 rfl (lv_at hl 0 rfl) ?_
  refine lv_iconst (v := (0 : Int32)) hx hb dX1_forget_6 (by decide) ?_
  refine ev_put S hK hM (ci := 1) (n := 3) (C := RX1) (T := TX1) hin1 tyX1 tyX1_ok nmX1 rfl hg1 2 (by decide) lk22 rfl rfl rfl rfl rfl (Nat.le_of_ble_eq_true rfl) rfl dX1_forget_7 (fun I3 eI3 H locs hM => ?_)
  have hf := nm_x eI3 hf
  obtain rfl := Option.some.inj hf
  subst hQ
  exact ev_vret S hr hlocks hK hZ hM dX1_forget_10
noncomputable def fn_X1_become_L18 (K : Nat → Nat) (N : Nat → Nat) (a0 : Nat) (a1 : Nat) (P : Nat → Nat → Option Nat) : Nat → Int32 → (Nat → Nat → Int32) → Option ((Nat → Nat → Int32))
  | 0, _, _ => none
  | n + 1, v5, I6 => if (10 : Int32) ≤ v5 then (some I6) else (Option.bind (P a0 (0)) (fun q9 => gd (K q9 = 14 ∧ vp_in v5 (N q9)) (Option.bind (P q9 (v5.toNatClampNeg)) (fun q11 => Option.bind (P a1 (0)) (fun q12 => gd (K q12 = 14 ∧ vp_in v5 (N q12)) (Option.bind (P q12 (v5.toNatClampNeg)) (fun q14 => Option.bind (fn_X0_become K N I6 P q11 q14) (fun (r15 : (Nat → Nat → Int32)) => gd (K q11 = 1) (fn_X1_become_L18 K N a0 a1 P n (v5 + (1 : Int32)) r15)))))))))
noncomputable def fn_X1_become (K N : Nat → Nat) (I : Nat → Nat → Int32) (P : Nat → Nat → Option Nat) (a0 : Nat) (a1 : Nat) : Option ((Nat → Nat → Int32)) := gd (K a1 = 2) (gd (K a0 = 2) (Option.bind (some (up2 I a0 1 (I a1 1))) (fun I3 => Option.bind (some (up2 I3 a0 2 (I3 a1 2))) (fun I4 => Option.bind (fn_X1_become_L18 K N a0 a1 P FU (0 : Int32) I4) (fun (r7 : (Nat → Nat → Int32)) => some r7)))))
abbrev wz_X1_become : List Cond := Cond.code yX1_become cX1_become 3 none :: WA
abbrev rm_X1_become : Room := { frames := 3, cells := 0, slots := 0, locals := 81 }
set_option maxHeartbeats 4000000 in
set_option maxRecDepth 100000 in
theorem c_X1_become (I : Nat → Nat → Int32) (P : Nat → Nat → Option Nat) (a0 : Nat) (a1 : Nat) (res : (Nat → Nat → Int32)) (hf : fn_X1_become K N I P a0 a1 = some res) : Met l yX1_become wz_X1_become rm_X1_become (va_Pc [.ref a0, .ref a1] (mm_B D cs A L K N z w I P)) (va_Qv (fun (_ : Unit) => True) (fun _ => mm_B D cs A L K N z w res P) A) 0 0 A := by
  refine Met.ofW (cc := cX1_become) (maxL := 3) (ret := none) (by decide) rfl ?_
  intro p e s m args below meth c s₁ B hml hv
  obtain ⟨rfl, hBm⟩ := hv
  have hx := B.exec
  have hb := B.bytes
  have hr := B.returns
  have hts := atoms_spec (ws := wz_X1_become) B.pre
  have hWA : ∀ w ∈ WA, w.before ([.ref a0, .ref a1] : List Value).toArray s = true := fun u9 h9 => hts u9 (List.mem_cons_of_mem _ h9)
  have hown : s.vm.findClass RX1 = some m.cls := findClass_of_methodNamed B.named
  have hlocks := B.notSynchronized
  have S : CallFix p m c cX1_become 3 s ([.ref a0, .ref a1] : List Value).toArray wz_X1_become RX1 := ⟨hx, hb, hml, hown, hts⟩
  have hK := hBm.2.2.2.1
  have hZ := hBm.2.2.2.2
  have hM : mm_W D cs A L K N s.heap I P s.heap [] := ⟨hBm.1, hBm.2.1, hBm.2.2.1, va_S.rf⟩
  have hl := lv_entry ([.ref a0, .ref a1]) (n := 3) (Nat.le_of_ble_eq_true rfl)
  rw [lg_entry_eq]
  generalize (lg_sl ([.ref a0, .ref a1]) ++ List.replicate (3 - (lg_sl ([.ref a0, .ref a1])).length) Slot.unset).toArray = ls at hl ⊢
  have hl : lv_has ls 3 [(0, .ref a0), (1, .ref a1)] := hl
  have hin1 : ∀ w ∈ wsX10, w ∈ wz_X1_become := fun w h => List.mem_cons_of_mem _ (wu_X1 w h)
  have lk18 : (Cond.fieldLink RX1 18 RX1 "keptCount" "I").before ([.ref a0, .ref a1] : List Value).toArray s = true := hWA _ wa_1_110
  have lk22 : (Cond.fieldLink RX1 22 RX1 "undoneCount" "I").before ([.ref a0, .ref a1] : List Value).toArray s = true := hWA _ wa_1_112
  have lk11 : (Cond.fieldLink RX1 11 RX1 "all" "[LRasterPainter$Act;").before ([.ref a0, .ref a1] : List Value).toArray s = true := hWA _ wa_1_109
  generalize hQ : MQ below (va_Qv (fun (_ : Unit) => True) (fun _ => mm_B D cs A L K N z w res P) A) ([.ref a0, .ref a1] : List Value).toArray s 0 0 A = QQ
  rw [fn_X1_become] at hf
  refine lv_aload_n hx hb dX1_become_0 rfl (lv_at hl 0 rfl) ?_
  refine lv_aload_n hx hb dX1_become_1 rfl (lv_at hl 1 rfl) ?_
  refine gd_e hf (fun hg1 hf => ?_)
  refine ev_get (v := .int (I a1 1)) S hK hM (ci := 1) (n := 3) (C := RX1) (T := TX1) hin1 rfl hg1 1 (by decide) lk18 rfl rfl rfl dX1_become_2 ?_
  refine gd_e hf (fun hg2 hf => ?_)
  refine ev_put S hK hM (ci := 1) (n := 3) (C := RX1) (T := TX1) hin1 tyX1 tyX1_ok nmX1 rfl hg2 1 (by decide) lk18 rfl rfl rfl rfl rfl (Nat.le_of_ble_eq_true rfl) rfl dX1_become_5 (fun I3 eI3 H locs hM => ?_)
  have hf := nm_x eI3 hf
  refine lv_aload_n hx hb dX1_become_8 rfl (lv_at hl 0 rfl) ?_
  refine lv_aload_n hx hb dX1_become_9 rfl (lv_at hl 1 rfl) ?_
  refine ev_get (v := .int (I3 a1 2)) S hK hM (ci := 1) (n := 3) (C := RX1) (T := TX1) hin1 rfl hg1 2 (by decide) lk22 rfl rfl rfl dX1_become_10 ?_
  refine ev_put S hK hM (ci := 1) (n := 3) (C := RX1) (T := TX1) hin1 tyX1 tyX1_ok nmX1 rfl hg2 2 (by decide) lk22 rfl rfl rfl rfl rfl (Nat.le_of_ble_eq_true rfl) rfl dX1_become_13 (fun I4 eI4 H locs hM => ?_)
  have hf := nm_x eI4 hf
  refine lv_iconst (v := (0 : Int32)) hx hb dX1_become_16 (by decide) ?_
  refine lv_istore_n (lv' := [(2, .int (0 : Int32)), (0, .ref a0), (1, .ref a1)]) hx hb dX1_become_17 rfl hl (by decide) rfl (fun ls hl => ?_)
  have lp18_16 : ∀ (n : Nat) (v5 : Int32) (I6 : Nat → Nat → Int32) (H : Heap) (locs : List Loc) (ls : Array Slot) (r7 : (Nat → Nat → Int32)), mm_W D cs A L K N s.heap I6 P H locs → lv_has ls 3 [(0, .ref a0), (1, .ref a1), (2, .int v5)] → fn_X1_become_L18 K N a0 a1 P n v5 I6 = some r7 → (∀ (H : Heap) (locs : List Loc) (ls : Array Slot), mm_W D cs A L K N s.heap r7 P H locs → lv_has ls 3 [] → W p l e (headSpec wz_X1_become rm_X1_become).room s m ([.ref a0, .ref a1] : List Value).toArray below meth c H locs 0 0 QQ (F0 m 45 ls [])) → W p l e (headSpec wz_X1_become rm_X1_become).room s m ([.ref a0, .ref a1] : List Value).toArray below meth c H locs 0 0 QQ (F0 m 18 ls []) := by
    intro n
    induction n with
    | zero => intro v5 I6 H locs ls r7 hM hl hf kk; exact nn_x (show (none : Option ((Nat → Nat → Int32))) = some r7 from hf)
    | succ n ih =>
      intro v5 I6 H locs ls r7 hM hl hf kk
      rw [fn_X1_become_L18] at hf
      refine lv_iload_n hx hb dX1_become_18 rfl (lv_at hl 2 rfl) ?_
      refine lv_bipush (v := (10 : Int32)) hx hb dX1_become_19 (by decide) ?_
      refine lv_icmp_ge (tgt := 45) hx hb dX1_become_21 (by decide) (fun hc8 => ?_) (fun hc8 => ?_)
      · have hf := it_p hf hc8
        obtain rfl := Option.some.inj hf
        exact kk _ _ _ hM (lv_sub hl [] rfl)
      · have hf := it_n hf hc8
        refine lv_aload_n hx hb dX1_become_24 rfl (lv_at hl 0 rfl) ?_
        refine bd_e hf (fun q9 eq9 hf => ?_)
        refine ev_getP (v := q9) S hK hM (ci := 1) (n := 3) (C := RX1) (T := TX1) hin1 rfl hg2 0 (by decide) lk11 rfl rfl eq9 rfl dX1_become_25 ?_
        refine lv_iload_n hx hb dX1_become_28 rfl (lv_at hl 2 rfl) ?_
        refine gd_e hf (fun hg10 hf => ?_)
        refine bd_e hf (fun q11 eq11 hf => ?_)
        refine ev_aald14 S hK hM hg10 (j := v5.toNatClampNeg) rfl eq11 dX1_become_29 ?_
        refine lv_aload_n hx hb dX1_become_30 rfl (lv_at hl 1 rfl) ?_
        refine bd_e hf (fun q12 eq12 hf => ?_)
        refine ev_getP (v := q12) S hK hM (ci := 1) (n := 3) (C := RX1) (T := TX1) hin1 rfl hg1 0 (by decide) lk11 rfl rfl eq12 rfl dX1_become_31 ?_
        refine lv_iload_n hx hb dX1_become_34 rfl (lv_at hl 2 rfl) ?_
        refine gd_e hf (fun hg13 hf => ?_)
        refine bd_e hf (fun q14 eq14 hf => ?_)
        refine ev_aald14 S hK hM hg13 (j := v5.toNatClampNeg) rfl eq14 dX1_become_35 ?_
        refine bd_e hf (fun r15 er15 hf => ?_)
        refine gd_e hf (fun hg16 hf => ?_)
        refine ev_callv (va_runV (As := [.ref q14]) (rest := []) S (c_X0_become (l := l) I6 P q11 q14 r15 er15) (cwV 1 hts (gi_v wa_4_102 wa_4_103 wa_4_104 wa_1_6 wa_4_105) rfl rfl rfl (by decide +kernel) ⟨Nat.le_of_ble_eq_true rfl, Nat.le_of_ble_eq_true rfl⟩) ⟨mm_B_blind, ev_recv hK hM (ci := 0) rfl hg16 rfl, fun U hU hW => ⟨rfl, mm_B_of hK hZ hM hU hW⟩⟩ rfl rfl hl.1 rfl (lv_room (Nat.le_of_ble_eq_true rfl)) dX1_become_36 ⟨Nat.zero_le _, Nat.zero_le _⟩) hM (fun H locs hM => ?_)
        refine lv_iinc (v := (v5 + (1 : Int32))) (lv' := [(2, .int (v5 + (1 : Int32))), (0, .ref a0), (1, .ref a1)]) hx hb dX1_become_39 hl (k := 2) rfl rfl (by decide) rfl (fun ls hl => ?_)
        refine lv_goto (tgt := 18) hx hb dX1_become_42 (by decide) ?_
        exact ih (v5 + (1 : Int32)) r15 _ _ _ _ hM (lv_sub hl [1, 2, 0] rfl) hf kk
  refine bd_e hf (fun r7 er7 hf => ?_)
  refine lp18_16 FU (0 : Int32) I4 _ _ _ r7 hM (lv_sub hl [1, 2, 0] rfl) er7 (fun H locs ls hM hl => ?_)
  obtain rfl := Option.some.inj hf
  subst hQ
  exact ev_vret S hr hlocks hK hZ hM dX1_become_45
noncomputable def fn_X1_begin (K N : Nat → Nat) (I : Nat → Nat → Int32) (P : Nat → Nat → Option Nat) (a0 : Nat) (x1 : Int32) (a2 : Nat) : Option ((Nat → Nat → Int32)) := gd (K a0 = 2) (Option.bind (P a0 (0)) (fun q2 => gd (K q2 = 14 ∧ vp_in (10 : Int32) (N q2)) (Option.bind (P q2 (10)) (fun q4 => Option.bind (fn_X0_note K N I P q4 x1 a2) (fun (r5 : (Nat → Nat → Int32)) => gd (K q4 = 1) (some r5))))))
abbrev wz_X1_begin : List Cond := Cond.code yX1_begin cX1_begin 3 none :: WA
abbrev rm_X1_begin : Room := { frames := 3, cells := 0, slots := 0, locals := 82 }
set_option maxHeartbeats 4000000 in
set_option maxRecDepth 100000 in
theorem c_X1_begin (I : Nat → Nat → Int32) (P : Nat → Nat → Option Nat) (a0 : Nat) (x1 : Int32) (a2 : Nat) (res : (Nat → Nat → Int32)) (hf : fn_X1_begin K N I P a0 x1 a2 = some res) : Met l yX1_begin wz_X1_begin rm_X1_begin (va_Pc [.ref a0, .int x1, .ref a2] (mm_B D cs A L K N z w I P)) (va_Qv (fun (_ : Unit) => True) (fun _ => mm_B D cs A L K N z w res P) A) 0 0 A := by
  refine Met.ofW (cc := cX1_begin) (maxL := 3) (ret := none) (by decide) rfl ?_
  intro p e s m args below meth c s₁ B hml hv
  obtain ⟨rfl, hBm⟩ := hv
  have hx := B.exec
  have hb := B.bytes
  have hr := B.returns
  have hts := atoms_spec (ws := wz_X1_begin) B.pre
  have hWA : ∀ w ∈ WA, w.before ([.ref a0, .int x1, .ref a2] : List Value).toArray s = true := fun u9 h9 => hts u9 (List.mem_cons_of_mem _ h9)
  have hown : s.vm.findClass RX1 = some m.cls := findClass_of_methodNamed B.named
  have hlocks := B.notSynchronized
  have S : CallFix p m c cX1_begin 3 s ([.ref a0, .int x1, .ref a2] : List Value).toArray wz_X1_begin RX1 := ⟨hx, hb, hml, hown, hts⟩
  have hK := hBm.2.2.2.1
  have hZ := hBm.2.2.2.2
  have hM : mm_W D cs A L K N s.heap I P s.heap [] := ⟨hBm.1, hBm.2.1, hBm.2.2.1, va_S.rf⟩
  have hl := lv_entry ([.ref a0, .int x1, .ref a2]) (n := 3) (Nat.le_of_ble_eq_true rfl)
  rw [lg_entry_eq]
  generalize (lg_sl ([.ref a0, .int x1, .ref a2]) ++ List.replicate (3 - (lg_sl ([.ref a0, .int x1, .ref a2])).length) Slot.unset).toArray = ls at hl ⊢
  have hl : lv_has ls 3 [(0, .ref a0), (1, .int x1), (2, .ref a2)] := hl
  have hin1 : ∀ w ∈ wsX10, w ∈ wz_X1_begin := fun w h => List.mem_cons_of_mem _ (wu_X1 w h)
  have lk11 : (Cond.fieldLink RX1 11 RX1 "all" "[LRasterPainter$Act;").before ([.ref a0, .int x1, .ref a2] : List Value).toArray s = true := hWA _ wa_1_109
  generalize hQ : MQ below (va_Qv (fun (_ : Unit) => True) (fun _ => mm_B D cs A L K N z w res P) A) ([.ref a0, .int x1, .ref a2] : List Value).toArray s 0 0 A = QQ
  rw [fn_X1_begin] at hf
  refine lv_aload_n hx hb dX1_begin_0 rfl (lv_at hl 0 rfl) ?_
  refine gd_e hf (fun hg1 hf => ?_)
  refine bd_e hf (fun q2 eq2 hf => ?_)
  refine ev_getP (v := q2) S hK hM (ci := 1) (n := 3) (C := RX1) (T := TX1) hin1 rfl hg1 0 (by decide) lk11 rfl rfl eq2 rfl dX1_begin_1 ?_
  refine lv_bipush (v := (10 : Int32)) hx hb dX1_begin_4 (by decide) ?_
  refine gd_e hf (fun hg3 hf => ?_)
  refine bd_e hf (fun q4 eq4 hf => ?_)
  refine ev_aald14 S hK hM hg3 (j := 10) rfl eq4 dX1_begin_6 ?_
  refine lv_iload_n hx hb dX1_begin_7 rfl (lv_at hl 1 rfl) ?_
  refine lv_aload_n hx hb dX1_begin_8 rfl (lv_at hl 2 rfl) ?_
  refine bd_e hf (fun r5 er5 hf => ?_)
  refine gd_e hf (fun hg6 hf => ?_)
  refine ev_callv (va_runV (As := [.int x1, .ref a2]) (rest := []) S (c_X0_note (l := l) I P q4 x1 a2 r5 er5) (cwV 2 hts (gi_v wa_3_69 wa_3_70 wa_3_71 wa_1_6 wa_3_72) rfl rfl rfl (by decide +kernel) ⟨Nat.le_of_ble_eq_true rfl, Nat.le_of_ble_eq_true rfl⟩) ⟨mm_B_blind, ev_recv hK hM (ci := 0) rfl hg6 rfl, fun U hU hW => ⟨rfl, mm_B_of hK hZ hM hU hW⟩⟩ rfl rfl hl.1 rfl (lv_room (Nat.le_of_ble_eq_true rfl)) dX1_begin_9 ⟨Nat.zero_le _, Nat.zero_le _⟩) hM (fun H locs hM => ?_)
  obtain rfl := Option.some.inj hf
  subst hQ
  exact ev_vret S hr hlocks hK hZ hM dX1_begin_12
noncomputable def fn_X1_dropOldest_L9 (K : Nat → Nat) (N : Nat → Nat) (a0 : Nat) : Nat → Int32 → (Nat → Nat → Option Nat) → Option ((Nat → Nat → Option Nat))
  | 0, _, _ => none
  | n + 1, v5, P6 => if (9 : Int32) ≤ v5 then (some P6) else (Option.bind (P6 a0 (0)) (fun q9 => gd (K q9 = 14 ∧ vp_in (v5 + (1 : Int32)) (N q9)) (Option.bind (P6 q9 ((v5 + (1 : Int32))).toNatClampNeg) (fun q11 => gd (K q9 = 14 ∧ vp_in v5 (N q9)) (gd (K q11 = 1) (Option.bind (some (upP P6 q9 (v5.toNatClampNeg) (some q11))) (fun P14 => fn_X1_dropOldest_L9 K N a0 n (v5 + (1 : Int32)) P14)))))))
noncomputable def fn_X1_dropOldest (K N : Nat → Nat) (I : Nat → Nat → Int32) (P : Nat → Nat → Option Nat) (a0 : Nat) : Option ((Nat → Nat → Int32) × (Nat → Nat → Option Nat)) := gd (K a0 = 2) (Option.bind (P a0 (0)) (fun q2 => gd (K q2 = 14 ∧ vp_in (0 : Int32) (N q2)) (Option.bind (P q2 (0)) (fun q4 => Option.bind (fn_X1_dropOldest_L9 K N a0 FU (0 : Int32) P) (fun (r7 : (Nat → Nat → Option Nat)) => Option.bind (r7 a0 (0)) (fun q15 => gd (K q15 = 14 ∧ vp_in (9 : Int32) (N q15)) (gd (K q4 = 1) (Option.bind (some (upP r7 q15 (9) (some q4))) (fun P18 => Option.bind (some (up2 I a0 1 (9 : Int32))) (fun I19 => some (I19, P18)))))))))))
abbrev wz_X1_dropOldest : List Cond := Cond.code yX1_dropOldest cX1_dropOldest 3 none :: WA
abbrev rm_X1_dropOldest : Room := { frames := 1, cells := 0, slots := 0, locals := 12 }
set_option maxHeartbeats 4000000 in
set_option maxRecDepth 100000 in
theorem c_X1_dropOldest (I : Nat → Nat → Int32) (P : Nat → Nat → Option Nat) (a0 : Nat) (res : (Nat → Nat → Int32) × (Nat → Nat → Option Nat)) (hf : fn_X1_dropOldest K N I P a0 = some res) : Met l yX1_dropOldest wz_X1_dropOldest rm_X1_dropOldest (va_Pc [.ref a0] (mm_B D cs A L K N z w I P)) (va_Qv (fun (_ : Unit) => True) (fun _ => mm_B D cs A L K N z w res.1 res.2) A) 0 0 A := by
  refine Met.ofW (cc := cX1_dropOldest) (maxL := 3) (ret := none) (by decide) rfl ?_
  intro p e s m args below meth c s₁ B hml hv
  obtain ⟨rfl, hBm⟩ := hv
  have hx := B.exec
  have hb := B.bytes
  have hr := B.returns
  have hts := atoms_spec (ws := wz_X1_dropOldest) B.pre
  have hWA : ∀ w ∈ WA, w.before ([.ref a0] : List Value).toArray s = true := fun u9 h9 => hts u9 (List.mem_cons_of_mem _ h9)
  have hown : s.vm.findClass RX1 = some m.cls := findClass_of_methodNamed B.named
  have hlocks := B.notSynchronized
  have S : CallFix p m c cX1_dropOldest 3 s ([.ref a0] : List Value).toArray wz_X1_dropOldest RX1 := ⟨hx, hb, hml, hown, hts⟩
  have hK := hBm.2.2.2.1
  have hZ := hBm.2.2.2.2
  have hM : mm_W D cs A L K N s.heap I P s.heap [] := ⟨hBm.1, hBm.2.1, hBm.2.2.1, va_S.rf⟩
  have hl := lv_entry ([.ref a0]) (n := 3) (Nat.le_of_ble_eq_true rfl)
  rw [lg_entry_eq]
  generalize (lg_sl ([.ref a0]) ++ List.replicate (3 - (lg_sl ([.ref a0])).length) Slot.unset).toArray = ls at hl ⊢
  have hl : lv_has ls 3 [(0, .ref a0)] := hl
  have hin1 : ∀ w ∈ wsX10, w ∈ wz_X1_dropOldest := fun w h => List.mem_cons_of_mem _ (wu_X1 w h)
  have lk11 : (Cond.fieldLink RX1 11 RX1 "all" "[LRasterPainter$Act;").before ([.ref a0] : List Value).toArray s = true := hWA _ wa_1_109
  have lk18 : (Cond.fieldLink RX1 18 RX1 "keptCount" "I").before ([.ref a0] : List Value).toArray s = true := hWA _ wa_1_110
  generalize hQ : MQ below (va_Qv (fun (_ : Unit) => True) (fun _ => mm_B D cs A L K N z w res.1 res.2) A) ([.ref a0] : List Value).toArray s 0 0 A = QQ
  rw [fn_X1_dropOldest] at hf
  refine lv_aload_n hx hb dX1_dropOldest_0 rfl (lv_at hl 0 rfl) ?_
  refine gd_e hf (fun hg1 hf => ?_)
  refine bd_e hf (fun q2 eq2 hf => ?_)
  refine ev_getP (v := q2) S hK hM (ci := 1) (n := 3) (C := RX1) (T := TX1) hin1 rfl hg1 0 (by decide) lk11 rfl rfl eq2 rfl dX1_dropOldest_1 ?_
  refine lv_iconst (v := (0 : Int32)) hx hb dX1_dropOldest_4 (by decide) ?_
  refine gd_e hf (fun hg3 hf => ?_)
  refine bd_e hf (fun q4 eq4 hf => ?_)
  refine ev_aald14 S hK hM hg3 (j := 0) rfl eq4 dX1_dropOldest_5 ?_
  refine lv_astore_n (lv' := [(1, .ref q4), (0, .ref a0)]) hx hb dX1_dropOldest_6 rfl hl (by decide) rfl (fun ls hl => ?_)
  refine lv_iconst (v := (0 : Int32)) hx hb dX1_dropOldest_7 (by decide) ?_
  refine lv_istore_n (lv' := [(2, .int (0 : Int32)), (1, .ref q4), (0, .ref a0)]) hx hb dX1_dropOldest_8 rfl hl (by decide) rfl (fun ls hl => ?_)
  have lp9_14 : ∀ (n : Nat) (v5 : Int32) (P6 : Nat → Nat → Option Nat) (H : Heap) (locs : List Loc) (ls : Array Slot) (r7 : (Nat → Nat → Option Nat)), mm_W D cs A L K N s.heap I P6 H locs → lv_has ls 3 [(0, .ref a0), (1, .ref q4), (2, .int v5)] → fn_X1_dropOldest_L9 K N a0 n v5 P6 = some r7 → (∀ (H : Heap) (locs : List Loc) (ls : Array Slot), mm_W D cs A L K N s.heap I r7 H locs → lv_has ls 3 [(0, .ref a0), (1, .ref q4)] → W p l e (headSpec wz_X1_dropOldest rm_X1_dropOldest).room s m ([.ref a0] : List Value).toArray below meth c H locs 0 0 QQ (F0 m 35 ls [])) → W p l e (headSpec wz_X1_dropOldest rm_X1_dropOldest).room s m ([.ref a0] : List Value).toArray below meth c H locs 0 0 QQ (F0 m 9 ls []) := by
    intro n
    induction n with
    | zero => intro v5 P6 H locs ls r7 hM hl hf kk; exact nn_x (show (none : Option ((Nat → Nat → Option Nat))) = some r7 from hf)
    | succ n ih =>
      intro v5 P6 H locs ls r7 hM hl hf kk
      rw [fn_X1_dropOldest_L9] at hf
      refine lv_iload_n hx hb dX1_dropOldest_9 rfl (lv_at hl 2 rfl) ?_
      refine lv_bipush (v := (9 : Int32)) hx hb dX1_dropOldest_10 (by decide) ?_
      refine lv_icmp_ge (tgt := 35) hx hb dX1_dropOldest_12 (by decide) (fun hc8 => ?_) (fun hc8 => ?_)
      · have hf := it_p hf hc8
        obtain rfl := Option.some.inj hf
        exact kk _ _ _ hM (lv_sub hl [0, 1] rfl)
      · have hf := it_n hf hc8
        refine lv_aload_n hx hb dX1_dropOldest_15 rfl (lv_at hl 0 rfl) ?_
        refine bd_e hf (fun q9 eq9 hf => ?_)
        refine ev_getP (v := q9) S hK hM (ci := 1) (n := 3) (C := RX1) (T := TX1) hin1 rfl hg1 0 (by decide) lk11 rfl rfl eq9 rfl dX1_dropOldest_16 ?_
        refine lv_iload_n hx hb dX1_dropOldest_19 rfl (lv_at hl 2 rfl) ?_
        refine lv_aload_n hx hb dX1_dropOldest_20 rfl (lv_at hl 0 rfl) ?_
        refine ev_getP (v := q9) S hK hM (ci := 1) (n := 3) (C := RX1) (T := TX1) hin1 rfl hg1 0 (by decide) lk11 rfl rfl eq9 rfl dX1_dropOldest_21 ?_
        refine lv_iload_n hx hb dX1_dropOldest_24 rfl (lv_at hl 2 rfl) ?_
        refine lv_iconst (v := (1 : Int32)) hx hb dX1_dropOldest_25 (by decide) ?_
        refine lv_iadd hx hb dX1_dropOldest_26 ?_
        refine gd_e hf (fun hg10 hf => ?_)
        refine bd_e hf (fun q11 eq11 hf => ?_)
        refine ev_aald14 S hK hM hg10 (j := ((v5 + (1 : Int32))).toNatClampNeg) rfl eq11 dX1_dropOldest_27 ?_
        refine gd_e hf (fun hg12 hf => ?_)
        refine gd_e hf (fun hg13 hf => ?_)
        refine ev_aast14 S hK hM hg12 (j := v5.toNatClampNeg) rfl hg13 dX1_dropOldest_28 (fun P14 eP14 H locs hM => ?_)
        have hf := nm_x eP14 hf
        refine lv_iinc (v := (v5 + (1 : Int32))) (lv' := [(2, .int (v5 + (1 : Int32))), (0, .ref a0), (1, .ref q4)]) hx hb dX1_dropOldest_29 hl (k := 2) rfl rfl (by decide) rfl (fun ls hl => ?_)
        refine lv_goto (tgt := 9) hx hb dX1_dropOldest_32 (by decide) ?_
        exact ih (v5 + (1 : Int32)) P14 _ _ _ _ hM (lv_sub hl [1, 2, 0] rfl) hf kk
  refine bd_e hf (fun r7 er7 hf => ?_)
  refine lp9_14 FU (0 : Int32) P _ _ _ r7 hM (lv_sub hl [2, 1, 0] rfl) er7 (fun H locs ls hM hl => ?_)
  refine lv_aload_n hx hb dX1_dropOldest_35 rfl (lv_at hl 0 rfl) ?_
  refine bd_e hf (fun q15 eq15 hf => ?_)
  refine ev_getP (v := q15) S hK hM (ci := 1) (n := 3) (C := RX1) (T := TX1) hin1 rfl hg1 0 (by decide) lk11 rfl rfl eq15 rfl dX1_dropOldest_36 ?_
  refine lv_bipush (v := (9 : Int32)) hx hb dX1_dropOldest_39 (by decide) ?_
  refine lv_aload_n hx hb dX1_dropOldest_41 rfl (lv_at hl 1 rfl) ?_
  refine gd_e hf (fun hg16 hf => ?_)
  refine gd_e hf (fun hg17 hf => ?_)
  refine ev_aast14 S hK hM hg16 (j := 9) rfl hg17 dX1_dropOldest_42 (fun P18 eP18 H locs hM => ?_)
  have hf := nm_x eP18 hf
  refine lv_aload_n hx hb dX1_dropOldest_43 rfl (lv_at hl 0 rfl) ?_
  refine lv_bipush (v := (9 : Int32)) hx hb dX1_dropOldest_44 (by decide) ?_
  refine ev_put S hK hM (ci := 1) (n := 3) (C := RX1) (T := TX1) hin1 tyX1 tyX1_ok nmX1 rfl hg1 1 (by decide) lk18 rfl rfl rfl rfl rfl (Nat.le_of_ble_eq_true rfl) rfl dX1_dropOldest_46 (fun I19 eI19 H locs hM => ?_)
  have hf := nm_x eI19 hf
  obtain rfl := Option.some.inj hf
  subst hQ
  exact ev_vret S hr hlocks hK hZ hM dX1_dropOldest_49
noncomputable def fn_X1_end (K N : Nat → Nat) (I : Nat → Nat → Int32) (P : Nat → Nat → Option Nat) (a0 : Nat) (a1 : Nat) : Option ((Nat → Nat → Int32) × (Nat → Nat → Option Nat)) := gd (K a0 = 2) (Option.bind (P a0 (0)) (fun q2 => gd (K q2 = 14 ∧ vp_in (10 : Int32) (N q2)) (Option.bind (P q2 (10)) (fun q4 => Option.bind (fn_X0_findTiles K N I P q4 a1) (fun (r5 : (Nat → Nat → Int32)) => gd (K q4 = 1) (if (r5 q4 1) = 0 then (some (r5, P)) else (Option.bind (some (up2 r5 a0 2 (0 : Int32))) (fun I8 => Option.bind (if (I8 a0 1) < (10 : Int32) then (some (I8, P)) else (Option.bind (fn_X1_dropOldest K N I8 P a0) (fun (r21 : (Nat → Nat → Int32) × (Nat → Nat → Option Nat)) => some (r21.1, r21.2)))) (fun (j10 : (Nat → Nat → Int32) × (Nat → Nat → Option Nat)) => Option.bind (j10.2 a0 (0)) (fun q11 => gd (K q11 = 14 ∧ vp_in (j10.1 a0 1) (N q11)) (Option.bind (j10.2 q11 ((j10.1 a0 1)).toNatClampNeg) (fun q13 => gd (K q11 = 14 ∧ vp_in (10 : Int32) (N q11)) (gd (K q13 = 1) (Option.bind (some (upP j10.2 q11 (10) (some q13))) (fun P16 => Option.bind (P16 a0 (0)) (fun q17 => gd (K q17 = 14 ∧ vp_in (j10.1 a0 1) (N q17)) (Option.bind (some (upP P16 q17 ((j10.1 a0 1)).toNatClampNeg (some q4))) (fun P19 => Option.bind (some (up2 j10.1 a0 1 ((j10.1 a0 1) + (1 : Int32)))) (fun I20 => some (I20, P19))))))))))))))))))))
abbrev wz_X1_end : List Cond := Cond.code yX1_end cX1_end 3 none :: WA
abbrev rm_X1_end : Room := { frames := 3, cells := 0, slots := 0, locals := 56 }
set_option maxHeartbeats 4000000 in
set_option maxRecDepth 100000 in
theorem c_X1_end (I : Nat → Nat → Int32) (P : Nat → Nat → Option Nat) (a0 : Nat) (a1 : Nat) (res : (Nat → Nat → Int32) × (Nat → Nat → Option Nat)) (hf : fn_X1_end K N I P a0 a1 = some res) : Met l yX1_end wz_X1_end rm_X1_end (va_Pc [.ref a0, .ref a1] (mm_B D cs A L K N z w I P)) (va_Qv (fun (_ : Unit) => True) (fun _ => mm_B D cs A L K N z w res.1 res.2) A) 0 0 A := by
  refine Met.ofW (cc := cX1_end) (maxL := 3) (ret := none) (by decide) rfl ?_
  intro p e s m args below meth c s₁ B hml hv
  obtain ⟨rfl, hBm⟩ := hv
  have hx := B.exec
  have hb := B.bytes
  have hr := B.returns
  have hts := atoms_spec (ws := wz_X1_end) B.pre
  have hWA : ∀ w ∈ WA, w.before ([.ref a0, .ref a1] : List Value).toArray s = true := fun u9 h9 => hts u9 (List.mem_cons_of_mem _ h9)
  have hown : s.vm.findClass RX1 = some m.cls := findClass_of_methodNamed B.named
  have hlocks := B.notSynchronized
  have S : CallFix p m c cX1_end 3 s ([.ref a0, .ref a1] : List Value).toArray wz_X1_end RX1 := ⟨hx, hb, hml, hown, hts⟩
  have hK := hBm.2.2.2.1
  have hZ := hBm.2.2.2.2
  have hM : mm_W D cs A L K N s.heap I P s.heap [] := ⟨hBm.1, hBm.2.1, hBm.2.2.1, va_S.rf⟩
  have hl := lv_entry ([.ref a0, .ref a1]) (n := 3) (Nat.le_of_ble_eq_true rfl)
  rw [lg_entry_eq]
  generalize (lg_sl ([.ref a0, .ref a1]) ++ List.replicate (3 - (lg_sl ([.ref a0, .ref a1])).length) Slot.unset).toArray = ls at hl ⊢
  have hl : lv_has ls 3 [(0, .ref a0), (1, .ref a1)] := hl
  have hin1 : ∀ w ∈ wsX10, w ∈ wz_X1_end := fun w h => List.mem_cons_of_mem _ (wu_X1 w h)
  have hin0 : ∀ w ∈ wsX00, w ∈ wz_X1_end := fun w h => List.mem_cons_of_mem _ (wu_X0 w h)
  have lk11 : (Cond.fieldLink RX1 11 RX1 "all" "[LRasterPainter$Act;").before ([.ref a0, .ref a1] : List Value).toArray s = true := hWA _ wa_1_109
  have lk37 : (Cond.fieldLink RX1 37 RX0 "tiles" "I").before ([.ref a0, .ref a1] : List Value).toArray s = true := hWA _ wa_1_96
  have lk22 : (Cond.fieldLink RX1 22 RX1 "undoneCount" "I").before ([.ref a0, .ref a1] : List Value).toArray s = true := hWA _ wa_1_112
  have lk18 : (Cond.fieldLink RX1 18 RX1 "keptCount" "I").before ([.ref a0, .ref a1] : List Value).toArray s = true := hWA _ wa_1_110
  generalize hQ : MQ below (va_Qv (fun (_ : Unit) => True) (fun _ => mm_B D cs A L K N z w res.1 res.2) A) ([.ref a0, .ref a1] : List Value).toArray s 0 0 A = QQ
  rw [fn_X1_end] at hf
  refine lv_aload_n hx hb dX1_end_0 rfl (lv_at hl 0 rfl) ?_
  refine gd_e hf (fun hg1 hf => ?_)
  refine bd_e hf (fun q2 eq2 hf => ?_)
  refine ev_getP (v := q2) S hK hM (ci := 1) (n := 3) (C := RX1) (T := TX1) hin1 rfl hg1 0 (by decide) lk11 rfl rfl eq2 rfl dX1_end_1 ?_
  refine lv_bipush (v := (10 : Int32)) hx hb dX1_end_4 (by decide) ?_
  refine gd_e hf (fun hg3 hf => ?_)
  refine bd_e hf (fun q4 eq4 hf => ?_)
  refine ev_aald14 S hK hM hg3 (j := 10) rfl eq4 dX1_end_6 ?_
  refine lv_astore_n (lv' := [(2, .ref q4), (0, .ref a0), (1, .ref a1)]) hx hb dX1_end_7 rfl hl (by decide) rfl (fun ls hl => ?_)
  refine lv_aload_n hx hb dX1_end_8 rfl (lv_at hl 0 rfl) ?_
  refine lv_aload_n hx hb dX1_end_9 rfl (lv_at hl 2 rfl) ?_
  refine bd_e hf (fun r5 er5 hf => ?_)
  refine gd_e hf (fun hg6 hf => ?_)
  refine ev_callv (va_runV (As := [.ref a1]) (rest := []) S (c_X0_findTiles (l := l) I P q4 a1 r5 er5) (cwV 1 hts (gi_v wa_3_115 wa_3_116 wa_3_117 wa_1_6 wa_3_118) rfl rfl rfl (by decide +kernel) ⟨Nat.le_of_ble_eq_true rfl, Nat.le_of_ble_eq_true rfl⟩) ⟨mm_B_blind, ev_recv hK hM (ci := 0) rfl hg6 rfl, fun U hU hW => ⟨rfl, mm_B_of hK hZ hM hU hW⟩⟩ rfl rfl hl.1 rfl (lv_room (Nat.le_of_ble_eq_true rfl)) dX1_end_10 ⟨Nat.zero_le _, Nat.zero_le _⟩) hM (fun H locs hM => ?_)
  refine lv_aload_n hx hb dX1_end_13 rfl (lv_at hl 0 rfl) ?_
  refine ev_get (v := .int (r5 q4 1)) S hK hM (ci := 0) (n := 4) (C := RX0) (T := TX0) hin0 rfl hg6 1 (by decide) lk37 rfl rfl rfl dX1_end_14 ?_
  refine lv_if_ne (tgt := 21) hx hb dX1_end_17 (by decide) (fun hc7 => ?_) (fun hc7 => ?_)
  · have hf := it_n hf hc7
    refine lv_aload_n hx hb dX1_end_21 rfl (lv_at hl 1 rfl) ?_
    refine lv_iconst (v := (0 : Int32)) hx hb dX1_end_22 (by decide) ?_
    refine ev_put S hK hM (ci := 1) (n := 3) (C := RX1) (T := TX1) hin1 tyX1 tyX1_ok nmX1 rfl hg1 2 (by decide) lk22 rfl rfl rfl rfl rfl (Nat.le_of_ble_eq_true rfl) rfl dX1_end_23 (fun I8 eI8 H locs hM => ?_)
    have hf := nm_x eI8 hf
    refine lv_aload_n hx hb dX1_end_26 rfl (lv_at hl 1 rfl) ?_
    refine ev_get (v := .int (I8 a0 1)) S hK hM (ci := 1) (n := 3) (C := RX1) (T := TX1) hin1 rfl hg1 1 (by decide) lk18 rfl rfl rfl dX1_end_27 ?_
    refine lv_bipush (v := (10 : Int32)) hx hb dX1_end_30 (by decide) ?_
    refine bd_e hf (fun j10 ej10 hf => ?_)
    have kj10 : ∀ (H : Heap) (locs : List Loc) (ls : Array Slot), mm_W D cs A L K N s.heap j10.1 j10.2 H locs → lv_has ls 3 [(0, .ref a0), (2, .ref q4)] → W p l e (headSpec wz_X1_end rm_X1_end).room s m ([.ref a0, .ref a1] : List Value).toArray below meth c H locs 0 0 QQ (F0 m 39 ls []) := by
      intro H locs ls hM hl
      refine lv_aload_n hx hb dX1_end_39 rfl (lv_at hl 0 rfl) ?_
      refine bd_e hf (fun q11 eq11 hf => ?_)
      refine ev_getP (v := q11) S hK hM (ci := 1) (n := 3) (C := RX1) (T := TX1) hin1 rfl hg1 0 (by decide) lk11 rfl rfl eq11 rfl dX1_end_40 ?_
      refine lv_bipush (v := (10 : Int32)) hx hb dX1_end_43 (by decide) ?_
      refine lv_aload_n hx hb dX1_end_45 rfl (lv_at hl 0 rfl) ?_
      refine ev_getP (v := q11) S hK hM (ci := 1) (n := 3) (C := RX1) (T := TX1) hin1 rfl hg1 0 (by decide) lk11 rfl rfl eq11 rfl dX1_end_46 ?_
      refine lv_aload_n hx hb dX1_end_49 rfl (lv_at hl 0 rfl) ?_
      refine ev_get (v := .int (j10.1 a0 1)) S hK hM (ci := 1) (n := 3) (C := RX1) (T := TX1) hin1 rfl hg1 1 (by decide) lk18 rfl rfl rfl dX1_end_50 ?_
      refine gd_e hf (fun hg12 hf => ?_)
      refine bd_e hf (fun q13 eq13 hf => ?_)
      refine ev_aald14 S hK hM hg12 (j := ((j10.1 a0 1)).toNatClampNeg) rfl eq13 dX1_end_53 ?_
      refine gd_e hf (fun hg14 hf => ?_)
      refine gd_e hf (fun hg15 hf => ?_)
      refine ev_aast14 S hK hM hg14 (j := 10) rfl hg15 dX1_end_54 (fun P16 eP16 H locs hM => ?_)
      have hf := nm_x eP16 hf
      refine lv_aload_n hx hb dX1_end_55 rfl (lv_at hl 0 rfl) ?_
      refine bd_e hf (fun q17 eq17 hf => ?_)
      refine ev_getP (v := q17) S hK hM (ci := 1) (n := 3) (C := RX1) (T := TX1) hin1 rfl hg1 0 (by decide) lk11 rfl rfl eq17 rfl dX1_end_56 ?_
      refine lv_aload_n hx hb dX1_end_59 rfl (lv_at hl 0 rfl) ?_
      refine ev_get (v := .int (j10.1 a0 1)) S hK hM (ci := 1) (n := 3) (C := RX1) (T := TX1) hin1 rfl hg1 1 (by decide) lk18 rfl rfl rfl dX1_end_60 ?_
      refine lv_aload_n hx hb dX1_end_63 rfl (lv_at hl 1 rfl) ?_
      refine gd_e hf (fun hg18 hf => ?_)
      refine ev_aast14 S hK hM hg18 (j := ((j10.1 a0 1)).toNatClampNeg) rfl hg6 dX1_end_64 (fun P19 eP19 H locs hM => ?_)
      have hf := nm_x eP19 hf
      refine lv_aload_n hx hb dX1_end_65 rfl (lv_at hl 0 rfl) ?_
      refine lv_dup hx hb dX1_end_66 rfl ?_
      refine ev_get (v := .int (j10.1 a0 1)) S hK hM (ci := 1) (n := 3) (C := RX1) (T := TX1) hin1 rfl hg1 1 (by decide) lk18 rfl rfl rfl dX1_end_67 ?_
      refine lv_iconst (v := (1 : Int32)) hx hb dX1_end_70 (by decide) ?_
      refine lv_iadd hx hb dX1_end_71 ?_
      refine ev_put S hK hM (ci := 1) (n := 3) (C := RX1) (T := TX1) hin1 tyX1 tyX1_ok nmX1 rfl hg1 1 (by decide) lk18 rfl rfl rfl rfl rfl (Nat.le_of_ble_eq_true rfl) rfl dX1_end_72 (fun I20 eI20 H locs hM => ?_)
      have hf := nm_x eI20 hf
      obtain rfl := Option.some.inj hf
      subst hQ
      exact ev_vret S hr hlocks hK hZ hM dX1_end_75
    have hf := ej10
    refine lv_icmp_lt (tgt := 39) hx hb dX1_end_32 (by decide) (fun hc9 => ?_) (fun hc9 => ?_)
    · have hf := it_p hf hc9
      obtain rfl := Option.some.inj hf
      exact kj10 _ _ _ hM (lv_sub hl [1, 0] rfl)
    · have hf := it_n hf hc9
      refine lv_aload_n hx hb dX1_end_35 rfl (lv_at hl 1 rfl) ?_
      refine bd_e hf (fun r21 er21 hf => ?_)
      refine ev_callv (va_runV (As := []) (rest := []) S (c_X1_dropOldest (l := l) I8 P a0 r21 er21) (cwV 0 hts (gi_v wa_3_122 wa_3_124 wa_s_14 wa_1_5 wa_3_125) rfl rfl rfl (by decide +kernel) ⟨Nat.le_of_ble_eq_true rfl, Nat.le_of_ble_eq_true rfl⟩) ⟨mm_B_blind, ev_recv hK hM (ci := 1) rfl hg1 rfl, fun U hU hW => ⟨rfl, mm_B_of hK hZ hM hU hW⟩⟩ rfl rfl hl.1 rfl (lv_room (Nat.le_of_ble_eq_true rfl)) dX1_end_36 ⟨Nat.zero_le _, Nat.zero_le _⟩) hM (fun H locs hM => ?_)
      obtain rfl := Option.some.inj hf
      exact kj10 _ _ _ hM (lv_sub hl [1, 0] rfl)
  · have hf := it_p hf hc7
    obtain rfl := Option.some.inj hf
    subst hQ
    exact ev_vret S hr hlocks hK hZ hM dX1_end_20
noncomputable def fn_X1_swapped (K N : Nat → Nat) (I : Nat → Nat → Int32) (P : Nat → Nat → Option Nat) (a0 : Nat) (a1 : Nat) : Option (Int32 × (Nat → Nat → Int32)) := gd (K a0 = 1) (gd (K a1 = 15 ∧ vp_in (I a0 0) (N a1)) (Option.bind (P a1 ((I a0 0)).toNatClampNeg) (fun q3 => Option.bind (fn_X0_swapTiles K N I P a0 q3) (fun (r4 : (Nat → Nat → Int32)) => Option.bind (fn_J6_bitCount_0f7a4 (r4 a0 1)) (fun (r5 : Int32) => some (r5, r4))))))
abbrev wz_X1_swapped : List Cond := Cond.code yX1_swapped cX1_swapped 2 (some .int) :: WA
abbrev rm_X1_swapped : Room := { frames := 3, cells := 0, slots := 0, locals := 58 }
set_option maxHeartbeats 4000000 in
set_option maxRecDepth 100000 in
theorem c_X1_swapped (I : Nat → Nat → Int32) (P : Nat → Nat → Option Nat) (a0 : Nat) (a1 : Nat) (res : Int32 × (Nat → Nat → Int32)) (hf : fn_X1_swapped K N I P a0 a1 = some res) : Met l yX1_swapped wz_X1_swapped rm_X1_swapped (va_Pc [.ref a0, .ref a1] (mm_B D cs A L K N z w I P)) (va_Qi (fun r (_ : Unit) => r = res.1) (fun _ => mm_B D cs A L K N z w res.2 P) A) 0 0 A := by
  refine Met.ofW (cc := cX1_swapped) (maxL := 2) (ret := (some .int)) (by decide) rfl ?_
  intro p e s m args below meth c s₁ B hml hv
  obtain ⟨rfl, hBm⟩ := hv
  have hx := B.exec
  have hb := B.bytes
  have hr := B.returns
  have hts := atoms_spec (ws := wz_X1_swapped) B.pre
  have hWA : ∀ w ∈ WA, w.before ([.ref a0, .ref a1] : List Value).toArray s = true := fun u9 h9 => hts u9 (List.mem_cons_of_mem _ h9)
  have hown : s.vm.findClass RX1 = some m.cls := findClass_of_methodNamed B.named
  have hlocks := B.notSynchronized
  have S : CallFix p m c cX1_swapped 2 s ([.ref a0, .ref a1] : List Value).toArray wz_X1_swapped RX1 := ⟨hx, hb, hml, hown, hts⟩
  have hK := hBm.2.2.2.1
  have hZ := hBm.2.2.2.2
  have hM : mm_W D cs A L K N s.heap I P s.heap [] := ⟨hBm.1, hBm.2.1, hBm.2.2.1, va_S.rf⟩
  have hl := lv_entry ([.ref a0, .ref a1]) (n := 2) (Nat.le_of_ble_eq_true rfl)
  rw [lg_entry_eq]
  generalize (lg_sl ([.ref a0, .ref a1]) ++ List.replicate (2 - (lg_sl ([.ref a0, .ref a1])).length) Slot.unset).toArray = ls at hl ⊢
  have hl : lv_has ls 2 [(0, .ref a0), (1, .ref a1)] := hl
  have hin0 : ∀ w ∈ wsX00, w ∈ wz_X1_swapped := fun w h => List.mem_cons_of_mem _ (wu_X0 w h)
  have lk47 : (Cond.fieldLink RX1 47 RX0 "layer" "I").before ([.ref a0, .ref a1] : List Value).toArray s = true := hWA _ wa_1_94
  have lk37 : (Cond.fieldLink RX1 37 RX0 "tiles" "I").before ([.ref a0, .ref a1] : List Value).toArray s = true := hWA _ wa_1_96
  generalize hQ : MQ below (va_Qi (fun r (_ : Unit) => r = res.1) (fun _ => mm_B D cs A L K N z w res.2 P) A) ([.ref a0, .ref a1] : List Value).toArray s 0 0 A = QQ
  rw [fn_X1_swapped] at hf
  refine lv_aload_n hx hb dX1_swapped_0 rfl (lv_at hl 0 rfl) ?_
  refine lv_aload_n hx hb dX1_swapped_1 rfl (lv_at hl 1 rfl) ?_
  refine lv_aload_n hx hb dX1_swapped_2 rfl (lv_at hl 0 rfl) ?_
  refine gd_e hf (fun hg1 hf => ?_)
  refine ev_get (v := .int (I a0 0)) S hK hM (ci := 0) (n := 4) (C := RX0) (T := TX0) hin0 rfl hg1 0 (by decide) lk47 rfl rfl rfl dX1_swapped_3 ?_
  refine gd_e hf (fun hg2 hf => ?_)
  refine bd_e hf (fun q3 eq3 hf => ?_)
  refine ev_aald15 S hK hM hg2 (j := ((I a0 0)).toNatClampNeg) rfl eq3 dX1_swapped_6 ?_
  refine bd_e hf (fun r4 er4 hf => ?_)
  refine ev_callv (va_runV (As := [.ref q3]) (rest := []) S (c_X0_swapTiles (l := l) I P a0 q3 r4 er4) (cwV 1 hts (gi_v wa_3_175 wa_3_176 wa_3_177 wa_1_6 wa_3_178) rfl rfl rfl (by decide +kernel) ⟨Nat.le_of_ble_eq_true rfl, Nat.le_of_ble_eq_true rfl⟩) ⟨mm_B_blind, ev_recv hK hM (ci := 0) rfl hg1 rfl, fun U hU hW => ⟨rfl, mm_B_of hK hZ hM hU hW⟩⟩ rfl rfl hl.1 rfl (lv_room (Nat.le_of_ble_eq_true rfl)) dX1_swapped_7 ⟨Nat.zero_le _, Nat.zero_le _⟩) hM (fun H locs hM => ?_)
  refine lv_aload_n hx hb dX1_swapped_10 rfl (lv_at hl 0 rfl) ?_
  refine ev_get (v := .int (r4 a0 1)) S hK hM (ci := 0) (n := 4) (C := RX0) (T := TX0) hin0 rfl hg1 1 (by decide) lk37 rfl rfl rfl dX1_swapped_11 ?_
  refine bd_e hf (fun r5 er5 hf => ?_)
  refine ev_calli (va_runS (As := [.int (r4 a0 1)]) (rest := []) S (c_J6_bitCount_0f7a4 (l := l) r4 P (r4 a0 1) r5 er5) (va_cwS 1 hts (gi_s wa_3_179 wa_3_180 wa_1_19 wa_3_181) rfl rfl rfl (by decide +kernel) ⟨Nat.le_of_ble_eq_true rfl, Nat.le_of_ble_eq_true rfl⟩) ⟨mm_B_blind, fun U hU hW => ⟨rfl, mm_B_of hK hZ hM hU hW⟩⟩ rfl rfl hl.1 rfl (lv_room (Nat.le_of_ble_eq_true rfl)) dX1_swapped_14 ⟨Nat.zero_le _, Nat.zero_le _⟩) hM (fun H locs hM => ?_)
  obtain rfl := Option.some.inj hf
  subst hQ
  exact ev_iret S hr hlocks hK hZ hM dX1_swapped_17
noncomputable def fn_X1_takeBack (K N : Nat → Nat) (I : Nat → Nat → Int32) (P : Nat → Nat → Option Nat) (a0 : Nat) (a1 : Nat) : Option (Int32 × (Nat → Nat → Int32)) := gd (K a0 = 2) (if (I a0 1) = 0 then (some ((-3 : Int32), I)) else (Option.bind (some (up2 I a0 1 ((I a0 1) - (1 : Int32)))) (fun I3 => Option.bind (some (up2 I3 a0 2 ((I3 a0 2) + (1 : Int32)))) (fun I4 => Option.bind (P a0 (0)) (fun q5 => gd (K q5 = 14 ∧ vp_in (I4 a0 1) (N q5)) (Option.bind (P q5 ((I4 a0 1)).toNatClampNeg) (fun q7 => Option.bind (fn_X1_swapped K N I4 P q7 a1) (fun (r8 : Int32 × (Nat → Nat → Int32)) => some (r8.1, r8.2)))))))))
abbrev wz_X1_takeBack : List Cond := Cond.code yX1_takeBack cX1_takeBack 2 (some .int) :: WA
abbrev rm_X1_takeBack : Room := { frames := 4, cells := 0, slots := 0, locals := 79 }
set_option maxHeartbeats 4000000 in
set_option maxRecDepth 100000 in
theorem c_X1_takeBack (I : Nat → Nat → Int32) (P : Nat → Nat → Option Nat) (a0 : Nat) (a1 : Nat) (res : Int32 × (Nat → Nat → Int32)) (hf : fn_X1_takeBack K N I P a0 a1 = some res) : Met l yX1_takeBack wz_X1_takeBack rm_X1_takeBack (va_Pc [.ref a0, .ref a1] (mm_B D cs A L K N z w I P)) (va_Qi (fun r (_ : Unit) => r = res.1) (fun _ => mm_B D cs A L K N z w res.2 P) A) 0 0 A := by
  refine Met.ofW (cc := cX1_takeBack) (maxL := 2) (ret := (some .int)) (by decide) rfl ?_
  intro p e s m args below meth c s₁ B hml hv
  obtain ⟨rfl, hBm⟩ := hv
  have hx := B.exec
  have hb := B.bytes
  have hr := B.returns
  have hts := atoms_spec (ws := wz_X1_takeBack) B.pre
  have hWA : ∀ w ∈ WA, w.before ([.ref a0, .ref a1] : List Value).toArray s = true := fun u9 h9 => hts u9 (List.mem_cons_of_mem _ h9)
  have hown : s.vm.findClass RX1 = some m.cls := findClass_of_methodNamed B.named
  have hlocks := B.notSynchronized
  have S : CallFix p m c cX1_takeBack 2 s ([.ref a0, .ref a1] : List Value).toArray wz_X1_takeBack RX1 := ⟨hx, hb, hml, hown, hts⟩
  have hK := hBm.2.2.2.1
  have hZ := hBm.2.2.2.2
  have hM : mm_W D cs A L K N s.heap I P s.heap [] := ⟨hBm.1, hBm.2.1, hBm.2.2.1, va_S.rf⟩
  have hl := lv_entry ([.ref a0, .ref a1]) (n := 2) (Nat.le_of_ble_eq_true rfl)
  rw [lg_entry_eq]
  generalize (lg_sl ([.ref a0, .ref a1]) ++ List.replicate (2 - (lg_sl ([.ref a0, .ref a1])).length) Slot.unset).toArray = ls at hl ⊢
  have hl : lv_has ls 2 [(0, .ref a0), (1, .ref a1)] := hl
  have hin1 : ∀ w ∈ wsX10, w ∈ wz_X1_takeBack := fun w h => List.mem_cons_of_mem _ (wu_X1 w h)
  have lk18 : (Cond.fieldLink RX1 18 RX1 "keptCount" "I").before ([.ref a0, .ref a1] : List Value).toArray s = true := hWA _ wa_1_110
  have lk22 : (Cond.fieldLink RX1 22 RX1 "undoneCount" "I").before ([.ref a0, .ref a1] : List Value).toArray s = true := hWA _ wa_1_112
  have lk11 : (Cond.fieldLink RX1 11 RX1 "all" "[LRasterPainter$Act;").before ([.ref a0, .ref a1] : List Value).toArray s = true := hWA _ wa_1_109
  generalize hQ : MQ below (va_Qi (fun r (_ : Unit) => r = res.1) (fun _ => mm_B D cs A L K N z w res.2 P) A) ([.ref a0, .ref a1] : List Value).toArray s 0 0 A = QQ
  rw [fn_X1_takeBack] at hf
  refine lv_aload_n hx hb dX1_takeBack_0 rfl (lv_at hl 0 rfl) ?_
  refine gd_e hf (fun hg1 hf => ?_)
  refine ev_get (v := .int (I a0 1)) S hK hM (ci := 1) (n := 3) (C := RX1) (T := TX1) hin1 rfl hg1 1 (by decide) lk18 rfl rfl rfl dX1_takeBack_1 ?_
  refine lv_if_ne (tgt := 10) hx hb dX1_takeBack_4 (by decide) (fun hc2 => ?_) (fun hc2 => ?_)
  · have hf := it_n hf hc2
    refine lv_aload_n hx hb dX1_takeBack_10 rfl (lv_at hl 0 rfl) ?_
    refine lv_dup hx hb dX1_takeBack_11 rfl ?_
    refine ev_get (v := .int (I a0 1)) S hK hM (ci := 1) (n := 3) (C := RX1) (T := TX1) hin1 rfl hg1 1 (by decide) lk18 rfl rfl rfl dX1_takeBack_12 ?_
    refine lv_iconst (v := (1 : Int32)) hx hb dX1_takeBack_15 (by decide) ?_
    refine lv_isub hx hb dX1_takeBack_16 ?_
    refine ev_put S hK hM (ci := 1) (n := 3) (C := RX1) (T := TX1) hin1 tyX1 tyX1_ok nmX1 rfl hg1 1 (by decide) lk18 rfl rfl rfl rfl rfl (Nat.le_of_ble_eq_true rfl) rfl dX1_takeBack_17 (fun I3 eI3 H locs hM => ?_)
    have hf := nm_x eI3 hf
    refine lv_aload_n hx hb dX1_takeBack_20 rfl (lv_at hl 0 rfl) ?_
    refine lv_dup hx hb dX1_takeBack_21 rfl ?_
    refine ev_get (v := .int (I3 a0 2)) S hK hM (ci := 1) (n := 3) (C := RX1) (T := TX1) hin1 rfl hg1 2 (by decide) lk22 rfl rfl rfl dX1_takeBack_22 ?_
    refine lv_iconst (v := (1 : Int32)) hx hb dX1_takeBack_25 (by decide) ?_
    refine lv_iadd hx hb dX1_takeBack_26 ?_
    refine ev_put S hK hM (ci := 1) (n := 3) (C := RX1) (T := TX1) hin1 tyX1 tyX1_ok nmX1 rfl hg1 2 (by decide) lk22 rfl rfl rfl rfl rfl (Nat.le_of_ble_eq_true rfl) rfl dX1_takeBack_27 (fun I4 eI4 H locs hM => ?_)
    have hf := nm_x eI4 hf
    refine lv_aload_n hx hb dX1_takeBack_30 rfl (lv_at hl 0 rfl) ?_
    refine bd_e hf (fun q5 eq5 hf => ?_)
    refine ev_getP (v := q5) S hK hM (ci := 1) (n := 3) (C := RX1) (T := TX1) hin1 rfl hg1 0 (by decide) lk11 rfl rfl eq5 rfl dX1_takeBack_31 ?_
    refine lv_aload_n hx hb dX1_takeBack_34 rfl (lv_at hl 0 rfl) ?_
    refine ev_get (v := .int (I4 a0 1)) S hK hM (ci := 1) (n := 3) (C := RX1) (T := TX1) hin1 rfl hg1 1 (by decide) lk18 rfl rfl rfl dX1_takeBack_35 ?_
    refine gd_e hf (fun hg6 hf => ?_)
    refine bd_e hf (fun q7 eq7 hf => ?_)
    refine ev_aald14 S hK hM hg6 (j := ((I4 a0 1)).toNatClampNeg) rfl eq7 dX1_takeBack_38 ?_
    refine lv_aload_n hx hb dX1_takeBack_39 rfl (lv_at hl 1 rfl) ?_
    refine bd_e hf (fun r8 er8 hf => ?_)
    refine ev_calli (va_runS (As := [.ref q7, .ref a1]) (rest := []) S (c_X1_swapped (l := l) I4 P q7 a1 r8 er8) (va_cwS 2 hts (gi_s wa_3_172 wa_3_173 wa_1_5 wa_3_174) rfl rfl rfl (by decide +kernel) ⟨Nat.le_of_ble_eq_true rfl, Nat.le_of_ble_eq_true rfl⟩) ⟨mm_B_blind, fun U hU hW => ⟨rfl, mm_B_of hK hZ hM hU hW⟩⟩ rfl rfl hl.1 rfl (lv_room (Nat.le_of_ble_eq_true rfl)) dX1_takeBack_40 ⟨Nat.zero_le _, Nat.zero_le _⟩) hM (fun H locs hM => ?_)
    obtain rfl := Option.some.inj hf
    subst hQ
    exact ev_iret S hr hlocks hK hZ hM dX1_takeBack_43
  · have hf := it_p hf hc2
    refine lv_bipush (v := (-3 : Int32)) hx hb dX1_takeBack_7 (by decide) ?_
    obtain rfl := Option.some.inj hf
    subst hQ
    exact ev_iret S hr hlocks hK hZ hM dX1_takeBack_9
noncomputable def fn_X1_doAgain (K N : Nat → Nat) (I : Nat → Nat → Int32) (P : Nat → Nat → Option Nat) (a0 : Nat) (a1 : Nat) : Option (Int32 × (Nat → Nat → Int32)) := gd (K a0 = 2) (if (I a0 2) = 0 then (some ((-3 : Int32), I)) else (Option.bind (some (up2 I a0 1 ((I a0 1) + (1 : Int32)))) (fun I3 => Option.bind (some (up2 I3 a0 2 ((I3 a0 2) - (1 : Int32)))) (fun I4 => Option.bind (P a0 (0)) (fun q5 => gd (K q5 = 14 ∧ vp_in ((I4 a0 1) - (1 : Int32)) (N q5)) (Option.bind (P q5 (((I4 a0 1) - (1 : Int32))).toNatClampNeg) (fun q7 => Option.bind (fn_X1_swapped K N I4 P q7 a1) (fun (r8 : Int32 × (Nat → Nat → Int32)) => some (r8.1, r8.2)))))))))
abbrev wz_X1_doAgain : List Cond := Cond.code yX1_doAgain cX1_doAgain 2 (some .int) :: WA
abbrev rm_X1_doAgain : Room := { frames := 4, cells := 0, slots := 0, locals := 79 }
set_option maxHeartbeats 4000000 in
set_option maxRecDepth 100000 in
theorem c_X1_doAgain (I : Nat → Nat → Int32) (P : Nat → Nat → Option Nat) (a0 : Nat) (a1 : Nat) (res : Int32 × (Nat → Nat → Int32)) (hf : fn_X1_doAgain K N I P a0 a1 = some res) : Met l yX1_doAgain wz_X1_doAgain rm_X1_doAgain (va_Pc [.ref a0, .ref a1] (mm_B D cs A L K N z w I P)) (va_Qi (fun r (_ : Unit) => r = res.1) (fun _ => mm_B D cs A L K N z w res.2 P) A) 0 0 A := by
  refine Met.ofW (cc := cX1_doAgain) (maxL := 2) (ret := (some .int)) (by decide) rfl ?_
  intro p e s m args below meth c s₁ B hml hv
  obtain ⟨rfl, hBm⟩ := hv
  have hx := B.exec
  have hb := B.bytes
  have hr := B.returns
  have hts := atoms_spec (ws := wz_X1_doAgain) B.pre
  have hWA : ∀ w ∈ WA, w.before ([.ref a0, .ref a1] : List Value).toArray s = true := fun u9 h9 => hts u9 (List.mem_cons_of_mem _ h9)
  have hown : s.vm.findClass RX1 = some m.cls := findClass_of_methodNamed B.named
  have hlocks := B.notSynchronized
  have S : CallFix p m c cX1_doAgain 2 s ([.ref a0, .ref a1] : List Value).toArray wz_X1_doAgain RX1 := ⟨hx, hb, hml, hown, hts⟩
  have hK := hBm.2.2.2.1
  have hZ := hBm.2.2.2.2
  have hM : mm_W D cs A L K N s.heap I P s.heap [] := ⟨hBm.1, hBm.2.1, hBm.2.2.1, va_S.rf⟩
  have hl := lv_entry ([.ref a0, .ref a1]) (n := 2) (Nat.le_of_ble_eq_true rfl)
  rw [lg_entry_eq]
  generalize (lg_sl ([.ref a0, .ref a1]) ++ List.replicate (2 - (lg_sl ([.ref a0, .ref a1])).length) Slot.unset).toArray = ls at hl ⊢
  have hl : lv_has ls 2 [(0, .ref a0), (1, .ref a1)] := hl
  have hin1 : ∀ w ∈ wsX10, w ∈ wz_X1_doAgain := fun w h => List.mem_cons_of_mem _ (wu_X1 w h)
  have lk22 : (Cond.fieldLink RX1 22 RX1 "undoneCount" "I").before ([.ref a0, .ref a1] : List Value).toArray s = true := hWA _ wa_1_112
  have lk18 : (Cond.fieldLink RX1 18 RX1 "keptCount" "I").before ([.ref a0, .ref a1] : List Value).toArray s = true := hWA _ wa_1_110
  have lk11 : (Cond.fieldLink RX1 11 RX1 "all" "[LRasterPainter$Act;").before ([.ref a0, .ref a1] : List Value).toArray s = true := hWA _ wa_1_109
  generalize hQ : MQ below (va_Qi (fun r (_ : Unit) => r = res.1) (fun _ => mm_B D cs A L K N z w res.2 P) A) ([.ref a0, .ref a1] : List Value).toArray s 0 0 A = QQ
  rw [fn_X1_doAgain] at hf
  refine lv_aload_n hx hb dX1_doAgain_0 rfl (lv_at hl 0 rfl) ?_
  refine gd_e hf (fun hg1 hf => ?_)
  refine ev_get (v := .int (I a0 2)) S hK hM (ci := 1) (n := 3) (C := RX1) (T := TX1) hin1 rfl hg1 2 (by decide) lk22 rfl rfl rfl dX1_doAgain_1 ?_
  refine lv_if_ne (tgt := 10) hx hb dX1_doAgain_4 (by decide) (fun hc2 => ?_) (fun hc2 => ?_)
  · have hf := it_n hf hc2
    refine lv_aload_n hx hb dX1_doAgain_10 rfl (lv_at hl 0 rfl) ?_
    refine lv_dup hx hb dX1_doAgain_11 rfl ?_
    refine ev_get (v := .int (I a0 1)) S hK hM (ci := 1) (n := 3) (C := RX1) (T := TX1) hin1 rfl hg1 1 (by decide) lk18 rfl rfl rfl dX1_doAgain_12 ?_
    refine lv_iconst (v := (1 : Int32)) hx hb dX1_doAgain_15 (by decide) ?_
    refine lv_iadd hx hb dX1_doAgain_16 ?_
    refine ev_put S hK hM (ci := 1) (n := 3) (C := RX1) (T := TX1) hin1 tyX1 tyX1_ok nmX1 rfl hg1 1 (by decide) lk18 rfl rfl rfl rfl rfl (Nat.le_of_ble_eq_true rfl) rfl dX1_doAgain_17 (fun I3 eI3 H locs hM => ?_)
    have hf := nm_x eI3 hf
    refine lv_aload_n hx hb dX1_doAgain_20 rfl (lv_at hl 0 rfl) ?_
    refine lv_dup hx hb dX1_doAgain_21 rfl ?_
    refine ev_get (v := .int (I3 a0 2)) S hK hM (ci := 1) (n := 3) (C := RX1) (T := TX1) hin1 rfl hg1 2 (by decide) lk22 rfl rfl rfl dX1_doAgain_22 ?_
    refine lv_iconst (v := (1 : Int32)) hx hb dX1_doAgain_25 (by decide) ?_
    refine lv_isub hx hb dX1_doAgain_26 ?_
    refine ev_put S hK hM (ci := 1) (n := 3) (C := RX1) (T := TX1) hin1 tyX1 tyX1_ok nmX1 rfl hg1 2 (by decide) lk22 rfl rfl rfl rfl rfl (Nat.le_of_ble_eq_true rfl) rfl dX1_doAgain_27 (fun I4 eI4 H locs hM => ?_)
    have hf := nm_x eI4 hf
    refine lv_aload_n hx hb dX1_doAgain_30 rfl (lv_at hl 0 rfl) ?_
    refine bd_e hf (fun q5 eq5 hf => ?_)
    refine ev_getP (v := q5) S hK hM (ci := 1) (n := 3) (C := RX1) (T := TX1) hin1 rfl hg1 0 (by decide) lk11 rfl rfl eq5 rfl dX1_doAgain_31 ?_
    refine lv_aload_n hx hb dX1_doAgain_34 rfl (lv_at hl 0 rfl) ?_
    refine ev_get (v := .int (I4 a0 1)) S hK hM (ci := 1) (n := 3) (C := RX1) (T := TX1) hin1 rfl hg1 1 (by decide) lk18 rfl rfl rfl dX1_doAgain_35 ?_
    refine lv_iconst (v := (1 : Int32)) hx hb dX1_doAgain_38 (by decide) ?_
    refine lv_isub hx hb dX1_doAgain_39 ?_
    refine gd_e hf (fun hg6 hf => ?_)
    refine bd_e hf (fun q7 eq7 hf => ?_)
    refine ev_aald14 S hK hM hg6 (j := (((I4 a0 1) - (1 : Int32))).toNatClampNeg) rfl eq7 dX1_doAgain_40 ?_
    refine lv_aload_n hx hb dX1_doAgain_41 rfl (lv_at hl 1 rfl) ?_
    refine bd_e hf (fun r8 er8 hf => ?_)
    refine ev_calli (va_runS (As := [.ref q7, .ref a1]) (rest := []) S (c_X1_swapped (l := l) I4 P q7 a1 r8 er8) (va_cwS 2 hts (gi_s wa_3_172 wa_3_173 wa_1_5 wa_3_174) rfl rfl rfl (by decide +kernel) ⟨Nat.le_of_ble_eq_true rfl, Nat.le_of_ble_eq_true rfl⟩) ⟨mm_B_blind, fun U hU hW => ⟨rfl, mm_B_of hK hZ hM hU hW⟩⟩ rfl rfl hl.1 rfl (lv_room (Nat.le_of_ble_eq_true rfl)) dX1_doAgain_42 ⟨Nat.zero_le _, Nat.zero_le _⟩) hM (fun H locs hM => ?_)
    obtain rfl := Option.some.inj hf
    subst hQ
    exact ev_iret S hr hlocks hK hZ hM dX1_doAgain_45
  · have hf := it_p hf hc2
    refine lv_bipush (v := (-3 : Int32)) hx hb dX1_doAgain_7 (by decide) ?_
    obtain rfl := Option.some.inj hf
    subst hQ
    exact ev_iret S hr hlocks hK hZ hM dX1_doAgain_9
noncomputable def fn_X1_tileCount_L4 (K : Nat → Nat) (N : Nat → Nat) (a0 : Nat) (I : Nat → Nat → Int32) (P : Nat → Nat → Option Nat) : Nat → Int32 → Int32 → Option (Int32)
  | 0, _, _ => none
  | n + 1, v1, v2 => gd (K a0 = 2) (if ((I a0 1) + (I a0 2)) ≤ v2 then (some v1) else (Option.bind (P a0 (0)) (fun q6 => gd (K q6 = 14 ∧ vp_in v2 (N q6)) (Option.bind (P q6 (v2.toNatClampNeg)) (fun q8 => gd (K q8 = 1) (Option.bind (fn_J6_bitCount_0f7a4 (I q8 1)) (fun (r10 : Int32) => Option.bind (some (v1 + r10)) (fun v11 => fn_X1_tileCount_L4 K N a0 I P n v11 (v2 + (1 : Int32))))))))))
noncomputable def fn_X1_tileCount (K N : Nat → Nat) (I : Nat → Nat → Int32) (P : Nat → Nat → Option Nat) (a0 : Nat) : Option (Int32) := Option.bind (fn_X1_tileCount_L4 K N a0 I P FU (0 : Int32) (0 : Int32)) (fun (r3 : Int32) => some r3)
abbrev wz_X1_tileCount : List Cond := Cond.code yX1_tileCount cX1_tileCount 3 (some .int) :: WA
abbrev rm_X1_tileCount : Room := { frames := 2, cells := 0, slots := 0, locals := 32 }
set_option maxHeartbeats 4000000 in
set_option maxRecDepth 100000 in
theorem c_X1_tileCount (I : Nat → Nat → Int32) (P : Nat → Nat → Option Nat) (a0 : Nat) (res : Int32) (hf : fn_X1_tileCount K N I P a0 = some res) : Met l yX1_tileCount wz_X1_tileCount rm_X1_tileCount (va_Pc [.ref a0] (mm_B D cs A L K N z w I P)) (va_Qi (fun r (_ : Unit) => r = res) (fun _ => mm_B D cs A L K N z w I P) A) 0 0 A := by
  refine Met.ofW (cc := cX1_tileCount) (maxL := 3) (ret := (some .int)) (by decide) rfl ?_
  intro p e s m args below meth c s₁ B hml hv
  obtain ⟨rfl, hBm⟩ := hv
  have hx := B.exec
  have hb := B.bytes
  have hr := B.returns
  have hts := atoms_spec (ws := wz_X1_tileCount) B.pre
  have hWA : ∀ w ∈ WA, w.before ([.ref a0] : List Value).toArray s = true := fun u9 h9 => hts u9 (List.mem_cons_of_mem _ h9)
  have hown : s.vm.findClass RX1 = some m.cls := findClass_of_methodNamed B.named
  have hlocks := B.notSynchronized
  have S : CallFix p m c cX1_tileCount 3 s ([.ref a0] : List Value).toArray wz_X1_tileCount RX1 := ⟨hx, hb, hml, hown, hts⟩
  have hK := hBm.2.2.2.1
  have hZ := hBm.2.2.2.2
  have hM : mm_W D cs A L K N s.heap I P s.heap [] := ⟨hBm.1, hBm.2.1, hBm.2.2.1, va_S.rf⟩
  have hl := lv_entry ([.ref a0]) (n := 3) (Nat.le_of_ble_eq_true rfl)
  rw [lg_entry_eq]
  generalize (lg_sl ([.ref a0]) ++ List.replicate (3 - (lg_sl ([.ref a0])).length) Slot.unset).toArray = ls at hl ⊢
  have hl : lv_has ls 3 [(0, .ref a0)] := hl
  have hin1 : ∀ w ∈ wsX10, w ∈ wz_X1_tileCount := fun w h => List.mem_cons_of_mem _ (wu_X1 w h)
  have hin0 : ∀ w ∈ wsX00, w ∈ wz_X1_tileCount := fun w h => List.mem_cons_of_mem _ (wu_X0 w h)
  have lk18 : (Cond.fieldLink RX1 18 RX1 "keptCount" "I").before ([.ref a0] : List Value).toArray s = true := hWA _ wa_1_110
  have lk22 : (Cond.fieldLink RX1 22 RX1 "undoneCount" "I").before ([.ref a0] : List Value).toArray s = true := hWA _ wa_1_112
  have lk11 : (Cond.fieldLink RX1 11 RX1 "all" "[LRasterPainter$Act;").before ([.ref a0] : List Value).toArray s = true := hWA _ wa_1_109
  have lk37 : (Cond.fieldLink RX1 37 RX0 "tiles" "I").before ([.ref a0] : List Value).toArray s = true := hWA _ wa_1_96
  generalize hQ : MQ below (va_Qi (fun r (_ : Unit) => r = res) (fun _ => mm_B D cs A L K N z w I P) A) ([.ref a0] : List Value).toArray s 0 0 A = QQ
  rw [fn_X1_tileCount] at hf
  refine lv_iconst (v := (0 : Int32)) hx hb dX1_tileCount_0 (by decide) ?_
  refine lv_istore_n (lv' := [(1, .int (0 : Int32)), (0, .ref a0)]) hx hb dX1_tileCount_1 rfl hl (by decide) rfl (fun ls hl => ?_)
  refine lv_iconst (v := (0 : Int32)) hx hb dX1_tileCount_2 (by decide) ?_
  refine lv_istore_n (lv' := [(2, .int (0 : Int32)), (1, .int (0 : Int32)), (0, .ref a0)]) hx hb dX1_tileCount_3 rfl hl (by decide) rfl (fun ls hl => ?_)
  have lp4_11 : ∀ (n : Nat) (v1 : Int32) (v2 : Int32) (H : Heap) (locs : List Loc) (ls : Array Slot) (r3 : Int32), mm_W D cs A L K N s.heap I P H locs → lv_has ls 3 [(0, .ref a0), (1, .int v1), (2, .int v2)] → fn_X1_tileCount_L4 K N a0 I P n v1 v2 = some r3 → (∀ (H : Heap) (locs : List Loc) (ls : Array Slot), mm_W D cs A L K N s.heap I P H locs → lv_has ls 3 [(1, .int r3)] → W p l e (headSpec wz_X1_tileCount rm_X1_tileCount).room s m ([.ref a0] : List Value).toArray below meth c H locs 0 0 QQ (F0 m 38 ls [])) → W p l e (headSpec wz_X1_tileCount rm_X1_tileCount).room s m ([.ref a0] : List Value).toArray below meth c H locs 0 0 QQ (F0 m 4 ls []) := by
    intro n
    induction n with
    | zero => intro v1 v2 H locs ls r3 hM hl hf kk; exact nn_x (show (none : Option (Int32)) = some r3 from hf)
    | succ n ih =>
      intro v1 v2 H locs ls r3 hM hl hf kk
      rw [fn_X1_tileCount_L4] at hf
      refine lv_iload_n hx hb dX1_tileCount_4 rfl (lv_at hl 2 rfl) ?_
      refine lv_aload_n hx hb dX1_tileCount_5 rfl (lv_at hl 0 rfl) ?_
      refine gd_e hf (fun hg4 hf => ?_)
      refine ev_get (v := .int (I a0 1)) S hK hM (ci := 1) (n := 3) (C := RX1) (T := TX1) hin1 rfl hg4 1 (by decide) lk18 rfl rfl rfl dX1_tileCount_6 ?_
      refine lv_aload_n hx hb dX1_tileCount_9 rfl (lv_at hl 0 rfl) ?_
      refine ev_get (v := .int (I a0 2)) S hK hM (ci := 1) (n := 3) (C := RX1) (T := TX1) hin1 rfl hg4 2 (by decide) lk22 rfl rfl rfl dX1_tileCount_10 ?_
      refine lv_iadd hx hb dX1_tileCount_13 ?_
      refine lv_icmp_ge (tgt := 38) hx hb dX1_tileCount_14 (by decide) (fun hc5 => ?_) (fun hc5 => ?_)
      · have hf := it_p hf hc5
        obtain rfl := Option.some.inj hf
        exact kk _ _ _ hM (lv_sub hl [1] rfl)
      · have hf := it_n hf hc5
        refine lv_iload_n hx hb dX1_tileCount_17 rfl (lv_at hl 1 rfl) ?_
        refine lv_aload_n hx hb dX1_tileCount_18 rfl (lv_at hl 0 rfl) ?_
        refine bd_e hf (fun q6 eq6 hf => ?_)
        refine ev_getP (v := q6) S hK hM (ci := 1) (n := 3) (C := RX1) (T := TX1) hin1 rfl hg4 0 (by decide) lk11 rfl rfl eq6 rfl dX1_tileCount_19 ?_
        refine lv_iload_n hx hb dX1_tileCount_22 rfl (lv_at hl 2 rfl) ?_
        refine gd_e hf (fun hg7 hf => ?_)
        refine bd_e hf (fun q8 eq8 hf => ?_)
        refine ev_aald14 S hK hM hg7 (j := v2.toNatClampNeg) rfl eq8 dX1_tileCount_23 ?_
        refine gd_e hf (fun hg9 hf => ?_)
        refine ev_get (v := .int (I q8 1)) S hK hM (ci := 0) (n := 4) (C := RX0) (T := TX0) hin0 rfl hg9 1 (by decide) lk37 rfl rfl rfl dX1_tileCount_24 ?_
        refine bd_e hf (fun r10 er10 hf => ?_)
        refine ev_calli (va_runS (As := [.int (I q8 1)]) (rest := [.int v1]) S (c_J6_bitCount_0f7a4 (l := l) I P (I q8 1) r10 er10) (va_cwS 1 hts (gi_s wa_3_179 wa_3_180 wa_1_19 wa_3_181) rfl rfl rfl (by decide +kernel) ⟨Nat.le_of_ble_eq_true rfl, Nat.le_of_ble_eq_true rfl⟩) ⟨mm_B_blind, fun U hU hW => ⟨rfl, mm_B_of hK hZ hM hU hW⟩⟩ rfl rfl hl.1 rfl (lv_room (Nat.le_of_ble_eq_true rfl)) dX1_tileCount_27 ⟨Nat.zero_le _, Nat.zero_le _⟩) hM (fun H locs hM => ?_)
        refine lv_iadd hx hb dX1_tileCount_30 ?_
        refine lv_topi (fun v11 ev11 => ?_)
        have hf := nm_x ev11 hf
        refine lv_istore_n (lv' := [(1, .int v11), (0, .ref a0), (2, .int v2)]) hx hb dX1_tileCount_31 rfl hl (by decide) rfl (fun ls hl => ?_)
        refine lv_iinc (v := (v2 + (1 : Int32))) (lv' := [(2, .int (v2 + (1 : Int32))), (1, .int v11), (0, .ref a0)]) hx hb dX1_tileCount_32 hl (k := 2) rfl rfl (by decide) rfl (fun ls hl => ?_)
        refine lv_goto (tgt := 4) hx hb dX1_tileCount_35 (by decide) ?_
        exact ih v11 (v2 + (1 : Int32)) _ _ _ _ hM (lv_sub hl [2, 1, 0] rfl) hf kk
  refine bd_e hf (fun r3 er3 hf => ?_)
  refine lp4_11 FU (0 : Int32) (0 : Int32) _ _ _ r3 hM (lv_sub hl [2, 1, 0] rfl) er3 (fun H locs ls hM hl => ?_)
  refine lv_iload_n hx hb dX1_tileCount_38 rfl (lv_at hl 0 rfl) ?_
  obtain rfl := Option.some.inj hf
  subst hQ
  exact ev_iret S hr hlocks hK hZ hM dX1_tileCount_39
noncomputable def fn_X2_become (K N : Nat → Nat) (I : Nat → Nat → Int32) (P : Nat → Nat → Option Nat) (a0 : Nat) (x1 : Int32) (x2 : Int32) (x3 : Int32) (x4 : Int32) : Option ((Nat → Nat → Int32)) := gd (K a0 = 3) (Option.bind (some (up2 I a0 0 x1)) (fun I2 => Option.bind (some (up2 I2 a0 1 x2)) (fun I3 => Option.bind (some (up2 I3 a0 2 x3)) (fun I4 => Option.bind (some (up2 I4 a0 3 x4)) (fun I5 => some I5)))))
abbrev wz_X2_become : List Cond := Cond.code yX2_become cX2_become 5 none :: WA
abbrev rm_X2_become : Room := { frames := 1, cells := 0, slots := 0, locals := 12 }
set_option maxHeartbeats 4000000 in
set_option maxRecDepth 100000 in
theorem c_X2_become (I : Nat → Nat → Int32) (P : Nat → Nat → Option Nat) (a0 : Nat) (x1 : Int32) (x2 : Int32) (x3 : Int32) (x4 : Int32) (res : (Nat → Nat → Int32)) (hf : fn_X2_become K N I P a0 x1 x2 x3 x4 = some res) : Met l yX2_become wz_X2_become rm_X2_become (va_Pc [.ref a0, .int x1, .int x2, .int x3, .int x4] (mm_B D cs A L K N z w I P)) (va_Qv (fun (_ : Unit) => True) (fun _ => mm_B D cs A L K N z w res P) A) 0 0 A := by
  refine Met.ofW (cc := cX2_become) (maxL := 5) (ret := none) (by decide) rfl ?_
  intro p e s m args below meth c s₁ B hml hv
  obtain ⟨rfl, hBm⟩ := hv
  have hx := B.exec
  have hb := B.bytes
  have hr := B.returns
  have hts := atoms_spec (ws := wz_X2_become) B.pre
  have hWA : ∀ w ∈ WA, w.before ([.ref a0, .int x1, .int x2, .int x3, .int x4] : List Value).toArray s = true := fun u9 h9 => hts u9 (List.mem_cons_of_mem _ h9)
  have hown : s.vm.findClass RX2 = some m.cls := findClass_of_methodNamed B.named
  have hlocks := B.notSynchronized
  have S : CallFix p m c cX2_become 5 s ([.ref a0, .int x1, .int x2, .int x3, .int x4] : List Value).toArray wz_X2_become RX2 := ⟨hx, hb, hml, hown, hts⟩
  have hK := hBm.2.2.2.1
  have hZ := hBm.2.2.2.2
  have hM : mm_W D cs A L K N s.heap I P s.heap [] := ⟨hBm.1, hBm.2.1, hBm.2.2.1, va_S.rf⟩
  have hl := lv_entry ([.ref a0, .int x1, .int x2, .int x3, .int x4]) (n := 5) (Nat.le_of_ble_eq_true rfl)
  rw [lg_entry_eq]
  generalize (lg_sl ([.ref a0, .int x1, .int x2, .int x3, .int x4]) ++ List.replicate (5 - (lg_sl ([.ref a0, .int x1, .int x2, .int x3, .int x4])).length) Slot.unset).toArray = ls at hl ⊢
  have hl : lv_has ls 5 [(0, .ref a0), (1, .int x1), (2, .int x2), (3, .int x3), (4, .int x4)] := hl
  have hin2 : ∀ w ∈ wsX20, w ∈ wz_X2_become := fun w h => List.mem_cons_of_mem _ (wu_X2 w h)
  have lk9 : (Cond.fieldLink RX2 9 RX2 "kind" "I").before ([.ref a0, .int x1, .int x2, .int x3, .int x4] : List Value).toArray s = true := hWA _ wa_1_59
  have lk15 : (Cond.fieldLink RX2 15 RX2 "radius" "I").before ([.ref a0, .int x1, .int x2, .int x3, .int x4] : List Value).toArray s = true := hWA _ wa_1_62
  have lk18 : (Cond.fieldLink RX2 18 RX2 "ink" "I").before ([.ref a0, .int x1, .int x2, .int x3, .int x4] : List Value).toArray s = true := hWA _ wa_1_65
  have lk21 : (Cond.fieldLink RX2 21 RX2 "flow" "I").before ([.ref a0, .int x1, .int x2, .int x3, .int x4] : List Value).toArray s = true := hWA _ wa_1_68
  generalize hQ : MQ below (va_Qv (fun (_ : Unit) => True) (fun _ => mm_B D cs A L K N z w res P) A) ([.ref a0, .int x1, .int x2, .int x3, .int x4] : List Value).toArray s 0 0 A = QQ
  rw [fn_X2_become] at hf
  refine lv_aload_n hx hb dX2_become_0 rfl (lv_at hl 0 rfl) ?_
  refine lv_iload_n hx hb dX2_become_1 rfl (lv_at hl 1 rfl) ?_
  refine gd_e hf (fun hg1 hf => ?_)
  refine ev_put S hK hM (ci := 2) (n := 4) (C := RX2) (T := TX2) hin2 tyX2 tyX2_ok nmX2 rfl hg1 0 (by decide) lk9 rfl rfl rfl rfl rfl (Nat.le_of_ble_eq_true rfl) rfl dX2_become_2 (fun I2 eI2 H locs hM => ?_)
  have hf := nm_x eI2 hf
  refine lv_aload_n hx hb dX2_become_5 rfl (lv_at hl 0 rfl) ?_
  refine lv_iload_n hx hb dX2_become_6 rfl (lv_at hl 2 rfl) ?_
  refine ev_put S hK hM (ci := 2) (n := 4) (C := RX2) (T := TX2) hin2 tyX2 tyX2_ok nmX2 rfl hg1 1 (by decide) lk15 rfl rfl rfl rfl rfl (Nat.le_of_ble_eq_true rfl) rfl dX2_become_7 (fun I3 eI3 H locs hM => ?_)
  have hf := nm_x eI3 hf
  refine lv_aload_n hx hb dX2_become_10 rfl (lv_at hl 0 rfl) ?_
  refine lv_iload_n hx hb dX2_become_11 rfl (lv_at hl 3 rfl) ?_
  refine ev_put S hK hM (ci := 2) (n := 4) (C := RX2) (T := TX2) hin2 tyX2 tyX2_ok nmX2 rfl hg1 2 (by decide) lk18 rfl rfl rfl rfl rfl (Nat.le_of_ble_eq_true rfl) rfl dX2_become_12 (fun I4 eI4 H locs hM => ?_)
  have hf := nm_x eI4 hf
  refine lv_aload_n hx hb dX2_become_15 rfl (lv_at hl 0 rfl) ?_
  refine lv_iload hx hb dX2_become_16 (lv_at hl 4 rfl) ?_
  refine ev_put S hK hM (ci := 2) (n := 4) (C := RX2) (T := TX2) hin2 tyX2 tyX2_ok nmX2 rfl hg1 3 (by decide) lk21 rfl rfl rfl rfl rfl (Nat.le_of_ble_eq_true rfl) rfl dX2_become_18 (fun I5 eI5 H locs hM => ?_)
  have hf := nm_x eI5 hf
  obtain rfl := Option.some.inj hf
  subst hQ
  exact ev_vret S hr hlocks hK hZ hM dX2_become_21
noncomputable def fn_X2_round (K N : Nat → Nat) (I : Nat → Nat → Int32) (P : Nat → Nat → Option Nat) (a0 : Nat) (x1 : Int32) (x2 : Int32) : Option (Int32) := gd (K a0 = 3) (if ((I a0 1) * (I a0 1)) < ((x1 * x1) + (x2 * x2)) then (some (0 : Int32)) else (some (255 : Int32)))
abbrev wz_X2_round : List Cond := Cond.code yX2_round cX2_round 3 (some .int) :: WA
abbrev rm_X2_round : Room := { frames := 1, cells := 0, slots := 0, locals := 12 }
set_option maxHeartbeats 4000000 in
set_option maxRecDepth 100000 in
theorem c_X2_round (I : Nat → Nat → Int32) (P : Nat → Nat → Option Nat) (a0 : Nat) (x1 : Int32) (x2 : Int32) (res : Int32) (hf : fn_X2_round K N I P a0 x1 x2 = some res) : Met l yX2_round wz_X2_round rm_X2_round (va_Pc [.ref a0, .int x1, .int x2] (mm_B D cs A L K N z w I P)) (va_Qi (fun r (_ : Unit) => r = res) (fun _ => mm_B D cs A L K N z w I P) A) 0 0 A := by
  refine Met.ofW (cc := cX2_round) (maxL := 3) (ret := (some .int)) (by decide) rfl ?_
  intro p e s m args below meth c s₁ B hml hv
  obtain ⟨rfl, hBm⟩ := hv
  have hx := B.exec
  have hb := B.bytes
  have hr := B.returns
  have hts := atoms_spec (ws := wz_X2_round) B.pre
  have hWA : ∀ w ∈ WA, w.before ([.ref a0, .int x1, .int x2] : List Value).toArray s = true := fun u9 h9 => hts u9 (List.mem_cons_of_mem _ h9)
  have hown : s.vm.findClass RX2 = some m.cls := findClass_of_methodNamed B.named
  have hlocks := B.notSynchronized
  have S : CallFix p m c cX2_round 3 s ([.ref a0, .int x1, .int x2] : List Value).toArray wz_X2_round RX2 := ⟨hx, hb, hml, hown, hts⟩
  have hK := hBm.2.2.2.1
  have hZ := hBm.2.2.2.2
  have hM : mm_W D cs A L K N s.heap I P s.heap [] := ⟨hBm.1, hBm.2.1, hBm.2.2.1, va_S.rf⟩
  have hl := lv_entry ([.ref a0, .int x1, .int x2]) (n := 3) (Nat.le_of_ble_eq_true rfl)
  rw [lg_entry_eq]
  generalize (lg_sl ([.ref a0, .int x1, .int x2]) ++ List.replicate (3 - (lg_sl ([.ref a0, .int x1, .int x2])).length) Slot.unset).toArray = ls at hl ⊢
  have hl : lv_has ls 3 [(0, .ref a0), (1, .int x1), (2, .int x2)] := hl
  have hin2 : ∀ w ∈ wsX20, w ∈ wz_X2_round := fun w h => List.mem_cons_of_mem _ (wu_X2 w h)
  have lk15 : (Cond.fieldLink RX2 15 RX2 "radius" "I").before ([.ref a0, .int x1, .int x2] : List Value).toArray s = true := hWA _ wa_1_62
  generalize hQ : MQ below (va_Qi (fun r (_ : Unit) => r = res) (fun _ => mm_B D cs A L K N z w I P) A) ([.ref a0, .int x1, .int x2] : List Value).toArray s 0 0 A = QQ
  rw [fn_X2_round] at hf
  refine lv_iload_n hx hb dX2_round_0 rfl (lv_at hl 1 rfl) ?_
  refine lv_iload_n hx hb dX2_round_1 rfl (lv_at hl 1 rfl) ?_
  refine lv_imul hx hb dX2_round_2 ?_
  refine lv_iload_n hx hb dX2_round_3 rfl (lv_at hl 2 rfl) ?_
  refine lv_iload_n hx hb dX2_round_4 rfl (lv_at hl 2 rfl) ?_
  refine lv_imul hx hb dX2_round_5 ?_
  refine lv_iadd hx hb dX2_round_6 ?_
  refine lv_aload_n hx hb dX2_round_7 rfl (lv_at hl 0 rfl) ?_
  refine gd_e hf (fun hg1 hf => ?_)
  refine ev_get (v := .int (I a0 1)) S hK hM (ci := 2) (n := 4) (C := RX2) (T := TX2) hin2 rfl hg1 1 (by decide) lk15 rfl rfl rfl dX2_round_8 ?_
  refine lv_aload_n hx hb dX2_round_11 rfl (lv_at hl 0 rfl) ?_
  refine ev_get (v := .int (I a0 1)) S hK hM (ci := 2) (n := 4) (C := RX2) (T := TX2) hin2 rfl hg1 1 (by decide) lk15 rfl rfl rfl dX2_round_12 ?_
  refine lv_imul hx hb dX2_round_15 ?_
  refine lv_icmp_gt (tgt := 25) hx hb dX2_round_16 (by decide) (fun hc2 => ?_) (fun hc2 => ?_)
  · have hf := it_p hf hc2
    refine lv_iconst (v := (0 : Int32)) hx hb dX2_round_25 (by decide) ?_
    obtain rfl := Option.some.inj hf
    subst hQ
    exact ev_iret S hr hlocks hK hZ hM dX2_round_26
  · have hf := it_n hf hc2
    refine lv_sipush (v := (255 : Int32)) hx hb dX2_round_19 (by decide) ?_
    refine lv_goto (tgt := 26) hx hb dX2_round_22 (by decide) ?_
    obtain rfl := Option.some.inj hf
    subst hQ
    exact ev_iret S hr hlocks hK hZ hM dX2_round_26
noncomputable def fn_X2_soft (K N : Nat → Nat) (I : Nat → Nat → Int32) (P : Nat → Nat → Option Nat) (a0 : Nat) (x1 : Int32) (x2 : Int32) : Option (Int32) := Option.bind (some (FP.i2f ((x1 * x1) + (x2 * x2)))) (fun v1 => gd (K a0 = 3) (Option.bind (some (FP.i2f (((I a0 1) * (I a0 1)) + (1 : Int32)))) (fun v3 => Option.bind (fn_X2_round K N I P a0 x1 x2) (fun (r4 : Int32) => gd (vf_n32 (FP.fdiv v1 v3)) (gd (vf_n32 (FP.fsub FP.fconst1 (FP.fdiv v1 v3))) (gd (vf_n32 (FP.fmul (FP.i2f r4) (FP.fsub FP.fconst1 (FP.fdiv v1 v3)))) (some (FP.f2i (FP.fmul (FP.i2f r4) (FP.fsub FP.fconst1 (FP.fdiv v1 v3)))))))))))
abbrev wz_X2_soft : List Cond := Cond.code yX2_soft cX2_soft 5 (some .int) :: WA
abbrev rm_X2_soft : Room := { frames := 2, cells := 0, slots := 0, locals := 34 }
set_option maxHeartbeats 4000000 in
set_option maxRecDepth 100000 in
theorem c_X2_soft (I : Nat → Nat → Int32) (P : Nat → Nat → Option Nat) (a0 : Nat) (x1 : Int32) (x2 : Int32) (res : Int32) (hf : fn_X2_soft K N I P a0 x1 x2 = some res) : Met l yX2_soft wz_X2_soft rm_X2_soft (va_Pc [.ref a0, .int x1, .int x2] (mm_B D cs A L K N z w I P)) (va_Qi (fun r (_ : Unit) => r = res) (fun _ => mm_B D cs A L K N z w I P) A) 0 0 A := by
  refine Met.ofW (cc := cX2_soft) (maxL := 5) (ret := (some .int)) (by decide) rfl ?_
  intro p e s m args below meth c s₁ B hml hv
  obtain ⟨rfl, hBm⟩ := hv
  have hx := B.exec
  have hb := B.bytes
  have hr := B.returns
  have hts := atoms_spec (ws := wz_X2_soft) B.pre
  have hWA : ∀ w ∈ WA, w.before ([.ref a0, .int x1, .int x2] : List Value).toArray s = true := fun u9 h9 => hts u9 (List.mem_cons_of_mem _ h9)
  have hown : s.vm.findClass RX2 = some m.cls := findClass_of_methodNamed B.named
  have hlocks := B.notSynchronized
  have S : CallFix p m c cX2_soft 5 s ([.ref a0, .int x1, .int x2] : List Value).toArray wz_X2_soft RX2 := ⟨hx, hb, hml, hown, hts⟩
  have hK := hBm.2.2.2.1
  have hZ := hBm.2.2.2.2
  have hM : mm_W D cs A L K N s.heap I P s.heap [] := ⟨hBm.1, hBm.2.1, hBm.2.2.1, va_S.rf⟩
  have hl := lv_entry ([.ref a0, .int x1, .int x2]) (n := 5) (Nat.le_of_ble_eq_true rfl)
  rw [lg_entry_eq]
  generalize (lg_sl ([.ref a0, .int x1, .int x2]) ++ List.replicate (5 - (lg_sl ([.ref a0, .int x1, .int x2])).length) Slot.unset).toArray = ls at hl ⊢
  have hl : lv_has ls 5 [(0, .ref a0), (1, .int x1), (2, .int x2)] := hl
  have hin2 : ∀ w ∈ wsX20, w ∈ wz_X2_soft := fun w h => List.mem_cons_of_mem _ (wu_X2 w h)
  have lk15 : (Cond.fieldLink RX2 15 RX2 "radius" "I").before ([.ref a0, .int x1, .int x2] : List Value).toArray s = true := hWA _ wa_1_62
  generalize hQ : MQ below (va_Qi (fun r (_ : Unit) => r = res) (fun _ => mm_B D cs A L K N z w I P) A) ([.ref a0, .int x1, .int x2] : List Value).toArray s 0 0 A = QQ
  rw [fn_X2_soft] at hf
  refine lv_iload_n hx hb dX2_soft_0 rfl (lv_at hl 1 rfl) ?_
  refine lv_iload_n hx hb dX2_soft_1 rfl (lv_at hl 1 rfl) ?_
  refine lv_imul hx hb dX2_soft_2 ?_
  refine lv_iload_n hx hb dX2_soft_3 rfl (lv_at hl 2 rfl) ?_
  refine lv_iload_n hx hb dX2_soft_4 rfl (lv_at hl 2 rfl) ?_
  refine lv_imul hx hb dX2_soft_5 ?_
  refine lv_iadd hx hb dX2_soft_6 ?_
  refine lv_i2f hx hb dX2_soft_7 ?_
  refine lv_topf (fun v1 ev1 => ?_)
  have hf := nm_x ev1 hf
  refine lv_fstore_n (lv' := [(3, .float v1), (0, .ref a0), (1, .int x1), (2, .int x2)]) hx hb dX2_soft_8 rfl hl (by decide) rfl (fun ls hl => ?_)
  refine lv_aload_n hx hb dX2_soft_9 rfl (lv_at hl 1 rfl) ?_
  refine gd_e hf (fun hg2 hf => ?_)
  refine ev_get (v := .int (I a0 1)) S hK hM (ci := 2) (n := 4) (C := RX2) (T := TX2) hin2 rfl hg2 1 (by decide) lk15 rfl rfl rfl dX2_soft_10 ?_
  refine lv_aload_n hx hb dX2_soft_13 rfl (lv_at hl 1 rfl) ?_
  refine ev_get (v := .int (I a0 1)) S hK hM (ci := 2) (n := 4) (C := RX2) (T := TX2) hin2 rfl hg2 1 (by decide) lk15 rfl rfl rfl dX2_soft_14 ?_
  refine lv_imul hx hb dX2_soft_17 ?_
  refine lv_iconst (v := (1 : Int32)) hx hb dX2_soft_18 (by decide) ?_
  refine lv_iadd hx hb dX2_soft_19 ?_
  refine lv_i2f hx hb dX2_soft_20 ?_
  refine lv_topf (fun v3 ev3 => ?_)
  have hf := nm_x ev3 hf
  refine lv_fstore (lv' := [(4, .float v3), (3, .float v1), (0, .ref a0), (1, .int x1), (2, .int x2)]) hx hb dX2_soft_21 hl (by decide) rfl (fun ls hl => ?_)
  refine lv_aload_n hx hb dX2_soft_23 rfl (lv_at hl 2 rfl) ?_
  refine lv_iload_n hx hb dX2_soft_24 rfl (lv_at hl 3 rfl) ?_
  refine lv_iload_n hx hb dX2_soft_25 rfl (lv_at hl 4 rfl) ?_
  refine bd_e hf (fun r4 er4 hf => ?_)
  refine ev_calli (va_runV (As := [.int x1, .int x2]) (rest := []) S (c_X2_round (l := l) I P a0 x1 x2 r4 er4) (cwV 2 hts (gi_v wa_2_184 wa_2_186 wa_s_3 wa_1_4 wa_2_187) rfl rfl rfl (by decide +kernel) ⟨Nat.le_of_ble_eq_true rfl, Nat.le_of_ble_eq_true rfl⟩) ⟨mm_B_blind, ev_recv hK hM (ci := 2) rfl hg2 rfl, fun U hU hW => ⟨rfl, mm_B_of hK hZ hM hU hW⟩⟩ rfl rfl hl.1 rfl (lv_room (Nat.le_of_ble_eq_true rfl)) dX2_soft_26 ⟨Nat.zero_le _, Nat.zero_le _⟩) hM (fun H locs hM => ?_)
  refine lv_i2f hx hb dX2_soft_29 ?_
  refine lv_fconst1 hx hb dX2_soft_30 ?_
  refine lv_fload_n hx hb dX2_soft_31 rfl (lv_at hl 1 rfl) ?_
  refine lv_fload hx hb dX2_soft_32 (lv_at hl 0 rfl) ?_
  refine gd_e hf (fun hg5 hf => ?_)
  refine lv_fdiv hx hb dX2_soft_34 hg5 ?_
  refine gd_e hf (fun hg6 hf => ?_)
  refine lv_fsub hx hb dX2_soft_35 hg6 ?_
  refine gd_e hf (fun hg7 hf => ?_)
  refine lv_fmul hx hb dX2_soft_36 hg7 ?_
  refine lv_f2i hx hb dX2_soft_37 ?_
  obtain rfl := Option.some.inj hf
  subst hQ
  exact ev_iret S hr hlocks hK hZ hM dX2_soft_38
noncomputable def fn_X2_square (K N : Nat → Nat) (I : Nat → Nat → Int32) (P : Nat → Nat → Option Nat) (a0 : Nat) (x1 : Int32) (x2 : Int32) : Option (Int32) := gd (K a0 = 3) (if (I a0 1) < (if 0 ≤ x1 then x1 else 0 - x1) then (some (0 : Int32)) else (if (I a0 1) < (if 0 ≤ x2 then x2 else 0 - x2) then (some (0 : Int32)) else (some (255 : Int32))))
abbrev wz_X2_square : List Cond := Cond.code yX2_square cX2_square 3 (some .int) :: WA
abbrev rm_X2_square : Room := { frames := 2, cells := 0, slots := 0, locals := 30 }
set_option maxHeartbeats 4000000 in
set_option maxRecDepth 100000 in
theorem c_X2_square (I : Nat → Nat → Int32) (P : Nat → Nat → Option Nat) (a0 : Nat) (x1 : Int32) (x2 : Int32) (res : Int32) (hf : fn_X2_square K N I P a0 x1 x2 = some res) : Met l yX2_square wz_X2_square rm_X2_square (va_Pc [.ref a0, .int x1, .int x2] (mm_B D cs A L K N z w I P)) (va_Qi (fun r (_ : Unit) => r = res) (fun _ => mm_B D cs A L K N z w I P) A) 0 0 A := by
  refine Met.ofW (cc := cX2_square) (maxL := 3) (ret := (some .int)) (by decide) rfl ?_
  intro p e s m args below meth c s₁ B hml hv
  obtain ⟨rfl, hBm⟩ := hv
  have hx := B.exec
  have hb := B.bytes
  have hr := B.returns
  have hts := atoms_spec (ws := wz_X2_square) B.pre
  have hWA : ∀ w ∈ WA, w.before ([.ref a0, .int x1, .int x2] : List Value).toArray s = true := fun u9 h9 => hts u9 (List.mem_cons_of_mem _ h9)
  have hown : s.vm.findClass RX2 = some m.cls := findClass_of_methodNamed B.named
  have hlocks := B.notSynchronized
  have S : CallFix p m c cX2_square 3 s ([.ref a0, .int x1, .int x2] : List Value).toArray wz_X2_square RX2 := ⟨hx, hb, hml, hown, hts⟩
  have hK := hBm.2.2.2.1
  have hZ := hBm.2.2.2.2
  have hM : mm_W D cs A L K N s.heap I P s.heap [] := ⟨hBm.1, hBm.2.1, hBm.2.2.1, va_S.rf⟩
  have hl := lv_entry ([.ref a0, .int x1, .int x2]) (n := 3) (Nat.le_of_ble_eq_true rfl)
  rw [lg_entry_eq]
  generalize (lg_sl ([.ref a0, .int x1, .int x2]) ++ List.replicate (3 - (lg_sl ([.ref a0, .int x1, .int x2])).length) Slot.unset).toArray = ls at hl ⊢
  have hl : lv_has ls 3 [(0, .ref a0), (1, .int x1), (2, .int x2)] := hl
  have hin2 : ∀ w ∈ wsX20, w ∈ wz_X2_square := fun w h => List.mem_cons_of_mem _ (wu_X2 w h)
  have lk15 : (Cond.fieldLink RX2 15 RX2 "radius" "I").before ([.ref a0, .int x1, .int x2] : List Value).toArray s = true := hWA _ wa_1_62
  generalize hQ : MQ below (va_Qi (fun r (_ : Unit) => r = res) (fun _ => mm_B D cs A L K N z w I P) A) ([.ref a0, .int x1, .int x2] : List Value).toArray s 0 0 A = QQ
  rw [fn_X2_square] at hf
  refine lv_iload_n hx hb dX2_square_0 rfl (lv_at hl 1 rfl) ?_
  refine va_mabs hx hb (hml.trans hl.1.symm) hown (hWA _ wa_2_192) (hWA _ wa_2_136) (hWA _ wa_1_13) (hWA _ wa_2_137) (Nat.le_of_ble_eq_true rfl) (Nat.le_of_ble_eq_true rfl) (Nat.zero_le _) (Nat.zero_le _) dX2_square_1 ?_
  refine lv_aload_n hx hb dX2_square_4 rfl (lv_at hl 0 rfl) ?_
  refine gd_e hf (fun hg1 hf => ?_)
  refine ev_get (v := .int (I a0 1)) S hK hM (ci := 2) (n := 4) (C := RX2) (T := TX2) hin2 rfl hg1 1 (by decide) lk15 rfl rfl rfl dX2_square_5 ?_
  refine lv_icmp_gt (tgt := 28) hx hb dX2_square_8 (by decide) (fun hc2 => ?_) (fun hc2 => ?_)
  · have hf := it_p hf hc2
    refine lv_iconst (v := (0 : Int32)) hx hb dX2_square_28 (by decide) ?_
    obtain rfl := Option.some.inj hf
    subst hQ
    exact ev_iret S hr hlocks hK hZ hM dX2_square_29
  · have hf := it_n hf hc2
    refine lv_iload_n hx hb dX2_square_11 rfl (lv_at hl 2 rfl) ?_
    refine va_mabs hx hb (hml.trans hl.1.symm) hown (hWA _ wa_2_192) (hWA _ wa_2_136) (hWA _ wa_1_13) (hWA _ wa_2_137) (Nat.le_of_ble_eq_true rfl) (Nat.le_of_ble_eq_true rfl) (Nat.zero_le _) (Nat.zero_le _) dX2_square_12 ?_
    refine lv_aload_n hx hb dX2_square_15 rfl (lv_at hl 0 rfl) ?_
    refine ev_get (v := .int (I a0 1)) S hK hM (ci := 2) (n := 4) (C := RX2) (T := TX2) hin2 rfl hg1 1 (by decide) lk15 rfl rfl rfl dX2_square_16 ?_
    refine lv_icmp_gt (tgt := 28) hx hb dX2_square_19 (by decide) (fun hc3 => ?_) (fun hc3 => ?_)
    · have hf := it_p hf hc3
      refine lv_iconst (v := (0 : Int32)) hx hb dX2_square_28 (by decide) ?_
      obtain rfl := Option.some.inj hf
      subst hQ
      exact ev_iret S hr hlocks hK hZ hM dX2_square_29
    · have hf := it_n hf hc3
      refine lv_sipush (v := (255 : Int32)) hx hb dX2_square_22 (by decide) ?_
      refine lv_goto (tgt := 29) hx hb dX2_square_25 (by decide) ?_
      obtain rfl := Option.some.inj hf
      subst hQ
      exact ev_iret S hr hlocks hK hZ hM dX2_square_29
noncomputable def fn_X2_coverAt (K N : Nat → Nat) (I : Nat → Nat → Int32) (P : Nat → Nat → Option Nat) (a0 : Nat) (x1 : Int32) (x2 : Int32) : Option (Int32) := gd (K a0 = 3) (if (I a0 0) = (1 : Int32) then (Option.bind (fn_X2_soft K N I P a0 x1 x2) (fun (r6 : Int32) => some r6)) else (if (I a0 0) = (2 : Int32) then (Option.bind (fn_X2_square K N I P a0 x1 x2) (fun (r7 : Int32) => some r7)) else (if (I a0 0) = (3 : Int32) then (Option.bind (fn_X2_soft K N I P a0 x1 x2) (fun (r8 : Int32) => gd (vf_n32 (FP.fmul (FP.i2f r8) (FP.i2f (I a0 3)))) (gd (vf_n32 (FP.fdiv (FP.fmul (FP.i2f r8) (FP.i2f (I a0 3))) (1091567616 : UInt32))) (some (FP.f2i (FP.fdiv (FP.fmul (FP.i2f r8) (FP.i2f (I a0 3))) (1091567616 : UInt32))))))) else (if (I a0 0) = (4 : Int32) then (if x1 = 0 then (Option.bind (fn_X2_square K N I P a0 x1 x2) (fun (r12 : Int32) => some r12)) else (if x2 = 0 then (Option.bind (fn_X2_square K N I P a0 x1 x2) (fun (r14 : Int32) => some r14)) else (some (0 : Int32)))) else (Option.bind (fn_X2_round K N I P a0 x1 x2) (fun (r15 : Int32) => some r15))))))
abbrev wz_X2_coverAt : List Cond := Cond.code yX2_coverAt cX2_coverAt 3 (some .int) :: WA
abbrev rm_X2_coverAt : Room := { frames := 3, cells := 0, slots := 0, locals := 58 }
set_option maxHeartbeats 4000000 in
set_option maxRecDepth 100000 in
theorem c_X2_coverAt (I : Nat → Nat → Int32) (P : Nat → Nat → Option Nat) (a0 : Nat) (x1 : Int32) (x2 : Int32) (res : Int32) (hf : fn_X2_coverAt K N I P a0 x1 x2 = some res) : Met l yX2_coverAt wz_X2_coverAt rm_X2_coverAt (va_Pc [.ref a0, .int x1, .int x2] (mm_B D cs A L K N z w I P)) (va_Qi (fun r (_ : Unit) => r = res) (fun _ => mm_B D cs A L K N z w I P) A) 0 0 A := by
  refine Met.ofW (cc := cX2_coverAt) (maxL := 3) (ret := (some .int)) (by decide) rfl ?_
  intro p e s m args below meth c s₁ B hml hv
  obtain ⟨rfl, hBm⟩ := hv
  have hx := B.exec
  have hb := B.bytes
  have hr := B.returns
  have hts := atoms_spec (ws := wz_X2_coverAt) B.pre
  have hWA : ∀ w ∈ WA, w.before ([.ref a0, .int x1, .int x2] : List Value).toArray s = true := fun u9 h9 => hts u9 (List.mem_cons_of_mem _ h9)
  have hown : s.vm.findClass RX2 = some m.cls := findClass_of_methodNamed B.named
  have hlocks := B.notSynchronized
  have S : CallFix p m c cX2_coverAt 3 s ([.ref a0, .int x1, .int x2] : List Value).toArray wz_X2_coverAt RX2 := ⟨hx, hb, hml, hown, hts⟩
  have hK := hBm.2.2.2.1
  have hZ := hBm.2.2.2.2
  have hM : mm_W D cs A L K N s.heap I P s.heap [] := ⟨hBm.1, hBm.2.1, hBm.2.2.1, va_S.rf⟩
  have hl := lv_entry ([.ref a0, .int x1, .int x2]) (n := 3) (Nat.le_of_ble_eq_true rfl)
  rw [lg_entry_eq]
  generalize (lg_sl ([.ref a0, .int x1, .int x2]) ++ List.replicate (3 - (lg_sl ([.ref a0, .int x1, .int x2])).length) Slot.unset).toArray = ls at hl ⊢
  have hl : lv_has ls 3 [(0, .ref a0), (1, .int x1), (2, .int x2)] := hl
  have hin2 : ∀ w ∈ wsX20, w ∈ wz_X2_coverAt := fun w h => List.mem_cons_of_mem _ (wu_X2 w h)
  have lk9 : (Cond.fieldLink RX2 9 RX2 "kind" "I").before ([.ref a0, .int x1, .int x2] : List Value).toArray s = true := hWA _ wa_1_59
  have lk21 : (Cond.fieldLink RX2 21 RX2 "flow" "I").before ([.ref a0, .int x1, .int x2] : List Value).toArray s = true := hWA _ wa_1_68
  generalize hQ : MQ below (va_Qi (fun r (_ : Unit) => r = res) (fun _ => mm_B D cs A L K N z w I P) A) ([.ref a0, .int x1, .int x2] : List Value).toArray s 0 0 A = QQ
  rw [fn_X2_coverAt] at hf
  refine lv_aload_n hx hb dX2_coverAt_0 rfl (lv_at hl 0 rfl) ?_
  refine gd_e hf (fun hg1 hf => ?_)
  refine ev_get (v := .int (I a0 0)) S hK hM (ci := 2) (n := 4) (C := RX2) (T := TX2) hin2 rfl hg1 0 (by decide) lk9 rfl rfl rfl dX2_coverAt_1 ?_
  refine (Classical.em ((I a0 0) = (1 : Int32))).elim (fun hc2 => ?_) (fun hc2 => ?_)
  · have hf := it_p hf hc2
    refine lv_tableIn (off := 32) (tgt := 36) hx hb dX2_coverAt_4 (by rw [hc2]; decide) (by rw [hc2]; decide) (by rw [hc2]; rfl) (by decide) ?_
    refine lv_aload_n hx hb dX2_coverAt_36 rfl (lv_at hl 0 rfl) ?_
    refine lv_iload_n hx hb dX2_coverAt_37 rfl (lv_at hl 1 rfl) ?_
    refine lv_iload_n hx hb dX2_coverAt_38 rfl (lv_at hl 2 rfl) ?_
    refine bd_e hf (fun r6 er6 hf => ?_)
    refine ev_calli (va_runV (As := [.int x1, .int x2]) (rest := []) S (c_X2_soft (l := l) I P a0 x1 x2 r6 er6) (cwV 2 hts (gi_v wa_2_180 wa_2_182 wa_s_2 wa_1_4 wa_2_183) rfl rfl rfl (by decide +kernel) ⟨Nat.le_of_ble_eq_true rfl, Nat.le_of_ble_eq_true rfl⟩) ⟨mm_B_blind, ev_recv hK hM (ci := 2) rfl hg1 rfl, fun U hU hW => ⟨rfl, mm_B_of hK hZ hM hU hW⟩⟩ rfl rfl hl.1 rfl (lv_room (Nat.le_of_ble_eq_true rfl)) dX2_coverAt_39 ⟨Nat.zero_le _, Nat.zero_le _⟩) hM (fun H locs hM => ?_)
    obtain rfl := Option.some.inj hf
    subst hQ
    exact ev_iret S hr hlocks hK hZ hM dX2_coverAt_42
  · have hf := it_n hf hc2
    refine (Classical.em ((I a0 0) = (2 : Int32))).elim (fun hc3 => ?_) (fun hc3 => ?_)
    · have hf := it_p hf hc3
      refine lv_tableIn (off := 39) (tgt := 43) hx hb dX2_coverAt_4 (by rw [hc3]; decide) (by rw [hc3]; decide) (by rw [hc3]; rfl) (by decide) ?_
      refine lv_aload_n hx hb dX2_coverAt_43 rfl (lv_at hl 0 rfl) ?_
      refine lv_iload_n hx hb dX2_coverAt_44 rfl (lv_at hl 1 rfl) ?_
      refine lv_iload_n hx hb dX2_coverAt_45 rfl (lv_at hl 2 rfl) ?_
      refine bd_e hf (fun r7 er7 hf => ?_)
      refine ev_calli (va_runV (As := [.int x1, .int x2]) (rest := []) S (c_X2_square (l := l) I P a0 x1 x2 r7 er7) (cwV 2 hts (gi_v wa_2_188 wa_2_190 wa_s_4 wa_1_4 wa_2_191) rfl rfl rfl (by decide +kernel) ⟨Nat.le_of_ble_eq_true rfl, Nat.le_of_ble_eq_true rfl⟩) ⟨mm_B_blind, ev_recv hK hM (ci := 2) rfl hg1 rfl, fun U hU hW => ⟨rfl, mm_B_of hK hZ hM hU hW⟩⟩ rfl rfl hl.1 rfl (lv_room (Nat.le_of_ble_eq_true rfl)) dX2_coverAt_46 ⟨Nat.zero_le _, Nat.zero_le _⟩) hM (fun H locs hM => ?_)
      obtain rfl := Option.some.inj hf
      subst hQ
      exact ev_iret S hr hlocks hK hZ hM dX2_coverAt_49
    · have hf := it_n hf hc3
      refine (Classical.em ((I a0 0) = (3 : Int32))).elim (fun hc4 => ?_) (fun hc4 => ?_)
      · have hf := it_p hf hc4
        refine lv_tableIn (off := 46) (tgt := 50) hx hb dX2_coverAt_4 (by rw [hc4]; decide) (by rw [hc4]; decide) (by rw [hc4]; rfl) (by decide) ?_
        refine lv_aload_n hx hb dX2_coverAt_50 rfl (lv_at hl 0 rfl) ?_
        refine lv_iload_n hx hb dX2_coverAt_51 rfl (lv_at hl 1 rfl) ?_
        refine lv_iload_n hx hb dX2_coverAt_52 rfl (lv_at hl 2 rfl) ?_
        refine bd_e hf (fun r8 er8 hf => ?_)
        refine ev_calli (va_runV (As := [.int x1, .int x2]) (rest := []) S (c_X2_soft (l := l) I P a0 x1 x2 r8 er8) (cwV 2 hts (gi_v wa_2_180 wa_2_182 wa_s_2 wa_1_4 wa_2_183) rfl rfl rfl (by decide +kernel) ⟨Nat.le_of_ble_eq_true rfl, Nat.le_of_ble_eq_true rfl⟩) ⟨mm_B_blind, ev_recv hK hM (ci := 2) rfl hg1 rfl, fun U hU hW => ⟨rfl, mm_B_of hK hZ hM hU hW⟩⟩ rfl rfl hl.1 rfl (lv_room (Nat.le_of_ble_eq_true rfl)) dX2_coverAt_53 ⟨Nat.zero_le _, Nat.zero_le _⟩) hM (fun H locs hM => ?_)
        refine lv_i2f hx hb dX2_coverAt_56 ?_
        refine lv_aload_n hx hb dX2_coverAt_57 rfl (lv_at hl 0 rfl) ?_
        refine ev_get (v := .int (I a0 3)) S hK hM (ci := 2) (n := 4) (C := RX2) (T := TX2) hin2 rfl hg1 3 (by decide) lk21 rfl rfl rfl dX2_coverAt_58 ?_
        refine lv_i2f hx hb dX2_coverAt_61 ?_
        refine gd_e hf (fun hg9 hf => ?_)
        refine lv_fmul hx hb dX2_coverAt_62 hg9 ?_
        refine lv_ldcf (v := 1091567616) hx hb hown (hWA _ wa_2_193) dX2_coverAt_63 ?_
        refine gd_e hf (fun hg10 hf => ?_)
        refine lv_fdiv hx hb dX2_coverAt_65 hg10 ?_
        refine lv_f2i hx hb dX2_coverAt_66 ?_
        obtain rfl := Option.some.inj hf
        subst hQ
        exact ev_iret S hr hlocks hK hZ hM dX2_coverAt_67
      · have hf := it_n hf hc4
        refine (Classical.em ((I a0 0) = (4 : Int32))).elim (fun hc5 => ?_) (fun hc5 => ?_)
        · have hf := it_p hf hc5
          refine lv_tableIn (off := 64) (tgt := 68) hx hb dX2_coverAt_4 (by rw [hc5]; decide) (by rw [hc5]; decide) (by rw [hc5]; rfl) (by decide) ?_
          refine lv_iload_n hx hb dX2_coverAt_68 rfl (lv_at hl 1 rfl) ?_
          refine lv_if_eq (tgt := 76) hx hb dX2_coverAt_69 (by decide) (fun hc11 => ?_) (fun hc11 => ?_)
          · have hf := it_p hf hc11
            refine lv_aload_n hx hb dX2_coverAt_76 rfl (lv_at hl 0 rfl) ?_
            refine lv_iload_n hx hb dX2_coverAt_77 rfl (lv_at hl 1 rfl) ?_
            refine lv_iload_n hx hb dX2_coverAt_78 rfl (lv_at hl 2 rfl) ?_
            refine bd_e hf (fun r12 er12 hf => ?_)
            refine ev_calli (va_runV (As := [.int x1, .int x2]) (rest := []) S (c_X2_square (l := l) I P a0 x1 x2 r12 er12) (cwV 2 hts (gi_v wa_2_188 wa_2_190 wa_s_4 wa_1_4 wa_2_191) rfl rfl rfl (by decide +kernel) ⟨Nat.le_of_ble_eq_true rfl, Nat.le_of_ble_eq_true rfl⟩) ⟨mm_B_blind, ev_recv hK hM (ci := 2) rfl hg1 rfl, fun U hU hW => ⟨rfl, mm_B_of hK hZ hM hU hW⟩⟩ rfl rfl hl.1 rfl (lv_room (Nat.le_of_ble_eq_true rfl)) dX2_coverAt_79 ⟨Nat.zero_le _, Nat.zero_le _⟩) hM (fun H locs hM => ?_)
            refine lv_goto (tgt := 86) hx hb dX2_coverAt_82 (by decide) ?_
            obtain rfl := Option.some.inj hf
            subst hQ
            exact ev_iret S hr hlocks hK hZ hM dX2_coverAt_86
          · have hf := it_n hf hc11
            refine lv_iload_n hx hb dX2_coverAt_72 rfl (lv_at hl 2 rfl) ?_
            refine lv_if_ne (tgt := 85) hx hb dX2_coverAt_73 (by decide) (fun hc13 => ?_) (fun hc13 => ?_)
            · have hf := it_n hf hc13
              refine lv_iconst (v := (0 : Int32)) hx hb dX2_coverAt_85 (by decide) ?_
              obtain rfl := Option.some.inj hf
              subst hQ
              exact ev_iret S hr hlocks hK hZ hM dX2_coverAt_86
            · have hf := it_p hf hc13
              refine lv_aload_n hx hb dX2_coverAt_76 rfl (lv_at hl 0 rfl) ?_
              refine lv_iload_n hx hb dX2_coverAt_77 rfl (lv_at hl 1 rfl) ?_
              refine lv_iload_n hx hb dX2_coverAt_78 rfl (lv_at hl 2 rfl) ?_
              refine bd_e hf (fun r14 er14 hf => ?_)
              refine ev_calli (va_runV (As := [.int x1, .int x2]) (rest := []) S (c_X2_square (l := l) I P a0 x1 x2 r14 er14) (cwV 2 hts (gi_v wa_2_188 wa_2_190 wa_s_4 wa_1_4 wa_2_191) rfl rfl rfl (by decide +kernel) ⟨Nat.le_of_ble_eq_true rfl, Nat.le_of_ble_eq_true rfl⟩) ⟨mm_B_blind, ev_recv hK hM (ci := 2) rfl hg1 rfl, fun U hU hW => ⟨rfl, mm_B_of hK hZ hM hU hW⟩⟩ rfl rfl hl.1 rfl (lv_room (Nat.le_of_ble_eq_true rfl)) dX2_coverAt_79 ⟨Nat.zero_le _, Nat.zero_le _⟩) hM (fun H locs hM => ?_)
              refine lv_goto (tgt := 86) hx hb dX2_coverAt_82 (by decide) ?_
              obtain rfl := Option.some.inj hf
              subst hQ
              exact ev_iret S hr hlocks hK hZ hM dX2_coverAt_86
        · have hf := it_n hf hc5
          refine lv_tableOut (tgt := 87) hx hb dX2_coverAt_4 (by have t0 := ne_t hc2 (y := 1) rfl; have t1 := ne_t hc3 (y := 2) rfl; have t2 := ne_t hc4 (y := 3) rfl; have t3 := ne_t hc5 (y := 4) rfl; omega) (by decide) ?_
          refine lv_aload_n hx hb dX2_coverAt_87 rfl (lv_at hl 0 rfl) ?_
          refine lv_iload_n hx hb dX2_coverAt_88 rfl (lv_at hl 1 rfl) ?_
          refine lv_iload_n hx hb dX2_coverAt_89 rfl (lv_at hl 2 rfl) ?_
          refine bd_e hf (fun r15 er15 hf => ?_)
          refine ev_calli (va_runV (As := [.int x1, .int x2]) (rest := []) S (c_X2_round (l := l) I P a0 x1 x2 r15 er15) (cwV 2 hts (gi_v wa_2_184 wa_2_186 wa_s_3 wa_1_4 wa_2_187) rfl rfl rfl (by decide +kernel) ⟨Nat.le_of_ble_eq_true rfl, Nat.le_of_ble_eq_true rfl⟩) ⟨mm_B_blind, ev_recv hK hM (ci := 2) rfl hg1 rfl, fun U hU hW => ⟨rfl, mm_B_of hK hZ hM hU hW⟩⟩ rfl rfl hl.1 rfl (lv_room (Nat.le_of_ble_eq_true rfl)) dX2_coverAt_90 ⟨Nat.zero_le _, Nat.zero_le _⟩) hM (fun H locs hM => ?_)
          obtain rfl := Option.some.inj hf
          subst hQ
          exact ev_iret S hr hlocks hK hZ hM dX2_coverAt_93
noncomputable def fn_X3_clear_L2 (K : Nat → Nat) (N : Nat → Nat) (a0 : Nat) (P : Nat → Nat → Option Nat) : Nat → Int32 → (Nat → Nat → Int32) → Option ((Nat → Nat → Int32))
  | 0, _, _ => none
  | n + 1, v1, I2 => if (192 : Int32) ≤ v1 then (some I2) else (gd (K a0 = 4) (Option.bind (P a0 (0)) (fun q6 => gd (K q6 = 13 ∧ vp_in v1 (N q6)) (Option.bind (some (up2 I2 q6 (v1.toNatClampNeg) (vp_nar .boolean (0 : Int32)))) (fun I8 => fn_X3_clear_L2 K N a0 P n (v1 + (1 : Int32)) I8)))))
noncomputable def fn_X3_clear (K N : Nat → Nat) (I : Nat → Nat → Int32) (P : Nat → Nat → Option Nat) (a0 : Nat) : Option ((Nat → Nat → Int32)) := Option.bind (fn_X3_clear_L2 K N a0 P FU (0 : Int32) I) (fun (r3 : (Nat → Nat → Int32)) => some r3)
abbrev wz_X3_clear : List Cond := Cond.code yX3_clear cX3_clear 2 none :: WA
abbrev rm_X3_clear : Room := { frames := 1, cells := 0, slots := 0, locals := 12 }
set_option maxHeartbeats 4000000 in
set_option maxRecDepth 100000 in
theorem c_X3_clear (I : Nat → Nat → Int32) (P : Nat → Nat → Option Nat) (a0 : Nat) (res : (Nat → Nat → Int32)) (hf : fn_X3_clear K N I P a0 = some res) : Met l yX3_clear wz_X3_clear rm_X3_clear (va_Pc [.ref a0] (mm_B D cs A L K N z w I P)) (va_Qv (fun (_ : Unit) => True) (fun _ => mm_B D cs A L K N z w res P) A) 0 0 A := by
  refine Met.ofW (cc := cX3_clear) (maxL := 2) (ret := none) (by decide) rfl ?_
  intro p e s m args below meth c s₁ B hml hv
  obtain ⟨rfl, hBm⟩ := hv
  have hx := B.exec
  have hb := B.bytes
  have hr := B.returns
  have hts := atoms_spec (ws := wz_X3_clear) B.pre
  have hWA : ∀ w ∈ WA, w.before ([.ref a0] : List Value).toArray s = true := fun u9 h9 => hts u9 (List.mem_cons_of_mem _ h9)
  have hown : s.vm.findClass RX3 = some m.cls := findClass_of_methodNamed B.named
  have hlocks := B.notSynchronized
  have S : CallFix p m c cX3_clear 2 s ([.ref a0] : List Value).toArray wz_X3_clear RX3 := ⟨hx, hb, hml, hown, hts⟩
  have hK := hBm.2.2.2.1
  have hZ := hBm.2.2.2.2
  have hM : mm_W D cs A L K N s.heap I P s.heap [] := ⟨hBm.1, hBm.2.1, hBm.2.2.1, va_S.rf⟩
  have hl := lv_entry ([.ref a0]) (n := 2) (Nat.le_of_ble_eq_true rfl)
  rw [lg_entry_eq]
  generalize (lg_sl ([.ref a0]) ++ List.replicate (2 - (lg_sl ([.ref a0])).length) Slot.unset).toArray = ls at hl ⊢
  have hl : lv_has ls 2 [(0, .ref a0)] := hl
  have hin3 : ∀ w ∈ wsX30, w ∈ wz_X3_clear := fun w h => List.mem_cons_of_mem _ (wu_X3 w h)
  have lk9 : (Cond.fieldLink RX3 9 RX3 "chosen" "[Z").before ([.ref a0] : List Value).toArray s = true := hWA _ wa_1_238
  generalize hQ : MQ below (va_Qv (fun (_ : Unit) => True) (fun _ => mm_B D cs A L K N z w res P) A) ([.ref a0] : List Value).toArray s 0 0 A = QQ
  rw [fn_X3_clear] at hf
  refine lv_iconst (v := (0 : Int32)) hx hb dX3_clear_0 (by decide) ?_
  refine lv_istore_n (lv' := [(1, .int (0 : Int32)), (0, .ref a0)]) hx hb dX3_clear_1 rfl hl (by decide) rfl (fun ls hl => ?_)
  have lp2_8 : ∀ (n : Nat) (v1 : Int32) (I2 : Nat → Nat → Int32) (H : Heap) (locs : List Loc) (ls : Array Slot) (r3 : (Nat → Nat → Int32)), mm_W D cs A L K N s.heap I2 P H locs → lv_has ls 2 [(0, .ref a0), (1, .int v1)] → fn_X3_clear_L2 K N a0 P n v1 I2 = some r3 → (∀ (H : Heap) (locs : List Loc) (ls : Array Slot), mm_W D cs A L K N s.heap r3 P H locs → lv_has ls 2 [] → W p l e (headSpec wz_X3_clear rm_X3_clear).room s m ([.ref a0] : List Value).toArray below meth c H locs 0 0 QQ (F0 m 22 ls [])) → W p l e (headSpec wz_X3_clear rm_X3_clear).room s m ([.ref a0] : List Value).toArray below meth c H locs 0 0 QQ (F0 m 2 ls []) := by
    intro n
    induction n with
    | zero => intro v1 I2 H locs ls r3 hM hl hf kk; exact nn_x (show (none : Option ((Nat → Nat → Int32))) = some r3 from hf)
    | succ n ih =>
      intro v1 I2 H locs ls r3 hM hl hf kk
      rw [fn_X3_clear_L2] at hf
      refine lv_iload_n hx hb dX3_clear_2 rfl (lv_at hl 1 rfl) ?_
      refine lv_sipush (v := (192 : Int32)) hx hb dX3_clear_3 (by decide) ?_
      refine lv_icmp_ge (tgt := 22) hx hb dX3_clear_6 (by decide) (fun hc4 => ?_) (fun hc4 => ?_)
      · have hf := it_p hf hc4
        obtain rfl := Option.some.inj hf
        exact kk _ _ _ hM (lv_sub hl [] rfl)
      · have hf := it_n hf hc4
        refine lv_aload_n hx hb dX3_clear_9 rfl (lv_at hl 0 rfl) ?_
        refine gd_e hf (fun hg5 hf => ?_)
        refine bd_e hf (fun q6 eq6 hf => ?_)
        refine ev_getP (v := q6) S hK hM (ci := 3) (n := 4) (C := RX3) (T := TX3) hin3 rfl hg5 0 (by decide) lk9 rfl rfl eq6 rfl dX3_clear_10 ?_
        refine lv_iload_n hx hb dX3_clear_13 rfl (lv_at hl 1 rfl) ?_
        refine lv_iconst (v := (0 : Int32)) hx hb dX3_clear_14 (by decide) ?_
        refine gd_e hf (fun hg7 hf => ?_)
        refine ev_zast S hK hM hg7 (j := v1.toNatClampNeg) rfl dX3_clear_15 (fun I8 eI8 H locs hM => ?_)
        have hf := nm_x eI8 hf
        refine lv_iinc (v := (v1 + (1 : Int32))) (lv' := [(1, .int (v1 + (1 : Int32))), (0, .ref a0)]) hx hb dX3_clear_16 hl (k := 1) rfl rfl (by decide) rfl (fun ls hl => ?_)
        refine lv_goto (tgt := 2) hx hb dX3_clear_19 (by decide) ?_
        exact ih (v1 + (1 : Int32)) I8 _ _ _ _ hM (lv_sub hl [1, 0] rfl) hf kk
  refine bd_e hf (fun r3 er3 hf => ?_)
  refine lp2_8 FU (0 : Int32) I _ _ _ r3 hM (lv_sub hl [1, 0] rfl) er3 (fun H locs ls hM hl => ?_)
  obtain rfl := Option.some.inj hf
  subst hQ
  exact ev_vret S hr hlocks hK hZ hM dX3_clear_22
noncomputable def fn_X9_dotAt (x0 : Int32) (x1 : Int32) : Option (Int32) := some ((x1 * (16 : Int32)) + x0)
abbrev wz_X9_dotAt : List Cond := Cond.code yX9_dotAt cX9_dotAt 2 (some .int) :: WA
abbrev rm_X9_dotAt : Room := { frames := 1, cells := 0, slots := 0, locals := 12 }
set_option maxHeartbeats 4000000 in
set_option maxRecDepth 100000 in
theorem c_X9_dotAt (I : Nat → Nat → Int32) (P : Nat → Nat → Option Nat) (x0 : Int32) (x1 : Int32) (res : Int32) (hf : fn_X9_dotAt x0 x1 = some res) : Met l yX9_dotAt wz_X9_dotAt rm_X9_dotAt (va_Pc [.int x0, .int x1] (mm_B D cs A L K N z w I P)) (va_Qi (fun r (_ : Unit) => r = res) (fun _ => mm_B D cs A L K N z w I P) A) 0 0 A := by
  refine Met.ofW (cc := cX9_dotAt) (maxL := 2) (ret := (some .int)) (by decide) rfl ?_
  intro p e s m args below meth c s₁ B hml hv
  obtain ⟨rfl, hBm⟩ := hv
  have hx := B.exec
  have hb := B.bytes
  have hr := B.returns
  have hts := atoms_spec (ws := wz_X9_dotAt) B.pre
  have hWA : ∀ w ∈ WA, w.before ([.int x0, .int x1] : List Value).toArray s = true := fun u9 h9 => hts u9 (List.mem_cons_of_mem _ h9)
  have hown : s.vm.findClass RX9 = some m.cls := findClass_of_methodNamed B.named
  have hlocks := B.notSynchronized
  have S : CallFix p m c cX9_dotAt 2 s ([.int x0, .int x1] : List Value).toArray wz_X9_dotAt RX9 := ⟨hx, hb, hml, hown, hts⟩
  have hK := hBm.2.2.2.1
  have hZ := hBm.2.2.2.2
  have hM : mm_W D cs A L K N s.heap I P s.heap [] := ⟨hBm.1, hBm.2.1, hBm.2.2.1, va_S.rf⟩
  have hl := lv_entry ([.int x0, .int x1]) (n := 2) (Nat.le_of_ble_eq_true rfl)
  rw [lg_entry_eq]
  generalize (lg_sl ([.int x0, .int x1]) ++ List.replicate (2 - (lg_sl ([.int x0, .int x1])).length) Slot.unset).toArray = ls at hl ⊢
  have hl : lv_has ls 2 [(0, .int x0), (1, .int x1)] := hl
  generalize hQ : MQ below (va_Qi (fun r (_ : Unit) => r = res) (fun _ => mm_B D cs A L K N z w I P) A) ([.int x0, .int x1] : List Value).toArray s 0 0 A = QQ
  unfold fn_X9_dotAt at hf
  refine lv_iload_n hx hb dX9_dotAt_0 rfl (lv_at hl 1 rfl) ?_
  refine lv_bipush (v := (16 : Int32)) hx hb dX9_dotAt_1 (by decide) ?_
  refine lv_imul hx hb dX9_dotAt_3 ?_
  refine lv_iload_n hx hb dX9_dotAt_4 rfl (lv_at hl 0 rfl) ?_
  refine lv_iadd hx hb dX9_dotAt_5 ?_
  obtain rfl := Option.some.inj hf
  subst hQ
  exact ev_iret S hr hlocks hK hZ hM dX9_dotAt_6
noncomputable def fn_X3_chooseBox_L30 (K : Nat → Nat) (N : Nat → Nat) (a0 : Nat) (x1 : Int32) (x3 : Int32) (P : Nat → Nat → Option Nat) (v4 : Int32) : Nat → Int32 → (Nat → Nat → Int32) → Option ((Nat → Nat → Int32))
  | 0, _, _ => none
  | n + 1, v9, I10 => if (if x1 < x3 then x3 else x1) < v9 then (some I10) else (Option.bind (P a0 (0)) (fun q13 => Option.bind (fn_X9_dotAt v9 v4) (fun (r14 : Int32) => gd (K q13 = 13 ∧ vp_in r14 (N q13)) (Option.bind (some (up2 I10 q13 (r14.toNatClampNeg) (vp_nar .boolean (1 : Int32)))) (fun I16 => fn_X3_chooseBox_L30 K N a0 x1 x3 P v4 n (v9 + (1 : Int32)) I16)))))
noncomputable def fn_X3_chooseBox_L12 (K : Nat → Nat) (N : Nat → Nat) (a0 : Nat) (x1 : Int32) (x2 : Int32) (x3 : Int32) (x4 : Int32) (P : Nat → Nat → Option Nat) : Nat → Int32 → (Nat → Nat → Int32) → Option ((Nat → Nat → Int32))
  | 0, _, _ => none
  | n + 1, v4, I5 => if (if x2 < x4 then x4 else x2) < v4 then (some I5) else (Option.bind (some (if x3 < x1 then x3 else x1)) (fun v8 => Option.bind (fn_X3_chooseBox_L30 K N a0 x1 x3 P v4 FU v8 I5) (fun (r11 : (Nat → Nat → Int32)) => fn_X3_chooseBox_L12 K N a0 x1 x2 x3 x4 P n (v4 + (1 : Int32)) r11)))
noncomputable def fn_X3_chooseBox (K N : Nat → Nat) (I : Nat → Nat → Int32) (P : Nat → Nat → Option Nat) (a0 : Nat) (x1 : Int32) (x2 : Int32) (x3 : Int32) (x4 : Int32) : Option ((Nat → Nat → Int32)) := Option.bind (fn_X3_clear K N I P a0) (fun (r1 : (Nat → Nat → Int32)) => gd (K a0 = 4) (Option.bind (some (if x4 < x2 then x4 else x2)) (fun v3 => Option.bind (fn_X3_chooseBox_L12 K N a0 x1 x2 x3 x4 P FU v3 r1) (fun (r6 : (Nat → Nat → Int32)) => some r6))))
abbrev wz_X3_chooseBox : List Cond := Cond.code yX3_chooseBox cX3_chooseBox 7 none :: WA
abbrev rm_X3_chooseBox : Room := { frames := 2, cells := 0, slots := 0, locals := 33 }
set_option maxHeartbeats 4000000 in
set_option maxRecDepth 100000 in
theorem c_X3_chooseBox (I : Nat → Nat → Int32) (P : Nat → Nat → Option Nat) (a0 : Nat) (x1 : Int32) (x2 : Int32) (x3 : Int32) (x4 : Int32) (res : (Nat → Nat → Int32)) (hf : fn_X3_chooseBox K N I P a0 x1 x2 x3 x4 = some res) : Met l yX3_chooseBox wz_X3_chooseBox rm_X3_chooseBox (va_Pc [.ref a0, .int x1, .int x2, .int x3, .int x4] (mm_B D cs A L K N z w I P)) (va_Qv (fun (_ : Unit) => True) (fun _ => mm_B D cs A L K N z w res P) A) 0 0 A := by
  refine Met.ofW (cc := cX3_chooseBox) (maxL := 7) (ret := none) (by decide) rfl ?_
  intro p e s m args below meth c s₁ B hml hv
  obtain ⟨rfl, hBm⟩ := hv
  have hx := B.exec
  have hb := B.bytes
  have hr := B.returns
  have hts := atoms_spec (ws := wz_X3_chooseBox) B.pre
  have hWA : ∀ w ∈ WA, w.before ([.ref a0, .int x1, .int x2, .int x3, .int x4] : List Value).toArray s = true := fun u9 h9 => hts u9 (List.mem_cons_of_mem _ h9)
  have hown : s.vm.findClass RX3 = some m.cls := findClass_of_methodNamed B.named
  have hlocks := B.notSynchronized
  have S : CallFix p m c cX3_chooseBox 7 s ([.ref a0, .int x1, .int x2, .int x3, .int x4] : List Value).toArray wz_X3_chooseBox RX3 := ⟨hx, hb, hml, hown, hts⟩
  have hK := hBm.2.2.2.1
  have hZ := hBm.2.2.2.2
  have hM : mm_W D cs A L K N s.heap I P s.heap [] := ⟨hBm.1, hBm.2.1, hBm.2.2.1, va_S.rf⟩
  have hl := lv_entry ([.ref a0, .int x1, .int x2, .int x3, .int x4]) (n := 7) (Nat.le_of_ble_eq_true rfl)
  rw [lg_entry_eq]
  generalize (lg_sl ([.ref a0, .int x1, .int x2, .int x3, .int x4]) ++ List.replicate (7 - (lg_sl ([.ref a0, .int x1, .int x2, .int x3, .int x4])).length) Slot.unset).toArray = ls at hl ⊢
  have hl : lv_has ls 7 [(0, .ref a0), (1, .int x1), (2, .int x2), (3, .int x3), (4, .int x4)] := hl
  have hin3 : ∀ w ∈ wsX30, w ∈ wz_X3_chooseBox := fun w h => List.mem_cons_of_mem _ (wu_X3 w h)
  have lk9 : (Cond.fieldLink RX3 9 RX3 "chosen" "[Z").before ([.ref a0, .int x1, .int x2, .int x3, .int x4] : List Value).toArray s = true := hWA _ wa_1_238
  generalize hQ : MQ below (va_Qv (fun (_ : Unit) => True) (fun _ => mm_B D cs A L K N z w res P) A) ([.ref a0, .int x1, .int x2, .int x3, .int x4] : List Value).toArray s 0 0 A = QQ
  rw [fn_X3_chooseBox] at hf
  refine lv_aload_n hx hb dX3_chooseBox_0 rfl (lv_at hl 0 rfl) ?_
  refine bd_e hf (fun r1 er1 hf => ?_)
  refine gd_e hf (fun hg2 hf => ?_)
  refine ev_callv (va_runV (As := []) (rest := []) S (c_X3_clear (l := l) I P a0 r1 er1) (cwV 0 hts (gi_v wa_3_135 wa_3_136 wa_3_137 wa_1_10 wa_3_138) rfl rfl rfl (by decide +kernel) ⟨Nat.le_of_ble_eq_true rfl, Nat.le_of_ble_eq_true rfl⟩) ⟨mm_B_blind, ev_recv hK hM (ci := 3) rfl hg2 rfl, fun U hU hW => ⟨rfl, mm_B_of hK hZ hM hU hW⟩⟩ rfl rfl hl.1 rfl (lv_room (Nat.le_of_ble_eq_true rfl)) dX3_chooseBox_1 ⟨Nat.zero_le _, Nat.zero_le _⟩) hM (fun H locs hM => ?_)
  refine lv_iload_n hx hb dX3_chooseBox_4 rfl (lv_at hl 2 rfl) ?_
  refine lv_iload hx hb dX3_chooseBox_5 (lv_at hl 4 rfl) ?_
  refine va_mmin hx hb (hml.trans hl.1.symm) hown (hWA _ wa_3_139) (hWA _ wa_2_133) (hWA _ wa_1_13) (hWA _ wa_2_134) (Nat.le_of_ble_eq_true rfl) (Nat.le_of_ble_eq_true rfl) (Nat.zero_le _) (Nat.zero_le _) dX3_chooseBox_7 ?_
  refine lv_topi (fun v3 ev3 => ?_)
  have hf := nm_x ev3 hf
  refine lv_istore (lv' := [(5, .int v3), (0, .ref a0), (1, .int x1), (2, .int x2), (3, .int x3), (4, .int x4)]) hx hb dX3_chooseBox_10 hl (by decide) rfl (fun ls hl => ?_)
  have lp12_16 : ∀ (n : Nat) (v4 : Int32) (I5 : Nat → Nat → Int32) (H : Heap) (locs : List Loc) (ls : Array Slot) (r6 : (Nat → Nat → Int32)), mm_W D cs A L K N s.heap I5 P H locs → lv_has ls 7 [(0, .ref a0), (1, .int x1), (2, .int x2), (3, .int x3), (4, .int x4), (5, .int v4)] → fn_X3_chooseBox_L12 K N a0 x1 x2 x3 x4 P n v4 I5 = some r6 → (∀ (H : Heap) (locs : List Loc) (ls : Array Slot), mm_W D cs A L K N s.heap r6 P H locs → lv_has ls 7 [] → W p l e (headSpec wz_X3_chooseBox rm_X3_chooseBox).room s m ([.ref a0, .int x1, .int x2, .int x3, .int x4] : List Value).toArray below meth c H locs 0 0 QQ (F0 m 65 ls [])) → W p l e (headSpec wz_X3_chooseBox rm_X3_chooseBox).room s m ([.ref a0, .int x1, .int x2, .int x3, .int x4] : List Value).toArray below meth c H locs 0 0 QQ (F0 m 12 ls []) := by
    intro n
    induction n with
    | zero => intro v4 I5 H locs ls r6 hM hl hf kk; exact nn_x (show (none : Option ((Nat → Nat → Int32))) = some r6 from hf)
    | succ n ih =>
      intro v4 I5 H locs ls r6 hM hl hf kk
      rw [fn_X3_chooseBox_L12] at hf
      refine lv_iload hx hb dX3_chooseBox_12 (lv_at hl 5 rfl) ?_
      refine lv_iload_n hx hb dX3_chooseBox_14 rfl (lv_at hl 2 rfl) ?_
      refine lv_iload hx hb dX3_chooseBox_15 (lv_at hl 4 rfl) ?_
      refine va_mmax hx hb (hml.trans hl.1.symm) hown (hWA _ wa_3_140) (hWA _ wa_2_130) (hWA _ wa_1_13) (hWA _ wa_2_131) (Nat.le_of_ble_eq_true rfl) (Nat.le_of_ble_eq_true rfl) (Nat.zero_le _) (Nat.zero_le _) dX3_chooseBox_17 ?_
      refine lv_icmp_gt (tgt := 65) hx hb dX3_chooseBox_20 (by decide) (fun hc7 => ?_) (fun hc7 => ?_)
      · have hf := it_p hf hc7
        obtain rfl := Option.some.inj hf
        exact kk _ _ _ hM (lv_sub hl [] rfl)
      · have hf := it_n hf hc7
        refine lv_iload_n hx hb dX3_chooseBox_23 rfl (lv_at hl 1 rfl) ?_
        refine lv_iload_n hx hb dX3_chooseBox_24 rfl (lv_at hl 3 rfl) ?_
        refine va_mmin hx hb (hml.trans hl.1.symm) hown (hWA _ wa_3_139) (hWA _ wa_2_133) (hWA _ wa_1_13) (hWA _ wa_2_134) (Nat.le_of_ble_eq_true rfl) (Nat.le_of_ble_eq_true rfl) (Nat.zero_le _) (Nat.zero_le _) dX3_chooseBox_25 ?_
        refine lv_topi (fun v8 ev8 => ?_)
        have hf := nm_x ev8 hf
        refine lv_istore (lv' := [(6, .int v8), (0, .ref a0), (1, .int x1), (2, .int x2), (3, .int x3), (4, .int x4), (5, .int v4)]) hx hb dX3_chooseBox_28 hl (by decide) rfl (fun ls hl => ?_)
        have lp30_16 : ∀ (n : Nat) (v9 : Int32) (I10 : Nat → Nat → Int32) (H : Heap) (locs : List Loc) (ls : Array Slot) (r11 : (Nat → Nat → Int32)), mm_W D cs A L K N s.heap I10 P H locs → lv_has ls 7 [(0, .ref a0), (1, .int x1), (2, .int x2), (3, .int x3), (4, .int x4), (5, .int v4), (6, .int v9)] → fn_X3_chooseBox_L30 K N a0 x1 x3 P v4 n v9 I10 = some r11 → (∀ (H : Heap) (locs : List Loc) (ls : Array Slot), mm_W D cs A L K N s.heap r11 P H locs → lv_has ls 7 [(0, .ref a0), (1, .int x1), (2, .int x2), (3, .int x3), (4, .int x4), (5, .int v4)] → W p l e (headSpec wz_X3_chooseBox rm_X3_chooseBox).room s m ([.ref a0, .int x1, .int x2, .int x3, .int x4] : List Value).toArray below meth c H locs 0 0 QQ (F0 m 59 ls [])) → W p l e (headSpec wz_X3_chooseBox rm_X3_chooseBox).room s m ([.ref a0, .int x1, .int x2, .int x3, .int x4] : List Value).toArray below meth c H locs 0 0 QQ (F0 m 30 ls []) := by
          intro n
          induction n with
          | zero => intro v9 I10 H locs ls r11 hM hl hf kk; exact nn_x (show (none : Option ((Nat → Nat → Int32))) = some r11 from hf)
          | succ n ih =>
            intro v9 I10 H locs ls r11 hM hl hf kk
            rw [fn_X3_chooseBox_L30] at hf
            refine lv_iload hx hb dX3_chooseBox_30 (lv_at hl 6 rfl) ?_
            refine lv_iload_n hx hb dX3_chooseBox_32 rfl (lv_at hl 1 rfl) ?_
            refine lv_iload_n hx hb dX3_chooseBox_33 rfl (lv_at hl 3 rfl) ?_
            refine va_mmax hx hb (hml.trans hl.1.symm) hown (hWA _ wa_3_140) (hWA _ wa_2_130) (hWA _ wa_1_13) (hWA _ wa_2_131) (Nat.le_of_ble_eq_true rfl) (Nat.le_of_ble_eq_true rfl) (Nat.zero_le _) (Nat.zero_le _) dX3_chooseBox_34 ?_
            refine lv_icmp_gt (tgt := 59) hx hb dX3_chooseBox_37 (by decide) (fun hc12 => ?_) (fun hc12 => ?_)
            · have hf := it_p hf hc12
              obtain rfl := Option.some.inj hf
              exact kk _ _ _ hM (lv_sub hl [0, 1, 2, 3, 4, 5] rfl)
            · have hf := it_n hf hc12
              refine lv_aload_n hx hb dX3_chooseBox_40 rfl (lv_at hl 0 rfl) ?_
              refine bd_e hf (fun q13 eq13 hf => ?_)
              refine ev_getP (v := q13) S hK hM (ci := 3) (n := 4) (C := RX3) (T := TX3) hin3 rfl hg2 0 (by decide) lk9 rfl rfl eq13 rfl dX3_chooseBox_41 ?_
              refine lv_iload hx hb dX3_chooseBox_44 (lv_at hl 6 rfl) ?_
              refine lv_iload hx hb dX3_chooseBox_46 (lv_at hl 5 rfl) ?_
              refine bd_e hf (fun r14 er14 hf => ?_)
              refine ev_calli (va_runSN (As := [.int v9, .int v4]) (rest := [.ref q13]) S (c_X9_dotAt (l := l) I10 P v9 v4 r14 er14) ⟨va_cnB 2 hts (gi_n wa_2_150) rfl rfl rfl hZ.1.2.2.1 (hWA _ wa_1_1) (by decide +kernel) ⟨Nat.le_of_ble_eq_true rfl, Nat.le_of_ble_eq_true rfl⟩, hWA _ wa_2_149, trivial⟩ ⟨mm_B_blind, fun U hU hW => ⟨rfl, mm_B_of hK hZ hM hU hW⟩⟩ rfl rfl hl.1 rfl (lv_room (Nat.le_of_ble_eq_true rfl)) dX3_chooseBox_48 ⟨Nat.zero_le _, Nat.zero_le _⟩) hM (fun H locs hM => ?_)
              refine lv_iconst (v := (1 : Int32)) hx hb dX3_chooseBox_51 (by decide) ?_
              refine gd_e hf (fun hg15 hf => ?_)
              refine ev_zast S hK hM hg15 (j := r14.toNatClampNeg) rfl dX3_chooseBox_52 (fun I16 eI16 H locs hM => ?_)
              have hf := nm_x eI16 hf
              refine lv_iinc (v := (v9 + (1 : Int32))) (lv' := [(6, .int (v9 + (1 : Int32))), (0, .ref a0), (1, .int x1), (2, .int x2), (3, .int x3), (4, .int x4), (5, .int v4)]) hx hb dX3_chooseBox_53 hl (k := 6) rfl rfl (by decide) rfl (fun ls hl => ?_)
              refine lv_goto (tgt := 30) hx hb dX3_chooseBox_56 (by decide) ?_
              exact ih (v9 + (1 : Int32)) I16 _ _ _ _ hM (lv_sub hl [1, 2, 3, 4, 5, 6, 0] rfl) hf kk
        refine bd_e hf (fun r11 er11 hf => ?_)
        refine lp30_16 FU v8 I5 _ _ _ r11 hM (lv_sub hl [1, 2, 3, 4, 5, 6, 0] rfl) er11 (fun H locs ls hM hl => ?_)
        refine lv_iinc (v := (v4 + (1 : Int32))) (lv' := [(5, .int (v4 + (1 : Int32))), (0, .ref a0), (1, .int x1), (2, .int x2), (3, .int x3), (4, .int x4)]) hx hb dX3_chooseBox_59 hl (k := 5) rfl rfl (by decide) rfl (fun ls hl => ?_)
        refine lv_goto (tgt := 12) hx hb dX3_chooseBox_62 (by decide) ?_
        exact ih (v4 + (1 : Int32)) r11 _ _ _ _ hM (lv_sub hl [1, 2, 3, 4, 5, 0] rfl) hf kk
  refine bd_e hf (fun r6 er6 hf => ?_)
  refine lp12_16 FU v3 r1 _ _ _ r6 hM (lv_sub hl [1, 2, 3, 4, 5, 0] rfl) er6 (fun H locs ls hM hl => ?_)
  obtain rfl := Option.some.inj hf
  subst hQ
  exact ev_vret S hr hlocks hK hZ hM dX3_chooseBox_65
noncomputable def fn_X9_isWithin (x0 : Int32) (x1 : Int32) (x2 : Int32) : Option (Int32) := if x0 < x1 then (some (0 : Int32)) else (if x2 < x0 then (some (0 : Int32)) else (some (1 : Int32)))
abbrev wz_X9_isWithin : List Cond := Cond.code yX9_isWithin cX9_isWithin 3 (some .boolean) :: WA
abbrev rm_X9_isWithin : Room := { frames := 1, cells := 0, slots := 0, locals := 12 }
set_option maxHeartbeats 4000000 in
set_option maxRecDepth 100000 in
theorem c_X9_isWithin (I : Nat → Nat → Int32) (P : Nat → Nat → Option Nat) (x0 : Int32) (x1 : Int32) (x2 : Int32) (res : Int32) (hf : fn_X9_isWithin x0 x1 x2 = some res) : Met l yX9_isWithin wz_X9_isWithin rm_X9_isWithin (va_Pc [.int x0, .int x1, .int x2] (mm_B D cs A L K N z w I P)) (va_Qi (fun r (_ : Unit) => r = res) (fun _ => mm_B D cs A L K N z w I P) A) 0 0 A := by
  refine Met.ofW (cc := cX9_isWithin) (maxL := 3) (ret := (some .boolean)) (by decide) rfl ?_
  intro p e s m args below meth c s₁ B hml hv
  obtain ⟨rfl, hBm⟩ := hv
  have hx := B.exec
  have hb := B.bytes
  have hr := B.returns
  have hts := atoms_spec (ws := wz_X9_isWithin) B.pre
  have hWA : ∀ w ∈ WA, w.before ([.int x0, .int x1, .int x2] : List Value).toArray s = true := fun u9 h9 => hts u9 (List.mem_cons_of_mem _ h9)
  have hown : s.vm.findClass RX9 = some m.cls := findClass_of_methodNamed B.named
  have hlocks := B.notSynchronized
  have S : CallFix p m c cX9_isWithin 3 s ([.int x0, .int x1, .int x2] : List Value).toArray wz_X9_isWithin RX9 := ⟨hx, hb, hml, hown, hts⟩
  have hK := hBm.2.2.2.1
  have hZ := hBm.2.2.2.2
  have hM : mm_W D cs A L K N s.heap I P s.heap [] := ⟨hBm.1, hBm.2.1, hBm.2.2.1, va_S.rf⟩
  have hl := lv_entry ([.int x0, .int x1, .int x2]) (n := 3) (Nat.le_of_ble_eq_true rfl)
  rw [lg_entry_eq]
  generalize (lg_sl ([.int x0, .int x1, .int x2]) ++ List.replicate (3 - (lg_sl ([.int x0, .int x1, .int x2])).length) Slot.unset).toArray = ls at hl ⊢
  have hl : lv_has ls 3 [(0, .int x0), (1, .int x1), (2, .int x2)] := hl
  generalize hQ : MQ below (va_Qi (fun r (_ : Unit) => r = res) (fun _ => mm_B D cs A L K N z w I P) A) ([.int x0, .int x1, .int x2] : List Value).toArray s 0 0 A = QQ
  unfold fn_X9_isWithin at hf
  refine lv_iload_n hx hb dX9_isWithin_0 rfl (lv_at hl 0 rfl) ?_
  refine lv_iload_n hx hb dX9_isWithin_1 rfl (lv_at hl 1 rfl) ?_
  refine lv_icmp_lt (tgt := 14) hx hb dX9_isWithin_2 (by decide) (fun hc1 => ?_) (fun hc1 => ?_)
  · have hf := it_p hf hc1
    refine lv_iconst (v := (0 : Int32)) hx hb dX9_isWithin_14 (by decide) ?_
    obtain rfl := Option.some.inj hf
    subst hQ
    exact ev_zret (v := (0 : Int32)) S hr hlocks hK hZ hM rfl dX9_isWithin_15
  · have hf := it_n hf hc1
    refine lv_iload_n hx hb dX9_isWithin_5 rfl (lv_at hl 0 rfl) ?_
    refine lv_iload_n hx hb dX9_isWithin_6 rfl (lv_at hl 2 rfl) ?_
    refine lv_icmp_gt (tgt := 14) hx hb dX9_isWithin_7 (by decide) (fun hc2 => ?_) (fun hc2 => ?_)
    · have hf := it_p hf hc2
      refine lv_iconst (v := (0 : Int32)) hx hb dX9_isWithin_14 (by decide) ?_
      obtain rfl := Option.some.inj hf
      subst hQ
      exact ev_zret (v := (0 : Int32)) S hr hlocks hK hZ hM rfl dX9_isWithin_15
    · have hf := it_n hf hc2
      refine lv_iconst (v := (1 : Int32)) hx hb dX9_isWithin_10 (by decide) ?_
      refine lv_goto (tgt := 15) hx hb dX9_isWithin_11 (by decide) ?_
      obtain rfl := Option.some.inj hf
      subst hQ
      exact ev_zret (v := (1 : Int32)) S hr hlocks hK hZ hM rfl dX9_isWithin_15
noncomputable def fn_X9_isRow (x0 : Int32) : Option (Int32) := Option.bind (fn_X9_isWithin x0 (0 : Int32) (11 : Int32)) (fun (r1 : Int32) => gd (r1 = 0 ∨ r1 = 1) (some r1))
abbrev wz_X9_isRow : List Cond := Cond.code yX9_isRow cX9_isRow 1 (some .boolean) :: WA
abbrev rm_X9_isRow : Room := { frames := 2, cells := 0, slots := 0, locals := 34 }
set_option maxHeartbeats 4000000 in
set_option maxRecDepth 100000 in
theorem c_X9_isRow (I : Nat → Nat → Int32) (P : Nat → Nat → Option Nat) (x0 : Int32) (res : Int32) (hf : fn_X9_isRow x0 = some res) : Met l yX9_isRow wz_X9_isRow rm_X9_isRow (va_Pc [.int x0] (mm_B D cs A L K N z w I P)) (va_Qi (fun r (_ : Unit) => r = res) (fun _ => mm_B D cs A L K N z w I P) A) 0 0 A := by
  refine Met.ofW (cc := cX9_isRow) (maxL := 1) (ret := (some .boolean)) (by decide) rfl ?_
  intro p e s m args below meth c s₁ B hml hv
  obtain ⟨rfl, hBm⟩ := hv
  have hx := B.exec
  have hb := B.bytes
  have hr := B.returns
  have hts := atoms_spec (ws := wz_X9_isRow) B.pre
  have hWA : ∀ w ∈ WA, w.before ([.int x0] : List Value).toArray s = true := fun u9 h9 => hts u9 (List.mem_cons_of_mem _ h9)
  have hown : s.vm.findClass RX9 = some m.cls := findClass_of_methodNamed B.named
  have hlocks := B.notSynchronized
  have S : CallFix p m c cX9_isRow 1 s ([.int x0] : List Value).toArray wz_X9_isRow RX9 := ⟨hx, hb, hml, hown, hts⟩
  have hK := hBm.2.2.2.1
  have hZ := hBm.2.2.2.2
  have hM : mm_W D cs A L K N s.heap I P s.heap [] := ⟨hBm.1, hBm.2.1, hBm.2.2.1, va_S.rf⟩
  have hl := lv_entry ([.int x0]) (n := 1) (Nat.le_of_ble_eq_true rfl)
  rw [lg_entry_eq]
  generalize (lg_sl ([.int x0]) ++ List.replicate (1 - (lg_sl ([.int x0])).length) Slot.unset).toArray = ls at hl ⊢
  have hl : lv_has ls 1 [(0, .int x0)] := hl
  generalize hQ : MQ below (va_Qi (fun r (_ : Unit) => r = res) (fun _ => mm_B D cs A L K N z w I P) A) ([.int x0] : List Value).toArray s 0 0 A = QQ
  unfold fn_X9_isRow at hf
  refine lv_iload_n hx hb dX9_isRow_0 rfl (lv_at hl 0 rfl) ?_
  refine lv_iconst (v := (0 : Int32)) hx hb dX9_isRow_1 (by decide) ?_
  refine lv_bipush (v := (11 : Int32)) hx hb dX9_isRow_2 (by decide) ?_
  refine bd_e hf (fun r1 er1 hf => ?_)
  refine ev_calli (va_runS (As := [.int x0, .int (0 : Int32), .int (11 : Int32)]) (rest := []) S (c_X9_isWithin (l := l) I P x0 (0 : Int32) (11 : Int32) r1 er1) (va_cwS 3 hts (gi_s wa_2_47 wa_2_48 wa_1_1 wa_2_49) rfl rfl rfl (by decide +kernel) ⟨Nat.le_of_ble_eq_true rfl, Nat.le_of_ble_eq_true rfl⟩) ⟨mm_B_blind, fun U hU hW => ⟨rfl, mm_B_of hK hZ hM hU hW⟩⟩ rfl rfl hl.1 rfl (lv_room (Nat.le_of_ble_eq_true rfl)) dX9_isRow_4 ⟨Nat.zero_le _, Nat.zero_le _⟩) hM (fun H locs hM => ?_)
  refine gd_e hf (fun hg2 hf => ?_)
  obtain rfl := Option.some.inj hf
  subst hQ
  exact ev_zret (v := r1) S hr hlocks hK hZ hM (nar_b hg2) dX9_isRow_7
noncomputable def fn_X9_isDot (x0 : Int32) (x1 : Int32) : Option (Int32) := Option.bind (fn_X9_isWithin x0 (0 : Int32) (15 : Int32)) (fun (r1 : Int32) => if r1 = 0 then (some (0 : Int32)) else (Option.bind (fn_X9_isRow x1) (fun (r3 : Int32) => if r3 = 0 then (some (0 : Int32)) else (some (1 : Int32)))))
abbrev wz_X9_isDot : List Cond := Cond.code yX9_isDot cX9_isDot 2 (some .boolean) :: WA
abbrev rm_X9_isDot : Room := { frames := 3, cells := 0, slots := 0, locals := 54 }
set_option maxHeartbeats 4000000 in
set_option maxRecDepth 100000 in
theorem c_X9_isDot (I : Nat → Nat → Int32) (P : Nat → Nat → Option Nat) (x0 : Int32) (x1 : Int32) (res : Int32) (hf : fn_X9_isDot x0 x1 = some res) : Met l yX9_isDot wz_X9_isDot rm_X9_isDot (va_Pc [.int x0, .int x1] (mm_B D cs A L K N z w I P)) (va_Qi (fun r (_ : Unit) => r = res) (fun _ => mm_B D cs A L K N z w I P) A) 0 0 A := by
  refine Met.ofW (cc := cX9_isDot) (maxL := 2) (ret := (some .boolean)) (by decide) rfl ?_
  intro p e s m args below meth c s₁ B hml hv
  obtain ⟨rfl, hBm⟩ := hv
  have hx := B.exec
  have hb := B.bytes
  have hr := B.returns
  have hts := atoms_spec (ws := wz_X9_isDot) B.pre
  have hWA : ∀ w ∈ WA, w.before ([.int x0, .int x1] : List Value).toArray s = true := fun u9 h9 => hts u9 (List.mem_cons_of_mem _ h9)
  have hown : s.vm.findClass RX9 = some m.cls := findClass_of_methodNamed B.named
  have hlocks := B.notSynchronized
  have S : CallFix p m c cX9_isDot 2 s ([.int x0, .int x1] : List Value).toArray wz_X9_isDot RX9 := ⟨hx, hb, hml, hown, hts⟩
  have hK := hBm.2.2.2.1
  have hZ := hBm.2.2.2.2
  have hM : mm_W D cs A L K N s.heap I P s.heap [] := ⟨hBm.1, hBm.2.1, hBm.2.2.1, va_S.rf⟩
  have hl := lv_entry ([.int x0, .int x1]) (n := 2) (Nat.le_of_ble_eq_true rfl)
  rw [lg_entry_eq]
  generalize (lg_sl ([.int x0, .int x1]) ++ List.replicate (2 - (lg_sl ([.int x0, .int x1])).length) Slot.unset).toArray = ls at hl ⊢
  have hl : lv_has ls 2 [(0, .int x0), (1, .int x1)] := hl
  generalize hQ : MQ below (va_Qi (fun r (_ : Unit) => r = res) (fun _ => mm_B D cs A L K N z w I P) A) ([.int x0, .int x1] : List Value).toArray s 0 0 A = QQ
  unfold fn_X9_isDot at hf
  refine lv_iload_n hx hb dX9_isDot_0 rfl (lv_at hl 0 rfl) ?_
  refine lv_iconst (v := (0 : Int32)) hx hb dX9_isDot_1 (by decide) ?_
  refine lv_bipush (v := (15 : Int32)) hx hb dX9_isDot_2 (by decide) ?_
  refine bd_e hf (fun r1 er1 hf => ?_)
  refine ev_calli (va_runS (As := [.int x0, .int (0 : Int32), .int (15 : Int32)]) (rest := []) S (c_X9_isWithin (l := l) I P x0 (0 : Int32) (15 : Int32) r1 er1) (va_cwS 3 hts (gi_s wa_2_47 wa_2_48 wa_1_1 wa_2_49) rfl rfl rfl (by decide +kernel) ⟨Nat.le_of_ble_eq_true rfl, Nat.le_of_ble_eq_true rfl⟩) ⟨mm_B_blind, fun U hU hW => ⟨rfl, mm_B_of hK hZ hM hU hW⟩⟩ rfl rfl hl.1 rfl (lv_room (Nat.le_of_ble_eq_true rfl)) dX9_isDot_4 ⟨Nat.zero_le _, Nat.zero_le _⟩) hM (fun H locs hM => ?_)
  refine lv_if_eq (tgt := 21) hx hb dX9_isDot_7 (by decide) (fun hc2 => ?_) (fun hc2 => ?_)
  · have hf := it_p hf hc2
    refine lv_iconst (v := (0 : Int32)) hx hb dX9_isDot_21 (by decide) ?_
    obtain rfl := Option.some.inj hf
    subst hQ
    exact ev_zret (v := (0 : Int32)) S hr hlocks hK hZ hM rfl dX9_isDot_22
  · have hf := it_n hf hc2
    refine lv_iload_n hx hb dX9_isDot_10 rfl (lv_at hl 1 rfl) ?_
    refine bd_e hf (fun r3 er3 hf => ?_)
    refine ev_calli (va_runS (As := [.int x1]) (rest := []) S (c_X9_isRow (l := l) I P x1 r3 er3) (va_cwS 1 hts (gi_s wa_2_145 wa_2_146 wa_1_1 wa_2_147) rfl rfl rfl (by decide +kernel) ⟨Nat.le_of_ble_eq_true rfl, Nat.le_of_ble_eq_true rfl⟩) ⟨mm_B_blind, fun U hU hW => ⟨rfl, mm_B_of hK hZ hM hU hW⟩⟩ rfl rfl hl.1 rfl (lv_room (Nat.le_of_ble_eq_true rfl)) dX9_isDot_11 ⟨Nat.zero_le _, Nat.zero_le _⟩) hM (fun H locs hM => ?_)
    refine lv_if_eq (tgt := 21) hx hb dX9_isDot_14 (by decide) (fun hc4 => ?_) (fun hc4 => ?_)
    · have hf := it_p hf hc4
      refine lv_iconst (v := (0 : Int32)) hx hb dX9_isDot_21 (by decide) ?_
      obtain rfl := Option.some.inj hf
      subst hQ
      exact ev_zret (v := (0 : Int32)) S hr hlocks hK hZ hM rfl dX9_isDot_22
    · have hf := it_n hf hc4
      refine lv_iconst (v := (1 : Int32)) hx hb dX9_isDot_17 (by decide) ?_
      refine lv_goto (tgt := 22) hx hb dX9_isDot_18 (by decide) ?_
      obtain rfl := Option.some.inj hf
      subst hQ
      exact ev_zret (v := (1 : Int32)) S hr hlocks hK hZ hM rfl dX9_isDot_22
noncomputable def fn_X3_reach (K N : Nat → Nat) (I : Nat → Nat → Int32) (P : Nat → Nat → Option Nat) (a0 : Nat) (x1 : Int32) (x2 : Int32) (x3 : Int32) : Option ((Nat → Nat → Int32)) := Option.bind (fn_X9_isDot x1 x2) (fun (r1 : Int32) => if r1 = 0 then (some I) else (gd (K a0 = 4) (if (I a0 3) < (192 : Int32) then (Option.bind (fn_X9_dotAt x1 x2) (fun (r5 : Int32) => Option.bind (P a0 (0)) (fun q6 => gd (K q6 = 13 ∧ vp_in r5 (N q6)) (if (I q6 (r5.toNatClampNeg)) = 0 then (Option.bind (P a0 (1)) (fun q9 => gd (K q9 = 12 ∧ vp_in r5 (N q9)) (if (I q9 (r5.toNatClampNeg)) = x3 then (Option.bind (some (up2 I q6 (r5.toNatClampNeg) (vp_nar .boolean (1 : Int32)))) (fun I12 => Option.bind (P a0 (2)) (fun q13 => gd (K q13 = 12 ∧ vp_in (I12 a0 3) (N q13)) (Option.bind (some (up2 I12 q13 ((I12 a0 3)).toNatClampNeg r5)) (fun I15 => Option.bind (some (up2 I15 a0 3 ((I15 a0 3) + (1 : Int32)))) (fun I16 => some I16)))))) else (some I)))) else (some I))))) else (some I))))
abbrev wz_X3_reach : List Cond := Cond.code yX3_reach cX3_reach 5 none :: WA
abbrev rm_X3_reach : Room := { frames := 4, cells := 0, slots := 0, locals := 75 }
set_option maxHeartbeats 4000000 in
set_option maxRecDepth 100000 in
theorem c_X3_reach (I : Nat → Nat → Int32) (P : Nat → Nat → Option Nat) (a0 : Nat) (x1 : Int32) (x2 : Int32) (x3 : Int32) (res : (Nat → Nat → Int32)) (hf : fn_X3_reach K N I P a0 x1 x2 x3 = some res) : Met l yX3_reach wz_X3_reach rm_X3_reach (va_Pc [.ref a0, .int x1, .int x2, .int x3] (mm_B D cs A L K N z w I P)) (va_Qv (fun (_ : Unit) => True) (fun _ => mm_B D cs A L K N z w res P) A) 0 0 A := by
  refine Met.ofW (cc := cX3_reach) (maxL := 5) (ret := none) (by decide) rfl ?_
  intro p e s m args below meth c s₁ B hml hv
  obtain ⟨rfl, hBm⟩ := hv
  have hx := B.exec
  have hb := B.bytes
  have hr := B.returns
  have hts := atoms_spec (ws := wz_X3_reach) B.pre
  have hWA : ∀ w ∈ WA, w.before ([.ref a0, .int x1, .int x2, .int x3] : List Value).toArray s = true := fun u9 h9 => hts u9 (List.mem_cons_of_mem _ h9)
  have hown : s.vm.findClass RX3 = some m.cls := findClass_of_methodNamed B.named
  have hlocks := B.notSynchronized
  have S : CallFix p m c cX3_reach 5 s ([.ref a0, .int x1, .int x2, .int x3] : List Value).toArray wz_X3_reach RX3 := ⟨hx, hb, hml, hown, hts⟩
  have hK := hBm.2.2.2.1
  have hZ := hBm.2.2.2.2
  have hM : mm_W D cs A L K N s.heap I P s.heap [] := ⟨hBm.1, hBm.2.1, hBm.2.2.1, va_S.rf⟩
  have hl := lv_entry ([.ref a0, .int x1, .int x2, .int x3]) (n := 5) (Nat.le_of_ble_eq_true rfl)
  rw [lg_entry_eq]
  generalize (lg_sl ([.ref a0, .int x1, .int x2, .int x3]) ++ List.replicate (5 - (lg_sl ([.ref a0, .int x1, .int x2, .int x3])).length) Slot.unset).toArray = ls at hl ⊢
  have hl : lv_has ls 5 [(0, .ref a0), (1, .int x1), (2, .int x2), (3, .int x3)] := hl
  have hin3 : ∀ w ∈ wsX30, w ∈ wz_X3_reach := fun w h => List.mem_cons_of_mem _ (wu_X3 w h)
  have lk60 : (Cond.fieldLink RX3 60 RX3 "queued" "I").before ([.ref a0, .int x1, .int x2, .int x3] : List Value).toArray s = true := hWA _ wa_2_3
  have lk9 : (Cond.fieldLink RX3 9 RX3 "chosen" "[Z").before ([.ref a0, .int x1, .int x2, .int x3] : List Value).toArray s = true := hWA _ wa_1_238
  have lk15 : (Cond.fieldLink RX3 15 RX3 "keys" "[I").before ([.ref a0, .int x1, .int x2, .int x3] : List Value).toArray s = true := hWA _ wa_2_0
  have lk19 : (Cond.fieldLink RX3 19 RX3 "queue" "[I").before ([.ref a0, .int x1, .int x2, .int x3] : List Value).toArray s = true := hWA _ wa_2_2
  generalize hQ : MQ below (va_Qv (fun (_ : Unit) => True) (fun _ => mm_B D cs A L K N z w res P) A) ([.ref a0, .int x1, .int x2, .int x3] : List Value).toArray s 0 0 A = QQ
  rw [fn_X3_reach] at hf
  refine lv_iload_n hx hb dX3_reach_0 rfl (lv_at hl 1 rfl) ?_
  refine lv_iload_n hx hb dX3_reach_1 rfl (lv_at hl 2 rfl) ?_
  refine bd_e hf (fun r1 er1 hf => ?_)
  refine ev_calli (va_runSN (As := [.int x1, .int x2]) (rest := []) S (c_X9_isDot (l := l) I P x1 x2 r1 er1) ⟨va_cnB 2 hts (gi_n wa_2_144) rfl rfl rfl hZ.1.2.2.2.1 (hWA _ wa_1_1) (by decide +kernel) ⟨Nat.le_of_ble_eq_true rfl, Nat.le_of_ble_eq_true rfl⟩, hWA _ wa_2_143, trivial⟩ ⟨mm_B_blind, fun U hU hW => ⟨rfl, mm_B_of hK hZ hM hU hW⟩⟩ rfl rfl hl.1 rfl (lv_room (Nat.le_of_ble_eq_true rfl)) dX3_reach_2 ⟨Nat.zero_le _, Nat.zero_le _⟩) hM (fun H locs hM => ?_)
  refine lv_if_eq (tgt := 18) hx hb dX3_reach_5 (by decide) (fun hc2 => ?_) (fun hc2 => ?_)
  · have hf := it_p hf hc2
    obtain rfl := Option.some.inj hf
    subst hQ
    exact ev_vret S hr hlocks hK hZ hM dX3_reach_18
  · have hf := it_n hf hc2
    refine lv_aload_n hx hb dX3_reach_8 rfl (lv_at hl 0 rfl) ?_
    refine gd_e hf (fun hg3 hf => ?_)
    refine ev_get (v := .int (I a0 3)) S hK hM (ci := 3) (n := 4) (C := RX3) (T := TX3) hin3 rfl hg3 3 (by decide) lk60 rfl rfl rfl dX3_reach_9 ?_
    refine lv_sipush (v := (192 : Int32)) hx hb dX3_reach_12 (by decide) ?_
    refine lv_icmp_lt (tgt := 19) hx hb dX3_reach_15 (by decide) (fun hc4 => ?_) (fun hc4 => ?_)
    · have hf := it_p hf hc4
      refine lv_iload_n hx hb dX3_reach_19 rfl (lv_at hl 1 rfl) ?_
      refine lv_iload_n hx hb dX3_reach_20 rfl (lv_at hl 2 rfl) ?_
      refine bd_e hf (fun r5 er5 hf => ?_)
      refine ev_calli (va_runSN (As := [.int x1, .int x2]) (rest := []) S (c_X9_dotAt (l := l) I P x1 x2 r5 er5) ⟨va_cnB 2 hts (gi_n wa_2_150) rfl rfl rfl hZ.1.2.2.1 (hWA _ wa_1_1) (by decide +kernel) ⟨Nat.le_of_ble_eq_true rfl, Nat.le_of_ble_eq_true rfl⟩, hWA _ wa_2_149, trivial⟩ ⟨mm_B_blind, fun U hU hW => ⟨rfl, mm_B_of hK hZ hM hU hW⟩⟩ rfl rfl hl.1 rfl (lv_room (Nat.le_of_ble_eq_true rfl)) dX3_reach_21 ⟨Nat.zero_le _, Nat.zero_le _⟩) hM (fun H locs hM => ?_)
      refine lv_istore (lv' := [(4, .int r5), (0, .ref a0), (1, .int x1), (2, .int x2), (3, .int x3)]) hx hb dX3_reach_24 hl (by decide) rfl (fun ls hl => ?_)
      refine lv_aload_n hx hb dX3_reach_26 rfl (lv_at hl 1 rfl) ?_
      refine bd_e hf (fun q6 eq6 hf => ?_)
      refine ev_getP (v := q6) S hK hM (ci := 3) (n := 4) (C := RX3) (T := TX3) hin3 rfl hg3 0 (by decide) lk9 rfl rfl eq6 rfl dX3_reach_27 ?_
      refine lv_iload hx hb dX3_reach_30 (lv_at hl 0 rfl) ?_
      refine gd_e hf (fun hg7 hf => ?_)
      refine ev_zald S hK hM hg7 (j := r5.toNatClampNeg) rfl dX3_reach_32 ?_
      refine lv_if_ne (tgt := 76) hx hb dX3_reach_33 (by decide) (fun hc8 => ?_) (fun hc8 => ?_)
      · have hf := it_n hf hc8
        obtain rfl := Option.some.inj hf
        subst hQ
        exact ev_vret S hr hlocks hK hZ hM dX3_reach_76
      · have hf := it_p hf hc8
        refine lv_aload_n hx hb dX3_reach_36 rfl (lv_at hl 1 rfl) ?_
        refine bd_e hf (fun q9 eq9 hf => ?_)
        refine ev_getP (v := q9) S hK hM (ci := 3) (n := 4) (C := RX3) (T := TX3) hin3 rfl hg3 1 (by decide) lk15 rfl rfl eq9 rfl dX3_reach_37 ?_
        refine lv_iload hx hb dX3_reach_40 (lv_at hl 0 rfl) ?_
        refine gd_e hf (fun hg10 hf => ?_)
        refine ev_iald S hK hM hg10 (j := r5.toNatClampNeg) rfl dX3_reach_42 ?_
        refine lv_iload_n hx hb dX3_reach_43 rfl (lv_at hl 4 rfl) ?_
        refine lv_icmp_ne (tgt := 76) hx hb dX3_reach_44 (by decide) (fun hc11 => ?_) (fun hc11 => ?_)
        · have hf := it_n hf hc11
          obtain rfl := Option.some.inj hf
          subst hQ
          exact ev_vret S hr hlocks hK hZ hM dX3_reach_76
        · have hf := it_p hf hc11
          refine lv_aload_n hx hb dX3_reach_47 rfl (lv_at hl 1 rfl) ?_
          refine ev_getP (v := q6) S hK hM (ci := 3) (n := 4) (C := RX3) (T := TX3) hin3 rfl hg3 0 (by decide) lk9 rfl rfl eq6 rfl dX3_reach_48 ?_
          refine lv_iload hx hb dX3_reach_51 (lv_at hl 0 rfl) ?_
          refine lv_iconst (v := (1 : Int32)) hx hb dX3_reach_53 (by decide) ?_
          refine ev_zast S hK hM hg7 (j := r5.toNatClampNeg) rfl dX3_reach_54 (fun I12 eI12 H locs hM => ?_)
          have hf := nm_x eI12 hf
          refine lv_aload_n hx hb dX3_reach_55 rfl (lv_at hl 1 rfl) ?_
          refine bd_e hf (fun q13 eq13 hf => ?_)
          refine ev_getP (v := q13) S hK hM (ci := 3) (n := 4) (C := RX3) (T := TX3) hin3 rfl hg3 2 (by decide) lk19 rfl rfl eq13 rfl dX3_reach_56 ?_
          refine lv_aload_n hx hb dX3_reach_59 rfl (lv_at hl 1 rfl) ?_
          refine ev_get (v := .int (I12 a0 3)) S hK hM (ci := 3) (n := 4) (C := RX3) (T := TX3) hin3 rfl hg3 3 (by decide) lk60 rfl rfl rfl dX3_reach_60 ?_
          refine lv_iload hx hb dX3_reach_63 (lv_at hl 0 rfl) ?_
          refine gd_e hf (fun hg14 hf => ?_)
          refine ev_iast S hK hM hg14 (j := ((I12 a0 3)).toNatClampNeg) rfl dX3_reach_65 (fun I15 eI15 H locs hM => ?_)
          have hf := nm_x eI15 hf
          refine lv_aload_n hx hb dX3_reach_66 rfl (lv_at hl 1 rfl) ?_
          refine lv_dup hx hb dX3_reach_67 rfl ?_
          refine ev_get (v := .int (I15 a0 3)) S hK hM (ci := 3) (n := 4) (C := RX3) (T := TX3) hin3 rfl hg3 3 (by decide) lk60 rfl rfl rfl dX3_reach_68 ?_
          refine lv_iconst (v := (1 : Int32)) hx hb dX3_reach_71 (by decide) ?_
          refine lv_iadd hx hb dX3_reach_72 ?_
          refine ev_put S hK hM (ci := 3) (n := 4) (C := RX3) (T := TX3) hin3 tyX3 tyX3_ok nmX3 rfl hg3 3 (by decide) lk60 rfl rfl rfl rfl rfl (Nat.le_of_ble_eq_true rfl) rfl dX3_reach_73 (fun I16 eI16 H locs hM => ?_)
          have hf := nm_x eI16 hf
          obtain rfl := Option.some.inj hf
          subst hQ
          exact ev_vret S hr hlocks hK hZ hM dX3_reach_76
    · have hf := it_n hf hc4
      obtain rfl := Option.some.inj hf
      subst hQ
      exact ev_vret S hr hlocks hK hZ hM dX3_reach_18
noncomputable def fn_X3_spreadFrom_L25 (K : Nat → Nat) (N : Nat → Nat) (a0 : Nat) (x1 : Int32) (P : Nat → Nat → Option Nat) (q3 : Nat) : Nat → Int32 → (Nat → Nat → Int32) → Option ((Nat → Nat → Int32))
  | 0, _, _ => none
  | n + 1, v6, I7 => if (I7 a0 3) ≤ v6 then (some I7) else (Option.bind (P a0 (2)) (fun q10 => gd (K q10 = 12 ∧ vp_in v6 (N q10)) (Option.bind (some ((I7 q10 (v6.toNatClampNeg)) - (I7 q10 (v6.toNatClampNeg)) / (16 : Int32) * (16 : Int32))) (fun v12 => Option.bind (some ((I7 q10 (v6.toNatClampNeg)) / (16 : Int32))) (fun v13 => Option.bind (fn_X3_reach K N I7 P a0 (v12 - (1 : Int32)) v13 (I7 q3 (x1.toNatClampNeg))) (fun (r14 : (Nat → Nat → Int32)) => Option.bind (fn_X3_reach K N r14 P a0 (v12 + (1 : Int32)) v13 (r14 q3 (x1.toNatClampNeg))) (fun (r15 : (Nat → Nat → Int32)) => Option.bind (fn_X3_reach K N r15 P a0 v12 (v13 - (1 : Int32)) (r15 q3 (x1.toNatClampNeg))) (fun (r16 : (Nat → Nat → Int32)) => Option.bind (fn_X3_reach K N r16 P a0 v12 (v13 + (1 : Int32)) (r16 q3 (x1.toNatClampNeg))) (fun (r17 : (Nat → Nat → Int32)) => fn_X3_spreadFrom_L25 K N a0 x1 P q3 n (v6 + (1 : Int32)) r17)))))))))
noncomputable def fn_X3_spreadFrom (K N : Nat → Nat) (I : Nat → Nat → Int32) (P : Nat → Nat → Option Nat) (a0 : Nat) (x1 : Int32) : Option (Int32 × (Nat → Nat → Int32)) := gd (K a0 = 4) (Option.bind (some (up2 I a0 3 (0 : Int32))) (fun I2 => Option.bind (P a0 (1)) (fun q3 => gd (K q3 = 12 ∧ vp_in x1 (N q3)) (Option.bind (fn_X3_reach K N I2 P a0 (x1 - x1 / (16 : Int32) * (16 : Int32)) (x1 / (16 : Int32)) (I2 q3 (x1.toNatClampNeg))) (fun (r5 : (Nat → Nat → Int32)) => Option.bind (fn_X3_spreadFrom_L25 K N a0 x1 P q3 FU (0 : Int32) r5) (fun (r8 : (Nat → Nat → Int32)) => some ((r8 a0 3), r8)))))))
abbrev wz_X3_spreadFrom : List Cond := Cond.code yX3_spreadFrom cX3_spreadFrom 5 (some .int) :: WA
abbrev rm_X3_spreadFrom : Room := { frames := 5, cells := 0, slots := 0, locals := 99 }
set_option maxHeartbeats 4000000 in
set_option maxRecDepth 100000 in
theorem c_X3_spreadFrom (I : Nat → Nat → Int32) (P : Nat → Nat → Option Nat) (a0 : Nat) (x1 : Int32) (res : Int32 × (Nat → Nat → Int32)) (hf : fn_X3_spreadFrom K N I P a0 x1 = some res) : Met l yX3_spreadFrom wz_X3_spreadFrom rm_X3_spreadFrom (va_Pc [.ref a0, .int x1] (mm_B D cs A L K N z w I P)) (va_Qi (fun r (_ : Unit) => r = res.1) (fun _ => mm_B D cs A L K N z w res.2 P) A) 0 0 A := by
  refine Met.ofW (cc := cX3_spreadFrom) (maxL := 5) (ret := (some .int)) (by decide) rfl ?_
  intro p e s m args below meth c s₁ B hml hv
  obtain ⟨rfl, hBm⟩ := hv
  have hx := B.exec
  have hb := B.bytes
  have hr := B.returns
  have hts := atoms_spec (ws := wz_X3_spreadFrom) B.pre
  have hWA : ∀ w ∈ WA, w.before ([.ref a0, .int x1] : List Value).toArray s = true := fun u9 h9 => hts u9 (List.mem_cons_of_mem _ h9)
  have hown : s.vm.findClass RX3 = some m.cls := findClass_of_methodNamed B.named
  have hlocks := B.notSynchronized
  have S : CallFix p m c cX3_spreadFrom 5 s ([.ref a0, .int x1] : List Value).toArray wz_X3_spreadFrom RX3 := ⟨hx, hb, hml, hown, hts⟩
  have hK := hBm.2.2.2.1
  have hZ := hBm.2.2.2.2
  have hM : mm_W D cs A L K N s.heap I P s.heap [] := ⟨hBm.1, hBm.2.1, hBm.2.2.1, va_S.rf⟩
  have hl := lv_entry ([.ref a0, .int x1]) (n := 5) (Nat.le_of_ble_eq_true rfl)
  rw [lg_entry_eq]
  generalize (lg_sl ([.ref a0, .int x1]) ++ List.replicate (5 - (lg_sl ([.ref a0, .int x1])).length) Slot.unset).toArray = ls at hl ⊢
  have hl : lv_has ls 5 [(0, .ref a0), (1, .int x1)] := hl
  have hin3 : ∀ w ∈ wsX30, w ∈ wz_X3_spreadFrom := fun w h => List.mem_cons_of_mem _ (wu_X3 w h)
  have lk60 : (Cond.fieldLink RX3 60 RX3 "queued" "I").before ([.ref a0, .int x1] : List Value).toArray s = true := hWA _ wa_2_3
  have lk15 : (Cond.fieldLink RX3 15 RX3 "keys" "[I").before ([.ref a0, .int x1] : List Value).toArray s = true := hWA _ wa_2_0
  have lk19 : (Cond.fieldLink RX3 19 RX3 "queue" "[I").before ([.ref a0, .int x1] : List Value).toArray s = true := hWA _ wa_2_2
  generalize hQ : MQ below (va_Qi (fun r (_ : Unit) => r = res.1) (fun _ => mm_B D cs A L K N z w res.2 P) A) ([.ref a0, .int x1] : List Value).toArray s 0 0 A = QQ
  rw [fn_X3_spreadFrom] at hf
  refine lv_aload_n hx hb dX3_spreadFrom_0 rfl (lv_at hl 0 rfl) ?_
  refine lv_iconst (v := (0 : Int32)) hx hb dX3_spreadFrom_1 (by decide) ?_
  refine gd_e hf (fun hg1 hf => ?_)
  refine ev_put S hK hM (ci := 3) (n := 4) (C := RX3) (T := TX3) hin3 tyX3 tyX3_ok nmX3 rfl hg1 3 (by decide) lk60 rfl rfl rfl rfl rfl (Nat.le_of_ble_eq_true rfl) rfl dX3_spreadFrom_2 (fun I2 eI2 H locs hM => ?_)
  have hf := nm_x eI2 hf
  refine lv_aload_n hx hb dX3_spreadFrom_5 rfl (lv_at hl 0 rfl) ?_
  refine lv_iload_n hx hb dX3_spreadFrom_6 rfl (lv_at hl 1 rfl) ?_
  refine lv_bipush (v := (16 : Int32)) hx hb dX3_spreadFrom_7 (by decide) ?_
  refine lv_irem hx hb dX3_spreadFrom_9 (by decide) ?_
  refine lv_iload_n hx hb dX3_spreadFrom_10 rfl (lv_at hl 1 rfl) ?_
  refine lv_bipush (v := (16 : Int32)) hx hb dX3_spreadFrom_11 (by decide) ?_
  refine lv_idiv hx hb dX3_spreadFrom_13 (by decide) ?_
  refine lv_aload_n hx hb dX3_spreadFrom_14 rfl (lv_at hl 0 rfl) ?_
  refine bd_e hf (fun q3 eq3 hf => ?_)
  refine ev_getP (v := q3) S hK hM (ci := 3) (n := 4) (C := RX3) (T := TX3) hin3 rfl hg1 1 (by decide) lk15 rfl rfl eq3 rfl dX3_spreadFrom_15 ?_
  refine lv_iload_n hx hb dX3_spreadFrom_18 rfl (lv_at hl 1 rfl) ?_
  refine gd_e hf (fun hg4 hf => ?_)
  refine ev_iald S hK hM hg4 (j := x1.toNatClampNeg) rfl dX3_spreadFrom_19 ?_
  refine bd_e hf (fun r5 er5 hf => ?_)
  refine ev_callv (va_runV (As := [.int (x1 - x1 / (16 : Int32) * (16 : Int32)), .int (x1 / (16 : Int32)), .int (I2 q3 (x1.toNatClampNeg))]) (rest := []) S (c_X3_reach (l := l) I2 P a0 (x1 - x1 / (16 : Int32) * (16 : Int32)) (x1 / (16 : Int32)) (I2 q3 (x1.toNatClampNeg)) r5 er5) (cwV 3 hts (gi_v wa_3_159 wa_3_161 wa_s_15 wa_1_10 wa_3_162) rfl rfl rfl (by decide +kernel) ⟨Nat.le_of_ble_eq_true rfl, Nat.le_of_ble_eq_true rfl⟩) ⟨mm_B_blind, ev_recv hK hM (ci := 3) rfl hg1 rfl, fun U hU hW => ⟨rfl, mm_B_of hK hZ hM hU hW⟩⟩ rfl rfl hl.1 rfl (lv_room (Nat.le_of_ble_eq_true rfl)) dX3_spreadFrom_20 ⟨Nat.zero_le _, Nat.zero_le _⟩) hM (fun H locs hM => ?_)
  refine lv_iconst (v := (0 : Int32)) hx hb dX3_spreadFrom_23 (by decide) ?_
  refine lv_istore_n (lv' := [(2, .int (0 : Int32)), (0, .ref a0), (1, .int x1)]) hx hb dX3_spreadFrom_24 rfl hl (by decide) rfl (fun ls hl => ?_)
  have lp25_17 : ∀ (n : Nat) (v6 : Int32) (I7 : Nat → Nat → Int32) (H : Heap) (locs : List Loc) (ls : Array Slot) (r8 : (Nat → Nat → Int32)), mm_W D cs A L K N s.heap I7 P H locs → lv_has ls 5 [(0, .ref a0), (1, .int x1), (2, .int v6)] → fn_X3_spreadFrom_L25 K N a0 x1 P q3 n v6 I7 = some r8 → (∀ (H : Heap) (locs : List Loc) (ls : Array Slot), mm_W D cs A L K N s.heap r8 P H locs → lv_has ls 5 [(0, .ref a0)] → W p l e (headSpec wz_X3_spreadFrom rm_X3_spreadFrom).room s m ([.ref a0, .int x1] : List Value).toArray below meth c H locs 0 0 QQ (F0 m 120 ls [])) → W p l e (headSpec wz_X3_spreadFrom rm_X3_spreadFrom).room s m ([.ref a0, .int x1] : List Value).toArray below meth c H locs 0 0 QQ (F0 m 25 ls []) := by
    intro n
    induction n with
    | zero => intro v6 I7 H locs ls r8 hM hl hf kk; exact nn_x (show (none : Option ((Nat → Nat → Int32))) = some r8 from hf)
    | succ n ih =>
      intro v6 I7 H locs ls r8 hM hl hf kk
      rw [fn_X3_spreadFrom_L25] at hf
      refine lv_iload_n hx hb dX3_spreadFrom_25 rfl (lv_at hl 2 rfl) ?_
      refine lv_aload_n hx hb dX3_spreadFrom_26 rfl (lv_at hl 0 rfl) ?_
      refine ev_get (v := .int (I7 a0 3)) S hK hM (ci := 3) (n := 4) (C := RX3) (T := TX3) hin3 rfl hg1 3 (by decide) lk60 rfl rfl rfl dX3_spreadFrom_27 ?_
      refine lv_icmp_ge (tgt := 120) hx hb dX3_spreadFrom_30 (by decide) (fun hc9 => ?_) (fun hc9 => ?_)
      · have hf := it_p hf hc9
        obtain rfl := Option.some.inj hf
        exact kk _ _ _ hM (lv_sub hl [0] rfl)
      · have hf := it_n hf hc9
        refine lv_aload_n hx hb dX3_spreadFrom_33 rfl (lv_at hl 0 rfl) ?_
        refine bd_e hf (fun q10 eq10 hf => ?_)
        refine ev_getP (v := q10) S hK hM (ci := 3) (n := 4) (C := RX3) (T := TX3) hin3 rfl hg1 2 (by decide) lk19 rfl rfl eq10 rfl dX3_spreadFrom_34 ?_
        refine lv_iload_n hx hb dX3_spreadFrom_37 rfl (lv_at hl 2 rfl) ?_
        refine gd_e hf (fun hg11 hf => ?_)
        refine ev_iald S hK hM hg11 (j := v6.toNatClampNeg) rfl dX3_spreadFrom_38 ?_
        refine lv_bipush (v := (16 : Int32)) hx hb dX3_spreadFrom_39 (by decide) ?_
        refine lv_irem hx hb dX3_spreadFrom_41 (by decide) ?_
        refine lv_topi (fun v12 ev12 => ?_)
        have hf := nm_x ev12 hf
        refine lv_istore_n (lv' := [(3, .int v12), (0, .ref a0), (1, .int x1), (2, .int v6)]) hx hb dX3_spreadFrom_42 rfl hl (by decide) rfl (fun ls hl => ?_)
        refine lv_aload_n hx hb dX3_spreadFrom_43 rfl (lv_at hl 1 rfl) ?_
        refine ev_getP (v := q10) S hK hM (ci := 3) (n := 4) (C := RX3) (T := TX3) hin3 rfl hg1 2 (by decide) lk19 rfl rfl eq10 rfl dX3_spreadFrom_44 ?_
        refine lv_iload_n hx hb dX3_spreadFrom_47 rfl (lv_at hl 3 rfl) ?_
        refine ev_iald S hK hM hg11 (j := v6.toNatClampNeg) rfl dX3_spreadFrom_48 ?_
        refine lv_bipush (v := (16 : Int32)) hx hb dX3_spreadFrom_49 (by decide) ?_
        refine lv_idiv hx hb dX3_spreadFrom_51 (by decide) ?_
        refine lv_topi (fun v13 ev13 => ?_)
        have hf := nm_x ev13 hf
        refine lv_istore (lv' := [(4, .int v13), (3, .int v12), (0, .ref a0), (1, .int x1), (2, .int v6)]) hx hb dX3_spreadFrom_52 hl (by decide) rfl (fun ls hl => ?_)
        refine lv_aload_n hx hb dX3_spreadFrom_54 rfl (lv_at hl 2 rfl) ?_
        refine lv_iload_n hx hb dX3_spreadFrom_55 rfl (lv_at hl 1 rfl) ?_
        refine lv_iconst (v := (1 : Int32)) hx hb dX3_spreadFrom_56 (by decide) ?_
        refine lv_isub hx hb dX3_spreadFrom_57 ?_
        refine lv_iload hx hb dX3_spreadFrom_58 (lv_at hl 0 rfl) ?_
        refine lv_aload_n hx hb dX3_spreadFrom_60 rfl (lv_at hl 2 rfl) ?_
        refine ev_getP (v := q3) S hK hM (ci := 3) (n := 4) (C := RX3) (T := TX3) hin3 rfl hg1 1 (by decide) lk15 rfl rfl eq3 rfl dX3_spreadFrom_61 ?_
        refine lv_iload_n hx hb dX3_spreadFrom_64 rfl (lv_at hl 3 rfl) ?_
        refine ev_iald S hK hM hg4 (j := x1.toNatClampNeg) rfl dX3_spreadFrom_65 ?_
        refine bd_e hf (fun r14 er14 hf => ?_)
        refine ev_callv (va_runV (As := [.int (v12 - (1 : Int32)), .int v13, .int (I7 q3 (x1.toNatClampNeg))]) (rest := []) S (c_X3_reach (l := l) I7 P a0 (v12 - (1 : Int32)) v13 (I7 q3 (x1.toNatClampNeg)) r14 er14) (cwV 3 hts (gi_v wa_3_159 wa_3_161 wa_s_15 wa_1_10 wa_3_162) rfl rfl rfl (by decide +kernel) ⟨Nat.le_of_ble_eq_true rfl, Nat.le_of_ble_eq_true rfl⟩) ⟨mm_B_blind, ev_recv hK hM (ci := 3) rfl hg1 rfl, fun U hU hW => ⟨rfl, mm_B_of hK hZ hM hU hW⟩⟩ rfl rfl hl.1 rfl (lv_room (Nat.le_of_ble_eq_true rfl)) dX3_spreadFrom_66 ⟨Nat.zero_le _, Nat.zero_le _⟩) hM (fun H locs hM => ?_)
        refine lv_aload_n hx hb dX3_spreadFrom_69 rfl (lv_at hl 2 rfl) ?_
        refine lv_iload_n hx hb dX3_spreadFrom_70 rfl (lv_at hl 1 rfl) ?_
        refine lv_iconst (v := (1 : Int32)) hx hb dX3_spreadFrom_71 (by decide) ?_
        refine lv_iadd hx hb dX3_spreadFrom_72 ?_
        refine lv_iload hx hb dX3_spreadFrom_73 (lv_at hl 0 rfl) ?_
        refine lv_aload_n hx hb dX3_spreadFrom_75 rfl (lv_at hl 2 rfl) ?_
        refine ev_getP (v := q3) S hK hM (ci := 3) (n := 4) (C := RX3) (T := TX3) hin3 rfl hg1 1 (by decide) lk15 rfl rfl eq3 rfl dX3_spreadFrom_76 ?_
        refine lv_iload_n hx hb dX3_spreadFrom_79 rfl (lv_at hl 3 rfl) ?_
        refine ev_iald S hK hM hg4 (j := x1.toNatClampNeg) rfl dX3_spreadFrom_80 ?_
        refine bd_e hf (fun r15 er15 hf => ?_)
        refine ev_callv (va_runV (As := [.int (v12 + (1 : Int32)), .int v13, .int (r14 q3 (x1.toNatClampNeg))]) (rest := []) S (c_X3_reach (l := l) r14 P a0 (v12 + (1 : Int32)) v13 (r14 q3 (x1.toNatClampNeg)) r15 er15) (cwV 3 hts (gi_v wa_3_159 wa_3_161 wa_s_15 wa_1_10 wa_3_162) rfl rfl rfl (by decide +kernel) ⟨Nat.le_of_ble_eq_true rfl, Nat.le_of_ble_eq_true rfl⟩) ⟨mm_B_blind, ev_recv hK hM (ci := 3) rfl hg1 rfl, fun U hU hW => ⟨rfl, mm_B_of hK hZ hM hU hW⟩⟩ rfl rfl hl.1 rfl (lv_room (Nat.le_of_ble_eq_true rfl)) dX3_spreadFrom_81 ⟨Nat.zero_le _, Nat.zero_le _⟩) hM (fun H locs hM => ?_)
        refine lv_aload_n hx hb dX3_spreadFrom_84 rfl (lv_at hl 2 rfl) ?_
        refine lv_iload_n hx hb dX3_spreadFrom_85 rfl (lv_at hl 1 rfl) ?_
        refine lv_iload hx hb dX3_spreadFrom_86 (lv_at hl 0 rfl) ?_
        refine lv_iconst (v := (1 : Int32)) hx hb dX3_spreadFrom_88 (by decide) ?_
        refine lv_isub hx hb dX3_spreadFrom_89 ?_
        refine lv_aload_n hx hb dX3_spreadFrom_90 rfl (lv_at hl 2 rfl) ?_
        refine ev_getP (v := q3) S hK hM (ci := 3) (n := 4) (C := RX3) (T := TX3) hin3 rfl hg1 1 (by decide) lk15 rfl rfl eq3 rfl dX3_spreadFrom_91 ?_
        refine lv_iload_n hx hb dX3_spreadFrom_94 rfl (lv_at hl 3 rfl) ?_
        refine ev_iald S hK hM hg4 (j := x1.toNatClampNeg) rfl dX3_spreadFrom_95 ?_
        refine bd_e hf (fun r16 er16 hf => ?_)
        refine ev_callv (va_runV (As := [.int v12, .int (v13 - (1 : Int32)), .int (r15 q3 (x1.toNatClampNeg))]) (rest := []) S (c_X3_reach (l := l) r15 P a0 v12 (v13 - (1 : Int32)) (r15 q3 (x1.toNatClampNeg)) r16 er16) (cwV 3 hts (gi_v wa_3_159 wa_3_161 wa_s_15 wa_1_10 wa_3_162) rfl rfl rfl (by decide +kernel) ⟨Nat.le_of_ble_eq_true rfl, Nat.le_of_ble_eq_true rfl⟩) ⟨mm_B_blind, ev_recv hK hM (ci := 3) rfl hg1 rfl, fun U hU hW => ⟨rfl, mm_B_of hK hZ hM hU hW⟩⟩ rfl rfl hl.1 rfl (lv_room (Nat.le_of_ble_eq_true rfl)) dX3_spreadFrom_96 ⟨Nat.zero_le _, Nat.zero_le _⟩) hM (fun H locs hM => ?_)
        refine lv_aload_n hx hb dX3_spreadFrom_99 rfl (lv_at hl 2 rfl) ?_
        refine lv_iload_n hx hb dX3_spreadFrom_100 rfl (lv_at hl 1 rfl) ?_
        refine lv_iload hx hb dX3_spreadFrom_101 (lv_at hl 0 rfl) ?_
        refine lv_iconst (v := (1 : Int32)) hx hb dX3_spreadFrom_103 (by decide) ?_
        refine lv_iadd hx hb dX3_spreadFrom_104 ?_
        refine lv_aload_n hx hb dX3_spreadFrom_105 rfl (lv_at hl 2 rfl) ?_
        refine ev_getP (v := q3) S hK hM (ci := 3) (n := 4) (C := RX3) (T := TX3) hin3 rfl hg1 1 (by decide) lk15 rfl rfl eq3 rfl dX3_spreadFrom_106 ?_
        refine lv_iload_n hx hb dX3_spreadFrom_109 rfl (lv_at hl 3 rfl) ?_
        refine ev_iald S hK hM hg4 (j := x1.toNatClampNeg) rfl dX3_spreadFrom_110 ?_
        refine bd_e hf (fun r17 er17 hf => ?_)
        refine ev_callv (va_runV (As := [.int v12, .int (v13 + (1 : Int32)), .int (r16 q3 (x1.toNatClampNeg))]) (rest := []) S (c_X3_reach (l := l) r16 P a0 v12 (v13 + (1 : Int32)) (r16 q3 (x1.toNatClampNeg)) r17 er17) (cwV 3 hts (gi_v wa_3_159 wa_3_161 wa_s_15 wa_1_10 wa_3_162) rfl rfl rfl (by decide +kernel) ⟨Nat.le_of_ble_eq_true rfl, Nat.le_of_ble_eq_true rfl⟩) ⟨mm_B_blind, ev_recv hK hM (ci := 3) rfl hg1 rfl, fun U hU hW => ⟨rfl, mm_B_of hK hZ hM hU hW⟩⟩ rfl rfl hl.1 rfl (lv_room (Nat.le_of_ble_eq_true rfl)) dX3_spreadFrom_111 ⟨Nat.zero_le _, Nat.zero_le _⟩) hM (fun H locs hM => ?_)
        refine lv_iinc (v := (v6 + (1 : Int32))) (lv' := [(2, .int (v6 + (1 : Int32))), (4, .int v13), (3, .int v12), (0, .ref a0), (1, .int x1)]) hx hb dX3_spreadFrom_114 hl (k := 4) rfl rfl (by decide) rfl (fun ls hl => ?_)
        refine lv_goto (tgt := 25) hx hb dX3_spreadFrom_117 (by decide) ?_
        exact ih (v6 + (1 : Int32)) r17 _ _ _ _ hM (lv_sub hl [3, 4, 0] rfl) hf kk
  refine bd_e hf (fun r8 er8 hf => ?_)
  refine lp25_17 FU (0 : Int32) r5 _ _ _ r8 hM (lv_sub hl [1, 2, 0] rfl) er8 (fun H locs ls hM hl => ?_)
  refine lv_aload_n hx hb dX3_spreadFrom_120 rfl (lv_at hl 0 rfl) ?_
  refine ev_get (v := .int (r8 a0 3)) S hK hM (ci := 3) (n := 4) (C := RX3) (T := TX3) hin3 rfl hg1 3 (by decide) lk60 rfl rfl rfl dX3_spreadFrom_121 ?_
  obtain rfl := Option.some.inj hf
  subst hQ
  exact ev_iret S hr hlocks hK hZ hM dX3_spreadFrom_124
noncomputable def fn_X3_chooseRegion_L19 (K : Nat → Nat) (N : Nat → Nat) (a0 : Nat) (x3 : Int32) (P : Nat → Nat → Option Nat) (q2 : Nat) (v4 : Int32) (q5 : Nat) (v7 : Int32) : Nat → Int32 → (Nat → Nat → Int32) → Option ((Nat → Nat → Int32))
  | 0, _, _ => none
  | n + 1, v8, I9 => if (192 : Int32) ≤ v8 then (some I9) else (gd (K q2 = 12 ∧ vp_in v8 (N q2)) (Option.bind (if x3 < (if 0 ≤ ((I9 q2 (v8.toNatClampNeg)) - v4) then ((I9 q2 (v8.toNatClampNeg)) - v4) else 0 - ((I9 q2 (v8.toNatClampNeg)) - v4)) then (some (0 : Int32)) else (gd (K q5 = 12 ∧ vp_in v8 (N q5)) (if x3 < (if 0 ≤ ((I9 q5 (v8.toNatClampNeg)) - v7) then ((I9 q5 (v8.toNatClampNeg)) - v7) else 0 - ((I9 q5 (v8.toNatClampNeg)) - v7)) then (some (0 : Int32)) else (some (1 : Int32))))) (fun (j14 : Int32) => gd (K a0 = 4) (Option.bind (P a0 (1)) (fun q16 => if j14 = 0 then (gd (K q16 = 12 ∧ vp_in v8 (N q16)) (Option.bind (some (up2 I9 q16 (v8.toNatClampNeg) (0 : Int32))) (fun I19 => fn_X3_chooseRegion_L19 K N a0 x3 P q2 v4 q5 v7 n (v8 + (1 : Int32)) I19))) else (gd (K q16 = 12 ∧ vp_in v8 (N q16)) (Option.bind (some (up2 I9 q16 (v8.toNatClampNeg) (1 : Int32))) (fun I21 => fn_X3_chooseRegion_L19 K N a0 x3 P q2 v4 q5 v7 n (v8 + (1 : Int32)) I21))))))))
noncomputable def fn_X3_chooseRegion (K N : Nat → Nat) (I : Nat → Nat → Int32) (P : Nat → Nat → Option Nat) (a0 : Nat) (a1 : Nat) (x2 : Int32) (x3 : Int32) : Option ((Nat → Nat → Int32)) := gd (K a1 = 5) (Option.bind (P a1 (0)) (fun q2 => gd (K q2 = 12 ∧ vp_in x2 (N q2)) (Option.bind (some (I q2 (x2.toNatClampNeg))) (fun v4 => Option.bind (P a1 (1)) (fun q5 => gd (K q5 = 12 ∧ vp_in x2 (N q5)) (Option.bind (some (I q5 (x2.toNatClampNeg))) (fun v7 => Option.bind (fn_X3_chooseRegion_L19 K N a0 x3 P q2 v4 q5 v7 FU (0 : Int32) I) (fun (r10 : (Nat → Nat → Int32)) => Option.bind (fn_X3_clear K N r10 P a0) (fun (r24 : (Nat → Nat → Int32)) => gd (K a0 = 4) (Option.bind (fn_X3_spreadFrom K N r24 P a0 x2) (fun (r26 : Int32 × (Nat → Nat → Int32)) => some r26.2)))))))))))
abbrev wz_X3_chooseRegion : List Cond := Cond.code yX3_chooseRegion cX3_chooseRegion 8 none :: WA
abbrev rm_X3_chooseRegion : Room := { frames := 6, cells := 0, slots := 0, locals := 123 }
set_option maxHeartbeats 4000000 in
set_option maxRecDepth 100000 in
theorem c_X3_chooseRegion (I : Nat → Nat → Int32) (P : Nat → Nat → Option Nat) (a0 : Nat) (a1 : Nat) (x2 : Int32) (x3 : Int32) (res : (Nat → Nat → Int32)) (hf : fn_X3_chooseRegion K N I P a0 a1 x2 x3 = some res) : Met l yX3_chooseRegion wz_X3_chooseRegion rm_X3_chooseRegion (va_Pc [.ref a0, .ref a1, .int x2, .int x3] (mm_B D cs A L K N z w I P)) (va_Qv (fun (_ : Unit) => True) (fun _ => mm_B D cs A L K N z w res P) A) 0 0 A := by
  refine Met.ofW (cc := cX3_chooseRegion) (maxL := 8) (ret := none) (by decide) rfl ?_
  intro p e s m args below meth c s₁ B hml hv
  obtain ⟨rfl, hBm⟩ := hv
  have hx := B.exec
  have hb := B.bytes
  have hr := B.returns
  have hts := atoms_spec (ws := wz_X3_chooseRegion) B.pre
  have hWA : ∀ w ∈ WA, w.before ([.ref a0, .ref a1, .int x2, .int x3] : List Value).toArray s = true := fun u9 h9 => hts u9 (List.mem_cons_of_mem _ h9)
  have hown : s.vm.findClass RX3 = some m.cls := findClass_of_methodNamed B.named
  have hlocks := B.notSynchronized
  have S : CallFix p m c cX3_chooseRegion 8 s ([.ref a0, .ref a1, .int x2, .int x3] : List Value).toArray wz_X3_chooseRegion RX3 := ⟨hx, hb, hml, hown, hts⟩
  have hK := hBm.2.2.2.1
  have hZ := hBm.2.2.2.2
  have hM : mm_W D cs A L K N s.heap I P s.heap [] := ⟨hBm.1, hBm.2.1, hBm.2.2.1, va_S.rf⟩
  have hl := lv_entry ([.ref a0, .ref a1, .int x2, .int x3]) (n := 8) (Nat.le_of_ble_eq_true rfl)
  rw [lg_entry_eq]
  generalize (lg_sl ([.ref a0, .ref a1, .int x2, .int x3]) ++ List.replicate (8 - (lg_sl ([.ref a0, .ref a1, .int x2, .int x3])).length) Slot.unset).toArray = ls at hl ⊢
  have hl : lv_has ls 8 [(0, .ref a0), (1, .ref a1), (2, .int x2), (3, .int x3)] := hl
  have hin4 : ∀ w ∈ wsX40, w ∈ wz_X3_chooseRegion := fun w h => List.mem_cons_of_mem _ (wu_X4 w h)
  have hin3 : ∀ w ∈ wsX30, w ∈ wz_X3_chooseRegion := fun w h => List.mem_cons_of_mem _ (wu_X3 w h)
  have lk37 : (Cond.fieldLink RX3 37 RX4 "inks" "[I").before ([.ref a0, .ref a1, .int x2, .int x3] : List Value).toArray s = true := hWA _ wa_1_128
  have lk42 : (Cond.fieldLink RX3 42 RX4 "covers" "[I").before ([.ref a0, .ref a1, .int x2, .int x3] : List Value).toArray s = true := hWA _ wa_1_132
  have lk15 : (Cond.fieldLink RX3 15 RX3 "keys" "[I").before ([.ref a0, .ref a1, .int x2, .int x3] : List Value).toArray s = true := hWA _ wa_2_0
  generalize hQ : MQ below (va_Qv (fun (_ : Unit) => True) (fun _ => mm_B D cs A L K N z w res P) A) ([.ref a0, .ref a1, .int x2, .int x3] : List Value).toArray s 0 0 A = QQ
  rw [fn_X3_chooseRegion] at hf
  refine lv_aload_n hx hb dX3_chooseRegion_0 rfl (lv_at hl 1 rfl) ?_
  refine gd_e hf (fun hg1 hf => ?_)
  refine bd_e hf (fun q2 eq2 hf => ?_)
  refine ev_getP (v := q2) S hK hM (ci := 4) (n := 5) (C := RX4) (T := TX4) hin4 rfl hg1 0 (by decide) lk37 rfl rfl eq2 rfl dX3_chooseRegion_1 ?_
  refine lv_iload_n hx hb dX3_chooseRegion_4 rfl (lv_at hl 2 rfl) ?_
  refine gd_e hf (fun hg3 hf => ?_)
  refine ev_iald S hK hM hg3 (j := x2.toNatClampNeg) rfl dX3_chooseRegion_5 ?_
  refine lv_topi (fun v4 ev4 => ?_)
  have hf := nm_x ev4 hf
  refine lv_istore (lv' := [(4, .int v4), (0, .ref a0), (1, .ref a1), (2, .int x2), (3, .int x3)]) hx hb dX3_chooseRegion_6 hl (by decide) rfl (fun ls hl => ?_)
  refine lv_aload_n hx hb dX3_chooseRegion_8 rfl (lv_at hl 2 rfl) ?_
  refine bd_e hf (fun q5 eq5 hf => ?_)
  refine ev_getP (v := q5) S hK hM (ci := 4) (n := 5) (C := RX4) (T := TX4) hin4 rfl hg1 1 (by decide) lk42 rfl rfl eq5 rfl dX3_chooseRegion_9 ?_
  refine lv_iload_n hx hb dX3_chooseRegion_12 rfl (lv_at hl 3 rfl) ?_
  refine gd_e hf (fun hg6 hf => ?_)
  refine ev_iald S hK hM hg6 (j := x2.toNatClampNeg) rfl dX3_chooseRegion_13 ?_
  refine lv_topi (fun v7 ev7 => ?_)
  have hf := nm_x ev7 hf
  refine lv_istore (lv' := [(5, .int v7), (4, .int v4), (0, .ref a0), (1, .ref a1), (2, .int x2), (3, .int x3)]) hx hb dX3_chooseRegion_14 hl (by decide) rfl (fun ls hl => ?_)
  refine lv_iconst (v := (0 : Int32)) hx hb dX3_chooseRegion_16 (by decide) ?_
  refine lv_istore (lv' := [(6, .int (0 : Int32)), (5, .int v7), (4, .int v4), (0, .ref a0), (1, .ref a1), (2, .int x2), (3, .int x3)]) hx hb dX3_chooseRegion_17 hl (by decide) rfl (fun ls hl => ?_)
  have lp19_23 : ∀ (n : Nat) (v8 : Int32) (I9 : Nat → Nat → Int32) (H : Heap) (locs : List Loc) (ls : Array Slot) (r10 : (Nat → Nat → Int32)), mm_W D cs A L K N s.heap I9 P H locs → lv_has ls 8 [(0, .ref a0), (1, .ref a1), (2, .int x2), (3, .int x3), (4, .int v4), (5, .int v7), (6, .int v8)] → fn_X3_chooseRegion_L19 K N a0 x3 P q2 v4 q5 v7 n v8 I9 = some r10 → (∀ (H : Heap) (locs : List Loc) (ls : Array Slot), mm_W D cs A L K N s.heap r10 P H locs → lv_has ls 8 [(0, .ref a0), (2, .int x2)] → W p l e (headSpec wz_X3_chooseRegion rm_X3_chooseRegion).room s m ([.ref a0, .ref a1, .int x2, .int x3] : List Value).toArray below meth c H locs 0 0 QQ (F0 m 91 ls [])) → W p l e (headSpec wz_X3_chooseRegion rm_X3_chooseRegion).room s m ([.ref a0, .ref a1, .int x2, .int x3] : List Value).toArray below meth c H locs 0 0 QQ (F0 m 19 ls []) := by
    intro n
    induction n with
    | zero => intro v8 I9 H locs ls r10 hM hl hf kk; exact nn_x (show (none : Option ((Nat → Nat → Int32))) = some r10 from hf)
    | succ n ih =>
      intro v8 I9 H locs ls r10 hM hl hf kk
      rw [fn_X3_chooseRegion_L19] at hf
      refine lv_iload hx hb dX3_chooseRegion_19 (lv_at hl 6 rfl) ?_
      refine lv_sipush (v := (192 : Int32)) hx hb dX3_chooseRegion_21 (by decide) ?_
      refine lv_icmp_ge (tgt := 91) hx hb dX3_chooseRegion_24 (by decide) (fun hc11 => ?_) (fun hc11 => ?_)
      · have hf := it_p hf hc11
        obtain rfl := Option.some.inj hf
        exact kk _ _ _ hM (lv_sub hl [0, 2] rfl)
      · have hf := it_n hf hc11
        refine lv_aload_n hx hb dX3_chooseRegion_27 rfl (lv_at hl 1 rfl) ?_
        refine ev_getP (v := q2) S hK hM (ci := 4) (n := 5) (C := RX4) (T := TX4) hin4 rfl hg1 0 (by decide) lk37 rfl rfl eq2 rfl dX3_chooseRegion_28 ?_
        refine lv_iload hx hb dX3_chooseRegion_31 (lv_at hl 6 rfl) ?_
        refine gd_e hf (fun hg12 hf => ?_)
        refine ev_iald S hK hM hg12 (j := v8.toNatClampNeg) rfl dX3_chooseRegion_33 ?_
        refine lv_iload hx hb dX3_chooseRegion_34 (lv_at hl 4 rfl) ?_
        refine lv_isub hx hb dX3_chooseRegion_36 ?_
        refine va_mabs hx hb (hml.trans hl.1.symm) hown (hWA _ wa_3_154) (hWA _ wa_2_136) (hWA _ wa_1_13) (hWA _ wa_2_137) (Nat.le_of_ble_eq_true rfl) (Nat.le_of_ble_eq_true rfl) (Nat.zero_le _) (Nat.zero_le _) dX3_chooseRegion_37 ?_
        refine lv_iload_n hx hb dX3_chooseRegion_40 rfl (lv_at hl 3 rfl) ?_
        refine bd_e hf (fun j14 ej14 hf => ?_)
        have kj14 : ∀ (H : Heap) (locs : List Loc) (ls : Array Slot), mm_W D cs A L K N s.heap I9 P H locs → lv_has ls 8 [(0, .ref a0), (1, .ref a1), (2, .int x2), (3, .int x3), (4, .int v4), (5, .int v7), (6, .int v8)] → W p l e (headSpec wz_X3_chooseRegion rm_X3_chooseRegion).room s m ([.ref a0, .ref a1, .int x2, .int x3] : List Value).toArray below meth c H locs 0 0 QQ (F0 m 66 ls [.int j14]) := by
          intro H locs ls hM hl
          refine lv_istore (lv' := [(7, .int j14), (0, .ref a0), (1, .ref a1), (2, .int x2), (3, .int x3), (4, .int v4), (5, .int v7), (6, .int v8)]) hx hb dX3_chooseRegion_66 hl (by decide) rfl (fun ls hl => ?_)
          refine lv_aload_n hx hb dX3_chooseRegion_68 rfl (lv_at hl 1 rfl) ?_
          refine gd_e hf (fun hg15 hf => ?_)
          refine bd_e hf (fun q16 eq16 hf => ?_)
          refine ev_getP (v := q16) S hK hM (ci := 3) (n := 4) (C := RX3) (T := TX3) hin3 rfl hg15 1 (by decide) lk15 rfl rfl eq16 rfl dX3_chooseRegion_69 ?_
          refine lv_iload hx hb dX3_chooseRegion_72 (lv_at hl 7 rfl) ?_
          refine lv_iload hx hb dX3_chooseRegion_74 (lv_at hl 0 rfl) ?_
          refine lv_if_eq (tgt := 83) hx hb dX3_chooseRegion_76 (by decide) (fun hc17 => ?_) (fun hc17 => ?_)
          · have hf := it_p hf hc17
            refine lv_iconst (v := (0 : Int32)) hx hb dX3_chooseRegion_83 (by decide) ?_
            refine gd_e hf (fun hg18 hf => ?_)
            refine ev_iast S hK hM hg18 (j := v8.toNatClampNeg) rfl dX3_chooseRegion_84 (fun I19 eI19 H locs hM => ?_)
            have hf := nm_x eI19 hf
            refine lv_iinc (v := (v8 + (1 : Int32))) (lv' := [(6, .int (v8 + (1 : Int32))), (7, .int j14), (0, .ref a0), (1, .ref a1), (2, .int x2), (3, .int x3), (4, .int v4), (5, .int v7)]) hx hb dX3_chooseRegion_85 hl (k := 7) rfl rfl (by decide) rfl (fun ls hl => ?_)
            refine lv_goto (tgt := 19) hx hb dX3_chooseRegion_88 (by decide) ?_
            exact ih (v8 + (1 : Int32)) I19 _ _ _ _ hM (lv_sub hl [2, 3, 4, 5, 6, 7, 0] rfl) hf kk
          · have hf := it_n hf hc17
            refine lv_iconst (v := (1 : Int32)) hx hb dX3_chooseRegion_79 (by decide) ?_
            refine lv_goto (tgt := 84) hx hb dX3_chooseRegion_80 (by decide) ?_
            refine gd_e hf (fun hg20 hf => ?_)
            refine ev_iast S hK hM hg20 (j := v8.toNatClampNeg) rfl dX3_chooseRegion_84 (fun I21 eI21 H locs hM => ?_)
            have hf := nm_x eI21 hf
            refine lv_iinc (v := (v8 + (1 : Int32))) (lv' := [(6, .int (v8 + (1 : Int32))), (7, .int j14), (0, .ref a0), (1, .ref a1), (2, .int x2), (3, .int x3), (4, .int v4), (5, .int v7)]) hx hb dX3_chooseRegion_85 hl (k := 7) rfl rfl (by decide) rfl (fun ls hl => ?_)
            refine lv_goto (tgt := 19) hx hb dX3_chooseRegion_88 (by decide) ?_
            exact ih (v8 + (1 : Int32)) I21 _ _ _ _ hM (lv_sub hl [2, 3, 4, 5, 6, 7, 0] rfl) hf kk
        have hf := ej14
        refine lv_icmp_gt (tgt := 65) hx hb dX3_chooseRegion_41 (by decide) (fun hc13 => ?_) (fun hc13 => ?_)
        · have hf := it_p hf hc13
          refine lv_iconst (v := (0 : Int32)) hx hb dX3_chooseRegion_65 (by decide) ?_
          obtain rfl := Option.some.inj hf
          exact kj14 _ _ _ hM (hl)
        · have hf := it_n hf hc13
          refine lv_aload_n hx hb dX3_chooseRegion_44 rfl (lv_at hl 1 rfl) ?_
          refine ev_getP (v := q5) S hK hM (ci := 4) (n := 5) (C := RX4) (T := TX4) hin4 rfl hg1 1 (by decide) lk42 rfl rfl eq5 rfl dX3_chooseRegion_45 ?_
          refine lv_iload hx hb dX3_chooseRegion_48 (lv_at hl 6 rfl) ?_
          refine gd_e hf (fun hg22 hf => ?_)
          refine ev_iald S hK hM hg22 (j := v8.toNatClampNeg) rfl dX3_chooseRegion_50 ?_
          refine lv_iload hx hb dX3_chooseRegion_51 (lv_at hl 5 rfl) ?_
          refine lv_isub hx hb dX3_chooseRegion_53 ?_
          refine va_mabs hx hb (hml.trans hl.1.symm) hown (hWA _ wa_3_154) (hWA _ wa_2_136) (hWA _ wa_1_13) (hWA _ wa_2_137) (Nat.le_of_ble_eq_true rfl) (Nat.le_of_ble_eq_true rfl) (Nat.zero_le _) (Nat.zero_le _) dX3_chooseRegion_54 ?_
          refine lv_iload_n hx hb dX3_chooseRegion_57 rfl (lv_at hl 3 rfl) ?_
          refine lv_icmp_gt (tgt := 65) hx hb dX3_chooseRegion_58 (by decide) (fun hc23 => ?_) (fun hc23 => ?_)
          · have hf := it_p hf hc23
            refine lv_iconst (v := (0 : Int32)) hx hb dX3_chooseRegion_65 (by decide) ?_
            obtain rfl := Option.some.inj hf
            exact kj14 _ _ _ hM (hl)
          · have hf := it_n hf hc23
            refine lv_iconst (v := (1 : Int32)) hx hb dX3_chooseRegion_61 (by decide) ?_
            refine lv_goto (tgt := 66) hx hb dX3_chooseRegion_62 (by decide) ?_
            obtain rfl := Option.some.inj hf
            exact kj14 _ _ _ hM (hl)
  refine bd_e hf (fun r10 er10 hf => ?_)
  refine lp19_23 FU (0 : Int32) I _ _ _ r10 hM (lv_sub hl [3, 4, 5, 6, 2, 1, 0] rfl) er10 (fun H locs ls hM hl => ?_)
  refine lv_aload_n hx hb dX3_chooseRegion_91 rfl (lv_at hl 0 rfl) ?_
  refine bd_e hf (fun r24 er24 hf => ?_)
  refine gd_e hf (fun hg25 hf => ?_)
  refine ev_callv (va_runV (As := []) (rest := []) S (c_X3_clear (l := l) r10 P a0 r24 er24) (cwV 0 hts (gi_v wa_3_135 wa_3_136 wa_3_137 wa_1_10 wa_3_138) rfl rfl rfl (by decide +kernel) ⟨Nat.le_of_ble_eq_true rfl, Nat.le_of_ble_eq_true rfl⟩) ⟨mm_B_blind, ev_recv hK hM (ci := 3) rfl hg25 rfl, fun U hU hW => ⟨rfl, mm_B_of hK hZ hM hU hW⟩⟩ rfl rfl hl.1 rfl (lv_room (Nat.le_of_ble_eq_true rfl)) dX3_chooseRegion_92 ⟨Nat.zero_le _, Nat.zero_le _⟩) hM (fun H locs hM => ?_)
  refine lv_aload_n hx hb dX3_chooseRegion_95 rfl (lv_at hl 0 rfl) ?_
  refine lv_iload_n hx hb dX3_chooseRegion_96 rfl (lv_at hl 1 rfl) ?_
  refine bd_e hf (fun r26 er26 hf => ?_)
  refine ev_calli (va_runV (As := [.int x2]) (rest := []) S (c_X3_spreadFrom (l := l) r24 P a0 x2 r26 er26) (cwV 1 hts (gi_v wa_3_155 wa_3_156 wa_3_157 wa_1_10 wa_3_158) rfl rfl rfl (by decide +kernel) ⟨Nat.le_of_ble_eq_true rfl, Nat.le_of_ble_eq_true rfl⟩) ⟨mm_B_blind, ev_recv hK hM (ci := 3) rfl hg25 rfl, fun U hU hW => ⟨rfl, mm_B_of hK hZ hM hU hW⟩⟩ rfl rfl hl.1 rfl (lv_room (Nat.le_of_ble_eq_true rfl)) dX3_chooseRegion_97 ⟨Nat.zero_le _, Nat.zero_le _⟩) hM (fun H locs hM => ?_)
  refine lv_pop hx hb dX3_chooseRegion_100 rfl ?_
  obtain rfl := Option.some.inj hf
  subst hQ
  exact ev_vret S hr hlocks hK hZ hM dX3_chooseRegion_101
end G01
