section G03
variable {l : Launch} {D : va_G} {cs : mm_C} {A : Nat → Prop} {L : List Nat} {K N z : Nat → Nat} {w : Option Nat}
noncomputable def fn_X7_hasPart (K N : Nat → Nat) (I : Nat → Nat → Int32) (P : Nat → Nat → Option Nat) (a0 : Nat) (x1 : Int32) (x2 : Int32) : Option (Int32) := if x2 < 0 then (some (0 : Int32)) else (if x1 < 0 then (some (0 : Int32)) else (gd (K a0 = 8) (if (I a0 1) < x1 then (some (0 : Int32)) else (if ((I a0 1) - x1) < x2 then (some (0 : Int32)) else (some (1 : Int32))))))
abbrev wz_X7_hasPart : List Cond := Cond.code yX7_hasPart cX7_hasPart 3 (some .boolean) :: WA
abbrev rm_X7_hasPart : Room := { frames := 1, cells := 0, slots := 0, locals := 12 }
set_option maxHeartbeats 4000000 in
set_option maxRecDepth 100000 in
theorem c_X7_hasPart (I : Nat → Nat → Int32) (P : Nat → Nat → Option Nat) (a0 : Nat) (x1 : Int32) (x2 : Int32) (res : Int32) (hf : fn_X7_hasPart K N I P a0 x1 x2 = some res) : Met l yX7_hasPart wz_X7_hasPart rm_X7_hasPart (va_Pc [.ref a0, .int x1, .int x2] (mm_B D cs A L K N z w I P)) (va_Qi (fun r (_ : Unit) => r = res) (fun _ => mm_B D cs A L K N z w I P) A) 0 0 A := by
  refine Met.ofW (cc := cX7_hasPart) (maxL := 3) (ret := (some .boolean)) (by decide) rfl ?_
  intro p e s m args below meth c s₁ B hml hv
  obtain ⟨rfl, hBm⟩ := hv
  have hx := B.exec
  have hb := B.bytes
  have hr := B.returns
  have hts := atoms_spec (ws := wz_X7_hasPart) B.pre
  have hWA : ∀ w ∈ WA, w.before ([.ref a0, .int x1, .int x2] : List Value).toArray s = true := fun u9 h9 => hts u9 (List.mem_cons_of_mem _ h9)
  have hown : s.vm.findClass RX7 = some m.cls := findClass_of_methodNamed B.named
  have hlocks := B.notSynchronized
  have S : CallFix p m c cX7_hasPart 3 s ([.ref a0, .int x1, .int x2] : List Value).toArray wz_X7_hasPart RX7 := ⟨hx, hb, hml, hown, hts⟩
  have hK := hBm.2.2.2.1
  have hZ := hBm.2.2.2.2
  have hM : mm_W D cs A L K N s.heap I P s.heap [] := ⟨hBm.1, hBm.2.1, hBm.2.2.1, va_S.rf⟩
  have hl := lv_entry ([.ref a0, .int x1, .int x2]) (n := 3) (Nat.le_of_ble_eq_true rfl)
  rw [lg_entry_eq]
  generalize (lg_sl ([.ref a0, .int x1, .int x2]) ++ List.replicate (3 - (lg_sl ([.ref a0, .int x1, .int x2])).length) Slot.unset).toArray = ls at hl ⊢
  have hl : lv_has ls 3 [(0, .ref a0), (1, .int x1), (2, .int x2)] := hl
  have hin7 : ∀ w ∈ wsX70, w ∈ wz_X7_hasPart := fun w h => List.mem_cons_of_mem _ (wu_X7 w h)
  have lk19 : (Cond.fieldLink RX7 19 RX7 "size" "I").before ([.ref a0, .int x1, .int x2] : List Value).toArray s = true := hWA _ wa_1_221
  generalize hQ : MQ below (va_Qi (fun r (_ : Unit) => r = res) (fun _ => mm_B D cs A L K N z w I P) A) ([.ref a0, .int x1, .int x2] : List Value).toArray s 0 0 A = QQ
  rw [fn_X7_hasPart] at hf
  refine lv_iload_n hx hb dX7_hasPart_0 rfl (lv_at hl 2 rfl) ?_
  refine lv_if_lt (tgt := 30) hx hb dX7_hasPart_1 (by decide) (fun hc1 => ?_) (fun hc1 => ?_)
  · have hf := it_p hf hc1
    refine lv_iconst (v := (0 : Int32)) hx hb dX7_hasPart_30 (by decide) ?_
    obtain rfl := Option.some.inj hf
    subst hQ
    exact ev_zret (v := (0 : Int32)) S hr hlocks hK hZ hM rfl dX7_hasPart_31
  · have hf := it_n hf hc1
    refine lv_iload_n hx hb dX7_hasPart_4 rfl (lv_at hl 1 rfl) ?_
    refine lv_if_lt (tgt := 30) hx hb dX7_hasPart_5 (by decide) (fun hc2 => ?_) (fun hc2 => ?_)
    · have hf := it_p hf hc2
      refine lv_iconst (v := (0 : Int32)) hx hb dX7_hasPart_30 (by decide) ?_
      obtain rfl := Option.some.inj hf
      subst hQ
      exact ev_zret (v := (0 : Int32)) S hr hlocks hK hZ hM rfl dX7_hasPart_31
    · have hf := it_n hf hc2
      refine lv_iload_n hx hb dX7_hasPart_8 rfl (lv_at hl 1 rfl) ?_
      refine lv_aload_n hx hb dX7_hasPart_9 rfl (lv_at hl 0 rfl) ?_
      refine gd_e hf (fun hg3 hf => ?_)
      refine ev_get (v := .int (I a0 1)) S hK hM (ci := 7) (n := 3) (C := RX7) (T := TX7) hin7 rfl hg3 1 (by decide) lk19 rfl rfl rfl dX7_hasPart_10 ?_
      refine lv_icmp_gt (tgt := 30) hx hb dX7_hasPart_13 (by decide) (fun hc4 => ?_) (fun hc4 => ?_)
      · have hf := it_p hf hc4
        refine lv_iconst (v := (0 : Int32)) hx hb dX7_hasPart_30 (by decide) ?_
        obtain rfl := Option.some.inj hf
        subst hQ
        exact ev_zret (v := (0 : Int32)) S hr hlocks hK hZ hM rfl dX7_hasPart_31
      · have hf := it_n hf hc4
        refine lv_iload_n hx hb dX7_hasPart_16 rfl (lv_at hl 2 rfl) ?_
        refine lv_aload_n hx hb dX7_hasPart_17 rfl (lv_at hl 0 rfl) ?_
        refine ev_get (v := .int (I a0 1)) S hK hM (ci := 7) (n := 3) (C := RX7) (T := TX7) hin7 rfl hg3 1 (by decide) lk19 rfl rfl rfl dX7_hasPart_18 ?_
        refine lv_iload_n hx hb dX7_hasPart_21 rfl (lv_at hl 1 rfl) ?_
        refine lv_isub hx hb dX7_hasPart_22 ?_
        refine lv_icmp_gt (tgt := 30) hx hb dX7_hasPart_23 (by decide) (fun hc5 => ?_) (fun hc5 => ?_)
        · have hf := it_p hf hc5
          refine lv_iconst (v := (0 : Int32)) hx hb dX7_hasPart_30 (by decide) ?_
          obtain rfl := Option.some.inj hf
          subst hQ
          exact ev_zret (v := (0 : Int32)) S hr hlocks hK hZ hM rfl dX7_hasPart_31
        · have hf := it_n hf hc5
          refine lv_iconst (v := (1 : Int32)) hx hb dX7_hasPart_26 (by decide) ?_
          refine lv_goto (tgt := 31) hx hb dX7_hasPart_27 (by decide) ?_
          obtain rfl := Option.some.inj hf
          subst hQ
          exact ev_zret (v := (1 : Int32)) S hr hlocks hK hZ hM rfl dX7_hasPart_31
noncomputable def fn_X8_add (K N : Nat → Nat) (I : Nat → Nat → Int32) (P : Nat → Nat → Option Nat) (a0 : Nat) (x1 : Int32) : Option ((Nat → Nat → Int32)) := gd (K a0 = 9) (if (60 : Int32) ≤ (I a0 1) then (some I) else (Option.bind (P a0 (0)) (fun q3 => gd (K q3 = 12 ∧ vp_in (I a0 1) (N q3)) (Option.bind (some (up2 I q3 ((I a0 1)).toNatClampNeg x1)) (fun I5 => Option.bind (some (up2 I5 a0 1 ((I5 a0 1) + (1 : Int32)))) (fun I6 => some I6))))))
abbrev wz_X8_add : List Cond := Cond.code yX8_add cX8_add 2 none :: WA
abbrev rm_X8_add : Room := { frames := 1, cells := 0, slots := 0, locals := 12 }
set_option maxHeartbeats 4000000 in
set_option maxRecDepth 100000 in
theorem c_X8_add (I : Nat → Nat → Int32) (P : Nat → Nat → Option Nat) (a0 : Nat) (x1 : Int32) (res : (Nat → Nat → Int32)) (hf : fn_X8_add K N I P a0 x1 = some res) : Met l yX8_add wz_X8_add rm_X8_add (va_Pc [.ref a0, .int x1] (mm_B D cs A L K N z w I P)) (va_Qv (fun (_ : Unit) => True) (fun _ => mm_B D cs A L K N z w res P) A) 0 0 A := by
  refine Met.ofW (cc := cX8_add) (maxL := 2) (ret := none) (by decide) rfl ?_
  intro p e s m args below meth c s₁ B hml hv
  obtain ⟨rfl, hBm⟩ := hv
  have hx := B.exec
  have hb := B.bytes
  have hr := B.returns
  have hts := atoms_spec (ws := wz_X8_add) B.pre
  have hWA : ∀ w ∈ WA, w.before ([.ref a0, .int x1] : List Value).toArray s = true := fun u9 h9 => hts u9 (List.mem_cons_of_mem _ h9)
  have hown : s.vm.findClass RX8 = some m.cls := findClass_of_methodNamed B.named
  have hlocks := B.notSynchronized
  have S : CallFix p m c cX8_add 2 s ([.ref a0, .int x1] : List Value).toArray wz_X8_add RX8 := ⟨hx, hb, hml, hown, hts⟩
  have hK := hBm.2.2.2.1
  have hZ := hBm.2.2.2.2
  have hM : mm_W D cs A L K N s.heap I P s.heap [] := ⟨hBm.1, hBm.2.1, hBm.2.2.1, va_S.rf⟩
  have hl := lv_entry ([.ref a0, .int x1]) (n := 2) (Nat.le_of_ble_eq_true rfl)
  rw [lg_entry_eq]
  generalize (lg_sl ([.ref a0, .int x1]) ++ List.replicate (2 - (lg_sl ([.ref a0, .int x1])).length) Slot.unset).toArray = ls at hl ⊢
  have hl : lv_has ls 2 [(0, .ref a0), (1, .int x1)] := hl
  have hin8 : ∀ w ∈ wsX80, w ∈ wz_X8_add := fun w h => List.mem_cons_of_mem _ (wu_X8 w h)
  have lk21 : (Cond.fieldLink RX8 21 RX8 "size" "I").before ([.ref a0, .int x1] : List Value).toArray s = true := hWA _ wa_1_183
  have lk9 : (Cond.fieldLink RX8 9 RX8 "bytes" "[I").before ([.ref a0, .int x1] : List Value).toArray s = true := hWA _ wa_1_182
  generalize hQ : MQ below (va_Qv (fun (_ : Unit) => True) (fun _ => mm_B D cs A L K N z w res P) A) ([.ref a0, .int x1] : List Value).toArray s 0 0 A = QQ
  rw [fn_X8_add] at hf
  refine lv_aload_n hx hb dX8_add_0 rfl (lv_at hl 0 rfl) ?_
  refine gd_e hf (fun hg1 hf => ?_)
  refine ev_get (v := .int (I a0 1)) S hK hM (ci := 8) (n := 8) (C := RX8) (T := TX8) hin8 rfl hg1 1 (by decide) lk21 rfl rfl rfl dX8_add_1 ?_
  refine lv_bipush (v := (60 : Int32)) hx hb dX8_add_4 (by decide) ?_
  refine lv_icmp_ge (tgt := 29) hx hb dX8_add_6 (by decide) (fun hc2 => ?_) (fun hc2 => ?_)
  · have hf := it_p hf hc2
    obtain rfl := Option.some.inj hf
    subst hQ
    exact ev_vret S hr hlocks hK hZ hM dX8_add_29
  · have hf := it_n hf hc2
    refine lv_aload_n hx hb dX8_add_9 rfl (lv_at hl 0 rfl) ?_
    refine bd_e hf (fun q3 eq3 hf => ?_)
    refine ev_getP (v := q3) S hK hM (ci := 8) (n := 8) (C := RX8) (T := TX8) hin8 rfl hg1 0 (by decide) lk9 rfl rfl eq3 rfl dX8_add_10 ?_
    refine lv_aload_n hx hb dX8_add_13 rfl (lv_at hl 0 rfl) ?_
    refine ev_get (v := .int (I a0 1)) S hK hM (ci := 8) (n := 8) (C := RX8) (T := TX8) hin8 rfl hg1 1 (by decide) lk21 rfl rfl rfl dX8_add_14 ?_
    refine lv_iload_n hx hb dX8_add_17 rfl (lv_at hl 1 rfl) ?_
    refine gd_e hf (fun hg4 hf => ?_)
    refine ev_iast S hK hM hg4 (j := ((I a0 1)).toNatClampNeg) rfl dX8_add_18 (fun I5 eI5 H locs hM => ?_)
    have hf := nm_x eI5 hf
    refine lv_aload_n hx hb dX8_add_19 rfl (lv_at hl 0 rfl) ?_
    refine lv_dup hx hb dX8_add_20 rfl ?_
    refine ev_get (v := .int (I5 a0 1)) S hK hM (ci := 8) (n := 8) (C := RX8) (T := TX8) hin8 rfl hg1 1 (by decide) lk21 rfl rfl rfl dX8_add_21 ?_
    refine lv_iconst (v := (1 : Int32)) hx hb dX8_add_24 (by decide) ?_
    refine lv_iadd hx hb dX8_add_25 ?_
    refine ev_put S hK hM (ci := 8) (n := 8) (C := RX8) (T := TX8) hin8 tyX8 tyX8_ok nmX8 rfl hg1 1 (by decide) lk21 rfl rfl rfl rfl rfl (Nat.le_of_ble_eq_true rfl) rfl dX8_add_26 (fun I6 eI6 H locs hM => ?_)
    have hf := nm_x eI6 hf
    obtain rfl := Option.some.inj hf
    subst hQ
    exact ev_vret S hr hlocks hK hZ hM dX8_add_29
noncomputable def fn_X8_isBlank (x0 : Int32) : Option (Int32) := if x0 = (32 : Int32) then (some (1 : Int32)) else (if x0 = (10 : Int32) then (some (1 : Int32)) else (some (0 : Int32)))
abbrev wz_X8_isBlank : List Cond := Cond.code yX8_isBlank cX8_isBlank 1 (some .boolean) :: WA
abbrev rm_X8_isBlank : Room := { frames := 1, cells := 0, slots := 0, locals := 12 }
set_option maxHeartbeats 4000000 in
set_option maxRecDepth 100000 in
theorem c_X8_isBlank (I : Nat → Nat → Int32) (P : Nat → Nat → Option Nat) (x0 : Int32) (res : Int32) (hf : fn_X8_isBlank x0 = some res) : Met l yX8_isBlank wz_X8_isBlank rm_X8_isBlank (va_Pc [.int x0] (mm_B D cs A L K N z w I P)) (va_Qi (fun r (_ : Unit) => r = res) (fun _ => mm_B D cs A L K N z w I P) A) 0 0 A := by
  refine Met.ofW (cc := cX8_isBlank) (maxL := 1) (ret := (some .boolean)) (by decide) rfl ?_
  intro p e s m args below meth c s₁ B hml hv
  obtain ⟨rfl, hBm⟩ := hv
  have hx := B.exec
  have hb := B.bytes
  have hr := B.returns
  have hts := atoms_spec (ws := wz_X8_isBlank) B.pre
  have hWA : ∀ w ∈ WA, w.before ([.int x0] : List Value).toArray s = true := fun u9 h9 => hts u9 (List.mem_cons_of_mem _ h9)
  have hown : s.vm.findClass RX8 = some m.cls := findClass_of_methodNamed B.named
  have hlocks := B.notSynchronized
  have S : CallFix p m c cX8_isBlank 1 s ([.int x0] : List Value).toArray wz_X8_isBlank RX8 := ⟨hx, hb, hml, hown, hts⟩
  have hK := hBm.2.2.2.1
  have hZ := hBm.2.2.2.2
  have hM : mm_W D cs A L K N s.heap I P s.heap [] := ⟨hBm.1, hBm.2.1, hBm.2.2.1, va_S.rf⟩
  have hl := lv_entry ([.int x0]) (n := 1) (Nat.le_of_ble_eq_true rfl)
  rw [lg_entry_eq]
  generalize (lg_sl ([.int x0]) ++ List.replicate (1 - (lg_sl ([.int x0])).length) Slot.unset).toArray = ls at hl ⊢
  have hl : lv_has ls 1 [(0, .int x0)] := hl
  generalize hQ : MQ below (va_Qi (fun r (_ : Unit) => r = res) (fun _ => mm_B D cs A L K N z w I P) A) ([.int x0] : List Value).toArray s 0 0 A = QQ
  unfold fn_X8_isBlank at hf
  refine lv_iload_n hx hb dX8_isBlank_0 rfl (lv_at hl 0 rfl) ?_
  refine lv_bipush (v := (32 : Int32)) hx hb dX8_isBlank_1 (by decide) ?_
  refine lv_icmp_eq (tgt := 12) hx hb dX8_isBlank_3 (by decide) (fun hc1 => ?_) (fun hc1 => ?_)
  · have hf := it_p hf hc1
    refine lv_iconst (v := (1 : Int32)) hx hb dX8_isBlank_12 (by decide) ?_
    refine lv_goto (tgt := 17) hx hb dX8_isBlank_13 (by decide) ?_
    obtain rfl := Option.some.inj hf
    subst hQ
    exact ev_zret (v := (1 : Int32)) S hr hlocks hK hZ hM rfl dX8_isBlank_17
  · have hf := it_n hf hc1
    refine lv_iload_n hx hb dX8_isBlank_6 rfl (lv_at hl 0 rfl) ?_
    refine lv_bipush (v := (10 : Int32)) hx hb dX8_isBlank_7 (by decide) ?_
    refine lv_icmp_ne (tgt := 16) hx hb dX8_isBlank_9 (by decide) (fun hc2 => ?_) (fun hc2 => ?_)
    · have hf := it_n hf hc2
      refine lv_iconst (v := (0 : Int32)) hx hb dX8_isBlank_16 (by decide) ?_
      obtain rfl := Option.some.inj hf
      subst hQ
      exact ev_zret (v := (0 : Int32)) S hr hlocks hK hZ hM rfl dX8_isBlank_17
    · have hf := it_p hf hc2
      refine lv_iconst (v := (1 : Int32)) hx hb dX8_isBlank_12 (by decide) ?_
      refine lv_goto (tgt := 17) hx hb dX8_isBlank_13 (by decide) ?_
      obtain rfl := Option.some.inj hf
      subst hQ
      exact ev_zret (v := (1 : Int32)) S hr hlocks hK hZ hM rfl dX8_isBlank_17
noncomputable def fn_X8_isLetter (x0 : Int32) : Option (Int32) := if x0 < (97 : Int32) then (some (0 : Int32)) else (if (122 : Int32) < x0 then (some (0 : Int32)) else (some (1 : Int32)))
abbrev wz_X8_isLetter : List Cond := Cond.code yX8_isLetter cX8_isLetter 1 (some .boolean) :: WA
abbrev rm_X8_isLetter : Room := { frames := 1, cells := 0, slots := 0, locals := 12 }
set_option maxHeartbeats 4000000 in
set_option maxRecDepth 100000 in
theorem c_X8_isLetter (I : Nat → Nat → Int32) (P : Nat → Nat → Option Nat) (x0 : Int32) (res : Int32) (hf : fn_X8_isLetter x0 = some res) : Met l yX8_isLetter wz_X8_isLetter rm_X8_isLetter (va_Pc [.int x0] (mm_B D cs A L K N z w I P)) (va_Qi (fun r (_ : Unit) => r = res) (fun _ => mm_B D cs A L K N z w I P) A) 0 0 A := by
  refine Met.ofW (cc := cX8_isLetter) (maxL := 1) (ret := (some .boolean)) (by decide) rfl ?_
  intro p e s m args below meth c s₁ B hml hv
  obtain ⟨rfl, hBm⟩ := hv
  have hx := B.exec
  have hb := B.bytes
  have hr := B.returns
  have hts := atoms_spec (ws := wz_X8_isLetter) B.pre
  have hWA : ∀ w ∈ WA, w.before ([.int x0] : List Value).toArray s = true := fun u9 h9 => hts u9 (List.mem_cons_of_mem _ h9)
  have hown : s.vm.findClass RX8 = some m.cls := findClass_of_methodNamed B.named
  have hlocks := B.notSynchronized
  have S : CallFix p m c cX8_isLetter 1 s ([.int x0] : List Value).toArray wz_X8_isLetter RX8 := ⟨hx, hb, hml, hown, hts⟩
  have hK := hBm.2.2.2.1
  have hZ := hBm.2.2.2.2
  have hM : mm_W D cs A L K N s.heap I P s.heap [] := ⟨hBm.1, hBm.2.1, hBm.2.2.1, va_S.rf⟩
  have hl := lv_entry ([.int x0]) (n := 1) (Nat.le_of_ble_eq_true rfl)
  rw [lg_entry_eq]
  generalize (lg_sl ([.int x0]) ++ List.replicate (1 - (lg_sl ([.int x0])).length) Slot.unset).toArray = ls at hl ⊢
  have hl : lv_has ls 1 [(0, .int x0)] := hl
  generalize hQ : MQ below (va_Qi (fun r (_ : Unit) => r = res) (fun _ => mm_B D cs A L K N z w I P) A) ([.int x0] : List Value).toArray s 0 0 A = QQ
  unfold fn_X8_isLetter at hf
  refine lv_iload_n hx hb dX8_isLetter_0 rfl (lv_at hl 0 rfl) ?_
  refine lv_bipush (v := (97 : Int32)) hx hb dX8_isLetter_1 (by decide) ?_
  refine lv_icmp_lt (tgt := 16) hx hb dX8_isLetter_3 (by decide) (fun hc1 => ?_) (fun hc1 => ?_)
  · have hf := it_p hf hc1
    refine lv_iconst (v := (0 : Int32)) hx hb dX8_isLetter_16 (by decide) ?_
    obtain rfl := Option.some.inj hf
    subst hQ
    exact ev_zret (v := (0 : Int32)) S hr hlocks hK hZ hM rfl dX8_isLetter_17
  · have hf := it_n hf hc1
    refine lv_iload_n hx hb dX8_isLetter_6 rfl (lv_at hl 0 rfl) ?_
    refine lv_bipush (v := (122 : Int32)) hx hb dX8_isLetter_7 (by decide) ?_
    refine lv_icmp_gt (tgt := 16) hx hb dX8_isLetter_9 (by decide) (fun hc2 => ?_) (fun hc2 => ?_)
    · have hf := it_p hf hc2
      refine lv_iconst (v := (0 : Int32)) hx hb dX8_isLetter_16 (by decide) ?_
      obtain rfl := Option.some.inj hf
      subst hQ
      exact ev_zret (v := (0 : Int32)) S hr hlocks hK hZ hM rfl dX8_isLetter_17
    · have hf := it_n hf hc2
      refine lv_iconst (v := (1 : Int32)) hx hb dX8_isLetter_12 (by decide) ?_
      refine lv_goto (tgt := 17) hx hb dX8_isLetter_13 (by decide) ?_
      obtain rfl := Option.some.inj hf
      subst hQ
      exact ev_zret (v := (1 : Int32)) S hr hlocks hK hZ hM rfl dX8_isLetter_17
noncomputable def fn_X8_isDigit (x0 : Int32) : Option (Int32) := if x0 < (48 : Int32) then (some (0 : Int32)) else (if (57 : Int32) < x0 then (some (0 : Int32)) else (some (1 : Int32)))
abbrev wz_X8_isDigit : List Cond := Cond.code yX8_isDigit cX8_isDigit 1 (some .boolean) :: WA
abbrev rm_X8_isDigit : Room := { frames := 1, cells := 0, slots := 0, locals := 12 }
set_option maxHeartbeats 4000000 in
set_option maxRecDepth 100000 in
theorem c_X8_isDigit (I : Nat → Nat → Int32) (P : Nat → Nat → Option Nat) (x0 : Int32) (res : Int32) (hf : fn_X8_isDigit x0 = some res) : Met l yX8_isDigit wz_X8_isDigit rm_X8_isDigit (va_Pc [.int x0] (mm_B D cs A L K N z w I P)) (va_Qi (fun r (_ : Unit) => r = res) (fun _ => mm_B D cs A L K N z w I P) A) 0 0 A := by
  refine Met.ofW (cc := cX8_isDigit) (maxL := 1) (ret := (some .boolean)) (by decide) rfl ?_
  intro p e s m args below meth c s₁ B hml hv
  obtain ⟨rfl, hBm⟩ := hv
  have hx := B.exec
  have hb := B.bytes
  have hr := B.returns
  have hts := atoms_spec (ws := wz_X8_isDigit) B.pre
  have hWA : ∀ w ∈ WA, w.before ([.int x0] : List Value).toArray s = true := fun u9 h9 => hts u9 (List.mem_cons_of_mem _ h9)
  have hown : s.vm.findClass RX8 = some m.cls := findClass_of_methodNamed B.named
  have hlocks := B.notSynchronized
  have S : CallFix p m c cX8_isDigit 1 s ([.int x0] : List Value).toArray wz_X8_isDigit RX8 := ⟨hx, hb, hml, hown, hts⟩
  have hK := hBm.2.2.2.1
  have hZ := hBm.2.2.2.2
  have hM : mm_W D cs A L K N s.heap I P s.heap [] := ⟨hBm.1, hBm.2.1, hBm.2.2.1, va_S.rf⟩
  have hl := lv_entry ([.int x0]) (n := 1) (Nat.le_of_ble_eq_true rfl)
  rw [lg_entry_eq]
  generalize (lg_sl ([.int x0]) ++ List.replicate (1 - (lg_sl ([.int x0])).length) Slot.unset).toArray = ls at hl ⊢
  have hl : lv_has ls 1 [(0, .int x0)] := hl
  generalize hQ : MQ below (va_Qi (fun r (_ : Unit) => r = res) (fun _ => mm_B D cs A L K N z w I P) A) ([.int x0] : List Value).toArray s 0 0 A = QQ
  unfold fn_X8_isDigit at hf
  refine lv_iload_n hx hb dX8_isDigit_0 rfl (lv_at hl 0 rfl) ?_
  refine lv_bipush (v := (48 : Int32)) hx hb dX8_isDigit_1 (by decide) ?_
  refine lv_icmp_lt (tgt := 16) hx hb dX8_isDigit_3 (by decide) (fun hc1 => ?_) (fun hc1 => ?_)
  · have hf := it_p hf hc1
    refine lv_iconst (v := (0 : Int32)) hx hb dX8_isDigit_16 (by decide) ?_
    obtain rfl := Option.some.inj hf
    subst hQ
    exact ev_zret (v := (0 : Int32)) S hr hlocks hK hZ hM rfl dX8_isDigit_17
  · have hf := it_n hf hc1
    refine lv_iload_n hx hb dX8_isDigit_6 rfl (lv_at hl 0 rfl) ?_
    refine lv_bipush (v := (57 : Int32)) hx hb dX8_isDigit_7 (by decide) ?_
    refine lv_icmp_gt (tgt := 16) hx hb dX8_isDigit_9 (by decide) (fun hc2 => ?_) (fun hc2 => ?_)
    · have hf := it_p hf hc2
      refine lv_iconst (v := (0 : Int32)) hx hb dX8_isDigit_16 (by decide) ?_
      obtain rfl := Option.some.inj hf
      subst hQ
      exact ev_zret (v := (0 : Int32)) S hr hlocks hK hZ hM rfl dX8_isDigit_17
    · have hf := it_n hf hc2
      refine lv_iconst (v := (1 : Int32)) hx hb dX8_isDigit_12 (by decide) ?_
      refine lv_goto (tgt := 17) hx hb dX8_isDigit_13 (by decide) ?_
      obtain rfl := Option.some.inj hf
      subst hQ
      exact ev_zret (v := (1 : Int32)) S hr hlocks hK hZ hM rfl dX8_isDigit_17
noncomputable def fn_X8_nextToken_L8 (K : Nat → Nat) (N : Nat → Nat) (a0 : Nat) (P : Nat → Nat → Option Nat) : Nat → (Nat → Nat → Int32) → Option ((Nat → Nat → Int32))
  | 0, _ => none
  | n + 1, I3 => if (I3 a0 1) ≤ (I3 a0 6) then (some I3) else (Option.bind (P a0 (0)) (fun q6 => gd (K q6 = 12 ∧ vp_in (I3 a0 6) (N q6)) (Option.bind (fn_X8_isBlank (I3 q6 ((I3 a0 6)).toNatClampNeg)) (fun (r8 : Int32) => if r8 = 0 then (some I3) else (Option.bind (some (up2 I3 a0 6 ((I3 a0 6) + (1 : Int32)))) (fun I10 => fn_X8_nextToken_L8 K N a0 P n I10))))))
noncomputable def fn_X8_nextToken_L55 (K : Nat → Nat) (N : Nat → Nat) (a0 : Nat) (P : Nat → Nat → Option Nat) : Nat → (Nat → Nat → Int32) → Option ((Nat → Nat → Int32))
  | 0, _ => none
  | n + 1, I12 => if (I12 a0 1) ≤ (I12 a0 7) then (some I12) else (Option.bind (P a0 (0)) (fun q15 => gd (K q15 = 12 ∧ vp_in (I12 a0 7) (N q15)) (Option.bind (fn_X8_isLetter (I12 q15 ((I12 a0 7)).toNatClampNeg)) (fun (r17 : Int32) => if r17 = 0 then (some I12) else (Option.bind (some (up2 I12 a0 7 ((I12 a0 7) + (1 : Int32)))) (fun I19 => fn_X8_nextToken_L55 K N a0 P n I19))))))
noncomputable def fn_X8_nextToken_L106 (K : Nat → Nat) (N : Nat → Nat) (a0 : Nat) (P : Nat → Nat → Option Nat) : Nat → (Nat → Nat → Int32) → Option ((Nat → Nat → Int32))
  | 0, _ => none
  | n + 1, I21 => if (I21 a0 1) ≤ (I21 a0 7) then (some I21) else (Option.bind (P a0 (0)) (fun q24 => gd (K q24 = 12 ∧ vp_in (I21 a0 7) (N q24)) (Option.bind (fn_X8_isDigit (I21 q24 ((I21 a0 7)).toNatClampNeg)) (fun (r26 : Int32) => if r26 = 0 then (some I21) else (Option.bind (some (up2 I21 a0 7 ((I21 a0 7) + (1 : Int32)))) (fun I28 => fn_X8_nextToken_L106 K N a0 P n I28))))))
noncomputable def fn_X8_nextToken (K N : Nat → Nat) (I : Nat → Nat → Int32) (P : Nat → Nat → Option Nat) (a0 : Nat) : Option ((Nat → Nat → Int32)) := gd (K a0 = 9) (Option.bind (some (up2 I a0 6 (I a0 7))) (fun I2 => Option.bind (fn_X8_nextToken_L8 K N a0 P FU I2) (fun (r4 : (Nat → Nat → Int32)) => Option.bind (some (up2 r4 a0 7 (r4 a0 6))) (fun I11 => Option.bind (fn_X8_nextToken_L55 K N a0 P FU I11) (fun (r13 : (Nat → Nat → Int32)) => if (r13 a0 7) ≤ (r13 a0 6) then (Option.bind (fn_X8_nextToken_L106 K N a0 P FU r13) (fun (r22 : (Nat → Nat → Int32)) => some r22)) else (some r13))))))
abbrev wz_X8_nextToken : List Cond := Cond.code yX8_nextToken cX8_nextToken 1 none :: WA
abbrev rm_X8_nextToken : Room := { frames := 2, cells := 0, slots := 0, locals := 32 }
set_option maxHeartbeats 4000000 in
set_option maxRecDepth 100000 in
theorem c_X8_nextToken (I : Nat → Nat → Int32) (P : Nat → Nat → Option Nat) (a0 : Nat) (res : (Nat → Nat → Int32)) (hf : fn_X8_nextToken K N I P a0 = some res) : Met l yX8_nextToken wz_X8_nextToken rm_X8_nextToken (va_Pc [.ref a0] (mm_B D cs A L K N z w I P)) (va_Qv (fun (_ : Unit) => True) (fun _ => mm_B D cs A L K N z w res P) A) 0 0 A := by
  refine Met.ofW (cc := cX8_nextToken) (maxL := 1) (ret := none) (by decide) rfl ?_
  intro p e s m args below meth c s₁ B hml hv
  obtain ⟨rfl, hBm⟩ := hv
  have hx := B.exec
  have hb := B.bytes
  have hr := B.returns
  have hts := atoms_spec (ws := wz_X8_nextToken) B.pre
  have hWA : ∀ w ∈ WA, w.before ([.ref a0] : List Value).toArray s = true := fun u9 h9 => hts u9 (List.mem_cons_of_mem _ h9)
  have hown : s.vm.findClass RX8 = some m.cls := findClass_of_methodNamed B.named
  have hlocks := B.notSynchronized
  have S : CallFix p m c cX8_nextToken 1 s ([.ref a0] : List Value).toArray wz_X8_nextToken RX8 := ⟨hx, hb, hml, hown, hts⟩
  have hK := hBm.2.2.2.1
  have hZ := hBm.2.2.2.2
  have hM : mm_W D cs A L K N s.heap I P s.heap [] := ⟨hBm.1, hBm.2.1, hBm.2.2.1, va_S.rf⟩
  have hl := lv_entry ([.ref a0]) (n := 1) (Nat.le_of_ble_eq_true rfl)
  rw [lg_entry_eq]
  generalize (lg_sl ([.ref a0]) ++ List.replicate (1 - (lg_sl ([.ref a0])).length) Slot.unset).toArray = ls at hl ⊢
  have hl : lv_has ls 1 [(0, .ref a0)] := hl
  have hin8 : ∀ w ∈ wsX80, w ∈ wz_X8_nextToken := fun w h => List.mem_cons_of_mem _ (wu_X8 w h)
  have lk31 : (Cond.fieldLink RX8 31 RX8 "end" "I").before ([.ref a0] : List Value).toArray s = true := hWA _ wa_1_194
  have lk46 : (Cond.fieldLink RX8 46 RX8 "start" "I").before ([.ref a0] : List Value).toArray s = true := hWA _ wa_1_193
  have lk21 : (Cond.fieldLink RX8 21 RX8 "size" "I").before ([.ref a0] : List Value).toArray s = true := hWA _ wa_1_183
  have lk9 : (Cond.fieldLink RX8 9 RX8 "bytes" "[I").before ([.ref a0] : List Value).toArray s = true := hWA _ wa_1_182
  generalize hQ : MQ below (va_Qv (fun (_ : Unit) => True) (fun _ => mm_B D cs A L K N z w res P) A) ([.ref a0] : List Value).toArray s 0 0 A = QQ
  rw [fn_X8_nextToken] at hf
  refine lv_aload_n hx hb dX8_nextToken_0 rfl (lv_at hl 0 rfl) ?_
  refine lv_aload_n hx hb dX8_nextToken_1 rfl (lv_at hl 0 rfl) ?_
  refine gd_e hf (fun hg1 hf => ?_)
  refine ev_get (v := .int (I a0 7)) S hK hM (ci := 8) (n := 8) (C := RX8) (T := TX8) hin8 rfl hg1 7 (by decide) lk31 rfl rfl rfl dX8_nextToken_2 ?_
  refine ev_put S hK hM (ci := 8) (n := 8) (C := RX8) (T := TX8) hin8 tyX8 tyX8_ok nmX8 rfl hg1 6 (by decide) lk46 rfl rfl rfl rfl rfl (Nat.le_of_ble_eq_true rfl) rfl dX8_nextToken_5 (fun I2 eI2 H locs hM => ?_)
  have hf := nm_x eI2 hf
  have lp8_10 : ∀ (n : Nat) (I3 : Nat → Nat → Int32) (H : Heap) (locs : List Loc) (ls : Array Slot) (r4 : (Nat → Nat → Int32)), mm_W D cs A L K N s.heap I3 P H locs → lv_has ls 1 [(0, .ref a0)] → fn_X8_nextToken_L8 K N a0 P n I3 = some r4 → (∀ (H : Heap) (locs : List Loc) (ls : Array Slot), mm_W D cs A L K N s.heap r4 P H locs → lv_has ls 1 [(0, .ref a0)] → W p l e (headSpec wz_X8_nextToken rm_X8_nextToken).room s m ([.ref a0] : List Value).toArray below meth c H locs 0 0 QQ (F0 m 47 ls [])) → W p l e (headSpec wz_X8_nextToken rm_X8_nextToken).room s m ([.ref a0] : List Value).toArray below meth c H locs 0 0 QQ (F0 m 8 ls []) := by
    intro n
    induction n with
    | zero => intro I3 H locs ls r4 hM hl hf kk; exact nn_x (show (none : Option ((Nat → Nat → Int32))) = some r4 from hf)
    | succ n ih =>
      intro I3 H locs ls r4 hM hl hf kk
      rw [fn_X8_nextToken_L8] at hf
      refine lv_aload_n hx hb dX8_nextToken_8 rfl (lv_at hl 0 rfl) ?_
      refine ev_get (v := .int (I3 a0 6)) S hK hM (ci := 8) (n := 8) (C := RX8) (T := TX8) hin8 rfl hg1 6 (by decide) lk46 rfl rfl rfl dX8_nextToken_9 ?_
      refine lv_aload_n hx hb dX8_nextToken_12 rfl (lv_at hl 0 rfl) ?_
      refine ev_get (v := .int (I3 a0 1)) S hK hM (ci := 8) (n := 8) (C := RX8) (T := TX8) hin8 rfl hg1 1 (by decide) lk21 rfl rfl rfl dX8_nextToken_13 ?_
      refine lv_icmp_ge (tgt := 47) hx hb dX8_nextToken_16 (by decide) (fun hc5 => ?_) (fun hc5 => ?_)
      · have hf := it_p hf hc5
        obtain rfl := Option.some.inj hf
        exact kk _ _ _ hM (hl)
      · have hf := it_n hf hc5
        refine lv_aload_n hx hb dX8_nextToken_19 rfl (lv_at hl 0 rfl) ?_
        refine bd_e hf (fun q6 eq6 hf => ?_)
        refine ev_getP (v := q6) S hK hM (ci := 8) (n := 8) (C := RX8) (T := TX8) hin8 rfl hg1 0 (by decide) lk9 rfl rfl eq6 rfl dX8_nextToken_20 ?_
        refine lv_aload_n hx hb dX8_nextToken_23 rfl (lv_at hl 0 rfl) ?_
        refine ev_get (v := .int (I3 a0 6)) S hK hM (ci := 8) (n := 8) (C := RX8) (T := TX8) hin8 rfl hg1 6 (by decide) lk46 rfl rfl rfl dX8_nextToken_24 ?_
        refine gd_e hf (fun hg7 hf => ?_)
        refine ev_iald S hK hM hg7 (j := ((I3 a0 6)).toNatClampNeg) rfl dX8_nextToken_27 ?_
        refine bd_e hf (fun r8 er8 hf => ?_)
        refine ev_calli (va_runS (As := [.int (I3 q6 ((I3 a0 6)).toNatClampNeg)]) (rest := []) S (c_X8_isBlank (l := l) I3 P (I3 q6 ((I3 a0 6)).toNatClampNeg) r8 er8) (va_cwS 1 hts (gi_s wa_2_214 wa_2_215 wa_1_8 wa_2_216) rfl rfl rfl (by decide +kernel) ⟨Nat.le_of_ble_eq_true rfl, Nat.le_of_ble_eq_true rfl⟩) ⟨mm_B_blind, fun U hU hW => ⟨rfl, mm_B_of hK hZ hM hU hW⟩⟩ rfl rfl hl.1 rfl (lv_room (Nat.le_of_ble_eq_true rfl)) dX8_nextToken_28 ⟨Nat.zero_le _, Nat.zero_le _⟩) hM (fun H locs hM => ?_)
        refine lv_if_eq (tgt := 47) hx hb dX8_nextToken_31 (by decide) (fun hc9 => ?_) (fun hc9 => ?_)
        · have hf := it_p hf hc9
          obtain rfl := Option.some.inj hf
          exact kk _ _ _ hM (hl)
        · have hf := it_n hf hc9
          refine lv_aload_n hx hb dX8_nextToken_34 rfl (lv_at hl 0 rfl) ?_
          refine lv_dup hx hb dX8_nextToken_35 rfl ?_
          refine ev_get (v := .int (I3 a0 6)) S hK hM (ci := 8) (n := 8) (C := RX8) (T := TX8) hin8 rfl hg1 6 (by decide) lk46 rfl rfl rfl dX8_nextToken_36 ?_
          refine lv_iconst (v := (1 : Int32)) hx hb dX8_nextToken_39 (by decide) ?_
          refine lv_iadd hx hb dX8_nextToken_40 ?_
          refine ev_put S hK hM (ci := 8) (n := 8) (C := RX8) (T := TX8) hin8 tyX8 tyX8_ok nmX8 rfl hg1 6 (by decide) lk46 rfl rfl rfl rfl rfl (Nat.le_of_ble_eq_true rfl) rfl dX8_nextToken_41 (fun I10 eI10 H locs hM => ?_)
          have hf := nm_x eI10 hf
          refine lv_goto (tgt := 8) hx hb dX8_nextToken_44 (by decide) ?_
          exact ih I10 _ _ _ _ hM (hl) hf kk
  refine bd_e hf (fun r4 er4 hf => ?_)
  refine lp8_10 FU I2 _ _ _ r4 hM (hl) er4 (fun H locs ls hM hl => ?_)
  refine lv_aload_n hx hb dX8_nextToken_47 rfl (lv_at hl 0 rfl) ?_
  refine lv_aload_n hx hb dX8_nextToken_48 rfl (lv_at hl 0 rfl) ?_
  refine ev_get (v := .int (r4 a0 6)) S hK hM (ci := 8) (n := 8) (C := RX8) (T := TX8) hin8 rfl hg1 6 (by decide) lk46 rfl rfl rfl dX8_nextToken_49 ?_
  refine ev_put S hK hM (ci := 8) (n := 8) (C := RX8) (T := TX8) hin8 tyX8 tyX8_ok nmX8 rfl hg1 7 (by decide) lk31 rfl rfl rfl rfl rfl (Nat.le_of_ble_eq_true rfl) rfl dX8_nextToken_52 (fun I11 eI11 H locs hM => ?_)
  have hf := nm_x eI11 hf
  have lp55_19 : ∀ (n : Nat) (I12 : Nat → Nat → Int32) (H : Heap) (locs : List Loc) (ls : Array Slot) (r13 : (Nat → Nat → Int32)), mm_W D cs A L K N s.heap I12 P H locs → lv_has ls 1 [(0, .ref a0)] → fn_X8_nextToken_L55 K N a0 P n I12 = some r13 → (∀ (H : Heap) (locs : List Loc) (ls : Array Slot), mm_W D cs A L K N s.heap r13 P H locs → lv_has ls 1 [(0, .ref a0)] → W p l e (headSpec wz_X8_nextToken rm_X8_nextToken).room s m ([.ref a0] : List Value).toArray below meth c H locs 0 0 QQ (F0 m 94 ls [])) → W p l e (headSpec wz_X8_nextToken rm_X8_nextToken).room s m ([.ref a0] : List Value).toArray below meth c H locs 0 0 QQ (F0 m 55 ls []) := by
    intro n
    induction n with
    | zero => intro I12 H locs ls r13 hM hl hf kk; exact nn_x (show (none : Option ((Nat → Nat → Int32))) = some r13 from hf)
    | succ n ih =>
      intro I12 H locs ls r13 hM hl hf kk
      rw [fn_X8_nextToken_L55] at hf
      refine lv_aload_n hx hb dX8_nextToken_55 rfl (lv_at hl 0 rfl) ?_
      refine ev_get (v := .int (I12 a0 7)) S hK hM (ci := 8) (n := 8) (C := RX8) (T := TX8) hin8 rfl hg1 7 (by decide) lk31 rfl rfl rfl dX8_nextToken_56 ?_
      refine lv_aload_n hx hb dX8_nextToken_59 rfl (lv_at hl 0 rfl) ?_
      refine ev_get (v := .int (I12 a0 1)) S hK hM (ci := 8) (n := 8) (C := RX8) (T := TX8) hin8 rfl hg1 1 (by decide) lk21 rfl rfl rfl dX8_nextToken_60 ?_
      refine lv_icmp_ge (tgt := 94) hx hb dX8_nextToken_63 (by decide) (fun hc14 => ?_) (fun hc14 => ?_)
      · have hf := it_p hf hc14
        obtain rfl := Option.some.inj hf
        exact kk _ _ _ hM (hl)
      · have hf := it_n hf hc14
        refine lv_aload_n hx hb dX8_nextToken_66 rfl (lv_at hl 0 rfl) ?_
        refine bd_e hf (fun q15 eq15 hf => ?_)
        refine ev_getP (v := q15) S hK hM (ci := 8) (n := 8) (C := RX8) (T := TX8) hin8 rfl hg1 0 (by decide) lk9 rfl rfl eq15 rfl dX8_nextToken_67 ?_
        refine lv_aload_n hx hb dX8_nextToken_70 rfl (lv_at hl 0 rfl) ?_
        refine ev_get (v := .int (I12 a0 7)) S hK hM (ci := 8) (n := 8) (C := RX8) (T := TX8) hin8 rfl hg1 7 (by decide) lk31 rfl rfl rfl dX8_nextToken_71 ?_
        refine gd_e hf (fun hg16 hf => ?_)
        refine ev_iald S hK hM hg16 (j := ((I12 a0 7)).toNatClampNeg) rfl dX8_nextToken_74 ?_
        refine bd_e hf (fun r17 er17 hf => ?_)
        refine ev_calli (va_runS (As := [.int (I12 q15 ((I12 a0 7)).toNatClampNeg)]) (rest := []) S (c_X8_isLetter (l := l) I12 P (I12 q15 ((I12 a0 7)).toNatClampNeg) r17 er17) (va_cwS 1 hts (gi_s wa_2_217 wa_2_218 wa_1_8 wa_2_219) rfl rfl rfl (by decide +kernel) ⟨Nat.le_of_ble_eq_true rfl, Nat.le_of_ble_eq_true rfl⟩) ⟨mm_B_blind, fun U hU hW => ⟨rfl, mm_B_of hK hZ hM hU hW⟩⟩ rfl rfl hl.1 rfl (lv_room (Nat.le_of_ble_eq_true rfl)) dX8_nextToken_75 ⟨Nat.zero_le _, Nat.zero_le _⟩) hM (fun H locs hM => ?_)
        refine lv_if_eq (tgt := 94) hx hb dX8_nextToken_78 (by decide) (fun hc18 => ?_) (fun hc18 => ?_)
        · have hf := it_p hf hc18
          obtain rfl := Option.some.inj hf
          exact kk _ _ _ hM (hl)
        · have hf := it_n hf hc18
          refine lv_aload_n hx hb dX8_nextToken_81 rfl (lv_at hl 0 rfl) ?_
          refine lv_dup hx hb dX8_nextToken_82 rfl ?_
          refine ev_get (v := .int (I12 a0 7)) S hK hM (ci := 8) (n := 8) (C := RX8) (T := TX8) hin8 rfl hg1 7 (by decide) lk31 rfl rfl rfl dX8_nextToken_83 ?_
          refine lv_iconst (v := (1 : Int32)) hx hb dX8_nextToken_86 (by decide) ?_
          refine lv_iadd hx hb dX8_nextToken_87 ?_
          refine ev_put S hK hM (ci := 8) (n := 8) (C := RX8) (T := TX8) hin8 tyX8 tyX8_ok nmX8 rfl hg1 7 (by decide) lk31 rfl rfl rfl rfl rfl (Nat.le_of_ble_eq_true rfl) rfl dX8_nextToken_88 (fun I19 eI19 H locs hM => ?_)
          have hf := nm_x eI19 hf
          refine lv_goto (tgt := 55) hx hb dX8_nextToken_91 (by decide) ?_
          exact ih I19 _ _ _ _ hM (hl) hf kk
  refine bd_e hf (fun r13 er13 hf => ?_)
  refine lp55_19 FU I11 _ _ _ r13 hM (hl) er13 (fun H locs ls hM hl => ?_)
  refine lv_aload_n hx hb dX8_nextToken_94 rfl (lv_at hl 0 rfl) ?_
  refine ev_get (v := .int (r13 a0 7)) S hK hM (ci := 8) (n := 8) (C := RX8) (T := TX8) hin8 rfl hg1 7 (by decide) lk31 rfl rfl rfl dX8_nextToken_95 ?_
  refine lv_aload_n hx hb dX8_nextToken_98 rfl (lv_at hl 0 rfl) ?_
  refine ev_get (v := .int (r13 a0 6)) S hK hM (ci := 8) (n := 8) (C := RX8) (T := TX8) hin8 rfl hg1 6 (by decide) lk46 rfl rfl rfl dX8_nextToken_99 ?_
  refine lv_icmp_le (tgt := 106) hx hb dX8_nextToken_102 (by decide) (fun hc20 => ?_) (fun hc20 => ?_)
  · have hf := it_p hf hc20
    have lp106_28 : ∀ (n : Nat) (I21 : Nat → Nat → Int32) (H : Heap) (locs : List Loc) (ls : Array Slot) (r22 : (Nat → Nat → Int32)), mm_W D cs A L K N s.heap I21 P H locs → lv_has ls 1 [(0, .ref a0)] → fn_X8_nextToken_L106 K N a0 P n I21 = some r22 → (∀ (H : Heap) (locs : List Loc) (ls : Array Slot), mm_W D cs A L K N s.heap r22 P H locs → lv_has ls 1 [] → W p l e (headSpec wz_X8_nextToken rm_X8_nextToken).room s m ([.ref a0] : List Value).toArray below meth c H locs 0 0 QQ (F0 m 145 ls [])) → W p l e (headSpec wz_X8_nextToken rm_X8_nextToken).room s m ([.ref a0] : List Value).toArray below meth c H locs 0 0 QQ (F0 m 106 ls []) := by
      intro n
      induction n with
      | zero => intro I21 H locs ls r22 hM hl hf kk; exact nn_x (show (none : Option ((Nat → Nat → Int32))) = some r22 from hf)
      | succ n ih =>
        intro I21 H locs ls r22 hM hl hf kk
        rw [fn_X8_nextToken_L106] at hf
        refine lv_aload_n hx hb dX8_nextToken_106 rfl (lv_at hl 0 rfl) ?_
        refine ev_get (v := .int (I21 a0 7)) S hK hM (ci := 8) (n := 8) (C := RX8) (T := TX8) hin8 rfl hg1 7 (by decide) lk31 rfl rfl rfl dX8_nextToken_107 ?_
        refine lv_aload_n hx hb dX8_nextToken_110 rfl (lv_at hl 0 rfl) ?_
        refine ev_get (v := .int (I21 a0 1)) S hK hM (ci := 8) (n := 8) (C := RX8) (T := TX8) hin8 rfl hg1 1 (by decide) lk21 rfl rfl rfl dX8_nextToken_111 ?_
        refine lv_icmp_ge (tgt := 145) hx hb dX8_nextToken_114 (by decide) (fun hc23 => ?_) (fun hc23 => ?_)
        · have hf := it_p hf hc23
          obtain rfl := Option.some.inj hf
          exact kk _ _ _ hM (lv_sub hl [] rfl)
        · have hf := it_n hf hc23
          refine lv_aload_n hx hb dX8_nextToken_117 rfl (lv_at hl 0 rfl) ?_
          refine bd_e hf (fun q24 eq24 hf => ?_)
          refine ev_getP (v := q24) S hK hM (ci := 8) (n := 8) (C := RX8) (T := TX8) hin8 rfl hg1 0 (by decide) lk9 rfl rfl eq24 rfl dX8_nextToken_118 ?_
          refine lv_aload_n hx hb dX8_nextToken_121 rfl (lv_at hl 0 rfl) ?_
          refine ev_get (v := .int (I21 a0 7)) S hK hM (ci := 8) (n := 8) (C := RX8) (T := TX8) hin8 rfl hg1 7 (by decide) lk31 rfl rfl rfl dX8_nextToken_122 ?_
          refine gd_e hf (fun hg25 hf => ?_)
          refine ev_iald S hK hM hg25 (j := ((I21 a0 7)).toNatClampNeg) rfl dX8_nextToken_125 ?_
          refine bd_e hf (fun r26 er26 hf => ?_)
          refine ev_calli (va_runS (As := [.int (I21 q24 ((I21 a0 7)).toNatClampNeg)]) (rest := []) S (c_X8_isDigit (l := l) I21 P (I21 q24 ((I21 a0 7)).toNatClampNeg) r26 er26) (va_cwS 1 hts (gi_s wa_2_220 wa_2_221 wa_1_8 wa_2_222) rfl rfl rfl (by decide +kernel) ⟨Nat.le_of_ble_eq_true rfl, Nat.le_of_ble_eq_true rfl⟩) ⟨mm_B_blind, fun U hU hW => ⟨rfl, mm_B_of hK hZ hM hU hW⟩⟩ rfl rfl hl.1 rfl (lv_room (Nat.le_of_ble_eq_true rfl)) dX8_nextToken_126 ⟨Nat.zero_le _, Nat.zero_le _⟩) hM (fun H locs hM => ?_)
          refine lv_if_eq (tgt := 145) hx hb dX8_nextToken_129 (by decide) (fun hc27 => ?_) (fun hc27 => ?_)
          · have hf := it_p hf hc27
            obtain rfl := Option.some.inj hf
            exact kk _ _ _ hM (lv_sub hl [] rfl)
          · have hf := it_n hf hc27
            refine lv_aload_n hx hb dX8_nextToken_132 rfl (lv_at hl 0 rfl) ?_
            refine lv_dup hx hb dX8_nextToken_133 rfl ?_
            refine ev_get (v := .int (I21 a0 7)) S hK hM (ci := 8) (n := 8) (C := RX8) (T := TX8) hin8 rfl hg1 7 (by decide) lk31 rfl rfl rfl dX8_nextToken_134 ?_
            refine lv_iconst (v := (1 : Int32)) hx hb dX8_nextToken_137 (by decide) ?_
            refine lv_iadd hx hb dX8_nextToken_138 ?_
            refine ev_put S hK hM (ci := 8) (n := 8) (C := RX8) (T := TX8) hin8 tyX8 tyX8_ok nmX8 rfl hg1 7 (by decide) lk31 rfl rfl rfl rfl rfl (Nat.le_of_ble_eq_true rfl) rfl dX8_nextToken_139 (fun I28 eI28 H locs hM => ?_)
            have hf := nm_x eI28 hf
            refine lv_goto (tgt := 106) hx hb dX8_nextToken_142 (by decide) ?_
            exact ih I28 _ _ _ _ hM (hl) hf kk
    refine bd_e hf (fun r22 er22 hf => ?_)
    refine lp106_28 FU r13 _ _ _ r22 hM (hl) er22 (fun H locs ls hM hl => ?_)
    obtain rfl := Option.some.inj hf
    subst hQ
    exact ev_vret S hr hlocks hK hZ hM dX8_nextToken_145
  · have hf := it_n hf hc20
    obtain rfl := Option.some.inj hf
    subst hQ
    exact ev_vret S hr hlocks hK hZ hM dX8_nextToken_105
noncomputable def fn_X8_isWord_L34 (K : Nat → Nat) (N : Nat → Nat) (a0 : Nat) (w1 : Nat) (I : Nat → Nat → Int32) (P : Nat → Nat → Option Nat) : Nat → Int32 → Option ((Int32) ⊕ (Unit))
  | 0, _ => none
  | n + 1, v7 => if (I a0 7) ≤ v7 then (some (Sum.inr ())) else (Option.bind (P a0 (0)) (fun q11 => gd (K q11 = 12 ∧ vp_in v7 (N q11)) (Option.bind (fn_J0_charAt_5068e w1 (v7 - (I a0 6))) (fun (r13 : Int32) => if (I q11 (v7.toNatClampNeg)) = r13 then (fn_X8_isWord_L34 K N a0 w1 I P n (v7 + (1 : Int32))) else (some (Sum.inl (0 : Int32)))))))
noncomputable def fn_X8_isWord (K N : Nat → Nat) (I : Nat → Nat → Int32) (P : Nat → Nat → Option Nat) (a0 : Nat) (w1 : Nat) : Option (Int32) := gd (K a0 = 9) (Option.bind (fn_J0_length_8abf5 w1) (fun (r2 : Int32) => gd (w1 < 10) (if ((I a0 7) - (I a0 6)) = r2 then (if (I a0 7) ≤ (I a0 1) then (Option.bind (some (I a0 6)) (fun v6 => Option.bind (fn_X8_isWord_L34 K N a0 w1 I P FU v6) (fun (r8 : (Int32) ⊕ (Unit)) => Sum.elim (fun t => some t) (fun (xx9 : Unit) => some (1 : Int32)) r8))) else (some (0 : Int32))) else (some (0 : Int32)))))
abbrev wz_X8_isWord : List Cond := Cond.code yX8_isWord cX8_isWord 3 (some .boolean) :: WA
abbrev rm_X8_isWord : Room := { frames := 5, cells := 0, slots := 0, locals := 97 }
set_option maxHeartbeats 4000000 in
set_option maxRecDepth 100000 in
theorem c_X8_isWord (I : Nat → Nat → Int32) (P : Nat → Nat → Option Nat) (a0 : Nat) (w1 : Nat) (res : Int32) (hf : fn_X8_isWord K N I P a0 w1 = some res) : Met l yX8_isWord wz_X8_isWord rm_X8_isWord (va_Pc [.ref a0, .ref (z (10 + w1))] (mm_B D cs A L K N z w I P)) (va_Qi (fun r (_ : Unit) => r = res) (fun _ => mm_B D cs A L K N z w I P) A) 0 0 A := by
  refine Met.ofW (cc := cX8_isWord) (maxL := 3) (ret := (some .boolean)) (by decide) rfl ?_
  intro p e s m args below meth c s₁ B hml hv
  obtain ⟨rfl, hBm⟩ := hv
  have hx := B.exec
  have hb := B.bytes
  have hr := B.returns
  have hts := atoms_spec (ws := wz_X8_isWord) B.pre
  have hWA : ∀ w ∈ WA, w.before ([.ref a0, .ref (z (10 + w1))] : List Value).toArray s = true := fun u9 h9 => hts u9 (List.mem_cons_of_mem _ h9)
  have hown : s.vm.findClass RX8 = some m.cls := findClass_of_methodNamed B.named
  have hlocks := B.notSynchronized
  have S : CallFix p m c cX8_isWord 3 s ([.ref a0, .ref (z (10 + w1))] : List Value).toArray wz_X8_isWord RX8 := ⟨hx, hb, hml, hown, hts⟩
  have hK := hBm.2.2.2.1
  have hZ := hBm.2.2.2.2
  have hM : mm_W D cs A L K N s.heap I P s.heap [] := ⟨hBm.1, hBm.2.1, hBm.2.2.1, va_S.rf⟩
  have hl := lv_entry ([.ref a0, .ref (z (10 + w1))]) (n := 3) (Nat.le_of_ble_eq_true rfl)
  rw [lg_entry_eq]
  generalize (lg_sl ([.ref a0, .ref (z (10 + w1))]) ++ List.replicate (3 - (lg_sl ([.ref a0, .ref (z (10 + w1))])).length) Slot.unset).toArray = ls at hl ⊢
  have hl : lv_has ls 3 [(0, .ref a0), (1, .ref (z (10 + w1)))] := hl
  have hin8 : ∀ w ∈ wsX80, w ∈ wz_X8_isWord := fun w h => List.mem_cons_of_mem _ (wu_X8 w h)
  have lk31 : (Cond.fieldLink RX8 31 RX8 "end" "I").before ([.ref a0, .ref (z (10 + w1))] : List Value).toArray s = true := hWA _ wa_1_194
  have lk46 : (Cond.fieldLink RX8 46 RX8 "start" "I").before ([.ref a0, .ref (z (10 + w1))] : List Value).toArray s = true := hWA _ wa_1_193
  have lk21 : (Cond.fieldLink RX8 21 RX8 "size" "I").before ([.ref a0, .ref (z (10 + w1))] : List Value).toArray s = true := hWA _ wa_1_183
  have lk9 : (Cond.fieldLink RX8 9 RX8 "bytes" "[I").before ([.ref a0, .ref (z (10 + w1))] : List Value).toArray s = true := hWA _ wa_1_182
  generalize hQ : MQ below (va_Qi (fun r (_ : Unit) => r = res) (fun _ => mm_B D cs A L K N z w I P) A) ([.ref a0, .ref (z (10 + w1))] : List Value).toArray s 0 0 A = QQ
  rw [fn_X8_isWord] at hf
  refine lv_aload_n hx hb dX8_isWord_0 rfl (lv_at hl 0 rfl) ?_
  refine gd_e hf (fun hg1 hf => ?_)
  refine ev_get (v := .int (I a0 7)) S hK hM (ci := 8) (n := 8) (C := RX8) (T := TX8) hin8 rfl hg1 7 (by decide) lk31 rfl rfl rfl dX8_isWord_1 ?_
  refine lv_aload_n hx hb dX8_isWord_4 rfl (lv_at hl 0 rfl) ?_
  refine ev_get (v := .int (I a0 6)) S hK hM (ci := 8) (n := 8) (C := RX8) (T := TX8) hin8 rfl hg1 6 (by decide) lk46 rfl rfl rfl dX8_isWord_5 ?_
  refine lv_isub hx hb dX8_isWord_8 ?_
  refine lv_aload_n hx hb dX8_isWord_9 rfl (lv_at hl 1 rfl) ?_
  refine bd_e hf (fun r2 er2 hf => ?_)
  refine gd_e hf (fun hg3 hf => ?_)
  refine ev_calli (va_runV (As := []) (rest := [.int ((I a0 7) - (I a0 6))]) S (c_J0_length_8abf5 (l := l) I P w1 r2 er2) (cwV 0 hts (gi_v wa_2_228 wa_2_229 wa_2_230 wa_1_14 wa_2_231) rfl rfl rfl (by decide +kernel) ⟨Nat.le_of_ble_eq_true rfl, Nat.le_of_ble_eq_true rfl⟩) ⟨mm_B_blind, ev_recvT hZ hM hg3, fun U hU hW => ⟨rfl, mm_B_of hK hZ hM hU hW⟩⟩ rfl rfl hl.1 rfl (lv_room (Nat.le_of_ble_eq_true rfl)) dX8_isWord_10 ⟨Nat.zero_le _, Nat.zero_le _⟩) hM (fun H locs hM => ?_)
  refine lv_icmp_ne (tgt := 27) hx hb dX8_isWord_13 (by decide) (fun hc4 => ?_) (fun hc4 => ?_)
  · have hf := it_n hf hc4
    refine lv_iconst (v := (0 : Int32)) hx hb dX8_isWord_27 (by decide) ?_
    obtain rfl := Option.some.inj hf
    subst hQ
    exact ev_zret (v := (0 : Int32)) S hr hlocks hK hZ hM rfl dX8_isWord_28
  · have hf := it_p hf hc4
    refine lv_aload_n hx hb dX8_isWord_16 rfl (lv_at hl 0 rfl) ?_
    refine ev_get (v := .int (I a0 7)) S hK hM (ci := 8) (n := 8) (C := RX8) (T := TX8) hin8 rfl hg1 7 (by decide) lk31 rfl rfl rfl dX8_isWord_17 ?_
    refine lv_aload_n hx hb dX8_isWord_20 rfl (lv_at hl 0 rfl) ?_
    refine ev_get (v := .int (I a0 1)) S hK hM (ci := 8) (n := 8) (C := RX8) (T := TX8) hin8 rfl hg1 1 (by decide) lk21 rfl rfl rfl dX8_isWord_21 ?_
    refine lv_icmp_le (tgt := 29) hx hb dX8_isWord_24 (by decide) (fun hc5 => ?_) (fun hc5 => ?_)
    · have hf := it_p hf hc5
      refine lv_aload_n hx hb dX8_isWord_29 rfl (lv_at hl 0 rfl) ?_
      refine ev_get (v := .int (I a0 6)) S hK hM (ci := 8) (n := 8) (C := RX8) (T := TX8) hin8 rfl hg1 6 (by decide) lk46 rfl rfl rfl dX8_isWord_30 ?_
      refine lv_topi (fun v6 ev6 => ?_)
      have hf := nm_x ev6 hf
      refine lv_istore_n (lv' := [(2, .int v6), (0, .ref a0), (1, .ref (z (10 + w1)))]) hx hb dX8_isWord_33 rfl hl (by decide) rfl (fun ls hl => ?_)
      have lp34_14 : ∀ (n : Nat) (v7 : Int32) (H : Heap) (locs : List Loc) (ls : Array Slot) (r8 : (Int32) ⊕ (Unit)), mm_W D cs A L K N s.heap I P H locs → lv_has ls 3 [(0, .ref a0), (1, .ref (z (10 + w1))), (2, .int v7)] → fn_X8_isWord_L34 K N a0 w1 I P n v7 = some r8 → (∀ xx9 : Unit, r8 = Sum.inr xx9 → ∀ (H : Heap) (locs : List Loc) (ls : Array Slot), mm_W D cs A L K N s.heap I P H locs → lv_has ls 3 [] → W p l e (headSpec wz_X8_isWord rm_X8_isWord).room s m ([.ref a0, .ref (z (10 + w1))] : List Value).toArray below meth c H locs 0 0 QQ (F0 m 69 ls [])) → (∀ t : Int32, r8 = Sum.inl t → t = res) → W p l e (headSpec wz_X8_isWord rm_X8_isWord).room s m ([.ref a0, .ref (z (10 + w1))] : List Value).toArray below meth c H locs 0 0 QQ (F0 m 34 ls []) := by
        intro n
        induction n with
        | zero => intro v7 H locs ls r8 hM hl hf kk kr; exact nn_x (show (none : Option ((Int32) ⊕ (Unit))) = some r8 from hf)
        | succ n ih =>
          intro v7 H locs ls r8 hM hl hf kk kr
          rw [fn_X8_isWord_L34] at hf
          refine lv_iload_n hx hb dX8_isWord_34 rfl (lv_at hl 2 rfl) ?_
          refine lv_aload_n hx hb dX8_isWord_35 rfl (lv_at hl 0 rfl) ?_
          refine ev_get (v := .int (I a0 7)) S hK hM (ci := 8) (n := 8) (C := RX8) (T := TX8) hin8 rfl hg1 7 (by decide) lk31 rfl rfl rfl dX8_isWord_36 ?_
          refine lv_icmp_ge (tgt := 69) hx hb dX8_isWord_39 (by decide) (fun hc10 => ?_) (fun hc10 => ?_)
          · have hf := it_p hf hc10
            exact kk _ (Option.some.inj hf).symm _ _ _ hM (lv_sub hl [] rfl)
          · have hf := it_n hf hc10
            refine lv_aload_n hx hb dX8_isWord_42 rfl (lv_at hl 0 rfl) ?_
            refine bd_e hf (fun q11 eq11 hf => ?_)
            refine ev_getP (v := q11) S hK hM (ci := 8) (n := 8) (C := RX8) (T := TX8) hin8 rfl hg1 0 (by decide) lk9 rfl rfl eq11 rfl dX8_isWord_43 ?_
            refine lv_iload_n hx hb dX8_isWord_46 rfl (lv_at hl 2 rfl) ?_
            refine gd_e hf (fun hg12 hf => ?_)
            refine ev_iald S hK hM hg12 (j := v7.toNatClampNeg) rfl dX8_isWord_47 ?_
            refine lv_aload_n hx hb dX8_isWord_48 rfl (lv_at hl 1 rfl) ?_
            refine lv_iload_n hx hb dX8_isWord_49 rfl (lv_at hl 2 rfl) ?_
            refine lv_aload_n hx hb dX8_isWord_50 rfl (lv_at hl 0 rfl) ?_
            refine ev_get (v := .int (I a0 6)) S hK hM (ci := 8) (n := 8) (C := RX8) (T := TX8) hin8 rfl hg1 6 (by decide) lk46 rfl rfl rfl dX8_isWord_51 ?_
            refine lv_isub hx hb dX8_isWord_54 ?_
            refine bd_e hf (fun r13 er13 hf => ?_)
            refine ev_calli (va_runV (As := [.int (v7 - (I a0 6))]) (rest := [.int (I q11 (v7.toNatClampNeg))]) S (c_J0_charAt_5068e (l := l) I P w1 (v7 - (I a0 6)) r13 er13) (cwV 1 hts (gi_v wa_2_238 wa_2_239 wa_3_0 wa_1_14 wa_3_1) rfl rfl rfl (by decide +kernel) ⟨Nat.le_of_ble_eq_true rfl, Nat.le_of_ble_eq_true rfl⟩) ⟨mm_B_blind, ev_recvT hZ hM hg3, fun U hU hW => ⟨rfl, mm_B_of hK hZ hM hU hW⟩⟩ rfl rfl hl.1 rfl (lv_room (Nat.le_of_ble_eq_true rfl)) dX8_isWord_55 ⟨Nat.zero_le _, Nat.zero_le _⟩) hM (fun H locs hM => ?_)
            refine lv_icmp_eq (tgt := 63) hx hb dX8_isWord_58 (by decide) (fun hc14 => ?_) (fun hc14 => ?_)
            · have hf := it_p hf hc14
              refine lv_iinc (v := (v7 + (1 : Int32))) (lv' := [(2, .int (v7 + (1 : Int32))), (0, .ref a0), (1, .ref (z (10 + w1)))]) hx hb dX8_isWord_63 hl (k := 2) rfl rfl (by decide) rfl (fun ls hl => ?_)
              refine lv_goto (tgt := 34) hx hb dX8_isWord_66 (by decide) ?_
              exact ih (v7 + (1 : Int32)) _ _ _ _ hM (lv_sub hl [1, 2, 0] rfl) hf kk kr
            · have hf := it_n hf hc14
              refine lv_iconst (v := (0 : Int32)) hx hb dX8_isWord_61 (by decide) ?_
              have hrr := kr _ (Option.some.inj hf).symm
              subst hrr
              subst hQ
              exact ev_zret (v := (0 : Int32)) S hr hlocks hK hZ hM rfl dX8_isWord_62
      refine bd_e hf (fun r8 er8 hf => ?_)
      refine lp34_14 FU v6 _ _ _ r8 hM (lv_sub hl [1, 2, 0] rfl) er8 (fun xx9 exxx9 H locs ls hM hl => ?_) (fun t ht => by subst ht; exact Option.some.inj hf)
      subst exxx9
      have hf := sm_r hf
      refine lv_iconst (v := (1 : Int32)) hx hb dX8_isWord_69 (by decide) ?_
      obtain rfl := Option.some.inj hf
      subst hQ
      exact ev_zret (v := (1 : Int32)) S hr hlocks hK hZ hM rfl dX8_isWord_70
    · have hf := it_n hf hc5
      refine lv_iconst (v := (0 : Int32)) hx hb dX8_isWord_27 (by decide) ?_
      obtain rfl := Option.some.inj hf
      subst hQ
      exact ev_zret (v := (0 : Int32)) S hr hlocks hK hZ hM rfl dX8_isWord_28
noncomputable def fn_X8_tokenNumber_L61 (K : Nat → Nat) (N : Nat → Nat) (a0 : Nat) (I : Nat → Nat → Int32) (q5 : Nat) : Nat → Int32 → Int32 → Option (Int32)
  | 0, _, _ => none
  | n + 1, v10, v11 => if (I a0 7) ≤ v11 then (some v10) else (gd (K q5 = 12 ∧ vp_in v11 (N q5)) (Option.bind (some ((((10 : Int32) * v10) + (I q5 (v11.toNatClampNeg))) - (48 : Int32))) (fun v15 => fn_X8_tokenNumber_L61 K N a0 I q5 n v15 (v11 + (1 : Int32)))))
noncomputable def fn_X8_tokenNumber (K N : Nat → Nat) (I : Nat → Nat → Int32) (P : Nat → Nat → Option Nat) (a0 : Nat) : Option (Int32) := gd (K a0 = 9) (if ((I a0 7) - (I a0 6)) < (1 : Int32) then (some (-1 : Int32)) else (if (2 : Int32) < ((I a0 7) - (I a0 6)) then (some (-1 : Int32)) else (if (I a0 1) < (I a0 7) then (some (-1 : Int32)) else (Option.bind (P a0 (0)) (fun q5 => gd (K q5 = 12 ∧ vp_in (I a0 6) (N q5)) (Option.bind (fn_X8_isDigit (I q5 ((I a0 6)).toNatClampNeg)) (fun (r7 : Int32) => if r7 = 0 then (some (-1 : Int32)) else (Option.bind (some (I a0 6)) (fun v9 => Option.bind (fn_X8_tokenNumber_L61 K N a0 I q5 FU (0 : Int32) v9) (fun (r12 : Int32) => some r12))))))))))
abbrev wz_X8_tokenNumber : List Cond := Cond.code yX8_tokenNumber cX8_tokenNumber 3 (some .int) :: WA
abbrev rm_X8_tokenNumber : Room := { frames := 2, cells := 0, slots := 0, locals := 32 }
set_option maxHeartbeats 4000000 in
set_option maxRecDepth 100000 in
theorem c_X8_tokenNumber (I : Nat → Nat → Int32) (P : Nat → Nat → Option Nat) (a0 : Nat) (res : Int32) (hf : fn_X8_tokenNumber K N I P a0 = some res) : Met l yX8_tokenNumber wz_X8_tokenNumber rm_X8_tokenNumber (va_Pc [.ref a0] (mm_B D cs A L K N z w I P)) (va_Qi (fun r (_ : Unit) => r = res) (fun _ => mm_B D cs A L K N z w I P) A) 0 0 A := by
  refine Met.ofW (cc := cX8_tokenNumber) (maxL := 3) (ret := (some .int)) (by decide) rfl ?_
  intro p e s m args below meth c s₁ B hml hv
  obtain ⟨rfl, hBm⟩ := hv
  have hx := B.exec
  have hb := B.bytes
  have hr := B.returns
  have hts := atoms_spec (ws := wz_X8_tokenNumber) B.pre
  have hWA : ∀ w ∈ WA, w.before ([.ref a0] : List Value).toArray s = true := fun u9 h9 => hts u9 (List.mem_cons_of_mem _ h9)
  have hown : s.vm.findClass RX8 = some m.cls := findClass_of_methodNamed B.named
  have hlocks := B.notSynchronized
  have S : CallFix p m c cX8_tokenNumber 3 s ([.ref a0] : List Value).toArray wz_X8_tokenNumber RX8 := ⟨hx, hb, hml, hown, hts⟩
  have hK := hBm.2.2.2.1
  have hZ := hBm.2.2.2.2
  have hM : mm_W D cs A L K N s.heap I P s.heap [] := ⟨hBm.1, hBm.2.1, hBm.2.2.1, va_S.rf⟩
  have hl := lv_entry ([.ref a0]) (n := 3) (Nat.le_of_ble_eq_true rfl)
  rw [lg_entry_eq]
  generalize (lg_sl ([.ref a0]) ++ List.replicate (3 - (lg_sl ([.ref a0])).length) Slot.unset).toArray = ls at hl ⊢
  have hl : lv_has ls 3 [(0, .ref a0)] := hl
  have hin8 : ∀ w ∈ wsX80, w ∈ wz_X8_tokenNumber := fun w h => List.mem_cons_of_mem _ (wu_X8 w h)
  have lk31 : (Cond.fieldLink RX8 31 RX8 "end" "I").before ([.ref a0] : List Value).toArray s = true := hWA _ wa_1_194
  have lk46 : (Cond.fieldLink RX8 46 RX8 "start" "I").before ([.ref a0] : List Value).toArray s = true := hWA _ wa_1_193
  have lk21 : (Cond.fieldLink RX8 21 RX8 "size" "I").before ([.ref a0] : List Value).toArray s = true := hWA _ wa_1_183
  have lk9 : (Cond.fieldLink RX8 9 RX8 "bytes" "[I").before ([.ref a0] : List Value).toArray s = true := hWA _ wa_1_182
  generalize hQ : MQ below (va_Qi (fun r (_ : Unit) => r = res) (fun _ => mm_B D cs A L K N z w I P) A) ([.ref a0] : List Value).toArray s 0 0 A = QQ
  rw [fn_X8_tokenNumber] at hf
  refine lv_aload_n hx hb dX8_tokenNumber_0 rfl (lv_at hl 0 rfl) ?_
  refine gd_e hf (fun hg1 hf => ?_)
  refine ev_get (v := .int (I a0 7)) S hK hM (ci := 8) (n := 8) (C := RX8) (T := TX8) hin8 rfl hg1 7 (by decide) lk31 rfl rfl rfl dX8_tokenNumber_1 ?_
  refine lv_aload_n hx hb dX8_tokenNumber_4 rfl (lv_at hl 0 rfl) ?_
  refine ev_get (v := .int (I a0 6)) S hK hM (ci := 8) (n := 8) (C := RX8) (T := TX8) hin8 rfl hg1 6 (by decide) lk46 rfl rfl rfl dX8_tokenNumber_5 ?_
  refine lv_isub hx hb dX8_tokenNumber_8 ?_
  refine lv_iconst (v := (1 : Int32)) hx hb dX8_tokenNumber_9 (by decide) ?_
  refine lv_icmp_lt (tgt := 52) hx hb dX8_tokenNumber_10 (by decide) (fun hc2 => ?_) (fun hc2 => ?_)
  · have hf := it_p hf hc2
    refine lv_iconst (v := (-1 : Int32)) hx hb dX8_tokenNumber_52 (by decide) ?_
    obtain rfl := Option.some.inj hf
    subst hQ
    exact ev_iret S hr hlocks hK hZ hM dX8_tokenNumber_53
  · have hf := it_n hf hc2
    refine lv_aload_n hx hb dX8_tokenNumber_13 rfl (lv_at hl 0 rfl) ?_
    refine ev_get (v := .int (I a0 7)) S hK hM (ci := 8) (n := 8) (C := RX8) (T := TX8) hin8 rfl hg1 7 (by decide) lk31 rfl rfl rfl dX8_tokenNumber_14 ?_
    refine lv_aload_n hx hb dX8_tokenNumber_17 rfl (lv_at hl 0 rfl) ?_
    refine ev_get (v := .int (I a0 6)) S hK hM (ci := 8) (n := 8) (C := RX8) (T := TX8) hin8 rfl hg1 6 (by decide) lk46 rfl rfl rfl dX8_tokenNumber_18 ?_
    refine lv_isub hx hb dX8_tokenNumber_21 ?_
    refine lv_iconst (v := (2 : Int32)) hx hb dX8_tokenNumber_22 (by decide) ?_
    refine lv_icmp_gt (tgt := 52) hx hb dX8_tokenNumber_23 (by decide) (fun hc3 => ?_) (fun hc3 => ?_)
    · have hf := it_p hf hc3
      refine lv_iconst (v := (-1 : Int32)) hx hb dX8_tokenNumber_52 (by decide) ?_
      obtain rfl := Option.some.inj hf
      subst hQ
      exact ev_iret S hr hlocks hK hZ hM dX8_tokenNumber_53
    · have hf := it_n hf hc3
      refine lv_aload_n hx hb dX8_tokenNumber_26 rfl (lv_at hl 0 rfl) ?_
      refine ev_get (v := .int (I a0 7)) S hK hM (ci := 8) (n := 8) (C := RX8) (T := TX8) hin8 rfl hg1 7 (by decide) lk31 rfl rfl rfl dX8_tokenNumber_27 ?_
      refine lv_aload_n hx hb dX8_tokenNumber_30 rfl (lv_at hl 0 rfl) ?_
      refine ev_get (v := .int (I a0 1)) S hK hM (ci := 8) (n := 8) (C := RX8) (T := TX8) hin8 rfl hg1 1 (by decide) lk21 rfl rfl rfl dX8_tokenNumber_31 ?_
      refine lv_icmp_gt (tgt := 52) hx hb dX8_tokenNumber_34 (by decide) (fun hc4 => ?_) (fun hc4 => ?_)
      · have hf := it_p hf hc4
        refine lv_iconst (v := (-1 : Int32)) hx hb dX8_tokenNumber_52 (by decide) ?_
        obtain rfl := Option.some.inj hf
        subst hQ
        exact ev_iret S hr hlocks hK hZ hM dX8_tokenNumber_53
      · have hf := it_n hf hc4
        refine lv_aload_n hx hb dX8_tokenNumber_37 rfl (lv_at hl 0 rfl) ?_
        refine bd_e hf (fun q5 eq5 hf => ?_)
        refine ev_getP (v := q5) S hK hM (ci := 8) (n := 8) (C := RX8) (T := TX8) hin8 rfl hg1 0 (by decide) lk9 rfl rfl eq5 rfl dX8_tokenNumber_38 ?_
        refine lv_aload_n hx hb dX8_tokenNumber_41 rfl (lv_at hl 0 rfl) ?_
        refine ev_get (v := .int (I a0 6)) S hK hM (ci := 8) (n := 8) (C := RX8) (T := TX8) hin8 rfl hg1 6 (by decide) lk46 rfl rfl rfl dX8_tokenNumber_42 ?_
        refine gd_e hf (fun hg6 hf => ?_)
        refine ev_iald S hK hM hg6 (j := ((I a0 6)).toNatClampNeg) rfl dX8_tokenNumber_45 ?_
        refine bd_e hf (fun r7 er7 hf => ?_)
        refine ev_calli (va_runS (As := [.int (I q5 ((I a0 6)).toNatClampNeg)]) (rest := []) S (c_X8_isDigit (l := l) I P (I q5 ((I a0 6)).toNatClampNeg) r7 er7) (va_cwS 1 hts (gi_s wa_2_220 wa_2_221 wa_1_8 wa_2_222) rfl rfl rfl (by decide +kernel) ⟨Nat.le_of_ble_eq_true rfl, Nat.le_of_ble_eq_true rfl⟩) ⟨mm_B_blind, fun U hU hW => ⟨rfl, mm_B_of hK hZ hM hU hW⟩⟩ rfl rfl hl.1 rfl (lv_room (Nat.le_of_ble_eq_true rfl)) dX8_tokenNumber_46 ⟨Nat.zero_le _, Nat.zero_le _⟩) hM (fun H locs hM => ?_)
        refine lv_if_ne (tgt := 54) hx hb dX8_tokenNumber_49 (by decide) (fun hc8 => ?_) (fun hc8 => ?_)
        · have hf := it_n hf hc8
          refine lv_iconst (v := (0 : Int32)) hx hb dX8_tokenNumber_54 (by decide) ?_
          refine lv_istore_n (lv' := [(1, .int (0 : Int32)), (0, .ref a0)]) hx hb dX8_tokenNumber_55 rfl hl (by decide) rfl (fun ls hl => ?_)
          refine lv_aload_n hx hb dX8_tokenNumber_56 rfl (lv_at hl 1 rfl) ?_
          refine ev_get (v := .int (I a0 6)) S hK hM (ci := 8) (n := 8) (C := RX8) (T := TX8) hin8 rfl hg1 6 (by decide) lk46 rfl rfl rfl dX8_tokenNumber_57 ?_
          refine lv_topi (fun v9 ev9 => ?_)
          have hf := nm_x ev9 hf
          refine lv_istore_n (lv' := [(2, .int v9), (1, .int (0 : Int32)), (0, .ref a0)]) hx hb dX8_tokenNumber_60 rfl hl (by decide) rfl (fun ls hl => ?_)
          have lp61_15 : ∀ (n : Nat) (v10 : Int32) (v11 : Int32) (H : Heap) (locs : List Loc) (ls : Array Slot) (r12 : Int32), mm_W D cs A L K N s.heap I P H locs → lv_has ls 3 [(0, .ref a0), (1, .int v10), (2, .int v11)] → fn_X8_tokenNumber_L61 K N a0 I q5 n v10 v11 = some r12 → (∀ (H : Heap) (locs : List Loc) (ls : Array Slot), mm_W D cs A L K N s.heap I P H locs → lv_has ls 3 [(1, .int r12)] → W p l e (headSpec wz_X8_tokenNumber rm_X8_tokenNumber).room s m ([.ref a0] : List Value).toArray below meth c H locs 0 0 QQ (F0 m 90 ls [])) → W p l e (headSpec wz_X8_tokenNumber rm_X8_tokenNumber).room s m ([.ref a0] : List Value).toArray below meth c H locs 0 0 QQ (F0 m 61 ls []) := by
            intro n
            induction n with
            | zero => intro v10 v11 H locs ls r12 hM hl hf kk; exact nn_x (show (none : Option (Int32)) = some r12 from hf)
            | succ n ih =>
              intro v10 v11 H locs ls r12 hM hl hf kk
              rw [fn_X8_tokenNumber_L61] at hf
              refine lv_iload_n hx hb dX8_tokenNumber_61 rfl (lv_at hl 2 rfl) ?_
              refine lv_aload_n hx hb dX8_tokenNumber_62 rfl (lv_at hl 0 rfl) ?_
              refine ev_get (v := .int (I a0 7)) S hK hM (ci := 8) (n := 8) (C := RX8) (T := TX8) hin8 rfl hg1 7 (by decide) lk31 rfl rfl rfl dX8_tokenNumber_63 ?_
              refine lv_icmp_ge (tgt := 90) hx hb dX8_tokenNumber_66 (by decide) (fun hc13 => ?_) (fun hc13 => ?_)
              · have hf := it_p hf hc13
                obtain rfl := Option.some.inj hf
                exact kk _ _ _ hM (lv_sub hl [1] rfl)
              · have hf := it_n hf hc13
                refine lv_bipush (v := (10 : Int32)) hx hb dX8_tokenNumber_69 (by decide) ?_
                refine lv_iload_n hx hb dX8_tokenNumber_71 rfl (lv_at hl 1 rfl) ?_
                refine lv_imul hx hb dX8_tokenNumber_72 ?_
                refine lv_aload_n hx hb dX8_tokenNumber_73 rfl (lv_at hl 0 rfl) ?_
                refine ev_getP (v := q5) S hK hM (ci := 8) (n := 8) (C := RX8) (T := TX8) hin8 rfl hg1 0 (by decide) lk9 rfl rfl eq5 rfl dX8_tokenNumber_74 ?_
                refine lv_iload_n hx hb dX8_tokenNumber_77 rfl (lv_at hl 2 rfl) ?_
                refine gd_e hf (fun hg14 hf => ?_)
                refine ev_iald S hK hM hg14 (j := v11.toNatClampNeg) rfl dX8_tokenNumber_78 ?_
                refine lv_iadd hx hb dX8_tokenNumber_79 ?_
                refine lv_bipush (v := (48 : Int32)) hx hb dX8_tokenNumber_80 (by decide) ?_
                refine lv_isub hx hb dX8_tokenNumber_82 ?_
                refine lv_topi (fun v15 ev15 => ?_)
                have hf := nm_x ev15 hf
                refine lv_istore_n (lv' := [(1, .int v15), (0, .ref a0), (2, .int v11)]) hx hb dX8_tokenNumber_83 rfl hl (by decide) rfl (fun ls hl => ?_)
                refine lv_iinc (v := (v11 + (1 : Int32))) (lv' := [(2, .int (v11 + (1 : Int32))), (1, .int v15), (0, .ref a0)]) hx hb dX8_tokenNumber_84 hl (k := 2) rfl rfl (by decide) rfl (fun ls hl => ?_)
                refine lv_goto (tgt := 61) hx hb dX8_tokenNumber_87 (by decide) ?_
                exact ih v15 (v11 + (1 : Int32)) _ _ _ _ hM (lv_sub hl [2, 1, 0] rfl) hf kk
          refine bd_e hf (fun r12 er12 hf => ?_)
          refine lp61_15 FU (0 : Int32) v9 _ _ _ r12 hM (lv_sub hl [2, 1, 0] rfl) er12 (fun H locs ls hM hl => ?_)
          refine lv_iload_n hx hb dX8_tokenNumber_90 rfl (lv_at hl 0 rfl) ?_
          obtain rfl := Option.some.inj hf
          subst hQ
          exact ev_iret S hr hlocks hK hZ hM dX8_tokenNumber_91
        · have hf := it_p hf hc8
          refine lv_iconst (v := (-1 : Int32)) hx hb dX8_tokenNumber_52 (by decide) ?_
          obtain rfl := Option.some.inj hf
          subst hQ
          exact ev_iret S hr hlocks hK hZ hM dX8_tokenNumber_53
noncomputable def fn_X8_readNumber (K N : Nat → Nat) (I : Nat → Nat → Int32) (P : Nat → Nat → Option Nat) (a0 : Nat) (x1 : Int32) : Option (Int32 × (Nat → Nat → Int32)) := gd (K a0 = 9) (if (I a0 5) = (-1 : Int32) then (Option.bind (fn_X8_nextToken K N I P a0) (fun (r3 : (Nat → Nat → Int32)) => Option.bind (fn_X8_tokenNumber K N r3 P a0) (fun (r4 : Int32) => Option.bind (fn_X9_isWithin r4 (0 : Int32) x1) (fun (r5 : Int32) => if r5 = 0 then (Option.bind (some (up2 r3 a0 5 (r3 a0 6))) (fun I7 => some ((0 : Int32), I7))) else (some (r4, r3)))))) else (some ((0 : Int32), I)))
abbrev wz_X8_readNumber : List Cond := Cond.code yX8_readNumber cX8_readNumber 3 (some .int) :: WA
abbrev rm_X8_readNumber : Room := { frames := 3, cells := 0, slots := 0, locals := 54 }
set_option maxHeartbeats 4000000 in
set_option maxRecDepth 100000 in
theorem c_X8_readNumber (I : Nat → Nat → Int32) (P : Nat → Nat → Option Nat) (a0 : Nat) (x1 : Int32) (res : Int32 × (Nat → Nat → Int32)) (hf : fn_X8_readNumber K N I P a0 x1 = some res) : Met l yX8_readNumber wz_X8_readNumber rm_X8_readNumber (va_Pc [.ref a0, .int x1] (mm_B D cs A L K N z w I P)) (va_Qi (fun r (_ : Unit) => r = res.1) (fun _ => mm_B D cs A L K N z w res.2 P) A) 0 0 A := by
  refine Met.ofW (cc := cX8_readNumber) (maxL := 3) (ret := (some .int)) (by decide) rfl ?_
  intro p e s m args below meth c s₁ B hml hv
  obtain ⟨rfl, hBm⟩ := hv
  have hx := B.exec
  have hb := B.bytes
  have hr := B.returns
  have hts := atoms_spec (ws := wz_X8_readNumber) B.pre
  have hWA : ∀ w ∈ WA, w.before ([.ref a0, .int x1] : List Value).toArray s = true := fun u9 h9 => hts u9 (List.mem_cons_of_mem _ h9)
  have hown : s.vm.findClass RX8 = some m.cls := findClass_of_methodNamed B.named
  have hlocks := B.notSynchronized
  have S : CallFix p m c cX8_readNumber 3 s ([.ref a0, .int x1] : List Value).toArray wz_X8_readNumber RX8 := ⟨hx, hb, hml, hown, hts⟩
  have hK := hBm.2.2.2.1
  have hZ := hBm.2.2.2.2
  have hM : mm_W D cs A L K N s.heap I P s.heap [] := ⟨hBm.1, hBm.2.1, hBm.2.2.1, va_S.rf⟩
  have hl := lv_entry ([.ref a0, .int x1]) (n := 3) (Nat.le_of_ble_eq_true rfl)
  rw [lg_entry_eq]
  generalize (lg_sl ([.ref a0, .int x1]) ++ List.replicate (3 - (lg_sl ([.ref a0, .int x1])).length) Slot.unset).toArray = ls at hl ⊢
  have hl : lv_has ls 3 [(0, .ref a0), (1, .int x1)] := hl
  have hin8 : ∀ w ∈ wsX80, w ∈ wz_X8_readNumber := fun w h => List.mem_cons_of_mem _ (wu_X8 w h)
  have lk28 : (Cond.fieldLink RX8 28 RX8 "fault" "I").before ([.ref a0, .int x1] : List Value).toArray s = true := hWA _ wa_1_191
  have lk46 : (Cond.fieldLink RX8 46 RX8 "start" "I").before ([.ref a0, .int x1] : List Value).toArray s = true := hWA _ wa_1_193
  generalize hQ : MQ below (va_Qi (fun r (_ : Unit) => r = res.1) (fun _ => mm_B D cs A L K N z w res.2 P) A) ([.ref a0, .int x1] : List Value).toArray s 0 0 A = QQ
  rw [fn_X8_readNumber] at hf
  refine lv_aload_n hx hb dX8_readNumber_0 rfl (lv_at hl 0 rfl) ?_
  refine gd_e hf (fun hg1 hf => ?_)
  refine ev_get (v := .int (I a0 5)) S hK hM (ci := 8) (n := 8) (C := RX8) (T := TX8) hin8 rfl hg1 5 (by decide) lk28 rfl rfl rfl dX8_readNumber_1 ?_
  refine lv_iconst (v := (-1 : Int32)) hx hb dX8_readNumber_4 (by decide) ?_
  refine lv_icmp_eq (tgt := 10) hx hb dX8_readNumber_5 (by decide) (fun hc2 => ?_) (fun hc2 => ?_)
  · have hf := it_p hf hc2
    refine lv_aload_n hx hb dX8_readNumber_10 rfl (lv_at hl 0 rfl) ?_
    refine bd_e hf (fun r3 er3 hf => ?_)
    refine ev_callv (va_runV (As := []) (rest := []) S (c_X8_nextToken (l := l) I P a0 r3 er3) (cwV 0 hts (gi_v wa_2_210 wa_2_212 wa_s_5 wa_1_8 wa_2_213) rfl rfl rfl (by decide +kernel) ⟨Nat.le_of_ble_eq_true rfl, Nat.le_of_ble_eq_true rfl⟩) ⟨mm_B_blind, ev_recv hK hM (ci := 8) rfl hg1 rfl, fun U hU hW => ⟨rfl, mm_B_of hK hZ hM hU hW⟩⟩ rfl rfl hl.1 rfl (lv_room (Nat.le_of_ble_eq_true rfl)) dX8_readNumber_11 ⟨Nat.zero_le _, Nat.zero_le _⟩) hM (fun H locs hM => ?_)
    refine lv_aload_n hx hb dX8_readNumber_14 rfl (lv_at hl 0 rfl) ?_
    refine bd_e hf (fun r4 er4 hf => ?_)
    refine ev_calli (va_runV (As := []) (rest := []) S (c_X8_tokenNumber (l := l) r3 P a0 r4 er4) (cwV 0 hts (gi_v wa_3_44 wa_3_46 wa_s_9 wa_1_8 wa_3_47) rfl rfl rfl (by decide +kernel) ⟨Nat.le_of_ble_eq_true rfl, Nat.le_of_ble_eq_true rfl⟩) ⟨mm_B_blind, ev_recv hK hM (ci := 8) rfl hg1 rfl, fun U hU hW => ⟨rfl, mm_B_of hK hZ hM hU hW⟩⟩ rfl rfl hl.1 rfl (lv_room (Nat.le_of_ble_eq_true rfl)) dX8_readNumber_15 ⟨Nat.zero_le _, Nat.zero_le _⟩) hM (fun H locs hM => ?_)
    refine lv_istore_n (lv' := [(2, .int r4), (0, .ref a0), (1, .int x1)]) hx hb dX8_readNumber_18 rfl hl (by decide) rfl (fun ls hl => ?_)
    refine lv_iload_n hx hb dX8_readNumber_19 rfl (lv_at hl 0 rfl) ?_
    refine lv_iconst (v := (0 : Int32)) hx hb dX8_readNumber_20 (by decide) ?_
    refine lv_iload_n hx hb dX8_readNumber_21 rfl (lv_at hl 2 rfl) ?_
    refine bd_e hf (fun r5 er5 hf => ?_)
    refine ev_calli (va_runSN (As := [.int r4, .int (0 : Int32), .int x1]) (rest := []) S (c_X9_isWithin (l := l) r3 P r4 (0 : Int32) x1 r5 er5) ⟨va_cnB 3 hts (gi_n wa_2_49) rfl rfl rfl hZ.1.1 (hWA _ wa_1_1) (by decide +kernel) ⟨Nat.le_of_ble_eq_true rfl, Nat.le_of_ble_eq_true rfl⟩, hWA _ wa_2_48, trivial⟩ ⟨mm_B_blind, fun U hU hW => ⟨rfl, mm_B_of hK hZ hM hU hW⟩⟩ rfl rfl hl.1 rfl (lv_room (Nat.le_of_ble_eq_true rfl)) dX8_readNumber_22 ⟨Nat.zero_le _, Nat.zero_le _⟩) hM (fun H locs hM => ?_)
    refine lv_if_ne (tgt := 38) hx hb dX8_readNumber_25 (by decide) (fun hc6 => ?_) (fun hc6 => ?_)
    · have hf := it_n hf hc6
      refine lv_iload_n hx hb dX8_readNumber_38 rfl (lv_at hl 0 rfl) ?_
      obtain rfl := Option.some.inj hf
      subst hQ
      exact ev_iret S hr hlocks hK hZ hM dX8_readNumber_39
    · have hf := it_p hf hc6
      refine lv_aload_n hx hb dX8_readNumber_28 rfl (lv_at hl 1 rfl) ?_
      refine lv_aload_n hx hb dX8_readNumber_29 rfl (lv_at hl 1 rfl) ?_
      refine ev_get (v := .int (r3 a0 6)) S hK hM (ci := 8) (n := 8) (C := RX8) (T := TX8) hin8 rfl hg1 6 (by decide) lk46 rfl rfl rfl dX8_readNumber_30 ?_
      refine ev_put S hK hM (ci := 8) (n := 8) (C := RX8) (T := TX8) hin8 tyX8 tyX8_ok nmX8 rfl hg1 5 (by decide) lk28 rfl rfl rfl rfl rfl (Nat.le_of_ble_eq_true rfl) rfl dX8_readNumber_33 (fun I7 eI7 H locs hM => ?_)
      have hf := nm_x eI7 hf
      refine lv_iconst (v := (0 : Int32)) hx hb dX8_readNumber_36 (by decide) ?_
      obtain rfl := Option.some.inj hf
      subst hQ
      exact ev_iret S hr hlocks hK hZ hM dX8_readNumber_37
  · have hf := it_n hf hc2
    refine lv_iconst (v := (0 : Int32)) hx hb dX8_readNumber_8 (by decide) ?_
    obtain rfl := Option.some.inj hf
    subst hQ
    exact ev_iret S hr hlocks hK hZ hM dX8_readNumber_9
noncomputable def fn_X8_goTo (K N : Nat → Nat) (I : Nat → Nat → Int32) (P : Nat → Nat → Option Nat) (a0 : Nat) (x1 : Int32) (x2 : Int32) : Option ((Nat → Nat → Int32)) := gd (K a0 = 9) (if (I a0 5) = (-1 : Int32) then (if (60 : Int32) ≤ (I a0 4) then (some I) else (Option.bind (P a0 (2)) (fun q4 => gd (K q4 = 12 ∧ vp_in (I a0 4) (N q4)) (Option.bind (some (up2 I q4 ((I a0 4)).toNatClampNeg x1)) (fun I6 => Option.bind (P a0 (3)) (fun q7 => gd (K q7 = 12 ∧ vp_in (I6 a0 4) (N q7)) (Option.bind (some (up2 I6 q7 ((I6 a0 4)).toNatClampNeg x2)) (fun I9 => Option.bind (some (up2 I9 a0 4 ((I9 a0 4) + (1 : Int32)))) (fun I10 => some I10))))))))) else (some I))
abbrev wz_X8_goTo : List Cond := Cond.code yX8_goTo cX8_goTo 3 none :: WA
abbrev rm_X8_goTo : Room := { frames := 1, cells := 0, slots := 0, locals := 12 }
set_option maxHeartbeats 4000000 in
set_option maxRecDepth 100000 in
theorem c_X8_goTo (I : Nat → Nat → Int32) (P : Nat → Nat → Option Nat) (a0 : Nat) (x1 : Int32) (x2 : Int32) (res : (Nat → Nat → Int32)) (hf : fn_X8_goTo K N I P a0 x1 x2 = some res) : Met l yX8_goTo wz_X8_goTo rm_X8_goTo (va_Pc [.ref a0, .int x1, .int x2] (mm_B D cs A L K N z w I P)) (va_Qv (fun (_ : Unit) => True) (fun _ => mm_B D cs A L K N z w res P) A) 0 0 A := by
  refine Met.ofW (cc := cX8_goTo) (maxL := 3) (ret := none) (by decide) rfl ?_
  intro p e s m args below meth c s₁ B hml hv
  obtain ⟨rfl, hBm⟩ := hv
  have hx := B.exec
  have hb := B.bytes
  have hr := B.returns
  have hts := atoms_spec (ws := wz_X8_goTo) B.pre
  have hWA : ∀ w ∈ WA, w.before ([.ref a0, .int x1, .int x2] : List Value).toArray s = true := fun u9 h9 => hts u9 (List.mem_cons_of_mem _ h9)
  have hown : s.vm.findClass RX8 = some m.cls := findClass_of_methodNamed B.named
  have hlocks := B.notSynchronized
  have S : CallFix p m c cX8_goTo 3 s ([.ref a0, .int x1, .int x2] : List Value).toArray wz_X8_goTo RX8 := ⟨hx, hb, hml, hown, hts⟩
  have hK := hBm.2.2.2.1
  have hZ := hBm.2.2.2.2
  have hM : mm_W D cs A L K N s.heap I P s.heap [] := ⟨hBm.1, hBm.2.1, hBm.2.2.1, va_S.rf⟩
  have hl := lv_entry ([.ref a0, .int x1, .int x2]) (n := 3) (Nat.le_of_ble_eq_true rfl)
  rw [lg_entry_eq]
  generalize (lg_sl ([.ref a0, .int x1, .int x2]) ++ List.replicate (3 - (lg_sl ([.ref a0, .int x1, .int x2])).length) Slot.unset).toArray = ls at hl ⊢
  have hl : lv_has ls 3 [(0, .ref a0), (1, .int x1), (2, .int x2)] := hl
  have hin8 : ∀ w ∈ wsX80, w ∈ wz_X8_goTo := fun w h => List.mem_cons_of_mem _ (wu_X8 w h)
  have lk28 : (Cond.fieldLink RX8 28 RX8 "fault" "I").before ([.ref a0, .int x1, .int x2] : List Value).toArray s = true := hWA _ wa_1_191
  have lk25 : (Cond.fieldLink RX8 25 RX8 "places" "I").before ([.ref a0, .int x1, .int x2] : List Value).toArray s = true := hWA _ wa_1_189
  have lk15 : (Cond.fieldLink RX8 15 RX8 "xs" "[I").before ([.ref a0, .int x1, .int x2] : List Value).toArray s = true := hWA _ wa_1_185
  have lk18 : (Cond.fieldLink RX8 18 RX8 "ys" "[I").before ([.ref a0, .int x1, .int x2] : List Value).toArray s = true := hWA _ wa_1_187
  generalize hQ : MQ below (va_Qv (fun (_ : Unit) => True) (fun _ => mm_B D cs A L K N z w res P) A) ([.ref a0, .int x1, .int x2] : List Value).toArray s 0 0 A = QQ
  rw [fn_X8_goTo] at hf
  refine lv_aload_n hx hb dX8_goTo_0 rfl (lv_at hl 0 rfl) ?_
  refine gd_e hf (fun hg1 hf => ?_)
  refine ev_get (v := .int (I a0 5)) S hK hM (ci := 8) (n := 8) (C := RX8) (T := TX8) hin8 rfl hg1 5 (by decide) lk28 rfl rfl rfl dX8_goTo_1 ?_
  refine lv_iconst (v := (-1 : Int32)) hx hb dX8_goTo_4 (by decide) ?_
  refine lv_icmp_ne (tgt := 47) hx hb dX8_goTo_5 (by decide) (fun hc2 => ?_) (fun hc2 => ?_)
  · have hf := it_n hf hc2
    obtain rfl := Option.some.inj hf
    subst hQ
    exact ev_vret S hr hlocks hK hZ hM dX8_goTo_47
  · have hf := it_p hf hc2
    refine lv_aload_n hx hb dX8_goTo_8 rfl (lv_at hl 0 rfl) ?_
    refine ev_get (v := .int (I a0 4)) S hK hM (ci := 8) (n := 8) (C := RX8) (T := TX8) hin8 rfl hg1 4 (by decide) lk25 rfl rfl rfl dX8_goTo_9 ?_
    refine lv_bipush (v := (60 : Int32)) hx hb dX8_goTo_12 (by decide) ?_
    refine lv_icmp_ge (tgt := 47) hx hb dX8_goTo_14 (by decide) (fun hc3 => ?_) (fun hc3 => ?_)
    · have hf := it_p hf hc3
      obtain rfl := Option.some.inj hf
      subst hQ
      exact ev_vret S hr hlocks hK hZ hM dX8_goTo_47
    · have hf := it_n hf hc3
      refine lv_aload_n hx hb dX8_goTo_17 rfl (lv_at hl 0 rfl) ?_
      refine bd_e hf (fun q4 eq4 hf => ?_)
      refine ev_getP (v := q4) S hK hM (ci := 8) (n := 8) (C := RX8) (T := TX8) hin8 rfl hg1 2 (by decide) lk15 rfl rfl eq4 rfl dX8_goTo_18 ?_
      refine lv_aload_n hx hb dX8_goTo_21 rfl (lv_at hl 0 rfl) ?_
      refine ev_get (v := .int (I a0 4)) S hK hM (ci := 8) (n := 8) (C := RX8) (T := TX8) hin8 rfl hg1 4 (by decide) lk25 rfl rfl rfl dX8_goTo_22 ?_
      refine lv_iload_n hx hb dX8_goTo_25 rfl (lv_at hl 1 rfl) ?_
      refine gd_e hf (fun hg5 hf => ?_)
      refine ev_iast S hK hM hg5 (j := ((I a0 4)).toNatClampNeg) rfl dX8_goTo_26 (fun I6 eI6 H locs hM => ?_)
      have hf := nm_x eI6 hf
      refine lv_aload_n hx hb dX8_goTo_27 rfl (lv_at hl 0 rfl) ?_
      refine bd_e hf (fun q7 eq7 hf => ?_)
      refine ev_getP (v := q7) S hK hM (ci := 8) (n := 8) (C := RX8) (T := TX8) hin8 rfl hg1 3 (by decide) lk18 rfl rfl eq7 rfl dX8_goTo_28 ?_
      refine lv_aload_n hx hb dX8_goTo_31 rfl (lv_at hl 0 rfl) ?_
      refine ev_get (v := .int (I6 a0 4)) S hK hM (ci := 8) (n := 8) (C := RX8) (T := TX8) hin8 rfl hg1 4 (by decide) lk25 rfl rfl rfl dX8_goTo_32 ?_
      refine lv_iload_n hx hb dX8_goTo_35 rfl (lv_at hl 2 rfl) ?_
      refine gd_e hf (fun hg8 hf => ?_)
      refine ev_iast S hK hM hg8 (j := ((I6 a0 4)).toNatClampNeg) rfl dX8_goTo_36 (fun I9 eI9 H locs hM => ?_)
      have hf := nm_x eI9 hf
      refine lv_aload_n hx hb dX8_goTo_37 rfl (lv_at hl 0 rfl) ?_
      refine lv_dup hx hb dX8_goTo_38 rfl ?_
      refine ev_get (v := .int (I9 a0 4)) S hK hM (ci := 8) (n := 8) (C := RX8) (T := TX8) hin8 rfl hg1 4 (by decide) lk25 rfl rfl rfl dX8_goTo_39 ?_
      refine lv_iconst (v := (1 : Int32)) hx hb dX8_goTo_42 (by decide) ?_
      refine lv_iadd hx hb dX8_goTo_43 ?_
      refine ev_put S hK hM (ci := 8) (n := 8) (C := RX8) (T := TX8) hin8 tyX8 tyX8_ok nmX8 rfl hg1 4 (by decide) lk25 rfl rfl rfl rfl rfl (Nat.le_of_ble_eq_true rfl) rfl dX8_goTo_44 (fun I10 eI10 H locs hM => ?_)
      have hf := nm_x eI10 hf
      obtain rfl := Option.some.inj hf
      subst hQ
      exact ev_vret S hr hlocks hK hZ hM dX8_goTo_47
noncomputable def fn_X8_readPlace (K N : Nat → Nat) (I : Nat → Nat → Int32) (P : Nat → Nat → Option Nat) (a0 : Nat) : Option ((Nat → Nat → Int32)) := Option.bind (fn_X8_readNumber K N I P a0 (15 : Int32)) (fun (r1 : Int32 × (Nat → Nat → Int32)) => gd (K a0 = 9) (Option.bind (fn_X8_readNumber K N r1.2 P a0 (11 : Int32)) (fun (r3 : Int32 × (Nat → Nat → Int32)) => Option.bind (fn_X8_goTo K N r3.2 P a0 r1.1 r3.1) (fun (r4 : (Nat → Nat → Int32)) => some r4))))
abbrev wz_X8_readPlace : List Cond := Cond.code yX8_readPlace cX8_readPlace 3 none :: WA
abbrev rm_X8_readPlace : Room := { frames := 4, cells := 0, slots := 0, locals := 76 }
set_option maxHeartbeats 4000000 in
set_option maxRecDepth 100000 in
theorem c_X8_readPlace (I : Nat → Nat → Int32) (P : Nat → Nat → Option Nat) (a0 : Nat) (res : (Nat → Nat → Int32)) (hf : fn_X8_readPlace K N I P a0 = some res) : Met l yX8_readPlace wz_X8_readPlace rm_X8_readPlace (va_Pc [.ref a0] (mm_B D cs A L K N z w I P)) (va_Qv (fun (_ : Unit) => True) (fun _ => mm_B D cs A L K N z w res P) A) 0 0 A := by
  refine Met.ofW (cc := cX8_readPlace) (maxL := 3) (ret := none) (by decide) rfl ?_
  intro p e s m args below meth c s₁ B hml hv
  obtain ⟨rfl, hBm⟩ := hv
  have hx := B.exec
  have hb := B.bytes
  have hr := B.returns
  have hts := atoms_spec (ws := wz_X8_readPlace) B.pre
  have hWA : ∀ w ∈ WA, w.before ([.ref a0] : List Value).toArray s = true := fun u9 h9 => hts u9 (List.mem_cons_of_mem _ h9)
  have hown : s.vm.findClass RX8 = some m.cls := findClass_of_methodNamed B.named
  have hlocks := B.notSynchronized
  have S : CallFix p m c cX8_readPlace 3 s ([.ref a0] : List Value).toArray wz_X8_readPlace RX8 := ⟨hx, hb, hml, hown, hts⟩
  have hK := hBm.2.2.2.1
  have hZ := hBm.2.2.2.2
  have hM : mm_W D cs A L K N s.heap I P s.heap [] := ⟨hBm.1, hBm.2.1, hBm.2.2.1, va_S.rf⟩
  have hl := lv_entry ([.ref a0]) (n := 3) (Nat.le_of_ble_eq_true rfl)
  rw [lg_entry_eq]
  generalize (lg_sl ([.ref a0]) ++ List.replicate (3 - (lg_sl ([.ref a0])).length) Slot.unset).toArray = ls at hl ⊢
  have hl : lv_has ls 3 [(0, .ref a0)] := hl
  generalize hQ : MQ below (va_Qv (fun (_ : Unit) => True) (fun _ => mm_B D cs A L K N z w res P) A) ([.ref a0] : List Value).toArray s 0 0 A = QQ
  rw [fn_X8_readPlace] at hf
  refine lv_aload_n hx hb dX8_readPlace_0 rfl (lv_at hl 0 rfl) ?_
  refine lv_bipush (v := (15 : Int32)) hx hb dX8_readPlace_1 (by decide) ?_
  refine bd_e hf (fun r1 er1 hf => ?_)
  refine gd_e hf (fun hg2 hf => ?_)
  refine ev_calli (va_runV (As := [.int (15 : Int32)]) (rest := []) S (c_X8_readNumber (l := l) I P a0 (15 : Int32) r1 er1) (cwV 1 hts (gi_v wa_3_40 wa_3_42 wa_s_8 wa_1_8 wa_3_43) rfl rfl rfl (by decide +kernel) ⟨Nat.le_of_ble_eq_true rfl, Nat.le_of_ble_eq_true rfl⟩) ⟨mm_B_blind, ev_recv hK hM (ci := 8) rfl hg2 rfl, fun U hU hW => ⟨rfl, mm_B_of hK hZ hM hU hW⟩⟩ rfl rfl hl.1 rfl (lv_room (Nat.le_of_ble_eq_true rfl)) dX8_readPlace_3 ⟨Nat.zero_le _, Nat.zero_le _⟩) hM (fun H locs hM => ?_)
  refine lv_istore_n (lv' := [(1, .int r1.1), (0, .ref a0)]) hx hb dX8_readPlace_6 rfl hl (by decide) rfl (fun ls hl => ?_)
  refine lv_aload_n hx hb dX8_readPlace_7 rfl (lv_at hl 1 rfl) ?_
  refine lv_bipush (v := (11 : Int32)) hx hb dX8_readPlace_8 (by decide) ?_
  refine bd_e hf (fun r3 er3 hf => ?_)
  refine ev_calli (va_runV (As := [.int (11 : Int32)]) (rest := []) S (c_X8_readNumber (l := l) r1.2 P a0 (11 : Int32) r3 er3) (cwV 1 hts (gi_v wa_3_40 wa_3_42 wa_s_8 wa_1_8 wa_3_43) rfl rfl rfl (by decide +kernel) ⟨Nat.le_of_ble_eq_true rfl, Nat.le_of_ble_eq_true rfl⟩) ⟨mm_B_blind, ev_recv hK hM (ci := 8) rfl hg2 rfl, fun U hU hW => ⟨rfl, mm_B_of hK hZ hM hU hW⟩⟩ rfl rfl hl.1 rfl (lv_room (Nat.le_of_ble_eq_true rfl)) dX8_readPlace_10 ⟨Nat.zero_le _, Nat.zero_le _⟩) hM (fun H locs hM => ?_)
  refine lv_istore_n (lv' := [(2, .int r3.1), (1, .int r1.1), (0, .ref a0)]) hx hb dX8_readPlace_13 rfl hl (by decide) rfl (fun ls hl => ?_)
  refine lv_aload_n hx hb dX8_readPlace_14 rfl (lv_at hl 2 rfl) ?_
  refine lv_iload_n hx hb dX8_readPlace_15 rfl (lv_at hl 1 rfl) ?_
  refine lv_iload_n hx hb dX8_readPlace_16 rfl (lv_at hl 0 rfl) ?_
  refine bd_e hf (fun r4 er4 hf => ?_)
  refine ev_callv (va_runV (As := [.int r1.1, .int r3.1]) (rest := []) S (c_X8_goTo (l := l) r3.2 P a0 r1.1 r3.1 r4 er4) (cwV 2 hts (gi_v wa_3_49 wa_3_51 wa_s_10 wa_1_8 wa_3_52) rfl rfl rfl (by decide +kernel) ⟨Nat.le_of_ble_eq_true rfl, Nat.le_of_ble_eq_true rfl⟩) ⟨mm_B_blind, ev_recv hK hM (ci := 8) rfl hg2 rfl, fun U hU hW => ⟨rfl, mm_B_of hK hZ hM hU hW⟩⟩ rfl rfl hl.1 rfl (lv_room (Nat.le_of_ble_eq_true rfl)) dX8_readPlace_17 ⟨Nat.zero_le _, Nat.zero_le _⟩) hM (fun H locs hM => ?_)
  obtain rfl := Option.some.inj hf
  subst hQ
  exact ev_vret S hr hlocks hK hZ hM dX8_readPlace_20
noncomputable def fn_X8_readStep (K N : Nat → Nat) (I : Nat → Nat → Int32) (P : Nat → Nat → Option Nat) (a0 : Nat) : Option ((Nat → Nat → Int32)) := gd (K a0 = 9) (Option.bind (some ((I a0 4) - (1 : Int32))) (fun v2 => Option.bind (fn_X9_isWithin v2 (0 : Int32) (59 : Int32)) (fun (r3 : Int32) => if r3 = 0 then (Option.bind (some (up2 I a0 5 (I a0 6))) (fun I28 => some I28)) else (Option.bind (fn_X8_isWord K N I P a0 (1)) (fun (r5 : Int32) => if r5 = 0 then (Option.bind (fn_X8_isWord K N I P a0 (2)) (fun (r7 : Int32) => if r7 = 0 then (Option.bind (fn_X8_isWord K N I P a0 (3)) (fun (r9 : Int32) => if r9 = 0 then (Option.bind (fn_X8_isWord K N I P a0 (4)) (fun (r11 : Int32) => if r11 = 0 then (Option.bind (some (up2 I a0 5 (I a0 6))) (fun I13 => some I13)) else (Option.bind (P a0 (2)) (fun q14 => gd (K q14 = 12 ∧ vp_in (0 : Int32) (N q14)) (Option.bind (P a0 (3)) (fun q16 => gd (K q16 = 12 ∧ vp_in (0 : Int32) (N q16)) (Option.bind (fn_X8_goTo K N I P a0 (I q14 (0)) (I q16 (0))) (fun (r18 : (Nat → Nat → Int32)) => some r18)))))))) else (Option.bind (P a0 (2)) (fun q19 => gd (K q19 = 12 ∧ vp_in v2 (N q19)) (Option.bind (fn_X8_readNumber K N I P a0 (11 : Int32)) (fun (r21 : Int32 × (Nat → Nat → Int32)) => Option.bind (fn_X8_goTo K N r21.2 P a0 (I q19 (v2.toNatClampNeg)) r21.1) (fun (r22 : (Nat → Nat → Int32)) => some r22))))))) else (Option.bind (fn_X8_readNumber K N I P a0 (15 : Int32)) (fun (r23 : Int32 × (Nat → Nat → Int32)) => Option.bind (P a0 (3)) (fun q24 => gd (K q24 = 12 ∧ vp_in v2 (N q24)) (Option.bind (fn_X8_goTo K N r23.2 P a0 r23.1 (r23.2 q24 (v2.toNatClampNeg))) (fun (r26 : (Nat → Nat → Int32)) => some r26))))))) else (Option.bind (fn_X8_readPlace K N I P a0) (fun (r27 : (Nat → Nat → Int32)) => some r27)))))))
abbrev wz_X8_readStep : List Cond := Cond.code yX8_readStep cX8_readStep 2 none :: WA
abbrev rm_X8_readStep : Room := { frames := 6, cells := 0, slots := 0, locals := 119 }
set_option maxHeartbeats 4000000 in
set_option maxRecDepth 100000 in
theorem c_X8_readStep (I : Nat → Nat → Int32) (P : Nat → Nat → Option Nat) (a0 : Nat) (res : (Nat → Nat → Int32)) (hf : fn_X8_readStep K N I P a0 = some res) : Met l yX8_readStep wz_X8_readStep rm_X8_readStep (va_Pc [.ref a0] (mm_B D cs A L K N z w I P)) (va_Qv (fun (_ : Unit) => True) (fun _ => mm_B D cs A L K N z w res P) A) 0 0 A := by
  refine Met.ofW (cc := cX8_readStep) (maxL := 2) (ret := none) (by decide) rfl ?_
  intro p e s m args below meth c s₁ B hml hv
  obtain ⟨rfl, hBm⟩ := hv
  have hx := B.exec
  have hb := B.bytes
  have hr := B.returns
  have hts := atoms_spec (ws := wz_X8_readStep) B.pre
  have hWA : ∀ w ∈ WA, w.before ([.ref a0] : List Value).toArray s = true := fun u9 h9 => hts u9 (List.mem_cons_of_mem _ h9)
  have hown : s.vm.findClass RX8 = some m.cls := findClass_of_methodNamed B.named
  have hlocks := B.notSynchronized
  have S : CallFix p m c cX8_readStep 2 s ([.ref a0] : List Value).toArray wz_X8_readStep RX8 := ⟨hx, hb, hml, hown, hts⟩
  have hK := hBm.2.2.2.1
  have hZ := hBm.2.2.2.2
  have hM : mm_W D cs A L K N s.heap I P s.heap [] := ⟨hBm.1, hBm.2.1, hBm.2.2.1, va_S.rf⟩
  have hl := lv_entry ([.ref a0]) (n := 2) (Nat.le_of_ble_eq_true rfl)
  rw [lg_entry_eq]
  generalize (lg_sl ([.ref a0]) ++ List.replicate (2 - (lg_sl ([.ref a0])).length) Slot.unset).toArray = ls at hl ⊢
  have hl : lv_has ls 2 [(0, .ref a0)] := hl
  have hin8 : ∀ w ∈ wsX80, w ∈ wz_X8_readStep := fun w h => List.mem_cons_of_mem _ (wu_X8 w h)
  have lk25 : (Cond.fieldLink RX8 25 RX8 "places" "I").before ([.ref a0] : List Value).toArray s = true := hWA _ wa_1_189
  have lk46 : (Cond.fieldLink RX8 46 RX8 "start" "I").before ([.ref a0] : List Value).toArray s = true := hWA _ wa_1_193
  have lk28 : (Cond.fieldLink RX8 28 RX8 "fault" "I").before ([.ref a0] : List Value).toArray s = true := hWA _ wa_1_191
  have lk15 : (Cond.fieldLink RX8 15 RX8 "xs" "[I").before ([.ref a0] : List Value).toArray s = true := hWA _ wa_1_185
  have lk18 : (Cond.fieldLink RX8 18 RX8 "ys" "[I").before ([.ref a0] : List Value).toArray s = true := hWA _ wa_1_187
  generalize hQ : MQ below (va_Qv (fun (_ : Unit) => True) (fun _ => mm_B D cs A L K N z w res P) A) ([.ref a0] : List Value).toArray s 0 0 A = QQ
  rw [fn_X8_readStep] at hf
  refine lv_aload_n hx hb dX8_readStep_0 rfl (lv_at hl 0 rfl) ?_
  refine gd_e hf (fun hg1 hf => ?_)
  refine ev_get (v := .int (I a0 4)) S hK hM (ci := 8) (n := 8) (C := RX8) (T := TX8) hin8 rfl hg1 4 (by decide) lk25 rfl rfl rfl dX8_readStep_1 ?_
  refine lv_iconst (v := (1 : Int32)) hx hb dX8_readStep_4 (by decide) ?_
  refine lv_isub hx hb dX8_readStep_5 ?_
  refine lv_topi (fun v2 ev2 => ?_)
  have hf := nm_x ev2 hf
  refine lv_istore_n (lv' := [(1, .int v2), (0, .ref a0)]) hx hb dX8_readStep_6 rfl hl (by decide) rfl (fun ls hl => ?_)
  refine lv_iload_n hx hb dX8_readStep_7 rfl (lv_at hl 0 rfl) ?_
  refine lv_iconst (v := (0 : Int32)) hx hb dX8_readStep_8 (by decide) ?_
  refine lv_bipush (v := (59 : Int32)) hx hb dX8_readStep_9 (by decide) ?_
  refine bd_e hf (fun r3 er3 hf => ?_)
  refine ev_calli (va_runSN (As := [.int v2, .int (0 : Int32), .int (59 : Int32)]) (rest := []) S (c_X9_isWithin (l := l) I P v2 (0 : Int32) (59 : Int32) r3 er3) ⟨va_cnB 3 hts (gi_n wa_2_49) rfl rfl rfl hZ.1.1 (hWA _ wa_1_1) (by decide +kernel) ⟨Nat.le_of_ble_eq_true rfl, Nat.le_of_ble_eq_true rfl⟩, hWA _ wa_2_48, trivial⟩ ⟨mm_B_blind, fun U hU hW => ⟨rfl, mm_B_of hK hZ hM hU hW⟩⟩ rfl rfl hl.1 rfl (lv_room (Nat.le_of_ble_eq_true rfl)) dX8_readStep_11 ⟨Nat.zero_le _, Nat.zero_le _⟩) hM (fun H locs hM => ?_)
  refine lv_if_ne (tgt := 28) hx hb dX8_readStep_14 (by decide) (fun hc4 => ?_) (fun hc4 => ?_)
  · have hf := it_n hf hc4
    refine lv_aload_n hx hb dX8_readStep_28 rfl (lv_at hl 1 rfl) ?_
    refine va_ldcS (q := z (10 + 1)) hx hb hown hZ.2.1.1.2.1 dX8_readStep_29 ?_
    refine bd_e hf (fun r5 er5 hf => ?_)
    refine ev_calli (va_runV (As := [.ref (z (10 + 1))]) (rest := []) S (c_X8_isWord (l := l) I P a0 (1) r5 er5) (cwV 1 hts (gi_v wa_2_224 wa_2_226 wa_s_6 wa_1_8 wa_2_227) rfl rfl rfl (by decide +kernel) ⟨Nat.le_of_ble_eq_true rfl, Nat.le_of_ble_eq_true rfl⟩) ⟨mm_B_blind, ev_recv hK hM (ci := 8) rfl hg1 rfl, fun U hU hW => ⟨rfl, mm_B_of hK hZ hM hU hW⟩⟩ rfl rfl hl.1 rfl (lv_room (Nat.le_of_ble_eq_true rfl)) dX8_readStep_31 ⟨Nat.zero_le _, Nat.zero_le _⟩) hM (fun H locs hM => ?_)
    refine lv_if_eq (tgt := 44) hx hb dX8_readStep_34 (by decide) (fun hc6 => ?_) (fun hc6 => ?_)
    · have hf := it_p hf hc6
      refine lv_aload_n hx hb dX8_readStep_44 rfl (lv_at hl 1 rfl) ?_
      refine va_ldcS (q := z (10 + 2)) hx hb hown hZ.2.1.1.2.2.1 dX8_readStep_45 ?_
      refine bd_e hf (fun r7 er7 hf => ?_)
      refine ev_calli (va_runV (As := [.ref (z (10 + 2))]) (rest := []) S (c_X8_isWord (l := l) I P a0 (2) r7 er7) (cwV 1 hts (gi_v wa_2_224 wa_2_226 wa_s_6 wa_1_8 wa_2_227) rfl rfl rfl (by decide +kernel) ⟨Nat.le_of_ble_eq_true rfl, Nat.le_of_ble_eq_true rfl⟩) ⟨mm_B_blind, ev_recv hK hM (ci := 8) rfl hg1 rfl, fun U hU hW => ⟨rfl, mm_B_of hK hZ hM hU hW⟩⟩ rfl rfl hl.1 rfl (lv_room (Nat.le_of_ble_eq_true rfl)) dX8_readStep_47 ⟨Nat.zero_le _, Nat.zero_le _⟩) hM (fun H locs hM => ?_)
      refine lv_if_eq (tgt := 72) hx hb dX8_readStep_50 (by decide) (fun hc8 => ?_) (fun hc8 => ?_)
      · have hf := it_p hf hc8
        refine lv_aload_n hx hb dX8_readStep_72 rfl (lv_at hl 1 rfl) ?_
        refine va_ldcS (q := z (10 + 3)) hx hb hown hZ.2.1.1.2.2.2.1 dX8_readStep_73 ?_
        refine bd_e hf (fun r9 er9 hf => ?_)
        refine ev_calli (va_runV (As := [.ref (z (10 + 3))]) (rest := []) S (c_X8_isWord (l := l) I P a0 (3) r9 er9) (cwV 1 hts (gi_v wa_2_224 wa_2_226 wa_s_6 wa_1_8 wa_2_227) rfl rfl rfl (by decide +kernel) ⟨Nat.le_of_ble_eq_true rfl, Nat.le_of_ble_eq_true rfl⟩) ⟨mm_B_blind, ev_recv hK hM (ci := 8) rfl hg1 rfl, fun U hU hW => ⟨rfl, mm_B_of hK hZ hM hU hW⟩⟩ rfl rfl hl.1 rfl (lv_room (Nat.le_of_ble_eq_true rfl)) dX8_readStep_75 ⟨Nat.zero_le _, Nat.zero_le _⟩) hM (fun H locs hM => ?_)
        refine lv_if_eq (tgt := 100) hx hb dX8_readStep_78 (by decide) (fun hc10 => ?_) (fun hc10 => ?_)
        · have hf := it_p hf hc10
          refine lv_aload_n hx hb dX8_readStep_100 rfl (lv_at hl 1 rfl) ?_
          refine va_ldcS (q := z (10 + 4)) hx hb hown hZ.2.1.1.2.2.2.2 dX8_readStep_101 ?_
          refine bd_e hf (fun r11 er11 hf => ?_)
          refine ev_calli (va_runV (As := [.ref (z (10 + 4))]) (rest := []) S (c_X8_isWord (l := l) I P a0 (4) r11 er11) (cwV 1 hts (gi_v wa_2_224 wa_2_226 wa_s_6 wa_1_8 wa_2_227) rfl rfl rfl (by decide +kernel) ⟨Nat.le_of_ble_eq_true rfl, Nat.le_of_ble_eq_true rfl⟩) ⟨mm_B_blind, ev_recv hK hM (ci := 8) rfl hg1 rfl, fun U hU hW => ⟨rfl, mm_B_of hK hZ hM hU hW⟩⟩ rfl rfl hl.1 rfl (lv_room (Nat.le_of_ble_eq_true rfl)) dX8_readStep_103 ⟨Nat.zero_le _, Nat.zero_le _⟩) hM (fun H locs hM => ?_)
          refine lv_if_eq (tgt := 128) hx hb dX8_readStep_106 (by decide) (fun hc12 => ?_) (fun hc12 => ?_)
          · have hf := it_p hf hc12
            refine lv_aload_n hx hb dX8_readStep_128 rfl (lv_at hl 1 rfl) ?_
            refine lv_aload_n hx hb dX8_readStep_129 rfl (lv_at hl 1 rfl) ?_
            refine ev_get (v := .int (I a0 6)) S hK hM (ci := 8) (n := 8) (C := RX8) (T := TX8) hin8 rfl hg1 6 (by decide) lk46 rfl rfl rfl dX8_readStep_130 ?_
            refine ev_put S hK hM (ci := 8) (n := 8) (C := RX8) (T := TX8) hin8 tyX8 tyX8_ok nmX8 rfl hg1 5 (by decide) lk28 rfl rfl rfl rfl rfl (Nat.le_of_ble_eq_true rfl) rfl dX8_readStep_133 (fun I13 eI13 H locs hM => ?_)
            have hf := nm_x eI13 hf
            obtain rfl := Option.some.inj hf
            subst hQ
            exact ev_vret S hr hlocks hK hZ hM dX8_readStep_136
          · have hf := it_n hf hc12
            refine lv_aload_n hx hb dX8_readStep_109 rfl (lv_at hl 1 rfl) ?_
            refine lv_aload_n hx hb dX8_readStep_110 rfl (lv_at hl 1 rfl) ?_
            refine bd_e hf (fun q14 eq14 hf => ?_)
            refine ev_getP (v := q14) S hK hM (ci := 8) (n := 8) (C := RX8) (T := TX8) hin8 rfl hg1 2 (by decide) lk15 rfl rfl eq14 rfl dX8_readStep_111 ?_
            refine lv_iconst (v := (0 : Int32)) hx hb dX8_readStep_114 (by decide) ?_
            refine gd_e hf (fun hg15 hf => ?_)
            refine ev_iald S hK hM hg15 (j := 0) rfl dX8_readStep_115 ?_
            refine lv_aload_n hx hb dX8_readStep_116 rfl (lv_at hl 1 rfl) ?_
            refine bd_e hf (fun q16 eq16 hf => ?_)
            refine ev_getP (v := q16) S hK hM (ci := 8) (n := 8) (C := RX8) (T := TX8) hin8 rfl hg1 3 (by decide) lk18 rfl rfl eq16 rfl dX8_readStep_117 ?_
            refine lv_iconst (v := (0 : Int32)) hx hb dX8_readStep_120 (by decide) ?_
            refine gd_e hf (fun hg17 hf => ?_)
            refine ev_iald S hK hM hg17 (j := 0) rfl dX8_readStep_121 ?_
            refine bd_e hf (fun r18 er18 hf => ?_)
            refine ev_callv (va_runV (As := [.int (I q14 (0)), .int (I q16 (0))]) (rest := []) S (c_X8_goTo (l := l) I P a0 (I q14 (0)) (I q16 (0)) r18 er18) (cwV 2 hts (gi_v wa_3_49 wa_3_51 wa_s_10 wa_1_8 wa_3_52) rfl rfl rfl (by decide +kernel) ⟨Nat.le_of_ble_eq_true rfl, Nat.le_of_ble_eq_true rfl⟩) ⟨mm_B_blind, ev_recv hK hM (ci := 8) rfl hg1 rfl, fun U hU hW => ⟨rfl, mm_B_of hK hZ hM hU hW⟩⟩ rfl rfl hl.1 rfl (lv_room (Nat.le_of_ble_eq_true rfl)) dX8_readStep_122 ⟨Nat.zero_le _, Nat.zero_le _⟩) hM (fun H locs hM => ?_)
            refine lv_goto (tgt := 136) hx hb dX8_readStep_125 (by decide) ?_
            obtain rfl := Option.some.inj hf
            subst hQ
            exact ev_vret S hr hlocks hK hZ hM dX8_readStep_136
        · have hf := it_n hf hc10
          refine lv_aload_n hx hb dX8_readStep_81 rfl (lv_at hl 1 rfl) ?_
          refine lv_aload_n hx hb dX8_readStep_82 rfl (lv_at hl 1 rfl) ?_
          refine bd_e hf (fun q19 eq19 hf => ?_)
          refine ev_getP (v := q19) S hK hM (ci := 8) (n := 8) (C := RX8) (T := TX8) hin8 rfl hg1 2 (by decide) lk15 rfl rfl eq19 rfl dX8_readStep_83 ?_
          refine lv_iload_n hx hb dX8_readStep_86 rfl (lv_at hl 0 rfl) ?_
          refine gd_e hf (fun hg20 hf => ?_)
          refine ev_iald S hK hM hg20 (j := v2.toNatClampNeg) rfl dX8_readStep_87 ?_
          refine lv_aload_n hx hb dX8_readStep_88 rfl (lv_at hl 1 rfl) ?_
          refine lv_bipush (v := (11 : Int32)) hx hb dX8_readStep_89 (by decide) ?_
          refine bd_e hf (fun r21 er21 hf => ?_)
          refine ev_calli (va_runV (As := [.int (11 : Int32)]) (rest := [.int (I q19 (v2.toNatClampNeg)), .ref a0]) S (c_X8_readNumber (l := l) I P a0 (11 : Int32) r21 er21) (cwV 1 hts (gi_v wa_3_40 wa_3_42 wa_s_8 wa_1_8 wa_3_43) rfl rfl rfl (by decide +kernel) ⟨Nat.le_of_ble_eq_true rfl, Nat.le_of_ble_eq_true rfl⟩) ⟨mm_B_blind, ev_recv hK hM (ci := 8) rfl hg1 rfl, fun U hU hW => ⟨rfl, mm_B_of hK hZ hM hU hW⟩⟩ rfl rfl hl.1 rfl (lv_room (Nat.le_of_ble_eq_true rfl)) dX8_readStep_91 ⟨Nat.zero_le _, Nat.zero_le _⟩) hM (fun H locs hM => ?_)
          refine bd_e hf (fun r22 er22 hf => ?_)
          refine ev_callv (va_runV (As := [.int (I q19 (v2.toNatClampNeg)), .int r21.1]) (rest := []) S (c_X8_goTo (l := l) r21.2 P a0 (I q19 (v2.toNatClampNeg)) r21.1 r22 er22) (cwV 2 hts (gi_v wa_3_49 wa_3_51 wa_s_10 wa_1_8 wa_3_52) rfl rfl rfl (by decide +kernel) ⟨Nat.le_of_ble_eq_true rfl, Nat.le_of_ble_eq_true rfl⟩) ⟨mm_B_blind, ev_recv hK hM (ci := 8) rfl hg1 rfl, fun U hU hW => ⟨rfl, mm_B_of hK hZ hM hU hW⟩⟩ rfl rfl hl.1 rfl (lv_room (Nat.le_of_ble_eq_true rfl)) dX8_readStep_94 ⟨Nat.zero_le _, Nat.zero_le _⟩) hM (fun H locs hM => ?_)
          refine lv_goto (tgt := 136) hx hb dX8_readStep_97 (by decide) ?_
          obtain rfl := Option.some.inj hf
          subst hQ
          exact ev_vret S hr hlocks hK hZ hM dX8_readStep_136
      · have hf := it_n hf hc8
        refine lv_aload_n hx hb dX8_readStep_53 rfl (lv_at hl 1 rfl) ?_
        refine lv_aload_n hx hb dX8_readStep_54 rfl (lv_at hl 1 rfl) ?_
        refine lv_bipush (v := (15 : Int32)) hx hb dX8_readStep_55 (by decide) ?_
        refine bd_e hf (fun r23 er23 hf => ?_)
        refine ev_calli (va_runV (As := [.int (15 : Int32)]) (rest := [.ref a0]) S (c_X8_readNumber (l := l) I P a0 (15 : Int32) r23 er23) (cwV 1 hts (gi_v wa_3_40 wa_3_42 wa_s_8 wa_1_8 wa_3_43) rfl rfl rfl (by decide +kernel) ⟨Nat.le_of_ble_eq_true rfl, Nat.le_of_ble_eq_true rfl⟩) ⟨mm_B_blind, ev_recv hK hM (ci := 8) rfl hg1 rfl, fun U hU hW => ⟨rfl, mm_B_of hK hZ hM hU hW⟩⟩ rfl rfl hl.1 rfl (lv_room (Nat.le_of_ble_eq_true rfl)) dX8_readStep_57 ⟨Nat.zero_le _, Nat.zero_le _⟩) hM (fun H locs hM => ?_)
        refine lv_aload_n hx hb dX8_readStep_60 rfl (lv_at hl 1 rfl) ?_
        refine bd_e hf (fun q24 eq24 hf => ?_)
        refine ev_getP (v := q24) S hK hM (ci := 8) (n := 8) (C := RX8) (T := TX8) hin8 rfl hg1 3 (by decide) lk18 rfl rfl eq24 rfl dX8_readStep_61 ?_
        refine lv_iload_n hx hb dX8_readStep_64 rfl (lv_at hl 0 rfl) ?_
        refine gd_e hf (fun hg25 hf => ?_)
        refine ev_iald S hK hM hg25 (j := v2.toNatClampNeg) rfl dX8_readStep_65 ?_
        refine bd_e hf (fun r26 er26 hf => ?_)
        refine ev_callv (va_runV (As := [.int r23.1, .int (r23.2 q24 (v2.toNatClampNeg))]) (rest := []) S (c_X8_goTo (l := l) r23.2 P a0 r23.1 (r23.2 q24 (v2.toNatClampNeg)) r26 er26) (cwV 2 hts (gi_v wa_3_49 wa_3_51 wa_s_10 wa_1_8 wa_3_52) rfl rfl rfl (by decide +kernel) ⟨Nat.le_of_ble_eq_true rfl, Nat.le_of_ble_eq_true rfl⟩) ⟨mm_B_blind, ev_recv hK hM (ci := 8) rfl hg1 rfl, fun U hU hW => ⟨rfl, mm_B_of hK hZ hM hU hW⟩⟩ rfl rfl hl.1 rfl (lv_room (Nat.le_of_ble_eq_true rfl)) dX8_readStep_66 ⟨Nat.zero_le _, Nat.zero_le _⟩) hM (fun H locs hM => ?_)
        refine lv_goto (tgt := 136) hx hb dX8_readStep_69 (by decide) ?_
        obtain rfl := Option.some.inj hf
        subst hQ
        exact ev_vret S hr hlocks hK hZ hM dX8_readStep_136
    · have hf := it_n hf hc6
      refine lv_aload_n hx hb dX8_readStep_37 rfl (lv_at hl 1 rfl) ?_
      refine bd_e hf (fun r27 er27 hf => ?_)
      refine ev_callv (va_runV (As := []) (rest := []) S (c_X8_readPlace (l := l) I P a0 r27 er27) (cwV 0 hts (gi_v wa_3_36 wa_3_38 wa_s_7 wa_1_8 wa_3_39) rfl rfl rfl (by decide +kernel) ⟨Nat.le_of_ble_eq_true rfl, Nat.le_of_ble_eq_true rfl⟩) ⟨mm_B_blind, ev_recv hK hM (ci := 8) rfl hg1 rfl, fun U hU hW => ⟨rfl, mm_B_of hK hZ hM hU hW⟩⟩ rfl rfl hl.1 rfl (lv_room (Nat.le_of_ble_eq_true rfl)) dX8_readStep_38 ⟨Nat.zero_le _, Nat.zero_le _⟩) hM (fun H locs hM => ?_)
      refine lv_goto (tgt := 136) hx hb dX8_readStep_41 (by decide) ?_
      obtain rfl := Option.some.inj hf
      subst hQ
      exact ev_vret S hr hlocks hK hZ hM dX8_readStep_136
  · have hf := it_p hf hc4
    refine lv_aload_n hx hb dX8_readStep_17 rfl (lv_at hl 1 rfl) ?_
    refine lv_aload_n hx hb dX8_readStep_18 rfl (lv_at hl 1 rfl) ?_
    refine ev_get (v := .int (I a0 6)) S hK hM (ci := 8) (n := 8) (C := RX8) (T := TX8) hin8 rfl hg1 6 (by decide) lk46 rfl rfl rfl dX8_readStep_19 ?_
    refine ev_put S hK hM (ci := 8) (n := 8) (C := RX8) (T := TX8) hin8 tyX8 tyX8_ok nmX8 rfl hg1 5 (by decide) lk28 rfl rfl rfl rfl rfl (Nat.le_of_ble_eq_true rfl) rfl dX8_readStep_22 (fun I28 eI28 H locs hM => ?_)
    have hf := nm_x eI28 hf
    refine lv_goto (tgt := 136) hx hb dX8_readStep_25 (by decide) ?_
    obtain rfl := Option.some.inj hf
    subst hQ
    exact ev_vret S hr hlocks hK hZ hM dX8_readStep_136
noncomputable def fn_X8_read_L45 (K : Nat → Nat) (N : Nat → Nat) (a0 : Nat) (P : Nat → Nat → Option Nat) : Nat → Int32 → (Nat → Nat → Int32) → Option (((Nat → Nat → Int32)) ⊕ ((Nat → Nat → Int32)))
  | 0, _, _ => none
  | n + 1, v9, I10 => if (60 : Int32) ≤ v9 then (some (Sum.inr I10)) else (if (I10 a0 5) = (-1 : Int32) then (Option.bind (fn_X8_nextToken K N I10 P a0) (fun (r15 : (Nat → Nat → Int32)) => if (r15 a0 6) < (r15 a0 1) then (Option.bind (fn_X8_readStep K N r15 P a0) (fun (r17 : (Nat → Nat → Int32)) => fn_X8_read_L45 K N a0 P n (v9 + (1 : Int32)) r17)) else (some (Sum.inl r15)))) else (some (Sum.inr I10)))
noncomputable def fn_X8_read (K N : Nat → Nat) (I : Nat → Nat → Int32) (P : Nat → Nat → Option Nat) (a0 : Nat) : Option ((Nat → Nat → Int32)) := gd (K a0 = 9) (Option.bind (some (up2 I a0 4 (0 : Int32))) (fun I2 => Option.bind (some (up2 I2 a0 5 (-1 : Int32))) (fun I3 => Option.bind (some (up2 I3 a0 7 (0 : Int32))) (fun I4 => Option.bind (fn_X8_nextToken K N I4 P a0) (fun (r5 : (Nat → Nat → Int32)) => Option.bind (fn_X8_isWord K N r5 P a0 (0)) (fun (r6 : Int32) => Option.bind (if r6 = 0 then (Option.bind (some (up2 r5 a0 5 (r5 a0 6))) (fun I18 => some I18)) else (Option.bind (fn_X8_readPlace K N r5 P a0) (fun (r19 : (Nat → Nat → Int32)) => some r19))) (fun (j8 : (Nat → Nat → Int32)) => Option.bind (fn_X8_read_L45 K N a0 P FU (0 : Int32) j8) (fun (r11 : ((Nat → Nat → Int32)) ⊕ ((Nat → Nat → Int32))) => Sum.elim (fun t => some t) (fun (xx12 : (Nat → Nat → Int32)) => some xx12) r11))))))))
abbrev wz_X8_read : List Cond := Cond.code yX8_read cX8_read 2 none :: WA
abbrev rm_X8_read : Room := { frames := 7, cells := 0, slots := 0, locals := 140 }
set_option maxHeartbeats 4000000 in
set_option maxRecDepth 100000 in
theorem c_X8_read (I : Nat → Nat → Int32) (P : Nat → Nat → Option Nat) (a0 : Nat) (res : (Nat → Nat → Int32)) (hf : fn_X8_read K N I P a0 = some res) : Met l yX8_read wz_X8_read rm_X8_read (va_Pc [.ref a0] (mm_B D cs A L K N z w I P)) (va_Qv (fun (_ : Unit) => True) (fun _ => mm_B D cs A L K N z w res P) A) 0 0 A := by
  refine Met.ofW (cc := cX8_read) (maxL := 2) (ret := none) (by decide) rfl ?_
  intro p e s m args below meth c s₁ B hml hv
  obtain ⟨rfl, hBm⟩ := hv
  have hx := B.exec
  have hb := B.bytes
  have hr := B.returns
  have hts := atoms_spec (ws := wz_X8_read) B.pre
  have hWA : ∀ w ∈ WA, w.before ([.ref a0] : List Value).toArray s = true := fun u9 h9 => hts u9 (List.mem_cons_of_mem _ h9)
  have hown : s.vm.findClass RX8 = some m.cls := findClass_of_methodNamed B.named
  have hlocks := B.notSynchronized
  have S : CallFix p m c cX8_read 2 s ([.ref a0] : List Value).toArray wz_X8_read RX8 := ⟨hx, hb, hml, hown, hts⟩
  have hK := hBm.2.2.2.1
  have hZ := hBm.2.2.2.2
  have hM : mm_W D cs A L K N s.heap I P s.heap [] := ⟨hBm.1, hBm.2.1, hBm.2.2.1, va_S.rf⟩
  have hl := lv_entry ([.ref a0]) (n := 2) (Nat.le_of_ble_eq_true rfl)
  rw [lg_entry_eq]
  generalize (lg_sl ([.ref a0]) ++ List.replicate (2 - (lg_sl ([.ref a0])).length) Slot.unset).toArray = ls at hl ⊢
  have hl : lv_has ls 2 [(0, .ref a0)] := hl
  have hin8 : ∀ w ∈ wsX80, w ∈ wz_X8_read := fun w h => List.mem_cons_of_mem _ (wu_X8 w h)
  have lk25 : (Cond.fieldLink RX8 25 RX8 "places" "I").before ([.ref a0] : List Value).toArray s = true := hWA _ wa_1_189
  have lk28 : (Cond.fieldLink RX8 28 RX8 "fault" "I").before ([.ref a0] : List Value).toArray s = true := hWA _ wa_1_191
  have lk31 : (Cond.fieldLink RX8 31 RX8 "end" "I").before ([.ref a0] : List Value).toArray s = true := hWA _ wa_1_194
  have lk46 : (Cond.fieldLink RX8 46 RX8 "start" "I").before ([.ref a0] : List Value).toArray s = true := hWA _ wa_1_193
  have lk21 : (Cond.fieldLink RX8 21 RX8 "size" "I").before ([.ref a0] : List Value).toArray s = true := hWA _ wa_1_183
  generalize hQ : MQ below (va_Qv (fun (_ : Unit) => True) (fun _ => mm_B D cs A L K N z w res P) A) ([.ref a0] : List Value).toArray s 0 0 A = QQ
  rw [fn_X8_read] at hf
  refine lv_aload_n hx hb dX8_read_0 rfl (lv_at hl 0 rfl) ?_
  refine lv_iconst (v := (0 : Int32)) hx hb dX8_read_1 (by decide) ?_
  refine gd_e hf (fun hg1 hf => ?_)
  refine ev_put S hK hM (ci := 8) (n := 8) (C := RX8) (T := TX8) hin8 tyX8 tyX8_ok nmX8 rfl hg1 4 (by decide) lk25 rfl rfl rfl rfl rfl (Nat.le_of_ble_eq_true rfl) rfl dX8_read_2 (fun I2 eI2 H locs hM => ?_)
  have hf := nm_x eI2 hf
  refine lv_aload_n hx hb dX8_read_5 rfl (lv_at hl 0 rfl) ?_
  refine lv_iconst (v := (-1 : Int32)) hx hb dX8_read_6 (by decide) ?_
  refine ev_put S hK hM (ci := 8) (n := 8) (C := RX8) (T := TX8) hin8 tyX8 tyX8_ok nmX8 rfl hg1 5 (by decide) lk28 rfl rfl rfl rfl rfl (Nat.le_of_ble_eq_true rfl) rfl dX8_read_7 (fun I3 eI3 H locs hM => ?_)
  have hf := nm_x eI3 hf
  refine lv_aload_n hx hb dX8_read_10 rfl (lv_at hl 0 rfl) ?_
  refine lv_iconst (v := (0 : Int32)) hx hb dX8_read_11 (by decide) ?_
  refine ev_put S hK hM (ci := 8) (n := 8) (C := RX8) (T := TX8) hin8 tyX8 tyX8_ok nmX8 rfl hg1 7 (by decide) lk31 rfl rfl rfl rfl rfl (Nat.le_of_ble_eq_true rfl) rfl dX8_read_12 (fun I4 eI4 H locs hM => ?_)
  have hf := nm_x eI4 hf
  refine lv_aload_n hx hb dX8_read_15 rfl (lv_at hl 0 rfl) ?_
  refine bd_e hf (fun r5 er5 hf => ?_)
  refine ev_callv (va_runV (As := []) (rest := []) S (c_X8_nextToken (l := l) I4 P a0 r5 er5) (cwV 0 hts (gi_v wa_2_210 wa_2_212 wa_s_5 wa_1_8 wa_2_213) rfl rfl rfl (by decide +kernel) ⟨Nat.le_of_ble_eq_true rfl, Nat.le_of_ble_eq_true rfl⟩) ⟨mm_B_blind, ev_recv hK hM (ci := 8) rfl hg1 rfl, fun U hU hW => ⟨rfl, mm_B_of hK hZ hM hU hW⟩⟩ rfl rfl hl.1 rfl (lv_room (Nat.le_of_ble_eq_true rfl)) dX8_read_16 ⟨Nat.zero_le _, Nat.zero_le _⟩) hM (fun H locs hM => ?_)
  refine lv_aload_n hx hb dX8_read_19 rfl (lv_at hl 0 rfl) ?_
  refine va_ldcS (q := z (10 + 0)) hx hb hown hZ.2.1.1.1 dX8_read_20 ?_
  refine bd_e hf (fun r6 er6 hf => ?_)
  refine ev_calli (va_runV (As := [.ref (z (10 + 0))]) (rest := []) S (c_X8_isWord (l := l) r5 P a0 (0) r6 er6) (cwV 1 hts (gi_v wa_2_224 wa_2_226 wa_s_6 wa_1_8 wa_2_227) rfl rfl rfl (by decide +kernel) ⟨Nat.le_of_ble_eq_true rfl, Nat.le_of_ble_eq_true rfl⟩) ⟨mm_B_blind, ev_recv hK hM (ci := 8) rfl hg1 rfl, fun U hU hW => ⟨rfl, mm_B_of hK hZ hM hU hW⟩⟩ rfl rfl hl.1 rfl (lv_room (Nat.le_of_ble_eq_true rfl)) dX8_read_22 ⟨Nat.zero_le _, Nat.zero_le _⟩) hM (fun H locs hM => ?_)
  refine bd_e hf (fun j8 ej8 hf => ?_)
  have kj8 : ∀ (H : Heap) (locs : List Loc) (ls : Array Slot), mm_W D cs A L K N s.heap j8 P H locs → lv_has ls 2 [(0, .ref a0)] → W p l e (headSpec wz_X8_read rm_X8_read).room s m ([.ref a0] : List Value).toArray below meth c H locs 0 0 QQ (F0 m 43 ls []) := by
    intro H locs ls hM hl
    refine lv_iconst (v := (0 : Int32)) hx hb dX8_read_43 (by decide) ?_
    refine lv_istore_n (lv' := [(1, .int (0 : Int32)), (0, .ref a0)]) hx hb dX8_read_44 rfl hl (by decide) rfl (fun ls hl => ?_)
    have lp45_17 : ∀ (n : Nat) (v9 : Int32) (I10 : Nat → Nat → Int32) (H : Heap) (locs : List Loc) (ls : Array Slot) (r11 : ((Nat → Nat → Int32)) ⊕ ((Nat → Nat → Int32))), mm_W D cs A L K N s.heap I10 P H locs → lv_has ls 2 [(0, .ref a0), (1, .int v9)] → fn_X8_read_L45 K N a0 P n v9 I10 = some r11 → (∀ xx12 : (Nat → Nat → Int32), r11 = Sum.inr xx12 → ∀ (H : Heap) (locs : List Loc) (ls : Array Slot), mm_W D cs A L K N s.heap xx12 P H locs → lv_has ls 2 [] → W p l e (headSpec wz_X8_read rm_X8_read).room s m ([.ref a0] : List Value).toArray below meth c H locs 0 0 QQ (F0 m 85 ls [])) → (∀ t : (Nat → Nat → Int32), r11 = Sum.inl t → t = res) → W p l e (headSpec wz_X8_read rm_X8_read).room s m ([.ref a0] : List Value).toArray below meth c H locs 0 0 QQ (F0 m 45 ls []) := by
      intro n
      induction n with
      | zero => intro v9 I10 H locs ls r11 hM hl hf kk kr; exact nn_x (show (none : Option (((Nat → Nat → Int32)) ⊕ ((Nat → Nat → Int32)))) = some r11 from hf)
      | succ n ih =>
        intro v9 I10 H locs ls r11 hM hl hf kk kr
        rw [fn_X8_read_L45] at hf
        refine lv_iload_n hx hb dX8_read_45 rfl (lv_at hl 1 rfl) ?_
        refine lv_bipush (v := (60 : Int32)) hx hb dX8_read_46 (by decide) ?_
        refine lv_icmp_ge (tgt := 85) hx hb dX8_read_48 (by decide) (fun hc13 => ?_) (fun hc13 => ?_)
        · have hf := it_p hf hc13
          exact kk _ (Option.some.inj hf).symm _ _ _ hM (lv_sub hl [] rfl)
        · have hf := it_n hf hc13
          refine lv_aload_n hx hb dX8_read_51 rfl (lv_at hl 0 rfl) ?_
          refine ev_get (v := .int (I10 a0 5)) S hK hM (ci := 8) (n := 8) (C := RX8) (T := TX8) hin8 rfl hg1 5 (by decide) lk28 rfl rfl rfl dX8_read_52 ?_
          refine lv_iconst (v := (-1 : Int32)) hx hb dX8_read_55 (by decide) ?_
          refine lv_icmp_ne (tgt := 85) hx hb dX8_read_56 (by decide) (fun hc14 => ?_) (fun hc14 => ?_)
          · have hf := it_n hf hc14
            exact kk _ (Option.some.inj hf).symm _ _ _ hM (lv_sub hl [] rfl)
          · have hf := it_p hf hc14
            refine lv_aload_n hx hb dX8_read_59 rfl (lv_at hl 0 rfl) ?_
            refine bd_e hf (fun r15 er15 hf => ?_)
            refine ev_callv (va_runV (As := []) (rest := []) S (c_X8_nextToken (l := l) I10 P a0 r15 er15) (cwV 0 hts (gi_v wa_2_210 wa_2_212 wa_s_5 wa_1_8 wa_2_213) rfl rfl rfl (by decide +kernel) ⟨Nat.le_of_ble_eq_true rfl, Nat.le_of_ble_eq_true rfl⟩) ⟨mm_B_blind, ev_recv hK hM (ci := 8) rfl hg1 rfl, fun U hU hW => ⟨rfl, mm_B_of hK hZ hM hU hW⟩⟩ rfl rfl hl.1 rfl (lv_room (Nat.le_of_ble_eq_true rfl)) dX8_read_60 ⟨Nat.zero_le _, Nat.zero_le _⟩) hM (fun H locs hM => ?_)
            refine lv_aload_n hx hb dX8_read_63 rfl (lv_at hl 0 rfl) ?_
            refine ev_get (v := .int (r15 a0 6)) S hK hM (ci := 8) (n := 8) (C := RX8) (T := TX8) hin8 rfl hg1 6 (by decide) lk46 rfl rfl rfl dX8_read_64 ?_
            refine lv_aload_n hx hb dX8_read_67 rfl (lv_at hl 0 rfl) ?_
            refine ev_get (v := .int (r15 a0 1)) S hK hM (ci := 8) (n := 8) (C := RX8) (T := TX8) hin8 rfl hg1 1 (by decide) lk21 rfl rfl rfl dX8_read_68 ?_
            refine lv_icmp_lt (tgt := 75) hx hb dX8_read_71 (by decide) (fun hc16 => ?_) (fun hc16 => ?_)
            · have hf := it_p hf hc16
              refine lv_aload_n hx hb dX8_read_75 rfl (lv_at hl 0 rfl) ?_
              refine bd_e hf (fun r17 er17 hf => ?_)
              refine ev_callv (va_runV (As := []) (rest := []) S (c_X8_readStep (l := l) r15 P a0 r17 er17) (cwV 0 hts (gi_v wa_3_53 wa_3_55 wa_s_11 wa_1_8 wa_3_56) rfl rfl rfl (by decide +kernel) ⟨Nat.le_of_ble_eq_true rfl, Nat.le_of_ble_eq_true rfl⟩) ⟨mm_B_blind, ev_recv hK hM (ci := 8) rfl hg1 rfl, fun U hU hW => ⟨rfl, mm_B_of hK hZ hM hU hW⟩⟩ rfl rfl hl.1 rfl (lv_room (Nat.le_of_ble_eq_true rfl)) dX8_read_76 ⟨Nat.zero_le _, Nat.zero_le _⟩) hM (fun H locs hM => ?_)
              refine lv_iinc (v := (v9 + (1 : Int32))) (lv' := [(1, .int (v9 + (1 : Int32))), (0, .ref a0)]) hx hb dX8_read_79 hl (k := 1) rfl rfl (by decide) rfl (fun ls hl => ?_)
              refine lv_goto (tgt := 45) hx hb dX8_read_82 (by decide) ?_
              exact ih (v9 + (1 : Int32)) r17 _ _ _ _ hM (lv_sub hl [1, 0] rfl) hf kk kr
            · have hf := it_n hf hc16
              have hrr := kr _ (Option.some.inj hf).symm
              subst hrr
              subst hQ
              exact ev_vret S hr hlocks hK hZ hM dX8_read_74
    refine bd_e hf (fun r11 er11 hf => ?_)
    refine lp45_17 FU (0 : Int32) j8 _ _ _ r11 hM (lv_sub hl [1, 0] rfl) er11 (fun xx12 exxx12 H locs ls hM hl => ?_) (fun t ht => by subst ht; exact Option.some.inj hf)
    subst exxx12
    have hf := sm_r hf
    obtain rfl := Option.some.inj hf
    subst hQ
    exact ev_vret S hr hlocks hK hZ hM dX8_read_85
  have hf := ej8
  refine lv_if_eq (tgt := 35) hx hb dX8_read_25 (by decide) (fun hc7 => ?_) (fun hc7 => ?_)
  · have hf := it_p hf hc7
    refine lv_aload_n hx hb dX8_read_35 rfl (lv_at hl 0 rfl) ?_
    refine lv_aload_n hx hb dX8_read_36 rfl (lv_at hl 0 rfl) ?_
    refine ev_get (v := .int (r5 a0 6)) S hK hM (ci := 8) (n := 8) (C := RX8) (T := TX8) hin8 rfl hg1 6 (by decide) lk46 rfl rfl rfl dX8_read_37 ?_
    refine ev_put S hK hM (ci := 8) (n := 8) (C := RX8) (T := TX8) hin8 tyX8 tyX8_ok nmX8 rfl hg1 5 (by decide) lk28 rfl rfl rfl rfl rfl (Nat.le_of_ble_eq_true rfl) rfl dX8_read_40 (fun I18 eI18 H locs hM => ?_)
    have hf := nm_x eI18 hf
    obtain rfl := Option.some.inj hf
    exact kj8 _ _ _ hM (hl)
  · have hf := it_n hf hc7
    refine lv_aload_n hx hb dX8_read_28 rfl (lv_at hl 0 rfl) ?_
    refine bd_e hf (fun r19 er19 hf => ?_)
    refine ev_callv (va_runV (As := []) (rest := []) S (c_X8_readPlace (l := l) r5 P a0 r19 er19) (cwV 0 hts (gi_v wa_3_36 wa_3_38 wa_s_7 wa_1_8 wa_3_39) rfl rfl rfl (by decide +kernel) ⟨Nat.le_of_ble_eq_true rfl, Nat.le_of_ble_eq_true rfl⟩) ⟨mm_B_blind, ev_recv hK hM (ci := 8) rfl hg1 rfl, fun U hU hW => ⟨rfl, mm_B_of hK hZ hM hU hW⟩⟩ rfl rfl hl.1 rfl (lv_room (Nat.le_of_ble_eq_true rfl)) dX8_read_29 ⟨Nat.zero_le _, Nat.zero_le _⟩) hM (fun H locs hM => ?_)
    refine lv_goto (tgt := 43) hx hb dX8_read_32 (by decide) ?_
    obtain rfl := Option.some.inj hf
    exact kj8 _ _ _ hM (hl)
noncomputable def fn_X9_isByte (x0 : Int32) : Option (Int32) := Option.bind (fn_X9_isWithin x0 (0 : Int32) (255 : Int32)) (fun (r1 : Int32) => gd (r1 = 0 ∨ r1 = 1) (some r1))
abbrev wz_X9_isByte : List Cond := Cond.code yX9_isByte cX9_isByte 1 (some .boolean) :: WA
abbrev rm_X9_isByte : Room := { frames := 2, cells := 0, slots := 0, locals := 34 }
set_option maxHeartbeats 4000000 in
set_option maxRecDepth 100000 in
theorem c_X9_isByte (I : Nat → Nat → Int32) (P : Nat → Nat → Option Nat) (x0 : Int32) (res : Int32) (hf : fn_X9_isByte x0 = some res) : Met l yX9_isByte wz_X9_isByte rm_X9_isByte (va_Pc [.int x0] (mm_B D cs A L K N z w I P)) (va_Qi (fun r (_ : Unit) => r = res) (fun _ => mm_B D cs A L K N z w I P) A) 0 0 A := by
  refine Met.ofW (cc := cX9_isByte) (maxL := 1) (ret := (some .boolean)) (by decide) rfl ?_
  intro p e s m args below meth c s₁ B hml hv
  obtain ⟨rfl, hBm⟩ := hv
  have hx := B.exec
  have hb := B.bytes
  have hr := B.returns
  have hts := atoms_spec (ws := wz_X9_isByte) B.pre
  have hWA : ∀ w ∈ WA, w.before ([.int x0] : List Value).toArray s = true := fun u9 h9 => hts u9 (List.mem_cons_of_mem _ h9)
  have hown : s.vm.findClass RX9 = some m.cls := findClass_of_methodNamed B.named
  have hlocks := B.notSynchronized
  have S : CallFix p m c cX9_isByte 1 s ([.int x0] : List Value).toArray wz_X9_isByte RX9 := ⟨hx, hb, hml, hown, hts⟩
  have hK := hBm.2.2.2.1
  have hZ := hBm.2.2.2.2
  have hM : mm_W D cs A L K N s.heap I P s.heap [] := ⟨hBm.1, hBm.2.1, hBm.2.2.1, va_S.rf⟩
  have hl := lv_entry ([.int x0]) (n := 1) (Nat.le_of_ble_eq_true rfl)
  rw [lg_entry_eq]
  generalize (lg_sl ([.int x0]) ++ List.replicate (1 - (lg_sl ([.int x0])).length) Slot.unset).toArray = ls at hl ⊢
  have hl : lv_has ls 1 [(0, .int x0)] := hl
  generalize hQ : MQ below (va_Qi (fun r (_ : Unit) => r = res) (fun _ => mm_B D cs A L K N z w I P) A) ([.int x0] : List Value).toArray s 0 0 A = QQ
  unfold fn_X9_isByte at hf
  refine lv_iload_n hx hb dX9_isByte_0 rfl (lv_at hl 0 rfl) ?_
  refine lv_iconst (v := (0 : Int32)) hx hb dX9_isByte_1 (by decide) ?_
  refine lv_sipush (v := (255 : Int32)) hx hb dX9_isByte_2 (by decide) ?_
  refine bd_e hf (fun r1 er1 hf => ?_)
  refine ev_calli (va_runS (As := [.int x0, .int (0 : Int32), .int (255 : Int32)]) (rest := []) S (c_X9_isWithin (l := l) I P x0 (0 : Int32) (255 : Int32) r1 er1) (va_cwS 3 hts (gi_s wa_2_47 wa_2_48 wa_1_1 wa_2_49) rfl rfl rfl (by decide +kernel) ⟨Nat.le_of_ble_eq_true rfl, Nat.le_of_ble_eq_true rfl⟩) ⟨mm_B_blind, fun U hU hW => ⟨rfl, mm_B_of hK hZ hM hU hW⟩⟩ rfl rfl hl.1 rfl (lv_room (Nat.le_of_ble_eq_true rfl)) dX9_isByte_5 ⟨Nat.zero_le _, Nat.zero_le _⟩) hM (fun H locs hM => ?_)
  refine gd_e hf (fun hg2 hf => ?_)
  obtain rfl := Option.some.inj hf
  subst hQ
  exact ev_zret (v := r1) S hr hlocks hK hZ hM (nar_b hg2) dX9_isByte_8
noncomputable def fn_X9_isDress (x0 : Int32) (x1 : Int32) (x2 : Int32) : Option (Int32) := Option.bind (fn_X9_isWithin x0 (0 : Int32) (5 : Int32)) (fun (r1 : Int32) => if r1 = 0 then (some (0 : Int32)) else (Option.bind (fn_X9_isWithin x1 (0 : Int32) (99 : Int32)) (fun (r3 : Int32) => if r3 = 0 then (some (0 : Int32)) else (Option.bind (fn_X9_isByte x2) (fun (r5 : Int32) => if r5 = 0 then (some (0 : Int32)) else (some (1 : Int32)))))))
abbrev wz_X9_isDress : List Cond := Cond.code yX9_isDress cX9_isDress 3 (some .boolean) :: WA
abbrev rm_X9_isDress : Room := { frames := 3, cells := 0, slots := 0, locals := 54 }
set_option maxHeartbeats 4000000 in
set_option maxRecDepth 100000 in
theorem c_X9_isDress (I : Nat → Nat → Int32) (P : Nat → Nat → Option Nat) (x0 : Int32) (x1 : Int32) (x2 : Int32) (res : Int32) (hf : fn_X9_isDress x0 x1 x2 = some res) : Met l yX9_isDress wz_X9_isDress rm_X9_isDress (va_Pc [.int x0, .int x1, .int x2] (mm_B D cs A L K N z w I P)) (va_Qi (fun r (_ : Unit) => r = res) (fun _ => mm_B D cs A L K N z w I P) A) 0 0 A := by
  refine Met.ofW (cc := cX9_isDress) (maxL := 3) (ret := (some .boolean)) (by decide) rfl ?_
  intro p e s m args below meth c s₁ B hml hv
  obtain ⟨rfl, hBm⟩ := hv
  have hx := B.exec
  have hb := B.bytes
  have hr := B.returns
  have hts := atoms_spec (ws := wz_X9_isDress) B.pre
  have hWA : ∀ w ∈ WA, w.before ([.int x0, .int x1, .int x2] : List Value).toArray s = true := fun u9 h9 => hts u9 (List.mem_cons_of_mem _ h9)
  have hown : s.vm.findClass RX9 = some m.cls := findClass_of_methodNamed B.named
  have hlocks := B.notSynchronized
  have S : CallFix p m c cX9_isDress 3 s ([.int x0, .int x1, .int x2] : List Value).toArray wz_X9_isDress RX9 := ⟨hx, hb, hml, hown, hts⟩
  have hK := hBm.2.2.2.1
  have hZ := hBm.2.2.2.2
  have hM : mm_W D cs A L K N s.heap I P s.heap [] := ⟨hBm.1, hBm.2.1, hBm.2.2.1, va_S.rf⟩
  have hl := lv_entry ([.int x0, .int x1, .int x2]) (n := 3) (Nat.le_of_ble_eq_true rfl)
  rw [lg_entry_eq]
  generalize (lg_sl ([.int x0, .int x1, .int x2]) ++ List.replicate (3 - (lg_sl ([.int x0, .int x1, .int x2])).length) Slot.unset).toArray = ls at hl ⊢
  have hl : lv_has ls 3 [(0, .int x0), (1, .int x1), (2, .int x2)] := hl
  generalize hQ : MQ below (va_Qi (fun r (_ : Unit) => r = res) (fun _ => mm_B D cs A L K N z w I P) A) ([.int x0, .int x1, .int x2] : List Value).toArray s 0 0 A = QQ
  unfold fn_X9_isDress at hf
  refine lv_iload_n hx hb dX9_isDress_0 rfl (lv_at hl 0 rfl) ?_
  refine lv_iconst (v := (0 : Int32)) hx hb dX9_isDress_1 (by decide) ?_
  refine lv_iconst (v := (5 : Int32)) hx hb dX9_isDress_2 (by decide) ?_
  refine bd_e hf (fun r1 er1 hf => ?_)
  refine ev_calli (va_runS (As := [.int x0, .int (0 : Int32), .int (5 : Int32)]) (rest := []) S (c_X9_isWithin (l := l) I P x0 (0 : Int32) (5 : Int32) r1 er1) (va_cwS 3 hts (gi_s wa_2_47 wa_2_48 wa_1_1 wa_2_49) rfl rfl rfl (by decide +kernel) ⟨Nat.le_of_ble_eq_true rfl, Nat.le_of_ble_eq_true rfl⟩) ⟨mm_B_blind, fun U hU hW => ⟨rfl, mm_B_of hK hZ hM hU hW⟩⟩ rfl rfl hl.1 rfl (lv_room (Nat.le_of_ble_eq_true rfl)) dX9_isDress_3 ⟨Nat.zero_le _, Nat.zero_le _⟩) hM (fun H locs hM => ?_)
  refine lv_if_eq (tgt := 30) hx hb dX9_isDress_6 (by decide) (fun hc2 => ?_) (fun hc2 => ?_)
  · have hf := it_p hf hc2
    refine lv_iconst (v := (0 : Int32)) hx hb dX9_isDress_30 (by decide) ?_
    obtain rfl := Option.some.inj hf
    subst hQ
    exact ev_zret (v := (0 : Int32)) S hr hlocks hK hZ hM rfl dX9_isDress_31
  · have hf := it_n hf hc2
    refine lv_iload_n hx hb dX9_isDress_9 rfl (lv_at hl 1 rfl) ?_
    refine lv_iconst (v := (0 : Int32)) hx hb dX9_isDress_10 (by decide) ?_
    refine lv_bipush (v := (99 : Int32)) hx hb dX9_isDress_11 (by decide) ?_
    refine bd_e hf (fun r3 er3 hf => ?_)
    refine ev_calli (va_runS (As := [.int x1, .int (0 : Int32), .int (99 : Int32)]) (rest := []) S (c_X9_isWithin (l := l) I P x1 (0 : Int32) (99 : Int32) r3 er3) (va_cwS 3 hts (gi_s wa_2_47 wa_2_48 wa_1_1 wa_2_49) rfl rfl rfl (by decide +kernel) ⟨Nat.le_of_ble_eq_true rfl, Nat.le_of_ble_eq_true rfl⟩) ⟨mm_B_blind, fun U hU hW => ⟨rfl, mm_B_of hK hZ hM hU hW⟩⟩ rfl rfl hl.1 rfl (lv_room (Nat.le_of_ble_eq_true rfl)) dX9_isDress_13 ⟨Nat.zero_le _, Nat.zero_le _⟩) hM (fun H locs hM => ?_)
    refine lv_if_eq (tgt := 30) hx hb dX9_isDress_16 (by decide) (fun hc4 => ?_) (fun hc4 => ?_)
    · have hf := it_p hf hc4
      refine lv_iconst (v := (0 : Int32)) hx hb dX9_isDress_30 (by decide) ?_
      obtain rfl := Option.some.inj hf
      subst hQ
      exact ev_zret (v := (0 : Int32)) S hr hlocks hK hZ hM rfl dX9_isDress_31
    · have hf := it_n hf hc4
      refine lv_iload_n hx hb dX9_isDress_19 rfl (lv_at hl 2 rfl) ?_
      refine bd_e hf (fun r5 er5 hf => ?_)
      refine ev_calli (va_runS (As := [.int x2]) (rest := []) S (c_X9_isByte (l := l) I P x2 r5 er5) (va_cwS 1 hts (gi_s wa_2_50 wa_2_51 wa_1_1 wa_2_52) rfl rfl rfl (by decide +kernel) ⟨Nat.le_of_ble_eq_true rfl, Nat.le_of_ble_eq_true rfl⟩) ⟨mm_B_blind, fun U hU hW => ⟨rfl, mm_B_of hK hZ hM hU hW⟩⟩ rfl rfl hl.1 rfl (lv_room (Nat.le_of_ble_eq_true rfl)) dX9_isDress_20 ⟨Nat.zero_le _, Nat.zero_le _⟩) hM (fun H locs hM => ?_)
      refine lv_if_eq (tgt := 30) hx hb dX9_isDress_23 (by decide) (fun hc6 => ?_) (fun hc6 => ?_)
      · have hf := it_p hf hc6
        refine lv_iconst (v := (0 : Int32)) hx hb dX9_isDress_30 (by decide) ?_
        obtain rfl := Option.some.inj hf
        subst hQ
        exact ev_zret (v := (0 : Int32)) S hr hlocks hK hZ hM rfl dX9_isDress_31
      · have hf := it_n hf hc6
        refine lv_iconst (v := (1 : Int32)) hx hb dX9_isDress_26 (by decide) ?_
        refine lv_goto (tgt := 31) hx hb dX9_isDress_27 (by decide) ?_
        obtain rfl := Option.some.inj hf
        subst hQ
        exact ev_zret (v := (1 : Int32)) S hr hlocks hK hZ hM rfl dX9_isDress_31
noncomputable def fn_X9_layer (K N : Nat → Nat) (I : Nat → Nat → Int32) (P : Nat → Nat → Option Nat) (a0 : Nat) (x1 : Int32) (x2 : Int32) (x3 : Int32) : Option (Int32 × (Nat → Nat → Int32)) := Option.bind (fn_X9_isDress x1 x2 x3) (fun (r1 : Int32) => if r1 = 0 then (some ((-2 : Int32), I)) else (gd (K a0 = 10) (Option.bind (P a0 (0)) (fun q4 => gd (K q4 = 7) (if (I q4 1) < (4 : Int32) then (Option.bind (fn_X6_addLayer K N I P q4 x1 x2 x3) (fun (r7 : Int32 × (Nat → Nat → Int32)) => some (r7.1, r7.2))) else (some ((-4 : Int32), I)))))))
abbrev wz_X9_layer : List Cond := Cond.code yX9_layer cX9_layer 4 (some .int) :: WA
abbrev rm_X9_layer : Room := { frames := 4, cells := 0, slots := 0, locals := 78 }
set_option maxHeartbeats 4000000 in
set_option maxRecDepth 100000 in
theorem c_X9_layer (I : Nat → Nat → Int32) (P : Nat → Nat → Option Nat) (a0 : Nat) (x1 : Int32) (x2 : Int32) (x3 : Int32) (res : Int32 × (Nat → Nat → Int32)) (hf : fn_X9_layer K N I P a0 x1 x2 x3 = some res) : Met l yX9_layer wz_X9_layer rm_X9_layer (va_Pc [.ref a0, .int x1, .int x2, .int x3] (mm_B D cs A L K N z w I P)) (va_Qi (fun r (_ : Unit) => r = res.1) (fun _ => mm_B D cs A L K N z w res.2 P) A) 0 0 A := by
  refine Met.ofW (cc := cX9_layer) (maxL := 4) (ret := (some .int)) (by decide) rfl ?_
  intro p e s m args below meth c s₁ B hml hv
  obtain ⟨rfl, hBm⟩ := hv
  have hx := B.exec
  have hb := B.bytes
  have hr := B.returns
  have hts := atoms_spec (ws := wz_X9_layer) B.pre
  have hWA : ∀ w ∈ WA, w.before ([.ref a0, .int x1, .int x2, .int x3] : List Value).toArray s = true := fun u9 h9 => hts u9 (List.mem_cons_of_mem _ h9)
  have hown : s.vm.findClass RX9 = some m.cls := findClass_of_methodNamed B.named
  have hlocks := B.notSynchronized
  have S : CallFix p m c cX9_layer 4 s ([.ref a0, .int x1, .int x2, .int x3] : List Value).toArray wz_X9_layer RX9 := ⟨hx, hb, hml, hown, hts⟩
  have hK := hBm.2.2.2.1
  have hZ := hBm.2.2.2.2
  have hM : mm_W D cs A L K N s.heap I P s.heap [] := ⟨hBm.1, hBm.2.1, hBm.2.2.1, va_S.rf⟩
  have hl := lv_entry ([.ref a0, .int x1, .int x2, .int x3]) (n := 4) (Nat.le_of_ble_eq_true rfl)
  rw [lg_entry_eq]
  generalize (lg_sl ([.ref a0, .int x1, .int x2, .int x3]) ++ List.replicate (4 - (lg_sl ([.ref a0, .int x1, .int x2, .int x3])).length) Slot.unset).toArray = ls at hl ⊢
  have hl : lv_has ls 4 [(0, .ref a0), (1, .int x1), (2, .int x2), (3, .int x3)] := hl
  have hin9 : ∀ w ∈ wsX90, w ∈ wz_X9_layer := fun w h => List.mem_cons_of_mem _ (wu_X9 w h)
  have hin6 : ∀ w ∈ wsX60, w ∈ wz_X9_layer := fun w h => List.mem_cons_of_mem _ (wu_X6 w h)
  have lk10 : (Cond.fieldLink RX9 10 RX9 "picture" "LRasterPainter$Picture;").before ([.ref a0, .int x1, .int x2, .int x3] : List Value).toArray s = true := hWA _ wa_2_15
  have lk59 : (Cond.fieldLink RX9 59 RX6 "layerCount" "I").before ([.ref a0, .int x1, .int x2, .int x3] : List Value).toArray s = true := hWA _ wa_1_153
  generalize hQ : MQ below (va_Qi (fun r (_ : Unit) => r = res.1) (fun _ => mm_B D cs A L K N z w res.2 P) A) ([.ref a0, .int x1, .int x2, .int x3] : List Value).toArray s 0 0 A = QQ
  rw [fn_X9_layer] at hf
  refine lv_iload_n hx hb dX9_layer_0 rfl (lv_at hl 1 rfl) ?_
  refine lv_iload_n hx hb dX9_layer_1 rfl (lv_at hl 2 rfl) ?_
  refine lv_iload_n hx hb dX9_layer_2 rfl (lv_at hl 3 rfl) ?_
  refine bd_e hf (fun r1 er1 hf => ?_)
  refine ev_calli (va_runS (As := [.int x1, .int x2, .int x3]) (rest := []) S (c_X9_isDress (l := l) I P x1 x2 x3 r1 er1) (va_cwS 3 hts (gi_s wa_2_44 wa_2_45 wa_1_1 wa_2_46) rfl rfl rfl (by decide +kernel) ⟨Nat.le_of_ble_eq_true rfl, Nat.le_of_ble_eq_true rfl⟩) ⟨mm_B_blind, fun U hU hW => ⟨rfl, mm_B_of hK hZ hM hU hW⟩⟩ rfl rfl hl.1 rfl (lv_room (Nat.le_of_ble_eq_true rfl)) dX9_layer_3 ⟨Nat.zero_le _, Nat.zero_le _⟩) hM (fun H locs hM => ?_)
  refine lv_if_ne (tgt := 12) hx hb dX9_layer_6 (by decide) (fun hc2 => ?_) (fun hc2 => ?_)
  · have hf := it_n hf hc2
    refine lv_aload_n hx hb dX9_layer_12 rfl (lv_at hl 0 rfl) ?_
    refine gd_e hf (fun hg3 hf => ?_)
    refine bd_e hf (fun q4 eq4 hf => ?_)
    refine ev_getP (v := q4) S hK hM (ci := 9) (n := 8) (C := RX9) (T := TX9) hin9 rfl hg3 0 (by decide) lk10 rfl rfl eq4 rfl dX9_layer_13 ?_
    refine gd_e hf (fun hg5 hf => ?_)
    refine ev_get (v := .int (I q4 1)) S hK hM (ci := 6) (n := 6) (C := RX6) (T := TX6) hin6 rfl hg5 1 (by decide) lk59 rfl rfl rfl dX9_layer_16 ?_
    refine lv_iconst (v := (4 : Int32)) hx hb dX9_layer_19 (by decide) ?_
    refine lv_icmp_lt (tgt := 26) hx hb dX9_layer_20 (by decide) (fun hc6 => ?_) (fun hc6 => ?_)
    · have hf := it_p hf hc6
      refine lv_aload_n hx hb dX9_layer_26 rfl (lv_at hl 0 rfl) ?_
      refine ev_getP (v := q4) S hK hM (ci := 9) (n := 8) (C := RX9) (T := TX9) hin9 rfl hg3 0 (by decide) lk10 rfl rfl eq4 rfl dX9_layer_27 ?_
      refine lv_iload_n hx hb dX9_layer_30 rfl (lv_at hl 1 rfl) ?_
      refine lv_iload_n hx hb dX9_layer_31 rfl (lv_at hl 2 rfl) ?_
      refine lv_iload_n hx hb dX9_layer_32 rfl (lv_at hl 3 rfl) ?_
      refine bd_e hf (fun r7 er7 hf => ?_)
      refine ev_calli (va_runV (As := [.int x1, .int x2, .int x3]) (rest := []) S (c_X6_addLayer (l := l) I P q4 x1 x2 x3 r7 er7) (cwV 3 hts (gi_v wa_2_53 wa_2_54 wa_2_55 wa_1_2 wa_2_56) rfl rfl rfl (by decide +kernel) ⟨Nat.le_of_ble_eq_true rfl, Nat.le_of_ble_eq_true rfl⟩) ⟨mm_B_blind, ev_recv hK hM (ci := 6) rfl hg5 rfl, fun U hU hW => ⟨rfl, mm_B_of hK hZ hM hU hW⟩⟩ rfl rfl hl.1 rfl (lv_room (Nat.le_of_ble_eq_true rfl)) dX9_layer_33 ⟨Nat.zero_le _, Nat.zero_le _⟩) hM (fun H locs hM => ?_)
      obtain rfl := Option.some.inj hf
      subst hQ
      exact ev_iret S hr hlocks hK hZ hM dX9_layer_36
    · have hf := it_n hf hc6
      refine lv_bipush (v := (-4 : Int32)) hx hb dX9_layer_23 (by decide) ?_
      obtain rfl := Option.some.inj hf
      subst hQ
      exact ev_iret S hr hlocks hK hZ hM dX9_layer_25
  · have hf := it_p hf hc2
    refine lv_bipush (v := (-2 : Int32)) hx hb dX9_layer_9 (by decide) ?_
    obtain rfl := Option.some.inj hf
    subst hQ
    exact ev_iret S hr hlocks hK hZ hM dX9_layer_11
noncomputable def fn_X9_drop (K N : Nat → Nat) (I : Nat → Nat → Int32) (P : Nat → Nat → Option Nat) (a0 : Nat) (x1 : Int32) : Option (Int32 × (Nat → Nat → Int32) × (Nat → Nat → Option Nat)) := gd (K a0 = 10) (Option.bind (P a0 (0)) (fun q2 => Option.bind (fn_X6_hasLayer K N I P q2 x1) (fun (r3 : Int32) => gd (K q2 = 7) (if r3 = 0 then (some ((-2 : Int32), I, P)) else (Option.bind (fn_X6_removeLayer K N I P q2 x1) (fun (r6 : (Nat → Nat → Int32) × (Nat → Nat → Option Nat)) => Option.bind (r6.2 a0 (0)) (fun q7 => gd (K q7 = 7) (some ((r6.1 q7 1), r6.1, r6.2)))))))))
abbrev wz_X9_drop : List Cond := Cond.code yX9_drop cX9_drop 2 (some .int) :: WA
abbrev rm_X9_drop : Room := { frames := 4, cells := 0, slots := 0, locals := 77 }
set_option maxHeartbeats 4000000 in
set_option maxRecDepth 100000 in
theorem c_X9_drop (I : Nat → Nat → Int32) (P : Nat → Nat → Option Nat) (a0 : Nat) (x1 : Int32) (res : Int32 × (Nat → Nat → Int32) × (Nat → Nat → Option Nat)) (hf : fn_X9_drop K N I P a0 x1 = some res) : Met l yX9_drop wz_X9_drop rm_X9_drop (va_Pc [.ref a0, .int x1] (mm_B D cs A L K N z w I P)) (va_Qi (fun r (_ : Unit) => r = res.1) (fun _ => mm_B D cs A L K N z w res.2.1 res.2.2) A) 0 0 A := by
  refine Met.ofW (cc := cX9_drop) (maxL := 2) (ret := (some .int)) (by decide) rfl ?_
  intro p e s m args below meth c s₁ B hml hv
  obtain ⟨rfl, hBm⟩ := hv
  have hx := B.exec
  have hb := B.bytes
  have hr := B.returns
  have hts := atoms_spec (ws := wz_X9_drop) B.pre
  have hWA : ∀ w ∈ WA, w.before ([.ref a0, .int x1] : List Value).toArray s = true := fun u9 h9 => hts u9 (List.mem_cons_of_mem _ h9)
  have hown : s.vm.findClass RX9 = some m.cls := findClass_of_methodNamed B.named
  have hlocks := B.notSynchronized
  have S : CallFix p m c cX9_drop 2 s ([.ref a0, .int x1] : List Value).toArray wz_X9_drop RX9 := ⟨hx, hb, hml, hown, hts⟩
  have hK := hBm.2.2.2.1
  have hZ := hBm.2.2.2.2
  have hM : mm_W D cs A L K N s.heap I P s.heap [] := ⟨hBm.1, hBm.2.1, hBm.2.2.1, va_S.rf⟩
  have hl := lv_entry ([.ref a0, .int x1]) (n := 2) (Nat.le_of_ble_eq_true rfl)
  rw [lg_entry_eq]
  generalize (lg_sl ([.ref a0, .int x1]) ++ List.replicate (2 - (lg_sl ([.ref a0, .int x1])).length) Slot.unset).toArray = ls at hl ⊢
  have hl : lv_has ls 2 [(0, .ref a0), (1, .int x1)] := hl
  have hin9 : ∀ w ∈ wsX90, w ∈ wz_X9_drop := fun w h => List.mem_cons_of_mem _ (wu_X9 w h)
  have hin6 : ∀ w ∈ wsX60, w ∈ wz_X9_drop := fun w h => List.mem_cons_of_mem _ (wu_X6 w h)
  have lk10 : (Cond.fieldLink RX9 10 RX9 "picture" "LRasterPainter$Picture;").before ([.ref a0, .int x1] : List Value).toArray s = true := hWA _ wa_2_15
  have lk59 : (Cond.fieldLink RX9 59 RX6 "layerCount" "I").before ([.ref a0, .int x1] : List Value).toArray s = true := hWA _ wa_1_153
  generalize hQ : MQ below (va_Qi (fun r (_ : Unit) => r = res.1) (fun _ => mm_B D cs A L K N z w res.2.1 res.2.2) A) ([.ref a0, .int x1] : List Value).toArray s 0 0 A = QQ
  rw [fn_X9_drop] at hf
  refine lv_aload_n hx hb dX9_drop_0 rfl (lv_at hl 0 rfl) ?_
  refine gd_e hf (fun hg1 hf => ?_)
  refine bd_e hf (fun q2 eq2 hf => ?_)
  refine ev_getP (v := q2) S hK hM (ci := 9) (n := 8) (C := RX9) (T := TX9) hin9 rfl hg1 0 (by decide) lk10 rfl rfl eq2 rfl dX9_drop_1 ?_
  refine lv_iload_n hx hb dX9_drop_4 rfl (lv_at hl 1 rfl) ?_
  refine bd_e hf (fun r3 er3 hf => ?_)
  refine gd_e hf (fun hg4 hf => ?_)
  refine ev_calli (va_runV (As := [.int x1]) (rest := []) S (c_X6_hasLayer (l := l) I P q2 x1 r3 er3) (cwV 1 hts (gi_v wa_2_76 wa_2_77 wa_2_78 wa_1_2 wa_2_79) rfl rfl rfl (by decide +kernel) ⟨Nat.le_of_ble_eq_true rfl, Nat.le_of_ble_eq_true rfl⟩) ⟨mm_B_blind, ev_recv hK hM (ci := 6) rfl hg4 rfl, fun U hU hW => ⟨rfl, mm_B_of hK hZ hM hU hW⟩⟩ rfl rfl hl.1 rfl (lv_room (Nat.le_of_ble_eq_true rfl)) dX9_drop_5 ⟨Nat.zero_le _, Nat.zero_le _⟩) hM (fun H locs hM => ?_)
  refine lv_if_ne (tgt := 14) hx hb dX9_drop_8 (by decide) (fun hc5 => ?_) (fun hc5 => ?_)
  · have hf := it_n hf hc5
    refine lv_aload_n hx hb dX9_drop_14 rfl (lv_at hl 0 rfl) ?_
    refine ev_getP (v := q2) S hK hM (ci := 9) (n := 8) (C := RX9) (T := TX9) hin9 rfl hg1 0 (by decide) lk10 rfl rfl eq2 rfl dX9_drop_15 ?_
    refine lv_iload_n hx hb dX9_drop_18 rfl (lv_at hl 1 rfl) ?_
    refine bd_e hf (fun r6 er6 hf => ?_)
    refine ev_callv (va_runV (As := [.int x1]) (rest := []) S (c_X6_removeLayer (l := l) I P q2 x1 r6 er6) (cwV 1 hts (gi_v wa_2_80 wa_2_81 wa_2_82 wa_1_2 wa_2_83) rfl rfl rfl (by decide +kernel) ⟨Nat.le_of_ble_eq_true rfl, Nat.le_of_ble_eq_true rfl⟩) ⟨mm_B_blind, ev_recv hK hM (ci := 6) rfl hg4 rfl, fun U hU hW => ⟨rfl, mm_B_of hK hZ hM hU hW⟩⟩ rfl rfl hl.1 rfl (lv_room (Nat.le_of_ble_eq_true rfl)) dX9_drop_19 ⟨Nat.zero_le _, Nat.zero_le _⟩) hM (fun H locs hM => ?_)
    refine lv_aload_n hx hb dX9_drop_22 rfl (lv_at hl 0 rfl) ?_
    refine bd_e hf (fun q7 eq7 hf => ?_)
    refine ev_getP (v := q7) S hK hM (ci := 9) (n := 8) (C := RX9) (T := TX9) hin9 rfl hg1 0 (by decide) lk10 rfl rfl eq7 rfl dX9_drop_23 ?_
    refine gd_e hf (fun hg8 hf => ?_)
    refine ev_get (v := .int (r6.1 q7 1)) S hK hM (ci := 6) (n := 6) (C := RX6) (T := TX6) hin6 rfl hg8 1 (by decide) lk59 rfl rfl rfl dX9_drop_26 ?_
    obtain rfl := Option.some.inj hf
    subst hQ
    exact ev_iret S hr hlocks hK hZ hM dX9_drop_29
  · have hf := it_p hf hc5
    refine lv_bipush (v := (-2 : Int32)) hx hb dX9_drop_11 (by decide) ?_
    obtain rfl := Option.some.inj hf
    subst hQ
    exact ev_iret S hr hlocks hK hZ hM dX9_drop_13
noncomputable def fn_X9_move (K N : Nat → Nat) (I : Nat → Nat → Int32) (P : Nat → Nat → Option Nat) (a0 : Nat) (x1 : Int32) (x2 : Int32) : Option (Int32 × (Nat → Nat → Int32) × (Nat → Nat → Option Nat)) := gd (K a0 = 10) (Option.bind (P a0 (0)) (fun q2 => Option.bind (fn_X6_hasLayer K N I P q2 x1) (fun (r3 : Int32) => gd (K q2 = 7) (if r3 = 0 then (some ((-2 : Int32), I, P)) else (Option.bind (fn_X6_hasLayer K N I P q2 x2) (fun (r6 : Int32) => if r6 = 0 then (some ((-2 : Int32), I, P)) else (Option.bind (fn_X6_shiftLayer K N I P q2 x1 x2) (fun (r8 : (Nat → Nat → Int32) × (Nat → Nat → Option Nat)) => some (x2, r8.1, r8.2)))))))))
abbrev wz_X9_move : List Cond := Cond.code yX9_move cX9_move 3 (some .int) :: WA
abbrev rm_X9_move : Room := { frames := 3, cells := 0, slots := 0, locals := 56 }
set_option maxHeartbeats 4000000 in
set_option maxRecDepth 100000 in
theorem c_X9_move (I : Nat → Nat → Int32) (P : Nat → Nat → Option Nat) (a0 : Nat) (x1 : Int32) (x2 : Int32) (res : Int32 × (Nat → Nat → Int32) × (Nat → Nat → Option Nat)) (hf : fn_X9_move K N I P a0 x1 x2 = some res) : Met l yX9_move wz_X9_move rm_X9_move (va_Pc [.ref a0, .int x1, .int x2] (mm_B D cs A L K N z w I P)) (va_Qi (fun r (_ : Unit) => r = res.1) (fun _ => mm_B D cs A L K N z w res.2.1 res.2.2) A) 0 0 A := by
  refine Met.ofW (cc := cX9_move) (maxL := 3) (ret := (some .int)) (by decide) rfl ?_
  intro p e s m args below meth c s₁ B hml hv
  obtain ⟨rfl, hBm⟩ := hv
  have hx := B.exec
  have hb := B.bytes
  have hr := B.returns
  have hts := atoms_spec (ws := wz_X9_move) B.pre
  have hWA : ∀ w ∈ WA, w.before ([.ref a0, .int x1, .int x2] : List Value).toArray s = true := fun u9 h9 => hts u9 (List.mem_cons_of_mem _ h9)
  have hown : s.vm.findClass RX9 = some m.cls := findClass_of_methodNamed B.named
  have hlocks := B.notSynchronized
  have S : CallFix p m c cX9_move 3 s ([.ref a0, .int x1, .int x2] : List Value).toArray wz_X9_move RX9 := ⟨hx, hb, hml, hown, hts⟩
  have hK := hBm.2.2.2.1
  have hZ := hBm.2.2.2.2
  have hM : mm_W D cs A L K N s.heap I P s.heap [] := ⟨hBm.1, hBm.2.1, hBm.2.2.1, va_S.rf⟩
  have hl := lv_entry ([.ref a0, .int x1, .int x2]) (n := 3) (Nat.le_of_ble_eq_true rfl)
  rw [lg_entry_eq]
  generalize (lg_sl ([.ref a0, .int x1, .int x2]) ++ List.replicate (3 - (lg_sl ([.ref a0, .int x1, .int x2])).length) Slot.unset).toArray = ls at hl ⊢
  have hl : lv_has ls 3 [(0, .ref a0), (1, .int x1), (2, .int x2)] := hl
  have hin9 : ∀ w ∈ wsX90, w ∈ wz_X9_move := fun w h => List.mem_cons_of_mem _ (wu_X9 w h)
  have lk10 : (Cond.fieldLink RX9 10 RX9 "picture" "LRasterPainter$Picture;").before ([.ref a0, .int x1, .int x2] : List Value).toArray s = true := hWA _ wa_2_15
  generalize hQ : MQ below (va_Qi (fun r (_ : Unit) => r = res.1) (fun _ => mm_B D cs A L K N z w res.2.1 res.2.2) A) ([.ref a0, .int x1, .int x2] : List Value).toArray s 0 0 A = QQ
  rw [fn_X9_move] at hf
  refine lv_aload_n hx hb dX9_move_0 rfl (lv_at hl 0 rfl) ?_
  refine gd_e hf (fun hg1 hf => ?_)
  refine bd_e hf (fun q2 eq2 hf => ?_)
  refine ev_getP (v := q2) S hK hM (ci := 9) (n := 8) (C := RX9) (T := TX9) hin9 rfl hg1 0 (by decide) lk10 rfl rfl eq2 rfl dX9_move_1 ?_
  refine lv_iload_n hx hb dX9_move_4 rfl (lv_at hl 1 rfl) ?_
  refine bd_e hf (fun r3 er3 hf => ?_)
  refine gd_e hf (fun hg4 hf => ?_)
  refine ev_calli (va_runV (As := [.int x1]) (rest := []) S (c_X6_hasLayer (l := l) I P q2 x1 r3 er3) (cwV 1 hts (gi_v wa_2_76 wa_2_77 wa_2_78 wa_1_2 wa_2_79) rfl rfl rfl (by decide +kernel) ⟨Nat.le_of_ble_eq_true rfl, Nat.le_of_ble_eq_true rfl⟩) ⟨mm_B_blind, ev_recv hK hM (ci := 6) rfl hg4 rfl, fun U hU hW => ⟨rfl, mm_B_of hK hZ hM hU hW⟩⟩ rfl rfl hl.1 rfl (lv_room (Nat.le_of_ble_eq_true rfl)) dX9_move_5 ⟨Nat.zero_le _, Nat.zero_le _⟩) hM (fun H locs hM => ?_)
  refine lv_if_eq (tgt := 22) hx hb dX9_move_8 (by decide) (fun hc5 => ?_) (fun hc5 => ?_)
  · have hf := it_p hf hc5
    refine lv_bipush (v := (-2 : Int32)) hx hb dX9_move_22 (by decide) ?_
    obtain rfl := Option.some.inj hf
    subst hQ
    exact ev_iret S hr hlocks hK hZ hM dX9_move_24
  · have hf := it_n hf hc5
    refine lv_aload_n hx hb dX9_move_11 rfl (lv_at hl 0 rfl) ?_
    refine ev_getP (v := q2) S hK hM (ci := 9) (n := 8) (C := RX9) (T := TX9) hin9 rfl hg1 0 (by decide) lk10 rfl rfl eq2 rfl dX9_move_12 ?_
    refine lv_iload_n hx hb dX9_move_15 rfl (lv_at hl 2 rfl) ?_
    refine bd_e hf (fun r6 er6 hf => ?_)
    refine ev_calli (va_runV (As := [.int x2]) (rest := []) S (c_X6_hasLayer (l := l) I P q2 x2 r6 er6) (cwV 1 hts (gi_v wa_2_76 wa_2_77 wa_2_78 wa_1_2 wa_2_79) rfl rfl rfl (by decide +kernel) ⟨Nat.le_of_ble_eq_true rfl, Nat.le_of_ble_eq_true rfl⟩) ⟨mm_B_blind, ev_recv hK hM (ci := 6) rfl hg4 rfl, fun U hU hW => ⟨rfl, mm_B_of hK hZ hM hU hW⟩⟩ rfl rfl hl.1 rfl (lv_room (Nat.le_of_ble_eq_true rfl)) dX9_move_16 ⟨Nat.zero_le _, Nat.zero_le _⟩) hM (fun H locs hM => ?_)
    refine lv_if_ne (tgt := 25) hx hb dX9_move_19 (by decide) (fun hc7 => ?_) (fun hc7 => ?_)
    · have hf := it_n hf hc7
      refine lv_aload_n hx hb dX9_move_25 rfl (lv_at hl 0 rfl) ?_
      refine ev_getP (v := q2) S hK hM (ci := 9) (n := 8) (C := RX9) (T := TX9) hin9 rfl hg1 0 (by decide) lk10 rfl rfl eq2 rfl dX9_move_26 ?_
      refine lv_iload_n hx hb dX9_move_29 rfl (lv_at hl 1 rfl) ?_
      refine lv_iload_n hx hb dX9_move_30 rfl (lv_at hl 2 rfl) ?_
      refine bd_e hf (fun r8 er8 hf => ?_)
      refine ev_callv (va_runV (As := [.int x1, .int x2]) (rest := []) S (c_X6_shiftLayer (l := l) I P q2 x1 x2 r8 er8) (cwV 2 hts (gi_v wa_2_92 wa_2_85 wa_2_86 wa_1_2 wa_2_87) rfl rfl rfl (by decide +kernel) ⟨Nat.le_of_ble_eq_true rfl, Nat.le_of_ble_eq_true rfl⟩) ⟨mm_B_blind, ev_recv hK hM (ci := 6) rfl hg4 rfl, fun U hU hW => ⟨rfl, mm_B_of hK hZ hM hU hW⟩⟩ rfl rfl hl.1 rfl (lv_room (Nat.le_of_ble_eq_true rfl)) dX9_move_31 ⟨Nat.zero_le _, Nat.zero_le _⟩) hM (fun H locs hM => ?_)
      refine lv_iload_n hx hb dX9_move_34 rfl (lv_at hl 2 rfl) ?_
      obtain rfl := Option.some.inj hf
      subst hQ
      exact ev_iret S hr hlocks hK hZ hM dX9_move_35
    · have hf := it_p hf hc7
      refine lv_bipush (v := (-2 : Int32)) hx hb dX9_move_22 (by decide) ?_
      obtain rfl := Option.some.inj hf
      subst hQ
      exact ev_iret S hr hlocks hK hZ hM dX9_move_24
noncomputable def fn_X9_dressPaper (K N : Nat → Nat) (I : Nat → Nat → Int32) (P : Nat → Nat → Option Nat) (a0 : Nat) (x1 : Int32) : Option (Int32 × (Nat → Nat → Int32)) := Option.bind (fn_X9_isByte x1) (fun (r1 : Int32) => if r1 = 0 then (some ((-2 : Int32), I)) else (gd (K a0 = 10) (Option.bind (P a0 (0)) (fun q4 => gd (K q4 = 7) (Option.bind (some (I q4 2)) (fun v6 => Option.bind (some (up2 I q4 2 x1)) (fun I7 => some (v6, I7))))))))
abbrev wz_X9_dressPaper : List Cond := Cond.code yX9_dressPaper cX9_dressPaper 3 (some .int) :: WA
abbrev rm_X9_dressPaper : Room := { frames := 3, cells := 0, slots := 0, locals := 54 }
set_option maxHeartbeats 4000000 in
set_option maxRecDepth 100000 in
theorem c_X9_dressPaper (I : Nat → Nat → Int32) (P : Nat → Nat → Option Nat) (a0 : Nat) (x1 : Int32) (res : Int32 × (Nat → Nat → Int32)) (hf : fn_X9_dressPaper K N I P a0 x1 = some res) : Met l yX9_dressPaper wz_X9_dressPaper rm_X9_dressPaper (va_Pc [.ref a0, .int x1] (mm_B D cs A L K N z w I P)) (va_Qi (fun r (_ : Unit) => r = res.1) (fun _ => mm_B D cs A L K N z w res.2 P) A) 0 0 A := by
  refine Met.ofW (cc := cX9_dressPaper) (maxL := 3) (ret := (some .int)) (by decide) rfl ?_
  intro p e s m args below meth c s₁ B hml hv
  obtain ⟨rfl, hBm⟩ := hv
  have hx := B.exec
  have hb := B.bytes
  have hr := B.returns
  have hts := atoms_spec (ws := wz_X9_dressPaper) B.pre
  have hWA : ∀ w ∈ WA, w.before ([.ref a0, .int x1] : List Value).toArray s = true := fun u9 h9 => hts u9 (List.mem_cons_of_mem _ h9)
  have hown : s.vm.findClass RX9 = some m.cls := findClass_of_methodNamed B.named
  have hlocks := B.notSynchronized
  have S : CallFix p m c cX9_dressPaper 3 s ([.ref a0, .int x1] : List Value).toArray wz_X9_dressPaper RX9 := ⟨hx, hb, hml, hown, hts⟩
  have hK := hBm.2.2.2.1
  have hZ := hBm.2.2.2.2
  have hM : mm_W D cs A L K N s.heap I P s.heap [] := ⟨hBm.1, hBm.2.1, hBm.2.2.1, va_S.rf⟩
  have hl := lv_entry ([.ref a0, .int x1]) (n := 3) (Nat.le_of_ble_eq_true rfl)
  rw [lg_entry_eq]
  generalize (lg_sl ([.ref a0, .int x1]) ++ List.replicate (3 - (lg_sl ([.ref a0, .int x1])).length) Slot.unset).toArray = ls at hl ⊢
  have hl : lv_has ls 3 [(0, .ref a0), (1, .int x1)] := hl
  have hin9 : ∀ w ∈ wsX90, w ∈ wz_X9_dressPaper := fun w h => List.mem_cons_of_mem _ (wu_X9 w h)
  have hin6 : ∀ w ∈ wsX60, w ∈ wz_X9_dressPaper := fun w h => List.mem_cons_of_mem _ (wu_X6 w h)
  have lk10 : (Cond.fieldLink RX9 10 RX9 "picture" "LRasterPainter$Picture;").before ([.ref a0, .int x1] : List Value).toArray s = true := hWA _ wa_2_15
  have lk255 : (Cond.fieldLink RX9 255 RX6 "paper" "I").before ([.ref a0, .int x1] : List Value).toArray s = true := hWA _ wa_1_156
  generalize hQ : MQ below (va_Qi (fun r (_ : Unit) => r = res.1) (fun _ => mm_B D cs A L K N z w res.2 P) A) ([.ref a0, .int x1] : List Value).toArray s 0 0 A = QQ
  rw [fn_X9_dressPaper] at hf
  refine lv_iload_n hx hb dX9_dressPaper_0 rfl (lv_at hl 1 rfl) ?_
  refine bd_e hf (fun r1 er1 hf => ?_)
  refine ev_calli (va_runS (As := [.int x1]) (rest := []) S (c_X9_isByte (l := l) I P x1 r1 er1) (va_cwS 1 hts (gi_s wa_2_50 wa_2_51 wa_1_1 wa_2_52) rfl rfl rfl (by decide +kernel) ⟨Nat.le_of_ble_eq_true rfl, Nat.le_of_ble_eq_true rfl⟩) ⟨mm_B_blind, fun U hU hW => ⟨rfl, mm_B_of hK hZ hM hU hW⟩⟩ rfl rfl hl.1 rfl (lv_room (Nat.le_of_ble_eq_true rfl)) dX9_dressPaper_1 ⟨Nat.zero_le _, Nat.zero_le _⟩) hM (fun H locs hM => ?_)
  refine lv_if_ne (tgt := 10) hx hb dX9_dressPaper_4 (by decide) (fun hc2 => ?_) (fun hc2 => ?_)
  · have hf := it_n hf hc2
    refine lv_aload_n hx hb dX9_dressPaper_10 rfl (lv_at hl 0 rfl) ?_
    refine gd_e hf (fun hg3 hf => ?_)
    refine bd_e hf (fun q4 eq4 hf => ?_)
    refine ev_getP (v := q4) S hK hM (ci := 9) (n := 8) (C := RX9) (T := TX9) hin9 rfl hg3 0 (by decide) lk10 rfl rfl eq4 rfl dX9_dressPaper_11 ?_
    refine gd_e hf (fun hg5 hf => ?_)
    refine ev_get (v := .int (I q4 2)) S hK hM (ci := 6) (n := 6) (C := RX6) (T := TX6) hin6 rfl hg5 2 (by decide) lk255 rfl rfl rfl dX9_dressPaper_14 ?_
    refine lv_topi (fun v6 ev6 => ?_)
    have hf := nm_x ev6 hf
    refine lv_istore_n (lv' := [(2, .int v6), (0, .ref a0), (1, .int x1)]) hx hb dX9_dressPaper_17 rfl hl (by decide) rfl (fun ls hl => ?_)
    refine lv_aload_n hx hb dX9_dressPaper_18 rfl (lv_at hl 1 rfl) ?_
    refine ev_getP (v := q4) S hK hM (ci := 9) (n := 8) (C := RX9) (T := TX9) hin9 rfl hg3 0 (by decide) lk10 rfl rfl eq4 rfl dX9_dressPaper_19 ?_
    refine lv_iload_n hx hb dX9_dressPaper_22 rfl (lv_at hl 2 rfl) ?_
    refine ev_put S hK hM (ci := 6) (n := 6) (C := RX6) (T := TX6) hin6 tyX6 tyX6_ok nmX6 rfl hg5 2 (by decide) lk255 rfl rfl rfl rfl rfl (Nat.le_of_ble_eq_true rfl) rfl dX9_dressPaper_23 (fun I7 eI7 H locs hM => ?_)
    have hf := nm_x eI7 hf
    refine lv_iload_n hx hb dX9_dressPaper_26 rfl (lv_at hl 0 rfl) ?_
    obtain rfl := Option.some.inj hf
    subst hQ
    exact ev_iret S hr hlocks hK hZ hM dX9_dressPaper_27
  · have hf := it_p hf hc2
    refine lv_bipush (v := (-2 : Int32)) hx hb dX9_dressPaper_7 (by decide) ?_
    obtain rfl := Option.some.inj hf
    subst hQ
    exact ev_iret S hr hlocks hK hZ hM dX9_dressPaper_9
noncomputable def fn_X9_dress (K N : Nat → Nat) (I : Nat → Nat → Int32) (P : Nat → Nat → Option Nat) (a0 : Nat) (x1 : Int32) (x2 : Int32) (x3 : Int32) (x4 : Int32) : Option (Int32 × (Nat → Nat → Int32)) := if x1 = (-1 : Int32) then (Option.bind (fn_X9_dressPaper K N I P a0 x4) (fun (r15 : Int32 × (Nat → Nat → Int32)) => gd (K a0 = 10) (some (r15.1, r15.2)))) else (gd (K a0 = 10) (Option.bind (P a0 (0)) (fun q3 => Option.bind (fn_X6_hasLayer K N I P q3 x1) (fun (r4 : Int32) => gd (K q3 = 7) (if r4 = 0 then (some ((-2 : Int32), I)) else (Option.bind (fn_X9_isDress x2 x3 x4) (fun (r7 : Int32) => if r7 = 0 then (some ((-2 : Int32), I)) else (Option.bind (P q3 (0)) (fun q9 => gd (K q9 = 15 ∧ vp_in x1 (N q9)) (Option.bind (P q9 (x1.toNatClampNeg)) (fun q11 => gd (K q11 = 5) (Option.bind (some (I q11 4)) (fun v13 => Option.bind (fn_X4_wear K N I P q11 x2 x3 x4) (fun (r14 : (Nat → Nat → Int32)) => some (v13, r14)))))))))))))))
abbrev wz_X9_dress : List Cond := Cond.code yX9_dress cX9_dress 6 (some .int) :: WA
abbrev rm_X9_dress : Room := { frames := 4, cells := 0, slots := 0, locals := 76 }
set_option maxHeartbeats 4000000 in
set_option maxRecDepth 100000 in
theorem c_X9_dress (I : Nat → Nat → Int32) (P : Nat → Nat → Option Nat) (a0 : Nat) (x1 : Int32) (x2 : Int32) (x3 : Int32) (x4 : Int32) (res : Int32 × (Nat → Nat → Int32)) (hf : fn_X9_dress K N I P a0 x1 x2 x3 x4 = some res) : Met l yX9_dress wz_X9_dress rm_X9_dress (va_Pc [.ref a0, .int x1, .int x2, .int x3, .int x4] (mm_B D cs A L K N z w I P)) (va_Qi (fun r (_ : Unit) => r = res.1) (fun _ => mm_B D cs A L K N z w res.2 P) A) 0 0 A := by
  refine Met.ofW (cc := cX9_dress) (maxL := 6) (ret := (some .int)) (by decide) rfl ?_
  intro p e s m args below meth c s₁ B hml hv
  obtain ⟨rfl, hBm⟩ := hv
  have hx := B.exec
  have hb := B.bytes
  have hr := B.returns
  have hts := atoms_spec (ws := wz_X9_dress) B.pre
  have hWA : ∀ w ∈ WA, w.before ([.ref a0, .int x1, .int x2, .int x3, .int x4] : List Value).toArray s = true := fun u9 h9 => hts u9 (List.mem_cons_of_mem _ h9)
  have hown : s.vm.findClass RX9 = some m.cls := findClass_of_methodNamed B.named
  have hlocks := B.notSynchronized
  have S : CallFix p m c cX9_dress 6 s ([.ref a0, .int x1, .int x2, .int x3, .int x4] : List Value).toArray wz_X9_dress RX9 := ⟨hx, hb, hml, hown, hts⟩
  have hK := hBm.2.2.2.1
  have hZ := hBm.2.2.2.2
  have hM : mm_W D cs A L K N s.heap I P s.heap [] := ⟨hBm.1, hBm.2.1, hBm.2.2.1, va_S.rf⟩
  have hl := lv_entry ([.ref a0, .int x1, .int x2, .int x3, .int x4]) (n := 6) (Nat.le_of_ble_eq_true rfl)
  rw [lg_entry_eq]
  generalize (lg_sl ([.ref a0, .int x1, .int x2, .int x3, .int x4]) ++ List.replicate (6 - (lg_sl ([.ref a0, .int x1, .int x2, .int x3, .int x4])).length) Slot.unset).toArray = ls at hl ⊢
  have hl : lv_has ls 6 [(0, .ref a0), (1, .int x1), (2, .int x2), (3, .int x3), (4, .int x4)] := hl
  have hin9 : ∀ w ∈ wsX90, w ∈ wz_X9_dress := fun w h => List.mem_cons_of_mem _ (wu_X9 w h)
  have hin6 : ∀ w ∈ wsX60, w ∈ wz_X9_dress := fun w h => List.mem_cons_of_mem _ (wu_X6 w h)
  have hin4 : ∀ w ∈ wsX40, w ∈ wz_X9_dress := fun w h => List.mem_cons_of_mem _ (wu_X4 w h)
  have lk10 : (Cond.fieldLink RX9 10 RX9 "picture" "LRasterPainter$Picture;").before ([.ref a0, .int x1, .int x2, .int x3, .int x4] : List Value).toArray s = true := hWA _ wa_2_15
  have lk83 : (Cond.fieldLink RX9 83 RX6 "layers" "[LRasterPainter$Layer;").before ([.ref a0, .int x1, .int x2, .int x3, .int x4] : List Value).toArray s = true := hWA _ wa_1_152
  have lk87 : (Cond.fieldLink RX9 87 RX4 "opacity" "I").before ([.ref a0, .int x1, .int x2, .int x3, .int x4] : List Value).toArray s = true := hWA _ wa_1_139
  generalize hQ : MQ below (va_Qi (fun r (_ : Unit) => r = res.1) (fun _ => mm_B D cs A L K N z w res.2 P) A) ([.ref a0, .int x1, .int x2, .int x3, .int x4] : List Value).toArray s 0 0 A = QQ
  rw [fn_X9_dress] at hf
  refine lv_iload_n hx hb dX9_dress_0 rfl (lv_at hl 1 rfl) ?_
  refine lv_iconst (v := (-1 : Int32)) hx hb dX9_dress_1 (by decide) ?_
  refine lv_icmp_ne (tgt := 12) hx hb dX9_dress_2 (by decide) (fun hc1 => ?_) (fun hc1 => ?_)
  · have hf := it_n hf hc1
    refine lv_aload_n hx hb dX9_dress_12 rfl (lv_at hl 0 rfl) ?_
    refine gd_e hf (fun hg2 hf => ?_)
    refine bd_e hf (fun q3 eq3 hf => ?_)
    refine ev_getP (v := q3) S hK hM (ci := 9) (n := 8) (C := RX9) (T := TX9) hin9 rfl hg2 0 (by decide) lk10 rfl rfl eq3 rfl dX9_dress_13 ?_
    refine lv_iload_n hx hb dX9_dress_16 rfl (lv_at hl 1 rfl) ?_
    refine bd_e hf (fun r4 er4 hf => ?_)
    refine gd_e hf (fun hg5 hf => ?_)
    refine ev_calli (va_runV (As := [.int x1]) (rest := []) S (c_X6_hasLayer (l := l) I P q3 x1 r4 er4) (cwV 1 hts (gi_v wa_2_76 wa_2_77 wa_2_78 wa_1_2 wa_2_79) rfl rfl rfl (by decide +kernel) ⟨Nat.le_of_ble_eq_true rfl, Nat.le_of_ble_eq_true rfl⟩) ⟨mm_B_blind, ev_recv hK hM (ci := 6) rfl hg5 rfl, fun U hU hW => ⟨rfl, mm_B_of hK hZ hM hU hW⟩⟩ rfl rfl hl.1 rfl (lv_room (Nat.le_of_ble_eq_true rfl)) dX9_dress_17 ⟨Nat.zero_le _, Nat.zero_le _⟩) hM (fun H locs hM => ?_)
    refine lv_if_eq (tgt := 33) hx hb dX9_dress_20 (by decide) (fun hc6 => ?_) (fun hc6 => ?_)
    · have hf := it_p hf hc6
      refine lv_bipush (v := (-2 : Int32)) hx hb dX9_dress_33 (by decide) ?_
      obtain rfl := Option.some.inj hf
      subst hQ
      exact ev_iret S hr hlocks hK hZ hM dX9_dress_35
    · have hf := it_n hf hc6
      refine lv_iload_n hx hb dX9_dress_23 rfl (lv_at hl 2 rfl) ?_
      refine lv_iload_n hx hb dX9_dress_24 rfl (lv_at hl 3 rfl) ?_
      refine lv_iload hx hb dX9_dress_25 (lv_at hl 4 rfl) ?_
      refine bd_e hf (fun r7 er7 hf => ?_)
      refine ev_calli (va_runS (As := [.int x2, .int x3, .int x4]) (rest := []) S (c_X9_isDress (l := l) I P x2 x3 x4 r7 er7) (va_cwS 3 hts (gi_s wa_2_44 wa_2_45 wa_1_1 wa_2_46) rfl rfl rfl (by decide +kernel) ⟨Nat.le_of_ble_eq_true rfl, Nat.le_of_ble_eq_true rfl⟩) ⟨mm_B_blind, fun U hU hW => ⟨rfl, mm_B_of hK hZ hM hU hW⟩⟩ rfl rfl hl.1 rfl (lv_room (Nat.le_of_ble_eq_true rfl)) dX9_dress_27 ⟨Nat.zero_le _, Nat.zero_le _⟩) hM (fun H locs hM => ?_)
      refine lv_if_ne (tgt := 36) hx hb dX9_dress_30 (by decide) (fun hc8 => ?_) (fun hc8 => ?_)
      · have hf := it_n hf hc8
        refine lv_aload_n hx hb dX9_dress_36 rfl (lv_at hl 0 rfl) ?_
        refine ev_getP (v := q3) S hK hM (ci := 9) (n := 8) (C := RX9) (T := TX9) hin9 rfl hg2 0 (by decide) lk10 rfl rfl eq3 rfl dX9_dress_37 ?_
        refine bd_e hf (fun q9 eq9 hf => ?_)
        refine ev_getP (v := q9) S hK hM (ci := 6) (n := 6) (C := RX6) (T := TX6) hin6 rfl hg5 0 (by decide) lk83 rfl rfl eq9 rfl dX9_dress_40 ?_
        refine lv_iload_n hx hb dX9_dress_43 rfl (lv_at hl 1 rfl) ?_
        refine gd_e hf (fun hg10 hf => ?_)
        refine bd_e hf (fun q11 eq11 hf => ?_)
        refine ev_aald15 S hK hM hg10 (j := x1.toNatClampNeg) rfl eq11 dX9_dress_44 ?_
        refine gd_e hf (fun hg12 hf => ?_)
        refine ev_get (v := .int (I q11 4)) S hK hM (ci := 4) (n := 5) (C := RX4) (T := TX4) hin4 rfl hg12 4 (by decide) lk87 rfl rfl rfl dX9_dress_45 ?_
        refine lv_topi (fun v13 ev13 => ?_)
        have hf := nm_x ev13 hf
        refine lv_istore (lv' := [(5, .int v13), (0, .ref a0), (1, .int x1), (2, .int x2), (3, .int x3), (4, .int x4)]) hx hb dX9_dress_48 hl (by decide) rfl (fun ls hl => ?_)
        refine lv_aload_n hx hb dX9_dress_50 rfl (lv_at hl 1 rfl) ?_
        refine ev_getP (v := q3) S hK hM (ci := 9) (n := 8) (C := RX9) (T := TX9) hin9 rfl hg2 0 (by decide) lk10 rfl rfl eq3 rfl dX9_dress_51 ?_
        refine ev_getP (v := q9) S hK hM (ci := 6) (n := 6) (C := RX6) (T := TX6) hin6 rfl hg5 0 (by decide) lk83 rfl rfl eq9 rfl dX9_dress_54 ?_
        refine lv_iload_n hx hb dX9_dress_57 rfl (lv_at hl 2 rfl) ?_
        refine ev_aald15 S hK hM hg10 (j := x1.toNatClampNeg) rfl eq11 dX9_dress_58 ?_
        refine lv_iload_n hx hb dX9_dress_59 rfl (lv_at hl 3 rfl) ?_
        refine lv_iload_n hx hb dX9_dress_60 rfl (lv_at hl 4 rfl) ?_
        refine lv_iload hx hb dX9_dress_61 (lv_at hl 5 rfl) ?_
        refine bd_e hf (fun r14 er14 hf => ?_)
        refine ev_callv (va_runV (As := [.int x2, .int x3, .int x4]) (rest := []) S (c_X4_wear (l := l) I P q11 x2 x3 x4 r14 er14) (cwV 3 hts (gi_v wa_2_101 wa_2_69 wa_2_70 wa_1_7 wa_2_71) rfl rfl rfl (by decide +kernel) ⟨Nat.le_of_ble_eq_true rfl, Nat.le_of_ble_eq_true rfl⟩) ⟨mm_B_blind, ev_recv hK hM (ci := 4) rfl hg12 rfl, fun U hU hW => ⟨rfl, mm_B_of hK hZ hM hU hW⟩⟩ rfl rfl hl.1 rfl (lv_room (Nat.le_of_ble_eq_true rfl)) dX9_dress_63 ⟨Nat.zero_le _, Nat.zero_le _⟩) hM (fun H locs hM => ?_)
        refine lv_iload hx hb dX9_dress_66 (lv_at hl 0 rfl) ?_
        obtain rfl := Option.some.inj hf
        subst hQ
        exact ev_iret S hr hlocks hK hZ hM dX9_dress_68
      · have hf := it_p hf hc8
        refine lv_bipush (v := (-2 : Int32)) hx hb dX9_dress_33 (by decide) ?_
        obtain rfl := Option.some.inj hf
        subst hQ
        exact ev_iret S hr hlocks hK hZ hM dX9_dress_35
  · have hf := it_p hf hc1
    refine lv_aload_n hx hb dX9_dress_5 rfl (lv_at hl 0 rfl) ?_
    refine lv_iload hx hb dX9_dress_6 (lv_at hl 4 rfl) ?_
    refine bd_e hf (fun r15 er15 hf => ?_)
    refine gd_e hf (fun hg16 hf => ?_)
    refine ev_calli (va_runV (As := [.int x4]) (rest := []) S (c_X9_dressPaper (l := l) I P a0 x4 r15 er15) (cwV 1 hts (gi_v wa_2_97 wa_2_99 wa_s_0 wa_1_1 wa_2_100) rfl rfl rfl (by decide +kernel) ⟨Nat.le_of_ble_eq_true rfl, Nat.le_of_ble_eq_true rfl⟩) ⟨mm_B_blind, ev_recv hK hM (ci := 9) rfl hg16 rfl, fun U hU hW => ⟨rfl, mm_B_of hK hZ hM hU hW⟩⟩ rfl rfl hl.1 rfl (lv_room (Nat.le_of_ble_eq_true rfl)) dX9_dress_8 ⟨Nat.zero_le _, Nat.zero_le _⟩) hM (fun H locs hM => ?_)
    obtain rfl := Option.some.inj hf
    subst hQ
    exact ev_iret S hr hlocks hK hZ hM dX9_dress_11
noncomputable def fn_X9_told (K N : Nat → Nat) (I : Nat → Nat → Int32) (P : Nat → Nat → Option Nat) (a0 : Nat) (x1 : Int32) (x2 : Int32) : Option (Int32) := gd (K a0 = 10) (Option.bind (P a0 (0)) (fun q2 => Option.bind (fn_X6_hasLayer K N I P q2 x1) (fun (r3 : Int32) => gd (K q2 = 7) (if r3 = 0 then (some (-2 : Int32)) else (Option.bind (P q2 (0)) (fun q6 => gd (K q6 = 15 ∧ vp_in x1 (N q6)) (Option.bind (P q6 (x1.toNatClampNeg)) (fun q8 => if x2 = (0 : Int32) then (gd (K q8 = 5) (some (I q8 2))) else (if x2 = (1 : Int32) then (gd (K q8 = 5) (some (I q8 3))) else (if x2 = (2 : Int32) then (gd (K q8 = 5) (some (I q8 4))) else (if x2 = (3 : Int32) then (Option.bind (fn_X4_coveredDots K N I P q8) (fun (r16 : Int32) => gd (K q8 = 5) (some r16))) else (some (-2 : Int32)))))))))))))
abbrev wz_X9_told : List Cond := Cond.code yX9_told cX9_told 4 (some .int) :: WA
abbrev rm_X9_told : Room := { frames := 2, cells := 0, slots := 0, locals := 34 }
set_option maxHeartbeats 4000000 in
set_option maxRecDepth 100000 in
theorem c_X9_told (I : Nat → Nat → Int32) (P : Nat → Nat → Option Nat) (a0 : Nat) (x1 : Int32) (x2 : Int32) (res : Int32) (hf : fn_X9_told K N I P a0 x1 x2 = some res) : Met l yX9_told wz_X9_told rm_X9_told (va_Pc [.ref a0, .int x1, .int x2] (mm_B D cs A L K N z w I P)) (va_Qi (fun r (_ : Unit) => r = res) (fun _ => mm_B D cs A L K N z w I P) A) 0 0 A := by
  refine Met.ofW (cc := cX9_told) (maxL := 4) (ret := (some .int)) (by decide) rfl ?_
  intro p e s m args below meth c s₁ B hml hv
  obtain ⟨rfl, hBm⟩ := hv
  have hx := B.exec
  have hb := B.bytes
  have hr := B.returns
  have hts := atoms_spec (ws := wz_X9_told) B.pre
  have hWA : ∀ w ∈ WA, w.before ([.ref a0, .int x1, .int x2] : List Value).toArray s = true := fun u9 h9 => hts u9 (List.mem_cons_of_mem _ h9)
  have hown : s.vm.findClass RX9 = some m.cls := findClass_of_methodNamed B.named
  have hlocks := B.notSynchronized
  have S : CallFix p m c cX9_told 4 s ([.ref a0, .int x1, .int x2] : List Value).toArray wz_X9_told RX9 := ⟨hx, hb, hml, hown, hts⟩
  have hK := hBm.2.2.2.1
  have hZ := hBm.2.2.2.2
  have hM : mm_W D cs A L K N s.heap I P s.heap [] := ⟨hBm.1, hBm.2.1, hBm.2.2.1, va_S.rf⟩
  have hl := lv_entry ([.ref a0, .int x1, .int x2]) (n := 4) (Nat.le_of_ble_eq_true rfl)
  rw [lg_entry_eq]
  generalize (lg_sl ([.ref a0, .int x1, .int x2]) ++ List.replicate (4 - (lg_sl ([.ref a0, .int x1, .int x2])).length) Slot.unset).toArray = ls at hl ⊢
  have hl : lv_has ls 4 [(0, .ref a0), (1, .int x1), (2, .int x2)] := hl
  have hin9 : ∀ w ∈ wsX90, w ∈ wz_X9_told := fun w h => List.mem_cons_of_mem _ (wu_X9 w h)
  have hin6 : ∀ w ∈ wsX60, w ∈ wz_X9_told := fun w h => List.mem_cons_of_mem _ (wu_X6 w h)
  have hin4 : ∀ w ∈ wsX40, w ∈ wz_X9_told := fun w h => List.mem_cons_of_mem _ (wu_X4 w h)
  have lk10 : (Cond.fieldLink RX9 10 RX9 "picture" "LRasterPainter$Picture;").before ([.ref a0, .int x1, .int x2] : List Value).toArray s = true := hWA _ wa_2_15
  have lk83 : (Cond.fieldLink RX9 83 RX6 "layers" "[LRasterPainter$Layer;").before ([.ref a0, .int x1, .int x2] : List Value).toArray s = true := hWA _ wa_1_152
  have lk94 : (Cond.fieldLink RX9 94 RX4 "mode" "I").before ([.ref a0, .int x1, .int x2] : List Value).toArray s = true := hWA _ wa_1_135
  have lk97 : (Cond.fieldLink RX9 97 RX4 "figure" "I").before ([.ref a0, .int x1, .int x2] : List Value).toArray s = true := hWA _ wa_1_137
  have lk87 : (Cond.fieldLink RX9 87 RX4 "opacity" "I").before ([.ref a0, .int x1, .int x2] : List Value).toArray s = true := hWA _ wa_1_139
  generalize hQ : MQ below (va_Qi (fun r (_ : Unit) => r = res) (fun _ => mm_B D cs A L K N z w I P) A) ([.ref a0, .int x1, .int x2] : List Value).toArray s 0 0 A = QQ
  rw [fn_X9_told] at hf
  refine lv_aload_n hx hb dX9_told_0 rfl (lv_at hl 0 rfl) ?_
  refine gd_e hf (fun hg1 hf => ?_)
  refine bd_e hf (fun q2 eq2 hf => ?_)
  refine ev_getP (v := q2) S hK hM (ci := 9) (n := 8) (C := RX9) (T := TX9) hin9 rfl hg1 0 (by decide) lk10 rfl rfl eq2 rfl dX9_told_1 ?_
  refine lv_iload_n hx hb dX9_told_4 rfl (lv_at hl 1 rfl) ?_
  refine bd_e hf (fun r3 er3 hf => ?_)
  refine gd_e hf (fun hg4 hf => ?_)
  refine ev_calli (va_runV (As := [.int x1]) (rest := []) S (c_X6_hasLayer (l := l) I P q2 x1 r3 er3) (cwV 1 hts (gi_v wa_2_76 wa_2_77 wa_2_78 wa_1_2 wa_2_79) rfl rfl rfl (by decide +kernel) ⟨Nat.le_of_ble_eq_true rfl, Nat.le_of_ble_eq_true rfl⟩) ⟨mm_B_blind, ev_recv hK hM (ci := 6) rfl hg4 rfl, fun U hU hW => ⟨rfl, mm_B_of hK hZ hM hU hW⟩⟩ rfl rfl hl.1 rfl (lv_room (Nat.le_of_ble_eq_true rfl)) dX9_told_5 ⟨Nat.zero_le _, Nat.zero_le _⟩) hM (fun H locs hM => ?_)
  refine lv_if_ne (tgt := 14) hx hb dX9_told_8 (by decide) (fun hc5 => ?_) (fun hc5 => ?_)
  · have hf := it_n hf hc5
    refine lv_aload_n hx hb dX9_told_14 rfl (lv_at hl 0 rfl) ?_
    refine ev_getP (v := q2) S hK hM (ci := 9) (n := 8) (C := RX9) (T := TX9) hin9 rfl hg1 0 (by decide) lk10 rfl rfl eq2 rfl dX9_told_15 ?_
    refine bd_e hf (fun q6 eq6 hf => ?_)
    refine ev_getP (v := q6) S hK hM (ci := 6) (n := 6) (C := RX6) (T := TX6) hin6 rfl hg4 0 (by decide) lk83 rfl rfl eq6 rfl dX9_told_18 ?_
    refine lv_iload_n hx hb dX9_told_21 rfl (lv_at hl 1 rfl) ?_
    refine gd_e hf (fun hg7 hf => ?_)
    refine bd_e hf (fun q8 eq8 hf => ?_)
    refine ev_aald15 S hK hM hg7 (j := x1.toNatClampNeg) rfl eq8 dX9_told_22 ?_
    refine lv_astore_n (lv' := [(3, .ref q8), (0, .ref a0), (1, .int x1), (2, .int x2)]) hx hb dX9_told_23 rfl hl (by decide) rfl (fun ls hl => ?_)
    refine lv_iload_n hx hb dX9_told_24 rfl (lv_at hl 3 rfl) ?_
    refine (Classical.em (x2 = (0 : Int32))).elim (fun hc9 => ?_) (fun hc9 => ?_)
    · have hf := it_p hf hc9
      refine lv_tableIn (off := 31) (tgt := 56) hx hb dX9_told_25 (by rw [hc9]; decide) (by rw [hc9]; decide) (by rw [hc9]; rfl) (by decide) ?_
      refine lv_aload_n hx hb dX9_told_56 rfl (lv_at hl 0 rfl) ?_
      refine gd_e hf (fun hg13 hf => ?_)
      refine ev_get (v := .int (I q8 2)) S hK hM (ci := 4) (n := 5) (C := RX4) (T := TX4) hin4 rfl hg13 2 (by decide) lk94 rfl rfl rfl dX9_told_57 ?_
      obtain rfl := Option.some.inj hf
      subst hQ
      exact ev_iret S hr hlocks hK hZ hM dX9_told_60
    · have hf := it_n hf hc9
      refine (Classical.em (x2 = (1 : Int32))).elim (fun hc10 => ?_) (fun hc10 => ?_)
      · have hf := it_p hf hc10
        refine lv_tableIn (off := 36) (tgt := 61) hx hb dX9_told_25 (by rw [hc10]; decide) (by rw [hc10]; decide) (by rw [hc10]; rfl) (by decide) ?_
        refine lv_aload_n hx hb dX9_told_61 rfl (lv_at hl 0 rfl) ?_
        refine gd_e hf (fun hg14 hf => ?_)
        refine ev_get (v := .int (I q8 3)) S hK hM (ci := 4) (n := 5) (C := RX4) (T := TX4) hin4 rfl hg14 3 (by decide) lk97 rfl rfl rfl dX9_told_62 ?_
        obtain rfl := Option.some.inj hf
        subst hQ
        exact ev_iret S hr hlocks hK hZ hM dX9_told_65
      · have hf := it_n hf hc10
        refine (Classical.em (x2 = (2 : Int32))).elim (fun hc11 => ?_) (fun hc11 => ?_)
        · have hf := it_p hf hc11
          refine lv_tableIn (off := 41) (tgt := 66) hx hb dX9_told_25 (by rw [hc11]; decide) (by rw [hc11]; decide) (by rw [hc11]; rfl) (by decide) ?_
          refine lv_aload_n hx hb dX9_told_66 rfl (lv_at hl 0 rfl) ?_
          refine gd_e hf (fun hg15 hf => ?_)
          refine ev_get (v := .int (I q8 4)) S hK hM (ci := 4) (n := 5) (C := RX4) (T := TX4) hin4 rfl hg15 4 (by decide) lk87 rfl rfl rfl dX9_told_67 ?_
          obtain rfl := Option.some.inj hf
          subst hQ
          exact ev_iret S hr hlocks hK hZ hM dX9_told_70
        · have hf := it_n hf hc11
          refine (Classical.em (x2 = (3 : Int32))).elim (fun hc12 => ?_) (fun hc12 => ?_)
          · have hf := it_p hf hc12
            refine lv_tableIn (off := 46) (tgt := 71) hx hb dX9_told_25 (by rw [hc12]; decide) (by rw [hc12]; decide) (by rw [hc12]; rfl) (by decide) ?_
            refine lv_aload_n hx hb dX9_told_71 rfl (lv_at hl 0 rfl) ?_
            refine bd_e hf (fun r16 er16 hf => ?_)
            refine gd_e hf (fun hg17 hf => ?_)
            refine ev_calli (va_runV (As := []) (rest := []) S (c_X4_coveredDots (l := l) I P q8 r16 er16) (cwV 0 hts (gi_v wa_2_106 wa_2_107 wa_2_108 wa_1_7 wa_2_109) rfl rfl rfl (by decide +kernel) ⟨Nat.le_of_ble_eq_true rfl, Nat.le_of_ble_eq_true rfl⟩) ⟨mm_B_blind, ev_recv hK hM (ci := 4) rfl hg17 rfl, fun U hU hW => ⟨rfl, mm_B_of hK hZ hM hU hW⟩⟩ rfl rfl hl.1 rfl (lv_room (Nat.le_of_ble_eq_true rfl)) dX9_told_72 ⟨Nat.zero_le _, Nat.zero_le _⟩) hM (fun H locs hM => ?_)
            obtain rfl := Option.some.inj hf
            subst hQ
            exact ev_iret S hr hlocks hK hZ hM dX9_told_75
          · have hf := it_n hf hc12
            refine lv_tableOut (tgt := 76) hx hb dX9_told_25 (by have t0 := ne_t hc9 (y := 0) rfl; have t1 := ne_t hc10 (y := 1) rfl; have t2 := ne_t hc11 (y := 2) rfl; have t3 := ne_t hc12 (y := 3) rfl; omega) (by decide) ?_
            refine lv_bipush (v := (-2 : Int32)) hx hb dX9_told_76 (by decide) ?_
            obtain rfl := Option.some.inj hf
            subst hQ
            exact ev_iret S hr hlocks hK hZ hM dX9_told_78
  · have hf := it_p hf hc5
    refine lv_bipush (v := (-2 : Int32)) hx hb dX9_told_11 (by decide) ?_
    obtain rfl := Option.some.inj hf
    subst hQ
    exact ev_iret S hr hlocks hK hZ hM dX9_told_13
noncomputable def fn_X9_isUnder_L4 (x1 : Int32) : Nat → Int32 → Int32 → Option ((Int32) ⊕ (Unit))
  | 0, _, _ => none
  | n + 1, v1, v2 => if (6 : Int32) ≤ v2 then (some (Sum.inr ())) else (Option.bind (fn_X9_isWithin v1 (0 : Int32) (5 : Int32)) (fun (r6 : Int32) => if r6 = 0 then (some (Sum.inr ())) else (if v1 = x1 then (some (Sum.inl (1 : Int32))) else (gd (vp_in v1 6) (Option.bind (some (mm_zm (Int32.toNatClampNeg v1))) (fun v10 => fn_X9_isUnder_L4 x1 n v10 (v2 + (1 : Int32))))))))
noncomputable def fn_X9_isUnder (K N : Nat → Nat) (I : Nat → Nat → Int32) (P : Nat → Nat → Option Nat) (x0 : Int32) (x1 : Int32) : Option (Int32) := Option.bind (fn_X9_isUnder_L4 x1 FU x0 (0 : Int32)) (fun (r3 : (Int32) ⊕ (Unit)) => Sum.elim (fun t => some t) (fun (xx4 : Unit) => some (0 : Int32)) r3)
abbrev wz_X9_isUnder : List Cond := Cond.code yX9_isUnder cX9_isUnder 4 (some .boolean) :: WA
abbrev rm_X9_isUnder : Room := { frames := 2, cells := 0, slots := 0, locals := 34 }
set_option maxHeartbeats 4000000 in
set_option maxRecDepth 100000 in
theorem c_X9_isUnder (I : Nat → Nat → Int32) (P : Nat → Nat → Option Nat) (x0 : Int32) (x1 : Int32) (res : Int32) (hf : fn_X9_isUnder K N I P x0 x1 = some res) : Met l yX9_isUnder wz_X9_isUnder rm_X9_isUnder (va_Pc [.int x0, .int x1] (mm_B D cs A L K N z w I P)) (va_Qi (fun r (_ : Unit) => r = res) (fun _ => mm_B D cs A L K N z w I P) A) 0 0 A := by
  refine Met.ofW (cc := cX9_isUnder) (maxL := 4) (ret := (some .boolean)) (by decide) rfl ?_
  intro p e s m args below meth c s₁ B hml hv
  obtain ⟨rfl, hBm⟩ := hv
  have hx := B.exec
  have hb := B.bytes
  have hr := B.returns
  have hts := atoms_spec (ws := wz_X9_isUnder) B.pre
  have hWA : ∀ w ∈ WA, w.before ([.int x0, .int x1] : List Value).toArray s = true := fun u9 h9 => hts u9 (List.mem_cons_of_mem _ h9)
  have hown : s.vm.findClass RX9 = some m.cls := findClass_of_methodNamed B.named
  have hlocks := B.notSynchronized
  have S : CallFix p m c cX9_isUnder 4 s ([.int x0, .int x1] : List Value).toArray wz_X9_isUnder RX9 := ⟨hx, hb, hml, hown, hts⟩
  have hK := hBm.2.2.2.1
  have hZ := hBm.2.2.2.2
  have hM : mm_W D cs A L K N s.heap I P s.heap [] := ⟨hBm.1, hBm.2.1, hBm.2.2.1, va_S.rf⟩
  have hl := lv_entry ([.int x0, .int x1]) (n := 4) (Nat.le_of_ble_eq_true rfl)
  rw [lg_entry_eq]
  generalize (lg_sl ([.int x0, .int x1]) ++ List.replicate (4 - (lg_sl ([.int x0, .int x1])).length) Slot.unset).toArray = ls at hl ⊢
  have hl : lv_has ls 4 [(0, .int x0), (1, .int x1)] := hl
  generalize hQ : MQ below (va_Qi (fun r (_ : Unit) => r = res) (fun _ => mm_B D cs A L K N z w I P) A) ([.int x0, .int x1] : List Value).toArray s 0 0 A = QQ
  rw [fn_X9_isUnder] at hf
  refine lv_iload_n hx hb dX9_isUnder_0 rfl (lv_at hl 0 rfl) ?_
  refine lv_istore_n (lv' := [(2, .int x0), (0, .int x0), (1, .int x1)]) hx hb dX9_isUnder_1 rfl hl (by decide) rfl (fun ls hl => ?_)
  refine lv_iconst (v := (0 : Int32)) hx hb dX9_isUnder_2 (by decide) ?_
  refine lv_istore_n (lv' := [(3, .int (0 : Int32)), (2, .int x0), (0, .int x0), (1, .int x1)]) hx hb dX9_isUnder_3 rfl hl (by decide) rfl (fun ls hl => ?_)
  have lp4_10 : ∀ (n : Nat) (v1 : Int32) (v2 : Int32) (H : Heap) (locs : List Loc) (ls : Array Slot) (r3 : (Int32) ⊕ (Unit)), mm_W D cs A L K N s.heap I P H locs → lv_has ls 4 [(1, .int x1), (2, .int v1), (3, .int v2)] → fn_X9_isUnder_L4 x1 n v1 v2 = some r3 → (∀ xx4 : Unit, r3 = Sum.inr xx4 → ∀ (H : Heap) (locs : List Loc) (ls : Array Slot), mm_W D cs A L K N s.heap I P H locs → lv_has ls 4 [] → W p l e (headSpec wz_X9_isUnder rm_X9_isUnder).room s m ([.int x0, .int x1] : List Value).toArray below meth c H locs 0 0 QQ (F0 m 38 ls [])) → (∀ t : Int32, r3 = Sum.inl t → t = res) → W p l e (headSpec wz_X9_isUnder rm_X9_isUnder).room s m ([.int x0, .int x1] : List Value).toArray below meth c H locs 0 0 QQ (F0 m 4 ls []) := by
    intro n
    induction n with
    | zero => intro v1 v2 H locs ls r3 hM hl hf kk kr; exact nn_x (show (none : Option ((Int32) ⊕ (Unit))) = some r3 from hf)
    | succ n ih =>
      intro v1 v2 H locs ls r3 hM hl hf kk kr
      rw [fn_X9_isUnder_L4] at hf
      refine lv_iload_n hx hb dX9_isUnder_4 rfl (lv_at hl 2 rfl) ?_
      refine lv_bipush (v := (6 : Int32)) hx hb dX9_isUnder_5 (by decide) ?_
      refine lv_icmp_ge (tgt := 38) hx hb dX9_isUnder_7 (by decide) (fun hc5 => ?_) (fun hc5 => ?_)
      · have hf := it_p hf hc5
        exact kk _ (Option.some.inj hf).symm _ _ _ hM (lv_sub hl [] rfl)
      · have hf := it_n hf hc5
        refine lv_iload_n hx hb dX9_isUnder_10 rfl (lv_at hl 1 rfl) ?_
        refine lv_iconst (v := (0 : Int32)) hx hb dX9_isUnder_11 (by decide) ?_
        refine lv_iconst (v := (5 : Int32)) hx hb dX9_isUnder_12 (by decide) ?_
        refine bd_e hf (fun r6 er6 hf => ?_)
        refine ev_calli (va_runS (As := [.int v1, .int (0 : Int32), .int (5 : Int32)]) (rest := []) S (c_X9_isWithin (l := l) I P v1 (0 : Int32) (5 : Int32) r6 er6) (va_cwS 3 hts (gi_s wa_2_47 wa_2_48 wa_1_1 wa_2_49) rfl rfl rfl (by decide +kernel) ⟨Nat.le_of_ble_eq_true rfl, Nat.le_of_ble_eq_true rfl⟩) ⟨mm_B_blind, fun U hU hW => ⟨rfl, mm_B_of hK hZ hM hU hW⟩⟩ rfl rfl hl.1 rfl (lv_room (Nat.le_of_ble_eq_true rfl)) dX9_isUnder_13 ⟨Nat.zero_le _, Nat.zero_le _⟩) hM (fun H locs hM => ?_)
        refine lv_if_eq (tgt := 38) hx hb dX9_isUnder_16 (by decide) (fun hc7 => ?_) (fun hc7 => ?_)
        · have hf := it_p hf hc7
          exact kk _ (Option.some.inj hf).symm _ _ _ hM (lv_sub hl [] rfl)
        · have hf := it_n hf hc7
          refine lv_iload_n hx hb dX9_isUnder_19 rfl (lv_at hl 1 rfl) ?_
          refine lv_iload_n hx hb dX9_isUnder_20 rfl (lv_at hl 0 rfl) ?_
          refine lv_icmp_ne (tgt := 26) hx hb dX9_isUnder_21 (by decide) (fun hc8 => ?_) (fun hc8 => ?_)
          · have hf := it_n hf hc8
            refine ev_gets0 S hZ hM (hWA _ wa_2_117) dX9_isUnder_26 ?_
            refine lv_iload_n hx hb dX9_isUnder_29 rfl (lv_at hl 1 rfl) ?_
            refine gd_e hf (fun hg9 hf => ?_)
            refine ev_sld0 S hZ hM hg9 dX9_isUnder_30 ?_
            refine lv_topi (fun v10 ev10 => ?_)
            have hf := nm_x ev10 hf
            refine lv_istore_n (lv' := [(2, .int v10), (1, .int x1), (3, .int v2)]) hx hb dX9_isUnder_31 rfl hl (by decide) rfl (fun ls hl => ?_)
            refine lv_iinc (v := (v2 + (1 : Int32))) (lv' := [(3, .int (v2 + (1 : Int32))), (2, .int v10), (1, .int x1)]) hx hb dX9_isUnder_32 hl (k := 2) rfl rfl (by decide) rfl (fun ls hl => ?_)
            refine lv_goto (tgt := 4) hx hb dX9_isUnder_35 (by decide) ?_
            exact ih v10 (v2 + (1 : Int32)) _ _ _ _ hM (lv_sub hl [2, 1, 0] rfl) hf kk kr
          · have hf := it_p hf hc8
            refine lv_iconst (v := (1 : Int32)) hx hb dX9_isUnder_24 (by decide) ?_
            have hrr := kr _ (Option.some.inj hf).symm
            subst hrr
            subst hQ
            exact ev_zret (v := (1 : Int32)) S hr hlocks hK hZ hM rfl dX9_isUnder_25
  refine bd_e hf (fun r3 er3 hf => ?_)
  refine lp4_10 FU x0 (0 : Int32) _ _ _ r3 hM (lv_sub hl [3, 1, 0] rfl) er3 (fun xx4 exxx4 H locs ls hM hl => ?_) (fun t ht => by subst ht; exact Option.some.inj hf)
  subst exxx4
  have hf := sm_r hf
  refine lv_iconst (v := (0 : Int32)) hx hb dX9_isUnder_38 (by decide) ?_
  obtain rfl := Option.some.inj hf
  subst hQ
  exact ev_zret (v := (0 : Int32)) S hr hlocks hK hZ hM rfl dX9_isUnder_39
noncomputable def fn_X9_taken (K N : Nat → Nat) (I : Nat → Nat → Int32) (P : Nat → Nat → Option Nat) (a0 : Nat) (x1 : Int32) (x2 : Int32) (x3 : Int32) : Option (Int32) := gd (K a0 = 10) (Option.bind (P a0 (0)) (fun q2 => Option.bind (fn_X6_hasLayer K N I P q2 x1) (fun (r3 : Int32) => gd (K q2 = 7) (if r3 = 0 then (some (-2 : Int32)) else (Option.bind (fn_X9_isWithin x2 (0 : Int32) (5 : Int32)) (fun (r6 : Int32) => if r6 = 0 then (some (-2 : Int32)) else (Option.bind (fn_X9_isByte x3) (fun (r8 : Int32) => if r8 = 0 then (some (-2 : Int32)) else (Option.bind (P q2 (0)) (fun q10 => gd (K q10 = 15 ∧ vp_in x1 (N q10)) (Option.bind (P q10 (x1.toNatClampNeg)) (fun q12 => gd (K q12 = 5) (Option.bind (fn_X9_isUnder K N I P (I q12 2) x2) (fun (r14 : Int32) => if r14 = 0 then (some (-13 : Int32)) else (Option.bind (fn_X4_makes K N I P q12 x3 (200 : Int32)) (fun (r16 : Int32) => some r16))))))))))))))))
abbrev wz_X9_taken : List Cond := Cond.code yX9_taken cX9_taken 5 (some .int) :: WA
abbrev rm_X9_taken : Room := { frames := 3, cells := 0, slots := 0, locals := 57 }
set_option maxHeartbeats 4000000 in
set_option maxRecDepth 100000 in
theorem c_X9_taken (I : Nat → Nat → Int32) (P : Nat → Nat → Option Nat) (a0 : Nat) (x1 : Int32) (x2 : Int32) (x3 : Int32) (res : Int32) (hf : fn_X9_taken K N I P a0 x1 x2 x3 = some res) : Met l yX9_taken wz_X9_taken rm_X9_taken (va_Pc [.ref a0, .int x1, .int x2, .int x3] (mm_B D cs A L K N z w I P)) (va_Qi (fun r (_ : Unit) => r = res) (fun _ => mm_B D cs A L K N z w I P) A) 0 0 A := by
  refine Met.ofW (cc := cX9_taken) (maxL := 5) (ret := (some .int)) (by decide) rfl ?_
  intro p e s m args below meth c s₁ B hml hv
  obtain ⟨rfl, hBm⟩ := hv
  have hx := B.exec
  have hb := B.bytes
  have hr := B.returns
  have hts := atoms_spec (ws := wz_X9_taken) B.pre
  have hWA : ∀ w ∈ WA, w.before ([.ref a0, .int x1, .int x2, .int x3] : List Value).toArray s = true := fun u9 h9 => hts u9 (List.mem_cons_of_mem _ h9)
  have hown : s.vm.findClass RX9 = some m.cls := findClass_of_methodNamed B.named
  have hlocks := B.notSynchronized
  have S : CallFix p m c cX9_taken 5 s ([.ref a0, .int x1, .int x2, .int x3] : List Value).toArray wz_X9_taken RX9 := ⟨hx, hb, hml, hown, hts⟩
  have hK := hBm.2.2.2.1
  have hZ := hBm.2.2.2.2
  have hM : mm_W D cs A L K N s.heap I P s.heap [] := ⟨hBm.1, hBm.2.1, hBm.2.2.1, va_S.rf⟩
  have hl := lv_entry ([.ref a0, .int x1, .int x2, .int x3]) (n := 5) (Nat.le_of_ble_eq_true rfl)
  rw [lg_entry_eq]
  generalize (lg_sl ([.ref a0, .int x1, .int x2, .int x3]) ++ List.replicate (5 - (lg_sl ([.ref a0, .int x1, .int x2, .int x3])).length) Slot.unset).toArray = ls at hl ⊢
  have hl : lv_has ls 5 [(0, .ref a0), (1, .int x1), (2, .int x2), (3, .int x3)] := hl
  have hin9 : ∀ w ∈ wsX90, w ∈ wz_X9_taken := fun w h => List.mem_cons_of_mem _ (wu_X9 w h)
  have hin6 : ∀ w ∈ wsX60, w ∈ wz_X9_taken := fun w h => List.mem_cons_of_mem _ (wu_X6 w h)
  have hin4 : ∀ w ∈ wsX40, w ∈ wz_X9_taken := fun w h => List.mem_cons_of_mem _ (wu_X4 w h)
  have lk10 : (Cond.fieldLink RX9 10 RX9 "picture" "LRasterPainter$Picture;").before ([.ref a0, .int x1, .int x2, .int x3] : List Value).toArray s = true := hWA _ wa_2_15
  have lk83 : (Cond.fieldLink RX9 83 RX6 "layers" "[LRasterPainter$Layer;").before ([.ref a0, .int x1, .int x2, .int x3] : List Value).toArray s = true := hWA _ wa_1_152
  have lk94 : (Cond.fieldLink RX9 94 RX4 "mode" "I").before ([.ref a0, .int x1, .int x2, .int x3] : List Value).toArray s = true := hWA _ wa_1_135
  generalize hQ : MQ below (va_Qi (fun r (_ : Unit) => r = res) (fun _ => mm_B D cs A L K N z w I P) A) ([.ref a0, .int x1, .int x2, .int x3] : List Value).toArray s 0 0 A = QQ
  rw [fn_X9_taken] at hf
  refine lv_aload_n hx hb dX9_taken_0 rfl (lv_at hl 0 rfl) ?_
  refine gd_e hf (fun hg1 hf => ?_)
  refine bd_e hf (fun q2 eq2 hf => ?_)
  refine ev_getP (v := q2) S hK hM (ci := 9) (n := 8) (C := RX9) (T := TX9) hin9 rfl hg1 0 (by decide) lk10 rfl rfl eq2 rfl dX9_taken_1 ?_
  refine lv_iload_n hx hb dX9_taken_4 rfl (lv_at hl 1 rfl) ?_
  refine bd_e hf (fun r3 er3 hf => ?_)
  refine gd_e hf (fun hg4 hf => ?_)
  refine ev_calli (va_runV (As := [.int x1]) (rest := []) S (c_X6_hasLayer (l := l) I P q2 x1 r3 er3) (cwV 1 hts (gi_v wa_2_76 wa_2_77 wa_2_78 wa_1_2 wa_2_79) rfl rfl rfl (by decide +kernel) ⟨Nat.le_of_ble_eq_true rfl, Nat.le_of_ble_eq_true rfl⟩) ⟨mm_B_blind, ev_recv hK hM (ci := 6) rfl hg4 rfl, fun U hU hW => ⟨rfl, mm_B_of hK hZ hM hU hW⟩⟩ rfl rfl hl.1 rfl (lv_room (Nat.le_of_ble_eq_true rfl)) dX9_taken_5 ⟨Nat.zero_le _, Nat.zero_le _⟩) hM (fun H locs hM => ?_)
  refine lv_if_eq (tgt := 27) hx hb dX9_taken_8 (by decide) (fun hc5 => ?_) (fun hc5 => ?_)
  · have hf := it_p hf hc5
    refine lv_bipush (v := (-2 : Int32)) hx hb dX9_taken_27 (by decide) ?_
    obtain rfl := Option.some.inj hf
    subst hQ
    exact ev_iret S hr hlocks hK hZ hM dX9_taken_29
  · have hf := it_n hf hc5
    refine lv_iload_n hx hb dX9_taken_11 rfl (lv_at hl 2 rfl) ?_
    refine lv_iconst (v := (0 : Int32)) hx hb dX9_taken_12 (by decide) ?_
    refine lv_iconst (v := (5 : Int32)) hx hb dX9_taken_13 (by decide) ?_
    refine bd_e hf (fun r6 er6 hf => ?_)
    refine ev_calli (va_runS (As := [.int x2, .int (0 : Int32), .int (5 : Int32)]) (rest := []) S (c_X9_isWithin (l := l) I P x2 (0 : Int32) (5 : Int32) r6 er6) (va_cwS 3 hts (gi_s wa_2_47 wa_2_48 wa_1_1 wa_2_49) rfl rfl rfl (by decide +kernel) ⟨Nat.le_of_ble_eq_true rfl, Nat.le_of_ble_eq_true rfl⟩) ⟨mm_B_blind, fun U hU hW => ⟨rfl, mm_B_of hK hZ hM hU hW⟩⟩ rfl rfl hl.1 rfl (lv_room (Nat.le_of_ble_eq_true rfl)) dX9_taken_14 ⟨Nat.zero_le _, Nat.zero_le _⟩) hM (fun H locs hM => ?_)
    refine lv_if_eq (tgt := 27) hx hb dX9_taken_17 (by decide) (fun hc7 => ?_) (fun hc7 => ?_)
    · have hf := it_p hf hc7
      refine lv_bipush (v := (-2 : Int32)) hx hb dX9_taken_27 (by decide) ?_
      obtain rfl := Option.some.inj hf
      subst hQ
      exact ev_iret S hr hlocks hK hZ hM dX9_taken_29
    · have hf := it_n hf hc7
      refine lv_iload_n hx hb dX9_taken_20 rfl (lv_at hl 3 rfl) ?_
      refine bd_e hf (fun r8 er8 hf => ?_)
      refine ev_calli (va_runS (As := [.int x3]) (rest := []) S (c_X9_isByte (l := l) I P x3 r8 er8) (va_cwS 1 hts (gi_s wa_2_50 wa_2_51 wa_1_1 wa_2_52) rfl rfl rfl (by decide +kernel) ⟨Nat.le_of_ble_eq_true rfl, Nat.le_of_ble_eq_true rfl⟩) ⟨mm_B_blind, fun U hU hW => ⟨rfl, mm_B_of hK hZ hM hU hW⟩⟩ rfl rfl hl.1 rfl (lv_room (Nat.le_of_ble_eq_true rfl)) dX9_taken_21 ⟨Nat.zero_le _, Nat.zero_le _⟩) hM (fun H locs hM => ?_)
      refine lv_if_ne (tgt := 30) hx hb dX9_taken_24 (by decide) (fun hc9 => ?_) (fun hc9 => ?_)
      · have hf := it_n hf hc9
        refine lv_aload_n hx hb dX9_taken_30 rfl (lv_at hl 0 rfl) ?_
        refine ev_getP (v := q2) S hK hM (ci := 9) (n := 8) (C := RX9) (T := TX9) hin9 rfl hg1 0 (by decide) lk10 rfl rfl eq2 rfl dX9_taken_31 ?_
        refine bd_e hf (fun q10 eq10 hf => ?_)
        refine ev_getP (v := q10) S hK hM (ci := 6) (n := 6) (C := RX6) (T := TX6) hin6 rfl hg4 0 (by decide) lk83 rfl rfl eq10 rfl dX9_taken_34 ?_
        refine lv_iload_n hx hb dX9_taken_37 rfl (lv_at hl 1 rfl) ?_
        refine gd_e hf (fun hg11 hf => ?_)
        refine bd_e hf (fun q12 eq12 hf => ?_)
        refine ev_aald15 S hK hM hg11 (j := x1.toNatClampNeg) rfl eq12 dX9_taken_38 ?_
        refine lv_astore (lv' := [(4, .ref q12), (0, .ref a0), (1, .int x1), (2, .int x2), (3, .int x3)]) hx hb dX9_taken_39 hl (by decide) rfl (fun ls hl => ?_)
        refine lv_aload hx hb dX9_taken_41 (lv_at hl 0 rfl) ?_
        refine gd_e hf (fun hg13 hf => ?_)
        refine ev_get (v := .int (I q12 2)) S hK hM (ci := 4) (n := 5) (C := RX4) (T := TX4) hin4 rfl hg13 2 (by decide) lk94 rfl rfl rfl dX9_taken_43 ?_
        refine lv_iload_n hx hb dX9_taken_46 rfl (lv_at hl 3 rfl) ?_
        refine bd_e hf (fun r14 er14 hf => ?_)
        refine ev_calli (va_runS (As := [.int (I q12 2), .int x2]) (rest := []) S (c_X9_isUnder (l := l) I P (I q12 2) x2 r14 er14) (va_cwS 2 hts (gi_s wa_2_114 wa_2_115 wa_1_1 wa_2_116) rfl rfl rfl (by decide +kernel) ⟨Nat.le_of_ble_eq_true rfl, Nat.le_of_ble_eq_true rfl⟩) ⟨mm_B_blind, fun U hU hW => ⟨rfl, mm_B_of hK hZ hM hU hW⟩⟩ rfl rfl hl.1 rfl (lv_room (Nat.le_of_ble_eq_true rfl)) dX9_taken_47 ⟨Nat.zero_le _, Nat.zero_le _⟩) hM (fun H locs hM => ?_)
        refine lv_if_eq (tgt := 65) hx hb dX9_taken_50 (by decide) (fun hc15 => ?_) (fun hc15 => ?_)
        · have hf := it_p hf hc15
          refine lv_bipush (v := (-13 : Int32)) hx hb dX9_taken_65 (by decide) ?_
          obtain rfl := Option.some.inj hf
          subst hQ
          exact ev_iret S hr hlocks hK hZ hM dX9_taken_67
        · have hf := it_n hf hc15
          refine lv_aload hx hb dX9_taken_53 (lv_at hl 0 rfl) ?_
          refine lv_iload_n hx hb dX9_taken_55 rfl (lv_at hl 4 rfl) ?_
          refine lv_sipush (v := (200 : Int32)) hx hb dX9_taken_56 (by decide) ?_
          refine bd_e hf (fun r16 er16 hf => ?_)
          refine ev_calli (va_runV (As := [.int x3, .int (200 : Int32)]) (rest := []) S (c_X4_makes (l := l) I P q12 x3 (200 : Int32) r16 er16) (cwV 2 hts (gi_v wa_2_119 wa_2_120 wa_2_121 wa_1_7 wa_2_122) rfl rfl rfl (by decide +kernel) ⟨Nat.le_of_ble_eq_true rfl, Nat.le_of_ble_eq_true rfl⟩) ⟨mm_B_blind, ev_recv hK hM (ci := 4) rfl hg13 rfl, fun U hU hW => ⟨rfl, mm_B_of hK hZ hM hU hW⟩⟩ rfl rfl hl.1 rfl (lv_room (Nat.le_of_ble_eq_true rfl)) dX9_taken_59 ⟨Nat.zero_le _, Nat.zero_le _⟩) hM (fun H locs hM => ?_)
          refine lv_goto (tgt := 67) hx hb dX9_taken_62 (by decide) ?_
          obtain rfl := Option.some.inj hf
          subst hQ
          exact ev_iret S hr hlocks hK hZ hM dX9_taken_67
      · have hf := it_p hf hc9
        refine lv_bipush (v := (-2 : Int32)) hx hb dX9_taken_27 (by decide) ?_
        obtain rfl := Option.some.inj hf
        subst hQ
        exact ev_iret S hr hlocks hK hZ hM dX9_taken_29
noncomputable def fn_X9_seenAt (K N : Nat → Nat) (I : Nat → Nat → Int32) (P : Nat → Nat → Option Nat) (a0 : Nat) (x1 : Int32) : Option (Int32) := gd (K a0 = 10) (Option.bind (P a0 (0)) (fun q2 => gd (K q2 = 7) (Option.bind (P a0 (6)) (fun q4 => Option.bind (fn_X6_seenIf K N I P q2 x1 (I q2 2) (-1 : Int32) q4) (fun (r5 : Int32) => some r5)))))
abbrev wz_X9_seenAt : List Cond := Cond.code yX9_seenAt cX9_seenAt 2 (some .int) :: WA
abbrev rm_X9_seenAt : Room := { frames := 5, cells := 0, slots := 0, locals := 105 }
set_option maxHeartbeats 4000000 in
set_option maxRecDepth 100000 in
theorem c_X9_seenAt (I : Nat → Nat → Int32) (P : Nat → Nat → Option Nat) (a0 : Nat) (x1 : Int32) (res : Int32) (hf : fn_X9_seenAt K N I P a0 x1 = some res) : Met l yX9_seenAt wz_X9_seenAt rm_X9_seenAt (va_Pc [.ref a0, .int x1] (mm_B D cs A L K N z w I P)) (va_Qi (fun r (_ : Unit) => r = res) (fun _ => mm_B D cs A L K N z w I P) A) 0 0 A := by
  refine Met.ofW (cc := cX9_seenAt) (maxL := 2) (ret := (some .int)) (by decide) rfl ?_
  intro p e s m args below meth c s₁ B hml hv
  obtain ⟨rfl, hBm⟩ := hv
  have hx := B.exec
  have hb := B.bytes
  have hr := B.returns
  have hts := atoms_spec (ws := wz_X9_seenAt) B.pre
  have hWA : ∀ w ∈ WA, w.before ([.ref a0, .int x1] : List Value).toArray s = true := fun u9 h9 => hts u9 (List.mem_cons_of_mem _ h9)
  have hown : s.vm.findClass RX9 = some m.cls := findClass_of_methodNamed B.named
  have hlocks := B.notSynchronized
  have S : CallFix p m c cX9_seenAt 2 s ([.ref a0, .int x1] : List Value).toArray wz_X9_seenAt RX9 := ⟨hx, hb, hml, hown, hts⟩
  have hK := hBm.2.2.2.1
  have hZ := hBm.2.2.2.2
  have hM : mm_W D cs A L K N s.heap I P s.heap [] := ⟨hBm.1, hBm.2.1, hBm.2.2.1, va_S.rf⟩
  have hl := lv_entry ([.ref a0, .int x1]) (n := 2) (Nat.le_of_ble_eq_true rfl)
  rw [lg_entry_eq]
  generalize (lg_sl ([.ref a0, .int x1]) ++ List.replicate (2 - (lg_sl ([.ref a0, .int x1])).length) Slot.unset).toArray = ls at hl ⊢
  have hl : lv_has ls 2 [(0, .ref a0), (1, .int x1)] := hl
  have hin9 : ∀ w ∈ wsX90, w ∈ wz_X9_seenAt := fun w h => List.mem_cons_of_mem _ (wu_X9 w h)
  have hin6 : ∀ w ∈ wsX60, w ∈ wz_X9_seenAt := fun w h => List.mem_cons_of_mem _ (wu_X6 w h)
  have lk10 : (Cond.fieldLink RX9 10 RX9 "picture" "LRasterPainter$Picture;").before ([.ref a0, .int x1] : List Value).toArray s = true := hWA _ wa_2_15
  have lk255 : (Cond.fieldLink RX9 255 RX6 "paper" "I").before ([.ref a0, .int x1] : List Value).toArray s = true := hWA _ wa_1_156
  have lk47 : (Cond.fieldLink RX9 47 RX9 "thought" "LRasterPainter$Layer;").before ([.ref a0, .int x1] : List Value).toArray s = true := hWA _ wa_2_21
  generalize hQ : MQ below (va_Qi (fun r (_ : Unit) => r = res) (fun _ => mm_B D cs A L K N z w I P) A) ([.ref a0, .int x1] : List Value).toArray s 0 0 A = QQ
  rw [fn_X9_seenAt] at hf
  refine lv_aload_n hx hb dX9_seenAt_0 rfl (lv_at hl 0 rfl) ?_
  refine gd_e hf (fun hg1 hf => ?_)
  refine bd_e hf (fun q2 eq2 hf => ?_)
  refine ev_getP (v := q2) S hK hM (ci := 9) (n := 8) (C := RX9) (T := TX9) hin9 rfl hg1 0 (by decide) lk10 rfl rfl eq2 rfl dX9_seenAt_1 ?_
  refine lv_iload_n hx hb dX9_seenAt_4 rfl (lv_at hl 1 rfl) ?_
  refine lv_aload_n hx hb dX9_seenAt_5 rfl (lv_at hl 0 rfl) ?_
  refine ev_getP (v := q2) S hK hM (ci := 9) (n := 8) (C := RX9) (T := TX9) hin9 rfl hg1 0 (by decide) lk10 rfl rfl eq2 rfl dX9_seenAt_6 ?_
  refine gd_e hf (fun hg3 hf => ?_)
  refine ev_get (v := .int (I q2 2)) S hK hM (ci := 6) (n := 6) (C := RX6) (T := TX6) hin6 rfl hg3 2 (by decide) lk255 rfl rfl rfl dX9_seenAt_9 ?_
  refine lv_iconst (v := (-1 : Int32)) hx hb dX9_seenAt_12 (by decide) ?_
  refine lv_aload_n hx hb dX9_seenAt_13 rfl (lv_at hl 0 rfl) ?_
  refine bd_e hf (fun q4 eq4 hf => ?_)
  refine ev_getP (v := q4) S hK hM (ci := 9) (n := 8) (C := RX9) (T := TX9) hin9 rfl hg1 6 (by decide) lk47 rfl rfl eq4 rfl dX9_seenAt_14 ?_
  refine bd_e hf (fun r5 er5 hf => ?_)
  refine ev_calli (va_runV (As := [.int x1, .int (I q2 2), .int (-1 : Int32), .ref q4]) (rest := []) S (c_X6_seenIf (l := l) I P q2 x1 (I q2 2) (-1 : Int32) q4 r5 er5) (cwV 4 hts (gi_v wa_2_155 wa_2_156 wa_2_157 wa_1_2 wa_2_158) rfl rfl rfl (by decide +kernel) ⟨Nat.le_of_ble_eq_true rfl, Nat.le_of_ble_eq_true rfl⟩) ⟨mm_B_blind, ev_recv hK hM (ci := 6) rfl hg3 rfl, fun U hU hW => ⟨rfl, mm_B_of hK hZ hM hU hW⟩⟩ rfl rfl hl.1 rfl (lv_room (Nat.le_of_ble_eq_true rfl)) dX9_seenAt_17 ⟨Nat.zero_le _, Nat.zero_le _⟩) hM (fun H locs hM => ?_)
  obtain rfl := Option.some.inj hf
  subst hQ
  exact ev_iret S hr hlocks hK hZ hM dX9_seenAt_20
noncomputable def fn_X9_dot (K N : Nat → Nat) (I : Nat → Nat → Int32) (P : Nat → Nat → Option Nat) (a0 : Nat) (x1 : Int32) (x2 : Int32) (x3 : Int32) (x4 : Int32) : Option (Int32) := Option.bind (fn_X9_isDot x2 x3) (fun (r1 : Int32) => if r1 = 0 then (some (-2 : Int32)) else (if x1 = (-1 : Int32) then (if x4 = 0 then (Option.bind (fn_X9_dotAt x2 x3) (fun (r24 : Int32) => Option.bind (fn_X9_seenAt K N I P a0 r24) (fun (r25 : Int32) => gd (K a0 = 10) (some r25)))) else (some (-2 : Int32))) else (gd (K a0 = 10) (Option.bind (P a0 (0)) (fun q5 => Option.bind (fn_X6_hasLayer K N I P q5 x1) (fun (r6 : Int32) => gd (K q5 = 7) (if r6 = 0 then (some (-2 : Int32)) else (Option.bind (fn_X9_isWithin x4 (0 : Int32) (1 : Int32)) (fun (r9 : Int32) => if r9 = 0 then (some (-2 : Int32)) else (Option.bind (P q5 (0)) (fun q11 => gd (K q11 = 15 ∧ vp_in x1 (N q11)) (Option.bind (P q11 (x1.toNatClampNeg)) (fun q13 => if x4 = 0 then (gd (K q13 = 5) (Option.bind (P q13 (0)) (fun q20 => Option.bind (fn_X9_dotAt x2 x3) (fun (r21 : Int32) => gd (K q20 = 12 ∧ vp_in r21 (N q20)) (some (I q20 (r21.toNatClampNeg))))))) else (gd (K q13 = 5) (Option.bind (P q13 (1)) (fun q16 => Option.bind (fn_X9_dotAt x2 x3) (fun (r17 : Int32) => gd (K q16 = 12 ∧ vp_in r17 (N q16)) (some (I q16 (r17.toNatClampNeg))))))))))))))))))))
abbrev wz_X9_dot : List Cond := Cond.code yX9_dot cX9_dot 6 (some .int) :: WA
abbrev rm_X9_dot : Room := { frames := 6, cells := 0, slots := 0, locals := 126 }
set_option maxHeartbeats 4000000 in
set_option maxRecDepth 100000 in
theorem c_X9_dot (I : Nat → Nat → Int32) (P : Nat → Nat → Option Nat) (a0 : Nat) (x1 : Int32) (x2 : Int32) (x3 : Int32) (x4 : Int32) (res : Int32) (hf : fn_X9_dot K N I P a0 x1 x2 x3 x4 = some res) : Met l yX9_dot wz_X9_dot rm_X9_dot (va_Pc [.ref a0, .int x1, .int x2, .int x3, .int x4] (mm_B D cs A L K N z w I P)) (va_Qi (fun r (_ : Unit) => r = res) (fun _ => mm_B D cs A L K N z w I P) A) 0 0 A := by
  refine Met.ofW (cc := cX9_dot) (maxL := 6) (ret := (some .int)) (by decide) rfl ?_
  intro p e s m args below meth c s₁ B hml hv
  obtain ⟨rfl, hBm⟩ := hv
  have hx := B.exec
  have hb := B.bytes
  have hr := B.returns
  have hts := atoms_spec (ws := wz_X9_dot) B.pre
  have hWA : ∀ w ∈ WA, w.before ([.ref a0, .int x1, .int x2, .int x3, .int x4] : List Value).toArray s = true := fun u9 h9 => hts u9 (List.mem_cons_of_mem _ h9)
  have hown : s.vm.findClass RX9 = some m.cls := findClass_of_methodNamed B.named
  have hlocks := B.notSynchronized
  have S : CallFix p m c cX9_dot 6 s ([.ref a0, .int x1, .int x2, .int x3, .int x4] : List Value).toArray wz_X9_dot RX9 := ⟨hx, hb, hml, hown, hts⟩
  have hK := hBm.2.2.2.1
  have hZ := hBm.2.2.2.2
  have hM : mm_W D cs A L K N s.heap I P s.heap [] := ⟨hBm.1, hBm.2.1, hBm.2.2.1, va_S.rf⟩
  have hl := lv_entry ([.ref a0, .int x1, .int x2, .int x3, .int x4]) (n := 6) (Nat.le_of_ble_eq_true rfl)
  rw [lg_entry_eq]
  generalize (lg_sl ([.ref a0, .int x1, .int x2, .int x3, .int x4]) ++ List.replicate (6 - (lg_sl ([.ref a0, .int x1, .int x2, .int x3, .int x4])).length) Slot.unset).toArray = ls at hl ⊢
  have hl : lv_has ls 6 [(0, .ref a0), (1, .int x1), (2, .int x2), (3, .int x3), (4, .int x4)] := hl
  have hin9 : ∀ w ∈ wsX90, w ∈ wz_X9_dot := fun w h => List.mem_cons_of_mem _ (wu_X9 w h)
  have hin6 : ∀ w ∈ wsX60, w ∈ wz_X9_dot := fun w h => List.mem_cons_of_mem _ (wu_X6 w h)
  have hin4 : ∀ w ∈ wsX40, w ∈ wz_X9_dot := fun w h => List.mem_cons_of_mem _ (wu_X4 w h)
  have lk10 : (Cond.fieldLink RX9 10 RX9 "picture" "LRasterPainter$Picture;").before ([.ref a0, .int x1, .int x2, .int x3, .int x4] : List Value).toArray s = true := hWA _ wa_2_15
  have lk83 : (Cond.fieldLink RX9 83 RX6 "layers" "[LRasterPainter$Layer;").before ([.ref a0, .int x1, .int x2, .int x3, .int x4] : List Value).toArray s = true := hWA _ wa_1_152
  have lk130 : (Cond.fieldLink RX9 130 RX4 "covers" "[I").before ([.ref a0, .int x1, .int x2, .int x3, .int x4] : List Value).toArray s = true := hWA _ wa_1_133
  have lk127 : (Cond.fieldLink RX9 127 RX4 "inks" "[I").before ([.ref a0, .int x1, .int x2, .int x3, .int x4] : List Value).toArray s = true := hWA _ wa_1_129
  generalize hQ : MQ below (va_Qi (fun r (_ : Unit) => r = res) (fun _ => mm_B D cs A L K N z w I P) A) ([.ref a0, .int x1, .int x2, .int x3, .int x4] : List Value).toArray s 0 0 A = QQ
  rw [fn_X9_dot] at hf
  refine lv_iload_n hx hb dX9_dot_0 rfl (lv_at hl 2 rfl) ?_
  refine lv_iload_n hx hb dX9_dot_1 rfl (lv_at hl 3 rfl) ?_
  refine bd_e hf (fun r1 er1 hf => ?_)
  refine ev_calli (va_runS (As := [.int x2, .int x3]) (rest := []) S (c_X9_isDot (l := l) I P x2 x3 r1 er1) (va_cwS 2 hts (gi_s wa_2_142 wa_2_143 wa_1_1 wa_2_144) rfl rfl rfl (by decide +kernel) ⟨Nat.le_of_ble_eq_true rfl, Nat.le_of_ble_eq_true rfl⟩) ⟨mm_B_blind, fun U hU hW => ⟨rfl, mm_B_of hK hZ hM hU hW⟩⟩ rfl rfl hl.1 rfl (lv_room (Nat.le_of_ble_eq_true rfl)) dX9_dot_2 ⟨Nat.zero_le _, Nat.zero_le _⟩) hM (fun H locs hM => ?_)
  refine lv_if_ne (tgt := 11) hx hb dX9_dot_5 (by decide) (fun hc2 => ?_) (fun hc2 => ?_)
  · have hf := it_n hf hc2
    refine lv_iload_n hx hb dX9_dot_11 rfl (lv_at hl 1 rfl) ?_
    refine lv_iconst (v := (-1 : Int32)) hx hb dX9_dot_12 (by decide) ?_
    refine lv_icmp_ne (tgt := 36) hx hb dX9_dot_13 (by decide) (fun hc3 => ?_) (fun hc3 => ?_)
    · have hf := it_n hf hc3
      refine lv_aload_n hx hb dX9_dot_36 rfl (lv_at hl 0 rfl) ?_
      refine gd_e hf (fun hg4 hf => ?_)
      refine bd_e hf (fun q5 eq5 hf => ?_)
      refine ev_getP (v := q5) S hK hM (ci := 9) (n := 8) (C := RX9) (T := TX9) hin9 rfl hg4 0 (by decide) lk10 rfl rfl eq5 rfl dX9_dot_37 ?_
      refine lv_iload_n hx hb dX9_dot_40 rfl (lv_at hl 1 rfl) ?_
      refine bd_e hf (fun r6 er6 hf => ?_)
      refine gd_e hf (fun hg7 hf => ?_)
      refine ev_calli (va_runV (As := [.int x1]) (rest := []) S (c_X6_hasLayer (l := l) I P q5 x1 r6 er6) (cwV 1 hts (gi_v wa_2_76 wa_2_77 wa_2_78 wa_1_2 wa_2_79) rfl rfl rfl (by decide +kernel) ⟨Nat.le_of_ble_eq_true rfl, Nat.le_of_ble_eq_true rfl⟩) ⟨mm_B_blind, ev_recv hK hM (ci := 6) rfl hg7 rfl, fun U hU hW => ⟨rfl, mm_B_of hK hZ hM hU hW⟩⟩ rfl rfl hl.1 rfl (lv_room (Nat.le_of_ble_eq_true rfl)) dX9_dot_41 ⟨Nat.zero_le _, Nat.zero_le _⟩) hM (fun H locs hM => ?_)
      refine lv_if_eq (tgt := 57) hx hb dX9_dot_44 (by decide) (fun hc8 => ?_) (fun hc8 => ?_)
      · have hf := it_p hf hc8
        refine lv_bipush (v := (-2 : Int32)) hx hb dX9_dot_57 (by decide) ?_
        obtain rfl := Option.some.inj hf
        subst hQ
        exact ev_iret S hr hlocks hK hZ hM dX9_dot_59
      · have hf := it_n hf hc8
        refine lv_iload hx hb dX9_dot_47 (lv_at hl 4 rfl) ?_
        refine lv_iconst (v := (0 : Int32)) hx hb dX9_dot_49 (by decide) ?_
        refine lv_iconst (v := (1 : Int32)) hx hb dX9_dot_50 (by decide) ?_
        refine bd_e hf (fun r9 er9 hf => ?_)
        refine ev_calli (va_runS (As := [.int x4, .int (0 : Int32), .int (1 : Int32)]) (rest := []) S (c_X9_isWithin (l := l) I P x4 (0 : Int32) (1 : Int32) r9 er9) (va_cwS 3 hts (gi_s wa_2_47 wa_2_48 wa_1_1 wa_2_49) rfl rfl rfl (by decide +kernel) ⟨Nat.le_of_ble_eq_true rfl, Nat.le_of_ble_eq_true rfl⟩) ⟨mm_B_blind, fun U hU hW => ⟨rfl, mm_B_of hK hZ hM hU hW⟩⟩ rfl rfl hl.1 rfl (lv_room (Nat.le_of_ble_eq_true rfl)) dX9_dot_51 ⟨Nat.zero_le _, Nat.zero_le _⟩) hM (fun H locs hM => ?_)
        refine lv_if_ne (tgt := 60) hx hb dX9_dot_54 (by decide) (fun hc10 => ?_) (fun hc10 => ?_)
        · have hf := it_n hf hc10
          refine lv_aload_n hx hb dX9_dot_60 rfl (lv_at hl 0 rfl) ?_
          refine ev_getP (v := q5) S hK hM (ci := 9) (n := 8) (C := RX9) (T := TX9) hin9 rfl hg4 0 (by decide) lk10 rfl rfl eq5 rfl dX9_dot_61 ?_
          refine bd_e hf (fun q11 eq11 hf => ?_)
          refine ev_getP (v := q11) S hK hM (ci := 6) (n := 6) (C := RX6) (T := TX6) hin6 rfl hg7 0 (by decide) lk83 rfl rfl eq11 rfl dX9_dot_64 ?_
          refine lv_iload_n hx hb dX9_dot_67 rfl (lv_at hl 1 rfl) ?_
          refine gd_e hf (fun hg12 hf => ?_)
          refine bd_e hf (fun q13 eq13 hf => ?_)
          refine ev_aald15 S hK hM hg12 (j := x1.toNatClampNeg) rfl eq13 dX9_dot_68 ?_
          refine lv_astore (lv' := [(5, .ref q13), (0, .ref a0), (1, .int x1), (2, .int x2), (3, .int x3), (4, .int x4)]) hx hb dX9_dot_69 hl (by decide) rfl (fun ls hl => ?_)
          refine lv_iload hx hb dX9_dot_71 (lv_at hl 5 rfl) ?_
          refine lv_if_ne (tgt := 90) hx hb dX9_dot_73 (by decide) (fun hc14 => ?_) (fun hc14 => ?_)
          · have hf := it_n hf hc14
            refine lv_aload hx hb dX9_dot_90 (lv_at hl 0 rfl) ?_
            refine gd_e hf (fun hg15 hf => ?_)
            refine bd_e hf (fun q16 eq16 hf => ?_)
            refine ev_getP (v := q16) S hK hM (ci := 4) (n := 5) (C := RX4) (T := TX4) hin4 rfl hg15 1 (by decide) lk130 rfl rfl eq16 rfl dX9_dot_92 ?_
            refine lv_iload_n hx hb dX9_dot_95 rfl (lv_at hl 3 rfl) ?_
            refine lv_iload_n hx hb dX9_dot_96 rfl (lv_at hl 4 rfl) ?_
            refine bd_e hf (fun r17 er17 hf => ?_)
            refine ev_calli (va_runS (As := [.int x2, .int x3]) (rest := [.ref q16]) S (c_X9_dotAt (l := l) I P x2 x3 r17 er17) (va_cwS 2 hts (gi_s wa_2_148 wa_2_149 wa_1_1 wa_2_150) rfl rfl rfl (by decide +kernel) ⟨Nat.le_of_ble_eq_true rfl, Nat.le_of_ble_eq_true rfl⟩) ⟨mm_B_blind, fun U hU hW => ⟨rfl, mm_B_of hK hZ hM hU hW⟩⟩ rfl rfl hl.1 rfl (lv_room (Nat.le_of_ble_eq_true rfl)) dX9_dot_97 ⟨Nat.zero_le _, Nat.zero_le _⟩) hM (fun H locs hM => ?_)
            refine gd_e hf (fun hg18 hf => ?_)
            refine ev_iald S hK hM hg18 (j := r17.toNatClampNeg) rfl dX9_dot_100 ?_
            obtain rfl := Option.some.inj hf
            subst hQ
            exact ev_iret S hr hlocks hK hZ hM dX9_dot_101
          · have hf := it_p hf hc14
            refine lv_aload hx hb dX9_dot_76 (lv_at hl 0 rfl) ?_
            refine gd_e hf (fun hg19 hf => ?_)
            refine bd_e hf (fun q20 eq20 hf => ?_)
            refine ev_getP (v := q20) S hK hM (ci := 4) (n := 5) (C := RX4) (T := TX4) hin4 rfl hg19 0 (by decide) lk127 rfl rfl eq20 rfl dX9_dot_78 ?_
            refine lv_iload_n hx hb dX9_dot_81 rfl (lv_at hl 3 rfl) ?_
            refine lv_iload_n hx hb dX9_dot_82 rfl (lv_at hl 4 rfl) ?_
            refine bd_e hf (fun r21 er21 hf => ?_)
            refine ev_calli (va_runS (As := [.int x2, .int x3]) (rest := [.ref q20]) S (c_X9_dotAt (l := l) I P x2 x3 r21 er21) (va_cwS 2 hts (gi_s wa_2_148 wa_2_149 wa_1_1 wa_2_150) rfl rfl rfl (by decide +kernel) ⟨Nat.le_of_ble_eq_true rfl, Nat.le_of_ble_eq_true rfl⟩) ⟨mm_B_blind, fun U hU hW => ⟨rfl, mm_B_of hK hZ hM hU hW⟩⟩ rfl rfl hl.1 rfl (lv_room (Nat.le_of_ble_eq_true rfl)) dX9_dot_83 ⟨Nat.zero_le _, Nat.zero_le _⟩) hM (fun H locs hM => ?_)
            refine gd_e hf (fun hg22 hf => ?_)
            refine ev_iald S hK hM hg22 (j := r21.toNatClampNeg) rfl dX9_dot_86 ?_
            refine lv_goto (tgt := 101) hx hb dX9_dot_87 (by decide) ?_
            obtain rfl := Option.some.inj hf
            subst hQ
            exact ev_iret S hr hlocks hK hZ hM dX9_dot_101
        · have hf := it_p hf hc10
          refine lv_bipush (v := (-2 : Int32)) hx hb dX9_dot_57 (by decide) ?_
          obtain rfl := Option.some.inj hf
          subst hQ
          exact ev_iret S hr hlocks hK hZ hM dX9_dot_59
    · have hf := it_p hf hc3
      refine lv_iload hx hb dX9_dot_16 (lv_at hl 4 rfl) ?_
      refine lv_if_ne (tgt := 33) hx hb dX9_dot_18 (by decide) (fun hc23 => ?_) (fun hc23 => ?_)
      · have hf := it_n hf hc23
        refine lv_bipush (v := (-2 : Int32)) hx hb dX9_dot_33 (by decide) ?_
        obtain rfl := Option.some.inj hf
        subst hQ
        exact ev_iret S hr hlocks hK hZ hM dX9_dot_35
      · have hf := it_p hf hc23
        refine lv_aload_n hx hb dX9_dot_21 rfl (lv_at hl 0 rfl) ?_
        refine lv_iload_n hx hb dX9_dot_22 rfl (lv_at hl 2 rfl) ?_
        refine lv_iload_n hx hb dX9_dot_23 rfl (lv_at hl 3 rfl) ?_
        refine bd_e hf (fun r24 er24 hf => ?_)
        refine ev_calli (va_runS (As := [.int x2, .int x3]) (rest := [.ref a0]) S (c_X9_dotAt (l := l) I P x2 x3 r24 er24) (va_cwS 2 hts (gi_s wa_2_148 wa_2_149 wa_1_1 wa_2_150) rfl rfl rfl (by decide +kernel) ⟨Nat.le_of_ble_eq_true rfl, Nat.le_of_ble_eq_true rfl⟩) ⟨mm_B_blind, fun U hU hW => ⟨rfl, mm_B_of hK hZ hM hU hW⟩⟩ rfl rfl hl.1 rfl (lv_room (Nat.le_of_ble_eq_true rfl)) dX9_dot_24 ⟨Nat.zero_le _, Nat.zero_le _⟩) hM (fun H locs hM => ?_)
        refine bd_e hf (fun r25 er25 hf => ?_)
        refine gd_e hf (fun hg26 hf => ?_)
        refine ev_calli (va_runV (As := [.int r24]) (rest := []) S (c_X9_seenAt (l := l) I P a0 r24 r25 er25) (cwV 1 hts (gi_v wa_2_151 wa_2_153 wa_s_1 wa_1_1 wa_2_154) rfl rfl rfl (by decide +kernel) ⟨Nat.le_of_ble_eq_true rfl, Nat.le_of_ble_eq_true rfl⟩) ⟨mm_B_blind, ev_recv hK hM (ci := 9) rfl hg26 rfl, fun U hU hW => ⟨rfl, mm_B_of hK hZ hM hU hW⟩⟩ rfl rfl hl.1 rfl (lv_room (Nat.le_of_ble_eq_true rfl)) dX9_dot_27 ⟨Nat.zero_le _, Nat.zero_le _⟩) hM (fun H locs hM => ?_)
        refine lv_goto (tgt := 35) hx hb dX9_dot_30 (by decide) ?_
        obtain rfl := Option.some.inj hf
        subst hQ
        exact ev_iret S hr hlocks hK hZ hM dX9_dot_35
  · have hf := it_p hf hc2
    refine lv_bipush (v := (-2 : Int32)) hx hb dX9_dot_8 (by decide) ?_
    obtain rfl := Option.some.inj hf
    subst hQ
    exact ev_iret S hr hlocks hK hZ hM dX9_dot_10
noncomputable def fn_X9_brush (K N : Nat → Nat) (I : Nat → Nat → Int32) (P : Nat → Nat → Option Nat) (a0 : Nat) (x1 : Int32) (x2 : Int32) (x3 : Int32) (x4 : Int32) : Option (Int32 × (Nat → Nat → Int32)) := Option.bind (fn_X9_isWithin x1 (0 : Int32) (4 : Int32)) (fun (r1 : Int32) => Option.bind (if r1 = 0 then (some (0 : Int32)) else (Option.bind (fn_X9_isWithin x2 (0 : Int32) (4 : Int32)) (fun (r12 : Int32) => if r12 = 0 then (some (0 : Int32)) else (Option.bind (fn_X9_isWithin x3 (-1 : Int32) (255 : Int32)) (fun (r14 : Int32) => if r14 = 0 then (some (0 : Int32)) else (Option.bind (fn_X9_isWithin x4 (0 : Int32) (9 : Int32)) (fun (r16 : Int32) => if r16 = 0 then (some (0 : Int32)) else (some (1 : Int32))))))))) (fun (j3 : Int32) => if j3 = 0 then (some ((-2 : Int32), I)) else (gd (K a0 = 10) (Option.bind (P a0 (0)) (fun q6 => gd (K q6 = 7) (Option.bind (P q6 (4)) (fun q8 => gd (K q8 = 3) (Option.bind (some (((10 : Int32) * (I q8 0)) + (I q8 1))) (fun v10 => Option.bind (fn_X2_become K N I P q8 x1 x2 x3 x4) (fun (r11 : (Nat → Nat → Int32)) => some (v10, r11)))))))))))
abbrev wz_X9_brush : List Cond := Cond.code yX9_brush cX9_brush 7 (some .int) :: WA
abbrev rm_X9_brush : Room := { frames := 2, cells := 0, slots := 0, locals := 36 }
set_option maxHeartbeats 4000000 in
set_option maxRecDepth 100000 in
theorem c_X9_brush (I : Nat → Nat → Int32) (P : Nat → Nat → Option Nat) (a0 : Nat) (x1 : Int32) (x2 : Int32) (x3 : Int32) (x4 : Int32) (res : Int32 × (Nat → Nat → Int32)) (hf : fn_X9_brush K N I P a0 x1 x2 x3 x4 = some res) : Met l yX9_brush wz_X9_brush rm_X9_brush (va_Pc [.ref a0, .int x1, .int x2, .int x3, .int x4] (mm_B D cs A L K N z w I P)) (va_Qi (fun r (_ : Unit) => r = res.1) (fun _ => mm_B D cs A L K N z w res.2 P) A) 0 0 A := by
  refine Met.ofW (cc := cX9_brush) (maxL := 7) (ret := (some .int)) (by decide) rfl ?_
  intro p e s m args below meth c s₁ B hml hv
  obtain ⟨rfl, hBm⟩ := hv
  have hx := B.exec
  have hb := B.bytes
  have hr := B.returns
  have hts := atoms_spec (ws := wz_X9_brush) B.pre
  have hWA : ∀ w ∈ WA, w.before ([.ref a0, .int x1, .int x2, .int x3, .int x4] : List Value).toArray s = true := fun u9 h9 => hts u9 (List.mem_cons_of_mem _ h9)
  have hown : s.vm.findClass RX9 = some m.cls := findClass_of_methodNamed B.named
  have hlocks := B.notSynchronized
  have S : CallFix p m c cX9_brush 7 s ([.ref a0, .int x1, .int x2, .int x3, .int x4] : List Value).toArray wz_X9_brush RX9 := ⟨hx, hb, hml, hown, hts⟩
  have hK := hBm.2.2.2.1
  have hZ := hBm.2.2.2.2
  have hM : mm_W D cs A L K N s.heap I P s.heap [] := ⟨hBm.1, hBm.2.1, hBm.2.2.1, va_S.rf⟩
  have hl := lv_entry ([.ref a0, .int x1, .int x2, .int x3, .int x4]) (n := 7) (Nat.le_of_ble_eq_true rfl)
  rw [lg_entry_eq]
  generalize (lg_sl ([.ref a0, .int x1, .int x2, .int x3, .int x4]) ++ List.replicate (7 - (lg_sl ([.ref a0, .int x1, .int x2, .int x3, .int x4])).length) Slot.unset).toArray = ls at hl ⊢
  have hl : lv_has ls 7 [(0, .ref a0), (1, .int x1), (2, .int x2), (3, .int x3), (4, .int x4)] := hl
  have hin9 : ∀ w ∈ wsX90, w ∈ wz_X9_brush := fun w h => List.mem_cons_of_mem _ (wu_X9 w h)
  have hin6 : ∀ w ∈ wsX60, w ∈ wz_X9_brush := fun w h => List.mem_cons_of_mem _ (wu_X6 w h)
  have hin2 : ∀ w ∈ wsX20, w ∈ wz_X9_brush := fun w h => List.mem_cons_of_mem _ (wu_X2 w h)
  have lk10 : (Cond.fieldLink RX9 10 RX9 "picture" "LRasterPainter$Picture;").before ([.ref a0, .int x1, .int x2, .int x3, .int x4] : List Value).toArray s = true := hWA _ wa_2_15
  have lk133 : (Cond.fieldLink RX9 133 RX6 "brush" "LRasterPainter$Brush;").before ([.ref a0, .int x1, .int x2, .int x3, .int x4] : List Value).toArray s = true := hWA _ wa_1_160
  have lk137 : (Cond.fieldLink RX9 137 RX2 "kind" "I").before ([.ref a0, .int x1, .int x2, .int x3, .int x4] : List Value).toArray s = true := hWA _ wa_1_61
  have lk142 : (Cond.fieldLink RX9 142 RX2 "radius" "I").before ([.ref a0, .int x1, .int x2, .int x3, .int x4] : List Value).toArray s = true := hWA _ wa_1_64
  generalize hQ : MQ below (va_Qi (fun r (_ : Unit) => r = res.1) (fun _ => mm_B D cs A L K N z w res.2 P) A) ([.ref a0, .int x1, .int x2, .int x3, .int x4] : List Value).toArray s 0 0 A = QQ
  rw [fn_X9_brush] at hf
  refine lv_iload_n hx hb dX9_brush_0 rfl (lv_at hl 1 rfl) ?_
  refine lv_iconst (v := (0 : Int32)) hx hb dX9_brush_1 (by decide) ?_
  refine lv_iconst (v := (4 : Int32)) hx hb dX9_brush_2 (by decide) ?_
  refine bd_e hf (fun r1 er1 hf => ?_)
  refine ev_calli (va_runS (As := [.int x1, .int (0 : Int32), .int (4 : Int32)]) (rest := []) S (c_X9_isWithin (l := l) I P x1 (0 : Int32) (4 : Int32) r1 er1) (va_cwS 3 hts (gi_s wa_2_47 wa_2_48 wa_1_1 wa_2_49) rfl rfl rfl (by decide +kernel) ⟨Nat.le_of_ble_eq_true rfl, Nat.le_of_ble_eq_true rfl⟩) ⟨mm_B_blind, fun U hU hW => ⟨rfl, mm_B_of hK hZ hM hU hW⟩⟩ rfl rfl hl.1 rfl (lv_room (Nat.le_of_ble_eq_true rfl)) dX9_brush_3 ⟨Nat.zero_le _, Nat.zero_le _⟩) hM (fun H locs hM => ?_)
  refine bd_e hf (fun j3 ej3 hf => ?_)
  have kj3 : ∀ (H : Heap) (locs : List Loc) (ls : Array Slot), mm_W D cs A L K N s.heap I P H locs → lv_has ls 7 [(0, .ref a0), (1, .int x1), (2, .int x2), (3, .int x3), (4, .int x4)] → W p l e (headSpec wz_X9_brush rm_X9_brush).room s m ([.ref a0, .int x1, .int x2, .int x3, .int x4] : List Value).toArray below meth c H locs 0 0 QQ (F0 m 45 ls [.int j3]) := by
    intro H locs ls hM hl
    refine lv_istore (lv' := [(5, .int j3), (0, .ref a0), (1, .int x1), (2, .int x2), (3, .int x3), (4, .int x4)]) hx hb dX9_brush_45 hl (by decide) rfl (fun ls hl => ?_)
    refine lv_iload hx hb dX9_brush_47 (lv_at hl 0 rfl) ?_
    refine lv_if_ne (tgt := 55) hx hb dX9_brush_49 (by decide) (fun hc4 => ?_) (fun hc4 => ?_)
    · have hf := it_n hf hc4
      refine lv_bipush (v := (10 : Int32)) hx hb dX9_brush_55 (by decide) ?_
      refine lv_aload_n hx hb dX9_brush_57 rfl (lv_at hl 1 rfl) ?_
      refine gd_e hf (fun hg5 hf => ?_)
      refine bd_e hf (fun q6 eq6 hf => ?_)
      refine ev_getP (v := q6) S hK hM (ci := 9) (n := 8) (C := RX9) (T := TX9) hin9 rfl hg5 0 (by decide) lk10 rfl rfl eq6 rfl dX9_brush_58 ?_
      refine gd_e hf (fun hg7 hf => ?_)
      refine bd_e hf (fun q8 eq8 hf => ?_)
      refine ev_getP (v := q8) S hK hM (ci := 6) (n := 6) (C := RX6) (T := TX6) hin6 rfl hg7 4 (by decide) lk133 rfl rfl eq8 rfl dX9_brush_61 ?_
      refine gd_e hf (fun hg9 hf => ?_)
      refine ev_get (v := .int (I q8 0)) S hK hM (ci := 2) (n := 4) (C := RX2) (T := TX2) hin2 rfl hg9 0 (by decide) lk137 rfl rfl rfl dX9_brush_64 ?_
      refine lv_imul hx hb dX9_brush_67 ?_
      refine lv_aload_n hx hb dX9_brush_68 rfl (lv_at hl 1 rfl) ?_
      refine ev_getP (v := q6) S hK hM (ci := 9) (n := 8) (C := RX9) (T := TX9) hin9 rfl hg5 0 (by decide) lk10 rfl rfl eq6 rfl dX9_brush_69 ?_
      refine ev_getP (v := q8) S hK hM (ci := 6) (n := 6) (C := RX6) (T := TX6) hin6 rfl hg7 4 (by decide) lk133 rfl rfl eq8 rfl dX9_brush_72 ?_
      refine ev_get (v := .int (I q8 1)) S hK hM (ci := 2) (n := 4) (C := RX2) (T := TX2) hin2 rfl hg9 1 (by decide) lk142 rfl rfl rfl dX9_brush_75 ?_
      refine lv_iadd hx hb dX9_brush_78 ?_
      refine lv_topi (fun v10 ev10 => ?_)
      have hf := nm_x ev10 hf
      refine lv_istore (lv' := [(6, .int v10), (5, .int j3), (0, .ref a0), (1, .int x1), (2, .int x2), (3, .int x3), (4, .int x4)]) hx hb dX9_brush_79 hl (by decide) rfl (fun ls hl => ?_)
      refine lv_aload_n hx hb dX9_brush_81 rfl (lv_at hl 2 rfl) ?_
      refine ev_getP (v := q6) S hK hM (ci := 9) (n := 8) (C := RX9) (T := TX9) hin9 rfl hg5 0 (by decide) lk10 rfl rfl eq6 rfl dX9_brush_82 ?_
      refine ev_getP (v := q8) S hK hM (ci := 6) (n := 6) (C := RX6) (T := TX6) hin6 rfl hg7 4 (by decide) lk133 rfl rfl eq8 rfl dX9_brush_85 ?_
      refine lv_iload_n hx hb dX9_brush_88 rfl (lv_at hl 3 rfl) ?_
      refine lv_iload_n hx hb dX9_brush_89 rfl (lv_at hl 4 rfl) ?_
      refine lv_iload_n hx hb dX9_brush_90 rfl (lv_at hl 5 rfl) ?_
      refine lv_iload hx hb dX9_brush_91 (lv_at hl 6 rfl) ?_
      refine bd_e hf (fun r11 er11 hf => ?_)
      refine ev_callv (va_runV (As := [.int x1, .int x2, .int x3, .int x4]) (rest := []) S (c_X2_become (l := l) I P q8 x1 x2 x3 x4 r11 er11) (cwV 4 hts (gi_v wa_2_168 wa_2_169 wa_2_170 wa_1_4 wa_2_171) rfl rfl rfl (by decide +kernel) ⟨Nat.le_of_ble_eq_true rfl, Nat.le_of_ble_eq_true rfl⟩) ⟨mm_B_blind, ev_recv hK hM (ci := 2) rfl hg9 rfl, fun U hU hW => ⟨rfl, mm_B_of hK hZ hM hU hW⟩⟩ rfl rfl hl.1 rfl (lv_room (Nat.le_of_ble_eq_true rfl)) dX9_brush_93 ⟨Nat.zero_le _, Nat.zero_le _⟩) hM (fun H locs hM => ?_)
      refine lv_iload hx hb dX9_brush_96 (lv_at hl 0 rfl) ?_
      obtain rfl := Option.some.inj hf
      subst hQ
      exact ev_iret S hr hlocks hK hZ hM dX9_brush_98
    · have hf := it_p hf hc4
      refine lv_bipush (v := (-2 : Int32)) hx hb dX9_brush_52 (by decide) ?_
      obtain rfl := Option.some.inj hf
      subst hQ
      exact ev_iret S hr hlocks hK hZ hM dX9_brush_54
  have hf := ej3
  refine lv_if_eq (tgt := 44) hx hb dX9_brush_6 (by decide) (fun hc2 => ?_) (fun hc2 => ?_)
  · have hf := it_p hf hc2
    refine lv_iconst (v := (0 : Int32)) hx hb dX9_brush_44 (by decide) ?_
    obtain rfl := Option.some.inj hf
    exact kj3 _ _ _ hM (hl)
  · have hf := it_n hf hc2
    refine lv_iload_n hx hb dX9_brush_9 rfl (lv_at hl 2 rfl) ?_
    refine lv_iconst (v := (0 : Int32)) hx hb dX9_brush_10 (by decide) ?_
    refine lv_iconst (v := (4 : Int32)) hx hb dX9_brush_11 (by decide) ?_
    refine bd_e hf (fun r12 er12 hf => ?_)
    refine ev_calli (va_runS (As := [.int x2, .int (0 : Int32), .int (4 : Int32)]) (rest := []) S (c_X9_isWithin (l := l) I P x2 (0 : Int32) (4 : Int32) r12 er12) (va_cwS 3 hts (gi_s wa_2_47 wa_2_48 wa_1_1 wa_2_49) rfl rfl rfl (by decide +kernel) ⟨Nat.le_of_ble_eq_true rfl, Nat.le_of_ble_eq_true rfl⟩) ⟨mm_B_blind, fun U hU hW => ⟨rfl, mm_B_of hK hZ hM hU hW⟩⟩ rfl rfl hl.1 rfl (lv_room (Nat.le_of_ble_eq_true rfl)) dX9_brush_12 ⟨Nat.zero_le _, Nat.zero_le _⟩) hM (fun H locs hM => ?_)
    refine lv_if_eq (tgt := 44) hx hb dX9_brush_15 (by decide) (fun hc13 => ?_) (fun hc13 => ?_)
    · have hf := it_p hf hc13
      refine lv_iconst (v := (0 : Int32)) hx hb dX9_brush_44 (by decide) ?_
      obtain rfl := Option.some.inj hf
      exact kj3 _ _ _ hM (hl)
    · have hf := it_n hf hc13
      refine lv_iload_n hx hb dX9_brush_18 rfl (lv_at hl 3 rfl) ?_
      refine lv_iconst (v := (-1 : Int32)) hx hb dX9_brush_19 (by decide) ?_
      refine lv_sipush (v := (255 : Int32)) hx hb dX9_brush_20 (by decide) ?_
      refine bd_e hf (fun r14 er14 hf => ?_)
      refine ev_calli (va_runS (As := [.int x3, .int (-1 : Int32), .int (255 : Int32)]) (rest := []) S (c_X9_isWithin (l := l) I P x3 (-1 : Int32) (255 : Int32) r14 er14) (va_cwS 3 hts (gi_s wa_2_47 wa_2_48 wa_1_1 wa_2_49) rfl rfl rfl (by decide +kernel) ⟨Nat.le_of_ble_eq_true rfl, Nat.le_of_ble_eq_true rfl⟩) ⟨mm_B_blind, fun U hU hW => ⟨rfl, mm_B_of hK hZ hM hU hW⟩⟩ rfl rfl hl.1 rfl (lv_room (Nat.le_of_ble_eq_true rfl)) dX9_brush_23 ⟨Nat.zero_le _, Nat.zero_le _⟩) hM (fun H locs hM => ?_)
      refine lv_if_eq (tgt := 44) hx hb dX9_brush_26 (by decide) (fun hc15 => ?_) (fun hc15 => ?_)
      · have hf := it_p hf hc15
        refine lv_iconst (v := (0 : Int32)) hx hb dX9_brush_44 (by decide) ?_
        obtain rfl := Option.some.inj hf
        exact kj3 _ _ _ hM (hl)
      · have hf := it_n hf hc15
        refine lv_iload hx hb dX9_brush_29 (lv_at hl 4 rfl) ?_
        refine lv_iconst (v := (0 : Int32)) hx hb dX9_brush_31 (by decide) ?_
        refine lv_bipush (v := (9 : Int32)) hx hb dX9_brush_32 (by decide) ?_
        refine bd_e hf (fun r16 er16 hf => ?_)
        refine ev_calli (va_runS (As := [.int x4, .int (0 : Int32), .int (9 : Int32)]) (rest := []) S (c_X9_isWithin (l := l) I P x4 (0 : Int32) (9 : Int32) r16 er16) (va_cwS 3 hts (gi_s wa_2_47 wa_2_48 wa_1_1 wa_2_49) rfl rfl rfl (by decide +kernel) ⟨Nat.le_of_ble_eq_true rfl, Nat.le_of_ble_eq_true rfl⟩) ⟨mm_B_blind, fun U hU hW => ⟨rfl, mm_B_of hK hZ hM hU hW⟩⟩ rfl rfl hl.1 rfl (lv_room (Nat.le_of_ble_eq_true rfl)) dX9_brush_34 ⟨Nat.zero_le _, Nat.zero_le _⟩) hM (fun H locs hM => ?_)
        refine lv_if_eq (tgt := 44) hx hb dX9_brush_37 (by decide) (fun hc17 => ?_) (fun hc17 => ?_)
        · have hf := it_p hf hc17
          refine lv_iconst (v := (0 : Int32)) hx hb dX9_brush_44 (by decide) ?_
          obtain rfl := Option.some.inj hf
          exact kj3 _ _ _ hM (hl)
        · have hf := it_n hf hc17
          refine lv_iconst (v := (1 : Int32)) hx hb dX9_brush_40 (by decide) ?_
          refine lv_goto (tgt := 45) hx hb dX9_brush_41 (by decide) ?_
          obtain rfl := Option.some.inj hf
          exact kj3 _ _ _ hM (hl)
noncomputable def fn_X9_touch (K N : Nat → Nat) (I : Nat → Nat → Int32) (P : Nat → Nat → Option Nat) (a0 : Nat) (x1 : Int32) (x2 : Int32) : Option (Int32) := Option.bind (fn_X9_isWithin x1 (-9 : Int32) (9 : Int32)) (fun (r1 : Int32) => if r1 = 0 then (some (-2 : Int32)) else (Option.bind (fn_X9_isWithin x2 (-9 : Int32) (9 : Int32)) (fun (r3 : Int32) => if r3 = 0 then (some (-2 : Int32)) else (gd (K a0 = 10) (Option.bind (P a0 (0)) (fun q6 => gd (K q6 = 7) (Option.bind (P q6 (4)) (fun q8 => Option.bind (fn_X2_coverAt K N I P q8 x1 x2) (fun (r9 : Int32) => gd (K q8 = 3) (some r9))))))))))
abbrev wz_X9_touch : List Cond := Cond.code yX9_touch cX9_touch 3 (some .int) :: WA
abbrev rm_X9_touch : Room := { frames := 4, cells := 0, slots := 0, locals := 80 }
set_option maxHeartbeats 4000000 in
set_option maxRecDepth 100000 in
theorem c_X9_touch (I : Nat → Nat → Int32) (P : Nat → Nat → Option Nat) (a0 : Nat) (x1 : Int32) (x2 : Int32) (res : Int32) (hf : fn_X9_touch K N I P a0 x1 x2 = some res) : Met l yX9_touch wz_X9_touch rm_X9_touch (va_Pc [.ref a0, .int x1, .int x2] (mm_B D cs A L K N z w I P)) (va_Qi (fun r (_ : Unit) => r = res) (fun _ => mm_B D cs A L K N z w I P) A) 0 0 A := by
  refine Met.ofW (cc := cX9_touch) (maxL := 3) (ret := (some .int)) (by decide) rfl ?_
  intro p e s m args below meth c s₁ B hml hv
  obtain ⟨rfl, hBm⟩ := hv
  have hx := B.exec
  have hb := B.bytes
  have hr := B.returns
  have hts := atoms_spec (ws := wz_X9_touch) B.pre
  have hWA : ∀ w ∈ WA, w.before ([.ref a0, .int x1, .int x2] : List Value).toArray s = true := fun u9 h9 => hts u9 (List.mem_cons_of_mem _ h9)
  have hown : s.vm.findClass RX9 = some m.cls := findClass_of_methodNamed B.named
  have hlocks := B.notSynchronized
  have S : CallFix p m c cX9_touch 3 s ([.ref a0, .int x1, .int x2] : List Value).toArray wz_X9_touch RX9 := ⟨hx, hb, hml, hown, hts⟩
  have hK := hBm.2.2.2.1
  have hZ := hBm.2.2.2.2
  have hM : mm_W D cs A L K N s.heap I P s.heap [] := ⟨hBm.1, hBm.2.1, hBm.2.2.1, va_S.rf⟩
  have hl := lv_entry ([.ref a0, .int x1, .int x2]) (n := 3) (Nat.le_of_ble_eq_true rfl)
  rw [lg_entry_eq]
  generalize (lg_sl ([.ref a0, .int x1, .int x2]) ++ List.replicate (3 - (lg_sl ([.ref a0, .int x1, .int x2])).length) Slot.unset).toArray = ls at hl ⊢
  have hl : lv_has ls 3 [(0, .ref a0), (1, .int x1), (2, .int x2)] := hl
  have hin9 : ∀ w ∈ wsX90, w ∈ wz_X9_touch := fun w h => List.mem_cons_of_mem _ (wu_X9 w h)
  have hin6 : ∀ w ∈ wsX60, w ∈ wz_X9_touch := fun w h => List.mem_cons_of_mem _ (wu_X6 w h)
  have lk10 : (Cond.fieldLink RX9 10 RX9 "picture" "LRasterPainter$Picture;").before ([.ref a0, .int x1, .int x2] : List Value).toArray s = true := hWA _ wa_2_15
  have lk133 : (Cond.fieldLink RX9 133 RX6 "brush" "LRasterPainter$Brush;").before ([.ref a0, .int x1, .int x2] : List Value).toArray s = true := hWA _ wa_1_160
  generalize hQ : MQ below (va_Qi (fun r (_ : Unit) => r = res) (fun _ => mm_B D cs A L K N z w I P) A) ([.ref a0, .int x1, .int x2] : List Value).toArray s 0 0 A = QQ
  rw [fn_X9_touch] at hf
  refine lv_iload_n hx hb dX9_touch_0 rfl (lv_at hl 1 rfl) ?_
  refine lv_bipush (v := (-9 : Int32)) hx hb dX9_touch_1 (by decide) ?_
  refine lv_bipush (v := (9 : Int32)) hx hb dX9_touch_3 (by decide) ?_
  refine bd_e hf (fun r1 er1 hf => ?_)
  refine ev_calli (va_runS (As := [.int x1, .int (-9 : Int32), .int (9 : Int32)]) (rest := []) S (c_X9_isWithin (l := l) I P x1 (-9 : Int32) (9 : Int32) r1 er1) (va_cwS 3 hts (gi_s wa_2_47 wa_2_48 wa_1_1 wa_2_49) rfl rfl rfl (by decide +kernel) ⟨Nat.le_of_ble_eq_true rfl, Nat.le_of_ble_eq_true rfl⟩) ⟨mm_B_blind, fun U hU hW => ⟨rfl, mm_B_of hK hZ hM hU hW⟩⟩ rfl rfl hl.1 rfl (lv_room (Nat.le_of_ble_eq_true rfl)) dX9_touch_5 ⟨Nat.zero_le _, Nat.zero_le _⟩) hM (fun H locs hM => ?_)
  refine lv_if_eq (tgt := 22) hx hb dX9_touch_8 (by decide) (fun hc2 => ?_) (fun hc2 => ?_)
  · have hf := it_p hf hc2
    refine lv_bipush (v := (-2 : Int32)) hx hb dX9_touch_22 (by decide) ?_
    obtain rfl := Option.some.inj hf
    subst hQ
    exact ev_iret S hr hlocks hK hZ hM dX9_touch_24
  · have hf := it_n hf hc2
    refine lv_iload_n hx hb dX9_touch_11 rfl (lv_at hl 2 rfl) ?_
    refine lv_bipush (v := (-9 : Int32)) hx hb dX9_touch_12 (by decide) ?_
    refine lv_bipush (v := (9 : Int32)) hx hb dX9_touch_14 (by decide) ?_
    refine bd_e hf (fun r3 er3 hf => ?_)
    refine ev_calli (va_runS (As := [.int x2, .int (-9 : Int32), .int (9 : Int32)]) (rest := []) S (c_X9_isWithin (l := l) I P x2 (-9 : Int32) (9 : Int32) r3 er3) (va_cwS 3 hts (gi_s wa_2_47 wa_2_48 wa_1_1 wa_2_49) rfl rfl rfl (by decide +kernel) ⟨Nat.le_of_ble_eq_true rfl, Nat.le_of_ble_eq_true rfl⟩) ⟨mm_B_blind, fun U hU hW => ⟨rfl, mm_B_of hK hZ hM hU hW⟩⟩ rfl rfl hl.1 rfl (lv_room (Nat.le_of_ble_eq_true rfl)) dX9_touch_16 ⟨Nat.zero_le _, Nat.zero_le _⟩) hM (fun H locs hM => ?_)
    refine lv_if_ne (tgt := 25) hx hb dX9_touch_19 (by decide) (fun hc4 => ?_) (fun hc4 => ?_)
    · have hf := it_n hf hc4
      refine lv_aload_n hx hb dX9_touch_25 rfl (lv_at hl 0 rfl) ?_
      refine gd_e hf (fun hg5 hf => ?_)
      refine bd_e hf (fun q6 eq6 hf => ?_)
      refine ev_getP (v := q6) S hK hM (ci := 9) (n := 8) (C := RX9) (T := TX9) hin9 rfl hg5 0 (by decide) lk10 rfl rfl eq6 rfl dX9_touch_26 ?_
      refine gd_e hf (fun hg7 hf => ?_)
      refine bd_e hf (fun q8 eq8 hf => ?_)
      refine ev_getP (v := q8) S hK hM (ci := 6) (n := 6) (C := RX6) (T := TX6) hin6 rfl hg7 4 (by decide) lk133 rfl rfl eq8 rfl dX9_touch_29 ?_
      refine lv_iload_n hx hb dX9_touch_32 rfl (lv_at hl 1 rfl) ?_
      refine lv_iload_n hx hb dX9_touch_33 rfl (lv_at hl 2 rfl) ?_
      refine bd_e hf (fun r9 er9 hf => ?_)
      refine gd_e hf (fun hg10 hf => ?_)
      refine ev_calli (va_runV (As := [.int x1, .int x2]) (rest := []) S (c_X2_coverAt (l := l) I P q8 x1 x2 r9 er9) (cwV 2 hts (gi_v wa_2_176 wa_2_177 wa_2_178 wa_1_4 wa_2_179) rfl rfl rfl (by decide +kernel) ⟨Nat.le_of_ble_eq_true rfl, Nat.le_of_ble_eq_true rfl⟩) ⟨mm_B_blind, ev_recv hK hM (ci := 2) rfl hg10 rfl, fun U hU hW => ⟨rfl, mm_B_of hK hZ hM hU hW⟩⟩ rfl rfl hl.1 rfl (lv_room (Nat.le_of_ble_eq_true rfl)) dX9_touch_34 ⟨Nat.zero_le _, Nat.zero_le _⟩) hM (fun H locs hM => ?_)
      obtain rfl := Option.some.inj hf
      subst hQ
      exact ev_iret S hr hlocks hK hZ hM dX9_touch_37
    · have hf := it_p hf hc4
      refine lv_bipush (v := (-2 : Int32)) hx hb dX9_touch_22 (by decide) ?_
      obtain rfl := Option.some.inj hf
      subst hQ
      exact ev_iret S hr hlocks hK hZ hM dX9_touch_24
noncomputable def fn_X9_feed (K N : Nat → Nat) (I : Nat → Nat → Int32) (P : Nat → Nat → Option Nat) (a0 : Nat) (x1 : Int32) (x2 : Int32) (x3 : Int32) (x4 : Int32) (x5 : Int32) (x6 : Int32) : Option (Int32 × (Nat → Nat → Int32)) := Option.bind (fn_X9_isWithin x1 (1 : Int32) (5 : Int32)) (fun (r1 : Int32) => Option.bind (if r1 = 0 then (some (0 : Int32)) else (Option.bind (fn_X9_isByte x2) (fun (r21 : Int32) => if r21 = 0 then (some (0 : Int32)) else (Option.bind (fn_X9_isByte x3) (fun (r23 : Int32) => if r23 = 0 then (some (0 : Int32)) else (Option.bind (fn_X9_isByte x4) (fun (r25 : Int32) => if r25 = 0 then (some (0 : Int32)) else (Option.bind (fn_X9_isByte x5) (fun (r27 : Int32) => if r27 = 0 then (some (0 : Int32)) else (Option.bind (fn_X9_isByte x6) (fun (r29 : Int32) => if r29 = 0 then (some (0 : Int32)) else (some (1 : Int32))))))))))))) (fun (j3 : Int32) => if j3 = 0 then (some ((-2 : Int32), I)) else (gd (K a0 = 10) (Option.bind (P a0 (3)) (fun q6 => gd (K q6 = 9) (if ((I q6 1) + x1) ≤ (60 : Int32) then (Option.bind (fn_X8_add K N I P q6 x2) (fun (r9 : (Nat → Nat → Int32)) => Option.bind (if x1 ≤ (1 : Int32) then (some r9) else (Option.bind (fn_X8_add K N r9 P q6 x3) (fun (r20 : (Nat → Nat → Int32)) => some r20))) (fun (j11 : (Nat → Nat → Int32)) => Option.bind (if x1 ≤ (2 : Int32) then (some j11) else (Option.bind (fn_X8_add K N j11 P q6 x4) (fun (r19 : (Nat → Nat → Int32)) => some r19))) (fun (j13 : (Nat → Nat → Int32)) => Option.bind (if x1 ≤ (3 : Int32) then (some j13) else (Option.bind (fn_X8_add K N j13 P q6 x5) (fun (r18 : (Nat → Nat → Int32)) => some r18))) (fun (j15 : (Nat → Nat → Int32)) => if x1 ≤ (4 : Int32) then (some ((j15 q6 1), j15)) else (Option.bind (fn_X8_add K N j15 P q6 x6) (fun (r17 : (Nat → Nat → Int32)) => some ((r17 q6 1), r17)))))))) else (some ((-4 : Int32), I))))))))
abbrev wz_X9_feed : List Cond := Cond.code yX9_feed cX9_feed 8 (some .int) :: WA
abbrev rm_X9_feed : Room := { frames := 3, cells := 0, slots := 0, locals := 54 }
set_option maxHeartbeats 4000000 in
set_option maxRecDepth 100000 in
theorem c_X9_feed (I : Nat → Nat → Int32) (P : Nat → Nat → Option Nat) (a0 : Nat) (x1 : Int32) (x2 : Int32) (x3 : Int32) (x4 : Int32) (x5 : Int32) (x6 : Int32) (res : Int32 × (Nat → Nat → Int32)) (hf : fn_X9_feed K N I P a0 x1 x2 x3 x4 x5 x6 = some res) : Met l yX9_feed wz_X9_feed rm_X9_feed (va_Pc [.ref a0, .int x1, .int x2, .int x3, .int x4, .int x5, .int x6] (mm_B D cs A L K N z w I P)) (va_Qi (fun r (_ : Unit) => r = res.1) (fun _ => mm_B D cs A L K N z w res.2 P) A) 0 0 A := by
  refine Met.ofW (cc := cX9_feed) (maxL := 8) (ret := (some .int)) (by decide) rfl ?_
  intro p e s m args below meth c s₁ B hml hv
  obtain ⟨rfl, hBm⟩ := hv
  have hx := B.exec
  have hb := B.bytes
  have hr := B.returns
  have hts := atoms_spec (ws := wz_X9_feed) B.pre
  have hWA : ∀ w ∈ WA, w.before ([.ref a0, .int x1, .int x2, .int x3, .int x4, .int x5, .int x6] : List Value).toArray s = true := fun u9 h9 => hts u9 (List.mem_cons_of_mem _ h9)
  have hown : s.vm.findClass RX9 = some m.cls := findClass_of_methodNamed B.named
  have hlocks := B.notSynchronized
  have S : CallFix p m c cX9_feed 8 s ([.ref a0, .int x1, .int x2, .int x3, .int x4, .int x5, .int x6] : List Value).toArray wz_X9_feed RX9 := ⟨hx, hb, hml, hown, hts⟩
  have hK := hBm.2.2.2.1
  have hZ := hBm.2.2.2.2
  have hM : mm_W D cs A L K N s.heap I P s.heap [] := ⟨hBm.1, hBm.2.1, hBm.2.2.1, va_S.rf⟩
  have hl := lv_entry ([.ref a0, .int x1, .int x2, .int x3, .int x4, .int x5, .int x6]) (n := 8) (Nat.le_of_ble_eq_true rfl)
  rw [lg_entry_eq]
  generalize (lg_sl ([.ref a0, .int x1, .int x2, .int x3, .int x4, .int x5, .int x6]) ++ List.replicate (8 - (lg_sl ([.ref a0, .int x1, .int x2, .int x3, .int x4, .int x5, .int x6])).length) Slot.unset).toArray = ls at hl ⊢
  have hl : lv_has ls 8 [(0, .ref a0), (1, .int x1), (2, .int x2), (3, .int x3), (4, .int x4), (5, .int x5), (6, .int x6)] := hl
  have hin9 : ∀ w ∈ wsX90, w ∈ wz_X9_feed := fun w h => List.mem_cons_of_mem _ (wu_X9 w h)
  have hin8 : ∀ w ∈ wsX80, w ∈ wz_X9_feed := fun w h => List.mem_cons_of_mem _ (wu_X8 w h)
  have lk26 : (Cond.fieldLink RX9 26 RX9 "tape" "LRasterPainter$Tape;").before ([.ref a0, .int x1, .int x2, .int x3, .int x4, .int x5, .int x6] : List Value).toArray s = true := hWA _ wa_2_18
  have lk152 : (Cond.fieldLink RX9 152 RX8 "size" "I").before ([.ref a0, .int x1, .int x2, .int x3, .int x4, .int x5, .int x6] : List Value).toArray s = true := hWA _ wa_1_184
  generalize hQ : MQ below (va_Qi (fun r (_ : Unit) => r = res.1) (fun _ => mm_B D cs A L K N z w res.2 P) A) ([.ref a0, .int x1, .int x2, .int x3, .int x4, .int x5, .int x6] : List Value).toArray s 0 0 A = QQ
  rw [fn_X9_feed] at hf
  refine lv_iload_n hx hb dX9_feed_0 rfl (lv_at hl 1 rfl) ?_
  refine lv_iconst (v := (1 : Int32)) hx hb dX9_feed_1 (by decide) ?_
  refine lv_iconst (v := (5 : Int32)) hx hb dX9_feed_2 (by decide) ?_
  refine bd_e hf (fun r1 er1 hf => ?_)
  refine ev_calli (va_runS (As := [.int x1, .int (1 : Int32), .int (5 : Int32)]) (rest := []) S (c_X9_isWithin (l := l) I P x1 (1 : Int32) (5 : Int32) r1 er1) (va_cwS 3 hts (gi_s wa_2_47 wa_2_48 wa_1_1 wa_2_49) rfl rfl rfl (by decide +kernel) ⟨Nat.le_of_ble_eq_true rfl, Nat.le_of_ble_eq_true rfl⟩) ⟨mm_B_blind, fun U hU hW => ⟨rfl, mm_B_of hK hZ hM hU hW⟩⟩ rfl rfl hl.1 rfl (lv_room (Nat.le_of_ble_eq_true rfl)) dX9_feed_3 ⟨Nat.zero_le _, Nat.zero_le _⟩) hM (fun H locs hM => ?_)
  refine bd_e hf (fun j3 ej3 hf => ?_)
  have kj3 : ∀ (H : Heap) (locs : List Loc) (ls : Array Slot), mm_W D cs A L K N s.heap I P H locs → lv_has ls 8 [(0, .ref a0), (1, .int x1), (2, .int x2), (3, .int x3), (4, .int x4), (5, .int x5), (6, .int x6)] → W p l e (headSpec wz_X9_feed rm_X9_feed).room s m ([.ref a0, .int x1, .int x2, .int x3, .int x4, .int x5, .int x6] : List Value).toArray below meth c H locs 0 0 QQ (F0 m 52 ls [.int j3]) := by
    intro H locs ls hM hl
    refine lv_istore (lv' := [(7, .int j3), (0, .ref a0), (1, .int x1), (2, .int x2), (3, .int x3), (4, .int x4), (5, .int x5), (6, .int x6)]) hx hb dX9_feed_52 hl (by decide) rfl (fun ls hl => ?_)
    refine lv_iload hx hb dX9_feed_54 (lv_at hl 0 rfl) ?_
    refine lv_if_ne (tgt := 62) hx hb dX9_feed_56 (by decide) (fun hc4 => ?_) (fun hc4 => ?_)
    · have hf := it_n hf hc4
      refine lv_aload_n hx hb dX9_feed_62 rfl (lv_at hl 1 rfl) ?_
      refine gd_e hf (fun hg5 hf => ?_)
      refine bd_e hf (fun q6 eq6 hf => ?_)
      refine ev_getP (v := q6) S hK hM (ci := 9) (n := 8) (C := RX9) (T := TX9) hin9 rfl hg5 3 (by decide) lk26 rfl rfl eq6 rfl dX9_feed_63 ?_
      refine gd_e hf (fun hg7 hf => ?_)
      refine ev_get (v := .int (I q6 1)) S hK hM (ci := 8) (n := 8) (C := RX8) (T := TX8) hin8 rfl hg7 1 (by decide) lk152 rfl rfl rfl dX9_feed_66 ?_
      refine lv_iload_n hx hb dX9_feed_69 rfl (lv_at hl 2 rfl) ?_
      refine lv_iadd hx hb dX9_feed_70 ?_
      refine lv_bipush (v := (60 : Int32)) hx hb dX9_feed_71 (by decide) ?_
      refine lv_icmp_le (tgt := 79) hx hb dX9_feed_73 (by decide) (fun hc8 => ?_) (fun hc8 => ?_)
      · have hf := it_p hf hc8
        refine lv_aload_n hx hb dX9_feed_79 rfl (lv_at hl 1 rfl) ?_
        refine ev_getP (v := q6) S hK hM (ci := 9) (n := 8) (C := RX9) (T := TX9) hin9 rfl hg5 3 (by decide) lk26 rfl rfl eq6 rfl dX9_feed_80 ?_
        refine lv_iload_n hx hb dX9_feed_83 rfl (lv_at hl 3 rfl) ?_
        refine bd_e hf (fun r9 er9 hf => ?_)
        refine ev_callv (va_runV (As := [.int x2]) (rest := []) S (c_X8_add (l := l) I P q6 x2 r9 er9) (cwV 1 hts (gi_v wa_2_198 wa_2_199 wa_2_200 wa_1_8 wa_2_201) rfl rfl rfl (by decide +kernel) ⟨Nat.le_of_ble_eq_true rfl, Nat.le_of_ble_eq_true rfl⟩) ⟨mm_B_blind, ev_recv hK hM (ci := 8) rfl hg7 rfl, fun U hU hW => ⟨rfl, mm_B_of hK hZ hM hU hW⟩⟩ rfl rfl hl.1 rfl (lv_room (Nat.le_of_ble_eq_true rfl)) dX9_feed_84 ⟨Nat.zero_le _, Nat.zero_le _⟩) hM (fun H locs hM => ?_)
        refine lv_iload_n hx hb dX9_feed_87 rfl (lv_at hl 2 rfl) ?_
        refine lv_iconst (v := (1 : Int32)) hx hb dX9_feed_88 (by decide) ?_
        refine bd_e hf (fun j11 ej11 hf => ?_)
        have kj11 : ∀ (H : Heap) (locs : List Loc) (ls : Array Slot), mm_W D cs A L K N s.heap j11 P H locs → lv_has ls 8 [(0, .ref a0), (1, .int x1), (4, .int x4), (5, .int x5), (6, .int x6)] → W p l e (headSpec wz_X9_feed rm_X9_feed).room s m ([.ref a0, .int x1, .int x2, .int x3, .int x4, .int x5, .int x6] : List Value).toArray below meth c H locs 0 0 QQ (F0 m 100 ls []) := by
          intro H locs ls hM hl
          refine lv_iload_n hx hb dX9_feed_100 rfl (lv_at hl 1 rfl) ?_
          refine lv_iconst (v := (2 : Int32)) hx hb dX9_feed_101 (by decide) ?_
          refine bd_e hf (fun j13 ej13 hf => ?_)
          have kj13 : ∀ (H : Heap) (locs : List Loc) (ls : Array Slot), mm_W D cs A L K N s.heap j13 P H locs → lv_has ls 8 [(0, .ref a0), (1, .int x1), (5, .int x5), (6, .int x6)] → W p l e (headSpec wz_X9_feed rm_X9_feed).room s m ([.ref a0, .int x1, .int x2, .int x3, .int x4, .int x5, .int x6] : List Value).toArray below meth c H locs 0 0 QQ (F0 m 114 ls []) := by
            intro H locs ls hM hl
            refine lv_iload_n hx hb dX9_feed_114 rfl (lv_at hl 1 rfl) ?_
            refine lv_iconst (v := (3 : Int32)) hx hb dX9_feed_115 (by decide) ?_
            refine bd_e hf (fun j15 ej15 hf => ?_)
            have kj15 : ∀ (H : Heap) (locs : List Loc) (ls : Array Slot), mm_W D cs A L K N s.heap j15 P H locs → lv_has ls 8 [(0, .ref a0), (1, .int x1), (6, .int x6)] → W p l e (headSpec wz_X9_feed rm_X9_feed).room s m ([.ref a0, .int x1, .int x2, .int x3, .int x4, .int x5, .int x6] : List Value).toArray below meth c H locs 0 0 QQ (F0 m 128 ls []) := by
              intro H locs ls hM hl
              refine lv_iload_n hx hb dX9_feed_128 rfl (lv_at hl 1 rfl) ?_
              refine lv_iconst (v := (4 : Int32)) hx hb dX9_feed_129 (by decide) ?_
              refine lv_icmp_le (tgt := 142) hx hb dX9_feed_130 (by decide) (fun hc16 => ?_) (fun hc16 => ?_)
              · have hf := it_p hf hc16
                refine lv_aload_n hx hb dX9_feed_142 rfl (lv_at hl 0 rfl) ?_
                refine ev_getP (v := q6) S hK hM (ci := 9) (n := 8) (C := RX9) (T := TX9) hin9 rfl hg5 3 (by decide) lk26 rfl rfl eq6 rfl dX9_feed_143 ?_
                refine ev_get (v := .int (j15 q6 1)) S hK hM (ci := 8) (n := 8) (C := RX8) (T := TX8) hin8 rfl hg7 1 (by decide) lk152 rfl rfl rfl dX9_feed_146 ?_
                obtain rfl := Option.some.inj hf
                subst hQ
                exact ev_iret S hr hlocks hK hZ hM dX9_feed_149
              · have hf := it_n hf hc16
                refine lv_aload_n hx hb dX9_feed_133 rfl (lv_at hl 0 rfl) ?_
                refine ev_getP (v := q6) S hK hM (ci := 9) (n := 8) (C := RX9) (T := TX9) hin9 rfl hg5 3 (by decide) lk26 rfl rfl eq6 rfl dX9_feed_134 ?_
                refine lv_iload hx hb dX9_feed_137 (lv_at hl 2 rfl) ?_
                refine bd_e hf (fun r17 er17 hf => ?_)
                refine ev_callv (va_runV (As := [.int x6]) (rest := []) S (c_X8_add (l := l) j15 P q6 x6 r17 er17) (cwV 1 hts (gi_v wa_2_198 wa_2_199 wa_2_200 wa_1_8 wa_2_201) rfl rfl rfl (by decide +kernel) ⟨Nat.le_of_ble_eq_true rfl, Nat.le_of_ble_eq_true rfl⟩) ⟨mm_B_blind, ev_recv hK hM (ci := 8) rfl hg7 rfl, fun U hU hW => ⟨rfl, mm_B_of hK hZ hM hU hW⟩⟩ rfl rfl hl.1 rfl (lv_room (Nat.le_of_ble_eq_true rfl)) dX9_feed_139 ⟨Nat.zero_le _, Nat.zero_le _⟩) hM (fun H locs hM => ?_)
                refine lv_aload_n hx hb dX9_feed_142 rfl (lv_at hl 0 rfl) ?_
                refine ev_getP (v := q6) S hK hM (ci := 9) (n := 8) (C := RX9) (T := TX9) hin9 rfl hg5 3 (by decide) lk26 rfl rfl eq6 rfl dX9_feed_143 ?_
                refine ev_get (v := .int (r17 q6 1)) S hK hM (ci := 8) (n := 8) (C := RX8) (T := TX8) hin8 rfl hg7 1 (by decide) lk152 rfl rfl rfl dX9_feed_146 ?_
                obtain rfl := Option.some.inj hf
                subst hQ
                exact ev_iret S hr hlocks hK hZ hM dX9_feed_149
            have hf := ej15
            refine lv_icmp_le (tgt := 128) hx hb dX9_feed_116 (by decide) (fun hc14 => ?_) (fun hc14 => ?_)
            · have hf := it_p hf hc14
              obtain rfl := Option.some.inj hf
              exact kj15 _ _ _ hM (lv_sub hl [0, 1, 3] rfl)
            · have hf := it_n hf hc14
              refine lv_aload_n hx hb dX9_feed_119 rfl (lv_at hl 0 rfl) ?_
              refine ev_getP (v := q6) S hK hM (ci := 9) (n := 8) (C := RX9) (T := TX9) hin9 rfl hg5 3 (by decide) lk26 rfl rfl eq6 rfl dX9_feed_120 ?_
              refine lv_iload hx hb dX9_feed_123 (lv_at hl 2 rfl) ?_
              refine bd_e hf (fun r18 er18 hf => ?_)
              refine ev_callv (va_runV (As := [.int x5]) (rest := []) S (c_X8_add (l := l) j13 P q6 x5 r18 er18) (cwV 1 hts (gi_v wa_2_198 wa_2_199 wa_2_200 wa_1_8 wa_2_201) rfl rfl rfl (by decide +kernel) ⟨Nat.le_of_ble_eq_true rfl, Nat.le_of_ble_eq_true rfl⟩) ⟨mm_B_blind, ev_recv hK hM (ci := 8) rfl hg7 rfl, fun U hU hW => ⟨rfl, mm_B_of hK hZ hM hU hW⟩⟩ rfl rfl hl.1 rfl (lv_room (Nat.le_of_ble_eq_true rfl)) dX9_feed_125 ⟨Nat.zero_le _, Nat.zero_le _⟩) hM (fun H locs hM => ?_)
              obtain rfl := Option.some.inj hf
              exact kj15 _ _ _ hM (lv_sub hl [0, 1, 3] rfl)
          have hf := ej13
          refine lv_icmp_le (tgt := 114) hx hb dX9_feed_102 (by decide) (fun hc12 => ?_) (fun hc12 => ?_)
          · have hf := it_p hf hc12
            obtain rfl := Option.some.inj hf
            exact kj13 _ _ _ hM (lv_sub hl [0, 1, 3, 4] rfl)
          · have hf := it_n hf hc12
            refine lv_aload_n hx hb dX9_feed_105 rfl (lv_at hl 0 rfl) ?_
            refine ev_getP (v := q6) S hK hM (ci := 9) (n := 8) (C := RX9) (T := TX9) hin9 rfl hg5 3 (by decide) lk26 rfl rfl eq6 rfl dX9_feed_106 ?_
            refine lv_iload hx hb dX9_feed_109 (lv_at hl 2 rfl) ?_
            refine bd_e hf (fun r19 er19 hf => ?_)
            refine ev_callv (va_runV (As := [.int x4]) (rest := []) S (c_X8_add (l := l) j11 P q6 x4 r19 er19) (cwV 1 hts (gi_v wa_2_198 wa_2_199 wa_2_200 wa_1_8 wa_2_201) rfl rfl rfl (by decide +kernel) ⟨Nat.le_of_ble_eq_true rfl, Nat.le_of_ble_eq_true rfl⟩) ⟨mm_B_blind, ev_recv hK hM (ci := 8) rfl hg7 rfl, fun U hU hW => ⟨rfl, mm_B_of hK hZ hM hU hW⟩⟩ rfl rfl hl.1 rfl (lv_room (Nat.le_of_ble_eq_true rfl)) dX9_feed_111 ⟨Nat.zero_le _, Nat.zero_le _⟩) hM (fun H locs hM => ?_)
            obtain rfl := Option.some.inj hf
            exact kj13 _ _ _ hM (lv_sub hl [0, 1, 3, 4] rfl)
        have hf := ej11
        refine lv_icmp_le (tgt := 100) hx hb dX9_feed_89 (by decide) (fun hc10 => ?_) (fun hc10 => ?_)
        · have hf := it_p hf hc10
          obtain rfl := Option.some.inj hf
          exact kj11 _ _ _ hM (lv_sub hl [1, 2, 5, 6, 7] rfl)
        · have hf := it_n hf hc10
          refine lv_aload_n hx hb dX9_feed_92 rfl (lv_at hl 1 rfl) ?_
          refine ev_getP (v := q6) S hK hM (ci := 9) (n := 8) (C := RX9) (T := TX9) hin9 rfl hg5 3 (by decide) lk26 rfl rfl eq6 rfl dX9_feed_93 ?_
          refine lv_iload_n hx hb dX9_feed_96 rfl (lv_at hl 4 rfl) ?_
          refine bd_e hf (fun r20 er20 hf => ?_)
          refine ev_callv (va_runV (As := [.int x3]) (rest := []) S (c_X8_add (l := l) r9 P q6 x3 r20 er20) (cwV 1 hts (gi_v wa_2_198 wa_2_199 wa_2_200 wa_1_8 wa_2_201) rfl rfl rfl (by decide +kernel) ⟨Nat.le_of_ble_eq_true rfl, Nat.le_of_ble_eq_true rfl⟩) ⟨mm_B_blind, ev_recv hK hM (ci := 8) rfl hg7 rfl, fun U hU hW => ⟨rfl, mm_B_of hK hZ hM hU hW⟩⟩ rfl rfl hl.1 rfl (lv_room (Nat.le_of_ble_eq_true rfl)) dX9_feed_97 ⟨Nat.zero_le _, Nat.zero_le _⟩) hM (fun H locs hM => ?_)
          obtain rfl := Option.some.inj hf
          exact kj11 _ _ _ hM (lv_sub hl [1, 2, 5, 6, 7] rfl)
      · have hf := it_n hf hc8
        refine lv_bipush (v := (-4 : Int32)) hx hb dX9_feed_76 (by decide) ?_
        obtain rfl := Option.some.inj hf
        subst hQ
        exact ev_iret S hr hlocks hK hZ hM dX9_feed_78
    · have hf := it_p hf hc4
      refine lv_bipush (v := (-2 : Int32)) hx hb dX9_feed_59 (by decide) ?_
      obtain rfl := Option.some.inj hf
      subst hQ
      exact ev_iret S hr hlocks hK hZ hM dX9_feed_61
  have hf := ej3
  refine lv_if_eq (tgt := 51) hx hb dX9_feed_6 (by decide) (fun hc2 => ?_) (fun hc2 => ?_)
  · have hf := it_p hf hc2
    refine lv_iconst (v := (0 : Int32)) hx hb dX9_feed_51 (by decide) ?_
    obtain rfl := Option.some.inj hf
    exact kj3 _ _ _ hM (hl)
  · have hf := it_n hf hc2
    refine lv_iload_n hx hb dX9_feed_9 rfl (lv_at hl 2 rfl) ?_
    refine bd_e hf (fun r21 er21 hf => ?_)
    refine ev_calli (va_runS (As := [.int x2]) (rest := []) S (c_X9_isByte (l := l) I P x2 r21 er21) (va_cwS 1 hts (gi_s wa_2_50 wa_2_51 wa_1_1 wa_2_52) rfl rfl rfl (by decide +kernel) ⟨Nat.le_of_ble_eq_true rfl, Nat.le_of_ble_eq_true rfl⟩) ⟨mm_B_blind, fun U hU hW => ⟨rfl, mm_B_of hK hZ hM hU hW⟩⟩ rfl rfl hl.1 rfl (lv_room (Nat.le_of_ble_eq_true rfl)) dX9_feed_10 ⟨Nat.zero_le _, Nat.zero_le _⟩) hM (fun H locs hM => ?_)
    refine lv_if_eq (tgt := 51) hx hb dX9_feed_13 (by decide) (fun hc22 => ?_) (fun hc22 => ?_)
    · have hf := it_p hf hc22
      refine lv_iconst (v := (0 : Int32)) hx hb dX9_feed_51 (by decide) ?_
      obtain rfl := Option.some.inj hf
      exact kj3 _ _ _ hM (hl)
    · have hf := it_n hf hc22
      refine lv_iload_n hx hb dX9_feed_16 rfl (lv_at hl 3 rfl) ?_
      refine bd_e hf (fun r23 er23 hf => ?_)
      refine ev_calli (va_runS (As := [.int x3]) (rest := []) S (c_X9_isByte (l := l) I P x3 r23 er23) (va_cwS 1 hts (gi_s wa_2_50 wa_2_51 wa_1_1 wa_2_52) rfl rfl rfl (by decide +kernel) ⟨Nat.le_of_ble_eq_true rfl, Nat.le_of_ble_eq_true rfl⟩) ⟨mm_B_blind, fun U hU hW => ⟨rfl, mm_B_of hK hZ hM hU hW⟩⟩ rfl rfl hl.1 rfl (lv_room (Nat.le_of_ble_eq_true rfl)) dX9_feed_17 ⟨Nat.zero_le _, Nat.zero_le _⟩) hM (fun H locs hM => ?_)
      refine lv_if_eq (tgt := 51) hx hb dX9_feed_20 (by decide) (fun hc24 => ?_) (fun hc24 => ?_)
      · have hf := it_p hf hc24
        refine lv_iconst (v := (0 : Int32)) hx hb dX9_feed_51 (by decide) ?_
        obtain rfl := Option.some.inj hf
        exact kj3 _ _ _ hM (hl)
      · have hf := it_n hf hc24
        refine lv_iload hx hb dX9_feed_23 (lv_at hl 4 rfl) ?_
        refine bd_e hf (fun r25 er25 hf => ?_)
        refine ev_calli (va_runS (As := [.int x4]) (rest := []) S (c_X9_isByte (l := l) I P x4 r25 er25) (va_cwS 1 hts (gi_s wa_2_50 wa_2_51 wa_1_1 wa_2_52) rfl rfl rfl (by decide +kernel) ⟨Nat.le_of_ble_eq_true rfl, Nat.le_of_ble_eq_true rfl⟩) ⟨mm_B_blind, fun U hU hW => ⟨rfl, mm_B_of hK hZ hM hU hW⟩⟩ rfl rfl hl.1 rfl (lv_room (Nat.le_of_ble_eq_true rfl)) dX9_feed_25 ⟨Nat.zero_le _, Nat.zero_le _⟩) hM (fun H locs hM => ?_)
        refine lv_if_eq (tgt := 51) hx hb dX9_feed_28 (by decide) (fun hc26 => ?_) (fun hc26 => ?_)
        · have hf := it_p hf hc26
          refine lv_iconst (v := (0 : Int32)) hx hb dX9_feed_51 (by decide) ?_
          obtain rfl := Option.some.inj hf
          exact kj3 _ _ _ hM (hl)
        · have hf := it_n hf hc26
          refine lv_iload hx hb dX9_feed_31 (lv_at hl 5 rfl) ?_
          refine bd_e hf (fun r27 er27 hf => ?_)
          refine ev_calli (va_runS (As := [.int x5]) (rest := []) S (c_X9_isByte (l := l) I P x5 r27 er27) (va_cwS 1 hts (gi_s wa_2_50 wa_2_51 wa_1_1 wa_2_52) rfl rfl rfl (by decide +kernel) ⟨Nat.le_of_ble_eq_true rfl, Nat.le_of_ble_eq_true rfl⟩) ⟨mm_B_blind, fun U hU hW => ⟨rfl, mm_B_of hK hZ hM hU hW⟩⟩ rfl rfl hl.1 rfl (lv_room (Nat.le_of_ble_eq_true rfl)) dX9_feed_33 ⟨Nat.zero_le _, Nat.zero_le _⟩) hM (fun H locs hM => ?_)
          refine lv_if_eq (tgt := 51) hx hb dX9_feed_36 (by decide) (fun hc28 => ?_) (fun hc28 => ?_)
          · have hf := it_p hf hc28
            refine lv_iconst (v := (0 : Int32)) hx hb dX9_feed_51 (by decide) ?_
            obtain rfl := Option.some.inj hf
            exact kj3 _ _ _ hM (hl)
          · have hf := it_n hf hc28
            refine lv_iload hx hb dX9_feed_39 (lv_at hl 6 rfl) ?_
            refine bd_e hf (fun r29 er29 hf => ?_)
            refine ev_calli (va_runS (As := [.int x6]) (rest := []) S (c_X9_isByte (l := l) I P x6 r29 er29) (va_cwS 1 hts (gi_s wa_2_50 wa_2_51 wa_1_1 wa_2_52) rfl rfl rfl (by decide +kernel) ⟨Nat.le_of_ble_eq_true rfl, Nat.le_of_ble_eq_true rfl⟩) ⟨mm_B_blind, fun U hU hW => ⟨rfl, mm_B_of hK hZ hM hU hW⟩⟩ rfl rfl hl.1 rfl (lv_room (Nat.le_of_ble_eq_true rfl)) dX9_feed_41 ⟨Nat.zero_le _, Nat.zero_le _⟩) hM (fun H locs hM => ?_)
            refine lv_if_eq (tgt := 51) hx hb dX9_feed_44 (by decide) (fun hc30 => ?_) (fun hc30 => ?_)
            · have hf := it_p hf hc30
              refine lv_iconst (v := (0 : Int32)) hx hb dX9_feed_51 (by decide) ?_
              obtain rfl := Option.some.inj hf
              exact kj3 _ _ _ hM (hl)
            · have hf := it_n hf hc30
              refine lv_iconst (v := (1 : Int32)) hx hb dX9_feed_47 (by decide) ?_
              refine lv_goto (tgt := 52) hx hb dX9_feed_48 (by decide) ?_
              obtain rfl := Option.some.inj hf
              exact kj3 _ _ _ hM (hl)
noncomputable def fn_X9_stroke (K N : Nat → Nat) (I : Nat → Nat → Int32) (P : Nat → Nat → Option Nat) (a0 : Nat) (x1 : Int32) : Option (Int32 × (Nat → Nat → Int32) × (Nat → Nat → Option Nat)) := gd (K a0 = 10) (Option.bind (P a0 (0)) (fun q2 => Option.bind (fn_X6_hasLayer K N I P q2 x1) (fun (r3 : Int32) => gd (K q2 = 7) (if r3 = 0 then (some ((-2 : Int32), I, P)) else (Option.bind (P a0 (3)) (fun q6 => Option.bind (fn_X8_read K N I P q6) (fun (r7 : (Nat → Nat → Int32)) => gd (K q6 = 9) (Option.bind (some (up2 r7 q6 1 (0 : Int32))) (fun I9 => if (I9 q6 5) = (-1 : Int32) then (Option.bind (fn_X6_drawStroke K N I9 P q2 x1 q6) (fun (r11 : Int32 × (Nat → Nat → Int32) × (Nat → Nat → Option Nat)) => some (r11.1, r11.2.1, r11.2.2))) else (some (((-100 : Int32) - (I9 q6 5)), I9, P)))))))))))
abbrev wz_X9_stroke : List Cond := Cond.code yX9_stroke cX9_stroke 2 (some .int) :: WA
abbrev rm_X9_stroke : Room := { frames := 8, cells := 0, slots := 0, locals := 161 }
set_option maxHeartbeats 4000000 in
set_option maxRecDepth 100000 in
theorem c_X9_stroke (I : Nat → Nat → Int32) (P : Nat → Nat → Option Nat) (a0 : Nat) (x1 : Int32) (res : Int32 × (Nat → Nat → Int32) × (Nat → Nat → Option Nat)) (hf : fn_X9_stroke K N I P a0 x1 = some res) : Met l yX9_stroke wz_X9_stroke rm_X9_stroke (va_Pc [.ref a0, .int x1] (mm_B D cs A L K N z w I P)) (va_Qi (fun r (_ : Unit) => r = res.1) (fun _ => mm_B D cs A L K N z w res.2.1 res.2.2) A) 0 0 A := by
  refine Met.ofW (cc := cX9_stroke) (maxL := 2) (ret := (some .int)) (by decide) rfl ?_
  intro p e s m args below meth c s₁ B hml hv
  obtain ⟨rfl, hBm⟩ := hv
  have hx := B.exec
  have hb := B.bytes
  have hr := B.returns
  have hts := atoms_spec (ws := wz_X9_stroke) B.pre
  have hWA : ∀ w ∈ WA, w.before ([.ref a0, .int x1] : List Value).toArray s = true := fun u9 h9 => hts u9 (List.mem_cons_of_mem _ h9)
  have hown : s.vm.findClass RX9 = some m.cls := findClass_of_methodNamed B.named
  have hlocks := B.notSynchronized
  have S : CallFix p m c cX9_stroke 2 s ([.ref a0, .int x1] : List Value).toArray wz_X9_stroke RX9 := ⟨hx, hb, hml, hown, hts⟩
  have hK := hBm.2.2.2.1
  have hZ := hBm.2.2.2.2
  have hM : mm_W D cs A L K N s.heap I P s.heap [] := ⟨hBm.1, hBm.2.1, hBm.2.2.1, va_S.rf⟩
  have hl := lv_entry ([.ref a0, .int x1]) (n := 2) (Nat.le_of_ble_eq_true rfl)
  rw [lg_entry_eq]
  generalize (lg_sl ([.ref a0, .int x1]) ++ List.replicate (2 - (lg_sl ([.ref a0, .int x1])).length) Slot.unset).toArray = ls at hl ⊢
  have hl : lv_has ls 2 [(0, .ref a0), (1, .int x1)] := hl
  have hin9 : ∀ w ∈ wsX90, w ∈ wz_X9_stroke := fun w h => List.mem_cons_of_mem _ (wu_X9 w h)
  have hin8 : ∀ w ∈ wsX80, w ∈ wz_X9_stroke := fun w h => List.mem_cons_of_mem _ (wu_X8 w h)
  have lk10 : (Cond.fieldLink RX9 10 RX9 "picture" "LRasterPainter$Picture;").before ([.ref a0, .int x1] : List Value).toArray s = true := hWA _ wa_2_15
  have lk26 : (Cond.fieldLink RX9 26 RX9 "tape" "LRasterPainter$Tape;").before ([.ref a0, .int x1] : List Value).toArray s = true := hWA _ wa_2_18
  have lk152 : (Cond.fieldLink RX9 152 RX8 "size" "I").before ([.ref a0, .int x1] : List Value).toArray s = true := hWA _ wa_1_184
  have lk161 : (Cond.fieldLink RX9 161 RX8 "fault" "I").before ([.ref a0, .int x1] : List Value).toArray s = true := hWA _ wa_1_192
  generalize hQ : MQ below (va_Qi (fun r (_ : Unit) => r = res.1) (fun _ => mm_B D cs A L K N z w res.2.1 res.2.2) A) ([.ref a0, .int x1] : List Value).toArray s 0 0 A = QQ
  rw [fn_X9_stroke] at hf
  refine lv_aload_n hx hb dX9_stroke_0 rfl (lv_at hl 0 rfl) ?_
  refine gd_e hf (fun hg1 hf => ?_)
  refine bd_e hf (fun q2 eq2 hf => ?_)
  refine ev_getP (v := q2) S hK hM (ci := 9) (n := 8) (C := RX9) (T := TX9) hin9 rfl hg1 0 (by decide) lk10 rfl rfl eq2 rfl dX9_stroke_1 ?_
  refine lv_iload_n hx hb dX9_stroke_4 rfl (lv_at hl 1 rfl) ?_
  refine bd_e hf (fun r3 er3 hf => ?_)
  refine gd_e hf (fun hg4 hf => ?_)
  refine ev_calli (va_runV (As := [.int x1]) (rest := []) S (c_X6_hasLayer (l := l) I P q2 x1 r3 er3) (cwV 1 hts (gi_v wa_2_76 wa_2_77 wa_2_78 wa_1_2 wa_2_79) rfl rfl rfl (by decide +kernel) ⟨Nat.le_of_ble_eq_true rfl, Nat.le_of_ble_eq_true rfl⟩) ⟨mm_B_blind, ev_recv hK hM (ci := 6) rfl hg4 rfl, fun U hU hW => ⟨rfl, mm_B_of hK hZ hM hU hW⟩⟩ rfl rfl hl.1 rfl (lv_room (Nat.le_of_ble_eq_true rfl)) dX9_stroke_5 ⟨Nat.zero_le _, Nat.zero_le _⟩) hM (fun H locs hM => ?_)
  refine lv_if_ne (tgt := 14) hx hb dX9_stroke_8 (by decide) (fun hc5 => ?_) (fun hc5 => ?_)
  · have hf := it_n hf hc5
    refine lv_aload_n hx hb dX9_stroke_14 rfl (lv_at hl 0 rfl) ?_
    refine bd_e hf (fun q6 eq6 hf => ?_)
    refine ev_getP (v := q6) S hK hM (ci := 9) (n := 8) (C := RX9) (T := TX9) hin9 rfl hg1 3 (by decide) lk26 rfl rfl eq6 rfl dX9_stroke_15 ?_
    refine bd_e hf (fun r7 er7 hf => ?_)
    refine gd_e hf (fun hg8 hf => ?_)
    refine ev_callv (va_runV (As := []) (rest := []) S (c_X8_read (l := l) I P q6 r7 er7) (cwV 0 hts (gi_v wa_2_206 wa_2_207 wa_2_208 wa_1_8 wa_2_209) rfl rfl rfl (by decide +kernel) ⟨Nat.le_of_ble_eq_true rfl, Nat.le_of_ble_eq_true rfl⟩) ⟨mm_B_blind, ev_recv hK hM (ci := 8) rfl hg8 rfl, fun U hU hW => ⟨rfl, mm_B_of hK hZ hM hU hW⟩⟩ rfl rfl hl.1 rfl (lv_room (Nat.le_of_ble_eq_true rfl)) dX9_stroke_18 ⟨Nat.zero_le _, Nat.zero_le _⟩) hM (fun H locs hM => ?_)
    refine lv_aload_n hx hb dX9_stroke_21 rfl (lv_at hl 0 rfl) ?_
    refine ev_getP (v := q6) S hK hM (ci := 9) (n := 8) (C := RX9) (T := TX9) hin9 rfl hg1 3 (by decide) lk26 rfl rfl eq6 rfl dX9_stroke_22 ?_
    refine lv_iconst (v := (0 : Int32)) hx hb dX9_stroke_25 (by decide) ?_
    refine ev_put S hK hM (ci := 8) (n := 8) (C := RX8) (T := TX8) hin8 tyX8 tyX8_ok nmX8 rfl hg8 1 (by decide) lk152 rfl rfl rfl rfl rfl (Nat.le_of_ble_eq_true rfl) rfl dX9_stroke_26 (fun I9 eI9 H locs hM => ?_)
    have hf := nm_x eI9 hf
    refine lv_aload_n hx hb dX9_stroke_29 rfl (lv_at hl 0 rfl) ?_
    refine ev_getP (v := q6) S hK hM (ci := 9) (n := 8) (C := RX9) (T := TX9) hin9 rfl hg1 3 (by decide) lk26 rfl rfl eq6 rfl dX9_stroke_30 ?_
    refine ev_get (v := .int (I9 q6 5)) S hK hM (ci := 8) (n := 8) (C := RX8) (T := TX8) hin8 rfl hg8 5 (by decide) lk161 rfl rfl rfl dX9_stroke_33 ?_
    refine lv_iconst (v := (-1 : Int32)) hx hb dX9_stroke_36 (by decide) ?_
    refine lv_icmp_ne (tgt := 55) hx hb dX9_stroke_37 (by decide) (fun hc10 => ?_) (fun hc10 => ?_)
    · have hf := it_n hf hc10
      refine lv_bipush (v := (-100 : Int32)) hx hb dX9_stroke_55 (by decide) ?_
      refine lv_aload_n hx hb dX9_stroke_57 rfl (lv_at hl 0 rfl) ?_
      refine ev_getP (v := q6) S hK hM (ci := 9) (n := 8) (C := RX9) (T := TX9) hin9 rfl hg1 3 (by decide) lk26 rfl rfl eq6 rfl dX9_stroke_58 ?_
      refine ev_get (v := .int (I9 q6 5)) S hK hM (ci := 8) (n := 8) (C := RX8) (T := TX8) hin8 rfl hg8 5 (by decide) lk161 rfl rfl rfl dX9_stroke_61 ?_
      refine lv_isub hx hb dX9_stroke_64 ?_
      obtain rfl := Option.some.inj hf
      subst hQ
      exact ev_iret S hr hlocks hK hZ hM dX9_stroke_65
    · have hf := it_p hf hc10
      refine lv_aload_n hx hb dX9_stroke_40 rfl (lv_at hl 0 rfl) ?_
      refine ev_getP (v := q2) S hK hM (ci := 9) (n := 8) (C := RX9) (T := TX9) hin9 rfl hg1 0 (by decide) lk10 rfl rfl eq2 rfl dX9_stroke_41 ?_
      refine lv_iload_n hx hb dX9_stroke_44 rfl (lv_at hl 1 rfl) ?_
      refine lv_aload_n hx hb dX9_stroke_45 rfl (lv_at hl 0 rfl) ?_
      refine ev_getP (v := q6) S hK hM (ci := 9) (n := 8) (C := RX9) (T := TX9) hin9 rfl hg1 3 (by decide) lk26 rfl rfl eq6 rfl dX9_stroke_46 ?_
      refine bd_e hf (fun r11 er11 hf => ?_)
      refine ev_calli (va_runV (As := [.int x1, .ref q6]) (rest := []) S (c_X6_drawStroke (l := l) I9 P q2 x1 q6 r11 er11) (cwV 2 hts (gi_v wa_3_61 wa_3_62 wa_3_63 wa_1_2 wa_3_64) rfl rfl rfl (by decide +kernel) ⟨Nat.le_of_ble_eq_true rfl, Nat.le_of_ble_eq_true rfl⟩) ⟨mm_B_blind, ev_recv hK hM (ci := 6) rfl hg4 rfl, fun U hU hW => ⟨rfl, mm_B_of hK hZ hM hU hW⟩⟩ rfl rfl hl.1 rfl (lv_room (Nat.le_of_ble_eq_true rfl)) dX9_stroke_49 ⟨Nat.zero_le _, Nat.zero_le _⟩) hM (fun H locs hM => ?_)
      refine lv_goto (tgt := 65) hx hb dX9_stroke_52 (by decide) ?_
      obtain rfl := Option.some.inj hf
      subst hQ
      exact ev_iret S hr hlocks hK hZ hM dX9_stroke_65
  · have hf := it_p hf hc5
    refine lv_bipush (v := (-2 : Int32)) hx hb dX9_stroke_11 (by decide) ?_
    obtain rfl := Option.some.inj hf
    subst hQ
    exact ev_iret S hr hlocks hK hZ hM dX9_stroke_13
noncomputable def fn_X9_box (K N : Nat → Nat) (I : Nat → Nat → Int32) (P : Nat → Nat → Option Nat) (a0 : Nat) (x1 : Int32) (x2 : Int32) (x3 : Int32) (x4 : Int32) (x5 : Int32) : Option (Int32 × (Nat → Nat → Int32) × (Nat → Nat → Option Nat)) := gd (K a0 = 10) (Option.bind (P a0 (0)) (fun q2 => Option.bind (fn_X6_hasLayer K N I P q2 x1) (fun (r3 : Int32) => gd (K q2 = 7) (if r3 = 0 then (some ((-2 : Int32), I, P)) else (Option.bind (fn_X9_isDot x2 x3) (fun (r6 : Int32) => if r6 = 0 then (some ((-2 : Int32), I, P)) else (Option.bind (fn_X9_isDot x4 x5) (fun (r8 : Int32) => if r8 = 0 then (some ((-2 : Int32), I, P)) else (Option.bind (P a0 (5)) (fun q10 => Option.bind (fn_X3_chooseBox K N I P q10 x2 x3 x4 x5) (fun (r11 : (Nat → Nat → Int32)) => gd (K q10 = 4) (Option.bind (P q10 (0)) (fun q13 => Option.bind (fn_X6_fillChosen K N r11 P q2 x1 q13) (fun (r14 : Int32 × (Nat → Nat → Int32) × (Nat → Nat → Option Nat)) => some (r14.1, r14.2.1, r14.2.2)))))))))))))))
abbrev wz_X9_box : List Cond := Cond.code yX9_box cX9_box 6 (some .int) :: WA
abbrev rm_X9_box : Room := { frames := 5, cells := 0, slots := 0, locals := 128 }
set_option maxHeartbeats 4000000 in
set_option maxRecDepth 100000 in
theorem c_X9_box (I : Nat → Nat → Int32) (P : Nat → Nat → Option Nat) (a0 : Nat) (x1 : Int32) (x2 : Int32) (x3 : Int32) (x4 : Int32) (x5 : Int32) (res : Int32 × (Nat → Nat → Int32) × (Nat → Nat → Option Nat)) (hf : fn_X9_box K N I P a0 x1 x2 x3 x4 x5 = some res) : Met l yX9_box wz_X9_box rm_X9_box (va_Pc [.ref a0, .int x1, .int x2, .int x3, .int x4, .int x5] (mm_B D cs A L K N z w I P)) (va_Qi (fun r (_ : Unit) => r = res.1) (fun _ => mm_B D cs A L K N z w res.2.1 res.2.2) A) 0 0 A := by
  refine Met.ofW (cc := cX9_box) (maxL := 6) (ret := (some .int)) (by decide) rfl ?_
  intro p e s m args below meth c s₁ B hml hv
  obtain ⟨rfl, hBm⟩ := hv
  have hx := B.exec
  have hb := B.bytes
  have hr := B.returns
  have hts := atoms_spec (ws := wz_X9_box) B.pre
  have hWA : ∀ w ∈ WA, w.before ([.ref a0, .int x1, .int x2, .int x3, .int x4, .int x5] : List Value).toArray s = true := fun u9 h9 => hts u9 (List.mem_cons_of_mem _ h9)
  have hown : s.vm.findClass RX9 = some m.cls := findClass_of_methodNamed B.named
  have hlocks := B.notSynchronized
  have S : CallFix p m c cX9_box 6 s ([.ref a0, .int x1, .int x2, .int x3, .int x4, .int x5] : List Value).toArray wz_X9_box RX9 := ⟨hx, hb, hml, hown, hts⟩
  have hK := hBm.2.2.2.1
  have hZ := hBm.2.2.2.2
  have hM : mm_W D cs A L K N s.heap I P s.heap [] := ⟨hBm.1, hBm.2.1, hBm.2.2.1, va_S.rf⟩
  have hl := lv_entry ([.ref a0, .int x1, .int x2, .int x3, .int x4, .int x5]) (n := 6) (Nat.le_of_ble_eq_true rfl)
  rw [lg_entry_eq]
  generalize (lg_sl ([.ref a0, .int x1, .int x2, .int x3, .int x4, .int x5]) ++ List.replicate (6 - (lg_sl ([.ref a0, .int x1, .int x2, .int x3, .int x4, .int x5])).length) Slot.unset).toArray = ls at hl ⊢
  have hl : lv_has ls 6 [(0, .ref a0), (1, .int x1), (2, .int x2), (3, .int x3), (4, .int x4), (5, .int x5)] := hl
  have hin9 : ∀ w ∈ wsX90, w ∈ wz_X9_box := fun w h => List.mem_cons_of_mem _ (wu_X9 w h)
  have hin3 : ∀ w ∈ wsX30, w ∈ wz_X9_box := fun w h => List.mem_cons_of_mem _ (wu_X3 w h)
  have lk10 : (Cond.fieldLink RX9 10 RX9 "picture" "LRasterPainter$Picture;").before ([.ref a0, .int x1, .int x2, .int x3, .int x4, .int x5] : List Value).toArray s = true := hWA _ wa_2_15
  have lk40 : (Cond.fieldLink RX9 40 RX9 "choice" "LRasterPainter$Choice;").before ([.ref a0, .int x1, .int x2, .int x3, .int x4, .int x5] : List Value).toArray s = true := hWA _ wa_2_20
  have lk171 : (Cond.fieldLink RX9 171 RX3 "chosen" "[Z").before ([.ref a0, .int x1, .int x2, .int x3, .int x4, .int x5] : List Value).toArray s = true := hWA _ wa_1_239
  generalize hQ : MQ below (va_Qi (fun r (_ : Unit) => r = res.1) (fun _ => mm_B D cs A L K N z w res.2.1 res.2.2) A) ([.ref a0, .int x1, .int x2, .int x3, .int x4, .int x5] : List Value).toArray s 0 0 A = QQ
  rw [fn_X9_box] at hf
  refine lv_aload_n hx hb dX9_box_0 rfl (lv_at hl 0 rfl) ?_
  refine gd_e hf (fun hg1 hf => ?_)
  refine bd_e hf (fun q2 eq2 hf => ?_)
  refine ev_getP (v := q2) S hK hM (ci := 9) (n := 8) (C := RX9) (T := TX9) hin9 rfl hg1 0 (by decide) lk10 rfl rfl eq2 rfl dX9_box_1 ?_
  refine lv_iload_n hx hb dX9_box_4 rfl (lv_at hl 1 rfl) ?_
  refine bd_e hf (fun r3 er3 hf => ?_)
  refine gd_e hf (fun hg4 hf => ?_)
  refine ev_calli (va_runV (As := [.int x1]) (rest := []) S (c_X6_hasLayer (l := l) I P q2 x1 r3 er3) (cwV 1 hts (gi_v wa_2_76 wa_2_77 wa_2_78 wa_1_2 wa_2_79) rfl rfl rfl (by decide +kernel) ⟨Nat.le_of_ble_eq_true rfl, Nat.le_of_ble_eq_true rfl⟩) ⟨mm_B_blind, ev_recv hK hM (ci := 6) rfl hg4 rfl, fun U hU hW => ⟨rfl, mm_B_of hK hZ hM hU hW⟩⟩ rfl rfl hl.1 rfl (lv_room (Nat.le_of_ble_eq_true rfl)) dX9_box_5 ⟨Nat.zero_le _, Nat.zero_le _⟩) hM (fun H locs hM => ?_)
  refine lv_if_eq (tgt := 29) hx hb dX9_box_8 (by decide) (fun hc5 => ?_) (fun hc5 => ?_)
  · have hf := it_p hf hc5
    refine lv_bipush (v := (-2 : Int32)) hx hb dX9_box_29 (by decide) ?_
    obtain rfl := Option.some.inj hf
    subst hQ
    exact ev_iret S hr hlocks hK hZ hM dX9_box_31
  · have hf := it_n hf hc5
    refine lv_iload_n hx hb dX9_box_11 rfl (lv_at hl 2 rfl) ?_
    refine lv_iload_n hx hb dX9_box_12 rfl (lv_at hl 3 rfl) ?_
    refine bd_e hf (fun r6 er6 hf => ?_)
    refine ev_calli (va_runS (As := [.int x2, .int x3]) (rest := []) S (c_X9_isDot (l := l) I P x2 x3 r6 er6) (va_cwS 2 hts (gi_s wa_2_142 wa_2_143 wa_1_1 wa_2_144) rfl rfl rfl (by decide +kernel) ⟨Nat.le_of_ble_eq_true rfl, Nat.le_of_ble_eq_true rfl⟩) ⟨mm_B_blind, fun U hU hW => ⟨rfl, mm_B_of hK hZ hM hU hW⟩⟩ rfl rfl hl.1 rfl (lv_room (Nat.le_of_ble_eq_true rfl)) dX9_box_13 ⟨Nat.zero_le _, Nat.zero_le _⟩) hM (fun H locs hM => ?_)
    refine lv_if_eq (tgt := 29) hx hb dX9_box_16 (by decide) (fun hc7 => ?_) (fun hc7 => ?_)
    · have hf := it_p hf hc7
      refine lv_bipush (v := (-2 : Int32)) hx hb dX9_box_29 (by decide) ?_
      obtain rfl := Option.some.inj hf
      subst hQ
      exact ev_iret S hr hlocks hK hZ hM dX9_box_31
    · have hf := it_n hf hc7
      refine lv_iload hx hb dX9_box_19 (lv_at hl 4 rfl) ?_
      refine lv_iload hx hb dX9_box_21 (lv_at hl 5 rfl) ?_
      refine bd_e hf (fun r8 er8 hf => ?_)
      refine ev_calli (va_runS (As := [.int x4, .int x5]) (rest := []) S (c_X9_isDot (l := l) I P x4 x5 r8 er8) (va_cwS 2 hts (gi_s wa_2_142 wa_2_143 wa_1_1 wa_2_144) rfl rfl rfl (by decide +kernel) ⟨Nat.le_of_ble_eq_true rfl, Nat.le_of_ble_eq_true rfl⟩) ⟨mm_B_blind, fun U hU hW => ⟨rfl, mm_B_of hK hZ hM hU hW⟩⟩ rfl rfl hl.1 rfl (lv_room (Nat.le_of_ble_eq_true rfl)) dX9_box_23 ⟨Nat.zero_le _, Nat.zero_le _⟩) hM (fun H locs hM => ?_)
      refine lv_if_ne (tgt := 32) hx hb dX9_box_26 (by decide) (fun hc9 => ?_) (fun hc9 => ?_)
      · have hf := it_n hf hc9
        refine lv_aload_n hx hb dX9_box_32 rfl (lv_at hl 0 rfl) ?_
        refine bd_e hf (fun q10 eq10 hf => ?_)
        refine ev_getP (v := q10) S hK hM (ci := 9) (n := 8) (C := RX9) (T := TX9) hin9 rfl hg1 5 (by decide) lk40 rfl rfl eq10 rfl dX9_box_33 ?_
        refine lv_iload_n hx hb dX9_box_36 rfl (lv_at hl 2 rfl) ?_
        refine lv_iload_n hx hb dX9_box_37 rfl (lv_at hl 3 rfl) ?_
        refine lv_iload hx hb dX9_box_38 (lv_at hl 4 rfl) ?_
        refine lv_iload hx hb dX9_box_40 (lv_at hl 5 rfl) ?_
        refine bd_e hf (fun r11 er11 hf => ?_)
        refine gd_e hf (fun hg12 hf => ?_)
        refine ev_callv (va_runV (As := [.int x2, .int x3, .int x4, .int x5]) (rest := []) S (c_X3_chooseBox (l := l) I P q10 x2 x3 x4 x5 r11 er11) (cwV 4 hts (gi_v wa_3_131 wa_3_132 wa_3_133 wa_1_10 wa_3_134) rfl rfl rfl (by decide +kernel) ⟨Nat.le_of_ble_eq_true rfl, Nat.le_of_ble_eq_true rfl⟩) ⟨mm_B_blind, ev_recv hK hM (ci := 3) rfl hg12 rfl, fun U hU hW => ⟨rfl, mm_B_of hK hZ hM hU hW⟩⟩ rfl rfl hl.1 rfl (lv_room (Nat.le_of_ble_eq_true rfl)) dX9_box_42 ⟨Nat.zero_le _, Nat.zero_le _⟩) hM (fun H locs hM => ?_)
        refine lv_aload_n hx hb dX9_box_45 rfl (lv_at hl 0 rfl) ?_
        refine ev_getP (v := q2) S hK hM (ci := 9) (n := 8) (C := RX9) (T := TX9) hin9 rfl hg1 0 (by decide) lk10 rfl rfl eq2 rfl dX9_box_46 ?_
        refine lv_iload_n hx hb dX9_box_49 rfl (lv_at hl 1 rfl) ?_
        refine lv_aload_n hx hb dX9_box_50 rfl (lv_at hl 0 rfl) ?_
        refine ev_getP (v := q10) S hK hM (ci := 9) (n := 8) (C := RX9) (T := TX9) hin9 rfl hg1 5 (by decide) lk40 rfl rfl eq10 rfl dX9_box_51 ?_
        refine bd_e hf (fun q13 eq13 hf => ?_)
        refine ev_getP (v := q13) S hK hM (ci := 3) (n := 4) (C := RX3) (T := TX3) hin3 rfl hg12 0 (by decide) lk171 rfl rfl eq13 rfl dX9_box_54 ?_
        refine bd_e hf (fun r14 er14 hf => ?_)
        refine ev_calli (va_runV (As := [.int x1, .ref q13]) (rest := []) S (c_X6_fillChosen (l := l) r11 P q2 x1 q13 r14 er14) (cwV 2 hts (gi_v wa_3_142 wa_3_143 wa_3_144 wa_1_2 wa_3_145) rfl rfl rfl (by decide +kernel) ⟨Nat.le_of_ble_eq_true rfl, Nat.le_of_ble_eq_true rfl⟩) ⟨mm_B_blind, ev_recv hK hM (ci := 6) rfl hg4 rfl, fun U hU hW => ⟨rfl, mm_B_of hK hZ hM hU hW⟩⟩ rfl rfl hl.1 rfl (lv_room (Nat.le_of_ble_eq_true rfl)) dX9_box_57 ⟨Nat.zero_le _, Nat.zero_le _⟩) hM (fun H locs hM => ?_)
        obtain rfl := Option.some.inj hf
        subst hQ
        exact ev_iret S hr hlocks hK hZ hM dX9_box_60
      · have hf := it_p hf hc9
        refine lv_bipush (v := (-2 : Int32)) hx hb dX9_box_29 (by decide) ?_
        obtain rfl := Option.some.inj hf
        subst hQ
        exact ev_iret S hr hlocks hK hZ hM dX9_box_31
end G03
