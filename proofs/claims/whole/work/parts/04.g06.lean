section G06
variable {l : Launch} {D : va_G} {cs : mm_C} {A : Nat → Prop} {L : List Nat} {K N z : Nat → Nat} {w : Option Nat}
noncomputable def fn_X10_isFree (K N : Nat → Nat) (I : Nat → Nat → Int32) (P : Nat → Nat → Option Nat) (a0 : Nat) (x1 : Int32) : Option (Int32) := gd (K a0 = 11) (if (I a0 3) = 0 then (Option.bind (P a0 (0)) (fun q3 => gd (K q3 = 12 ∧ vp_in ((1556 : Int32) + x1) (N q3)) (if (I q3 (((1556 : Int32) + x1)).toNatClampNeg) = (1 : Int32) then (some (1 : Int32)) else (some (0 : Int32))))) else (some (1 : Int32)))
abbrev wz_X10_isFree : List Cond := Cond.code yX10_isFree cX10_isFree 2 (some .boolean) :: WA
abbrev rm_X10_isFree : Room := { frames := 1, cells := 0, slots := 0, locals := 12 }
set_option maxHeartbeats 4000000 in
set_option maxRecDepth 100000 in
theorem c_X10_isFree (I : Nat → Nat → Int32) (P : Nat → Nat → Option Nat) (a0 : Nat) (x1 : Int32) (res : Int32) (hf : fn_X10_isFree K N I P a0 x1 = some res) : Met l yX10_isFree wz_X10_isFree rm_X10_isFree (va_Pc [.ref a0, .int x1] (mm_B D cs A L K N z w I P)) (va_Qi (fun r (_ : Unit) => r = res) (fun _ => mm_B D cs A L K N z w I P) A) 0 0 A := by
  refine Met.ofW (cc := cX10_isFree) (maxL := 2) (ret := (some .boolean)) (by decide) rfl ?_
  intro p e s m args below meth c s₁ B hml hv
  obtain ⟨rfl, hBm⟩ := hv
  have hx := B.exec
  have hb := B.bytes
  have hr := B.returns
  have hts := atoms_spec (ws := wz_X10_isFree) B.pre
  have hWA : ∀ w ∈ WA, w.before ([.ref a0, .int x1] : List Value).toArray s = true := fun u9 h9 => hts u9 (List.mem_cons_of_mem _ h9)
  have hown : s.vm.findClass RX10 = some m.cls := findClass_of_methodNamed B.named
  have hlocks := B.notSynchronized
  have S : CallFix p m c cX10_isFree 2 s ([.ref a0, .int x1] : List Value).toArray wz_X10_isFree RX10 := ⟨hx, hb, hml, hown, hts⟩
  have hK := hBm.2.2.2.1
  have hZ := hBm.2.2.2.2
  have hM : mm_W D cs A L K N s.heap I P s.heap [] := ⟨hBm.1, hBm.2.1, hBm.2.2.1, va_S.rf⟩
  have hl := lv_entry ([.ref a0, .int x1]) (n := 2) (Nat.le_of_ble_eq_true rfl)
  rw [lg_entry_eq]
  generalize (lg_sl ([.ref a0, .int x1]) ++ List.replicate (2 - (lg_sl ([.ref a0, .int x1])).length) Slot.unset).toArray = ls at hl ⊢
  have hl : lv_has ls 2 [(0, .ref a0), (1, .int x1)] := hl
  have hin10 : ∀ w ∈ wsX100, w ∈ wz_X10_isFree := fun w h => List.mem_cons_of_mem _ (wu_X10 w h)
  have lk113 : (Cond.fieldLink RX10 113 RX10 "isAllFree" "Z").before ([.ref a0, .int x1] : List Value).toArray s = true := hWA _ wa_4_144
  have lk9 : (Cond.fieldLink RX10 9 RX10 "g" "[I").before ([.ref a0, .int x1] : List Value).toArray s = true := hWA _ wa_4_141
  generalize hQ : MQ below (va_Qi (fun r (_ : Unit) => r = res) (fun _ => mm_B D cs A L K N z w I P) A) ([.ref a0, .int x1] : List Value).toArray s 0 0 A = QQ
  rw [fn_X10_isFree] at hf
  refine lv_aload_n hx hb dX10_isFree_0 rfl (lv_at hl 0 rfl) ?_
  refine gd_e hf (fun hg1 hf => ?_)
  refine ev_get (v := .int (I a0 3)) S hK hM (ci := 10) (n := 23) (C := RX10) (T := TX10) hin10 rfl hg1 3 (by decide) lk113 rfl rfl rfl dX10_isFree_1 ?_
  refine lv_if_ne (tgt := 21) hx hb dX10_isFree_4 (by decide) (fun hc2 => ?_) (fun hc2 => ?_)
  · have hf := it_n hf hc2
    refine lv_iconst (v := (1 : Int32)) hx hb dX10_isFree_21 (by decide) ?_
    refine lv_goto (tgt := 26) hx hb dX10_isFree_22 (by decide) ?_
    obtain rfl := Option.some.inj hf
    subst hQ
    exact ev_zret (v := (1 : Int32)) S hr hlocks hK hZ hM rfl dX10_isFree_26
  · have hf := it_p hf hc2
    refine lv_aload_n hx hb dX10_isFree_7 rfl (lv_at hl 0 rfl) ?_
    refine bd_e hf (fun q3 eq3 hf => ?_)
    refine ev_getP (v := q3) S hK hM (ci := 10) (n := 23) (C := RX10) (T := TX10) hin10 rfl hg1 0 (by decide) lk9 rfl rfl eq3 rfl dX10_isFree_8 ?_
    refine lv_sipush (v := (1556 : Int32)) hx hb dX10_isFree_11 (by decide) ?_
    refine lv_iload_n hx hb dX10_isFree_14 rfl (lv_at hl 1 rfl) ?_
    refine lv_iadd hx hb dX10_isFree_15 ?_
    refine gd_e hf (fun hg4 hf => ?_)
    refine ev_iald S hK hM hg4 (j := (((1556 : Int32) + x1)).toNatClampNeg) rfl dX10_isFree_16 ?_
    refine lv_iconst (v := (1 : Int32)) hx hb dX10_isFree_17 (by decide) ?_
    refine lv_icmp_ne (tgt := 25) hx hb dX10_isFree_18 (by decide) (fun hc5 => ?_) (fun hc5 => ?_)
    · have hf := it_n hf hc5
      refine lv_iconst (v := (0 : Int32)) hx hb dX10_isFree_25 (by decide) ?_
      obtain rfl := Option.some.inj hf
      subst hQ
      exact ev_zret (v := (0 : Int32)) S hr hlocks hK hZ hM rfl dX10_isFree_26
    · have hf := it_p hf hc5
      refine lv_iconst (v := (1 : Int32)) hx hb dX10_isFree_21 (by decide) ?_
      refine lv_goto (tgt := 26) hx hb dX10_isFree_22 (by decide) ?_
      obtain rfl := Option.some.inj hf
      subst hQ
      exact ev_zret (v := (1 : Int32)) S hr hlocks hK hZ hM rfl dX10_isFree_26
noncomputable def fn_X10_paints (K N : Nat → Nat) (I : Nat → Nat → Int32) (P : Nat → Nat → Option Nat) (a0 : Nat) (x1 : Int32) (x2 : Int32) (x3 : Int32) : Option ((Nat → Nat → Int32)) := Option.bind (some (((20 : Int32) + ((192 : Int32) * x1)) + x2)) (fun v1 => Option.bind (some (((788 : Int32) + ((192 : Int32) * x1)) + x2)) (fun v2 => gd (K a0 = 11) (Option.bind (P a0 (0)) (fun q4 => gd (K q4 = 12 ∧ vp_in (4 : Int32) (N q4)) (if (I q4 (4)) = (-1 : Int32) then (gd (K q4 = 12 ∧ vp_in v2 (N q4)) (Option.bind (some (up2 I q4 (v2.toNatClampNeg) (((I q4 (v2.toNatClampNeg)) * ((255 : Int32) - x3)) / (255 : Int32)))) (fun I16 => if (I16 q4 (v2.toNatClampNeg)) = 0 then (gd (K q4 = 12 ∧ vp_in v1 (N q4)) (Option.bind (some (up2 I16 q4 (v1.toNatClampNeg) (0 : Int32))) (fun I19 => some I19))) else (some I16)))) else (if x3 = 0 then (some I) else (gd (K q4 = 12 ∧ vp_in v2 (N q4)) (Option.bind (if (I q4 (v2.toNatClampNeg)) = 0 then (some (I q4 (4))) else (gd (K q4 = 12 ∧ vp_in v1 (N q4)) (some ((I q4 (v1.toNatClampNeg)) + ((((I q4 (4)) - (I q4 (v1.toNatClampNeg))) * x3) / (255 : Int32)))))) (fun (j10 : Int32) => gd (K q4 = 12 ∧ vp_in v1 (N q4)) (Option.bind (some (up2 I q4 (v1.toNatClampNeg) j10)) (fun I12 => Option.bind (some (up2 I12 q4 (v2.toNatClampNeg) ((I12 q4 (v2.toNatClampNeg)) + ((((255 : Int32) - (I12 q4 (v2.toNatClampNeg))) * x3) / (255 : Int32))))) (fun I13 => some I13))))))))))))
abbrev wz_X10_paints : List Cond := Cond.code yX10_paints cX10_paints 6 none :: WA
abbrev rm_X10_paints : Room := { frames := 1, cells := 0, slots := 0, locals := 12 }
set_option maxHeartbeats 4000000 in
set_option maxRecDepth 100000 in
theorem c_X10_paints (I : Nat → Nat → Int32) (P : Nat → Nat → Option Nat) (a0 : Nat) (x1 : Int32) (x2 : Int32) (x3 : Int32) (res : (Nat → Nat → Int32)) (hf : fn_X10_paints K N I P a0 x1 x2 x3 = some res) : Met l yX10_paints wz_X10_paints rm_X10_paints (va_Pc [.ref a0, .int x1, .int x2, .int x3] (mm_B D cs A L K N z w I P)) (va_Qv (fun (_ : Unit) => True) (fun _ => mm_B D cs A L K N z w res P) A) 0 0 A := by
  refine Met.ofW (cc := cX10_paints) (maxL := 6) (ret := none) (by decide) rfl ?_
  intro p e s m args below meth c s₁ B hml hv
  obtain ⟨rfl, hBm⟩ := hv
  have hx := B.exec
  have hb := B.bytes
  have hr := B.returns
  have hts := atoms_spec (ws := wz_X10_paints) B.pre
  have hWA : ∀ w ∈ WA, w.before ([.ref a0, .int x1, .int x2, .int x3] : List Value).toArray s = true := fun u9 h9 => hts u9 (List.mem_cons_of_mem _ h9)
  have hown : s.vm.findClass RX10 = some m.cls := findClass_of_methodNamed B.named
  have hlocks := B.notSynchronized
  have S : CallFix p m c cX10_paints 6 s ([.ref a0, .int x1, .int x2, .int x3] : List Value).toArray wz_X10_paints RX10 := ⟨hx, hb, hml, hown, hts⟩
  have hK := hBm.2.2.2.1
  have hZ := hBm.2.2.2.2
  have hM : mm_W D cs A L K N s.heap I P s.heap [] := ⟨hBm.1, hBm.2.1, hBm.2.2.1, va_S.rf⟩
  have hl := lv_entry ([.ref a0, .int x1, .int x2, .int x3]) (n := 6) (Nat.le_of_ble_eq_true rfl)
  rw [lg_entry_eq]
  generalize (lg_sl ([.ref a0, .int x1, .int x2, .int x3]) ++ List.replicate (6 - (lg_sl ([.ref a0, .int x1, .int x2, .int x3])).length) Slot.unset).toArray = ls at hl ⊢
  have hl : lv_has ls 6 [(0, .ref a0), (1, .int x1), (2, .int x2), (3, .int x3)] := hl
  have hin10 : ∀ w ∈ wsX100, w ∈ wz_X10_paints := fun w h => List.mem_cons_of_mem _ (wu_X10 w h)
  have lk9 : (Cond.fieldLink RX10 9 RX10 "g" "[I").before ([.ref a0, .int x1, .int x2, .int x3] : List Value).toArray s = true := hWA _ wa_4_141
  generalize hQ : MQ below (va_Qv (fun (_ : Unit) => True) (fun _ => mm_B D cs A L K N z w res P) A) ([.ref a0, .int x1, .int x2, .int x3] : List Value).toArray s 0 0 A = QQ
  rw [fn_X10_paints] at hf
  refine lv_bipush (v := (20 : Int32)) hx hb dX10_paints_0 (by decide) ?_
  refine lv_sipush (v := (192 : Int32)) hx hb dX10_paints_2 (by decide) ?_
  refine lv_iload_n hx hb dX10_paints_5 rfl (lv_at hl 1 rfl) ?_
  refine lv_imul hx hb dX10_paints_6 ?_
  refine lv_iadd hx hb dX10_paints_7 ?_
  refine lv_iload_n hx hb dX10_paints_8 rfl (lv_at hl 2 rfl) ?_
  refine lv_iadd hx hb dX10_paints_9 ?_
  refine lv_topi (fun v1 ev1 => ?_)
  have hf := nm_x ev1 hf
  refine lv_istore (lv' := [(4, .int v1), (0, .ref a0), (1, .int x1), (2, .int x2), (3, .int x3)]) hx hb dX10_paints_10 hl (by decide) rfl (fun ls hl => ?_)
  refine lv_sipush (v := (788 : Int32)) hx hb dX10_paints_12 (by decide) ?_
  refine lv_sipush (v := (192 : Int32)) hx hb dX10_paints_15 (by decide) ?_
  refine lv_iload_n hx hb dX10_paints_18 rfl (lv_at hl 2 rfl) ?_
  refine lv_imul hx hb dX10_paints_19 ?_
  refine lv_iadd hx hb dX10_paints_20 ?_
  refine lv_iload_n hx hb dX10_paints_21 rfl (lv_at hl 3 rfl) ?_
  refine lv_iadd hx hb dX10_paints_22 ?_
  refine lv_topi (fun v2 ev2 => ?_)
  have hf := nm_x ev2 hf
  refine lv_istore (lv' := [(5, .int v2), (4, .int v1), (0, .ref a0), (1, .int x1), (2, .int x2), (3, .int x3)]) hx hb dX10_paints_23 hl (by decide) rfl (fun ls hl => ?_)
  refine lv_aload_n hx hb dX10_paints_25 rfl (lv_at hl 2 rfl) ?_
  refine gd_e hf (fun hg3 hf => ?_)
  refine bd_e hf (fun q4 eq4 hf => ?_)
  refine ev_getP (v := q4) S hK hM (ci := 10) (n := 23) (C := RX10) (T := TX10) hin10 rfl hg3 0 (by decide) lk9 rfl rfl eq4 rfl dX10_paints_26 ?_
  refine lv_iconst (v := (4 : Int32)) hx hb dX10_paints_29 (by decide) ?_
  refine gd_e hf (fun hg5 hf => ?_)
  refine ev_iald S hK hM hg5 (j := 4) rfl dX10_paints_30 ?_
  refine lv_iconst (v := (-1 : Int32)) hx hb dX10_paints_31 (by decide) ?_
  refine lv_icmp_ne (tgt := 80) hx hb dX10_paints_32 (by decide) (fun hc6 => ?_) (fun hc6 => ?_)
  · have hf := it_n hf hc6
    refine lv_iload_n hx hb dX10_paints_80 rfl (lv_at hl 5 rfl) ?_
    refine lv_if_eq (tgt := 165) hx hb dX10_paints_81 (by decide) (fun hc7 => ?_) (fun hc7 => ?_)
    · have hf := it_p hf hc7
      obtain rfl := Option.some.inj hf
      subst hQ
      exact ev_vret S hr hlocks hK hZ hM dX10_paints_165
    · have hf := it_n hf hc7
      refine lv_aload_n hx hb dX10_paints_84 rfl (lv_at hl 2 rfl) ?_
      refine ev_getP (v := q4) S hK hM (ci := 10) (n := 23) (C := RX10) (T := TX10) hin10 rfl hg3 0 (by decide) lk9 rfl rfl eq4 rfl dX10_paints_85 ?_
      refine lv_iload hx hb dX10_paints_88 (lv_at hl 1 rfl) ?_
      refine lv_aload_n hx hb dX10_paints_90 rfl (lv_at hl 2 rfl) ?_
      refine ev_getP (v := q4) S hK hM (ci := 10) (n := 23) (C := RX10) (T := TX10) hin10 rfl hg3 0 (by decide) lk9 rfl rfl eq4 rfl dX10_paints_91 ?_
      refine lv_iload hx hb dX10_paints_94 (lv_at hl 0 rfl) ?_
      refine gd_e hf (fun hg8 hf => ?_)
      refine ev_iald S hK hM hg8 (j := v2.toNatClampNeg) rfl dX10_paints_96 ?_
      refine bd_e hf (fun j10 ej10 hf => ?_)
      have kj10 : ∀ (H : Heap) (locs : List Loc) (ls : Array Slot), mm_W D cs A L K N s.heap I P H locs → lv_has ls 6 [(0, .ref a0), (3, .int x3), (5, .int v2)] → W p l e (headSpec wz_X10_paints rm_X10_paints).room s m ([.ref a0, .int x1, .int x2, .int x3] : List Value).toArray below meth c H locs 0 0 QQ (F0 m 137 ls [.int j10, .int v1, .ref q4]) := by
        intro H locs ls hM hl
        refine gd_e hf (fun hg11 hf => ?_)
        refine ev_iast S hK hM hg11 (j := v1.toNatClampNeg) rfl dX10_paints_137 (fun I12 eI12 H locs hM => ?_)
        have hf := nm_x eI12 hf
        refine lv_aload_n hx hb dX10_paints_138 rfl (lv_at hl 0 rfl) ?_
        refine ev_getP (v := q4) S hK hM (ci := 10) (n := 23) (C := RX10) (T := TX10) hin10 rfl hg3 0 (by decide) lk9 rfl rfl eq4 rfl dX10_paints_139 ?_
        refine lv_iload hx hb dX10_paints_142 (lv_at hl 2 rfl) ?_
        refine lv_dup2_11 hx hb dX10_paints_144 rfl rfl ?_
        refine ev_iald S hK hM hg8 (j := v2.toNatClampNeg) rfl dX10_paints_145 ?_
        refine lv_sipush (v := (255 : Int32)) hx hb dX10_paints_146 (by decide) ?_
        refine lv_aload_n hx hb dX10_paints_149 rfl (lv_at hl 0 rfl) ?_
        refine ev_getP (v := q4) S hK hM (ci := 10) (n := 23) (C := RX10) (T := TX10) hin10 rfl hg3 0 (by decide) lk9 rfl rfl eq4 rfl dX10_paints_150 ?_
        refine lv_iload hx hb dX10_paints_153 (lv_at hl 2 rfl) ?_
        refine ev_iald S hK hM hg8 (j := v2.toNatClampNeg) rfl dX10_paints_155 ?_
        refine lv_isub hx hb dX10_paints_156 ?_
        refine lv_iload_n hx hb dX10_paints_157 rfl (lv_at hl 1 rfl) ?_
        refine lv_imul hx hb dX10_paints_158 ?_
        refine lv_sipush (v := (255 : Int32)) hx hb dX10_paints_159 (by decide) ?_
        refine lv_idiv hx hb dX10_paints_162 (by decide) ?_
        refine lv_iadd hx hb dX10_paints_163 ?_
        refine ev_iast S hK hM hg8 (j := v2.toNatClampNeg) rfl dX10_paints_164 (fun I13 eI13 H locs hM => ?_)
        have hf := nm_x eI13 hf
        obtain rfl := Option.some.inj hf
        subst hQ
        exact ev_vret S hr hlocks hK hZ hM dX10_paints_165
      have hf := ej10
      refine lv_if_ne (tgt := 109) hx hb dX10_paints_97 (by decide) (fun hc9 => ?_) (fun hc9 => ?_)
      · have hf := it_n hf hc9
        refine lv_aload_n hx hb dX10_paints_109 rfl (lv_at hl 2 rfl) ?_
        refine ev_getP (v := q4) S hK hM (ci := 10) (n := 23) (C := RX10) (T := TX10) hin10 rfl hg3 0 (by decide) lk9 rfl rfl eq4 rfl dX10_paints_110 ?_
        refine lv_iload hx hb dX10_paints_113 (lv_at hl 1 rfl) ?_
        refine gd_e hf (fun hg14 hf => ?_)
        refine ev_iald S hK hM hg14 (j := v1.toNatClampNeg) rfl dX10_paints_115 ?_
        refine lv_aload_n hx hb dX10_paints_116 rfl (lv_at hl 2 rfl) ?_
        refine ev_getP (v := q4) S hK hM (ci := 10) (n := 23) (C := RX10) (T := TX10) hin10 rfl hg3 0 (by decide) lk9 rfl rfl eq4 rfl dX10_paints_117 ?_
        refine lv_iconst (v := (4 : Int32)) hx hb dX10_paints_120 (by decide) ?_
        refine ev_iald S hK hM hg5 (j := 4) rfl dX10_paints_121 ?_
        refine lv_aload_n hx hb dX10_paints_122 rfl (lv_at hl 2 rfl) ?_
        refine ev_getP (v := q4) S hK hM (ci := 10) (n := 23) (C := RX10) (T := TX10) hin10 rfl hg3 0 (by decide) lk9 rfl rfl eq4 rfl dX10_paints_123 ?_
        refine lv_iload hx hb dX10_paints_126 (lv_at hl 1 rfl) ?_
        refine ev_iald S hK hM hg14 (j := v1.toNatClampNeg) rfl dX10_paints_128 ?_
        refine lv_isub hx hb dX10_paints_129 ?_
        refine lv_iload_n hx hb dX10_paints_130 rfl (lv_at hl 5 rfl) ?_
        refine lv_imul hx hb dX10_paints_131 ?_
        refine lv_sipush (v := (255 : Int32)) hx hb dX10_paints_132 (by decide) ?_
        refine lv_idiv hx hb dX10_paints_135 (by decide) ?_
        refine lv_iadd hx hb dX10_paints_136 ?_
        obtain rfl := Option.some.inj hf
        exact kj10 _ _ _ hM (lv_sub hl [2, 5, 0] rfl)
      · have hf := it_p hf hc9
        refine lv_aload_n hx hb dX10_paints_100 rfl (lv_at hl 2 rfl) ?_
        refine ev_getP (v := q4) S hK hM (ci := 10) (n := 23) (C := RX10) (T := TX10) hin10 rfl hg3 0 (by decide) lk9 rfl rfl eq4 rfl dX10_paints_101 ?_
        refine lv_iconst (v := (4 : Int32)) hx hb dX10_paints_104 (by decide) ?_
        refine ev_iald S hK hM hg5 (j := 4) rfl dX10_paints_105 ?_
        refine lv_goto (tgt := 137) hx hb dX10_paints_106 (by decide) ?_
        obtain rfl := Option.some.inj hf
        exact kj10 _ _ _ hM (lv_sub hl [2, 5, 0] rfl)
  · have hf := it_p hf hc6
    refine lv_aload_n hx hb dX10_paints_35 rfl (lv_at hl 2 rfl) ?_
    refine ev_getP (v := q4) S hK hM (ci := 10) (n := 23) (C := RX10) (T := TX10) hin10 rfl hg3 0 (by decide) lk9 rfl rfl eq4 rfl dX10_paints_36 ?_
    refine lv_iload hx hb dX10_paints_39 (lv_at hl 0 rfl) ?_
    refine lv_aload_n hx hb dX10_paints_41 rfl (lv_at hl 2 rfl) ?_
    refine ev_getP (v := q4) S hK hM (ci := 10) (n := 23) (C := RX10) (T := TX10) hin10 rfl hg3 0 (by decide) lk9 rfl rfl eq4 rfl dX10_paints_42 ?_
    refine lv_iload hx hb dX10_paints_45 (lv_at hl 0 rfl) ?_
    refine gd_e hf (fun hg15 hf => ?_)
    refine ev_iald S hK hM hg15 (j := v2.toNatClampNeg) rfl dX10_paints_47 ?_
    refine lv_sipush (v := (255 : Int32)) hx hb dX10_paints_48 (by decide) ?_
    refine lv_iload_n hx hb dX10_paints_51 rfl (lv_at hl 5 rfl) ?_
    refine lv_isub hx hb dX10_paints_52 ?_
    refine lv_imul hx hb dX10_paints_53 ?_
    refine lv_sipush (v := (255 : Int32)) hx hb dX10_paints_54 (by decide) ?_
    refine lv_idiv hx hb dX10_paints_57 (by decide) ?_
    refine ev_iast S hK hM hg15 (j := v2.toNatClampNeg) rfl dX10_paints_58 (fun I16 eI16 H locs hM => ?_)
    have hf := nm_x eI16 hf
    refine lv_aload_n hx hb dX10_paints_59 rfl (lv_at hl 2 rfl) ?_
    refine ev_getP (v := q4) S hK hM (ci := 10) (n := 23) (C := RX10) (T := TX10) hin10 rfl hg3 0 (by decide) lk9 rfl rfl eq4 rfl dX10_paints_60 ?_
    refine lv_iload hx hb dX10_paints_63 (lv_at hl 0 rfl) ?_
    refine ev_iald S hK hM hg15 (j := v2.toNatClampNeg) rfl dX10_paints_65 ?_
    refine lv_if_ne (tgt := 165) hx hb dX10_paints_66 (by decide) (fun hc17 => ?_) (fun hc17 => ?_)
    · have hf := it_n hf hc17
      obtain rfl := Option.some.inj hf
      subst hQ
      exact ev_vret S hr hlocks hK hZ hM dX10_paints_165
    · have hf := it_p hf hc17
      refine lv_aload_n hx hb dX10_paints_69 rfl (lv_at hl 2 rfl) ?_
      refine ev_getP (v := q4) S hK hM (ci := 10) (n := 23) (C := RX10) (T := TX10) hin10 rfl hg3 0 (by decide) lk9 rfl rfl eq4 rfl dX10_paints_70 ?_
      refine lv_iload hx hb dX10_paints_73 (lv_at hl 1 rfl) ?_
      refine lv_iconst (v := (0 : Int32)) hx hb dX10_paints_75 (by decide) ?_
      refine gd_e hf (fun hg18 hf => ?_)
      refine ev_iast S hK hM hg18 (j := v1.toNatClampNeg) rfl dX10_paints_76 (fun I19 eI19 H locs hM => ?_)
      have hf := nm_x eI19 hf
      refine lv_goto (tgt := 165) hx hb dX10_paints_77 (by decide) ?_
      obtain rfl := Option.some.inj hf
      subst hQ
      exact ev_vret S hr hlocks hK hZ hM dX10_paints_165
noncomputable def fn_X10_stamps_L3 (K : Nat → Nat) (N : Nat → Nat) (a0 : Nat) (x1 : Int32) (x2 : Int32) (x3 : Int32) (P : Nat → Nat → Option Nat) : Nat → Int32 → (Nat → Nat → Int32) → Option ((Nat → Nat → Int32))
  | 0, _, _ => none
  | n + 1, v1, I2 => if (192 : Int32) ≤ v1 then (some I2) else (Option.bind (fn_X10_isFree K N I2 P a0 v1) (fun (r5 : Int32) => gd (K a0 = 11) (if r5 = 0 then (fn_X10_stamps_L3 K N a0 x1 x2 x3 P n (v1 + (1 : Int32)) I2) else (Option.bind (fn_X10_touched K N I2 P a0 ((v1 - v1 / (16 : Int32) * (16 : Int32)) - x2) ((v1 / (16 : Int32)) - x3)) (fun (r8 : Int32) => Option.bind (fn_X10_paints K N I2 P a0 x1 v1 r8) (fun (r9 : (Nat → Nat → Int32)) => fn_X10_stamps_L3 K N a0 x1 x2 x3 P n (v1 + (1 : Int32)) r9))))))
noncomputable def fn_X10_stamps (K N : Nat → Nat) (I : Nat → Nat → Int32) (P : Nat → Nat → Option Nat) (a0 : Nat) (x1 : Int32) (x2 : Int32) (x3 : Int32) : Option ((Nat → Nat → Int32)) := Option.bind (fn_X10_stamps_L3 K N a0 x1 x2 x3 P FU (0 : Int32) I) (fun (r3 : (Nat → Nat → Int32)) => some r3)
abbrev wz_X10_stamps : List Cond := Cond.code yX10_stamps cX10_stamps 5 none :: WA
abbrev rm_X10_stamps : Room := { frames := 3, cells := 0, slots := 0, locals := 57 }
set_option maxHeartbeats 4000000 in
set_option maxRecDepth 100000 in
theorem c_X10_stamps (I : Nat → Nat → Int32) (P : Nat → Nat → Option Nat) (a0 : Nat) (x1 : Int32) (x2 : Int32) (x3 : Int32) (res : (Nat → Nat → Int32)) (hf : fn_X10_stamps K N I P a0 x1 x2 x3 = some res) : Met l yX10_stamps wz_X10_stamps rm_X10_stamps (va_Pc [.ref a0, .int x1, .int x2, .int x3] (mm_B D cs A L K N z w I P)) (va_Qv (fun (_ : Unit) => True) (fun _ => mm_B D cs A L K N z w res P) A) 0 0 A := by
  refine Met.ofW (cc := cX10_stamps) (maxL := 5) (ret := none) (by decide) rfl ?_
  intro p e s m args below meth c s₁ B hml hv
  obtain ⟨rfl, hBm⟩ := hv
  have hx := B.exec
  have hb := B.bytes
  have hr := B.returns
  have hts := atoms_spec (ws := wz_X10_stamps) B.pre
  have hWA : ∀ w ∈ WA, w.before ([.ref a0, .int x1, .int x2, .int x3] : List Value).toArray s = true := fun u9 h9 => hts u9 (List.mem_cons_of_mem _ h9)
  have hown : s.vm.findClass RX10 = some m.cls := findClass_of_methodNamed B.named
  have hlocks := B.notSynchronized
  have S : CallFix p m c cX10_stamps 5 s ([.ref a0, .int x1, .int x2, .int x3] : List Value).toArray wz_X10_stamps RX10 := ⟨hx, hb, hml, hown, hts⟩
  have hK := hBm.2.2.2.1
  have hZ := hBm.2.2.2.2
  have hM : mm_W D cs A L K N s.heap I P s.heap [] := ⟨hBm.1, hBm.2.1, hBm.2.2.1, va_S.rf⟩
  have hl := lv_entry ([.ref a0, .int x1, .int x2, .int x3]) (n := 5) (Nat.le_of_ble_eq_true rfl)
  rw [lg_entry_eq]
  generalize (lg_sl ([.ref a0, .int x1, .int x2, .int x3]) ++ List.replicate (5 - (lg_sl ([.ref a0, .int x1, .int x2, .int x3])).length) Slot.unset).toArray = ls at hl ⊢
  have hl : lv_has ls 5 [(0, .ref a0), (1, .int x1), (2, .int x2), (3, .int x3)] := hl
  generalize hQ : MQ below (va_Qv (fun (_ : Unit) => True) (fun _ => mm_B D cs A L K N z w res P) A) ([.ref a0, .int x1, .int x2, .int x3] : List Value).toArray s 0 0 A = QQ
  rw [fn_X10_stamps] at hf
  refine lv_iconst (v := (0 : Int32)) hx hb dX10_stamps_0 (by decide) ?_
  refine lv_istore (lv' := [(4, .int (0 : Int32)), (0, .ref a0), (1, .int x1), (2, .int x2), (3, .int x3)]) hx hb dX10_stamps_1 hl (by decide) rfl (fun ls hl => ?_)
  have lp3_9 : ∀ (n : Nat) (v1 : Int32) (I2 : Nat → Nat → Int32) (H : Heap) (locs : List Loc) (ls : Array Slot) (r3 : (Nat → Nat → Int32)), mm_W D cs A L K N s.heap I2 P H locs → lv_has ls 5 [(0, .ref a0), (1, .int x1), (2, .int x2), (3, .int x3), (4, .int v1)] → fn_X10_stamps_L3 K N a0 x1 x2 x3 P n v1 I2 = some r3 → (∀ (H : Heap) (locs : List Loc) (ls : Array Slot), mm_W D cs A L K N s.heap r3 P H locs → lv_has ls 5 [] → W p l e (headSpec wz_X10_stamps rm_X10_stamps).room s m ([.ref a0, .int x1, .int x2, .int x3] : List Value).toArray below meth c H locs 0 0 QQ (F0 m 51 ls [])) → W p l e (headSpec wz_X10_stamps rm_X10_stamps).room s m ([.ref a0, .int x1, .int x2, .int x3] : List Value).toArray below meth c H locs 0 0 QQ (F0 m 3 ls []) := by
    intro n
    induction n with
    | zero => intro v1 I2 H locs ls r3 hM hl hf kk; exact nn_x (show (none : Option ((Nat → Nat → Int32))) = some r3 from hf)
    | succ n ih =>
      intro v1 I2 H locs ls r3 hM hl hf kk
      rw [fn_X10_stamps_L3] at hf
      refine lv_iload hx hb dX10_stamps_3 (lv_at hl 4 rfl) ?_
      refine lv_sipush (v := (192 : Int32)) hx hb dX10_stamps_5 (by decide) ?_
      refine lv_icmp_ge (tgt := 51) hx hb dX10_stamps_8 (by decide) (fun hc4 => ?_) (fun hc4 => ?_)
      · have hf := it_p hf hc4
        obtain rfl := Option.some.inj hf
        exact kk _ _ _ hM (lv_sub hl [] rfl)
      · have hf := it_n hf hc4
        refine lv_aload_n hx hb dX10_stamps_11 rfl (lv_at hl 0 rfl) ?_
        refine lv_iload hx hb dX10_stamps_12 (lv_at hl 4 rfl) ?_
        refine bd_e hf (fun r5 er5 hf => ?_)
        refine gd_e hf (fun hg6 hf => ?_)
        refine ev_calli (va_runV (As := [.int v1]) (rest := []) S (c_X10_isFree (l := l) I2 P a0 v1 r5 er5) (cwV 1 hts (gi_v wa_5_115 wa_5_117 wa_s_43 wa_1_11 wa_5_118) rfl rfl rfl (by decide +kernel) ⟨Nat.le_of_ble_eq_true rfl, Nat.le_of_ble_eq_true rfl⟩) ⟨mm_B_blind, ev_recv hK hM (ci := 10) rfl hg6 rfl, fun U hU hW => ⟨rfl, mm_B_of hK hZ hM hU hW⟩⟩ rfl rfl hl.1 rfl (lv_room (Nat.le_of_ble_eq_true rfl)) dX10_stamps_14 ⟨Nat.zero_le _, Nat.zero_le _⟩) hM (fun H locs hM => ?_)
        refine lv_if_eq (tgt := 45) hx hb dX10_stamps_17 (by decide) (fun hc7 => ?_) (fun hc7 => ?_)
        · have hf := it_p hf hc7
          refine lv_iinc (v := (v1 + (1 : Int32))) (lv' := [(4, .int (v1 + (1 : Int32))), (0, .ref a0), (1, .int x1), (2, .int x2), (3, .int x3)]) hx hb dX10_stamps_45 hl (k := 4) rfl rfl (by decide) rfl (fun ls hl => ?_)
          refine lv_goto (tgt := 3) hx hb dX10_stamps_48 (by decide) ?_
          exact ih (v1 + (1 : Int32)) I2 _ _ _ _ hM (lv_sub hl [1, 2, 3, 4, 0] rfl) hf kk
        · have hf := it_n hf hc7
          refine lv_aload_n hx hb dX10_stamps_20 rfl (lv_at hl 0 rfl) ?_
          refine lv_iload_n hx hb dX10_stamps_21 rfl (lv_at hl 1 rfl) ?_
          refine lv_iload hx hb dX10_stamps_22 (lv_at hl 4 rfl) ?_
          refine lv_aload_n hx hb dX10_stamps_24 rfl (lv_at hl 0 rfl) ?_
          refine lv_iload hx hb dX10_stamps_25 (lv_at hl 4 rfl) ?_
          refine lv_bipush (v := (16 : Int32)) hx hb dX10_stamps_27 (by decide) ?_
          refine lv_irem hx hb dX10_stamps_29 (by decide) ?_
          refine lv_iload_n hx hb dX10_stamps_30 rfl (lv_at hl 2 rfl) ?_
          refine lv_isub hx hb dX10_stamps_31 ?_
          refine lv_iload hx hb dX10_stamps_32 (lv_at hl 4 rfl) ?_
          refine lv_bipush (v := (16 : Int32)) hx hb dX10_stamps_34 (by decide) ?_
          refine lv_idiv hx hb dX10_stamps_36 (by decide) ?_
          refine lv_iload_n hx hb dX10_stamps_37 rfl (lv_at hl 3 rfl) ?_
          refine lv_isub hx hb dX10_stamps_38 ?_
          refine bd_e hf (fun r8 er8 hf => ?_)
          refine ev_calli (va_runV (As := [.int ((v1 - v1 / (16 : Int32) * (16 : Int32)) - x2), .int ((v1 / (16 : Int32)) - x3)]) (rest := [.int v1, .int x1, .ref a0]) S (c_X10_touched (l := l) I2 P a0 ((v1 - v1 / (16 : Int32) * (16 : Int32)) - x2) ((v1 / (16 : Int32)) - x3) r8 er8) (cwV 2 hts (gi_v wa_5_62 wa_5_64 wa_s_34 wa_1_11 wa_5_65) rfl rfl rfl (by decide +kernel) ⟨Nat.le_of_ble_eq_true rfl, Nat.le_of_ble_eq_true rfl⟩) ⟨mm_B_blind, ev_recv hK hM (ci := 10) rfl hg6 rfl, fun U hU hW => ⟨rfl, mm_B_of hK hZ hM hU hW⟩⟩ rfl rfl hl.1 rfl (lv_room (Nat.le_of_ble_eq_true rfl)) dX10_stamps_39 ⟨Nat.zero_le _, Nat.zero_le _⟩) hM (fun H locs hM => ?_)
          refine bd_e hf (fun r9 er9 hf => ?_)
          refine ev_callv (va_runV (As := [.int x1, .int v1, .int r8]) (rest := []) S (c_X10_paints (l := l) I2 P a0 x1 v1 r8 r9 er9) (cwV 3 hts (gi_v wa_5_119 wa_5_121 wa_s_44 wa_1_11 wa_5_122) rfl rfl rfl (by decide +kernel) ⟨Nat.le_of_ble_eq_true rfl, Nat.le_of_ble_eq_true rfl⟩) ⟨mm_B_blind, ev_recv hK hM (ci := 10) rfl hg6 rfl, fun U hU hW => ⟨rfl, mm_B_of hK hZ hM hU hW⟩⟩ rfl rfl hl.1 rfl (lv_room (Nat.le_of_ble_eq_true rfl)) dX10_stamps_42 ⟨Nat.zero_le _, Nat.zero_le _⟩) hM (fun H locs hM => ?_)
          refine lv_iinc (v := (v1 + (1 : Int32))) (lv' := [(4, .int (v1 + (1 : Int32))), (0, .ref a0), (1, .int x1), (2, .int x2), (3, .int x3)]) hx hb dX10_stamps_45 hl (k := 4) rfl rfl (by decide) rfl (fun ls hl => ?_)
          refine lv_goto (tgt := 3) hx hb dX10_stamps_48 (by decide) ?_
          exact ih (v1 + (1 : Int32)) r9 _ _ _ _ hM (lv_sub hl [1, 2, 3, 4, 0] rfl) hf kk
  refine bd_e hf (fun r3 er3 hf => ?_)
  refine lp3_9 FU (0 : Int32) I _ _ _ r3 hM (lv_sub hl [1, 2, 3, 4, 0] rfl) er3 (fun H locs ls hM hl => ?_)
  obtain rfl := Option.some.inj hf
  subst hQ
  exact ev_vret S hr hlocks hK hZ hM dX10_stamps_51
noncomputable def fn_X10_feed_L79 (K : Nat → Nat) (N : Nat → Nat) (a0 : Nat) (x1 : Int32) (x2 : Int32) (x3 : Int32) (x4 : Int32) (x5 : Int32) (x6 : Int32) (P : Nat → Nat → Option Nat) : Nat → Int32 → (Nat → Nat → Int32) → Option ((Nat → Nat → Int32))
  | 0, _, _ => none
  | n + 1, v9, I10 => if x1 ≤ v9 then (some I10) else (Option.bind (P a0 (4)) (fun q13 => if v9 = 0 then (gd (K q13 = 12 ∧ vp_in ((I10 a0 5) + v9) (N q13)) (Option.bind (some (up2 I10 q13 (((I10 a0 5) + v9)).toNatClampNeg x2)) (fun I27 => fn_X10_feed_L79 K N a0 x1 x2 x3 x4 x5 x6 P n (v9 + (1 : Int32)) I27))) else (if v9 = (1 : Int32) then (gd (K q13 = 12 ∧ vp_in ((I10 a0 5) + v9) (N q13)) (Option.bind (some (up2 I10 q13 (((I10 a0 5) + v9)).toNatClampNeg x3)) (fun I25 => fn_X10_feed_L79 K N a0 x1 x2 x3 x4 x5 x6 P n (v9 + (1 : Int32)) I25))) else (if v9 = (2 : Int32) then (gd (K q13 = 12 ∧ vp_in ((I10 a0 5) + v9) (N q13)) (Option.bind (some (up2 I10 q13 (((I10 a0 5) + v9)).toNatClampNeg x4)) (fun I23 => fn_X10_feed_L79 K N a0 x1 x2 x3 x4 x5 x6 P n (v9 + (1 : Int32)) I23))) else (if v9 = (3 : Int32) then (gd (K q13 = 12 ∧ vp_in ((I10 a0 5) + v9) (N q13)) (Option.bind (some (up2 I10 q13 (((I10 a0 5) + v9)).toNatClampNeg x5)) (fun I21 => fn_X10_feed_L79 K N a0 x1 x2 x3 x4 x5 x6 P n (v9 + (1 : Int32)) I21))) else (gd (K q13 = 12 ∧ vp_in ((I10 a0 5) + v9) (N q13)) (Option.bind (some (up2 I10 q13 (((I10 a0 5) + v9)).toNatClampNeg x6)) (fun I19 => fn_X10_feed_L79 K N a0 x1 x2 x3 x4 x5 x6 P n (v9 + (1 : Int32)) I19))))))))
noncomputable def fn_X10_feed (K N : Nat → Nat) (I : Nat → Nat → Int32) (P : Nat → Nat → Option Nat) (a0 : Nat) (x1 : Int32) (x2 : Int32) (x3 : Int32) (x4 : Int32) (x5 : Int32) (x6 : Int32) : Option (Int32 × (Nat → Nat → Int32)) := Option.bind (fn_X10_isByte x2) (fun (r1 : Int32) => Option.bind (if r1 = 0 then (some (0 : Int32)) else (Option.bind (fn_X10_isByte x3) (fun (r29 : Int32) => if r29 = 0 then (some (0 : Int32)) else (Option.bind (fn_X10_isByte x4) (fun (r31 : Int32) => if r31 = 0 then (some (0 : Int32)) else (Option.bind (fn_X10_isByte x5) (fun (r33 : Int32) => if r33 = 0 then (some (0 : Int32)) else (Option.bind (fn_X10_isByte x6) (fun (r35 : Int32) => if r35 = 0 then (some (0 : Int32)) else (some (1 : Int32))))))))))) (fun (j3 : Int32) => Option.bind (fn_X10_isIn x1 (1 : Int32) (5 : Int32)) (fun (r4 : Int32) => if r4 = 0 then (some ((-2 : Int32), I)) else (if j3 = 0 then (some ((-2 : Int32), I)) else (gd (K a0 = 11) (if ((I a0 5) + x1) ≤ (60 : Int32) then (Option.bind (fn_X10_feed_L79 K N a0 x1 x2 x3 x4 x5 x6 P FU (0 : Int32) I) (fun (r11 : (Nat → Nat → Int32)) => Option.bind (some (up2 r11 a0 5 ((r11 a0 5) + x1))) (fun I28 => some ((I28 a0 5), I28)))) else (some ((-4 : Int32), I))))))))
abbrev wz_X10_feed : List Cond := Cond.code yX10_feed cX10_feed 9 (some .int) :: WA
abbrev rm_X10_feed : Room := { frames := 3, cells := 0, slots := 0, locals := 54 }
set_option maxHeartbeats 4000000 in
set_option maxRecDepth 100000 in
theorem c_X10_feed (I : Nat → Nat → Int32) (P : Nat → Nat → Option Nat) (a0 : Nat) (x1 : Int32) (x2 : Int32) (x3 : Int32) (x4 : Int32) (x5 : Int32) (x6 : Int32) (res : Int32 × (Nat → Nat → Int32)) (hf : fn_X10_feed K N I P a0 x1 x2 x3 x4 x5 x6 = some res) : Met l yX10_feed wz_X10_feed rm_X10_feed (va_Pc [.ref a0, .int x1, .int x2, .int x3, .int x4, .int x5, .int x6] (mm_B D cs A L K N z w I P)) (va_Qi (fun r (_ : Unit) => r = res.1) (fun _ => mm_B D cs A L K N z w res.2 P) A) 0 0 A := by
  refine Met.ofW (cc := cX10_feed) (maxL := 9) (ret := (some .int)) (by decide) rfl ?_
  intro p e s m args below meth c s₁ B hml hv
  obtain ⟨rfl, hBm⟩ := hv
  have hx := B.exec
  have hb := B.bytes
  have hr := B.returns
  have hts := atoms_spec (ws := wz_X10_feed) B.pre
  have hWA : ∀ w ∈ WA, w.before ([.ref a0, .int x1, .int x2, .int x3, .int x4, .int x5, .int x6] : List Value).toArray s = true := fun u9 h9 => hts u9 (List.mem_cons_of_mem _ h9)
  have hown : s.vm.findClass RX10 = some m.cls := findClass_of_methodNamed B.named
  have hlocks := B.notSynchronized
  have S : CallFix p m c cX10_feed 9 s ([.ref a0, .int x1, .int x2, .int x3, .int x4, .int x5, .int x6] : List Value).toArray wz_X10_feed RX10 := ⟨hx, hb, hml, hown, hts⟩
  have hK := hBm.2.2.2.1
  have hZ := hBm.2.2.2.2
  have hM : mm_W D cs A L K N s.heap I P s.heap [] := ⟨hBm.1, hBm.2.1, hBm.2.2.1, va_S.rf⟩
  have hl := lv_entry ([.ref a0, .int x1, .int x2, .int x3, .int x4, .int x5, .int x6]) (n := 9) (Nat.le_of_ble_eq_true rfl)
  rw [lg_entry_eq]
  generalize (lg_sl ([.ref a0, .int x1, .int x2, .int x3, .int x4, .int x5, .int x6]) ++ List.replicate (9 - (lg_sl ([.ref a0, .int x1, .int x2, .int x3, .int x4, .int x5, .int x6])).length) Slot.unset).toArray = ls at hl ⊢
  have hl : lv_has ls 9 [(0, .ref a0), (1, .int x1), (2, .int x2), (3, .int x3), (4, .int x4), (5, .int x5), (6, .int x6)] := hl
  have hin10 : ∀ w ∈ wsX100, w ∈ wz_X10_feed := fun w h => List.mem_cons_of_mem _ (wu_X10 w h)
  have lk124 : (Cond.fieldLink RX10 124 RX10 "fed" "I").before ([.ref a0, .int x1, .int x2, .int x3, .int x4, .int x5, .int x6] : List Value).toArray s = true := hWA _ wa_4_146
  have lk16 : (Cond.fieldLink RX10 16 RX10 "tape" "[I").before ([.ref a0, .int x1, .int x2, .int x3, .int x4, .int x5, .int x6] : List Value).toArray s = true := hWA _ wa_4_145
  generalize hQ : MQ below (va_Qi (fun r (_ : Unit) => r = res.1) (fun _ => mm_B D cs A L K N z w res.2 P) A) ([.ref a0, .int x1, .int x2, .int x3, .int x4, .int x5, .int x6] : List Value).toArray s 0 0 A = QQ
  rw [fn_X10_feed] at hf
  refine lv_iload_n hx hb dX10_feed_0 rfl (lv_at hl 2 rfl) ?_
  refine bd_e hf (fun r1 er1 hf => ?_)
  refine ev_calli (va_runS (As := [.int x2]) (rest := []) S (c_X10_isByte (l := l) I P x2 r1 er1) (va_cwS 1 hts (gi_s wa_4_221 wa_4_222 wa_1_11 wa_4_223) rfl rfl rfl (by decide +kernel) ⟨Nat.le_of_ble_eq_true rfl, Nat.le_of_ble_eq_true rfl⟩) ⟨mm_B_blind, fun U hU hW => ⟨rfl, mm_B_of hK hZ hM hU hW⟩⟩ rfl rfl hl.1 rfl (lv_room (Nat.le_of_ble_eq_true rfl)) dX10_feed_1 ⟨Nat.zero_le _, Nat.zero_le _⟩) hM (fun H locs hM => ?_)
  refine bd_e hf (fun j3 ej3 hf => ?_)
  have kj3 : ∀ (H : Heap) (locs : List Loc) (ls : Array Slot), mm_W D cs A L K N s.heap I P H locs → lv_has ls 9 [(0, .ref a0), (1, .int x1), (2, .int x2), (3, .int x3), (4, .int x4), (5, .int x5), (6, .int x6)] → W p l e (headSpec wz_X10_feed rm_X10_feed).room s m ([.ref a0, .int x1, .int x2, .int x3, .int x4, .int x5, .int x6] : List Value).toArray below meth c H locs 0 0 QQ (F0 m 43 ls [.int j3]) := by
    intro H locs ls hM hl
    refine lv_istore (lv' := [(7, .int j3), (0, .ref a0), (1, .int x1), (2, .int x2), (3, .int x3), (4, .int x4), (5, .int x5), (6, .int x6)]) hx hb dX10_feed_43 hl (by decide) rfl (fun ls hl => ?_)
    refine lv_iload_n hx hb dX10_feed_45 rfl (lv_at hl 2 rfl) ?_
    refine lv_iconst (v := (1 : Int32)) hx hb dX10_feed_46 (by decide) ?_
    refine lv_iconst (v := (5 : Int32)) hx hb dX10_feed_47 (by decide) ?_
    refine bd_e hf (fun r4 er4 hf => ?_)
    refine ev_calli (va_runS (As := [.int x1, .int (1 : Int32), .int (5 : Int32)]) (rest := []) S (c_X10_isIn (l := l) I P x1 (1 : Int32) (5 : Int32) r4 er4) (va_cwS 3 hts (gi_s wa_4_218 wa_4_219 wa_1_11 wa_4_220) rfl rfl rfl (by decide +kernel) ⟨Nat.le_of_ble_eq_true rfl, Nat.le_of_ble_eq_true rfl⟩) ⟨mm_B_blind, fun U hU hW => ⟨rfl, mm_B_of hK hZ hM hU hW⟩⟩ rfl rfl hl.1 rfl (lv_room (Nat.le_of_ble_eq_true rfl)) dX10_feed_48 ⟨Nat.zero_le _, Nat.zero_le _⟩) hM (fun H locs hM => ?_)
    refine lv_if_eq (tgt := 59) hx hb dX10_feed_51 (by decide) (fun hc5 => ?_) (fun hc5 => ?_)
    · have hf := it_p hf hc5
      refine lv_bipush (v := (-2 : Int32)) hx hb dX10_feed_59 (by decide) ?_
      obtain rfl := Option.some.inj hf
      subst hQ
      exact ev_iret S hr hlocks hK hZ hM dX10_feed_61
    · have hf := it_n hf hc5
      refine lv_iload hx hb dX10_feed_54 (lv_at hl 0 rfl) ?_
      refine lv_if_ne (tgt := 62) hx hb dX10_feed_56 (by decide) (fun hc6 => ?_) (fun hc6 => ?_)
      · have hf := it_n hf hc6
        refine lv_aload_n hx hb dX10_feed_62 rfl (lv_at hl 1 rfl) ?_
        refine gd_e hf (fun hg7 hf => ?_)
        refine ev_get (v := .int (I a0 5)) S hK hM (ci := 10) (n := 23) (C := RX10) (T := TX10) hin10 rfl hg7 5 (by decide) lk124 rfl rfl rfl dX10_feed_63 ?_
        refine lv_iload_n hx hb dX10_feed_66 rfl (lv_at hl 2 rfl) ?_
        refine lv_iadd hx hb dX10_feed_67 ?_
        refine lv_bipush (v := (60 : Int32)) hx hb dX10_feed_68 (by decide) ?_
        refine lv_icmp_le (tgt := 76) hx hb dX10_feed_70 (by decide) (fun hc8 => ?_) (fun hc8 => ?_)
        · have hf := it_p hf hc8
          refine lv_iconst (v := (0 : Int32)) hx hb dX10_feed_76 (by decide) ?_
          refine lv_istore (lv' := [(8, .int (0 : Int32)), (7, .int j3), (0, .ref a0), (1, .int x1), (2, .int x2), (3, .int x3), (4, .int x4), (5, .int x5), (6, .int x6)]) hx hb dX10_feed_77 hl (by decide) rfl (fun ls hl => ?_)
          have lp79_27 : ∀ (n : Nat) (v9 : Int32) (I10 : Nat → Nat → Int32) (H : Heap) (locs : List Loc) (ls : Array Slot) (r11 : (Nat → Nat → Int32)), mm_W D cs A L K N s.heap I10 P H locs → lv_has ls 9 [(0, .ref a0), (1, .int x1), (2, .int x2), (3, .int x3), (4, .int x4), (5, .int x5), (6, .int x6), (8, .int v9)] → fn_X10_feed_L79 K N a0 x1 x2 x3 x4 x5 x6 P n v9 I10 = some r11 → (∀ (H : Heap) (locs : List Loc) (ls : Array Slot), mm_W D cs A L K N s.heap r11 P H locs → lv_has ls 9 [(0, .ref a0), (1, .int x1)] → W p l e (headSpec wz_X10_feed rm_X10_feed).room s m ([.ref a0, .int x1, .int x2, .int x3, .int x4, .int x5, .int x6] : List Value).toArray below meth c H locs 0 0 QQ (F0 m 146 ls [])) → W p l e (headSpec wz_X10_feed rm_X10_feed).room s m ([.ref a0, .int x1, .int x2, .int x3, .int x4, .int x5, .int x6] : List Value).toArray below meth c H locs 0 0 QQ (F0 m 79 ls []) := by
            intro n
            induction n with
            | zero => intro v9 I10 H locs ls r11 hM hl hf kk; exact nn_x (show (none : Option ((Nat → Nat → Int32))) = some r11 from hf)
            | succ n ih =>
              intro v9 I10 H locs ls r11 hM hl hf kk
              rw [fn_X10_feed_L79] at hf
              refine lv_iload hx hb dX10_feed_79 (lv_at hl 7 rfl) ?_
              refine lv_iload_n hx hb dX10_feed_81 rfl (lv_at hl 1 rfl) ?_
              refine lv_icmp_ge (tgt := 146) hx hb dX10_feed_82 (by decide) (fun hc12 => ?_) (fun hc12 => ?_)
              · have hf := it_p hf hc12
                obtain rfl := Option.some.inj hf
                exact kk _ _ _ hM (lv_sub hl [0, 1] rfl)
              · have hf := it_n hf hc12
                refine lv_aload_n hx hb dX10_feed_85 rfl (lv_at hl 0 rfl) ?_
                refine bd_e hf (fun q13 eq13 hf => ?_)
                refine ev_getP (v := q13) S hK hM (ci := 10) (n := 23) (C := RX10) (T := TX10) hin10 rfl hg7 4 (by decide) lk16 rfl rfl eq13 rfl dX10_feed_86 ?_
                refine lv_aload_n hx hb dX10_feed_89 rfl (lv_at hl 0 rfl) ?_
                refine ev_get (v := .int (I10 a0 5)) S hK hM (ci := 10) (n := 23) (C := RX10) (T := TX10) hin10 rfl hg7 5 (by decide) lk124 rfl rfl rfl dX10_feed_90 ?_
                refine lv_iload hx hb dX10_feed_93 (lv_at hl 7 rfl) ?_
                refine lv_iadd hx hb dX10_feed_95 ?_
                refine lv_iload hx hb dX10_feed_96 (lv_at hl 7 rfl) ?_
                refine lv_if_ne (tgt := 105) hx hb dX10_feed_98 (by decide) (fun hc14 => ?_) (fun hc14 => ?_)
                · have hf := it_n hf hc14
                  refine lv_iload hx hb dX10_feed_105 (lv_at hl 7 rfl) ?_
                  refine lv_iconst (v := (1 : Int32)) hx hb dX10_feed_107 (by decide) ?_
                  refine lv_icmp_ne (tgt := 115) hx hb dX10_feed_108 (by decide) (fun hc15 => ?_) (fun hc15 => ?_)
                  · have hf := it_n hf hc15
                    refine lv_iload hx hb dX10_feed_115 (lv_at hl 7 rfl) ?_
                    refine lv_iconst (v := (2 : Int32)) hx hb dX10_feed_117 (by decide) ?_
                    refine lv_icmp_ne (tgt := 126) hx hb dX10_feed_118 (by decide) (fun hc16 => ?_) (fun hc16 => ?_)
                    · have hf := it_n hf hc16
                      refine lv_iload hx hb dX10_feed_126 (lv_at hl 7 rfl) ?_
                      refine lv_iconst (v := (3 : Int32)) hx hb dX10_feed_128 (by decide) ?_
                      refine lv_icmp_ne (tgt := 137) hx hb dX10_feed_129 (by decide) (fun hc17 => ?_) (fun hc17 => ?_)
                      · have hf := it_n hf hc17
                        refine lv_iload hx hb dX10_feed_137 (lv_at hl 6 rfl) ?_
                        refine gd_e hf (fun hg18 hf => ?_)
                        refine ev_iast S hK hM hg18 (j := (((I10 a0 5) + v9)).toNatClampNeg) rfl dX10_feed_139 (fun I19 eI19 H locs hM => ?_)
                        have hf := nm_x eI19 hf
                        refine lv_iinc (v := (v9 + (1 : Int32))) (lv' := [(8, .int (v9 + (1 : Int32))), (0, .ref a0), (1, .int x1), (2, .int x2), (3, .int x3), (4, .int x4), (5, .int x5), (6, .int x6)]) hx hb dX10_feed_140 hl (k := 7) rfl rfl (by decide) rfl (fun ls hl => ?_)
                        refine lv_goto (tgt := 79) hx hb dX10_feed_143 (by decide) ?_
                        exact ih (v9 + (1 : Int32)) I19 _ _ _ _ hM (lv_sub hl [1, 2, 3, 4, 5, 6, 7, 0] rfl) hf kk
                      · have hf := it_p hf hc17
                        refine lv_iload hx hb dX10_feed_132 (lv_at hl 5 rfl) ?_
                        refine lv_goto (tgt := 139) hx hb dX10_feed_134 (by decide) ?_
                        refine gd_e hf (fun hg20 hf => ?_)
                        refine ev_iast S hK hM hg20 (j := (((I10 a0 5) + v9)).toNatClampNeg) rfl dX10_feed_139 (fun I21 eI21 H locs hM => ?_)
                        have hf := nm_x eI21 hf
                        refine lv_iinc (v := (v9 + (1 : Int32))) (lv' := [(8, .int (v9 + (1 : Int32))), (0, .ref a0), (1, .int x1), (2, .int x2), (3, .int x3), (4, .int x4), (5, .int x5), (6, .int x6)]) hx hb dX10_feed_140 hl (k := 7) rfl rfl (by decide) rfl (fun ls hl => ?_)
                        refine lv_goto (tgt := 79) hx hb dX10_feed_143 (by decide) ?_
                        exact ih (v9 + (1 : Int32)) I21 _ _ _ _ hM (lv_sub hl [1, 2, 3, 4, 5, 6, 7, 0] rfl) hf kk
                    · have hf := it_p hf hc16
                      refine lv_iload hx hb dX10_feed_121 (lv_at hl 4 rfl) ?_
                      refine lv_goto (tgt := 139) hx hb dX10_feed_123 (by decide) ?_
                      refine gd_e hf (fun hg22 hf => ?_)
                      refine ev_iast S hK hM hg22 (j := (((I10 a0 5) + v9)).toNatClampNeg) rfl dX10_feed_139 (fun I23 eI23 H locs hM => ?_)
                      have hf := nm_x eI23 hf
                      refine lv_iinc (v := (v9 + (1 : Int32))) (lv' := [(8, .int (v9 + (1 : Int32))), (0, .ref a0), (1, .int x1), (2, .int x2), (3, .int x3), (4, .int x4), (5, .int x5), (6, .int x6)]) hx hb dX10_feed_140 hl (k := 7) rfl rfl (by decide) rfl (fun ls hl => ?_)
                      refine lv_goto (tgt := 79) hx hb dX10_feed_143 (by decide) ?_
                      exact ih (v9 + (1 : Int32)) I23 _ _ _ _ hM (lv_sub hl [1, 2, 3, 4, 5, 6, 7, 0] rfl) hf kk
                  · have hf := it_p hf hc15
                    refine lv_iload_n hx hb dX10_feed_111 rfl (lv_at hl 3 rfl) ?_
                    refine lv_goto (tgt := 139) hx hb dX10_feed_112 (by decide) ?_
                    refine gd_e hf (fun hg24 hf => ?_)
                    refine ev_iast S hK hM hg24 (j := (((I10 a0 5) + v9)).toNatClampNeg) rfl dX10_feed_139 (fun I25 eI25 H locs hM => ?_)
                    have hf := nm_x eI25 hf
                    refine lv_iinc (v := (v9 + (1 : Int32))) (lv' := [(8, .int (v9 + (1 : Int32))), (0, .ref a0), (1, .int x1), (2, .int x2), (3, .int x3), (4, .int x4), (5, .int x5), (6, .int x6)]) hx hb dX10_feed_140 hl (k := 7) rfl rfl (by decide) rfl (fun ls hl => ?_)
                    refine lv_goto (tgt := 79) hx hb dX10_feed_143 (by decide) ?_
                    exact ih (v9 + (1 : Int32)) I25 _ _ _ _ hM (lv_sub hl [1, 2, 3, 4, 5, 6, 7, 0] rfl) hf kk
                · have hf := it_p hf hc14
                  refine lv_iload_n hx hb dX10_feed_101 rfl (lv_at hl 2 rfl) ?_
                  refine lv_goto (tgt := 139) hx hb dX10_feed_102 (by decide) ?_
                  refine gd_e hf (fun hg26 hf => ?_)
                  refine ev_iast S hK hM hg26 (j := (((I10 a0 5) + v9)).toNatClampNeg) rfl dX10_feed_139 (fun I27 eI27 H locs hM => ?_)
                  have hf := nm_x eI27 hf
                  refine lv_iinc (v := (v9 + (1 : Int32))) (lv' := [(8, .int (v9 + (1 : Int32))), (0, .ref a0), (1, .int x1), (2, .int x2), (3, .int x3), (4, .int x4), (5, .int x5), (6, .int x6)]) hx hb dX10_feed_140 hl (k := 7) rfl rfl (by decide) rfl (fun ls hl => ?_)
                  refine lv_goto (tgt := 79) hx hb dX10_feed_143 (by decide) ?_
                  exact ih (v9 + (1 : Int32)) I27 _ _ _ _ hM (lv_sub hl [1, 2, 3, 4, 5, 6, 7, 0] rfl) hf kk
          refine bd_e hf (fun r11 er11 hf => ?_)
          refine lp79_27 FU (0 : Int32) I _ _ _ r11 hM (lv_sub hl [2, 3, 4, 5, 6, 7, 8, 0] rfl) er11 (fun H locs ls hM hl => ?_)
          refine lv_aload_n hx hb dX10_feed_146 rfl (lv_at hl 0 rfl) ?_
          refine lv_dup hx hb dX10_feed_147 rfl ?_
          refine ev_get (v := .int (r11 a0 5)) S hK hM (ci := 10) (n := 23) (C := RX10) (T := TX10) hin10 rfl hg7 5 (by decide) lk124 rfl rfl rfl dX10_feed_148 ?_
          refine lv_iload_n hx hb dX10_feed_151 rfl (lv_at hl 1 rfl) ?_
          refine lv_iadd hx hb dX10_feed_152 ?_
          refine ev_put S hK hM (ci := 10) (n := 23) (C := RX10) (T := TX10) hin10 tyX10 tyX10_ok nmX10 rfl hg7 5 (by decide) lk124 rfl rfl rfl rfl rfl (Nat.le_of_ble_eq_true rfl) rfl dX10_feed_153 (fun I28 eI28 H locs hM => ?_)
          have hf := nm_x eI28 hf
          refine lv_aload_n hx hb dX10_feed_156 rfl (lv_at hl 0 rfl) ?_
          refine ev_get (v := .int (I28 a0 5)) S hK hM (ci := 10) (n := 23) (C := RX10) (T := TX10) hin10 rfl hg7 5 (by decide) lk124 rfl rfl rfl dX10_feed_157 ?_
          obtain rfl := Option.some.inj hf
          subst hQ
          exact ev_iret S hr hlocks hK hZ hM dX10_feed_160
        · have hf := it_n hf hc8
          refine lv_bipush (v := (-4 : Int32)) hx hb dX10_feed_73 (by decide) ?_
          obtain rfl := Option.some.inj hf
          subst hQ
          exact ev_iret S hr hlocks hK hZ hM dX10_feed_75
      · have hf := it_p hf hc6
        refine lv_bipush (v := (-2 : Int32)) hx hb dX10_feed_59 (by decide) ?_
        obtain rfl := Option.some.inj hf
        subst hQ
        exact ev_iret S hr hlocks hK hZ hM dX10_feed_61
  have hf := ej3
  refine lv_if_eq (tgt := 42) hx hb dX10_feed_4 (by decide) (fun hc2 => ?_) (fun hc2 => ?_)
  · have hf := it_p hf hc2
    refine lv_iconst (v := (0 : Int32)) hx hb dX10_feed_42 (by decide) ?_
    obtain rfl := Option.some.inj hf
    exact kj3 _ _ _ hM (hl)
  · have hf := it_n hf hc2
    refine lv_iload_n hx hb dX10_feed_7 rfl (lv_at hl 3 rfl) ?_
    refine bd_e hf (fun r29 er29 hf => ?_)
    refine ev_calli (va_runS (As := [.int x3]) (rest := []) S (c_X10_isByte (l := l) I P x3 r29 er29) (va_cwS 1 hts (gi_s wa_4_221 wa_4_222 wa_1_11 wa_4_223) rfl rfl rfl (by decide +kernel) ⟨Nat.le_of_ble_eq_true rfl, Nat.le_of_ble_eq_true rfl⟩) ⟨mm_B_blind, fun U hU hW => ⟨rfl, mm_B_of hK hZ hM hU hW⟩⟩ rfl rfl hl.1 rfl (lv_room (Nat.le_of_ble_eq_true rfl)) dX10_feed_8 ⟨Nat.zero_le _, Nat.zero_le _⟩) hM (fun H locs hM => ?_)
    refine lv_if_eq (tgt := 42) hx hb dX10_feed_11 (by decide) (fun hc30 => ?_) (fun hc30 => ?_)
    · have hf := it_p hf hc30
      refine lv_iconst (v := (0 : Int32)) hx hb dX10_feed_42 (by decide) ?_
      obtain rfl := Option.some.inj hf
      exact kj3 _ _ _ hM (hl)
    · have hf := it_n hf hc30
      refine lv_iload hx hb dX10_feed_14 (lv_at hl 4 rfl) ?_
      refine bd_e hf (fun r31 er31 hf => ?_)
      refine ev_calli (va_runS (As := [.int x4]) (rest := []) S (c_X10_isByte (l := l) I P x4 r31 er31) (va_cwS 1 hts (gi_s wa_4_221 wa_4_222 wa_1_11 wa_4_223) rfl rfl rfl (by decide +kernel) ⟨Nat.le_of_ble_eq_true rfl, Nat.le_of_ble_eq_true rfl⟩) ⟨mm_B_blind, fun U hU hW => ⟨rfl, mm_B_of hK hZ hM hU hW⟩⟩ rfl rfl hl.1 rfl (lv_room (Nat.le_of_ble_eq_true rfl)) dX10_feed_16 ⟨Nat.zero_le _, Nat.zero_le _⟩) hM (fun H locs hM => ?_)
      refine lv_if_eq (tgt := 42) hx hb dX10_feed_19 (by decide) (fun hc32 => ?_) (fun hc32 => ?_)
      · have hf := it_p hf hc32
        refine lv_iconst (v := (0 : Int32)) hx hb dX10_feed_42 (by decide) ?_
        obtain rfl := Option.some.inj hf
        exact kj3 _ _ _ hM (hl)
      · have hf := it_n hf hc32
        refine lv_iload hx hb dX10_feed_22 (lv_at hl 5 rfl) ?_
        refine bd_e hf (fun r33 er33 hf => ?_)
        refine ev_calli (va_runS (As := [.int x5]) (rest := []) S (c_X10_isByte (l := l) I P x5 r33 er33) (va_cwS 1 hts (gi_s wa_4_221 wa_4_222 wa_1_11 wa_4_223) rfl rfl rfl (by decide +kernel) ⟨Nat.le_of_ble_eq_true rfl, Nat.le_of_ble_eq_true rfl⟩) ⟨mm_B_blind, fun U hU hW => ⟨rfl, mm_B_of hK hZ hM hU hW⟩⟩ rfl rfl hl.1 rfl (lv_room (Nat.le_of_ble_eq_true rfl)) dX10_feed_24 ⟨Nat.zero_le _, Nat.zero_le _⟩) hM (fun H locs hM => ?_)
        refine lv_if_eq (tgt := 42) hx hb dX10_feed_27 (by decide) (fun hc34 => ?_) (fun hc34 => ?_)
        · have hf := it_p hf hc34
          refine lv_iconst (v := (0 : Int32)) hx hb dX10_feed_42 (by decide) ?_
          obtain rfl := Option.some.inj hf
          exact kj3 _ _ _ hM (hl)
        · have hf := it_n hf hc34
          refine lv_iload hx hb dX10_feed_30 (lv_at hl 6 rfl) ?_
          refine bd_e hf (fun r35 er35 hf => ?_)
          refine ev_calli (va_runS (As := [.int x6]) (rest := []) S (c_X10_isByte (l := l) I P x6 r35 er35) (va_cwS 1 hts (gi_s wa_4_221 wa_4_222 wa_1_11 wa_4_223) rfl rfl rfl (by decide +kernel) ⟨Nat.le_of_ble_eq_true rfl, Nat.le_of_ble_eq_true rfl⟩) ⟨mm_B_blind, fun U hU hW => ⟨rfl, mm_B_of hK hZ hM hU hW⟩⟩ rfl rfl hl.1 rfl (lv_room (Nat.le_of_ble_eq_true rfl)) dX10_feed_32 ⟨Nat.zero_le _, Nat.zero_le _⟩) hM (fun H locs hM => ?_)
          refine lv_if_eq (tgt := 42) hx hb dX10_feed_35 (by decide) (fun hc36 => ?_) (fun hc36 => ?_)
          · have hf := it_p hf hc36
            refine lv_iconst (v := (0 : Int32)) hx hb dX10_feed_42 (by decide) ?_
            obtain rfl := Option.some.inj hf
            exact kj3 _ _ _ hM (hl)
          · have hf := it_n hf hc36
            refine lv_iconst (v := (1 : Int32)) hx hb dX10_feed_38 (by decide) ?_
            refine lv_goto (tgt := 43) hx hb dX10_feed_39 (by decide) ?_
            obtain rfl := Option.some.inj hf
            exact kj3 _ _ _ hM (hl)
noncomputable def fn_X10_here (K N : Nat → Nat) (I : Nat → Nat → Int32) (P : Nat → Nat → Option Nat) (a0 : Nat) : Option (Int32) := gd (K a0 = 11) (if (I a0 5) ≤ (I a0 6) then (some (-1 : Int32)) else (Option.bind (P a0 (4)) (fun q3 => gd (K q3 = 12 ∧ vp_in (I a0 6) (N q3)) (some (I q3 ((I a0 6)).toNatClampNeg)))))
abbrev wz_X10_here : List Cond := Cond.code yX10_here cX10_here 1 (some .int) :: WA
abbrev rm_X10_here : Room := { frames := 1, cells := 0, slots := 0, locals := 12 }
set_option maxHeartbeats 4000000 in
set_option maxRecDepth 100000 in
theorem c_X10_here (I : Nat → Nat → Int32) (P : Nat → Nat → Option Nat) (a0 : Nat) (res : Int32) (hf : fn_X10_here K N I P a0 = some res) : Met l yX10_here wz_X10_here rm_X10_here (va_Pc [.ref a0] (mm_B D cs A L K N z w I P)) (va_Qi (fun r (_ : Unit) => r = res) (fun _ => mm_B D cs A L K N z w I P) A) 0 0 A := by
  refine Met.ofW (cc := cX10_here) (maxL := 1) (ret := (some .int)) (by decide) rfl ?_
  intro p e s m args below meth c s₁ B hml hv
  obtain ⟨rfl, hBm⟩ := hv
  have hx := B.exec
  have hb := B.bytes
  have hr := B.returns
  have hts := atoms_spec (ws := wz_X10_here) B.pre
  have hWA : ∀ w ∈ WA, w.before ([.ref a0] : List Value).toArray s = true := fun u9 h9 => hts u9 (List.mem_cons_of_mem _ h9)
  have hown : s.vm.findClass RX10 = some m.cls := findClass_of_methodNamed B.named
  have hlocks := B.notSynchronized
  have S : CallFix p m c cX10_here 1 s ([.ref a0] : List Value).toArray wz_X10_here RX10 := ⟨hx, hb, hml, hown, hts⟩
  have hK := hBm.2.2.2.1
  have hZ := hBm.2.2.2.2
  have hM : mm_W D cs A L K N s.heap I P s.heap [] := ⟨hBm.1, hBm.2.1, hBm.2.2.1, va_S.rf⟩
  have hl := lv_entry ([.ref a0]) (n := 1) (Nat.le_of_ble_eq_true rfl)
  rw [lg_entry_eq]
  generalize (lg_sl ([.ref a0]) ++ List.replicate (1 - (lg_sl ([.ref a0])).length) Slot.unset).toArray = ls at hl ⊢
  have hl : lv_has ls 1 [(0, .ref a0)] := hl
  have hin10 : ∀ w ∈ wsX100, w ∈ wz_X10_here := fun w h => List.mem_cons_of_mem _ (wu_X10 w h)
  have lk128 : (Cond.fieldLink RX10 128 RX10 "at" "I").before ([.ref a0] : List Value).toArray s = true := hWA _ wa_4_147
  have lk124 : (Cond.fieldLink RX10 124 RX10 "fed" "I").before ([.ref a0] : List Value).toArray s = true := hWA _ wa_4_146
  have lk16 : (Cond.fieldLink RX10 16 RX10 "tape" "[I").before ([.ref a0] : List Value).toArray s = true := hWA _ wa_4_145
  generalize hQ : MQ below (va_Qi (fun r (_ : Unit) => r = res) (fun _ => mm_B D cs A L K N z w I P) A) ([.ref a0] : List Value).toArray s 0 0 A = QQ
  rw [fn_X10_here] at hf
  refine lv_aload_n hx hb dX10_here_0 rfl (lv_at hl 0 rfl) ?_
  refine gd_e hf (fun hg1 hf => ?_)
  refine ev_get (v := .int (I a0 6)) S hK hM (ci := 10) (n := 23) (C := RX10) (T := TX10) hin10 rfl hg1 6 (by decide) lk128 rfl rfl rfl dX10_here_1 ?_
  refine lv_aload_n hx hb dX10_here_4 rfl (lv_at hl 0 rfl) ?_
  refine ev_get (v := .int (I a0 5)) S hK hM (ci := 10) (n := 23) (C := RX10) (T := TX10) hin10 rfl hg1 5 (by decide) lk124 rfl rfl rfl dX10_here_5 ?_
  refine lv_icmp_ge (tgt := 23) hx hb dX10_here_8 (by decide) (fun hc2 => ?_) (fun hc2 => ?_)
  · have hf := it_p hf hc2
    refine lv_iconst (v := (-1 : Int32)) hx hb dX10_here_23 (by decide) ?_
    obtain rfl := Option.some.inj hf
    subst hQ
    exact ev_iret S hr hlocks hK hZ hM dX10_here_24
  · have hf := it_n hf hc2
    refine lv_aload_n hx hb dX10_here_11 rfl (lv_at hl 0 rfl) ?_
    refine bd_e hf (fun q3 eq3 hf => ?_)
    refine ev_getP (v := q3) S hK hM (ci := 10) (n := 23) (C := RX10) (T := TX10) hin10 rfl hg1 4 (by decide) lk16 rfl rfl eq3 rfl dX10_here_12 ?_
    refine lv_aload_n hx hb dX10_here_15 rfl (lv_at hl 0 rfl) ?_
    refine ev_get (v := .int (I a0 6)) S hK hM (ci := 10) (n := 23) (C := RX10) (T := TX10) hin10 rfl hg1 6 (by decide) lk128 rfl rfl rfl dX10_here_16 ?_
    refine gd_e hf (fun hg4 hf => ?_)
    refine ev_iald S hK hM hg4 (j := ((I a0 6)).toNatClampNeg) rfl dX10_here_19 ?_
    refine lv_goto (tgt := 24) hx hb dX10_here_20 (by decide) ?_
    obtain rfl := Option.some.inj hf
    subst hQ
    exact ev_iret S hr hlocks hK hZ hM dX10_here_24
noncomputable def fn_X10_isWord_L22 (K : Nat → Nat) (N : Nat → Nat) (a0 : Nat) (w1 : Nat) (I : Nat → Nat → Int32) (P : Nat → Nat → Option Nat) : Nat → Int32 → Int32 → Option (Int32)
  | 0, _, _ => none
  | n + 1, v5, v6 => Option.bind (fn_J0_length_8abf5 w1) (fun (r8 : Int32) => if r8 ≤ v6 then (some v5) else (Option.bind (P a0 (4)) (fun q10 => gd (K q10 = 12 ∧ vp_in ((I a0 7) + v6) (N q10)) (Option.bind (fn_J0_charAt_5068e w1 v6) (fun (r12 : Int32) => if (I q10 (((I a0 7) + v6)).toNatClampNeg) = r12 then (Option.bind (some (v5 &&& (1 : Int32))) (fun v15 => fn_X10_isWord_L22 K N a0 w1 I P n v15 (v6 + (1 : Int32)))) else (Option.bind (some (v5 &&& (0 : Int32))) (fun v14 => fn_X10_isWord_L22 K N a0 w1 I P n v14 (v6 + (1 : Int32)))))))))
noncomputable def fn_X10_isWord (K N : Nat → Nat) (I : Nat → Nat → Int32) (P : Nat → Nat → Option Nat) (a0 : Nat) (w1 : Nat) : Option (Int32) := gd (K a0 = 11) (Option.bind (fn_J0_length_8abf5 w1) (fun (r2 : Int32) => gd (w1 < 10) (if ((I a0 6) - (I a0 7)) = r2 then (Option.bind (fn_X10_isWord_L22 K N a0 w1 I P FU (1 : Int32) (0 : Int32)) (fun (r7 : Int32) => gd (r7 = 0 ∨ r7 = 1) (some r7))) else (some (0 : Int32)))))
abbrev wz_X10_isWord : List Cond := Cond.code yX10_isWord cX10_isWord 4 (some .boolean) :: WA
abbrev rm_X10_isWord : Room := { frames := 5, cells := 0, slots := 0, locals := 97 }
set_option maxHeartbeats 4000000 in
set_option maxRecDepth 100000 in
theorem c_X10_isWord (I : Nat → Nat → Int32) (P : Nat → Nat → Option Nat) (a0 : Nat) (w1 : Nat) (res : Int32) (hf : fn_X10_isWord K N I P a0 w1 = some res) : Met l yX10_isWord wz_X10_isWord rm_X10_isWord (va_Pc [.ref a0, .ref (z (10 + w1))] (mm_B D cs A L K N z w I P)) (va_Qi (fun r (_ : Unit) => r = res) (fun _ => mm_B D cs A L K N z w I P) A) 0 0 A := by
  refine Met.ofW (cc := cX10_isWord) (maxL := 4) (ret := (some .boolean)) (by decide) rfl ?_
  intro p e s m args below meth c s₁ B hml hv
  obtain ⟨rfl, hBm⟩ := hv
  have hx := B.exec
  have hb := B.bytes
  have hr := B.returns
  have hts := atoms_spec (ws := wz_X10_isWord) B.pre
  have hWA : ∀ w ∈ WA, w.before ([.ref a0, .ref (z (10 + w1))] : List Value).toArray s = true := fun u9 h9 => hts u9 (List.mem_cons_of_mem _ h9)
  have hown : s.vm.findClass RX10 = some m.cls := findClass_of_methodNamed B.named
  have hlocks := B.notSynchronized
  have S : CallFix p m c cX10_isWord 4 s ([.ref a0, .ref (z (10 + w1))] : List Value).toArray wz_X10_isWord RX10 := ⟨hx, hb, hml, hown, hts⟩
  have hK := hBm.2.2.2.1
  have hZ := hBm.2.2.2.2
  have hM : mm_W D cs A L K N s.heap I P s.heap [] := ⟨hBm.1, hBm.2.1, hBm.2.2.1, va_S.rf⟩
  have hl := lv_entry ([.ref a0, .ref (z (10 + w1))]) (n := 4) (Nat.le_of_ble_eq_true rfl)
  rw [lg_entry_eq]
  generalize (lg_sl ([.ref a0, .ref (z (10 + w1))]) ++ List.replicate (4 - (lg_sl ([.ref a0, .ref (z (10 + w1))])).length) Slot.unset).toArray = ls at hl ⊢
  have hl : lv_has ls 4 [(0, .ref a0), (1, .ref (z (10 + w1)))] := hl
  have hin10 : ∀ w ∈ wsX100, w ∈ wz_X10_isWord := fun w h => List.mem_cons_of_mem _ (wu_X10 w h)
  have lk128 : (Cond.fieldLink RX10 128 RX10 "at" "I").before ([.ref a0, .ref (z (10 + w1))] : List Value).toArray s = true := hWA _ wa_4_147
  have lk131 : (Cond.fieldLink RX10 131 RX10 "begun" "I").before ([.ref a0, .ref (z (10 + w1))] : List Value).toArray s = true := hWA _ wa_4_148
  have lk16 : (Cond.fieldLink RX10 16 RX10 "tape" "[I").before ([.ref a0, .ref (z (10 + w1))] : List Value).toArray s = true := hWA _ wa_4_145
  generalize hQ : MQ below (va_Qi (fun r (_ : Unit) => r = res) (fun _ => mm_B D cs A L K N z w I P) A) ([.ref a0, .ref (z (10 + w1))] : List Value).toArray s 0 0 A = QQ
  rw [fn_X10_isWord] at hf
  refine lv_aload_n hx hb dX10_isWord_0 rfl (lv_at hl 0 rfl) ?_
  refine gd_e hf (fun hg1 hf => ?_)
  refine ev_get (v := .int (I a0 6)) S hK hM (ci := 10) (n := 23) (C := RX10) (T := TX10) hin10 rfl hg1 6 (by decide) lk128 rfl rfl rfl dX10_isWord_1 ?_
  refine lv_aload_n hx hb dX10_isWord_4 rfl (lv_at hl 0 rfl) ?_
  refine ev_get (v := .int (I a0 7)) S hK hM (ci := 10) (n := 23) (C := RX10) (T := TX10) hin10 rfl hg1 7 (by decide) lk131 rfl rfl rfl dX10_isWord_5 ?_
  refine lv_isub hx hb dX10_isWord_8 ?_
  refine lv_aload_n hx hb dX10_isWord_9 rfl (lv_at hl 1 rfl) ?_
  refine bd_e hf (fun r2 er2 hf => ?_)
  refine gd_e hf (fun hg3 hf => ?_)
  refine ev_calli (va_runV (As := []) (rest := [.int ((I a0 6) - (I a0 7))]) S (c_J0_length_8abf5 (l := l) I P w1 r2 er2) (cwV 0 hts (gi_v wa_5_93 wa_2_229 wa_2_230 wa_1_14 wa_2_231) rfl rfl rfl (by decide +kernel) ⟨Nat.le_of_ble_eq_true rfl, Nat.le_of_ble_eq_true rfl⟩) ⟨mm_B_blind, ev_recvT hZ hM hg3, fun U hU hW => ⟨rfl, mm_B_of hK hZ hM hU hW⟩⟩ rfl rfl hl.1 rfl (lv_room (Nat.le_of_ble_eq_true rfl)) dX10_isWord_10 ⟨Nat.zero_le _, Nat.zero_le _⟩) hM (fun H locs hM => ?_)
  refine lv_icmp_eq (tgt := 18) hx hb dX10_isWord_13 (by decide) (fun hc4 => ?_) (fun hc4 => ?_)
  · have hf := it_p hf hc4
    refine lv_iconst (v := (1 : Int32)) hx hb dX10_isWord_18 (by decide) ?_
    refine lv_istore_n (lv' := [(2, .int (1 : Int32)), (0, .ref a0), (1, .ref (z (10 + w1)))]) hx hb dX10_isWord_19 rfl hl (by decide) rfl (fun ls hl => ?_)
    refine lv_iconst (v := (0 : Int32)) hx hb dX10_isWord_20 (by decide) ?_
    refine lv_istore_n (lv' := [(3, .int (0 : Int32)), (2, .int (1 : Int32)), (0, .ref a0), (1, .ref (z (10 + w1)))]) hx hb dX10_isWord_21 rfl hl (by decide) rfl (fun ls hl => ?_)
    have lp22_15 : ∀ (n : Nat) (v5 : Int32) (v6 : Int32) (H : Heap) (locs : List Loc) (ls : Array Slot) (r7 : Int32), mm_W D cs A L K N s.heap I P H locs → lv_has ls 4 [(0, .ref a0), (1, .ref (z (10 + w1))), (2, .int v5), (3, .int v6)] → fn_X10_isWord_L22 K N a0 w1 I P n v5 v6 = some r7 → (∀ (H : Heap) (locs : List Loc) (ls : Array Slot), mm_W D cs A L K N s.heap I P H locs → lv_has ls 4 [(2, .int r7)] → W p l e (headSpec wz_X10_isWord rm_X10_isWord).room s m ([.ref a0, .ref (z (10 + w1))] : List Value).toArray below meth c H locs 0 0 QQ (F0 m 63 ls [])) → W p l e (headSpec wz_X10_isWord rm_X10_isWord).room s m ([.ref a0, .ref (z (10 + w1))] : List Value).toArray below meth c H locs 0 0 QQ (F0 m 22 ls []) := by
      intro n
      induction n with
      | zero => intro v5 v6 H locs ls r7 hM hl hf kk; exact nn_x (show (none : Option (Int32)) = some r7 from hf)
      | succ n ih =>
        intro v5 v6 H locs ls r7 hM hl hf kk
        rw [fn_X10_isWord_L22] at hf
        refine lv_iload_n hx hb dX10_isWord_22 rfl (lv_at hl 3 rfl) ?_
        refine lv_aload_n hx hb dX10_isWord_23 rfl (lv_at hl 1 rfl) ?_
        refine bd_e hf (fun r8 er8 hf => ?_)
        refine ev_calli (va_runV (As := []) (rest := [.int v6]) S (c_J0_length_8abf5 (l := l) I P w1 r8 er8) (cwV 0 hts (gi_v wa_5_93 wa_2_229 wa_2_230 wa_1_14 wa_2_231) rfl rfl rfl (by decide +kernel) ⟨Nat.le_of_ble_eq_true rfl, Nat.le_of_ble_eq_true rfl⟩) ⟨mm_B_blind, ev_recvT hZ hM hg3, fun U hU hW => ⟨rfl, mm_B_of hK hZ hM hU hW⟩⟩ rfl rfl hl.1 rfl (lv_room (Nat.le_of_ble_eq_true rfl)) dX10_isWord_24 ⟨Nat.zero_le _, Nat.zero_le _⟩) hM (fun H locs hM => ?_)
        refine lv_icmp_ge (tgt := 63) hx hb dX10_isWord_27 (by decide) (fun hc9 => ?_) (fun hc9 => ?_)
        · have hf := it_p hf hc9
          obtain rfl := Option.some.inj hf
          exact kk _ _ _ hM (lv_sub hl [2] rfl)
        · have hf := it_n hf hc9
          refine lv_iload_n hx hb dX10_isWord_30 rfl (lv_at hl 2 rfl) ?_
          refine lv_aload_n hx hb dX10_isWord_31 rfl (lv_at hl 0 rfl) ?_
          refine bd_e hf (fun q10 eq10 hf => ?_)
          refine ev_getP (v := q10) S hK hM (ci := 10) (n := 23) (C := RX10) (T := TX10) hin10 rfl hg1 4 (by decide) lk16 rfl rfl eq10 rfl dX10_isWord_32 ?_
          refine lv_aload_n hx hb dX10_isWord_35 rfl (lv_at hl 0 rfl) ?_
          refine ev_get (v := .int (I a0 7)) S hK hM (ci := 10) (n := 23) (C := RX10) (T := TX10) hin10 rfl hg1 7 (by decide) lk131 rfl rfl rfl dX10_isWord_36 ?_
          refine lv_iload_n hx hb dX10_isWord_39 rfl (lv_at hl 3 rfl) ?_
          refine lv_iadd hx hb dX10_isWord_40 ?_
          refine gd_e hf (fun hg11 hf => ?_)
          refine ev_iald S hK hM hg11 (j := (((I a0 7) + v6)).toNatClampNeg) rfl dX10_isWord_41 ?_
          refine lv_aload_n hx hb dX10_isWord_42 rfl (lv_at hl 1 rfl) ?_
          refine lv_iload_n hx hb dX10_isWord_43 rfl (lv_at hl 3 rfl) ?_
          refine bd_e hf (fun r12 er12 hf => ?_)
          refine ev_calli (va_runV (As := [.int v6]) (rest := [.int (I q10 (((I a0 7) + v6)).toNatClampNeg), .int v5]) S (c_J0_charAt_5068e (l := l) I P w1 v6 r12 er12) (cwV 1 hts (gi_v wa_5_94 wa_2_239 wa_3_0 wa_1_14 wa_3_1) rfl rfl rfl (by decide +kernel) ⟨Nat.le_of_ble_eq_true rfl, Nat.le_of_ble_eq_true rfl⟩) ⟨mm_B_blind, ev_recvT hZ hM hg3, fun U hU hW => ⟨rfl, mm_B_of hK hZ hM hU hW⟩⟩ rfl rfl hl.1 rfl (lv_room (Nat.le_of_ble_eq_true rfl)) dX10_isWord_44 ⟨Nat.zero_le _, Nat.zero_le _⟩) hM (fun H locs hM => ?_)
          refine lv_icmp_ne (tgt := 54) hx hb dX10_isWord_47 (by decide) (fun hc13 => ?_) (fun hc13 => ?_)
          · have hf := it_n hf hc13
            refine lv_iconst (v := (0 : Int32)) hx hb dX10_isWord_54 (by decide) ?_
            refine lv_iand hx hb dX10_isWord_55 ?_
            refine lv_topi (fun v14 ev14 => ?_)
            have hf := nm_x ev14 hf
            refine lv_istore_n (lv' := [(2, .int v14), (0, .ref a0), (1, .ref (z (10 + w1))), (3, .int v6)]) hx hb dX10_isWord_56 rfl hl (by decide) rfl (fun ls hl => ?_)
            refine lv_iinc (v := (v6 + (1 : Int32))) (lv' := [(3, .int (v6 + (1 : Int32))), (2, .int v14), (0, .ref a0), (1, .ref (z (10 + w1)))]) hx hb dX10_isWord_57 hl (k := 3) rfl rfl (by decide) rfl (fun ls hl => ?_)
            refine lv_goto (tgt := 22) hx hb dX10_isWord_60 (by decide) ?_
            exact ih v14 (v6 + (1 : Int32)) _ _ _ _ hM (lv_sub hl [2, 3, 1, 0] rfl) hf kk
          · have hf := it_p hf hc13
            refine lv_iconst (v := (1 : Int32)) hx hb dX10_isWord_50 (by decide) ?_
            refine lv_goto (tgt := 55) hx hb dX10_isWord_51 (by decide) ?_
            refine lv_iand hx hb dX10_isWord_55 ?_
            refine lv_topi (fun v15 ev15 => ?_)
            have hf := nm_x ev15 hf
            refine lv_istore_n (lv' := [(2, .int v15), (0, .ref a0), (1, .ref (z (10 + w1))), (3, .int v6)]) hx hb dX10_isWord_56 rfl hl (by decide) rfl (fun ls hl => ?_)
            refine lv_iinc (v := (v6 + (1 : Int32))) (lv' := [(3, .int (v6 + (1 : Int32))), (2, .int v15), (0, .ref a0), (1, .ref (z (10 + w1)))]) hx hb dX10_isWord_57 hl (k := 3) rfl rfl (by decide) rfl (fun ls hl => ?_)
            refine lv_goto (tgt := 22) hx hb dX10_isWord_60 (by decide) ?_
            exact ih v15 (v6 + (1 : Int32)) _ _ _ _ hM (lv_sub hl [2, 3, 1, 0] rfl) hf kk
    refine bd_e hf (fun r7 er7 hf => ?_)
    refine lp22_15 FU (1 : Int32) (0 : Int32) _ _ _ r7 hM (lv_sub hl [2, 3, 1, 0] rfl) er7 (fun H locs ls hM hl => ?_)
    refine lv_iload_n hx hb dX10_isWord_63 rfl (lv_at hl 0 rfl) ?_
    refine gd_e hf (fun hg16 hf => ?_)
    obtain rfl := Option.some.inj hf
    subst hQ
    exact ev_zret (v := r7) S hr hlocks hK hZ hM (nar_b hg16) dX10_isWord_64
  · have hf := it_n hf hc4
    refine lv_iconst (v := (0 : Int32)) hx hb dX10_isWord_16 (by decide) ?_
    obtain rfl := Option.some.inj hf
    subst hQ
    exact ev_zret (v := (0 : Int32)) S hr hlocks hK hZ hM rfl dX10_isWord_17
noncomputable def fn_X10_next_L0 (K : Nat → Nat) (N : Nat → Nat) (a0 : Nat) (P : Nat → Nat → Option Nat) : Nat → (Nat → Nat → Int32) → Option ((Nat → Nat → Int32))
  | 0, _ => none
  | n + 1, I1 => Option.bind (fn_X10_here K N I1 P a0) (fun (r3 : Int32) => gd (K a0 = 11) (if r3 = (32 : Int32) then (Option.bind (some (up2 I1 a0 6 ((I1 a0 6) + (1 : Int32)))) (fun I6 => fn_X10_next_L0 K N a0 P n I6)) else (Option.bind (fn_X10_here K N I1 P a0) (fun (r7 : Int32) => if r7 = (10 : Int32) then (Option.bind (some (up2 I1 a0 6 ((I1 a0 6) + (1 : Int32)))) (fun I9 => fn_X10_next_L0 K N a0 P n I9)) else (some I1)))))
noncomputable def fn_X10_next_L153 (K : Nat → Nat) (N : Nat → Nat) (a0 : Nat) (P : Nat → Nat → Option Nat) : Nat → (Nat → Nat → Int32) → Option ((Nat → Nat → Int32))
  | 0, _ => none
  | n + 1, I18 => Option.bind (fn_X10_here K N I18 P a0) (fun (r20 : Int32) => Option.bind (fn_X10_isIn r20 (97 : Int32) (122 : Int32)) (fun (r21 : Int32) => if r21 = 0 then (some I18) else (Option.bind (some (up2 I18 a0 6 ((I18 a0 6) + (1 : Int32)))) (fun I23 => fn_X10_next_L153 K N a0 P n I23))))
noncomputable def fn_X10_next_L78 (K : Nat → Nat) (N : Nat → Nat) (a0 : Nat) (P : Nat → Nat → Option Nat) : Nat → (Nat → Nat → Int32) → Option ((Nat → Nat → Int32))
  | 0, _ => none
  | n + 1, I44 => Option.bind (fn_X10_here K N I44 P a0) (fun (r46 : Int32) => Option.bind (fn_X10_isIn r46 (48 : Int32) (57 : Int32)) (fun (r47 : Int32) => if r47 = 0 then (some I44) else (Option.bind (fn_X10_here K N I44 P a0) (fun (r49 : Int32) => Option.bind (some (up2 I44 a0 9 ((((10 : Int32) * (if (1000 : Int32) < (I44 a0 9) then (1000 : Int32) else (I44 a0 9))) + r49) - (48 : Int32)))) (fun I50 => Option.bind (some (up2 I50 a0 6 ((I50 a0 6) + (1 : Int32)))) (fun I51 => fn_X10_next_L78 K N a0 P n I51))))))
noncomputable def fn_X10_next (K N : Nat → Nat) (I : Nat → Nat → Int32) (P : Nat → Nat → Option Nat) (a0 : Nat) : Option ((Nat → Nat → Int32)) := Option.bind (fn_X10_next_L0 K N a0 P FU I) (fun (r2 : (Nat → Nat → Int32)) => gd (K a0 = 11) (Option.bind (some (up2 r2 a0 7 (r2 a0 6))) (fun I11 => Option.bind (if (I11 a0 6) = (I11 a0 5) then (some (0 : Int32)) else (some (1 : Int32))) (fun (j13 : Int32) => Option.bind (some (up2 I11 a0 8 j13)) (fun I14 => Option.bind (fn_X10_here K N I14 P a0) (fun (r15 : Int32) => Option.bind (fn_X10_isIn r15 (48 : Int32) (57 : Int32)) (fun (r16 : Int32) => if r16 = 0 then (Option.bind (fn_X10_next_L153 K N a0 P FU I14) (fun (r19 : (Nat → Nat → Int32)) => Option.bind (fn_X10_isWord K N r19 P a0 (5)) (fun (r24 : Int32) => Option.bind (if r24 = 0 then (some r19) else (Option.bind (some (up2 r19 a0 8 (3 : Int32))) (fun I42 => some I42))) (fun (j26 : (Nat → Nat → Int32)) => Option.bind (fn_X10_isWord K N j26 P a0 (6)) (fun (r27 : Int32) => Option.bind (if r27 = 0 then (some j26) else (Option.bind (some (up2 j26 a0 8 (4 : Int32))) (fun I41 => some I41))) (fun (j29 : (Nat → Nat → Int32)) => Option.bind (fn_X10_isWord K N j29 P a0 (7)) (fun (r30 : Int32) => Option.bind (if r30 = 0 then (some j29) else (Option.bind (some (up2 j29 a0 8 (5 : Int32))) (fun I40 => some I40))) (fun (j32 : (Nat → Nat → Int32)) => Option.bind (fn_X10_isWord K N j32 P a0 (8)) (fun (r33 : Int32) => Option.bind (if r33 = 0 then (some j32) else (Option.bind (some (up2 j32 a0 8 (6 : Int32))) (fun I39 => some I39))) (fun (j35 : (Nat → Nat → Int32)) => Option.bind (fn_X10_isWord K N j35 P a0 (9)) (fun (r36 : Int32) => if r36 = 0 then (some j35) else (Option.bind (some (up2 j35 a0 8 (7 : Int32))) (fun I38 => some I38))))))))))))) else (Option.bind (some (up2 I14 a0 9 (0 : Int32))) (fun I43 => Option.bind (fn_X10_next_L78 K N a0 P FU I43) (fun (r45 : (Nat → Nat → Int32)) => if ((r45 a0 6) - (r45 a0 7)) ≤ (2 : Int32) then (Option.bind (some (up2 r45 a0 8 (2 : Int32))) (fun I53 => some I53)) else (Option.bind (some (up2 r45 a0 8 (1 : Int32))) (fun I54 => some I54))))))))))))
abbrev wz_X10_next : List Cond := Cond.code yX10_next cX10_next 1 none :: WA
abbrev rm_X10_next : Room := { frames := 6, cells := 0, slots := 0, locals := 120 }
set_option maxHeartbeats 4000000 in
set_option maxRecDepth 100000 in
theorem c_X10_next (I : Nat → Nat → Int32) (P : Nat → Nat → Option Nat) (a0 : Nat) (res : (Nat → Nat → Int32)) (hf : fn_X10_next K N I P a0 = some res) : Met l yX10_next wz_X10_next rm_X10_next (va_Pc [.ref a0] (mm_B D cs A L K N z w I P)) (va_Qv (fun (_ : Unit) => True) (fun _ => mm_B D cs A L K N z w res P) A) 0 0 A := by
  refine Met.ofW (cc := cX10_next) (maxL := 1) (ret := none) (by decide) rfl ?_
  intro p e s m args below meth c s₁ B hml hv
  obtain ⟨rfl, hBm⟩ := hv
  have hx := B.exec
  have hb := B.bytes
  have hr := B.returns
  have hts := atoms_spec (ws := wz_X10_next) B.pre
  have hWA : ∀ w ∈ WA, w.before ([.ref a0] : List Value).toArray s = true := fun u9 h9 => hts u9 (List.mem_cons_of_mem _ h9)
  have hown : s.vm.findClass RX10 = some m.cls := findClass_of_methodNamed B.named
  have hlocks := B.notSynchronized
  have S : CallFix p m c cX10_next 1 s ([.ref a0] : List Value).toArray wz_X10_next RX10 := ⟨hx, hb, hml, hown, hts⟩
  have hK := hBm.2.2.2.1
  have hZ := hBm.2.2.2.2
  have hM : mm_W D cs A L K N s.heap I P s.heap [] := ⟨hBm.1, hBm.2.1, hBm.2.2.1, va_S.rf⟩
  have hl := lv_entry ([.ref a0]) (n := 1) (Nat.le_of_ble_eq_true rfl)
  rw [lg_entry_eq]
  generalize (lg_sl ([.ref a0]) ++ List.replicate (1 - (lg_sl ([.ref a0])).length) Slot.unset).toArray = ls at hl ⊢
  have hl : lv_has ls 1 [(0, .ref a0)] := hl
  have hin10 : ∀ w ∈ wsX100, w ∈ wz_X10_next := fun w h => List.mem_cons_of_mem _ (wu_X10 w h)
  have lk128 : (Cond.fieldLink RX10 128 RX10 "at" "I").before ([.ref a0] : List Value).toArray s = true := hWA _ wa_4_147
  have lk131 : (Cond.fieldLink RX10 131 RX10 "begun" "I").before ([.ref a0] : List Value).toArray s = true := hWA _ wa_4_148
  have lk124 : (Cond.fieldLink RX10 124 RX10 "fed" "I").before ([.ref a0] : List Value).toArray s = true := hWA _ wa_4_146
  have lk146 : (Cond.fieldLink RX10 146 RX10 "token" "I").before ([.ref a0] : List Value).toArray s = true := hWA _ wa_4_149
  have lk149 : (Cond.fieldLink RX10 149 RX10 "value" "I").before ([.ref a0] : List Value).toArray s = true := hWA _ wa_4_150
  generalize hQ : MQ below (va_Qv (fun (_ : Unit) => True) (fun _ => mm_B D cs A L K N z w res P) A) ([.ref a0] : List Value).toArray s 0 0 A = QQ
  rw [fn_X10_next] at hf
  have lp0_9 : ∀ (n : Nat) (I1 : Nat → Nat → Int32) (H : Heap) (locs : List Loc) (ls : Array Slot) (r2 : (Nat → Nat → Int32)), mm_W D cs A L K N s.heap I1 P H locs → lv_has ls 1 [(0, .ref a0)] → fn_X10_next_L0 K N a0 P n I1 = some r2 → (∀ (H : Heap) (locs : List Loc) (ls : Array Slot), mm_W D cs A L K N s.heap r2 P H locs → lv_has ls 1 [(0, .ref a0)] → W p l e (headSpec wz_X10_next rm_X10_next).room s m ([.ref a0] : List Value).toArray below meth c H locs 0 0 QQ (F0 m 31 ls [])) → W p l e (headSpec wz_X10_next rm_X10_next).room s m ([.ref a0] : List Value).toArray below meth c H locs 0 0 QQ (F0 m 0 ls []) := by
    intro n
    induction n with
    | zero => intro I1 H locs ls r2 hM hl hf kk; exact nn_x (show (none : Option ((Nat → Nat → Int32))) = some r2 from hf)
    | succ n ih =>
      intro I1 H locs ls r2 hM hl hf kk
      rw [fn_X10_next_L0] at hf
      refine lv_aload_n hx hb dX10_next_0 rfl (lv_at hl 0 rfl) ?_
      refine bd_e hf (fun r3 er3 hf => ?_)
      refine gd_e hf (fun hg4 hf => ?_)
      refine ev_calli (va_runV (As := []) (rest := []) S (c_X10_here (l := l) I1 P a0 r3 er3) (cwV 0 hts (gi_v wa_5_84 wa_5_86 wa_s_37 wa_1_11 wa_5_87) rfl rfl rfl (by decide +kernel) ⟨Nat.le_of_ble_eq_true rfl, Nat.le_of_ble_eq_true rfl⟩) ⟨mm_B_blind, ev_recv hK hM (ci := 10) rfl hg4 rfl, fun U hU hW => ⟨rfl, mm_B_of hK hZ hM hU hW⟩⟩ rfl rfl hl.1 rfl (lv_room (Nat.le_of_ble_eq_true rfl)) dX10_next_1 ⟨Nat.zero_le _, Nat.zero_le _⟩) hM (fun H locs hM => ?_)
      refine lv_bipush (v := (32 : Int32)) hx hb dX10_next_4 (by decide) ?_
      refine lv_icmp_eq (tgt := 18) hx hb dX10_next_6 (by decide) (fun hc5 => ?_) (fun hc5 => ?_)
      · have hf := it_p hf hc5
        refine lv_aload_n hx hb dX10_next_18 rfl (lv_at hl 0 rfl) ?_
        refine lv_dup hx hb dX10_next_19 rfl ?_
        refine ev_get (v := .int (I1 a0 6)) S hK hM (ci := 10) (n := 23) (C := RX10) (T := TX10) hin10 rfl hg4 6 (by decide) lk128 rfl rfl rfl dX10_next_20 ?_
        refine lv_iconst (v := (1 : Int32)) hx hb dX10_next_23 (by decide) ?_
        refine lv_iadd hx hb dX10_next_24 ?_
        refine ev_put S hK hM (ci := 10) (n := 23) (C := RX10) (T := TX10) hin10 tyX10 tyX10_ok nmX10 rfl hg4 6 (by decide) lk128 rfl rfl rfl rfl rfl (Nat.le_of_ble_eq_true rfl) rfl dX10_next_25 (fun I6 eI6 H locs hM => ?_)
        have hf := nm_x eI6 hf
        refine lv_goto (tgt := 0) hx hb dX10_next_28 (by decide) ?_
        exact ih I6 _ _ _ _ hM (hl) hf kk
      · have hf := it_n hf hc5
        refine lv_aload_n hx hb dX10_next_9 rfl (lv_at hl 0 rfl) ?_
        refine bd_e hf (fun r7 er7 hf => ?_)
        refine ev_calli (va_runV (As := []) (rest := []) S (c_X10_here (l := l) I1 P a0 r7 er7) (cwV 0 hts (gi_v wa_5_84 wa_5_86 wa_s_37 wa_1_11 wa_5_87) rfl rfl rfl (by decide +kernel) ⟨Nat.le_of_ble_eq_true rfl, Nat.le_of_ble_eq_true rfl⟩) ⟨mm_B_blind, ev_recv hK hM (ci := 10) rfl hg4 rfl, fun U hU hW => ⟨rfl, mm_B_of hK hZ hM hU hW⟩⟩ rfl rfl hl.1 rfl (lv_room (Nat.le_of_ble_eq_true rfl)) dX10_next_10 ⟨Nat.zero_le _, Nat.zero_le _⟩) hM (fun H locs hM => ?_)
        refine lv_bipush (v := (10 : Int32)) hx hb dX10_next_13 (by decide) ?_
        refine lv_icmp_ne (tgt := 31) hx hb dX10_next_15 (by decide) (fun hc8 => ?_) (fun hc8 => ?_)
        · have hf := it_n hf hc8
          obtain rfl := Option.some.inj hf
          exact kk _ _ _ hM (hl)
        · have hf := it_p hf hc8
          refine lv_aload_n hx hb dX10_next_18 rfl (lv_at hl 0 rfl) ?_
          refine lv_dup hx hb dX10_next_19 rfl ?_
          refine ev_get (v := .int (I1 a0 6)) S hK hM (ci := 10) (n := 23) (C := RX10) (T := TX10) hin10 rfl hg4 6 (by decide) lk128 rfl rfl rfl dX10_next_20 ?_
          refine lv_iconst (v := (1 : Int32)) hx hb dX10_next_23 (by decide) ?_
          refine lv_iadd hx hb dX10_next_24 ?_
          refine ev_put S hK hM (ci := 10) (n := 23) (C := RX10) (T := TX10) hin10 tyX10 tyX10_ok nmX10 rfl hg4 6 (by decide) lk128 rfl rfl rfl rfl rfl (Nat.le_of_ble_eq_true rfl) rfl dX10_next_25 (fun I9 eI9 H locs hM => ?_)
          have hf := nm_x eI9 hf
          refine lv_goto (tgt := 0) hx hb dX10_next_28 (by decide) ?_
          exact ih I9 _ _ _ _ hM (hl) hf kk
  refine bd_e hf (fun r2 er2 hf => ?_)
  refine lp0_9 FU I _ _ _ r2 hM (hl) er2 (fun H locs ls hM hl => ?_)
  refine lv_aload_n hx hb dX10_next_31 rfl (lv_at hl 0 rfl) ?_
  refine lv_aload_n hx hb dX10_next_32 rfl (lv_at hl 0 rfl) ?_
  refine gd_e hf (fun hg10 hf => ?_)
  refine ev_get (v := .int (r2 a0 6)) S hK hM (ci := 10) (n := 23) (C := RX10) (T := TX10) hin10 rfl hg10 6 (by decide) lk128 rfl rfl rfl dX10_next_33 ?_
  refine ev_put S hK hM (ci := 10) (n := 23) (C := RX10) (T := TX10) hin10 tyX10 tyX10_ok nmX10 rfl hg10 7 (by decide) lk131 rfl rfl rfl rfl rfl (Nat.le_of_ble_eq_true rfl) rfl dX10_next_36 (fun I11 eI11 H locs hM => ?_)
  have hf := nm_x eI11 hf
  refine lv_aload_n hx hb dX10_next_39 rfl (lv_at hl 0 rfl) ?_
  refine lv_aload_n hx hb dX10_next_40 rfl (lv_at hl 0 rfl) ?_
  refine ev_get (v := .int (I11 a0 6)) S hK hM (ci := 10) (n := 23) (C := RX10) (T := TX10) hin10 rfl hg10 6 (by decide) lk128 rfl rfl rfl dX10_next_41 ?_
  refine lv_aload_n hx hb dX10_next_44 rfl (lv_at hl 0 rfl) ?_
  refine ev_get (v := .int (I11 a0 5)) S hK hM (ci := 10) (n := 23) (C := RX10) (T := TX10) hin10 rfl hg10 5 (by decide) lk124 rfl rfl rfl dX10_next_45 ?_
  refine bd_e hf (fun j13 ej13 hf => ?_)
  have kj13 : ∀ (H : Heap) (locs : List Loc) (ls : Array Slot), mm_W D cs A L K N s.heap I11 P H locs → lv_has ls 1 [(0, .ref a0)] → W p l e (headSpec wz_X10_next rm_X10_next).room s m ([.ref a0] : List Value).toArray below meth c H locs 0 0 QQ (F0 m 56 ls [.int j13, .ref a0]) := by
    intro H locs ls hM hl
    refine ev_put S hK hM (ci := 10) (n := 23) (C := RX10) (T := TX10) hin10 tyX10 tyX10_ok nmX10 rfl hg10 8 (by decide) lk146 rfl rfl rfl rfl rfl (Nat.le_of_ble_eq_true rfl) rfl dX10_next_56 (fun I14 eI14 H locs hM => ?_)
    have hf := nm_x eI14 hf
    refine lv_aload_n hx hb dX10_next_59 rfl (lv_at hl 0 rfl) ?_
    refine bd_e hf (fun r15 er15 hf => ?_)
    refine ev_calli (va_runV (As := []) (rest := []) S (c_X10_here (l := l) I14 P a0 r15 er15) (cwV 0 hts (gi_v wa_5_84 wa_5_86 wa_s_37 wa_1_11 wa_5_87) rfl rfl rfl (by decide +kernel) ⟨Nat.le_of_ble_eq_true rfl, Nat.le_of_ble_eq_true rfl⟩) ⟨mm_B_blind, ev_recv hK hM (ci := 10) rfl hg10 rfl, fun U hU hW => ⟨rfl, mm_B_of hK hZ hM hU hW⟩⟩ rfl rfl hl.1 rfl (lv_room (Nat.le_of_ble_eq_true rfl)) dX10_next_60 ⟨Nat.zero_le _, Nat.zero_le _⟩) hM (fun H locs hM => ?_)
    refine lv_bipush (v := (48 : Int32)) hx hb dX10_next_63 (by decide) ?_
    refine lv_bipush (v := (57 : Int32)) hx hb dX10_next_65 (by decide) ?_
    refine bd_e hf (fun r16 er16 hf => ?_)
    refine ev_calli (va_runS (As := [.int r15, .int (48 : Int32), .int (57 : Int32)]) (rest := []) S (c_X10_isIn (l := l) I14 P r15 (48 : Int32) (57 : Int32) r16 er16) (va_cwS 3 hts (gi_s wa_4_218 wa_4_219 wa_1_11 wa_4_220) rfl rfl rfl (by decide +kernel) ⟨Nat.le_of_ble_eq_true rfl, Nat.le_of_ble_eq_true rfl⟩) ⟨mm_B_blind, fun U hU hW => ⟨rfl, mm_B_of hK hZ hM hU hW⟩⟩ rfl rfl hl.1 rfl (lv_room (Nat.le_of_ble_eq_true rfl)) dX10_next_67 ⟨Nat.zero_le _, Nat.zero_le _⟩) hM (fun H locs hM => ?_)
    refine lv_if_eq (tgt := 153) hx hb dX10_next_70 (by decide) (fun hc17 => ?_) (fun hc17 => ?_)
    · have hf := it_p hf hc17
      have lp153_23 : ∀ (n : Nat) (I18 : Nat → Nat → Int32) (H : Heap) (locs : List Loc) (ls : Array Slot) (r19 : (Nat → Nat → Int32)), mm_W D cs A L K N s.heap I18 P H locs → lv_has ls 1 [(0, .ref a0)] → fn_X10_next_L153 K N a0 P n I18 = some r19 → (∀ (H : Heap) (locs : List Loc) (ls : Array Slot), mm_W D cs A L K N s.heap r19 P H locs → lv_has ls 1 [(0, .ref a0)] → W p l e (headSpec wz_X10_next rm_X10_next).room s m ([.ref a0] : List Value).toArray below meth c H locs 0 0 QQ (F0 m 180 ls [])) → W p l e (headSpec wz_X10_next rm_X10_next).room s m ([.ref a0] : List Value).toArray below meth c H locs 0 0 QQ (F0 m 153 ls []) := by
        intro n
        induction n with
        | zero => intro I18 H locs ls r19 hM hl hf kk; exact nn_x (show (none : Option ((Nat → Nat → Int32))) = some r19 from hf)
        | succ n ih =>
          intro I18 H locs ls r19 hM hl hf kk
          rw [fn_X10_next_L153] at hf
          refine lv_aload_n hx hb dX10_next_153 rfl (lv_at hl 0 rfl) ?_
          refine bd_e hf (fun r20 er20 hf => ?_)
          refine ev_calli (va_runV (As := []) (rest := []) S (c_X10_here (l := l) I18 P a0 r20 er20) (cwV 0 hts (gi_v wa_5_84 wa_5_86 wa_s_37 wa_1_11 wa_5_87) rfl rfl rfl (by decide +kernel) ⟨Nat.le_of_ble_eq_true rfl, Nat.le_of_ble_eq_true rfl⟩) ⟨mm_B_blind, ev_recv hK hM (ci := 10) rfl hg10 rfl, fun U hU hW => ⟨rfl, mm_B_of hK hZ hM hU hW⟩⟩ rfl rfl hl.1 rfl (lv_room (Nat.le_of_ble_eq_true rfl)) dX10_next_154 ⟨Nat.zero_le _, Nat.zero_le _⟩) hM (fun H locs hM => ?_)
          refine lv_bipush (v := (97 : Int32)) hx hb dX10_next_157 (by decide) ?_
          refine lv_bipush (v := (122 : Int32)) hx hb dX10_next_159 (by decide) ?_
          refine bd_e hf (fun r21 er21 hf => ?_)
          refine ev_calli (va_runS (As := [.int r20, .int (97 : Int32), .int (122 : Int32)]) (rest := []) S (c_X10_isIn (l := l) I18 P r20 (97 : Int32) (122 : Int32) r21 er21) (va_cwS 3 hts (gi_s wa_4_218 wa_4_219 wa_1_11 wa_4_220) rfl rfl rfl (by decide +kernel) ⟨Nat.le_of_ble_eq_true rfl, Nat.le_of_ble_eq_true rfl⟩) ⟨mm_B_blind, fun U hU hW => ⟨rfl, mm_B_of hK hZ hM hU hW⟩⟩ rfl rfl hl.1 rfl (lv_room (Nat.le_of_ble_eq_true rfl)) dX10_next_161 ⟨Nat.zero_le _, Nat.zero_le _⟩) hM (fun H locs hM => ?_)
          refine lv_if_eq (tgt := 180) hx hb dX10_next_164 (by decide) (fun hc22 => ?_) (fun hc22 => ?_)
          · have hf := it_p hf hc22
            obtain rfl := Option.some.inj hf
            exact kk _ _ _ hM (hl)
          · have hf := it_n hf hc22
            refine lv_aload_n hx hb dX10_next_167 rfl (lv_at hl 0 rfl) ?_
            refine lv_dup hx hb dX10_next_168 rfl ?_
            refine ev_get (v := .int (I18 a0 6)) S hK hM (ci := 10) (n := 23) (C := RX10) (T := TX10) hin10 rfl hg10 6 (by decide) lk128 rfl rfl rfl dX10_next_169 ?_
            refine lv_iconst (v := (1 : Int32)) hx hb dX10_next_172 (by decide) ?_
            refine lv_iadd hx hb dX10_next_173 ?_
            refine ev_put S hK hM (ci := 10) (n := 23) (C := RX10) (T := TX10) hin10 tyX10 tyX10_ok nmX10 rfl hg10 6 (by decide) lk128 rfl rfl rfl rfl rfl (Nat.le_of_ble_eq_true rfl) rfl dX10_next_174 (fun I23 eI23 H locs hM => ?_)
            have hf := nm_x eI23 hf
            refine lv_goto (tgt := 153) hx hb dX10_next_177 (by decide) ?_
            exact ih I23 _ _ _ _ hM (hl) hf kk
      refine bd_e hf (fun r19 er19 hf => ?_)
      refine lp153_23 FU I14 _ _ _ r19 hM (hl) er19 (fun H locs ls hM hl => ?_)
      refine lv_aload_n hx hb dX10_next_180 rfl (lv_at hl 0 rfl) ?_
      refine va_ldcS (q := z (10 + 5)) hx hb hown hZ.2.1.2.1 dX10_next_181 ?_
      refine bd_e hf (fun r24 er24 hf => ?_)
      refine ev_calli (va_runV (As := [.ref (z (10 + 5))]) (rest := []) S (c_X10_isWord (l := l) r19 P a0 (5) r24 er24) (cwV 1 hts (gi_v wa_5_89 wa_5_91 wa_s_38 wa_1_11 wa_5_92) rfl rfl rfl (by decide +kernel) ⟨Nat.le_of_ble_eq_true rfl, Nat.le_of_ble_eq_true rfl⟩) ⟨mm_B_blind, ev_recv hK hM (ci := 10) rfl hg10 rfl, fun U hU hW => ⟨rfl, mm_B_of hK hZ hM hU hW⟩⟩ rfl rfl hl.1 rfl (lv_room (Nat.le_of_ble_eq_true rfl)) dX10_next_183 ⟨Nat.zero_le _, Nat.zero_le _⟩) hM (fun H locs hM => ?_)
      refine bd_e hf (fun j26 ej26 hf => ?_)
      have kj26 : ∀ (H : Heap) (locs : List Loc) (ls : Array Slot), mm_W D cs A L K N s.heap j26 P H locs → lv_has ls 1 [(0, .ref a0)] → W p l e (headSpec wz_X10_next rm_X10_next).room s m ([.ref a0] : List Value).toArray below meth c H locs 0 0 QQ (F0 m 194 ls []) := by
        intro H locs ls hM hl
        refine lv_aload_n hx hb dX10_next_194 rfl (lv_at hl 0 rfl) ?_
        refine va_ldcS (q := z (10 + 6)) hx hb hown hZ.2.1.2.2.1 dX10_next_195 ?_
        refine bd_e hf (fun r27 er27 hf => ?_)
        refine ev_calli (va_runV (As := [.ref (z (10 + 6))]) (rest := []) S (c_X10_isWord (l := l) j26 P a0 (6) r27 er27) (cwV 1 hts (gi_v wa_5_89 wa_5_91 wa_s_38 wa_1_11 wa_5_92) rfl rfl rfl (by decide +kernel) ⟨Nat.le_of_ble_eq_true rfl, Nat.le_of_ble_eq_true rfl⟩) ⟨mm_B_blind, ev_recv hK hM (ci := 10) rfl hg10 rfl, fun U hU hW => ⟨rfl, mm_B_of hK hZ hM hU hW⟩⟩ rfl rfl hl.1 rfl (lv_room (Nat.le_of_ble_eq_true rfl)) dX10_next_197 ⟨Nat.zero_le _, Nat.zero_le _⟩) hM (fun H locs hM => ?_)
        refine bd_e hf (fun j29 ej29 hf => ?_)
        have kj29 : ∀ (H : Heap) (locs : List Loc) (ls : Array Slot), mm_W D cs A L K N s.heap j29 P H locs → lv_has ls 1 [(0, .ref a0)] → W p l e (headSpec wz_X10_next rm_X10_next).room s m ([.ref a0] : List Value).toArray below meth c H locs 0 0 QQ (F0 m 208 ls []) := by
          intro H locs ls hM hl
          refine lv_aload_n hx hb dX10_next_208 rfl (lv_at hl 0 rfl) ?_
          refine va_ldcS (q := z (10 + 7)) hx hb hown hZ.2.1.2.2.2.1 dX10_next_209 ?_
          refine bd_e hf (fun r30 er30 hf => ?_)
          refine ev_calli (va_runV (As := [.ref (z (10 + 7))]) (rest := []) S (c_X10_isWord (l := l) j29 P a0 (7) r30 er30) (cwV 1 hts (gi_v wa_5_89 wa_5_91 wa_s_38 wa_1_11 wa_5_92) rfl rfl rfl (by decide +kernel) ⟨Nat.le_of_ble_eq_true rfl, Nat.le_of_ble_eq_true rfl⟩) ⟨mm_B_blind, ev_recv hK hM (ci := 10) rfl hg10 rfl, fun U hU hW => ⟨rfl, mm_B_of hK hZ hM hU hW⟩⟩ rfl rfl hl.1 rfl (lv_room (Nat.le_of_ble_eq_true rfl)) dX10_next_211 ⟨Nat.zero_le _, Nat.zero_le _⟩) hM (fun H locs hM => ?_)
          refine bd_e hf (fun j32 ej32 hf => ?_)
          have kj32 : ∀ (H : Heap) (locs : List Loc) (ls : Array Slot), mm_W D cs A L K N s.heap j32 P H locs → lv_has ls 1 [(0, .ref a0)] → W p l e (headSpec wz_X10_next rm_X10_next).room s m ([.ref a0] : List Value).toArray below meth c H locs 0 0 QQ (F0 m 222 ls []) := by
            intro H locs ls hM hl
            refine lv_aload_n hx hb dX10_next_222 rfl (lv_at hl 0 rfl) ?_
            refine va_ldcS (q := z (10 + 8)) hx hb hown hZ.2.1.2.2.2.2.1 dX10_next_223 ?_
            refine bd_e hf (fun r33 er33 hf => ?_)
            refine ev_calli (va_runV (As := [.ref (z (10 + 8))]) (rest := []) S (c_X10_isWord (l := l) j32 P a0 (8) r33 er33) (cwV 1 hts (gi_v wa_5_89 wa_5_91 wa_s_38 wa_1_11 wa_5_92) rfl rfl rfl (by decide +kernel) ⟨Nat.le_of_ble_eq_true rfl, Nat.le_of_ble_eq_true rfl⟩) ⟨mm_B_blind, ev_recv hK hM (ci := 10) rfl hg10 rfl, fun U hU hW => ⟨rfl, mm_B_of hK hZ hM hU hW⟩⟩ rfl rfl hl.1 rfl (lv_room (Nat.le_of_ble_eq_true rfl)) dX10_next_225 ⟨Nat.zero_le _, Nat.zero_le _⟩) hM (fun H locs hM => ?_)
            refine bd_e hf (fun j35 ej35 hf => ?_)
            have kj35 : ∀ (H : Heap) (locs : List Loc) (ls : Array Slot), mm_W D cs A L K N s.heap j35 P H locs → lv_has ls 1 [(0, .ref a0)] → W p l e (headSpec wz_X10_next rm_X10_next).room s m ([.ref a0] : List Value).toArray below meth c H locs 0 0 QQ (F0 m 237 ls []) := by
              intro H locs ls hM hl
              refine lv_aload_n hx hb dX10_next_237 rfl (lv_at hl 0 rfl) ?_
              refine va_ldcS (q := z (10 + 9)) hx hb hown hZ.2.1.2.2.2.2.2 dX10_next_238 ?_
              refine bd_e hf (fun r36 er36 hf => ?_)
              refine ev_calli (va_runV (As := [.ref (z (10 + 9))]) (rest := []) S (c_X10_isWord (l := l) j35 P a0 (9) r36 er36) (cwV 1 hts (gi_v wa_5_89 wa_5_91 wa_s_38 wa_1_11 wa_5_92) rfl rfl rfl (by decide +kernel) ⟨Nat.le_of_ble_eq_true rfl, Nat.le_of_ble_eq_true rfl⟩) ⟨mm_B_blind, ev_recv hK hM (ci := 10) rfl hg10 rfl, fun U hU hW => ⟨rfl, mm_B_of hK hZ hM hU hW⟩⟩ rfl rfl hl.1 rfl (lv_room (Nat.le_of_ble_eq_true rfl)) dX10_next_240 ⟨Nat.zero_le _, Nat.zero_le _⟩) hM (fun H locs hM => ?_)
              refine lv_if_eq (tgt := 252) hx hb dX10_next_243 (by decide) (fun hc37 => ?_) (fun hc37 => ?_)
              · have hf := it_p hf hc37
                obtain rfl := Option.some.inj hf
                subst hQ
                exact ev_vret S hr hlocks hK hZ hM dX10_next_252
              · have hf := it_n hf hc37
                refine lv_aload_n hx hb dX10_next_246 rfl (lv_at hl 0 rfl) ?_
                refine lv_bipush (v := (7 : Int32)) hx hb dX10_next_247 (by decide) ?_
                refine ev_put S hK hM (ci := 10) (n := 23) (C := RX10) (T := TX10) hin10 tyX10 tyX10_ok nmX10 rfl hg10 8 (by decide) lk146 rfl rfl rfl rfl rfl (Nat.le_of_ble_eq_true rfl) rfl dX10_next_249 (fun I38 eI38 H locs hM => ?_)
                have hf := nm_x eI38 hf
                obtain rfl := Option.some.inj hf
                subst hQ
                exact ev_vret S hr hlocks hK hZ hM dX10_next_252
            have hf := ej35
            refine lv_if_eq (tgt := 237) hx hb dX10_next_228 (by decide) (fun hc34 => ?_) (fun hc34 => ?_)
            · have hf := it_p hf hc34
              obtain rfl := Option.some.inj hf
              exact kj35 _ _ _ hM (hl)
            · have hf := it_n hf hc34
              refine lv_aload_n hx hb dX10_next_231 rfl (lv_at hl 0 rfl) ?_
              refine lv_bipush (v := (6 : Int32)) hx hb dX10_next_232 (by decide) ?_
              refine ev_put S hK hM (ci := 10) (n := 23) (C := RX10) (T := TX10) hin10 tyX10 tyX10_ok nmX10 rfl hg10 8 (by decide) lk146 rfl rfl rfl rfl rfl (Nat.le_of_ble_eq_true rfl) rfl dX10_next_234 (fun I39 eI39 H locs hM => ?_)
              have hf := nm_x eI39 hf
              obtain rfl := Option.some.inj hf
              exact kj35 _ _ _ hM (hl)
          have hf := ej32
          refine lv_if_eq (tgt := 222) hx hb dX10_next_214 (by decide) (fun hc31 => ?_) (fun hc31 => ?_)
          · have hf := it_p hf hc31
            obtain rfl := Option.some.inj hf
            exact kj32 _ _ _ hM (hl)
          · have hf := it_n hf hc31
            refine lv_aload_n hx hb dX10_next_217 rfl (lv_at hl 0 rfl) ?_
            refine lv_iconst (v := (5 : Int32)) hx hb dX10_next_218 (by decide) ?_
            refine ev_put S hK hM (ci := 10) (n := 23) (C := RX10) (T := TX10) hin10 tyX10 tyX10_ok nmX10 rfl hg10 8 (by decide) lk146 rfl rfl rfl rfl rfl (Nat.le_of_ble_eq_true rfl) rfl dX10_next_219 (fun I40 eI40 H locs hM => ?_)
            have hf := nm_x eI40 hf
            obtain rfl := Option.some.inj hf
            exact kj32 _ _ _ hM (hl)
        have hf := ej29
        refine lv_if_eq (tgt := 208) hx hb dX10_next_200 (by decide) (fun hc28 => ?_) (fun hc28 => ?_)
        · have hf := it_p hf hc28
          obtain rfl := Option.some.inj hf
          exact kj29 _ _ _ hM (hl)
        · have hf := it_n hf hc28
          refine lv_aload_n hx hb dX10_next_203 rfl (lv_at hl 0 rfl) ?_
          refine lv_iconst (v := (4 : Int32)) hx hb dX10_next_204 (by decide) ?_
          refine ev_put S hK hM (ci := 10) (n := 23) (C := RX10) (T := TX10) hin10 tyX10 tyX10_ok nmX10 rfl hg10 8 (by decide) lk146 rfl rfl rfl rfl rfl (Nat.le_of_ble_eq_true rfl) rfl dX10_next_205 (fun I41 eI41 H locs hM => ?_)
          have hf := nm_x eI41 hf
          obtain rfl := Option.some.inj hf
          exact kj29 _ _ _ hM (hl)
      have hf := ej26
      refine lv_if_eq (tgt := 194) hx hb dX10_next_186 (by decide) (fun hc25 => ?_) (fun hc25 => ?_)
      · have hf := it_p hf hc25
        obtain rfl := Option.some.inj hf
        exact kj26 _ _ _ hM (hl)
      · have hf := it_n hf hc25
        refine lv_aload_n hx hb dX10_next_189 rfl (lv_at hl 0 rfl) ?_
        refine lv_iconst (v := (3 : Int32)) hx hb dX10_next_190 (by decide) ?_
        refine ev_put S hK hM (ci := 10) (n := 23) (C := RX10) (T := TX10) hin10 tyX10 tyX10_ok nmX10 rfl hg10 8 (by decide) lk146 rfl rfl rfl rfl rfl (Nat.le_of_ble_eq_true rfl) rfl dX10_next_191 (fun I42 eI42 H locs hM => ?_)
        have hf := nm_x eI42 hf
        obtain rfl := Option.some.inj hf
        exact kj26 _ _ _ hM (hl)
    · have hf := it_n hf hc17
      refine lv_aload_n hx hb dX10_next_73 rfl (lv_at hl 0 rfl) ?_
      refine lv_iconst (v := (0 : Int32)) hx hb dX10_next_74 (by decide) ?_
      refine ev_put S hK hM (ci := 10) (n := 23) (C := RX10) (T := TX10) hin10 tyX10 tyX10_ok nmX10 rfl hg10 9 (by decide) lk149 rfl rfl rfl rfl rfl (Nat.le_of_ble_eq_true rfl) rfl dX10_next_75 (fun I43 eI43 H locs hM => ?_)
      have hf := nm_x eI43 hf
      have lp78_51 : ∀ (n : Nat) (I44 : Nat → Nat → Int32) (H : Heap) (locs : List Loc) (ls : Array Slot) (r45 : (Nat → Nat → Int32)), mm_W D cs A L K N s.heap I44 P H locs → lv_has ls 1 [(0, .ref a0)] → fn_X10_next_L78 K N a0 P n I44 = some r45 → (∀ (H : Heap) (locs : List Loc) (ls : Array Slot), mm_W D cs A L K N s.heap r45 P H locs → lv_has ls 1 [(0, .ref a0)] → W p l e (headSpec wz_X10_next rm_X10_next).room s m ([.ref a0] : List Value).toArray below meth c H locs 0 0 QQ (F0 m 130 ls [])) → W p l e (headSpec wz_X10_next rm_X10_next).room s m ([.ref a0] : List Value).toArray below meth c H locs 0 0 QQ (F0 m 78 ls []) := by
        intro n
        induction n with
        | zero => intro I44 H locs ls r45 hM hl hf kk; exact nn_x (show (none : Option ((Nat → Nat → Int32))) = some r45 from hf)
        | succ n ih =>
          intro I44 H locs ls r45 hM hl hf kk
          rw [fn_X10_next_L78] at hf
          refine lv_aload_n hx hb dX10_next_78 rfl (lv_at hl 0 rfl) ?_
          refine bd_e hf (fun r46 er46 hf => ?_)
          refine ev_calli (va_runV (As := []) (rest := []) S (c_X10_here (l := l) I44 P a0 r46 er46) (cwV 0 hts (gi_v wa_5_84 wa_5_86 wa_s_37 wa_1_11 wa_5_87) rfl rfl rfl (by decide +kernel) ⟨Nat.le_of_ble_eq_true rfl, Nat.le_of_ble_eq_true rfl⟩) ⟨mm_B_blind, ev_recv hK hM (ci := 10) rfl hg10 rfl, fun U hU hW => ⟨rfl, mm_B_of hK hZ hM hU hW⟩⟩ rfl rfl hl.1 rfl (lv_room (Nat.le_of_ble_eq_true rfl)) dX10_next_79 ⟨Nat.zero_le _, Nat.zero_le _⟩) hM (fun H locs hM => ?_)
          refine lv_bipush (v := (48 : Int32)) hx hb dX10_next_82 (by decide) ?_
          refine lv_bipush (v := (57 : Int32)) hx hb dX10_next_84 (by decide) ?_
          refine bd_e hf (fun r47 er47 hf => ?_)
          refine ev_calli (va_runS (As := [.int r46, .int (48 : Int32), .int (57 : Int32)]) (rest := []) S (c_X10_isIn (l := l) I44 P r46 (48 : Int32) (57 : Int32) r47 er47) (va_cwS 3 hts (gi_s wa_4_218 wa_4_219 wa_1_11 wa_4_220) rfl rfl rfl (by decide +kernel) ⟨Nat.le_of_ble_eq_true rfl, Nat.le_of_ble_eq_true rfl⟩) ⟨mm_B_blind, fun U hU hW => ⟨rfl, mm_B_of hK hZ hM hU hW⟩⟩ rfl rfl hl.1 rfl (lv_room (Nat.le_of_ble_eq_true rfl)) dX10_next_86 ⟨Nat.zero_le _, Nat.zero_le _⟩) hM (fun H locs hM => ?_)
          refine lv_if_eq (tgt := 130) hx hb dX10_next_89 (by decide) (fun hc48 => ?_) (fun hc48 => ?_)
          · have hf := it_p hf hc48
            obtain rfl := Option.some.inj hf
            exact kk _ _ _ hM (hl)
          · have hf := it_n hf hc48
            refine lv_aload_n hx hb dX10_next_92 rfl (lv_at hl 0 rfl) ?_
            refine lv_bipush (v := (10 : Int32)) hx hb dX10_next_93 (by decide) ?_
            refine lv_aload_n hx hb dX10_next_95 rfl (lv_at hl 0 rfl) ?_
            refine ev_get (v := .int (I44 a0 9)) S hK hM (ci := 10) (n := 23) (C := RX10) (T := TX10) hin10 rfl hg10 9 (by decide) lk149 rfl rfl rfl dX10_next_96 ?_
            refine lv_sipush (v := (1000 : Int32)) hx hb dX10_next_99 (by decide) ?_
            refine va_mmin hx hb (hml.trans hl.1.symm) hown (hWA _ wa_5_35) (hWA _ wa_2_133) (hWA _ wa_1_13) (hWA _ wa_2_134) (Nat.le_of_ble_eq_true rfl) (Nat.le_of_ble_eq_true rfl) (Nat.zero_le _) (Nat.zero_le _) dX10_next_102 ?_
            refine lv_imul hx hb dX10_next_105 ?_
            refine lv_aload_n hx hb dX10_next_106 rfl (lv_at hl 0 rfl) ?_
            refine bd_e hf (fun r49 er49 hf => ?_)
            refine ev_calli (va_runV (As := []) (rest := [.int ((10 : Int32) * (if (1000 : Int32) < (I44 a0 9) then (1000 : Int32) else (I44 a0 9))), .ref a0]) S (c_X10_here (l := l) I44 P a0 r49 er49) (cwV 0 hts (gi_v wa_5_84 wa_5_86 wa_s_37 wa_1_11 wa_5_87) rfl rfl rfl (by decide +kernel) ⟨Nat.le_of_ble_eq_true rfl, Nat.le_of_ble_eq_true rfl⟩) ⟨mm_B_blind, ev_recv hK hM (ci := 10) rfl hg10 rfl, fun U hU hW => ⟨rfl, mm_B_of hK hZ hM hU hW⟩⟩ rfl rfl hl.1 rfl (lv_room (Nat.le_of_ble_eq_true rfl)) dX10_next_107 ⟨Nat.zero_le _, Nat.zero_le _⟩) hM (fun H locs hM => ?_)
            refine lv_iadd hx hb dX10_next_110 ?_
            refine lv_bipush (v := (48 : Int32)) hx hb dX10_next_111 (by decide) ?_
            refine lv_isub hx hb dX10_next_113 ?_
            refine ev_put S hK hM (ci := 10) (n := 23) (C := RX10) (T := TX10) hin10 tyX10 tyX10_ok nmX10 rfl hg10 9 (by decide) lk149 rfl rfl rfl rfl rfl (Nat.le_of_ble_eq_true rfl) rfl dX10_next_114 (fun I50 eI50 H locs hM => ?_)
            have hf := nm_x eI50 hf
            refine lv_aload_n hx hb dX10_next_117 rfl (lv_at hl 0 rfl) ?_
            refine lv_dup hx hb dX10_next_118 rfl ?_
            refine ev_get (v := .int (I50 a0 6)) S hK hM (ci := 10) (n := 23) (C := RX10) (T := TX10) hin10 rfl hg10 6 (by decide) lk128 rfl rfl rfl dX10_next_119 ?_
            refine lv_iconst (v := (1 : Int32)) hx hb dX10_next_122 (by decide) ?_
            refine lv_iadd hx hb dX10_next_123 ?_
            refine ev_put S hK hM (ci := 10) (n := 23) (C := RX10) (T := TX10) hin10 tyX10 tyX10_ok nmX10 rfl hg10 6 (by decide) lk128 rfl rfl rfl rfl rfl (Nat.le_of_ble_eq_true rfl) rfl dX10_next_124 (fun I51 eI51 H locs hM => ?_)
            have hf := nm_x eI51 hf
            refine lv_goto (tgt := 78) hx hb dX10_next_127 (by decide) ?_
            exact ih I51 _ _ _ _ hM (hl) hf kk
      refine bd_e hf (fun r45 er45 hf => ?_)
      refine lp78_51 FU I43 _ _ _ r45 hM (hl) er45 (fun H locs ls hM hl => ?_)
      refine lv_aload_n hx hb dX10_next_130 rfl (lv_at hl 0 rfl) ?_
      refine lv_aload_n hx hb dX10_next_131 rfl (lv_at hl 0 rfl) ?_
      refine ev_get (v := .int (r45 a0 6)) S hK hM (ci := 10) (n := 23) (C := RX10) (T := TX10) hin10 rfl hg10 6 (by decide) lk128 rfl rfl rfl dX10_next_132 ?_
      refine lv_aload_n hx hb dX10_next_135 rfl (lv_at hl 0 rfl) ?_
      refine ev_get (v := .int (r45 a0 7)) S hK hM (ci := 10) (n := 23) (C := RX10) (T := TX10) hin10 rfl hg10 7 (by decide) lk131 rfl rfl rfl dX10_next_136 ?_
      refine lv_isub hx hb dX10_next_139 ?_
      refine lv_iconst (v := (2 : Int32)) hx hb dX10_next_140 (by decide) ?_
      refine lv_icmp_le (tgt := 148) hx hb dX10_next_141 (by decide) (fun hc52 => ?_) (fun hc52 => ?_)
      · have hf := it_p hf hc52
        refine lv_iconst (v := (2 : Int32)) hx hb dX10_next_148 (by decide) ?_
        refine ev_put S hK hM (ci := 10) (n := 23) (C := RX10) (T := TX10) hin10 tyX10 tyX10_ok nmX10 rfl hg10 8 (by decide) lk146 rfl rfl rfl rfl rfl (Nat.le_of_ble_eq_true rfl) rfl dX10_next_149 (fun I53 eI53 H locs hM => ?_)
        have hf := nm_x eI53 hf
        obtain rfl := Option.some.inj hf
        subst hQ
        exact ev_vret S hr hlocks hK hZ hM dX10_next_152
      · have hf := it_n hf hc52
        refine lv_iconst (v := (1 : Int32)) hx hb dX10_next_144 (by decide) ?_
        refine lv_goto (tgt := 149) hx hb dX10_next_145 (by decide) ?_
        refine ev_put S hK hM (ci := 10) (n := 23) (C := RX10) (T := TX10) hin10 tyX10 tyX10_ok nmX10 rfl hg10 8 (by decide) lk146 rfl rfl rfl rfl rfl (Nat.le_of_ble_eq_true rfl) rfl dX10_next_149 (fun I54 eI54 H locs hM => ?_)
        have hf := nm_x eI54 hf
        obtain rfl := Option.some.inj hf
        subst hQ
        exact ev_vret S hr hlocks hK hZ hM dX10_next_152
  have hf := ej13
  refine lv_icmp_ne (tgt := 55) hx hb dX10_next_48 (by decide) (fun hc12 => ?_) (fun hc12 => ?_)
  · have hf := it_n hf hc12
    refine lv_iconst (v := (1 : Int32)) hx hb dX10_next_55 (by decide) ?_
    obtain rfl := Option.some.inj hf
    exact kj13 _ _ _ hM (hl)
  · have hf := it_p hf hc12
    refine lv_iconst (v := (0 : Int32)) hx hb dX10_next_51 (by decide) ?_
    refine lv_goto (tgt := 56) hx hb dX10_next_52 (by decide) ?_
    obtain rfl := Option.some.inj hf
    exact kj13 _ _ _ hM (hl)
noncomputable def fn_X10_number (K N : Nat → Nat) (I : Nat → Nat → Int32) (P : Nat → Nat → Option Nat) (a0 : Nat) (x1 : Int32) : Option (Int32 × (Nat → Nat → Int32)) := Option.bind (fn_X10_next K N I P a0) (fun (r1 : (Nat → Nat → Int32)) => gd (K a0 = 11) (if (r1 a0 8) = (2 : Int32) then (if x1 ≤ (r1 a0 9) then (some ((-1 : Int32), r1)) else (some ((r1 a0 9), r1))) else (some ((-1 : Int32), r1))))
abbrev wz_X10_number : List Cond := Cond.code yX10_number cX10_number 2 (some .int) :: WA
abbrev rm_X10_number : Room := { frames := 7, cells := 0, slots := 0, locals := 140 }
set_option maxHeartbeats 4000000 in
set_option maxRecDepth 100000 in
theorem c_X10_number (I : Nat → Nat → Int32) (P : Nat → Nat → Option Nat) (a0 : Nat) (x1 : Int32) (res : Int32 × (Nat → Nat → Int32)) (hf : fn_X10_number K N I P a0 x1 = some res) : Met l yX10_number wz_X10_number rm_X10_number (va_Pc [.ref a0, .int x1] (mm_B D cs A L K N z w I P)) (va_Qi (fun r (_ : Unit) => r = res.1) (fun _ => mm_B D cs A L K N z w res.2 P) A) 0 0 A := by
  refine Met.ofW (cc := cX10_number) (maxL := 2) (ret := (some .int)) (by decide) rfl ?_
  intro p e s m args below meth c s₁ B hml hv
  obtain ⟨rfl, hBm⟩ := hv
  have hx := B.exec
  have hb := B.bytes
  have hr := B.returns
  have hts := atoms_spec (ws := wz_X10_number) B.pre
  have hWA : ∀ w ∈ WA, w.before ([.ref a0, .int x1] : List Value).toArray s = true := fun u9 h9 => hts u9 (List.mem_cons_of_mem _ h9)
  have hown : s.vm.findClass RX10 = some m.cls := findClass_of_methodNamed B.named
  have hlocks := B.notSynchronized
  have S : CallFix p m c cX10_number 2 s ([.ref a0, .int x1] : List Value).toArray wz_X10_number RX10 := ⟨hx, hb, hml, hown, hts⟩
  have hK := hBm.2.2.2.1
  have hZ := hBm.2.2.2.2
  have hM : mm_W D cs A L K N s.heap I P s.heap [] := ⟨hBm.1, hBm.2.1, hBm.2.2.1, va_S.rf⟩
  have hl := lv_entry ([.ref a0, .int x1]) (n := 2) (Nat.le_of_ble_eq_true rfl)
  rw [lg_entry_eq]
  generalize (lg_sl ([.ref a0, .int x1]) ++ List.replicate (2 - (lg_sl ([.ref a0, .int x1])).length) Slot.unset).toArray = ls at hl ⊢
  have hl : lv_has ls 2 [(0, .ref a0), (1, .int x1)] := hl
  have hin10 : ∀ w ∈ wsX100, w ∈ wz_X10_number := fun w h => List.mem_cons_of_mem _ (wu_X10 w h)
  have lk146 : (Cond.fieldLink RX10 146 RX10 "token" "I").before ([.ref a0, .int x1] : List Value).toArray s = true := hWA _ wa_4_149
  have lk149 : (Cond.fieldLink RX10 149 RX10 "value" "I").before ([.ref a0, .int x1] : List Value).toArray s = true := hWA _ wa_4_150
  generalize hQ : MQ below (va_Qi (fun r (_ : Unit) => r = res.1) (fun _ => mm_B D cs A L K N z w res.2 P) A) ([.ref a0, .int x1] : List Value).toArray s 0 0 A = QQ
  rw [fn_X10_number] at hf
  refine lv_aload_n hx hb dX10_number_0 rfl (lv_at hl 0 rfl) ?_
  refine bd_e hf (fun r1 er1 hf => ?_)
  refine gd_e hf (fun hg2 hf => ?_)
  refine ev_callv (va_runV (As := []) (rest := []) S (c_X10_next (l := l) I P a0 r1 er1) (cwV 0 hts (gi_v wa_5_80 wa_5_82 wa_s_36 wa_1_11 wa_5_83) rfl rfl rfl (by decide +kernel) ⟨Nat.le_of_ble_eq_true rfl, Nat.le_of_ble_eq_true rfl⟩) ⟨mm_B_blind, ev_recv hK hM (ci := 10) rfl hg2 rfl, fun U hU hW => ⟨rfl, mm_B_of hK hZ hM hU hW⟩⟩ rfl rfl hl.1 rfl (lv_room (Nat.le_of_ble_eq_true rfl)) dX10_number_1 ⟨Nat.zero_le _, Nat.zero_le _⟩) hM (fun H locs hM => ?_)
  refine lv_aload_n hx hb dX10_number_4 rfl (lv_at hl 0 rfl) ?_
  refine ev_get (v := .int (r1 a0 8)) S hK hM (ci := 10) (n := 23) (C := RX10) (T := TX10) hin10 rfl hg2 8 (by decide) lk146 rfl rfl rfl dX10_number_5 ?_
  refine lv_iconst (v := (2 : Int32)) hx hb dX10_number_8 (by decide) ?_
  refine lv_icmp_ne (tgt := 27) hx hb dX10_number_9 (by decide) (fun hc3 => ?_) (fun hc3 => ?_)
  · have hf := it_n hf hc3
    refine lv_iconst (v := (-1 : Int32)) hx hb dX10_number_27 (by decide) ?_
    obtain rfl := Option.some.inj hf
    subst hQ
    exact ev_iret S hr hlocks hK hZ hM dX10_number_28
  · have hf := it_p hf hc3
    refine lv_aload_n hx hb dX10_number_12 rfl (lv_at hl 0 rfl) ?_
    refine ev_get (v := .int (r1 a0 9)) S hK hM (ci := 10) (n := 23) (C := RX10) (T := TX10) hin10 rfl hg2 9 (by decide) lk149 rfl rfl rfl dX10_number_13 ?_
    refine lv_iload_n hx hb dX10_number_16 rfl (lv_at hl 1 rfl) ?_
    refine lv_icmp_ge (tgt := 27) hx hb dX10_number_17 (by decide) (fun hc4 => ?_) (fun hc4 => ?_)
    · have hf := it_p hf hc4
      refine lv_iconst (v := (-1 : Int32)) hx hb dX10_number_27 (by decide) ?_
      obtain rfl := Option.some.inj hf
      subst hQ
      exact ev_iret S hr hlocks hK hZ hM dX10_number_28
    · have hf := it_n hf hc4
      refine lv_aload_n hx hb dX10_number_20 rfl (lv_at hl 0 rfl) ?_
      refine ev_get (v := .int (r1 a0 9)) S hK hM (ci := 10) (n := 23) (C := RX10) (T := TX10) hin10 rfl hg2 9 (by decide) lk149 rfl rfl rfl dX10_number_21 ?_
      refine lv_goto (tgt := 28) hx hb dX10_number_24 (by decide) ?_
      obtain rfl := Option.some.inj hf
      subst hQ
      exact ev_iret S hr hlocks hK hZ hM dX10_number_28
noncomputable def fn_X10_lineTo_L26 (K : Nat → Nat) (N : Nat → Nat) (a0 : Nat) (x1 : Int32) (x2 : Int32) (x3 : Int32) (P : Nat → Nat → Option Nat) (v2 : Int32) : Nat → Int32 → (Nat → Nat → Int32) → Option ((Nat → Nat → Int32))
  | 0, _, _ => none
  | n + 1, v3, I4 => if v2 < v3 then (some I4) else (if x1 < 0 then (some I4) else (Option.bind (fn_J9_floorDiv_7cf53 ((((2 : Int32) * v3) * (x2 - (I4 a0 10))) + v2) ((2 : Int32) * v2)) (fun (r8 : Int32) => Option.bind (fn_J9_floorDiv_7cf53 ((((2 : Int32) * v3) * (x3 - (I4 a0 11))) + v2) ((2 : Int32) * v2)) (fun (r9 : Int32) => Option.bind (fn_X10_stamps K N I4 P a0 x1 ((I4 a0 10) + r8) ((I4 a0 11) + r9)) (fun (r10 : (Nat → Nat → Int32)) => fn_X10_lineTo_L26 K N a0 x1 x2 x3 P v2 n (v3 + (1 : Int32)) r10)))))
noncomputable def fn_X10_lineTo (K N : Nat → Nat) (I : Nat → Nat → Int32) (P : Nat → Nat → Option Nat) (a0 : Nat) (x1 : Int32) (x2 : Int32) (x3 : Int32) : Option ((Nat → Nat → Int32)) := gd (K a0 = 11) (Option.bind (some (if (if 0 ≤ (x2 - (I a0 10)) then (x2 - (I a0 10)) else 0 - (x2 - (I a0 10))) < (if 0 ≤ (x3 - (I a0 11)) then (x3 - (I a0 11)) else 0 - (x3 - (I a0 11))) then (if 0 ≤ (x3 - (I a0 11)) then (x3 - (I a0 11)) else 0 - (x3 - (I a0 11))) else (if 0 ≤ (x2 - (I a0 10)) then (x2 - (I a0 10)) else 0 - (x2 - (I a0 10))))) (fun v2 => Option.bind (fn_X10_lineTo_L26 K N a0 x1 x2 x3 P v2 FU (1 : Int32) I) (fun (r5 : (Nat → Nat → Int32)) => Option.bind (some (up2 r5 a0 14 ((r5 a0 14) + v2))) (fun I11 => Option.bind (some (up2 I11 a0 10 x2)) (fun I12 => Option.bind (some (up2 I12 a0 11 x3)) (fun I13 => some I13))))))
abbrev wz_X10_lineTo : List Cond := Cond.code yX10_lineTo cX10_lineTo 6 none :: WA
abbrev rm_X10_lineTo : Room := { frames := 4, cells := 0, slots := 0, locals := 81 }
set_option maxHeartbeats 4000000 in
set_option maxRecDepth 100000 in
theorem c_X10_lineTo (I : Nat → Nat → Int32) (P : Nat → Nat → Option Nat) (a0 : Nat) (x1 : Int32) (x2 : Int32) (x3 : Int32) (res : (Nat → Nat → Int32)) (hf : fn_X10_lineTo K N I P a0 x1 x2 x3 = some res) : Met l yX10_lineTo wz_X10_lineTo rm_X10_lineTo (va_Pc [.ref a0, .int x1, .int x2, .int x3] (mm_B D cs A L K N z w I P)) (va_Qv (fun (_ : Unit) => True) (fun _ => mm_B D cs A L K N z w res P) A) 0 0 A := by
  refine Met.ofW (cc := cX10_lineTo) (maxL := 6) (ret := none) (by decide) rfl ?_
  intro p e s m args below meth c s₁ B hml hv
  obtain ⟨rfl, hBm⟩ := hv
  have hx := B.exec
  have hb := B.bytes
  have hr := B.returns
  have hts := atoms_spec (ws := wz_X10_lineTo) B.pre
  have hWA : ∀ w ∈ WA, w.before ([.ref a0, .int x1, .int x2, .int x3] : List Value).toArray s = true := fun u9 h9 => hts u9 (List.mem_cons_of_mem _ h9)
  have hown : s.vm.findClass RX10 = some m.cls := findClass_of_methodNamed B.named
  have hlocks := B.notSynchronized
  have S : CallFix p m c cX10_lineTo 6 s ([.ref a0, .int x1, .int x2, .int x3] : List Value).toArray wz_X10_lineTo RX10 := ⟨hx, hb, hml, hown, hts⟩
  have hK := hBm.2.2.2.1
  have hZ := hBm.2.2.2.2
  have hM : mm_W D cs A L K N s.heap I P s.heap [] := ⟨hBm.1, hBm.2.1, hBm.2.2.1, va_S.rf⟩
  have hl := lv_entry ([.ref a0, .int x1, .int x2, .int x3]) (n := 6) (Nat.le_of_ble_eq_true rfl)
  rw [lg_entry_eq]
  generalize (lg_sl ([.ref a0, .int x1, .int x2, .int x3]) ++ List.replicate (6 - (lg_sl ([.ref a0, .int x1, .int x2, .int x3])).length) Slot.unset).toArray = ls at hl ⊢
  have hl : lv_has ls 6 [(0, .ref a0), (1, .int x1), (2, .int x2), (3, .int x3)] := hl
  have hin10 : ∀ w ∈ wsX100, w ∈ wz_X10_lineTo := fun w h => List.mem_cons_of_mem _ (wu_X10 w h)
  have lk169 : (Cond.fieldLink RX10 169 RX10 "nowX" "I").before ([.ref a0, .int x1, .int x2, .int x3] : List Value).toArray s = true := hWA _ wa_4_151
  have lk172 : (Cond.fieldLink RX10 172 RX10 "nowY" "I").before ([.ref a0, .int x1, .int x2, .int x3] : List Value).toArray s = true := hWA _ wa_4_152
  have lk181 : (Cond.fieldLink RX10 181 RX10 "stamped" "I").before ([.ref a0, .int x1, .int x2, .int x3] : List Value).toArray s = true := hWA _ wa_4_155
  generalize hQ : MQ below (va_Qv (fun (_ : Unit) => True) (fun _ => mm_B D cs A L K N z w res P) A) ([.ref a0, .int x1, .int x2, .int x3] : List Value).toArray s 0 0 A = QQ
  rw [fn_X10_lineTo] at hf
  refine lv_iload_n hx hb dX10_lineTo_0 rfl (lv_at hl 2 rfl) ?_
  refine lv_aload_n hx hb dX10_lineTo_1 rfl (lv_at hl 0 rfl) ?_
  refine gd_e hf (fun hg1 hf => ?_)
  refine ev_get (v := .int (I a0 10)) S hK hM (ci := 10) (n := 23) (C := RX10) (T := TX10) hin10 rfl hg1 10 (by decide) lk169 rfl rfl rfl dX10_lineTo_2 ?_
  refine lv_isub hx hb dX10_lineTo_5 ?_
  refine va_mabs hx hb (hml.trans hl.1.symm) hown (hWA _ wa_5_66) (hWA _ wa_2_136) (hWA _ wa_1_13) (hWA _ wa_2_137) (Nat.le_of_ble_eq_true rfl) (Nat.le_of_ble_eq_true rfl) (Nat.zero_le _) (Nat.zero_le _) dX10_lineTo_6 ?_
  refine lv_iload_n hx hb dX10_lineTo_9 rfl (lv_at hl 3 rfl) ?_
  refine lv_aload_n hx hb dX10_lineTo_10 rfl (lv_at hl 0 rfl) ?_
  refine ev_get (v := .int (I a0 11)) S hK hM (ci := 10) (n := 23) (C := RX10) (T := TX10) hin10 rfl hg1 11 (by decide) lk172 rfl rfl rfl dX10_lineTo_11 ?_
  refine lv_isub hx hb dX10_lineTo_14 ?_
  refine va_mabs hx hb (hml.trans hl.1.symm) hown (hWA _ wa_5_66) (hWA _ wa_2_136) (hWA _ wa_1_13) (hWA _ wa_2_137) (Nat.le_of_ble_eq_true rfl) (Nat.le_of_ble_eq_true rfl) (Nat.zero_le _) (Nat.zero_le _) dX10_lineTo_15 ?_
  refine va_mmax hx hb (hml.trans hl.1.symm) hown (hWA _ wa_5_34) (hWA _ wa_2_130) (hWA _ wa_1_13) (hWA _ wa_2_131) (Nat.le_of_ble_eq_true rfl) (Nat.le_of_ble_eq_true rfl) (Nat.zero_le _) (Nat.zero_le _) dX10_lineTo_18 ?_
  refine lv_topi (fun v2 ev2 => ?_)
  have hf := nm_x ev2 hf
  refine lv_istore (lv' := [(4, .int v2), (0, .ref a0), (1, .int x1), (2, .int x2), (3, .int x3)]) hx hb dX10_lineTo_21 hl (by decide) rfl (fun ls hl => ?_)
  refine lv_iconst (v := (1 : Int32)) hx hb dX10_lineTo_23 (by decide) ?_
  refine lv_istore (lv' := [(5, .int (1 : Int32)), (4, .int v2), (0, .ref a0), (1, .int x1), (2, .int x2), (3, .int x3)]) hx hb dX10_lineTo_24 hl (by decide) rfl (fun ls hl => ?_)
  have lp26_10 : ∀ (n : Nat) (v3 : Int32) (I4 : Nat → Nat → Int32) (H : Heap) (locs : List Loc) (ls : Array Slot) (r5 : (Nat → Nat → Int32)), mm_W D cs A L K N s.heap I4 P H locs → lv_has ls 6 [(0, .ref a0), (1, .int x1), (2, .int x2), (3, .int x3), (4, .int v2), (5, .int v3)] → fn_X10_lineTo_L26 K N a0 x1 x2 x3 P v2 n v3 I4 = some r5 → (∀ (H : Heap) (locs : List Loc) (ls : Array Slot), mm_W D cs A L K N s.heap r5 P H locs → lv_has ls 6 [(0, .ref a0), (2, .int x2), (3, .int x3), (4, .int v2)] → W p l e (headSpec wz_X10_lineTo rm_X10_lineTo).room s m ([.ref a0, .int x1, .int x2, .int x3] : List Value).toArray below meth c H locs 0 0 QQ (F0 m 100 ls [])) → W p l e (headSpec wz_X10_lineTo rm_X10_lineTo).room s m ([.ref a0, .int x1, .int x2, .int x3] : List Value).toArray below meth c H locs 0 0 QQ (F0 m 26 ls []) := by
    intro n
    induction n with
    | zero => intro v3 I4 H locs ls r5 hM hl hf kk; exact nn_x (show (none : Option ((Nat → Nat → Int32))) = some r5 from hf)
    | succ n ih =>
      intro v3 I4 H locs ls r5 hM hl hf kk
      rw [fn_X10_lineTo_L26] at hf
      refine lv_iload hx hb dX10_lineTo_26 (lv_at hl 5 rfl) ?_
      refine lv_iload hx hb dX10_lineTo_28 (lv_at hl 4 rfl) ?_
      refine lv_icmp_gt (tgt := 100) hx hb dX10_lineTo_30 (by decide) (fun hc6 => ?_) (fun hc6 => ?_)
      · have hf := it_p hf hc6
        obtain rfl := Option.some.inj hf
        exact kk _ _ _ hM (lv_sub hl [0, 2, 3, 4] rfl)
      · have hf := it_n hf hc6
        refine lv_iload_n hx hb dX10_lineTo_33 rfl (lv_at hl 1 rfl) ?_
        refine lv_if_lt (tgt := 100) hx hb dX10_lineTo_34 (by decide) (fun hc7 => ?_) (fun hc7 => ?_)
        · have hf := it_p hf hc7
          obtain rfl := Option.some.inj hf
          exact kk _ _ _ hM (lv_sub hl [0, 2, 3, 4] rfl)
        · have hf := it_n hf hc7
          refine lv_aload_n hx hb dX10_lineTo_37 rfl (lv_at hl 0 rfl) ?_
          refine lv_iload_n hx hb dX10_lineTo_38 rfl (lv_at hl 1 rfl) ?_
          refine lv_aload_n hx hb dX10_lineTo_39 rfl (lv_at hl 0 rfl) ?_
          refine ev_get (v := .int (I4 a0 10)) S hK hM (ci := 10) (n := 23) (C := RX10) (T := TX10) hin10 rfl hg1 10 (by decide) lk169 rfl rfl rfl dX10_lineTo_40 ?_
          refine lv_iconst (v := (2 : Int32)) hx hb dX10_lineTo_43 (by decide) ?_
          refine lv_iload hx hb dX10_lineTo_44 (lv_at hl 5 rfl) ?_
          refine lv_imul hx hb dX10_lineTo_46 ?_
          refine lv_iload_n hx hb dX10_lineTo_47 rfl (lv_at hl 2 rfl) ?_
          refine lv_aload_n hx hb dX10_lineTo_48 rfl (lv_at hl 0 rfl) ?_
          refine ev_get (v := .int (I4 a0 10)) S hK hM (ci := 10) (n := 23) (C := RX10) (T := TX10) hin10 rfl hg1 10 (by decide) lk169 rfl rfl rfl dX10_lineTo_49 ?_
          refine lv_isub hx hb dX10_lineTo_52 ?_
          refine lv_imul hx hb dX10_lineTo_53 ?_
          refine lv_iload hx hb dX10_lineTo_54 (lv_at hl 4 rfl) ?_
          refine lv_iadd hx hb dX10_lineTo_56 ?_
          refine lv_iconst (v := (2 : Int32)) hx hb dX10_lineTo_57 (by decide) ?_
          refine lv_iload hx hb dX10_lineTo_58 (lv_at hl 4 rfl) ?_
          refine lv_imul hx hb dX10_lineTo_60 ?_
          refine bd_e hf (fun r8 er8 hf => ?_)
          refine ev_calli (va_runS (As := [.int ((((2 : Int32) * v3) * (x2 - (I4 a0 10))) + v2), .int ((2 : Int32) * v2)]) (rest := [.int (I4 a0 10), .int x1, .ref a0]) S (c_J9_floorDiv_7cf53 (l := l) I4 P ((((2 : Int32) * v3) * (x2 - (I4 a0 10))) + v2) ((2 : Int32) * v2) r8 er8) (va_cwS 2 hts (gi_s wa_5_127 wa_3_109 wa_1_13 wa_3_110) rfl rfl rfl (by decide +kernel) ⟨Nat.le_of_ble_eq_true rfl, Nat.le_of_ble_eq_true rfl⟩) ⟨mm_B_blind, fun U hU hW => ⟨rfl, mm_B_of hK hZ hM hU hW⟩⟩ rfl rfl hl.1 rfl (lv_room (Nat.le_of_ble_eq_true rfl)) dX10_lineTo_61 ⟨Nat.zero_le _, Nat.zero_le _⟩) hM (fun H locs hM => ?_)
          refine lv_iadd hx hb dX10_lineTo_64 ?_
          refine lv_aload_n hx hb dX10_lineTo_65 rfl (lv_at hl 0 rfl) ?_
          refine ev_get (v := .int (I4 a0 11)) S hK hM (ci := 10) (n := 23) (C := RX10) (T := TX10) hin10 rfl hg1 11 (by decide) lk172 rfl rfl rfl dX10_lineTo_66 ?_
          refine lv_iconst (v := (2 : Int32)) hx hb dX10_lineTo_69 (by decide) ?_
          refine lv_iload hx hb dX10_lineTo_70 (lv_at hl 5 rfl) ?_
          refine lv_imul hx hb dX10_lineTo_72 ?_
          refine lv_iload_n hx hb dX10_lineTo_73 rfl (lv_at hl 3 rfl) ?_
          refine lv_aload_n hx hb dX10_lineTo_74 rfl (lv_at hl 0 rfl) ?_
          refine ev_get (v := .int (I4 a0 11)) S hK hM (ci := 10) (n := 23) (C := RX10) (T := TX10) hin10 rfl hg1 11 (by decide) lk172 rfl rfl rfl dX10_lineTo_75 ?_
          refine lv_isub hx hb dX10_lineTo_78 ?_
          refine lv_imul hx hb dX10_lineTo_79 ?_
          refine lv_iload hx hb dX10_lineTo_80 (lv_at hl 4 rfl) ?_
          refine lv_iadd hx hb dX10_lineTo_82 ?_
          refine lv_iconst (v := (2 : Int32)) hx hb dX10_lineTo_83 (by decide) ?_
          refine lv_iload hx hb dX10_lineTo_84 (lv_at hl 4 rfl) ?_
          refine lv_imul hx hb dX10_lineTo_86 ?_
          refine bd_e hf (fun r9 er9 hf => ?_)
          refine ev_calli (va_runS (As := [.int ((((2 : Int32) * v3) * (x3 - (I4 a0 11))) + v2), .int ((2 : Int32) * v2)]) (rest := [.int (I4 a0 11), .int ((I4 a0 10) + r8), .int x1, .ref a0]) S (c_J9_floorDiv_7cf53 (l := l) I4 P ((((2 : Int32) * v3) * (x3 - (I4 a0 11))) + v2) ((2 : Int32) * v2) r9 er9) (va_cwS 2 hts (gi_s wa_5_127 wa_3_109 wa_1_13 wa_3_110) rfl rfl rfl (by decide +kernel) ⟨Nat.le_of_ble_eq_true rfl, Nat.le_of_ble_eq_true rfl⟩) ⟨mm_B_blind, fun U hU hW => ⟨rfl, mm_B_of hK hZ hM hU hW⟩⟩ rfl rfl hl.1 rfl (lv_room (Nat.le_of_ble_eq_true rfl)) dX10_lineTo_87 ⟨Nat.zero_le _, Nat.zero_le _⟩) hM (fun H locs hM => ?_)
          refine lv_iadd hx hb dX10_lineTo_90 ?_
          refine bd_e hf (fun r10 er10 hf => ?_)
          refine ev_callv (va_runV (As := [.int x1, .int ((I4 a0 10) + r8), .int ((I4 a0 11) + r9)]) (rest := []) S (c_X10_stamps (l := l) I4 P a0 x1 ((I4 a0 10) + r8) ((I4 a0 11) + r9) r10 er10) (cwV 3 hts (gi_v wa_5_111 wa_5_113 wa_s_42 wa_1_11 wa_5_114) rfl rfl rfl (by decide +kernel) ⟨Nat.le_of_ble_eq_true rfl, Nat.le_of_ble_eq_true rfl⟩) ⟨mm_B_blind, ev_recv hK hM (ci := 10) rfl hg1 rfl, fun U hU hW => ⟨rfl, mm_B_of hK hZ hM hU hW⟩⟩ rfl rfl hl.1 rfl (lv_room (Nat.le_of_ble_eq_true rfl)) dX10_lineTo_91 ⟨Nat.zero_le _, Nat.zero_le _⟩) hM (fun H locs hM => ?_)
          refine lv_iinc (v := (v3 + (1 : Int32))) (lv' := [(5, .int (v3 + (1 : Int32))), (0, .ref a0), (1, .int x1), (2, .int x2), (3, .int x3), (4, .int v2)]) hx hb dX10_lineTo_94 hl (k := 5) rfl rfl (by decide) rfl (fun ls hl => ?_)
          refine lv_goto (tgt := 26) hx hb dX10_lineTo_97 (by decide) ?_
          exact ih (v3 + (1 : Int32)) r10 _ _ _ _ hM (lv_sub hl [1, 2, 3, 4, 5, 0] rfl) hf kk
  refine bd_e hf (fun r5 er5 hf => ?_)
  refine lp26_10 FU (1 : Int32) I _ _ _ r5 hM (lv_sub hl [2, 3, 4, 5, 1, 0] rfl) er5 (fun H locs ls hM hl => ?_)
  refine lv_aload_n hx hb dX10_lineTo_100 rfl (lv_at hl 0 rfl) ?_
  refine lv_dup hx hb dX10_lineTo_101 rfl ?_
  refine ev_get (v := .int (r5 a0 14)) S hK hM (ci := 10) (n := 23) (C := RX10) (T := TX10) hin10 rfl hg1 14 (by decide) lk181 rfl rfl rfl dX10_lineTo_102 ?_
  refine lv_iload hx hb dX10_lineTo_105 (lv_at hl 3 rfl) ?_
  refine lv_iadd hx hb dX10_lineTo_107 ?_
  refine ev_put S hK hM (ci := 10) (n := 23) (C := RX10) (T := TX10) hin10 tyX10 tyX10_ok nmX10 rfl hg1 14 (by decide) lk181 rfl rfl rfl rfl rfl (Nat.le_of_ble_eq_true rfl) rfl dX10_lineTo_108 (fun I11 eI11 H locs hM => ?_)
  have hf := nm_x eI11 hf
  refine lv_aload_n hx hb dX10_lineTo_111 rfl (lv_at hl 0 rfl) ?_
  refine lv_iload_n hx hb dX10_lineTo_112 rfl (lv_at hl 1 rfl) ?_
  refine ev_put S hK hM (ci := 10) (n := 23) (C := RX10) (T := TX10) hin10 tyX10 tyX10_ok nmX10 rfl hg1 10 (by decide) lk169 rfl rfl rfl rfl rfl (Nat.le_of_ble_eq_true rfl) rfl dX10_lineTo_113 (fun I12 eI12 H locs hM => ?_)
  have hf := nm_x eI12 hf
  refine lv_aload_n hx hb dX10_lineTo_116 rfl (lv_at hl 0 rfl) ?_
  refine lv_iload_n hx hb dX10_lineTo_117 rfl (lv_at hl 2 rfl) ?_
  refine ev_put S hK hM (ci := 10) (n := 23) (C := RX10) (T := TX10) hin10 tyX10 tyX10_ok nmX10 rfl hg1 11 (by decide) lk172 rfl rfl rfl rfl rfl (Nat.le_of_ble_eq_true rfl) rfl dX10_lineTo_118 (fun I13 eI13 H locs hM => ?_)
  have hf := nm_x eI13 hf
  obtain rfl := Option.some.inj hf
  subst hQ
  exact ev_vret S hr hlocks hK hZ hM dX10_lineTo_121
noncomputable def fn_X10_moveTo (K N : Nat → Nat) (I : Nat → Nat → Int32) (P : Nat → Nat → Option Nat) (a0 : Nat) (x1 : Int32) (x2 : Int32) (x3 : Int32) : Option ((Nat → Nat → Int32)) := Option.bind (if x1 < 0 then (some I) else (Option.bind (fn_X10_stamps K N I P a0 x1 x2 x3) (fun (r9 : (Nat → Nat → Int32)) => gd (K a0 = 11) (some r9)))) (fun (j2 : (Nat → Nat → Int32)) => gd (K a0 = 11) (Option.bind (some (up2 j2 a0 14 (1 : Int32))) (fun I4 => Option.bind (some (up2 I4 a0 10 x2)) (fun I5 => Option.bind (some (up2 I5 a0 11 x3)) (fun I6 => Option.bind (some (up2 I6 a0 12 x2)) (fun I7 => Option.bind (some (up2 I7 a0 13 x3)) (fun I8 => some I8)))))))
abbrev wz_X10_moveTo : List Cond := Cond.code yX10_moveTo cX10_moveTo 4 none :: WA
abbrev rm_X10_moveTo : Room := { frames := 4, cells := 0, slots := 0, locals := 81 }
set_option maxHeartbeats 4000000 in
set_option maxRecDepth 100000 in
theorem c_X10_moveTo (I : Nat → Nat → Int32) (P : Nat → Nat → Option Nat) (a0 : Nat) (x1 : Int32) (x2 : Int32) (x3 : Int32) (res : (Nat → Nat → Int32)) (hf : fn_X10_moveTo K N I P a0 x1 x2 x3 = some res) : Met l yX10_moveTo wz_X10_moveTo rm_X10_moveTo (va_Pc [.ref a0, .int x1, .int x2, .int x3] (mm_B D cs A L K N z w I P)) (va_Qv (fun (_ : Unit) => True) (fun _ => mm_B D cs A L K N z w res P) A) 0 0 A := by
  refine Met.ofW (cc := cX10_moveTo) (maxL := 4) (ret := none) (by decide) rfl ?_
  intro p e s m args below meth c s₁ B hml hv
  obtain ⟨rfl, hBm⟩ := hv
  have hx := B.exec
  have hb := B.bytes
  have hr := B.returns
  have hts := atoms_spec (ws := wz_X10_moveTo) B.pre
  have hWA : ∀ w ∈ WA, w.before ([.ref a0, .int x1, .int x2, .int x3] : List Value).toArray s = true := fun u9 h9 => hts u9 (List.mem_cons_of_mem _ h9)
  have hown : s.vm.findClass RX10 = some m.cls := findClass_of_methodNamed B.named
  have hlocks := B.notSynchronized
  have S : CallFix p m c cX10_moveTo 4 s ([.ref a0, .int x1, .int x2, .int x3] : List Value).toArray wz_X10_moveTo RX10 := ⟨hx, hb, hml, hown, hts⟩
  have hK := hBm.2.2.2.1
  have hZ := hBm.2.2.2.2
  have hM : mm_W D cs A L K N s.heap I P s.heap [] := ⟨hBm.1, hBm.2.1, hBm.2.2.1, va_S.rf⟩
  have hl := lv_entry ([.ref a0, .int x1, .int x2, .int x3]) (n := 4) (Nat.le_of_ble_eq_true rfl)
  rw [lg_entry_eq]
  generalize (lg_sl ([.ref a0, .int x1, .int x2, .int x3]) ++ List.replicate (4 - (lg_sl ([.ref a0, .int x1, .int x2, .int x3])).length) Slot.unset).toArray = ls at hl ⊢
  have hl : lv_has ls 4 [(0, .ref a0), (1, .int x1), (2, .int x2), (3, .int x3)] := hl
  have hin10 : ∀ w ∈ wsX100, w ∈ wz_X10_moveTo := fun w h => List.mem_cons_of_mem _ (wu_X10 w h)
  have lk181 : (Cond.fieldLink RX10 181 RX10 "stamped" "I").before ([.ref a0, .int x1, .int x2, .int x3] : List Value).toArray s = true := hWA _ wa_4_155
  have lk169 : (Cond.fieldLink RX10 169 RX10 "nowX" "I").before ([.ref a0, .int x1, .int x2, .int x3] : List Value).toArray s = true := hWA _ wa_4_151
  have lk172 : (Cond.fieldLink RX10 172 RX10 "nowY" "I").before ([.ref a0, .int x1, .int x2, .int x3] : List Value).toArray s = true := hWA _ wa_4_152
  have lk184 : (Cond.fieldLink RX10 184 RX10 "fromX" "I").before ([.ref a0, .int x1, .int x2, .int x3] : List Value).toArray s = true := hWA _ wa_4_153
  have lk187 : (Cond.fieldLink RX10 187 RX10 "fromY" "I").before ([.ref a0, .int x1, .int x2, .int x3] : List Value).toArray s = true := hWA _ wa_4_154
  generalize hQ : MQ below (va_Qv (fun (_ : Unit) => True) (fun _ => mm_B D cs A L K N z w res P) A) ([.ref a0, .int x1, .int x2, .int x3] : List Value).toArray s 0 0 A = QQ
  rw [fn_X10_moveTo] at hf
  refine lv_iload_n hx hb dX10_moveTo_0 rfl (lv_at hl 1 rfl) ?_
  refine bd_e hf (fun j2 ej2 hf => ?_)
  have kj2 : ∀ (H : Heap) (locs : List Loc) (ls : Array Slot), mm_W D cs A L K N s.heap j2 P H locs → lv_has ls 4 [(0, .ref a0), (2, .int x2), (3, .int x3)] → W p l e (headSpec wz_X10_moveTo rm_X10_moveTo).room s m ([.ref a0, .int x1, .int x2, .int x3] : List Value).toArray below meth c H locs 0 0 QQ (F0 m 11 ls []) := by
    intro H locs ls hM hl
    refine lv_aload_n hx hb dX10_moveTo_11 rfl (lv_at hl 0 rfl) ?_
    refine lv_iconst (v := (1 : Int32)) hx hb dX10_moveTo_12 (by decide) ?_
    refine gd_e hf (fun hg3 hf => ?_)
    refine ev_put S hK hM (ci := 10) (n := 23) (C := RX10) (T := TX10) hin10 tyX10 tyX10_ok nmX10 rfl hg3 14 (by decide) lk181 rfl rfl rfl rfl rfl (Nat.le_of_ble_eq_true rfl) rfl dX10_moveTo_13 (fun I4 eI4 H locs hM => ?_)
    have hf := nm_x eI4 hf
    refine lv_aload_n hx hb dX10_moveTo_16 rfl (lv_at hl 0 rfl) ?_
    refine lv_iload_n hx hb dX10_moveTo_17 rfl (lv_at hl 1 rfl) ?_
    refine ev_put S hK hM (ci := 10) (n := 23) (C := RX10) (T := TX10) hin10 tyX10 tyX10_ok nmX10 rfl hg3 10 (by decide) lk169 rfl rfl rfl rfl rfl (Nat.le_of_ble_eq_true rfl) rfl dX10_moveTo_18 (fun I5 eI5 H locs hM => ?_)
    have hf := nm_x eI5 hf
    refine lv_aload_n hx hb dX10_moveTo_21 rfl (lv_at hl 0 rfl) ?_
    refine lv_iload_n hx hb dX10_moveTo_22 rfl (lv_at hl 2 rfl) ?_
    refine ev_put S hK hM (ci := 10) (n := 23) (C := RX10) (T := TX10) hin10 tyX10 tyX10_ok nmX10 rfl hg3 11 (by decide) lk172 rfl rfl rfl rfl rfl (Nat.le_of_ble_eq_true rfl) rfl dX10_moveTo_23 (fun I6 eI6 H locs hM => ?_)
    have hf := nm_x eI6 hf
    refine lv_aload_n hx hb dX10_moveTo_26 rfl (lv_at hl 0 rfl) ?_
    refine lv_iload_n hx hb dX10_moveTo_27 rfl (lv_at hl 1 rfl) ?_
    refine ev_put S hK hM (ci := 10) (n := 23) (C := RX10) (T := TX10) hin10 tyX10 tyX10_ok nmX10 rfl hg3 12 (by decide) lk184 rfl rfl rfl rfl rfl (Nat.le_of_ble_eq_true rfl) rfl dX10_moveTo_28 (fun I7 eI7 H locs hM => ?_)
    have hf := nm_x eI7 hf
    refine lv_aload_n hx hb dX10_moveTo_31 rfl (lv_at hl 0 rfl) ?_
    refine lv_iload_n hx hb dX10_moveTo_32 rfl (lv_at hl 2 rfl) ?_
    refine ev_put S hK hM (ci := 10) (n := 23) (C := RX10) (T := TX10) hin10 tyX10 tyX10_ok nmX10 rfl hg3 13 (by decide) lk187 rfl rfl rfl rfl rfl (Nat.le_of_ble_eq_true rfl) rfl dX10_moveTo_33 (fun I8 eI8 H locs hM => ?_)
    have hf := nm_x eI8 hf
    obtain rfl := Option.some.inj hf
    subst hQ
    exact ev_vret S hr hlocks hK hZ hM dX10_moveTo_36
  have hf := ej2
  refine lv_if_lt (tgt := 11) hx hb dX10_moveTo_1 (by decide) (fun hc1 => ?_) (fun hc1 => ?_)
  · have hf := it_p hf hc1
    obtain rfl := Option.some.inj hf
    exact kj2 _ _ _ hM (lv_sub hl [0, 2, 3] rfl)
  · have hf := it_n hf hc1
    refine lv_aload_n hx hb dX10_moveTo_4 rfl (lv_at hl 0 rfl) ?_
    refine lv_iload_n hx hb dX10_moveTo_5 rfl (lv_at hl 1 rfl) ?_
    refine lv_iload_n hx hb dX10_moveTo_6 rfl (lv_at hl 2 rfl) ?_
    refine lv_iload_n hx hb dX10_moveTo_7 rfl (lv_at hl 3 rfl) ?_
    refine bd_e hf (fun r9 er9 hf => ?_)
    refine gd_e hf (fun hg10 hf => ?_)
    refine ev_callv (va_runV (As := [.int x1, .int x2, .int x3]) (rest := []) S (c_X10_stamps (l := l) I P a0 x1 x2 x3 r9 er9) (cwV 3 hts (gi_v wa_5_111 wa_5_113 wa_s_42 wa_1_11 wa_5_114) rfl rfl rfl (by decide +kernel) ⟨Nat.le_of_ble_eq_true rfl, Nat.le_of_ble_eq_true rfl⟩) ⟨mm_B_blind, ev_recv hK hM (ci := 10) rfl hg10 rfl, fun U hU hW => ⟨rfl, mm_B_of hK hZ hM hU hW⟩⟩ rfl rfl hl.1 rfl (lv_room (Nat.le_of_ble_eq_true rfl)) dX10_moveTo_8 ⟨Nat.zero_le _, Nat.zero_le _⟩) hM (fun H locs hM => ?_)
    obtain rfl := Option.some.inj hf
    exact kj2 _ _ _ hM (lv_sub hl [0, 2, 3] rfl)
noncomputable def fn_X10_goes (K N : Nat → Nat) (I : Nat → Nat → Int32) (P : Nat → Nat → Option Nat) (a0 : Nat) (x1 : Int32) : Option (Int32 × (Nat → Nat → Int32)) := gd (K a0 = 11) (if (3 : Int32) ≤ (I a0 8) then (Option.bind (some (I a0 8)) (fun v3 => Option.bind (if v3 = (3 : Int32) then (Option.bind (fn_X10_number K N I P a0 (16 : Int32)) (fun (r19 : Int32 × (Nat → Nat → Int32)) => some (r19.1, r19.2))) else (if v3 = (4 : Int32) then (Option.bind (fn_X10_number K N I P a0 (16 : Int32)) (fun (r21 : Int32 × (Nat → Nat → Int32)) => some (r21.1, r21.2))) else (if v3 = (5 : Int32) then (Option.bind (fn_X10_number K N I P a0 (16 : Int32)) (fun (r24 : Int32 × (Nat → Nat → Int32)) => some (r24.1, r24.2))) else (if v3 = (7 : Int32) then (some ((I a0 12), I)) else (some ((I a0 10), I)))))) (fun (j5 : Int32 × (Nat → Nat → Int32)) => if 0 ≤ j5.1 then (Option.bind (if v3 = (3 : Int32) then (Option.bind (fn_X10_number K N j5.2 P a0 (12 : Int32)) (fun (r13 : Int32 × (Nat → Nat → Int32)) => some (r13.1, r13.2))) else (if v3 = (4 : Int32) then (Option.bind (fn_X10_number K N j5.2 P a0 (12 : Int32)) (fun (r15 : Int32 × (Nat → Nat → Int32)) => some (r15.1, r15.2))) else (if v3 = (6 : Int32) then (Option.bind (fn_X10_number K N j5.2 P a0 (12 : Int32)) (fun (r18 : Int32 × (Nat → Nat → Int32)) => some (r18.1, r18.2))) else (if v3 = (7 : Int32) then (some ((j5.2 a0 13), j5.2)) else (some ((j5.2 a0 11), j5.2)))))) (fun (j8 : Int32 × (Nat → Nat → Int32)) => if 0 ≤ j8.1 then (if v3 = (3 : Int32) then (Option.bind (fn_X10_moveTo K N j8.2 P a0 x1 j5.1 j8.1) (fun (r12 : (Nat → Nat → Int32)) => some ((1 : Int32), r12))) else (Option.bind (fn_X10_lineTo K N j8.2 P a0 x1 j5.1 j8.1) (fun (r11 : (Nat → Nat → Int32)) => some ((1 : Int32), r11)))) else (some ((0 : Int32), j8.2)))) else (some ((0 : Int32), j5.2))))) else (some ((0 : Int32), I)))
abbrev wz_X10_goes : List Cond := Cond.code yX10_goes cX10_goes 5 (some .boolean) :: WA
abbrev rm_X10_goes : Room := { frames := 8, cells := 0, slots := 0, locals := 161 }
set_option maxHeartbeats 4000000 in
set_option maxRecDepth 100000 in
theorem c_X10_goes (I : Nat → Nat → Int32) (P : Nat → Nat → Option Nat) (a0 : Nat) (x1 : Int32) (res : Int32 × (Nat → Nat → Int32)) (hf : fn_X10_goes K N I P a0 x1 = some res) : Met l yX10_goes wz_X10_goes rm_X10_goes (va_Pc [.ref a0, .int x1] (mm_B D cs A L K N z w I P)) (va_Qi (fun r (_ : Unit) => r = res.1) (fun _ => mm_B D cs A L K N z w res.2 P) A) 0 0 A := by
  refine Met.ofW (cc := cX10_goes) (maxL := 5) (ret := (some .boolean)) (by decide) rfl ?_
  intro p e s m args below meth c s₁ B hml hv
  obtain ⟨rfl, hBm⟩ := hv
  have hx := B.exec
  have hb := B.bytes
  have hr := B.returns
  have hts := atoms_spec (ws := wz_X10_goes) B.pre
  have hWA : ∀ w ∈ WA, w.before ([.ref a0, .int x1] : List Value).toArray s = true := fun u9 h9 => hts u9 (List.mem_cons_of_mem _ h9)
  have hown : s.vm.findClass RX10 = some m.cls := findClass_of_methodNamed B.named
  have hlocks := B.notSynchronized
  have S : CallFix p m c cX10_goes 5 s ([.ref a0, .int x1] : List Value).toArray wz_X10_goes RX10 := ⟨hx, hb, hml, hown, hts⟩
  have hK := hBm.2.2.2.1
  have hZ := hBm.2.2.2.2
  have hM : mm_W D cs A L K N s.heap I P s.heap [] := ⟨hBm.1, hBm.2.1, hBm.2.2.1, va_S.rf⟩
  have hl := lv_entry ([.ref a0, .int x1]) (n := 5) (Nat.le_of_ble_eq_true rfl)
  rw [lg_entry_eq]
  generalize (lg_sl ([.ref a0, .int x1]) ++ List.replicate (5 - (lg_sl ([.ref a0, .int x1])).length) Slot.unset).toArray = ls at hl ⊢
  have hl : lv_has ls 5 [(0, .ref a0), (1, .int x1)] := hl
  have hin10 : ∀ w ∈ wsX100, w ∈ wz_X10_goes := fun w h => List.mem_cons_of_mem _ (wu_X10 w h)
  have lk146 : (Cond.fieldLink RX10 146 RX10 "token" "I").before ([.ref a0, .int x1] : List Value).toArray s = true := hWA _ wa_4_149
  have lk169 : (Cond.fieldLink RX10 169 RX10 "nowX" "I").before ([.ref a0, .int x1] : List Value).toArray s = true := hWA _ wa_4_151
  have lk184 : (Cond.fieldLink RX10 184 RX10 "fromX" "I").before ([.ref a0, .int x1] : List Value).toArray s = true := hWA _ wa_4_153
  have lk172 : (Cond.fieldLink RX10 172 RX10 "nowY" "I").before ([.ref a0, .int x1] : List Value).toArray s = true := hWA _ wa_4_152
  have lk187 : (Cond.fieldLink RX10 187 RX10 "fromY" "I").before ([.ref a0, .int x1] : List Value).toArray s = true := hWA _ wa_4_154
  generalize hQ : MQ below (va_Qi (fun r (_ : Unit) => r = res.1) (fun _ => mm_B D cs A L K N z w res.2 P) A) ([.ref a0, .int x1] : List Value).toArray s 0 0 A = QQ
  rw [fn_X10_goes] at hf
  refine lv_aload_n hx hb dX10_goes_0 rfl (lv_at hl 0 rfl) ?_
  refine gd_e hf (fun hg1 hf => ?_)
  refine ev_get (v := .int (I a0 8)) S hK hM (ci := 10) (n := 23) (C := RX10) (T := TX10) hin10 rfl hg1 8 (by decide) lk146 rfl rfl rfl dX10_goes_1 ?_
  refine lv_iconst (v := (3 : Int32)) hx hb dX10_goes_4 (by decide) ?_
  refine lv_icmp_ge (tgt := 10) hx hb dX10_goes_5 (by decide) (fun hc2 => ?_) (fun hc2 => ?_)
  · have hf := it_p hf hc2
    refine lv_aload_n hx hb dX10_goes_10 rfl (lv_at hl 0 rfl) ?_
    refine ev_get (v := .int (I a0 8)) S hK hM (ci := 10) (n := 23) (C := RX10) (T := TX10) hin10 rfl hg1 8 (by decide) lk146 rfl rfl rfl dX10_goes_11 ?_
    refine lv_topi (fun v3 ev3 => ?_)
    have hf := nm_x ev3 hf
    refine lv_istore_n (lv' := [(2, .int v3), (0, .ref a0), (1, .int x1)]) hx hb dX10_goes_14 rfl hl (by decide) rfl (fun ls hl => ?_)
    refine lv_iload_n hx hb dX10_goes_15 rfl (lv_at hl 0 rfl) ?_
    refine lv_iconst (v := (3 : Int32)) hx hb dX10_goes_16 (by decide) ?_
    refine bd_e hf (fun j5 ej5 hf => ?_)
    have kj5 : ∀ (H : Heap) (locs : List Loc) (ls : Array Slot), mm_W D cs A L K N s.heap j5.2 P H locs → lv_has ls 5 [(0, .ref a0), (1, .int x1), (2, .int v3)] → W p l e (headSpec wz_X10_goes rm_X10_goes).room s m ([.ref a0, .int x1] : List Value).toArray below meth c H locs 0 0 QQ (F0 m 56 ls [.int j5.1]) := by
      intro H locs ls hM hl
      refine lv_istore_n (lv' := [(3, .int j5.1), (0, .ref a0), (1, .int x1), (2, .int v3)]) hx hb dX10_goes_56 rfl hl (by decide) rfl (fun ls hl => ?_)
      refine lv_iload_n hx hb dX10_goes_57 rfl (lv_at hl 0 rfl) ?_
      refine lv_if_ge (tgt := 63) hx hb dX10_goes_58 (by decide) (fun hc6 => ?_) (fun hc6 => ?_)
      · have hf := it_p hf hc6
        refine lv_iload_n hx hb dX10_goes_63 rfl (lv_at hl 3 rfl) ?_
        refine lv_iconst (v := (3 : Int32)) hx hb dX10_goes_64 (by decide) ?_
        refine bd_e hf (fun j8 ej8 hf => ?_)
        have kj8 : ∀ (H : Heap) (locs : List Loc) (ls : Array Slot), mm_W D cs A L K N s.heap j8.2 P H locs → lv_has ls 5 [(0, .ref a0), (1, .int x1), (2, .int v3), (3, .int j5.1)] → W p l e (headSpec wz_X10_goes rm_X10_goes).room s m ([.ref a0, .int x1] : List Value).toArray below meth c H locs 0 0 QQ (F0 m 105 ls [.int j8.1]) := by
          intro H locs ls hM hl
          refine lv_istore (lv' := [(4, .int j8.1), (0, .ref a0), (1, .int x1), (2, .int v3), (3, .int j5.1)]) hx hb dX10_goes_105 hl (by decide) rfl (fun ls hl => ?_)
          refine lv_iload hx hb dX10_goes_107 (lv_at hl 0 rfl) ?_
          refine lv_if_ge (tgt := 114) hx hb dX10_goes_109 (by decide) (fun hc9 => ?_) (fun hc9 => ?_)
          · have hf := it_p hf hc9
            refine lv_iload_n hx hb dX10_goes_114 rfl (lv_at hl 3 rfl) ?_
            refine lv_iconst (v := (3 : Int32)) hx hb dX10_goes_115 (by decide) ?_
            refine lv_icmp_ne (tgt := 130) hx hb dX10_goes_116 (by decide) (fun hc10 => ?_) (fun hc10 => ?_)
            · have hf := it_n hf hc10
              refine lv_aload_n hx hb dX10_goes_130 rfl (lv_at hl 1 rfl) ?_
              refine lv_iload_n hx hb dX10_goes_131 rfl (lv_at hl 2 rfl) ?_
              refine lv_iload_n hx hb dX10_goes_132 rfl (lv_at hl 4 rfl) ?_
              refine lv_iload hx hb dX10_goes_133 (lv_at hl 0 rfl) ?_
              refine bd_e hf (fun r11 er11 hf => ?_)
              refine ev_callv (va_runV (As := [.int x1, .int j5.1, .int j8.1]) (rest := []) S (c_X10_lineTo (l := l) j8.2 P a0 x1 j5.1 j8.1 r11 er11) (cwV 3 hts (gi_v wa_5_123 wa_5_125 wa_s_45 wa_1_11 wa_5_126) rfl rfl rfl (by decide +kernel) ⟨Nat.le_of_ble_eq_true rfl, Nat.le_of_ble_eq_true rfl⟩) ⟨mm_B_blind, ev_recv hK hM (ci := 10) rfl hg1 rfl, fun U hU hW => ⟨rfl, mm_B_of hK hZ hM hU hW⟩⟩ rfl rfl hl.1 rfl (lv_room (Nat.le_of_ble_eq_true rfl)) dX10_goes_135 ⟨Nat.zero_le _, Nat.zero_le _⟩) hM (fun H locs hM => ?_)
              refine lv_iconst (v := (1 : Int32)) hx hb dX10_goes_138 (by decide) ?_
              obtain rfl := Option.some.inj hf
              subst hQ
              exact ev_zret (v := (1 : Int32)) S hr hlocks hK hZ hM rfl dX10_goes_139
            · have hf := it_p hf hc10
              refine lv_aload_n hx hb dX10_goes_119 rfl (lv_at hl 1 rfl) ?_
              refine lv_iload_n hx hb dX10_goes_120 rfl (lv_at hl 2 rfl) ?_
              refine lv_iload_n hx hb dX10_goes_121 rfl (lv_at hl 4 rfl) ?_
              refine lv_iload hx hb dX10_goes_122 (lv_at hl 0 rfl) ?_
              refine bd_e hf (fun r12 er12 hf => ?_)
              refine ev_callv (va_runV (As := [.int x1, .int j5.1, .int j8.1]) (rest := []) S (c_X10_moveTo (l := l) j8.2 P a0 x1 j5.1 j8.1 r12 er12) (cwV 3 hts (gi_v wa_5_107 wa_5_109 wa_s_41 wa_1_11 wa_5_110) rfl rfl rfl (by decide +kernel) ⟨Nat.le_of_ble_eq_true rfl, Nat.le_of_ble_eq_true rfl⟩) ⟨mm_B_blind, ev_recv hK hM (ci := 10) rfl hg1 rfl, fun U hU hW => ⟨rfl, mm_B_of hK hZ hM hU hW⟩⟩ rfl rfl hl.1 rfl (lv_room (Nat.le_of_ble_eq_true rfl)) dX10_goes_124 ⟨Nat.zero_le _, Nat.zero_le _⟩) hM (fun H locs hM => ?_)
              refine lv_goto (tgt := 138) hx hb dX10_goes_127 (by decide) ?_
              refine lv_iconst (v := (1 : Int32)) hx hb dX10_goes_138 (by decide) ?_
              obtain rfl := Option.some.inj hf
              subst hQ
              exact ev_zret (v := (1 : Int32)) S hr hlocks hK hZ hM rfl dX10_goes_139
          · have hf := it_n hf hc9
            refine lv_iconst (v := (0 : Int32)) hx hb dX10_goes_112 (by decide) ?_
            obtain rfl := Option.some.inj hf
            subst hQ
            exact ev_zret (v := (0 : Int32)) S hr hlocks hK hZ hM rfl dX10_goes_113
        have hf := ej8
        refine lv_icmp_eq (tgt := 79) hx hb dX10_goes_65 (by decide) (fun hc7 => ?_) (fun hc7 => ?_)
        · have hf := it_p hf hc7
          refine lv_aload_n hx hb dX10_goes_79 rfl (lv_at hl 1 rfl) ?_
          refine lv_bipush (v := (12 : Int32)) hx hb dX10_goes_80 (by decide) ?_
          refine bd_e hf (fun r13 er13 hf => ?_)
          refine ev_calli (va_runV (As := [.int (12 : Int32)]) (rest := []) S (c_X10_number (l := l) j5.2 P a0 (12 : Int32) r13 er13) (cwV 1 hts (gi_v wa_5_103 wa_5_105 wa_s_40 wa_1_11 wa_5_106) rfl rfl rfl (by decide +kernel) ⟨Nat.le_of_ble_eq_true rfl, Nat.le_of_ble_eq_true rfl⟩) ⟨mm_B_blind, ev_recv hK hM (ci := 10) rfl hg1 rfl, fun U hU hW => ⟨rfl, mm_B_of hK hZ hM hU hW⟩⟩ rfl rfl hl.1 rfl (lv_room (Nat.le_of_ble_eq_true rfl)) dX10_goes_82 ⟨Nat.zero_le _, Nat.zero_le _⟩) hM (fun H locs hM => ?_)
          refine lv_goto (tgt := 105) hx hb dX10_goes_85 (by decide) ?_
          obtain rfl := Option.some.inj hf
          exact kj8 _ _ _ hM (lv_sub hl [1, 2, 3, 0] rfl)
        · have hf := it_n hf hc7
          refine lv_iload_n hx hb dX10_goes_68 rfl (lv_at hl 3 rfl) ?_
          refine lv_iconst (v := (4 : Int32)) hx hb dX10_goes_69 (by decide) ?_
          refine lv_icmp_eq (tgt := 79) hx hb dX10_goes_70 (by decide) (fun hc14 => ?_) (fun hc14 => ?_)
          · have hf := it_p hf hc14
            refine lv_aload_n hx hb dX10_goes_79 rfl (lv_at hl 1 rfl) ?_
            refine lv_bipush (v := (12 : Int32)) hx hb dX10_goes_80 (by decide) ?_
            refine bd_e hf (fun r15 er15 hf => ?_)
            refine ev_calli (va_runV (As := [.int (12 : Int32)]) (rest := []) S (c_X10_number (l := l) j5.2 P a0 (12 : Int32) r15 er15) (cwV 1 hts (gi_v wa_5_103 wa_5_105 wa_s_40 wa_1_11 wa_5_106) rfl rfl rfl (by decide +kernel) ⟨Nat.le_of_ble_eq_true rfl, Nat.le_of_ble_eq_true rfl⟩) ⟨mm_B_blind, ev_recv hK hM (ci := 10) rfl hg1 rfl, fun U hU hW => ⟨rfl, mm_B_of hK hZ hM hU hW⟩⟩ rfl rfl hl.1 rfl (lv_room (Nat.le_of_ble_eq_true rfl)) dX10_goes_82 ⟨Nat.zero_le _, Nat.zero_le _⟩) hM (fun H locs hM => ?_)
            refine lv_goto (tgt := 105) hx hb dX10_goes_85 (by decide) ?_
            obtain rfl := Option.some.inj hf
            exact kj8 _ _ _ hM (lv_sub hl [1, 2, 3, 0] rfl)
          · have hf := it_n hf hc14
            refine lv_iload_n hx hb dX10_goes_73 rfl (lv_at hl 3 rfl) ?_
            refine lv_bipush (v := (6 : Int32)) hx hb dX10_goes_74 (by decide) ?_
            refine lv_icmp_ne (tgt := 88) hx hb dX10_goes_76 (by decide) (fun hc16 => ?_) (fun hc16 => ?_)
            · have hf := it_n hf hc16
              refine lv_iload_n hx hb dX10_goes_88 rfl (lv_at hl 3 rfl) ?_
              refine lv_bipush (v := (7 : Int32)) hx hb dX10_goes_89 (by decide) ?_
              refine lv_icmp_ne (tgt := 101) hx hb dX10_goes_91 (by decide) (fun hc17 => ?_) (fun hc17 => ?_)
              · have hf := it_n hf hc17
                refine lv_aload_n hx hb dX10_goes_101 rfl (lv_at hl 1 rfl) ?_
                refine ev_get (v := .int (j5.2 a0 11)) S hK hM (ci := 10) (n := 23) (C := RX10) (T := TX10) hin10 rfl hg1 11 (by decide) lk172 rfl rfl rfl dX10_goes_102 ?_
                obtain rfl := Option.some.inj hf
                exact kj8 _ _ _ hM (lv_sub hl [1, 2, 3, 0] rfl)
              · have hf := it_p hf hc17
                refine lv_aload_n hx hb dX10_goes_94 rfl (lv_at hl 1 rfl) ?_
                refine ev_get (v := .int (j5.2 a0 13)) S hK hM (ci := 10) (n := 23) (C := RX10) (T := TX10) hin10 rfl hg1 13 (by decide) lk187 rfl rfl rfl dX10_goes_95 ?_
                refine lv_goto (tgt := 105) hx hb dX10_goes_98 (by decide) ?_
                obtain rfl := Option.some.inj hf
                exact kj8 _ _ _ hM (lv_sub hl [1, 2, 3, 0] rfl)
            · have hf := it_p hf hc16
              refine lv_aload_n hx hb dX10_goes_79 rfl (lv_at hl 1 rfl) ?_
              refine lv_bipush (v := (12 : Int32)) hx hb dX10_goes_80 (by decide) ?_
              refine bd_e hf (fun r18 er18 hf => ?_)
              refine ev_calli (va_runV (As := [.int (12 : Int32)]) (rest := []) S (c_X10_number (l := l) j5.2 P a0 (12 : Int32) r18 er18) (cwV 1 hts (gi_v wa_5_103 wa_5_105 wa_s_40 wa_1_11 wa_5_106) rfl rfl rfl (by decide +kernel) ⟨Nat.le_of_ble_eq_true rfl, Nat.le_of_ble_eq_true rfl⟩) ⟨mm_B_blind, ev_recv hK hM (ci := 10) rfl hg1 rfl, fun U hU hW => ⟨rfl, mm_B_of hK hZ hM hU hW⟩⟩ rfl rfl hl.1 rfl (lv_room (Nat.le_of_ble_eq_true rfl)) dX10_goes_82 ⟨Nat.zero_le _, Nat.zero_le _⟩) hM (fun H locs hM => ?_)
              refine lv_goto (tgt := 105) hx hb dX10_goes_85 (by decide) ?_
              obtain rfl := Option.some.inj hf
              exact kj8 _ _ _ hM (lv_sub hl [1, 2, 3, 0] rfl)
      · have hf := it_n hf hc6
        refine lv_iconst (v := (0 : Int32)) hx hb dX10_goes_61 (by decide) ?_
        obtain rfl := Option.some.inj hf
        subst hQ
        exact ev_zret (v := (0 : Int32)) S hr hlocks hK hZ hM rfl dX10_goes_62
    have hf := ej5
    refine lv_icmp_eq (tgt := 30) hx hb dX10_goes_17 (by decide) (fun hc4 => ?_) (fun hc4 => ?_)
    · have hf := it_p hf hc4
      refine lv_aload_n hx hb dX10_goes_30 rfl (lv_at hl 1 rfl) ?_
      refine lv_bipush (v := (16 : Int32)) hx hb dX10_goes_31 (by decide) ?_
      refine bd_e hf (fun r19 er19 hf => ?_)
      refine ev_calli (va_runV (As := [.int (16 : Int32)]) (rest := []) S (c_X10_number (l := l) I P a0 (16 : Int32) r19 er19) (cwV 1 hts (gi_v wa_5_103 wa_5_105 wa_s_40 wa_1_11 wa_5_106) rfl rfl rfl (by decide +kernel) ⟨Nat.le_of_ble_eq_true rfl, Nat.le_of_ble_eq_true rfl⟩) ⟨mm_B_blind, ev_recv hK hM (ci := 10) rfl hg1 rfl, fun U hU hW => ⟨rfl, mm_B_of hK hZ hM hU hW⟩⟩ rfl rfl hl.1 rfl (lv_room (Nat.le_of_ble_eq_true rfl)) dX10_goes_33 ⟨Nat.zero_le _, Nat.zero_le _⟩) hM (fun H locs hM => ?_)
      refine lv_goto (tgt := 56) hx hb dX10_goes_36 (by decide) ?_
      obtain rfl := Option.some.inj hf
      exact kj5 _ _ _ hM (lv_sub hl [1, 2, 0] rfl)
    · have hf := it_n hf hc4
      refine lv_iload_n hx hb dX10_goes_20 rfl (lv_at hl 0 rfl) ?_
      refine lv_iconst (v := (4 : Int32)) hx hb dX10_goes_21 (by decide) ?_
      refine lv_icmp_eq (tgt := 30) hx hb dX10_goes_22 (by decide) (fun hc20 => ?_) (fun hc20 => ?_)
      · have hf := it_p hf hc20
        refine lv_aload_n hx hb dX10_goes_30 rfl (lv_at hl 1 rfl) ?_
        refine lv_bipush (v := (16 : Int32)) hx hb dX10_goes_31 (by decide) ?_
        refine bd_e hf (fun r21 er21 hf => ?_)
        refine ev_calli (va_runV (As := [.int (16 : Int32)]) (rest := []) S (c_X10_number (l := l) I P a0 (16 : Int32) r21 er21) (cwV 1 hts (gi_v wa_5_103 wa_5_105 wa_s_40 wa_1_11 wa_5_106) rfl rfl rfl (by decide +kernel) ⟨Nat.le_of_ble_eq_true rfl, Nat.le_of_ble_eq_true rfl⟩) ⟨mm_B_blind, ev_recv hK hM (ci := 10) rfl hg1 rfl, fun U hU hW => ⟨rfl, mm_B_of hK hZ hM hU hW⟩⟩ rfl rfl hl.1 rfl (lv_room (Nat.le_of_ble_eq_true rfl)) dX10_goes_33 ⟨Nat.zero_le _, Nat.zero_le _⟩) hM (fun H locs hM => ?_)
        refine lv_goto (tgt := 56) hx hb dX10_goes_36 (by decide) ?_
        obtain rfl := Option.some.inj hf
        exact kj5 _ _ _ hM (lv_sub hl [1, 2, 0] rfl)
      · have hf := it_n hf hc20
        refine lv_iload_n hx hb dX10_goes_25 rfl (lv_at hl 0 rfl) ?_
        refine lv_iconst (v := (5 : Int32)) hx hb dX10_goes_26 (by decide) ?_
        refine lv_icmp_ne (tgt := 39) hx hb dX10_goes_27 (by decide) (fun hc22 => ?_) (fun hc22 => ?_)
        · have hf := it_n hf hc22
          refine lv_iload_n hx hb dX10_goes_39 rfl (lv_at hl 0 rfl) ?_
          refine lv_bipush (v := (7 : Int32)) hx hb dX10_goes_40 (by decide) ?_
          refine lv_icmp_ne (tgt := 52) hx hb dX10_goes_42 (by decide) (fun hc23 => ?_) (fun hc23 => ?_)
          · have hf := it_n hf hc23
            refine lv_aload_n hx hb dX10_goes_52 rfl (lv_at hl 1 rfl) ?_
            refine ev_get (v := .int (I a0 10)) S hK hM (ci := 10) (n := 23) (C := RX10) (T := TX10) hin10 rfl hg1 10 (by decide) lk169 rfl rfl rfl dX10_goes_53 ?_
            obtain rfl := Option.some.inj hf
            exact kj5 _ _ _ hM (lv_sub hl [1, 2, 0] rfl)
          · have hf := it_p hf hc23
            refine lv_aload_n hx hb dX10_goes_45 rfl (lv_at hl 1 rfl) ?_
            refine ev_get (v := .int (I a0 12)) S hK hM (ci := 10) (n := 23) (C := RX10) (T := TX10) hin10 rfl hg1 12 (by decide) lk184 rfl rfl rfl dX10_goes_46 ?_
            refine lv_goto (tgt := 56) hx hb dX10_goes_49 (by decide) ?_
            obtain rfl := Option.some.inj hf
            exact kj5 _ _ _ hM (lv_sub hl [1, 2, 0] rfl)
        · have hf := it_p hf hc22
          refine lv_aload_n hx hb dX10_goes_30 rfl (lv_at hl 1 rfl) ?_
          refine lv_bipush (v := (16 : Int32)) hx hb dX10_goes_31 (by decide) ?_
          refine bd_e hf (fun r24 er24 hf => ?_)
          refine ev_calli (va_runV (As := [.int (16 : Int32)]) (rest := []) S (c_X10_number (l := l) I P a0 (16 : Int32) r24 er24) (cwV 1 hts (gi_v wa_5_103 wa_5_105 wa_s_40 wa_1_11 wa_5_106) rfl rfl rfl (by decide +kernel) ⟨Nat.le_of_ble_eq_true rfl, Nat.le_of_ble_eq_true rfl⟩) ⟨mm_B_blind, ev_recv hK hM (ci := 10) rfl hg1 rfl, fun U hU hW => ⟨rfl, mm_B_of hK hZ hM hU hW⟩⟩ rfl rfl hl.1 rfl (lv_room (Nat.le_of_ble_eq_true rfl)) dX10_goes_33 ⟨Nat.zero_le _, Nat.zero_le _⟩) hM (fun H locs hM => ?_)
          refine lv_goto (tgt := 56) hx hb dX10_goes_36 (by decide) ?_
          obtain rfl := Option.some.inj hf
          exact kj5 _ _ _ hM (lv_sub hl [1, 2, 0] rfl)
  · have hf := it_n hf hc2
    refine lv_iconst (v := (0 : Int32)) hx hb dX10_goes_8 (by decide) ?_
    obtain rfl := Option.some.inj hf
    subst hQ
    exact ev_zret (v := (0 : Int32)) S hr hlocks hK hZ hM rfl dX10_goes_9
noncomputable def fn_X10_goesOver_L34 (K : Nat → Nat) (N : Nat → Nat) (a0 : Nat) (x1 : Int32) (P : Nat → Nat → Option Nat) : Nat → (Nat → Nat → Int32) → Option ((Int32 × (Nat → Nat → Int32)) ⊕ ((Nat → Nat → Int32)))
  | 0, _ => none
  | n + 1, I8 => if (I8 a0 8) = 0 then (some (Sum.inr I8)) else (if (I8 a0 8) = (3 : Int32) then (some (Sum.inl ((I8 a0 7), I8))) else (Option.bind (fn_X10_goes K N I8 P a0 x1) (fun (r13 : Int32 × (Nat → Nat → Int32)) => if r13.1 = 0 then (some (Sum.inl ((r13.2 a0 7), r13.2))) else (Option.bind (fn_X10_next K N r13.2 P a0) (fun (r15 : (Nat → Nat → Int32)) => fn_X10_goesOver_L34 K N a0 x1 P n r15)))))
noncomputable def fn_X10_goesOver (K N : Nat → Nat) (I : Nat → Nat → Int32) (P : Nat → Nat → Option Nat) (a0 : Nat) (x1 : Int32) : Option (Int32 × (Nat → Nat → Int32)) := gd (K a0 = 11) (Option.bind (some (up2 I a0 6 (0 : Int32))) (fun I2 => Option.bind (fn_X10_next K N I2 P a0) (fun (r3 : (Nat → Nat → Int32)) => if (r3 a0 8) = (3 : Int32) then (Option.bind (fn_X10_goes K N r3 P a0 x1) (fun (r5 : Int32 × (Nat → Nat → Int32)) => if r5.1 = 0 then (some ((r5.2 a0 7), r5.2)) else (Option.bind (fn_X10_next K N r5.2 P a0) (fun (r7 : (Nat → Nat → Int32)) => Option.bind (fn_X10_goesOver_L34 K N a0 x1 P FU r7) (fun (r9 : (Int32 × (Nat → Nat → Int32)) ⊕ ((Nat → Nat → Int32))) => Sum.elim (fun t => some t) (fun (xx10 : (Nat → Nat → Int32)) => some ((-1 : Int32), xx10)) r9))))) else (some ((r3 a0 7), r3)))))
abbrev wz_X10_goesOver : List Cond := Cond.code yX10_goesOver cX10_goesOver 2 (some .int) :: WA
abbrev rm_X10_goesOver : Room := { frames := 9, cells := 0, slots := 0, locals := 185 }
set_option maxHeartbeats 4000000 in
set_option maxRecDepth 100000 in
theorem c_X10_goesOver (I : Nat → Nat → Int32) (P : Nat → Nat → Option Nat) (a0 : Nat) (x1 : Int32) (res : Int32 × (Nat → Nat → Int32)) (hf : fn_X10_goesOver K N I P a0 x1 = some res) : Met l yX10_goesOver wz_X10_goesOver rm_X10_goesOver (va_Pc [.ref a0, .int x1] (mm_B D cs A L K N z w I P)) (va_Qi (fun r (_ : Unit) => r = res.1) (fun _ => mm_B D cs A L K N z w res.2 P) A) 0 0 A := by
  refine Met.ofW (cc := cX10_goesOver) (maxL := 2) (ret := (some .int)) (by decide) rfl ?_
  intro p e s m args below meth c s₁ B hml hv
  obtain ⟨rfl, hBm⟩ := hv
  have hx := B.exec
  have hb := B.bytes
  have hr := B.returns
  have hts := atoms_spec (ws := wz_X10_goesOver) B.pre
  have hWA : ∀ w ∈ WA, w.before ([.ref a0, .int x1] : List Value).toArray s = true := fun u9 h9 => hts u9 (List.mem_cons_of_mem _ h9)
  have hown : s.vm.findClass RX10 = some m.cls := findClass_of_methodNamed B.named
  have hlocks := B.notSynchronized
  have S : CallFix p m c cX10_goesOver 2 s ([.ref a0, .int x1] : List Value).toArray wz_X10_goesOver RX10 := ⟨hx, hb, hml, hown, hts⟩
  have hK := hBm.2.2.2.1
  have hZ := hBm.2.2.2.2
  have hM : mm_W D cs A L K N s.heap I P s.heap [] := ⟨hBm.1, hBm.2.1, hBm.2.2.1, va_S.rf⟩
  have hl := lv_entry ([.ref a0, .int x1]) (n := 2) (Nat.le_of_ble_eq_true rfl)
  rw [lg_entry_eq]
  generalize (lg_sl ([.ref a0, .int x1]) ++ List.replicate (2 - (lg_sl ([.ref a0, .int x1])).length) Slot.unset).toArray = ls at hl ⊢
  have hl : lv_has ls 2 [(0, .ref a0), (1, .int x1)] := hl
  have hin10 : ∀ w ∈ wsX100, w ∈ wz_X10_goesOver := fun w h => List.mem_cons_of_mem _ (wu_X10 w h)
  have lk128 : (Cond.fieldLink RX10 128 RX10 "at" "I").before ([.ref a0, .int x1] : List Value).toArray s = true := hWA _ wa_4_147
  have lk146 : (Cond.fieldLink RX10 146 RX10 "token" "I").before ([.ref a0, .int x1] : List Value).toArray s = true := hWA _ wa_4_149
  have lk131 : (Cond.fieldLink RX10 131 RX10 "begun" "I").before ([.ref a0, .int x1] : List Value).toArray s = true := hWA _ wa_4_148
  generalize hQ : MQ below (va_Qi (fun r (_ : Unit) => r = res.1) (fun _ => mm_B D cs A L K N z w res.2 P) A) ([.ref a0, .int x1] : List Value).toArray s 0 0 A = QQ
  rw [fn_X10_goesOver] at hf
  refine lv_aload_n hx hb dX10_goesOver_0 rfl (lv_at hl 0 rfl) ?_
  refine lv_iconst (v := (0 : Int32)) hx hb dX10_goesOver_1 (by decide) ?_
  refine gd_e hf (fun hg1 hf => ?_)
  refine ev_put S hK hM (ci := 10) (n := 23) (C := RX10) (T := TX10) hin10 tyX10 tyX10_ok nmX10 rfl hg1 6 (by decide) lk128 rfl rfl rfl rfl rfl (Nat.le_of_ble_eq_true rfl) rfl dX10_goesOver_2 (fun I2 eI2 H locs hM => ?_)
  have hf := nm_x eI2 hf
  refine lv_aload_n hx hb dX10_goesOver_5 rfl (lv_at hl 0 rfl) ?_
  refine bd_e hf (fun r3 er3 hf => ?_)
  refine ev_callv (va_runV (As := []) (rest := []) S (c_X10_next (l := l) I2 P a0 r3 er3) (cwV 0 hts (gi_v wa_5_80 wa_5_82 wa_s_36 wa_1_11 wa_5_83) rfl rfl rfl (by decide +kernel) ⟨Nat.le_of_ble_eq_true rfl, Nat.le_of_ble_eq_true rfl⟩) ⟨mm_B_blind, ev_recv hK hM (ci := 10) rfl hg1 rfl, fun U hU hW => ⟨rfl, mm_B_of hK hZ hM hU hW⟩⟩ rfl rfl hl.1 rfl (lv_room (Nat.le_of_ble_eq_true rfl)) dX10_goesOver_6 ⟨Nat.zero_le _, Nat.zero_le _⟩) hM (fun H locs hM => ?_)
  refine lv_aload_n hx hb dX10_goesOver_9 rfl (lv_at hl 0 rfl) ?_
  refine ev_get (v := .int (r3 a0 8)) S hK hM (ci := 10) (n := 23) (C := RX10) (T := TX10) hin10 rfl hg1 8 (by decide) lk146 rfl rfl rfl dX10_goesOver_10 ?_
  refine lv_iconst (v := (3 : Int32)) hx hb dX10_goesOver_13 (by decide) ?_
  refine lv_icmp_ne (tgt := 25) hx hb dX10_goesOver_14 (by decide) (fun hc4 => ?_) (fun hc4 => ?_)
  · have hf := it_n hf hc4
    refine lv_aload_n hx hb dX10_goesOver_25 rfl (lv_at hl 0 rfl) ?_
    refine ev_get (v := .int (r3 a0 7)) S hK hM (ci := 10) (n := 23) (C := RX10) (T := TX10) hin10 rfl hg1 7 (by decide) lk131 rfl rfl rfl dX10_goesOver_26 ?_
    obtain rfl := Option.some.inj hf
    subst hQ
    exact ev_iret S hr hlocks hK hZ hM dX10_goesOver_29
  · have hf := it_p hf hc4
    refine lv_aload_n hx hb dX10_goesOver_17 rfl (lv_at hl 0 rfl) ?_
    refine lv_iload_n hx hb dX10_goesOver_18 rfl (lv_at hl 1 rfl) ?_
    refine bd_e hf (fun r5 er5 hf => ?_)
    refine ev_calli (va_runV (As := [.int x1]) (rest := []) S (c_X10_goes (l := l) r3 P a0 x1 r5 er5) (cwV 1 hts (gi_v wa_5_99 wa_5_101 wa_s_39 wa_1_11 wa_5_102) rfl rfl rfl (by decide +kernel) ⟨Nat.le_of_ble_eq_true rfl, Nat.le_of_ble_eq_true rfl⟩) ⟨mm_B_blind, ev_recv hK hM (ci := 10) rfl hg1 rfl, fun U hU hW => ⟨rfl, mm_B_of hK hZ hM hU hW⟩⟩ rfl rfl hl.1 rfl (lv_room (Nat.le_of_ble_eq_true rfl)) dX10_goesOver_19 ⟨Nat.zero_le _, Nat.zero_le _⟩) hM (fun H locs hM => ?_)
    refine lv_if_ne (tgt := 30) hx hb dX10_goesOver_22 (by decide) (fun hc6 => ?_) (fun hc6 => ?_)
    · have hf := it_n hf hc6
      refine lv_aload_n hx hb dX10_goesOver_30 rfl (lv_at hl 0 rfl) ?_
      refine bd_e hf (fun r7 er7 hf => ?_)
      refine ev_callv (va_runV (As := []) (rest := []) S (c_X10_next (l := l) r5.2 P a0 r7 er7) (cwV 0 hts (gi_v wa_5_80 wa_5_82 wa_s_36 wa_1_11 wa_5_83) rfl rfl rfl (by decide +kernel) ⟨Nat.le_of_ble_eq_true rfl, Nat.le_of_ble_eq_true rfl⟩) ⟨mm_B_blind, ev_recv hK hM (ci := 10) rfl hg1 rfl, fun U hU hW => ⟨rfl, mm_B_of hK hZ hM hU hW⟩⟩ rfl rfl hl.1 rfl (lv_room (Nat.le_of_ble_eq_true rfl)) dX10_goesOver_31 ⟨Nat.zero_le _, Nat.zero_le _⟩) hM (fun H locs hM => ?_)
      have lp34_15 : ∀ (n : Nat) (I8 : Nat → Nat → Int32) (H : Heap) (locs : List Loc) (ls : Array Slot) (r9 : (Int32 × (Nat → Nat → Int32)) ⊕ ((Nat → Nat → Int32))), mm_W D cs A L K N s.heap I8 P H locs → lv_has ls 2 [(0, .ref a0), (1, .int x1)] → fn_X10_goesOver_L34 K N a0 x1 P n I8 = some r9 → (∀ xx10 : (Nat → Nat → Int32), r9 = Sum.inr xx10 → ∀ (H : Heap) (locs : List Loc) (ls : Array Slot), mm_W D cs A L K N s.heap xx10 P H locs → lv_has ls 2 [] → W p l e (headSpec wz_X10_goesOver rm_X10_goesOver).room s m ([.ref a0, .int x1] : List Value).toArray below meth c H locs 0 0 QQ (F0 m 69 ls [])) → (∀ t : Int32 × (Nat → Nat → Int32), r9 = Sum.inl t → t = res) → W p l e (headSpec wz_X10_goesOver rm_X10_goesOver).room s m ([.ref a0, .int x1] : List Value).toArray below meth c H locs 0 0 QQ (F0 m 34 ls []) := by
        intro n
        induction n with
        | zero => intro I8 H locs ls r9 hM hl hf kk kr; exact nn_x (show (none : Option ((Int32 × (Nat → Nat → Int32)) ⊕ ((Nat → Nat → Int32)))) = some r9 from hf)
        | succ n ih =>
          intro I8 H locs ls r9 hM hl hf kk kr
          rw [fn_X10_goesOver_L34] at hf
          refine lv_aload_n hx hb dX10_goesOver_34 rfl (lv_at hl 0 rfl) ?_
          refine ev_get (v := .int (I8 a0 8)) S hK hM (ci := 10) (n := 23) (C := RX10) (T := TX10) hin10 rfl hg1 8 (by decide) lk146 rfl rfl rfl dX10_goesOver_35 ?_
          refine lv_if_eq (tgt := 69) hx hb dX10_goesOver_38 (by decide) (fun hc11 => ?_) (fun hc11 => ?_)
          · have hf := it_p hf hc11
            exact kk _ (Option.some.inj hf).symm _ _ _ hM (lv_sub hl [] rfl)
          · have hf := it_n hf hc11
            refine lv_aload_n hx hb dX10_goesOver_41 rfl (lv_at hl 0 rfl) ?_
            refine ev_get (v := .int (I8 a0 8)) S hK hM (ci := 10) (n := 23) (C := RX10) (T := TX10) hin10 rfl hg1 8 (by decide) lk146 rfl rfl rfl dX10_goesOver_42 ?_
            refine lv_iconst (v := (3 : Int32)) hx hb dX10_goesOver_45 (by decide) ?_
            refine lv_icmp_eq (tgt := 57) hx hb dX10_goesOver_46 (by decide) (fun hc12 => ?_) (fun hc12 => ?_)
            · have hf := it_p hf hc12
              refine lv_aload_n hx hb dX10_goesOver_57 rfl (lv_at hl 0 rfl) ?_
              refine ev_get (v := .int (I8 a0 7)) S hK hM (ci := 10) (n := 23) (C := RX10) (T := TX10) hin10 rfl hg1 7 (by decide) lk131 rfl rfl rfl dX10_goesOver_58 ?_
              have hrr := kr _ (Option.some.inj hf).symm
              subst hrr
              subst hQ
              exact ev_iret S hr hlocks hK hZ hM dX10_goesOver_61
            · have hf := it_n hf hc12
              refine lv_aload_n hx hb dX10_goesOver_49 rfl (lv_at hl 0 rfl) ?_
              refine lv_iload_n hx hb dX10_goesOver_50 rfl (lv_at hl 1 rfl) ?_
              refine bd_e hf (fun r13 er13 hf => ?_)
              refine ev_calli (va_runV (As := [.int x1]) (rest := []) S (c_X10_goes (l := l) I8 P a0 x1 r13 er13) (cwV 1 hts (gi_v wa_5_99 wa_5_101 wa_s_39 wa_1_11 wa_5_102) rfl rfl rfl (by decide +kernel) ⟨Nat.le_of_ble_eq_true rfl, Nat.le_of_ble_eq_true rfl⟩) ⟨mm_B_blind, ev_recv hK hM (ci := 10) rfl hg1 rfl, fun U hU hW => ⟨rfl, mm_B_of hK hZ hM hU hW⟩⟩ rfl rfl hl.1 rfl (lv_room (Nat.le_of_ble_eq_true rfl)) dX10_goesOver_51 ⟨Nat.zero_le _, Nat.zero_le _⟩) hM (fun H locs hM => ?_)
              refine lv_if_ne (tgt := 62) hx hb dX10_goesOver_54 (by decide) (fun hc14 => ?_) (fun hc14 => ?_)
              · have hf := it_n hf hc14
                refine lv_aload_n hx hb dX10_goesOver_62 rfl (lv_at hl 0 rfl) ?_
                refine bd_e hf (fun r15 er15 hf => ?_)
                refine ev_callv (va_runV (As := []) (rest := []) S (c_X10_next (l := l) r13.2 P a0 r15 er15) (cwV 0 hts (gi_v wa_5_80 wa_5_82 wa_s_36 wa_1_11 wa_5_83) rfl rfl rfl (by decide +kernel) ⟨Nat.le_of_ble_eq_true rfl, Nat.le_of_ble_eq_true rfl⟩) ⟨mm_B_blind, ev_recv hK hM (ci := 10) rfl hg1 rfl, fun U hU hW => ⟨rfl, mm_B_of hK hZ hM hU hW⟩⟩ rfl rfl hl.1 rfl (lv_room (Nat.le_of_ble_eq_true rfl)) dX10_goesOver_63 ⟨Nat.zero_le _, Nat.zero_le _⟩) hM (fun H locs hM => ?_)
                refine lv_goto (tgt := 34) hx hb dX10_goesOver_66 (by decide) ?_
                exact ih r15 _ _ _ _ hM (hl) hf kk kr
              · have hf := it_p hf hc14
                refine lv_aload_n hx hb dX10_goesOver_57 rfl (lv_at hl 0 rfl) ?_
                refine ev_get (v := .int (r13.2 a0 7)) S hK hM (ci := 10) (n := 23) (C := RX10) (T := TX10) hin10 rfl hg1 7 (by decide) lk131 rfl rfl rfl dX10_goesOver_58 ?_
                have hrr := kr _ (Option.some.inj hf).symm
                subst hrr
                subst hQ
                exact ev_iret S hr hlocks hK hZ hM dX10_goesOver_61
      refine bd_e hf (fun r9 er9 hf => ?_)
      refine lp34_15 FU r7 _ _ _ r9 hM (hl) er9 (fun xx10 exxx10 H locs ls hM hl => ?_) (fun t ht => by subst ht; exact Option.some.inj hf)
      subst exxx10
      have hf := sm_r hf
      refine lv_iconst (v := (-1 : Int32)) hx hb dX10_goesOver_69 (by decide) ?_
      obtain rfl := Option.some.inj hf
      subst hQ
      exact ev_iret S hr hlocks hK hZ hM dX10_goesOver_70
    · have hf := it_p hf hc6
      refine lv_aload_n hx hb dX10_goesOver_25 rfl (lv_at hl 0 rfl) ?_
      refine ev_get (v := .int (r5.2 a0 7)) S hK hM (ci := 10) (n := 23) (C := RX10) (T := TX10) hin10 rfl hg1 7 (by decide) lk131 rfl rfl rfl dX10_goesOver_26 ?_
      obtain rfl := Option.some.inj hf
      subst hQ
      exact ev_iret S hr hlocks hK hZ hM dX10_goesOver_29
noncomputable def fn_X10_beginsAct_L6 (K : Nat → Nat) (N : Nat → Nat) (a0 : Nat) (x1 : Int32) (P : Nat → Nat → Option Nat) : Nat → Int32 → (Nat → Nat → Int32) → Option ((Nat → Nat → Int32))
  | 0, _, _ => none
  | n + 1, v3, I4 => if (192 : Int32) ≤ v3 then (some I4) else (Option.bind (P a0 (15)) (fun q7 => Option.bind (P a0 (0)) (fun q8 => gd (K q8 = 12 ∧ vp_in (((20 : Int32) + ((192 : Int32) * x1)) + v3) (N q8)) (gd (K q7 = 12 ∧ vp_in v3 (N q7)) (Option.bind (some (up2 I4 q7 (v3.toNatClampNeg) (I4 q8 ((((20 : Int32) + ((192 : Int32) * x1)) + v3)).toNatClampNeg))) (fun I11 => gd (K q8 = 12 ∧ vp_in (((788 : Int32) + ((192 : Int32) * x1)) + v3) (N q8)) (gd (K q7 = 12 ∧ vp_in ((192 : Int32) + v3) (N q7)) (Option.bind (some (up2 I11 q7 (((192 : Int32) + v3)).toNatClampNeg (I11 q8 ((((788 : Int32) + ((192 : Int32) * x1)) + v3)).toNatClampNeg))) (fun I14 => fn_X10_beginsAct_L6 K N a0 x1 P n (v3 + (1 : Int32)) I14)))))))))
noncomputable def fn_X10_beginsAct (K N : Nat → Nat) (I : Nat → Nat → Int32) (P : Nat → Nat → Option Nat) (a0 : Nat) (x1 : Int32) : Option ((Nat → Nat → Int32)) := Option.bind (fn_X10_looksFree K N I P a0) (fun (r1 : (Nat → Nat → Int32)) => gd (K a0 = 11) (Option.bind (fn_X10_beginsAct_L6 K N a0 x1 P FU (0 : Int32) r1) (fun (r5 : (Nat → Nat → Int32)) => some r5)))
abbrev wz_X10_beginsAct : List Cond := Cond.code yX10_beginsAct cX10_beginsAct 3 none :: WA
abbrev rm_X10_beginsAct : Room := { frames := 3, cells := 0, slots := 0, locals := 54 }
set_option maxHeartbeats 4000000 in
set_option maxRecDepth 100000 in
theorem c_X10_beginsAct (I : Nat → Nat → Int32) (P : Nat → Nat → Option Nat) (a0 : Nat) (x1 : Int32) (res : (Nat → Nat → Int32)) (hf : fn_X10_beginsAct K N I P a0 x1 = some res) : Met l yX10_beginsAct wz_X10_beginsAct rm_X10_beginsAct (va_Pc [.ref a0, .int x1] (mm_B D cs A L K N z w I P)) (va_Qv (fun (_ : Unit) => True) (fun _ => mm_B D cs A L K N z w res P) A) 0 0 A := by
  refine Met.ofW (cc := cX10_beginsAct) (maxL := 3) (ret := none) (by decide) rfl ?_
  intro p e s m args below meth c s₁ B hml hv
  obtain ⟨rfl, hBm⟩ := hv
  have hx := B.exec
  have hb := B.bytes
  have hr := B.returns
  have hts := atoms_spec (ws := wz_X10_beginsAct) B.pre
  have hWA : ∀ w ∈ WA, w.before ([.ref a0, .int x1] : List Value).toArray s = true := fun u9 h9 => hts u9 (List.mem_cons_of_mem _ h9)
  have hown : s.vm.findClass RX10 = some m.cls := findClass_of_methodNamed B.named
  have hlocks := B.notSynchronized
  have S : CallFix p m c cX10_beginsAct 3 s ([.ref a0, .int x1] : List Value).toArray wz_X10_beginsAct RX10 := ⟨hx, hb, hml, hown, hts⟩
  have hK := hBm.2.2.2.1
  have hZ := hBm.2.2.2.2
  have hM : mm_W D cs A L K N s.heap I P s.heap [] := ⟨hBm.1, hBm.2.1, hBm.2.2.1, va_S.rf⟩
  have hl := lv_entry ([.ref a0, .int x1]) (n := 3) (Nat.le_of_ble_eq_true rfl)
  rw [lg_entry_eq]
  generalize (lg_sl ([.ref a0, .int x1]) ++ List.replicate (3 - (lg_sl ([.ref a0, .int x1])).length) Slot.unset).toArray = ls at hl ⊢
  have hl : lv_has ls 3 [(0, .ref a0), (1, .int x1)] := hl
  have hin10 : ∀ w ∈ wsX100, w ∈ wz_X10_beginsAct := fun w h => List.mem_cons_of_mem _ (wu_X10 w h)
  have lk19 : (Cond.fieldLink RX10 19 RX10 "before" "[I").before ([.ref a0, .int x1] : List Value).toArray s = true := hWA _ wa_4_156
  have lk9 : (Cond.fieldLink RX10 9 RX10 "g" "[I").before ([.ref a0, .int x1] : List Value).toArray s = true := hWA _ wa_4_141
  generalize hQ : MQ below (va_Qv (fun (_ : Unit) => True) (fun _ => mm_B D cs A L K N z w res P) A) ([.ref a0, .int x1] : List Value).toArray s 0 0 A = QQ
  rw [fn_X10_beginsAct] at hf
  refine lv_aload_n hx hb dX10_beginsAct_0 rfl (lv_at hl 0 rfl) ?_
  refine bd_e hf (fun r1 er1 hf => ?_)
  refine gd_e hf (fun hg2 hf => ?_)
  refine ev_callv (va_runV (As := []) (rest := []) S (c_X10_looksFree (l := l) I P a0 r1 er1) (cwV 0 hts (gi_v wa_5_132 wa_5_134 wa_s_47 wa_1_11 wa_5_135) rfl rfl rfl (by decide +kernel) ⟨Nat.le_of_ble_eq_true rfl, Nat.le_of_ble_eq_true rfl⟩) ⟨mm_B_blind, ev_recv hK hM (ci := 10) rfl hg2 rfl, fun U hU hW => ⟨rfl, mm_B_of hK hZ hM hU hW⟩⟩ rfl rfl hl.1 rfl (lv_room (Nat.le_of_ble_eq_true rfl)) dX10_beginsAct_1 ⟨Nat.zero_le _, Nat.zero_le _⟩) hM (fun H locs hM => ?_)
  refine lv_iconst (v := (0 : Int32)) hx hb dX10_beginsAct_4 (by decide) ?_
  refine lv_istore_n (lv' := [(2, .int (0 : Int32)), (0, .ref a0), (1, .int x1)]) hx hb dX10_beginsAct_5 rfl hl (by decide) rfl (fun ls hl => ?_)
  have lp6_14 : ∀ (n : Nat) (v3 : Int32) (I4 : Nat → Nat → Int32) (H : Heap) (locs : List Loc) (ls : Array Slot) (r5 : (Nat → Nat → Int32)), mm_W D cs A L K N s.heap I4 P H locs → lv_has ls 3 [(0, .ref a0), (1, .int x1), (2, .int v3)] → fn_X10_beginsAct_L6 K N a0 x1 P n v3 I4 = some r5 → (∀ (H : Heap) (locs : List Loc) (ls : Array Slot), mm_W D cs A L K N s.heap r5 P H locs → lv_has ls 3 [] → W p l e (headSpec wz_X10_beginsAct rm_X10_beginsAct).room s m ([.ref a0, .int x1] : List Value).toArray below meth c H locs 0 0 QQ (F0 m 66 ls [])) → W p l e (headSpec wz_X10_beginsAct rm_X10_beginsAct).room s m ([.ref a0, .int x1] : List Value).toArray below meth c H locs 0 0 QQ (F0 m 6 ls []) := by
    intro n
    induction n with
    | zero => intro v3 I4 H locs ls r5 hM hl hf kk; exact nn_x (show (none : Option ((Nat → Nat → Int32))) = some r5 from hf)
    | succ n ih =>
      intro v3 I4 H locs ls r5 hM hl hf kk
      rw [fn_X10_beginsAct_L6] at hf
      refine lv_iload_n hx hb dX10_beginsAct_6 rfl (lv_at hl 2 rfl) ?_
      refine lv_sipush (v := (192 : Int32)) hx hb dX10_beginsAct_7 (by decide) ?_
      refine lv_icmp_ge (tgt := 66) hx hb dX10_beginsAct_10 (by decide) (fun hc6 => ?_) (fun hc6 => ?_)
      · have hf := it_p hf hc6
        obtain rfl := Option.some.inj hf
        exact kk _ _ _ hM (lv_sub hl [] rfl)
      · have hf := it_n hf hc6
        refine lv_aload_n hx hb dX10_beginsAct_13 rfl (lv_at hl 0 rfl) ?_
        refine bd_e hf (fun q7 eq7 hf => ?_)
        refine ev_getP (v := q7) S hK hM (ci := 10) (n := 23) (C := RX10) (T := TX10) hin10 rfl hg2 15 (by decide) lk19 rfl rfl eq7 rfl dX10_beginsAct_14 ?_
        refine lv_iload_n hx hb dX10_beginsAct_17 rfl (lv_at hl 2 rfl) ?_
        refine lv_aload_n hx hb dX10_beginsAct_18 rfl (lv_at hl 0 rfl) ?_
        refine bd_e hf (fun q8 eq8 hf => ?_)
        refine ev_getP (v := q8) S hK hM (ci := 10) (n := 23) (C := RX10) (T := TX10) hin10 rfl hg2 0 (by decide) lk9 rfl rfl eq8 rfl dX10_beginsAct_19 ?_
        refine lv_bipush (v := (20 : Int32)) hx hb dX10_beginsAct_22 (by decide) ?_
        refine lv_sipush (v := (192 : Int32)) hx hb dX10_beginsAct_24 (by decide) ?_
        refine lv_iload_n hx hb dX10_beginsAct_27 rfl (lv_at hl 1 rfl) ?_
        refine lv_imul hx hb dX10_beginsAct_28 ?_
        refine lv_iadd hx hb dX10_beginsAct_29 ?_
        refine lv_iload_n hx hb dX10_beginsAct_30 rfl (lv_at hl 2 rfl) ?_
        refine lv_iadd hx hb dX10_beginsAct_31 ?_
        refine gd_e hf (fun hg9 hf => ?_)
        refine ev_iald S hK hM hg9 (j := ((((20 : Int32) + ((192 : Int32) * x1)) + v3)).toNatClampNeg) rfl dX10_beginsAct_32 ?_
        refine gd_e hf (fun hg10 hf => ?_)
        refine ev_iast S hK hM hg10 (j := v3.toNatClampNeg) rfl dX10_beginsAct_33 (fun I11 eI11 H locs hM => ?_)
        have hf := nm_x eI11 hf
        refine lv_aload_n hx hb dX10_beginsAct_34 rfl (lv_at hl 0 rfl) ?_
        refine ev_getP (v := q7) S hK hM (ci := 10) (n := 23) (C := RX10) (T := TX10) hin10 rfl hg2 15 (by decide) lk19 rfl rfl eq7 rfl dX10_beginsAct_35 ?_
        refine lv_sipush (v := (192 : Int32)) hx hb dX10_beginsAct_38 (by decide) ?_
        refine lv_iload_n hx hb dX10_beginsAct_41 rfl (lv_at hl 2 rfl) ?_
        refine lv_iadd hx hb dX10_beginsAct_42 ?_
        refine lv_aload_n hx hb dX10_beginsAct_43 rfl (lv_at hl 0 rfl) ?_
        refine ev_getP (v := q8) S hK hM (ci := 10) (n := 23) (C := RX10) (T := TX10) hin10 rfl hg2 0 (by decide) lk9 rfl rfl eq8 rfl dX10_beginsAct_44 ?_
        refine lv_sipush (v := (788 : Int32)) hx hb dX10_beginsAct_47 (by decide) ?_
        refine lv_sipush (v := (192 : Int32)) hx hb dX10_beginsAct_50 (by decide) ?_
        refine lv_iload_n hx hb dX10_beginsAct_53 rfl (lv_at hl 1 rfl) ?_
        refine lv_imul hx hb dX10_beginsAct_54 ?_
        refine lv_iadd hx hb dX10_beginsAct_55 ?_
        refine lv_iload_n hx hb dX10_beginsAct_56 rfl (lv_at hl 2 rfl) ?_
        refine lv_iadd hx hb dX10_beginsAct_57 ?_
        refine gd_e hf (fun hg12 hf => ?_)
        refine ev_iald S hK hM hg12 (j := ((((788 : Int32) + ((192 : Int32) * x1)) + v3)).toNatClampNeg) rfl dX10_beginsAct_58 ?_
        refine gd_e hf (fun hg13 hf => ?_)
        refine ev_iast S hK hM hg13 (j := (((192 : Int32) + v3)).toNatClampNeg) rfl dX10_beginsAct_59 (fun I14 eI14 H locs hM => ?_)
        have hf := nm_x eI14 hf
        refine lv_iinc (v := (v3 + (1 : Int32))) (lv' := [(2, .int (v3 + (1 : Int32))), (0, .ref a0), (1, .int x1)]) hx hb dX10_beginsAct_60 hl (k := 2) rfl rfl (by decide) rfl (fun ls hl => ?_)
        refine lv_goto (tgt := 6) hx hb dX10_beginsAct_63 (by decide) ?_
        exact ih (v3 + (1 : Int32)) I14 _ _ _ _ hM (lv_sub hl [1, 2, 0] rfl) hf kk
  refine bd_e hf (fun r5 er5 hf => ?_)
  refine lp6_14 FU (0 : Int32) r1 _ _ _ r5 hM (lv_sub hl [1, 2, 0] rfl) er5 (fun H locs ls hM hl => ?_)
  obtain rfl := Option.some.inj hf
  subst hQ
  exact ev_vret S hr hlocks hK hZ hM dX10_beginsAct_66
noncomputable def fn_X10_tileOf (x0 : Int32) : Option (Int32) := some ((((x0 / (16 : Int32)) / (4 : Int32)) * (4 : Int32)) + ((x0 - x0 / (16 : Int32) * (16 : Int32)) / (4 : Int32)))
abbrev wz_X10_tileOf : List Cond := Cond.code yX10_tileOf cX10_tileOf 1 (some .int) :: WA
abbrev rm_X10_tileOf : Room := { frames := 1, cells := 0, slots := 0, locals := 12 }
set_option maxHeartbeats 4000000 in
set_option maxRecDepth 100000 in
theorem c_X10_tileOf (I : Nat → Nat → Int32) (P : Nat → Nat → Option Nat) (x0 : Int32) (res : Int32) (hf : fn_X10_tileOf x0 = some res) : Met l yX10_tileOf wz_X10_tileOf rm_X10_tileOf (va_Pc [.int x0] (mm_B D cs A L K N z w I P)) (va_Qi (fun r (_ : Unit) => r = res) (fun _ => mm_B D cs A L K N z w I P) A) 0 0 A := by
  refine Met.ofW (cc := cX10_tileOf) (maxL := 1) (ret := (some .int)) (by decide) rfl ?_
  intro p e s m args below meth c s₁ B hml hv
  obtain ⟨rfl, hBm⟩ := hv
  have hx := B.exec
  have hb := B.bytes
  have hr := B.returns
  have hts := atoms_spec (ws := wz_X10_tileOf) B.pre
  have hWA : ∀ w ∈ WA, w.before ([.int x0] : List Value).toArray s = true := fun u9 h9 => hts u9 (List.mem_cons_of_mem _ h9)
  have hown : s.vm.findClass RX10 = some m.cls := findClass_of_methodNamed B.named
  have hlocks := B.notSynchronized
  have S : CallFix p m c cX10_tileOf 1 s ([.int x0] : List Value).toArray wz_X10_tileOf RX10 := ⟨hx, hb, hml, hown, hts⟩
  have hK := hBm.2.2.2.1
  have hZ := hBm.2.2.2.2
  have hM : mm_W D cs A L K N s.heap I P s.heap [] := ⟨hBm.1, hBm.2.1, hBm.2.2.1, va_S.rf⟩
  have hl := lv_entry ([.int x0]) (n := 1) (Nat.le_of_ble_eq_true rfl)
  rw [lg_entry_eq]
  generalize (lg_sl ([.int x0]) ++ List.replicate (1 - (lg_sl ([.int x0])).length) Slot.unset).toArray = ls at hl ⊢
  have hl : lv_has ls 1 [(0, .int x0)] := hl
  generalize hQ : MQ below (va_Qi (fun r (_ : Unit) => r = res) (fun _ => mm_B D cs A L K N z w I P) A) ([.int x0] : List Value).toArray s 0 0 A = QQ
  unfold fn_X10_tileOf at hf
  refine lv_iload_n hx hb dX10_tileOf_0 rfl (lv_at hl 0 rfl) ?_
  refine lv_bipush (v := (16 : Int32)) hx hb dX10_tileOf_1 (by decide) ?_
  refine lv_idiv hx hb dX10_tileOf_3 (by decide) ?_
  refine lv_iconst (v := (4 : Int32)) hx hb dX10_tileOf_4 (by decide) ?_
  refine lv_idiv hx hb dX10_tileOf_5 (by decide) ?_
  refine lv_iconst (v := (4 : Int32)) hx hb dX10_tileOf_6 (by decide) ?_
  refine lv_imul hx hb dX10_tileOf_7 ?_
  refine lv_iload_n hx hb dX10_tileOf_8 rfl (lv_at hl 0 rfl) ?_
  refine lv_bipush (v := (16 : Int32)) hx hb dX10_tileOf_9 (by decide) ?_
  refine lv_irem hx hb dX10_tileOf_11 (by decide) ?_
  refine lv_iconst (v := (4 : Int32)) hx hb dX10_tileOf_12 (by decide) ?_
  refine lv_idiv hx hb dX10_tileOf_13 (by decide) ?_
  refine lv_iadd hx hb dX10_tileOf_14 ?_
  obtain rfl := Option.some.inj hf
  subst hQ
  exact ev_iret S hr hlocks hK hZ hM dX10_tileOf_15
noncomputable def fn_X10_endsAct_L4 (K : Nat → Nat) (N : Nat → Nat) (a0 : Nat) (x1 : Int32) (I : Nat → Nat → Int32) (P : Nat → Nat → Option Nat) : Nat → Int32 → Int32 → Option (Int32)
  | 0, _, _ => none
  | n + 1, v1, v2 => if (192 : Int32) ≤ v2 then (some v1) else (gd (K a0 = 11) (Option.bind (P a0 (15)) (fun q6 => gd (K q6 = 12 ∧ vp_in v2 (N q6)) (Option.bind (P a0 (0)) (fun q8 => gd (K q8 = 12 ∧ vp_in (((20 : Int32) + ((192 : Int32) * x1)) + v2) (N q8)) (if (I q6 (v2.toNatClampNeg)) = (I q8 ((((20 : Int32) + ((192 : Int32) * x1)) + v2)).toNatClampNeg) then (gd (K q6 = 12 ∧ vp_in ((192 : Int32) + v2) (N q6)) (gd (K q8 = 12 ∧ vp_in (((788 : Int32) + ((192 : Int32) * x1)) + v2) (N q8)) (if (I q6 (((192 : Int32) + v2)).toNatClampNeg) = (I q8 ((((788 : Int32) + ((192 : Int32) * x1)) + v2)).toNatClampNeg) then (Option.bind (some (v1 ||| (0 : Int32))) (fun v16 => fn_X10_endsAct_L4 K N a0 x1 I P n v16 (v2 + (1 : Int32)))) else (Option.bind (fn_X10_tileOf v2) (fun (r17 : Int32) => Option.bind (some (v1 ||| ((1 : Int32) <<< (r17 &&& 31)))) (fun v18 => fn_X10_endsAct_L4 K N a0 x1 I P n v18 (v2 + (1 : Int32)))))))) else (Option.bind (fn_X10_tileOf v2) (fun (r11 : Int32) => Option.bind (some (v1 ||| ((1 : Int32) <<< (r11 &&& 31)))) (fun v12 => fn_X10_endsAct_L4 K N a0 x1 I P n v12 (v2 + (1 : Int32)))))))))))
noncomputable def fn_X10_endsAct_L181 (K : Nat → Nat) (N : Nat → Nat) (a0 : Nat) (P : Nat → Nat → Option Nat) (q21 : Nat) (v25 : Int32) : Nat → Int32 → (Nat → Nat → Int32) → Option ((Nat → Nat → Int32))
  | 0, _, _ => none
  | n + 1, v30, I31 => if (384 : Int32) ≤ v30 then (some I31) else (Option.bind (P a0 (15)) (fun q34 => gd (K q34 = 12 ∧ vp_in v30 (N q34)) (gd (K q21 = 12 ∧ vp_in ((v25 + (2 : Int32)) + v30) (N q21)) (Option.bind (some (up2 I31 q21 (((v25 + (2 : Int32)) + v30)).toNatClampNeg (I31 q34 (v30.toNatClampNeg)))) (fun I37 => fn_X10_endsAct_L181 K N a0 P q21 v25 n (v30 + (1 : Int32)) I37)))))
noncomputable def fn_X10_endsAct_L102 (K : Nat → Nat) (N : Nat → Nat) (q21 : Nat) : Nat → Int32 → (Nat → Nat → Int32) → Option ((Nat → Nat → Int32))
  | 0, _, _ => none
  | n + 1, v41, I42 => if (3474 : Int32) ≤ v41 then (some I42) else (gd (K q21 = 12 ∧ vp_in ((2134 : Int32) + v41) (N q21)) (gd (K q21 = 12 ∧ vp_in ((1748 : Int32) + v41) (N q21)) (Option.bind (some (up2 I42 q21 (((1748 : Int32) + v41)).toNatClampNeg (I42 q21 (((2134 : Int32) + v41)).toNatClampNeg))) (fun I47 => fn_X10_endsAct_L102 K N q21 n (v41 + (1 : Int32)) I47))))
noncomputable def fn_X10_endsAct (K N : Nat → Nat) (I : Nat → Nat → Int32) (P : Nat → Nat → Option Nat) (a0 : Nat) (x1 : Int32) : Option ((Nat → Nat → Int32)) := Option.bind (fn_X10_endsAct_L4 K N a0 x1 I P FU (0 : Int32) (0 : Int32)) (fun (r3 : Int32) => if r3 = 0 then (some I) else (gd (K a0 = 11) (Option.bind (P a0 (0)) (fun q21 => gd (K q21 = 12 ∧ vp_in (6 : Int32) (N q21)) (Option.bind (if (I q21 (6)) = (10 : Int32) then (Option.bind (fn_X10_endsAct_L102 K N q21 FU (0 : Int32) I) (fun (r43 : (Nat → Nat → Int32)) => Option.bind (some (up2 r43 q21 (6) ((r43 q21 (6)) - (1 : Int32)))) (fun I48 => some I48))) else (some I)) (fun (j24 : (Nat → Nat → Int32)) => Option.bind (some ((1748 : Int32) + ((386 : Int32) * (j24 q21 (6))))) (fun v25 => gd (K q21 = 12 ∧ vp_in v25 (N q21)) (Option.bind (some (up2 j24 q21 (v25.toNatClampNeg) x1)) (fun I27 => gd (K q21 = 12 ∧ vp_in (v25 + (1 : Int32)) (N q21)) (Option.bind (some (up2 I27 q21 ((v25 + (1 : Int32))).toNatClampNeg r3)) (fun I29 => Option.bind (fn_X10_endsAct_L181 K N a0 P q21 v25 FU (0 : Int32) I29) (fun (r32 : (Nat → Nat → Int32)) => Option.bind (some (up2 r32 q21 (6) ((r32 q21 (6)) + (1 : Int32)))) (fun I38 => gd (K q21 = 12 ∧ vp_in (7 : Int32) (N q21)) (Option.bind (some (up2 I38 q21 (7) (I38 q21 (6)))) (fun I40 => some I40)))))))))))))))
abbrev wz_X10_endsAct : List Cond := Cond.code yX10_endsAct cX10_endsAct 5 none :: WA
abbrev rm_X10_endsAct : Room := { frames := 2, cells := 0, slots := 0, locals := 32 }
set_option maxHeartbeats 4000000 in
set_option maxRecDepth 100000 in
theorem c_X10_endsAct (I : Nat → Nat → Int32) (P : Nat → Nat → Option Nat) (a0 : Nat) (x1 : Int32) (res : (Nat → Nat → Int32)) (hf : fn_X10_endsAct K N I P a0 x1 = some res) : Met l yX10_endsAct wz_X10_endsAct rm_X10_endsAct (va_Pc [.ref a0, .int x1] (mm_B D cs A L K N z w I P)) (va_Qv (fun (_ : Unit) => True) (fun _ => mm_B D cs A L K N z w res P) A) 0 0 A := by
  refine Met.ofW (cc := cX10_endsAct) (maxL := 5) (ret := none) (by decide) rfl ?_
  intro p e s m args below meth c s₁ B hml hv
  obtain ⟨rfl, hBm⟩ := hv
  have hx := B.exec
  have hb := B.bytes
  have hr := B.returns
  have hts := atoms_spec (ws := wz_X10_endsAct) B.pre
  have hWA : ∀ w ∈ WA, w.before ([.ref a0, .int x1] : List Value).toArray s = true := fun u9 h9 => hts u9 (List.mem_cons_of_mem _ h9)
  have hown : s.vm.findClass RX10 = some m.cls := findClass_of_methodNamed B.named
  have hlocks := B.notSynchronized
  have S : CallFix p m c cX10_endsAct 5 s ([.ref a0, .int x1] : List Value).toArray wz_X10_endsAct RX10 := ⟨hx, hb, hml, hown, hts⟩
  have hK := hBm.2.2.2.1
  have hZ := hBm.2.2.2.2
  have hM : mm_W D cs A L K N s.heap I P s.heap [] := ⟨hBm.1, hBm.2.1, hBm.2.2.1, va_S.rf⟩
  have hl := lv_entry ([.ref a0, .int x1]) (n := 5) (Nat.le_of_ble_eq_true rfl)
  rw [lg_entry_eq]
  generalize (lg_sl ([.ref a0, .int x1]) ++ List.replicate (5 - (lg_sl ([.ref a0, .int x1])).length) Slot.unset).toArray = ls at hl ⊢
  have hl : lv_has ls 5 [(0, .ref a0), (1, .int x1)] := hl
  have hin10 : ∀ w ∈ wsX100, w ∈ wz_X10_endsAct := fun w h => List.mem_cons_of_mem _ (wu_X10 w h)
  have lk19 : (Cond.fieldLink RX10 19 RX10 "before" "[I").before ([.ref a0, .int x1] : List Value).toArray s = true := hWA _ wa_4_156
  have lk9 : (Cond.fieldLink RX10 9 RX10 "g" "[I").before ([.ref a0, .int x1] : List Value).toArray s = true := hWA _ wa_4_141
  generalize hQ : MQ below (va_Qv (fun (_ : Unit) => True) (fun _ => mm_B D cs A L K N z w res P) A) ([.ref a0, .int x1] : List Value).toArray s 0 0 A = QQ
  rw [fn_X10_endsAct] at hf
  refine lv_iconst (v := (0 : Int32)) hx hb dX10_endsAct_0 (by decide) ?_
  refine lv_istore_n (lv' := [(2, .int (0 : Int32)), (0, .ref a0), (1, .int x1)]) hx hb dX10_endsAct_1 rfl hl (by decide) rfl (fun ls hl => ?_)
  refine lv_iconst (v := (0 : Int32)) hx hb dX10_endsAct_2 (by decide) ?_
  refine lv_istore_n (lv' := [(3, .int (0 : Int32)), (2, .int (0 : Int32)), (0, .ref a0), (1, .int x1)]) hx hb dX10_endsAct_3 rfl hl (by decide) rfl (fun ls hl => ?_)
  have lp4_18 : ∀ (n : Nat) (v1 : Int32) (v2 : Int32) (H : Heap) (locs : List Loc) (ls : Array Slot) (r3 : Int32), mm_W D cs A L K N s.heap I P H locs → lv_has ls 5 [(0, .ref a0), (1, .int x1), (2, .int v1), (3, .int v2)] → fn_X10_endsAct_L4 K N a0 x1 I P n v1 v2 = some r3 → (∀ (H : Heap) (locs : List Loc) (ls : Array Slot), mm_W D cs A L K N s.heap I P H locs → lv_has ls 5 [(0, .ref a0), (1, .int x1), (2, .int r3)] → W p l e (headSpec wz_X10_endsAct rm_X10_endsAct).room s m ([.ref a0, .int x1] : List Value).toArray below meth c H locs 0 0 QQ (F0 m 83 ls [])) → W p l e (headSpec wz_X10_endsAct rm_X10_endsAct).room s m ([.ref a0, .int x1] : List Value).toArray below meth c H locs 0 0 QQ (F0 m 4 ls []) := by
    intro n
    induction n with
    | zero => intro v1 v2 H locs ls r3 hM hl hf kk; exact nn_x (show (none : Option (Int32)) = some r3 from hf)
    | succ n ih =>
      intro v1 v2 H locs ls r3 hM hl hf kk
      rw [fn_X10_endsAct_L4] at hf
      refine lv_iload_n hx hb dX10_endsAct_4 rfl (lv_at hl 3 rfl) ?_
      refine lv_sipush (v := (192 : Int32)) hx hb dX10_endsAct_5 (by decide) ?_
      refine lv_icmp_ge (tgt := 83) hx hb dX10_endsAct_8 (by decide) (fun hc4 => ?_) (fun hc4 => ?_)
      · have hf := it_p hf hc4
        obtain rfl := Option.some.inj hf
        exact kk _ _ _ hM (lv_sub hl [0, 1, 2] rfl)
      · have hf := it_n hf hc4
        refine lv_iload_n hx hb dX10_endsAct_11 rfl (lv_at hl 2 rfl) ?_
        refine lv_aload_n hx hb dX10_endsAct_12 rfl (lv_at hl 0 rfl) ?_
        refine gd_e hf (fun hg5 hf => ?_)
        refine bd_e hf (fun q6 eq6 hf => ?_)
        refine ev_getP (v := q6) S hK hM (ci := 10) (n := 23) (C := RX10) (T := TX10) hin10 rfl hg5 15 (by decide) lk19 rfl rfl eq6 rfl dX10_endsAct_13 ?_
        refine lv_iload_n hx hb dX10_endsAct_16 rfl (lv_at hl 3 rfl) ?_
        refine gd_e hf (fun hg7 hf => ?_)
        refine ev_iald S hK hM hg7 (j := v2.toNatClampNeg) rfl dX10_endsAct_17 ?_
        refine lv_aload_n hx hb dX10_endsAct_18 rfl (lv_at hl 0 rfl) ?_
        refine bd_e hf (fun q8 eq8 hf => ?_)
        refine ev_getP (v := q8) S hK hM (ci := 10) (n := 23) (C := RX10) (T := TX10) hin10 rfl hg5 0 (by decide) lk9 rfl rfl eq8 rfl dX10_endsAct_19 ?_
        refine lv_bipush (v := (20 : Int32)) hx hb dX10_endsAct_22 (by decide) ?_
        refine lv_sipush (v := (192 : Int32)) hx hb dX10_endsAct_24 (by decide) ?_
        refine lv_iload_n hx hb dX10_endsAct_27 rfl (lv_at hl 1 rfl) ?_
        refine lv_imul hx hb dX10_endsAct_28 ?_
        refine lv_iadd hx hb dX10_endsAct_29 ?_
        refine lv_iload_n hx hb dX10_endsAct_30 rfl (lv_at hl 3 rfl) ?_
        refine lv_iadd hx hb dX10_endsAct_31 ?_
        refine gd_e hf (fun hg9 hf => ?_)
        refine ev_iald S hK hM hg9 (j := ((((20 : Int32) + ((192 : Int32) * x1)) + v2)).toNatClampNeg) rfl dX10_endsAct_32 ?_
        refine lv_icmp_ne (tgt := 65) hx hb dX10_endsAct_33 (by decide) (fun hc10 => ?_) (fun hc10 => ?_)
        · have hf := it_n hf hc10
          refine lv_iconst (v := (1 : Int32)) hx hb dX10_endsAct_65 (by decide) ?_
          refine lv_iload_n hx hb dX10_endsAct_66 rfl (lv_at hl 3 rfl) ?_
          refine bd_e hf (fun r11 er11 hf => ?_)
          refine ev_calli (va_runS (As := [.int v2]) (rest := [.int (1 : Int32), .int v1]) S (c_X10_tileOf (l := l) I P v2 r11 er11) (va_cwS 1 hts (gi_s wa_5_144 wa_5_145 wa_1_11 wa_5_146) rfl rfl rfl (by decide +kernel) ⟨Nat.le_of_ble_eq_true rfl, Nat.le_of_ble_eq_true rfl⟩) ⟨mm_B_blind, fun U hU hW => ⟨rfl, mm_B_of hK hZ hM hU hW⟩⟩ rfl rfl hl.1 rfl (lv_room (Nat.le_of_ble_eq_true rfl)) dX10_endsAct_67 ⟨Nat.zero_le _, Nat.zero_le _⟩) hM (fun H locs hM => ?_)
          refine lv_ishl hx hb dX10_endsAct_70 ?_
          refine lv_goto (tgt := 75) hx hb dX10_endsAct_71 (by decide) ?_
          refine lv_ior hx hb dX10_endsAct_75 ?_
          refine lv_topi (fun v12 ev12 => ?_)
          have hf := nm_x ev12 hf
          refine lv_istore_n (lv' := [(2, .int v12), (0, .ref a0), (1, .int x1), (3, .int v2)]) hx hb dX10_endsAct_76 rfl hl (by decide) rfl (fun ls hl => ?_)
          refine lv_iinc (v := (v2 + (1 : Int32))) (lv' := [(3, .int (v2 + (1 : Int32))), (2, .int v12), (0, .ref a0), (1, .int x1)]) hx hb dX10_endsAct_77 hl (k := 3) rfl rfl (by decide) rfl (fun ls hl => ?_)
          refine lv_goto (tgt := 4) hx hb dX10_endsAct_80 (by decide) ?_
          exact ih v12 (v2 + (1 : Int32)) _ _ _ _ hM (lv_sub hl [2, 3, 1, 0] rfl) hf kk
        · have hf := it_p hf hc10
          refine lv_aload_n hx hb dX10_endsAct_36 rfl (lv_at hl 0 rfl) ?_
          refine ev_getP (v := q6) S hK hM (ci := 10) (n := 23) (C := RX10) (T := TX10) hin10 rfl hg5 15 (by decide) lk19 rfl rfl eq6 rfl dX10_endsAct_37 ?_
          refine lv_sipush (v := (192 : Int32)) hx hb dX10_endsAct_40 (by decide) ?_
          refine lv_iload_n hx hb dX10_endsAct_43 rfl (lv_at hl 3 rfl) ?_
          refine lv_iadd hx hb dX10_endsAct_44 ?_
          refine gd_e hf (fun hg13 hf => ?_)
          refine ev_iald S hK hM hg13 (j := (((192 : Int32) + v2)).toNatClampNeg) rfl dX10_endsAct_45 ?_
          refine lv_aload_n hx hb dX10_endsAct_46 rfl (lv_at hl 0 rfl) ?_
          refine ev_getP (v := q8) S hK hM (ci := 10) (n := 23) (C := RX10) (T := TX10) hin10 rfl hg5 0 (by decide) lk9 rfl rfl eq8 rfl dX10_endsAct_47 ?_
          refine lv_sipush (v := (788 : Int32)) hx hb dX10_endsAct_50 (by decide) ?_
          refine lv_sipush (v := (192 : Int32)) hx hb dX10_endsAct_53 (by decide) ?_
          refine lv_iload_n hx hb dX10_endsAct_56 rfl (lv_at hl 1 rfl) ?_
          refine lv_imul hx hb dX10_endsAct_57 ?_
          refine lv_iadd hx hb dX10_endsAct_58 ?_
          refine lv_iload_n hx hb dX10_endsAct_59 rfl (lv_at hl 3 rfl) ?_
          refine lv_iadd hx hb dX10_endsAct_60 ?_
          refine gd_e hf (fun hg14 hf => ?_)
          refine ev_iald S hK hM hg14 (j := ((((788 : Int32) + ((192 : Int32) * x1)) + v2)).toNatClampNeg) rfl dX10_endsAct_61 ?_
          refine lv_icmp_eq (tgt := 74) hx hb dX10_endsAct_62 (by decide) (fun hc15 => ?_) (fun hc15 => ?_)
          · have hf := it_p hf hc15
            refine lv_iconst (v := (0 : Int32)) hx hb dX10_endsAct_74 (by decide) ?_
            refine lv_ior hx hb dX10_endsAct_75 ?_
            refine lv_topi (fun v16 ev16 => ?_)
            have hf := nm_x ev16 hf
            refine lv_istore_n (lv' := [(2, .int v16), (0, .ref a0), (1, .int x1), (3, .int v2)]) hx hb dX10_endsAct_76 rfl hl (by decide) rfl (fun ls hl => ?_)
            refine lv_iinc (v := (v2 + (1 : Int32))) (lv' := [(3, .int (v2 + (1 : Int32))), (2, .int v16), (0, .ref a0), (1, .int x1)]) hx hb dX10_endsAct_77 hl (k := 3) rfl rfl (by decide) rfl (fun ls hl => ?_)
            refine lv_goto (tgt := 4) hx hb dX10_endsAct_80 (by decide) ?_
            exact ih v16 (v2 + (1 : Int32)) _ _ _ _ hM (lv_sub hl [2, 3, 1, 0] rfl) hf kk
          · have hf := it_n hf hc15
            refine lv_iconst (v := (1 : Int32)) hx hb dX10_endsAct_65 (by decide) ?_
            refine lv_iload_n hx hb dX10_endsAct_66 rfl (lv_at hl 3 rfl) ?_
            refine bd_e hf (fun r17 er17 hf => ?_)
            refine ev_calli (va_runS (As := [.int v2]) (rest := [.int (1 : Int32), .int v1]) S (c_X10_tileOf (l := l) I P v2 r17 er17) (va_cwS 1 hts (gi_s wa_5_144 wa_5_145 wa_1_11 wa_5_146) rfl rfl rfl (by decide +kernel) ⟨Nat.le_of_ble_eq_true rfl, Nat.le_of_ble_eq_true rfl⟩) ⟨mm_B_blind, fun U hU hW => ⟨rfl, mm_B_of hK hZ hM hU hW⟩⟩ rfl rfl hl.1 rfl (lv_room (Nat.le_of_ble_eq_true rfl)) dX10_endsAct_67 ⟨Nat.zero_le _, Nat.zero_le _⟩) hM (fun H locs hM => ?_)
            refine lv_ishl hx hb dX10_endsAct_70 ?_
            refine lv_goto (tgt := 75) hx hb dX10_endsAct_71 (by decide) ?_
            refine lv_ior hx hb dX10_endsAct_75 ?_
            refine lv_topi (fun v18 ev18 => ?_)
            have hf := nm_x ev18 hf
            refine lv_istore_n (lv' := [(2, .int v18), (0, .ref a0), (1, .int x1), (3, .int v2)]) hx hb dX10_endsAct_76 rfl hl (by decide) rfl (fun ls hl => ?_)
            refine lv_iinc (v := (v2 + (1 : Int32))) (lv' := [(3, .int (v2 + (1 : Int32))), (2, .int v18), (0, .ref a0), (1, .int x1)]) hx hb dX10_endsAct_77 hl (k := 3) rfl rfl (by decide) rfl (fun ls hl => ?_)
            refine lv_goto (tgt := 4) hx hb dX10_endsAct_80 (by decide) ?_
            exact ih v18 (v2 + (1 : Int32)) _ _ _ _ hM (lv_sub hl [2, 3, 1, 0] rfl) hf kk
  refine bd_e hf (fun r3 er3 hf => ?_)
  refine lp4_18 FU (0 : Int32) (0 : Int32) _ _ _ r3 hM (lv_sub hl [2, 3, 1, 0] rfl) er3 (fun H locs ls hM hl => ?_)
  refine lv_iload_n hx hb dX10_endsAct_83 rfl (lv_at hl 2 rfl) ?_
  refine lv_if_ne (tgt := 88) hx hb dX10_endsAct_84 (by decide) (fun hc19 => ?_) (fun hc19 => ?_)
  · have hf := it_n hf hc19
    refine lv_aload_n hx hb dX10_endsAct_88 rfl (lv_at hl 0 rfl) ?_
    refine gd_e hf (fun hg20 hf => ?_)
    refine bd_e hf (fun q21 eq21 hf => ?_)
    refine ev_getP (v := q21) S hK hM (ci := 10) (n := 23) (C := RX10) (T := TX10) hin10 rfl hg20 0 (by decide) lk9 rfl rfl eq21 rfl dX10_endsAct_89 ?_
    refine lv_bipush (v := (6 : Int32)) hx hb dX10_endsAct_92 (by decide) ?_
    refine gd_e hf (fun hg22 hf => ?_)
    refine ev_iald S hK hM hg22 (j := 6) rfl dX10_endsAct_94 ?_
    refine lv_bipush (v := (10 : Int32)) hx hb dX10_endsAct_95 (by decide) ?_
    refine bd_e hf (fun j24 ej24 hf => ?_)
    have kj24 : ∀ (H : Heap) (locs : List Loc) (ls : Array Slot), mm_W D cs A L K N s.heap j24 P H locs → lv_has ls 5 [(0, .ref a0), (1, .int x1), (2, .int r3)] → W p l e (headSpec wz_X10_endsAct rm_X10_endsAct).room s m ([.ref a0, .int x1] : List Value).toArray below meth c H locs 0 0 QQ (F0 m 146 ls []) := by
      intro H locs ls hM hl
      refine lv_sipush (v := (1748 : Int32)) hx hb dX10_endsAct_146 (by decide) ?_
      refine lv_sipush (v := (386 : Int32)) hx hb dX10_endsAct_149 (by decide) ?_
      refine lv_aload_n hx hb dX10_endsAct_152 rfl (lv_at hl 0 rfl) ?_
      refine ev_getP (v := q21) S hK hM (ci := 10) (n := 23) (C := RX10) (T := TX10) hin10 rfl hg20 0 (by decide) lk9 rfl rfl eq21 rfl dX10_endsAct_153 ?_
      refine lv_bipush (v := (6 : Int32)) hx hb dX10_endsAct_156 (by decide) ?_
      refine ev_iald S hK hM hg22 (j := 6) rfl dX10_endsAct_158 ?_
      refine lv_imul hx hb dX10_endsAct_159 ?_
      refine lv_iadd hx hb dX10_endsAct_160 ?_
      refine lv_topi (fun v25 ev25 => ?_)
      have hf := nm_x ev25 hf
      refine lv_istore_n (lv' := [(3, .int v25), (0, .ref a0), (1, .int x1), (2, .int r3)]) hx hb dX10_endsAct_161 rfl hl (by decide) rfl (fun ls hl => ?_)
      refine lv_aload_n hx hb dX10_endsAct_162 rfl (lv_at hl 1 rfl) ?_
      refine ev_getP (v := q21) S hK hM (ci := 10) (n := 23) (C := RX10) (T := TX10) hin10 rfl hg20 0 (by decide) lk9 rfl rfl eq21 rfl dX10_endsAct_163 ?_
      refine lv_iload_n hx hb dX10_endsAct_166 rfl (lv_at hl 0 rfl) ?_
      refine lv_iload_n hx hb dX10_endsAct_167 rfl (lv_at hl 2 rfl) ?_
      refine gd_e hf (fun hg26 hf => ?_)
      refine ev_iast S hK hM hg26 (j := v25.toNatClampNeg) rfl dX10_endsAct_168 (fun I27 eI27 H locs hM => ?_)
      have hf := nm_x eI27 hf
      refine lv_aload_n hx hb dX10_endsAct_169 rfl (lv_at hl 1 rfl) ?_
      refine ev_getP (v := q21) S hK hM (ci := 10) (n := 23) (C := RX10) (T := TX10) hin10 rfl hg20 0 (by decide) lk9 rfl rfl eq21 rfl dX10_endsAct_170 ?_
      refine lv_iload_n hx hb dX10_endsAct_173 rfl (lv_at hl 0 rfl) ?_
      refine lv_iconst (v := (1 : Int32)) hx hb dX10_endsAct_174 (by decide) ?_
      refine lv_iadd hx hb dX10_endsAct_175 ?_
      refine lv_iload_n hx hb dX10_endsAct_176 rfl (lv_at hl 3 rfl) ?_
      refine gd_e hf (fun hg28 hf => ?_)
      refine ev_iast S hK hM hg28 (j := ((v25 + (1 : Int32))).toNatClampNeg) rfl dX10_endsAct_177 (fun I29 eI29 H locs hM => ?_)
      have hf := nm_x eI29 hf
      refine lv_iconst (v := (0 : Int32)) hx hb dX10_endsAct_178 (by decide) ?_
      refine lv_istore (lv' := [(4, .int (0 : Int32)), (3, .int v25), (0, .ref a0), (1, .int x1), (2, .int r3)]) hx hb dX10_endsAct_179 hl (by decide) rfl (fun ls hl => ?_)
      have lp181_37 : ∀ (n : Nat) (v30 : Int32) (I31 : Nat → Nat → Int32) (H : Heap) (locs : List Loc) (ls : Array Slot) (r32 : (Nat → Nat → Int32)), mm_W D cs A L K N s.heap I31 P H locs → lv_has ls 5 [(0, .ref a0), (3, .int v25), (4, .int v30)] → fn_X10_endsAct_L181 K N a0 P q21 v25 n v30 I31 = some r32 → (∀ (H : Heap) (locs : List Loc) (ls : Array Slot), mm_W D cs A L K N s.heap r32 P H locs → lv_has ls 5 [(0, .ref a0)] → W p l e (headSpec wz_X10_endsAct rm_X10_endsAct).room s m ([.ref a0, .int x1] : List Value).toArray below meth c H locs 0 0 QQ (F0 m 213 ls [])) → W p l e (headSpec wz_X10_endsAct rm_X10_endsAct).room s m ([.ref a0, .int x1] : List Value).toArray below meth c H locs 0 0 QQ (F0 m 181 ls []) := by
        intro n
        induction n with
        | zero => intro v30 I31 H locs ls r32 hM hl hf kk; exact nn_x (show (none : Option ((Nat → Nat → Int32))) = some r32 from hf)
        | succ n ih =>
          intro v30 I31 H locs ls r32 hM hl hf kk
          rw [fn_X10_endsAct_L181] at hf
          refine lv_iload hx hb dX10_endsAct_181 (lv_at hl 2 rfl) ?_
          refine lv_sipush (v := (384 : Int32)) hx hb dX10_endsAct_183 (by decide) ?_
          refine lv_icmp_ge (tgt := 213) hx hb dX10_endsAct_186 (by decide) (fun hc33 => ?_) (fun hc33 => ?_)
          · have hf := it_p hf hc33
            obtain rfl := Option.some.inj hf
            exact kk _ _ _ hM (lv_sub hl [0] rfl)
          · have hf := it_n hf hc33
            refine lv_aload_n hx hb dX10_endsAct_189 rfl (lv_at hl 0 rfl) ?_
            refine ev_getP (v := q21) S hK hM (ci := 10) (n := 23) (C := RX10) (T := TX10) hin10 rfl hg20 0 (by decide) lk9 rfl rfl eq21 rfl dX10_endsAct_190 ?_
            refine lv_iload_n hx hb dX10_endsAct_193 rfl (lv_at hl 1 rfl) ?_
            refine lv_iconst (v := (2 : Int32)) hx hb dX10_endsAct_194 (by decide) ?_
            refine lv_iadd hx hb dX10_endsAct_195 ?_
            refine lv_iload hx hb dX10_endsAct_196 (lv_at hl 2 rfl) ?_
            refine lv_iadd hx hb dX10_endsAct_198 ?_
            refine lv_aload_n hx hb dX10_endsAct_199 rfl (lv_at hl 0 rfl) ?_
            refine bd_e hf (fun q34 eq34 hf => ?_)
            refine ev_getP (v := q34) S hK hM (ci := 10) (n := 23) (C := RX10) (T := TX10) hin10 rfl hg20 15 (by decide) lk19 rfl rfl eq34 rfl dX10_endsAct_200 ?_
            refine lv_iload hx hb dX10_endsAct_203 (lv_at hl 2 rfl) ?_
            refine gd_e hf (fun hg35 hf => ?_)
            refine ev_iald S hK hM hg35 (j := v30.toNatClampNeg) rfl dX10_endsAct_205 ?_
            refine gd_e hf (fun hg36 hf => ?_)
            refine ev_iast S hK hM hg36 (j := (((v25 + (2 : Int32)) + v30)).toNatClampNeg) rfl dX10_endsAct_206 (fun I37 eI37 H locs hM => ?_)
            have hf := nm_x eI37 hf
            refine lv_iinc (v := (v30 + (1 : Int32))) (lv' := [(4, .int (v30 + (1 : Int32))), (0, .ref a0), (3, .int v25)]) hx hb dX10_endsAct_207 hl (k := 2) rfl rfl (by decide) rfl (fun ls hl => ?_)
            refine lv_goto (tgt := 181) hx hb dX10_endsAct_210 (by decide) ?_
            exact ih (v30 + (1 : Int32)) I37 _ _ _ _ hM (lv_sub hl [1, 2, 0] rfl) hf kk
      refine bd_e hf (fun r32 er32 hf => ?_)
      refine lp181_37 FU (0 : Int32) I29 _ _ _ r32 hM (lv_sub hl [2, 1, 0] rfl) er32 (fun H locs ls hM hl => ?_)
      refine lv_aload_n hx hb dX10_endsAct_213 rfl (lv_at hl 0 rfl) ?_
      refine ev_getP (v := q21) S hK hM (ci := 10) (n := 23) (C := RX10) (T := TX10) hin10 rfl hg20 0 (by decide) lk9 rfl rfl eq21 rfl dX10_endsAct_214 ?_
      refine lv_bipush (v := (6 : Int32)) hx hb dX10_endsAct_217 (by decide) ?_
      refine lv_dup2_11 hx hb dX10_endsAct_219 rfl rfl ?_
      refine ev_iald S hK hM hg22 (j := 6) rfl dX10_endsAct_220 ?_
      refine lv_iconst (v := (1 : Int32)) hx hb dX10_endsAct_221 (by decide) ?_
      refine lv_iadd hx hb dX10_endsAct_222 ?_
      refine ev_iast S hK hM hg22 (j := 6) rfl dX10_endsAct_223 (fun I38 eI38 H locs hM => ?_)
      have hf := nm_x eI38 hf
      refine lv_aload_n hx hb dX10_endsAct_224 rfl (lv_at hl 0 rfl) ?_
      refine ev_getP (v := q21) S hK hM (ci := 10) (n := 23) (C := RX10) (T := TX10) hin10 rfl hg20 0 (by decide) lk9 rfl rfl eq21 rfl dX10_endsAct_225 ?_
      refine lv_bipush (v := (7 : Int32)) hx hb dX10_endsAct_228 (by decide) ?_
      refine lv_aload_n hx hb dX10_endsAct_230 rfl (lv_at hl 0 rfl) ?_
      refine ev_getP (v := q21) S hK hM (ci := 10) (n := 23) (C := RX10) (T := TX10) hin10 rfl hg20 0 (by decide) lk9 rfl rfl eq21 rfl dX10_endsAct_231 ?_
      refine lv_bipush (v := (6 : Int32)) hx hb dX10_endsAct_234 (by decide) ?_
      refine ev_iald S hK hM hg22 (j := 6) rfl dX10_endsAct_236 ?_
      refine gd_e hf (fun hg39 hf => ?_)
      refine ev_iast S hK hM hg39 (j := 7) rfl dX10_endsAct_237 (fun I40 eI40 H locs hM => ?_)
      have hf := nm_x eI40 hf
      obtain rfl := Option.some.inj hf
      subst hQ
      exact ev_vret S hr hlocks hK hZ hM dX10_endsAct_238
    have hf := ej24
    refine lv_icmp_ne (tgt := 146) hx hb dX10_endsAct_97 (by decide) (fun hc23 => ?_) (fun hc23 => ?_)
    · have hf := it_n hf hc23
      obtain rfl := Option.some.inj hf
      exact kj24 _ _ _ hM (hl)
    · have hf := it_p hf hc23
      refine lv_iconst (v := (0 : Int32)) hx hb dX10_endsAct_100 (by decide) ?_
      refine lv_istore_n (lv' := [(3, .int (0 : Int32)), (0, .ref a0), (1, .int x1), (2, .int r3)]) hx hb dX10_endsAct_101 rfl hl (by decide) rfl (fun ls hl => ?_)
      have lp102_47 : ∀ (n : Nat) (v41 : Int32) (I42 : Nat → Nat → Int32) (H : Heap) (locs : List Loc) (ls : Array Slot) (r43 : (Nat → Nat → Int32)), mm_W D cs A L K N s.heap I42 P H locs → lv_has ls 5 [(0, .ref a0), (1, .int x1), (2, .int r3), (3, .int v41)] → fn_X10_endsAct_L102 K N q21 n v41 I42 = some r43 → (∀ (H : Heap) (locs : List Loc) (ls : Array Slot), mm_W D cs A L K N s.heap r43 P H locs → lv_has ls 5 [(0, .ref a0), (1, .int x1), (2, .int r3)] → W p l e (headSpec wz_X10_endsAct rm_X10_endsAct).room s m ([.ref a0, .int x1] : List Value).toArray below meth c H locs 0 0 QQ (F0 m 135 ls [])) → W p l e (headSpec wz_X10_endsAct rm_X10_endsAct).room s m ([.ref a0, .int x1] : List Value).toArray below meth c H locs 0 0 QQ (F0 m 102 ls []) := by
        intro n
        induction n with
        | zero => intro v41 I42 H locs ls r43 hM hl hf kk; exact nn_x (show (none : Option ((Nat → Nat → Int32))) = some r43 from hf)
        | succ n ih =>
          intro v41 I42 H locs ls r43 hM hl hf kk
          rw [fn_X10_endsAct_L102] at hf
          refine lv_iload_n hx hb dX10_endsAct_102 rfl (lv_at hl 3 rfl) ?_
          refine lv_sipush (v := (3474 : Int32)) hx hb dX10_endsAct_103 (by decide) ?_
          refine lv_icmp_ge (tgt := 135) hx hb dX10_endsAct_106 (by decide) (fun hc44 => ?_) (fun hc44 => ?_)
          · have hf := it_p hf hc44
            obtain rfl := Option.some.inj hf
            exact kk _ _ _ hM (lv_sub hl [0, 1, 2] rfl)
          · have hf := it_n hf hc44
            refine lv_aload_n hx hb dX10_endsAct_109 rfl (lv_at hl 0 rfl) ?_
            refine ev_getP (v := q21) S hK hM (ci := 10) (n := 23) (C := RX10) (T := TX10) hin10 rfl hg20 0 (by decide) lk9 rfl rfl eq21 rfl dX10_endsAct_110 ?_
            refine lv_sipush (v := (1748 : Int32)) hx hb dX10_endsAct_113 (by decide) ?_
            refine lv_iload_n hx hb dX10_endsAct_116 rfl (lv_at hl 3 rfl) ?_
            refine lv_iadd hx hb dX10_endsAct_117 ?_
            refine lv_aload_n hx hb dX10_endsAct_118 rfl (lv_at hl 0 rfl) ?_
            refine ev_getP (v := q21) S hK hM (ci := 10) (n := 23) (C := RX10) (T := TX10) hin10 rfl hg20 0 (by decide) lk9 rfl rfl eq21 rfl dX10_endsAct_119 ?_
            refine lv_sipush (v := (2134 : Int32)) hx hb dX10_endsAct_122 (by decide) ?_
            refine lv_iload_n hx hb dX10_endsAct_125 rfl (lv_at hl 3 rfl) ?_
            refine lv_iadd hx hb dX10_endsAct_126 ?_
            refine gd_e hf (fun hg45 hf => ?_)
            refine ev_iald S hK hM hg45 (j := (((2134 : Int32) + v41)).toNatClampNeg) rfl dX10_endsAct_127 ?_
            refine gd_e hf (fun hg46 hf => ?_)
            refine ev_iast S hK hM hg46 (j := (((1748 : Int32) + v41)).toNatClampNeg) rfl dX10_endsAct_128 (fun I47 eI47 H locs hM => ?_)
            have hf := nm_x eI47 hf
            refine lv_iinc (v := (v41 + (1 : Int32))) (lv' := [(3, .int (v41 + (1 : Int32))), (0, .ref a0), (1, .int x1), (2, .int r3)]) hx hb dX10_endsAct_129 hl (k := 3) rfl rfl (by decide) rfl (fun ls hl => ?_)
            refine lv_goto (tgt := 102) hx hb dX10_endsAct_132 (by decide) ?_
            exact ih (v41 + (1 : Int32)) I47 _ _ _ _ hM (lv_sub hl [1, 2, 3, 0] rfl) hf kk
      refine bd_e hf (fun r43 er43 hf => ?_)
      refine lp102_47 FU (0 : Int32) I _ _ _ r43 hM (lv_sub hl [1, 2, 3, 0] rfl) er43 (fun H locs ls hM hl => ?_)
      refine lv_aload_n hx hb dX10_endsAct_135 rfl (lv_at hl 0 rfl) ?_
      refine ev_getP (v := q21) S hK hM (ci := 10) (n := 23) (C := RX10) (T := TX10) hin10 rfl hg20 0 (by decide) lk9 rfl rfl eq21 rfl dX10_endsAct_136 ?_
      refine lv_bipush (v := (6 : Int32)) hx hb dX10_endsAct_139 (by decide) ?_
      refine lv_dup2_11 hx hb dX10_endsAct_141 rfl rfl ?_
      refine ev_iald S hK hM hg22 (j := 6) rfl dX10_endsAct_142 ?_
      refine lv_iconst (v := (1 : Int32)) hx hb dX10_endsAct_143 (by decide) ?_
      refine lv_isub hx hb dX10_endsAct_144 ?_
      refine ev_iast S hK hM hg22 (j := 6) rfl dX10_endsAct_145 (fun I48 eI48 H locs hM => ?_)
      have hf := nm_x eI48 hf
      obtain rfl := Option.some.inj hf
      exact kj24 _ _ _ hM (hl)
  · have hf := it_p hf hc19
    obtain rfl := Option.some.inj hf
    subst hQ
    exact ev_vret S hr hlocks hK hZ hM dX10_endsAct_87
noncomputable def fn_X10_stroke (K N : Nat → Nat) (I : Nat → Nat → Int32) (P : Nat → Nat → Option Nat) (a0 : Nat) (x1 : Int32) : Option (Int32 × (Nat → Nat → Int32)) := Option.bind (fn_X10_isLayer K N I P a0 x1) (fun (r1 : Int32) => gd (K a0 = 11) (if r1 = 0 then (some ((-2 : Int32), I)) else (Option.bind (fn_X10_goesOver K N I P a0 (-1 : Int32)) (fun (r4 : Int32 × (Nat → Nat → Int32)) => if r4.1 < 0 then (Option.bind (fn_X10_beginsAct K N r4.2 P a0 x1) (fun (r6 : (Nat → Nat → Int32)) => Option.bind (fn_X10_goesOver K N r6 P a0 x1) (fun (r7 : Int32 × (Nat → Nat → Int32)) => Option.bind (some (up2 r7.2 a0 5 (0 : Int32))) (fun I8 => Option.bind (fn_X10_endsAct K N I8 P a0 x1) (fun (r9 : (Nat → Nat → Int32)) => some ((r9 a0 14), r9)))))) else (Option.bind (some (up2 r4.2 a0 5 (0 : Int32))) (fun I10 => some (((-100 : Int32) - r4.1), I10)))))))
abbrev wz_X10_stroke : List Cond := Cond.code yX10_stroke cX10_stroke 3 (some .int) :: WA
abbrev rm_X10_stroke : Room := { frames := 10, cells := 0, slots := 0, locals := 206 }
set_option maxHeartbeats 4000000 in
set_option maxRecDepth 100000 in
theorem c_X10_stroke (I : Nat → Nat → Int32) (P : Nat → Nat → Option Nat) (a0 : Nat) (x1 : Int32) (res : Int32 × (Nat → Nat → Int32)) (hf : fn_X10_stroke K N I P a0 x1 = some res) : Met l yX10_stroke wz_X10_stroke rm_X10_stroke (va_Pc [.ref a0, .int x1] (mm_B D cs A L K N z w I P)) (va_Qi (fun r (_ : Unit) => r = res.1) (fun _ => mm_B D cs A L K N z w res.2 P) A) 0 0 A := by
  refine Met.ofW (cc := cX10_stroke) (maxL := 3) (ret := (some .int)) (by decide) rfl ?_
  intro p e s m args below meth c s₁ B hml hv
  obtain ⟨rfl, hBm⟩ := hv
  have hx := B.exec
  have hb := B.bytes
  have hr := B.returns
  have hts := atoms_spec (ws := wz_X10_stroke) B.pre
  have hWA : ∀ w ∈ WA, w.before ([.ref a0, .int x1] : List Value).toArray s = true := fun u9 h9 => hts u9 (List.mem_cons_of_mem _ h9)
  have hown : s.vm.findClass RX10 = some m.cls := findClass_of_methodNamed B.named
  have hlocks := B.notSynchronized
  have S : CallFix p m c cX10_stroke 3 s ([.ref a0, .int x1] : List Value).toArray wz_X10_stroke RX10 := ⟨hx, hb, hml, hown, hts⟩
  have hK := hBm.2.2.2.1
  have hZ := hBm.2.2.2.2
  have hM : mm_W D cs A L K N s.heap I P s.heap [] := ⟨hBm.1, hBm.2.1, hBm.2.2.1, va_S.rf⟩
  have hl := lv_entry ([.ref a0, .int x1]) (n := 3) (Nat.le_of_ble_eq_true rfl)
  rw [lg_entry_eq]
  generalize (lg_sl ([.ref a0, .int x1]) ++ List.replicate (3 - (lg_sl ([.ref a0, .int x1])).length) Slot.unset).toArray = ls at hl ⊢
  have hl : lv_has ls 3 [(0, .ref a0), (1, .int x1)] := hl
  have hin10 : ∀ w ∈ wsX100, w ∈ wz_X10_stroke := fun w h => List.mem_cons_of_mem _ (wu_X10 w h)
  have lk124 : (Cond.fieldLink RX10 124 RX10 "fed" "I").before ([.ref a0, .int x1] : List Value).toArray s = true := hWA _ wa_4_146
  have lk181 : (Cond.fieldLink RX10 181 RX10 "stamped" "I").before ([.ref a0, .int x1] : List Value).toArray s = true := hWA _ wa_4_155
  generalize hQ : MQ below (va_Qi (fun r (_ : Unit) => r = res.1) (fun _ => mm_B D cs A L K N z w res.2 P) A) ([.ref a0, .int x1] : List Value).toArray s 0 0 A = QQ
  rw [fn_X10_stroke] at hf
  refine lv_aload_n hx hb dX10_stroke_0 rfl (lv_at hl 0 rfl) ?_
  refine lv_iload_n hx hb dX10_stroke_1 rfl (lv_at hl 1 rfl) ?_
  refine bd_e hf (fun r1 er1 hf => ?_)
  refine gd_e hf (fun hg2 hf => ?_)
  refine ev_calli (va_runV (As := [.int x1]) (rest := []) S (c_X10_isLayer (l := l) I P a0 x1 r1 er1) (cwV 1 hts (gi_v wa_4_232 wa_4_234 wa_s_27 wa_1_11 wa_4_235) rfl rfl rfl (by decide +kernel) ⟨Nat.le_of_ble_eq_true rfl, Nat.le_of_ble_eq_true rfl⟩) ⟨mm_B_blind, ev_recv hK hM (ci := 10) rfl hg2 rfl, fun U hU hW => ⟨rfl, mm_B_of hK hZ hM hU hW⟩⟩ rfl rfl hl.1 rfl (lv_room (Nat.le_of_ble_eq_true rfl)) dX10_stroke_2 ⟨Nat.zero_le _, Nat.zero_le _⟩) hM (fun H locs hM => ?_)
  refine lv_if_ne (tgt := 11) hx hb dX10_stroke_5 (by decide) (fun hc3 => ?_) (fun hc3 => ?_)
  · have hf := it_n hf hc3
    refine lv_aload_n hx hb dX10_stroke_11 rfl (lv_at hl 0 rfl) ?_
    refine lv_iconst (v := (-1 : Int32)) hx hb dX10_stroke_12 (by decide) ?_
    refine bd_e hf (fun r4 er4 hf => ?_)
    refine ev_calli (va_runV (As := [.int (-1 : Int32)]) (rest := []) S (c_X10_goesOver (l := l) I P a0 (-1 : Int32) r4 er4) (cwV 1 hts (gi_v wa_5_76 wa_5_78 wa_s_35 wa_1_11 wa_5_79) rfl rfl rfl (by decide +kernel) ⟨Nat.le_of_ble_eq_true rfl, Nat.le_of_ble_eq_true rfl⟩) ⟨mm_B_blind, ev_recv hK hM (ci := 10) rfl hg2 rfl, fun U hU hW => ⟨rfl, mm_B_of hK hZ hM hU hW⟩⟩ rfl rfl hl.1 rfl (lv_room (Nat.le_of_ble_eq_true rfl)) dX10_stroke_13 ⟨Nat.zero_le _, Nat.zero_le _⟩) hM (fun H locs hM => ?_)
    refine lv_istore_n (lv' := [(2, .int r4.1), (0, .ref a0), (1, .int x1)]) hx hb dX10_stroke_16 rfl hl (by decide) rfl (fun ls hl => ?_)
    refine lv_iload_n hx hb dX10_stroke_17 rfl (lv_at hl 0 rfl) ?_
    refine lv_if_lt (tgt := 31) hx hb dX10_stroke_18 (by decide) (fun hc5 => ?_) (fun hc5 => ?_)
    · have hf := it_p hf hc5
      refine lv_aload_n hx hb dX10_stroke_31 rfl (lv_at hl 1 rfl) ?_
      refine lv_iload_n hx hb dX10_stroke_32 rfl (lv_at hl 2 rfl) ?_
      refine bd_e hf (fun r6 er6 hf => ?_)
      refine ev_callv (va_runV (As := [.int x1]) (rest := []) S (c_X10_beginsAct (l := l) r4.2 P a0 x1 r6 er6) (cwV 1 hts (gi_v wa_5_128 wa_5_130 wa_s_46 wa_1_11 wa_5_131) rfl rfl rfl (by decide +kernel) ⟨Nat.le_of_ble_eq_true rfl, Nat.le_of_ble_eq_true rfl⟩) ⟨mm_B_blind, ev_recv hK hM (ci := 10) rfl hg2 rfl, fun U hU hW => ⟨rfl, mm_B_of hK hZ hM hU hW⟩⟩ rfl rfl hl.1 rfl (lv_room (Nat.le_of_ble_eq_true rfl)) dX10_stroke_33 ⟨Nat.zero_le _, Nat.zero_le _⟩) hM (fun H locs hM => ?_)
      refine lv_aload_n hx hb dX10_stroke_36 rfl (lv_at hl 1 rfl) ?_
      refine lv_iload_n hx hb dX10_stroke_37 rfl (lv_at hl 2 rfl) ?_
      refine bd_e hf (fun r7 er7 hf => ?_)
      refine ev_calli (va_runV (As := [.int x1]) (rest := []) S (c_X10_goesOver (l := l) r6 P a0 x1 r7 er7) (cwV 1 hts (gi_v wa_5_76 wa_5_78 wa_s_35 wa_1_11 wa_5_79) rfl rfl rfl (by decide +kernel) ⟨Nat.le_of_ble_eq_true rfl, Nat.le_of_ble_eq_true rfl⟩) ⟨mm_B_blind, ev_recv hK hM (ci := 10) rfl hg2 rfl, fun U hU hW => ⟨rfl, mm_B_of hK hZ hM hU hW⟩⟩ rfl rfl hl.1 rfl (lv_room (Nat.le_of_ble_eq_true rfl)) dX10_stroke_38 ⟨Nat.zero_le _, Nat.zero_le _⟩) hM (fun H locs hM => ?_)
      refine lv_pop hx hb dX10_stroke_41 rfl ?_
      refine lv_aload_n hx hb dX10_stroke_42 rfl (lv_at hl 1 rfl) ?_
      refine lv_iconst (v := (0 : Int32)) hx hb dX10_stroke_43 (by decide) ?_
      refine ev_put S hK hM (ci := 10) (n := 23) (C := RX10) (T := TX10) hin10 tyX10 tyX10_ok nmX10 rfl hg2 5 (by decide) lk124 rfl rfl rfl rfl rfl (Nat.le_of_ble_eq_true rfl) rfl dX10_stroke_44 (fun I8 eI8 H locs hM => ?_)
      have hf := nm_x eI8 hf
      refine lv_aload_n hx hb dX10_stroke_47 rfl (lv_at hl 1 rfl) ?_
      refine lv_iload_n hx hb dX10_stroke_48 rfl (lv_at hl 2 rfl) ?_
      refine bd_e hf (fun r9 er9 hf => ?_)
      refine ev_callv (va_runV (As := [.int x1]) (rest := []) S (c_X10_endsAct (l := l) I8 P a0 x1 r9 er9) (cwV 1 hts (gi_v wa_5_140 wa_5_142 wa_s_49 wa_1_11 wa_5_143) rfl rfl rfl (by decide +kernel) ⟨Nat.le_of_ble_eq_true rfl, Nat.le_of_ble_eq_true rfl⟩) ⟨mm_B_blind, ev_recv hK hM (ci := 10) rfl hg2 rfl, fun U hU hW => ⟨rfl, mm_B_of hK hZ hM hU hW⟩⟩ rfl rfl hl.1 rfl (lv_room (Nat.le_of_ble_eq_true rfl)) dX10_stroke_49 ⟨Nat.zero_le _, Nat.zero_le _⟩) hM (fun H locs hM => ?_)
      refine lv_aload_n hx hb dX10_stroke_52 rfl (lv_at hl 1 rfl) ?_
      refine ev_get (v := .int (r9 a0 14)) S hK hM (ci := 10) (n := 23) (C := RX10) (T := TX10) hin10 rfl hg2 14 (by decide) lk181 rfl rfl rfl dX10_stroke_53 ?_
      obtain rfl := Option.some.inj hf
      subst hQ
      exact ev_iret S hr hlocks hK hZ hM dX10_stroke_56
    · have hf := it_n hf hc5
      refine lv_aload_n hx hb dX10_stroke_21 rfl (lv_at hl 1 rfl) ?_
      refine lv_iconst (v := (0 : Int32)) hx hb dX10_stroke_22 (by decide) ?_
      refine ev_put S hK hM (ci := 10) (n := 23) (C := RX10) (T := TX10) hin10 tyX10 tyX10_ok nmX10 rfl hg2 5 (by decide) lk124 rfl rfl rfl rfl rfl (Nat.le_of_ble_eq_true rfl) rfl dX10_stroke_23 (fun I10 eI10 H locs hM => ?_)
      have hf := nm_x eI10 hf
      refine lv_bipush (v := (-100 : Int32)) hx hb dX10_stroke_26 (by decide) ?_
      refine lv_iload_n hx hb dX10_stroke_28 rfl (lv_at hl 0 rfl) ?_
      refine lv_isub hx hb dX10_stroke_29 ?_
      obtain rfl := Option.some.inj hf
      subst hQ
      exact ev_iret S hr hlocks hK hZ hM dX10_stroke_30
  · have hf := it_p hf hc3
    refine lv_bipush (v := (-2 : Int32)) hx hb dX10_stroke_8 (by decide) ?_
    obtain rfl := Option.some.inj hf
    subst hQ
    exact ev_iret S hr hlocks hK hZ hM dX10_stroke_10
noncomputable def fn_X10_bits_L4 : Nat → Int32 → Int32 → Option (Int32)
  | 0, _, _ => none
  | n + 1, v1, v2 => if v2 = 0 then (some v1) else (Option.bind (some (v2 &&& (v2 - (1 : Int32)))) (fun v5 => fn_X10_bits_L4 n (v1 + (1 : Int32)) v5))
noncomputable def fn_X10_bits (x0 : Int32) : Option (Int32) := Option.bind (fn_X10_bits_L4 FU (0 : Int32) x0) (fun (r3 : Int32) => some r3)
abbrev wz_X10_bits : List Cond := Cond.code yX10_bits cX10_bits 3 (some .int) :: WA
abbrev rm_X10_bits : Room := { frames := 1, cells := 0, slots := 0, locals := 12 }
set_option maxHeartbeats 4000000 in
set_option maxRecDepth 100000 in
theorem c_X10_bits (I : Nat → Nat → Int32) (P : Nat → Nat → Option Nat) (x0 : Int32) (res : Int32) (hf : fn_X10_bits x0 = some res) : Met l yX10_bits wz_X10_bits rm_X10_bits (va_Pc [.int x0] (mm_B D cs A L K N z w I P)) (va_Qi (fun r (_ : Unit) => r = res) (fun _ => mm_B D cs A L K N z w I P) A) 0 0 A := by
  refine Met.ofW (cc := cX10_bits) (maxL := 3) (ret := (some .int)) (by decide) rfl ?_
  intro p e s m args below meth c s₁ B hml hv
  obtain ⟨rfl, hBm⟩ := hv
  have hx := B.exec
  have hb := B.bytes
  have hr := B.returns
  have hts := atoms_spec (ws := wz_X10_bits) B.pre
  have hWA : ∀ w ∈ WA, w.before ([.int x0] : List Value).toArray s = true := fun u9 h9 => hts u9 (List.mem_cons_of_mem _ h9)
  have hown : s.vm.findClass RX10 = some m.cls := findClass_of_methodNamed B.named
  have hlocks := B.notSynchronized
  have S : CallFix p m c cX10_bits 3 s ([.int x0] : List Value).toArray wz_X10_bits RX10 := ⟨hx, hb, hml, hown, hts⟩
  have hK := hBm.2.2.2.1
  have hZ := hBm.2.2.2.2
  have hM : mm_W D cs A L K N s.heap I P s.heap [] := ⟨hBm.1, hBm.2.1, hBm.2.2.1, va_S.rf⟩
  have hl := lv_entry ([.int x0]) (n := 3) (Nat.le_of_ble_eq_true rfl)
  rw [lg_entry_eq]
  generalize (lg_sl ([.int x0]) ++ List.replicate (3 - (lg_sl ([.int x0])).length) Slot.unset).toArray = ls at hl ⊢
  have hl : lv_has ls 3 [(0, .int x0)] := hl
  generalize hQ : MQ below (va_Qi (fun r (_ : Unit) => r = res) (fun _ => mm_B D cs A L K N z w I P) A) ([.int x0] : List Value).toArray s 0 0 A = QQ
  unfold fn_X10_bits at hf
  refine lv_iconst (v := (0 : Int32)) hx hb dX10_bits_0 (by decide) ?_
  refine lv_istore_n (lv' := [(1, .int (0 : Int32)), (0, .int x0)]) hx hb dX10_bits_1 rfl hl (by decide) rfl (fun ls hl => ?_)
  refine lv_iload_n hx hb dX10_bits_2 rfl (lv_at hl 1 rfl) ?_
  refine lv_istore_n (lv' := [(2, .int x0), (1, .int (0 : Int32)), (0, .int x0)]) hx hb dX10_bits_3 rfl hl (by decide) rfl (fun ls hl => ?_)
  have lp4_5 : ∀ (n : Nat) (v1 : Int32) (v2 : Int32) (H : Heap) (locs : List Loc) (ls : Array Slot) (r3 : Int32), mm_W D cs A L K N s.heap I P H locs → lv_has ls 3 [(1, .int v1), (2, .int v2)] → fn_X10_bits_L4 n v1 v2 = some r3 → (∀ (H : Heap) (locs : List Loc) (ls : Array Slot), mm_W D cs A L K N s.heap I P H locs → lv_has ls 3 [(1, .int r3)] → W p l e (headSpec wz_X10_bits rm_X10_bits).room s m ([.int x0] : List Value).toArray below meth c H locs 0 0 QQ (F0 m 20 ls [])) → W p l e (headSpec wz_X10_bits rm_X10_bits).room s m ([.int x0] : List Value).toArray below meth c H locs 0 0 QQ (F0 m 4 ls []) := by
    intro n
    induction n with
    | zero => intro v1 v2 H locs ls r3 hM hl hf kk; exact nn_x (show (none : Option (Int32)) = some r3 from hf)
    | succ n ih =>
      intro v1 v2 H locs ls r3 hM hl hf kk
      rw [fn_X10_bits_L4] at hf
      refine lv_iload_n hx hb dX10_bits_4 rfl (lv_at hl 1 rfl) ?_
      refine lv_if_eq (tgt := 20) hx hb dX10_bits_5 (by decide) (fun hc4 => ?_) (fun hc4 => ?_)
      · have hf := it_p hf hc4
        obtain rfl := Option.some.inj hf
        exact kk _ _ _ hM (lv_sub hl [0] rfl)
      · have hf := it_n hf hc4
        refine lv_iinc (v := (v1 + (1 : Int32))) (lv' := [(1, .int (v1 + (1 : Int32))), (2, .int v2)]) hx hb dX10_bits_8 hl (k := 0) rfl rfl (by decide) rfl (fun ls hl => ?_)
        refine lv_iload_n hx hb dX10_bits_11 rfl (lv_at hl 1 rfl) ?_
        refine lv_iload_n hx hb dX10_bits_12 rfl (lv_at hl 1 rfl) ?_
        refine lv_iconst (v := (1 : Int32)) hx hb dX10_bits_13 (by decide) ?_
        refine lv_isub hx hb dX10_bits_14 ?_
        refine lv_iand hx hb dX10_bits_15 ?_
        refine lv_topi (fun v5 ev5 => ?_)
        have hf := nm_x ev5 hf
        refine lv_istore_n (lv' := [(2, .int v5), (1, .int (v1 + (1 : Int32)))]) hx hb dX10_bits_16 rfl hl (by decide) rfl (fun ls hl => ?_)
        refine lv_goto (tgt := 4) hx hb dX10_bits_17 (by decide) ?_
        exact ih (v1 + (1 : Int32)) v5 _ _ _ _ hM (lv_sub hl [1, 0] rfl) hf kk
  refine bd_e hf (fun r3 er3 hf => ?_)
  refine lp4_5 FU (0 : Int32) x0 _ _ _ r3 hM (lv_sub hl [1, 0] rfl) er3 (fun H locs ls hM hl => ?_)
  refine lv_iload_n hx hb dX10_bits_20 rfl (lv_at hl 0 rfl) ?_
  obtain rfl := Option.some.inj hf
  subst hQ
  exact ev_iret S hr hlocks hK hZ hM dX10_bits_21
noncomputable def fn_X10_undo_L75 (K : Nat → Nat) (N : Nat → Nat) (a0 : Nat) (P : Nat → Nat → Option Nat) (q7 : Nat) (v10 : Int32) (v12 : Int32) : Nat → Int32 → (Nat → Nat → Int32) → Option ((Nat → Nat → Int32))
  | 0, _, _ => none
  | n + 1, v13, I14 => if (192 : Int32) ≤ v13 then (some I14) else (gd (K q7 = 12 ∧ vp_in (v10 + (1 : Int32)) (N q7)) (Option.bind (fn_X10_tileOf v13) (fun (r18 : Int32) => if (((I14 q7 ((v10 + (1 : Int32))).toNatClampNeg) >>> (r18 &&& 31)) &&& (1 : Int32)) = 0 then (fn_X10_undo_L75 K N a0 P q7 v10 v12 n (v13 + (1 : Int32)) I14) else (Option.bind (fn_X10_swapsOne K N I14 P a0 (((20 : Int32) + ((192 : Int32) * v12)) + v13) ((v10 + (2 : Int32)) + v13)) (fun (r20 : (Nat → Nat → Int32)) => Option.bind (fn_X10_swapsOne K N r20 P a0 (((788 : Int32) + ((192 : Int32) * v12)) + v13) (((v10 + (2 : Int32)) + (192 : Int32)) + v13)) (fun (r21 : (Nat → Nat → Int32)) => fn_X10_undo_L75 K N a0 P q7 v10 v12 n (v13 + (1 : Int32)) r21))))))
noncomputable def fn_X10_undo (K N : Nat → Nat) (I : Nat → Nat → Int32) (P : Nat → Nat → Option Nat) (a0 : Nat) (x1 : Int32) : Option (Int32 × (Nat → Nat → Int32)) := Option.bind (fn_X10_isIn x1 (0 : Int32) (1 : Int32)) (fun (r1 : Int32) => if r1 = 0 then (some ((-2 : Int32), I)) else (Option.bind (if x1 = 0 then (gd (K a0 = 11) (Option.bind (P a0 (0)) (fun q32 => gd (K q32 = 12 ∧ vp_in (6 : Int32) (N q32)) (some ((I q32 (6)) - (1 : Int32)))))) else (gd (K a0 = 11) (Option.bind (P a0 (0)) (fun q29 => gd (K q29 = 12 ∧ vp_in (6 : Int32) (N q29)) (some (I q29 (6))))))) (fun (j4 : Int32) => if j4 < 0 then (some ((-3 : Int32), I)) else (gd (K a0 = 11) (Option.bind (P a0 (0)) (fun q7 => gd (K q7 = 12 ∧ vp_in (7 : Int32) (N q7)) (if j4 < (I q7 (7)) then (Option.bind (some ((1748 : Int32) + ((386 : Int32) * j4))) (fun v10 => gd (K q7 = 12 ∧ vp_in v10 (N q7)) (Option.bind (some (I q7 (v10.toNatClampNeg))) (fun v12 => Option.bind (fn_X10_undo_L75 K N a0 P q7 v10 v12 FU (0 : Int32) I) (fun (r15 : (Nat → Nat → Int32)) => gd (K q7 = 12 ∧ vp_in (6 : Int32) (N q7)) (Option.bind (if x1 = 0 then (some (-1 : Int32)) else (some (1 : Int32))) (fun (j24 : Int32) => Option.bind (some (up2 r15 q7 (6) ((r15 q7 (6)) + j24))) (fun I25 => gd (K q7 = 12 ∧ vp_in (v10 + (1 : Int32)) (N q7)) (Option.bind (fn_X10_bits (I25 q7 ((v10 + (1 : Int32))).toNatClampNeg)) (fun (r27 : Int32) => some (r27, I25))))))))))) else (some ((-3 : Int32), I)))))))))
abbrev wz_X10_undo : List Cond := Cond.code yX10_undo cX10_undo 6 (some .int) :: WA
abbrev rm_X10_undo : Room := { frames := 2, cells := 0, slots := 0, locals := 35 }
set_option maxHeartbeats 4000000 in
set_option maxRecDepth 100000 in
theorem c_X10_undo (I : Nat → Nat → Int32) (P : Nat → Nat → Option Nat) (a0 : Nat) (x1 : Int32) (res : Int32 × (Nat → Nat → Int32)) (hf : fn_X10_undo K N I P a0 x1 = some res) : Met l yX10_undo wz_X10_undo rm_X10_undo (va_Pc [.ref a0, .int x1] (mm_B D cs A L K N z w I P)) (va_Qi (fun r (_ : Unit) => r = res.1) (fun _ => mm_B D cs A L K N z w res.2 P) A) 0 0 A := by
  refine Met.ofW (cc := cX10_undo) (maxL := 6) (ret := (some .int)) (by decide) rfl ?_
  intro p e s m args below meth c s₁ B hml hv
  obtain ⟨rfl, hBm⟩ := hv
  have hx := B.exec
  have hb := B.bytes
  have hr := B.returns
  have hts := atoms_spec (ws := wz_X10_undo) B.pre
  have hWA : ∀ w ∈ WA, w.before ([.ref a0, .int x1] : List Value).toArray s = true := fun u9 h9 => hts u9 (List.mem_cons_of_mem _ h9)
  have hown : s.vm.findClass RX10 = some m.cls := findClass_of_methodNamed B.named
  have hlocks := B.notSynchronized
  have S : CallFix p m c cX10_undo 6 s ([.ref a0, .int x1] : List Value).toArray wz_X10_undo RX10 := ⟨hx, hb, hml, hown, hts⟩
  have hK := hBm.2.2.2.1
  have hZ := hBm.2.2.2.2
  have hM : mm_W D cs A L K N s.heap I P s.heap [] := ⟨hBm.1, hBm.2.1, hBm.2.2.1, va_S.rf⟩
  have hl := lv_entry ([.ref a0, .int x1]) (n := 6) (Nat.le_of_ble_eq_true rfl)
  rw [lg_entry_eq]
  generalize (lg_sl ([.ref a0, .int x1]) ++ List.replicate (6 - (lg_sl ([.ref a0, .int x1])).length) Slot.unset).toArray = ls at hl ⊢
  have hl : lv_has ls 6 [(0, .ref a0), (1, .int x1)] := hl
  have hin10 : ∀ w ∈ wsX100, w ∈ wz_X10_undo := fun w h => List.mem_cons_of_mem _ (wu_X10 w h)
  have lk9 : (Cond.fieldLink RX10 9 RX10 "g" "[I").before ([.ref a0, .int x1] : List Value).toArray s = true := hWA _ wa_4_141
  generalize hQ : MQ below (va_Qi (fun r (_ : Unit) => r = res.1) (fun _ => mm_B D cs A L K N z w res.2 P) A) ([.ref a0, .int x1] : List Value).toArray s 0 0 A = QQ
  rw [fn_X10_undo] at hf
  refine lv_iload_n hx hb dX10_undo_0 rfl (lv_at hl 1 rfl) ?_
  refine lv_iconst (v := (0 : Int32)) hx hb dX10_undo_1 (by decide) ?_
  refine lv_iconst (v := (1 : Int32)) hx hb dX10_undo_2 (by decide) ?_
  refine bd_e hf (fun r1 er1 hf => ?_)
  refine ev_calli (va_runS (As := [.int x1, .int (0 : Int32), .int (1 : Int32)]) (rest := []) S (c_X10_isIn (l := l) I P x1 (0 : Int32) (1 : Int32) r1 er1) (va_cwS 3 hts (gi_s wa_4_218 wa_4_219 wa_1_11 wa_4_220) rfl rfl rfl (by decide +kernel) ⟨Nat.le_of_ble_eq_true rfl, Nat.le_of_ble_eq_true rfl⟩) ⟨mm_B_blind, fun U hU hW => ⟨rfl, mm_B_of hK hZ hM hU hW⟩⟩ rfl rfl hl.1 rfl (lv_room (Nat.le_of_ble_eq_true rfl)) dX10_undo_3 ⟨Nat.zero_le _, Nat.zero_le _⟩) hM (fun H locs hM => ?_)
  refine lv_if_ne (tgt := 12) hx hb dX10_undo_6 (by decide) (fun hc2 => ?_) (fun hc2 => ?_)
  · have hf := it_n hf hc2
    refine lv_iload_n hx hb dX10_undo_12 rfl (lv_at hl 1 rfl) ?_
    refine bd_e hf (fun j4 ej4 hf => ?_)
    have kj4 : ∀ (H : Heap) (locs : List Loc) (ls : Array Slot), mm_W D cs A L K N s.heap I P H locs → lv_has ls 6 [(0, .ref a0), (1, .int x1)] → W p l e (headSpec wz_X10_undo rm_X10_undo).room s m ([.ref a0, .int x1] : List Value).toArray below meth c H locs 0 0 QQ (F0 m 35 ls [.int j4]) := by
      intro H locs ls hM hl
      refine lv_istore_n (lv' := [(2, .int j4), (0, .ref a0), (1, .int x1)]) hx hb dX10_undo_35 rfl hl (by decide) rfl (fun ls hl => ?_)
      refine lv_iload_n hx hb dX10_undo_36 rfl (lv_at hl 0 rfl) ?_
      refine lv_if_lt (tgt := 51) hx hb dX10_undo_37 (by decide) (fun hc5 => ?_) (fun hc5 => ?_)
      · have hf := it_p hf hc5
        refine lv_bipush (v := (-3 : Int32)) hx hb dX10_undo_51 (by decide) ?_
        obtain rfl := Option.some.inj hf
        subst hQ
        exact ev_iret S hr hlocks hK hZ hM dX10_undo_53
      · have hf := it_n hf hc5
        refine lv_iload_n hx hb dX10_undo_40 rfl (lv_at hl 0 rfl) ?_
        refine lv_aload_n hx hb dX10_undo_41 rfl (lv_at hl 1 rfl) ?_
        refine gd_e hf (fun hg6 hf => ?_)
        refine bd_e hf (fun q7 eq7 hf => ?_)
        refine ev_getP (v := q7) S hK hM (ci := 10) (n := 23) (C := RX10) (T := TX10) hin10 rfl hg6 0 (by decide) lk9 rfl rfl eq7 rfl dX10_undo_42 ?_
        refine lv_bipush (v := (7 : Int32)) hx hb dX10_undo_45 (by decide) ?_
        refine gd_e hf (fun hg8 hf => ?_)
        refine ev_iald S hK hM hg8 (j := 7) rfl dX10_undo_47 ?_
        refine lv_icmp_lt (tgt := 54) hx hb dX10_undo_48 (by decide) (fun hc9 => ?_) (fun hc9 => ?_)
        · have hf := it_p hf hc9
          refine lv_sipush (v := (1748 : Int32)) hx hb dX10_undo_54 (by decide) ?_
          refine lv_sipush (v := (386 : Int32)) hx hb dX10_undo_57 (by decide) ?_
          refine lv_iload_n hx hb dX10_undo_60 rfl (lv_at hl 0 rfl) ?_
          refine lv_imul hx hb dX10_undo_61 ?_
          refine lv_iadd hx hb dX10_undo_62 ?_
          refine lv_topi (fun v10 ev10 => ?_)
          have hf := nm_x ev10 hf
          refine lv_istore_n (lv' := [(3, .int v10), (2, .int j4), (0, .ref a0), (1, .int x1)]) hx hb dX10_undo_63 rfl hl (by decide) rfl (fun ls hl => ?_)
          refine lv_aload_n hx hb dX10_undo_64 rfl (lv_at hl 2 rfl) ?_
          refine ev_getP (v := q7) S hK hM (ci := 10) (n := 23) (C := RX10) (T := TX10) hin10 rfl hg6 0 (by decide) lk9 rfl rfl eq7 rfl dX10_undo_65 ?_
          refine lv_iload_n hx hb dX10_undo_68 rfl (lv_at hl 0 rfl) ?_
          refine gd_e hf (fun hg11 hf => ?_)
          refine ev_iald S hK hM hg11 (j := v10.toNatClampNeg) rfl dX10_undo_69 ?_
          refine lv_topi (fun v12 ev12 => ?_)
          have hf := nm_x ev12 hf
          refine lv_istore (lv' := [(4, .int v12), (3, .int v10), (2, .int j4), (0, .ref a0), (1, .int x1)]) hx hb dX10_undo_70 hl (by decide) rfl (fun ls hl => ?_)
          refine lv_iconst (v := (0 : Int32)) hx hb dX10_undo_72 (by decide) ?_
          refine lv_istore (lv' := [(5, .int (0 : Int32)), (4, .int v12), (3, .int v10), (2, .int j4), (0, .ref a0), (1, .int x1)]) hx hb dX10_undo_73 hl (by decide) rfl (fun ls hl => ?_)
          have lp75_21 : ∀ (n : Nat) (v13 : Int32) (I14 : Nat → Nat → Int32) (H : Heap) (locs : List Loc) (ls : Array Slot) (r15 : (Nat → Nat → Int32)), mm_W D cs A L K N s.heap I14 P H locs → lv_has ls 6 [(0, .ref a0), (1, .int x1), (3, .int v10), (4, .int v12), (5, .int v13)] → fn_X10_undo_L75 K N a0 P q7 v10 v12 n v13 I14 = some r15 → (∀ (H : Heap) (locs : List Loc) (ls : Array Slot), mm_W D cs A L K N s.heap r15 P H locs → lv_has ls 6 [(0, .ref a0), (1, .int x1), (3, .int v10)] → W p l e (headSpec wz_X10_undo rm_X10_undo).room s m ([.ref a0, .int x1] : List Value).toArray below meth c H locs 0 0 QQ (F0 m 160 ls [])) → W p l e (headSpec wz_X10_undo rm_X10_undo).room s m ([.ref a0, .int x1] : List Value).toArray below meth c H locs 0 0 QQ (F0 m 75 ls []) := by
            intro n
            induction n with
            | zero => intro v13 I14 H locs ls r15 hM hl hf kk; exact nn_x (show (none : Option ((Nat → Nat → Int32))) = some r15 from hf)
            | succ n ih =>
              intro v13 I14 H locs ls r15 hM hl hf kk
              rw [fn_X10_undo_L75] at hf
              refine lv_iload hx hb dX10_undo_75 (lv_at hl 4 rfl) ?_
              refine lv_sipush (v := (192 : Int32)) hx hb dX10_undo_77 (by decide) ?_
              refine lv_icmp_ge (tgt := 160) hx hb dX10_undo_80 (by decide) (fun hc16 => ?_) (fun hc16 => ?_)
              · have hf := it_p hf hc16
                obtain rfl := Option.some.inj hf
                exact kk _ _ _ hM (lv_sub hl [0, 1, 2] rfl)
              · have hf := it_n hf hc16
                refine lv_aload_n hx hb dX10_undo_83 rfl (lv_at hl 0 rfl) ?_
                refine ev_getP (v := q7) S hK hM (ci := 10) (n := 23) (C := RX10) (T := TX10) hin10 rfl hg6 0 (by decide) lk9 rfl rfl eq7 rfl dX10_undo_84 ?_
                refine lv_iload_n hx hb dX10_undo_87 rfl (lv_at hl 2 rfl) ?_
                refine lv_iconst (v := (1 : Int32)) hx hb dX10_undo_88 (by decide) ?_
                refine lv_iadd hx hb dX10_undo_89 ?_
                refine gd_e hf (fun hg17 hf => ?_)
                refine ev_iald S hK hM hg17 (j := ((v10 + (1 : Int32))).toNatClampNeg) rfl dX10_undo_90 ?_
                refine lv_iload hx hb dX10_undo_91 (lv_at hl 4 rfl) ?_
                refine bd_e hf (fun r18 er18 hf => ?_)
                refine ev_calli (va_runS (As := [.int v13]) (rest := [.int (I14 q7 ((v10 + (1 : Int32))).toNatClampNeg)]) S (c_X10_tileOf (l := l) I14 P v13 r18 er18) (va_cwS 1 hts (gi_s wa_5_144 wa_5_145 wa_1_11 wa_5_146) rfl rfl rfl (by decide +kernel) ⟨Nat.le_of_ble_eq_true rfl, Nat.le_of_ble_eq_true rfl⟩) ⟨mm_B_blind, fun U hU hW => ⟨rfl, mm_B_of hK hZ hM hU hW⟩⟩ rfl rfl hl.1 rfl (lv_room (Nat.le_of_ble_eq_true rfl)) dX10_undo_93 ⟨Nat.zero_le _, Nat.zero_le _⟩) hM (fun H locs hM => ?_)
                refine lv_ishr hx hb dX10_undo_96 ?_
                refine lv_iconst (v := (1 : Int32)) hx hb dX10_undo_97 (by decide) ?_
                refine lv_iand hx hb dX10_undo_98 ?_
                refine lv_if_ne (tgt := 105) hx hb dX10_undo_99 (by decide) (fun hc19 => ?_) (fun hc19 => ?_)
                · have hf := it_n hf hc19
                  refine lv_aload_n hx hb dX10_undo_105 rfl (lv_at hl 0 rfl) ?_
                  refine lv_bipush (v := (20 : Int32)) hx hb dX10_undo_106 (by decide) ?_
                  refine lv_sipush (v := (192 : Int32)) hx hb dX10_undo_108 (by decide) ?_
                  refine lv_iload hx hb dX10_undo_111 (lv_at hl 3 rfl) ?_
                  refine lv_imul hx hb dX10_undo_113 ?_
                  refine lv_iadd hx hb dX10_undo_114 ?_
                  refine lv_iload hx hb dX10_undo_115 (lv_at hl 4 rfl) ?_
                  refine lv_iadd hx hb dX10_undo_117 ?_
                  refine lv_iload_n hx hb dX10_undo_118 rfl (lv_at hl 2 rfl) ?_
                  refine lv_iconst (v := (2 : Int32)) hx hb dX10_undo_119 (by decide) ?_
                  refine lv_iadd hx hb dX10_undo_120 ?_
                  refine lv_iload hx hb dX10_undo_121 (lv_at hl 4 rfl) ?_
                  refine lv_iadd hx hb dX10_undo_123 ?_
                  refine bd_e hf (fun r20 er20 hf => ?_)
                  refine ev_callv (va_runV (As := [.int (((20 : Int32) + ((192 : Int32) * v12)) + v13), .int ((v10 + (2 : Int32)) + v13)]) (rest := []) S (c_X10_swapsOne (l := l) I14 P a0 (((20 : Int32) + ((192 : Int32) * v12)) + v13) ((v10 + (2 : Int32)) + v13) r20 er20) (cwV 2 hts (gi_v wa_5_4 wa_5_6 wa_s_30 wa_1_11 wa_5_7) rfl rfl rfl (by decide +kernel) ⟨Nat.le_of_ble_eq_true rfl, Nat.le_of_ble_eq_true rfl⟩) ⟨mm_B_blind, ev_recv hK hM (ci := 10) rfl hg6 rfl, fun U hU hW => ⟨rfl, mm_B_of hK hZ hM hU hW⟩⟩ rfl rfl hl.1 rfl (lv_room (Nat.le_of_ble_eq_true rfl)) dX10_undo_124 ⟨Nat.zero_le _, Nat.zero_le _⟩) hM (fun H locs hM => ?_)
                  refine lv_aload_n hx hb dX10_undo_127 rfl (lv_at hl 0 rfl) ?_
                  refine lv_sipush (v := (788 : Int32)) hx hb dX10_undo_128 (by decide) ?_
                  refine lv_sipush (v := (192 : Int32)) hx hb dX10_undo_131 (by decide) ?_
                  refine lv_iload hx hb dX10_undo_134 (lv_at hl 3 rfl) ?_
                  refine lv_imul hx hb dX10_undo_136 ?_
                  refine lv_iadd hx hb dX10_undo_137 ?_
                  refine lv_iload hx hb dX10_undo_138 (lv_at hl 4 rfl) ?_
                  refine lv_iadd hx hb dX10_undo_140 ?_
                  refine lv_iload_n hx hb dX10_undo_141 rfl (lv_at hl 2 rfl) ?_
                  refine lv_iconst (v := (2 : Int32)) hx hb dX10_undo_142 (by decide) ?_
                  refine lv_iadd hx hb dX10_undo_143 ?_
                  refine lv_sipush (v := (192 : Int32)) hx hb dX10_undo_144 (by decide) ?_
                  refine lv_iadd hx hb dX10_undo_147 ?_
                  refine lv_iload hx hb dX10_undo_148 (lv_at hl 4 rfl) ?_
                  refine lv_iadd hx hb dX10_undo_150 ?_
                  refine bd_e hf (fun r21 er21 hf => ?_)
                  refine ev_callv (va_runV (As := [.int (((788 : Int32) + ((192 : Int32) * v12)) + v13), .int (((v10 + (2 : Int32)) + (192 : Int32)) + v13)]) (rest := []) S (c_X10_swapsOne (l := l) r20 P a0 (((788 : Int32) + ((192 : Int32) * v12)) + v13) (((v10 + (2 : Int32)) + (192 : Int32)) + v13) r21 er21) (cwV 2 hts (gi_v wa_5_4 wa_5_6 wa_s_30 wa_1_11 wa_5_7) rfl rfl rfl (by decide +kernel) ⟨Nat.le_of_ble_eq_true rfl, Nat.le_of_ble_eq_true rfl⟩) ⟨mm_B_blind, ev_recv hK hM (ci := 10) rfl hg6 rfl, fun U hU hW => ⟨rfl, mm_B_of hK hZ hM hU hW⟩⟩ rfl rfl hl.1 rfl (lv_room (Nat.le_of_ble_eq_true rfl)) dX10_undo_151 ⟨Nat.zero_le _, Nat.zero_le _⟩) hM (fun H locs hM => ?_)
                  refine lv_iinc (v := (v13 + (1 : Int32))) (lv' := [(5, .int (v13 + (1 : Int32))), (0, .ref a0), (1, .int x1), (3, .int v10), (4, .int v12)]) hx hb dX10_undo_154 hl (k := 4) rfl rfl (by decide) rfl (fun ls hl => ?_)
                  refine lv_goto (tgt := 75) hx hb dX10_undo_157 (by decide) ?_
                  exact ih (v13 + (1 : Int32)) r21 _ _ _ _ hM (lv_sub hl [1, 2, 3, 4, 0] rfl) hf kk
                · have hf := it_p hf hc19
                  refine lv_goto (tgt := 154) hx hb dX10_undo_102 (by decide) ?_
                  refine lv_iinc (v := (v13 + (1 : Int32))) (lv' := [(5, .int (v13 + (1 : Int32))), (0, .ref a0), (1, .int x1), (3, .int v10), (4, .int v12)]) hx hb dX10_undo_154 hl (k := 4) rfl rfl (by decide) rfl (fun ls hl => ?_)
                  refine lv_goto (tgt := 75) hx hb dX10_undo_157 (by decide) ?_
                  exact ih (v13 + (1 : Int32)) I14 _ _ _ _ hM (lv_sub hl [1, 2, 3, 4, 0] rfl) hf kk
          refine bd_e hf (fun r15 er15 hf => ?_)
          refine lp75_21 FU (0 : Int32) I _ _ _ r15 hM (lv_sub hl [4, 5, 2, 1, 0] rfl) er15 (fun H locs ls hM hl => ?_)
          refine lv_aload_n hx hb dX10_undo_160 rfl (lv_at hl 0 rfl) ?_
          refine ev_getP (v := q7) S hK hM (ci := 10) (n := 23) (C := RX10) (T := TX10) hin10 rfl hg6 0 (by decide) lk9 rfl rfl eq7 rfl dX10_undo_161 ?_
          refine lv_bipush (v := (6 : Int32)) hx hb dX10_undo_164 (by decide) ?_
          refine lv_dup2_11 hx hb dX10_undo_166 rfl rfl ?_
          refine gd_e hf (fun hg22 hf => ?_)
          refine ev_iald S hK hM hg22 (j := 6) rfl dX10_undo_167 ?_
          refine lv_iload_n hx hb dX10_undo_168 rfl (lv_at hl 1 rfl) ?_
          refine bd_e hf (fun j24 ej24 hf => ?_)
          have kj24 : ∀ (H : Heap) (locs : List Loc) (ls : Array Slot), mm_W D cs A L K N s.heap r15 P H locs → lv_has ls 6 [(0, .ref a0), (3, .int v10)] → W p l e (headSpec wz_X10_undo rm_X10_undo).room s m ([.ref a0, .int x1] : List Value).toArray below meth c H locs 0 0 QQ (F0 m 177 ls [.int j24, .int (r15 q7 (6)), .int (6 : Int32), .ref q7]) := by
            intro H locs ls hM hl
            refine lv_iadd hx hb dX10_undo_177 ?_
            refine ev_iast S hK hM hg22 (j := 6) rfl dX10_undo_178 (fun I25 eI25 H locs hM => ?_)
            have hf := nm_x eI25 hf
            refine lv_aload_n hx hb dX10_undo_179 rfl (lv_at hl 0 rfl) ?_
            refine ev_getP (v := q7) S hK hM (ci := 10) (n := 23) (C := RX10) (T := TX10) hin10 rfl hg6 0 (by decide) lk9 rfl rfl eq7 rfl dX10_undo_180 ?_
            refine lv_iload_n hx hb dX10_undo_183 rfl (lv_at hl 1 rfl) ?_
            refine lv_iconst (v := (1 : Int32)) hx hb dX10_undo_184 (by decide) ?_
            refine lv_iadd hx hb dX10_undo_185 ?_
            refine gd_e hf (fun hg26 hf => ?_)
            refine ev_iald S hK hM hg26 (j := ((v10 + (1 : Int32))).toNatClampNeg) rfl dX10_undo_186 ?_
            refine bd_e hf (fun r27 er27 hf => ?_)
            refine ev_calli (va_runS (As := [.int (I25 q7 ((v10 + (1 : Int32))).toNatClampNeg)]) (rest := []) S (c_X10_bits (l := l) I25 P (I25 q7 ((v10 + (1 : Int32))).toNatClampNeg) r27 er27) (va_cwS 1 hts (gi_s wa_5_151 wa_5_152 wa_1_11 wa_5_153) rfl rfl rfl (by decide +kernel) ⟨Nat.le_of_ble_eq_true rfl, Nat.le_of_ble_eq_true rfl⟩) ⟨mm_B_blind, fun U hU hW => ⟨rfl, mm_B_of hK hZ hM hU hW⟩⟩ rfl rfl hl.1 rfl (lv_room (Nat.le_of_ble_eq_true rfl)) dX10_undo_187 ⟨Nat.zero_le _, Nat.zero_le _⟩) hM (fun H locs hM => ?_)
            obtain rfl := Option.some.inj hf
            subst hQ
            exact ev_iret S hr hlocks hK hZ hM dX10_undo_190
          have hf := ej24
          refine lv_if_ne (tgt := 176) hx hb dX10_undo_169 (by decide) (fun hc23 => ?_) (fun hc23 => ?_)
          · have hf := it_n hf hc23
            refine lv_iconst (v := (1 : Int32)) hx hb dX10_undo_176 (by decide) ?_
            obtain rfl := Option.some.inj hf
            exact kj24 _ _ _ hM (lv_sub hl [0, 2] rfl)
          · have hf := it_p hf hc23
            refine lv_iconst (v := (-1 : Int32)) hx hb dX10_undo_172 (by decide) ?_
            refine lv_goto (tgt := 177) hx hb dX10_undo_173 (by decide) ?_
            obtain rfl := Option.some.inj hf
            exact kj24 _ _ _ hM (lv_sub hl [0, 2] rfl)
        · have hf := it_n hf hc9
          refine lv_bipush (v := (-3 : Int32)) hx hb dX10_undo_51 (by decide) ?_
          obtain rfl := Option.some.inj hf
          subst hQ
          exact ev_iret S hr hlocks hK hZ hM dX10_undo_53
    have hf := ej4
    refine lv_if_ne (tgt := 28) hx hb dX10_undo_13 (by decide) (fun hc3 => ?_) (fun hc3 => ?_)
    · have hf := it_n hf hc3
      refine lv_aload_n hx hb dX10_undo_28 rfl (lv_at hl 0 rfl) ?_
      refine gd_e hf (fun hg28 hf => ?_)
      refine bd_e hf (fun q29 eq29 hf => ?_)
      refine ev_getP (v := q29) S hK hM (ci := 10) (n := 23) (C := RX10) (T := TX10) hin10 rfl hg28 0 (by decide) lk9 rfl rfl eq29 rfl dX10_undo_29 ?_
      refine lv_bipush (v := (6 : Int32)) hx hb dX10_undo_32 (by decide) ?_
      refine gd_e hf (fun hg30 hf => ?_)
      refine ev_iald S hK hM hg30 (j := 6) rfl dX10_undo_34 ?_
      obtain rfl := Option.some.inj hf
      exact kj4 _ _ _ hM (hl)
    · have hf := it_p hf hc3
      refine lv_aload_n hx hb dX10_undo_16 rfl (lv_at hl 0 rfl) ?_
      refine gd_e hf (fun hg31 hf => ?_)
      refine bd_e hf (fun q32 eq32 hf => ?_)
      refine ev_getP (v := q32) S hK hM (ci := 10) (n := 23) (C := RX10) (T := TX10) hin10 rfl hg31 0 (by decide) lk9 rfl rfl eq32 rfl dX10_undo_17 ?_
      refine lv_bipush (v := (6 : Int32)) hx hb dX10_undo_20 (by decide) ?_
      refine gd_e hf (fun hg33 hf => ?_)
      refine ev_iald S hK hM hg33 (j := 6) rfl dX10_undo_22 ?_
      refine lv_iconst (v := (1 : Int32)) hx hb dX10_undo_23 (by decide) ?_
      refine lv_isub hx hb dX10_undo_24 ?_
      refine lv_goto (tgt := 35) hx hb dX10_undo_25 (by decide) ?_
      obtain rfl := Option.some.inj hf
      exact kj4 _ _ _ hM (hl)
  · have hf := it_p hf hc2
    refine lv_bipush (v := (-2 : Int32)) hx hb dX10_undo_9 (by decide) ?_
    obtain rfl := Option.some.inj hf
    subst hQ
    exact ev_iret S hr hlocks hK hZ hM dX10_undo_11
noncomputable def fn_X10_isBoxed_L22 (K : Nat → Nat) (N : Nat → Nat) (a0 : Nat) (x1 : Int32) (x2 : Int32) (x3 : Int32) (x4 : Int32) (P : Nat → Nat → Option Nat) : Nat → Int32 → (Nat → Nat → Int32) → Option ((Nat → Nat → Int32))
  | 0, _, _ => none
  | n + 1, v5, I6 => if (192 : Int32) ≤ v5 then (some I6) else (gd (K a0 = 11) (Option.bind (P a0 (16)) (fun q10 => Option.bind (fn_X10_isIn (v5 - v5 / (16 : Int32) * (16 : Int32)) (if x3 < x1 then x3 else x1) (if x1 < x3 then x3 else x1)) (fun (r11 : Int32) => if r11 = 0 then (gd (K q10 = 12 ∧ vp_in v5 (N q10)) (Option.bind (some (up2 I6 q10 (v5.toNatClampNeg) (0 : Int32))) (fun I14 => fn_X10_isBoxed_L22 K N a0 x1 x2 x3 x4 P n (v5 + (1 : Int32)) I14))) else (Option.bind (fn_X10_isIn (v5 / (16 : Int32)) (if x4 < x2 then x4 else x2) (if x2 < x4 then x4 else x2)) (fun (r15 : Int32) => if r15 = 0 then (gd (K q10 = 12 ∧ vp_in v5 (N q10)) (Option.bind (some (up2 I6 q10 (v5.toNatClampNeg) (0 : Int32))) (fun I18 => fn_X10_isBoxed_L22 K N a0 x1 x2 x3 x4 P n (v5 + (1 : Int32)) I18))) else (gd (K q10 = 12 ∧ vp_in v5 (N q10)) (Option.bind (some (up2 I6 q10 (v5.toNatClampNeg) (1 : Int32))) (fun I20 => fn_X10_isBoxed_L22 K N a0 x1 x2 x3 x4 P n (v5 + (1 : Int32)) I20)))))))))
noncomputable def fn_X10_isBoxed (K N : Nat → Nat) (I : Nat → Nat → Int32) (P : Nat → Nat → Option Nat) (a0 : Nat) (x1 : Int32) (x2 : Int32) (x3 : Int32) (x4 : Int32) : Option (Int32 × (Nat → Nat → Int32)) := Option.bind (fn_X10_isDot x1 x2) (fun (r1 : Int32) => if r1 = 0 then (some ((0 : Int32), I)) else (Option.bind (fn_X10_isDot x3 x4) (fun (r3 : Int32) => if r3 = 0 then (some ((0 : Int32), I)) else (Option.bind (fn_X10_isBoxed_L22 K N a0 x1 x2 x3 x4 P FU (0 : Int32) I) (fun (r7 : (Nat → Nat → Int32)) => some ((1 : Int32), r7))))))
abbrev wz_X10_isBoxed : List Cond := Cond.code yX10_isBoxed cX10_isBoxed 6 (some .boolean) :: WA
abbrev rm_X10_isBoxed : Room := { frames := 3, cells := 0, slots := 0, locals := 55 }
set_option maxHeartbeats 4000000 in
set_option maxRecDepth 100000 in
theorem c_X10_isBoxed (I : Nat → Nat → Int32) (P : Nat → Nat → Option Nat) (a0 : Nat) (x1 : Int32) (x2 : Int32) (x3 : Int32) (x4 : Int32) (res : Int32 × (Nat → Nat → Int32)) (hf : fn_X10_isBoxed K N I P a0 x1 x2 x3 x4 = some res) : Met l yX10_isBoxed wz_X10_isBoxed rm_X10_isBoxed (va_Pc [.ref a0, .int x1, .int x2, .int x3, .int x4] (mm_B D cs A L K N z w I P)) (va_Qi (fun r (_ : Unit) => r = res.1) (fun _ => mm_B D cs A L K N z w res.2 P) A) 0 0 A := by
  refine Met.ofW (cc := cX10_isBoxed) (maxL := 6) (ret := (some .boolean)) (by decide) rfl ?_
  intro p e s m args below meth c s₁ B hml hv
  obtain ⟨rfl, hBm⟩ := hv
  have hx := B.exec
  have hb := B.bytes
  have hr := B.returns
  have hts := atoms_spec (ws := wz_X10_isBoxed) B.pre
  have hWA : ∀ w ∈ WA, w.before ([.ref a0, .int x1, .int x2, .int x3, .int x4] : List Value).toArray s = true := fun u9 h9 => hts u9 (List.mem_cons_of_mem _ h9)
  have hown : s.vm.findClass RX10 = some m.cls := findClass_of_methodNamed B.named
  have hlocks := B.notSynchronized
  have S : CallFix p m c cX10_isBoxed 6 s ([.ref a0, .int x1, .int x2, .int x3, .int x4] : List Value).toArray wz_X10_isBoxed RX10 := ⟨hx, hb, hml, hown, hts⟩
  have hK := hBm.2.2.2.1
  have hZ := hBm.2.2.2.2
  have hM : mm_W D cs A L K N s.heap I P s.heap [] := ⟨hBm.1, hBm.2.1, hBm.2.2.1, va_S.rf⟩
  have hl := lv_entry ([.ref a0, .int x1, .int x2, .int x3, .int x4]) (n := 6) (Nat.le_of_ble_eq_true rfl)
  rw [lg_entry_eq]
  generalize (lg_sl ([.ref a0, .int x1, .int x2, .int x3, .int x4]) ++ List.replicate (6 - (lg_sl ([.ref a0, .int x1, .int x2, .int x3, .int x4])).length) Slot.unset).toArray = ls at hl ⊢
  have hl : lv_has ls 6 [(0, .ref a0), (1, .int x1), (2, .int x2), (3, .int x3), (4, .int x4)] := hl
  have hin10 : ∀ w ∈ wsX100, w ∈ wz_X10_isBoxed := fun w h => List.mem_cons_of_mem _ (wu_X10 w h)
  have lk22 : (Cond.fieldLink RX10 22 RX10 "set" "[I").before ([.ref a0, .int x1, .int x2, .int x3, .int x4] : List Value).toArray s = true := hWA _ wa_4_157
  generalize hQ : MQ below (va_Qi (fun r (_ : Unit) => r = res.1) (fun _ => mm_B D cs A L K N z w res.2 P) A) ([.ref a0, .int x1, .int x2, .int x3, .int x4] : List Value).toArray s 0 0 A = QQ
  rw [fn_X10_isBoxed] at hf
  refine lv_iload_n hx hb dX10_isBoxed_0 rfl (lv_at hl 1 rfl) ?_
  refine lv_iload_n hx hb dX10_isBoxed_1 rfl (lv_at hl 2 rfl) ?_
  refine bd_e hf (fun r1 er1 hf => ?_)
  refine ev_calli (va_runS (As := [.int x1, .int x2]) (rest := []) S (c_X10_isDot (l := l) I P x1 x2 r1 er1) (va_cwS 2 hts (gi_s wa_5_40 wa_5_41 wa_1_11 wa_5_42) rfl rfl rfl (by decide +kernel) ⟨Nat.le_of_ble_eq_true rfl, Nat.le_of_ble_eq_true rfl⟩) ⟨mm_B_blind, fun U hU hW => ⟨rfl, mm_B_of hK hZ hM hU hW⟩⟩ rfl rfl hl.1 rfl (lv_room (Nat.le_of_ble_eq_true rfl)) dX10_isBoxed_2 ⟨Nat.zero_le _, Nat.zero_le _⟩) hM (fun H locs hM => ?_)
  refine lv_if_eq (tgt := 17) hx hb dX10_isBoxed_5 (by decide) (fun hc2 => ?_) (fun hc2 => ?_)
  · have hf := it_p hf hc2
    refine lv_iconst (v := (0 : Int32)) hx hb dX10_isBoxed_17 (by decide) ?_
    obtain rfl := Option.some.inj hf
    subst hQ
    exact ev_zret (v := (0 : Int32)) S hr hlocks hK hZ hM rfl dX10_isBoxed_18
  · have hf := it_n hf hc2
    refine lv_iload_n hx hb dX10_isBoxed_8 rfl (lv_at hl 3 rfl) ?_
    refine lv_iload hx hb dX10_isBoxed_9 (lv_at hl 4 rfl) ?_
    refine bd_e hf (fun r3 er3 hf => ?_)
    refine ev_calli (va_runS (As := [.int x3, .int x4]) (rest := []) S (c_X10_isDot (l := l) I P x3 x4 r3 er3) (va_cwS 2 hts (gi_s wa_5_40 wa_5_41 wa_1_11 wa_5_42) rfl rfl rfl (by decide +kernel) ⟨Nat.le_of_ble_eq_true rfl, Nat.le_of_ble_eq_true rfl⟩) ⟨mm_B_blind, fun U hU hW => ⟨rfl, mm_B_of hK hZ hM hU hW⟩⟩ rfl rfl hl.1 rfl (lv_room (Nat.le_of_ble_eq_true rfl)) dX10_isBoxed_11 ⟨Nat.zero_le _, Nat.zero_le _⟩) hM (fun H locs hM => ?_)
    refine lv_if_ne (tgt := 19) hx hb dX10_isBoxed_14 (by decide) (fun hc4 => ?_) (fun hc4 => ?_)
    · have hf := it_n hf hc4
      refine lv_iconst (v := (0 : Int32)) hx hb dX10_isBoxed_19 (by decide) ?_
      refine lv_istore (lv' := [(5, .int (0 : Int32)), (0, .ref a0), (1, .int x1), (2, .int x2), (3, .int x3), (4, .int x4)]) hx hb dX10_isBoxed_20 hl (by decide) rfl (fun ls hl => ?_)
      have lp22_20 : ∀ (n : Nat) (v5 : Int32) (I6 : Nat → Nat → Int32) (H : Heap) (locs : List Loc) (ls : Array Slot) (r7 : (Nat → Nat → Int32)), mm_W D cs A L K N s.heap I6 P H locs → lv_has ls 6 [(0, .ref a0), (1, .int x1), (2, .int x2), (3, .int x3), (4, .int x4), (5, .int v5)] → fn_X10_isBoxed_L22 K N a0 x1 x2 x3 x4 P n v5 I6 = some r7 → (∀ (H : Heap) (locs : List Loc) (ls : Array Slot), mm_W D cs A L K N s.heap r7 P H locs → lv_has ls 6 [] → W p l e (headSpec wz_X10_isBoxed rm_X10_isBoxed).room s m ([.ref a0, .int x1, .int x2, .int x3, .int x4] : List Value).toArray below meth c H locs 0 0 QQ (F0 m 92 ls [])) → W p l e (headSpec wz_X10_isBoxed rm_X10_isBoxed).room s m ([.ref a0, .int x1, .int x2, .int x3, .int x4] : List Value).toArray below meth c H locs 0 0 QQ (F0 m 22 ls []) := by
        intro n
        induction n with
        | zero => intro v5 I6 H locs ls r7 hM hl hf kk; exact nn_x (show (none : Option ((Nat → Nat → Int32))) = some r7 from hf)
        | succ n ih =>
          intro v5 I6 H locs ls r7 hM hl hf kk
          rw [fn_X10_isBoxed_L22] at hf
          refine lv_iload hx hb dX10_isBoxed_22 (lv_at hl 5 rfl) ?_
          refine lv_sipush (v := (192 : Int32)) hx hb dX10_isBoxed_24 (by decide) ?_
          refine lv_icmp_ge (tgt := 92) hx hb dX10_isBoxed_27 (by decide) (fun hc8 => ?_) (fun hc8 => ?_)
          · have hf := it_p hf hc8
            obtain rfl := Option.some.inj hf
            exact kk _ _ _ hM (lv_sub hl [] rfl)
          · have hf := it_n hf hc8
            refine lv_aload_n hx hb dX10_isBoxed_30 rfl (lv_at hl 0 rfl) ?_
            refine gd_e hf (fun hg9 hf => ?_)
            refine bd_e hf (fun q10 eq10 hf => ?_)
            refine ev_getP (v := q10) S hK hM (ci := 10) (n := 23) (C := RX10) (T := TX10) hin10 rfl hg9 16 (by decide) lk22 rfl rfl eq10 rfl dX10_isBoxed_31 ?_
            refine lv_iload hx hb dX10_isBoxed_34 (lv_at hl 5 rfl) ?_
            refine lv_iload hx hb dX10_isBoxed_36 (lv_at hl 5 rfl) ?_
            refine lv_bipush (v := (16 : Int32)) hx hb dX10_isBoxed_38 (by decide) ?_
            refine lv_irem hx hb dX10_isBoxed_40 (by decide) ?_
            refine lv_iload_n hx hb dX10_isBoxed_41 rfl (lv_at hl 1 rfl) ?_
            refine lv_iload_n hx hb dX10_isBoxed_42 rfl (lv_at hl 3 rfl) ?_
            refine va_mmin hx hb (hml.trans hl.1.symm) hown (hWA _ wa_5_35) (hWA _ wa_2_133) (hWA _ wa_1_13) (hWA _ wa_2_134) (Nat.le_of_ble_eq_true rfl) (Nat.le_of_ble_eq_true rfl) (Nat.zero_le _) (Nat.zero_le _) dX10_isBoxed_43 ?_
            refine lv_iload_n hx hb dX10_isBoxed_46 rfl (lv_at hl 1 rfl) ?_
            refine lv_iload_n hx hb dX10_isBoxed_47 rfl (lv_at hl 3 rfl) ?_
            refine va_mmax hx hb (hml.trans hl.1.symm) hown (hWA _ wa_5_34) (hWA _ wa_2_130) (hWA _ wa_1_13) (hWA _ wa_2_131) (Nat.le_of_ble_eq_true rfl) (Nat.le_of_ble_eq_true rfl) (Nat.zero_le _) (Nat.zero_le _) dX10_isBoxed_48 ?_
            refine bd_e hf (fun r11 er11 hf => ?_)
            refine ev_calli (va_runS (As := [.int (v5 - v5 / (16 : Int32) * (16 : Int32)), .int (if x3 < x1 then x3 else x1), .int (if x1 < x3 then x3 else x1)]) (rest := [.int v5, .ref q10]) S (c_X10_isIn (l := l) I6 P (v5 - v5 / (16 : Int32) * (16 : Int32)) (if x3 < x1 then x3 else x1) (if x1 < x3 then x3 else x1) r11 er11) (va_cwS 3 hts (gi_s wa_4_218 wa_4_219 wa_1_11 wa_4_220) rfl rfl rfl (by decide +kernel) ⟨Nat.le_of_ble_eq_true rfl, Nat.le_of_ble_eq_true rfl⟩) ⟨mm_B_blind, fun U hU hW => ⟨rfl, mm_B_of hK hZ hM hU hW⟩⟩ rfl rfl hl.1 rfl (lv_room (Nat.le_of_ble_eq_true rfl)) dX10_isBoxed_51 ⟨Nat.zero_le _, Nat.zero_le _⟩) hM (fun H locs hM => ?_)
            refine lv_if_eq (tgt := 84) hx hb dX10_isBoxed_54 (by decide) (fun hc12 => ?_) (fun hc12 => ?_)
            · have hf := it_p hf hc12
              refine lv_iconst (v := (0 : Int32)) hx hb dX10_isBoxed_84 (by decide) ?_
              refine gd_e hf (fun hg13 hf => ?_)
              refine ev_iast S hK hM hg13 (j := v5.toNatClampNeg) rfl dX10_isBoxed_85 (fun I14 eI14 H locs hM => ?_)
              have hf := nm_x eI14 hf
              refine lv_iinc (v := (v5 + (1 : Int32))) (lv' := [(5, .int (v5 + (1 : Int32))), (0, .ref a0), (1, .int x1), (2, .int x2), (3, .int x3), (4, .int x4)]) hx hb dX10_isBoxed_86 hl (k := 5) rfl rfl (by decide) rfl (fun ls hl => ?_)
              refine lv_goto (tgt := 22) hx hb dX10_isBoxed_89 (by decide) ?_
              exact ih (v5 + (1 : Int32)) I14 _ _ _ _ hM (lv_sub hl [1, 2, 3, 4, 5, 0] rfl) hf kk
            · have hf := it_n hf hc12
              refine lv_iload hx hb dX10_isBoxed_57 (lv_at hl 5 rfl) ?_
              refine lv_bipush (v := (16 : Int32)) hx hb dX10_isBoxed_59 (by decide) ?_
              refine lv_idiv hx hb dX10_isBoxed_61 (by decide) ?_
              refine lv_iload_n hx hb dX10_isBoxed_62 rfl (lv_at hl 2 rfl) ?_
              refine lv_iload hx hb dX10_isBoxed_63 (lv_at hl 4 rfl) ?_
              refine va_mmin hx hb (hml.trans hl.1.symm) hown (hWA _ wa_5_35) (hWA _ wa_2_133) (hWA _ wa_1_13) (hWA _ wa_2_134) (Nat.le_of_ble_eq_true rfl) (Nat.le_of_ble_eq_true rfl) (Nat.zero_le _) (Nat.zero_le _) dX10_isBoxed_65 ?_
              refine lv_iload_n hx hb dX10_isBoxed_68 rfl (lv_at hl 2 rfl) ?_
              refine lv_iload hx hb dX10_isBoxed_69 (lv_at hl 4 rfl) ?_
              refine va_mmax hx hb (hml.trans hl.1.symm) hown (hWA _ wa_5_34) (hWA _ wa_2_130) (hWA _ wa_1_13) (hWA _ wa_2_131) (Nat.le_of_ble_eq_true rfl) (Nat.le_of_ble_eq_true rfl) (Nat.zero_le _) (Nat.zero_le _) dX10_isBoxed_71 ?_
              refine bd_e hf (fun r15 er15 hf => ?_)
              refine ev_calli (va_runS (As := [.int (v5 / (16 : Int32)), .int (if x4 < x2 then x4 else x2), .int (if x2 < x4 then x4 else x2)]) (rest := [.int v5, .ref q10]) S (c_X10_isIn (l := l) I6 P (v5 / (16 : Int32)) (if x4 < x2 then x4 else x2) (if x2 < x4 then x4 else x2) r15 er15) (va_cwS 3 hts (gi_s wa_4_218 wa_4_219 wa_1_11 wa_4_220) rfl rfl rfl (by decide +kernel) ⟨Nat.le_of_ble_eq_true rfl, Nat.le_of_ble_eq_true rfl⟩) ⟨mm_B_blind, fun U hU hW => ⟨rfl, mm_B_of hK hZ hM hU hW⟩⟩ rfl rfl hl.1 rfl (lv_room (Nat.le_of_ble_eq_true rfl)) dX10_isBoxed_74 ⟨Nat.zero_le _, Nat.zero_le _⟩) hM (fun H locs hM => ?_)
              refine lv_if_eq (tgt := 84) hx hb dX10_isBoxed_77 (by decide) (fun hc16 => ?_) (fun hc16 => ?_)
              · have hf := it_p hf hc16
                refine lv_iconst (v := (0 : Int32)) hx hb dX10_isBoxed_84 (by decide) ?_
                refine gd_e hf (fun hg17 hf => ?_)
                refine ev_iast S hK hM hg17 (j := v5.toNatClampNeg) rfl dX10_isBoxed_85 (fun I18 eI18 H locs hM => ?_)
                have hf := nm_x eI18 hf
                refine lv_iinc (v := (v5 + (1 : Int32))) (lv' := [(5, .int (v5 + (1 : Int32))), (0, .ref a0), (1, .int x1), (2, .int x2), (3, .int x3), (4, .int x4)]) hx hb dX10_isBoxed_86 hl (k := 5) rfl rfl (by decide) rfl (fun ls hl => ?_)
                refine lv_goto (tgt := 22) hx hb dX10_isBoxed_89 (by decide) ?_
                exact ih (v5 + (1 : Int32)) I18 _ _ _ _ hM (lv_sub hl [1, 2, 3, 4, 5, 0] rfl) hf kk
              · have hf := it_n hf hc16
                refine lv_iconst (v := (1 : Int32)) hx hb dX10_isBoxed_80 (by decide) ?_
                refine lv_goto (tgt := 85) hx hb dX10_isBoxed_81 (by decide) ?_
                refine gd_e hf (fun hg19 hf => ?_)
                refine ev_iast S hK hM hg19 (j := v5.toNatClampNeg) rfl dX10_isBoxed_85 (fun I20 eI20 H locs hM => ?_)
                have hf := nm_x eI20 hf
                refine lv_iinc (v := (v5 + (1 : Int32))) (lv' := [(5, .int (v5 + (1 : Int32))), (0, .ref a0), (1, .int x1), (2, .int x2), (3, .int x3), (4, .int x4)]) hx hb dX10_isBoxed_86 hl (k := 5) rfl rfl (by decide) rfl (fun ls hl => ?_)
                refine lv_goto (tgt := 22) hx hb dX10_isBoxed_89 (by decide) ?_
                exact ih (v5 + (1 : Int32)) I20 _ _ _ _ hM (lv_sub hl [1, 2, 3, 4, 5, 0] rfl) hf kk
      refine bd_e hf (fun r7 er7 hf => ?_)
      refine lp22_20 FU (0 : Int32) I _ _ _ r7 hM (lv_sub hl [1, 2, 3, 4, 5, 0] rfl) er7 (fun H locs ls hM hl => ?_)
      refine lv_iconst (v := (1 : Int32)) hx hb dX10_isBoxed_92 (by decide) ?_
      obtain rfl := Option.some.inj hf
      subst hQ
      exact ev_zret (v := (1 : Int32)) S hr hlocks hK hZ hM rfl dX10_isBoxed_93
    · have hf := it_p hf hc4
      refine lv_iconst (v := (0 : Int32)) hx hb dX10_isBoxed_17 (by decide) ?_
      obtain rfl := Option.some.inj hf
      subst hQ
      exact ev_zret (v := (0 : Int32)) S hr hlocks hK hZ hM rfl dX10_isBoxed_18
noncomputable def fn_X10_isLike (K N : Nat → Nat) (I : Nat → Nat → Int32) (P : Nat → Nat → Option Nat) (a0 : Nat) (x1 : Int32) (x2 : Int32) (x3 : Int32) (x4 : Int32) : Option (Int32) := gd (K a0 = 11) (Option.bind (P a0 (0)) (fun q2 => gd (K q2 = 12 ∧ vp_in (((20 : Int32) + ((192 : Int32) * x1)) + x2) (N q2)) (gd (K q2 = 12 ∧ vp_in (((20 : Int32) + ((192 : Int32) * x1)) + x3) (N q2)) (if x4 < (if 0 ≤ ((I q2 ((((20 : Int32) + ((192 : Int32) * x1)) + x2)).toNatClampNeg) - (I q2 ((((20 : Int32) + ((192 : Int32) * x1)) + x3)).toNatClampNeg)) then ((I q2 ((((20 : Int32) + ((192 : Int32) * x1)) + x2)).toNatClampNeg) - (I q2 ((((20 : Int32) + ((192 : Int32) * x1)) + x3)).toNatClampNeg)) else 0 - ((I q2 ((((20 : Int32) + ((192 : Int32) * x1)) + x2)).toNatClampNeg) - (I q2 ((((20 : Int32) + ((192 : Int32) * x1)) + x3)).toNatClampNeg))) then (some (0 : Int32)) else (gd (K q2 = 12 ∧ vp_in (((788 : Int32) + ((192 : Int32) * x1)) + x2) (N q2)) (gd (K q2 = 12 ∧ vp_in (((788 : Int32) + ((192 : Int32) * x1)) + x3) (N q2)) (if x4 < (if 0 ≤ ((I q2 ((((788 : Int32) + ((192 : Int32) * x1)) + x2)).toNatClampNeg) - (I q2 ((((788 : Int32) + ((192 : Int32) * x1)) + x3)).toNatClampNeg)) then ((I q2 ((((788 : Int32) + ((192 : Int32) * x1)) + x2)).toNatClampNeg) - (I q2 ((((788 : Int32) + ((192 : Int32) * x1)) + x3)).toNatClampNeg)) else 0 - ((I q2 ((((788 : Int32) + ((192 : Int32) * x1)) + x2)).toNatClampNeg) - (I q2 ((((788 : Int32) + ((192 : Int32) * x1)) + x3)).toNatClampNeg))) then (some (0 : Int32)) else (some (1 : Int32)))))))))
abbrev wz_X10_isLike : List Cond := Cond.code yX10_isLike cX10_isLike 5 (some .boolean) :: WA
abbrev rm_X10_isLike : Room := { frames := 2, cells := 0, slots := 0, locals := 30 }
set_option maxHeartbeats 4000000 in
set_option maxRecDepth 100000 in
theorem c_X10_isLike (I : Nat → Nat → Int32) (P : Nat → Nat → Option Nat) (a0 : Nat) (x1 : Int32) (x2 : Int32) (x3 : Int32) (x4 : Int32) (res : Int32) (hf : fn_X10_isLike K N I P a0 x1 x2 x3 x4 = some res) : Met l yX10_isLike wz_X10_isLike rm_X10_isLike (va_Pc [.ref a0, .int x1, .int x2, .int x3, .int x4] (mm_B D cs A L K N z w I P)) (va_Qi (fun r (_ : Unit) => r = res) (fun _ => mm_B D cs A L K N z w I P) A) 0 0 A := by
  refine Met.ofW (cc := cX10_isLike) (maxL := 5) (ret := (some .boolean)) (by decide) rfl ?_
  intro p e s m args below meth c s₁ B hml hv
  obtain ⟨rfl, hBm⟩ := hv
  have hx := B.exec
  have hb := B.bytes
  have hr := B.returns
  have hts := atoms_spec (ws := wz_X10_isLike) B.pre
  have hWA : ∀ w ∈ WA, w.before ([.ref a0, .int x1, .int x2, .int x3, .int x4] : List Value).toArray s = true := fun u9 h9 => hts u9 (List.mem_cons_of_mem _ h9)
  have hown : s.vm.findClass RX10 = some m.cls := findClass_of_methodNamed B.named
  have hlocks := B.notSynchronized
  have S : CallFix p m c cX10_isLike 5 s ([.ref a0, .int x1, .int x2, .int x3, .int x4] : List Value).toArray wz_X10_isLike RX10 := ⟨hx, hb, hml, hown, hts⟩
  have hK := hBm.2.2.2.1
  have hZ := hBm.2.2.2.2
  have hM : mm_W D cs A L K N s.heap I P s.heap [] := ⟨hBm.1, hBm.2.1, hBm.2.2.1, va_S.rf⟩
  have hl := lv_entry ([.ref a0, .int x1, .int x2, .int x3, .int x4]) (n := 5) (Nat.le_of_ble_eq_true rfl)
  rw [lg_entry_eq]
  generalize (lg_sl ([.ref a0, .int x1, .int x2, .int x3, .int x4]) ++ List.replicate (5 - (lg_sl ([.ref a0, .int x1, .int x2, .int x3, .int x4])).length) Slot.unset).toArray = ls at hl ⊢
  have hl : lv_has ls 5 [(0, .ref a0), (1, .int x1), (2, .int x2), (3, .int x3), (4, .int x4)] := hl
  have hin10 : ∀ w ∈ wsX100, w ∈ wz_X10_isLike := fun w h => List.mem_cons_of_mem _ (wu_X10 w h)
  have lk9 : (Cond.fieldLink RX10 9 RX10 "g" "[I").before ([.ref a0, .int x1, .int x2, .int x3, .int x4] : List Value).toArray s = true := hWA _ wa_4_141
  generalize hQ : MQ below (va_Qi (fun r (_ : Unit) => r = res) (fun _ => mm_B D cs A L K N z w I P) A) ([.ref a0, .int x1, .int x2, .int x3, .int x4] : List Value).toArray s 0 0 A = QQ
  rw [fn_X10_isLike] at hf
  refine lv_aload_n hx hb dX10_isLike_0 rfl (lv_at hl 0 rfl) ?_
  refine gd_e hf (fun hg1 hf => ?_)
  refine bd_e hf (fun q2 eq2 hf => ?_)
  refine ev_getP (v := q2) S hK hM (ci := 10) (n := 23) (C := RX10) (T := TX10) hin10 rfl hg1 0 (by decide) lk9 rfl rfl eq2 rfl dX10_isLike_1 ?_
  refine lv_bipush (v := (20 : Int32)) hx hb dX10_isLike_4 (by decide) ?_
  refine lv_sipush (v := (192 : Int32)) hx hb dX10_isLike_6 (by decide) ?_
  refine lv_iload_n hx hb dX10_isLike_9 rfl (lv_at hl 1 rfl) ?_
  refine lv_imul hx hb dX10_isLike_10 ?_
  refine lv_iadd hx hb dX10_isLike_11 ?_
  refine lv_iload_n hx hb dX10_isLike_12 rfl (lv_at hl 2 rfl) ?_
  refine lv_iadd hx hb dX10_isLike_13 ?_
  refine gd_e hf (fun hg3 hf => ?_)
  refine ev_iald S hK hM hg3 (j := ((((20 : Int32) + ((192 : Int32) * x1)) + x2)).toNatClampNeg) rfl dX10_isLike_14 ?_
  refine lv_aload_n hx hb dX10_isLike_15 rfl (lv_at hl 0 rfl) ?_
  refine ev_getP (v := q2) S hK hM (ci := 10) (n := 23) (C := RX10) (T := TX10) hin10 rfl hg1 0 (by decide) lk9 rfl rfl eq2 rfl dX10_isLike_16 ?_
  refine lv_bipush (v := (20 : Int32)) hx hb dX10_isLike_19 (by decide) ?_
  refine lv_sipush (v := (192 : Int32)) hx hb dX10_isLike_21 (by decide) ?_
  refine lv_iload_n hx hb dX10_isLike_24 rfl (lv_at hl 1 rfl) ?_
  refine lv_imul hx hb dX10_isLike_25 ?_
  refine lv_iadd hx hb dX10_isLike_26 ?_
  refine lv_iload_n hx hb dX10_isLike_27 rfl (lv_at hl 3 rfl) ?_
  refine lv_iadd hx hb dX10_isLike_28 ?_
  refine gd_e hf (fun hg4 hf => ?_)
  refine ev_iald S hK hM hg4 (j := ((((20 : Int32) + ((192 : Int32) * x1)) + x3)).toNatClampNeg) rfl dX10_isLike_29 ?_
  refine lv_isub hx hb dX10_isLike_30 ?_
  refine va_mabs hx hb (hml.trans hl.1.symm) hown (hWA _ wa_5_66) (hWA _ wa_2_136) (hWA _ wa_1_13) (hWA _ wa_2_137) (Nat.le_of_ble_eq_true rfl) (Nat.le_of_ble_eq_true rfl) (Nat.zero_le _) (Nat.zero_le _) dX10_isLike_31 ?_
  refine lv_iload hx hb dX10_isLike_34 (lv_at hl 4 rfl) ?_
  refine lv_icmp_gt (tgt := 84) hx hb dX10_isLike_36 (by decide) (fun hc5 => ?_) (fun hc5 => ?_)
  · have hf := it_p hf hc5
    refine lv_iconst (v := (0 : Int32)) hx hb dX10_isLike_84 (by decide) ?_
    obtain rfl := Option.some.inj hf
    subst hQ
    exact ev_zret (v := (0 : Int32)) S hr hlocks hK hZ hM rfl dX10_isLike_85
  · have hf := it_n hf hc5
    refine lv_aload_n hx hb dX10_isLike_39 rfl (lv_at hl 0 rfl) ?_
    refine ev_getP (v := q2) S hK hM (ci := 10) (n := 23) (C := RX10) (T := TX10) hin10 rfl hg1 0 (by decide) lk9 rfl rfl eq2 rfl dX10_isLike_40 ?_
    refine lv_sipush (v := (788 : Int32)) hx hb dX10_isLike_43 (by decide) ?_
    refine lv_sipush (v := (192 : Int32)) hx hb dX10_isLike_46 (by decide) ?_
    refine lv_iload_n hx hb dX10_isLike_49 rfl (lv_at hl 1 rfl) ?_
    refine lv_imul hx hb dX10_isLike_50 ?_
    refine lv_iadd hx hb dX10_isLike_51 ?_
    refine lv_iload_n hx hb dX10_isLike_52 rfl (lv_at hl 2 rfl) ?_
    refine lv_iadd hx hb dX10_isLike_53 ?_
    refine gd_e hf (fun hg6 hf => ?_)
    refine ev_iald S hK hM hg6 (j := ((((788 : Int32) + ((192 : Int32) * x1)) + x2)).toNatClampNeg) rfl dX10_isLike_54 ?_
    refine lv_aload_n hx hb dX10_isLike_55 rfl (lv_at hl 0 rfl) ?_
    refine ev_getP (v := q2) S hK hM (ci := 10) (n := 23) (C := RX10) (T := TX10) hin10 rfl hg1 0 (by decide) lk9 rfl rfl eq2 rfl dX10_isLike_56 ?_
    refine lv_sipush (v := (788 : Int32)) hx hb dX10_isLike_59 (by decide) ?_
    refine lv_sipush (v := (192 : Int32)) hx hb dX10_isLike_62 (by decide) ?_
    refine lv_iload_n hx hb dX10_isLike_65 rfl (lv_at hl 1 rfl) ?_
    refine lv_imul hx hb dX10_isLike_66 ?_
    refine lv_iadd hx hb dX10_isLike_67 ?_
    refine lv_iload_n hx hb dX10_isLike_68 rfl (lv_at hl 3 rfl) ?_
    refine lv_iadd hx hb dX10_isLike_69 ?_
    refine gd_e hf (fun hg7 hf => ?_)
    refine ev_iald S hK hM hg7 (j := ((((788 : Int32) + ((192 : Int32) * x1)) + x3)).toNatClampNeg) rfl dX10_isLike_70 ?_
    refine lv_isub hx hb dX10_isLike_71 ?_
    refine va_mabs hx hb (hml.trans hl.1.symm) hown (hWA _ wa_5_66) (hWA _ wa_2_136) (hWA _ wa_1_13) (hWA _ wa_2_137) (Nat.le_of_ble_eq_true rfl) (Nat.le_of_ble_eq_true rfl) (Nat.zero_le _) (Nat.zero_le _) dX10_isLike_72 ?_
    refine lv_iload hx hb dX10_isLike_75 (lv_at hl 4 rfl) ?_
    refine lv_icmp_gt (tgt := 84) hx hb dX10_isLike_77 (by decide) (fun hc8 => ?_) (fun hc8 => ?_)
    · have hf := it_p hf hc8
      refine lv_iconst (v := (0 : Int32)) hx hb dX10_isLike_84 (by decide) ?_
      obtain rfl := Option.some.inj hf
      subst hQ
      exact ev_zret (v := (0 : Int32)) S hr hlocks hK hZ hM rfl dX10_isLike_85
    · have hf := it_n hf hc8
      refine lv_iconst (v := (1 : Int32)) hx hb dX10_isLike_80 (by decide) ?_
      refine lv_goto (tgt := 85) hx hb dX10_isLike_81 (by decide) ?_
      obtain rfl := Option.some.inj hf
      subst hQ
      exact ev_zret (v := (1 : Int32)) S hr hlocks hK hZ hM rfl dX10_isLike_85
end G06
