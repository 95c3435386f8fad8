section G05
variable {l : Launch} {D : va_G} {cs : mm_C} {A : Nat → Prop} {L : List Nat} {K N z : Nat → Nat} {w : Option Nat}
noncomputable def fn_X9_inLowestTerms_L3 (x0 : Int32) (x1 : Int32) : Nat → Int32 → Option ((Int32) ⊕ (Unit))
  | 0, _ => none
  | n + 1, v1 => if v1 ≤ (1 : Int32) then (some (Sum.inr ())) else (gd (¬ v1 = 0) (if (x0 - x0 / v1 * v1) = 0 then (if (x1 - x1 / v1 * v1) = 0 then (some (Sum.inl (x0 / v1))) else (fn_X9_inLowestTerms_L3 x0 x1 n (v1 + (-1 : Int32)))) else (fn_X9_inLowestTerms_L3 x0 x1 n (v1 + (-1 : Int32)))))
noncomputable def fn_X9_inLowestTerms (x0 : Int32) (x1 : Int32) : Option (Int32) := Option.bind (fn_X9_inLowestTerms_L3 x0 x1 FU (10 : Int32)) (fun (r2 : (Int32) ⊕ (Unit)) => Sum.elim (fun t => some t) (fun (xx3 : Unit) => some x0) r2)
abbrev wz_X9_inLowestTerms : List Cond := Cond.code yX9_inLowestTerms cX9_inLowestTerms 3 (some .int) :: WA
abbrev rm_X9_inLowestTerms : Room := { frames := 1, cells := 0, slots := 0, locals := 12 }
set_option maxHeartbeats 4000000 in
set_option maxRecDepth 100000 in
theorem c_X9_inLowestTerms (I : Nat → Nat → Int32) (P : Nat → Nat → Option Nat) (x0 : Int32) (x1 : Int32) (res : Int32) (hf : fn_X9_inLowestTerms x0 x1 = some res) : Met l yX9_inLowestTerms wz_X9_inLowestTerms rm_X9_inLowestTerms (va_Pc [.int x0, .int x1] (mm_B D cs A L K N z w I P)) (va_Qi (fun r (_ : Unit) => r = res) (fun _ => mm_B D cs A L K N z w I P) A) 0 0 A := by
  refine Met.ofW (cc := cX9_inLowestTerms) (maxL := 3) (ret := (some .int)) (by decide) rfl ?_
  intro p e s m args below meth c s₁ B hml hv
  obtain ⟨rfl, hBm⟩ := hv
  have hx := B.exec
  have hb := B.bytes
  have hr := B.returns
  have hts := atoms_spec (ws := wz_X9_inLowestTerms) B.pre
  have hWA : ∀ w ∈ WA, w.before ([.int x0, .int x1] : List Value).toArray s = true := fun u9 h9 => hts u9 (List.mem_cons_of_mem _ h9)
  have hown : s.vm.findClass RX9 = some m.cls := findClass_of_methodNamed B.named
  have hlocks := B.notSynchronized
  have S : CallFix p m c cX9_inLowestTerms 3 s ([.int x0, .int x1] : List Value).toArray wz_X9_inLowestTerms RX9 := ⟨hx, hb, hml, hown, hts⟩
  have hK := hBm.2.2.2.1
  have hZ := hBm.2.2.2.2
  have hM : mm_W D cs A L K N s.heap I P s.heap [] := ⟨hBm.1, hBm.2.1, hBm.2.2.1, va_S.rf⟩
  have hl := lv_entry ([.int x0, .int x1]) (n := 3) (Nat.le_of_ble_eq_true rfl)
  rw [lg_entry_eq]
  generalize (lg_sl ([.int x0, .int x1]) ++ List.replicate (3 - (lg_sl ([.int x0, .int x1])).length) Slot.unset).toArray = ls at hl ⊢
  have hl : lv_has ls 3 [(0, .int x0), (1, .int x1)] := hl
  generalize hQ : MQ below (va_Qi (fun r (_ : Unit) => r = res) (fun _ => mm_B D cs A L K N z w I P) A) ([.int x0, .int x1] : List Value).toArray s 0 0 A = QQ
  unfold fn_X9_inLowestTerms at hf
  refine lv_bipush (v := (10 : Int32)) hx hb dX9_inLowestTerms_0 (by decide) ?_
  refine lv_istore_n (lv' := [(2, .int (10 : Int32)), (0, .int x0), (1, .int x1)]) hx hb dX9_inLowestTerms_2 rfl hl (by decide) rfl (fun ls hl => ?_)
  have lp3_7 : ∀ (n : Nat) (v1 : Int32) (H : Heap) (locs : List Loc) (ls : Array Slot) (r2 : (Int32) ⊕ (Unit)), mm_W D cs A L K N s.heap I P H locs → lv_has ls 3 [(0, .int x0), (1, .int x1), (2, .int v1)] → fn_X9_inLowestTerms_L3 x0 x1 n v1 = some r2 → (∀ xx3 : Unit, r2 = Sum.inr xx3 → ∀ (H : Heap) (locs : List Loc) (ls : Array Slot), mm_W D cs A L K N s.heap I P H locs → lv_has ls 3 [(0, .int x0)] → W p l e (headSpec wz_X9_inLowestTerms rm_X9_inLowestTerms).room s m ([.int x0, .int x1] : List Value).toArray below meth c H locs 0 0 QQ (F0 m 30 ls [])) → (∀ t : Int32, r2 = Sum.inl t → t = res) → W p l e (headSpec wz_X9_inLowestTerms rm_X9_inLowestTerms).room s m ([.int x0, .int x1] : List Value).toArray below meth c H locs 0 0 QQ (F0 m 3 ls []) := by
    intro n
    induction n with
    | zero => intro v1 H locs ls r2 hM hl hf kk kr; exact nn_x (show (none : Option ((Int32) ⊕ (Unit))) = some r2 from hf)
    | succ n ih =>
      intro v1 H locs ls r2 hM hl hf kk kr
      rw [fn_X9_inLowestTerms_L3] at hf
      refine lv_iload_n hx hb dX9_inLowestTerms_3 rfl (lv_at hl 2 rfl) ?_
      refine lv_iconst (v := (1 : Int32)) hx hb dX9_inLowestTerms_4 (by decide) ?_
      refine lv_icmp_le (tgt := 30) hx hb dX9_inLowestTerms_5 (by decide) (fun hc4 => ?_) (fun hc4 => ?_)
      · have hf := it_p hf hc4
        exact kk _ (Option.some.inj hf).symm _ _ _ hM (lv_sub hl [0] rfl)
      · have hf := it_n hf hc4
        refine lv_iload_n hx hb dX9_inLowestTerms_8 rfl (lv_at hl 0 rfl) ?_
        refine lv_iload_n hx hb dX9_inLowestTerms_9 rfl (lv_at hl 2 rfl) ?_
        refine gd_e hf (fun hg5 hf => ?_)
        refine lv_irem hx hb dX9_inLowestTerms_10 hg5 ?_
        refine lv_if_ne (tgt := 24) hx hb dX9_inLowestTerms_11 (by decide) (fun hc6 => ?_) (fun hc6 => ?_)
        · have hf := it_n hf hc6
          refine lv_iinc (v := (v1 + (-1 : Int32))) (lv' := [(2, .int (v1 + (-1 : Int32))), (0, .int x0), (1, .int x1)]) hx hb dX9_inLowestTerms_24 hl (k := 2) rfl rfl (by decide) rfl (fun ls hl => ?_)
          refine lv_goto (tgt := 3) hx hb dX9_inLowestTerms_27 (by decide) ?_
          exact ih (v1 + (-1 : Int32)) _ _ _ _ hM (lv_sub hl [1, 2, 0] rfl) hf kk kr
        · have hf := it_p hf hc6
          refine lv_iload_n hx hb dX9_inLowestTerms_14 rfl (lv_at hl 1 rfl) ?_
          refine lv_iload_n hx hb dX9_inLowestTerms_15 rfl (lv_at hl 2 rfl) ?_
          refine lv_irem hx hb dX9_inLowestTerms_16 hg5 ?_
          refine lv_if_ne (tgt := 24) hx hb dX9_inLowestTerms_17 (by decide) (fun hc7 => ?_) (fun hc7 => ?_)
          · have hf := it_n hf hc7
            refine lv_iinc (v := (v1 + (-1 : Int32))) (lv' := [(2, .int (v1 + (-1 : Int32))), (0, .int x0), (1, .int x1)]) hx hb dX9_inLowestTerms_24 hl (k := 2) rfl rfl (by decide) rfl (fun ls hl => ?_)
            refine lv_goto (tgt := 3) hx hb dX9_inLowestTerms_27 (by decide) ?_
            exact ih (v1 + (-1 : Int32)) _ _ _ _ hM (lv_sub hl [1, 2, 0] rfl) hf kk kr
          · have hf := it_p hf hc7
            refine lv_iload_n hx hb dX9_inLowestTerms_20 rfl (lv_at hl 0 rfl) ?_
            refine lv_iload_n hx hb dX9_inLowestTerms_21 rfl (lv_at hl 2 rfl) ?_
            refine lv_idiv hx hb dX9_inLowestTerms_22 hg5 ?_
            have hrr := kr _ (Option.some.inj hf).symm
            subst hrr
            subst hQ
            exact ev_iret S hr hlocks hK hZ hM dX9_inLowestTerms_23
  refine bd_e hf (fun r2 er2 hf => ?_)
  refine lp3_7 FU (10 : Int32) _ _ _ r2 hM (lv_sub hl [1, 2, 0] rfl) er2 (fun xx3 exxx3 H locs ls hM hl => ?_) (fun t ht => by subst ht; exact Option.some.inj hf)
  subst exxx3
  have hf := sm_r hf
  refine lv_iload_n hx hb dX9_inLowestTerms_30 rfl (lv_at hl 0 rfl) ?_
  obtain rfl := Option.some.inj hf
  subst hQ
  exact ev_iret S hr hlocks hK hZ hM dX9_inLowestTerms_31
noncomputable def fn_X10_isIn (x0 : Int32) (x1 : Int32) (x2 : Int32) : Option (Int32) := if x0 < x1 then (some (0 : Int32)) else (if x2 < x0 then (some (0 : Int32)) else (some (1 : Int32)))
abbrev wz_X10_isIn : List Cond := Cond.code yX10_isIn cX10_isIn 3 (some .boolean) :: WA
abbrev rm_X10_isIn : Room := { frames := 1, cells := 0, slots := 0, locals := 12 }
set_option maxHeartbeats 4000000 in
set_option maxRecDepth 100000 in
theorem c_X10_isIn (I : Nat → Nat → Int32) (P : Nat → Nat → Option Nat) (x0 : Int32) (x1 : Int32) (x2 : Int32) (res : Int32) (hf : fn_X10_isIn x0 x1 x2 = some res) : Met l yX10_isIn wz_X10_isIn rm_X10_isIn (va_Pc [.int x0, .int x1, .int x2] (mm_B D cs A L K N z w I P)) (va_Qi (fun r (_ : Unit) => r = res) (fun _ => mm_B D cs A L K N z w I P) A) 0 0 A := by
  refine Met.ofW (cc := cX10_isIn) (maxL := 3) (ret := (some .boolean)) (by decide) rfl ?_
  intro p e s m args below meth c s₁ B hml hv
  obtain ⟨rfl, hBm⟩ := hv
  have hx := B.exec
  have hb := B.bytes
  have hr := B.returns
  have hts := atoms_spec (ws := wz_X10_isIn) B.pre
  have hWA : ∀ w ∈ WA, w.before ([.int x0, .int x1, .int x2] : List Value).toArray s = true := fun u9 h9 => hts u9 (List.mem_cons_of_mem _ h9)
  have hown : s.vm.findClass RX10 = some m.cls := findClass_of_methodNamed B.named
  have hlocks := B.notSynchronized
  have S : CallFix p m c cX10_isIn 3 s ([.int x0, .int x1, .int x2] : List Value).toArray wz_X10_isIn RX10 := ⟨hx, hb, hml, hown, hts⟩
  have hK := hBm.2.2.2.1
  have hZ := hBm.2.2.2.2
  have hM : mm_W D cs A L K N s.heap I P s.heap [] := ⟨hBm.1, hBm.2.1, hBm.2.2.1, va_S.rf⟩
  have hl := lv_entry ([.int x0, .int x1, .int x2]) (n := 3) (Nat.le_of_ble_eq_true rfl)
  rw [lg_entry_eq]
  generalize (lg_sl ([.int x0, .int x1, .int x2]) ++ List.replicate (3 - (lg_sl ([.int x0, .int x1, .int x2])).length) Slot.unset).toArray = ls at hl ⊢
  have hl : lv_has ls 3 [(0, .int x0), (1, .int x1), (2, .int x2)] := hl
  generalize hQ : MQ below (va_Qi (fun r (_ : Unit) => r = res) (fun _ => mm_B D cs A L K N z w I P) A) ([.int x0, .int x1, .int x2] : List Value).toArray s 0 0 A = QQ
  unfold fn_X10_isIn at hf
  refine lv_iload_n hx hb dX10_isIn_0 rfl (lv_at hl 0 rfl) ?_
  refine lv_iload_n hx hb dX10_isIn_1 rfl (lv_at hl 1 rfl) ?_
  refine lv_icmp_lt (tgt := 14) hx hb dX10_isIn_2 (by decide) (fun hc1 => ?_) (fun hc1 => ?_)
  · have hf := it_p hf hc1
    refine lv_iconst (v := (0 : Int32)) hx hb dX10_isIn_14 (by decide) ?_
    obtain rfl := Option.some.inj hf
    subst hQ
    exact ev_zret (v := (0 : Int32)) S hr hlocks hK hZ hM rfl dX10_isIn_15
  · have hf := it_n hf hc1
    refine lv_iload_n hx hb dX10_isIn_5 rfl (lv_at hl 0 rfl) ?_
    refine lv_iload_n hx hb dX10_isIn_6 rfl (lv_at hl 2 rfl) ?_
    refine lv_icmp_gt (tgt := 14) hx hb dX10_isIn_7 (by decide) (fun hc2 => ?_) (fun hc2 => ?_)
    · have hf := it_p hf hc2
      refine lv_iconst (v := (0 : Int32)) hx hb dX10_isIn_14 (by decide) ?_
      obtain rfl := Option.some.inj hf
      subst hQ
      exact ev_zret (v := (0 : Int32)) S hr hlocks hK hZ hM rfl dX10_isIn_15
    · have hf := it_n hf hc2
      refine lv_iconst (v := (1 : Int32)) hx hb dX10_isIn_10 (by decide) ?_
      refine lv_goto (tgt := 15) hx hb dX10_isIn_11 (by decide) ?_
      obtain rfl := Option.some.inj hf
      subst hQ
      exact ev_zret (v := (1 : Int32)) S hr hlocks hK hZ hM rfl dX10_isIn_15
noncomputable def fn_X10_isByte (x0 : Int32) : Option (Int32) := Option.bind (fn_X10_isIn x0 (0 : Int32) (255 : Int32)) (fun (r1 : Int32) => gd (r1 = 0 ∨ r1 = 1) (some r1))
abbrev wz_X10_isByte : List Cond := Cond.code yX10_isByte cX10_isByte 1 (some .boolean) :: WA
abbrev rm_X10_isByte : Room := { frames := 2, cells := 0, slots := 0, locals := 34 }
set_option maxHeartbeats 4000000 in
set_option maxRecDepth 100000 in
theorem c_X10_isByte (I : Nat → Nat → Int32) (P : Nat → Nat → Option Nat) (x0 : Int32) (res : Int32) (hf : fn_X10_isByte x0 = some res) : Met l yX10_isByte wz_X10_isByte rm_X10_isByte (va_Pc [.int x0] (mm_B D cs A L K N z w I P)) (va_Qi (fun r (_ : Unit) => r = res) (fun _ => mm_B D cs A L K N z w I P) A) 0 0 A := by
  refine Met.ofW (cc := cX10_isByte) (maxL := 1) (ret := (some .boolean)) (by decide) rfl ?_
  intro p e s m args below meth c s₁ B hml hv
  obtain ⟨rfl, hBm⟩ := hv
  have hx := B.exec
  have hb := B.bytes
  have hr := B.returns
  have hts := atoms_spec (ws := wz_X10_isByte) B.pre
  have hWA : ∀ w ∈ WA, w.before ([.int x0] : List Value).toArray s = true := fun u9 h9 => hts u9 (List.mem_cons_of_mem _ h9)
  have hown : s.vm.findClass RX10 = some m.cls := findClass_of_methodNamed B.named
  have hlocks := B.notSynchronized
  have S : CallFix p m c cX10_isByte 1 s ([.int x0] : List Value).toArray wz_X10_isByte RX10 := ⟨hx, hb, hml, hown, hts⟩
  have hK := hBm.2.2.2.1
  have hZ := hBm.2.2.2.2
  have hM : mm_W D cs A L K N s.heap I P s.heap [] := ⟨hBm.1, hBm.2.1, hBm.2.2.1, va_S.rf⟩
  have hl := lv_entry ([.int x0]) (n := 1) (Nat.le_of_ble_eq_true rfl)
  rw [lg_entry_eq]
  generalize (lg_sl ([.int x0]) ++ List.replicate (1 - (lg_sl ([.int x0])).length) Slot.unset).toArray = ls at hl ⊢
  have hl : lv_has ls 1 [(0, .int x0)] := hl
  generalize hQ : MQ below (va_Qi (fun r (_ : Unit) => r = res) (fun _ => mm_B D cs A L K N z w I P) A) ([.int x0] : List Value).toArray s 0 0 A = QQ
  unfold fn_X10_isByte at hf
  refine lv_iload_n hx hb dX10_isByte_0 rfl (lv_at hl 0 rfl) ?_
  refine lv_iconst (v := (0 : Int32)) hx hb dX10_isByte_1 (by decide) ?_
  refine lv_sipush (v := (255 : Int32)) hx hb dX10_isByte_2 (by decide) ?_
  refine bd_e hf (fun r1 er1 hf => ?_)
  refine ev_calli (va_runS (As := [.int x0, .int (0 : Int32), .int (255 : Int32)]) (rest := []) S (c_X10_isIn (l := l) I P x0 (0 : Int32) (255 : Int32) r1 er1) (va_cwS 3 hts (gi_s wa_4_218 wa_4_219 wa_1_11 wa_4_220) rfl rfl rfl (by decide +kernel) ⟨Nat.le_of_ble_eq_true rfl, Nat.le_of_ble_eq_true rfl⟩) ⟨mm_B_blind, fun U hU hW => ⟨rfl, mm_B_of hK hZ hM hU hW⟩⟩ rfl rfl hl.1 rfl (lv_room (Nat.le_of_ble_eq_true rfl)) dX10_isByte_5 ⟨Nat.zero_le _, Nat.zero_le _⟩) hM (fun H locs hM => ?_)
  refine gd_e hf (fun hg2 hf => ?_)
  obtain rfl := Option.some.inj hf
  subst hQ
  exact ev_zret (v := r1) S hr hlocks hK hZ hM (nar_b hg2) dX10_isByte_8
noncomputable def fn_X10_isLayer (K N : Nat → Nat) (I : Nat → Nat → Int32) (P : Nat → Nat → Option Nat) (a0 : Nat) (x1 : Int32) : Option (Int32) := gd (K a0 = 11) (Option.bind (P a0 (0)) (fun q2 => gd (K q2 = 12 ∧ vp_in (0 : Int32) (N q2)) (Option.bind (fn_X10_isIn x1 (0 : Int32) ((I q2 (0)) - (1 : Int32))) (fun (r4 : Int32) => gd (r4 = 0 ∨ r4 = 1) (some r4)))))
abbrev wz_X10_isLayer : List Cond := Cond.code yX10_isLayer cX10_isLayer 2 (some .boolean) :: WA
abbrev rm_X10_isLayer : Room := { frames := 2, cells := 0, slots := 0, locals := 34 }
set_option maxHeartbeats 4000000 in
set_option maxRecDepth 100000 in
theorem c_X10_isLayer (I : Nat → Nat → Int32) (P : Nat → Nat → Option Nat) (a0 : Nat) (x1 : Int32) (res : Int32) (hf : fn_X10_isLayer K N I P a0 x1 = some res) : Met l yX10_isLayer wz_X10_isLayer rm_X10_isLayer (va_Pc [.ref a0, .int x1] (mm_B D cs A L K N z w I P)) (va_Qi (fun r (_ : Unit) => r = res) (fun _ => mm_B D cs A L K N z w I P) A) 0 0 A := by
  refine Met.ofW (cc := cX10_isLayer) (maxL := 2) (ret := (some .boolean)) (by decide) rfl ?_
  intro p e s m args below meth c s₁ B hml hv
  obtain ⟨rfl, hBm⟩ := hv
  have hx := B.exec
  have hb := B.bytes
  have hr := B.returns
  have hts := atoms_spec (ws := wz_X10_isLayer) B.pre
  have hWA : ∀ w ∈ WA, w.before ([.ref a0, .int x1] : List Value).toArray s = true := fun u9 h9 => hts u9 (List.mem_cons_of_mem _ h9)
  have hown : s.vm.findClass RX10 = some m.cls := findClass_of_methodNamed B.named
  have hlocks := B.notSynchronized
  have S : CallFix p m c cX10_isLayer 2 s ([.ref a0, .int x1] : List Value).toArray wz_X10_isLayer RX10 := ⟨hx, hb, hml, hown, hts⟩
  have hK := hBm.2.2.2.1
  have hZ := hBm.2.2.2.2
  have hM : mm_W D cs A L K N s.heap I P s.heap [] := ⟨hBm.1, hBm.2.1, hBm.2.2.1, va_S.rf⟩
  have hl := lv_entry ([.ref a0, .int x1]) (n := 2) (Nat.le_of_ble_eq_true rfl)
  rw [lg_entry_eq]
  generalize (lg_sl ([.ref a0, .int x1]) ++ List.replicate (2 - (lg_sl ([.ref a0, .int x1])).length) Slot.unset).toArray = ls at hl ⊢
  have hl : lv_has ls 2 [(0, .ref a0), (1, .int x1)] := hl
  have hin10 : ∀ w ∈ wsX100, w ∈ wz_X10_isLayer := fun w h => List.mem_cons_of_mem _ (wu_X10 w h)
  have lk9 : (Cond.fieldLink RX10 9 RX10 "g" "[I").before ([.ref a0, .int x1] : List Value).toArray s = true := hWA _ wa_4_141
  generalize hQ : MQ below (va_Qi (fun r (_ : Unit) => r = res) (fun _ => mm_B D cs A L K N z w I P) A) ([.ref a0, .int x1] : List Value).toArray s 0 0 A = QQ
  rw [fn_X10_isLayer] at hf
  refine lv_iload_n hx hb dX10_isLayer_0 rfl (lv_at hl 1 rfl) ?_
  refine lv_iconst (v := (0 : Int32)) hx hb dX10_isLayer_1 (by decide) ?_
  refine lv_aload_n hx hb dX10_isLayer_2 rfl (lv_at hl 0 rfl) ?_
  refine gd_e hf (fun hg1 hf => ?_)
  refine bd_e hf (fun q2 eq2 hf => ?_)
  refine ev_getP (v := q2) S hK hM (ci := 10) (n := 23) (C := RX10) (T := TX10) hin10 rfl hg1 0 (by decide) lk9 rfl rfl eq2 rfl dX10_isLayer_3 ?_
  refine lv_iconst (v := (0 : Int32)) hx hb dX10_isLayer_6 (by decide) ?_
  refine gd_e hf (fun hg3 hf => ?_)
  refine ev_iald S hK hM hg3 (j := 0) rfl dX10_isLayer_7 ?_
  refine lv_iconst (v := (1 : Int32)) hx hb dX10_isLayer_8 (by decide) ?_
  refine lv_isub hx hb dX10_isLayer_9 ?_
  refine bd_e hf (fun r4 er4 hf => ?_)
  refine ev_calli (va_runS (As := [.int x1, .int (0 : Int32), .int ((I q2 (0)) - (1 : Int32))]) (rest := []) S (c_X10_isIn (l := l) I P x1 (0 : Int32) ((I q2 (0)) - (1 : Int32)) r4 er4) (va_cwS 3 hts (gi_s wa_4_218 wa_4_219 wa_1_11 wa_4_220) rfl rfl rfl (by decide +kernel) ⟨Nat.le_of_ble_eq_true rfl, Nat.le_of_ble_eq_true rfl⟩) ⟨mm_B_blind, fun U hU hW => ⟨rfl, mm_B_of hK hZ hM hU hW⟩⟩ rfl rfl hl.1 rfl (lv_room (Nat.le_of_ble_eq_true rfl)) dX10_isLayer_10 ⟨Nat.zero_le _, Nat.zero_le _⟩) hM (fun H locs hM => ?_)
  refine gd_e hf (fun hg5 hf => ?_)
  obtain rfl := Option.some.inj hf
  subst hQ
  exact ev_zret (v := r4) S hr hlocks hK hZ hM (nar_b hg5) dX10_isLayer_13
noncomputable def fn_X10_isDot (x0 : Int32) (x1 : Int32) : Option (Int32) := Option.bind (fn_X10_isIn x0 (0 : Int32) (15 : Int32)) (fun (r1 : Int32) => if r1 = 0 then (some (0 : Int32)) else (Option.bind (fn_X10_isIn x1 (0 : Int32) (11 : Int32)) (fun (r3 : Int32) => if r3 = 0 then (some (0 : Int32)) else (some (1 : Int32)))))
abbrev wz_X10_isDot : List Cond := Cond.code yX10_isDot cX10_isDot 2 (some .boolean) :: WA
abbrev rm_X10_isDot : Room := { frames := 2, cells := 0, slots := 0, locals := 34 }
set_option maxHeartbeats 4000000 in
set_option maxRecDepth 100000 in
theorem c_X10_isDot (I : Nat → Nat → Int32) (P : Nat → Nat → Option Nat) (x0 : Int32) (x1 : Int32) (res : Int32) (hf : fn_X10_isDot x0 x1 = some res) : Met l yX10_isDot wz_X10_isDot rm_X10_isDot (va_Pc [.int x0, .int x1] (mm_B D cs A L K N z w I P)) (va_Qi (fun r (_ : Unit) => r = res) (fun _ => mm_B D cs A L K N z w I P) A) 0 0 A := by
  refine Met.ofW (cc := cX10_isDot) (maxL := 2) (ret := (some .boolean)) (by decide) rfl ?_
  intro p e s m args below meth c s₁ B hml hv
  obtain ⟨rfl, hBm⟩ := hv
  have hx := B.exec
  have hb := B.bytes
  have hr := B.returns
  have hts := atoms_spec (ws := wz_X10_isDot) B.pre
  have hWA : ∀ w ∈ WA, w.before ([.int x0, .int x1] : List Value).toArray s = true := fun u9 h9 => hts u9 (List.mem_cons_of_mem _ h9)
  have hown : s.vm.findClass RX10 = some m.cls := findClass_of_methodNamed B.named
  have hlocks := B.notSynchronized
  have S : CallFix p m c cX10_isDot 2 s ([.int x0, .int x1] : List Value).toArray wz_X10_isDot RX10 := ⟨hx, hb, hml, hown, hts⟩
  have hK := hBm.2.2.2.1
  have hZ := hBm.2.2.2.2
  have hM : mm_W D cs A L K N s.heap I P s.heap [] := ⟨hBm.1, hBm.2.1, hBm.2.2.1, va_S.rf⟩
  have hl := lv_entry ([.int x0, .int x1]) (n := 2) (Nat.le_of_ble_eq_true rfl)
  rw [lg_entry_eq]
  generalize (lg_sl ([.int x0, .int x1]) ++ List.replicate (2 - (lg_sl ([.int x0, .int x1])).length) Slot.unset).toArray = ls at hl ⊢
  have hl : lv_has ls 2 [(0, .int x0), (1, .int x1)] := hl
  generalize hQ : MQ below (va_Qi (fun r (_ : Unit) => r = res) (fun _ => mm_B D cs A L K N z w I P) A) ([.int x0, .int x1] : List Value).toArray s 0 0 A = QQ
  unfold fn_X10_isDot at hf
  refine lv_iload_n hx hb dX10_isDot_0 rfl (lv_at hl 0 rfl) ?_
  refine lv_iconst (v := (0 : Int32)) hx hb dX10_isDot_1 (by decide) ?_
  refine lv_bipush (v := (15 : Int32)) hx hb dX10_isDot_2 (by decide) ?_
  refine bd_e hf (fun r1 er1 hf => ?_)
  refine ev_calli (va_runS (As := [.int x0, .int (0 : Int32), .int (15 : Int32)]) (rest := []) S (c_X10_isIn (l := l) I P x0 (0 : Int32) (15 : Int32) r1 er1) (va_cwS 3 hts (gi_s wa_4_218 wa_4_219 wa_1_11 wa_4_220) rfl rfl rfl (by decide +kernel) ⟨Nat.le_of_ble_eq_true rfl, Nat.le_of_ble_eq_true rfl⟩) ⟨mm_B_blind, fun U hU hW => ⟨rfl, mm_B_of hK hZ hM hU hW⟩⟩ rfl rfl hl.1 rfl (lv_room (Nat.le_of_ble_eq_true rfl)) dX10_isDot_4 ⟨Nat.zero_le _, Nat.zero_le _⟩) hM (fun H locs hM => ?_)
  refine lv_if_eq (tgt := 24) hx hb dX10_isDot_7 (by decide) (fun hc2 => ?_) (fun hc2 => ?_)
  · have hf := it_p hf hc2
    refine lv_iconst (v := (0 : Int32)) hx hb dX10_isDot_24 (by decide) ?_
    obtain rfl := Option.some.inj hf
    subst hQ
    exact ev_zret (v := (0 : Int32)) S hr hlocks hK hZ hM rfl dX10_isDot_25
  · have hf := it_n hf hc2
    refine lv_iload_n hx hb dX10_isDot_10 rfl (lv_at hl 1 rfl) ?_
    refine lv_iconst (v := (0 : Int32)) hx hb dX10_isDot_11 (by decide) ?_
    refine lv_bipush (v := (11 : Int32)) hx hb dX10_isDot_12 (by decide) ?_
    refine bd_e hf (fun r3 er3 hf => ?_)
    refine ev_calli (va_runS (As := [.int x1, .int (0 : Int32), .int (11 : Int32)]) (rest := []) S (c_X10_isIn (l := l) I P x1 (0 : Int32) (11 : Int32) r3 er3) (va_cwS 3 hts (gi_s wa_4_218 wa_4_219 wa_1_11 wa_4_220) rfl rfl rfl (by decide +kernel) ⟨Nat.le_of_ble_eq_true rfl, Nat.le_of_ble_eq_true rfl⟩) ⟨mm_B_blind, fun U hU hW => ⟨rfl, mm_B_of hK hZ hM hU hW⟩⟩ rfl rfl hl.1 rfl (lv_room (Nat.le_of_ble_eq_true rfl)) dX10_isDot_14 ⟨Nat.zero_le _, Nat.zero_le _⟩) hM (fun H locs hM => ?_)
    refine lv_if_eq (tgt := 24) hx hb dX10_isDot_17 (by decide) (fun hc4 => ?_) (fun hc4 => ?_)
    · have hf := it_p hf hc4
      refine lv_iconst (v := (0 : Int32)) hx hb dX10_isDot_24 (by decide) ?_
      obtain rfl := Option.some.inj hf
      subst hQ
      exact ev_zret (v := (0 : Int32)) S hr hlocks hK hZ hM rfl dX10_isDot_25
    · have hf := it_n hf hc4
      refine lv_iconst (v := (1 : Int32)) hx hb dX10_isDot_20 (by decide) ?_
      refine lv_goto (tgt := 25) hx hb dX10_isDot_21 (by decide) ?_
      obtain rfl := Option.some.inj hf
      subst hQ
      exact ev_zret (v := (1 : Int32)) S hr hlocks hK hZ hM rfl dX10_isDot_25
noncomputable def fn_X10_dotOf (x0 : Int32) (x1 : Int32) : Option (Int32) := some (((16 : Int32) * x1) + x0)
abbrev wz_X10_dotOf : List Cond := Cond.code yX10_dotOf cX10_dotOf 2 (some .int) :: WA
abbrev rm_X10_dotOf : Room := { frames := 1, cells := 0, slots := 0, locals := 12 }
set_option maxHeartbeats 4000000 in
set_option maxRecDepth 100000 in
theorem c_X10_dotOf (I : Nat → Nat → Int32) (P : Nat → Nat → Option Nat) (x0 : Int32) (x1 : Int32) (res : Int32) (hf : fn_X10_dotOf x0 x1 = some res) : Met l yX10_dotOf wz_X10_dotOf rm_X10_dotOf (va_Pc [.int x0, .int x1] (mm_B D cs A L K N z w I P)) (va_Qi (fun r (_ : Unit) => r = res) (fun _ => mm_B D cs A L K N z w I P) A) 0 0 A := by
  refine Met.ofW (cc := cX10_dotOf) (maxL := 2) (ret := (some .int)) (by decide) rfl ?_
  intro p e s m args below meth c s₁ B hml hv
  obtain ⟨rfl, hBm⟩ := hv
  have hx := B.exec
  have hb := B.bytes
  have hr := B.returns
  have hts := atoms_spec (ws := wz_X10_dotOf) B.pre
  have hWA : ∀ w ∈ WA, w.before ([.int x0, .int x1] : List Value).toArray s = true := fun u9 h9 => hts u9 (List.mem_cons_of_mem _ h9)
  have hown : s.vm.findClass RX10 = some m.cls := findClass_of_methodNamed B.named
  have hlocks := B.notSynchronized
  have S : CallFix p m c cX10_dotOf 2 s ([.int x0, .int x1] : List Value).toArray wz_X10_dotOf RX10 := ⟨hx, hb, hml, hown, hts⟩
  have hK := hBm.2.2.2.1
  have hZ := hBm.2.2.2.2
  have hM : mm_W D cs A L K N s.heap I P s.heap [] := ⟨hBm.1, hBm.2.1, hBm.2.2.1, va_S.rf⟩
  have hl := lv_entry ([.int x0, .int x1]) (n := 2) (Nat.le_of_ble_eq_true rfl)
  rw [lg_entry_eq]
  generalize (lg_sl ([.int x0, .int x1]) ++ List.replicate (2 - (lg_sl ([.int x0, .int x1])).length) Slot.unset).toArray = ls at hl ⊢
  have hl : lv_has ls 2 [(0, .int x0), (1, .int x1)] := hl
  generalize hQ : MQ below (va_Qi (fun r (_ : Unit) => r = res) (fun _ => mm_B D cs A L K N z w I P) A) ([.int x0, .int x1] : List Value).toArray s 0 0 A = QQ
  unfold fn_X10_dotOf at hf
  refine lv_bipush (v := (16 : Int32)) hx hb dX10_dotOf_0 (by decide) ?_
  refine lv_iload_n hx hb dX10_dotOf_2 rfl (lv_at hl 1 rfl) ?_
  refine lv_imul hx hb dX10_dotOf_3 ?_
  refine lv_iload_n hx hb dX10_dotOf_4 rfl (lv_at hl 0 rfl) ?_
  refine lv_iadd hx hb dX10_dotOf_5 ?_
  obtain rfl := Option.some.inj hf
  subst hQ
  exact ev_iret S hr hlocks hK hZ hM dX10_dotOf_6
noncomputable def fn_X10_blended (x0 : Int32) (x1 : Int32) (x2 : Int32) (x3 : Int32) : Option (Int32) := if x0 = (1 : Int32) then (some ((x2 * x3) / (255 : Int32))) else (if x0 = (2 : Int32) then (some ((255 : Int32) - ((((255 : Int32) - x2) * ((255 : Int32) - x3)) / (255 : Int32)))) else (if x0 = (3 : Int32) then (some (if (0 : Int32) < (((x2 * x3) / (255 : Int32)) - x1) then (((x2 * x3) / (255 : Int32)) - x1) else (0 : Int32))) else (if x0 = (4 : Int32) then (some (if (((255 : Int32) - ((((255 : Int32) - x2) * ((255 : Int32) - x3)) / (255 : Int32))) + x1) < (255 : Int32) then (((255 : Int32) - ((((255 : Int32) - x2) * ((255 : Int32) - x3)) / (255 : Int32))) + x1) else (255 : Int32))) else (if x0 = (5 : Int32) then (if x3 ≤ x2 then (some (x2 - x3)) else (some (x3 - x2))) else (some x3)))))
abbrev wz_X10_blended : List Cond := Cond.code yX10_blended cX10_blended 4 (some .int) :: WA
abbrev rm_X10_blended : Room := { frames := 2, cells := 0, slots := 0, locals := 30 }
set_option maxHeartbeats 4000000 in
set_option maxRecDepth 100000 in
theorem c_X10_blended (I : Nat → Nat → Int32) (P : Nat → Nat → Option Nat) (x0 : Int32) (x1 : Int32) (x2 : Int32) (x3 : Int32) (res : Int32) (hf : fn_X10_blended x0 x1 x2 x3 = some res) : Met l yX10_blended wz_X10_blended rm_X10_blended (va_Pc [.int x0, .int x1, .int x2, .int x3] (mm_B D cs A L K N z w I P)) (va_Qi (fun r (_ : Unit) => r = res) (fun _ => mm_B D cs A L K N z w I P) A) 0 0 A := by
  refine Met.ofW (cc := cX10_blended) (maxL := 4) (ret := (some .int)) (by decide) rfl ?_
  intro p e s m args below meth c s₁ B hml hv
  obtain ⟨rfl, hBm⟩ := hv
  have hx := B.exec
  have hb := B.bytes
  have hr := B.returns
  have hts := atoms_spec (ws := wz_X10_blended) B.pre
  have hWA : ∀ w ∈ WA, w.before ([.int x0, .int x1, .int x2, .int x3] : List Value).toArray s = true := fun u9 h9 => hts u9 (List.mem_cons_of_mem _ h9)
  have hown : s.vm.findClass RX10 = some m.cls := findClass_of_methodNamed B.named
  have hlocks := B.notSynchronized
  have S : CallFix p m c cX10_blended 4 s ([.int x0, .int x1, .int x2, .int x3] : List Value).toArray wz_X10_blended RX10 := ⟨hx, hb, hml, hown, hts⟩
  have hK := hBm.2.2.2.1
  have hZ := hBm.2.2.2.2
  have hM : mm_W D cs A L K N s.heap I P s.heap [] := ⟨hBm.1, hBm.2.1, hBm.2.2.1, va_S.rf⟩
  have hl := lv_entry ([.int x0, .int x1, .int x2, .int x3]) (n := 4) (Nat.le_of_ble_eq_true rfl)
  rw [lg_entry_eq]
  generalize (lg_sl ([.int x0, .int x1, .int x2, .int x3]) ++ List.replicate (4 - (lg_sl ([.int x0, .int x1, .int x2, .int x3])).length) Slot.unset).toArray = ls at hl ⊢
  have hl : lv_has ls 4 [(0, .int x0), (1, .int x1), (2, .int x2), (3, .int x3)] := hl
  generalize hQ : MQ below (va_Qi (fun r (_ : Unit) => r = res) (fun _ => mm_B D cs A L K N z w I P) A) ([.int x0, .int x1, .int x2, .int x3] : List Value).toArray s 0 0 A = QQ
  unfold fn_X10_blended at hf
  refine lv_iload_n hx hb dX10_blended_0 rfl (lv_at hl 0 rfl) ?_
  refine (Classical.em (x0 = (1 : Int32))).elim (fun hc1 => ?_) (fun hc1 => ?_)
  · have hf := it_p hf hc1
    refine lv_tableIn (off := 35) (tgt := 36) hx hb dX10_blended_1 (by rw [hc1]; decide) (by rw [hc1]; decide) (by rw [hc1]; rfl) (by decide) ?_
    refine lv_iload_n hx hb dX10_blended_36 rfl (lv_at hl 2 rfl) ?_
    refine lv_iload_n hx hb dX10_blended_37 rfl (lv_at hl 3 rfl) ?_
    refine lv_imul hx hb dX10_blended_38 ?_
    refine lv_sipush (v := (255 : Int32)) hx hb dX10_blended_39 (by decide) ?_
    refine lv_idiv hx hb dX10_blended_42 (by decide) ?_
    obtain rfl := Option.some.inj hf
    subst hQ
    exact ev_iret S hr hlocks hK hZ hM dX10_blended_43
  · have hf := it_n hf hc1
    refine (Classical.em (x0 = (2 : Int32))).elim (fun hc2 => ?_) (fun hc2 => ?_)
    · have hf := it_p hf hc2
      refine lv_tableIn (off := 43) (tgt := 44) hx hb dX10_blended_1 (by rw [hc2]; decide) (by rw [hc2]; decide) (by rw [hc2]; rfl) (by decide) ?_
      refine lv_sipush (v := (255 : Int32)) hx hb dX10_blended_44 (by decide) ?_
      refine lv_sipush (v := (255 : Int32)) hx hb dX10_blended_47 (by decide) ?_
      refine lv_iload_n hx hb dX10_blended_50 rfl (lv_at hl 2 rfl) ?_
      refine lv_isub hx hb dX10_blended_51 ?_
      refine lv_sipush (v := (255 : Int32)) hx hb dX10_blended_52 (by decide) ?_
      refine lv_iload_n hx hb dX10_blended_55 rfl (lv_at hl 3 rfl) ?_
      refine lv_isub hx hb dX10_blended_56 ?_
      refine lv_imul hx hb dX10_blended_57 ?_
      refine lv_sipush (v := (255 : Int32)) hx hb dX10_blended_58 (by decide) ?_
      refine lv_idiv hx hb dX10_blended_61 (by decide) ?_
      refine lv_isub hx hb dX10_blended_62 ?_
      obtain rfl := Option.some.inj hf
      subst hQ
      exact ev_iret S hr hlocks hK hZ hM dX10_blended_63
    · have hf := it_n hf hc2
      refine (Classical.em (x0 = (3 : Int32))).elim (fun hc3 => ?_) (fun hc3 => ?_)
      · have hf := it_p hf hc3
        refine lv_tableIn (off := 63) (tgt := 64) hx hb dX10_blended_1 (by rw [hc3]; decide) (by rw [hc3]; decide) (by rw [hc3]; rfl) (by decide) ?_
        refine lv_iconst (v := (0 : Int32)) hx hb dX10_blended_64 (by decide) ?_
        refine lv_iload_n hx hb dX10_blended_65 rfl (lv_at hl 2 rfl) ?_
        refine lv_iload_n hx hb dX10_blended_66 rfl (lv_at hl 3 rfl) ?_
        refine lv_imul hx hb dX10_blended_67 ?_
        refine lv_sipush (v := (255 : Int32)) hx hb dX10_blended_68 (by decide) ?_
        refine lv_idiv hx hb dX10_blended_71 (by decide) ?_
        refine lv_iload_n hx hb dX10_blended_72 rfl (lv_at hl 1 rfl) ?_
        refine lv_isub hx hb dX10_blended_73 ?_
        refine va_mmax hx hb (hml.trans hl.1.symm) hown (hWA _ wa_5_34) (hWA _ wa_2_130) (hWA _ wa_1_13) (hWA _ wa_2_131) (Nat.le_of_ble_eq_true rfl) (Nat.le_of_ble_eq_true rfl) (Nat.zero_le _) (Nat.zero_le _) dX10_blended_74 ?_
        obtain rfl := Option.some.inj hf
        subst hQ
        exact ev_iret S hr hlocks hK hZ hM dX10_blended_77
      · have hf := it_n hf hc3
        refine (Classical.em (x0 = (4 : Int32))).elim (fun hc4 => ?_) (fun hc4 => ?_)
        · have hf := it_p hf hc4
          refine lv_tableIn (off := 77) (tgt := 78) hx hb dX10_blended_1 (by rw [hc4]; decide) (by rw [hc4]; decide) (by rw [hc4]; rfl) (by decide) ?_
          refine lv_sipush (v := (255 : Int32)) hx hb dX10_blended_78 (by decide) ?_
          refine lv_sipush (v := (255 : Int32)) hx hb dX10_blended_81 (by decide) ?_
          refine lv_sipush (v := (255 : Int32)) hx hb dX10_blended_84 (by decide) ?_
          refine lv_iload_n hx hb dX10_blended_87 rfl (lv_at hl 2 rfl) ?_
          refine lv_isub hx hb dX10_blended_88 ?_
          refine lv_sipush (v := (255 : Int32)) hx hb dX10_blended_89 (by decide) ?_
          refine lv_iload_n hx hb dX10_blended_92 rfl (lv_at hl 3 rfl) ?_
          refine lv_isub hx hb dX10_blended_93 ?_
          refine lv_imul hx hb dX10_blended_94 ?_
          refine lv_sipush (v := (255 : Int32)) hx hb dX10_blended_95 (by decide) ?_
          refine lv_idiv hx hb dX10_blended_98 (by decide) ?_
          refine lv_isub hx hb dX10_blended_99 ?_
          refine lv_iload_n hx hb dX10_blended_100 rfl (lv_at hl 1 rfl) ?_
          refine lv_iadd hx hb dX10_blended_101 ?_
          refine va_mmin hx hb (hml.trans hl.1.symm) hown (hWA _ wa_5_35) (hWA _ wa_2_133) (hWA _ wa_1_13) (hWA _ wa_2_134) (Nat.le_of_ble_eq_true rfl) (Nat.le_of_ble_eq_true rfl) (Nat.zero_le _) (Nat.zero_le _) dX10_blended_102 ?_
          obtain rfl := Option.some.inj hf
          subst hQ
          exact ev_iret S hr hlocks hK hZ hM dX10_blended_105
        · have hf := it_n hf hc4
          refine (Classical.em (x0 = (5 : Int32))).elim (fun hc5 => ?_) (fun hc5 => ?_)
          · have hf := it_p hf hc5
            refine lv_tableIn (off := 105) (tgt := 106) hx hb dX10_blended_1 (by rw [hc5]; decide) (by rw [hc5]; decide) (by rw [hc5]; rfl) (by decide) ?_
            refine lv_iload_n hx hb dX10_blended_106 rfl (lv_at hl 2 rfl) ?_
            refine lv_iload_n hx hb dX10_blended_107 rfl (lv_at hl 3 rfl) ?_
            refine lv_icmp_ge (tgt := 117) hx hb dX10_blended_108 (by decide) (fun hc6 => ?_) (fun hc6 => ?_)
            · have hf := it_p hf hc6
              refine lv_iload_n hx hb dX10_blended_117 rfl (lv_at hl 2 rfl) ?_
              refine lv_iload_n hx hb dX10_blended_118 rfl (lv_at hl 3 rfl) ?_
              refine lv_isub hx hb dX10_blended_119 ?_
              obtain rfl := Option.some.inj hf
              subst hQ
              exact ev_iret S hr hlocks hK hZ hM dX10_blended_120
            · have hf := it_n hf hc6
              refine lv_iload_n hx hb dX10_blended_111 rfl (lv_at hl 3 rfl) ?_
              refine lv_iload_n hx hb dX10_blended_112 rfl (lv_at hl 2 rfl) ?_
              refine lv_isub hx hb dX10_blended_113 ?_
              refine lv_goto (tgt := 120) hx hb dX10_blended_114 (by decide) ?_
              obtain rfl := Option.some.inj hf
              subst hQ
              exact ev_iret S hr hlocks hK hZ hM dX10_blended_120
          · have hf := it_n hf hc5
            refine lv_tableOut (tgt := 121) hx hb dX10_blended_1 (by have t0 := ne_t hc1 (y := 1) rfl; have t1 := ne_t hc2 (y := 2) rfl; have t2 := ne_t hc3 (y := 3) rfl; have t3 := ne_t hc4 (y := 4) rfl; have t4 := ne_t hc5 (y := 5) rfl; omega) (by decide) ?_
            refine lv_iload_n hx hb dX10_blended_121 rfl (lv_at hl 3 rfl) ?_
            obtain rfl := Option.some.inj hf
            subst hQ
            exact ev_iret S hr hlocks hK hZ hM dX10_blended_122
noncomputable def fn_X10_seen_L6 (K : Nat → Nat) (N : Nat → Nat) (a0 : Nat) (x1 : Int32) (x3 : Int32) (x4 : Int32) (I : Nat → Nat → Int32) (P : Nat → Nat → Option Nat) : Nat → Int32 → Int32 → Option (Int32)
  | 0, _, _ => none
  | n + 1, v1, v2 => gd (K a0 = 11) (Option.bind (P a0 (0)) (fun q5 => gd (K q5 = 12 ∧ vp_in (0 : Int32) (N q5)) (if (I q5 (0)) ≤ v2 then (some v1) else (gd (K q5 = 12 ∧ vp_in (((788 : Int32) + ((192 : Int32) * v2)) + x1) (N q5)) (gd (K q5 = 12 ∧ vp_in ((16 : Int32) + v2) (N q5)) (Option.bind (some (((I q5 ((((788 : Int32) + ((192 : Int32) * v2)) + x1)).toNatClampNeg) * (I q5 (((16 : Int32) + v2)).toNatClampNeg)) / (255 : Int32))) (fun v10 => Option.bind (if v2 = x3 then (some x4) else (gd (K q5 = 12 ∧ vp_in ((8 : Int32) + v2) (N q5)) (some (I q5 (((8 : Int32) + v2)).toNatClampNeg)))) (fun (j12 : Int32) => gd (K q5 = 12 ∧ vp_in ((12 : Int32) + v2) (N q5)) (gd (K q5 = 12 ∧ vp_in (((20 : Int32) + ((192 : Int32) * v2)) + x1) (N q5)) (Option.bind (fn_X10_blended j12 (I q5 (((12 : Int32) + v2)).toNatClampNeg) v1 (I q5 ((((20 : Int32) + ((192 : Int32) * v2)) + x1)).toNatClampNeg)) (fun (r15 : Int32) => Option.bind (some (v1 + (((r15 - v1) * v10) / (255 : Int32)))) (fun v16 => fn_X10_seen_L6 K N a0 x1 x3 x4 I P n v16 (v2 + (1 : Int32))))))))))))))
noncomputable def fn_X10_seen (K N : Nat → Nat) (I : Nat → Nat → Int32) (P : Nat → Nat → Option Nat) (a0 : Nat) (x1 : Int32) (x2 : Int32) (x3 : Int32) (x4 : Int32) : Option (Int32) := Option.bind (fn_X10_seen_L6 K N a0 x1 x3 x4 I P FU x2 (0 : Int32)) (fun (r3 : Int32) => some r3)
abbrev wz_X10_seen : List Cond := Cond.code yX10_seen cX10_seen 9 (some .int) :: WA
abbrev rm_X10_seen : Room := { frames := 3, cells := 0, slots := 0, locals := 53 }
set_option maxHeartbeats 4000000 in
set_option maxRecDepth 100000 in
theorem c_X10_seen (I : Nat → Nat → Int32) (P : Nat → Nat → Option Nat) (a0 : Nat) (x1 : Int32) (x2 : Int32) (x3 : Int32) (x4 : Int32) (res : Int32) (hf : fn_X10_seen K N I P a0 x1 x2 x3 x4 = some res) : Met l yX10_seen wz_X10_seen rm_X10_seen (va_Pc [.ref a0, .int x1, .int x2, .int x3, .int x4] (mm_B D cs A L K N z w I P)) (va_Qi (fun r (_ : Unit) => r = res) (fun _ => mm_B D cs A L K N z w I P) A) 0 0 A := by
  refine Met.ofW (cc := cX10_seen) (maxL := 9) (ret := (some .int)) (by decide) rfl ?_
  intro p e s m args below meth c s₁ B hml hv
  obtain ⟨rfl, hBm⟩ := hv
  have hx := B.exec
  have hb := B.bytes
  have hr := B.returns
  have hts := atoms_spec (ws := wz_X10_seen) B.pre
  have hWA : ∀ w ∈ WA, w.before ([.ref a0, .int x1, .int x2, .int x3, .int x4] : List Value).toArray s = true := fun u9 h9 => hts u9 (List.mem_cons_of_mem _ h9)
  have hown : s.vm.findClass RX10 = some m.cls := findClass_of_methodNamed B.named
  have hlocks := B.notSynchronized
  have S : CallFix p m c cX10_seen 9 s ([.ref a0, .int x1, .int x2, .int x3, .int x4] : List Value).toArray wz_X10_seen RX10 := ⟨hx, hb, hml, hown, hts⟩
  have hK := hBm.2.2.2.1
  have hZ := hBm.2.2.2.2
  have hM : mm_W D cs A L K N s.heap I P s.heap [] := ⟨hBm.1, hBm.2.1, hBm.2.2.1, va_S.rf⟩
  have hl := lv_entry ([.ref a0, .int x1, .int x2, .int x3, .int x4]) (n := 9) (Nat.le_of_ble_eq_true rfl)
  rw [lg_entry_eq]
  generalize (lg_sl ([.ref a0, .int x1, .int x2, .int x3, .int x4]) ++ List.replicate (9 - (lg_sl ([.ref a0, .int x1, .int x2, .int x3, .int x4])).length) Slot.unset).toArray = ls at hl ⊢
  have hl : lv_has ls 9 [(0, .ref a0), (1, .int x1), (2, .int x2), (3, .int x3), (4, .int x4)] := hl
  have hin10 : ∀ w ∈ wsX100, w ∈ wz_X10_seen := fun w h => List.mem_cons_of_mem _ (wu_X10 w h)
  have lk9 : (Cond.fieldLink RX10 9 RX10 "g" "[I").before ([.ref a0, .int x1, .int x2, .int x3, .int x4] : List Value).toArray s = true := hWA _ wa_4_141
  generalize hQ : MQ below (va_Qi (fun r (_ : Unit) => r = res) (fun _ => mm_B D cs A L K N z w I P) A) ([.ref a0, .int x1, .int x2, .int x3, .int x4] : List Value).toArray s 0 0 A = QQ
  rw [fn_X10_seen] at hf
  refine lv_iload_n hx hb dX10_seen_0 rfl (lv_at hl 2 rfl) ?_
  refine lv_istore (lv' := [(5, .int x2), (0, .ref a0), (1, .int x1), (2, .int x2), (3, .int x3), (4, .int x4)]) hx hb dX10_seen_1 hl (by decide) rfl (fun ls hl => ?_)
  refine lv_iconst (v := (0 : Int32)) hx hb dX10_seen_3 (by decide) ?_
  refine lv_istore (lv' := [(6, .int (0 : Int32)), (5, .int x2), (0, .ref a0), (1, .int x1), (2, .int x2), (3, .int x3), (4, .int x4)]) hx hb dX10_seen_4 hl (by decide) rfl (fun ls hl => ?_)
  have lp6_17 : ∀ (n : Nat) (v1 : Int32) (v2 : Int32) (H : Heap) (locs : List Loc) (ls : Array Slot) (r3 : Int32), mm_W D cs A L K N s.heap I P H locs → lv_has ls 9 [(0, .ref a0), (1, .int x1), (3, .int x3), (4, .int x4), (5, .int v1), (6, .int v2)] → fn_X10_seen_L6 K N a0 x1 x3 x4 I P n v1 v2 = some r3 → (∀ (H : Heap) (locs : List Loc) (ls : Array Slot), mm_W D cs A L K N s.heap I P H locs → lv_has ls 9 [(5, .int r3)] → W p l e (headSpec wz_X10_seen rm_X10_seen).room s m ([.ref a0, .int x1, .int x2, .int x3, .int x4] : List Value).toArray below meth c H locs 0 0 QQ (F0 m 128 ls [])) → W p l e (headSpec wz_X10_seen rm_X10_seen).room s m ([.ref a0, .int x1, .int x2, .int x3, .int x4] : List Value).toArray below meth c H locs 0 0 QQ (F0 m 6 ls []) := by
    intro n
    induction n with
    | zero => intro v1 v2 H locs ls r3 hM hl hf kk; exact nn_x (show (none : Option (Int32)) = some r3 from hf)
    | succ n ih =>
      intro v1 v2 H locs ls r3 hM hl hf kk
      rw [fn_X10_seen_L6] at hf
      refine lv_iload hx hb dX10_seen_6 (lv_at hl 5 rfl) ?_
      refine lv_aload_n hx hb dX10_seen_8 rfl (lv_at hl 0 rfl) ?_
      refine gd_e hf (fun hg4 hf => ?_)
      refine bd_e hf (fun q5 eq5 hf => ?_)
      refine ev_getP (v := q5) S hK hM (ci := 10) (n := 23) (C := RX10) (T := TX10) hin10 rfl hg4 0 (by decide) lk9 rfl rfl eq5 rfl dX10_seen_9 ?_
      refine lv_iconst (v := (0 : Int32)) hx hb dX10_seen_12 (by decide) ?_
      refine gd_e hf (fun hg6 hf => ?_)
      refine ev_iald S hK hM hg6 (j := 0) rfl dX10_seen_13 ?_
      refine lv_icmp_ge (tgt := 128) hx hb dX10_seen_14 (by decide) (fun hc7 => ?_) (fun hc7 => ?_)
      · have hf := it_p hf hc7
        obtain rfl := Option.some.inj hf
        exact kk _ _ _ hM (lv_sub hl [4] rfl)
      · have hf := it_n hf hc7
        refine lv_aload_n hx hb dX10_seen_17 rfl (lv_at hl 0 rfl) ?_
        refine ev_getP (v := q5) S hK hM (ci := 10) (n := 23) (C := RX10) (T := TX10) hin10 rfl hg4 0 (by decide) lk9 rfl rfl eq5 rfl dX10_seen_18 ?_
        refine lv_sipush (v := (788 : Int32)) hx hb dX10_seen_21 (by decide) ?_
        refine lv_sipush (v := (192 : Int32)) hx hb dX10_seen_24 (by decide) ?_
        refine lv_iload hx hb dX10_seen_27 (lv_at hl 5 rfl) ?_
        refine lv_imul hx hb dX10_seen_29 ?_
        refine lv_iadd hx hb dX10_seen_30 ?_
        refine lv_iload_n hx hb dX10_seen_31 rfl (lv_at hl 1 rfl) ?_
        refine lv_iadd hx hb dX10_seen_32 ?_
        refine gd_e hf (fun hg8 hf => ?_)
        refine ev_iald S hK hM hg8 (j := ((((788 : Int32) + ((192 : Int32) * v2)) + x1)).toNatClampNeg) rfl dX10_seen_33 ?_
        refine lv_aload_n hx hb dX10_seen_34 rfl (lv_at hl 0 rfl) ?_
        refine ev_getP (v := q5) S hK hM (ci := 10) (n := 23) (C := RX10) (T := TX10) hin10 rfl hg4 0 (by decide) lk9 rfl rfl eq5 rfl dX10_seen_35 ?_
        refine lv_bipush (v := (16 : Int32)) hx hb dX10_seen_38 (by decide) ?_
        refine lv_iload hx hb dX10_seen_40 (lv_at hl 5 rfl) ?_
        refine lv_iadd hx hb dX10_seen_42 ?_
        refine gd_e hf (fun hg9 hf => ?_)
        refine ev_iald S hK hM hg9 (j := (((16 : Int32) + v2)).toNatClampNeg) rfl dX10_seen_43 ?_
        refine lv_imul hx hb dX10_seen_44 ?_
        refine lv_sipush (v := (255 : Int32)) hx hb dX10_seen_45 (by decide) ?_
        refine lv_idiv hx hb dX10_seen_48 (by decide) ?_
        refine lv_topi (fun v10 ev10 => ?_)
        have hf := nm_x ev10 hf
        refine lv_istore (lv' := [(7, .int v10), (0, .ref a0), (1, .int x1), (3, .int x3), (4, .int x4), (5, .int v1), (6, .int v2)]) hx hb dX10_seen_49 hl (by decide) rfl (fun ls hl => ?_)
        refine lv_iload hx hb dX10_seen_51 (lv_at hl 6 rfl) ?_
        refine lv_iload_n hx hb dX10_seen_53 rfl (lv_at hl 3 rfl) ?_
        refine bd_e hf (fun j12 ej12 hf => ?_)
        have kj12 : ∀ (H : Heap) (locs : List Loc) (ls : Array Slot), mm_W D cs A L K N s.heap I P H locs → lv_has ls 9 [(0, .ref a0), (1, .int x1), (3, .int x3), (4, .int x4), (5, .int v1), (6, .int v2), (7, .int v10)] → W p l e (headSpec wz_X10_seen rm_X10_seen).room s m ([.ref a0, .int x1, .int x2, .int x3, .int x4] : List Value).toArray below meth c H locs 0 0 QQ (F0 m 72 ls [.int j12]) := by
          intro H locs ls hM hl
          refine lv_aload_n hx hb dX10_seen_72 rfl (lv_at hl 0 rfl) ?_
          refine ev_getP (v := q5) S hK hM (ci := 10) (n := 23) (C := RX10) (T := TX10) hin10 rfl hg4 0 (by decide) lk9 rfl rfl eq5 rfl dX10_seen_73 ?_
          refine lv_bipush (v := (12 : Int32)) hx hb dX10_seen_76 (by decide) ?_
          refine lv_iload hx hb dX10_seen_78 (lv_at hl 5 rfl) ?_
          refine lv_iadd hx hb dX10_seen_80 ?_
          refine gd_e hf (fun hg13 hf => ?_)
          refine ev_iald S hK hM hg13 (j := (((12 : Int32) + v2)).toNatClampNeg) rfl dX10_seen_81 ?_
          refine lv_iload hx hb dX10_seen_82 (lv_at hl 4 rfl) ?_
          refine lv_aload_n hx hb dX10_seen_84 rfl (lv_at hl 0 rfl) ?_
          refine ev_getP (v := q5) S hK hM (ci := 10) (n := 23) (C := RX10) (T := TX10) hin10 rfl hg4 0 (by decide) lk9 rfl rfl eq5 rfl dX10_seen_85 ?_
          refine lv_bipush (v := (20 : Int32)) hx hb dX10_seen_88 (by decide) ?_
          refine lv_sipush (v := (192 : Int32)) hx hb dX10_seen_90 (by decide) ?_
          refine lv_iload hx hb dX10_seen_93 (lv_at hl 5 rfl) ?_
          refine lv_imul hx hb dX10_seen_95 ?_
          refine lv_iadd hx hb dX10_seen_96 ?_
          refine lv_iload_n hx hb dX10_seen_97 rfl (lv_at hl 1 rfl) ?_
          refine lv_iadd hx hb dX10_seen_98 ?_
          refine gd_e hf (fun hg14 hf => ?_)
          refine ev_iald S hK hM hg14 (j := ((((20 : Int32) + ((192 : Int32) * v2)) + x1)).toNatClampNeg) rfl dX10_seen_99 ?_
          refine bd_e hf (fun r15 er15 hf => ?_)
          refine ev_calli (va_runS (As := [.int j12, .int (I q5 (((12 : Int32) + v2)).toNatClampNeg), .int v1, .int (I q5 ((((20 : Int32) + ((192 : Int32) * v2)) + x1)).toNatClampNeg)]) (rest := []) S (c_X10_blended (l := l) I P j12 (I q5 (((12 : Int32) + v2)).toNatClampNeg) v1 (I q5 ((((20 : Int32) + ((192 : Int32) * v2)) + x1)).toNatClampNeg) r15 er15) (va_cwS 4 hts (gi_s wa_5_31 wa_5_32 wa_1_11 wa_5_33) rfl rfl rfl (by decide +kernel) ⟨Nat.le_of_ble_eq_true rfl, Nat.le_of_ble_eq_true rfl⟩) ⟨mm_B_blind, fun U hU hW => ⟨rfl, mm_B_of hK hZ hM hU hW⟩⟩ rfl rfl hl.1 rfl (lv_room (Nat.le_of_ble_eq_true rfl)) dX10_seen_100 ⟨Nat.zero_le _, Nat.zero_le _⟩) hM (fun H locs hM => ?_)
          refine lv_istore (lv' := [(8, .int r15), (0, .ref a0), (1, .int x1), (3, .int x3), (4, .int x4), (5, .int v1), (6, .int v2), (7, .int v10)]) hx hb dX10_seen_103 hl (by decide) rfl (fun ls hl => ?_)
          refine lv_iload hx hb dX10_seen_105 (lv_at hl 5 rfl) ?_
          refine lv_iload hx hb dX10_seen_107 (lv_at hl 0 rfl) ?_
          refine lv_iload hx hb dX10_seen_109 (lv_at hl 5 rfl) ?_
          refine lv_isub hx hb dX10_seen_111 ?_
          refine lv_iload hx hb dX10_seen_112 (lv_at hl 7 rfl) ?_
          refine lv_imul hx hb dX10_seen_114 ?_
          refine lv_sipush (v := (255 : Int32)) hx hb dX10_seen_115 (by decide) ?_
          refine lv_idiv hx hb dX10_seen_118 (by decide) ?_
          refine lv_iadd hx hb dX10_seen_119 ?_
          refine lv_topi (fun v16 ev16 => ?_)
          have hf := nm_x ev16 hf
          refine lv_istore (lv' := [(5, .int v16), (8, .int r15), (0, .ref a0), (1, .int x1), (3, .int x3), (4, .int x4), (6, .int v2), (7, .int v10)]) hx hb dX10_seen_120 hl (by decide) rfl (fun ls hl => ?_)
          refine lv_iinc (v := (v2 + (1 : Int32))) (lv' := [(6, .int (v2 + (1 : Int32))), (5, .int v16), (8, .int r15), (0, .ref a0), (1, .int x1), (3, .int x3), (4, .int x4), (7, .int v10)]) hx hb dX10_seen_122 hl (k := 6) rfl rfl (by decide) rfl (fun ls hl => ?_)
          refine lv_goto (tgt := 6) hx hb dX10_seen_125 (by decide) ?_
          exact ih v16 (v2 + (1 : Int32)) _ _ _ _ hM (lv_sub hl [3, 4, 5, 6, 1, 0] rfl) hf kk
        have hf := ej12
        refine lv_icmp_ne (tgt := 62) hx hb dX10_seen_54 (by decide) (fun hc11 => ?_) (fun hc11 => ?_)
        · have hf := it_n hf hc11
          refine lv_aload_n hx hb dX10_seen_62 rfl (lv_at hl 1 rfl) ?_
          refine ev_getP (v := q5) S hK hM (ci := 10) (n := 23) (C := RX10) (T := TX10) hin10 rfl hg4 0 (by decide) lk9 rfl rfl eq5 rfl dX10_seen_63 ?_
          refine lv_bipush (v := (8 : Int32)) hx hb dX10_seen_66 (by decide) ?_
          refine lv_iload hx hb dX10_seen_68 (lv_at hl 6 rfl) ?_
          refine lv_iadd hx hb dX10_seen_70 ?_
          refine gd_e hf (fun hg17 hf => ?_)
          refine ev_iald S hK hM hg17 (j := (((8 : Int32) + v2)).toNatClampNeg) rfl dX10_seen_71 ?_
          obtain rfl := Option.some.inj hf
          exact kj12 _ _ _ hM (lv_sub hl [1, 2, 3, 4, 5, 6, 0] rfl)
        · have hf := it_p hf hc11
          refine lv_iload hx hb dX10_seen_57 (lv_at hl 4 rfl) ?_
          refine lv_goto (tgt := 72) hx hb dX10_seen_59 (by decide) ?_
          obtain rfl := Option.some.inj hf
          exact kj12 _ _ _ hM (lv_sub hl [1, 2, 3, 4, 5, 6, 0] rfl)
  refine bd_e hf (fun r3 er3 hf => ?_)
  refine lp6_17 FU x2 (0 : Int32) _ _ _ r3 hM (lv_sub hl [2, 3, 5, 6, 1, 0] rfl) er3 (fun H locs ls hM hl => ?_)
  refine lv_iload hx hb dX10_seen_128 (lv_at hl 0 rfl) ?_
  obtain rfl := Option.some.inj hf
  subst hQ
  exact ev_iret S hr hlocks hK hZ hM dX10_seen_130
noncomputable def fn_X10_seen_ (K N : Nat → Nat) (I : Nat → Nat → Int32) (P : Nat → Nat → Option Nat) (a0 : Nat) (x1 : Int32) : Option (Int32) := gd (K a0 = 11) (Option.bind (P a0 (0)) (fun q2 => gd (K q2 = 12 ∧ vp_in (1 : Int32) (N q2)) (Option.bind (fn_X10_seen K N I P a0 x1 (I q2 (1)) (-1 : Int32) (0 : Int32)) (fun (r4 : Int32) => some r4))))
abbrev wz_X10_seen_ : List Cond := Cond.code yX10_seen_ cX10_seen_ 2 (some .int) :: WA
abbrev rm_X10_seen_ : Room := { frames := 4, cells := 0, slots := 0, locals := 81 }
set_option maxHeartbeats 4000000 in
set_option maxRecDepth 100000 in
theorem c_X10_seen_ (I : Nat → Nat → Int32) (P : Nat → Nat → Option Nat) (a0 : Nat) (x1 : Int32) (res : Int32) (hf : fn_X10_seen_ K N I P a0 x1 = some res) : Met l yX10_seen_ wz_X10_seen_ rm_X10_seen_ (va_Pc [.ref a0, .int x1] (mm_B D cs A L K N z w I P)) (va_Qi (fun r (_ : Unit) => r = res) (fun _ => mm_B D cs A L K N z w I P) A) 0 0 A := by
  refine Met.ofW (cc := cX10_seen_) (maxL := 2) (ret := (some .int)) (by decide) rfl ?_
  intro p e s m args below meth c s₁ B hml hv
  obtain ⟨rfl, hBm⟩ := hv
  have hx := B.exec
  have hb := B.bytes
  have hr := B.returns
  have hts := atoms_spec (ws := wz_X10_seen_) B.pre
  have hWA : ∀ w ∈ WA, w.before ([.ref a0, .int x1] : List Value).toArray s = true := fun u9 h9 => hts u9 (List.mem_cons_of_mem _ h9)
  have hown : s.vm.findClass RX10 = some m.cls := findClass_of_methodNamed B.named
  have hlocks := B.notSynchronized
  have S : CallFix p m c cX10_seen_ 2 s ([.ref a0, .int x1] : List Value).toArray wz_X10_seen_ RX10 := ⟨hx, hb, hml, hown, hts⟩
  have hK := hBm.2.2.2.1
  have hZ := hBm.2.2.2.2
  have hM : mm_W D cs A L K N s.heap I P s.heap [] := ⟨hBm.1, hBm.2.1, hBm.2.2.1, va_S.rf⟩
  have hl := lv_entry ([.ref a0, .int x1]) (n := 2) (Nat.le_of_ble_eq_true rfl)
  rw [lg_entry_eq]
  generalize (lg_sl ([.ref a0, .int x1]) ++ List.replicate (2 - (lg_sl ([.ref a0, .int x1])).length) Slot.unset).toArray = ls at hl ⊢
  have hl : lv_has ls 2 [(0, .ref a0), (1, .int x1)] := hl
  have hin10 : ∀ w ∈ wsX100, w ∈ wz_X10_seen_ := fun w h => List.mem_cons_of_mem _ (wu_X10 w h)
  have lk9 : (Cond.fieldLink RX10 9 RX10 "g" "[I").before ([.ref a0, .int x1] : List Value).toArray s = true := hWA _ wa_4_141
  generalize hQ : MQ below (va_Qi (fun r (_ : Unit) => r = res) (fun _ => mm_B D cs A L K N z w I P) A) ([.ref a0, .int x1] : List Value).toArray s 0 0 A = QQ
  rw [fn_X10_seen_] at hf
  refine lv_aload_n hx hb dX10_seen__0 rfl (lv_at hl 0 rfl) ?_
  refine lv_iload_n hx hb dX10_seen__1 rfl (lv_at hl 1 rfl) ?_
  refine lv_aload_n hx hb dX10_seen__2 rfl (lv_at hl 0 rfl) ?_
  refine gd_e hf (fun hg1 hf => ?_)
  refine bd_e hf (fun q2 eq2 hf => ?_)
  refine ev_getP (v := q2) S hK hM (ci := 10) (n := 23) (C := RX10) (T := TX10) hin10 rfl hg1 0 (by decide) lk9 rfl rfl eq2 rfl dX10_seen__3 ?_
  refine lv_iconst (v := (1 : Int32)) hx hb dX10_seen__6 (by decide) ?_
  refine gd_e hf (fun hg3 hf => ?_)
  refine ev_iald S hK hM hg3 (j := 1) rfl dX10_seen__7 ?_
  refine lv_iconst (v := (-1 : Int32)) hx hb dX10_seen__8 (by decide) ?_
  refine lv_iconst (v := (0 : Int32)) hx hb dX10_seen__9 (by decide) ?_
  refine bd_e hf (fun r4 er4 hf => ?_)
  refine ev_calli (va_runV (As := [.int x1, .int (I q2 (1)), .int (-1 : Int32), .int (0 : Int32)]) (rest := []) S (c_X10_seen (l := l) I P a0 x1 (I q2 (1)) (-1 : Int32) (0 : Int32) r4 er4) (cwV 4 hts (gi_v wa_5_50 wa_5_52 wa_s_33 wa_1_11 wa_5_53) rfl rfl rfl (by decide +kernel) ⟨Nat.le_of_ble_eq_true rfl, Nat.le_of_ble_eq_true rfl⟩) ⟨mm_B_blind, ev_recv hK hM (ci := 10) rfl hg1 rfl, fun U hU hW => ⟨rfl, mm_B_of hK hZ hM hU hW⟩⟩ rfl rfl hl.1 rfl (lv_room (Nat.le_of_ble_eq_true rfl)) dX10_seen__10 ⟨Nat.zero_le _, Nat.zero_le _⟩) hM (fun H locs hM => ?_)
  obtain rfl := Option.some.inj hf
  subst hQ
  exact ev_iret S hr hlocks hK hZ hM dX10_seen__13
noncomputable def fn_X10_isDress (x0 : Int32) (x1 : Int32) (x2 : Int32) : Option (Int32) := Option.bind (fn_X10_isIn x0 (0 : Int32) (5 : Int32)) (fun (r1 : Int32) => if r1 = 0 then (some (0 : Int32)) else (Option.bind (fn_X10_isIn x1 (0 : Int32) (99 : Int32)) (fun (r3 : Int32) => if r3 = 0 then (some (0 : Int32)) else (Option.bind (fn_X10_isByte x2) (fun (r5 : Int32) => if r5 = 0 then (some (0 : Int32)) else (some (1 : Int32)))))))
abbrev wz_X10_isDress : List Cond := Cond.code yX10_isDress cX10_isDress 3 (some .boolean) :: WA
abbrev rm_X10_isDress : Room := { frames := 3, cells := 0, slots := 0, locals := 54 }
set_option maxHeartbeats 4000000 in
set_option maxRecDepth 100000 in
theorem c_X10_isDress (I : Nat → Nat → Int32) (P : Nat → Nat → Option Nat) (x0 : Int32) (x1 : Int32) (x2 : Int32) (res : Int32) (hf : fn_X10_isDress x0 x1 x2 = some res) : Met l yX10_isDress wz_X10_isDress rm_X10_isDress (va_Pc [.int x0, .int x1, .int x2] (mm_B D cs A L K N z w I P)) (va_Qi (fun r (_ : Unit) => r = res) (fun _ => mm_B D cs A L K N z w I P) A) 0 0 A := by
  refine Met.ofW (cc := cX10_isDress) (maxL := 3) (ret := (some .boolean)) (by decide) rfl ?_
  intro p e s m args below meth c s₁ B hml hv
  obtain ⟨rfl, hBm⟩ := hv
  have hx := B.exec
  have hb := B.bytes
  have hr := B.returns
  have hts := atoms_spec (ws := wz_X10_isDress) B.pre
  have hWA : ∀ w ∈ WA, w.before ([.int x0, .int x1, .int x2] : List Value).toArray s = true := fun u9 h9 => hts u9 (List.mem_cons_of_mem _ h9)
  have hown : s.vm.findClass RX10 = some m.cls := findClass_of_methodNamed B.named
  have hlocks := B.notSynchronized
  have S : CallFix p m c cX10_isDress 3 s ([.int x0, .int x1, .int x2] : List Value).toArray wz_X10_isDress RX10 := ⟨hx, hb, hml, hown, hts⟩
  have hK := hBm.2.2.2.1
  have hZ := hBm.2.2.2.2
  have hM : mm_W D cs A L K N s.heap I P s.heap [] := ⟨hBm.1, hBm.2.1, hBm.2.2.1, va_S.rf⟩
  have hl := lv_entry ([.int x0, .int x1, .int x2]) (n := 3) (Nat.le_of_ble_eq_true rfl)
  rw [lg_entry_eq]
  generalize (lg_sl ([.int x0, .int x1, .int x2]) ++ List.replicate (3 - (lg_sl ([.int x0, .int x1, .int x2])).length) Slot.unset).toArray = ls at hl ⊢
  have hl : lv_has ls 3 [(0, .int x0), (1, .int x1), (2, .int x2)] := hl
  generalize hQ : MQ below (va_Qi (fun r (_ : Unit) => r = res) (fun _ => mm_B D cs A L K N z w I P) A) ([.int x0, .int x1, .int x2] : List Value).toArray s 0 0 A = QQ
  unfold fn_X10_isDress at hf
  refine lv_iload_n hx hb dX10_isDress_0 rfl (lv_at hl 0 rfl) ?_
  refine lv_iconst (v := (0 : Int32)) hx hb dX10_isDress_1 (by decide) ?_
  refine lv_iconst (v := (5 : Int32)) hx hb dX10_isDress_2 (by decide) ?_
  refine bd_e hf (fun r1 er1 hf => ?_)
  refine ev_calli (va_runS (As := [.int x0, .int (0 : Int32), .int (5 : Int32)]) (rest := []) S (c_X10_isIn (l := l) I P x0 (0 : Int32) (5 : Int32) r1 er1) (va_cwS 3 hts (gi_s wa_4_218 wa_4_219 wa_1_11 wa_4_220) rfl rfl rfl (by decide +kernel) ⟨Nat.le_of_ble_eq_true rfl, Nat.le_of_ble_eq_true rfl⟩) ⟨mm_B_blind, fun U hU hW => ⟨rfl, mm_B_of hK hZ hM hU hW⟩⟩ rfl rfl hl.1 rfl (lv_room (Nat.le_of_ble_eq_true rfl)) dX10_isDress_3 ⟨Nat.zero_le _, Nat.zero_le _⟩) hM (fun H locs hM => ?_)
  refine lv_if_eq (tgt := 30) hx hb dX10_isDress_6 (by decide) (fun hc2 => ?_) (fun hc2 => ?_)
  · have hf := it_p hf hc2
    refine lv_iconst (v := (0 : Int32)) hx hb dX10_isDress_30 (by decide) ?_
    obtain rfl := Option.some.inj hf
    subst hQ
    exact ev_zret (v := (0 : Int32)) S hr hlocks hK hZ hM rfl dX10_isDress_31
  · have hf := it_n hf hc2
    refine lv_iload_n hx hb dX10_isDress_9 rfl (lv_at hl 1 rfl) ?_
    refine lv_iconst (v := (0 : Int32)) hx hb dX10_isDress_10 (by decide) ?_
    refine lv_bipush (v := (99 : Int32)) hx hb dX10_isDress_11 (by decide) ?_
    refine bd_e hf (fun r3 er3 hf => ?_)
    refine ev_calli (va_runS (As := [.int x1, .int (0 : Int32), .int (99 : Int32)]) (rest := []) S (c_X10_isIn (l := l) I P x1 (0 : Int32) (99 : Int32) r3 er3) (va_cwS 3 hts (gi_s wa_4_218 wa_4_219 wa_1_11 wa_4_220) rfl rfl rfl (by decide +kernel) ⟨Nat.le_of_ble_eq_true rfl, Nat.le_of_ble_eq_true rfl⟩) ⟨mm_B_blind, fun U hU hW => ⟨rfl, mm_B_of hK hZ hM hU hW⟩⟩ rfl rfl hl.1 rfl (lv_room (Nat.le_of_ble_eq_true rfl)) dX10_isDress_13 ⟨Nat.zero_le _, Nat.zero_le _⟩) hM (fun H locs hM => ?_)
    refine lv_if_eq (tgt := 30) hx hb dX10_isDress_16 (by decide) (fun hc4 => ?_) (fun hc4 => ?_)
    · have hf := it_p hf hc4
      refine lv_iconst (v := (0 : Int32)) hx hb dX10_isDress_30 (by decide) ?_
      obtain rfl := Option.some.inj hf
      subst hQ
      exact ev_zret (v := (0 : Int32)) S hr hlocks hK hZ hM rfl dX10_isDress_31
    · have hf := it_n hf hc4
      refine lv_iload_n hx hb dX10_isDress_19 rfl (lv_at hl 2 rfl) ?_
      refine bd_e hf (fun r5 er5 hf => ?_)
      refine ev_calli (va_runS (As := [.int x2]) (rest := []) S (c_X10_isByte (l := l) I P x2 r5 er5) (va_cwS 1 hts (gi_s wa_4_221 wa_4_222 wa_1_11 wa_4_223) rfl rfl rfl (by decide +kernel) ⟨Nat.le_of_ble_eq_true rfl, Nat.le_of_ble_eq_true rfl⟩) ⟨mm_B_blind, fun U hU hW => ⟨rfl, mm_B_of hK hZ hM hU hW⟩⟩ rfl rfl hl.1 rfl (lv_room (Nat.le_of_ble_eq_true rfl)) dX10_isDress_20 ⟨Nat.zero_le _, Nat.zero_le _⟩) hM (fun H locs hM => ?_)
      refine lv_if_eq (tgt := 30) hx hb dX10_isDress_23 (by decide) (fun hc6 => ?_) (fun hc6 => ?_)
      · have hf := it_p hf hc6
        refine lv_iconst (v := (0 : Int32)) hx hb dX10_isDress_30 (by decide) ?_
        obtain rfl := Option.some.inj hf
        subst hQ
        exact ev_zret (v := (0 : Int32)) S hr hlocks hK hZ hM rfl dX10_isDress_31
      · have hf := it_n hf hc6
        refine lv_iconst (v := (1 : Int32)) hx hb dX10_isDress_26 (by decide) ?_
        refine lv_goto (tgt := 31) hx hb dX10_isDress_27 (by decide) ?_
        obtain rfl := Option.some.inj hf
        subst hQ
        exact ev_zret (v := (1 : Int32)) S hr hlocks hK hZ hM rfl dX10_isDress_31
noncomputable def fn_X10_noActs (K N : Nat → Nat) (I : Nat → Nat → Int32) (P : Nat → Nat → Option Nat) (a0 : Nat) : Option ((Nat → Nat → Int32)) := gd (K a0 = 11) (Option.bind (P a0 (0)) (fun q2 => gd (K q2 = 12 ∧ vp_in (6 : Int32) (N q2)) (Option.bind (some (up2 I q2 (6) (0 : Int32))) (fun I4 => gd (K q2 = 12 ∧ vp_in (7 : Int32) (N q2)) (Option.bind (some (up2 I4 q2 (7) (0 : Int32))) (fun I6 => some I6))))))
abbrev wz_X10_noActs : List Cond := Cond.code yX10_noActs cX10_noActs 1 none :: WA
abbrev rm_X10_noActs : Room := { frames := 1, cells := 0, slots := 0, locals := 12 }
set_option maxHeartbeats 4000000 in
set_option maxRecDepth 100000 in
theorem c_X10_noActs (I : Nat → Nat → Int32) (P : Nat → Nat → Option Nat) (a0 : Nat) (res : (Nat → Nat → Int32)) (hf : fn_X10_noActs K N I P a0 = some res) : Met l yX10_noActs wz_X10_noActs rm_X10_noActs (va_Pc [.ref a0] (mm_B D cs A L K N z w I P)) (va_Qv (fun (_ : Unit) => True) (fun _ => mm_B D cs A L K N z w res P) A) 0 0 A := by
  refine Met.ofW (cc := cX10_noActs) (maxL := 1) (ret := none) (by decide) rfl ?_
  intro p e s m args below meth c s₁ B hml hv
  obtain ⟨rfl, hBm⟩ := hv
  have hx := B.exec
  have hb := B.bytes
  have hr := B.returns
  have hts := atoms_spec (ws := wz_X10_noActs) B.pre
  have hWA : ∀ w ∈ WA, w.before ([.ref a0] : List Value).toArray s = true := fun u9 h9 => hts u9 (List.mem_cons_of_mem _ h9)
  have hown : s.vm.findClass RX10 = some m.cls := findClass_of_methodNamed B.named
  have hlocks := B.notSynchronized
  have S : CallFix p m c cX10_noActs 1 s ([.ref a0] : List Value).toArray wz_X10_noActs RX10 := ⟨hx, hb, hml, hown, hts⟩
  have hK := hBm.2.2.2.1
  have hZ := hBm.2.2.2.2
  have hM : mm_W D cs A L K N s.heap I P s.heap [] := ⟨hBm.1, hBm.2.1, hBm.2.2.1, va_S.rf⟩
  have hl := lv_entry ([.ref a0]) (n := 1) (Nat.le_of_ble_eq_true rfl)
  rw [lg_entry_eq]
  generalize (lg_sl ([.ref a0]) ++ List.replicate (1 - (lg_sl ([.ref a0])).length) Slot.unset).toArray = ls at hl ⊢
  have hl : lv_has ls 1 [(0, .ref a0)] := hl
  have hin10 : ∀ w ∈ wsX100, w ∈ wz_X10_noActs := fun w h => List.mem_cons_of_mem _ (wu_X10 w h)
  have lk9 : (Cond.fieldLink RX10 9 RX10 "g" "[I").before ([.ref a0] : List Value).toArray s = true := hWA _ wa_4_141
  generalize hQ : MQ below (va_Qv (fun (_ : Unit) => True) (fun _ => mm_B D cs A L K N z w res P) A) ([.ref a0] : List Value).toArray s 0 0 A = QQ
  rw [fn_X10_noActs] at hf
  refine lv_aload_n hx hb dX10_noActs_0 rfl (lv_at hl 0 rfl) ?_
  refine gd_e hf (fun hg1 hf => ?_)
  refine bd_e hf (fun q2 eq2 hf => ?_)
  refine ev_getP (v := q2) S hK hM (ci := 10) (n := 23) (C := RX10) (T := TX10) hin10 rfl hg1 0 (by decide) lk9 rfl rfl eq2 rfl dX10_noActs_1 ?_
  refine lv_bipush (v := (6 : Int32)) hx hb dX10_noActs_4 (by decide) ?_
  refine lv_iconst (v := (0 : Int32)) hx hb dX10_noActs_6 (by decide) ?_
  refine gd_e hf (fun hg3 hf => ?_)
  refine ev_iast S hK hM hg3 (j := 6) rfl dX10_noActs_7 (fun I4 eI4 H locs hM => ?_)
  have hf := nm_x eI4 hf
  refine lv_aload_n hx hb dX10_noActs_8 rfl (lv_at hl 0 rfl) ?_
  refine ev_getP (v := q2) S hK hM (ci := 10) (n := 23) (C := RX10) (T := TX10) hin10 rfl hg1 0 (by decide) lk9 rfl rfl eq2 rfl dX10_noActs_9 ?_
  refine lv_bipush (v := (7 : Int32)) hx hb dX10_noActs_12 (by decide) ?_
  refine lv_iconst (v := (0 : Int32)) hx hb dX10_noActs_14 (by decide) ?_
  refine gd_e hf (fun hg5 hf => ?_)
  refine ev_iast S hK hM hg5 (j := 7) rfl dX10_noActs_15 (fun I6 eI6 H locs hM => ?_)
  have hf := nm_x eI6 hf
  obtain rfl := Option.some.inj hf
  subst hQ
  exact ev_vret S hr hlocks hK hZ hM dX10_noActs_16
noncomputable def fn_X10_layer_L65 (K : Nat → Nat) (N : Nat → Nat) (q4 : Nat) (v6 : Int32) : Nat → Int32 → (Nat → Nat → Int32) → Option ((Nat → Nat → Int32))
  | 0, _, _ => none
  | n + 1, v14, I15 => if (192 : Int32) ≤ v14 then (some I15) else (gd (K q4 = 12 ∧ vp_in (((20 : Int32) + ((192 : Int32) * v6)) + v14) (N q4)) (Option.bind (some (up2 I15 q4 ((((20 : Int32) + ((192 : Int32) * v6)) + v14)).toNatClampNeg (0 : Int32))) (fun I19 => gd (K q4 = 12 ∧ vp_in (((788 : Int32) + ((192 : Int32) * v6)) + v14) (N q4)) (Option.bind (some (up2 I19 q4 ((((788 : Int32) + ((192 : Int32) * v6)) + v14)).toNatClampNeg (0 : Int32))) (fun I21 => fn_X10_layer_L65 K N q4 v6 n (v14 + (1 : Int32)) I21)))))
noncomputable def fn_X10_layer (K N : Nat → Nat) (I : Nat → Nat → Int32) (P : Nat → Nat → Option Nat) (a0 : Nat) (x1 : Int32) (x2 : Int32) (x3 : Int32) : Option (Int32 × (Nat → Nat → Int32)) := Option.bind (fn_X10_isDress x1 x2 x3) (fun (r1 : Int32) => if r1 = 0 then (some ((-2 : Int32), I)) else (gd (K a0 = 11) (Option.bind (P a0 (0)) (fun q4 => gd (K q4 = 12 ∧ vp_in (0 : Int32) (N q4)) (Option.bind (some (I q4 (0))) (fun v6 => if v6 = (4 : Int32) then (some ((-4 : Int32), I)) else (gd (K q4 = 12 ∧ vp_in ((8 : Int32) + v6) (N q4)) (Option.bind (some (up2 I q4 (((8 : Int32) + v6)).toNatClampNeg x1)) (fun I9 => gd (K q4 = 12 ∧ vp_in ((12 : Int32) + v6) (N q4)) (Option.bind (some (up2 I9 q4 (((12 : Int32) + v6)).toNatClampNeg x2)) (fun I11 => gd (K q4 = 12 ∧ vp_in ((16 : Int32) + v6) (N q4)) (Option.bind (some (up2 I11 q4 (((16 : Int32) + v6)).toNatClampNeg x3)) (fun I13 => Option.bind (fn_X10_layer_L65 K N q4 v6 FU (0 : Int32) I13) (fun (r16 : (Nat → Nat → Int32)) => Option.bind (some (up2 r16 q4 (0) ((r16 q4 (0)) + (1 : Int32)))) (fun I22 => Option.bind (fn_X10_noActs K N I22 P a0) (fun (r23 : (Nat → Nat → Int32)) => some (v6, r23)))))))))))))))))
abbrev wz_X10_layer : List Cond := Cond.code yX10_layer cX10_layer 6 (some .int) :: WA
abbrev rm_X10_layer : Room := { frames := 4, cells := 0, slots := 0, locals := 76 }
set_option maxHeartbeats 4000000 in
set_option maxRecDepth 100000 in
theorem c_X10_layer (I : Nat → Nat → Int32) (P : Nat → Nat → Option Nat) (a0 : Nat) (x1 : Int32) (x2 : Int32) (x3 : Int32) (res : Int32 × (Nat → Nat → Int32)) (hf : fn_X10_layer K N I P a0 x1 x2 x3 = some res) : Met l yX10_layer wz_X10_layer rm_X10_layer (va_Pc [.ref a0, .int x1, .int x2, .int x3] (mm_B D cs A L K N z w I P)) (va_Qi (fun r (_ : Unit) => r = res.1) (fun _ => mm_B D cs A L K N z w res.2 P) A) 0 0 A := by
  refine Met.ofW (cc := cX10_layer) (maxL := 6) (ret := (some .int)) (by decide) rfl ?_
  intro p e s m args below meth c s₁ B hml hv
  obtain ⟨rfl, hBm⟩ := hv
  have hx := B.exec
  have hb := B.bytes
  have hr := B.returns
  have hts := atoms_spec (ws := wz_X10_layer) B.pre
  have hWA : ∀ w ∈ WA, w.before ([.ref a0, .int x1, .int x2, .int x3] : List Value).toArray s = true := fun u9 h9 => hts u9 (List.mem_cons_of_mem _ h9)
  have hown : s.vm.findClass RX10 = some m.cls := findClass_of_methodNamed B.named
  have hlocks := B.notSynchronized
  have S : CallFix p m c cX10_layer 6 s ([.ref a0, .int x1, .int x2, .int x3] : List Value).toArray wz_X10_layer RX10 := ⟨hx, hb, hml, hown, hts⟩
  have hK := hBm.2.2.2.1
  have hZ := hBm.2.2.2.2
  have hM : mm_W D cs A L K N s.heap I P s.heap [] := ⟨hBm.1, hBm.2.1, hBm.2.2.1, va_S.rf⟩
  have hl := lv_entry ([.ref a0, .int x1, .int x2, .int x3]) (n := 6) (Nat.le_of_ble_eq_true rfl)
  rw [lg_entry_eq]
  generalize (lg_sl ([.ref a0, .int x1, .int x2, .int x3]) ++ List.replicate (6 - (lg_sl ([.ref a0, .int x1, .int x2, .int x3])).length) Slot.unset).toArray = ls at hl ⊢
  have hl : lv_has ls 6 [(0, .ref a0), (1, .int x1), (2, .int x2), (3, .int x3)] := hl
  have hin10 : ∀ w ∈ wsX100, w ∈ wz_X10_layer := fun w h => List.mem_cons_of_mem _ (wu_X10 w h)
  have lk9 : (Cond.fieldLink RX10 9 RX10 "g" "[I").before ([.ref a0, .int x1, .int x2, .int x3] : List Value).toArray s = true := hWA _ wa_4_141
  generalize hQ : MQ below (va_Qi (fun r (_ : Unit) => r = res.1) (fun _ => mm_B D cs A L K N z w res.2 P) A) ([.ref a0, .int x1, .int x2, .int x3] : List Value).toArray s 0 0 A = QQ
  rw [fn_X10_layer] at hf
  refine lv_iload_n hx hb dX10_layer_0 rfl (lv_at hl 1 rfl) ?_
  refine lv_iload_n hx hb dX10_layer_1 rfl (lv_at hl 2 rfl) ?_
  refine lv_iload_n hx hb dX10_layer_2 rfl (lv_at hl 3 rfl) ?_
  refine bd_e hf (fun r1 er1 hf => ?_)
  refine ev_calli (va_runS (As := [.int x1, .int x2, .int x3]) (rest := []) S (c_X10_isDress (l := l) I P x1 x2 x3 r1 er1) (va_cwS 3 hts (gi_s wa_4_215 wa_4_216 wa_1_11 wa_4_217) rfl rfl rfl (by decide +kernel) ⟨Nat.le_of_ble_eq_true rfl, Nat.le_of_ble_eq_true rfl⟩) ⟨mm_B_blind, fun U hU hW => ⟨rfl, mm_B_of hK hZ hM hU hW⟩⟩ rfl rfl hl.1 rfl (lv_room (Nat.le_of_ble_eq_true rfl)) dX10_layer_3 ⟨Nat.zero_le _, Nat.zero_le _⟩) hM (fun H locs hM => ?_)
  refine lv_if_ne (tgt := 12) hx hb dX10_layer_6 (by decide) (fun hc2 => ?_) (fun hc2 => ?_)
  · have hf := it_n hf hc2
    refine lv_aload_n hx hb dX10_layer_12 rfl (lv_at hl 0 rfl) ?_
    refine gd_e hf (fun hg3 hf => ?_)
    refine bd_e hf (fun q4 eq4 hf => ?_)
    refine ev_getP (v := q4) S hK hM (ci := 10) (n := 23) (C := RX10) (T := TX10) hin10 rfl hg3 0 (by decide) lk9 rfl rfl eq4 rfl dX10_layer_13 ?_
    refine lv_iconst (v := (0 : Int32)) hx hb dX10_layer_16 (by decide) ?_
    refine gd_e hf (fun hg5 hf => ?_)
    refine ev_iald S hK hM hg5 (j := 0) rfl dX10_layer_17 ?_
    refine lv_topi (fun v6 ev6 => ?_)
    have hf := nm_x ev6 hf
    refine lv_istore (lv' := [(4, .int v6), (0, .ref a0), (1, .int x1), (2, .int x2), (3, .int x3)]) hx hb dX10_layer_18 hl (by decide) rfl (fun ls hl => ?_)
    refine lv_iload hx hb dX10_layer_20 (lv_at hl 0 rfl) ?_
    refine lv_iconst (v := (4 : Int32)) hx hb dX10_layer_22 (by decide) ?_
    refine lv_icmp_ne (tgt := 29) hx hb dX10_layer_23 (by decide) (fun hc7 => ?_) (fun hc7 => ?_)
    · have hf := it_n hf hc7
      refine lv_aload_n hx hb dX10_layer_29 rfl (lv_at hl 1 rfl) ?_
      refine ev_getP (v := q4) S hK hM (ci := 10) (n := 23) (C := RX10) (T := TX10) hin10 rfl hg3 0 (by decide) lk9 rfl rfl eq4 rfl dX10_layer_30 ?_
      refine lv_bipush (v := (8 : Int32)) hx hb dX10_layer_33 (by decide) ?_
      refine lv_iload hx hb dX10_layer_35 (lv_at hl 0 rfl) ?_
      refine lv_iadd hx hb dX10_layer_37 ?_
      refine lv_iload_n hx hb dX10_layer_38 rfl (lv_at hl 2 rfl) ?_
      refine gd_e hf (fun hg8 hf => ?_)
      refine ev_iast S hK hM hg8 (j := (((8 : Int32) + v6)).toNatClampNeg) rfl dX10_layer_39 (fun I9 eI9 H locs hM => ?_)
      have hf := nm_x eI9 hf
      refine lv_aload_n hx hb dX10_layer_40 rfl (lv_at hl 1 rfl) ?_
      refine ev_getP (v := q4) S hK hM (ci := 10) (n := 23) (C := RX10) (T := TX10) hin10 rfl hg3 0 (by decide) lk9 rfl rfl eq4 rfl dX10_layer_41 ?_
      refine lv_bipush (v := (12 : Int32)) hx hb dX10_layer_44 (by decide) ?_
      refine lv_iload hx hb dX10_layer_46 (lv_at hl 0 rfl) ?_
      refine lv_iadd hx hb dX10_layer_48 ?_
      refine lv_iload_n hx hb dX10_layer_49 rfl (lv_at hl 3 rfl) ?_
      refine gd_e hf (fun hg10 hf => ?_)
      refine ev_iast S hK hM hg10 (j := (((12 : Int32) + v6)).toNatClampNeg) rfl dX10_layer_50 (fun I11 eI11 H locs hM => ?_)
      have hf := nm_x eI11 hf
      refine lv_aload_n hx hb dX10_layer_51 rfl (lv_at hl 1 rfl) ?_
      refine ev_getP (v := q4) S hK hM (ci := 10) (n := 23) (C := RX10) (T := TX10) hin10 rfl hg3 0 (by decide) lk9 rfl rfl eq4 rfl dX10_layer_52 ?_
      refine lv_bipush (v := (16 : Int32)) hx hb dX10_layer_55 (by decide) ?_
      refine lv_iload hx hb dX10_layer_57 (lv_at hl 0 rfl) ?_
      refine lv_iadd hx hb dX10_layer_59 ?_
      refine lv_iload_n hx hb dX10_layer_60 rfl (lv_at hl 4 rfl) ?_
      refine gd_e hf (fun hg12 hf => ?_)
      refine ev_iast S hK hM hg12 (j := (((16 : Int32) + v6)).toNatClampNeg) rfl dX10_layer_61 (fun I13 eI13 H locs hM => ?_)
      have hf := nm_x eI13 hf
      refine lv_iconst (v := (0 : Int32)) hx hb dX10_layer_62 (by decide) ?_
      refine lv_istore (lv' := [(5, .int (0 : Int32)), (4, .int v6), (0, .ref a0), (1, .int x1), (2, .int x2), (3, .int x3)]) hx hb dX10_layer_63 hl (by decide) rfl (fun ls hl => ?_)
      have lp65_21 : ∀ (n : Nat) (v14 : Int32) (I15 : Nat → Nat → Int32) (H : Heap) (locs : List Loc) (ls : Array Slot) (r16 : (Nat → Nat → Int32)), mm_W D cs A L K N s.heap I15 P H locs → lv_has ls 6 [(0, .ref a0), (4, .int v6), (5, .int v14)] → fn_X10_layer_L65 K N q4 v6 n v14 I15 = some r16 → (∀ (H : Heap) (locs : List Loc) (ls : Array Slot), mm_W D cs A L K N s.heap r16 P H locs → lv_has ls 6 [(0, .ref a0), (4, .int v6)] → W p l e (headSpec wz_X10_layer rm_X10_layer).room s m ([.ref a0, .int x1, .int x2, .int x3] : List Value).toArray below meth c H locs 0 0 QQ (F0 m 116 ls [])) → W p l e (headSpec wz_X10_layer rm_X10_layer).room s m ([.ref a0, .int x1, .int x2, .int x3] : List Value).toArray below meth c H locs 0 0 QQ (F0 m 65 ls []) := by
        intro n
        induction n with
        | zero => intro v14 I15 H locs ls r16 hM hl hf kk; exact nn_x (show (none : Option ((Nat → Nat → Int32))) = some r16 from hf)
        | succ n ih =>
          intro v14 I15 H locs ls r16 hM hl hf kk
          rw [fn_X10_layer_L65] at hf
          refine lv_iload hx hb dX10_layer_65 (lv_at hl 2 rfl) ?_
          refine lv_sipush (v := (192 : Int32)) hx hb dX10_layer_67 (by decide) ?_
          refine lv_icmp_ge (tgt := 116) hx hb dX10_layer_70 (by decide) (fun hc17 => ?_) (fun hc17 => ?_)
          · have hf := it_p hf hc17
            obtain rfl := Option.some.inj hf
            exact kk _ _ _ hM (lv_sub hl [0, 1] rfl)
          · have hf := it_n hf hc17
            refine lv_aload_n hx hb dX10_layer_73 rfl (lv_at hl 0 rfl) ?_
            refine ev_getP (v := q4) S hK hM (ci := 10) (n := 23) (C := RX10) (T := TX10) hin10 rfl hg3 0 (by decide) lk9 rfl rfl eq4 rfl dX10_layer_74 ?_
            refine lv_bipush (v := (20 : Int32)) hx hb dX10_layer_77 (by decide) ?_
            refine lv_sipush (v := (192 : Int32)) hx hb dX10_layer_79 (by decide) ?_
            refine lv_iload hx hb dX10_layer_82 (lv_at hl 1 rfl) ?_
            refine lv_imul hx hb dX10_layer_84 ?_
            refine lv_iadd hx hb dX10_layer_85 ?_
            refine lv_iload hx hb dX10_layer_86 (lv_at hl 2 rfl) ?_
            refine lv_iadd hx hb dX10_layer_88 ?_
            refine lv_iconst (v := (0 : Int32)) hx hb dX10_layer_89 (by decide) ?_
            refine gd_e hf (fun hg18 hf => ?_)
            refine ev_iast S hK hM hg18 (j := ((((20 : Int32) + ((192 : Int32) * v6)) + v14)).toNatClampNeg) rfl dX10_layer_90 (fun I19 eI19 H locs hM => ?_)
            have hf := nm_x eI19 hf
            refine lv_aload_n hx hb dX10_layer_91 rfl (lv_at hl 0 rfl) ?_
            refine ev_getP (v := q4) S hK hM (ci := 10) (n := 23) (C := RX10) (T := TX10) hin10 rfl hg3 0 (by decide) lk9 rfl rfl eq4 rfl dX10_layer_92 ?_
            refine lv_sipush (v := (788 : Int32)) hx hb dX10_layer_95 (by decide) ?_
            refine lv_sipush (v := (192 : Int32)) hx hb dX10_layer_98 (by decide) ?_
            refine lv_iload hx hb dX10_layer_101 (lv_at hl 1 rfl) ?_
            refine lv_imul hx hb dX10_layer_103 ?_
            refine lv_iadd hx hb dX10_layer_104 ?_
            refine lv_iload hx hb dX10_layer_105 (lv_at hl 2 rfl) ?_
            refine lv_iadd hx hb dX10_layer_107 ?_
            refine lv_iconst (v := (0 : Int32)) hx hb dX10_layer_108 (by decide) ?_
            refine gd_e hf (fun hg20 hf => ?_)
            refine ev_iast S hK hM hg20 (j := ((((788 : Int32) + ((192 : Int32) * v6)) + v14)).toNatClampNeg) rfl dX10_layer_109 (fun I21 eI21 H locs hM => ?_)
            have hf := nm_x eI21 hf
            refine lv_iinc (v := (v14 + (1 : Int32))) (lv' := [(5, .int (v14 + (1 : Int32))), (0, .ref a0), (4, .int v6)]) hx hb dX10_layer_110 hl (k := 2) rfl rfl (by decide) rfl (fun ls hl => ?_)
            refine lv_goto (tgt := 65) hx hb dX10_layer_113 (by decide) ?_
            exact ih (v14 + (1 : Int32)) I21 _ _ _ _ hM (lv_sub hl [1, 2, 0] rfl) hf kk
      refine bd_e hf (fun r16 er16 hf => ?_)
      refine lp65_21 FU (0 : Int32) I13 _ _ _ r16 hM (lv_sub hl [2, 1, 0] rfl) er16 (fun H locs ls hM hl => ?_)
      refine lv_aload_n hx hb dX10_layer_116 rfl (lv_at hl 0 rfl) ?_
      refine ev_getP (v := q4) S hK hM (ci := 10) (n := 23) (C := RX10) (T := TX10) hin10 rfl hg3 0 (by decide) lk9 rfl rfl eq4 rfl dX10_layer_117 ?_
      refine lv_iconst (v := (0 : Int32)) hx hb dX10_layer_120 (by decide) ?_
      refine lv_dup2_11 hx hb dX10_layer_121 rfl rfl ?_
      refine ev_iald S hK hM hg5 (j := 0) rfl dX10_layer_122 ?_
      refine lv_iconst (v := (1 : Int32)) hx hb dX10_layer_123 (by decide) ?_
      refine lv_iadd hx hb dX10_layer_124 ?_
      refine ev_iast S hK hM hg5 (j := 0) rfl dX10_layer_125 (fun I22 eI22 H locs hM => ?_)
      have hf := nm_x eI22 hf
      refine lv_aload_n hx hb dX10_layer_126 rfl (lv_at hl 0 rfl) ?_
      refine bd_e hf (fun r23 er23 hf => ?_)
      refine ev_callv (va_runV (As := []) (rest := []) S (c_X10_noActs (l := l) I22 P a0 r23 er23) (cwV 0 hts (gi_v wa_4_224 wa_4_226 wa_s_26 wa_1_11 wa_4_227) rfl rfl rfl (by decide +kernel) ⟨Nat.le_of_ble_eq_true rfl, Nat.le_of_ble_eq_true rfl⟩) ⟨mm_B_blind, ev_recv hK hM (ci := 10) rfl hg3 rfl, fun U hU hW => ⟨rfl, mm_B_of hK hZ hM hU hW⟩⟩ rfl rfl hl.1 rfl (lv_room (Nat.le_of_ble_eq_true rfl)) dX10_layer_127 ⟨Nat.zero_le _, Nat.zero_le _⟩) hM (fun H locs hM => ?_)
      refine lv_iload hx hb dX10_layer_130 (lv_at hl 1 rfl) ?_
      obtain rfl := Option.some.inj hf
      subst hQ
      exact ev_iret S hr hlocks hK hZ hM dX10_layer_132
    · have hf := it_p hf hc7
      refine lv_bipush (v := (-4 : Int32)) hx hb dX10_layer_26 (by decide) ?_
      obtain rfl := Option.some.inj hf
      subst hQ
      exact ev_iret S hr hlocks hK hZ hM dX10_layer_28
  · have hf := it_p hf hc2
    refine lv_bipush (v := (-2 : Int32)) hx hb dX10_layer_9 (by decide) ?_
    obtain rfl := Option.some.inj hf
    subst hQ
    exact ev_iret S hr hlocks hK hZ hM dX10_layer_11
noncomputable def fn_X10_swapsOne (K N : Nat → Nat) (I : Nat → Nat → Int32) (P : Nat → Nat → Option Nat) (a0 : Nat) (x1 : Int32) (x2 : Int32) : Option ((Nat → Nat → Int32)) := gd (K a0 = 11) (Option.bind (P a0 (0)) (fun q2 => gd (K q2 = 12 ∧ vp_in x1 (N q2)) (Option.bind (some (I q2 (x1.toNatClampNeg))) (fun v4 => gd (K q2 = 12 ∧ vp_in x2 (N q2)) (Option.bind (some (up2 I q2 (x1.toNatClampNeg) (I q2 (x2.toNatClampNeg)))) (fun I6 => Option.bind (some (up2 I6 q2 (x2.toNatClampNeg) v4)) (fun I7 => some I7)))))))
abbrev wz_X10_swapsOne : List Cond := Cond.code yX10_swapsOne cX10_swapsOne 4 none :: WA
abbrev rm_X10_swapsOne : Room := { frames := 1, cells := 0, slots := 0, locals := 12 }
set_option maxHeartbeats 4000000 in
set_option maxRecDepth 100000 in
theorem c_X10_swapsOne (I : Nat → Nat → Int32) (P : Nat → Nat → Option Nat) (a0 : Nat) (x1 : Int32) (x2 : Int32) (res : (Nat → Nat → Int32)) (hf : fn_X10_swapsOne K N I P a0 x1 x2 = some res) : Met l yX10_swapsOne wz_X10_swapsOne rm_X10_swapsOne (va_Pc [.ref a0, .int x1, .int x2] (mm_B D cs A L K N z w I P)) (va_Qv (fun (_ : Unit) => True) (fun _ => mm_B D cs A L K N z w res P) A) 0 0 A := by
  refine Met.ofW (cc := cX10_swapsOne) (maxL := 4) (ret := none) (by decide) rfl ?_
  intro p e s m args below meth c s₁ B hml hv
  obtain ⟨rfl, hBm⟩ := hv
  have hx := B.exec
  have hb := B.bytes
  have hr := B.returns
  have hts := atoms_spec (ws := wz_X10_swapsOne) B.pre
  have hWA : ∀ w ∈ WA, w.before ([.ref a0, .int x1, .int x2] : List Value).toArray s = true := fun u9 h9 => hts u9 (List.mem_cons_of_mem _ h9)
  have hown : s.vm.findClass RX10 = some m.cls := findClass_of_methodNamed B.named
  have hlocks := B.notSynchronized
  have S : CallFix p m c cX10_swapsOne 4 s ([.ref a0, .int x1, .int x2] : List Value).toArray wz_X10_swapsOne RX10 := ⟨hx, hb, hml, hown, hts⟩
  have hK := hBm.2.2.2.1
  have hZ := hBm.2.2.2.2
  have hM : mm_W D cs A L K N s.heap I P s.heap [] := ⟨hBm.1, hBm.2.1, hBm.2.2.1, va_S.rf⟩
  have hl := lv_entry ([.ref a0, .int x1, .int x2]) (n := 4) (Nat.le_of_ble_eq_true rfl)
  rw [lg_entry_eq]
  generalize (lg_sl ([.ref a0, .int x1, .int x2]) ++ List.replicate (4 - (lg_sl ([.ref a0, .int x1, .int x2])).length) Slot.unset).toArray = ls at hl ⊢
  have hl : lv_has ls 4 [(0, .ref a0), (1, .int x1), (2, .int x2)] := hl
  have hin10 : ∀ w ∈ wsX100, w ∈ wz_X10_swapsOne := fun w h => List.mem_cons_of_mem _ (wu_X10 w h)
  have lk9 : (Cond.fieldLink RX10 9 RX10 "g" "[I").before ([.ref a0, .int x1, .int x2] : List Value).toArray s = true := hWA _ wa_4_141
  generalize hQ : MQ below (va_Qv (fun (_ : Unit) => True) (fun _ => mm_B D cs A L K N z w res P) A) ([.ref a0, .int x1, .int x2] : List Value).toArray s 0 0 A = QQ
  rw [fn_X10_swapsOne] at hf
  refine lv_aload_n hx hb dX10_swapsOne_0 rfl (lv_at hl 0 rfl) ?_
  refine gd_e hf (fun hg1 hf => ?_)
  refine bd_e hf (fun q2 eq2 hf => ?_)
  refine ev_getP (v := q2) S hK hM (ci := 10) (n := 23) (C := RX10) (T := TX10) hin10 rfl hg1 0 (by decide) lk9 rfl rfl eq2 rfl dX10_swapsOne_1 ?_
  refine lv_iload_n hx hb dX10_swapsOne_4 rfl (lv_at hl 1 rfl) ?_
  refine gd_e hf (fun hg3 hf => ?_)
  refine ev_iald S hK hM hg3 (j := x1.toNatClampNeg) rfl dX10_swapsOne_5 ?_
  refine lv_topi (fun v4 ev4 => ?_)
  have hf := nm_x ev4 hf
  refine lv_istore_n (lv' := [(3, .int v4), (0, .ref a0), (1, .int x1), (2, .int x2)]) hx hb dX10_swapsOne_6 rfl hl (by decide) rfl (fun ls hl => ?_)
  refine lv_aload_n hx hb dX10_swapsOne_7 rfl (lv_at hl 1 rfl) ?_
  refine ev_getP (v := q2) S hK hM (ci := 10) (n := 23) (C := RX10) (T := TX10) hin10 rfl hg1 0 (by decide) lk9 rfl rfl eq2 rfl dX10_swapsOne_8 ?_
  refine lv_iload_n hx hb dX10_swapsOne_11 rfl (lv_at hl 2 rfl) ?_
  refine lv_aload_n hx hb dX10_swapsOne_12 rfl (lv_at hl 1 rfl) ?_
  refine ev_getP (v := q2) S hK hM (ci := 10) (n := 23) (C := RX10) (T := TX10) hin10 rfl hg1 0 (by decide) lk9 rfl rfl eq2 rfl dX10_swapsOne_13 ?_
  refine lv_iload_n hx hb dX10_swapsOne_16 rfl (lv_at hl 3 rfl) ?_
  refine gd_e hf (fun hg5 hf => ?_)
  refine ev_iald S hK hM hg5 (j := x2.toNatClampNeg) rfl dX10_swapsOne_17 ?_
  refine ev_iast S hK hM hg3 (j := x1.toNatClampNeg) rfl dX10_swapsOne_18 (fun I6 eI6 H locs hM => ?_)
  have hf := nm_x eI6 hf
  refine lv_aload_n hx hb dX10_swapsOne_19 rfl (lv_at hl 1 rfl) ?_
  refine ev_getP (v := q2) S hK hM (ci := 10) (n := 23) (C := RX10) (T := TX10) hin10 rfl hg1 0 (by decide) lk9 rfl rfl eq2 rfl dX10_swapsOne_20 ?_
  refine lv_iload_n hx hb dX10_swapsOne_23 rfl (lv_at hl 3 rfl) ?_
  refine lv_iload_n hx hb dX10_swapsOne_24 rfl (lv_at hl 0 rfl) ?_
  refine ev_iast S hK hM hg5 (j := x2.toNatClampNeg) rfl dX10_swapsOne_25 (fun I7 eI7 H locs hM => ?_)
  have hf := nm_x eI7 hf
  obtain rfl := Option.some.inj hf
  subst hQ
  exact ev_vret S hr hlocks hK hZ hM dX10_swapsOne_26
noncomputable def fn_X10_swaps_L38 (K : Nat → Nat) (N : Nat → Nat) (a0 : Nat) (x1 : Int32) (x2 : Int32) (P : Nat → Nat → Option Nat) : Nat → Int32 → (Nat → Nat → Int32) → Option ((Nat → Nat → Int32))
  | 0, _, _ => none
  | n + 1, v5, I6 => if (192 : Int32) ≤ v5 then (some I6) else (Option.bind (fn_X10_swapsOne K N I6 P a0 (((20 : Int32) + ((192 : Int32) * x1)) + v5) (((20 : Int32) + ((192 : Int32) * x2)) + v5)) (fun (r9 : (Nat → Nat → Int32)) => Option.bind (fn_X10_swapsOne K N r9 P a0 (((788 : Int32) + ((192 : Int32) * x1)) + v5) (((788 : Int32) + ((192 : Int32) * x2)) + v5)) (fun (r10 : (Nat → Nat → Int32)) => fn_X10_swaps_L38 K N a0 x1 x2 P n (v5 + (1 : Int32)) r10)))
noncomputable def fn_X10_swaps (K N : Nat → Nat) (I : Nat → Nat → Int32) (P : Nat → Nat → Option Nat) (a0 : Nat) (x1 : Int32) (x2 : Int32) : Option ((Nat → Nat → Int32)) := Option.bind (fn_X10_swapsOne K N I P a0 ((8 : Int32) + x1) ((8 : Int32) + x2)) (fun (r1 : (Nat → Nat → Int32)) => gd (K a0 = 11) (Option.bind (fn_X10_swapsOne K N r1 P a0 ((12 : Int32) + x1) ((12 : Int32) + x2)) (fun (r3 : (Nat → Nat → Int32)) => Option.bind (fn_X10_swapsOne K N r3 P a0 ((16 : Int32) + x1) ((16 : Int32) + x2)) (fun (r4 : (Nat → Nat → Int32)) => Option.bind (fn_X10_swaps_L38 K N a0 x1 x2 P FU (0 : Int32) r4) (fun (r7 : (Nat → Nat → Int32)) => some r7)))))
abbrev wz_X10_swaps : List Cond := Cond.code yX10_swaps cX10_swaps 4 none :: WA
abbrev rm_X10_swaps : Room := { frames := 2, cells := 0, slots := 0, locals := 35 }
set_option maxHeartbeats 4000000 in
set_option maxRecDepth 100000 in
theorem c_X10_swaps (I : Nat → Nat → Int32) (P : Nat → Nat → Option Nat) (a0 : Nat) (x1 : Int32) (x2 : Int32) (res : (Nat → Nat → Int32)) (hf : fn_X10_swaps K N I P a0 x1 x2 = some res) : Met l yX10_swaps wz_X10_swaps rm_X10_swaps (va_Pc [.ref a0, .int x1, .int x2] (mm_B D cs A L K N z w I P)) (va_Qv (fun (_ : Unit) => True) (fun _ => mm_B D cs A L K N z w res P) A) 0 0 A := by
  refine Met.ofW (cc := cX10_swaps) (maxL := 4) (ret := none) (by decide) rfl ?_
  intro p e s m args below meth c s₁ B hml hv
  obtain ⟨rfl, hBm⟩ := hv
  have hx := B.exec
  have hb := B.bytes
  have hr := B.returns
  have hts := atoms_spec (ws := wz_X10_swaps) B.pre
  have hWA : ∀ w ∈ WA, w.before ([.ref a0, .int x1, .int x2] : List Value).toArray s = true := fun u9 h9 => hts u9 (List.mem_cons_of_mem _ h9)
  have hown : s.vm.findClass RX10 = some m.cls := findClass_of_methodNamed B.named
  have hlocks := B.notSynchronized
  have S : CallFix p m c cX10_swaps 4 s ([.ref a0, .int x1, .int x2] : List Value).toArray wz_X10_swaps RX10 := ⟨hx, hb, hml, hown, hts⟩
  have hK := hBm.2.2.2.1
  have hZ := hBm.2.2.2.2
  have hM : mm_W D cs A L K N s.heap I P s.heap [] := ⟨hBm.1, hBm.2.1, hBm.2.2.1, va_S.rf⟩
  have hl := lv_entry ([.ref a0, .int x1, .int x2]) (n := 4) (Nat.le_of_ble_eq_true rfl)
  rw [lg_entry_eq]
  generalize (lg_sl ([.ref a0, .int x1, .int x2]) ++ List.replicate (4 - (lg_sl ([.ref a0, .int x1, .int x2])).length) Slot.unset).toArray = ls at hl ⊢
  have hl : lv_has ls 4 [(0, .ref a0), (1, .int x1), (2, .int x2)] := hl
  generalize hQ : MQ below (va_Qv (fun (_ : Unit) => True) (fun _ => mm_B D cs A L K N z w res P) A) ([.ref a0, .int x1, .int x2] : List Value).toArray s 0 0 A = QQ
  rw [fn_X10_swaps] at hf
  refine lv_aload_n hx hb dX10_swaps_0 rfl (lv_at hl 0 rfl) ?_
  refine lv_bipush (v := (8 : Int32)) hx hb dX10_swaps_1 (by decide) ?_
  refine lv_iload_n hx hb dX10_swaps_3 rfl (lv_at hl 1 rfl) ?_
  refine lv_iadd hx hb dX10_swaps_4 ?_
  refine lv_bipush (v := (8 : Int32)) hx hb dX10_swaps_5 (by decide) ?_
  refine lv_iload_n hx hb dX10_swaps_7 rfl (lv_at hl 2 rfl) ?_
  refine lv_iadd hx hb dX10_swaps_8 ?_
  refine bd_e hf (fun r1 er1 hf => ?_)
  refine gd_e hf (fun hg2 hf => ?_)
  refine ev_callv (va_runV (As := [.int ((8 : Int32) + x1), .int ((8 : Int32) + x2)]) (rest := []) S (c_X10_swapsOne (l := l) I P a0 ((8 : Int32) + x1) ((8 : Int32) + x2) r1 er1) (cwV 2 hts (gi_v wa_5_4 wa_5_6 wa_s_30 wa_1_11 wa_5_7) rfl rfl rfl (by decide +kernel) ⟨Nat.le_of_ble_eq_true rfl, Nat.le_of_ble_eq_true rfl⟩) ⟨mm_B_blind, ev_recv hK hM (ci := 10) rfl hg2 rfl, fun U hU hW => ⟨rfl, mm_B_of hK hZ hM hU hW⟩⟩ rfl rfl hl.1 rfl (lv_room (Nat.le_of_ble_eq_true rfl)) dX10_swaps_9 ⟨Nat.zero_le _, Nat.zero_le _⟩) hM (fun H locs hM => ?_)
  refine lv_aload_n hx hb dX10_swaps_12 rfl (lv_at hl 0 rfl) ?_
  refine lv_bipush (v := (12 : Int32)) hx hb dX10_swaps_13 (by decide) ?_
  refine lv_iload_n hx hb dX10_swaps_15 rfl (lv_at hl 1 rfl) ?_
  refine lv_iadd hx hb dX10_swaps_16 ?_
  refine lv_bipush (v := (12 : Int32)) hx hb dX10_swaps_17 (by decide) ?_
  refine lv_iload_n hx hb dX10_swaps_19 rfl (lv_at hl 2 rfl) ?_
  refine lv_iadd hx hb dX10_swaps_20 ?_
  refine bd_e hf (fun r3 er3 hf => ?_)
  refine ev_callv (va_runV (As := [.int ((12 : Int32) + x1), .int ((12 : Int32) + x2)]) (rest := []) S (c_X10_swapsOne (l := l) r1 P a0 ((12 : Int32) + x1) ((12 : Int32) + x2) r3 er3) (cwV 2 hts (gi_v wa_5_4 wa_5_6 wa_s_30 wa_1_11 wa_5_7) rfl rfl rfl (by decide +kernel) ⟨Nat.le_of_ble_eq_true rfl, Nat.le_of_ble_eq_true rfl⟩) ⟨mm_B_blind, ev_recv hK hM (ci := 10) rfl hg2 rfl, fun U hU hW => ⟨rfl, mm_B_of hK hZ hM hU hW⟩⟩ rfl rfl hl.1 rfl (lv_room (Nat.le_of_ble_eq_true rfl)) dX10_swaps_21 ⟨Nat.zero_le _, Nat.zero_le _⟩) hM (fun H locs hM => ?_)
  refine lv_aload_n hx hb dX10_swaps_24 rfl (lv_at hl 0 rfl) ?_
  refine lv_bipush (v := (16 : Int32)) hx hb dX10_swaps_25 (by decide) ?_
  refine lv_iload_n hx hb dX10_swaps_27 rfl (lv_at hl 1 rfl) ?_
  refine lv_iadd hx hb dX10_swaps_28 ?_
  refine lv_bipush (v := (16 : Int32)) hx hb dX10_swaps_29 (by decide) ?_
  refine lv_iload_n hx hb dX10_swaps_31 rfl (lv_at hl 2 rfl) ?_
  refine lv_iadd hx hb dX10_swaps_32 ?_
  refine bd_e hf (fun r4 er4 hf => ?_)
  refine ev_callv (va_runV (As := [.int ((16 : Int32) + x1), .int ((16 : Int32) + x2)]) (rest := []) S (c_X10_swapsOne (l := l) r3 P a0 ((16 : Int32) + x1) ((16 : Int32) + x2) r4 er4) (cwV 2 hts (gi_v wa_5_4 wa_5_6 wa_s_30 wa_1_11 wa_5_7) rfl rfl rfl (by decide +kernel) ⟨Nat.le_of_ble_eq_true rfl, Nat.le_of_ble_eq_true rfl⟩) ⟨mm_B_blind, ev_recv hK hM (ci := 10) rfl hg2 rfl, fun U hU hW => ⟨rfl, mm_B_of hK hZ hM hU hW⟩⟩ rfl rfl hl.1 rfl (lv_room (Nat.le_of_ble_eq_true rfl)) dX10_swaps_33 ⟨Nat.zero_le _, Nat.zero_le _⟩) hM (fun H locs hM => ?_)
  refine lv_iconst (v := (0 : Int32)) hx hb dX10_swaps_36 (by decide) ?_
  refine lv_istore_n (lv' := [(3, .int (0 : Int32)), (0, .ref a0), (1, .int x1), (2, .int x2)]) hx hb dX10_swaps_37 rfl hl (by decide) rfl (fun ls hl => ?_)
  have lp38_10 : ∀ (n : Nat) (v5 : Int32) (I6 : Nat → Nat → Int32) (H : Heap) (locs : List Loc) (ls : Array Slot) (r7 : (Nat → Nat → Int32)), mm_W D cs A L K N s.heap I6 P H locs → lv_has ls 4 [(0, .ref a0), (1, .int x1), (2, .int x2), (3, .int v5)] → fn_X10_swaps_L38 K N a0 x1 x2 P n v5 I6 = some r7 → (∀ (H : Heap) (locs : List Loc) (ls : Array Slot), mm_W D cs A L K N s.heap r7 P H locs → lv_has ls 4 [] → W p l e (headSpec wz_X10_swaps rm_X10_swaps).room s m ([.ref a0, .int x1, .int x2] : List Value).toArray below meth c H locs 0 0 QQ (F0 m 101 ls [])) → W p l e (headSpec wz_X10_swaps rm_X10_swaps).room s m ([.ref a0, .int x1, .int x2] : List Value).toArray below meth c H locs 0 0 QQ (F0 m 38 ls []) := by
    intro n
    induction n with
    | zero => intro v5 I6 H locs ls r7 hM hl hf kk; exact nn_x (show (none : Option ((Nat → Nat → Int32))) = some r7 from hf)
    | succ n ih =>
      intro v5 I6 H locs ls r7 hM hl hf kk
      rw [fn_X10_swaps_L38] at hf
      refine lv_iload_n hx hb dX10_swaps_38 rfl (lv_at hl 3 rfl) ?_
      refine lv_sipush (v := (192 : Int32)) hx hb dX10_swaps_39 (by decide) ?_
      refine lv_icmp_ge (tgt := 101) hx hb dX10_swaps_42 (by decide) (fun hc8 => ?_) (fun hc8 => ?_)
      · have hf := it_p hf hc8
        obtain rfl := Option.some.inj hf
        exact kk _ _ _ hM (lv_sub hl [] rfl)
      · have hf := it_n hf hc8
        refine lv_aload_n hx hb dX10_swaps_45 rfl (lv_at hl 0 rfl) ?_
        refine lv_bipush (v := (20 : Int32)) hx hb dX10_swaps_46 (by decide) ?_
        refine lv_sipush (v := (192 : Int32)) hx hb dX10_swaps_48 (by decide) ?_
        refine lv_iload_n hx hb dX10_swaps_51 rfl (lv_at hl 1 rfl) ?_
        refine lv_imul hx hb dX10_swaps_52 ?_
        refine lv_iadd hx hb dX10_swaps_53 ?_
        refine lv_iload_n hx hb dX10_swaps_54 rfl (lv_at hl 3 rfl) ?_
        refine lv_iadd hx hb dX10_swaps_55 ?_
        refine lv_bipush (v := (20 : Int32)) hx hb dX10_swaps_56 (by decide) ?_
        refine lv_sipush (v := (192 : Int32)) hx hb dX10_swaps_58 (by decide) ?_
        refine lv_iload_n hx hb dX10_swaps_61 rfl (lv_at hl 2 rfl) ?_
        refine lv_imul hx hb dX10_swaps_62 ?_
        refine lv_iadd hx hb dX10_swaps_63 ?_
        refine lv_iload_n hx hb dX10_swaps_64 rfl (lv_at hl 3 rfl) ?_
        refine lv_iadd hx hb dX10_swaps_65 ?_
        refine bd_e hf (fun r9 er9 hf => ?_)
        refine ev_callv (va_runV (As := [.int (((20 : Int32) + ((192 : Int32) * x1)) + v5), .int (((20 : Int32) + ((192 : Int32) * x2)) + v5)]) (rest := []) S (c_X10_swapsOne (l := l) I6 P a0 (((20 : Int32) + ((192 : Int32) * x1)) + v5) (((20 : Int32) + ((192 : Int32) * x2)) + v5) r9 er9) (cwV 2 hts (gi_v wa_5_4 wa_5_6 wa_s_30 wa_1_11 wa_5_7) rfl rfl rfl (by decide +kernel) ⟨Nat.le_of_ble_eq_true rfl, Nat.le_of_ble_eq_true rfl⟩) ⟨mm_B_blind, ev_recv hK hM (ci := 10) rfl hg2 rfl, fun U hU hW => ⟨rfl, mm_B_of hK hZ hM hU hW⟩⟩ rfl rfl hl.1 rfl (lv_room (Nat.le_of_ble_eq_true rfl)) dX10_swaps_66 ⟨Nat.zero_le _, Nat.zero_le _⟩) hM (fun H locs hM => ?_)
        refine lv_aload_n hx hb dX10_swaps_69 rfl (lv_at hl 0 rfl) ?_
        refine lv_sipush (v := (788 : Int32)) hx hb dX10_swaps_70 (by decide) ?_
        refine lv_sipush (v := (192 : Int32)) hx hb dX10_swaps_73 (by decide) ?_
        refine lv_iload_n hx hb dX10_swaps_76 rfl (lv_at hl 1 rfl) ?_
        refine lv_imul hx hb dX10_swaps_77 ?_
        refine lv_iadd hx hb dX10_swaps_78 ?_
        refine lv_iload_n hx hb dX10_swaps_79 rfl (lv_at hl 3 rfl) ?_
        refine lv_iadd hx hb dX10_swaps_80 ?_
        refine lv_sipush (v := (788 : Int32)) hx hb dX10_swaps_81 (by decide) ?_
        refine lv_sipush (v := (192 : Int32)) hx hb dX10_swaps_84 (by decide) ?_
        refine lv_iload_n hx hb dX10_swaps_87 rfl (lv_at hl 2 rfl) ?_
        refine lv_imul hx hb dX10_swaps_88 ?_
        refine lv_iadd hx hb dX10_swaps_89 ?_
        refine lv_iload_n hx hb dX10_swaps_90 rfl (lv_at hl 3 rfl) ?_
        refine lv_iadd hx hb dX10_swaps_91 ?_
        refine bd_e hf (fun r10 er10 hf => ?_)
        refine ev_callv (va_runV (As := [.int (((788 : Int32) + ((192 : Int32) * x1)) + v5), .int (((788 : Int32) + ((192 : Int32) * x2)) + v5)]) (rest := []) S (c_X10_swapsOne (l := l) r9 P a0 (((788 : Int32) + ((192 : Int32) * x1)) + v5) (((788 : Int32) + ((192 : Int32) * x2)) + v5) r10 er10) (cwV 2 hts (gi_v wa_5_4 wa_5_6 wa_s_30 wa_1_11 wa_5_7) rfl rfl rfl (by decide +kernel) ⟨Nat.le_of_ble_eq_true rfl, Nat.le_of_ble_eq_true rfl⟩) ⟨mm_B_blind, ev_recv hK hM (ci := 10) rfl hg2 rfl, fun U hU hW => ⟨rfl, mm_B_of hK hZ hM hU hW⟩⟩ rfl rfl hl.1 rfl (lv_room (Nat.le_of_ble_eq_true rfl)) dX10_swaps_92 ⟨Nat.zero_le _, Nat.zero_le _⟩) hM (fun H locs hM => ?_)
        refine lv_iinc (v := (v5 + (1 : Int32))) (lv' := [(3, .int (v5 + (1 : Int32))), (0, .ref a0), (1, .int x1), (2, .int x2)]) hx hb dX10_swaps_95 hl (k := 3) rfl rfl (by decide) rfl (fun ls hl => ?_)
        refine lv_goto (tgt := 38) hx hb dX10_swaps_98 (by decide) ?_
        exact ih (v5 + (1 : Int32)) r10 _ _ _ _ hM (lv_sub hl [1, 2, 3, 0] rfl) hf kk
  refine bd_e hf (fun r7 er7 hf => ?_)
  refine lp38_10 FU (0 : Int32) r4 _ _ _ r7 hM (lv_sub hl [1, 2, 3, 0] rfl) er7 (fun H locs ls hM hl => ?_)
  obtain rfl := Option.some.inj hf
  subst hQ
  exact ev_vret S hr hlocks hK hZ hM dX10_swaps_101
noncomputable def fn_X10_goesTo_L2 (K : Nat → Nat) (N : Nat → Nat) (a0 : Nat) (x2 : Int32) (P : Nat → Nat → Option Nat) : Nat → Int32 → (Nat → Nat → Int32) → Option ((Nat → Nat → Int32))
  | 0, _, _ => none
  | n + 1, v1, I2 => if x2 ≤ v1 then (some I2) else (Option.bind (fn_X10_swaps K N I2 P a0 v1 (v1 + (1 : Int32))) (fun (r5 : (Nat → Nat → Int32)) => gd (K a0 = 11) (fn_X10_goesTo_L2 K N a0 x2 P n (v1 + (1 : Int32)) r5)))
noncomputable def fn_X10_goesTo_L23 (K : Nat → Nat) (N : Nat → Nat) (a0 : Nat) (x2 : Int32) (P : Nat → Nat → Option Nat) : Nat → Int32 → (Nat → Nat → Int32) → Option ((Nat → Nat → Int32))
  | 0, _, _ => none
  | n + 1, v7, I8 => if v7 ≤ x2 then (some I8) else (Option.bind (fn_X10_swaps K N I8 P a0 v7 (v7 - (1 : Int32))) (fun (r11 : (Nat → Nat → Int32)) => gd (K a0 = 11) (fn_X10_goesTo_L23 K N a0 x2 P n (v7 + (-1 : Int32)) r11)))
noncomputable def fn_X10_goesTo (K N : Nat → Nat) (I : Nat → Nat → Int32) (P : Nat → Nat → Option Nat) (a0 : Nat) (x1 : Int32) (x2 : Int32) : Option ((Nat → Nat → Int32)) := Option.bind (fn_X10_goesTo_L2 K N a0 x2 P FU x1 I) (fun (r3 : (Nat → Nat → Int32)) => Option.bind (fn_X10_goesTo_L23 K N a0 x2 P FU x1 r3) (fun (r9 : (Nat → Nat → Int32)) => Option.bind (fn_X10_noActs K N r9 P a0) (fun (r13 : (Nat → Nat → Int32)) => gd (K a0 = 11) (some r13))))
abbrev wz_X10_goesTo : List Cond := Cond.code yX10_goesTo cX10_goesTo 4 none :: WA
abbrev rm_X10_goesTo : Room := { frames := 3, cells := 0, slots := 0, locals := 58 }
set_option maxHeartbeats 4000000 in
set_option maxRecDepth 100000 in
theorem c_X10_goesTo (I : Nat → Nat → Int32) (P : Nat → Nat → Option Nat) (a0 : Nat) (x1 : Int32) (x2 : Int32) (res : (Nat → Nat → Int32)) (hf : fn_X10_goesTo K N I P a0 x1 x2 = some res) : Met l yX10_goesTo wz_X10_goesTo rm_X10_goesTo (va_Pc [.ref a0, .int x1, .int x2] (mm_B D cs A L K N z w I P)) (va_Qv (fun (_ : Unit) => True) (fun _ => mm_B D cs A L K N z w res P) A) 0 0 A := by
  refine Met.ofW (cc := cX10_goesTo) (maxL := 4) (ret := none) (by decide) rfl ?_
  intro p e s m args below meth c s₁ B hml hv
  obtain ⟨rfl, hBm⟩ := hv
  have hx := B.exec
  have hb := B.bytes
  have hr := B.returns
  have hts := atoms_spec (ws := wz_X10_goesTo) B.pre
  have hWA : ∀ w ∈ WA, w.before ([.ref a0, .int x1, .int x2] : List Value).toArray s = true := fun u9 h9 => hts u9 (List.mem_cons_of_mem _ h9)
  have hown : s.vm.findClass RX10 = some m.cls := findClass_of_methodNamed B.named
  have hlocks := B.notSynchronized
  have S : CallFix p m c cX10_goesTo 4 s ([.ref a0, .int x1, .int x2] : List Value).toArray wz_X10_goesTo RX10 := ⟨hx, hb, hml, hown, hts⟩
  have hK := hBm.2.2.2.1
  have hZ := hBm.2.2.2.2
  have hM : mm_W D cs A L K N s.heap I P s.heap [] := ⟨hBm.1, hBm.2.1, hBm.2.2.1, va_S.rf⟩
  have hl := lv_entry ([.ref a0, .int x1, .int x2]) (n := 4) (Nat.le_of_ble_eq_true rfl)
  rw [lg_entry_eq]
  generalize (lg_sl ([.ref a0, .int x1, .int x2]) ++ List.replicate (4 - (lg_sl ([.ref a0, .int x1, .int x2])).length) Slot.unset).toArray = ls at hl ⊢
  have hl : lv_has ls 4 [(0, .ref a0), (1, .int x1), (2, .int x2)] := hl
  generalize hQ : MQ below (va_Qv (fun (_ : Unit) => True) (fun _ => mm_B D cs A L K N z w res P) A) ([.ref a0, .int x1, .int x2] : List Value).toArray s 0 0 A = QQ
  rw [fn_X10_goesTo] at hf
  refine lv_iload_n hx hb dX10_goesTo_0 rfl (lv_at hl 1 rfl) ?_
  refine lv_istore_n (lv' := [(3, .int x1), (0, .ref a0), (1, .int x1), (2, .int x2)]) hx hb dX10_goesTo_1 rfl hl (by decide) rfl (fun ls hl => ?_)
  have lp2_6 : ∀ (n : Nat) (v1 : Int32) (I2 : Nat → Nat → Int32) (H : Heap) (locs : List Loc) (ls : Array Slot) (r3 : (Nat → Nat → Int32)), mm_W D cs A L K N s.heap I2 P H locs → lv_has ls 4 [(0, .ref a0), (1, .int x1), (2, .int x2), (3, .int v1)] → fn_X10_goesTo_L2 K N a0 x2 P n v1 I2 = some r3 → (∀ (H : Heap) (locs : List Loc) (ls : Array Slot), mm_W D cs A L K N s.heap r3 P H locs → lv_has ls 4 [(0, .ref a0), (1, .int x1), (2, .int x2)] → W p l e (headSpec wz_X10_goesTo rm_X10_goesTo).room s m ([.ref a0, .int x1, .int x2] : List Value).toArray below meth c H locs 0 0 QQ (F0 m 21 ls [])) → W p l e (headSpec wz_X10_goesTo rm_X10_goesTo).room s m ([.ref a0, .int x1, .int x2] : List Value).toArray below meth c H locs 0 0 QQ (F0 m 2 ls []) := by
    intro n
    induction n with
    | zero => intro v1 I2 H locs ls r3 hM hl hf kk; exact nn_x (show (none : Option ((Nat → Nat → Int32))) = some r3 from hf)
    | succ n ih =>
      intro v1 I2 H locs ls r3 hM hl hf kk
      rw [fn_X10_goesTo_L2] at hf
      refine lv_iload_n hx hb dX10_goesTo_2 rfl (lv_at hl 3 rfl) ?_
      refine lv_iload_n hx hb dX10_goesTo_3 rfl (lv_at hl 2 rfl) ?_
      refine lv_icmp_ge (tgt := 21) hx hb dX10_goesTo_4 (by decide) (fun hc4 => ?_) (fun hc4 => ?_)
      · have hf := it_p hf hc4
        obtain rfl := Option.some.inj hf
        exact kk _ _ _ hM (lv_sub hl [0, 1, 2] rfl)
      · have hf := it_n hf hc4
        refine lv_aload_n hx hb dX10_goesTo_7 rfl (lv_at hl 0 rfl) ?_
        refine lv_iload_n hx hb dX10_goesTo_8 rfl (lv_at hl 3 rfl) ?_
        refine lv_iload_n hx hb dX10_goesTo_9 rfl (lv_at hl 3 rfl) ?_
        refine lv_iconst (v := (1 : Int32)) hx hb dX10_goesTo_10 (by decide) ?_
        refine lv_iadd hx hb dX10_goesTo_11 ?_
        refine bd_e hf (fun r5 er5 hf => ?_)
        refine gd_e hf (fun hg6 hf => ?_)
        refine ev_callv (va_runV (As := [.int v1, .int (v1 + (1 : Int32))]) (rest := []) S (c_X10_swaps (l := l) I2 P a0 v1 (v1 + (1 : Int32)) r5 er5) (cwV 2 hts (gi_v wa_5_0 wa_5_2 wa_s_29 wa_1_11 wa_5_3) rfl rfl rfl (by decide +kernel) ⟨Nat.le_of_ble_eq_true rfl, Nat.le_of_ble_eq_true rfl⟩) ⟨mm_B_blind, ev_recv hK hM (ci := 10) rfl hg6 rfl, fun U hU hW => ⟨rfl, mm_B_of hK hZ hM hU hW⟩⟩ rfl rfl hl.1 rfl (lv_room (Nat.le_of_ble_eq_true rfl)) dX10_goesTo_12 ⟨Nat.zero_le _, Nat.zero_le _⟩) hM (fun H locs hM => ?_)
        refine lv_iinc (v := (v1 + (1 : Int32))) (lv' := [(3, .int (v1 + (1 : Int32))), (0, .ref a0), (1, .int x1), (2, .int x2)]) hx hb dX10_goesTo_15 hl (k := 3) rfl rfl (by decide) rfl (fun ls hl => ?_)
        refine lv_goto (tgt := 2) hx hb dX10_goesTo_18 (by decide) ?_
        exact ih (v1 + (1 : Int32)) r5 _ _ _ _ hM (lv_sub hl [1, 2, 3, 0] rfl) hf kk
  refine bd_e hf (fun r3 er3 hf => ?_)
  refine lp2_6 FU x1 I _ _ _ r3 hM (lv_sub hl [1, 2, 3, 0] rfl) er3 (fun H locs ls hM hl => ?_)
  refine lv_iload_n hx hb dX10_goesTo_21 rfl (lv_at hl 1 rfl) ?_
  refine lv_istore_n (lv' := [(3, .int x1), (0, .ref a0), (1, .int x1), (2, .int x2)]) hx hb dX10_goesTo_22 rfl hl (by decide) rfl (fun ls hl => ?_)
  have lp23_12 : ∀ (n : Nat) (v7 : Int32) (I8 : Nat → Nat → Int32) (H : Heap) (locs : List Loc) (ls : Array Slot) (r9 : (Nat → Nat → Int32)), mm_W D cs A L K N s.heap I8 P H locs → lv_has ls 4 [(0, .ref a0), (2, .int x2), (3, .int v7)] → fn_X10_goesTo_L23 K N a0 x2 P n v7 I8 = some r9 → (∀ (H : Heap) (locs : List Loc) (ls : Array Slot), mm_W D cs A L K N s.heap r9 P H locs → lv_has ls 4 [(0, .ref a0)] → W p l e (headSpec wz_X10_goesTo rm_X10_goesTo).room s m ([.ref a0, .int x1, .int x2] : List Value).toArray below meth c H locs 0 0 QQ (F0 m 42 ls [])) → W p l e (headSpec wz_X10_goesTo rm_X10_goesTo).room s m ([.ref a0, .int x1, .int x2] : List Value).toArray below meth c H locs 0 0 QQ (F0 m 23 ls []) := by
    intro n
    induction n with
    | zero => intro v7 I8 H locs ls r9 hM hl hf kk; exact nn_x (show (none : Option ((Nat → Nat → Int32))) = some r9 from hf)
    | succ n ih =>
      intro v7 I8 H locs ls r9 hM hl hf kk
      rw [fn_X10_goesTo_L23] at hf
      refine lv_iload_n hx hb dX10_goesTo_23 rfl (lv_at hl 2 rfl) ?_
      refine lv_iload_n hx hb dX10_goesTo_24 rfl (lv_at hl 1 rfl) ?_
      refine lv_icmp_le (tgt := 42) hx hb dX10_goesTo_25 (by decide) (fun hc10 => ?_) (fun hc10 => ?_)
      · have hf := it_p hf hc10
        obtain rfl := Option.some.inj hf
        exact kk _ _ _ hM (lv_sub hl [0] rfl)
      · have hf := it_n hf hc10
        refine lv_aload_n hx hb dX10_goesTo_28 rfl (lv_at hl 0 rfl) ?_
        refine lv_iload_n hx hb dX10_goesTo_29 rfl (lv_at hl 2 rfl) ?_
        refine lv_iload_n hx hb dX10_goesTo_30 rfl (lv_at hl 2 rfl) ?_
        refine lv_iconst (v := (1 : Int32)) hx hb dX10_goesTo_31 (by decide) ?_
        refine lv_isub hx hb dX10_goesTo_32 ?_
        refine bd_e hf (fun r11 er11 hf => ?_)
        refine gd_e hf (fun hg12 hf => ?_)
        refine ev_callv (va_runV (As := [.int v7, .int (v7 - (1 : Int32))]) (rest := []) S (c_X10_swaps (l := l) I8 P a0 v7 (v7 - (1 : Int32)) r11 er11) (cwV 2 hts (gi_v wa_5_0 wa_5_2 wa_s_29 wa_1_11 wa_5_3) rfl rfl rfl (by decide +kernel) ⟨Nat.le_of_ble_eq_true rfl, Nat.le_of_ble_eq_true rfl⟩) ⟨mm_B_blind, ev_recv hK hM (ci := 10) rfl hg12 rfl, fun U hU hW => ⟨rfl, mm_B_of hK hZ hM hU hW⟩⟩ rfl rfl hl.1 rfl (lv_room (Nat.le_of_ble_eq_true rfl)) dX10_goesTo_33 ⟨Nat.zero_le _, Nat.zero_le _⟩) hM (fun H locs hM => ?_)
        refine lv_iinc (v := (v7 + (-1 : Int32))) (lv' := [(3, .int (v7 + (-1 : Int32))), (0, .ref a0), (2, .int x2)]) hx hb dX10_goesTo_36 hl (k := 2) rfl rfl (by decide) rfl (fun ls hl => ?_)
        refine lv_goto (tgt := 23) hx hb dX10_goesTo_39 (by decide) ?_
        exact ih (v7 + (-1 : Int32)) r11 _ _ _ _ hM (lv_sub hl [1, 2, 0] rfl) hf kk
  refine bd_e hf (fun r9 er9 hf => ?_)
  refine lp23_12 FU x1 r3 _ _ _ r9 hM (lv_sub hl [1, 3, 0] rfl) er9 (fun H locs ls hM hl => ?_)
  refine lv_aload_n hx hb dX10_goesTo_42 rfl (lv_at hl 0 rfl) ?_
  refine bd_e hf (fun r13 er13 hf => ?_)
  refine gd_e hf (fun hg14 hf => ?_)
  refine ev_callv (va_runV (As := []) (rest := []) S (c_X10_noActs (l := l) r9 P a0 r13 er13) (cwV 0 hts (gi_v wa_4_224 wa_4_226 wa_s_26 wa_1_11 wa_4_227) rfl rfl rfl (by decide +kernel) ⟨Nat.le_of_ble_eq_true rfl, Nat.le_of_ble_eq_true rfl⟩) ⟨mm_B_blind, ev_recv hK hM (ci := 10) rfl hg14 rfl, fun U hU hW => ⟨rfl, mm_B_of hK hZ hM hU hW⟩⟩ rfl rfl hl.1 rfl (lv_room (Nat.le_of_ble_eq_true rfl)) dX10_goesTo_43 ⟨Nat.zero_le _, Nat.zero_le _⟩) hM (fun H locs hM => ?_)
  obtain rfl := Option.some.inj hf
  subst hQ
  exact ev_vret S hr hlocks hK hZ hM dX10_goesTo_46
noncomputable def fn_X10_drop (K N : Nat → Nat) (I : Nat → Nat → Int32) (P : Nat → Nat → Option Nat) (a0 : Nat) (x1 : Int32) : Option (Int32 × (Nat → Nat → Int32)) := Option.bind (fn_X10_isLayer K N I P a0 x1) (fun (r1 : Int32) => gd (K a0 = 11) (if r1 = 0 then (some ((-2 : Int32), I)) else (Option.bind (P a0 (0)) (fun q4 => gd (K q4 = 12 ∧ vp_in (0 : Int32) (N q4)) (Option.bind (fn_X10_goesTo K N I P a0 x1 ((I q4 (0)) - (1 : Int32))) (fun (r6 : (Nat → Nat → Int32)) => Option.bind (some (up2 r6 q4 (0) ((r6 q4 (0)) - (1 : Int32)))) (fun I7 => some ((I7 q4 (0)), I7))))))))
abbrev wz_X10_drop : List Cond := Cond.code yX10_drop cX10_drop 2 (some .int) :: WA
abbrev rm_X10_drop : Room := { frames := 4, cells := 0, slots := 0, locals := 81 }
set_option maxHeartbeats 4000000 in
set_option maxRecDepth 100000 in
theorem c_X10_drop (I : Nat → Nat → Int32) (P : Nat → Nat → Option Nat) (a0 : Nat) (x1 : Int32) (res : Int32 × (Nat → Nat → Int32)) (hf : fn_X10_drop K N I P a0 x1 = some res) : Met l yX10_drop wz_X10_drop rm_X10_drop (va_Pc [.ref a0, .int x1] (mm_B D cs A L K N z w I P)) (va_Qi (fun r (_ : Unit) => r = res.1) (fun _ => mm_B D cs A L K N z w res.2 P) A) 0 0 A := by
  refine Met.ofW (cc := cX10_drop) (maxL := 2) (ret := (some .int)) (by decide) rfl ?_
  intro p e s m args below meth c s₁ B hml hv
  obtain ⟨rfl, hBm⟩ := hv
  have hx := B.exec
  have hb := B.bytes
  have hr := B.returns
  have hts := atoms_spec (ws := wz_X10_drop) B.pre
  have hWA : ∀ w ∈ WA, w.before ([.ref a0, .int x1] : List Value).toArray s = true := fun u9 h9 => hts u9 (List.mem_cons_of_mem _ h9)
  have hown : s.vm.findClass RX10 = some m.cls := findClass_of_methodNamed B.named
  have hlocks := B.notSynchronized
  have S : CallFix p m c cX10_drop 2 s ([.ref a0, .int x1] : List Value).toArray wz_X10_drop RX10 := ⟨hx, hb, hml, hown, hts⟩
  have hK := hBm.2.2.2.1
  have hZ := hBm.2.2.2.2
  have hM : mm_W D cs A L K N s.heap I P s.heap [] := ⟨hBm.1, hBm.2.1, hBm.2.2.1, va_S.rf⟩
  have hl := lv_entry ([.ref a0, .int x1]) (n := 2) (Nat.le_of_ble_eq_true rfl)
  rw [lg_entry_eq]
  generalize (lg_sl ([.ref a0, .int x1]) ++ List.replicate (2 - (lg_sl ([.ref a0, .int x1])).length) Slot.unset).toArray = ls at hl ⊢
  have hl : lv_has ls 2 [(0, .ref a0), (1, .int x1)] := hl
  have hin10 : ∀ w ∈ wsX100, w ∈ wz_X10_drop := fun w h => List.mem_cons_of_mem _ (wu_X10 w h)
  have lk9 : (Cond.fieldLink RX10 9 RX10 "g" "[I").before ([.ref a0, .int x1] : List Value).toArray s = true := hWA _ wa_4_141
  generalize hQ : MQ below (va_Qi (fun r (_ : Unit) => r = res.1) (fun _ => mm_B D cs A L K N z w res.2 P) A) ([.ref a0, .int x1] : List Value).toArray s 0 0 A = QQ
  rw [fn_X10_drop] at hf
  refine lv_aload_n hx hb dX10_drop_0 rfl (lv_at hl 0 rfl) ?_
  refine lv_iload_n hx hb dX10_drop_1 rfl (lv_at hl 1 rfl) ?_
  refine bd_e hf (fun r1 er1 hf => ?_)
  refine gd_e hf (fun hg2 hf => ?_)
  refine ev_calli (va_runV (As := [.int x1]) (rest := []) S (c_X10_isLayer (l := l) I P a0 x1 r1 er1) (cwV 1 hts (gi_v wa_4_232 wa_4_234 wa_s_27 wa_1_11 wa_4_235) rfl rfl rfl (by decide +kernel) ⟨Nat.le_of_ble_eq_true rfl, Nat.le_of_ble_eq_true rfl⟩) ⟨mm_B_blind, ev_recv hK hM (ci := 10) rfl hg2 rfl, fun U hU hW => ⟨rfl, mm_B_of hK hZ hM hU hW⟩⟩ rfl rfl hl.1 rfl (lv_room (Nat.le_of_ble_eq_true rfl)) dX10_drop_2 ⟨Nat.zero_le _, Nat.zero_le _⟩) hM (fun H locs hM => ?_)
  refine lv_if_ne (tgt := 11) hx hb dX10_drop_5 (by decide) (fun hc3 => ?_) (fun hc3 => ?_)
  · have hf := it_n hf hc3
    refine lv_aload_n hx hb dX10_drop_11 rfl (lv_at hl 0 rfl) ?_
    refine lv_iload_n hx hb dX10_drop_12 rfl (lv_at hl 1 rfl) ?_
    refine lv_aload_n hx hb dX10_drop_13 rfl (lv_at hl 0 rfl) ?_
    refine bd_e hf (fun q4 eq4 hf => ?_)
    refine ev_getP (v := q4) S hK hM (ci := 10) (n := 23) (C := RX10) (T := TX10) hin10 rfl hg2 0 (by decide) lk9 rfl rfl eq4 rfl dX10_drop_14 ?_
    refine lv_iconst (v := (0 : Int32)) hx hb dX10_drop_17 (by decide) ?_
    refine gd_e hf (fun hg5 hf => ?_)
    refine ev_iald S hK hM hg5 (j := 0) rfl dX10_drop_18 ?_
    refine lv_iconst (v := (1 : Int32)) hx hb dX10_drop_19 (by decide) ?_
    refine lv_isub hx hb dX10_drop_20 ?_
    refine bd_e hf (fun r6 er6 hf => ?_)
    refine ev_callv (va_runV (As := [.int x1, .int ((I q4 (0)) - (1 : Int32))]) (rest := []) S (c_X10_goesTo (l := l) I P a0 x1 ((I q4 (0)) - (1 : Int32)) r6 er6) (cwV 2 hts (gi_v wa_4_236 wa_4_238 wa_s_28 wa_1_11 wa_4_239) rfl rfl rfl (by decide +kernel) ⟨Nat.le_of_ble_eq_true rfl, Nat.le_of_ble_eq_true rfl⟩) ⟨mm_B_blind, ev_recv hK hM (ci := 10) rfl hg2 rfl, fun U hU hW => ⟨rfl, mm_B_of hK hZ hM hU hW⟩⟩ rfl rfl hl.1 rfl (lv_room (Nat.le_of_ble_eq_true rfl)) dX10_drop_21 ⟨Nat.zero_le _, Nat.zero_le _⟩) hM (fun H locs hM => ?_)
    refine lv_aload_n hx hb dX10_drop_24 rfl (lv_at hl 0 rfl) ?_
    refine ev_getP (v := q4) S hK hM (ci := 10) (n := 23) (C := RX10) (T := TX10) hin10 rfl hg2 0 (by decide) lk9 rfl rfl eq4 rfl dX10_drop_25 ?_
    refine lv_iconst (v := (0 : Int32)) hx hb dX10_drop_28 (by decide) ?_
    refine lv_dup2_11 hx hb dX10_drop_29 rfl rfl ?_
    refine ev_iald S hK hM hg5 (j := 0) rfl dX10_drop_30 ?_
    refine lv_iconst (v := (1 : Int32)) hx hb dX10_drop_31 (by decide) ?_
    refine lv_isub hx hb dX10_drop_32 ?_
    refine ev_iast S hK hM hg5 (j := 0) rfl dX10_drop_33 (fun I7 eI7 H locs hM => ?_)
    have hf := nm_x eI7 hf
    refine lv_aload_n hx hb dX10_drop_34 rfl (lv_at hl 0 rfl) ?_
    refine ev_getP (v := q4) S hK hM (ci := 10) (n := 23) (C := RX10) (T := TX10) hin10 rfl hg2 0 (by decide) lk9 rfl rfl eq4 rfl dX10_drop_35 ?_
    refine lv_iconst (v := (0 : Int32)) hx hb dX10_drop_38 (by decide) ?_
    refine ev_iald S hK hM hg5 (j := 0) rfl dX10_drop_39 ?_
    obtain rfl := Option.some.inj hf
    subst hQ
    exact ev_iret S hr hlocks hK hZ hM dX10_drop_40
  · have hf := it_p hf hc3
    refine lv_bipush (v := (-2 : Int32)) hx hb dX10_drop_8 (by decide) ?_
    obtain rfl := Option.some.inj hf
    subst hQ
    exact ev_iret S hr hlocks hK hZ hM dX10_drop_10
noncomputable def fn_X10_move (K N : Nat → Nat) (I : Nat → Nat → Int32) (P : Nat → Nat → Option Nat) (a0 : Nat) (x1 : Int32) (x2 : Int32) : Option (Int32 × (Nat → Nat → Int32)) := Option.bind (fn_X10_isLayer K N I P a0 x1) (fun (r1 : Int32) => gd (K a0 = 11) (if r1 = 0 then (some ((-2 : Int32), I)) else (Option.bind (fn_X10_isLayer K N I P a0 x2) (fun (r4 : Int32) => if r4 = 0 then (some ((-2 : Int32), I)) else (Option.bind (fn_X10_goesTo K N I P a0 x1 x2) (fun (r6 : (Nat → Nat → Int32)) => some (x2, r6)))))))
abbrev wz_X10_move : List Cond := Cond.code yX10_move cX10_move 3 (some .int) :: WA
abbrev rm_X10_move : Room := { frames := 4, cells := 0, slots := 0, locals := 81 }
set_option maxHeartbeats 4000000 in
set_option maxRecDepth 100000 in
theorem c_X10_move (I : Nat → Nat → Int32) (P : Nat → Nat → Option Nat) (a0 : Nat) (x1 : Int32) (x2 : Int32) (res : Int32 × (Nat → Nat → Int32)) (hf : fn_X10_move K N I P a0 x1 x2 = some res) : Met l yX10_move wz_X10_move rm_X10_move (va_Pc [.ref a0, .int x1, .int x2] (mm_B D cs A L K N z w I P)) (va_Qi (fun r (_ : Unit) => r = res.1) (fun _ => mm_B D cs A L K N z w res.2 P) A) 0 0 A := by
  refine Met.ofW (cc := cX10_move) (maxL := 3) (ret := (some .int)) (by decide) rfl ?_
  intro p e s m args below meth c s₁ B hml hv
  obtain ⟨rfl, hBm⟩ := hv
  have hx := B.exec
  have hb := B.bytes
  have hr := B.returns
  have hts := atoms_spec (ws := wz_X10_move) B.pre
  have hWA : ∀ w ∈ WA, w.before ([.ref a0, .int x1, .int x2] : List Value).toArray s = true := fun u9 h9 => hts u9 (List.mem_cons_of_mem _ h9)
  have hown : s.vm.findClass RX10 = some m.cls := findClass_of_methodNamed B.named
  have hlocks := B.notSynchronized
  have S : CallFix p m c cX10_move 3 s ([.ref a0, .int x1, .int x2] : List Value).toArray wz_X10_move RX10 := ⟨hx, hb, hml, hown, hts⟩
  have hK := hBm.2.2.2.1
  have hZ := hBm.2.2.2.2
  have hM : mm_W D cs A L K N s.heap I P s.heap [] := ⟨hBm.1, hBm.2.1, hBm.2.2.1, va_S.rf⟩
  have hl := lv_entry ([.ref a0, .int x1, .int x2]) (n := 3) (Nat.le_of_ble_eq_true rfl)
  rw [lg_entry_eq]
  generalize (lg_sl ([.ref a0, .int x1, .int x2]) ++ List.replicate (3 - (lg_sl ([.ref a0, .int x1, .int x2])).length) Slot.unset).toArray = ls at hl ⊢
  have hl : lv_has ls 3 [(0, .ref a0), (1, .int x1), (2, .int x2)] := hl
  generalize hQ : MQ below (va_Qi (fun r (_ : Unit) => r = res.1) (fun _ => mm_B D cs A L K N z w res.2 P) A) ([.ref a0, .int x1, .int x2] : List Value).toArray s 0 0 A = QQ
  rw [fn_X10_move] at hf
  refine lv_aload_n hx hb dX10_move_0 rfl (lv_at hl 0 rfl) ?_
  refine lv_iload_n hx hb dX10_move_1 rfl (lv_at hl 1 rfl) ?_
  refine bd_e hf (fun r1 er1 hf => ?_)
  refine gd_e hf (fun hg2 hf => ?_)
  refine ev_calli (va_runV (As := [.int x1]) (rest := []) S (c_X10_isLayer (l := l) I P a0 x1 r1 er1) (cwV 1 hts (gi_v wa_4_232 wa_4_234 wa_s_27 wa_1_11 wa_4_235) rfl rfl rfl (by decide +kernel) ⟨Nat.le_of_ble_eq_true rfl, Nat.le_of_ble_eq_true rfl⟩) ⟨mm_B_blind, ev_recv hK hM (ci := 10) rfl hg2 rfl, fun U hU hW => ⟨rfl, mm_B_of hK hZ hM hU hW⟩⟩ rfl rfl hl.1 rfl (lv_room (Nat.le_of_ble_eq_true rfl)) dX10_move_2 ⟨Nat.zero_le _, Nat.zero_le _⟩) hM (fun H locs hM => ?_)
  refine lv_if_eq (tgt := 16) hx hb dX10_move_5 (by decide) (fun hc3 => ?_) (fun hc3 => ?_)
  · have hf := it_p hf hc3
    refine lv_bipush (v := (-2 : Int32)) hx hb dX10_move_16 (by decide) ?_
    obtain rfl := Option.some.inj hf
    subst hQ
    exact ev_iret S hr hlocks hK hZ hM dX10_move_18
  · have hf := it_n hf hc3
    refine lv_aload_n hx hb dX10_move_8 rfl (lv_at hl 0 rfl) ?_
    refine lv_iload_n hx hb dX10_move_9 rfl (lv_at hl 2 rfl) ?_
    refine bd_e hf (fun r4 er4 hf => ?_)
    refine ev_calli (va_runV (As := [.int x2]) (rest := []) S (c_X10_isLayer (l := l) I P a0 x2 r4 er4) (cwV 1 hts (gi_v wa_4_232 wa_4_234 wa_s_27 wa_1_11 wa_4_235) rfl rfl rfl (by decide +kernel) ⟨Nat.le_of_ble_eq_true rfl, Nat.le_of_ble_eq_true rfl⟩) ⟨mm_B_blind, ev_recv hK hM (ci := 10) rfl hg2 rfl, fun U hU hW => ⟨rfl, mm_B_of hK hZ hM hU hW⟩⟩ rfl rfl hl.1 rfl (lv_room (Nat.le_of_ble_eq_true rfl)) dX10_move_10 ⟨Nat.zero_le _, Nat.zero_le _⟩) hM (fun H locs hM => ?_)
    refine lv_if_ne (tgt := 19) hx hb dX10_move_13 (by decide) (fun hc5 => ?_) (fun hc5 => ?_)
    · have hf := it_n hf hc5
      refine lv_aload_n hx hb dX10_move_19 rfl (lv_at hl 0 rfl) ?_
      refine lv_iload_n hx hb dX10_move_20 rfl (lv_at hl 1 rfl) ?_
      refine lv_iload_n hx hb dX10_move_21 rfl (lv_at hl 2 rfl) ?_
      refine bd_e hf (fun r6 er6 hf => ?_)
      refine ev_callv (va_runV (As := [.int x1, .int x2]) (rest := []) S (c_X10_goesTo (l := l) I P a0 x1 x2 r6 er6) (cwV 2 hts (gi_v wa_4_236 wa_4_238 wa_s_28 wa_1_11 wa_4_239) rfl rfl rfl (by decide +kernel) ⟨Nat.le_of_ble_eq_true rfl, Nat.le_of_ble_eq_true rfl⟩) ⟨mm_B_blind, ev_recv hK hM (ci := 10) rfl hg2 rfl, fun U hU hW => ⟨rfl, mm_B_of hK hZ hM hU hW⟩⟩ rfl rfl hl.1 rfl (lv_room (Nat.le_of_ble_eq_true rfl)) dX10_move_22 ⟨Nat.zero_le _, Nat.zero_le _⟩) hM (fun H locs hM => ?_)
      refine lv_iload_n hx hb dX10_move_25 rfl (lv_at hl 2 rfl) ?_
      obtain rfl := Option.some.inj hf
      subst hQ
      exact ev_iret S hr hlocks hK hZ hM dX10_move_26
    · have hf := it_p hf hc5
      refine lv_bipush (v := (-2 : Int32)) hx hb dX10_move_16 (by decide) ?_
      obtain rfl := Option.some.inj hf
      subst hQ
      exact ev_iret S hr hlocks hK hZ hM dX10_move_18
noncomputable def fn_X10_dress (K N : Nat → Nat) (I : Nat → Nat → Int32) (P : Nat → Nat → Option Nat) (a0 : Nat) (x1 : Int32) (x2 : Int32) (x3 : Int32) (x4 : Int32) : Option (Int32 × (Nat → Nat → Int32)) := if x1 = (-1 : Int32) then (Option.bind (fn_X10_isByte x4) (fun (r15 : Int32) => if r15 = 0 then (some ((-2 : Int32), I)) else (gd (K a0 = 11) (Option.bind (P a0 (0)) (fun q18 => gd (K q18 = 12 ∧ vp_in (1 : Int32) (N q18)) (Option.bind (some (I q18 (1))) (fun v20 => Option.bind (some (up2 I q18 (1) x4)) (fun I21 => some (v20, I21))))))))) else (Option.bind (fn_X10_isLayer K N I P a0 x1) (fun (r2 : Int32) => gd (K a0 = 11) (if r2 = 0 then (some ((-2 : Int32), I)) else (Option.bind (fn_X10_isDress x2 x3 x4) (fun (r5 : Int32) => if r5 = 0 then (some ((-2 : Int32), I)) else (Option.bind (P a0 (0)) (fun q7 => gd (K q7 = 12 ∧ vp_in ((16 : Int32) + x1) (N q7)) (Option.bind (some (I q7 (((16 : Int32) + x1)).toNatClampNeg)) (fun v9 => gd (K q7 = 12 ∧ vp_in ((8 : Int32) + x1) (N q7)) (Option.bind (some (up2 I q7 (((8 : Int32) + x1)).toNatClampNeg x2)) (fun I11 => gd (K q7 = 12 ∧ vp_in ((12 : Int32) + x1) (N q7)) (Option.bind (some (up2 I11 q7 (((12 : Int32) + x1)).toNatClampNeg x3)) (fun I13 => Option.bind (some (up2 I13 q7 (((16 : Int32) + x1)).toNatClampNeg x4)) (fun I14 => some (v9, I14)))))))))))))))
abbrev wz_X10_dress : List Cond := Cond.code yX10_dress cX10_dress 6 (some .int) :: WA
abbrev rm_X10_dress : Room := { frames := 4, cells := 0, slots := 0, locals := 76 }
set_option maxHeartbeats 4000000 in
set_option maxRecDepth 100000 in
theorem c_X10_dress (I : Nat → Nat → Int32) (P : Nat → Nat → Option Nat) (a0 : Nat) (x1 : Int32) (x2 : Int32) (x3 : Int32) (x4 : Int32) (res : Int32 × (Nat → Nat → Int32)) (hf : fn_X10_dress K N I P a0 x1 x2 x3 x4 = some res) : Met l yX10_dress wz_X10_dress rm_X10_dress (va_Pc [.ref a0, .int x1, .int x2, .int x3, .int x4] (mm_B D cs A L K N z w I P)) (va_Qi (fun r (_ : Unit) => r = res.1) (fun _ => mm_B D cs A L K N z w res.2 P) A) 0 0 A := by
  refine Met.ofW (cc := cX10_dress) (maxL := 6) (ret := (some .int)) (by decide) rfl ?_
  intro p e s m args below meth c s₁ B hml hv
  obtain ⟨rfl, hBm⟩ := hv
  have hx := B.exec
  have hb := B.bytes
  have hr := B.returns
  have hts := atoms_spec (ws := wz_X10_dress) B.pre
  have hWA : ∀ w ∈ WA, w.before ([.ref a0, .int x1, .int x2, .int x3, .int x4] : List Value).toArray s = true := fun u9 h9 => hts u9 (List.mem_cons_of_mem _ h9)
  have hown : s.vm.findClass RX10 = some m.cls := findClass_of_methodNamed B.named
  have hlocks := B.notSynchronized
  have S : CallFix p m c cX10_dress 6 s ([.ref a0, .int x1, .int x2, .int x3, .int x4] : List Value).toArray wz_X10_dress RX10 := ⟨hx, hb, hml, hown, hts⟩
  have hK := hBm.2.2.2.1
  have hZ := hBm.2.2.2.2
  have hM : mm_W D cs A L K N s.heap I P s.heap [] := ⟨hBm.1, hBm.2.1, hBm.2.2.1, va_S.rf⟩
  have hl := lv_entry ([.ref a0, .int x1, .int x2, .int x3, .int x4]) (n := 6) (Nat.le_of_ble_eq_true rfl)
  rw [lg_entry_eq]
  generalize (lg_sl ([.ref a0, .int x1, .int x2, .int x3, .int x4]) ++ List.replicate (6 - (lg_sl ([.ref a0, .int x1, .int x2, .int x3, .int x4])).length) Slot.unset).toArray = ls at hl ⊢
  have hl : lv_has ls 6 [(0, .ref a0), (1, .int x1), (2, .int x2), (3, .int x3), (4, .int x4)] := hl
  have hin10 : ∀ w ∈ wsX100, w ∈ wz_X10_dress := fun w h => List.mem_cons_of_mem _ (wu_X10 w h)
  have lk9 : (Cond.fieldLink RX10 9 RX10 "g" "[I").before ([.ref a0, .int x1, .int x2, .int x3, .int x4] : List Value).toArray s = true := hWA _ wa_4_141
  generalize hQ : MQ below (va_Qi (fun r (_ : Unit) => r = res.1) (fun _ => mm_B D cs A L K N z w res.2 P) A) ([.ref a0, .int x1, .int x2, .int x3, .int x4] : List Value).toArray s 0 0 A = QQ
  rw [fn_X10_dress] at hf
  refine lv_iload_n hx hb dX10_dress_0 rfl (lv_at hl 1 rfl) ?_
  refine lv_iconst (v := (-1 : Int32)) hx hb dX10_dress_1 (by decide) ?_
  refine lv_icmp_ne (tgt := 35) hx hb dX10_dress_2 (by decide) (fun hc1 => ?_) (fun hc1 => ?_)
  · have hf := it_n hf hc1
    refine lv_aload_n hx hb dX10_dress_35 rfl (lv_at hl 0 rfl) ?_
    refine lv_iload_n hx hb dX10_dress_36 rfl (lv_at hl 1 rfl) ?_
    refine bd_e hf (fun r2 er2 hf => ?_)
    refine gd_e hf (fun hg3 hf => ?_)
    refine ev_calli (va_runV (As := [.int x1]) (rest := []) S (c_X10_isLayer (l := l) I P a0 x1 r2 er2) (cwV 1 hts (gi_v wa_4_232 wa_4_234 wa_s_27 wa_1_11 wa_4_235) rfl rfl rfl (by decide +kernel) ⟨Nat.le_of_ble_eq_true rfl, Nat.le_of_ble_eq_true rfl⟩) ⟨mm_B_blind, ev_recv hK hM (ci := 10) rfl hg3 rfl, fun U hU hW => ⟨rfl, mm_B_of hK hZ hM hU hW⟩⟩ rfl rfl hl.1 rfl (lv_room (Nat.le_of_ble_eq_true rfl)) dX10_dress_37 ⟨Nat.zero_le _, Nat.zero_le _⟩) hM (fun H locs hM => ?_)
    refine lv_if_eq (tgt := 53) hx hb dX10_dress_40 (by decide) (fun hc4 => ?_) (fun hc4 => ?_)
    · have hf := it_p hf hc4
      refine lv_bipush (v := (-2 : Int32)) hx hb dX10_dress_53 (by decide) ?_
      obtain rfl := Option.some.inj hf
      subst hQ
      exact ev_iret S hr hlocks hK hZ hM dX10_dress_55
    · have hf := it_n hf hc4
      refine lv_iload_n hx hb dX10_dress_43 rfl (lv_at hl 2 rfl) ?_
      refine lv_iload_n hx hb dX10_dress_44 rfl (lv_at hl 3 rfl) ?_
      refine lv_iload hx hb dX10_dress_45 (lv_at hl 4 rfl) ?_
      refine bd_e hf (fun r5 er5 hf => ?_)
      refine ev_calli (va_runS (As := [.int x2, .int x3, .int x4]) (rest := []) S (c_X10_isDress (l := l) I P x2 x3 x4 r5 er5) (va_cwS 3 hts (gi_s wa_4_215 wa_4_216 wa_1_11 wa_4_217) rfl rfl rfl (by decide +kernel) ⟨Nat.le_of_ble_eq_true rfl, Nat.le_of_ble_eq_true rfl⟩) ⟨mm_B_blind, fun U hU hW => ⟨rfl, mm_B_of hK hZ hM hU hW⟩⟩ rfl rfl hl.1 rfl (lv_room (Nat.le_of_ble_eq_true rfl)) dX10_dress_47 ⟨Nat.zero_le _, Nat.zero_le _⟩) hM (fun H locs hM => ?_)
      refine lv_if_ne (tgt := 56) hx hb dX10_dress_50 (by decide) (fun hc6 => ?_) (fun hc6 => ?_)
      · have hf := it_n hf hc6
        refine lv_aload_n hx hb dX10_dress_56 rfl (lv_at hl 0 rfl) ?_
        refine bd_e hf (fun q7 eq7 hf => ?_)
        refine ev_getP (v := q7) S hK hM (ci := 10) (n := 23) (C := RX10) (T := TX10) hin10 rfl hg3 0 (by decide) lk9 rfl rfl eq7 rfl dX10_dress_57 ?_
        refine lv_bipush (v := (16 : Int32)) hx hb dX10_dress_60 (by decide) ?_
        refine lv_iload_n hx hb dX10_dress_62 rfl (lv_at hl 1 rfl) ?_
        refine lv_iadd hx hb dX10_dress_63 ?_
        refine gd_e hf (fun hg8 hf => ?_)
        refine ev_iald S hK hM hg8 (j := (((16 : Int32) + x1)).toNatClampNeg) rfl dX10_dress_64 ?_
        refine lv_topi (fun v9 ev9 => ?_)
        have hf := nm_x ev9 hf
        refine lv_istore (lv' := [(5, .int v9), (0, .ref a0), (1, .int x1), (2, .int x2), (3, .int x3), (4, .int x4)]) hx hb dX10_dress_65 hl (by decide) rfl (fun ls hl => ?_)
        refine lv_aload_n hx hb dX10_dress_67 rfl (lv_at hl 1 rfl) ?_
        refine ev_getP (v := q7) S hK hM (ci := 10) (n := 23) (C := RX10) (T := TX10) hin10 rfl hg3 0 (by decide) lk9 rfl rfl eq7 rfl dX10_dress_68 ?_
        refine lv_bipush (v := (8 : Int32)) hx hb dX10_dress_71 (by decide) ?_
        refine lv_iload_n hx hb dX10_dress_73 rfl (lv_at hl 2 rfl) ?_
        refine lv_iadd hx hb dX10_dress_74 ?_
        refine lv_iload_n hx hb dX10_dress_75 rfl (lv_at hl 3 rfl) ?_
        refine gd_e hf (fun hg10 hf => ?_)
        refine ev_iast S hK hM hg10 (j := (((8 : Int32) + x1)).toNatClampNeg) rfl dX10_dress_76 (fun I11 eI11 H locs hM => ?_)
        have hf := nm_x eI11 hf
        refine lv_aload_n hx hb dX10_dress_77 rfl (lv_at hl 1 rfl) ?_
        refine ev_getP (v := q7) S hK hM (ci := 10) (n := 23) (C := RX10) (T := TX10) hin10 rfl hg3 0 (by decide) lk9 rfl rfl eq7 rfl dX10_dress_78 ?_
        refine lv_bipush (v := (12 : Int32)) hx hb dX10_dress_81 (by decide) ?_
        refine lv_iload_n hx hb dX10_dress_83 rfl (lv_at hl 2 rfl) ?_
        refine lv_iadd hx hb dX10_dress_84 ?_
        refine lv_iload_n hx hb dX10_dress_85 rfl (lv_at hl 4 rfl) ?_
        refine gd_e hf (fun hg12 hf => ?_)
        refine ev_iast S hK hM hg12 (j := (((12 : Int32) + x1)).toNatClampNeg) rfl dX10_dress_86 (fun I13 eI13 H locs hM => ?_)
        have hf := nm_x eI13 hf
        refine lv_aload_n hx hb dX10_dress_87 rfl (lv_at hl 1 rfl) ?_
        refine ev_getP (v := q7) S hK hM (ci := 10) (n := 23) (C := RX10) (T := TX10) hin10 rfl hg3 0 (by decide) lk9 rfl rfl eq7 rfl dX10_dress_88 ?_
        refine lv_bipush (v := (16 : Int32)) hx hb dX10_dress_91 (by decide) ?_
        refine lv_iload_n hx hb dX10_dress_93 rfl (lv_at hl 2 rfl) ?_
        refine lv_iadd hx hb dX10_dress_94 ?_
        refine lv_iload hx hb dX10_dress_95 (lv_at hl 5 rfl) ?_
        refine ev_iast S hK hM hg8 (j := (((16 : Int32) + x1)).toNatClampNeg) rfl dX10_dress_97 (fun I14 eI14 H locs hM => ?_)
        have hf := nm_x eI14 hf
        refine lv_iload hx hb dX10_dress_98 (lv_at hl 0 rfl) ?_
        obtain rfl := Option.some.inj hf
        subst hQ
        exact ev_iret S hr hlocks hK hZ hM dX10_dress_100
      · have hf := it_p hf hc6
        refine lv_bipush (v := (-2 : Int32)) hx hb dX10_dress_53 (by decide) ?_
        obtain rfl := Option.some.inj hf
        subst hQ
        exact ev_iret S hr hlocks hK hZ hM dX10_dress_55
  · have hf := it_p hf hc1
    refine lv_iload hx hb dX10_dress_5 (lv_at hl 4 rfl) ?_
    refine bd_e hf (fun r15 er15 hf => ?_)
    refine ev_calli (va_runS (As := [.int x4]) (rest := []) S (c_X10_isByte (l := l) I P x4 r15 er15) (va_cwS 1 hts (gi_s wa_4_221 wa_4_222 wa_1_11 wa_4_223) rfl rfl rfl (by decide +kernel) ⟨Nat.le_of_ble_eq_true rfl, Nat.le_of_ble_eq_true rfl⟩) ⟨mm_B_blind, fun U hU hW => ⟨rfl, mm_B_of hK hZ hM hU hW⟩⟩ rfl rfl hl.1 rfl (lv_room (Nat.le_of_ble_eq_true rfl)) dX10_dress_7 ⟨Nat.zero_le _, Nat.zero_le _⟩) hM (fun H locs hM => ?_)
    refine lv_if_ne (tgt := 16) hx hb dX10_dress_10 (by decide) (fun hc16 => ?_) (fun hc16 => ?_)
    · have hf := it_n hf hc16
      refine lv_aload_n hx hb dX10_dress_16 rfl (lv_at hl 0 rfl) ?_
      refine gd_e hf (fun hg17 hf => ?_)
      refine bd_e hf (fun q18 eq18 hf => ?_)
      refine ev_getP (v := q18) S hK hM (ci := 10) (n := 23) (C := RX10) (T := TX10) hin10 rfl hg17 0 (by decide) lk9 rfl rfl eq18 rfl dX10_dress_17 ?_
      refine lv_iconst (v := (1 : Int32)) hx hb dX10_dress_20 (by decide) ?_
      refine gd_e hf (fun hg19 hf => ?_)
      refine ev_iald S hK hM hg19 (j := 1) rfl dX10_dress_21 ?_
      refine lv_topi (fun v20 ev20 => ?_)
      have hf := nm_x ev20 hf
      refine lv_istore (lv' := [(5, .int v20), (0, .ref a0), (1, .int x1), (2, .int x2), (3, .int x3), (4, .int x4)]) hx hb dX10_dress_22 hl (by decide) rfl (fun ls hl => ?_)
      refine lv_aload_n hx hb dX10_dress_24 rfl (lv_at hl 1 rfl) ?_
      refine ev_getP (v := q18) S hK hM (ci := 10) (n := 23) (C := RX10) (T := TX10) hin10 rfl hg17 0 (by decide) lk9 rfl rfl eq18 rfl dX10_dress_25 ?_
      refine lv_iconst (v := (1 : Int32)) hx hb dX10_dress_28 (by decide) ?_
      refine lv_iload hx hb dX10_dress_29 (lv_at hl 5 rfl) ?_
      refine ev_iast S hK hM hg19 (j := 1) rfl dX10_dress_31 (fun I21 eI21 H locs hM => ?_)
      have hf := nm_x eI21 hf
      refine lv_iload hx hb dX10_dress_32 (lv_at hl 0 rfl) ?_
      obtain rfl := Option.some.inj hf
      subst hQ
      exact ev_iret S hr hlocks hK hZ hM dX10_dress_34
    · have hf := it_p hf hc16
      refine lv_bipush (v := (-2 : Int32)) hx hb dX10_dress_13 (by decide) ?_
      obtain rfl := Option.some.inj hf
      subst hQ
      exact ev_iret S hr hlocks hK hZ hM dX10_dress_15
noncomputable def fn_X10_covered_L4 (K : Nat → Nat) (N : Nat → Nat) (a0 : Nat) (x1 : Int32) (I : Nat → Nat → Int32) (P : Nat → Nat → Option Nat) : Nat → Int32 → Int32 → Option (Int32)
  | 0, _, _ => none
  | n + 1, v1, v2 => if (192 : Int32) ≤ v2 then (some v1) else (gd (K a0 = 11) (Option.bind (P a0 (0)) (fun q6 => gd (K q6 = 12 ∧ vp_in (((788 : Int32) + ((192 : Int32) * x1)) + v2) (N q6)) (if (I q6 ((((788 : Int32) + ((192 : Int32) * x1)) + v2)).toNatClampNeg) ≤ 0 then (Option.bind (some (v1 + (0 : Int32))) (fun v9 => fn_X10_covered_L4 K N a0 x1 I P n v9 (v2 + (1 : Int32)))) else (Option.bind (some (v1 + (1 : Int32))) (fun v10 => fn_X10_covered_L4 K N a0 x1 I P n v10 (v2 + (1 : Int32))))))))
noncomputable def fn_X10_covered (K N : Nat → Nat) (I : Nat → Nat → Int32) (P : Nat → Nat → Option Nat) (a0 : Nat) (x1 : Int32) : Option (Int32) := Option.bind (fn_X10_covered_L4 K N a0 x1 I P FU (0 : Int32) (0 : Int32)) (fun (r3 : Int32) => some r3)
abbrev wz_X10_covered : List Cond := Cond.code yX10_covered cX10_covered 4 (some .int) :: WA
abbrev rm_X10_covered : Room := { frames := 1, cells := 0, slots := 0, locals := 12 }
set_option maxHeartbeats 4000000 in
set_option maxRecDepth 100000 in
theorem c_X10_covered (I : Nat → Nat → Int32) (P : Nat → Nat → Option Nat) (a0 : Nat) (x1 : Int32) (res : Int32) (hf : fn_X10_covered K N I P a0 x1 = some res) : Met l yX10_covered wz_X10_covered rm_X10_covered (va_Pc [.ref a0, .int x1] (mm_B D cs A L K N z w I P)) (va_Qi (fun r (_ : Unit) => r = res) (fun _ => mm_B D cs A L K N z w I P) A) 0 0 A := by
  refine Met.ofW (cc := cX10_covered) (maxL := 4) (ret := (some .int)) (by decide) rfl ?_
  intro p e s m args below meth c s₁ B hml hv
  obtain ⟨rfl, hBm⟩ := hv
  have hx := B.exec
  have hb := B.bytes
  have hr := B.returns
  have hts := atoms_spec (ws := wz_X10_covered) B.pre
  have hWA : ∀ w ∈ WA, w.before ([.ref a0, .int x1] : List Value).toArray s = true := fun u9 h9 => hts u9 (List.mem_cons_of_mem _ h9)
  have hown : s.vm.findClass RX10 = some m.cls := findClass_of_methodNamed B.named
  have hlocks := B.notSynchronized
  have S : CallFix p m c cX10_covered 4 s ([.ref a0, .int x1] : List Value).toArray wz_X10_covered RX10 := ⟨hx, hb, hml, hown, hts⟩
  have hK := hBm.2.2.2.1
  have hZ := hBm.2.2.2.2
  have hM : mm_W D cs A L K N s.heap I P s.heap [] := ⟨hBm.1, hBm.2.1, hBm.2.2.1, va_S.rf⟩
  have hl := lv_entry ([.ref a0, .int x1]) (n := 4) (Nat.le_of_ble_eq_true rfl)
  rw [lg_entry_eq]
  generalize (lg_sl ([.ref a0, .int x1]) ++ List.replicate (4 - (lg_sl ([.ref a0, .int x1])).length) Slot.unset).toArray = ls at hl ⊢
  have hl : lv_has ls 4 [(0, .ref a0), (1, .int x1)] := hl
  have hin10 : ∀ w ∈ wsX100, w ∈ wz_X10_covered := fun w h => List.mem_cons_of_mem _ (wu_X10 w h)
  have lk9 : (Cond.fieldLink RX10 9 RX10 "g" "[I").before ([.ref a0, .int x1] : List Value).toArray s = true := hWA _ wa_4_141
  generalize hQ : MQ below (va_Qi (fun r (_ : Unit) => r = res) (fun _ => mm_B D cs A L K N z w I P) A) ([.ref a0, .int x1] : List Value).toArray s 0 0 A = QQ
  rw [fn_X10_covered] at hf
  refine lv_iconst (v := (0 : Int32)) hx hb dX10_covered_0 (by decide) ?_
  refine lv_istore_n (lv' := [(2, .int (0 : Int32)), (0, .ref a0), (1, .int x1)]) hx hb dX10_covered_1 rfl hl (by decide) rfl (fun ls hl => ?_)
  refine lv_iconst (v := (0 : Int32)) hx hb dX10_covered_2 (by decide) ?_
  refine lv_istore_n (lv' := [(3, .int (0 : Int32)), (2, .int (0 : Int32)), (0, .ref a0), (1, .int x1)]) hx hb dX10_covered_3 rfl hl (by decide) rfl (fun ls hl => ?_)
  have lp4_10 : ∀ (n : Nat) (v1 : Int32) (v2 : Int32) (H : Heap) (locs : List Loc) (ls : Array Slot) (r3 : Int32), mm_W D cs A L K N s.heap I P H locs → lv_has ls 4 [(0, .ref a0), (1, .int x1), (2, .int v1), (3, .int v2)] → fn_X10_covered_L4 K N a0 x1 I P n v1 v2 = some r3 → (∀ (H : Heap) (locs : List Loc) (ls : Array Slot), mm_W D cs A L K N s.heap I P H locs → lv_has ls 4 [(2, .int r3)] → W p l e (headSpec wz_X10_covered rm_X10_covered).room s m ([.ref a0, .int x1] : List Value).toArray below meth c H locs 0 0 QQ (F0 m 44 ls [])) → W p l e (headSpec wz_X10_covered rm_X10_covered).room s m ([.ref a0, .int x1] : List Value).toArray below meth c H locs 0 0 QQ (F0 m 4 ls []) := by
    intro n
    induction n with
    | zero => intro v1 v2 H locs ls r3 hM hl hf kk; exact nn_x (show (none : Option (Int32)) = some r3 from hf)
    | succ n ih =>
      intro v1 v2 H locs ls r3 hM hl hf kk
      rw [fn_X10_covered_L4] at hf
      refine lv_iload_n hx hb dX10_covered_4 rfl (lv_at hl 3 rfl) ?_
      refine lv_sipush (v := (192 : Int32)) hx hb dX10_covered_5 (by decide) ?_
      refine lv_icmp_ge (tgt := 44) hx hb dX10_covered_8 (by decide) (fun hc4 => ?_) (fun hc4 => ?_)
      · have hf := it_p hf hc4
        obtain rfl := Option.some.inj hf
        exact kk _ _ _ hM (lv_sub hl [2] rfl)
      · have hf := it_n hf hc4
        refine lv_iload_n hx hb dX10_covered_11 rfl (lv_at hl 2 rfl) ?_
        refine lv_aload_n hx hb dX10_covered_12 rfl (lv_at hl 0 rfl) ?_
        refine gd_e hf (fun hg5 hf => ?_)
        refine bd_e hf (fun q6 eq6 hf => ?_)
        refine ev_getP (v := q6) S hK hM (ci := 10) (n := 23) (C := RX10) (T := TX10) hin10 rfl hg5 0 (by decide) lk9 rfl rfl eq6 rfl dX10_covered_13 ?_
        refine lv_sipush (v := (788 : Int32)) hx hb dX10_covered_16 (by decide) ?_
        refine lv_sipush (v := (192 : Int32)) hx hb dX10_covered_19 (by decide) ?_
        refine lv_iload_n hx hb dX10_covered_22 rfl (lv_at hl 1 rfl) ?_
        refine lv_imul hx hb dX10_covered_23 ?_
        refine lv_iadd hx hb dX10_covered_24 ?_
        refine lv_iload_n hx hb dX10_covered_25 rfl (lv_at hl 3 rfl) ?_
        refine lv_iadd hx hb dX10_covered_26 ?_
        refine gd_e hf (fun hg7 hf => ?_)
        refine ev_iald S hK hM hg7 (j := ((((788 : Int32) + ((192 : Int32) * x1)) + v2)).toNatClampNeg) rfl dX10_covered_27 ?_
        refine lv_if_le (tgt := 35) hx hb dX10_covered_28 (by decide) (fun hc8 => ?_) (fun hc8 => ?_)
        · have hf := it_p hf hc8
          refine lv_iconst (v := (0 : Int32)) hx hb dX10_covered_35 (by decide) ?_
          refine lv_iadd hx hb dX10_covered_36 ?_
          refine lv_topi (fun v9 ev9 => ?_)
          have hf := nm_x ev9 hf
          refine lv_istore_n (lv' := [(2, .int v9), (0, .ref a0), (1, .int x1), (3, .int v2)]) hx hb dX10_covered_37 rfl hl (by decide) rfl (fun ls hl => ?_)
          refine lv_iinc (v := (v2 + (1 : Int32))) (lv' := [(3, .int (v2 + (1 : Int32))), (2, .int v9), (0, .ref a0), (1, .int x1)]) hx hb dX10_covered_38 hl (k := 3) rfl rfl (by decide) rfl (fun ls hl => ?_)
          refine lv_goto (tgt := 4) hx hb dX10_covered_41 (by decide) ?_
          exact ih v9 (v2 + (1 : Int32)) _ _ _ _ hM (lv_sub hl [2, 3, 1, 0] rfl) hf kk
        · have hf := it_n hf hc8
          refine lv_iconst (v := (1 : Int32)) hx hb dX10_covered_31 (by decide) ?_
          refine lv_goto (tgt := 36) hx hb dX10_covered_32 (by decide) ?_
          refine lv_iadd hx hb dX10_covered_36 ?_
          refine lv_topi (fun v10 ev10 => ?_)
          have hf := nm_x ev10 hf
          refine lv_istore_n (lv' := [(2, .int v10), (0, .ref a0), (1, .int x1), (3, .int v2)]) hx hb dX10_covered_37 rfl hl (by decide) rfl (fun ls hl => ?_)
          refine lv_iinc (v := (v2 + (1 : Int32))) (lv' := [(3, .int (v2 + (1 : Int32))), (2, .int v10), (0, .ref a0), (1, .int x1)]) hx hb dX10_covered_38 hl (k := 3) rfl rfl (by decide) rfl (fun ls hl => ?_)
          refine lv_goto (tgt := 4) hx hb dX10_covered_41 (by decide) ?_
          exact ih v10 (v2 + (1 : Int32)) _ _ _ _ hM (lv_sub hl [2, 3, 1, 0] rfl) hf kk
  refine bd_e hf (fun r3 er3 hf => ?_)
  refine lp4_10 FU (0 : Int32) (0 : Int32) _ _ _ r3 hM (lv_sub hl [2, 3, 1, 0] rfl) er3 (fun H locs ls hM hl => ?_)
  refine lv_iload_n hx hb dX10_covered_44 rfl (lv_at hl 0 rfl) ?_
  obtain rfl := Option.some.inj hf
  subst hQ
  exact ev_iret S hr hlocks hK hZ hM dX10_covered_45
noncomputable def fn_X10_told (K N : Nat → Nat) (I : Nat → Nat → Int32) (P : Nat → Nat → Option Nat) (a0 : Nat) (x1 : Int32) (x2 : Int32) : Option (Int32) := Option.bind (fn_X10_isLayer K N I P a0 x1) (fun (r1 : Int32) => gd (K a0 = 11) (if r1 = 0 then (some (-2 : Int32)) else (Option.bind (fn_X10_isIn x2 (0 : Int32) (3 : Int32)) (fun (r4 : Int32) => if r4 = 0 then (some (-2 : Int32)) else (if x2 = 0 then (Option.bind (P a0 (0)) (fun q14 => gd (K q14 = 12 ∧ vp_in ((8 : Int32) + x1) (N q14)) (some (I q14 (((8 : Int32) + x1)).toNatClampNeg)))) else (if x2 = (1 : Int32) then (Option.bind (P a0 (0)) (fun q12 => gd (K q12 = 12 ∧ vp_in ((12 : Int32) + x1) (N q12)) (some (I q12 (((12 : Int32) + x1)).toNatClampNeg)))) else (if x2 = (2 : Int32) then (Option.bind (P a0 (0)) (fun q10 => gd (K q10 = 12 ∧ vp_in ((16 : Int32) + x1) (N q10)) (some (I q10 (((16 : Int32) + x1)).toNatClampNeg)))) else (Option.bind (fn_X10_covered K N I P a0 x1) (fun (r9 : Int32) => some r9)))))))))
abbrev wz_X10_told : List Cond := Cond.code yX10_told cX10_told 3 (some .int) :: WA
abbrev rm_X10_told : Room := { frames := 3, cells := 0, slots := 0, locals := 55 }
set_option maxHeartbeats 4000000 in
set_option maxRecDepth 100000 in
theorem c_X10_told (I : Nat → Nat → Int32) (P : Nat → Nat → Option Nat) (a0 : Nat) (x1 : Int32) (x2 : Int32) (res : Int32) (hf : fn_X10_told K N I P a0 x1 x2 = some res) : Met l yX10_told wz_X10_told rm_X10_told (va_Pc [.ref a0, .int x1, .int x2] (mm_B D cs A L K N z w I P)) (va_Qi (fun r (_ : Unit) => r = res) (fun _ => mm_B D cs A L K N z w I P) A) 0 0 A := by
  refine Met.ofW (cc := cX10_told) (maxL := 3) (ret := (some .int)) (by decide) rfl ?_
  intro p e s m args below meth c s₁ B hml hv
  obtain ⟨rfl, hBm⟩ := hv
  have hx := B.exec
  have hb := B.bytes
  have hr := B.returns
  have hts := atoms_spec (ws := wz_X10_told) B.pre
  have hWA : ∀ w ∈ WA, w.before ([.ref a0, .int x1, .int x2] : List Value).toArray s = true := fun u9 h9 => hts u9 (List.mem_cons_of_mem _ h9)
  have hown : s.vm.findClass RX10 = some m.cls := findClass_of_methodNamed B.named
  have hlocks := B.notSynchronized
  have S : CallFix p m c cX10_told 3 s ([.ref a0, .int x1, .int x2] : List Value).toArray wz_X10_told RX10 := ⟨hx, hb, hml, hown, hts⟩
  have hK := hBm.2.2.2.1
  have hZ := hBm.2.2.2.2
  have hM : mm_W D cs A L K N s.heap I P s.heap [] := ⟨hBm.1, hBm.2.1, hBm.2.2.1, va_S.rf⟩
  have hl := lv_entry ([.ref a0, .int x1, .int x2]) (n := 3) (Nat.le_of_ble_eq_true rfl)
  rw [lg_entry_eq]
  generalize (lg_sl ([.ref a0, .int x1, .int x2]) ++ List.replicate (3 - (lg_sl ([.ref a0, .int x1, .int x2])).length) Slot.unset).toArray = ls at hl ⊢
  have hl : lv_has ls 3 [(0, .ref a0), (1, .int x1), (2, .int x2)] := hl
  have hin10 : ∀ w ∈ wsX100, w ∈ wz_X10_told := fun w h => List.mem_cons_of_mem _ (wu_X10 w h)
  have lk9 : (Cond.fieldLink RX10 9 RX10 "g" "[I").before ([.ref a0, .int x1, .int x2] : List Value).toArray s = true := hWA _ wa_4_141
  generalize hQ : MQ below (va_Qi (fun r (_ : Unit) => r = res) (fun _ => mm_B D cs A L K N z w I P) A) ([.ref a0, .int x1, .int x2] : List Value).toArray s 0 0 A = QQ
  rw [fn_X10_told] at hf
  refine lv_aload_n hx hb dX10_told_0 rfl (lv_at hl 0 rfl) ?_
  refine lv_iload_n hx hb dX10_told_1 rfl (lv_at hl 1 rfl) ?_
  refine bd_e hf (fun r1 er1 hf => ?_)
  refine gd_e hf (fun hg2 hf => ?_)
  refine ev_calli (va_runV (As := [.int x1]) (rest := []) S (c_X10_isLayer (l := l) I P a0 x1 r1 er1) (cwV 1 hts (gi_v wa_4_232 wa_4_234 wa_s_27 wa_1_11 wa_4_235) rfl rfl rfl (by decide +kernel) ⟨Nat.le_of_ble_eq_true rfl, Nat.le_of_ble_eq_true rfl⟩) ⟨mm_B_blind, ev_recv hK hM (ci := 10) rfl hg2 rfl, fun U hU hW => ⟨rfl, mm_B_of hK hZ hM hU hW⟩⟩ rfl rfl hl.1 rfl (lv_room (Nat.le_of_ble_eq_true rfl)) dX10_told_2 ⟨Nat.zero_le _, Nat.zero_le _⟩) hM (fun H locs hM => ?_)
  refine lv_if_eq (tgt := 17) hx hb dX10_told_5 (by decide) (fun hc3 => ?_) (fun hc3 => ?_)
  · have hf := it_p hf hc3
    refine lv_bipush (v := (-2 : Int32)) hx hb dX10_told_17 (by decide) ?_
    obtain rfl := Option.some.inj hf
    subst hQ
    exact ev_iret S hr hlocks hK hZ hM dX10_told_19
  · have hf := it_n hf hc3
    refine lv_iload_n hx hb dX10_told_8 rfl (lv_at hl 2 rfl) ?_
    refine lv_iconst (v := (0 : Int32)) hx hb dX10_told_9 (by decide) ?_
    refine lv_iconst (v := (3 : Int32)) hx hb dX10_told_10 (by decide) ?_
    refine bd_e hf (fun r4 er4 hf => ?_)
    refine ev_calli (va_runS (As := [.int x2, .int (0 : Int32), .int (3 : Int32)]) (rest := []) S (c_X10_isIn (l := l) I P x2 (0 : Int32) (3 : Int32) r4 er4) (va_cwS 3 hts (gi_s wa_4_218 wa_4_219 wa_1_11 wa_4_220) rfl rfl rfl (by decide +kernel) ⟨Nat.le_of_ble_eq_true rfl, Nat.le_of_ble_eq_true rfl⟩) ⟨mm_B_blind, fun U hU hW => ⟨rfl, mm_B_of hK hZ hM hU hW⟩⟩ rfl rfl hl.1 rfl (lv_room (Nat.le_of_ble_eq_true rfl)) dX10_told_11 ⟨Nat.zero_le _, Nat.zero_le _⟩) hM (fun H locs hM => ?_)
    refine lv_if_ne (tgt := 20) hx hb dX10_told_14 (by decide) (fun hc5 => ?_) (fun hc5 => ?_)
    · have hf := it_n hf hc5
      refine lv_iload_n hx hb dX10_told_20 rfl (lv_at hl 2 rfl) ?_
      refine lv_if_ne (tgt := 36) hx hb dX10_told_21 (by decide) (fun hc6 => ?_) (fun hc6 => ?_)
      · have hf := it_n hf hc6
        refine lv_iload_n hx hb dX10_told_36 rfl (lv_at hl 2 rfl) ?_
        refine lv_iconst (v := (1 : Int32)) hx hb dX10_told_37 (by decide) ?_
        refine lv_icmp_ne (tgt := 53) hx hb dX10_told_38 (by decide) (fun hc7 => ?_) (fun hc7 => ?_)
        · have hf := it_n hf hc7
          refine lv_iload_n hx hb dX10_told_53 rfl (lv_at hl 2 rfl) ?_
          refine lv_iconst (v := (2 : Int32)) hx hb dX10_told_54 (by decide) ?_
          refine lv_icmp_ne (tgt := 70) hx hb dX10_told_55 (by decide) (fun hc8 => ?_) (fun hc8 => ?_)
          · have hf := it_n hf hc8
            refine lv_aload_n hx hb dX10_told_70 rfl (lv_at hl 0 rfl) ?_
            refine lv_iload_n hx hb dX10_told_71 rfl (lv_at hl 1 rfl) ?_
            refine bd_e hf (fun r9 er9 hf => ?_)
            refine ev_calli (va_runV (As := [.int x1]) (rest := []) S (c_X10_covered (l := l) I P a0 x1 r9 er9) (cwV 1 hts (gi_v wa_5_20 wa_5_22 wa_s_31 wa_1_11 wa_5_23) rfl rfl rfl (by decide +kernel) ⟨Nat.le_of_ble_eq_true rfl, Nat.le_of_ble_eq_true rfl⟩) ⟨mm_B_blind, ev_recv hK hM (ci := 10) rfl hg2 rfl, fun U hU hW => ⟨rfl, mm_B_of hK hZ hM hU hW⟩⟩ rfl rfl hl.1 rfl (lv_room (Nat.le_of_ble_eq_true rfl)) dX10_told_72 ⟨Nat.zero_le _, Nat.zero_le _⟩) hM (fun H locs hM => ?_)
            obtain rfl := Option.some.inj hf
            subst hQ
            exact ev_iret S hr hlocks hK hZ hM dX10_told_75
          · have hf := it_p hf hc8
            refine lv_aload_n hx hb dX10_told_58 rfl (lv_at hl 0 rfl) ?_
            refine bd_e hf (fun q10 eq10 hf => ?_)
            refine ev_getP (v := q10) S hK hM (ci := 10) (n := 23) (C := RX10) (T := TX10) hin10 rfl hg2 0 (by decide) lk9 rfl rfl eq10 rfl dX10_told_59 ?_
            refine lv_bipush (v := (16 : Int32)) hx hb dX10_told_62 (by decide) ?_
            refine lv_iload_n hx hb dX10_told_64 rfl (lv_at hl 1 rfl) ?_
            refine lv_iadd hx hb dX10_told_65 ?_
            refine gd_e hf (fun hg11 hf => ?_)
            refine ev_iald S hK hM hg11 (j := (((16 : Int32) + x1)).toNatClampNeg) rfl dX10_told_66 ?_
            refine lv_goto (tgt := 75) hx hb dX10_told_67 (by decide) ?_
            obtain rfl := Option.some.inj hf
            subst hQ
            exact ev_iret S hr hlocks hK hZ hM dX10_told_75
        · have hf := it_p hf hc7
          refine lv_aload_n hx hb dX10_told_41 rfl (lv_at hl 0 rfl) ?_
          refine bd_e hf (fun q12 eq12 hf => ?_)
          refine ev_getP (v := q12) S hK hM (ci := 10) (n := 23) (C := RX10) (T := TX10) hin10 rfl hg2 0 (by decide) lk9 rfl rfl eq12 rfl dX10_told_42 ?_
          refine lv_bipush (v := (12 : Int32)) hx hb dX10_told_45 (by decide) ?_
          refine lv_iload_n hx hb dX10_told_47 rfl (lv_at hl 1 rfl) ?_
          refine lv_iadd hx hb dX10_told_48 ?_
          refine gd_e hf (fun hg13 hf => ?_)
          refine ev_iald S hK hM hg13 (j := (((12 : Int32) + x1)).toNatClampNeg) rfl dX10_told_49 ?_
          refine lv_goto (tgt := 75) hx hb dX10_told_50 (by decide) ?_
          obtain rfl := Option.some.inj hf
          subst hQ
          exact ev_iret S hr hlocks hK hZ hM dX10_told_75
      · have hf := it_p hf hc6
        refine lv_aload_n hx hb dX10_told_24 rfl (lv_at hl 0 rfl) ?_
        refine bd_e hf (fun q14 eq14 hf => ?_)
        refine ev_getP (v := q14) S hK hM (ci := 10) (n := 23) (C := RX10) (T := TX10) hin10 rfl hg2 0 (by decide) lk9 rfl rfl eq14 rfl dX10_told_25 ?_
        refine lv_bipush (v := (8 : Int32)) hx hb dX10_told_28 (by decide) ?_
        refine lv_iload_n hx hb dX10_told_30 rfl (lv_at hl 1 rfl) ?_
        refine lv_iadd hx hb dX10_told_31 ?_
        refine gd_e hf (fun hg15 hf => ?_)
        refine ev_iald S hK hM hg15 (j := (((8 : Int32) + x1)).toNatClampNeg) rfl dX10_told_32 ?_
        refine lv_goto (tgt := 75) hx hb dX10_told_33 (by decide) ?_
        obtain rfl := Option.some.inj hf
        subst hQ
        exact ev_iret S hr hlocks hK hZ hM dX10_told_75
    · have hf := it_p hf hc5
      refine lv_bipush (v := (-2 : Int32)) hx hb dX10_told_17 (by decide) ?_
      obtain rfl := Option.some.inj hf
      subst hQ
      exact ev_iret S hr hlocks hK hZ hM dX10_told_19
noncomputable def fn_X10_above (x0 : Int32) : Option (Int32) := if x0 = (3 : Int32) then (some (1 : Int32)) else (if x0 = (4 : Int32) then (some (2 : Int32)) else (if x0 = 0 then (some (-1 : Int32)) else (some (0 : Int32))))
abbrev wz_X10_above : List Cond := Cond.code yX10_above cX10_above 1 (some .int) :: WA
abbrev rm_X10_above : Room := { frames := 1, cells := 0, slots := 0, locals := 12 }
set_option maxHeartbeats 4000000 in
set_option maxRecDepth 100000 in
theorem c_X10_above (I : Nat → Nat → Int32) (P : Nat → Nat → Option Nat) (x0 : Int32) (res : Int32) (hf : fn_X10_above x0 = some res) : Met l yX10_above wz_X10_above rm_X10_above (va_Pc [.int x0] (mm_B D cs A L K N z w I P)) (va_Qi (fun r (_ : Unit) => r = res) (fun _ => mm_B D cs A L K N z w I P) A) 0 0 A := by
  refine Met.ofW (cc := cX10_above) (maxL := 1) (ret := (some .int)) (by decide) rfl ?_
  intro p e s m args below meth c s₁ B hml hv
  obtain ⟨rfl, hBm⟩ := hv
  have hx := B.exec
  have hb := B.bytes
  have hr := B.returns
  have hts := atoms_spec (ws := wz_X10_above) B.pre
  have hWA : ∀ w ∈ WA, w.before ([.int x0] : List Value).toArray s = true := fun u9 h9 => hts u9 (List.mem_cons_of_mem _ h9)
  have hown : s.vm.findClass RX10 = some m.cls := findClass_of_methodNamed B.named
  have hlocks := B.notSynchronized
  have S : CallFix p m c cX10_above 1 s ([.int x0] : List Value).toArray wz_X10_above RX10 := ⟨hx, hb, hml, hown, hts⟩
  have hK := hBm.2.2.2.1
  have hZ := hBm.2.2.2.2
  have hM : mm_W D cs A L K N s.heap I P s.heap [] := ⟨hBm.1, hBm.2.1, hBm.2.2.1, va_S.rf⟩
  have hl := lv_entry ([.int x0]) (n := 1) (Nat.le_of_ble_eq_true rfl)
  rw [lg_entry_eq]
  generalize (lg_sl ([.int x0]) ++ List.replicate (1 - (lg_sl ([.int x0])).length) Slot.unset).toArray = ls at hl ⊢
  have hl : lv_has ls 1 [(0, .int x0)] := hl
  generalize hQ : MQ below (va_Qi (fun r (_ : Unit) => r = res) (fun _ => mm_B D cs A L K N z w I P) A) ([.int x0] : List Value).toArray s 0 0 A = QQ
  unfold fn_X10_above at hf
  refine lv_iload_n hx hb dX10_above_0 rfl (lv_at hl 0 rfl) ?_
  refine lv_iconst (v := (3 : Int32)) hx hb dX10_above_1 (by decide) ?_
  refine lv_icmp_ne (tgt := 9) hx hb dX10_above_2 (by decide) (fun hc1 => ?_) (fun hc1 => ?_)
  · have hf := it_n hf hc1
    refine lv_iload_n hx hb dX10_above_9 rfl (lv_at hl 0 rfl) ?_
    refine lv_iconst (v := (4 : Int32)) hx hb dX10_above_10 (by decide) ?_
    refine lv_icmp_ne (tgt := 18) hx hb dX10_above_11 (by decide) (fun hc2 => ?_) (fun hc2 => ?_)
    · have hf := it_n hf hc2
      refine lv_iload_n hx hb dX10_above_18 rfl (lv_at hl 0 rfl) ?_
      refine lv_if_ne (tgt := 26) hx hb dX10_above_19 (by decide) (fun hc3 => ?_) (fun hc3 => ?_)
      · have hf := it_n hf hc3
        refine lv_iconst (v := (0 : Int32)) hx hb dX10_above_26 (by decide) ?_
        obtain rfl := Option.some.inj hf
        subst hQ
        exact ev_iret S hr hlocks hK hZ hM dX10_above_27
      · have hf := it_p hf hc3
        refine lv_iconst (v := (-1 : Int32)) hx hb dX10_above_22 (by decide) ?_
        refine lv_goto (tgt := 27) hx hb dX10_above_23 (by decide) ?_
        obtain rfl := Option.some.inj hf
        subst hQ
        exact ev_iret S hr hlocks hK hZ hM dX10_above_27
    · have hf := it_p hf hc2
      refine lv_iconst (v := (2 : Int32)) hx hb dX10_above_14 (by decide) ?_
      refine lv_goto (tgt := 27) hx hb dX10_above_15 (by decide) ?_
      obtain rfl := Option.some.inj hf
      subst hQ
      exact ev_iret S hr hlocks hK hZ hM dX10_above_27
  · have hf := it_p hf hc1
    refine lv_iconst (v := (1 : Int32)) hx hb dX10_above_5 (by decide) ?_
    refine lv_goto (tgt := 27) hx hb dX10_above_6 (by decide) ?_
    obtain rfl := Option.some.inj hf
    subst hQ
    exact ev_iret S hr hlocks hK hZ hM dX10_above_27
noncomputable def fn_X10_taken_L38 (x2 : Int32) : Nat → Int32 → Option (Int32)
  | 0, _ => none
  | n + 1, v11 => if v11 = x2 then (some v11) else (if v11 = (-1 : Int32) then (some v11) else (Option.bind (fn_X10_above v11) (fun (r15 : Int32) => fn_X10_taken_L38 x2 n r15)))
noncomputable def fn_X10_taken (K N : Nat → Nat) (I : Nat → Nat → Int32) (P : Nat → Nat → Option Nat) (a0 : Nat) (x1 : Int32) (x2 : Int32) (x3 : Int32) : Option (Int32) := Option.bind (fn_X10_isLayer K N I P a0 x1) (fun (r1 : Int32) => gd (K a0 = 11) (if r1 = 0 then (some (-2 : Int32)) else (Option.bind (fn_X10_isIn x2 (0 : Int32) (5 : Int32)) (fun (r4 : Int32) => if r4 = 0 then (some (-2 : Int32)) else (Option.bind (fn_X10_isByte x3) (fun (r6 : Int32) => if r6 = 0 then (some (-2 : Int32)) else (Option.bind (P a0 (0)) (fun q8 => gd (K q8 = 12 ∧ vp_in ((8 : Int32) + x1) (N q8)) (Option.bind (some (I q8 (((8 : Int32) + x1)).toNatClampNeg)) (fun v10 => Option.bind (fn_X10_taken_L38 x2 FU v10) (fun (r12 : Int32) => if r12 = (-1 : Int32) then (some (-13 : Int32)) else (gd (K q8 = 12 ∧ vp_in ((12 : Int32) + x1) (N q8)) (Option.bind (fn_X10_blended (I q8 (((8 : Int32) + x1)).toNatClampNeg) (I q8 (((12 : Int32) + x1)).toNatClampNeg) x3 (200 : Int32)) (fun (r18 : Int32) => some r18))))))))))))))
abbrev wz_X10_taken : List Cond := Cond.code yX10_taken cX10_taken 5 (some .int) :: WA
abbrev rm_X10_taken : Room := { frames := 3, cells := 0, slots := 0, locals := 55 }
set_option maxHeartbeats 4000000 in
set_option maxRecDepth 100000 in
theorem c_X10_taken (I : Nat → Nat → Int32) (P : Nat → Nat → Option Nat) (a0 : Nat) (x1 : Int32) (x2 : Int32) (x3 : Int32) (res : Int32) (hf : fn_X10_taken K N I P a0 x1 x2 x3 = some res) : Met l yX10_taken wz_X10_taken rm_X10_taken (va_Pc [.ref a0, .int x1, .int x2, .int x3] (mm_B D cs A L K N z w I P)) (va_Qi (fun r (_ : Unit) => r = res) (fun _ => mm_B D cs A L K N z w I P) A) 0 0 A := by
  refine Met.ofW (cc := cX10_taken) (maxL := 5) (ret := (some .int)) (by decide) rfl ?_
  intro p e s m args below meth c s₁ B hml hv
  obtain ⟨rfl, hBm⟩ := hv
  have hx := B.exec
  have hb := B.bytes
  have hr := B.returns
  have hts := atoms_spec (ws := wz_X10_taken) B.pre
  have hWA : ∀ w ∈ WA, w.before ([.ref a0, .int x1, .int x2, .int x3] : List Value).toArray s = true := fun u9 h9 => hts u9 (List.mem_cons_of_mem _ h9)
  have hown : s.vm.findClass RX10 = some m.cls := findClass_of_methodNamed B.named
  have hlocks := B.notSynchronized
  have S : CallFix p m c cX10_taken 5 s ([.ref a0, .int x1, .int x2, .int x3] : List Value).toArray wz_X10_taken RX10 := ⟨hx, hb, hml, hown, hts⟩
  have hK := hBm.2.2.2.1
  have hZ := hBm.2.2.2.2
  have hM : mm_W D cs A L K N s.heap I P s.heap [] := ⟨hBm.1, hBm.2.1, hBm.2.2.1, va_S.rf⟩
  have hl := lv_entry ([.ref a0, .int x1, .int x2, .int x3]) (n := 5) (Nat.le_of_ble_eq_true rfl)
  rw [lg_entry_eq]
  generalize (lg_sl ([.ref a0, .int x1, .int x2, .int x3]) ++ List.replicate (5 - (lg_sl ([.ref a0, .int x1, .int x2, .int x3])).length) Slot.unset).toArray = ls at hl ⊢
  have hl : lv_has ls 5 [(0, .ref a0), (1, .int x1), (2, .int x2), (3, .int x3)] := hl
  have hin10 : ∀ w ∈ wsX100, w ∈ wz_X10_taken := fun w h => List.mem_cons_of_mem _ (wu_X10 w h)
  have lk9 : (Cond.fieldLink RX10 9 RX10 "g" "[I").before ([.ref a0, .int x1, .int x2, .int x3] : List Value).toArray s = true := hWA _ wa_4_141
  generalize hQ : MQ below (va_Qi (fun r (_ : Unit) => r = res) (fun _ => mm_B D cs A L K N z w I P) A) ([.ref a0, .int x1, .int x2, .int x3] : List Value).toArray s 0 0 A = QQ
  rw [fn_X10_taken] at hf
  refine lv_aload_n hx hb dX10_taken_0 rfl (lv_at hl 0 rfl) ?_
  refine lv_iload_n hx hb dX10_taken_1 rfl (lv_at hl 1 rfl) ?_
  refine bd_e hf (fun r1 er1 hf => ?_)
  refine gd_e hf (fun hg2 hf => ?_)
  refine ev_calli (va_runV (As := [.int x1]) (rest := []) S (c_X10_isLayer (l := l) I P a0 x1 r1 er1) (cwV 1 hts (gi_v wa_4_232 wa_4_234 wa_s_27 wa_1_11 wa_4_235) rfl rfl rfl (by decide +kernel) ⟨Nat.le_of_ble_eq_true rfl, Nat.le_of_ble_eq_true rfl⟩) ⟨mm_B_blind, ev_recv hK hM (ci := 10) rfl hg2 rfl, fun U hU hW => ⟨rfl, mm_B_of hK hZ hM hU hW⟩⟩ rfl rfl hl.1 rfl (lv_room (Nat.le_of_ble_eq_true rfl)) dX10_taken_2 ⟨Nat.zero_le _, Nat.zero_le _⟩) hM (fun H locs hM => ?_)
  refine lv_if_eq (tgt := 24) hx hb dX10_taken_5 (by decide) (fun hc3 => ?_) (fun hc3 => ?_)
  · have hf := it_p hf hc3
    refine lv_bipush (v := (-2 : Int32)) hx hb dX10_taken_24 (by decide) ?_
    obtain rfl := Option.some.inj hf
    subst hQ
    exact ev_iret S hr hlocks hK hZ hM dX10_taken_26
  · have hf := it_n hf hc3
    refine lv_iload_n hx hb dX10_taken_8 rfl (lv_at hl 2 rfl) ?_
    refine lv_iconst (v := (0 : Int32)) hx hb dX10_taken_9 (by decide) ?_
    refine lv_iconst (v := (5 : Int32)) hx hb dX10_taken_10 (by decide) ?_
    refine bd_e hf (fun r4 er4 hf => ?_)
    refine ev_calli (va_runS (As := [.int x2, .int (0 : Int32), .int (5 : Int32)]) (rest := []) S (c_X10_isIn (l := l) I P x2 (0 : Int32) (5 : Int32) r4 er4) (va_cwS 3 hts (gi_s wa_4_218 wa_4_219 wa_1_11 wa_4_220) rfl rfl rfl (by decide +kernel) ⟨Nat.le_of_ble_eq_true rfl, Nat.le_of_ble_eq_true rfl⟩) ⟨mm_B_blind, fun U hU hW => ⟨rfl, mm_B_of hK hZ hM hU hW⟩⟩ rfl rfl hl.1 rfl (lv_room (Nat.le_of_ble_eq_true rfl)) dX10_taken_11 ⟨Nat.zero_le _, Nat.zero_le _⟩) hM (fun H locs hM => ?_)
    refine lv_if_eq (tgt := 24) hx hb dX10_taken_14 (by decide) (fun hc5 => ?_) (fun hc5 => ?_)
    · have hf := it_p hf hc5
      refine lv_bipush (v := (-2 : Int32)) hx hb dX10_taken_24 (by decide) ?_
      obtain rfl := Option.some.inj hf
      subst hQ
      exact ev_iret S hr hlocks hK hZ hM dX10_taken_26
    · have hf := it_n hf hc5
      refine lv_iload_n hx hb dX10_taken_17 rfl (lv_at hl 3 rfl) ?_
      refine bd_e hf (fun r6 er6 hf => ?_)
      refine ev_calli (va_runS (As := [.int x3]) (rest := []) S (c_X10_isByte (l := l) I P x3 r6 er6) (va_cwS 1 hts (gi_s wa_4_221 wa_4_222 wa_1_11 wa_4_223) rfl rfl rfl (by decide +kernel) ⟨Nat.le_of_ble_eq_true rfl, Nat.le_of_ble_eq_true rfl⟩) ⟨mm_B_blind, fun U hU hW => ⟨rfl, mm_B_of hK hZ hM hU hW⟩⟩ rfl rfl hl.1 rfl (lv_room (Nat.le_of_ble_eq_true rfl)) dX10_taken_18 ⟨Nat.zero_le _, Nat.zero_le _⟩) hM (fun H locs hM => ?_)
      refine lv_if_ne (tgt := 27) hx hb dX10_taken_21 (by decide) (fun hc7 => ?_) (fun hc7 => ?_)
      · have hf := it_n hf hc7
        refine lv_aload_n hx hb dX10_taken_27 rfl (lv_at hl 0 rfl) ?_
        refine bd_e hf (fun q8 eq8 hf => ?_)
        refine ev_getP (v := q8) S hK hM (ci := 10) (n := 23) (C := RX10) (T := TX10) hin10 rfl hg2 0 (by decide) lk9 rfl rfl eq8 rfl dX10_taken_28 ?_
        refine lv_bipush (v := (8 : Int32)) hx hb dX10_taken_31 (by decide) ?_
        refine lv_iload_n hx hb dX10_taken_33 rfl (lv_at hl 1 rfl) ?_
        refine lv_iadd hx hb dX10_taken_34 ?_
        refine gd_e hf (fun hg9 hf => ?_)
        refine ev_iald S hK hM hg9 (j := (((8 : Int32) + x1)).toNatClampNeg) rfl dX10_taken_35 ?_
        refine lv_topi (fun v10 ev10 => ?_)
        have hf := nm_x ev10 hf
        refine lv_istore (lv' := [(4, .int v10), (0, .ref a0), (1, .int x1), (2, .int x2), (3, .int x3)]) hx hb dX10_taken_36 hl (by decide) rfl (fun ls hl => ?_)
        have lp38_15 : ∀ (n : Nat) (v11 : Int32) (H : Heap) (locs : List Loc) (ls : Array Slot) (r12 : Int32), mm_W D cs A L K N s.heap I P H locs → lv_has ls 5 [(0, .ref a0), (1, .int x1), (2, .int x2), (3, .int x3), (4, .int v11)] → fn_X10_taken_L38 x2 n v11 = some r12 → (∀ (H : Heap) (locs : List Loc) (ls : Array Slot), mm_W D cs A L K N s.heap I P H locs → lv_has ls 5 [(0, .ref a0), (1, .int x1), (3, .int x3), (4, .int r12)] → W p l e (headSpec wz_X10_taken rm_X10_taken).room s m ([.ref a0, .int x1, .int x2, .int x3] : List Value).toArray below meth c H locs 0 0 QQ (F0 m 60 ls [])) → W p l e (headSpec wz_X10_taken rm_X10_taken).room s m ([.ref a0, .int x1, .int x2, .int x3] : List Value).toArray below meth c H locs 0 0 QQ (F0 m 38 ls []) := by
          intro n
          induction n with
          | zero => intro v11 H locs ls r12 hM hl hf kk; exact nn_x (show (none : Option (Int32)) = some r12 from hf)
          | succ n ih =>
            intro v11 H locs ls r12 hM hl hf kk
            rw [fn_X10_taken_L38] at hf
            refine lv_iload hx hb dX10_taken_38 (lv_at hl 4 rfl) ?_
            refine lv_iload_n hx hb dX10_taken_40 rfl (lv_at hl 2 rfl) ?_
            refine lv_icmp_eq (tgt := 60) hx hb dX10_taken_41 (by decide) (fun hc13 => ?_) (fun hc13 => ?_)
            · have hf := it_p hf hc13
              obtain rfl := Option.some.inj hf
              exact kk _ _ _ hM (lv_sub hl [0, 1, 3, 4] rfl)
            · have hf := it_n hf hc13
              refine lv_iload hx hb dX10_taken_44 (lv_at hl 4 rfl) ?_
              refine lv_iconst (v := (-1 : Int32)) hx hb dX10_taken_46 (by decide) ?_
              refine lv_icmp_eq (tgt := 60) hx hb dX10_taken_47 (by decide) (fun hc14 => ?_) (fun hc14 => ?_)
              · have hf := it_p hf hc14
                obtain rfl := Option.some.inj hf
                exact kk _ _ _ hM (lv_sub hl [0, 1, 3, 4] rfl)
              · have hf := it_n hf hc14
                refine lv_iload hx hb dX10_taken_50 (lv_at hl 4 rfl) ?_
                refine bd_e hf (fun r15 er15 hf => ?_)
                refine ev_calli (va_runS (As := [.int v11]) (rest := []) S (c_X10_above (l := l) I P v11 r15 er15) (va_cwS 1 hts (gi_s wa_5_28 wa_5_29 wa_1_11 wa_5_30) rfl rfl rfl (by decide +kernel) ⟨Nat.le_of_ble_eq_true rfl, Nat.le_of_ble_eq_true rfl⟩) ⟨mm_B_blind, fun U hU hW => ⟨rfl, mm_B_of hK hZ hM hU hW⟩⟩ rfl rfl hl.1 rfl (lv_room (Nat.le_of_ble_eq_true rfl)) dX10_taken_52 ⟨Nat.zero_le _, Nat.zero_le _⟩) hM (fun H locs hM => ?_)
                refine lv_istore (lv' := [(4, .int r15), (0, .ref a0), (1, .int x1), (2, .int x2), (3, .int x3)]) hx hb dX10_taken_55 hl (by decide) rfl (fun ls hl => ?_)
                refine lv_goto (tgt := 38) hx hb dX10_taken_57 (by decide) ?_
                exact ih r15 _ _ _ _ hM (lv_sub hl [1, 2, 3, 4, 0] rfl) hf kk
        refine bd_e hf (fun r12 er12 hf => ?_)
        refine lp38_15 FU v10 _ _ _ r12 hM (lv_sub hl [1, 2, 3, 4, 0] rfl) er12 (fun H locs ls hM hl => ?_)
        refine lv_iload hx hb dX10_taken_60 (lv_at hl 3 rfl) ?_
        refine lv_iconst (v := (-1 : Int32)) hx hb dX10_taken_62 (by decide) ?_
        refine lv_icmp_ne (tgt := 71) hx hb dX10_taken_63 (by decide) (fun hc16 => ?_) (fun hc16 => ?_)
        · have hf := it_n hf hc16
          refine lv_aload_n hx hb dX10_taken_71 rfl (lv_at hl 0 rfl) ?_
          refine ev_getP (v := q8) S hK hM (ci := 10) (n := 23) (C := RX10) (T := TX10) hin10 rfl hg2 0 (by decide) lk9 rfl rfl eq8 rfl dX10_taken_72 ?_
          refine lv_bipush (v := (8 : Int32)) hx hb dX10_taken_75 (by decide) ?_
          refine lv_iload_n hx hb dX10_taken_77 rfl (lv_at hl 1 rfl) ?_
          refine lv_iadd hx hb dX10_taken_78 ?_
          refine ev_iald S hK hM hg9 (j := (((8 : Int32) + x1)).toNatClampNeg) rfl dX10_taken_79 ?_
          refine lv_aload_n hx hb dX10_taken_80 rfl (lv_at hl 0 rfl) ?_
          refine ev_getP (v := q8) S hK hM (ci := 10) (n := 23) (C := RX10) (T := TX10) hin10 rfl hg2 0 (by decide) lk9 rfl rfl eq8 rfl dX10_taken_81 ?_
          refine lv_bipush (v := (12 : Int32)) hx hb dX10_taken_84 (by decide) ?_
          refine lv_iload_n hx hb dX10_taken_86 rfl (lv_at hl 1 rfl) ?_
          refine lv_iadd hx hb dX10_taken_87 ?_
          refine gd_e hf (fun hg17 hf => ?_)
          refine ev_iald S hK hM hg17 (j := (((12 : Int32) + x1)).toNatClampNeg) rfl dX10_taken_88 ?_
          refine lv_iload_n hx hb dX10_taken_89 rfl (lv_at hl 2 rfl) ?_
          refine lv_sipush (v := (200 : Int32)) hx hb dX10_taken_90 (by decide) ?_
          refine bd_e hf (fun r18 er18 hf => ?_)
          refine ev_calli (va_runS (As := [.int (I q8 (((8 : Int32) + x1)).toNatClampNeg), .int (I q8 (((12 : Int32) + x1)).toNatClampNeg), .int x3, .int (200 : Int32)]) (rest := []) S (c_X10_blended (l := l) I P (I q8 (((8 : Int32) + x1)).toNatClampNeg) (I q8 (((12 : Int32) + x1)).toNatClampNeg) x3 (200 : Int32) r18 er18) (va_cwS 4 hts (gi_s wa_5_31 wa_5_32 wa_1_11 wa_5_33) rfl rfl rfl (by decide +kernel) ⟨Nat.le_of_ble_eq_true rfl, Nat.le_of_ble_eq_true rfl⟩) ⟨mm_B_blind, fun U hU hW => ⟨rfl, mm_B_of hK hZ hM hU hW⟩⟩ rfl rfl hl.1 rfl (lv_room (Nat.le_of_ble_eq_true rfl)) dX10_taken_93 ⟨Nat.zero_le _, Nat.zero_le _⟩) hM (fun H locs hM => ?_)
          obtain rfl := Option.some.inj hf
          subst hQ
          exact ev_iret S hr hlocks hK hZ hM dX10_taken_96
        · have hf := it_p hf hc16
          refine lv_bipush (v := (-13 : Int32)) hx hb dX10_taken_66 (by decide) ?_
          refine lv_goto (tgt := 96) hx hb dX10_taken_68 (by decide) ?_
          obtain rfl := Option.some.inj hf
          subst hQ
          exact ev_iret S hr hlocks hK hZ hM dX10_taken_96
      · have hf := it_p hf hc7
        refine lv_bipush (v := (-2 : Int32)) hx hb dX10_taken_24 (by decide) ?_
        obtain rfl := Option.some.inj hf
        subst hQ
        exact ev_iret S hr hlocks hK hZ hM dX10_taken_26
noncomputable def fn_X10_dot (K N : Nat → Nat) (I : Nat → Nat → Int32) (P : Nat → Nat → Option Nat) (a0 : Nat) (x1 : Int32) (x2 : Int32) (x3 : Int32) (x4 : Int32) : Option (Int32) := if x1 = (-1 : Int32) then (Option.bind (fn_X10_isDot x2 x3) (fun (r2 : Int32) => if r2 = 0 then (some (-2 : Int32)) else (Option.bind (if x1 = (-1 : Int32) then (some (0 : Int32)) else (some (1 : Int32))) (fun (j5 : Int32) => Option.bind (fn_X10_isIn x4 (0 : Int32) j5) (fun (r6 : Int32) => if r6 = 0 then (some (-2 : Int32)) else (Option.bind (fn_X10_dotOf x2 x3) (fun (r8 : Int32) => if x1 = (-1 : Int32) then (Option.bind (fn_X10_seen_ K N I P a0 r8) (fun (r17 : Int32) => gd (K a0 = 11) (some r17))) else (if x4 = 0 then (gd (K a0 = 11) (Option.bind (P a0 (0)) (fun q15 => gd (K q15 = 12 ∧ vp_in (((20 : Int32) + ((192 : Int32) * x1)) + r8) (N q15)) (some (I q15 ((((20 : Int32) + ((192 : Int32) * x1)) + r8)).toNatClampNeg))))) else (gd (K a0 = 11) (Option.bind (P a0 (0)) (fun q12 => gd (K q12 = 12 ∧ vp_in (((788 : Int32) + ((192 : Int32) * x1)) + r8) (N q12)) (some (I q12 ((((788 : Int32) + ((192 : Int32) * x1)) + r8)).toNatClampNeg))))))))))))) else (Option.bind (fn_X10_isLayer K N I P a0 x1) (fun (r19 : Int32) => gd (K a0 = 11) (if r19 = 0 then (some (-2 : Int32)) else (Option.bind (fn_X10_isDot x2 x3) (fun (r22 : Int32) => if r22 = 0 then (some (-2 : Int32)) else (Option.bind (if x1 = (-1 : Int32) then (some (0 : Int32)) else (some (1 : Int32))) (fun (j25 : Int32) => Option.bind (fn_X10_isIn x4 (0 : Int32) j25) (fun (r26 : Int32) => if r26 = 0 then (some (-2 : Int32)) else (Option.bind (fn_X10_dotOf x2 x3) (fun (r28 : Int32) => if x1 = (-1 : Int32) then (Option.bind (fn_X10_seen_ K N I P a0 r28) (fun (r35 : Int32) => some r35)) else (if x4 = 0 then (Option.bind (P a0 (0)) (fun q33 => gd (K q33 = 12 ∧ vp_in (((20 : Int32) + ((192 : Int32) * x1)) + r28) (N q33)) (some (I q33 ((((20 : Int32) + ((192 : Int32) * x1)) + r28)).toNatClampNeg)))) else (Option.bind (P a0 (0)) (fun q31 => gd (K q31 = 12 ∧ vp_in (((788 : Int32) + ((192 : Int32) * x1)) + r28) (N q31)) (some (I q31 ((((788 : Int32) + ((192 : Int32) * x1)) + r28)).toNatClampNeg)))))))))))))))
abbrev wz_X10_dot : List Cond := Cond.code yX10_dot cX10_dot 6 (some .int) :: WA
abbrev rm_X10_dot : Room := { frames := 5, cells := 0, slots := 0, locals := 102 }
set_option maxHeartbeats 4000000 in
set_option maxRecDepth 100000 in
theorem c_X10_dot (I : Nat → Nat → Int32) (P : Nat → Nat → Option Nat) (a0 : Nat) (x1 : Int32) (x2 : Int32) (x3 : Int32) (x4 : Int32) (res : Int32) (hf : fn_X10_dot K N I P a0 x1 x2 x3 x4 = some res) : Met l yX10_dot wz_X10_dot rm_X10_dot (va_Pc [.ref a0, .int x1, .int x2, .int x3, .int x4] (mm_B D cs A L K N z w I P)) (va_Qi (fun r (_ : Unit) => r = res) (fun _ => mm_B D cs A L K N z w I P) A) 0 0 A := by
  refine Met.ofW (cc := cX10_dot) (maxL := 6) (ret := (some .int)) (by decide) rfl ?_
  intro p e s m args below meth c s₁ B hml hv
  obtain ⟨rfl, hBm⟩ := hv
  have hx := B.exec
  have hb := B.bytes
  have hr := B.returns
  have hts := atoms_spec (ws := wz_X10_dot) B.pre
  have hWA : ∀ w ∈ WA, w.before ([.ref a0, .int x1, .int x2, .int x3, .int x4] : List Value).toArray s = true := fun u9 h9 => hts u9 (List.mem_cons_of_mem _ h9)
  have hown : s.vm.findClass RX10 = some m.cls := findClass_of_methodNamed B.named
  have hlocks := B.notSynchronized
  have S : CallFix p m c cX10_dot 6 s ([.ref a0, .int x1, .int x2, .int x3, .int x4] : List Value).toArray wz_X10_dot RX10 := ⟨hx, hb, hml, hown, hts⟩
  have hK := hBm.2.2.2.1
  have hZ := hBm.2.2.2.2
  have hM : mm_W D cs A L K N s.heap I P s.heap [] := ⟨hBm.1, hBm.2.1, hBm.2.2.1, va_S.rf⟩
  have hl := lv_entry ([.ref a0, .int x1, .int x2, .int x3, .int x4]) (n := 6) (Nat.le_of_ble_eq_true rfl)
  rw [lg_entry_eq]
  generalize (lg_sl ([.ref a0, .int x1, .int x2, .int x3, .int x4]) ++ List.replicate (6 - (lg_sl ([.ref a0, .int x1, .int x2, .int x3, .int x4])).length) Slot.unset).toArray = ls at hl ⊢
  have hl : lv_has ls 6 [(0, .ref a0), (1, .int x1), (2, .int x2), (3, .int x3), (4, .int x4)] := hl
  have hin10 : ∀ w ∈ wsX100, w ∈ wz_X10_dot := fun w h => List.mem_cons_of_mem _ (wu_X10 w h)
  have lk9 : (Cond.fieldLink RX10 9 RX10 "g" "[I").before ([.ref a0, .int x1, .int x2, .int x3, .int x4] : List Value).toArray s = true := hWA _ wa_4_141
  generalize hQ : MQ below (va_Qi (fun r (_ : Unit) => r = res) (fun _ => mm_B D cs A L K N z w I P) A) ([.ref a0, .int x1, .int x2, .int x3, .int x4] : List Value).toArray s 0 0 A = QQ
  rw [fn_X10_dot] at hf
  refine lv_iload_n hx hb dX10_dot_0 rfl (lv_at hl 1 rfl) ?_
  refine lv_iconst (v := (-1 : Int32)) hx hb dX10_dot_1 (by decide) ?_
  refine lv_icmp_eq (tgt := 13) hx hb dX10_dot_2 (by decide) (fun hc1 => ?_) (fun hc1 => ?_)
  · have hf := it_p hf hc1
    refine lv_iload_n hx hb dX10_dot_13 rfl (lv_at hl 2 rfl) ?_
    refine lv_iload_n hx hb dX10_dot_14 rfl (lv_at hl 3 rfl) ?_
    refine bd_e hf (fun r2 er2 hf => ?_)
    refine ev_calli (va_runS (As := [.int x2, .int x3]) (rest := []) S (c_X10_isDot (l := l) I P x2 x3 r2 er2) (va_cwS 2 hts (gi_s wa_5_40 wa_5_41 wa_1_11 wa_5_42) rfl rfl rfl (by decide +kernel) ⟨Nat.le_of_ble_eq_true rfl, Nat.le_of_ble_eq_true rfl⟩) ⟨mm_B_blind, fun U hU hW => ⟨rfl, mm_B_of hK hZ hM hU hW⟩⟩ rfl rfl hl.1 rfl (lv_room (Nat.le_of_ble_eq_true rfl)) dX10_dot_15 ⟨Nat.zero_le _, Nat.zero_le _⟩) hM (fun H locs hM => ?_)
    refine lv_if_eq (tgt := 40) hx hb dX10_dot_18 (by decide) (fun hc3 => ?_) (fun hc3 => ?_)
    · have hf := it_p hf hc3
      refine lv_bipush (v := (-2 : Int32)) hx hb dX10_dot_40 (by decide) ?_
      obtain rfl := Option.some.inj hf
      subst hQ
      exact ev_iret S hr hlocks hK hZ hM dX10_dot_42
    · have hf := it_n hf hc3
      refine lv_iload hx hb dX10_dot_21 (lv_at hl 4 rfl) ?_
      refine lv_iconst (v := (0 : Int32)) hx hb dX10_dot_23 (by decide) ?_
      refine lv_iload_n hx hb dX10_dot_24 rfl (lv_at hl 1 rfl) ?_
      refine lv_iconst (v := (-1 : Int32)) hx hb dX10_dot_25 (by decide) ?_
      refine bd_e hf (fun j5 ej5 hf => ?_)
      have kj5 : ∀ (H : Heap) (locs : List Loc) (ls : Array Slot), mm_W D cs A L K N s.heap I P H locs → lv_has ls 6 [(0, .ref a0), (1, .int x1), (2, .int x2), (3, .int x3), (4, .int x4)] → W p l e (headSpec wz_X10_dot rm_X10_dot).room s m ([.ref a0, .int x1, .int x2, .int x3, .int x4] : List Value).toArray below meth c H locs 0 0 QQ (F0 m 34 ls [.int j5, .int (0 : Int32), .int x4]) := by
        intro H locs ls hM hl
        refine bd_e hf (fun r6 er6 hf => ?_)
        refine ev_calli (va_runS (As := [.int x4, .int (0 : Int32), .int j5]) (rest := []) S (c_X10_isIn (l := l) I P x4 (0 : Int32) j5 r6 er6) (va_cwS 3 hts (gi_s wa_4_218 wa_4_219 wa_1_11 wa_4_220) rfl rfl rfl (by decide +kernel) ⟨Nat.le_of_ble_eq_true rfl, Nat.le_of_ble_eq_true rfl⟩) ⟨mm_B_blind, fun U hU hW => ⟨rfl, mm_B_of hK hZ hM hU hW⟩⟩ rfl rfl hl.1 rfl (lv_room (Nat.le_of_ble_eq_true rfl)) dX10_dot_34 ⟨Nat.zero_le _, Nat.zero_le _⟩) hM (fun H locs hM => ?_)
        refine lv_if_ne (tgt := 43) hx hb dX10_dot_37 (by decide) (fun hc7 => ?_) (fun hc7 => ?_)
        · have hf := it_n hf hc7
          refine lv_iload_n hx hb dX10_dot_43 rfl (lv_at hl 2 rfl) ?_
          refine lv_iload_n hx hb dX10_dot_44 rfl (lv_at hl 3 rfl) ?_
          refine bd_e hf (fun r8 er8 hf => ?_)
          refine ev_calli (va_runS (As := [.int x2, .int x3]) (rest := []) S (c_X10_dotOf (l := l) I P x2 x3 r8 er8) (va_cwS 2 hts (gi_s wa_5_43 wa_5_44 wa_1_11 wa_5_45) rfl rfl rfl (by decide +kernel) ⟨Nat.le_of_ble_eq_true rfl, Nat.le_of_ble_eq_true rfl⟩) ⟨mm_B_blind, fun U hU hW => ⟨rfl, mm_B_of hK hZ hM hU hW⟩⟩ rfl rfl hl.1 rfl (lv_room (Nat.le_of_ble_eq_true rfl)) dX10_dot_45 ⟨Nat.zero_le _, Nat.zero_le _⟩) hM (fun H locs hM => ?_)
          refine lv_istore (lv' := [(5, .int r8), (0, .ref a0), (1, .int x1), (2, .int x2), (3, .int x3), (4, .int x4)]) hx hb dX10_dot_48 hl (by decide) rfl (fun ls hl => ?_)
          refine lv_iload_n hx hb dX10_dot_50 rfl (lv_at hl 2 rfl) ?_
          refine lv_iconst (v := (-1 : Int32)) hx hb dX10_dot_51 (by decide) ?_
          refine lv_icmp_ne (tgt := 64) hx hb dX10_dot_52 (by decide) (fun hc9 => ?_) (fun hc9 => ?_)
          · have hf := it_n hf hc9
            refine lv_iload hx hb dX10_dot_64 (lv_at hl 5 rfl) ?_
            refine lv_if_ne (tgt := 88) hx hb dX10_dot_66 (by decide) (fun hc10 => ?_) (fun hc10 => ?_)
            · have hf := it_n hf hc10
              refine lv_aload_n hx hb dX10_dot_88 rfl (lv_at hl 1 rfl) ?_
              refine gd_e hf (fun hg11 hf => ?_)
              refine bd_e hf (fun q12 eq12 hf => ?_)
              refine ev_getP (v := q12) S hK hM (ci := 10) (n := 23) (C := RX10) (T := TX10) hin10 rfl hg11 0 (by decide) lk9 rfl rfl eq12 rfl dX10_dot_89 ?_
              refine lv_sipush (v := (788 : Int32)) hx hb dX10_dot_92 (by decide) ?_
              refine lv_sipush (v := (192 : Int32)) hx hb dX10_dot_95 (by decide) ?_
              refine lv_iload_n hx hb dX10_dot_98 rfl (lv_at hl 2 rfl) ?_
              refine lv_imul hx hb dX10_dot_99 ?_
              refine lv_iadd hx hb dX10_dot_100 ?_
              refine lv_iload hx hb dX10_dot_101 (lv_at hl 0 rfl) ?_
              refine lv_iadd hx hb dX10_dot_103 ?_
              refine gd_e hf (fun hg13 hf => ?_)
              refine ev_iald S hK hM hg13 (j := ((((788 : Int32) + ((192 : Int32) * x1)) + r8)).toNatClampNeg) rfl dX10_dot_104 ?_
              obtain rfl := Option.some.inj hf
              subst hQ
              exact ev_iret S hr hlocks hK hZ hM dX10_dot_105
            · have hf := it_p hf hc10
              refine lv_aload_n hx hb dX10_dot_69 rfl (lv_at hl 1 rfl) ?_
              refine gd_e hf (fun hg14 hf => ?_)
              refine bd_e hf (fun q15 eq15 hf => ?_)
              refine ev_getP (v := q15) S hK hM (ci := 10) (n := 23) (C := RX10) (T := TX10) hin10 rfl hg14 0 (by decide) lk9 rfl rfl eq15 rfl dX10_dot_70 ?_
              refine lv_bipush (v := (20 : Int32)) hx hb dX10_dot_73 (by decide) ?_
              refine lv_sipush (v := (192 : Int32)) hx hb dX10_dot_75 (by decide) ?_
              refine lv_iload_n hx hb dX10_dot_78 rfl (lv_at hl 2 rfl) ?_
              refine lv_imul hx hb dX10_dot_79 ?_
              refine lv_iadd hx hb dX10_dot_80 ?_
              refine lv_iload hx hb dX10_dot_81 (lv_at hl 0 rfl) ?_
              refine lv_iadd hx hb dX10_dot_83 ?_
              refine gd_e hf (fun hg16 hf => ?_)
              refine ev_iald S hK hM hg16 (j := ((((20 : Int32) + ((192 : Int32) * x1)) + r8)).toNatClampNeg) rfl dX10_dot_84 ?_
              refine lv_goto (tgt := 105) hx hb dX10_dot_85 (by decide) ?_
              obtain rfl := Option.some.inj hf
              subst hQ
              exact ev_iret S hr hlocks hK hZ hM dX10_dot_105
          · have hf := it_p hf hc9
            refine lv_aload_n hx hb dX10_dot_55 rfl (lv_at hl 1 rfl) ?_
            refine lv_iload hx hb dX10_dot_56 (lv_at hl 0 rfl) ?_
            refine bd_e hf (fun r17 er17 hf => ?_)
            refine gd_e hf (fun hg18 hf => ?_)
            refine ev_calli (va_runV (As := [.int r8]) (rest := []) S (c_X10_seen_ (l := l) I P a0 r8 r17 er17) (cwV 1 hts (gi_v wa_5_46 wa_5_48 wa_s_32 wa_1_11 wa_5_49) rfl rfl rfl (by decide +kernel) ⟨Nat.le_of_ble_eq_true rfl, Nat.le_of_ble_eq_true rfl⟩) ⟨mm_B_blind, ev_recv hK hM (ci := 10) rfl hg18 rfl, fun U hU hW => ⟨rfl, mm_B_of hK hZ hM hU hW⟩⟩ rfl rfl hl.1 rfl (lv_room (Nat.le_of_ble_eq_true rfl)) dX10_dot_58 ⟨Nat.zero_le _, Nat.zero_le _⟩) hM (fun H locs hM => ?_)
            refine lv_goto (tgt := 105) hx hb dX10_dot_61 (by decide) ?_
            obtain rfl := Option.some.inj hf
            subst hQ
            exact ev_iret S hr hlocks hK hZ hM dX10_dot_105
        · have hf := it_p hf hc7
          refine lv_bipush (v := (-2 : Int32)) hx hb dX10_dot_40 (by decide) ?_
          obtain rfl := Option.some.inj hf
          subst hQ
          exact ev_iret S hr hlocks hK hZ hM dX10_dot_42
      have hf := ej5
      refine lv_icmp_ne (tgt := 33) hx hb dX10_dot_26 (by decide) (fun hc4 => ?_) (fun hc4 => ?_)
      · have hf := it_n hf hc4
        refine lv_iconst (v := (1 : Int32)) hx hb dX10_dot_33 (by decide) ?_
        obtain rfl := Option.some.inj hf
        exact kj5 _ _ _ hM (hl)
      · have hf := it_p hf hc4
        refine lv_iconst (v := (0 : Int32)) hx hb dX10_dot_29 (by decide) ?_
        refine lv_goto (tgt := 34) hx hb dX10_dot_30 (by decide) ?_
        obtain rfl := Option.some.inj hf
        exact kj5 _ _ _ hM (hl)
  · have hf := it_n hf hc1
    refine lv_aload_n hx hb dX10_dot_5 rfl (lv_at hl 0 rfl) ?_
    refine lv_iload_n hx hb dX10_dot_6 rfl (lv_at hl 1 rfl) ?_
    refine bd_e hf (fun r19 er19 hf => ?_)
    refine gd_e hf (fun hg20 hf => ?_)
    refine ev_calli (va_runV (As := [.int x1]) (rest := []) S (c_X10_isLayer (l := l) I P a0 x1 r19 er19) (cwV 1 hts (gi_v wa_4_232 wa_4_234 wa_s_27 wa_1_11 wa_4_235) rfl rfl rfl (by decide +kernel) ⟨Nat.le_of_ble_eq_true rfl, Nat.le_of_ble_eq_true rfl⟩) ⟨mm_B_blind, ev_recv hK hM (ci := 10) rfl hg20 rfl, fun U hU hW => ⟨rfl, mm_B_of hK hZ hM hU hW⟩⟩ rfl rfl hl.1 rfl (lv_room (Nat.le_of_ble_eq_true rfl)) dX10_dot_7 ⟨Nat.zero_le _, Nat.zero_le _⟩) hM (fun H locs hM => ?_)
    refine lv_if_eq (tgt := 40) hx hb dX10_dot_10 (by decide) (fun hc21 => ?_) (fun hc21 => ?_)
    · have hf := it_p hf hc21
      refine lv_bipush (v := (-2 : Int32)) hx hb dX10_dot_40 (by decide) ?_
      obtain rfl := Option.some.inj hf
      subst hQ
      exact ev_iret S hr hlocks hK hZ hM dX10_dot_42
    · have hf := it_n hf hc21
      refine lv_iload_n hx hb dX10_dot_13 rfl (lv_at hl 2 rfl) ?_
      refine lv_iload_n hx hb dX10_dot_14 rfl (lv_at hl 3 rfl) ?_
      refine bd_e hf (fun r22 er22 hf => ?_)
      refine ev_calli (va_runS (As := [.int x2, .int x3]) (rest := []) S (c_X10_isDot (l := l) I P x2 x3 r22 er22) (va_cwS 2 hts (gi_s wa_5_40 wa_5_41 wa_1_11 wa_5_42) rfl rfl rfl (by decide +kernel) ⟨Nat.le_of_ble_eq_true rfl, Nat.le_of_ble_eq_true rfl⟩) ⟨mm_B_blind, fun U hU hW => ⟨rfl, mm_B_of hK hZ hM hU hW⟩⟩ rfl rfl hl.1 rfl (lv_room (Nat.le_of_ble_eq_true rfl)) dX10_dot_15 ⟨Nat.zero_le _, Nat.zero_le _⟩) hM (fun H locs hM => ?_)
      refine lv_if_eq (tgt := 40) hx hb dX10_dot_18 (by decide) (fun hc23 => ?_) (fun hc23 => ?_)
      · have hf := it_p hf hc23
        refine lv_bipush (v := (-2 : Int32)) hx hb dX10_dot_40 (by decide) ?_
        obtain rfl := Option.some.inj hf
        subst hQ
        exact ev_iret S hr hlocks hK hZ hM dX10_dot_42
      · have hf := it_n hf hc23
        refine lv_iload hx hb dX10_dot_21 (lv_at hl 4 rfl) ?_
        refine lv_iconst (v := (0 : Int32)) hx hb dX10_dot_23 (by decide) ?_
        refine lv_iload_n hx hb dX10_dot_24 rfl (lv_at hl 1 rfl) ?_
        refine lv_iconst (v := (-1 : Int32)) hx hb dX10_dot_25 (by decide) ?_
        refine bd_e hf (fun j25 ej25 hf => ?_)
        have kj25 : ∀ (H : Heap) (locs : List Loc) (ls : Array Slot), mm_W D cs A L K N s.heap I P H locs → lv_has ls 6 [(0, .ref a0), (1, .int x1), (2, .int x2), (3, .int x3), (4, .int x4)] → W p l e (headSpec wz_X10_dot rm_X10_dot).room s m ([.ref a0, .int x1, .int x2, .int x3, .int x4] : List Value).toArray below meth c H locs 0 0 QQ (F0 m 34 ls [.int j25, .int (0 : Int32), .int x4]) := by
          intro H locs ls hM hl
          refine bd_e hf (fun r26 er26 hf => ?_)
          refine ev_calli (va_runS (As := [.int x4, .int (0 : Int32), .int j25]) (rest := []) S (c_X10_isIn (l := l) I P x4 (0 : Int32) j25 r26 er26) (va_cwS 3 hts (gi_s wa_4_218 wa_4_219 wa_1_11 wa_4_220) rfl rfl rfl (by decide +kernel) ⟨Nat.le_of_ble_eq_true rfl, Nat.le_of_ble_eq_true rfl⟩) ⟨mm_B_blind, fun U hU hW => ⟨rfl, mm_B_of hK hZ hM hU hW⟩⟩ rfl rfl hl.1 rfl (lv_room (Nat.le_of_ble_eq_true rfl)) dX10_dot_34 ⟨Nat.zero_le _, Nat.zero_le _⟩) hM (fun H locs hM => ?_)
          refine lv_if_ne (tgt := 43) hx hb dX10_dot_37 (by decide) (fun hc27 => ?_) (fun hc27 => ?_)
          · have hf := it_n hf hc27
            refine lv_iload_n hx hb dX10_dot_43 rfl (lv_at hl 2 rfl) ?_
            refine lv_iload_n hx hb dX10_dot_44 rfl (lv_at hl 3 rfl) ?_
            refine bd_e hf (fun r28 er28 hf => ?_)
            refine ev_calli (va_runS (As := [.int x2, .int x3]) (rest := []) S (c_X10_dotOf (l := l) I P x2 x3 r28 er28) (va_cwS 2 hts (gi_s wa_5_43 wa_5_44 wa_1_11 wa_5_45) rfl rfl rfl (by decide +kernel) ⟨Nat.le_of_ble_eq_true rfl, Nat.le_of_ble_eq_true rfl⟩) ⟨mm_B_blind, fun U hU hW => ⟨rfl, mm_B_of hK hZ hM hU hW⟩⟩ rfl rfl hl.1 rfl (lv_room (Nat.le_of_ble_eq_true rfl)) dX10_dot_45 ⟨Nat.zero_le _, Nat.zero_le _⟩) hM (fun H locs hM => ?_)
            refine lv_istore (lv' := [(5, .int r28), (0, .ref a0), (1, .int x1), (2, .int x2), (3, .int x3), (4, .int x4)]) hx hb dX10_dot_48 hl (by decide) rfl (fun ls hl => ?_)
            refine lv_iload_n hx hb dX10_dot_50 rfl (lv_at hl 2 rfl) ?_
            refine lv_iconst (v := (-1 : Int32)) hx hb dX10_dot_51 (by decide) ?_
            refine lv_icmp_ne (tgt := 64) hx hb dX10_dot_52 (by decide) (fun hc29 => ?_) (fun hc29 => ?_)
            · have hf := it_n hf hc29
              refine lv_iload hx hb dX10_dot_64 (lv_at hl 5 rfl) ?_
              refine lv_if_ne (tgt := 88) hx hb dX10_dot_66 (by decide) (fun hc30 => ?_) (fun hc30 => ?_)
              · have hf := it_n hf hc30
                refine lv_aload_n hx hb dX10_dot_88 rfl (lv_at hl 1 rfl) ?_
                refine bd_e hf (fun q31 eq31 hf => ?_)
                refine ev_getP (v := q31) S hK hM (ci := 10) (n := 23) (C := RX10) (T := TX10) hin10 rfl hg20 0 (by decide) lk9 rfl rfl eq31 rfl dX10_dot_89 ?_
                refine lv_sipush (v := (788 : Int32)) hx hb dX10_dot_92 (by decide) ?_
                refine lv_sipush (v := (192 : Int32)) hx hb dX10_dot_95 (by decide) ?_
                refine lv_iload_n hx hb dX10_dot_98 rfl (lv_at hl 2 rfl) ?_
                refine lv_imul hx hb dX10_dot_99 ?_
                refine lv_iadd hx hb dX10_dot_100 ?_
                refine lv_iload hx hb dX10_dot_101 (lv_at hl 0 rfl) ?_
                refine lv_iadd hx hb dX10_dot_103 ?_
                refine gd_e hf (fun hg32 hf => ?_)
                refine ev_iald S hK hM hg32 (j := ((((788 : Int32) + ((192 : Int32) * x1)) + r28)).toNatClampNeg) rfl dX10_dot_104 ?_
                obtain rfl := Option.some.inj hf
                subst hQ
                exact ev_iret S hr hlocks hK hZ hM dX10_dot_105
              · have hf := it_p hf hc30
                refine lv_aload_n hx hb dX10_dot_69 rfl (lv_at hl 1 rfl) ?_
                refine bd_e hf (fun q33 eq33 hf => ?_)
                refine ev_getP (v := q33) S hK hM (ci := 10) (n := 23) (C := RX10) (T := TX10) hin10 rfl hg20 0 (by decide) lk9 rfl rfl eq33 rfl dX10_dot_70 ?_
                refine lv_bipush (v := (20 : Int32)) hx hb dX10_dot_73 (by decide) ?_
                refine lv_sipush (v := (192 : Int32)) hx hb dX10_dot_75 (by decide) ?_
                refine lv_iload_n hx hb dX10_dot_78 rfl (lv_at hl 2 rfl) ?_
                refine lv_imul hx hb dX10_dot_79 ?_
                refine lv_iadd hx hb dX10_dot_80 ?_
                refine lv_iload hx hb dX10_dot_81 (lv_at hl 0 rfl) ?_
                refine lv_iadd hx hb dX10_dot_83 ?_
                refine gd_e hf (fun hg34 hf => ?_)
                refine ev_iald S hK hM hg34 (j := ((((20 : Int32) + ((192 : Int32) * x1)) + r28)).toNatClampNeg) rfl dX10_dot_84 ?_
                refine lv_goto (tgt := 105) hx hb dX10_dot_85 (by decide) ?_
                obtain rfl := Option.some.inj hf
                subst hQ
                exact ev_iret S hr hlocks hK hZ hM dX10_dot_105
            · have hf := it_p hf hc29
              refine lv_aload_n hx hb dX10_dot_55 rfl (lv_at hl 1 rfl) ?_
              refine lv_iload hx hb dX10_dot_56 (lv_at hl 0 rfl) ?_
              refine bd_e hf (fun r35 er35 hf => ?_)
              refine ev_calli (va_runV (As := [.int r28]) (rest := []) S (c_X10_seen_ (l := l) I P a0 r28 r35 er35) (cwV 1 hts (gi_v wa_5_46 wa_5_48 wa_s_32 wa_1_11 wa_5_49) rfl rfl rfl (by decide +kernel) ⟨Nat.le_of_ble_eq_true rfl, Nat.le_of_ble_eq_true rfl⟩) ⟨mm_B_blind, ev_recv hK hM (ci := 10) rfl hg20 rfl, fun U hU hW => ⟨rfl, mm_B_of hK hZ hM hU hW⟩⟩ rfl rfl hl.1 rfl (lv_room (Nat.le_of_ble_eq_true rfl)) dX10_dot_58 ⟨Nat.zero_le _, Nat.zero_le _⟩) hM (fun H locs hM => ?_)
              refine lv_goto (tgt := 105) hx hb dX10_dot_61 (by decide) ?_
              obtain rfl := Option.some.inj hf
              subst hQ
              exact ev_iret S hr hlocks hK hZ hM dX10_dot_105
          · have hf := it_p hf hc27
            refine lv_bipush (v := (-2 : Int32)) hx hb dX10_dot_40 (by decide) ?_
            obtain rfl := Option.some.inj hf
            subst hQ
            exact ev_iret S hr hlocks hK hZ hM dX10_dot_42
        have hf := ej25
        refine lv_icmp_ne (tgt := 33) hx hb dX10_dot_26 (by decide) (fun hc24 => ?_) (fun hc24 => ?_)
        · have hf := it_n hf hc24
          refine lv_iconst (v := (1 : Int32)) hx hb dX10_dot_33 (by decide) ?_
          obtain rfl := Option.some.inj hf
          exact kj25 _ _ _ hM (hl)
        · have hf := it_p hf hc24
          refine lv_iconst (v := (0 : Int32)) hx hb dX10_dot_29 (by decide) ?_
          refine lv_goto (tgt := 34) hx hb dX10_dot_30 (by decide) ?_
          obtain rfl := Option.some.inj hf
          exact kj25 _ _ _ hM (hl)
noncomputable def fn_X10_brush (K N : Nat → Nat) (I : Nat → Nat → Int32) (P : Nat → Nat → Option Nat) (a0 : Nat) (x1 : Int32) (x2 : Int32) (x3 : Int32) (x4 : Int32) : Option (Int32 × (Nat → Nat → Int32)) := Option.bind (fn_X10_isIn x1 (0 : Int32) (4 : Int32)) (fun (r1 : Int32) => if r1 = 0 then (some ((-2 : Int32), I)) else (Option.bind (fn_X10_isIn x2 (0 : Int32) (4 : Int32)) (fun (r3 : Int32) => if r3 = 0 then (some ((-2 : Int32), I)) else (if x3 = (-1 : Int32) then (Option.bind (fn_X10_isIn x4 (0 : Int32) (9 : Int32)) (fun (r6 : Int32) => if r6 = 0 then (some ((-2 : Int32), I)) else (gd (K a0 = 11) (Option.bind (P a0 (0)) (fun q9 => gd (K q9 = 12 ∧ vp_in (2 : Int32) (N q9)) (gd (K q9 = 12 ∧ vp_in (3 : Int32) (N q9)) (Option.bind (some (((10 : Int32) * (I q9 (2))) + (I q9 (3)))) (fun v12 => Option.bind (some (up2 I q9 (2) x1)) (fun I13 => Option.bind (some (up2 I13 q9 (3) x2)) (fun I14 => gd (K q9 = 12 ∧ vp_in (4 : Int32) (N q9)) (Option.bind (some (up2 I14 q9 (4) x3)) (fun I16 => gd (K q9 = 12 ∧ vp_in (5 : Int32) (N q9)) (Option.bind (some (up2 I16 q9 (5) x4)) (fun I18 => some (v12, I18))))))))))))))) else (Option.bind (fn_X10_isByte x3) (fun (r19 : Int32) => if r19 = 0 then (some ((-2 : Int32), I)) else (Option.bind (fn_X10_isIn x4 (0 : Int32) (9 : Int32)) (fun (r21 : Int32) => if r21 = 0 then (some ((-2 : Int32), I)) else (gd (K a0 = 11) (Option.bind (P a0 (0)) (fun q24 => gd (K q24 = 12 ∧ vp_in (2 : Int32) (N q24)) (gd (K q24 = 12 ∧ vp_in (3 : Int32) (N q24)) (Option.bind (some (((10 : Int32) * (I q24 (2))) + (I q24 (3)))) (fun v27 => Option.bind (some (up2 I q24 (2) x1)) (fun I28 => Option.bind (some (up2 I28 q24 (3) x2)) (fun I29 => gd (K q24 = 12 ∧ vp_in (4 : Int32) (N q24)) (Option.bind (some (up2 I29 q24 (4) x3)) (fun I31 => gd (K q24 = 12 ∧ vp_in (5 : Int32) (N q24)) (Option.bind (some (up2 I31 q24 (5) x4)) (fun I33 => some (v27, I33)))))))))))))))))))))
abbrev wz_X10_brush : List Cond := Cond.code yX10_brush cX10_brush 6 (some .int) :: WA
abbrev rm_X10_brush : Room := { frames := 3, cells := 0, slots := 0, locals := 54 }
set_option maxHeartbeats 4000000 in
set_option maxRecDepth 100000 in
theorem c_X10_brush (I : Nat → Nat → Int32) (P : Nat → Nat → Option Nat) (a0 : Nat) (x1 : Int32) (x2 : Int32) (x3 : Int32) (x4 : Int32) (res : Int32 × (Nat → Nat → Int32)) (hf : fn_X10_brush K N I P a0 x1 x2 x3 x4 = some res) : Met l yX10_brush wz_X10_brush rm_X10_brush (va_Pc [.ref a0, .int x1, .int x2, .int x3, .int x4] (mm_B D cs A L K N z w I P)) (va_Qi (fun r (_ : Unit) => r = res.1) (fun _ => mm_B D cs A L K N z w res.2 P) A) 0 0 A := by
  refine Met.ofW (cc := cX10_brush) (maxL := 6) (ret := (some .int)) (by decide) rfl ?_
  intro p e s m args below meth c s₁ B hml hv
  obtain ⟨rfl, hBm⟩ := hv
  have hx := B.exec
  have hb := B.bytes
  have hr := B.returns
  have hts := atoms_spec (ws := wz_X10_brush) B.pre
  have hWA : ∀ w ∈ WA, w.before ([.ref a0, .int x1, .int x2, .int x3, .int x4] : List Value).toArray s = true := fun u9 h9 => hts u9 (List.mem_cons_of_mem _ h9)
  have hown : s.vm.findClass RX10 = some m.cls := findClass_of_methodNamed B.named
  have hlocks := B.notSynchronized
  have S : CallFix p m c cX10_brush 6 s ([.ref a0, .int x1, .int x2, .int x3, .int x4] : List Value).toArray wz_X10_brush RX10 := ⟨hx, hb, hml, hown, hts⟩
  have hK := hBm.2.2.2.1
  have hZ := hBm.2.2.2.2
  have hM : mm_W D cs A L K N s.heap I P s.heap [] := ⟨hBm.1, hBm.2.1, hBm.2.2.1, va_S.rf⟩
  have hl := lv_entry ([.ref a0, .int x1, .int x2, .int x3, .int x4]) (n := 6) (Nat.le_of_ble_eq_true rfl)
  rw [lg_entry_eq]
  generalize (lg_sl ([.ref a0, .int x1, .int x2, .int x3, .int x4]) ++ List.replicate (6 - (lg_sl ([.ref a0, .int x1, .int x2, .int x3, .int x4])).length) Slot.unset).toArray = ls at hl ⊢
  have hl : lv_has ls 6 [(0, .ref a0), (1, .int x1), (2, .int x2), (3, .int x3), (4, .int x4)] := hl
  have hin10 : ∀ w ∈ wsX100, w ∈ wz_X10_brush := fun w h => List.mem_cons_of_mem _ (wu_X10 w h)
  have lk9 : (Cond.fieldLink RX10 9 RX10 "g" "[I").before ([.ref a0, .int x1, .int x2, .int x3, .int x4] : List Value).toArray s = true := hWA _ wa_4_141
  generalize hQ : MQ below (va_Qi (fun r (_ : Unit) => r = res.1) (fun _ => mm_B D cs A L K N z w res.2 P) A) ([.ref a0, .int x1, .int x2, .int x3, .int x4] : List Value).toArray s 0 0 A = QQ
  rw [fn_X10_brush] at hf
  refine lv_iload_n hx hb dX10_brush_0 rfl (lv_at hl 1 rfl) ?_
  refine lv_iconst (v := (0 : Int32)) hx hb dX10_brush_1 (by decide) ?_
  refine lv_iconst (v := (4 : Int32)) hx hb dX10_brush_2 (by decide) ?_
  refine bd_e hf (fun r1 er1 hf => ?_)
  refine ev_calli (va_runS (As := [.int x1, .int (0 : Int32), .int (4 : Int32)]) (rest := []) S (c_X10_isIn (l := l) I P x1 (0 : Int32) (4 : Int32) r1 er1) (va_cwS 3 hts (gi_s wa_4_218 wa_4_219 wa_1_11 wa_4_220) rfl rfl rfl (by decide +kernel) ⟨Nat.le_of_ble_eq_true rfl, Nat.le_of_ble_eq_true rfl⟩) ⟨mm_B_blind, fun U hU hW => ⟨rfl, mm_B_of hK hZ hM hU hW⟩⟩ rfl rfl hl.1 rfl (lv_room (Nat.le_of_ble_eq_true rfl)) dX10_brush_3 ⟨Nat.zero_le _, Nat.zero_le _⟩) hM (fun H locs hM => ?_)
  refine lv_if_eq (tgt := 41) hx hb dX10_brush_6 (by decide) (fun hc2 => ?_) (fun hc2 => ?_)
  · have hf := it_p hf hc2
    refine lv_bipush (v := (-2 : Int32)) hx hb dX10_brush_41 (by decide) ?_
    obtain rfl := Option.some.inj hf
    subst hQ
    exact ev_iret S hr hlocks hK hZ hM dX10_brush_43
  · have hf := it_n hf hc2
    refine lv_iload_n hx hb dX10_brush_9 rfl (lv_at hl 2 rfl) ?_
    refine lv_iconst (v := (0 : Int32)) hx hb dX10_brush_10 (by decide) ?_
    refine lv_iconst (v := (4 : Int32)) hx hb dX10_brush_11 (by decide) ?_
    refine bd_e hf (fun r3 er3 hf => ?_)
    refine ev_calli (va_runS (As := [.int x2, .int (0 : Int32), .int (4 : Int32)]) (rest := []) S (c_X10_isIn (l := l) I P x2 (0 : Int32) (4 : Int32) r3 er3) (va_cwS 3 hts (gi_s wa_4_218 wa_4_219 wa_1_11 wa_4_220) rfl rfl rfl (by decide +kernel) ⟨Nat.le_of_ble_eq_true rfl, Nat.le_of_ble_eq_true rfl⟩) ⟨mm_B_blind, fun U hU hW => ⟨rfl, mm_B_of hK hZ hM hU hW⟩⟩ rfl rfl hl.1 rfl (lv_room (Nat.le_of_ble_eq_true rfl)) dX10_brush_12 ⟨Nat.zero_le _, Nat.zero_le _⟩) hM (fun H locs hM => ?_)
    refine lv_if_eq (tgt := 41) hx hb dX10_brush_15 (by decide) (fun hc4 => ?_) (fun hc4 => ?_)
    · have hf := it_p hf hc4
      refine lv_bipush (v := (-2 : Int32)) hx hb dX10_brush_41 (by decide) ?_
      obtain rfl := Option.some.inj hf
      subst hQ
      exact ev_iret S hr hlocks hK hZ hM dX10_brush_43
    · have hf := it_n hf hc4
      refine lv_iload_n hx hb dX10_brush_18 rfl (lv_at hl 3 rfl) ?_
      refine lv_iconst (v := (-1 : Int32)) hx hb dX10_brush_19 (by decide) ?_
      refine lv_icmp_eq (tgt := 30) hx hb dX10_brush_20 (by decide) (fun hc5 => ?_) (fun hc5 => ?_)
      · have hf := it_p hf hc5
        refine lv_iload hx hb dX10_brush_30 (lv_at hl 4 rfl) ?_
        refine lv_iconst (v := (0 : Int32)) hx hb dX10_brush_32 (by decide) ?_
        refine lv_bipush (v := (9 : Int32)) hx hb dX10_brush_33 (by decide) ?_
        refine bd_e hf (fun r6 er6 hf => ?_)
        refine ev_calli (va_runS (As := [.int x4, .int (0 : Int32), .int (9 : Int32)]) (rest := []) S (c_X10_isIn (l := l) I P x4 (0 : Int32) (9 : Int32) r6 er6) (va_cwS 3 hts (gi_s wa_4_218 wa_4_219 wa_1_11 wa_4_220) rfl rfl rfl (by decide +kernel) ⟨Nat.le_of_ble_eq_true rfl, Nat.le_of_ble_eq_true rfl⟩) ⟨mm_B_blind, fun U hU hW => ⟨rfl, mm_B_of hK hZ hM hU hW⟩⟩ rfl rfl hl.1 rfl (lv_room (Nat.le_of_ble_eq_true rfl)) dX10_brush_35 ⟨Nat.zero_le _, Nat.zero_le _⟩) hM (fun H locs hM => ?_)
        refine lv_if_ne (tgt := 44) hx hb dX10_brush_38 (by decide) (fun hc7 => ?_) (fun hc7 => ?_)
        · have hf := it_n hf hc7
          refine lv_bipush (v := (10 : Int32)) hx hb dX10_brush_44 (by decide) ?_
          refine lv_aload_n hx hb dX10_brush_46 rfl (lv_at hl 0 rfl) ?_
          refine gd_e hf (fun hg8 hf => ?_)
          refine bd_e hf (fun q9 eq9 hf => ?_)
          refine ev_getP (v := q9) S hK hM (ci := 10) (n := 23) (C := RX10) (T := TX10) hin10 rfl hg8 0 (by decide) lk9 rfl rfl eq9 rfl dX10_brush_47 ?_
          refine lv_iconst (v := (2 : Int32)) hx hb dX10_brush_50 (by decide) ?_
          refine gd_e hf (fun hg10 hf => ?_)
          refine ev_iald S hK hM hg10 (j := 2) rfl dX10_brush_51 ?_
          refine lv_imul hx hb dX10_brush_52 ?_
          refine lv_aload_n hx hb dX10_brush_53 rfl (lv_at hl 0 rfl) ?_
          refine ev_getP (v := q9) S hK hM (ci := 10) (n := 23) (C := RX10) (T := TX10) hin10 rfl hg8 0 (by decide) lk9 rfl rfl eq9 rfl dX10_brush_54 ?_
          refine lv_iconst (v := (3 : Int32)) hx hb dX10_brush_57 (by decide) ?_
          refine gd_e hf (fun hg11 hf => ?_)
          refine ev_iald S hK hM hg11 (j := 3) rfl dX10_brush_58 ?_
          refine lv_iadd hx hb dX10_brush_59 ?_
          refine lv_topi (fun v12 ev12 => ?_)
          have hf := nm_x ev12 hf
          refine lv_istore (lv' := [(5, .int v12), (0, .ref a0), (1, .int x1), (2, .int x2), (3, .int x3), (4, .int x4)]) hx hb dX10_brush_60 hl (by decide) rfl (fun ls hl => ?_)
          refine lv_aload_n hx hb dX10_brush_62 rfl (lv_at hl 1 rfl) ?_
          refine ev_getP (v := q9) S hK hM (ci := 10) (n := 23) (C := RX10) (T := TX10) hin10 rfl hg8 0 (by decide) lk9 rfl rfl eq9 rfl dX10_brush_63 ?_
          refine lv_iconst (v := (2 : Int32)) hx hb dX10_brush_66 (by decide) ?_
          refine lv_iload_n hx hb dX10_brush_67 rfl (lv_at hl 2 rfl) ?_
          refine ev_iast S hK hM hg10 (j := 2) rfl dX10_brush_68 (fun I13 eI13 H locs hM => ?_)
          have hf := nm_x eI13 hf
          refine lv_aload_n hx hb dX10_brush_69 rfl (lv_at hl 1 rfl) ?_
          refine ev_getP (v := q9) S hK hM (ci := 10) (n := 23) (C := RX10) (T := TX10) hin10 rfl hg8 0 (by decide) lk9 rfl rfl eq9 rfl dX10_brush_70 ?_
          refine lv_iconst (v := (3 : Int32)) hx hb dX10_brush_73 (by decide) ?_
          refine lv_iload_n hx hb dX10_brush_74 rfl (lv_at hl 3 rfl) ?_
          refine ev_iast S hK hM hg11 (j := 3) rfl dX10_brush_75 (fun I14 eI14 H locs hM => ?_)
          have hf := nm_x eI14 hf
          refine lv_aload_n hx hb dX10_brush_76 rfl (lv_at hl 1 rfl) ?_
          refine ev_getP (v := q9) S hK hM (ci := 10) (n := 23) (C := RX10) (T := TX10) hin10 rfl hg8 0 (by decide) lk9 rfl rfl eq9 rfl dX10_brush_77 ?_
          refine lv_iconst (v := (4 : Int32)) hx hb dX10_brush_80 (by decide) ?_
          refine lv_iload_n hx hb dX10_brush_81 rfl (lv_at hl 4 rfl) ?_
          refine gd_e hf (fun hg15 hf => ?_)
          refine ev_iast S hK hM hg15 (j := 4) rfl dX10_brush_82 (fun I16 eI16 H locs hM => ?_)
          have hf := nm_x eI16 hf
          refine lv_aload_n hx hb dX10_brush_83 rfl (lv_at hl 1 rfl) ?_
          refine ev_getP (v := q9) S hK hM (ci := 10) (n := 23) (C := RX10) (T := TX10) hin10 rfl hg8 0 (by decide) lk9 rfl rfl eq9 rfl dX10_brush_84 ?_
          refine lv_iconst (v := (5 : Int32)) hx hb dX10_brush_87 (by decide) ?_
          refine lv_iload hx hb dX10_brush_88 (lv_at hl 5 rfl) ?_
          refine gd_e hf (fun hg17 hf => ?_)
          refine ev_iast S hK hM hg17 (j := 5) rfl dX10_brush_90 (fun I18 eI18 H locs hM => ?_)
          have hf := nm_x eI18 hf
          refine lv_iload hx hb dX10_brush_91 (lv_at hl 0 rfl) ?_
          obtain rfl := Option.some.inj hf
          subst hQ
          exact ev_iret S hr hlocks hK hZ hM dX10_brush_93
        · have hf := it_p hf hc7
          refine lv_bipush (v := (-2 : Int32)) hx hb dX10_brush_41 (by decide) ?_
          obtain rfl := Option.some.inj hf
          subst hQ
          exact ev_iret S hr hlocks hK hZ hM dX10_brush_43
      · have hf := it_n hf hc5
        refine lv_iload_n hx hb dX10_brush_23 rfl (lv_at hl 3 rfl) ?_
        refine bd_e hf (fun r19 er19 hf => ?_)
        refine ev_calli (va_runS (As := [.int x3]) (rest := []) S (c_X10_isByte (l := l) I P x3 r19 er19) (va_cwS 1 hts (gi_s wa_4_221 wa_4_222 wa_1_11 wa_4_223) rfl rfl rfl (by decide +kernel) ⟨Nat.le_of_ble_eq_true rfl, Nat.le_of_ble_eq_true rfl⟩) ⟨mm_B_blind, fun U hU hW => ⟨rfl, mm_B_of hK hZ hM hU hW⟩⟩ rfl rfl hl.1 rfl (lv_room (Nat.le_of_ble_eq_true rfl)) dX10_brush_24 ⟨Nat.zero_le _, Nat.zero_le _⟩) hM (fun H locs hM => ?_)
        refine lv_if_eq (tgt := 41) hx hb dX10_brush_27 (by decide) (fun hc20 => ?_) (fun hc20 => ?_)
        · have hf := it_p hf hc20
          refine lv_bipush (v := (-2 : Int32)) hx hb dX10_brush_41 (by decide) ?_
          obtain rfl := Option.some.inj hf
          subst hQ
          exact ev_iret S hr hlocks hK hZ hM dX10_brush_43
        · have hf := it_n hf hc20
          refine lv_iload hx hb dX10_brush_30 (lv_at hl 4 rfl) ?_
          refine lv_iconst (v := (0 : Int32)) hx hb dX10_brush_32 (by decide) ?_
          refine lv_bipush (v := (9 : Int32)) hx hb dX10_brush_33 (by decide) ?_
          refine bd_e hf (fun r21 er21 hf => ?_)
          refine ev_calli (va_runS (As := [.int x4, .int (0 : Int32), .int (9 : Int32)]) (rest := []) S (c_X10_isIn (l := l) I P x4 (0 : Int32) (9 : Int32) r21 er21) (va_cwS 3 hts (gi_s wa_4_218 wa_4_219 wa_1_11 wa_4_220) rfl rfl rfl (by decide +kernel) ⟨Nat.le_of_ble_eq_true rfl, Nat.le_of_ble_eq_true rfl⟩) ⟨mm_B_blind, fun U hU hW => ⟨rfl, mm_B_of hK hZ hM hU hW⟩⟩ rfl rfl hl.1 rfl (lv_room (Nat.le_of_ble_eq_true rfl)) dX10_brush_35 ⟨Nat.zero_le _, Nat.zero_le _⟩) hM (fun H locs hM => ?_)
          refine lv_if_ne (tgt := 44) hx hb dX10_brush_38 (by decide) (fun hc22 => ?_) (fun hc22 => ?_)
          · have hf := it_n hf hc22
            refine lv_bipush (v := (10 : Int32)) hx hb dX10_brush_44 (by decide) ?_
            refine lv_aload_n hx hb dX10_brush_46 rfl (lv_at hl 0 rfl) ?_
            refine gd_e hf (fun hg23 hf => ?_)
            refine bd_e hf (fun q24 eq24 hf => ?_)
            refine ev_getP (v := q24) S hK hM (ci := 10) (n := 23) (C := RX10) (T := TX10) hin10 rfl hg23 0 (by decide) lk9 rfl rfl eq24 rfl dX10_brush_47 ?_
            refine lv_iconst (v := (2 : Int32)) hx hb dX10_brush_50 (by decide) ?_
            refine gd_e hf (fun hg25 hf => ?_)
            refine ev_iald S hK hM hg25 (j := 2) rfl dX10_brush_51 ?_
            refine lv_imul hx hb dX10_brush_52 ?_
            refine lv_aload_n hx hb dX10_brush_53 rfl (lv_at hl 0 rfl) ?_
            refine ev_getP (v := q24) S hK hM (ci := 10) (n := 23) (C := RX10) (T := TX10) hin10 rfl hg23 0 (by decide) lk9 rfl rfl eq24 rfl dX10_brush_54 ?_
            refine lv_iconst (v := (3 : Int32)) hx hb dX10_brush_57 (by decide) ?_
            refine gd_e hf (fun hg26 hf => ?_)
            refine ev_iald S hK hM hg26 (j := 3) rfl dX10_brush_58 ?_
            refine lv_iadd hx hb dX10_brush_59 ?_
            refine lv_topi (fun v27 ev27 => ?_)
            have hf := nm_x ev27 hf
            refine lv_istore (lv' := [(5, .int v27), (0, .ref a0), (1, .int x1), (2, .int x2), (3, .int x3), (4, .int x4)]) hx hb dX10_brush_60 hl (by decide) rfl (fun ls hl => ?_)
            refine lv_aload_n hx hb dX10_brush_62 rfl (lv_at hl 1 rfl) ?_
            refine ev_getP (v := q24) S hK hM (ci := 10) (n := 23) (C := RX10) (T := TX10) hin10 rfl hg23 0 (by decide) lk9 rfl rfl eq24 rfl dX10_brush_63 ?_
            refine lv_iconst (v := (2 : Int32)) hx hb dX10_brush_66 (by decide) ?_
            refine lv_iload_n hx hb dX10_brush_67 rfl (lv_at hl 2 rfl) ?_
            refine ev_iast S hK hM hg25 (j := 2) rfl dX10_brush_68 (fun I28 eI28 H locs hM => ?_)
            have hf := nm_x eI28 hf
            refine lv_aload_n hx hb dX10_brush_69 rfl (lv_at hl 1 rfl) ?_
            refine ev_getP (v := q24) S hK hM (ci := 10) (n := 23) (C := RX10) (T := TX10) hin10 rfl hg23 0 (by decide) lk9 rfl rfl eq24 rfl dX10_brush_70 ?_
            refine lv_iconst (v := (3 : Int32)) hx hb dX10_brush_73 (by decide) ?_
            refine lv_iload_n hx hb dX10_brush_74 rfl (lv_at hl 3 rfl) ?_
            refine ev_iast S hK hM hg26 (j := 3) rfl dX10_brush_75 (fun I29 eI29 H locs hM => ?_)
            have hf := nm_x eI29 hf
            refine lv_aload_n hx hb dX10_brush_76 rfl (lv_at hl 1 rfl) ?_
            refine ev_getP (v := q24) S hK hM (ci := 10) (n := 23) (C := RX10) (T := TX10) hin10 rfl hg23 0 (by decide) lk9 rfl rfl eq24 rfl dX10_brush_77 ?_
            refine lv_iconst (v := (4 : Int32)) hx hb dX10_brush_80 (by decide) ?_
            refine lv_iload_n hx hb dX10_brush_81 rfl (lv_at hl 4 rfl) ?_
            refine gd_e hf (fun hg30 hf => ?_)
            refine ev_iast S hK hM hg30 (j := 4) rfl dX10_brush_82 (fun I31 eI31 H locs hM => ?_)
            have hf := nm_x eI31 hf
            refine lv_aload_n hx hb dX10_brush_83 rfl (lv_at hl 1 rfl) ?_
            refine ev_getP (v := q24) S hK hM (ci := 10) (n := 23) (C := RX10) (T := TX10) hin10 rfl hg23 0 (by decide) lk9 rfl rfl eq24 rfl dX10_brush_84 ?_
            refine lv_iconst (v := (5 : Int32)) hx hb dX10_brush_87 (by decide) ?_
            refine lv_iload hx hb dX10_brush_88 (lv_at hl 5 rfl) ?_
            refine gd_e hf (fun hg32 hf => ?_)
            refine ev_iast S hK hM hg32 (j := 5) rfl dX10_brush_90 (fun I33 eI33 H locs hM => ?_)
            have hf := nm_x eI33 hf
            refine lv_iload hx hb dX10_brush_91 (lv_at hl 0 rfl) ?_
            obtain rfl := Option.some.inj hf
            subst hQ
            exact ev_iret S hr hlocks hK hZ hM dX10_brush_93
          · have hf := it_p hf hc22
            refine lv_bipush (v := (-2 : Int32)) hx hb dX10_brush_41 (by decide) ?_
            obtain rfl := Option.some.inj hf
            subst hQ
            exact ev_iret S hr hlocks hK hZ hM dX10_brush_43
noncomputable def fn_X10_touched (K N : Nat → Nat) (I : Nat → Nat → Int32) (P : Nat → Nat → Option Nat) (a0 : Nat) (x1 : Int32) (x2 : Int32) : Option (Int32) := gd (K a0 = 11) (Option.bind (P a0 (0)) (fun q2 => gd (K q2 = 12 ∧ vp_in (3 : Int32) (N q2)) (Option.bind (some (I q2 (3))) (fun v4 => Option.bind (some ((x1 * x1) + (x2 * x2))) (fun v5 => gd (K q2 = 12 ∧ vp_in (2 : Int32) (N q2)) (if (I q2 (2)) = (2 : Int32) then (Option.bind (if v4 < (if 0 ≤ x1 then x1 else 0 - x1) then (some (0 : Int32)) else (if v4 < (if 0 ≤ x2 then x2 else 0 - x2) then (some (0 : Int32)) else (if (I q2 (2)) = (2 : Int32) then (some (1 : Int32)) else (if x1 = 0 then (some (1 : Int32)) else (if x2 = 0 then (some (1 : Int32)) else (some (0 : Int32))))))) (fun (j9 : Int32) => if j9 = 0 then (some (0 : Int32)) else (some (255 : Int32)))) else (if (I q2 (2)) = (4 : Int32) then (Option.bind (if v4 < (if 0 ≤ x1 then x1 else 0 - x1) then (some (0 : Int32)) else (if v4 < (if 0 ≤ x2 then x2 else 0 - x2) then (some (0 : Int32)) else (if (I q2 (2)) = (2 : Int32) then (some (1 : Int32)) else (if x1 = 0 then (some (1 : Int32)) else (if x2 = 0 then (some (1 : Int32)) else (some (0 : Int32))))))) (fun (j29 : Int32) => if j29 = 0 then (some (0 : Int32)) else (some (255 : Int32)))) else (Option.bind (if (v4 * v4) < v5 then (some (0 : Int32)) else (some (255 : Int32))) (fun (j17 : Int32) => if (I q2 (2)) = 0 then (some j17) else (gd (vf_n32 (FP.fdiv (FP.i2f v5) (FP.i2f ((v4 * v4) + (1 : Int32))))) (Option.bind (some (FP.fdiv (FP.i2f v5) (FP.i2f ((v4 * v4) + (1 : Int32))))) (fun v20 => gd (vf_n32 (FP.fsub FP.fconst1 v20)) (gd (vf_n32 (FP.fmul (FP.i2f j17) (FP.fsub FP.fconst1 v20))) (Option.bind (some (FP.f2i (FP.fmul (FP.i2f j17) (FP.fsub FP.fconst1 v20)))) (fun v23 => if (I q2 (2)) = (1 : Int32) then (some v23) else (gd (K q2 = 12 ∧ vp_in (5 : Int32) (N q2)) (gd (vf_n32 (FP.fmul (FP.i2f v23) (FP.i2f (I q2 (5))))) (gd (vf_n32 (FP.fdiv (FP.fmul (FP.i2f v23) (FP.i2f (I q2 (5)))) (1091567616 : UInt32))) (some (FP.f2i (FP.fdiv (FP.fmul (FP.i2f v23) (FP.i2f (I q2 (5)))) (1091567616 : UInt32))))))))))))))))))))))
abbrev wz_X10_touched : List Cond := Cond.code yX10_touched cX10_touched 8 (some .int) :: WA
abbrev rm_X10_touched : Room := { frames := 2, cells := 0, slots := 0, locals := 30 }
set_option maxHeartbeats 4000000 in
set_option maxRecDepth 100000 in
theorem c_X10_touched (I : Nat → Nat → Int32) (P : Nat → Nat → Option Nat) (a0 : Nat) (x1 : Int32) (x2 : Int32) (res : Int32) (hf : fn_X10_touched K N I P a0 x1 x2 = some res) : Met l yX10_touched wz_X10_touched rm_X10_touched (va_Pc [.ref a0, .int x1, .int x2] (mm_B D cs A L K N z w I P)) (va_Qi (fun r (_ : Unit) => r = res) (fun _ => mm_B D cs A L K N z w I P) A) 0 0 A := by
  refine Met.ofW (cc := cX10_touched) (maxL := 8) (ret := (some .int)) (by decide) rfl ?_
  intro p e s m args below meth c s₁ B hml hv
  obtain ⟨rfl, hBm⟩ := hv
  have hx := B.exec
  have hb := B.bytes
  have hr := B.returns
  have hts := atoms_spec (ws := wz_X10_touched) B.pre
  have hWA : ∀ w ∈ WA, w.before ([.ref a0, .int x1, .int x2] : List Value).toArray s = true := fun u9 h9 => hts u9 (List.mem_cons_of_mem _ h9)
  have hown : s.vm.findClass RX10 = some m.cls := findClass_of_methodNamed B.named
  have hlocks := B.notSynchronized
  have S : CallFix p m c cX10_touched 8 s ([.ref a0, .int x1, .int x2] : List Value).toArray wz_X10_touched RX10 := ⟨hx, hb, hml, hown, hts⟩
  have hK := hBm.2.2.2.1
  have hZ := hBm.2.2.2.2
  have hM : mm_W D cs A L K N s.heap I P s.heap [] := ⟨hBm.1, hBm.2.1, hBm.2.2.1, va_S.rf⟩
  have hl := lv_entry ([.ref a0, .int x1, .int x2]) (n := 8) (Nat.le_of_ble_eq_true rfl)
  rw [lg_entry_eq]
  generalize (lg_sl ([.ref a0, .int x1, .int x2]) ++ List.replicate (8 - (lg_sl ([.ref a0, .int x1, .int x2])).length) Slot.unset).toArray = ls at hl ⊢
  have hl : lv_has ls 8 [(0, .ref a0), (1, .int x1), (2, .int x2)] := hl
  have hin10 : ∀ w ∈ wsX100, w ∈ wz_X10_touched := fun w h => List.mem_cons_of_mem _ (wu_X10 w h)
  have lk9 : (Cond.fieldLink RX10 9 RX10 "g" "[I").before ([.ref a0, .int x1, .int x2] : List Value).toArray s = true := hWA _ wa_4_141
  generalize hQ : MQ below (va_Qi (fun r (_ : Unit) => r = res) (fun _ => mm_B D cs A L K N z w I P) A) ([.ref a0, .int x1, .int x2] : List Value).toArray s 0 0 A = QQ
  rw [fn_X10_touched] at hf
  refine lv_aload_n hx hb dX10_touched_0 rfl (lv_at hl 0 rfl) ?_
  refine gd_e hf (fun hg1 hf => ?_)
  refine bd_e hf (fun q2 eq2 hf => ?_)
  refine ev_getP (v := q2) S hK hM (ci := 10) (n := 23) (C := RX10) (T := TX10) hin10 rfl hg1 0 (by decide) lk9 rfl rfl eq2 rfl dX10_touched_1 ?_
  refine lv_iconst (v := (3 : Int32)) hx hb dX10_touched_4 (by decide) ?_
  refine gd_e hf (fun hg3 hf => ?_)
  refine ev_iald S hK hM hg3 (j := 3) rfl dX10_touched_5 ?_
  refine lv_topi (fun v4 ev4 => ?_)
  have hf := nm_x ev4 hf
  refine lv_istore_n (lv' := [(3, .int v4), (0, .ref a0), (1, .int x1), (2, .int x2)]) hx hb dX10_touched_6 rfl hl (by decide) rfl (fun ls hl => ?_)
  refine lv_iload_n hx hb dX10_touched_7 rfl (lv_at hl 2 rfl) ?_
  refine lv_iload_n hx hb dX10_touched_8 rfl (lv_at hl 2 rfl) ?_
  refine lv_imul hx hb dX10_touched_9 ?_
  refine lv_iload_n hx hb dX10_touched_10 rfl (lv_at hl 3 rfl) ?_
  refine lv_iload_n hx hb dX10_touched_11 rfl (lv_at hl 3 rfl) ?_
  refine lv_imul hx hb dX10_touched_12 ?_
  refine lv_iadd hx hb dX10_touched_13 ?_
  refine lv_topi (fun v5 ev5 => ?_)
  have hf := nm_x ev5 hf
  refine lv_istore (lv' := [(4, .int v5), (3, .int v4), (0, .ref a0), (1, .int x1), (2, .int x2)]) hx hb dX10_touched_14 hl (by decide) rfl (fun ls hl => ?_)
  refine lv_aload_n hx hb dX10_touched_16 rfl (lv_at hl 2 rfl) ?_
  refine ev_getP (v := q2) S hK hM (ci := 10) (n := 23) (C := RX10) (T := TX10) hin10 rfl hg1 0 (by decide) lk9 rfl rfl eq2 rfl dX10_touched_17 ?_
  refine lv_iconst (v := (2 : Int32)) hx hb dX10_touched_20 (by decide) ?_
  refine gd_e hf (fun hg6 hf => ?_)
  refine ev_iald S hK hM hg6 (j := 2) rfl dX10_touched_21 ?_
  refine lv_iconst (v := (2 : Int32)) hx hb dX10_touched_22 (by decide) ?_
  refine lv_icmp_eq (tgt := 36) hx hb dX10_touched_23 (by decide) (fun hc7 => ?_) (fun hc7 => ?_)
  · have hf := it_p hf hc7
    refine lv_iload_n hx hb dX10_touched_36 rfl (lv_at hl 3 rfl) ?_
    refine va_mabs hx hb (hml.trans hl.1.symm) hown (hWA _ wa_5_66) (hWA _ wa_2_136) (hWA _ wa_1_13) (hWA _ wa_2_137) (Nat.le_of_ble_eq_true rfl) (Nat.le_of_ble_eq_true rfl) (Nat.zero_le _) (Nat.zero_le _) dX10_touched_37 ?_
    refine lv_iload_n hx hb dX10_touched_40 rfl (lv_at hl 1 rfl) ?_
    refine bd_e hf (fun j9 ej9 hf => ?_)
    have kj9 : ∀ (H : Heap) (locs : List Loc) (ls : Array Slot), mm_W D cs A L K N s.heap I P H locs → lv_has ls 8 [] → W p l e (headSpec wz_X10_touched rm_X10_touched).room s m ([.ref a0, .int x1, .int x2] : List Value).toArray below meth c H locs 0 0 QQ (F0 m 75 ls [.int j9]) := by
      intro H locs ls hM hl
      refine lv_istore (lv' := [(5, .int j9)]) hx hb dX10_touched_75 hl (by decide) rfl (fun ls hl => ?_)
      refine lv_iload hx hb dX10_touched_77 (lv_at hl 0 rfl) ?_
      refine lv_if_eq (tgt := 88) hx hb dX10_touched_79 (by decide) (fun hc10 => ?_) (fun hc10 => ?_)
      · have hf := it_p hf hc10
        refine lv_iconst (v := (0 : Int32)) hx hb dX10_touched_88 (by decide) ?_
        obtain rfl := Option.some.inj hf
        subst hQ
        exact ev_iret S hr hlocks hK hZ hM dX10_touched_89
      · have hf := it_n hf hc10
        refine lv_sipush (v := (255 : Int32)) hx hb dX10_touched_82 (by decide) ?_
        refine lv_goto (tgt := 89) hx hb dX10_touched_85 (by decide) ?_
        obtain rfl := Option.some.inj hf
        subst hQ
        exact ev_iret S hr hlocks hK hZ hM dX10_touched_89
    have hf := ej9
    refine lv_icmp_gt (tgt := 74) hx hb dX10_touched_41 (by decide) (fun hc8 => ?_) (fun hc8 => ?_)
    · have hf := it_p hf hc8
      refine lv_iconst (v := (0 : Int32)) hx hb dX10_touched_74 (by decide) ?_
      obtain rfl := Option.some.inj hf
      exact kj9 _ _ _ hM (lv_sub hl [] rfl)
    · have hf := it_n hf hc8
      refine lv_iload_n hx hb dX10_touched_44 rfl (lv_at hl 4 rfl) ?_
      refine va_mabs hx hb (hml.trans hl.1.symm) hown (hWA _ wa_5_66) (hWA _ wa_2_136) (hWA _ wa_1_13) (hWA _ wa_2_137) (Nat.le_of_ble_eq_true rfl) (Nat.le_of_ble_eq_true rfl) (Nat.zero_le _) (Nat.zero_le _) dX10_touched_45 ?_
      refine lv_iload_n hx hb dX10_touched_48 rfl (lv_at hl 1 rfl) ?_
      refine lv_icmp_gt (tgt := 74) hx hb dX10_touched_49 (by decide) (fun hc11 => ?_) (fun hc11 => ?_)
      · have hf := it_p hf hc11
        refine lv_iconst (v := (0 : Int32)) hx hb dX10_touched_74 (by decide) ?_
        obtain rfl := Option.some.inj hf
        exact kj9 _ _ _ hM (lv_sub hl [] rfl)
      · have hf := it_n hf hc11
        refine lv_aload_n hx hb dX10_touched_52 rfl (lv_at hl 2 rfl) ?_
        refine ev_getP (v := q2) S hK hM (ci := 10) (n := 23) (C := RX10) (T := TX10) hin10 rfl hg1 0 (by decide) lk9 rfl rfl eq2 rfl dX10_touched_53 ?_
        refine lv_iconst (v := (2 : Int32)) hx hb dX10_touched_56 (by decide) ?_
        refine ev_iald S hK hM hg6 (j := 2) rfl dX10_touched_57 ?_
        refine lv_iconst (v := (2 : Int32)) hx hb dX10_touched_58 (by decide) ?_
        refine lv_icmp_eq (tgt := 70) hx hb dX10_touched_59 (by decide) (fun hc12 => ?_) (fun hc12 => ?_)
        · have hf := it_p hf hc12
          refine lv_iconst (v := (1 : Int32)) hx hb dX10_touched_70 (by decide) ?_
          refine lv_goto (tgt := 75) hx hb dX10_touched_71 (by decide) ?_
          obtain rfl := Option.some.inj hf
          exact kj9 _ _ _ hM (lv_sub hl [] rfl)
        · have hf := it_n hf hc12
          refine lv_iload_n hx hb dX10_touched_62 rfl (lv_at hl 3 rfl) ?_
          refine lv_if_eq (tgt := 70) hx hb dX10_touched_63 (by decide) (fun hc13 => ?_) (fun hc13 => ?_)
          · have hf := it_p hf hc13
            refine lv_iconst (v := (1 : Int32)) hx hb dX10_touched_70 (by decide) ?_
            refine lv_goto (tgt := 75) hx hb dX10_touched_71 (by decide) ?_
            obtain rfl := Option.some.inj hf
            exact kj9 _ _ _ hM (lv_sub hl [] rfl)
          · have hf := it_n hf hc13
            refine lv_iload_n hx hb dX10_touched_66 rfl (lv_at hl 4 rfl) ?_
            refine lv_if_ne (tgt := 74) hx hb dX10_touched_67 (by decide) (fun hc14 => ?_) (fun hc14 => ?_)
            · have hf := it_n hf hc14
              refine lv_iconst (v := (0 : Int32)) hx hb dX10_touched_74 (by decide) ?_
              obtain rfl := Option.some.inj hf
              exact kj9 _ _ _ hM (lv_sub hl [] rfl)
            · have hf := it_p hf hc14
              refine lv_iconst (v := (1 : Int32)) hx hb dX10_touched_70 (by decide) ?_
              refine lv_goto (tgt := 75) hx hb dX10_touched_71 (by decide) ?_
              obtain rfl := Option.some.inj hf
              exact kj9 _ _ _ hM (lv_sub hl [] rfl)
  · have hf := it_n hf hc7
    refine lv_aload_n hx hb dX10_touched_26 rfl (lv_at hl 2 rfl) ?_
    refine ev_getP (v := q2) S hK hM (ci := 10) (n := 23) (C := RX10) (T := TX10) hin10 rfl hg1 0 (by decide) lk9 rfl rfl eq2 rfl dX10_touched_27 ?_
    refine lv_iconst (v := (2 : Int32)) hx hb dX10_touched_30 (by decide) ?_
    refine ev_iald S hK hM hg6 (j := 2) rfl dX10_touched_31 ?_
    refine lv_iconst (v := (4 : Int32)) hx hb dX10_touched_32 (by decide) ?_
    refine lv_icmp_ne (tgt := 90) hx hb dX10_touched_33 (by decide) (fun hc15 => ?_) (fun hc15 => ?_)
    · have hf := it_n hf hc15
      refine lv_iload hx hb dX10_touched_90 (lv_at hl 0 rfl) ?_
      refine lv_iload_n hx hb dX10_touched_92 rfl (lv_at hl 1 rfl) ?_
      refine lv_iload_n hx hb dX10_touched_93 rfl (lv_at hl 1 rfl) ?_
      refine lv_imul hx hb dX10_touched_94 ?_
      refine bd_e hf (fun j17 ej17 hf => ?_)
      have kj17 : ∀ (H : Heap) (locs : List Loc) (ls : Array Slot), mm_W D cs A L K N s.heap I P H locs → lv_has ls 8 [(0, .ref a0), (3, .int v4), (4, .int v5)] → W p l e (headSpec wz_X10_touched rm_X10_touched).room s m ([.ref a0, .int x1, .int x2] : List Value).toArray below meth c H locs 0 0 QQ (F0 m 105 ls [.int j17]) := by
        intro H locs ls hM hl
        refine lv_istore (lv' := [(5, .int j17), (0, .ref a0), (3, .int v4), (4, .int v5)]) hx hb dX10_touched_105 hl (by decide) rfl (fun ls hl => ?_)
        refine lv_aload_n hx hb dX10_touched_107 rfl (lv_at hl 1 rfl) ?_
        refine ev_getP (v := q2) S hK hM (ci := 10) (n := 23) (C := RX10) (T := TX10) hin10 rfl hg1 0 (by decide) lk9 rfl rfl eq2 rfl dX10_touched_108 ?_
        refine lv_iconst (v := (2 : Int32)) hx hb dX10_touched_111 (by decide) ?_
        refine ev_iald S hK hM hg6 (j := 2) rfl dX10_touched_112 ?_
        refine lv_if_ne (tgt := 119) hx hb dX10_touched_113 (by decide) (fun hc18 => ?_) (fun hc18 => ?_)
        · have hf := it_n hf hc18
          refine lv_iload hx hb dX10_touched_119 (lv_at hl 3 rfl) ?_
          refine lv_i2f hx hb dX10_touched_121 ?_
          refine lv_iload_n hx hb dX10_touched_122 rfl (lv_at hl 2 rfl) ?_
          refine lv_iload_n hx hb dX10_touched_123 rfl (lv_at hl 2 rfl) ?_
          refine lv_imul hx hb dX10_touched_124 ?_
          refine lv_iconst (v := (1 : Int32)) hx hb dX10_touched_125 (by decide) ?_
          refine lv_iadd hx hb dX10_touched_126 ?_
          refine lv_i2f hx hb dX10_touched_127 ?_
          refine gd_e hf (fun hg19 hf => ?_)
          refine lv_fdiv hx hb dX10_touched_128 hg19 ?_
          refine lv_topf (fun v20 ev20 => ?_)
          have hf := nm_x ev20 hf
          refine lv_fstore (lv' := [(6, .float v20), (5, .int j17), (0, .ref a0), (3, .int v4), (4, .int v5)]) hx hb dX10_touched_129 hl (by decide) rfl (fun ls hl => ?_)
          refine lv_iload hx hb dX10_touched_131 (lv_at hl 1 rfl) ?_
          refine lv_i2f hx hb dX10_touched_133 ?_
          refine lv_fconst1 hx hb dX10_touched_134 ?_
          refine lv_fload hx hb dX10_touched_135 (lv_at hl 0 rfl) ?_
          refine gd_e hf (fun hg21 hf => ?_)
          refine lv_fsub hx hb dX10_touched_137 hg21 ?_
          refine gd_e hf (fun hg22 hf => ?_)
          refine lv_fmul hx hb dX10_touched_138 hg22 ?_
          refine lv_f2i hx hb dX10_touched_139 ?_
          refine lv_topi (fun v23 ev23 => ?_)
          have hf := nm_x ev23 hf
          refine lv_istore (lv' := [(7, .int v23), (6, .float v20), (5, .int j17), (0, .ref a0), (3, .int v4), (4, .int v5)]) hx hb dX10_touched_140 hl (by decide) rfl (fun ls hl => ?_)
          refine lv_aload_n hx hb dX10_touched_142 rfl (lv_at hl 3 rfl) ?_
          refine ev_getP (v := q2) S hK hM (ci := 10) (n := 23) (C := RX10) (T := TX10) hin10 rfl hg1 0 (by decide) lk9 rfl rfl eq2 rfl dX10_touched_143 ?_
          refine lv_iconst (v := (2 : Int32)) hx hb dX10_touched_146 (by decide) ?_
          refine ev_iald S hK hM hg6 (j := 2) rfl dX10_touched_147 ?_
          refine lv_iconst (v := (1 : Int32)) hx hb dX10_touched_148 (by decide) ?_
          refine lv_icmp_ne (tgt := 157) hx hb dX10_touched_149 (by decide) (fun hc24 => ?_) (fun hc24 => ?_)
          · have hf := it_n hf hc24
            refine lv_iload hx hb dX10_touched_157 (lv_at hl 0 rfl) ?_
            refine lv_i2f hx hb dX10_touched_159 ?_
            refine lv_aload_n hx hb dX10_touched_160 rfl (lv_at hl 3 rfl) ?_
            refine ev_getP (v := q2) S hK hM (ci := 10) (n := 23) (C := RX10) (T := TX10) hin10 rfl hg1 0 (by decide) lk9 rfl rfl eq2 rfl dX10_touched_161 ?_
            refine lv_iconst (v := (5 : Int32)) hx hb dX10_touched_164 (by decide) ?_
            refine gd_e hf (fun hg25 hf => ?_)
            refine ev_iald S hK hM hg25 (j := 5) rfl dX10_touched_165 ?_
            refine lv_i2f hx hb dX10_touched_166 ?_
            refine gd_e hf (fun hg26 hf => ?_)
            refine lv_fmul hx hb dX10_touched_167 hg26 ?_
            refine lv_ldcf (v := 1091567616) hx hb hown (hWA _ wa_5_67) dX10_touched_168 ?_
            refine gd_e hf (fun hg27 hf => ?_)
            refine lv_fdiv hx hb dX10_touched_170 hg27 ?_
            refine lv_f2i hx hb dX10_touched_171 ?_
            obtain rfl := Option.some.inj hf
            subst hQ
            exact ev_iret S hr hlocks hK hZ hM dX10_touched_172
          · have hf := it_p hf hc24
            refine lv_iload hx hb dX10_touched_152 (lv_at hl 0 rfl) ?_
            refine lv_goto (tgt := 172) hx hb dX10_touched_154 (by decide) ?_
            obtain rfl := Option.some.inj hf
            subst hQ
            exact ev_iret S hr hlocks hK hZ hM dX10_touched_172
        · have hf := it_p hf hc18
          refine lv_iload hx hb dX10_touched_116 (lv_at hl 0 rfl) ?_
          obtain rfl := Option.some.inj hf
          subst hQ
          exact ev_iret S hr hlocks hK hZ hM dX10_touched_118
      have hf := ej17
      refine lv_icmp_gt (tgt := 104) hx hb dX10_touched_95 (by decide) (fun hc16 => ?_) (fun hc16 => ?_)
      · have hf := it_p hf hc16
        refine lv_iconst (v := (0 : Int32)) hx hb dX10_touched_104 (by decide) ?_
        obtain rfl := Option.some.inj hf
        exact kj17 _ _ _ hM (lv_sub hl [2, 1, 0] rfl)
      · have hf := it_n hf hc16
        refine lv_sipush (v := (255 : Int32)) hx hb dX10_touched_98 (by decide) ?_
        refine lv_goto (tgt := 105) hx hb dX10_touched_101 (by decide) ?_
        obtain rfl := Option.some.inj hf
        exact kj17 _ _ _ hM (lv_sub hl [2, 1, 0] rfl)
    · have hf := it_p hf hc15
      refine lv_iload_n hx hb dX10_touched_36 rfl (lv_at hl 3 rfl) ?_
      refine va_mabs hx hb (hml.trans hl.1.symm) hown (hWA _ wa_5_66) (hWA _ wa_2_136) (hWA _ wa_1_13) (hWA _ wa_2_137) (Nat.le_of_ble_eq_true rfl) (Nat.le_of_ble_eq_true rfl) (Nat.zero_le _) (Nat.zero_le _) dX10_touched_37 ?_
      refine lv_iload_n hx hb dX10_touched_40 rfl (lv_at hl 1 rfl) ?_
      refine bd_e hf (fun j29 ej29 hf => ?_)
      have kj29 : ∀ (H : Heap) (locs : List Loc) (ls : Array Slot), mm_W D cs A L K N s.heap I P H locs → lv_has ls 8 [] → W p l e (headSpec wz_X10_touched rm_X10_touched).room s m ([.ref a0, .int x1, .int x2] : List Value).toArray below meth c H locs 0 0 QQ (F0 m 75 ls [.int j29]) := by
        intro H locs ls hM hl
        refine lv_istore (lv' := [(5, .int j29)]) hx hb dX10_touched_75 hl (by decide) rfl (fun ls hl => ?_)
        refine lv_iload hx hb dX10_touched_77 (lv_at hl 0 rfl) ?_
        refine lv_if_eq (tgt := 88) hx hb dX10_touched_79 (by decide) (fun hc30 => ?_) (fun hc30 => ?_)
        · have hf := it_p hf hc30
          refine lv_iconst (v := (0 : Int32)) hx hb dX10_touched_88 (by decide) ?_
          obtain rfl := Option.some.inj hf
          subst hQ
          exact ev_iret S hr hlocks hK hZ hM dX10_touched_89
        · have hf := it_n hf hc30
          refine lv_sipush (v := (255 : Int32)) hx hb dX10_touched_82 (by decide) ?_
          refine lv_goto (tgt := 89) hx hb dX10_touched_85 (by decide) ?_
          obtain rfl := Option.some.inj hf
          subst hQ
          exact ev_iret S hr hlocks hK hZ hM dX10_touched_89
      have hf := ej29
      refine lv_icmp_gt (tgt := 74) hx hb dX10_touched_41 (by decide) (fun hc28 => ?_) (fun hc28 => ?_)
      · have hf := it_p hf hc28
        refine lv_iconst (v := (0 : Int32)) hx hb dX10_touched_74 (by decide) ?_
        obtain rfl := Option.some.inj hf
        exact kj29 _ _ _ hM (lv_sub hl [] rfl)
      · have hf := it_n hf hc28
        refine lv_iload_n hx hb dX10_touched_44 rfl (lv_at hl 4 rfl) ?_
        refine va_mabs hx hb (hml.trans hl.1.symm) hown (hWA _ wa_5_66) (hWA _ wa_2_136) (hWA _ wa_1_13) (hWA _ wa_2_137) (Nat.le_of_ble_eq_true rfl) (Nat.le_of_ble_eq_true rfl) (Nat.zero_le _) (Nat.zero_le _) dX10_touched_45 ?_
        refine lv_iload_n hx hb dX10_touched_48 rfl (lv_at hl 1 rfl) ?_
        refine lv_icmp_gt (tgt := 74) hx hb dX10_touched_49 (by decide) (fun hc31 => ?_) (fun hc31 => ?_)
        · have hf := it_p hf hc31
          refine lv_iconst (v := (0 : Int32)) hx hb dX10_touched_74 (by decide) ?_
          obtain rfl := Option.some.inj hf
          exact kj29 _ _ _ hM (lv_sub hl [] rfl)
        · have hf := it_n hf hc31
          refine lv_aload_n hx hb dX10_touched_52 rfl (lv_at hl 2 rfl) ?_
          refine ev_getP (v := q2) S hK hM (ci := 10) (n := 23) (C := RX10) (T := TX10) hin10 rfl hg1 0 (by decide) lk9 rfl rfl eq2 rfl dX10_touched_53 ?_
          refine lv_iconst (v := (2 : Int32)) hx hb dX10_touched_56 (by decide) ?_
          refine ev_iald S hK hM hg6 (j := 2) rfl dX10_touched_57 ?_
          refine lv_iconst (v := (2 : Int32)) hx hb dX10_touched_58 (by decide) ?_
          refine lv_icmp_eq (tgt := 70) hx hb dX10_touched_59 (by decide) (fun hc32 => ?_) (fun hc32 => ?_)
          · have hf := it_p hf hc32
            refine lv_iconst (v := (1 : Int32)) hx hb dX10_touched_70 (by decide) ?_
            refine lv_goto (tgt := 75) hx hb dX10_touched_71 (by decide) ?_
            obtain rfl := Option.some.inj hf
            exact kj29 _ _ _ hM (lv_sub hl [] rfl)
          · have hf := it_n hf hc32
            refine lv_iload_n hx hb dX10_touched_62 rfl (lv_at hl 3 rfl) ?_
            refine lv_if_eq (tgt := 70) hx hb dX10_touched_63 (by decide) (fun hc33 => ?_) (fun hc33 => ?_)
            · have hf := it_p hf hc33
              refine lv_iconst (v := (1 : Int32)) hx hb dX10_touched_70 (by decide) ?_
              refine lv_goto (tgt := 75) hx hb dX10_touched_71 (by decide) ?_
              obtain rfl := Option.some.inj hf
              exact kj29 _ _ _ hM (lv_sub hl [] rfl)
            · have hf := it_n hf hc33
              refine lv_iload_n hx hb dX10_touched_66 rfl (lv_at hl 4 rfl) ?_
              refine lv_if_ne (tgt := 74) hx hb dX10_touched_67 (by decide) (fun hc34 => ?_) (fun hc34 => ?_)
              · have hf := it_n hf hc34
                refine lv_iconst (v := (0 : Int32)) hx hb dX10_touched_74 (by decide) ?_
                obtain rfl := Option.some.inj hf
                exact kj29 _ _ _ hM (lv_sub hl [] rfl)
              · have hf := it_p hf hc34
                refine lv_iconst (v := (1 : Int32)) hx hb dX10_touched_70 (by decide) ?_
                refine lv_goto (tgt := 75) hx hb dX10_touched_71 (by decide) ?_
                obtain rfl := Option.some.inj hf
                exact kj29 _ _ _ hM (lv_sub hl [] rfl)
noncomputable def fn_X10_touch (K N : Nat → Nat) (I : Nat → Nat → Int32) (P : Nat → Nat → Option Nat) (a0 : Nat) (x1 : Int32) (x2 : Int32) : Option (Int32) := Option.bind (fn_X10_isIn x1 (-9 : Int32) (9 : Int32)) (fun (r1 : Int32) => if r1 = 0 then (some (-2 : Int32)) else (Option.bind (fn_X10_isIn x2 (-9 : Int32) (9 : Int32)) (fun (r3 : Int32) => if r3 = 0 then (some (-2 : Int32)) else (Option.bind (fn_X10_touched K N I P a0 x1 x2) (fun (r5 : Int32) => gd (K a0 = 11) (some r5))))))
abbrev wz_X10_touch : List Cond := Cond.code yX10_touch cX10_touch 3 (some .int) :: WA
abbrev rm_X10_touch : Room := { frames := 3, cells := 0, slots := 0, locals := 57 }
set_option maxHeartbeats 4000000 in
set_option maxRecDepth 100000 in
theorem c_X10_touch (I : Nat → Nat → Int32) (P : Nat → Nat → Option Nat) (a0 : Nat) (x1 : Int32) (x2 : Int32) (res : Int32) (hf : fn_X10_touch K N I P a0 x1 x2 = some res) : Met l yX10_touch wz_X10_touch rm_X10_touch (va_Pc [.ref a0, .int x1, .int x2] (mm_B D cs A L K N z w I P)) (va_Qi (fun r (_ : Unit) => r = res) (fun _ => mm_B D cs A L K N z w I P) A) 0 0 A := by
  refine Met.ofW (cc := cX10_touch) (maxL := 3) (ret := (some .int)) (by decide) rfl ?_
  intro p e s m args below meth c s₁ B hml hv
  obtain ⟨rfl, hBm⟩ := hv
  have hx := B.exec
  have hb := B.bytes
  have hr := B.returns
  have hts := atoms_spec (ws := wz_X10_touch) B.pre
  have hWA : ∀ w ∈ WA, w.before ([.ref a0, .int x1, .int x2] : List Value).toArray s = true := fun u9 h9 => hts u9 (List.mem_cons_of_mem _ h9)
  have hown : s.vm.findClass RX10 = some m.cls := findClass_of_methodNamed B.named
  have hlocks := B.notSynchronized
  have S : CallFix p m c cX10_touch 3 s ([.ref a0, .int x1, .int x2] : List Value).toArray wz_X10_touch RX10 := ⟨hx, hb, hml, hown, hts⟩
  have hK := hBm.2.2.2.1
  have hZ := hBm.2.2.2.2
  have hM : mm_W D cs A L K N s.heap I P s.heap [] := ⟨hBm.1, hBm.2.1, hBm.2.2.1, va_S.rf⟩
  have hl := lv_entry ([.ref a0, .int x1, .int x2]) (n := 3) (Nat.le_of_ble_eq_true rfl)
  rw [lg_entry_eq]
  generalize (lg_sl ([.ref a0, .int x1, .int x2]) ++ List.replicate (3 - (lg_sl ([.ref a0, .int x1, .int x2])).length) Slot.unset).toArray = ls at hl ⊢
  have hl : lv_has ls 3 [(0, .ref a0), (1, .int x1), (2, .int x2)] := hl
  generalize hQ : MQ below (va_Qi (fun r (_ : Unit) => r = res) (fun _ => mm_B D cs A L K N z w I P) A) ([.ref a0, .int x1, .int x2] : List Value).toArray s 0 0 A = QQ
  rw [fn_X10_touch] at hf
  refine lv_iload_n hx hb dX10_touch_0 rfl (lv_at hl 1 rfl) ?_
  refine lv_bipush (v := (-9 : Int32)) hx hb dX10_touch_1 (by decide) ?_
  refine lv_bipush (v := (9 : Int32)) hx hb dX10_touch_3 (by decide) ?_
  refine bd_e hf (fun r1 er1 hf => ?_)
  refine ev_calli (va_runS (As := [.int x1, .int (-9 : Int32), .int (9 : Int32)]) (rest := []) S (c_X10_isIn (l := l) I P x1 (-9 : Int32) (9 : Int32) r1 er1) (va_cwS 3 hts (gi_s wa_4_218 wa_4_219 wa_1_11 wa_4_220) rfl rfl rfl (by decide +kernel) ⟨Nat.le_of_ble_eq_true rfl, Nat.le_of_ble_eq_true rfl⟩) ⟨mm_B_blind, fun U hU hW => ⟨rfl, mm_B_of hK hZ hM hU hW⟩⟩ rfl rfl hl.1 rfl (lv_room (Nat.le_of_ble_eq_true rfl)) dX10_touch_5 ⟨Nat.zero_le _, Nat.zero_le _⟩) hM (fun H locs hM => ?_)
  refine lv_if_eq (tgt := 31) hx hb dX10_touch_8 (by decide) (fun hc2 => ?_) (fun hc2 => ?_)
  · have hf := it_p hf hc2
    refine lv_bipush (v := (-2 : Int32)) hx hb dX10_touch_31 (by decide) ?_
    obtain rfl := Option.some.inj hf
    subst hQ
    exact ev_iret S hr hlocks hK hZ hM dX10_touch_33
  · have hf := it_n hf hc2
    refine lv_iload_n hx hb dX10_touch_11 rfl (lv_at hl 2 rfl) ?_
    refine lv_bipush (v := (-9 : Int32)) hx hb dX10_touch_12 (by decide) ?_
    refine lv_bipush (v := (9 : Int32)) hx hb dX10_touch_14 (by decide) ?_
    refine bd_e hf (fun r3 er3 hf => ?_)
    refine ev_calli (va_runS (As := [.int x2, .int (-9 : Int32), .int (9 : Int32)]) (rest := []) S (c_X10_isIn (l := l) I P x2 (-9 : Int32) (9 : Int32) r3 er3) (va_cwS 3 hts (gi_s wa_4_218 wa_4_219 wa_1_11 wa_4_220) rfl rfl rfl (by decide +kernel) ⟨Nat.le_of_ble_eq_true rfl, Nat.le_of_ble_eq_true rfl⟩) ⟨mm_B_blind, fun U hU hW => ⟨rfl, mm_B_of hK hZ hM hU hW⟩⟩ rfl rfl hl.1 rfl (lv_room (Nat.le_of_ble_eq_true rfl)) dX10_touch_16 ⟨Nat.zero_le _, Nat.zero_le _⟩) hM (fun H locs hM => ?_)
    refine lv_if_eq (tgt := 31) hx hb dX10_touch_19 (by decide) (fun hc4 => ?_) (fun hc4 => ?_)
    · have hf := it_p hf hc4
      refine lv_bipush (v := (-2 : Int32)) hx hb dX10_touch_31 (by decide) ?_
      obtain rfl := Option.some.inj hf
      subst hQ
      exact ev_iret S hr hlocks hK hZ hM dX10_touch_33
    · have hf := it_n hf hc4
      refine lv_aload_n hx hb dX10_touch_22 rfl (lv_at hl 0 rfl) ?_
      refine lv_iload_n hx hb dX10_touch_23 rfl (lv_at hl 1 rfl) ?_
      refine lv_iload_n hx hb dX10_touch_24 rfl (lv_at hl 2 rfl) ?_
      refine bd_e hf (fun r5 er5 hf => ?_)
      refine gd_e hf (fun hg6 hf => ?_)
      refine ev_calli (va_runV (As := [.int x1, .int x2]) (rest := []) S (c_X10_touched (l := l) I P a0 x1 x2 r5 er5) (cwV 2 hts (gi_v wa_5_62 wa_5_64 wa_s_34 wa_1_11 wa_5_65) rfl rfl rfl (by decide +kernel) ⟨Nat.le_of_ble_eq_true rfl, Nat.le_of_ble_eq_true rfl⟩) ⟨mm_B_blind, ev_recv hK hM (ci := 10) rfl hg6 rfl, fun U hU hW => ⟨rfl, mm_B_of hK hZ hM hU hW⟩⟩ rfl rfl hl.1 rfl (lv_room (Nat.le_of_ble_eq_true rfl)) dX10_touch_25 ⟨Nat.zero_le _, Nat.zero_le _⟩) hM (fun H locs hM => ?_)
      refine lv_goto (tgt := 33) hx hb dX10_touch_28 (by decide) ?_
      obtain rfl := Option.some.inj hf
      subst hQ
      exact ev_iret S hr hlocks hK hZ hM dX10_touch_33
noncomputable def fn_X10_masked_L4 (K : Nat → Nat) (N : Nat → Nat) (a0 : Nat) (I : Nat → Nat → Int32) (P : Nat → Nat → Option Nat) : Nat → Int32 → Int32 → Option (Int32)
  | 0, _, _ => none
  | n + 1, v1, v2 => if (192 : Int32) ≤ v2 then (some v1) else (gd (K a0 = 11) (Option.bind (P a0 (0)) (fun q6 => gd (K q6 = 12 ∧ vp_in ((1556 : Int32) + v2) (N q6)) (Option.bind (some (v1 + (I q6 (((1556 : Int32) + v2)).toNatClampNeg))) (fun v8 => fn_X10_masked_L4 K N a0 I P n v8 (v2 + (1 : Int32)))))))
noncomputable def fn_X10_masked (K N : Nat → Nat) (I : Nat → Nat → Int32) (P : Nat → Nat → Option Nat) (a0 : Nat) : Option (Int32) := Option.bind (fn_X10_masked_L4 K N a0 I P FU (0 : Int32) (0 : Int32)) (fun (r3 : Int32) => some r3)
abbrev wz_X10_masked : List Cond := Cond.code yX10_masked cX10_masked 3 (some .int) :: WA
abbrev rm_X10_masked : Room := { frames := 1, cells := 0, slots := 0, locals := 12 }
set_option maxHeartbeats 4000000 in
set_option maxRecDepth 100000 in
theorem c_X10_masked (I : Nat → Nat → Int32) (P : Nat → Nat → Option Nat) (a0 : Nat) (res : Int32) (hf : fn_X10_masked K N I P a0 = some res) : Met l yX10_masked wz_X10_masked rm_X10_masked (va_Pc [.ref a0] (mm_B D cs A L K N z w I P)) (va_Qi (fun r (_ : Unit) => r = res) (fun _ => mm_B D cs A L K N z w I P) A) 0 0 A := by
  refine Met.ofW (cc := cX10_masked) (maxL := 3) (ret := (some .int)) (by decide) rfl ?_
  intro p e s m args below meth c s₁ B hml hv
  obtain ⟨rfl, hBm⟩ := hv
  have hx := B.exec
  have hb := B.bytes
  have hr := B.returns
  have hts := atoms_spec (ws := wz_X10_masked) B.pre
  have hWA : ∀ w ∈ WA, w.before ([.ref a0] : List Value).toArray s = true := fun u9 h9 => hts u9 (List.mem_cons_of_mem _ h9)
  have hown : s.vm.findClass RX10 = some m.cls := findClass_of_methodNamed B.named
  have hlocks := B.notSynchronized
  have S : CallFix p m c cX10_masked 3 s ([.ref a0] : List Value).toArray wz_X10_masked RX10 := ⟨hx, hb, hml, hown, hts⟩
  have hK := hBm.2.2.2.1
  have hZ := hBm.2.2.2.2
  have hM : mm_W D cs A L K N s.heap I P s.heap [] := ⟨hBm.1, hBm.2.1, hBm.2.2.1, va_S.rf⟩
  have hl := lv_entry ([.ref a0]) (n := 3) (Nat.le_of_ble_eq_true rfl)
  rw [lg_entry_eq]
  generalize (lg_sl ([.ref a0]) ++ List.replicate (3 - (lg_sl ([.ref a0])).length) Slot.unset).toArray = ls at hl ⊢
  have hl : lv_has ls 3 [(0, .ref a0)] := hl
  have hin10 : ∀ w ∈ wsX100, w ∈ wz_X10_masked := fun w h => List.mem_cons_of_mem _ (wu_X10 w h)
  have lk9 : (Cond.fieldLink RX10 9 RX10 "g" "[I").before ([.ref a0] : List Value).toArray s = true := hWA _ wa_4_141
  generalize hQ : MQ below (va_Qi (fun r (_ : Unit) => r = res) (fun _ => mm_B D cs A L K N z w I P) A) ([.ref a0] : List Value).toArray s 0 0 A = QQ
  rw [fn_X10_masked] at hf
  refine lv_iconst (v := (0 : Int32)) hx hb dX10_masked_0 (by decide) ?_
  refine lv_istore_n (lv' := [(1, .int (0 : Int32)), (0, .ref a0)]) hx hb dX10_masked_1 rfl hl (by decide) rfl (fun ls hl => ?_)
  refine lv_iconst (v := (0 : Int32)) hx hb dX10_masked_2 (by decide) ?_
  refine lv_istore_n (lv' := [(2, .int (0 : Int32)), (1, .int (0 : Int32)), (0, .ref a0)]) hx hb dX10_masked_3 rfl hl (by decide) rfl (fun ls hl => ?_)
  have lp4_8 : ∀ (n : Nat) (v1 : Int32) (v2 : Int32) (H : Heap) (locs : List Loc) (ls : Array Slot) (r3 : Int32), mm_W D cs A L K N s.heap I P H locs → lv_has ls 3 [(0, .ref a0), (1, .int v1), (2, .int v2)] → fn_X10_masked_L4 K N a0 I P n v1 v2 = some r3 → (∀ (H : Heap) (locs : List Loc) (ls : Array Slot), mm_W D cs A L K N s.heap I P H locs → lv_has ls 3 [(1, .int r3)] → W p l e (headSpec wz_X10_masked rm_X10_masked).room s m ([.ref a0] : List Value).toArray below meth c H locs 0 0 QQ (F0 m 30 ls [])) → W p l e (headSpec wz_X10_masked rm_X10_masked).room s m ([.ref a0] : List Value).toArray below meth c H locs 0 0 QQ (F0 m 4 ls []) := by
    intro n
    induction n with
    | zero => intro v1 v2 H locs ls r3 hM hl hf kk; exact nn_x (show (none : Option (Int32)) = some r3 from hf)
    | succ n ih =>
      intro v1 v2 H locs ls r3 hM hl hf kk
      rw [fn_X10_masked_L4] at hf
      refine lv_iload_n hx hb dX10_masked_4 rfl (lv_at hl 2 rfl) ?_
      refine lv_sipush (v := (192 : Int32)) hx hb dX10_masked_5 (by decide) ?_
      refine lv_icmp_ge (tgt := 30) hx hb dX10_masked_8 (by decide) (fun hc4 => ?_) (fun hc4 => ?_)
      · have hf := it_p hf hc4
        obtain rfl := Option.some.inj hf
        exact kk _ _ _ hM (lv_sub hl [1] rfl)
      · have hf := it_n hf hc4
        refine lv_iload_n hx hb dX10_masked_11 rfl (lv_at hl 1 rfl) ?_
        refine lv_aload_n hx hb dX10_masked_12 rfl (lv_at hl 0 rfl) ?_
        refine gd_e hf (fun hg5 hf => ?_)
        refine bd_e hf (fun q6 eq6 hf => ?_)
        refine ev_getP (v := q6) S hK hM (ci := 10) (n := 23) (C := RX10) (T := TX10) hin10 rfl hg5 0 (by decide) lk9 rfl rfl eq6 rfl dX10_masked_13 ?_
        refine lv_sipush (v := (1556 : Int32)) hx hb dX10_masked_16 (by decide) ?_
        refine lv_iload_n hx hb dX10_masked_19 rfl (lv_at hl 2 rfl) ?_
        refine lv_iadd hx hb dX10_masked_20 ?_
        refine gd_e hf (fun hg7 hf => ?_)
        refine ev_iald S hK hM hg7 (j := (((1556 : Int32) + v2)).toNatClampNeg) rfl dX10_masked_21 ?_
        refine lv_iadd hx hb dX10_masked_22 ?_
        refine lv_topi (fun v8 ev8 => ?_)
        have hf := nm_x ev8 hf
        refine lv_istore_n (lv' := [(1, .int v8), (0, .ref a0), (2, .int v2)]) hx hb dX10_masked_23 rfl hl (by decide) rfl (fun ls hl => ?_)
        refine lv_iinc (v := (v2 + (1 : Int32))) (lv' := [(2, .int (v2 + (1 : Int32))), (1, .int v8), (0, .ref a0)]) hx hb dX10_masked_24 hl (k := 2) rfl rfl (by decide) rfl (fun ls hl => ?_)
        refine lv_goto (tgt := 4) hx hb dX10_masked_27 (by decide) ?_
        exact ih v8 (v2 + (1 : Int32)) _ _ _ _ hM (lv_sub hl [2, 1, 0] rfl) hf kk
  refine bd_e hf (fun r3 er3 hf => ?_)
  refine lp4_8 FU (0 : Int32) (0 : Int32) _ _ _ r3 hM (lv_sub hl [2, 1, 0] rfl) er3 (fun H locs ls hM hl => ?_)
  refine lv_iload_n hx hb dX10_masked_30 rfl (lv_at hl 0 rfl) ?_
  obtain rfl := Option.some.inj hf
  subst hQ
  exact ev_iret S hr hlocks hK hZ hM dX10_masked_31
noncomputable def fn_X10_looksFree (K N : Nat → Nat) (I : Nat → Nat → Int32) (P : Nat → Nat → Option Nat) (a0 : Nat) : Option ((Nat → Nat → Int32)) := Option.bind (fn_X10_masked K N I P a0) (fun (r1 : Int32) => gd (K a0 = 11) (if r1 = 0 then (Option.bind (some (up2 I a0 3 (1 : Int32))) (fun I5 => some I5)) else (Option.bind (some (up2 I a0 3 (0 : Int32))) (fun I4 => some I4))))
abbrev wz_X10_looksFree : List Cond := Cond.code yX10_looksFree cX10_looksFree 1 none :: WA
abbrev rm_X10_looksFree : Room := { frames := 2, cells := 0, slots := 0, locals := 34 }
set_option maxHeartbeats 4000000 in
set_option maxRecDepth 100000 in
theorem c_X10_looksFree (I : Nat → Nat → Int32) (P : Nat → Nat → Option Nat) (a0 : Nat) (res : (Nat → Nat → Int32)) (hf : fn_X10_looksFree K N I P a0 = some res) : Met l yX10_looksFree wz_X10_looksFree rm_X10_looksFree (va_Pc [.ref a0] (mm_B D cs A L K N z w I P)) (va_Qv (fun (_ : Unit) => True) (fun _ => mm_B D cs A L K N z w res P) A) 0 0 A := by
  refine Met.ofW (cc := cX10_looksFree) (maxL := 1) (ret := none) (by decide) rfl ?_
  intro p e s m args below meth c s₁ B hml hv
  obtain ⟨rfl, hBm⟩ := hv
  have hx := B.exec
  have hb := B.bytes
  have hr := B.returns
  have hts := atoms_spec (ws := wz_X10_looksFree) B.pre
  have hWA : ∀ w ∈ WA, w.before ([.ref a0] : List Value).toArray s = true := fun u9 h9 => hts u9 (List.mem_cons_of_mem _ h9)
  have hown : s.vm.findClass RX10 = some m.cls := findClass_of_methodNamed B.named
  have hlocks := B.notSynchronized
  have S : CallFix p m c cX10_looksFree 1 s ([.ref a0] : List Value).toArray wz_X10_looksFree RX10 := ⟨hx, hb, hml, hown, hts⟩
  have hK := hBm.2.2.2.1
  have hZ := hBm.2.2.2.2
  have hM : mm_W D cs A L K N s.heap I P s.heap [] := ⟨hBm.1, hBm.2.1, hBm.2.2.1, va_S.rf⟩
  have hl := lv_entry ([.ref a0]) (n := 1) (Nat.le_of_ble_eq_true rfl)
  rw [lg_entry_eq]
  generalize (lg_sl ([.ref a0]) ++ List.replicate (1 - (lg_sl ([.ref a0])).length) Slot.unset).toArray = ls at hl ⊢
  have hl : lv_has ls 1 [(0, .ref a0)] := hl
  have hin10 : ∀ w ∈ wsX100, w ∈ wz_X10_looksFree := fun w h => List.mem_cons_of_mem _ (wu_X10 w h)
  have lk113 : (Cond.fieldLink RX10 113 RX10 "isAllFree" "Z").before ([.ref a0] : List Value).toArray s = true := hWA _ wa_4_144
  generalize hQ : MQ below (va_Qv (fun (_ : Unit) => True) (fun _ => mm_B D cs A L K N z w res P) A) ([.ref a0] : List Value).toArray s 0 0 A = QQ
  rw [fn_X10_looksFree] at hf
  refine lv_aload_n hx hb dX10_looksFree_0 rfl (lv_at hl 0 rfl) ?_
  refine lv_aload_n hx hb dX10_looksFree_1 rfl (lv_at hl 0 rfl) ?_
  refine bd_e hf (fun r1 er1 hf => ?_)
  refine gd_e hf (fun hg2 hf => ?_)
  refine ev_calli (va_runV (As := []) (rest := [.ref a0]) S (c_X10_masked (l := l) I P a0 r1 er1) (cwV 0 hts (gi_v wa_5_136 wa_5_138 wa_s_48 wa_1_11 wa_5_139) rfl rfl rfl (by decide +kernel) ⟨Nat.le_of_ble_eq_true rfl, Nat.le_of_ble_eq_true rfl⟩) ⟨mm_B_blind, ev_recv hK hM (ci := 10) rfl hg2 rfl, fun U hU hW => ⟨rfl, mm_B_of hK hZ hM hU hW⟩⟩ rfl rfl hl.1 rfl (lv_room (Nat.le_of_ble_eq_true rfl)) dX10_looksFree_2 ⟨Nat.zero_le _, Nat.zero_le _⟩) hM (fun H locs hM => ?_)
  refine lv_if_ne (tgt := 12) hx hb dX10_looksFree_5 (by decide) (fun hc3 => ?_) (fun hc3 => ?_)
  · have hf := it_n hf hc3
    refine lv_iconst (v := (0 : Int32)) hx hb dX10_looksFree_12 (by decide) ?_
    refine ev_put S hK hM (ci := 10) (n := 23) (C := RX10) (T := TX10) hin10 tyX10 tyX10_ok nmX10 rfl hg2 3 (by decide) lk113 rfl rfl rfl rfl rfl (Nat.le_of_ble_eq_true rfl) rfl dX10_looksFree_13 (fun I4 eI4 H locs hM => ?_)
    have hf := nm_x eI4 hf
    obtain rfl := Option.some.inj hf
    subst hQ
    exact ev_vret S hr hlocks hK hZ hM dX10_looksFree_16
  · have hf := it_p hf hc3
    refine lv_iconst (v := (1 : Int32)) hx hb dX10_looksFree_8 (by decide) ?_
    refine lv_goto (tgt := 13) hx hb dX10_looksFree_9 (by decide) ?_
    refine ev_put S hK hM (ci := 10) (n := 23) (C := RX10) (T := TX10) hin10 tyX10 tyX10_ok nmX10 rfl hg2 3 (by decide) lk113 rfl rfl rfl rfl rfl (Nat.le_of_ble_eq_true rfl) rfl dX10_looksFree_13 (fun I5 eI5 H locs hM => ?_)
    have hf := nm_x eI5 hf
    obtain rfl := Option.some.inj hf
    subst hQ
    exact ev_vret S hr hlocks hK hZ hM dX10_looksFree_16
end G05
