/-! common(a, b), by the depth -/
def fn_cm : Nat → Int32 → Int32 → Option Int32
  | 0, _, _ => none
  | n + 1, x0, x1 => if x1 = 0 then some x0 else fn_cm n x1 (x0 - x0 / x1 * x1)
def fn_X10_common (x0 x1 : Int32) : Option Int32 := fn_cm 8 x0 x1
abbrev wz_X10_common : List Cond := Cond.code yX10_common cX10_common 2 (some .int) :: WA
abbrev rm_cm (n : Nat) : Room := { frames := n + 1, cells := 0, slots := 0, locals := 12 + 21 * n }
abbrev rm_X10_common : Room := rm_cm 8
section CM
variable {l : Launch} {D : va_G} {cs : mm_C} {A : Nat → Prop} {L : List Nat} {K N z : Nat → Nat} {w : Option Nat}
set_option maxHeartbeats 4000000 in
set_option maxRecDepth 100000 in
theorem c_cm (I : Nat → Nat → Int32) (P : Nat → Nat → Option Nat) : ∀ (n : Nat) (x0 x1 : Int32) (res : Int32), fn_cm n x0 x1 = some res → Met l yX10_common wz_X10_common (rm_cm n) (va_Pc [.int x0, .int x1] (mm_B D cs A L K N z w I P)) (va_Qi (fun r (_ : Unit) => r = res) (fun _ => mm_B D cs A L K N z w I P) A) 0 0 A := by
  intro n
  induction n with
  | zero => intro x0 x1 res hf; exact nn_x (show (none : Option Int32) = some res from hf)
  | succ n ih =>
    intro x0 x1 res hf
    refine Met.ofW (cc := cX10_common) (maxL := 2) (ret := (some .int)) (by decide) rfl ?_
    intro p e s m args below meth c s₁ B hml hv
    obtain ⟨rfl, hBm⟩ := hv
    have hx := B.exec
    have hb := B.bytes
    have hr := B.returns
    have hts := atoms_spec (ws := wz_X10_common) B.pre
    have hown : s.vm.findClass RX10 = some m.cls := findClass_of_methodNamed B.named
    have hlocks := B.notSynchronized
    have S : CallFix p m c cX10_common 2 s ([.int x0, .int x1] : List Value).toArray wz_X10_common RX10 := ⟨hx, hb, hml, hown, hts⟩
    have hK := hBm.2.2.2.1
    have hZ := hBm.2.2.2.2
    have hM : mm_W D cs A L K N s.heap I P s.heap [] := ⟨hBm.1, hBm.2.1, hBm.2.2.1, va_S.rf⟩
    have hl := lv_entry ([.int x0, .int x1]) (n := 2) (Nat.le_of_ble_eq_true rfl)
    rw [lg_entry_eq]
    generalize (lg_sl ([.int x0, .int x1]) ++ List.replicate (2 - (lg_sl ([.int x0, .int x1])).length) Slot.unset).toArray = ls at hl ⊢
    have hl : lv_has ls 2 [(0, .int x0), (1, .int x1)] := hl
    rw [fn_cm] at hf
    refine lv_iload_n hx hb dX10_common_0 rfl (lv_at hl 1 rfl) ?_
    refine lv_if_ne (tgt := 8) hx hb dX10_common_1 (by decide) (fun hc => ?_) (fun hc => ?_)
    · have hf := it_n hf hc
      refine lv_iload_n hx hb dX10_common_8 rfl (lv_at hl 1 rfl) ?_
      refine lv_iload_n hx hb dX10_common_9 rfl (lv_at hl 0 rfl) ?_
      refine lv_iload_n hx hb dX10_common_10 rfl (lv_at hl 1 rfl) ?_
      refine lv_irem hx hb dX10_common_11 hc ?_
      refine ev_calli (va_runS (As := [.int x1, .int (x0 - x0 / x1 * x1)]) (rest := []) S (ih x1 (x0 - x0 / x1 * x1) res hf) (va_cwS 2 hts (gi_s wa_6_8 wa_6_9 wa_1_11 wa_6_10) rfl rfl rfl (by decide +kernel) ⟨Nat.le_refl _, by show 8 + (2 + 11) + (12 + 21 * n) ≤ 12 + 21 * (n + 1); omega⟩) ⟨mm_B_blind, fun U hU hW => ⟨rfl, mm_B_of hK hZ hM hU hW⟩⟩ rfl rfl hl.1 rfl (lv_room (Nat.le_of_ble_eq_true rfl)) dX10_common_12 ⟨Nat.zero_le _, Nat.zero_le _⟩) hM (fun H locs hM => ?_)
      exact ev_iret S hr hlocks hK hZ hM dX10_common_15
    · have hf := it_p hf hc
      obtain rfl := Option.some.inj hf
      refine lv_iload_n hx hb dX10_common_4 rfl (lv_at hl 0 rfl) ?_
      refine lv_goto (tgt := 15) hx hb dX10_common_5 (by decide) ?_
      exact ev_iret S hr hlocks hK hZ hM dX10_common_15
theorem c_X10_common (I : Nat → Nat → Int32) (P : Nat → Nat → Option Nat) (x0 x1 res : Int32) (hf : fn_X10_common x0 x1 = some res) : Met l yX10_common wz_X10_common rm_X10_common (va_Pc [.int x0, .int x1] (mm_B D cs A L K N z w I P)) (va_Qi (fun r (_ : Unit) => r = res) (fun _ => mm_B D cs A L K N z w I P) A) 0 0 A := c_cm I P 8 x0 x1 res hf
end CM
