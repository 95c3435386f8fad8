/-! the five words -/
def chW (w i : Nat) : Int32 := (mm_sb w).getD i 0
theorem e_len {w : Nat} (hw : w < 10) : fn_J0_length_8abf5 w = some (nI (mm_sl w)) := by
  have tab : ∀ w, w < 10 → (Int32.ofNat (mm_sl w)) >>> ((0 : Int32) &&& 31) = nI (mm_sl w) := by decide +kernel
  unfold fn_J0_length_8abf5 fn_J0_coder_7d493
  rw [gd_pos hw, gd_pos hw, Option.bind_some, tab w hw]
theorem nar_ch (x : Int32) : narrow .char (.int (chn x)) = .int (chn (chn x)) := rfl
theorem chW_tab : ∀ w, w < 10 → ∀ i, i < mm_sl w → chn (chW w i &&& 255) = chW w i ∧ chn (chW w i) = chW w i := by decide +kernel
theorem sl_tab : ∀ w, w < 10 → mm_sl w < 7 ∧ 4 ≤ mm_sl w := by decide +kernel
theorem e_chr {w i : Nat} (hw : w < 10) (hi : i < mm_sl w) : fn_J0_charAt_5068e w (nI i) = some (chW w i) := by
  have hs := (sl_tab w hw).1
  obtain ⟨t1, t2⟩ := chW_tab w hw i hi
  have h1 : (mm_sb w).getD i 0 = chW w i := rfl
  unfold fn_J0_charAt_5068e fn_J0_isLatin1_aae02 fn_J1_charAt_3b067 fn_J0_checkIndex_df160 fn_J3_checkIndex_8e157
  rw [gd_pos hw, Option.bind_some, gd_pos hw, if_neg (by decide), gd_pos hw, if_neg (nI_pos (by omega)), if_pos (show nI i < Int32.ofNat (mm_sl w) from nI_lt hi (by omega)), Option.bind_some, Option.bind_some, gd_pos (vp_in_nI hi (by omega)), nI_clamp (by omega), h1, t1]
  have hn : narrow .char (.int (chW w i)) = .int (chW w i) := by
    have := nar_ch (chW w i)
    rw [t2, t2] at this; exact this
  rw [gd_pos hn, Option.bind_some, gd_pos hn]
/-- the word w stands at s -/
def isW (f : Nat → Int32) (w s : Nat) : Prop := ∀ i, i < mm_sl w → f (s + i) = chW w i
theorem e_isWordC {K N : Nat → Nat} {I : Nat → Nat → Int32} {P : Nat → Nat → Option Nat} {t r w s e fed : Nat} (hw : w < 10) (k9 : K t = 9) (p0 : P t 0 = some r) (kr : K r = 12) (nr : N r = 60) (hse : s ≤ e) (hef : e ≤ fed) (hfed : fed ≤ 60) (h1 : I t 1 = nI fed) (h6 : I t 6 = nI s) (h7 : I t 7 = nI e) : fn_X8_isWord K N I P t w = some (bI (e - s = mm_sl w ∧ isW (I r) w s)) := by
  have hs7 := (sl_tab w hw).1
  unfold fn_X8_isWord
  rw [gd_pos k9, e_len hw, Option.bind_some, gd_pos hw, h6, h7, h1, pk_sub hse]
  by_cases c : e - s = mm_sl w
  · rw [if_pos (by rw [c]), if_pos (nI_le hef (by omega)), Option.bind_some]
    have key := loop_ok (F := fun f v (_ : Unit) => fn_X8_isWord_L34 K N t w I P f (nI v)) e (fun v _ => s ≤ v ∧ ∀ i, i < v - s → I r (s + i) = chW w i) (fun u => Sum.elim (fun x => x) (fun _ => (1 : Int32)) u = bI (e - s = mm_sl w ∧ isW (I r) w s))
      (fun f z hz => by
        simp only [fn_X8_isWord_L34]
        rw [h7, if_pos (nI_le (Nat.le_refl _) (by omega))]
        refine ok_some.mpr ?_
        rw [bI_t ⟨c, fun i hi => hz.2 i (by omega)⟩]; rfl)
      (fun f v z hv hz kk => by
        simp only [fn_X8_isWord_L34]
        obtain ⟨z1, z2⟩ := hz
        rw [h7, if_neg (nI_ge hv (by omega)), p0, Option.bind_some, gd_pos ⟨kr, by rw [nr]; exact vp_in_nI (by omega) (by omega)⟩, h6, pk_sub z1, e_chr hw (by omega), Option.bind_some, nI_clamp (by omega), nI_1 v]
        by_cases q : I r v = chW w (v - s)
        · rw [if_pos q]
          refine kk () ⟨by omega, fun i hi => ?_⟩
          by_cases k : i = v - s
          · rw [k, show s + (v - s) = v by omega]; exact q
          · exact z2 i (by omega)
        · rw [if_neg q]
          refine ok_some.mpr ?_
          rw [bI_f (fun hh => q (by have := hh.2 (v - s) (by omega); rw [show s + (v - s) = v by omega] at this; exact this))]; rfl)
      FU s () hse (FU_lt (by omega)) ⟨Nat.le_refl _, fun i hi => absurd hi (by omega)⟩
    obtain ⟨u, u1, u2⟩ := key
    have u1 : fn_X8_isWord_L34 K N t w I P FU (nI s) = some u := u1
    rw [u1, Option.bind_some, ← u2]
    cases u <;> rfl
  · rw [if_neg (fun q => c ((nI_eq (by omega) (by omega)).mp q)), bI_f (fun q => c q.1)]
theorem e_isWordM {K N : Nat → Nat} {I : Nat → Nat → Int32} {P : Nat → Nat → Option Nat} {m w s e fed : Nat} (hw : w < 10) (hM : ModSh K N P m) (hse : s ≤ e) (hef : e ≤ fed) (hfed : fed ≤ 60) (h6 : I m 6 = nI e) (h7 : I m 7 = nI s) : fn_X10_isWord K N I P m w = some (bI (e - s = mm_sl w ∧ isW (I (m + 3)) w s)) := by
  have hs7 := (sl_tab w hw).1
  have k3 : K (m + 3) = 12 := hM.1.2.2.2.1
  have n3 : N (m + 3) = 60 := hM.2.1.2.2.1
  have p4 : P m 4 = some (m + 3) := hM.2.2.2.2.1
  unfold fn_X10_isWord
  rw [gd_pos hM.1.1, e_len hw, Option.bind_some, gd_pos hw, h6, h7, pk_sub hse]
  by_cases c : e - s = mm_sl w
  · rw [if_pos (by rw [c])]
    have key := loop_ok (F := fun f v z => fn_X10_isWord_L22 K N m w I P f z (nI v)) (mm_sl w) (fun v z => z = bI (∀ i, i < v → I (m + 3) (s + i) = chW w i)) (fun z => z = bI (e - s = mm_sl w ∧ isW (I (m + 3)) w s))
      (fun f z hz => by
        simp only [fn_X10_isWord_L22]
        rw [e_len hw, Option.bind_some, if_pos (nI_le (Nat.le_refl _) (by omega))]
        refine ok_some.mpr ?_
        rw [hz]
        exact congrArg bI (propext ⟨fun h => ⟨c, h⟩, fun h => h.2⟩))
      (fun f v z hv hz kk => by
        simp only [fn_X10_isWord_L22]
        rw [e_len hw, Option.bind_some, if_neg (nI_ge hv (by omega)), p4, Option.bind_some, h7, nI_add, gd_pos ⟨k3, by rw [n3]; exact vp_in_nI (by omega) (by omega)⟩, e_chr hw hv, Option.bind_some, nI_clamp (by omega), nI_1 v, Option.bind_some, Option.bind_some]
        by_cases q : I (m + 3) (s + v) = chW w v
        · rw [if_pos q]
          refine kk _ ?_
          rw [hz]
          by_cases a : ∀ i, i < v → I (m + 3) (s + i) = chW w i
          · rw [bI_t a, bI_t (fun i hi => by
              by_cases k : i = v
              · rw [k]; exact q
              · exact a i (by omega))]; rfl
          · rw [bI_f a, bI_f (fun h => a (fun i hi => h i (by omega)))]; rfl
        · rw [if_neg q]
          refine kk _ ?_
          rw [bI_f (fun h => q (h v (by omega))), hz]
          rcases bI_01 (∀ i, i < v → I (m + 3) (s + i) = chW w i) with a | a <;> rw [a] <;> rfl)
      FU 0 1 (Nat.zero_le _) (FU_lt (by omega)) (by rw [bI_t]; exact fun i hi => absurd hi (by omega))
    obtain ⟨u, u1, u2⟩ := key
    have u1 : fn_X10_isWord_L22 K N m w I P FU 1 0 = some u := u1
    rw [u1, Option.bind_some, u2, gd_01]
  · rw [if_neg (fun q => c ((nI_eq (by omega) (by omega)).mp q)), bI_f (fun q => c q.1)]
