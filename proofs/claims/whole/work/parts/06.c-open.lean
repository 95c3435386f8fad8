/-- all that is pure: a relation that the start has, that every call keeps, under which the answers are the same -/
def Pure : Prop := ∀ bb : Nat, ∃ Rel : (Nat → Nat → Int32) → (Nat → Nat → Option Nat) → Prop, ∃ r1, fn_X9_init bb [(10, 0)] (fun _ _ => 0) (fun _ _ => none) bb = some r1 ∧ ∃ r2, fn_X10_init bb (r1.1 ++ [(11, 0)]) r1.2.1 r1.2.2 (bb + 126) = some r2 ∧ r1.1.length = 126 ∧ kk bb r2.1 bb = 9 + 1 ∧ kk bb r2.1 (bb + 126) = 10 + 1 ∧ Rel r2.2.1 r2.2.2 ∧ sp_layer Rel bb (kk bb r2.1) (nn bb r2.1) ∧ sp_drop Rel bb (kk bb r2.1) (nn bb r2.1) ∧ sp_move Rel bb (kk bb r2.1) (nn bb r2.1) ∧ sp_dress Rel bb (kk bb r2.1) (nn bb r2.1) ∧ sp_told Rel bb (kk bb r2.1) (nn bb r2.1) ∧ sp_taken Rel bb (kk bb r2.1) (nn bb r2.1) ∧ sp_dot Rel bb (kk bb r2.1) (nn bb r2.1) ∧ sp_brush Rel bb (kk bb r2.1) (nn bb r2.1) ∧ sp_touch Rel bb (kk bb r2.1) (nn bb r2.1) ∧ sp_feed Rel bb (kk bb r2.1) (nn bb r2.1) ∧ sp_stroke Rel bb (kk bb r2.1) (nn bb r2.1) ∧ sp_box Rel bb (kk bb r2.1) (nn bb r2.1) ∧ sp_flood Rel bb (kk bb r2.1) (nn bb r2.1) ∧ sp_undo Rel bb (kk bb r2.1) (nn bb r2.1) ∧ sp_mask Rel bb (kk bb r2.1) (nn bb r2.1) ∧ sp_wand Rel bb (kk bb r2.1) (nn bb r2.1) ∧ sp_grow Rel bb (kk bb r2.1) (nn bb r2.1) ∧ sp_masked Rel bb (kk bb r2.1) (nn bb r2.1) ∧ sp_dither Rel bb (kk bb r2.1) (nn bb r2.1) ∧ sp_areas Rel bb (kk bb r2.1) (nn bb r2.1) ∧ sp_sprayed Rel bb (kk bb r2.1) (nn bb r2.1) ∧ sp_chance Rel bb (kk bb r2.1) (nn bb r2.1) ∧ sp_tells Rel bb (kk bb r2.1) (nn bb r2.1) ∧ sp_film Rel bb (kk bb r2.1) (nn bb r2.1) ∧ sp_image Rel bb (kk bb r2.1) (nn bb r2.1) ∧ sp_back Rel bb (kk bb r2.1) (nn bb r2.1) ∧ sp_count Rel bb (kk bb r2.1) (nn bb r2.1) ∧ sp_sheet Rel bb (kk bb r2.1) (nn bb r2.1) ∧ sp_put Rel bb (kk bb r2.1) (nn bb r2.1) ∧ sp_copy Rel bb (kk bb r2.1) (nn bb r2.1)
set_option maxHeartbeats 40000000 in
set_option maxRecDepth 100000 in
theorem whole_open (hp : Pure) {p : Program} {e : Env} {s : State} {m : MethodId} {below : List Frame} {meth : Method} {c : Code} (l : Launch) {b L : Nat} {xs : Nat → Int32} (hL : L ≤ 3584) (C0 : lw_At p s m meth c b L xs) : W p l e room_1 s m #[Value.ref b] below meth c s.heap [] 0 0 (lw_Z below #[Value.ref b] s) (entryFrame m ([Value.ref b] : List Value).toArray 4) := by
  obtain ⟨z, w, hZ⟩ := law_Z p s m meth c b L xs C0
  obtain ⟨D, cs, hK⟩ := law_K p s m meth c b L xs C0
  have hO := law_O p s m meth c b L xs C0
  obtain ⟨Rel, r1, e1, r2, e2, len1, hkx, hkm, hR, h_layer, h_drop, h_move, h_dress, h_told, h_taken, h_dot, h_brush, h_touch, h_feed, h_stroke, h_box, h_flood, h_undo, h_mask, h_wand, h_grow, h_masked, h_dither, h_areas, h_sprayed, h_chance, h_tells, h_film, h_image, h_back, h_count, h_sheet, h_put, h_copy⟩ := hp s.heap.size
  obtain ⟨hx, hb, hr, hml, hown, hts, hX, hbl, hlocks, hgv⟩ := id C0
  have hown : s.vm.findClass RL = some m.cls := hown
  have hb : c.code = cL_law := hb
  have S : CallFix p m c cL_law 4 s #[Value.ref b] lw_tbl RL := ⟨hx, hb, hml, hown, hts⟩
  have hA : ∀ q, (fun q => s.heap.size ≤ q) q ↔ s.heap.size ≤ q := fun _ => Iff.rfl
  have hbs : s.heap.size ≤ s.heap.size := Nat.le_refl _
  have hM : mm_G D cs (fun q => s.heap.size ≤ q) s.heap.size [] s.heap (fun _ _ => 0) (fun _ _ => none) s.heap [] 0 := ⟨⟨fun q h => ll_in.mpr (kk_in h), fun k q h => by simp [va_pl, ll] at h, ⟨fun i j p q h => by simp [va_pl, ll] at h, fun k q h => by simp [va_pl, ll] at h⟩, va_S.rf⟩, by simp, by simp, fun a _ => ⟨rfl, rfl⟩⟩
  have hl := lv_entry ([.ref b]) (n := 4) (Nat.le_of_ble_eq_true rfl)
  rw [lg_entry_eq]
  generalize (lg_sl ([.ref b]) ++ List.replicate (4 - (lg_sl ([.ref b])).length) Slot.unset).toArray = ls at hl ⊢
  have hl : lv_has ls 4 [(0, .ref b)] := hl
  refine eg_new S hA hbs hK hM (ci := 9) (n := 8) (C := RX9) (T := TX9) (fs := [.null, .null, .int 0, .null, .null, .null, .null, .null]) (fun w h => WA_tbl (wu_X9 w h)) tyX9 tyX9_ok (hts _ (WA_tbl wa_1_20)) (hts _ (WA_tbl wa_1_21)) (hts _ (WA_tbl wa_1_1)) rfl rfl (fun j hj => by rcases (show j = 0 ∨ j = 1 ∨ j = 2 ∨ j = 3 ∨ j = 4 ∨ j = 5 ∨ j = 6 ∨ j = 7 by omega) with rfl | rfl | rfl | rfl | rfl | rfl | rfl | rfl <;> rfl) (Nat.le_of_ble_eq_true rfl) (Nat.le_of_ble_eq_true rfl) dL_law_0 (fun kn1 ekn1 H hM => ?_)
  subst ekn1
  refine eg_name (fun q eq => ?_)
  obtain rfl : q = s.heap.size := eq
  refine lv_dup hx hb dL_law_3 rfl ?_
  refine eg_callv (va_runI (As := []) (rest := [.ref s.heap.size]) S (c_X9_init (l := l) hA [(10, 0)] (fun _ _ => 0) (fun _ _ => none) s.heap.size r1 e1) (cwI 0 hts (gi_nl wa_1_24) rfl rfl rfl (hts _ (WA_tbl wa_1_1)) (hts _ (WA_tbl wa_1_22)) (hts _ (WA_tbl wa_1_23)) rfl (by decide +kernel) ⟨Nat.le_of_ble_eq_true rfl, Nat.le_of_ble_eq_true rfl⟩) ⟨mm_Bg_blind, fun U hU hW => ⟨rfl, mm_Bg_of hK hZ hO hM hU hW⟩⟩ rfl rfl hl.1 rfl (lv_room (Nat.le_of_ble_eq_true rfl)) dL_law_4 ⟨Nat.le_of_ble_eq_true rfl, Nat.le_of_ble_eq_true rfl⟩) hM (fun H locs len hM => ?_)
  refine lv_astore_n (lv' := [(1, .ref s.heap.size), (0, .ref b)]) hx hb dL_law_7 rfl hl (by decide) rfl (fun ls hl => ?_)
  refine eg_new S hA hbs hK hM (ci := 10) (n := 23) (C := RX10) (T := TX10) (fs := [.null, .null, .int 0, .int 0, .null, .int 0, .int 0, .int 0, .int 0, .int 0, .int 0, .int 0, .int 0, .int 0, .int 0, .null, .null, .null, .null, .null, .null, .null, .null]) (fun w h => WA_tbl (wu_X10 w h)) tyX10 tyX10_ok (hts _ (WA_tbl wa_4_135)) (hts _ (WA_tbl wa_4_136)) (hts _ (WA_tbl wa_1_11)) rfl rfl (fun j hj => by rcases (show j = 0 ∨ j = 1 ∨ j = 2 ∨ j = 3 ∨ j = 4 ∨ j = 5 ∨ j = 6 ∨ j = 7 ∨ j = 8 ∨ j = 9 ∨ j = 10 ∨ j = 11 ∨ j = 12 ∨ j = 13 ∨ j = 14 ∨ j = 15 ∨ j = 16 ∨ j = 17 ∨ j = 18 ∨ j = 19 ∨ j = 20 ∨ j = 21 ∨ j = 22 by omega) with rfl | rfl | rfl | rfl | rfl | rfl | rfl | rfl | rfl | rfl | rfl | rfl | rfl | rfl | rfl | rfl | rfl | rfl | rfl | rfl | rfl | rfl | rfl <;> rfl) (Nat.le_of_ble_eq_true rfl) (Nat.le_of_ble_eq_true rfl) dL_law_8 (fun kn2 ekn2 H hM => ?_)
  subst ekn2
  refine eg_name (fun q eq => ?_)
  obtain rfl : q = s.heap.size + 126 := by rw [eq, len1]
  refine lv_dup hx hb dL_law_11 rfl ?_
  refine eg_callv (va_runI (As := []) (rest := [.ref (s.heap.size + 126)]) S (c_X10_init (l := l) hA (r1.1 ++ [(11, 0)]) r1.2.1 r1.2.2 (s.heap.size + 126) r2 e2) (cwI 0 hts (gi_nl wa_4_139) rfl rfl rfl (hts _ (WA_tbl wa_1_11)) (hts _ (WA_tbl wa_4_137)) (hts _ (WA_tbl wa_4_138)) rfl (by decide +kernel) ⟨Nat.le_of_ble_eq_true rfl, Nat.le_of_ble_eq_true rfl⟩) ⟨mm_Bg_blind, fun U hU hW => ⟨rfl, mm_Bg_of hK hZ hO hM hU hW⟩⟩ rfl rfl hl.1 rfl (lv_room (Nat.le_of_ble_eq_true rfl)) dL_law_12 ⟨Nat.le_of_ble_eq_true rfl, Nat.le_of_ble_eq_true rfl⟩) hM (fun H locs len hM => ?_)
  refine lv_astore_n (lv' := [(2, .ref (s.heap.size + 126)), (1, .ref s.heap.size), (0, .ref b)]) hx hb dL_law_15 rfl hl (by decide) rfl (fun ls hl => ?_)
  refine lv_iconst (v := (0 : Int32)) hx hb dL_law_16 (by decide) ?_
  refine lv_istore_n (lv' := [(3, .int (0 : Int32)), (2, .ref (s.heap.size + 126)), (1, .ref s.heap.size), (0, .ref b)]) hx hb dL_law_17 rfl hl (by decide) rfl (fun ls hl => ?_)
  refine W.widen (k := 138) (n := 26244) (Nat.le_of_ble_eq_true rfl) (Nat.le_of_ble_eq_true rfl) ?_
  exact law_loop (l := l) (bb := s.heap.size) hL C0 (Nat.not_le.mpr hbl) (fun q h => h) hK hZ hkx hkm h_layer h_drop h_move h_dress h_told h_taken h_dot h_brush h_touch h_feed h_stroke h_box h_flood h_undo h_mask h_wand h_grow h_masked h_dither h_areas h_sprayed h_chance h_tells h_film h_image h_back h_count h_sheet h_put h_copy (L + 1) 0 0 _ _ _ _ ls rfl (Nat.zero_le _) (by omega) hM.1 hR (lv_sub hl [3, 2, 1, 0] rfl)
