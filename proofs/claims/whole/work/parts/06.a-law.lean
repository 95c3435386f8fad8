/-! THE LAW'S LOOP, over what the pure steps give: Rel stays, the answers are the same -/
theorem gi_vl {own C : String} {idx ml : Nat} {y : MethodName} {cd : ByteArray} {ret : Option FieldType} (h1 : Cond.methodLink own idx y ∈ WA) (h2 : Cond.instanceMethod y ∈ WA) (h3 : Cond.selects C y y ∈ WA) (h4 : Cond.initialized C ∈ WA) (h5 : Cond.code y cd ml ret ∈ WA) : GoodIn lw_tbl (wsV own idx C y (Cond.code y cd ml ret :: WA)) := by
  intro w hw
  obtain ⟨h, hg⟩ := gi_v (c0 := .initialized C) h1 h2 h3 h4 h5 w hw
  refine ⟨?_, hg⟩
  rcases List.mem_cons.mp h with rfl | h
  · exact WA_tbl h4
  · exact WA_tbl h
theorem gi_nl {ml : Nat} {y : MethodName} {cd : ByteArray} {ret : Option FieldType} (h5 : Cond.code y cd ml ret ∈ WA) : GoodIn lw_tbl (Cond.code y cd ml ret :: WA) := by
  intro w hw
  rcases List.mem_cons.mp hw with rfl | h
  · exact ⟨WA_tbl h5, WA_good h5⟩
  · exact ⟨WA_tbl h, WA_good h⟩
theorem lw_ix {i L : Nat} {v3 : Int32} (k : Nat) (ev : v3 = nI i) (h : i + k < L) (hL : L ≤ 3584) : vp_in (v3 + nI k) L := by
  subst ev
  rw [nI_add]
  exact vp_in_nI h (by omega)
theorem lw_ix0 {i L : Nat} {v3 : Int32} (ev : v3 = nI i) (h : i < L) (hL : L ≤ 3584) : vp_in v3 L := by
  subst ev
  exact vp_in_nI h (by omega)
theorem lw_lt {i L : Nat} {v3 : Int32} (ev : v3 = nI i) (hc : ¬ (Int32.ofNat L - 7) < v3) (hi : i ≤ L) (hL : L ≤ 3584) : i + 7 ≤ L := by
  subst ev
  rcases Nat.lt_or_ge L 7 with h | h
  · exfalso
    apply hc
    rw [Int32.lt_iff_toInt_lt, show (Int32.ofNat L - 7 : Int32) = nI L - nI 7 from rfl, pk_sub_toInt (by omega) (by omega), nI_toInt (by omega)]
    omega
  · have e : (Int32.ofNat L - 7 : Int32) = nI (L - 7) := pk_sub (a := L) (b := 7) h
    rw [e, nI_ltI (by omega) (by omega)] at hc
    omega
def sp_layer (Rel : (Nat → Nat → Int32) → (Nat → Nat → Option Nat) → Prop) (bb : Nat) (K N : Nat → Nat) : Prop := ∀ (I : Nat → Nat → Int32) (P : Nat → Nat → Option Nat) (x1 : Int32) (x2 : Int32) (x3 : Int32), Rel I P → ∃ u, fn_X9_layer K N I P bb x1 x2 x3 = some u ∧ ∃ u2, fn_X10_layer K N u.2 P (bb + 126) x1 x2 x3 = some u2 ∧ u.1 = u2.1 ∧ Rel u2.2 P
def sp_drop (Rel : (Nat → Nat → Int32) → (Nat → Nat → Option Nat) → Prop) (bb : Nat) (K N : Nat → Nat) : Prop := ∀ (I : Nat → Nat → Int32) (P : Nat → Nat → Option Nat) (x1 : Int32), Rel I P → ∃ u, fn_X9_drop K N I P bb x1 = some u ∧ ∃ u2, fn_X10_drop K N u.2.1 u.2.2 (bb + 126) x1 = some u2 ∧ u.1 = u2.1 ∧ Rel u2.2 u.2.2
def sp_move (Rel : (Nat → Nat → Int32) → (Nat → Nat → Option Nat) → Prop) (bb : Nat) (K N : Nat → Nat) : Prop := ∀ (I : Nat → Nat → Int32) (P : Nat → Nat → Option Nat) (x1 : Int32) (x2 : Int32), Rel I P → ∃ u, fn_X9_move K N I P bb x1 x2 = some u ∧ ∃ u2, fn_X10_move K N u.2.1 u.2.2 (bb + 126) x1 x2 = some u2 ∧ u.1 = u2.1 ∧ Rel u2.2 u.2.2
def sp_dress (Rel : (Nat → Nat → Int32) → (Nat → Nat → Option Nat) → Prop) (bb : Nat) (K N : Nat → Nat) : Prop := ∀ (I : Nat → Nat → Int32) (P : Nat → Nat → Option Nat) (x1 : Int32) (x2 : Int32) (x3 : Int32) (x4 : Int32), Rel I P → ∃ u, fn_X9_dress K N I P bb x1 x2 x3 x4 = some u ∧ ∃ u2, fn_X10_dress K N u.2 P (bb + 126) x1 x2 x3 x4 = some u2 ∧ u.1 = u2.1 ∧ Rel u2.2 P
def sp_told (Rel : (Nat → Nat → Int32) → (Nat → Nat → Option Nat) → Prop) (bb : Nat) (K N : Nat → Nat) : Prop := ∀ (I : Nat → Nat → Int32) (P : Nat → Nat → Option Nat) (x1 : Int32) (x2 : Int32), Rel I P → ∃ u, fn_X9_told K N I P bb x1 x2 = some u ∧ ∃ u2, fn_X10_told K N I P (bb + 126) x1 x2 = some u2 ∧ u = u2 ∧ Rel I P
def sp_taken (Rel : (Nat → Nat → Int32) → (Nat → Nat → Option Nat) → Prop) (bb : Nat) (K N : Nat → Nat) : Prop := ∀ (I : Nat → Nat → Int32) (P : Nat → Nat → Option Nat) (x1 : Int32) (x2 : Int32) (x3 : Int32), Rel I P → ∃ u, fn_X9_taken K N I P bb x1 x2 x3 = some u ∧ ∃ u2, fn_X10_taken K N I P (bb + 126) x1 x2 x3 = some u2 ∧ u = u2 ∧ Rel I P
def sp_dot (Rel : (Nat → Nat → Int32) → (Nat → Nat → Option Nat) → Prop) (bb : Nat) (K N : Nat → Nat) : Prop := ∀ (I : Nat → Nat → Int32) (P : Nat → Nat → Option Nat) (x1 : Int32) (x2 : Int32) (x3 : Int32) (x4 : Int32), Rel I P → ∃ u, fn_X9_dot K N I P bb x1 x2 x3 x4 = some u ∧ ∃ u2, fn_X10_dot K N I P (bb + 126) x1 x2 x3 x4 = some u2 ∧ u = u2 ∧ Rel I P
def sp_brush (Rel : (Nat → Nat → Int32) → (Nat → Nat → Option Nat) → Prop) (bb : Nat) (K N : Nat → Nat) : Prop := ∀ (I : Nat → Nat → Int32) (P : Nat → Nat → Option Nat) (x1 : Int32) (x2 : Int32) (x3 : Int32) (x4 : Int32), Rel I P → ∃ u, fn_X9_brush K N I P bb x1 x2 x3 x4 = some u ∧ ∃ u2, fn_X10_brush K N u.2 P (bb + 126) x1 x2 x3 x4 = some u2 ∧ u.1 = u2.1 ∧ Rel u2.2 P
def sp_touch (Rel : (Nat → Nat → Int32) → (Nat → Nat → Option Nat) → Prop) (bb : Nat) (K N : Nat → Nat) : Prop := ∀ (I : Nat → Nat → Int32) (P : Nat → Nat → Option Nat) (x1 : Int32) (x2 : Int32), Rel I P → ∃ u, fn_X9_touch K N I P bb x1 x2 = some u ∧ ∃ u2, fn_X10_touch K N I P (bb + 126) x1 x2 = some u2 ∧ u = u2 ∧ Rel I P
def sp_feed (Rel : (Nat → Nat → Int32) → (Nat → Nat → Option Nat) → Prop) (bb : Nat) (K N : Nat → Nat) : Prop := ∀ (I : Nat → Nat → Int32) (P : Nat → Nat → Option Nat) (x1 : Int32) (x2 : Int32) (x3 : Int32) (x4 : Int32) (x5 : Int32) (x6 : Int32), Rel I P → ∃ u, fn_X9_feed K N I P bb x1 x2 x3 x4 x5 x6 = some u ∧ ∃ u2, fn_X10_feed K N u.2 P (bb + 126) x1 x2 x3 x4 x5 x6 = some u2 ∧ u.1 = u2.1 ∧ Rel u2.2 P
def sp_stroke (Rel : (Nat → Nat → Int32) → (Nat → Nat → Option Nat) → Prop) (bb : Nat) (K N : Nat → Nat) : Prop := ∀ (I : Nat → Nat → Int32) (P : Nat → Nat → Option Nat) (x1 : Int32), Rel I P → ∃ u, fn_X9_stroke K N I P bb x1 = some u ∧ ∃ u2, fn_X10_stroke K N u.2.1 u.2.2 (bb + 126) x1 = some u2 ∧ u.1 = u2.1 ∧ Rel u2.2 u.2.2
def sp_box (Rel : (Nat → Nat → Int32) → (Nat → Nat → Option Nat) → Prop) (bb : Nat) (K N : Nat → Nat) : Prop := ∀ (I : Nat → Nat → Int32) (P : Nat → Nat → Option Nat) (x1 : Int32) (x2 : Int32) (x3 : Int32) (x4 : Int32) (x5 : Int32), Rel I P → ∃ u, fn_X9_box K N I P bb x1 x2 x3 x4 x5 = some u ∧ ∃ u2, fn_X10_box K N u.2.1 u.2.2 (bb + 126) x1 x2 x3 x4 x5 = some u2 ∧ u.1 = u2.1 ∧ Rel u2.2 u.2.2
def sp_flood (Rel : (Nat → Nat → Int32) → (Nat → Nat → Option Nat) → Prop) (bb : Nat) (K N : Nat → Nat) : Prop := ∀ (I : Nat → Nat → Int32) (P : Nat → Nat → Option Nat) (x1 : Int32) (x2 : Int32) (x3 : Int32) (x4 : Int32), Rel I P → ∃ u, fn_X9_flood K N I P bb x1 x2 x3 x4 = some u ∧ ∃ u2, fn_X10_flood K N u.2.1 u.2.2 (bb + 126) x1 x2 x3 x4 = some u2 ∧ u.1 = u2.1 ∧ Rel u2.2 u.2.2
def sp_undo (Rel : (Nat → Nat → Int32) → (Nat → Nat → Option Nat) → Prop) (bb : Nat) (K N : Nat → Nat) : Prop := ∀ (I : Nat → Nat → Int32) (P : Nat → Nat → Option Nat) (x1 : Int32), Rel I P → ∃ u, fn_X9_undo K N I P bb x1 = some u ∧ ∃ u2, fn_X10_undo K N u.2 P (bb + 126) x1 = some u2 ∧ u.1 = u2.1 ∧ Rel u2.2 P
def sp_mask (Rel : (Nat → Nat → Int32) → (Nat → Nat → Option Nat) → Prop) (bb : Nat) (K N : Nat → Nat) : Prop := ∀ (I : Nat → Nat → Int32) (P : Nat → Nat → Option Nat) (x1 : Int32) (x2 : Int32) (x3 : Int32) (x4 : Int32) (x5 : Int32), Rel I P → ∃ u, fn_X9_mask K N I P bb x1 x2 x3 x4 x5 = some u ∧ ∃ u2, fn_X10_mask K N u.2 P (bb + 126) x1 x2 x3 x4 x5 = some u2 ∧ u.1 = u2.1 ∧ Rel u2.2 P
def sp_wand (Rel : (Nat → Nat → Int32) → (Nat → Nat → Option Nat) → Prop) (bb : Nat) (K N : Nat → Nat) : Prop := ∀ (I : Nat → Nat → Int32) (P : Nat → Nat → Option Nat) (x1 : Int32) (x2 : Int32) (x3 : Int32) (x4 : Int32) (x5 : Int32), Rel I P → ∃ u, fn_X9_wand K N I P bb x1 x2 x3 x4 x5 = some u ∧ ∃ u2, fn_X10_wand K N u.2 P (bb + 126) x1 x2 x3 x4 x5 = some u2 ∧ u.1 = u2.1 ∧ Rel u2.2 P
def sp_grow (Rel : (Nat → Nat → Int32) → (Nat → Nat → Option Nat) → Prop) (bb : Nat) (K N : Nat → Nat) : Prop := ∀ (I : Nat → Nat → Int32) (P : Nat → Nat → Option Nat) (x1 : Int32), Rel I P → ∃ u, fn_X9_grow K N I P bb x1 = some u ∧ ∃ u2, fn_X10_grow K N u.2 P (bb + 126) x1 = some u2 ∧ u.1 = u2.1 ∧ Rel u2.2 P
def sp_masked (Rel : (Nat → Nat → Int32) → (Nat → Nat → Option Nat) → Prop) (bb : Nat) (K N : Nat → Nat) : Prop := ∀ (I : Nat → Nat → Int32) (P : Nat → Nat → Option Nat) (x1 : Int32), Rel I P → ∃ u, fn_X9_masked K N I P bb x1 = some u ∧ ∃ u2, fn_X10_masked_ K N I P (bb + 126) x1 = some u2 ∧ u = u2 ∧ Rel I P
def sp_dither (Rel : (Nat → Nat → Int32) → (Nat → Nat → Option Nat) → Prop) (bb : Nat) (K N : Nat → Nat) : Prop := ∀ (I : Nat → Nat → Int32) (P : Nat → Nat → Option Nat) (x1 : Int32) (x2 : Int32), Rel I P → ∃ u, fn_X9_dither K N I P bb x1 x2 = some u ∧ ∃ u2, fn_X10_dither K N u.2 P (bb + 126) x1 x2 = some u2 ∧ u.1 = u2.1 ∧ Rel u2.2 P
def sp_areas (Rel : (Nat → Nat → Int32) → (Nat → Nat → Option Nat) → Prop) (bb : Nat) (K N : Nat → Nat) : Prop := ∀ (I : Nat → Nat → Int32) (P : Nat → Nat → Option Nat) (x1 : Int32), Rel I P → ∃ u, fn_X9_areas K N I P bb x1 = some u ∧ ∃ u2, fn_X10_areas K N u.2 P (bb + 126) x1 = some u2 ∧ u.1 = u2.1 ∧ Rel u2.2 P
def sp_sprayed (Rel : (Nat → Nat → Int32) → (Nat → Nat → Option Nat) → Prop) (bb : Nat) (K N : Nat → Nat) : Prop := ∀ (I : Nat → Nat → Int32) (P : Nat → Nat → Option Nat) (x1 : Int32) (x2 : Int32) (x3 : Int32), Rel I P → ∃ u, fn_X9_sprayed K N I P bb x1 x2 x3 = some u ∧ ∃ u2, fn_X10_sprayed K N u.2 P (bb + 126) x1 x2 x3 = some u2 ∧ u.1 = u2.1 ∧ Rel u2.2 P
def sp_chance (Rel : (Nat → Nat → Int32) → (Nat → Nat → Option Nat) → Prop) (bb : Nat) (K N : Nat → Nat) : Prop := ∀ (I : Nat → Nat → Int32) (P : Nat → Nat → Option Nat) (x1 : Int32) (x2 : Int32) (x3 : Int32) (x4 : Int32) (x5 : Int32) (x6 : Int32), Rel I P → ∃ u, fn_X9_chance K N I P bb x1 x2 x3 x4 x5 x6 = some u ∧ ∃ u2, fn_X10_chance K N u.2 P (bb + 126) x1 x2 x3 x4 x5 x6 = some u2 ∧ u.1 = u2.1 ∧ Rel u2.2 P
def sp_tells (Rel : (Nat → Nat → Int32) → (Nat → Nat → Option Nat) → Prop) (bb : Nat) (K N : Nat → Nat) : Prop := ∀ (I : Nat → Nat → Int32) (P : Nat → Nat → Option Nat) (x1 : Int32) (x2 : Int32) (x3 : Int32), Rel I P → ∃ u, fn_X9_tells K N I P bb x1 x2 x3 = some u ∧ ∃ u2, fn_X10_tells K N u.2 P (bb + 126) x1 x2 x3 = some u2 ∧ u.1 = u2 ∧ Rel u.2 P
def sp_film (Rel : (Nat → Nat → Int32) → (Nat → Nat → Option Nat) → Prop) (bb : Nat) (K N : Nat → Nat) : Prop := ∀ (I : Nat → Nat → Int32) (P : Nat → Nat → Option Nat) (x1 : Int32) (x2 : Int32), Rel I P → ∃ u, fn_X9_film K N I P bb x1 x2 = some u ∧ ∃ u2, fn_X10_film K N u.2 P (bb + 126) x1 x2 = some u2 ∧ u.1 = u2.1 ∧ Rel u2.2 P
def sp_image (Rel : (Nat → Nat → Int32) → (Nat → Nat → Option Nat) → Prop) (bb : Nat) (K N : Nat → Nat) : Prop := ∀ (I : Nat → Nat → Int32) (P : Nat → Nat → Option Nat), Rel I P → ∃ u, fn_X9_image K N I P bb  = some u ∧ ∃ u2, fn_X10_image K N u.2 P (bb + 126)  = some u2 ∧ u.1 = u2.1 ∧ Rel u2.2 P
def sp_back (Rel : (Nat → Nat → Int32) → (Nat → Nat → Option Nat) → Prop) (bb : Nat) (K N : Nat → Nat) : Prop := ∀ (I : Nat → Nat → Int32) (P : Nat → Nat → Option Nat), Rel I P → ∃ u, fn_X9_back K N I P bb  = some u ∧ ∃ u2, fn_X10_back K N u.2 P (bb + 126)  = some u2 ∧ u.1 = u2.1 ∧ Rel u2.2 P
def sp_count (Rel : (Nat → Nat → Int32) → (Nat → Nat → Option Nat) → Prop) (bb : Nat) (K N : Nat → Nat) : Prop := ∀ (I : Nat → Nat → Int32) (P : Nat → Nat → Option Nat) (x1 : Int32), Rel I P → ∃ u, fn_X9_count K N I P bb x1 = some u ∧ ∃ u2, fn_X10_count K N I P (bb + 126) x1 = some u2 ∧ u = u2 ∧ Rel I P
def sp_sheet (Rel : (Nat → Nat → Int32) → (Nat → Nat → Option Nat) → Prop) (bb : Nat) (K N : Nat → Nat) : Prop := ∀ (I : Nat → Nat → Int32) (P : Nat → Nat → Option Nat) (x1 : Int32) (x2 : Int32) (x3 : Int32), Rel I P → ∃ u, fn_X9_sheet K N I P bb x1 x2 x3 = some u ∧ ∃ u2, fn_X10_sheet K N u.2 P (bb + 126) x1 x2 x3 = some u2 ∧ u.1 = u2.1 ∧ Rel u2.2 P
def sp_put (Rel : (Nat → Nat → Int32) → (Nat → Nat → Option Nat) → Prop) (bb : Nat) (K N : Nat → Nat) : Prop := ∀ (I : Nat → Nat → Int32) (P : Nat → Nat → Option Nat) (x1 : Int32) (x2 : Int32) (x3 : Int32), Rel I P → ∃ u, fn_X9_put K N I P bb x1 x2 x3 = some u ∧ ∃ u2, fn_X10_put K N u.2 P (bb + 126) x1 x2 x3 = some u2 ∧ u.1 = u2.1 ∧ Rel u2.2 P
def sp_copy (Rel : (Nat → Nat → Int32) → (Nat → Nat → Option Nat) → Prop) (bb : Nat) (K N : Nat → Nat) : Prop := ∀ (I : Nat → Nat → Int32) (P : Nat → Nat → Option Nat) (x1 : Int32) (x2 : Int32) (x3 : Int32) (x4 : Int32) (x5 : Int32), Rel I P → ∃ u, fn_X9_copy K N I P bb x1 x2 x3 x4 x5 = some u ∧ ∃ u2, fn_X10_copy K N u.2 P (bb + 126) x1 x2 x3 x4 x5 = some u2 ∧ u.1 = u2.1 ∧ Rel u2.2 P
set_option maxHeartbeats 40000000 in
set_option maxRecDepth 100000 in
theorem law_loop {p : Program} {l : Launch} {e : Env} {s : State} {m : MethodId} {below : List Frame} {meth : Method} {c : Code} {b L : Nat} {xs : Nat → Int32} {D : va_G} {cs : mm_C} {A : Nat → Prop} {Lc : List Nat} {K N z : Nat → Nat} {w : Option Nat} {bb : Nat} {Rel : (Nat → Nat → Int32) → (Nat → Nat → Option Nat) → Prop} (hL : L ≤ 3584) (C0 : lw_At p s m meth c b L xs) (hbA : ¬ A b) (hAs : ∀ q, A q → s.heap.size ≤ q) (hK : va_K D vwCl (mm_T cs) s) (hZ : mm_Z z w A s) (hkx : K bb = 9 + 1) (hkm : K (bb + 126) = 10 + 1)
    (h_layer : sp_layer Rel bb K N)
    (h_drop : sp_drop Rel bb K N)
    (h_move : sp_move Rel bb K N)
    (h_dress : sp_dress Rel bb K N)
    (h_told : sp_told Rel bb K N)
    (h_taken : sp_taken Rel bb K N)
    (h_dot : sp_dot Rel bb K N)
    (h_brush : sp_brush Rel bb K N)
    (h_touch : sp_touch Rel bb K N)
    (h_feed : sp_feed Rel bb K N)
    (h_stroke : sp_stroke Rel bb K N)
    (h_box : sp_box Rel bb K N)
    (h_flood : sp_flood Rel bb K N)
    (h_undo : sp_undo Rel bb K N)
    (h_mask : sp_mask Rel bb K N)
    (h_wand : sp_wand Rel bb K N)
    (h_grow : sp_grow Rel bb K N)
    (h_masked : sp_masked Rel bb K N)
    (h_dither : sp_dither Rel bb K N)
    (h_areas : sp_areas Rel bb K N)
    (h_sprayed : sp_sprayed Rel bb K N)
    (h_chance : sp_chance Rel bb K N)
    (h_tells : sp_tells Rel bb K N)
    (h_film : sp_film Rel bb K N)
    (h_image : sp_image Rel bb K N)
    (h_back : sp_back Rel bb K N)
    (h_count : sp_count Rel bb K N)
    (h_sheet : sp_sheet Rel bb K N)
    (h_put : sp_put Rel bb K N)
    (h_copy : sp_copy Rel bb K N) :
    ∀ (n i : Nat) (v3 : Int32) (I : Nat → Nat → Int32) (P : Nat → Nat → Option Nat) (H : Heap) (locs : List Loc) (ls : Array Slot), v3 = nI i → i ≤ L → L < i + n → mm_W D cs A Lc K N s.heap I P H locs → Rel I P → lv_has ls 4 [(0, .ref b), (1, .ref bb), (2, .ref (bb + 126)), (3, .int v3)] → W p l e room_1 s m #[Value.ref b] below meth c H locs 138 26244 (lw_Z below #[Value.ref b] s) (F0 m 18 ls []) := by
  obtain ⟨hx, hb, hr, hml, hown, hts, hX, hbl, hlocks, hgv⟩ := C0
  have hown : s.vm.findClass RL = some m.cls := hown
  have S : CallFix p m c cL_law 4 s #[Value.ref b] lw_tbl RL := ⟨hx, hb, hml, hown, hts⟩
  have hb : c.code = cL_law := hb
  intro n
  induction n with
  | zero => intro i v3 I P H locs ls ev3 h1 h2; omega
  | succ n ih =>
    intro i v3 I P H locs ls ev3 hi hn hM hR hl
    refine lv_iload_n hx hb dL_law_18 rfl (lv_at hl 3 rfl) ?_
    refine lv_aload_n hx hb dL_law_19 rfl (lv_at hl 0 rfl) ?_
    refine va_slen hx hb hX hbl hbA hM.2.2.2 dL_law_20 ?_
    refine lv_bipush (v := (7 : Int32)) hx hb dL_law_21 (by decide) ?_
    refine lv_isub hx hb dL_law_23 ?_
    refine lv_icmp_gt (tgt := 1398) hx hb dL_law_24 (by decide) (fun hc => ?_) (fun hc => ?_)
    · refine lv_iconst (v := (1 : Int32)) hx hb dL_law_1398 (by decide) ?_
      refine va_forget (fun q hq => hAs _ (hM.2.2.2.2.2 q hq)) ?_
      refine W.widen (k := 600000) (n := 7302250) (Nat.le_of_ble_eq_true rfl) (Nat.le_of_ble_eq_true rfl) ?_
      refine W.base ?_
      exact lw_ret (Drawn.sameBut.refl s.drawn lw_cs) hx hb hr hlocks dL_law_1399
    · have hlt : i + 7 ≤ L := lw_lt ev3 hc hi hL
      have kc : ∀ (I : Nat → Nat → Int32) (P : Nat → Nat → Option Nat) (H : Heap) (locs : List Loc) (ls : Array Slot), mm_W D cs A Lc K N s.heap I P H locs → Rel I P → lv_has ls 4 [(0, .ref b), (1, .ref bb), (2, .ref (bb + 126)), (3, .int v3)] → W p l e room_1 s m #[Value.ref b] below meth c H locs 138 26244 (lw_Z below #[Value.ref b] s) (F0 m 1392 ls []) := by
        intro I P H locs ls hM hR hl
        refine lv_iinc (v := (v3 + (7 : Int32))) (lv' := [(3, .int (v3 + (7 : Int32))), (0, .ref b), (1, .ref bb), (2, .ref (bb + 126))]) hx hb dL_law_1392 hl (k := 3) rfl rfl (by decide) rfl (fun ls hl => ?_)
        refine lv_goto (tgt := 18) hx hb dL_law_1395 (by decide) ?_
        exact ih (i + 7) _ I P H locs ls (by rw [ev3]; exact nI_add i 7) hlt (by omega) hM hR (lv_sub hl [1, 2, 3, 0] rfl)
      refine lv_aload_n hx hb dL_law_27 rfl (lv_at hl 0 rfl) ?_
      refine lv_iload_n hx hb dL_law_28 rfl (lv_at hl 3 rfl) ?_
      refine va_sld hx hb hX hbl hbA hM.2.2.2 (lw_ix0 ev3 (by omega) hL) dL_law_29 ?_
      refine lv_bipush (v := (31 : Int32)) hx hb dL_law_30 (by decide) ?_
      refine lv_iand hx hb dL_law_32 ?_
      obtain ⟨j, hj, ej⟩ := pk_andE (xs v3.toNatClampNeg) (m := 31) 5 (by decide)
      match j, hj, ej with
      | 0, _, ej =>
        refine lv_tableIn (off := 135) (tgt := 168) hx hb dL_law_33 (by rw [ej]; decide) (by rw [ej]; decide) (by rw [ej]; rfl) (by decide) ?_
        refine lv_aload_n hx hb dL_law_168 rfl (lv_at hl 1 rfl) ?_
        refine lv_aload_n hx hb dL_law_169 rfl (lv_at hl 0 rfl) ?_
        refine lv_iload_n hx hb dL_law_170 rfl (lv_at hl 3 rfl) ?_
        refine lv_iconst (v := (1 : Int32)) hx hb dL_law_171 (by decide) ?_
        refine lv_iadd hx hb dL_law_172 ?_
        refine va_sld hx hb hX hbl hbA hM.2.2.2 (lw_ix 1 ev3 (by omega) hL) dL_law_173 ?_
        refine lv_aload_n hx hb dL_law_174 rfl (lv_at hl 0 rfl) ?_
        refine lv_iload_n hx hb dL_law_175 rfl (lv_at hl 3 rfl) ?_
        refine lv_iconst (v := (2 : Int32)) hx hb dL_law_176 (by decide) ?_
        refine lv_iadd hx hb dL_law_177 ?_
        refine va_sld hx hb hX hbl hbA hM.2.2.2 (lw_ix 2 ev3 (by omega) hL) dL_law_178 ?_
        refine lv_aload_n hx hb dL_law_179 rfl (lv_at hl 0 rfl) ?_
        refine lv_iload_n hx hb dL_law_180 rfl (lv_at hl 3 rfl) ?_
        refine lv_iconst (v := (3 : Int32)) hx hb dL_law_181 (by decide) ?_
        refine lv_iadd hx hb dL_law_182 ?_
        refine va_sld hx hb hX hbl hbA hM.2.2.2 (lw_ix 3 ev3 (by omega) hL) dL_law_183 ?_
        obtain ⟨u0, eu0, u1, eu1, hrr, hR1⟩ := h_layer I P (xs (v3 + (1 : Int32)).toNatClampNeg) (xs (v3 + (2 : Int32)).toNatClampNeg) (xs (v3 + (3 : Int32)).toNatClampNeg) hR
        refine ev_calli (va_runV (As := [.int (xs (v3 + (1 : Int32)).toNatClampNeg), .int (xs (v3 + (2 : Int32)).toNatClampNeg), .int (xs (v3 + (3 : Int32)).toNatClampNeg)]) (rest := []) S (c_X9_layer (l := l) I P bb (xs (v3 + (1 : Int32)).toNatClampNeg) (xs (v3 + (2 : Int32)).toNatClampNeg) (xs (v3 + (3 : Int32)).toNatClampNeg) u0 eu0) (cwV 3 hts (gi_vl wa_2_40 wa_2_41 wa_2_42 wa_1_1 wa_2_43) rfl rfl rfl (by decide +kernel) ⟨Nat.le_of_ble_eq_true rfl, Nat.le_of_ble_eq_true rfl⟩) ⟨mm_B_blind, ev_recv hK hM (ci := 9) rfl hkx rfl, fun U hU hW => ⟨rfl, mm_B_of hK hZ hM hU hW⟩⟩ rfl rfl hl.1 rfl (lv_room (Nat.le_of_ble_eq_true rfl)) dL_law_184 ⟨Nat.le_of_ble_eq_true rfl, Nat.le_of_ble_eq_true rfl⟩) hM (fun H locs hM => ?_)
        refine lv_aload_n hx hb dL_law_187 rfl (lv_at hl 2 rfl) ?_
        refine lv_aload_n hx hb dL_law_188 rfl (lv_at hl 0 rfl) ?_
        refine lv_iload_n hx hb dL_law_189 rfl (lv_at hl 3 rfl) ?_
        refine lv_iconst (v := (1 : Int32)) hx hb dL_law_190 (by decide) ?_
        refine lv_iadd hx hb dL_law_191 ?_
        refine va_sld hx hb hX hbl hbA hM.2.2.2 (lw_ix 1 ev3 (by omega) hL) dL_law_192 ?_
        refine lv_aload_n hx hb dL_law_193 rfl (lv_at hl 0 rfl) ?_
        refine lv_iload_n hx hb dL_law_194 rfl (lv_at hl 3 rfl) ?_
        refine lv_iconst (v := (2 : Int32)) hx hb dL_law_195 (by decide) ?_
        refine lv_iadd hx hb dL_law_196 ?_
        refine va_sld hx hb hX hbl hbA hM.2.2.2 (lw_ix 2 ev3 (by omega) hL) dL_law_197 ?_
        refine lv_aload_n hx hb dL_law_198 rfl (lv_at hl 0 rfl) ?_
        refine lv_iload_n hx hb dL_law_199 rfl (lv_at hl 3 rfl) ?_
        refine lv_iconst (v := (3 : Int32)) hx hb dL_law_200 (by decide) ?_
        refine lv_iadd hx hb dL_law_201 ?_
        refine va_sld hx hb hX hbl hbA hM.2.2.2 (lw_ix 3 ev3 (by omega) hL) dL_law_202 ?_
        refine ev_calli (va_runV (As := [.int (xs (v3 + (1 : Int32)).toNatClampNeg), .int (xs (v3 + (2 : Int32)).toNatClampNeg), .int (xs (v3 + (3 : Int32)).toNatClampNeg)]) (rest := [.int u0.1]) S (c_X10_layer (l := l) u0.2 P (bb + 126) (xs (v3 + (1 : Int32)).toNatClampNeg) (xs (v3 + (2 : Int32)).toNatClampNeg) (xs (v3 + (3 : Int32)).toNatClampNeg) u1 eu1) (cwV 3 hts (gi_vl wa_4_211 wa_4_212 wa_4_213 wa_1_11 wa_4_214) rfl rfl rfl (by decide +kernel) ⟨Nat.le_of_ble_eq_true rfl, Nat.le_of_ble_eq_true rfl⟩) ⟨mm_B_blind, ev_recv hK hM (ci := 10) rfl hkm rfl, fun U hU hW => ⟨rfl, mm_B_of hK hZ hM hU hW⟩⟩ rfl rfl hl.1 rfl (lv_room (Nat.le_of_ble_eq_true rfl)) dL_law_203 ⟨Nat.le_of_ble_eq_true rfl, Nat.le_of_ble_eq_true rfl⟩) hM (fun H locs hM => ?_)
        refine lv_icmp_eq (tgt := 1392) hx hb dL_law_206 (by decide) (fun _ => ?_) (fun h => absurd hrr h)
        exact kc _ _ _ _ _ hM hR1 hl
      | 1, _, ej =>
        refine lv_tableIn (off := 178) (tgt := 211) hx hb dL_law_33 (by rw [ej]; decide) (by rw [ej]; decide) (by rw [ej]; rfl) (by decide) ?_
        refine lv_aload_n hx hb dL_law_211 rfl (lv_at hl 1 rfl) ?_
        refine lv_aload_n hx hb dL_law_212 rfl (lv_at hl 0 rfl) ?_
        refine lv_iload_n hx hb dL_law_213 rfl (lv_at hl 3 rfl) ?_
        refine lv_iconst (v := (1 : Int32)) hx hb dL_law_214 (by decide) ?_
        refine lv_iadd hx hb dL_law_215 ?_
        refine va_sld hx hb hX hbl hbA hM.2.2.2 (lw_ix 1 ev3 (by omega) hL) dL_law_216 ?_
        obtain ⟨u0, eu0, u1, eu1, hrr, hR1⟩ := h_drop I P (xs (v3 + (1 : Int32)).toNatClampNeg) hR
        refine ev_calli (va_runV (As := [.int (xs (v3 + (1 : Int32)).toNatClampNeg)]) (rest := []) S (c_X9_drop (l := l) I P bb (xs (v3 + (1 : Int32)).toNatClampNeg) u0 eu0) (cwV 1 hts (gi_vl wa_2_72 wa_2_73 wa_2_74 wa_1_1 wa_2_75) rfl rfl rfl (by decide +kernel) ⟨Nat.le_of_ble_eq_true rfl, Nat.le_of_ble_eq_true rfl⟩) ⟨mm_B_blind, ev_recv hK hM (ci := 9) rfl hkx rfl, fun U hU hW => ⟨rfl, mm_B_of hK hZ hM hU hW⟩⟩ rfl rfl hl.1 rfl (lv_room (Nat.le_of_ble_eq_true rfl)) dL_law_217 ⟨Nat.le_of_ble_eq_true rfl, Nat.le_of_ble_eq_true rfl⟩) hM (fun H locs hM => ?_)
        refine lv_aload_n hx hb dL_law_220 rfl (lv_at hl 2 rfl) ?_
        refine lv_aload_n hx hb dL_law_221 rfl (lv_at hl 0 rfl) ?_
        refine lv_iload_n hx hb dL_law_222 rfl (lv_at hl 3 rfl) ?_
        refine lv_iconst (v := (1 : Int32)) hx hb dL_law_223 (by decide) ?_
        refine lv_iadd hx hb dL_law_224 ?_
        refine va_sld hx hb hX hbl hbA hM.2.2.2 (lw_ix 1 ev3 (by omega) hL) dL_law_225 ?_
        refine ev_calli (va_runV (As := [.int (xs (v3 + (1 : Int32)).toNatClampNeg)]) (rest := [.int u0.1]) S (c_X10_drop (l := l) u0.2.1 u0.2.2 (bb + 126) (xs (v3 + (1 : Int32)).toNatClampNeg) u1 eu1) (cwV 1 hts (gi_vl wa_4_228 wa_4_229 wa_4_230 wa_1_11 wa_4_231) rfl rfl rfl (by decide +kernel) ⟨Nat.le_of_ble_eq_true rfl, Nat.le_of_ble_eq_true rfl⟩) ⟨mm_B_blind, ev_recv hK hM (ci := 10) rfl hkm rfl, fun U hU hW => ⟨rfl, mm_B_of hK hZ hM hU hW⟩⟩ rfl rfl hl.1 rfl (lv_room (Nat.le_of_ble_eq_true rfl)) dL_law_226 ⟨Nat.le_of_ble_eq_true rfl, Nat.le_of_ble_eq_true rfl⟩) hM (fun H locs hM => ?_)
        refine lv_icmp_eq (tgt := 1392) hx hb dL_law_229 (by decide) (fun _ => ?_) (fun h => absurd hrr h)
        exact kc _ _ _ _ _ hM hR1 hl
      | 2, _, ej =>
        refine lv_tableIn (off := 201) (tgt := 234) hx hb dL_law_33 (by rw [ej]; decide) (by rw [ej]; decide) (by rw [ej]; rfl) (by decide) ?_
        refine lv_aload_n hx hb dL_law_234 rfl (lv_at hl 1 rfl) ?_
        refine lv_aload_n hx hb dL_law_235 rfl (lv_at hl 0 rfl) ?_
        refine lv_iload_n hx hb dL_law_236 rfl (lv_at hl 3 rfl) ?_
        refine lv_iconst (v := (1 : Int32)) hx hb dL_law_237 (by decide) ?_
        refine lv_iadd hx hb dL_law_238 ?_
        refine va_sld hx hb hX hbl hbA hM.2.2.2 (lw_ix 1 ev3 (by omega) hL) dL_law_239 ?_
        refine lv_aload_n hx hb dL_law_240 rfl (lv_at hl 0 rfl) ?_
        refine lv_iload_n hx hb dL_law_241 rfl (lv_at hl 3 rfl) ?_
        refine lv_iconst (v := (2 : Int32)) hx hb dL_law_242 (by decide) ?_
        refine lv_iadd hx hb dL_law_243 ?_
        refine va_sld hx hb hX hbl hbA hM.2.2.2 (lw_ix 2 ev3 (by omega) hL) dL_law_244 ?_
        obtain ⟨u0, eu0, u1, eu1, hrr, hR1⟩ := h_move I P (xs (v3 + (1 : Int32)).toNatClampNeg) (xs (v3 + (2 : Int32)).toNatClampNeg) hR
        refine ev_calli (va_runV (As := [.int (xs (v3 + (1 : Int32)).toNatClampNeg), .int (xs (v3 + (2 : Int32)).toNatClampNeg)]) (rest := []) S (c_X9_move (l := l) I P bb (xs (v3 + (1 : Int32)).toNatClampNeg) (xs (v3 + (2 : Int32)).toNatClampNeg) u0 eu0) (cwV 2 hts (gi_vl wa_2_88 wa_2_89 wa_2_90 wa_1_1 wa_2_91) rfl rfl rfl (by decide +kernel) ⟨Nat.le_of_ble_eq_true rfl, Nat.le_of_ble_eq_true rfl⟩) ⟨mm_B_blind, ev_recv hK hM (ci := 9) rfl hkx rfl, fun U hU hW => ⟨rfl, mm_B_of hK hZ hM hU hW⟩⟩ rfl rfl hl.1 rfl (lv_room (Nat.le_of_ble_eq_true rfl)) dL_law_245 ⟨Nat.le_of_ble_eq_true rfl, Nat.le_of_ble_eq_true rfl⟩) hM (fun H locs hM => ?_)
        refine lv_aload_n hx hb dL_law_248 rfl (lv_at hl 2 rfl) ?_
        refine lv_aload_n hx hb dL_law_249 rfl (lv_at hl 0 rfl) ?_
        refine lv_iload_n hx hb dL_law_250 rfl (lv_at hl 3 rfl) ?_
        refine lv_iconst (v := (1 : Int32)) hx hb dL_law_251 (by decide) ?_
        refine lv_iadd hx hb dL_law_252 ?_
        refine va_sld hx hb hX hbl hbA hM.2.2.2 (lw_ix 1 ev3 (by omega) hL) dL_law_253 ?_
        refine lv_aload_n hx hb dL_law_254 rfl (lv_at hl 0 rfl) ?_
        refine lv_iload_n hx hb dL_law_255 rfl (lv_at hl 3 rfl) ?_
        refine lv_iconst (v := (2 : Int32)) hx hb dL_law_256 (by decide) ?_
        refine lv_iadd hx hb dL_law_257 ?_
        refine va_sld hx hb hX hbl hbA hM.2.2.2 (lw_ix 2 ev3 (by omega) hL) dL_law_258 ?_
        refine ev_calli (va_runV (As := [.int (xs (v3 + (1 : Int32)).toNatClampNeg), .int (xs (v3 + (2 : Int32)).toNatClampNeg)]) (rest := [.int u0.1]) S (c_X10_move (l := l) u0.2.1 u0.2.2 (bb + 126) (xs (v3 + (1 : Int32)).toNatClampNeg) (xs (v3 + (2 : Int32)).toNatClampNeg) u1 eu1) (cwV 2 hts (gi_vl wa_5_8 wa_5_9 wa_5_10 wa_1_11 wa_5_11) rfl rfl rfl (by decide +kernel) ⟨Nat.le_of_ble_eq_true rfl, Nat.le_of_ble_eq_true rfl⟩) ⟨mm_B_blind, ev_recv hK hM (ci := 10) rfl hkm rfl, fun U hU hW => ⟨rfl, mm_B_of hK hZ hM hU hW⟩⟩ rfl rfl hl.1 rfl (lv_room (Nat.le_of_ble_eq_true rfl)) dL_law_259 ⟨Nat.le_of_ble_eq_true rfl, Nat.le_of_ble_eq_true rfl⟩) hM (fun H locs hM => ?_)
        refine lv_icmp_eq (tgt := 1392) hx hb dL_law_262 (by decide) (fun _ => ?_) (fun h => absurd hrr h)
        exact kc _ _ _ _ _ hM hR1 hl
      | 3, _, ej =>
        refine lv_tableIn (off := 234) (tgt := 267) hx hb dL_law_33 (by rw [ej]; decide) (by rw [ej]; decide) (by rw [ej]; rfl) (by decide) ?_
        refine lv_aload_n hx hb dL_law_267 rfl (lv_at hl 1 rfl) ?_
        refine lv_aload_n hx hb dL_law_268 rfl (lv_at hl 0 rfl) ?_
        refine lv_iload_n hx hb dL_law_269 rfl (lv_at hl 3 rfl) ?_
        refine lv_iconst (v := (1 : Int32)) hx hb dL_law_270 (by decide) ?_
        refine lv_iadd hx hb dL_law_271 ?_
        refine va_sld hx hb hX hbl hbA hM.2.2.2 (lw_ix 1 ev3 (by omega) hL) dL_law_272 ?_
        refine lv_aload_n hx hb dL_law_273 rfl (lv_at hl 0 rfl) ?_
        refine lv_iload_n hx hb dL_law_274 rfl (lv_at hl 3 rfl) ?_
        refine lv_iconst (v := (2 : Int32)) hx hb dL_law_275 (by decide) ?_
        refine lv_iadd hx hb dL_law_276 ?_
        refine va_sld hx hb hX hbl hbA hM.2.2.2 (lw_ix 2 ev3 (by omega) hL) dL_law_277 ?_
        refine lv_aload_n hx hb dL_law_278 rfl (lv_at hl 0 rfl) ?_
        refine lv_iload_n hx hb dL_law_279 rfl (lv_at hl 3 rfl) ?_
        refine lv_iconst (v := (3 : Int32)) hx hb dL_law_280 (by decide) ?_
        refine lv_iadd hx hb dL_law_281 ?_
        refine va_sld hx hb hX hbl hbA hM.2.2.2 (lw_ix 3 ev3 (by omega) hL) dL_law_282 ?_
        refine lv_aload_n hx hb dL_law_283 rfl (lv_at hl 0 rfl) ?_
        refine lv_iload_n hx hb dL_law_284 rfl (lv_at hl 3 rfl) ?_
        refine lv_iconst (v := (4 : Int32)) hx hb dL_law_285 (by decide) ?_
        refine lv_iadd hx hb dL_law_286 ?_
        refine va_sld hx hb hX hbl hbA hM.2.2.2 (lw_ix 4 ev3 (by omega) hL) dL_law_287 ?_
        obtain ⟨u0, eu0, u1, eu1, hrr, hR1⟩ := h_dress I P (xs (v3 + (1 : Int32)).toNatClampNeg) (xs (v3 + (2 : Int32)).toNatClampNeg) (xs (v3 + (3 : Int32)).toNatClampNeg) (xs (v3 + (4 : Int32)).toNatClampNeg) hR
        refine ev_calli (va_runV (As := [.int (xs (v3 + (1 : Int32)).toNatClampNeg), .int (xs (v3 + (2 : Int32)).toNatClampNeg), .int (xs (v3 + (3 : Int32)).toNatClampNeg), .int (xs (v3 + (4 : Int32)).toNatClampNeg)]) (rest := []) S (c_X9_dress (l := l) I P bb (xs (v3 + (1 : Int32)).toNatClampNeg) (xs (v3 + (2 : Int32)).toNatClampNeg) (xs (v3 + (3 : Int32)).toNatClampNeg) (xs (v3 + (4 : Int32)).toNatClampNeg) u0 eu0) (cwV 4 hts (gi_vl wa_2_93 wa_2_94 wa_2_95 wa_1_1 wa_2_96) rfl rfl rfl (by decide +kernel) ⟨Nat.le_of_ble_eq_true rfl, Nat.le_of_ble_eq_true rfl⟩) ⟨mm_B_blind, ev_recv hK hM (ci := 9) rfl hkx rfl, fun U hU hW => ⟨rfl, mm_B_of hK hZ hM hU hW⟩⟩ rfl rfl hl.1 rfl (lv_room (Nat.le_of_ble_eq_true rfl)) dL_law_288 ⟨Nat.le_of_ble_eq_true rfl, Nat.le_of_ble_eq_true rfl⟩) hM (fun H locs hM => ?_)
        refine lv_aload_n hx hb dL_law_291 rfl (lv_at hl 2 rfl) ?_
        refine lv_aload_n hx hb dL_law_292 rfl (lv_at hl 0 rfl) ?_
        refine lv_iload_n hx hb dL_law_293 rfl (lv_at hl 3 rfl) ?_
        refine lv_iconst (v := (1 : Int32)) hx hb dL_law_294 (by decide) ?_
        refine lv_iadd hx hb dL_law_295 ?_
        refine va_sld hx hb hX hbl hbA hM.2.2.2 (lw_ix 1 ev3 (by omega) hL) dL_law_296 ?_
        refine lv_aload_n hx hb dL_law_297 rfl (lv_at hl 0 rfl) ?_
        refine lv_iload_n hx hb dL_law_298 rfl (lv_at hl 3 rfl) ?_
        refine lv_iconst (v := (2 : Int32)) hx hb dL_law_299 (by decide) ?_
        refine lv_iadd hx hb dL_law_300 ?_
        refine va_sld hx hb hX hbl hbA hM.2.2.2 (lw_ix 2 ev3 (by omega) hL) dL_law_301 ?_
        refine lv_aload_n hx hb dL_law_302 rfl (lv_at hl 0 rfl) ?_
        refine lv_iload_n hx hb dL_law_303 rfl (lv_at hl 3 rfl) ?_
        refine lv_iconst (v := (3 : Int32)) hx hb dL_law_304 (by decide) ?_
        refine lv_iadd hx hb dL_law_305 ?_
        refine va_sld hx hb hX hbl hbA hM.2.2.2 (lw_ix 3 ev3 (by omega) hL) dL_law_306 ?_
        refine lv_aload_n hx hb dL_law_307 rfl (lv_at hl 0 rfl) ?_
        refine lv_iload_n hx hb dL_law_308 rfl (lv_at hl 3 rfl) ?_
        refine lv_iconst (v := (4 : Int32)) hx hb dL_law_309 (by decide) ?_
        refine lv_iadd hx hb dL_law_310 ?_
        refine va_sld hx hb hX hbl hbA hM.2.2.2 (lw_ix 4 ev3 (by omega) hL) dL_law_311 ?_
        refine ev_calli (va_runV (As := [.int (xs (v3 + (1 : Int32)).toNatClampNeg), .int (xs (v3 + (2 : Int32)).toNatClampNeg), .int (xs (v3 + (3 : Int32)).toNatClampNeg), .int (xs (v3 + (4 : Int32)).toNatClampNeg)]) (rest := [.int u0.1]) S (c_X10_dress (l := l) u0.2 P (bb + 126) (xs (v3 + (1 : Int32)).toNatClampNeg) (xs (v3 + (2 : Int32)).toNatClampNeg) (xs (v3 + (3 : Int32)).toNatClampNeg) (xs (v3 + (4 : Int32)).toNatClampNeg) u1 eu1) (cwV 4 hts (gi_vl wa_5_12 wa_5_13 wa_5_14 wa_1_11 wa_5_15) rfl rfl rfl (by decide +kernel) ⟨Nat.le_of_ble_eq_true rfl, Nat.le_of_ble_eq_true rfl⟩) ⟨mm_B_blind, ev_recv hK hM (ci := 10) rfl hkm rfl, fun U hU hW => ⟨rfl, mm_B_of hK hZ hM hU hW⟩⟩ rfl rfl hl.1 rfl (lv_room (Nat.le_of_ble_eq_true rfl)) dL_law_312 ⟨Nat.le_of_ble_eq_true rfl, Nat.le_of_ble_eq_true rfl⟩) hM (fun H locs hM => ?_)
        refine lv_icmp_eq (tgt := 1392) hx hb dL_law_315 (by decide) (fun _ => ?_) (fun h => absurd hrr h)
        exact kc _ _ _ _ _ hM hR1 hl
      | 4, _, ej =>
        refine lv_tableIn (off := 287) (tgt := 320) hx hb dL_law_33 (by rw [ej]; decide) (by rw [ej]; decide) (by rw [ej]; rfl) (by decide) ?_
        refine lv_aload_n hx hb dL_law_320 rfl (lv_at hl 1 rfl) ?_
        refine lv_aload_n hx hb dL_law_321 rfl (lv_at hl 0 rfl) ?_
        refine lv_iload_n hx hb dL_law_322 rfl (lv_at hl 3 rfl) ?_
        refine lv_iconst (v := (1 : Int32)) hx hb dL_law_323 (by decide) ?_
        refine lv_iadd hx hb dL_law_324 ?_
        refine va_sld hx hb hX hbl hbA hM.2.2.2 (lw_ix 1 ev3 (by omega) hL) dL_law_325 ?_
        refine lv_aload_n hx hb dL_law_326 rfl (lv_at hl 0 rfl) ?_
        refine lv_iload_n hx hb dL_law_327 rfl (lv_at hl 3 rfl) ?_
        refine lv_iconst (v := (2 : Int32)) hx hb dL_law_328 (by decide) ?_
        refine lv_iadd hx hb dL_law_329 ?_
        refine va_sld hx hb hX hbl hbA hM.2.2.2 (lw_ix 2 ev3 (by omega) hL) dL_law_330 ?_
        obtain ⟨u0, eu0, u1, eu1, hrr, hR1⟩ := h_told I P (xs (v3 + (1 : Int32)).toNatClampNeg) (xs (v3 + (2 : Int32)).toNatClampNeg) hR
        refine ev_calli (va_runV (As := [.int (xs (v3 + (1 : Int32)).toNatClampNeg), .int (xs (v3 + (2 : Int32)).toNatClampNeg)]) (rest := []) S (c_X9_told (l := l) I P bb (xs (v3 + (1 : Int32)).toNatClampNeg) (xs (v3 + (2 : Int32)).toNatClampNeg) u0 eu0) (cwV 2 hts (gi_vl wa_2_102 wa_2_103 wa_2_104 wa_1_1 wa_2_105) rfl rfl rfl (by decide +kernel) ⟨Nat.le_of_ble_eq_true rfl, Nat.le_of_ble_eq_true rfl⟩) ⟨mm_B_blind, ev_recv hK hM (ci := 9) rfl hkx rfl, fun U hU hW => ⟨rfl, mm_B_of hK hZ hM hU hW⟩⟩ rfl rfl hl.1 rfl (lv_room (Nat.le_of_ble_eq_true rfl)) dL_law_331 ⟨Nat.le_of_ble_eq_true rfl, Nat.le_of_ble_eq_true rfl⟩) hM (fun H locs hM => ?_)
        refine lv_aload_n hx hb dL_law_334 rfl (lv_at hl 2 rfl) ?_
        refine lv_aload_n hx hb dL_law_335 rfl (lv_at hl 0 rfl) ?_
        refine lv_iload_n hx hb dL_law_336 rfl (lv_at hl 3 rfl) ?_
        refine lv_iconst (v := (1 : Int32)) hx hb dL_law_337 (by decide) ?_
        refine lv_iadd hx hb dL_law_338 ?_
        refine va_sld hx hb hX hbl hbA hM.2.2.2 (lw_ix 1 ev3 (by omega) hL) dL_law_339 ?_
        refine lv_aload_n hx hb dL_law_340 rfl (lv_at hl 0 rfl) ?_
        refine lv_iload_n hx hb dL_law_341 rfl (lv_at hl 3 rfl) ?_
        refine lv_iconst (v := (2 : Int32)) hx hb dL_law_342 (by decide) ?_
        refine lv_iadd hx hb dL_law_343 ?_
        refine va_sld hx hb hX hbl hbA hM.2.2.2 (lw_ix 2 ev3 (by omega) hL) dL_law_344 ?_
        refine ev_calli (va_runV (As := [.int (xs (v3 + (1 : Int32)).toNatClampNeg), .int (xs (v3 + (2 : Int32)).toNatClampNeg)]) (rest := [.int u0]) S (c_X10_told (l := l) I P (bb + 126) (xs (v3 + (1 : Int32)).toNatClampNeg) (xs (v3 + (2 : Int32)).toNatClampNeg) u1 eu1) (cwV 2 hts (gi_vl wa_5_16 wa_5_17 wa_5_18 wa_1_11 wa_5_19) rfl rfl rfl (by decide +kernel) ⟨Nat.le_of_ble_eq_true rfl, Nat.le_of_ble_eq_true rfl⟩) ⟨mm_B_blind, ev_recv hK hM (ci := 10) rfl hkm rfl, fun U hU hW => ⟨rfl, mm_B_of hK hZ hM hU hW⟩⟩ rfl rfl hl.1 rfl (lv_room (Nat.le_of_ble_eq_true rfl)) dL_law_345 ⟨Nat.le_of_ble_eq_true rfl, Nat.le_of_ble_eq_true rfl⟩) hM (fun H locs hM => ?_)
        refine lv_icmp_eq (tgt := 1392) hx hb dL_law_348 (by decide) (fun _ => ?_) (fun h => absurd hrr h)
        exact kc _ _ _ _ _ hM hR1 hl
      | 5, _, ej =>
        refine lv_tableIn (off := 320) (tgt := 353) hx hb dL_law_33 (by rw [ej]; decide) (by rw [ej]; decide) (by rw [ej]; rfl) (by decide) ?_
        refine lv_aload_n hx hb dL_law_353 rfl (lv_at hl 1 rfl) ?_
        refine lv_aload_n hx hb dL_law_354 rfl (lv_at hl 0 rfl) ?_
        refine lv_iload_n hx hb dL_law_355 rfl (lv_at hl 3 rfl) ?_
        refine lv_iconst (v := (1 : Int32)) hx hb dL_law_356 (by decide) ?_
        refine lv_iadd hx hb dL_law_357 ?_
        refine va_sld hx hb hX hbl hbA hM.2.2.2 (lw_ix 1 ev3 (by omega) hL) dL_law_358 ?_
        refine lv_aload_n hx hb dL_law_359 rfl (lv_at hl 0 rfl) ?_
        refine lv_iload_n hx hb dL_law_360 rfl (lv_at hl 3 rfl) ?_
        refine lv_iconst (v := (2 : Int32)) hx hb dL_law_361 (by decide) ?_
        refine lv_iadd hx hb dL_law_362 ?_
        refine va_sld hx hb hX hbl hbA hM.2.2.2 (lw_ix 2 ev3 (by omega) hL) dL_law_363 ?_
        refine lv_aload_n hx hb dL_law_364 rfl (lv_at hl 0 rfl) ?_
        refine lv_iload_n hx hb dL_law_365 rfl (lv_at hl 3 rfl) ?_
        refine lv_iconst (v := (3 : Int32)) hx hb dL_law_366 (by decide) ?_
        refine lv_iadd hx hb dL_law_367 ?_
        refine va_sld hx hb hX hbl hbA hM.2.2.2 (lw_ix 3 ev3 (by omega) hL) dL_law_368 ?_
        obtain ⟨u0, eu0, u1, eu1, hrr, hR1⟩ := h_taken I P (xs (v3 + (1 : Int32)).toNatClampNeg) (xs (v3 + (2 : Int32)).toNatClampNeg) (xs (v3 + (3 : Int32)).toNatClampNeg) hR
        refine ev_calli (va_runV (As := [.int (xs (v3 + (1 : Int32)).toNatClampNeg), .int (xs (v3 + (2 : Int32)).toNatClampNeg), .int (xs (v3 + (3 : Int32)).toNatClampNeg)]) (rest := []) S (c_X9_taken (l := l) I P bb (xs (v3 + (1 : Int32)).toNatClampNeg) (xs (v3 + (2 : Int32)).toNatClampNeg) (xs (v3 + (3 : Int32)).toNatClampNeg) u0 eu0) (cwV 3 hts (gi_vl wa_2_110 wa_2_111 wa_2_112 wa_1_1 wa_2_113) rfl rfl rfl (by decide +kernel) ⟨Nat.le_of_ble_eq_true rfl, Nat.le_of_ble_eq_true rfl⟩) ⟨mm_B_blind, ev_recv hK hM (ci := 9) rfl hkx rfl, fun U hU hW => ⟨rfl, mm_B_of hK hZ hM hU hW⟩⟩ rfl rfl hl.1 rfl (lv_room (Nat.le_of_ble_eq_true rfl)) dL_law_369 ⟨Nat.le_of_ble_eq_true rfl, Nat.le_of_ble_eq_true rfl⟩) hM (fun H locs hM => ?_)
        refine lv_aload_n hx hb dL_law_372 rfl (lv_at hl 2 rfl) ?_
        refine lv_aload_n hx hb dL_law_373 rfl (lv_at hl 0 rfl) ?_
        refine lv_iload_n hx hb dL_law_374 rfl (lv_at hl 3 rfl) ?_
        refine lv_iconst (v := (1 : Int32)) hx hb dL_law_375 (by decide) ?_
        refine lv_iadd hx hb dL_law_376 ?_
        refine va_sld hx hb hX hbl hbA hM.2.2.2 (lw_ix 1 ev3 (by omega) hL) dL_law_377 ?_
        refine lv_aload_n hx hb dL_law_378 rfl (lv_at hl 0 rfl) ?_
        refine lv_iload_n hx hb dL_law_379 rfl (lv_at hl 3 rfl) ?_
        refine lv_iconst (v := (2 : Int32)) hx hb dL_law_380 (by decide) ?_
        refine lv_iadd hx hb dL_law_381 ?_
        refine va_sld hx hb hX hbl hbA hM.2.2.2 (lw_ix 2 ev3 (by omega) hL) dL_law_382 ?_
        refine lv_aload_n hx hb dL_law_383 rfl (lv_at hl 0 rfl) ?_
        refine lv_iload_n hx hb dL_law_384 rfl (lv_at hl 3 rfl) ?_
        refine lv_iconst (v := (3 : Int32)) hx hb dL_law_385 (by decide) ?_
        refine lv_iadd hx hb dL_law_386 ?_
        refine va_sld hx hb hX hbl hbA hM.2.2.2 (lw_ix 3 ev3 (by omega) hL) dL_law_387 ?_
        refine ev_calli (va_runV (As := [.int (xs (v3 + (1 : Int32)).toNatClampNeg), .int (xs (v3 + (2 : Int32)).toNatClampNeg), .int (xs (v3 + (3 : Int32)).toNatClampNeg)]) (rest := [.int u0]) S (c_X10_taken (l := l) I P (bb + 126) (xs (v3 + (1 : Int32)).toNatClampNeg) (xs (v3 + (2 : Int32)).toNatClampNeg) (xs (v3 + (3 : Int32)).toNatClampNeg) u1 eu1) (cwV 3 hts (gi_vl wa_5_24 wa_5_25 wa_5_26 wa_1_11 wa_5_27) rfl rfl rfl (by decide +kernel) ⟨Nat.le_of_ble_eq_true rfl, Nat.le_of_ble_eq_true rfl⟩) ⟨mm_B_blind, ev_recv hK hM (ci := 10) rfl hkm rfl, fun U hU hW => ⟨rfl, mm_B_of hK hZ hM hU hW⟩⟩ rfl rfl hl.1 rfl (lv_room (Nat.le_of_ble_eq_true rfl)) dL_law_388 ⟨Nat.le_of_ble_eq_true rfl, Nat.le_of_ble_eq_true rfl⟩) hM (fun H locs hM => ?_)
        refine lv_icmp_eq (tgt := 1392) hx hb dL_law_391 (by decide) (fun _ => ?_) (fun h => absurd hrr h)
        exact kc _ _ _ _ _ hM hR1 hl
      | 6, _, ej =>
        refine lv_tableIn (off := 363) (tgt := 396) hx hb dL_law_33 (by rw [ej]; decide) (by rw [ej]; decide) (by rw [ej]; rfl) (by decide) ?_
        refine lv_aload_n hx hb dL_law_396 rfl (lv_at hl 1 rfl) ?_
        refine lv_aload_n hx hb dL_law_397 rfl (lv_at hl 0 rfl) ?_
        refine lv_iload_n hx hb dL_law_398 rfl (lv_at hl 3 rfl) ?_
        refine lv_iconst (v := (1 : Int32)) hx hb dL_law_399 (by decide) ?_
        refine lv_iadd hx hb dL_law_400 ?_
        refine va_sld hx hb hX hbl hbA hM.2.2.2 (lw_ix 1 ev3 (by omega) hL) dL_law_401 ?_
        refine lv_aload_n hx hb dL_law_402 rfl (lv_at hl 0 rfl) ?_
        refine lv_iload_n hx hb dL_law_403 rfl (lv_at hl 3 rfl) ?_
        refine lv_iconst (v := (2 : Int32)) hx hb dL_law_404 (by decide) ?_
        refine lv_iadd hx hb dL_law_405 ?_
        refine va_sld hx hb hX hbl hbA hM.2.2.2 (lw_ix 2 ev3 (by omega) hL) dL_law_406 ?_
        refine lv_aload_n hx hb dL_law_407 rfl (lv_at hl 0 rfl) ?_
        refine lv_iload_n hx hb dL_law_408 rfl (lv_at hl 3 rfl) ?_
        refine lv_iconst (v := (3 : Int32)) hx hb dL_law_409 (by decide) ?_
        refine lv_iadd hx hb dL_law_410 ?_
        refine va_sld hx hb hX hbl hbA hM.2.2.2 (lw_ix 3 ev3 (by omega) hL) dL_law_411 ?_
        refine lv_aload_n hx hb dL_law_412 rfl (lv_at hl 0 rfl) ?_
        refine lv_iload_n hx hb dL_law_413 rfl (lv_at hl 3 rfl) ?_
        refine lv_iconst (v := (4 : Int32)) hx hb dL_law_414 (by decide) ?_
        refine lv_iadd hx hb dL_law_415 ?_
        refine va_sld hx hb hX hbl hbA hM.2.2.2 (lw_ix 4 ev3 (by omega) hL) dL_law_416 ?_
        obtain ⟨u0, eu0, u1, eu1, hrr, hR1⟩ := h_dot I P (xs (v3 + (1 : Int32)).toNatClampNeg) (xs (v3 + (2 : Int32)).toNatClampNeg) (xs (v3 + (3 : Int32)).toNatClampNeg) (xs (v3 + (4 : Int32)).toNatClampNeg) hR
        refine ev_calli (va_runV (As := [.int (xs (v3 + (1 : Int32)).toNatClampNeg), .int (xs (v3 + (2 : Int32)).toNatClampNeg), .int (xs (v3 + (3 : Int32)).toNatClampNeg), .int (xs (v3 + (4 : Int32)).toNatClampNeg)]) (rest := []) S (c_X9_dot (l := l) I P bb (xs (v3 + (1 : Int32)).toNatClampNeg) (xs (v3 + (2 : Int32)).toNatClampNeg) (xs (v3 + (3 : Int32)).toNatClampNeg) (xs (v3 + (4 : Int32)).toNatClampNeg) u0 eu0) (cwV 4 hts (gi_vl wa_2_138 wa_2_139 wa_2_140 wa_1_1 wa_2_141) rfl rfl rfl (by decide +kernel) ⟨Nat.le_of_ble_eq_true rfl, Nat.le_of_ble_eq_true rfl⟩) ⟨mm_B_blind, ev_recv hK hM (ci := 9) rfl hkx rfl, fun U hU hW => ⟨rfl, mm_B_of hK hZ hM hU hW⟩⟩ rfl rfl hl.1 rfl (lv_room (Nat.le_of_ble_eq_true rfl)) dL_law_417 ⟨Nat.le_of_ble_eq_true rfl, Nat.le_of_ble_eq_true rfl⟩) hM (fun H locs hM => ?_)
        refine lv_aload_n hx hb dL_law_420 rfl (lv_at hl 2 rfl) ?_
        refine lv_aload_n hx hb dL_law_421 rfl (lv_at hl 0 rfl) ?_
        refine lv_iload_n hx hb dL_law_422 rfl (lv_at hl 3 rfl) ?_
        refine lv_iconst (v := (1 : Int32)) hx hb dL_law_423 (by decide) ?_
        refine lv_iadd hx hb dL_law_424 ?_
        refine va_sld hx hb hX hbl hbA hM.2.2.2 (lw_ix 1 ev3 (by omega) hL) dL_law_425 ?_
        refine lv_aload_n hx hb dL_law_426 rfl (lv_at hl 0 rfl) ?_
        refine lv_iload_n hx hb dL_law_427 rfl (lv_at hl 3 rfl) ?_
        refine lv_iconst (v := (2 : Int32)) hx hb dL_law_428 (by decide) ?_
        refine lv_iadd hx hb dL_law_429 ?_
        refine va_sld hx hb hX hbl hbA hM.2.2.2 (lw_ix 2 ev3 (by omega) hL) dL_law_430 ?_
        refine lv_aload_n hx hb dL_law_431 rfl (lv_at hl 0 rfl) ?_
        refine lv_iload_n hx hb dL_law_432 rfl (lv_at hl 3 rfl) ?_
        refine lv_iconst (v := (3 : Int32)) hx hb dL_law_433 (by decide) ?_
        refine lv_iadd hx hb dL_law_434 ?_
        refine va_sld hx hb hX hbl hbA hM.2.2.2 (lw_ix 3 ev3 (by omega) hL) dL_law_435 ?_
        refine lv_aload_n hx hb dL_law_436 rfl (lv_at hl 0 rfl) ?_
        refine lv_iload_n hx hb dL_law_437 rfl (lv_at hl 3 rfl) ?_
        refine lv_iconst (v := (4 : Int32)) hx hb dL_law_438 (by decide) ?_
        refine lv_iadd hx hb dL_law_439 ?_
        refine va_sld hx hb hX hbl hbA hM.2.2.2 (lw_ix 4 ev3 (by omega) hL) dL_law_440 ?_
        refine ev_calli (va_runV (As := [.int (xs (v3 + (1 : Int32)).toNatClampNeg), .int (xs (v3 + (2 : Int32)).toNatClampNeg), .int (xs (v3 + (3 : Int32)).toNatClampNeg), .int (xs (v3 + (4 : Int32)).toNatClampNeg)]) (rest := [.int u0]) S (c_X10_dot (l := l) I P (bb + 126) (xs (v3 + (1 : Int32)).toNatClampNeg) (xs (v3 + (2 : Int32)).toNatClampNeg) (xs (v3 + (3 : Int32)).toNatClampNeg) (xs (v3 + (4 : Int32)).toNatClampNeg) u1 eu1) (cwV 4 hts (gi_vl wa_5_36 wa_5_37 wa_5_38 wa_1_11 wa_5_39) rfl rfl rfl (by decide +kernel) ⟨Nat.le_of_ble_eq_true rfl, Nat.le_of_ble_eq_true rfl⟩) ⟨mm_B_blind, ev_recv hK hM (ci := 10) rfl hkm rfl, fun U hU hW => ⟨rfl, mm_B_of hK hZ hM hU hW⟩⟩ rfl rfl hl.1 rfl (lv_room (Nat.le_of_ble_eq_true rfl)) dL_law_441 ⟨Nat.le_of_ble_eq_true rfl, Nat.le_of_ble_eq_true rfl⟩) hM (fun H locs hM => ?_)
        refine lv_icmp_eq (tgt := 1392) hx hb dL_law_444 (by decide) (fun _ => ?_) (fun h => absurd hrr h)
        exact kc _ _ _ _ _ hM hR1 hl
      | 7, _, ej =>
        refine lv_tableIn (off := 416) (tgt := 449) hx hb dL_law_33 (by rw [ej]; decide) (by rw [ej]; decide) (by rw [ej]; rfl) (by decide) ?_
        refine lv_aload_n hx hb dL_law_449 rfl (lv_at hl 1 rfl) ?_
        refine lv_aload_n hx hb dL_law_450 rfl (lv_at hl 0 rfl) ?_
        refine lv_iload_n hx hb dL_law_451 rfl (lv_at hl 3 rfl) ?_
        refine lv_iconst (v := (1 : Int32)) hx hb dL_law_452 (by decide) ?_
        refine lv_iadd hx hb dL_law_453 ?_
        refine va_sld hx hb hX hbl hbA hM.2.2.2 (lw_ix 1 ev3 (by omega) hL) dL_law_454 ?_
        refine lv_aload_n hx hb dL_law_455 rfl (lv_at hl 0 rfl) ?_
        refine lv_iload_n hx hb dL_law_456 rfl (lv_at hl 3 rfl) ?_
        refine lv_iconst (v := (2 : Int32)) hx hb dL_law_457 (by decide) ?_
        refine lv_iadd hx hb dL_law_458 ?_
        refine va_sld hx hb hX hbl hbA hM.2.2.2 (lw_ix 2 ev3 (by omega) hL) dL_law_459 ?_
        refine lv_aload_n hx hb dL_law_460 rfl (lv_at hl 0 rfl) ?_
        refine lv_iload_n hx hb dL_law_461 rfl (lv_at hl 3 rfl) ?_
        refine lv_iconst (v := (3 : Int32)) hx hb dL_law_462 (by decide) ?_
        refine lv_iadd hx hb dL_law_463 ?_
        refine va_sld hx hb hX hbl hbA hM.2.2.2 (lw_ix 3 ev3 (by omega) hL) dL_law_464 ?_
        refine lv_aload_n hx hb dL_law_465 rfl (lv_at hl 0 rfl) ?_
        refine lv_iload_n hx hb dL_law_466 rfl (lv_at hl 3 rfl) ?_
        refine lv_iconst (v := (4 : Int32)) hx hb dL_law_467 (by decide) ?_
        refine lv_iadd hx hb dL_law_468 ?_
        refine va_sld hx hb hX hbl hbA hM.2.2.2 (lw_ix 4 ev3 (by omega) hL) dL_law_469 ?_
        obtain ⟨u0, eu0, u1, eu1, hrr, hR1⟩ := h_brush I P (xs (v3 + (1 : Int32)).toNatClampNeg) (xs (v3 + (2 : Int32)).toNatClampNeg) (xs (v3 + (3 : Int32)).toNatClampNeg) (xs (v3 + (4 : Int32)).toNatClampNeg) hR
        refine ev_calli (va_runV (As := [.int (xs (v3 + (1 : Int32)).toNatClampNeg), .int (xs (v3 + (2 : Int32)).toNatClampNeg), .int (xs (v3 + (3 : Int32)).toNatClampNeg), .int (xs (v3 + (4 : Int32)).toNatClampNeg)]) (rest := []) S (c_X9_brush (l := l) I P bb (xs (v3 + (1 : Int32)).toNatClampNeg) (xs (v3 + (2 : Int32)).toNatClampNeg) (xs (v3 + (3 : Int32)).toNatClampNeg) (xs (v3 + (4 : Int32)).toNatClampNeg) u0 eu0) (cwV 4 hts (gi_vl wa_2_164 wa_2_165 wa_2_166 wa_1_1 wa_2_167) rfl rfl rfl (by decide +kernel) ⟨Nat.le_of_ble_eq_true rfl, Nat.le_of_ble_eq_true rfl⟩) ⟨mm_B_blind, ev_recv hK hM (ci := 9) rfl hkx rfl, fun U hU hW => ⟨rfl, mm_B_of hK hZ hM hU hW⟩⟩ rfl rfl hl.1 rfl (lv_room (Nat.le_of_ble_eq_true rfl)) dL_law_470 ⟨Nat.le_of_ble_eq_true rfl, Nat.le_of_ble_eq_true rfl⟩) hM (fun H locs hM => ?_)
        refine lv_aload_n hx hb dL_law_473 rfl (lv_at hl 2 rfl) ?_
        refine lv_aload_n hx hb dL_law_474 rfl (lv_at hl 0 rfl) ?_
        refine lv_iload_n hx hb dL_law_475 rfl (lv_at hl 3 rfl) ?_
        refine lv_iconst (v := (1 : Int32)) hx hb dL_law_476 (by decide) ?_
        refine lv_iadd hx hb dL_law_477 ?_
        refine va_sld hx hb hX hbl hbA hM.2.2.2 (lw_ix 1 ev3 (by omega) hL) dL_law_478 ?_
        refine lv_aload_n hx hb dL_law_479 rfl (lv_at hl 0 rfl) ?_
        refine lv_iload_n hx hb dL_law_480 rfl (lv_at hl 3 rfl) ?_
        refine lv_iconst (v := (2 : Int32)) hx hb dL_law_481 (by decide) ?_
        refine lv_iadd hx hb dL_law_482 ?_
        refine va_sld hx hb hX hbl hbA hM.2.2.2 (lw_ix 2 ev3 (by omega) hL) dL_law_483 ?_
        refine lv_aload_n hx hb dL_law_484 rfl (lv_at hl 0 rfl) ?_
        refine lv_iload_n hx hb dL_law_485 rfl (lv_at hl 3 rfl) ?_
        refine lv_iconst (v := (3 : Int32)) hx hb dL_law_486 (by decide) ?_
        refine lv_iadd hx hb dL_law_487 ?_
        refine va_sld hx hb hX hbl hbA hM.2.2.2 (lw_ix 3 ev3 (by omega) hL) dL_law_488 ?_
        refine lv_aload_n hx hb dL_law_489 rfl (lv_at hl 0 rfl) ?_
        refine lv_iload_n hx hb dL_law_490 rfl (lv_at hl 3 rfl) ?_
        refine lv_iconst (v := (4 : Int32)) hx hb dL_law_491 (by decide) ?_
        refine lv_iadd hx hb dL_law_492 ?_
        refine va_sld hx hb hX hbl hbA hM.2.2.2 (lw_ix 4 ev3 (by omega) hL) dL_law_493 ?_
        refine ev_calli (va_runV (As := [.int (xs (v3 + (1 : Int32)).toNatClampNeg), .int (xs (v3 + (2 : Int32)).toNatClampNeg), .int (xs (v3 + (3 : Int32)).toNatClampNeg), .int (xs (v3 + (4 : Int32)).toNatClampNeg)]) (rest := [.int u0.1]) S (c_X10_brush (l := l) u0.2 P (bb + 126) (xs (v3 + (1 : Int32)).toNatClampNeg) (xs (v3 + (2 : Int32)).toNatClampNeg) (xs (v3 + (3 : Int32)).toNatClampNeg) (xs (v3 + (4 : Int32)).toNatClampNeg) u1 eu1) (cwV 4 hts (gi_vl wa_5_54 wa_5_55 wa_5_56 wa_1_11 wa_5_57) rfl rfl rfl (by decide +kernel) ⟨Nat.le_of_ble_eq_true rfl, Nat.le_of_ble_eq_true rfl⟩) ⟨mm_B_blind, ev_recv hK hM (ci := 10) rfl hkm rfl, fun U hU hW => ⟨rfl, mm_B_of hK hZ hM hU hW⟩⟩ rfl rfl hl.1 rfl (lv_room (Nat.le_of_ble_eq_true rfl)) dL_law_494 ⟨Nat.le_of_ble_eq_true rfl, Nat.le_of_ble_eq_true rfl⟩) hM (fun H locs hM => ?_)
        refine lv_icmp_eq (tgt := 1392) hx hb dL_law_497 (by decide) (fun _ => ?_) (fun h => absurd hrr h)
        exact kc _ _ _ _ _ hM hR1 hl
      | 8, _, ej =>
        refine lv_tableIn (off := 469) (tgt := 502) hx hb dL_law_33 (by rw [ej]; decide) (by rw [ej]; decide) (by rw [ej]; rfl) (by decide) ?_
        refine lv_aload_n hx hb dL_law_502 rfl (lv_at hl 1 rfl) ?_
        refine lv_aload_n hx hb dL_law_503 rfl (lv_at hl 0 rfl) ?_
        refine lv_iload_n hx hb dL_law_504 rfl (lv_at hl 3 rfl) ?_
        refine lv_iconst (v := (1 : Int32)) hx hb dL_law_505 (by decide) ?_
        refine lv_iadd hx hb dL_law_506 ?_
        refine va_sld hx hb hX hbl hbA hM.2.2.2 (lw_ix 1 ev3 (by omega) hL) dL_law_507 ?_
        refine lv_aload_n hx hb dL_law_508 rfl (lv_at hl 0 rfl) ?_
        refine lv_iload_n hx hb dL_law_509 rfl (lv_at hl 3 rfl) ?_
        refine lv_iconst (v := (2 : Int32)) hx hb dL_law_510 (by decide) ?_
        refine lv_iadd hx hb dL_law_511 ?_
        refine va_sld hx hb hX hbl hbA hM.2.2.2 (lw_ix 2 ev3 (by omega) hL) dL_law_512 ?_
        obtain ⟨u0, eu0, u1, eu1, hrr, hR1⟩ := h_touch I P (xs (v3 + (1 : Int32)).toNatClampNeg) (xs (v3 + (2 : Int32)).toNatClampNeg) hR
        refine ev_calli (va_runV (As := [.int (xs (v3 + (1 : Int32)).toNatClampNeg), .int (xs (v3 + (2 : Int32)).toNatClampNeg)]) (rest := []) S (c_X9_touch (l := l) I P bb (xs (v3 + (1 : Int32)).toNatClampNeg) (xs (v3 + (2 : Int32)).toNatClampNeg) u0 eu0) (cwV 2 hts (gi_vl wa_2_172 wa_2_173 wa_2_174 wa_1_1 wa_2_175) rfl rfl rfl (by decide +kernel) ⟨Nat.le_of_ble_eq_true rfl, Nat.le_of_ble_eq_true rfl⟩) ⟨mm_B_blind, ev_recv hK hM (ci := 9) rfl hkx rfl, fun U hU hW => ⟨rfl, mm_B_of hK hZ hM hU hW⟩⟩ rfl rfl hl.1 rfl (lv_room (Nat.le_of_ble_eq_true rfl)) dL_law_513 ⟨Nat.le_of_ble_eq_true rfl, Nat.le_of_ble_eq_true rfl⟩) hM (fun H locs hM => ?_)
        refine lv_aload_n hx hb dL_law_516 rfl (lv_at hl 2 rfl) ?_
        refine lv_aload_n hx hb dL_law_517 rfl (lv_at hl 0 rfl) ?_
        refine lv_iload_n hx hb dL_law_518 rfl (lv_at hl 3 rfl) ?_
        refine lv_iconst (v := (1 : Int32)) hx hb dL_law_519 (by decide) ?_
        refine lv_iadd hx hb dL_law_520 ?_
        refine va_sld hx hb hX hbl hbA hM.2.2.2 (lw_ix 1 ev3 (by omega) hL) dL_law_521 ?_
        refine lv_aload_n hx hb dL_law_522 rfl (lv_at hl 0 rfl) ?_
        refine lv_iload_n hx hb dL_law_523 rfl (lv_at hl 3 rfl) ?_
        refine lv_iconst (v := (2 : Int32)) hx hb dL_law_524 (by decide) ?_
        refine lv_iadd hx hb dL_law_525 ?_
        refine va_sld hx hb hX hbl hbA hM.2.2.2 (lw_ix 2 ev3 (by omega) hL) dL_law_526 ?_
        refine ev_calli (va_runV (As := [.int (xs (v3 + (1 : Int32)).toNatClampNeg), .int (xs (v3 + (2 : Int32)).toNatClampNeg)]) (rest := [.int u0]) S (c_X10_touch (l := l) I P (bb + 126) (xs (v3 + (1 : Int32)).toNatClampNeg) (xs (v3 + (2 : Int32)).toNatClampNeg) u1 eu1) (cwV 2 hts (gi_vl wa_5_58 wa_5_59 wa_5_60 wa_1_11 wa_5_61) rfl rfl rfl (by decide +kernel) ⟨Nat.le_of_ble_eq_true rfl, Nat.le_of_ble_eq_true rfl⟩) ⟨mm_B_blind, ev_recv hK hM (ci := 10) rfl hkm rfl, fun U hU hW => ⟨rfl, mm_B_of hK hZ hM hU hW⟩⟩ rfl rfl hl.1 rfl (lv_room (Nat.le_of_ble_eq_true rfl)) dL_law_527 ⟨Nat.le_of_ble_eq_true rfl, Nat.le_of_ble_eq_true rfl⟩) hM (fun H locs hM => ?_)
        refine lv_icmp_eq (tgt := 1392) hx hb dL_law_530 (by decide) (fun _ => ?_) (fun h => absurd hrr h)
        exact kc _ _ _ _ _ hM hR1 hl
      | 9, _, ej =>
        refine lv_tableIn (off := 502) (tgt := 535) hx hb dL_law_33 (by rw [ej]; decide) (by rw [ej]; decide) (by rw [ej]; rfl) (by decide) ?_
        refine lv_aload_n hx hb dL_law_535 rfl (lv_at hl 1 rfl) ?_
        refine lv_aload_n hx hb dL_law_536 rfl (lv_at hl 0 rfl) ?_
        refine lv_iload_n hx hb dL_law_537 rfl (lv_at hl 3 rfl) ?_
        refine lv_iconst (v := (1 : Int32)) hx hb dL_law_538 (by decide) ?_
        refine lv_iadd hx hb dL_law_539 ?_
        refine va_sld hx hb hX hbl hbA hM.2.2.2 (lw_ix 1 ev3 (by omega) hL) dL_law_540 ?_
        refine lv_aload_n hx hb dL_law_541 rfl (lv_at hl 0 rfl) ?_
        refine lv_iload_n hx hb dL_law_542 rfl (lv_at hl 3 rfl) ?_
        refine lv_iconst (v := (2 : Int32)) hx hb dL_law_543 (by decide) ?_
        refine lv_iadd hx hb dL_law_544 ?_
        refine va_sld hx hb hX hbl hbA hM.2.2.2 (lw_ix 2 ev3 (by omega) hL) dL_law_545 ?_
        refine lv_aload_n hx hb dL_law_546 rfl (lv_at hl 0 rfl) ?_
        refine lv_iload_n hx hb dL_law_547 rfl (lv_at hl 3 rfl) ?_
        refine lv_iconst (v := (3 : Int32)) hx hb dL_law_548 (by decide) ?_
        refine lv_iadd hx hb dL_law_549 ?_
        refine va_sld hx hb hX hbl hbA hM.2.2.2 (lw_ix 3 ev3 (by omega) hL) dL_law_550 ?_
        refine lv_aload_n hx hb dL_law_551 rfl (lv_at hl 0 rfl) ?_
        refine lv_iload_n hx hb dL_law_552 rfl (lv_at hl 3 rfl) ?_
        refine lv_iconst (v := (4 : Int32)) hx hb dL_law_553 (by decide) ?_
        refine lv_iadd hx hb dL_law_554 ?_
        refine va_sld hx hb hX hbl hbA hM.2.2.2 (lw_ix 4 ev3 (by omega) hL) dL_law_555 ?_
        refine lv_aload_n hx hb dL_law_556 rfl (lv_at hl 0 rfl) ?_
        refine lv_iload_n hx hb dL_law_557 rfl (lv_at hl 3 rfl) ?_
        refine lv_iconst (v := (5 : Int32)) hx hb dL_law_558 (by decide) ?_
        refine lv_iadd hx hb dL_law_559 ?_
        refine va_sld hx hb hX hbl hbA hM.2.2.2 (lw_ix 5 ev3 (by omega) hL) dL_law_560 ?_
        refine lv_aload_n hx hb dL_law_561 rfl (lv_at hl 0 rfl) ?_
        refine lv_iload_n hx hb dL_law_562 rfl (lv_at hl 3 rfl) ?_
        refine lv_bipush (v := (6 : Int32)) hx hb dL_law_563 (by decide) ?_
        refine lv_iadd hx hb dL_law_565 ?_
        refine va_sld hx hb hX hbl hbA hM.2.2.2 (lw_ix 6 ev3 (by omega) hL) dL_law_566 ?_
        obtain ⟨u0, eu0, u1, eu1, hrr, hR1⟩ := h_feed I P (xs (v3 + (1 : Int32)).toNatClampNeg) (xs (v3 + (2 : Int32)).toNatClampNeg) (xs (v3 + (3 : Int32)).toNatClampNeg) (xs (v3 + (4 : Int32)).toNatClampNeg) (xs (v3 + (5 : Int32)).toNatClampNeg) (xs (v3 + (6 : Int32)).toNatClampNeg) hR
        refine ev_calli (va_runV (As := [.int (xs (v3 + (1 : Int32)).toNatClampNeg), .int (xs (v3 + (2 : Int32)).toNatClampNeg), .int (xs (v3 + (3 : Int32)).toNatClampNeg), .int (xs (v3 + (4 : Int32)).toNatClampNeg), .int (xs (v3 + (5 : Int32)).toNatClampNeg), .int (xs (v3 + (6 : Int32)).toNatClampNeg)]) (rest := []) S (c_X9_feed (l := l) I P bb (xs (v3 + (1 : Int32)).toNatClampNeg) (xs (v3 + (2 : Int32)).toNatClampNeg) (xs (v3 + (3 : Int32)).toNatClampNeg) (xs (v3 + (4 : Int32)).toNatClampNeg) (xs (v3 + (5 : Int32)).toNatClampNeg) (xs (v3 + (6 : Int32)).toNatClampNeg) u0 eu0) (cwV 6 hts (gi_vl wa_2_194 wa_2_195 wa_2_196 wa_1_1 wa_2_197) rfl rfl rfl (by decide +kernel) ⟨Nat.le_of_ble_eq_true rfl, Nat.le_of_ble_eq_true rfl⟩) ⟨mm_B_blind, ev_recv hK hM (ci := 9) rfl hkx rfl, fun U hU hW => ⟨rfl, mm_B_of hK hZ hM hU hW⟩⟩ rfl rfl hl.1 rfl (lv_room (Nat.le_of_ble_eq_true rfl)) dL_law_567 ⟨Nat.le_of_ble_eq_true rfl, Nat.le_of_ble_eq_true rfl⟩) hM (fun H locs hM => ?_)
        refine lv_aload_n hx hb dL_law_570 rfl (lv_at hl 2 rfl) ?_
        refine lv_aload_n hx hb dL_law_571 rfl (lv_at hl 0 rfl) ?_
        refine lv_iload_n hx hb dL_law_572 rfl (lv_at hl 3 rfl) ?_
        refine lv_iconst (v := (1 : Int32)) hx hb dL_law_573 (by decide) ?_
        refine lv_iadd hx hb dL_law_574 ?_
        refine va_sld hx hb hX hbl hbA hM.2.2.2 (lw_ix 1 ev3 (by omega) hL) dL_law_575 ?_
        refine lv_aload_n hx hb dL_law_576 rfl (lv_at hl 0 rfl) ?_
        refine lv_iload_n hx hb dL_law_577 rfl (lv_at hl 3 rfl) ?_
        refine lv_iconst (v := (2 : Int32)) hx hb dL_law_578 (by decide) ?_
        refine lv_iadd hx hb dL_law_579 ?_
        refine va_sld hx hb hX hbl hbA hM.2.2.2 (lw_ix 2 ev3 (by omega) hL) dL_law_580 ?_
        refine lv_aload_n hx hb dL_law_581 rfl (lv_at hl 0 rfl) ?_
        refine lv_iload_n hx hb dL_law_582 rfl (lv_at hl 3 rfl) ?_
        refine lv_iconst (v := (3 : Int32)) hx hb dL_law_583 (by decide) ?_
        refine lv_iadd hx hb dL_law_584 ?_
        refine va_sld hx hb hX hbl hbA hM.2.2.2 (lw_ix 3 ev3 (by omega) hL) dL_law_585 ?_
        refine lv_aload_n hx hb dL_law_586 rfl (lv_at hl 0 rfl) ?_
        refine lv_iload_n hx hb dL_law_587 rfl (lv_at hl 3 rfl) ?_
        refine lv_iconst (v := (4 : Int32)) hx hb dL_law_588 (by decide) ?_
        refine lv_iadd hx hb dL_law_589 ?_
        refine va_sld hx hb hX hbl hbA hM.2.2.2 (lw_ix 4 ev3 (by omega) hL) dL_law_590 ?_
        refine lv_aload_n hx hb dL_law_591 rfl (lv_at hl 0 rfl) ?_
        refine lv_iload_n hx hb dL_law_592 rfl (lv_at hl 3 rfl) ?_
        refine lv_iconst (v := (5 : Int32)) hx hb dL_law_593 (by decide) ?_
        refine lv_iadd hx hb dL_law_594 ?_
        refine va_sld hx hb hX hbl hbA hM.2.2.2 (lw_ix 5 ev3 (by omega) hL) dL_law_595 ?_
        refine lv_aload_n hx hb dL_law_596 rfl (lv_at hl 0 rfl) ?_
        refine lv_iload_n hx hb dL_law_597 rfl (lv_at hl 3 rfl) ?_
        refine lv_bipush (v := (6 : Int32)) hx hb dL_law_598 (by decide) ?_
        refine lv_iadd hx hb dL_law_600 ?_
        refine va_sld hx hb hX hbl hbA hM.2.2.2 (lw_ix 6 ev3 (by omega) hL) dL_law_601 ?_
        refine ev_calli (va_runV (As := [.int (xs (v3 + (1 : Int32)).toNatClampNeg), .int (xs (v3 + (2 : Int32)).toNatClampNeg), .int (xs (v3 + (3 : Int32)).toNatClampNeg), .int (xs (v3 + (4 : Int32)).toNatClampNeg), .int (xs (v3 + (5 : Int32)).toNatClampNeg), .int (xs (v3 + (6 : Int32)).toNatClampNeg)]) (rest := [.int u0.1]) S (c_X10_feed (l := l) u0.2 P (bb + 126) (xs (v3 + (1 : Int32)).toNatClampNeg) (xs (v3 + (2 : Int32)).toNatClampNeg) (xs (v3 + (3 : Int32)).toNatClampNeg) (xs (v3 + (4 : Int32)).toNatClampNeg) (xs (v3 + (5 : Int32)).toNatClampNeg) (xs (v3 + (6 : Int32)).toNatClampNeg) u1 eu1) (cwV 6 hts (gi_vl wa_5_68 wa_5_69 wa_5_70 wa_1_11 wa_5_71) rfl rfl rfl (by decide +kernel) ⟨Nat.le_of_ble_eq_true rfl, Nat.le_of_ble_eq_true rfl⟩) ⟨mm_B_blind, ev_recv hK hM (ci := 10) rfl hkm rfl, fun U hU hW => ⟨rfl, mm_B_of hK hZ hM hU hW⟩⟩ rfl rfl hl.1 rfl (lv_room (Nat.le_of_ble_eq_true rfl)) dL_law_602 ⟨Nat.le_of_ble_eq_true rfl, Nat.le_of_ble_eq_true rfl⟩) hM (fun H locs hM => ?_)
        refine lv_icmp_eq (tgt := 1392) hx hb dL_law_605 (by decide) (fun _ => ?_) (fun h => absurd hrr h)
        exact kc _ _ _ _ _ hM hR1 hl
      | 10, _, ej =>
        refine lv_tableIn (off := 577) (tgt := 610) hx hb dL_law_33 (by rw [ej]; decide) (by rw [ej]; decide) (by rw [ej]; rfl) (by decide) ?_
        refine lv_aload_n hx hb dL_law_610 rfl (lv_at hl 1 rfl) ?_
        refine lv_aload_n hx hb dL_law_611 rfl (lv_at hl 0 rfl) ?_
        refine lv_iload_n hx hb dL_law_612 rfl (lv_at hl 3 rfl) ?_
        refine lv_iconst (v := (1 : Int32)) hx hb dL_law_613 (by decide) ?_
        refine lv_iadd hx hb dL_law_614 ?_
        refine va_sld hx hb hX hbl hbA hM.2.2.2 (lw_ix 1 ev3 (by omega) hL) dL_law_615 ?_
        obtain ⟨u0, eu0, u1, eu1, hrr, hR1⟩ := h_stroke I P (xs (v3 + (1 : Int32)).toNatClampNeg) hR
        refine ev_calli (va_runV (As := [.int (xs (v3 + (1 : Int32)).toNatClampNeg)]) (rest := []) S (c_X9_stroke (l := l) I P bb (xs (v3 + (1 : Int32)).toNatClampNeg) u0 eu0) (cwV 1 hts (gi_vl wa_2_202 wa_2_203 wa_2_204 wa_1_1 wa_2_205) rfl rfl rfl (by decide +kernel) ⟨Nat.le_of_ble_eq_true rfl, Nat.le_of_ble_eq_true rfl⟩) ⟨mm_B_blind, ev_recv hK hM (ci := 9) rfl hkx rfl, fun U hU hW => ⟨rfl, mm_B_of hK hZ hM hU hW⟩⟩ rfl rfl hl.1 rfl (lv_room (Nat.le_of_ble_eq_true rfl)) dL_law_616 ⟨Nat.le_of_ble_eq_true rfl, Nat.le_of_ble_eq_true rfl⟩) hM (fun H locs hM => ?_)
        refine lv_aload_n hx hb dL_law_619 rfl (lv_at hl 2 rfl) ?_
        refine lv_aload_n hx hb dL_law_620 rfl (lv_at hl 0 rfl) ?_
        refine lv_iload_n hx hb dL_law_621 rfl (lv_at hl 3 rfl) ?_
        refine lv_iconst (v := (1 : Int32)) hx hb dL_law_622 (by decide) ?_
        refine lv_iadd hx hb dL_law_623 ?_
        refine va_sld hx hb hX hbl hbA hM.2.2.2 (lw_ix 1 ev3 (by omega) hL) dL_law_624 ?_
        refine ev_calli (va_runV (As := [.int (xs (v3 + (1 : Int32)).toNatClampNeg)]) (rest := [.int u0.1]) S (c_X10_stroke (l := l) u0.2.1 u0.2.2 (bb + 126) (xs (v3 + (1 : Int32)).toNatClampNeg) u1 eu1) (cwV 1 hts (gi_vl wa_5_72 wa_5_73 wa_5_74 wa_1_11 wa_5_75) rfl rfl rfl (by decide +kernel) ⟨Nat.le_of_ble_eq_true rfl, Nat.le_of_ble_eq_true rfl⟩) ⟨mm_B_blind, ev_recv hK hM (ci := 10) rfl hkm rfl, fun U hU hW => ⟨rfl, mm_B_of hK hZ hM hU hW⟩⟩ rfl rfl hl.1 rfl (lv_room (Nat.le_of_ble_eq_true rfl)) dL_law_625 ⟨Nat.le_of_ble_eq_true rfl, Nat.le_of_ble_eq_true rfl⟩) hM (fun H locs hM => ?_)
        refine lv_icmp_eq (tgt := 1392) hx hb dL_law_628 (by decide) (fun _ => ?_) (fun h => absurd hrr h)
        exact kc _ _ _ _ _ hM hR1 hl
      | 11, _, ej =>
        refine lv_tableIn (off := 600) (tgt := 633) hx hb dL_law_33 (by rw [ej]; decide) (by rw [ej]; decide) (by rw [ej]; rfl) (by decide) ?_
        refine lv_aload_n hx hb dL_law_633 rfl (lv_at hl 1 rfl) ?_
        refine lv_aload_n hx hb dL_law_634 rfl (lv_at hl 0 rfl) ?_
        refine lv_iload_n hx hb dL_law_635 rfl (lv_at hl 3 rfl) ?_
        refine lv_iconst (v := (1 : Int32)) hx hb dL_law_636 (by decide) ?_
        refine lv_iadd hx hb dL_law_637 ?_
        refine va_sld hx hb hX hbl hbA hM.2.2.2 (lw_ix 1 ev3 (by omega) hL) dL_law_638 ?_
        refine lv_aload_n hx hb dL_law_639 rfl (lv_at hl 0 rfl) ?_
        refine lv_iload_n hx hb dL_law_640 rfl (lv_at hl 3 rfl) ?_
        refine lv_iconst (v := (2 : Int32)) hx hb dL_law_641 (by decide) ?_
        refine lv_iadd hx hb dL_law_642 ?_
        refine va_sld hx hb hX hbl hbA hM.2.2.2 (lw_ix 2 ev3 (by omega) hL) dL_law_643 ?_
        refine lv_aload_n hx hb dL_law_644 rfl (lv_at hl 0 rfl) ?_
        refine lv_iload_n hx hb dL_law_645 rfl (lv_at hl 3 rfl) ?_
        refine lv_iconst (v := (3 : Int32)) hx hb dL_law_646 (by decide) ?_
        refine lv_iadd hx hb dL_law_647 ?_
        refine va_sld hx hb hX hbl hbA hM.2.2.2 (lw_ix 3 ev3 (by omega) hL) dL_law_648 ?_
        refine lv_aload_n hx hb dL_law_649 rfl (lv_at hl 0 rfl) ?_
        refine lv_iload_n hx hb dL_law_650 rfl (lv_at hl 3 rfl) ?_
        refine lv_iconst (v := (4 : Int32)) hx hb dL_law_651 (by decide) ?_
        refine lv_iadd hx hb dL_law_652 ?_
        refine va_sld hx hb hX hbl hbA hM.2.2.2 (lw_ix 4 ev3 (by omega) hL) dL_law_653 ?_
        refine lv_aload_n hx hb dL_law_654 rfl (lv_at hl 0 rfl) ?_
        refine lv_iload_n hx hb dL_law_655 rfl (lv_at hl 3 rfl) ?_
        refine lv_iconst (v := (5 : Int32)) hx hb dL_law_656 (by decide) ?_
        refine lv_iadd hx hb dL_law_657 ?_
        refine va_sld hx hb hX hbl hbA hM.2.2.2 (lw_ix 5 ev3 (by omega) hL) dL_law_658 ?_
        obtain ⟨u0, eu0, u1, eu1, hrr, hR1⟩ := h_box I P (xs (v3 + (1 : Int32)).toNatClampNeg) (xs (v3 + (2 : Int32)).toNatClampNeg) (xs (v3 + (3 : Int32)).toNatClampNeg) (xs (v3 + (4 : Int32)).toNatClampNeg) (xs (v3 + (5 : Int32)).toNatClampNeg) hR
        refine ev_calli (va_runV (As := [.int (xs (v3 + (1 : Int32)).toNatClampNeg), .int (xs (v3 + (2 : Int32)).toNatClampNeg), .int (xs (v3 + (3 : Int32)).toNatClampNeg), .int (xs (v3 + (4 : Int32)).toNatClampNeg), .int (xs (v3 + (5 : Int32)).toNatClampNeg)]) (rest := []) S (c_X9_box (l := l) I P bb (xs (v3 + (1 : Int32)).toNatClampNeg) (xs (v3 + (2 : Int32)).toNatClampNeg) (xs (v3 + (3 : Int32)).toNatClampNeg) (xs (v3 + (4 : Int32)).toNatClampNeg) (xs (v3 + (5 : Int32)).toNatClampNeg) u0 eu0) (cwV 5 hts (gi_vl wa_3_127 wa_3_128 wa_3_129 wa_1_1 wa_3_130) rfl rfl rfl (by decide +kernel) ⟨Nat.le_of_ble_eq_true rfl, Nat.le_of_ble_eq_true rfl⟩) ⟨mm_B_blind, ev_recv hK hM (ci := 9) rfl hkx rfl, fun U hU hW => ⟨rfl, mm_B_of hK hZ hM hU hW⟩⟩ rfl rfl hl.1 rfl (lv_room (Nat.le_of_ble_eq_true rfl)) dL_law_659 ⟨Nat.le_of_ble_eq_true rfl, Nat.le_of_ble_eq_true rfl⟩) hM (fun H locs hM => ?_)
        refine lv_aload_n hx hb dL_law_662 rfl (lv_at hl 2 rfl) ?_
        refine lv_aload_n hx hb dL_law_663 rfl (lv_at hl 0 rfl) ?_
        refine lv_iload_n hx hb dL_law_664 rfl (lv_at hl 3 rfl) ?_
        refine lv_iconst (v := (1 : Int32)) hx hb dL_law_665 (by decide) ?_
        refine lv_iadd hx hb dL_law_666 ?_
        refine va_sld hx hb hX hbl hbA hM.2.2.2 (lw_ix 1 ev3 (by omega) hL) dL_law_667 ?_
        refine lv_aload_n hx hb dL_law_668 rfl (lv_at hl 0 rfl) ?_
        refine lv_iload_n hx hb dL_law_669 rfl (lv_at hl 3 rfl) ?_
        refine lv_iconst (v := (2 : Int32)) hx hb dL_law_670 (by decide) ?_
        refine lv_iadd hx hb dL_law_671 ?_
        refine va_sld hx hb hX hbl hbA hM.2.2.2 (lw_ix 2 ev3 (by omega) hL) dL_law_672 ?_
        refine lv_aload_n hx hb dL_law_673 rfl (lv_at hl 0 rfl) ?_
        refine lv_iload_n hx hb dL_law_674 rfl (lv_at hl 3 rfl) ?_
        refine lv_iconst (v := (3 : Int32)) hx hb dL_law_675 (by decide) ?_
        refine lv_iadd hx hb dL_law_676 ?_
        refine va_sld hx hb hX hbl hbA hM.2.2.2 (lw_ix 3 ev3 (by omega) hL) dL_law_677 ?_
        refine lv_aload_n hx hb dL_law_678 rfl (lv_at hl 0 rfl) ?_
        refine lv_iload_n hx hb dL_law_679 rfl (lv_at hl 3 rfl) ?_
        refine lv_iconst (v := (4 : Int32)) hx hb dL_law_680 (by decide) ?_
        refine lv_iadd hx hb dL_law_681 ?_
        refine va_sld hx hb hX hbl hbA hM.2.2.2 (lw_ix 4 ev3 (by omega) hL) dL_law_682 ?_
        refine lv_aload_n hx hb dL_law_683 rfl (lv_at hl 0 rfl) ?_
        refine lv_iload_n hx hb dL_law_684 rfl (lv_at hl 3 rfl) ?_
        refine lv_iconst (v := (5 : Int32)) hx hb dL_law_685 (by decide) ?_
        refine lv_iadd hx hb dL_law_686 ?_
        refine va_sld hx hb hX hbl hbA hM.2.2.2 (lw_ix 5 ev3 (by omega) hL) dL_law_687 ?_
        refine ev_calli (va_runV (As := [.int (xs (v3 + (1 : Int32)).toNatClampNeg), .int (xs (v3 + (2 : Int32)).toNatClampNeg), .int (xs (v3 + (3 : Int32)).toNatClampNeg), .int (xs (v3 + (4 : Int32)).toNatClampNeg), .int (xs (v3 + (5 : Int32)).toNatClampNeg)]) (rest := [.int u0.1]) S (c_X10_box (l := l) u0.2.1 u0.2.2 (bb + 126) (xs (v3 + (1 : Int32)).toNatClampNeg) (xs (v3 + (2 : Int32)).toNatClampNeg) (xs (v3 + (3 : Int32)).toNatClampNeg) (xs (v3 + (4 : Int32)).toNatClampNeg) (xs (v3 + (5 : Int32)).toNatClampNeg) u1 eu1) (cwV 5 hts (gi_vl wa_5_154 wa_5_155 wa_5_156 wa_1_11 wa_5_157) rfl rfl rfl (by decide +kernel) ⟨Nat.le_of_ble_eq_true rfl, Nat.le_of_ble_eq_true rfl⟩) ⟨mm_B_blind, ev_recv hK hM (ci := 10) rfl hkm rfl, fun U hU hW => ⟨rfl, mm_B_of hK hZ hM hU hW⟩⟩ rfl rfl hl.1 rfl (lv_room (Nat.le_of_ble_eq_true rfl)) dL_law_688 ⟨Nat.le_of_ble_eq_true rfl, Nat.le_of_ble_eq_true rfl⟩) hM (fun H locs hM => ?_)
        refine lv_icmp_eq (tgt := 1392) hx hb dL_law_691 (by decide) (fun _ => ?_) (fun h => absurd hrr h)
        exact kc _ _ _ _ _ hM hR1 hl
      | 12, _, ej =>
        refine lv_tableIn (off := 663) (tgt := 696) hx hb dL_law_33 (by rw [ej]; decide) (by rw [ej]; decide) (by rw [ej]; rfl) (by decide) ?_
        refine lv_aload_n hx hb dL_law_696 rfl (lv_at hl 1 rfl) ?_
        refine lv_aload_n hx hb dL_law_697 rfl (lv_at hl 0 rfl) ?_
        refine lv_iload_n hx hb dL_law_698 rfl (lv_at hl 3 rfl) ?_
        refine lv_iconst (v := (1 : Int32)) hx hb dL_law_699 (by decide) ?_
        refine lv_iadd hx hb dL_law_700 ?_
        refine va_sld hx hb hX hbl hbA hM.2.2.2 (lw_ix 1 ev3 (by omega) hL) dL_law_701 ?_
        refine lv_aload_n hx hb dL_law_702 rfl (lv_at hl 0 rfl) ?_
        refine lv_iload_n hx hb dL_law_703 rfl (lv_at hl 3 rfl) ?_
        refine lv_iconst (v := (2 : Int32)) hx hb dL_law_704 (by decide) ?_
        refine lv_iadd hx hb dL_law_705 ?_
        refine va_sld hx hb hX hbl hbA hM.2.2.2 (lw_ix 2 ev3 (by omega) hL) dL_law_706 ?_
        refine lv_aload_n hx hb dL_law_707 rfl (lv_at hl 0 rfl) ?_
        refine lv_iload_n hx hb dL_law_708 rfl (lv_at hl 3 rfl) ?_
        refine lv_iconst (v := (3 : Int32)) hx hb dL_law_709 (by decide) ?_
        refine lv_iadd hx hb dL_law_710 ?_
        refine va_sld hx hb hX hbl hbA hM.2.2.2 (lw_ix 3 ev3 (by omega) hL) dL_law_711 ?_
        refine lv_aload_n hx hb dL_law_712 rfl (lv_at hl 0 rfl) ?_
        refine lv_iload_n hx hb dL_law_713 rfl (lv_at hl 3 rfl) ?_
        refine lv_iconst (v := (4 : Int32)) hx hb dL_law_714 (by decide) ?_
        refine lv_iadd hx hb dL_law_715 ?_
        refine va_sld hx hb hX hbl hbA hM.2.2.2 (lw_ix 4 ev3 (by omega) hL) dL_law_716 ?_
        obtain ⟨u0, eu0, u1, eu1, hrr, hR1⟩ := h_flood I P (xs (v3 + (1 : Int32)).toNatClampNeg) (xs (v3 + (2 : Int32)).toNatClampNeg) (xs (v3 + (3 : Int32)).toNatClampNeg) (xs (v3 + (4 : Int32)).toNatClampNeg) hR
        refine ev_calli (va_runV (As := [.int (xs (v3 + (1 : Int32)).toNatClampNeg), .int (xs (v3 + (2 : Int32)).toNatClampNeg), .int (xs (v3 + (3 : Int32)).toNatClampNeg), .int (xs (v3 + (4 : Int32)).toNatClampNeg)]) (rest := []) S (c_X9_flood (l := l) I P bb (xs (v3 + (1 : Int32)).toNatClampNeg) (xs (v3 + (2 : Int32)).toNatClampNeg) (xs (v3 + (3 : Int32)).toNatClampNeg) (xs (v3 + (4 : Int32)).toNatClampNeg) u0 eu0) (cwV 4 hts (gi_vl wa_3_146 wa_3_147 wa_3_148 wa_1_1 wa_3_149) rfl rfl rfl (by decide +kernel) ⟨Nat.le_of_ble_eq_true rfl, Nat.le_of_ble_eq_true rfl⟩) ⟨mm_B_blind, ev_recv hK hM (ci := 9) rfl hkx rfl, fun U hU hW => ⟨rfl, mm_B_of hK hZ hM hU hW⟩⟩ rfl rfl hl.1 rfl (lv_room (Nat.le_of_ble_eq_true rfl)) dL_law_717 ⟨Nat.le_of_ble_eq_true rfl, Nat.le_of_ble_eq_true rfl⟩) hM (fun H locs hM => ?_)
        refine lv_aload_n hx hb dL_law_720 rfl (lv_at hl 2 rfl) ?_
        refine lv_aload_n hx hb dL_law_721 rfl (lv_at hl 0 rfl) ?_
        refine lv_iload_n hx hb dL_law_722 rfl (lv_at hl 3 rfl) ?_
        refine lv_iconst (v := (1 : Int32)) hx hb dL_law_723 (by decide) ?_
        refine lv_iadd hx hb dL_law_724 ?_
        refine va_sld hx hb hX hbl hbA hM.2.2.2 (lw_ix 1 ev3 (by omega) hL) dL_law_725 ?_
        refine lv_aload_n hx hb dL_law_726 rfl (lv_at hl 0 rfl) ?_
        refine lv_iload_n hx hb dL_law_727 rfl (lv_at hl 3 rfl) ?_
        refine lv_iconst (v := (2 : Int32)) hx hb dL_law_728 (by decide) ?_
        refine lv_iadd hx hb dL_law_729 ?_
        refine va_sld hx hb hX hbl hbA hM.2.2.2 (lw_ix 2 ev3 (by omega) hL) dL_law_730 ?_
        refine lv_aload_n hx hb dL_law_731 rfl (lv_at hl 0 rfl) ?_
        refine lv_iload_n hx hb dL_law_732 rfl (lv_at hl 3 rfl) ?_
        refine lv_iconst (v := (3 : Int32)) hx hb dL_law_733 (by decide) ?_
        refine lv_iadd hx hb dL_law_734 ?_
        refine va_sld hx hb hX hbl hbA hM.2.2.2 (lw_ix 3 ev3 (by omega) hL) dL_law_735 ?_
        refine lv_aload_n hx hb dL_law_736 rfl (lv_at hl 0 rfl) ?_
        refine lv_iload_n hx hb dL_law_737 rfl (lv_at hl 3 rfl) ?_
        refine lv_iconst (v := (4 : Int32)) hx hb dL_law_738 (by decide) ?_
        refine lv_iadd hx hb dL_law_739 ?_
        refine va_sld hx hb hX hbl hbA hM.2.2.2 (lw_ix 4 ev3 (by omega) hL) dL_law_740 ?_
        refine ev_calli (va_runV (As := [.int (xs (v3 + (1 : Int32)).toNatClampNeg), .int (xs (v3 + (2 : Int32)).toNatClampNeg), .int (xs (v3 + (3 : Int32)).toNatClampNeg), .int (xs (v3 + (4 : Int32)).toNatClampNeg)]) (rest := [.int u0.1]) S (c_X10_flood (l := l) u0.2.1 u0.2.2 (bb + 126) (xs (v3 + (1 : Int32)).toNatClampNeg) (xs (v3 + (2 : Int32)).toNatClampNeg) (xs (v3 + (3 : Int32)).toNatClampNeg) (xs (v3 + (4 : Int32)).toNatClampNeg) u1 eu1) (cwV 4 hts (gi_vl wa_5_166 wa_5_167 wa_5_168 wa_1_11 wa_5_169) rfl rfl rfl (by decide +kernel) ⟨Nat.le_of_ble_eq_true rfl, Nat.le_of_ble_eq_true rfl⟩) ⟨mm_B_blind, ev_recv hK hM (ci := 10) rfl hkm rfl, fun U hU hW => ⟨rfl, mm_B_of hK hZ hM hU hW⟩⟩ rfl rfl hl.1 rfl (lv_room (Nat.le_of_ble_eq_true rfl)) dL_law_741 ⟨Nat.le_of_ble_eq_true rfl, Nat.le_of_ble_eq_true rfl⟩) hM (fun H locs hM => ?_)
        refine lv_icmp_eq (tgt := 1392) hx hb dL_law_744 (by decide) (fun _ => ?_) (fun h => absurd hrr h)
        exact kc _ _ _ _ _ hM hR1 hl
      | 13, _, ej =>
        refine lv_tableIn (off := 716) (tgt := 749) hx hb dL_law_33 (by rw [ej]; decide) (by rw [ej]; decide) (by rw [ej]; rfl) (by decide) ?_
        refine lv_aload_n hx hb dL_law_749 rfl (lv_at hl 1 rfl) ?_
        refine lv_aload_n hx hb dL_law_750 rfl (lv_at hl 0 rfl) ?_
        refine lv_iload_n hx hb dL_law_751 rfl (lv_at hl 3 rfl) ?_
        refine lv_iconst (v := (1 : Int32)) hx hb dL_law_752 (by decide) ?_
        refine lv_iadd hx hb dL_law_753 ?_
        refine va_sld hx hb hX hbl hbA hM.2.2.2 (lw_ix 1 ev3 (by omega) hL) dL_law_754 ?_
        obtain ⟨u0, eu0, u1, eu1, hrr, hR1⟩ := h_undo I P (xs (v3 + (1 : Int32)).toNatClampNeg) hR
        refine ev_calli (va_runV (As := [.int (xs (v3 + (1 : Int32)).toNatClampNeg)]) (rest := []) S (c_X9_undo (l := l) I P bb (xs (v3 + (1 : Int32)).toNatClampNeg) u0 eu0) (cwV 1 hts (gi_vl wa_3_164 wa_3_165 wa_3_166 wa_1_1 wa_3_167) rfl rfl rfl (by decide +kernel) ⟨Nat.le_of_ble_eq_true rfl, Nat.le_of_ble_eq_true rfl⟩) ⟨mm_B_blind, ev_recv hK hM (ci := 9) rfl hkx rfl, fun U hU hW => ⟨rfl, mm_B_of hK hZ hM hU hW⟩⟩ rfl rfl hl.1 rfl (lv_room (Nat.le_of_ble_eq_true rfl)) dL_law_755 ⟨Nat.le_of_ble_eq_true rfl, Nat.le_of_ble_eq_true rfl⟩) hM (fun H locs hM => ?_)
        refine lv_aload_n hx hb dL_law_758 rfl (lv_at hl 2 rfl) ?_
        refine lv_aload_n hx hb dL_law_759 rfl (lv_at hl 0 rfl) ?_
        refine lv_iload_n hx hb dL_law_760 rfl (lv_at hl 3 rfl) ?_
        refine lv_iconst (v := (1 : Int32)) hx hb dL_law_761 (by decide) ?_
        refine lv_iadd hx hb dL_law_762 ?_
        refine va_sld hx hb hX hbl hbA hM.2.2.2 (lw_ix 1 ev3 (by omega) hL) dL_law_763 ?_
        refine ev_calli (va_runV (As := [.int (xs (v3 + (1 : Int32)).toNatClampNeg)]) (rest := [.int u0.1]) S (c_X10_undo (l := l) u0.2 P (bb + 126) (xs (v3 + (1 : Int32)).toNatClampNeg) u1 eu1) (cwV 1 hts (gi_vl wa_5_147 wa_5_148 wa_5_149 wa_1_11 wa_5_150) rfl rfl rfl (by decide +kernel) ⟨Nat.le_of_ble_eq_true rfl, Nat.le_of_ble_eq_true rfl⟩) ⟨mm_B_blind, ev_recv hK hM (ci := 10) rfl hkm rfl, fun U hU hW => ⟨rfl, mm_B_of hK hZ hM hU hW⟩⟩ rfl rfl hl.1 rfl (lv_room (Nat.le_of_ble_eq_true rfl)) dL_law_764 ⟨Nat.le_of_ble_eq_true rfl, Nat.le_of_ble_eq_true rfl⟩) hM (fun H locs hM => ?_)
        refine lv_icmp_eq (tgt := 1392) hx hb dL_law_767 (by decide) (fun _ => ?_) (fun h => absurd hrr h)
        exact kc _ _ _ _ _ hM hR1 hl
      | 14, _, ej =>
        refine lv_tableIn (off := 739) (tgt := 772) hx hb dL_law_33 (by rw [ej]; decide) (by rw [ej]; decide) (by rw [ej]; rfl) (by decide) ?_
        refine lv_aload_n hx hb dL_law_772 rfl (lv_at hl 1 rfl) ?_
        refine lv_aload_n hx hb dL_law_773 rfl (lv_at hl 0 rfl) ?_
        refine lv_iload_n hx hb dL_law_774 rfl (lv_at hl 3 rfl) ?_
        refine lv_iconst (v := (1 : Int32)) hx hb dL_law_775 (by decide) ?_
        refine lv_iadd hx hb dL_law_776 ?_
        refine va_sld hx hb hX hbl hbA hM.2.2.2 (lw_ix 1 ev3 (by omega) hL) dL_law_777 ?_
        refine lv_aload_n hx hb dL_law_778 rfl (lv_at hl 0 rfl) ?_
        refine lv_iload_n hx hb dL_law_779 rfl (lv_at hl 3 rfl) ?_
        refine lv_iconst (v := (2 : Int32)) hx hb dL_law_780 (by decide) ?_
        refine lv_iadd hx hb dL_law_781 ?_
        refine va_sld hx hb hX hbl hbA hM.2.2.2 (lw_ix 2 ev3 (by omega) hL) dL_law_782 ?_
        refine lv_aload_n hx hb dL_law_783 rfl (lv_at hl 0 rfl) ?_
        refine lv_iload_n hx hb dL_law_784 rfl (lv_at hl 3 rfl) ?_
        refine lv_iconst (v := (3 : Int32)) hx hb dL_law_785 (by decide) ?_
        refine lv_iadd hx hb dL_law_786 ?_
        refine va_sld hx hb hX hbl hbA hM.2.2.2 (lw_ix 3 ev3 (by omega) hL) dL_law_787 ?_
        refine lv_aload_n hx hb dL_law_788 rfl (lv_at hl 0 rfl) ?_
        refine lv_iload_n hx hb dL_law_789 rfl (lv_at hl 3 rfl) ?_
        refine lv_iconst (v := (4 : Int32)) hx hb dL_law_790 (by decide) ?_
        refine lv_iadd hx hb dL_law_791 ?_
        refine va_sld hx hb hX hbl hbA hM.2.2.2 (lw_ix 4 ev3 (by omega) hL) dL_law_792 ?_
        refine lv_aload_n hx hb dL_law_793 rfl (lv_at hl 0 rfl) ?_
        refine lv_iload_n hx hb dL_law_794 rfl (lv_at hl 3 rfl) ?_
        refine lv_iconst (v := (5 : Int32)) hx hb dL_law_795 (by decide) ?_
        refine lv_iadd hx hb dL_law_796 ?_
        refine va_sld hx hb hX hbl hbA hM.2.2.2 (lw_ix 5 ev3 (by omega) hL) dL_law_797 ?_
        obtain ⟨u0, eu0, u1, eu1, hrr, hR1⟩ := h_mask I P (xs (v3 + (1 : Int32)).toNatClampNeg) (xs (v3 + (2 : Int32)).toNatClampNeg) (xs (v3 + (3 : Int32)).toNatClampNeg) (xs (v3 + (4 : Int32)).toNatClampNeg) (xs (v3 + (5 : Int32)).toNatClampNeg) hR
        refine ev_calli (va_runV (As := [.int (xs (v3 + (1 : Int32)).toNatClampNeg), .int (xs (v3 + (2 : Int32)).toNatClampNeg), .int (xs (v3 + (3 : Int32)).toNatClampNeg), .int (xs (v3 + (4 : Int32)).toNatClampNeg), .int (xs (v3 + (5 : Int32)).toNatClampNeg)]) (rest := []) S (c_X9_mask (l := l) I P bb (xs (v3 + (1 : Int32)).toNatClampNeg) (xs (v3 + (2 : Int32)).toNatClampNeg) (xs (v3 + (3 : Int32)).toNatClampNeg) (xs (v3 + (4 : Int32)).toNatClampNeg) (xs (v3 + (5 : Int32)).toNatClampNeg) u0 eu0) (cwV 5 hts (gi_vl wa_3_189 wa_3_190 wa_3_191 wa_1_1 wa_3_192) rfl rfl rfl (by decide +kernel) ⟨Nat.le_of_ble_eq_true rfl, Nat.le_of_ble_eq_true rfl⟩) ⟨mm_B_blind, ev_recv hK hM (ci := 9) rfl hkx rfl, fun U hU hW => ⟨rfl, mm_B_of hK hZ hM hU hW⟩⟩ rfl rfl hl.1 rfl (lv_room (Nat.le_of_ble_eq_true rfl)) dL_law_798 ⟨Nat.le_of_ble_eq_true rfl, Nat.le_of_ble_eq_true rfl⟩) hM (fun H locs hM => ?_)
        refine lv_aload_n hx hb dL_law_801 rfl (lv_at hl 2 rfl) ?_
        refine lv_aload_n hx hb dL_law_802 rfl (lv_at hl 0 rfl) ?_
        refine lv_iload_n hx hb dL_law_803 rfl (lv_at hl 3 rfl) ?_
        refine lv_iconst (v := (1 : Int32)) hx hb dL_law_804 (by decide) ?_
        refine lv_iadd hx hb dL_law_805 ?_
        refine va_sld hx hb hX hbl hbA hM.2.2.2 (lw_ix 1 ev3 (by omega) hL) dL_law_806 ?_
        refine lv_aload_n hx hb dL_law_807 rfl (lv_at hl 0 rfl) ?_
        refine lv_iload_n hx hb dL_law_808 rfl (lv_at hl 3 rfl) ?_
        refine lv_iconst (v := (2 : Int32)) hx hb dL_law_809 (by decide) ?_
        refine lv_iadd hx hb dL_law_810 ?_
        refine va_sld hx hb hX hbl hbA hM.2.2.2 (lw_ix 2 ev3 (by omega) hL) dL_law_811 ?_
        refine lv_aload_n hx hb dL_law_812 rfl (lv_at hl 0 rfl) ?_
        refine lv_iload_n hx hb dL_law_813 rfl (lv_at hl 3 rfl) ?_
        refine lv_iconst (v := (3 : Int32)) hx hb dL_law_814 (by decide) ?_
        refine lv_iadd hx hb dL_law_815 ?_
        refine va_sld hx hb hX hbl hbA hM.2.2.2 (lw_ix 3 ev3 (by omega) hL) dL_law_816 ?_
        refine lv_aload_n hx hb dL_law_817 rfl (lv_at hl 0 rfl) ?_
        refine lv_iload_n hx hb dL_law_818 rfl (lv_at hl 3 rfl) ?_
        refine lv_iconst (v := (4 : Int32)) hx hb dL_law_819 (by decide) ?_
        refine lv_iadd hx hb dL_law_820 ?_
        refine va_sld hx hb hX hbl hbA hM.2.2.2 (lw_ix 4 ev3 (by omega) hL) dL_law_821 ?_
        refine lv_aload_n hx hb dL_law_822 rfl (lv_at hl 0 rfl) ?_
        refine lv_iload_n hx hb dL_law_823 rfl (lv_at hl 3 rfl) ?_
        refine lv_iconst (v := (5 : Int32)) hx hb dL_law_824 (by decide) ?_
        refine lv_iadd hx hb dL_law_825 ?_
        refine va_sld hx hb hX hbl hbA hM.2.2.2 (lw_ix 5 ev3 (by omega) hL) dL_law_826 ?_
        refine ev_calli (va_runV (As := [.int (xs (v3 + (1 : Int32)).toNatClampNeg), .int (xs (v3 + (2 : Int32)).toNatClampNeg), .int (xs (v3 + (3 : Int32)).toNatClampNeg), .int (xs (v3 + (4 : Int32)).toNatClampNeg), .int (xs (v3 + (5 : Int32)).toNatClampNeg)]) (rest := [.int u0.1]) S (c_X10_mask (l := l) u0.2 P (bb + 126) (xs (v3 + (1 : Int32)).toNatClampNeg) (xs (v3 + (2 : Int32)).toNatClampNeg) (xs (v3 + (3 : Int32)).toNatClampNeg) (xs (v3 + (4 : Int32)).toNatClampNeg) (xs (v3 + (5 : Int32)).toNatClampNeg) u1 eu1) (cwV 5 hts (gi_vl wa_5_185 wa_5_186 wa_5_187 wa_1_11 wa_5_188) rfl rfl rfl (by decide +kernel) ⟨Nat.le_of_ble_eq_true rfl, Nat.le_of_ble_eq_true rfl⟩) ⟨mm_B_blind, ev_recv hK hM (ci := 10) rfl hkm rfl, fun U hU hW => ⟨rfl, mm_B_of hK hZ hM hU hW⟩⟩ rfl rfl hl.1 rfl (lv_room (Nat.le_of_ble_eq_true rfl)) dL_law_827 ⟨Nat.le_of_ble_eq_true rfl, Nat.le_of_ble_eq_true rfl⟩) hM (fun H locs hM => ?_)
        refine lv_icmp_eq (tgt := 1392) hx hb dL_law_830 (by decide) (fun _ => ?_) (fun h => absurd hrr h)
        exact kc _ _ _ _ _ hM hR1 hl
      | 15, _, ej =>
        refine lv_tableIn (off := 802) (tgt := 835) hx hb dL_law_33 (by rw [ej]; decide) (by rw [ej]; decide) (by rw [ej]; rfl) (by decide) ?_
        refine lv_aload_n hx hb dL_law_835 rfl (lv_at hl 1 rfl) ?_
        refine lv_aload_n hx hb dL_law_836 rfl (lv_at hl 0 rfl) ?_
        refine lv_iload_n hx hb dL_law_837 rfl (lv_at hl 3 rfl) ?_
        refine lv_iconst (v := (1 : Int32)) hx hb dL_law_838 (by decide) ?_
        refine lv_iadd hx hb dL_law_839 ?_
        refine va_sld hx hb hX hbl hbA hM.2.2.2 (lw_ix 1 ev3 (by omega) hL) dL_law_840 ?_
        refine lv_aload_n hx hb dL_law_841 rfl (lv_at hl 0 rfl) ?_
        refine lv_iload_n hx hb dL_law_842 rfl (lv_at hl 3 rfl) ?_
        refine lv_iconst (v := (2 : Int32)) hx hb dL_law_843 (by decide) ?_
        refine lv_iadd hx hb dL_law_844 ?_
        refine va_sld hx hb hX hbl hbA hM.2.2.2 (lw_ix 2 ev3 (by omega) hL) dL_law_845 ?_
        refine lv_aload_n hx hb dL_law_846 rfl (lv_at hl 0 rfl) ?_
        refine lv_iload_n hx hb dL_law_847 rfl (lv_at hl 3 rfl) ?_
        refine lv_iconst (v := (3 : Int32)) hx hb dL_law_848 (by decide) ?_
        refine lv_iadd hx hb dL_law_849 ?_
        refine va_sld hx hb hX hbl hbA hM.2.2.2 (lw_ix 3 ev3 (by omega) hL) dL_law_850 ?_
        refine lv_aload_n hx hb dL_law_851 rfl (lv_at hl 0 rfl) ?_
        refine lv_iload_n hx hb dL_law_852 rfl (lv_at hl 3 rfl) ?_
        refine lv_iconst (v := (4 : Int32)) hx hb dL_law_853 (by decide) ?_
        refine lv_iadd hx hb dL_law_854 ?_
        refine va_sld hx hb hX hbl hbA hM.2.2.2 (lw_ix 4 ev3 (by omega) hL) dL_law_855 ?_
        refine lv_aload_n hx hb dL_law_856 rfl (lv_at hl 0 rfl) ?_
        refine lv_iload_n hx hb dL_law_857 rfl (lv_at hl 3 rfl) ?_
        refine lv_iconst (v := (5 : Int32)) hx hb dL_law_858 (by decide) ?_
        refine lv_iadd hx hb dL_law_859 ?_
        refine va_sld hx hb hX hbl hbA hM.2.2.2 (lw_ix 5 ev3 (by omega) hL) dL_law_860 ?_
        obtain ⟨u0, eu0, u1, eu1, hrr, hR1⟩ := h_wand I P (xs (v3 + (1 : Int32)).toNatClampNeg) (xs (v3 + (2 : Int32)).toNatClampNeg) (xs (v3 + (3 : Int32)).toNatClampNeg) (xs (v3 + (4 : Int32)).toNatClampNeg) (xs (v3 + (5 : Int32)).toNatClampNeg) hR
        refine ev_calli (va_runV (As := [.int (xs (v3 + (1 : Int32)).toNatClampNeg), .int (xs (v3 + (2 : Int32)).toNatClampNeg), .int (xs (v3 + (3 : Int32)).toNatClampNeg), .int (xs (v3 + (4 : Int32)).toNatClampNeg), .int (xs (v3 + (5 : Int32)).toNatClampNeg)]) (rest := []) S (c_X9_wand (l := l) I P bb (xs (v3 + (1 : Int32)).toNatClampNeg) (xs (v3 + (2 : Int32)).toNatClampNeg) (xs (v3 + (3 : Int32)).toNatClampNeg) (xs (v3 + (4 : Int32)).toNatClampNeg) (xs (v3 + (5 : Int32)).toNatClampNeg) u0 eu0) (cwV 5 hts (gi_vl wa_3_204 wa_3_205 wa_3_206 wa_1_1 wa_3_207) rfl rfl rfl (by decide +kernel) ⟨Nat.le_of_ble_eq_true rfl, Nat.le_of_ble_eq_true rfl⟩) ⟨mm_B_blind, ev_recv hK hM (ci := 9) rfl hkx rfl, fun U hU hW => ⟨rfl, mm_B_of hK hZ hM hU hW⟩⟩ rfl rfl hl.1 rfl (lv_room (Nat.le_of_ble_eq_true rfl)) dL_law_861 ⟨Nat.le_of_ble_eq_true rfl, Nat.le_of_ble_eq_true rfl⟩) hM (fun H locs hM => ?_)
        refine lv_aload_n hx hb dL_law_864 rfl (lv_at hl 2 rfl) ?_
        refine lv_aload_n hx hb dL_law_865 rfl (lv_at hl 0 rfl) ?_
        refine lv_iload_n hx hb dL_law_866 rfl (lv_at hl 3 rfl) ?_
        refine lv_iconst (v := (1 : Int32)) hx hb dL_law_867 (by decide) ?_
        refine lv_iadd hx hb dL_law_868 ?_
        refine va_sld hx hb hX hbl hbA hM.2.2.2 (lw_ix 1 ev3 (by omega) hL) dL_law_869 ?_
        refine lv_aload_n hx hb dL_law_870 rfl (lv_at hl 0 rfl) ?_
        refine lv_iload_n hx hb dL_law_871 rfl (lv_at hl 3 rfl) ?_
        refine lv_iconst (v := (2 : Int32)) hx hb dL_law_872 (by decide) ?_
        refine lv_iadd hx hb dL_law_873 ?_
        refine va_sld hx hb hX hbl hbA hM.2.2.2 (lw_ix 2 ev3 (by omega) hL) dL_law_874 ?_
        refine lv_aload_n hx hb dL_law_875 rfl (lv_at hl 0 rfl) ?_
        refine lv_iload_n hx hb dL_law_876 rfl (lv_at hl 3 rfl) ?_
        refine lv_iconst (v := (3 : Int32)) hx hb dL_law_877 (by decide) ?_
        refine lv_iadd hx hb dL_law_878 ?_
        refine va_sld hx hb hX hbl hbA hM.2.2.2 (lw_ix 3 ev3 (by omega) hL) dL_law_879 ?_
        refine lv_aload_n hx hb dL_law_880 rfl (lv_at hl 0 rfl) ?_
        refine lv_iload_n hx hb dL_law_881 rfl (lv_at hl 3 rfl) ?_
        refine lv_iconst (v := (4 : Int32)) hx hb dL_law_882 (by decide) ?_
        refine lv_iadd hx hb dL_law_883 ?_
        refine va_sld hx hb hX hbl hbA hM.2.2.2 (lw_ix 4 ev3 (by omega) hL) dL_law_884 ?_
        refine lv_aload_n hx hb dL_law_885 rfl (lv_at hl 0 rfl) ?_
        refine lv_iload_n hx hb dL_law_886 rfl (lv_at hl 3 rfl) ?_
        refine lv_iconst (v := (5 : Int32)) hx hb dL_law_887 (by decide) ?_
        refine lv_iadd hx hb dL_law_888 ?_
        refine va_sld hx hb hX hbl hbA hM.2.2.2 (lw_ix 5 ev3 (by omega) hL) dL_law_889 ?_
        refine ev_calli (va_runV (As := [.int (xs (v3 + (1 : Int32)).toNatClampNeg), .int (xs (v3 + (2 : Int32)).toNatClampNeg), .int (xs (v3 + (3 : Int32)).toNatClampNeg), .int (xs (v3 + (4 : Int32)).toNatClampNeg), .int (xs (v3 + (5 : Int32)).toNatClampNeg)]) (rest := [.int u0.1]) S (c_X10_wand (l := l) u0.2 P (bb + 126) (xs (v3 + (1 : Int32)).toNatClampNeg) (xs (v3 + (2 : Int32)).toNatClampNeg) (xs (v3 + (3 : Int32)).toNatClampNeg) (xs (v3 + (4 : Int32)).toNatClampNeg) (xs (v3 + (5 : Int32)).toNatClampNeg) u1 eu1) (cwV 5 hts (gi_vl wa_5_193 wa_5_194 wa_5_195 wa_1_11 wa_5_196) rfl rfl rfl (by decide +kernel) ⟨Nat.le_of_ble_eq_true rfl, Nat.le_of_ble_eq_true rfl⟩) ⟨mm_B_blind, ev_recv hK hM (ci := 10) rfl hkm rfl, fun U hU hW => ⟨rfl, mm_B_of hK hZ hM hU hW⟩⟩ rfl rfl hl.1 rfl (lv_room (Nat.le_of_ble_eq_true rfl)) dL_law_890 ⟨Nat.le_of_ble_eq_true rfl, Nat.le_of_ble_eq_true rfl⟩) hM (fun H locs hM => ?_)
        refine lv_icmp_eq (tgt := 1392) hx hb dL_law_893 (by decide) (fun _ => ?_) (fun h => absurd hrr h)
        exact kc _ _ _ _ _ hM hR1 hl
      | 16, _, ej =>
        refine lv_tableIn (off := 865) (tgt := 898) hx hb dL_law_33 (by rw [ej]; decide) (by rw [ej]; decide) (by rw [ej]; rfl) (by decide) ?_
        refine lv_aload_n hx hb dL_law_898 rfl (lv_at hl 1 rfl) ?_
        refine lv_aload_n hx hb dL_law_899 rfl (lv_at hl 0 rfl) ?_
        refine lv_iload_n hx hb dL_law_900 rfl (lv_at hl 3 rfl) ?_
        refine lv_iconst (v := (1 : Int32)) hx hb dL_law_901 (by decide) ?_
        refine lv_iadd hx hb dL_law_902 ?_
        refine va_sld hx hb hX hbl hbA hM.2.2.2 (lw_ix 1 ev3 (by omega) hL) dL_law_903 ?_
        obtain ⟨u0, eu0, u1, eu1, hrr, hR1⟩ := h_grow I P (xs (v3 + (1 : Int32)).toNatClampNeg) hR
        refine ev_calli (va_runV (As := [.int (xs (v3 + (1 : Int32)).toNatClampNeg)]) (rest := []) S (c_X9_grow (l := l) I P bb (xs (v3 + (1 : Int32)).toNatClampNeg) u0 eu0) (cwV 1 hts (gi_vl wa_3_208 wa_3_209 wa_3_210 wa_1_1 wa_3_211) rfl rfl rfl (by decide +kernel) ⟨Nat.le_of_ble_eq_true rfl, Nat.le_of_ble_eq_true rfl⟩) ⟨mm_B_blind, ev_recv hK hM (ci := 9) rfl hkx rfl, fun U hU hW => ⟨rfl, mm_B_of hK hZ hM hU hW⟩⟩ rfl rfl hl.1 rfl (lv_room (Nat.le_of_ble_eq_true rfl)) dL_law_904 ⟨Nat.le_of_ble_eq_true rfl, Nat.le_of_ble_eq_true rfl⟩) hM (fun H locs hM => ?_)
        refine lv_aload_n hx hb dL_law_907 rfl (lv_at hl 2 rfl) ?_
        refine lv_aload_n hx hb dL_law_908 rfl (lv_at hl 0 rfl) ?_
        refine lv_iload_n hx hb dL_law_909 rfl (lv_at hl 3 rfl) ?_
        refine lv_iconst (v := (1 : Int32)) hx hb dL_law_910 (by decide) ?_
        refine lv_iadd hx hb dL_law_911 ?_
        refine va_sld hx hb hX hbl hbA hM.2.2.2 (lw_ix 1 ev3 (by omega) hL) dL_law_912 ?_
        refine ev_calli (va_runV (As := [.int (xs (v3 + (1 : Int32)).toNatClampNeg)]) (rest := [.int u0.1]) S (c_X10_grow (l := l) u0.2 P (bb + 126) (xs (v3 + (1 : Int32)).toNatClampNeg) u1 eu1) (cwV 1 hts (gi_vl wa_5_197 wa_5_198 wa_5_199 wa_1_11 wa_5_200) rfl rfl rfl (by decide +kernel) ⟨Nat.le_of_ble_eq_true rfl, Nat.le_of_ble_eq_true rfl⟩) ⟨mm_B_blind, ev_recv hK hM (ci := 10) rfl hkm rfl, fun U hU hW => ⟨rfl, mm_B_of hK hZ hM hU hW⟩⟩ rfl rfl hl.1 rfl (lv_room (Nat.le_of_ble_eq_true rfl)) dL_law_913 ⟨Nat.le_of_ble_eq_true rfl, Nat.le_of_ble_eq_true rfl⟩) hM (fun H locs hM => ?_)
        refine lv_icmp_eq (tgt := 1392) hx hb dL_law_916 (by decide) (fun _ => ?_) (fun h => absurd hrr h)
        exact kc _ _ _ _ _ hM hR1 hl
      | 17, _, ej =>
        refine lv_tableIn (off := 888) (tgt := 921) hx hb dL_law_33 (by rw [ej]; decide) (by rw [ej]; decide) (by rw [ej]; rfl) (by decide) ?_
        refine lv_aload_n hx hb dL_law_921 rfl (lv_at hl 1 rfl) ?_
        refine lv_aload_n hx hb dL_law_922 rfl (lv_at hl 0 rfl) ?_
        refine lv_iload_n hx hb dL_law_923 rfl (lv_at hl 3 rfl) ?_
        refine lv_iconst (v := (1 : Int32)) hx hb dL_law_924 (by decide) ?_
        refine lv_iadd hx hb dL_law_925 ?_
        refine va_sld hx hb hX hbl hbA hM.2.2.2 (lw_ix 1 ev3 (by omega) hL) dL_law_926 ?_
        obtain ⟨u0, eu0, u1, eu1, hrr, hR1⟩ := h_masked I P (xs (v3 + (1 : Int32)).toNatClampNeg) hR
        refine ev_calli (va_runV (As := [.int (xs (v3 + (1 : Int32)).toNatClampNeg)]) (rest := []) S (c_X9_masked (l := l) I P bb (xs (v3 + (1 : Int32)).toNatClampNeg) u0 eu0) (cwV 1 hts (gi_vl wa_3_223 wa_3_224 wa_3_225 wa_1_1 wa_3_226) rfl rfl rfl (by decide +kernel) ⟨Nat.le_of_ble_eq_true rfl, Nat.le_of_ble_eq_true rfl⟩) ⟨mm_B_blind, ev_recv hK hM (ci := 9) rfl hkx rfl, fun U hU hW => ⟨rfl, mm_B_of hK hZ hM hU hW⟩⟩ rfl rfl hl.1 rfl (lv_room (Nat.le_of_ble_eq_true rfl)) dL_law_927 ⟨Nat.le_of_ble_eq_true rfl, Nat.le_of_ble_eq_true rfl⟩) hM (fun H locs hM => ?_)
        refine lv_aload_n hx hb dL_law_930 rfl (lv_at hl 2 rfl) ?_
        refine lv_aload_n hx hb dL_law_931 rfl (lv_at hl 0 rfl) ?_
        refine lv_iload_n hx hb dL_law_932 rfl (lv_at hl 3 rfl) ?_
        refine lv_iconst (v := (1 : Int32)) hx hb dL_law_933 (by decide) ?_
        refine lv_iadd hx hb dL_law_934 ?_
        refine va_sld hx hb hX hbl hbA hM.2.2.2 (lw_ix 1 ev3 (by omega) hL) dL_law_935 ?_
        refine ev_calli (va_runV (As := [.int (xs (v3 + (1 : Int32)).toNatClampNeg)]) (rest := [.int u0]) S (c_X10_masked_ (l := l) I P (bb + 126) (xs (v3 + (1 : Int32)).toNatClampNeg) u1 eu1) (cwV 1 hts (gi_vl wa_5_205 wa_5_206 wa_5_207 wa_1_11 wa_5_208) rfl rfl rfl (by decide +kernel) ⟨Nat.le_of_ble_eq_true rfl, Nat.le_of_ble_eq_true rfl⟩) ⟨mm_B_blind, ev_recv hK hM (ci := 10) rfl hkm rfl, fun U hU hW => ⟨rfl, mm_B_of hK hZ hM hU hW⟩⟩ rfl rfl hl.1 rfl (lv_room (Nat.le_of_ble_eq_true rfl)) dL_law_936 ⟨Nat.le_of_ble_eq_true rfl, Nat.le_of_ble_eq_true rfl⟩) hM (fun H locs hM => ?_)
        refine lv_icmp_eq (tgt := 1392) hx hb dL_law_939 (by decide) (fun _ => ?_) (fun h => absurd hrr h)
        exact kc _ _ _ _ _ hM hR1 hl
      | 18, _, ej =>
        refine lv_tableIn (off := 911) (tgt := 944) hx hb dL_law_33 (by rw [ej]; decide) (by rw [ej]; decide) (by rw [ej]; rfl) (by decide) ?_
        refine lv_aload_n hx hb dL_law_944 rfl (lv_at hl 1 rfl) ?_
        refine lv_aload_n hx hb dL_law_945 rfl (lv_at hl 0 rfl) ?_
        refine lv_iload_n hx hb dL_law_946 rfl (lv_at hl 3 rfl) ?_
        refine lv_iconst (v := (1 : Int32)) hx hb dL_law_947 (by decide) ?_
        refine lv_iadd hx hb dL_law_948 ?_
        refine va_sld hx hb hX hbl hbA hM.2.2.2 (lw_ix 1 ev3 (by omega) hL) dL_law_949 ?_
        refine lv_aload_n hx hb dL_law_950 rfl (lv_at hl 0 rfl) ?_
        refine lv_iload_n hx hb dL_law_951 rfl (lv_at hl 3 rfl) ?_
        refine lv_iconst (v := (2 : Int32)) hx hb dL_law_952 (by decide) ?_
        refine lv_iadd hx hb dL_law_953 ?_
        refine va_sld hx hb hX hbl hbA hM.2.2.2 (lw_ix 2 ev3 (by omega) hL) dL_law_954 ?_
        obtain ⟨u0, eu0, u1, eu1, hrr, hR1⟩ := h_dither I P (xs (v3 + (1 : Int32)).toNatClampNeg) (xs (v3 + (2 : Int32)).toNatClampNeg) hR
        refine ev_calli (va_runV (As := [.int (xs (v3 + (1 : Int32)).toNatClampNeg), .int (xs (v3 + (2 : Int32)).toNatClampNeg)]) (rest := []) S (c_X9_dither (l := l) I P bb (xs (v3 + (1 : Int32)).toNatClampNeg) (xs (v3 + (2 : Int32)).toNatClampNeg) u0 eu0) (cwV 2 hts (gi_vl wa_3_232 wa_3_233 wa_3_234 wa_1_1 wa_3_235) rfl rfl rfl (by decide +kernel) ⟨Nat.le_of_ble_eq_true rfl, Nat.le_of_ble_eq_true rfl⟩) ⟨mm_B_blind, ev_recv hK hM (ci := 9) rfl hkx rfl, fun U hU hW => ⟨rfl, mm_B_of hK hZ hM hU hW⟩⟩ rfl rfl hl.1 rfl (lv_room (Nat.le_of_ble_eq_true rfl)) dL_law_955 ⟨Nat.le_of_ble_eq_true rfl, Nat.le_of_ble_eq_true rfl⟩) hM (fun H locs hM => ?_)
        refine lv_aload_n hx hb dL_law_958 rfl (lv_at hl 2 rfl) ?_
        refine lv_aload_n hx hb dL_law_959 rfl (lv_at hl 0 rfl) ?_
        refine lv_iload_n hx hb dL_law_960 rfl (lv_at hl 3 rfl) ?_
        refine lv_iconst (v := (1 : Int32)) hx hb dL_law_961 (by decide) ?_
        refine lv_iadd hx hb dL_law_962 ?_
        refine va_sld hx hb hX hbl hbA hM.2.2.2 (lw_ix 1 ev3 (by omega) hL) dL_law_963 ?_
        refine lv_aload_n hx hb dL_law_964 rfl (lv_at hl 0 rfl) ?_
        refine lv_iload_n hx hb dL_law_965 rfl (lv_at hl 3 rfl) ?_
        refine lv_iconst (v := (2 : Int32)) hx hb dL_law_966 (by decide) ?_
        refine lv_iadd hx hb dL_law_967 ?_
        refine va_sld hx hb hX hbl hbA hM.2.2.2 (lw_ix 2 ev3 (by omega) hL) dL_law_968 ?_
        refine ev_calli (va_runV (As := [.int (xs (v3 + (1 : Int32)).toNatClampNeg), .int (xs (v3 + (2 : Int32)).toNatClampNeg)]) (rest := [.int u0.1]) S (c_X10_dither (l := l) u0.2 P (bb + 126) (xs (v3 + (1 : Int32)).toNatClampNeg) (xs (v3 + (2 : Int32)).toNatClampNeg) u1 eu1) (cwV 2 hts (gi_vl wa_5_209 wa_5_210 wa_5_211 wa_1_11 wa_5_212) rfl rfl rfl (by decide +kernel) ⟨Nat.le_of_ble_eq_true rfl, Nat.le_of_ble_eq_true rfl⟩) ⟨mm_B_blind, ev_recv hK hM (ci := 10) rfl hkm rfl, fun U hU hW => ⟨rfl, mm_B_of hK hZ hM hU hW⟩⟩ rfl rfl hl.1 rfl (lv_room (Nat.le_of_ble_eq_true rfl)) dL_law_969 ⟨Nat.le_of_ble_eq_true rfl, Nat.le_of_ble_eq_true rfl⟩) hM (fun H locs hM => ?_)
        refine lv_icmp_eq (tgt := 1392) hx hb dL_law_972 (by decide) (fun _ => ?_) (fun h => absurd hrr h)
        exact kc _ _ _ _ _ hM hR1 hl
      | 19, _, ej =>
        refine lv_tableIn (off := 944) (tgt := 977) hx hb dL_law_33 (by rw [ej]; decide) (by rw [ej]; decide) (by rw [ej]; rfl) (by decide) ?_
        refine lv_aload_n hx hb dL_law_977 rfl (lv_at hl 1 rfl) ?_
        refine lv_aload_n hx hb dL_law_978 rfl (lv_at hl 0 rfl) ?_
        refine lv_iload_n hx hb dL_law_979 rfl (lv_at hl 3 rfl) ?_
        refine lv_iconst (v := (1 : Int32)) hx hb dL_law_980 (by decide) ?_
        refine lv_iadd hx hb dL_law_981 ?_
        refine va_sld hx hb hX hbl hbA hM.2.2.2 (lw_ix 1 ev3 (by omega) hL) dL_law_982 ?_
        obtain ⟨u0, eu0, u1, eu1, hrr, hR1⟩ := h_areas I P (xs (v3 + (1 : Int32)).toNatClampNeg) hR
        refine ev_calli (va_runV (As := [.int (xs (v3 + (1 : Int32)).toNatClampNeg)]) (rest := []) S (c_X9_areas (l := l) I P bb (xs (v3 + (1 : Int32)).toNatClampNeg) u0 eu0) (cwV 1 hts (gi_vl wa_4_15 wa_4_16 wa_4_17 wa_1_1 wa_4_18) rfl rfl rfl (by decide +kernel) ⟨Nat.le_of_ble_eq_true rfl, Nat.le_of_ble_eq_true rfl⟩) ⟨mm_B_blind, ev_recv hK hM (ci := 9) rfl hkx rfl, fun U hU hW => ⟨rfl, mm_B_of hK hZ hM hU hW⟩⟩ rfl rfl hl.1 rfl (lv_room (Nat.le_of_ble_eq_true rfl)) dL_law_983 ⟨Nat.le_of_ble_eq_true rfl, Nat.le_of_ble_eq_true rfl⟩) hM (fun H locs hM => ?_)
        refine lv_aload_n hx hb dL_law_986 rfl (lv_at hl 2 rfl) ?_
        refine lv_aload_n hx hb dL_law_987 rfl (lv_at hl 0 rfl) ?_
        refine lv_iload_n hx hb dL_law_988 rfl (lv_at hl 3 rfl) ?_
        refine lv_iconst (v := (1 : Int32)) hx hb dL_law_989 (by decide) ?_
        refine lv_iadd hx hb dL_law_990 ?_
        refine va_sld hx hb hX hbl hbA hM.2.2.2 (lw_ix 1 ev3 (by omega) hL) dL_law_991 ?_
        refine ev_calli (va_runV (As := [.int (xs (v3 + (1 : Int32)).toNatClampNeg)]) (rest := [.int u0.1]) S (c_X10_areas (l := l) u0.2 P (bb + 126) (xs (v3 + (1 : Int32)).toNatClampNeg) u1 eu1) (cwV 1 hts (gi_vl wa_5_223 wa_5_224 wa_5_225 wa_1_11 wa_5_226) rfl rfl rfl (by decide +kernel) ⟨Nat.le_of_ble_eq_true rfl, Nat.le_of_ble_eq_true rfl⟩) ⟨mm_B_blind, ev_recv hK hM (ci := 10) rfl hkm rfl, fun U hU hW => ⟨rfl, mm_B_of hK hZ hM hU hW⟩⟩ rfl rfl hl.1 rfl (lv_room (Nat.le_of_ble_eq_true rfl)) dL_law_992 ⟨Nat.le_of_ble_eq_true rfl, Nat.le_of_ble_eq_true rfl⟩) hM (fun H locs hM => ?_)
        refine lv_icmp_eq (tgt := 1392) hx hb dL_law_995 (by decide) (fun _ => ?_) (fun h => absurd hrr h)
        exact kc _ _ _ _ _ hM hR1 hl
      | 20, _, ej =>
        refine lv_tableIn (off := 967) (tgt := 1000) hx hb dL_law_33 (by rw [ej]; decide) (by rw [ej]; decide) (by rw [ej]; rfl) (by decide) ?_
        refine lv_aload_n hx hb dL_law_1000 rfl (lv_at hl 1 rfl) ?_
        refine lv_aload_n hx hb dL_law_1001 rfl (lv_at hl 0 rfl) ?_
        refine lv_iload_n hx hb dL_law_1002 rfl (lv_at hl 3 rfl) ?_
        refine lv_iconst (v := (1 : Int32)) hx hb dL_law_1003 (by decide) ?_
        refine lv_iadd hx hb dL_law_1004 ?_
        refine va_sld hx hb hX hbl hbA hM.2.2.2 (lw_ix 1 ev3 (by omega) hL) dL_law_1005 ?_
        refine lv_aload_n hx hb dL_law_1006 rfl (lv_at hl 0 rfl) ?_
        refine lv_iload_n hx hb dL_law_1007 rfl (lv_at hl 3 rfl) ?_
        refine lv_iconst (v := (2 : Int32)) hx hb dL_law_1008 (by decide) ?_
        refine lv_iadd hx hb dL_law_1009 ?_
        refine va_sld hx hb hX hbl hbA hM.2.2.2 (lw_ix 2 ev3 (by omega) hL) dL_law_1010 ?_
        refine lv_aload_n hx hb dL_law_1011 rfl (lv_at hl 0 rfl) ?_
        refine lv_iload_n hx hb dL_law_1012 rfl (lv_at hl 3 rfl) ?_
        refine lv_iconst (v := (3 : Int32)) hx hb dL_law_1013 (by decide) ?_
        refine lv_iadd hx hb dL_law_1014 ?_
        refine va_sld hx hb hX hbl hbA hM.2.2.2 (lw_ix 3 ev3 (by omega) hL) dL_law_1015 ?_
        obtain ⟨u0, eu0, u1, eu1, hrr, hR1⟩ := h_sprayed I P (xs (v3 + (1 : Int32)).toNatClampNeg) (xs (v3 + (2 : Int32)).toNatClampNeg) (xs (v3 + (3 : Int32)).toNatClampNeg) hR
        refine ev_calli (va_runV (As := [.int (xs (v3 + (1 : Int32)).toNatClampNeg), .int (xs (v3 + (2 : Int32)).toNatClampNeg), .int (xs (v3 + (3 : Int32)).toNatClampNeg)]) (rest := []) S (c_X9_sprayed (l := l) I P bb (xs (v3 + (1 : Int32)).toNatClampNeg) (xs (v3 + (2 : Int32)).toNatClampNeg) (xs (v3 + (3 : Int32)).toNatClampNeg) u0 eu0) (cwV 3 hts (gi_vl wa_4_21 wa_4_22 wa_4_23 wa_1_1 wa_4_24) rfl rfl rfl (by decide +kernel) ⟨Nat.le_of_ble_eq_true rfl, Nat.le_of_ble_eq_true rfl⟩) ⟨mm_B_blind, ev_recv hK hM (ci := 9) rfl hkx rfl, fun U hU hW => ⟨rfl, mm_B_of hK hZ hM hU hW⟩⟩ rfl rfl hl.1 rfl (lv_room (Nat.le_of_ble_eq_true rfl)) dL_law_1016 ⟨Nat.le_of_ble_eq_true rfl, Nat.le_of_ble_eq_true rfl⟩) hM (fun H locs hM => ?_)
        refine lv_aload_n hx hb dL_law_1019 rfl (lv_at hl 2 rfl) ?_
        refine lv_aload_n hx hb dL_law_1020 rfl (lv_at hl 0 rfl) ?_
        refine lv_iload_n hx hb dL_law_1021 rfl (lv_at hl 3 rfl) ?_
        refine lv_iconst (v := (1 : Int32)) hx hb dL_law_1022 (by decide) ?_
        refine lv_iadd hx hb dL_law_1023 ?_
        refine va_sld hx hb hX hbl hbA hM.2.2.2 (lw_ix 1 ev3 (by omega) hL) dL_law_1024 ?_
        refine lv_aload_n hx hb dL_law_1025 rfl (lv_at hl 0 rfl) ?_
        refine lv_iload_n hx hb dL_law_1026 rfl (lv_at hl 3 rfl) ?_
        refine lv_iconst (v := (2 : Int32)) hx hb dL_law_1027 (by decide) ?_
        refine lv_iadd hx hb dL_law_1028 ?_
        refine va_sld hx hb hX hbl hbA hM.2.2.2 (lw_ix 2 ev3 (by omega) hL) dL_law_1029 ?_
        refine lv_aload_n hx hb dL_law_1030 rfl (lv_at hl 0 rfl) ?_
        refine lv_iload_n hx hb dL_law_1031 rfl (lv_at hl 3 rfl) ?_
        refine lv_iconst (v := (3 : Int32)) hx hb dL_law_1032 (by decide) ?_
        refine lv_iadd hx hb dL_law_1033 ?_
        refine va_sld hx hb hX hbl hbA hM.2.2.2 (lw_ix 3 ev3 (by omega) hL) dL_law_1034 ?_
        refine ev_calli (va_runV (As := [.int (xs (v3 + (1 : Int32)).toNatClampNeg), .int (xs (v3 + (2 : Int32)).toNatClampNeg), .int (xs (v3 + (3 : Int32)).toNatClampNeg)]) (rest := [.int u0.1]) S (c_X10_sprayed (l := l) u0.2 P (bb + 126) (xs (v3 + (1 : Int32)).toNatClampNeg) (xs (v3 + (2 : Int32)).toNatClampNeg) (xs (v3 + (3 : Int32)).toNatClampNeg) u1 eu1) (cwV 3 hts (gi_vl wa_5_231 wa_5_232 wa_5_233 wa_1_11 wa_5_234) rfl rfl rfl (by decide +kernel) ⟨Nat.le_of_ble_eq_true rfl, Nat.le_of_ble_eq_true rfl⟩) ⟨mm_B_blind, ev_recv hK hM (ci := 10) rfl hkm rfl, fun U hU hW => ⟨rfl, mm_B_of hK hZ hM hU hW⟩⟩ rfl rfl hl.1 rfl (lv_room (Nat.le_of_ble_eq_true rfl)) dL_law_1035 ⟨Nat.le_of_ble_eq_true rfl, Nat.le_of_ble_eq_true rfl⟩) hM (fun H locs hM => ?_)
        refine lv_icmp_eq (tgt := 1392) hx hb dL_law_1038 (by decide) (fun _ => ?_) (fun h => absurd hrr h)
        exact kc _ _ _ _ _ hM hR1 hl
      | 21, _, ej =>
        refine lv_tableIn (off := 1010) (tgt := 1043) hx hb dL_law_33 (by rw [ej]; decide) (by rw [ej]; decide) (by rw [ej]; rfl) (by decide) ?_
        refine lv_aload_n hx hb dL_law_1043 rfl (lv_at hl 1 rfl) ?_
        refine lv_aload_n hx hb dL_law_1044 rfl (lv_at hl 0 rfl) ?_
        refine lv_iload_n hx hb dL_law_1045 rfl (lv_at hl 3 rfl) ?_
        refine lv_iconst (v := (1 : Int32)) hx hb dL_law_1046 (by decide) ?_
        refine lv_iadd hx hb dL_law_1047 ?_
        refine va_sld hx hb hX hbl hbA hM.2.2.2 (lw_ix 1 ev3 (by omega) hL) dL_law_1048 ?_
        refine lv_aload_n hx hb dL_law_1049 rfl (lv_at hl 0 rfl) ?_
        refine lv_iload_n hx hb dL_law_1050 rfl (lv_at hl 3 rfl) ?_
        refine lv_iconst (v := (2 : Int32)) hx hb dL_law_1051 (by decide) ?_
        refine lv_iadd hx hb dL_law_1052 ?_
        refine va_sld hx hb hX hbl hbA hM.2.2.2 (lw_ix 2 ev3 (by omega) hL) dL_law_1053 ?_
        refine lv_aload_n hx hb dL_law_1054 rfl (lv_at hl 0 rfl) ?_
        refine lv_iload_n hx hb dL_law_1055 rfl (lv_at hl 3 rfl) ?_
        refine lv_iconst (v := (3 : Int32)) hx hb dL_law_1056 (by decide) ?_
        refine lv_iadd hx hb dL_law_1057 ?_
        refine va_sld hx hb hX hbl hbA hM.2.2.2 (lw_ix 3 ev3 (by omega) hL) dL_law_1058 ?_
        refine lv_aload_n hx hb dL_law_1059 rfl (lv_at hl 0 rfl) ?_
        refine lv_iload_n hx hb dL_law_1060 rfl (lv_at hl 3 rfl) ?_
        refine lv_iconst (v := (4 : Int32)) hx hb dL_law_1061 (by decide) ?_
        refine lv_iadd hx hb dL_law_1062 ?_
        refine va_sld hx hb hX hbl hbA hM.2.2.2 (lw_ix 4 ev3 (by omega) hL) dL_law_1063 ?_
        refine lv_aload_n hx hb dL_law_1064 rfl (lv_at hl 0 rfl) ?_
        refine lv_iload_n hx hb dL_law_1065 rfl (lv_at hl 3 rfl) ?_
        refine lv_iconst (v := (5 : Int32)) hx hb dL_law_1066 (by decide) ?_
        refine lv_iadd hx hb dL_law_1067 ?_
        refine va_sld hx hb hX hbl hbA hM.2.2.2 (lw_ix 5 ev3 (by omega) hL) dL_law_1068 ?_
        refine lv_aload_n hx hb dL_law_1069 rfl (lv_at hl 0 rfl) ?_
        refine lv_iload_n hx hb dL_law_1070 rfl (lv_at hl 3 rfl) ?_
        refine lv_bipush (v := (6 : Int32)) hx hb dL_law_1071 (by decide) ?_
        refine lv_iadd hx hb dL_law_1073 ?_
        refine va_sld hx hb hX hbl hbA hM.2.2.2 (lw_ix 6 ev3 (by omega) hL) dL_law_1074 ?_
        obtain ⟨u0, eu0, u1, eu1, hrr, hR1⟩ := h_chance I P (xs (v3 + (1 : Int32)).toNatClampNeg) (xs (v3 + (2 : Int32)).toNatClampNeg) (xs (v3 + (3 : Int32)).toNatClampNeg) (xs (v3 + (4 : Int32)).toNatClampNeg) (xs (v3 + (5 : Int32)).toNatClampNeg) (xs (v3 + (6 : Int32)).toNatClampNeg) hR
        refine ev_calli (va_runV (As := [.int (xs (v3 + (1 : Int32)).toNatClampNeg), .int (xs (v3 + (2 : Int32)).toNatClampNeg), .int (xs (v3 + (3 : Int32)).toNatClampNeg), .int (xs (v3 + (4 : Int32)).toNatClampNeg), .int (xs (v3 + (5 : Int32)).toNatClampNeg), .int (xs (v3 + (6 : Int32)).toNatClampNeg)]) (rest := []) S (c_X9_chance (l := l) I P bb (xs (v3 + (1 : Int32)).toNatClampNeg) (xs (v3 + (2 : Int32)).toNatClampNeg) (xs (v3 + (3 : Int32)).toNatClampNeg) (xs (v3 + (4 : Int32)).toNatClampNeg) (xs (v3 + (5 : Int32)).toNatClampNeg) (xs (v3 + (6 : Int32)).toNatClampNeg) u0 eu0) (cwV 6 hts (gi_vl wa_4_44 wa_4_45 wa_4_46 wa_1_1 wa_4_47) rfl rfl rfl (by decide +kernel) ⟨Nat.le_of_ble_eq_true rfl, Nat.le_of_ble_eq_true rfl⟩) ⟨mm_B_blind, ev_recv hK hM (ci := 9) rfl hkx rfl, fun U hU hW => ⟨rfl, mm_B_of hK hZ hM hU hW⟩⟩ rfl rfl hl.1 rfl (lv_room (Nat.le_of_ble_eq_true rfl)) dL_law_1075 ⟨Nat.le_of_ble_eq_true rfl, Nat.le_of_ble_eq_true rfl⟩) hM (fun H locs hM => ?_)
        refine lv_aload_n hx hb dL_law_1078 rfl (lv_at hl 2 rfl) ?_
        refine lv_aload_n hx hb dL_law_1079 rfl (lv_at hl 0 rfl) ?_
        refine lv_iload_n hx hb dL_law_1080 rfl (lv_at hl 3 rfl) ?_
        refine lv_iconst (v := (1 : Int32)) hx hb dL_law_1081 (by decide) ?_
        refine lv_iadd hx hb dL_law_1082 ?_
        refine va_sld hx hb hX hbl hbA hM.2.2.2 (lw_ix 1 ev3 (by omega) hL) dL_law_1083 ?_
        refine lv_aload_n hx hb dL_law_1084 rfl (lv_at hl 0 rfl) ?_
        refine lv_iload_n hx hb dL_law_1085 rfl (lv_at hl 3 rfl) ?_
        refine lv_iconst (v := (2 : Int32)) hx hb dL_law_1086 (by decide) ?_
        refine lv_iadd hx hb dL_law_1087 ?_
        refine va_sld hx hb hX hbl hbA hM.2.2.2 (lw_ix 2 ev3 (by omega) hL) dL_law_1088 ?_
        refine lv_aload_n hx hb dL_law_1089 rfl (lv_at hl 0 rfl) ?_
        refine lv_iload_n hx hb dL_law_1090 rfl (lv_at hl 3 rfl) ?_
        refine lv_iconst (v := (3 : Int32)) hx hb dL_law_1091 (by decide) ?_
        refine lv_iadd hx hb dL_law_1092 ?_
        refine va_sld hx hb hX hbl hbA hM.2.2.2 (lw_ix 3 ev3 (by omega) hL) dL_law_1093 ?_
        refine lv_aload_n hx hb dL_law_1094 rfl (lv_at hl 0 rfl) ?_
        refine lv_iload_n hx hb dL_law_1095 rfl (lv_at hl 3 rfl) ?_
        refine lv_iconst (v := (4 : Int32)) hx hb dL_law_1096 (by decide) ?_
        refine lv_iadd hx hb dL_law_1097 ?_
        refine va_sld hx hb hX hbl hbA hM.2.2.2 (lw_ix 4 ev3 (by omega) hL) dL_law_1098 ?_
        refine lv_aload_n hx hb dL_law_1099 rfl (lv_at hl 0 rfl) ?_
        refine lv_iload_n hx hb dL_law_1100 rfl (lv_at hl 3 rfl) ?_
        refine lv_iconst (v := (5 : Int32)) hx hb dL_law_1101 (by decide) ?_
        refine lv_iadd hx hb dL_law_1102 ?_
        refine va_sld hx hb hX hbl hbA hM.2.2.2 (lw_ix 5 ev3 (by omega) hL) dL_law_1103 ?_
        refine lv_aload_n hx hb dL_law_1104 rfl (lv_at hl 0 rfl) ?_
        refine lv_iload_n hx hb dL_law_1105 rfl (lv_at hl 3 rfl) ?_
        refine lv_bipush (v := (6 : Int32)) hx hb dL_law_1106 (by decide) ?_
        refine lv_iadd hx hb dL_law_1108 ?_
        refine va_sld hx hb hX hbl hbA hM.2.2.2 (lw_ix 6 ev3 (by omega) hL) dL_law_1109 ?_
        refine ev_calli (va_runV (As := [.int (xs (v3 + (1 : Int32)).toNatClampNeg), .int (xs (v3 + (2 : Int32)).toNatClampNeg), .int (xs (v3 + (3 : Int32)).toNatClampNeg), .int (xs (v3 + (4 : Int32)).toNatClampNeg), .int (xs (v3 + (5 : Int32)).toNatClampNeg), .int (xs (v3 + (6 : Int32)).toNatClampNeg)]) (rest := [.int u0.1]) S (c_X10_chance (l := l) u0.2 P (bb + 126) (xs (v3 + (1 : Int32)).toNatClampNeg) (xs (v3 + (2 : Int32)).toNatClampNeg) (xs (v3 + (3 : Int32)).toNatClampNeg) (xs (v3 + (4 : Int32)).toNatClampNeg) (xs (v3 + (5 : Int32)).toNatClampNeg) (xs (v3 + (6 : Int32)).toNatClampNeg) u1 eu1) (cwV 6 hts (gi_vl wa_6_4 wa_6_5 wa_6_6 wa_1_11 wa_6_7) rfl rfl rfl (by decide +kernel) ⟨Nat.le_of_ble_eq_true rfl, Nat.le_of_ble_eq_true rfl⟩) ⟨mm_B_blind, ev_recv hK hM (ci := 10) rfl hkm rfl, fun U hU hW => ⟨rfl, mm_B_of hK hZ hM hU hW⟩⟩ rfl rfl hl.1 rfl (lv_room (Nat.le_of_ble_eq_true rfl)) dL_law_1110 ⟨Nat.le_of_ble_eq_true rfl, Nat.le_of_ble_eq_true rfl⟩) hM (fun H locs hM => ?_)
        refine lv_icmp_eq (tgt := 1392) hx hb dL_law_1113 (by decide) (fun _ => ?_) (fun h => absurd hrr h)
        exact kc _ _ _ _ _ hM hR1 hl
      | 22, _, ej =>
        refine lv_tableIn (off := 1085) (tgt := 1118) hx hb dL_law_33 (by rw [ej]; decide) (by rw [ej]; decide) (by rw [ej]; rfl) (by decide) ?_
        refine lv_aload_n hx hb dL_law_1118 rfl (lv_at hl 1 rfl) ?_
        refine lv_aload_n hx hb dL_law_1119 rfl (lv_at hl 0 rfl) ?_
        refine lv_iload_n hx hb dL_law_1120 rfl (lv_at hl 3 rfl) ?_
        refine lv_iconst (v := (1 : Int32)) hx hb dL_law_1121 (by decide) ?_
        refine lv_iadd hx hb dL_law_1122 ?_
        refine va_sld hx hb hX hbl hbA hM.2.2.2 (lw_ix 1 ev3 (by omega) hL) dL_law_1123 ?_
        refine lv_aload_n hx hb dL_law_1124 rfl (lv_at hl 0 rfl) ?_
        refine lv_iload_n hx hb dL_law_1125 rfl (lv_at hl 3 rfl) ?_
        refine lv_iconst (v := (2 : Int32)) hx hb dL_law_1126 (by decide) ?_
        refine lv_iadd hx hb dL_law_1127 ?_
        refine va_sld hx hb hX hbl hbA hM.2.2.2 (lw_ix 2 ev3 (by omega) hL) dL_law_1128 ?_
        refine lv_aload_n hx hb dL_law_1129 rfl (lv_at hl 0 rfl) ?_
        refine lv_iload_n hx hb dL_law_1130 rfl (lv_at hl 3 rfl) ?_
        refine lv_iconst (v := (3 : Int32)) hx hb dL_law_1131 (by decide) ?_
        refine lv_iadd hx hb dL_law_1132 ?_
        refine va_sld hx hb hX hbl hbA hM.2.2.2 (lw_ix 3 ev3 (by omega) hL) dL_law_1133 ?_
        obtain ⟨u0, eu0, u1, eu1, hrr, hR1⟩ := h_tells I P (xs (v3 + (1 : Int32)).toNatClampNeg) (xs (v3 + (2 : Int32)).toNatClampNeg) (xs (v3 + (3 : Int32)).toNatClampNeg) hR
        refine ev_calli (va_runV (As := [.int (xs (v3 + (1 : Int32)).toNatClampNeg), .int (xs (v3 + (2 : Int32)).toNatClampNeg), .int (xs (v3 + (3 : Int32)).toNatClampNeg)]) (rest := []) S (c_X9_tells (l := l) I P bb (xs (v3 + (1 : Int32)).toNatClampNeg) (xs (v3 + (2 : Int32)).toNatClampNeg) (xs (v3 + (3 : Int32)).toNatClampNeg) u0 eu0) (cwV 3 hts (gi_vl wa_4_51 wa_4_52 wa_4_53 wa_1_1 wa_4_54) rfl rfl rfl (by decide +kernel) ⟨Nat.le_of_ble_eq_true rfl, Nat.le_of_ble_eq_true rfl⟩) ⟨mm_B_blind, ev_recv hK hM (ci := 9) rfl hkx rfl, fun U hU hW => ⟨rfl, mm_B_of hK hZ hM hU hW⟩⟩ rfl rfl hl.1 rfl (lv_room (Nat.le_of_ble_eq_true rfl)) dL_law_1134 ⟨Nat.le_of_ble_eq_true rfl, Nat.le_of_ble_eq_true rfl⟩) hM (fun H locs hM => ?_)
        refine lv_aload_n hx hb dL_law_1137 rfl (lv_at hl 2 rfl) ?_
        refine lv_aload_n hx hb dL_law_1138 rfl (lv_at hl 0 rfl) ?_
        refine lv_iload_n hx hb dL_law_1139 rfl (lv_at hl 3 rfl) ?_
        refine lv_iconst (v := (1 : Int32)) hx hb dL_law_1140 (by decide) ?_
        refine lv_iadd hx hb dL_law_1141 ?_
        refine va_sld hx hb hX hbl hbA hM.2.2.2 (lw_ix 1 ev3 (by omega) hL) dL_law_1142 ?_
        refine lv_aload_n hx hb dL_law_1143 rfl (lv_at hl 0 rfl) ?_
        refine lv_iload_n hx hb dL_law_1144 rfl (lv_at hl 3 rfl) ?_
        refine lv_iconst (v := (2 : Int32)) hx hb dL_law_1145 (by decide) ?_
        refine lv_iadd hx hb dL_law_1146 ?_
        refine va_sld hx hb hX hbl hbA hM.2.2.2 (lw_ix 2 ev3 (by omega) hL) dL_law_1147 ?_
        refine lv_aload_n hx hb dL_law_1148 rfl (lv_at hl 0 rfl) ?_
        refine lv_iload_n hx hb dL_law_1149 rfl (lv_at hl 3 rfl) ?_
        refine lv_iconst (v := (3 : Int32)) hx hb dL_law_1150 (by decide) ?_
        refine lv_iadd hx hb dL_law_1151 ?_
        refine va_sld hx hb hX hbl hbA hM.2.2.2 (lw_ix 3 ev3 (by omega) hL) dL_law_1152 ?_
        refine ev_calli (va_runV (As := [.int (xs (v3 + (1 : Int32)).toNatClampNeg), .int (xs (v3 + (2 : Int32)).toNatClampNeg), .int (xs (v3 + (3 : Int32)).toNatClampNeg)]) (rest := [.int u0.1]) S (c_X10_tells (l := l) u0.2 P (bb + 126) (xs (v3 + (1 : Int32)).toNatClampNeg) (xs (v3 + (2 : Int32)).toNatClampNeg) (xs (v3 + (3 : Int32)).toNatClampNeg) u1 eu1) (cwV 3 hts (gi_vl wa_6_11 wa_6_12 wa_6_13 wa_1_11 wa_6_14) rfl rfl rfl (by decide +kernel) ⟨Nat.le_of_ble_eq_true rfl, Nat.le_of_ble_eq_true rfl⟩) ⟨mm_B_blind, ev_recv hK hM (ci := 10) rfl hkm rfl, fun U hU hW => ⟨rfl, mm_B_of hK hZ hM hU hW⟩⟩ rfl rfl hl.1 rfl (lv_room (Nat.le_of_ble_eq_true rfl)) dL_law_1153 ⟨Nat.le_of_ble_eq_true rfl, Nat.le_of_ble_eq_true rfl⟩) hM (fun H locs hM => ?_)
        refine lv_icmp_eq (tgt := 1392) hx hb dL_law_1156 (by decide) (fun _ => ?_) (fun h => absurd hrr h)
        exact kc _ _ _ _ _ hM hR1 hl
      | 23, _, ej =>
        refine lv_tableIn (off := 1128) (tgt := 1161) hx hb dL_law_33 (by rw [ej]; decide) (by rw [ej]; decide) (by rw [ej]; rfl) (by decide) ?_
        refine lv_aload_n hx hb dL_law_1161 rfl (lv_at hl 1 rfl) ?_
        refine lv_aload_n hx hb dL_law_1162 rfl (lv_at hl 0 rfl) ?_
        refine lv_iload_n hx hb dL_law_1163 rfl (lv_at hl 3 rfl) ?_
        refine lv_iconst (v := (1 : Int32)) hx hb dL_law_1164 (by decide) ?_
        refine lv_iadd hx hb dL_law_1165 ?_
        refine va_sld hx hb hX hbl hbA hM.2.2.2 (lw_ix 1 ev3 (by omega) hL) dL_law_1166 ?_
        refine lv_aload_n hx hb dL_law_1167 rfl (lv_at hl 0 rfl) ?_
        refine lv_iload_n hx hb dL_law_1168 rfl (lv_at hl 3 rfl) ?_
        refine lv_iconst (v := (2 : Int32)) hx hb dL_law_1169 (by decide) ?_
        refine lv_iadd hx hb dL_law_1170 ?_
        refine va_sld hx hb hX hbl hbA hM.2.2.2 (lw_ix 2 ev3 (by omega) hL) dL_law_1171 ?_
        obtain ⟨u0, eu0, u1, eu1, hrr, hR1⟩ := h_film I P (xs (v3 + (1 : Int32)).toNatClampNeg) (xs (v3 + (2 : Int32)).toNatClampNeg) hR
        refine ev_calli (va_runV (As := [.int (xs (v3 + (1 : Int32)).toNatClampNeg), .int (xs (v3 + (2 : Int32)).toNatClampNeg)]) (rest := []) S (c_X9_film (l := l) I P bb (xs (v3 + (1 : Int32)).toNatClampNeg) (xs (v3 + (2 : Int32)).toNatClampNeg) u0 eu0) (cwV 2 hts (gi_vl wa_4_74 wa_4_75 wa_4_76 wa_1_1 wa_4_77) rfl rfl rfl (by decide +kernel) ⟨Nat.le_of_ble_eq_true rfl, Nat.le_of_ble_eq_true rfl⟩) ⟨mm_B_blind, ev_recv hK hM (ci := 9) rfl hkx rfl, fun U hU hW => ⟨rfl, mm_B_of hK hZ hM hU hW⟩⟩ rfl rfl hl.1 rfl (lv_room (Nat.le_of_ble_eq_true rfl)) dL_law_1172 ⟨Nat.le_of_ble_eq_true rfl, Nat.le_of_ble_eq_true rfl⟩) hM (fun H locs hM => ?_)
        refine lv_aload_n hx hb dL_law_1175 rfl (lv_at hl 2 rfl) ?_
        refine lv_aload_n hx hb dL_law_1176 rfl (lv_at hl 0 rfl) ?_
        refine lv_iload_n hx hb dL_law_1177 rfl (lv_at hl 3 rfl) ?_
        refine lv_iconst (v := (1 : Int32)) hx hb dL_law_1178 (by decide) ?_
        refine lv_iadd hx hb dL_law_1179 ?_
        refine va_sld hx hb hX hbl hbA hM.2.2.2 (lw_ix 1 ev3 (by omega) hL) dL_law_1180 ?_
        refine lv_aload_n hx hb dL_law_1181 rfl (lv_at hl 0 rfl) ?_
        refine lv_iload_n hx hb dL_law_1182 rfl (lv_at hl 3 rfl) ?_
        refine lv_iconst (v := (2 : Int32)) hx hb dL_law_1183 (by decide) ?_
        refine lv_iadd hx hb dL_law_1184 ?_
        refine va_sld hx hb hX hbl hbA hM.2.2.2 (lw_ix 2 ev3 (by omega) hL) dL_law_1185 ?_
        refine ev_calli (va_runV (As := [.int (xs (v3 + (1 : Int32)).toNatClampNeg), .int (xs (v3 + (2 : Int32)).toNatClampNeg)]) (rest := [.int u0.1]) S (c_X10_film (l := l) u0.2 P (bb + 126) (xs (v3 + (1 : Int32)).toNatClampNeg) (xs (v3 + (2 : Int32)).toNatClampNeg) u1 eu1) (cwV 2 hts (gi_vl wa_6_22 wa_6_23 wa_6_24 wa_1_11 wa_6_25) rfl rfl rfl (by decide +kernel) ⟨Nat.le_of_ble_eq_true rfl, Nat.le_of_ble_eq_true rfl⟩) ⟨mm_B_blind, ev_recv hK hM (ci := 10) rfl hkm rfl, fun U hU hW => ⟨rfl, mm_B_of hK hZ hM hU hW⟩⟩ rfl rfl hl.1 rfl (lv_room (Nat.le_of_ble_eq_true rfl)) dL_law_1186 ⟨Nat.le_of_ble_eq_true rfl, Nat.le_of_ble_eq_true rfl⟩) hM (fun H locs hM => ?_)
        refine lv_icmp_eq (tgt := 1392) hx hb dL_law_1189 (by decide) (fun _ => ?_) (fun h => absurd hrr h)
        exact kc _ _ _ _ _ hM hR1 hl
      | 24, _, ej =>
        refine lv_tableIn (off := 1161) (tgt := 1194) hx hb dL_law_33 (by rw [ej]; decide) (by rw [ej]; decide) (by rw [ej]; rfl) (by decide) ?_
        refine lv_aload_n hx hb dL_law_1194 rfl (lv_at hl 1 rfl) ?_
        obtain ⟨u0, eu0, u1, eu1, hrr, hR1⟩ := h_image I P  hR
        refine ev_calli (va_runV (As := []) (rest := []) S (c_X9_image (l := l) I P bb  u0 eu0) (cwV 0 hts (gi_vl wa_4_87 wa_4_88 wa_4_89 wa_1_1 wa_4_90) rfl rfl rfl (by decide +kernel) ⟨Nat.le_of_ble_eq_true rfl, Nat.le_of_ble_eq_true rfl⟩) ⟨mm_B_blind, ev_recv hK hM (ci := 9) rfl hkx rfl, fun U hU hW => ⟨rfl, mm_B_of hK hZ hM hU hW⟩⟩ rfl rfl hl.1 rfl (lv_room (Nat.le_of_ble_eq_true rfl)) dL_law_1195 ⟨Nat.le_of_ble_eq_true rfl, Nat.le_of_ble_eq_true rfl⟩) hM (fun H locs hM => ?_)
        refine lv_aload_n hx hb dL_law_1198 rfl (lv_at hl 2 rfl) ?_
        refine ev_calli (va_runV (As := []) (rest := [.int u0.1]) S (c_X10_image (l := l) u0.2 P (bb + 126)  u1 eu1) (cwV 0 hts (gi_vl wa_6_42 wa_6_43 wa_6_44 wa_1_11 wa_6_45) rfl rfl rfl (by decide +kernel) ⟨Nat.le_of_ble_eq_true rfl, Nat.le_of_ble_eq_true rfl⟩) ⟨mm_B_blind, ev_recv hK hM (ci := 10) rfl hkm rfl, fun U hU hW => ⟨rfl, mm_B_of hK hZ hM hU hW⟩⟩ rfl rfl hl.1 rfl (lv_room (Nat.le_of_ble_eq_true rfl)) dL_law_1199 ⟨Nat.le_of_ble_eq_true rfl, Nat.le_of_ble_eq_true rfl⟩) hM (fun H locs hM => ?_)
        refine lv_icmp_eq (tgt := 1392) hx hb dL_law_1202 (by decide) (fun _ => ?_) (fun h => absurd hrr h)
        exact kc _ _ _ _ _ hM hR1 hl
      | 25, _, ej =>
        refine lv_tableIn (off := 1174) (tgt := 1207) hx hb dL_law_33 (by rw [ej]; decide) (by rw [ej]; decide) (by rw [ej]; rfl) (by decide) ?_
        refine lv_aload_n hx hb dL_law_1207 rfl (lv_at hl 1 rfl) ?_
        obtain ⟨u0, eu0, u1, eu1, hrr, hR1⟩ := h_back I P  hR
        refine ev_calli (va_runV (As := []) (rest := []) S (c_X9_back (l := l) I P bb  u0 eu0) (cwV 0 hts (gi_vl wa_4_106 wa_4_107 wa_4_108 wa_1_1 wa_4_109) rfl rfl rfl (by decide +kernel) ⟨Nat.le_of_ble_eq_true rfl, Nat.le_of_ble_eq_true rfl⟩) ⟨mm_B_blind, ev_recv hK hM (ci := 9) rfl hkx rfl, fun U hU hW => ⟨rfl, mm_B_of hK hZ hM hU hW⟩⟩ rfl rfl hl.1 rfl (lv_room (Nat.le_of_ble_eq_true rfl)) dL_law_1208 ⟨Nat.le_of_ble_eq_true rfl, Nat.le_of_ble_eq_true rfl⟩) hM (fun H locs hM => ?_)
        refine lv_aload_n hx hb dL_law_1211 rfl (lv_at hl 2 rfl) ?_
        refine ev_calli (va_runV (As := []) (rest := [.int u0.1]) S (c_X10_back (l := l) u0.2 P (bb + 126)  u1 eu1) (cwV 0 hts (gi_vl wa_6_46 wa_6_47 wa_6_48 wa_1_11 wa_6_49) rfl rfl rfl (by decide +kernel) ⟨Nat.le_of_ble_eq_true rfl, Nat.le_of_ble_eq_true rfl⟩) ⟨mm_B_blind, ev_recv hK hM (ci := 10) rfl hkm rfl, fun U hU hW => ⟨rfl, mm_B_of hK hZ hM hU hW⟩⟩ rfl rfl hl.1 rfl (lv_room (Nat.le_of_ble_eq_true rfl)) dL_law_1212 ⟨Nat.le_of_ble_eq_true rfl, Nat.le_of_ble_eq_true rfl⟩) hM (fun H locs hM => ?_)
        refine lv_icmp_eq (tgt := 1392) hx hb dL_law_1215 (by decide) (fun _ => ?_) (fun h => absurd hrr h)
        exact kc _ _ _ _ _ hM hR1 hl
      | 26, _, ej =>
        refine lv_tableIn (off := 1187) (tgt := 1220) hx hb dL_law_33 (by rw [ej]; decide) (by rw [ej]; decide) (by rw [ej]; rfl) (by decide) ?_
        refine lv_aload_n hx hb dL_law_1220 rfl (lv_at hl 1 rfl) ?_
        refine lv_aload_n hx hb dL_law_1221 rfl (lv_at hl 0 rfl) ?_
        refine lv_iload_n hx hb dL_law_1222 rfl (lv_at hl 3 rfl) ?_
        refine lv_iconst (v := (1 : Int32)) hx hb dL_law_1223 (by decide) ?_
        refine lv_iadd hx hb dL_law_1224 ?_
        refine va_sld hx hb hX hbl hbA hM.2.2.2 (lw_ix 1 ev3 (by omega) hL) dL_law_1225 ?_
        obtain ⟨u0, eu0, u1, eu1, hrr, hR1⟩ := h_count I P (xs (v3 + (1 : Int32)).toNatClampNeg) hR
        refine ev_calli (va_runV (As := [.int (xs (v3 + (1 : Int32)).toNatClampNeg)]) (rest := []) S (c_X9_count (l := l) I P bb (xs (v3 + (1 : Int32)).toNatClampNeg) u0 eu0) (cwV 1 hts (gi_vl wa_4_110 wa_4_111 wa_4_112 wa_1_1 wa_4_113) rfl rfl rfl (by decide +kernel) ⟨Nat.le_of_ble_eq_true rfl, Nat.le_of_ble_eq_true rfl⟩) ⟨mm_B_blind, ev_recv hK hM (ci := 9) rfl hkx rfl, fun U hU hW => ⟨rfl, mm_B_of hK hZ hM hU hW⟩⟩ rfl rfl hl.1 rfl (lv_room (Nat.le_of_ble_eq_true rfl)) dL_law_1226 ⟨Nat.le_of_ble_eq_true rfl, Nat.le_of_ble_eq_true rfl⟩) hM (fun H locs hM => ?_)
        refine lv_aload_n hx hb dL_law_1229 rfl (lv_at hl 2 rfl) ?_
        refine lv_aload_n hx hb dL_law_1230 rfl (lv_at hl 0 rfl) ?_
        refine lv_iload_n hx hb dL_law_1231 rfl (lv_at hl 3 rfl) ?_
        refine lv_iconst (v := (1 : Int32)) hx hb dL_law_1232 (by decide) ?_
        refine lv_iadd hx hb dL_law_1233 ?_
        refine va_sld hx hb hX hbl hbA hM.2.2.2 (lw_ix 1 ev3 (by omega) hL) dL_law_1234 ?_
        refine ev_calli (va_runV (As := [.int (xs (v3 + (1 : Int32)).toNatClampNeg)]) (rest := [.int u0]) S (c_X10_count (l := l) I P (bb + 126) (xs (v3 + (1 : Int32)).toNatClampNeg) u1 eu1) (cwV 1 hts (gi_vl wa_6_50 wa_6_51 wa_6_52 wa_1_11 wa_6_53) rfl rfl rfl (by decide +kernel) ⟨Nat.le_of_ble_eq_true rfl, Nat.le_of_ble_eq_true rfl⟩) ⟨mm_B_blind, ev_recv hK hM (ci := 10) rfl hkm rfl, fun U hU hW => ⟨rfl, mm_B_of hK hZ hM hU hW⟩⟩ rfl rfl hl.1 rfl (lv_room (Nat.le_of_ble_eq_true rfl)) dL_law_1235 ⟨Nat.le_of_ble_eq_true rfl, Nat.le_of_ble_eq_true rfl⟩) hM (fun H locs hM => ?_)
        refine lv_icmp_eq (tgt := 1392) hx hb dL_law_1238 (by decide) (fun _ => ?_) (fun h => absurd hrr h)
        exact kc _ _ _ _ _ hM hR1 hl
      | 27, _, ej =>
        refine lv_tableIn (off := 1210) (tgt := 1243) hx hb dL_law_33 (by rw [ej]; decide) (by rw [ej]; decide) (by rw [ej]; rfl) (by decide) ?_
        refine lv_aload_n hx hb dL_law_1243 rfl (lv_at hl 1 rfl) ?_
        refine lv_aload_n hx hb dL_law_1244 rfl (lv_at hl 0 rfl) ?_
        refine lv_iload_n hx hb dL_law_1245 rfl (lv_at hl 3 rfl) ?_
        refine lv_iconst (v := (1 : Int32)) hx hb dL_law_1246 (by decide) ?_
        refine lv_iadd hx hb dL_law_1247 ?_
        refine va_sld hx hb hX hbl hbA hM.2.2.2 (lw_ix 1 ev3 (by omega) hL) dL_law_1248 ?_
        refine lv_aload_n hx hb dL_law_1249 rfl (lv_at hl 0 rfl) ?_
        refine lv_iload_n hx hb dL_law_1250 rfl (lv_at hl 3 rfl) ?_
        refine lv_iconst (v := (2 : Int32)) hx hb dL_law_1251 (by decide) ?_
        refine lv_iadd hx hb dL_law_1252 ?_
        refine va_sld hx hb hX hbl hbA hM.2.2.2 (lw_ix 2 ev3 (by omega) hL) dL_law_1253 ?_
        refine lv_aload_n hx hb dL_law_1254 rfl (lv_at hl 0 rfl) ?_
        refine lv_iload_n hx hb dL_law_1255 rfl (lv_at hl 3 rfl) ?_
        refine lv_iconst (v := (3 : Int32)) hx hb dL_law_1256 (by decide) ?_
        refine lv_iadd hx hb dL_law_1257 ?_
        refine va_sld hx hb hX hbl hbA hM.2.2.2 (lw_ix 3 ev3 (by omega) hL) dL_law_1258 ?_
        obtain ⟨u0, eu0, u1, eu1, hrr, hR1⟩ := h_sheet I P (xs (v3 + (1 : Int32)).toNatClampNeg) (xs (v3 + (2 : Int32)).toNatClampNeg) (xs (v3 + (3 : Int32)).toNatClampNeg) hR
        refine ev_calli (va_runV (As := [.int (xs (v3 + (1 : Int32)).toNatClampNeg), .int (xs (v3 + (2 : Int32)).toNatClampNeg), .int (xs (v3 + (3 : Int32)).toNatClampNeg)]) (rest := []) S (c_X9_sheet (l := l) I P bb (xs (v3 + (1 : Int32)).toNatClampNeg) (xs (v3 + (2 : Int32)).toNatClampNeg) (xs (v3 + (3 : Int32)).toNatClampNeg) u0 eu0) (cwV 3 hts (gi_vl wa_4_118 wa_4_119 wa_4_120 wa_1_1 wa_4_121) rfl rfl rfl (by decide +kernel) ⟨Nat.le_of_ble_eq_true rfl, Nat.le_of_ble_eq_true rfl⟩) ⟨mm_B_blind, ev_recv hK hM (ci := 9) rfl hkx rfl, fun U hU hW => ⟨rfl, mm_B_of hK hZ hM hU hW⟩⟩ rfl rfl hl.1 rfl (lv_room (Nat.le_of_ble_eq_true rfl)) dL_law_1259 ⟨Nat.le_of_ble_eq_true rfl, Nat.le_of_ble_eq_true rfl⟩) hM (fun H locs hM => ?_)
        refine lv_aload_n hx hb dL_law_1262 rfl (lv_at hl 2 rfl) ?_
        refine lv_aload_n hx hb dL_law_1263 rfl (lv_at hl 0 rfl) ?_
        refine lv_iload_n hx hb dL_law_1264 rfl (lv_at hl 3 rfl) ?_
        refine lv_iconst (v := (1 : Int32)) hx hb dL_law_1265 (by decide) ?_
        refine lv_iadd hx hb dL_law_1266 ?_
        refine va_sld hx hb hX hbl hbA hM.2.2.2 (lw_ix 1 ev3 (by omega) hL) dL_law_1267 ?_
        refine lv_aload_n hx hb dL_law_1268 rfl (lv_at hl 0 rfl) ?_
        refine lv_iload_n hx hb dL_law_1269 rfl (lv_at hl 3 rfl) ?_
        refine lv_iconst (v := (2 : Int32)) hx hb dL_law_1270 (by decide) ?_
        refine lv_iadd hx hb dL_law_1271 ?_
        refine va_sld hx hb hX hbl hbA hM.2.2.2 (lw_ix 2 ev3 (by omega) hL) dL_law_1272 ?_
        refine lv_aload_n hx hb dL_law_1273 rfl (lv_at hl 0 rfl) ?_
        refine lv_iload_n hx hb dL_law_1274 rfl (lv_at hl 3 rfl) ?_
        refine lv_iconst (v := (3 : Int32)) hx hb dL_law_1275 (by decide) ?_
        refine lv_iadd hx hb dL_law_1276 ?_
        refine va_sld hx hb hX hbl hbA hM.2.2.2 (lw_ix 3 ev3 (by omega) hL) dL_law_1277 ?_
        refine ev_calli (va_runV (As := [.int (xs (v3 + (1 : Int32)).toNatClampNeg), .int (xs (v3 + (2 : Int32)).toNatClampNeg), .int (xs (v3 + (3 : Int32)).toNatClampNeg)]) (rest := [.int u0.1]) S (c_X10_sheet (l := l) u0.2 P (bb + 126) (xs (v3 + (1 : Int32)).toNatClampNeg) (xs (v3 + (2 : Int32)).toNatClampNeg) (xs (v3 + (3 : Int32)).toNatClampNeg) u1 eu1) (cwV 3 hts (gi_vl wa_6_26 wa_6_27 wa_6_28 wa_1_11 wa_6_29) rfl rfl rfl (by decide +kernel) ⟨Nat.le_of_ble_eq_true rfl, Nat.le_of_ble_eq_true rfl⟩) ⟨mm_B_blind, ev_recv hK hM (ci := 10) rfl hkm rfl, fun U hU hW => ⟨rfl, mm_B_of hK hZ hM hU hW⟩⟩ rfl rfl hl.1 rfl (lv_room (Nat.le_of_ble_eq_true rfl)) dL_law_1278 ⟨Nat.le_of_ble_eq_true rfl, Nat.le_of_ble_eq_true rfl⟩) hM (fun H locs hM => ?_)
        refine lv_icmp_eq (tgt := 1392) hx hb dL_law_1281 (by decide) (fun _ => ?_) (fun h => absurd hrr h)
        exact kc _ _ _ _ _ hM hR1 hl
      | 28, _, ej =>
        refine lv_tableIn (off := 1253) (tgt := 1286) hx hb dL_law_33 (by rw [ej]; decide) (by rw [ej]; decide) (by rw [ej]; rfl) (by decide) ?_
        refine lv_aload_n hx hb dL_law_1286 rfl (lv_at hl 1 rfl) ?_
        refine lv_aload_n hx hb dL_law_1287 rfl (lv_at hl 0 rfl) ?_
        refine lv_iload_n hx hb dL_law_1288 rfl (lv_at hl 3 rfl) ?_
        refine lv_iconst (v := (1 : Int32)) hx hb dL_law_1289 (by decide) ?_
        refine lv_iadd hx hb dL_law_1290 ?_
        refine va_sld hx hb hX hbl hbA hM.2.2.2 (lw_ix 1 ev3 (by omega) hL) dL_law_1291 ?_
        refine lv_aload_n hx hb dL_law_1292 rfl (lv_at hl 0 rfl) ?_
        refine lv_iload_n hx hb dL_law_1293 rfl (lv_at hl 3 rfl) ?_
        refine lv_iconst (v := (2 : Int32)) hx hb dL_law_1294 (by decide) ?_
        refine lv_iadd hx hb dL_law_1295 ?_
        refine va_sld hx hb hX hbl hbA hM.2.2.2 (lw_ix 2 ev3 (by omega) hL) dL_law_1296 ?_
        refine lv_aload_n hx hb dL_law_1297 rfl (lv_at hl 0 rfl) ?_
        refine lv_iload_n hx hb dL_law_1298 rfl (lv_at hl 3 rfl) ?_
        refine lv_iconst (v := (3 : Int32)) hx hb dL_law_1299 (by decide) ?_
        refine lv_iadd hx hb dL_law_1300 ?_
        refine va_sld hx hb hX hbl hbA hM.2.2.2 (lw_ix 3 ev3 (by omega) hL) dL_law_1301 ?_
        obtain ⟨u0, eu0, u1, eu1, hrr, hR1⟩ := h_put I P (xs (v3 + (1 : Int32)).toNatClampNeg) (xs (v3 + (2 : Int32)).toNatClampNeg) (xs (v3 + (3 : Int32)).toNatClampNeg) hR
        refine ev_calli (va_runV (As := [.int (xs (v3 + (1 : Int32)).toNatClampNeg), .int (xs (v3 + (2 : Int32)).toNatClampNeg), .int (xs (v3 + (3 : Int32)).toNatClampNeg)]) (rest := []) S (c_X9_put (l := l) I P bb (xs (v3 + (1 : Int32)).toNatClampNeg) (xs (v3 + (2 : Int32)).toNatClampNeg) (xs (v3 + (3 : Int32)).toNatClampNeg) u0 eu0) (cwV 3 hts (gi_vl wa_4_122 wa_4_123 wa_4_124 wa_1_1 wa_4_125) rfl rfl rfl (by decide +kernel) ⟨Nat.le_of_ble_eq_true rfl, Nat.le_of_ble_eq_true rfl⟩) ⟨mm_B_blind, ev_recv hK hM (ci := 9) rfl hkx rfl, fun U hU hW => ⟨rfl, mm_B_of hK hZ hM hU hW⟩⟩ rfl rfl hl.1 rfl (lv_room (Nat.le_of_ble_eq_true rfl)) dL_law_1302 ⟨Nat.le_of_ble_eq_true rfl, Nat.le_of_ble_eq_true rfl⟩) hM (fun H locs hM => ?_)
        refine lv_aload_n hx hb dL_law_1305 rfl (lv_at hl 2 rfl) ?_
        refine lv_aload_n hx hb dL_law_1306 rfl (lv_at hl 0 rfl) ?_
        refine lv_iload_n hx hb dL_law_1307 rfl (lv_at hl 3 rfl) ?_
        refine lv_iconst (v := (1 : Int32)) hx hb dL_law_1308 (by decide) ?_
        refine lv_iadd hx hb dL_law_1309 ?_
        refine va_sld hx hb hX hbl hbA hM.2.2.2 (lw_ix 1 ev3 (by omega) hL) dL_law_1310 ?_
        refine lv_aload_n hx hb dL_law_1311 rfl (lv_at hl 0 rfl) ?_
        refine lv_iload_n hx hb dL_law_1312 rfl (lv_at hl 3 rfl) ?_
        refine lv_iconst (v := (2 : Int32)) hx hb dL_law_1313 (by decide) ?_
        refine lv_iadd hx hb dL_law_1314 ?_
        refine va_sld hx hb hX hbl hbA hM.2.2.2 (lw_ix 2 ev3 (by omega) hL) dL_law_1315 ?_
        refine lv_aload_n hx hb dL_law_1316 rfl (lv_at hl 0 rfl) ?_
        refine lv_iload_n hx hb dL_law_1317 rfl (lv_at hl 3 rfl) ?_
        refine lv_iconst (v := (3 : Int32)) hx hb dL_law_1318 (by decide) ?_
        refine lv_iadd hx hb dL_law_1319 ?_
        refine va_sld hx hb hX hbl hbA hM.2.2.2 (lw_ix 3 ev3 (by omega) hL) dL_law_1320 ?_
        refine ev_calli (va_runV (As := [.int (xs (v3 + (1 : Int32)).toNatClampNeg), .int (xs (v3 + (2 : Int32)).toNatClampNeg), .int (xs (v3 + (3 : Int32)).toNatClampNeg)]) (rest := [.int u0.1]) S (c_X10_put (l := l) u0.2 P (bb + 126) (xs (v3 + (1 : Int32)).toNatClampNeg) (xs (v3 + (2 : Int32)).toNatClampNeg) (xs (v3 + (3 : Int32)).toNatClampNeg) u1 eu1) (cwV 3 hts (gi_vl wa_6_30 wa_6_31 wa_6_32 wa_1_11 wa_6_33) rfl rfl rfl (by decide +kernel) ⟨Nat.le_of_ble_eq_true rfl, Nat.le_of_ble_eq_true rfl⟩) ⟨mm_B_blind, ev_recv hK hM (ci := 10) rfl hkm rfl, fun U hU hW => ⟨rfl, mm_B_of hK hZ hM hU hW⟩⟩ rfl rfl hl.1 rfl (lv_room (Nat.le_of_ble_eq_true rfl)) dL_law_1321 ⟨Nat.le_of_ble_eq_true rfl, Nat.le_of_ble_eq_true rfl⟩) hM (fun H locs hM => ?_)
        refine lv_icmp_eq (tgt := 1392) hx hb dL_law_1324 (by decide) (fun _ => ?_) (fun h => absurd hrr h)
        exact kc _ _ _ _ _ hM hR1 hl
      | 29, _, ej =>
        refine lv_tableIn (off := 1296) (tgt := 1329) hx hb dL_law_33 (by rw [ej]; decide) (by rw [ej]; decide) (by rw [ej]; rfl) (by decide) ?_
        refine lv_aload_n hx hb dL_law_1329 rfl (lv_at hl 1 rfl) ?_
        refine lv_aload_n hx hb dL_law_1330 rfl (lv_at hl 0 rfl) ?_
        refine lv_iload_n hx hb dL_law_1331 rfl (lv_at hl 3 rfl) ?_
        refine lv_iconst (v := (1 : Int32)) hx hb dL_law_1332 (by decide) ?_
        refine lv_iadd hx hb dL_law_1333 ?_
        refine va_sld hx hb hX hbl hbA hM.2.2.2 (lw_ix 1 ev3 (by omega) hL) dL_law_1334 ?_
        refine lv_aload_n hx hb dL_law_1335 rfl (lv_at hl 0 rfl) ?_
        refine lv_iload_n hx hb dL_law_1336 rfl (lv_at hl 3 rfl) ?_
        refine lv_iconst (v := (2 : Int32)) hx hb dL_law_1337 (by decide) ?_
        refine lv_iadd hx hb dL_law_1338 ?_
        refine va_sld hx hb hX hbl hbA hM.2.2.2 (lw_ix 2 ev3 (by omega) hL) dL_law_1339 ?_
        refine lv_aload_n hx hb dL_law_1340 rfl (lv_at hl 0 rfl) ?_
        refine lv_iload_n hx hb dL_law_1341 rfl (lv_at hl 3 rfl) ?_
        refine lv_iconst (v := (3 : Int32)) hx hb dL_law_1342 (by decide) ?_
        refine lv_iadd hx hb dL_law_1343 ?_
        refine va_sld hx hb hX hbl hbA hM.2.2.2 (lw_ix 3 ev3 (by omega) hL) dL_law_1344 ?_
        refine lv_aload_n hx hb dL_law_1345 rfl (lv_at hl 0 rfl) ?_
        refine lv_iload_n hx hb dL_law_1346 rfl (lv_at hl 3 rfl) ?_
        refine lv_iconst (v := (4 : Int32)) hx hb dL_law_1347 (by decide) ?_
        refine lv_iadd hx hb dL_law_1348 ?_
        refine va_sld hx hb hX hbl hbA hM.2.2.2 (lw_ix 4 ev3 (by omega) hL) dL_law_1349 ?_
        refine lv_aload_n hx hb dL_law_1350 rfl (lv_at hl 0 rfl) ?_
        refine lv_iload_n hx hb dL_law_1351 rfl (lv_at hl 3 rfl) ?_
        refine lv_iconst (v := (5 : Int32)) hx hb dL_law_1352 (by decide) ?_
        refine lv_iadd hx hb dL_law_1353 ?_
        refine va_sld hx hb hX hbl hbA hM.2.2.2 (lw_ix 5 ev3 (by omega) hL) dL_law_1354 ?_
        obtain ⟨u0, eu0, u1, eu1, hrr, hR1⟩ := h_copy I P (xs (v3 + (1 : Int32)).toNatClampNeg) (xs (v3 + (2 : Int32)).toNatClampNeg) (xs (v3 + (3 : Int32)).toNatClampNeg) (xs (v3 + (4 : Int32)).toNatClampNeg) (xs (v3 + (5 : Int32)).toNatClampNeg) hR
        refine ev_calli (va_runV (As := [.int (xs (v3 + (1 : Int32)).toNatClampNeg), .int (xs (v3 + (2 : Int32)).toNatClampNeg), .int (xs (v3 + (3 : Int32)).toNatClampNeg), .int (xs (v3 + (4 : Int32)).toNatClampNeg), .int (xs (v3 + (5 : Int32)).toNatClampNeg)]) (rest := []) S (c_X9_copy (l := l) I P bb (xs (v3 + (1 : Int32)).toNatClampNeg) (xs (v3 + (2 : Int32)).toNatClampNeg) (xs (v3 + (3 : Int32)).toNatClampNeg) (xs (v3 + (4 : Int32)).toNatClampNeg) (xs (v3 + (5 : Int32)).toNatClampNeg) u0 eu0) (cwV 5 hts (gi_vl wa_4_126 wa_4_127 wa_4_128 wa_1_1 wa_4_129) rfl rfl rfl (by decide +kernel) ⟨Nat.le_of_ble_eq_true rfl, Nat.le_of_ble_eq_true rfl⟩) ⟨mm_B_blind, ev_recv hK hM (ci := 9) rfl hkx rfl, fun U hU hW => ⟨rfl, mm_B_of hK hZ hM hU hW⟩⟩ rfl rfl hl.1 rfl (lv_room (Nat.le_of_ble_eq_true rfl)) dL_law_1355 ⟨Nat.le_of_ble_eq_true rfl, Nat.le_of_ble_eq_true rfl⟩) hM (fun H locs hM => ?_)
        refine lv_aload_n hx hb dL_law_1358 rfl (lv_at hl 2 rfl) ?_
        refine lv_aload_n hx hb dL_law_1359 rfl (lv_at hl 0 rfl) ?_
        refine lv_iload_n hx hb dL_law_1360 rfl (lv_at hl 3 rfl) ?_
        refine lv_iconst (v := (1 : Int32)) hx hb dL_law_1361 (by decide) ?_
        refine lv_iadd hx hb dL_law_1362 ?_
        refine va_sld hx hb hX hbl hbA hM.2.2.2 (lw_ix 1 ev3 (by omega) hL) dL_law_1363 ?_
        refine lv_aload_n hx hb dL_law_1364 rfl (lv_at hl 0 rfl) ?_
        refine lv_iload_n hx hb dL_law_1365 rfl (lv_at hl 3 rfl) ?_
        refine lv_iconst (v := (2 : Int32)) hx hb dL_law_1366 (by decide) ?_
        refine lv_iadd hx hb dL_law_1367 ?_
        refine va_sld hx hb hX hbl hbA hM.2.2.2 (lw_ix 2 ev3 (by omega) hL) dL_law_1368 ?_
        refine lv_aload_n hx hb dL_law_1369 rfl (lv_at hl 0 rfl) ?_
        refine lv_iload_n hx hb dL_law_1370 rfl (lv_at hl 3 rfl) ?_
        refine lv_iconst (v := (3 : Int32)) hx hb dL_law_1371 (by decide) ?_
        refine lv_iadd hx hb dL_law_1372 ?_
        refine va_sld hx hb hX hbl hbA hM.2.2.2 (lw_ix 3 ev3 (by omega) hL) dL_law_1373 ?_
        refine lv_aload_n hx hb dL_law_1374 rfl (lv_at hl 0 rfl) ?_
        refine lv_iload_n hx hb dL_law_1375 rfl (lv_at hl 3 rfl) ?_
        refine lv_iconst (v := (4 : Int32)) hx hb dL_law_1376 (by decide) ?_
        refine lv_iadd hx hb dL_law_1377 ?_
        refine va_sld hx hb hX hbl hbA hM.2.2.2 (lw_ix 4 ev3 (by omega) hL) dL_law_1378 ?_
        refine lv_aload_n hx hb dL_law_1379 rfl (lv_at hl 0 rfl) ?_
        refine lv_iload_n hx hb dL_law_1380 rfl (lv_at hl 3 rfl) ?_
        refine lv_iconst (v := (5 : Int32)) hx hb dL_law_1381 (by decide) ?_
        refine lv_iadd hx hb dL_law_1382 ?_
        refine va_sld hx hb hX hbl hbA hM.2.2.2 (lw_ix 5 ev3 (by omega) hL) dL_law_1383 ?_
        refine ev_calli (va_runV (As := [.int (xs (v3 + (1 : Int32)).toNatClampNeg), .int (xs (v3 + (2 : Int32)).toNatClampNeg), .int (xs (v3 + (3 : Int32)).toNatClampNeg), .int (xs (v3 + (4 : Int32)).toNatClampNeg), .int (xs (v3 + (5 : Int32)).toNatClampNeg)]) (rest := [.int u0.1]) S (c_X10_copy (l := l) u0.2 P (bb + 126) (xs (v3 + (1 : Int32)).toNatClampNeg) (xs (v3 + (2 : Int32)).toNatClampNeg) (xs (v3 + (3 : Int32)).toNatClampNeg) (xs (v3 + (4 : Int32)).toNatClampNeg) (xs (v3 + (5 : Int32)).toNatClampNeg) u1 eu1) (cwV 5 hts (gi_vl wa_6_38 wa_6_39 wa_6_40 wa_1_11 wa_6_41) rfl rfl rfl (by decide +kernel) ⟨Nat.le_of_ble_eq_true rfl, Nat.le_of_ble_eq_true rfl⟩) ⟨mm_B_blind, ev_recv hK hM (ci := 10) rfl hkm rfl, fun U hU hW => ⟨rfl, mm_B_of hK hZ hM hU hW⟩⟩ rfl rfl hl.1 rfl (lv_room (Nat.le_of_ble_eq_true rfl)) dL_law_1384 ⟨Nat.le_of_ble_eq_true rfl, Nat.le_of_ble_eq_true rfl⟩) hM (fun H locs hM => ?_)
        refine lv_icmp_eq (tgt := 1392) hx hb dL_law_1387 (by decide) (fun _ => ?_) (fun h => absurd hrr h)
        exact kc _ _ _ _ _ hM hR1 hl
      | 30, _, ej =>
        refine lv_tableOut (tgt := 1392) hx hb dL_law_33 (Or.inr (by rw [ej]; decide)) (by decide) ?_
        exact kc _ _ _ _ _ hM hR hl
      | 31, _, ej =>
        refine lv_tableOut (tgt := 1392) hx hb dL_law_33 (Or.inr (by rw [ej]; decide)) (by decide) ?_
        exact kc _ _ _ _ _ hM hR hl
      | j + 32, hj, _ => exact absurd hj (by omega)
