/-- one of the first n dots beside d holds v -/
def hasN (f : Nat → Int32) (v : Int32) (d n : Nat) : Prop := ∃ k, k < n ∧ ∃ e, nbr d k = some e ∧ f e = v
theorem hasN_s (f : Nat → Int32) (v : Int32) (d n : Nat) : hasN f v d (n + 1) ↔ hasN f v d n ∨ ∃ e, nbr d n = some e ∧ f e = v := by
  constructor
  · rintro ⟨k, hk, e, h⟩
    by_cases hkn : k = n
    · subst hkn; exact Or.inr ⟨e, h⟩
    · exact Or.inl ⟨k, by omega, e, h⟩
  · rintro (⟨k, hk, e, h⟩ | ⟨e, h⟩)
    · exact ⟨k, by omega, e, h⟩
    · exact ⟨n, by omega, e, h⟩
theorem e_hasBeside {K N : Nat → Nat} {I : Nat → Nat → Int32} {P : Nat → Nat → Option Nat} {m d : Nat} (v : Int32) (hM : ModSh K N P m) (hd : d < 192) : fn_X10_hasBeside K N I P m (nI d) v = some (bI (hasN (fun e => I (m + 1) (1556 + e)) v d 4)) := by
  have key := loop_ok (F := fun f k s => fn_X10_hasBeside_L5 K N m (nI d) v I P f s (nI k)) 4 (fun k s => s = bI (hasN (fun e => I (m + 1) (1556 + e)) v d k)) (fun r => r = bI (hasN (fun e => I (m + 1) (1556 + e)) v d 4))
    (fun f s hs => by
      simp only [fn_X10_hasBeside_L5]
      rw [if_pos (show (4 : Int32) ≤ nI 4 from nI_le (a := 4) (Nat.le_refl _) (by omega))]
      exact ok_some.mpr hs)
    (fun f k s hk hs kk => by
      simp only [fn_X10_hasBeside_L5]
      rw [if_neg (show ¬ (4 : Int32) ≤ nI k from nI_ge (b := 4) hk (by omega)), e_beside hd hk, Option.bind_some]
      have o0 : s ||| (0 : Int32) = s := Int32.or_zero
      have o1 : s ||| (1 : Int32) = 1 := by
        rw [hs]
        by_cases c : hasN (fun e => I (m + 1) (1556 + e)) v d k
        · rw [bI_t c]; rfl
        · rw [bI_f c]; rfl
      cases h : nbr d k with
      | none =>
        have neg : (-1 : Int32) < 0 := by decide
        have c : hasN (fun e => I (m + 1) (1556 + e)) v d (k + 1) ↔ hasN (fun e => I (m + 1) (1556 + e)) v d k := by
          rw [hasN_s, h]
          exact ⟨fun e => e.elim id (fun ⟨_, q, _⟩ => by cases q), Or.inl⟩
        simp only [if_pos neg, Option.bind_some, o0, nI_1]
        refine kk _ ?_
        rw [hs]
        by_cases cc : hasN (fun e => I (m + 1) (1556 + e)) v d k
        · rw [bI_t cc, bI_t (c.mpr cc)]
        · rw [bI_f cc, bI_f (fun q => cc (c.mp q))]
      | some e =>
        have he := nbr_lt hd h
        have pos : ¬ nI e < 0 := nI_pos (by omega)
        simp only [if_neg pos, Option.bind_some]
        rw [gd_pos hM.1.1, hM.2.2.1, Option.bind_some, show (1556 : Int32) + nI e = nI (1556 + e) from nI_add 1556 e, gd_pos (vp_g hM (by omega)), nI_clamp (by omega), nI_1, o0, o1]
        by_cases q : I (m + 1) (1556 + e) = v
        · rw [if_pos q]
          exact kk _ (by rw [bI_t]; rw [hasN_s]; exact Or.inr ⟨e, h, q⟩)
        · rw [if_neg q]
          refine kk _ ?_
          have c : hasN (fun e => I (m + 1) (1556 + e)) v d (k + 1) ↔ hasN (fun e => I (m + 1) (1556 + e)) v d k := by
            rw [hasN_s, h]
            exact ⟨fun z => z.elim id (fun ⟨_, q1, q2⟩ => by injection q1 with q1; subst q1; exact absurd q2 q), Or.inl⟩
          rw [hs]
          by_cases cc : hasN (fun e => I (m + 1) (1556 + e)) v d k
          · rw [bI_t cc, bI_t (c.mpr cc)]
          · rw [bI_f cc, bI_f (fun q => cc (c.mp q))])
    FU 0 0 (Nat.zero_le _) (FU_lt (by omega)) (by rw [bI_f]; exact fun ⟨k, hk, _⟩ => absurd hk (by omega))
  obtain ⟨r, h1, h2⟩ := key
  have h1 : fn_X10_hasBeside_L5 K N m (nI d) v I P FU 0 0 = some r := h1
  unfold fn_X10_hasBeside
  rw [h1, Option.bind_some, h2, gd_01]
/-- the class's -/
theorem e_heldAs {K N : Nat → Nat} {I : Nat → Nat → Int32} {P : Nat → Nat → Option Nat} {a d k : Nat} (v : Int32) (hk0 : K a = 13) (hn : N a = 192) (hd : d < 192) (hk : k < 4) (x y : Int32) (hx : x = if k = 0 then nI (d % 16) - 1 else if k = 1 then nI (d % 16) + 1 else nI (d % 16)) (hy : y = if k = 0 then nI (d / 16) else if k = 1 then nI (d / 16) else if k = 2 then nI (d / 16) - 1 else nI (d / 16) + 1) : fn_X3_isHeldAs K N I P a v x y = some (bI (∃ e, nbr d k = some e ∧ I a e = v)) := by
  unfold fn_X3_isHeldAs
  rw [e_isDot]
  rcases nbr_at hd hk x y hx hy with ⟨h1, h2⟩ | ⟨u, w, hu, hw, h1, h2, h3⟩
  · rw [bI_f h2, Option.bind_some, if_pos rfl, bI_f]
    rintro ⟨e, q, _⟩; rw [h1] at q; cases q
  · rw [bI_t ⟨⟨u, hu, h1⟩, ⟨w, hw, h2⟩⟩, Option.bind_some, if_neg (by decide), h1, h2, e_dotAt, Option.bind_some, gd_pos ⟨hk0, by rw [hn]; exact vp_192 (by omega)⟩, nI_clamp (by omega)]
    by_cases q : I a (16 * w + u) = v
    · rw [if_pos q, bI_t ⟨_, h3, q⟩]
    · rw [if_neg q, bI_f]
      rintro ⟨e, q1, q2⟩; rw [h3] at q1; injection q1 with q1; subst q1; exact q q2
theorem e_chooseBeside {K N : Nat → Nat} {I : Nat → Nat → Int32} {P : Nat → Nat → Option Nat} {q a : Nat} (v : Int32) (hC : ChSh K N P q) (hk0 : K a = 13) (hn : N a = 192) (haq : a ≠ q + 1) : ∃ I', fn_X3_chooseBeside K N I P q a v = some I' ∧ (∀ x, x ≠ q + 1 → I' x = I x) ∧ ∀ d, d < 192 → I' (q + 1) d = bI (hasN (fun e => I a e) v d 4) := by
  obtain ⟨k0, k1, n1, -, -, -, -, p0, -⟩ := hC
  have key := loop_ok (F := fun f i s => fn_X3_chooseBeside_L2 K N q a v P f (nI i) s) 192 (fun i s => (∀ x, x ≠ q + 1 → s x = I x) ∧ ∀ d, d < i → s (q + 1) d = bI (hasN (fun e => I a e) v d 4)) (fun s => (∀ x, x ≠ q + 1 → s x = I x) ∧ ∀ d, d < 192 → s (q + 1) d = bI (hasN (fun e => I a e) v d 4))
    (fun f s hs => by
      simp only [fn_X3_chooseBeside_L2]
      rw [if_pos (show (192 : Int32) ≤ nI 192 from nI_le (a := 192) (Nat.le_refl _) (by omega))]
      exact ok_some.mpr hs)
    (fun f d s hd hs kk => by
      simp only [fn_X3_chooseBeside_L2]
      obtain ⟨s1, s2⟩ := hs
      have gq : K (q + 1) = 13 ∧ vp_in (nI d) (N (q + 1)) := ⟨k1, by rw [n1]; exact vp_192 hd⟩
      have e0 := e_heldAs (I := s) (P := P) v hk0 hn hd (show 0 < 4 by omega) (nI (d % 16) - 1) (nI (d / 16)) (by simp) (by simp)
      have e1 := e_heldAs (I := s) (P := P) v hk0 hn hd (show 1 < 4 by omega) (nI (d % 16) + 1) (nI (d / 16)) (by simp) (by simp)
      have e2 := e_heldAs (I := s) (P := P) v hk0 hn hd (show 2 < 4 by omega) (nI (d % 16)) (nI (d / 16) - 1) (by simp) (by simp)
      have e3 := e_heldAs (I := s) (P := P) v hk0 hn hd (show 3 < 4 by omega) (nI (d % 16)) (nI (d / 16) + 1) (by simp) (by simp)
      rw [s1 a haq] at e0 e1 e2 e3
      have fin : ∀ c : Int32, c = bI (hasN (fun e => I a e) v d 4) → ok (fn_X3_chooseBeside_L2 K N q a v P f (nI (d + 1)) (up2 s (q + 1) d c)) (fun s => (∀ x, x ≠ q + 1 → s x = I x) ∧ ∀ d, d < 192 → s (q + 1) d = bI (hasN (fun e => I a e) v d 4)) := by
        intro c hc
        refine kk _ ⟨fun x hx => by rw [up2_o hx]; exact s1 x hx, fun e he => ?_⟩
        by_cases h : e = d
        · subst h; rw [up2_s]; exact hc
        · rw [up2_k h]; exact s2 e (by omega)
      rw [if_neg (show ¬ (192 : Int32) ≤ nI d from nI_ge (b := 192) hd (by omega)), m16 (by omega), d16 (by omega), Option.bind_some, Option.bind_some, gd_pos k0, p0, Option.bind_some, e0, Option.bind_some, nI_clamp (by omega), nI_1 d]
      simp only [gd_pos gq, Option.bind_some, nar_0, nar_1]
      by_cases c0 : ∃ e, nbr d 0 = some e ∧ I a e = v
      · rw [bI_t c0, if_neg (by decide)]
        exact fin 1 (by rw [bI_t]; exact ⟨0, by decide, c0⟩)
      rw [bI_f c0, if_pos rfl, e1, Option.bind_some]
      by_cases c1 : ∃ e, nbr d 1 = some e ∧ I a e = v
      · rw [bI_t c1, if_neg (by decide)]
        exact fin 1 (by rw [bI_t]; exact ⟨1, by decide, c1⟩)
      rw [bI_f c1, if_pos rfl, e2, Option.bind_some]
      by_cases c2 : ∃ e, nbr d 2 = some e ∧ I a e = v
      · rw [bI_t c2, if_neg (by decide)]
        exact fin 1 (by rw [bI_t]; exact ⟨2, by decide, c2⟩)
      rw [bI_f c2, if_pos rfl, e3, Option.bind_some]
      by_cases c3 : ∃ e, nbr d 3 = some e ∧ I a e = v
      · rw [bI_t c3, if_neg (by decide)]
        exact fin 1 (by rw [bI_t]; exact ⟨3, by decide, c3⟩)
      rw [bI_f c3, if_pos rfl]
      refine fin 0 ?_
      rw [bI_f]
      rintro ⟨k, hk, h⟩
      have : k = 0 ∨ k = 1 ∨ k = 2 ∨ k = 3 := by omega
      rcases this with rfl | rfl | rfl | rfl
      · exact c0 h
      · exact c1 h
      · exact c2 h
      · exact c3 h)
    FU 0 I (Nat.zero_le _) (FU_lt (by omega)) ⟨fun _ _ => rfl, fun d hd => absurd hd (by omega)⟩
  obtain ⟨r, h1, h2⟩ := key
  have h1 : fn_X3_chooseBeside_L2 K N q a v P FU 0 I = some r := h1
  refine ⟨r, ?_, h2⟩
  unfold fn_X3_chooseBeside
  rw [h1, Option.bind_some]
