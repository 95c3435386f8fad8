/-! what is read depends on the fed bytes alone -/
def Ag (fed : Nat) (f g : Nat → Int32) : Prop := ∀ j, j < fed → f j = g j
theorem skp_cong {pr : Int32 → Prop} {f g : Nat → Int32} : ∀ k p, (∀ j, p ≤ j → j < p + k → f j = g j) → skp pr f k p = skp pr g k p
  | 0, _, _ => rfl
  | k + 1, p, h => by
    have h0 := h p (Nat.le_refl _) (by omega)
    have ih := skp_cong (pr := pr) k (p + 1) (fun j h1 h2 => h j (by omega) (by omega))
    by_cases c : pr (f p)
    · rw [skp_t c, skp_t (by rw [← h0]; exact c), ih]
    · rw [skp_f c, skp_f (by rw [← h0]; exact c)]
theorem sP_cong {f g : Nat → Int32} {fed p : Nat} (h : Ag fed f g) (hp : p ≤ fed) : sP f fed p = sP g fed p := skp_cong _ _ (fun j _ h2 => h j (by omega))
theorem eP_cong {f g : Nat → Int32} {fed p : Nat} (h : Ag fed f g) (hp : p ≤ fed) : eP f fed p = eP g fed p := by
  obtain ⟨a1, a2⟩ := sP_ok (f := g) hp
  have e1 : eL f fed (sP g fed p) = eL g fed (sP g fed p) := skp_cong _ _ (fun j _ h2 => h j (by omega))
  have e2 : eD f fed (sP g fed p) = eD g fed (sP g fed p) := skp_cong _ _ (fun j _ h2 => h j (by omega))
  unfold eP
  rw [sP_cong h hp, e1, e2]
theorem Wd_cong {f g : Nat → Int32} {fed s e w : Nat} (h : Ag fed f g) (he : e ≤ fed) : Wd f s e w ↔ Wd g s e w := by
  unfold Wd isW
  constructor
  · rintro ⟨h1, h2⟩
    exact ⟨h1, fun i hi => by rw [← h (s + i) (by omega)]; exact h2 i hi⟩
  · rintro ⟨h1, h2⟩
    exact ⟨h1, fun i hi => by rw [h (s + i) (by omega)]; exact h2 i hi⟩
theorem wk_cong {f g : Nat → Int32} {fed s e : Nat} (h : Ag fed f g) (he : e ≤ fed) : wk f s e = wk g s e := by
  unfold wk
  rw [propext (Wd_cong (s := s) (w := 0) h he), propext (Wd_cong (s := s) (w := 1) h he), propext (Wd_cong (s := s) (w := 2) h he), propext (Wd_cong (s := s) (w := 3) h he), propext (Wd_cong (s := s) (w := 4) h he)]
theorem kdP_cong {f g : Nat → Int32} {fed p : Nat} (h : Ag fed f g) (hp : p ≤ fed) : kdP f fed p = kdP g fed p := by
  obtain ⟨a1, a2⟩ := sP_ok (f := g) hp
  obtain ⟨b1, b2⟩ := eP_ok (f := g) hp
  have e1 := sP_cong h hp
  have e2 := eP_cong h hp
  by_cases c : sP g fed p = fed
  · rw [kdP_0 c, kdP_0 (by rw [e1]; exact c)]
  · have hf : f (sP f fed p) = g (sP g fed p) := by rw [e1]; exact h _ (by omega)
    by_cases d : dgt (g (sP g fed p))
    · rw [kdP_d c d, kdP_d (by rw [e1]; exact c) (by rw [hf]; exact d), e1, e2]
    · rw [kdP_w c d, kdP_w (by rw [e1]; exact c) (by rw [hf]; exact d), e1, e2]
      exact wk_cong h b2
theorem nv_cong {f g : Nat → Int32} {fed p : Nat} (h : Ag fed f g) (hp : p ≤ fed) (hs : sP f fed p < fed) (hd : dgt (f (sP f fed p))) : nvA f fed p = nvA g fed p := by
  obtain ⟨k1, k2⟩ := eP_dgt hp hs hd
  obtain ⟨b1, b2⟩ := eP_ok (f := f) hp
  unfold nvA
  rw [← sP_cong h hp, ← eP_cong h hp]
  unfold nv
  rw [h (sP f fed p) hs]
  by_cases c : eP f fed p - sP f fed p = 1
  · rw [if_pos c, if_pos c]
  · rw [if_neg c, if_neg c, h (sP f fed p + 1) (by omega)]
theorem Ag.symm {fed : Nat} {f g : Nat → Int32} (h : Ag fed f g) : Ag fed g f := fun j hj => (h j hj).symm
theorem isNum_co1 {f g : Nat → Int32} {fed p lim : Nat} (h : Ag fed f g) (hp : p ≤ fed) (hn : isNum f fed p lim) : isNum g fed p lim := by
  obtain ⟨h1, h2, h3, h4⟩ := hn
  have hv := nv_cong h hp h1 h2
  have h4 : nvA f fed p < lim := h4
  rw [hv] at h4
  have e1 := sP_cong h hp
  have e2 := eP_cong h hp
  refine ⟨by rw [← e1]; exact h1, ?_, by rw [← e1, ← e2]; exact h3, h4⟩
  rw [← e1, ← h _ h1]; exact h2
theorem isNum_cong {f g : Nat → Int32} {fed p lim : Nat} (h : Ag fed f g) (hp : p ≤ fed) : isNum f fed p lim ↔ isNum g fed p lim := ⟨isNum_co1 h hp, isNum_co1 h.symm hp⟩
theorem plP_cong {f g : Nat → Int32} {fed e : Nat} (h : Ag fed f g) (he : e ≤ fed) : plP f fed e = plP g fed e := by
  obtain ⟨b1, b2⟩ := eP_ok (f := g) he
  have c1 := eP_cong h he
  unfold plP
  by_cases c : isNum g fed e 16
  · have d := (isNum_cong h he).mpr c
    rw [if_pos c, if_pos d, c1]
    by_cases c2 : isNum g fed (eP g fed e) 12
    · have d2 := (isNum_cong h b2).mpr c2
      rw [if_pos c2, if_pos d2, eP_cong h b2, nv_cong h he d.1 d.2.1, nv_cong h b2 d2.1 d2.2.1]
    · rw [if_neg c2, if_neg (fun q => c2 ((isNum_cong h b2).mp q)), sP_cong h b2]
  · rw [if_neg c, if_neg (fun q => c ((isNum_cong h he).mp q)), sP_cong h he]
theorem acP_cong {f g : Nat → Int32} {fed e y : Nat} (h : Ag fed f g) (he : e ≤ fed) : acP f fed e y = acP g fed e y := by
  unfold acP
  by_cases c : isNum g fed e 16
  · have d := (isNum_cong h he).mpr c
    rw [if_pos c, if_pos d, eP_cong h he, nv_cong h he d.1 d.2.1]
  · rw [if_neg c, if_neg (fun q => c ((isNum_cong h he).mp q)), sP_cong h he]
theorem dnP_cong {f g : Nat → Int32} {fed e x : Nat} (h : Ag fed f g) (he : e ≤ fed) : dnP f fed e x = dnP g fed e x := by
  unfold dnP
  by_cases c : isNum g fed e 12
  · have d := (isNum_cong h he).mpr c
    rw [if_pos c, if_pos d, eP_cong h he, nv_cong h he d.1 d.2.1]
  · rw [if_neg c, if_neg (fun q => c ((isNum_cong h he).mp q)), sP_cong h he]
theorem nxP_cong {f g : Nat → Int32} {fed x0 y0 p x y : Nat} (h : Ag fed f g) (hp : p ≤ fed) : nxP f fed x0 y0 p x y = nxP g fed x0 y0 p x y := by
  obtain ⟨b1, b2⟩ := eP_ok (f := g) hp
  unfold nxP
  rw [kdP_cong h hp, eP_cong h hp, sP_cong h hp, plP_cong h b2, acP_cong h b2, dnP_cong h b2]
theorem fsP_cong {f g : Nat → Int32} {fed : Nat} (h : Ag fed f g) : fsP f fed = fsP g fed := by
  obtain ⟨b1, b2⟩ := eP_ok (f := g) (Nat.zero_le fed)
  unfold fsP
  rw [kdP_cong h (Nat.zero_le fed), eP_cong h (Nat.zero_le fed), sP_cong h (Nat.zero_le fed), plP_cong h b2]
theorem stN_cong {f g : Nat → Int32} {fed : Nat} (h : Ag fed f g) (h1 : (fsP f fed).1 = 1) : ∀ n, (∀ i, i < n → cdN f fed i = 1) → (∀ i, i ≤ n → stN f fed i = stN g fed i) ∧ ∀ i, i ≤ n → cdN f fed i = cdN g fed i ∧ stN f fed (i + 1) = stN g fed (i + 1) := by
  have base : ∀ n, (∀ i, i < n → cdN f fed i = 1) → stN f fed n = stN g fed n := by
    intro n
    induction n with
    | zero => intro _; show (fsP f fed).2 = (fsP g fed).2; rw [fsP_cong h]
    | succ n ih =>
      intro hc
      have e := ih (fun i hi => hc i (by omega))
      obtain ⟨i1, i2, i3, i4⟩ := stN_ok h1 n (fun i hi => hc i (by omega))
      show (nxP f fed (fsP f fed).2.2.1 (fsP f fed).2.2.2 (stN f fed n).1 (stN f fed n).2.1 (stN f fed n).2.2).2 = (nxP g fed (fsP g fed).2.2.1 (fsP g fed).2.2.2 (stN g fed n).1 (stN g fed n).2.1 (stN g fed n).2.2).2
      rw [nxP_cong h i2, fsP_cong h, e]
  intro n hc
  refine ⟨fun i hi => base i (fun j hj => hc j (by omega)), fun i hi => ?_⟩
  have e := base i (fun j hj => hc j (by omega))
  obtain ⟨i1, i2, i3, i4⟩ := stN_ok h1 i (fun j hj => hc j (by omega))
  have e2 : nxP f fed (fsP f fed).2.2.1 (fsP f fed).2.2.2 (stN f fed i).1 (stN f fed i).2.1 (stN f fed i).2.2 = nxP g fed (fsP g fed).2.2.1 (fsP g fed).2.2.2 (stN g fed i).1 (stN g fed i).2.1 (stN g fed i).2.2 := by
    rw [nxP_cong h i2, fsP_cong h, e]
  constructor
  · show (nxP f fed (fsP f fed).2.2.1 (fsP f fed).2.2.2 (stN f fed i).1 (stN f fed i).2.1 (stN f fed i).2.2).1 = (nxP g fed (fsP g fed).2.2.1 (fsP g fed).2.2.2 (stN g fed i).1 (stN g fed i).2.1 (stN g fed i).2.2).1
    rw [e2]
  · show (nxP f fed (fsP f fed).2.2.1 (fsP f fed).2.2.2 (stN f fed i).1 (stN f fed i).2.1 (stN f fed i).2.2).2 = (nxP g fed (fsP g fed).2.2.1 (fsP g fed).2.2.2 (stN g fed i).1 (stN g fed i).2.1 (stN g fed i).2.2).2
    rw [e2]
