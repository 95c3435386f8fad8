/-! image, back -/
theorem e_picBecome {K N : Nat → Nat} {I : Nat → Nat → Int32} {P : Nat → Nat → Option Nat} {c c' : Nat} {g : Nat → Int32} {cnt kp al : Nat} {σ τ σ' τ' : Nat → Nat} (hP : PicSh K N P c) (hP' : PicSh K N P c') (hd : Apart c c') (hσ : Perm 4 σ) (hτ : Perm 11 τ) (hl : ∀ i, i < 4 → P (c + 1) i = some (c + 40 + 3 * σ i)) (ht : ∀ i, i < 11 → P (c + 6) i = some (c + 7 + 3 * τ i)) (h : PicR I P c' g cnt kp al σ' τ') : ∃ I', fn_X6_become K N I P c c' = some I' ∧ (∀ a, ¬ (c ≤ a ∧ a < c + 52) → I' a = I a) ∧ PicR I' P c g cnt kp al σ τ := by
  obtain ⟨⟨h1, h2, h3⟩, ⟨hσ', hτ', hl', ht'⟩, ⟨hc1, hg0⟩, ⟨hpap, hpap2⟩, hbr, hlays, hmask, ⟨ha1, ha2, ha3, ha4⟩, hacts⟩ := h
  obtain ⟨A, a1, a2, a3⟩ := e_laysBecome (I := I) hP hP' hd hσ hσ' hl hl'
  have hP0 := hP
  have hP0' := hP'
  obtain ⟨⟨k7, k15, n4, k6, k13, n192, k3, k2, k14, n11⟩, ⟨pp0, pp3, pp4, pp5, pm0, pa0⟩, hacsh, hlash⟩ := hP
  obtain ⟨⟨k7', k15', n4', k6', k13', n192', k3', k2', k14', n11'⟩, ⟨pp0', pp3', pp4', pp5', pm0', pa0'⟩, hacsh', hlash'⟩ := hP'
  have hd0 := hd
  unfold Apart at hd
  obtain ⟨B0, hB0⟩ : ∃ B0, B0 = up2 A c 1 (A c' 1) := ⟨_, rfl⟩
  obtain ⟨B, hB⟩ : ∃ B, B = up2 B0 c 2 (B0 c' 2) := ⟨_, rfl⟩
  have oB0 : ∀ a, a ≠ c → B0 a = A a := fun a h => by rw [hB0, up2_o h]
  have oB : ∀ a, a ≠ c → B a = A a := fun a h => by rw [hB, up2_o h, oB0 a h]
  have tB : ∀ j, B c j = if j = 2 then A c' 2 else if j = 1 then A c' 1 else A c j := fun j => by rw [hB, oB0 c' (by omega), hB0]; simp [up2]
  have oBI : ∀ a, ¬ (c ≤ a ∧ a < c + 52) → B a = I a := fun a h => by rw [oB a (by omega), a2 a (by omega)]
  obtain ⟨C, c1, c2, c3, c4⟩ := e_join (K := K) (N := N) (I := B) (P := P) (q := c + 2) (r := c + 3) (a1 := c' + 3) (x2 := 0) (h := fun d => g (1556 + d)) k6 pm0 k13 n192 (by omega) k13' n192' (by omega) (fun d hd2 => by
    obtain ⟨m1, m2⟩ := hmask.1 d hd2
    refine ⟨?_, m2⟩
    rw [oBI (c' + 3) (by omega), m1]
    unfold fn_X5_isHeldAfter
    rw [if_pos rfl, gd_pos m2])
  obtain ⟨D, hD⟩ : ∃ D, D = up2 (up2 (up2 (up2 C (c + 4) 0 (C (c' + 4) 0)) (c + 4) 1 (C (c' + 4) 1)) (c + 4) 2 (C (c' + 4) 2)) (c + 4) 3 (C (c' + 4) 3) := ⟨_, rfl⟩
  have oD : ∀ a, a ≠ c + 4 → D a = C a := fun a h => by rw [hD, up2_o h, up2_o h, up2_o h, up2_o h]
  have tD : ∀ j, D (c + 4) j = if j = 3 then C (c' + 4) 3 else if j = 2 then C (c' + 4) 2 else if j = 1 then C (c' + 4) 1 else if j = 0 then C (c' + 4) 0 else C (c + 4) j := fun j => by rw [hD]; simp [up2]
  obtain ⟨E0, hE0⟩ : ∃ E0, E0 = up2 D (c + 5) 1 (D (c' + 5) 1) := ⟨_, rfl⟩
  obtain ⟨E, hE⟩ : ∃ E, E = up2 E0 (c + 5) 2 (E0 (c' + 5) 2) := ⟨_, rfl⟩
  have oE0 : ∀ a, a ≠ c + 5 → E0 a = D a := fun a h => by rw [hE0, up2_o h]
  have oE : ∀ a, a ≠ c + 5 → E a = D a := fun a h => by rw [hE, up2_o h, oE0 a h]
  have tE : ∀ j, E (c + 5) j = if j = 2 then D (c' + 5) 2 else if j = 1 then D (c' + 5) 1 else D (c + 5) j := fun j => by rw [hE, oE0 (c' + 5) (by omega), hE0]; simp [up2]
  obtain ⟨F, f1, f2, f3⟩ := e_actsBecome (I := E) hP0 hP0' hd0 hτ hτ' ht ht'
  have oEI : ∀ a, ¬ (c ≤ a ∧ a < c + 52) → E a = I a := fun a h => by rw [oE a (by omega), oD a (by omega), c2 a (by omega) (by omega), oBI a h]
  have oF : ∀ a, ¬ (c ≤ a ∧ a < c + 52) → F a = I a := fun a h => by rw [f2 a (by omega), oEI a h]
  have oFE : ∀ a, a < c + 7 → F a = E a := fun a h => f2 a (by omega)
  have fl : ∀ a, c + 40 ≤ a → a < c + 52 → F a = A a := fun a h h' => by rw [f2 a (by omega), oE a (by omega), oD a (by omega), c2 a (by omega) (by omega), oB a (by omega)]
  have cB : ∀ a, a ≠ c + 2 → a ≠ c + 3 → C a = B a := fun a h h' => c2 a h h'
  refine ⟨F, ?_, oF, ⟨h1, h2, h3⟩, ⟨hσ, hτ, hl, ht⟩, ⟨?_, hg0⟩, ⟨?_, hpap2⟩, ⟨⟨?_, ?_, ?_, ?_⟩, hbr.2⟩, fun i hi => ⟨?_, (hlays i hi).2⟩, ⟨fun d hd2 => ⟨?_, (hmask.1 d hd2).2⟩, ?_⟩, ⟨?_, ha2, ?_, ha4⟩, fun k hk => ⟨?_, (hacts k hk).2⟩⟩
  · unfold fn_X6_become
    rw [a1, Option.bind_some, gd_pos k7', gd_pos k7, Option.bind_some, ← hB0, Option.bind_some, ← hB, pp3, Option.bind_some, pp3', Option.bind_some, gd_pos k6', pm0', Option.bind_some, c1, Option.bind_some, gd_pos k6, pp4, Option.bind_some, pp4', Option.bind_some, gd_pos k3']
    unfold fn_X2_become
    rw [gd_pos k3, Option.bind_some, Option.bind_some, Option.bind_some, Option.bind_some, Option.bind_some, ← hD, gd_pos k3, pp5, Option.bind_some, pp5', Option.bind_some]
    unfold fn_X1_become
    rw [gd_pos k2', gd_pos k2, Option.bind_some, ← hE0, Option.bind_some, ← hE, f1, Option.bind_some, Option.bind_some, gd_pos k2]
  · rw [oFE c (by omega), oE c (by omega), oD c (by omega), cB c (by omega) (by omega), tB, if_neg (by decide), if_pos rfl, a2 c' (by omega)]; exact hc1
  · rw [oFE c (by omega), oE c (by omega), oD c (by omega), cB c (by omega) (by omega), tB, if_pos rfl, a2 c' (by omega)]; exact hpap
  · rw [oFE _ (by omega), oE _ (by omega), tD, if_neg (by decide), if_neg (by decide), if_neg (by decide), if_pos rfl, cB _ (by omega) (by omega), oBI _ (by omega)]; exact hbr.1.1
  · rw [oFE _ (by omega), oE _ (by omega), tD, if_neg (by decide), if_neg (by decide), if_pos rfl, cB _ (by omega) (by omega), oBI _ (by omega)]; exact hbr.1.2.1
  · rw [oFE _ (by omega), oE _ (by omega), tD, if_neg (by decide), if_pos rfl, cB _ (by omega) (by omega), oBI _ (by omega)]; exact hbr.1.2.2.1
  · rw [oFE _ (by omega), oE _ (by omega), tD, if_pos rfl, cB _ (by omega) (by omega), oBI _ (by omega)]; exact hbr.1.2.2.2
  · have hs := hσ.1 i (by omega)
    obtain ⟨z2, z3, z4, zd⟩ := a3 i (by omega)
    obtain ⟨y2, y3, y4, yd⟩ := (hlays i hi).1
    unfold LayR
    rw [fl (c + 40 + 3 * σ i) (by omega) (by omega), fl (c + 40 + 3 * σ i + 1) (by omega) (by omega), fl (c + 40 + 3 * σ i + 2) (by omega) (by omega)]
    exact ⟨z2.trans y2, z3.trans y3, z4.trans y4, fun d hd2 => ⟨(zd d hd2).1.trans (yd d hd2).1, (zd d hd2).2.trans (yd d hd2).2⟩⟩
  · rw [oFE _ (by omega), oE _ (by omega), oD _ (by omega)]; exact c3 d hd2
  · rw [oFE _ (by omega), oE _ (by omega), oD _ (by omega), c4, if_pos rfl]
  · rw [oFE _ (by omega), tE, if_neg (by decide), if_pos rfl, oD _ (by omega), cB _ (by omega) (by omega), oBI _ (by omega)]; exact ha1
  · rw [oFE _ (by omega), tE, if_pos rfl, oD _ (by omega), cB _ (by omega) (by omega), oBI _ (by omega)]; exact ha3
  · have hs := hτ.1 k (by omega)
    have hs' := hτ'.1 k (by omega)
    obtain ⟨z2, z3, zd⟩ := f3 k (by omega)
    obtain ⟨y2, y3, yd⟩ := (hacts k hk).1
    rw [oEI (c' + 7 + 3 * τ' k) (by omega)] at z2 z3
    rw [oEI (c' + 7 + 3 * τ' k + 1) (by omega), oEI (c' + 7 + 3 * τ' k + 2) (by omega)] at zd
    exact ⟨z2.trans y2, z3.trans y3, fun d hd2 => ⟨(zd d hd2).1.trans (yd d hd2).1, (zd d hd2).2.trans (yd d hd2).2⟩⟩
/-- the row that is read may be any with the same 5608 numbers -/
theorem PicR.row {I : Nat → Nat → Int32} {P : Nat → Nat → Option Nat} {c : Nat} {g g' : Nat → Int32} {cnt kp al : Nat} {σ τ : Nat → Nat} (h : PicR I P c g cnt kp al σ τ) (hg : ∀ j, j < 5608 → g' j = g j) : PicR I P c g' cnt kp al σ τ := by
  have h0 := h
  obtain ⟨a1, a2, a6, ⟨a7, a7'⟩, a8, a9, a10, a11, a12⟩ := h
  exact h0.mod ⟨rfl, rfl⟩ ⟨rfl, hg 0 (by omega)⟩ ⟨by rw [hg 1 (by omega)]; exact a7, by rw [hg 1 (by omega)]; exact a7'⟩ (a8.keep rfl (fun j _ _ => hg j (by omega))) (h0.lays (fun _ _ _ => rfl) (fun j _ _ => hg j (by omega))) (a10.keep rfl rfl (fun j _ _ => hg j (by omega))) ⟨rfl, hg 6 (by omega), hg 7 (by omega)⟩ (h0.acts (fun _ _ _ => rfl) (fun j _ _ => hg j (by omega)))
theorem e_imgL {K N : Nat → Nat} {I : Nat → Nat → Int32} {P : Nat → Nat → Option Nat} {m : Nat} (hM : ModSh K N P m) : ∃ I', fn_X10_image_L2 K N m P FU 0 I = some I' ∧ (∀ a, a ≠ m + 2 → I' a = I a) ∧ ∀ j, j < 5608 → I' (m + 2) j = I (m + 1) j := by
  have k2 : K (m + 2) = 12 := hM.1.2.2.1
  have n2 : N (m + 2) = 5608 := hM.2.1.2.1
  have p1 : P m 1 = some (m + 2) := hM.2.2.2.1
  have key := loop_ok (F := fun f i s => fn_X10_image_L2 K N m P f (nI i) s) 5608 (fun i s => (∀ a, a ≠ m + 2 → s a = I a) ∧ ∀ j, j < i → s (m + 2) j = I (m + 1) j) (fun s => (∀ a, a ≠ m + 2 → s a = I a) ∧ ∀ j, j < 5608 → s (m + 2) j = I (m + 1) j)
    (fun f s hs => by
      simp only [fn_X10_image_L2]
      rw [if_pos (show (5608 : Int32) ≤ nI 5608 from nI_le (a := 5608) (Nat.le_refl _) (by omega))]
      exact ok_some.mpr hs)
    (fun f i s hi hs kk => by
      simp only [fn_X10_image_L2]
      obtain ⟨s1, s2⟩ := hs
      rw [if_neg (show ¬ (5608 : Int32) ≤ nI i from nI_ge (b := 5608) hi (by omega)), gd_pos hM.1.1, p1, Option.bind_some, hM.2.2.1, Option.bind_some, gd_pos (vp_g hM hi), gd_pos ⟨k2, by rw [n2]; exact vp_in_nI hi (by omega)⟩, Option.bind_some, nI_clamp (by omega), nI_1, s1 (m + 1) (by omega)]
      refine kk _ ⟨fun a ha => by rw [up2_o ha]; exact s1 a ha, fun j hj => ?_⟩
      by_cases h : j = i
      · subst h; rw [up2_s]
      · rw [up2_k h]; exact s2 j (by omega))
    FU 0 I (Nat.zero_le _) (FU_lt (by omega)) ⟨fun _ _ => rfl, fun j hj => absurd hj (by omega)⟩
  obtain ⟨r, h1, h2⟩ := key
  exact ⟨r, h1, h2⟩
theorem e_bckL {K N : Nat → Nat} {I : Nat → Nat → Int32} {P : Nat → Nat → Option Nat} {m : Nat} (hM : ModSh K N P m) : ∃ I', fn_X10_back_L12 K N m P FU 0 I = some I' ∧ (∀ a, a ≠ m + 1 → I' a = I a) ∧ ∀ j, j < 5608 → I' (m + 1) j = I (m + 2) j := by
  have k2 : K (m + 2) = 12 := hM.1.2.2.1
  have n2 : N (m + 2) = 5608 := hM.2.1.2.1
  have p1 : P m 1 = some (m + 2) := hM.2.2.2.1
  have key := loop_ok (F := fun f i s => fn_X10_back_L12 K N m P f (nI i) s) 5608 (fun i s => (∀ a, a ≠ m + 1 → s a = I a) ∧ ∀ j, j < i → s (m + 1) j = I (m + 2) j) (fun s => (∀ a, a ≠ m + 1 → s a = I a) ∧ ∀ j, j < 5608 → s (m + 1) j = I (m + 2) j)
    (fun f s hs => by
      simp only [fn_X10_back_L12]
      rw [if_pos (show (5608 : Int32) ≤ nI 5608 from nI_le (a := 5608) (Nat.le_refl _) (by omega))]
      exact ok_some.mpr hs)
    (fun f i s hi hs kk => by
      simp only [fn_X10_back_L12]
      obtain ⟨s1, s2⟩ := hs
      rw [if_neg (show ¬ (5608 : Int32) ≤ nI i from nI_ge (b := 5608) hi (by omega)), hM.2.2.1, Option.bind_some, p1, Option.bind_some, gd_pos ⟨k2, by rw [n2]; exact vp_in_nI hi (by omega)⟩, gd_pos (vp_g hM hi), Option.bind_some, nI_clamp (by omega), nI_1, s1 (m + 2) (by omega)]
      refine kk _ ⟨fun a ha => by rw [up2_o ha]; exact s1 a ha, fun j hj => ?_⟩
      by_cases h : j = i
      · subst h; rw [up2_s]
      · rw [up2_k h]; exact s2 j (by omega))
    FU 0 I (Nat.zero_le _) (FU_lt (by omega)) ⟨fun _ _ => rfl, fun j hj => absurd hj (by omega)⟩
  obtain ⟨r, h1, h2⟩ := key
  exact ⟨r, h1, h2⟩
set_option maxHeartbeats 4000000 in
theorem q_image {K N : Nat → Nat} {b : Nat} : sp_image (Rel K N b) b K N := by
  intro I P  hR
  have hR0 := hR
  obtain ⟨⟨hroot, hp1, hp53, hmod⟩, ⟨cnt, kp, al, σ, τ, hpic⟩, himg, ⟨fed, htape⟩, hsheets⟩ := hR
  have hpic : PicR I P (b + 1) (I (b + 126 + 1)) cnt kp al σ τ := hpic
  have hpic0 := hpic
  obtain ⟨⟨hcnt, hkp, hal⟩, ⟨hσ, hτ, hlay, hact⟩, ⟨hc1, hg0⟩, ⟨hpap, hpap2⟩, hbr, hlays, hmask, ⟨ha1, ha2, ha3, ha4⟩, hacts⟩ := hpic
  obtain ⟨⟨kb, pb0, pb1, pb3, pb4, pb5, pb6, pb7⟩, hrt, hrs, hrc, hrth, hrl⟩ := id hroot
  obtain ⟨⟨k7, k15, n4, k6, k13, n192, k3, k2, k14, n11⟩, ⟨pp0, pp3, pp4, pp5, pm0, pa0⟩, hacsh, hlash⟩ := id hp1
  have km := hmod.1.1
  have pm := hmod.2.2.1
  obtain ⟨hi1, hi2⟩ := himg
  obtain ⟨σ', τ', q1, q2, q3, q4⟩ : ∃ σ' τ', Perm 4 σ' ∧ Perm 11 τ' ∧ (∀ i, i < 4 → P (b + 53 + 1) i = some (b + 53 + 40 + 3 * σ' i)) ∧ ∀ i, i < 11 → P (b + 53 + 6) i = some (b + 53 + 7 + 3 * τ' i) := by
    rcases hi2 with ⟨-, σ', τ', q1, q2, q3, q4⟩ | ⟨-, c2, kp2, al2, σ', τ', -, ⟨q1, q2, q3, q4⟩, -⟩
    · exact ⟨σ', τ', q1, q2, q3, q4⟩
    · exact ⟨σ', τ', q1, q2, q3, q4⟩
  obtain ⟨A, a1, a2, a3⟩ := e_picBecome (I := I) hp53 hp1 (Or.inr (by omega)) q1 q2 q3 q4 hpic0
  obtain ⟨I1, hI1⟩ : ∃ I1, I1 = up2 A b 2 1 := ⟨_, rfl⟩
  have o1 : ∀ a, a ≠ b → I1 a = A a := fun a h => by rw [hI1, up2_o h]
  have o1' : ∀ a, a ≠ b → ¬ (b + 53 ≤ a ∧ a < b + 53 + 52) → I1 a = I a := fun a h h' => (o1 a h).trans (a2 a h')
  have t1 : ∀ j, I1 b j = if j = 2 then 1 else I b j := fun j => by rw [hI1, ← a2 b (by omega)]; simp [up2]
  obtain ⟨B, b1, b2, b3⟩ := e_imgL (I := I1) hmod
  obtain ⟨I2, hI2⟩ : ∃ I2, I2 = up2 B (b + 126) 2 1 := ⟨_, rfl⟩
  have o2 : ∀ a, a ≠ b + 126 → I2 a = B a := fun a h => by rw [hI2, up2_o h]
  have o2' : ∀ a, a ≠ b + 126 → a ≠ b + 126 + 2 → I2 a = I1 a := fun a h h' => (o2 a h).trans (b2 a h')
  have t2 : ∀ j, I2 (b + 126) j = if j = 2 then 1 else I (b + 126) j := fun j => by rw [hI2, ← o1' (b + 126) (by omega) (by omega), ← b2 (b + 126) (by omega)]; simp [up2]
  have ho : ∀ a, a ≠ b → ¬ (b + 53 ≤ a ∧ a < b + 53 + 52) → a ≠ b + 126 → a ≠ b + 126 + 2 → I2 a = I a := fun a h1 h2 h3 h4 => (o2' a h3 h4).trans (o1' a h1 h2)
  have c53 : I1 (b + 53) 1 = nI cnt := by rw [o1 _ (by omega)]; exact a3.2.2.1.1
  have gv : K (b + 126 + 1) = 12 ∧ vp_in 0 (N (b + 126 + 1)) := vp_g hmod (j := 0) (by decide)
  have k7' : K (b + 53) = 7 := hp53.1.1
  have ig : I2 (b + 126 + 1) 0 = nI cnt := by rw [ho _ (by omega) (by omega) (by omega) (by omega)]; exact hg0
  refine ⟨(nI cnt, I1), ?_, (nI cnt, I2), ?_, rfl, ?_⟩
  · simp [fn_X9_image, gd_pos kb, pb0, pb1, a1, gd_pos k7', ← hI1, c53]
  · simp [fn_X10_image, b1, gd_pos km, pm, gd_pos gv, ← hI2, ig]
  · show Rel K N b I2 P
    refine ⟨⟨hroot, hp1, hp53, hmod⟩, ⟨cnt, kp, al, σ, τ, ?_⟩, ⟨?_, Or.inr ⟨?_, cnt, kp, al, σ', τ', ?_⟩⟩, ⟨fed, ?_⟩, fun i hi => ?_⟩
    · show PicR I2 P (b + 1) (I2 (b + 126 + 1)) cnt kp al σ τ
      rw [ho (b + 126 + 1) (by omega) (by omega) (by omega) (by omega)]
      exact hpic0.keep (fun a _ _ => ho a (by omega) (by omega) (by omega) (by omega)) (fun _ _ _ => rfl)
    · rw [t2, if_pos rfl, o2' b (by omega) (by omega), t1, if_pos rfl]
    · rw [t2, if_pos rfl]
    · have e : PicR I2 P (b + 53) (I (b + 126 + 1)) cnt kp al σ' τ' := a3.keep (fun a _ _ => by rw [o2' a (by omega) (by omega), o1 a (by omega)]) (fun _ _ _ => rfl)
      refine e.row (fun j hj => ?_)
      show I2 (b + 126 + 2) j = I (b + 126 + 1) j
      rw [o2 _ (by omega), b3 j hj, o1' _ (by omega) (by omega)]
    · unfold TapeR at htape ⊢
      rw [ho (b + 105) (by omega) (by omega) (by omega) (by omega), t2, if_neg (by decide), ho (b + 106) (by omega) (by omega) (by omega) (by omega), ho (b + 129) (by omega) (by omega) (by omega) (by omega)]
      exact htape
    · exact (hsheets i hi).keep (ho _ (by omega) (by omega) (by omega) (by omega)) (ho _ (by omega) (by omega) (by omega) (by omega)) (ho _ (by omega) (by omega) (by omega) (by omega)) (ho _ (by omega) (by omega) (by omega) (by omega)) (ho _ (by omega) (by omega) (by omega) (by omega))
set_option maxHeartbeats 4000000 in
theorem q_back {K N : Nat → Nat} {b : Nat} : sp_back (Rel K N b) b K N := by
  intro I P  hR
  have hR0 := hR
  obtain ⟨⟨hroot, hp1, hp53, hmod⟩, ⟨cnt, kp, al, σ, τ, hpic⟩, himg, ⟨fed, htape⟩, hsheets⟩ := hR
  have hpic : PicR I P (b + 1) (I (b + 126 + 1)) cnt kp al σ τ := hpic
  have hpic0 := hpic
  obtain ⟨⟨hcnt, hkp, hal⟩, ⟨hσ, hτ, hlay, hact⟩, ⟨hc1, hg0⟩, ⟨hpap, hpap2⟩, hbr, hlays, hmask, ⟨ha1, ha2, ha3, ha4⟩, hacts⟩ := hpic
  obtain ⟨⟨kb, pb0, pb1, pb3, pb4, pb5, pb6, pb7⟩, hrt, hrs, hrc, hrth, hrl⟩ := id hroot
  obtain ⟨⟨k7, k15, n4, k6, k13, n192, k3, k2, k14, n11⟩, ⟨pp0, pp3, pp4, pp5, pm0, pa0⟩, hacsh, hlash⟩ := id hp1
  have km := hmod.1.1
  have pm := hmod.2.2.1
  obtain ⟨hi1, hi2⟩ := himg
  rcases hi2 with ⟨e0, -⟩ | ⟨e1, cnt2, kp2, al2, σ2, τ2, hpic2⟩
  · exact ⟨(-3, I), by simp [fn_X9_back, gd_pos kb, hi1, e0], (-3, I), by simp [fn_X10_back, gd_pos km, e0], rfl, hR0⟩
  · have eb : I b 2 = 1 := hi1.trans e1
    obtain ⟨I1, a1, a2, a3⟩ := e_picBecome (I := I) hp1 hp53 (Or.inl (by omega)) hσ hτ hlay hact hpic2
    obtain ⟨I2, b1, b2, b3⟩ := e_bckL (I := I1) hmod
    have ho : ∀ a, ¬ (b + 1 ≤ a ∧ a < b + 53) → a ≠ b + 126 + 1 → I2 a = I a := fun a h1 h2 => (b2 a h2).trans (a2 a (by omega))
    have c1 : I1 (b + 1) 1 = nI cnt2 := a3.2.2.1.1
    have gv : K (b + 126 + 1) = 12 ∧ vp_in 0 (N (b + 126 + 1)) := vp_g hmod (j := 0) (by decide)
    have ig : I2 (b + 126 + 1) 0 = nI cnt2 := by rw [b3 0 (by omega), a2 _ (by omega)]; exact hpic2.2.2.1.2
    have e1' : I1 (b + 126) 2 = 1 := by rw [a2 _ (by omega)]; exact e1
    refine ⟨(nI cnt2, I1), ?_, (nI cnt2, I2), ?_, rfl, ?_⟩
    · simp [fn_X9_back, gd_pos kb, pb0, pb1, eb, a1, gd_pos k7, c1]
    · simp [fn_X10_back, gd_pos km, e1', b1, pm, gd_pos gv, ig]
    · show Rel K N b I2 P
      refine hR0.pic (rest_all (fun a h h' => ho a h h')) (fun _ _ _ => rfl) ⟨cnt2, kp2, al2, σ, τ, ?_⟩
      have e : PicR I2 P (b + 1) (I (b + 126 + 2)) cnt2 kp2 al2 σ τ := a3.keep (fun a _ _ => b2 a (by omega)) (fun _ _ _ => rfl)
      refine e.row (fun j hj => ?_)
      show I2 (b + 126 + 1) j = I (b + 126 + 2) j
      rw [b3 j hj, a2 _ (by omega)]
