/-! a picture after an act -/
theorem aft_lo {kp k : Nat} (h : k < nkp kp) : aft kp k = if kp < 10 then k else k + 1 := by
  unfold nkp at h
  unfold aft
  by_cases c : kp < 10
  · rw [if_pos c] at h ⊢
    rw [if_pos c]
    unfold trA; rw [if_neg (by omega), if_neg (by omega)]
  · rw [if_neg c] at h ⊢
    rw [if_neg c]
    unfold trA; rw [if_neg (by omega), if_neg (by omega)]
    unfold rotA; rw [if_pos h]
theorem aft_at (kp : Nat) : aft kp (nkp kp) = 10 := by
  unfold aft nkp
  by_cases c : kp < 10
  · rw [if_pos c, if_pos c]; unfold trA; rw [if_pos rfl]
  · rw [if_neg c, if_neg c]; rfl
set_option maxHeartbeats 4000000 in
theorem Rel.acted {K N : Nat → Nat} {b : Nat} {I I2 : Nat → Nat → Int32} {P P' : Nat → Nat → Option Nat} {cnt kp al l : Nat} {σ τ : Nat → Nat} {i1 o1 : Nat → Int32} (hR : Rel K N b I P) (hpic0 : PicR I P (b + 1) (I (b + 126 + 1)) cnt kp al σ τ) (hl : l < cnt) (hdi : ∀ d, d < 192 → DotI (i1 d) (o1 d)) (hrest : Rest b I I2) (hP : ∀ x, x ≠ b + 1 + 6 → P' x = P x)
    (ho : ∀ a, b + 1 ≤ a → a < b + 53 → a ≠ b + 1 + 40 + 3 * σ l + 1 → a ≠ b + 1 + 40 + 3 * σ l + 2 → ¬ (b + 1 + 7 + 3 * τ 10 ≤ a ∧ a < b + 1 + 7 + 3 * τ 10 + 3) → a ≠ b + 1 + 5 → I2 a = I a)
    (hq : ∀ d, d < 192 → I2 (b + 1 + 40 + 3 * σ l + 1) d = i1 d ∧ I2 (b + 1 + 40 + 3 * σ l + 2) d = o1 d)
    (hg : ∀ j, j < 1748 → j ≠ 6 → j ≠ 7 → ¬ (20 + 192 * l ≤ j ∧ j < 20 + 192 * l + 192) → ¬ (788 + 192 * l ≤ j ∧ j < 788 + 192 * l + 192) → I2 (b + 126 + 1) j = I (b + 126 + 1) j)
    (hgl : ∀ d, d < 192 → I2 (b + 126 + 1) (20 + 192 * l + d) = i1 d ∧ I2 (b + 126 + 1) (788 + 192 * l + d) = o1 d)
    (hend : (P' = P ∧ I2 (b + 1 + 5) = I (b + 1 + 5) ∧ ∀ j, (j = 6 ∨ j = 7 ∨ 1748 ≤ j) → I2 (b + 126 + 1) j = I (b + 126 + 1) j) ∨ (∃ bits, inR bits 4096 ∧ (I2 (b + 1 + 5) 1 = nI (nkp kp + 1) ∧ I2 (b + 1 + 5) 2 = 0) ∧ (∀ i, i < 11 → P' (b + 1 + 6) i = some (b + 1 + 7 + 3 * τ (aft kp i))) ∧ (I2 (b + 126 + 1) 6 = nI (nkp kp + 1) ∧ I2 (b + 126 + 1) 7 = nI (nkp kp + 1)) ∧ (∀ k r, k < nkp kp → r < 386 → I2 (b + 126 + 1) (1748 + 386 * k + r) = I (b + 126 + 1) (1748 + 386 * (if kp < 10 then k else k + 1) + r)) ∧ I2 (b + 126 + 1) (1748 + 386 * nkp kp) = nI l ∧ I2 (b + 126 + 1) (1749 + 386 * nkp kp) = bits ∧ (∀ d, d < 192 → I2 (b + 126 + 1) (1750 + 386 * nkp kp + d) = I (b + 126 + 1) (20 + 192 * l + d) ∧ I2 (b + 126 + 1) (1942 + 386 * nkp kp + d) = I (b + 126 + 1) (788 + 192 * l + d)) ∧ I2 (b + 1 + 7 + 3 * τ 10) 0 = nI l ∧ I2 (b + 1 + 7 + 3 * τ 10) 1 = bits ∧ ∀ d, d < 192 → I2 (b + 1 + 7 + 3 * τ 10 + 1) d = I (b + 126 + 1) (20 + 192 * l + d) ∧ I2 (b + 1 + 7 + 3 * τ 10 + 2) d = I (b + 126 + 1) (788 + 192 * l + d))) : Rel K N b I2 P' := by
  obtain ⟨⟨hcnt, hkp, hal⟩, ⟨hσ, hτ, hlay, hact⟩, ⟨hc1, hg0⟩, ⟨hpap, hpap2⟩, hbr, hlays, hmask, ⟨ha1, ha2, ha3, ha4⟩, hacts⟩ := hpic0
  have m10 := hτ.1 10 (by omega)
  have hsl := hσ.1 l (by omega)
  have hn : nkp kp < 10 := by unfold nkp; split <;> omega
  have hL : ∀ i, i < cnt → LayR I2 (b + 1 + 40 + 3 * σ i) (I2 (b + 126 + 1)) i ∧ LayI (I2 (b + 126 + 1)) i := by
    intro i hi
    obtain ⟨⟨y2, y3, y4, yd⟩, ⟨zm, zg, zo, zd⟩⟩ := hlays i hi
    have hsi := hσ.1 i (by omega)
    have u8 := hg (8 + i) (by omega) (by omega) (by omega) (by omega) (by omega)
    have u12 := hg (12 + i) (by omega) (by omega) (by omega) (by omega) (by omega)
    have u16 := hg (16 + i) (by omega) (by omega) (by omega) (by omega) (by omega)
    have r0 : I2 (b + 1 + 40 + 3 * σ i) = I (b + 1 + 40 + 3 * σ i) := ho _ (by omega) (by omega) (by omega) (by omega) (by omega) (by omega)
    by_cases hil : i = l
    · subst hil
      refine ⟨⟨?_, ?_, ?_, fun d hd => ?_⟩, ⟨?_, ?_, ?_, fun d hd => ?_⟩⟩
      · rw [r0, u8]; exact y2
      · rw [r0, u12]; exact y3
      · rw [r0, u16]; exact y4
      · rw [(hgl d hd).1, (hgl d hd).2]; exact hq d hd
      · rw [u8]; exact zm
      · rw [u12]; exact zg
      · rw [u16]; exact zo
      · rw [(hgl d hd).1, (hgl d hd).2]; exact hdi d hd
    · have hne : σ i ≠ σ l := fun e => hil (hσ.2 i l (by omega) (by omega) e)
      have u20 : ∀ d, d < 192 → I2 (b + 126 + 1) (20 + 192 * i + d) = I (b + 126 + 1) (20 + 192 * i + d) := fun d hd => hg _ (by omega) (by omega) (by omega) (by omega) (by omega)
      have u788 : ∀ d, d < 192 → I2 (b + 126 + 1) (788 + 192 * i + d) = I (b + 126 + 1) (788 + 192 * i + d) := fun d hd => hg _ (by omega) (by omega) (by omega) (by omega) (by omega)
      have r1 : I2 (b + 1 + 40 + 3 * σ i + 1) = I (b + 1 + 40 + 3 * σ i + 1) := ho _ (by omega) (by omega) (by omega) (by omega) (by omega) (by omega)
      have r2 : I2 (b + 1 + 40 + 3 * σ i + 2) = I (b + 1 + 40 + 3 * σ i + 2) := ho _ (by omega) (by omega) (by omega) (by omega) (by omega) (by omega)
      refine ⟨⟨?_, ?_, ?_, fun d hd => ?_⟩, ⟨?_, ?_, ?_, fun d hd => ?_⟩⟩
      · rw [r0, u8]; exact y2
      · rw [r0, u12]; exact y3
      · rw [r0, u16]; exact y4
      · rw [r1, r2, u20 d hd, u788 d hd]; exact yd d hd
      · rw [u8]; exact zm
      · rw [u12]; exact zg
      · rw [u16]; exact zo
      · rw [u20 d hd, u788 d hd]; exact zd d hd
  have hc0 : I2 (b + 1) = I (b + 1) := ho _ (by omega) (by omega) (by omega) (by omega) (by omega) (by omega)
  have hbr' : BrR I2 (b + 1) (I2 (b + 126 + 1)) := hbr.keep (ho _ (by omega) (by omega) (by omega) (by omega) (by omega) (by omega)) (fun j _ _ => hg j (by omega) (by omega) (by omega) (by omega) (by omega))
  have hmask' : MaskR I2 (b + 1) (I2 (b + 126 + 1)) := hmask.keep (ho _ (by omega) (by omega) (by omega) (by omega) (by omega) (by omega)) (ho _ (by omega) (by omega) (by omega) (by omega) (by omega) (by omega)) (fun j _ _ => hg j (by omega) (by omega) (by omega) (by omega) (by omega))
  have g0' := hg 0 (by omega) (by omega) (by omega) (by omega) (by omega)
  have g1' := hg 1 (by omega) (by omega) (by omega) (by omega) (by omega)
  -- an old act that stays
  have hA : ∀ k, k < al → ∀ k2, k2 < 10 → (∀ r, r < 386 → I2 (b + 126 + 1) (1748 + 386 * k2 + r) = I (b + 126 + 1) (1748 + 386 * k + r)) → ActR I2 (b + 1 + 7 + 3 * τ k) (I2 (b + 126 + 1)) k2 ∧ ActI (I2 (b + 126 + 1)) k2 cnt := by
    intro k hk k2 hk2 h
    obtain ⟨⟨y0, y1, yd⟩, ⟨z0, z1, zd⟩⟩ := hacts k hk
    have htk := hτ.1 k (by omega)
    have hne : τ k ≠ τ 10 := fun e => by have := hτ.2 k 10 (by omega) (by omega) e; omega
    have r0 : I2 (b + 1 + 7 + 3 * τ k) = I (b + 1 + 7 + 3 * τ k) := ho _ (by omega) (by omega) (by omega) (by omega) (by omega) (by omega)
    have r1 : I2 (b + 1 + 7 + 3 * τ k + 1) = I (b + 1 + 7 + 3 * τ k + 1) := ho _ (by omega) (by omega) (by omega) (by omega) (by omega) (by omega)
    have r2 : I2 (b + 1 + 7 + 3 * τ k + 2) = I (b + 1 + 7 + 3 * τ k + 2) := ho _ (by omega) (by omega) (by omega) (by omega) (by omega) (by omega)
    have e0 : I2 (b + 126 + 1) (1748 + 386 * k2) = I (b + 126 + 1) (1748 + 386 * k) := h 0 (by omega)
    have e1 : I2 (b + 126 + 1) (1749 + 386 * k2) = I (b + 126 + 1) (1749 + 386 * k) := by
      have := h 1 (by omega)
      rw [show 1748 + 386 * k2 + 1 = 1749 + 386 * k2 by omega, show 1748 + 386 * k + 1 = 1749 + 386 * k by omega] at this
      exact this
    have e2 : ∀ d, d < 192 → I2 (b + 126 + 1) (1750 + 386 * k2 + d) = I (b + 126 + 1) (1750 + 386 * k + d) := fun d hd => by
      have := h (2 + d) (by omega)
      rw [show 1748 + 386 * k2 + (2 + d) = 1750 + 386 * k2 + d by omega, show 1748 + 386 * k + (2 + d) = 1750 + 386 * k + d by omega] at this
      exact this
    have e3 : ∀ d, d < 192 → I2 (b + 126 + 1) (1942 + 386 * k2 + d) = I (b + 126 + 1) (1942 + 386 * k + d) := fun d hd => by
      have := h (194 + d) (by omega)
      rw [show 1748 + 386 * k2 + (194 + d) = 1942 + 386 * k2 + d by omega, show 1748 + 386 * k + (194 + d) = 1942 + 386 * k + d by omega] at this
      exact this
    refine ⟨⟨by rw [r0, e0]; exact y0, by rw [r0, e1]; exact y1, fun d hd => ?_⟩, ⟨by rw [e0]; exact z0, by rw [e1]; exact z1, fun d hd => ?_⟩⟩
    · rw [r1, r2, e2 d hd, e3 d hd]; exact yd d hd
    · rw [e2 d hd, e3 d hd]; exact zd d hd
  rcases hend with ⟨p0, e5, eg⟩ | ⟨bits, hbits, ⟨f1, f2⟩, fp, ⟨f6, f7⟩, fs, fl, fb, fr, s0, s1, sr⟩
  · subst p0
    refine hR.pic hrest (fun x _ _ => rfl) ⟨cnt, kp, al, σ, τ, ⟨hcnt, hkp, hal⟩, ⟨hσ, hτ, hlay, hact⟩, ⟨by rw [hc0]; exact hc1, g0'.trans hg0⟩, ⟨by rw [hc0]; exact hpap.trans g1'.symm, by rw [show I2 (b + 127) 1 = _ from g1']; exact hpap2⟩, hbr', hL, hmask', ⟨by rw [e5]; exact ha1, (eg 6 (by omega)).trans ha2, by rw [e5]; exact ha3, (eg 7 (by omega)).trans ha4⟩, fun k hk => ?_⟩
    exact hA k hk k (by omega) (fun r hr => eg _ (by omega))
  · have hpa := aft_perm kp (by omega)
    refine hR.pic hrest (fun x _ h => hP x h) ⟨cnt, nkp kp + 1, nkp kp + 1, σ, fun i => τ (aft kp i), ⟨hcnt, by omega, by omega⟩, ⟨hσ, ⟨fun i hi => hτ.1 _ (hpa.1 i hi), fun i j hi hj e => hpa.2 i j hi hj (hτ.2 _ _ (hpa.1 i hi) (hpa.1 j hj) e)⟩, fun i hi => by rw [hP _ (by omega)]; exact hlay i hi, fp⟩, ⟨by rw [hc0]; exact hc1, g0'.trans hg0⟩, ⟨by rw [hc0]; exact hpap.trans g1'.symm, by rw [show I2 (b + 127) 1 = _ from g1']; exact hpap2⟩, hbr', hL, hmask', ⟨f1, f6, by rw [f2, Nat.sub_self]; rfl, f7⟩, fun k hk => ?_⟩
    show ActR I2 (b + 1 + 7 + 3 * τ (aft kp k)) (I2 (b + 126 + 1)) k ∧ ActI (I2 (b + 126 + 1)) k cnt
    by_cases hkk : k = nkp kp
    · subst hkk
      rw [aft_at]
      refine ⟨⟨by rw [s0, fl], by rw [s1, fb], fun d hd => ?_⟩, ⟨by rw [fl]; exact ⟨l, hl, rfl⟩, by rw [fb]; exact hbits, fun d hd => ?_⟩⟩
      · rw [(sr d hd).1, (sr d hd).2, (fr d hd).1, (fr d hd).2]; exact ⟨rfl, rfl⟩
      · rw [(fr d hd).1, (fr d hd).2]; exact (hlays l hl).2.2.2.2 d hd
    · have hlt : k < nkp kp := by omega
      rw [aft_lo hlt]
      have h1 := fs k
      by_cases c : kp < 10
      · rw [if_pos c] at h1 ⊢
        have : nkp kp = kp := by unfold nkp; rw [if_pos c]
        exact hA k (by omega) k (by omega) (fun r hr => h1 r hlt hr)
      · rw [if_neg c] at h1 ⊢
        have : nkp kp = 9 := by unfold nkp; rw [if_neg c]
        exact hA (k + 1) (by omega) k (by omega) (fun r hr => h1 r hlt hr)
