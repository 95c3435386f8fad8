/-! SHAPES: what lies where (K, N, P); VALUES: the class's cells against the model's row g -/
def LaySh (K N : Nat → Nat) (P : Nat → Nat → Option Nat) (q : Nat) : Prop := K q = 5 ∧ K (q + 1) = 12 ∧ N (q + 1) = 192 ∧ K (q + 2) = 12 ∧ N (q + 2) = 192 ∧ P q 0 = some (q + 1) ∧ P q 1 = some (q + 2)
def ActSh (K N : Nat → Nat) (P : Nat → Nat → Option Nat) (q : Nat) : Prop := K q = 1 ∧ K (q + 1) = 12 ∧ N (q + 1) = 192 ∧ K (q + 2) = 12 ∧ N (q + 2) = 192 ∧ P q 2 = some (q + 1) ∧ P q 3 = some (q + 2)
def PicSh (K N : Nat → Nat) (P : Nat → Nat → Option Nat) (c : Nat) : Prop :=
  (K c = 7 ∧ K (c + 1) = 15 ∧ N (c + 1) = 4 ∧ K (c + 2) = 6 ∧ K (c + 3) = 13 ∧ N (c + 3) = 192 ∧ K (c + 4) = 3 ∧ K (c + 5) = 2 ∧ K (c + 6) = 14 ∧ N (c + 6) = 11) ∧
  (P c 0 = some (c + 1) ∧ P c 3 = some (c + 2) ∧ P c 4 = some (c + 4) ∧ P c 5 = some (c + 5) ∧ P (c + 2) 0 = some (c + 3) ∧ P (c + 5) 0 = some (c + 6)) ∧
  (∀ i, i < 11 → ActSh K N P (c + 7 + 3 * i)) ∧ (∀ i, i < 4 → LaySh K N P (c + 40 + 3 * i))
def ModSh (K N : Nat → Nat) (P : Nat → Nat → Option Nat) (m : Nat) : Prop :=
  (K m = 11 ∧ K (m + 1) = 12 ∧ K (m + 2) = 12 ∧ K (m + 3) = 12 ∧ K (m + 4) = 12 ∧ K (m + 5) = 12 ∧ K (m + 6) = 12 ∧ K (m + 7) = 12 ∧ K (m + 8) = 12 ∧ K (m + 9) = 12 ∧ K (m + 10) = 12 ∧ K (m + 11) = 12) ∧
  (N (m + 1) = 5608 ∧ N (m + 2) = 5608 ∧ N (m + 3) = 60 ∧ N (m + 4) = 384 ∧ N (m + 5) = 192 ∧ N (m + 6) = 192 ∧ N (m + 7) = 192 ∧ N (m + 8) = 192 ∧ N (m + 9) = 4 ∧ N (m + 10) = 4 ∧ N (m + 11) = 160) ∧
  (P m 0 = some (m + 1) ∧ P m 1 = some (m + 2) ∧ P m 4 = some (m + 3) ∧ P m 15 = some (m + 4) ∧ P m 16 = some (m + 5) ∧ P m 17 = some (m + 6) ∧ P m 18 = some (m + 7) ∧ P m 19 = some (m + 8) ∧ P m 20 = some (m + 9) ∧ P m 21 = some (m + 10) ∧ P m 22 = some (m + 11))
def RootSh (K N : Nat → Nat) (P : Nat → Nat → Option Nat) (b : Nat) : Prop :=
  (K b = 10 ∧ P b 0 = some (b + 1) ∧ P b 1 = some (b + 53) ∧ P b 3 = some (b + 105) ∧ P b 4 = some (b + 109) ∧ P b 5 = some (b + 118) ∧ P b 6 = some (b + 122) ∧ P b 7 = some (b + 125)) ∧
  (K (b + 105) = 9 ∧ K (b + 106) = 12 ∧ N (b + 106) = 60 ∧ K (b + 107) = 12 ∧ N (b + 107) = 60 ∧ K (b + 108) = 12 ∧ N (b + 108) = 60 ∧ P (b + 105) 0 = some (b + 106) ∧ P (b + 105) 2 = some (b + 107) ∧ P (b + 105) 3 = some (b + 108)) ∧
  (K (b + 109) = 16 ∧ N (b + 109) = 4 ∧ ∀ i, i < 4 → P (b + 109) i = some (b + 110 + 2 * i) ∧ K (b + 110 + 2 * i) = 8 ∧ K (b + 111 + 2 * i) = 12 ∧ N (b + 111 + 2 * i) = 40 ∧ P (b + 110 + 2 * i) 2 = some (b + 111 + 2 * i)) ∧
  (K (b + 118) = 4 ∧ K (b + 119) = 13 ∧ N (b + 119) = 192 ∧ K (b + 120) = 12 ∧ N (b + 120) = 192 ∧ K (b + 121) = 12 ∧ N (b + 121) = 192 ∧ P (b + 118) 0 = some (b + 119) ∧ P (b + 118) 1 = some (b + 120) ∧ P (b + 118) 2 = some (b + 121)) ∧
  LaySh K N P (b + 122) ∧ (K (b + 125) = 12 ∧ N (b + 125) = 192)
def Perm (n : Nat) (f : Nat → Nat) : Prop := (∀ i, i < n → f i < n) ∧ ∀ i j, i < n → j < n → f i = f j → i = j
def DotI (i o : Int32) : Prop := inR i 256 ∧ inR o 256 ∧ (o = 0 → i = 0)
def LayR (I : Nat → Nat → Int32) (q : Nat) (g : Nat → Int32) (l : Nat) : Prop := I q 2 = g (8 + l) ∧ I q 3 = g (12 + l) ∧ I q 4 = g (16 + l) ∧ ∀ d, d < 192 → I (q + 1) d = g (20 + 192 * l + d) ∧ I (q + 2) d = g (788 + 192 * l + d)
def LayI (g : Nat → Int32) (l : Nat) : Prop := inR (g (8 + l)) 6 ∧ inR (g (12 + l)) 100 ∧ inR (g (16 + l)) 256 ∧ ∀ d, d < 192 → DotI (g (20 + 192 * l + d)) (g (788 + 192 * l + d))
def ActR (I : Nat → Nat → Int32) (q : Nat) (g : Nat → Int32) (k : Nat) : Prop := I q 0 = g (1748 + 386 * k) ∧ I q 1 = g (1749 + 386 * k) ∧ ∀ d, d < 192 → I (q + 1) d = g (1750 + 386 * k + d) ∧ I (q + 2) d = g (1942 + 386 * k + d)
def ActI (g : Nat → Int32) (k cnt : Nat) : Prop := inR (g (1748 + 386 * k)) cnt ∧ inR (g (1749 + 386 * k)) 4096 ∧ ∀ d, d < 192 → DotI (g (1750 + 386 * k + d)) (g (1942 + 386 * k + d))
def cnt1 (f : Nat → Int32) : Nat → Nat
  | 0 => 0
  | n + 1 => cnt1 f n + if f n = 0 then 0 else 1
def BrR (I : Nat → Nat → Int32) (c : Nat) (g : Nat → Int32) : Prop := (I (c + 4) 0 = g 2 ∧ I (c + 4) 1 = g 3 ∧ I (c + 4) 2 = g 4 ∧ I (c + 4) 3 = g 5) ∧ inR (g 2) 5 ∧ inR (g 3) 5 ∧ (g 4 = -1 ∨ inR (g 4) 256) ∧ inR (g 5) 10
def MaskR (I : Nat → Nat → Int32) (c : Nat) (g : Nat → Int32) : Prop := (∀ d, d < 192 → I (c + 3) d = g (1556 + d) ∧ (g (1556 + d) = 0 ∨ g (1556 + d) = 1)) ∧ I (c + 2) 1 = nI (cnt1 (fun d => g (1556 + d)) 192)
def PicR (I : Nat → Nat → Int32) (P : Nat → Nat → Option Nat) (c : Nat) (g : Nat → Int32) (cnt kp al : Nat) (σ τ : Nat → Nat) : Prop :=
  (cnt ≤ 4 ∧ kp ≤ al ∧ al ≤ 10) ∧ (Perm 4 σ ∧ Perm 11 τ ∧ (∀ i, i < 4 → P (c + 1) i = some (c + 40 + 3 * σ i)) ∧ ∀ i, i < 11 → P (c + 6) i = some (c + 7 + 3 * τ i)) ∧
  (I c 1 = nI cnt ∧ g 0 = nI cnt) ∧ (I c 2 = g 1 ∧ inR (g 1) 256) ∧ BrR I c g ∧ (∀ i, i < cnt → LayR I (c + 40 + 3 * σ i) g i ∧ LayI g i) ∧ MaskR I c g ∧
  (I (c + 5) 1 = nI kp ∧ g 6 = nI kp ∧ I (c + 5) 2 = nI (al - kp) ∧ g 7 = nI al) ∧ ∀ k, k < al → ActR I (c + 7 + 3 * τ k) g k ∧ ActI g k cnt
def TapeR (I : Nat → Nat → Int32) (b : Nat) (fed : Nat) : Prop := fed ≤ 60 ∧ I (b + 105) 1 = nI fed ∧ I (b + 126) 5 = nI fed ∧ ∀ j, j < fed → I (b + 106) j = I (b + 129) j ∧ inR (I (b + 129) j) 256
def SheetR (I : Nat → Nat → Int32) (b i : Nat) : Prop := ∃ n, n ≤ 40 ∧ I (b + 110 + 2 * i) 0 = I (b + 135) i ∧ (I (b + 135) i = -1 ∨ I (b + 135) i = 0 ∨ I (b + 135) i = 1) ∧ (I (b + 135) i = -1 → n = 0) ∧ I (b + 110 + 2 * i) 1 = nI n ∧ I (b + 136) i = nI n ∧ ∀ j, j < n → I (b + 111 + 2 * i) j = I (b + 137) (40 * i + j)
def AllSh (K N : Nat → Nat) (P : Nat → Nat → Option Nat) (b : Nat) : Prop := RootSh K N P b ∧ PicSh K N P (b + 1) ∧ PicSh K N P (b + 53) ∧ ModSh K N P (b + 126)
def Rel (K N : Nat → Nat) (b : Nat) (I : Nat → Nat → Int32) (P : Nat → Nat → Option Nat) : Prop :=
  AllSh K N P b ∧ (∃ cnt kp al σ τ, PicR I P (b + 1) (I (b + 127)) cnt kp al σ τ) ∧
  (I b 2 = I (b + 126) 2 ∧ ((I (b + 126) 2 = 0 ∧ ∃ σ τ, Perm 4 σ ∧ Perm 11 τ ∧ (∀ i, i < 4 → P (b + 54) i = some (b + 93 + 3 * σ i)) ∧ ∀ i, i < 11 → P (b + 59) i = some (b + 60 + 3 * τ i)) ∨ (I (b + 126) 2 = 1 ∧ ∃ cnt kp al σ τ, PicR I P (b + 53) (I (b + 128)) cnt kp al σ τ))) ∧
  (∃ fed, TapeR I b fed) ∧ ∀ i, i < 4 → SheetR I b i
/-- rows that stay -/
theorem LayR.keep {I I' : Nat → Nat → Int32} {q : Nat} {g g' : Nat → Int32} {l : Nat} (h : LayR I q g l) (h0 : I' q = I q) (h1 : I' (q + 1) = I (q + 1)) (h2 : I' (q + 2) = I (q + 2)) (h3 : ∀ j, g' j = g j) : LayR I' q g' l := by
  obtain ⟨a, b, c, d⟩ := h
  refine ⟨by rw [h0, h3, a], by rw [h0, h3, b], by rw [h0, h3, c], fun e he => ?_⟩
  rw [h1, h2, h3, h3]
  exact d e he
theorem PicR.keep {I I' : Nat → Nat → Int32} {P P' : Nat → Nat → Option Nat} {c : Nat} {g : Nat → Int32} {cnt kp al : Nat} {σ τ : Nat → Nat} (h : PicR I P c g cnt kp al σ τ) (hI : ∀ a, c ≤ a → a < c + 52 → I' a = I a) (hP : ∀ a, c ≤ a → a < c + 52 → P' a = P a) : PicR I' P' c g cnt kp al σ τ := by
  obtain ⟨a1, ⟨a2, a3, a4, a5⟩, a6, a7, a8, a9, a10, a11, a12⟩ := h
  refine ⟨a1, ⟨a2, a3, fun i hi => by rw [hP _ (by omega) (by omega)]; exact a4 i hi, fun i hi => by rw [hP _ (by omega) (by omega)]; exact a5 i hi⟩, by rw [hI c (by omega) (by omega)]; exact a6, by rw [hI c (by omega) (by omega)]; exact a7, ?_, fun i hi => ⟨?_, (a9 i hi).2⟩, ?_, ?_, fun k hk => ⟨?_, (a12 k hk).2⟩⟩
  · unfold BrR at a8 ⊢; rw [hI _ (by omega) (by omega)]; exact a8
  · have := a2.1 i (by omega)
    exact (a9 i hi).1.keep (hI _ (by omega) (by omega)) (hI _ (by omega) (by omega)) (hI _ (by omega) (by omega)) (fun _ => rfl)
  · unfold MaskR at a10 ⊢; rw [hI (c + 3) (by omega) (by omega), hI (c + 2) (by omega) (by omega)]; exact a10
  · rw [hI (c + 5) (by omega) (by omega)]; exact a11
  · have := a3.1 k (by omega)
    have h1 := (a12 k hk).1
    unfold ActR at h1 ⊢
    rw [hI (c + 7 + 3 * τ k) (by omega) (by omega), hI (c + 7 + 3 * τ k + 1) (by omega) (by omega), hI (c + 7 + 3 * τ k + 2) (by omega) (by omega)]
    exact h1
