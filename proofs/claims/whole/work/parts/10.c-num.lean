/-! numbers of colours -/
theorem t_bmod {z : Int} (h1 : -2147483648 ≤ z) (h2 : z < 2147483648) : z.bmod (2 ^ 32) = z := by
  rw [Int.bmod_def]
  have e : ((2 ^ 32 : Nat) : Int) = 4294967296 := rfl
  rw [e]
  split <;> omega
theorem t_add {x y : Int32} (h1 : -2147483648 ≤ x.toInt + y.toInt) (h2 : x.toInt + y.toInt < 2147483648) : (x + y).toInt = x.toInt + y.toInt := by rw [Int32.toInt_add]; exact t_bmod h1 h2
theorem t_sub {x y : Int32} (h1 : -2147483648 ≤ x.toInt - y.toInt) (h2 : x.toInt - y.toInt < 2147483648) : (x - y).toInt = x.toInt - y.toInt := by rw [Int32.toInt_sub]; exact t_bmod h1 h2
theorem t_mul {x y : Int32} (h1 : -2147483648 ≤ x.toInt * y.toInt) (h2 : x.toInt * y.toInt < 2147483648) : (x * y).toInt = x.toInt * y.toInt := by rw [Int32.toInt_mul]; exact t_bmod h1 h2
theorem t_td {z : Int} (d : Int) (hd : 0 < d) : (0 ≤ z → z.tdiv d = z / d) ∧ (z < 0 → z.tdiv d = -((-z) / d)) := by
  constructor
  · intro h; exact Int.tdiv_eq_ediv_of_nonneg h
  · intro h
    have : z = -(-z) := by omega
    rw [this, Int.neg_tdiv, Int.tdiv_eq_ediv_of_nonneg (by omega)]
    simp
theorem t_div {x : Int32} {y : Int32} (d : Int) (hy : y.toInt = d) (hd : 1 < d) : (x / y).toInt = x.toInt.tdiv d := by
  rw [Int32.toInt_div, hy]
  have h1 := x.toInt_lt
  have h2 := x.le_toInt
  have h3 := t_td (z := x.toInt) d (by omega)
  by_cases h : 0 ≤ x.toInt
  · have e := h3.1 h
    have h4 : x.toInt / d ≤ x.toInt := Int.ediv_le_self _ h
    have h5 : 0 ≤ x.toInt / d := Int.ediv_nonneg h (by omega)
    exact t_bmod (by rw [e]; omega) (by rw [e]; omega)
  · have e := h3.2 (by omega)
    have h4 : (-x.toInt) / d ≤ -x.toInt := Int.ediv_le_self _ (by omega)
    have h5 : 0 ≤ (-x.toInt) / d := Int.ediv_nonneg (by omega) (by omega)
    have h6 : (-x.toInt) / d < 2147483648 := by
      apply Int.ediv_lt_of_lt_mul (by omega)
      have : -x.toInt ≤ 2147483648 := by omega
      omega
    exact t_bmod (by rw [e]; omega) (by rw [e]; omega)
theorem t_255 : (255 : Int32).toInt = 255 := rfl
theorem t_q {x : Int32} : (x / 255).toInt = x.toInt.tdiv 255 := t_div 255 rfl (by decide)
theorem t_qp {x : Int32} (h : 0 ≤ x.toInt) : (x / 255).toInt = x.toInt / 255 := by rw [t_q]; exact (t_td 255 (by decide)).1 h
theorem t_qn {x : Int32} (h : x.toInt < 0) : (x / 255).toInt = -((-x.toInt) / 255) := by rw [t_q]; exact (t_td 255 (by decide)).2 h
theorem r_256 {x : Int32} : inR x 256 ↔ 0 ≤ x.toInt ∧ x.toInt ≤ 255 := by rw [inR_iff (by decide)]; omega
theorem m_bd {a e : Int} (h1 : 0 ≤ a) (h2 : 0 ≤ e) (h3 : e ≤ 255) : 0 ≤ a * e ∧ a * e ≤ a * 255 := ⟨Int.mul_nonneg h1 h2, Int.mul_le_mul_of_nonneg_left h3 h1⟩
/-- x goes to y by e of 255 -/
theorem lerp_in {x y e : Int32} (hx : inR x 256) (hy : inR y 256) (he : inR e 256) : inR (x + (y - x) * e / 255) 256 := by
  rw [r_256] at hx hy he ⊢
  have h1 : (y - x).toInt = y.toInt - x.toInt := t_sub (by omega) (by omega)
  rcases Int.lt_or_le y.toInt x.toInt with h | h
  · have hb := m_bd (a := x.toInt - y.toInt) (e := e.toInt) (by omega) he.1 he.2
    have e1 : (y.toInt - x.toInt) * e.toInt = -((x.toInt - y.toInt) * e.toInt) := by rw [← Int.neg_mul]; congr 1; omega
    have h2 : ((y - x) * e).toInt = -((x.toInt - y.toInt) * e.toInt) := by rw [← e1, ← h1]; exact t_mul (by rw [h1, e1]; omega) (by rw [h1, e1]; omega)
    rcases Int.lt_or_le ((y - x) * e).toInt 0 with k | k
    · have h3 := t_qn k
      have h4 : (x + (y - x) * e / 255).toInt = x.toInt + ((y - x) * e / 255).toInt := t_add (by rw [h3]; omega) (by rw [h3]; omega)
      rw [h4, h3]; omega
    · have h3 := t_qp k
      have h4 : (x + (y - x) * e / 255).toInt = x.toInt + ((y - x) * e / 255).toInt := t_add (by rw [h3]; omega) (by rw [h3]; omega)
      rw [h4, h3]; omega
  · have hb := m_bd (a := y.toInt - x.toInt) (e := e.toInt) (by omega) he.1 he.2
    have h2 : ((y - x) * e).toInt = (y.toInt - x.toInt) * e.toInt := by rw [← h1]; exact t_mul (by rw [h1]; omega) (by rw [h1]; omega)
    have h3 : ((y - x) * e / 255).toInt = ((y - x) * e).toInt / 255 := t_qp (by rw [h2]; omega)
    have h4 : (x + (y - x) * e / 255).toInt = x.toInt + ((y - x) * e / 255).toInt := t_add (by rw [h3]; omega) (by rw [h3]; omega)
    rw [h4, h3]; omega
/-- x by e of 255 -/
theorem part_in {x e : Int32} (hx : inR x 256) (he : inR e 256) : inR (x * e / 255) 256 ∧ (x * e / 255).toInt = x.toInt * e.toInt / 255 ∧ (x * e / 255).toInt ≤ x.toInt := by
  rw [r_256] at hx he ⊢
  have hb := m_bd (a := x.toInt) (e := e.toInt) hx.1 he.1 he.2
  have h2 : (x * e).toInt = x.toInt * e.toInt := t_mul (by omega) (by omega)
  have h3 : (x * e / 255).toInt = (x * e).toInt / 255 := t_qp (by rw [h2]; omega)
  rw [h3, h2]
  refine ⟨?_, rfl, ?_⟩ <;> omega
theorem inv_in {x : Int32} (hx : inR x 256) : inR (255 - x) 256 ∧ (255 - x).toInt = 255 - x.toInt := by
  rw [r_256] at hx ⊢
  have h : (255 - x).toInt = 255 - x.toInt := t_sub (by rw [t_255]; omega) (by rw [t_255]; omega)
  rw [h]; exact ⟨by omega, rfl⟩
theorem cov_up {o c : Int32} (ho : inR o 256) (hc : inR c 256) : inR (o + (255 - o) * c / 255) 256 ∧ o.toInt ≤ (o + (255 - o) * c / 255).toInt ∧ (o = 0 → (o + (255 - o) * c / 255) = c) := by
  obtain ⟨h1, h2⟩ := inv_in ho
  obtain ⟨h3, h4, h5⟩ := part_in h1 hc
  have ho' := r_256.mp ho
  have h3' := r_256.mp h3
  have h6 : (o + (255 - o) * c / 255).toInt = o.toInt + ((255 - o) * c / 255).toInt := t_add (by omega) (by omega)
  refine ⟨r_256.mpr (by omega), by omega, fun h0 => ?_⟩
  rw [← Int32.toInt_inj, h6, h4, h2, h0]
  show 0 + (255 - 0) * c.toInt / 255 = c.toInt
  omega
/-- what a mode makes of what is below and of ink -/
def blT (b v : Int32) : Int32 := b * v / 255
def blS (b v : Int32) : Int32 := 255 - (255 - b) * (255 - v) / 255
def bl (mode fig b v : Int32) : Int32 := if mode = 1 then blT b v else if mode = 2 then blS b v else if mode = 3 then (if 0 < blT b v - fig then blT b v - fig else 0) else if mode = 4 then (if blS b v + fig < 255 then blS b v + fig else 255) else if mode = 5 then (if b < v then v - b else b - v) else v
theorem blT_in {b v : Int32} (hb : inR b 256) (hv : inR v 256) : inR (blT b v) 256 := (part_in hb hv).1
theorem blS_in {b v : Int32} (hb : inR b 256) (hv : inR v 256) : inR (blS b v) 256 := (inv_in (part_in (inv_in hb).1 (inv_in hv).1).1).1
theorem bl_in {mode fig b v : Int32} (hf : inR fig 100) (hb : inR b 256) (hv : inR v 256) : inR (bl mode fig b v) 256 := by
  have ht := r_256.mp (blT_in hb hv)
  have hs := r_256.mp (blS_in hb hv)
  have hb' := r_256.mp hb
  have hv' := r_256.mp hv
  have hf' := (inR_iff (by decide)).mp hf
  have e1 : (blT b v - fig).toInt = (blT b v).toInt - fig.toInt := t_sub (by omega) (by omega)
  have e2 : (blS b v + fig).toInt = (blS b v).toInt + fig.toInt := t_add (by omega) (by omega)
  have e3 : (v - b).toInt = v.toInt - b.toInt := t_sub (by omega) (by omega)
  have e4 : (b - v).toInt = b.toInt - v.toInt := t_sub (by omega) (by omega)
  unfold bl
  split
  · exact blT_in hb hv
  split
  · exact blS_in hb hv
  split
  · split
    · rename_i h
      rw [Int32.lt_iff_toInt_lt, e1] at h
      have h0 : (0 : Int32).toInt = 0 := rfl
      rw [r_256, e1]; omega
    · exact r_256.mpr (by decide)
  split
  · split
    · rename_i h
      rw [Int32.lt_iff_toInt_lt, e2, t_255] at h
      rw [r_256, e2]; omega
    · exact r_256.mpr (by decide)
  split
  · split
    · rename_i h
      rw [Int32.lt_iff_toInt_lt] at h
      rw [r_256, e3]; omega
    · rename_i h
      rw [Int32.lt_iff_toInt_lt] at h
      rw [r_256, e4]; omega
  · exact hv
