/-! longs; what the reference sees -/
theorem lgc (x y : Int64) : ((lg_cmp x y).toInt < 0 ↔ x.toInt < y.toInt) ∧ (0 < (lg_cmp x y).toInt ↔ y.toInt < x.toInt) ∧ ((lg_cmp x y).toInt = 0 ↔ x.toInt = y.toInt) := by
  have e1 : (1 : Int32).toInt = 1 := by decide
  have e0 : (0 : Int32).toInt = 0 := by decide
  have em : (-1 : Int32).toInt = -1 := by decide
  unfold lg_cmp
  simp only [gt_iff_lt, Int64.lt_iff_toInt_lt, ← Int64.toInt_inj]
  split
  · rw [e1]; omega
  · split
    · rw [e0]; omega
    · rw [em]; omega
theorem l_bm {z : Int} (h : -9223372036854775808 ≤ z ∧ z < 9223372036854775808) : z.bmod (2 ^ 64) = z := Int.bmod_eq_of_le (by omega) (by omega)
theorem l_add {x y : Int64} {a b : Int} (hx : x.toInt = a) (hy : y.toInt = b) (h : -9223372036854775808 ≤ a + b ∧ a + b < 9223372036854775808) : (x + y).toInt = a + b := by rw [Int64.toInt_add, hx, hy]; exact l_bm h
theorem l_sub {x y : Int64} {a b : Int} (hx : x.toInt = a) (hy : y.toInt = b) (h : -9223372036854775808 ≤ a - b ∧ a - b < 9223372036854775808) : (x - y).toInt = a - b := by rw [Int64.toInt_sub, hx, hy]; exact l_bm h
theorem i_bd (x : Int32) : -2147483648 ≤ x.toInt ∧ x.toInt < 2147483648 := by
  have h1 := Int32.le_toInt x
  have h2 := Int32.toInt_lt x
  omega
def seeF (f : Nat → Int32) (t p : Int32) : Int32 := if p < t then f p.toNatClampNeg &&& 255 else -1
theorem seeF_yes {f : Nat → Int32} {t p : Int32} (h : p.toInt < t.toInt) : seeF f t p = f p.toNatClampNeg &&& 255 := if_pos ((cv_lt rfl rfl).mpr h)
theorem seeF_no {f : Nat → Int32} {t p : Int32} (h : ¬ p.toInt < t.toInt) : seeF f t p = -1 := if_neg (fun q => h ((cv_lt rfl rfl).mp q))
theorem seeF_or (f : Nat → Int32) (t a b : Int32) : ¬ a.toInt = b.toInt ∨ (seeF f t a).toInt = (seeF f t b).toInt := by
  by_cases h : a.toInt = b.toInt
  · rw [Int32.toInt_inj.mp h]; exact Or.inr rfl
  · exact Or.inl h
