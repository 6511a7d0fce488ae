/-! longs -/
theorem l_bd (x : Int64) : -9223372036854775808 ≤ x.toInt ∧ x.toInt < 9223372036854775808 := by
  have h1 := Int64.le_toInt x
  have h2 := Int64.toInt_lt x
  omega
theorem l_div {x y : Int64} {a b : Int} (hx : x.toInt = a) (hy : y.toInt = b) (h : 0 ≤ a ∧ 0 < b) : (x / y).toInt = a / b := by
  have e0 : (0 : Int64).toInt = 0 := by decide
  obtain ⟨n, hn, e⟩ := pk_lOf (x := x) (fun q => by have := Int64.lt_iff_toInt_lt.mp q; omega)
  obtain ⟨d, hd, f⟩ := pk_lOf (x := y) (fun q => by have := Int64.lt_iff_toInt_lt.mp q; omega)
  have ea : a = n := by rw [← hx, e]; exact pk_lT hn
  have eb : b = d := by rw [← hy, f]; exact pk_lT hd
  rw [e, f, pk_lDiv hn (by omega) hd, pk_lT (Nat.lt_of_le_of_lt (Nat.div_le_self n d) hn), ea, eb]
  exact Int.natCast_ediv n d
