/-! more rows: a static method of another class; the JDK's fill; prefixes -/
theorem gso {Ts : List Cond} (hT : ∀ w ∈ WALL, w ∈ Ts) {own : String} {idx : Nat} {y : MethodName} {cc : ByteArray} {n : Nat} {r : Option FieldType} (h1 : Cond.methodLink own idx y ∈ WALL) (h2 : Cond.static y ∈ WALL) (h4 : Cond.initialized y.cls ∈ WALL) (h5 : Cond.code y cc n r ∈ WALL) : GoodIn Ts (va_wsS own idx y (Ws y cc n r)) := by
  intro w hw
  have hw : w ∈ ([.methodLink own idx y, .static y, .initialized y.cls] : List Cond) ++ Ws y cc n r := hw
  rcases List.mem_append.mp hw with h | h
  · have hh : w ∈ WALL := by
      rcases List.mem_cons.mp h with e | h
      · rw [e]; exact h1
      rcases List.mem_cons.mp h with e | h
      · rw [e]; exact h2
      rcases List.mem_cons.mp h with e | h
      · rw [e]; exact h4
      exact absurd h List.not_mem_nil
    exact ⟨hT _ hh, wall_good hh⟩
  · exact gd hT h5 w h
def RJ7 : String := "java/util/Arrays"
abbrev cJ7_fill_53178 : ByteArray := prog_16_method_103_code
def yJ7_fill_53178 : MethodName := ⟨RJ7, "fill", "([II)V"⟩
theorem pre0_keep {t : Int} {f : Nat → Int32} {i x : Int32} (h : Pre0 t f) (hi : t ≤ i.toInt) (h0 : 0 ≤ i.toInt) : Pre0 t (upd f i.toNatClampNeg x) := by
  intro j hj
  have := clamp_toInt (i := i) h0
  rw [pk_un (by omega)]
  exact h j hj
