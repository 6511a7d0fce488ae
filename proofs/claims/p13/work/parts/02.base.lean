/-! the words that every contract here takes: the good ones of the tables; the nest words apart, as what a state keeps -/
def WALL : List Cond := lw_tbl.filter goodWord
def zz_nest : Cond → Bool
  | .fieldLinkNest .. => true
  | .methodLinkNest .. => true
  | .arrayOver (.object _) => true
  | _ => false
def NWL : List Cond := tables_1.filter zz_nest
def NW (U : State) : Prop := ∀ w ∈ NWL, va_Nw w U
theorem wall_t {w : Cond} (h : w ∈ tables_1) (hg : goodWord w = true) : w ∈ WALL := List.mem_filter.mpr ⟨List.mem_append_right _ h, hg⟩
theorem wall_s {w : Cond} (i : Nat) (h : (k2_sels lw_privs)[i]? = some w) (hg : goodWord w = true) : w ∈ WALL := List.mem_filter.mpr ⟨List.mem_append_left _ (List.mem_of_getElem? h), hg⟩
theorem tb_1 {w : Cond} (i : Nat) (h : tables_1_1[i]? = some w) : w ∈ tables_1 := List.mem_append_left _ (List.mem_of_getElem? h)
theorem tb_2 {w : Cond} (i : Nat) (h : tables_1_2[i]? = some w) : w ∈ tables_1 := List.mem_append_right _ (List.mem_append_left _ (List.mem_of_getElem? h))
theorem tb_3 {w : Cond} (i : Nat) (h : tables_1_3[i]? = some w) : w ∈ tables_1 := List.mem_append_right _ (List.mem_append_right _ (List.mem_append_left _ (List.mem_of_getElem? h)))
theorem tb_4 {w : Cond} (i : Nat) (h : tables_1_4[i]? = some w) : w ∈ tables_1 := List.mem_append_right _ (List.mem_append_right _ (List.mem_append_right _ (List.mem_append_left _ (List.mem_of_getElem? h))))
theorem tb_5 {w : Cond} (i : Nat) (h : tables_1_5[i]? = some w) : w ∈ tables_1 := List.mem_append_right _ (List.mem_append_right _ (List.mem_append_right _ (List.mem_append_right _ (List.mem_append_left _ (List.mem_of_getElem? h)))))
theorem tb_6 {w : Cond} (i : Nat) (h : tables_1_6[i]? = some w) : w ∈ tables_1 := List.mem_append_right _ (List.mem_append_right _ (List.mem_append_right _ (List.mem_append_right _ (List.mem_append_right _ (List.mem_append_left _ (List.mem_of_getElem? h))))))
theorem tb_7 {w : Cond} (i : Nat) (h : tables_1_7[i]? = some w) : w ∈ tables_1 := List.mem_append_right _ (List.mem_append_right _ (List.mem_append_right _ (List.mem_append_right _ (List.mem_append_right _ (List.mem_append_right _ (List.mem_of_getElem? h))))))
theorem nwl_t {w : Cond} (h : w ∈ tables_1) (hg : zz_nest w = true) : w ∈ NWL := List.mem_filter.mpr ⟨h, hg⟩
theorem NW.warm {s U : State} (hW : s.WarmedH U.vm) (h : NW s) : NW U := by
  intro w hw
  have h1 := h w hw
  have h2 : zz_nest w = true := (List.mem_filter.mp hw).2
  cases w with
  | fieldLinkNest => exact va_Nw.warmF hW h1
  | methodLinkNest => exact va_Nw.warmM hW h1
  | arrayOver t =>
    cases t with
    | object C => exact va_AO.moved hW.alike h1
    | _ => simp [zz_nest] at h2
  | _ => simp [zz_nest] at h2
theorem NW.calling {U V : State} (hv : U.vm = V.vm) (h : NW U) : NW V := by
  intro w hw
  have h1 := h w hw
  have h2 : zz_nest w = true := (List.mem_filter.mp hw).2
  cases w with
  | fieldLinkNest => exact va_Nw.same rfl hv h1
  | methodLinkNest => exact va_Nw.same rfl hv h1
  | arrayOver t =>
    cases t with
    | object C => exact va_AO.moved (by rw [hv]; exact Vm.Alike.refl _) h1
    | _ => simp [zz_nest] at h2
  | _ => simp [zz_nest] at h2
theorem NW.of {A : Array Value} {s : State} (h : ∀ w ∈ tables_1, w.before A s = true) : NW s := by
  intro w hw
  have h1 := h w (List.mem_filter.mp hw).1
  have h2 : zz_nest w = true := (List.mem_filter.mp hw).2
  cases w with
  | fieldLinkNest => exact va_Nw.of rfl h1
  | methodLinkNest => exact va_Nw.of rfl h1
  | arrayOver t =>
    cases t with
    | object C => exact va_AO.of h1
    | _ => simp [zz_nest] at h2
  | _ => simp [zz_nest] at h2
theorem NW.use {w : Cond} {A : Array Value} {s : State} (h : NW s) (hw : w ∈ NWL) (ht : w.onTables = true) : w.before A s = true := va_Nw.use ht (h w hw)
/-- what every contract begins with -/
def PRE (D : va_G) (cl : List vw_C) (tys : List (ClassId × FieldType)) (ws : va_W) (sz : Nat) (av : List Value) : Array Value → State → Prop := va_Pc av (fun U => U.heap.size = sz ∧ va_P D cl ws U.heap ∧ va_K D cl tys U ∧ va_D (fun _ => True) ws ∧ NW U)
theorem pre_blind {D : va_G} {cl : List vw_C} {tys : List (ClassId × FieldType)} {ws : va_W} {sz : Nat} {av : List Value} : FrameBlind (PRE D cl tys ws sz av) := fun a U g mk q => by
  obtain ⟨q0, q1, qP, qK, qD, qN⟩ := q
  exact ⟨q0, q1, qP, va_K.moved (u := U) (U := U.calling g mk a) (Vm.Alike.refl U.vm) qK, qD, NW.calling (U := U) (V := U.calling g mk a) rfl qN⟩
theorem pre_of {D : va_G} {cl : List vw_C} {tys : List (ClassId × FieldType)} {ws : va_W} {av : List Value} {A : Nat → Prop} {s : State} {H : Heap} (hP : va_P D cl ws H) (hK : va_K D cl tys s) (hD : va_D A ws) (hN : NW s) : ∀ U : State, U.heap = H → s.WarmedH U.vm → PRE D cl tys ws H.size av av.toArray U := fun U hU hW => ⟨rfl, by rw [hU], by rw [hU]; exact hP, va_K.moved hW.alike hK, hD.weaken (fun _ _ _ _ => trivial), NW.warm hW hN⟩
abbrev Ws (y : MethodName) (cc : ByteArray) (n : Nat) (r : Option FieldType) : List Cond := .code y cc n r :: WALL
theorem wall_good {w : Cond} (h : w ∈ WALL) : (w.onTables && w.keeps) = true ∨ ∃ ty, w = .arrayClass ty := good_of_word (List.mem_filter.mp h).2
theorem gd {Ts : List Cond} (hT : ∀ w ∈ WALL, w ∈ Ts) {y : MethodName} {cc : ByteArray} {n : Nat} {r : Option FieldType} (h5 : Cond.code y cc n r ∈ WALL) : GoodIn Ts (Ws y cc n r) := fun w hw => (List.mem_cons.mp hw).elim (fun e => by rw [e]; exact ⟨hT _ h5, wall_good h5⟩) (fun h => ⟨hT _ h, wall_good h⟩)
theorem gv {Ts : List Cond} (hT : ∀ w ∈ WALL, w ∈ Ts) {own : String} {idx : Nat} {C : String} {y : MethodName} {cc : ByteArray} {n : Nat} {r : Option FieldType} (h1 : Cond.methodLink own idx y ∈ WALL) (h2 : Cond.instanceMethod y ∈ WALL) (h3 : Cond.selects C y y ∈ WALL) (h4 : Cond.initialized C ∈ WALL) (h5 : Cond.code y cc n r ∈ WALL) : GoodIn Ts (wsV own idx C y (Ws y cc n r)) := by
  intro w hw
  have hw : w ∈ ([.methodLink own idx y, .instanceMethod y, .selects C y y, .initialized C] : List Cond) ++ Ws y cc n r := hw
  rcases List.mem_append.mp hw with h | h
  · have hh : w ∈ WALL := by
      rcases List.mem_cons.mp h with e | h
      · rw [e]; exact h1
      rcases List.mem_cons.mp h with e | h
      · rw [e]; exact h2
      rcases List.mem_cons.mp h with e | h
      · rw [e]; exact h3
      rcases List.mem_cons.mp h with e | h
      · rw [e]; exact h4
      exact absurd h List.not_mem_nil
    exact ⟨hT _ hh, wall_good hh⟩
  · exact gd hT h5 w h
theorem gs {Ts : List Cond} (hT : ∀ w ∈ WALL, w ∈ Ts) {own : String} {idx : Nat} {y : MethodName} {cc : ByteArray} {n : Nat} {r : Option FieldType} (h1 : Cond.methodLink own idx y ∈ WALL) (h2 : Cond.static y ∈ WALL) (h4 : Cond.initialized own ∈ WALL) (h5 : Cond.code y cc n r ∈ WALL) : GoodIn Ts (wsS own idx y (Ws y cc n r)) := by
  intro w hw
  have hw : w ∈ ([.methodLink own idx y, .static y, .initialized own] : List Cond) ++ Ws y cc n r := hw
  rcases List.mem_append.mp hw with h | h
  · have hh : w ∈ WALL := by
      rcases List.mem_cons.mp h with e | h
      · rw [e]; exact h1
      rcases List.mem_cons.mp h with e | h
      · rw [e]; exact h2
      rcases List.mem_cons.mp h with e | h
      · rw [e]; exact h4
      exact absurd h List.not_mem_nil
    exact ⟨hT _ hh, wall_good hh⟩
  · exact gd hT h5 w h
/-- words of a class by their places -/
theorem iw_of {ws : List Cond} (hm : ∀ w ∈ ws, w ∈ tables_1) (hg : ws.all goodWord = true) : ∀ w ∈ ws, w ∈ WALL := fun w h => wall_t (hm w h) (List.all_eq_true.mp hg w h)
/-- comparisons as comparisons of integers -/
theorem cv_lt {x y : Int32} {a b : Int} (ha : x.toInt = a) (hb : y.toInt = b) : x < y ↔ a < b := by rw [← ha, ← hb]; exact Int32.lt_iff_toInt_lt
theorem cv_le {x y : Int32} {a b : Int} (ha : x.toInt = a) (hb : y.toInt = b) : x ≤ y ↔ a ≤ b := by rw [← ha, ← hb]; exact Int32.le_iff_toInt_le
theorem cv_eq {x y : Int32} {a b : Int} (ha : x.toInt = a) (hb : y.toInt = b) : x = y ↔ a = b := by rw [← ha, ← hb]; exact ⟨fun h => by rw [h], fun h => Int32.toInt_inj.mp h⟩
theorem cl_lt {x y : Int64} : x < y ↔ x.toInt < y.toInt := Int64.lt_iff_toInt_lt
theorem cl_le {x y : Int64} : x ≤ y ↔ x.toInt ≤ y.toInt := Int64.le_iff_toInt_le
