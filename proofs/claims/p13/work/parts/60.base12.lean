/-! the pools of the class's search: rows, links, steps, by their numbers; pointers are addresses -/
abbrev RT : Type := Int32 × Int32 × Int32 × Option Nat × Option Nat × Option Nat × Int32
abbrev LT : Type := Int32 × Int32 × Int32 × Option Nat
abbrev ST : Type := Option Nat × Int32 × Int32 × Int32 × Int32 × Option Nat × Int32 × Int32 × Int32 × Int32 × Int32 × Int32
abbrev mkR (t : RT) : va_E := .inr (9, [.int t.1, .int t.2.1, .int t.2.2.1, va_rf t.2.2.2.1, va_rf t.2.2.2.2.1, va_rf t.2.2.2.2.2.1, .int t.2.2.2.2.2.2])
abbrev mkL (t : LT) : va_E := .inr (10, [.int t.1, .int t.2.1, .int t.2.2.1, va_rf t.2.2.2])
abbrev mkS (t : ST) : va_E := .inr (11, [va_rf t.1, .int t.2.1, .int t.2.2.1, .int t.2.2.2.1, .int t.2.2.2.2.1, va_rf t.2.2.2.2.2.1, .int t.2.2.2.2.2.2.1, .int t.2.2.2.2.2.2.2.1, .int t.2.2.2.2.2.2.2.2.1, .int t.2.2.2.2.2.2.2.2.2.1, .int t.2.2.2.2.2.2.2.2.2.2.1, .int t.2.2.2.2.2.2.2.2.2.2.2])
def PL (nr : Nat) (ra : Nat → Nat) (rf : Nat → RT) (nl : Nat) (la : Nat → Nat) (lf : Nat → LT) (ns : Nat) (sa : Nat → Nat) (sf : Nat → ST) : va_W := rowsW nr ra (fun i => mkR (rf i)) ++ (rowsW nl la (fun i => mkL (lf i)) ++ rowsW ns sa (fun i => mkS (sf i)))
abbrev wp (X P : va_W) : va_W := X ++ P
theorem gp_setL {X R S : va_W} {n i : Nat} {A : Nat → Nat} {c : Nat → va_E} {e : va_E} (h : i < n) : (X ++ (R ++ (rowsW n A c ++ S))).set (X.length + (R.length + i)) (A i, e) = X ++ (R ++ (rowsW n A (va_up c i e) ++ S)) := by
  have := pl_set (X := X ++ R) (Y := S) (n := n) (A := A) (c := c) (i := i) (e := e) h
  rw [List.length_append, Nat.add_assoc, List.append_assoc X R, List.append_assoc X R] at this
  exact this
theorem gp_pushL {X R S : va_W} {n a : Nat} {A : Nat → Nat} {c : Nat → va_E} {e : va_E} : ((X ++ (R ++ (rowsW n A c ++ S))) ++ [(a, e)]).Perm (X ++ (R ++ (rowsW (n + 1) (va_up A n a) (va_up c n e) ++ S))) := by
  have := pl_push (X := X ++ R) (Y := S) (n := n) (A := A) (c := c) (a := a) (e := e)
  rw [List.append_assoc X R, List.append_assoc X R] at this
  exact this
theorem gp_pushS {X R L : va_W} {n a : Nat} {A : Nat → Nat} {c : Nat → va_E} {e : va_E} : ((X ++ (R ++ (L ++ rowsW n A c))) ++ [(a, e)]).Perm (X ++ (R ++ (L ++ rowsW (n + 1) (va_up A n a) (va_up c n e)))) := by
  have := gp_pushL (X := X) (R := R ++ L) (S := []) (n := n) (A := A) (c := c) (a := a) (e := e)
  rw [List.append_nil, List.append_nil, List.append_assoc R L, List.append_assoc R L] at this
  exact this
section PLX
variable {X : va_W} {nr nl ns i : Nat} {ra la sa : Nat → Nat} {rf : Nat → RT} {lf : Nat → LT} {sf : Nat → ST}
theorem up_map {α β : Type} (g : α → β) (f : Nat → α) (i : Nat) (t : α) : va_up (fun j => g (f j)) i (g t) = fun j => g (va_up f i t j) := by
  funext j
  by_cases e : j = i
  · simp [va_up, e]
  · simp [va_up, e]
theorem up_self {α : Type} (f : Nat → α) (i : Nat) (t : α) : va_up f i t i = t := by simp [va_up]
theorem up_ne {α : Type} {f : Nat → α} {i j : Nat} {t : α} (e : j ≠ i) : va_up f i t j = f j := by simp [va_up, e]
theorem pl_R (h : i < nr) : (wp X (PL nr ra rf nl la lf ns sa sf))[X.length + i]? = some (ra i, mkR (rf i)) := pl_at h
theorem pl_setR {t : RT} (h : i < nr) : (wp X (PL nr ra rf nl la lf ns sa sf)).set (X.length + i) (ra i, mkR t) = wp X (PL nr ra (va_up rf i t) nl la lf ns sa sf) := by
  show (X ++ (rowsW nr ra (fun i => mkR (rf i)) ++ _)).set _ _ = _
  rw [pl_set h, up_map mkR rf i t]; rfl
theorem pl_L (h : i < nl) : (wp X (PL nr ra rf nl la lf ns sa sf))[X.length + (nr + i)]? = some (la i, mkL (lf i)) := by
  show (X ++ (rowsW nr ra (fun i => mkR (rf i)) ++ _))[_]? = _
  rw [← List.append_assoc]
  have := pl_at (X := X ++ rowsW nr ra (fun i => mkR (rf i))) (Y := rowsW ns sa (fun i => mkS (sf i))) (n := nl) (A := la) (c := fun i => mkL (lf i)) h
  rw [List.length_append, rowsW_len, Nat.add_assoc] at this
  exact this
theorem pl_setL {t : LT} (h : i < nl) : (wp X (PL nr ra rf nl la lf ns sa sf)).set (X.length + (nr + i)) (la i, mkL t) = wp X (PL nr ra rf nl la (va_up lf i t) ns sa sf) := by
  have := gp_setL (X := X) (R := rowsW nr ra (fun i => mkR (rf i))) (S := rowsW ns sa (fun i => mkS (sf i))) (n := nl) (A := la) (c := fun i => mkL (lf i)) (e := mkL t) h
  rw [rowsW_len, up_map mkL lf i t] at this
  exact this
theorem pl_S (h : i < ns) : (wp X (PL nr ra rf nl la lf ns sa sf))[X.length + (nr + (nl + i))]? = some (sa i, mkS (sf i)) := by
  show (X ++ (rowsW nr ra (fun i => mkR (rf i)) ++ (rowsW nl la (fun i => mkL (lf i)) ++ rowsW ns sa (fun i => mkS (sf i)))))[_]? = _
  rw [← List.append_assoc, ← List.append_assoc]
  have := pl_at (X := (X ++ rowsW nr ra (fun i => mkR (rf i))) ++ rowsW nl la (fun i => mkL (lf i))) (Y := []) (n := ns) (A := sa) (c := fun i => mkS (sf i)) h
  rw [List.length_append, List.length_append, rowsW_len, rowsW_len, Nat.add_assoc, Nat.add_assoc, List.append_nil] at this
  exact this
theorem pl_setS {t : ST} (h : i < ns) : (wp X (PL nr ra rf nl la lf ns sa sf)).set (X.length + (nr + (nl + i))) (sa i, mkS t) = wp X (PL nr ra rf nl la lf ns sa (va_up sf i t)) := by
  show (X ++ (rowsW nr ra (fun i => mkR (rf i)) ++ (rowsW nl la (fun i => mkL (lf i)) ++ rowsW ns sa (fun i => mkS (sf i))))).set _ _ = X ++ (rowsW nr ra (fun i => mkR (rf i)) ++ (rowsW nl la (fun i => mkL (lf i)) ++ rowsW ns sa (fun j => mkS (va_up sf i t j))))
  rw [← List.append_assoc, ← List.append_assoc, ← List.append_assoc, ← List.append_assoc]
  have := pl_set (X := (X ++ rowsW nr ra (fun i => mkR (rf i))) ++ rowsW nl la (fun i => mkL (lf i))) (Y := []) (n := ns) (A := sa) (c := fun i => mkS (sf i)) (e := mkS t) h
  rw [List.length_append, List.length_append, rowsW_len, rowsW_len, Nat.add_assoc, Nat.add_assoc, List.append_nil, List.append_nil] at this
  rw [this, up_map mkS sf i t]
theorem pl_pushR {a : Nat} {t : RT} : (wp X (PL nr ra rf nl la lf ns sa sf) ++ [(a, mkR t)]).Perm (wp X (PL (nr + 1) (va_up ra nr a) (va_up rf nr t) nl la lf ns sa sf)) := by
  have := pl_push (X := X) (Y := rowsW nl la (fun i => mkL (lf i)) ++ rowsW ns sa (fun i => mkS (sf i))) (n := nr) (A := ra) (c := fun i => mkR (rf i)) (a := a) (e := mkR t)
  rw [up_map mkR rf nr t] at this
  exact this
theorem pl_pushL {a : Nat} {t : LT} : (wp X (PL nr ra rf nl la lf ns sa sf) ++ [(a, mkL t)]).Perm (wp X (PL nr ra rf (nl + 1) (va_up la nl a) (va_up lf nl t) ns sa sf)) := by
  have := gp_pushL (X := X) (R := rowsW nr ra (fun i => mkR (rf i))) (S := rowsW ns sa (fun i => mkS (sf i))) (n := nl) (A := la) (c := fun i => mkL (lf i)) (a := a) (e := mkL t)
  rw [up_map mkL lf nl t] at this
  exact this
theorem pl_pushS {a : Nat} {t : ST} : (wp X (PL nr ra rf nl la lf ns sa sf) ++ [(a, mkS t)]).Perm (wp X (PL nr ra rf nl la lf (ns + 1) (va_up sa ns a) (va_up sf ns t))) := by
  have := gp_pushS (X := X) (R := rowsW nr ra (fun i => mkR (rf i))) (L := rowsW nl la (fun i => mkL (lf i))) (n := ns) (A := sa) (c := fun i => mkS (sf i)) (a := a) (e := mkS t)
  rw [up_map mkS sf ns t] at this
  exact this
end PLX
section WPX
variable {A0 : Nat → Prop} {D : va_G} {cl : List vw_C} {X P cx : va_W} {H0 H : Heap} {locs : List Loc}
theorem wp_P (h : va_P D cl (wp X P) H) (is : List Nat) (hs : is.map (fun i => X[i]?) = cx.map some) : va_P D cl cx H := fun k q hk => by
  have h1 : va_P D cl (cx ++ P) H := va_P.part h is hs
  exact h1 k q (by rw [List.getElem?_append_left (List.getElem?_eq_some_iff.mp hk).1]; exact hk)
theorem wp_D (h : va_D A0 (wp X P)) (is : List Nat) (hn : va_nd is = true) (hs : is.map (fun i => X[i]?) = cx.map some) : va_D A0 cx := by
  have h1 : va_D A0 (cx ++ P) := va_D.part h is hn hs
  refine h1.by id (fun k q hq => ?_) (fun i j _ _ e => e)
  show (cx ++ P)[k]? = some q
  rw [List.getElem?_append_left (List.getElem?_eq_some_iff.mp hq).1]
  exact hq
theorem wp_free (hD : va_D A0 (wp X P)) (hS : va_S A0 H0 H locs) (hA : ∀ q, H0.size ≤ q → A0 q) (isC : List Nat) (hC : isC.map (fun i => X[i]?) = cx.map some) : ∀ q, va_A cx H.size q → A0 q := by
  intro q h
  refine va_freeP (pl := P) hD hS hA isC hC q ?_
  rcases h with ⟨k, e, h⟩ | h
  · exact Or.inl ⟨k, e, by rw [List.getElem?_append_left (List.getElem?_eq_some_iff.mp h).1]; exact h⟩
  · exact Or.inr h
end WPX
section QROWS
variable {p : Program} {l : Launch} {e : Env} {R : Room} {s : State} {m : MethodId} {args : Array Value} {below : List Frame} {meth : Method} {c : Code} {H : Heap} {locs : List Loc} {cells slots : Nat} {Q : State → Prop}
variable {cc : ByteArray} {pc : Nat} {ls : Array Slot} {rest : List Value}
theorem lv_aload_nQ (hexec : p.tables.exec = Jvm.exec) (hb : c.code = cc) {k : Fin 4} {i : Nat} {o : Option Nat} (hdg : decode cc pc = .ok (.aload_n k, 1)) (hi : (k : Nat) = i) (hl : ls[i]? = some (.val (va_rf o)))
    (kk : W p l e R s m args below meth c H locs cells slots Q (F0 m (pc + 1) ls (va_rf o :: rest))) : W p l e R s m args below meth c H locs cells slots Q (F0 m pc ls rest) := by
  cases o with
  | none => exact lv_aload_nN hexec hb hdg hi hl kk
  | some a => exact lv_aload_n hexec hb hdg hi hl kk
theorem lv_aloadQ (hexec : p.tables.exec = Jvm.exec) (hb : c.code = cc) {i : Nat} {o : Option Nat} (hdg : decode cc pc = .ok (.aload i, 2)) (hl : ls[i]? = some (.val (va_rf o)))
    (kk : W p l e R s m args below meth c H locs cells slots Q (F0 m (pc + 2) ls (va_rf o :: rest))) : W p l e R s m args below meth c H locs cells slots Q (F0 m pc ls rest) := by
  cases o with
  | none => exact lv_aloadN hexec hb hdg hl kk
  | some a => exact lv_aload hexec hb hdg hl kk
theorem lv_astore_nQ (hexec : p.tables.exec = Jvm.exec) (hb : c.code = cc) {k : Fin 4} {i nL : Nat} {o : Option Nat} {lv lv' : List (Nat × Value)} (hdg : decode cc pc = .ok (.astore_n k, 1)) (hi : (k : Nat) = i) (h : lv_has ls nL lv) (hn : i < nL) (hl : (i, va_rf o) :: lv.filter (fun q => !(q.1 == i) && !(q.1 + 1 == i && q.2.category == 2)) = lv')
    (kk : ∀ ls' : Array Slot, lv_has ls' nL lv' → W p l e R s m args below meth c H locs cells slots Q (F0 m (pc + 1) ls' rest)) : W p l e R s m args below meth c H locs cells slots Q (F0 m pc ls (va_rf o :: rest)) := by
  cases o with
  | none => exact lv_astore_nN hexec hb hdg hi h hn hl kk
  | some a => exact lv_astore_n hexec hb hdg hi h hn hl kk
theorem lv_astoreQ (hexec : p.tables.exec = Jvm.exec) (hb : c.code = cc) {i nL : Nat} {o : Option Nat} {lv lv' : List (Nat × Value)} (hdg : decode cc pc = .ok (.astore i, 2)) (h : lv_has ls nL lv) (hn : i < nL) (hl : (i, va_rf o) :: lv.filter (fun q => !(q.1 == i) && !(q.1 + 1 == i && q.2.category == 2)) = lv')
    (kk : ∀ ls' : Array Slot, lv_has ls' nL lv' → W p l e R s m args below meth c H locs cells slots Q (F0 m (pc + 2) ls' rest)) : W p l e R s m args below meth c H locs cells slots Q (F0 m pc ls (va_rf o :: rest)) := by
  cases o with
  | none => exact lv_astoreN hexec hb hdg h hn hl kk
  | some a => exact lv_astore hexec hb hdg h hn hl kk
end QROWS
theorem rf_cat (o : Option Nat) : (va_rf o).category = 1 := by cases o <;> rfl
theorem rf_nar (o : Option Nat) (C : String) : narrow (.object C) (va_rf o) = va_rf o := by cases o <;> rfl
theorem rf_fit (o : Option Nat) (C : String) : fits (.object C) (va_rf o) = true := by cases o <;> rfl
section PLY
variable {X : va_W} {nr nl ns i j : Nat} {ra la sa : Nat → Nat} {rf : Nat → RT} {lf : Nat → LT} {sf : Nat → ST}
theorem up_up {α : Type} (f : Nat → α) (i : Nat) (t u : α) : va_up (va_up f i t) i u = va_up f i u := by
  funext j
  by_cases e : j = i
  · simp [va_up, e]
  · simp [va_up, e]
theorem pl_R2 {t : RT} (h : i < nr) : (wp X (PL nr ra (va_up rf i t) nl la lf ns sa sf))[X.length + i]? = some (ra i, mkR t) := by rw [pl_R h, up_self]
theorem pl_R3 {t : RT} (h : j < nr) (e : j ≠ i) : (wp X (PL nr ra (va_up rf i t) nl la lf ns sa sf))[X.length + j]? = some (ra j, mkR (rf j)) := by rw [pl_R h, up_ne e]
theorem pl_setR2 {t u : RT} (h : i < nr) : (wp X (PL nr ra (va_up rf i t) nl la lf ns sa sf)).set (X.length + i) (ra i, mkR u) = wp X (PL nr ra (va_up rf i u) nl la lf ns sa sf) := by rw [pl_setR h, up_up]
theorem pl_L2 {t : LT} (h : i < nl) : (wp X (PL nr ra rf nl la (va_up lf i t) ns sa sf))[X.length + (nr + i)]? = some (la i, mkL t) := by rw [pl_L h, up_self]
theorem pl_L3 {t : LT} (h : j < nl) (e : j ≠ i) : (wp X (PL nr ra rf nl la (va_up lf i t) ns sa sf))[X.length + (nr + j)]? = some (la j, mkL (lf j)) := by rw [pl_L h, up_ne e]
theorem pl_setL2 {t u : LT} (h : i < nl) : (wp X (PL nr ra rf nl la (va_up lf i t) ns sa sf)).set (X.length + (nr + i)) (la i, mkL u) = wp X (PL nr ra rf nl la (va_up lf i u) ns sa sf) := by rw [pl_setL h, up_up]
theorem pl_S2 {t : ST} (h : i < ns) : (wp X (PL nr ra rf nl la lf ns sa (va_up sf i t)))[X.length + (nr + (nl + i))]? = some (sa i, mkS t) := by rw [pl_S h, up_self]
theorem pl_S3 {t : ST} (h : j < ns) (e : j ≠ i) : (wp X (PL nr ra rf nl la lf ns sa (va_up sf i t)))[X.length + (nr + (nl + j))]? = some (sa j, mkS (sf j)) := by rw [pl_S h, up_ne e]
theorem pl_setS2 {t u : ST} (h : i < ns) : (wp X (PL nr ra rf nl la lf ns sa (va_up sf i t))).set (X.length + (nr + (nl + i))) (sa i, mkS u) = wp X (PL nr ra rf nl la lf ns sa (va_up sf i u)) := by rw [pl_setS h, up_up]
end PLY
/-! what the pools keep -/
def PB (la : Nat → Nat) (k : Int) (o : Option Nat) : Prop := o = none ∨ ∃ m : Nat, (m : Int) < k ∧ o = some (la m)
theorem pb_mono {la la' : Nat → Nat} {k k' : Int} {o : Option Nat} (h : PB la k o) (hk : k ≤ k') (ha : ∀ m : Nat, (m : Int) < k → la' m = la m) : PB la' k' o := by
  rcases h with h | ⟨m, h1, h2⟩
  · exact Or.inl h
  · exact Or.inr ⟨m, by omega, by rw [ha m h1]; exact h2⟩
theorem pb_none {la : Nat → Nat} {k : Int} : PB la k none := Or.inl rfl
def PFX (n cap : Nat) (f : Nat → Option Nat) (A : Nat → Nat) : Prop := n ≤ cap ∧ (∀ i : Nat, i < n → f i = some (A i)) ∧ (∀ i : Nat, n ≤ i → i < cap → f i = none)
theorem pfx_push {n cap a : Nat} {f : Nat → Option Nat} {A : Nat → Nat} {k : Int32} (h : PFX n cap f A) (hk : k.toInt = n) (hn : n < cap) : PFX (n + 1) cap (va_up f k.toNatClampNeg (some a)) (va_up A n a) := by
  have ck := clamp_nat (i := k) (by omega)
  have ek : k.toNatClampNeg = n := by omega
  rw [ek]
  refine ⟨by omega, fun i hi => ?_, fun i h1 h2 => ?_⟩
  · by_cases e : i = n
    · rw [e, up_self, up_self]
    · rw [up_ne e, up_ne e]; exact h.2.1 i (by omega)
  · rw [up_ne (by omega)]; exact h.2.2 i (by omega) h2
/-- rows: -/
def ROK (nr : Nat) (ra : Nat → Nat) (rf : Nat → RT) (nl : Nat) (la : Nat → Nat) : Prop := ∀ i : Nat, i < nr → (0 ≤ (rf i).1.toInt ∧ (rf i).1.toInt ≤ 29) ∧ (-1 ≤ (rf i).2.1.toInt ∧ (rf i).2.1.toInt ≤ 5) ∧ (0 ≤ (rf i).2.2.1.toInt ∧ (rf i).2.2.1.toInt ≤ 7) ∧ PB la nl (rf i).2.2.2.1 ∧ PB la nl (rf i).2.2.2.2.1 ∧ PB ra nr (rf i).2.2.2.2.2.1 ∧ (-1 ≤ (rf i).2.2.2.2.2.2.toInt ∧ (rf i).2.2.2.2.2.2.toInt ≤ 179)
def LOK (nl : Nat) (la : Nat → Nat) (lf : Nat → LT) : Prop := ∀ i : Nat, i < nl → (0 ≤ (lf i).1.toInt ∧ (lf i).1.toInt ≤ 29) ∧ (0 ≤ (lf i).2.1.toInt ∧ (lf i).2.1.toInt ≤ 5) ∧ PB la i (lf i).2.2.2
def SOK (ns : Nat) (sf : Nat → ST) (nr : Nat) (ra : Nat → Nat) (nl : Nat) (la : Nat → Nat) : Prop := ∀ j : Nat, j < ns → PB ra nr (sf j).1 ∧ (0 ≤ (sf j).2.2.1.toInt ∧ (sf j).2.2.1.toInt ≤ 29) ∧ (0 ≤ (sf j).2.2.2.1.toInt ∧ (sf j).2.2.2.1.toInt ≤ 5) ∧ (0 ≤ (sf j).2.2.2.2.1.toInt ∧ (sf j).2.2.2.2.1.toInt ≤ 1) ∧ PB la nl (sf j).2.2.2.2.2.1 ∧ (0 ≤ (sf j).2.2.2.2.2.2.1.toInt ∧ (sf j).2.2.2.2.2.2.1.toInt ≤ 96) ∧ (0 ≤ (sf j).2.2.2.2.2.2.2.1.toInt ∧ (sf j).2.2.2.2.2.2.2.1.toInt ≤ 1)
abbrev sRM (t : ST) : Int := t.2.2.2.2.2.2.2.2.2.2.1.toInt
abbrev sLM (t : ST) : Int := t.2.2.2.2.2.2.2.2.2.2.2.toInt
abbrev sIM (t : ST) : Int := t.2.2.2.2.2.2.2.2.2.1.toInt
/-- the rows, links and steps that are in use -/
def LVR (R Lk : Int) (ra : Nat → Nat) (rf : Nat → RT) (la : Nat → Nat) : Prop := ∀ i : Nat, (i : Int) < R → PB la Lk (rf i).2.2.2.1 ∧ PB la Lk (rf i).2.2.2.2.1 ∧ PB ra i (rf i).2.2.2.2.2.1
def LVS (R Lk S I : Int) (ra : Nat → Nat) (rf : Nat → RT) (la : Nat → Nat) (sf : Nat → ST) : Prop := ∀ j : Nat, (j : Int) < S → (∃ q : Nat, (q : Int) < sRM (sf j) ∧ (sf j).1 = some (ra q) ∧ (rf q).2.2.1.toInt ≤ 5) ∧ PB la (sLM (sf j)) (sf j).2.2.2.2.2.1 ∧ (0 ≤ sRM (sf j) ∧ sRM (sf j) ≤ R ∧ sRM (sf j) ≤ 1 + 2 * j) ∧ (0 ≤ sLM (sf j) ∧ sLM (sf j) ≤ Lk ∧ sLM (sf j) ≤ j + sIM (sf j) - 1) ∧ (1 ≤ sIM (sf j) ∧ sIM (sf j) ≤ I) ∧ (∀ i : Nat, (i : Int) < sRM (sf j) → PB la (sLM (sf j)) (rf i).2.2.2.1 ∧ PB la (sLM (sf j)) (rf i).2.2.2.2.1) ∧ (∀ k : Nat, k < j → sRM (sf k) ≤ sRM (sf j) ∧ sLM (sf k) ≤ sLM (sf j) ∧ sIM (sf k) ≤ sIM (sf j))
theorem pfx_none {n cap : Nat} {f : Nat → Option Nat} {A : Nat → Nat} {k : Int32} (h : PFX n cap f A) (h0 : 0 ≤ k.toInt ∧ k.toInt ≤ n) (e : none = f k.toNatClampNeg) : k.toInt = n := by
  have ck := clamp_nat (i := k) h0.1
  by_cases c : k.toNatClampNeg < n
  · rw [h.2.1 _ c] at e; cases e
  · omega
theorem pfx_some {n cap b : Nat} {f : Nat → Option Nat} {A : Nat → Nat} {k : Int32} (h : PFX n cap f A) (h0 : 0 ≤ k.toInt ∧ k.toInt < cap) (e : some b = f k.toNatClampNeg) : k.toInt < n := by
  have ck := clamp_nat (i := k) h0.1
  by_cases c : n ≤ k.toNatClampNeg
  · rw [h.2.2 _ c (by omega)] at e; cases e
  · omega
theorem pfx_at {n cap : Nat} {f : Nat → Option Nat} {A : Nat → Nat} {k : Int32} {i : Nat} {o : Option Nat} (h : PFX n cap f A) (e : o = f k.toNatClampNeg) (hi : k.toInt = i) (hn : i < n) : o = some (A i) := by
  have ck := clamp_nat (i := k) (by omega)
  have ei : k.toNatClampNeg = i := by omega
  rw [e, ei]; exact h.2.1 i hn
theorem rok_push {nr nl a : Nat} {ra la : Nat → Nat} {rf : Nat → RT} (h : ROK nr ra rf nl la) : ROK (nr + 1) (va_up ra nr a) (va_up rf nr (0, 0, 0, none, none, none, 0)) nl la := by
  have e0 : (0 : Int32).toInt = 0 := by decide
  intro i hi
  by_cases e : i = nr
  · rw [e, up_self]
    dsimp only
    rw [e0]
    exact ⟨by omega, by omega, by omega, pb_none, pb_none, pb_none, by omega⟩
  · rw [up_ne e]
    obtain ⟨h1, h2, h3, h4, h5, h6, h7⟩ := h i (by omega)
    exact ⟨h1, h2, h3, h4, h5, pb_mono h6 (by omega) (fun m hm => up_ne (by omega)), h7⟩
theorem rok_set {nr nl k : Nat} {ra la : Nat → Nat} {rf rf' : Nat → RT} {a b c d : Int32} {x y z : Option Nat} (h : ROK nr ra rf nl la) (ho : ∀ j : Nat, j ≠ k → rf' j = rf j) (hs : rf' k = (a, b, c, x, y, z, d)) (ha : 0 ≤ a.toInt ∧ a.toInt ≤ 29) (hb : -1 ≤ b.toInt ∧ b.toInt ≤ 5) (hc : 0 ≤ c.toInt ∧ c.toInt ≤ 7) (hx : PB la nl x) (hy : PB la nl y) (hz : PB ra nr z) (hd : -1 ≤ d.toInt ∧ d.toInt ≤ 179) : ROK nr ra rf' nl la := by
  intro i hi
  by_cases e : i = k
  · rw [e, hs]; exact ⟨ha, hb, hc, hx, hy, hz, hd⟩
  · rw [ho i e]; exact h i hi
theorem lok_push {nl a : Nat} {la : Nat → Nat} {lf : Nat → LT} (h : LOK nl la lf) : LOK (nl + 1) (va_up la nl a) (va_up lf nl (0, 0, 0, none)) := by
  have e0 : (0 : Int32).toInt = 0 := by decide
  intro i hi
  by_cases e : i = nl
  · rw [e, up_self]
    dsimp only
    rw [e0]
    exact ⟨by omega, by omega, pb_none⟩
  · rw [up_ne e]
    obtain ⟨h1, h2, h3⟩ := h i (by omega)
    exact ⟨h1, h2, pb_mono h3 (by omega) (fun m hm => up_ne (by omega))⟩
theorem lok_set {nl k : Nat} {la : Nat → Nat} {lf lf' : Nat → LT} {a b c : Int32} {x : Option Nat} (h : LOK nl la lf) (ho : ∀ j : Nat, j ≠ k → lf' j = lf j) (hs : lf' k = (a, b, c, x)) (ha : 0 ≤ a.toInt ∧ a.toInt ≤ 29) (hb : 0 ≤ b.toInt ∧ b.toInt ≤ 5) (hx : PB la k x) : LOK nl la lf' := by
  intro i hi
  by_cases e : i = k
  · rw [e, hs]; exact ⟨ha, hb, hx⟩
  · rw [ho i e]; exact h i hi
theorem rok_la {nr nl nl' : Nat} {ra la la' : Nat → Nat} {rf : Nat → RT} (h : ROK nr ra rf nl la) (hn : nl ≤ nl') (ha : ∀ m : Nat, m < nl → la' m = la m) : ROK nr ra rf nl' la' := fun i hi => by
  obtain ⟨h1, h2, h3, h4, h5, h6, h7⟩ := h i hi
  exact ⟨h1, h2, h3, pb_mono h4 (by omega) (fun m hm => ha m (by omega)), pb_mono h5 (by omega) (fun m hm => ha m (by omega)), h6, h7⟩
theorem sok_mono {ns nr nr' nl nl' : Nat} {ra ra' la la' : Nat → Nat} {sf : Nat → ST} (h : SOK ns sf nr ra nl la) (hr : nr ≤ nr') (har : ∀ m : Nat, m < nr → ra' m = ra m) (hn : nl ≤ nl') (ha : ∀ m : Nat, m < nl → la' m = la m) : SOK ns sf nr' ra' nl' la' := fun j hj => by
  obtain ⟨h1, h2, h3, h4, h5, h6, h7⟩ := h j hj
  exact ⟨pb_mono h1 (by omega) (fun m hm => har m (by omega)), h2, h3, h4, pb_mono h5 (by omega) (fun m hm => ha m (by omega)), h6, h7⟩
theorem sok_push {ns nr nl : Nat} {ra la : Nat → Nat} {sf : Nat → ST} (h : SOK ns sf nr ra nl la) : SOK (ns + 1) (va_up sf ns (none, 0, 0, 0, 0, none, 0, 0, 0, 0, 0, 0)) nr ra nl la := by
  have e0 : (0 : Int32).toInt = 0 := by decide
  intro j hj
  by_cases e : j = ns
  · rw [e, up_self]
    dsimp only
    rw [e0]
    exact ⟨pb_none, by omega, by omega, by omega, pb_none, by omega, by omega⟩
  · rw [up_ne e]; exact h j (by omega)
