/-! what a call did not use comes back -/
def hs (H : Heap) : Nat := H.foldl (fun n c => n + c.slots.size) 0
section RF
variable {p : Program} {l : Launch} {e : Env} {R : Room} {s : State} {m : MethodId} {args : Array Value} {below : List Frame} {meth : Method} {c : Code} {T : State} {H : Heap} {locs : List Loc} {cells slots : Nat} {Q : State → Prop} {g : JFrame}
theorem st_hs (X : Stand p l e R s m args below meth c T locs cells slots) : hs T.heap = T.slotsUsed := by
  have h := X.book
  unfold State.slotsTrue at h
  exact (eq_of_beq h).symm
theorem st_hs0 (X : Stand p l e R s m args below meth c T locs cells slots) : hs s.heap = s.slotsUsed := by
  have h := X.room
  simp only [State.hasRoom, Bool.and_eq_true] at h
  have h2 := h.2
  unfold State.slotsTrue at h2
  exact (eq_of_beq h2).symm
theorem w_bound (k : H.size ≤ s.heap.size + cells → hs H ≤ hs s.heap + slots → W p l e R s m args below meth c H locs cells slots Q g) : W p l e R s m args below meth c H locs cells slots Q g := fun T hT X =>
  k (by rw [← hT]; exact X.heapSize) (by rw [← hT, st_hs X, st_hs0 X]; exact X.used) T hT X
theorem w_refund {k n : Nat} (h1 : H.size ≤ s.heap.size + k) (h2 : hs H ≤ hs s.heap + n) (kk : W p l e R s m args below meth c H locs k n Q g) : W p l e R s m args below meth c H locs cells slots Q g := fun T hT X => by
  have e1 := st_hs X
  have e0 := st_hs0 X
  rw [hT] at e1
  have a4 := X.same.2.2.2.1
  have a5 : (T.setVm s.vm).slotsUsed = T.slotsUsed := rfl
  have a3 : (T.setVm s.vm).heap.size = H.size := by rw [← hT]; rfl
  exact kk T hT { X with same := ⟨X.same.1, X.same.2.1, by rw [a3]; exact h1, a4, by omega, X.same.2.2.2.2.2⟩ }
end RF
def PRE2 (D : va_G) (cl : List vw_C) (tys : List (ClassId × FieldType)) (ws : va_W) (sz su : Nat) (av : List Value) : Array Value → State → Prop := fun a U => PRE D cl tys ws sz av a U ∧ hs U.heap = su
theorem pre_blind2 {D : va_G} {cl : List vw_C} {tys : List (ClassId × FieldType)} {ws : va_W} {sz su : Nat} {av : List Value} : FrameBlind (PRE2 D cl tys ws sz su av) := fun a U g mk q => ⟨pre_blind a U g mk q.1, q.2⟩
theorem pre_of2 {D : va_G} {cl : List vw_C} {tys : List (ClassId × FieldType)} {ws : va_W} {av : List Value} {A : Nat → Prop} {s : State} {H : Heap} (hP : va_P D cl ws H) (hK : va_K D cl tys s) (hD : va_D A ws) (hN : NW s) : ∀ U : State, U.heap = H → s.WarmedH U.vm → PRE2 D cl tys ws H.size (hs H) av av.toArray U := fun U hU hW => ⟨pre_of hP hK hD hN U hU hW, by rw [hU]⟩
theorem rfd {a b d x y : Nat} (h : a ≤ b + x) (g : d ≤ a + y) : d ≤ b + (x + y) := by omega
section CG
variable {a b c a' b' c' nr nl ns : Nat}
theorem cg_w (h1 : nr ≤ a ∧ nl ≤ b ∧ ns ≤ c) (h2 : a ≤ a' ∧ b ≤ b' ∧ c ≤ c') : ((a - nr) + (b - nl) + (c - ns)) + ((a' - a) + (b' - b) + (c' - c)) ≤ (a' - nr) + (b' - nl) + (c' - ns) := by omega
theorem cg_ws (h1 : nr ≤ a ∧ nl ≤ b ∧ ns ≤ c) (h2 : a ≤ a' ∧ b ≤ b' ∧ c ≤ c') : (7 * (a - nr) + 4 * (b - nl) + 12 * (c - ns)) + (7 * (a' - a) + 4 * (b' - b) + 12 * (c' - c)) ≤ 7 * (a' - nr) + 4 * (b' - nl) + 12 * (c' - ns) := by omega
theorem cg_r (h : a ≤ 361 ∧ b ≤ 210 ∧ c ≤ 180) : ((a - nr) + (b - nl) + (c - ns)) + ((361 - a) + (210 - b) + (180 - c)) ≤ 751 := by omega
theorem cg_rs (h : a ≤ 361 ∧ b ≤ 210 ∧ c ≤ 180) : (7 * (a - nr) + 4 * (b - nl) + 12 * (c - ns)) + (7 * (361 - a) + 4 * (210 - b) + 12 * (180 - c)) ≤ 5527 := by omega
end CG
