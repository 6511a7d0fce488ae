/-! chains of links, by numbers -/
def OG (la : Nat → Nat) (g : Int) (o : Option Nat) : Prop := (o = none ∧ g = -1) ∨ ∃ m : Nat, g = m ∧ o = some (la m)
theorem pb_og {la : Nat → Nat} {k : Int} {o : Option Nat} (h : PB la k o) (h0 : 0 ≤ k) : ∃ g : Int, OG la g o ∧ (-1 ≤ g ∧ g < k) := by
  rcases h with h | ⟨m, h1, h2⟩
  · exact ⟨-1, Or.inl ⟨h, rfl⟩, by omega, by omega⟩
  · exact ⟨m, Or.inr ⟨m, rfl, h2⟩, by omega, h1⟩
theorem og_some {la : Nat → Nat} {g : Int} {b : Nat} (h : OG la g (some b)) : ∃ m : Nat, g = m ∧ b = la m := by
  rcases h with ⟨h, -⟩ | ⟨m, h1, h2⟩
  · cases h
  · exact ⟨m, h1, Option.some.inj h2⟩
theorem og_none {la : Nat → Nat} {g : Int} (h : OG la g none) : g = -1 := by
  rcases h with ⟨-, h⟩ | ⟨m, h1, h2⟩
  · exact h
  · cases h2
theorem og_pb {la : Nat → Nat} {g k : Int} {o : Option Nat} (h : OG la g o) (hg : g < k) : PB la k o := by
  rcases h with ⟨h, -⟩ | ⟨m, h1, h2⟩
  · exact Or.inl h
  · exact Or.inr ⟨m, by omega, h2⟩
/-- the answer of pastClosed: a row in use whose next literal there is -/
def RES (R : Int) (ra : Nat → Nat) (rf : Nat → RT) (o : Option Nat) : Prop := o = none ∨ ∃ q : Nat, (q : Int) < R ∧ o = some (ra q) ∧ (rf q).2.2.1.toInt ≤ 5
def k3 (x : Int32) : Int := if x.toInt = 3 then 1 else 0
theorem k3_yes {x : Int32} (h : x.toInt = 3) : k3 x = 1 := if_pos h
theorem k3_no {x : Int32} (h : ¬ x.toInt = 3) : k3 x = 0 := if_neg h
theorem lvs_ext {R Lk S I : Int} {ra la : Nat → Nat} {rf : Nat → RT} {sf sf' : Nat → ST} (h : LVS R Lk S I ra rf la sf) (ho : ∀ j : Nat, (j : Int) < S → sf' j = sf j) : LVS R Lk S I ra rf la sf' := by
  intro j hj
  rw [ho j hj]
  obtain ⟨g1, g2, g3, g4, g5, g6, g7⟩ := h j hj
  exact ⟨g1, g2, g3, g4, g5, g6, fun i hi => by rw [ho i (by omega)]; exact g7 i hi⟩
theorem lvs_nil {R Lk S I : Int} {ra la : Nat → Nat} {rf : Nat → RT} {sf : Nat → ST} (h : S ≤ 0) : LVS R Lk S I ra rf la sf := fun j hj => absurd hj (by omega)
theorem lvr_nil {R Lk : Int} {ra la : Nat → Nat} {rf : Nat → RT} (h : R ≤ 0) : LVR R Lk ra rf la := fun j hj => absurd hj (by omega)
theorem og_lt {la : Nat → Nat} {g : Int} {o : Option Nat} (h : OG la g o) (hg : g < 0) : o = none := by
  rcases h with ⟨h, -⟩ | ⟨m, h1, -⟩
  · exact h
  · omega
