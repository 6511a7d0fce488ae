/-! how far a pool has grown -/
def GR2 (n n' : Nat) (c : Int) : Prop := (n' = n ∧ c ≤ n) ∨ ((n' : Int) = c ∧ (n : Int) ≤ c)
theorem gr2_mc {n n' a : Nat} {c : Int} (h : GR2 n n' c) (e : (a : Int) = c) : a - n = n' - n := by unfold GR2 at h; omega
theorem gr2_trans {n n' n'' : Nat} {c c' : Int} (h : GR2 n n' c) (g : GR2 n' n'' c') (hc : c ≤ c') : GR2 n n'' c' := by unfold GR2 at h g ⊢; omega
theorem gr2_refl {n : Nat} {c : Int} (h : c ≤ n) : GR2 n n c := Or.inl ⟨rfl, h⟩
theorem gr2_same {n n' : Nat} {c : Int} (h1 : n' = n) (h2 : c ≤ n) : GR2 n n' c := Or.inl ⟨h1, h2⟩
theorem gr2_up {n n' : Nat} {c : Int} (h1 : n' = n + 1) (h2 : c = n + 1) : GR2 n n' c := Or.inr ⟨by omega, by omega⟩
theorem gr2_cast {n n' : Nat} {c c' : Int} (h : GR2 n n' c) (e : c = c') : GR2 n n' c' := by rw [← e]; exact h
theorem hasb_le (o k : Int32) : 0 ≤ hasb o k ∧ hasb o k ≤ 1 := by unfold hasb; split <;> omega
/-- a choice that the arithmetic doesn't look into -/
def OrP (p q : Prop) : Prop := p ∨ q
theorem orp_el {p q : Prop} (h : OrP p q) : p ∨ q := h
