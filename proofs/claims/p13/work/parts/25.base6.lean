/-! literals of the reference: those of the clauses from a to b have their terms among the nodes from lo to n -/
def TM (lo n : Int) (h : Nat → Nat) (a b : Int) (mn tm : Nat → Int32) : Prop := ∀ c l : Nat, a ≤ (c : Int) → (c : Int) < b → (l : Int) < (mn c).toInt → l < 6 → lo ≤ (tm (6 * c + l)).toInt ∧ (tm (6 * c + l)).toInt < n ∧ h ((tm (6 * c + l)).toInt.toNat) = 7
theorem tm_mono {lo n n' a b : Int} {h h' : Nat → Nat} {mn tm : Nat → Int32} (ht : TM lo n h a b mn tm) (h0 : 0 ≤ lo) (hn : n ≤ n') (hh : ∀ y : Nat, (y : Int) < n → h' y = h y) : TM lo n' h' a b mn tm := by
  intro c l h1 h2 h3 h4
  obtain ⟨x, y, z⟩ := ht c l h1 h2 h3 h4
  exact ⟨x, by omega, by rw [hh _ (by omega)]; exact z⟩
theorem tm_less {lo n a b b' : Int} {h : Nat → Nat} {mn tm : Nat → Int32} (ht : TM lo n h a b mn tm) (hb : b' ≤ b) : TM lo n h a b' mn tm := fun c l h1 h2 h3 h4 => ht c l h1 (by omega) h3 h4
/-- the clause b begins: it has no literal yet -/
theorem tm_zero {lo n a b : Int} {h : Nat → Nat} {mn tm : Nat → Int32} {i : Int32} (ht : TM lo n h a b mn tm) (hi : i.toInt = b) (h0 : 0 ≤ b) : TM lo n h a (b + 1) (upd mn i.toNatClampNeg 0) tm := by
  intro c l h1 h2 h3 h4
  have ec := clamp_nat (i := i) (by omega)
  by_cases e : c = i.toNatClampNeg
  · rw [e, pk_us] at h3
    have e0 : (0 : Int32).toInt = 0 := by decide
    omega
  · rw [pk_un e] at h3
    exact ht c l h1 (by omega) h3 h4
/-- a term is laid where no literal is yet -/
theorem tm_lay {lo n a b : Int} {h : Nat → Nat} {mn tm : Nat → Int32} {i k x : Int32} (ht : TM lo n h a b mn tm) (hi : 0 ≤ i.toInt) (hk : k.toInt = 6 * i.toInt + (mn i.toNatClampNeg).toInt) (hm : 0 ≤ (mn i.toNatClampNeg).toInt ∧ (mn i.toNatClampNeg).toInt ≤ 5) : TM lo n h a b mn (upd tm k.toNatClampNeg x) := by
  intro c l h1 h2 h3 h4
  have ei := clamp_nat (i := i) hi
  have ek := clamp_nat (i := k) (by omega)
  by_cases e : 6 * c + l = k.toNatClampNeg
  · exfalso
    have : c = i.toNatClampNeg := by omega
    rw [this] at h3
    omega
  · rw [pk_un e]; exact ht c l h1 h2 h3 h4
/-- it is counted -/
theorem tm_add {lo n a b : Int} {h : Nat → Nat} {mn tm : Nat → Int32} {i y : Int32} (ht : TM lo n h a b mn tm) (hi : 0 ≤ i.toInt) (hy : y.toInt = (mn i.toNatClampNeg).toInt + 1) (hx : ∀ l : Nat, (l : Int) = (mn i.toNatClampNeg).toInt → lo ≤ (tm (6 * i.toNatClampNeg + l)).toInt ∧ (tm (6 * i.toNatClampNeg + l)).toInt < n ∧ h ((tm (6 * i.toNatClampNeg + l)).toInt.toNat) = 7) : TM lo n h a b (upd mn i.toNatClampNeg y) tm := by
  intro c l h1 h2 h3 h4
  by_cases e : c = i.toNatClampNeg
  · rw [e, pk_us] at h3
    rw [e]
    by_cases el : (l : Int) = (mn i.toNatClampNeg).toInt
    · exact hx l el
    · exact ht _ l (by rw [← e]; exact h1) (by rw [← e]; exact h2) (by omega) h4
  · rw [pk_un e] at h3
    exact ht c l h1 h2 h3 h4
/-- what is written behind b changes nothing -/
theorem tm_outM {lo n a b : Int} {h : Nat → Nat} {mn tm : Nat → Int32} {i y : Int32} (ht : TM lo n h a b mn tm) (hi : b ≤ i.toInt ∧ 0 ≤ i.toInt) : TM lo n h a b (upd mn i.toNatClampNeg y) tm := by
  intro c l h1 h2 h3 h4
  have ei := clamp_nat (i := i) hi.2
  rw [pk_un (by omega)] at h3
  exact ht c l h1 h2 h3 h4
theorem tm_outT {lo n a b : Int} {h : Nat → Nat} {mn tm : Nat → Int32} {k y : Int32} (ht : TM lo n h a b mn tm) (hi : 6 * b ≤ k.toInt ∧ 0 ≤ k.toInt) : TM lo n h a b mn (upd tm k.toNatClampNeg y) := by
  intro c l h1 h2 h3 h4
  have ei := clamp_nat (i := k) hi.2
  rw [pk_un (by omega)]
  exact ht c l h1 h2 h3 h4
