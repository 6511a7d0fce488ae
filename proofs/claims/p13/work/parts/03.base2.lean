/-! ranges -/
def Rg (lo hi : Int) (f : Nat → Int32) : Prop := ∀ j, lo ≤ (f j).toInt ∧ (f j).toInt ≤ hi
theorem rg_upd {lo hi : Int} {f : Nat → Int32} {k : Nat} {x : Int32} (h : Rg lo hi f) (hx : lo ≤ x.toInt ∧ x.toInt ≤ hi) : Rg lo hi (upd f k x) := by
  intro j
  by_cases e : j = k
  · rw [e, pk_us]; exact hx
  · rw [pk_un e]; exact h j
theorem i_bm {z : Int} (h : -2147483648 ≤ z ∧ z < 2147483648) : z.bmod (2 ^ 32) = z := Int.bmod_eq_of_le (by omega) (by omega)
theorem i_add {x y : Int32} {a b : Int} (hx : x.toInt = a) (hy : y.toInt = b) (h : -2147483648 ≤ a + b ∧ a + b < 2147483648) : (x + y).toInt = a + b := by rw [Int32.toInt_add, hx, hy]; exact i_bm h
theorem i_sub {x y : Int32} {a b : Int} (hx : x.toInt = a) (hy : y.toInt = b) (h : -2147483648 ≤ a - b ∧ a - b < 2147483648) : (x - y).toInt = a - b := by rw [Int32.toInt_sub, hx, hy]; exact i_bm h
theorem i_mul {x y : Int32} {a b : Int} (hx : x.toInt = a) (hy : y.toInt = b) (h : -2147483648 ≤ a * b ∧ a * b < 2147483648) : (x * y).toInt = a * b := by rw [Int32.toInt_mul, hx, hy]; exact i_bm h
theorem i_neg {x : Int32} {a : Int} (hx : x.toInt = a) (h : -2147483648 ≤ -a ∧ -a < 2147483648) : (-x).toInt = -a := by rw [Int32.toInt_neg, hx]; exact i_bm h
theorem i_nat {x : Int32} {a : Int} (hx : x.toInt = a) (h : 0 ≤ a) : ∃ n : Nat, n < 2 ^ 31 ∧ x = nI n ∧ a = n := by
  obtain ⟨n, hn, e⟩ := nI_of (x := x) (fun q => by have := Int32.lt_iff_toInt_lt.mp q; have e0 : (0 : Int32).toInt = 0 := (by decide); omega)
  exact ⟨n, hn, e, by rw [← hx, e]; exact nI_toInt hn⟩
theorem i_div {x y : Int32} {a b : Int} (hx : x.toInt = a) (hy : y.toInt = b) (h : 0 ≤ a ∧ 0 < b) : (x / y).toInt = a / b := by
  obtain ⟨n, hn, e, ea⟩ := i_nat hx h.1
  obtain ⟨d, hd, f, eb⟩ := i_nat hy (by omega)
  rw [e, f, pk_div hn (by omega) hd, nI_toInt (Nat.lt_of_le_of_lt (Nat.div_le_self n d) hn), ea, eb]
  exact Int.natCast_ediv n d
theorem i_rem {x y : Int32} {a b : Int} (hx : x.toInt = a) (hy : y.toInt = b) (h : 0 ≤ a ∧ 0 < b) : (x - x / y * y).toInt = a % b := by
  obtain ⟨n, hn, e, ea⟩ := i_nat hx h.1
  obtain ⟨d, hd, f, eb⟩ := i_nat hy (by omega)
  rw [e, f, pk_rem hn (by omega) hd, nI_toInt (Nat.lt_of_le_of_lt (Nat.mod_le n d) hn), ea, eb]
  exact Int.natCast_emod n d
theorem zz_bool {x : Int32} (h : x.toInt = 0 ∨ x.toInt = 1) : narrow .boolean (.int x) = .int x := by
  rcases h with h | h
  · obtain rfl : x = 0 := Int32.toInt_inj.mp (h.trans (by decide)); rfl
  · obtain rfl : x = 1 := Int32.toInt_inj.mp (h.trans (by decide)); rfl
theorem i_andr {x m : Int32} {b : Int} (k : Nat) (hm : m.toBitVec.toNat = 2 ^ k - 1) (hk : 2 ^ k ≤ 2147483648) (hb : ((2 ^ k : Nat) : Int) - 1 = b) : 0 ≤ (x &&& m).toInt ∧ (x &&& m).toInt ≤ b := by
  obtain ⟨j, hj, e⟩ := pk_andE x k hm
  rw [e, nI_toInt (by omega)]
  omega
theorem i_andl {x m : Int32} {b : Int} (k : Nat) (hm : m.toBitVec.toNat = 2 ^ k - 1) (hk : 2 ^ k ≤ 2147483648) (hb : ((2 ^ k : Nat) : Int) - 1 = b) : 0 ≤ (m &&& x).toInt ∧ (m &&& x).toInt ≤ b := by
  rw [Int32.and_comm]; exact i_andr k hm hk hb
/-- what a variable part at a place has -/
def vrb (f : Nat → Int32) (p : Int32) : Int32 := f (Int32.toNatClampNeg (p - p / 300 * 300))
/-- no negative one among the first t -/
def Pre0 (t : Int) (f : Nat → Int32) : Prop := ∀ j : Nat, (j : Int) < t → 0 ≤ (f j).toInt
theorem clamp_toInt {i : Int32} (h : 0 ≤ i.toInt) : (i.toNatClampNeg : Int) = i.toInt := by
  obtain ⟨n, hn, e, ea⟩ := i_nat (x := i) rfl h
  rw [ea, e, nI_clamp hn]
theorem pre0_get {t : Int} {f : Nat → Int32} {i z : Int32} (h : Pre0 t f) (hi : 0 ≤ i.toInt ∧ i.toInt < t) (hz : z = f i.toNatClampNeg) : 0 ≤ z.toInt := by
  rw [hz]; exact h _ (by rw [clamp_toInt hi.1]; exact hi.2)
theorem pre0_mono {t t' : Int} {f : Nat → Int32} (h : Pre0 t f) (ht : t' ≤ t) : Pre0 t' f := fun j hj => h j (by omega)
theorem pre0_upd {t t' : Int} {f : Nat → Int32} {i x : Int32} (h : Pre0 t f) (hi : i.toInt = t) (h0 : 0 ≤ t) (hx : 0 ≤ x.toInt) (ht : t' = t + 1) : Pre0 t' (upd f i.toNatClampNeg x) := by
  intro j hj
  by_cases e : j = i.toNatClampNeg
  · rw [e, pk_us]; exact hx
  · rw [pk_un e]
    refine h j ?_
    have := clamp_toInt (i := i) (by omega)
    omega
theorem i_min {x y : Int32} {a b : Int} (hx : x.toInt = a) (hy : y.toInt = b) : ((if y < x then y else x).toInt ≤ a ∧ (if y < x then y else x).toInt ≤ b) ∧ ((if y < x then y else x).toInt = a ∨ (if y < x then y else x).toInt = b) := by
  by_cases h : y < x
  · rw [if_pos h]; have := (cv_lt hy hx).mp h; omega
  · rw [if_neg h]; have := (not_congr (cv_lt hy hx)).mp h; omega
theorem i_max {x y : Int32} {a b : Int} (hx : x.toInt = a) (hy : y.toInt = b) : (a ≤ (if x < y then y else x).toInt ∧ b ≤ (if x < y then y else x).toInt) ∧ ((if x < y then y else x).toInt = a ∨ (if x < y then y else x).toInt = b) := by
  by_cases h : x < y
  · rw [if_pos h]; have := (cv_lt hx hy).mp h; omega
  · rw [if_neg h]; have := (not_congr (cv_lt hx hy)).mp h; omega
theorem rg_cpy {lo hi : Int} {f g : Nat → Int32} {a b n : Nat} (hf : Rg lo hi f) (hg : Rg lo hi g) : Rg lo hi (va_cpy f g a b n) := by
  intro j
  unfold va_cpy
  split
  · exact hf _
  · exact hg _
