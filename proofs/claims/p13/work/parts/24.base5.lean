/-! nodes of the reference: those from lo to hi point among themselves, to lower ones -/
def NDk (lo hi : Int) (h : Nat → Nat) (x : Nat) (v : Int32) : Prop := v.toInt = -1 ∨ (lo ≤ v.toInt ∧ v.toInt < hi ∧ h v.toInt.toNat < h x)
def ND (lo hi : Int) (h : Nat → Nat) (fa fb fc : Nat → Int32) : Prop := ∀ x : Nat, lo ≤ (x : Int) → (x : Int) < hi → NDk lo hi h x (fa x) ∧ NDk lo hi h x (fb x) ∧ NDk lo hi h x (fc x) ∧ 1 ≤ h x ∧ h x ≤ 7
def hup (h : Nat → Nat) (n H : Nat) : Nat → Nat := fun y => if y = n then H else h y
theorem hup_self (h : Nat → Nat) (n H : Nat) : hup h n H n = H := if_pos rfl
theorem hup_ne {h : Nat → Nat} {n H y : Nat} (e : y ≠ n) : hup h n H y = h y := if_neg e
theorem clamp_nat {i : Int32} (h : 0 ≤ i.toInt) : i.toNatClampNeg = i.toInt.toNat := by
  have := clamp_toInt h
  omega
theorem NDk_up {lo n : Int} {h : Nat → Nat} {x H : Nat} {v : Int32} (hv : NDk lo n h x v) (h0 : 0 ≤ lo) (hx : (x : Int) < n) : NDk lo (n + 1) (hup h n.toNat H) x v := by
  rcases hv with e | ⟨a, b, c⟩
  · exact Or.inl e
  · refine Or.inr ⟨a, by omega, ?_⟩
    rw [hup_ne (by omega), hup_ne (by omega)]
    exact c
theorem nd_new {lo : Int} {h : Nat → Nat} {fa fb fc : Nat → Int32} {i : Int32} {H : Nat} (hn : ND lo i.toInt h fa fb fc) (h0 : 0 ≤ lo ∧ lo ≤ i.toInt) (hH : 1 ≤ H ∧ H ≤ 7) : ND lo (i.toInt + 1) (hup h i.toInt.toNat H) (upd fa i.toNatClampNeg (-1)) (upd fb i.toNatClampNeg (-1)) (upd fc i.toNatClampNeg (-1)) := by
  intro x h1 h2
  have e1 : (-1 : Int32).toInt = -1 := by decide
  have ec := clamp_nat (i := i) (by omega)
  by_cases e : x = i.toNatClampNeg
  · rw [e, pk_us, pk_us, pk_us, ec, hup_self]; exact ⟨Or.inl e1, Or.inl e1, Or.inl e1, hH⟩
  · rw [pk_un e, pk_un e, pk_un e]
    have hx : (x : Int) < i.toInt := by omega
    obtain ⟨a, b, c, d⟩ := hn x h1 hx
    exact ⟨NDk_up a h0.1 hx, NDk_up b h0.1 hx, NDk_up c h0.1 hx, by rw [hup_ne (by omega)]; exact d⟩
theorem nd_outA {lo : Int} {h : Nat → Nat} {fa fb fc : Nat → Int32} {i v : Int32} (hn : ND 0 lo h fa fb fc) (hi : lo ≤ i.toInt) (h0 : 0 ≤ i.toInt) : ND 0 lo h (upd fa i.toNatClampNeg v) fb fc := by
  intro x h1 h2
  have ec := clamp_nat (i := i) h0
  rw [pk_un (by omega)]; exact hn x h1 h2
theorem nd_outB {lo : Int} {h : Nat → Nat} {fa fb fc : Nat → Int32} {i v : Int32} (hn : ND 0 lo h fa fb fc) (hi : lo ≤ i.toInt) (h0 : 0 ≤ i.toInt) : ND 0 lo h fa (upd fb i.toNatClampNeg v) fc := by
  intro x h1 h2
  have ec := clamp_nat (i := i) h0
  rw [pk_un (by omega)]; exact hn x h1 h2
theorem nd_outC {lo : Int} {h : Nat → Nat} {fa fb fc : Nat → Int32} {i v : Int32} (hn : ND 0 lo h fa fb fc) (hi : lo ≤ i.toInt) (h0 : 0 ≤ i.toInt) : ND 0 lo h fa fb (upd fc i.toNatClampNeg v) := by
  intro x h1 h2
  have ec := clamp_nat (i := i) h0
  rw [pk_un (by omega)]; exact hn x h1 h2
theorem nd_setA {lo n : Int} {h : Nat → Nat} {fa fb fc : Nat → Int32} {i v : Int32} (hn : ND lo n h fa fb fc) (h0 : 0 ≤ i.toInt) (hv : NDk lo n h i.toInt.toNat v) : ND lo n h (upd fa i.toNatClampNeg v) fb fc := by
  intro x h1 h2
  have ec := clamp_nat (i := i) h0
  obtain ⟨a, b, c, d⟩ := hn x h1 h2
  refine ⟨?_, b, c, d⟩
  by_cases e : x = i.toNatClampNeg
  · rw [e, pk_us, ec]; exact hv
  · rw [pk_un e]; exact a
theorem nd_setB {lo n : Int} {h : Nat → Nat} {fa fb fc : Nat → Int32} {i v : Int32} (hn : ND lo n h fa fb fc) (h0 : 0 ≤ i.toInt) (hv : NDk lo n h i.toInt.toNat v) : ND lo n h fa (upd fb i.toNatClampNeg v) fc := by
  intro x h1 h2
  have ec := clamp_nat (i := i) h0
  obtain ⟨a, b, c, d⟩ := hn x h1 h2
  refine ⟨a, ?_, c, d⟩
  by_cases e : x = i.toNatClampNeg
  · rw [e, pk_us, ec]; exact hv
  · rw [pk_un e]; exact b
theorem nd_setC {lo n : Int} {h : Nat → Nat} {fa fb fc : Nat → Int32} {i v : Int32} (hn : ND lo n h fa fb fc) (h0 : 0 ≤ i.toInt) (hv : NDk lo n h i.toInt.toNat v) : ND lo n h fa fb (upd fc i.toNatClampNeg v) := by
  intro x h1 h2
  have ec := clamp_nat (i := i) h0
  obtain ⟨a, b, c, d⟩ := hn x h1 h2
  refine ⟨a, b, ?_, d⟩
  by_cases e : x = i.toNatClampNeg
  · rw [e, pk_us, ec]; exact hv
  · rw [pk_un e]; exact c
theorem nd_cast {lo n n' : Int} {h : Nat → Nat} {fa fb fc : Nat → Int32} (hn : ND lo n h fa fb fc) (e : n = n') : ND lo n' h fa fb fc := by rw [← e]; exact hn
/-- the nodes below lo are what they were -/
def EQ0 (lo : Int) (za zb zc zv fa fb fc fv : Nat → Int32) : Prop := ∀ x : Nat, (x : Int) < lo → fa x = za x ∧ fb x = zb x ∧ fc x = zc x ∧ fv x = zv x
theorem eq0_A {lo : Int} {za zb zc zv fa fb fc fv : Nat → Int32} {i v : Int32} (h : EQ0 lo za zb zc zv fa fb fc fv) (hi : lo ≤ i.toInt) (h0 : 0 ≤ i.toInt) : EQ0 lo za zb zc zv (upd fa i.toNatClampNeg v) fb fc fv := by
  intro x hx
  have ec := clamp_nat (i := i) h0
  rw [pk_un (by omega)]; exact h x hx
theorem eq0_B {lo : Int} {za zb zc zv fa fb fc fv : Nat → Int32} {i v : Int32} (h : EQ0 lo za zb zc zv fa fb fc fv) (hi : lo ≤ i.toInt) (h0 : 0 ≤ i.toInt) : EQ0 lo za zb zc zv fa (upd fb i.toNatClampNeg v) fc fv := by
  intro x hx
  have ec := clamp_nat (i := i) h0
  rw [pk_un (by omega)]; exact h x hx
theorem eq0_C {lo : Int} {za zb zc zv fa fb fc fv : Nat → Int32} {i v : Int32} (h : EQ0 lo za zb zc zv fa fb fc fv) (hi : lo ≤ i.toInt) (h0 : 0 ≤ i.toInt) : EQ0 lo za zb zc zv fa fb (upd fc i.toNatClampNeg v) fv := by
  intro x hx
  have ec := clamp_nat (i := i) h0
  rw [pk_un (by omega)]; exact h x hx
theorem eq0_V {lo : Int} {za zb zc zv fa fb fc fv : Nat → Int32} {i v : Int32} (h : EQ0 lo za zb zc zv fa fb fc fv) (hi : lo ≤ i.toInt) (h0 : 0 ≤ i.toInt) : EQ0 lo za zb zc zv fa fb fc (upd fv i.toNatClampNeg v) := by
  intro x hx
  have ec := clamp_nat (i := i) h0
  rw [pk_un (by omega)]; exact h x hx
