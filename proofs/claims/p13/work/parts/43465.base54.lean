/-! a fact that the arithmetic doesn't look into -/
def HIP (p : Prop) : Prop := p
theorem hip {p : Prop} (h : HIP p) : p := h
theorem hid {p : Prop} (h : p) : HIP p := h
/-! sizes and likeness as the reference asks them: one term after the other -/
section SZ
variable {g : GVT} {b : Nat → Int}
/-- exactly so many parts -/
def SZE (g : GVT) (b : Nat → Int) (ps : List Nat) (n : Int) : Prop := 0 ≤ n ∧ SMn g b n.toNat ps ∧ ∀ j : Nat, SMn g b j ps → n ≤ (j : Int)
theorem sze_nil : SZE g b [] 0 := ⟨Int.le_refl _, smn_nil, fun j _ => by omega⟩
theorem sze_app {ps qs : List Nat} {n k s : Int} (h : SZE g b ps n) (w : SZE g b qs k) (e : s = n + k) : SZE g b (ps ++ qs) s := by
  obtain ⟨h0, h1, h2⟩ := h
  obtain ⟨w0, w1, w2⟩ := w
  subst e
  refine ⟨by omega, by rw [show (n + k).toNat = n.toNat + k.toNat by omega]; exact smn_join _ _ _ _ h1 w1, fun j hj => ?_⟩
  obtain ⟨x, y, e, q1, q2⟩ := smn_part j ps qs hj
  have := h2 x q1
  have := w2 y q2
  omega
theorem sze_one {p a : Nat} {n s : Int} (h1 : BRE g b p a) (h : SZE g b (kdq g a) n) (e : s = n + 1) : SZE g b [p] s := by
  obtain ⟨h0, h2, h3⟩ := h
  subst e
  refine ⟨by omega, by rw [show (n + 1).toNat = n.toNat + 1 by omega]; exact ⟨a, h1, by rw [List.append_nil]; exact h2⟩, fun j hj => ?_⟩
  cases j with
  | zero => exact False.elim hj
  | succ j =>
    obtain ⟨a', q1, q2⟩ := hj
    have e := bre_un q1 h1
    subst e
    rw [List.append_nil] at q2
    have := h3 j q2
    omega
theorem klr_snoc {a : Nat} : ∀ (r k : Nat), klq g a (r + 1) k = klq g a r k ++ [g.2.2.2.2 a (k + r)] := by
  intro r
  induction r with
  | zero => intro k; rfl
  | succ r ih =>
    intro k
    show g.2.2.2.2 a k :: klq g a (r + 1) (k + 1) = g.2.2.2.2 a k :: klq g a r (k + 1) ++ [g.2.2.2.2 a (k + (r + 1))]
    rw [ih (k + 1), show k + 1 + r = k + (r + 1) by omega]; rfl
theorem klr_split {a : Nat} : ∀ (r m k : Nat), klq g a (r + m) k = klq g a r k ++ klq g a m (k + r) := by
  intro r
  induction r with
  | zero => intro m k; rw [Nat.zero_add]; rfl
  | succ r ih =>
    intro m k
    rw [show r + 1 + m = (r + m) + 1 by omega]
    show g.2.2.2.2 a k :: klq g a (r + m) (k + 1) = g.2.2.2.2 a k :: klq g a r (k + 1) ++ klq g a m (k + (r + 1))
    rw [ih m (k + 1), show k + 1 + r = k + (r + 1) by omega]; rfl
theorem kdr_klq {a : Nat} (z : 0 ≤ g.1 a → g.2.2.2.1 a = 0) : kdq g a = klq g a (g.2.2.2.1 a).toNat 0 := by
  unfold kdq
  by_cases v : 0 ≤ g.1 a
  · rw [if_pos v, z v]; rfl
  · rw [if_neg v]
/-- what counting a place adds -/
def CNX (g : GVT) (b : Nat → Int) (P : Nat) (c c' most : Int) : Prop := (c' ≤ most ∧ SZE g b [P] (c' - c)) ∨ (most < c' ∧ ∀ j : Nat, SMn g b j [P] → most - c < (j : Int))
/-- so many terms of it are counted -/
def CNK (g : GVT) (b : Nat → Int) (P a : Nat) (c0 c most k : Int) : Prop := (c ≤ most ∧ SZE g b (klq g a k.toNat 0) (c - c0 - 1)) ∨ (most < c ∧ ∀ j : Nat, SMn g b j [P] → most - c0 < (j : Int))
variable {P a : Nat} {c0 c c' most k k' : Int}
theorem cnx_over (h : most < c) (e : c' = c) : CNX g b P c c' most := by
  subst e
  exact Or.inr ⟨h, fun j _ => by omega⟩
theorem smn_pos {P : Nat} {j : Nat} (h : SMn g b j [P]) : 1 ≤ j := by
  cases j with
  | zero => exact False.elim h
  | succ j => omega
theorem cnk_zero (h : c0 ≤ most) (e : c = c0 + 1) (hk : k = 0) : CNK g b P a c0 c most k := by
  subst e; subst hk
  by_cases w : c0 + 1 ≤ most
  · refine Or.inl ⟨w, ?_⟩
    rw [show c0 + 1 - c0 - 1 = 0 by omega]
    exact sze_nil
  · exact Or.inr ⟨by omega, fun j hj => by have := smn_pos hj; omega⟩
theorem cnk_step {u : Nat} (h1 : BRE g b P a) (z : 0 ≤ g.1 a → g.2.2.2.1 a = 0) (h : CNK g b P a c0 c most k) (hc : c ≤ most) (hk : 0 ≤ k ∧ k < g.2.2.2.1 a) (hu : g.2.2.2.2 a k.toNat = u) (hx : CNX g b u c c' most) (e : k' = k + 1) : CNK g b P a c0 c' most k' := by
  subst e
  have h2 : SZE g b (klq g a k.toNat 0) (c - c0 - 1) := by
    rcases h with ⟨_, h⟩ | ⟨h, _⟩
    · exact h
    · omega
  have sn := klr_snoc (g := g) (a := a) k.toNat 0
  rw [Nat.zero_add, hu] at sn
  rcases hx with ⟨x1, x2⟩ | ⟨x1, x2⟩
  · refine Or.inl ⟨x1, ?_⟩
    rw [show (k + 1).toNat = k.toNat + 1 by omega, sn]
    exact sze_app h2 x2 (by omega)
  · refine Or.inr ⟨x1, fun j hj => ?_⟩
    cases j with
    | zero => exact False.elim hj
    | succ j =>
      obtain ⟨a', q1, q2⟩ := hj
      have e := bre_un q1 h1
      subst e
      rw [List.append_nil, kdr_klq z, show (g.2.2.2.1 a').toNat = (k.toNat + 1) + ((g.2.2.2.1 a').toNat - (k.toNat + 1)) by omega, klr_split, sn] at q2
      obtain ⟨x, y, e1, q3, _⟩ := smn_part j _ _ q2
      obtain ⟨x', y', e2, q4, q5⟩ := smn_part x _ _ q3
      have := h2.2.2 x' q4
      have := x2 y' q5
      omega
theorem cnk_end (h1 : BRE g b P a) (z : 0 ≤ g.1 a → g.2.2.2.1 a = 0) (h : CNK g b P a c0 c most k) (hk : g.2.2.2.1 a = k ∨ most < c) : CNX g b P c0 c most := by
  rcases h with ⟨h, h2⟩ | ⟨h, h2⟩
  · refine Or.inl ⟨h, ?_⟩
    have e : g.2.2.2.1 a = k := by omega
    refine sze_one h1 ?_ (show c - c0 = (c - c0 - 1) + 1 by omega)
    rw [kdr_klq z, e]; exact h2
  · exact Or.inr ⟨h, h2⟩
theorem cnx_short {r : Int} (h : CNX g b P 0 c most) (hr : (r = 1 ∧ c ≤ most) ∨ (r = 0 ∧ most < c)) : (r = 1 ∧ SMn g b most.toNat [P]) ∨ (r = 0 ∧ ¬ SMn g b most.toNat [P]) := by
  rcases hr with ⟨e, w⟩ | ⟨e, w⟩
  · rcases h with ⟨_, h⟩ | ⟨h, _⟩
    · refine Or.inl ⟨e, smn_mono _ _ _ ?_ h.2.1⟩
      have := h.1
      omega
    · omega
  · rcases h with ⟨h, _⟩ | ⟨_, h⟩
    · omega
    · refine Or.inr ⟨e, fun q => ?_⟩
      by_cases w0 : 0 ≤ most
      · have := h _ q; omega
      · have := smn_pos q; omega
/-! likeness -/
variable {A C d : Nat}
theorem alr_vars (h1 : BRE g b A a) (h2 : BRE g b C d) (va : 0 ≤ g.1 a) (vc : 0 ≤ g.1 d) (e : g.2.1 a = g.2.1 d) : ALK g b A C := fun n => by
  cases n with
  | zero => exact True.intro
  | succ n => exact ⟨a, d, h1, h2, Or.inl ⟨va, vc, e⟩⟩
theorem alr_not (h1 : BRE g b A a) (h2 : BRE g b C d) (k : ¬ ((0 ≤ g.1 a ∧ 0 ≤ g.1 d ∧ g.2.1 a = g.2.1 d) ∨ (¬ 0 ≤ g.1 a ∧ ¬ 0 ≤ g.1 d ∧ g.2.2.1 a = g.2.2.1 d ∧ g.2.2.2.1 a = g.2.2.2.1 d))) : ¬ ALK g b A C := fun w => by
  obtain ⟨a', c', q1, q2, q3⟩ := w 1
  have ea := bre_un q1 h1
  have ec := bre_un q2 h2
  subst ea; subst ec
  exact k (q3.imp id (fun q => ⟨q.1, q.2.1, q.2.2.1, q.2.2.2.1⟩))
/-- so many terms are alike -/
def AKK (g : GVT) (b : Nat → Int) (a d : Nat) (k : Int) : Prop := ∀ j : Nat, (j : Int) < k → ALK g b (g.2.2.2.2 a j) (g.2.2.2.2 d j)
theorem akk_zero (h : k ≤ 0) : AKK g b a d k := fun j hj => by omega
theorem akk_step {u v : Nat} (h : AKK g b a d k) (h0 : 0 ≤ k) (hu : g.2.2.2.2 a k.toNat = u) (hv : g.2.2.2.2 d k.toNat = v) (hx : ALK g b u v) (e : k' = k + 1) : AKK g b a d k' := fun j hj => by
  by_cases w : (j : Int) < k
  · exact h j w
  · rw [show j = k.toNat by omega, hu, hv]; exact hx
theorem akk_end (h1 : BRE g b A a) (h2 : BRE g b C d) (va : ¬ 0 ≤ g.1 a) (vc : ¬ 0 ≤ g.1 d) (e : g.2.2.1 a = g.2.2.1 d ∧ g.2.2.2.1 a = g.2.2.2.1 d) (h : AKK g b a d k) (hk : g.2.2.2.1 a ≤ k) : ALK g b A C := fun n => by
  cases n with
  | zero => exact True.intro
  | succ n => exact ⟨a, d, h1, h2, Or.inr ⟨va, vc, e.1, e.2, fun j hj => h j (by omega) n⟩⟩
theorem akk_not {u v : Nat} (h1 : BRE g b A a) (h2 : BRE g b C d) (va : ¬ 0 ≤ g.1 a) (hk : 0 ≤ k ∧ k < g.2.2.2.1 a) (hu : g.2.2.2.2 a k.toNat = u) (hv : g.2.2.2.2 d k.toNat = v) (hx : ¬ ALK g b u v) : ¬ ALK g b A C := fun w => hx fun n => by
  obtain ⟨a', c', q1, q2, q3⟩ := w (n + 1)
  have ea := bre_un q1 h1
  have ec := bre_un q2 h2
  subst ea; subst ec
  rcases q3 with ⟨q, _⟩ | ⟨_, _, _, _, q⟩
  · exact absurd q va
  · have := q k.toNat (by omega)
    rw [hu, hv] at this
    exact this
end SZ
/-! what was bound, and what is taken back of it -/
section TBW
variable {T T' : Int} {bto bin tra bto' bin' tra' bto'' tra'' : Nat → Int32} {b b1 b2 b3 : Nat → Int}
def GHI (bto bin bto' bin' : Nat → Int32) : Prop := ∀ s : Nat, 256 ≤ s → bto' s = bto s ∧ bin' s = bin s
theorem ghi_rf : GHI bto bin bto bin := fun _ _ => ⟨rfl, rfl⟩
theorem ghi_tr {f3 f4 : Nat → Int32} (h : GHI bto bin bto' bin') (k : GHI bto' bin' f3 f4) : GHI bto bin f3 f4 := fun s hs => ⟨(k s hs).1.trans (h s hs).1, (k s hs).2.trans (h s hs).2⟩
theorem ghi_bind {s b i : Int32} (e1 : bto' = upd bto (Int32.toNatClampNeg s) b) (e2 : bin' = upd bin (Int32.toNatClampNeg s) i) (hs : 0 ≤ s.toInt ∧ s.toInt ≤ 255) : GHI bto bin bto' bin' := fun x hx => by
  have c := clamp_nat (i := s) hs.1
  rw [e1, e2, pk_un (by omega), pk_un (by omega)]; exact ⟨rfl, rfl⟩
/-- taken back: as it was, or free and told on the trail -/
def TBE (T' T : Int) (bto tra bto' : Nat → Int32) : Prop := ∀ s : Nat, bto' s = bto s ∨ ((bto' s).toInt = -1 ∧ ∃ j : Nat, T' ≤ (j : Int) ∧ (j : Int) < T ∧ (tra j).toInt.toNat = s)
theorem tbe_refl : TBE T T bto tra bto := fun _ => Or.inl rfl
theorem tbe_step {k i z : Int32} (h : TBE T T' bto tra bto') (hk : k.toInt = T - 1) (h0 : 0 ≤ k.toInt) (hr : Rg 0 255 tra) (ei : i = tra (Int32.toNatClampNeg k)) (ez : z.toInt = -1) {f : Nat → Int32} (ef : f = upd bto' (Int32.toNatClampNeg i) z) {S : Int} (eS : S = T - 1) (hT : T ≤ T') : TBE S T' bto tra f := fun s => by
  have r := hr (Int32.toNatClampNeg k)
  have ck := clamp_nat (i := k) h0
  rw [← ei] at r
  have ci := clamp_nat (i := i) r.1
  by_cases w : s = Int32.toNatClampNeg i
  · refine Or.inr ⟨by rw [ef, w, pk_us]; exact ez, k.toInt.toNat, by omega, by omega, ?_⟩
    rw [w, ci, ei, ck]
  · rcases h s with h | ⟨h, j, j1, j2, j3⟩
    · exact Or.inl (by rw [ef, pk_un w]; exact h)
    · exact Or.inr ⟨by rw [ef, pk_un w]; exact h, j, by omega, j2, j3⟩
theorem tbe_cast {S S' : Int} (h : TBE T T' bto tra bto') (e : T = S) (f : T' = S') : TBE S S' bto tra bto' := by rw [← e, ← f]; exact h
/-- as bindings: grown -/
def TRW (T T' : Int) (b b1 : Nat → Int) (tra tra1 : Nat → Int32) : Prop := T ≤ T' ∧ (∀ s : Nat, 0 ≤ b s → b1 s = b s) ∧ (∀ i : Nat, (i : Int) < T → tra1 i = tra i) ∧ (∀ i : Nat, T ≤ (i : Int) → (i : Int) < T' → b (tra1 i).toInt.toNat = -1) ∧ ∀ s : Nat, 0 ≤ b1 s → 0 ≤ b s ∨ ∃ i : Nat, T ≤ (i : Int) ∧ (i : Int) < T' ∧ (tra1 i).toInt.toNat = s
/-- and taken back -/
def TBB (T' T : Int) (b1 : Nat → Int) (tra1 : Nat → Int32) (b2 : Nat → Int) : Prop := (∀ s : Nat, b2 s = b1 s ∨ (b2 s = -1 ∧ ∃ j : Nat, T' ≤ (j : Int) ∧ (j : Int) < T ∧ (tra1 j).toInt.toNat = s)) ∧ ∀ j : Nat, T' ≤ (j : Int) → (j : Int) < T → b2 (tra1 j).toInt.toNat = -1
def BNN (b : Nat → Int) : Prop := ∀ s : Nat, -1 ≤ b s
theorem bdw_nn (h1 : Rg (-1) 7999 bto) (h2 : Rg 0 31 bin) : BNN (BDW bto bin) := fun s => by
  have a := h1 s
  have c := h2 s
  unfold BDW
  split <;> omega
theorem bdw_neg {s : Nat} (h1 : Rg (-1) 7999 bto) (h2 : Rg 0 31 bin) : BDW bto bin s = -1 ↔ (bto s).toInt = -1 := by
  have a := h1 s
  have c := h2 s
  unfold BDW
  split <;> omega
theorem bdw_same {s : Nat} (e : bto' s = bto s) (d : bin' s = bin s) : BDW bto' bin' s = BDW bto bin s := by
  unfold BDW; rw [e, d]
theorem trw_gr (g : GRW T T' bto bin tra bto' bin' tra') (hi : GHI bto bin bto' bin') (r1 : Rg (-1) 7999 bto) (r2 : Rg 0 31 bin) (r3 : Rg (-1) 7999 bto') (r4 : Rg 0 31 bin') (rt : Rg 0 255 tra') : TRW T T' (BDW bto bin) (BDW bto' bin') tra tra' := by
  obtain ⟨g1, g2, g3, g4, g5⟩ := g
  refine ⟨g1, fun s hs => ?_, g3, fun i h1 h2 => (bdw_neg r1 r2).mpr (g4 i h1 h2), fun s hs => ?_⟩
  · by_cases w : s < 256
    · have nb : ¬ (bto s).toInt = -1 := fun e => by have := (bdw_neg r1 r2).mpr e; omega
      obtain ⟨e1, e2⟩ := g2 s w nb
      exact bdw_same e1 e2
    · obtain ⟨e1, e2⟩ := hi s (by omega)
      exact bdw_same e1 e2
  · by_cases w : s < 256
    · have nb : ¬ (bto' s).toInt = -1 := fun e => by have := (bdw_neg r3 r4).mpr e; omega
      rcases g5 s w nb with q | q
      · refine Or.inl ?_
        have a := bdw_nn r1 r2 s
        by_cases z : BDW bto bin s = -1
        · exact absurd ((bdw_neg r1 r2).mp z) q
        · omega
      · obtain ⟨i, i1, i2, i3⟩ := q
        exact Or.inr ⟨i, i1, i2, by omega⟩
    · obtain ⟨e1, e2⟩ := hi s (by omega)
      rw [bdw_same e1 e2] at hs
      exact Or.inl hs
theorem tbb_of (h : TBE T' T bto tra bto') (k : TBK T' T bto tra bto') (r3 : Rg (-1) 7999 bto') (r4 : Rg 0 31 bin) : TBB T' T (BDW bto bin) tra (BDW bto' bin) := by
  refine ⟨fun s => ?_, fun j h1 h2 => (bdw_neg r3 r4).mpr (k.2 j h1 h2)⟩
  rcases h s with q | ⟨q, j, j1, j2, j3⟩
  · exact Or.inl (bdw_same q rfl)
  · exact Or.inr ⟨(bdw_neg r3 r4).mpr q, j, j1, j2, j3⟩
theorem trw_back {tra1 tra2 : Nat → Int32} (g : TRW T T' b b1 tra tra1) (hb : BNN b) (h1 : BNN b1) (e : b2 = b1) (et : ∀ i : Nat, (i : Int) < T' → tra2 i = tra1 i) (k : TBB T T' b2 tra2 b3) : b3 = b := by
  subst e
  obtain ⟨g1, g2, g3, g4, g5⟩ := g
  obtain ⟨k1, k2⟩ := k
  funext s
  have n1 := hb s
  by_cases w : 0 ≤ b s
  · rcases k1 s with q | ⟨_, j, j1, j2, j3⟩
    · rw [q]; exact g2 s w
    · rw [et j j2] at j3
      have := g4 j j1 j2
      rw [j3] at this; omega
  · have e1 : b s = -1 := by omega
    rw [e1]
    rcases k1 s with q | ⟨q, _⟩
    · have n2 := h1 s
      by_cases z : 0 ≤ b2 s
      · rcases g5 s z with q2 | ⟨i, i1, i2, i3⟩
        · omega
        · have := k2 i i1 i2
          rw [et i i2, i3] at this; exact this
      · rw [q]; omega
    · exact q
theorem trw_tra {tra1 tra2 : Nat → Int32} (g : TRW T T' b b1 tra tra1) (et : ∀ i : Nat, (i : Int) < T' → tra2 i = tra1 i) : ∀ i : Nat, (i : Int) < T → tra2 i = tra i := fun i hi => (et i (by have := g.1; omega)).trans (g.2.2.1 i hi)
end TBW
