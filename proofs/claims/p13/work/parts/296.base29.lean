/-! what is bound, between slots -/
def CLS (Lo Hi : Int) (b : Nat → Int32) : Prop := ∀ c : Nat, 8 * Lo ≤ (c : Int) → (c : Int) < 8 * Hi → (b c).toInt = 0 ∨ (300 * Lo < (b c).toInt ∧ (b c).toInt ≤ 300 * Hi)
def BHZ (b : Nat → Int32) : Prop := ∀ c : Nat, 240 ≤ c → (b c).toInt = 0
def UND (M T : Int) (b t b' : Nat → Int32) : Prop := (∀ c : Nat, b' c = b c ∨ (b' c).toInt = 0) ∧ ∀ i : Nat, M ≤ (i : Int) → (i : Int) < T → (b' (Int32.toNatClampNeg (t i))).toInt = 0
def GRI (Lo Hi T T' : Int) (b t b' t' : Nat → Int32) : Prop := T ≤ T' ∧ (∀ c : Nat, ¬ (8 * Lo ≤ (c : Int) ∧ (c : Int) < 8 * Hi) → b' c = b c) ∧ CLS Lo Hi b' ∧ (∀ i : Nat, (i : Int) < T → t' i = t i) ∧ (∀ c : Nat, ¬ (b' c).toInt = 0 → b' c = b c ∨ ∃ i : Nat, T ≤ (i : Int) ∧ (i : Int) < T' ∧ Int32.toNatClampNeg (t' i) = c)
/-- the rows of places that are to be unified -/
def STL (Lo Hi t : Int) (f : Nat → Int32) : Prop := ∀ i : Nat, (i : Int) < t → (300 * Lo ≤ (f i).toInt ∧ (f i).toInt < 300 * Hi) ∨ (300 * Lo ≤ -1 - (f i).toInt ∧ -1 - (f i).toInt < 300 * Hi)
def STR (Lo Hi t : Int) (f : Nat → Int32) : Prop := ∀ i : Nat, (i : Int) < t → 300 * Lo ≤ (f i).toInt ∧ (f i).toInt < 300 * Hi
section BN
variable {Lo Hi M T T' T'' : Int} {b b' b'' t t' t'' : Nat → Int32}
theorem cls_at {i : Int32} (h : CLS Lo Hi b) (h0 : 0 ≤ i.toInt) (h1 : 8 * Lo ≤ i.toInt) (h2 : i.toInt < 8 * Hi) : (b (Int32.toNatClampNeg i)).toInt = 0 ∨ (300 * Lo < (b (Int32.toNatClampNeg i)).toInt ∧ (b (Int32.toNatClampNeg i)).toInt ≤ 300 * Hi) := by
  have c := clamp_toInt (i := i) h0
  exact h _ (by omega) (by omega)
theorem und_zero : UND T T b t b := ⟨fun _ => Or.inl rfl, fun i h1 h2 => absurd h2 (by omega)⟩
theorem und_cast {M' : Int} (h : UND M T b t b') (e : M = M') : UND M' T b t b' := by subst e; exact h
theorem und_step {M' : Int} {k z : Int32} (h : UND M T b t b') (hM : M' = M - 1) (hk : k.toInt = M') (h0 : 0 ≤ M') (hz : z = t (Int32.toNatClampNeg k)) (hb : b'' = upd b' (Int32.toNatClampNeg z) 0) : UND M' T b t b'' := by
  refine ⟨fun c => ?_, fun i h1 h2 => ?_⟩
  · by_cases q : c = Int32.toNatClampNeg z
    · right; rw [hb, q, pk_us]; decide
    · rw [hb, pk_un q]; exact h.1 c
  · by_cases q : Int32.toNatClampNeg (t i) = Int32.toNatClampNeg z
    · rw [hb, q, pk_us]; decide
    · rw [hb, pk_un q]
      have c := clamp_toInt (i := k) (by omega)
      by_cases e : i = Int32.toNatClampNeg k
      · exact absurd (by rw [hz, e]) q
      · exact h.2 i (by omega) h2
theorem bhz_und (h : BHZ b) (g : UND M T b t b') : BHZ b' := fun c hc => by
  rcases g.1 c with e | e
  · rw [e]; exact h c hc
  · exact e
theorem cls_und (h : CLS Lo Hi b) (g : UND M T b t b') : CLS Lo Hi b' := fun c h1 h2 => by
  rcases g.1 c with e | e
  · rw [e]; exact h c h1 h2
  · exact Or.inl e
theorem gri_rf (h : CLS Lo Hi b) : GRI Lo Hi T T b t b t := ⟨Int.le_refl _, fun _ _ => rfl, h, fun _ _ => rfl, fun _ _ => Or.inl rfl⟩
theorem gri_cls (h : GRI Lo Hi T T' b t b' t') : CLS Lo Hi b' := h.2.2.1
theorem gri_cast {S S' : Int} (h : GRI Lo Hi T T' b t b' t') (e : T = S) (e' : T' = S') : GRI Lo Hi S S' b t b' t' := by subst e; subst e'; exact h
theorem gri_tr (h : GRI Lo Hi T T' b t b' t') (g : GRI Lo Hi T' T'' b' t' b'' t'') : GRI Lo Hi T T'' b t b'' t'' := by
  obtain ⟨a1, a2, a3, a4, a5⟩ := h
  obtain ⟨c1, c2, c3, c4, c5⟩ := g
  refine ⟨by omega, fun c hc => (c2 c hc).trans (a2 c hc), c3, fun i hi => (c4 i (by omega)).trans (a4 i hi), fun c hc => ?_⟩
  rcases c5 c hc with e | ⟨i, i1, i2, i3⟩
  · rw [e] at hc
    rcases a5 c hc with d | ⟨i, i1, i2, i3⟩
    · exact Or.inl (e.trans d)
    · exact Or.inr ⟨i, i1, by omega, by rw [c4 i i2]; exact i3⟩
  · exact Or.inr ⟨i, by omega, i2, i3⟩
theorem gri_bind {k c v : Int32} (h : CLS Lo Hi b) (hk : k.toInt = T) (h0 : 0 ≤ T) (hc0 : 0 ≤ c.toInt) (hc1 : 8 * Lo ≤ c.toInt) (hc2 : c.toInt < 8 * Hi) (hv1 : 300 * Lo < v.toInt) (hv2 : v.toInt ≤ 300 * Hi) (hb : b' = upd b (Int32.toNatClampNeg c) v) (ht : t' = upd t (Int32.toNatClampNeg k) c) (e : T' = T + 1) : GRI Lo Hi T T' b t b' t' := by
  have cc := clamp_toInt (i := c) hc0
  have ck := clamp_toInt (i := k) (by omega)
  refine ⟨by omega, fun d hd => ?_, fun d h1 h2 => ?_, fun i hi => ?_, fun d hd => ?_⟩
  · rw [hb, pk_un (by omega)]
  · by_cases q : d = Int32.toNatClampNeg c
    · right; rw [hb, q, pk_us]; exact ⟨hv1, hv2⟩
    · rw [hb, pk_un q]; exact h d h1 h2
  · rw [ht, pk_un (by omega)]
  · by_cases q : d = Int32.toNatClampNeg c
    · right; exact ⟨Int32.toNatClampNeg k, by omega, by omega, by rw [ht, pk_us]; exact q.symm⟩
    · left; rw [hb, pk_un q]
/-- of the instances -/
theorem bhz_gri (h : BHZ b) (g : GRI 0 30 T T' b t b' t') : BHZ b' := fun c hc => by rw [g.2.1 c (by omega)]; exact h c hc
theorem cls_hi (h : BHZ b) : CLS 30 32 b := fun c h1 _ => Or.inl (h c (by omega))
/-- of two instances aside, taken back -/
theorem bhz_meet (h : BHZ b) (g : GRI 30 32 T T' b t b' t') (u : UND M T' b' t' b'') (e : M ≤ T) : BHZ b'' := fun c hc => by
  by_cases q : (b'' c).toInt = 0
  · exact q
  · rcases u.1 c with w | w
    · rw [w] at q
      rcases g.2.2.2.2 c q with d | ⟨i, i1, i2, i3⟩
      · rw [w, d]; exact h c hc
      · have z := u.2 i (by omega) i2
        rw [i3] at z
        exact z
    · exact w
theorem cls_meet (h : CLS 0 30 b) (g : GRI 30 32 T T' b t b' t') (u : UND M T' b' t' b'') : CLS 0 30 b'' := fun c h1 h2 => by
  rcases u.1 c with w | w
  · rw [w, g.2.1 c (by omega)]; exact h c h1 h2
  · exact Or.inl w
theorem stl_zero {f : Nat → Int32} : STL Lo Hi 0 f := fun i h => absurd h (by omega)
theorem str_zero {f : Nat → Int32} : STR Lo Hi 0 f := fun i h => absurd h (by omega)
theorem stl_le {s u : Int} {f : Nat → Int32} (h : STL Lo Hi s f) (e : u ≤ s) : STL Lo Hi u f := fun i hi => h i (by omega)
theorem str_le {s u : Int} {f : Nat → Int32} (h : STR Lo Hi s f) (e : u ≤ s) : STR Lo Hi u f := fun i hi => h i (by omega)
theorem stl_upd {s u : Int} {f g : Nat → Int32} {i v : Int32} (h : STL Lo Hi s f) (hi : i.toInt = u) (h0 : 0 ≤ u) (hu : u ≤ s) (hg : g = upd f (Int32.toNatClampNeg i) v) (hv : (300 * Lo ≤ v.toInt ∧ v.toInt < 300 * Hi) ∨ (300 * Lo ≤ -1 - v.toInt ∧ -1 - v.toInt < 300 * Hi)) : STL Lo Hi (u + 1) g := fun j hj => by
  have c := clamp_toInt (i := i) (by omega)
  by_cases q : j = Int32.toNatClampNeg i
  · rw [hg, q, pk_us]; exact hv
  · rw [hg, pk_un q]; exact h j (by omega)
theorem str_upd {s u : Int} {f g : Nat → Int32} {i v : Int32} (h : STR Lo Hi s f) (hi : i.toInt = u) (h0 : 0 ≤ u) (hu : u ≤ s) (hg : g = upd f (Int32.toNatClampNeg i) v) (hv : 300 * Lo ≤ v.toInt ∧ v.toInt < 300 * Hi) : STR Lo Hi (u + 1) g := fun j hj => by
  have c := clamp_toInt (i := i) (by omega)
  by_cases q : j = Int32.toNatClampNeg i
  · rw [hg, q, pk_us]; exact hv
  · rw [hg, pk_un q]; exact h j (by omega)
theorem stl_get {s : Int} {f : Nat → Int32} {i z : Int32} (h : STL Lo Hi s f) (h0 : 0 ≤ i.toInt) (hi : i.toInt < s) (hz : z = f (Int32.toNatClampNeg i)) : (300 * Lo ≤ z.toInt ∧ z.toInt < 300 * Hi) ∨ (300 * Lo ≤ -1 - z.toInt ∧ -1 - z.toInt < 300 * Hi) := by
  have c := clamp_toInt (i := i) h0
  rw [hz]; exact h _ (by omega)
theorem str_get {s : Int} {f : Nat → Int32} {i z : Int32} (h : STR Lo Hi s f) (h0 : 0 ≤ i.toInt) (hi : i.toInt < s) (hz : z = f (Int32.toNatClampNeg i)) : 300 * Lo ≤ z.toInt ∧ z.toInt < 300 * Hi := by
  have c := clamp_toInt (i := i) h0
  rw [hz]; exact h _ (by omega)
end BN
theorem bhz_at {b : Nat → Int32} {i : Int32} (h : BHZ b) (h0 : 240 ≤ i.toInt) : (b (Int32.toNatClampNeg i)).toInt = 0 := by
  have c := clamp_toInt (i := i) (by omega)
  exact h _ (by omega)
theorem cls_z {Lo Hi : Int} : CLS Lo Hi (fun _ => 0) := fun _ _ _ => Or.inl rfl
theorem bhz_z : BHZ (fun _ => 0) := fun _ _ => rfl
