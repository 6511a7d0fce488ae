/-! the reference's nodes as they are laid -/
def AGN (P x : Int) (nv nv' : Nat → Int32) (nn nn' : Nat → Int64) (A A' B B' C C' : Nat → Int32) : Prop := ∀ i : Nat, (i : Int) < P → nv' i = nv i ∧ nn' i = nn i ∧ (¬ (i : Int) = x → A' i = A i ∧ B' i = B i ∧ C' i = C i)
section AN
variable {P Q x y : Int} {nv nv' nv'' : Nat → Int32} {nn nn' nn'' : Nat → Int64} {A A' A'' B B' B'' C C' C'' : Nat → Int32}
theorem agn_rf : AGN P x nv nv nn nn A A B B C C := fun _ _ => ⟨rfl, rfl, fun _ => ⟨rfl, rfl, rfl⟩⟩
theorem agn_tr (h : AGN P x nv nv' nn nn' A A' B B' C C') (g : AGN Q y nv' nv'' nn' nn'' A' A'' B' B'' C' C'') (e : P ≤ Q) (hy : y < 0 ∨ y = x ∨ P ≤ y) : AGN P x nv nv'' nn nn'' A A'' B B'' C C'' := fun i hi => by
  obtain ⟨a1, a2, a3⟩ := h i hi
  obtain ⟨b1, b2, b3⟩ := g i (by omega)
  refine ⟨b1.trans a1, b2.trans a2, fun hx => ?_⟩
  obtain ⟨a4, a5, a6⟩ := a3 hx
  obtain ⟨b4, b5, b6⟩ := b3 (by omega)
  exact ⟨b4.trans a4, b5.trans a5, b6.trans a6⟩
/-- a node was made -/
def NWQ (r v : Int32) (m : Int64) (nv nv' : Nat → Int32) (nn nn' : Nat → Int64) (A A' B B' C C' : Nat → Int32) : Prop := nv' = upd nv (Int32.toNatClampNeg r) v ∧ nn' = vp_updL nn (Int32.toNatClampNeg r) m ∧ A' = upd A (Int32.toNatClampNeg r) (-1) ∧ B' = upd B (Int32.toNatClampNeg r) (-1) ∧ C' = upd C (Int32.toNatClampNeg r) (-1)
theorem nwq_agn {r v : Int32} {m : Int64} (h : NWQ r v m nv nv' nn nn' A A' B B' C C') (hr : P ≤ r.toInt) : AGN P x nv nv' nn nn' A A' B B' C C' := fun i hi => by
  obtain ⟨h1, h2, h3, h4, h5⟩ := h
  have q := clamp_far (i := i) (r := r) (by omega)
  rw [h1, h2, h3, h4, h5, pk_un q, pk_uLn q, pk_un q, pk_un q, pk_un q]
  exact ⟨rfl, rfl, fun _ => ⟨rfl, rfl, rfl⟩⟩
theorem agn_vag {lo D : Nat} (h : AGN P x nv nv' nn nn' A A' B B' C C') (hP : (D : Int) ≤ P) (hx : x < (lo : Int)) : VAG (RVW nv nn A B C) (RVW nv' nn' A' B' C') lo D := by
  refine ⟨fun i hi => ?_, fun i hl hi => ?_⟩
  · show (nv' i).toInt = (nv i).toInt
    rw [(h i (by omega)).1]
  · obtain ⟨a1, a2, a3⟩ := h i (by omega)
    obtain ⟨a4, a5, a6⟩ := a3 (by omega)
    refine ⟨?_, ?_, fun k hk => ?_⟩
    · show (nn' i).toInt = (nn i).toInt
      rw [a2]
    · show (if (A' i).toInt = -1 then (0 : Int) else if (B' i).toInt = -1 then 1 else if (C' i).toInt = -1 then 2 else 3) = (if (A i).toInt = -1 then 0 else if (B i).toInt = -1 then 1 else if (C i).toInt = -1 then 2 else 3)
      rw [a4, a5, a6]
    · show Int32.toNatClampNeg (if k = 0 then A' i else if k = 1 then B' i else C' i) = Int32.toNatClampNeg (if k = 0 then A i else if k = 1 then B i else C i)
      rw [a4, a5, a6]
/-- so many terms of a node are laid -/
def TRS (j : Nat) (a b c : Int) : Prop := (j = 0 ∧ a = -1 ∧ b = -1 ∧ c = -1) ∨ (j = 1 ∧ 0 ≤ a ∧ b = -1 ∧ c = -1) ∨ (j = 2 ∧ 0 ≤ a ∧ 0 ≤ b ∧ c = -1) ∨ (j = 3 ∧ 0 ≤ a ∧ 0 ≤ b ∧ 0 ≤ c)
theorem trs_ar {j i : Nat} (h : TRS j (A i).toInt (B i).toInt (C i).toInt) : (RVW nv nn A B C).2.2.1 i = (j : Int) := by
  show (if (A i).toInt = -1 then (0 : Int) else if (B i).toInt = -1 then 1 else if (C i).toInt = -1 then 2 else 3) = (j : Int)
  rcases h with ⟨h1, h2, h3, h4⟩ | ⟨h1, h2, h3, h4⟩ | ⟨h1, h2, h3, h4⟩ | ⟨h1, h2, h3, h4⟩
  · rw [if_pos h2]; omega
  · rw [if_neg (by omega), if_pos h3]; omega
  · rw [if_neg (by omega), if_neg (by omega), if_pos h4]; omega
  · rw [if_neg (by omega), if_neg (by omega), if_neg (by omega)]; omega
theorem nwq_trs {r v : Int32} {m : Int64} (h : NWQ r v m nv nv' nn nn' A A' B B' C C') : TRS 0 (A' (Int32.toNatClampNeg r)).toInt (B' (Int32.toNatClampNeg r)).toInt (C' (Int32.toNatClampNeg r)).toInt := by
  obtain ⟨-, -, h3, h4, h5⟩ := h
  rw [h3, h4, h5, pk_us, pk_us, pk_us]
  exact Or.inl ⟨rfl, by decide, by decide, by decide⟩
end AN
section RP
variable {G : Int → Int} {n : Int} {nv nv' nv1 : Nat → Int32} {nn nn' nn1 : Nat → Int64} {A A' A1 B B' B1 C C' C1 : Nat → Int32} {m m' : Int} {vf vf' : Int → Int} {d : Nat} {p q : Int}
/-- the terms of a node that were read so far -/
def PRN (G : Int → Int) (n : Int) (V : VWT) (m : Int) (vf : Int → Int) (P : Int) (d : Nat) (r : Int32) (j : Nat) (s q : Int) : Prop := ∃ D : Nat, (D : Int) = P ∧ PRX G n (SPX G n 27 V m vf k0 (Int32.toNatClampNeg r + 1) D d) (V.2.2.2 (Int32.toNatClampNeg r)) j s q
theorem prn_zero {V : VWT} {P : Int} {r : Int32} {s : Int} (hP : 0 ≤ P) (hs : q = s) : PRN G n V m vf P d r 0 s q := ⟨P.toNat, by omega, hs⟩

/-- the term laid in A -/
theorem vag_A {r v : Int32} {D : Nat} (he : A' = upd A1 (Int32.toNatClampNeg r) v) : VAG (RVW nv1 nn1 A1 B1 C1) (RVW nv1 nn1 A' B1 C1) (Int32.toNatClampNeg r + 1) D := by
  refine ⟨fun i _ => rfl, fun i hl _ => ⟨rfl, ?_, fun k hk => ?_⟩⟩
  · show (if (A' i).toInt = -1 then (0 : Int) else if (B1 i).toInt = -1 then 1 else if (C1 i).toInt = -1 then 2 else 3) = (if (A1 i).toInt = -1 then 0 else if (B1 i).toInt = -1 then 1 else if (C1 i).toInt = -1 then 2 else 3)
    rw [he, pk_un (by omega)]
  · show Int32.toNatClampNeg (if k = 0 then A' i else if k = 1 then B1 i else C1 i) = Int32.toNatClampNeg (if k = 0 then A1 i else if k = 1 then B1 i else C1 i)
    rw [he, pk_un (by omega)]
theorem prn_A {r x : Int32} {P0 P1 Q s q1 : Int} (h : PRN G n (RVW nv nn A B C) m vf P0 d r 0 s q1) (ha : AGN Q (-1) nv nv1 nn nn1 A A1 B B1 C C1) (hQ : P0 ≤ Q) (hx : XT m vf m' vf') (hP : P0 ≤ P1) (h0 : 0 ≤ r.toInt) (hr : r.toInt < P0) (hc : True) (hS : ∃ L D : Nat, (L : Int) = Q ∧ (D : Int) = P1 ∧ SPX G n 27 (RVW nv1 nn1 A1 B1 C1) m' vf' k0 L D d (Int32.toNatClampNeg x) (tkN G n q1) q) (he : A' = upd A1 (Int32.toNatClampNeg r) x) : PRN G n (RVW nv1 nn1 A' B1 C1) m' vf' P1 d r 1 s q := by
  obtain ⟨D0, e1, h⟩ := h
  obtain ⟨L, D, e3, e4, hS⟩ := hS
  have cr := clamp_toInt (i := r) h0
  have hw : VAG (RVW nv1 nn1 A1 B1 C1) (RVW nv1 nn1 A' B1 C1) (Int32.toNatClampNeg r + 1) D := vag_A he
  have mono0 : ∀ y p q, SPX G n 27 (RVW nv nn A B C) m vf k0 (Int32.toNatClampNeg r + 1) D0 d y p q → SPX G n 27 (RVW nv1 nn1 A' B1 C1) m' vf' k0 (Int32.toNatClampNeg r + 1) D d y p q := fun y p q g => spx_agr hw xt_rf kx_rf (Nat.le_refl _) (Nat.le_refl _) d y p q (spx_agr (agn_vag ha (by omega) (by omega)) hx kx_rf (Nat.le_refl _) (by omega) d y p q g)
  have hr1 := (ha (Int32.toNatClampNeg r) (by omega)).2.2 (by omega)
  refine ⟨D, e4, q1, ?_, Or.inl rfl, ?_⟩
  · refine pre_mono mono0 0 _ _ (fun j hj => ?_) h
    show Int32.toNatClampNeg (if j = 0 then A' (Int32.toNatClampNeg r) else if j = 1 then B1 (Int32.toNatClampNeg r) else C1 (Int32.toNatClampNeg r)) = Int32.toNatClampNeg (if j = 0 then A (Int32.toNatClampNeg r) else if j = 1 then B (Int32.toNatClampNeg r) else C (Int32.toNatClampNeg r))
    obtain ⟨r1, r2, r3⟩ := hr1
    exact absurd hj (by omega)
  · have e5 : (RVW nv1 nn1 A' B1 C1).2.2.2 (Int32.toNatClampNeg r) 0 = Int32.toNatClampNeg x := by
      show Int32.toNatClampNeg (A' (Int32.toNatClampNeg r)) = Int32.toNatClampNeg x
      rw [he, pk_us]
    rw [e5]
    exact spx_agr hw xt_rf kx_rf (by omega) (Nat.le_refl _) d _ _ _ (spx_agr (V' := (RVW nv1 nn1 A1 B1 C1)) (lo := L) (P := D) ⟨fun _ _ => rfl, fun _ _ _ => ⟨rfl, rfl, fun _ _ => rfl⟩⟩ xt_rf kx_rf (by omega) (Nat.le_refl _) d _ _ _ hS)

/-- the term laid in B -/
theorem vag_B {r v : Int32} {D : Nat} (he : B' = upd B1 (Int32.toNatClampNeg r) v) : VAG (RVW nv1 nn1 A1 B1 C1) (RVW nv1 nn1 A1 B' C1) (Int32.toNatClampNeg r + 1) D := by
  refine ⟨fun i _ => rfl, fun i hl _ => ⟨rfl, ?_, fun k hk => ?_⟩⟩
  · show (if (A1 i).toInt = -1 then (0 : Int) else if (B' i).toInt = -1 then 1 else if (C1 i).toInt = -1 then 2 else 3) = (if (A1 i).toInt = -1 then 0 else if (B1 i).toInt = -1 then 1 else if (C1 i).toInt = -1 then 2 else 3)
    rw [he, pk_un (by omega)]
  · show Int32.toNatClampNeg (if k = 0 then A1 i else if k = 1 then B' i else C1 i) = Int32.toNatClampNeg (if k = 0 then A1 i else if k = 1 then B1 i else C1 i)
    rw [he, pk_un (by omega)]
theorem prn_B {r x : Int32} {P0 P1 Q s q1 : Int} (h : PRN G n (RVW nv nn A B C) m vf P0 d r 1 s q1) (ha : AGN Q (-1) nv nv1 nn nn1 A A1 B B1 C C1) (hQ : P0 ≤ Q) (hx : XT m vf m' vf') (hP : P0 ≤ P1) (h0 : 0 ≤ r.toInt) (hr : r.toInt < P0) (hc : tkT G n q1 = 44) (hS : ∃ L D : Nat, (L : Int) = Q ∧ (D : Int) = P1 ∧ SPX G n 27 (RVW nv1 nn1 A1 B1 C1) m' vf' k0 L D d (Int32.toNatClampNeg x) (tkN G n q1) q) (he : B' = upd B1 (Int32.toNatClampNeg r) x) : PRN G n (RVW nv1 nn1 A1 B' C1) m' vf' P1 d r 2 s q := by
  obtain ⟨D0, e1, h⟩ := h
  obtain ⟨L, D, e3, e4, hS⟩ := hS
  have cr := clamp_toInt (i := r) h0
  have hw : VAG (RVW nv1 nn1 A1 B1 C1) (RVW nv1 nn1 A1 B' C1) (Int32.toNatClampNeg r + 1) D := vag_B he
  have mono0 : ∀ y p q, SPX G n 27 (RVW nv nn A B C) m vf k0 (Int32.toNatClampNeg r + 1) D0 d y p q → SPX G n 27 (RVW nv1 nn1 A1 B' C1) m' vf' k0 (Int32.toNatClampNeg r + 1) D d y p q := fun y p q g => spx_agr hw xt_rf kx_rf (Nat.le_refl _) (Nat.le_refl _) d y p q (spx_agr (agn_vag ha (by omega) (by omega)) hx kx_rf (Nat.le_refl _) (by omega) d y p q g)
  have hr1 := (ha (Int32.toNatClampNeg r) (by omega)).2.2 (by omega)
  refine ⟨D, e4, q1, ?_, Or.inr hc, ?_⟩
  · refine pre_mono mono0 1 _ _ (fun j hj => ?_) h
    show Int32.toNatClampNeg (if j = 0 then A1 (Int32.toNatClampNeg r) else if j = 1 then B' (Int32.toNatClampNeg r) else C1 (Int32.toNatClampNeg r)) = Int32.toNatClampNeg (if j = 0 then A (Int32.toNatClampNeg r) else if j = 1 then B (Int32.toNatClampNeg r) else C (Int32.toNatClampNeg r))
    obtain ⟨r1, r2, r3⟩ := hr1
    have ej : j = 0 := by omega
    subst ej
    show Int32.toNatClampNeg (A1 _) = Int32.toNatClampNeg (A _)
    rw [r1]
  · have e5 : (RVW nv1 nn1 A1 B' C1).2.2.2 (Int32.toNatClampNeg r) 1 = Int32.toNatClampNeg x := by
      show Int32.toNatClampNeg (B' (Int32.toNatClampNeg r)) = Int32.toNatClampNeg x
      rw [he, pk_us]
    rw [e5]
    exact spx_agr hw xt_rf kx_rf (by omega) (Nat.le_refl _) d _ _ _ (spx_agr (V' := (RVW nv1 nn1 A1 B1 C1)) (lo := L) (P := D) ⟨fun _ _ => rfl, fun _ _ _ => ⟨rfl, rfl, fun _ _ => rfl⟩⟩ xt_rf kx_rf (by omega) (Nat.le_refl _) d _ _ _ hS)

/-- the term laid in C -/
theorem vag_C {r v : Int32} {D : Nat} (he : C' = upd C1 (Int32.toNatClampNeg r) v) : VAG (RVW nv1 nn1 A1 B1 C1) (RVW nv1 nn1 A1 B1 C') (Int32.toNatClampNeg r + 1) D := by
  refine ⟨fun i _ => rfl, fun i hl _ => ⟨rfl, ?_, fun k hk => ?_⟩⟩
  · show (if (A1 i).toInt = -1 then (0 : Int) else if (B1 i).toInt = -1 then 1 else if (C' i).toInt = -1 then 2 else 3) = (if (A1 i).toInt = -1 then 0 else if (B1 i).toInt = -1 then 1 else if (C1 i).toInt = -1 then 2 else 3)
    rw [he, pk_un (by omega)]
  · show Int32.toNatClampNeg (if k = 0 then A1 i else if k = 1 then B1 i else C' i) = Int32.toNatClampNeg (if k = 0 then A1 i else if k = 1 then B1 i else C1 i)
    rw [he, pk_un (by omega)]
theorem prn_C {r x : Int32} {P0 P1 Q s q1 : Int} (h : PRN G n (RVW nv nn A B C) m vf P0 d r 2 s q1) (ha : AGN Q (-1) nv nv1 nn nn1 A A1 B B1 C C1) (hQ : P0 ≤ Q) (hx : XT m vf m' vf') (hP : P0 ≤ P1) (h0 : 0 ≤ r.toInt) (hr : r.toInt < P0) (hc : tkT G n q1 = 44) (hS : ∃ L D : Nat, (L : Int) = Q ∧ (D : Int) = P1 ∧ SPX G n 27 (RVW nv1 nn1 A1 B1 C1) m' vf' k0 L D d (Int32.toNatClampNeg x) (tkN G n q1) q) (he : C' = upd C1 (Int32.toNatClampNeg r) x) : PRN G n (RVW nv1 nn1 A1 B1 C') m' vf' P1 d r 3 s q := by
  obtain ⟨D0, e1, h⟩ := h
  obtain ⟨L, D, e3, e4, hS⟩ := hS
  have cr := clamp_toInt (i := r) h0
  have hw : VAG (RVW nv1 nn1 A1 B1 C1) (RVW nv1 nn1 A1 B1 C') (Int32.toNatClampNeg r + 1) D := vag_C he
  have mono0 : ∀ y p q, SPX G n 27 (RVW nv nn A B C) m vf k0 (Int32.toNatClampNeg r + 1) D0 d y p q → SPX G n 27 (RVW nv1 nn1 A1 B1 C') m' vf' k0 (Int32.toNatClampNeg r + 1) D d y p q := fun y p q g => spx_agr hw xt_rf kx_rf (Nat.le_refl _) (Nat.le_refl _) d y p q (spx_agr (agn_vag ha (by omega) (by omega)) hx kx_rf (Nat.le_refl _) (by omega) d y p q g)
  have hr1 := (ha (Int32.toNatClampNeg r) (by omega)).2.2 (by omega)
  refine ⟨D, e4, q1, ?_, Or.inr hc, ?_⟩
  · refine pre_mono mono0 2 _ _ (fun j hj => ?_) h
    show Int32.toNatClampNeg (if j = 0 then A1 (Int32.toNatClampNeg r) else if j = 1 then B1 (Int32.toNatClampNeg r) else C' (Int32.toNatClampNeg r)) = Int32.toNatClampNeg (if j = 0 then A (Int32.toNatClampNeg r) else if j = 1 then B (Int32.toNatClampNeg r) else C (Int32.toNatClampNeg r))
    obtain ⟨r1, r2, r3⟩ := hr1
    have ej : j = 0 ∨ j = 1 := by omega
    rcases ej with ej | ej
    · subst ej
      show Int32.toNatClampNeg (A1 _) = Int32.toNatClampNeg (A _)
      rw [r1]
    · subst ej
      show Int32.toNatClampNeg (B1 _) = Int32.toNatClampNeg (B _)
      rw [r2]
  · have e5 : (RVW nv1 nn1 A1 B1 C').2.2.2 (Int32.toNatClampNeg r) 2 = Int32.toNatClampNeg x := by
      show Int32.toNatClampNeg (C' (Int32.toNatClampNeg r)) = Int32.toNatClampNeg x
      rw [he, pk_us]
    rw [e5]
    exact spx_agr hw xt_rf kx_rf (by omega) (Nat.le_refl _) d _ _ _ (spx_agr (V' := (RVW nv1 nn1 A1 B1 C1)) (lo := L) (P := D) ⟨fun _ _ => rfl, fun _ _ _ => ⟨rfl, rfl, fun _ _ => rfl⟩⟩ xt_rf kx_rf (by omega) (Nat.le_refl _) d _ _ _ hS)

/-- no terms -/
theorem nmx_no {r : Int32} {S : Nat → Int → Int → Prop} {s : Int} (ht : TRS 0 (A (Int32.toNatClampNeg r)).toInt (B (Int32.toNatClampNeg r)).toInt (C (Int32.toNatClampNeg r)).toInt) (hs : ¬ tkT G n s = 40) (hq : q = s) : NMX G n (RVW nv nn A B C) S (Int32.toNatClampNeg r) s q := ⟨0, q, trs_ar ht, by omega, hq, Or.inl ⟨rfl, hs, rfl⟩⟩
/-- terms, and ")" behind them -/
theorem nmx_yes {r : Int32} {j L D : Nat} {P0 s q1 : Int} (hp : PRN G n (RVW nv nn A B C) m vf P0 d r j s q1) (ht : TRS j (A (Int32.toNatClampNeg r)).toInt (B (Int32.toNatClampNeg r)).toInt (C (Int32.toNatClampNeg r)).toInt) (hj : 1 ≤ j ∧ j ≤ 3) (hD : (D : Int) = P0) (hL : L ≤ Int32.toNatClampNeg r + 1) (hs : tkT G n s = 40) (hc : tkT G n q1 = 41) (hq : q = tkN G n q1) : NMX G n (RVW nv nn A B C) (SPX G n 27 (RVW nv nn A B C) m vf k0 L D d) (Int32.toNatClampNeg r) s q := by
  obtain ⟨D0, e1, h⟩ := hp
  have e2 : D0 = D := by omega
  subst e2
  refine ⟨j, q1, trs_ar ht, hj.2, ?_, Or.inr ⟨hj.1, hs, hc, hq⟩⟩
  exact pre_mono (spx_agr ⟨fun _ _ => rfl, fun _ _ _ => ⟨rfl, rfl, fun _ _ => rfl⟩⟩ xt_rf kx_rf hL (Nat.le_refl _) d) j _ _ (fun _ _ => rfl) h
end RP
/-! the number of a name, as the reference makes it -/
def NMK (k l v : Int) : Prop := k = 1 → l = v
theorem nmk_no {k l v : Int} (h : ¬ k = 1) : NMK k l v := fun e => absurd e h
def NMW (G : Int → Int) (p a w l : Int) : Prop := w = 1 → a - p ≤ 8 → DGS (fun i => G (p + i) - 96) (a - p).toNat ∧ l = NMV 27 (fun i => G (p + i) - 96) (a - p).toNat
theorem nmw_zero {G : Int → Int} {p a w l : Int} (ha : a = p) (hl : l = 0) : NMW G p a w l := fun _ _ => by
  subst ha; subst hl
  have e : (a - a).toNat = 0 := by omega
  rw [e]
  exact ⟨fun i hi => absurd hi (by omega), rfl⟩
theorem nmw_no {G : Int → Int} {p a w l : Int} (h : ¬ w = 1) : NMW G p a w l := fun e => absurd e h
theorem nmw_over {G : Int → Int} {p a w l : Int} (h : 8 < a - p) : NMW G p a w l := fun _ q => absurd q (by omega)
theorem nm27 {x y c s t w : Int64} {v : Int32} (hy : y = 27 * x) (hc : c = v.toInt64) (hs : s = y + c) (ht : t = s - 97) (hw : w = t + 1) (hx : 0 ≤ x.toInt ∧ x.toInt < 34359738368) (hv : 0 ≤ v.toInt ∧ v.toInt ≤ 255) : w.toInt = 27 * x.toInt + v.toInt - 96 := by
  have c1 : c.toInt = v.toInt := by rw [hc]; exact Int32.toInt_toInt64 _
  have y1 : y.toInt = 27 * x.toInt := by
    rw [hy, Int64.toInt_mul]
    have e : (27 : Int64).toInt = 27 := by decide
    rw [e]; exact l_bm (by omega)
  have s1 : s.toInt = 27 * x.toInt + v.toInt := by rw [hs]; exact l_add y1 c1 (by omega)
  have t1 : t.toInt = 27 * x.toInt + v.toInt - 97 := by rw [ht]; exact l_sub s1 (by decide) (by omega)
  have w1 : w.toInt = 27 * x.toInt + v.toInt - 97 + 1 := by rw [hw]; exact l_add t1 (by decide) (by omega)
  omega
theorem nmv27_lt {D : Int → Int} : ∀ k : Nat, DGS D k → NMV 27 D k + 1 ≤ 27 ^ k := by
  intro k
  induction k with
  | zero => intro _; rw [show NMV 27 D 0 = 0 from rfl]; decide
  | succ k ih =>
    intro h
    have a := ih (dgs_le h (by omega))
    have b := h k (by omega)
    rw [nmv_s, Int.pow_succ]
    omega
theorem nmv27_l7 {D : Int → Int} {k : Nat} (h : DGS D k) (hk : k ≤ 7) : NMV 27 D k < 34359738368 := by
  have a := nmv27_lt k h
  have b : ∀ j : Nat, j < 8 → (27 : Int) ^ j ≤ 34359738368 := by decide
  have c := b k (by omega)
  omega
theorem nmw_small {G : Int → Int} {p a a' : Int} {x y c s t w : Int64} {v : Int32} (h : NMW G p a 1 x.toInt) (hp : p ≤ a) (h8 : a - p < 8) (hG : 97 ≤ G a ∧ G a ≤ 122) (hv : v.toInt = G a) (hy : y = 27 * x) (hc : c = v.toInt64) (hs : s = y + c) (ht : t = s - 97) (hw : w = t + 1) (ha : a' = a + 1) : NMW G p a' 1 w.toInt := fun _ _ => by
  obtain ⟨h1, h2⟩ := h rfl (by omega)
  have e1 : (a' - p).toNat = (a - p).toNat + 1 := by omega
  have e2 : p + (((a - p).toNat : Nat) : Int) = a := by omega
  have e3 := nmv27_l7 h1 (by omega)
  have e4 := nmv_ge (Or.inl rfl) (a - p).toNat h1
  have e5 := nm27 hy hc hs ht hw (by omega) (by omega)
  rw [e1]
  refine ⟨fun i hi => ?_, ?_⟩
  · by_cases q : i = (a - p).toNat
    · subst q
      show 1 ≤ G (p + (((a - p).toNat : Nat) : Int)) - 96 ∧ G (p + (((a - p).toNat : Nat) : Int)) - 96 ≤ 26
      rw [e2]; omega
    · exact h1 i (by omega)
  · rw [nmv_s, e5, h2, hv]
    show _ = 27 * _ + (G (p + (((a - p).toNat : Nat) : Int)) - 96)
    rw [e2]; omega
theorem nmk_end {G : Int → Int} {n p a w l k : Int} (h : NMW G p a w l) (hw : w = 1) (h8 : a - p ≤ 8) (he : tkE G n p = a) : NMK k l (NMI 27 G n p) := fun _ => by
  unfold NMI
  rw [he]; exact (h hw h8).2
/-! what a term of the reference is -/
section RT
variable {G : Int → Int} {n : Int} {nv nv' nv1 : Nat → Int32} {nn nn' nn1 : Nat → Int64} {A A' A1 B B' B1 C C' C1 : Nat → Int32} {m m' : Int} {vf vf' : Int → Int} {d L D : Nat} {p q : Int}
theorem agn_A {P : Int} {r v : Int32} {A'' : Nat → Int32} (h : AGN P r.toInt nv nv' nn nn' A A' B B' C C') (e : A'' = upd A' (Int32.toNatClampNeg r) v) (h0 : 0 ≤ r.toInt) : AGN P r.toInt nv nv' nn nn' A A'' B B' C C' := fun i hi => by
  obtain ⟨a1, a2, a3⟩ := h i hi
  have c := clamp_toInt (i := r) h0
  exact ⟨a1, a2, fun hx => ⟨by rw [e, pk_un (by omega)]; exact (a3 hx).1, (a3 hx).2⟩⟩
theorem agn_B {P : Int} {r v : Int32} {B'' : Nat → Int32} (h : AGN P r.toInt nv nv' nn nn' A A' B B' C C') (e : B'' = upd B' (Int32.toNatClampNeg r) v) (h0 : 0 ≤ r.toInt) : AGN P r.toInt nv nv' nn nn' A A' B B'' C C' := fun i hi => by
  obtain ⟨a1, a2, a3⟩ := h i hi
  have c := clamp_toInt (i := r) h0
  exact ⟨a1, a2, fun hx => ⟨(a3 hx).1, by rw [e, pk_un (by omega)]; exact (a3 hx).2.1, (a3 hx).2.2⟩⟩
theorem agn_C {P : Int} {r v : Int32} {C'' : Nat → Int32} (h : AGN P r.toInt nv nv' nn nn' A A' B B' C C') (e : C'' = upd C' (Int32.toNatClampNeg r) v) (h0 : 0 ≤ r.toInt) : AGN P r.toInt nv nv' nn nn' A A' B B' C C'' := fun i hi => by
  obtain ⟨a1, a2, a3⟩ := h i hi
  have c := clamp_toInt (i := r) h0
  exact ⟨a1, a2, fun hx => ⟨(a3 hx).1, (a3 hx).2.1, by rw [e, pk_un (by omega)]; exact (a3 hx).2.2⟩⟩
theorem spr_var {r v : Int32} {k : Int64} (h : NWQ r v k nv nv' nn nn' A A' B B' C C') (h0 : 0 ≤ r.toInt) (hL : (L : Int) ≤ r.toInt) (hD : r.toInt < (D : Int)) (hv : 0 ≤ v.toInt ∧ v.toInt < m ∧ vf v.toInt = G p) (ht : tkT G n p = 257) (hq : q = tkN G n p) : SPX G n 27 (RVW nv' nn' A' B' C') m vf k0 L D (d + 1) (Int32.toNatClampNeg r) p q := by
  have c := clamp_toInt (i := r) h0
  have e : (nv' (Int32.toNatClampNeg r)).toInt = v.toInt := by rw [h.1, pk_us]
  refine ⟨by omega, Or.inl ⟨ht, hq, ?_, ?_, ?_, fun _ => by omega, fun h9 => absurd h9 (by decide)⟩⟩
  · show 0 ≤ (nv' (Int32.toNatClampNeg r)).toInt
    omega
  · show (nv' (Int32.toNatClampNeg r)).toInt < m
    omega
  · show vf (nv' (Int32.toNatClampNeg r)).toInt = G p
    rw [e]; exact hv.2.2
theorem spr_name {r v : Int32} {k : Int64} {P x : Int} (h : NWQ r v k nv nv1 nn nn1 A A1 B B1 C C1) (ha : AGN P x nv1 nv' nn1 nn' A1 A' B1 B' C1 C') (hr : r.toInt < P) (h0 : 0 ≤ r.toInt) (hL : (L : Int) ≤ r.toInt) (hD : r.toInt < (D : Int)) (hv : v.toInt = -1) (hk : k.toInt = NMI 27 G n p) (ht : tkT G n p = 256) (hN : NMX G n (RVW nv' nn' A' B' C') (SPX G n 27 (RVW nv' nn' A' B' C') m vf k0 L D d) (Int32.toNatClampNeg r) (tkN G n p) q) : SPX G n 27 (RVW nv' nn' A' B' C') m vf k0 L D (d + 1) (Int32.toNatClampNeg r) p q := by
  have c := clamp_toInt (i := r) h0
  obtain ⟨a1, a2, -⟩ := ha (Int32.toNatClampNeg r) (by omega)
  refine ⟨by omega, Or.inr ⟨ht, by omega, ?_, ?_, hN⟩⟩
  · show (nv' (Int32.toNatClampNeg r)).toInt = -1
    rw [a1, h.1, pk_us]; exact hv
  · show (nn' (Int32.toNatClampNeg r)).toInt = NMI 27 G n p
    rw [a2, h.2.1, pk_uLs]; exact hk
end RT
section RU
variable {G : Int → Int} {n : Int} {nv nv' nv1 : Nat → Int32} {nn nn' nn1 : Nat → Int64} {A A' A1 B B' B1 C C' C1 : Nat → Int32}
theorem trs_agn {j : Nat} {Q : Int} {r : Int32} (h : TRS j (A (Int32.toNatClampNeg r)).toInt (B (Int32.toNatClampNeg r)).toInt (C (Int32.toNatClampNeg r)).toInt) (ha : AGN Q (-1) nv nv1 nn nn1 A A1 B B1 C C1) (h0 : 0 ≤ r.toInt) (hr : r.toInt < Q) : TRS j (A1 (Int32.toNatClampNeg r)).toInt (B1 (Int32.toNatClampNeg r)).toInt (C1 (Int32.toNatClampNeg r)).toInt := by
  have c := clamp_toInt (i := r) h0
  obtain ⟨a, b, d⟩ := (ha (Int32.toNatClampNeg r) (by omega)).2.2 (by omega)
  rw [a, b, d]; exact h
theorem trs_A {r x : Int32} (h : TRS 0 (A (Int32.toNatClampNeg r)).toInt (B (Int32.toNatClampNeg r)).toInt (C (Int32.toNatClampNeg r)).toInt) (he : A' = upd A (Int32.toNatClampNeg r) x) (hx : 0 ≤ x.toInt) : TRS 1 (A' (Int32.toNatClampNeg r)).toInt (B (Int32.toNatClampNeg r)).toInt (C (Int32.toNatClampNeg r)).toInt := by
  rw [he, pk_us]; unfold TRS at h ⊢; omega
theorem trs_B {r x : Int32} (h : TRS 1 (A (Int32.toNatClampNeg r)).toInt (B (Int32.toNatClampNeg r)).toInt (C (Int32.toNatClampNeg r)).toInt) (he : B' = upd B (Int32.toNatClampNeg r) x) (hx : 0 ≤ x.toInt) : TRS 2 (A (Int32.toNatClampNeg r)).toInt (B' (Int32.toNatClampNeg r)).toInt (C (Int32.toNatClampNeg r)).toInt := by
  rw [he, pk_us]; unfold TRS at h ⊢; omega
theorem trs_C {r x : Int32} (h : TRS 2 (A (Int32.toNatClampNeg r)).toInt (B (Int32.toNatClampNeg r)).toInt (C (Int32.toNatClampNeg r)).toInt) (he : C' = upd C (Int32.toNatClampNeg r) x) (hx : 0 ≤ x.toInt) : TRS 3 (A (Int32.toNatClampNeg r)).toInt (B (Int32.toNatClampNeg r)).toInt (C' (Int32.toNatClampNeg r)).toInt := by
  rw [he, pk_us]; unfold TRS at h ⊢; omega
theorem nmx_mono {V : VWT} {S S' : Nat → Int → Int → Prop} {x : Nat} {s q : Int} (hS : ∀ y p q, S y p q → S' y p q) (h : NMX G n V S x s q) : NMX G n V S' x s q := by
  obtain ⟨m, q1, a, b, c, d⟩ := h
  exact ⟨m, q1, a, b, pre_mono hS m _ _ (fun _ _ => rfl) c, d⟩
theorem spx_lo {V : VWT} {kf : Nat → Nat} {B m : Int} {vf : Int → Int} {lo lo' P d : Nat} (h : lo' ≤ lo) : ∀ y p q, SPX G n B V m vf kf lo P d y p q → SPX G n B V m vf kf lo' P d y p q := fun y p q g => spx_agr ⟨fun _ _ => rfl, fun _ _ _ => ⟨rfl, rfl, fun _ _ => rfl⟩⟩ xt_rf kx_rf h (Nat.le_refl _) d y p q g
end RU
