/-! which literals are opposite, as the class asks it -/
section OX
variable {m : PRM} {vp : Nat → Nat → Nat → Prop} {bnd cof fst lit pls trm ter : Nat → Int32} {nam : Nat → Int64} {S I : Int}
theorem sgC_01 (f : Nat → Int32) (c k : Nat) : 0 ≤ sgC f c k ∧ sgC f c k ≤ 1 := by
  unfold sgC
  have a := Int.emod_nonneg ((f c).toInt / (2 : Int) ^ k) (show (2 : Int) ≠ 0 by decide)
  have b := Int.emod_lt_of_pos ((f c).toInt / (2 : Int) ^ k) (show (0 : Int) < 2 by decide)
  omega
theorem opx_dec (hm : MCL m fst lit pls S) (hv : VPR m vp) (gk : GVK m.1 trm ter) (gm : GVM m.1 nam) (nx : ∀ c k : Nat, ndC fst c k < 300) (h : VLC m vp bnd cof I) {i k j l : Nat} {r : Int} (hi : (i : Int) < I) (hk : (k : Int) < (lit (cof i).toInt.toNat).toInt) (hj : (j : Int) < I) (hl : (l : Int) < (lit (cof j).toInt.toNat).toInt)
    (o : OPP (sgC pls (cof i).toInt.toNat k - sgC pls (cof j).toInt.toNat l) ((nam (ndC fst (cof i).toInt.toNat k)).toInt = (nam (ndC fst (cof j).toInt.toNat l)).toInt ∧ (trm (ndC fst (cof i).toInt.toNat k)).toInt = (trm (ndC fst (cof j).toInt.toNat l)).toInt) r) : (r = 1 ∧ OPX m cof i k j l) ∨ (r = 0 ∧ ¬ OPX m cof i k j l) := by
  obtain ⟨a1, ⟨s, _, a2⟩, a3⟩ := lpy_at hm hv h hi hk
  obtain ⟨b1, ⟨s', _, b2⟩, b3⟩ := lpy_at hm hv h hj hl
  have p1 := (hv.1 _ _ _ a2).1
  have p2 := (hv.1 _ _ _ b2).1
  have x1 := nx (cof i).toInt.toNat k
  have x2 := nx (cof j).toInt.toNat l
  have e1 : LPY m cof i k % 300 = ndC fst (cof i).toInt.toNat k := by rw [a1]; omega
  have e2 : LPY m cof j l % 300 = ndC fst (cof j).toInt.toNat l := by rw [b1]; omega
  have n1 := gm _ p1
  have n2 := gm _ p2
  have t1 := (gk _ p1).1
  have t2 := (gk _ p2).1
  rw [e1] at n1 t1
  rw [e2] at n2 t2
  have g1 := hm.2.2.2 (cof i).toInt.toNat k a3 hk
  have g2 := hm.2.2.2 (cof j).toInt.toNat l b3 hl
  have c1 := sgC_01 pls (cof i).toInt.toNat k
  have c2 := sgC_01 pls (cof j).toInt.toNat l
  have ne : m.2.2.2.1 (cof i).toInt.toNat k ≠ m.2.2.2.1 (cof j).toInt.toNat l ↔ ¬ sgC pls (cof i).toInt.toNat k - sgC pls (cof j).toInt.toNat l = 0 := by
    constructor
    · intro w z
      exact w (Bool.eq_iff_iff.mpr (by rw [g1, g2]; omega))
    · intro w z
      rw [z] at g1
      have q := g1.symm.trans g2
      omega
  rcases o with ⟨o1, o2, o3⟩ | ⟨o1, o2⟩
  · exact Or.inl ⟨o1, by unfold OPX OPQ; exact ⟨ne.mpr o2, by rw [n1, n2]; exact o3.1, by rw [t1, t2]; exact o3.2⟩⟩
  · refine Or.inr ⟨o1, fun q => ?_⟩
    obtain ⟨q1, q2, q3⟩ := q
    rcases o2 with o2 | o2
    · exact ne.mp q1 o2
    · exact o2 ⟨by rw [← n1, ← n2]; exact q2, by rw [← t1, ← t2]; exact q3⟩
/-- a literal of a clause that may become an instance -/
theorem eox_dec (hm : MCL m fst lit pls S) (hv : VPR m vp) (gk : GVK m.1 trm ter) (gm : GVM m.1 nam) (nx : ∀ c k : Nat, ndC fst c k < 300) (h : VLC m vp bnd cof I) {i k n0 c l cd : Nat} {r : Int} (hi : (i : Int) < I) (hk : (k : Int) < (lit (cof i).toInt.toNat).toInt) (hc : (c : Int) < S) (hl : (l : Int) < (lit c).toInt) (ec : cd / 6 = c) (el : cd % 6 = l) (h0 : n0 < 32)
    (o : OPP (sgC pls (cof i).toInt.toNat k - sgC pls c l) ((nam (ndC fst (cof i).toInt.toNat k)).toInt = (nam (ndC fst c l)).toInt ∧ (trm (ndC fst (cof i).toInt.toNat k)).toInt = (trm (ndC fst c l)).toInt) r) : (r = 1 ∧ EOX m cof i k n0 cd) ∨ (r = 0 ∧ ¬ EOX m cof i k n0 cd) := by
  subst ec
  subst el
  obtain ⟨a1, ⟨s, _, a2⟩, a3⟩ := lpy_at hm hv h hi hk
  have hl2 := hm.2.1 (cd / 6)
  have lt2 : cd % 6 < m.2.2.1 (cd / 6) := by omega
  have b1 : EPX m n0 cd = 300 * n0 + ndC fst (cd / 6) (cd % 6) := hm.2.2.1 n0 (cd / 6) (cd % 6) h0 hc hl
  have cl2 : cd / 6 < m.2.2.2.2.1 := by have := hm.1; omega
  have b2 : vp (cd / 6) n0 (EPX m n0 cd) := hv.2.2.2.2.2 n0 (cd / 6) (cd % 6) h0 cl2 lt2
  have p1 := (hv.1 _ _ _ a2).1
  have p2 := (hv.1 _ _ _ b2).1
  have x1 := nx (cof i).toInt.toNat k
  have x2 := nx (cd / 6) (cd % 6)
  have e1 : LPY m cof i k % 300 = ndC fst (cof i).toInt.toNat k := by rw [a1]; omega
  have e2 : EPX m n0 cd % 300 = ndC fst (cd / 6) (cd % 6) := by rw [b1]; omega
  have n1 := gm _ p1
  have n2 := gm _ p2
  have t1 := (gk _ p1).1
  have t2 := (gk _ p2).1
  rw [e1] at n1 t1
  rw [e2] at n2 t2
  have g1 := hm.2.2.2 (cof i).toInt.toNat k a3 hk
  have g2 := hm.2.2.2 (cd / 6) (cd % 6) hc hl
  have c1 := sgC_01 pls (cof i).toInt.toNat k
  have c2 := sgC_01 pls (cd / 6) (cd % 6)
  have ne : m.2.2.2.1 (cof i).toInt.toNat k ≠ m.2.2.2.1 (cd / 6) (cd % 6) ↔ ¬ sgC pls (cof i).toInt.toNat k - sgC pls (cd / 6) (cd % 6) = 0 := by
    constructor
    · intro w z
      exact w (Bool.eq_iff_iff.mpr (by rw [g1, g2]; omega))
    · intro w z
      rw [z] at g1
      have q := g1.symm.trans g2
      omega
  rcases o with ⟨o1, o2, o3⟩ | ⟨o1, o2⟩
  · exact Or.inl ⟨o1, by unfold EOX OPQ; exact ⟨lt2, ne.mpr o2, by rw [n1, n2]; exact o3.1, by rw [t1, t2]; exact o3.2⟩⟩
  · refine Or.inr ⟨o1, fun q => ?_⟩
    obtain ⟨_, q1, q2, q3⟩ := q
    rcases o2 with o2 | o2
    · exact ne.mp q1 o2
    · exact o2 ⟨by rw [← n1, ← n2]; exact q2, by rw [← t1, ← t2]; exact q3⟩
theorem eox_no (hm : MCL m fst lit pls S) {i k n0 cd : Nat} (hl : ¬ ((cd % 6 : Nat) : Int) < (lit (cd / 6)).toInt) : ¬ EOX m cof i k n0 cd := fun q => by
  have a := hm.2.1 (cd / 6)
  have b := q.1
  omega
end OX
