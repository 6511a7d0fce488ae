/-! how the class's latest step is closed, or isn't -/
section CWY
variable {m : PRM} {c0 : CFT} {la la' ra ra' : Nat → Nat} {lf lf' : Nat → LT} {rf rf' : Nat → RT} {sf sf' : Nat → ST} {bnd bnd' trl trl' cof cof' : Nat → Int32} {T I R L S : Int} {n n' : CTT} {j ro : Nat}
/-- the fields of a step but for what changes -/
def SXQ (x y : ST) : Prop := y.1 = x.1 ∧ sTM y = sTM x ∧ sIM y = sIM x ∧ sRM y = sRM x ∧ sLM y = sLM x
/-- where a literal of an instance stands -/
def LPY (m : PRM) (cof : Nat → Int32) (i k : Nat) : Nat := m.2.1 i (cof i).toInt.toNat k
def OPX (m : PRM) (cof : Nat → Int32) (i k j l : Nat) : Prop := OPQ m (cof i).toInt.toNat k (LPY m cof i k) (cof j).toInt.toNat l (LPY m cof j l)
theorem lqp_cof {c : Nat → Nat} {i k : Nat} (h : AGI_ cof I c) (hi : (i : Int) < I) : lqp m c i k = LPY m cof i k := by
  unfold lqp LPY
  have e := h i hi
  rw [show (cof i).toInt.toNat = c i by omega]
theorem cof_nat {c : Nat → Nat} {i : Nat} (h : AGI_ cof I c) (hi : (i : Int) < I) : (cof i).toInt.toNat = c i := by
  have e := h i hi
  omega
/-- by a lemma -/
theorem bkt_lem1 {q : Nat} {n1 : Int} (hc : CIV m c0) (h : BKT m c0 la lf ra rf sf bnd trl cof j n) (hro : (ro : Int) < sRM (sf j)) (er : (sf j).1 = some (ra ro)) (ij : ∀ i k : Nat, (i : Int) < sRM (sf j) → (k : Int) < sRM (sf j) → ra i = ra k → i = k) (nf : ¬ (sf j).2.2.2.2.2.2.2.1.toInt = 1) (hl : m.2.2.2.2.2.2.2.1 = true) (nl : ¬ (sf j).2.2.2.2.1.toInt = 1)
    (hx : LAX m la lf (BDV bnd) cof n1 (sIM (sf j)) (rf ro).2.2.2.2.1 (rf ro).1.toInt.toNat (rf ro).2.2.1.toInt.toNat (some (la q))) (hn : sLM (sf j) ≤ n1) (hq : (q : Int) < n1) (il : ∀ i k : Nat, (i : Int) < n1 → (k : Int) < n1 → la i = la k → i = k)
    (ho : ∀ i : Nat, i ≠ j → sf' i = sf i) (hs : SXQ (sf j) (sf' j)) (e1 : (sf' j).2.1.toInt = 1) (e2 : (sf' j).2.2.1.toInt = (lf q).1.toInt) (e3 : (sf' j).2.2.2.1.toInt = (lf q).2.1.toInt) (e4 : (sf' j).2.2.2.2.1.toInt = 1) (e5 : (sf' j).2.2.2.2.2.1 = (sf j).2.2.2.2.2.1) (e6 : (sf' j).2.2.2.2.2.2.1.toInt = (sf j).2.2.2.2.2.2.1.toInt) (e7 : (sf' j).2.2.2.2.2.2.2.1.toInt = 1 ↔ m.2.2.2.2.2.2.2.2 = true) : CZX m c0 la lf ra rf sf' bnd trl cof (sTM (sf j)) (sIM (sf j)) j n := by
  obtain ⟨f, fs, kd, bi, bl, lt, lk, cd, fx, i0, c, K, h1, h2, h3, h4, h5, h6, h7, h8, h9, h10, h11, h12, h13, h14, h15⟩ := bkt_top hc h hro er ij
  obtain ⟨s1, s2, s3, s4, s5⟩ := hs
  have ef : fx = false := by
    cases fx with
    | false => rfl
    | true => exact absurd (h8.mpr rfl) nf
  have el : lt = false := by
    cases lt with
    | false => rfl
    | true => exact absurd (h5.mpr rfl) nl
  subst ef; subst el
  have g1 : (rf ro).1.toInt.toNat = f.1 := by have := h3.1; omega
  have g2 : (rf ro).2.2.1.toInt.toNat = f.2.2.1 := by have := h3.2.2.1; omega
  have hl5 := lkr_mono _ _ _ _ h3.2.2.2.2.1 hn (fun _ _ => ⟨rfl, rfl⟩)
  rcases hx f.2.2.2.2.1 c hl5 h10 with ⟨w, _⟩ | ⟨q', x, q1, q2, q3, q4, q5⟩
  · cases w
  · have eq := il q q' hq q1 (Option.some.inj q2)
    subst eq
    rw [g1, g2] at q5
    refine ⟨f, fs, _, _, K, _, run_st h1 (mst_lem1 hl q5), rfl, h2, ?_, ⟨rfl, h9.symm, fun i hi => h10 i (by have hi : i < i0 := hi; omega)⟩, (show (1 : Int) ≠ 0 by decide), Or.inl ⟨(show (1 : Int) ≠ 3 by decide), rfl⟩⟩
    rw [s4, s5]
    exact stv_top h15 h2 ho s1 ⟨s2, s3, s4, s5⟩ rfl rfl (Or.inr ⟨e1, e2.trans q3, e3.trans q4⟩) ⟨fun _ => rfl, fun _ => e4⟩ (by rw [e5]; exact h6) (e6.trans h7) e7
/-- no lemma is alike it -/
theorem bkt_lem0 {n1 : Int} (hc : CIV m c0) (h : BKT m c0 la lf ra rf sf bnd trl cof j n) (hro : (ro : Int) < sRM (sf j)) (er : (sf j).1 = some (ra ro)) (ij : ∀ i k : Nat, (i : Int) < sRM (sf j) → (k : Int) < sRM (sf j) → ra i = ra k → i = k) (nf : ¬ (sf j).2.2.2.2.2.2.2.1.toInt = 1) (hl : m.2.2.2.2.2.2.2.1 = true) (nl : ¬ (sf j).2.2.2.2.1.toInt = 1)
    (hx : LAX m la lf (BDV bnd) cof n1 (sIM (sf j)) (rf ro).2.2.2.2.1 (rf ro).1.toInt.toNat (rf ro).2.2.1.toInt.toNat none) (hn : sLM (sf j) ≤ n1)
    (ho : ∀ i : Nat, i ≠ j → sf' i = sf i) (hs : sf' j = ((sf j).1, (sf j).2.1, (sf j).2.2.1, (sf j).2.2.2.1, 1, (sf j).2.2.2.2.2)) : BKT m c0 la lf ra rf sf' bnd trl cof j n := by
  obtain ⟨f, fs, kd, bi, bl, lt, lk, cd, fx, i0, c, K, h1, h2, h3, h4, h5, h6, h7, h8, h9, h10, h11, h12, h13, h14, h15⟩ := bkt_top hc h hro er ij
  have ef : fx = false := by
    cases fx with
    | false => rfl
    | true => exact absurd (h8.mpr rfl) nf
  have el : lt = false := by
    cases lt with
    | false => rfl
    | true => exact absurd (h5.mpr rfl) nl
  subst ef; subst el
  have g1 : (rf ro).1.toInt.toNat = f.1 := by have := h3.1; omega
  have g2 : (rf ro).2.2.1.toInt.toNat = f.2.2.1 := by have := h3.2.2.1; omega
  have hl5 := lkr_mono _ _ _ _ h3.2.2.2.2.1 hn (fun _ _ => ⟨rfl, rfl⟩)
  rcases hx f.2.2.2.2.1 c hl5 h10 with ⟨_, q5⟩ | ⟨_, _, _, q2, _⟩
  · rw [g1, g2] at q5
    refine ⟨_, K, run_st h1 (mst_lem0 hl q5), h2, ?_, rfl⟩
    have kk : kd = 0 ∨ ((sf j).2.1.toInt = kd ∧ (sf j).2.2.1.toInt = bi ∧ (sf j).2.2.2.1.toInt = bl) := by
      obtain ⟨_, _, _, _, ⟨_, c2, _⟩, _⟩ := h15
      subst h2
      exact c2
    have m1 : sTM (sf' j) = sTM (sf j) ∧ sIM (sf' j) = sIM (sf j) ∧ sRM (sf' j) = sRM (sf j) ∧ sLM (sf' j) = sLM (sf j) := by rw [hs]; exact ⟨rfl, rfl, rfl, rfl⟩
    rw [m1.1, m1.2.1, m1.2.2.1, m1.2.2.2]
    refine stv_top h15 h2 ho (by rw [hs]) m1 rfl rfl ?_ ⟨fun _ => rfl, fun _ => by rw [hs]; exact (show (1 : Int32).toInt = 1 by decide)⟩ (by rw [hs]; exact h6) (by rw [hs]; exact h7) (by rw [hs]; exact h8)
    rw [hs]; exact kk
  · cases q2
/-- a literal of the path that isn't opposite, or large -/
theorem bkt_redno {q : Nat} (hc : CIV m c0) (h : BKT m c0 la lf ra rf sf bnd trl cof j n) (hro : (ro : Int) < sRM (sf j)) (er : (sf j).1 = some (ra ro)) (ij : ∀ i k : Nat, (i : Int) < sRM (sf j) → (k : Int) < sRM (sf j) → ra i = ra k → i = k) (nf : ¬ (sf j).2.2.2.2.2.2.2.1.toInt = 1) (nl : m.2.2.2.2.2.2.2.1 = true → (sf j).2.2.2.2.1.toInt = 1)
    (hk : (sf j).2.2.2.2.2.1 = some (la q)) (hq : (q : Int) < sLM (sf j)) (il : ∀ i k : Nat, (i : Int) < sLM (sf j) → (k : Int) < sLM (sf j) → la i = la k → i = k)
    (hn : ¬ (OPX m cof (rf ro).1.toInt.toNat (rf ro).2.2.1.toInt.toNat (lf q).1.toInt.toNat (lf q).2.1.toInt.toNat ∧ SML m (BDV bnd) (LPY m cof (lf q).1.toInt.toNat (lf q).2.1.toInt.toNat)))
    (ho : ∀ i : Nat, i ≠ j → sf' i = sf i) (hs : sf' j = ((sf j).1, (sf j).2.1, (sf j).2.2.1, (sf j).2.2.2.1, (sf j).2.2.2.2.1, (lf q).2.2.2, (sf j).2.2.2.2.2.2)) : BKT m c0 la lf ra rf sf' bnd trl cof j n := by
  obtain ⟨f, fs, kd, bi, bl, lt, lk, cd, fx, i0, c, K, h1, h2, h3, h4, h5, h6, h7, h8, h9, h10, h11, h12, h13, h14, h15⟩ := bkt_top hc h hro er ij
  have ef : fx = false := by
    cases fx with
    | false => rfl
    | true => exact absurd (h8.mpr rfl) nf
  subst ef
  have g1 : (rf ro).1.toInt.toNat = f.1 := by have := h3.1; omega
  have g2 : (rf ro).2.2.1.toInt.toNat = f.2.2.1 := by have := h3.2.2.1; omega
  cases lk with
  | nil => exact absurd (hk.symm.trans (show (sf j).2.2.2.2.2.1 = none from h6)) (by simp)
  | cons x xs =>
    obtain ⟨q', q1, q2, q3, q4, q5, q6⟩ := h6
    have eq := il q q' hq q1 (Option.some.inj (hk.symm.trans q2))
    subst eq
    obtain ⟨l1, l2⟩ := h14 x List.mem_cons_self
    have g3 : (lf q).1.toInt.toNat = x.1 := by omega
    have g4 : (lf q).2.1.toInt.toNat = x.2 := by omega
    have no : ¬ (OPQ m (c f.1) f.2.2.1 (lqp m c f.1 f.2.2.1) (c x.1) x.2 (lqp m c x.1 x.2) ∧ SML m (BDV bnd) (lqp m c x.1 x.2)) := by
      rw [lqp_cof h10 (by omega), lqp_cof h10 (by omega), ← cof_nat h10 (show ((f.1 : Nat) : Int) < sIM (sf j) by omega), ← cof_nat h10 (show ((x.1 : Nat) : Int) < sIM (sf j) by omega)]
      rw [g1, g2, g3, g4] at hn
      exact hn
    refine ⟨_, K, run_st h1 (mst_redno (fun w => h5.mp (nl w)) no), h2, ?_, rfl⟩
    have kk : kd = 0 ∨ ((sf j).2.1.toInt = kd ∧ (sf j).2.2.1.toInt = bi ∧ (sf j).2.2.2.1.toInt = bl) := by
      obtain ⟨_, _, _, _, ⟨_, c2, _⟩, _⟩ := h15
      subst h2
      exact c2
    have m1 : sTM (sf' j) = sTM (sf j) ∧ sIM (sf' j) = sIM (sf j) ∧ sRM (sf' j) = sRM (sf j) ∧ sLM (sf' j) = sLM (sf j) := by rw [hs]; exact ⟨rfl, rfl, rfl, rfl⟩
    rw [m1.1, m1.2.1, m1.2.2.1, m1.2.2.2]
    refine stv_top h15 h2 ho (by rw [hs]) m1 rfl rfl ?_ (by rw [hs]; exact h5) (by rw [hs]; exact lkr_mono _ _ _ _ q6 (by omega) (fun _ _ => ⟨rfl, rfl⟩)) (by rw [hs]; exact h7) (by rw [hs]; exact h8)
    rw [hs]; exact kk
/-- a try of it: none is left, or how it goes -/
theorem bkt_red {q : Nat} (hc : CIV m c0) (h : BKT m c0 la lf ra rf sf bnd trl cof j n) (hro : (ro : Int) < sRM (sf j)) (er : (sf j).1 = some (ra ro)) (ij : ∀ i k : Nat, (i : Int) < sRM (sf j) → (k : Int) < sRM (sf j) → ra i = ra k → i = k) (nf : ¬ (sf j).2.2.2.2.2.2.2.1.toInt = 1) (nl : m.2.2.2.2.2.2.2.1 = true → (sf j).2.2.2.2.1.toInt = 1)
    (hk : (sf j).2.2.2.2.2.1 = some (la q)) (hq : (q : Int) < sLM (sf j)) (il : ∀ i k : Nat, (i : Int) < sLM (sf j) → (k : Int) < sLM (sf j) → la i = la k → i = k)
    (hn : OPX m cof (rf ro).1.toInt.toNat (rf ro).2.2.1.toInt.toNat (lf q).1.toInt.toNat (lf q).2.1.toInt.toNat ∧ SML m (BDV bnd) (LPY m cof (lf q).1.toInt.toNat (lf q).2.1.toInt.toNat))
    (ho : ∀ i : Nat, i ≠ j → sf' i = sf i) (hs : sf' j = ((sf j).1, (sf j).2.1, (sf j).2.2.1, (sf j).2.2.2.1, (sf j).2.2.2.2.1, (lf q).2.2.2, (sf j).2.2.2.2.2.2)) :
    (n.1 = 1000 → RUN m c0 (DNc (-2) [] zB n)) ∧
    (¬ n.1 = 1000 → ∀ b1 : Nat → Int, OUT m.1 (BDV bnd) [(LPY m cof (rf ro).1.toInt.toNat (rf ro).2.2.1.toInt.toNat, LPY m cof (lf q).1.toInt.toNat (lf q).2.1.toInt.toNat)] false b1 → BKT m c0 la lf ra rf sf' bnd trl cof j (n.1 + 1, n.2)) ∧
    (¬ n.1 = 1000 → ∀ (sf2 : Nat → ST) (bnd2 trl2 : Nat → Int32) (T2 : Int), OUT m.1 (BDV bnd) [(LPY m cof (rf ro).1.toInt.toNat (rf ro).2.2.1.toInt.toNat, LPY m cof (lf q).1.toInt.toNat (lf q).2.1.toInt.toNat)] true (BDV bnd2) → sTM (sf j) ≤ T2 → (∀ i : Nat, (i : Int) < sTM (sf j) → trl2 i = trl i ∧ bnd2 (trl i).toInt.toNat = bnd (trl i).toInt.toNat) → (∀ i : Nat, i ≠ j → sf2 i = sf i) → SXQ (sf j) (sf2 j) → (sf2 j).2.1.toInt = 2 → (sf2 j).2.2.1.toInt = (lf q).1.toInt → (sf2 j).2.2.2.1.toInt = (lf q).2.1.toInt → (sf2 j).2.2.2.2.1.toInt = (sf j).2.2.2.2.1.toInt → (sf2 j).2.2.2.2.2.1 = (lf q).2.2.2 → (sf2 j).2.2.2.2.2.2.1.toInt = (sf j).2.2.2.2.2.2.1.toInt → ((sf2 j).2.2.2.2.2.2.2.1.toInt = 1 ↔ m.2.2.2.2.2.2.2.2 = true) → CZX m c0 la lf ra rf sf2 bnd2 trl2 cof T2 (sIM (sf j)) j (n.1 + 1, n.2)) := by
  obtain ⟨f, fs, kd, bi, bl, lt, lk, cd, fx, i0, c, K, h1, h2, h3, h4, h5, h6, h7, h8, h9, h10, h11, h12, h13, h14, h15⟩ := bkt_top hc h hro er ij
  have ef : fx = false := by
    cases fx with
    | false => rfl
    | true => exact absurd (h8.mpr rfl) nf
  subst ef
  have g1 : (rf ro).1.toInt.toNat = f.1 := by have := h3.1; omega
  have g2 : (rf ro).2.2.1.toInt.toNat = f.2.2.1 := by have := h3.2.2.1; omega
  cases lk with
  | nil => exact absurd (hk.symm.trans (show (sf j).2.2.2.2.2.1 = none from h6)) (by simp)
  | cons x xs =>
    obtain ⟨q', q1, q2, q3, q4, q5, q6⟩ := h6
    have eq := il q q' hq q1 (Option.some.inj (hk.symm.trans q2))
    subst eq
    obtain ⟨l1, l2⟩ := h14 x List.mem_cons_self
    have g3 : (lf q).1.toInt.toNat = x.1 := by omega
    have g4 : (lf q).2.1.toInt.toNat = x.2 := by omega
    have ep : lqp m c f.1 f.2.2.1 = LPY m cof f.1 f.2.2.1 := lqp_cof h10 (by omega)
    have ex : lqp m c x.1 x.2 = LPY m cof x.1 x.2 := lqp_cof h10 (by omega)
    have yes : OPQ m (c f.1) f.2.2.1 (lqp m c f.1 f.2.2.1) (c x.1) x.2 (lqp m c x.1 x.2) ∧ SML m (BDV bnd) (lqp m c x.1 x.2) := by
      rw [ep, ex, ← cof_nat h10 (show ((f.1 : Nat) : Int) < sIM (sf j) by omega), ← cof_nat h10 (show ((x.1 : Nat) : Int) < sIM (sf j) by omega)]
      rw [g1, g2, g3, g4] at hn
      exact hn
    have lt1 : m.2.2.2.2.2.2.2.1 = true → lt = true := fun w => h5.mp (nl w)
    refine ⟨fun ht => run_st h1 (mst_redov lt1 yes ht), fun ht b1 o => ?_, fun ht sf2 bnd2 trl2 T2 o t1 t2 s0 s1 a1 a2 a3 a4 a5 a6 a7 => ?_⟩
    · rw [g1, g2, g3, g4, ← ep, ← ex] at o
      refine ⟨_, K, run_st h1 (mst_red0 lt1 yes ht o), h2, ?_, rfl⟩
      have kk : kd = 0 ∨ ((sf j).2.1.toInt = kd ∧ (sf j).2.2.1.toInt = bi ∧ (sf j).2.2.2.1.toInt = bl) := by
        obtain ⟨_, _, _, _, ⟨_, c2, _⟩, _⟩ := h15
        subst h2
        exact c2
      have m1 : sTM (sf' j) = sTM (sf j) ∧ sIM (sf' j) = sIM (sf j) ∧ sRM (sf' j) = sRM (sf j) ∧ sLM (sf' j) = sLM (sf j) := by rw [hs]; exact ⟨rfl, rfl, rfl, rfl⟩
      rw [m1.1, m1.2.1, m1.2.2.1, m1.2.2.2]
      refine stv_top h15 h2 ho (by rw [hs]) m1 rfl rfl ?_ (by rw [hs]; exact h5) (by rw [hs]; exact lkr_mono _ _ _ _ q6 (by omega) (fun _ _ => ⟨rfl, rfl⟩)) (by rw [hs]; exact h7) (by rw [hs]; exact h8)
      rw [hs]; exact kk
    · rw [g1, g2, g3, g4, ← ep, ← ex] at o
      obtain ⟨u1, u2, u3, u4, u5⟩ := s1
      refine ⟨f, fs, _, _, K, _, run_st h1 (mst_red1 lt1 yes ht o), rfl, h2, ?_, ⟨rfl, h9.symm, fun i hi => h10 i (by have hi : i < i0 := hi; omega)⟩, (show (2 : Int) ≠ 0 by decide), Or.inl ⟨(show (2 : Int) ≠ 3 by decide), rfl⟩⟩
      rw [u4, u5]
      have top := stv_top (t' := (f :: fs, 2, (x.1 : Int), (x.2 : Int), lt, xs, cd, m.2.2.2.2.2.2.2.2, BDV bnd, i0, c)) h15 h2 s0 u1 ⟨u2, u3, u4, u5⟩ rfl rfl (Or.inr ⟨a1, a2.trans q3, a3.trans q4⟩) (by rw [a4]; exact h5) (by rw [a5]; exact lkr_mono _ _ _ _ q6 (by omega) (fun _ _ => ⟨rfl, rfl⟩)) (a6.trans h7) a7
      exact stv_ext _ _ _ _ _ _ _ _ _ top t1 (Int.le_refl _) (Int.le_refl _) (Int.le_refl _) (fun _ _ => ⟨rfl, rfl⟩) (fun _ _ => ⟨rfl, rfl⟩) (fun _ _ => rfl) t2 (fun _ _ => rfl)
/-- no way is left of it -/
theorem bkt_out (hc : CIV m c0) (h : BKT m c0 la lf ra rf sf bnd trl cof j n) (hro : (ro : Int) < sRM (sf j)) (er : (sf j).1 = some (ra ro)) (ij : ∀ i k : Nat, (i : Int) < sRM (sf j) → (k : Int) < sRM (sf j) → ra i = ra k → i = k) (nf : ¬ (sf j).2.2.2.2.2.2.2.1.toInt = 1) (nl : m.2.2.2.2.2.2.2.1 = true → (sf j).2.2.2.2.1.toInt = 1) (hk : (sf j).2.2.2.2.2.1 = none)
    (hn : (∀ xs : List LKT, LKR la lf (sLM (sf j)) (rf ro).2.2.2.1 xs → m.2.2.2.2.2.1 ≤ (xs.length : Int)) ∨ (6 * m.2.2.2.2.1 : Nat) ≤ (sf j).2.2.2.2.2.2.1.toInt) (eS : S = (j : Int)) : BKX m c0 la lf ra rf sf bnd trl cof (sTM (sf j)) (sIM (sf j)) (sRM (sf j)) (sLM (sf j)) S n := by
  obtain ⟨f, fs, kd, bi, bl, lt, lk, cd, fx, i0, c, K, h1, h2, h3, h4, h5, h6, h7, h8, h9, h10, h11, h12, h13, h14, h15⟩ := bkt_top hc h hro er ij
  have ef : fx = false := by
    cases fx with
    | false => rfl
    | true => exact absurd (h8.mpr rfl) nf
  subst ef
  cases lk with
  | cons x xs =>
    obtain ⟨q', _, q2, _⟩ := h6
    exact absurd (hk.symm.trans q2) (by simp)
  | nil =>
    have no : ¬ ((f.2.2.2.1.length : Int) < m.2.2.2.2.2.1 ∧ cd < 6 * m.2.2.2.2.1) := fun ⟨w1, w2⟩ => by
      rcases hn with hn | hn
      · have := hn f.2.2.2.1 h3.2.2.2.1
        omega
      · omega
    subst h2
    obtain ⟨_, _, _, _, _, k6⟩ := h15
    exact ⟨K, run_st h1 (mst_out (fun w => h5.mp (nl w)) no), eS.symm, k6⟩
end CWY
