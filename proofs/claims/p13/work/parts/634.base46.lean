/-! extensions of the class's latest step; the rows behind a way -/
section CEX
variable {m : PRM} {c0 : CFT} {la la' ra ra' : Nat → Nat} {lf lf' : Nat → LT} {rf rf' : Nat → RT} {sf sf' : Nat → ST} {bnd bnd' trl trl' cof cof' : Nat → Int32} {T I R L S : Int} {n n' : CTT} {j ro : Nat}
/-- the place of a literal of a clause in a new instance -/
def EPX (m : PRM) (i cd : Nat) : Nat := m.2.1 i (cd / 6) (cd % 6)
def EOX (m : PRM) (cof : Nat → Int32) (i k n0 cd : Nat) : Prop := cd % 6 < m.2.2.1 (cd / 6) ∧ OPQ m (cof i).toInt.toNat k (LPY m cof i k) (cd / 6) (cd % 6) (EPX m n0 cd)
theorem ext_open (hc : CIV m c0) (h : BKT m c0 la lf ra rf sf bnd trl cof j n) (hro : (ro : Int) < sRM (sf j)) (er : (sf j).1 = some (ra ro)) (ij : ∀ i k : Nat, (i : Int) < sRM (sf j) → (k : Int) < sRM (sf j) → ra i = ra k → i = k) (nf : ¬ (sf j).2.2.2.2.2.2.2.1.toInt = 1) (nl : m.2.2.2.2.2.2.2.1 = true → (sf j).2.2.2.2.1.toInt = 1) (hk : (sf j).2.2.2.2.2.1 = none) (hp : ∀ xs : List LKT, LKR la lf (sLM (sf j)) (rf ro).2.2.2.1 xs → (xs.length : Int) < m.2.2.2.2.2.1) (hd : (sf j).2.2.2.2.2.2.1.toInt < (6 * m.2.2.2.2.1 : Nat)) : ∃ (f : FRT) (fs : List FRT) (kd bi bl : Int) (lt : Bool) (cd i0 : Nat) (c : Nat → Nat) (K : List CHT), RUN m c0 (BKc ((f :: fs, kd, bi, bl, lt, [], cd, false, BDV bnd, i0, c) :: K) n) ∧ K.length = j ∧ (rf ro).1.toInt.toNat = f.1 ∧ (rf ro).2.2.1.toInt.toNat = f.2.2.1 ∧ (m.2.2.2.2.2.2.2.1 = true → lt = true) ∧ ((sf j).2.2.2.2.1.toInt = 1 ↔ lt = true) ∧ (sf j).2.2.2.2.2.2.1.toInt = (cd : Int) ∧ sIM (sf j) = (i0 : Int) ∧ AGI_ cof (sIM (sf j)) c ∧ f.1 < i0 ∧ ((f.2.2.2.1.length : Int) < m.2.2.2.2.2.1 ∧ cd < 6 * m.2.2.2.2.1) ∧ lqp m c f.1 f.2.2.1 = LPY m cof f.1 f.2.2.1 ∧ (cof f.1).toInt.toNat = c f.1 ∧ LKR la lf (sLM (sf j)) (rf ro).2.2.2.1 f.2.2.2.1 ∧ STV la lf ra rf sf bnd trl cof (sTM (sf j)) (sIM (sf j)) (sRM (sf j)) (sLM (sf j)) ((f :: fs, kd, bi, bl, lt, [], cd, false, BDV bnd, i0, c) :: K) ∧ (kd = 0 ∨ ((sf j).2.1.toInt = kd ∧ (sf j).2.2.1.toInt = bi ∧ (sf j).2.2.2.1.toInt = bl)) ∧ i0 ≤ 30 := by
  obtain ⟨f, fs, kd, bi, bl, lt, lk, cd, fx, i0, c, K, h1, h2, h3, h4, h5, h6, h7, h8, h9, h10, h11, h12, h13, h14, h15⟩ := bkt_top hc h hro er ij
  have ef : fx = false := by
    cases fx with
    | false => rfl
    | true => exact absurd (h8.mpr rfl) nf
  subst ef
  cases lk with
  | cons x xs =>
    obtain ⟨q', _, q2, _⟩ := h6
    exact absurd (hk.symm.trans q2) (by simp)
  | nil =>
    have kk : kd = 0 ∨ ((sf j).2.1.toInt = kd ∧ (sf j).2.2.1.toInt = bi ∧ (sf j).2.2.2.1.toInt = bl) := by
      obtain ⟨_, _, _, _, ⟨_, c2, _⟩, _⟩ := h15
      subst h2
      exact c2
    have iv := civ_run hc h1
    exact ⟨f, fs, kd, bi, bl, lt, cd, i0, c, K, h1, h2, by have := h3.1; omega, by have := h3.2.2.1; omega, fun w => h5.mp (nl w), h5, h7, h9, h10, h13, ⟨hp _ h3.2.2.2.1, by omega⟩, lqp_cof h10 (by omega), cof_nat h10 (by omega), h3.2.2.2.1, h15, kk, iv.2.2.2.2.2.2.2.2.1⟩
/-- a literal that isn't opposite, or isn't there -/
theorem bkt_extno (hc : CIV m c0) (h : BKT m c0 la lf ra rf sf bnd trl cof j n) (hro : (ro : Int) < sRM (sf j)) (er : (sf j).1 = some (ra ro)) (ij : ∀ i k : Nat, (i : Int) < sRM (sf j) → (k : Int) < sRM (sf j) → ra i = ra k → i = k) (nf : ¬ (sf j).2.2.2.2.2.2.2.1.toInt = 1) (nl : m.2.2.2.2.2.2.2.1 = true → (sf j).2.2.2.2.1.toInt = 1) (hk : (sf j).2.2.2.2.2.1 = none) (hp : ∀ xs : List LKT, LKR la lf (sLM (sf j)) (rf ro).2.2.2.1 xs → (xs.length : Int) < m.2.2.2.2.2.1) (hd : (sf j).2.2.2.2.2.2.1.toInt < (6 * m.2.2.2.2.1 : Nat)) (ho : ∀ i : Nat, i ≠ j → sf' i = sf i) {d1 : Int32} (e1 : d1.toInt = (sf j).2.2.2.2.2.2.1.toInt + 1) (hs : sf' j = ((sf j).1, (sf j).2.1, (sf j).2.2.1, (sf j).2.2.2.1, (sf j).2.2.2.2.1, (sf j).2.2.2.2.2.1, d1, (sf j).2.2.2.2.2.2.2)) (hn : ¬ EOX m cof (rf ro).1.toInt.toNat (rf ro).2.2.1.toInt.toNat (sIM (sf j)).toNat (sf j).2.2.2.2.2.2.1.toInt.toNat) : BKT m c0 la lf ra rf sf' bnd trl cof j n := by
  obtain ⟨f, fs, kd, bi, bl, lt, cd, i0, c, K, g1, g2, g3, g4, g5, g6, g7, g8, g9, g10, g11, g12, g13, g14, g15, g16, g17⟩ := ext_open hc h hro er ij nf nl hk hp hd
  have no : ¬ (cd % 6 < m.2.2.1 (cd / 6) ∧ OPQ m (c f.1) f.2.2.1 (lqp m c f.1 f.2.2.1) (cd / 6) (cd % 6) (m.2.1 i0 (cd / 6) (cd % 6))) := by
    rw [g3, g4, show (sIM (sf j)).toNat = i0 by omega, show (sf j).2.2.2.2.2.2.1.toInt.toNat = cd by omega] at hn
    rw [g12, ← g13]; exact hn
  refine ⟨_, K, run_st g1 (mst_extno g5 g11 no), g2, ?_, rfl⟩
  have m1 : sTM (sf' j) = sTM (sf j) ∧ sIM (sf' j) = sIM (sf j) ∧ sRM (sf' j) = sRM (sf j) ∧ sLM (sf' j) = sLM (sf j) := by rw [hs]; exact ⟨rfl, rfl, rfl, rfl⟩
  rw [m1.1, m1.2.1, m1.2.2.1, m1.2.2.2]
  refine stv_top g15 g2 ho (by rw [hs]) m1 rfl rfl ?_ (by rw [hs]; exact g6) (by rw [hs]; exact hk) (by rw [hs]; show d1.toInt = ((cd + 1 : Nat) : Int); omega) ?_
  · rw [hs]; exact g16
  · rw [hs]
    exact ⟨fun w => absurd w nf, fun w => (by cases w)⟩
/-- a try of it -/
theorem bkt_ext (hc : CIV m c0) (h : BKT m c0 la lf ra rf sf bnd trl cof j n) (hro : (ro : Int) < sRM (sf j)) (er : (sf j).1 = some (ra ro)) (ij : ∀ i k : Nat, (i : Int) < sRM (sf j) → (k : Int) < sRM (sf j) → ra i = ra k → i = k) (nf : ¬ (sf j).2.2.2.2.2.2.2.1.toInt = 1) (nl : m.2.2.2.2.2.2.2.1 = true → (sf j).2.2.2.2.1.toInt = 1) (hk : (sf j).2.2.2.2.2.1 = none) (hp : ∀ xs : List LKT, LKR la lf (sLM (sf j)) (rf ro).2.2.2.1 xs → (xs.length : Int) < m.2.2.2.2.2.1) (hd : (sf j).2.2.2.2.2.2.1.toInt < (6 * m.2.2.2.2.1 : Nat)) (ho : ∀ i : Nat, i ≠ j → sf' i = sf i) {d1 : Int32} (e1 : d1.toInt = (sf j).2.2.2.2.2.2.1.toInt + 1) (hs : sf' j = ((sf j).1, (sf j).2.1, (sf j).2.2.1, (sf j).2.2.2.1, (sf j).2.2.2.2.1, (sf j).2.2.2.2.2.1, d1, (sf j).2.2.2.2.2.2.2)) (hn : EOX m cof (rf ro).1.toInt.toNat (rf ro).2.2.1.toInt.toNat (sIM (sf j)).toNat (sf j).2.2.2.2.2.2.1.toInt.toNat) :
    (n.1 = 1000 → RUN m c0 (DNc (-2) [] zB n)) ∧
    (¬ n.1 = 1000 → (30 ≤ sIM (sf j) ∨ ∃ b1 : Nat → Int, OUT m.1 (BDV bnd) [(LPY m cof (rf ro).1.toInt.toNat (rf ro).2.2.1.toInt.toNat, EPX m (sIM (sf j)).toNat (sf j).2.2.2.2.2.2.1.toInt.toNat)] false b1) → BKT m c0 la lf ra rf sf' bnd trl cof j (n.1 + 1, n.2)) ∧
    (¬ n.1 = 1000 → sIM (sf j) < 30 → ∀ (sf2 : Nat → ST) (bnd2 trl2 cof2 : Nat → Int32) (T2 I2 : Int) (n2 : CTT), OUT m.1 (BDV bnd) [(LPY m cof (rf ro).1.toInt.toNat (rf ro).2.2.1.toInt.toNat, EPX m (sIM (sf j)).toNat (sf j).2.2.2.2.2.2.1.toInt.toNat)] true (BDV bnd2) → sTM (sf j) ≤ T2 → (∀ i : Nat, (i : Int) < sTM (sf j) → trl2 i = trl i ∧ bnd2 (trl i).toInt.toNat = bnd (trl i).toInt.toNat) → (∀ i : Nat, (i : Int) < sIM (sf j) → cof2 i = cof i) → (cof2 (sIM (sf j)).toNat).toInt = (((sf j).2.2.2.2.2.2.1.toInt.toNat / 6 : Nat) : Int) → I2 = sIM (sf j) + 1 → (∀ i : Nat, i ≠ j → sf2 i = sf i) → SXQ (sf j) (sf2 j) → (sf2 j).2.1.toInt = 3 → (sf2 j).2.2.1.toInt = sIM (sf j) → (sf2 j).2.2.2.1.toInt = (((sf j).2.2.2.2.2.2.1.toInt.toNat % 6 : Nat) : Int) → (sf2 j).2.2.2.2.1.toInt = (sf j).2.2.2.2.1.toInt → (sf2 j).2.2.2.2.2.1 = (sf j).2.2.2.2.2.1 → (sf2 j).2.2.2.2.2.2.1.toInt = (sf j).2.2.2.2.2.2.1.toInt + 1 → ¬ (sf2 j).2.2.2.2.2.2.2.1.toInt = 1 → (∀ xs : List LKT, LKR la lf (sLM (sf j)) (rf ro).2.2.2.1 xs → n2 = (n.1 + 1, max n.2.1 ((xs.length : Int) + 1), n.2.2.1, n.2.2.2 + 1)) → CZX m c0 la lf ra rf sf2 bnd2 trl2 cof2 T2 I2 j n2) := by
  obtain ⟨f, fs, kd, bi, bl, lt, cd, i0, c, K, g1, g2, g3, g4, g5, g6, g7, g8, g9, g10, g11, g12, g13, g14, g15, g16, g17⟩ := ext_open hc h hro er ij nf nl hk hp hd
  have ei : (sIM (sf j)).toNat = i0 := by omega
  have ed : (sf j).2.2.2.2.2.2.1.toInt.toNat = cd := by omega
  have yes : cd % 6 < m.2.2.1 (cd / 6) ∧ OPQ m (c f.1) f.2.2.1 (lqp m c f.1 f.2.2.1) (cd / 6) (cd % 6) (m.2.1 i0 (cd / 6) (cd % 6)) := by
    rw [g3, g4, ei, ed] at hn
    rw [g12, ← g13]; exact hn
  have back : ∀ n' : CTT, RUN m c0 (BKc ((f :: fs, kd, bi, bl, lt, [], cd + 1, false, BDV bnd, i0, c) :: K) n') → BKT m c0 la lf ra rf sf' bnd trl cof j n' := fun n' r => by
    refine ⟨_, K, r, g2, ?_, rfl⟩
    have m1 : sTM (sf' j) = sTM (sf j) ∧ sIM (sf' j) = sIM (sf j) ∧ sRM (sf' j) = sRM (sf j) ∧ sLM (sf' j) = sLM (sf j) := by rw [hs]; exact ⟨rfl, rfl, rfl, rfl⟩
    rw [m1.1, m1.2.1, m1.2.2.1, m1.2.2.2]
    refine stv_top g15 g2 ho (by rw [hs]) m1 rfl rfl ?_ (by rw [hs]; exact g6) (by rw [hs]; exact hk) (by rw [hs]; show d1.toInt = ((cd + 1 : Nat) : Int); omega) ?_
    · rw [hs]; exact g16
    · rw [hs]
      exact ⟨fun w => absurd w nf, fun w => (by cases w)⟩
  refine ⟨fun ht => run_st g1 (mst_extov g5 g11 yes ht), fun ht w => ?_, fun ht hi sf2 bnd2 trl2 cof2 T2 I2 n2 o t1 t2 k1 k2 k3 s0 s1 a1 a2 a3 a4 a5 a6 a7 a8 => ?_⟩
  · by_cases hi : i0 < 30
    · rcases w with w | ⟨b1, o⟩
      · omega
      · rw [g3, g4, ei, ed, ← g12] at o
        exact back _ (run_st g1 (mst_ext0 g5 g11 yes ht hi o))
    · exact back _ (run_st g1 (mst_extfull g5 g11 yes ht hi))
  · rw [g3, g4, ei, ed, ← g12] at o
    rw [ei, ed] at k2
    rw [ed] at a3
    obtain ⟨u1, u2, u3, u4, u5⟩ := s1
    have en := a8 f.2.2.2.1 g14
    have b3 : (((i0 : Nat) : Int)).toNat = i0 := Int.toNat_natCast i0
    have b4 : ((((cd % 6 : Nat) : Nat) : Int)).toNat = cd % 6 := Int.toNat_natCast _
    refine ⟨f, fs, _, _, K, _, by rw [en]; exact run_st g1 (mst_ext1 g5 g11 yes ht (by omega) o), rfl, g2, ?_, ⟨rfl, by show ((i0 + 1 : Nat) : Int) = I2; omega, fun i hi => ?_⟩, (show (3 : Int) ≠ 0 by decide), Or.inr ⟨rfl, (show (0 : Int) ≤ (i0 : Int) by omega), (show (0 : Int) ≤ ((cd % 6 : Nat) : Int) by omega), ?_⟩⟩
    · rw [u4, u5]
      have top := stv_top (t' := (f :: fs, 3, (i0 : Int), ((cd % 6 : Nat) : Int), lt, [], cd + 1, false, BDV bnd, i0, c)) g15 g2 s0 u1 ⟨u2, u3, u4, u5⟩ rfl rfl (Or.inr ⟨a1, a2.trans g8, a3⟩) (by rw [a4]; exact g6) (by rw [a5]; exact hk) (by show (sf2 j).2.2.2.2.2.2.1.toInt = ((cd + 1 : Nat) : Int); omega) ⟨fun w => absurd w a7, fun w => (by cases w)⟩
      exact stv_ext _ _ _ _ _ _ _ _ _ top t1 (by omega) (Int.le_refl _) (Int.le_refl _) (fun _ _ => ⟨rfl, rfl⟩) (fun _ _ => ⟨rfl, rfl⟩) (fun _ _ => rfl) t2 k1
    · have hi : i < i0 + 1 := hi
      show (cof2 i).toInt = ((upc c i0 (cd / 6) i : Nat) : Int)
      unfold upc
      by_cases w : i = i0
      · rw [if_pos w, w]; exact k2
      · rw [if_neg w, k1 i (by omega)]; exact g9 i (by omega)
    · show exq f i0 (cd % 6) (K.length : Int) :: rsq m f :: fs = exq f ((i0 : Nat) : Int).toNat (((cd % 6 : Nat) : Nat) : Int).toNat (j : Int) :: rsq m f :: fs
      rw [b3, b4, g2]
/-- a row's rest -/
theorem rsw_of {L0 L2 : Int} {t t' : RT} (hL : L0 ≤ L2) (a1 : ∀ i : Nat, (i : Int) < L0 → la' i = la i ∧ lf' i = lf i) (e1 : t'.1 = t.1) (e2 : t'.2.1 = t.2.1) (e3 : t'.2.2.1.toInt = if t.2.1.toInt = t.2.2.1.toInt + 1 then t.2.2.1.toInt + 2 else t.2.2.1.toInt + 1) (e4 : t'.2.2.2.1 = t.2.2.2.1) (e7 : t'.2.2.2.2.2.2 = t.2.2.2.2.2.2)
    (e5 : (¬ m.2.2.2.2.2.2.2.1 = true ∧ t'.2.2.2.2.1 = t.2.2.2.2.1) ∨ (m.2.2.2.2.2.2.2.1 = true ∧ ∃ q : Nat, L0 ≤ (q : Int) ∧ (q : Int) < L2 ∧ t'.2.2.2.2.1 = some (la' q) ∧ (lf' q).1 = t.1 ∧ (lf' q).2.1 = t.2.2.1 ∧ (lf' q).2.2.2 = t.2.2.2.2.1 ∧ ∀ xs : List LKT, LKR la lf L0 t.2.2.2.2.1 xs → (lf' q).2.2.1.toInt = (xs.length : Int) + 1)) : ∀ f : FRT, RWV la lf L0 t f → RWV la' lf' L2 t' (rsq m f) := fun f hf => by
  obtain ⟨h1, h2, h3, h4, h5, h6⟩ := hf
  refine ⟨by rw [e1]; exact h1, by rw [e2]; exact h2, ?_, by rw [e4]; exact lkr_mono _ _ _ _ h4 hL a1, ?_, by rw [e7]; exact h6⟩
  · show t'.2.2.1.toInt = ((nxq (f.2.2.1 + 1) f.2.1 : Nat) : Int)
    rw [e3]
    unfold nxq
    by_cases w : t.2.1.toInt = t.2.2.1.toInt + 1
    · rw [if_pos w, if_pos (by omega)]; omega
    · rw [if_neg w, if_neg (by omega)]; omega
  · show LKR la' lf' L2 t'.2.2.2.2.1 (if m.2.2.2.2.2.2.2.1 = true then (f.1, f.2.2.1) :: f.2.2.2.2.1 else f.2.2.2.2.1)
    rcases e5 with ⟨w, e5⟩ | ⟨w, q, q1, q2, q3, q4, q5, q6, q7⟩
    · rw [if_neg w, e5]; exact lkr_mono _ _ _ _ h5 hL a1
    · rw [if_pos w]
      exact ⟨q, q2, q3, by rw [q4]; exact h1, by rw [q5]; exact h3, q7 _ h5, by rw [q6]; exact lkr_mono _ _ _ _ h5 q1 a1⟩
/-- the row of the others of a new instance -/
theorem exw_of {L0 L2 : Int} {t u : RT} {j q : Nat} {bi bl : Int} (hL : L0 ≤ L2) (a1 : ∀ i : Nat, (i : Int) < L0 → la' i = la i ∧ lf' i = lf i) (b0 : 0 ≤ bi ∧ 0 ≤ bl) (e1 : u.1.toInt = bi) (e2 : u.2.1.toInt = bl) (e3 : u.2.2.1.toInt = if bl = 0 then 1 else 0) (q1 : L0 ≤ (q : Int)) (q2 : (q : Int) < L2) (e4 : u.2.2.2.1 = some (la' q)) (l1 : (lf' q).1 = t.1) (l2 : (lf' q).2.1 = t.2.2.1) (l3 : (lf' q).2.2.2 = t.2.2.2.1) (l4 : ∀ xs : List LKT, LKR la lf L0 t.2.2.2.1 xs → (lf' q).2.2.1.toInt = (xs.length : Int) + 1) (e5 : u.2.2.2.2.1 = t.2.2.2.2.1) (e7 : u.2.2.2.2.2.2.toInt = (j : Int)) : ∀ f : FRT, RWV la lf L0 t f → RWV la' lf' L2 u (exq f bi.toNat bl.toNat (j : Int)) := fun f hf => by
  obtain ⟨h1, h2, h3, h4, h5, h6⟩ := hf
  refine ⟨by show u.1.toInt = ((bi.toNat : Nat) : Int); omega, by show u.2.1.toInt = ((bl.toNat : Nat) : Int); omega, ?_, ⟨q, q2, e4, by rw [l1]; exact h1, by rw [l2]; exact h3, l4 _ h4, by rw [l3]; exact lkr_mono _ _ _ _ h4 q1 a1⟩, by rw [e5]; exact lkr_mono _ _ _ _ h5 hL a1, e7⟩
  show u.2.2.1.toInt = ((nxq 0 ((bl.toNat : Nat) : Int) : Nat) : Int)
  rw [e3]
  unfold nxq
  by_cases w : bl = 0
  · rw [if_pos w, if_pos (by omega)]; rfl
  · rw [if_neg w, if_neg (by omega)]; rfl
/-- behind a lemma or a reduction: the rest of the row -/
theorem czx_rest {R2 L2 : Int} {k : Nat} {S' : Int} (h : CZX m c0 la lf ra rf sf bnd trl cof T I j n) (hk3 : ¬ (sf j).2.1.toInt = 3) (hro : (ro : Int) < sRM (sf j)) (er : (sf j).1 = some (ra ro)) (ij : ∀ i k : Nat, (i : Int) < sRM (sf j) → (k : Int) < sRM (sf j) → ra i = ra k → i = k)
    (hR : sRM (sf j) ≤ (k : Int) ∧ (k : Int) < R2) (hL : sLM (sf j) ≤ L2) (a1 : ∀ i : Nat, (i : Int) < sLM (sf j) → la' i = la i ∧ lf' i = lf i) (a2 : ∀ i : Nat, (i : Int) < sRM (sf j) → ra' i = ra i ∧ rf' i = rf i)
    (hw : ∀ f : FRT, RWV la lf (sLM (sf j)) (rf ro) f → RWV la' lf' L2 (rf' k) (rsq m f)) (eb : (rf' k).2.2.2.2.2.1 = (rf ro).2.2.2.2.2.1) (eS : S' = (j : Int) + 1) : GOX m c0 la' lf' ra' rf' sf bnd trl cof T I R2 L2 S' (some (ra' k)) n := by
  obtain ⟨f, fs, gs, t, K, s, h1, h2, h3, h4, h5, h6, h7⟩ := h
  subst h3
  obtain ⟨r, kd, bi, bl, lt, lk, cd, fx, b0, n0, c⟩ := t
  have h2 : r = f :: fs := h2
  subst h2
  have sv := stv_ext _ _ _ _ _ T I R2 L2 h4 (Int.le_refl _) (Int.le_refl _) (by omega) hL a1 a2 (fun _ _ => rfl) (fun _ _ => ⟨rfl, rfl⟩) (fun _ _ => rfl)
  obtain ⟨k1, k2, k3, k4, ⟨⟨q, q1, q2, q3, q4⟩, c2, _⟩, _⟩ := h4
  have eq : ro = q := ij ro q hro q1 (Option.some.inj (er.symm.trans q2))
  subst eq
  have h6 : kd ≠ 0 := h6
  have nk : kd ≠ 3 := fun e => by
    rcases c2 with c2 | ⟨c2, _⟩
    · exact h6 c2
    · exact hk3 (c2.trans e)
  rcases h7 with ⟨_, e⟩ | ⟨e, _⟩
  · subst e
    exact ⟨_, _, s, h1, ⟨k, hR.2, rfl, hw f q3, by rw [eb]; exact rwr_mono hL a1 _ _ _ _ q4 (by omega) (fun i hi => a2 i (by omega))⟩, by rw [List.length_cons]; omega, sv, h5⟩
  · exact absurd e nk
/-- behind an extension: the others of the new instance, and the rest -/
theorem czx_ext {R2 L2 : Int} {k k2 : Nat} {S' : Int} (h : CZX m c0 la lf ra rf sf bnd trl cof T I j n) (hk3 : (sf j).2.1.toInt = 3) (hro : (ro : Int) < sRM (sf j)) (er : (sf j).1 = some (ra ro)) (ij : ∀ i k : Nat, (i : Int) < sRM (sf j) → (k : Int) < sRM (sf j) → ra i = ra k → i = k)
    (hR : sRM (sf j) ≤ (k : Int) ∧ k < k2 ∧ (k2 : Int) < R2) (hL : sLM (sf j) ≤ L2) (a1 : ∀ i : Nat, (i : Int) < sLM (sf j) → la' i = la i ∧ lf' i = lf i) (a2 : ∀ i : Nat, (i : Int) < sRM (sf j) → ra' i = ra i ∧ rf' i = rf i)
    (hw : ∀ f : FRT, RWV la lf (sLM (sf j)) (rf ro) f → RWV la' lf' L2 (rf' k) (rsq m f)) (eb : (rf' k).2.2.2.2.2.1 = (rf ro).2.2.2.2.2.1)
    (hx : ∀ f : FRT, RWV la lf (sLM (sf j)) (rf ro) f → RWV la' lf' L2 (rf' k2) (exq f (sf j).2.2.1.toInt.toNat (sf j).2.2.2.1.toInt.toNat (j : Int))) (eb2 : (rf' k2).2.2.2.2.2.1 = some (ra' k)) (eS : S' = (j : Int) + 1) : GOX m c0 la' lf' ra' rf' sf bnd trl cof T I R2 L2 S' (some (ra' k2)) n := by
  obtain ⟨f, fs, gs, t, K, s, h1, h2, h3, h4, h5, h6, h7⟩ := h
  subst h3
  obtain ⟨r, kd, bi, bl, lt, lk, cd, fx, b0, n0, c⟩ := t
  have h2 : r = f :: fs := h2
  subst h2
  have sv := stv_ext _ _ _ _ _ T I R2 L2 h4 (Int.le_refl _) (Int.le_refl _) (by omega) hL a1 a2 (fun _ _ => rfl) (fun _ _ => ⟨rfl, rfl⟩) (fun _ _ => rfl)
  obtain ⟨k1, k2', k3, k4, ⟨⟨q, q1, q2, q3, q4⟩, c2, _⟩, _⟩ := h4
  have eq : ro = q := ij ro q hro q1 (Option.some.inj (er.symm.trans q2))
  subst eq
  have h6 : kd ≠ 0 := h6
  rcases c2 with c2 | ⟨c2, c3, c4⟩
  · exact absurd c2 h6
  · have c2 : (sf K.length).2.1.toInt = kd := c2
    have c3 : (sf K.length).2.2.1.toInt = bi := c3
    have c4 : (sf K.length).2.2.2.1.toInt = bl := c4
    rcases h7 with ⟨e, _⟩ | ⟨_, _, _, e⟩
    · have e : kd ≠ 3 := e
      omega
    · subst e
      have hx2 := hx f q3
      rw [c3, c4] at hx2
      exact ⟨_, _, s, h1, ⟨k2, hR.2.2, rfl, hx2, by rw [eb2]; exact ⟨k, by omega, rfl, hw f q3, by rw [eb]; exact rwr_mono hL a1 _ _ _ _ q4 (by omega) (fun i hi => a2 i (by omega))⟩⟩, by rw [List.length_cons]; omega, sv, h5⟩
end CEX
