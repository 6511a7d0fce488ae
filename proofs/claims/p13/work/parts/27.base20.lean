/-! what was read, as trees: parts of the class and nodes of the reference against the tape, and against each other -/
section D2
variable {G : Int → Int} {n q nv : Int} {vf : Int → Int} {d e : Nat}
theorem pPs_deep2 (hd : d = 0) (h : tkT G n q = 40) : pPs G n d q nv vf = (2, q, nv, vf) := by subst hd; exact pPs_deep h
theorem pPs_open2 (hd : d = e + 1) (h : tkT G n q = 40) : pPs G n d q nv vf = pLo G n (pPs G n e) 3 q nv vf := by subst hd; exact pPs_open h
end D2
def NMV (B : Int) (D : Int → Int) : Nat → Int
  | 0 => 0
  | k + 1 => B * NMV B D k + D (k : Int)
theorem nmv_s (B : Int) (D : Int → Int) (k : Nat) : NMV B D (k + 1) = B * NMV B D k + D (k : Int) := rfl
def DGS (D : Int → Int) (k : Nat) : Prop := ∀ i : Nat, i < k → 1 ≤ D (i : Int) ∧ D (i : Int) ≤ 26
theorem dgs_le {D : Int → Int} {k j : Nat} (h : DGS D k) (e : j ≤ k) : DGS D j := fun i hi => h i (by omega)
theorem nmv_ge {B : Int} (hB : B = 27 ∨ B = 32) {D : Int → Int} : ∀ k : Nat, DGS D k → 0 ≤ NMV B D k := by
  intro k
  induction k with
  | zero => intro _; exact Int.le_refl _
  | succ k ih =>
    intro h
    have a := ih (dgs_le h (by omega))
    have b := h k (by omega)
    rw [nmv_s]
    rcases hB with hB | hB
    · subst hB; omega
    · subst hB; omega
theorem nmv_eq {B : Int} (hB : B = 27 ∨ B = 32) {D E : Int → Int} : ∀ k j : Nat, DGS D k → DGS E j → NMV B D k = NMV B E j → k = j ∧ ∀ i : Nat, i < k → D (i : Int) = E (i : Int) := by
  intro k
  induction k with
  | zero =>
    intro j h g e
    cases j with
    | zero => exact ⟨rfl, fun i hi => absurd hi (by omega)⟩
    | succ j =>
      have a := nmv_ge hB j (dgs_le g (by omega))
      have b := g j (by omega)
      rw [nmv_s] at e
      have z : NMV B D 0 = 0 := rfl
      rw [z] at e
      rcases hB with hB | hB
      · subst hB; omega
      · subst hB; omega
  | succ k ih =>
    intro j h g e
    have c := nmv_ge hB k (dgs_le h (by omega))
    have d := h k (by omega)
    cases j with
    | zero =>
      rw [nmv_s] at e
      have z : NMV B E 0 = 0 := rfl
      rw [z] at e
      rcases hB with hB | hB
      · subst hB; omega
      · subst hB; omega
    | succ j =>
      have a := nmv_ge hB j (dgs_le g (by omega))
      have b := g j (by omega)
      rw [nmv_s, nmv_s] at e
      have q : NMV B D k = NMV B E j ∧ D (k : Int) = E (j : Int) := by
        rcases hB with hB | hB
        · subst hB; omega
        · subst hB; omega
      obtain ⟨e1, e2⟩ := ih j (dgs_le h (by omega)) (dgs_le g (by omega)) q.1
      subst e1
      refine ⟨rfl, fun i hi => ?_⟩
      by_cases w : i = k
      · rw [w]; exact q.2
      · exact e2 i (by omega)
theorem nmv_cong {B : Int} {D E : Int → Int} : ∀ k : Nat, (∀ i : Nat, i < k → D (i : Int) = E (i : Int)) → NMV B D k = NMV B E k := by
  intro k
  induction k with
  | zero => intro _; rfl
  | succ k ih =>
    intro h
    rw [nmv_s, nmv_s, ih (fun i hi => h i (by omega)), h k (by omega)]
/-- the class's number of a name and the reference's -/
def NMQ (x y : Int) : Prop := ∃ (D : Int → Int) (k : Nat), DGS D k ∧ x = NMV 32 D k ∧ y = NMV 27 D k ∧ 1 ≤ k ∧ k ≤ 8
theorem nmq_two {x y x' y' : Int} (h : NMQ x y) (g : NMQ x' y') : x = x' ↔ y = y' := by
  obtain ⟨D, k, h1, h2, h3, -⟩ := h
  obtain ⟨E, j, g1, g2, g3, -⟩ := g
  constructor
  · intro e
    rw [h2, g2] at e
    obtain ⟨e1, e2⟩ := nmv_eq (Or.inr rfl) k j h1 g1 e
    subst e1
    rw [h3, g3]; exact nmv_cong k e2
  · intro e
    rw [h3, g3] at e
    obtain ⟨e1, e2⟩ := nmv_eq (Or.inl rfl) k j h1 g1 e
    subst e1
    rw [h2, g2]; exact nmv_cong k e2
/-- the number of the letters that stand at a place -/
def NMI (B : Int) (G : Int → Int) (n a : Int) : Int := NMV B (fun i => G (a + i) - 96) (tkE G n a - a).toNat
theorem gcf_all {G : Int → Int} {n : Int} (f : Nat) : ∀ a : Int, gcf G n f a = 0 → ∀ i : Int, a ≤ i → i < lef G n f a → 97 ≤ G i ∧ G i ≤ 122 := by
  induction f with
  | zero => intro a _ i h1 h2; have h3 : i < a := h2; omega
  | succ f ih =>
    intro a h i h1 h2
    rw [gcf_s] at h
    rw [lef_s] at h2
    have q := gcf_ge (G := G) (n := n) f (a + 1)
    by_cases c : a < n ∧ ((97 ≤ G a ∧ G a ≤ 122) ∨ (65 ≤ G a ∧ G a ≤ 90))
    · rw [if_pos c] at h h2
      by_cases d : 97 ≤ G a ∧ G a ≤ 122
      · rw [if_pos d] at h
        by_cases e : i = a
        · rw [e]; exact d
        · exact ih (a + 1) (by omega) i (by omega) h2
      · rw [if_neg d] at h; omega
    · rw [if_neg c] at h2; omega
theorem nmi_q {G : Int → Int} {n a : Int} (h : tkG G n a = 0) (h1 : 1 ≤ tkE G n a - a) (h8 : tkE G n a - a ≤ 8) : NMQ (NMI 32 G n a) (NMI 27 G n a) := by
  refine ⟨fun i => G (a + i) - 96, (tkE G n a - a).toNat, fun i hi => ?_, rfl, rfl, by omega, by omega⟩
  have q := gcf_all (G := G) (n := n) 600 a h (a + i) (by omega) (by show a + (i : Int) < tkE G n a; omega)
  show 1 ≤ G (a + (i : Int)) - 96 ∧ G (a + (i : Int)) - 96 ≤ 26
  omega
/-- how many letters a number has: the class's, the reference's -/
def nlQ : Nat → Int → Int
  | 0, _ => 0
  | m + 1, x => (if x % 32 = 0 then 0 else 1) + nlQ m (x / 32)
def nlR : Nat → Int → Int
  | 0, _ => 0
  | m + 1, v => 1 + (if 27 < v then nlR m ((v - 1) / 27) else 0)
theorem nlQ_s (m : Nat) (x : Int) : nlQ (m + 1) x = (if x % 32 = 0 then 0 else 1) + nlQ m (x / 32) := rfl
theorem nlR_s (m : Nat) (v : Int) : nlR (m + 1) v = 1 + (if 27 < v then nlR m ((v - 1) / 27) else 0) := rfl
theorem nlQ_zero : ∀ m : Nat, nlQ m 0 = 0 := by
  intro m
  induction m with
  | zero => rfl
  | succ m ih => rw [nlQ_s, if_pos (by decide), show (0 : Int) / 32 = 0 by decide, ih]; rfl
theorem nlQ_nmv {D : Int → Int} : ∀ m k : Nat, k ≤ m → DGS D k → nlQ m (NMV 32 D k) = (k : Int) := by
  intro m
  induction m with
  | zero => intro k hk _; have e : k = 0 := (by omega); subst e; rfl
  | succ m ih =>
    intro k hk h
    cases k with
    | zero => exact nlQ_zero (m + 1)
    | succ k =>
      have a := nmv_ge (Or.inr rfl) k (dgs_le h (by omega))
      have b := h k (by omega)
      rw [nlQ_s, nmv_s, if_neg (by omega), show (32 * NMV 32 D k + D (k : Int)) / 32 = NMV 32 D k by omega, ih k (by omega) (dgs_le h (by omega))]
      omega
theorem nlR_nmv {D : Int → Int} : ∀ m k : Nat, k + 1 ≤ m → DGS D (k + 1) → nlR m (NMV 27 D (k + 1)) = (k : Int) + 1 := by
  intro m
  induction m with
  | zero => intro k hk _; omega
  | succ m ih =>
    intro k hk h
    have a := nmv_ge (Or.inl rfl) k (dgs_le h (by omega))
    have b := h k (by omega)
    rw [nlR_s, nmv_s]
    cases k with
    | zero =>
      have z : NMV 27 D 0 = 0 := rfl
      rw [z] at a ⊢
      rw [if_neg (by omega)]; omega
    | succ k =>
      have c := nmv_ge (Or.inl rfl) k (dgs_le h (by omega))
      have d := h k (by omega)
      have e := nmv_s 27 D k
      rw [if_pos (by omega), show (27 * NMV 27 D (k + 1) + D ((k + 1 : Nat) : Int) - 1) / 27 = NMV 27 D (k + 1) by omega, ih k (by omega) (dgs_le h (by omega))]
      omega
/-- the lowest digits, and the next one -/
theorem nlQ_top : ∀ (m : Nat) (x : Int), nlQ (m + 1) x = nlQ m x + (if x / (32 : Int) ^ m % 32 = 0 then 0 else 1) := by
  intro m
  induction m with
  | zero => intro x; rw [nlQ_s]; show (if x % 32 = 0 then (0 : Int) else 1) + 0 = 0 + (if x / 1 % 32 = 0 then 0 else 1); rw [Int.ediv_one]; omega
  | succ m ih =>
    intro x
    rw [nlQ_s (m + 1), ih, nlQ_s m, Int.ediv_ediv_of_nonneg (by decide), show (32 : Int) * 32 ^ m = 32 ^ (m + 1) by rw [Int.pow_succ, Int.mul_comm]]
    omega
theorem nmq_len {x y : Int} (h : NMQ x y) : nlQ 8 x = nlR 14 y ∧ 1 ≤ nlQ 8 x ∧ nlQ 8 x ≤ 8 := by
  obtain ⟨D, k, h1, h2, h3, h4, h5⟩ := h
  subst h2
  subst h3
  obtain ⟨j, e⟩ : ∃ j : Nat, k = j + 1 := ⟨k - 1, by omega⟩
  subst e
  rw [nlQ_nmv 8 (j + 1) h5 h1, nlR_nmv 14 j (by omega) h1]
  omega
theorem tkT_small {G : Int → Int} {n a : Int} (hG : ∀ k : Int, 0 ≤ G k ∧ G k ≤ 255) (h : tkT G n a = 256) : tkG G n a = 0 := by
  have q := tkT_let hG (by omega : 256 ≤ tkT G n a)
  by_cases c : tkG G n a = 0
  · exact c
  · by_cases d : tkG G n a = 1 ∧ tkE G n a - a = 1
    · have e := tkT_var q.1 q.2 d.1 d.2; omega
    · have e := tkT_bad q.1 q.2 (fun w => c w.1) d; omega
theorem tkT_short {G : Int → Int} {n a : Int} (hG : ∀ k : Int, 0 ≤ G k ∧ G k ≤ 255) (h : tkT G n a = 256) : 1 ≤ tkE G n a - a ∧ tkE G n a - a ≤ 8 ∧ tkE G n a ≤ tkN G n a := by
  have q := tkT_let hG (by omega : 256 ≤ tkT G n a)
  have x : tkX G n a = tkE G n a := if_pos q.2
  have y : tkX G n a ≤ tkN G n a := tkS_ge (tkX G n a)
  have e1 : a + 1 ≤ tkE G n a := by
    have e2 : tkE G n a = lef G n 599 (a + 1) := (lef_s 599 a).trans (if_pos ⟨q.1, q.2⟩)
    rw [e2]; exact (lef_ge 599 (a + 1)).1
  have h8 : tkE G n a - a ≤ 8 := by
    by_cases c : tkG G n a = 0 ∧ tkE G n a - a ≤ 8
    · exact c.2
    · by_cases d : tkG G n a = 1 ∧ tkE G n a - a = 1
      · omega
      · have e := tkT_bad q.1 q.2 c d; omega
  omega
theorem nmi_len {G : Int → Int} {n a : Int} (hG : ∀ k : Int, 0 ≤ G k ∧ G k ≤ 255) (h : tkT G n a = 256) : nlQ 8 (NMI 32 G n a) = tkE G n a - a := by
  obtain ⟨h1, h8, -⟩ := tkT_short hG h
  have g := tkT_small hG h
  have k := nlQ_nmv (D := fun i => G (a + i) - 96) 8 (tkE G n a - a).toNat (by omega) (fun i hi => by
    have q := gcf_all (G := G) (n := n) 600 a g (a + i) (by omega) (by show a + (i : Int) < tkE G n a; omega)
    show 1 ≤ G (a + (i : Int)) - 96 ∧ G (a + (i : Int)) - 96 ≤ 26
    omega)
  have e : NMI 32 G n a = NMV 32 (fun i => G (a + i) - 96) (tkE G n a - a).toNat := rfl
  rw [e, k]; omega
/-! variables: what came stays -/
def XT (nv : Int) (vf : Int → Int) (nv' : Int) (vf' : Int → Int) : Prop := nv ≤ nv' ∧ ∀ k : Int, 0 ≤ k → k < nv → vf' k = vf k
theorem xt_rf {nv : Int} {vf : Int → Int} : XT nv vf nv vf := ⟨Int.le_refl _, fun _ _ _ => rfl⟩
theorem xt_tr {a b c : Int} {f g h : Int → Int} (x : XT a f b g) (y : XT b g c h) : XT a f c h := ⟨by have := x.1; have := y.1; omega, fun k h1 h2 => (y.2 k h1 (by have := x.1; omega)).trans (x.2 k h1 h2)⟩
def IJ (nv : Int) (vf : Int → Int) : Prop := ∀ i j : Int, 0 ≤ i → i < nv → 0 ≤ j → j < nv → vf i = vf j → i = j
theorem ij_zero {vf : Int → Int} : IJ 0 vf := fun i j h1 h2 _ _ _ => absurd h2 (by omega)
/-- what a reading does to the variables -/
def XI (nv : Int) (vf : Int → Int) (R : PR) : Prop := XT nv vf R.2.2.1 R.2.2.2 ∧ (0 ≤ nv → IJ nv vf → IJ R.2.2.1 R.2.2.2)
theorem xi_rf {nv : Int} {vf : Int → Int} {a b : Int} : XI nv vf (a, b, nv, vf) := ⟨xt_rf, fun _ h => h⟩
section XL
variable {G : Int → Int} {n : Int}
theorem pVar_xi (p nv : Int) (vf : Int → Int) : XI nv vf (pVar G n p nv vf) := by
  by_cases h : ∃ j : Int, 0 ≤ j ∧ j < nv ∧ vf j = G p
  · rw [pVar_old h]; exact xi_rf
  · by_cases e : nv = 8
    · rw [pVar_full h e]; exact xi_rf
    · rw [pVar_new h e]
      refine ⟨⟨?_, fun k h1 h2 => ?_⟩, fun h0 hi i j a1 a2 b1 b2 q => ?_⟩
      · show nv ≤ nv + 1; omega
      · show (if k = nv then G p else vf k) = vf k
        rw [if_neg (by omega)]
      · have a3 : i < nv + 1 := a2
        have b3 : j < nv + 1 := b2
        have q2 : (if i = nv then G p else vf i) = (if j = nv then G p else vf j) := q
        by_cases c : i = nv
        · by_cases d : j = nv
          · omega
          · rw [if_pos c, if_neg d] at q2; exact absurd ⟨j, b1, by omega, q2.symm⟩ h
        · by_cases d : j = nv
          · rw [if_neg c, if_pos d] at q2; exact absurd ⟨i, a1, by omega, q2⟩ h
          · rw [if_neg c, if_neg d] at q2; exact hi i j a1 (by omega) b1 (by omega) q2
theorem xi_bind {nv : Int} {vf : Int → Int} {x : PR} {f : Int → Int → (Int → Int) → PR} (h : XI nv vf x) (g : ∀ q nv1 vf1, XI nv1 vf1 (f q nv1 vf1)) : XI nv vf (pBind x f) := by
  by_cases c : x.1 = 0
  · rw [pBind_go c]
    have k := g x.2.1 x.2.2.1 x.2.2.2
    exact ⟨xt_tr h.1 k.1, fun h0 hi => k.2 (by have := h.1.1; omega) (h.2 h0 hi)⟩
  · rw [pBind_no c]; exact h
theorem pTm_xi {P : Int → Int → (Int → Int) → PR} (hP : ∀ q nv vf, XI nv vf (P q nv vf)) (p nv : Int) (vf : Int → Int) : XI nv vf (pTm G n P p nv vf) := by
  by_cases h1 : tkT G n p = 257
  · rw [pTm_var h1]; exact pVar_xi p nv vf
  · by_cases h2 : tkT G n p = 256
    · rw [pTm_name h2]; exact hP _ _ _
    · rw [pTm_bad h1 h2]; exact xi_rf
theorem pCl_xi (q nv : Int) (vf : Int → Int) : XI nv vf (pCl G n q nv vf) := by
  by_cases h : tkT G n q = 41
  · rw [pCl_yes h]; exact xi_rf
  · rw [pCl_no h]; exact xi_rf
theorem pLo_xi {P : Int → Int → (Int → Int) → PR} (hP : ∀ q nv vf, XI nv vf (P q nv vf)) : ∀ (r : Nat) (q nv : Int) (vf : Int → Int), XI nv vf (pLo G n P r q nv vf) := by
  intro r
  induction r with
  | zero => intro q nv vf; rw [pLo_z]; exact xi_rf
  | succ r ih =>
    intro q nv vf
    rw [pLo_s]
    refine xi_bind (pTm_xi hP _ _ _) (fun q1 nv1 vf1 => ?_)
    by_cases c : tkT G n q1 = 44
    · rw [if_pos c]; exact ih _ _ _
    · rw [if_neg c]; exact pCl_xi _ _ _
theorem pPs_xi : ∀ (d : Nat) (q nv : Int) (vf : Int → Int), XI nv vf (pPs G n d q nv vf) := by
  intro d
  induction d with
  | zero =>
    intro q nv vf
    rw [pPs_z]
    by_cases c : tkT G n q = 40
    · rw [if_pos c]; exact xi_rf
    · rw [if_neg c]; exact xi_rf
  | succ d ih =>
    intro q nv vf
    rw [pPs_s]
    by_cases c : tkT G n q = 40
    · rw [if_pos c]; exact pLo_xi ih _ _ _ _
    · rw [if_neg c]; exact xi_rf
theorem pLit_xi (k p nv : Int) (vf : Int → Int) : XI nv vf (pLit G n k p nv vf) := by
  unfold pLit
  split
  · split
    · exact xi_rf
    · split
      · split
        · exact pPs_xi _ _ _ _
        · exact xi_rf
      · exact pPs_xi _ _ _ _
  · exact xi_rf
theorem pLs_xi : ∀ (r : Nat) (p nv : Int) (vf : Int → Int), XI nv vf (pLs G n r p nv vf) := by
  intro r
  induction r with
  | zero => intro p nv vf; rw [pLs_z]; exact pLit_xi _ _ _ _
  | succ r ih =>
    intro p nv vf
    rw [pLs_s]
    refine xi_bind (pLit_xi _ _ _ _) (fun q1 nv1 vf1 => ?_)
    split
    · exact ih _ _ _
    · split
      · exact xi_rf
      · exact xi_rf
end XL
/-! trees -/
abbrev VWT : Type := (Nat → Int) × (Nat → Int) × (Nat → Int) × (Nat → Nat → Nat)
def CVW (nam : Nat → Int64) (var trm ter : Nat → Int32) : VWT := (fun x => (var x).toInt, fun x => (nam x).toInt, fun x => (trm x).toInt, fun x k => Int32.toNatClampNeg (ter (3 * x + k)))
def RVW (nv : Nat → Int32) (nm : Nat → Int64) (A B C : Nat → Int32) : VWT := (fun x => (nv x).toInt, fun x => (nm x).toInt, fun x => if (A x).toInt = -1 then 0 else if (B x).toInt = -1 then 1 else if (C x).toInt = -1 then 2 else 3, fun x k => Int32.toNatClampNeg (if k = 0 then A x else if k = 1 then B x else C x))
/-- the parts of the variables that are known -/
def kfn (k : Nat → Int32) : Nat → Nat := fun v => Int32.toNatClampNeg (k v)
abbrev k0 : Nat → Nat := fun _ => 0
def KX (nv : Int) (f g : Nat → Nat) : Prop := ∀ v : Nat, (v : Int) < nv → g v = f v
theorem kx_rf {nv : Int} {f : Nat → Nat} : KX nv f f := fun _ _ => rfl
theorem kx_tr {a b : Int} {f g h : Nat → Nat} (x : KX a f g) (y : KX b g h) (e : a ≤ b) : KX a f h := fun v hv => (y v (by omega)).trans (x v hv)
/-- so many terms were read, from the sign at q0 to what stands at q -/
def PRX (G : Int → Int) (n : Int) (S : Nat → Int → Int → Prop) (ch : Nat → Nat) : Nat → Int → Int → Prop
  | 0, q0, q => q = q0
  | k + 1, q0, q => ∃ q1 : Int, PRX G n S ch k q0 q1 ∧ (k = 0 ∨ tkT G n q1 = 44) ∧ S (ch k) (tkN G n q1) q
/-- the terms of x are what stands on the tape from s, behind its name, to q -/
def NMX (G : Int → Int) (n : Int) (V : VWT) (S : Nat → Int → Int → Prop) (x : Nat) (s q : Int) : Prop := ∃ (m : Nat) (q1 : Int), V.2.2.1 x = (m : Int) ∧ m ≤ 3 ∧ PRX G n S (V.2.2.2 x) m s q1 ∧ ((m = 0 ∧ ¬ tkT G n s = 40 ∧ q = q1) ∨ (1 ≤ m ∧ tkT G n s = 40 ∧ tkT G n q1 = 41 ∧ q = tkN G n q1))
/-- the tree at x is what stands on the tape from p to q -/
def SPX (G : Int → Int) (n B : Int) (V : VWT) (nv : Int) (vf : Int → Int) (kf : Nat → Nat) (lo P : Nat) : Nat → Nat → Int → Int → Prop
  | 0, _, _, _ => False
  | d + 1, x, p, q => x < P ∧ ((tkT G n p = 257 ∧ q = tkN G n p ∧ 0 ≤ V.1 x ∧ V.1 x < nv ∧ vf (V.1 x) = G p ∧ (B = 27 → lo ≤ x) ∧ (B = 32 → x = kf (V.1 x).toNat)) ∨ (tkT G n p = 256 ∧ lo ≤ x ∧ V.1 x = -1 ∧ V.2.1 x = NMI B G n p ∧ NMX G n V (SPX G n B V nv vf kf lo P d) x (tkN G n p) q))
section SL
variable {G : Int → Int} {n B : Int}
theorem pre_s {S : Nat → Int → Int → Prop} {ch : Nat → Nat} {k : Nat} {q0 q : Int} : PRX G n S ch (k + 1) q0 q = ∃ q1 : Int, PRX G n S ch k q0 q1 ∧ (k = 0 ∨ tkT G n q1 = 44) ∧ S (ch k) (tkN G n q1) q := rfl
theorem spx_s {V : VWT} {kf : Nat → Nat} {nv : Int} {vf : Int → Int} {lo P d x : Nat} {p q : Int} : SPX G n B V nv vf kf lo P (d + 1) x p q = (x < P ∧ ((tkT G n p = 257 ∧ q = tkN G n p ∧ 0 ≤ V.1 x ∧ V.1 x < nv ∧ vf (V.1 x) = G p ∧ (B = 27 → lo ≤ x) ∧ (B = 32 → x = kf (V.1 x).toNat)) ∨ (tkT G n p = 256 ∧ lo ≤ x ∧ V.1 x = -1 ∧ V.2.1 x = NMI B G n p ∧ NMX G n V (SPX G n B V nv vf kf lo P d) x (tkN G n p) q))) := rfl
theorem pre_mono {S S' : Nat → Int → Int → Prop} {ch ch' : Nat → Nat} (hS : ∀ y p q, S y p q → S' y p q) : ∀ (k : Nat) (q0 q : Int), (∀ j : Nat, j < k → ch' j = ch j) → PRX G n S ch k q0 q → PRX G n S' ch' k q0 q := by
  intro k
  induction k with
  | zero => intro q0 q _ h; exact h
  | succ k ih =>
    intro q0 q hc h
    obtain ⟨q1, h1, h2, h3⟩ := h
    exact ⟨q1, ih q0 q1 (fun j hj => hc j (by omega)) h1, h2, by rw [hc k (by omega)]; exact hS _ _ _ h3⟩
/-- what the tree reaches is the same: so is the tree -/
def VAG (V V' : VWT) (lo P : Nat) : Prop := (∀ x : Nat, x < P → V'.1 x = V.1 x) ∧ ∀ x : Nat, lo ≤ x → x < P → V'.2.1 x = V.2.1 x ∧ V'.2.2.1 x = V.2.2.1 x ∧ ∀ k : Nat, k < 3 → V'.2.2.2 x k = V.2.2.2 x k
theorem spx_agr {V V' : VWT} {nv nv' : Int} {vf vf' : Int → Int} {kf kf' : Nat → Nat} {lo lo' P P' : Nat} (hV : VAG V V' lo P) (hx : XT nv vf nv' vf') (hk : KX nv kf kf') (hl : lo' ≤ lo) (hP : P ≤ P') : ∀ (d x : Nat) (p q : Int), SPX G n B V nv vf kf lo P d x p q → SPX G n B V' nv' vf' kf' lo' P' d x p q := by
  intro d
  induction d with
  | zero => intro x p q h; exact h
  | succ d ih =>
    intro x p q h
    rw [spx_s] at h ⊢
    obtain ⟨h0, h⟩ := h
    refine ⟨by omega, ?_⟩
    rcases h with ⟨a1, a2, a3, a4, a5, a9⟩ | ⟨a1, a2, a3, a4, m, q1, a5, a6, a7, a8⟩
    · left
      rw [hV.1 x h0]
      exact ⟨a1, a2, a3, by have := hx.1; omega, by rw [hx.2 _ a3 a4]; exact a5, fun hB => by have := a9.1 hB; omega, fun hB => (a9.2 hB).trans (hk _ (by omega)).symm⟩
    · right
      obtain ⟨e1, e2, e3⟩ := hV.2 x a2 h0
      refine ⟨a1, by omega, by rw [hV.1 x h0]; exact a3, by rw [e1]; exact a4, m, q1, by rw [e2]; exact a5, a6, ?_, a8⟩
      exact pre_mono ih m _ _ (fun j hj => e3 j (by omega)) a7
theorem tkN_ge (a : Int) : a ≤ tkN G n a := by
  have h1 := tkS_ge (G := G) (n := n) (tkX G n a)
  have h2 : a ≤ tkX G n a := by
    unfold tkX
    split
    · exact tkE_ge a
    · omega
  have h3 : tkX G n a ≤ tkN G n a := h1
  omega
theorem spx_in {V : VWT} {kf : Nat → Nat} {nv : Int} {vf : Int → Int} {lo P d x : Nat} {p q : Int} (h : SPX G n B V nv vf kf lo P d x p q) : p < n := by
  cases d with
  | zero => exact False.elim h
  | succ d =>
    rw [spx_s] at h
    rcases h.2 with a | a
    · exact tkT_in (G := G) (by have := a.1; omega)
    · exact tkT_in (G := G) (by have := a.1; omega)
/-- places go on -/
theorem spx_gt {V : VWT} {kf : Nat → Nat} {nv : Int} {vf : Int → Int} {lo P : Nat} (hn : n ≤ 600) : ∀ (d x : Nat) (p q : Int), 0 ≤ p → SPX G n B V nv vf kf lo P d x p q → p + 1 ≤ q ∧ q ≤ n := by
  intro d
  induction d with
  | zero => intro x p q _ h; exact False.elim h
  | succ d ih =>
    intro x p q hp h
    rw [spx_s] at h
    obtain ⟨h0, h⟩ := h
    have pr : ∀ (k : Nat) (q0 q1 : Int), 0 ≤ q0 → q0 ≤ n → PRX G n (SPX G n B V nv vf kf lo P d) (V.2.2.2 x) k q0 q1 → q0 ≤ q1 ∧ q1 ≤ n := by
      intro k
      induction k with
      | zero => intro q0 q1 g1 g2 g; have g3 : q1 = q0 := g; omega
      | succ k ihk =>
        intro q0 q1 g1 g2 g
        obtain ⟨q2, b1, b2, b3⟩ := g
        obtain ⟨c1, c2⟩ := ihk q0 q2 g1 g2 b1
        have e := spx_in b3
        have e2 := tkN_ge (G := G) (n := n) q2
        have w := ih _ _ _ (by omega) b3
        omega
    rcases h with ⟨a1, a2, -, -, -⟩ | ⟨a1, -, -, -, m, q1, -, -, a7, a8⟩
    · have f := tkN_gt (G := G) (n := n) (a := p) hp hn (tkT_in (G := G) (by omega))
      omega
    · have f := tkN_gt (G := G) (n := n) (a := p) hp hn (tkT_in (G := G) (by omega))
      have w := pr m _ _ (by omega) (by omega) a7
      rcases a8 with ⟨-, -, b⟩ | ⟨-, -, b, c⟩
      · omega
      · have g := tkN_gt (G := G) (n := n) (a := q1) (by omega) hn (tkT_in (G := G) (by omega))
        omega
/-- how many parts a tree has -/
def szX (V : VWT) : Nat → Nat → Int
  | 0, _ => 0
  | d + 1, x => 1 + (if V.1 x = -1 then (if 1 ≤ V.2.2.1 x then szX V d (V.2.2.2 x 0) else 0) + (if 2 ≤ V.2.2.1 x then szX V d (V.2.2.2 x 1) else 0) + (if 3 ≤ V.2.2.1 x then szX V d (V.2.2.2 x 2) else 0) else 0)
theorem szX_s (V : VWT) (d x : Nat) : szX V (d + 1) x = 1 + (if V.1 x = -1 then (if 1 ≤ V.2.2.1 x then szX V d (V.2.2.2 x 0) else 0) + (if 2 ≤ V.2.2.1 x then szX V d (V.2.2.2 x 1) else 0) + (if 3 ≤ V.2.2.1 x then szX V d (V.2.2.2 x 2) else 0) else 0) := rfl
/-- each part has two signs on the tape, but for the last -/
theorem spx_size {V : VWT} {kf : Nat → Nat} {nv : Int} {vf : Int → Int} {lo P : Nat} (hn : n ≤ 600) : ∀ (d x : Nat) (p q : Int), 0 ≤ p → SPX G n B V nv vf kf lo P d x p q → 1 ≤ szX V d x ∧ 2 * szX V d x ≤ q - p + 1 := by
  intro d
  induction d with
  | zero => intro x p q _ h; exact False.elim h
  | succ d ih =>
    intro x p q hp h
    have hg := spx_gt hn _ _ _ _ hp h
    rw [spx_s] at h
    obtain ⟨h0, h⟩ := h
    rw [szX_s]
    rcases h with ⟨a1, a2, a3, -, -⟩ | ⟨a1, -, a3, -, m, q1, a5, a6, a7, a8⟩
    · rw [if_neg (by omega)]; omega
    · rw [if_pos a3]
      have f := tkN_gt (G := G) (n := n) (a := p) hp hn (tkT_in (G := G) (by omega))
      have st : ∀ (y : Nat) (s t : Int), 0 ≤ s → SPX G n B V nv vf kf lo P d y (tkN G n s) t → s + 1 ≤ tkN G n s ∧ 1 ≤ szX V d y ∧ 2 * szX V d y ≤ t - tkN G n s + 1 := by
        intro y s t hs g
        have e1 := spx_in g
        have e2 := tkN_ge (G := G) (n := n) s
        have e3 := tkN_gt (G := G) (n := n) (a := s) hs hn (by omega)
        have e4 := ih y _ _ (by omega) g
        exact ⟨e3.1, e4.1, e4.2⟩
      have hm : m = 0 ∨ m = 1 ∨ m = 2 ∨ m = 3 := by omega
      rcases hm with hm | hm | hm | hm
      · subst hm
        rw [if_neg (by omega), if_neg (by omega), if_neg (by omega)]; omega
      · subst hm
        obtain ⟨s0, b0, -, t0⟩ := a7
        have b0' : s0 = tkN G n p := b0
        have w0 : s0 + 1 ≤ tkN G n s0 ∧ 1 ≤ szX V d (V.2.2.2 x 0) ∧ 2 * szX V d (V.2.2.2 x 0) ≤ q1 - tkN G n s0 + 1 := st _ _ _ (by omega) t0
        have g := spx_gt hn _ _ _ _ (by omega) t0
        rw [if_pos (by omega), if_neg (by omega), if_neg (by omega)]
        rcases a8 with ⟨c, -⟩ | ⟨-, -, c, e⟩
        · omega
        · have z := tkN_gt (G := G) (n := n) (a := q1) (by omega) hn (tkT_in (G := G) (by omega))
          omega
      · subst hm
        obtain ⟨s1, ⟨s0, b0, -, t0⟩, -, t1⟩ := a7
        have b0' : s0 = tkN G n p := b0
        have w0 : s0 + 1 ≤ tkN G n s0 ∧ 1 ≤ szX V d (V.2.2.2 x 0) ∧ 2 * szX V d (V.2.2.2 x 0) ≤ s1 - tkN G n s0 + 1 := st _ _ _ (by omega) t0
        have g0 := spx_gt hn _ _ _ _ (by omega) t0
        have w1 : s1 + 1 ≤ tkN G n s1 ∧ 1 ≤ szX V d (V.2.2.2 x 1) ∧ 2 * szX V d (V.2.2.2 x 1) ≤ q1 - tkN G n s1 + 1 := st _ _ _ (by omega) t1
        have g1 := spx_gt hn _ _ _ _ (by omega) t1
        rw [if_pos (by omega), if_pos (by omega), if_neg (by omega)]
        rcases a8 with ⟨c, -⟩ | ⟨-, -, c, e⟩
        · omega
        · have z := tkN_gt (G := G) (n := n) (a := q1) (by omega) hn (tkT_in (G := G) (by omega))
          omega
      · subst hm
        obtain ⟨s2, ⟨s1, ⟨s0, b0, -, t0⟩, -, t1⟩, -, t2⟩ := a7
        have b0' : s0 = tkN G n p := b0
        have w0 : s0 + 1 ≤ tkN G n s0 ∧ 1 ≤ szX V d (V.2.2.2 x 0) ∧ 2 * szX V d (V.2.2.2 x 0) ≤ s1 - tkN G n s0 + 1 := st _ _ _ (by omega) t0
        have g0 := spx_gt hn _ _ _ _ (by omega) t0
        have w1 : s1 + 1 ≤ tkN G n s1 ∧ 1 ≤ szX V d (V.2.2.2 x 1) ∧ 2 * szX V d (V.2.2.2 x 1) ≤ s2 - tkN G n s1 + 1 := st _ _ _ (by omega) t1
        have g1 := spx_gt hn _ _ _ _ (by omega) t1
        have w2 : s2 + 1 ≤ tkN G n s2 ∧ 1 ≤ szX V d (V.2.2.2 x 2) ∧ 2 * szX V d (V.2.2.2 x 2) ≤ q1 - tkN G n s2 + 1 := st _ _ _ (by omega) t2
        have g2 := spx_gt hn _ _ _ _ (by omega) t2
        rw [if_pos (by omega), if_pos (by omega), if_pos (by omega)]
        rcases a8 with ⟨c, -⟩ | ⟨-, -, c, e⟩
        · omega
        · have z := tkN_gt (G := G) (n := n) (a := q1) (by omega) hn (tkT_in (G := G) (by omega))
          omega
/-- how many signs a tree is written with -/
def lnX (nf : Int → Int) (V : VWT) : Nat → Nat → Int
  | 0, _ => 0
  | d + 1, x => if V.1 x = -1 then nf (V.2.1 x) + (if 1 ≤ V.2.2.1 x then 1 + lnX nf V d (V.2.2.2 x 0) else 0) + (if 2 ≤ V.2.2.1 x then 1 + lnX nf V d (V.2.2.2 x 1) else 0) + (if 3 ≤ V.2.2.1 x then 1 + lnX nf V d (V.2.2.2 x 2) else 0) + (if 1 ≤ V.2.2.1 x then 1 else 0) else 1
theorem lnX_s (nf : Int → Int) (V : VWT) (d x : Nat) : lnX nf V (d + 1) x = (if V.1 x = -1 then nf (V.2.1 x) + (if 1 ≤ V.2.2.1 x then 1 + lnX nf V d (V.2.2.2 x 0) else 0) + (if 2 ≤ V.2.2.1 x then 1 + lnX nf V d (V.2.2.2 x 1) else 0) + (if 3 ≤ V.2.2.1 x then 1 + lnX nf V d (V.2.2.2 x 2) else 0) + (if 1 ≤ V.2.2.1 x then 1 else 0) else 1) := rfl
/-- ... are on the tape -/
theorem spx_len (hG : ∀ k : Int, 0 ≤ G k ∧ G k ≤ 255) {V : VWT} {kf : Nat → Nat} {nv : Int} {vf : Int → Int} {lo P : Nat} (hn : n ≤ 600) : ∀ (d x : Nat) (p q : Int), 0 ≤ p → SPX G n 32 V nv vf kf lo P d x p q → lnX (nlQ 8) V d x ≤ q - p := by
  intro d
  induction d with
  | zero => intro x p q _ h; exact False.elim h
  | succ d ih =>
    intro x p q hp h
    have hg := spx_gt hn _ _ _ _ hp h
    rw [spx_s] at h
    obtain ⟨h0, h⟩ := h
    rw [lnX_s]
    rcases h with ⟨a1, a2, a3, -, -⟩ | ⟨a1, -, a3, a4, m, q1, a5, a6, a7, a8⟩
    · rw [if_neg (by omega)]; omega
    · rw [if_pos a3, a4, nmi_len hG a1]
      have sh := tkT_short hG a1
      have f := tkN_gt (G := G) (n := n) (a := p) hp hn (tkT_in (G := G) (by omega))
      have st : ∀ (y : Nat) (s t : Int), 0 ≤ s → SPX G n 32 V nv vf kf lo P d y (tkN G n s) t → s + 1 ≤ tkN G n s ∧ lnX (nlQ 8) V d y ≤ t - tkN G n s := by
        intro y s t hs g
        have e1 := spx_in g
        have e2 := tkN_ge (G := G) (n := n) s
        have e3 := tkN_gt (G := G) (n := n) (a := s) hs hn (by omega)
        have e4 := ih y _ _ (by omega) g
        exact ⟨e3.1, e4⟩
      have hm : m = 0 ∨ m = 1 ∨ m = 2 ∨ m = 3 := by omega
      rcases hm with hm | hm | hm | hm
      · subst hm
        rw [if_neg (by omega), if_neg (by omega), if_neg (by omega), if_neg (by omega)]
        have b0' : q1 = tkN G n p := a7
        rcases a8 with ⟨-, -, c⟩ | ⟨c, -⟩
        · omega
        · omega
      · subst hm
        obtain ⟨s0, b0, -, t0⟩ := a7
        have b0' : s0 = tkN G n p := b0
        have w0 : s0 + 1 ≤ tkN G n s0 ∧ lnX (nlQ 8) V d (V.2.2.2 x 0) ≤ q1 - tkN G n s0 := st _ _ _ (by omega) t0
        have g := spx_gt hn _ _ _ _ (by omega) t0
        rw [if_pos (by omega), if_neg (by omega), if_neg (by omega), if_pos (by omega)]
        rcases a8 with ⟨c, -⟩ | ⟨-, -, c, e⟩
        · omega
        · have z := tkN_gt (G := G) (n := n) (a := q1) (by omega) hn (tkT_in (G := G) (by omega))
          omega
      · subst hm
        obtain ⟨s1, ⟨s0, b0, -, t0⟩, -, t1⟩ := a7
        have b0' : s0 = tkN G n p := b0
        have w0 : s0 + 1 ≤ tkN G n s0 ∧ lnX (nlQ 8) V d (V.2.2.2 x 0) ≤ s1 - tkN G n s0 := st _ _ _ (by omega) t0
        have g0 := spx_gt hn _ _ _ _ (by omega) t0
        have w1 : s1 + 1 ≤ tkN G n s1 ∧ lnX (nlQ 8) V d (V.2.2.2 x 1) ≤ q1 - tkN G n s1 := st _ _ _ (by omega) t1
        have g1 := spx_gt hn _ _ _ _ (by omega) t1
        rw [if_pos (by omega), if_pos (by omega), if_neg (by omega), if_pos (by omega)]
        rcases a8 with ⟨c, -⟩ | ⟨-, -, c, e⟩
        · omega
        · have z := tkN_gt (G := G) (n := n) (a := q1) (by omega) hn (tkT_in (G := G) (by omega))
          omega
      · subst hm
        obtain ⟨s2, ⟨s1, ⟨s0, b0, -, t0⟩, -, t1⟩, -, t2⟩ := a7
        have b0' : s0 = tkN G n p := b0
        have w0 : s0 + 1 ≤ tkN G n s0 ∧ lnX (nlQ 8) V d (V.2.2.2 x 0) ≤ s1 - tkN G n s0 := st _ _ _ (by omega) t0
        have g0 := spx_gt hn _ _ _ _ (by omega) t0
        have w1 : s1 + 1 ≤ tkN G n s1 ∧ lnX (nlQ 8) V d (V.2.2.2 x 1) ≤ s2 - tkN G n s1 := st _ _ _ (by omega) t1
        have g1 := spx_gt hn _ _ _ _ (by omega) t1
        have w2 : s2 + 1 ≤ tkN G n s2 ∧ lnX (nlQ 8) V d (V.2.2.2 x 2) ≤ q1 - tkN G n s2 := st _ _ _ (by omega) t2
        have g2 := spx_gt hn _ _ _ _ (by omega) t2
        rw [if_pos (by omega), if_pos (by omega), if_pos (by omega), if_pos (by omega)]
        rcases a8 with ⟨c, -⟩ | ⟨-, -, c, e⟩
        · omega
        · have z := tkN_gt (G := G) (n := n) (a := q1) (by omega) hn (tkT_in (G := G) (by omega))
          omega
/-- two trees, the class's and the reference's -/
def EQX (V W : VWT) (kf : Nat → Nat) : Nat → Nat → Nat → Prop
  | 0, _, _ => False
  | d + 1, x, y => V.1 x = W.1 y ∧ ((0 ≤ V.1 x ∧ x = kf (V.1 x).toNat) ∨ (V.1 x = -1 ∧ NMQ (V.2.1 x) (W.2.1 y) ∧ V.2.2.1 x = W.2.2.1 y ∧ 0 ≤ V.2.2.1 x ∧ V.2.2.1 x ≤ 3 ∧ ∀ k : Nat, (k : Int) < V.2.2.1 x → EQX V W kf d (V.2.2.2 x k) (W.2.2.2 y k)))
theorem eqx_s (V W : VWT) (kf : Nat → Nat) (d x y : Nat) : EQX V W kf (d + 1) x y = (V.1 x = W.1 y ∧ ((0 ≤ V.1 x ∧ x = kf (V.1 x).toNat) ∨ (V.1 x = -1 ∧ NMQ (V.2.1 x) (W.2.1 y) ∧ V.2.2.1 x = W.2.2.1 y ∧ 0 ≤ V.2.2.1 x ∧ V.2.2.1 x ≤ 3 ∧ ∀ k : Nat, (k : Int) < V.2.2.1 x → EQX V W kf d (V.2.2.2 x k) (W.2.2.2 y k)))) := rfl
/-- of more terms the first ones -/
theorem pre_cut {S : Nat → Int → Int → Prop} {ch : Nat → Nat} {j : Nat} : ∀ (k : Nat) (q0 q : Int), PRX G n S ch k q0 q → j ≤ k → ∃ q2 : Int, PRX G n S ch j q0 q2 ∧ (j = k → q2 = q) ∧ (j < k → j = 0 ∨ tkT G n q2 = 44) := by
  intro k
  induction k with
  | zero =>
    intro q0 q h e
    have e2 : j = 0 := by omega
    subst e2
    exact ⟨q, h, fun _ => rfl, fun w => absurd w (by omega)⟩
  | succ k ih =>
    intro q0 q h e
    by_cases c : j = k + 1
    · subst c; exact ⟨q, h, fun _ => rfl, fun w => absurd w (by omega)⟩
    · obtain ⟨q1, h1, h2, h3⟩ := h
      obtain ⟨q2, g1, g2, g3⟩ := ih q0 q1 h1 (by omega)
      refine ⟨q2, g1, fun w => absurd w (by omega), fun _ => ?_⟩
      by_cases w : j = k
      · have w2 := g2 w
        rw [w2, w]; exact h2
      · exact g3 (by omega)
theorem pre_two {S S' : Nat → Int → Int → Prop} {Q : Nat → Nat → Prop} {ch ch' : Nat → Nat} (hS : ∀ y y' p q q', S y p q → S' y' p q' → q = q' ∧ Q y y') : ∀ (k : Nat) (q0 q q' : Int), PRX G n S ch k q0 q → PRX G n S' ch' k q0 q' → q = q' ∧ ∀ j : Nat, j < k → Q (ch j) (ch' j) := by
  intro k
  induction k with
  | zero =>
    intro q0 q q' h g
    have h' : q = q0 := h
    have g' : q' = q0 := g
    exact ⟨by omega, fun j hj => absurd hj (by omega)⟩
  | succ k ih =>
    intro q0 q q' h g
    obtain ⟨q1, h1, h2, h3⟩ := h
    obtain ⟨q2, g1, g2, g3⟩ := g
    obtain ⟨e1, e2⟩ := ih q0 q1 q2 h1 g1
    subst e1
    obtain ⟨e3, e4⟩ := hS _ _ _ _ _ h3 g3
    refine ⟨e3, fun j hj => ?_⟩
    by_cases c : j = k
    · rw [c]; exact e4
    · exact e2 j (by omega)
theorem spx_two (hG : ∀ k : Int, 0 ≤ G k ∧ G k ≤ 255) {V W : VWT} {nv : Int} {vf : Int → Int} {kf kg : Nat → Nat} {lo P lo' P' : Nat} (hi : IJ nv vf) : ∀ (d x y : Nat) (p q q' : Int), SPX G n 32 V nv vf kf lo P d x p q → SPX G n 27 W nv vf kg lo' P' d y p q' → q = q' ∧ EQX V W kf d x y := by
  intro d
  induction d with
  | zero => intro x y p q q' h _; exact False.elim h
  | succ d ih =>
    intro x y p q q' h g
    rw [spx_s] at h g
    rw [eqx_s]
    obtain ⟨-, h⟩ := h
    obtain ⟨-, g⟩ := g
    rcases h with ⟨a1, a2, a3, a4, a5, a9⟩ | ⟨a1, a2, a3, a4, m, q1, a5, a6, a7, a8⟩
    · rcases g with ⟨b1, b2, b3, b4, b5, -⟩ | ⟨b1, -⟩
      · exact ⟨by omega, hi _ _ a3 a4 b3 b4 (a5.trans b5.symm), Or.inl ⟨a3, a9.2 rfl⟩⟩
      · omega
    · rcases g with ⟨b1, -⟩ | ⟨b1, b2, b3, b4, m', q1', b5, b6, b7, b8⟩
      · omega
      · have key : m = m' ∧ q1 = q1' ∧ ∀ j : Nat, j < m → EQX V W kf d (V.2.2.2 x j) (W.2.2.2 y j) := by
          rcases Nat.lt_trichotomy m m' with c | c | c
          · obtain ⟨q2, e1, -, e3⟩ := pre_cut (j := m) m' _ _ b7 (by omega)
            obtain ⟨e4, -⟩ := pre_two (Q := EQX V W kf d) (fun y y' p q q' s t => ih y y' p q q' s t) m _ _ _ a7 e1
            have e5 := e3 c
            rw [← e4] at e5
            omega
          · subst c
            obtain ⟨e4, e5⟩ := pre_two (Q := EQX V W kf d) (fun y y' p q q' s t => ih y y' p q q' s t) m _ _ _ a7 b7
            exact ⟨rfl, e4, e5⟩
          · obtain ⟨q2, e1, -, e3⟩ := pre_cut (j := m') m _ _ a7 (by omega)
            obtain ⟨e4, -⟩ := pre_two (Q := EQX V W kf d) (fun y y' p q q' s t => ih y y' p q q' s t) m' _ _ _ e1 b7
            have e5 := e3 c
            rw [e4] at e5
            omega
        obtain ⟨k1, k2, k3⟩ := key
        refine ⟨by subst k2; omega, by omega, Or.inr ⟨a3, ?_, by omega, by omega, by omega, fun k hk => k3 k (by omega)⟩⟩
        rw [a4, b4]; exact nmi_q (tkT_small hG a1) (tkT_short hG a1).1 (tkT_short hG a1).2.1
end SL
/-! clauses -/
/-- so many literals were read, from p0 to what stands at q -/
def LPX (G : Int → Int) (n : Int) (S : Nat → Int → Int → Prop) (tm : Nat → Nat) (sg : Nat → Int) : Nat → Int → Int → Prop
  | 0, p0, q => q = p0
  | k + 1, p0, q => ∃ q1 s : Int, LPX G n S tm sg k p0 q1 ∧ ((k = 0 ∧ s = p0) ∨ (¬ k = 0 ∧ tkT G n q1 = 124 ∧ s = tkN G n q1)) ∧ ((tkT G n s = 45 ∧ tkT G n (tkN G n s) = 256 ∧ sg k = 0 ∧ S (tm k) (tkN G n s) q) ∨ (tkT G n s = 256 ∧ sg k = 1 ∧ S (tm k) s q))
abbrev LWT : Type := (Nat → Int) × (Nat → Int) × (Nat → Nat → Nat) × (Nat → Nat → Int)
def CLW (lit vas pls fst : Nat → Int32) : LWT := (fun c => (lit c).toInt, fun c => (vas c).toInt, fun c k => Int32.toNatClampNeg (fst (6 * c + k)), fun c k => (pls c).toInt / (2 : Int) ^ k % 2)
def RLW (mny vas nts tem : Nat → Int32) : LWT := (fun c => (mny c).toInt, fun c => (vas c).toInt, fun c k => Int32.toNatClampNeg (tem (6 * c + k)), fun c k => 1 - (nts (6 * c + k)).toInt)
/-- the clause c is what stands on the tape from p to q -/
def CLX (G : Int → Int) (n B : Int) (V : VWT) (L : LWT) (lo P : Nat) (c : Nat) (p q : Int) : Prop := ∃ (kf : Nat → Nat) (m : Nat) (q1 : Int), L.1 c = (m : Int) ∧ 1 ≤ m ∧ m ≤ 6 ∧ L.2.1 c = (pLs G n 6 p 0 (fun _ => 0)).2.2.1 ∧ LPX G n (SPX G n B V (pLs G n 6 p 0 (fun _ => 0)).2.2.1 (pLs G n 6 p 0 (fun _ => 0)).2.2.2 kf lo P 7) (L.2.2.1 c) (L.2.2.2 c) m p q1 ∧ tkT G n q1 = 46 ∧ q = tkN G n q1
/-- so many clauses are what stands on the tape up to q -/
def ALX (G : Int → Int) (n B : Int) (V : VWT) (L : LWT) (lo P : Nat) : Nat → Int → Prop
  | 0, q => q = tkS G n 0
  | c + 1, q => ∃ q1 : Int, ALX G n B V L lo P c q1 ∧ CLX G n B V L lo P c q1 q
def LAG (L L' : LWT) (c : Nat) : Prop := L'.1 c = L.1 c ∧ L'.2.1 c = L.2.1 c ∧ ∀ k : Nat, k < 6 → L'.2.2.1 c k = L.2.2.1 c k ∧ L'.2.2.2 c k = L.2.2.2 c k
section CX
variable {G : Int → Int} {n B : Int}
theorem lpx_mono {S S' : Nat → Int → Int → Prop} {tm tm' : Nat → Nat} {sg sg' : Nat → Int} (hS : ∀ y p q, S y p q → S' y p q) : ∀ (k : Nat) (q0 q : Int), (∀ j : Nat, j < k → tm' j = tm j ∧ sg' j = sg j) → LPX G n S tm sg k q0 q → LPX G n S' tm' sg' k q0 q := by
  intro k
  induction k with
  | zero => intro q0 q _ h; exact h
  | succ k ih =>
    intro q0 q hc h
    obtain ⟨q1, s, h1, h2, h3⟩ := h
    obtain ⟨e1, e2⟩ := hc k (by omega)
    refine ⟨q1, s, ih q0 q1 (fun j hj => hc j (by omega)) h1, h2, ?_⟩
    rw [e1, e2]
    rcases h3 with ⟨a, a0, b, c⟩ | ⟨a, b, c⟩
    · exact Or.inl ⟨a, a0, b, hS _ _ _ c⟩
    · exact Or.inr ⟨a, b, hS _ _ _ c⟩
theorem clx_agr {V V' : VWT} {L L' : LWT} {lo lo' P P' c : Nat} {p q : Int} (hV : VAG V V' lo P) (hL : LAG L L' c) (hl : lo' ≤ lo) (hP : P ≤ P') (h : CLX G n B V L lo P c p q) : CLX G n B V' L' lo' P' c p q := by
  obtain ⟨kf, m, q1, h1, h2, h3, h4, h5, h6, h7⟩ := h
  obtain ⟨e1, e2, e3⟩ := hL
  exact ⟨kf, m, q1, by rw [e1]; exact h1, h2, h3, by rw [e2]; exact h4, lpx_mono (spx_agr hV xt_rf kx_rf hl hP 7) m _ _ (fun j hj => e3 j (by omega)) h5, h6, h7⟩
theorem alx_agr {V V' : VWT} {L L' : LWT} {lo lo' P P' : Nat} (hV : VAG V V' lo P) (hl : lo' ≤ lo) (hP : P ≤ P') : ∀ (c : Nat) (q : Int), (∀ j : Nat, j < c → LAG L L' j) → ALX G n B V L lo P c q → ALX G n B V' L' lo' P' c q := by
  intro c
  induction c with
  | zero => intro q _ h; exact h
  | succ c ih =>
    intro q hL h
    obtain ⟨q1, h1, h2⟩ := h
    exact ⟨q1, ih q1 (fun j hj => hL j (by omega)) h1, clx_agr hV (hL c (by omega)) hl hP h2⟩
theorem lpx_cut {S : Nat → Int → Int → Prop} {tm : Nat → Nat} {sg : Nat → Int} {j : Nat} : ∀ (k : Nat) (q0 q : Int), LPX G n S tm sg k q0 q → j ≤ k → ∃ q2 : Int, LPX G n S tm sg j q0 q2 ∧ (j = k → q2 = q) ∧ (j < k → j = 0 ∨ tkT G n q2 = 124) := by
  intro k
  induction k with
  | zero =>
    intro q0 q h e
    have e2 : j = 0 := by omega
    subst e2
    exact ⟨q, h, fun _ => rfl, fun w => absurd w (by omega)⟩
  | succ k ih =>
    intro q0 q h e
    by_cases c : j = k + 1
    · subst c; exact ⟨q, h, fun _ => rfl, fun w => absurd w (by omega)⟩
    · obtain ⟨q1, s, h1, h2, h3⟩ := h
      obtain ⟨q2, g1, g2, g3⟩ := ih q0 q1 h1 (by omega)
      refine ⟨q2, g1, fun w => absurd w (by omega), fun _ => ?_⟩
      by_cases w : j = k
      · have w2 := g2 w
        rw [w2, w]; omega
      · exact g3 (by omega)
theorem lpx_ge {S : Nat → Int → Int → Prop} {tm : Nat → Nat} {sg : Nat → Int} (hM : ∀ y p q, 0 ≤ p → S y p q → p ≤ q) : ∀ (k : Nat) (q0 q : Int), 0 ≤ q0 → LPX G n S tm sg k q0 q → q0 ≤ q := by
  intro k
  induction k with
  | zero => intro q0 q _ h; have h' : q = q0 := h; omega
  | succ k ih =>
    intro q0 q h0 h
    obtain ⟨q1, s, h1, h2, h3⟩ := h
    have e := ih q0 q1 h0 h1
    have w := tkN_ge (G := G) (n := n) q1
    have w2 := tkN_ge (G := G) (n := n) s
    have hs : q0 ≤ s := by omega
    rcases h3 with ⟨-, -, -, c⟩ | ⟨-, -, c⟩
    · have := hM _ _ _ (by omega) c; omega
    · have := hM _ _ _ (by omega) c; omega
theorem lpx_two {S S' : Nat → Int → Int → Prop} {Q : Nat → Nat → Prop} {tm tm' : Nat → Nat} {sg sg' : Nat → Int} (hM : ∀ y p q, 0 ≤ p → S y p q → p ≤ q) (hS : ∀ y y' p q q', 0 ≤ p → tkT G n p = 256 → S y p q → S' y' p q' → q = q' ∧ Q y y') : ∀ (k : Nat) (q0 q q' : Int), 0 ≤ q0 → LPX G n S tm sg k q0 q → LPX G n S' tm' sg' k q0 q' → q = q' ∧ ∀ j : Nat, j < k → Q (tm j) (tm' j) ∧ sg j = sg' j := by
  intro k
  induction k with
  | zero =>
    intro q0 q q' h0 h g
    have h' : q = q0 := h
    have g' : q' = q0 := g
    exact ⟨by omega, fun j hj => absurd hj (by omega)⟩
  | succ k ih =>
    intro q0 q q' h0 h g
    obtain ⟨q1, s, h1, h2, h3⟩ := h
    obtain ⟨q2, t, g1, g2, g3⟩ := g
    obtain ⟨e1, e2⟩ := ih q0 q1 q2 h0 h1 g1
    subst e1
    have e5 : s = t := by omega
    subst e5
    have ge := lpx_ge hM k _ _ h0 h1
    have w1 := tkN_ge (G := G) (n := n) q1
    have w2 := tkN_ge (G := G) (n := n) s
    have hs : 0 ≤ s := by omega
    have e6 : q = q' ∧ Q (tm k) (tm' k) ∧ sg k = sg' k := by
      rcases h3 with ⟨a, a0, b, c⟩ | ⟨a, b, c⟩
      · rcases g3 with ⟨a', -, b', c'⟩ | ⟨a', b', c'⟩
        · obtain ⟨x, y⟩ := hS _ _ _ _ _ (by omega) a0 c c'
          exact ⟨x, y, by omega⟩
        · omega
      · rcases g3 with ⟨a', -, b', c'⟩ | ⟨a', b', c'⟩
        · omega
        · obtain ⟨x, y⟩ := hS _ _ _ _ _ hs a c c'
          exact ⟨x, y, by omega⟩
    refine ⟨e6.1, fun j hj => ?_⟩
    by_cases c : j = k
    · rw [c]; exact e6.2
    · exact e2 j (by omega)
/-- two clauses, the class's and the reference's -/
def CQX (V W : VWT) (L M : LWT) (c : Nat) : Prop := L.1 c = M.1 c ∧ L.2.1 c = M.2.1 c ∧ 1 ≤ L.1 c ∧ L.1 c ≤ 6 ∧ ∃ kf : Nat → Nat, ∀ k : Nat, (k : Int) < L.1 c → (EQX V W kf 7 (L.2.2.1 c k) (M.2.2.1 c k) ∧ V.1 (L.2.2.1 c k) = -1 ∧ szX V 7 (L.2.2.1 c k) ≤ 300) ∧ (L.2.2.2 c k = M.2.2.2 c k ∧ lnX (nlQ 8) V 7 (L.2.2.1 c k) ≤ 599 + L.2.2.2 c k)
/-- a tree that begins with a name -/
theorem spx_root {V : VWT} {kf : Nat → Nat} {nv : Int} {vf : Int → Int} {lo P d x : Nat} {p q : Int} (h : SPX G n B V nv vf kf lo P d x p q) (ht : tkT G n p = 256) : V.1 x = -1 := by
  cases d with
  | zero => exact False.elim h
  | succ d =>
    rw [spx_s] at h
    rcases h.2 with a | a
    · have := a.1; omega
    · exact a.2.2.1
theorem lpx_len {S : Nat → Int → Int → Prop} {tm : Nat → Nat} {sg : Nat → Int} {f : Nat → Int} (hn : n ≤ 600) (hS : ∀ y p q, 0 ≤ p → S y p q → f y ≤ q - p ∧ p ≤ q ∧ q ≤ n) : ∀ (k : Nat) (q0 q : Int), 0 ≤ q0 → LPX G n S tm sg k q0 q → ∀ j : Nat, j < k → f (tm j) ≤ 599 + sg j := by
  intro k
  induction k with
  | zero => intro q0 q _ _ j hj; omega
  | succ k ih =>
    intro q0 q h0 h j hj
    obtain ⟨q1, s, h1, h2, h3⟩ := h
    by_cases c : j < k
    · exact ih q0 q1 h0 h1 j c
    · have e : j = k := by omega
      subst e
      have ge := lpx_ge (fun y p q t0 t1 => (hS y p q t0 t1).2.1) j _ _ h0 h1
      have w1 := tkN_ge (G := G) (n := n) q1
      have hs : 0 ≤ s := by omega
      rcases h3 with ⟨a, a0, b, d⟩ | ⟨a, b, d⟩
      · have g := tkN_gt (G := G) (n := n) (a := s) hs hn (tkT_in (G := G) (by omega))
        have k1 := hS _ _ _ (by omega) d
        omega
      · have k1 := hS _ _ _ hs d
        omega
theorem clx_two (hG : ∀ k : Int, 0 ≤ G k ∧ G k ≤ 255) (hn : n ≤ 600) {V W : VWT} {L M : LWT} {lo P lo' P' c : Nat} {p q q' : Int} (hp : 0 ≤ p) (h : CLX G n 32 V L lo P c p q) (g : CLX G n 27 W M lo' P' c p q') : q = q' ∧ CQX V W L M c := by
  obtain ⟨kf, m, q1, h1, h2, h3, h4, h5, h6, h7⟩ := h
  obtain ⟨kg, m', q1', g1, g2, g3, g4, g5, g6, g7⟩ := g
  have hi : IJ (pLs G n 6 p 0 (fun _ => 0)).2.2.1 (pLs G n 6 p 0 (fun _ => 0)).2.2.2 := (pLs_xi 6 p 0 (fun _ => 0)).2 (Int.le_refl _) ij_zero
  have sq0 := spx_two (n := n) hG (V := V) (W := W) (lo := lo) (P := P) (kf := kf) (kg := kg) (lo' := lo') (P' := P') hi 7
  have sq : ∀ y y' p1 q1 q2, 0 ≤ p1 → tkT G n p1 = 256 → SPX G n 32 V (pLs G n 6 p 0 (fun _ => 0)).2.2.1 (pLs G n 6 p 0 (fun _ => 0)).2.2.2 kf lo P 7 y p1 q1 → SPX G n 27 W (pLs G n 6 p 0 (fun _ => 0)).2.2.1 (pLs G n 6 p 0 (fun _ => 0)).2.2.2 kg lo' P' 7 y' p1 q2 → q1 = q2 ∧ (EQX V W kf 7 y y' ∧ V.1 y = -1 ∧ szX V 7 y ≤ 300) := fun y y' p1 q1 q2 t0 t s1 s2 => ⟨(sq0 y y' p1 q1 q2 s1 s2).1, (sq0 y y' p1 q1 q2 s1 s2).2, spx_root s1 t, by have a := (spx_size hn 7 _ _ _ t0 s1).2; have b := spx_gt hn 7 _ _ _ t0 s1; omega⟩
  have sm : ∀ y p1 q1, 0 ≤ p1 → SPX G n 32 V (pLs G n 6 p 0 (fun _ => 0)).2.2.1 (pLs G n 6 p 0 (fun _ => 0)).2.2.2 kf lo P 7 y p1 q1 → p1 ≤ q1 := fun y p1 q1 t0 s1 => by have b := spx_gt hn 7 _ _ _ t0 s1; omega
  have key : m = m' ∧ q1 = q1' ∧ ∀ j : Nat, j < m → (EQX V W kf 7 (L.2.2.1 c j) (M.2.2.1 c j) ∧ V.1 (L.2.2.1 c j) = -1 ∧ szX V 7 (L.2.2.1 c j) ≤ 300) ∧ L.2.2.2 c j = M.2.2.2 c j := by
    rcases Nat.lt_trichotomy m m' with w | w | w
    · obtain ⟨q2, e1, -, e3⟩ := lpx_cut (j := m) m' _ _ g5 (by omega)
      obtain ⟨e4, -⟩ := lpx_two (Q := fun y y' => EQX V W kf 7 y y' ∧ V.1 y = -1 ∧ szX V 7 y ≤ 300) sm sq m _ _ _ hp h5 e1
      have e5 := e3 w
      rw [← e4] at e5
      omega
    · subst w
      obtain ⟨e4, e5⟩ := lpx_two (Q := fun y y' => EQX V W kf 7 y y' ∧ V.1 y = -1 ∧ szX V 7 y ≤ 300) sm sq m _ _ _ hp h5 g5
      exact ⟨rfl, e4, e5⟩
    · obtain ⟨q2, e1, -, e3⟩ := lpx_cut (j := m') m _ _ h5 (by omega)
      obtain ⟨e4, -⟩ := lpx_two (Q := fun y y' => EQX V W kf 7 y y' ∧ V.1 y = -1 ∧ szX V 7 y ≤ 300) sm sq m' _ _ _ hp e1 g5
      have e5 := e3 w
      rw [e4] at e5
      omega
  obtain ⟨k1, k2, k3⟩ := key
  subst k1; subst k2
  have ln := lpx_len hn (f := fun y => lnX (nlQ 8) V 7 y) (fun y p1 q1 t0 s1 => ⟨spx_len hG hn 7 _ _ _ t0 s1, by have b := spx_gt hn 7 _ _ _ t0 s1; omega, (spx_gt hn 7 _ _ _ t0 s1).2⟩) m _ _ hp h5
  exact ⟨h7.trans g7.symm, by omega, by omega, by omega, by omega, kf, fun k hk => ⟨(k3 k (by omega)).1, (k3 k (by omega)).2, ln k (by omega)⟩⟩
theorem clx_ge (hn : n ≤ 600) {V : VWT} {L : LWT} {lo P c : Nat} {p q : Int} (hp : 0 ≤ p) (h : CLX G n B V L lo P c p q) : p ≤ q := by
  obtain ⟨kf, m, q1, h1, h2, h3, h4, h5, h6, h7⟩ := h
  have a := lpx_ge (fun y p1 q1 t0 s1 => by have b := spx_gt hn 7 _ _ _ t0 s1; omega) m _ _ hp h5
  have b := tkN_ge (G := G) (n := n) q1
  omega
theorem alx_ge (hn : n ≤ 600) {V : VWT} {L : LWT} {lo P : Nat} : ∀ (c : Nat) (q : Int), ALX G n B V L lo P c q → 0 ≤ q := by
  intro c
  induction c with
  | zero => intro q h; have h' : q = tkS G n 0 := h; have := tkS_ge (G := G) (n := n) 0; omega
  | succ c ih =>
    intro q h
    obtain ⟨q1, h1, h2⟩ := h
    have a := ih q1 h1
    have b := clx_ge hn a h2
    omega
theorem alx_two (hG : ∀ k : Int, 0 ≤ G k ∧ G k ≤ 255) (hn : n ≤ 600) {V W : VWT} {L M : LWT} {lo P lo' P' : Nat} : ∀ (c : Nat) (q q' : Int), ALX G n 32 V L lo P c q → ALX G n 27 W M lo' P' c q' → q = q' ∧ ∀ j : Nat, j < c → CQX V W L M j := by
  intro c
  induction c with
  | zero =>
    intro q q' h g
    have h' : q = tkS G n 0 := h
    have g' : q' = tkS G n 0 := g
    exact ⟨by omega, fun j hj => absurd hj (by omega)⟩
  | succ c ih =>
    intro q q' h g
    obtain ⟨q1, h1, h2⟩ := h
    obtain ⟨q2, g1, g2⟩ := g
    obtain ⟨e1, e2⟩ := ih q1 q2 h1 g1
    subst e1
    obtain ⟨e3, e4⟩ := clx_two hG hn (alx_ge hn _ _ h1) h2 g2
    refine ⟨e3, fun j hj => ?_⟩
    by_cases w : j = c
    · rw [w]; exact e4
    · exact e2 j (by omega)
end CX
