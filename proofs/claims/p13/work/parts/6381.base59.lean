/-! the two searches of one clause, one depth, one choice of options -/
def OKQ (n i d o : Int) : Prop := 0 ≤ i ∧ i < n ∧ 0 ≤ d ∧ d ≤ 20 ∧ 0 ≤ o ∧ o ≤ 7
/-- the search came to an end with r -/
def RSN (m : PRM) (c0 : CFT) (n : CTT) (r : Int) : Prop := ∃ (K : List CHT) (s : BNT), RUN m c0 (DNc r K s n)
def STc (b0 : Nat → Int) (st : Nat) (n : CTT) : CFT := GOc [(0, -1, 0, [], [], -1)] [] (b0, 1, fun _ => st) n
def ZC : CTT := (0, 0, 0, 0)
/-- what solve() answers -/
def SVX (m : PRM) (n i d o : Int) (nn : CTT) (r : Int) : Prop := (¬ OKQ n i d o ∧ r = -1) ∨ (OKQ n i d o ∧ ∃ b0 : Nat → Int, (∀ t : Nat, t < 256 → b0 t < 0) ∧ RSN m (STc b0 i.toNat ZC) nn r)
section SV
variable {m m' : PRM} {P : Nat → Nat → Prop} {b0 b0' : Nat → Int} {st : Nat} {n0 n n' : CTT} {r r' : Int}
theorem rsn_srw {bto bin cof sts : Nat → Int32} {I S : Int} {c0 : CFT} (h : SRW m c0 bto bin cof sts I S n r) : RSN m c0 n r := by
  rcases h with ⟨e, K, s, h, _⟩ | ⟨e, h⟩ | ⟨e, h⟩
  · subst e; exact ⟨K, s, h⟩
  · subst e; exact ⟨_, _, h⟩
  · subst e; exact ⟨_, _, h⟩
theorem rsn_two (hP : PMR P m m') (hb : ∀ t : Nat, t < 256 → b0 t < 0) (hb' : ∀ t : Nat, t < 256 → b0' t < 0) (k : RSN m (STc b0 st n0) n r) (k' : RSN m' (STc b0' st n0) n' r') : r = r' ∧ n = n' := by
  obtain ⟨K, s, k⟩ := k
  obtain ⟨K', s', k'⟩ := k'
  have hc : CFR P (STc b0 st n0) (STc b0' st n0) := ⟨rfl, True.intro, fun t ht => by
    have h1 := hb t ht.2
    have h2 := hb' t ht.2
    show (0 ≤ b0 t ↔ 0 ≤ b0' t) ∧ (0 ≤ b0 t → _)
    exact ⟨⟨fun q => absurd q (by omega), fun q => absurd q (by omega)⟩, fun q => absurd q (by omega)⟩, rfl⟩
  have h := (run_two hP hc k k' rfl rfl).1
  have e1 : r = r' := congrArg (fun q : Nat × List FRT × CTT × Int => q.2.2.2) h
  have e2 : n = n' := congrArg (fun q : Nat × List FRT × CTT × Int => q.2.2.1) h
  exact ⟨e1, e2⟩
theorem svx_two {c i d o i' d' o' c' : Int} (hP : OKQ c i d o → ∃ P : Nat → Nat → Prop, PMR P m m') (h : SVX m c i d o n r) (h' : SVX m' c' i' d' o' n' r') (ec : c' = c) (ei : i' = i) (ed : d' = d) (eo : o' = o) : r = r' := by
  subst ec; subst ei; subst ed; subst eo
  rcases h with ⟨a, e⟩ | ⟨a, b0, hb, k⟩
  · rcases h' with ⟨_, e'⟩ | ⟨a', _⟩
    · rw [e, e']
    · exact absurd a' a
  · rcases h' with ⟨a', _⟩ | ⟨_, b0', hb', k'⟩
    · exact absurd a a'
    · obtain ⟨P, hP⟩ := hP a
      exact (rsn_two hP hb hb' k k').1
end SV
/-! the terms of clauses, by the class and by the reference -/
def lpX (B : Nat) (nd : Nat → Nat → Nat) (nl : Nat → Nat) (n : Nat) (i c k : Nat) : Nat := if i < 32 ∧ c < n ∧ k < nl c then B * i + nd c k else nd 0 0
def pmX (g : GVT) (B : Nat) (nd : Nat → Nat → Nat) (lit pls : Nat → Int32) (n d : Int) (o : Int32) : PRM := (g, lpX B nd (fun c => (lit c).toInt.toNat) n.toNat, fun c => (lit c).toInt.toNat, fun c k => decide (sgC pls c k = 1), n.toNat, d, decide (bt o 0 = 1), decide (bt o 1 = 1), decide (bt o 2 = 1))
def kfX (V W : VWT) (ml : Nat → Int) (nd nd' : Nat → Nat → Nat) (n : Int) (kf : Nat → Nat → Nat) : Prop := ∀ c : Nat, (c : Int) < n → ∀ k : Nat, (k : Int) < ml c → EQX V W (kf c) 7 (nd c k) (nd' c k) ∧ V.1 (nd c k) = -1
theorem kfX_ex {V W : VWT} {ml : Nat → Int} {nd nd' : Nat → Nat → Nat} {n : Int} (h : EQA V W ml nd nd' n) : ∃ kf : Nat → Nat → Nat, kfX V W ml nd nd' n kf := by
  have h' : ∀ c : Nat, ∃ kf : Nat → Nat, (c : Int) < n → ∀ k : Nat, (k : Int) < ml c → EQX V W kf 7 (nd c k) (nd' c k) ∧ V.1 (nd c k) = -1 := fun c => by
    by_cases w : (c : Int) < n
    · obtain ⟨kf, q⟩ := h c w
      exact ⟨kf, fun _ => q⟩
    · exact ⟨fun _ => 0, fun e => absurd e w⟩
  exact ⟨fun c => Classical.choose (h' c), fun c => Classical.choose_spec (h' c)⟩
def vpX (V W : VWT) (n : Int) (kf : Nat → Nat → Nat) (c s p : Nat) : Prop := s < 32 ∧ (c : Int) < n ∧ QSX V W (kf c) s p
section PM
variable {nam nn : Nat → Int64} {var trm ter nv A B C lit vas pls fst mny vrs isn tem : Nat → Int32} {hz : Nat → Nat} {N n d : Int} {o d9 : Int32}
theorem pmx_mcl {g : GVT} (h0 : 0 ≤ n) (hl : Rg 0 6 lit) : MCL (pmX g 300 (ndC fst) lit pls n d o) fst lit pls n := by
  refine ⟨?_, fun c => ?_, fun i c k hi hc hk => ?_, fun c k hc hk => ?_⟩
  · show ((n.toNat : Nat) : Int) = n
    omega
  · have q := hl c
    show (((lit c).toInt.toNat : Nat) : Int) = (lit c).toInt
    omega
  · show lpX 300 (ndC fst) (fun c => (lit c).toInt.toNat) n.toNat i c k = _
    unfold lpX
    rw [if_pos ⟨hi, by omega, by show k < (lit c).toInt.toNat; omega⟩]
  · show decide (sgC pls c k = 1) = true ↔ _
    exact decide_eq_true_iff
theorem pmx_mop {g : GVT} {nd : Nat → Nat → Nat} {S : Nat} (ho : 0 ≤ o.toInt ∧ o.toInt ≤ 7) : MOP (pmX g S nd lit pls n d9.toInt o) d9 o := by
  have key : ∀ a : Nat, a < 8 → (bt (nI a) 0 = 1 ↔ hasb (nI a) 1 = 1) ∧ (bt (nI a) 1 = 1 ↔ hasb (nI a) 2 = 1) ∧ (bt (nI a) 2 = 1 ↔ hasb (nI a) 4 = 1) := by decide +kernel
  have e : nI o.toInt.toNat = o := nI_nat (by omega) (by omega)
  have q := key o.toInt.toNat (by omega)
  rw [e] at q
  refine ⟨rfl, ?_, ?_, ?_⟩
  · show decide (bt o 0 = 1) = true ↔ _
    exact decide_eq_true_iff.trans q.1
  · show decide (bt o 1 = 1) = true ↔ _
    exact decide_eq_true_iff.trans q.2.1
  · show decide (bt o 2 = 1) = true ↔ _
    exact decide_eq_true_iff.trans q.2.2
theorem pmx_moq {g : GVT} {nd : Nat → Nat → Nat} {S : Nat} : MOQ (pmX g S nd lit pls n d9.toInt o) d9 o := ⟨rfl, decide_eq_true_iff, decide_eq_true_iff, decide_eq_true_iff⟩
theorem pmx_mrw {g : GVT} {V W : VWT} (h0 : 0 ≤ n) (hl : Rg 0 6 lit) (hi : Rg 0 1 isn) (h : TLQ V W (CLW lit vas pls fst) (RLX 0 mny vrs isn tem) n) : MRW (pmX g 8000 (ndC tem) lit pls n d o) mny tem isn n := by
  have e : ∀ c : Nat, (c : Int) < n → (lit c).toInt = (mny c).toInt := fun c hc => by
    have q : mlC mny c = mlC lit c := tlq_ml h c hc
    exact q.symm
  refine ⟨?_, fun c hc => ?_, fun i c k hi hc hk => ?_, fun c k hc hk => ?_⟩
  · show ((n.toNat : Nat) : Int) = n
    omega
  · have q := hl c
    show (((lit c).toInt.toNat : Nat) : Int) = (mny c).toInt
    rw [← e c hc]; omega
  · have q := hl c
    have q2 := e c hc
    show lpX 8000 (ndC tem) (fun c => (lit c).toInt.toNat) n.toNat i c k = _
    unfold lpX
    rw [if_pos ⟨by omega, by omega, by show k < (lit c).toInt.toNat; omega⟩]
  · obtain ⟨c1, c2, c3, c4, kf, c5⟩ := h c hc
    have q2 := e c hc
    have s : (pls c).toInt / (2 : Int) ^ k % 2 = 1 - (isn (6 * (0 + c) + k)).toInt := (c5 k (show (k : Int) < (lit c).toInt by omega)).2.1
    rw [Nat.zero_add] at s
    have s' : sgC pls c k = 1 - (isn (6 * c + k)).toInt := s
    have r := hi (6 * c + k)
    refine ⟨?_, r⟩
    show decide (sgC pls c k = 1) = true ↔ _
    rw [decide_eq_true_iff, s']
    omega
theorem pmx_pmr (h1 : 1 ≤ n) (hv : Rg (-1) 7 var) (ht : Rg 0 299 ter) (hf : Rg 0 299 fst) (hl : Rg 0 6 lit) (hnd : ND 0 N hz A B C) (hN : N ≤ 8000) (h : TLQ (CVW nam var trm ter) (RVW nv nn A B C) (CLW lit vas pls fst) (RLX 0 mny vrs isn tem) n) (htm : TM 0 N hz 0 n mny tem) : ∃ P : Nat → Nat → Prop, PMR P (pmX (CGV (CVW nam var trm ter)) 300 (ndC fst) lit pls n d o) (pmX (RGW nn nv A B C) 8000 (ndC tem) lit pls n d o) := by
  have hb : BIS (8 * 0) (CGV (CVW nam var trm ter)) (RGW nn nv A B C) (PBQ 0 (CVW nam var trm ter) (RVW nv nn A B C) N) := bis_told (s0 := 0) hv ht hnd hN
  have e : ∀ c : Nat, (c : Int) < n → (lit c).toInt = (mny c).toInt := fun c hc => by
    have q : mlC mny c = mlC lit c := tlq_ml h c hc
    exact q.symm
  have key : ∀ c k : Nat, (c : Int) < n → (k : Int) < (lit c).toInt → ndC fst c k < 300 ∧ ((ndC tem c k : Nat) : Int) < N ∧ (∃ kf : Nat → Nat, EQX (CVW nam var trm ter) (RVW nv nn A B C) kf 7 (ndC fst c k) (ndC tem c k)) ∧ (CVW nam var trm ter).1 (ndC fst c k) = -1 := fun c k hc hk => by
    have q2 := e c hc
    have q3 := hl c
    obtain ⟨c1, c2, c3, c4, kf, c5⟩ := h c hc
    have eq : EQX (CVW nam var trm ter) (RVW nv nn A B C) kf 7 (ndC fst c k) (Int32.toNatClampNeg (tem (6 * (0 + c) + k))) := (c5 k hk).1.1
    have vq : (CVW nam var trm ter).1 (ndC fst c k) = -1 := (c5 k hk).1.2.1
    rw [Nat.zero_add] at eq
    have t := htm c k (by omega) hc (by omega) (by omega)
    refine ⟨?_, ?_, ⟨kf, eq⟩, vq⟩
    · show Int32.toNatClampNeg (fst (6 * c + k)) < 300
      have q := hf (6 * c + k)
      rw [clamp_nat (by omega)]; omega
    · show ((Int32.toNatClampNeg (tem (6 * c + k)) : Nat) : Int) < N
      rw [clamp_nat t.1]; omega
  have first : (((0 : Nat) : Int) < n) ∧ (((0 : Nat) : Int) < (lit 0).toInt) := by
    obtain ⟨c1, c2, c3, c4, kf, c5⟩ := h 0 (by omega)
    have c3 : 1 ≤ (lit 0).toInt := c3
    exact ⟨by omega, by omega⟩
  have lit_ : ∀ (s c k : Nat), s < 32 → (c : Int) < n → (k : Int) < (lit c).toInt → PBQ 0 (CVW nam var trm ter) (RVW nv nn A B C) N (300 * s + ndC fst c k) (8000 * s + ndC tem c k) ∧ ¬ 0 ≤ (CGV (CVW nam var trm ter)).1 (300 * s + ndC fst c k) := fun s c k hs hc hk => by
    obtain ⟨a1, a2, ⟨kf, a3⟩, a4⟩ := key c k hc hk
    obtain ⟨g1, _⟩ := cgv_at (V := CVW nam var trm ter) (s := s) a1
    exact ⟨⟨s, _, _, rfl, a1, rfl, a2, Nat.zero_le _, hs, kf, 7, a3⟩, by rw [g1, a4]; decide⟩
  refine ⟨PBQ 0 (CVW nam var trm ter) (RVW nv nn A B C) N, hb, fun i c k => ?_, rfl⟩
  show PBQ 0 _ _ N (lpX 300 (ndC fst) (fun c => (lit c).toInt.toNat) n.toNat i c k) (lpX 8000 (ndC tem) (fun c => (lit c).toInt.toNat) n.toNat i c k) ∧ ¬ 0 ≤ (CGV (CVW nam var trm ter)).1 (lpX 300 (ndC fst) (fun c => (lit c).toInt.toNat) n.toNat i c k)
  unfold lpX
  by_cases w : i < 32 ∧ c < n.toNat ∧ k < (lit c).toInt.toNat
  · rw [if_pos w, if_pos w]
    have q := hl c
    exact lit_ i c k w.1 (by omega) (by omega)
  · rw [if_neg w, if_neg w]
    have q := lit_ 0 0 0 (by decide) first.1 first.2
    simp only [Nat.mul_zero, Nat.zero_add] at q
    exact q
theorem pmx_vpr {W : VWT} {nd' : Nat → Nat → Nat} {kf : Nat → Nat → Nat} (h0 : 0 ≤ n) (hv : Rg (-1) 7 var) (ht : Rg 0 299 ter) (hm : Rg 0 3 trm) (hf : Rg 0 299 fst) (hl : Rg 0 6 lit) (tz : TZG var trm) (hk : kfX (CVW nam var trm ter) W (mlC lit) (ndC fst) nd' n kf) : VPR (pmX (CGV (CVW nam var trm ter)) 300 (ndC fst) lit pls n d o) (vpX (CVW nam var trm ter) W n kf) := by
  have hV : ∀ x k : Nat, (CVW nam var trm ter).2.2.2 x k < 300 := fun x k => by
    show Int32.toNatClampNeg (ter (3 * x + k)) < 300
    have q := ht (3 * x + k)
    rw [clamp_nat (by omega)]; omega
  have vr : ∀ p : Nat, -1 ≤ (CGV (CVW nam var trm ter)).1 p ∧ (CGV (CVW nam var trm ter)).1 p ≤ 7 := fun p => hv (p % 300)
  refine ⟨fun c s p h => ?_, fun c s p k h w hk => ⟨h.1, h.2.1, qsx_kid hV h.2.2 w hk⟩, fun c s p h w => ?_, fun c s p q h h' w w' e => ?_, fun c s p h => ?_, fun s c k hs hc hk9 => ?_⟩
  · obtain ⟨hs, hc, x, d, y, e, hx, hd, h⟩ := h
    subst e
    refine ⟨by omega, hsn_mono d 7 _ hd (qsx_hs hV d s x y hx h), ?_⟩
    exact hm ((300 * s + x) % 300)
  · obtain ⟨hs, hc, h⟩ := h
    have q := (qsx_var h w).2
    have r := vr p
    have w2 : 0 ≤ (CGV (CVW nam var trm ter)).1 p := w
    refine ⟨?_, ?_, ?_, ?_⟩
    · show 8 * s ≤ (CGV (CVW nam var trm ter)).2.1 p
      omega
    · show (CGV (CVW nam var trm ter)).2.1 p < 8 * s + 8
      omega
    · show (CGV (CVW nam var trm ter)).2.1 p < 256
      omega
    · exact tz (p % 300) w2
  · have a1 := qsx_var h.2.2 w
    have a2 := qsx_var h'.2.2 w'
    have r := vr p
    have r' := vr q
    have w2 : 0 ≤ (CGV (CVW nam var trm ter)).1 p := w
    have w3 : 0 ≤ (CGV (CVW nam var trm ter)).1 q := w'
    have e2 : (CGV (CVW nam var trm ter)).2.1 p = (CGV (CVW nam var trm ter)).2.1 q := e
    have ev : (CGV (CVW nam var trm ter)).1 p = (CGV (CVW nam var trm ter)).1 q := by omega
    rw [a1.1, a2.1, ev]
  · obtain ⟨hs, hc, x, d, y, e, hx, hd, h⟩ := h
    omega
  · have hc2 : (c : Int) < n := by
      have hc : c < n.toNat := hc
      omega
    have hk2 : k < (lit c).toInt.toNat := hk9
    have q := hl c
    obtain ⟨a1, a2⟩ := hk c hc2 k (show (k : Int) < (lit c).toInt by omega)
    refine ⟨hs, hc2, ndC fst c k, 7, nd' c k, ?_, ?_, Nat.le_refl _, a1⟩
    · show lpX 300 (ndC fst) (fun c => (lit c).toInt.toNat) n.toNat s c k = _
      unfold lpX
      rw [if_pos ⟨hs, hc, hk2⟩]
    · show Int32.toNatClampNeg (fst (6 * c + k)) < 300
      have q := hf (6 * c + k)
      rw [clamp_nat (by omega)]; omega
end PM
/-! searches one after another, till one doesn't fail -/
def WQT : Type := Nat → PRM × Nat
def NGB (b0 : Nat → Int) : Prop := ∀ t : Nat, t < 256 → b0 t < 0
def SEQ (w : WQT) : Nat → CTT → Prop
  | 0, n => n = ZC
  | k + 1, n => ∃ (n1 : CTT) (b0 : Nat → Int), SEQ w k n1 ∧ NGB b0 ∧ RSN (w k).1 (STc b0 (w k).2 n1) n 0
def SQX (w : WQT) (hi : Int) (nn : CTT) (r : Int) : Prop := (r = -1 ∧ SEQ w hi.toNat nn) ∨ ∃ (k : Nat) (n1 : CTT) (b0 : Nat → Int), (k : Int) < hi ∧ SEQ w k n1 ∧ NGB b0 ∧ ((r = -2 ∧ RSN (w k).1 (STc b0 (w k).2 n1) nn (-2)) ∨ (r = (k : Int) ∧ RSN (w k).1 (STc b0 (w k).2 n1) nn 1))
/-- what deepen() answers, what any() answers -/
def DPX (mf : Int → PRM) (n i d o : Int) (nn : CTT) (r : Int) : Prop := (¬ OKQ n i d o ∧ r = -3) ∨ (OKQ n i d o ∧ SQX (fun k => (mf (k : Int), i.toNat)) (d + 1) nn r)
def OKD (d o : Int) : Prop := 0 ≤ d ∧ d ≤ 20 ∧ 0 ≤ o ∧ o ≤ 7
def ANX (m : PRM) (n d o : Int) (nn : CTT) (r : Int) : Prop := (¬ OKD d o ∧ r = -3) ∨ (OKD d o ∧ SQX (fun k => (m, k)) n nn r)
section SQ
variable {w w' : WQT} {hi : Int} {n n' : CTT} {r r' : Int}
theorem seq_zero : SEQ w 0 ZC := rfl
theorem seq_step {k k' : Nat} {n1 : CTT} {b0 : Nat → Int} (h : SEQ w k n1) (hb : NGB b0) (k0 : RSN (w k).1 (STc b0 (w k).2 n1) n 0) (e : k' = k + 1) : SEQ w k' n := by subst e; exact ⟨n1, b0, h, hb, k0⟩
theorem seq_cast {k k' : Nat} (h : SEQ w k n) (e : k' = k) : SEQ w k' n := by rw [e]; exact h
theorem seq_at : ∀ (K k : Nat) (n : CTT), SEQ w K n → k < K → ∃ (n1 n2 : CTT) (b0 : Nat → Int), SEQ w k n1 ∧ NGB b0 ∧ RSN (w k).1 (STc b0 (w k).2 n1) n2 0 := by
  intro K
  induction K with
  | zero => intro k n _ hk; omega
  | succ K ih =>
    intro k n h hk
    obtain ⟨n1, b0, h1, h2, h3⟩ := h
    by_cases e : k = K
    · subst e; exact ⟨n1, n, b0, h1, h2, h3⟩
    · exact ih k n1 h1 (by omega)
theorem seq_two (hP : ∀ k : Nat, (k : Int) < hi → (∃ P : Nat → Nat → Prop, PMR P (w k).1 (w' k).1) ∧ (w k).2 = (w' k).2) : ∀ (k : Nat) (n n' : CTT), (k : Int) ≤ hi → SEQ w k n → SEQ w' k n' → n = n' := by
  intro k
  induction k with
  | zero => intro n n' _ h h'; exact Eq.trans h (Eq.symm h')
  | succ k ih =>
    intro n n' hk h h'
    obtain ⟨n1, b0, h1, h2, h3⟩ := h
    obtain ⟨n1', b0', h1', h2', h3'⟩ := h'
    have e := ih n1 n1' (by omega) h1 h1'
    subst e
    obtain ⟨⟨P, hp⟩, e2⟩ := hP k (by omega)
    rw [← e2] at h3'
    exact (rsn_two hp h2 h2' h3 h3').2
theorem sqx_two (hP : ∀ k : Nat, (k : Int) < hi → (∃ P : Nat → Nat → Prop, PMR P (w k).1 (w' k).1) ∧ (w k).2 = (w' k).2) (h0 : 0 ≤ hi) (h : SQX w hi n r) (h' : SQX w' hi n' r') : r = r' ∧ n = n' := by
  have at_ : ∀ (k : Nat) (n1 n1' m1 m1' : CTT) (b0 b0' : Nat → Int) (q q' : Int), (k : Int) < hi → SEQ w k n1 → SEQ w' k n1' → NGB b0 → NGB b0' → RSN (w k).1 (STc b0 (w k).2 n1) m1 q → RSN (w' k).1 (STc b0' (w' k).2 n1') m1' q' → q = q' ∧ m1 = m1' := fun k n1 n1' m1 m1' b0 b0' q q' hk s s' g g' x x' => by
    have e := seq_two hP k n1 n1' (by omega) s s'
    subst e
    obtain ⟨⟨P, hp⟩, e2⟩ := hP k hk
    rw [← e2] at x'
    exact rsn_two hp g g' x x'
  rcases h with ⟨e, s⟩ | ⟨k, n1, b0, hk, s, g, x⟩
  · rcases h' with ⟨e', s'⟩ | ⟨k', n1', b0', hk', s', g', x'⟩
    · exact ⟨e.trans e'.symm, seq_two hP hi.toNat n n' (by omega) s s'⟩
    · obtain ⟨a1, a2, c0, a3, a4, a5⟩ := seq_at _ k' _ s (by omega)
      rcases x' with ⟨_, x'⟩ | ⟨_, x'⟩
      · have q := (at_ k' _ _ _ _ _ _ _ _ hk' a3 s' a4 g' a5 x').1; omega
      · have q := (at_ k' _ _ _ _ _ _ _ _ hk' a3 s' a4 g' a5 x').1; omega
  · rcases h' with ⟨e', s'⟩ | ⟨k', n1', b0', hk', s', g', x'⟩
    · obtain ⟨a1, a2, c0, a3, a4, a5⟩ := seq_at _ k _ s' (by omega)
      rcases x with ⟨_, x⟩ | ⟨_, x⟩
      · have q := (at_ k _ _ _ _ _ _ _ _ hk s a3 g a4 x a5).1; omega
      · have q := (at_ k _ _ _ _ _ _ _ _ hk s a3 g a4 x a5).1; omega
    · by_cases w1 : k < k'
      · obtain ⟨a1, a2, c0, a3, a4, a5⟩ := seq_at _ k _ s' w1
        rcases x with ⟨_, x⟩ | ⟨_, x⟩
        · have q := (at_ k _ _ _ _ _ _ _ _ hk s a3 g a4 x a5).1; omega
        · have q := (at_ k _ _ _ _ _ _ _ _ hk s a3 g a4 x a5).1; omega
      · by_cases w2 : k' < k
        · obtain ⟨a1, a2, c0, a3, a4, a5⟩ := seq_at _ k' _ s w2
          rcases x' with ⟨_, x'⟩ | ⟨_, x'⟩
          · have q := (at_ k' _ _ _ _ _ _ _ _ hk' a3 s' a4 g' a5 x').1; omega
          · have q := (at_ k' _ _ _ _ _ _ _ _ hk' a3 s' a4 g' a5 x').1; omega
        · have e : k = k' := by omega
          subst e
          rcases x with ⟨e1, x⟩ | ⟨e1, x⟩
          · rcases x' with ⟨e2, x'⟩ | ⟨e2, x'⟩
            · exact ⟨by omega, (at_ k _ _ _ _ _ _ _ _ hk s s' g g' x x').2⟩
            · have q := (at_ k _ _ _ _ _ _ _ _ hk s s' g g' x x').1; omega
          · rcases x' with ⟨e2, x'⟩ | ⟨e2, x'⟩
            · have q := (at_ k _ _ _ _ _ _ _ _ hk s s' g g' x x').1; omega
            · exact ⟨by omega, (at_ k _ _ _ _ _ _ _ _ hk s s' g g' x x').2⟩
theorem dpx_two {mf mf' : Int → PRM} {c i d o i' d' o' c' : Int} (hP : OKQ c i d o → ∀ k : Nat, ∃ P : Nat → Nat → Prop, PMR P (mf (k : Int)) (mf' (k : Int))) (h : DPX mf c i d o n r) (h' : DPX mf' c' i' d' o' n' r') (ec : c' = c) (ei : i' = i) (ed : d' = d) (eo : o' = o) : r = r' := by
  subst ec; subst ei; subst ed; subst eo
  rcases h with ⟨a, e⟩ | ⟨a, h⟩
  · rcases h' with ⟨_, e'⟩ | ⟨a', _⟩
    · rw [e, e']
    · exact absurd a' a
  · rcases h' with ⟨a', _⟩ | ⟨_, h'⟩
    · exact absurd a a'
    · exact (sqx_two (w := fun k => (mf (k : Int), i'.toNat)) (w' := fun k => (mf' (k : Int), i'.toNat)) (fun k _ => ⟨hP a k, rfl⟩) (by have q := a.2.2.1; omega) h h').1
theorem anx_two {m m' : PRM} {c d o d' o' c' : Int} (hP : 1 ≤ c → ∃ P : Nat → Nat → Prop, PMR P m m') (h0 : 0 ≤ c) (h : ANX m c d o n r) (h' : ANX m' c' d' o' n' r') (ec : c' = c) (ed : d' = d) (eo : o' = o) : r = r' := by
  subst ec; subst ed; subst eo
  rcases h with ⟨a, e⟩ | ⟨a, h⟩
  · rcases h' with ⟨_, e'⟩ | ⟨a', _⟩
    · rw [e, e']
    · exact absurd a' a
  · rcases h' with ⟨a', _⟩ | ⟨_, h'⟩
    · exact absurd a a'
    · exact (sqx_two (w := fun k => (m, k)) (w' := fun k => (m', k)) (fun k hk => ⟨hP (by omega), rfl⟩) h0 h h').1
end SQ
/-! the longest path told never gets less -/
def CTo (c : CFT) : CTT := c.2.2.2.2.1
section MP
variable {m : PRM}
theorem mp_way {t : CHT} {K : List CHT} {n : CTT} {d : CFT} (k : WAY m t K n d) : n.2.1 ≤ (CTo d).2.1 := by
  obtain ⟨r, kd, bi, bl, lt, lk, cd, fx, b0, n0, c0⟩ := t
  cases r with
  | nil => exact False.elim k
  | cons f fs =>
    rcases k with ⟨_, r, _, k⟩ | ⟨_, k⟩
    · rcases k with ⟨_, k⟩ | ⟨x, _, k⟩
      · subst k; exact Int.le_refl _
      · subst k; exact Int.le_refl _
    · cases lk with
      | cons x xs =>
        rcases k with ⟨_, k⟩ | ⟨_, k⟩
        · rcases k with ⟨_, k⟩ | ⟨_, k⟩
          · have k : d = _ := k
            subst k; exact Int.le_refl _
          · obtain ⟨r, b1, _, k⟩ := k
            rcases k with ⟨_, k⟩ | ⟨_, k⟩
            · subst k; exact Int.le_refl _
            · subst k; exact Int.le_refl _
        · have k : d = _ := k
          subst k; exact Int.le_refl _
      | nil =>
        rcases k with ⟨_, k⟩ | ⟨_, k⟩
        · rcases k with ⟨_, k⟩ | ⟨_, k⟩
          · rcases k with ⟨_, k⟩ | ⟨_, k⟩
            · have k : d = _ := k
              subst k; exact Int.le_refl _
            · rcases k with ⟨_, k⟩ | ⟨_, k⟩
              · obtain ⟨r, b1, _, k⟩ := k
                rcases k with ⟨_, k⟩ | ⟨_, k⟩
                · subst k
                  show n.2.1 ≤ max n.2.1 ((f.2.2.2.1.length : Int) + 1)
                  omega
                · subst k; exact Int.le_refl _
              · have k : d = _ := k
                subst k; exact Int.le_refl _
          · have k : d = _ := k
            subst k; exact Int.le_refl _
        · have k : d = _ := k
          subst k; exact Int.le_refl _
theorem mp_st {c d : CFT} (k : MST m c d) : (CTo c).2.1 ≤ (CTo d).2.1 := by
  obtain ⟨md, fs, K, s, n, r⟩ := c
  match md with
  | 0 =>
    cases fs with
    | nil =>
      have k : d = _ := k
      subst k; exact Int.le_refl _
    | cons f fs =>
      rcases k with ⟨_, k⟩ | ⟨_, k⟩
      · have k : d = _ := k
        subst k; exact Int.le_refl _
      · rcases k with ⟨_, k⟩ | ⟨_, k⟩
        · have k : d = _ := k
          subst k; exact Int.le_refl _
        · rcases k with ⟨_, k⟩ | ⟨_, k⟩
          · have k : d = _ := k
            subst k; exact Int.le_refl _
          · have k : d = _ := k
            subst k; exact Int.le_refl _
  | 1 =>
    cases K with
    | nil =>
      have k : d = _ := k
      subst k; exact Int.le_refl _
    | cons t K =>
      rcases k with ⟨_, k⟩ | ⟨_, k⟩
      · have k : d = _ := k
        subst k; exact Int.le_refl _
      · exact mp_way k
  | _ + 2 => exact False.elim k
theorem mp_run {c d : CFT} (k : RUN m c d) : (CTo c).2.1 ≤ (CTo d).2.1 := by
  obtain ⟨n, k⟩ := k
  induction n generalizing c with
  | zero => have q : c = d := k; subst q; exact Int.le_refl _
  | succ n ih =>
    obtain ⟨e, k1, k2⟩ := k
    have := ih k2
    have := mp_st k1
    omega
theorem rsn_mp {b0 : Nat → Int} {st : Nat} {n1 n : CTT} {r : Int} (h : RSN m (STc b0 st n1) n r) (h0 : 0 ≤ n1.2.1) : 0 ≤ n.2.1 := by
  obtain ⟨K, s, h⟩ := h
  have q : n1.2.1 ≤ n.2.1 := mp_run h
  omega
theorem rsn_pvx {c0 : CFT} {la ra : Nat → Nat} {lf : Nat → LT} {rf : Nat → RT} {sf : Nat → ST} {bnd trl cof : Nat → Int32} {T I R L S r p : Int} {n : CTT} (h : (r = 1 ∧ p = 1 ∧ DNX m c0 la lf ra rf sf bnd trl cof T I R L S n) ∨ (r = 0 ∧ p = 0 ∧ RUN m c0 (DNc 0 [] zB n)) ∨ (r = -2 ∧ p = 0 ∧ RUN m c0 (DNc (-2) [] zB n))) : RSN m c0 n r := by
  rcases h with ⟨e, _, K, s, h, _⟩ | ⟨e, _, h⟩ | ⟨e, _, h⟩
  · subst e; exact ⟨K, s, h⟩
  · subst e; exact ⟨_, _, h⟩
  · subst e; exact ⟨_, _, h⟩
end MP
section SG
variable {w : WQT} {L hi r q : Int} {n1 nn : CTT} {b0 : Nat → Int} {m : PRM} {st : Nat}
theorem sqx_stop (h0 : 0 ≤ L) (hk : L < hi) (s : SEQ w L.toNat n1) (g : NGB b0) (x : RSN m (STc b0 st n1) nn q) (hm : m = (w L.toNat).1) (hs : st = (w L.toNat).2) (e : (q = -2 ∧ r = -2) ∨ (q = 1 ∧ r = L)) : SQX w hi nn r := by
  subst hm; subst hs
  refine Or.inr ⟨L.toNat, n1, b0, by omega, s, g, ?_⟩
  rcases e with ⟨e1, e2⟩ | ⟨e1, e2⟩
  · subst e1; exact Or.inl ⟨e2, x⟩
  · subst e1; exact Or.inr ⟨by omega, x⟩
theorem seq_go (s : SEQ w L.toNat n1) (g : NGB b0) (x : RSN m (STc b0 st n1) nn q) (hm : m = (w L.toNat).1) (hs : st = (w L.toNat).2) (e : q = 0) : SEQ w (L.toNat + 1) nn := by
  subst hm; subst hs; subst e
  exact ⟨n1, b0, s, g, x⟩
theorem sqx_end (s : SEQ w L.toNat nn) (e : L = hi) (er : r = -1) : SQX w hi nn r := Or.inl ⟨er, by rw [← e]; exact s⟩
theorem rsn_r {bto bin cof sts : Nat → Int32} {I S : Int} {c0 : CFT} (h : SRW m c0 bto bin cof sts I S nn r) : r = 1 ∨ r = 0 ∨ r = -2 := by
  rcases h with ⟨e, _⟩ | ⟨e, _⟩ | ⟨e, _⟩
  · exact Or.inl e
  · exact Or.inr (Or.inl e)
  · exact Or.inr (Or.inr e)
end SG
theorem moq_cast {m : PRM} {d o d' o' : Int32} (h : MOQ m d o) (ed : d'.toInt = d.toInt) (eo : o'.toInt = o.toInt) : MOQ m d' o' := by
  have e1 : d' = d := Int32.toInt_inj.mp ed
  have e2 : o' = o := Int32.toInt_inj.mp eo
  rw [e1, e2]; exact h
theorem mrw_cast {m : PRM} {a b c : Nat → Int32} {n n' : Int} (h : MRW m a b c n) (e : n' = n) : MRW m a b c n' := by rw [e]; exact h
