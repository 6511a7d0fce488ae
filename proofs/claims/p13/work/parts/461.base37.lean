/-! meets() as a function of the literals told: both sides answer by it -/
def NEG (b : Nat → Int) : Prop := ∀ t : Nat, 240 ≤ t → t < 256 → b t < 0
def MEO (g : GVT) (b : Nat → Int) (P Q : Nat) (o r : Int) : Prop := (o = 0 ∧ r = 0) ∨ (¬ o = 0 ∧ ((r = 1 ∧ ∃ x : Nat → Int, OUT g b [(P, Q)] true x) ∨ (r = 0 ∧ ∃ x : Nat → Int, OUT g b [(P, Q)] false x)))
abbrev MFT : Type := Nat → Nat → Nat → Nat → Int
def MFN (g : GVT) (ml : Nat → Int) (nd : Nat → Nat → Nat) (sg : Nat → Nat → Int) (s1 s2 : Nat) (n : Int) (mf : MFT) : Prop := ∀ b : Nat → Int, NEG b → ∀ (c k d m : Nat) (r : Int), (c : Int) < n → (k : Int) < ml c → (d : Int) < n → (m : Int) < ml d → MEO g b (s1 + nd c k) (s2 + nd d m) (sg c k - sg d m) r → r = mf c k d m
def EQA (V W : VWT) (ml : Nat → Int) (nd nd' : Nat → Nat → Nat) (n : Int) : Prop := ∀ c : Nat, (c : Int) < n → ∃ kf : Nat → Nat, ∀ k : Nat, (k : Int) < ml c → EQX V W kf 7 (nd c k) (nd' c k) ∧ V.1 (nd c k) = -1
def mlC (f : Nat → Int32) : Nat → Int := fun c => (f c).toInt
def ndC (f : Nat → Int32) : Nat → Nat → Nat := fun c k => Int32.toNatClampNeg (f (6 * c + k))
def sgC (f : Nat → Int32) : Nat → Nat → Int := fun c k => (f c).toInt / (2 : Int) ^ k % 2
def sgR (f : Nat → Int32) : Nat → Nat → Int := fun c k => 1 - (f (6 * c + k)).toInt
def OPP (o : Int) (e : Prop) (r : Int) : Prop := (r = 1 ∧ ¬ o = 0 ∧ e) ∨ (r = 0 ∧ (o = 0 ∨ ¬ e))
section MT
variable {L : Nat} {g g' : GVT} {P : Nat → Nat → Prop} {b b' : Nat → Int}
theorem bis_self (h : BIS L g g' P) : BIS L g' g' (fun a c => ∃ p : Nat, P p a ∧ P p c) := by
  refine ⟨fun a c hac => ?_, fun a c x y h1 h2 na nx => ?_⟩
  · obtain ⟨p, pa, pc⟩ := hac
    obtain ⟨a1, a2, a3⟩ := h.1 p a pa
    obtain ⟨c1, c2, c3⟩ := h.1 p c pc
    refine ⟨a1.symm.trans c1, fun w => ?_, fun w => ?_⟩
    · have v := a1.mpr w
      obtain ⟨e1, e2⟩ := a2 v
      obtain ⟨d1, _⟩ := c2 v
      refine ⟨by rw [← e1, d1], by rw [← e1]; exact e2⟩
    · have v : ¬ 0 ≤ g.1 p := fun q => w (a1.mp q)
      obtain ⟨e1, e2⟩ := a3 v
      obtain ⟨d1, d2⟩ := c3 v
      exact ⟨by rw [← e1, d1], fun k hk => ⟨g.2.2.2.2 p k, e2 k (by rw [e1]; exact hk), d2 k (by rw [e1]; exact hk)⟩⟩
  · obtain ⟨p, pa, pc⟩ := h1
    obtain ⟨q, qx, qy⟩ := h2
    have v : ¬ 0 ≤ g.1 p := fun w => na ((h.1 p a pa).1.mp w)
    have u : ¬ 0 ≤ g.1 q := fun w => nx ((h.1 q x qx).1.mp w)
    exact (h.2 p a q x pa qx v u).symm.trans (h.2 p c q y pc qy v u)
theorem bdq_neg (h : NEG b) (h' : NEG b') : BDQ 240 b b' P := fun t ht => ⟨⟨fun w => absurd w (by have := h t ht.1 ht.2; omega), fun w => absurd w (by have := h' t ht.1 ht.2; omega)⟩, fun w => absurd w (by have := h t ht.1 ht.2; omega)⟩
theorem meo_rng {p q : Nat} {o r : Int} (h : MEO g b p q o r) : r = 0 ∨ r = 1 := by
  rcases h with ⟨_, e⟩ | ⟨_, ⟨e, _⟩ | ⟨e, _⟩⟩
  · exact Or.inl e
  · exact Or.inr e
  · exact Or.inl e
theorem meo_two {p q p' q' : Nat} {o o' r r' : Int} (h : BIS 240 g g' P) (n : NEG b) (n' : NEG b') (hp : P p p') (hq : P q q') (ho : o = o') (k : MEO g b p q o r) (k' : MEO g' b' p' q' o' r') : r = r' := by
  rcases k with ⟨k1, k2⟩ | ⟨k1, k2⟩
  · rcases k' with ⟨_, l2⟩ | ⟨l1, _⟩
    · rw [k2, l2]
    · exact absurd (ho.symm.trans k1) l1
  · rcases k' with ⟨l1, _⟩ | ⟨_, l2⟩
    · exact absurd (ho.trans l1) k1
    · rcases k2 with ⟨k3, x, k4⟩ | ⟨k3, x, k4⟩
      · rcases l2 with ⟨l3, y, l4⟩ | ⟨l3, y, l4⟩
        · rw [k3, l3]
        · exact absurd (bis_out h (bdq_neg n n') hp hq k4 l4).1 (by decide)
      · rcases l2 with ⟨l3, y, l4⟩ | ⟨l3, y, l4⟩
        · exact absurd (bis_out h (bdq_neg n n') hp hq k4 l4).1 (by decide)
        · rw [k3, l3]
theorem mfn_ex {ml ml' : Nat → Int} {nd nd' : Nat → Nat → Nat} {sg sg' : Nat → Nat → Int} {s1 s2 s1' s2' : Nat} {n : Int} (h : BIS 240 g g' P) (hp : ∀ c k : Nat, (c : Int) < n → (k : Int) < ml c → P (s1 + nd c k) (s1' + nd' c k) ∧ P (s2 + nd c k) (s2' + nd' c k)) (hm : ∀ c : Nat, (c : Int) < n → ml' c = ml c) (hs : ∀ c k : Nat, (c : Int) < n → (k : Int) < ml c → sg' c k = sg c k) : ∃ mf : MFT, (∀ c k d m : Nat, mf c k d m = 0 ∨ mf c k d m = 1) ∧ MFN g ml nd sg s1 s2 n mf ∧ MFN g' ml' nd' sg' s1' s2' n mf := by
  refine ⟨fun c k d m => @ite Int (∃ b : Nat → Int, NEG b ∧ (MEO g b (s1 + nd c k) (s2 + nd d m) (sg c k - sg d m) 1 ∨ MEO g' b (s1' + nd' c k) (s2' + nd' d m) (sg' c k - sg' d m) 1)) (Classical.propDecidable _) 1 0, fun c k d m => ?_, fun b hb c k d m r hc hk hd hj hr => ?_, fun b hb c k d m r hc hk hd hj hr => ?_⟩
  · by_cases w : ∃ b : Nat → Int, NEG b ∧ (MEO g b (s1 + nd c k) (s2 + nd d m) (sg c k - sg d m) 1 ∨ MEO g' b (s1' + nd' c k) (s2' + nd' d m) (sg' c k - sg' d m) 1)
    · exact Or.inr (if_pos w)
    · exact Or.inl (if_neg w)
  · have p1 := (hp c k hc hk).1
    have p2 := (hp d m hd hj).2
    have ho : sg c k - sg d m = sg' c k - sg' d m := by rw [hs c k hc hk, hs d m hd hj]
    rcases meo_rng hr with e | e
    · subst e
      refine (if_neg ?_).symm
      rintro ⟨b', hb', w | w⟩
      · exact absurd (meo_two (bis_self (bis_flip h)) hb hb' ⟨_, p1, p1⟩ ⟨_, p2, p2⟩ rfl hr w) (by decide)
      · exact absurd (meo_two h hb hb' p1 p2 ho hr w) (by decide)
    · subst e
      exact (if_pos ⟨b, hb, Or.inl hr⟩).symm
  · rw [hm c hc] at hk
    rw [hm d hd] at hj
    have p1 := (hp c k hc hk).1
    have p2 := (hp d m hd hj).2
    have ho : sg c k - sg d m = sg' c k - sg' d m := by rw [hs c k hc hk, hs d m hd hj]
    rcases meo_rng hr with e | e
    · subst e
      refine (if_neg ?_).symm
      rintro ⟨b', hb', w | w⟩
      · exact absurd (meo_two h hb' hb p1 p2 ho w hr) (by decide)
      · exact absurd (meo_two (bis_self h) hb hb' ⟨_, p1, p1⟩ ⟨_, p2, p2⟩ rfl hr w) (by decide)
    · subst e
      exact (if_pos ⟨b, hb, Or.inr hr⟩).symm
theorem meo_oux {b1 : Nat → Int} {S : Nat → Prop} {p q : Nat} {o r : Int} (ho : ¬ o = 0) (h : OUX g b b1 S p q r) : MEO g b p q o r := Or.inr ⟨ho, h.elim (fun h => Or.inl ⟨h.1, _, h.2.1⟩) (fun h => Or.inr ⟨h.1, b, h.2 b⟩)⟩
theorem meo_unx {b1 : Nat → Int} {p q : Nat} {o r : Int} (ho : ¬ o = 0) (h : UNX g b b1 p q r) : MEO g b p q o r := Or.inr ⟨ho, (unx_out h).elim (fun h => Or.inl ⟨h.1, _, h.2⟩) (fun h => Or.inr ⟨h.1, b, h.2 b⟩)⟩
theorem meo_opp {V : VWT} {x y : Nat} {o r r' : Int} (h : OPP o (V.2.1 x = V.2.1 y ∧ V.2.2.1 x = V.2.2.1 y) r') (h0 : r' = 0) (vx : V.1 x = -1) (vy : V.1 y = -1) (hx : x < 300) (hy : y < 300) (hr : r = 0) : MEO (CGV V) b (9000 + x) (9300 + y) o r := by
  obtain ⟨g1, _, g3, g4, _⟩ := cgv_at (V := V) (s := 30) hx
  obtain ⟨k1, _, k3, k4, _⟩ := cgv_at (V := V) (s := 31) hy
  rw [show 300 * 30 + x = 9000 + x by omega] at g1 g3 g4
  rw [show 300 * 31 + y = 9300 + y by omega] at k1 k3 k4
  have n1 : ¬ 0 ≤ (CGV V).1 (9000 + x) := by rw [g1, vx]; decide
  have n2 : ¬ 0 ≤ (CGV V).1 (9300 + y) := by rw [k1, vy]; decide
  rcases h with ⟨e, _⟩ | ⟨_, e⟩
  · omega
  · by_cases w : o = 0
    · exact Or.inl ⟨w, hr⟩
    · have q := e.resolve_left w
      exact Or.inr ⟨w, Or.inr ⟨hr, b, out_name (bre_ter (fun z => n1 z.1)) (bre_ter (fun z => n2 z.1)) n1 n2 (by rw [g3, g4, k3, k4]; exact q)⟩⟩
theorem opp_yes {o r : Int} {e : Prop} (h : OPP o e r) (hr : ¬ r = 0) : ¬ o = 0 := by
  rcases h with ⟨_, w, _⟩ | ⟨w, _⟩
  · exact w
  · exact absurd w hr
theorem cgv_gvv {nam : Nat → Int64} {var trm ter : Nat → Int32} : GVV (CGV (CVW nam var trm ter)) var := fun _ _ => ⟨rfl, rfl⟩
theorem cgv_gvk {nam : Nat → Int64} {var trm ter : Nat → Int32} : GVK (CGV (CVW nam var trm ter)) trm ter := fun _ _ => ⟨rfl, fun _ _ => rfl⟩
theorem cgv_gvm {nam : Nat → Int64} {var trm ter : Nat → Int32} : GVM (CGV (CVW nam var trm ter)) nam := fun _ _ => rfl
theorem neg_bhz {bnd : Nat → Int32} (h : BHZ bnd) : NEG (BDV bnd) := fun t ht _ => by
  have q := h t ht
  unfold BDV; omega
theorem neg_fre {bto bin : Nat → Int32} (h : FRE bto) : NEG (BDW bto bin) := fun t ht hu => by
  have q := h t ht hu
  unfold BDW
  rw [if_pos q]; decide
theorem ext_non {b : Nat → Int} : EXT (fun _ => -1) b := fun t ht => absurd ht (show ¬ (0 : Int) ≤ -1 by decide)
theorem meet_at {nam : Nat → Int64} {var trm ter bnd fst : Nat → Int32} {W : VWT} {ml : Nat → Int} {nd' : Nat → Nat → Nat} {n : Int} {c k d m : Nat} (he : EQA (CVW nam var trm ter) W ml (ndC fst) nd' n) (hc : (c : Int) < n) (hk : (k : Int) < ml c) (hd : (d : Int) < n) (hj : (m : Int) < ml d) (hv : Rg (-1) 7 var) (ht : Rg 0 299 ter) (hm : Rg 0 3 trm) (hf : Rg 0 299 fst) (hb : BHZ bnd) : ∃ (S : Nat → Prop) (VL SL : List Nat), BST (CGV (CVW nam var trm ter)) (fun _ => -1) S SL VL ∧ CLD (CGV (CVW nam var trm ter)) (BDV bnd) S ∧ FIN (CGV (CVW nam var trm ter)) (BDV bnd) S ∧ S (9000 + ndC fst c k) ∧ S (9300 + ndC fst d m) := by
  obtain ⟨k1, h1⟩ := he c hc
  obtain ⟨k2, h2⟩ := he d hd
  obtain ⟨q1, q2, q3⟩ := meet_set (nam := nam) (W := W) (k1 := k1) (k2 := k2) hv ht hm hb
  have r : ∀ c k : Nat, ndC fst c k < 300 := fun c k => by
    show Int32.toNatClampNeg (fst (6 * c + k)) < 300
    have q := hf (6 * c + k)
    rw [clamp_nat (by omega)]; omega
  exact ⟨_, _, _, q1, q2, q3, Or.inl ⟨_, 7, _, rfl, r c k, Nat.le_refl _, (h1 k hk).1⟩, Or.inr ⟨_, 7, _, rfl, r d m, Nat.le_refl _, (h2 m hj).1⟩⟩
theorem law_mf {nam nn : Nat → Int64} {var trm ter nv A B C lit vas pls fst mny vrs isn tem : Nat → Int32} {hz : Nat → Nat} {N n : Int} (hv : Rg (-1) 7 var) (ht : Rg 0 299 ter) (hf : Rg 0 299 fst) (hnd : ND 0 N hz A B C) (hN : N ≤ 8000) (h : TLQ (CVW nam var trm ter) (RVW nv nn A B C) (CLW lit vas pls fst) (RLX 0 mny vrs isn tem) n) (htm : TM 0 N hz 0 n mny tem) : ∃ mf : MFT, (∀ c k d m : Nat, mf c k d m = 0 ∨ mf c k d m = 1) ∧ MFN (CGV (CVW nam var trm ter)) (mlC lit) (ndC fst) (sgC pls) 9000 9300 n mf ∧ MFN (RGW nn nv A B C) (mlC mny) (ndC tem) (sgR isn) 240000 248000 n mf := by
  have hb : BIS 240 (CGV (CVW nam var trm ter)) (RGW nn nv A B C) (PBQ 30 (CVW nam var trm ter) (RVW nv nn A B C) N) := bis_told (s0 := 30) hv ht hnd hN
  have z : ∀ (f : Nat → Int32) (c : Nat), f (0 + c) = f c := fun f c => by rw [Nat.zero_add]
  refine mfn_ex hb (fun c k hc hk => ?_) (fun c hc => ?_) (fun c k hc hk => ?_)
  · obtain ⟨c1, c2, c3, c4, kf, c5⟩ := h c hc
    have e : (lit c).toInt = (mny (0 + c)).toInt := c1
    have l6 : (lit c).toInt ≤ 6 := c4
    have hk' : (k : Int) < (lit c).toInt := hk
    rw [z mny c] at e
    have eq : EQX (CVW nam var trm ter) (RVW nv nn A B C) kf 7 (ndC fst c k) (Int32.toNatClampNeg (tem (6 * (0 + c) + k))) := (c5 k hk).1.1
    rw [Nat.zero_add] at eq
    have hx : ndC fst c k < 300 := by
      show Int32.toNatClampNeg (fst (6 * c + k)) < 300
      have q := hf (6 * c + k)
      rw [clamp_nat (by omega)]; omega
    have t := htm c k (by omega) hc (by omega) (by omega)
    have hy : ((ndC tem c k : Nat) : Int) < N := by
      show ((Int32.toNatClampNeg (tem (6 * c + k)) : Nat) : Int) < N
      rw [clamp_nat t.1]; omega
    exact ⟨⟨30, _, _, rfl, hx, rfl, hy, Nat.le_refl _, by decide, kf, 7, eq⟩, ⟨31, _, _, rfl, hx, rfl, hy, by decide, by decide, kf, 7, eq⟩⟩
  · obtain ⟨c1, _⟩ := h c hc
    have e : (lit c).toInt = (mny (0 + c)).toInt := c1
    rw [z mny c] at e
    exact e.symm
  · obtain ⟨c1, c2, c3, c4, kf, c5⟩ := h c hc
    have e : (pls c).toInt / (2 : Int) ^ k % 2 = 1 - (isn (6 * (0 + c) + k)).toInt := (c5 k hk).2.1
    rw [Nat.zero_add] at e
    exact e.symm
theorem eqa_tlq {V W : VWT} {lit vas pls fst mny vrs isn tem : Nat → Int32} {n : Int} (h : TLQ V W (CLW lit vas pls fst) (RLX 0 mny vrs isn tem) n) : EQA V W (mlC lit) (ndC fst) (fun c k => Int32.toNatClampNeg (tem (6 * (0 + c) + k))) n := fun c hc => by
  obtain ⟨c1, c2, c3, c4, kf, c5⟩ := h c hc
  exact ⟨kf, fun k hk => ⟨(c5 k hk).1.1, (c5 k hk).1.2.1⟩⟩
/-! the trail behind a unification aside -/
theorem btr_gri {Lo Hi T T' : Int} {bnd trl bnd' trl' : Nat → Int32} (h : BTR T trl bnd) (gr : GRI Lo Hi T T' bnd trl bnd' trl') (hr : Rg 0 255 trl') : BTR T' trl' bnd' := fun c hc hz => by
  obtain ⟨g1, g2, g3, g4, g5⟩ := gr
  rcases g5 c hz with e | ⟨i, i1, i2, i3⟩
  · rw [e] at hz
    obtain ⟨i, i1, i2⟩ := h c hc hz
    exact ⟨i, by omega, by rw [g4 i i1]; exact i2⟩
  · exact ⟨i, i2, by rw [← i3, clamp_nat (hr i).1]⟩
theorem gri_16 {T T' : Int} {bnd trl bnd' trl' : Nat → Int32} (h : BTR T trl bnd) (gr : GRI 30 32 T T' bnd trl bnd' trl') (hc : TRC T' trl' bnd') (hr : Rg 0 255 trl') (h0 : 0 ≤ T) : T' ≤ T + 16 := by
  obtain ⟨g1, g2, g3, g4, g5⟩ := gr
  have k := inj_le (T' - T).toNat (fun i => (trl' (T.toNat + i)).toInt.toNat) ((List.range 16).map (fun i => 240 + i)) (fun i hi => by
    have r := hr (T.toNat + i)
    have w : 240 ≤ (trl' (T.toNat + i)).toInt.toNat := by
      by_cases w : 240 ≤ (trl' (T.toNat + i)).toInt.toNat
      · exact w
      · have z := hc.2 (T.toNat + i) (by omega)
        rw [g2 _ (by omega)] at z
        obtain ⟨j, j1, j2⟩ := h _ (by omega) z
        have rj := hr j
        have e := hc.1 j (T.toNat + i) (by omega) (by omega) (by rw [← g4 j j1] at j2; omega)
        omega
    exact List.mem_map.mpr ⟨(trl' (T.toNat + i)).toInt.toNat - 240, List.mem_range.mpr (by omega), by omega⟩) (fun i j a d e => by
    have r1 := hr (T.toNat + i)
    have r2 := hr (T.toNat + j)
    have e2 : (trl' (T.toNat + i)).toInt.toNat = (trl' (T.toNat + j)).toInt.toNat := e
    have q := hc.1 (T.toNat + i) (T.toNat + j) (by omega) (by omega) (by omega)
    omega)
  rw [List.length_map, List.length_range] at k
  omega
end MT
/-! what meets() answers -/
def MTV (ml : Nat → Int) (n : Int) (mf : MFT) (c k d m r : Int) : Prop := ((0 ≤ c ∧ c < n ∧ 0 ≤ k ∧ k < ml c.toNat ∧ 0 ≤ d ∧ d < n ∧ 0 ≤ m ∧ m < ml d.toNat) ∧ r = mf c.toNat k.toNat d.toNat m.toNat) ∨ (¬ (0 ≤ c ∧ c < n ∧ 0 ≤ k ∧ k < ml c.toNat ∧ 0 ≤ d ∧ d < n ∧ 0 ≤ m ∧ m < ml d.toNat) ∧ r = -1)
theorem mtv_two {ml ml' : Nat → Int} {n n' : Int} {mf : MFT} {c k d m r r' : Int} (h : MTV ml n mf c k d m r) (h' : MTV ml' n' mf c k d m r') (hn : n' = n) (hl : ∀ c : Nat, (c : Int) < n → ml' c = ml c) : r = r' := by
  subst hn
  have key : (0 ≤ c ∧ c < n' ∧ 0 ≤ k ∧ k < ml c.toNat ∧ 0 ≤ d ∧ d < n' ∧ 0 ≤ m ∧ m < ml d.toNat) ↔ (0 ≤ c ∧ c < n' ∧ 0 ≤ k ∧ k < ml' c.toNat ∧ 0 ≤ d ∧ d < n' ∧ 0 ≤ m ∧ m < ml' d.toNat) := by
    constructor
    · rintro ⟨a1, a2, a3, a4, a5, a6, a7, a8⟩
      exact ⟨a1, a2, a3, by rw [hl _ (by omega)]; exact a4, a5, a6, a7, by rw [hl _ (by omega)]; exact a8⟩
    · rintro ⟨a1, a2, a3, a4, a5, a6, a7, a8⟩
      exact ⟨a1, a2, a3, by rw [← hl _ (by omega)]; exact a4, a5, a6, a7, by rw [← hl _ (by omega)]; exact a8⟩
  rcases h with ⟨a, e⟩ | ⟨a, e⟩
  · rcases h' with ⟨_, f⟩ | ⟨w, _⟩
    · rw [e, f]
    · exact absurd (key.mp a) w
  · rcases h' with ⟨w, _⟩ | ⟨_, f⟩
    · exact absurd (key.mpr w) a
    · rw [e, f]
theorem mtv_cast {ml : Nat → Int} {n : Int} {mf : MFT} {c k d m r c' k' d' m' : Int} (h : MTV ml n mf c k d m r) (e1 : c' = c) (e2 : k' = k) (e3 : d' = d) (e4 : m' = m) : MTV ml n mf c' k' d' m' r := by subst e1; subst e2; subst e3; subst e4; exact h
theorem mfn_cast {g : GVT} {ml : Nat → Int} {nd : Nat → Nat → Nat} {sg : Nat → Nat → Int} {s1 s2 : Nat} {n n' : Int} {mf : MFT} (h : MFN g ml nd sg s1 s2 n mf) (e : n' = n) : MFN g ml nd sg s1 s2 n' mf := by subst e; exact h
theorem tlq_ml {V W : VWT} {lit vas pls fst mny vrs isn tem : Nat → Int32} {n : Int} (h : TLQ V W (CLW lit vas pls fst) (RLX 0 mny vrs isn tem) n) : ∀ c : Nat, (c : Int) < n → mlC mny c = mlC lit c := fun c hc => by
  obtain ⟨c1, _⟩ := h c hc
  have e : (lit c).toInt = (mny (0 + c)).toInt := c1
  rw [Nat.zero_add] at e
  exact e.symm
theorem trc_nil {T : Int} {trl bnd : Nat → Int32} (h : T ≤ 0) : TRC T trl bnd := ⟨fun i j hi => absurd hi (by omega), fun i hi => absurd hi (by omega)⟩
theorem btr_z {T : Int} {trl : Nat → Int32} : BTR T trl (fun _ => 0) := fun c _ hz => absurd (show (0 : Int32).toInt = 0 by decide) hz
theorem szr_z : ∀ p : Nat, p < 9600 → (((fun _ => 0) : Nat → Int32) p).toInt = 0 := fun _ _ => (by decide : (0 : Int32).toInt = 0)
theorem sfr_z : SFR (fun _ => 0) 0 := fun _ _ => Int.le_refl _
