/-! the class's parts as they are laid -/
def AGX (P : Int) (nam nam' : Nat → Int64) (var var' trm trm' ter ter' : Nat → Int32) : Prop := ∀ i : Nat, (i : Int) < P → nam' i = nam i ∧ var' i = var i ∧ trm' i = trm i ∧ ∀ k : Nat, k < 3 → ter' (3 * i + k) = ter (3 * i + k)
section AC
variable {P Q : Int} {nam nam' nam'' : Nat → Int64} {var var' var'' trm trm' trm'' ter ter' ter'' : Nat → Int32}
theorem agc_rf : AGX P nam nam var var trm trm ter ter := fun _ _ => ⟨rfl, rfl, rfl, fun _ _ => rfl⟩
theorem agc_tr (h : AGX P nam nam' var var' trm trm' ter ter') (g : AGX Q nam' nam'' var' var'' trm' trm'' ter' ter'') (e : P ≤ Q) : AGX P nam nam'' var var'' trm trm'' ter ter'' := fun i hi => by
  obtain ⟨a1, a2, a3, a4⟩ := h i hi
  obtain ⟨b1, b2, b3, b4⟩ := g i (by omega)
  exact ⟨b1.trans a1, b2.trans a2, b3.trans a3, fun k hk => (b4 k hk).trans (a4 k hk)⟩
theorem agc_le (h : AGX Q nam nam' var var' trm trm' ter ter') (e : P ≤ Q) : AGX P nam nam' var var' trm trm' ter ter' := fun i hi => h i (by omega)
theorem clamp_far {i : Nat} {r : Int32} (h : (i : Int) < r.toInt) : i ≠ Int32.toNatClampNeg r := fun e => by
  have q := clamp_toInt (i := r) (by omega)
  omega
theorem agc_add {r : Int32} {x : Int64} {y z : Int32} (hn : nam' = vp_updL nam (Int32.toNatClampNeg r) x) (hv : var' = upd var (Int32.toNatClampNeg r) y) (ht : trm' = upd trm (Int32.toNatClampNeg r) z) (hr : P ≤ r.toInt) : AGX P nam nam' var var' trm trm' ter ter := fun i hi => by
  have q := clamp_far (i := i) (r := r) (by omega)
  rw [hn, hv, ht, pk_uLn q, pk_un q, pk_un q]
  exact ⟨rfl, rfl, rfl, fun _ _ => rfl⟩
theorem agc_ter {r z v : Int32} {k : Int} (h : AGX P nam nam' var var' trm trm' ter ter') (he : ter'' = upd ter' (Int32.toNatClampNeg z) v) (hz : z.toInt = 3 * r.toInt + k) (hk : 0 ≤ k) (hr : P ≤ r.toInt) (h0 : 0 ≤ r.toInt) : AGX P nam nam' var var' trm trm' ter ter'' := fun i hi => by
  obtain ⟨a1, a2, a3, a4⟩ := h i hi
  refine ⟨a1, a2, a3, fun j hj => ?_⟩
  rw [he, pk_un (clamp_far (by omega))]
  exact a4 j hj
theorem agc_trm {r v : Int32} (h : AGX P nam nam' var var' trm trm' ter ter') (he : trm'' = upd trm' (Int32.toNatClampNeg r) v) (hr : P ≤ r.toInt) : AGX P nam nam' var var' trm trm'' ter ter' := fun i hi => by
  obtain ⟨a1, a2, a3, a4⟩ := h i hi
  refine ⟨a1, a2, ?_, a4⟩
  rw [he, pk_un (clamp_far (by omega))]
  exact a3
theorem agc_vag {lo B : Nat} (h : AGX P nam nam' var var' trm trm' ter ter') (hP : (B : Int) ≤ P) : VAG (CVW nam var trm ter) (CVW nam' var' trm' ter') lo B := by
  refine ⟨fun x hx => ?_, fun x _ hx => ?_⟩
  · have q := (h x (by omega)).2.1
    show (var' x).toInt = (var x).toInt
    rw [q]
  · obtain ⟨a1, a2, a3, a4⟩ := h x (by omega)
    refine ⟨?_, ?_, fun k hk => ?_⟩
    · show (nam' x).toInt = (nam x).toInt
      rw [a1]
    · show (trm' x).toInt = (trm x).toInt
      rw [a3]
    · show Int32.toNatClampNeg (ter' (3 * x + k)) = Int32.toNatClampNeg (ter (3 * x + k))
      rw [a4 k hk]
/-- a part's own rows are laid: what stands behind it stays -/
theorem vag_own {z r v w : Int32} {k : Int} {B : Nat} (he : ter' = upd ter (Int32.toNatClampNeg z) v) (ht : trm' = upd trm (Int32.toNatClampNeg r) w) (hz : z.toInt = 3 * r.toInt + k) (hk : 0 ≤ k ∧ k ≤ 2) (h0 : 0 ≤ r.toInt) : VAG (CVW nam var trm ter) (CVW nam var trm' ter') (Int32.toNatClampNeg r + 1) B := by
  have q := clamp_toInt (i := r) h0
  have q2 := clamp_toInt (i := z) (by omega)
  refine ⟨fun x _ => rfl, fun x hl _ => ⟨rfl, ?_, fun j hj => ?_⟩⟩
  · show (trm' x).toInt = (trm x).toInt
    rw [ht, pk_un (by omega)]
  · show Int32.toNatClampNeg (ter' (3 * x + j)) = Int32.toNatClampNeg (ter (3 * x + j))
    rw [he, pk_un (by omega)]
end AC
/-- the variables that are known -/
def VFV (nv : Int) (k var : Nat → Int32) (P : Int) : Prop := ∀ i : Int32, 0 ≤ i.toInt → i.toInt < nv → (var (Int32.toNatClampNeg (k (Int32.toNatClampNeg i)))).toInt = i.toInt ∧ 0 ≤ (k (Int32.toNatClampNeg i)).toInt ∧ (k (Int32.toNatClampNeg i)).toInt < P
theorem vfv_zero {nv P : Int} {k var : Nat → Int32} (h : nv = 0) : VFV nv k var P := fun i h1 h2 => absurd h2 (by omega)
theorem vfv_agc {nv nv' P P' Q : Int} {k var var' trm trm' ter ter' : Nat → Int32} {nam nam' : Nat → Int64} (h : VFV nv k var P) (g : AGX Q nam nam' var var' trm trm' ter ter') (e : P ≤ Q) (e2 : P ≤ P') (en : nv' = nv) : VFV nv' k var' P' := fun i h1 h2 => by
  obtain ⟨a, b, c⟩ := h i h1 (by omega)
  have q := clamp_toInt (i := k (Int32.toNatClampNeg i)) b
  have r := (g (Int32.toNatClampNeg (k (Int32.toNatClampNeg i))) (by omega)).2.1
  exact ⟨by rw [r]; exact a, b, by omega⟩
theorem vfv_add {nv nv' P P' : Int} {k k' var var' : Nat → Int32} {v x y : Int32} (h : VFV nv k var P) (hv : v.toInt = nv) (h8 : 0 ≤ nv) (hx : x.toInt = P) (h0 : 0 ≤ P) (hm : var' = upd var (Int32.toNatClampNeg x) y) (hy : y.toInt = nv) (hk : k' = upd k (Int32.toNatClampNeg v) x) (hP : P' = P + 1) (hn : nv' = nv + 1) : VFV nv' k' var' P' := fun i h1 h2 => by
  by_cases e : i.toInt = nv
  · have e2 : i = v := Int32.toInt_inj.mp (by omega)
    subst e2
    rw [hk, pk_us, hm, pk_us]
    exact ⟨by omega, by omega, by omega⟩
  · obtain ⟨a, b, d⟩ := h i h1 (by omega)
    rw [hk, pk_un (clamp_ne h1 (by omega) (by omega)), hm, pk_un (clamp_ne b (by omega) (by omega))]
    exact ⟨a, b, by omega⟩
/-- with no fault -/
def IFZ (f : Int) (Q : Prop) : Prop := f = 0 → Q
theorem ifz_no {f : Int} {Q : Prop} (h : ¬ f = 0) : IFZ f Q := fun e => absurd e h
theorem ifz_yes {f : Int} {Q : Prop} (h : Q) : IFZ f Q := fun _ => h
/-- what a variable's part is -/
def VPX (G : Int → Int) (a nv : Int) (vf : Int → Int) (kf : Nat → Nat) (var : Nat → Int32) (P : Int) (r : Int32) : Prop := 0 ≤ (var (Int32.toNatClampNeg r)).toInt ∧ (var (Int32.toNatClampNeg r)).toInt < nv ∧ vf (var (Int32.toNatClampNeg r)).toInt = G a ∧ Int32.toNatClampNeg r = kf (var (Int32.toNatClampNeg r)).toInt.toNat ∧ r.toInt < P
/-- the number of a name, once it is read -/
def NMT (t l v : Int) : Prop := t = 256 → l = v
section CP
variable {G : Int → Int} {n : Int} {nam nam' : Nat → Int64} {var var' trm trm' ter ter' : Nat → Int32} {nv nv' : Int} {vf vf' : Int → Int} {kf kf' : Nat → Nat} {lo P P' d : Nat} {p q : Int}
theorem spx_var {r : Int32} {P0 : Int} (h0 : 0 ≤ r.toInt) (hP : P0 = (P : Int)) (h : VPX G p nv vf kf var P0 r) (ht : tkT G n p = 257) (hq : q = tkN G n p) : SPX G n 32 (CVW nam var trm ter) nv vf kf lo P (d + 1) (Int32.toNatClampNeg r) p q := by
  obtain ⟨a, b, c, f, e⟩ := h
  have k := clamp_toInt (i := r) h0
  exact ⟨by omega, Or.inl ⟨ht, hq, a, b, c, fun h => absurd h (by decide), fun _ => f⟩⟩
/-- what a part is, its terms aside -/
def OWN (G : Int → Int) (n p : Int) (nam : Nat → Int64) (var trm : Nat → Int32) (r : Int32) (k : Int) : Prop := (var (Int32.toNatClampNeg r)).toInt = -1 ∧ (nam (Int32.toNatClampNeg r)).toInt = NMI 32 G n p ∧ (trm (Int32.toNatClampNeg r)).toInt = k
theorem own_new {r : Int32} {x : Int64} {y z : Int32} (hn : nam' = vp_updL nam (Int32.toNatClampNeg r) x) (hv : var' = upd var (Int32.toNatClampNeg r) y) (ht : trm' = upd trm (Int32.toNatClampNeg r) z) (hx : x.toInt = NMI 32 G n p) (hy : y.toInt = -1) (hz : z.toInt = 0) : OWN G n p nam' var' trm' r 0 := by
  refine ⟨?_, ?_, ?_⟩
  · rw [hv, pk_us]; exact hy
  · rw [hn, pk_uLs]; exact hx
  · rw [ht, pk_us]; exact hz
theorem own_agc {r : Int32} {k Q : Int} (h : OWN G n p nam var trm r k) (g : AGX Q nam nam' var var' trm trm' ter ter') (h0 : 0 ≤ r.toInt) (e : r.toInt < Q) : OWN G n p nam' var' trm' r k := by
  obtain ⟨a, b, c⟩ := h
  have w := clamp_toInt (i := r) h0
  obtain ⟨g1, g2, g3, -⟩ := g (Int32.toNatClampNeg r) (by omega)
  exact ⟨by rw [g2]; exact a, by rw [g1]; exact b, by rw [g3]; exact c⟩
theorem own_trm {r v : Int32} {k k' : Int} (h : OWN G n p nam var trm r k) (ht : trm' = upd trm (Int32.toNatClampNeg r) v) (hv : v.toInt = k') : OWN G n p nam var trm' r k' := by
  obtain ⟨a, b, c⟩ := h
  exact ⟨a, b, by rw [ht, pk_us]; exact hv⟩
/-- the terms of a part that were read so far -/
def PRC (G : Int → Int) (n : Int) (nam : Nat → Int64) (var trm ter : Nat → Int32) (nv : Int) (vf : Int → Int) (kf : Nat → Nat) (P : Int) (d : Nat) (r : Int32) (k s q : Int) : Prop := ∃ (B m : Nat), (B : Int) = P ∧ (m : Int) = k ∧ PRX G n (SPX G n 32 (CVW nam var trm ter) nv vf kf (Int32.toNatClampNeg r + 1) B d) ((CVW nam var trm ter).2.2.2 (Int32.toNatClampNeg r)) m s q
theorem prc_zero {r : Int32} {P0 k s : Int} (hP : 0 ≤ P0) (hk : k = 0) (hs : q = s) : PRC G n nam var trm ter nv vf kf P0 d r k s q := ⟨P0.toNat, 0, by omega, by omega, hs⟩
/-- another term was read and laid -/
theorem prc_step {r z v w x : Int32} {P0 P1 k k' s q1 : Int} {nam1 : Nat → Int64} {var1 trm1 ter1 : Nat → Int32} {Q : Int} (h : PRC G n nam var trm ter nv vf kf P0 d r k s q1) (ha : AGX Q nam nam1 var var1 trm trm1 ter ter1) (hQ : P0 ≤ Q) (hx : XT nv vf nv' vf') (hkf : KX nv kf kf') (hP : P0 ≤ P1) (h0 : 0 ≤ r.toInt) (hr : r.toInt < P0) (hk : 0 ≤ k ∧ k ≤ 2) (hc : k = 0 ∨ tkT G n q1 = 44) (hS : ∃ L B : Nat, (L : Int) = Q ∧ (B : Int) = P1 ∧ SPX G n 32 (CVW nam1 var1 trm1 ter1) nv' vf' kf' L B d (Int32.toNatClampNeg x) (tkN G n q1) q) (hv : v = x) (hz : z.toInt = 3 * r.toInt + k) (he : ter' = upd ter1 (Int32.toNatClampNeg z) v) (ht : trm' = upd trm1 (Int32.toNatClampNeg r) w) (hk' : k' = k + 1) : PRC G n nam1 var1 trm' ter' nv' vf' kf' P1 d r k' s q := by
  obtain ⟨B0, m, e1, e2, h⟩ := h
  obtain ⟨L, B, e3, e4, hS⟩ := hS
  have cr := clamp_toInt (i := r) h0
  have cz := clamp_toInt (i := z) (by omega)
  have hw : VAG (CVW nam1 var1 trm1 ter1) (CVW nam1 var1 trm' ter') (Int32.toNatClampNeg r + 1) B := vag_own he ht hz hk h0
  have mono0 : ∀ y p q, SPX G n 32 (CVW nam var trm ter) nv vf kf (Int32.toNatClampNeg r + 1) B0 d y p q → SPX G n 32 (CVW nam1 var1 trm' ter') nv' vf' kf' (Int32.toNatClampNeg r + 1) B d y p q := fun y p q g => spx_agr hw xt_rf kx_rf (Nat.le_refl _) (Nat.le_refl _) d y p q (spx_agr (agc_vag ha (by omega)) hx hkf (Nat.le_refl _) (by omega) d y p q g)
  refine ⟨B, m + 1, e4, by omega, q1, ?_, by omega, ?_⟩
  · refine pre_mono mono0 m _ _ (fun j hj => ?_) h
    have a4 := (ha (Int32.toNatClampNeg r) (by omega)).2.2.2 j (by omega)
    show Int32.toNatClampNeg (ter' (3 * Int32.toNatClampNeg r + j)) = Int32.toNatClampNeg (ter (3 * Int32.toNatClampNeg r + j))
    rw [he, pk_un (by omega), a4]
  · have e5 : (CVW nam1 var1 trm' ter').2.2.2 (Int32.toNatClampNeg r) m = Int32.toNatClampNeg x := by
      show Int32.toNatClampNeg (ter' (3 * Int32.toNatClampNeg r + m)) = Int32.toNatClampNeg x
      have e6 : 3 * Int32.toNatClampNeg r + m = Int32.toNatClampNeg z := by omega
      rw [e6, he, pk_us, hv]
    rw [e5]
    exact spx_agr hw xt_rf kx_rf (by omega) (Nat.le_refl _) d _ _ _ (spx_agr (V' := CVW nam1 var1 trm1 ter1) (lo := L) (P := B) ⟨fun _ _ => rfl, fun _ _ _ => ⟨rfl, rfl, fun _ _ => rfl⟩⟩ xt_rf kx_rf (by omega) (Nat.le_refl _) d _ _ _ hS)
/-- a name alone -/
theorem spx_name {r : Int32} {P0 : Int} (h0 : 0 ≤ r.toInt) (hl : (lo : Int) ≤ r.toInt) (hP : P0 = (P : Int)) (hr : r.toInt < P0) (ho : OWN G n p nam var trm r 0) (ht : tkT G n p = 256) (hs : ¬ tkT G n (tkN G n p) = 40) (hq : q = tkN G n p) : SPX G n 32 (CVW nam var trm ter) nv vf kf lo P (d + 1) (Int32.toNatClampNeg r) p q := by
  obtain ⟨a, b, c⟩ := ho
  have k := clamp_toInt (i := r) h0
  exact ⟨by omega, Or.inr ⟨ht, by omega, a, b, 0, q, c, by omega, hq, Or.inl ⟨rfl, hs, rfl⟩⟩⟩
/-- a name and its terms -/
theorem spx_terms {r : Int32} {P0 k q1 : Int} (h0 : 0 ≤ r.toInt) (hl : (lo : Int) ≤ r.toInt) (hP : P0 = (P : Int)) (hr : r.toInt < P0) (ho : OWN G n p nam var trm r k) (ht : tkT G n p = 256) (hp : PRC G n nam var trm ter nv vf kf P0 d r k (tkN G n p) q1) (hk : 1 ≤ k ∧ k ≤ 3) (hs : tkT G n (tkN G n p) = 40) (hc : tkT G n q1 = 41) (hq : q = tkN G n q1) : SPX G n 32 (CVW nam var trm ter) nv vf kf lo P (d + 1) (Int32.toNatClampNeg r) p q := by
  obtain ⟨a, b, c⟩ := ho
  obtain ⟨B, m, e1, e2, h⟩ := hp
  have w := clamp_toInt (i := r) h0
  have eB : B = P := by omega
  subst eB
  refine ⟨by omega, Or.inr ⟨ht, by omega, a, b, m, q1, by rw [e2]; exact c, by omega, ?_, Or.inr ⟨by omega, hs, hc, hq⟩⟩⟩
  exact pre_mono (spx_agr ⟨fun _ _ => rfl, fun _ _ _ => ⟨rfl, rfl, fun _ _ => rfl⟩⟩ xt_rf kx_rf (by omega) (Nat.le_refl _) d) m _ _ (fun _ _ => rfl) h
end CP
/-! the number of a name, letter by letter -/
def AG3 (P : Int) (nam nam' : Nat → Int64) (var var' trm trm' : Nat → Int32) : Prop := ∀ i : Nat, (i : Int) < P → nam' i = nam i ∧ var' i = var i ∧ trm' i = trm i
theorem ag3_rf {P : Int} {nam : Nat → Int64} {var trm : Nat → Int32} : AG3 P nam nam var var trm trm := fun _ _ => ⟨rfl, rfl, rfl⟩
theorem ag3_add {P : Int} {nam nam' : Nat → Int64} {var var' trm trm' : Nat → Int32} {r : Int32} {x : Int64} {y z : Int32} (hn : nam' = vp_updL nam (Int32.toNatClampNeg r) x) (hv : var' = upd var (Int32.toNatClampNeg r) y) (ht : trm' = upd trm (Int32.toNatClampNeg r) z) (hr : P ≤ r.toInt) : AG3 P nam nam' var var' trm trm' := fun i hi => by
  have q := clamp_far (i := i) (r := r) (by omega)
  rw [hn, hv, ht, pk_uLn q, pk_un q, pk_un q]
  exact ⟨rfl, rfl, rfl⟩
theorem agc_of3 {P : Int} {nam nam' : Nat → Int64} {var var' trm trm' ter : Nat → Int32} (h : AG3 P nam nam' var var' trm trm') : AGX P nam nam' var var' trm trm' ter ter := fun i hi => ⟨(h i hi).1, (h i hi).2.1, (h i hi).2.2, fun _ _ => rfl⟩
theorem vpx_old {G : Int → Int} {a nv P : Int} {vf vf' : Int → Int} {k var : Nat → Int32} {i r : Int32} (h : VFV nv k var P) (h0 : 0 ≤ i.toInt) (h1 : i.toInt < nv) (hr : r = k (Int32.toNatClampNeg i)) (hv : vf' = vf) (hg : vf i.toInt = G a) : VPX G a nv vf' (kfn k) var P r := by
  obtain ⟨x, y, z⟩ := h i h0 h1
  subst hr; subst hv
  refine ⟨by omega, by omega, by rw [x]; exact hg, ?_, z⟩
  rw [x]
  show Int32.toNatClampNeg (k (Int32.toNatClampNeg i)) = Int32.toNatClampNeg (k i.toInt.toNat)
  rw [clamp_nat h0]
theorem vpx_new {G : Int → Int} {a nv nv' P : Int} {vf vf' : Int → Int} {var var' k k' : Nat → Int32} {y r v : Int32} (hk : k' = upd k (Int32.toNatClampNeg v) r) (hvv : v.toInt = nv) (hm : var' = upd var (Int32.toNatClampNeg r) y) (hy : y.toInt = nv) (h0 : 0 ≤ nv) (hn : nv' = nv + 1) (hf : vf' = fun j => if j = nv then G a else vf j) (hP : r.toInt < P) : VPX G a nv' vf' (kfn k') var' P r := by
  subst hm; subst hf
  unfold VPX
  rw [pk_us]
  have ey : y.toInt.toNat = Int32.toNatClampNeg v := by rw [clamp_nat (i := v) (by omega)]; omega
  refine ⟨by omega, by omega, ?_, ?_, hP⟩
  · show (if y.toInt = nv then G a else vf y.toInt) = G a
    rw [if_pos hy]
  · show Int32.toNatClampNeg r = Int32.toNatClampNeg (k' y.toInt.toNat)
    rw [ey, hk, pk_us]
theorem kx_add {nv : Int} {k k' : Nat → Int32} {v r : Int32} (hk : k' = upd k (Int32.toNatClampNeg v) r) (hv : v.toInt = nv) (h0 : 0 ≤ nv) : KX nv (kfn k) (kfn k') := fun j hj => by
  show Int32.toNatClampNeg (k' j) = Int32.toNatClampNeg (k j)
  rw [hk, pk_un (clamp_far (by omega))]
theorem l64_nat {x : Int64} (h : 0 ≤ x.toInt) : (x.toBitVec.toNat : Int) = x.toInt := by
  have e : x.toInt = x.toBitVec.toInt := rfl
  have l := x.toBitVec.isLt
  rw [e, BitVec.toInt_eq_toNat_cond] at h ⊢
  split at h <;> rename_i c
  · rw [if_pos c]
  · omega
theorem l5or {x c v w : Int64} (hv : v = x <<< ((5 : Int32).toInt64 &&& 63)) (hw : w = v ||| c) (hx : 0 ≤ x.toInt ∧ x.toInt < 34359738368) (hc : 0 ≤ c.toInt ∧ c.toInt < 32) : w.toInt = 32 * x.toInt + c.toInt := by
  have e5 : ((5 : Int32).toInt64 &&& 63) = (5 : Int64) := by decide
  rw [e5] at hv
  have xn := l64_nat hx.1
  have cn := l64_nat hc.1
  have hN : w.toBitVec.toNat = 32 * x.toBitVec.toNat + c.toBitVec.toNat := by
    have es : (x <<< (5 : Int64)).toBitVec = x.toBitVec <<< (5 : Nat) := by
      show x.toBitVec <<< ((5 : Int64).toBitVec.smod 64) = x.toBitVec <<< (5 : Nat)
      have e6 : (5 : Int64).toBitVec.smod 64 = 5#64 := by decide
      rw [e6]; rfl
    rw [hw, Int64.toBitVec_or, hv, es, BitVec.toNat_or, BitVec.toNat_shiftLeft, Nat.shiftLeft_eq, Nat.mod_eq_of_lt (by omega)]
    have o := Nat.shiftLeft_add_eq_or_of_lt (i := 5) (b := c.toBitVec.toNat) (by omega) x.toBitVec.toNat
    rw [Nat.shiftLeft_eq] at o
    rw [← o]; omega
  have e : w.toInt = w.toBitVec.toInt := rfl
  rw [e, BitVec.toInt_eq_toNat_cond, if_pos (by omega), hN]
  omega
theorem nmv_lt {D : Int → Int} : ∀ k : Nat, DGS D k → NMV 32 D k + 1 ≤ 32 ^ k := by
  intro k
  induction k with
  | zero => intro _; rw [show NMV 32 D 0 = 0 from rfl]; decide
  | succ k ih =>
    intro h
    have a := ih (dgs_le h (by omega))
    have b := h k (by omega)
    rw [nmv_s, Int.pow_succ]
    omega
theorem nmv_l7 {D : Int → Int} {k : Nat} (h : DGS D k) (hk : k ≤ 7) : NMV 32 D k < 34359738368 := by
  have a := nmv_lt k h
  have b : ∀ j : Nat, j < 8 → (32 : Int) ^ j ≤ 34359738368 := by decide
  have c := b k (by omega)
  omega
def NML (G : Int → Int) (a s g l : Int) : Prop := g = 0 → s ≤ 8 → DGS (fun i => G (a + i) - 96) s.toNat ∧ l = NMV 32 (fun i => G (a + i) - 96) s.toNat
theorem nml_zero {G : Int → Int} {a s g l : Int} (hs : s = 0) (hl : l = 0) : NML G a s g l := fun _ _ => by
  subst hs; subst hl
  exact ⟨fun i hi => absurd hi (by simp), rfl⟩
theorem nml_great {G : Int → Int} {a s g l : Int} (hg : 0 < g) : NML G a s g l := fun h _ => absurd h (by omega)
theorem nml_small {G : Int → Int} {a s s' g b : Int} {x v c w : Int64} (h : NML G a s g x.toInt) (h0 : 0 ≤ s) (hb : b = a + s + g) (hG : 97 ≤ G b ∧ G b ≤ 122) (hv : v = x <<< ((5 : Int32).toInt64 &&& 63)) (hc : c.toInt = G b - 96) (hw : w = v ||| c) (hs : s' = s + 1) : NML G a s' g w.toInt := fun hg h8 => by
  obtain ⟨h1, h2⟩ := h hg (by omega)
  have e1 : s'.toNat = s.toNat + 1 := by omega
  have e2 : a + ((s.toNat : Nat) : Int) = b := by omega
  have e3 := nmv_l7 h1 (by omega)
  have e4 := nmv_ge (Or.inr rfl) s.toNat h1
  have e5 := l5or hv hw (by omega) (by omega)
  rw [e1]
  refine ⟨fun i hi => ?_, ?_⟩
  · by_cases q : i = s.toNat
    · subst q
      show 1 ≤ G (a + ((s.toNat : Nat) : Int)) - 96 ∧ G (a + ((s.toNat : Nat) : Int)) - 96 ≤ 26
      rw [e2]; omega
    · exact h1 i (by omega)
  · rw [nmv_s, e5, h2, hc]
    show _ = 32 * _ + (G (a + ((s.toNat : Nat) : Int)) - 96)
    rw [e2]
/-- once all letters were gone through -/
theorem nmt_end {G : Int → Int} {n a s g l t : Int} (h : NML G a s g l) (hg : g = 0) (h8 : s ≤ 8) (he : tkE G n a = a + s) : NMT t l (NMI 32 G n a) := fun _ => by
  unfold NMI
  have e : tkE G n a - a = s := by omega
  rw [e]; exact (h hg h8).2
theorem nmt_no {t l v : Int} (h : ¬ t = 256) : NMT t l v := fun e => absurd e h
theorem nmt_cast {t t' l v v' : Int} (h : NMT t l v) (ht : t' = t) (hv : v = v') : NMT t' l v' := by subst ht; subst hv; exact h
section CQ
variable {G : Int → Int} {n : Int} {nam nam' : Nat → Int64} {var var' trm trm' ter ter' fst fst' pls pls' : Nat → Int32} {nv nv' : Int} {vf vf' : Int → Int} {kf kf' : Nat → Nat}
theorem own_cast {p k k' : Int} {r : Int32} (h : OWN G n p nam var trm r k) (e : k = k') : OWN G n p nam var trm r k' := by rw [← e]; exact h
theorem prc_cast {P0 k k' s q : Int} {d : Nat} {r : Int32} (h : PRC G n nam var trm ter nv vf kf P0 d r k s q) (e : k = k') : PRC G n nam var trm ter nv vf kf P0 d r k' s q := by rw [← e]; exact h
/-! literals and clauses of the class -/
theorem or_bt6 : ∀ (k : Fin 6) (v : Fin 32), v.val < 2 ^ k.val → (Int32.ofNat v.val ||| ((1 : Int32) <<< (Int32.ofNat k.val &&& 31))).toInt = (v.val : Int) + 2 ^ k.val := by decide
theorem i_of {x : Int32} (h : 0 ≤ x.toInt) : Int32.ofNat x.toInt.toNat = x := by
  apply Int32.toInt_inj.mp
  have b := i_bd x
  rw [Int32.toInt_ofNat_of_lt (by omega)]; omega
theorem or_bt62 {v k b w : Int32} (hk : 0 ≤ k.toInt ∧ k.toInt ≤ 5) (hv : 0 ≤ v.toInt ∧ v.toInt < 2 ^ k.toInt.toNat) (hb : b = (1 : Int32) <<< (k &&& 31)) (hw : w = v ||| b) : w.toInt = v.toInt + 2 ^ k.toInt.toNat := by
  have p5 : ∀ j : Nat, j < 6 → (2 : Int) ^ j ≤ 32 := by decide
  have q5 := p5 k.toInt.toNat (by omega)
  have c : (2 : Int) ^ k.toInt.toNat = ((2 ^ k.toInt.toNat : Nat) : Int) := by rw [Int.natCast_pow]; rfl
  have t := or_bt6 ⟨k.toInt.toNat, by omega⟩ ⟨v.toInt.toNat, by omega⟩ (by show v.toInt.toNat < 2 ^ k.toInt.toNat; omega)
  have t2 : (Int32.ofNat v.toInt.toNat ||| ((1 : Int32) <<< (Int32.ofNat k.toInt.toNat &&& 31))).toInt = (v.toInt.toNat : Int) + 2 ^ k.toInt.toNat := t
  rw [i_of hv.1, i_of hk.1] at t2
  rw [hw, hb, t2]; omega
/-- bits below another one stay -/
theorem bit_low : ∀ (j k : Fin 6) (v : Fin 32), v.val < 2 ^ k.val → j.val < k.val → (((v.val : Int) + 2 ^ k.val) / 2 ^ j.val % 2 = (v.val : Int) / 2 ^ j.val % 2) := by decide
theorem bit_own : ∀ (k : Fin 6) (v : Fin 32), v.val < 2 ^ k.val → (((v.val : Int) + 2 ^ k.val) / 2 ^ k.val % 2 = 1) ∧ (v.val : Int) / 2 ^ k.val % 2 = 0 := by decide
theorem pw_lt {k : Nat} (h : k < 6) : (2 : Int) ^ k ≤ 32 ∧ (2 : Int) ^ (k + 1) = 2 * 2 ^ k ∧ 1 ≤ (2 : Int) ^ k := by
  have p5 : ∀ j : Nat, j < 6 → (2 : Int) ^ j ≤ 32 ∧ (2 : Int) ^ (j + 1) = 2 * 2 ^ j ∧ 1 ≤ (2 : Int) ^ j := by decide
  exact p5 k h
theorem bit_low2 {v : Int} {j k : Nat} (hk : k < 6) (hv : 0 ≤ v ∧ v < 2 ^ k) (hj : j < k) : (v + 2 ^ k) / 2 ^ j % 2 = v / 2 ^ j % 2 := by
  have q := pw_lt hk
  have c : (2 : Int) ^ k = ((2 ^ k : Nat) : Int) := by rw [Int.natCast_pow]; rfl
  have t := bit_low ⟨j, by omega⟩ ⟨k, hk⟩ ⟨v.toNat, by omega⟩ (by show v.toNat < 2 ^ k; omega) hj
  have e : ((v.toNat : Nat) : Int) = v := by omega
  have t2 : (((v.toNat : Nat) : Int) + 2 ^ k) / 2 ^ j % 2 = ((v.toNat : Nat) : Int) / 2 ^ j % 2 := t
  rw [e] at t2; exact t2
theorem bit_own2 {v : Int} {k : Nat} (hk : k < 6) (hv : 0 ≤ v ∧ v < 2 ^ k) : (v + 2 ^ k) / 2 ^ k % 2 = 1 ∧ v / 2 ^ k % 2 = 0 := by
  have q := pw_lt hk
  have c : (2 : Int) ^ k = ((2 ^ k : Nat) : Int) := by rw [Int.natCast_pow]; rfl
  have t := bit_own ⟨k, hk⟩ ⟨v.toNat, by omega⟩ (by show v.toNat < 2 ^ k; omega)
  have e : ((v.toNat : Nat) : Int) = v := by omega
  have t2 : (((v.toNat : Nat) : Int) + 2 ^ k) / 2 ^ k % 2 = 1 ∧ ((v.toNat : Nat) : Int) / 2 ^ k % 2 = 0 := t
  rw [e] at t2; exact t2
/-- a literal that was read: x its part, v and w the signs ahead and behind -/
def LTC (G : Int → Int) (n : Int) (S : Nat → Int → Int → Prop) (x : Nat) (k v w p q : Int) : Prop := (tkT G n p = 45 ∧ tkT G n (tkN G n p) = 256 ∧ w = v ∧ S x (tkN G n p) q) ∨ (tkT G n p = 256 ∧ w = v + 2 ^ k.toNat ∧ S x p q)
/-- the literals of a clause that were read so far, and the place of the next one -/
def LPC (G : Int → Int) (n : Int) (S : Nat → Int → Int → Prop) (fst : Nat → Int32) (c v k p0 a : Int) : Prop := ∃ (m : Nat) (q1 : Int), (m : Int) = k ∧ m ≤ 6 ∧ 0 ≤ v ∧ v < 2 ^ m ∧ LPX G n S (fun j => Int32.toNatClampNeg (fst (6 * c.toNat + j))) (fun j => v / 2 ^ j % 2) m p0 q1 ∧ ((m = 0 ∧ a = p0) ∨ (¬ m = 0 ∧ tkT G n q1 = 124 ∧ a = tkN G n q1))
theorem lpc_zero {S : Nat → Int → Int → Prop} {c v k p0 a : Int} (hk : k = 0) (hv : v = 0) (ha : a = p0) : LPC G n S fst c v k p0 a := ⟨0, p0, by omega, by omega, by omega, by rw [hv]; decide, rfl, Or.inl ⟨rfl, ha⟩⟩
/-- ..., and what stands behind the last one -/
def LPD (G : Int → Int) (n : Int) (S : Nat → Int → Int → Prop) (fst : Nat → Int32) (c v k p0 q : Int) : Prop := ∃ m : Nat, (m : Int) = k ∧ 1 ≤ m ∧ m ≤ 6 ∧ 0 ≤ v ∧ v < 2 ^ m ∧ LPX G n S (fun j => Int32.toNatClampNeg (fst (6 * c.toNat + j))) (fun j => v / 2 ^ j % 2) m p0 q
theorem lpd_step {S S' : Nat → Int → Int → Prop} {c v w k k' p0 a q : Int} {z x : Int32} (h : LPC G n S fst c v k p0 a) (hS : ∀ y p q, S y p q → S' y p q) (hl : LTC G n S' (Int32.toNatClampNeg x) k v w a q) (hf : fst' = upd fst (Int32.toNatClampNeg z) x) (hc : 0 ≤ c) (hk : 0 ≤ k ∧ k ≤ 5) (hz : z.toInt = 6 * c + k) (hk' : k' = k + 1) : LPD G n S' fst' c w k' p0 q := by
  obtain ⟨m, q1, e1, e2, e3, e4, h, e5⟩ := h
  have cz := clamp_toInt (i := z) (by omega)
  have q6 := pw_lt (k := m) (by omega)
  have ek : k.toNat = m := by omega
  have nx : ∀ j : Nat, j < m → w / 2 ^ j % 2 = v / 2 ^ j % 2 := by
    intro j hj
    rcases hl with ⟨-, -, a2, -⟩ | ⟨-, a2, -⟩
    · rw [a2]
    · rw [a2, ek]; exact bit_low2 (by omega) ⟨e3, e4⟩ hj
  have ez : 6 * c.toNat + m = Int32.toNatClampNeg z := by omega
  refine ⟨m + 1, by omega, by omega, by omega, ?_, ?_, q1, a, ?_, ?_, ?_⟩
  · rcases hl with ⟨-, -, a2, -⟩ | ⟨-, a2, -⟩
    · omega
    · rw [ek] at a2; omega
  · rcases hl with ⟨-, -, a2, -⟩ | ⟨-, a2, -⟩
    · omega
    · rw [ek] at a2; omega
  · refine lpx_mono hS m _ _ (fun j hj => ⟨?_, nx j hj⟩) h
    show Int32.toNatClampNeg (fst' (6 * c.toNat + j)) = Int32.toNatClampNeg (fst (6 * c.toNat + j))
    rw [hf, pk_un (by omega)]
  · exact e5
  · show (tkT G n a = 45 ∧ tkT G n (tkN G n a) = 256 ∧ w / 2 ^ m % 2 = 0 ∧ S' (Int32.toNatClampNeg (fst' (6 * c.toNat + m))) (tkN G n a) q) ∨ (tkT G n a = 256 ∧ w / 2 ^ m % 2 = 1 ∧ S' (Int32.toNatClampNeg (fst' (6 * c.toNat + m))) a q)
    rw [ez, hf, pk_us]
    have bo := bit_own2 (v := v) (k := m) (by omega) ⟨e3, e4⟩
    rcases hl with ⟨a1, a0, a2, a3⟩ | ⟨a1, a2, a3⟩
    · exact Or.inl ⟨a1, a0, by rw [a2]; exact bo.2, a3⟩
    · exact Or.inr ⟨a1, by rw [a2, ek]; exact bo.1, a3⟩
theorem lpc_next {S : Nat → Int → Int → Prop} {c v k p0 q a : Int} (h : LPD G n S fst c v k p0 q) (ht : tkT G n q = 124) (ha : a = tkN G n q) : LPC G n S fst c v k p0 a := by
  obtain ⟨m, e1, e2, e3, e4, e5, h⟩ := h
  exact ⟨m, q, e1, e3, e4, e5, h, Or.inr ⟨by omega, ht, ha⟩⟩
end CQ
section CR
variable {G : Int → Int} {n : Int} {nam nam' : Nat → Int64} {var var' trm trm' ter ter' lit lit' vas vas' fst fst' pls pls' : Nat → Int32} {nv nv' : Int} {vf vf' : Int → Int} {kf kf' : Nat → Nat}
theorem ltc_mono {S S' : Nat → Int → Int → Prop} {x : Nat} {k v w p q : Int} (hS : ∀ y p q, S y p q → S' y p q) (h : LTC G n S x k v w p q) : LTC G n S' x k v w p q := by
  rcases h with ⟨a, a0, b, c⟩ | ⟨a, b, c⟩
  · exact Or.inl ⟨a, a0, b, hS _ _ _ c⟩
  · exact Or.inr ⟨a, b, hS _ _ _ c⟩
theorem lpc_plq {S : Nat → Int → Int → Prop} {c v k p0 a : Int} (h : LPC G n S fst c v k p0 a) : 0 ≤ v ∧ v < 2 ^ k.toNat := by
  obtain ⟨m, q1, e1, -, e3, e4, -⟩ := h
  have e : k.toNat = m := by omega
  rw [e]; exact ⟨e3, e4⟩
/-- what a call of the literal's reader laid -/
def LTQ (G : Int → Int) (n : Int) (nam : Nat → Int64) (var trm ter fst fst' : Nat → Int32) (nv : Int) (vf : Int → Int) (kf : Nat → Nat) (P0 P1 c k v w p q : Int) : Prop := ∃ (L B : Nat) (z x : Int32), (L : Int) = P0 ∧ (B : Int) = P1 ∧ z.toInt = 6 * c + k ∧ fst' = upd fst (Int32.toNatClampNeg z) x ∧ LTC G n (SPX G n 32 (CVW nam var trm ter) nv vf kf L B 7) (Int32.toNatClampNeg x) k v w p q
theorem lpd_call {P0 P1 Q c v w k k' p0 a q : Int} (h : LPC G n (SPX G n 32 (CVW nam var trm ter) nv vf kf 0 P0.toNat 7) fst c v k p0 a) (ha : AGX Q nam nam' var var' trm trm' ter ter') (hQ : P0 ≤ Q) (hP : P0 ≤ P1) (h0 : 0 ≤ P0) (hx : XT nv vf nv' vf') (hkf : KX nv kf kf') (hl : LTQ G n nam' var' trm' ter' fst fst' nv' vf' kf' Q P1 c k v w a q) (hc : 0 ≤ c) (hk : 0 ≤ k ∧ k ≤ 5) (hk' : k' = k + 1) : LPD G n (SPX G n 32 (CVW nam' var' trm' ter') nv' vf' kf' 0 P1.toNat 7) fst' c w k' p0 q := by
  obtain ⟨L, B, z, x, e1, e2, e3, e4, hl⟩ := hl
  have eB : B = P1.toNat := by omega
  subst eB
  exact lpd_step h (spx_agr (agc_vag ha (by omega)) hx hkf (Nat.le_refl _) (by omega) 7) (ltc_mono (spx_agr ⟨fun _ _ => rfl, fun _ _ _ => ⟨rfl, rfl, fun _ _ => rfl⟩⟩ xt_rf kx_rf (Nat.zero_le _) (Nat.le_refl _) 7) hl) e4 hc hk e3 hk'
theorem lpd_cast {S : Nat → Int → Int → Prop} {c v v' k k' p0 q : Int} (h : LPD G n S fst c v k p0 q) (ev : v = v') (ek : k = k') : LPD G n S fst c v' k' p0 q := by subst ev; subst ek; exact h
theorem lpc_cast {S : Nat → Int → Int → Prop} {c v v' k k' p0 q : Int} (h : LPC G n S fst c v k p0 q) (ev : v = v') (ek : k = k') : LPC G n S fst c v' k' p0 q := by subst ev; subst ek; exact h
/-- rows of clauses that were read before -/
def LF2 (c : Int) (pls pls' fst fst' : Nat → Int32) : Prop := ∀ j : Nat, (j : Int) < c → pls' j = pls j ∧ ∀ k : Nat, k < 6 → fst' (6 * j + k) = fst (6 * j + k)
def LFR (c : Int) (lit lit' vas vas' pls pls' fst fst' : Nat → Int32) : Prop := ∀ j : Nat, (j : Int) < c → lit' j = lit j ∧ vas' j = vas j ∧ pls' j = pls j ∧ ∀ k : Nat, k < 6 → fst' (6 * j + k) = fst (6 * j + k)
theorem lf2_rf {c : Int} : LF2 c pls pls fst fst := fun _ _ => ⟨rfl, fun _ _ => rfl⟩
theorem lf2_pls {c : Int} {r w : Int32} {pls'' : Nat → Int32} (h : LF2 c pls pls' fst fst') (e : pls'' = upd pls' (Int32.toNatClampNeg r) w) (hr : c ≤ r.toInt) : LF2 c pls pls'' fst fst' := fun j hj => ⟨by rw [e, pk_un (clamp_far (by omega))]; exact (h j hj).1, (h j hj).2⟩
theorem lf2_fst {c k : Int} {z x : Int32} {fst'' : Nat → Int32} (h : LF2 c pls pls' fst fst') (e : fst'' = upd fst' (Int32.toNatClampNeg z) x) (hz : z.toInt = 6 * c + k) (hk : 0 ≤ k) : LF2 c pls pls' fst fst'' := fun j hj => ⟨(h j hj).1, fun i hi => by rw [e, pk_un (clamp_far (by omega))]; exact (h j hj).2 i hi⟩
theorem lfr_rf {c : Int} : LFR c lit lit vas vas pls pls fst fst := fun _ _ => ⟨rfl, rfl, rfl, fun _ _ => rfl⟩
theorem lfr_lit {c : Int} {r w : Int32} {lit'' : Nat → Int32} (h : LFR c lit lit' vas vas' pls pls' fst fst') (e : lit'' = upd lit' (Int32.toNatClampNeg r) w) (hr : c ≤ r.toInt) : LFR c lit lit'' vas vas' pls pls' fst fst' := fun j hj => ⟨by rw [e, pk_un (clamp_far (by omega))]; exact (h j hj).1, (h j hj).2⟩
theorem lfr_vas {c : Int} {r w : Int32} {vas'' : Nat → Int32} (h : LFR c lit lit' vas vas' pls pls' fst fst') (e : vas'' = upd vas' (Int32.toNatClampNeg r) w) (hr : c ≤ r.toInt) : LFR c lit lit' vas vas'' pls pls' fst fst' := fun j hj => ⟨(h j hj).1, by rw [e, pk_un (clamp_far (by omega))]; exact (h j hj).2.1, (h j hj).2.2⟩
theorem lfr_pls {c : Int} {r w : Int32} {pls'' : Nat → Int32} (h : LFR c lit lit' vas vas' pls pls' fst fst') (e : pls'' = upd pls' (Int32.toNatClampNeg r) w) (hr : c ≤ r.toInt) : LFR c lit lit' vas vas' pls pls'' fst fst' := fun j hj => ⟨(h j hj).1, (h j hj).2.1, by rw [e, pk_un (clamp_far (by omega))]; exact (h j hj).2.2.1, (h j hj).2.2.2⟩
theorem lfr_two {c d : Int} {pls'' fst'' : Nat → Int32} (h : LFR c lit lit' vas vas' pls pls' fst fst') (g : LF2 d pls' pls'' fst' fst'') (e : c ≤ d) : LFR c lit lit' vas vas' pls pls'' fst fst'' := fun j hj => ⟨(h j hj).1, (h j hj).2.1, (g j (by omega)).1.trans (h j hj).2.2.1, fun k hk => ((g j (by omega)).2 k hk).trans ((h j hj).2.2.2 k hk)⟩
theorem lfr_lag {c : Int} {j : Nat} (h : LFR c lit lit' vas vas' pls pls' fst fst') (hj : (j : Int) < c) : LAG (CLW lit vas pls fst) (CLW lit' vas' pls' fst') j := by
  obtain ⟨a, b, d, e⟩ := h j hj
  refine ⟨?_, ?_, fun k hk => ⟨?_, ?_⟩⟩
  · show (lit' j).toInt = (lit j).toInt
    rw [a]
  · show (vas' j).toInt = (vas j).toInt
    rw [b]
  · show Int32.toNatClampNeg (fst' (6 * j + k)) = Int32.toNatClampNeg (fst (6 * j + k))
    rw [e k hk]
  · show (pls' j).toInt / (2 : Int) ^ k % 2 = (pls j).toInt / (2 : Int) ^ k % 2
    rw [d]
/-- a clause that was read -/
theorem clx_read {P : Nat} {c : Int32} {v k p q q1 : Int} {nv1 : Int} {vf1 : Int → Int} {kf1 : Nat → Nat} {R : PR} (h : LPD G n (SPX G n 32 (CVW nam var trm ter) nv1 vf1 kf1 0 P 7) fst c.toInt v k p q1) (hc : 0 ≤ c.toInt) (hl : (lit (Int32.toNatClampNeg c)).toInt = k) (hv : (vas (Int32.toNatClampNeg c)).toInt = nv1) (hp : (pls (Int32.toNatClampNeg c)).toInt = v) (hR : pLs G n 6 p 0 (fun _ => 0) = R) (h3 : R.2.2.1 = nv1) (h4 : R.2.2.2 = vf1) (ht : tkT G n q1 = 46) (hq : q = tkN G n q1) : CLX G n 32 (CVW nam var trm ter) (CLW lit vas pls fst) 0 P (Int32.toNatClampNeg c) p q := by
  obtain ⟨m, e1, e2, e3, e4, e5, h⟩ := h
  have ec : c.toInt.toNat = Int32.toNatClampNeg c := (clamp_nat hc).symm
  refine ⟨kf1, m, q1, ?_, e2, e3, ?_, ?_, ht, hq⟩
  · show (lit (Int32.toNatClampNeg c)).toInt = (m : Int)
    omega
  · show (vas (Int32.toNatClampNeg c)).toInt = _
    rw [hR, h3]; exact hv
  · rw [hR, h3, h4]
    rw [ec, ← hp] at h
    exact h
theorem alx_step {c : Nat} {P P' : Nat} {C Q : Int} {q1 q : Int} (h : ALX G n 32 (CVW nam var trm ter) (CLW lit vas pls fst) 0 P c q1) (ha : AGX Q nam nam' var var' trm trm' ter ter') (hQ : (P : Int) ≤ Q) (hP : P ≤ P') (hf : LFR C lit lit' vas vas' pls pls' fst fst') (hC : (c : Int) ≤ C) (hc : CLX G n 32 (CVW nam' var' trm' ter') (CLW lit' vas' pls' fst') 0 P' c q1 q) : ALX G n 32 (CVW nam' var' trm' ter') (CLW lit' vas' pls' fst') 0 P' (c + 1) q := ⟨q1, alx_agr (agc_vag ha hQ) (Nat.le_refl _) hP c q1 (fun j hj => lfr_lag hf (by omega)) h, hc⟩
end CR
