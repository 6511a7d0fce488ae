/-! the reference's nodes in instances, as places -/
def PLR (x i : Int32) : Nat := 8000 * i.toInt.toNat + x.toInt.toNat
def GRV (g : GVT) (nv na nb nc : Nat → Int32) : Prop := ∀ x i : Nat, x < 8000 → g.1 (8000 * i + x) = (nv x).toInt ∧ g.2.1 (8000 * i + x) = 8 * i + (nv x).toInt.toNat ∧ g.2.2.2.1 (8000 * i + x) = npx nv na nb nc x ∧ ∀ k : Nat, (k : Int) < npx nv na nb nc x → g.2.2.2.2 (8000 * i + x) k = 8000 * i + (ptx na nb nc x (k : Int)).toInt.toNat
def GRN (g : GVT) (nn : Nat → Int64) : Prop := ∀ x i : Nat, x < 8000 → g.2.2.1 (8000 * i + x) = (nn x).toInt
def BDW (bto bin : Nat → Int32) : Nat → Int := fun c => if (bto c).toInt = -1 then -1 else 8000 * (bin c).toInt + (bto c).toInt
theorem bdw_upd {bto bin bto' bin' : Nat → Int32} {s : Nat} {x i : Int32} (e1 : bto' = upd bto s x) (e2 : bin' = upd bin s i) (hx : 0 ≤ x.toInt) (hi : 0 ≤ i.toInt) : BDW bto' bin' = bst (BDW bto bin) s (PLR x i) := by
  funext c
  unfold BDW bst PLR
  rw [e1, e2]
  by_cases w : c = s
  · rw [w, pk_us, pk_us, if_pos rfl, if_neg (by omega)]; omega
  · rw [pk_un w, pk_un w, if_neg w]
section GR
variable {g : GVT} {b : Nat → Int} {nv na nb nc bto bin : Nat → Int32} {nn : Nat → Int64}
theorem grv_v {x i : Int32} (hg : GRV g nv na nb nc) (hx : 0 ≤ x.toInt ∧ x.toInt < 8000) : g.1 (PLR x i) = (nv x.toInt.toNat).toInt := (hg x.toInt.toNat i.toInt.toNat (by omega)).1
theorem grv_c {x i : Int32} (hg : GRV g nv na nb nc) (hx : 0 ≤ x.toInt ∧ x.toInt < 8000) (hi : 0 ≤ i.toInt) (hv : 0 ≤ (nv x.toInt.toNat).toInt) : ((g.2.1 (PLR x i) : Nat) : Int) = 8 * i.toInt + (nv x.toInt.toNat).toInt := by
  have e := (hg x.toInt.toNat i.toInt.toNat (by omega)).2.1
  have e2 : g.2.1 (PLR x i) = 8 * i.toInt.toNat + (nv x.toInt.toNat).toInt.toNat := e
  omega
theorem grv_a {x i : Int32} (hg : GRV g nv na nb nc) (hx : 0 ≤ x.toInt ∧ x.toInt < 8000) : g.2.2.2.1 (PLR x i) = npx nv na nb nc x.toInt.toNat := (hg x.toInt.toNat i.toInt.toNat (by omega)).2.2.1
theorem grv_k {x i r : Int32} {k : Int} (hg : GRV g nv na nb nc) (hx : 0 ≤ x.toInt ∧ x.toInt < 8000) (hk : 0 ≤ k ∧ k < npx nv na nb nc x.toInt.toNat) (hr : ptx na nb nc x.toInt.toNat k = r) : g.2.2.2.2 (PLR x i) k.toNat = PLR r i := by
  have e := (hg x.toInt.toNat i.toInt.toNat (by omega)).2.2.2 k.toNat (by omega)
  rw [show ((k.toNat : Nat) : Int) = k by omega, hr] at e
  exact e
theorem grn_n {x i : Int32} (hg : GRN g nn) (hx : 0 ≤ x.toInt ∧ x.toInt < 8000) : g.2.2.1 (PLR x i) = (nn x.toInt.toNat).toInt := hg x.toInt.toNat i.toInt.toNat (by omega)
theorem grv_go {x i s y j : Int32} {q : Nat} (hg : GRV g nv na nb nc) (hx : 0 ≤ x.toInt ∧ x.toInt < 8000) (hi : 0 ≤ i.toInt) (hv : 0 ≤ (nv x.toInt.toNat).toInt) (hs : s.toInt = 8 * i.toInt + (nv x.toInt.toNat).toInt) (hy : bto s.toInt.toNat = y) (hj : bin s.toInt.toNat = j) (y0 : 0 ≤ y.toInt) (j0 : 0 ≤ j.toInt) (h : BRE g (BDW bto bin) (PLR y j) q) : BRE g (BDW bto bin) (PLR x i) q := by
  have c := grv_c hg hx hi hv
  have e : g.2.1 (PLR x i) = s.toInt.toNat := by omega
  have v : BDW bto bin (g.2.1 (PLR x i)) = 8000 * j.toInt + y.toInt := by
    unfold BDW
    rw [e, hy, hj, if_neg (by omega)]
  refine bre_go ⟨by rw [grv_v hg hx]; exact hv, by rw [v]; omega⟩ ?_
  rw [v, show (8000 * j.toInt + y.toInt).toNat = PLR y j by unfold PLR; omega]
  exact h
theorem grv_ter {x i : Int32} (hg : GRV g nv na nb nc) (hx : 0 ≤ x.toInt ∧ x.toInt < 8000) (hi : 0 ≤ i.toInt) (h : (nv x.toInt.toNat).toInt = -1 ∨ (bto (8 * i.toInt + (nv x.toInt.toNat).toInt).toNat).toInt = -1) : TER g (BDW bto bin) (PLR x i) := fun w => by
  have v := w.1
  rw [grv_v hg hx] at v
  have c := grv_c hg hx hi v
  rcases h with h | h
  · omega
  · have k := w.2
    unfold BDW at k
    rw [show g.2.1 (PLR x i) = (8 * i.toInt + (nv x.toInt.toNat).toInt).toNat by omega, if_pos h] at k
    omega
theorem occ_in {p a t : Nat} (h : BRE g b p a) (ht : b t < 0) (ho : OCC g b p t) : OCC g b a t := by
  obtain ⟨n, e, w⟩ := h
  subst e
  clear w
  induction n generalizing p with
  | zero => exact ho
  | succ n ih =>
    rw [brF_s]
    by_cases c : 0 ≤ g.1 p ∧ 0 ≤ b (g.2.1 p)
    · rw [if_pos c]
      refine ih ?_
      obtain ⟨q, ⟨m, k⟩, k2, k3⟩ := ho
      cases m with
      | zero =>
        have e : p = q := k
        subst e
        rw [k3] at c; omega
      | succ m =>
        obtain ⟨x, k4, k5⟩ := k
        rcases k4 with ⟨_, e⟩ | ⟨d, _⟩
        · rw [← e]; exact ⟨q, ⟨m, k5⟩, k2, k3⟩
        · exact absurd c.1 d
    · rw [if_neg c]; exact ho
theorem occ_tvar {p t : Nat} (h : TER g b p) (hv : 0 ≤ g.1 p) (ho : OCC g b p t) : g.2.1 p = t := by
  obtain ⟨q, ⟨m, k⟩, k2, k3⟩ := ho
  cases m with
  | zero => have e : p = q := k; subst e; exact k3
  | succ m =>
    obtain ⟨x, k4, k5⟩ := k
    rcases k4 with ⟨c, _⟩ | ⟨d, _⟩
    · exact absurd c h
    · exact absurd hv d
theorem occ_node {p t : Nat} (hv : ¬ 0 ≤ g.1 p) (ho : OCC g b p t) : ∃ k : Nat, (k : Int) < g.2.2.2.1 p ∧ OCC g b (g.2.2.2.2 p k) t := by
  obtain ⟨q, ⟨m, k⟩, k2, k3⟩ := ho
  cases m with
  | zero => have e : p = q := k; subst e; exact absurd k2 hv
  | succ m =>
    obtain ⟨x, k4, k5⟩ := k
    rcases k4 with ⟨c, _⟩ | ⟨d, j, k6, e⟩
    · exact absurd c.1 hv
    · exact ⟨j, k6, q, ⟨m, by rw [← e]; exact k5⟩, k2, k3⟩
theorem occ_var {p : Nat} (hv : 0 ≤ g.1 p) : OCC g b p (g.2.1 p) := ⟨p, rch_rf, hv, rfl⟩
theorem occ_kid {p t : Nat} {k : Nat} (hv : ¬ 0 ≤ g.1 p) (hk : (k : Int) < g.2.2.2.1 p) (ho : OCC g b (g.2.2.2.2 p k) t) : OCC g b p t := occ_rch (rch_stp (Or.inr ⟨hv, k, hk, rfl⟩)) ho
/-- children that don't have it, so many -/
def OCK (g : GVT) (b : Nat → Int) (p t : Nat) (k : Int) : Prop := ∀ j : Nat, (j : Int) < k → ¬ OCC g b (g.2.2.2.2 p j) t
theorem ock_zero {p t : Nat} {k : Int} (h : k ≤ 0) : OCK g b p t k := fun j hj => by omega
theorem ock_step {p t c : Nat} {k k' : Int} (h : OCK g b p t k) (hc : g.2.2.2.2 p k.toNat = c) (ho : ¬ OCC g b c t) (e : k' = k + 1) : OCK g b p t k' := fun j hj => by
  by_cases w : (j : Int) < k
  · exact h j w
  · rw [show j = k.toNat by omega, hc]; exact ho
theorem npx_nn {nv na nb nc : Nat → Int32} {x : Nat} : 0 ≤ npx nv na nb nc x := by
  unfold npx
  split
  · decide
  · split
    · decide
    · split <;> decide
theorem ock_end {p q t : Nat} {k : Int} (h : OCK g b q t k) (hb : BRE g b p q) (ht : b t < 0) (hv : ¬ 0 ≤ g.1 q) (e : k = g.2.2.2.1 q) : ¬ OCC g b p t := fun ho => by
  obtain ⟨j, j1, j2⟩ := occ_node hv (occ_in hb ht ho)
  exact h j (by omega) j2
end GR
/-- what a unification of two places does: before any others -/
def UNX (g : GVT) (b b' : Nat → Int) (A C : Nat) (r : Int) : Prop := (r = 1 ∧ ∀ (gs : List (Nat × Nat)) (q : Bool) (x : Nat → Int), OUT g b' gs q x → OUT g b ((A, C) :: gs) q x) ∨ (r = 0 ∧ ∀ (gs : List (Nat × Nat)) (x : Nat → Int), OUT g b ((A, C) :: gs) false x)
/-- so many terms of two names are unified -/
def UNK (g : GVT) (b b' : Nat → Int) (A C : Nat) (a c : Nat) (k : Int) : Prop := ∀ (gs : List (Nat × Nat)) (q : Bool) (x : Nat → Int), OUT g b' (kdl g a c (g.2.2.2.1 a - k).toNat k.toNat ++ gs) q x → OUT g b ((A, C) :: gs) q x
section UK
variable {g : GVT} {b b1 b2 : Nat → Int} {A C a c : Nat}
theorem unx_same {r : Int} (h1 : BRE g b A a) (h2 : BRE g b C c) (h3 : 0 ≤ g.1 a) (h4 : 0 ≤ g.1 c) (h5 : g.2.1 c = g.2.1 a) (hr : r = 1) : UNX g b b A C r := Or.inl ⟨hr, fun _ _ _ ho => out_same h1 h2 h3 h4 h5 ho⟩
theorem unx_occ1 {r : Int} {b' : Nat → Int} (h1 : BRE g b A a) (h2 : BRE g b C c) (h3 : 0 ≤ g.1 a) (h4 : ¬ (0 ≤ g.1 c ∧ g.2.1 c = g.2.1 a)) (h5 : OCC g b c (g.2.1 a)) (hr : r = 0) : UNX g b b' A C r := Or.inr ⟨hr, fun _ _ => out_occ1 h1 h2 h3 h4 h5⟩
theorem unx_bind1 {r : Int} {b' : Nat → Int} (h1 : BRE g b A a) (h2 : BRE g b C c) (h3 : 0 ≤ g.1 a) (h4 : ¬ (0 ≤ g.1 c ∧ g.2.1 c = g.2.1 a)) (h5 : ¬ OCC g b c (g.2.1 a)) (hb : b' = bst b (g.2.1 a) c) (hr : r = 1) : UNX g b b' A C r := Or.inl ⟨hr, fun _ _ _ ho => out_bind1 h1 h2 h3 h4 h5 (by rw [← hb]; exact ho)⟩
theorem unx_occ2 {r : Int} {b' : Nat → Int} (h1 : BRE g b A a) (h2 : BRE g b C c) (h3 : ¬ 0 ≤ g.1 a) (h4 : 0 ≤ g.1 c) (h5 : OCC g b a (g.2.1 c)) (hr : r = 0) : UNX g b b' A C r := Or.inr ⟨hr, fun _ _ => out_occ2 h1 h2 h3 h4 h5⟩
theorem unx_bind2 {r : Int} {b' : Nat → Int} (h1 : BRE g b A a) (h2 : BRE g b C c) (h3 : ¬ 0 ≤ g.1 a) (h4 : 0 ≤ g.1 c) (h5 : ¬ OCC g b a (g.2.1 c)) (hb : b' = bst b (g.2.1 c) a) (hr : r = 1) : UNX g b b' A C r := Or.inl ⟨hr, fun _ _ _ ho => out_bind2 h1 h2 h3 h4 h5 (by rw [← hb]; exact ho)⟩
theorem unx_name {r : Int} {b' : Nat → Int} (h1 : BRE g b A a) (h2 : BRE g b C c) (h3 : ¬ 0 ≤ g.1 a) (h4 : ¬ 0 ≤ g.1 c) (h5 : ¬ (g.2.2.1 a = g.2.2.1 c ∧ g.2.2.2.1 a = g.2.2.2.1 c)) (hr : r = 0) : UNX g b b' A C r := Or.inr ⟨hr, fun _ _ => out_name h1 h2 h3 h4 h5⟩
theorem unk_zero {k : Int} (h1 : BRE g b A a) (h2 : BRE g b C c) (h3 : ¬ 0 ≤ g.1 a) (h4 : ¬ 0 ≤ g.1 c) (h5 : g.2.2.1 a = g.2.2.1 c ∧ g.2.2.2.1 a = g.2.2.2.1 c) (hk : k = 0) : UNK g b b A C a c k := fun gs q x ho => by
  subst hk
  rw [Int.sub_zero] at ho
  exact out_kids h1 h2 h3 h4 h5 ho
theorem unk_step {k k' r : Int} {u v : Nat} (h : UNK g b b1 A C a c k) (hk : 0 ≤ k ∧ k < g.2.2.2.1 a) (hu : g.2.2.2.2 a k.toNat = u) (hv : g.2.2.2.2 c k.toNat = v) (hx : UNX g b1 b2 u v r) (hr : r = 1) (e : k' = k + 1) : UNK g b b2 A C a c k' := fun gs q x ho => by
  rcases hx with ⟨_, hx⟩ | ⟨hx, _⟩
  · refine h gs q x ?_
    rw [show (g.2.2.2.1 a - k).toNat = (g.2.2.2.1 a - k').toNat + 1 by omega]
    show OUT g b1 ((g.2.2.2.2 a k.toNat, g.2.2.2.2 c k.toNat) :: (kdl g a c (g.2.2.2.1 a - k').toNat (k.toNat + 1) ++ gs)) q x
    rw [hu, hv, show k.toNat + 1 = k'.toNat by omega]
    exact hx _ q x ho
  · omega
theorem unk_not {k r r' : Int} {u v : Nat} {b' : Nat → Int} (h : UNK g b b1 A C a c k) (hk : 0 ≤ k ∧ k < g.2.2.2.1 a) (hu : g.2.2.2.2 a k.toNat = u) (hv : g.2.2.2.2 c k.toNat = v) (hx : UNX g b1 b2 u v r) (hr : r = 0) (hr' : r' = 0) : UNX g b b' A C r' := by
  rcases hx with ⟨hx, _⟩ | ⟨_, hx⟩
  · omega
  · refine Or.inr ⟨hr', fun gs x => h gs false x ?_⟩
    rw [show (g.2.2.2.1 a - k).toNat = (g.2.2.2.1 a - k - 1).toNat + 1 by omega]
    show OUT g b1 ((g.2.2.2.2 a k.toNat, g.2.2.2.2 c k.toNat) :: (kdl g a c (g.2.2.2.1 a - k - 1).toNat (k.toNat + 1) ++ gs)) false x
    rw [hu, hv]
    exact hx _ x
theorem unk_end {k r : Int} (h : UNK g b b1 A C a c k) (hk : g.2.2.2.1 a ≤ k) (hr : r = 1) : UNX g b b1 A C r := Or.inl ⟨hr, fun gs q x ho => h gs q x (by
  rw [show (g.2.2.2.1 a - k).toNat = 0 by omega]
  exact ho)⟩
theorem unx_out {r : Int} (h : UNX g b b1 A C r) : (r = 1 ∧ OUT g b [(A, C)] true b1) ∨ (r = 0 ∧ ∀ x : Nat → Int, OUT g b [(A, C)] false x) := by
  rcases h with ⟨e, h⟩ | ⟨e, h⟩
  · exact Or.inl ⟨e, h [] true b1 out_nil⟩
  · exact Or.inr ⟨e, fun x => h [] x⟩
end UK
/-- the view itself -/
def RGW (nn : Nat → Int64) (nv na nb nc : Nat → Int32) : GVT := (fun p => (nv (p % 8000)).toInt, fun p => 8 * (p / 8000) + (nv (p % 8000)).toInt.toNat, fun p => (nn (p % 8000)).toInt, fun p => npx nv na nb nc (p % 8000), fun p k => 8000 * (p / 8000) + (ptx na nb nc (p % 8000) (k : Int)).toInt.toNat)
theorem rgw_grv {nn : Nat → Int64} {nv na nb nc : Nat → Int32} : GRV (RGW nn nv na nb nc) nv na nb nc := fun x i hx => by
  have e1 : (8000 * i + x) % 8000 = x := by omega
  have e2 : (8000 * i + x) / 8000 = i := by omega
  unfold RGW
  refine ⟨?_, ?_, ?_, fun k _ => ?_⟩
  · show (nv ((8000 * i + x) % 8000)).toInt = _
    rw [e1]
  · show 8 * ((8000 * i + x) / 8000) + (nv ((8000 * i + x) % 8000)).toInt.toNat = _
    rw [e1, e2]
  · show npx nv na nb nc ((8000 * i + x) % 8000) = _
    rw [e1]
  · show 8000 * ((8000 * i + x) / 8000) + (ptx na nb nc ((8000 * i + x) % 8000) (k : Int)).toInt.toNat = _
    rw [e1, e2]
theorem rgw_grn {nn : Nat → Int64} {nv na nb nc : Nat → Int32} : GRN (RGW nn nv na nb nc) nn := fun x i hx => by
  have e1 : (8000 * i + x) % 8000 = x := by omega
  show (nn ((8000 * i + x) % 8000)).toInt = _
  rw [e1]
