/-! one pair of the class's unification; the class's places -/
def CGV (V : VWT) : GVT := (fun p => V.1 (p % 300), fun p => p / 300 * 8 + (V.1 (p % 300)).toNat, fun p => V.2.1 (p % 300), fun p => V.2.2.1 (p % 300), fun p k => p / 300 * 300 + V.2.2.2 (p % 300) k)
def BDV (f : Nat → Int32) : Nat → Int := fun c => (f c).toInt - 1
theorem bdv_upd {f f' : Nat → Int32} {k x : Nat} {v : Int32} (e : f' = upd f k v) (h : v.toInt = (x : Int) + 1) : BDV f' = bst (BDV f) k x := by
  funext s
  unfold BDV bst
  rw [e]
  by_cases c : s = k
  · rw [c, pk_us, if_pos rfl]; omega
  · rw [pk_un c, if_neg c]
/-- what does not change: so many places and cells, each variable's place -/
def BST (g : GVT) (bo : Nat → Int) (S : Nat → Prop) (SL VL : List Nat) : Prop := (∀ p : Nat, S p → p < 9600 ∧ p ∈ SL ∧ HSn g 7 p ∧ 0 ≤ g.2.2.2.1 p ∧ g.2.2.2.1 p ≤ 3) ∧ (∀ p : Nat, S p → 0 ≤ g.1 p → (g.2.1 p ∈ VL ∨ (0 ≤ bo (g.2.1 p) ∧ 0 ≤ g.1 (bo (g.2.1 p)).toNat)) ∧ g.2.1 p < 256) ∧ SL.length ≤ 640 ∧ VL.length ≤ 140 ∧ ∀ p q : Nat, S p → S q → 0 ≤ g.1 p → 0 ≤ g.1 q → g.2.1 p = g.2.1 q → p = q
def RTQ (sam : Nat → Int32) (a c : Nat) : Prop := ∃ x : Nat, RTE sam a x ∧ RTE sam c x
def PAX (g : GVT) (b b' : Nat → Int) (sam f f' h h' : Nat → Int32) (t t' a c : Nat) (r : Int) : Prop :=
  (r = 1 ∧ RTQ sam a c ∧ b' = b ∧ f' = f ∧ h' = h ∧ t' = t) ∨
  (¬ RTQ sam a c ∧ ((0 ≤ g.1 a ∧ ((r = 0 ∧ OCC g b c (g.2.1 a)) ∨ (r = 1 ∧ ¬ OCC g b c (g.2.1 a) ∧ b' = bst b (g.2.1 a) c ∧ f' = f ∧ h' = h ∧ t' = t))) ∨
    (¬ 0 ≤ g.1 a ∧ 0 ≤ g.1 c ∧ ((r = 0 ∧ OCC g b a (g.2.1 c)) ∨ (r = 1 ∧ ¬ OCC g b a (g.2.1 c) ∧ b' = bst b (g.2.1 c) a ∧ f' = f ∧ h' = h ∧ t' = t))) ∨
    (¬ 0 ≤ g.1 a ∧ ¬ 0 ≤ g.1 c ∧ ((r = 0 ∧ ¬ (g.2.2.1 a = g.2.2.1 c ∧ g.2.2.2.1 a = g.2.2.2.1 c)) ∨ (r = 1 ∧ (g.2.2.1 a = g.2.2.1 c ∧ g.2.2.2.1 a = g.2.2.2.1 c) ∧ b' = b ∧ ((g.2.2.2.1 a ≤ 0 ∧ f' = f ∧ h' = h ∧ t' = t) ∨ (1 ≤ g.2.2.2.1 a ∧ PSH g a c t t' f f' h h')))))))
section PX
variable {g : GVT} {b b' bo : Nat → Int} {S : Nat → Prop} {SL VL : List Nat} {sam jnd f f' h h' : Nat → Int32}
theorem ext_tr {b0 b1 b2 : Nat → Int} (h : EXT b0 b1) (k : EXT b1 b2) : EXT b0 b2 := fun t ht => by
  have e := h t ht
  rw [k t (by omega)]; exact e
theorem bst_lt (hb : BST g bo S SL VL) : ∀ p : Nat, S p → p < 9600 := fun p hp => (hb.1 p hp).1
theorem ter_free {a : Nat} (h : BRE g b a a) (hv : 0 ≤ g.1 a) : b (g.2.1 a) < 0 := by
  have t := bre_ter2 h
  by_cases w : 0 ≤ b (g.2.1 a)
  · exact absurd ⟨hv, w⟩ t
  · omega
theorem free_of {p a : Nat} (h : BRE g b p a) (hv : 0 ≤ g.1 a) : b (g.2.1 a) < 0 := ter_free (bre_ter (bre_ter2 h)) hv
theorem unv_pair {J n : Int} {t t' a c : Nat} {r : Int} (hb : BST g bo S SL VL) (hu : UNV g b S sam jnd J f h (t + 1) n) (hp : ¬ (f t).toInt < 0) (b1 : BRE g b (plx f t) a) (b2 : BRE g b (prx h t) c) (hx : PAX g b b' sam f f' h h' t t' a c r) : (r = 1 ∧ UNV g b' S sam jnd J f' h' t' (n + 1) ∧ (∀ (q : Bool) (x : Nat → Int), OUT g b' (gls f' h' t') q x → OUT g b (gls f h (t + 1)) q x) ∧ EXT b b') ∨ (r = 0 ∧ ∀ x : Nat → Int, OUT g b (gls f h (t + 1)) false x) := by
  have hu0 := hu
  obtain ⟨u1, u2, u3, u4, u5, u6⟩ := hu
  obtain ⟨s1, s2, _, _⟩ := u5 t (by omega)
  have sa := cld_bre u1 s1 b1
  have sc := cld_bre u1 s2 b2
  have eg : gls f h (t + 1) = (plx f t, prx h t) :: gls f h t := by rw [gls_s, if_neg hp]
  have rt : ∀ p : Nat, S p → ∃ x : Nat, RTE sam p x := fun p hq => by
    obtain ⟨m, _, z⟩ := joi_root (bst_lt hb) u3 hq
    exact ⟨_, m, rfl, z⟩
  rcases hx with ⟨er, ⟨x, r1, r2⟩, e1, e2, e3, e4⟩ | ⟨hn, hx⟩
  · subst e1; subst e2; subst e3; subst e4
    obtain ⟨n1, a1, _⟩ := r1
    obtain ⟨n2, a2, _⟩ := r2
    obtain ⟨k1, _⟩ := lnk_rte u4 u1 u2 n1 _ _ sa a1
    obtain ⟨k2, _⟩ := lnk_rte u4 u1 u2 n2 _ _ sc a2
    have al : ALK g b' (plx f' t') (prx h' t') := alk_tr (al_bre u1 u2 s1 b1) (alk_tr (alk_tr k1 (alk_symm k2)) (alk_symm (al_bre u1 u2 s2 b2)))
    obtain ⟨m, hm⟩ := u2 _ s1
    exact Or.inl ⟨er, unv_alike hu0 hp al, fun q x ho => by rw [eg]; exact out_alike m _ _ _ q x hm al ho, fun _ _ => rfl⟩
  · have ns : ¬ (0 ≤ g.1 a ∧ 0 ≤ g.1 c ∧ g.2.1 a = g.2.1 c) := fun w => hn (by
      have e := hb.2.2.2.2 a c sa sc w.1 w.2.1 w.2.2
      subst e
      obtain ⟨x, hr⟩ := rt a sa
      exact ⟨x, hr, hr⟩)
    rcases hx with ⟨va, hx⟩ | ⟨va, vc, hx⟩ | ⟨va, vc, hx⟩
    · have fr := free_of b1 va
      have ns2 : ¬ (0 ≤ g.1 c ∧ g.2.1 c = g.2.1 a) := fun w => ns ⟨va, w.1, w.2.symm⟩
      rcases hx with ⟨er, ho⟩ | ⟨er, ho, e1, e2, e3, e4⟩
      · exact Or.inr ⟨er, fun x => by rw [eg]; exact out_occ1 b1 b2 va ns2 ho⟩
      · subst e1; subst e2; subst e3; subst e4
        exact Or.inl ⟨er, unv_bind (v := 0) hu0 hp fr sc ho (Or.inl ⟨b1, va, rfl, b2⟩), fun q x hq => by rw [eg]; exact out_bind1 b1 b2 va ns2 ho hq, ext_bst fr⟩
    · have fr := free_of b2 vc
      rcases hx with ⟨er, ho⟩ | ⟨er, ho, e1, e2, e3, e4⟩
      · exact Or.inr ⟨er, fun x => by rw [eg]; exact out_occ2 b1 b2 va vc ho⟩
      · subst e1; subst e2; subst e3; subst e4
        exact Or.inl ⟨er, unv_bind (v := 0) hu0 hp fr sa ho (Or.inr ⟨b2, vc, rfl, b1⟩), fun q x hq => by rw [eg]; exact out_bind2 b1 b2 va vc ho hq, ext_bst fr⟩
    · rcases hx with ⟨er, ho⟩ | ⟨er, ho, e1, hx⟩
      · exact Or.inr ⟨er, fun x => by rw [eg]; exact out_name b1 b2 va vc ho⟩
      · subst e1
        rcases hx with ⟨z, e2, e3, e4⟩ | ⟨z, hq⟩
        · subst e2; subst e3; subst e4
          have al0 : ALK g b' a c := fun k => by
            cases k with
            | zero => exact True.intro
            | succ k => exact ⟨a, c, bre_ter (bre_ter2 b1), bre_ter (bre_ter2 b2), Or.inr ⟨va, vc, ho.1, ho.2, fun j hj => absurd hj (by omega)⟩⟩
          have al : ALK g b' (plx f' t') (prx h' t') := alk_tr (al_bre u1 u2 s1 b1) (alk_tr al0 (alk_symm (al_bre u1 u2 s2 b2)))
          exact Or.inl ⟨er, unv_alike hu0 hp al, fun q x hq => by
            rw [eg]
            refine out_kids b1 b2 va vc ho ?_
            rw [show (g.2.2.2.1 a).toNat = 0 by omega]
            exact hq, fun _ _ => rfl⟩
        · have ar := (hb.1 a sa).2.2.2
          have nr : NRT sam a c := fun x y r1 r2 e => hn ⟨x, r1, by rw [e]; exact r2⟩
          exact Or.inl ⟨er, unv_push hu0 hp b1 b2 ⟨va, vc, ho.1, ho.2⟩ nr ⟨z, ar.2⟩ hq, fun q x hq2 => by
            rw [eg]
            refine out_kids b1 b2 va vc ho ?_
            rw [← psh_gls hq (by omega)]
            exact hq2, fun _ _ => rfl⟩
end PX
/-! the class's rows as a view -/
def GVV (g : GVT) (var : Nat → Int32) : Prop := ∀ p : Nat, p < 9600 → g.1 p = (var (p % 300)).toInt ∧ g.2.1 p = p / 300 * 8 + (var (p % 300)).toInt.toNat
def GVK (g : GVT) (trm ter : Nat → Int32) : Prop := ∀ p : Nat, p < 9600 → g.2.2.2.1 p = (trm (p % 300)).toInt ∧ ∀ k : Nat, k < 3 → g.2.2.2.2 p k = p / 300 * 300 + Int32.toNatClampNeg (ter (3 * (p % 300) + k))
def GVM (g : GVT) (nam : Nat → Int64) : Prop := ∀ p : Nat, p < 9600 → g.2.2.1 p = (nam (p % 300)).toInt
def BRX (g : GVT) (b : Nat → Int) (p r : Int32) : Prop := ∃ m : Nat, m ≤ 256 ∧ r.toInt.toNat = brF g b m p.toInt.toNat ∧ (m = 256 ∨ TER g b r.toInt.toNat)
def RTX (sam : Nat → Int32) (p r : Int32) : Prop := ∃ m : Nat, r.toInt.toNat = rtF sam m p.toInt.toNat ∧ (m = 1024 ∨ (sam r.toInt.toNat).toInt = 0)
def SFR (see : Nat → Int32) (s : Int32) : Prop := ∀ c : Nat, c < 256 → (see c).toInt ≤ s.toInt
section GX
variable {g : GVT} {b bo : Nat → Int} {S : Nat → Prop} {SL VL : List Nat} {var trm ter bnd sam jnd : Nat → Int32} {nam : Nat → Int64}
theorem gvv_at {x i z : Int32} (hg : GVV g var) (hx : 0 ≤ x.toInt ∧ x.toInt ≤ 9599) (hi : i.toInt = x.toInt % 300) (hz : z = var (Int32.toNatClampNeg i)) : g.1 x.toInt.toNat = z.toInt ∧ (0 ≤ z.toInt → ((g.2.1 x.toInt.toNat : Nat) : Int) = x.toInt / 300 * 8 + z.toInt) := by
  obtain ⟨h1, h2⟩ := hg x.toInt.toNat (by omega)
  have e : Int32.toNatClampNeg i = x.toInt.toNat % 300 := by rw [clamp_nat (by omega)]; omega
  rw [e] at hz
  rw [← hz] at h1 h2
  exact ⟨h1, fun w => by omega⟩
theorem gvk_at {x i z : Int32} (hg : GVK g trm ter) (hx : 0 ≤ x.toInt ∧ x.toInt ≤ 9599) (hi : i.toInt = x.toInt % 300) (hz : z = trm (Int32.toNatClampNeg i)) : g.2.2.2.1 x.toInt.toNat = z.toInt := by
  obtain ⟨h1, _⟩ := hg x.toInt.toNat (by omega)
  have e : Int32.toNatClampNeg i = x.toInt.toNat % 300 := by rw [clamp_nat (by omega)]; omega
  rw [e] at hz
  rw [h1, hz]
theorem gvk_ch {x i z w : Int32} {k : Int} (hg : GVK g trm ter) (hx : 0 ≤ x.toInt ∧ x.toInt ≤ 9599) (hk : 0 ≤ k ∧ k ≤ 2) (hi : i.toInt = x.toInt % 300 * 3 + k) (hz : z = ter (Int32.toNatClampNeg i)) (hz0 : 0 ≤ z.toInt) (hw : w.toInt = x.toInt - x.toInt % 300 + z.toInt) : w.toInt = (g.2.2.2.2 x.toInt.toNat k.toNat : Nat) := by
  obtain ⟨_, h2⟩ := hg x.toInt.toNat (by omega)
  have h3 := h2 k.toNat (by omega)
  have e : Int32.toNatClampNeg i = 3 * (x.toInt.toNat % 300) + k.toNat := by rw [clamp_nat (by omega)]; omega
  rw [e] at hz
  rw [← hz] at h3
  have c := clamp_toInt hz0
  omega
theorem bdv_at {i z : Int32} {c : Nat} (hc : (c : Int) = i.toInt) (hz : z = bnd (Int32.toNatClampNeg i)) : BDV bnd c = z.toInt - 1 := by
  unfold BDV
  have e : Int32.toNatClampNeg i = c := by rw [clamp_nat (by omega)]; omega
  rw [e] at hz
  rw [hz]
theorem brx_end {x p : Int32} {k : Int} (h : x.toInt.toNat = brF g b k.toNat p.toInt.toNat) (hk : 0 ≤ k ∧ k ≤ 256) (ht : k = 256 ∨ TER g b x.toInt.toNat) : BRX g b p x := ⟨k.toNat, by omega, h, by
  rcases ht with q | q
  · exact Or.inl (by omega)
  · exact Or.inr q⟩
theorem brx_step {x z w : Int32} {k k' : Int} {P : Nat} (h : x.toInt.toNat = brF g b k.toNat P) (hk : 0 ≤ k) (c1 : 0 ≤ g.1 x.toInt.toNat) (c2 : b (g.2.1 x.toInt.toNat) = z.toInt - 1) (hz : 1 ≤ z.toInt) (hw : w.toInt = z.toInt - 1) (e : k' = k + 1) : w.toInt.toNat = brF g b k'.toNat P := by
  rw [show k'.toNat = k.toNat + 1 by omega, brF_add, ← h, brF_s, if_pos ⟨c1, by omega⟩, c2]
  show _ = (z.toInt - 1).toNat
  rw [hw]
theorem brx_bre {p r : Int32} (hb : BST g bo S SL VL) (hc : CLD g b S) (hf : FIN g b S) (hp : S p.toInt.toNat) (h : BRX g b p r) : BRE g b p.toInt.toNat r.toInt.toNat ∧ S r.toInt.toNat := by
  obtain ⟨m, m1, m2, m3⟩ := h
  have key : BRE g b p.toInt.toNat r.toInt.toNat := by
    rcases m3 with m3 | m3
    · subst m3
      obtain ⟨n, hn⟩ := hf _ hp
      obtain ⟨q, hq⟩ := ht_bre hn
      have e := bre_256 hq (fun n hn => (hb.2.1 _ (by
        obtain ⟨j, hj⟩ := bre_rch (g := g) (b := b) n p.toInt.toNat
        exact cld_rch hc j _ _ hp hj) hn).2)
      rw [m2, e]; exact hq
    · exact ⟨m, m2.symm, m3⟩
  exact ⟨key, cld_bre hc hp key⟩
theorem rtx_step {x z w : Int32} {k k' : Int} {P : Nat} (h : x.toInt.toNat = rtF sam k.toNat P) (hk : 0 ≤ k) (hx : 0 ≤ x.toInt) (hz : z = sam (Int32.toNatClampNeg x)) (hz1 : ¬ z.toInt = 0) (hw : w.toInt = z.toInt - 1) (e : k' = k + 1) : w.toInt.toNat = rtF sam k'.toNat P := by
  rw [clamp_nat hx] at hz
  rw [show k'.toNat = k.toNat + 1 by omega, rtF_add, ← h, rtF_s, if_neg (by rw [← hz]; exact hz1)]
  show _ = nxt sam x.toInt.toNat
  unfold nxt
  rw [← hz, hw]
theorem rtx_end {x p : Int32} {k : Int} (h : x.toInt.toNat = rtF sam k.toNat p.toInt.toNat) (hk : 0 ≤ k) (ht : k = 1024 ∨ (sam x.toInt.toNat).toInt = 0) : RTX sam p x := ⟨k.toNat, h, by
  rcases ht with q | q
  · exact Or.inl (by omega)
  · exact Or.inr q⟩
theorem rtx_zero {x z : Int32} (hx : 0 ≤ x.toInt) (hz : z = sam (Int32.toNatClampNeg x)) (h : z.toInt = 0) : (sam x.toInt.toNat).toInt = 0 := by
  rw [clamp_nat hx] at hz
  rw [← hz]; exact h
theorem rtx_rte {J : Int} {p r : Int32} (hb : BST g bo S SL VL) (hj : JOI S sam jnd J) (hp : S p.toInt.toNat) (h : RTX sam p r) : RTE sam p.toInt.toNat r.toInt.toNat := by
  obtain ⟨m, m1, m2⟩ := h
  have l := joi_len (fun p hp => (hb.1 p hp).2.1) hj
  have := hb.2.2.1
  exact joi_rt (bst_lt hb) hj (by omega) hp m1 m2
end GX
/-! what the small steps leave -/
def JNX (sam sam' jnd jnd' : Nat → Int32) (j j' p1 p2 : Int32) : Prop := ∃ q1 q2 : Int32, RTX sam p1 q1 ∧ RTX sam p2 q2 ∧ 0 ≤ q1.toInt ∧ 0 ≤ q2.toInt ∧ (((q1.toInt = q2.toInt ∨ 1024 ≤ j.toInt) ∧ sam' = sam ∧ jnd' = jnd ∧ j' = j) ∨ ∃ y : Int32, y.toInt = q2.toInt + 1 ∧ sam' = upd sam (Int32.toNatClampNeg q1) y ∧ jnd' = upd jnd (Int32.toNatClampNeg j) q1 ∧ j'.toInt = j.toInt + 1)
def HIN (g : GVT) (f0 f : Nat → Int32) (n x : Nat) (k : Int) : Prop := (∀ j : Nat, j < n → f j = f0 j) ∧ ∀ i : Nat, (i : Int) < k → prx f (n + i) = g.2.2.2.2 x i
theorem hin_zero {g : GVT} {f : Nat → Int32} {n x : Nat} {k : Int} (h : k = 0) : HIN g f f n x k := ⟨fun _ _ => rfl, fun i hi => absurd hi (by omega)⟩
theorem hin_cast {g : GVT} {f0 f : Nat → Int32} {n x : Nat} {k k' : Int} (h : HIN g f0 f n x k) (e : k' = k) : HIN g f0 f n x k' := by subst e; exact h
theorem hin_step {g : GVT} {f0 f f' : Nat → Int32} {n x : Nat} {k k' : Int} {i v : Int32} (h : HIN g f0 f n x k) (hk : 0 ≤ k) (hi : i.toInt = (n : Int) + k) (hv : v.toInt = (g.2.2.2.2 x k.toNat : Nat)) (e : f' = upd f (Int32.toNatClampNeg i) v) (ek : k' = k + 1) : HIN g f0 f' n x k' := by
  have ci : Int32.toNatClampNeg i = n + k.toNat := by rw [clamp_nat (by omega)]; omega
  rw [ci] at e
  refine ⟨fun j hj => by rw [e, pk_un (by omega)]; exact h.1 j hj, fun j hj => ?_⟩
  unfold prx
  by_cases c : j = k.toNat
  · rw [c, e, pk_us]; omega
  · rw [e, pk_un (by omega)]; exact h.2 j (by omega)
theorem hsv_cast {g : GVT} {b : Nat → Int} {S : Nat → Prop} {VL : List Nat} {t P n n' : Nat} {sen hol : Nat → Int32} {sr : Int32} {i i' : Int} (h : HSV g b S VL t P sen sr hol n i) (e : n' = n) (f : i' = i) : HSV g b S VL t P sen sr hol n' i' := by subst e; subst f; exact h
/-- a pushing of terms: so many are on the rows -/
def PSI (g : GVT) (a c t : Nat) (M k : Int) (f0 f h0 h : Nat → Int32) (T : Int) : Prop := (M ≤ 0 ∧ k = M - 1 ∧ f = f0 ∧ h = h0 ∧ T = t) ∨ (1 ≤ M ∧ (∀ i : Nat, i < t → f i = f0 i ∧ h i = h0 i) ∧ T = t + M - k ∧ (f t).toInt = -1 - (a : Int) ∧ (h t).toInt = (c : Int) ∧ ∀ j : Nat, k < (j : Int) → (j : Int) < M → (f (t + M.toNat - j)).toInt = (g.2.2.2.2 a j : Int) ∧ (h (t + M.toNat - j)).toInt = (g.2.2.2.2 c j : Int))
def PSX (g : GVT) (a c t : Nat) (f f' h h' : Nat → Int32) (T r : Int) : Prop := (r = 0 ∧ 2048 < (t : Int) + g.2.2.2.1 a + 1) ∨ (r = 1 ∧ ((g.2.2.2.1 a ≤ 0 ∧ f' = f ∧ h' = h ∧ T = t) ∨ (1 ≤ g.2.2.2.1 a ∧ PSH g a c t T.toNat f f' h h')))
section PS
variable {g : GVT} {a c t : Nat} {M k T : Int} {f0 f f' h0 h h' : Nat → Int32}
theorem psi_zero (hM : M ≤ 0) (hk : k = M - 1) (hT : T = (t : Int)) : PSI g a c t M k f f h h T := Or.inl ⟨hM, hk, rfl, rfl, hT⟩
theorem psi_mark {i v w : Int32} (hM : 1 ≤ M) (hk : k = M - 1) (hi : i.toInt = (t : Int)) (hv : v.toInt = -1 - (a : Int)) (hw : w.toInt = (c : Int)) (ef : f' = upd f (Int32.toNatClampNeg i) v) (eh : h' = upd h (Int32.toNatClampNeg i) w) (hT : T = (t : Int) + 1) : PSI g a c t M k f f' h h' T := by
  have ci : Int32.toNatClampNeg i = t := by rw [clamp_nat (by omega)]; omega
  rw [ci] at ef eh
  refine Or.inr ⟨hM, fun j hj => ⟨by rw [ef, pk_un (by omega)], by rw [eh, pk_un (by omega)]⟩, by omega, by rw [ef, pk_us]; exact hv, by rw [eh, pk_us]; exact hw, fun j h1 h2 => absurd h1 (by omega)⟩
theorem psi_step {i v w : Int32} {k' T' : Int} (hp : PSI g a c t M k f0 f h0 h T) (hk : 0 ≤ k ∧ k < M) (hi : i.toInt = T) (hv : v.toInt = (g.2.2.2.2 a k.toNat : Nat)) (hw : w.toInt = (g.2.2.2.2 c k.toNat : Nat)) (ef : f' = upd f (Int32.toNatClampNeg i) v) (eh : h' = upd h (Int32.toNatClampNeg i) w) (ek : k' = k - 1) (eT : T' = T + 1) : PSI g a c t M k' f0 f' h0 h' T' := by
  rcases hp with ⟨q, _⟩ | ⟨p1, p2, p3, p4, p5, p6⟩
  · omega
  have ci : Int32.toNatClampNeg i = t + M.toNat - k.toNat := by rw [clamp_nat (by omega)]; omega
  rw [ci] at ef eh
  refine Or.inr ⟨p1, fun j hj => ?_, by omega, ?_, ?_, fun j h1 h2 => ?_⟩
  · rw [ef, eh, pk_un (by omega), pk_un (by omega)]; exact p2 j hj
  · rw [ef, pk_un (by omega)]; exact p4
  · rw [eh, pk_un (by omega)]; exact p5
  · by_cases w : j = k.toNat
    · rw [w, ef, eh, pk_us, pk_us]; exact ⟨hv, hw⟩
    · rw [ef, eh, pk_un (by omega), pk_un (by omega)]; exact p6 j (by omega) h2
theorem psi_end {r : Int} (hp : PSI g a c t M k f0 f h0 h T) (hk : k = -1) (hM : M = g.2.2.2.1 a) (h0M : 0 ≤ M) (hr : r = 1) : PSX g a c t f0 f h0 h T r := by
  subst hM
  refine Or.inr ⟨hr, ?_⟩
  rcases hp with ⟨q1, q2, q3, q4, q5⟩ | ⟨p1, p2, p3, p4, p5, p6⟩
  · exact Or.inl ⟨q1, q3, q4, q5⟩
  · exact Or.inr ⟨p1, p2, by omega, p4, p5, fun j hj => p6 j (by omega) hj⟩
end PS
/-- cells on the trail are unlike, and bound -/
def TRC (T : Int) (trl bnd : Nat → Int32) : Prop := (∀ i j : Nat, (i : Int) < T → (j : Int) < T → (trl i).toInt = (trl j).toInt → i = j) ∧ ∀ i : Nat, (i : Int) < T → ¬ (bnd (trl i).toInt.toNat).toInt = 0
theorem trc_room {T : Int} {trl bnd : Nat → Int32} {c : Nat} (h : TRC T trl bnd) (hr : Rg 0 255 trl) (h0 : 0 ≤ T) (hc : c < 256) (hb : (bnd c).toInt = 0) : T ≤ 255 := by
  have k := inj_le T.toNat (fun i => (trl i).toInt.toNat) ((List.range 256).erase c) (fun i hi => by
    have r := hr i
    have ne : (trl i).toInt.toNat ≠ c := fun e => h.2 i (by omega) (by rw [e]; exact hb)
    exact (List.mem_erase_of_ne ne).mpr (List.mem_range.mpr (by omega))) (fun i j a d e => h.1 i j (by omega) (by omega) (by
    have r1 := hr i
    have r2 := hr j
    have e2 : (trl i).toInt.toNat = (trl j).toInt.toNat := e
    omega))
  rw [List.length_erase_of_mem (List.mem_range.mpr hc), List.length_range] at k
  omega
theorem trc_bind {T : Int} {trl trl' bnd bnd' : Nat → Int32} {k s v : Int32} (h : TRC T trl bnd) (hr : Rg 0 255 trl) (hT : k.toInt = T) (h0 : 0 ≤ T) (hs : 0 ≤ s.toInt) (hb : (bnd (Int32.toNatClampNeg s)).toInt = 0) (hv : ¬ v.toInt = 0) (e1 : bnd' = upd bnd (Int32.toNatClampNeg s) v) (e2 : trl' = upd trl (Int32.toNatClampNeg k) s) : TRC (T + 1) trl' bnd' := by
  have ck : Int32.toNatClampNeg k = T.toNat := by rw [clamp_nat (by omega)]; omega
  have cs : Int32.toNatClampNeg s = s.toInt.toNat := clamp_nat hs
  rw [ck] at e2
  rw [cs] at e1 hb
  have new : trl' T.toNat = s := by rw [e2, pk_us]
  have old : ∀ i : Nat, (i : Int) < T → trl' i = trl i := fun i hi => by rw [e2, pk_un (by omega)]
  have ns : ∀ i : Nat, (i : Int) < T → (trl i).toInt ≠ s.toInt := fun i hi e => h.2 i hi (by rw [e]; exact hb)
  refine ⟨fun i j hi hj e => ?_, fun i hi => ?_⟩
  · by_cases c : (i : Int) < T
    · by_cases d : (j : Int) < T
      · rw [old i c, old j d] at e; exact h.1 i j c d e
      · have ej : j = T.toNat := by omega
        subst ej
        rw [old i c, new] at e
        exact absurd e (ns i c)
    · have ei : i = T.toNat := by omega
      subst ei
      by_cases d : (j : Int) < T
      · rw [old j d, new] at e
        exact absurd e.symm (ns j d)
      · omega
  · by_cases c : (i : Int) < T
    · have r := hr i
      have q := ns i c
      rw [old i c, e1, pk_un (by omega)]
      exact h.2 i c
    · have ei : i = T.toNat := by omega
      subst ei
      rw [new, e1, pk_us]; exact hv
theorem sfr_upd {see see' : Nat → Int32} {s : Int32} {i : Nat} (h : SFR see s) (e : see' = upd see i s) : SFR see' s := fun c hc => by
  by_cases w : c = i
  · rw [w, e, pk_us]; omega
  · rw [e, pk_un w]; exact h c hc
theorem vrb_ix {var : Nat → Int32} {p : Int32} (hp : 0 ≤ p.toInt ∧ p.toInt ≤ 9599) : ∃ i : Int32, i.toInt = p.toInt % 300 ∧ vrb var p = var (Int32.toNatClampNeg i) := ⟨p - p / 300 * 300, i_rem rfl (by decide) (by omega), rfl⟩
theorem gvv_vrb {g : GVT} {var : Nat → Int32} {p : Int32} (hg : GVV g var) (hp : 0 ≤ p.toInt ∧ p.toInt ≤ 9599) : g.1 p.toInt.toNat = (vrb var p).toInt ∧ (0 ≤ (vrb var p).toInt → ((g.2.1 p.toInt.toNat : Nat) : Int) = p.toInt / 300 * 8 + (vrb var p).toInt) := by
  obtain ⟨i, hi, hv⟩ := vrb_ix (var := var) hp
  exact gvv_at hg hp hi hv
def RTR (S : Nat → Prop) (sam : Nat → Int32) : Prop := ∀ p r : Int32, S p.toInt.toNat → RTX sam p r → RTE sam p.toInt.toNat r.toInt.toNat
/-- the loop of a unification, whether it fits so far -/
def UNL (g : GVT) (b0 : Nat → Int) (P Q : Nat) (S : Nat → Prop) (b : Nat → Int) (sam jnd : Nat → Int32) (J : Int) (f h : Nat → Int32) (t : Nat) (n fits : Int) : Prop := JOI S sam jnd J ∧ ((fits = 1 ∧ UNV g b S sam jnd J f h t n ∧ (∀ (q : Bool) (x : Nat → Int), OUT g b (gls f h t) q x → OUT g b0 [(P, Q)] q x) ∧ EXT b0 b) ∨ (fits = 0 ∧ ∀ x : Nat → Int, OUT g b0 [(P, Q)] false x))
def OUX (g : GVT) (b0 b : Nat → Int) (S : Nat → Prop) (P Q : Nat) (r : Int) : Prop := (r = 1 ∧ OUT g b0 [(P, Q)] true b ∧ CLD g b S ∧ FIN g b S) ∨ (r = 0 ∧ ∀ x : Nat → Int, OUT g b0 [(P, Q)] false x)
def SRS (sam jnd : Nat → Int32) (J k : Int) : Prop := ∀ p : Nat, p < 9600 → ¬ (sam p).toInt = 0 → ∃ i : Nat, k ≤ (i : Int) ∧ (i : Int) < J ∧ pj jnd i = p
section UX
variable {g : GVT} {b0 b b' bo : Nat → Int} {P Q : Nat} {S : Nat → Prop} {SL VL : List Nat} {sam sam' jnd jnd' f f' h h' : Nat → Int32}
theorem unl_zero {p q : Int32} (hb : BST g bo S SL VL) (hc : CLD g b S) (hf : FIN g b S) (hz : ∀ p : Nat, p < 9600 → (sam p).toInt = 0) (e1 : f' = upd f 0 p) (e2 : h' = upd h 0 q) (hp : 0 ≤ p.toInt) (hq : 0 ≤ q.toInt) (s1 : S p.toInt.toNat) (s2 : S q.toInt.toNat) : UNL g b p.toInt.toNat q.toInt.toNat S b sam jnd 0 f' h' 1 0 1 := by
  have pf : plx f' 0 = p.toInt.toNat := by unfold plx; rw [e1, pk_us, if_neg (by omega)]
  have ph : prx h' 0 = q.toInt.toNat := by unfold prx; rw [e2, pk_us]
  have f0 : 0 ≤ (f' 0).toInt := by rw [e1, pk_us]; exact hp
  refine ⟨joi_zero hz, Or.inl ⟨rfl, unv_zero hc hf hz (bst_lt hb) f0 (by rw [pf]; exact s1) (by rw [ph]; exact s2), fun r x ho => ?_, fun _ _ => rfl⟩⟩
  have e : gls f' h' 1 = [(p.toInt.toNat, q.toInt.toNat)] := by
    show (if (f' 0).toInt < 0 then ([] : List (Nat × Nat)) else (plx f' 0, prx h' 0) :: []) = _
    rw [if_neg (by omega), pf, ph]
  rw [e] at ho; exact ho
/-- how far the loop can come -/
theorem unl_rng {J n : Int} {t : Nat} (hb : BST g bo S SL VL) (hu : UNL g b0 P Q S b sam jnd J f h t n 1) : (t : Int) ≤ 1921 ∧ n ≤ 5121 ∧ J ≤ 640 := by
  obtain ⟨hj, ⟨_, hu, _⟩ | ⟨e, _⟩⟩ := hu
  · have hM := fun p hp => (hb.1 p hp).2.1
    have a := unv_top hM hu
    have c := unv_n hM hu
    have d := joi_len hM hj
    have l := hb.2.2.1
    omega
  · omega
theorem unl_rtr {J n fits : Int} {t : Nat} (hb : BST g bo S SL VL) (hu : UNL g b0 P Q S b sam jnd J f h t n fits) : RTR S sam := fun p r hp hr => rtx_rte hb hu.1 hp hr
/-- a marker on top: its places are joined -/
theorem unl_join {j j' p1 p2 : Int32} {J n n' : Int} {t T : Nat} (hb : BST g bo S SL VL) (hu : UNL g b0 P Q S b sam jnd J f h T n 1) (hT : T = t + 1) (hJ : j.toInt = J) (hm : (f t).toInt < 0) (h1 : p1.toInt = -1 - (f t).toInt) (h2 : p2.toInt = (h t).toInt) (hh : 0 ≤ (h t).toInt) (hx : JNX sam sam' jnd jnd' j j' p1 p2) (hn : n' = n + 1) : UNL g b0 P Q S b sam' jnd' j'.toInt f h t n' 1 := by
  subst hT
  subst hn
  have rg := unl_rng hb hu
  obtain ⟨hj, ⟨_, hu, ho, hx9⟩ | ⟨e, _⟩⟩ := hu
  · obtain ⟨s1, s2, _, hk⟩ := hu.2.2.2.2.1 t (by omega)
    have e1 : plx f t = p1.toInt.toNat := by unfold plx; rw [if_pos hm]; omega
    have e2 : prx h t = p2.toInt.toNat := by unfold prx; omega
    have nr := (hk hm).2.1
    rw [e1] at s1 nr
    rw [e2] at s2 nr
    obtain ⟨q1, q2, r1, r2, z1, z2, hx⟩ := hx
    have t1 := rtx_rte hb hj s1 r1
    have t2 := rtx_rte hb hj s2 r2
    have ne := nr _ _ t1 t2
    rcases hx with ⟨hx, _⟩ | ⟨y, y1, y2, y3, y4⟩
    · omega
    · have ej : j'.toInt = J + 1 := by omega
      rw [ej]
      have w := unv_join (bst_lt hb) hu hm (q1 := q1.toInt.toNat) (q2 := q2.toInt.toNat) (by rw [e1]; exact t1) (by rw [e2]; exact t2) (clamp_nat z1) rfl (by omega) hJ y2 y3
      refine ⟨w.2.2.1, Or.inl ⟨rfl, w, fun r x hq => ho r x ?_, hx9⟩⟩
      rw [gls_s, if_pos hm]; exact hq
  · omega
/-- a pair on top -/
theorem unl_pair {p q a c : Int32} {J n n' r : Int} {t t' T T' : Nat} (hb : BST g bo S SL VL) (hu : UNL g b0 P Q S b sam jnd J f h T n 1) (hT : T = t + 1) (hm : ¬ (f t).toInt < 0) (h1 : p.toInt = (f t).toInt) (h2 : q.toInt = (h t).toInt) (x1 : BRX g b p a) (x2 : BRX g b q c) (hx : PAX g b b' sam f f' h h' t t' a.toInt.toNat c.toInt.toNat r) (hT' : T' = t') (hn : n' = n + 1) : UNL g b0 P Q S b' sam jnd J f' h' T' n' r := by
  subst hT
  subst hn
  subst hT'
  obtain ⟨hj, ⟨_, hu, ho, hx9⟩ | ⟨e, _⟩⟩ := hu
  · obtain ⟨s1, s2, _, _⟩ := hu.2.2.2.2.1 t (by omega)
    have e1 : plx f t = p.toInt.toNat := by unfold plx; rw [if_neg hm]; omega
    have e2 : prx h t = q.toInt.toNat := by unfold prx; omega
    rw [e1] at s1
    rw [e2] at s2
    have k1 := (brx_bre hb hu.1 hu.2.1 s1 x1).1
    have k2 := (brx_bre hb hu.1 hu.2.1 s2 x2).1
    rcases unv_pair hb hu hm (by rw [e1]; exact k1) (by rw [e2]; exact k2) hx with ⟨er, w, k, k9⟩ | ⟨er, k⟩
    · exact ⟨hj, Or.inl ⟨er, w, fun q x hq => ho q x (k q x hq), ext_tr hx9 k9⟩⟩
    · exact ⟨hj, Or.inr ⟨er, fun x => ho _ x (k x)⟩⟩
  · omega
theorem unl_at {J n : Int} {t T : Nat} {p q a c : Int32} (hb : BST g bo S SL VL) (hu : UNL g b0 P Q S b sam jnd J f h T n 1) (hT : T = t + 1) (hm : ¬ (f t).toInt < 0) (h1 : p.toInt = (f t).toInt) (h2 : q.toInt = (h t).toInt) (x1 : BRX g b p a) (x2 : BRX g b q c) : S a.toInt.toNat ∧ S c.toInt.toNat ∧ BRE g b a.toInt.toNat a.toInt.toNat ∧ BRE g b c.toInt.toNat c.toInt.toNat ∧ CLD g b S ∧ FIN g b S := by
  subst hT
  obtain ⟨hj, ⟨_, hu, ho, hx9⟩ | ⟨e, _⟩⟩ := hu
  · obtain ⟨s1, s2, _, _⟩ := hu.2.2.2.2.1 t (by omega)
    have e1 : plx f t = p.toInt.toNat := by unfold plx; rw [if_neg hm]; omega
    have e2 : prx h t = q.toInt.toNat := by unfold prx; omega
    rw [e1] at s1
    rw [e2] at s2
    obtain ⟨k1, l1⟩ := brx_bre hb hu.1 hu.2.1 s1 x1
    obtain ⟨k2, l2⟩ := brx_bre hb hu.1 hu.2.1 s2 x2
    exact ⟨l1, l2, bre_ter (bre_ter2 k1), bre_ter (bre_ter2 k2), hu.1, hu.2.1⟩
  · omega
theorem unl_ext {J n : Int} {t : Nat} (he : EXT bo b0) (hu : UNL g b0 P Q S b sam jnd J f h t n 1) : EXT bo b := by
  obtain ⟨_, ⟨_, _, _, hx9⟩ | ⟨e, _⟩⟩ := hu
  · exact ext_tr he hx9
  · omega
theorem unl_yes {J n r : Int} {t : Nat} (hu : UNL g b0 P Q S b sam jnd J f h t n 1) (ht : t = 0) (hr : r = 1) : OUX g b0 b S P Q r := by
  subst ht
  obtain ⟨hj, ⟨_, hu, ho, hx9⟩ | ⟨e, _⟩⟩ := hu
  · exact Or.inl ⟨hr, ho true b out_nil, hu.1, hu.2.1⟩
  · omega
theorem unl_not {J n r : Int} {t : Nat} (hu : UNL g b0 P Q S b sam jnd J f h t n 0) (hr : r = 0) : OUX g b0 b' S P Q r := by
  obtain ⟨hj, ⟨e, _⟩ | ⟨_, ho⟩⟩ := hu
  · omega
  · exact Or.inr ⟨hr, ho⟩
theorem unl_cast {J J' n n' r r' : Int} {t t' : Nat} (hu : UNL g b0 P Q S b sam jnd J f h t n r) (e1 : J' = J) (e2 : t' = t) (e3 : n' = n) (e4 : r' = r) : UNL g b0 P Q S b sam jnd J' f h t' n' r' := by subst e1; subst e2; subst e3; subst e4; exact hu
theorem srs_joi {J k : Int} (hj : JOI S sam jnd J) (hk : k = 0) : SRS sam jnd J k := fun p hp hz => by
  obtain ⟨i, i1, i2⟩ := hj.2.2.2 p hp hz
  exact ⟨i, by omega, i1, i2⟩
theorem srs_step {J k k' : Int} {i x v : Int32} (hs : SRS sam jnd J k) (hk : 0 ≤ k) (hi : i.toInt = k) (hx : x = jnd (Int32.toNatClampNeg i)) (hx0 : 0 ≤ x.toInt) (hv : v.toInt = 0) (e : sam' = upd sam (Int32.toNatClampNeg x) v) (ek : k' = k + 1) : SRS sam' jnd J k' := fun p hp hz => by
  have ci : Int32.toNatClampNeg i = k.toNat := by rw [clamp_nat (by omega)]; omega
  rw [ci] at hx
  have cx : Int32.toNatClampNeg x = pj jnd k.toNat := by unfold pj; rw [clamp_nat hx0, ← hx]
  rw [cx] at e
  by_cases w : p = pj jnd k.toNat
  · rw [w, e, pk_us] at hz; exact absurd hv hz
  · rw [e, pk_un w] at hz
    obtain ⟨j, j1, j2, j3⟩ := hs p hp hz
    by_cases c : (j : Int) = k
    · exact absurd (by rw [show k.toNat = j by omega]; exact j3.symm) w
    · exact ⟨j, by omega, j2, j3⟩
theorem srs_end {J k : Int} (hs : SRS sam jnd J k) (hk : J ≤ k) : ∀ p : Nat, p < 9600 → (sam p).toInt = 0 := fun p hp => by
  by_cases c : (sam p).toInt = 0
  · exact c
  · obtain ⟨i, i1, i2, _⟩ := hs p hp c
    omega
end UX
theorem psi_cast {g : GVT} {a c t : Nat} {M M' k k' T : Int} {f0 f h0 h : Nat → Int32} (h9 : PSI g a c t M k f0 f h0 h T) (e : M' = M) (e2 : k' = k) : PSI g a c t M' k' f0 f h0 h T := by subst e; subst e2; exact h9
section RQ
variable {sam : Nat → Int32} {a c : Nat} {x y : Int32}
theorem rtq_yes (h1 : RTE sam a x.toInt.toNat) (h2 : RTE sam c y.toInt.toNat) (e : x.toInt = y.toInt) : RTQ sam a c := ⟨x.toInt.toNat, h1, by rw [e]; exact h2⟩
theorem rtq_no (h1 : RTE sam a x.toInt.toNat) (h2 : RTE sam c y.toInt.toNat) (e : ¬ x.toInt = y.toInt) (hx : 0 ≤ x.toInt) (hy : 0 ≤ y.toInt) : ¬ RTQ sam a c := fun w => by
  obtain ⟨z, z1, z2⟩ := w
  have e1 := rte_un h1 z1
  have e2 := rte_un h2 z2
  omega
end RQ
theorem gvm_at {g : GVT} {nam : Nat → Int64} {x i : Int32} (hg : GVM g nam) (hx : 0 ≤ x.toInt ∧ x.toInt ≤ 9599) (hi : i.toInt = x.toInt % 300) : g.2.2.1 x.toInt.toNat = (nam (Int32.toNatClampNeg i)).toInt := by
  have h1 := hg x.toInt.toNat (by omega)
  have e : Int32.toNatClampNeg i = x.toInt.toNat % 300 := by rw [clamp_nat (by omega)]; omega
  rw [e]; exact h1
theorem free_z {g : GVT} {bnd : Nat → Int32} {a : Nat} {c : Int32} (h : BRE g (BDV bnd) a a) (hv : 0 ≤ g.1 a) (hr : Rg 0 9600 bnd) (hc : ((g.2.1 a : Nat) : Int) = c.toInt) : (bnd c.toInt.toNat).toInt = 0 := by
  have k := ter_free h hv
  have r := hr (g.2.1 a)
  unfold BDV at k
  rw [show c.toInt.toNat = g.2.1 a by omega]
  omega
theorem trc_cast {T T' : Int} {trl bnd : Nat → Int32} (h : TRC T trl bnd) (e : T' = T) : TRC T' trl bnd := by subst e; exact h
theorem srs_cast {sam jnd : Nat → Int32} {J k k' : Int} (h : SRS sam jnd J k) (e : k' = k) : SRS sam jnd J k' := by subst e; exact h
