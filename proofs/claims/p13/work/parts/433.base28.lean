/-! what clause() tells -/
section KP
variable {nv nv' mny mny' vrs vrs' isn isn' tem tem' A A' B B' C C' : Nat → Int32} {nn nn' : Nat → Int64}
theorem tlq_keep {V : VWT} {L : LWT} {N c : Int} {hz : Nat → Nat} (h : TLQ V (RVW nv nn A B C) L (RLX 0 mny vrs isn tem) c) (ha : AGN N (-1) nv nv' nn nn' A A' B B' C C') (hf : LFN 16 mny mny' vrs vrs' isn isn' tem tem') (hn : ND 0 N hz A B C) (ht : TM 0 N hz 0 c mny tem) (hc : c ≤ 16) : TLQ V (RVW nv' nn' A' B' C') L (RLX 0 mny' vrs' isn' tem') c := fun j hj => by
  obtain ⟨f1, f2, f3⟩ := hf j (by omega)
  obtain ⟨c1, c2, c3, c4, kf, c5⟩ := h j hj
  have c1' : L.1 j = (mny (0 + j)).toInt := c1
  have c2' : L.2.1 j = (vrs (0 + j)).toInt := c2
  rw [Nat.zero_add] at c1' c2'
  refine ⟨?_, ?_, c3, c4, kf, fun k hk => ?_⟩
  · show L.1 j = (mny' (0 + j)).toInt
    rw [Nat.zero_add, f1]; exact c1'
  · show L.2.1 j = (vrs' (0 + j)).toInt
    rw [Nat.zero_add, f2]; exact c2'
  · have h6 : k < 6 := by omega
    obtain ⟨⟨d1, d0, d3⟩, d2, d4⟩ := c5 k hk
    have d1' : EQX V (RVW nv nn A B C) kf 7 (L.2.2.1 j k) (Int32.toNatClampNeg (tem (6 * (0 + j) + k))) := d1
    have d2' : L.2.2.2 j k = 1 - (isn (6 * (0 + j) + k)).toInt := d2
    rw [Nat.zero_add] at d1' d2'
    obtain ⟨t1, t2, -⟩ := ht j k (by omega) hj (by omega) h6
    refine ⟨⟨?_, d0, d3⟩, ?_, d4⟩
    · show EQX V (RVW nv' nn' A' B' C') kf 7 (L.2.2.1 j k) (Int32.toNatClampNeg (tem' (6 * (0 + j) + k)))
      rw [Nat.zero_add, (f3 k h6).2]
      exact eqx_agr ha hn 7 _ _ (by rw [clamp_toInt (by omega)]; omega) d1'
    · show L.2.2.2 j k = 1 - (isn' (6 * (0 + j) + k)).toInt
      rw [Nat.zero_add, (f3 k h6).1]; exact d2'
end KP
/-- the parts of all literals -/
def szL (V : VWT) (f : Nat → Nat) : Nat → Int
  | 0 => 0
  | k + 1 => szL V f k + szX V 7 (f k)
theorem szl_eq {V W : VWT} {f g : Nat → Nat} : ∀ m : Nat, (∀ k : Nat, k < m → ∃ kf, EQX V W kf 7 (f k) (g k)) → szL V f m = szL W g m := by
  intro m
  induction m with
  | zero => intro _; rfl
  | succ m ih =>
    intro h
    obtain ⟨kf, e⟩ := h m (by omega)
    show szL V f m + szX V 7 (f m) = szL W g m + szX W 7 (g m)
    rw [ih (fun k hk => h k (by omega)), eqx_size 7 _ _ e]
theorem szl_cong {V : VWT} {f g : Nat → Nat} : ∀ m : Nat, (∀ k : Nat, k < m → f k = g k) → szL V f m = szL V g m := by
  intro m
  induction m with
  | zero => intro _; rfl
  | succ m ih =>
    intro h
    show szL V f m + szX V 7 (f m) = szL V g m + szX V 7 (g m)
    rw [ih (fun k hk => h k (by omega)), h m (by omega)]
theorem szl_le {V : VWT} {f : Nat → Nat} : ∀ m : Nat, (∀ k : Nat, k < m → szX V 7 (f k) ≤ 300) → 0 ≤ szL V f m ∧ szL V f m ≤ 300 * (m : Int) := by
  intro m
  induction m with
  | zero => intro _; exact ⟨Int.le_refl _, by rw [show szL V f 0 = 0 from rfl]; omega⟩
  | succ m ih =>
    intro h
    have a := ih (fun k hk => h k (by omega))
    have b := h m (by omega)
    have c := szX_ge (V := V) 7 (f m)
    show 0 ≤ szL V f m + szX V 7 (f m) ∧ szL V f m + szX V 7 (f m) ≤ 300 * ((m + 1 : Nat) : Int)
    omega
/-- bits as a number -/
def bsX (sg : Nat → Int) : Nat → Int
  | 0 => 0
  | k + 1 => bsX sg k + sg k * 2 ^ k
theorem bs_num : ∀ (m : Fin 7) (v : Fin 64), v.val < 2 ^ m.val → bsX (fun j => (v.val : Int) / 2 ^ j % 2) m.val = (v.val : Int) := by decide +kernel
theorem bs_cong {f g : Nat → Int} : ∀ m : Nat, (∀ k : Nat, k < m → f k = g k) → bsX f m = bsX g m := by
  intro m
  induction m with
  | zero => intro _; rfl
  | succ m ih =>
    intro h
    show bsX f m + f m * 2 ^ m = bsX g m + g m * 2 ^ m
    rw [ih (fun k hk => h k (by omega)), h m (by omega)]
theorem bs_of {v : Int} {m : Nat} (hm : m ≤ 6) (h : 0 ≤ v ∧ v < 2 ^ m) : bsX (fun j => v / 2 ^ j % 2) m = v := by
  have h64 : (2 : Int) ^ m ≤ 64 := by
    have e : m = 0 ∨ m = 1 ∨ m = 2 ∨ m = 3 ∨ m = 4 ∨ m = 5 ∨ m = 6 := by omega
    rcases e with e | e | e | e | e | e | e <;> subst e <;> decide
  have hv : ((v.toNat : Nat) : Int) = v := by omega
  have hlt : v.toNat < 64 := by omega
  have h2 : v.toNat < 2 ^ m := by
    have e : ((2 ^ m : Nat) : Int) = (2 : Int) ^ m := by simp
    omega
  have := bs_num ⟨m, by omega⟩ ⟨v.toNat, hlt⟩ h2
  simp only [] at this
  rw [hv] at this
  exact this
/-- bits that are put in, one more -/
theorem bs_rng {sg : Nat → Int} (h : ∀ k : Nat, sg k = 0 ∨ sg k = 1) : ∀ m : Nat, 0 ≤ bsX sg m ∧ bsX sg m < 2 ^ m := by
  intro m
  induction m with
  | zero => exact ⟨Int.le_refl _, by rw [show bsX sg 0 = 0 from rfl]; decide⟩
  | succ m ih =>
    have p : (2 : Int) ^ (m + 1) = 2 * 2 ^ m := by rw [Int.pow_succ, Int.mul_comm]
    show 0 ≤ bsX sg m + sg m * 2 ^ m ∧ bsX sg m + sg m * 2 ^ m < 2 ^ (m + 1)
    rcases h m with e | e
    · rw [e, Int.zero_mul]; omega
    · rw [e, Int.one_mul]; omega
def PB1 (lit pls : Nat → Int32) (c : Nat) : Prop := 0 ≤ (pls c).toInt ∧ (pls c).toInt < 2 ^ (lit c).toInt.toNat
def PLB (lit pls : Nat → Int32) (n : Int) : Prop := ∀ j : Nat, (j : Int) < n → PB1 lit pls j
theorem plb_zero {lit pls : Nat → Int32} {n : Int} (h : n = 0) : PLB lit pls n := fun j hj => absurd hj (by omega)
theorem plb_step {lit lit' vas vas' pls pls' fst fst' : Nat → Int32} {n n' : Int} {c : Nat} (h : PLB lit pls n) (hf : LFR n lit lit' vas vas' pls pls' fst fst') (hc : PB1 lit' pls' c) (e : (c : Int) = n) (e' : n' = n + 1) : PLB lit' pls' n' := fun j hj => by
  by_cases q : (j : Int) < n
  · obtain ⟨a, -, b, -⟩ := hf j q
    unfold PB1
    rw [a, b]; exact h j q
  · have e2 : j = c := by omega
    rw [e2]; exact hc
theorem plb_drop {lit lit' vas vas' pls pls' fst fst' : Nat → Int32} {a c n n' : Int} (h : PLB lit pls n) (hl : RMC a c lit lit' vas vas' pls pls' fst fst') (hn : n' = n - 1) (hc : c ≤ n') : PLB lit' pls' n' := fun j hj => by
  obtain ⟨a1, -, a3, -⟩ := hl j
  have hs : ((shX a c j : Nat) : Int) < n := by
    by_cases q : a ≤ (j : Int) ∧ (j : Int) < c
    · rw [shX_in q]; omega
    · rw [shX_out q]; omega
  unfold PB1
  rw [a1, a3]; exact h _ hs
theorem lpd_plb {G : Int → Int} {n : Int} {S : Nat → Int → Int → Prop} {fst lit pls : Nat → Int32} {c : Int32} {v k p0 q : Int} (h : LPD G n S fst c.toInt v k p0 q) (hl : (lit (Int32.toNatClampNeg c)).toInt = k) (hp : (pls (Int32.toNatClampNeg c)).toInt = v) : PB1 lit pls (Int32.toNatClampNeg c) := by
  obtain ⟨m, e1, -, -, e4, e5, -⟩ := h
  have e : (lit (Int32.toNatClampNeg c)).toInt.toNat = m := by omega
  unfold PB1
  rw [e, hp]; exact ⟨e4, e5⟩
/-- the value -/
def CLV (V : VWT) (L : LWT) (pl : Nat → Int) (n c w r : Int) : Prop := (¬ (0 ≤ c ∧ c < n) ∧ r = -1) ∨ ((0 ≤ c ∧ c < n) ∧ ((w = 0 ∧ r = L.1 c.toNat) ∨ (w = 1 ∧ r = L.2.1 c.toNat) ∨ (w = 2 ∧ r = szL V (L.2.2.1 c.toNat) (L.1 c.toNat).toNat) ∨ (w = 3 ∧ r = pl c.toNat) ∨ ((w < 0 ∨ 4 ≤ w) ∧ ¬ (10 ≤ w ∧ w - 10 < L.1 c.toNat) ∧ r = -1) ∨ ((10 ≤ w ∧ w - 10 < L.1 c.toNat) ∧ r = V.2.2.1 (L.2.2.1 c.toNat (w - 10).toNat))))
theorem clv_cast {V : VWT} {L : LWT} {pl : Nat → Int} {n c w r n' c' w' r' : Int} (h : CLV V L pl n c w r) (a : n = n') (b : c = c') (d : w = w') (e : r = r') : CLV V L pl n' c' w' r' := by subst a; subst b; subst d; subst e; exact h
theorem eqx_ar {V W : VWT} {kf : Nat → Nat} {d x y : Nat} (h : EQX V W kf d x y) (hx : V.1 x = -1) : V.2.2.1 x = W.2.2.1 y := by
  cases d with
  | zero => exact False.elim h
  | succ d =>
    rw [eqx_s] at h
    rcases h.2 with ⟨a, -⟩ | a
    · omega
    · exact a.2.2.1
theorem clv_eq {V W : VWT} {L M : LWT} {pl pm : Nat → Int} {n c w r r' : Int} (h : TLQ V W L M n) (hp : ∀ j : Nat, (j : Int) < n → pl j = pm j) (a : CLV V L pl n c w r) (b : CLV W M pm n c w r') : r = r' := by
  by_cases hc : 0 ≤ c ∧ c < n
  · have e := hp c.toNat (by omega)
    obtain ⟨c1, c2, c3, c4, kf, c5⟩ := h c.toNat (by omega)
    have sz : szL V (L.2.2.1 c.toNat) (L.1 c.toNat).toNat = szL W (M.2.2.1 c.toNat) (M.1 c.toNat).toNat := by
      rw [← c1]
      exact szl_eq _ (fun k hk => ⟨kf, (c5 k (by omega)).1.1⟩)
    have tr : 10 ≤ w → w - 10 < L.1 c.toNat → V.2.2.1 (L.2.2.1 c.toNat (w - 10).toNat) = W.2.2.1 (M.2.2.1 c.toNat (w - 10).toNat) := fun h1 h2 => eqx_ar (c5 (w - 10).toNat (by omega)).1.1 (c5 (w - 10).toNat (by omega)).1.2.1
    rcases a with a | ⟨-, a⟩
    · exact absurd hc a.1
    rcases b with b | ⟨-, b⟩
    · exact absurd hc b.1
    rcases a with ⟨a1, a2⟩ | ⟨a1, a2⟩ | ⟨a1, a2⟩ | ⟨a1, a2⟩ | ⟨a1, a3, a2⟩ | ⟨a1, a2⟩ <;> rcases b with ⟨b1, b2⟩ | ⟨b1, b2⟩ | ⟨b1, b2⟩ | ⟨b1, b2⟩ | ⟨b1, b3, b2⟩ | ⟨b1, b2⟩ <;> first
      | omega
      | (rw [a2, b2]; exact c1)
      | (rw [a2, b2]; exact c2)
      | (rw [a2, b2]; exact sz)
      | (rw [a2, b2]; exact tr a1.1 a1.2)
      | (exact absurd ⟨a1.1, by omega⟩ b3)
      | (exact absurd ⟨b1.1, by omega⟩ a3)
  · rcases a with a | a
    · rcases b with b | b
      · omega
      · exact absurd b.1 hc
    · exact absurd a.1 hc
/-- the bits of the positive ones -/
theorem pls_eq {V W : VWT} {lit vas pls fst mny vrs isn tem : Nat → Int32} {n : Int} {j m : Nat} (h : TLQ V W (CLW lit vas pls fst) (RLX 0 mny vrs isn tem) n) (hb : PLB lit pls n) (hj : (j : Int) < n) (hm : (m : Int) = (mny j).toInt) : (pls j).toInt = bsX (fun k => 1 - (isn (6 * j + k)).toInt) m := by
  obtain ⟨c1, c2, c3, c4, kf, c5⟩ := h j hj
  have c1' : (lit j).toInt = (mny (0 + j)).toInt := c1
  have c4' : (lit j).toInt ≤ 6 := c4
  rw [Nat.zero_add] at c1'
  have hb2 := hb j hj
  unfold PB1 at hb2
  have e : (lit j).toInt.toNat = m := by omega
  rw [e] at hb2
  have b := bs_of (m := m) (by omega) hb2
  rw [← b]
  refine bs_cong m (fun k hk => ?_)
  have d : (pls j).toInt / (2 : Int) ^ k % 2 = 1 - (isn (6 * (0 + j) + k)).toInt := (c5 k (show (k : Int) < (lit j).toInt by omega)).2.1
  rw [Nat.zero_add] at d
  exact d
/-- a variable has no terms -/
def TZG (var trm : Nat → Int32) : Prop := ∀ x : Nat, 0 ≤ (var x).toInt → (trm x).toInt = 0
theorem tz_add {var var' trm trm' : Nat → Int32} {r : Int32} {y : Int32} (h : TZG var trm) (hv : var' = upd var (Int32.toNatClampNeg r) y) (ht : trm' = upd trm (Int32.toNatClampNeg r) 0) : TZG var' trm' := fun x hx => by
  by_cases q : x = Int32.toNatClampNeg r
  · rw [ht, q, pk_us]; decide
  · rw [hv, pk_un q] at hx
    rw [ht, pk_un q]; exact h x hx
theorem tz_trm {var trm trm' : Nat → Int32} {r v : Int32} (h : TZG var trm) (ht : trm' = upd trm (Int32.toNatClampNeg r) v) (hr : (var (Int32.toNatClampNeg r)).toInt = -1) : TZG var trm' := fun x hx => by
  by_cases q : x = Int32.toNatClampNeg r
  · rw [q] at hx; omega
  · rw [ht, pk_un q]; exact h x hx
theorem tz_z : TZG (fun _ => 0) (fun _ => 0) := fun _ _ => rfl
theorem rmr_ac {a a' c c' : Int} {mny mny' vrs vrs' isn isn' tem tem' : Nat → Int32} (h : RMR a c mny mny' vrs vrs' isn isn' tem tem') (e : a = a') (e' : c = c') : RMR a' c' mny mny' vrs vrs' isn isn' tem tem' := by subst e; subst e'; exact h
/-- all literals are trees that begin with a name -/
def WFA (V : VWT) (L : LWT) (n : Int) : Prop := ∀ j : Nat, (j : Int) < n → ∀ k : Nat, (k : Int) < L.1 j → WFX V 7 (L.2.2.1 j k) ∧ szX V 7 (L.2.2.1 j k) ≤ 300 ∧ V.1 (L.2.2.1 j k) = -1
theorem wfa_V {V W : VWT} {L M : LWT} {n : Int} (h : TLQ V W L M n) : WFA V L n := fun j hj k hk => by
  obtain ⟨c1, c2, c3, c4, kf, c5⟩ := h j hj
  obtain ⟨⟨d1, d0, d3⟩, -⟩ := c5 k hk
  exact ⟨eqx_wf 7 _ _ d1, d3, d0⟩
theorem eqx_v {V W : VWT} {kf : Nat → Nat} {d x y : Nat} (h : EQX V W kf d x y) : V.1 x = W.1 y := by
  cases d with
  | zero => exact False.elim h
  | succ d => rw [eqx_s] at h; exact h.1
theorem wfa_W {V W : VWT} {L M : LWT} {n : Int} (h : TLQ V W L M n) : WFA W M n := fun j hj k hk => by
  obtain ⟨c1, c2, c3, c4, kf, c5⟩ := h j hj
  obtain ⟨⟨d1, d0, d3⟩, -⟩ := c5 k (by omega)
  exact ⟨eqx_wf2 7 _ _ d1, by rw [← eqx_size 7 _ _ d1]; exact d3, by rw [← eqx_v d1]; exact d0⟩
theorem pls_eq2 {V W : VWT} {lit vas pls fst mny vrs isn tem : Nat → Int32} {n : Int} (h : TLQ V W (CLW lit vas pls fst) (RLX 0 mny vrs isn tem) n) (hb : PLB lit pls n) (j : Nat) (hj : (j : Int) < n) : (pls j).toInt = bsX (fun k => 1 - (isn (6 * j + k)).toInt) (mny j).toInt.toNat := by
  obtain ⟨c1, c2, c3, c4, kf, c5⟩ := h j hj
  have c1' : (lit j).toInt = (mny (0 + j)).toInt := c1
  have c3' : 1 ≤ (lit j).toInt := c3
  rw [Nat.zero_add] at c1'
  exact pls_eq h hb hj (by omega)
section CV
variable {V : VWT} {L : LWT} {pl : Nat → Int} {n c w r : Int}
theorem clv_no (h : c < 0 ∨ n ≤ c) (e : r = -1) : CLV V L pl n c w r := Or.inl ⟨by omega, e⟩
theorem clv_0 (h : 0 ≤ c ∧ c < n) (hw : w = 0) (e : r = L.1 c.toNat) : CLV V L pl n c w r := Or.inr ⟨h, Or.inl ⟨hw, e⟩⟩
theorem clv_1 (h : 0 ≤ c ∧ c < n) (hw : w = 1) (e : r = L.2.1 c.toNat) : CLV V L pl n c w r := Or.inr ⟨h, Or.inr (Or.inl ⟨hw, e⟩)⟩
theorem clv_2 (h : 0 ≤ c ∧ c < n) (hw : w = 2) (e : r = szL V (L.2.2.1 c.toNat) (L.1 c.toNat).toNat) : CLV V L pl n c w r := Or.inr ⟨h, Or.inr (Or.inr (Or.inl ⟨hw, e⟩))⟩
theorem clv_3 (h : 0 ≤ c ∧ c < n) (hw : w = 3) (e : r = pl c.toNat) : CLV V L pl n c w r := Or.inr ⟨h, Or.inr (Or.inr (Or.inr (Or.inl ⟨hw, e⟩)))⟩
theorem clv_4 (h : 0 ≤ c ∧ c < n) (hw : w < 0 ∨ 4 ≤ w) (hn : w < 10 ∨ L.1 c.toNat ≤ w - 10) (e : r = -1) : CLV V L pl n c w r := Or.inr ⟨h, Or.inr (Or.inr (Or.inr (Or.inr (Or.inl ⟨hw, by omega, e⟩))))⟩
theorem clv_5 (h : 0 ≤ c ∧ c < n) (hw : 10 ≤ w ∧ w - 10 < L.1 c.toNat) (e : r = V.2.2.1 (L.2.2.1 c.toNat (w - 10).toNat)) : CLV V L pl n c w r := Or.inr ⟨h, Or.inr (Or.inr (Or.inr (Or.inr (Or.inr ⟨hw, e⟩))))⟩
end CV
/-! how many parts, of a node of the reference -/
section RS
variable {nv A B C : Nat → Int32} {nn : Nat → Int64}
theorem rvw_ar {x : Nat} (h : (nv x).toInt = -1) : (RVW nv nn A B C).2.2.1 x = npx nv A B C x := by
  show (if (A x).toInt = -1 then (0 : Int) else if (B x).toInt = -1 then 1 else if (C x).toInt = -1 then 2 else 3) = npx nv A B C x
  unfold npx
  by_cases a : (A x).toInt = -1
  · rw [if_pos a, if_pos (Or.inr a)]
  · rw [if_neg a, if_neg (show ¬ (¬ (nv x).toInt = -1 ∨ (A x).toInt = -1) from fun q => q.elim (fun w => w h) a)]
theorem rvw_ch {x k : Nat} : (RVW nv nn A B C).2.2.2 x k = Int32.toNatClampNeg (ptx A B C x (k : Int)) := by
  show Int32.toNatClampNeg (if k = 0 then A x else if k = 1 then B x else C x) = _
  unfold ptx
  by_cases a : k = 0
  · rw [if_pos a, if_pos (show ((k : Nat) : Int) = 0 by omega)]
  · rw [if_neg a, if_neg (show ¬ ((k : Nat) : Int) = 0 by omega)]
    by_cases b : k = 1
    · rw [if_pos b, if_pos (show ((k : Nat) : Int) = 1 by omega)]
    · rw [if_neg b, if_neg (show ¬ ((k : Nat) : Int) = 1 by omega)]
end RS
theorem wfx_ch {V : VWT} {d x k : Nat} (h : WFX V (d + 1) x) (hx : V.1 x = -1) (hk : (k : Int) < V.2.2.1 x) : WFX V d (V.2.2.2 x k) := by
  rw [wfx_s] at h
  rcases h with a | a
  · omega
  · exact a.2.2.2 k hk
theorem wfx_ar {V : VWT} {d x : Nat} (h : WFX V (d + 1) x) (hx : V.1 x = -1) : 0 ≤ V.2.2.1 x ∧ V.2.2.1 x ≤ 3 := by
  rw [wfx_s] at h
  rcases h with a | a
  · omega
  · exact ⟨a.2.1, a.2.2.1⟩
theorem sfx_mono {V : VWT} {d x j : Nat} : ∀ m : Nat, j ≤ m → sfX V d x j ≤ sfX V d x m := by
  intro m
  induction m with
  | zero => intro h; have e : j = 0 := by omega
            rw [e]; exact Int.le_refl _
  | succ m ih =>
    intro h
    by_cases q : j = m + 1
    · rw [q]; exact Int.le_refl _
    · have a := ih (by omega)
      have b := szX_ge (V := V) d (V.2.2.2 x m)
      show sfX V d x j ≤ sfX V d x m + szX V d (V.2.2.2 x m)
      omega
theorem sfx_ge {V : VWT} {d x : Nat} (m : Nat) : 0 ≤ sfX V d x m := by
  have a := sfx_mono (V := V) (d := d) (x := x) (j := 0) m (Nat.zero_le _)
  have b : sfX V d x 0 = 0 := rfl
  omega
/-! how many parts, as the class counts: what stands on its row of places -/
theorem szx_any {V : VWT} {d x : Nat} (h : WFX V (d + 1) x) (hz : 0 ≤ V.1 x → V.2.2.1 x = 0) : szX V (d + 1) x = 1 + sfX V d x (V.2.2.1 x).toNat ∧ 0 ≤ V.2.2.1 x ∧ V.2.2.1 x ≤ 3 := by
  have h' := h
  rw [wfx_s] at h
  rcases h with a | ⟨a, b, c, -⟩
  · have e := hz a
    rw [e]
    exact ⟨szX_var a, by omega, by omega⟩
  · exact ⟨szX_sum (m := (V.2.2.1 x).toNat) a (by omega) (by omega), b, c⟩
theorem wfx_any {V : VWT} {d x k : Nat} (h : WFX V (d + 1) x) (hz : 0 ≤ V.1 x → V.2.2.1 x = 0) (hk : (k : Int) < V.2.2.1 x) : WFX V d (V.2.2.2 x k) := by
  have h' := h
  rw [wfx_s] at h
  rcases h with a | a
  · have e := hz a
    omega
  · exact a.2.2.2 k hk
theorem wfx_suc {V : VWT} {e x : Nat} (h : WFX V e x) : ∃ d : Nat, e = d + 1 := by
  cases e with
  | zero => exact False.elim h
  | succ d => exact ⟨d, rfl⟩
theorem okx_one {V : VWT} {b : Int} {f g : Nat → Int32} {i v : Int32} {d : Nat} (hi : i.toInt = 0) (he : f = upd g (Int32.toNatClampNeg i) v) (hv : b ≤ v.toInt ∧ v.toInt < b + 300) (h : WFX V d (v.toInt - b).toNat) : OKX V b (fun _ => d) f 1 := fun j hj => by
  have c := clamp_toInt (i := i) (by omega)
  have e : j = Int32.toNatClampNeg i := by omega
  rw [he, e, pk_us]; exact ⟨hv.1, hv.2, h⟩
theorem smx_one {V : VWT} {b : Int} {f g : Nat → Int32} {i v : Int32} {d n : Nat} (hi : i.toInt = 0) (hn : n = 1) (he : f = upd g (Int32.toNatClampNeg i) v) : smX V b (fun _ => d) f n = szX V d (v.toInt - b).toNat := by
  have c := clamp_toInt (i := i) (by omega)
  have e : Int32.toNatClampNeg i = 0 := by omega
  subst hn
  show 0 + szX V d ((f 0).toInt - b).toNat = _
  rw [he, e, pk_us, Int.zero_add]
theorem okx_le {V : VWT} {b n m : Int} {ds : Nat → Nat} {f : Nat → Int32} (h : OKX V b ds f n) (e : m ≤ n) : OKX V b ds f m := fun i hi => h i (by omega)
theorem okx_at {V : VWT} {b n : Int} {ds : Nat → Nat} {f : Nat → Int32} {i z : Int32} (h : OKX V b ds f n) (h0 : 0 ≤ i.toInt) (hi : i.toInt < n) (hz : z = f (Int32.toNatClampNeg i)) : b ≤ z.toInt ∧ z.toInt < b + 300 ∧ WFX V (ds (Int32.toNatClampNeg i)) (z.toInt - b).toNat := by
  have c := clamp_toInt (i := i) h0
  rw [hz]; exact h _ (by omega)
theorem smx_pop {V : VWT} {b n : Int} {ds : Nat → Nat} {f : Nat → Int32} {i z : Int32} (hn : n = i.toInt + 1) (h0 : 0 ≤ i.toInt) (hz : z = f (Int32.toNatClampNeg i)) : smX V b ds f n.toNat = smX V b ds f (i.toInt).toNat + szX V (ds (Int32.toNatClampNeg i)) (z.toInt - b).toNat := by
  have e : n.toNat = (i.toInt).toNat + 1 := by omega
  have c := clamp_nat (i := i) h0
  rw [e, hz, c]; rfl
theorem okx_push {V : VWT} {b n : Int} {ds : Nat → Nat} {f g : Nat → Int32} {i v : Int32} {d : Nat} (h : OKX V b ds f n) (hi : i.toInt = n) (h0 : 0 ≤ n) (hv : b ≤ v.toInt ∧ v.toInt < b + 300) (hw : WFX V d (v.toInt - b).toNat) (hg : g = upd f (Int32.toNatClampNeg i) v) : OKX V b (fun j => if j = Int32.toNatClampNeg i then d else ds j) g (n + 1) := fun j hj => by
  have c := clamp_toInt (i := i) (by omega)
  show b ≤ (g j).toInt ∧ (g j).toInt < b + 300 ∧ WFX V (if j = Int32.toNatClampNeg i then d else ds j) ((g j).toInt - b).toNat
  by_cases q : j = Int32.toNatClampNeg i
  · rw [if_pos q, hg, q, pk_us]; exact ⟨hv.1, hv.2, hw⟩
  · rw [if_neg q, hg, pk_un q]; exact h j (by omega)
theorem smx_push {V : VWT} {b n m : Int} {ds : Nat → Nat} {f g : Nat → Int32} {i v : Int32} {d : Nat} (hi : i.toInt = n) (h0 : 0 ≤ n) (hg : g = upd f (Int32.toNatClampNeg i) v) (hm : m = n + 1) : smX V b (fun j => if j = Int32.toNatClampNeg i then d else ds j) g m.toNat = smX V b ds f n.toNat + szX V d (v.toInt - b).toNat := by
  have c := clamp_toInt (i := i) (by omega)
  have e : m.toNat = n.toNat + 1 := by omega
  have e2 : Int32.toNatClampNeg i = n.toNat := by omega
  rw [e]
  show smX V b (fun j => if j = Int32.toNatClampNeg i then d else ds j) g n.toNat + szX V (if n.toNat = Int32.toNatClampNeg i then d else ds n.toNat) ((g n.toNat).toInt - b).toNat = _
  rw [if_pos e2.symm, smX_cong (ds := ds) (h := f) n.toNat (fun j hj => ⟨if_neg (by omega), by rw [hg, pk_un (by omega)]⟩), hg, ← e2, pk_us]
/-- literals that are trees, of one clause -/
def WFQ (V : VWT) (lit fst : Nat → Int32) (c : Nat) : Prop := ∀ k : Nat, (k : Int) < (lit c).toInt → WFX V 7 (Int32.toNatClampNeg (fst (6 * c + k))) ∧ szX V 7 (Int32.toNatClampNeg (fst (6 * c + k))) ≤ 300 ∧ V.1 (Int32.toNatClampNeg (fst (6 * c + k))) = -1
