/-! lengths of what is written -/
theorem i64_lt32 {z : Int64} (h : 0 ≤ z.toInt ∧ z.toInt < 32) : z.toInt32.toInt = z.toInt := by
  rw [Int64.toInt_toInt32, Int.bmod_def]
  split <;> omega
theorem i64_shr {L y : Int64} {c : Nat} {k : Int64} (hk : k.toBitVec.smod 64 = BitVec.ofNat 64 c) (hc : c < 64) (hy : y = L >>> k) : y.toInt = L.toInt / 2 ^ c := by
  have e : y.toBitVec = L.toBitVec.sshiftRight c := by
    rw [hy]
    show L.toBitVec.sshiftRight' (k.toBitVec.smod 64) = _
    rw [hk, BitVec.sshiftRight']
    congr 1
    rw [BitVec.toNat_ofNat]; omega
  have e2 : y.toInt = y.toBitVec.toInt := rfl
  have e3 : L.toInt = L.toBitVec.toInt := rfl
  rw [e2, e3, e, BitVec.toInt_sshiftRight, Int.shiftRight_eq_div_pow]
  norm_cast
theorem i64_and31 {y z : Int64} (h0 : 0 ≤ y.toInt) (hz : z = y &&& 31) : z.toInt = y.toInt % 32 := by
  have yn := l64_nat h0
  have zb : z.toBitVec.toNat = y.toBitVec.toNat % 32 := by
    rw [hz, Int64.toBitVec_and, BitVec.toNat_and]
    have e : (31 : Int64).toBitVec.toNat = 2 ^ 5 - 1 := by decide
    rw [e, Nat.and_two_pow_sub_one_eq_mod]
  have zl : z.toInt = z.toBitVec.toInt := rfl
  rw [zl, BitVec.toInt_eq_toNat_cond, if_pos (by omega), zb]
  omega
/-- a letter of a name's number -/
theorem nm_dig {L y z : Int64} {s w : Int32} {i : Nat} (hy : y = L >>> (s.toInt64 &&& 63)) (hz : z = y &&& 31) (hw : w = z.toInt32) (h0 : 0 ≤ L.toInt) (hs : s.toInt = 5 * (i : Int)) (hi : i ≤ 7) : w.toInt = L.toInt / (32 : Int) ^ i % 32 ∧ 0 ≤ w.toInt ∧ w.toInt < 32 := by
  have key : ∀ (c : Int32) (j : Nat), c.toInt = 5 * (j : Int) → (c.toInt64 &&& 63).toBitVec.smod 64 = BitVec.ofNat 64 (5 * j) → 5 * j < 64 → i = j → s = c → y.toInt = L.toInt / 2 ^ (5 * j) := fun c j _ h2 h3 _ h5 => by
    subst h5
    exact i64_shr h2 h3 hy
  have pw : ∀ j : Nat, (2 : Int) ^ (5 * j) = 32 ^ j := fun j => by rw [Int.pow_mul]; rfl
  have yv : y.toInt = L.toInt / 2 ^ (5 * i) := by
    have sc : ∀ (c : Int32) (j : Nat), c.toInt = 5 * (j : Int) → i = j → s = c := fun c j h1 h2 => Int32.toInt_inj.mp (by omega)
    have ci : i = 0 ∨ i = 1 ∨ i = 2 ∨ i = 3 ∨ i = 4 ∨ i = 5 ∨ i = 6 ∨ i = 7 := by omega
    rcases ci with c | c | c | c | c | c | c | c
    · rw [c]; exact key 0 0 (by decide) (by decide) (by decide) c (sc 0 0 (by decide) c)
    · rw [c]; exact key 5 1 (by decide) (by decide) (by decide) c (sc 5 1 (by decide) c)
    · rw [c]; exact key 10 2 (by decide) (by decide) (by decide) c (sc 10 2 (by decide) c)
    · rw [c]; exact key 15 3 (by decide) (by decide) (by decide) c (sc 15 3 (by decide) c)
    · rw [c]; exact key 20 4 (by decide) (by decide) (by decide) c (sc 20 4 (by decide) c)
    · rw [c]; exact key 25 5 (by decide) (by decide) (by decide) c (sc 25 5 (by decide) c)
    · rw [c]; exact key 30 6 (by decide) (by decide) (by decide) c (sc 30 6 (by decide) c)
    · rw [c]; exact key 35 7 (by decide) (by decide) (by decide) c (sc 35 7 (by decide) c)
  have y0 : 0 ≤ y.toInt := by rw [yv]; exact Int.ediv_nonneg h0 (Int.pow_nonneg (by decide))
  have zv := i64_and31 y0 hz
  have wv : w.toInt = z.toInt := by rw [hw]; exact i64_lt32 (by omega)
  rw [wv, zv, yv, pw]
  have := Int.emod_nonneg (L.toInt / (32 : Int) ^ i) (show (32 : Int) ≠ 0 by decide)
  have := Int.emod_lt_of_pos (L.toInt / (32 : Int) ^ i) (show (0 : Int) < 32 by decide)
  omega
theorem nlQ_ge : ∀ (m : Nat) (x : Int), 0 ≤ nlQ m x ∧ nlQ m x ≤ (m : Int) := by
  intro m
  induction m with
  | zero => intro x; exact ⟨Int.le_refl _, Int.le_refl _⟩
  | succ m ih =>
    intro x
    have i := ih (x / 32)
    rw [nlQ_s]
    split <;> omega
theorem nlR_ge : ∀ (m : Nat) (x : Int), 0 ≤ nlR m x := by
  intro m
  induction m with
  | zero => intro x; exact Int.le_refl _
  | succ m ih =>
    intro x
    have i := ih ((x - 1) / 27)
    rw [nlR_s]
    split <;> omega
/-! the terms of a node, each with a sign ahead of it -/
def slX (nf : Int → Int) (V : VWT) (d x : Nat) : Nat → Int
  | 0 => 0
  | k + 1 => slX nf V d x k + (1 + lnX nf V d (V.2.2.2 x k))
theorem slX_s {nf : Int → Int} {V : VWT} {d x k : Nat} : slX nf V d x (k + 1) = slX nf V d x k + (1 + lnX nf V d (V.2.2.2 x k)) := rfl
theorem lnX_sum {nf : Int → Int} {V : VWT} {d x m : Nat} (h : V.1 x = -1) (hm : V.2.2.1 x = (m : Int)) (h3 : m ≤ 3) : lnX nf V (d + 1) x = nf (V.2.1 x) + slX nf V d x m + (if m = 0 then 0 else 1) := by
  rw [lnX_s, if_pos h, hm]
  have c : m = 0 ∨ m = 1 ∨ m = 2 ∨ m = 3 := by omega
  rcases c with c | c | c | c
  · subst c
    rw [if_neg (by omega), if_neg (by omega), if_neg (by omega), if_neg (by omega), if_pos rfl]
    show _ = nf (V.2.1 x) + 0 + 0
    omega
  · subst c
    rw [if_pos (by omega), if_neg (by omega), if_neg (by omega), if_pos (by omega), if_neg (by omega)]
    show _ = nf (V.2.1 x) + (0 + (1 + lnX nf V d (V.2.2.2 x 0))) + 1
    omega
  · subst c
    rw [if_pos (by omega), if_pos (by omega), if_neg (by omega), if_pos (by omega), if_neg (by omega)]
    show _ = nf (V.2.1 x) + (0 + (1 + lnX nf V d (V.2.2.2 x 0)) + (1 + lnX nf V d (V.2.2.2 x 1))) + 1
    omega
  · subst c
    rw [if_pos (by omega), if_pos (by omega), if_pos (by omega), if_pos (by omega), if_neg (by omega)]
    show _ = nf (V.2.1 x) + (0 + (1 + lnX nf V d (V.2.2.2 x 0)) + (1 + lnX nf V d (V.2.2.2 x 1)) + (1 + lnX nf V d (V.2.2.2 x 2))) + 1
    omega
theorem lnX_var {nf : Int → Int} {V : VWT} {d x : Nat} (h : 0 ≤ V.1 x) : lnX nf V (d + 1) x = 1 := by rw [lnX_s, if_neg (by omega)]
theorem lnX_ge {nf : Int → Int} (hf : ∀ y : Int, 0 ≤ nf y) {V : VWT} : ∀ d x : Nat, 0 ≤ lnX nf V d x := by
  intro d
  induction d with
  | zero => intro x; exact Int.le_refl _
  | succ d ih =>
    intro x
    have a := ih (V.2.2.2 x 0)
    have b := ih (V.2.2.2 x 1)
    have c := ih (V.2.2.2 x 2)
    have e := hf (V.2.1 x)
    rw [lnX_s]
    split
    · split <;> split <;> split <;> omega
    · omega
theorem slX_ge {nf : Int → Int} (hf : ∀ y : Int, 0 ≤ nf y) {V : VWT} {d x : Nat} : ∀ k : Nat, 0 ≤ slX nf V d x k := by
  intro k
  induction k with
  | zero => exact Int.le_refl _
  | succ k ih => have a := lnX_ge hf (V := V) d (V.2.2.2 x k); rw [slX_s]; omega
theorem slX_mono {nf : Int → Int} (hf : ∀ y : Int, 0 ≤ nf y) {V : VWT} {d x j : Nat} : ∀ k : Nat, j ≤ k → slX nf V d x j ≤ slX nf V d x k := by
  intro k
  induction k with
  | zero => intro h; have e : j = 0 := (by omega); subst e; exact Int.le_refl _
  | succ k ih =>
    intro h
    by_cases c : j = k + 1
    · subst c; exact Int.le_refl _
    · have a := lnX_ge hf (V := V) d (V.2.2.2 x k)
      have i := ih (by omega)
      rw [slX_s]; omega
/-- two trees, the class's and the reference's, are written as long -/
theorem eqx_len {V W : VWT} {kf : Nat → Nat} : ∀ d x y : Nat, EQX V W kf d x y → lnX (nlQ 8) V d x = lnX (nlR 14) W d y := by
  intro d
  induction d with
  | zero => intro x y h; exact False.elim h
  | succ d ih =>
    intro x y h
    rw [eqx_s] at h
    obtain ⟨h1, h2⟩ := h
    rw [lnX_s, lnX_s, ← h1]
    rcases h2 with ⟨a, -⟩ | ⟨a, b, c, c0, c3, f⟩
    · rw [if_neg (by omega), if_neg (by omega)]
    · rw [if_pos a, if_pos a, ← c, (nmq_len b).1]
      have g : ∀ k : Nat, (k : Int) < V.2.2.1 x → lnX (nlQ 8) V d (V.2.2.2 x k) = lnX (nlR 14) W d (W.2.2.2 y k) := fun k hk => ih _ _ (f k hk)
      have g0 : (if 1 ≤ V.2.2.1 x then 1 + lnX (nlQ 8) V d (V.2.2.2 x 0) else 0) = (if 1 ≤ V.2.2.1 x then 1 + lnX (nlR 14) W d (W.2.2.2 y 0) else 0) := by
        split
        · rw [g 0 (by omega)]
        · rfl
      have g1 : (if 2 ≤ V.2.2.1 x then 1 + lnX (nlQ 8) V d (V.2.2.2 x 1) else 0) = (if 2 ≤ V.2.2.1 x then 1 + lnX (nlR 14) W d (W.2.2.2 y 1) else 0) := by
        split
        · rw [g 1 (by omega)]
        · rfl
      have g2 : (if 3 ≤ V.2.2.1 x then 1 + lnX (nlQ 8) V d (V.2.2.2 x 2) else 0) = (if 3 ≤ V.2.2.1 x then 1 + lnX (nlR 14) W d (W.2.2.2 y 2) else 0) := by
        split
        · rw [g 2 (by omega)]
        · rfl
      rw [g0, g1, g2]
/-- a tree whose names have letters -/
def WGX (V : VWT) : Nat → Nat → Prop
  | 0, _ => False
  | d + 1, x => 0 ≤ V.1 x ∨ (V.1 x = -1 ∧ (0 ≤ V.2.1 x ∧ 1 ≤ nlQ 8 (V.2.1 x)) ∧ 0 ≤ V.2.2.1 x ∧ V.2.2.1 x ≤ 3 ∧ ∀ k : Nat, (k : Int) < V.2.2.1 x → WGX V d (V.2.2.2 x k))
theorem wgx_s (V : VWT) (d x : Nat) : WGX V (d + 1) x = (0 ≤ V.1 x ∨ (V.1 x = -1 ∧ (0 ≤ V.2.1 x ∧ 1 ≤ nlQ 8 (V.2.1 x)) ∧ 0 ≤ V.2.2.1 x ∧ V.2.2.1 x ≤ 3 ∧ ∀ k : Nat, (k : Int) < V.2.2.1 x → WGX V d (V.2.2.2 x k))) := rfl
theorem eqx_wg {V W : VWT} {kf : Nat → Nat} : ∀ d x y : Nat, EQX V W kf d x y → WGX V d x := by
  intro d
  induction d with
  | zero => intro x y h; exact h
  | succ d ih =>
    intro x y h
    rw [eqx_s] at h
    rw [wgx_s]
    rcases h.2 with ⟨a, -⟩ | ⟨a, b, c, c0, c3, f⟩
    · exact Or.inl a
    · have l := nmq_len b
      have z : 0 ≤ V.2.1 x := by
        obtain ⟨D, k, h1, h2, -⟩ := b
        rw [h2]; exact nmv_ge (Or.inr rfl) k h1
      exact Or.inr ⟨a, ⟨z, l.2.1⟩, c0, c3, fun k hk => ih _ _ (f k hk)⟩
theorem wgx_suc {V : VWT} {e x : Nat} (h : WGX V e x) : ∃ d : Nat, e = d + 1 := by
  cases e with
  | zero => exact False.elim h
  | succ d => exact ⟨d, rfl⟩
/-! what is on the row of what is to be written: signs, and places of the literal aside -/
def OKL (V : VWT) (ds : Nat → Nat) (h : Nat → Int32) (n : Int) : Prop := ∀ i : Nat, (i : Int) < n → (h i).toInt < 0 ∨ (9000 ≤ (h i).toInt ∧ (h i).toInt < 9300 ∧ WGX V (ds i) ((h i).toInt - 9000).toNat)
def wlX (V : VWT) (d : Nat) (v : Int) : Int := if v < 0 then 1 else lnX (nlQ 8) V d (v - 9000).toNat
def smL (V : VWT) (ds : Nat → Nat) (h : Nat → Int32) : Nat → Int
  | 0 => 0
  | n + 1 => smL V ds h n + wlX V (ds n) (h n).toInt
section SM
variable {V : VWT} {ds es : Nat → Nat} {h h' : Nat → Int32}
theorem okl_le {n n' : Int} (a : OKL V ds h n) (e : n' ≤ n) : OKL V ds h n' := fun i hi => a i (by omega)
theorem smL_s (n : Nat) : smL V ds h (n + 1) = smL V ds h n + wlX V (ds n) (h n).toInt := rfl
theorem wlX_ge (d : Nat) (v : Int) : 0 ≤ wlX V d v := by
  unfold wlX
  split
  · decide
  · exact lnX_ge (fun y => (nlQ_ge 8 y).1) _ _
theorem smL_ge : ∀ n : Nat, 0 ≤ smL V ds h n := by
  intro n
  induction n with
  | zero => exact Int.le_refl _
  | succ n ih => have a := wlX_ge (V := V) (ds n) (h n).toInt; rw [smL_s]; omega
theorem smL_cong : ∀ n : Nat, (∀ i : Nat, i < n → es i = ds i ∧ h' i = h i) → smL V es h' n = smL V ds h n := by
  intro n
  induction n with
  | zero => intro _; rfl
  | succ n ih =>
    intro a
    rw [smL_s, smL_s, ih (fun i hi => a i (by omega)), (a n (by omega)).1, (a n (by omega)).2]
/-- one more comes on the row -/
theorem okl_push {n n' : Int} {i v : Int32} {d : Nat} (a : OKL V ds h n) (hi : i.toInt = n) (h0 : 0 ≤ n) (hv : v.toInt < 0 ∨ (9000 ≤ v.toInt ∧ v.toInt < 9300 ∧ WGX V d (v.toInt - 9000).toNat)) (e : h' = upd h (Int32.toNatClampNeg i) v) (en : n' = n + 1) : OKL V (fun j => if j = Int32.toNatClampNeg i then d else ds j) h' n' := fun j hj => by
  have ci : Int32.toNatClampNeg i = n.toNat := by rw [clamp_nat (by omega)]; omega
  by_cases c : j = Int32.toNatClampNeg i
  · simp only [if_pos c]
    rw [e, c, pk_us]; exact hv
  · simp only [if_neg c]
    rw [e, pk_un c]; exact a j (by omega)
theorem smL_push {n m : Int} {i v : Int32} {d : Nat} (hi : i.toInt = n) (h0 : 0 ≤ n) (e : h' = upd h (Int32.toNatClampNeg i) v) (em : m = n + 1) : smL V (fun j => if j = Int32.toNatClampNeg i then d else ds j) h' m.toNat = smL V ds h n.toNat + wlX V d v.toInt := by
  have ci : Int32.toNatClampNeg i = n.toNat := by rw [clamp_nat (by omega)]; omega
  rw [show m.toNat = n.toNat + 1 by omega, smL_s, smL_cong (ds := ds) (h := h) n.toNat (fun j hj => ⟨by simp only [if_neg (show ¬ j = Int32.toNatClampNeg i by omega)], by rw [e, pk_un (by omega)]⟩)]
  rw [ci] at e ⊢
  rw [e, pk_us]
  simp only [if_pos]
theorem wlX_neg {d : Nat} {v : Int} (c : v < 0) : wlX V d v = 1 := by unfold wlX; rw [if_pos c]
theorem wlX_pos {d : Nat} {v : Int} (c : ¬ v < 0) : wlX V d v = lnX (nlQ 8) V d (v - 9000).toNat := by unfold wlX; rw [if_neg c]
end SM
/-! what show() tells -/
def SHV (nf : Int → Int) (V : VWT) (L : LWT) (n c k r : Int) : Prop := (¬ ((0 ≤ c ∧ c < n) ∧ 0 ≤ k ∧ k < L.1 c.toNat) ∧ r = -1) ∨ (((0 ≤ c ∧ c < n) ∧ 0 ≤ k ∧ k < L.1 c.toNat) ∧ r = 1 - L.2.2.2 c.toNat k.toNat + lnX nf V 7 (L.2.2.1 c.toNat k.toNat))
theorem shv_two {V W : VWT} {L M : LWT} {n n' c k r r' : Int} (h : TLQ V W L M n) (en : n = n') (a : SHV (nlQ 8) V L n c k r) (b : SHV (nlR 14) W M n' c k r') : r = r' := by
  subst en
  have key : (0 ≤ c ∧ c < n) → L.1 c.toNat = M.1 c.toNat := fun hc => (h c.toNat (by omega)).1
  rcases a with ⟨a1, a2⟩ | ⟨a1, a2⟩
  · rcases b with ⟨b1, b2⟩ | ⟨b1, b2⟩
    · omega
    · exact absurd ⟨b1.1, b1.2.1, by rw [key b1.1]; exact b1.2.2⟩ a1
  · rcases b with ⟨b1, b2⟩ | ⟨b1, b2⟩
    · exact absurd ⟨a1.1, a1.2.1, by rw [← key a1.1]; exact a1.2.2⟩ b1
    · obtain ⟨c1, c2, c3, c4, kf, c5⟩ := h c.toNat (by omega)
      obtain ⟨⟨d1, d0, d3⟩, d2, d4⟩ := c5 k.toNat (by omega)
      rw [a2, b2, d2, eqx_len 7 _ _ d1]
/-- literals that are trees, and fit when they are written -/
def WFS (V : VWT) (L : LWT) (n : Int) : Prop := ∀ j : Nat, (j : Int) < n → ∀ k : Nat, (k : Int) < L.1 j → WGX V 7 (L.2.2.1 j k) ∧ lnX (nlQ 8) V 7 (L.2.2.1 j k) ≤ 599 + L.2.2.2 j k
theorem wfs_V {V W : VWT} {L M : LWT} {n : Int} (h : TLQ V W L M n) : WFS V L n := fun j hj k hk => by
  obtain ⟨c1, c2, c3, c4, kf, c5⟩ := h j hj
  obtain ⟨⟨d1, d0, d3⟩, d2, d4⟩ := c5 k hk
  exact ⟨eqx_wg 7 _ _ d1, d4⟩
/-- a tree of the reference whose names are numbers above 0 -/
def WHX (V : VWT) : Nat → Nat → Prop
  | 0, _ => False
  | d + 1, x => 0 ≤ V.1 x ∨ (V.1 x = -1 ∧ 1 ≤ V.2.1 x ∧ 0 ≤ V.2.2.1 x ∧ V.2.2.1 x ≤ 3 ∧ ∀ k : Nat, (k : Int) < V.2.2.1 x → WHX V d (V.2.2.2 x k))
theorem whx_s (V : VWT) (d x : Nat) : WHX V (d + 1) x = (0 ≤ V.1 x ∨ (V.1 x = -1 ∧ 1 ≤ V.2.1 x ∧ 0 ≤ V.2.2.1 x ∧ V.2.2.1 x ≤ 3 ∧ ∀ k : Nat, (k : Int) < V.2.2.1 x → WHX V d (V.2.2.2 x k))) := rfl
theorem whx_wfx {V : VWT} : ∀ d x : Nat, WHX V d x → WFX V d x := by
  intro d
  induction d with
  | zero => intro x h; exact h
  | succ d ih =>
    intro x h
    rw [whx_s] at h
    rw [wfx_s]
    rcases h with h | ⟨a, -, c, e, f⟩
    · exact Or.inl h
    · exact Or.inr ⟨a, c, e, fun k hk => ih _ (f k hk)⟩
theorem whx_nm {V : VWT} {d x : Nat} (h : WHX V (d + 1) x) (hx : V.1 x = -1) : 1 ≤ V.2.1 x := by
  rw [whx_s] at h
  rcases h with h | ⟨_, b, _⟩
  · omega
  · exact b
theorem whx_ch {V : VWT} {d x k : Nat} (h : WHX V (d + 1) x) (hx : V.1 x = -1) (hk : (k : Int) < V.2.2.1 x) : WHX V d (V.2.2.2 x k) := by
  rw [whx_s] at h
  rcases h with h | ⟨_, _, _, _, f⟩
  · omega
  · exact f k hk
theorem nmv_pos {D : Int → Int} {k : Nat} (h : DGS D k) (hk : 1 ≤ k) : 1 ≤ NMV 27 D k := by
  obtain ⟨j, e⟩ : ∃ j : Nat, k = j + 1 := ⟨k - 1, by omega⟩
  subst e
  have a := nmv_ge (Or.inl rfl) j (dgs_le h (by omega))
  have b := h j (by omega)
  rw [nmv_s]; omega
theorem eqx_wh {V W : VWT} {kf : Nat → Nat} : ∀ d x y : Nat, EQX V W kf d x y → WHX W d y := by
  intro d
  induction d with
  | zero => intro x y h; exact h
  | succ d ih =>
    intro x y h
    rw [eqx_s] at h
    rw [whx_s]
    obtain ⟨h1, h2⟩ := h
    rcases h2 with ⟨a, -⟩ | ⟨a, b, c, c0, c3, f⟩
    · exact Or.inl (by omega)
    · obtain ⟨D, k, k1, k2, k3, k4, k5⟩ := b
      exact Or.inr ⟨by omega, by rw [k3]; exact nmv_pos k1 k4, by omega, by omega, fun k hk => ih _ _ (f k (by omega))⟩
def WFT (W : VWT) (M : LWT) (n : Int) : Prop := ∀ j : Nat, (j : Int) < n → ∀ k : Nat, (k : Int) < M.1 j → WHX W 7 (M.2.2.1 j k) ∧ lnX (nlR 14) W 7 (M.2.2.1 j k) ≤ 599 + M.2.2.2 j k
theorem wft_W {V W : VWT} {L M : LWT} {n : Int} (h : TLQ V W L M n) : WFT W M n := fun j hj k hk => by
  obtain ⟨c1, c2, c3, c4, kf, c5⟩ := h j hj
  obtain ⟨⟨d1, d0, d3⟩, d2, d4⟩ := c5 k (by omega)
  exact ⟨eqx_wh 7 _ _ d1, by rw [← eqx_len 7 _ _ d1, ← d2]; exact d4⟩
def PUS (f f' : Nat → Int32) (i v : Int32) : Prop := i.toInt < 2048 → f' = upd f (Int32.toNatClampNeg i) v
theorem okl_cast {V : VWT} {ds : Nat → Nat} {h : Nat → Int32} {n n' : Int} (a : OKL V ds h n) (e : n' = n) : OKL V ds h n' := by subst e; exact a
/-- the row with one more -/
theorem hol_push {V : VWT} {ds : Nat → Nat} {h h' : Nat → Int32} {n n' : Int} {i v : Int32} {d : Nat} (a : OKL V ds h n) (hi : i.toInt = n) (h0 : 0 ≤ n) (hv : v.toInt < 0 ∨ (9000 ≤ v.toInt ∧ v.toInt < 9300 ∧ WGX V d (v.toInt - 9000).toNat)) (e : h' = upd h (Int32.toNatClampNeg i) v) (en : n' = n + 1) : ∃ es : Nat → Nat, OKL V es h' n' ∧ smL V es h' n'.toNat = smL V ds h n.toNat + wlX V d v.toInt := ⟨_, okl_push a hi h0 hv e en, smL_push hi h0 e en⟩
/-- what stands on top -/
theorem okl_at {V : VWT} {ds : Nat → Nat} {h : Nat → Int32} {n : Int} {i z : Int32} (a : OKL V ds h n) (hi : 0 ≤ i.toInt ∧ i.toInt < n) (e : z = h (Int32.toNatClampNeg i)) : z.toInt < 0 ∨ (9000 ≤ z.toInt ∧ z.toInt < 9300 ∧ WGX V (ds i.toInt.toNat) (z.toInt - 9000).toNat) := by
  have ci : Int32.toNatClampNeg i = i.toInt.toNat := clamp_nat hi.1
  rw [ci] at e
  have q := a i.toInt.toNat (by omega)
  rw [← e] at q
  exact q
theorem smL_pop {V : VWT} {ds : Nat → Nat} {h : Nat → Int32} {i z : Int32} {n : Nat} (hn : (n : Int) = i.toInt + 1) (h0 : 0 ≤ i.toInt) (e : z = h (Int32.toNatClampNeg i)) : smL V ds h n = smL V ds h i.toInt.toNat + wlX V (ds i.toInt.toNat) z.toInt := by
  have ci : Int32.toNatClampNeg i = i.toInt.toNat := clamp_nat h0
  rw [ci] at e
  rw [show n = i.toInt.toNat + 1 by omega, smL_s, ← e]
theorem okl_one {V : VWT} {f g : Nat → Int32} {i v : Int32} {d : Nat} (hi : i.toInt = 0) (e : f = upd g (Int32.toNatClampNeg i) v) (hv : 9000 ≤ v.toInt ∧ v.toInt < 9300) (h : WGX V d (v.toInt - 9000).toNat) : OKL V (fun _ => d) f 1 ∧ smL V (fun _ => d) f 1 = lnX (nlQ 8) V d (v.toInt - 9000).toNat := by
  have ci : Int32.toNatClampNeg i = 0 := by rw [clamp_nat (by omega)]; omega
  rw [ci] at e
  have f0 : f 0 = v := by rw [e, pk_us]
  refine ⟨fun j hj => ?_, ?_⟩
  · have ej : j = 0 := by omega
    subst ej
    rw [f0]; exact Or.inr ⟨hv.1, hv.2, h⟩
  · show (0 : Int) + wlX V d (f 0).toInt = _
    rw [f0, wlX_pos (by omega), Int.zero_add]
theorem lnX_pos14 {V : VWT} {d x : Nat} (h : WFX V (d + 1) x) : 1 ≤ lnX (nlR 14) V (d + 1) x := by
  rw [wfx_s] at h
  rcases h with h | ⟨h1, h2, h3, -⟩
  · rw [lnX_var h]; omega
  · obtain ⟨m, hm⟩ : ∃ m : Nat, V.2.2.1 x = (m : Int) := ⟨(V.2.2.1 x).toNat, by omega⟩
    have a := lnX_sum (nf := nlR 14) (V := V) (d := d) (x := x) h1 hm (by omega)
    have b := slX_ge (nlR_ge 14) (V := V) (d := d) (x := x) m
    have c := nlR_ge 13 ((V.2.1 x - 1) / 27)
    have e := nlR_s 13 (V.2.1 x)
    rw [a, e]
    split <;> split <;> omega
theorem bt_64f : ∀ (k : Fin 6) (v : Fin 64), ((Int32.ofNat v.val >>> (Int32.ofNat k.val &&& 31)) &&& 1).toInt = (v.val : Int) / (2 : Int) ^ k.val % 2 := by decide +kernel
theorem bt_64 {v k s z : Int32} (hv : 0 ≤ v.toInt ∧ v.toInt < 64) (hk : 0 ≤ k.toInt ∧ k.toInt ≤ 5) (hs : s = v >>> (k &&& 31)) (hz : z = s &&& 1) : z.toInt = v.toInt / (2 : Int) ^ k.toInt.toNat % 2 := by
  have ev : v = Int32.ofNat v.toInt.toNat := Int32.toInt_inj.mp (by rw [Int32.toInt_ofNat_of_lt (by omega)]; omega)
  have ek : k = Int32.ofNat k.toInt.toNat := Int32.toInt_inj.mp (by rw [Int32.toInt_ofNat_of_lt (by omega)]; omega)
  have q := bt_64f ⟨k.toInt.toNat, by omega⟩ ⟨v.toInt.toNat, by omega⟩
  dsimp only at q
  rw [← ev, ← ek] at q
  rw [hz, hs, q, show ((v.toInt.toNat : Nat) : Int) = v.toInt by omega]
theorem plb_64 {lit pls : Nat → Int32} {n : Int} {j : Nat} (h : PLB lit pls n) (hj : (j : Int) < n) (hl : (lit j).toInt ≤ 6) : 0 ≤ (pls j).toInt ∧ (pls j).toInt < 64 := by
  have q := h j hj
  unfold PB1 at q
  have p : ∀ m : Nat, m ≤ 6 → (2 : Int) ^ m ≤ 64 := by decide
  have := p (lit j).toInt.toNat (by omega)
  omega
theorem shv_cast {nf : Int → Int} {V : VWT} {L : LWT} {n c c' k k' r : Int} (h : SHV nf V L n c k r) (e1 : c' = c) (e2 : k' = k) : SHV nf V L n c' k' r := by subst e1; subst e2; exact h
