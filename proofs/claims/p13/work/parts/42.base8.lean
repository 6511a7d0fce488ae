/-! clauses are copied, nodes are moved -/
def CPT (k : Int) (f g : Nat → Int32) (p q : Int32) : Prop := ∀ t : Nat, g t = if 6 * q.toInt ≤ (t : Int) ∧ (t : Int) < 6 * q.toInt + k then f (6 * p.toInt + ((t : Int) - 6 * q.toInt)).toNat else f t
theorem cpt_zero {f : Nat → Int32} {p q : Int32} : CPT 0 f f p q := fun t => by rw [if_neg (by omega)]
theorem cpt_cast {k k' : Int} {f g : Nat → Int32} {p q : Int32} (h : CPT k f g p q) (e : k = k') : CPT k' f g p q := by rw [← e]; exact h
theorem cpt_step {k : Int} {f g : Nat → Int32} {p q i j : Int32} (h : CPT k f g p q) (hk : 0 ≤ k ∧ k < 6) (hp : 0 ≤ p.toInt) (hq : 0 ≤ q.toInt) (hi : i.toInt = 6 * q.toInt + k) (hj : j.toInt = 6 * p.toInt + k) : CPT (k + 1) f (upd g i.toNatClampNeg (g j.toNatClampNeg)) p q := by
  intro t
  have ci := clamp_nat (i := i) (by omega)
  have cj := clamp_nat (i := j) (by omega)
  by_cases e : t = i.toNatClampNeg
  · rw [e, pk_us, h, if_neg (by omega), if_pos (by omega)]
    congr 1; omega
  · rw [pk_un e, h]
    by_cases c : 6 * q.toInt ≤ (t : Int) ∧ (t : Int) < 6 * q.toInt + k
    · rw [if_pos c, if_pos (by omega)]
    · rw [if_neg c, if_neg (by omega)]
/-- a literal of a clause has its term among the nodes -/
def TMc (lo n : Int) (h : Nat → Nat) (mn tm : Nat → Int32) (c : Nat) : Prop := ∀ l : Nat, (l : Int) < (mn c).toInt → l < 6 → lo ≤ (tm (6 * c + l)).toInt ∧ (tm (6 * c + l)).toInt < n ∧ h ((tm (6 * c + l)).toInt.toNat) = 7
theorem tm_at {lo n a b : Int} {h : Nat → Nat} {mn tm : Nat → Int32} (ht : TM lo n h a b mn tm) {c : Nat} (h1 : a ≤ (c : Int)) (h2 : (c : Int) < b) : TMc lo n h mn tm c := fun l h3 h4 => ht c l h1 h2 h3 h4
theorem tm_of {lo n a b : Int} {h : Nat → Nat} {mn tm : Nat → Int32} (ht : ∀ c : Nat, a ≤ (c : Int) → (c : Int) < b → TMc lo n h mn tm c) : TM lo n h a b mn tm := fun c l h1 h2 h3 h4 => ht c h1 h2 l h3 h4
theorem tmc_copy {lo n : Int} {h : Nat → Nat} {mn tm mn' tm' : Nat → Int32} {p q : Int32} (hp : 0 ≤ p.toInt) (hq : 0 ≤ q.toInt) (hm : mn' = upd mn q.toNatClampNeg (mn p.toNatClampNeg)) (ht : CPT 6 tm tm' p q) (h1 : TMc lo n h mn tm p.toNatClampNeg) : TMc lo n h mn' tm' q.toNatClampNeg := by
  intro l h3 h4
  have cq := clamp_nat (i := q) hq
  have cp := clamp_nat (i := p) hp
  rw [hm, pk_us] at h3
  have h2 := h1 l h3 h4
  rw [ht, if_pos (by omega)]
  have e : (6 * p.toInt + (((6 * q.toNatClampNeg + l : Nat) : Int) - 6 * q.toInt)).toNat = 6 * p.toNatClampNeg + l := by omega
  rw [e]; exact h2
theorem tmc_other {lo n : Int} {h : Nat → Nat} {mn tm mn' tm' : Nat → Int32} {p q : Int32} {c : Nat} (hq : 0 ≤ q.toInt) (hm : mn' = upd mn q.toNatClampNeg (mn p.toNatClampNeg)) (ht : CPT 6 tm tm' p q) (h1 : TMc lo n h mn tm c) (hc : c ≠ q.toNatClampNeg) : TMc lo n h mn' tm' c := by
  intro l h3 h4
  have cq := clamp_nat (i := q) hq
  rw [hm, pk_un hc] at h3
  have h2 := h1 l h3 h4
  rw [ht, if_neg (by omega)]; exact h2
/-- a clause comes over another one, or behind the last -/
theorem tm_copy {lo n a b b' : Int} {h : Nat → Nat} {mn tm mn' tm' : Nat → Int32} {p q : Int32} (h1 : TM lo n h a b mn tm) (hp : 0 ≤ p.toInt) (hq : 0 ≤ q.toInt) (hc : TMc lo n h mn tm p.toNatClampNeg) (hm : mn' = upd mn q.toNatClampNeg (mn p.toNatClampNeg)) (ht : CPT 6 tm tm' p q) (hb : b' ≤ b ∨ (b' = b + 1 ∧ q.toInt = b)) : TM lo n h a b' mn' tm' := by
  have cq := clamp_nat (i := q) hq
  refine tm_of (fun c g1 g2 => ?_)
  by_cases e : c = q.toNatClampNeg
  · rw [e]; exact tmc_copy hp hq hm ht hc
  · exact tmc_other hq hm ht (tm_at h1 g1 (by omega)) e
theorem tm_empty {lo n a : Int} {h : Nat → Nat} {mn tm : Nat → Int32} {b : Int} (e : b ≤ a) : TM lo n h a b mn tm := fun c l h1 h2 => absurd h2 (by omega)
theorem tm_cast {lo lo' n n' a a' b b' : Int} {h : Nat → Nat} {mn tm : Nat → Int32} (ht : TM lo n h a b mn tm) (e1 : lo = lo') (e2 : n = n') (e3 : a = a') (e4 : b = b') : TM lo' n' h a' b' mn tm := by rw [← e1, ← e2, ← e3, ← e4]; exact ht
theorem nd_empty {lo : Int} {h : Nat → Nat} {fa fb fc : Nat → Int32} : ND lo lo h fa fb fc := fun x h1 h2 => absurd h2 (by omega)
theorem nd_eq0 {lo : Int} {h : Nat → Nat} {za zb zc zv fa fb fc fv : Nat → Int32} (hn : ND 0 lo h za zb zc) (he : EQ0 lo za zb zc zv fa fb fc fv) : ND 0 lo h fa fb fc := by
  intro x h1 h2
  obtain ⟨ea, eb, ec, -⟩ := he x h2
  rw [ea, eb, ec]; exact hn x h1 h2
/-- nodes from lo on come to 0 -/
def hsh (h : Nat → Nat) (lo : Int) : Nat → Nat := fun y => h (y + lo.toNat)
def MV (lo N : Int) (h : Nat → Nat) (k : Int) (f : Nat → Int32) : Prop := (∀ x : Nat, (x : Int) < k → NDk 0 (N - lo) (hsh h lo) x (f x)) ∧ (∀ x : Nat, lo + k ≤ (x : Int) → (x : Int) < N → NDk lo N h x (f x))
theorem mv_zA {lo N : Int} {h : Nat → Nat} {fa fb fc : Nat → Int32} (hn : ND lo N h fa fb fc) : MV lo N h 0 fa := ⟨fun x hx => absurd hx (by omega), fun x h1 h2 => (hn x (by omega) h2).1⟩
theorem mv_zB {lo N : Int} {h : Nat → Nat} {fa fb fc : Nat → Int32} (hn : ND lo N h fa fb fc) : MV lo N h 0 fb := ⟨fun x hx => absurd hx (by omega), fun x h1 h2 => (hn x (by omega) h2).2.1⟩
theorem mv_zC {lo N : Int} {h : Nat → Nat} {fa fb fc : Nat → Int32} (hn : ND lo N h fa fb fc) : MV lo N h 0 fc := ⟨fun x hx => absurd hx (by omega), fun x h1 h2 => (hn x (by omega) h2).2.2.1⟩
theorem mv_cast {lo N k k' : Int} {h : Nat → Nat} {f : Nat → Int32} (hm : MV lo N h k f) (e : k = k') : MV lo N h k' f := by rw [← e]; exact hm
theorem mv_get {lo N k : Int} {h : Nat → Nat} {f : Nat → Int32} {j z : Int32} (hm : MV lo N h k f) (hj : lo + k ≤ j.toInt ∧ j.toInt < N ∧ 0 ≤ j.toInt) (hz : z = f j.toNatClampNeg) : z.toInt = -1 ∨ (lo ≤ z.toInt ∧ z.toInt < N) := by
  have cj := clamp_nat (i := j) hj.2.2
  rcases hm.2 j.toNatClampNeg (by omega) (by omega) with e | ⟨a, b, -⟩
  · rw [hz]; exact Or.inl e
  · rw [hz]; exact Or.inr ⟨a, b⟩
theorem mv_step {lo N k : Int} {h : Nat → Nat} {f : Nat → Int32} {i j v : Int32} (hm : MV lo N h k f) (hi : i.toInt = k) (hk : 0 ≤ k ∧ lo + k < N) (hlo : 0 ≤ lo) (hj : j.toInt = lo + k) (hv : v.toInt = -1 ∨ (v.toInt = (f j.toNatClampNeg).toInt - lo ∧ ¬ (f j.toNatClampNeg).toInt = -1)) : MV lo N h (k + 1) (upd f i.toNatClampNeg v) := by
  have ci := clamp_nat (i := i) (by omega)
  have cj := clamp_nat (i := j) (by omega)
  constructor
  · intro x hx
    by_cases e : x = i.toNatClampNeg
    · rw [e, pk_us]
      rcases hv with hv | ⟨hv, hne⟩
      · exact Or.inl hv
      rcases hm.2 j.toNatClampNeg (by omega) (by omega) with e2 | ⟨a, b, d⟩
      · exact absurd e2 hne
      · refine Or.inr ⟨by omega, by omega, ?_⟩
        have e1 : v.toInt.toNat + lo.toNat = (f j.toNatClampNeg).toInt.toNat := by omega
        have e3 : i.toNatClampNeg + lo.toNat = j.toNatClampNeg := by omega
        unfold hsh
        rw [e1, e3]; exact d
    · rw [pk_un e]; exact hm.1 x (by omega)
  · intro x h1 h2
    rw [pk_un (by omega)]; exact hm.2 x (by omega) h2
theorem nd_mv {lo N k n : Int} {h : Nat → Nat} {fa fb fc ga gb gc : Nat → Int32} (hn : ND lo N h fa fb fc) (ha : MV lo N h k ga) (hb : MV lo N h k gb) (hc : MV lo N h k gc) (hk : N - lo ≤ k) (e : n = N - lo) (hlo : 0 ≤ lo) : ND 0 n (hsh h lo) ga gb gc := by
  intro x h1 h2
  rw [e]
  refine ⟨ha.1 x (by omega), hb.1 x (by omega), hc.1 x (by omega), ?_⟩
  exact (hn (x + lo.toNat) (by omega) (by omega)).2.2.2
def TMV (lo N : Int) (h : Nat → Nat) (r k l : Int) (mn tm : Nat → Int32) : Prop := ∀ c j : Nat, 16 ≤ (c : Int) → (c : Int) < r → (j : Int) < (mn c).toInt → j < 6 → (((c : Int) < k ∨ ((c : Int) = k ∧ (j : Int) < l)) → 0 ≤ (tm (6 * c + j)).toInt ∧ (tm (6 * c + j)).toInt < N - lo ∧ hsh h lo ((tm (6 * c + j)).toInt.toNat) = 7) ∧ (¬ ((c : Int) < k ∨ ((c : Int) = k ∧ (j : Int) < l)) → lo ≤ (tm (6 * c + j)).toInt ∧ (tm (6 * c + j)).toInt < N ∧ h ((tm (6 * c + j)).toInt.toNat) = 7)
theorem tmv_zero {lo N r : Int} {h : Nat → Nat} {mn tm : Nat → Int32} (ht : TM lo N h 16 r mn tm) : TMV lo N h r 16 0 mn tm := fun c j h1 h2 h3 h4 => ⟨fun q => absurd q (by omega), fun _ => ht c j h1 h2 h3 h4⟩
theorem tmv_cast {lo N r k k' l l' : Int} {h : Nat → Nat} {mn tm : Nat → Int32} (ht : TMV lo N h r k l mn tm) (e1 : k = k') (e2 : l = l') : TMV lo N h r k' l' mn tm := by rw [← e1, ← e2]; exact ht
theorem tmv_next {lo N r k l : Int} {h : Nat → Nat} {mn tm : Nat → Int32} {i : Int32} (ht : TMV lo N h r k l mn tm) (hi : i.toInt = k) (h0 : 0 ≤ k) (hl : (mn i.toNatClampNeg).toInt ≤ l) : TMV lo N h r (k + 1) 0 mn tm := by
  intro c j h1 h2 h3 h4
  have ci := clamp_nat (i := i) (by omega)
  refine ⟨fun q => (ht c j h1 h2 h3 h4).1 ?_, fun q => (ht c j h1 h2 h3 h4).2 (by omega)⟩
  by_cases e : (c : Int) = k
  · have : c = i.toNatClampNeg := by omega
    rw [this] at h3
    omega
  · omega
theorem tmv_get {lo N r k l : Int} {h : Nat → Nat} {mn tm : Nat → Int32} {i t z : Int32} (ht : TMV lo N h r k l mn tm) (hi : i.toInt = k) (hk : 16 ≤ k ∧ k < r) (hl : 0 ≤ l ∧ l < (mn i.toNatClampNeg).toInt ∧ l < 6) (e : t.toInt = 6 * k + l) (hz : z = tm t.toNatClampNeg) : lo ≤ z.toInt ∧ z.toInt < N := by
  have ci := clamp_nat (i := i) (by omega)
  have ct := clamp_nat (i := t) (by omega)
  have h1 := (ht i.toNatClampNeg l.toNat (by omega) (by omega) (by omega) (by omega)).2 (by omega)
  have e2 : 6 * i.toNatClampNeg + l.toNat = t.toNatClampNeg := by omega
  rw [e2, ← hz] at h1
  exact ⟨h1.1, h1.2.1⟩
theorem tmv_step {lo N r k l : Int} {h : Nat → Nat} {mn tm : Nat → Int32} {i t u v : Int32} (ht : TMV lo N h r k l mn tm) (hi : i.toInt = k) (hk : 16 ≤ k ∧ k < r) (hl : 0 ≤ l ∧ l < (mn i.toNatClampNeg).toInt ∧ l < 6) (hlo : 0 ≤ lo) (e : t.toInt = 6 * k + l) (eu : u.toInt = 6 * k + l) (hv : v.toInt = (tm u.toNatClampNeg).toInt - lo) : TMV lo N h r k (l + 1) mn (upd tm t.toNatClampNeg v) := by
  have ci := clamp_nat (i := i) (by omega)
  have ct := clamp_nat (i := t) (by omega)
  have cu := clamp_nat (i := u) (by omega)
  intro c j h1 h2 h3 h4
  by_cases q : 6 * c + j = t.toNatClampNeg
  · have ec : (c : Int) = k := by omega
    have ej : (j : Int) = l := by omega
    refine ⟨fun _ => ?_, fun q2 => absurd q2 (by omega)⟩
    have hh := (ht c j h1 h2 h3 h4).2 (by omega)
    have eq : 6 * c + j = u.toNatClampNeg := by omega
    rw [q, pk_us]
    rw [eq] at hh
    refine ⟨by omega, by omega, ?_⟩
    unfold hsh
    have e1 : v.toInt.toNat + lo.toNat = (tm u.toNatClampNeg).toInt.toNat := by omega
    rw [e1]; exact hh.2.2
  · rw [pk_un q]
    exact ⟨fun q2 => (ht c j h1 h2 h3 h4).1 (by omega), fun q2 => (ht c j h1 h2 h3 h4).2 (by omega)⟩
theorem tm_tmv {lo N r k l n : Int} {h : Nat → Nat} {mn tm : Nat → Int32} (ht : TMV lo N h r k l mn tm) (hk : r ≤ k) (e : n = N - lo) : TM 0 n (hsh h lo) 16 r mn tm := fun c j h1 h2 h3 h4 => by
  rw [e]; exact (ht c j h1 h2 h3 h4).1 (by omega)
