/-! literals and clauses of the reference -/
def RLX (o : Nat) (mny vrs isn tem : Nat → Int32) : LWT := (fun c => (mny (o + c)).toInt, fun c => (vrs (o + c)).toInt, fun c k => Int32.toNatClampNeg (tem (6 * (o + c) + k)), fun c k => 1 - (isn (6 * (o + c) + k)).toInt)
def VRF (c : Int) (vrs vrs' : Nat → Int32) : Prop := ∀ j : Nat, (j : Int) < c → vrs' j = vrs j
theorem vrf_rf {c : Int} {vrs : Nat → Int32} : VRF c vrs vrs := fun _ _ => rfl
theorem vrf_tr {c d : Int} {a b e : Nat → Int32} (h : VRF c a b) (g : VRF d b e) (q : c ≤ d) : VRF c a e := fun j hj => (g j (by omega)).trans (h j hj)
theorem vrf_set {c : Int} {a b e : Nat → Int32} {r v : Int32} (h : VRF c a b) (q : e = upd b (Int32.toNatClampNeg r) v) (hr : c ≤ r.toInt) : VRF c a e := fun j hj => by rw [q, pk_un (clamp_far (by omega))]; exact h j hj
/-- rows of clauses that were there before -/
def LFN (c : Int) (mny mny' vrs vrs' isn isn' tem tem' : Nat → Int32) : Prop := ∀ j : Nat, (j : Int) < c → mny' j = mny j ∧ vrs' j = vrs j ∧ ∀ k : Nat, k < 6 → isn' (6 * j + k) = isn (6 * j + k) ∧ tem' (6 * j + k) = tem (6 * j + k)
section LN
variable {c d : Int} {mny mny' mny'' vrs vrs' vrs'' isn isn' isn'' tem tem' tem'' : Nat → Int32}
theorem lfn_rf : LFN c mny mny vrs vrs isn isn tem tem := fun _ _ => ⟨rfl, rfl, fun _ _ => ⟨rfl, rfl⟩⟩
theorem lfn_tr (h : LFN c mny mny' vrs vrs' isn isn' tem tem') (g : LFN d mny' mny'' vrs' vrs'' isn' isn'' tem' tem'') (e : c ≤ d) : LFN c mny mny'' vrs vrs'' isn isn'' tem tem'' := fun j hj => by
  obtain ⟨a1, a2, a3⟩ := h j hj
  obtain ⟨b1, b2, b3⟩ := g j (by omega)
  exact ⟨b1.trans a1, b2.trans a2, fun k hk => ⟨(b3 k hk).1.trans (a3 k hk).1, (b3 k hk).2.trans (a3 k hk).2⟩⟩
theorem lfn_mny {r v : Int32} (h : LFN c mny mny' vrs vrs' isn isn' tem tem') (e : mny'' = upd mny' (Int32.toNatClampNeg r) v) (hr : c ≤ r.toInt) : LFN c mny mny'' vrs vrs' isn isn' tem tem' := fun j hj => ⟨by rw [e, pk_un (clamp_far (by omega))]; exact (h j hj).1, (h j hj).2⟩
theorem lfn_vrs (h : LFN c mny mny' vrs vrs' isn isn' tem tem') (e : VRF d vrs' vrs'') (hr : c ≤ d) : LFN c mny mny' vrs vrs'' isn isn' tem tem' := fun j hj => ⟨(h j hj).1, (e j (by omega)).trans (h j hj).2.1, (h j hj).2.2⟩
theorem lfn_isn {z v : Int32} {k : Int} (h : LFN c mny mny' vrs vrs' isn isn' tem tem') (e : isn'' = upd isn' (Int32.toNatClampNeg z) v) (hz : z.toInt = 6 * d + k) (hk : 0 ≤ k) (hr : c ≤ d) : LFN c mny mny' vrs vrs' isn isn'' tem tem' := fun j hj => ⟨(h j hj).1, (h j hj).2.1, fun i hi => ⟨by rw [e, pk_un (clamp_far (by omega))]; exact ((h j hj).2.2 i hi).1, ((h j hj).2.2 i hi).2⟩⟩
theorem lfn_tem {z v : Int32} {k : Int} (h : LFN c mny mny' vrs vrs' isn isn' tem tem') (e : tem'' = upd tem' (Int32.toNatClampNeg z) v) (hz : z.toInt = 6 * d + k) (hk : 0 ≤ k) (hr : c ≤ d) : LFN c mny mny' vrs vrs' isn isn' tem tem'' := fun j hj => ⟨(h j hj).1, (h j hj).2.1, fun i hi => ⟨((h j hj).2.2 i hi).1, by rw [e, pk_un (clamp_far (by omega))]; exact ((h j hj).2.2 i hi).2⟩⟩
theorem lfn_lag {o j : Nat} (h : LFN c mny mny' vrs vrs' isn isn' tem tem') (hj : ((o + j : Nat) : Int) < c) : LAG (RLX o mny vrs isn tem) (RLX o mny' vrs' isn' tem') j := by
  obtain ⟨a, b, d⟩ := h (o + j) hj
  refine ⟨?_, ?_, fun k hk => ⟨?_, ?_⟩⟩
  · show (mny' (o + j)).toInt = (mny (o + j)).toInt
    rw [a]
  · show (vrs' (o + j)).toInt = (vrs (o + j)).toInt
    rw [b]
  · show Int32.toNatClampNeg (tem' (6 * (o + j) + k)) = Int32.toNatClampNeg (tem (6 * (o + j) + k))
    rw [(d k hk).2]
  · show 1 - (isn' (6 * (o + j) + k)).toInt = 1 - (isn (6 * (o + j) + k)).toInt
    rw [(d k hk).1]
end LN
section LR
variable {G : Int → Int} {n : Int} {isn isn' tem tem' : Nat → Int32}
/-- what a call of the literal's reader laid -/
def LTR (G : Int → Int) (n : Int) (V : VWT) (nv : Int) (vf : Int → Int) (isn isn' tem tem' : Nat → Int32) (P0 P1 c k p q : Int) : Prop := ∃ (L B : Nat) (z w x y : Int32), (L : Int) = P0 ∧ (B : Int) = P1 ∧ z.toInt = 6 * c + k ∧ w.toInt = 6 * c + k ∧ isn' = upd isn (Int32.toNatClampNeg z) y ∧ tem' = upd tem (Int32.toNatClampNeg w) x ∧ ((tkT G n p = 45 ∧ tkT G n (tkN G n p) = 256 ∧ y.toInt = 1 ∧ SPX G n 27 V nv vf k0 L B 7 (Int32.toNatClampNeg x) (tkN G n p) q) ∨ (tkT G n p = 256 ∧ y.toInt = 0 ∧ SPX G n 27 V nv vf k0 L B 7 (Int32.toNatClampNeg x) p q))
/-- the literals of a clause that were read so far, and the place of the next one -/
def LRC (G : Int → Int) (n : Int) (S : Nat → Int → Int → Prop) (isn tem : Nat → Int32) (c k p0 a : Int) : Prop := ∃ (m : Nat) (q1 : Int), (m : Int) = k ∧ m ≤ 6 ∧ LPX G n S (fun j => Int32.toNatClampNeg (tem (6 * c.toNat + j))) (fun j => 1 - (isn (6 * c.toNat + j)).toInt) m p0 q1 ∧ ((m = 0 ∧ a = p0) ∨ (¬ m = 0 ∧ tkT G n q1 = 124 ∧ a = tkN G n q1))
theorem lrc_zero {S : Nat → Int → Int → Prop} {c k p0 a : Int} (hk : k = 0) (ha : a = p0) : LRC G n S isn tem c k p0 a := ⟨0, p0, by omega, by omega, rfl, Or.inl ⟨rfl, ha⟩⟩
/-- ..., and what stands behind the last one -/
def LRD (G : Int → Int) (n : Int) (S : Nat → Int → Int → Prop) (isn tem : Nat → Int32) (c k p0 q : Int) : Prop := ∃ m : Nat, (m : Int) = k ∧ 1 ≤ m ∧ m ≤ 6 ∧ LPX G n S (fun j => Int32.toNatClampNeg (tem (6 * c.toNat + j))) (fun j => 1 - (isn (6 * c.toNat + j)).toInt) m p0 q
theorem lrd_step {V V' : VWT} {nv nv' : Int} {vf vf' : Int → Int} {P0 P1 Q c k k' p0 a q : Int} {lo : Nat} (h : LRC G n (SPX G n 27 V nv vf k0 lo P0.toNat 7) isn tem c k p0 a) (hV : VAG V V' lo P0.toNat) (hx : XT nv vf nv' vf') (hP : P0 ≤ P1) (hlo : (lo : Int) ≤ Q) (hl : LTR G n V' nv' vf' isn isn' tem tem' Q P1 c k a q) (hc : 0 ≤ c) (hk : 0 ≤ k ∧ k ≤ 5) (hk' : k' = k + 1) : LRD G n (SPX G n 27 V' nv' vf' k0 lo P1.toNat 7) isn' tem' c k' p0 q := by
  obtain ⟨m, q1, e1, e2, h, e5⟩ := h
  obtain ⟨L, B, z, w, x, y, f1, f2, f3, f4, f5, f6, hl⟩ := hl
  have cz := clamp_toInt (i := z) (by omega)
  have cw := clamp_toInt (i := w) (by omega)
  have eB : B = P1.toNat := by omega
  subst eB
  have ez : 6 * c.toNat + m = Int32.toNatClampNeg z := by omega
  have ew : 6 * c.toNat + m = Int32.toNatClampNeg w := by omega
  refine ⟨m + 1, by omega, by omega, by omega, q1, a, ?_, e5, ?_⟩
  · refine lpx_mono (spx_agr hV hx kx_rf (Nat.le_refl _) (by omega) 7) m _ _ (fun j hj => ⟨?_, ?_⟩) h
    · show Int32.toNatClampNeg (tem' (6 * c.toNat + j)) = Int32.toNatClampNeg (tem (6 * c.toNat + j))
      rw [f6, pk_un (by omega)]
    · show 1 - (isn' (6 * c.toNat + j)).toInt = 1 - (isn (6 * c.toNat + j)).toInt
      rw [f5, pk_un (by omega)]
  · show (tkT G n a = 45 ∧ tkT G n (tkN G n a) = 256 ∧ 1 - (isn' (6 * c.toNat + m)).toInt = 0 ∧ SPX G n 27 V' nv' vf' k0 lo P1.toNat 7 (Int32.toNatClampNeg (tem' (6 * c.toNat + m))) (tkN G n a) q) ∨ (tkT G n a = 256 ∧ 1 - (isn' (6 * c.toNat + m)).toInt = 1 ∧ SPX G n 27 V' nv' vf' k0 lo P1.toNat 7 (Int32.toNatClampNeg (tem' (6 * c.toNat + m))) a q)
    have g1 : isn' (6 * c.toNat + m) = y := by rw [ez, f5, pk_us]
    have g2 : tem' (6 * c.toNat + m) = x := by rw [ew, f6, pk_us]
    rw [g1, g2]
    rcases hl with ⟨a1, a0, a2, a3⟩ | ⟨a1, a2, a3⟩
    · exact Or.inl ⟨a1, a0, by omega, spx_lo (by omega) _ _ _ a3⟩
    · exact Or.inr ⟨a1, by omega, spx_lo (by omega) _ _ _ a3⟩
theorem lrc_next {S : Nat → Int → Int → Prop} {c k p0 q a : Int} (h : LRD G n S isn tem c k p0 q) (ht : tkT G n q = 124) (ha : a = tkN G n q) : LRC G n S isn tem c k p0 a := by
  obtain ⟨m, e1, e2, e3, h⟩ := h
  exact ⟨m, q, e1, e3, h, Or.inr ⟨by omega, ht, ha⟩⟩
theorem clr_read {V : VWT} {mny vrs : Nat → Int32} {lo P : Nat} {c : Int32} {k p q q1 : Int} {nv1 : Int} {vf1 : Int → Int} {R : PR} (h : LRD G n (SPX G n 27 V nv1 vf1 k0 lo P 7) isn tem c.toInt k p q1) (hc : 16 ≤ c.toInt) (hl : (mny (Int32.toNatClampNeg c)).toInt = k) (hv : (vrs (Int32.toNatClampNeg c)).toInt = nv1) (hR : pLs G n 6 p 0 (fun _ => 0) = R) (h3 : R.2.2.1 = nv1) (h4 : R.2.2.2 = vf1) (ht : tkT G n q1 = 46) (hq : q = tkN G n q1) : CLX G n 27 V (RLX 16 mny vrs isn tem) lo P (c.toInt - 16).toNat p q := by
  obtain ⟨m, e1, e2, e3, h⟩ := h
  have ec : 16 + (c.toInt - 16).toNat = Int32.toNatClampNeg c := by rw [clamp_nat (by omega)]; omega
  have ed : c.toInt.toNat = Int32.toNatClampNeg c := (clamp_nat (by omega)).symm
  refine ⟨k0, m, q1, ?_, e2, e3, ?_, ?_, ht, hq⟩
  · show (mny (16 + (c.toInt - 16).toNat)).toInt = (m : Int)
    rw [ec]; omega
  · show (vrs (16 + (c.toInt - 16).toNat)).toInt = _
    rw [ec, hR, h3]; exact hv
  · rw [hR, h3, h4]
    show LPX G n _ (fun j => Int32.toNatClampNeg (tem (6 * (16 + (c.toInt - 16).toNat) + j))) (fun j => 1 - (isn (6 * (16 + (c.toInt - 16).toNat) + j)).toInt) m p q1
    rw [ec, ← ed]
    exact h
end LR
/-! nodes that are moved down -/
section MVS
variable {G : Int → Int} {n B : Int}
def VSH (V V' : VWT) (s lo P : Nat) : Prop := ∀ x : Nat, lo ≤ x → x < P → V'.1 (x - s) = V.1 x ∧ V'.2.1 (x - s) = V.2.1 x ∧ V'.2.2.1 (x - s) = V.2.2.1 x ∧ ∀ k : Nat, (k : Int) < V.2.2.1 x → V'.2.2.2 (x - s) k = V.2.2.2 x k - s
theorem pre_sub {S S' : Nat → Int → Int → Prop} {ch ch' : Nat → Nat} {s : Nat} (hS : ∀ y p q, S y p q → S' (y - s) p q) : ∀ (k : Nat) (q0 q : Int), (∀ j : Nat, j < k → ch' j = ch j - s) → PRX G n S ch k q0 q → PRX G n S' ch' k q0 q := by
  intro k
  induction k with
  | zero => intro q0 q _ h; exact h
  | succ k ih =>
    intro q0 q hc h
    obtain ⟨q1, h1, h2, h3⟩ := h
    exact ⟨q1, ih q0 q1 (fun j hj => hc j (by omega)) h1, h2, by rw [hc k (by omega)]; exact hS _ _ _ h3⟩
theorem spx_shift {V V' : VWT} {kf : Nat → Nat} {nv : Int} {vf : Int → Int} {s lo P : Nat} (hV : VSH V V' s lo P) (hs : s ≤ lo) : ∀ (d x : Nat) (p q : Int), SPX G n 27 V nv vf kf lo P d x p q → SPX G n 27 V' nv vf kf (lo - s) (P - s) d (x - s) p q := by
  intro d
  induction d with
  | zero => intro x p q h; exact h
  | succ d ih =>
    intro x p q h
    rw [spx_s] at h ⊢
    obtain ⟨h0, h⟩ := h
    have l1 : lo ≤ x := by
      rcases h with h | h
      · exact h.2.2.2.2.2.1 rfl
      · exact h.2.1
    obtain ⟨v1, v2, v3, v4⟩ := hV x l1 h0
    refine ⟨by omega, ?_⟩
    rcases h with ⟨a1, a2, a3, a4, a5, -⟩ | ⟨a1, a2, a3, a4, m, q1, a5, a6, a7, a8⟩
    · left
      rw [v1]; exact ⟨a1, a2, a3, a4, a5, fun _ => by omega, fun h9 => absurd h9 (by decide)⟩
    · right
      refine ⟨a1, by omega, by rw [v1]; exact a3, by rw [v2]; exact a4, m, q1, by rw [v3]; exact a5, a6, ?_, a8⟩
      have pre2 : ∀ (k : Nat) (q0 q : Int), k ≤ m → PRX G n (SPX G n 27 V nv vf kf lo P d) (V.2.2.2 x) k q0 q → PRX G n (SPX G n 27 V' nv vf kf (lo - s) (P - s) d) (V'.2.2.2 (x - s)) k q0 q := by
        intro k
        induction k with
        | zero => intro q0 q _ g; exact g
        | succ k ihk =>
          intro q0 q hk g
          obtain ⟨q2, g1, g2, g3⟩ := g
          refine ⟨q2, ihk q0 q2 (by omega) g1, g2, ?_⟩
          rw [v4 k (by omega)]
          exact ih _ _ _ g3
      exact pre2 m _ _ (Nat.le_refl _) a7
def LSH (L L' : LWT) (s c : Nat) : Prop := L'.1 c = L.1 c ∧ L'.2.1 c = L.2.1 c ∧ ∀ k : Nat, (k : Int) < L.1 c → L'.2.2.1 c k = L.2.2.1 c k - s ∧ L'.2.2.2 c k = L.2.2.2 c k
theorem lpx_sub {S S' : Nat → Int → Int → Prop} {tm tm' : Nat → Nat} {sg sg' : Nat → Int} {s : Nat} (hS : ∀ y p q, S y p q → S' (y - s) p q) : ∀ (k : Nat) (q0 q : Int), (∀ j : Nat, j < k → tm' j = tm j - s ∧ sg' j = sg j) → LPX G n S tm sg k q0 q → LPX G n S' tm' sg' k q0 q := by
  intro k
  induction k with
  | zero => intro q0 q _ h; exact h
  | succ k ih =>
    intro q0 q hc h
    obtain ⟨q1, t, h1, h2, h3⟩ := h
    obtain ⟨e1, e2⟩ := hc k (by omega)
    refine ⟨q1, t, ih q0 q1 (fun j hj => hc j (by omega)) h1, h2, ?_⟩
    rw [e1, e2]
    rcases h3 with ⟨a, a0, b, c⟩ | ⟨a, b, c⟩
    · exact Or.inl ⟨a, a0, b, hS _ _ _ c⟩
    · exact Or.inr ⟨a, b, hS _ _ _ c⟩
theorem clx_shift {V V' : VWT} {L L' : LWT} {s lo P c : Nat} {p q : Int} (hV : VSH V V' s lo P) (hs : s ≤ lo) (hL : LSH L L' s c) (h : CLX G n 27 V L lo P c p q) : CLX G n 27 V' L' (lo - s) (P - s) c p q := by
  obtain ⟨kf, m, q1, h1, h2, h3, h4, h5, h6, h7⟩ := h
  obtain ⟨e1, e2, e3⟩ := hL
  exact ⟨kf, m, q1, by rw [e1]; exact h1, h2, h3, by rw [e2]; exact h4, lpx_sub (spx_shift hV hs 7) m _ _ (fun j hj => e3 j (by omega)) h5, h6, h7⟩
theorem alx_shift {V V' : VWT} {L L' : LWT} {s lo P : Nat} (hV : VSH V V' s lo P) (hs : s ≤ lo) : ∀ (c : Nat) (q : Int), (∀ j : Nat, j < c → LSH L L' s j) → ALX G n 27 V L lo P c q → ALX G n 27 V' L' (lo - s) (P - s) c q := by
  intro c
  induction c with
  | zero => intro q _ h; exact h
  | succ c ih =>
    intro q hL h
    obtain ⟨q1, h1, h2⟩ := h
    exact ⟨q1, ih q1 (fun j hj => hL j (by omega)) h1, clx_shift hV hs (hL c (by omega)) h2⟩
end MVS
