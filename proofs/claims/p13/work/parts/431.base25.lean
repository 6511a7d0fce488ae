/-! rows copied, clauses that are told -/
theorem cpi_step {k : Int} {f g g' : Nat → Int32} {p q i j z : Int32} (h : CPT k f g p q) (hk : 0 ≤ k ∧ k < 6) (hp : 0 ≤ p.toInt) (hq : 0 ≤ q.toInt) (hi : i.toInt = 6 * q.toInt + k) (hj : j.toInt = 6 * p.toInt + k) (hz : z = g (Int32.toNatClampNeg j)) (hr : 0 ≤ z.toInt ∧ z.toInt ≤ 1) (he : g' = upd g (Int32.toNatClampNeg i) (vp_nar .boolean z)) : CPT (k + 1) f g' p q := by
  rw [nar_same hr, hz] at he
  rw [he]; exact cpt_step h hk hp hq hi hj
def RWC (k : Int) (mny vrs isn tem : Nat → Int32) : Prop := ∀ j : Nat, (j : Int) < k → LAG (RLX 16 mny vrs isn tem) (RLX 0 mny vrs isn tem) j
theorem rwc_zero {k : Int} {mny vrs isn tem : Nat → Int32} (h : k = 0) : RWC k mny vrs isn tem := fun j hj => absurd hj (by omega)
section RW
variable {mny mny' vrs vrs' isn isn' tem tem' : Nat → Int32} {p q : Int32}
theorem rwc_far {k : Int} {j : Nat} (hp : p.toInt = 16 + k) (hq : q.toInt = k) (h0 : 0 ≤ k ∧ k ≤ 15) (hm : mny' = upd mny (Int32.toNatClampNeg q) (mny (Int32.toNatClampNeg p))) (hv : vrs' = upd vrs (Int32.toNatClampNeg q) (vrs (Int32.toNatClampNeg p))) (hi : CPT 6 isn isn' p q) (ht : CPT 6 tem tem' p q) (hj : ¬ (j : Int) = k) : mny' j = mny j ∧ vrs' j = vrs j ∧ ∀ i : Nat, i < 6 → isn' (6 * j + i) = isn (6 * j + i) ∧ tem' (6 * j + i) = tem (6 * j + i) := by
  have cq := clamp_toInt (i := q) (by omega)
  refine ⟨by rw [hm, pk_un (by omega)], by rw [hv, pk_un (by omega)], fun i h6 => ⟨?_, ?_⟩⟩
  · rw [hi (6 * j + i), if_neg (by omega)]
  · rw [ht (6 * j + i), if_neg (by omega)]
theorem rwc_own {k : Int} {j : Nat} (hp : p.toInt = 16 + k) (hq : q.toInt = k) (h0 : 0 ≤ k ∧ k ≤ 15) (hm : mny' = upd mny (Int32.toNatClampNeg q) (mny (Int32.toNatClampNeg p))) (hv : vrs' = upd vrs (Int32.toNatClampNeg q) (vrs (Int32.toNatClampNeg p))) (hi : CPT 6 isn isn' p q) (ht : CPT 6 tem tem' p q) (hj : (j : Int) = k) : mny' j = mny (16 + j) ∧ vrs' j = vrs (16 + j) ∧ ∀ i : Nat, i < 6 → isn' (6 * j + i) = isn (6 * (16 + j) + i) ∧ tem' (6 * j + i) = tem (6 * (16 + j) + i) := by
  have cq := clamp_toInt (i := q) (by omega)
  have cp := clamp_toInt (i := p) (by omega)
  have e1 : j = Int32.toNatClampNeg q := by omega
  have e2 : 16 + j = Int32.toNatClampNeg p := by omega
  refine ⟨?_, ?_, fun i h6 => ⟨?_, ?_⟩⟩
  · rw [e2, hm, e1, pk_us]
  · rw [e2, hv, e1, pk_us]
  · rw [hi (6 * j + i), if_pos (by omega)]
    have e3 : (6 * p.toInt + (((6 * j + i : Nat) : Int) - 6 * q.toInt)).toNat = 6 * (16 + j) + i := by omega
    rw [e3]
  · rw [ht (6 * j + i), if_pos (by omega)]
    have e3 : (6 * p.toInt + (((6 * j + i : Nat) : Int) - 6 * q.toInt)).toNat = 6 * (16 + j) + i := by omega
    rw [e3]
theorem rwc_step {k k' : Int} (h : RWC k mny vrs isn tem) (hp : p.toInt = 16 + k) (hq : q.toInt = k) (h0 : 0 ≤ k ∧ k ≤ 15) (hm : mny' = upd mny (Int32.toNatClampNeg q) (mny (Int32.toNatClampNeg p))) (hv : vrs' = upd vrs (Int32.toNatClampNeg q) (vrs (Int32.toNatClampNeg p))) (hi : CPT 6 isn isn' p q) (ht : CPT 6 tem tem' p q) (hk : k' = k + 1) : RWC k' mny' vrs' isn' tem' := fun j hj => by
  obtain ⟨a1, a2, a3⟩ := rwc_far (j := 16 + j) hp hq h0 hm hv hi ht (by omega)
  by_cases e : (j : Int) = k
  · obtain ⟨b1, b2, b3⟩ := rwc_own hp hq h0 hm hv hi ht e
    refine ⟨?_, ?_, fun i h6 => ⟨?_, ?_⟩⟩
    · show (mny' (0 + j)).toInt = (mny' (16 + j)).toInt
      rw [Nat.zero_add, a1, b1]
    · show (vrs' (0 + j)).toInt = (vrs' (16 + j)).toInt
      rw [Nat.zero_add, a2, b2]
    · show Int32.toNatClampNeg (tem' (6 * (0 + j) + i)) = Int32.toNatClampNeg (tem' (6 * (16 + j) + i))
      rw [Nat.zero_add, (a3 i h6).2, (b3 i h6).2]
    · show 1 - (isn' (6 * (0 + j) + i)).toInt = 1 - (isn' (6 * (16 + j) + i)).toInt
      rw [Nat.zero_add, (a3 i h6).1, (b3 i h6).1]
  · obtain ⟨b1, b2, b3⟩ := rwc_far (j := j) hp hq h0 hm hv hi ht e
    obtain ⟨c1, c2, c3⟩ := h j (by omega)
    have c1' : (mny (0 + j)).toInt = (mny (16 + j)).toInt := c1
    have c2' : (vrs (0 + j)).toInt = (vrs (16 + j)).toInt := c2
    rw [Nat.zero_add] at c1' c2'
    refine ⟨?_, ?_, fun i h6 => ⟨?_, ?_⟩⟩
    · show (mny' (0 + j)).toInt = (mny' (16 + j)).toInt
      rw [Nat.zero_add, a1, b1]; exact c1'
    · show (vrs' (0 + j)).toInt = (vrs' (16 + j)).toInt
      rw [Nat.zero_add, a2, b2]; exact c2'
    · have d : Int32.toNatClampNeg (tem (6 * (0 + j) + i)) = Int32.toNatClampNeg (tem (6 * (16 + j) + i)) := (c3 i h6).1
      show Int32.toNatClampNeg (tem' (6 * (0 + j) + i)) = Int32.toNatClampNeg (tem' (6 * (16 + j) + i))
      rw [Nat.zero_add] at d ⊢
      rw [(a3 i h6).2, (b3 i h6).2]; exact d
    · have d : 1 - (isn (6 * (0 + j) + i)).toInt = 1 - (isn (6 * (16 + j) + i)).toInt := (c3 i h6).2
      show 1 - (isn' (6 * (0 + j) + i)).toInt = 1 - (isn' (6 * (16 + j) + i)).toInt
      rw [Nat.zero_add] at d ⊢
      rw [(a3 i h6).1, (b3 i h6).1]; exact d
theorem rwc_lag {k : Int} {j : Nat} (hp : p.toInt = 16 + k) (hq : q.toInt = k) (h0 : 0 ≤ k ∧ k ≤ 15) (hm : mny' = upd mny (Int32.toNatClampNeg q) (mny (Int32.toNatClampNeg p))) (hv : vrs' = upd vrs (Int32.toNatClampNeg q) (vrs (Int32.toNatClampNeg p))) (hi : CPT 6 isn isn' p q) (ht : CPT 6 tem tem' p q) : LAG (RLX 16 mny vrs isn tem) (RLX 16 mny' vrs' isn' tem') j := by
  obtain ⟨a1, a2, a3⟩ := rwc_far (j := 16 + j) hp hq h0 hm hv hi ht (by omega)
  refine ⟨?_, ?_, fun i h6 => ⟨?_, ?_⟩⟩
  · show (mny' (16 + j)).toInt = (mny (16 + j)).toInt
    rw [a1]
  · show (vrs' (16 + j)).toInt = (vrs (16 + j)).toInt
    rw [a2]
  · show Int32.toNatClampNeg (tem' (6 * (16 + j) + i)) = Int32.toNatClampNeg (tem (6 * (16 + j) + i))
    rw [(a3 i h6).2]
  · show 1 - (isn' (6 * (16 + j) + i)).toInt = 1 - (isn (6 * (16 + j) + i)).toInt
    rw [(a3 i h6).1]
end RW
theorem vag_id {V : VWT} {lo P : Nat} : VAG V V lo P := ⟨fun _ _ => rfl, fun _ _ _ => ⟨rfl, rfl, fun _ _ => rfl⟩⟩
section AS
variable {G : Int → Int} {n : Int} {nv nv' : Nat → Int32} {nn nn' : Nat → Int64} {A A' B B' C C' mny mny' vrs vrs' isn isn' tem tem' : Nat → Int32}
theorem alr_step {c P P' lo : Nat} {D Q : Int} {q1 q : Int} (h : ALX G n 27 (RVW nv nn A B C) (RLX 16 mny vrs isn tem) lo P c q1) (ha : AGN Q (-1) nv nv' nn nn' A A' B B' C C') (hQ : (P : Int) ≤ Q) (hP : P ≤ P') (hf : LFN D mny mny' vrs vrs' isn isn' tem tem') (hD : ((16 + c : Nat) : Int) ≤ D) (hc : CLX G n 27 (RVW nv' nn' A' B' C') (RLX 16 mny' vrs' isn' tem') lo P' c q1 q) : ALX G n 27 (RVW nv' nn' A' B' C') (RLX 16 mny' vrs' isn' tem') lo P' (c + 1) q := ⟨q1, alx_agr (agn_vag ha hQ (by omega)) (Nat.le_refl _) hP c q1 (fun j hj => lfn_lag hf (by omega)) h, hc⟩
end AS
/-! two that tell the same: what is told on both sides -/
def TLQ (V W : VWT) (L M : LWT) (c : Int) : Prop := ∀ j : Nat, (j : Int) < c → CQX V W L M j
theorem tlq_zero {V W : VWT} {L M : LWT} {c : Int} (h : c = 0) : TLQ V W L M c := fun j hj => absurd hj (by omega)
theorem tlq_read {G : Int → Int} {n : Int} (hG : ∀ k : Int, 0 ≤ G k ∧ G k ≤ 255) (hn : n ≤ 600) {V W : VWT} {L M : LWT} {lo P lo' P' : Nat} {c c' : Int} (h : ∃ q : Int, ALX G n 32 V L lo P c.toNat q) (g : ∃ q : Int, ALX G n 27 W M lo' P' c'.toNat q) (e : c = c') : TLQ V W L M c := fun j hj => by
  obtain ⟨q, h⟩ := h
  obtain ⟨q', g⟩ := g
  subst e
  exact (alx_two hG hn _ _ _ h g).2 j (by omega)
theorem eqx_agr {V : VWT} {nv nv' : Nat → Int32} {nn nn' : Nat → Int64} {A A' B B' C C' : Nat → Int32} {N : Int} {kf hz : Nat → Nat} (ha : AGN N (-1) nv nv' nn nn' A A' B B' C C') (hn : ND 0 N hz A B C) : ∀ (d x y : Nat), (y : Int) < N → EQX V (RVW nv nn A B C) kf d x y → EQX V (RVW nv' nn' A' B' C') kf d x y := by
  intro d
  induction d with
  | zero => intro x y _ h; exact False.elim h
  | succ d ih =>
    intro x y hy h
    obtain ⟨v1, v2⟩ := agn_vag (lo := 0) (D := y + 1) ha (by omega) (by omega)
    have w1 := v1 y (by omega)
    obtain ⟨w2, w3, w4⟩ := v2 y (by omega) (by omega)
    rw [eqx_s] at h ⊢
    obtain ⟨h1, h2⟩ := h
    refine ⟨by rw [w1]; exact h1, ?_⟩
    rcases h2 with h2 | ⟨a1, a2, a3, a4, a5, a6⟩
    · exact Or.inl h2
    · refine Or.inr ⟨a1, by rw [w2]; exact a2, by rw [w3]; exact a3, a4, a5, fun k hk => ?_⟩
      rw [w4 k (by omega)]
      refine ih _ _ ?_ (a6 k hk)
      obtain ⟨n1, n2, n3, -⟩ := hn y (by omega) hy
      unfold NDk at n1 n2 n3
      rw [a3] at hk
      have hk2 : (k : Int) < (if (A y).toInt = -1 then (0 : Int) else if (B y).toInt = -1 then 1 else if (C y).toInt = -1 then 2 else 3) := hk
      show ((Int32.toNatClampNeg (if k = 0 then A y else if k = 1 then B y else C y) : Nat) : Int) < N
      by_cases q1 : (A y).toInt = -1
      · rw [if_pos q1] at hk2; omega
      · rw [if_neg q1] at hk2
        by_cases j0 : k = 0
        · rw [if_pos j0, clamp_toInt (by omega)]; omega
        · rw [if_neg j0]
          by_cases q2 : (B y).toInt = -1
          · rw [if_pos q2] at hk2; omega
          · rw [if_neg q2] at hk2
            by_cases j1 : k = 1
            · rw [if_pos j1, clamp_toInt (by omega)]; omega
            · rw [if_neg j1]
              by_cases q3 : (C y).toInt = -1
              · rw [if_pos q3] at hk2; omega
              · rw [clamp_toInt (by omega)]; omega
theorem rde_fine {G : Int → Int} {n f1 p1 c1 f p c : Int} (h : RDE G n f1 p1 c1) (hf : f1 = 0) (g : RDE G n f p c) : f = 0 := by
  rcases h with ⟨-, -, e, -⟩ | ⟨a, -⟩
  · rcases g with ⟨a, -⟩ | ⟨a, b, -⟩
    · exact a
    · exact absurd (b.symm.trans e) a
  · exact absurd hf a
