/-! what is told, on both sides, as places -/
def PBQ (s0 : Nat) (V W : VWT) (N : Int) (p p' : Nat) : Prop := ∃ s x y : Nat, p = 300 * s + x ∧ x < 300 ∧ p' = 8000 * s + y ∧ (y : Int) < N ∧ s0 ≤ s ∧ s < 32 ∧ ∃ (kf : Nat → Nat) (d : Nat), EQX V W kf d x y
section BT
variable {nam nn : Nat → Int64} {var trm ter nv A B C : Nat → Int32} {N : Int} {hz : Nat → Nat}
theorem cgv_at {V : VWT} {s x : Nat} (hx : x < 300) : (CGV V).1 (300 * s + x) = V.1 x ∧ (CGV V).2.1 (300 * s + x) = 8 * s + (V.1 x).toNat ∧ (CGV V).2.2.1 (300 * s + x) = V.2.1 x ∧ (CGV V).2.2.2.1 (300 * s + x) = V.2.2.1 x ∧ ∀ k : Nat, (CGV V).2.2.2.2 (300 * s + x) k = 300 * s + V.2.2.2 x k := by
  have e1 : (300 * s + x) % 300 = x := by omega
  have e2 : (300 * s + x) / 300 = s := by omega
  refine ⟨?_, ?_, ?_, ?_, fun k => ?_⟩
  · show V.1 ((300 * s + x) % 300) = _
    rw [e1]
  · show (300 * s + x) / 300 * 8 + (V.1 ((300 * s + x) % 300)).toNat = _
    rw [e1, e2, Nat.mul_comm]
  · show V.2.1 ((300 * s + x) % 300) = _
    rw [e1]
  · show V.2.2.1 ((300 * s + x) % 300) = _
    rw [e1]
  · show (300 * s + x) / 300 * 300 + V.2.2.2 ((300 * s + x) % 300) k = _
    rw [e1, e2, Nat.mul_comm]
theorem bis_told {s0 : Nat} (hv : Rg (-1) 7 var) (ht : Rg 0 299 ter) (hnd : ND 0 N hz A B C) (hN : N ≤ 8000) : BIS (8 * s0) (CGV (CVW nam var trm ter)) (RGW nn nv A B C) (PBQ s0 (CVW nam var trm ter) (RVW nv nn A B C) N) := by
  have key : ∀ (s x y : Nat) (kf : Nat → Nat) (d : Nat), (y : Int) < N → EQX (CVW nam var trm ter) (RVW nv nn A B C) kf d x y → (CVW nam var trm ter).1 x = (nv y).toInt ∧ (¬ 0 ≤ (nv y).toInt → (nv y).toInt = -1 ∧ NMQ ((CVW nam var trm ter).2.1 x) (nn y).toInt ∧ (CVW nam var trm ter).2.2.1 x = npx nv A B C y ∧ ∀ k : Nat, (k : Int) < (CVW nam var trm ter).2.2.1 x → ∃ e : Nat, EQX (CVW nam var trm ter) (RVW nv nn A B C) kf e ((CVW nam var trm ter).2.2.2 x k) ((RVW nv nn A B C).2.2.2 y k)) := by
    intro s x y kf d hy h
    cases d with
    | zero => exact False.elim h
    | succ d =>
      rw [eqx_s] at h
      obtain ⟨h1, h2⟩ := h
      refine ⟨h1, fun w => ?_⟩
      rcases h2 with ⟨a, _⟩ | ⟨a, b, c, _, _, f⟩
      · have e : (CVW nam var trm ter).1 x = (nv y).toInt := h1
        omega
      · have e : (CVW nam var trm ter).1 x = (nv y).toInt := h1
        have e2 : (nv y).toInt = -1 := by omega
        exact ⟨e2, b, by rw [c]; exact rvw_ar e2, fun k hk => ⟨d, f k hk⟩⟩
  constructor
  · intro p p' hp
    obtain ⟨s, x, y, e1, hx, e2, hy, hs0, hs, kf, d, h⟩ := hp
    subst e1
    subst e2
    obtain ⟨g1, g2, g3, g4, g5⟩ := cgv_at (V := CVW nam var trm ter) (s := s) hx
    obtain ⟨r1, r2, r3, r4⟩ := rgw_grv (nn := nn) (nv := nv) (na := A) (nb := B) (nc := C) y s (by omega)
    obtain ⟨k1, k2⟩ := key s x y kf d hy h
    have vr : -1 ≤ (CVW nam var trm ter).1 x ∧ (CVW nam var trm ter).1 x ≤ 7 := hv x
    rw [g1, g2, g4, r1, r2, r3]
    refine ⟨by rw [k1], fun w => ⟨by rw [k1], by omega⟩, fun w => ?_⟩
    obtain ⟨m1, m2, m3, m4⟩ := k2 (by omega)
    refine ⟨m3, fun k hk => ?_⟩
    obtain ⟨e, he⟩ := m4 k hk
    rw [g5 k, r4 k (by omega)]
    have cr : (CVW nam var trm ter).2.2.2 x k < 300 := by
      show Int32.toNatClampNeg (ter (3 * x + k)) < 300
      have q := ht (3 * x + k)
      rw [clamp_nat (by omega)]; omega
    obtain ⟨c1, c2, _⟩ := ch_ok (nv := nv) (k := (k : Int)) hnd hy (by omega)
    refine ⟨s, _, (ptx A B C y (k : Int)).toInt.toNat, rfl, cr, rfl, by omega, hs0, hs, kf, e, ?_⟩
    rw [rvw_ch, clamp_nat c1] at he
    exact he
  · intro p p' q q' hp hq np nq
    obtain ⟨s, x, y, e1, hx, e2, hy, hs0, hs, kf, d, h⟩ := hp
    obtain ⟨s', x', y', e1', hx', e2', hy', hs0', hs', kf', d', h'⟩ := hq
    subst e1; subst e2; subst e1'; subst e2'
    obtain ⟨g1, g2, g3, g4, g5⟩ := cgv_at (V := CVW nam var trm ter) (s := s) hx
    obtain ⟨g1', g2', g3', g4', g5'⟩ := cgv_at (V := CVW nam var trm ter) (s := s') hx'
    obtain ⟨k1, k2⟩ := key s x y kf d hy h
    obtain ⟨k1', k2'⟩ := key s' x' y' kf' d' hy' h'
    rw [g1] at np
    rw [g1'] at nq
    obtain ⟨m1, m2, m3, m4⟩ := k2 (by omega)
    obtain ⟨m1', m2', m3', m4'⟩ := k2' (by omega)
    rw [g3, g3', rgw_grn (nn := nn) (nv := nv) (na := A) (nb := B) (nc := C) y s (by omega), rgw_grn (nn := nn) (nv := nv) (na := A) (nb := B) (nc := C) y' s' (by omega)]
    exact nmq_two m2 m2'
/-! two literals aside -/
def QSX (V W : VWT) (kf : Nat → Nat) (s p : Nat) : Prop := ∃ x d y : Nat, p = 300 * s + x ∧ x < 300 ∧ d ≤ 7 ∧ EQX V W kf d x y
theorem qsx_kid {V W : VWT} {kf : Nat → Nat} {s p k : Nat} (hV : ∀ x k : Nat, V.2.2.2 x k < 300) (h : QSX V W kf s p) (hv : ¬ 0 ≤ (CGV V).1 p) (hk : (k : Int) < (CGV V).2.2.2.1 p) : QSX V W kf s ((CGV V).2.2.2.2 p k) := by
  obtain ⟨x, d, y, e, hx, hd, h⟩ := h
  subst e
  obtain ⟨g1, g2, g3, g4, g5⟩ := cgv_at (V := V) (s := s) hx
  rw [g1] at hv
  rw [g4] at hk
  rw [g5]
  cases d with
  | zero => exact False.elim h
  | succ d =>
    rw [eqx_s] at h
    rcases h.2 with ⟨a, _⟩ | ⟨_, _, _, _, _, f⟩
    · exact absurd a hv
    · exact ⟨_, d, _, rfl, hV x k, by omega, f k hk⟩
theorem qsx_hs {V W : VWT} {kf : Nat → Nat} (hV : ∀ x k : Nat, V.2.2.2 x k < 300) : ∀ (d s x y : Nat), x < 300 → EQX V W kf d x y → HSn (CGV V) d (300 * s + x) := by
  intro d
  induction d with
  | zero => intro s x y _ h; exact False.elim h
  | succ d ih =>
    intro s x y hx h
    obtain ⟨g1, g2, g3, g4, g5⟩ := cgv_at (V := V) (s := s) hx
    rw [eqx_s] at h
    rcases h.2 with ⟨a, _⟩ | ⟨_, _, _, _, _, f⟩
    · exact Or.inl (by rw [g1]; exact a)
    · refine Or.inr (fun k hk => ?_)
      rw [g4] at hk
      rw [g5]
      exact ih s _ _ (hV x k) (f k hk)
theorem qsx_ht {V W : VWT} {kf : Nat → Nat} {b : Nat → Int} {s : Nat} (hV : ∀ x k : Nat, V.2.2.2 x k < 300) (hb : ∀ c : Nat, 8 * s ≤ c → b c < 0) : ∀ (d x y : Nat), x < 300 → EQX V W kf d x y → HTn (CGV V) b d (300 * s + x) := by
  intro d
  induction d with
  | zero => intro x y _ h; exact False.elim h
  | succ d ih =>
    intro x y hx h
    obtain ⟨g1, g2, g3, g4, g5⟩ := cgv_at (V := V) (s := s) hx
    have t : TER (CGV V) b (300 * s + x) := fun w => by
      have q := hb ((CGV V).2.1 (300 * s + x)) (by rw [g2]; omega)
      omega
    rw [eqx_s] at h
    rcases h.2 with ⟨a, _⟩ | ⟨_, _, _, _, _, f⟩
    · exact ⟨_, bre_ter t, Or.inl (by rw [g1]; exact a)⟩
    · refine ⟨_, bre_ter t, Or.inr (fun k hk => ?_)⟩
      rw [g4] at hk
      rw [g5]
      exact ih _ _ (hV x k) (f k hk)
theorem qsx_var {V W : VWT} {kf : Nat → Nat} {s p : Nat} (h : QSX V W kf s p) (hv : 0 ≤ (CGV V).1 p) : p = 300 * s + kf ((CGV V).1 p).toNat ∧ (CGV V).2.1 p = 8 * s + ((CGV V).1 p).toNat := by
  obtain ⟨x, d, y, e, hx, hd, h⟩ := h
  subst e
  obtain ⟨g1, g2, g3, g4, g5⟩ := cgv_at (V := V) (s := s) hx
  rw [g1] at hv ⊢
  refine ⟨?_, g2⟩
  cases d with
  | zero => exact False.elim h
  | succ d =>
    rw [eqx_s] at h
    rcases h.2 with ⟨_, a⟩ | ⟨a, _⟩
    · rw [← a]
    · omega
/-- the two literals' places: all that a unification of them asks for -/
theorem meet_set {W : VWT} {k1 k2 : Nat → Nat} {bnd : Nat → Int32} (hv : Rg (-1) 7 var) (ht : Rg 0 299 ter) (hm : Rg 0 3 trm) (hb : BHZ bnd) : BST (CGV (CVW nam var trm ter)) (fun _ => -1) (fun p => QSX (CVW nam var trm ter) W k1 30 p ∨ QSX (CVW nam var trm ter) W k2 31 p) ((List.range 600).map (fun i => 9000 + i)) ((List.range 16).map (fun i => 240 + i)) ∧ CLD (CGV (CVW nam var trm ter)) (BDV bnd) (fun p => QSX (CVW nam var trm ter) W k1 30 p ∨ QSX (CVW nam var trm ter) W k2 31 p) ∧ FIN (CGV (CVW nam var trm ter)) (BDV bnd) (fun p => QSX (CVW nam var trm ter) W k1 30 p ∨ QSX (CVW nam var trm ter) W k2 31 p) := by
  have hV : ∀ x k : Nat, (CVW nam var trm ter).2.2.2 x k < 300 := fun x k => by
    show Int32.toNatClampNeg (ter (3 * x + k)) < 300
    have q := ht (3 * x + k)
    rw [clamp_nat (by omega)]; omega
  have vr : ∀ p : Nat, -1 ≤ (CGV (CVW nam var trm ter)).1 p ∧ (CGV (CVW nam var trm ter)).1 p ≤ 7 := fun p => hv (p % 300)
  have ar : ∀ p : Nat, 0 ≤ (CGV (CVW nam var trm ter)).2.2.2.1 p ∧ (CGV (CVW nam var trm ter)).2.2.2.1 p ≤ 3 := fun p => hm (p % 300)
  have bz : ∀ c : Nat, 240 ≤ c → BDV bnd c < 0 := fun c hc => by
    have q := hb c hc
    unfold BDV; omega
  have rng : ∀ p : Nat, (QSX (CVW nam var trm ter) W k1 30 p ∨ QSX (CVW nam var trm ter) W k2 31 p) → 9000 ≤ p ∧ p < 9600 := fun p h => by
    rcases h with ⟨x, d, y, e, hx, _⟩ | ⟨x, d, y, e, hx, _⟩
    · omega
    · omega
  have cel : ∀ p : Nat, (QSX (CVW nam var trm ter) W k1 30 p ∨ QSX (CVW nam var trm ter) W k2 31 p) → 0 ≤ (CGV (CVW nam var trm ter)).1 p → 240 ≤ (CGV (CVW nam var trm ter)).2.1 p ∧ (CGV (CVW nam var trm ter)).2.1 p < 256 := fun p h w => by
    have q := vr p
    rcases h with h | h
    · have e := (qsx_var h w).2; omega
    · have e := (qsx_var h w).2; omega
  refine ⟨⟨fun p h => ⟨(rng p h).2, ?_, ?_, ar p⟩, fun p h w => ⟨Or.inl ?_, (cel p h w).2⟩, by simp, by simp, fun p q hp hq vp vq e => ?_⟩, fun p q hp hs => ?_, fun p h => ?_⟩
  · have r := rng p h
    exact List.mem_map.mpr ⟨p - 9000, List.mem_range.mpr (by omega), by omega⟩
  · rcases h with ⟨x, d, y, e, hx, hd, h⟩ | ⟨x, d, y, e, hx, hd, h⟩
    · rw [e]; exact hsn_mono d 7 _ hd (qsx_hs hV d 30 x y hx h)
    · rw [e]; exact hsn_mono d 7 _ hd (qsx_hs hV d 31 x y hx h)
  · have r := cel p h w
    exact List.mem_map.mpr ⟨(CGV (CVW nam var trm ter)).2.1 p - 240, List.mem_range.mpr (by omega), by omega⟩
  · have rp := vr p
    have rq := vr q
    rcases hp with hp | hp
    · obtain ⟨a1, a2⟩ := qsx_var hp vp
      rcases hq with hq | hq
      · obtain ⟨c1, c2⟩ := qsx_var hq vq
        have ev : (CGV (CVW nam var trm ter)).1 p = (CGV (CVW nam var trm ter)).1 q := by omega
        rw [a1, c1, ev]
      · obtain ⟨c1, c2⟩ := qsx_var hq vq
        omega
    · obtain ⟨a1, a2⟩ := qsx_var hp vp
      rcases hq with hq | hq
      · obtain ⟨c1, c2⟩ := qsx_var hq vq
        omega
      · obtain ⟨c1, c2⟩ := qsx_var hq vq
        have ev : (CGV (CVW nam var trm ter)).1 p = (CGV (CVW nam var trm ter)).1 q := by omega
        rw [a1, c1, ev]
  · rcases hs with ⟨c, _⟩ | ⟨c, k, hk, e⟩
    · have q := bz _ (cel p hp c.1).1
      omega
    · rw [e]
      rcases hp with hp | hp
      · exact Or.inl (qsx_kid hV hp c hk)
      · exact Or.inr (qsx_kid hV hp c hk)
  · rcases h with ⟨x, d, y, e, hx, hd, h⟩ | ⟨x, d, y, e, hx, hd, h⟩
    · rw [e]; exact ⟨d, qsx_ht hV (fun c hc => bz c (by omega)) d x y hx h⟩
    · rw [e]; exact ⟨d, qsx_ht hV (fun c hc => bz c (by omega)) d x y hx h⟩
end BT
