/-! what each unification keeps, whatever it is of: the trail, and that chains of variables end -/
def TOT (g : GVT) (b : Nat → Int) : Prop := ∀ p : Nat, p < 9600 → ∃ a : Nat, BRE g b p a
def CPL (g : GVT) (b : Nat → Int) : Prop := ∀ p : Nat, p < 9600 → 0 ≤ g.1 p → g.2.1 p < 256 ∧ (0 ≤ b (g.2.1 p) → (b (g.2.1 p)).toNat < 9600)
def BTR (T : Int) (trl bnd : Nat → Int32) : Prop := ∀ c : Nat, c < 256 → ¬ (bnd c).toInt = 0 → ∃ i : Nat, (i : Int) < T ∧ (trl i).toInt.toNat = c
def UNE (M T : Int) (trl bnd bnd' : Nat → Int32) : Prop := (∀ c : Nat, bnd' c = bnd c ∨ ((bnd' c).toInt = 0 ∧ ∃ j : Nat, M ≤ (j : Int) ∧ (j : Int) < T ∧ (trl j).toInt.toNat = c)) ∧ ∀ j : Nat, M ≤ (j : Int) → (j : Int) < T → (bnd' (trl j).toInt.toNat).toInt = 0
section TT
variable {g : GVT} {b b' : Nat → Int} {trl trl' bnd bnd' bnd'' : Nat → Int32} {T M : Int}
theorem cpl_brF (hc : CPL g b) : ∀ (n p : Nat), p < 9600 → brF g b n p < 9600 := by
  intro n
  induction n with
  | zero => intro p h; exact h
  | succ n ih =>
    intro p h
    rw [brF_s]
    by_cases c : 0 ≤ g.1 p ∧ 0 ≤ b (g.2.1 p)
    · rw [if_pos c]; exact ih _ ((hc p h c.1).2 c.2)
    · rw [if_neg c]; exact h
theorem tot_bre {p r : Int32} (ht : TOT g b) (hc : CPL g b) (hp : 0 ≤ p.toInt ∧ p.toInt ≤ 9599) (h : BRX g b p r) : BRE g b p.toInt.toNat r.toInt.toNat := by
  obtain ⟨m, m1, m2, m3⟩ := h
  rcases m3 with m3 | m3
  · subst m3
    obtain ⟨q, hq⟩ := ht p.toInt.toNat (by omega)
    have e := bre_256 hq (fun n hn => (hc _ (cpl_brF hc n _ (by omega)) hn).1)
    rw [m2, e]; exact hq
  · exact ⟨m, m2.symm, m3⟩
theorem tot_bind {c x : Nat} (ht : TOT g b) (hb : b c < 0) (hx : TER g b x) (hn : ¬ (0 ≤ g.1 x ∧ g.2.1 x = c)) : TOT g (bst b c x) := fun p hp => by
  obtain ⟨a, ha⟩ := ht p hp
  have he : EXT b (bst b c x) := ext_bst hb
  have tx : TER g (bst b c x) x := fun w => by
    have n : g.2.1 x ≠ c := fun e => hn ⟨w.1, e⟩
    rw [bst_ne n] at w
    exact hx w
  by_cases v : 0 ≤ g.1 a ∧ g.2.1 a = c
  · exact ⟨x, bre_ext he ha (bre_go ⟨v.1, by rw [v.2, bst_at]; omega⟩ (by rw [v.2, bst_at]; exact bre_ter tx))⟩
  · refine ⟨a, bre_ext he ha (bre_ter (fun w => ?_))⟩
    have n : g.2.1 a ≠ c := fun e => v ⟨w.1, e⟩
    rw [bst_ne n] at w
    exact bre_ter2 ha w
theorem tot_less (ht : TOT g b) (hl : ∀ c : Nat, b' c = b c ∨ b' c < 0) : TOT g b' := fun p hp => by
  have key : ∀ (n p : Nat), TER g b (brF g b n p) → ∃ a : Nat, BRE g b' p a := by
    intro n
    induction n with
    | zero =>
      intro p h
      refine ⟨p, bre_ter (fun w => ?_)⟩
      rcases hl (g.2.1 p) with e | e
      · rw [e] at w; exact (show TER g b p from h) w
      · omega
    | succ n ih =>
      intro p h
      by_cases c : 0 ≤ g.1 p ∧ 0 ≤ b' (g.2.1 p)
      · have e : b' (g.2.1 p) = b (g.2.1 p) := by
          rcases hl (g.2.1 p) with e | e
          · exact e
          · omega
        have c2 : 0 ≤ g.1 p ∧ 0 ≤ b (g.2.1 p) := by rw [← e]; exact c
        rw [brF_s, if_pos c2, ← e] at h
        obtain ⟨a, ha⟩ := ih _ h
        exact ⟨a, bre_go c ha⟩
      · exact ⟨p, bre_ter c⟩
  obtain ⟨a, n, e, t⟩ := ht p hp
  exact key n p (by rw [e]; exact t)
theorem tot_zero (hc : CPL g (BDV bnd)) (h : ∀ c : Nat, c < 256 → (bnd c).toInt = 0) : TOT g (BDV bnd) := fun p hp => ⟨p, bre_ter (fun w => by
  have l := (hc p hp w.1).1
  have z := h _ l
  have k := w.2
  unfold BDV at k
  omega)⟩
theorem cpl_of {var : Nat → Int32} (hg : GVV g var) (hv : Rg (-1) 7 var) (hb : Rg 0 9600 bnd) : CPL g (BDV bnd) := fun p hp h => by
  obtain ⟨h1, h2⟩ := hg p hp
  have r := hv (p % 300)
  have q := hb (g.2.1 p)
  refine ⟨by omega, fun w => ?_⟩
  unfold BDV at w ⊢
  omega
/-! the trail -/
theorem trc_und (h : TRC T trl bnd) (u : UNE M T trl bnd bnd') (hM : M ≤ T) (hr : Rg 0 255 trl) : TRC M trl bnd' := by
  refine ⟨fun i j hi hj e => h.1 i j (by omega) (by omega) e, fun i hi => ?_⟩
  rcases u.1 (trl i).toInt.toNat with e | ⟨_, j, j1, j2, j3⟩
  · rw [e]; exact h.2 i (by omega)
  · have r1 := hr i
    have r2 := hr j
    have e := h.1 i j (by omega) j2 (by omega)
    omega
theorem btr_und (h : BTR T trl bnd) (u : UNE M T trl bnd bnd') : BTR M trl bnd' := fun c hc hz => by
  rcases u.1 c with e | ⟨e, _⟩
  · rw [e] at hz
    obtain ⟨i, i1, i2⟩ := h c hc hz
    by_cases w : (i : Int) < M
    · exact ⟨i, w, i2⟩
    · have z := u.2 i (by omega) i1
      rw [i2, e] at z
      exact absurd z hz
  · exact absurd e hz
theorem btr_bind {k s v : Int32} (h : BTR T trl bnd) (hT : k.toInt = T) (h0 : 0 ≤ T) (hs : 0 ≤ s.toInt) (e1 : bnd' = upd bnd (Int32.toNatClampNeg s) v) (e2 : trl' = upd trl (Int32.toNatClampNeg k) s) : BTR (T + 1) trl' bnd' := fun c hc hz => by
  have ck : Int32.toNatClampNeg k = T.toNat := by rw [clamp_nat (by omega)]; omega
  have cs : Int32.toNatClampNeg s = s.toInt.toNat := clamp_nat hs
  rw [ck] at e2
  rw [cs] at e1
  by_cases w : c = s.toInt.toNat
  · exact ⟨T.toNat, by omega, by rw [e2, pk_us]; exact w.symm⟩
  · rw [e1, pk_un w] at hz
    obtain ⟨i, i1, i2⟩ := h c hc hz
    exact ⟨i, by omega, by rw [e2, pk_un (by omega)]; exact i2⟩
theorem btr_cast {T' : Int} (h : BTR T trl bnd) (e : T' = T) : BTR T' trl bnd := by subst e; exact h
theorem btr_none (h : BTR T trl bnd) (e : T ≤ 0) : ∀ c : Nat, c < 256 → (bnd c).toInt = 0 := fun c hc => by
  by_cases w : (bnd c).toInt = 0
  · exact w
  · obtain ⟨i, i1, _⟩ := h c hc w
    omega
theorem une_zero : UNE T T trl bnd bnd := ⟨fun _ => Or.inl rfl, fun j h1 h2 => absurd h2 (by omega)⟩
theorem une_step {M' : Int} {k z v : Int32} (h : UNE M T trl bnd bnd') (hM : M' = M - 1) (hk : k.toInt = M') (h0 : 0 ≤ M') (hT : M ≤ T) (hz : z = trl (Int32.toNatClampNeg k)) (hr : Rg 0 255 trl) (hv : v.toInt = 0) (hb : bnd'' = upd bnd' (Int32.toNatClampNeg z) v) : UNE M' T trl bnd bnd'' := by
  have ck : Int32.toNatClampNeg k = M'.toNat := by rw [clamp_nat (by omega)]; omega
  rw [ck] at hz
  have r := hr M'.toNat
  have cz : Int32.toNatClampNeg z = (trl M'.toNat).toInt.toNat := by rw [hz, clamp_nat r.1]
  rw [cz] at hb
  refine ⟨fun c => ?_, fun j h1 h2 => ?_⟩
  · by_cases w : c = (trl M'.toNat).toInt.toNat
    · right
      rw [w, hb, pk_us]
      exact ⟨hv, M'.toNat, by omega, by omega, rfl⟩
    · rw [hb, pk_un w]
      rcases h.1 c with e | ⟨e, j, j1, j2, j3⟩
      · exact Or.inl e
      · exact Or.inr ⟨e, j, by omega, j2, j3⟩
  · by_cases w : (trl j).toInt.toNat = (trl M'.toNat).toInt.toNat
    · rw [w, hb, pk_us]; exact hv
    · rw [hb, pk_un w]
      by_cases e : M ≤ (j : Int)
      · exact h.2 j e h2
      · have ej : j = M'.toNat := by omega
        rw [ej] at w
        exact absurd rfl w
theorem une_cast {M' : Int} (h : UNE M T trl bnd bnd') (e : M' = M) : UNE M' T trl bnd bnd' := by subst e; exact h
theorem une_less (u : UNE M T trl bnd bnd') : ∀ c : Nat, BDV bnd' c = BDV bnd c ∨ BDV bnd' c < 0 := fun c => by
  unfold BDV
  rcases u.1 c with e | ⟨e, _⟩
  · exact Or.inl (by rw [e])
  · exact Or.inr (by omega)
/-! places that were joined, whichever -/
theorem srs_jnx {sam sam' jnd jnd' : Nat → Int32} {j j' p1 p2 : Int32} {J J' : Int} (h : SRS sam jnd J 0) (hx : JNX sam sam' jnd jnd' j j' p1 p2) (hj : j.toInt = J) (hj' : j'.toInt = J') (h0 : 0 ≤ J) : SRS sam' jnd' J' 0 := fun p hp hz => by
  obtain ⟨q1, q2, _, _, z1, _, hx⟩ := hx
  rcases hx with ⟨_, e1, e2, e3⟩ | ⟨y, y1, y2, y3, y4⟩
  · subst e1; subst e2; subst e3
    rw [show J' = J by omega]
    exact h p hp hz
  · have cj : Int32.toNatClampNeg j = J.toNat := by rw [clamp_nat (by omega)]; omega
    have cq : Int32.toNatClampNeg q1 = q1.toInt.toNat := clamp_nat z1
    rw [cj] at y3
    rw [cq] at y2
    by_cases w : p = q1.toInt.toNat
    · exact ⟨J.toNat, by omega, by omega, by unfold pj; rw [y3, pk_us]; exact w.symm⟩
    · rw [y2, pk_un w] at hz
      obtain ⟨i, i1, i2, i3⟩ := h p hp hz
      exact ⟨i, i1, by omega, by unfold pj; rw [y3, pk_un (by omega)]; exact i3⟩
theorem srs_none {sam jnd : Nat → Int32} {J : Int} (h : ∀ p : Nat, p < 9600 → (sam p).toInt = 0) : SRS sam jnd J 0 := fun p hp hz => absurd (h p hp) hz
end TT
