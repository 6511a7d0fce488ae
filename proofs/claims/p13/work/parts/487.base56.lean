/-! the reference's words of clauses, chains and rows -/
def ccw (cof : Nat → Int32) : Nat → Nat := fun i => (cof i).toInt.toNat
def MRW (m : PRM) (mny tem isn : Nat → Int32) (n : Int) : Prop := (m.2.2.2.2.1 : Int) = n ∧ (∀ c : Nat, (c : Int) < n → (m.2.2.1 c : Int) = (mny c).toInt) ∧ (∀ i c k : Nat, i ≤ 31 → (c : Int) < n → (k : Int) < (mny c).toInt → m.2.1 i c k = 8000 * i + ndC tem c k) ∧ ∀ c k : Nat, (c : Int) < n → (k : Int) < (mny c).toInt → (m.2.2.2.1 c k = true ↔ (isn (6 * c + k)).toInt = 0) ∧ 0 ≤ (isn (6 * c + k)).toInt ∧ (isn (6 * c + k)).toInt ≤ 1
section MW
variable {m : PRM} {mny tem isn cof nv na nb nc : Nat → Int32} {nn : Nat → Int64} {n : Int} {b : Nat → Int}
theorem lqs_z (hm : MRW m mny tem isn n) {c k : Nat} {z ix : Int32} (hc : (c : Int) < n) (hk : (k : Int) < (mny c).toInt) (hi : ix.toInt = 6 * (c : Int) + k) (ez : z = isn (Int32.toNatClampNeg ix)) : (z.toInt = 0 ∧ m.2.2.2.1 c k = true) ∨ (z.toInt = 1 ∧ m.2.2.2.1 c k = false) := by
  obtain ⟨h1, h2, h3⟩ := hm.2.2.2 c k hc hk
  rw [clamp_nat (by omega), show ix.toInt.toNat = 6 * c + k by omega] at ez
  rw [← ez] at h1 h2 h3
  by_cases w : z.toInt = 0
  · exact Or.inl ⟨w, h1.mpr w⟩
  · refine Or.inr ⟨by omega, ?_⟩
    cases q : m.2.2.2.1 c k with
    | false => rfl
    | true => exact absurd (h1.mp q) w
theorem lqp_t (hm : MRW m mny tem isn n) {p k r : Int32} (hp : 0 ≤ p.toInt ∧ p.toInt ≤ 31) (hk : 0 ≤ k.toInt) (hc : ((cof p.toInt.toNat).toInt.toNat : Int) < n) (hl : k.toInt < (mny (cof p.toInt.toNat).toInt.toNat).toInt) (hr : r.toInt = (tem (6 * (cof p.toInt.toNat).toInt.toNat + k.toInt.toNat)).toInt) (h0 : 0 ≤ r.toInt) : lqp m (ccw cof) p.toInt.toNat k.toInt.toNat = PLR r p := by
  have e := hm.2.2.1 p.toInt.toNat (cof p.toInt.toNat).toInt.toNat k.toInt.toNat (by omega) hc (by omega)
  show m.2.1 p.toInt.toNat (cof p.toInt.toNat).toInt.toNat k.toInt.toNat = _
  rw [e]
  show 8000 * p.toInt.toNat + Int32.toNatClampNeg (tem (6 * (cof p.toInt.toNat).toInt.toNat + k.toInt.toNat)) = 8000 * p.toInt.toNat + r.toInt.toNat
  rw [clamp_nat (by omega), ← hr]
/-- a clause's literal, by its number -/
theorem mrp_t (hm : MRW m mny tem isn n) {i c : Nat} {k r : Int32} (hi : i ≤ 31) (hk : 0 ≤ k.toInt) (hc : (c : Int) < n) (hl : k.toInt < (mny c).toInt) (hr : r.toInt = (tem (6 * c + k.toInt.toNat)).toInt) (h0 : 0 ≤ r.toInt) : m.2.1 i c k.toInt.toNat = 8000 * i + r.toInt.toNat := by
  rw [hm.2.2.1 i c k.toInt.toNat hi hc (by omega)]
  show 8000 * i + Int32.toNatClampNeg (tem (6 * c + k.toInt.toNat)) = _
  rw [clamp_nat (by omega), ← hr]
/-! instances' clauses, told in two ways -/
variable {c c' : Nat → Nat} {f : FRT} {i k : Nat} {x : LKT}
theorem alq_agr (hi : c' i = c i) (hx : c' x.1 = c x.1) : ALQ m b c' i k x ↔ ALQ m b c i k x := by
  unfold ALQ lqs lqp
  rw [hi, hx]
theorem rpq_agr (hf : c' f.1 = c f.1) (hx : ∀ x : LKT, x ∈ f.2.2.2.1 → c' x.1 = c x.1) (h : RPQ m b c f) : RPQ m b c' f := by
  obtain ⟨k, k1, k2, k3, k4, x, x1, x2⟩ := h
  refine ⟨k, k1, k2, ?_, ?_, x, x1, (alq_agr hf (hx x x1)).mpr x2⟩
  · show k < lqn m c' f.1
    unfold lqn; rw [hf]; exact k3
  · show SML m b (lqp m c' f.1 k)
    unfold lqp; rw [hf]; exact k4
theorem fal_agr (hi : c' i = c i) : ∀ (xs : List LKT) (r : Option LKT), (∀ x : LKT, x ∈ xs → c' x.1 = c x.1) → FAL m b c i k xs r → FAL m b c' i k xs r := by
  intro xs
  induction xs with
  | nil => intro r _ h; exact h
  | cons x xs ih =>
    intro r hx h
    have e := alq_agr (m := m) (b := b) (k := k) hi (hx x List.mem_cons_self)
    rcases h with ⟨h1, h2⟩ | ⟨h1, h2⟩
    · exact Or.inl ⟨e.mpr h1, h2⟩
    · exact Or.inr ⟨fun w => h1 (e.mp w), ih r (fun y hy => hx y (List.mem_cons_of_mem _ hy)) h2⟩
end MW
section CW
variable {cin cli cah clo cin' cli' cah' clo' : Nat → Int32}
theorem chl_len : ∀ (xs : List LKT) (n c : Int), 0 ≤ n → CHL cin cli cah clo n c xs → (xs.length : Int) ≤ n := by
  intro xs
  induction xs with
  | nil => intro n c hn _; exact hn
  | cons x xs ih =>
    intro n c _ h
    obtain ⟨h1, _, _, _, h5⟩ := h
    have := ih c _ h1.1 h5
    rw [List.length_cons]; omega
/-- the length of a chain -/
def lonR (clo : Nat → Int32) (c : Int) : Int := if c = -1 then 0 else (clo c.toNat).toInt
theorem chl_lon {n c : Int} {xs : List LKT} (h : CHL cin cli cah clo n c xs) : lonR clo c = (xs.length : Int) := chl_long h
theorem lon_z {clo : Nat → Int32} {p z : Int32} (h : ¬ p.toInt = -1) (h0 : 0 ≤ p.toInt) (e : z = clo (Int32.toNatClampNeg p)) : z.toInt = lonR clo p.toInt := by
  unfold lonR
  rw [if_neg h, e, clamp_nat h0]
theorem lon_n {clo : Nat → Int32} {p : Int32} (h : p.toInt = -1) : ((0 : Int32)).toInt = lonR clo p.toInt := by
  unfold lonR
  rw [if_pos h]; rfl
/-- its first -/
theorem chl_at {n c : Int} {xs : List LKT} (h : CHL cin cli cah clo n c xs) (hc : ¬ c = -1) : ∃ (x : LKT) (ys : List LKT), xs = x :: ys ∧ (0 ≤ c ∧ c < n) ∧ (cin c.toNat).toInt = (x.1 : Int) ∧ (cli c.toNat).toInt = (x.2 : Int) ∧ CHL cin cli cah clo n (cah c.toNat).toInt ys := by
  cases xs with
  | nil => exact absurd h hc
  | cons x xs =>
    obtain ⟨h1, h2, h3, _, h5⟩ := h
    exact ⟨x, xs, rfl, h1, h2, h3, chl_mono _ _ _ _ h5 (by omega) (fun _ _ => ⟨rfl, rfl, rfl, rfl⟩)⟩
theorem chl_nil {n : Int} {xs : List LKT} (h : CHL cin cli cah clo n (-1) xs) : xs = [] := chl_none h
theorem chl_ch {C I : Int} {mn cof : Nat → Int32} (hc : CH C I mn cof cin cli cah) : ∀ (xs : List LKT) (n c : Int), n ≤ C → CHL cin cli cah clo n c xs → ∀ x : LKT, x ∈ xs → (x.1 : Int) < I := by
  intro xs
  induction xs with
  | nil => intro n c _ _ x hx; exact absurd hx List.not_mem_nil
  | cons y xs ih =>
    intro n c hn h x hx
    obtain ⟨h1, h2, h3, _, h5⟩ := h
    rcases List.mem_cons.mp hx with q | q
    · subst q
      have := (hc c.toNat (by omega)).1
      omega
    · exact ih c _ (by omega) h5 x q
/-- a new one ahead -/
theorem chl_push {C C' : Int} {p1 p2 p3 k z : Int32} {xs : List LKT} (h : CHL cin cli cah clo C p3.toInt xs) (hk : k.toInt = C) (h0 : 0 ≤ C) (e1 : cin' = upd cin (Int32.toNatClampNeg k) p1) (e2 : cli' = upd cli (Int32.toNatClampNeg k) p2) (e3 : cah' = upd cah (Int32.toNatClampNeg k) p3) (e4 : clo' = upd clo (Int32.toNatClampNeg k) z) (ez : z.toInt = lonR clo p3.toInt + 1) {i l : Nat} (hi : p1.toInt = (i : Int)) (hl : p2.toInt = (l : Int)) (eC : C' = C + 1) {r : Int} (er : r = C) : CHL cin' cli' cah' clo' C' r ((i, l) :: xs) := by
  have ck := clamp_nat (i := k) (by omega)
  subst er
  have ek : r.toNat = Int32.toNatClampNeg k := by omega
  refine ⟨by omega, by rw [e1, ek, pk_us]; exact hi, by rw [e2, ek, pk_us]; exact hl, by rw [e4, ek, pk_us, ez, chl_lon h], ?_⟩
  rw [e3, ek, pk_us]
  exact chl_mono _ _ _ _ h (Int.le_refl _) (fun i hi => ⟨by rw [e1]; exact pk_un (by omega), by rw [e2]; exact pk_un (by omega), by first | exact pk_un (by omega) | (rw [e3]; exact pk_un (by omega)), by rw [e4]; exact pk_un (by omega)⟩)
end CW
/-! what isCut goes through -/
section RC
variable {m : PRM} {b : Nat → Int} {c : Nat → Nat} {f : FRT} {cin cli cah clo : Nat → Int32} {C k1 k2 : Int} {left : Int32} {nl : Nat}
def RCN (m : PRM) (b : Nat → Int) (c : Nat → Nat) (f : FRT) (k1 : Int) : Prop := ∀ k : Nat, f.2.2.1 ≤ k → (k : Int) < k1 → (k : Int) ≠ f.2.1 → k < lqn m c f.1 → SML m b (lqp m c f.1 k) → ∀ x : LKT, x ∈ f.2.2.2.1 → ¬ ALQ m b c f.1 k x
def RCL (m : PRM) (b : Nat → Int) (c : Nat → Nat) (f : FRT) (cin cli cah clo : Nat → Int32) (C : Int) (k : Nat) (l : Int) : Prop := ∃ ys : List LKT, CHL cin cli cah clo C l ys ∧ (∀ x : LKT, x ∈ ys → x ∈ f.2.2.2.1) ∧ ∀ x : LKT, x ∈ f.2.2.2.1 → x ∈ ys ∨ ¬ ALQ m b c f.1 k x
theorem rcn_zero (h : k1 ≤ 0) : RCN m b c f k1 := fun k _ h2 => by omega
theorem rcn_cast (h : RCN m b c f k1) (e : k2 = k1) : RCN m b c f k2 := by rw [e]; exact h
theorem rcn_skip {k : Int32} (hb : LBQ left f (lqn m c f.1)) (h : RCN m b c f k.toInt) (hk : 0 ≤ k.toInt ∧ k.toInt ≤ 5) (hn : bt left k = 0 ∨ ¬ SML m b (lqp m c f.1 k.toInt.toNat)) (e : k2 = k.toInt + 1) : RCN m b c f k2 := fun j h1 h2 h3 h4 h5 => by
  by_cases w : (j : Int) < k.toInt
  · exact h j h1 w h3 h4 h5
  · have ej : j = k.toInt.toNat := by omega
    subst ej
    rcases hn with hn | hn
    · have q := (hb.2 k.toInt.toNat (by omega)).mpr ⟨h1, h3, h4⟩
      rw [nI_nat (show k.toInt = ((k.toInt.toNat : Nat) : Int) by omega) (by omega), hn] at q
      omega
    · exact absurd h5 hn
theorem rcn_step {k : Int32} (h : RCN m b c f k.toInt) (hk : 0 ≤ k.toInt) (hl : RCL m b c f cin cli cah clo C k.toInt.toNat (-1)) (e : k2 = k.toInt + 1) : RCN m b c f k2 := fun j h1 h2 h3 h4 h5 x hx => by
  by_cases w : (j : Int) < k.toInt
  · exact h j h1 w h3 h4 h5 x hx
  · have ej : j = k.toInt.toNat := by omega
    subst ej
    obtain ⟨ys, y1, _, y3⟩ := hl
    have e := chl_nil y1
    subst e
    rcases y3 x hx with q | q
    · exact absurd q List.not_mem_nil
    · exact q
theorem rcl_zero {k : Nat} {l : Int} (h : CHL cin cli cah clo C l f.2.2.2.1) : RCL m b c f cin cli cah clo C k l := ⟨_, h, fun _ h => h, fun _ h => Or.inl h⟩
theorem rcl_cast {k : Nat} {l l' : Int} (h : RCL m b c f cin cli cah clo C k l) (e : l' = l) : RCL m b c f cin cli cah clo C k l' := by rw [e]; exact h
theorem rcl_at {k : Nat} {l : Int} (h : RCL m b c f cin cli cah clo C k l) (hl : ¬ l = -1) : (0 ≤ l ∧ l < C) ∧ ∃ x : LKT, (cin l.toNat).toInt = (x.1 : Int) ∧ (cli l.toNat).toInt = (x.2 : Int) ∧ x ∈ f.2.2.2.1 ∧ (¬ ALQ m b c f.1 k x → RCL m b c f cin cli cah clo C k (cah l.toNat).toInt) := by
  obtain ⟨ys, y1, y2, y3⟩ := h
  obtain ⟨x, zs, e, h1, h2, h3, h4⟩ := chl_at y1 hl
  subst e
  exact ⟨h1, x, h2, h3, y2 x List.mem_cons_self, fun w => ⟨zs, h4, fun y hy => y2 y (List.mem_cons_of_mem _ hy), fun y hy => by
    rcases y3 y hy with q | q
    · rcases List.mem_cons.mp q with q | q
      · subst q; exact Or.inr w
      · exact Or.inl q
    · exact Or.inr q⟩⟩
theorem rcn_end (h : RCN m b c f k1) (hk : (lqn m c f.1 : Int) ≤ k1) : ¬ RPQ m b c f := fun ⟨k, h1, h2, h3, h4, x, x1, x2⟩ => h k h1 (by omega) h2 h3 h4 x x1 x2
theorem rpq_hit {k : Int32} {x : LKT} (hb : LBQ left f (lqn m c f.1)) (hk : 0 ≤ k.toInt ∧ k.toInt ≤ 5) (h1 : bt left k = 1) (h2 : SML m b (lqp m c f.1 k.toInt.toNat)) (h3 : x ∈ f.2.2.2.1) (h4 : ALQ m b c f.1 k.toInt.toNat x) : RPQ m b c f := by
  have q := hb.2 k.toInt.toNat (by omega)
  rw [nI_nat (show k.toInt = ((k.toInt.toNat : Nat) : Int) by omega) (by omega)] at q
  obtain ⟨a, d, e⟩ := q.mp h1
  exact ⟨_, a, d, e, h2, x, h3, h4⟩
end RC
/-! six words written -/
def SXN (f0 f1 : Nat → Int32) (S : Nat) (a b c d e g : Int) : Prop := (∀ i : Nat, i < 6 * S → f1 i = f0 i) ∧ (f1 (6 * S)).toInt = a ∧ (f1 (6 * S + 1)).toInt = b ∧ (f1 (6 * S + 2)).toInt = c ∧ (f1 (6 * S + 3)).toInt = d ∧ (f1 (6 * S + 4)).toInt = e ∧ (f1 (6 * S + 5)).toInt = g
theorem sxn_of {f0 f1 f2 f3 f4 f5 f6 : Nat → Int32} {z0 z1 z2 z3 z4 z5 a0 a1 a2 a3 a4 a5 : Int32} {S : Nat} (e1 : f1 = upd f0 (Int32.toNatClampNeg z0) a0) (e2 : f2 = upd f1 (Int32.toNatClampNeg z1) a1) (e3 : f3 = upd f2 (Int32.toNatClampNeg z2) a2) (e4 : f4 = upd f3 (Int32.toNatClampNeg z3) a3) (e5 : f5 = upd f4 (Int32.toNatClampNeg z4) a4) (e6 : f6 = upd f5 (Int32.toNatClampNeg z5) a5) (h0 : z0.toInt = 6 * (S : Int)) (h1 : z1.toInt = 6 * (S : Int) + 1) (h2 : z2.toInt = 6 * (S : Int) + 2) (h3 : z3.toInt = 6 * (S : Int) + 3) (h4 : z4.toInt = 6 * (S : Int) + 4) (h5 : z5.toInt = 6 * (S : Int) + 5) : SXN f0 f6 S a0.toInt a1.toInt a2.toInt a3.toInt a4.toInt a5.toInt := by
  have c0 : Int32.toNatClampNeg z0 = 6 * S := by rw [clamp_nat (by omega)]; omega
  have c1 : Int32.toNatClampNeg z1 = 6 * S + 1 := by rw [clamp_nat (by omega)]; omega
  have c2 : Int32.toNatClampNeg z2 = 6 * S + 2 := by rw [clamp_nat (by omega)]; omega
  have c3 : Int32.toNatClampNeg z3 = 6 * S + 3 := by rw [clamp_nat (by omega)]; omega
  have c4 : Int32.toNatClampNeg z4 = 6 * S + 4 := by rw [clamp_nat (by omega)]; omega
  have c5 : Int32.toNatClampNeg z5 = 6 * S + 5 := by rw [clamp_nat (by omega)]; omega
  rw [c0] at e1; rw [c1] at e2; rw [c2] at e3; rw [c3] at e4; rw [c4] at e5; rw [c5] at e6
  refine ⟨fun i hi => ?_, ?_, ?_, ?_, ?_, ?_, ?_⟩
  · rw [e6, e5, e4, e3, e2, e1, pk_un (by omega), pk_un (by omega), pk_un (by omega), pk_un (by omega), pk_un (by omega), pk_un (by omega)]
  · rw [e6, e5, e4, e3, e2, e1, pk_un (by omega), pk_un (by omega), pk_un (by omega), pk_un (by omega), pk_un (by omega), pk_us]
  · rw [e6, e5, e4, e3, e2, pk_un (by omega), pk_un (by omega), pk_un (by omega), pk_un (by omega), pk_us]
  · rw [e6, e5, e4, e3, pk_un (by omega), pk_un (by omega), pk_un (by omega), pk_us]
  · rw [e6, e5, e4, pk_un (by omega), pk_un (by omega), pk_us]
  · rw [e6, e5, pk_un (by omega), pk_us]
  · rw [e6, pk_us]
theorem stq_push {sts sts' : Nat → Int32} {K : List CHT} {t : CHT} {f : FRT} {fs : List FRT} {S : Nat} {a b c d e g : Int} (h : STQ sts K) (k : SXN sts sts' S a b c d e g) (hS : K.length = S) (ht : t.1 = f :: fs) (ea : t.2.1 = a) (eb : (f.1 : Int) = b) (ec : (f.2.2.1 : Int) = c) (ed : t.2.2.1 = d) (ee : t.2.2.2.1 = e) (eg : (f.2.2.2.1.length : Int) = g) : STQ sts' (t :: K) := fun i u f' fs' hu hf => by
  subst hS
  obtain ⟨k0, k1, k2, k3, k4, k5, k6⟩ := k
  by_cases w : i = K.length
  · subst w
    rw [atK_top] at hu
    cases hu
    rw [ht] at hf
    cases hf
    exact ⟨k1.trans ea.symm, k2.trans eb.symm, k3.trans ec.symm, k4.trans ed.symm, k5.trans ee.symm, k6.trans eg.symm⟩
  · have hu2 := atK_low hu w
    have l := atK_lt _ _ _ hu2
    obtain ⟨q1, q2, q3, q4, q5, q6⟩ := h i u f' fs' hu2 hf
    exact ⟨by rw [k0 _ (by omega)]; exact q1, by rw [k0 _ (by omega)]; exact q2, by rw [k0 _ (by omega)]; exact q3, by rw [k0 _ (by omega)]; exact q4, by rw [k0 _ (by omega)]; exact q5, by rw [k0 _ (by omega)]; exact q6⟩
theorem stq_agr {sts sts' : Nat → Int32} {K : List CHT} {S : Nat} (h : STQ sts K) (hS : K.length = S) (k : ∀ i : Nat, i < 6 * S → sts' i = sts i) : STQ sts' K := fun i u f fs hu hf => by
  subst hS
  have l := atK_lt _ _ _ hu
  obtain ⟨q1, q2, q3, q4, q5, q6⟩ := h i u f fs hu hf
  exact ⟨by rw [k _ (by omega)]; exact q1, by rw [k _ (by omega)]; exact q2, by rw [k _ (by omega)]; exact q3, by rw [k _ (by omega)]; exact q4, by rw [k _ (by omega)]; exact q5, by rw [k _ (by omega)]; exact q6⟩
/-! what reduces does -/
def RDC (m : PRM) (b : Nat → Int) (c : Nat → Nat) (i k : Nat) (x : LKT) : Prop := OPQ m (c i) k (lqp m c i k) (c x.1) x.2 (lqp m c x.1 x.2) ∧ SML m b (lqp m c x.1 x.2)
def SMB (b b' : Nat → Int) (T T' : Int) (tra tra' : Nat → Int32) : Prop := b' = b ∧ T' = T ∧ ∀ i : Nat, (i : Int) < T → tra' i = tra i
def RDW (m : PRM) (b b' : Nat → Int) (c : Nat → Nat) (i k : Nat) (x : LKT) (T T' : Int) (tra tra' : Nat → Int32) (t0 t1 o0 o1 rf r : Int) : Prop :=
  (r = 1 ∧ RDC m b c i k x ∧ t0 ≤ 999 ∧ t1 = t0 + 1 ∧ o1 = o0 ∧ OUT m.1 b [(lqp m c i k, lqp m c x.1 x.2)] true b' ∧ TRW T T' b b' tra tra' ∧ rf = T) ∨
  (r = 0 ∧ ¬ RDC m b c i k x ∧ t1 = t0 ∧ o1 = o0 ∧ SMB b b' T T' tra tra') ∨
  (r = 0 ∧ RDC m b c i k x ∧ t0 = 1000 ∧ t1 = 1000 ∧ o1 = 1) ∨
  (r = 0 ∧ RDC m b c i k x ∧ t0 ≤ 999 ∧ t1 = t0 + 1 ∧ o1 = o0 ∧ (∀ y : Nat → Int, OUT m.1 b [(lqp m c i k, lqp m c x.1 x.2)] false y) ∧ SMB b b' T T' tra tra')
