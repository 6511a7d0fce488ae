/-! the ways of the class's latest step, as the search's -/
def AGI_ (cof : Nat → Int32) (I : Int) (c : Nat → Nat) : Prop := ∀ i : Nat, (i : Int) < I → (cof i).toInt = (c i : Int)
/-- which of a chain is the latest that is alike -/
def LAX (m : PRM) (la : Nat → Nat) (lf : Nat → LT) (b : Nat → Int) (cof : Nat → Int32) (n I : Int) (o : Option Nat) (i k : Nat) (r : Option Nat) : Prop := ∀ (xs : List LKT) (c : Nat → Nat), LKR la lf n o xs → AGI_ cof I c → (r = none ∧ FAL m b c i k xs none) ∨ ∃ (q : Nat) (x : LKT), (q : Int) < n ∧ r = some (la q) ∧ (lf q).1.toInt = (x.1 : Int) ∧ (lf q).2.1.toInt = (x.2 : Int) ∧ FAL m b c i k xs (some x)
/-- so far none of it was -/
def LAN (m : PRM) (la : Nat → Nat) (lf : Nat → LT) (b : Nat → Int) (cof : Nat → Int32) (n I : Int) (o o' : Option Nat) (i k : Nat) : Prop := ∀ (xs : List LKT) (c : Nat → Nat), LKR la lf n o xs → AGI_ cof I c → ∃ ys : List LKT, LKR la lf n o' ys ∧ ∀ r : Option LKT, FAL m b c i k ys r → FAL m b c i k xs r
/-- whether one of those left is alike one of the path -/
def RPX (m : PRM) (la : Nat → Nat) (lf : Nat → LT) (b : Nat → Int) (cof : Nat → Int32) (L I : Int) (t : RT) (r : Int) : Prop := ∀ (f : FRT) (c : Nat → Nat), RWV la lf L t f → AGI_ cof I c → (r = 1 ∧ RPQ m b c f) ∨ (r = 0 ∧ ¬ RPQ m b c f)
def RPN (m : PRM) (la : Nat → Nat) (lf : Nat → LT) (b : Nat → Int) (cof : Nat → Int32) (L I : Int) (t : RT) (k1 : Int) : Prop := ∀ (f : FRT) (c : Nat → Nat), RWV la lf L t f → AGI_ cof I c → ∀ k : Nat, f.2.2.1 ≤ k → (k : Int) < k1 → (k : Int) ≠ f.2.1 → k < lqn m c f.1 → SML m b (lqp m c f.1 k) → ∀ x : LKT, x ∈ f.2.2.2.1 → ¬ ALQ m b c f.1 k x
section LA
variable {m : PRM} {la : Nat → Nat} {lf : Nat → LT} {b : Nat → Int} {cof : Nat → Int32} {n I : Int} {o o' : Option Nat} {i k : Nat}
theorem lan_zero : LAN m la lf b cof n I o o i k := fun xs _ h _ => ⟨xs, h, fun _ w => w⟩
theorem lan_end (h : LAN m la lf b cof n I o none i k) : LAX m la lf b cof n I o i k none := fun xs c h1 h2 => by
  obtain ⟨ys, y1, y2⟩ := h xs c h1 h2
  cases ys with
  | nil => exact Or.inl ⟨rfl, y2 none rfl⟩
  | cons y ys => obtain ⟨q, _, e, _⟩ := y1; cases e
theorem lan_hit {q : Nat} (h : LAN m la lf b cof n I o (some (la q)) i k) (hq : (q : Int) < n) (ij : ∀ i j : Nat, (i : Int) < n → (j : Int) < n → la i = la j → i = j) (ha : ∀ c : Nat → Nat, AGI_ cof I c → ALQ m b c i k ((lf q).1.toInt.toNat, (lf q).2.1.toInt.toNat)) : LAX m la lf b cof n I o i k (some (la q)) := fun xs c h1 h2 => by
  obtain ⟨ys, y1, y2⟩ := h xs c h1 h2
  cases ys with
  | nil => cases y1
  | cons y ys =>
    obtain ⟨q', q1, q2, q3, q4, _⟩ := y1
    have e := ij q q' hq q1 (Option.some.inj q2)
    subst e
    have a := ha c h2
    have ey : ((lf q).1.toInt.toNat, (lf q).2.1.toInt.toNat) = y := by
      obtain ⟨y0, y1⟩ := y
      have q3 : (lf q).1.toInt = (y0 : Int) := q3
      have q4 : (lf q).2.1.toInt = (y1 : Int) := q4
      rw [q3, q4]; rfl
    rw [ey] at a
    exact Or.inr ⟨q, y, hq, rfl, q3, q4, y2 _ (cif_y a rfl)⟩
theorem lan_next {q : Nat} (h : LAN m la lf b cof n I o (some (la q)) i k) (hq : (q : Int) < n) (ij : ∀ i j : Nat, (i : Int) < n → (j : Int) < n → la i = la j → i = j) (ha : ∀ c : Nat → Nat, AGI_ cof I c → ¬ ALQ m b c i k ((lf q).1.toInt.toNat, (lf q).2.1.toInt.toNat)) : LAN m la lf b cof n I o (lf q).2.2.2 i k := fun xs c h1 h2 => by
  obtain ⟨ys, y1, y2⟩ := h xs c h1 h2
  cases ys with
  | nil => cases y1
  | cons y ys =>
    obtain ⟨q', q1, q2, q3, q4, _, q6⟩ := y1
    have e := ij q q' hq q1 (Option.some.inj q2)
    subst e
    have a := ha c h2
    have ey : ((lf q).1.toInt.toNat, (lf q).2.1.toInt.toNat) = y := by
      obtain ⟨y0, y1⟩ := y
      have q3 : (lf q).1.toInt = (y0 : Int) := q3
      have q4 : (lf q).2.1.toInt = (y1 : Int) := q4
      rw [q3, q4]; rfl
    rw [ey] at a
    exact ⟨ys, lkr_mono _ _ _ _ q6 (by omega) (fun _ _ => ⟨rfl, rfl⟩), fun r w => y2 r (cif_n a w)⟩
/-- none of the chain is alike, or one is -/
theorem fal_none {c : Nat → Nat} : ∀ xs : List LKT, FAL m b c i k xs none → ∀ x : LKT, x ∈ xs → ¬ ALQ m b c i k x := by
  intro xs
  induction xs with
  | nil => intro _ x h; cases h
  | cons y ys ih =>
    intro h x hx
    rcases h with ⟨_, h⟩ | ⟨h1, h2⟩
    · cases h
    · rcases List.mem_cons.mp hx with e | e
      · rw [e]; exact h1
      · exact ih h2 x e
theorem fal_some {c : Nat → Nat} {y : LKT} : ∀ xs : List LKT, FAL m b c i k xs (some y) → y ∈ xs ∧ ALQ m b c i k y := by
  intro xs
  induction xs with
  | nil => intro h; cases h
  | cons x xs ih =>
    intro h
    rcases h with ⟨h1, h2⟩ | ⟨_, h2⟩
    · have e := Option.some.inj h2
      subst e
      exact ⟨List.mem_cons_self, h1⟩
    · obtain ⟨a, d⟩ := ih h2
      exact ⟨List.mem_cons_of_mem _ a, d⟩
end LA
section RP
variable {m : PRM} {la : Nat → Nat} {lf : Nat → LT} {b : Nat → Int} {cof ln : Nat → Int32} {L I k1 k2 : Int} {t : RT}
theorem rpn_zero (h : k1 ≤ t.2.2.1.toInt) : RPN m la lf b cof L I t k1 := fun f c hf _ k h1 h2 => by
  have := hf.2.2.1
  omega
/-- the next: it is the other one that was closed, or there is none such, or it is large -/
theorem rpn_skip (h : RPN m la lf b cof L I t k1) (e : k2 = k1 + 1) (hn : t.2.1.toInt = k1 ∨ ∀ c : Nat → Nat, AGI_ cof I c → ¬ SML m b (lqp m c t.1.toInt.toNat k1.toNat)) : RPN m la lf b cof L I t k2 := fun f c hf hc k h1 h2 h3 h4 h5 => by
  by_cases w : (k : Int) < k1
  · exact h f c hf hc k h1 w h3 h4 h5
  · have ek : k = k1.toNat := by omega
    have e1 : t.1.toInt.toNat = f.1 := by have := hf.1; omega
    rcases hn with hn | hn
    · have := hf.2.1
      omega
    · have q := hn c hc
      rw [e1, ← ek] at q
      exact absurd h5 q
theorem rpn_step {L' : Int} (h : RPN m la lf b cof L I t k1) (e : k2 = k1 + 1) (hL : L ≤ L') (hx : LAX m la lf b cof L' I t.2.2.2.1 t.1.toInt.toNat k1.toNat none) : RPN m la lf b cof L I t k2 := fun f c hf hc k h1 h2 h3 h4 h5 => by
  by_cases w : (k : Int) < k1
  · exact h f c hf hc k h1 w h3 h4 h5
  · have ek : k = k1.toNat := by omega
    have e1 : t.1.toInt.toNat = f.1 := by have := hf.1; omega
    have hl := lkr_mono _ _ _ _ hf.2.2.2.1 hL (fun _ _ => ⟨rfl, rfl⟩)
    rcases hx f.2.2.2.1 c hl hc with ⟨_, q⟩ | ⟨_, _, _, q, _⟩
    · rw [e1, ← ek] at q
      exact fal_none _ q
    · cases q
theorem rpn_end (h : RPN m la lf b cof L I t k1) (hk : ∀ c : Nat → Nat, AGI_ cof I c → (lqn m c t.1.toInt.toNat : Int) ≤ k1) : RPX m la lf b cof L I t 0 := fun f c hf hc => Or.inr ⟨rfl, fun ⟨k, h1, h2, h3, h4, x, h5, h6⟩ => by
  have e1 : t.1.toInt.toNat = f.1 := by have := hf.1; omega
  have q := hk c hc
  rw [e1] at q
  exact h f c hf hc k h1 (by omega) h2 h3 h4 x h5 h6⟩
theorem rpx_hit {L' : Int} {o : Nat} (h1 : t.2.2.1.toInt ≤ k1) (h0 : 0 ≤ k1) (h2 : ¬ t.2.1.toInt = k1) (h3 : ∀ c : Nat → Nat, AGI_ cof I c → k1 < (lqn m c t.1.toInt.toNat : Int)) (h4 : ∀ c : Nat → Nat, AGI_ cof I c → SML m b (lqp m c t.1.toInt.toNat k1.toNat)) (hL : L ≤ L') (hx : LAX m la lf b cof L' I t.2.2.2.1 t.1.toInt.toNat k1.toNat (some o)) : RPX m la lf b cof L I t 1 := fun f c hf hc => Or.inl ⟨rfl, by
  have e1 : t.1.toInt.toNat = f.1 := by have := hf.1; omega
  have e2 := hf.2.1
  have e3 := hf.2.2.1
  have q3 := h3 c hc
  have q4 := h4 c hc
  rw [e1] at q3 q4
  have hl := lkr_mono _ _ _ _ hf.2.2.2.1 hL (fun _ _ => ⟨rfl, rfl⟩)
  rcases hx f.2.2.2.1 c hl hc with ⟨q, _⟩ | ⟨_, x, _, _, _, _, q⟩
  · cases q
  · rw [e1] at q
    obtain ⟨a, d⟩ := fal_some _ q
    exact ⟨k1.toNat, by omega, by omega, by omega, q4, x, a, d⟩⟩
end RP
section CW
variable {m : PRM} {c0 : CFT} {la la' ra ra' : Nat → Nat} {lf lf' : Nat → LT} {rf rf' : Nat → RT} {sf sf' : Nat → ST} {bnd bnd' trl trl' cof cof' ln : Nat → Int32} {T I R L S : Int} {n n' : CTT} {j : Nat}
theorem bnd_agi {s : BNT} (h : BND_ bnd cof I s) : AGI_ cof I s.2.2 := fun i hi => bnd_cof h hi
/-- a cut -/
theorem gox_cut {q : Nat} (h : GOX m c0 la lf ra rf sf bnd trl cof T I R L S (some (ra q)) n) (hq : (q : Int) < R) (ij : ∀ i j : Nat, (i : Int) < R → (j : Int) < R → ra i = ra j → i = j) (hl : ∀ c : Nat → Nat, AGI_ cof I c → (rf q).2.2.1.toInt < (lqn m c (rf q).1.toInt.toNat : Int)) (hr : m.2.2.2.2.2.2.1 = true) (hx : RPX m la lf (BDV bnd) cof L I (rf q) 1) (en : n' = (n.1, n.2.1, n.2.2.1 + 1, n.2.2.2)) : BKX m c0 la lf ra rf sf bnd trl cof T I R L S n' := by
  obtain ⟨f, fs, K, s, h1, h2, h3, h4, h5, h6⟩ := gox_row h hq ij
  have ag := bnd_agi h6
  have q1 := hl _ ag
  have e1 : (rf q).1.toInt.toNat = f.1 := by have := h2.1; omega
  have e3 := h2.2.2.1
  rw [e1] at q1
  rcases hx f s.2.2 h2 ag with ⟨_, x⟩ | ⟨x, _⟩
  · rw [← h6.1] at x
    subst en
    exact ⟨K, run_st h1 (mst_cut (by omega) hr x), h4, h5⟩
  · cases x
/-- too large -/
theorem gox_big {q : Nat} (h : GOX m c0 la lf ra rf sf bnd trl cof T I R L S (some (ra q)) n) (hq : (q : Int) < R) (ij : ∀ i j : Nat, (i : Int) < R → (j : Int) < R → ra i = ra j → i = j) (hl : ∀ c : Nat → Nat, AGI_ cof I c → (rf q).2.2.1.toInt < (lqn m c (rf q).1.toInt.toNat : Int)) (hr : m.2.2.2.2.2.2.1 = true → RPX m la lf (BDV bnd) cof L I (rf q) 0) (hs : ∀ c : Nat → Nat, AGI_ cof I c → ¬ SML m (BDV bnd) (lqp m c (rf q).1.toInt.toNat (rf q).2.2.1.toInt.toNat)) : BKX m c0 la lf ra rf sf bnd trl cof T I R L S n := by
  obtain ⟨f, fs, K, s, h1, h2, h3, h4, h5, h6⟩ := gox_row h hq ij
  have ag := bnd_agi h6
  have q1 := hl _ ag
  have q2 := hs _ ag
  have e1 : (rf q).1.toInt.toNat = f.1 := by have := h2.1; omega
  have e3 := h2.2.2.1
  have e4 : (rf q).2.2.1.toInt.toNat = f.2.2.1 := by omega
  rw [e1] at q1
  rw [e1, e4, ← h6.1] at q2
  refine ⟨K, run_st h1 (mst_big (by omega) (fun ⟨w, x⟩ => ?_) q2), h4, h5⟩
  rcases hr w f s.2.2 h2 ag with ⟨y, _⟩ | ⟨_, y⟩
  · cases y
  · rw [← h6.1] at y; exact y x
/-- a step more -/
theorem gox_push {q : Nat} (h : GOX m c0 la lf ra rf sf bnd trl cof T I R L S (some (ra q)) n) (hq : (q : Int) < R) (ij : ∀ i j : Nat, (i : Int) < R → (j : Int) < R → ra i = ra j → i = j) (hl : ∀ c : Nat → Nat, AGI_ cof I c → (rf q).2.2.1.toInt < (lqn m c (rf q).1.toInt.toNat : Int)) (hr : m.2.2.2.2.2.2.1 = true → RPX m la lf (BDV bnd) cof L I (rf q) 0) (hs : ∀ c : Nat → Nat, AGI_ cof I c → SML m (BDV bnd) (lqp m c (rf q).1.toInt.toNat (rf q).2.2.1.toInt.toNat))
    (hj : (j : Int) = S) (ho : ∀ i : Nat, i ≠ j → sf' i = sf i) (hw : (sf' j).1 = some (ra q)) (hk : (sf' j).2.2.2.2.1.toInt = 0 ∧ (sf' j).2.2.2.2.2.1 = (rf q).2.2.2.1 ∧ (sf' j).2.2.2.2.2.2.1.toInt = 0 ∧ (sf' j).2.2.2.2.2.2.2.1.toInt = 0 ∧ sTM (sf' j) = T ∧ sIM (sf' j) = I ∧ sRM (sf' j) = R ∧ sLM (sf' j) = L) (h0 : 0 ≤ T ∧ 0 ≤ L) (hb : BTR T trl bnd) (hz : BHZ bnd) {S' : Int} (eS : S' = S + 1) : BKX m c0 la lf ra rf sf' bnd trl cof T I R L S' n := by
  obtain ⟨f, fs, K, s, h1, h2, h3, h4, h5, h6⟩ := gox_row h hq ij
  have ag := bnd_agi h6
  have q1 := hl _ ag
  have q2 := hs _ ag
  have e1 : (rf q).1.toInt.toNat = f.1 := by have := h2.1; omega
  have e3 := h2.2.2.1
  have e4 : (rf q).2.2.1.toInt.toNat = f.2.2.1 := by omega
  rw [e1] at q1
  rw [e1, e4, ← h6.1] at q2
  have eK : K.length = j := by omega
  subst eK
  obtain ⟨k1, k2, k3, k4, k5, k6, k7, k8⟩ := hk
  obtain ⟨b1, b2, b3⟩ := h6
  refine ⟨newt f fs s :: K, run_st h1 (mst_push (by omega) (fun ⟨w, x⟩ => ?_) q2), by rw [List.length_cons]; omega, ?_⟩
  · rcases hr w f s.2.2 h2 ag with ⟨y, _⟩ | ⟨_, y⟩
    · cases y
    · rw [← b1] at y; exact y x
  · show (0 ≤ sTM (sf' K.length) ∧ _) ∧ _ ∧ _ ∧ _ ∧ CHV la lf ra rf bnd trl cof (sf' K.length) (newt f fs s) ∧ STV la lf ra rf sf' bnd trl cof (sTM (sf' K.length)) (sIM (sf' K.length)) (sRM (sf' K.length)) (sLM (sf' K.length)) K
    rw [k5, k6, k7, k8]
    refine ⟨⟨h0.1, Int.le_refl _⟩, ⟨by omega, Int.le_refl _⟩, ⟨by omega, Int.le_refl _⟩, ⟨h0.2, Int.le_refl _⟩, ?_, ?_⟩
    · obtain ⟨r1, r2, r3, r4, r5, r6⟩ := id h2
      refine ⟨?_, Or.inl rfl, ⟨fun w => absurd w (by omega), fun w => (by cases w)⟩, ?_, ?_, ⟨fun w => absurd w (by omega), fun w => (by cases w)⟩, ?_, ?_, fun i hi => b3 i hi⟩
      · rw [k7, k8, hw]; exact ⟨q, hq, rfl, h2, h3⟩
      · rw [k8, k2]; exact r4
      · rw [k3]; rfl
      · rw [k5]
        show TRB bnd trl T s.1
        rw [b1]; exact trb_full hb hz
      · rw [k6]; exact b2.symm
    · exact stv_ext _ _ _ _ _ _ _ _ _ h5 (Int.le_refl _) (Int.le_refl _) (Int.le_refl _) (Int.le_refl _) (fun _ _ => ⟨rfl, rfl⟩) (fun _ _ => ⟨rfl, rfl⟩) (fun i hi => ho i (by omega)) (fun _ _ => ⟨rfl, rfl⟩) (fun _ _ => rfl)
/-- the latest choice, opened: its own words -/
theorem bkt_top {ro : Nat} (hc : CIV m c0) (h : BKT m c0 la lf ra rf sf bnd trl cof j n) (hro : (ro : Int) < sRM (sf j)) (er : (sf j).1 = some (ra ro)) (ij : ∀ i k : Nat, (i : Int) < sRM (sf j) → (k : Int) < sRM (sf j) → ra i = ra k → i = k) : ∃ (f : FRT) (fs : List FRT) (kd bi bl : Int) (lt : Bool) (lk : List LKT) (cd : Nat) (fx : Bool) (n0 : Nat) (c : Nat → Nat) (K : List CHT), RUN m c0 (BKc ((f :: fs, kd, bi, bl, lt, lk, cd, fx, BDV bnd, n0, c) :: K) n) ∧ K.length = j ∧ RWV la lf (sLM (sf j)) (rf ro) f ∧ RWR la lf (sLM (sf j)) ra rf (ro : Int) (rf ro).2.2.2.2.2.1 fs ∧ ((sf j).2.2.2.2.1.toInt = 1 ↔ lt = true) ∧ LKR la lf (sLM (sf j)) (sf j).2.2.2.2.2.1 lk ∧ (sf j).2.2.2.2.2.2.1.toInt = (cd : Int) ∧ ((sf j).2.2.2.2.2.2.2.1.toInt = 1 ↔ fx = true) ∧ sIM (sf j) = (n0 : Int) ∧ AGI_ cof (sIM (sf j)) c ∧ f.2.2.1 < lqn m c f.1 ∧ SML m (BDV bnd) (lqp m c f.1 f.2.2.1) ∧ f.1 < n0 ∧ (∀ x : LKT, x ∈ lk → GLL m n0 c x) ∧ STV la lf ra rf sf bnd trl cof (sTM (sf j)) (sIM (sf j)) (sRM (sf j)) (sLM (sf j)) ((f :: fs, kd, bi, bl, lt, lk, cd, fx, BDV bnd, n0, c) :: K) := by
  obtain ⟨t, K, h1, h2, h3, h4⟩ := h
  subst h2
  have iv := civ_run hc h1
  obtain ⟨iv1, ⟨f, fs, e1, e2, e3, e4⟩, iv3⟩ := iv
  obtain ⟨r, kd, bi, bl, lt, lk, cd, fx, b0, n0, c⟩ := t
  have e1 : r = f :: fs := e1
  subst e1
  have h4 : b0 = BDV bnd := h4
  subst h4
  obtain ⟨_, _, _, _, ⟨⟨q, q1, q2, q3, q4⟩, c2, c3, c4, c5, c6, c7, c8, c9⟩, _⟩ := id h3
  have eq : ro = q := ij ro q hro q1 (Option.some.inj (er.symm.trans q2))
  subst eq
  have c8 : sIM (sf K.length) = (n0 : Int) := c8
  have c9 : ∀ i : Nat, i < n0 → (cof i).toInt = (c i : Int) := c9
  exact ⟨f, fs, kd, bi, bl, lt, lk, cd, fx, n0, c, K, h1, rfl, q3, q4, c3, c4, c5, c6, c8, fun i hi => c9 i (by omega), e2, e3, iv3.2.2.2.2.2.1 f List.mem_cons_self, e4, h3⟩
/-- a choice's own fields change, its row and marks stay -/
theorem stv_top {t t' : CHT} {K : List CHT} (h : STV la lf ra rf sf bnd trl cof T I R L (t :: K)) (hj : K.length = j) (ho : ∀ i : Nat, i ≠ j → sf' i = sf i) (hw : (sf' j).1 = (sf j).1) (hm : sTM (sf' j) = sTM (sf j) ∧ sIM (sf' j) = sIM (sf j) ∧ sRM (sf' j) = sRM (sf j) ∧ sLM (sf' j) = sLM (sf j)) (e1 : t'.1 = t.1) (e2 : t'.2.2.2.2.2.2.2.2 = t.2.2.2.2.2.2.2.2) (hk : t'.2.1 = 0 ∨ ((sf' j).2.1.toInt = t'.2.1 ∧ (sf' j).2.2.1.toInt = t'.2.2.1 ∧ (sf' j).2.2.2.1.toInt = t'.2.2.2.1)) (h3 : (sf' j).2.2.2.2.1.toInt = 1 ↔ t'.2.2.2.2.1 = true) (h4 : LKR la lf (sLM (sf j)) (sf' j).2.2.2.2.2.1 t'.2.2.2.2.2.1) (h5 : (sf' j).2.2.2.2.2.2.1.toInt = (t'.2.2.2.2.2.2.1 : Int)) (h6 : (sf' j).2.2.2.2.2.2.2.1.toInt = 1 ↔ t'.2.2.2.2.2.2.2.1 = true) : STV la lf ra rf sf' bnd trl cof T I R L (t' :: K) := by
  subst hj
  obtain ⟨k1, k2, k3, k4, ⟨c1, c2, c3, c4, c5, c6, c7, c8, c9⟩, k6⟩ := h
  obtain ⟨m1, m2, m3, m4⟩ := hm
  show (0 ≤ sTM (sf' K.length) ∧ _) ∧ _ ∧ _ ∧ _ ∧ CHV la lf ra rf bnd trl cof (sf' K.length) t' ∧ STV la lf ra rf sf' bnd trl cof (sTM (sf' K.length)) (sIM (sf' K.length)) (sRM (sf' K.length)) (sLM (sf' K.length)) K
  rw [m1, m2, m3, m4]
  refine ⟨k1, k2, k3, k4, ⟨by rw [m3, m4, hw, e1]; exact c1, hk, h3, by rw [m4]; exact h4, h5, h6, by rw [m1, e2]; exact c7, by rw [m2, e2]; exact c8, fun i hi => ?_⟩, ?_⟩
  · rw [e2] at hi ⊢
    exact c9 i hi
  · exact stv_ext _ _ _ _ _ _ _ _ _ k6 (Int.le_refl _) (Int.le_refl _) (Int.le_refl _) (Int.le_refl _) (fun _ _ => ⟨rfl, rfl⟩) (fun _ _ => ⟨rfl, rfl⟩) (fun i hi => ho i (by omega)) (fun _ _ => ⟨rfl, rfl⟩) (fun _ _ => rfl)
end CW
