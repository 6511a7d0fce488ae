/-! extensions -/
section EX
variable {m : PRM} {c0 : CFT} {f : FRT} {fs : List FRT} {K : List CHT} {s : BNT} {n n' : CTT} {IX IX' : Nat → Nat} {JX JX' : Nat → Int} {cd : Nat} {b1 : Nat → Int}
  {bto bin tra sts clo bto1 bin1 tra1 sts1 clo1 bto2 bin2 tra2 sts2 clo2 cof cof' ico ico' : Nat → Int32} {T T1 T2 S S1 C C1 I F : Int}
/-- the literal is opposite -/
def EOQ (m : PRM) (s : BNT) (f : FRT) (cd : Nat) : Prop := cd % 6 < m.2.2.1 (cd / 6) ∧ OPQ m (s.2.2 f.1) f.2.2.1 (lqp m s.2.2 f.1 f.2.2.1) (cd / 6) (cd % 6) (m.2.1 s.2.1 (cd / 6) (cd % 6))
def EDP (m : PRM) (f : FRT) : Prop := (f.2.2.2.1.length : Int) < m.2.2.2.2.2.1
theorem wbk_extno (h : WBK m c0 f fs s K [] cd n) (hd : EDP m f) (hc : cd < 6 * m.2.2.2.2.1) (ho : ¬ EOQ m s f cd) : WBK m c0 f fs s K [] (cd + 1) n := by
  obtain ⟨b, i, c⟩ := s
  obtain ⟨kd, bi, bl, lt, hl, h⟩ := h
  exact ⟨kd, bi, bl, lt, hl, run_st h (mst_extno hl ⟨hd, hc⟩ ho)⟩
theorem wbk_extov (h : WBK m c0 f fs s K [] cd n) (hd : EDP m f) (hc : cd < 6 * m.2.2.2.2.1) (ho : EOQ m s f cd) (ht : n.1 = 1000) : RUN m c0 (DNc (-2) [] zB n) := by
  obtain ⟨b, i, c⟩ := s
  obtain ⟨kd, bi, bl, lt, hl, h⟩ := h
  exact run_st h (mst_extov hl ⟨hd, hc⟩ ho ht)
theorem wbk_extfull (h : WBK m c0 f fs s K [] cd n) (hd : EDP m f) (hc : cd < 6 * m.2.2.2.2.1) (ho : EOQ m s f cd) (ht : ¬ n.1 = 1000) (hi : ¬ s.2.1 < 30) : WBK m c0 f fs s K [] (cd + 1) (n.1 + 1, n.2) := by
  obtain ⟨b, i, c⟩ := s
  obtain ⟨kd, bi, bl, lt, hl, h⟩ := h
  exact ⟨kd, bi, bl, lt, hl, run_st h (mst_extfull hl ⟨hd, hc⟩ ho ht hi)⟩
theorem wbk_ext0 (h : WBK m c0 f fs s K [] cd n) (hd : EDP m f) (hc : cd < 6 * m.2.2.2.2.1) (ho : EOQ m s f cd) (ht : ¬ n.1 = 1000) (hi : s.2.1 < 30) (hu : OUT m.1 s.1 [(lqp m s.2.2 f.1 f.2.2.1, m.2.1 s.2.1 (cd / 6) (cd % 6))] false b1) : WBK m c0 f fs s K [] (cd + 1) (n.1 + 1, n.2) := by
  obtain ⟨b, i, c⟩ := s
  obtain ⟨kd, bi, bl, lt, hl, h⟩ := h
  exact ⟨kd, bi, bl, lt, hl, run_st h (mst_ext0 hl ⟨hd, hc⟩ ho ht hi hu)⟩
theorem wbk_ext1 (h : WBK m c0 f fs s K [] cd n) (hd : EDP m f) (hc : cd < 6 * m.2.2.2.2.1) (ho : EOQ m s f cd) (ht : ¬ n.1 = 1000) (hi : s.2.1 < 30) (hu : OUT m.1 s.1 [(lqp m s.2.2 f.1 f.2.2.1, m.2.1 s.2.1 (cd / 6) (cd % 6))] true b1) : ∃ lt : Bool, (m.2.2.2.2.2.2.2.1 = true → lt = true) ∧ RUN m c0 (GOc (exq f s.2.1 (cd % 6) (K.length : Int) :: rsq m f :: fs) ((f :: fs, 3, (s.2.1 : Int), ((cd % 6 : Nat) : Int), lt, [], cd + 1, false, s) :: K) (b1, s.2.1 + 1, upc s.2.2 s.2.1 (cd / 6)) (n.1 + 1, max n.2.1 ((f.2.2.2.1.length : Int) + 1), n.2.2.1, n.2.2.2 + 1)) := by
  obtain ⟨b, i, c⟩ := s
  obtain ⟨kd, bi, bl, lt, hl, h⟩ := h
  exact ⟨lt, hl, run_st h (mst_ext1 hl ⟨hd, hc⟩ ho ht hi hu)⟩
/-- behind a clause's last literal -/
theorem wbk_skip (hd : EDP m f) {c : Nat} (hc : c < m.2.2.2.2.1) : ∀ (r k : Nat), k + r = 6 → m.2.2.1 c ≤ k → WBK m c0 f fs s K [] (6 * c + k) n → WBK m c0 f fs s K [] (6 * c + 6) n := by
  intro r
  induction r with
  | zero => intro k e _ h; rw [show k = 6 by omega] at h; exact h
  | succ r ih =>
    intro k e hk h
    refine ih (k + 1) (by omega) (by omega) ?_
    have := wbk_extno h hd (by omega) (fun q => by
      have q1 := q.1
      rw [show (6 * c + k) % 6 = k by omega, show (6 * c + k) / 6 = c by omega] at q1
      omega)
    exact this
def EWX (m : PRM) (c0 : CFT) (f : FRT) (fs : List FRT) (s : BNT) (IX : Nat → Nat) (K : List CHT) (cd : Nat) (bto bin tra sts clo : Nat → Int32) (T S C : Int) (bto' bin' tra' cof' sts' clo' ico' : Nat → Int32) (T' I' S' : Int) (n : CTT) (ov r : Int) : Prop :=
  (r = 1 ∧ ov = 0 ∧ ENW m c0 bto' bin' cof' sts' I' S' n) ∨
  (r = 0 ∧ ov = 0 ∧ WBK m c0 f fs s (rfk m.2.2.2.2.2.2.2.2 ico' IX K) [] (cd + 1) n ∧ SAW bto bin tra sts clo T S C bto' bin' tra' sts' clo' T') ∨
  (r = -1 ∧ ov = 0 ∧ RUN m c0 (BKc (rfk m.2.2.2.2.2.2.2.2 ico' IX K) n) ∧ SAW bto bin tra sts clo T S C bto' bin' tra' sts' clo' T') ∨
  (r = -1 ∧ ov = 1 ∧ RUN m c0 (DNc (-2) [] zB n))
theorem ewx_zero {bto' bin' tra' sts' clo' : Nat → Int32} {T' I' S' ov r : Int} (h : EWX m c0 f fs s IX K cd bto bin tra sts clo T S C bto' bin' tra' cof' sts' clo' ico' T' I' S' n ov r) (hr : r = 0) : ov = 0 ∧ WBK m c0 f fs s (rfk m.2.2.2.2.2.2.2.2 ico' IX K) [] (cd + 1) n ∧ SAW bto bin tra sts clo T S C bto' bin' tra' sts' clo' T' := by
  rcases h with ⟨a, _⟩ | ⟨_, a⟩ | ⟨a, _⟩ | ⟨a, _⟩
  · omega
  · exact a
  · omega
  · omega
theorem ewx_one {bto' bin' tra' sts' clo' : Nat → Int32} {T' I' S' ov r r' : Int} {IX2 : Nat → Nat} {K2 : List CHT} {btoa bina traa stsa cloa : Nat → Int32} {Ta Sa Ca : Int} (h : EWX m c0 f fs s IX K cd bto bin tra sts clo T S C bto' bin' tra' cof' sts' clo' ico' T' I' S' n ov r) (hr : r = 1) (hr' : r' = 1) : SWX m c0 IX2 K2 btoa bina traa stsa cloa Ta Sa Ca bto' bin' tra' cof' sts' clo' ico' T' I' S' n ov r' := by
  rcases h with ⟨_, a, b⟩ | ⟨a, _⟩ | ⟨a, _⟩ | ⟨a, _⟩
  · exact Or.inl ⟨hr', a, b⟩
  · omega
  · omega
  · omega
theorem ewx_out {bto' bin' tra' sts' clo' : Nat → Int32} {T' I' S' ov r r' : Int} {btoa bina traa stsa cloa : Nat → Int32} {Ta Sa Ca : Int} (h : EWX m c0 f fs s IX K cd bto bin tra sts clo T S C bto' bin' tra' cof' sts' clo' ico' T' I' S' n ov r) (hr : r = -1) (hr' : r' = 0) (w : SAW btoa bina traa stsa cloa Ta Sa Ca bto bin tra sts clo T) (hS : Sa ≤ S) (hC : Ca ≤ C) : SWX m c0 IX K btoa bina traa stsa cloa Ta Sa Ca bto' bin' tra' cof' sts' clo' ico' T' I' S' n ov r' := by
  rcases h with ⟨a, _⟩ | ⟨a, _⟩ | ⟨_, a, b, d⟩ | ⟨_, a, b⟩
  · omega
  · omega
  · exact Or.inr (Or.inl ⟨hr', a, b, saw_tr w d hS hC⟩)
  · exact Or.inr (Or.inr ⟨hr', a, b⟩)
/-- the search goes on in a new instance: as closes() takes it -/
theorem gw_ext {t : CHT} {gs : List FRT} {s' : BNT} {G : Nat} (h : RUN m c0 (GOc gs (t :: rfk m.2.2.2.2.2.2.2.2 ico IX K) s' n)) (h3 : t.2.1 = 3) (hx : t.2.2.2.2.2.2.2.1 = false) (hj : IXJ IX JX F K) (hG : (G : Int) = F) (h0 : (ico' G).toInt = 0) (ho : ∀ i : Nat, i ≠ G → ico' i = ico i) : RUN m c0 (GOc gs (rfk m.2.2.2.2.2.2.2.2 ico' (fun i => if i = K.length then G else IX i) (t :: K)) s' n) ∧ rfk m.2.2.2.2.2.2.2.2 ico' (fun i => if i = K.length then G else IX i) K = rfk m.2.2.2.2.2.2.2.2 ico IX K := by
  have key : rfk m.2.2.2.2.2.2.2.2 ico' (fun i => if i = K.length then G else IX i) K = rfk m.2.2.2.2.2.2.2.2 ico IX K := rfk_cong3 K (fun i u hu h3 => by
    have l := atK_lt _ _ _ hu
    have a := (hj.1 i u hu h3).1
    show (ico' (if i = K.length then G else IX i)).toInt = 1 ↔ _
    rw [if_neg (by omega), ho _ (by omega)])
  refine ⟨?_, key⟩
  rw [rfk_cons, key]
  have e : decide (t.2.1 ≠ 3) = false := decide_eq_false (fun q => q h3)
  have e1 : decide ((ico' (if K.length = K.length then G else IX K.length)).toInt = 1) = false := decide_eq_false (by rw [if_pos rfl, h0]; decide)
  have e2 : (m.2.2.2.2.2.2.2.2 && (decide (t.2.1 ≠ 3) || decide ((ico' ((fun i => if i = K.length then G else IX i) K.length)).toInt = 1))) = false := by
    show (m.2.2.2.2.2.2.2.2 && (decide (t.2.1 ≠ 3) || decide ((ico' (if K.length = K.length then G else IX K.length)).toInt = 1))) = false
    rw [e, e1, Bool.false_or, Bool.and_false]
  rw [e2]
  have e3 : fxk t false = t := by
    obtain ⟨a1, a2, a3, a4, a5, a6, a7, a8, a9⟩ := t
    have hx : a8 = false := hx
    rw [hx]; rfl
  rw [e3]; exact h
theorem rfk_ext {G : Nat} (hj : IXJ IX JX F K) (hG : (G : Int) = F) : rfk m.2.2.2.2.2.2.2.2 ico (fun i => if i = K.length then G else IX i) K = rfk m.2.2.2.2.2.2.2.2 ico IX K := rfk_cong3 K (fun i u hu h3 => by
    have l := atK_lt _ _ _ hu
    show (ico (if i = K.length then G else IX i)).toInt = 1 ↔ _
    rw [if_neg (by omega)])
theorem ksq_ext {t : CHT} {F' a b c d e g : Int} {G : Nat} (h : KSQ sts IX JX F S K) (k : SXN sts sts1 S.toNat a b c d e g) (ht : t.1 = f :: fs) (h3 : t.2.1 = 3) (ea : t.2.1 = a) (eb : (f.1 : Int) = b) (ec : (f.2.2.1 : Int) = c) (ed : t.2.2.1 = d) (ee : t.2.2.2.1 = e) (eg : (f.2.2.2.1.length : Int) = g) (eS : S1 = S + 1) (hG : (G : Int) = F) (eF : F' = F + 1) : KSQ sts1 (fun i => if i = K.length then G else IX i) (fun g => if g = G then (K.length : Int) else JX g) F' S1 (t :: K) := by
  obtain ⟨h1, h2, h4⟩ := h
  exact ⟨by rw [List.length_cons]; omega, stq_push h2 k (by omega) ht ea eb ec ed ee eg, ixj_ext h4 h3 hG eF⟩
theorem bnw_new {k v : Int32} {I' : Int} {cl : Nat} (h : BNW bto bin cof I s) (hk : k.toInt = I) (h0 : 0 ≤ I) (ec : cof' = upd cof (Int32.toNatClampNeg k) v) (hv : v.toInt = (cl : Int)) (eI : I' = I + 1) : BNW bto1 bin1 cof' I' (BDW bto1 bin1, s.2.1 + 1, upc s.2.2 s.2.1 cl) := by
  obtain ⟨_, h2, h3⟩ := h
  have ck := clamp_nat (i := k) (by omega)
  refine ⟨rfl, by show ((s.2.1 + 1 : Nat) : Int) = I'; omega, fun i hi => ?_⟩
  have hi : i < s.2.1 + 1 := hi
  show (cof' i).toInt = ((upc s.2.2 s.2.1 cl i : Nat) : Int)
  unfold upc
  by_cases w : i = s.2.1
  · rw [if_pos w, ec, show i = Int32.toNatClampNeg k by omega, pk_us]; exact hv
  · rw [if_neg w, ec, pk_un (by omega)]; exact h3 i (by omega)
/-- a frame more -/
theorem frl_push {nl : Nat → Nat} {cin cli cah fin fle fpa flm fne cin' cli' cah' clo' fin' fle' fpa' flm' fne' : Nat → Int32} {c c' : Nat → Nat} {g F' : Int} {p1 p2 p3 p4 p5 k : Int32} {j : Int} {G : Nat} (h : FRL nl cin cli cah clo fin fle fpa flm fne c JX C F p5.toInt fs) (hk : k.toInt = F) (h0 : 0 ≤ F) (hG : (G : Int) = F) (e1 : fin' = upd fin (Int32.toNatClampNeg k) p1) (e2 : fle' = upd fle (Int32.toNatClampNeg k) p2) (e3 : fpa' = upd fpa (Int32.toNatClampNeg k) p3) (e4 : flm' = upd flm (Int32.toNatClampNeg k) p4) (e5 : fne' = upd fne (Int32.toNatClampNeg k) p5) (hC : C ≤ C1) (ag : ∀ i : Nat, (i : Int) < C → cin' i = cin i ∧ cli' i = cli i ∧ cah' i = cah i ∧ clo' i = clo i) (hi : p1.toInt = (f.1 : Int)) (hl : LBQ p2 f (nl (c' f.1))) (hp : CHL cin' cli' cah' clo' C1 p3.toInt f.2.2.2.1) (hm : CHL cin' cli' cah' clo' C1 p4.toInt f.2.2.2.2.1) (hd : f.2.2.2.2.2 = mdx JX p5.toInt) (hb : p5.toInt < F) (hc : ∀ e : FRT, e ∈ fs → c' e.1 = c e.1) (eF : F' = F + 1) (eg : g = F) : FRL nl cin' cli' cah' clo' fin' fle' fpa' flm' fne' c' (fun g => if g = G then j else JX g) C1 F' g (f :: fs) := by
  have ck := clamp_nat (i := k) (by omega)
  subst eg
  have ek : g.toNat = Int32.toNatClampNeg k := by omega
  refine ⟨by omega, by rw [e1, ek, pk_us]; exact hi, by rw [e2, ek, pk_us]; exact hl, by rw [e3, ek, pk_us]; exact hp, by rw [e4, ek, pk_us]; exact hm, ?_, ?_⟩
  · rw [e5, ek, pk_us, hd]
    unfold mdx
    by_cases w : p5.toInt = -1
    · rw [if_pos w, if_pos w]
    · rw [if_neg w, if_neg w]
      show JX p5.toInt.toNat = if p5.toInt.toNat = G then j else JX p5.toInt.toNat
      by_cases w0 : 0 ≤ p5.toInt
      · rw [if_neg (by omega)]
      · cases fs with
        | nil => exact absurd h w
        | cons e es => have := h.1; omega
  · have e6 : (fne' g.toNat).toInt = p5.toInt := by rw [e5, ek, pk_us]
    rw [e6]
    exact frl_mono hC ag _ _ _ _ h (Int.le_refl _) hc (fun i hi => ⟨by rw [e1]; exact pk_un (by omega), by rw [e2]; exact pk_un (by omega), by rw [e3]; exact pk_un (by omega), by rw [e4]; exact pk_un (by omega), by first | (rw [e5]; exact pk_un (by omega)) | exact pk_un (by omega), if_neg (by omega)⟩)
/-- rows' instances are there -/
theorem lim_bk (hc : CIV m c0) (h : WBK m c0 f fs s K [] cd n) : ∀ e : FRT, e ∈ fs → e.1 < s.2.1 := by
  obtain ⟨b, i, c⟩ := s
  obtain ⟨kd, bi, bl, lt, _, h⟩ := h
  have hv := (civ_run hc h).2
  obtain ⟨_, hr⟩ := hv
  exact fun e he => hr.2.2.2.2.2.1 e (List.mem_cons_of_mem _ he)
end EX
section ET
variable {m : PRM} {c0 : CFT} {f : FRT} {fs : List FRT} {K : List CHT} {s : BNT} {n : CTT} {IX : Nat → Nat} {JX : Nat → Int} {cd cd' : Nat}
  {bto bin tra sts clo bto1 bin1 tra1 sts1 clo1 bto2 bin2 tra2 sts2 clo2 cof cof2 ico2 : Nat → Int32} {T T1 T2 S S1 C C1 I2 S2 ov r r' : Int}
theorem wbk_cast (h : WBK m c0 f fs s K [] cd n) (e : cd' = cd) : WBK m c0 f fs s K [] cd' n := by rw [e]; exact h
/-- a call that failed behind what was done -/
theorem swx_fail (h : SWX m c0 IX K bto1 bin1 tra1 sts1 clo1 T1 S1 C1 bto2 bin2 tra2 cof2 sts2 clo2 ico2 T2 I2 S2 n ov r) (hr : r = 0) (hr' : r' = 0) (w : SAW bto bin tra sts clo T S C bto1 bin1 tra1 sts1 clo1 T1) (hS : S ≤ S1) (hC : C ≤ C1) : SWX m c0 IX K bto bin tra sts clo T S C bto2 bin2 tra2 cof2 sts2 clo2 ico2 T2 I2 S2 n ov r' := by
  rcases h with ⟨a, _⟩ | ⟨_, a, b, d⟩ | ⟨_, a, b⟩
  · omega
  · exact Or.inr (Or.inl ⟨hr', a, b, saw_tr w d hS hC⟩)
  · exact Or.inr (Or.inr ⟨hr', a, b⟩)
end ET
section EY
variable {m : PRM} {c0 : CFT} {K : List CHT} {n : CTT} {IX : Nat → Nat} {bto bin tra sts clo bto2 bin2 tra2 sts2 clo2 cof2 ico2 : Nat → Int32} {T T2 S C I2 S2 ov r : Int}
theorem swx_yes (h : SWX m c0 IX K bto bin tra sts clo T S C bto2 bin2 tra2 cof2 sts2 clo2 ico2 T2 I2 S2 n ov r) (hr : r = 1) : ov = 0 ∧ ENW m c0 bto2 bin2 cof2 sts2 I2 S2 n := by
  rcases h with ⟨_, a⟩ | ⟨a, _⟩ | ⟨a, _⟩
  · exact a
  · omega
  · omega
end EY
section EZ
variable {m : PRM} {c0 : CFT} {n : CTT} {IX : Nat → Nat} {bto bin tra sts clo bto2 bin2 tra2 sts2 clo2 cof2 ico2 : Nat → Int32} {T T2 S C I2 S2 ov r q : Int}
/-- what a search comes to -/
def SRW (m : PRM) (c0 : CFT) (bto bin cof sts : Nat → Int32) (I S : Int) (n : CTT) (r : Int) : Prop := (r = 1 ∧ ENW m c0 bto bin cof sts I S n) ∨ (r = 0 ∧ RUN m c0 (DNc 0 [] zB n)) ∨ (r = -2 ∧ RUN m c0 (DNc (-2) [] zB n))
theorem srw_of (h : SWX m c0 IX [] bto bin tra sts clo T S C bto2 bin2 tra2 cof2 sts2 clo2 ico2 T2 I2 S2 n ov r) (hq : (¬ ov = 0 ∧ q = -2) ∨ (ov = 0 ∧ r = 1 ∧ q = 1) ∨ (ov = 0 ∧ r = 0 ∧ q = 0)) : SRW m c0 bto2 bin2 cof2 sts2 I2 S2 n q := by
  rcases hq with ⟨q1, q2⟩ | ⟨q1, q3, q2⟩ | ⟨q1, q3, q2⟩
  · rcases h with ⟨_, a, _⟩ | ⟨_, a, _⟩ | ⟨_, _, a⟩
    · exact absurd a q1
    · exact absurd a q1
    · exact Or.inr (Or.inr ⟨q2, a⟩)
  · exact Or.inl ⟨q2, (swx_yes h q3).2⟩
  · rcases swx_no h q3 with ⟨_, a, _⟩ | ⟨a, _⟩
    · exact Or.inr (Or.inl ⟨q2, run_st a mst_none⟩)
    · omega
end EZ
theorem upx_at {c : Nat → Nat} {i v : Nat} : upc c i v i = v := by unfold upc; rw [if_pos rfl]
theorem upx_ne {c : Nat → Nat} {i v j : Nat} (h : j ≠ i) : upc c i v j = c j := by unfold upc; rw [if_neg h]
