/-! the reference's calls: what they begin with, and what they end with -/
def MOQ (m : PRM) (d o : Int32) : Prop := m.2.2.2.2.2.1 = d.toInt ∧ (m.2.2.2.2.2.2.1 = true ↔ bt o 0 = 1) ∧ (m.2.2.2.2.2.2.2.1 = true ↔ bt o 1 = 1) ∧ (m.2.2.2.2.2.2.2.2 = true ↔ bt o 2 = 1)
def RWF (m : PRM) (cin cli cah clo : Nat → Int32) (c : Nat → Nat) (JX : Nat → Int) (C i : Int) (left : Int32) (path lem next : Int) (f : FRT) : Prop := i = (f.1 : Int) ∧ LBQ left f (m.2.2.1 (c f.1)) ∧ CHL cin cli cah clo C path f.2.2.2.1 ∧ CHL cin cli cah clo C lem f.2.2.2.2.1 ∧ f.2.2.2.2.2 = mdx JX next
def KSQ (sts : Nat → Int32) (IX : Nat → Nat) (JX : Nat → Int) (F S : Int) (K : List CHT) : Prop := (K.length : Int) = S ∧ STQ sts K ∧ IXJ IX JX F K
def SAW (bto bin tra sts clo : Nat → Int32) (T S C : Int) (bto' bin' tra' sts' clo' : Nat → Int32) (T' : Int) : Prop := SMB (BDW bto bin) (BDW bto' bin') T T' tra tra' ∧ (∀ i : Nat, i < 6 * S.toNat → sts' i = sts i) ∧ ∀ i : Nat, (i : Int) < C → clo' i = clo i
/-- all is closed -/
def ENW (m : PRM) (c0 : CFT) (bto bin cof sts : Nat → Int32) (I S : Int) (n : CTT) : Prop := ∃ (K : List CHT) (s : BNT), RUN m c0 (DNc 1 K s n) ∧ BNW bto bin cof I s ∧ (K.length : Int) = S ∧ STQ sts K
def SWX (m : PRM) (c0 : CFT) (IX : Nat → Nat) (K : List CHT) (bto bin tra sts clo : Nat → Int32) (T S C : Int) (bto' bin' tra' cof' sts' clo' ico' : Nat → Int32) (T' I' S' : Int) (n : CTT) (ov r : Int) : Prop :=
  (r = 1 ∧ ov = 0 ∧ ENW m c0 bto' bin' cof' sts' I' S' n) ∨
  (r = 0 ∧ ov = 0 ∧ RUN m c0 (BKc (rfk m.2.2.2.2.2.2.2.2 ico' IX K) n) ∧ SAW bto bin tra sts clo T S C bto' bin' tra' sts' clo' T') ∨
  (r = 0 ∧ ov = 1 ∧ RUN m c0 (DNc (-2) [] zB n))
section SW
variable {m : PRM} {c0 : CFT} {f : FRT} {fs : List FRT} {K : List CHT} {s : BNT} {n n' : CTT} {IX IX' : Nat → Nat} {JX JX' : Nat → Int}
  {bto bin tra sts clo bto1 bin1 tra1 sts1 clo1 bto2 bin2 tra2 sts2 clo2 cof cof' ico ico' : Nat → Int32} {T T1 T2 S S1 C C1 I F : Int}
theorem saw_rf : SAW bto bin tra sts clo T S C bto bin tra sts clo T := ⟨⟨rfl, rfl, fun _ _ => rfl⟩, fun _ _ => rfl, fun _ _ => rfl⟩
theorem saw_tr (h : SAW bto bin tra sts clo T S C bto1 bin1 tra1 sts1 clo1 T1) (k : SAW bto1 bin1 tra1 sts1 clo1 T1 S1 C1 bto2 bin2 tra2 sts2 clo2 T2) (hS : S ≤ S1) (hC : C ≤ C1) : SAW bto bin tra sts clo T S C bto2 bin2 tra2 sts2 clo2 T2 := by
  obtain ⟨⟨a1, a2, a3⟩, a4, a5⟩ := h
  obtain ⟨⟨b1, b2, b3⟩, b4, b5⟩ := k
  exact ⟨⟨b1.trans a1, b2.trans a2, fun i hi => (b3 i (by omega)).trans (a3 i hi)⟩, fun i hi => (b4 i (by omega)).trans (a4 i hi), fun i hi => (b5 i (by omega)).trans (a5 i hi)⟩
/-- steps and chains grow behind what there is -/
theorem saw_grow (h1 : ∀ i : Nat, i < 6 * S.toNat → sts1 i = sts i) (h2 : ∀ i : Nat, (i : Int) < C → clo1 i = clo i) : SAW bto bin tra sts clo T S C bto bin tra sts1 clo1 T := ⟨⟨rfl, rfl, fun _ _ => rfl⟩, h1, h2⟩
theorem saw_sts {sts' clo' : Nat → Int32} (h : SAW bto bin tra sts clo T S C bto1 bin1 tra1 sts1 clo1 T1) (h1 : ∀ i : Nat, i < 6 * S.toNat → sts' i = sts1 i) (h2 : ∀ i : Nat, (i : Int) < C → clo' i = clo1 i) : SAW bto bin tra sts clo T S C bto1 bin1 tra1 sts' clo' T1 := ⟨h.1, fun i hi => (h1 i hi).trans (h.2.1 i hi), fun i hi => (h2 i hi).trans (h.2.2 i hi)⟩
theorem saw_cast {T1' : Int} (h : SAW bto bin tra sts clo T S C bto1 bin1 tra1 sts1 clo1 T1) (e : T1' = T1) : SAW bto bin tra sts clo T S C bto1 bin1 tra1 sts1 clo1 T1' := by rw [e]; exact h
theorem saw_bnw (h : SAW bto bin tra sts clo T S C bto1 bin1 tra1 sts1 clo1 T1) (hb : BNW bto bin cof I s) (hc : ∀ i : Nat, (i : Int) < I → cof' i = cof i) : BNW bto1 bin1 cof' I s := ⟨hb.1.trans h.1.1.symm, hb.2.1, fun i hi => by rw [hc i (by have := hb.2.1; omega)]; exact hb.2.2 i hi⟩
theorem bnw_agw (h : BNW bto bin cof I s) {i : Nat} (hi : (i : Int) < I) : ccw cof i = s.2.2 i := by
  have := h.2.2 i (by have := h.2.1; omega)
  unfold ccw; omega
theorem swx_one {ov r r' : Int} {ico2 : Nat → Int32} {bto' bin' tra' cof2 sts' clo' : Nat → Int32} {T' I' S' : Int} {IX2 : Nat → Nat} {K2 : List CHT} (h : SWX m c0 IX2 K2 bto1 bin1 tra1 sts1 clo1 T1 S1 C1 bto' bin' tra' cof2 sts' clo' ico2 T' I' S' n ov r) (hr : r = 1) (hr' : r' = 1) : SWX m c0 IX K bto bin tra sts clo T S C bto' bin' tra' cof2 sts' clo' ico2 T' I' S' n ov r' := by
  rcases h with ⟨_, a, b⟩ | ⟨a, _⟩ | ⟨a, _⟩
  · exact Or.inl ⟨hr', a, b⟩
  · omega
  · omega
theorem swx_no {ov r : Int} {ico2 : Nat → Int32} {bto' bin' tra' cof2 sts' clo' : Nat → Int32} {T' I' S' : Int} (h : SWX m c0 IX K bto bin tra sts clo T S C bto' bin' tra' cof2 sts' clo' ico2 T' I' S' n ov r) (hr : r = 0) : (ov = 0 ∧ RUN m c0 (BKc (rfk m.2.2.2.2.2.2.2.2 ico2 IX K) n) ∧ SAW bto bin tra sts clo T S C bto' bin' tra' sts' clo' T') ∨ (ov = 1 ∧ RUN m c0 (DNc (-2) [] zB n)) := by
  rcases h with ⟨a, _⟩ | ⟨_, a⟩ | ⟨_, a⟩
  · omega
  · exact Or.inl a
  · exact Or.inr a
theorem stq_rfk {res : Bool} (h : STQ sts K) : STQ sts (rfk res ico IX K) := fun i u f fs hu hf => by
  obtain ⟨t, t1, t2⟩ := rfk_at res ico IX K i u hu
  subst t2
  exact h i t f fs t1 hf
theorem mdx_none : mdx JX (-1) = -1 := if_pos rfl
theorem mdx_some {g : Int} (h : ¬ g = -1) : mdx JX g = JX g.toNat := if_neg h
theorem frl_nil {nl : Nat → Nat} {cin cli cah fin fle fpa flm fne : Nat → Int32} {c : Nat → Nat} (h : FRL nl cin cli cah clo fin fle fpa flm fne c JX C F (-1) fs) : fs = [] := by
  cases fs with
  | nil => rfl
  | cons f fs => have := h.1; omega
/-- the START's row is closed: all is -/
theorem go_none {nl : Nat → Nat} {cin cli cah fin fle fpa flm fne : Nat → Int32} {c : Nat → Nat} (h : RUN m c0 (GOc (f :: fs) (rfk m.2.2.2.2.2.2.2.2 ico IX K) s n)) (hl : lqn m s.2.2 f.1 ≤ f.2.2.1) (hm : f.2.2.2.2.2 = mdx JX (-1)) (hf : FRL nl cin cli cah clo fin fle fpa flm fne c JX C F (-1) fs) (hb : BNW bto bin cof I s) (hk : KSQ sts IX JX F S K) {ov r T' : Int} (hr : r = 1) (ho : ov = 0) : SWX m c0 IX K bto1 bin1 tra1 sts1 clo1 T S1 C1 bto bin tra cof sts clo ico' T' I S n ov r := by
  have e := frl_nil hf
  subst e
  rw [mdx_none] at hm
  have h2 := run_st (run_st h (mst_pop hl)) mst_done
  have e2 : mkq m f.2.2.2.2.2 (rfk m.2.2.2.2.2.2.2.2 ico IX K) = rfk m.2.2.2.2.2.2.2.2 ico IX K := by
    unfold mkq
    rw [if_neg (fun q => q.2 hm)]
  rw [e2] at h2
  exact Or.inl ⟨hr, ho, _, s, h2, hb, by rw [rfk_len]; exact hk.1, stq_rfk hk.2.1⟩
/-- a frame is come to -/
theorem go_come {g : Nat} (hc : CIV m c0) (h : RUN m c0 (GOc (f :: fs) (rfk m.2.2.2.2.2.2.2.2 ico IX K) s n)) (hl : lqn m s.2.2 f.1 ≤ f.2.2.1) (hg : (g : Int) < F) (hm : f.2.2.2.2.2 = JX g) (hj : IXJ IX JX F K) (ho : ∀ i : Nat, i ≠ g → (ico' i).toInt = (ico i).toInt) (hs : (ico' g).toInt = 1) : RUN m c0 (GOc fs (rfk m.2.2.2.2.2.2.2.2 ico' IX K) s n) := by
  have h2 := run_st h (mst_pop hl)
  obtain ⟨j0, t, j1, j2, j3⟩ := hj.2 g hg
  obtain ⟨_, hr⟩ := civ_run hc h
  obtain ⟨w1, w2, _⟩ := hr
  have e1 : JX g = (((JX g).toNat : Nat) : Int) := by omega
  rw [hm, e1] at h2
  have key := rfk_mark3 (m := m) (ico := ico) (ico' := ico') (IX := IX) (K := K) (md := (JX g).toNat) (fun i u hu h3 hne => by
    obtain ⟨_, b⟩ := hj.1 i u hu h3
    have : IX i ≠ g := fun q => by rw [q] at b; omega
    rw [ho _ this]) (by rw [j3]; exact hs) (atK_lt _ _ _ j1) (fun w i u hu hlt => by
    cases q : u.2.2.2.2.2.2.2.1 with
    | true => rfl
    | false =>
      obtain ⟨e, e2, e3⟩ := w1 w i u hu q
      rcases List.mem_cons.mp e2 with q2 | q2
      · subst q2; omega
      · have := w2.1 e q2; omega)
  rw [key] at h2
  exact h2
theorem frl_at {nl : Nat → Nat} {cin cli cah fin fle fpa flm fne : Nat → Int32} {c : Nat → Nat} {g : Int} (h : FRL nl cin cli cah clo fin fle fpa flm fne c JX C F g fs) (hg : ¬ g = -1) : ∃ (f2 : FRT) (fs2 : List FRT), fs = f2 :: fs2 ∧ (0 ≤ g ∧ g < F) ∧ (fin g.toNat).toInt = (f2.1 : Int) ∧ LBQ (fle g.toNat) f2 (nl (c f2.1)) ∧ CHL cin cli cah clo C (fpa g.toNat).toInt f2.2.2.2.1 ∧ CHL cin cli cah clo C (flm g.toNat).toInt f2.2.2.2.2.1 ∧ f2.2.2.2.2.2 = mdx JX (fne g.toNat).toInt ∧ FRL nl cin cli cah clo fin fle fpa flm fne c JX C F (fne g.toNat).toInt fs2 := by
  cases fs with
  | nil => exact absurd h hg
  | cons f2 fs2 =>
    obtain ⟨h1, h2, h3, h4, h5, h6, h7⟩ := h
    exact ⟨f2, fs2, rfl, h1, h2, h3, h4, h5, h6, frl_mono (Int.le_refl _) (fun _ _ => ⟨rfl, rfl, rfl, rfl⟩) _ _ _ _ h7 (by omega) (fun _ _ => rfl) (fun _ _ => ⟨rfl, rfl, rfl, rfl, rfl, rfl⟩)⟩
theorem plv_go (hp : PLV c0) (h : RUN m c0 (GOc (f :: fs) K s n)) : (f.2.2.2.1.length : Int) ≤ n.2.1 := (plv_run hp h).1 f List.mem_cons_self
theorem plv_bk (hp : PLV c0) (h : RUN m c0 (BKc (newt f fs s :: K) n)) : (f.2.2.2.1.length : Int) ≤ n.2.1 := plk_top (plv_run hp h) f List.mem_cons_self
/-! closes: rows that are left -/
variable {left : Int32} {nl : Nat}
theorem lbq_some (h : LBQ left f nl) (hx : 1 ≤ left.toInt ∧ left.toInt ≤ 63) : ¬ nl ≤ f.2.2.1 := fun w => by
  have := bit_some (x := left) (k := 6) hx (fun j hj => by
    have q := h.2 j (by omega)
    rcases bt_01 left (nI j) with e | e
    · exact e
    · obtain ⟨a, _, d⟩ := q.mp e
      omega)
  omega
theorem cl_cut (h : RUN m c0 (GOc (f :: fs) K s n)) (hl : ¬ lqn m s.2.2 f.1 ≤ f.2.2.1) (hr : m.2.2.2.2.2.2.1 = true) (hq : RPQ m s.1 s.2.2 f) : RUN m c0 (BKc K (n.1, n.2.1, n.2.2.1 + 1, n.2.2.2)) := run_st h (mst_cut hl hr hq)
theorem cl_big (h : RUN m c0 (GOc (f :: fs) K s n)) (hl : ¬ lqn m s.2.2 f.1 ≤ f.2.2.1) (hr : ¬ (m.2.2.2.2.2.2.1 = true ∧ RPQ m s.1 s.2.2 f)) (hq : ¬ SML m s.1 (lqp m s.2.2 f.1 f.2.2.1)) : RUN m c0 (BKc K n) := run_st h (mst_big hl hr hq)
theorem cl_push (h : RUN m c0 (GOc (f :: fs) K s n)) (hl : ¬ lqn m s.2.2 f.1 ≤ f.2.2.1) (hr : ¬ (m.2.2.2.2.2.2.1 = true ∧ RPQ m s.1 s.2.2 f)) (hq : SML m s.1 (lqp m s.2.2 f.1 f.2.2.1)) : RUN m c0 (BKc (newt f fs s :: K) n) := run_st h (mst_push hl hr hq)
/-! a lemma -/
def LAW (m : PRM) (s : BNT) (f : FRT) (cin cli cah clo : Nat → Int32) (C l : Int) : Prop := ∃ ys : List LKT, CHL cin cli cah clo C l ys ∧ (∀ x : LKT, x ∈ ys → x ∈ f.2.2.2.2.1) ∧ ∀ r : Option LKT, FAL m s.1 s.2.2 f.1 f.2.2.1 ys r → FAL m s.1 s.2.2 f.1 f.2.2.1 f.2.2.2.2.1 r
variable {cin cli cah : Nat → Int32} {l l' : Int}
theorem law_zero (h : CHL cin cli cah clo C l f.2.2.2.2.1) : LAW m s f cin cli cah clo C l := ⟨_, h, fun _ h => h, fun _ h => h⟩
theorem law_cast (h : LAW m s f cin cli cah clo C l) (e : l' = l) : LAW m s f cin cli cah clo C l' := by rw [e]; exact h
theorem law_none (h : LAW m s f cin cli cah clo C l) (e : l = -1) : FAL m s.1 s.2.2 f.1 f.2.2.1 f.2.2.2.2.1 none := by
  subst e
  obtain ⟨ys, y1, _, y3⟩ := h
  have e := chl_nil y1
  subst e
  exact y3 none rfl
theorem law_at (h : LAW m s f cin cli cah clo C l) (hl : ¬ l = -1) : (0 ≤ l ∧ l < C) ∧ ∃ x : LKT, (cin l.toNat).toInt = (x.1 : Int) ∧ (cli l.toNat).toInt = (x.2 : Int) ∧ x ∈ f.2.2.2.2.1 ∧ (ALQ m s.1 s.2.2 f.1 f.2.2.1 x → FAL m s.1 s.2.2 f.1 f.2.2.1 f.2.2.2.2.1 (some x)) ∧ (¬ ALQ m s.1 s.2.2 f.1 f.2.2.1 x → LAW m s f cin cli cah clo C (cah l.toNat).toInt) := by
  obtain ⟨ys, y1, y2, y3⟩ := h
  obtain ⟨x, zs, e, h1, h2, h3, h4⟩ := chl_at y1 hl
  subst e
  exact ⟨h1, x, h2, h3, y2 x List.mem_cons_self, fun w => y3 _ (cif_y w rfl), fun w => ⟨zs, h4, fun y hy => y2 y (List.mem_cons_of_mem _ hy), fun r hr => y3 r (cif_n w hr)⟩⟩
/-! a reduction -/
def RDLW (m : PRM) (c0 : CFT) (f : FRT) (fs : List FRT) (s : BNT) (K : List CHT) (cin cli cah clo : Nat → Int32) (C l : Int) (n : CTT) : Prop := ∃ ys : List LKT, CHL cin cli cah clo C l ys ∧ (∀ x : LKT, x ∈ ys → x ∈ f.2.2.2.1) ∧ WBK m c0 f fs s K ys 0 n
theorem rlw_zero (h : CHL cin cli cah clo C l f.2.2.2.1) (k : WBK m c0 f fs s K f.2.2.2.1 0 n) : RDLW m c0 f fs s K cin cli cah clo C l n := ⟨_, h, fun _ h => h, k⟩
theorem rlw_none (h : RDLW m c0 f fs s K cin cli cah clo C l n) (e : l = -1) : WBK m c0 f fs s K [] 0 n := by
  subst e
  obtain ⟨ys, y1, _, y3⟩ := h
  have e := chl_nil y1
  subst e
  exact y3
theorem rlw_at (h : RDLW m c0 f fs s K cin cli cah clo C l n) (hl : ¬ l = -1) : (0 ≤ l ∧ l < C) ∧ ∃ (x : LKT) (ys : List LKT), (cin l.toNat).toInt = (x.1 : Int) ∧ (cli l.toNat).toInt = (x.2 : Int) ∧ x ∈ f.2.2.2.1 ∧ (∀ y : LKT, y ∈ ys → y ∈ f.2.2.2.1) ∧ CHL cin cli cah clo C (cah l.toNat).toInt ys ∧ WBK m c0 f fs s K (x :: ys) 0 n := by
  obtain ⟨ys, y1, y2, y3⟩ := h
  obtain ⟨x, zs, e, h1, h2, h3, h4⟩ := chl_at y1 hl
  subst e
  exact ⟨h1, x, zs, h2, h3, y2 x List.mem_cons_self, fun y hy => y2 y (List.mem_cons_of_mem _ hy), h4, y3⟩
theorem rdc_agr {b : Nat → Int} {c c' : Nat → Nat} {i k : Nat} {x : LKT} (hi : c' i = c i) (hx : c' x.1 = c x.1) : RDC m b c' i k x ↔ RDC m b c i k x := by
  unfold RDC lqp
  rw [hi, hx]
/-- what reduces tells of the ways that are left -/
theorem rdw_no {b b' : Nat → Int} {c : Nat → Nat} {i k : Nat} {x : LKT} {ys : List LKT} {t0 t1 o0 o1 rf r : Int} {tr tr' : Nat → Int32} (h : RDW m b b' c i k x T T1 tr tr' t0 t1 o0 o1 rf r) (hr : r = 0) (ho : o1 = 0) (hw : WBK m c0 f fs s K (x :: ys) 0 n) (hn : n.1 = t0) (hb : b = s.1) (hf : i = f.1) (hk : k = f.2.2.1) (ci : c f.1 = s.2.2 f.1) (cx : c x.1 = s.2.2 x.1) : WBK m c0 f fs s K ys 0 (t1, n.2) ∧ SMB b b' T T1 tr tr' := by
  subst hb; subst hf; subst hk
  have ag : RDC m s.1 c f.1 f.2.2.1 x ↔ RDC m s.1 s.2.2 f.1 f.2.2.1 x := rdc_agr ci cx
  have el : lqp m c f.1 f.2.2.1 = lqp m s.2.2 f.1 f.2.2.1 := by unfold lqp; rw [ci]
  have ex : lqp m c x.1 x.2 = lqp m s.2.2 x.1 x.2 := by unfold lqp; rw [cx]
  have en : ∀ t : Int, t = n.1 → (t, n.2) = n := fun t e => by rw [e]
  rcases h with ⟨a, _⟩ | ⟨_, a, e1, _, e3⟩ | ⟨_, _, _, _, e⟩ | ⟨_, a, e0, e1, _, e2, e3⟩
  · omega
  · refine ⟨?_, e3⟩
    rw [en t1 (by omega)]
    exact wbk_redno hw (fun q => a (ag.mpr q))
  · omega
  · refine ⟨?_, e3⟩
    rw [show t1 = n.1 + 1 by omega]
    have o := e2 s.1
    rw [el, ex] at o
    exact wbk_red0 hw (ag.mp a) (by omega) o
theorem rdw_over {b b' : Nat → Int} {c : Nat → Nat} {i k : Nat} {x : LKT} {ys : List LKT} {t0 t1 o0 o1 rf r : Int} {tr tr' : Nat → Int32} (h : RDW m b b' c i k x T T1 tr tr' t0 t1 o0 o1 rf r) (hr : r = 0) (ho : ¬ o1 = 0) (h0 : o0 = 0) (hw : WBK m c0 f fs s K (x :: ys) 0 n) (hn : n.1 = t0) (hb : b = s.1) (hf : i = f.1) (hk : k = f.2.2.1) (ci : c f.1 = s.2.2 f.1) (cx : c x.1 = s.2.2 x.1) : RUN m c0 (DNc (-2) [] zB (t1, n.2)) ∧ o1 = 1 := by
  subst hb; subst hf; subst hk
  have ag : RDC m s.1 c f.1 f.2.2.1 x ↔ RDC m s.1 s.2.2 f.1 f.2.2.1 x := rdc_agr ci cx
  have en : ∀ t : Int, t = n.1 → (t, n.2) = n := fun t e => by rw [e]
  rcases h with ⟨a, _⟩ | ⟨_, _, _, e, _⟩ | ⟨_, a, e1, e2, e3⟩ | ⟨_, _, _, _, e, _⟩
  · omega
  · omega
  · rw [en t1 (by omega)]
    exact ⟨wbk_redov hw (ag.mp a) (by omega), e3⟩
  · omega
theorem rdw_yes {b b' : Nat → Int} {c : Nat → Nat} {i k : Nat} {x : LKT} {ys : List LKT} {t0 t1 o0 o1 rf r : Int} {tr tr' : Nat → Int32} (h : RDW m b b' c i k x T T1 tr tr' t0 t1 o0 o1 rf r) (hr : r = 1) (hw : WBK m c0 f fs s K (x :: ys) 0 n) (hn : n.1 = t0) (hb : b = s.1) (hf : i = f.1) (hk : k = f.2.2.1) (ci : c f.1 = s.2.2 f.1) (cx : c x.1 = s.2.2 x.1) : (∃ lt : Bool, (m.2.2.2.2.2.2.2.1 = true → lt = true) ∧ RUN m c0 (GOc (rsq m f :: fs) ((f :: fs, 2, (x.1 : Int), (x.2 : Int), lt, ys, 0, m.2.2.2.2.2.2.2.2, s) :: K) (b', s.2) (t1, n.2))) ∧ TRW T T1 b b' tr tr' ∧ rf = T ∧ o1 = o0 := by
  subst hb; subst hf; subst hk
  have ag : RDC m s.1 c f.1 f.2.2.1 x ↔ RDC m s.1 s.2.2 f.1 f.2.2.1 x := rdc_agr ci cx
  have el : lqp m c f.1 f.2.2.1 = lqp m s.2.2 f.1 f.2.2.1 := by unfold lqp; rw [ci]
  have ex : lqp m c x.1 x.2 = lqp m s.2.2 x.1 x.2 := by unfold lqp; rw [cx]
  rcases h with ⟨_, a, e0, e1, e2, e3, e4, e5⟩ | ⟨a, _⟩ | ⟨a, _⟩ | ⟨a, _⟩
  · rw [el, ex] at e3
    have := wbk_red1 hw (ag.mp a) (by omega) e3
    rw [show t1 = n.1 + 1 by omega]
    exact ⟨this, e4, e5, e2⟩
  · omega
  · omega
  · omega
/-- the search goes on behind a lemma or a reduction: as closes() takes it -/
theorem gw_cons {t : CHT} {gs : List FRT} {s' : BNT} (h : RUN m c0 (GOc gs (t :: rfk m.2.2.2.2.2.2.2.2 ico IX K) s' n)) (h3 : t.2.1 ≠ 3) (hx : t.2.2.2.2.2.2.2.1 = m.2.2.2.2.2.2.2.2) : RUN m c0 (GOc gs (rfk m.2.2.2.2.2.2.2.2 ico IX (t :: K)) s' n) := by
  rw [rfk_cons]
  have e : decide (t.2.1 ≠ 3) = true := decide_eq_true h3
  rw [e, Bool.true_or, Bool.and_true]
  have e2 : fxk t m.2.2.2.2.2.2.2.2 = t := by
    obtain ⟨a1, a2, a3, a4, a5, a6, a7, a8, a9⟩ := t
    have hx : a8 = m.2.2.2.2.2.2.2.2 := hx
    rw [← hx]; rfl
  rw [e2]; exact h
theorem ksq_push {t : CHT} {F' : Int} {a b c d e g : Int} (h : KSQ sts IX JX F S K) (k : SXN sts sts1 S.toNat a b c d e g) (ht : t.1 = f :: fs) (h3 : t.2.1 ≠ 3) (ea : t.2.1 = a) (eb : (f.1 : Int) = b) (ec : (f.2.2.1 : Int) = c) (ed : t.2.2.1 = d) (ee : t.2.2.2.1 = e) (eg : (f.2.2.2.1.length : Int) = g) (eS : S1 = S + 1) (eF : F' = F) : KSQ sts1 IX JX F' S1 (t :: K) := by
  obtain ⟨h1, h2, h4⟩ := h
  refine ⟨by rw [List.length_cons]; omega, stq_push h2 k (by omega) ht ea eb ec ed ee eg, ?_⟩
  rw [eF]; exact ixj_none h4 h3
theorem ksq_agr {F' S' : Int} (h : KSQ sts IX JX F S K) (k : ∀ i : Nat, i < 6 * S.toNat → sts1 i = sts i) (eF : F' = F) (eS : S' = S) : KSQ sts1 IX JX F' S' K := by
  subst eF; subst eS
  exact ⟨h.1, stq_agr (S := S'.toNat) h.2.1 (by have := h.1; omega) k, h.2.2⟩
/-- the rest of a row -/
theorem rwf_rest {cin' cli' cah' clo' : Nat → Int32} {c : Nat → Nat} {i path lem next then_ : Int} {k rest : Int32} (h : RWF m cin cli cah clo c JX C i left path lem next f) (hx : 0 ≤ left.toInt ∧ left.toInt ≤ 63) (hk : k.toInt = (f.2.2.1 : Int)) (hl : f.2.2.1 < m.2.2.1 (c f.1)) (hn : m.2.2.1 (c f.1) ≤ 6) (er : rest = bitrm left k) (hC : C ≤ C1) (ag : ∀ i : Nat, (i : Int) < C → cin' i = cin i ∧ cli' i = cli i ∧ cah' i = cah i ∧ clo' i = clo i) (ht : CHL cin' cli' cah' clo' C1 then_ (rsq m f).2.2.2.2.1) : RWF m cin' cli' cah' clo' c JX C1 i rest path then_ next (rsq m f) := by
  obtain ⟨h1, h2, h3, h4, h5⟩ := h
  refine ⟨h1, ?_, chl_mono _ _ _ _ h3 hC ag, ht, h5⟩
  rw [er]
  exact lbq_rest h2 hx hk hl hn
end SW
