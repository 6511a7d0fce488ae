/-! the reference's search: what its calls stand for -/
section PL
variable {m : PRM}
/-- no path is longer than told -/
def PLF (a : Int) (fs : List FRT) : Prop := ∀ f : FRT, f ∈ fs → (f.2.2.2.1.length : Int) ≤ a
def PLK (a : Int) (K : List CHT) : Prop := ∀ (i : Nat) (t : CHT), atK K i = some t → PLF a t.1
def PLV : CFT → Prop
  | (0, fs, K, _, n, _) => PLF n.2.1 fs ∧ PLK n.2.1 K
  | (1, _, K, _, n, _) => PLK n.2.1 K
  | (_ + 2, _) => True
theorem plf_mono {a c : Int} {fs : List FRT} (h : PLF a fs) (e : a ≤ c) : PLF c fs := fun f hf => by have := h f hf; omega
theorem plk_mono {a c : Int} {K : List CHT} (h : PLK a K) (e : a ≤ c) : PLK c K := fun i t ht => plf_mono (h i t ht) e
theorem plk_low {a : Int} {K : List CHT} {t : CHT} (h : PLK a (t :: K)) : PLK a K := fun i u hu => h i u (atK_up hu)
theorem plk_top {a : Int} {K : List CHT} {t : CHT} (h : PLK a (t :: K)) : PLF a t.1 := h K.length t atK_top
theorem plk_push {a : Int} {K : List CHT} {t : CHT} (h : PLK a K) (k : PLF a t.1) : PLK a (t :: K) := fun i u hu => by
  by_cases w : i = K.length
  · subst w
    rw [atK_top] at hu
    cases hu
    exact k
  · exact h i u (atK_low hu w)
theorem plk_mkq {a : Int} (md : Int) {K : List CHT} (h : PLK a K) : PLK a (mkq m md K) := fun i t ht => by
  obtain ⟨u, u1, u2, _⟩ := mkq_few (m := m) md K i t ht
  rw [u2]; exact h i u u1
theorem plf_tail {a : Int} {f : FRT} {fs : List FRT} (h : PLF a (f :: fs)) : PLF a fs := fun e he => h e (List.mem_cons_of_mem _ he)
theorem plf_rsq {a : Int} {f : FRT} {fs : List FRT} (h : PLF a (f :: fs)) : PLF a (rsq m f :: fs) := fun e he => by
  rcases List.mem_cons.mp he with q | q
  · subst q; exact h f List.mem_cons_self
  · exact h e (List.mem_cons_of_mem _ q)
theorem plv_way {t : CHT} {K : List CHT} {n : CTT} {d : CFT} (h : PLK n.2.1 (t :: K)) (k : WAY m t K n d) : PLV d := by
  obtain ⟨r, kd, bi, bl, lt, lk, cd, fx, b0, n0, c0⟩ := t
  have hK := plk_low h
  have ht : PLF n.2.1 r := plk_top h
  cases r with
  | nil => exact False.elim k
  | cons f fs =>
    have up : ∀ (kd bi bl : Int) (lt : Bool) (lk : List LKT) (cd : Nat) (fx : Bool), PLK n.2.1 ((f :: fs, kd, bi, bl, lt, lk, cd, fx, b0, n0, c0) :: K) := fun _ _ _ _ _ _ _ => plk_push hK ht
    rcases k with ⟨_, r, _, k⟩ | ⟨_, k⟩
    · rcases k with ⟨_, k⟩ | ⟨x, _, k⟩
      · subst k; exact up _ _ _ _ _ _ _
      · subst k; exact ⟨plf_rsq ht, up _ _ _ _ _ _ _⟩
    · cases lk with
      | cons x xs =>
        rcases k with ⟨_, k⟩ | ⟨_, k⟩
        · rcases k with ⟨_, k⟩ | ⟨_, k⟩
          · have k : d = _ := k
            subst k; exact True.intro
          · obtain ⟨r, b1, _, k⟩ := k
            rcases k with ⟨_, k⟩ | ⟨_, k⟩
            · subst k; exact ⟨plf_rsq ht, up _ _ _ _ _ _ _⟩
            · subst k; exact up _ _ _ _ _ _ _
        · have k : d = _ := k
          subst k; exact up _ _ _ _ _ _ _
      | nil =>
        rcases k with ⟨_, k⟩ | ⟨_, k⟩
        · rcases k with ⟨_, k⟩ | ⟨_, k⟩
          · rcases k with ⟨_, k⟩ | ⟨_, k⟩
            · have k : d = _ := k
              subst k; exact True.intro
            · rcases k with ⟨_, k⟩ | ⟨_, k⟩
              · obtain ⟨r, b1, _, k⟩ := k
                rcases k with ⟨_, k⟩ | ⟨_, k⟩
                · subst k
                  have lm : n.2.1 ≤ max n.2.1 ((f.2.2.2.1.length : Int) + 1) := by omega
                  refine ⟨fun e he => ?_, plk_mono (up _ _ _ _ _ _ _) lm⟩
                  rcases List.mem_cons.mp he with q | q
                  · subst q
                    show (((f.1, f.2.2.1) :: f.2.2.2.1).length : Int) ≤ max n.2.1 ((f.2.2.2.1.length : Int) + 1)
                    rw [List.length_cons]; omega
                  · have := plf_rsq (m := m) ht e q
                    show (e.2.2.2.1.length : Int) ≤ max n.2.1 ((f.2.2.2.1.length : Int) + 1)
                    omega
                · subst k; exact up _ _ _ _ _ _ _
              · have k : d = _ := k
                subst k; exact up _ _ _ _ _ _ _
          · have k : d = _ := k
            subst k; exact up _ _ _ _ _ _ _
        · have k : d = _ := k
          subst k; exact hK
theorem plv_st {c d : CFT} (h : PLV c) (k : MST m c d) : PLV d := by
  obtain ⟨md, fs, K, s, n, r⟩ := c
  match md with
  | 0 =>
    obtain ⟨h1, h2⟩ := h
    cases fs with
    | nil =>
      have k : d = _ := k
      subst k; exact True.intro
    | cons f fs =>
      rcases k with ⟨_, k⟩ | ⟨_, k⟩
      · have k : d = _ := k
        subst k; exact ⟨plf_tail h1, plk_mkq _ h2⟩
      · rcases k with ⟨_, k⟩ | ⟨_, k⟩
        · have k : d = _ := k
          subst k; exact h2
        · rcases k with ⟨_, k⟩ | ⟨_, k⟩
          · have k : d = _ := k
            subst k; exact plk_push h2 h1
          · have k : d = _ := k
            subst k; exact h2
  | 1 =>
    cases K with
    | nil =>
      have k : d = _ := k
      subst k; exact True.intro
    | cons t K =>
      rcases k with ⟨_, k⟩ | ⟨_, k⟩
      · have k : d = _ := k
        subst k; exact plk_low h
      · exact plv_way h k
  | _ + 2 => exact False.elim k
theorem plv_run {c d : CFT} (h : PLV c) (k : RUN m c d) : PLV d := by
  obtain ⟨n, k⟩ := k
  induction n generalizing c with
  | zero => have q : c = d := k; subst q; exact h
  | succ n ih =>
    obtain ⟨e, k1, k2⟩ := k
    exact ih (plv_st h k1) k2
theorem plv_start {s : BNT} {n : CTT} (h : 0 ≤ n.2.1) : PLV (GOc [(0, -1, 0, [], [], -1)] [] s n) := ⟨fun f hf => by rw [List.mem_singleton.mp hf]; exact h, fun i t ht => by cases ht⟩
end PL
section RF
variable {m : PRM} {c0 : CFT} {f : FRT} {fs : List FRT} {K : List CHT} {s : BNT} {n n' : CTT} {ico ico' : Nat → Int32} {IX IX' : Nat → Nat} {JX JX' : Nat → Int} {res : Bool}
theorem rfk_cons {t : CHT} : rfk res ico IX (t :: K) = fxk t (res && (decide (t.2.1 ≠ 3) || decide ((ico (IX K.length)).toInt = 1))) :: rfk res ico IX K := rfl
theorem rfk_cong3 : ∀ K : List CHT, (∀ (i : Nat) (t : CHT), atK K i = some t → t.2.1 = 3 → ((ico' (IX' i)).toInt = 1 ↔ (ico (IX i)).toInt = 1)) → rfk res ico' IX' K = rfk res ico IX K := by
  intro K
  induction K with
  | nil => intro _; rfl
  | cons t K ih =>
    intro h
    rw [rfk_cons, rfk_cons, ih (fun i u hu => h i u (atK_up hu))]
    by_cases w : t.2.1 = 3
    · rw [decide_eq_decide.mpr (h K.length t atK_top w)]
    · simp [w]
theorem rfk_mark3 {md : Nat} (ho : ∀ (i : Nat) (t : CHT), atK K i = some t → t.2.1 = 3 → i ≠ md → ((ico' (IX i)).toInt = 1 ↔ (ico (IX i)).toInt = 1)) (hs : (ico' (IX md)).toInt = 1) (hl : md < K.length) (hf : m.2.2.2.2.2.2.2.2 = true → ∀ (i : Nat) (u : CHT), atK (rfk m.2.2.2.2.2.2.2.2 ico IX K) i = some u → md < i → u.2.2.2.2.2.2.2.1 = true) : mkq m (md : Int) (rfk m.2.2.2.2.2.2.2.2 ico IX K) = rfk m.2.2.2.2.2.2.2.2 ico' IX K := by
  have e1 : rfk m.2.2.2.2.2.2.2.2 ico IX K = rfk m.2.2.2.2.2.2.2.2 (fun i => ico (IX i)) (fun i => i) K := rfk_cong3 K (fun _ _ _ _ => Iff.rfl)
  have e2 : rfk m.2.2.2.2.2.2.2.2 ico' IX K = rfk m.2.2.2.2.2.2.2.2 (fun i => if i = md then ico' (IX md) else ico (IX i)) (fun i => i) K := rfk_cong3 K (fun i t ht h3 => by
    show (ico' (IX i)).toInt = 1 ↔ (if i = md then ico' (IX md) else ico (IX i)).toInt = 1
    by_cases w : i = md
    · rw [if_pos w, w]
    · rw [if_neg w]; exact ho i t ht h3 w)
  rw [e1, e2]
  rw [e1] at hf
  exact rfk_mark (fun i hi => by show (if i = md then ico' (IX md) else ico (IX i)).toInt = _; rw [if_neg hi]) (by show (if md = md then ico' (IX md) else ico (IX md)).toInt = 1; rw [if_pos rfl]; exact hs) K hl hf
/-- the frames there are, and the choices that made them -/
def IXJ (IX : Nat → Nat) (JX : Nat → Int) (F : Int) (K : List CHT) : Prop := (∀ (i : Nat) (t : CHT), atK K i = some t → t.2.1 = 3 → (IX i : Int) < F ∧ JX (IX i) = (i : Int)) ∧ ∀ g : Nat, (g : Int) < F → 0 ≤ JX g ∧ ∃ t : CHT, atK K (JX g).toNat = some t ∧ t.2.1 = 3 ∧ IX (JX g).toNat = g
theorem ixj_none {t : CHT} {F : Int} (h : IXJ IX JX F K) (ht : t.2.1 ≠ 3) : IXJ IX JX F (t :: K) := by
  refine ⟨fun i u hu h3 => ?_, fun g hg => ?_⟩
  · by_cases w : i = K.length
    · subst w
      rw [atK_top] at hu
      cases hu
      exact absurd h3 ht
    · exact h.1 i u (atK_low hu w) h3
  · obtain ⟨a, u, b, d, e⟩ := h.2 g hg
    exact ⟨a, u, atK_up b, d, e⟩
theorem ixj_ext {t : CHT} {F F' : Int} {G : Nat} (h : IXJ IX JX F K) (ht : t.2.1 = 3) (hG : (G : Int) = F) (eF : F' = F + 1) : IXJ (fun i => if i = K.length then G else IX i) (fun g => if g = G then (K.length : Int) else JX g) F' (t :: K) := by
  refine ⟨fun i u hu h3 => ?_, fun g hg => ?_⟩
  · by_cases w : i = K.length
    · simp only [w, if_true]
      exact ⟨by omega, trivial⟩
    · obtain ⟨a, b⟩ := h.1 i u (atK_low hu w) h3
      simp only [if_neg w]
      rw [if_neg (by omega)]
      exact ⟨by omega, b⟩
  · by_cases w : g = G
    · simp only [w, if_true]
      refine ⟨by omega, t, ?_, ht, ?_⟩
      · rw [Int.toNat_natCast]; exact atK_top
      · rw [Int.toNat_natCast, if_pos rfl]
    · obtain ⟨a, u, b, d, e⟩ := h.2 g (by omega)
      simp only [if_neg w]
      have l := atK_lt _ _ _ b
      rw [if_neg (by omega)]
      exact ⟨a, u, atK_up b, d, e⟩
theorem ixj_cast {F F' : Int} (h : IXJ IX JX F K) (e : F' = F) : IXJ IX JX F' K := by rw [e]; exact h
/-- bindings, instances, clauses, as they stand -/
def BNW (bto bin cof : Nat → Int32) (I : Int) (s : BNT) : Prop := s.1 = BDW bto bin ∧ (s.2.1 : Int) = I ∧ ∀ i : Nat, i < s.2.1 → (cof i).toInt = (s.2.2 i : Int)
/-- another way of a choice: what is left of the path, and of the candidates -/
def WBK (m : PRM) (c0 : CFT) (f : FRT) (fs : List FRT) (s : BNT) (K : List CHT) (lk : List LKT) (cd : Nat) (n : CTT) : Prop := ∃ (kd bi bl : Int) (lt : Bool), (m.2.2.2.2.2.2.2.1 = true → lt = true) ∧ RUN m c0 (BKc ((f :: fs, kd, bi, bl, lt, lk, cd, false, s) :: K) n)
variable {lk xs : List LKT} {x : LKT} {cd : Nat} {b1 : Nat → Int}
theorem wbk_free (h : RUN m c0 (BKc (newt f fs s :: K) n)) (hl : ¬ m.2.2.2.2.2.2.2.1 = true) : WBK m c0 f fs s K f.2.2.2.1 0 n := ⟨0, 0, 0, false, fun e => absurd e hl, h⟩
theorem wbk_lem0 (h : RUN m c0 (BKc (newt f fs s :: K) n)) (hl : m.2.2.2.2.2.2.2.1 = true) (k : FAL m s.1 s.2.2 f.1 f.2.2.1 f.2.2.2.2.1 none) : WBK m c0 f fs s K f.2.2.2.1 0 n := by
  obtain ⟨b, i, c⟩ := s
  exact ⟨0, 0, 0, true, fun _ => rfl, run_st h (mst_lem0 hl k)⟩
theorem wbk_lem1 (h : RUN m c0 (BKc (newt f fs s :: K) n)) (hl : m.2.2.2.2.2.2.2.1 = true) (k : FAL m s.1 s.2.2 f.1 f.2.2.1 f.2.2.2.2.1 (some x)) : RUN m c0 (GOc (rsq m f :: fs) ((f :: fs, 1, (x.1 : Int), (x.2 : Int), true, f.2.2.2.1, 0, m.2.2.2.2.2.2.2.2, s) :: K) s n) := by
  obtain ⟨b, i, c⟩ := s
  exact run_st h (mst_lem1 hl k)
/-- a choice by a lemma or a reduction that led to nothing -/
theorem wbk_back {kd bi bl : Int} {lt fx : Bool} (h : RUN m c0 (BKc (rfk m.2.2.2.2.2.2.2.2 ico IX ((f :: fs, kd, bi, bl, lt, lk, cd, fx, s) :: K)) n)) (h3 : kd ≠ 3) (hl : m.2.2.2.2.2.2.2.1 = true → lt = true) : (m.2.2.2.2.2.2.2.2 = true → RUN m c0 (BKc (rfk m.2.2.2.2.2.2.2.2 ico IX K) n)) ∧ (¬ m.2.2.2.2.2.2.2.2 = true → WBK m c0 f fs s (rfk m.2.2.2.2.2.2.2.2 ico IX K) lk cd n) := by
  rw [rfk_cons] at h
  have e : decide (((f :: fs, kd, bi, bl, lt, lk, cd, fx, s) : CHT).2.1 ≠ 3) = true := decide_eq_true h3
  rw [e, Bool.true_or, Bool.and_true] at h
  refine ⟨fun w => run_st h (mst_fixed w), fun w => ⟨kd, bi, bl, lt, hl, ?_⟩⟩
  have w : m.2.2.2.2.2.2.2.2 = false := by
    cases q : m.2.2.2.2.2.2.2.2 with
    | false => rfl
    | true => exact absurd q w
  have h4 : RUN m c0 (BKc ((f :: fs, kd, bi, bl, lt, lk, cd, m.2.2.2.2.2.2.2.2, s) :: rfk m.2.2.2.2.2.2.2.2 ico IX K) n) := h
  rw [w] at h4 ⊢
  exact h4
/-- an extension that led to nothing -/
theorem wbk_back3 {bi bl : Int} {lt fx : Bool} {v : Int} (h : RUN m c0 (BKc (rfk m.2.2.2.2.2.2.2.2 ico IX' ((f :: fs, 3, bi, bl, lt, lk, cd, fx, s) :: K)) n)) (hc : rfk m.2.2.2.2.2.2.2.2 ico IX' K = rfk m.2.2.2.2.2.2.2.2 ico IX K) (hv : (ico (IX' K.length)).toInt = v) (hl : m.2.2.2.2.2.2.2.1 = true → lt = true) : (m.2.2.2.2.2.2.2.2 = true ∧ v = 1 → RUN m c0 (BKc (rfk m.2.2.2.2.2.2.2.2 ico IX K) n)) ∧ (¬ (m.2.2.2.2.2.2.2.2 = true ∧ v = 1) → WBK m c0 f fs s (rfk m.2.2.2.2.2.2.2.2 ico IX K) lk cd n) := by
  rw [rfk_cons, hc] at h
  have e : decide (((f :: fs, 3, bi, bl, lt, lk, cd, fx, s) : CHT).2.1 ≠ 3) = false := decide_eq_false (fun q => q rfl)
  rw [e, Bool.false_or, hv] at h
  have h4 : RUN m c0 (BKc ((f :: fs, 3, bi, bl, lt, lk, cd, m.2.2.2.2.2.2.2.2 && decide (v = 1), s) :: rfk m.2.2.2.2.2.2.2.2 ico IX K) n) := h
  refine ⟨fun ⟨w1, w2⟩ => run_st h4 (mst_fixed (by show (m.2.2.2.2.2.2.2.2 && decide (v = 1)) = true; rw [w1, decide_eq_true w2]; rfl)), fun w => ⟨3, bi, bl, lt, hl, ?_⟩⟩
  have z : (m.2.2.2.2.2.2.2.2 && decide (v = 1)) = false := by
    by_cases q : m.2.2.2.2.2.2.2.2 = true
    · rw [q, Bool.true_and]
      exact decide_eq_false (fun e => w ⟨q, e⟩)
    · have q : m.2.2.2.2.2.2.2.2 = false := by
        cases q2 : m.2.2.2.2.2.2.2.2 with
        | false => rfl
        | true => exact absurd q2 q
      rw [q]; rfl
  rw [z] at h4
  exact h4
theorem wbk_redno (h : WBK m c0 f fs s K (x :: xs) cd n) (hn : ¬ (OPQ m (s.2.2 f.1) f.2.2.1 (lqp m s.2.2 f.1 f.2.2.1) (s.2.2 x.1) x.2 (lqp m s.2.2 x.1 x.2) ∧ SML m s.1 (lqp m s.2.2 x.1 x.2))) : WBK m c0 f fs s K xs cd n := by
  obtain ⟨b, i, c⟩ := s
  obtain ⟨kd, bi, bl, lt, hl, h⟩ := h
  exact ⟨kd, bi, bl, lt, hl, run_st h (mst_redno hl hn)⟩
theorem wbk_redov (h : WBK m c0 f fs s K (x :: xs) cd n) (hn : OPQ m (s.2.2 f.1) f.2.2.1 (lqp m s.2.2 f.1 f.2.2.1) (s.2.2 x.1) x.2 (lqp m s.2.2 x.1 x.2) ∧ SML m s.1 (lqp m s.2.2 x.1 x.2)) (ht : n.1 = 1000) : RUN m c0 (DNc (-2) [] zB n) := by
  obtain ⟨b, i, c⟩ := s
  obtain ⟨kd, bi, bl, lt, hl, h⟩ := h
  exact run_st h (mst_redov hl hn ht)
theorem wbk_red0 (h : WBK m c0 f fs s K (x :: xs) cd n) (hn : OPQ m (s.2.2 f.1) f.2.2.1 (lqp m s.2.2 f.1 f.2.2.1) (s.2.2 x.1) x.2 (lqp m s.2.2 x.1 x.2) ∧ SML m s.1 (lqp m s.2.2 x.1 x.2)) (ht : ¬ n.1 = 1000) (ho : OUT m.1 s.1 [(lqp m s.2.2 f.1 f.2.2.1, lqp m s.2.2 x.1 x.2)] false b1) : WBK m c0 f fs s K xs cd (n.1 + 1, n.2) := by
  obtain ⟨b, i, c⟩ := s
  obtain ⟨kd, bi, bl, lt, hl, h⟩ := h
  exact ⟨kd, bi, bl, lt, hl, run_st h (mst_red0 hl hn ht ho)⟩
theorem wbk_red1 (h : WBK m c0 f fs s K (x :: xs) cd n) (hn : OPQ m (s.2.2 f.1) f.2.2.1 (lqp m s.2.2 f.1 f.2.2.1) (s.2.2 x.1) x.2 (lqp m s.2.2 x.1 x.2) ∧ SML m s.1 (lqp m s.2.2 x.1 x.2)) (ht : ¬ n.1 = 1000) (ho : OUT m.1 s.1 [(lqp m s.2.2 f.1 f.2.2.1, lqp m s.2.2 x.1 x.2)] true b1) : ∃ lt : Bool, (m.2.2.2.2.2.2.2.1 = true → lt = true) ∧ RUN m c0 (GOc (rsq m f :: fs) ((f :: fs, 2, (x.1 : Int), (x.2 : Int), lt, xs, cd, m.2.2.2.2.2.2.2.2, s) :: K) (b1, s.2) (n.1 + 1, n.2)) := by
  obtain ⟨b, i, c⟩ := s
  obtain ⟨kd, bi, bl, lt, hl, h⟩ := h
  exact ⟨lt, hl, run_st h (mst_red1 hl hn ht ho)⟩
theorem wbk_out (h : WBK m c0 f fs s K [] cd n) (hn : ¬ ((f.2.2.2.1.length : Int) < m.2.2.2.2.2.1 ∧ cd < 6 * m.2.2.2.2.1)) : RUN m c0 (BKc K n) := by
  obtain ⟨b, i, c⟩ := s
  obtain ⟨kd, bi, bl, lt, hl, h⟩ := h
  exact run_st h (mst_out hl hn)
end RF
