/-! the search, step by step: what both sides do -/
abbrev LKT : Type := Nat × Nat
/-- a row: instance, the literal that closed another one, the first that is left, path, lemmas, the choice that made it -/
abbrev FRT : Type := Nat × Int × Nat × List LKT × List LKT × Int
/-- a choice: its rows, kind, by which, lemma tried, what is left of the path, candidates, no other way; bindings, instances, clauses as it began -/
abbrev CHT : Type := List FRT × Int × Int × Int × Bool × List LKT × Nat × Bool × (Nat → Int) × Nat × (Nat → Nat)
abbrev BNT : Type := (Nat → Int) × Nat × (Nat → Nat)
/-- tries, longest, cuts, extensions -/
abbrev CTT : Type := Int × Int × Int32 × Int32
abbrev CFT : Type := Nat × List FRT × List CHT × BNT × CTT × Int
/-- places and what is there, a literal's place, literals, signs, clauses, depth, options -/
abbrev PRM : Type := GVT × (Nat → Nat → Nat → Nat) × (Nat → Nat) × (Nat → Nat → Bool) × Nat × Int × Bool × Bool × Bool
def zB : BNT := (fun _ => -1, 0, fun _ => 0)
def GOc (fs : List FRT) (K : List CHT) (s : BNT) (n : CTT) : CFT := (0, fs, K, s, n, 0)
def BKc (K : List CHT) (n : CTT) : CFT := (1, [], K, zB, n, 0)
def DNc (r : Int) (K : List CHT) (s : BNT) (n : CTT) : CFT := (2, [], K, s, n, r)
def cif (p A B : Prop) : Prop := (p ∧ A) ∨ (¬ p ∧ B)
theorem cif_y {p A B : Prop} (h : p) (a : A) : cif p A B := Or.inl ⟨h, a⟩
theorem cif_n {p A B : Prop} (h : ¬ p) (b : B) : cif p A B := Or.inr ⟨h, b⟩
theorem cif_two {p p' A A' B B' Q : Prop} (e : p ↔ p') (h : cif p A B) (h' : cif p' A' B') (y : p → p' → A → A' → Q) (n : ¬ p → ¬ p' → B → B' → Q) : Q := by
  rcases h with ⟨h, a⟩ | ⟨h, a⟩
  · rcases h' with ⟨h', a'⟩ | ⟨h', a'⟩
    · exact y h h' a a'
    · exact absurd (e.mp h) h'
  · rcases h' with ⟨h', a'⟩ | ⟨h', a'⟩
    · exact absurd (e.mpr h') h
    · exact n h h' a a'
/-- the terms of a place, one behind the other -/
def klq (g : GVT) (a : Nat) : Nat → Nat → List Nat
  | 0, _ => []
  | r + 1, k => g.2.2.2.2 a k :: klq g a r (k + 1)
def kdq (g : GVT) (a : Nat) : List Nat := if 0 ≤ g.1 a then [] else klq g a (g.2.2.2.1 a).toNat 0
/-- places of so many parts at most, all that is bound put in -/
def SMn (g : GVT) (b : Nat → Int) : Nat → List Nat → Prop
  | _, [] => True
  | 0, _ :: _ => False
  | n + 1, p :: ps => ∃ a : Nat, BRE g b p a ∧ SMn g b n (kdq g a ++ ps)
section MM0
variable (m : PRM)
def lqp (c : Nat → Nat) (i k : Nat) : Nat := m.2.1 i (c i) k
def lqn (c : Nat → Nat) (i : Nat) : Nat := m.2.2.1 (c i)
def lqs (c : Nat → Nat) (i k : Nat) : Bool := m.2.2.2.1 (c i) k
def SML (b : Nat → Int) (p : Nat) : Prop := SMn m.1 b 40 [p]
/-- one is alike the other, the sign too -/
def ALQ (b : Nat → Int) (c : Nat → Nat) (i k : Nat) (x : LKT) : Prop := lqs m c x.1 x.2 = lqs m c i k ∧ ALK m.1 b (lqp m c i k) (lqp m c x.1 x.2)
def FAL (b : Nat → Int) (c : Nat → Nat) (i k : Nat) : List LKT → Option LKT → Prop
  | [], r => r = none
  | x :: xs, r => cif (ALQ m b c i k x) (r = some x) (FAL b c i k xs r)
def RPQ (b : Nat → Int) (c : Nat → Nat) (f : FRT) : Prop := ∃ k : Nat, f.2.2.1 ≤ k ∧ (k : Int) ≠ f.2.1 ∧ k < lqn m c f.1 ∧ SML m b (lqp m c f.1 k) ∧ ∃ x : LKT, x ∈ f.2.2.2.1 ∧ ALQ m b c f.1 k x
def OPQ (c k p d l q : Nat) : Prop := m.2.2.2.1 c k ≠ m.2.2.2.1 d l ∧ m.1.2.2.1 p = m.1.2.2.1 q ∧ m.1.2.2.2.1 p = m.1.2.2.2.1 q
def nxq (k : Nat) (wo : Int) : Nat := if (k : Int) = wo then k + 1 else k
def rsq (f : FRT) : FRT := (f.1, f.2.1, nxq (f.2.2.1 + 1) f.2.1, f.2.2.2.1, if m.2.2.2.2.2.2.2.1 = true then (f.1, f.2.2.1) :: f.2.2.2.2.1 else f.2.2.2.2.1, f.2.2.2.2.2)
def exq (f : FRT) (i k : Nat) (md : Int) : FRT := (i, (k : Int), nxq 0 (k : Int), (f.1, f.2.2.1) :: f.2.2.2.1, f.2.2.2.2.1, md)
def fxq (t : CHT) : CHT := (t.1, t.2.1, t.2.2.1, t.2.2.2.1, t.2.2.2.2.1, t.2.2.2.2.2.1, t.2.2.2.2.2.2.1, true, t.2.2.2.2.2.2.2.2)
/-- no other way of the choices from that one on -/
def mkF (md : Int) : List CHT → List CHT
  | [] => []
  | t :: K => if md ≤ (K.length : Int) then fxq t :: mkF md K else t :: K
def mkq (md : Int) (K : List CHT) : List CHT := if m.2.2.2.2.2.2.2.2 = true ∧ md ≠ -1 then mkF md K else K
def upc (c : Nat → Nat) (i v : Nat) : Nat → Nat := fun j => if j = i then v else c j
def newt (f : FRT) (fs : List FRT) (s : BNT) : CHT := (f :: fs, 0, 0, 0, false, f.2.2.2.1, 0, false, s)
/-- the ways of a choice -/
def WAY : CHT → List CHT → CTT → CFT → Prop
  | ([], _), _, _, _ => False
  | (f :: fs, kd, bi, bl, lt, lk, cd, fx, b0, n0, c0), K, n, d =>
    cif (m.2.2.2.2.2.2.2.1 = true ∧ lt = false)
      (∃ r : Option LKT, FAL m b0 c0 f.1 f.2.2.1 f.2.2.2.2.1 r ∧ ((r = none ∧ d = BKc ((f :: fs, kd, bi, bl, true, lk, cd, fx, b0, n0, c0) :: K) n) ∨ ∃ x : LKT, r = some x ∧ d = GOc (rsq m f :: fs) ((f :: fs, 1, (x.1 : Int), (x.2 : Int), true, lk, cd, m.2.2.2.2.2.2.2.2, b0, n0, c0) :: K) (b0, n0, c0) n))
      (match lk with
        | x :: xs => cif (OPQ m (c0 f.1) f.2.2.1 (lqp m c0 f.1 f.2.2.1) (c0 x.1) x.2 (lqp m c0 x.1 x.2) ∧ SML m b0 (lqp m c0 x.1 x.2))
            (cif (n.1 = 1000) (d = DNc (-2) [] zB n)
              (∃ (r : Bool) (b1 : Nat → Int), OUT m.1 b0 [(lqp m c0 f.1 f.2.2.1, lqp m c0 x.1 x.2)] r b1 ∧ ((r = true ∧ d = GOc (rsq m f :: fs) ((f :: fs, 2, (x.1 : Int), (x.2 : Int), lt, xs, cd, m.2.2.2.2.2.2.2.2, b0, n0, c0) :: K) (b1, n0, c0) (n.1 + 1, n.2)) ∨ (r = false ∧ d = BKc ((f :: fs, kd, bi, bl, lt, xs, cd, fx, b0, n0, c0) :: K) (n.1 + 1, n.2)))))
            (d = BKc ((f :: fs, kd, bi, bl, lt, xs, cd, fx, b0, n0, c0) :: K) n)
        | [] => cif ((f.2.2.2.1.length : Int) < m.2.2.2.2.2.1 ∧ cd < 6 * m.2.2.2.2.1)
            (cif (cd % 6 < m.2.2.1 (cd / 6) ∧ OPQ m (c0 f.1) f.2.2.1 (lqp m c0 f.1 f.2.2.1) (cd / 6) (cd % 6) (m.2.1 n0 (cd / 6) (cd % 6)))
              (cif (n.1 = 1000) (d = DNc (-2) [] zB n)
                (cif (n0 < 30)
                  (∃ (r : Bool) (b1 : Nat → Int), OUT m.1 b0 [(lqp m c0 f.1 f.2.2.1, m.2.1 n0 (cd / 6) (cd % 6))] r b1 ∧ ((r = true ∧ d = GOc (exq f n0 (cd % 6) (K.length : Int) :: rsq m f :: fs) ((f :: fs, 3, (n0 : Int), ((cd % 6 : Nat) : Int), lt, [], cd + 1, false, b0, n0, c0) :: K) (b1, n0 + 1, upc c0 n0 (cd / 6)) (n.1 + 1, max n.2.1 ((f.2.2.2.1.length : Int) + 1), n.2.2.1, n.2.2.2 + 1)) ∨ (r = false ∧ d = BKc ((f :: fs, kd, bi, bl, lt, [], cd + 1, fx, b0, n0, c0) :: K) (n.1 + 1, n.2))))
                  (d = BKc ((f :: fs, kd, bi, bl, lt, [], cd + 1, fx, b0, n0, c0) :: K) (n.1 + 1, n.2))))
              (d = BKc ((f :: fs, kd, bi, bl, lt, [], cd + 1, fx, b0, n0, c0) :: K) n))
            (d = BKc K n))
def MST : CFT → CFT → Prop
  | (0, [], K, s, n, _), d => d = DNc 1 K s n
  | (0, f :: fs, K, s, n, _), d => cif (lqn m s.2.2 f.1 ≤ f.2.2.1) (d = GOc fs (mkq m f.2.2.2.2.2 K) s n)
      (cif (m.2.2.2.2.2.2.1 = true ∧ RPQ m s.1 s.2.2 f) (d = BKc K (n.1, n.2.1, n.2.2.1 + 1, n.2.2.2))
        (cif (SML m s.1 (lqp m s.2.2 f.1 f.2.2.1)) (d = BKc (newt f fs s :: K) n) (d = BKc K n)))
  | (1, _, [], _, n, _), d => d = DNc 0 [] zB n
  | (1, _, t :: K, _, n, _), d => cif (t.2.2.2.2.2.2.2.1 = true) (d = BKc K n) (WAY m t K n d)
  | (_ + 2, _), _ => False
def RNn : Nat → CFT → CFT → Prop
  | 0, c, d => c = d
  | n + 1, c, d => ∃ e : CFT, MST m c e ∧ RNn n e d
def RUN (c d : CFT) : Prop := ∃ n : Nat, RNn m n c d
end MM0
section MM1
variable {m : PRM}
theorem run_rf {c : CFT} : RUN m c c := ⟨0, rfl⟩
theorem rnn_tr : ∀ (n k : Nat) (c d e : CFT), RNn m n c d → RNn m k d e → RNn m (n + k) c e := by
  intro n
  induction n with
  | zero => intro k c d e h h2; have q : c = d := h; subst q; rw [Nat.zero_add]; exact h2
  | succ n ih =>
    intro k c d e h h2
    obtain ⟨x, h3, h4⟩ := h
    rw [show n + 1 + k = (n + k) + 1 by omega]
    exact ⟨x, h3, ih k x d e h4 h2⟩
theorem run_tr {c d e : CFT} (h : RUN m c d) (k : RUN m d e) : RUN m c e := by
  obtain ⟨n, h⟩ := h
  obtain ⟨j, k⟩ := k
  exact ⟨n + j, rnn_tr n j c d e h k⟩
theorem run_st {c d e : CFT} (h : RUN m c d) (k : MST m d e) : RUN m c e := run_tr h ⟨1, e, k, rfl⟩
/-! sizes -/
theorem smn_nil {g : GVT} {b : Nat → Int} {n : Nat} : SMn g b n [] := by
  cases n <;> exact True.intro
theorem smn_c {g : GVT} {b : Nat → Int} {n p : Nat} {ps : List Nat} : SMn g b (n + 1) (p :: ps) = ∃ a : Nat, BRE g b p a ∧ SMn g b n (kdq g a ++ ps) := rfl
theorem smn_mono {g : GVT} {b : Nat → Int} : ∀ (n k : Nat) (ps : List Nat), n ≤ k → SMn g b n ps → SMn g b k ps := by
  intro n
  induction n with
  | zero =>
    intro k ps _ h
    cases ps with
    | nil => exact smn_nil
    | cons p ps => exact False.elim h
  | succ n ih =>
    intro k ps hk h
    cases ps with
    | nil => exact smn_nil
    | cons p ps =>
      obtain ⟨k, rfl⟩ : ∃ j : Nat, k = j + 1 := ⟨k - 1, by omega⟩
      obtain ⟨a, h1, h2⟩ := h
      exact ⟨a, h1, ih k _ (by omega) h2⟩
theorem smn_join {g : GVT} {b : Nat → Int} : ∀ (n k : Nat) (ps qs : List Nat), SMn g b n ps → SMn g b k qs → SMn g b (n + k) (ps ++ qs) := by
  intro n
  induction n with
  | zero =>
    intro k ps qs h h2
    cases ps with
    | nil => rw [Nat.zero_add]; exact h2
    | cons p ps => exact False.elim h
  | succ n ih =>
    intro k ps qs h h2
    cases ps with
    | nil => exact smn_mono k _ _ (by omega) h2
    | cons p ps =>
      obtain ⟨a, h3, h4⟩ := h
      rw [show n + 1 + k = (n + k) + 1 by omega]
      refine ⟨a, h3, ?_⟩
      show SMn g b (n + k) (kdq g a ++ (ps ++ qs))
      rw [← List.append_assoc]
      exact ih k _ qs h4 h2
theorem smn_part {g : GVT} {b : Nat → Int} : ∀ (n : Nat) (ps qs : List Nat), SMn g b n (ps ++ qs) → ∃ j k : Nat, j + k ≤ n ∧ SMn g b j ps ∧ SMn g b k qs := by
  intro n
  induction n with
  | zero =>
    intro ps qs h
    cases ps with
    | nil => exact ⟨0, 0, Nat.le_refl _, smn_nil, h⟩
    | cons p ps => exact False.elim h
  | succ n ih =>
    intro ps qs h
    cases ps with
    | nil => exact ⟨0, n + 1, by omega, smn_nil, h⟩
    | cons p ps =>
      obtain ⟨a, h3, h4⟩ := h
      have h4 : SMn g b n (kdq g a ++ (ps ++ qs)) := h4
      rw [← List.append_assoc] at h4
      obtain ⟨j, k, e, h5, h6⟩ := ih _ qs h4
      exact ⟨j + 1, k, by omega, ⟨a, h3, h5⟩, h6⟩
theorem smn_swap {g : GVT} {b : Nat → Int} {n : Nat} {ps qs : List Nat} (h : SMn g b n (ps ++ qs)) : SMn g b n (qs ++ ps) := by
  obtain ⟨j, k, e, h1, h2⟩ := smn_part n ps qs h
  exact smn_mono (k + j) n _ (by omega) (smn_join k j qs ps h2 h1)
theorem smn_perm {g : GVT} {b : Nat → Int} {ps qs : List Nat} (h : ps.Perm qs) : ∀ n : Nat, SMn g b n ps → SMn g b n qs := by
  induction h with
  | nil => intro n h; exact h
  | cons x _ ih =>
    intro n h
    obtain ⟨j, k, e, h1, h2⟩ := smn_part n [x] _ h
    exact smn_mono (j + k) n _ e (smn_join j k [x] _ h1 (ih k h2))
  | swap x y l =>
    intro n h
    obtain ⟨j, k, e, h1, h2⟩ := smn_part n [y, x] l h
    exact smn_mono (j + k) n _ e (smn_join j k [x, y] l (smn_swap (ps := [y]) (qs := [x]) h1) h2)
  | trans _ _ ih1 ih2 => intro n h; exact ih2 n (ih1 n h)
/-! the steps, one by one -/
variable {f : FRT} {fs : List FRT} {K : List CHT} {s : BNT} {n : CTT} {kd bi bl : Int} {lt fx : Bool} {lk xs : List LKT} {cd n0 : Nat} {b0 b1 : Nat → Int} {c0 : Nat → Nat} {x : LKT}
theorem mst_done : MST m (GOc [] K s n) (DNc 1 K s n) := rfl
theorem mst_pop (h : lqn m s.2.2 f.1 ≤ f.2.2.1) : MST m (GOc (f :: fs) K s n) (GOc fs (mkq m f.2.2.2.2.2 K) s n) := cif_y h rfl
theorem mst_cut (h : ¬ lqn m s.2.2 f.1 ≤ f.2.2.1) (hr : m.2.2.2.2.2.2.1 = true) (hq : RPQ m s.1 s.2.2 f) : MST m (GOc (f :: fs) K s n) (BKc K (n.1, n.2.1, n.2.2.1 + 1, n.2.2.2)) := cif_n h (cif_y ⟨hr, hq⟩ rfl)
theorem mst_big (h : ¬ lqn m s.2.2 f.1 ≤ f.2.2.1) (hr : ¬ (m.2.2.2.2.2.2.1 = true ∧ RPQ m s.1 s.2.2 f)) (hq : ¬ SML m s.1 (lqp m s.2.2 f.1 f.2.2.1)) : MST m (GOc (f :: fs) K s n) (BKc K n) := cif_n h (cif_n hr (cif_n hq rfl))
theorem mst_push (h : ¬ lqn m s.2.2 f.1 ≤ f.2.2.1) (hr : ¬ (m.2.2.2.2.2.2.1 = true ∧ RPQ m s.1 s.2.2 f)) (hq : SML m s.1 (lqp m s.2.2 f.1 f.2.2.1)) : MST m (GOc (f :: fs) K s n) (BKc (newt f fs s :: K) n) := cif_n h (cif_n hr (cif_y hq rfl))
theorem mst_none : MST m (BKc [] n) (DNc 0 [] zB n) := rfl
theorem mst_fixed {t : CHT} (h : t.2.2.2.2.2.2.2.1 = true) : MST m (BKc (t :: K) n) (BKc K n) := cif_y h rfl
theorem mst_lem1 (hl : m.2.2.2.2.2.2.2.1 = true) (h : FAL m b0 c0 f.1 f.2.2.1 f.2.2.2.2.1 (some x)) : MST m (BKc ((f :: fs, kd, bi, bl, false, lk, cd, false, b0, n0, c0) :: K) n) (GOc (rsq m f :: fs) ((f :: fs, 1, (x.1 : Int), (x.2 : Int), true, lk, cd, m.2.2.2.2.2.2.2.2, b0, n0, c0) :: K) (b0, n0, c0) n) := cif_n (fun e => nomatch e) (cif_y ⟨hl, rfl⟩ ⟨_, h, Or.inr ⟨x, rfl, rfl⟩⟩)
theorem mst_lem0 (hl : m.2.2.2.2.2.2.2.1 = true) (h : FAL m b0 c0 f.1 f.2.2.1 f.2.2.2.2.1 none) : MST m (BKc ((f :: fs, kd, bi, bl, false, lk, cd, false, b0, n0, c0) :: K) n) (BKc ((f :: fs, kd, bi, bl, true, lk, cd, false, b0, n0, c0) :: K) n) := cif_n (fun e => nomatch e) (cif_y ⟨hl, rfl⟩ ⟨_, h, Or.inl ⟨rfl, rfl⟩⟩)
theorem nolem (h : m.2.2.2.2.2.2.2.1 = true → lt = true) : ¬ (m.2.2.2.2.2.2.2.1 = true ∧ lt = false) := fun ⟨a, b⟩ => by
  have e := h a
  rw [e] at b; cases b
theorem mst_redno (hl : m.2.2.2.2.2.2.2.1 = true → lt = true) (h : ¬ (OPQ m (c0 f.1) f.2.2.1 (lqp m c0 f.1 f.2.2.1) (c0 x.1) x.2 (lqp m c0 x.1 x.2) ∧ SML m b0 (lqp m c0 x.1 x.2))) : MST m (BKc ((f :: fs, kd, bi, bl, lt, x :: xs, cd, false, b0, n0, c0) :: K) n) (BKc ((f :: fs, kd, bi, bl, lt, xs, cd, false, b0, n0, c0) :: K) n) := cif_n (fun e => nomatch e) (cif_n (nolem hl) (cif_n h rfl))
theorem mst_redov (hl : m.2.2.2.2.2.2.2.1 = true → lt = true) (h : OPQ m (c0 f.1) f.2.2.1 (lqp m c0 f.1 f.2.2.1) (c0 x.1) x.2 (lqp m c0 x.1 x.2) ∧ SML m b0 (lqp m c0 x.1 x.2)) (ht : n.1 = 1000) : MST m (BKc ((f :: fs, kd, bi, bl, lt, x :: xs, cd, false, b0, n0, c0) :: K) n) (DNc (-2) [] zB n) := cif_n (fun e => nomatch e) (cif_n (nolem hl) (cif_y h (cif_y ht rfl)))
theorem mst_red1 (hl : m.2.2.2.2.2.2.2.1 = true → lt = true) (h : OPQ m (c0 f.1) f.2.2.1 (lqp m c0 f.1 f.2.2.1) (c0 x.1) x.2 (lqp m c0 x.1 x.2) ∧ SML m b0 (lqp m c0 x.1 x.2)) (ht : ¬ n.1 = 1000) (ho : OUT m.1 b0 [(lqp m c0 f.1 f.2.2.1, lqp m c0 x.1 x.2)] true b1) : MST m (BKc ((f :: fs, kd, bi, bl, lt, x :: xs, cd, false, b0, n0, c0) :: K) n) (GOc (rsq m f :: fs) ((f :: fs, 2, (x.1 : Int), (x.2 : Int), lt, xs, cd, m.2.2.2.2.2.2.2.2, b0, n0, c0) :: K) (b1, n0, c0) (n.1 + 1, n.2)) := cif_n (fun e => nomatch e) (cif_n (nolem hl) (cif_y h (cif_n ht ⟨true, b1, ho, Or.inl ⟨rfl, rfl⟩⟩)))
theorem mst_red0 (hl : m.2.2.2.2.2.2.2.1 = true → lt = true) (h : OPQ m (c0 f.1) f.2.2.1 (lqp m c0 f.1 f.2.2.1) (c0 x.1) x.2 (lqp m c0 x.1 x.2) ∧ SML m b0 (lqp m c0 x.1 x.2)) (ht : ¬ n.1 = 1000) (ho : OUT m.1 b0 [(lqp m c0 f.1 f.2.2.1, lqp m c0 x.1 x.2)] false b1) : MST m (BKc ((f :: fs, kd, bi, bl, lt, x :: xs, cd, false, b0, n0, c0) :: K) n) (BKc ((f :: fs, kd, bi, bl, lt, xs, cd, false, b0, n0, c0) :: K) (n.1 + 1, n.2)) := cif_n (fun e => nomatch e) (cif_n (nolem hl) (cif_y h (cif_n ht ⟨false, b1, ho, Or.inr ⟨rfl, rfl⟩⟩)))
/-- no way is left -/
theorem mst_out (hl : m.2.2.2.2.2.2.2.1 = true → lt = true) (h : ¬ ((f.2.2.2.1.length : Int) < m.2.2.2.2.2.1 ∧ cd < 6 * m.2.2.2.2.1)) : MST m (BKc ((f :: fs, kd, bi, bl, lt, [], cd, false, b0, n0, c0) :: K) n) (BKc K n) := cif_n (fun e => nomatch e) (cif_n (nolem hl) (cif_n h rfl))
theorem mst_extno (hl : m.2.2.2.2.2.2.2.1 = true → lt = true) (h : (f.2.2.2.1.length : Int) < m.2.2.2.2.2.1 ∧ cd < 6 * m.2.2.2.2.1) (ho : ¬ (cd % 6 < m.2.2.1 (cd / 6) ∧ OPQ m (c0 f.1) f.2.2.1 (lqp m c0 f.1 f.2.2.1) (cd / 6) (cd % 6) (m.2.1 n0 (cd / 6) (cd % 6)))) : MST m (BKc ((f :: fs, kd, bi, bl, lt, [], cd, false, b0, n0, c0) :: K) n) (BKc ((f :: fs, kd, bi, bl, lt, [], cd + 1, false, b0, n0, c0) :: K) n) := cif_n (fun e => nomatch e) (cif_n (nolem hl) (cif_y h (cif_n ho rfl)))
theorem mst_extov (hl : m.2.2.2.2.2.2.2.1 = true → lt = true) (h : (f.2.2.2.1.length : Int) < m.2.2.2.2.2.1 ∧ cd < 6 * m.2.2.2.2.1) (ho : cd % 6 < m.2.2.1 (cd / 6) ∧ OPQ m (c0 f.1) f.2.2.1 (lqp m c0 f.1 f.2.2.1) (cd / 6) (cd % 6) (m.2.1 n0 (cd / 6) (cd % 6))) (ht : n.1 = 1000) : MST m (BKc ((f :: fs, kd, bi, bl, lt, [], cd, false, b0, n0, c0) :: K) n) (DNc (-2) [] zB n) := cif_n (fun e => nomatch e) (cif_n (nolem hl) (cif_y h (cif_y ho (cif_y ht rfl))))
theorem mst_extfull (hl : m.2.2.2.2.2.2.2.1 = true → lt = true) (h : (f.2.2.2.1.length : Int) < m.2.2.2.2.2.1 ∧ cd < 6 * m.2.2.2.2.1) (ho : cd % 6 < m.2.2.1 (cd / 6) ∧ OPQ m (c0 f.1) f.2.2.1 (lqp m c0 f.1 f.2.2.1) (cd / 6) (cd % 6) (m.2.1 n0 (cd / 6) (cd % 6))) (ht : ¬ n.1 = 1000) (hi : ¬ n0 < 30) : MST m (BKc ((f :: fs, kd, bi, bl, lt, [], cd, false, b0, n0, c0) :: K) n) (BKc ((f :: fs, kd, bi, bl, lt, [], cd + 1, false, b0, n0, c0) :: K) (n.1 + 1, n.2)) := cif_n (fun e => nomatch e) (cif_n (nolem hl) (cif_y h (cif_y ho (cif_n ht (cif_n hi rfl)))))
theorem mst_ext0 (hl : m.2.2.2.2.2.2.2.1 = true → lt = true) (h : (f.2.2.2.1.length : Int) < m.2.2.2.2.2.1 ∧ cd < 6 * m.2.2.2.2.1) (ho : cd % 6 < m.2.2.1 (cd / 6) ∧ OPQ m (c0 f.1) f.2.2.1 (lqp m c0 f.1 f.2.2.1) (cd / 6) (cd % 6) (m.2.1 n0 (cd / 6) (cd % 6))) (ht : ¬ n.1 = 1000) (hi : n0 < 30) (hu : OUT m.1 b0 [(lqp m c0 f.1 f.2.2.1, m.2.1 n0 (cd / 6) (cd % 6))] false b1) : MST m (BKc ((f :: fs, kd, bi, bl, lt, [], cd, false, b0, n0, c0) :: K) n) (BKc ((f :: fs, kd, bi, bl, lt, [], cd + 1, false, b0, n0, c0) :: K) (n.1 + 1, n.2)) := cif_n (fun e => nomatch e) (cif_n (nolem hl) (cif_y h (cif_y ho (cif_n ht (cif_y hi ⟨false, b1, hu, Or.inr ⟨rfl, rfl⟩⟩)))))
theorem mst_ext1 (hl : m.2.2.2.2.2.2.2.1 = true → lt = true) (h : (f.2.2.2.1.length : Int) < m.2.2.2.2.2.1 ∧ cd < 6 * m.2.2.2.2.1) (ho : cd % 6 < m.2.2.1 (cd / 6) ∧ OPQ m (c0 f.1) f.2.2.1 (lqp m c0 f.1 f.2.2.1) (cd / 6) (cd % 6) (m.2.1 n0 (cd / 6) (cd % 6))) (ht : ¬ n.1 = 1000) (hi : n0 < 30) (hu : OUT m.1 b0 [(lqp m c0 f.1 f.2.2.1, m.2.1 n0 (cd / 6) (cd % 6))] true b1) : MST m (BKc ((f :: fs, kd, bi, bl, lt, [], cd, false, b0, n0, c0) :: K) n) (GOc (exq f n0 (cd % 6) (K.length : Int) :: rsq m f :: fs) ((f :: fs, 3, (n0 : Int), ((cd % 6 : Nat) : Int), lt, [], cd + 1, false, b0, n0, c0) :: K) (b1, n0 + 1, upc c0 n0 (cd / 6)) (n.1 + 1, max n.2.1 ((f.2.2.2.1.length : Int) + 1), n.2.2.1, n.2.2.2 + 1)) := cif_n (fun e => nomatch e) (cif_n (nolem hl) (cif_y h (cif_y ho (cif_n ht (cif_y hi ⟨true, b1, hu, Or.inl ⟨rfl, rfl⟩⟩)))))
end MM1
