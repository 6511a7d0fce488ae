/-! unification over places, step by step: what both sides do -/
abbrev GVT : Type := (Nat → Int) × (Nat → Nat) × (Nat → Int) × (Nat → Int) × (Nat → Nat → Nat)
section GD
variable (g : GVT) (b : Nat → Int)
def isV (p : Nat) : Prop := 0 ≤ g.1 p
def TER (p : Nat) : Prop := ¬ (0 ≤ g.1 p ∧ 0 ≤ b (g.2.1 p))
def brF : Nat → Nat → Nat
  | 0, p => p
  | n + 1, p => if 0 ≤ g.1 p ∧ 0 ≤ b (g.2.1 p) then brF n (b (g.2.1 p)).toNat else p
/-- what stands at a place, all that is bound gone through -/
def BRE (p q : Nat) : Prop := ∃ n : Nat, brF g b n p = q ∧ TER g b q
def STP (p q : Nat) : Prop := ((0 ≤ g.1 p ∧ 0 ≤ b (g.2.1 p)) ∧ q = (b (g.2.1 p)).toNat) ∨ (¬ 0 ≤ g.1 p ∧ ∃ k : Nat, (k : Int) < g.2.2.2.1 p ∧ q = g.2.2.2.2 p k)
def RCn : Nat → Nat → Nat → Prop
  | 0, p, q => p = q
  | n + 1, p, q => ∃ x : Nat, STP g b p x ∧ RCn n x q
def RCH (p q : Nat) : Prop := ∃ n : Nat, RCn g b n p q
/-- the variable of a cell is in what stands at a place -/
def OCC (p t : Nat) : Prop := ∃ q : Nat, RCH g b p q ∧ 0 ≤ g.1 q ∧ g.2.1 q = t
/-- no deeper than so many -/
def HTn : Nat → Nat → Prop
  | 0, _ => False
  | n + 1, p => ∃ a : Nat, BRE g b p a ∧ (0 ≤ g.1 a ∨ ∀ k : Nat, (k : Int) < g.2.2.2.1 a → HTn n (g.2.2.2.2 a k))
def ALn : Nat → Nat → Nat → Prop
  | 0, _, _ => True
  | n + 1, p, q => ∃ a c : Nat, BRE g b p a ∧ BRE g b q c ∧ ((0 ≤ g.1 a ∧ 0 ≤ g.1 c ∧ g.2.1 a = g.2.1 c) ∨ (¬ 0 ≤ g.1 a ∧ ¬ 0 ≤ g.1 c ∧ g.2.2.1 a = g.2.2.1 c ∧ g.2.2.2.1 a = g.2.2.2.1 c ∧ ∀ k : Nat, (k : Int) < g.2.2.2.1 a → ALn n (g.2.2.2.2 a k) (g.2.2.2.2 c k)))
/-- the same, all that is bound put in -/
def ALK (p q : Nat) : Prop := ∀ n : Nat, ALn g b n p q
end GD
def bst (b : Nat → Int) (t v : Nat) : Nat → Int := fun s => if s = t then (v : Int) else b s
def kdl (g : GVT) (a c : Nat) : Nat → Nat → List (Nat × Nat)
  | 0, _ => []
  | r + 1, k => (g.2.2.2.2 a k, g.2.2.2.2 c k) :: kdl g a c r (k + 1)
/-- how pairs of places are unified, one after the other: whether they can be, and what is bound then -/
noncomputable def OUn (g : GVT) : Nat → (Nat → Int) → List (Nat × Nat) → Bool → (Nat → Int) → Prop
  | 0, _, _, _, _ => False
  | _ + 1, b, [], r, b' => r = true ∧ b' = b
  | n + 1, b, (p, q) :: gs, r, b' => ∃ a c : Nat, BRE g b p a ∧ BRE g b q c ∧
      (if 0 ≤ g.1 a then (if 0 ≤ g.1 c ∧ g.2.1 c = g.2.1 a then OUn g n b gs r b' else @ite Prop (OCC g b c (g.2.1 a)) (Classical.propDecidable _) (r = false) (OUn g n (bst b (g.2.1 a) c) gs r b'))
       else if 0 ≤ g.1 c then @ite Prop (OCC g b a (g.2.1 c)) (Classical.propDecidable _) (r = false) (OUn g n (bst b (g.2.1 c) a) gs r b')
       else if g.2.2.1 a = g.2.2.1 c ∧ g.2.2.2.1 a = g.2.2.2.1 c then OUn g n b (kdl g a c (g.2.2.2.1 a).toNat 0 ++ gs) r b' else r = false)
def OUT (g : GVT) (b : Nat → Int) (gs : List (Nat × Nat)) (r : Bool) (b' : Nat → Int) : Prop := ∃ n : Nat, OUn g n b gs r b'
section GL
variable {g : GVT} {b b1 : Nat → Int}
theorem brF_s (n p : Nat) : brF g b (n + 1) p = (if 0 ≤ g.1 p ∧ 0 ≤ b (g.2.1 p) then brF g b n (b (g.2.1 p)).toNat else p) := rfl
theorem brF_ter {p : Nat} (h : TER g b p) : ∀ n : Nat, brF g b n p = p := by
  intro n
  cases n with
  | zero => rfl
  | succ n => rw [brF_s, if_neg h]
theorem bre_ter {p : Nat} (h : TER g b p) : BRE g b p p := ⟨0, rfl, h⟩
theorem bre_un0 : ∀ (n m p : Nat), TER g b (brF g b n p) → TER g b (brF g b m p) → brF g b n p = brF g b m p := by
  intro n
  induction n with
  | zero => intro m p h _; exact (brF_ter (show TER g b p from h) m).symm
  | succ n ih =>
    intro m p h k
    by_cases c : 0 ≤ g.1 p ∧ 0 ≤ b (g.2.1 p)
    · cases m with
      | zero => exact absurd c (show TER g b p from k)
      | succ m =>
        rw [brF_s, if_pos c] at h ⊢
        rw [brF_s, if_pos c] at k ⊢
        exact ih m _ h k
    · rw [brF_ter (show TER g b p from c), brF_ter (show TER g b p from c)]
theorem bre_un {p q q' : Nat} (h : BRE g b p q) (k : BRE g b p q') : q = q' := by
  obtain ⟨n, e, t⟩ := h
  obtain ⟨m, f, u⟩ := k
  subst e; subst f
  exact bre_un0 n m p t u
theorem bre_ter2 {p q : Nat} (h : BRE g b p q) : TER g b q := by
  obtain ⟨_, _, t⟩ := h; exact t
theorem bre_go {p q : Nat} (c : 0 ≤ g.1 p ∧ 0 ≤ b (g.2.1 p)) (h : BRE g b (b (g.2.1 p)).toNat q) : BRE g b p q := by
  obtain ⟨n, e, t⟩ := h
  exact ⟨n + 1, by rw [brF_s, if_pos c]; exact e, t⟩
theorem bre_in {p q : Nat} (c : 0 ≤ g.1 p ∧ 0 ≤ b (g.2.1 p)) (h : BRE g b p q) : BRE g b (b (g.2.1 p)).toNat q := by
  obtain ⟨n, e, t⟩ := h
  cases n with
  | zero => have e2 : p = q := e; subst e2; exact absurd c t
  | succ n =>
    rw [brF_s, if_pos c] at e
    exact ⟨n, e, t⟩
theorem bre_same {p q : Nat} (h : BRE g b p q) (t : TER g b p) : q = p := bre_un h (bre_ter t)
theorem bre_name {p q : Nat} (h : BRE g b p q) (t : ¬ 0 ≤ g.1 p) : q = p := bre_same h (fun w => t w.1)
/-- a bare place is itself, or a variable leads to it -/
theorem bre_rch : ∀ (n p : Nat), RCH g b p (brF g b n p) := by
  intro n
  induction n with
  | zero => intro p; exact ⟨0, rfl⟩
  | succ n ih =>
    intro p
    by_cases c : 0 ≤ g.1 p ∧ 0 ≤ b (g.2.1 p)
    · rw [brF_s, if_pos c]
      obtain ⟨m, h⟩ := ih (b (g.2.1 p)).toNat
      exact ⟨m + 1, _, Or.inl ⟨c, rfl⟩, h⟩
    · rw [brF_s, if_neg c]; exact ⟨0, rfl⟩
theorem rcn_tr : ∀ (n m p q r : Nat), RCn g b n p q → RCn g b m q r → RCn g b (n + m) p r := by
  intro n
  induction n with
  | zero => intro m p q r h k; have e : p = q := h; subst e; rw [Nat.zero_add]; exact k
  | succ n ih =>
    intro m p q r h k
    obtain ⟨x, h1, h2⟩ := h
    rw [show n + 1 + m = (n + m) + 1 by omega]
    exact ⟨x, h1, ih m x q r h2 k⟩
theorem rch_rf {p : Nat} : RCH g b p p := ⟨0, rfl⟩
theorem rch_tr {p q r : Nat} (h : RCH g b p q) (k : RCH g b q r) : RCH g b p r := by
  obtain ⟨n, h⟩ := h
  obtain ⟨m, k⟩ := k
  exact ⟨n + m, rcn_tr n m p q r h k⟩
theorem rch_stp {p q : Nat} (h : STP g b p q) : RCH g b p q := ⟨1, q, h, rfl⟩
theorem rch_bre {p q : Nat} (h : BRE g b p q) : RCH g b p q := by
  obtain ⟨n, e, _⟩ := h
  subst e; exact bre_rch n p
theorem occ_rch {p q t : Nat} (h : RCH g b p q) (k : OCC g b q t) : OCC g b p t := by
  obtain ⟨x, h1, h2, h3⟩ := k
  exact ⟨x, rch_tr h h1, h2, h3⟩
theorem occ_bre {p q t : Nat} (h : BRE g b p q) (k : OCC g b q t) : OCC g b p t := occ_rch (rch_bre h) k
/-- depth -/
theorem ht_s {n p : Nat} : HTn g b (n + 1) p = ∃ a : Nat, BRE g b p a ∧ (0 ≤ g.1 a ∨ ∀ k : Nat, (k : Int) < g.2.2.2.1 a → HTn g b n (g.2.2.2.2 a k)) := rfl
theorem ht_mono : ∀ (n m p : Nat), n ≤ m → HTn g b n p → HTn g b m p := by
  intro n
  induction n with
  | zero => intro m p _ h; exact False.elim h
  | succ n ih =>
    intro m p e h
    cases m with
    | zero => omega
    | succ m =>
      obtain ⟨a, h1, h2⟩ := h
      refine ⟨a, h1, ?_⟩
      rcases h2 with h2 | h2
      · exact Or.inl h2
      · exact Or.inr (fun k hk => ih m _ (by omega) (h2 k hk))
theorem ht_bre {n p : Nat} (h : HTn g b n p) : ∃ a : Nat, BRE g b p a := by
  cases n with
  | zero => exact False.elim h
  | succ n => obtain ⟨a, h1, _⟩ := h; exact ⟨a, h1⟩
theorem ht_pos {n p : Nat} (h : HTn g b n p) : 1 ≤ n := by
  cases n with
  | zero => exact False.elim h
  | succ n => omega
theorem ht_go {n p q : Nat} (hb : BRE g b p q) (h : HTn g b n q) : HTn g b n p := by
  cases n with
  | zero => exact False.elim h
  | succ n =>
    obtain ⟨a, h1, h2⟩ := h
    have e := bre_same h1 (bre_ter2 hb)
    subst e
    exact ⟨a, hb, h2⟩
theorem ht_in {n p q : Nat} (hb : BRE g b p q) (h : HTn g b n p) : HTn g b n q := by
  cases n with
  | zero => exact False.elim h
  | succ n =>
    obtain ⟨a, h1, h2⟩ := h
    have e := bre_un h1 hb
    subst e
    exact ⟨a, bre_ter (bre_ter2 hb), h2⟩
theorem ht_stp {n p q : Nat} (hs : STP g b p q) (h : HTn g b n p) : HTn g b n q := by
  cases n with
  | zero => exact False.elim h
  | succ n =>
    obtain ⟨a, h1, h2⟩ := h
    rcases hs with ⟨c, e⟩ | ⟨c, k, hk, e⟩
    · subst e
      exact ⟨a, bre_in c h1, h2⟩
    · have e2 := bre_name h1 c
      subst e2
      subst e
      rcases h2 with h2 | h2
      · exact absurd h2 c
      · exact ht_mono n (n + 1) _ (by omega) (h2 k hk)
theorem ht_rch : ∀ (m n p q : Nat), RCn g b m p q → HTn g b n p → HTn g b n q := by
  intro m
  induction m with
  | zero => intro n p q h k; have e : p = q := h; subst e; exact k
  | succ m ih =>
    intro n p q h k
    obtain ⟨x, h1, h2⟩ := h
    exact ih n x q h2 (ht_stp h1 k)
/-- strictly within the name at a place -/
def BLW (g : GVT) (b : Nat → Int) (x a : Nat) : Prop := ¬ 0 ≤ g.1 a ∧ ∃ k : Nat, (k : Int) < g.2.2.2.1 a ∧ RCH g b (g.2.2.2.2 a k) x
theorem blw_ht {n x a : Nat} (h : BLW g b x a) (k : HTn g b (n + 1) a) : HTn g b n x := by
  obtain ⟨h1, j, h2, m, h3⟩ := h
  obtain ⟨a', k1, k2⟩ := k
  have e := bre_name k1 h1
  subst e
  rcases k2 with k2 | k2
  · exact absurd k2 h1
  · exact ht_rch m n _ _ h3 (k2 j h2)
theorem blw_rch {x y a : Nat} (h : BLW g b x a) (k : RCH g b x y) : BLW g b y a := by
  obtain ⟨h1, j, h2, h3⟩ := h
  exact ⟨h1, j, h2, rch_tr h3 k⟩
theorem blw_tr {x y a : Nat} (h : BLW g b y x) (k : BLW g b x a) : BLW g b y a := by
  obtain ⟨h1, j, h2, h3⟩ := h
  exact blw_rch k (rch_tr (rch_stp (Or.inr ⟨h1, j, h2, rfl⟩)) h3)
/-- the same places are as deep -/
theorem al_s {n p q : Nat} : ALn g b (n + 1) p q = ∃ a c : Nat, BRE g b p a ∧ BRE g b q c ∧ ((0 ≤ g.1 a ∧ 0 ≤ g.1 c ∧ g.2.1 a = g.2.1 c) ∨ (¬ 0 ≤ g.1 a ∧ ¬ 0 ≤ g.1 c ∧ g.2.2.1 a = g.2.2.1 c ∧ g.2.2.2.1 a = g.2.2.2.1 c ∧ ∀ k : Nat, (k : Int) < g.2.2.2.1 a → ALn g b n (g.2.2.2.2 a k) (g.2.2.2.2 c k))) := rfl
theorem al_ht : ∀ (n p q : Nat), ALn g b n p q → HTn g b n p → HTn g b n q := by
  intro n
  induction n with
  | zero => intro p q _ h; exact False.elim h
  | succ n ih =>
    intro p q h k
    obtain ⟨a, c, h1, h2, h3⟩ := h
    obtain ⟨a', k1, k2⟩ := k
    have e := bre_un k1 h1
    subst e
    rcases h3 with ⟨u1, u2, u3⟩ | ⟨u1, u2, u3, u4, u5⟩
    · exact ⟨c, h2, Or.inl u2⟩
    · rcases k2 with k2 | k2
      · exact absurd k2 u1
      · exact ⟨c, h2, Or.inr (fun j hj => ih _ _ (u5 j (by omega)) (k2 j (by omega)))⟩
theorem al_symm : ∀ (n p q : Nat), ALn g b n p q → ALn g b n q p := by
  intro n
  induction n with
  | zero => intro p q _; exact True.intro
  | succ n ih =>
    intro p q h
    obtain ⟨a, c, h1, h2, h3⟩ := h
    refine ⟨c, a, h2, h1, ?_⟩
    rcases h3 with ⟨u1, u2, u3⟩ | ⟨u1, u2, u3, u4, u5⟩
    · exact Or.inl ⟨u2, u1, u3.symm⟩
    · exact Or.inr ⟨u2, u1, u3.symm, u4.symm, fun k hk => ih _ _ (u5 k (by omega))⟩
theorem al_tr : ∀ (n p q r : Nat), ALn g b n p q → ALn g b n q r → ALn g b n p r := by
  intro n
  induction n with
  | zero => intro p q r _ _; exact True.intro
  | succ n ih =>
    intro p q r h k
    obtain ⟨a, c, h1, h2, h3⟩ := h
    obtain ⟨c', d, k1, k2, k3⟩ := k
    have e := bre_un k1 h2
    subst e
    refine ⟨a, d, h1, k2, ?_⟩
    rcases h3 with ⟨u1, u2, u3⟩ | ⟨u1, u2, u3, u4, u5⟩
    · rcases k3 with ⟨v1, v2, v3⟩ | ⟨v1, v2, v3, v4, v5⟩
      · exact Or.inl ⟨u1, v2, u3.trans v3⟩
      · exact absurd u2 v1
    · rcases k3 with ⟨v1, v2, v3⟩ | ⟨v1, v2, v3, v4, v5⟩
      · exact absurd v1 u2
      · exact Or.inr ⟨u1, v2, u3.trans v3, u4.trans v4, fun j hj => ih _ _ _ (u5 j hj) (v5 j (by omega))⟩
theorem alk_symm {p q : Nat} (h : ALK g b p q) : ALK g b q p := fun n => al_symm n p q (h n)
theorem alk_tr {p q r : Nat} (h : ALK g b p q) (k : ALK g b q r) : ALK g b p r := fun n => al_tr n p q r (h n) (k n)
/-- a place isn't the same as one within it -/
theorem alk_blw {n a x : Nat} (hn : HTn g b n a) (h : ALK g b a x) (k : BLW g b x a) : False := by
  induction n with
  | zero => exact hn
  | succ n ih => exact ih (al_ht n x a (alk_symm h n) (blw_ht k hn))
theorem blw_irr {n a : Nat} (hn : HTn g b n a) (k : BLW g b a a) : False := by
  induction n with
  | zero => exact hn
  | succ n ih => exact ih (blw_ht k hn)
/-! a set of places: closed, and all of them end -/
def CLD (g : GVT) (b : Nat → Int) (S : Nat → Prop) : Prop := ∀ p q : Nat, S p → STP g b p q → S q
def FIN (g : GVT) (b : Nat → Int) (S : Nat → Prop) : Prop := ∀ p : Nat, S p → ∃ n : Nat, HTn g b n p
theorem cld_rch {S : Nat → Prop} (hc : CLD g b S) : ∀ (n p q : Nat), S p → RCn g b n p q → S q := by
  intro n
  induction n with
  | zero => intro p q h k; have e : p = q := k; subst e; exact h
  | succ n ih =>
    intro p q h k
    obtain ⟨x, k1, k2⟩ := k
    exact ih x q (hc p x h k1) k2
theorem cld_bre {S : Nat → Prop} (hc : CLD g b S) {p q : Nat} (h : S p) (k : BRE g b p q) : S q := by
  obtain ⟨n, e⟩ := rch_bre k
  exact cld_rch hc n p q h e
theorem al_rf {S : Nat → Prop} (hc : CLD g b S) (hf : FIN g b S) : ∀ (n p : Nat), S p → ALn g b n p p := by
  intro n
  induction n with
  | zero => intro p _; exact True.intro
  | succ n ih =>
    intro p h
    obtain ⟨m, k⟩ := hf p h
    obtain ⟨a, k1⟩ := ht_bre k
    refine ⟨a, a, k1, k1, ?_⟩
    have sa := cld_bre hc h k1
    by_cases c : 0 ≤ g.1 a
    · exact Or.inl ⟨c, c, rfl⟩
    · exact Or.inr ⟨c, c, rfl, rfl, fun j hj => ih _ (hc a _ sa (Or.inr ⟨c, j, hj, rfl⟩))⟩
theorem al_bre {S : Nat → Prop} (hc : CLD g b S) (hf : FIN g b S) {p a : Nat} (h : S p) (k : BRE g b p a) : ALK g b p a := by
  intro n
  cases n with
  | zero => exact True.intro
  | succ n =>
    have sa := cld_bre hc h k
    obtain ⟨c, d, h1, h2, h3⟩ := al_rf hc hf (n + 1) a sa
    have e := bre_same h1 (bre_ter2 k)
    subst e
    exact ⟨c, d, k, h2, h3⟩
theorem alk_rf {S : Nat → Prop} (hc : CLD g b S) (hf : FIN g b S) {p : Nat} (h : S p) : ALK g b p p := fun n => al_rf hc hf n p h
/-! more is bound -/
def EXT (b b1 : Nat → Int) : Prop := ∀ t : Nat, 0 ≤ b t → b1 t = b t
theorem ext_bst {t v : Nat} (h : b t < 0) : EXT b (bst b t v) := fun s hs => by
  unfold bst
  rw [if_neg (fun e => by rw [e] at hs; omega)]
theorem bst_at {t v : Nat} : bst b t v t = (v : Int) := by unfold bst; rw [if_pos rfl]
theorem bst_ne {t v s : Nat} (h : s ≠ t) : bst b t v s = b s := by unfold bst; rw [if_neg h]
theorem brF_ext (he : EXT b b1) : ∀ (n p q : Nat), BRE g b1 (brF g b n p) q → BRE g b1 p q := by
  intro n
  induction n with
  | zero => intro p q h; exact h
  | succ n ih =>
    intro p q h
    by_cases c : 0 ≤ g.1 p ∧ 0 ≤ b (g.2.1 p)
    · rw [brF_s, if_pos c] at h
      have e := he _ c.2
      exact bre_go ⟨c.1, by rw [e]; exact c.2⟩ (by rw [e]; exact ih _ _ h)
    · rw [brF_s, if_neg c] at h; exact h
theorem bre_ext (he : EXT b b1) {p a q : Nat} (h : BRE g b p a) (k : BRE g b1 a q) : BRE g b1 p q := by
  obtain ⟨n, e, _⟩ := h
  subst e; exact brF_ext he n p q k
theorem stp_ext (he : EXT b b1) {p q : Nat} (h : STP g b p q) : STP g b1 p q := by
  rcases h with ⟨c, e⟩ | h
  · have e2 := he _ c.2
    exact Or.inl ⟨⟨c.1, by rw [e2]; exact c.2⟩, by rw [e2]; exact e⟩
  · exact Or.inr h
theorem rch_ext (he : EXT b b1) : ∀ (n p q : Nat), RCn g b n p q → RCn g b1 n p q := by
  intro n
  induction n with
  | zero => intro p q h; exact h
  | succ n ih =>
    intro p q h
    obtain ⟨x, h1, h2⟩ := h
    exact ⟨x, stp_ext he h1, ih x q h2⟩
theorem blw_ext (he : EXT b b1) {x a : Nat} (h : BLW g b x a) : BLW g b1 x a := by
  obtain ⟨h1, k, h2, n, h3⟩ := h
  exact ⟨h1, k, h2, n, rch_ext he n _ _ h3⟩
theorem al_ext {S : Nat → Prop} (he : EXT b b1) (hc : CLD g b S) (hc1 : CLD g b1 S) (hf1 : FIN g b1 S) : ∀ (n p q : Nat), S p → S q → ALn g b n p q → ALn g b1 n p q := by
  intro n
  induction n with
  | zero => intro p q _ _ _; exact True.intro
  | succ n ih =>
    intro p q sp sq h
    obtain ⟨a, c, h1, h2, h3⟩ := h
    have sa := cld_bre hc sp h1
    have sc := cld_bre hc sq h2
    rcases h3 with ⟨u1, u2, u3⟩ | ⟨u1, u2, u3, u4, u5⟩
    · by_cases w : 0 ≤ b1 (g.2.1 a)
      · obtain ⟨m, k⟩ := hf1 a sa
        obtain ⟨x, k1⟩ := ht_bre k
        have k2 : BRE g b1 c x := bre_go ⟨u2, by rw [← u3]; exact w⟩ (by rw [← u3]; exact bre_in ⟨u1, w⟩ k1)
        obtain ⟨y, z, r1, r2, r3⟩ := al_rf hc1 hf1 (n + 1) x (cld_bre hc1 sa k1)
        have e1 := bre_same r1 (bre_ter2 k1)
        have e2 := bre_same r2 (bre_ter2 k1)
        subst e1
        subst e2
        exact ⟨z, z, bre_ext he h1 k1, bre_ext he h2 k2, r3⟩
      · exact ⟨a, c, bre_ext he h1 (bre_ter (fun q => w q.2)), bre_ext he h2 (bre_ter (fun q => w (by rw [u3]; exact q.2))), Or.inl ⟨u1, u2, u3⟩⟩
    · exact ⟨a, c, bre_ext he h1 (bre_ter (fun q => u1 q.1)), bre_ext he h2 (bre_ter (fun q => u2 q.1)), Or.inr ⟨u1, u2, u3, u4, fun k hk => ih _ _ (hc a _ sa (Or.inr ⟨u1, k, hk, rfl⟩)) (hc c _ sc (Or.inr ⟨u2, k, by omega, rfl⟩)) (u5 k hk)⟩⟩
/-- a cell that isn't within: nothing changes there -/
theorem ht_not {t v : Nat} : ∀ (n p : Nat), HTn g b n p → ¬ OCC g b p t → HTn g (bst b t v) n p := by
  intro n
  induction n with
  | zero => intro p h _; exact False.elim h
  | succ n ih =>
    intro p h ho
    obtain ⟨a, h1, h2⟩ := h
    have key : ∀ (m p : Nat), ¬ OCC g b p t → brF g (bst b t v) m p = brF g b m p := by
      intro m
      induction m with
      | zero => intro p _; rfl
      | succ m ihm =>
        intro p hp
        by_cases c : 0 ≤ g.1 p
        · have ne : g.2.1 p ≠ t := fun e => hp ⟨p, rch_rf, c, e⟩
          rw [brF_s, brF_s, bst_ne ne]
          by_cases d : 0 ≤ b (g.2.1 p)
          · rw [if_pos ⟨c, d⟩, if_pos ⟨c, d⟩]
            exact ihm _ (fun q => hp (occ_rch (rch_stp (Or.inl ⟨⟨c, d⟩, rfl⟩)) q))
          · rw [if_neg (fun q => d q.2), if_neg (fun q => d q.2)]
        · rw [brF_s, brF_s, if_neg (fun q => c q.1), if_neg (fun q => c q.1)]
    have oa : ¬ OCC g b a t := fun q => ho (occ_bre h1 q)
    refine ⟨a, ?_, ?_⟩
    · obtain ⟨m, e, w⟩ := h1
      refine ⟨m, (key m p ho).trans e, fun q => ?_⟩
      have ne : g.2.1 a ≠ t := fun e => oa ⟨a, rch_rf, q.1, e⟩
      rw [bst_ne ne] at q
      exact w q
    · rcases h2 with h2 | h2
      · exact Or.inl h2
      · by_cases c : 0 ≤ g.1 a
        · exact Or.inl c
        · exact Or.inr (fun k hk => ih _ (h2 k hk) (fun q => oa (occ_rch (rch_stp (Or.inr ⟨c, k, hk, rfl⟩)) q)))
/-- a free cell is bound to what doesn't have it: all still ends -/
theorem ht_bind {t c m : Nat} (hb : b t < 0) (hc : HTn g (bst b t c) m c) : ∀ (n p : Nat), HTn g b n p → HTn g (bst b t c) (n + m) p := by
  intro n
  induction n with
  | zero => intro p h; exact False.elim h
  | succ n ih =>
    intro p h
    obtain ⟨a, h1, h2⟩ := h
    have he : EXT b (bst b t c) := ext_bst hb
    by_cases w : 0 ≤ g.1 a
    · by_cases e : g.2.1 a = t
      · obtain ⟨x, k1⟩ := ht_bre hc
        have k2 : BRE g (bst b t c) a x := bre_go ⟨w, by rw [e, bst_at]; omega⟩ (by rw [e, bst_at]; exact k1)
        exact ht_mono m (n + 1 + m) _ (by omega) (ht_go (bre_ext he h1 k2) (ht_in k1 hc))
      · have ta : TER g (bst b t c) a := fun q => by
          rw [bst_ne e] at q
          exact bre_ter2 h1 q
        rw [show n + 1 + m = (n + m) + 1 by omega]
        exact ⟨a, bre_ext he h1 (bre_ter ta), Or.inl w⟩
    · rw [show n + 1 + m = (n + m) + 1 by omega]
      refine ⟨a, bre_ext he h1 (bre_ter (fun q => w q.1)), Or.inr (fun k hk => ih _ ?_)⟩
      rcases h2 with h2 | h2
      · exact absurd h2 w
      · exact h2 k hk
theorem fin_bind {S : Nat → Prop} {t c : Nat} (hb : b t < 0) (hs : S c) (ho : ¬ OCC g b c t) (hf : FIN g b S) : FIN g (bst b t c) S := fun p hp => by
  obtain ⟨m, h⟩ := hf c hs
  obtain ⟨n, k⟩ := hf p hp
  exact ⟨n + m, ht_bind hb (ht_not m c h ho) n p k⟩
theorem cld_bind {S : Nat → Prop} {t c : Nat} (hs : S c) (hc : CLD g b S) : CLD g (bst b t c) S := fun p q hp h => by
  rcases h with ⟨w, e⟩ | h
  · by_cases n : g.2.1 p = t
    · rw [n, bst_at] at e
      have e2 : q = c := by omega
      rw [e2]; exact hs
    · rw [bst_ne n] at w e
      exact hc p q hp (Or.inl ⟨w, e⟩)
  · exact hc p q hp (Or.inr h)
/-! the steps -/
theorem oun_n {n : Nat} {r : Bool} {b' : Nat → Int} : OUn g (n + 1) b [] r b' = (r = true ∧ b' = b) := rfl
theorem oun_c {n p q : Nat} {gs : List (Nat × Nat)} {r : Bool} {b' : Nat → Int} : OUn g (n + 1) b ((p, q) :: gs) r b' = ∃ a c : Nat, BRE g b p a ∧ BRE g b q c ∧
      (if 0 ≤ g.1 a then (if 0 ≤ g.1 c ∧ g.2.1 c = g.2.1 a then OUn g n b gs r b' else @ite Prop (OCC g b c (g.2.1 a)) (Classical.propDecidable _) (r = false) (OUn g n (bst b (g.2.1 a) c) gs r b'))
       else if 0 ≤ g.1 c then @ite Prop (OCC g b a (g.2.1 c)) (Classical.propDecidable _) (r = false) (OUn g n (bst b (g.2.1 c) a) gs r b')
       else if g.2.2.1 a = g.2.2.1 c ∧ g.2.2.2.1 a = g.2.2.2.1 c then OUn g n b (kdl g a c (g.2.2.2.1 a).toNat 0 ++ gs) r b' else r = false) := rfl
theorem out_nil : OUT g b [] true b := ⟨1, rfl, rfl⟩
theorem out_same {p q a c : Nat} {gs : List (Nat × Nat)} {r : Bool} {b' : Nat → Int} (h1 : BRE g b p a) (h2 : BRE g b q c) (h3 : 0 ≤ g.1 a) (h4 : 0 ≤ g.1 c) (h5 : g.2.1 c = g.2.1 a) (h : OUT g b gs r b') : OUT g b ((p, q) :: gs) r b' := by
  obtain ⟨n, h⟩ := h
  refine ⟨n + 1, ?_⟩
  rw [oun_c]
  exact ⟨a, c, h1, h2, by rw [if_pos h3, if_pos ⟨h4, h5⟩]; exact h⟩
theorem out_occ1 {p q a c : Nat} {gs : List (Nat × Nat)} {b' : Nat → Int} (h1 : BRE g b p a) (h2 : BRE g b q c) (h3 : 0 ≤ g.1 a) (h4 : ¬ (0 ≤ g.1 c ∧ g.2.1 c = g.2.1 a)) (h5 : OCC g b c (g.2.1 a)) : OUT g b ((p, q) :: gs) false b' := by
  refine ⟨1, ?_⟩
  rw [oun_c]
  exact ⟨a, c, h1, h2, by rw [if_pos h3, if_neg h4, if_pos h5]⟩
theorem out_bind1 {p q a c : Nat} {gs : List (Nat × Nat)} {r : Bool} {b' : Nat → Int} (h1 : BRE g b p a) (h2 : BRE g b q c) (h3 : 0 ≤ g.1 a) (h4 : ¬ (0 ≤ g.1 c ∧ g.2.1 c = g.2.1 a)) (h5 : ¬ OCC g b c (g.2.1 a)) (h : OUT g (bst b (g.2.1 a) c) gs r b') : OUT g b ((p, q) :: gs) r b' := by
  obtain ⟨n, h⟩ := h
  refine ⟨n + 1, ?_⟩
  rw [oun_c]
  exact ⟨a, c, h1, h2, by rw [if_pos h3, if_neg h4, if_neg h5]; exact h⟩
theorem out_occ2 {p q a c : Nat} {gs : List (Nat × Nat)} {b' : Nat → Int} (h1 : BRE g b p a) (h2 : BRE g b q c) (h3 : ¬ 0 ≤ g.1 a) (h4 : 0 ≤ g.1 c) (h5 : OCC g b a (g.2.1 c)) : OUT g b ((p, q) :: gs) false b' := by
  refine ⟨1, ?_⟩
  rw [oun_c]
  exact ⟨a, c, h1, h2, by rw [if_neg h3, if_pos h4, if_pos h5]⟩
theorem out_bind2 {p q a c : Nat} {gs : List (Nat × Nat)} {r : Bool} {b' : Nat → Int} (h1 : BRE g b p a) (h2 : BRE g b q c) (h3 : ¬ 0 ≤ g.1 a) (h4 : 0 ≤ g.1 c) (h5 : ¬ OCC g b a (g.2.1 c)) (h : OUT g (bst b (g.2.1 c) a) gs r b') : OUT g b ((p, q) :: gs) r b' := by
  obtain ⟨n, h⟩ := h
  refine ⟨n + 1, ?_⟩
  rw [oun_c]
  exact ⟨a, c, h1, h2, by rw [if_neg h3, if_pos h4, if_neg h5]; exact h⟩
theorem out_name {p q a c : Nat} {gs : List (Nat × Nat)} {b' : Nat → Int} (h1 : BRE g b p a) (h2 : BRE g b q c) (h3 : ¬ 0 ≤ g.1 a) (h4 : ¬ 0 ≤ g.1 c) (h5 : ¬ (g.2.2.1 a = g.2.2.1 c ∧ g.2.2.2.1 a = g.2.2.2.1 c)) : OUT g b ((p, q) :: gs) false b' := by
  refine ⟨1, ?_⟩
  rw [oun_c]
  exact ⟨a, c, h1, h2, by rw [if_neg h3, if_neg h4, if_neg h5]⟩
theorem out_kids {p q a c : Nat} {gs : List (Nat × Nat)} {r : Bool} {b' : Nat → Int} (h1 : BRE g b p a) (h2 : BRE g b q c) (h3 : ¬ 0 ≤ g.1 a) (h4 : ¬ 0 ≤ g.1 c) (h5 : g.2.2.1 a = g.2.2.1 c ∧ g.2.2.2.1 a = g.2.2.2.1 c) (h : OUT g b (kdl g a c (g.2.2.2.1 a).toNat 0 ++ gs) r b') : OUT g b ((p, q) :: gs) r b' := by
  obtain ⟨n, h⟩ := h
  refine ⟨n + 1, ?_⟩
  rw [oun_c]
  exact ⟨a, c, h1, h2, by rw [if_neg h3, if_neg h4, if_pos h5]; exact h⟩
/-- what is the same already binds nothing -/
theorem out_alike : ∀ (n p q : Nat) (gs : List (Nat × Nat)) (r : Bool) (b' : Nat → Int), HTn g b n p → ALK g b p q → OUT g b gs r b' → OUT g b ((p, q) :: gs) r b' := by
  intro n
  induction n with
  | zero => intro p q gs r b' h _ _; exact False.elim h
  | succ n ih =>
    intro p q gs r b' hn ha ho
    obtain ⟨a, h1, h2⟩ := hn
    obtain ⟨a', c, k1, k2, k3⟩ := ha 1
    have e := bre_un k1 h1
    subst e
    rcases k3 with ⟨u1, u2, u3⟩ | ⟨u1, u2, u3, u4, u5⟩
    · exact out_same k1 k2 u1 u2 u3.symm ho
    · rcases h2 with h2 | h2
      · exact absurd h2 u1
      refine out_kids k1 k2 u1 u2 ⟨u3, u4⟩ ?_
      have ak : ∀ k : Nat, (k : Int) < g.2.2.2.1 a' → ALK g b (g.2.2.2.2 a' k) (g.2.2.2.2 c k) := fun k hk m => by
        obtain ⟨x, y, m1, m2, m3⟩ := ha (m + 1)
        have e1 := bre_un m1 k1
        have e2 := bre_un m2 k2
        subst e1
        subst e2
        rcases m3 with ⟨v1, _⟩ | ⟨_, _, _, _, v5⟩
        · exact absurd v1 u1
        · exact v5 k hk
      have key : ∀ (r0 k : Nat), ((k + r0 : Nat) : Int) ≤ g.2.2.2.1 a' → OUT g b (kdl g a' c r0 k ++ gs) r b' := by
        intro r0
        induction r0 with
        | zero => intro k _; exact ho
        | succ r0 ihr =>
          intro k hk
          exact ih _ _ _ r b' (h2 k (by omega)) (ak k (by omega)) (ihr (k + 1) (by omega))
      by_cases z : 0 ≤ g.2.2.2.1 a'
      · exact key _ 0 (by omega)
      · rw [show (g.2.2.2.1 a').toNat = 0 by omega]; exact ho
end GL
/-! two that go side by side -/
def BIS (L : Nat) (g g' : GVT) (P : Nat → Nat → Prop) : Prop := (∀ p p' : Nat, P p p' → (0 ≤ g.1 p ↔ 0 ≤ g'.1 p') ∧ (0 ≤ g.1 p → g.2.1 p = g'.2.1 p' ∧ (L ≤ g.2.1 p ∧ g.2.1 p < 256)) ∧ (¬ 0 ≤ g.1 p → g.2.2.2.1 p = g'.2.2.2.1 p' ∧ ∀ k : Nat, (k : Int) < g.2.2.2.1 p → P (g.2.2.2.2 p k) (g'.2.2.2.2 p' k))) ∧ ∀ p p' q q' : Nat, P p p' → P q q' → ¬ 0 ≤ g.1 p → ¬ 0 ≤ g.1 q → (g.2.2.1 p = g.2.2.1 q ↔ g'.2.2.1 p' = g'.2.2.1 q')
def BDQ (L : Nat) (b b' : Nat → Int) (P : Nat → Nat → Prop) : Prop := ∀ t : Nat, (L ≤ t ∧ t < 256) → (0 ≤ b t ↔ 0 ≤ b' t) ∧ (0 ≤ b t → P (b t).toNat (b' t).toNat)
def PLL (P : Nat → Nat → Prop) : List (Nat × Nat) → List (Nat × Nat) → Prop
  | [], [] => True
  | (p, q) :: gs, (p', q') :: gs' => P p p' ∧ P q q' ∧ PLL P gs gs'
  | [], _ :: _ => False
  | _ :: _, [] => False
section GB
variable {g g' : GVT} {b b' : Nat → Int} {P : Nat → Nat → Prop} {L : Nat}
theorem bis_flip (h : BIS L g g' P) : BIS L g' g (fun x y => P y x) := by
  refine ⟨fun p p' hp => ?_, fun p p' q q' hp hq np nq => ?_⟩
  · obtain ⟨h1, h2, h3⟩ := h.1 p' p hp
    refine ⟨h1.symm, fun w => ?_, fun w => ?_⟩
    · obtain ⟨a, c⟩ := h2 (h1.mpr w)
      exact ⟨a.symm, by omega⟩
    · obtain ⟨a, c⟩ := h3 (fun q => w (h1.mp q))
      exact ⟨a.symm, fun k hk => c k (by omega)⟩
  · have e1 := (h.1 p' p hp).1
    have e2 := (h.1 q' q hq).1
    exact (h.2 p' p q' q hp hq (fun w => np (e1.mp w)) (fun w => nq (e2.mp w))).symm
theorem bdq_flip (h : BDQ L b b' P) : BDQ L b' b (fun x y => P y x) := fun t ht => ⟨(h t ht).1.symm, fun w => (h t ht).2 ((h t ht).1.mpr w)⟩
theorem bis_stp (h : BIS L g g' P) (hb : BDQ L b b' P) {p p' q : Nat} (hp : P p p') (hs : STP g b p q) : ∃ q' : Nat, STP g' b' p' q' ∧ P q q' := by
  obtain ⟨h1, h2, h3⟩ := h.1 p p' hp
  rcases hs with ⟨c, e⟩ | ⟨c, k, hk, e⟩
  · obtain ⟨a, l⟩ := h2 c.1
    obtain ⟨u, v⟩ := hb _ l
    refine ⟨(b' (g'.2.1 p')).toNat, Or.inl ⟨⟨h1.mp c.1, by rw [← a]; exact u.mp c.2⟩, rfl⟩, ?_⟩
    rw [e, ← a]; exact v c.2
  · obtain ⟨a, l⟩ := h3 c
    exact ⟨g'.2.2.2.2 p' k, Or.inr ⟨fun w => c (h1.mpr w), k, by omega, rfl⟩, by rw [e]; exact l k hk⟩
theorem bis_brF (h : BIS L g g' P) (hb : BDQ L b b' P) : ∀ (n p p' : Nat), P p p' → P (brF g b n p) (brF g' b' n p') := by
  intro n
  induction n with
  | zero => intro p p' hp; exact hp
  | succ n ih =>
    intro p p' hp
    obtain ⟨h1, h2, h3⟩ := h.1 p p' hp
    rw [brF_s, brF_s]
    by_cases c : 0 ≤ g.1 p ∧ 0 ≤ b (g.2.1 p)
    · obtain ⟨a, l⟩ := h2 c.1
      obtain ⟨u, v⟩ := hb _ l
      have c' : 0 ≤ g'.1 p' ∧ 0 ≤ b' (g'.2.1 p') := ⟨h1.mp c.1, by rw [← a]; exact u.mp c.2⟩
      rw [if_pos c, if_pos c']
      exact ih _ _ (by rw [← a]; exact v c.2)
    · have c' : ¬ (0 ≤ g'.1 p' ∧ 0 ≤ b' (g'.2.1 p')) := fun w => by
        have w1 := h1.mpr w.1
        obtain ⟨a, l⟩ := h2 w1
        exact c ⟨w1, (hb _ l).1.mpr (by rw [a]; exact w.2)⟩
      rw [if_neg c, if_neg c']; exact hp
theorem bis_ter (h : BIS L g g' P) (hb : BDQ L b b' P) {p p' : Nat} (hp : P p p') (ht : TER g b p) : TER g' b' p' := fun w => by
  obtain ⟨h1, h2, h3⟩ := h.1 p p' hp
  have w1 := h1.mpr w.1
  obtain ⟨a, l⟩ := h2 w1
  exact ht ⟨w1, (hb _ l).1.mpr (by rw [a]; exact w.2)⟩
theorem bis_bre (h : BIS L g g' P) (hb : BDQ L b b' P) {p p' a : Nat} (hp : P p p') (k : BRE g b p a) : ∃ a' : Nat, BRE g' b' p' a' ∧ P a a' := by
  obtain ⟨n, e, t⟩ := k
  subst e
  have q := bis_brF h hb n p p' hp
  exact ⟨_, ⟨n, rfl, bis_ter h hb q t⟩, q⟩
theorem bis_rcn (h : BIS L g g' P) (hb : BDQ L b b' P) : ∀ (n p p' q : Nat), P p p' → RCn g b n p q → ∃ q' : Nat, RCn g' b' n p' q' ∧ P q q' := by
  intro n
  induction n with
  | zero => intro p p' q hp k; have e : p = q := k; subst e; exact ⟨p', rfl, hp⟩
  | succ n ih =>
    intro p p' q hp k
    obtain ⟨x, k1, k2⟩ := k
    obtain ⟨x', l1, l2⟩ := bis_stp h hb hp k1
    obtain ⟨q', m1, m2⟩ := ih x x' q l2 k2
    exact ⟨q', ⟨x', l1, m1⟩, m2⟩
theorem bis_occ (h : BIS L g g' P) (hb : BDQ L b b' P) {p p' t : Nat} (hp : P p p') (k : OCC g b p t) : OCC g' b' p' t := by
  obtain ⟨q, ⟨n, k1⟩, k2, k3⟩ := k
  obtain ⟨q', l1, l2⟩ := bis_rcn h hb n p p' q hp k1
  obtain ⟨h1, h2, _⟩ := h.1 q q' l2
  exact ⟨q', ⟨n, l1⟩, h1.mp k2, by rw [← (h2 k2).1]; exact k3⟩
theorem bis_occ2 (h : BIS L g g' P) (hb : BDQ L b b' P) {p p' t : Nat} (hp : P p p') : OCC g b p t ↔ OCC g' b' p' t := ⟨bis_occ h hb hp, bis_occ (bis_flip h) (bdq_flip hb) hp⟩
theorem bdq_bst {t c c' : Nat} (hb : BDQ L b b' P) (hp : P c c') : BDQ L (bst b t c) (bst b' t c') P := fun s hs => by
  by_cases e : s = t
  · subst e
    rw [bst_at, bst_at]
    exact ⟨⟨fun _ => by omega, fun _ => by omega⟩, fun _ => by
      rw [show ((c : Int)).toNat = c by omega, show ((c' : Int)).toNat = c' by omega]; exact hp⟩
  · rw [bst_ne e, bst_ne e]; exact hb s hs
theorem pll_kdl (g g' : GVT) {a a' c c' : Nat} : ∀ (r k : Nat), (∀ j : Nat, k ≤ j → j < k + r → P (g.2.2.2.2 a j) (g'.2.2.2.2 a' j) ∧ P (g.2.2.2.2 c j) (g'.2.2.2.2 c' j)) → ∀ gs gs' : List (Nat × Nat), PLL P gs gs' → PLL P (kdl g a c r k ++ gs) (kdl g' a' c' r k ++ gs') := by
  intro r
  induction r with
  | zero => intro k _ gs gs' h; exact h
  | succ r ih =>
    intro k hj gs gs' h
    exact ⟨(hj k (Nat.le_refl _) (by omega)).1, (hj k (Nat.le_refl _) (by omega)).2, ih (k + 1) (fun j h1 h2 => hj j (by omega) (by omega)) gs gs' h⟩
/-- two runs that are alike end alike -/
theorem bis_run (h : BIS L g g' P) : ∀ (n m : Nat) (b b' : Nat → Int) (gs gs' : List (Nat × Nat)) (r r' : Bool) (x x' : Nat → Int), BDQ L b b' P → PLL P gs gs' → OUn g n b gs r x → OUn g' m b' gs' r' x' → r = r' ∧ (r = true → BDQ L x x' P) := by
  intro n
  induction n with
  | zero => intro m b b' gs gs' r r' x x' _ _ k _; exact False.elim k
  | succ n ih =>
    intro m b b' gs gs' r r' x x' hb hl k k'
    cases m with
    | zero => exact False.elim k'
    | succ m =>
      cases gs with
      | nil =>
        cases gs' with
        | nil =>
          obtain ⟨e1, e2⟩ := k
          obtain ⟨f1, f2⟩ := k'
          exact ⟨e1.trans f1.symm, fun _ => by rw [e2, f2]; exact hb⟩
        | cons y ys => exact False.elim hl
      | cons y ys =>
        cases gs' with
        | nil => exact False.elim hl
        | cons y' ys' =>
          obtain ⟨p, q⟩ := y
          obtain ⟨p', q'⟩ := y'
          obtain ⟨hp, hq, hl⟩ := hl
          rw [oun_c] at k k'
          obtain ⟨a, c, k1, k2, k3⟩ := k
          obtain ⟨a', c', l1, l2, l3⟩ := k'
          obtain ⟨a2, m1, pa⟩ := bis_bre h hb hp k1
          obtain ⟨c2, m2, pc⟩ := bis_bre h hb hq k2
          have e1 := bre_un m1 l1
          have e2 := bre_un m2 l2
          subst e1
          subst e2
          obtain ⟨va, ca, na⟩ := h.1 a a2 pa
          obtain ⟨vc, cc, nc⟩ := h.1 c c2 pc
          by_cases wa : 0 ≤ g.1 a
          · have wa' := va.mp wa
            have ea := (ca wa).1
            rw [if_pos wa] at k3
            rw [if_pos wa'] at l3
            by_cases s : 0 ≤ g.1 c ∧ g.2.1 c = g.2.1 a
            · have s' : 0 ≤ g'.1 c2 ∧ g'.2.1 c2 = g'.2.1 a2 := ⟨vc.mp s.1, by rw [← ea, ← (cc s.1).1]; exact s.2⟩
              rw [if_pos s] at k3
              rw [if_pos s'] at l3
              exact ih m b b' ys ys' r r' x x' hb hl k3 l3
            · have s' : ¬ (0 ≤ g'.1 c2 ∧ g'.2.1 c2 = g'.2.1 a2) := fun w => s ⟨vc.mpr w.1, by rw [(cc (vc.mpr w.1)).1, ea]; exact w.2⟩
              rw [if_neg s] at k3
              rw [if_neg s'] at l3
              by_cases o : OCC g b c (g.2.1 a)
              · have o' : OCC g' b' c2 (g'.2.1 a2) := by rw [← ea]; exact (bis_occ2 h hb pc).mp o
                rw [if_pos o] at k3
                rw [if_pos o'] at l3
                exact ⟨k3.trans l3.symm, fun w => by rw [k3] at w; cases w⟩
              · have o' : ¬ OCC g' b' c2 (g'.2.1 a2) := fun w => o ((bis_occ2 h hb pc).mpr (by rw [ea]; exact w))
                rw [if_neg o] at k3
                rw [if_neg o', ← ea] at l3
                exact ih m _ _ ys ys' r r' x x' (bdq_bst hb pc) hl k3 l3
          · have wa' : ¬ 0 ≤ g'.1 a2 := fun w => wa (va.mpr w)
            rw [if_neg wa] at k3
            rw [if_neg wa'] at l3
            by_cases wc : 0 ≤ g.1 c
            · have wc' := vc.mp wc
              have ec := (cc wc).1
              rw [if_pos wc] at k3
              rw [if_pos wc'] at l3
              by_cases o : OCC g b a (g.2.1 c)
              · have o' : OCC g' b' a2 (g'.2.1 c2) := by rw [← ec]; exact (bis_occ2 h hb pa).mp o
                rw [if_pos o] at k3
                rw [if_pos o'] at l3
                exact ⟨k3.trans l3.symm, fun w => by rw [k3] at w; cases w⟩
              · have o' : ¬ OCC g' b' a2 (g'.2.1 c2) := fun w => o ((bis_occ2 h hb pa).mpr (by rw [ec]; exact w))
                rw [if_neg o] at k3
                rw [if_neg o', ← ec] at l3
                exact ih m _ _ ys ys' r r' x x' (bdq_bst hb pa) hl k3 l3
            · have wc' : ¬ 0 ≤ g'.1 c2 := fun w => wc (vc.mpr w)
              rw [if_neg wc] at k3
              rw [if_neg wc'] at l3
              obtain ⟨ra, ka⟩ := na wa
              obtain ⟨rc, kc⟩ := nc wc
              have nm := h.2 a a2 c c2 pa pc wa wc
              by_cases s : g.2.2.1 a = g.2.2.1 c ∧ g.2.2.2.1 a = g.2.2.2.1 c
              · have s' : g'.2.2.1 a2 = g'.2.2.1 c2 ∧ g'.2.2.2.1 a2 = g'.2.2.2.1 c2 := ⟨nm.mp s.1, by rw [← ra, ← rc]; exact s.2⟩
                rw [if_pos s] at k3
                rw [if_pos s', ← ra] at l3
                exact ih m b b' _ _ r r' x x' hb (pll_kdl g g' _ 0 (fun j _ hj => ⟨ka j (by omega), kc j (by omega)⟩) ys ys' hl) k3 l3
              · have s' : ¬ (g'.2.2.1 a2 = g'.2.2.1 c2 ∧ g'.2.2.2.1 a2 = g'.2.2.2.1 c2) := fun w => s ⟨nm.mpr w.1, by rw [ra, rc]; exact w.2⟩
                rw [if_neg s] at k3
                rw [if_neg s'] at l3
                exact ⟨k3.trans l3.symm, fun w => by rw [k3] at w; cases w⟩
theorem bis_out (h : BIS L g g' P) {p q p' q' : Nat} {r r' : Bool} {x x' : Nat → Int} (hb : BDQ L b b' P) (hp : P p p') (hq : P q q') (k : OUT g b [(p, q)] r x) (k' : OUT g' b' [(p', q')] r' x') : r = r' ∧ (r = true → BDQ L x x' P) := by
  obtain ⟨n, k⟩ := k
  obtain ⟨m, k'⟩ := k'
  exact bis_run h n m b b' [(p, q)] [(p', q')] r r' x x' hb ⟨hp, hq, True.intro⟩ k k'
end GB
