/-! what is bound stays among the places there are, without circles; a small literal reaches few of them -/
section KP
variable {g : GVT} {S : Nat → Prop}
theorem kdl_mem {a c : Nat} {Q : Nat × Nat → Prop} : ∀ (r k : Nat) (gs : List (Nat × Nat)), (∀ j : Nat, k ≤ j → j < k + r → Q (g.2.2.2.2 a j, g.2.2.2.2 c j)) → (∀ x : Nat × Nat, x ∈ gs → Q x) → ∀ x : Nat × Nat, x ∈ kdl g a c r k ++ gs → Q x := by
  intro r
  induction r with
  | zero => intro k gs _ h x hx; exact h x hx
  | succ r ih =>
    intro k gs h1 h2 x hx
    have hx : x ∈ (g.2.2.2.2 a k, g.2.2.2.2 c k) :: (kdl g a c r (k + 1) ++ gs) := hx
    rcases List.mem_cons.mp hx with e | e
    · rw [e]; exact h1 k (Nat.le_refl _) (by omega)
    · exact ih (k + 1) gs (fun j a b => h1 j (by omega) (by omega)) h2 x e
theorem oun_keep : ∀ (n : Nat) (b b' : Nat → Int) (gs : List (Nat × Nat)), CLD g b S → FIN g b S → (∀ x : Nat × Nat, x ∈ gs → S x.1 ∧ S x.2) → OUn g n b gs true b' → CLD g b' S ∧ FIN g b' S ∧ ∀ t : Nat, b' t ≠ b t → ∃ p : Nat, S p ∧ 0 ≤ g.1 p ∧ g.2.1 p = t := by
  intro n
  induction n with
  | zero => intro b b' gs _ _ _ h; exact False.elim h
  | succ n ih =>
    intro b b' gs hc hf hs h
    cases gs with
    | nil =>
      obtain ⟨_, e⟩ := h
      subst e
      exact ⟨hc, hf, fun t ht => absurd rfl ht⟩
    | cons y ys =>
      obtain ⟨p, q⟩ := y
      rw [oun_c] at h
      obtain ⟨a, c, h1, h2, h3⟩ := h
      obtain ⟨sp, sq⟩ := hs _ List.mem_cons_self
      have sa := cld_bre hc sp h1
      have sc := cld_bre hc sq h2
      have ys1 : ∀ x : Nat × Nat, x ∈ ys → S x.1 ∧ S x.2 := fun x hx => hs x (List.mem_cons_of_mem _ hx)
      have bnd : ∀ u v : Nat, S u → 0 ≤ g.1 u → b (g.2.1 u) < 0 → S v → ¬ OCC g b v (g.2.1 u) → OUn g n (bst b (g.2.1 u) v) ys true b' → CLD g b' S ∧ FIN g b' S ∧ ∀ t : Nat, b' t ≠ b t → ∃ p : Nat, S p ∧ 0 ≤ g.1 p ∧ g.2.1 p = t := fun u v su vu fu sv ho k => by
        obtain ⟨i1, i2, i3⟩ := ih (bst b (g.2.1 u) v) b' ys (cld_bind sv hc) (fin_bind fu sv ho hf) ys1 k
        refine ⟨i1, i2, fun t ht => ?_⟩
        by_cases e : t = g.2.1 u
        · exact ⟨u, su, vu, e.symm⟩
        · exact i3 t (by rw [bst_ne e]; exact ht)
      by_cases wa : 0 ≤ g.1 a
      · rw [if_pos wa] at h3
        by_cases s : 0 ≤ g.1 c ∧ g.2.1 c = g.2.1 a
        · rw [if_pos s] at h3
          exact ih b b' ys hc hf ys1 h3
        · rw [if_neg s] at h3
          by_cases o : OCC g b c (g.2.1 a)
          · rw [if_pos o] at h3; cases h3
          · rw [if_neg o] at h3
            exact bnd a c sa wa (free_of h1 wa) sc o h3
      · rw [if_neg wa] at h3
        by_cases wc : 0 ≤ g.1 c
        · rw [if_pos wc] at h3
          by_cases o : OCC g b a (g.2.1 c)
          · rw [if_pos o] at h3; cases h3
          · rw [if_neg o] at h3
            exact bnd c a sc wc (free_of h2 wc) sa o h3
        · rw [if_neg wc] at h3
          by_cases k : g.2.2.1 a = g.2.2.1 c ∧ g.2.2.2.1 a = g.2.2.2.1 c
          · rw [if_pos k] at h3
            refine ih b b' _ hc hf (kdl_mem (g := g) (a := a) (c := c) (Q := fun x => S x.1 ∧ S x.2) _ 0 ys (fun j _ hj => ?_) ys1) h3
            exact ⟨hc a _ sa (Or.inr ⟨wa, j, by omega, rfl⟩), hc c _ sc (Or.inr ⟨wc, j, by omega, rfl⟩)⟩
          · rw [if_neg k] at h3; cases h3
end KP
section SL
variable {g : GVT} {b : Nat → Int}
/-- a chain of variables: each but the last is bound to a variable -/
theorem chn_last : ∀ (k p a : Nat), brF g b k p = a → TER g b a → ∃ L : List Nat, L.length ≤ 1 ∧ (0 ≤ g.1 a → L = []) ∧ ∀ q : Nat, RCH g b p q → RCH g b a q ∨ (0 ≤ g.1 q ∧ (g.2.1 q ∈ L ∨ (0 ≤ b (g.2.1 q) ∧ 0 ≤ g.1 (b (g.2.1 q)).toNat))) := by
  intro k
  induction k with
  | zero => intro p a e _; have e : p = a := e; subst e; exact ⟨[], Nat.zero_le _, fun _ => rfl, fun q h => Or.inl h⟩
  | succ k ih =>
    intro p a e t
    rw [brF_s] at e
    by_cases c : 0 ≤ g.1 p ∧ 0 ≤ b (g.2.1 p)
    · rw [if_pos c] at e
      have stp : ∀ y : Nat, STP g b p y → y = (b (g.2.1 p)).toNat := fun y hy => by
        rcases hy with ⟨_, h⟩ | ⟨h, _⟩
        · exact h
        · exact absurd c.1 h
      by_cases v : 0 ≤ g.1 (b (g.2.1 p)).toNat
      · obtain ⟨L, l1, l2, l3⟩ := ih _ a e t
        refine ⟨L, l1, l2, fun q h => ?_⟩
        obtain ⟨n, h⟩ := h
        cases n with
        | zero =>
          have h : p = q := h
          subst h
          exact Or.inr ⟨c.1, Or.inr ⟨c.2, v⟩⟩
        | succ n =>
          obtain ⟨y, h1, h2⟩ := h
          have ey := stp y h1
          subst ey
          exact l3 q ⟨n, h2⟩
      · have tx : TER g b (b (g.2.1 p)).toNat := fun w => v w.1
        have ea : (b (g.2.1 p)).toNat = a := by rw [← e, brF_ter tx]
        refine ⟨[g.2.1 p], Nat.le_refl _, fun w => absurd w (by rw [← ea]; exact v), fun q h => ?_⟩
        obtain ⟨n, h⟩ := h
        cases n with
        | zero =>
          have h : p = q := h
          subst h
          exact Or.inr ⟨c.1, Or.inl (List.mem_singleton.mpr rfl)⟩
        | succ n =>
          obtain ⟨y, h1, h2⟩ := h
          have ey := stp y h1
          subst ey
          exact Or.inl ⟨n, by rw [← ea]; exact h2⟩
    · rw [if_neg c] at e
      subst e
      exact ⟨[], Nat.zero_le _, fun _ => rfl, fun q h => Or.inl h⟩
theorem klq_mem {a : Nat} : ∀ (r k j : Nat), k ≤ j → j < k + r → g.2.2.2.2 a j ∈ klq g a r k := by
  intro r
  induction r with
  | zero => intro k j h1 h2; omega
  | succ r ih =>
    intro k j h1 h2
    show g.2.2.2.2 a j ∈ g.2.2.2.2 a k :: klq g a r (k + 1)
    by_cases e : j = k
    · rw [e]; exact List.mem_cons_self
    · exact List.mem_cons_of_mem _ (ih (k + 1) j (by omega) (by omega))
/-- of so many names and of so many cells that aren't bound to variables -/
def SLQ (g : GVT) (b : Nat → Int) (n v : Nat) (p : Nat) : Prop := ∃ ML VL : List Nat, ML.length ≤ n ∧ VL.length ≤ v ∧ ∀ q : Nat, RCH g b p q → (¬ 0 ≤ g.1 q → q ∈ ML) ∧ (0 ≤ g.1 q → g.2.1 q ∈ VL ∨ (0 ≤ b (g.2.1 q) ∧ 0 ≤ g.1 (b (g.2.1 q)).toNat))
theorem smn_lists : ∀ (n : Nat) (ps : List Nat), SMn g b n ps → ∃ ML VL : List Nat, ML.length ≤ n ∧ VL.length ≤ n ∧ ∀ p : Nat, p ∈ ps → ∀ q : Nat, RCH g b p q → (¬ 0 ≤ g.1 q → q ∈ ML) ∧ (0 ≤ g.1 q → g.2.1 q ∈ VL ∨ (0 ≤ b (g.2.1 q) ∧ 0 ≤ g.1 (b (g.2.1 q)).toNat)) := by
  intro n
  induction n with
  | zero =>
    intro ps h
    cases ps with
    | nil => exact ⟨[], [], Nat.le_refl _, Nat.le_refl _, fun p hp => absurd hp List.not_mem_nil⟩
    | cons p ps => exact False.elim h
  | succ n ih =>
    intro ps h
    cases ps with
    | nil => exact ⟨[], [], Nat.zero_le _, Nat.zero_le _, fun p hp => absurd hp List.not_mem_nil⟩
    | cons p ps =>
      obtain ⟨a, h1, h2⟩ := h
      obtain ⟨ML, VL, m1, m2, m3⟩ := ih _ h2
      obtain ⟨k, k1, k2⟩ := h1
      obtain ⟨L, l1, l2, l3⟩ := chn_last k p a k1 k2
      have kid : ∀ j : Nat, ¬ 0 ≤ g.1 a → (j : Int) < g.2.2.2.1 a → g.2.2.2.2 a j ∈ kdq g a ++ ps := fun j va hj => by
        refine List.mem_append_left _ ?_
        unfold kdq
        rw [if_neg va]
        exact klq_mem _ 0 j (Nat.zero_le _) (by omega)
      have from_a : ∀ q : Nat, RCH g b a q → q = a ∨ ∃ y : Nat, y ∈ kdq g a ++ ps ∧ RCH g b y q := fun q ⟨i, hi⟩ => by
        cases i with
        | zero => exact Or.inl (show a = q from hi).symm
        | succ i =>
          obtain ⟨y, y1, y2⟩ := hi
          rcases y1 with ⟨w, _⟩ | ⟨w, j, hj, e⟩
          · exact absurd w k2
          · exact Or.inr ⟨y, by rw [e]; exact kid j w hj, i, y2⟩
      by_cases va : 0 ≤ g.1 a
      · have lz := l2 va
        refine ⟨ML, g.2.1 a :: VL, by omega, by rw [List.length_cons]; omega, fun p' hp' q hq => ?_⟩
        have low : ∀ y : Nat, y ∈ kdq g a ++ ps → RCH g b y q → (¬ 0 ≤ g.1 q → q ∈ ML) ∧ (0 ≤ g.1 q → g.2.1 q ∈ g.2.1 a :: VL ∨ (0 ≤ b (g.2.1 q) ∧ 0 ≤ g.1 (b (g.2.1 q)).toNat)) := fun y hy hr => by
          obtain ⟨u1, u2⟩ := m3 y hy q hr
          exact ⟨u1, fun w => (u2 w).imp (fun x => List.mem_cons_of_mem _ x) id⟩
        rcases List.mem_cons.mp hp' with e | e
        · subst e
          rcases l3 q hq with r | ⟨r1, r2⟩
          · rcases from_a q r with r | ⟨y, y1, y2⟩
            · subst r
              exact ⟨fun w => absurd va w, fun _ => Or.inl List.mem_cons_self⟩
            · exact low y y1 y2
          · refine ⟨fun w => absurd r1 w, fun _ => ?_⟩
            rcases r2 with r2 | r2
            · rw [lz] at r2; cases r2
            · exact Or.inr r2
        · exact low p' (List.mem_append_right _ e) hq
      · refine ⟨a :: ML, L ++ VL, by rw [List.length_cons]; omega, by rw [List.length_append]; omega, fun p' hp' q hq => ?_⟩
        have low : ∀ y : Nat, y ∈ kdq g a ++ ps → RCH g b y q → (¬ 0 ≤ g.1 q → q ∈ a :: ML) ∧ (0 ≤ g.1 q → g.2.1 q ∈ L ++ VL ∨ (0 ≤ b (g.2.1 q) ∧ 0 ≤ g.1 (b (g.2.1 q)).toNat)) := fun y hy hr => by
          obtain ⟨u1, u2⟩ := m3 y hy q hr
          exact ⟨fun w => List.mem_cons_of_mem _ (u1 w), fun w => (u2 w).imp (fun x => List.mem_append_right _ x) id⟩
        rcases List.mem_cons.mp hp' with e | e
        · subst e
          rcases l3 q hq with r | ⟨r1, r2⟩
          · rcases from_a q r with r | ⟨y, y1, y2⟩
            · subst r
              exact ⟨fun _ => List.mem_cons_self, fun w => absurd w va⟩
            · exact low y y1 y2
          · exact ⟨fun w => absurd r1 w, fun _ => r2.imp (fun x => List.mem_append_left _ x) id⟩
        · exact low p' (List.mem_append_right _ e) hq
theorem slq_sml {n p : Nat} (h : SMn g b n [p]) : SLQ g b n n p := by
  obtain ⟨ML, VL, h1, h2, h3⟩ := smn_lists n [p] h
  exact ⟨ML, VL, h1, h2, h3 p (List.mem_singleton.mpr rfl)⟩
theorem slq_mono {n n' v v' p : Nat} (h : SLQ g b n v p) (hn : n ≤ n') (hv : v ≤ v') : SLQ g b n' v' p := by
  obtain ⟨ML, VL, h1, h2, h3⟩ := h
  exact ⟨ML, VL, by omega, by omega, h3⟩
end SL
/-! the places of instances -/
/-- vp c s p: a place of a literal of clause c in slot s -/
def VPR (m : PRM) (vp : Nat → Nat → Nat → Prop) : Prop := (∀ c s p : Nat, vp c s p → p < 9600 ∧ HSn m.1 7 p ∧ 0 ≤ m.1.2.2.2.1 p ∧ m.1.2.2.2.1 p ≤ 3) ∧ (∀ c s p k : Nat, vp c s p → ¬ 0 ≤ m.1.1 p → (k : Int) < m.1.2.2.2.1 p → vp c s (m.1.2.2.2.2 p k)) ∧ (∀ c s p : Nat, vp c s p → 0 ≤ m.1.1 p → 8 * s ≤ m.1.2.1 p ∧ m.1.2.1 p < 8 * s + 8 ∧ m.1.2.1 p < 256 ∧ m.1.2.2.2.1 p = 0) ∧ (∀ c s p q : Nat, vp c s p → vp c s q → 0 ≤ m.1.1 p → 0 ≤ m.1.1 q → m.1.2.1 p = m.1.2.1 q → p = q) ∧ (∀ c s p : Nat, vp c s p → 300 * s ≤ p ∧ p < 300 * s + 300) ∧ ∀ s c k : Nat, s < 32 → c < m.2.2.2.2.1 → k < m.2.2.1 c → vp c s (m.2.1 s c k)
def VD (vp : Nat → Nat → Nat → Prop) (c : Nat → Nat) (n0 : Nat) (p : Nat) : Prop := ∃ s : Nat, s < n0 ∧ vp (c s) s p
def VLS (m : PRM) (vp : Nat → Nat → Nat → Prop) (b : Nat → Int) (n0 : Nat) (c : Nat → Nat) : Prop := CLD m.1 b (VD vp c n0) ∧ FIN m.1 b (VD vp c n0) ∧ (∀ t : Nat, 8 * n0 ≤ t → b t < 0) ∧ ∀ s : Nat, s < n0 → c s < m.2.2.2.2.1
section VL1
variable {m : PRM} {vp : Nat → Nat → Nat → Prop} {b b' : Nat → Int} {n0 : Nat} {c : Nat → Nat}
theorem vd_cell (hv : VPR m vp) {p : Nat} (h : VD vp c n0 p) (w : 0 ≤ m.1.1 p) : m.1.2.1 p < 8 * n0 := by
  obtain ⟨s, h1, h2⟩ := h
  have q := (hv.2.2.1 _ _ _ h2 w).2
  omega
theorem vls_out (hv : VPR m vp) (h : VLS m vp b n0 c) {p q : Nat} (hp : VD vp c n0 p) (hq : VD vp c n0 q) (o : OUT m.1 b [(p, q)] true b') : VLS m vp b' n0 c := by
  obtain ⟨n, o⟩ := o
  obtain ⟨h1, h2, h3, h4⟩ := h
  obtain ⟨k1, k2, k3⟩ := oun_keep n b b' _ h1 h2 (fun x hx => by
    have e := List.mem_singleton.mp hx
    rw [e]; exact ⟨hp, hq⟩) o
  refine ⟨k1, k2, fun t ht => ?_, h4⟩
  by_cases e : b' t = b t
  · rw [e]; exact h3 t ht
  · obtain ⟨x, x1, x2, x3⟩ := k3 t e
    have := vd_cell hv x1 x2
    omega
theorem htn_free {s c1 : Nat} (hv : VPR m vp) (hb : ∀ t : Nat, 8 * s ≤ t → b t < 0) : ∀ (d p : Nat), vp c1 s p → HSn m.1 d p → HTn m.1 b d p := by
  intro d
  induction d with
  | zero => intro p _ h; exact False.elim h
  | succ d ih =>
    intro p hp h
    have t : TER m.1 b p := fun w => by
      have q := hb _ (hv.2.2.1 _ _ _ hp w.1).1
      omega
    refine ⟨p, bre_ter t, ?_⟩
    rcases h with h | h
    · exact Or.inl h
    · by_cases w : 0 ≤ m.1.1 p
      · exact Or.inl w
      · exact Or.inr (fun k hk => ih _ (hv.2.1 _ _ _ _ hp w hk) (h k hk))
theorem upc_at {i v : Nat} : upc c i v i = v := by unfold upc; rw [if_pos rfl]
theorem upc_ne {i v j : Nat} (h : j ≠ i) : upc c i v j = c j := by unfold upc; rw [if_neg h]
theorem vls_new (hv : VPR m vp) (h : VLS m vp b n0 c) {cl : Nat} (hc : cl < m.2.2.2.2.1) : VLS m vp b (n0 + 1) (upc c n0 cl) := by
  obtain ⟨h1, h2, h3, h4⟩ := h
  have old : ∀ p : Nat, VD vp c n0 p → VD vp (upc c n0 cl) (n0 + 1) p := fun p ⟨s, s1, s2⟩ => ⟨s, by omega, by rw [upc_ne (by omega)]; exact s2⟩
  have dec : ∀ p : Nat, VD vp (upc c n0 cl) (n0 + 1) p → VD vp c n0 p ∨ vp cl n0 p := fun p ⟨s, s1, s2⟩ => by
    by_cases e : s = n0
    · subst e; rw [upc_at] at s2; exact Or.inr s2
    · rw [upc_ne e] at s2; exact Or.inl ⟨s, by omega, s2⟩
  refine ⟨fun p q hp hs => ?_, fun p hp => ?_, fun t ht => h3 t (by omega), fun s hs => ?_⟩
  · rcases dec p hp with w | w
    · exact old q (h1 p q w hs)
    · rcases hs with ⟨⟨v1, v2⟩, _⟩ | ⟨v, k, hk, e⟩
      · have := h3 _ (hv.2.2.1 _ _ _ w v1).1
        omega
      · rw [e]
        exact ⟨n0, by omega, by rw [upc_at]; exact hv.2.1 _ _ _ _ w v hk⟩
  · rcases dec p hp with w | w
    · exact h2 p w
    · exact ⟨7, htn_free hv h3 7 p w (hv.1 _ _ _ w).2.1⟩
  · by_cases e : s = n0
    · subst e; rw [upc_at]; exact hc
    · rw [upc_ne e]; exact h4 s (by omega)
theorem vls_cong {c' : Nat → Nat} (h : VLS m vp b n0 c) (e : ∀ s : Nat, s < n0 → c' s = c s) : VLS m vp b n0 c' := by
  have eq : VD vp c' n0 = VD vp c n0 := by
    funext p
    apply propext
    exact ⟨fun ⟨s, s1, s2⟩ => ⟨s, s1, by rw [← e s s1]; exact s2⟩, fun ⟨s, s1, s2⟩ => ⟨s, s1, by rw [e s s1]; exact s2⟩⟩
  obtain ⟨h1, h2, h3, h4⟩ := h
  exact ⟨by rw [eq]; exact h1, by rw [eq]; exact h2, h3, fun s hs => by rw [e s hs]; exact h4 s hs⟩
theorem vls_start (hv : VPR m vp) (hb : ∀ t : Nat, b t < 0) {st : Nat} (hs : st < m.2.2.2.2.1) : VLS m vp b 1 (fun _ => st) := by
  have z : VLS m vp b 0 (fun _ => st) := ⟨fun p q ⟨s, s1, _⟩ => absurd s1 (Nat.not_lt_zero _), fun p ⟨s, s1, _⟩ => absurd s1 (Nat.not_lt_zero _), fun t _ => hb t, fun s hs => absurd hs (Nat.not_lt_zero _)⟩
  exact vls_cong (vls_new hv z hs) (fun s _ => by
    unfold upc
    by_cases e : s = 0
    · rw [if_pos e]
    · rw [if_neg e])
/-- a new instance's literal: its places alone -/
theorem slq_new (hv : VPR m vp) {c1 s p : Nat} (hp : vp c1 s p) (hb : ∀ t : Nat, 8 * s ≤ t → b t < 0) : SLQ m.1 b 300 8 p := by
  have key : ∀ (n x q : Nat), vp c1 s x → RCn m.1 b n x q → vp c1 s q := by
    intro n
    induction n with
    | zero => intro x q hx h; have h : x = q := h; subst h; exact hx
    | succ n ih =>
      intro x q hx h
      obtain ⟨y, y1, y2⟩ := h
      rcases y1 with ⟨⟨v1, v2⟩, _⟩ | ⟨v, k, hk, e⟩
      · have := hb _ (hv.2.2.1 _ _ _ hx v1).1
        omega
      · exact ih y q (by rw [e]; exact hv.2.1 _ _ _ _ hx v hk) y2
  refine ⟨(List.range 300).map (fun i => 300 * s + i), (List.range 8).map (fun i => 8 * s + i), by simp, by simp, fun q ⟨n, hq⟩ => ?_⟩
  have vq := key n p q hp hq
  refine ⟨fun _ => ?_, fun w => Or.inl ?_⟩
  · have r := hv.2.2.2.2.1 _ _ _ vq
    exact List.mem_map.mpr ⟨q - 300 * s, List.mem_range.mpr (by omega), by omega⟩
  · have r := hv.2.2.1 _ _ _ vq w
    exact List.mem_map.mpr ⟨m.1.2.1 q - 8 * s, List.mem_range.mpr (by omega), by omega⟩
/-- what is reached from two literals: all that their unification asks for -/
theorem bsx_two (hv : VPR m vp) (h : VLS m vp b n0 c) {p q n1 v1 n2 v2 : Nat} (hp : VD vp c n0 p) (hq : VD vp c n0 q) (sp : SLQ m.1 b n1 v1 p) (sq : SLQ m.1 b n2 v2 q) (hn : n1 + n2 ≤ 384) (hw : v1 + v2 ≤ 140) : ∃ (S : Nat → Prop) (VL SL : List Nat), BST m.1 b S SL VL ∧ CLD m.1 b S ∧ FIN m.1 b S ∧ S p ∧ S q := by
  classical
  obtain ⟨M1, V1, a1, a2, a3⟩ := sp
  obtain ⟨M2, V2, b1, b2, b3⟩ := sq
  obtain ⟨h1, h2, h3, h4⟩ := h
  obtain ⟨S, eS⟩ : ∃ S : Nat → Prop, S = fun x => RCH m.1 b p x ∨ RCH m.1 b q x := ⟨_, rfl⟩
  have inV : ∀ x : Nat, S x → VD vp c n0 x := fun x hx => by
    rw [eS] at hx
    rcases hx with ⟨n, hx⟩ | ⟨n, hx⟩
    · exact cld_rch h1 n _ _ hp hx
    · exact cld_rch h1 n _ _ hq hx
  have uni : ∀ x y : Nat, S x → S y → 0 ≤ m.1.1 x → 0 ≤ m.1.1 y → m.1.2.1 x = m.1.2.1 y → x = y := fun x y hx hy vx vy e => by
    obtain ⟨s, s1, s2⟩ := inV x hx
    obtain ⟨t, t1, t2⟩ := inV y hy
    have r1 := hv.2.2.1 _ _ _ s2 vx
    have r2 := hv.2.2.1 _ _ _ t2 vy
    have es : s = t := by omega
    subst es
    exact hv.2.2.2.1 _ _ _ _ s2 t2 vx vy e
  have both : ∀ x : Nat, S x → (¬ 0 ≤ m.1.1 x → x ∈ M1 ++ M2) ∧ (0 ≤ m.1.1 x → m.1.2.1 x ∈ V1 ++ V2 ∨ (0 ≤ b (m.1.2.1 x) ∧ 0 ≤ m.1.1 (b (m.1.2.1 x)).toNat)) := fun x hx => by
    rw [eS] at hx
    rcases hx with hx | hx
    · obtain ⟨u1, u2⟩ := a3 x hx
      exact ⟨fun w => List.mem_append_left _ (u1 w), fun w => (u2 w).imp (fun y => List.mem_append_left _ y) id⟩
    · obtain ⟨u1, u2⟩ := b3 x hx
      exact ⟨fun w => List.mem_append_right _ (u1 w), fun w => (u2 w).imp (fun y => List.mem_append_right _ y) id⟩
  obtain ⟨pf, hpf⟩ : ∃ pf : Nat → Nat, ∀ x : Nat, S x → 0 ≤ m.1.1 x → pf (m.1.2.1 x) = x := by
    refine ⟨fun t => if h : ∃ x : Nat, S x ∧ 0 ≤ m.1.1 x ∧ m.1.2.1 x = t then Classical.choose h else 0, fun x hx vx => ?_⟩
    have ex : ∃ y : Nat, S y ∧ 0 ≤ m.1.1 y ∧ m.1.2.1 y = m.1.2.1 x := ⟨x, hx, vx, rfl⟩
    simp only [dif_pos ex]
    obtain ⟨y1, y2, y3⟩ := Classical.choose_spec ex
    exact uni _ _ y1 hx y2 vx y3
  refine ⟨S, V1 ++ V2, (M1 ++ M2) ++ (List.range 256).map pf, ⟨fun x hx => ?_, fun x hx vx => ?_, ?_, ?_, uni⟩, fun x y hx hs => ?_, fun x hx => h2 x (inV x hx), by rw [eS]; exact Or.inl rch_rf, by rw [eS]; exact Or.inr rch_rf⟩
  · obtain ⟨s, s1, s2⟩ := inV x hx
    obtain ⟨r1, r2, r3, r4⟩ := hv.1 _ _ _ s2
    refine ⟨r1, ?_, r2, r3, r4⟩
    by_cases vx : 0 ≤ m.1.1 x
    · refine List.mem_append_right _ (List.mem_map.mpr ⟨m.1.2.1 x, List.mem_range.mpr ?_, hpf x hx vx⟩)
      exact (hv.2.2.1 _ _ _ s2 vx).2.2.1
    · exact List.mem_append_left _ ((both x hx).1 vx)
  · obtain ⟨s, s1, s2⟩ := inV x hx
    exact ⟨(both x hx).2 vx, (hv.2.2.1 _ _ _ s2 vx).2.2.1⟩
  · simp only [List.length_append, List.length_map, List.length_range]; omega
  · rw [List.length_append]; omega
  · rw [eS] at hx ⊢
    rcases hx with hx | hx
    · exact Or.inl (rch_tr hx (rch_stp hs))
    · exact Or.inr (rch_tr hx (rch_stp hs))
end VL1
/-! each state of the search keeps it -/
def KVL (m : PRM) (vp : Nat → Nat → Nat → Prop) (K : List CHT) : Prop := ∀ (i : Nat) (t : CHT), atK K i = some t → VLS m vp t.2.2.2.2.2.2.2.2.1 t.2.2.2.2.2.2.2.2.2.1 t.2.2.2.2.2.2.2.2.2.2
def VIV (m : PRM) (vp : Nat → Nat → Nat → Prop) : CFT → Prop
  | (0, _, K, s, _, _) => KVL m vp K ∧ VLS m vp s.1 s.2.1 s.2.2
  | (1, _, K, _, _, _) => KVL m vp K
  | (_ + 2, _, K, s, _, r) => r = 1 → KVL m vp K ∧ VLS m vp s.1 s.2.1 s.2.2
section VI
variable {m : PRM} {vp : Nat → Nat → Nat → Prop} {K : List CHT} {t : CHT} {n : CTT} {c d : CFT}
theorem kvl_low (h : KVL m vp (t :: K)) : KVL m vp K := fun i u hu => h i u (atK_up hu)
theorem kvl_top (h : KVL m vp (t :: K)) : VLS m vp t.2.2.2.2.2.2.2.2.1 t.2.2.2.2.2.2.2.2.2.1 t.2.2.2.2.2.2.2.2.2.2 := h K.length t atK_top
theorem kvl_push (h : KVL m vp K) (k : VLS m vp t.2.2.2.2.2.2.2.2.1 t.2.2.2.2.2.2.2.2.2.1 t.2.2.2.2.2.2.2.2.2.2) : KVL m vp (t :: K) := fun i u hu => by
  by_cases e : i = K.length
  · subst e
    rw [atK_top] at hu
    cases hu
    exact k
  · exact h i u (atK_low hu e)
theorem kvl_mkq (md : Int) (h : KVL m vp K) : KVL m vp (mkq m md K) := fun i u hu => by
  obtain ⟨v, v1, v2⟩ := mkq_at md K hu
  have q := h i v v1
  rcases v2 with ⟨_, _, _, e⟩ | ⟨_, e⟩
  · rw [e]; exact q
  · rw [e]; exact q
/-- a literal that is there is among the places -/
theorem vd_lit (hv : VPR m vp) {b : Nat → Int} {n0 i k : Nat} {c : Nat → Nat} (h : VLS m vp b n0 c) (hi : i < n0) (h30 : n0 ≤ 31) (hk : k < lqn m c i) : VD vp c n0 (lqp m c i k) := ⟨i, hi, hv.2.2.2.2.2 i (c i) k (by omega) (h.2.2.2 i hi) hk⟩
theorem viv_way (hv : VPR m vp) (hK : KVL m vp (t :: K)) (hc : CHI m t K) (k : WAY m t K n d) : VIV m vp d := by
  obtain ⟨r, kd, bi, bl, lt, lk, cd, fx, b0, n0, c0⟩ := t
  obtain ⟨⟨f, fs, e1, hn, hsm, hgk⟩, hr⟩ := hc
  have e1 : r = f :: fs := e1
  subst e1
  have hn : f.2.2.1 < lqn m c0 f.1 := hn
  have hr : RWI m (f :: fs) K n0 c0 := hr
  have hgk : ∀ x : LKT, x ∈ lk → GLL m n0 c0 x := hgk
  have hl := hr.2.2.2.2.2.1 f List.mem_cons_self
  have h30 := hr.2.2.2.2.2.2.1
  have vt : VLS m vp b0 n0 c0 := kvl_top hK
  have vK := kvl_low hK
  have own := vd_lit hv vt hl (by omega) hn
  have up : ∀ t' : CHT, t'.2.2.2.2.2.2.2.2 = (b0, n0, c0) → KVL m vp (t' :: K) := fun t' e => kvl_push vK (by rw [e]; exact vt)
  rcases k with ⟨_, r, _, k⟩ | ⟨hl2, k⟩
  · rcases k with ⟨_, k⟩ | ⟨x, _, k⟩
    · subst k; exact up _ rfl
    · subst k; exact ⟨up _ rfl, vt⟩
  · cases lk with
    | cons x xs =>
      rcases k with ⟨_, k⟩ | ⟨_, k⟩
      · rcases k with ⟨_, k⟩ | ⟨_, k⟩
        · have k : d = _ := k
          subst k
          exact fun w => absurd w (by decide)
        · obtain ⟨r, b1, o, k⟩ := k
          rcases k with ⟨er, k⟩ | ⟨_, k⟩
          · subst er
            obtain ⟨x1, x2⟩ := hgk x List.mem_cons_self
            subst k; exact ⟨up _ rfl, vls_out hv vt own (vd_lit hv vt x1 (show n0 ≤ 31 by omega) x2) o⟩
          · subst k; exact up _ rfl
      · have k : d = _ := k
        subst k; exact up _ rfl
    | nil =>
      rcases k with ⟨hd, k⟩ | ⟨_, k⟩
      · rcases k with ⟨hq, k⟩ | ⟨_, k⟩
        · rcases k with ⟨_, k⟩ | ⟨_, k⟩
          · have k : d = _ := k
            subst k
            exact fun w => absurd w (by decide)
          · rcases k with ⟨hi, k⟩ | ⟨_, k⟩
            · obtain ⟨r, b1, o, k⟩ := k
              rcases k with ⟨er, k⟩ | ⟨_, k⟩
              · subst er
                have cl : cd / 6 < m.2.2.2.2.1 := by omega
                have vn := vls_new hv vt cl
                have e2 : lqp m (upc c0 n0 (cd / 6)) f.1 f.2.2.1 = lqp m c0 f.1 f.2.2.1 := by unfold lqp; rw [upc_ne (by omega)]
                have own2 : VD vp (upc c0 n0 (cd / 6)) (n0 + 1) (lqp m c0 f.1 f.2.2.1) := by
                  obtain ⟨s, s1, s2⟩ := own
                  exact ⟨s, by omega, by rw [upc_ne (by omega)]; exact s2⟩
                have oth : VD vp (upc c0 n0 (cd / 6)) (n0 + 1) (m.2.1 n0 (cd / 6) (cd % 6)) := ⟨n0, by omega, by rw [upc_at]; exact hv.2.2.2.2.2 n0 (cd / 6) (cd % 6) (by omega) cl hq.1⟩
                subst k; exact ⟨up _ rfl, vls_out hv vn own2 oth o⟩
              · subst k; exact up _ rfl
            · have k : d = _ := k
              subst k; exact up _ rfl
        · have k : d = _ := k
          subst k; exact up _ rfl
      · have k : d = _ := k
        subst k; exact vK
theorem viv_st (hv : VPR m vp) (hi : CIV m c) (hc : VIV m vp c) (k : MST m c d) : VIV m vp d := by
  obtain ⟨md, fs, K, s, n, r⟩ := c
  match md with
  | 0 =>
    obtain ⟨hK, hs⟩ := hc
    cases fs with
    | nil =>
      have k : d = _ := k
      subst k
      exact fun _ => ⟨hK, hs⟩
    | cons f fs =>
      rcases k with ⟨_, k⟩ | ⟨hn, k⟩
      · have k : d = _ := k
        subst k
        exact ⟨kvl_mkq _ hK, hs⟩
      · rcases k with ⟨_, k⟩ | ⟨_, k⟩
        · have k : d = _ := k
          subst k; exact hK
        · rcases k with ⟨_, k⟩ | ⟨_, k⟩
          · have k : d = _ := k
            subst k
            exact kvl_push hK hs
          · have k : d = _ := k
            subst k; exact hK
  | 1 =>
    cases K with
    | nil =>
      have k : d = _ := k
      subst k
      exact fun w => absurd w (by decide)
    | cons t K =>
      obtain ⟨_, hi⟩ := hi
      rcases k with ⟨_, k⟩ | ⟨_, k⟩
      · have k : d = _ := k
        subst k
        exact kvl_low hc
      · exact viv_way hv hc hi k
  | _ + 2 => exact False.elim k
theorem viv_run (hv : VPR m vp) (hi : CIV m c) (hc : VIV m vp c) (k : RUN m c d) : VIV m vp d := by
  obtain ⟨n, k⟩ := k
  induction n generalizing c with
  | zero => have q : c = d := k; subst q; exact hc
  | succ n ih =>
    obtain ⟨e, k1, k2⟩ := k
    exact ih (civ_st hi k1) (viv_st hv hi hc k1) k2
theorem viv_start (hv : VPR m vp) {b : Nat → Int} (hb : ∀ t : Nat, b t < 0) {st : Nat} (hs : st < m.2.2.2.2.1) {n : CTT} {fs : List FRT} : VIV m vp (GOc fs [] (b, 1, fun _ => st) n) := ⟨fun i t ht => (by cases ht), vls_start hv hb hs⟩
end VI
