/-! how many parts -/
def WFX (V : VWT) : Nat → Nat → Prop
  | 0, _ => False
  | d + 1, x => 0 ≤ V.1 x ∨ (V.1 x = -1 ∧ 0 ≤ V.2.2.1 x ∧ V.2.2.1 x ≤ 3 ∧ ∀ k : Nat, (k : Int) < V.2.2.1 x → WFX V d (V.2.2.2 x k))
theorem wfx_s (V : VWT) (d x : Nat) : WFX V (d + 1) x = (0 ≤ V.1 x ∨ (V.1 x = -1 ∧ 0 ≤ V.2.2.1 x ∧ V.2.2.1 x ≤ 3 ∧ ∀ k : Nat, (k : Int) < V.2.2.1 x → WFX V d (V.2.2.2 x k))) := rfl
theorem eqx_wf {V W : VWT} {kf : Nat → Nat} : ∀ d x y : Nat, EQX V W kf d x y → WFX V d x := by
  intro d
  induction d with
  | zero => intro x y h; exact h
  | succ d ih =>
    intro x y h
    rw [eqx_s] at h
    rw [wfx_s]
    rcases h.2 with ⟨a, -⟩ | ⟨a1, -, -, a4, a5, a6⟩
    · exact Or.inl a
    · exact Or.inr ⟨a1, a4, a5, fun k hk => ih _ _ (a6 k hk)⟩
theorem eqx_wf2 {V W : VWT} {kf : Nat → Nat} : ∀ d x y : Nat, EQX V W kf d x y → WFX W d y := by
  intro d
  induction d with
  | zero => intro x y h; exact h
  | succ d ih =>
    intro x y h
    rw [eqx_s] at h
    rw [wfx_s]
    obtain ⟨h1, h2⟩ := h
    rcases h2 with ⟨a, -⟩ | ⟨a1, -, a3, a4, a5, a6⟩
    · exact Or.inl (by omega)
    · exact Or.inr ⟨by omega, by omega, by omega, fun k hk => ih _ _ (a6 k (by omega))⟩
theorem eqx_size {V W : VWT} {kf : Nat → Nat} : ∀ d x y : Nat, EQX V W kf d x y → szX V d x = szX W d y := by
  intro d
  induction d with
  | zero => intro x y _; rfl
  | succ d ih =>
    intro x y h
    rw [eqx_s] at h
    rw [szX_s, szX_s]
    obtain ⟨h1, h2⟩ := h
    rcases h2 with ⟨a, -⟩ | ⟨a1, -, a3, a4, a5, a6⟩
    · rw [if_neg (by omega), if_neg (by omega)]
    · rw [if_pos a1, if_pos (h1.symm.trans a1), ← a3]
      have b : ∀ k : Nat, (k : Int) < V.2.2.1 x → szX V d (V.2.2.2 x k) = szX W d (W.2.2.2 y k) := fun k hk => ih _ _ (a6 k hk)
      have e0 : (if 1 ≤ V.2.2.1 x then szX V d (V.2.2.2 x 0) else 0) = (if 1 ≤ V.2.2.1 x then szX W d (W.2.2.2 y 0) else 0) := by
        by_cases q : 1 ≤ V.2.2.1 x
        · rw [if_pos q, if_pos q, b 0 (by omega)]
        · rw [if_neg q, if_neg q]
      have e1 : (if 2 ≤ V.2.2.1 x then szX V d (V.2.2.2 x 1) else 0) = (if 2 ≤ V.2.2.1 x then szX W d (W.2.2.2 y 1) else 0) := by
        by_cases q : 2 ≤ V.2.2.1 x
        · rw [if_pos q, if_pos q, b 1 (by omega)]
        · rw [if_neg q, if_neg q]
      have e2 : (if 3 ≤ V.2.2.1 x then szX V d (V.2.2.2 x 2) else 0) = (if 3 ≤ V.2.2.1 x then szX W d (W.2.2.2 y 2) else 0) := by
        by_cases q : 3 ≤ V.2.2.1 x
        · rw [if_pos q, if_pos q, b 2 (by omega)]
        · rw [if_neg q, if_neg q]
      rw [e0, e1, e2]
theorem szX_ge {V : VWT} : ∀ d x : Nat, 0 ≤ szX V d x := by
  intro d
  induction d with
  | zero => intro x; exact Int.le_refl _
  | succ d ih =>
    intro x
    rw [szX_s]
    have a := ih (V.2.2.2 x 0)
    have b := ih (V.2.2.2 x 1)
    have c := ih (V.2.2.2 x 2)
    split
    · split <;> split <;> split <;> omega
    · omega
theorem wfx_one {V : VWT} {d x : Nat} (h : WFX V d x) : 1 ≤ szX V d x := by
  cases d with
  | zero => exact False.elim h
  | succ d =>
    rw [szX_s]
    have a := szX_ge (V := V) d (V.2.2.2 x 0)
    have b := szX_ge (V := V) d (V.2.2.2 x 1)
    have c := szX_ge (V := V) d (V.2.2.2 x 2)
    split
    · split <;> split <;> split <;> omega
    · omega
/-- the first terms of a node -/
def sfX (V : VWT) (d x : Nat) : Nat → Int
  | 0 => 0
  | k + 1 => sfX V d x k + szX V d (V.2.2.2 x k)
theorem szX_var {V : VWT} {d x : Nat} (h : 0 ≤ V.1 x) : szX V (d + 1) x = 1 := by rw [szX_s, if_neg (by omega)]; omega
theorem szX_sum {V : VWT} {d x m : Nat} (h : V.1 x = -1) (hm : V.2.2.1 x = (m : Int)) (h3 : m ≤ 3) : szX V (d + 1) x = 1 + sfX V d x m := by
  rw [szX_s, if_pos h, hm]
  have e : m = 0 ∨ m = 1 ∨ m = 2 ∨ m = 3 := by omega
  rcases e with e | e | e | e
  · subst e; rw [if_neg (by omega), if_neg (by omega), if_neg (by omega)]; rfl
  · subst e; rw [if_pos (by omega), if_neg (by omega), if_neg (by omega)]; show 1 + (szX V d (V.2.2.2 x 0) + 0 + 0) = 1 + (0 + szX V d (V.2.2.2 x 0)); omega
  · subst e; rw [if_pos (by omega), if_pos (by omega), if_neg (by omega)]; show 1 + (szX V d (V.2.2.2 x 0) + szX V d (V.2.2.2 x 1) + 0) = 1 + (0 + szX V d (V.2.2.2 x 0) + szX V d (V.2.2.2 x 1)); omega
  · subst e; rw [if_pos (by omega), if_pos (by omega), if_pos (by omega)]; show 1 + (szX V d (V.2.2.2 x 0) + szX V d (V.2.2.2 x 1) + szX V d (V.2.2.2 x 2)) = 1 + (0 + szX V d (V.2.2.2 x 0) + szX V d (V.2.2.2 x 1) + szX V d (V.2.2.2 x 2)); omega
/-- what stands on a row of places, each with its depth -/
def smX (V : VWT) (b : Int) (ds : Nat → Nat) (h : Nat → Int32) : Nat → Int
  | 0 => 0
  | n + 1 => smX V b ds h n + szX V (ds n) ((h n).toInt - b).toNat
def OKX (V : VWT) (b : Int) (ds : Nat → Nat) (h : Nat → Int32) (n : Int) : Prop := ∀ i : Nat, (i : Int) < n → b ≤ (h i).toInt ∧ (h i).toInt < b + 300 ∧ WFX V (ds i) ((h i).toInt - b).toNat
theorem smX_ge {V : VWT} {b : Int} {ds : Nat → Nat} {h : Nat → Int32} : ∀ n : Nat, OKX V b ds h n → (n : Int) ≤ smX V b ds h n := by
  intro n
  induction n with
  | zero => intro _; exact Int.le_refl _
  | succ n ih =>
    intro g
    have a := ih (fun i hi => g i (by omega))
    have c := wfx_one (g n (by omega)).2.2
    show ((n + 1 : Nat) : Int) ≤ smX V b ds h n + szX V (ds n) ((h n).toInt - b).toNat
    omega
theorem smX_cong {V : VWT} {b : Int} {ds ds' : Nat → Nat} {h h' : Nat → Int32} : ∀ n : Nat, (∀ i : Nat, i < n → ds' i = ds i ∧ h' i = h i) → smX V b ds' h' n = smX V b ds h n := by
  intro n
  induction n with
  | zero => intro _; rfl
  | succ n ih =>
    intro g
    show smX V b ds' h' n + szX V (ds' n) ((h' n).toInt - b).toNat = smX V b ds h n + szX V (ds n) ((h n).toInt - b).toNat
    rw [ih (fun i hi => g i (by omega)), (g n (by omega)).1, (g n (by omega)).2]
