/-! the class's search for a variable in what is bound -/
def HSn (g : GVT) : Nat → Nat → Prop
  | 0, _ => False
  | d + 1, p => 0 ≤ g.1 p ∨ ∀ k : Nat, (k : Int) < g.2.2.2.1 p → HSn g d (g.2.2.2.2 p k)
def wgt : Nat → Int
  | 0 => 0
  | d + 1 => 1 + 3 * wgt d
def wsm (ds : Nat → Nat) : Nat → Int
  | 0 => 0
  | n + 1 => wsm ds n + wgt (ds n)
theorem wgt_ge : ∀ d : Nat, 0 ≤ wgt d := by
  intro d
  induction d with
  | zero => exact Int.le_refl _
  | succ d ih => show 0 ≤ 1 + 3 * wgt d; omega
theorem wgt_pos {d : Nat} (h : 1 ≤ d) : 1 ≤ wgt d := by
  cases d with
  | zero => omega
  | succ d => have := wgt_ge d; show 1 ≤ 1 + 3 * wgt d; omega
theorem wsm_ge {ds : Nat → Nat} : ∀ n : Nat, 0 ≤ wsm ds n := by
  intro n
  induction n with
  | zero => exact Int.le_refl _
  | succ n ih => have := wgt_ge (ds n); show 0 ≤ wsm ds n + wgt (ds n); omega
theorem wsm_cong {ds es : Nat → Nat} : ∀ n : Nat, (∀ i : Nat, i < n → es i = ds i) → wsm es n = wsm ds n := by
  intro n
  induction n with
  | zero => intro _; rfl
  | succ n ih => intro h; show wsm es n + wgt (es n) = wsm ds n + wgt (ds n); rw [ih (fun i hi => h i (by omega)), h n (by omega)]
theorem wgt_7 : wgt 7 = 1093 := by decide
section HS
variable {g : GVT} {b : Nat → Int} {S : Nat → Prop}
theorem hsn_mono : ∀ (n m p : Nat), n ≤ m → HSn g n p → HSn g m p := by
  intro n
  induction n with
  | zero => intro m p _ h; exact False.elim h
  | succ n ih =>
    intro m p e h
    cases m with
    | zero => omega
    | succ m =>
      rcases h with h | h
      · exact Or.inl h
      · exact Or.inr (fun k hk => ih m _ (by omega) (h k hk))
theorem hsn_pos {n p : Nat} (h : HSn g n p) : 1 ≤ n := by
  cases n with
  | zero => exact False.elim h
  | succ n => omega
/-- what the search has done (dn), gone into (ve, vn) and still before it (hol, n), after i steps -/
def HSV (g : GVT) (b : Nat → Int) (S : Nat → Prop) (VL : List Nat) (t P : Nat) (sen : Nat → Int32) (sr : Int32) (hol : Nat → Int32) (n : Nat) (i : Int) : Prop := ∃ (dn : Nat → Prop) (vn : Nat) (ve ds : Nat → Nat) (wn : Nat) (we : Nat → Nat),
  (∀ j : Nat, j < n → S (prx hol j) ∧ ds j ≤ 7 ∧ HSn g (ds j) (prx hol j) ∧ j + 2 * ds j ≤ 14 * (1 + vn) ∧ RCH g b P (prx hol j)) ∧
  (∀ q : Nat, dn q → ¬ (0 ≤ g.1 q ∧ g.2.1 q = t) ∧ ∀ q' : Nat, STP g b q q' → dn q' ∨ ∃ j : Nat, j < n ∧ prx hol j = q') ∧
  (dn P ∨ ∃ j : Nat, j < n ∧ prx hol j = P) ∧
  (∀ x : Nat, x < vn → ve x ∈ VL ∧ ve x < 256 ∧ sen (ve x) = sr ∧ (dn (b (ve x)).toNat ∨ ∃ j : Nat, j < n ∧ prx hol j = (b (ve x)).toNat)) ∧
  (∀ x y : Nat, x < vn → y < vn → ve x = ve y → x = y) ∧
  (∀ c : Nat, c < 256 → sen c = sr → (∃ x : Nat, x < vn ∧ ve x = c) ∨ ∃ x : Nat, x < wn ∧ we x = c) ∧
  i + wsm ds n ≤ 1093 * (1 + (vn : Int)) + wn ∧
  (∀ x : Nat, x < wn → we x < 256 ∧ sen (we x) = sr ∧ (dn (b (we x)).toNat ∨ ∃ j : Nat, j < n ∧ prx hol j = (b (we x)).toNat)) ∧
  (∀ x y : Nat, x < wn → y < wn → we x = we y → x = y)
variable {VL : List Nat} {t P : Nat} {sen sen' : Nat → Int32} {sr : Int32} {hol hol' : Nat → Int32} {n : Nat} {i : Int}
theorem hsv_vn (h : HSV g b S VL t P sen sr hol n i) : (n : Int) ≤ 14 * (1 + (VL.length : Int)) ∧ i ≤ 1093 * (1 + (VL.length : Int)) + 256 := by
  obtain ⟨dn, vn, ve, ds, wn, we, h1, h2, h3, h4, h5, h6, h7, h8, h9⟩ := h
  have k := inj_le vn ve VL (fun x hx => (h4 x hx).1) h5
  have k2 := inj_le wn we (List.range 256) (fun x hx => List.mem_range.mpr (h8 x hx).1) h9
  rw [List.length_range] at k2
  have w := wsm_ge (ds := ds) n
  refine ⟨?_, by omega⟩
  cases n with
  | zero => omega
  | succ n =>
    obtain ⟨_, _, a, c, _⟩ := h1 n (by omega)
    have := hsn_pos a
    omega
theorem hsv_at (h : HSV g b S VL t P sen sr hol (n + 1) i) : S (prx hol n) := by
  obtain ⟨dn, vn, ve, ds, wn, we, h1, _⟩ := h
  exact (h1 n (by omega)).1
/-- it begins -/
theorem hsv_zero (h7 : ∀ p : Nat, S p → HSn g 7 p) (hS : S P) (hp : prx hol 0 = P) (hf : ∀ c : Nat, c < 256 → sen c ≠ sr) : HSV g b S VL t P sen sr hol 1 0 := by
  refine ⟨fun _ => False, 0, fun _ => 0, fun _ => 7, 0, fun _ => 0, fun j hj => ?_, fun q hq => False.elim hq, Or.inr ⟨0, by omega, hp⟩, fun x hx => absurd hx (by omega), fun x y hx => absurd hx (by omega), fun c hc e => absurd e (hf c hc), ?_, fun x hx => absurd hx (by omega), fun x y hx => absurd hx (by omega)⟩
  · have e : j = 0 := by omega
    subst e
    rw [hp]
    exact ⟨hS, Nat.le_refl 7, h7 P hS, (show 0 + 2 * 7 ≤ 14 * (1 + 0) by omega), rch_rf⟩
  · show (0 : Int) + (0 + wgt 7) ≤ 1093 * (1 + ((0 : Nat) : Int)) + ((0 : Nat) : Int)
    rw [wgt_7]; omega
/-- nothing is left: it isn't there -/
theorem hsv_end (h : HSV g b S VL t P sen sr hol 0 i) : ¬ OCC g b P t := by
  obtain ⟨dn, vn, ve, ds, wn, we, h1, h2, h3, h4, h5, h6, h7, h8, h9⟩ := h
  have key : ∀ (m p q : Nat), dn p → RCn g b m p q → dn q := by
    intro m
    induction m with
    | zero => intro p q hp k; have e : p = q := k; subst e; exact hp
    | succ m ih =>
      intro p q hp k
      obtain ⟨x, k1, k2⟩ := k
      rcases (h2 p hp).2 x k1 with w | ⟨j, j1, _⟩
      · exact ih x q w k2
      · omega
  have hP : dn P := by
    rcases h3 with w | ⟨j, j1, _⟩
    · exact w
    · omega
  intro ho
  obtain ⟨q, ⟨m, k⟩, k2, k3⟩ := ho
  exact (h2 q (key m P q hP k)).1 ⟨k2, k3⟩
/-- the variable stands there -/
theorem hsv_yes (h : HSV g b S VL t P sen sr hol (n + 1) i) (hv : 0 ≤ g.1 (prx hol n)) (hc : g.2.1 (prx hol n) = t) : OCC g b P t := by
  obtain ⟨dn, vn, ve, ds, wn, we, h1, _⟩ := h
  exact ⟨prx hol n, (h1 n (by omega)).2.2.2.2, hv, hc⟩
/-- the place on top is done; nothing comes for it -/
theorem hsv_skip (h : HSV g b S VL t P sen sr hol (n + 1) i) (hv : 0 ≤ g.1 (prx hol n)) (hc : ¬ g.2.1 (prx hol n) = t) (h256 : g.2.1 (prx hol n) < 256) (hn : ¬ 0 ≤ b (g.2.1 (prx hol n)) ∨ sen (g.2.1 (prx hol n)) = sr) : HSV g b S VL t P sen sr hol n (i + 1) := by
  obtain ⟨dn, vn, ve, ds, wn, we, h1, h2, h3, h4, h5, h6, h7, h8, h9⟩ := h
  have low : ∀ q : Nat, (dn q ∨ ∃ j : Nat, j < n + 1 ∧ prx hol j = q) → (dn q ∨ q = prx hol n) ∨ ∃ j : Nat, j < n ∧ prx hol j = q := fun q w => by
    rcases w with w | ⟨j, j1, j2⟩
    · exact Or.inl (Or.inl w)
    · by_cases e : j = n
      · exact Or.inl (Or.inr (by rw [← j2, e]))
      · exact Or.inr ⟨j, by omega, j2⟩
  refine ⟨fun q => dn q ∨ q = prx hol n, vn, ve, ds, wn, we, fun j hj => h1 j (by omega), fun q hq => ?_, low P h3, fun x hx => ?_, h5, h6, ?_, fun x hx => ?_, h9⟩
  · rcases hq with hq | hq
    · exact ⟨(h2 q hq).1, fun q' hs => low q' ((h2 q hq).2 q' hs)⟩
    · subst hq
      refine ⟨fun w => hc w.2, fun q' hs => ?_⟩
      rcases hs with ⟨w, e⟩ | ⟨w, _⟩
      · rcases hn with hn | hn
        · exact absurd w.2 hn
        · rcases h6 _ h256 hn with ⟨x, x1, x2⟩ | ⟨x, x1, x2⟩
          · have k := low _ (h4 x x1).2.2.2
            rw [x2, ← e] at k
            exact k
          · have k := low _ (h8 x x1).2.2
            rw [x2, ← e] at k
            exact k
      · exact absurd hv w
  · obtain ⟨k1, k2, k3, k4⟩ := h4 x hx
    exact ⟨k1, k2, k3, low _ k4⟩
  · have p := wgt_pos (hsn_pos (h1 n (by omega)).2.2.1)
    have e : wsm ds (n + 1) = wsm ds n + wgt (ds n) := rfl
    omega
  · obtain ⟨k1, k2, k3⟩ := h8 x hx
    exact ⟨k1, k2, low _ k3⟩
/-- a variable that is bound and wasn't gone into yet -/
theorem hsv_into1 {x : Int32} (h7 : ∀ p : Nat, S p → HSn g 7 p) (hcl : CLD g b S) (hVL : g.2.1 (prx hol n) ∈ VL) (h : HSV g b S VL t P sen sr hol (n + 1) i) (hv : 0 ≤ g.1 (prx hol n)) (hc : ¬ g.2.1 (prx hol n) = t) (h256 : g.2.1 (prx hol n) < 256) (hb : 0 ≤ b (g.2.1 (prx hol n))) (hs : ¬ sen (g.2.1 (prx hol n)) = sr) (hx : x.toInt = b (g.2.1 (prx hol n))) (e1 : sen' = upd sen (g.2.1 (prx hol n)) sr) (e2 : hol' = upd hol n x) : HSV g b S VL t P sen' sr hol' (n + 1) (i + 1) := by
  obtain ⟨dn, vn, ve, ds, wn, we, g1, g2, g3, g4, g5, g6, g7, g8, g9⟩ := h
  obtain ⟨k1, k2, k3, k4, k5⟩ := g1 n (by omega)
  obtain ⟨c, ec⟩ : ∃ c : Nat, c = g.2.1 (prx hol n) := ⟨_, rfl⟩
  obtain ⟨p, ep⟩ : ∃ p : Nat, p = prx hol n := ⟨_, rfl⟩
  rw [← ep] at hv hc h256 hb hs hx e1 k1 k3 k5 ec hVL
  rw [← ec] at hc h256 hb hs hx e1 hVL
  have sp : STP g b p (b c).toNat := Or.inl ⟨⟨hv, by rw [← ec]; exact hb⟩, by rw [← ec]⟩
  have sb : S (b c).toNat := hcl _ _ k1 sp
  have hp' : prx hol' n = (b c).toNat := by unfold prx; rw [e2, pk_us, hx]
  have ho : ∀ j : Nat, j < n → prx hol' j = prx hol j := fun j hj => by unfold prx; rw [e2, pk_un (by omega)]
  have low : ∀ q : Nat, (dn q ∨ ∃ j : Nat, j < n + 1 ∧ prx hol j = q) → (dn q ∨ q = p) ∨ ∃ j : Nat, j < n + 1 ∧ prx hol' j = q := fun q w => by
    rcases w with w | ⟨j, j1, j2⟩
    · exact Or.inl (Or.inl w)
    · by_cases e : j = n
      · exact Or.inl (Or.inr (by rw [← j2, e, ep]))
      · exact Or.inr ⟨j, by omega, by rw [ho j (by omega)]; exact j2⟩
  have nv : ∀ x : Nat, x < vn → ve x ≠ c := fun x hx e => hs (by rw [← e]; exact (g4 x hx).2.2.1)
  have nw : ∀ x : Nat, x < wn → we x ≠ c := fun x hx e => hs (by rw [← e]; exact (g8 x hx).2.1)
  refine ⟨fun q => dn q ∨ q = p, vn + 1, fun x => if x = vn then c else ve x, fun j => if j = n then 7 else ds j, wn, we, fun j hj => ?_, fun q hq => ?_, low P g3, fun x hx => ?_, fun x y hx hy e => ?_, fun c' hc' e => ?_, ?_, fun x hx => ?_, g9⟩
  · by_cases e : j = n
    · subst e
      rw [hp']
      simp only [if_pos]
      exact ⟨sb, by omega, h7 _ sb, by omega, rch_tr k5 (rch_stp sp)⟩
    · obtain ⟨l1, l2, l3, l4, l5⟩ := g1 j (by omega)
      rw [ho j (by omega)]
      simp only [if_neg e]
      exact ⟨l1, l2, l3, by omega, l5⟩
  · rcases hq with hq | hq
    · exact ⟨(g2 q hq).1, fun q' w => low q' ((g2 q hq).2 q' w)⟩
    · subst hq
      refine ⟨fun w => hc (ec.trans w.2), fun q' w => ?_⟩
      rcases w with ⟨w, e⟩ | ⟨w, _⟩
      · exact Or.inr ⟨n, by omega, by rw [hp', e, ← ec]⟩
      · exact absurd hv w
  · by_cases e : x = vn
    · simp only [if_pos e]
      exact ⟨hVL, h256, by rw [e1, pk_us], Or.inr ⟨n, by omega, hp'⟩⟩
    · simp only [if_neg e]
      obtain ⟨l1, l2, l3, l4⟩ := g4 x (by omega)
      exact ⟨l1, l2, by rw [e1, pk_un (nv x (by omega))]; exact l3, low _ l4⟩
  · by_cases ex : x = vn
    · by_cases ey : y = vn
      · omega
      · simp only [if_pos ex, if_neg ey] at e
        exact absurd e.symm (nv y (by omega))
    · by_cases ey : y = vn
      · simp only [if_neg ex, if_pos ey] at e
        exact absurd e (nv x (by omega))
      · simp only [if_neg ex, if_neg ey] at e
        exact g5 x y (by omega) (by omega) e
  · by_cases w : c' = c
    · exact Or.inl ⟨vn, by omega, by simp only [if_pos]; exact w.symm⟩
    · rw [e1, pk_un w] at e
      rcases g6 c' hc' e with ⟨x, x1, x2⟩ | q
      · exact Or.inl ⟨x, by omega, by simp only [if_neg (show ¬ x = vn by omega)]; exact x2⟩
      · exact Or.inr q
  · have pw := wgt_pos (hsn_pos k3)
    have e : wsm ds (n + 1) = wsm ds n + wgt (ds n) := rfl
    have e' : wsm (fun j => if j = n then 7 else ds j) (n + 1) = wsm (fun j => if j = n then 7 else ds j) n + wgt (if n = n then 7 else ds n) := rfl
    rw [e', if_pos rfl, wgt_7, wsm_cong (ds := ds) n (fun j hj => by simp only [if_neg (show ¬ j = n by omega)])]
    omega
  · obtain ⟨l1, l2, l3⟩ := g8 x hx
    exact ⟨l1, by rw [e1, pk_un (nw x hx)]; exact l2, low _ l3⟩
/-- .. and is bound to a variable -/
theorem hsv_into2 {x : Int32} (hcl : CLD g b S) (hvb : 0 ≤ g.1 (b (g.2.1 (prx hol n))).toNat) (h : HSV g b S VL t P sen sr hol (n + 1) i) (hv : 0 ≤ g.1 (prx hol n)) (hc : ¬ g.2.1 (prx hol n) = t) (h256 : g.2.1 (prx hol n) < 256) (hb : 0 ≤ b (g.2.1 (prx hol n))) (hs : ¬ sen (g.2.1 (prx hol n)) = sr) (hx : x.toInt = b (g.2.1 (prx hol n))) (e1 : sen' = upd sen (g.2.1 (prx hol n)) sr) (e2 : hol' = upd hol n x) : HSV g b S VL t P sen' sr hol' (n + 1) (i + 1) := by
  obtain ⟨dn, vn, ve, ds, wn, we, g1, g2, g3, g4, g5, g6, g7, g8, g9⟩ := h
  obtain ⟨k1, k2, k3, k4, k5⟩ := g1 n (by omega)
  obtain ⟨c, ec⟩ : ∃ c : Nat, c = g.2.1 (prx hol n) := ⟨_, rfl⟩
  obtain ⟨p, ep⟩ : ∃ p : Nat, p = prx hol n := ⟨_, rfl⟩
  rw [← ep] at hv hc h256 hb hs hx e1 k1 k3 k5 ec hvb
  rw [← ec] at hc h256 hb hs hx e1 hvb
  have sp : STP g b p (b c).toNat := Or.inl ⟨⟨hv, by rw [← ec]; exact hb⟩, by rw [← ec]⟩
  have sb : S (b c).toNat := hcl _ _ k1 sp
  have hp' : prx hol' n = (b c).toNat := by unfold prx; rw [e2, pk_us, hx]
  have ho : ∀ j : Nat, j < n → prx hol' j = prx hol j := fun j hj => by unfold prx; rw [e2, pk_un (by omega)]
  have low : ∀ q : Nat, (dn q ∨ ∃ j : Nat, j < n + 1 ∧ prx hol j = q) → (dn q ∨ q = p) ∨ ∃ j : Nat, j < n + 1 ∧ prx hol' j = q := fun q w => by
    rcases w with w | ⟨j, j1, j2⟩
    · exact Or.inl (Or.inl w)
    · by_cases e : j = n
      · exact Or.inl (Or.inr (by rw [← j2, e, ep]))
      · exact Or.inr ⟨j, by omega, by rw [ho j (by omega)]; exact j2⟩
  have nv : ∀ x : Nat, x < vn → ve x ≠ c := fun x hx e => hs (by rw [← e]; exact (g4 x hx).2.2.1)
  have nw : ∀ x : Nat, x < wn → we x ≠ c := fun x hx e => hs (by rw [← e]; exact (g8 x hx).2.1)
  have pn := hsn_pos k3
  refine ⟨fun q => dn q ∨ q = p, vn, ve, fun j => if j = n then 1 else ds j, wn + 1, fun x => if x = wn then c else we x, fun j hj => ?_, fun q hq => ?_, low P g3, fun x hx => ?_, g5, fun c' hc' e => ?_, ?_, fun x hx => ?_, fun x y hx hy e => ?_⟩
  · by_cases e : j = n
    · subst e
      rw [hp']
      simp only [if_pos]
      exact ⟨sb, by omega, Or.inl hvb, by omega, rch_tr k5 (rch_stp sp)⟩
    · obtain ⟨l1, l2, l3, l4, l5⟩ := g1 j (by omega)
      rw [ho j (by omega)]
      simp only [if_neg e]
      exact ⟨l1, l2, l3, by omega, l5⟩
  · rcases hq with hq | hq
    · exact ⟨(g2 q hq).1, fun q' w => low q' ((g2 q hq).2 q' w)⟩
    · subst hq
      refine ⟨fun w => hc (ec.trans w.2), fun q' w => ?_⟩
      rcases w with ⟨w, e⟩ | ⟨w, _⟩
      · exact Or.inr ⟨n, by omega, by rw [hp', e, ← ec]⟩
      · exact absurd hv w
  · obtain ⟨l1, l2, l3, l4⟩ := g4 x hx
    exact ⟨l1, l2, by rw [e1, pk_un (nv x hx)]; exact l3, low _ l4⟩
  · by_cases w : c' = c
    · exact Or.inr ⟨wn, by omega, by simp only [if_pos]; exact w.symm⟩
    · rw [e1, pk_un w] at e
      rcases g6 c' hc' e with q | ⟨x, x1, x2⟩
      · exact Or.inl q
      · exact Or.inr ⟨x, by omega, by simp only [if_neg (show ¬ x = wn by omega)]; exact x2⟩
  · have pw := wgt_pos (hsn_pos k3)
    have e : wsm ds (n + 1) = wsm ds n + wgt (ds n) := rfl
    have e' : wsm (fun j => if j = n then 1 else ds j) (n + 1) = wsm (fun j => if j = n then 1 else ds j) n + wgt (if n = n then 1 else ds n) := rfl
    have w1 : wgt 1 = 1 := by decide
    rw [e', if_pos rfl, w1, wsm_cong (ds := ds) n (fun j hj => by simp only [if_neg (show ¬ j = n by omega)])]
    omega
  · by_cases e : x = wn
    · simp only [if_pos e]
      exact ⟨h256, by rw [e1, pk_us], Or.inr ⟨n, by omega, hp'⟩⟩
    · simp only [if_neg e]
      obtain ⟨l1, l2, l3⟩ := g8 x (by omega)
      exact ⟨l1, by rw [e1, pk_un (nw x (by omega))]; exact l2, low _ l3⟩
  · by_cases ex : x = wn
    · by_cases ey : y = wn
      · omega
      · simp only [if_pos ex, if_neg ey] at e
        exact absurd e.symm (nw y (by omega))
    · by_cases ey : y = wn
      · simp only [if_neg ex, if_pos ey] at e
        exact absurd e (nw x (by omega))
      · simp only [if_neg ex, if_neg ey] at e
        exact g9 x y (by omega) (by omega) e
theorem hsv_into {x : Int32} (h7 : ∀ p : Nat, S p → HSn g 7 p) (hcl : CLD g b S) (hVL : g.2.1 (prx hol n) ∈ VL ∨ 0 ≤ g.1 (b (g.2.1 (prx hol n))).toNat) (h : HSV g b S VL t P sen sr hol (n + 1) i) (hv : 0 ≤ g.1 (prx hol n)) (hc : ¬ g.2.1 (prx hol n) = t) (h256 : g.2.1 (prx hol n) < 256) (hb : 0 ≤ b (g.2.1 (prx hol n))) (hs : ¬ sen (g.2.1 (prx hol n)) = sr) (hx : x.toInt = b (g.2.1 (prx hol n))) (e1 : sen' = upd sen (g.2.1 (prx hol n)) sr) (e2 : hol' = upd hol n x) : HSV g b S VL t P sen' sr hol' (n + 1) (i + 1) := by
  rcases hVL with hVL | hVL
  · exact hsv_into1 h7 hcl hVL h hv hc h256 hb hs hx e1 e2
  · exact hsv_into2 hcl hVL h hv hc h256 hb hs hx e1 e2
/-- a name: its terms come -/
theorem hsv_kids {N : Nat} (hcl : CLD g b S) (h : HSV g b S VL t P sen sr hol (n + 1) i) (hv : ¬ 0 ≤ g.1 (prx hol n)) (hr : 0 ≤ g.2.2.2.1 (prx hol n) ∧ g.2.2.2.1 (prx hol n) ≤ 3) (hN : N = n + (g.2.2.2.1 (prx hol n)).toNat) (ho : ∀ j : Nat, j < n → hol' j = hol j) (hk : ∀ k : Nat, (k : Int) < g.2.2.2.1 (prx hol n) → prx hol' (n + k) = g.2.2.2.2 (prx hol n) k) : HSV g b S VL t P sen sr hol' N (i + 1) := by
  obtain ⟨dn, vn, ve, ds, wn, we, g1, g2, g3, g4, g5, g6, g7, g8, g9⟩ := h
  obtain ⟨k1, k2, k3, k4, k5⟩ := g1 n (by omega)
  obtain ⟨p, ep⟩ : ∃ p : Nat, p = prx hol n := ⟨_, rfl⟩
  rw [← ep] at hv hr hN hk k1 k3 k5
  obtain ⟨d, ed⟩ : ∃ d : Nat, ds n = d + 1 := ⟨ds n - 1, by have := hsn_pos k3; omega⟩
  rw [ed] at k2 k3 k4
  have hp : ∀ j : Nat, j < n → prx hol' j = prx hol j := fun j hj => by unfold prx; rw [ho j hj]
  have low : ∀ q : Nat, (dn q ∨ ∃ j : Nat, j < n + 1 ∧ prx hol j = q) → (dn q ∨ q = p) ∨ ∃ j : Nat, j < N ∧ prx hol' j = q := fun q w => by
    rcases w with w | ⟨j, j1, j2⟩
    · exact Or.inl (Or.inl w)
    · by_cases e : j = n
      · exact Or.inl (Or.inr (by rw [← j2, e, ep]))
      · exact Or.inr ⟨j, by omega, by rw [hp j (by omega)]; exact j2⟩
  have hd : ∀ k : Nat, (k : Int) < g.2.2.2.1 p → HSn g d (g.2.2.2.2 p k) := fun k hk' => by
    rcases k3 with w | w
    · exact absurd w hv
    · exact w k hk'
  refine ⟨fun q => dn q ∨ q = p, vn, ve, fun j => if j < n then ds j else d, wn, we, fun j hj => ?_, fun q hq => ?_, low P g3, fun x hx => ?_, g5, g6, ?_, fun x hx => ?_, g9⟩
  · by_cases e : j < n
    · simp only [if_pos e]
      rw [hp j e]; exact g1 j (by omega)
    · simp only [if_neg e]
      have q := hk (j - n) (by omega)
      rw [show n + (j - n) = j by omega] at q
      have st : STP g b p (g.2.2.2.2 p (j - n)) := Or.inr ⟨hv, j - n, by omega, rfl⟩
      rw [q]
      exact ⟨hcl _ _ k1 st, by omega, hd _ (by omega), by omega, rch_tr k5 (rch_stp st)⟩
  · rcases hq with hq | hq
    · exact ⟨(g2 q hq).1, fun q' w => low q' ((g2 q hq).2 q' w)⟩
    · subst hq
      refine ⟨fun w => hv w.1, fun q' w => ?_⟩
      rcases w with ⟨w, _⟩ | ⟨_, k, w1, w2⟩
      · exact absurd w.1 hv
      · exact Or.inr ⟨n + k, by omega, by rw [hk k w1, w2]⟩
  · obtain ⟨l1, l2, l3, l4⟩ := g4 x hx
    exact ⟨l1, l2, l3, low _ l4⟩
  · have e : wsm ds (n + 1) = wsm ds n + wgt (ds n) := rfl
    have w7 : wgt (ds n) = 1 + 3 * wgt d := by rw [ed]; rfl
    have wd := wgt_ge d
    have key : ∀ m : Nat, wsm (fun j => if j < n then ds j else d) (n + m) = wsm ds n + m * wgt d := by
      intro m
      induction m with
      | zero =>
        rw [Nat.add_zero, wsm_cong (ds := ds) n (fun j hj => by simp only [if_pos hj])]
        simp
      | succ m ih =>
        have e2 : wsm (fun j => if j < n then ds j else d) (n + (m + 1)) = wsm (fun j => if j < n then ds j else d) (n + m) + wgt (if n + m < n then ds (n + m) else d) := rfl
        rw [e2, ih, if_neg (by omega)]
        rw [show ((m + 1 : Nat) : Int) = (m : Int) + 1 by omega, Int.add_mul, Int.one_mul, Int.add_assoc]
    rw [hN, key]
    have m3 : ((g.2.2.2.1 p).toNat : Int) * wgt d ≤ 3 * wgt d := Int.mul_le_mul_of_nonneg_right (by omega) wd
    omega
  · obtain ⟨l1, l2, l3⟩ := g8 x hx
    exact ⟨l1, l2, low _ l3⟩
end HS
/-! a place that is bare, in so many steps -/
section BR
variable {g : GVT} {b : Nat → Int}
theorem brF_add : ∀ (n m p : Nat), brF g b (n + m) p = brF g b m (brF g b n p) := by
  intro n
  induction n with
  | zero => intro m p; rw [Nat.zero_add]; rfl
  | succ n ih =>
    intro m p
    rw [show n + 1 + m = (n + m) + 1 by omega, brF_s, brF_s]
    by_cases c : 0 ≤ g.1 p ∧ 0 ≤ b (g.2.1 p)
    · rw [if_pos c, if_pos c]; exact ih m _
    · rw [if_neg c, if_neg c, brF_ter (show TER g b p from c)]
/-- no more steps than cells -/
theorem bre_256 {p q : Nat} (h : BRE g b p q) (hc : ∀ n : Nat, 0 ≤ g.1 (brF g b n p) → g.2.1 (brF g b n p) < 256) : brF g b 256 p = q := by
  obtain ⟨n, e, t⟩ := h
  have least : ∃ m : Nat, TER g b (brF g b m p) ∧ ∀ j : Nat, j < m → ¬ TER g b (brF g b j p) := by
    have key : ∀ n : Nat, TER g b (brF g b n p) → ∃ m : Nat, TER g b (brF g b m p) ∧ ∀ j : Nat, j < m → ¬ TER g b (brF g b j p) := by
      intro n
      induction n using Nat.strongRecOn with
      | ind n ih =>
        intro hn
        by_cases w : ∃ j : Nat, j < n ∧ TER g b (brF g b j p)
        · obtain ⟨j, j1, j2⟩ := w
          exact ih j j1 j2
        · exact ⟨n, hn, fun j hj hq => w ⟨j, hj, hq⟩⟩
    exact key n (by rw [e]; exact t)
  obtain ⟨m, m1, m2⟩ := least
  have st : ∀ j : Nat, j < m → 0 ≤ g.1 (brF g b j p) ∧ 0 ≤ b (g.2.1 (brF g b j p)) := fun j hj => by
    by_cases w : 0 ≤ g.1 (brF g b j p) ∧ 0 ≤ b (g.2.1 (brF g b j p))
    · exact w
    · exact absurd w (m2 j hj)
  have ne : ∀ i j : Nat, i < j → j < m → g.2.1 (brF g b i p) ≠ g.2.1 (brF g b j p) := fun i j a c w => by
    have e1 : brF g b (i + 1) p = brF g b (j + 1) p := by
      rw [brF_add i 1, brF_add j 1, brF_s, brF_s, if_pos (st i (by omega)), if_pos (st j c), w]
    have e2 : brF g b (i + 1 + (m - (j + 1))) p = brF g b m p := by
      rw [brF_add, e1, ← brF_add]
      rw [show j + 1 + (m - (j + 1)) = m by omega]
    exact m2 (i + 1 + (m - (j + 1))) (by omega) (by rw [e2]; exact m1)
  have k := inj_le m (fun i => g.2.1 (brF g b i p)) (List.range 256) (fun i hi => List.mem_range.mpr (hc i (st i hi).1)) (fun i j a c w => by
    rcases Nat.lt_trichotomy i j with x | x | x
    · exact absurd w (ne i j x c)
    · exact x
    · exact absurd w.symm (ne j i x a))
  rw [List.length_range] at k
  rw [show 256 = m + (256 - m) by omega, brF_add, brF_ter m1]
  exact bre_un ⟨m, rfl, m1⟩ ⟨n, e, t⟩
end BR
