/-! what findWay keeps -/
section FW
variable {m : PRM} {c0 : CFT} {la ra : Nat → Nat} {lf : Nat → LT} {rf : Nat → RT} {sf sf' : Nat → ST} {bnd trl cof : Nat → Int32} {T T' I I' R R' L L' S S' S0 : Int} {n n' : CTT} {j j' : Nat} {o : Option Nat}
theorem stv_at : ∀ (K : List CHT) (T I R L : Int), STV la lf ra rf sf bnd trl cof T I R L K → ∀ (i : Nat) (u : CHT), atK K i = some u → CHV la lf ra rf bnd trl cof (sf i) u := by
  intro K
  induction K with
  | nil => intro T I R L _ i u hu; cases hu
  | cons t K ih =>
    intro T I R L h i u hu
    obtain ⟨_, _, _, _, kc, k6⟩ := h
    by_cases w : i = K.length
    · subst w
      rw [atK_top] at hu
      cases hu
      exact kc
    · exact ih _ _ _ _ k6 i u (atK_low hu w)
theorem atK_some : ∀ (K : List CHT) (i : Nat), i < K.length → ∃ u : CHT, atK K i = some u := by
  intro K
  induction K with
  | nil => intro i hi; exact absurd hi (Nat.not_lt_zero _)
  | cons t K ih =>
    intro i hi
    by_cases w : i = K.length
    · subst w; exact ⟨t, atK_top⟩
    · rw [List.length_cons] at hi
      obtain ⟨u, hu⟩ := ih i (by omega)
      exact ⟨u, atK_up hu⟩
theorem kiv_cli : ∀ (K : List CHT), KIV m K → ∀ (i : Nat) (u : CHT), atK K i = some u → CLI m u := by
  intro K
  induction K with
  | nil => intro _ i u hu; cases hu
  | cons t K ih =>
    intro h i u hu
    by_cases w : i = K.length
    · subst w
      rw [atK_top] at hu
      cases hu
      exact h.2.1
    · exact ih h.2.2 i u (atK_low hu w)
theorem bkx_cast (h : BKX m c0 la lf ra rf sf bnd trl cof T I R L S n) (e1 : T' = T) (e2 : I' = I) (e3 : R' = R) (e4 : L' = L) (e5 : S' = S) : BKX m c0 la lf ra rf sf bnd trl cof T' I' R' L' S' n := by
  subst e1; subst e2; subst e3; subst e4; subst e5; exact h
theorem gox_cast (h : GOX m c0 la lf ra rf sf bnd trl cof T I R L S o n) (e1 : T' = T) (e2 : I' = I) (e3 : R' = R) (e4 : L' = L) (e5 : S' = S) : GOX m c0 la lf ra rf sf bnd trl cof T' I' R' L' S' o n := by
  subst e1; subst e2; subst e3; subst e4; subst e5; exact h
theorem czx_cast (h : CZX m c0 la lf ra rf sf bnd trl cof T I j n) (e1 : T' = T) (e2 : I' = I) (e3 : j' = j) : CZX m c0 la lf ra rf sf bnd trl cof T' I' j' n := by
  subst e1; subst e2; subst e3; exact h
/-- below the latest choice all lemmas were tried -/
theorem bkx_lt (hc : CIV m c0) (h : BKX m c0 la lf ra rf sf bnd trl cof T I R L S n) (hl : m.2.2.2.2.2.2.2.1 = true) (hS : (j : Int) + 1 < S) : (sf j).2.2.2.2.1.toInt = 1 := by
  obtain ⟨K, h1, h2, h3⟩ := h
  have cv := civ_run hc h1
  cases K with
  | nil => rw [List.length_nil] at h2; omega
  | cons t K =>
    rw [List.length_cons] at h2
    obtain ⟨u, hu⟩ := atK_some K j (by omega)
    have c3 := (stv_at _ _ _ _ _ h3.2.2.2.2.2 j u hu).2.2.1
    exact c3.mpr ((kiv_cli K cv.1 j u hu).2.1 hl)
/-- only at the latest choice a lemma may be tried -/
def LTF (m : PRM) (sf : Nat → ST) (S S0 : Int) : Prop := S = S0 ∨ ∀ j : Nat, (j : Int) + 1 = S → m.2.2.2.2.2.2.2.1 = true → (sf j).2.2.2.2.1.toInt = 1
theorem ltf_zero : LTF m sf S S := Or.inl rfl
theorem ltf_back (hc : CIV m c0) (h : BKX m c0 la lf ra rf sf bnd trl cof T I R L S n) (e : S' = S - 1) (ho : ∀ i : Nat, (i : Int) < S - 1 → sf' i = sf i) : LTF m sf' S' S0 := Or.inr fun j hj hl => by
  rw [ho j (by omega)]; exact bkx_lt hc h hl (by omega)
theorem ltf_top (h : LTF m sf S S0) (hj : (j : Int) + 1 = S) (hl : m.2.2.2.2.2.2.2.1 = true) (hn : ¬ (sf j).2.2.2.2.1.toInt = 1) : S = S0 := by
  rcases h with h | h
  · exact h
  · exact absurd (h j hj hl) hn
end FW
/-! no other way from a mark on, step by step -/
section FXS
variable {S9 sf sf' : Nat → ST} {md k k' : Int}
def FXL (S9 sf : Nat → ST) (md k : Int) : Prop := (∀ j : Nat, (j : Int) < md → sf j = S9 j) ∧ (∀ j : Nat, md ≤ (j : Int) → (j : Int) < k → sf j = ((S9 j).1, (S9 j).2.1, (S9 j).2.2.1, (S9 j).2.2.2.1, (S9 j).2.2.2.2.1, (S9 j).2.2.2.2.2.1, (S9 j).2.2.2.2.2.2.1, 1, (S9 j).2.2.2.2.2.2.2.2)) ∧ ∀ j : Nat, k ≤ (j : Int) → sf j = S9 j
theorem fxl_zero (e : k = md) : FXL S9 S9 md k := ⟨fun _ _ => rfl, fun j h1 h2 => absurd h1 (by omega), fun _ _ => rfl⟩
theorem fxl_cast (h : FXL S9 sf md k) (e : k' = k) : FXL S9 sf md k' := by rw [e]; exact h
theorem fxl_step {K : Nat} (h : FXL S9 sf md k) (hK : (K : Int) = k) (hm : md ≤ k) (ho : ∀ j : Nat, j ≠ K → sf' j = sf j) (hs : sf' K = ((sf K).1, (sf K).2.1, (sf K).2.2.1, (sf K).2.2.2.1, (sf K).2.2.2.2.1, (sf K).2.2.2.2.2.1, (sf K).2.2.2.2.2.2.1, 1, (sf K).2.2.2.2.2.2.2.2)) (e : k' = k + 1) : FXL S9 sf' md k' := by
  obtain ⟨h1, h2, h3⟩ := h
  refine ⟨fun j hj => (ho j (by omega)).trans (h1 j hj), fun j h4 h5 => ?_, fun j hj => (ho j (by omega)).trans (h3 j (by omega))⟩
  by_cases w : j = K
  · subst w
    rw [hs, h3 j (by omega)]
  · exact (ho j w).trans (h2 j h4 (by omega))
end FXS
section GF
variable {m : PRM} {la ra : Nat → Nat} {lf : Nat → LT} {rf : Nat → RT} {sf : Nat → ST} {bnd trl cof : Nat → Int32}
theorem bdv_free (hb : ∀ c : Nat, c < 256 → (bnd c).toInt = 0) (hz : BHZ bnd) : BDV bnd = fun _ => -1 := by
  funext c
  have e : (bnd c).toInt = 0 := by
    by_cases w : c < 256
    · exact hb c w
    · exact hz c (by omega)
  unfold BDV; omega
/-- the START's row -/
theorem gox_first {c0 : CFT} {st : Nat} {n : CTT} {o : Option Nat} (e : c0 = GOc [(0, -1, 0, [], [], -1)] [] (fun _ => -1, 1, fun _ => st) n) (hb : ∀ c : Nat, c < 256 → (bnd c).toInt = 0) (hz : BHZ bnd) (hs : (cof 0).toInt = (st : Int)) (h1 : (rf 0).1.toInt = 0) (h2 : (rf 0).2.1.toInt = -1) (h3 : (rf 0).2.2.1.toInt = 0) (h4 : (rf 0).2.2.2.1 = none) (h5 : (rf 0).2.2.2.2.1 = none) (h6 : (rf 0).2.2.2.2.2.1 = none) (h7 : (rf 0).2.2.2.2.2.2.toInt = -1) (ho : o = some (ra 0)) {T I R L S : Int} (eI : I = 1) (eR : R = 1) (eS : S = 0) : GOX m c0 la lf ra rf sf bnd trl cof T I R L S o n := by
  subst e; subst eI; subst eR; subst eS; subst ho
  refine ⟨_, _, _, run_rf, ⟨0, by decide, rfl, ⟨h1, h2, h3, h4, h5, h7⟩, h6⟩, rfl, True.intro, (bdv_free hb hz).symm, rfl, fun i hi => ?_⟩
  have hi : i < 1 := hi
  have e : i = 0 := by omega
  subst e
  exact hs
end GF
theorem ctt_ext {n : CTT} {a b : Int} {c d : Int32} (h1 : n.1 = a) (h2 : n.2.1 = b) (h3 : n.2.2.1 = c) (h4 : n.2.2.2 = d) : n = (a, b, c, d) := by
  obtain ⟨x, y, z, u⟩ := n
  have h1 : x = a := h1
  have h2 : y = b := h2
  have h3 : z = c := h3
  have h4 : u = d := h4
  rw [h1, h2, h3, h4]
