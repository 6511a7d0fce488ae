/-! nodes moved down, rows copied: exactly -/
def MVE {α : Type} (s : Int) (k : Int) (f u : Nat → α) : Prop := (∀ x : Nat, (x : Int) < k → u x = f (s.toNat + x)) ∧ ∀ x : Nat, k ≤ (x : Int) → u x = f x
theorem mve_zero {α : Type} {s k : Int} {f : Nat → α} (h : k = 0) : MVE s k f f := ⟨fun x hx => absurd hx (by omega), fun _ _ => rfl⟩
theorem mve_cast {α : Type} {s k k' : Int} {f u : Nat → α} (h : MVE s k f u) (e : k = k') : MVE s k' f u := by rw [← e]; exact h
theorem mve_step {s k k' : Int} {f u u' : Nat → Int32} {i j v : Int32} (h : MVE s k f u) (h0 : 0 ≤ k) (hs : 0 ≤ s) (hi : i.toInt = k) (hj : j.toInt = s + k) (hv : v = u (Int32.toNatClampNeg j)) (he : u' = upd u (Int32.toNatClampNeg i) v) (hk : k' = k + 1) : MVE s k' f u' := by
  have ci := clamp_toInt (i := i) (by omega)
  have cj := clamp_toInt (i := j) (by omega)
  refine ⟨fun x hx => ?_, fun x hx => ?_⟩
  · by_cases e : x = Int32.toNatClampNeg i
    · have e2 : s.toNat + x = Int32.toNatClampNeg j := by omega
      rw [he, e2, ← e, pk_us, hv, h.2 _ (by omega)]
    · rw [he, pk_un e]; exact h.1 x (by omega)
  · rw [he, pk_un (by omega)]; exact h.2 x (by omega)
theorem mve_stepL {s k k' : Int} {f u u' : Nat → Int64} {i j : Int32} {v : Int64} (h : MVE s k f u) (h0 : 0 ≤ k) (hs : 0 ≤ s) (hi : i.toInt = k) (hj : j.toInt = s + k) (hv : v = u (Int32.toNatClampNeg j)) (he : u' = vp_updL u (Int32.toNatClampNeg i) v) (hk : k' = k + 1) : MVE s k' f u' := by
  have ci := clamp_toInt (i := i) (by omega)
  have cj := clamp_toInt (i := j) (by omega)
  refine ⟨fun x hx => ?_, fun x hx => ?_⟩
  · by_cases e : x = Int32.toNatClampNeg i
    · have e2 : s.toNat + x = Int32.toNatClampNeg j := by omega
      rw [he, e2, ← e, pk_uLs, hv, h.2 _ (by omega)]
    · rw [he, pk_uLn e]; exact h.1 x (by omega)
  · rw [he, pk_uLn (by omega)]; exact h.2 x (by omega)
def dnX (s v : Int) : Int := if v = -1 then -1 else v - s
def MVC (s k : Int) (f u : Nat → Int32) : Prop := (∀ x : Nat, (x : Int) < k → (u x).toInt = dnX s (f (s.toNat + x)).toInt) ∧ ∀ x : Nat, k ≤ (x : Int) → u x = f x
theorem mvc_zero {s k : Int} {f : Nat → Int32} (h : k = 0) : MVC s k f f := ⟨fun x hx => absurd hx (by omega), fun _ _ => rfl⟩
theorem mvc_cast {s k k' : Int} {f u : Nat → Int32} (h : MVC s k f u) (e : k = k') : MVC s k' f u := by rw [← e]; exact h
theorem mvc_step {s k k' : Int} {f u u' : Nat → Int32} {i j v w : Int32} (h : MVC s k f u) (h0 : 0 ≤ k) (hs : 0 ≤ s) (hi : i.toInt = k) (hj : j.toInt = s + k) (hw : w = u (Int32.toNatClampNeg j)) (hv : (w.toInt = -1 ∧ v.toInt = -1) ∨ (¬ w.toInt = -1 ∧ v.toInt = w.toInt - s)) (he : u' = upd u (Int32.toNatClampNeg i) v) (hk : k' = k + 1) : MVC s k' f u' := by
  have ci := clamp_toInt (i := i) (by omega)
  have cj := clamp_toInt (i := j) (by omega)
  refine ⟨fun x hx => ?_, fun x hx => ?_⟩
  · by_cases e : x = Int32.toNatClampNeg i
    · have e2 : s.toNat + x = Int32.toNatClampNeg j := by omega
      rw [he, e2, ← e, pk_us]
      rw [h.2 _ (by omega)] at hw
      rw [← hw]
      unfold dnX
      rcases hv with ⟨a, b⟩ | ⟨a, b⟩
      · rw [if_pos a]; exact b
      · rw [if_neg a]; exact b
    · rw [he, pk_un e]; exact h.1 x (by omega)
  · rw [he, pk_un (by omega)]; exact h.2 x (by omega)
theorem dnX_no {s v : Int} (h : v = -1 ∨ s ≤ v) (hs : 0 ≤ s) : (dnX s v = -1 ↔ v = -1) := by
  unfold dnX
  by_cases c : v = -1
  · rw [if_pos c]; exact ⟨fun _ => c, fun _ => rfl⟩
  · rw [if_neg c]; exact ⟨fun q => by omega, fun q => absurd q c⟩
theorem dnX_yes {s v : Int} (h : ¬ v = -1) : dnX s v = v - s := if_neg h
theorem clamp_dn {s : Int} {v u : Int32} (hs : 0 ≤ s) (h : s ≤ v.toInt) (e : u.toInt = dnX s v.toInt) : Int32.toNatClampNeg u = Int32.toNatClampNeg v - s.toNat := by
  rw [dnX_yes (by omega)] at e
  rw [clamp_nat (i := u) (by omega), clamp_nat (i := v) (by omega)]
  omega
theorem vsh_mv {s N : Int} {hh : Nat → Nat} {nv nv' : Nat → Int32} {nn nn' : Nat → Int64} {A A' B B' C C' : Nat → Int32} {k : Int} (hs : 0 ≤ s) (hk : k = N - s) (hn : ND s N hh A B C) (h1 : MVE s k nv nv') (h2 : MVE s k nn nn') (h3 : MVC s k A A') (h4 : MVC s k B B') (h5 : MVC s k C C') : VSH (RVW nv nn A B C) (RVW nv' nn' A' B' C') s.toNat s.toNat N.toNat := by
  intro x hl hx
  have e : s.toNat + (x - s.toNat) = x := by omega
  have k1 := h1.1 (x - s.toNat) (by omega)
  have k2 := h2.1 (x - s.toNat) (by omega)
  have k3 := h3.1 (x - s.toNat) (by omega)
  have k4 := h4.1 (x - s.toNat) (by omega)
  have k5 := h5.1 (x - s.toNat) (by omega)
  rw [e] at k1 k2 k3 k4 k5
  obtain ⟨n1, n2, n3, -⟩ := hn x (by omega) (by omega)
  unfold NDk at n1 n2 n3
  have d1 := dnX_no (s := s) (v := (A x).toInt) (by omega) hs
  have d2 := dnX_no (s := s) (v := (B x).toInt) (by omega) hs
  have d3 := dnX_no (s := s) (v := (C x).toInt) (by omega) hs
  rw [← k3] at d1
  rw [← k4] at d2
  rw [← k5] at d3
  refine ⟨?_, ?_, ?_, ?_⟩
  · show (nv' (x - s.toNat)).toInt = (nv x).toInt
    rw [k1]
  · show (nn' (x - s.toNat)).toInt = (nn x).toInt
    rw [k2]
  · show (if (A' (x - s.toNat)).toInt = -1 then (0 : Int) else if (B' (x - s.toNat)).toInt = -1 then 1 else if (C' (x - s.toNat)).toInt = -1 then 2 else 3) = (if (A x).toInt = -1 then 0 else if (B x).toInt = -1 then 1 else if (C x).toInt = -1 then 2 else 3)
    simp only [d1, d2, d3]
  · intro j hj
    have hj2 : (j : Int) < (if (A x).toInt = -1 then (0 : Int) else if (B x).toInt = -1 then 1 else if (C x).toInt = -1 then 2 else 3) := hj
    show Int32.toNatClampNeg (if j = 0 then A' (x - s.toNat) else if j = 1 then B' (x - s.toNat) else C' (x - s.toNat)) = Int32.toNatClampNeg (if j = 0 then A x else if j = 1 then B x else C x) - s.toNat
    by_cases q1 : (A x).toInt = -1
    · rw [if_pos q1] at hj2; omega
    · rw [if_neg q1] at hj2
      by_cases j0 : j = 0
      · rw [if_pos j0, if_pos j0]; exact clamp_dn hs (by omega) k3
      · rw [if_neg j0, if_neg j0]
        by_cases q2 : (B x).toInt = -1
        · rw [if_pos q2] at hj2; omega
        · rw [if_neg q2] at hj2
          by_cases j1 : j = 1
          · rw [if_pos j1, if_pos j1]; exact clamp_dn hs (by omega) k4
          · rw [if_neg j1, if_neg j1]
            by_cases q3 : (C x).toInt = -1
            · rw [if_pos q3] at hj2; omega
            · exact clamp_dn hs (by omega) k5
/-- terms of literals moved down -/
def TME (s R K L : Int) (mny f u : Nat → Int32) : Prop := ∀ c l : Nat, 16 ≤ c → (c : Int) < R → (l : Int) < (mny c).toInt → l < 6 → (u (6 * c + l)).toInt = (f (6 * c + l)).toInt - (if (c : Int) < K ∨ ((c : Int) = K ∧ (l : Int) < L) then s else 0)
theorem tme_zero {s R K L : Int} {mny f : Nat → Int32} (hK : K = 16) (hL : L = 0) : TME s R K L mny f f := fun c l h1 h2 h3 h4 => by
  rw [if_neg (by omega)]; omega
theorem tme_cast {s R K K' L L' : Int} {mny f u : Nat → Int32} (h : TME s R K L mny f u) (e : K = K') (e2 : L = L') : TME s R K' L' mny f u := by rw [← e, ← e2]; exact h
theorem tme_step {s R K L L' : Int} {mny f u u' : Nat → Int32} {i t v w : Int32} (h : TME s R K L mny f u) (h0 : 16 ≤ K) (hL : 0 ≤ L ∧ L ≤ 5) (hi : i.toInt = 6 * K + L) (ht : t.toInt = 6 * K + L) (hw : w = u (Int32.toNatClampNeg t)) (hv : v.toInt = w.toInt - s) (he : u' = upd u (Int32.toNatClampNeg i) v) (hL' : L' = L + 1) : TME s R K L' mny f u' := fun c l h1 h2 h3 h4 => by
  have ci := clamp_toInt (i := i) (by omega)
  have ct := clamp_toInt (i := t) (by omega)
  have q := h c l h1 h2 h3 h4
  by_cases e : 6 * c + l = Int32.toNatClampNeg i
  · have e3 : Int32.toNatClampNeg t = 6 * c + l := by omega
    rw [if_neg (by omega)] at q
    rw [e3] at hw
    rw [if_pos (by omega), he, e, pk_us, ← e]
    rw [hv, hw]; omega
  · rw [he, pk_un e, q]
    by_cases z : (c : Int) < K ∨ ((c : Int) = K ∧ (l : Int) < L)
    · rw [if_pos z, if_pos (by omega)]
    · rw [if_neg z, if_neg (by omega)]
theorem tme_next {s R K K' L : Int} {mny f u : Nat → Int32} {i : Int32} (h : TME s R K L mny f u) (hi : i.toInt = K) (h0 : 0 ≤ K) (hm : (mny (Int32.toNatClampNeg i)).toInt ≤ L) (hK : K' = K + 1) : TME s R K' 0 mny f u := fun c l h1 h2 h3 h4 => by
  have ci := clamp_toInt (i := i) (by omega)
  have q := h c l h1 h2 h3 h4
  rw [q]
  by_cases e : (c : Int) = K
  · have e2 : c = Int32.toNatClampNeg i := by omega
    rw [← e2] at hm
    rw [if_pos (by omega), if_pos (by omega)]
  · by_cases z : (c : Int) < K
    · rw [if_pos (by omega), if_pos (by omega)]
    · rw [if_neg (by omega), if_neg (by omega)]
theorem lsh_tme {s R K : Int} {mny vrs isn tem tem' : Nat → Int32} {c : Nat} {N : Int} {hh : Nat → Nat} (h : TME s R K 0 mny tem tem') (hK : K = R) (hs : 0 ≤ s) (hc : ((16 + c : Nat) : Int) < R) (ht : TM s N hh 16 R mny tem) (h6 : (mny (16 + c)).toInt ≤ 6) : LSH (RLX 16 mny vrs isn tem) (RLX 16 mny vrs isn tem') s.toNat c := by
  refine ⟨rfl, rfl, fun k hk => ⟨?_, rfl⟩⟩
  have hk2 : (k : Int) < (mny (16 + c)).toInt := hk
  have q := h (16 + c) k (by omega) hc hk2 (by omega)
  have b := ht (16 + c) k (by omega) hc hk2 (by omega)
  rw [if_pos (by omega)] at q
  show Int32.toNatClampNeg (tem' (6 * (16 + c) + k)) = Int32.toNatClampNeg (tem (6 * (16 + c) + k)) - s.toNat
  rw [clamp_nat (by omega), clamp_nat (by omega), q]
  omega
/-- rows of clauses copied -/
theorem nar_b (x : Int32) : vp_nar .boolean x = x &&& 1 := rfl
theorem nar_b01 (x : Int32) : 0 ≤ (vp_nar .boolean x).toInt ∧ (vp_nar .boolean x).toInt ≤ 1 := by
  rw [nar_b]
  have h := i_andr (x := x) (m := 1) (b := 1) 1 (by decide) (by decide) (by decide)
  exact ⟨h.1, h.2⟩
theorem nar_same {x : Int32} (h : 0 ≤ x.toInt ∧ x.toInt ≤ 1) : vp_nar .boolean x = x := by
  rw [nar_b]
  rcases (show x.toInt = 0 ∨ x.toInt = 1 by omega) with e | e
  · have e2 : x = 0 := Int32.toInt_inj.mp (by rw [e]; decide)
    rw [e2]; decide
  · have e2 : x = 1 := Int32.toInt_inj.mp (by rw [e]; decide)
    rw [e2]; decide
