/-! a clause dropped -/
def shX (a c : Int) (j : Nat) : Nat := if a ≤ (j : Int) ∧ (j : Int) < c then j + 1 else j
theorem shX_in {a c : Int} {j : Nat} (h : a ≤ (j : Int) ∧ (j : Int) < c) : shX a c j = j + 1 := if_pos h
theorem shX_out {a c : Int} {j : Nat} (h : ¬ (a ≤ (j : Int) ∧ (j : Int) < c)) : shX a c j = j := if_neg h
theorem shX_far {a c : Int} {j : Nat} (h : ¬ (j : Int) = c) : shX a (c + 1) j = shX a c j := by
  by_cases q : a ≤ (j : Int) ∧ (j : Int) < c
  · rw [shX_in q, shX_in (by omega)]
  · rw [shX_out q, shX_out (by omega)]
def RMC (a c : Int) (lit lit' vas vas' pls pls' fst fst' : Nat → Int32) : Prop := ∀ j : Nat, lit' j = lit (shX a c j) ∧ vas' j = vas (shX a c j) ∧ pls' j = pls (shX a c j) ∧ ∀ k : Nat, k < 6 → fst' (6 * j + k) = fst (6 * shX a c j + k)
theorem rmc_zero {a c : Int} {lit vas pls fst : Nat → Int32} (h : c = a) : RMC a c lit lit vas vas pls pls fst fst := fun j => by
  rw [shX_out (by omega)]; exact ⟨rfl, rfl, rfl, fun _ _ => rfl⟩
theorem rmc_cast {a c c' : Int} {lit lit' vas vas' pls pls' fst fst' : Nat → Int32} (h : RMC a c lit lit' vas vas' pls pls' fst fst') (e : c = c') : RMC a c' lit lit' vas vas' pls pls' fst fst' := by rw [← e]; exact h
theorem upd_row {f f' : Nat → Int32} {i i1 : Int32} {c : Int} (h0 : 0 ≤ c) (hi : i.toInt = c) (h1 : i1.toInt = c + 1) (he : f' = upd f (Int32.toNatClampNeg i) (f (Int32.toNatClampNeg i1))) (j : Nat) : f' j = if (j : Int) = c then f (j + 1) else f j := by
  have ci := clamp_toInt (i := i) (by omega)
  have c1 := clamp_toInt (i := i1) (by omega)
  by_cases e : (j : Int) = c
  · have e1 : j = Int32.toNatClampNeg i := by omega
    have e2 : Int32.toNatClampNeg i1 = j + 1 := by omega
    rw [if_pos e, he, ← e1, pk_us, e2]
  · rw [if_neg e, he, pk_un (by omega)]
theorem rmc_step {a c c' : Int} {lit lit' lit'' vas vas' vas'' pls pls' pls'' fst fst' fst'' : Nat → Int32} {i1 i2 i3 i j1 j2 z w : Int32} (h : RMC a c lit lit' vas vas' pls pls' fst fst') (h0 : 0 ≤ a ∧ a ≤ c) (hi : i.toInt = c) (h1 : i1.toInt = c + 1) (h2 : i2.toInt = c + 1) (h3 : i3.toInt = c + 1) (e1 : lit'' = upd lit' (Int32.toNatClampNeg i) (lit' (Int32.toNatClampNeg i1))) (e2 : vas'' = upd vas' (Int32.toNatClampNeg i) (vas' (Int32.toNatClampNeg i2))) (e3 : pls'' = upd pls' (Int32.toNatClampNeg i) (pls' (Int32.toNatClampNeg i3))) (hz : z.toInt = 6 * (c + 1)) (hw : w.toInt = 6 * c) (e4 : fst'' = va_cpy fst' fst' (Int32.toNatClampNeg z) (Int32.toNatClampNeg w) (Int32.toNatClampNeg 6)) (hc : c' = c + 1) : RMC a c' lit lit'' vas vas'' pls pls'' fst fst'' := fun j => by
  subst hc
  have cz := clamp_toInt (i := z) (by omega)
  have cw := clamp_toInt (i := w) (by omega)
  have c6 : Int32.toNatClampNeg 6 = 6 := by decide
  have r1 := upd_row (by omega) hi h1 e1 j
  have r2 := upd_row (by omega) hi h2 e2 j
  have r3 := upd_row (by omega) hi h3 e3 j
  by_cases e : (j : Int) = c
  · obtain ⟨a1, a2, a3, a4⟩ := h (j + 1)
    rw [shX_out (by omega)] at a1 a2 a3 a4
    rw [if_pos e] at r1 r2 r3
    rw [shX_in (by omega)]
    refine ⟨r1.trans a1, r2.trans a2, r3.trans a3, fun k hk => ?_⟩
    rw [e4]
    show (if Int32.toNatClampNeg w ≤ 6 * j + k ∧ 6 * j + k < Int32.toNatClampNeg w + Int32.toNatClampNeg 6 then fst' (Int32.toNatClampNeg z + (6 * j + k - Int32.toNatClampNeg w)) else fst' (6 * j + k)) = fst (6 * (j + 1) + k)
    rw [if_pos (by omega)]
    have e5 : Int32.toNatClampNeg z + (6 * j + k - Int32.toNatClampNeg w) = 6 * (j + 1) + k := by omega
    rw [e5]; exact a4 k hk
  · obtain ⟨a1, a2, a3, a4⟩ := h j
    rw [if_neg e] at r1 r2 r3
    rw [shX_far e]
    refine ⟨r1.trans a1, r2.trans a2, r3.trans a3, fun k hk => ?_⟩
    rw [e4]
    show (if Int32.toNatClampNeg w ≤ 6 * j + k ∧ 6 * j + k < Int32.toNatClampNeg w + Int32.toNatClampNeg 6 then fst' (Int32.toNatClampNeg z + (6 * j + k - Int32.toNatClampNeg w)) else fst' (6 * j + k)) = fst (6 * shX a c j + k)
    rw [if_neg (by omega)]; exact a4 k hk
/-- the reference's rows -/
def RMR (a c : Int) (mny mny' vrs vrs' isn isn' tem tem' : Nat → Int32) : Prop := ∀ j : Nat, mny' j = mny (shX a c j) ∧ vrs' j = vrs (shX a c j) ∧ ∀ k : Nat, k < 6 → isn' (6 * j + k) = isn (6 * shX a c j + k) ∧ tem' (6 * j + k) = tem (6 * shX a c j + k)
theorem rmr_zero {a c : Int} {mny vrs isn tem : Nat → Int32} (h : c = a) : RMR a c mny mny vrs vrs isn isn tem tem := fun j => by
  rw [shX_out (by omega)]; exact ⟨rfl, rfl, fun _ _ => ⟨rfl, rfl⟩⟩
theorem rmr_cast {a c c' : Int} {mny mny' vrs vrs' isn isn' tem tem' : Nat → Int32} (h : RMR a c mny mny' vrs vrs' isn isn' tem tem') (e : c = c') : RMR a c' mny mny' vrs vrs' isn isn' tem tem' := by rw [← e]; exact h
theorem cpt_row {f g : Nat → Int32} {p q : Int32} {c : Int} (h : CPT 6 f g p q) (h0 : 0 ≤ c) (hp : p.toInt = c + 1) (hq : q.toInt = c) (j k : Nat) (hk : k < 6) : g (6 * j + k) = if (j : Int) = c then f (6 * (j + 1) + k) else f (6 * j + k) := by
  rw [h (6 * j + k)]
  by_cases e : (j : Int) = c
  · have e3 : (6 * p.toInt + (((6 * j + k : Nat) : Int) - 6 * q.toInt)).toNat = 6 * (j + 1) + k := by omega
    rw [if_pos (by omega), if_pos e, e3]
  · rw [if_neg (by omega), if_neg e]
theorem rmr_step {a c c' : Int} {mny mny' mny'' vrs vrs' vrs'' isn isn' isn'' tem tem' tem'' : Nat → Int32} {p q : Int32} (h : RMR a c mny mny' vrs vrs' isn isn' tem tem') (h0 : 0 ≤ a ∧ a ≤ c) (hp : p.toInt = c + 1) (hq : q.toInt = c) (e1 : mny'' = upd mny' (Int32.toNatClampNeg q) (mny' (Int32.toNatClampNeg p))) (e2 : vrs'' = upd vrs' (Int32.toNatClampNeg q) (vrs' (Int32.toNatClampNeg p))) (e3 : CPT 6 isn' isn'' p q) (e4 : CPT 6 tem' tem'' p q) (hc : c' = c + 1) : RMR a c' mny mny'' vrs vrs'' isn isn'' tem tem'' := fun j => by
  subst hc
  have r1 := upd_row (by omega) hq hp e1 j
  have r2 := upd_row (by omega) hq hp e2 j
  by_cases e : (j : Int) = c
  · obtain ⟨a1, a2, a4⟩ := h (j + 1)
    rw [shX_out (by omega)] at a1 a2 a4
    rw [if_pos e] at r1 r2
    rw [shX_in (by omega)]
    refine ⟨r1.trans a1, r2.trans a2, fun k hk => ⟨?_, ?_⟩⟩
    · rw [cpt_row e3 (by omega) hp hq j k hk, if_pos e]; exact (a4 k hk).1
    · rw [cpt_row e4 (by omega) hp hq j k hk, if_pos e]; exact (a4 k hk).2
  · obtain ⟨a1, a2, a4⟩ := h j
    rw [if_neg e] at r1 r2
    rw [shX_far e]
    refine ⟨r1.trans a1, r2.trans a2, fun k hk => ⟨?_, ?_⟩⟩
    · rw [cpt_row e3 (by omega) hp hq j k hk, if_neg e]; exact (a4 k hk).1
    · rw [cpt_row e4 (by omega) hp hq j k hk, if_neg e]; exact (a4 k hk).2
theorem tlq_drop {V W : VWT} {lit lit' vas vas' pls pls' fst fst' mny mny' vrs vrs' isn isn' tem tem' : Nat → Int32} {a c n n' : Int} (h : TLQ V W (CLW lit vas pls fst) (RLX 0 mny vrs isn tem) n) (hl : RMC a c lit lit' vas vas' pls pls' fst fst') (hr : RMR a c mny mny' vrs vrs' isn isn' tem tem') (hn : n' = n - 1) (hc : c ≤ n') : TLQ V W (CLW lit' vas' pls' fst') (RLX 0 mny' vrs' isn' tem') n' := fun j hj => by
  obtain ⟨a1, a2, a3, a4⟩ := hl j
  obtain ⟨b1, b2, b4⟩ := hr j
  have hs : ((shX a c j : Nat) : Int) < n := by
    by_cases q : a ≤ (j : Int) ∧ (j : Int) < c
    · rw [shX_in q]; omega
    · rw [shX_out q]; omega
  obtain ⟨c1, c2, c3, c4, kf, c5⟩ := h (shX a c j) hs
  have c1' : (lit (shX a c j)).toInt = (mny (0 + shX a c j)).toInt := c1
  have c2' : (vas (shX a c j)).toInt = (vrs (0 + shX a c j)).toInt := c2
  have c3' : 1 ≤ (lit (shX a c j)).toInt := c3
  have c4' : (lit (shX a c j)).toInt ≤ 6 := c4
  rw [Nat.zero_add] at c1' c2'
  refine ⟨?_, ?_, ?_, ?_, kf, fun k hk => ?_⟩
  · show (lit' j).toInt = (mny' (0 + j)).toInt
    rw [Nat.zero_add, a1, b1]; exact c1'
  · show (vas' j).toInt = (vrs' (0 + j)).toInt
    rw [Nat.zero_add, a2, b2]; exact c2'
  · show 1 ≤ (lit' j).toInt
    rw [a1]; exact c3'
  · show (lit' j).toInt ≤ 6
    rw [a1]; exact c4'
  · have hk2 : (k : Int) < (lit' j).toInt := hk
    rw [a1] at hk2
    have h6 : k < 6 := by omega
    obtain ⟨⟨d1, d0, d3⟩, d2, d4⟩ := c5 k hk2
    have d1' : EQX V W kf 7 (Int32.toNatClampNeg (fst (6 * shX a c j + k))) (Int32.toNatClampNeg (tem (6 * (0 + shX a c j) + k))) := d1
    have d2' : (pls (shX a c j)).toInt / (2 : Int) ^ k % 2 = 1 - (isn (6 * (0 + shX a c j) + k)).toInt := d2
    rw [Nat.zero_add] at d1' d2'
    refine ⟨⟨?_, ?_, ?_⟩, ?_, ?_⟩
    · show EQX V W kf 7 (Int32.toNatClampNeg (fst' (6 * j + k))) (Int32.toNatClampNeg (tem' (6 * (0 + j) + k)))
      rw [Nat.zero_add, a4 k h6, (b4 k h6).2]; exact d1'
    · show V.1 (Int32.toNatClampNeg (fst' (6 * j + k))) = -1
      rw [a4 k h6]; exact d0
    · show szX V 7 (Int32.toNatClampNeg (fst' (6 * j + k))) ≤ 300
      rw [a4 k h6]; exact d3
    · show (pls' j).toInt / (2 : Int) ^ k % 2 = 1 - (isn' (6 * (0 + j) + k)).toInt
      rw [Nat.zero_add, a3, (b4 k h6).1]; exact d2'
    · show lnX (nlQ 8) V 7 (Int32.toNatClampNeg (fst' (6 * j + k))) ≤ 599 + (pls' j).toInt / (2 : Int) ^ k % 2
      rw [a4 k h6, a3]; exact d4
