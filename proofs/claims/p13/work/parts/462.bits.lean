def kbt (x : Int32) (i : Nat) : Bool := x.toBitVec.getLsbD i
theorem kb_ext {x y : Int32} (h : ∀ i, i < 32 → kbt x i = kbt y i) : x = y := Int32.toBitVec_inj.mp (BitVec.eq_of_getLsbD_eq (fun i hi => h i hi))
theorem kb_or (x y : Int32) (i : Nat) : kbt (x ||| y) i = (kbt x i || kbt y i) := by unfold kbt; rw [Int32.toBitVec_or, BitVec.getLsbD_or]
theorem kb_and (x y : Int32) (i : Nat) : kbt (x &&& y) i = (kbt x i && kbt y i) := by unfold kbt; rw [Int32.toBitVec_and, BitVec.getLsbD_and]
theorem kb_xor (x y : Int32) (i : Nat) : kbt (x ^^^ y) i = (kbt x i ^^ kbt y i) := by unfold kbt; rw [Int32.toBitVec_xor, BitVec.getLsbD_xor]
theorem kb_big {x : Int32} {i : Nat} (h : 32 ≤ i) : kbt x i = false := BitVec.getLsbD_of_ge _ _ h
theorem kb_m1 : ∀ i, i < 32 → kbt (-1) i = true := by decide +kernel
theorem kb_0 (i : Nat) : kbt 0 i = false := BitVec.getLsbD_zero
theorem ks_l : ∀ n, n < 32 → ((nI n &&& 31).toBitVec.smod 32).toNat = n := by decide +kernel
theorem kb_shl (n : Nat) (hn : n < 32) (x : Int32) {i : Nat} (hi : i < 32) : kbt (x <<< (nI n &&& 31)) i = (decide (n ≤ i) && kbt x (i - n)) := by
  unfold kbt
  rw [Int32.toBitVec_shiftLeft]
  show (x.toBitVec <<< ((nI n &&& 31).toBitVec.smod 32).toNat).getLsbD i = _
  rw [ks_l n hn, BitVec.getLsbD_shiftLeft]
  rcases Nat.lt_or_ge i n with h | h
  · simp [h, Nat.not_le.mpr h]
  · simp [hi, h, Nat.not_lt.mpr h]
theorem kb_sshr (n : Nat) (hn : n < 32) (x : Int32) {i : Nat} (hi : i < 32) : kbt (x >>> (nI n &&& 31)) i = if n + i < 32 then kbt x (n + i) else kbt x 31 := by
  unfold kbt
  rw [Int32.toBitVec_shiftRight]
  show (x.toBitVec.sshiftRight ((nI n &&& 31).toBitVec.smod 32).toNat).getLsbD i = _
  rw [ks_l n hn, BitVec.getLsbD_sshiftRight, BitVec.msb_eq_getLsbD_last]
  simp [hi]
