/-! terms of the reference: their parts, the variables in them -/
def npx (nv na nb nc : Nat → Int32) (x : Nat) : Int := if ¬ (nv x).toInt = -1 ∨ (na x).toInt = -1 then 0 else if (nb x).toInt = -1 then 1 else if (nc x).toInt = -1 then 2 else 3
def ptx (na nb nc : Nat → Int32) (x : Nat) (k : Int) : Int32 := if k = 0 then na x else if k = 1 then nb x else nc x
theorem ch_ok {N : Int} {hz : Nat → Nat} {nv na nb nc : Nat → Int32} {x : Nat} {k : Int} (h : ND 0 N hz na nb nc) (hx : (x : Int) < N) (hk : 0 ≤ k ∧ k < npx nv na nb nc x) : 0 ≤ (ptx na nb nc x k).toInt ∧ (ptx na nb nc x k).toInt < N ∧ hz (ptx na nb nc x k).toInt.toNat < hz x := by
  obtain ⟨a, b, c, -⟩ := h x (by omega) hx
  unfold npx at hk
  unfold ptx
  by_cases e1 : ¬ (nv x).toInt = -1 ∨ (na x).toInt = -1
  · rw [if_pos e1] at hk; omega
  rw [if_neg e1] at hk
  by_cases e2 : (nb x).toInt = -1
  · rw [if_pos e2] at hk
    rw [if_pos (by omega)]
    rcases a with a | a
    · omega
    · exact a
  rw [if_neg e2] at hk
  by_cases k0 : k = 0
  · rw [if_pos k0]
    rcases a with a | a
    · omega
    · exact a
  rw [if_neg k0]
  by_cases k1 : k = 1
  · rw [if_pos k1]
    rcases b with b | b
    · omega
    · exact b
  rw [if_neg k1]
  by_cases e3 : (nc x).toInt = -1
  · rw [if_pos e3] at hk; omega
  rcases c with c | c
  · omega
  · exact c
def OCd (nv na nb nc : Nat → Int32) : Nat → Nat → Int → Prop
  | 0, x, v => (nv x).toInt = v ∧ ¬ v = -1
  | d + 1, x, v => ((nv x).toInt = v ∧ ¬ v = -1) ∨ ∃ k : Int, 0 ≤ k ∧ k < npx nv na nb nc x ∧ OCd nv na nb nc d (ptx na nb nc x k).toInt.toNat v
def OC (nv na nb nc : Nat → Int32) (x : Nat) (v : Int) : Prop := ∃ d, OCd nv na nb nc d x v
section OCX
variable {nv na nb nc : Nat → Int32} {x : Nat} {v k : Int}
theorem oc_var (h : ¬ (nv x).toInt = -1) : OC nv na nb nc x (nv x).toInt := ⟨0, rfl, h⟩
theorem oc_ch (hk : 0 ≤ k ∧ k < npx nv na nb nc x) (h : OC nv na nb nc (ptx na nb nc x k).toInt.toNat v) : OC nv na nb nc x v := by
  obtain ⟨d, h⟩ := h
  exact ⟨d + 1, Or.inr ⟨k, hk.1, hk.2, h⟩⟩
theorem oc_cases (h : OC nv na nb nc x v) : ((nv x).toInt = v ∧ ¬ v = -1) ∨ ∃ k : Int, 0 ≤ k ∧ k < npx nv na nb nc x ∧ OC nv na nb nc (ptx na nb nc x k).toInt.toNat v := by
  obtain ⟨d, h⟩ := h
  cases d with
  | zero => exact Or.inl h
  | succ d =>
    rcases h with h | ⟨k, a, b, c⟩
    · exact Or.inl h
    · exact Or.inr ⟨k, a, b, d, c⟩
theorem npx_var (h : ¬ (nv x).toInt = -1) : npx nv na nb nc x = 0 := if_pos (Or.inl h)
theorem oc_isvar (h : ¬ (nv x).toInt = -1) (ho : OC nv na nb nc x v) : v = (nv x).toInt := by
  rcases oc_cases ho with ⟨a, -⟩ | ⟨k, a, b, -⟩
  · exact a.symm
  · rw [npx_var h] at b; omega
theorem ocd_rng (hr : Rg (-1) 7 nv) (d : Nat) : ∀ x : Nat, OCd nv na nb nc d x v → 0 ≤ v ∧ v ≤ 7 := by
  induction d with
  | zero => intro x h; have := hr x; have h2 := h.1; have h3 := h.2; omega
  | succ d ih =>
    intro x h
    rcases h with h | ⟨k, -, -, h⟩
    · have := hr x; have h2 := h.1; have h3 := h.2; omega
    · exact ih _ h
theorem oc_rng (hr : Rg (-1) 7 nv) (h : OC nv na nb nc x v) : 0 ≤ v ∧ v ≤ 7 := by
  obtain ⟨d, h⟩ := h
  exact ocd_rng hr d x h
end OCX
theorem pigeon {P : List Nat} {n : Nat} (h : P.Nodup) (hp : ∀ p ∈ P, p < n) : P.length ≤ n := by
  have := List.Nodup.length_le_of_subset (l₁ := P) (l₂ := List.range n) h (fun p q => List.mem_range.mpr (hp p q))
  rwa [List.length_range] at this
/-! what is bound: a rank that falls, so no circle -/
def VR (i0 : Int) (nv na nb nc bto bin : Nat → Int32) (r : Nat → Nat) : Prop := ∀ s : Nat, 8 * i0 ≤ (s : Int) → s < 256 → ¬ (bto s).toInt = -1 → ∀ v : Int, OC nv na nb nc (bto s).toInt.toNat v → r (8 * (bin s).toInt + v).toNat < r s
def WB (i0 i1 N : Int) (bto bin : Nat → Int32) : Prop := ∀ s : Nat, 8 * i0 ≤ (s : Int) → s < 256 → ¬ (bto s).toInt = -1 → 0 ≤ (bto s).toInt ∧ (bto s).toInt < N ∧ i0 ≤ (bin s).toInt ∧ (bin s).toInt ≤ i1 ∧ (s : Int) < 8 * i1 + 8
def BI (i0 i1 N : Int) (hz : Nat → Nat) (nv na nb nc bto bin : Nat → Int32) : Prop := ND 0 N hz na nb nc ∧ WB i0 i1 N bto bin ∧ ∃ r, VR i0 nv na nb nc bto bin r
def PA (i0 : Int) (P : List Nat) (nv na nb nc bto bin : Nat → Int32) (x : Nat) (i : Int) : Prop := P.Nodup ∧ (∀ p ∈ P, p < 256) ∧ ∀ r, VR i0 nv na nb nc bto bin r → ∀ p ∈ P, ∀ v : Int, OC nv na nb nc x v → r (8 * i + v).toNat < r p
def CLO (nv na nb nc bto bin : Nat → Int32) (M : Nat → Prop) : Prop := ∀ t : Nat, M t → ¬ (bto t).toInt = -1 → ∀ v : Int, OC nv na nb nc (bto t).toInt.toNat v → M (8 * (bin t).toInt + v).toNat
def AV (nv na nb nc bto bin : Nat → Int32) (t q : Nat) : Prop := ∃ M, CLO nv na nb nc bto bin M ∧ ¬ M t ∧ M q
def NR (nv na nb nc bto bin : Nat → Int32) (x : Nat) (i : Int) (t : Nat) : Prop := ∀ v : Int, OC nv na nb nc x v → AV nv na nb nc bto bin t (8 * i + v).toNat
section BIX
variable {i0 i1 N i k : Int} {hz : Nat → Nat} {nv na nb nc bto bin bto' bin' tra : Nat → Int32} {P : List Nat} {x s t : Nat} {v : Int}
theorem pa_nil : PA i0 [] nv na nb nc bto bin x i := ⟨List.nodup_nil, fun p h => absurd h List.not_mem_nil, fun r _ p h => absurd h List.not_mem_nil⟩
theorem pa_go (hB : BI i0 i1 N hz nv na nb nc bto bin) (hP : PA i0 P nv na nb nc bto bin x i) (hv : ¬ (nv x).toInt = -1) (hvr : 0 ≤ (nv x).toInt ∧ (nv x).toInt ≤ 7) (hi : 0 ≤ i0 ∧ i0 ≤ i ∧ i ≤ 31) (hs : (s : Int) = 8 * i + (nv x).toInt) (hb : ¬ (bto s).toInt = -1) : PA i0 (s :: P) nv na nb nc bto bin (bto s).toInt.toNat (bin s).toInt ∧ P.length + 1 ≤ 256 := by
  obtain ⟨-, -, r0, hr0⟩ := hB
  have es : (8 * i + (nv x).toInt).toNat = s := by omega
  have key : ∀ r, VR i0 nv na nb nc bto bin r → ∀ p ∈ P, r s < r p := fun r hr p hp => by
    have := hP.2.2 r hr p hp _ (oc_var hv)
    rwa [es] at this
  have hnd : (s :: P).Nodup := List.nodup_cons.mpr ⟨fun q => Nat.lt_irrefl _ (key r0 hr0 s q), hP.1⟩
  have hlt : ∀ p ∈ s :: P, p < 256 := fun p hp => by
    rcases List.mem_cons.mp hp with e | e
    · omega
    · exact hP.2.1 p e
  refine ⟨⟨hnd, hlt, fun r hr p hp v ho => ?_⟩, ?_⟩
  · have h1 := hr s (by omega) (by omega) hb v ho
    rcases List.mem_cons.mp hp with e | e
    · rw [e]; exact h1
    · exact Nat.lt_trans h1 (key r hr p e)
  · have := pigeon hnd hlt
    simpa using this
theorem pa_ch (hP : PA i0 P nv na nb nc bto bin x i) (hk : 0 ≤ k ∧ k < npx nv na nb nc x) : PA i0 P nv na nb nc bto bin (ptx na nb nc x k).toInt.toNat i := ⟨hP.1, hP.2.1, fun r hr p hp v ho => hP.2.2 r hr p hp v (oc_ch hk ho)⟩
theorem pa_len (hP : PA i0 P nv na nb nc bto bin x i) : P.length ≤ 256 := pigeon hP.1 hP.2.1
theorem wb_at (hB : BI i0 i1 N hz nv na nb nc bto bin) (hs : 8 * i0 ≤ (s : Int) ∧ s < 256) (hb : ¬ (bto s).toInt = -1) : 0 ≤ (bto s).toInt ∧ (bto s).toInt < N ∧ i0 ≤ (bin s).toInt ∧ (bin s).toInt ≤ i1 ∧ (s : Int) < 8 * i1 + 8 := hB.2.1 s hs.1 hs.2 hb
theorem av_clo : CLO nv na nb nc bto bin (AV nv na nb nc bto bin t) := fun q ⟨M, h1, h2, h3⟩ hb v ho => ⟨M, h1, h2, h1 q h3 hb v ho⟩
theorem av_not : ¬ AV nv na nb nc bto bin t t := fun ⟨_, _, h2, h3⟩ => h2 h3
theorem nr_go (hv : ¬ (nv x).toInt = -1) (hs : (s : Int) = 8 * i + (nv x).toInt) (hb : ¬ (bto s).toInt = -1) (ht : (bto t).toInt = -1) (h : NR nv na nb nc bto bin (bto s).toInt.toNat (bin s).toInt t) : NR nv na nb nc bto bin x i t := by
  intro v ho
  have ev := oc_isvar hv ho
  have es : (8 * i + v).toNat = s := by omega
  rw [es]
  refine ⟨fun q => q = s ∨ AV nv na nb nc bto bin t q, ?_, ?_, Or.inl rfl⟩
  · intro q hq hbq w how
    rcases hq with e | hq
    · rw [e] at how ⊢; exact Or.inr (h w how)
    · exact Or.inr (av_clo q hq hbq w how)
  · intro hq
    rcases hq with e | hq
    · rw [e] at ht; exact hb ht
    · exact av_not hq
theorem nr_var (hv : ¬ (nv x).toInt = -1) (hs : (s : Int) = 8 * i + (nv x).toInt) (hb : (bto s).toInt = -1) (hn : ¬ t = s) : NR nv na nb nc bto bin x i t := by
  intro v ho
  have ev := oc_isvar hv ho
  have es : (8 * i + v).toNat = s := by omega
  rw [es]
  refine ⟨fun q => q = s, ?_, hn, rfl⟩
  intro q hq hbq
  rw [hq] at hbq; exact absurd hb hbq
theorem nr_node (hv : (nv x).toInt = -1) (h : ∀ k : Int, 0 ≤ k → k < npx nv na nb nc x → NR nv na nb nc bto bin (ptx na nb nc x k).toInt.toNat i t) : NR nv na nb nc bto bin x i t := by
  intro v ho
  rcases oc_cases ho with ⟨a, b⟩ | ⟨k, a, b, c⟩
  · exact absurd (a.symm.trans hv) b
  · exact h k a b v c
/-- an unbound slot is bound to what doesn't have it -/
theorem bi_bind (hB : BI i0 i1 N hz nv na nb nc bto bin) (hr : Rg (-1) 7 nv) {b bi : Int32} (hb : (bto s).toInt = -1) (hn : NR nv na nb nc bto bin b.toInt.toNat bi.toInt s) (hx : 0 ≤ b.toInt ∧ b.toInt < N) (hi : i0 ≤ bi.toInt ∧ bi.toInt ≤ i1) (hs : (s : Int) < 8 * i1 + 8) : BI i0 i1 N hz nv na nb nc (upd bto s b) (upd bin s bi) := by
  obtain ⟨h1, h2, r, h3⟩ := hB
  refine ⟨h1, ?_, ?_⟩
  · intro q g1 g2 g3
    by_cases e : q = s
    · rw [e, pk_us, pk_us]; omega
    · rw [pk_un e] at g3
      rw [pk_un e, pk_un e]; exact h2 q g1 g2 g3
  · classical
    have hsum : ∀ v : Int, 0 ≤ v → v ≤ 7 → r (8 * bi.toInt + v).toNat < 1 + (r (8 * bi.toInt + 0).toNat + r (8 * bi.toInt + 1).toNat + r (8 * bi.toInt + 2).toNat + r (8 * bi.toInt + 3).toNat + r (8 * bi.toInt + 4).toNat + r (8 * bi.toInt + 5).toNat + r (8 * bi.toInt + 6).toNat + r (8 * bi.toInt + 7).toNat) := by
      intro v v0 v7
      have : v = 0 ∨ v = 1 ∨ v = 2 ∨ v = 3 ∨ v = 4 ∨ v = 5 ∨ v = 6 ∨ v = 7 := by omega
      rcases this with rfl | rfl | rfl | rfl | rfl | rfl | rfl | rfl <;> omega
    generalize 1 + (r (8 * bi.toInt + 0).toNat + r (8 * bi.toInt + 1).toNat + r (8 * bi.toInt + 2).toNat + r (8 * bi.toInt + 3).toNat + r (8 * bi.toInt + 4).toNat + r (8 * bi.toInt + 5).toNat + r (8 * bi.toInt + 6).toNat + r (8 * bi.toInt + 7).toNat) = K at hsum
    refine ⟨fun q => if AV nv na nb nc bto bin s q then r q else r q + K, ?_⟩
    intro q g1 g2 g3 v ho
    by_cases e : q = s
    · rw [e, pk_us] at ho
      rw [e, pk_us]
      have := hn v ho
      have hv := oc_rng hr ho
      dsimp only
      rw [if_pos this, if_neg av_not]
      have := hsum v hv.1 hv.2
      omega
    · rw [pk_un e] at g3 ho
      rw [pk_un e]
      have hlt := h3 q g1 g2 g3 v ho
      dsimp only
      by_cases a : AV nv na nb nc bto bin s q
      · rw [if_pos a, if_pos (av_clo q a g3 v ho)]; exact hlt
      · rw [if_neg a]
        split <;> omega
/-- what is bound less -/
theorem bi_sub (hB : BI i0 i1 N hz nv na nb nc bto bin) (h : ∀ q : Nat, 8 * i0 ≤ (q : Int) → q < 256 → ¬ (bto' q).toInt = -1 → bto' q = bto q ∧ bin' q = bin q) : BI i0 i1 N hz nv na nb nc bto' bin' := by
  obtain ⟨h1, h2, r, h3⟩ := hB
  refine ⟨h1, fun q g1 g2 g3 => ?_, r, fun q g1 g2 g3 v ho => ?_⟩
  · obtain ⟨e1, e2⟩ := h q g1 g2 g3
    rw [e1] at g3
    rw [e1, e2]; exact h2 q g1 g2 g3
  · obtain ⟨e1, e2⟩ := h q g1 g2 g3
    rw [e1] at g3 ho
    rw [e2]; exact h3 q g1 g2 g3 v ho
end BIX
/-! the trail -/
def TRL (T : Int) (tra bto : Nat → Int32) : Prop := (∀ i j : Nat, (i : Int) < T → (j : Int) < T → (tra i).toInt = (tra j).toInt → i = j) ∧ ∀ i : Nat, (i : Int) < T → ¬ (bto (tra i).toInt.toNat).toInt = -1
def GRW (T T' : Int) (bto bin tra bto' bin' tra' : Nat → Int32) : Prop := T ≤ T' ∧ (∀ s : Nat, s < 256 → ¬ (bto s).toInt = -1 → bto' s = bto s ∧ bin' s = bin s) ∧ (∀ i : Nat, (i : Int) < T → tra' i = tra i) ∧ (∀ i : Nat, T ≤ (i : Int) → (i : Int) < T' → (bto (tra' i).toInt.toNat).toInt = -1) ∧ (∀ s : Nat, s < 256 → ¬ (bto' s).toInt = -1 → ¬ (bto s).toInt = -1 ∨ ∃ i : Nat, T ≤ (i : Int) ∧ (i : Int) < T' ∧ (tra' i).toInt = s)
def TBK (T' T : Int) (bto tra bto' : Nat → Int32) : Prop := (∀ s : Nat, ¬ (bto' s).toInt = -1 → bto' s = bto s) ∧ (∀ i : Nat, T' ≤ (i : Int) → (i : Int) < T → (bto' (tra i).toInt.toNat).toInt = -1)
section TRX
variable {T T' T'' : Int} {bto bin tra bto' bin' tra' bto'' bin'' tra'' nv na nb nc : Nat → Int32}
theorem gr_refl : GRW T T bto bin tra bto bin tra := ⟨Int.le_refl _, fun _ _ _ => ⟨rfl, rfl⟩, fun _ _ => rfl, fun i h1 h2 => absurd h2 (by omega), fun _ _ h => Or.inl h⟩
theorem gr_trans (hr : Rg 0 255 tra'') (h : GRW T T' bto bin tra bto' bin' tra') (g : GRW T' T'' bto' bin' tra' bto'' bin'' tra'') : GRW T T'' bto bin tra bto'' bin'' tra'' := by
  obtain ⟨a1, a2, a3, a4, a5⟩ := h
  obtain ⟨b1, b2, b3, b4, b5⟩ := g
  refine ⟨by omega, fun s hs hb => ?_, fun i hi => ?_, fun i h1 h2 => ?_, fun s hs hb => ?_⟩
  · obtain ⟨e1, e2⟩ := a2 s hs hb
    obtain ⟨f1, f2⟩ := b2 s hs (by rw [e1]; exact hb)
    exact ⟨f1.trans e1, f2.trans e2⟩
  · rw [b3 i (by omega), a3 i hi]
  · by_cases c : (i : Int) < T'
    · rw [b3 i c]; exact a4 i h1 c
    · have h3 := b4 i (by omega) h2
      have d := hr i
      by_cases e : (bto (tra'' i).toInt.toNat).toInt = -1
      · exact e
      · have := a2 _ (by omega) e
        rw [this.1] at h3; exact absurd h3 e
  · rcases b5 s hs hb with c | ⟨i, c1, c2, c3⟩
    · rcases a5 s hs c with d | ⟨i, d1, d2, d3⟩
      · exact Or.inl d
      · exact Or.inr ⟨i, d1, by omega, by rw [b3 i d2]; exact d3⟩
    · exact Or.inr ⟨i, by omega, c2, c3⟩
theorem gr_bind {k s b bi : Int32} (hT : k.toInt = T) (h0 : 0 ≤ T) (hs : 0 ≤ s.toInt ∧ s.toInt ≤ 255) (hb : (bto s.toNatClampNeg).toInt = -1) : GRW T (T + 1) bto bin tra (upd bto s.toNatClampNeg b) (upd bin s.toNatClampNeg bi) (upd tra k.toNatClampNeg s) := by
  have cs := clamp_nat (i := s) hs.1
  have ck := clamp_nat (i := k) (by omega)
  refine ⟨by omega, fun q hq hbq => ?_, fun i hi => ?_, fun i h1 h2 => ?_, fun q hq hbq => ?_⟩
  · have : q ≠ s.toNatClampNeg := fun e => by rw [e] at hbq; exact hbq hb
    rw [pk_un this, pk_un this]; exact ⟨rfl, rfl⟩
  · rw [pk_un (by omega)]
  · have : i = k.toNatClampNeg := by omega
    rw [this, pk_us, ← cs]; exact hb
  · by_cases e : q = s.toNatClampNeg
    · exact Or.inr ⟨k.toNatClampNeg, by omega, by omega, by rw [pk_us]; omega⟩
    · rw [pk_un e] at hbq; exact Or.inl hbq
theorem trl_bind {k s b : Int32} (h : TRL T tra bto) (hT : k.toInt = T) (h0 : 0 ≤ T) (hs : 0 ≤ s.toInt ∧ s.toInt ≤ 255) (hb : (bto s.toNatClampNeg).toInt = -1) (hx : 0 ≤ b.toInt) : TRL (T + 1) (upd tra k.toNatClampNeg s) (upd bto s.toNatClampNeg b) := by
  have cs := clamp_nat (i := s) hs.1
  have ck := clamp_nat (i := k) (by omega)
  have ne : ∀ i : Nat, (i : Int) < T → ¬ (tra i).toInt.toNat = s.toNatClampNeg := fun i hi e => by
    have := h.2 i hi
    rw [e] at this; exact this hb
  constructor
  · intro i j hi hj e
    by_cases c1 : i = k.toNatClampNeg
    · by_cases c2 : j = k.toNatClampNeg
      · omega
      · rw [c1, pk_us, pk_un c2] at e
        exact absurd (by omega) (ne j (by omega))
    · by_cases c2 : j = k.toNatClampNeg
      · rw [c2, pk_us, pk_un c1] at e
        exact absurd (by omega) (ne i (by omega))
      · rw [pk_un c1, pk_un c2] at e
        exact h.1 i j (by omega) (by omega) e
  · intro i hi
    by_cases c1 : i = k.toNatClampNeg
    · rw [c1, pk_us, ← cs, pk_us]; omega
    · rw [pk_un c1, pk_un (ne i (by omega))]; exact h.2 i (by omega)
/-- the trail has room -/
theorem trl_room {s : Nat} (h : TRL T tra bto) (hr : Rg 0 255 tra) (h0 : 0 ≤ T) (hs : s < 256) (hb : (bto s).toInt = -1) : T ≤ 255 := by
  have h1 : (s :: (List.range T.toNat).map (fun i => (tra i).toInt.toNat)).Nodup := by
    rw [List.nodup_cons]
    constructor
    · intro hm
      obtain ⟨i, hi, e⟩ := List.mem_map.mp hm
      have hi := List.mem_range.mp hi
      have := h.2 i (by omega)
      rw [e] at this; exact this hb
    · rw [List.Nodup, List.pairwise_iff_getElem]
      intro i j hi hj hij e
      rw [List.length_map, List.length_range] at hi hj
      rw [List.getElem_map, List.getElem_map, List.getElem_range, List.getElem_range] at e
      have d1 := hr i
      have d2 := hr j
      have := h.1 i j (by omega) (by omega) (by omega)
      omega
  have h2 := pigeon (n := 256) h1 (fun p hp => by
    rcases List.mem_cons.mp hp with e | hm
    · omega
    · obtain ⟨i, hi, e⟩ := List.mem_map.mp hm
      have d1 := hr i
      omega)
  rw [List.length_cons, List.length_map, List.length_range] at h2
  omega
theorem tb_refl : TBK T T bto tra bto := ⟨fun _ _ => rfl, fun i h1 h2 => absurd h2 (by omega)⟩
theorem tb_step {k z : Int32} (h : TBK T' T bto tra bto') (hk : k.toInt = T' - 1) (h0 : 1 ≤ T') (hr : Rg 0 255 tra) (hz : z = tra k.toNatClampNeg) : TBK (T' - 1) T bto tra (upd bto' z.toNatClampNeg (-1)) := by
  have ck := clamp_nat (i := k) (by omega)
  have d := hr k.toNatClampNeg
  rw [← hz] at d
  have cz := clamp_nat (i := z) d.1
  have e1 : (-1 : Int32).toInt = -1 := by decide
  constructor
  · intro s hs
    by_cases e : s = z.toNatClampNeg
    · rw [e, pk_us] at hs; exact absurd e1 hs
    · rw [pk_un e] at hs ⊢; exact h.1 s hs
  · intro i h1 h2
    by_cases e : (tra i).toInt.toNat = z.toNatClampNeg
    · rw [e, pk_us]; exact e1
    · rw [pk_un e]
      by_cases c : (i : Int) = T' - 1
      · have : i = k.toNatClampNeg := by omega
        rw [this, ← hz] at e
        omega
      · exact h.2 i (by omega) h2
theorem trl_step {k z : Int32} (h : TRL T tra bto) (hk : k.toInt = T - 1) (h0 : 1 ≤ T) (hr : Rg 0 255 tra) (hz : z = tra k.toNatClampNeg) : TRL (T - 1) tra (upd bto z.toNatClampNeg (-1)) := by
  have ck := clamp_nat (i := k) (by omega)
  have d := hr k.toNatClampNeg
  rw [← hz] at d
  have cz := clamp_nat (i := z) d.1
  constructor
  · intro i j hi hj e
    exact h.1 i j (by omega) (by omega) e
  · intro i hi
    have ne : (tra i).toInt.toNat ≠ z.toNatClampNeg := fun e => by
      have d2 := hr i
      have : i = k.toNatClampNeg := h.1 i k.toNatClampNeg (by omega) (by omega) (by rw [← hz]; omega)
      omega
    rw [pk_un ne]; exact h.2 i (by omega)
theorem trl_cast (h : TRL T tra bto) (e : T = T') : TRL T' tra bto := by rw [← e]; exact h
theorem tb_cast {S S' : Int} (h : TBK T' T bto tra bto') (e : T' = S') (f : T = S) : TBK S' S bto tra bto' := by rw [← e, ← f]; exact h
theorem gr_cast {S S' : Int} (h : GRW T T' bto bin tra bto' bin' tra') (e : T = S) (f : T' = S') : GRW S S' bto bin tra bto' bin' tra' := by rw [← e, ← f]; exact h
theorem trl_zero : TRL 0 tra bto := ⟨fun i j h => absurd h (by omega), fun i h => absurd h (by omega)⟩
/-- behind a unification that is taken back all is as it was -/
theorem gr_tb (h : GRW T T' bto bin tra bto' bin' tra') (g : TBK T T' bto' tra' bto'') {s : Nat} (hs : s < 256) (hb : ¬ (bto'' s).toInt = -1) : bto'' s = bto s ∧ bin' s = bin s := by
  obtain ⟨a1, a2, a3, a4, a5⟩ := h
  have e1 := g.1 s hb
  rw [e1] at hb
  rcases a5 s hs hb with c | ⟨i, c1, c2, c3⟩
  · have := a2 s hs c
    rw [e1]; exact this
  · have := g.2 i c1 c2
    have e : (tra' i).toInt.toNat = s := by omega
    rw [e, e1] at this
    exact absurd this hb
theorem vr_mono {i0 : Int} {r : Nat → Nat} (h : GRW T T' bto bin tra bto' bin' tra') (hv : VR i0 nv na nb nc bto' bin' r) : VR i0 nv na nb nc bto bin r := by
  intro s h1 h2 h3 v ho
  obtain ⟨e1, e2⟩ := h.2.1 s h2 h3
  have := hv s h1 h2 (by rw [e1]; exact h3) v (by rw [e1]; exact ho)
  rwa [e2] at this
theorem pa_mono {i0 i : Int} {P : List Nat} {x : Nat} (h : GRW T T' bto bin tra bto' bin' tra') (hP : PA i0 P nv na nb nc bto bin x i) : PA i0 P nv na nb nc bto' bin' x i := ⟨hP.1, hP.2.1, fun r hr => hP.2.2 r (vr_mono h hr)⟩
end TRX
theorem tm_get {N b l : Int} {hz : Nat → Nat} {mn tm : Nat → Int32} {c t z : Int32} (h : TM 0 N hz 0 b mn tm) (hc : 0 ≤ c.toInt ∧ c.toInt < b) (hl : 0 ≤ l ∧ l < (mn c.toNatClampNeg).toInt ∧ l < 6) (ht : t.toInt = 6 * c.toInt + l) (hz' : z = tm t.toNatClampNeg) : 0 ≤ z.toInt ∧ z.toInt < N ∧ hz z.toInt.toNat = 7 := by
  have cc := clamp_nat (i := c) hc.1
  have ct := clamp_nat (i := t) (by omega)
  have h1 := h c.toNatClampNeg l.toNat (by omega) (by omega) (by omega) (by omega)
  have e : 6 * c.toNatClampNeg + l.toNat = t.toNatClampNeg := by omega
  rw [e, ← hz'] at h1
  exact h1
