/-! bits; what the search of the reference keeps -/
theorem nrk_step {nv na nb nc bto bin : Nat → Int32} {y t : Nat} {i k : Int} (h : ∀ j : Int, 0 ≤ j → j < k → NR nv na nb nc bto bin (ptx na nb nc y j).toInt.toNat i t) (hk : NR nv na nb nc bto bin (ptx na nb nc y k).toInt.toNat i t) : ∀ j : Int, 0 ≤ j → j < k + 1 → NR nv na nb nc bto bin (ptx na nb nc y j).toInt.toNat i t := fun j h1 h2 => by
  by_cases e : j = k
  · rw [e]; exact hk
  · exact h j h1 (by omega)
def FRE (bto : Nat → Int32) : Prop := ∀ s : Nat, 240 ≤ s → s < 256 → (bto s).toInt = -1
theorem bi_free {N : Int} {hz : Nat → Nat} {nv na nb nc bto bin : Nat → Int32} (h : ND 0 N hz na nb nc) (hf : FRE bto) : BI 30 31 N hz nv na nb nc bto bin := ⟨h, fun s h1 h2 h3 => absurd (hf s (by omega) h2) h3, fun _ => 0, fun s h1 h2 h3 => absurd (hf s (by omega) h2) h3⟩
def SAM (bto bin bto' bin' : Nat → Int32) : Prop := ∀ s : Nat, s < 256 → ¬ (bto' s).toInt = -1 → bto' s = bto s ∧ bin' s = bin s
section SAMX
variable {bto bin bto' bin' bto'' bin'' nv na nb nc : Nat → Int32}
theorem sam_refl : SAM bto bin bto bin := fun _ _ _ => ⟨rfl, rfl⟩
theorem sam_trans (h : SAM bto bin bto' bin') (g : SAM bto' bin' bto'' bin'') : SAM bto bin bto'' bin'' := fun s hs hb => by
  obtain ⟨e1, e2⟩ := g s hs hb
  obtain ⟨f1, f2⟩ := h s hs (by rw [← e1]; exact hb)
  exact ⟨e1.trans f1, e2.trans f2⟩
theorem sam_free (h : SAM bto bin bto' bin') (hf : FRE bto) : FRE bto' := fun s h1 h2 => by
  by_cases e : (bto' s).toInt = -1
  · exact e
  · rw [(h s h2 e).1]; exact hf s h1 h2
theorem sam_bi {i0 i1 N : Int} {hz : Nat → Nat} (h : SAM bto bin bto' bin') (hB : BI i0 i1 N hz nv na nb nc bto bin) : BI i0 i1 N hz nv na nb nc bto' bin' := bi_sub hB (fun q _ h2 h3 => h q h2 h3)
end SAMX
theorem bi_eq0 {i0 i1 N : Int} {hz : Nat → Nat} {nv na nb nc bto bin : Nat → Int32} (h1 : ND 0 N hz na nb nc) (h2 : ∀ s : Nat, s < 256 → (bto s).toInt = -1) : BI i0 i1 N hz nv na nb nc bto bin := ⟨h1, fun s _ g2 g3 => absurd (h2 s g2) g3, fun _ => 0, fun s _ g2 g3 => absurd (h2 s g2) g3⟩
def bt (x k : Int32) : Int := ((x >>> (k &&& 31)) &&& 1).toInt
def pop (x : Int) : Nat := (x % 2 + x / 2 % 2 + x / 4 % 2 + x / 8 % 2 + x / 16 % 2 + x / 32 % 2).toNat
def pw (m : Int) : Int := 2 ^ m.toNat
def bitrm (x k : Int32) : Int32 := x &&& ((1 <<< (k &&& 31)) ^^^ (-1))
set_option maxRecDepth 100000 in
theorem bf_rm : ∀ a : Nat, a < 64 → ∀ j : Nat, j < 6 → bt (nI a) (nI j) = 1 → 0 ≤ (bitrm (nI a) (nI j)).toInt ∧ (bitrm (nI a) (nI j)).toInt < a ∧ pop (bitrm (nI a) (nI j)).toInt + 1 = pop a := by decide +kernel
set_option maxRecDepth 100000 in
theorem bf_lt : ∀ a : Nat, a < 64 → ∀ j : Nat, j < 6 → ∀ m : Nat, m < 7 → a < 2 ^ m → bt (nI a) (nI j) = 1 → j < m := by decide +kernel
set_option maxRecDepth 100000 in
theorem bf_z : ∀ a : Nat, a < 64 → (∀ j : Nat, j < 6 → bt (nI a) (nI j) = 0) → a = 0 := by decide +kernel
set_option maxRecDepth 100000 in
theorem bf_full : ∀ m : Nat, m < 7 → ∀ j : Nat, j < m → 0 ≤ (bitrm (1 <<< (nI m &&& 31) - 1) (nI j)).toInt ∧ (bitrm (1 <<< (nI m &&& 31) - 1) (nI j)).toInt < 2 ^ m ∧ (bitrm (1 <<< (nI m &&& 31) - 1) (nI j)).toInt < 64 ∧ pop (bitrm (1 <<< (nI m &&& 31) - 1) (nI j)).toInt ≤ 5 := by decide +kernel
set_option maxRecDepth 100000 in
theorem bf_all : ∀ m : Nat, m < 7 → 0 ≤ ((1 : Int32) <<< (nI m &&& 31) - 1).toInt ∧ ((1 : Int32) <<< (nI m &&& 31) - 1).toInt < 2 ^ m ∧ ((1 : Int32) <<< (nI m &&& 31) - 1).toInt < 64 ∧ pop ((1 : Int32) <<< (nI m &&& 31) - 1).toInt ≤ 6 := by decide +kernel
theorem bt_01 (x k : Int32) : bt x k = 0 ∨ bt x k = 1 := by
  have := i_andr (x := x >>> (k &&& 31)) (m := 1) (b := 1) 1 (by decide) (by decide) (by decide)
  unfold bt; omega
theorem bit_rm {x k : Int32} (hx : 0 ≤ x.toInt ∧ x.toInt ≤ 63) (hk : 0 ≤ k.toInt ∧ k.toInt ≤ 5) (hb : bt x k = 1) : 0 ≤ (bitrm x k).toInt ∧ (bitrm x k).toInt < x.toInt ∧ pop (bitrm x k).toInt + 1 = pop x.toInt := by
  obtain ⟨a, ha, e, ea⟩ := i_nat (x := x) rfl hx.1
  obtain ⟨j, hj, f, ej⟩ := i_nat (x := k) rfl hk.1
  rw [e, f] at hb ⊢
  have := bf_rm a (by omega) j (by omega) hb
  rw [nI_toInt ha]; exact this
theorem bit_lt {x k : Int32} {m : Int} (hx : 0 ≤ x.toInt ∧ x.toInt ≤ 63) (hk : 0 ≤ k.toInt ∧ k.toInt ≤ 5) (hm : 0 ≤ m ∧ m ≤ 6) (hl : x.toInt < pw m) (hb : bt x k = 1) : k.toInt < m := by
  obtain ⟨a, ha, e, ea⟩ := i_nat (x := x) rfl hx.1
  obtain ⟨j, hj, f, ej⟩ := i_nat (x := k) rfl hk.1
  rw [e, f] at hb
  have h1 : (a : Int) < ((2 ^ m.toNat : Nat) : Int) := by
    unfold pw at hl
    rw [ea] at hl
    simpa using hl
  have := bf_lt a (by omega) j (by omega) m.toNat (by omega) (by omega) hb
  omega
theorem bit_some {x : Int32} {k : Int} (hx : 1 ≤ x.toInt ∧ x.toInt ≤ 63) (h : ∀ j : Nat, (j : Int) < k → bt x (nI j) = 0) : k ≤ 5 := by
  obtain ⟨a, ha, e, ea⟩ := i_nat (x := x) rfl (by omega)
  by_cases c : k ≤ 5
  · exact c
  · have := bf_z a (by omega) (fun j hj => by rw [← e]; exact h j (by omega))
    omega
theorem bit_full {m k : Int32} (hm : 0 ≤ m.toInt ∧ m.toInt ≤ 6) (hk : 0 ≤ k.toInt ∧ k.toInt < m.toInt) : 0 ≤ (bitrm (1 <<< (m &&& 31) - 1) k).toInt ∧ (bitrm (1 <<< (m &&& 31) - 1) k).toInt < pw m.toInt ∧ (bitrm (1 <<< (m &&& 31) - 1) k).toInt ≤ 63 ∧ pop (bitrm (1 <<< (m &&& 31) - 1) k).toInt ≤ 5 := by
  obtain ⟨a, ha, e, ea⟩ := i_nat (x := m) rfl hm.1
  obtain ⟨j, hj, f, ej⟩ := i_nat (x := k) rfl hk.1
  have := bf_full a (by omega) j (by omega)
  rw [ea]
  unfold pw
  rw [e, f]
  have e2 : (a : Int).toNat = a := by omega
  rw [e2]
  omega
theorem bit_all {m : Int32} (hm : 0 ≤ m.toInt ∧ m.toInt ≤ 6) : 0 ≤ ((1 : Int32) <<< (m &&& 31) - 1).toInt ∧ ((1 : Int32) <<< (m &&& 31) - 1).toInt < pw m.toInt ∧ ((1 : Int32) <<< (m &&& 31) - 1).toInt ≤ 63 ∧ pop ((1 : Int32) <<< (m &&& 31) - 1).toInt ≤ 6 := by
  obtain ⟨a, ha, e, ea⟩ := i_nat (x := m) rfl hm.1
  have := bf_all a (by omega)
  rw [ea]
  unfold pw
  rw [e]
  have e2 : (a : Int).toNat = a := by omega
  rw [e2]
  omega
theorem pop_0 : pop 0 = 0 := by decide
/-! chains, frames, instances -/
def CH (C I : Int) (mn cof cin cli cah : Nat → Int32) : Prop := ∀ c : Nat, (c : Int) < C → (cin c).toInt < I ∧ (cli c).toInt < (mn (cof (cin c).toInt.toNat).toInt.toNat).toInt ∧ (cah c).toInt < (c : Int)
def AGC (C : Int) (cin cli cah cin' cli' cah' : Nat → Int32) : Prop := ∀ c : Nat, (c : Int) < C → cin' c = cin c ∧ cli' c = cli c ∧ cah' c = cah c
def AGI (I : Int) (cof cof' : Nat → Int32) : Prop := ∀ i : Nat, (i : Int) < I → cof' i = cof i
def INS (I K : Int) (cof : Nat → Int32) : Prop := ∀ i : Nat, (i : Int) < I → (cof i).toInt < K
def GC (gc : Nat → Nat) (x : Int) : Nat := if x = -1 then 0 else gc x.toNat
def FR (F C I : Int) (mn cof fin fle fpa flm fne : Nat → Int32) (gc : Nat → Nat) : Prop := ∀ f : Nat, (f : Int) < F → (fin f).toInt < I ∧ (fle f).toInt < pw (mn (cof (fin f).toInt.toNat).toInt.toNat).toInt ∧ (fpa f).toInt < C ∧ (flm f).toInt < C ∧ (fne f).toInt < (f : Int) ∧ 2 + 2 * pop (fle f).toInt + GC gc (fne f).toInt ≤ gc f
def AGF (F : Int) (fin fle fpa flm fne fin' fle' fpa' flm' fne' : Nat → Int32) : Prop := ∀ f : Nat, (f : Int) < F → fin' f = fin f ∧ fle' f = fle f ∧ fpa' f = fpa f ∧ flm' f = flm f ∧ fne' f = fne f
section CHX
variable {C C' I I' F F' K : Int} {mn cof cin cli cah cof' cin' cli' cah' cof'' cin'' cli'' cah'' fin fle fpa flm fne fin' fle' fpa' flm' fne' fin'' fle'' fpa'' flm'' fne'' : Nat → Int32} {gc : Nat → Nat}
theorem ch_get {c z1 z2 : Int32} (h : CH C I mn cof cin cli cah) (hc : 0 ≤ c.toInt ∧ c.toInt < C) (e1 : z1 = cin c.toNatClampNeg) (e2 : z2 = cli c.toNatClampNeg) : z1.toInt < I ∧ z2.toInt < (mn (cof z1.toInt.toNat).toInt.toNat).toInt := by
  have cc := clamp_nat (i := c) hc.1
  have := h c.toNatClampNeg (by omega)
  rw [← e1, ← e2] at this
  exact ⟨this.1, this.2.1⟩
theorem ch_ah {c z : Int32} (h : CH C I mn cof cin cli cah) (hc : 0 ≤ c.toInt ∧ c.toInt < C) (e : z = cah c.toNatClampNeg) : z.toInt < c.toInt := by
  have cc := clamp_nat (i := c) hc.1
  have := h c.toNatClampNeg (by omega)
  rw [← e] at this
  omega
theorem ch_less (h : CH C I mn cof cin cli cah) (hc : C' ≤ C) : CH C' I mn cof cin cli cah := fun c hh => h c (by omega)
theorem ch_new {k i x a : Int32} (h : CH C I mn cof cin cli cah) (hk : k.toInt = C) (h0 : 0 ≤ C) (hi : i.toInt < I) (hx : x.toInt < (mn (cof i.toInt.toNat).toInt.toNat).toInt) (ha : a.toInt < C) : CH (C + 1) I mn cof (upd cin k.toNatClampNeg i) (upd cli k.toNatClampNeg x) (upd cah k.toNatClampNeg a) := by
  intro c hc
  have ck := clamp_nat (i := k) (by omega)
  by_cases e : c = k.toNatClampNeg
  · rw [e, pk_us, pk_us, pk_us]; exact ⟨hi, hx, by omega⟩
  · rw [pk_un e, pk_un e, pk_un e]; exact h c (by omega)
theorem agc_new {k i x a : Int32} (hk : k.toInt = C) (h0 : 0 ≤ C) : AGC C cin cli cah (upd cin k.toNatClampNeg i) (upd cli k.toNatClampNeg x) (upd cah k.toNatClampNeg a) := by
  intro c hc
  have ck := clamp_nat (i := k) (by omega)
  rw [pk_un (by omega), pk_un (by omega), pk_un (by omega)]; exact ⟨rfl, rfl, rfl⟩
theorem agc_refl : AGC C cin cli cah cin cli cah := fun _ _ => ⟨rfl, rfl, rfl⟩
theorem agc_trans (h : AGC C cin cli cah cin' cli' cah') (g : AGC C' cin' cli' cah' cin'' cli'' cah'') (hc : C ≤ C') : AGC C cin cli cah cin'' cli'' cah'' := fun c hh => by
  obtain ⟨a1, a2, a3⟩ := h c hh
  obtain ⟨b1, b2, b3⟩ := g c (by omega)
  exact ⟨b1.trans a1, b2.trans a2, b3.trans a3⟩
theorem agi_refl : AGI I cof cof := fun _ _ => rfl
theorem agi_trans (h : AGI I cof cof') (g : AGI I' cof' cof'') (hc : I ≤ I') : AGI I cof cof'' := fun i hi => (g i (by omega)).trans (h i hi)
theorem agi_new {k v : Int32} (hk : k.toInt = I) (h0 : 0 ≤ I) : AGI I cof (upd cof k.toNatClampNeg v) := fun i hi => by
  have ck := clamp_nat (i := k) (by omega)
  rw [pk_un (by omega)]
theorem ch_agr (h : CH C I mn cof cin cli cah) (hr : Rg 0 29 cin) (hc : AGC C cin cli cah cin' cli' cah') (hi : AGI I cof cof') (hI : I ≤ I') : CH C I' mn cof' cin' cli' cah' := fun c hh => by
  obtain ⟨a1, a2, a3⟩ := hc c hh
  obtain ⟨b1, b2, b3⟩ := h c hh
  have := hr c
  rw [a1, a2, a3, hi _ (by omega)]
  exact ⟨by omega, b2, b3⟩
theorem ins_new {k v : Int32} (h : INS I K cof) (hk : k.toInt = I) (h0 : 0 ≤ I) (hv : v.toInt < K) : INS (I + 1) K (upd cof k.toNatClampNeg v) := fun i hi => by
  have ck := clamp_nat (i := k) (by omega)
  by_cases e : i = k.toNatClampNeg
  · rw [e, pk_us]; exact hv
  · rw [pk_un e]; exact h i (by omega)
theorem ins_agr (h : INS I K cof) (hi : AGI I cof cof') : INS I K cof' := fun i hh => by rw [hi i hh]; exact h i hh
theorem fr_get {f z1 z2 z3 z4 z5 : Int32} (h : FR F C I mn cof fin fle fpa flm fne gc) (hf : 0 ≤ f.toInt ∧ f.toInt < F) (e1 : z1 = fin f.toNatClampNeg) (e2 : z2 = fle f.toNatClampNeg) (e3 : z3 = fpa f.toNatClampNeg) (e4 : z4 = flm f.toNatClampNeg) (e5 : z5 = fne f.toNatClampNeg) : z1.toInt < I ∧ z2.toInt < pw (mn (cof z1.toInt.toNat).toInt.toNat).toInt ∧ z3.toInt < C ∧ z4.toInt < C ∧ z5.toInt < f.toInt ∧ 2 + 2 * pop z2.toInt + GC gc z5.toInt ≤ GC gc f.toInt := by
  have cc := clamp_nat (i := f) hf.1
  obtain ⟨a1, a2, a3, a4, a5, a6⟩ := h f.toNatClampNeg (by omega)
  rw [← e1] at a1 a2
  rw [← e2] at a2 a6
  rw [← e3] at a3
  rw [← e4] at a4
  rw [← e5] at a5 a6
  have e : GC gc f.toInt = gc f.toNatClampNeg := by unfold GC; rw [if_neg (by omega), cc]
  rw [e]
  exact ⟨a1, a2, a3, a4, by omega, a6⟩
theorem fr_agr (h : FR F C I mn cof fin fle fpa flm fne gc) (hr : Rg 0 29 fin) (hf : AGF F fin fle fpa flm fne fin' fle' fpa' flm' fne') (hi : AGI I cof cof') (hI : I ≤ I') (hC : C ≤ C') : FR F C' I' mn cof' fin' fle' fpa' flm' fne' gc := fun f hh => by
  obtain ⟨e1, e2, e3, e4, e5⟩ := hf f hh
  obtain ⟨b1, b2, b3, b4, b5, b6⟩ := h f hh
  have := hr f
  rw [e1, e2, e3, e4, e5, hi _ (by omega)]
  exact ⟨by omega, b2, by omega, by omega, b5, b6⟩
theorem fr_new {k i x a b d : Int32} {v : Nat} (h : FR F C I mn cof fin fle fpa flm fne gc) (hne : Rg (-1) 3999 fne) (hk : k.toInt = F) (h0 : 0 ≤ F) (hi : i.toInt < I) (hx : x.toInt < pw (mn (cof i.toInt.toNat).toInt.toNat).toInt) (ha : a.toInt < C) (hb : b.toInt < C) (hd : -1 ≤ d.toInt ∧ d.toInt < F) (hv : 2 + 2 * pop x.toInt + GC gc d.toInt ≤ v) : FR (F + 1) C I mn cof (upd fin k.toNatClampNeg i) (upd fle k.toNatClampNeg x) (upd fpa k.toNatClampNeg a) (upd flm k.toNatClampNeg b) (upd fne k.toNatClampNeg d) (hup gc F.toNat v) := by
  have ck := clamp_nat (i := k) (by omega)
  have gcq : ∀ q : Int, -1 ≤ q → q < F → GC (hup gc F.toNat v) q = GC gc q := fun q h1 h2 => by
    unfold GC
    by_cases e : q = -1
    · rw [if_pos e, if_pos e]
    · rw [if_neg e, if_neg e, hup_ne (by omega)]
  intro f hf
  by_cases e : f = k.toNatClampNeg
  · rw [e, pk_us, pk_us, pk_us, pk_us, pk_us, gcq _ hd.1 hd.2]
    have e2 : k.toNatClampNeg = F.toNat := by omega
    refine ⟨hi, hx, ha, hb, by omega, ?_⟩
    rw [e2, hup_self]; exact hv
  · rw [pk_un e, pk_un e, pk_un e, pk_un e, pk_un e]
    obtain ⟨b1, b2, b3, b4, b5, b6⟩ := h f (by omega)
    have := hne f
    refine ⟨b1, b2, b3, b4, b5, ?_⟩
    rw [gcq _ (by omega) (by omega), hup_ne (by omega)]; exact b6
theorem agf_refl : AGF F fin fle fpa flm fne fin fle fpa flm fne := fun _ _ => ⟨rfl, rfl, rfl, rfl, rfl⟩
theorem agf_new {k i x a b d : Int32} (hk : k.toInt = F) (h0 : 0 ≤ F) : AGF F fin fle fpa flm fne (upd fin k.toNatClampNeg i) (upd fle k.toNatClampNeg x) (upd fpa k.toNatClampNeg a) (upd flm k.toNatClampNeg b) (upd fne k.toNatClampNeg d) := fun f hf => by
  have ck := clamp_nat (i := k) (by omega)
  rw [pk_un (by omega), pk_un (by omega), pk_un (by omega), pk_un (by omega), pk_un (by omega)]; exact ⟨rfl, rfl, rfl, rfl, rfl⟩
theorem agf_trans (h : AGF F fin fle fpa flm fne fin' fle' fpa' flm' fne') (g : AGF F' fin' fle' fpa' flm' fne' fin'' fle'' fpa'' flm'' fne'') (hc : F ≤ F') : AGF F fin fle fpa flm fne fin'' fle'' fpa'' flm'' fne'' := fun f hh => by
  obtain ⟨a1, a2, a3, a4, a5⟩ := h f hh
  obtain ⟨b1, b2, b3, b4, b5⟩ := g f (by omega)
  exact ⟨b1.trans a1, b2.trans a2, b3.trans a3, b4.trans a4, b5.trans a5⟩
theorem gc_none (gc : Nat → Nat) : GC gc (-1) = 0 := rfl
theorem gc_new {v : Nat} (h0 : 0 ≤ F) : GC (hup gc F.toNat v) F = v := by unfold GC; rw [if_neg (by omega), hup_self]
end CHX
theorem bf_sh : ∀ j : Nat, j < 16 → (1 : Int32) <<< (nI j &&& 31) = nI (2 ^ j) := by decide +kernel
theorem or_bit {x k : Int32} (hx : 0 ≤ x.toInt ∧ x.toInt ≤ 65535) (hk : 0 ≤ k.toInt ∧ k.toInt ≤ 15) : x.toInt ≤ (x ||| (1 <<< (k &&& 31))).toInt ∧ (x ||| (1 <<< (k &&& 31))).toInt ≤ 65535 := by
  obtain ⟨a, ha, e, ea⟩ := i_nat (x := x) rfl hx.1
  obtain ⟨j, hj, f, ej⟩ := i_nat (x := k) rfl hk.1
  rw [f, bf_sh j (by omega), e]
  have hb : 2 ^ j < 2 ^ 16 := Nat.pow_lt_pow_right (by omega) (by omega)
  have ha2 : a < 2 ^ 16 := by omega
  have h1 : nI a ||| nI (2 ^ j) = nI (a ||| 2 ^ j) := by
    apply Int32.toBitVec_inj.mp
    apply BitVec.eq_of_toNat_eq
    rw [Int32.toBitVec_or, BitVec.toNat_or, pk_tn (by omega), pk_tn (by omega), pk_tn]
    exact Nat.lt_trans (Nat.or_lt_two_pow ha2 hb) (by omega)
  have h2 := Nat.or_lt_two_pow ha2 hb
  have h3 : a ≤ a ||| 2 ^ j := Nat.left_le_or
  rw [h1, nI_toInt (by omega), nI_toInt (by omega)]
  omega
theorem lz_step {x k : Int32} (h : ∀ j : Nat, (j : Int) < k.toInt → bt x (nI j) = 0) (hk : 0 ≤ k.toInt) (hb : bt x k = 0) : ∀ j : Nat, (j : Int) < k.toInt + 1 → bt x (nI j) = 0 := fun j hj => by
  by_cases c : (j : Int) < k.toInt
  · exact h j c
  · obtain ⟨i, hi, e, ei⟩ := i_nat (x := k) rfl hk
    have : j = i := by omega
    rw [this, ← e]; exact hb
theorem bi_tb {i0 i1 N T T' : Int} {hz : Nat → Nat} {nv na nb nc bto bin tra bto' : Nat → Int32} (hB : BI i0 i1 N hz nv na nb nc bto bin) (h : TBK T' T bto tra bto') : BI i0 i1 N hz nv na nb nc bto' bin := bi_sub hB (fun q _ _ h3 => ⟨h.1 q h3, rfl⟩)
theorem bi_fre {N : Int} {hz : Nat → Nat} {nv na nb nc bto bin : Nat → Int32} (hB : BI 0 29 N hz nv na nb nc bto bin) : FRE bto := fun s h1 h2 => by
  by_cases e : (bto s).toInt = -1
  · exact e
  · have := (hB.2.1 s (by omega) h2 e).2.2.2.2
    omega
theorem rg_up1 {k : Int} {f : Nat → Int32} {i : Int32} (h : ∀ s : Nat, (s : Int) < k → (f s).toInt = -1) (hi : i.toInt = k) (h0 : 0 ≤ k) : ∀ s : Nat, (s : Int) < k + 1 → (upd f i.toNatClampNeg (-1) s).toInt = -1 := fun s hs => by
  have ci := clamp_nat (i := i) (by omega)
  by_cases e : s = i.toNatClampNeg
  · rw [e, pk_us]; decide
  · rw [pk_un e]; exact h s (by omega)
section CSX
variable {C C' I I' F F' K : Int} {mn cof cin cli cah fin fle fpa flm fne : Nat → Int32} {gc : Nat → Nat}
theorem ch_cast (h : CH C I mn cof cin cli cah) (e : C = C') (f : I = I') : CH C' I' mn cof cin cli cah := by rw [← e, ← f]; exact h
theorem fr_cast (h : FR F C I mn cof fin fle fpa flm fne gc) (g : F = F') (e : C = C') (f : I = I') : FR F' C' I' mn cof fin fle fpa flm fne gc := by rw [← e, ← f, ← g]; exact h
theorem ins_cast (h : INS I K cof) (e : I = I') : INS I' K cof := by rw [← e]; exact h
end CSX
