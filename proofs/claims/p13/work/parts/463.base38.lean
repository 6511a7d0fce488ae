/-! partners() and pure() as functions of meets() and of what is gone -/
def GB (x : Int32) : Nat → Int := fun d => if kbt x d = true then 1 else 0
def GCL (x : Int32) : Nat → Int := fun d => 1 - GB x d
theorem gb_01 (x : Int32) (d : Nat) : GB x d = 0 ∨ GB x d = 1 := by
  unfold GB
  by_cases h : kbt x d = true
  · exact Or.inr (if_pos h)
  · exact Or.inl (if_neg h)
theorem kb_one : ∀ i : Nat, i < 32 → ¬ i = 0 → kbt 1 i = false := by decide +kernel
theorem kb_all : ∀ n : Nat, n < 17 → ∀ d : Nat, d < 32 → kbt ((1 : Int32) <<< (nI n &&& 31) - 1) d = decide (d < n) := by decide +kernel
theorem kb_alr : ∀ n : Nat, n < 17 → 0 ≤ ((1 : Int32) <<< (nI n &&& 31) - 1).toInt ∧ ((1 : Int32) <<< (nI n &&& 31) - 1).toInt ≤ 65535 := by decide +kernel
theorem gb_bt {x k : Int32} (hk : 0 ≤ k.toInt ∧ k.toInt < 32) : bt x k = GB x k.toInt.toNat := by
  obtain ⟨n, hn, e, en⟩ := i_nat (x := k) rfl hk.1
  have e2 : k.toInt.toNat = n := by omega
  rw [e2]
  subst e
  have key : kbt ((x >>> (nI n &&& 31)) &&& 1) 0 = kbt x n := by
    rw [kb_and, kb_sshr n (by omega) x (by decide), show n + 0 = n by omega, if_pos (by omega), show kbt 1 0 = true by decide, Bool.and_true]
  have h01 := bt_01 x (nI n)
  unfold GB
  unfold bt at h01 ⊢
  rcases h01 with h | h
  · have z : ((x >>> (nI n &&& 31)) &&& 1) = 0 := Int32.toInt_inj.mp (by rw [h]; decide)
    rw [z] at key
    have k0 : kbt x n = false := by rw [← key]; decide
    rw [h, k0]; exact (if_neg (by decide)).symm
  · have z : ((x >>> (nI n &&& 31)) &&& 1) = 1 := Int32.toInt_inj.mp (by rw [h]; decide)
    rw [z] at key
    have k1 : kbt x n = true := by rw [← key]; decide
    rw [h, k1]; exact (if_pos rfl).symm
theorem gb_or {x k : Int32} {d : Nat} (hk : 0 ≤ k.toInt ∧ k.toInt < 32) (hd : d < 32) : GB (x ||| (1 <<< (k &&& 31))) d = if d = k.toInt.toNat then 1 else GB x d := by
  obtain ⟨n, hn, e, en⟩ := i_nat (x := k) rfl hk.1
  have e2 : k.toInt.toNat = n := by omega
  rw [e2]
  subst e
  unfold GB
  rw [kb_or, kb_shl n (by omega) 1 hd]
  by_cases c : d = n
  · subst c
    have o : kbt 1 (d - d) = true := by rw [Nat.sub_self]; decide
    rw [if_pos rfl, o, decide_eq_true (Nat.le_refl _), Bool.and_true, Bool.or_true]
    exact if_pos rfl
  · have o : (decide (n ≤ d) && kbt 1 (d - n)) = false := by
      by_cases l : n ≤ d
      · rw [kb_one (d - n) (by omega) (by omega), Bool.and_false]
      · rw [decide_eq_false l, Bool.false_and]
    rw [if_neg c, o, Bool.or_false]
theorem gb_andn {x y : Int32} {d : Nat} (hd : d < 32) : GB (x &&& (y ^^^ (-1))) d = if GB y d = 1 then 0 else GB x d := by
  unfold GB
  rw [kb_and, kb_xor, kb_m1 d hd]
  cases kbt y d <;> cases kbt x d <;> decide
theorem gb_all {n : Int32} {d : Nat} (hn : 0 ≤ n.toInt ∧ n.toInt ≤ 16) (hd : d < 32) : GB ((1 : Int32) <<< (n &&& 31) - 1) d = if (d : Int) < n.toInt then 1 else 0 := by
  obtain ⟨a, ha, e, ea⟩ := i_nat (x := n) rfl hn.1
  rw [ea]
  subst e
  unfold GB
  rw [kb_all a (by omega) d hd]
  by_cases c : d < a
  · rw [if_pos (decide_eq_true c), if_pos (by omega)]
  · rw [decide_eq_false c, if_neg (by decide), if_neg (by omega)]
theorem gb_alr {n : Int32} (hn : 0 ≤ n.toInt ∧ n.toInt ≤ 16) : 0 ≤ ((1 : Int32) <<< (n &&& 31) - 1).toInt ∧ ((1 : Int32) <<< (n &&& 31) - 1).toInt ≤ 65535 := by
  obtain ⟨a, ha, e, ea⟩ := i_nat (x := n) rfl hn.1
  subst e
  exact kb_alr a (by omega)
theorem gb_zero (d : Nat) : GB 0 d = 0 := by
  unfold GB
  rw [kb_0]; exact if_neg (by decide)
theorem gb_ext {x y : Int32} (h : ∀ d : Nat, d < 32 → GB x d = GB y d) : x = y := kb_ext (fun i hi => by
  have q := h i hi
  unfold GB at q
  cases hx : kbt x i <;> cases hy : kbt y i
  · rfl
  · rw [hx, hy] at q; exact absurd q (by decide)
  · rw [hx, hy] at q; exact absurd q (by decide)
  · rfl)
def prS (f : Nat → Int) : Nat → Int
  | 0 => 0
  | m + 1 => prS f m + f m
def prT (f : Nat → Nat → Int) (ml : Nat → Int) (G : Nat → Int) : Nat → Int
  | 0 => 0
  | d + 1 => prT f ml G d + (if G d = 0 then prS (f d) (ml d).toNat else 0)
def LON (mf : MFT) (ml : Nat → Int) (G : Nat → Int) (n : Int) (c : Nat) : Prop := ∃ k : Nat, (k : Int) < ml c ∧ prT (mf c k) ml G n.toNat = 0
def LNO (mf : MFT) (ml : Nat → Int) (G : Nat → Int) (n : Int) (c : Nat) (k0 : Int) : Prop := ∀ k : Nat, (k : Int) < k0 → ¬ prT (mf c k) ml G n.toNat = 0
def LOR (mf : MFT) (ml : Nat → Int) (G : Nat → Int) (n : Int) (c : Nat) (r : Int) : Prop := (r = 1 ∧ LON mf ml G n c) ∨ (r = 0 ∧ ¬ LON mf ml G n c)
def NXT (mf : MFT) (ml : Nat → Int) (n : Int) (G G' : Nat → Int) : Prop := ∀ c : Nat, (c : Int) < n → (G' c = 0 ∨ G' c = 1) ∧ (G' c = 1 ↔ (G c = 1 ∨ LON mf ml G n c))
def ITn (mf : MFT) (ml : Nat → Int) (n : Int) : Nat → (Nat → Int) → Prop
  | 0, G => ∀ c : Nat, (c : Int) < n → G c = 0
  | i + 1, G => ∃ F : Nat → Int, ITn mf ml n i F ∧ NXT mf ml n F G
def PUF (mf : MFT) (ml : Nat → Int) (n : Int) (G : Nat → Int) : Prop := ∃ i : Nat, ITn mf ml n i G ∧ NXT mf ml n G G
def PUR (mf : MFT) (ml : Nat → Int) (n : Int) (r : Int32) : Prop := PUF mf ml n (GB r) ∧ ∀ d : Nat, n ≤ (d : Int) → d < 32 → GB r d = 0
section PU
variable {mf : MFT} {ml ml' G G' F H : Nat → Int} {n : Int} {f : Nat → Nat → Int}
theorem prS_s (f : Nat → Int) (m : Nat) : prS f (m + 1) = prS f m + f m := rfl
theorem prT_s (f : Nat → Nat → Int) (ml G : Nat → Int) (d : Nat) : prT f ml G (d + 1) = prT f ml G d + (if G d = 0 then prS (f d) (ml d).toNat else 0) := rfl
theorem prT_cg : ∀ m : Nat, (∀ d : Nat, d < m → ml' d = ml d ∧ G' d = G d) → prT f ml' G' m = prT f ml G m := by
  intro m
  induction m with
  | zero => intro _; rfl
  | succ m ih =>
    intro h
    obtain ⟨h1, h2⟩ := h m (by omega)
    rw [prT_s, prT_s, ih (fun d hd => h d (by omega)), h1, h2]
theorem lon_cg {c : Nat} (h : ∀ d : Nat, (d : Int) < n → ml' d = ml d ∧ G' d = G d) (hc : (c : Int) < n) : LON mf ml' G' n c ↔ LON mf ml G n c := by
  have e : ∀ k : Nat, prT (mf c k) ml' G' n.toNat = prT (mf c k) ml G n.toNat := fun k => prT_cg _ (fun d hd => h d (by omega))
  constructor
  · rintro ⟨k, h1, h2⟩
    exact ⟨k, by rw [← (h c hc).1]; exact h1, by rw [← e]; exact h2⟩
  · rintro ⟨k, h1, h2⟩
    exact ⟨k, by rw [(h c hc).1]; exact h1, by rw [e]; exact h2⟩
theorem nxt_cg {F' : Nat → Int} (h : ∀ d : Nat, (d : Int) < n → ml' d = ml d ∧ F' d = F d) (g : ∀ d : Nat, (d : Int) < n → G' d = G d) (hn : NXT mf ml n F G) : NXT mf ml' n F' G' := fun c hc => by
  rw [g c hc, (h c hc).2, lon_cg h hc]
  exact hn c hc
theorem itn_cg (hm : ∀ d : Nat, (d : Int) < n → ml' d = ml d) : ∀ (i : Nat) (G G' : Nat → Int), (∀ d : Nat, (d : Int) < n → G' d = G d) → ITn mf ml n i G → ITn mf ml' n i G' := by
  intro i
  induction i with
  | zero => intro G G' h hi c hc; rw [h c hc]; exact hi c hc
  | succ i ih =>
    intro G G' h hi
    obtain ⟨F, h1, h2⟩ := hi
    exact ⟨F, ih F F (fun _ _ => rfl) h1, nxt_cg (fun d hd => ⟨hm d hd, rfl⟩) h h2⟩
theorem nxt_un {F' : Nat → Int} (h : ∀ d : Nat, (d : Int) < n → F' d = F d) (h1 : NXT mf ml n F G) (h2 : NXT mf ml n F' G') : ∀ c : Nat, (c : Int) < n → G' c = G c := fun c hc => by
  obtain ⟨a1, a2⟩ := h1 c hc
  obtain ⟨b1, b2⟩ := h2 c hc
  rw [h c hc, lon_cg (fun d hd => ⟨rfl, h d hd⟩) hc] at b2
  have e : G' c = 1 ↔ G c = 1 := b2.trans a2.symm
  rcases a1 with a | a
  · rcases b1 with b | b
    · rw [a, b]
    · have q := e.mp b
      omega
  · rw [a, e.mpr a]
theorem itn_un : ∀ (i : Nat) (G G' : Nat → Int), ITn mf ml n i G → ITn mf ml n i G' → ∀ c : Nat, (c : Int) < n → G' c = G c := by
  intro i
  induction i with
  | zero => intro G G' h1 h2 c hc; rw [h1 c hc, h2 c hc]
  | succ i ih =>
    intro G G' h1 h2
    obtain ⟨F, a1, a2⟩ := h1
    obtain ⟨F', b1, b2⟩ := h2
    exact nxt_un (ih F F' a1 b1) a2 b2
theorem itn_st (h : NXT mf ml n G G) : ∀ (j i : Nat) (H : Nat → Int), ITn mf ml n i G → ITn mf ml n (i + j) H → ∀ c : Nat, (c : Int) < n → H c = G c := by
  intro j
  induction j with
  | zero => intro i H h1 h2; exact itn_un i G H h1 h2
  | succ j ih =>
    intro i H h1 h2
    obtain ⟨F, b1, b2⟩ := h2
    exact nxt_un (ih i F h1 b1) h b2
theorem puf_un (h1 : PUF mf ml n G) (h2 : PUF mf ml n G') : ∀ c : Nat, (c : Int) < n → G' c = G c := by
  obtain ⟨i, a1, a2⟩ := h1
  obtain ⟨j, b1, b2⟩ := h2
  rcases Nat.le_total i j with w | w
  · exact itn_st a2 (j - i) i G' a1 (by rw [show i + (j - i) = j by omega]; exact b1)
  · intro c hc
    exact (itn_st b2 (i - j) j G b1 (by rw [show j + (i - j) = i by omega]; exact a1) c hc).symm
theorem puf_cg (hm : ∀ d : Nat, (d : Int) < n → ml' d = ml d) (hg : ∀ d : Nat, (d : Int) < n → G' d = G d) (h : PUF mf ml n G) : PUF mf ml' n G' := by
  obtain ⟨i, a1, a2⟩ := h
  exact ⟨i, itn_cg hm i G G' hg a1, nxt_cg (fun d hd => ⟨hm d hd, hg d hd⟩) hg a2⟩
theorem pur_two {r r' : Int32} {n' : Int} (h : PUR mf ml n r) (h' : PUR mf ml' n' r') (hn : n' = n) (hm : ∀ d : Nat, (d : Int) < n → ml' d = ml d) : r = r' := by
  subst hn
  refine gb_ext (fun d hd => ?_)
  by_cases c : (d : Int) < n'
  · exact (puf_un h.1 (puf_cg (fun d hd => (hm d hd).symm) (fun _ _ => rfl) h'.1) d c).symm
  · rw [h.2 d (by omega) hd, h'.2 d (by omega) hd]
/-! how many are gone -/
theorem prS_le (h : ∀ c : Nat, F c ≤ G c) : ∀ m : Nat, prS F m ≤ prS G m := by
  intro m
  induction m with
  | zero => exact Int.le_refl _
  | succ m ih => rw [prS_s, prS_s]; have := h m; omega
theorem prS_lt {m c : Nat} (h : ∀ d : Nat, d < m → F d ≤ G d) (hc : c < m) (hl : F c < G c) : prS F m < prS G m := by
  have le : ∀ k : Nat, k ≤ m → prS F k ≤ prS G k := by
    intro k
    induction k with
    | zero => intro _; exact Int.le_refl _
    | succ k ih => intro hk; rw [prS_s, prS_s]; have := ih (by omega); have := h k (by omega); omega
  have key : ∀ k : Nat, k ≤ m → c < k → prS F k < prS G k := by
    intro k
    induction k with
    | zero => intro _ h9; exact absurd h9 (by omega)
    | succ k ih =>
      intro hk hck
      rw [prS_s, prS_s]
      by_cases e : c = k
      · subst e
        have := le c (by omega); omega
      · have := ih (by omega) (by omega)
        have := h k (by omega); omega
  exact key m (Nat.le_refl _) hc
theorem prS_max (h : ∀ c : Nat, G c ≤ 1) : ∀ m : Nat, prS G m ≤ m := by
  intro m
  induction m with
  | zero => exact Int.le_refl _
  | succ m ih => rw [prS_s]; have := h m; omega
theorem prS_full (h : ∀ c : Nat, G c ≤ 1) : ∀ m : Nat, (m : Int) ≤ prS G m → ∀ c : Nat, c < m → G c = 1 := by
  intro m
  induction m with
  | zero => intro _ c hc; exact absurd hc (by omega)
  | succ m ih =>
    intro hs c hc
    rw [prS_s] at hs
    have a := prS_max h m
    have b := h m
    by_cases e : c = m
    · subst e; omega
    · exact ih (by omega) c (by omega)
/-! one round -/
def GNG (mf : MFT) (ml : Nat → Int) (n : Int) (G : Nat → Int) (x : Int32) (k : Int) : Prop := ∀ d : Nat, d < 32 → (GB x d = 1 ↔ ((d : Int) < k ∧ G d = 0 ∧ LON mf ml G n d))
theorem gng_zero {k : Int} (h : k ≤ 0) : GNG mf ml n G 0 k := fun d hd => by
  rw [gb_zero]
  exact ⟨fun w => absurd w (by decide), fun w => absurd w.1 (by omega)⟩
theorem gng_no {x : Int32} {k k' : Int} (h : GNG mf ml n G x k) (hk : 0 ≤ k) (e : k' = k + 1) (hn : G k.toNat = 0 → ¬ LON mf ml G n k.toNat) : GNG mf ml n G x k' := fun d hd => by
  rw [h d hd]
  refine ⟨fun w => ⟨by omega, w.2⟩, fun w => ⟨?_, w.2⟩⟩
  by_cases q : d = k.toNat
  · subst q; exact absurd w.2.2 (hn w.2.1)
  · omega
theorem gng_yes {x y c : Int32} {k k' : Int} (h : GNG mf ml n G x k) (hk : 0 ≤ k ∧ k < 32) (hc : c.toInt = k) (e : k' = k + 1) (hy : y = x ||| (1 <<< (c &&& 31))) (h0 : G k.toNat = 0) (hl : LON mf ml G n k.toNat) : GNG mf ml n G y k' := fun d hd => by
  rw [hy, gb_or (by omega) hd, hc]
  by_cases q : d = k.toNat
  · rw [if_pos q]
    subst q
    exact ⟨fun _ => ⟨by omega, h0, hl⟩, fun _ => rfl⟩
  · rw [if_neg q, h d hd]
    exact ⟨fun w => ⟨by omega, w.2⟩, fun w => ⟨by omega, w.2⟩⟩
theorem gng_none {x : Int32} (h : GNG mf ml n G x n) (hx : x.toInt = 0) (hn : n ≤ 16) (h1 : ∀ c : Nat, (c : Int) < n → G c = 0 ∨ G c = 1) : NXT mf ml n G G := fun c hc => by
  have z : x = 0 := Int32.toInt_inj.mp (by rw [hx]; decide)
  subst z
  have q := h c (by omega)
  rw [gb_zero] at q
  refine ⟨h1 c hc, fun w => Or.inl w, fun w => w.elim id (fun l => ?_)⟩
  rcases h1 c hc with e | e
  · exact absurd (q.mpr ⟨hc, e, l⟩) (by decide)
  · exact e
theorem gng_some {x : Int32} {k : Int} (h : GNG mf ml n G x k) (hx : ¬ x.toInt = 0) : ∃ c : Nat, c < 32 ∧ GB x c = 1 := by
  by_cases w : ∃ c : Nat, c < 32 ∧ GB x c = 1
  · exact w
  · have z : x = 0 := gb_ext (fun d hd => by
      rw [gb_zero]
      rcases gb_01 x d with e | e
      · exact e
      · exact absurd ⟨d, hd, e⟩ w)
    rw [z] at hx
    exact absurd (by decide : (0 : Int32).toInt = 0) hx
/-- the class's: what is left -/
theorem gc_next {l x l' : Int32} (h : GNG mf ml n (GCL l) x n) (hn : n ≤ 16) (e : l' = l &&& (x ^^^ (-1))) : NXT mf ml n (GCL l) (GCL l') ∧ ∀ d : Nat, d < 32 → GCL l d ≤ GCL l' d ∧ (GB x d = 1 → GCL l d = 0 ∧ GCL l' d = 1) := by
  have v : ∀ d : Nat, d < 32 → GB l' d = if GB x d = 1 then 0 else GB l d := fun d hd => by rw [e, gb_andn hd]
  refine ⟨fun c hc => ?_, fun d hd => ?_⟩
  · have q := h c (by omega)
    have w := v c (by omega)
    have l1 := gb_01 l c
    unfold GCL at q ⊢
    by_cases y : GB x c = 1
    · rw [if_pos y] at w
      have q2 := q.mp y
      rw [w]
      exact ⟨Or.inr (by omega), fun _ => Or.inr q2.2.2, fun _ => by omega⟩
    · rw [if_neg y] at w
      rw [w]
      refine ⟨by omega, fun z => Or.inl z, fun z => z.elim id (fun lo => ?_)⟩
      rcases l1 with l1 | l1
      · omega
      · exact absurd (q.mpr ⟨hc, by omega, lo⟩) y
  · have q := h d hd
    have w := v d hd
    have l1 := gb_01 l d
    unfold GCL at q ⊢
    by_cases y : GB x d = 1
    · rw [if_pos y] at w
      have q2 := (q.mp y).2.1
      rw [w]
      exact ⟨by omega, fun _ => ⟨q2, by omega⟩⟩
    · rw [if_neg y] at w
      rw [w]
      exact ⟨by omega, fun z => absurd z y⟩
/-- the reference's: what is gone -/
def GTH (mf : MFT) (ml : Nat → Int) (n : Int) (G : Nat → Int) (x : Int32) (k : Int) : Prop := ∀ d : Nat, d < 32 → (GB x d = 1 ↔ (G d = 1 ∨ ((d : Int) < k ∧ LON mf ml G n d)))
theorem gth_zero {x : Int32} {k : Int} (h : k ≤ 0) : GTH mf ml n (GB x) x k := fun d hd => ⟨fun w => Or.inl w, fun w => w.elim id (fun w => absurd w.1 (by omega))⟩
theorem gth_no {x : Int32} {k k' : Int} (h : GTH mf ml n G x k) (hk : 0 ≤ k) (e : k' = k + 1) (hn : G k.toNat = 1 ∨ ¬ LON mf ml G n k.toNat) : GTH mf ml n G x k' := fun d hd => by
  rw [h d hd]
  refine ⟨fun w => w.elim Or.inl (fun w => Or.inr ⟨by omega, w.2⟩), fun w => w.elim Or.inl (fun w => ?_)⟩
  by_cases q : d = k.toNat
  · subst q
    exact hn.elim Or.inl (fun z => absurd w.2 z)
  · exact Or.inr ⟨by omega, w.2⟩
theorem gth_yes {x y c : Int32} {k k' : Int} (h : GTH mf ml n G x k) (hk : 0 ≤ k ∧ k < 32) (hc : c.toInt = k) (e : k' = k + 1) (hy : y = x ||| (1 <<< (c &&& 31))) (hl : LON mf ml G n k.toNat) : GTH mf ml n G y k' := fun d hd => by
  rw [hy, gb_or (by omega) hd, hc]
  by_cases q : d = k.toNat
  · rw [if_pos q]
    subst q
    exact ⟨fun _ => Or.inr ⟨by omega, hl⟩, fun _ => rfl⟩
  · rw [if_neg q, h d hd]
    exact ⟨fun w => w.elim Or.inl (fun w => Or.inr ⟨by omega, w.2⟩), fun w => w.elim Or.inl (fun w => Or.inr ⟨by omega, w.2⟩)⟩
theorem gth_next {g x : Int32} (h : GTH mf ml n (GB g) x n) (hn : n ≤ 16) : NXT mf ml n (GB g) (GB x) := fun c hc => by
  refine ⟨gb_01 x c, ?_⟩
  rw [h c (by omega)]
  exact ⟨fun w => w.elim Or.inl (fun w => Or.inr w.2), fun w => w.elim Or.inl (fun w => Or.inr ⟨hc, w⟩)⟩
theorem gth_far {g x : Int32} (h : GTH mf ml n (GB g) x n) (hf : ∀ d : Nat, n ≤ (d : Int) → d < 32 → GB g d = 0) : ∀ d : Nat, n ≤ (d : Int) → d < 32 → GB x d = 0 := fun d h1 h2 => by
  rcases gb_01 x d with e | e
  · exact e
  · rcases (h d h2).mp e with w | w
    · rw [hf d h1 h2] at w; exact absurd w (by decide)
    · omega
end PU
def PTV (mf : MFT) (ml : Nat → Int) (n c k r : Int) : Prop := ((0 ≤ c ∧ c < n ∧ 0 ≤ k ∧ k < ml c.toNat) ∧ r = prT (mf c.toNat k.toNat) ml (fun _ => 0) n.toNat) ∨ (¬ (0 ≤ c ∧ c < n ∧ 0 ≤ k ∧ k < ml c.toNat) ∧ r = -1)
def CNTG (G : Nat → Int) (n k : Int) : Prop := k ≤ prS G n.toNat
section PV
variable {mf : MFT} {ml ml' G : Nat → Int} {n n' : Int}
theorem ptv_two {c k r r' : Int} (h : PTV mf ml n c k r) (h' : PTV mf ml' n' c k r') (hn : n' = n) (hm : ∀ d : Nat, (d : Int) < n → ml' d = ml d) : r = r' := by
  subst hn
  have key : (0 ≤ c ∧ c < n' ∧ 0 ≤ k ∧ k < ml c.toNat) ↔ (0 ≤ c ∧ c < n' ∧ 0 ≤ k ∧ k < ml' c.toNat) := by
    constructor
    · rintro ⟨a1, a2, a3, a4⟩
      exact ⟨a1, a2, a3, by rw [hm _ (by omega)]; exact a4⟩
    · rintro ⟨a1, a2, a3, a4⟩
      exact ⟨a1, a2, a3, by rw [← hm _ (by omega)]; exact a4⟩
  rcases h with ⟨a, e⟩ | ⟨a, e⟩
  · rcases h' with ⟨_, f⟩ | ⟨w, _⟩
    · rw [e, f, prT_cg (ml := ml) (ml' := ml') (G := fun _ => 0) (G' := fun _ => 0) _ (fun d hd => ⟨hm d (by omega), rfl⟩)]
    · exact absurd (key.mp a) w
  · rcases h' with ⟨w, _⟩ | ⟨_, f⟩
    · exact absurd (key.mpr w) a
    · rw [e, f]
theorem ptv_cast {c k r c' k' : Int} (h : PTV mf ml n c k r) (e1 : c' = c) (e2 : k' = k) : PTV mf ml n c' k' r := by subst e1; subst e2; exact h
theorem gc_all {l a : Int32} {d : Nat} (e : l = (1 : Int32) <<< (a &&& 31) - 1) (ha : 0 ≤ a.toInt ∧ a.toInt ≤ 16) (hd : (d : Int) < a.toInt) : GCL l d = 0 := by
  show 1 - GB l d = 0
  rw [e, gb_all ha (by omega), if_pos hd]; rfl
theorem gc_01 (x : Int32) (d : Nat) : GCL x d = 0 ∨ GCL x d = 1 := by
  have h := gb_01 x d
  unfold GCL; omega
theorem gc_it0 {l a : Int32} (e : l = (1 : Int32) <<< (a &&& 31) - 1) (ha : 0 ≤ a.toInt ∧ a.toInt ≤ 16) : ITn mf ml a.toInt (Int.toNat 0) (GCL l) := fun _ hc => gc_all e ha hc
theorem cnt_zero {x : Int32} : CNTG (GCL x) n 0 := by
  have h : ∀ m : Nat, 0 ≤ prS (GCL x) m := by
    intro m
    induction m with
    | zero => exact Int.le_refl _
    | succ m ih => rw [prS_s]; have := gc_01 x m; omega
  exact h _
theorem lno_zero {c : Nat} {k : Int} (h : k ≤ 0) : LNO mf ml G n c k := fun j hj => absurd hj (by omega)
theorem lno_step {c : Nat} {k k' : Int} (h : LNO mf ml G n c k) (hk : 0 ≤ k) (hn : ¬ prT (mf c k.toNat) ml G n.toNat = 0) (e : k' = k + 1) : LNO mf ml G n c k' := fun j hj => by
  by_cases q : j = k.toNat
  · subst q; exact hn
  · exact h j (by omega)
theorem lno_end {c : Nat} {k : Int} (h : LNO mf ml G n c k) (hk : ml c ≤ k) : ¬ LON mf ml G n c := fun ⟨j, h1, h2⟩ => h j (by omega) h2
theorem lor_no {c : Nat} {r : Int} (h : LOR mf ml G n c r) (hr : r = 0) : ¬ LON mf ml G n c := by
  rcases h with ⟨e, _⟩ | ⟨_, w⟩
  · omega
  · exact w
theorem lor_yes {c : Nat} {r : Int} (h : LOR mf ml G n c r) (hr : ¬ r = 0) : LON mf ml G n c := by
  rcases h with ⟨_, w⟩ | ⟨e, _⟩
  · exact w
  · exact absurd e hr
theorem gng_cast {x : Int32} {k k' : Int} (h : GNG mf ml n G x k) (e : k' = k) : GNG mf ml n G x k' := by subst e; exact h
theorem cnt_next {l l' x : Int32} {k k' : Int} (h : ∀ d : Nat, d < 32 → GCL l d ≤ GCL l' d ∧ (GB x d = 1 → GCL l d = 0 ∧ GCL l' d = 1)) (hg : GNG mf ml n (GCL l) x n) (hn : n ≤ 16) (hx : ¬ x.toInt = 0) (hc : CNTG (GCL l) n k) (e : k' = k + 1) : CNTG (GCL l') n k' := by
  obtain ⟨c, c1, c2⟩ := gng_some hg hx
  have q := (hg c c1).mp c2
  have w := (h c c1).2 c2
  have lt := prS_lt (F := GCL l) (G := GCL l') (m := n.toNat) (c := c) (fun d hd => (h d (by omega)).1) (by omega) (by omega)
  unfold CNTG at hc ⊢
  omega
theorem puf_full {l : Int32} {i : Nat} {k : Int} (h : ITn mf ml n i (GCL l)) (hc : CNTG (GCL l) n k) (hk : 16 ≤ k) (hn : n ≤ 16) : PUF mf ml n (GCL l) := by
  have m1 : ∀ c : Nat, GCL l c ≤ 1 := fun c => by have := gc_01 l c; omega
  unfold CNTG at hc
  have a := prS_full (G := GCL l) m1 n.toNat (by omega)
  exact ⟨i, h, fun c hc => ⟨gc_01 l c, fun w => Or.inl w, fun _ => a c (by omega)⟩⟩
theorem pur_class {l al z a : Int32} (e : z = al &&& (l ^^^ (-1))) (ea : al = (1 : Int32) <<< (a &&& 31) - 1) (ha : 0 ≤ a.toInt ∧ a.toInt ≤ 16) (h : PUF mf ml a.toInt (GCL l)) : PUR mf ml a.toInt z := by
  have v : ∀ d : Nat, d < 32 → GB z d = if GB l d = 1 then 0 else (if (d : Int) < a.toInt then 1 else 0) := fun d hd => by rw [e, gb_andn hd, ea, gb_all ha hd]
  refine ⟨puf_cg (fun _ _ => rfl) (fun d hd => ?_) h, fun d h1 h2 => ?_⟩
  · rw [v d (by omega), if_pos hd]
    have q := gb_01 l d
    unfold GCL
    by_cases w : GB l d = 1
    · rw [if_pos w]; omega
    · rw [if_neg w]; omega
  · rw [v d h2, if_neg (show ¬ (d : Int) < a.toInt by omega)]
    by_cases w : GB l d = 1
    · rw [if_pos w]
    · rw [if_neg w]
/-! the reference's rounds -/
def PST (mf : MFT) (ml : Nat → Int) (n : Int) (x : Int32) (more : Int) : Prop := (¬ more = 0 → ∃ i : Nat, ITn mf ml n i (GB x)) ∧ (more = 0 → PUF mf ml n (GB x))
theorem pst_zero {x : Int32} {m : Int} (hx : x.toInt = 0) (hm : m = 1) : PST mf ml n x m := by
  have z : x = 0 := Int32.toInt_inj.mp (by rw [hx]; decide)
  subst z
  exact ⟨fun _ => ⟨0, fun c _ => gb_zero c⟩, fun w => absurd (w.symm.trans hm) (by decide)⟩
theorem pst_more {x y : Int32} {m m' : Int} (h : PST mf ml n x m) (hm : ¬ m = 0) (hn : NXT mf ml n (GB x) (GB y)) (hm' : m' = 1) : PST mf ml n y m' := by
  obtain ⟨i, hi⟩ := h.1 hm
  exact ⟨fun _ => ⟨i + 1, _, hi, hn⟩, fun w => absurd (w.symm.trans hm') (by decide)⟩
theorem pst_end {x y : Int32} {m m' : Int} (h : PST mf ml n x m) (hm : ¬ m = 0) (hn : NXT mf ml n (GB x) (GB y)) (e : y.toInt = x.toInt) (hm' : m' = 0) : PST mf ml n y m' := by
  have z : y = x := Int32.toInt_inj.mp e
  subst z
  obtain ⟨i, hi⟩ := h.1 hm
  exact ⟨fun w => absurd hm' w, fun _ => ⟨i, hi, hn⟩⟩
theorem far_zero {x : Int32} (hx : x.toInt = 0) : ∀ d : Nat, n ≤ (d : Int) → d < 32 → GB x d = 0 := fun d _ _ => by
  have z : x = 0 := Int32.toInt_inj.mp (by rw [hx]; decide)
  rw [z]; exact gb_zero d
theorem gth_cast {mf : MFT} {ml G : Nat → Int} {n : Int} {x : Int32} {k k' : Int} (h : GTH mf ml n G x k) (e : k' = k) : GTH mf ml n G x k' := by subst e; exact h
end PV
