/-! the reference's chains, frames and what is left of a row, as rows of the search -/
def CHL (cin cli cah clo : Nat → Int32) : Int → Int → List LKT → Prop
  | _, c, [] => c = -1
  | n, c, x :: xs => (0 ≤ c ∧ c < n) ∧ (cin c.toNat).toInt = (x.1 : Int) ∧ (cli c.toNat).toInt = (x.2 : Int) ∧ (clo c.toNat).toInt = (xs.length : Int) + 1 ∧ CHL cin cli cah clo c (cah c.toNat).toInt xs
/-- the literals that are left, as bits -/
def LBQ (left : Int32) (f : FRT) (nl : Nat) : Prop := (f.2.2.1 : Int) ≠ f.2.1 ∧ ∀ k : Nat, k < 6 → (bt left (nI k) = 1 ↔ (f.2.2.1 ≤ k ∧ (k : Int) ≠ f.2.1 ∧ k < nl))
def mdx (JX : Nat → Int) (g : Int) : Int := if g = -1 then -1 else JX g.toNat
def FRL (nl : Nat → Nat) (cin cli cah clo fin fle fpa flm fne : Nat → Int32) (c : Nat → Nat) (JX : Nat → Int) : Int → Int → Int → List FRT → Prop
  | _, _, g, [] => g = -1
  | C, n, g, f :: fs => (0 ≤ g ∧ g < n) ∧ (fin g.toNat).toInt = (f.1 : Int) ∧ LBQ (fle g.toNat) f (nl (c f.1)) ∧ CHL cin cli cah clo C (fpa g.toNat).toInt f.2.2.2.1 ∧ CHL cin cli cah clo C (flm g.toNat).toInt f.2.2.2.2.1 ∧ f.2.2.2.2.2 = mdx JX (fne g.toNat).toInt ∧ FRL nl cin cli cah clo fin fle fpa flm fne c JX C g (fne g.toNat).toInt fs
/-- the steps that are written down -/
def STQ (sts : Nat → Int32) (K : List CHT) : Prop := ∀ (i : Nat) (t : CHT) (f : FRT) (fs : List FRT), atK K i = some t → t.1 = f :: fs → (sts (6 * i)).toInt = t.2.1 ∧ (sts (6 * i + 1)).toInt = (f.1 : Int) ∧ (sts (6 * i + 2)).toInt = (f.2.2.1 : Int) ∧ (sts (6 * i + 3)).toInt = t.2.2.1 ∧ (sts (6 * i + 4)).toInt = t.2.2.2.1 ∧ (sts (6 * i + 5)).toInt = (f.2.2.2.1.length : Int)
/-- no other way of those whose frames were come to, and of lemmas and reductions -/
def fxk (t : CHT) (b : Bool) : CHT := (t.1, t.2.1, t.2.2.1, t.2.2.2.1, t.2.2.2.2.1, t.2.2.2.2.2.1, t.2.2.2.2.2.2.1, b, t.2.2.2.2.2.2.2.2)
def rfk (res : Bool) (ico : Nat → Int32) (IX : Nat → Nat) : List CHT → List CHT
  | [] => []
  | t :: K => fxk t (res && (decide (t.2.1 ≠ 3) || decide ((ico (IX K.length)).toInt = 1))) :: rfk res ico IX K
section RL
variable {cin cli cah clo cin' cli' cah' clo' fin fle fpa flm fne fin' fle' fpa' flm' fne' : Nat → Int32}
theorem chl_mono : ∀ (xs : List LKT) (n n' c : Int), CHL cin cli cah clo n c xs → n ≤ n' → (∀ i : Nat, (i : Int) < n → cin' i = cin i ∧ cli' i = cli i ∧ cah' i = cah i ∧ clo' i = clo i) → CHL cin' cli' cah' clo' n' c xs := by
  intro xs
  induction xs with
  | nil => intro n n' c h _ _; exact h
  | cons x xs ih =>
    intro n n' c h hn ha
    obtain ⟨h1, h2, h3, h4, h5⟩ := h
    obtain ⟨e1, e2, e3, e4⟩ := ha c.toNat (by omega)
    exact ⟨by omega, by rw [e1]; exact h2, by rw [e2]; exact h3, by rw [e4]; exact h4, by rw [e3]; exact ih _ _ _ h5 (Int.le_refl _) (fun i hi => ha i (by omega))⟩
theorem chl_none {n : Int} {xs : List LKT} (h : CHL cin cli cah clo n (-1) xs) : xs = [] := by
  cases xs with
  | nil => rfl
  | cons x xs => have := h.1; omega
theorem chl_long {n c : Int} {xs : List LKT} (h : CHL cin cli cah clo n c xs) : (if c = -1 then 0 else (clo c.toNat).toInt) = (xs.length : Int) := by
  cases xs with
  | nil => have e : c = -1 := h; rw [if_pos e]; rfl
  | cons x xs =>
    obtain ⟨h1, _, _, h4, _⟩ := h
    rw [if_neg (by omega), h4, List.length_cons]; omega
theorem frl_mono {nl : Nat → Nat} {c c' : Nat → Nat} {JX JX' : Nat → Int} {C C' : Int} (hC : C ≤ C') (a1 : ∀ i : Nat, (i : Int) < C → cin' i = cin i ∧ cli' i = cli i ∧ cah' i = cah i ∧ clo' i = clo i) : ∀ (fs : List FRT) (n n' g : Int), FRL nl cin cli cah clo fin fle fpa flm fne c JX C n g fs → n ≤ n' → (∀ f : FRT, f ∈ fs → c' f.1 = c f.1) → (∀ i : Nat, (i : Int) < n → fin' i = fin i ∧ fle' i = fle i ∧ fpa' i = fpa i ∧ flm' i = flm i ∧ fne' i = fne i ∧ JX' i = JX i) → FRL nl cin' cli' cah' clo' fin' fle' fpa' flm' fne' c' JX' C' n' g fs := by
  intro fs
  induction fs with
  | nil => intro n n' g h _ _ _; exact h
  | cons f fs ih =>
    intro n n' g h hn hc ha
    obtain ⟨h1, h2, h3, h4, h5, h6, h7⟩ := h
    obtain ⟨e1, e2, e3, e4, e5, e6⟩ := ha g.toNat (by omega)
    refine ⟨by omega, by rw [e1]; exact h2, by rw [e2, hc f List.mem_cons_self]; exact h3, by rw [e3]; exact chl_mono _ _ _ _ h4 hC a1, by rw [e4]; exact chl_mono _ _ _ _ h5 hC a1, ?_, by rw [e5]; exact ih _ _ _ h7 (Int.le_refl _) (fun e he => hc e (List.mem_cons_of_mem _ he)) (fun i hi => ha i (by omega))⟩
    rw [e5, h6]
    unfold mdx
    by_cases w : (fne g.toNat).toInt = -1
    · rw [if_pos w, if_pos w]
    · rw [if_neg w, if_neg w]
      have lt : (fne g.toNat).toInt < g ∧ 0 ≤ (fne g.toNat).toInt := by
        cases fs with
        | nil => exact absurd h7 w
        | cons e es => have := h7.1; omega
      exact ((ha (fne g.toNat).toInt.toNat (by omega)).2.2.2.2.2).symm
/-! bits -/
theorem bt_zero (k : Nat) (hk : k < 6) : bt 0 (nI k) = 0 := by
  have key : ∀ k : Nat, k < 6 → bt 0 (nI k) = 0 := by decide +kernel
  exact key k hk
theorem lbq_zero {left : Int32} {f : FRT} {nl : Nat} (h : LBQ left f nl) (hz : left.toInt = 0) (hn : nl ≤ 6) : nl ≤ f.2.2.1 := by
  have e : left = 0 := Int32.toInt_inj.mp (hz.trans (by decide))
  by_cases w : nl ≤ f.2.2.1
  · exact w
  · have q := (h.2 f.2.2.1 (by omega)).mpr ⟨Nat.le_refl _, h.1, by omega⟩
    rw [e, bt_zero _ (by omega)] at q
    omega
theorem lbq_first {left : Int32} {f : FRT} {nl : Nat} {k : Int} (h : LBQ left f nl) (hk : 0 ≤ k ∧ k ≤ 5) (hb : bt left (nI k.toNat) = 1) (hl : ∀ j : Nat, (j : Int) < k → bt left (nI j) = 0) : k = (f.2.2.1 : Int) ∧ f.2.2.1 < nl := by
  obtain ⟨a, d, e⟩ := (h.2 k.toNat (by omega)).mp hb
  by_cases w : (f.2.2.1 : Int) < k
  · have q := (h.2 f.2.2.1 (by omega)).mpr ⟨Nat.le_refl _, h.1, by omega⟩
    rw [hl _ w] at q
    omega
  · exact ⟨by omega, by omega⟩
theorem bf_drop : ∀ a : Nat, a < 64 → ∀ j : Nat, j < 6 → ∀ k : Nat, k < 6 → bt (bitrm (nI a) (nI j)) (nI k) = (if k = j then 0 else bt (nI a) (nI k)) := by decide +kernel
theorem bf_allbut : ∀ n : Nat, n < 7 → ∀ j : Nat, j < n → ∀ k : Nat, k < 6 → bt (bitrm (1 <<< (nI n &&& 31) - 1) (nI j)) (nI k) = (if k ≠ j ∧ k < n then 1 else 0) := by decide +kernel
theorem bf_every : ∀ n : Nat, n < 7 → ∀ k : Nat, k < 6 → bt ((1 : Int32) <<< (nI n &&& 31) - 1) (nI k) = (if k < n then 1 else 0) := by decide +kernel
theorem nI_nat {x : Int32} {n : Nat} (h : x.toInt = (n : Int)) (hn : n < 100) : nI n = x := by
  apply Int32.toInt_inj.mp
  rw [h]
  have key : ∀ n : Nat, n < 100 → (nI n).toInt = (n : Int) := by decide +kernel
  exact key n hn
theorem lbq_rest {m : PRM} {left k : Int32} {f : FRT} {nl : Nat} (h : LBQ left f nl) (hx : 0 ≤ left.toInt ∧ left.toInt ≤ 63) (hk : k.toInt = (f.2.2.1 : Int)) (hl : f.2.2.1 < nl) (hn : nl ≤ 6) : LBQ (bitrm left k) (rsq m f) nl := by
  have e1 : nI left.toInt.toNat = left := nI_nat (by omega) (by omega)
  have e2 : nI f.2.2.1 = k := nI_nat hk (by omega)
  have en : (rsq m f).2.2.1 = nxq (f.2.2.1 + 1) f.2.1 := rfl
  have ew : (rsq m f).2.1 = f.2.1 := rfl
  refine ⟨by rw [en, ew]; unfold nxq; split <;> omega, fun j hj => ?_⟩
  have q := bf_drop left.toInt.toNat (by omega) f.2.2.1 (by omega) j hj
  rw [e1, e2] at q
  rw [q, en, ew]
  have hb := h.2 j hj
  by_cases w : j = f.2.2.1
  · rw [if_pos w]
    refine ⟨fun e => absurd e (by omega), fun ⟨a, _⟩ => ?_⟩
    unfold nxq at a
    split at a <;> omega
  · rw [if_neg w, hb]
    unfold nxq
    split
    · exact ⟨fun ⟨a, d, e⟩ => ⟨by omega, d, e⟩, fun ⟨a, d, e⟩ => ⟨by omega, d, e⟩⟩
    · exact ⟨fun ⟨a, d, e⟩ => ⟨by omega, d, e⟩, fun ⟨a, d, e⟩ => ⟨by omega, d, e⟩⟩
theorem lbq_new {n k : Int32} {f : FRT} {i : Nat} {md : Int} (hn : 0 ≤ n.toInt ∧ n.toInt ≤ 6) (hk : 0 ≤ k.toInt ∧ k.toInt < n.toInt) : LBQ (bitrm (1 <<< (n &&& 31) - 1) k) (exq f i k.toInt.toNat md) n.toInt.toNat := by
  have e1 : nI n.toInt.toNat = n := nI_nat (by omega) (by omega)
  have e2 : nI k.toInt.toNat = k := nI_nat (by omega) (by omega)
  have en : (exq f i k.toInt.toNat md).2.2.1 = nxq 0 ((k.toInt.toNat : Nat) : Int) := rfl
  have ew : (exq f i k.toInt.toNat md).2.1 = ((k.toInt.toNat : Nat) : Int) := rfl
  refine ⟨by rw [en, ew]; unfold nxq; split <;> omega, fun j hj => ?_⟩
  have q := bf_allbut n.toInt.toNat (by omega) k.toInt.toNat (by omega) j hj
  rw [e1, e2] at q
  rw [q, en, ew]
  unfold nxq
  by_cases w : j ≠ k.toInt.toNat ∧ j < n.toInt.toNat
  · rw [if_pos w]
    refine ⟨fun _ => ⟨?_, by omega, w.2⟩, fun _ => rfl⟩
    split <;> omega
  · rw [if_neg w]
    exact ⟨fun e => absurd e (by omega), fun ⟨_, a, d⟩ => absurd ⟨by omega, d⟩ w⟩
theorem lbq_all {n : Int32} (hn : 0 ≤ n.toInt ∧ n.toInt ≤ 6) : LBQ (1 <<< (n &&& 31) - 1) (0, -1, 0, [], [], -1) n.toInt.toNat := by
  have e1 : nI n.toInt.toNat = n := nI_nat (by omega) (by omega)
  refine ⟨by decide, fun j hj => ?_⟩
  have q := bf_every n.toInt.toNat (by omega) j hj
  rw [e1] at q
  rw [q]
  by_cases w : j < n.toInt.toNat
  · rw [if_pos w]
    exact ⟨fun _ => ⟨Nat.zero_le _, by show (j : Int) ≠ -1; omega, w⟩, fun _ => rfl⟩
  · rw [if_neg w]
    exact ⟨fun e => absurd e (by omega), fun ⟨_, _, a⟩ => absurd a w⟩
/-! which have no other way -/
theorem rfk_len (res : Bool) (ico : Nat → Int32) (IX : Nat → Nat) : ∀ K : List CHT, (rfk res ico IX K).length = K.length := by
  intro K
  induction K with
  | nil => rfl
  | cons t K ih => show _ + 1 = _ + 1; rw [ih]
theorem rfk_at (res : Bool) (ico : Nat → Int32) (IX : Nat → Nat) : ∀ (K : List CHT) (i : Nat) (u : CHT), atK (rfk res ico IX K) i = some u → ∃ t : CHT, atK K i = some t ∧ u = fxk t (res && (decide (t.2.1 ≠ 3) || decide ((ico (IX i)).toInt = 1))) := by
  intro K
  induction K with
  | nil => intro i u h; cases h
  | cons t K ih =>
    intro i u h
    have hl := rfk_len res ico IX K
    by_cases w : i = K.length
    · subst w
      have h2 : atK (fxk t (res && (decide (t.2.1 ≠ 3) || decide ((ico (IX K.length)).toInt = 1))) :: rfk res ico IX K) (rfk res ico IX K).length = some u := by rw [hl]; exact h
      rw [atK_top] at h2
      cases h2
      exact ⟨t, atK_top, rfl⟩
    · obtain ⟨v, h1, h2⟩ := ih i u (atK_low h (by rw [hl]; exact w))
      exact ⟨v, atK_up h1, h2⟩
theorem rfk_cong {res : Bool} {ico ico' : Nat → Int32} {IX IX' : Nat → Nat} : ∀ K : List CHT, (∀ i : Nat, i < K.length → ((ico' (IX' i)).toInt = 1 ↔ (ico (IX i)).toInt = 1)) → rfk res ico' IX' K = rfk res ico IX K := by
  intro K
  induction K with
  | nil => intro _; rfl
  | cons t K ih =>
    intro h
    have e := h K.length (by rw [List.length_cons]; omega)
    show fxk t _ :: _ = fxk t _ :: _
    rw [ih (fun i hi => h i (by rw [List.length_cons]; omega)), decide_eq_decide.mpr e]
/-- a frame is come to: the choice that made it has no other way -/
theorem rfk_mark {m : PRM} {ico ico' : Nat → Int32} {IX : Nat → Nat} {md : Nat} (ho : ∀ i : Nat, i ≠ md → (ico' (IX i)).toInt = (ico (IX i)).toInt) (hs : (ico' (IX md)).toInt = 1) : ∀ K : List CHT, md < K.length → (m.2.2.2.2.2.2.2.2 = true → ∀ (i : Nat) (u : CHT), atK (rfk m.2.2.2.2.2.2.2.2 ico IX K) i = some u → md < i → u.2.2.2.2.2.2.2.1 = true) → mkq m (md : Int) (rfk m.2.2.2.2.2.2.2.2 ico IX K) = rfk m.2.2.2.2.2.2.2.2 ico' IX K := by
  have key : ∀ K : List CHT, m.2.2.2.2.2.2.2.2 = true → md < K.length → (∀ (i : Nat) (u : CHT), atK (rfk true ico IX K) i = some u → md < i → u.2.2.2.2.2.2.2.1 = true) → mkF (md : Int) (rfk true ico IX K) = rfk true ico' IX K := by
    intro K
    induction K with
    | nil => intro _ h; exact absurd h (Nat.not_lt_zero _)
    | cons t K ih =>
      intro hm hl hf
      have e1 := rfk_len true ico IX K
      rw [List.length_cons] at hl
      show (if (md : Int) ≤ ((rfk true ico IX K).length : Int) then fxq (fxk t (true && (decide (t.2.1 ≠ 3) || decide ((ico (IX K.length)).toInt = 1)))) :: mkF (md : Int) (rfk true ico IX K) else _) = fxk t (true && (decide (t.2.1 ≠ 3) || decide ((ico' (IX K.length)).toInt = 1))) :: rfk true ico' IX K
      rw [if_pos (by omega)]
      by_cases w : md = K.length
      · have tl : mkF (md : Int) (rfk true ico IX K) = rfk true ico' IX K := by
          have e2 : mkF (md : Int) (rfk true ico IX K) = rfk true ico IX K := by
            cases K with
            | nil => rfl
            | cons v K =>
              show (if (md : Int) ≤ ((rfk true ico IX K).length : Int) then _ else _) = _
              rw [rfk_len, if_neg (by rw [List.length_cons] at w; omega)]
              rfl
          rw [e2]
          exact (rfk_cong K (fun i hi => by rw [ho i (by omega)])).symm
        rw [tl, ← w, hs]
        simp [fxq, fxk]
      · have tp : (true && (decide (t.2.1 ≠ 3) || decide ((ico (IX K.length)).toInt = 1))) = true := hf K.length (fxk t (true && (decide (t.2.1 ≠ 3) || decide ((ico (IX K.length)).toInt = 1)))) (by
          have q : atK (rfk true ico IX (t :: K)) (rfk true ico IX K).length = some (fxk t (true && (decide (t.2.1 ≠ 3) || decide ((ico (IX K.length)).toInt = 1)))) := atK_top
          rw [e1] at q; exact q) (by omega)
        rw [ih hm (by omega) (fun i u hu hi => hf i u (by
          have q : atK (fxk t (true && (decide (t.2.1 ≠ 3) || decide ((ico (IX K.length)).toInt = 1))) :: rfk true ico IX K) i = some u := atK_up hu
          exact q) hi), ho K.length (by omega), tp]
        rfl
  intro K hl hf
  unfold mkq
  by_cases w : m.2.2.2.2.2.2.2.2 = true
  · rw [if_pos ⟨w, by omega⟩, w]
    rw [w] at hf
    exact key K w hl (hf rfl)
  · rw [if_neg (fun q => w q.1)]
    have wf : m.2.2.2.2.2.2.2.2 = false := by
      cases h : m.2.2.2.2.2.2.2.2 with
      | false => rfl
      | true => exact absurd h w
    rw [wf]
    clear hf hl
    induction K with
    | nil => rfl
    | cons t K ih =>
      show fxk t (false && _) :: _ = fxk t (false && _) :: _
      rw [ih, Bool.false_and, Bool.false_and]
end RL
