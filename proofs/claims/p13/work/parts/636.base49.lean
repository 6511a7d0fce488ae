/-! the class's small reads: how many parts, whether alike; what is known of a state's places -/
def WSG (g : GVT) (b : Nat → Int) (S : Nat → Prop) : Prop := CLD g b S ∧ FIN g b S ∧ (∀ p : Nat, S p → p < 9600 ∧ 0 ≤ g.2.2.2.1 p ∧ g.2.2.2.1 p ≤ 3 ∧ (0 ≤ g.1 p → g.2.1 p < 256 ∧ g.2.2.2.1 p = 0)) ∧ ∀ p q : Nat, S p → S q → 0 ≤ g.1 p → 0 ≤ g.1 q → g.2.1 p = g.2.1 q → p = q
def hls (f : Nat → Int32) : Nat → List Nat
  | 0 => []
  | n + 1 => prx f n :: hls f n
section WF
variable {g : GVT} {b : Nat → Int} {S : Nat → Prop} {f f' h h' f0 h0 : Nat → Int32}
theorem brx_wfs {p r : Int32} (hw : WSG g b S) (hp : S p.toInt.toNat) (k : BRX g b p r) : BRE g b p.toInt.toNat r.toInt.toNat ∧ S r.toInt.toNat := by
  obtain ⟨hc, hf, hb, _⟩ := hw
  obtain ⟨m, m1, m2, m3⟩ := k
  have key : BRE g b p.toInt.toNat r.toInt.toNat := by
    rcases m3 with m3 | m3
    · subst m3
      obtain ⟨n, hn⟩ := hf _ hp
      obtain ⟨q, hq⟩ := ht_bre hn
      have e := bre_256 hq (fun n hn => ((hb _ (by
        obtain ⟨j, hj⟩ := bre_rch (g := g) (b := b) n p.toInt.toNat
        exact cld_rch hc j _ _ hp hj)).2.2.2 hn).1)
      rw [m2, e]; exact hq
    · exact ⟨m, m2.symm, m3⟩
  exact ⟨key, cld_bre hc hp key⟩
theorem hls_cong : ∀ n : Nat, (∀ i : Nat, i < n → f' i = f i) → hls f' n = hls f n := by
  intro n
  induction n with
  | zero => intro _; rfl
  | succ n ih => intro k; show prx f' n :: hls f' n = prx f n :: hls f n; rw [ih (fun i hi => k i (by omega))]; unfold prx; rw [k n (by omega)]
theorem hls_len : ∀ n : Nat, (hls f n).length = n := by
  intro n
  induction n with
  | zero => rfl
  | succ n ih => show (prx f n :: hls f n).length = _; rw [List.length_cons, ih]
theorem smn_len : ∀ (n : Nat) (ps : List Nat), SMn g b n ps → ps.length ≤ n := by
  intro n
  induction n with
  | zero =>
    intro ps k
    cases ps with
    | nil => exact Nat.le_refl _
    | cons p ps => exact False.elim k
  | succ n ih =>
    intro ps k
    cases ps with
    | nil => exact Nat.zero_le _
    | cons p ps =>
      obtain ⟨a, _, k2⟩ := k
      have := ih _ k2
      rw [List.length_append] at this
      rw [List.length_cons]; omega
theorem klq_snoc {a : Nat} : ∀ (r k : Nat), klq g a (r + 1) k = klq g a r k ++ [g.2.2.2.2 a (k + r)] := by
  intro r
  induction r with
  | zero => intro k; rfl
  | succ r ih =>
    intro k
    show g.2.2.2.2 a k :: klq g a (r + 1) (k + 1) = g.2.2.2.2 a k :: klq g a r (k + 1) ++ [g.2.2.2.2 a (k + (r + 1))]
    rw [ih (k + 1), show k + 1 + r = k + (r + 1) by omega]; rfl
theorem kdq_klq {a : Nat} (z : 0 ≤ g.1 a → g.2.2.2.1 a = 0) : kdq g a = klq g a (g.2.2.2.1 a).toNat 0 := by
  unfold kdq
  by_cases v : 0 ≤ g.1 a
  · rw [if_pos v, z v]; rfl
  · rw [if_neg v]
/-- so many parts so far; what is left -/
def PSM (g : GVT) (b : Nat → Int) (S : Nat → Prop) (P : Nat) (f : Nat → Int32) (n cnt : Int) : Prop := (0 ≤ n ∧ 0 ≤ cnt) ∧ (∀ i : Nat, (i : Int) < n → S (prx f i)) ∧ ∀ k : Nat, SMn g b (cnt.toNat + k) [P] ↔ SMn g b k (hls f n.toNat)
variable {P Q : Nat} {n n' cnt cnt' most : Int}
theorem psm_cast (k : PSM g b S P f n cnt) (e : n' = n) (d : cnt' = cnt) : PSM g b S P f n' cnt' := by subst e; subst d; exact k
theorem psm_zero {p : Int32} (hp : S p.toInt.toNat) (e : f = upd f0 0 p) : PSM g b S p.toInt.toNat f 1 0 := by
  have e0 : prx f 0 = p.toInt.toNat := by unfold prx; rw [e, pk_us]
  refine ⟨by omega, fun i hi => ?_, fun k => ?_⟩
  · rw [show i = 0 by omega, e0]; exact hp
  · show SMn g b (0 + k) [p.toInt.toNat] ↔ SMn g b k (prx f 0 :: [])
    rw [e0, Nat.zero_add]
theorem psm_out (k : PSM g b S P f n cnt) (h1 : cnt ≤ most) (h2 : most < cnt + n) : ¬ SMn g b most.toNat [P] := fun w => by
  obtain ⟨k1, k2, k3⟩ := k
  have e : most.toNat = cnt.toNat + (most - cnt).toNat := by omega
  rw [e, k3] at w
  have := smn_len _ _ w
  rw [hls_len] at this
  omega
theorem psm_end (k : PSM g b S P f n cnt) (h1 : cnt ≤ most) (h2 : n = 0) : SMn g b most.toNat [P] := by
  subst h2
  obtain ⟨k1, k2, k3⟩ := k
  have e : most.toNat = cnt.toNat + (most - cnt).toNat := by omega
  rw [e, k3]; exact smn_nil
theorem hls_kids {a N : Nat} (hk : (∀ j : Nat, j < N → f' j = f j)) : ∀ r : Nat, (∀ j : Nat, j < r → prx f' (N + j) = g.2.2.2.2 a j) → (hls f' (N + r)).Perm (klq g a r 0 ++ hls f N) := by
  intro r
  induction r with
  | zero => intro _; rw [Nat.add_zero, hls_cong N hk]; exact List.Perm.refl _
  | succ r ih =>
    intro hj
    have e : hls f' (N + (r + 1)) = g.2.2.2.2 a r :: hls f' (N + r) := by
      show prx f' (N + r) :: hls f' (N + r) = _
      rw [hj r (by omega)]
    rw [e, klq_snoc, Nat.zero_add, List.append_assoc]
    exact (List.Perm.cons _ (ih (fun j h => hj j (by omega)))).trans List.perm_middle.symm
/-- a place is counted, its terms come -/
theorem psm_kids {N : Nat} {p r : Int32} (hw : WSG g b S) (k : PSM g b S P f n cnt) (hn : n = (N : Int) + 1) (hp : p.toInt.toNat = prx f N) (hx : BRX g b p r) (hk : HIN g f f' N r.toInt.toNat (g.2.2.2.1 r.toInt.toNat)) (en : n' = (N : Int) + g.2.2.2.1 r.toInt.toNat) (ec : cnt' = cnt + 1) : PSM g b S P f' n' cnt' := by
  obtain ⟨k1, k2, k3⟩ := k
  have sp : S p.toInt.toNat := by rw [hp]; exact k2 N (by omega)
  obtain ⟨hb, sr⟩ := brx_wfs hw sp hx
  obtain ⟨_, r2, r3, r4⟩ := hw.2.2.1 _ sr
  have ez := kdq_klq (fun v => (r4 v).2)
  obtain ⟨q1, q2⟩ := hk
  have pm := hls_kids (g := g) (a := r.toInt.toNat) q1 (g.2.2.2.1 r.toInt.toNat).toNat (fun j hj => q2 j (by omega))
  have en2 : n'.toNat = N + (g.2.2.2.1 r.toInt.toNat).toNat := by omega
  refine ⟨by omega, fun i hi => ?_, fun j => ?_⟩
  · by_cases c : i < N
    · have e : prx f' i = prx f i := by unfold prx; rw [q1 i c]
      rw [e]; exact k2 i (by omega)
    · have e := q2 (i - N) (by omega)
      rw [show N + (i - N) = i by omega] at e
      rw [e]
      refine hw.1 _ _ sr (Or.inr ⟨fun v => ?_, i - N, by omega, rfl⟩)
      have := (r4 v).2
      omega
  · have e1 : cnt'.toNat + j = cnt.toNat + (j + 1) := by omega
    have e2 : n.toNat = N + 1 := by omega
    rw [e1, k3 (j + 1), e2, en2]
    show SMn g b (j + 1) (prx f N :: hls f N) ↔ _
    rw [smn_c]
    constructor
    · intro ⟨a, a1, a2⟩
      rw [← hp] at a1
      have ea := bre_un a1 hb
      subst ea
      rw [ez] at a2
      exact smn_perm pm.symm _ a2
    · intro w
      refine ⟨_, by rw [← hp]; exact hb, ?_⟩
      rw [ez]
      exact smn_perm pm _ w
/-! alike -/
def PSJ (g : GVT) (a c t : Nat) (M k : Int) (f0 f h0 h : Nat → Int32) (T : Int) : Prop := (∀ i : Nat, i < t → f i = f0 i ∧ h i = h0 i) ∧ T = t + M - 1 - k ∧ ∀ j : Nat, k < (j : Int) → (j : Int) < M → (f (t + M.toNat - 1 - j)).toInt = (g.2.2.2.2 a j : Int) ∧ (h (t + M.toNat - 1 - j)).toInt = (g.2.2.2.2 c j : Int)
def PSK (g : GVT) (a c t : Nat) (f f' h h' : Nat → Int32) (T r : Int) : Prop := (r = 0 ∧ 2048 < (t : Int) + g.2.2.2.1 a + 1) ∨ (r = 1 ∧ PSJ g a c t (g.2.2.2.1 a) (-1) f f' h h' T)
theorem psj_zero {a c t : Nat} {M k T : Int} (hk : k = M - 1) (hT : T = (t : Int)) : PSJ g a c t M k f f h h T := ⟨fun _ _ => ⟨rfl, rfl⟩, by omega, fun j h1 h2 => absurd h1 (by omega)⟩
theorem psj_step {a c t : Nat} {M k k' T T' : Int} {i v w : Int32} (hp : PSJ g a c t M k f0 f h0 h T) (hk : 0 ≤ k ∧ k < M) (hi : i.toInt = T) (hv : v.toInt = (g.2.2.2.2 a k.toNat : Nat)) (hw : w.toInt = (g.2.2.2.2 c k.toNat : Nat)) (ef : f' = upd f (Int32.toNatClampNeg i) v) (eh : h' = upd h (Int32.toNatClampNeg i) w) (ek : k' = k - 1) (eT : T' = T + 1) : PSJ g a c t M k' f0 f' h0 h' T' := by
  obtain ⟨p1, p2, p3⟩ := hp
  have ci : Int32.toNatClampNeg i = t + M.toNat - 1 - k.toNat := by rw [clamp_nat (by omega)]; omega
  refine ⟨fun j hj => ?_, by omega, fun j h1 h2 => ?_⟩
  · rw [ef, eh, pk_un (by omega), pk_un (by omega)]; exact p1 j hj
  · by_cases e : (j : Int) = k
    · have ej : t + M.toNat - 1 - j = Int32.toNatClampNeg i := by omega
      have ek2 : k.toNat = j := by omega
      rw [ej, ef, eh, pk_us, pk_us, hv, hw, ek2]
      exact ⟨rfl, rfl⟩
    · rw [ef, eh, pk_un (by omega), pk_un (by omega)]; exact p3 j (by omega) h2
theorem psj_cast {a c t : Nat} {M M' k k' T : Int} (k9 : PSJ g a c t M k f0 f h0 h T) (e : M' = M) (e2 : k' = k) : PSJ g a c t M' k' f0 f h0 h T := by subst e; subst e2; exact k9
theorem hls_psj {a c t : Nat} {M T : Int} (hM : 0 ≤ M) (k : PSJ g a c t M (-1) f f' h h' T) : hls f' (t + M.toNat) = klq g a M.toNat 0 ++ hls f t := by
  obtain ⟨k1, _, k3⟩ := k
  have key : ∀ j : Nat, j ≤ M.toNat → hls f' (t + j) = klq g a j (M.toNat - j) ++ hls f t := by
    intro j
    induction j with
    | zero => intro _; rw [Nat.add_zero, hls_cong t (fun i hi => (k1 i hi).1)]; rfl
    | succ j ih =>
      intro hj
      have e1 := (k3 (M.toNat - (j + 1)) (by omega) (by omega)).1
      rw [show t + M.toNat - 1 - (M.toNat - (j + 1)) = t + j by omega] at e1
      show prx f' (t + j) :: hls f' (t + j) = g.2.2.2.2 a (M.toNat - (j + 1)) :: (klq g a j (M.toNat - (j + 1) + 1) ++ hls f t)
      rw [ih (by omega), show M.toNat - (j + 1) + 1 = M.toNat - j by omega]
      unfold prx
      rw [e1]; rfl
  have := key M.toNat (Nat.le_refl _)
  rw [Nat.sub_self] at this
  exact this
/-- pairs that are still to be alike -/
def AKI (g : GVT) (b : Nat → Int) (S : Nat → Prop) (P Q : Nat) (f h : Nat → Int32) (t : Int) (N : Nat) (n : Int) : Prop := (0 ≤ t ∧ 0 ≤ n) ∧ (∀ i : Nat, (i : Int) < t → S (prx f i) ∧ S (prx h i) ∧ 0 ≤ (f i).toInt ∧ 0 ≤ (h i).toInt) ∧ (ALK g b P Q ↔ ∀ i : Nat, (i : Int) < t → ALK g b (prx f i) (prx h i)) ∧ ∃ k : Nat, n + k ≤ N ∧ SMn g b k (hls f t.toNat)
variable {N : Nat} {t t' : Int}
theorem aki_cast (k : AKI g b S P Q f h t N n) (e : t' = t) (d : n' = n) : AKI g b S P Q f h t' N n' := by subst e; subst d; exact k
theorem aki_zero {p q : Int32} (hp : S p.toInt.toNat) (hq : S q.toInt.toNat) (h1 : 0 ≤ p.toInt) (h2 : 0 ≤ q.toInt) (e : f = upd f0 0 p) (d : h = upd h0 0 q) (hs : SMn g b N [p.toInt.toNat]) : AKI g b S p.toInt.toNat q.toInt.toNat f h 1 N 0 := by
  have ef : f 0 = p := by rw [e, pk_us]
  have eh : h 0 = q := by rw [d, pk_us]
  have e0 : prx f 0 = p.toInt.toNat := by unfold prx; rw [ef]
  have d0 : prx h 0 = q.toInt.toNat := by unfold prx; rw [eh]
  refine ⟨by omega, fun i hi => ?_, ⟨fun w i hi => ?_, fun w => ?_⟩, N, by omega, ?_⟩
  · rw [show i = 0 by omega, e0, d0, ef, eh]; exact ⟨hp, hq, h1, h2⟩
  · rw [show i = 0 by omega, e0, d0]; exact w
  · have := w 0 (by omega)
    rw [e0, d0] at this; exact this
  · show SMn g b N (prx f 0 :: []); rw [e0]; exact hs
theorem aki_rng (k : AKI g b S P Q f h t N n) : t + n ≤ N := by
  obtain ⟨k1, _, _, k, k4, k5⟩ := k
  have := smn_len _ _ k5
  rw [hls_len] at this
  omega
theorem alk_same {l r a : Nat} (hw : WSG g b S) (sl : S l) (sr : S r) (h1 : BRE g b l a) (h2 : BRE g b r a) : ALK g b l r := alk_tr (al_bre hw.1 hw.2.1 sl h1) (alk_symm (al_bre hw.1 hw.2.1 sr h2))
theorem alk_kids {l r a c : Nat} (h1 : BRE g b l a) (h2 : BRE g b r c) (va : ¬ 0 ≤ g.1 a) (vc : ¬ 0 ≤ g.1 c) (e1 : g.2.2.1 a = g.2.2.1 c) (e2 : g.2.2.2.1 a = g.2.2.2.1 c) : ALK g b l r ↔ ∀ k : Nat, (k : Int) < g.2.2.2.1 a → ALK g b (g.2.2.2.2 a k) (g.2.2.2.2 c k) := by
  constructor
  · intro w k hk n
    obtain ⟨a', c', q1, q2, q3⟩ := w (n + 1)
    have ea := bre_un q1 h1
    have ec := bre_un q2 h2
    subst ea; subst ec
    rcases q3 with ⟨v, _⟩ | ⟨_, _, _, _, q⟩
    · exact absurd v va
    · exact q k hk
  · intro w n
    cases n with
    | zero => exact True.intro
    | succ n => exact ⟨a, c, h1, h2, Or.inr ⟨va, vc, e1, e2, fun k hk => w k hk n⟩⟩
theorem alk_not {l r a c : Nat} (h1 : BRE g b l a) (h2 : BRE g b r c) (k : ¬ ((0 ≤ g.1 a ∧ 0 ≤ g.1 c ∧ g.2.1 a = g.2.1 c) ∨ (¬ 0 ≤ g.1 a ∧ ¬ 0 ≤ g.1 c ∧ g.2.2.1 a = g.2.2.1 c ∧ g.2.2.2.1 a = g.2.2.2.1 c))) : ¬ ALK g b l r := fun w => by
  obtain ⟨a', c', q1, q2, q3⟩ := w 1
  have ea := bre_un q1 h1
  have ec := bre_un q2 h2
  subst ea; subst ec
  exact k (q3.imp id (fun q => ⟨q.1, q.2.1, q.2.2.1, q.2.2.2.1⟩))
/-- the pair on top: what it is -/
theorem aki_top {T : Nat} {p q x y : Int32} (hw : WSG g b S) (k : AKI g b S P Q f h t N n) (ht : t = (T : Int) + 1) (hp : p = f T) (hq : q = h T) (hx : BRX g b p x) (hy : BRX g b q y) : BRE g b (prx f T) x.toInt.toNat ∧ BRE g b (prx h T) y.toInt.toNat ∧ S x.toInt.toNat ∧ S y.toInt.toNat := by
  obtain ⟨_, k2, _⟩ := k
  obtain ⟨s1, s2, _⟩ := k2 T (by omega)
  have e1 : p.toInt.toNat = prx f T := by rw [hp]; rfl
  have e2 : q.toInt.toNat = prx h T := by rw [hq]; rfl
  obtain ⟨b1, b2⟩ := brx_wfs hw (by rw [e1]; exact s1) hx
  obtain ⟨c1, c2⟩ := brx_wfs hw (by rw [e2]; exact s2) hy
  rw [e1] at b1
  rw [e2] at c1
  exact ⟨b1, c1, b2, c2⟩
theorem aki_drop {T : Nat} {a : Nat} (hw : WSG g b S) (k : AKI g b S P Q f h t N n) (ht : t = (T : Int) + 1) (h1 : BRE g b (prx f T) a) (h2 : BRE g b (prx h T) a) (et : t' = (T : Int)) (en : n' = n + 1) : AKI g b S P Q f h t' N n' := by
  obtain ⟨k1, k2, k3, k, k4, k5⟩ := k
  obtain ⟨s1, s2, _⟩ := k2 T (by omega)
  have al := alk_same hw s1 s2 h1 h2
  refine ⟨by omega, fun i hi => k2 i (by omega), k3.trans ⟨fun w i hi => w i (by omega), fun w i hi => ?_⟩, ?_⟩
  · by_cases c : (i : Int) < t'
    · exact w i c
    · rw [show i = T by omega]; exact al
  · rw [show t.toNat = T + 1 by omega] at k5
    cases k with
    | zero => exact False.elim k5
    | succ k =>
      obtain ⟨a', _, q2⟩ := k5
      obtain ⟨j, k', e, _, q3⟩ := smn_part k _ _ q2
      exact ⟨k', by omega, by rw [show t'.toNat = T by omega]; exact q3⟩
theorem aki_fail {T : Nat} {a c : Nat} (k : AKI g b S P Q f h t N n) (ht : t = (T : Int) + 1) (h1 : BRE g b (prx f T) a) (h2 : BRE g b (prx h T) c) (hn : ¬ ((0 ≤ g.1 a ∧ 0 ≤ g.1 c ∧ g.2.1 a = g.2.1 c) ∨ (¬ 0 ≤ g.1 a ∧ ¬ 0 ≤ g.1 c ∧ g.2.2.1 a = g.2.2.1 c ∧ g.2.2.2.1 a = g.2.2.2.1 c))) : ¬ ALK g b P Q := fun w => by
  obtain ⟨_, _, k3, _⟩ := k
  exact alk_not h1 h2 hn (k3.mp w T (by omega))
theorem aki_push {T : Nat} {a c : Nat} {T' : Int} (hw : WSG g b S) (k : AKI g b S P Q f h t N n) (ht : t = (T : Int) + 1) (h1 : BRE g b (prx f T) a) (h2 : BRE g b (prx h T) c) (sa : S a) (sc : S c) (va : ¬ 0 ≤ g.1 a) (vc : ¬ 0 ≤ g.1 c) (e1 : g.2.2.1 a = g.2.2.1 c) (e2 : g.2.2.2.1 a = g.2.2.2.1 c) (hj : PSJ g a c T (g.2.2.2.1 a) (-1) f f' h h' T') (en : n' = n + 1) : AKI g b S P Q f' h' T' N n' := by
  obtain ⟨k1, k2, k3, k, k4, k5⟩ := k
  obtain ⟨_, r2, r3, r4⟩ := hw.2.2.1 _ sa
  have hl := hls_psj r2 hj
  obtain ⟨j1, j2, j3⟩ := hj
  have eT : T'.toNat = T + (g.2.2.2.1 a).toNat := by omega
  have kid : ∀ i : Nat, T ≤ i → (i : Int) < T' → ∃ j : Nat, (j : Int) < g.2.2.2.1 a ∧ (f' i).toInt = (g.2.2.2.2 a j : Int) ∧ (h' i).toInt = (g.2.2.2.2 c j : Int) ∧ i = T + (g.2.2.2.1 a).toNat - 1 - j := fun i h1 h2 => by
    have q := j3 (T + (g.2.2.2.1 a).toNat - 1 - i) (by omega) (by omega)
    rw [show T + (g.2.2.2.1 a).toNat - 1 - (T + (g.2.2.2.1 a).toNat - 1 - i) = i by omega] at q
    exact ⟨_, by omega, q.1, q.2, by omega⟩
  refine ⟨by omega, fun i hi => ?_, k3.trans ⟨fun w i hi => ?_, fun w i hi => ?_⟩, ?_⟩
  · by_cases c9 : i < T
    · unfold prx
      rw [(j1 i c9).1, (j1 i c9).2]; exact k2 i (by omega)
    · obtain ⟨j, q1, q2, q3, _⟩ := kid i (by omega) hi
      unfold prx
      rw [q2, q3]
      exact ⟨hw.1 _ _ sa (Or.inr ⟨va, j, q1, by omega⟩), hw.1 _ _ sc (Or.inr ⟨vc, j, by omega, by omega⟩), by omega, by omega⟩
  · by_cases c9 : i < T
    · unfold prx
      rw [(j1 i c9).1, (j1 i c9).2]; exact w i (by omega)
    · obtain ⟨j, q1, q2, q3, _⟩ := kid i (by omega) hi
      have al := (alk_kids h1 h2 va vc e1 e2).mp (w T (by omega)) j q1
      unfold prx
      rw [q2, q3]; exact al
  · by_cases c9 : i < T
    · have q := w i (by omega)
      unfold prx at q ⊢
      rw [(j1 i c9).1, (j1 i c9).2] at q; exact q
    · rw [show i = T by omega]
      refine (alk_kids h1 h2 va vc e1 e2).mpr (fun j hj2 => ?_)
      have q := w (T + (g.2.2.2.1 a).toNat - 1 - j) (by omega)
      have z := j3 j (by omega) hj2
      unfold prx at q
      rw [z.1, z.2] at q
      exact q
  · rw [show t.toNat = T + 1 by omega] at k5
    cases k with
    | zero => exact False.elim k5
    | succ k =>
      obtain ⟨a', q1, q2⟩ := k5
      have ea := bre_un q1 h1
      subst ea
      rw [kdq_klq (fun v => absurd v va)] at q2
      exact ⟨k, by omega, by rw [eT, hl]; exact q2⟩
theorem aki_end (k : AKI g b S P Q f h t N n) (ht : t = 0) : ALK g b P Q := by
  obtain ⟨_, _, k3, _⟩ := k
  exact k3.mpr (fun i hi => absurd hi (by omega))
theorem aki_at {T : Nat} (k : AKI g b S P Q f h t N n) (ht : t = (T : Int) + 1) : S (prx f T) ∧ S (prx h T) ∧ 0 ≤ (f T).toInt ∧ 0 ≤ (h T).toInt := k.2.1 T (by omega)
end WF
/-! addresses of the pools are unlike -/
section WJ
variable {A0 : Nat → Prop} {X : va_W} {nr nl ns : Nat} {ra la sa : Nat → Nat} {rf : Nat → RT} {lf : Nat → LT} {sf : Nat → ST}
theorem wp_injR (hD : va_D A0 (wp X (PL nr ra rf nl la lf ns sa sf))) : ∀ i j : Nat, i < nr → j < nr → ra i = ra j → i = j := fun i j hi hj e => by
  have := hD.1 _ _ _ _ (pl_R hi) (pl_R hj) e
  omega
theorem wp_injL (hD : va_D A0 (wp X (PL nr ra rf nl la lf ns sa sf))) : ∀ i j : Nat, i < nl → j < nl → la i = la j → i = j := fun i j hi hj e => by
  have := hD.1 _ _ _ _ (pl_L hi) (pl_L hj) e
  omega
end WJ
/-! what is known of a state's places, from the state -/
def ccf (cof : Nat → Int32) : Nat → Nat := fun i => (cof i).toInt.toNat
/-- clauses, literals, signs and places as the class has them -/
def MCL (m : PRM) (fst lit pls : Nat → Int32) (n : Int) : Prop := (m.2.2.2.2.1 : Int) = n ∧ (∀ c : Nat, (m.2.2.1 c : Int) = (lit c).toInt) ∧ (∀ i c k : Nat, i < 32 → (c : Int) < n → (k : Int) < (lit c).toInt → m.2.1 i c k = 300 * i + ndC fst c k) ∧ ∀ c k : Nat, (c : Int) < n → (k : Int) < (lit c).toInt → (m.2.2.2.1 c k = true ↔ sgC pls c k = 1)
def MOP (m : PRM) (d o : Int32) : Prop := m.2.2.2.2.2.1 = d.toInt ∧ (m.2.2.2.2.2.2.1 = true ↔ hasb o 1 = 1) ∧ (m.2.2.2.2.2.2.2.1 = true ↔ hasb o 2 = 1) ∧ (m.2.2.2.2.2.2.2.2 = true ↔ hasb o 4 = 1)
def VLC (m : PRM) (vp : Nat → Nat → Nat → Prop) (bnd cof : Nat → Int32) (I : Int) : Prop := VLS m vp (BDV bnd) I.toNat (ccf cof) ∧ I ≤ 30
/-- links whose literals are there -/
def GLC (la : Nat → Nat) (lf : Nat → LT) (cof lit : Nat → Int32) (n I : Int) (o : Option Nat) : Prop := ∃ xs : List LKT, LKR la lf n o xs ∧ ∀ x : LKT, x ∈ xs → (x.1 : Int) < I ∧ (x.2 : Int) < (lit (cof x.1).toInt.toNat).toInt
section VC
variable {m : PRM} {vp : Nat → Nat → Nat → Prop} {c0 : CFT} {la ra : Nat → Nat} {lf : Nat → LT} {rf : Nat → RT} {sf : Nat → ST} {bnd trl cof fst lit pls : Nat → Int32} {T I R L S : Int} {n : CTT} {o : Option Nat} {j : Nat}
theorem wfs_of (hv : VPR m vp) (h : VLC m vp bnd cof I) : WSG m.1 (BDV bnd) (VD vp (ccf cof) I.toNat) := by
  obtain ⟨⟨h1, h2, h3, h4⟩, hI⟩ := h
  refine ⟨h1, h2, fun p ⟨s, s1, s2⟩ => ?_, fun p q ⟨s, s1, s2⟩ ⟨t, t1, t2⟩ vp2 vq e => ?_⟩
  · obtain ⟨r1, r2, r3, r4⟩ := hv.1 _ _ _ s2
    exact ⟨r1, r3, r4, fun v => (hv.2.2.1 _ _ _ s2 v).2.2⟩
  · have r1 := hv.2.2.1 _ _ _ s2 vp2
    have r2 := hv.2.2.1 _ _ _ t2 vq
    have es : s = t := by omega
    subst es
    exact hv.2.2.2.1 _ _ _ _ s2 t2 vp2 vq e
theorem ccf_agi {c : Nat → Nat} (h : AGI_ cof I c) : ∀ s : Nat, s < I.toNat → ccf cof s = c s := fun s hs => by
  have e := h s (by omega)
  unfold ccf
  omega
theorem gox_vlc (hv : VPR m vp) (hc : CIV m c0) (hz : VIV m vp c0) (h : GOX m c0 la lf ra rf sf bnd trl cof T I R L S o n) : VLC m vp bnd cof I := by
  obtain ⟨fs, K, s, h1, h2, h3, h4, h5⟩ := h
  have v := viv_run hv hc hz h1
  have cv := civ_run hc h1
  obtain ⟨b1, b2, b3⟩ := h5
  have e : I.toNat = s.2.1 := by omega
  have v2 : VLS m vp s.1 s.2.1 s.2.2 := v.2
  rw [b1] at v2
  have c30 : s.2.1 ≤ 30 := cv.2.2.2.2.2.2.2.1
  exact ⟨by rw [e]; exact vls_cong v2 (fun i hi => by unfold ccf; rw [b3 i hi]; exact Int.toNat_natCast _), by omega⟩
theorem bkt_vlc (hv : VPR m vp) (hc : CIV m c0) (hz : VIV m vp c0) (h : BKT m c0 la lf ra rf sf bnd trl cof j n) : VLC m vp bnd cof (sIM (sf j)) := by
  obtain ⟨t, K, h1, h2, h3, h4⟩ := h
  subst h2
  have v := viv_run hv hc hz h1
  have cv := civ_run hc h1
  have v2 := kvl_top v
  obtain ⟨_, ⟨f, fs, e1, _⟩, hr⟩ := cv
  obtain ⟨_, _, _, _, ⟨_, _, _, _, _, _, _, c8, c9⟩, _⟩ := h3
  rw [h4] at v2
  have c30 : t.2.2.2.2.2.2.2.2.2.1 ≤ 30 := hr.2.2.2.2.2.2.1
  have e : (sIM (sf K.length)).toNat = t.2.2.2.2.2.2.2.2.2.1 := by omega
  exact ⟨by rw [e]; exact vls_cong v2 (fun i hi => by unfold ccf; rw [c9 i hi]; exact Int.toNat_natCast _), by omega⟩
/-- a literal's place -/
theorem lpy_at (hm : MCL m fst lit pls S) (hv : VPR m vp) (h : VLC m vp bnd cof I) {i k : Nat} (hi : (i : Int) < I) (hk : (k : Int) < (lit (cof i).toInt.toNat).toInt) : LPY m cof i k = 300 * i + ndC fst (cof i).toInt.toNat k ∧ VD vp (ccf cof) I.toNat (LPY m cof i k) ∧ ((cof i).toInt.toNat : Int) < S := by
  obtain ⟨⟨h1, h2, h3, h4⟩, hI⟩ := h
  have c := h4 i (by omega)
  obtain ⟨m1, m2, m3, m4⟩ := hm
  have cs : ((cof i).toInt.toNat : Int) < S := by unfold ccf at c; omega
  have e := m2 (cof i).toInt.toNat
  exact ⟨m3 i _ k (by omega) cs hk, ⟨i, by omega, hv.2.2.2.2.2 i (ccf cof i) k (by omega) c (by unfold ccf; omega)⟩, cs⟩
theorem gox_row2 {q : Nat} (hc : CIV m c0) (h : GOX m c0 la lf ra rf sf bnd trl cof T I R L S (some (ra q)) n) (hq : (q : Int) < R) (ij : ∀ i j : Nat, (i : Int) < R → (j : Int) < R → ra i = ra j → i = j) (hl : ∀ c : Nat, (m.2.2.1 c : Int) = (lit c).toInt) : (rf q).1.toInt < I ∧ GLC la lf cof lit L I (rf q).2.2.2.1 ∧ GLC la lf cof lit L I (rf q).2.2.2.2.1 := by
  obtain ⟨f, fs, K, s, h1, h2, h3, h4, h5, h6⟩ := gox_row h hq ij
  have cv := civ_run hc h1
  have ag := bnd_agi h6
  have lim := cv.2.2.2.2.2.2.1 f List.mem_cons_self
  have pt := cv.2.2.2.2.2.2.2.2.2 f List.mem_cons_self
  have e2 := h6.2.1
  have gl : ∀ x : LKT, GLL m s.2.1 s.2.2 x → (x.1 : Int) < I ∧ (x.2 : Int) < (lit (cof x.1).toInt.toNat).toInt := fun x hx => by
    obtain ⟨x1, x2⟩ := hx
    have a := ag x.1 (by omega)
    have e : (cof x.1).toInt.toNat = s.2.2 x.1 := by omega
    have l := hl (s.2.2 x.1)
    unfold lqn at x2
    rw [e]
    exact ⟨by omega, by omega⟩
  obtain ⟨r1, r2, r3, r4, r5, r6⟩ := h2
  exact ⟨by omega, ⟨_, r4, fun x hx => gl x (pt x (Or.inl hx))⟩, ⟨_, r5, fun x hx => gl x (pt x (Or.inr hx))⟩⟩
theorem glc_none {n1 : Int} : GLC la lf cof lit n1 I none := ⟨[], rfl, fun x hx => absurd hx List.not_mem_nil⟩
theorem glc_at {n1 : Int} {q : Nat} (h : GLC la lf cof lit n1 I (some (la q))) (hq : (q : Int) < n1) (ij : ∀ i j : Nat, (i : Int) < n1 → (j : Int) < n1 → la i = la j → i = j) : (0 ≤ (lf q).1.toInt ∧ (lf q).1.toInt < I) ∧ (0 ≤ (lf q).2.1.toInt ∧ (lf q).2.1.toInt < (lit (cof (lf q).1.toInt.toNat).toInt.toNat).toInt) ∧ GLC la lf cof lit n1 I (lf q).2.2.2 := by
  obtain ⟨xs, h1, h2⟩ := h
  cases xs with
  | nil => cases h1
  | cons x xs =>
    obtain ⟨q', q1, q2, q3, q4, _, q6⟩ := h1
    have e := ij q q' hq q1 (Option.some.inj q2)
    subst e
    obtain ⟨x1, x2⟩ := h2 x List.mem_cons_self
    have e1 : (lf q).1.toInt.toNat = x.1 := by omega
    rw [e1]
    exact ⟨by omega, by omega, xs, lkr_mono _ _ _ _ q6 (by omega) (fun _ _ => ⟨rfl, rfl⟩), fun y hy => h2 y (List.mem_cons_of_mem _ hy)⟩
theorem glc_mono {n1 n2 : Int} (h : GLC la lf cof lit n1 I o) (hn : n1 ≤ n2) : GLC la lf cof lit n2 I o := by
  obtain ⟨xs, h1, h2⟩ := h
  exact ⟨xs, lkr_mono _ _ _ _ h1 hn (fun _ _ => ⟨rfl, rfl⟩), h2⟩
/-- the sign and the place of two literals, as the search has them -/
theorem alq_of (hm : MCL m fst lit pls S) (hv : VPR m vp) (h : VLC m vp bnd cof I) {i k : Nat} {x : LKT} (hi : (i : Int) < I) (hk : (k : Int) < (lit (cof i).toInt.toNat).toInt) (hx : (x.1 : Int) < I) (hy : (x.2 : Int) < (lit (cof x.1).toInt.toNat).toInt) {c : Nat → Nat} (hc : AGI_ cof I c) : ALQ m (BDV bnd) c i k x ↔ (sgC pls (cof x.1).toInt.toNat x.2 = sgC pls (cof i).toInt.toNat k ∧ ALK m.1 (BDV bnd) (LPY m cof i k) (LPY m cof x.1 x.2)) := by
  obtain ⟨_, _, c1⟩ := lpy_at hm hv h hi hk
  obtain ⟨_, _, c2⟩ := lpy_at hm hv h hx hy
  have e1 := cof_nat hc hi
  have e2 := cof_nat hc hx
  have s1 := hm.2.2.2 _ _ c1 hk
  have s2 := hm.2.2.2 _ _ c2 hy
  have r : ∀ a b : Nat, sgC pls a b = 0 ∨ sgC pls a b = 1 := fun a b => by unfold sgC; omega
  have r1 := r (cof i).toInt.toNat k
  have r2 := r (cof x.1).toInt.toNat x.2
  unfold ALQ
  rw [lqp_cof hc hi, lqp_cof hc hx]
  unfold lqs
  rw [← e1, ← e2]
  refine and_congr ?_ Iff.rfl
  constructor
  · intro w
    rw [w] at s2
    rcases r1 with r1 | r1 <;> rcases r2 with r2 | r2
    · omega
    · exact absurd (s1.mp (s2.mpr r2)) (by omega)
    · exact absurd (s2.mp (s1.mpr r1)) (by omega)
    · omega
  · intro w
    rw [Bool.eq_iff_iff, s1, s2, w]
end VC
section VE
variable {m : PRM} {vp : Nat → Nat → Nat → Prop} {c0 : CFT} {la ra : Nat → Nat} {lf : Nat → LT} {rf : Nat → RT} {sf : Nat → ST} {bnd trl cof fst lit pls : Nat → Int32} {T I R L S : Int} {n : CTT} {o : Option Nat} {j : Nat}
/-- what place() answers -/
theorem plc_lpy (hm : MCL m fst lit pls S) (hv : VPR m vp) (h : VLC m vp bnd cof I) {i k r : Int32} (hi : 0 ≤ i.toInt ∧ i.toInt < I) (hk : 0 ≤ k.toInt ∧ k.toInt < (lit (cof i.toInt.toNat).toInt.toNat).toInt) (hr : r.toInt = 300 * i.toInt + (fst (6 * (cof i.toInt.toNat).toInt.toNat + k.toInt.toNat)).toInt) (hf : 0 ≤ (fst (6 * (cof i.toInt.toNat).toInt.toNat + k.toInt.toNat)).toInt) : r.toInt.toNat = LPY m cof i.toInt.toNat k.toInt.toNat ∧ VD vp (ccf cof) I.toNat r.toInt.toNat ∧ ((cof i.toInt.toNat).toInt.toNat : Int) < S := by
  obtain ⟨e1, e2, e3⟩ := lpy_at (i := i.toInt.toNat) (k := k.toInt.toNat) hm hv h (by omega) (by omega)
  have e : r.toInt.toNat = LPY m cof i.toInt.toNat k.toInt.toNat := by
    rw [e1]
    unfold ndC
    rw [clamp_nat hf]; omega
  exact ⟨e, by rw [e]; exact e2, e3⟩
/-- two literals that are there and small: what a unification of them asks for -/
theorem red_set (hm : MCL m fst lit pls S) (hv : VPR m vp) (h : VLC m vp bnd cof I) {p q : Nat} (hp : VD vp (ccf cof) I.toNat p) (hq : VD vp (ccf cof) I.toNat q) (sp : SMn m.1 (BDV bnd) 40 [p]) (sq : SMn m.1 (BDV bnd) 40 [q]) : ∃ (S9 : Nat → Prop) (VL SL : List Nat), BST m.1 (BDV bnd) S9 SL VL ∧ CLD m.1 (BDV bnd) S9 ∧ FIN m.1 (BDV bnd) S9 ∧ S9 p ∧ S9 q := bsx_two hv h.1 hp hq (slq_sml sp) (slq_sml sq) (by omega) (by omega)
/-- a small literal and one of a new instance -/
theorem ext_set (hm : MCL m fst lit pls S) (hv : VPR m vp) (h : VLC m vp bnd cof I) {i cl k r : Int32} {p : Nat} (hp : VD vp (ccf cof) I.toNat p) (sp : SMn m.1 (BDV bnd) 40 [p]) (hi : i.toInt = I) (h0 : 0 ≤ I) (hc : 0 ≤ cl.toInt ∧ cl.toInt < S) (hk : 0 ≤ k.toInt ∧ k.toInt < (lit cl.toInt.toNat).toInt) (hr : r.toInt = 300 * i.toInt + (fst (6 * cl.toInt.toNat + k.toInt.toNat)).toInt) (hf : 0 ≤ (fst (6 * cl.toInt.toNat + k.toInt.toNat)).toInt) : r.toInt.toNat = m.2.1 I.toNat cl.toInt.toNat k.toInt.toNat ∧ ∃ (S9 : Nat → Prop) (VL SL : List Nat), BST m.1 (BDV bnd) S9 SL VL ∧ CLD m.1 (BDV bnd) S9 ∧ FIN m.1 (BDV bnd) S9 ∧ S9 p ∧ S9 r.toInt.toNat := by
  obtain ⟨v, hI⟩ := h
  obtain ⟨m1, m2, m3, m4⟩ := hm
  have l2 := m2 cl.toInt.toNat
  have e : r.toInt.toNat = m.2.1 I.toNat cl.toInt.toNat k.toInt.toNat := by
    rw [m3 I.toNat cl.toInt.toNat k.toInt.toNat (by omega) (by omega) (by omega)]
    unfold ndC
    rw [clamp_nat hf]; omega
  have vq : vp cl.toInt.toNat I.toNat r.toInt.toNat := by rw [e]; exact hv.2.2.2.2.2 _ _ _ (by omega) (by omega) (by omega)
  have vn := vls_new hv v (cl := cl.toInt.toNat) (by omega)
  have p2 : VD vp (upc (ccf cof) I.toNat cl.toInt.toNat) (I.toNat + 1) p := by
    obtain ⟨s, s1, s2⟩ := hp
    exact ⟨s, by omega, by rw [upc_ne (by omega)]; exact s2⟩
  exact ⟨e, bsx_two hv vn p2 ⟨I.toNat, by omega, by rw [upc_at]; exact vq⟩ (slq_sml sp) (slq_new hv vq v.2.2.1) (by omega) (by omega)⟩
/-- the latest step's own literal, its rows' links -/
theorem bkt_own {ro : Nat} (hc : CIV m c0) (h : BKT m c0 la lf ra rf sf bnd trl cof j n) (hro : (ro : Int) < sRM (sf j)) (er : (sf j).1 = some (ra ro)) (ij : ∀ i k : Nat, (i : Int) < sRM (sf j) → (k : Int) < sRM (sf j) → ra i = ra k → i = k) (hl : ∀ c : Nat, (m.2.2.1 c : Int) = (lit c).toInt) : ((rf ro).1.toInt < sIM (sf j) ∧ (rf ro).2.2.1.toInt < (lit (cof (rf ro).1.toInt.toNat).toInt.toNat).toInt) ∧ SMn m.1 (BDV bnd) 40 [LPY m cof (rf ro).1.toInt.toNat (rf ro).2.2.1.toInt.toNat] ∧ GLC la lf cof lit (sLM (sf j)) (sIM (sf j)) (sf j).2.2.2.2.2.1 ∧ GLC la lf cof lit (sLM (sf j)) (sIM (sf j)) (rf ro).2.2.2.1 ∧ GLC la lf cof lit (sLM (sf j)) (sIM (sf j)) (rf ro).2.2.2.2.1 := by
  obtain ⟨t, K, h1, h2, h3, h4⟩ := h
  subst h2
  have iv := civ_run hc h1
  obtain ⟨_, ⟨f, fs, e1, e2, e3, e4⟩, hr⟩ := iv
  obtain ⟨r, kd, bi, bl, lt, lk, cd, fx, b0, n0, c⟩ := t
  have e1 : r = f :: fs := e1
  subst e1
  have h4 : b0 = BDV bnd := h4
  subst h4
  have e2 : f.2.2.1 < lqn m c f.1 := e2
  have e3 : SML m (BDV bnd) (lqp m c f.1 f.2.2.1) := e3
  have e4 : ∀ x : LKT, x ∈ lk → GLL m n0 c x := e4
  have hr : RWI m (f :: fs) K n0 c := hr
  obtain ⟨_, _, _, _, ⟨⟨q, q1, q2, q3, q4⟩, c2, c3, c4, c5, c6, c7, c8, c9⟩, _⟩ := id h3
  have eq : ro = q := ij ro q hro q1 (Option.some.inj (er.symm.trans q2))
  subst eq
  have c8 : sIM (sf K.length) = (n0 : Int) := c8
  have c9 : ∀ i : Nat, i < n0 → (cof i).toInt = (c i : Int) := c9
  have c4 : LKR la lf (sLM (sf K.length)) (sf K.length).2.2.2.2.2.1 lk := c4
  have lim := hr.2.2.2.2.2.1 f List.mem_cons_self
  have pt := hr.2.2.2.2.2.2.2.2 f List.mem_cons_self
  have gl : ∀ x : LKT, GLL m n0 c x → (x.1 : Int) < sIM (sf K.length) ∧ (x.2 : Int) < (lit (cof x.1).toInt.toNat).toInt := fun x hx => by
    obtain ⟨x1, x2⟩ := hx
    have a := c9 x.1 (by omega)
    have e : (cof x.1).toInt.toNat = c x.1 := by omega
    have l := hl (c x.1)
    unfold lqn at x2
    rw [e]
    exact ⟨by omega, by omega⟩
  obtain ⟨r1, r2, r3, r4, r5, r6⟩ := q3
  have g1 : (rf ro).1.toInt.toNat = f.1 := by omega
  have g2 : (rf ro).2.2.1.toInt.toNat = f.2.2.1 := by omega
  have ag : AGI_ cof (sIM (sf K.length)) c := fun i hi => c9 i (by omega)
  have ec := cof_nat ag (show ((f.1 : Nat) : Int) < sIM (sf K.length) by omega)
  have l := hl (c f.1)
  unfold lqn at e2
  refine ⟨⟨by omega, by rw [g1, ec]; omega⟩, ?_, ⟨_, c4, fun x hx => gl x (e4 x hx)⟩, ⟨_, r4, fun x hx => gl x (pt x (Or.inl hx))⟩, ⟨_, r5, fun x hx => gl x (pt x (Or.inr hx))⟩⟩
  rw [g1, g2, ← lqp_cof ag (show ((f.1 : Nat) : Int) < sIM (sf K.length) by omega)]
  exact e3
/-- below the latest choice all lemmas were tried -/
theorem gox_lt (hc : CIV m c0) (h : GOX m c0 la lf ra rf sf bnd trl cof T I R L S o n) (hl : m.2.2.2.2.2.2.2.1 = true) (hS : S = (j : Int) + 1) : (sf j).2.2.2.2.1.toInt = 1 := by
  obtain ⟨fs, K, s, h1, h2, h3, h4, h5⟩ := h
  have cv := civ_run hc h1
  cases K with
  | nil => rw [List.length_nil] at h3; omega
  | cons t K =>
    rw [List.length_cons] at h3
    have e : K.length = j := by omega
    subst e
    obtain ⟨_, _, _, _, ⟨_, _, c3, _⟩, _⟩ := h4
    exact c3.mpr (cv.1.2.1.2.1 hl)
/-- no more steps than literals of instances -/
theorem gox_len (hc : CIV m c0) (h : GOX m c0 la lf ra rf sf bnd trl cof T I R L S o n) (h6 : ∀ c : Nat, m.2.2.1 c ≤ 6) : S ≤ 180 := by
  obtain ⟨fs, K, s, h1, h2, h3, h4, h5⟩ := h
  have cv := civ_run hc h1
  obtain ⟨hK, hr⟩ := cv
  have nk : NIK 30 K := fun i u hu => by
    have a := hr.2.2.2.2.2.2.2.1 i u hu
    have c := hr.2.2.2.2.2.2.1
    omega
  have six : ∀ (i : Nat) (u : CHT) (e : FRT) (es : List FRT), atK K i = some u → u.1 = e :: es → e.2.2.1 < 6 := by
    have key : ∀ K : List CHT, KIV m K → ∀ (i : Nat) (u : CHT) (e : FRT) (es : List FRT), atK K i = some u → u.1 = e :: es → e.2.2.1 < 6 := by
      intro K
      induction K with
      | nil => intro _ i u e es hu; cases hu
      | cons t K ih =>
        intro hk i u e es hu eu
        by_cases w : i = K.length
        · subst w
          rw [atK_top] at hu
          cases hu
          obtain ⟨⟨⟨f, fs, q1, q2, _⟩, _⟩, _⟩ := hk
          rw [eu] at q1
          cases q1
          have := h6 (t.2.2.2.2.2.2.2.2.2.2 e.1)
          unfold lqn at q2
          omega
        · exact ih hk.2.2 i u e es (atK_low hu w) eu
    exact key K hK
  obtain ⟨fn, f1, f2⟩ := kiv_len K 0 hK nk six
  have k := inj_le K.length fn (List.range 180) (fun i hi => (f1 i hi).1) f2
  rw [List.length_range] at k
  omega
end VE
section VB
variable {m : PRM} {vp : Nat → Nat → Nat → Prop} {c0 : CFT} {la ra : Nat → Nat} {lf : Nat → LT} {rf : Nat → RT} {sf : Nat → ST} {bnd bnd1 bnd2 trl trl1 cof : Nat → Int32} {T T' I R L S Lo Hi : Int} {n : CTT} {j : Nat}
/-- behind a unification that is taken back all is bound as before -/
theorem bnd_back (gr : GRI Lo Hi T T' bnd trl bnd1 trl1) (hb : BTR T trl bnd) (hc : TRC T' trl1 bnd1) (hr : Rg 0 255 trl1) (u : UNE T T' trl1 bnd1 bnd2) (hz : BHZ bnd) (hz2 : BHZ bnd2) : BDV bnd2 = BDV bnd ∧ ∀ i : Nat, (i : Int) < T → trl1 i = trl i ∧ bnd2 (trl i).toInt.toNat = bnd (trl i).toInt.toNat := by
  have k1 := gri_keep gr hc hr
  have k2 := une_keep hc hr gr.1 u
  have k : ∀ i : Nat, (i : Int) < T → trl1 i = trl i ∧ bnd2 (trl i).toInt.toNat = bnd (trl i).toInt.toNat := fun i hi => by
    obtain ⟨a1, a2⟩ := k1 i hi
    have b2 := (k2 i hi).2
    rw [a1] at b2
    exact ⟨a1, b2.trans a2⟩
  have b1 := btr_gri hb gr hr
  exact ⟨trb_un (trb_full (btr_und b1 u) hz2) (trb_keep (trb_full hb hz) (Int.le_refl _) k), k⟩
theorem bkt_same (h : BKT m c0 la lf ra rf sf bnd trl cof j n) (e : BDV bnd2 = BDV bnd) (k : ∀ i : Nat, (i : Int) < sTM (sf j) → trl1 i = trl i ∧ bnd2 (trl i).toInt.toNat = bnd (trl i).toInt.toNat) : BKT m c0 la lf ra rf sf bnd2 trl1 cof j n := by
  obtain ⟨t, K, h1, h2, h3, h4⟩ := h
  exact ⟨t, K, h1, h2, stv_ext _ _ _ _ _ _ _ _ _ h3 (Int.le_refl _) (Int.le_refl _) (Int.le_refl _) (Int.le_refl _) (fun _ _ => ⟨rfl, rfl⟩) (fun _ _ => ⟨rfl, rfl⟩) (fun _ _ => rfl) k (fun _ _ => rfl), by rw [e]; exact h4⟩
/-- there is room for a step more -/
theorem kiv_six (h6 : ∀ c : Nat, m.2.2.1 c ≤ 6) : ∀ K : List CHT, KIV m K → ∀ (i : Nat) (u : CHT) (e : FRT) (es : List FRT), atK K i = some u → u.1 = e :: es → e.2.2.1 < 6 := by
  intro K
  induction K with
  | nil => intro _ i u e es hu; cases hu
  | cons t K ih =>
    intro hk i u e es hu eu
    by_cases w : i = K.length
    · subst w
      rw [atK_top] at hu
      cases hu
      obtain ⟨⟨⟨f, fs, q1, q2, _⟩, _⟩, _⟩ := hk
      rw [eu] at q1
      cases q1
      have := h6 (t.2.2.2.2.2.2.2.2.2.2 e.1)
      unfold lqn at q2
      omega
    · exact ih hk.2.2 i u e es (atK_low hu w) eu
theorem gox_room {q : Nat} (hc : CIV m c0) (h : GOX m c0 la lf ra rf sf bnd trl cof T I R L S (some (ra q)) n) (hq : (q : Int) < R) (ij : ∀ i j : Nat, (i : Int) < R → (j : Int) < R → ra i = ra j → i = j) (hl : ∀ c : Nat → Nat, AGI_ cof I c → (rf q).2.2.1.toInt < (lqn m c (rf q).1.toInt.toNat : Int)) (hr : m.2.2.2.2.2.2.1 = true → RPX m la lf (BDV bnd) cof L I (rf q) 0) (hs : ∀ c : Nat → Nat, AGI_ cof I c → SML m (BDV bnd) (lqp m c (rf q).1.toInt.toNat (rf q).2.2.1.toInt.toNat)) (h6 : ∀ c : Nat, m.2.2.1 c ≤ 6) : S ≤ 179 := by
  obtain ⟨f, fs, K, s, h1, h2, h3, h4, h5, hb⟩ := gox_row h hq ij
  have ag := bnd_agi hb
  have q1 := hl _ ag
  have q2 := hs _ ag
  have e1 : (rf q).1.toInt.toNat = f.1 := by have := h2.1; omega
  have e3 := h2.2.2.1
  have e4 : (rf q).2.2.1.toInt.toNat = f.2.2.1 := by omega
  rw [e1] at q1
  rw [e1, e4, ← hb.1] at q2
  have run : RUN m c0 (BKc (newt f fs s :: K) n) := run_st h1 (mst_push (by omega) (fun ⟨w, x⟩ => by
    rcases hr w f s.2.2 h2 ag with ⟨y, _⟩ | ⟨_, y⟩
    · cases y
    · rw [← hb.1] at y; exact y x) q2)
  obtain ⟨kv, ch⟩ := civ_run hc run
  have kt : KIV m ((f :: fs, 1, 0, 0, true, f.2.2.2.1, 0, true, s) :: K) := ⟨ch, ⟨(show (1 : Int) ≠ 0 by decide), fun _ => rfl, fun _ _ => rfl⟩, kv⟩
  have rw9 := ch.2
  have nk : NIK 30 ((f :: fs, 1, 0, 0, true, f.2.2.2.1, 0, true, s) :: K) := fun i u hu => by
    have c := rw9.2.2.2.2.2.2.1
    by_cases w : i = K.length
    · subst w
      rw [atK_top] at hu
      cases hu
      exact c
    · have a := rw9.2.2.2.2.2.2.2.1 i u (atK_low hu w)
      omega
  obtain ⟨fn, f1, f2⟩ := kiv_len _ 0 kt nk (kiv_six h6 _ kt)
  have k := inj_le _ fn (List.range 180) (fun i hi => (f1 i hi).1) f2
  rw [List.length_range, List.length_cons] at k
  omega
end VB
/-! chains: their lengths -/
def NXI (w k : Int) : Int := if k = w then k + 1 else k
theorem nxi_y {w k : Int} (h : k = w) : NXI w k = k + 1 := by unfold NXI; rw [if_pos h]
theorem nxi_n {w k : Int} (h : ¬ k = w) : NXI w k = k := by unfold NXI; rw [if_neg h]
section LL
variable {la la' : Nat → Nat} {lf lf' : Nat → LT} {n : Int} {o : Option Nat} {q : Nat}
theorem lkr_len1 {xs : List LKT} (h : LKR la lf n o xs) (e : o = some (la q)) (hq : (q : Int) < n) (ij : ∀ i j : Nat, (i : Int) < n → (j : Int) < n → la i = la j → i = j) : (lf q).2.2.1.toInt = (xs.length : Int) := by
  cases xs with
  | nil => have h : o = none := h; rw [e] at h; cases h
  | cons x xs =>
    obtain ⟨q', q1, q2, _, _, q5, _⟩ := h
    have eq := ij q q' hq q1 (Option.some.inj (e.symm.trans q2))
    subst eq
    rw [q5, List.length_cons]; omega
theorem lkr_len0 {xs : List LKT} (h : LKR la lf n none xs) : (xs.length : Int) = 0 := by
  cases xs with
  | nil => rfl
  | cons x xs => obtain ⟨q', _, q2, _⟩ := h; cases q2
theorem lkr_len : ∀ (xs : List LKT) (n : Int) (o : Option Nat), 0 ≤ n → LKR la lf n o xs → (xs.length : Int) ≤ n := by
  intro xs
  induction xs with
  | nil => intro n o h0 _; rw [List.length_nil]; omega
  | cons x xs ih =>
    intro n o h0 h
    obtain ⟨q, q1, _, _, _, _, q6⟩ := h
    have := ih (q : Int) _ (by omega) q6
    rw [List.length_cons]; omega
end LL
section VM
variable {m : PRM} {c0 : CFT} {la ra : Nat → Nat} {lf : Nat → LT} {rf : Nat → RT} {sf : Nat → ST} {bnd trl cof : Nat → Int32} {T I R L S : Int} {n : CTT} {j : Nat}
theorem bkx_marks (h : BKX m c0 la lf ra rf sf bnd trl cof T I R L S n) (hj : (j : Int) + 1 = S) : 0 ≤ sTM (sf j) ∧ sTM (sf j) ≤ T := by
  obtain ⟨K, h1, h2, h3⟩ := h
  cases K with
  | nil => rw [List.length_nil] at h2; omega
  | cons t K =>
    rw [List.length_cons] at h2
    have e : K.length = j := by omega
    subst e
    exact h3.1
/-- what a row that is to be closed tells of itself -/
theorem czx_lk {ro : Nat} (h : CZX m c0 la lf ra rf sf bnd trl cof T I j n) (hro : (ro : Int) < sRM (sf j)) (er : (sf j).1 = some (ra ro)) (ij : ∀ i k : Nat, (i : Int) < sRM (sf j) → (k : Int) < sRM (sf j) → ra i = ra k → i = k) : (∃ xs : List LKT, LKR la lf (sLM (sf j)) (rf ro).2.2.2.1 xs) ∧ (∃ xs : List LKT, LKR la lf (sLM (sf j)) (rf ro).2.2.2.2.1 xs) ∧ (0 ≤ sRM (sf j) ∧ 0 ≤ sLM (sf j)) := by
  obtain ⟨f, fs, gs, t, K, s, h1, h2, h3, h4, _⟩ := h
  subst h3
  obtain ⟨r, w⟩ := t
  have h2 : r = f :: fs := h2
  subst h2
  obtain ⟨k1, k2, k3, k4, ⟨⟨q, q1, q2, q3, q4⟩, _⟩, _⟩ := h4
  have eq : ro = q := ij ro q hro q1 (Option.some.inj (er.symm.trans q2))
  subst eq
  exact ⟨⟨_, q3.2.2.2.1⟩, ⟨_, q3.2.2.2.2.1⟩, k3.1, k4.1⟩
theorem nxi_rs {w k : Int} : NXI w (k + 1) = if w = k + 1 then k + 2 else k + 1 := by
  unfold NXI
  by_cases e : k + 1 = w
  · rw [if_pos e, if_pos e.symm]; omega
  · rw [if_neg e, if_neg (fun q => e q.symm)]
theorem nxi_ex {w k : Int} (h : k = 0) : NXI w k = if w = 0 then 1 else 0 := by
  subst h
  unfold NXI
  by_cases e : (0 : Int) = w
  · rw [if_pos e, if_pos e.symm]; rfl
  · rw [if_neg e, if_neg (fun q => e q.symm)]
end VM
