/-! the class's unification: places joined, the rows of what is left -/
theorem inj_le : ∀ (n : Nat) (f : Nat → Nat) (M : List Nat), (∀ i : Nat, i < n → f i ∈ M) → (∀ i j : Nat, i < n → j < n → f i = f j → i = j) → n ≤ M.length := by
  intro n
  induction n with
  | zero => intro f M _ _; exact Nat.zero_le _
  | succ n ih =>
    intro f M h hi
    have hm := h n (by omega)
    have k := ih f (M.erase (f n)) (fun i hl => (List.mem_erase_of_ne (fun e => by have := hi i n (by omega) (by omega) e; omega)).mpr (h i (by omega))) (fun i j a c e => hi i j (by omega) (by omega) e)
    have l := List.length_erase_of_mem hm
    have q := List.length_pos_of_mem hm
    omega
def nxt (sam : Nat → Int32) (p : Nat) : Nat := ((sam p).toInt - 1).toNat
def rtF (sam : Nat → Int32) : Nat → Nat → Nat
  | 0, p => p
  | n + 1, p => if (sam p).toInt = 0 then p else rtF sam n (nxt sam p)
def RTE (sam : Nat → Int32) (p q : Nat) : Prop := ∃ n : Nat, rtF sam n p = q ∧ (sam q).toInt = 0
section RT
variable {sam sam' jnd jnd' : Nat → Int32}
theorem rtF_s (n p : Nat) : rtF sam (n + 1) p = (if (sam p).toInt = 0 then p else rtF sam n (nxt sam p)) := rfl
theorem rtF_z {p : Nat} (h : (sam p).toInt = 0) : ∀ n : Nat, rtF sam n p = p := by
  intro n
  cases n with
  | zero => rfl
  | succ n => rw [rtF_s, if_pos h]
theorem rtF_add : ∀ (n m p : Nat), rtF sam (n + m) p = rtF sam m (rtF sam n p) := by
  intro n
  induction n with
  | zero => intro m p; rw [Nat.zero_add]; rfl
  | succ n ih =>
    intro m p
    rw [show n + 1 + m = (n + m) + 1 by omega, rtF_s, rtF_s]
    by_cases c : (sam p).toInt = 0
    · rw [if_pos c, if_pos c, rtF_z c]
    · rw [if_neg c, if_neg c]; exact ih m _
theorem rte_un0 : ∀ (n m p : Nat), (sam (rtF sam n p)).toInt = 0 → (sam (rtF sam m p)).toInt = 0 → rtF sam n p = rtF sam m p := by
  intro n m p h k
  rcases Nat.le_total n m with e | e
  · obtain ⟨d, hd⟩ := Nat.exists_eq_add_of_le e
    rw [hd, rtF_add, rtF_z h]
  · obtain ⟨d, hd⟩ := Nat.exists_eq_add_of_le e
    rw [hd, rtF_add, rtF_z k]
theorem rte_un {p q q' : Nat} (h : RTE sam p q) (k : RTE sam p q') : q = q' := by
  obtain ⟨n, e, t⟩ := h
  obtain ⟨m, f, u⟩ := k
  subst e; subst f
  exact rte_un0 n m p t u
theorem rte_rf {p : Nat} (h : (sam p).toInt = 0) : RTE sam p p := ⟨0, rfl, h⟩
theorem rte_go {p q : Nat} (c : ¬ (sam p).toInt = 0) (h : RTE sam (nxt sam p) q) : RTE sam p q := by
  obtain ⟨n, e, t⟩ := h
  exact ⟨n + 1, by rw [rtF_s, if_neg c]; exact e, t⟩
def pj (jnd : Nat → Int32) (i : Nat) : Nat := (jnd i).toInt.toNat
/-- the places that were joined to others, in their order -/
def JOI (S : Nat → Prop) (sam jnd : Nat → Int32) (J : Int) : Prop := 0 ≤ J ∧ (∀ i : Nat, (i : Int) < J → S (pj jnd i) ∧ 1 ≤ (sam (pj jnd i)).toInt ∧ S (nxt sam (pj jnd i)) ∧ ((sam (nxt sam (pj jnd i))).toInt = 0 ∨ ∃ j : Nat, i < j ∧ (j : Int) < J ∧ pj jnd j = nxt sam (pj jnd i))) ∧ (∀ i j : Nat, (i : Int) < J → (j : Int) < J → pj jnd i = pj jnd j → i = j) ∧ ∀ p : Nat, p < 9600 → ¬ (sam p).toInt = 0 → ∃ i : Nat, (i : Int) < J ∧ pj jnd i = p
theorem joi_root {S : Nat → Prop} {J : Int} (hS : ∀ p : Nat, S p → p < 9600) (h : JOI S sam jnd J) {p : Nat} (hp : S p) : ∃ n : Nat, (n : Int) ≤ J ∧ (sam (rtF sam n p)).toInt = 0 := by
  obtain ⟨h0, h1, h2, h3⟩ := h
  have key : ∀ (m i : Nat), (i : Int) < J → J - i ≤ m → ∃ n : Nat, n ≤ m ∧ (sam (rtF sam n (pj jnd i))).toInt = 0 := by
    intro m
    induction m with
    | zero => intro i a c; omega
    | succ m ih =>
      intro i a c
      obtain ⟨_, k2, _, k4⟩ := h1 i a
      have nz : ¬ (sam (pj jnd i)).toInt = 0 := by omega
      rcases k4 with k4 | ⟨j, j1, j2, j3⟩
      · exact ⟨1, by omega, by rw [rtF_s, if_neg nz]; exact k4⟩
      · obtain ⟨n, n1, n2⟩ := ih j j2 (by omega)
        exact ⟨n + 1, by omega, by rw [rtF_s, if_neg nz, ← j3]; exact n2⟩
  by_cases c : (sam p).toInt = 0
  · exact ⟨0, by omega, c⟩
  · obtain ⟨i, a, e⟩ := h3 p (hS p hp) c
    obtain ⟨n, n1, n2⟩ := key J.toNat i a (by omega)
    exact ⟨n, by omega, by rw [← e]; exact n2⟩
/-- what root() answers -/
theorem joi_rt {S : Nat → Prop} {J : Int} (hS : ∀ p : Nat, S p → p < 9600) (h : JOI S sam jnd J) (hJ : J ≤ 1024) {p m r : Nat} (hp : S p) (hr : r = rtF sam m p) (hm : m = 1024 ∨ (sam r).toInt = 0) : RTE sam p r := by
  obtain ⟨n, n1, n2⟩ := joi_root hS h hp
  rcases hm with hm | hm
  · have e : rtF sam m p = rtF sam n p := by
      rw [show m = n + (m - n) by omega, rtF_add, rtF_z n2]
    exact ⟨m, hr.symm, by rw [hr, e]; exact n2⟩
  · exact ⟨m, hr.symm, hm⟩
theorem joi_len {S : Nat → Prop} {J : Int} {M : List Nat} (hM : ∀ p : Nat, S p → p ∈ M) (h : JOI S sam jnd J) : J ≤ M.length := by
  obtain ⟨h0, h1, h2, h3⟩ := h
  have k := inj_le J.toNat (pj jnd) M (fun i hi => hM _ (h1 i (by omega)).1) (fun i j a c e => h2 i j (by omega) (by omega) e)
  omega
theorem joi_zero {S : Nat → Prop} (h : ∀ p : Nat, p < 9600 → (sam p).toInt = 0) : JOI S sam jnd 0 := ⟨by omega, fun i a => absurd a (by omega), fun i j a => absurd a (by omega), fun p hp c => absurd (h p hp) c⟩
/-- a root comes under another one -/
theorem joi_add {S : Nat → Prop} {J : Int} {x y j : Int32} {q1 q2 : Nat} (h : JOI S sam jnd J) (s1 : S q1) (s2 : S q2) (z1 : (sam q1).toInt = 0) (z2 : (sam q2).toInt = 0) (ne : q1 ≠ q2) (hx : Int32.toNatClampNeg x = q1) (hx0 : x.toInt.toNat = q1) (hy : y.toInt = (q2 : Int) + 1) (hj : j.toInt = J) (e1 : sam' = upd sam (Int32.toNatClampNeg x) y) (e2 : jnd' = upd jnd (Int32.toNatClampNeg j) x) : JOI S sam' jnd' (J + 1) := by
  obtain ⟨h0, h1, h2, h3⟩ := h
  have cj : Int32.toNatClampNeg j = J.toNat := by rw [clamp_nat (by omega)]; omega
  have sx : (sam' q1).toInt = (q2 : Int) + 1 := by rw [e1, hx, pk_us]; exact hy
  have so : ∀ p : Nat, p ≠ q1 → sam' p = sam p := fun p hp => by rw [e1, hx, pk_un hp]
  have jo : ∀ i : Nat, (i : Int) < J → pj jnd' i = pj jnd i := fun i hi => by
    unfold pj
    rw [e2, cj, pk_un (by omega)]
  have jn : pj jnd' J.toNat = q1 := by
    unfold pj
    rw [e2, cj, pk_us]; exact hx0
  have old : ∀ i : Nat, (i : Int) < J → pj jnd i ≠ q1 := fun i hi e => by
    have := (h1 i hi).2.1
    rw [e] at this; omega
  have nx1 : nxt sam' q1 = q2 := by unfold nxt; rw [sx]; omega
  refine ⟨by omega, fun i hi => ?_, fun i k hi hk e => ?_, fun p hp hz => ?_⟩
  · by_cases c : (i : Int) < J
    · obtain ⟨k1, k2, k3, k4⟩ := h1 i c
      have en : nxt sam' (pj jnd i) = nxt sam (pj jnd i) := by unfold nxt; rw [so _ (old i c)]
      rw [jo i c, so _ (old i c), en]
      refine ⟨k1, k2, k3, ?_⟩
      by_cases w : nxt sam (pj jnd i) = q1
      · exact Or.inr ⟨J.toNat, by omega, by omega, by rw [jn, w]⟩
      · rw [so _ w]
        rcases k4 with k4 | ⟨m, m1, m2, m3⟩
        · exact Or.inl k4
        · exact Or.inr ⟨m, m1, by omega, by rw [jo m m2]; exact m3⟩
    · have ei : i = J.toNat := by omega
      subst ei
      rw [jn, nx1, so q2 (fun e => ne e.symm)]
      exact ⟨s1, by omega, s2, Or.inl z2⟩
  · by_cases c : (i : Int) < J
    · by_cases d : (k : Int) < J
      · rw [jo i c, jo k d] at e; exact h2 i k c d e
      · have ek : k = J.toNat := by omega
        subst ek
        rw [jo i c, jn] at e
        exact absurd e (old i c)
    · have ei : i = J.toNat := by omega
      subst ei
      by_cases d : (k : Int) < J
      · rw [jo k d, jn] at e
        exact absurd e.symm (old k d)
      · omega
  · by_cases w : p = q1
    · exact ⟨J.toNat, by omega, by rw [jn, w]⟩
    · rw [so p w] at hz
      obtain ⟨i, i1, i2⟩ := h3 p hp hz
      exact ⟨i, by omega, by rw [jo i i1]; exact i2⟩
theorem rte_join {q1 q2 : Nat} (z1 : (sam q1).toInt = 0) (z2 : (sam q2).toInt = 0) (ne : q1 ≠ q2) (s1 : (sam' q1).toInt = (q2 : Int) + 1) (so : ∀ p : Nat, p ≠ q1 → sam' p = sam p) : ∀ (n p q : Nat), rtF sam n p = q → (sam q).toInt = 0 → RTE sam' p (if q = q1 then q2 else q) := by
  intro n
  have root : ∀ q : Nat, (sam q).toInt = 0 → RTE sam' q (if q = q1 then q2 else q) := fun q hq => by
    by_cases c : q = q1
    · rw [if_pos c, c]
      have e : nxt sam' q1 = q2 := by unfold nxt; rw [s1]; omega
      exact rte_go (by omega) (by rw [e]; exact rte_rf (by rw [so q2 (fun e => ne e.symm)]; exact z2))
    · rw [if_neg c]; exact rte_rf (by rw [so q c]; exact hq)
  induction n with
  | zero => intro p q e hq; have e2 : p = q := e; subst e2; exact root p hq
  | succ n ih =>
    intro p q e hq
    rw [rtF_s] at e
    by_cases c : (sam p).toInt = 0
    · rw [if_pos c] at e; subst e; exact root p hq
    · rw [if_neg c] at e
      have np : p ≠ q1 := fun w => c (by rw [w]; exact z1)
      have en : nxt sam' p = nxt sam p := by unfold nxt; rw [so p np]
      exact rte_go (by rw [so p np]; exact c) (by rw [en]; exact ih _ q e hq)
end RT
/-! rows of pairs of places, and of joins -/
def plx (f : Nat → Int32) (i : Nat) : Nat := if (f i).toInt < 0 then (-1 - (f i).toInt).toNat else (f i).toInt.toNat
def prx (f : Nat → Int32) (i : Nat) : Nat := (f i).toInt.toNat
def mkc (f : Nat → Int32) : Nat → Int
  | 0 => 0
  | t + 1 => mkc f t + (if (f t).toInt < 0 then 1 else 0)
def gls (f h : Nat → Int32) : Nat → List (Nat × Nat)
  | 0 => []
  | t + 1 => if (f t).toInt < 0 then gls f h t else (plx f t, prx h t) :: gls f h t
section UV
variable (g : GVT) (b : Nat → Int)
def KID (f h : Nat → Int32) (t i u v : Nat) : Prop := ALK g b u v ∨ ∃ j : Nat, i < j ∧ j < t ∧ ((0 ≤ (f j).toInt ∧ plx f j = u ∧ prx h j = v) ∨ ((f j).toInt < 0 ∧ BRE g b u (plx f j) ∧ BRE g b v (prx h j)))
def NRT (sam : Nat → Int32) (a c : Nat) : Prop := ∀ x y : Nat, RTE sam a x → RTE sam c y → x ≠ y
def LIK (a c : Nat) : Prop := ¬ 0 ≤ g.1 a ∧ ¬ 0 ≤ g.1 c ∧ g.2.2.1 a = g.2.2.1 c ∧ g.2.2.2.1 a = g.2.2.2.1 c
def MKR (sam f h : Nat → Int32) (t i : Nat) : Prop := LIK g (plx f i) (prx h i) ∧ NRT sam (plx f i) (prx h i) ∧ (∀ k : Nat, (k : Int) < g.2.2.2.1 (plx f i) → KID g b f h t i (g.2.2.2.2 (plx f i) k) (g.2.2.2.2 (prx h i) k)) ∧ ∀ j : Nat, i < j → j < t → BLW g b (plx f j) (plx f i)
def ENT (S : Nat → Prop) (sam f h : Nat → Int32) (t : Nat) : Prop := ∀ i : Nat, i < t → S (plx f i) ∧ S (prx h i) ∧ (i : Int) ≤ 3 * mkc f i ∧ ((f i).toInt < 0 → MKR g b sam f h t i)
def LNK (S : Nat → Prop) (sam : Nat → Int32) : Prop := ∀ p : Nat, S p → ¬ (sam p).toInt = 0 → ALK g b p (nxt sam p) ∧ S (nxt sam p)
def UNV (S : Nat → Prop) (sam jnd : Nat → Int32) (J : Int) (f h : Nat → Int32) (t : Nat) (n : Int) : Prop := CLD g b S ∧ FIN g b S ∧ JOI S sam jnd J ∧ LNK g b S sam ∧ ENT g b S sam f h t ∧ n + t ≤ 1 + 4 * (J + mkc f t)
end UV
section UL
variable {g : GVT} {b b1 : Nat → Int} {S : Nat → Prop} {sam sam' jnd jnd' f f' h h' : Nat → Int32}
theorem mkc_s {t : Nat} : mkc f (t + 1) = mkc f t + (if (f t).toInt < 0 then 1 else 0) := rfl
theorem mkc_cong : ∀ t : Nat, (∀ i : Nat, i < t → f' i = f i) → mkc f' t = mkc f t := by
  intro t
  induction t with
  | zero => intro _; rfl
  | succ t ih => intro hh; rw [mkc_s, mkc_s, ih (fun i hi => hh i (by omega)), hh t (by omega)]
theorem mkc_neg {t : Nat} (c : (f t).toInt < 0) : mkc f (t + 1) = mkc f t + 1 := by rw [mkc_s, if_pos c]
theorem mkc_pos {t : Nat} (c : ¬ (f t).toInt < 0) : mkc f (t + 1) = mkc f t := by rw [mkc_s, if_neg c, Int.add_zero]
theorem gls_s {t : Nat} : gls f h (t + 1) = (if (f t).toInt < 0 then gls f h t else (plx f t, prx h t) :: gls f h t) := rfl
theorem gls_cong : ∀ t : Nat, (∀ i : Nat, i < t → f' i = f i ∧ h' i = h i) → gls f' h' t = gls f h t := by
  intro t
  induction t with
  | zero => intro _; rfl
  | succ t ih =>
    intro hh
    obtain ⟨e1, e2⟩ := hh t (by omega)
    rw [gls_s, gls_s, ih (fun i hi => hh i (by omega))]
    unfold plx prx
    rw [e1, e2]
theorem plx_cong {i : Nat} (e : f' i = f i) : plx f' i = plx f i := by unfold plx; rw [e]
theorem prx_cong {i : Nat} (e : h' i = h i) : prx h' i = prx h i := by unfold prx; rw [e]
theorem lnk_rte (hl : LNK g b S sam) (hc : CLD g b S) (hf : FIN g b S) : ∀ (n p q : Nat), S p → rtF sam n p = q → ALK g b p q ∧ S q := by
  intro n
  induction n with
  | zero => intro p q hp e; have e2 : p = q := e; subst e2; exact ⟨alk_rf hc hf hp, hp⟩
  | succ n ih =>
    intro p q hp e
    rw [rtF_s] at e
    by_cases c : (sam p).toInt = 0
    · rw [if_pos c] at e; subst e; exact ⟨alk_rf hc hf hp, hp⟩
    · rw [if_neg c] at e
      obtain ⟨k1, k2⟩ := hl p hp c
      obtain ⟨l1, l2⟩ := ih _ q k2 e
      exact ⟨alk_tr k1 l1, l2⟩
/-- the entry on top is done: what it was for is alike -/
theorem ent_pop {t : Nat} (hc : CLD g b S) (hf : FIN g b S) (he : ENT g b S sam f h (t + 1)) (ha : ALK g b (plx f t) (prx h t)) : ENT g b S sam f h t := fun i hi => by
  obtain ⟨h1, h2, h3, h4⟩ := he i (by omega)
  refine ⟨h1, h2, h3, fun c => ?_⟩
  obtain ⟨m1, m2, m3, m4⟩ := h4 c
  refine ⟨m1, m2, fun k hk => ?_, fun j a d => m4 j a (by omega)⟩
  have su : S (g.2.2.2.2 (plx f i) k) := hc _ _ h1 (Or.inr ⟨m1.1, k, hk, rfl⟩)
  have sv : S (g.2.2.2.2 (prx h i) k) := hc _ _ h2 (Or.inr ⟨m1.2.1, k, by have := m1.2.2.2; omega, rfl⟩)
  rcases m3 k hk with q | ⟨j, j1, j2, q⟩
  · exact Or.inl q
  · by_cases w : j < t
    · exact Or.inr ⟨j, j1, w, q⟩
    · have ej : j = t := by omega
      subst ej
      rcases q with ⟨q1, q2, q3⟩ | ⟨q1, q2, q3⟩
      · rw [q2, q3] at ha; exact Or.inl ha
      · exact Or.inl (alk_tr (al_bre hc hf su q2) (alk_tr ha (alk_symm (al_bre hc hf sv q3))))
/-- a marker that comes to the top: its places are alike -/
theorem ent_mark {t : Nat} (hc : CLD g b S) (hf : FIN g b S) (he : ENT g b S sam f h (t + 1)) (hm : (f t).toInt < 0) : ALK g b (plx f t) (prx h t) := by
  obtain ⟨h1, h2, h3, h4⟩ := he t (by omega)
  obtain ⟨⟨l1, l2, l3, l4⟩, m2, m3, m4⟩ := h4 hm
  intro n
  cases n with
  | zero => exact True.intro
  | succ n =>
    refine ⟨plx f t, prx h t, bre_ter (fun q => l1 q.1), bre_ter (fun q => l2 q.1), Or.inr ⟨l1, l2, l3, l4, fun k hk => ?_⟩⟩
    rcases m3 k hk with q | ⟨j, j1, j2, _⟩
    · exact q n
    · omega
theorem unv_cast {J J' n n' : Int} {t t' : Nat} (hu : UNV g b S sam jnd J f h t n) (e1 : J' = J) (e2 : t' = t) (e3 : n' = n) : UNV g b S sam jnd J' f h t' n' := by subst e1; subst e2; subst e3; exact hu
/-- a pair that was alike already -/
theorem unv_alike {J n : Int} {t : Nat} (hu : UNV g b S sam jnd J f h (t + 1) n) (hp : ¬ (f t).toInt < 0) (ha : ALK g b (plx f t) (prx h t)) : UNV g b S sam jnd J f h t (n + 1) := by
  obtain ⟨u1, u2, u3, u4, u5, u6⟩ := hu
  rw [mkc_pos hp] at u6
  exact ⟨u1, u2, u3, u4, ent_pop u1 u2 u5 ha, by omega⟩
/-- the join of a marker that comes to the top -/
theorem unv_join {J n : Int} {t q1 q2 : Nat} {x y j : Int32} (hS : ∀ p : Nat, S p → p < 9600) (hu : UNV g b S sam jnd J f h (t + 1) n) (hm : (f t).toInt < 0) (r1 : RTE sam (plx f t) q1) (r2 : RTE sam (prx h t) q2) (hx : Int32.toNatClampNeg x = q1) (hx0 : x.toInt.toNat = q1) (hy : y.toInt = (q2 : Int) + 1) (hj : j.toInt = J) (e1 : sam' = upd sam (Int32.toNatClampNeg x) y) (e2 : jnd' = upd jnd (Int32.toNatClampNeg j) x) : UNV g b S sam' jnd' (J + 1) f h t (n + 1) := by
  obtain ⟨u1, u2, u3, u4, u5, u6⟩ := hu
  obtain ⟨h1, h2, h3, h4⟩ := u5 t (by omega)
  obtain ⟨m1, m2, m3, m4⟩ := h4 hm
  have ha := ent_mark u1 u2 u5 hm
  have ne := m2 q1 q2 r1 r2
  obtain ⟨n1, a1, z1⟩ := r1
  obtain ⟨n2, a2, z2⟩ := r2
  obtain ⟨k1, s1⟩ := lnk_rte u4 u1 u2 n1 _ _ h1 a1
  obtain ⟨k2, s2⟩ := lnk_rte u4 u1 u2 n2 _ _ h2 a2
  have so : ∀ p : Nat, p ≠ q1 → sam' p = sam p := fun p hp => by rw [e1, hx, pk_un hp]
  have sx : (sam' q1).toInt = (q2 : Int) + 1 := by rw [e1, hx, pk_us]; exact hy
  have q12 : ALK g b q1 q2 := alk_tr (alk_symm k1) (alk_tr ha k2)
  rw [mkc_neg hm] at u6
  have en := ent_pop u1 u2 u5 ha
  refine ⟨u1, u2, joi_add u3 s1 s2 z1 z2 ne hx hx0 hy hj e1 e2, fun p hp hz => ?_, fun i hi => ?_, by omega⟩
  · by_cases w : p = q1
    · have e : nxt sam' q1 = q2 := by unfold nxt; rw [sx]; omega
      rw [w, e]; exact ⟨q12, s2⟩
    · have e : nxt sam' p = nxt sam p := by unfold nxt; rw [so p w]
      rw [so p w] at hz
      rw [e]; exact u4 p hp hz
  · obtain ⟨g1, g2, g3, g4⟩ := en i hi
    refine ⟨g1, g2, g3, fun c => ?_⟩
    obtain ⟨w1, w2, w3, w4⟩ := g4 c
    refine ⟨w1, fun a c' ra rc => ?_, w3, w4⟩
    have bl : BLW g b (plx f t) (plx f i) := by
      obtain ⟨_, _, _, v4⟩ := u5 i (by omega)
      exact (v4 c).2.2.2 t hi (by omega)
    obtain ⟨na, ea⟩ := u2 _ g1
    obtain ⟨d1, _, z3⟩ := joi_root hS u3 g1
    obtain ⟨d2, _, z4⟩ := joi_root hS u3 g2
    obtain ⟨x0, ex⟩ : ∃ x0 : Nat, x0 = rtF sam d1 (plx f i) := ⟨_, rfl⟩
    obtain ⟨y0, ey⟩ : ∃ y0 : Nat, y0 = rtF sam d2 (prx h i) := ⟨_, rfl⟩
    rw [← ex] at z3
    rw [← ey] at z4
    obtain ⟨k3, _⟩ := lnk_rte u4 u1 u2 d1 _ _ g1 ex.symm
    have r3 := rte_un ra (rte_join z1 z2 ne sx so d1 _ _ ex.symm z3)
    have r4 := rte_un rc (rte_join z1 z2 ne sx so d2 _ _ ey.symm z4)
    have ne0 := w2 x0 y0 ⟨d1, ex.symm, z3⟩ ⟨d2, ey.symm, z4⟩
    intro er
    rw [er, r4] at r3
    by_cases cx : x0 = q1
    · exact alk_blw ea (alk_tr k3 (by rw [cx]; exact alk_symm k1)) bl
    · by_cases cy : y0 = q1
      · rw [if_pos cy, if_neg cx] at r3
        exact alk_blw ea (alk_tr k3 (by rw [← r3]; exact alk_symm (alk_tr ha k2))) bl
      · rw [if_neg cx, if_neg cy] at r3
        exact ne0 r3.symm
/-- more is bound: what was alike stays so -/
theorem kid_ext {t i u v : Nat} (he : EXT b b1) (hc : CLD g b S) (hc1 : CLD g b1 S) (hf1 : FIN g b1 S) (su : S u) (sv : S v) (hm : ∀ j : Nat, j < t → (f j).toInt < 0 → ¬ 0 ≤ g.1 (plx f j) ∧ ¬ 0 ≤ g.1 (prx h j)) (hk : KID g b f h t i u v) : KID g b1 f h t i u v := by
  rcases hk with q | ⟨j, j1, j2, q⟩
  · exact Or.inl (fun n => al_ext he hc hc1 hf1 n u v su sv (q n))
  · refine Or.inr ⟨j, j1, j2, ?_⟩
    rcases q with q | ⟨q1, q2, q3⟩
    · exact Or.inl q
    · obtain ⟨m1, m2⟩ := hm j j2 q1
      exact Or.inr ⟨q1, bre_ext he q2 (bre_ter (fun w => m1 w.1)), bre_ext he q3 (bre_ter (fun w => m2 w.1))⟩
theorem ent_ext {t : Nat} (he : EXT b b1) (hc : CLD g b S) (hc1 : CLD g b1 S) (hf1 : FIN g b1 S) (hu : ENT g b S sam f h t) : ENT g b1 S sam f h t := fun i hi => by
  obtain ⟨h1, h2, h3, h4⟩ := hu i hi
  refine ⟨h1, h2, h3, fun c => ?_⟩
  obtain ⟨m1, m2, m3, m4⟩ := h4 c
  have hm : ∀ j : Nat, j < t → (f j).toInt < 0 → ¬ 0 ≤ g.1 (plx f j) ∧ ¬ 0 ≤ g.1 (prx h j) := fun j hj cj => by
    obtain ⟨_, _, _, w⟩ := hu j hj
    exact ⟨(w cj).1.1, (w cj).1.2.1⟩
  refine ⟨m1, m2, fun k hk => ?_, fun j a d => blw_ext he (m4 j a d)⟩
  exact kid_ext he hc hc1 hf1 (hc _ _ h1 (Or.inr ⟨m1.1, k, hk, rfl⟩)) (hc _ _ h2 (Or.inr ⟨m1.2.1, k, by have := m1.2.2.2; omega, rfl⟩)) hm (m3 k hk)
theorem lnk_ext (he : EXT b b1) (hc : CLD g b S) (hc1 : CLD g b1 S) (hf1 : FIN g b1 S) (hl : LNK g b S sam) : LNK g b1 S sam := fun p hp hz => by
  obtain ⟨k1, k2⟩ := hl p hp hz
  exact ⟨fun n => al_ext he hc hc1 hf1 n _ _ hp k2 (k1 n), k2⟩
/-- a free cell is bound: of the two places one is its variable -/
theorem unv_bind {J n : Int} {t c x u v : Nat} (hu : UNV g b S sam jnd J f h (t + 1) n) (hp : ¬ (f t).toInt < 0) (hb : b c < 0) (sx : S x) (ho : ¬ OCC g b x c) (hq : (BRE g b (plx f t) u ∧ 0 ≤ g.1 u ∧ g.2.1 u = c ∧ BRE g b (prx h t) x) ∨ (BRE g b (prx h t) u ∧ 0 ≤ g.1 u ∧ g.2.1 u = c ∧ BRE g b (plx f t) x)) : UNV g (bst b c x) S sam jnd J f h t (n + 1) := by
  obtain ⟨u1, u2, u3, u4, u5, u6⟩ := hu
  have he : EXT b (bst b c x) := ext_bst hb
  have c1 : CLD g (bst b c x) S := cld_bind sx u1
  have f1 : FIN g (bst b c x) S := fin_bind hb sx ho u2
  obtain ⟨m, hm⟩ := f1 x sx
  obtain ⟨y, hy⟩ := ht_bre hm
  have go : ∀ w : Nat, 0 ≤ g.1 w → g.2.1 w = c → BRE g (bst b c x) w y := fun w a d => bre_go ⟨a, by rw [d, bst_at]; omega⟩ (by rw [d, bst_at]; exact hy)
  have al : ∀ p q w : Nat, S q → S p → BRE g b p w → 0 ≤ g.1 w → g.2.1 w = c → BRE g b q x → ALK g (bst b c x) p q := fun p q w sq sp a1 a2 a3 a4 =>
    alk_tr (al_bre c1 f1 sp (bre_ext he a1 (go w a2 a3))) (alk_symm (al_bre c1 f1 sq (bre_ext he a4 hy)))
  obtain ⟨s1, s2, _, _⟩ := u5 t (by omega)
  have ha : ALK g (bst b c x) (plx f t) (prx h t) := by
    rcases hq with ⟨a1, a2, a3, a4⟩ | ⟨a1, a2, a3, a4⟩
    · exact al _ _ u s2 s1 a1 a2 a3 a4
    · exact alk_symm (al _ _ u s1 s2 a1 a2 a3 a4)
  rw [mkc_pos hp] at u6
  exact ⟨c1, f1, u3, lnk_ext he u1 c1 f1 u4, ent_pop c1 f1 (ent_ext he u1 c1 f1 u5) ha, by omega⟩
/-- two names whose terms come on the rows: below them a join -/
def PSH (g : GVT) (a c : Nat) (t T : Nat) (f f' h h' : Nat → Int32) : Prop := (∀ i : Nat, i < t → f' i = f i ∧ h' i = h i) ∧ T = t + (g.2.2.2.1 a).toNat + 1 ∧ (f' t).toInt = -1 - (a : Int) ∧ (h' t).toInt = (c : Int) ∧ ∀ k : Nat, (k : Int) < g.2.2.2.1 a → (f' (t + (g.2.2.2.1 a).toNat - k)).toInt = (g.2.2.2.2 a k : Int) ∧ (h' (t + (g.2.2.2.1 a).toNat - k)).toInt = (g.2.2.2.2 c k : Int)
theorem plx_at {i a : Nat} (e : (f i).toInt = (a : Int)) : plx f i = a := by unfold plx; rw [if_neg (by omega)]; omega
theorem plx_mk {i a : Nat} (e : (f i).toInt = -1 - (a : Int)) : plx f i = a := by unfold plx; rw [if_pos (by omega)]; omega
theorem prx_at {i a : Nat} (e : (h i).toInt = (a : Int)) : prx h i = a := by unfold prx; omega
theorem psh_gls {a c t T : Nat} (hp : PSH g a c t T f f' h h') (h0 : 0 ≤ g.2.2.2.1 a) : gls f' h' T = kdl g a c (g.2.2.2.1 a).toNat 0 ++ gls f h t := by
  obtain ⟨p1, p2, p3, p4, p5⟩ := hp
  have key : ∀ (r k : Nat), k + r = (g.2.2.2.1 a).toNat → gls f' h' (t + 1 + r) = kdl g a c r k ++ gls f h t := by
    intro r
    induction r with
    | zero =>
      intro k _
      show gls f' h' (t + 1) = gls f h t
      rw [gls_s, if_pos (by omega), gls_cong t p1]
    | succ r ih =>
      intro k e
      obtain ⟨k1, k2⟩ := p5 k (by omega)
      have ei : t + (g.2.2.2.1 a).toNat - k = t + 1 + r := by omega
      rw [ei] at k1 k2
      rw [show t + 1 + (r + 1) = (t + 1 + r) + 1 by omega, gls_s, if_neg (by omega), plx_at k1, prx_at k2, ih (k + 1) (by omega)]
      rfl
  have w := key (g.2.2.2.1 a).toNat 0 (by omega)
  rw [p2, show t + (g.2.2.2.1 a).toNat + 1 = t + 1 + (g.2.2.2.1 a).toNat by omega]
  exact w
theorem unv_push {J n : Int} {t T a c : Nat} (hu : UNV g b S sam jnd J f h (t + 1) n) (hp : ¬ (f t).toInt < 0) (b1 : BRE g b (plx f t) a) (b2 : BRE g b (prx h t) c) (hl : LIK g a c) (hn : NRT sam a c) (hr : 1 ≤ g.2.2.2.1 a ∧ g.2.2.2.1 a ≤ 3) (hq : PSH g a c t T f f' h h') : UNV g b S sam jnd J f' h' T (n + 1) := by
  obtain ⟨u1, u2, u3, u4, u5, u6⟩ := hu
  obtain ⟨p1, p2, p3, p4, p5⟩ := hq
  obtain ⟨s1, s2, s3, _⟩ := u5 t (by omega)
  have sa := cld_bre u1 s1 b1
  have sc := cld_bre u1 s2 b2
  obtain ⟨m, em⟩ : ∃ m : Nat, m = (g.2.2.2.1 a).toNat := ⟨_, rfl⟩
  rw [← em] at p2 p5
  have mt : mkc f' t = mkc f t := mkc_cong t (fun i hi => (p1 i hi).1)
  have mt1 : mkc f' (t + 1) = mkc f t + 1 := by rw [mkc_neg (by omega), mt]
  have top : ∀ j : Nat, t < j → j < T → ∃ k : Nat, (k : Int) < g.2.2.2.1 a ∧ j = t + m - k ∧ (f' j).toInt = (g.2.2.2.2 a k : Int) ∧ (h' j).toInt = (g.2.2.2.2 c k : Int) := fun j j1 j2 => by
    refine ⟨t + m - j, by omega, by omega, ?_⟩
    have q := p5 (t + m - j) (by omega)
    rw [show t + m - (t + m - j) = j by omega] at q
    exact q
  have mtop : ∀ d : Nat, t + 1 + d ≤ T → mkc f' (t + 1 + d) = mkc f t + 1 := by
    intro d
    induction d with
    | zero => intro _; exact mt1
    | succ d ih =>
      intro e
      obtain ⟨k, k1, k2, k3, k4⟩ := top (t + 1 + d) (by omega) (by omega)
      rw [show t + 1 + (d + 1) = (t + 1 + d) + 1 by omega, mkc_pos (by omega)]
      exact ih (by omega)
  rw [mkc_pos hp] at u6
  have bel : ∀ j : Nat, t < j → j < T → BLW g b (plx f' j) a := fun j j1 j2 => by
    obtain ⟨k, k1, k2, k3, k4⟩ := top j j1 j2
    rw [plx_at k3]
    exact ⟨hl.1, k, k1, rch_rf⟩
  have pt : plx f' t = a := plx_mk p3
  have qt : prx h' t = c := prx_at p4
  refine ⟨u1, u2, u3, u4, fun i hi => ?_, ?_⟩
  · rcases Nat.lt_trichotomy i t with w | w | w
    · obtain ⟨h1, h2, h3, h4⟩ := u5 i (by omega)
      have ef := plx_cong (p1 i w).1
      have eh := prx_cong (p1 i w).2
      rw [ef, eh, mkc_cong i (fun j hj => (p1 j (by omega)).1), (p1 i w).1]
      refine ⟨h1, h2, h3, fun cc => ?_⟩
      obtain ⟨m1, m2, m3, m4⟩ := h4 cc
      unfold MKR
      rw [ef, eh]
      refine ⟨m1, m2, fun k hk => ?_, fun j j1 j2 => ?_⟩
      · rcases m3 k hk with q | ⟨j, j1, j2, q⟩
        · exact Or.inl q
        · refine Or.inr ⟨j, j1, by omega, ?_⟩
          by_cases jt : j = t
          · subst jt
            rcases q with ⟨q1, q2, q3⟩ | ⟨q1, _⟩
            · exact Or.inr ⟨by omega, by rw [pt, ← q2]; exact b1, by rw [qt, ← q3]; exact b2⟩
            · exact absurd q1 hp
          · rw [plx_cong (p1 j (by omega)).1, prx_cong (p1 j (by omega)).2, (p1 j (by omega)).1]
            exact q
      · rcases Nat.lt_trichotomy j t with x | x | x
        · rw [plx_cong (p1 j x).1]; exact m4 j j1 (by omega)
        · subst x
          rw [pt]; exact blw_rch (m4 j j1 (by omega)) (rch_bre b1)
        · have y := m4 t (by omega) (by omega)
          exact blw_tr (bel j x j2) (blw_rch y (rch_bre b1))
    · subst w
      rw [pt, qt, mt]
      refine ⟨sa, sc, s3, fun _ => ?_⟩
      unfold MKR
      rw [pt, qt]
      refine ⟨hl, hn, fun k hk => Or.inr ⟨i + m - k, by omega, by omega, Or.inl ?_⟩, fun j j1 j2 => bel j j1 j2⟩
      obtain ⟨k1, k2⟩ := p5 k hk
      exact ⟨by omega, plx_at k1, prx_at k2⟩
    · obtain ⟨k, k1, k2, k3, k4⟩ := top i w hi
      obtain ⟨l1, l2, l3, l4⟩ := hl
      have mi : mkc f' i = mkc f t + 1 := by
        have q := mtop (i - (t + 1)) (by omega)
        rw [show t + 1 + (i - (t + 1)) = i by omega] at q
        exact q
      rw [plx_at k3, prx_at k4, mi]
      exact ⟨u1 _ _ sa (Or.inr ⟨l1, k, k1, rfl⟩), u1 _ _ sc (Or.inr ⟨l2, k, by omega, rfl⟩), by omega, fun cc => absurd cc (by omega)⟩
  · have q := mtop m (by omega)
    rw [show t + 1 + m = T by omega] at q
    rw [q]; omega
/-- how high the rows are -/
theorem unv_mk {J n : Int} {t : Nat} {M : List Nat} (hM : ∀ p : Nat, S p → p ∈ M) (hu : UNV g b S sam jnd J f h t n) : mkc f t ≤ M.length := by
  obtain ⟨u1, u2, u3, u4, u5, u6⟩ := hu
  have key : ∀ s : Nat, s ≤ t → ∃ (L : Nat) (e : Nat → Nat), (L : Int) = mkc f s ∧ ∀ i : Nat, i < L → e i < s ∧ (f (e i)).toInt < 0 ∧ ∀ j : Nat, j < i → e j < e i := by
    intro s
    induction s with
    | zero => intro _; exact ⟨0, fun i => i, rfl, fun i hi => absurd hi (by omega)⟩
    | succ s ih =>
      intro hs
      obtain ⟨L, e, e1, e2⟩ := ih (by omega)
      by_cases c : (f s).toInt < 0
      · refine ⟨L + 1, fun i => if i = L then s else e i, by rw [mkc_neg c]; omega, fun i hi => ?_⟩
        by_cases w : i = L
        · simp only [if_pos w]
          refine ⟨by omega, c, fun j hj => ?_⟩
          simp only [if_neg (show ¬ j = L by omega)]
          exact (e2 j (by omega)).1
        · simp only [if_neg w]
          obtain ⟨k1, k2, k3⟩ := e2 i (by omega)
          refine ⟨by omega, k2, fun j hj => ?_⟩
          simp only [if_neg (show ¬ j = L by omega)]
          exact k3 j hj
      · exact ⟨L, e, by rw [mkc_pos c]; exact e1, fun i hi => by obtain ⟨k1, k2, k3⟩ := e2 i hi; exact ⟨by omega, k2, k3⟩⟩
  obtain ⟨L, e, e1, e2⟩ := key t (Nat.le_refl t)
  have ne : ∀ i j : Nat, i < j → j < L → plx f (e i) ≠ plx f (e j) := fun i j a c q => by
    obtain ⟨i1, i2, i3⟩ := e2 i (by omega)
    obtain ⟨j1, j2, j3⟩ := e2 j c
    obtain ⟨k1, k2, k3, k4⟩ := u5 (e i) i1
    have w := (k4 i2).2.2.2 (e j) (j3 i a) j1
    rw [← q] at w
    obtain ⟨m, hm⟩ := u2 _ k1
    exact blw_irr hm w
  have k := inj_le L (fun i => plx f (e i)) M (fun i hi => hM _ (u5 (e i) (e2 i hi).1).1) (fun i j a c q => by
    rcases Nat.lt_trichotomy i j with w | w | w
    · exact absurd q (ne i j w c)
    · exact w
    · exact absurd q.symm (ne j i w a))
  omega
theorem unv_top {J n : Int} {t : Nat} {M : List Nat} (hM : ∀ p : Nat, S p → p ∈ M) (hu : UNV g b S sam jnd J f h t n) : (t : Int) ≤ 3 * (M.length : Int) + 1 := by
  have k := unv_mk hM hu
  obtain ⟨u1, u2, u3, u4, u5, u6⟩ := hu
  cases t with
  | zero => omega
  | succ t =>
    obtain ⟨_, _, q, _⟩ := u5 t (by omega)
    have w : mkc f t ≤ mkc f (t + 1) := by rw [mkc_s]; split <;> omega
    omega
theorem unv_n {J n : Int} {t : Nat} {M : List Nat} (hM : ∀ p : Nat, S p → p ∈ M) (hu : UNV g b S sam jnd J f h t n) : n ≤ 1 + 8 * (M.length : Int) := by
  have k := unv_mk hM hu
  have l := joi_len hM hu.2.2.1
  have := hu.2.2.2.2.2
  omega
/-- the first pair alone -/
theorem unv_zero (hc : CLD g b S) (hf : FIN g b S) (hz : ∀ p : Nat, p < 9600 → (sam p).toInt = 0) (hS : ∀ p : Nat, S p → p < 9600) (h0 : 0 ≤ (f 0).toInt) (s1 : S (plx f 0)) (s2 : S (prx h 0)) : UNV g b S sam jnd 0 f h 1 0 := by
  refine ⟨hc, hf, joi_zero hz, fun p hp c => absurd (hz p (hS p hp)) c, fun i hi => ?_, ?_⟩
  · have e : i = 0 := by omega
    subst e
    exact ⟨s1, s2, by rw [show mkc f 0 = 0 from rfl]; decide, fun c => absurd c (by omega)⟩
  · rw [mkc_pos (by omega)]
    show (0 : Int) + (1 : Nat) ≤ 1 + 4 * (0 + 0)
    omega
end UL
