/-! two searches side by side end alike -/
section SB
variable {g g' : GVT} {b b' : Nat → Int} {P : Nat → Nat → Prop} {L : Nat}
theorem bis_aln (h : BIS L g g' P) (hb : BDQ L b b' P) : ∀ (n p q p' q' : Nat), P p p' → P q q' → ALn g b n p q → ALn g' b' n p' q' := by
  intro n
  induction n with
  | zero => intro p q p' q' _ _ _; exact True.intro
  | succ n ih =>
    intro p q p' q' hp hq k
    obtain ⟨a, c, k1, k2, k3⟩ := k
    obtain ⟨a', l1, pa⟩ := bis_bre h hb hp k1
    obtain ⟨c', l2, pc⟩ := bis_bre h hb hq k2
    obtain ⟨va, ca, na⟩ := h.1 a a' pa
    obtain ⟨vc, cc, nc⟩ := h.1 c c' pc
    refine ⟨a', c', l1, l2, ?_⟩
    rcases k3 with ⟨u1, u2, u3⟩ | ⟨u1, u2, u3, u4, u5⟩
    · exact Or.inl ⟨va.mp u1, vc.mp u2, by rw [← (ca u1).1, ← (cc u2).1]; exact u3⟩
    · obtain ⟨ra, ka⟩ := na u1
      obtain ⟨rc, kc⟩ := nc u2
      exact Or.inr ⟨fun w => u1 (va.mpr w), fun w => u2 (vc.mpr w), (h.2 a a' c c' pa pc u1 u2).mp u3, by rw [← ra, ← rc]; exact u4, fun k hk => ih _ _ _ _ (ka k (by omega)) (kc k (by omega)) (u5 k (by omega))⟩
theorem bis_alk (h : BIS L g g' P) (hb : BDQ L b b' P) {p q p' q' : Nat} (hp : P p p') (hq : P q q') : ALK g b p q ↔ ALK g' b' p' q' :=
  ⟨fun k n => bis_aln h hb n p q p' q' hp hq (k n), fun k n => bis_aln (bis_flip h) (bdq_flip hb) n p' q' p q hp hq (k n)⟩
def PLs (P : Nat → Nat → Prop) : List Nat → List Nat → Prop
  | [], [] => True
  | p :: ps, p' :: ps' => P p p' ∧ PLs P ps ps'
  | [], _ :: _ => False
  | _ :: _, [] => False
theorem pls_app : ∀ (ps ps' qs qs' : List Nat), PLs P ps ps' → PLs P qs qs' → PLs P (ps ++ qs) (ps' ++ qs') := by
  intro ps
  induction ps with
  | nil =>
    intro ps' qs qs' h k
    cases ps' with
    | nil => exact k
    | cons x xs => exact False.elim h
  | cons p ps ih =>
    intro ps' qs qs' h k
    cases ps' with
    | nil => exact False.elim h
    | cons x xs => exact ⟨h.1, ih xs qs qs' h.2 k⟩
theorem pls_klq {a a' : Nat} : ∀ (r k : Nat), (∀ j : Nat, k ≤ j → j < k + r → P (g.2.2.2.2 a j) (g'.2.2.2.2 a' j)) → PLs P (klq g a r k) (klq g' a' r k) := by
  intro r
  induction r with
  | zero => intro k _; exact True.intro
  | succ r ih => intro k h; exact ⟨h k (Nat.le_refl _) (by omega), ih (k + 1) (fun j h1 h2 => h j (by omega) (by omega))⟩
theorem pls_kdq (h : BIS L g g' P) {a a' : Nat} (ha : P a a') : PLs P (kdq g a) (kdq g' a') := by
  obtain ⟨va, ca, na⟩ := h.1 a a' ha
  unfold kdq
  by_cases w : 0 ≤ g.1 a
  · rw [if_pos w, if_pos (va.mp w)]; exact True.intro
  · rw [if_neg w, if_neg (fun e => w (va.mpr e))]
    obtain ⟨ra, ka⟩ := na w
    rw [← ra]
    exact pls_klq _ 0 (fun j _ hj => ka j (by omega))
theorem bis_smn (h : BIS L g g' P) (hb : BDQ L b b' P) : ∀ (n : Nat) (ps ps' : List Nat), PLs P ps ps' → SMn g b n ps → SMn g' b' n ps' := by
  intro n
  induction n with
  | zero =>
    intro ps ps' hp k
    cases ps with
    | nil =>
      cases ps' with
      | nil => exact smn_nil
      | cons x xs => exact False.elim hp
    | cons p ps => exact False.elim k
  | succ n ih =>
    intro ps ps' hp k
    cases ps with
    | nil =>
      cases ps' with
      | nil => exact smn_nil
      | cons x xs => exact False.elim hp
    | cons p ps =>
      cases ps' with
      | nil => exact False.elim hp
      | cons p' ps' =>
        obtain ⟨a, k1, k2⟩ := k
        obtain ⟨a', l1, pa⟩ := bis_bre h hb hp.1 k1
        exact ⟨a', l1, ih _ _ (pls_app _ _ _ _ (pls_kdq h pa) hp.2) k2⟩
end SB
/-- the two searches: the same but for the places -/
def PMR (P : Nat → Nat → Prop) (m m' : PRM) : Prop := BIS 0 m.1 m'.1 P ∧ (∀ i c k : Nat, P (m.2.1 i c k) (m'.2.1 i c k) ∧ ¬ 0 ≤ m.1.1 (m.2.1 i c k)) ∧ m.2.2 = m'.2.2
def BNR (P : Nat → Nat → Prop) (s s' : BNT) : Prop := BDQ 0 s.1 s'.1 P ∧ s.2 = s'.2
def CHR (P : Nat → Nat → Prop) : CHT → CHT → Prop
  | (r, kd, bi, bl, lt, lk, cd, fx, s), (r', kd', bi', bl', lt', lk', cd', fx', s') => (r, kd, bi, bl, lt, lk, cd, fx) = (r', kd', bi', bl', lt', lk', cd', fx') ∧ BNR P s s'
def KSR (P : Nat → Nat → Prop) : List CHT → List CHT → Prop
  | [], [] => True
  | t :: K, t' :: K' => CHR P t t' ∧ KSR P K K'
  | [], _ :: _ => False
  | _ :: _, [] => False
def CFR (P : Nat → Nat → Prop) : CFT → CFT → Prop
  | (md, fs, K, s, n, r), (md', fs', K', s', n', r') => (md, fs, n, r) = (md', fs', n', r') ∧ KSR P K K' ∧ BNR P s s'
section SC
variable {P : Nat → Nat → Prop} {m m' : PRM}
theorem bnr_z : BNR P zB zB := ⟨fun _ _ => ⟨Iff.rfl, fun h => absurd h (show ¬ (0 : Int) ≤ -1 by decide)⟩, rfl⟩
theorem ksr_len : ∀ (K K' : List CHT), KSR P K K' → K.length = K'.length := by
  intro K
  induction K with
  | nil =>
    intro K' h
    cases K' with
    | nil => rfl
    | cons t K' => exact False.elim h
  | cons t K ih =>
    intro K' h
    cases K' with
    | nil => exact False.elim h
    | cons t' K' => rw [List.length_cons, List.length_cons, ih K' h.2]
theorem ksr_mkF (md : Int) : ∀ (K K' : List CHT), KSR P K K' → KSR P (mkF md K) (mkF md K') := by
  intro K
  induction K with
  | nil =>
    intro K' h
    cases K' with
    | nil => exact True.intro
    | cons t K' => exact False.elim h
  | cons t K ih =>
    intro K' h
    cases K' with
    | nil => exact False.elim h
    | cons t' K' =>
      have e := ksr_len K K' h.2
      show KSR P (if md ≤ (K.length : Int) then fxq t :: mkF md K else t :: K) (if md ≤ (K'.length : Int) then fxq t' :: mkF md K' else t' :: K')
      by_cases w : md ≤ (K.length : Int)
      · rw [if_pos w, if_pos (by omega)]
        refine ⟨?_, ih K' h.2⟩
        obtain ⟨r, kd, bi, bl, lt, lk, cd, fx, s⟩ := t
        obtain ⟨r', kd', bi', bl', lt', lk', cd', fx', s'⟩ := t'
        obtain ⟨e1, e2⟩ := h.1
        cases e1
        exact ⟨rfl, e2⟩
      · rw [if_neg w, if_neg (by omega)]; exact h
theorem pmr_flip (h : PMR P m m') : PMR (fun x y => P y x) m' m := by
  obtain ⟨h1, h2, h3⟩ := h
  exact ⟨bis_flip h1, fun i c k => ⟨(h2 i c k).1, fun w => (h2 i c k).2 (((h1.1 _ _ (h2 i c k).1).1).mpr w)⟩, h3.symm⟩
theorem pmr_alq (h : PMR P m m') {b b' : Nat → Int} (hb : BDQ 0 b b' P) {c : Nat → Nat} {i k : Nat} {x : LKT} : ALQ m b c i k x ↔ ALQ m' b' c i k x := by
  obtain ⟨h1, h2, h3⟩ := h
  have e : ∀ j l : Nat, lqs m c j l = lqs m' c j l := fun j l => by unfold lqs; rw [h3]
  unfold ALQ
  rw [e, e]
  exact and_congr Iff.rfl (bis_alk h1 hb (h2 i (c i) k).1 (h2 x.1 (c x.1) x.2).1)
theorem pmr_sml (h : PMR P m m') {b b' : Nat → Int} (hb : BDQ 0 b b' P) {p p' : Nat} (hp : P p p') : SML m b p ↔ SML m' b' p' :=
  ⟨fun k => bis_smn h.1 hb 40 [p] [p'] ⟨hp, True.intro⟩ k, fun k => bis_smn (bis_flip h.1) (bdq_flip hb) 40 [p'] [p] ⟨hp, True.intro⟩ k⟩
theorem pmr_opq (h : PMR P m m') {i c k j d l : Nat} : OPQ m c k (m.2.1 i c k) d l (m.2.1 j d l) ↔ OPQ m' c k (m'.2.1 i c k) d l (m'.2.1 j d l) := by
  obtain ⟨h1, h2, h3⟩ := h
  unfold OPQ
  rw [h3]
  obtain ⟨p1, v1⟩ := h2 i c k
  obtain ⟨p2, v2⟩ := h2 j d l
  rw [((h1.1 _ _ p1).2.2 v1).1, ((h1.1 _ _ p2).2.2 v2).1]
  exact and_congr Iff.rfl (and_congr (h1.2 _ _ _ _ p1 p2 v1 v2) Iff.rfl)
theorem pmr_fal (h : PMR P m m') {b b' : Nat → Int} (hb : BDQ 0 b b' P) {c : Nat → Nat} {i k : Nat} : ∀ (xs : List LKT) (r r' : Option LKT), FAL m b c i k xs r → FAL m' b' c i k xs r' → r = r' := by
  intro xs
  induction xs with
  | nil => intro r r' k1 k2; exact (show r = none from k1).trans (show r' = none from k2).symm
  | cons x xs ih => intro r r' k1 k2; exact cif_two (pmr_alq h hb) k1 k2 (fun _ _ a a' => a.trans a'.symm) (fun _ _ a a' => ih r r' a a')
theorem pmr_rpq1 (h : PMR P m m') {b b' : Nat → Int} (hb : BDQ 0 b b' P) {c : Nat → Nat} {f : FRT} (k : RPQ m b c f) : RPQ m' b' c f := by
  obtain ⟨k, k1, k2, k3, k4, x, x1, x2⟩ := k
  have e : lqn m c f.1 = lqn m' c f.1 := by unfold lqn; rw [h.2.2]
  exact ⟨k, k1, k2, by rw [← e]; exact k3, (pmr_sml h hb (h.2.1 f.1 (c f.1) k).1).mp k4, x, x1, (pmr_alq h hb).mp x2⟩
theorem pmr_rpq (h : PMR P m m') {b b' : Nat → Int} (hb : BDQ 0 b b' P) {c : Nat → Nat} {f : FRT} : RPQ m b c f ↔ RPQ m' b' c f := ⟨pmr_rpq1 h hb, pmr_rpq1 (pmr_flip h) (bdq_flip hb)⟩
theorem cfr_bk {K K' : List CHT} {n : CTT} (h : KSR P K K') : CFR P (BKc K n) (BKc K' n) := ⟨rfl, h, bnr_z⟩
theorem cfr_ov {n : CTT} : CFR P (DNc (-2) [] zB n) (DNc (-2) [] zB n) := ⟨rfl, True.intro, bnr_z⟩
/-- a way of the one is a way of the other -/
theorem way_sim (h : PMR P m m') {t t' : CHT} {K K' : List CHT} {n : CTT} {d d' : CFT} (ht : CHR P t t') (hK : KSR P K K') (k : WAY m t K n d) (k' : WAY m' t' K' n d') : CFR P d d' := by
  obtain ⟨r, kd, bi, bl, lt, lk, cd, fx, b0, n0, c0⟩ := t
  obtain ⟨r', kd', bi', bl', lt', lk', cd', fx', b0', n0', c0'⟩ := t'
  obtain ⟨e1, hb, e2⟩ := ht
  cases e1
  have hb : BDQ 0 b0 b0' P := hb
  have e2 : (n0, c0) = (n0', c0') := e2
  cases e2
  obtain ⟨h1, h2, h3⟩ := id h
  have kl := ksr_len K K' hK
  obtain ⟨g, lp, q⟩ := m
  obtain ⟨g', lp', q'⟩ := m'
  have e3 : q = q' := h3
  subst e3
  cases r with
  | nil => exact False.elim k
  | cons f fs =>
    have el : ∀ i j : Nat, P (lqp (g, lp, q) c0 i j) (lqp (g', lp', q) c0 i j) := fun i j => (h2 i (c0 i) j).1
    refine cif_two Iff.rfl k k' ?_ ?_
    · intro _ _ a a'
      obtain ⟨r, a1, a2⟩ := a
      obtain ⟨r', a1', a2'⟩ := a'
      have e := pmr_fal h hb _ r r' a1 a1'
      subst e
      rcases a2 with ⟨a2, a3⟩ | ⟨x, a2, a3⟩
      · rcases a2' with ⟨_, a3'⟩ | ⟨x, a2', _⟩
        · subst a3; subst a3'
          exact cfr_bk ⟨⟨rfl, hb, rfl⟩, hK⟩
        · rw [a2] at a2'; cases a2'
      · rcases a2' with ⟨a2', _⟩ | ⟨x', a2', a3'⟩
        · rw [a2] at a2'; cases a2'
        · rw [a2] at a2'
          cases a2'
          subst a3; subst a3'
          exact ⟨rfl, ⟨⟨rfl, hb, rfl⟩, hK⟩, hb, rfl⟩
    · intro _ _ a a'
      cases lk with
      | cons x xs =>
        refine cif_two (and_congr (pmr_opq h) (pmr_sml h hb (el x.1 x.2))) a a' ?_ ?_
        · intro _ _ a a'
          refine cif_two Iff.rfl a a' ?_ ?_
          · intro _ _ a a'
            have a : d = _ := a
            have a' : d' = _ := a'
            subst a; subst a'
            exact cfr_ov
          · intro _ _ a a'
            obtain ⟨r, b1, o, a⟩ := a
            obtain ⟨r', b1', o', a'⟩ := a'
            obtain ⟨e, eb⟩ := bis_out h1 hb (el _ _) (el _ _) o o'
            subst e
            rcases a with ⟨w, a⟩ | ⟨w, a⟩
            · rcases a' with ⟨_, a'⟩ | ⟨w', _⟩
              · subst a; subst a'
                exact ⟨rfl, ⟨⟨rfl, hb, rfl⟩, hK⟩, eb w, rfl⟩
              · rw [w] at w'; cases w'
            · rcases a' with ⟨w', _⟩ | ⟨_, a'⟩
              · rw [w] at w'; cases w'
              · subst a; subst a'
                exact cfr_bk ⟨⟨rfl, hb, rfl⟩, hK⟩
        · intro _ _ a a'
          have a : d = _ := a
          have a' : d' = _ := a'
          subst a; subst a'
          exact cfr_bk ⟨⟨rfl, hb, rfl⟩, hK⟩
      | nil =>
        refine cif_two Iff.rfl a a' ?_ ?_
        · intro _ _ a a'
          refine cif_two (and_congr Iff.rfl (pmr_opq h)) a a' ?_ ?_
          · intro _ _ a a'
            refine cif_two Iff.rfl a a' ?_ ?_
            · intro _ _ a a'
              have a : d = _ := a
              have a' : d' = _ := a'
              subst a; subst a'
              exact cfr_ov
            · intro _ _ a a'
              refine cif_two Iff.rfl a a' ?_ ?_
              · intro _ _ a a'
                obtain ⟨r, b1, o, a⟩ := a
                obtain ⟨r', b1', o', a'⟩ := a'
                obtain ⟨e, eb⟩ := bis_out h1 hb (el _ _) (h2 _ _ _).1 o o'
                subst e
                rcases a with ⟨w, a⟩ | ⟨w, a⟩
                · rcases a' with ⟨_, a'⟩ | ⟨w', _⟩
                  · subst a; subst a'
                    rw [kl]
                    exact ⟨rfl, ⟨⟨rfl, hb, rfl⟩, hK⟩, eb w, rfl⟩
                  · rw [w] at w'; cases w'
                · rcases a' with ⟨w', _⟩ | ⟨_, a'⟩
                  · rw [w] at w'; cases w'
                  · subst a; subst a'
                    exact cfr_bk ⟨⟨rfl, hb, rfl⟩, hK⟩
              · intro _ _ a a'
                have a : d = _ := a
                have a' : d' = _ := a'
                subst a; subst a'
                exact cfr_bk ⟨⟨rfl, hb, rfl⟩, hK⟩
          · intro _ _ a a'
            have a : d = _ := a
            have a' : d' = _ := a'
            subst a; subst a'
            exact cfr_bk ⟨⟨rfl, hb, rfl⟩, hK⟩
        · intro _ _ a a'
          have a : d = _ := a
          have a' : d' = _ := a'
          subst a; subst a'
          exact cfr_bk hK
theorem mst_sim (h : PMR P m m') {c c' d d' : CFT} (hc : CFR P c c') (k : MST m c d) (k' : MST m' c' d') : CFR P d d' := by
  obtain ⟨md, fs, K, s, n, r⟩ := c
  obtain ⟨md', fs', K', s', n', r'⟩ := c'
  obtain ⟨e1, hK, hs⟩ := hc
  cases e1
  obtain ⟨b, i, c⟩ := s
  obtain ⟨b', i', c'⟩ := s'
  obtain ⟨hb, e2⟩ := hs
  have hb : BDQ 0 b b' P := hb
  have e2 : (i, c) = (i', c') := e2
  cases e2
  match md with
  | 0 =>
    cases fs with
    | nil =>
      have k : d = _ := k
      have k' : d' = _ := k'
      subst k; subst k'
      exact ⟨rfl, hK, hb, rfl⟩
    | cons f fs =>
      have en : lqn m c f.1 = lqn m' c f.1 := by unfold lqn; rw [h.2.2]
      have er : m.2.2.2.2.2.2.1 = m'.2.2.2.2.2.2.1 := by rw [h.2.2]
      have ek : ∀ K : List CHT, mkq m f.2.2.2.2.2 K = mkq m' f.2.2.2.2.2 K := fun K => by unfold mkq; rw [h.2.2]
      refine cif_two (show lqn m c f.1 ≤ f.2.2.1 ↔ lqn m' c f.1 ≤ f.2.2.1 by rw [en]) k k' ?_ ?_
      · intro _ _ a a'
        have a : d = _ := a
        have a' : d' = _ := a'
        subst a; subst a'
        refine ⟨rfl, ?_, hb, rfl⟩
        rw [← ek]
        unfold mkq
        split
        · exact ksr_mkF _ _ _ hK
        · exact hK
      · intro _ _ a a'
        refine cif_two (show (m.2.2.2.2.2.2.1 = true ∧ RPQ m b c f) ↔ (m'.2.2.2.2.2.2.1 = true ∧ RPQ m' b' c f) by rw [er]; exact and_congr Iff.rfl (pmr_rpq h hb)) a a' ?_ ?_
        · intro _ _ a a'
          have a : d = _ := a
          have a' : d' = _ := a'
          subst a; subst a'
          exact cfr_bk hK
        · intro _ _ a a'
          refine cif_two (pmr_sml h hb (h.2.1 f.1 (c f.1) f.2.2.1).1) a a' ?_ ?_
          · intro _ _ a a'
            have a : d = _ := a
            have a' : d' = _ := a'
            subst a; subst a'
            exact cfr_bk ⟨⟨rfl, hb, rfl⟩, hK⟩
          · intro _ _ a a'
            have a : d = _ := a
            have a' : d' = _ := a'
            subst a; subst a'
            exact cfr_bk hK
  | 1 =>
    cases K with
    | nil =>
      cases K' with
      | nil =>
        have k : d = _ := k
        have k' : d' = _ := k'
        subst k; subst k'
        exact ⟨rfl, True.intro, bnr_z⟩
      | cons t K' => exact False.elim hK
    | cons t K =>
      cases K' with
      | nil => exact False.elim hK
      | cons t' K' =>
        have ef : t.2.2.2.2.2.2.2.1 = t'.2.2.2.2.2.2.2.1 := by
          obtain ⟨q1, q2, q3, q4, q5, q6, q7, q8, q9⟩ := t
          obtain ⟨p1, p2, p3, p4, p5, p6, p7, p8, p9⟩ := t'
          obtain ⟨e, _⟩ := hK.1
          cases e; rfl
        refine cif_two (show t.2.2.2.2.2.2.2.1 = true ↔ t'.2.2.2.2.2.2.2.1 = true by rw [ef]) k k' ?_ ?_
        · intro _ _ a a'
          have a : d = _ := a
          have a' : d' = _ := a'
          subst a; subst a'
          exact cfr_bk hK.2
        · intro _ _ a a'
          exact way_sim h hK.1 hK.2 a a'
  | _ + 2 => exact False.elim k
/-- the end of both -/
theorem run_sim (h : PMR P m m') : ∀ (n n' : Nat) (c c' d d' : CFT), CFR P c c' → RNn m n c d → RNn m' n' c' d' → d.1 = 2 → d'.1 = 2 → CFR P d d' := by
  intro n
  induction n with
  | zero =>
    intro n' c c' d d' hc k k' e e'
    have q : c = d := k
    subst q
    cases n' with
    | zero => have q : c' = d' := k'; subst q; exact hc
    | succ n' =>
      obtain ⟨x, k1, _⟩ := k'
      obtain ⟨md, y⟩ := c
      obtain ⟨md', y'⟩ := c'
      obtain ⟨e1, _⟩ := hc
      have e : md = 2 := e
      have e2 : md = md' := congrArg Prod.fst e1
      subst e2
      subst e
      exact False.elim k1
  | succ n ih =>
    intro n' c c' d d' hc k k' e e'
    obtain ⟨x, k1, k2⟩ := k
    cases n' with
    | zero =>
      have q : c' = d' := k'
      subst q
      obtain ⟨md, y⟩ := c
      obtain ⟨md', y'⟩ := c'
      obtain ⟨e1, _⟩ := hc
      have e' : md' = 2 := e'
      have e2 : md = md' := congrArg Prod.fst e1
      subst e2
      subst e'
      exact False.elim k1
    | succ n' =>
      obtain ⟨x', k1', k2'⟩ := k'
      exact ih n' x x' d d' (mst_sim h hc k1 k1') k2 k2' e e'
theorem run_two (h : PMR P m m') {c c' d d' : CFT} (hc : CFR P c c') (k : RUN m c d) (k' : RUN m' c' d') (e : d.1 = 2) (e' : d'.1 = 2) : CFR P d d' := by
  obtain ⟨n, k⟩ := k
  obtain ⟨n', k'⟩ := k'
  exact run_sim h n n' c c' d d' hc k k' e e'
end SC
