/-! what every search keeps, step by step -/
section IV
variable (m : PRM)
/-- an entry of the choices, by its number from below -/
def atK : List CHT → Nat → Option CHT
  | [], _ => none
  | t :: K, i => if i = K.length then some t else atK K i
/-- those that have another way made rows that are still to be closed -/
def FLG (fs : List FRT) (K : List CHT) : Prop := ∀ (i : Nat) (t : CHT), atK K i = some t → t.2.2.2.2.2.2.2.1 = false → ∃ f : FRT, f ∈ fs ∧ f.2.2.2.2.2 = (i : Int)
def DCR : List FRT → Prop
  | [] => True
  | f :: fs => (∀ e : FRT, e ∈ fs → e.2.2.2.2.2 ≤ f.2.2.2.2.2) ∧ DCR fs
/-- instances of rows: unlike, and those there are; what is closed of them stands ahead of what is left -/
def INs : List FRT → Prop
  | [] => True
  | f :: fs => (∀ e : FRT, e ∈ fs → e.1 ≠ f.1) ∧ INs fs
def HDB (fs : List FRT) (K : List CHT) : Prop := ∀ (i : Nat) (t : CHT) (e : FRT) (es : List FRT), atK K i = some t → t.1 = e :: es → ∀ f : FRT, f ∈ fs → f.1 = e.1 → e.2.2.1 < f.2.2.1
def LIM (n0 : Nat) (fs : List FRT) : Prop := ∀ f : FRT, f ∈ fs → f.1 < n0
def NIK (n0 : Nat) (K : List CHT) : Prop := ∀ (i : Nat) (u : CHT), atK K i = some u → u.2.2.2.2.2.2.2.2.2.1 ≤ n0
/-- literals of paths and lemmas are there -/
def GLL (n0 : Nat) (c : Nat → Nat) (x : LKT) : Prop := x.1 < n0 ∧ x.2 < lqn m c x.1
def PTI (n0 : Nat) (c : Nat → Nat) (fs : List FRT) : Prop := ∀ f : FRT, f ∈ fs → ∀ x : LKT, (x ∈ f.2.2.2.1 ∨ x ∈ f.2.2.2.2.1) → GLL m n0 c x
/-- rows over choices -/
def RWI (fs : List FRT) (K : List CHT) (n0 : Nat) (c : Nat → Nat) : Prop := (m.2.2.2.2.2.2.2.2 = true → FLG fs K) ∧ DCR fs ∧ (∀ f : FRT, f ∈ fs → -1 ≤ f.2.2.2.2.2 ∧ f.2.2.2.2.2 < (K.length : Int)) ∧ INs fs ∧ HDB fs K ∧ LIM n0 fs ∧ n0 ≤ 30 ∧ NIK n0 K ∧ PTI m n0 c fs
/-- a choice over those below -/
def CHI (t : CHT) (K : List CHT) : Prop := (∃ (f : FRT) (fs : List FRT), t.1 = f :: fs ∧ f.2.2.1 < lqn m t.2.2.2.2.2.2.2.2.2.2 f.1 ∧ SML m t.2.2.2.2.2.2.2.2.1 (lqp m t.2.2.2.2.2.2.2.2.2.2 f.1 f.2.2.1) ∧ ∀ x : LKT, x ∈ t.2.2.2.2.2.1 → GLL m t.2.2.2.2.2.2.2.2.2.1 t.2.2.2.2.2.2.2.2.2.2 x) ∧ RWI m t.1 K t.2.2.2.2.2.2.2.2.2.1 t.2.2.2.2.2.2.2.2.2.2
/-- a choice that is closed -/
def CLI (t : CHT) : Prop := t.2.1 ≠ 0 ∧ (m.2.2.2.2.2.2.2.1 = true → t.2.2.2.2.1 = true) ∧ (m.2.2.2.2.2.2.2.2 = true → t.2.1 ≠ 3 → t.2.2.2.2.2.2.2.1 = true)
def KIV : List CHT → Prop
  | [] => True
  | t :: K => CHI m t K ∧ CLI m t ∧ KIV K
def CIV : CFT → Prop
  | (0, fs, K, s, _, _) => KIV m K ∧ RWI m fs K s.2.1 s.2.2
  | (1, _, [], _, _, _) => True
  | (1, _, t :: K, _, _, _) => KIV m K ∧ CHI m t K
  | (_ + 2, _, K, _, _, r) => r = 1 → KIV m K
end IV
section IL
variable {m : PRM}
theorem atK_lt : ∀ (K : List CHT) (i : Nat) (t : CHT), atK K i = some t → i < K.length := by
  intro K
  induction K with
  | nil => intro i t h; cases h
  | cons u K ih =>
    intro i t h
    rw [List.length_cons]
    by_cases c : i = K.length
    · omega
    · have h2 : atK K i = some t := by
        unfold atK at h
        rw [if_neg c] at h; exact h
      have := ih i t h2
      omega
theorem atK_top {t : CHT} {K : List CHT} : atK (t :: K) K.length = some t := by
  unfold atK; rw [if_pos rfl]
theorem atK_low {t u : CHT} {K : List CHT} {i : Nat} (h : atK (t :: K) i = some u) (hn : ¬ i = K.length) : atK K i = some u := by
  unfold atK at h; rw [if_neg hn] at h; exact h
theorem atK_up {t u : CHT} {K : List CHT} {i : Nat} (h : atK K i = some u) : atK (t :: K) i = some u := by
  unfold atK; rw [if_neg (by have := atK_lt K i u h; omega)]; exact h
theorem fxq_1 {t : CHT} : (fxq t).1 = t.1 := rfl
theorem mkF_len (md : Int) : ∀ K : List CHT, (mkF md K).length = K.length := by
  intro K
  induction K with
  | nil => rfl
  | cons t K ih =>
    unfold mkF
    split
    · rw [List.length_cons, List.length_cons, ih]
    · rfl
theorem mkq_len (md : Int) (K : List CHT) : (mkq m md K).length = K.length := by
  unfold mkq
  split
  · exact mkF_len md K
  · rfl
/-- what stands behind a mark: the same, or without another way -/
theorem mkF_at (md : Int) : ∀ (K : List CHT) (i : Nat) (t : CHT), atK (mkF md K) i = some t → ∃ u : CHT, atK K i = some u ∧ ((md ≤ (i : Int) ∧ t = fxq u) ∨ (¬ md ≤ (i : Int) ∧ t = u)) := by
  intro K
  induction K with
  | nil => intro i t h; cases h
  | cons v K ih =>
    intro i t h
    have hl := mkF_len md K
    by_cases w : md ≤ (K.length : Int)
    · have e : mkF md (v :: K) = fxq v :: mkF md K := by show (if md ≤ (K.length : Int) then fxq v :: mkF md K else v :: K) = _; rw [if_pos w]
      rw [e] at h
      by_cases c : i = K.length
      · subst c
        have h2 : atK (fxq v :: mkF md K) (mkF md K).length = some t := by rw [hl]; exact h
        rw [atK_top] at h2
        cases h2
        exact ⟨v, atK_top, Or.inl ⟨w, rfl⟩⟩
      · obtain ⟨u, h1, h2⟩ := ih i t (atK_low h (by rw [hl]; exact c))
        exact ⟨u, atK_up h1, h2⟩
    · have e : mkF md (v :: K) = v :: K := by show (if md ≤ (K.length : Int) then fxq v :: mkF md K else v :: K) = _; rw [if_neg w]
      rw [e] at h
      have := atK_lt _ _ _ h
      rw [List.length_cons] at this
      exact ⟨t, h, Or.inr ⟨by omega, rfl⟩⟩
theorem mkq_at (md : Int) (K : List CHT) {i : Nat} {t : CHT} (h : atK (mkq m md K) i = some t) : ∃ u : CHT, atK K i = some u ∧ ((m.2.2.2.2.2.2.2.2 = true ∧ md ≠ -1 ∧ md ≤ (i : Int) ∧ t = fxq u) ∨ (¬ (m.2.2.2.2.2.2.2.2 = true ∧ md ≠ -1 ∧ md ≤ (i : Int)) ∧ t = u)) := by
  unfold mkq at h
  by_cases w : m.2.2.2.2.2.2.2.2 = true ∧ md ≠ -1
  · rw [if_pos w] at h
    obtain ⟨u, h1, h2⟩ := mkF_at md K i t h
    refine ⟨u, h1, ?_⟩
    rcases h2 with ⟨a, b⟩ | ⟨a, b⟩
    · exact Or.inl ⟨w.1, w.2, a, b⟩
    · exact Or.inr ⟨fun q => a q.2.2, b⟩
  · rw [if_neg w] at h
    exact ⟨t, h, Or.inr ⟨fun q => w ⟨q.1, q.2.1⟩, rfl⟩⟩
/-- rows stay over choices whose ways are fewer -/
theorem rwi_fewer {fs : List FRT} {K K' : List CHT} {n0 : Nat} {c : Nat → Nat} (h : RWI m fs K n0 c) (hl : K'.length = K.length) (ha : ∀ (i : Nat) (t : CHT), atK K' i = some t → ∃ u : CHT, atK K i = some u ∧ t.1 = u.1 ∧ (t.2.2.2.2.2.2.2.1 = false → u.2.2.2.2.2.2.2.1 = false) ∧ t.2.2.2.2.2.2.2.2.2.1 = u.2.2.2.2.2.2.2.2.2.1) : RWI m fs K' n0 c := by
  obtain ⟨h1, h2, h3, h4, h5, h6, h7, h8, h9⟩ := h
  refine ⟨fun w i t ht hf => ?_, h2, fun f hf => ?_, h4, fun i t e es ht e1 f hf e2 => ?_, h6, h7, fun i t ht => ?_, h9⟩
  · obtain ⟨u, a, _, d, _⟩ := ha i t ht
    exact h1 w i u a (d hf)
  · rw [hl]; exact h3 f hf
  · obtain ⟨u, a, b, _, _⟩ := ha i t ht
    exact h5 i u e es a (b.symm.trans e1) f hf e2
  · obtain ⟨u, a, _, _, b⟩ := ha i t ht
    rw [b]; exact h8 i u a
theorem mkq_few (md : Int) (K : List CHT) : ∀ (i : Nat) (t : CHT), atK (mkq m md K) i = some t → ∃ u : CHT, atK K i = some u ∧ t.1 = u.1 ∧ (t.2.2.2.2.2.2.2.1 = false → u.2.2.2.2.2.2.2.1 = false) ∧ t.2.2.2.2.2.2.2.2.2.1 = u.2.2.2.2.2.2.2.2.2.1 := fun i t h => by
  obtain ⟨u, h1, h2⟩ := mkq_at md K h
  rcases h2 with ⟨_, _, _, e⟩ | ⟨_, e⟩
  · exact ⟨u, h1, by rw [e]; rfl, (fun w => by rw [e] at w; cases w), by rw [e]; rfl⟩
  · exact ⟨u, h1, by rw [e], (fun w => by rw [e] at w; exact w), by rw [e]⟩
theorem kiv_mkF (md : Int) : ∀ K : List CHT, KIV m K → KIV m (mkF md K) := by
  intro K
  induction K with
  | nil => intro h; exact h
  | cons t K ih =>
    intro h
    obtain ⟨⟨f, h0⟩, hc, hk⟩ := h
    show KIV m (if md ≤ (K.length : Int) then fxq t :: mkF md K else t :: K)
    split
    · refine ⟨⟨f, ?_⟩, ⟨hc.1, hc.2.1, fun _ _ => rfl⟩, ih hk⟩
      refine rwi_fewer (K := K) h0 (mkF_len md K) (fun i u hu => ?_)
      obtain ⟨v, h1, h2⟩ := mkF_at md K i u hu
      rcases h2 with ⟨_, e⟩ | ⟨_, e⟩
      · exact ⟨v, h1, by rw [e]; rfl, (fun w => by rw [e] at w; cases w), by rw [e]; rfl⟩
      · exact ⟨v, h1, by rw [e], (fun w => by rw [e] at w; exact w), by rw [e]⟩
    · exact ⟨⟨f, h0⟩, hc, hk⟩
theorem kiv_mkq (md : Int) {K : List CHT} (h : KIV m K) : KIV m (mkq m md K) := by
  unfold mkq
  split
  · exact kiv_mkF md K h
  · exact h
theorem nxq_ge {k : Nat} {w : Int} : k ≤ nxq k w := by
  unfold nxq; split <;> omega
/-- instances of what was closed are there -/
theorem kiv_ins : ∀ (K : List CHT), KIV m K → ∀ (i : Nat) (u : CHT) (e : FRT) (es : List FRT), atK K i = some u → u.1 = e :: es → e.1 < u.2.2.2.2.2.2.2.2.2.1 := by
  intro K
  induction K with
  | nil => intro _ i u e es h; cases h
  | cons t K ih =>
    intro h i u e es hu eu
    by_cases q : i = K.length
    · subst q
      rw [atK_top] at hu
      cases hu
      have w := h.1.2
      rw [eu] at w
      exact w.2.2.2.2.2.1 e List.mem_cons_self
    · exact ih h.2.2 i u e es (atK_low hu q) eu
theorem nik_up {n0 n1 : Nat} {K : List CHT} {t : CHT} (h : NIK n0 K) (ht : t.2.2.2.2.2.2.2.2.2.1 ≤ n1) (hl : n0 ≤ n1 := by omega) : NIK n1 (t :: K) := fun i u hu => by
  by_cases q : i = K.length
  · subst q
    rw [atK_top] at hu
    cases hu
    exact ht
  · have := h i u (atK_low hu q)
    omega
theorem pti_rest {f : FRT} {fs : List FRT} {n0 : Nat} {c : Nat → Nat} (h : PTI m n0 c (f :: fs)) (hg : GLL m n0 c (f.1, f.2.2.1)) : PTI m n0 c (rsq m f :: fs) := fun e he x hx => by
  rcases List.mem_cons.mp he with he | he
  · subst he
    rcases hx with hx | hx
    · exact h f List.mem_cons_self x (Or.inl hx)
    · have hx : x ∈ (if m.2.2.2.2.2.2.2.1 = true then (f.1, f.2.2.1) :: f.2.2.2.2.1 else f.2.2.2.2.1) := hx
      by_cases w : m.2.2.2.2.2.2.2.1 = true
      · rw [if_pos w] at hx
        rcases List.mem_cons.mp hx with q | q
        · rw [q]; exact hg
        · exact h f List.mem_cons_self x (Or.inr q)
      · rw [if_neg w] at hx
        exact h f List.mem_cons_self x (Or.inr hx)
  · exact h e (List.mem_cons_of_mem _ he) x hx
theorem gll_up {n0 v : Nat} {c : Nat → Nat} {x : LKT} (h : GLL m n0 c x) : GLL m (n0 + 1) (upc c n0 v) x := by
  obtain ⟨h1, h2⟩ := h
  refine ⟨by omega, ?_⟩
  unfold lqn upc
  rw [if_neg (by omega)]; exact h2
theorem pti_ext {f : FRT} {fs : List FRT} {n0 k v : Nat} {md : Int} {c : Nat → Nat} (h : PTI m n0 c (f :: fs)) (hg : GLL m n0 c (f.1, f.2.2.1)) : PTI m (n0 + 1) (upc c n0 v) (exq f n0 k md :: rsq m f :: fs) := fun e he x hx => by
  rcases List.mem_cons.mp he with he | he
  · subst he
    rcases hx with hx | hx
    · have hx : x ∈ (f.1, f.2.2.1) :: f.2.2.2.1 := hx
      rcases List.mem_cons.mp hx with q | q
      · rw [q]; exact gll_up hg
      · exact gll_up (h f List.mem_cons_self x (Or.inl q))
    · exact gll_up (h f List.mem_cons_self x (Or.inr hx))
  · exact gll_up (pti_rest h hg e he x hx)
/-- the row of a literal that is closed goes on -/
theorem rwi_rest {f : FRT} {fs : List FRT} {K : List CHT} {t : CHT} {n0 : Nat} {c : Nat → Nat} (h : RWI m (f :: fs) K n0 c) (e1 : t.1 = f :: fs) (en0 : t.2.2.2.2.2.2.2.2.2.1 = n0) (hx : m.2.2.2.2.2.2.2.2 = true → t.2.2.2.2.2.2.2.1 = true) (hgl : f.2.2.1 < lqn m c f.1) : RWI m (rsq m f :: fs) (t :: K) n0 c := by
  obtain ⟨h1, h2, h3, h4, h5, h6, h7, h8, h9⟩ := h
  have em : (rsq m f).2.2.2.2.2 = f.2.2.2.2.2 := rfl
  have ei : (rsq m f).1 = f.1 := rfl
  have en : f.2.2.1 + 1 ≤ (rsq m f).2.2.1 := nxq_ge
  refine ⟨fun w i u hu hf => ?_, ⟨h2.1, h2.2⟩, fun e he => ?_, ⟨fun e he => by rw [ei]; exact h4.1 e he, h4.2⟩, fun i u e es hu eu g hg eg => ?_, fun e he => ?_, h7, nik_up h8 (by omega), pti_rest h9 ⟨h6 f List.mem_cons_self, hgl⟩⟩
  · by_cases q : i = K.length
    · subst q
      rw [atK_top] at hu
      cases hu
      rw [hx w] at hf; cases hf
    · obtain ⟨g, g1, g2⟩ := h1 w i u (atK_low hu q) hf
      rcases List.mem_cons.mp g1 with g1 | g1
      · subst g1; exact ⟨_, List.mem_cons_self, g2⟩
      · exact ⟨g, List.mem_cons_of_mem _ g1, g2⟩
  · rw [List.length_cons]
    rcases List.mem_cons.mp he with he | he
    · subst he
      have := h3 f List.mem_cons_self
      rw [em]; omega
    · have := h3 e (List.mem_cons_of_mem _ he); omega
  · by_cases q : i = K.length
    · subst q
      rw [atK_top] at hu
      cases hu
      rw [e1] at eu
      cases eu
      rcases List.mem_cons.mp hg with hg | hg
      · subst hg; omega
      · exact absurd eg (h4.1 g hg)
    · have hu2 := atK_low hu q
      rcases List.mem_cons.mp hg with hg | hg
      · subst hg
        have := h5 i u e es hu2 eu f List.mem_cons_self (by rw [← ei]; exact eg)
        omega
      · exact h5 i u e es hu2 eu g (List.mem_cons_of_mem _ hg) eg
  · rcases List.mem_cons.mp he with he | he
    · subst he; exact h6 f List.mem_cons_self
    · exact h6 e (List.mem_cons_of_mem _ he)
theorem lim_le {fs : List FRT} {a b : Nat} (h : LIM a fs) (hl : a ≤ b) : LIM b fs := fun f hf => by have := h f hf; omega
/-- and the row of the others of a new instance -/
theorem rwi_ext {f : FRT} {fs : List FRT} {K : List CHT} {t : CHT} {n0 k : Nat} {c : Nat → Nat} (h : RWI m (f :: fs) K n0 c) (e1 : t.1 = f :: fs) (en0 : t.2.2.2.2.2.2.2.2.2.1 = n0) (hK : KIV m K) (hn : n0 < 30) (hgl : f.2.2.1 < lqn m c f.1) {v : Nat} : RWI m (exq f n0 k (K.length : Int) :: rsq m f :: fs) (t :: K) (n0 + 1) (upc c n0 v) := by
  obtain ⟨h1, h2, h3, h4, h5, h6, h7, h8, h9⟩ := h
  have hb : ∀ (i : Nat) (u : CHT) (e : FRT) (es : List FRT), atK K i = some u → u.1 = e :: es → e.1 < n0 := fun i u e es hu eu => by
    have q1 := kiv_ins K hK i u e es hu eu
    have q2 := h8 i u hu
    omega
  have em : (exq f n0 k (K.length : Int)).2.2.2.2.2 = (K.length : Int) := rfl
  have ei : (exq f n0 k (K.length : Int)).1 = n0 := rfl
  have rm : (rsq m f).2.2.2.2.2 = f.2.2.2.2.2 := rfl
  have ri : (rsq m f).1 = f.1 := rfl
  have rn : f.2.2.1 + 1 ≤ (rsq m f).2.2.1 := nxq_ge
  have lf := h6 f List.mem_cons_self
  refine ⟨fun w i u hu hf => ?_, ⟨fun e he => ?_, h2.1, h2.2⟩, fun e he => ?_, ⟨fun e he => ?_, fun e he => by rw [ri]; exact h4.1 e he, h4.2⟩, fun i u e es hu eu g hg eg => ?_, fun e he => ?_, by omega, nik_up h8 (by omega), pti_ext h9 ⟨h6 f List.mem_cons_self, hgl⟩⟩
  · by_cases q : i = K.length
    · exact ⟨_, List.mem_cons_self, by rw [em, q]⟩
    · obtain ⟨g, g1, g2⟩ := h1 w i u (atK_low hu q) hf
      rcases List.mem_cons.mp g1 with g1 | g1
      · subst g1; exact ⟨_, List.mem_cons_of_mem _ List.mem_cons_self, g2⟩
      · exact ⟨g, List.mem_cons_of_mem _ (List.mem_cons_of_mem _ g1), g2⟩
  · rw [em]
    rcases List.mem_cons.mp he with he | he
    · subst he
      have := h3 f List.mem_cons_self
      rw [rm]; omega
    · have := h3 e (List.mem_cons_of_mem _ he); omega
  · rw [List.length_cons]
    rcases List.mem_cons.mp he with he | he
    · subst he; rw [em]; omega
    · rcases List.mem_cons.mp he with he | he
      · subst he
        have := h3 f List.mem_cons_self
        rw [rm]; omega
      · have := h3 e (List.mem_cons_of_mem _ he); omega
  · rw [ei]
    rcases List.mem_cons.mp he with he | he
    · subst he; rw [ri]; omega
    · have := h6 e (List.mem_cons_of_mem _ he); omega
  · by_cases q : i = K.length
    · subst q
      rw [atK_top] at hu
      cases hu
      rw [e1] at eu
      cases eu
      rcases List.mem_cons.mp hg with hg | hg
      · subst hg; rw [ei] at eg; omega
      · rcases List.mem_cons.mp hg with hg | hg
        · subst hg; omega
        · exact absurd eg (h4.1 g hg)
    · have hu2 := atK_low hu q
      rcases List.mem_cons.mp hg with hg | hg
      · subst hg
        have := hb i u e es hu2 eu
        rw [ei] at eg; omega
      · rcases List.mem_cons.mp hg with hg | hg
        · subst hg
          have := h5 i u e es hu2 eu f List.mem_cons_self (by rw [← ri]; exact eg)
          omega
        · exact h5 i u e es hu2 eu g (List.mem_cons_of_mem _ hg) eg
  · rcases List.mem_cons.mp he with he | he
    · subst he; rw [ei]; omega
    · rcases List.mem_cons.mp he with he | he
      · subst he; rw [ri]; omega
      · have := h6 e (List.mem_cons_of_mem _ he); omega
/-- a row goes: those behind it -/
theorem rwi_pop {f : FRT} {fs : List FRT} {K : List CHT} {n0 : Nat} {c : Nat → Nat} (h : RWI m (f :: fs) K n0 c) : RWI m fs (mkq m f.2.2.2.2.2 K) n0 c := by
  obtain ⟨h1, h2, h3, h4, h5, h6, h7, h8, h9⟩ := h
  have hl := mkq_len (m := m) f.2.2.2.2.2 K
  refine ⟨fun w i t ht hf => ?_, h2.2, fun e he => ?_, h4.2, fun i t e es ht et g hg eg => ?_, fun e he => h6 e (List.mem_cons_of_mem _ he), h7, fun i t ht => ?_, fun e he => h9 e (List.mem_cons_of_mem _ he)⟩
  · obtain ⟨u, u1, u2⟩ := mkq_at f.2.2.2.2.2 K ht
    rcases u2 with ⟨_, _, _, e⟩ | ⟨a, e⟩
    · rw [e] at hf; cases hf
    · rw [e] at hf
      obtain ⟨g, g1, g2⟩ := h1 w i u u1 hf
      rcases List.mem_cons.mp g1 with g1 | g1
      · subst g1
        exact absurd ⟨w, by omega, by omega⟩ a
      · exact ⟨g, g1, g2⟩
  · rw [hl]; exact h3 e (List.mem_cons_of_mem _ he)
  · obtain ⟨u, u1, u2, _, _⟩ := mkq_few (m := m) f.2.2.2.2.2 K i t ht
    exact h5 i u e es u1 (u2.symm.trans et) g (List.mem_cons_of_mem _ hg) eg
  · obtain ⟨u, u1, _, _, u2⟩ := mkq_few (m := m) f.2.2.2.2.2 K i t ht
    rw [u2]; exact h8 i u u1
/-- each step keeps it -/
theorem civ_way {t : CHT} {K : List CHT} {n : CTT} {d : CFT} (hK : KIV m K) (hc : CHI m t K) (k : WAY m t K n d) : CIV m d := by
  obtain ⟨r, kd, bi, bl, lt, lk, cd, fx, b0, n0, c0⟩ := t
  obtain ⟨⟨f, fs, e1, hn, hsm, hgk⟩, hr⟩ := hc
  have e1 : r = f :: fs := e1
  subst e1
  have hn : f.2.2.1 < lqn m c0 f.1 := hn
  have hsm : SML m b0 (lqp m c0 f.1 f.2.2.1) := hsm
  have hr : RWI m (f :: fs) K n0 c0 := hr
  have hgk : ∀ x : LKT, x ∈ lk → GLL m n0 c0 x := hgk
  have chi : ∀ (kd bi bl : Int) (lt : Bool) (lk : List LKT) (cd : Nat) (fx : Bool), (∀ x : LKT, x ∈ lk → GLL m n0 c0 x) → CHI m (f :: fs, kd, bi, bl, lt, lk, cd, fx, b0, n0, c0) K := fun _ _ _ _ _ _ _ hq => ⟨⟨f, fs, rfl, hn, hsm, hq⟩, hr⟩
  have bk : CIV m (BKc K n) := by
    cases K with
    | nil => exact True.intro
    | cons u K => exact ⟨hK.2.2, hK.1⟩
  have go : ∀ (t : CHT) (s : BNT) (n' : CTT) (kd bi bl : Int) (lt : Bool) (lk : List LKT) (cd : Nat), t = (f :: fs, kd, bi, bl, lt, lk, cd, m.2.2.2.2.2.2.2.2, b0, n0, c0) → kd ≠ 0 → (m.2.2.2.2.2.2.2.1 = true → lt = true) → s.2 = (n0, c0) → (∀ x : LKT, x ∈ lk → GLL m n0 c0 x) → CIV m (GOc (rsq m f :: fs) (t :: K) s n') := fun t s n' kd bi bl lt lk cd et hk hl hs hq => by
    obtain ⟨b, i, c⟩ := s
    have hs : (i, c) = (n0, c0) := hs
    cases hs
    subst et
    exact ⟨⟨chi _ _ _ _ _ _ _ hq, ⟨hk, hl, fun w _ => w⟩, hK⟩, rwi_rest hr rfl rfl (fun w => w) hn⟩
  rcases k with ⟨_, r, _, k⟩ | ⟨hl, k⟩
  · rcases k with ⟨_, k⟩ | ⟨x, _, k⟩
    · subst k; exact ⟨hK, chi _ _ _ _ _ _ _ hgk⟩
    · subst k; exact go _ _ _ _ _ _ _ _ _ rfl (by decide) (fun _ => rfl) rfl hgk
  · have hl2 : m.2.2.2.2.2.2.2.1 = true → lt = true := fun w => by
      cases lt with
      | true => rfl
      | false => exact absurd ⟨w, rfl⟩ hl
    cases lk with
    | cons x xs =>
      have hgx : ∀ y : LKT, y ∈ xs → GLL m n0 c0 y := fun y hy => hgk y (List.mem_cons_of_mem _ hy)
      rcases k with ⟨_, k⟩ | ⟨_, k⟩
      · rcases k with ⟨_, k⟩ | ⟨_, k⟩
        · have k : d = _ := k
          subst k
          exact fun w => absurd w (by decide)
        · obtain ⟨r, b1, _, k⟩ := k
          rcases k with ⟨_, k⟩ | ⟨_, k⟩
          · subst k; exact go _ _ _ _ _ _ _ _ _ rfl (by decide) hl2 rfl hgx
          · subst k; exact ⟨hK, chi _ _ _ _ _ _ _ hgx⟩
      · have k : d = _ := k
        subst k; exact ⟨hK, chi _ _ _ _ _ _ _ hgx⟩
    | nil =>
      rcases k with ⟨_, k⟩ | ⟨_, k⟩
      · rcases k with ⟨_, k⟩ | ⟨_, k⟩
        · rcases k with ⟨_, k⟩ | ⟨_, k⟩
          · have k : d = _ := k
            subst k
            exact fun w => absurd w (by decide)
          · rcases k with ⟨hi, k⟩ | ⟨_, k⟩
            · obtain ⟨r, b1, _, k⟩ := k
              rcases k with ⟨_, k⟩ | ⟨_, k⟩
              · subst k
                exact ⟨⟨chi _ _ _ _ _ _ _ hgk, ⟨(show (3 : Int) ≠ 0 by decide), hl2, fun _ w => absurd rfl w⟩, hK⟩, rwi_ext (t := (f :: fs, 3, (n0 : Int), ((cd % 6 : Nat) : Int), lt, [], cd + 1, false, b0, n0, c0)) hr rfl rfl hK hi hn⟩
              · subst k; exact ⟨hK, chi _ _ _ _ _ _ _ hgk⟩
            · have k : d = _ := k
              subst k; exact ⟨hK, chi _ _ _ _ _ _ _ hgk⟩
        · have k : d = _ := k
          subst k; exact ⟨hK, chi _ _ _ _ _ _ _ hgk⟩
      · have k : d = _ := k
        subst k; exact bk
theorem civ_st {c d : CFT} (hc : CIV m c) (k : MST m c d) : CIV m d := by
  obtain ⟨md, fs, K, s, n, r⟩ := c
  have bk : ∀ n' : CTT, KIV m K → CIV m (BKc K n') := fun n' hK => by
    cases K with
    | nil => exact True.intro
    | cons u K => exact ⟨hK.2.2, hK.1⟩
  match md with
  | 0 =>
    obtain ⟨hK, hr⟩ := hc
    cases fs with
    | nil =>
      have k : d = _ := k
      subst k
      exact fun _ => hK
    | cons f fs =>
      rcases k with ⟨_, k⟩ | ⟨hn, k⟩
      · have k : d = _ := k
        subst k
        exact ⟨kiv_mkq _ hK, rwi_pop hr⟩
      · rcases k with ⟨_, k⟩ | ⟨_, k⟩
        · have k : d = _ := k
          subst k; exact bk _ hK
        · rcases k with ⟨hs, k⟩ | ⟨_, k⟩
          · have k : d = _ := k
            subst k
            exact ⟨hK, ⟨f, fs, rfl, Nat.lt_of_not_le hn, hs, fun x hx => hr.2.2.2.2.2.2.2.2 f List.mem_cons_self x (Or.inl hx)⟩, hr⟩
          · have k : d = _ := k
            subst k; exact bk _ hK
  | 1 =>
    cases K with
    | nil =>
      have k : d = _ := k
      subst k
      exact fun w => absurd w (by decide)
    | cons t K =>
      obtain ⟨hK, hc⟩ := hc
      rcases k with ⟨_, k⟩ | ⟨_, k⟩
      · have k : d = _ := k
        subst k
        cases K with
        | nil => exact True.intro
        | cons u K => exact ⟨hK.2.2, hK.1⟩
      · exact civ_way hK hc k
  | _ + 2 => exact False.elim k
theorem civ_run {c d : CFT} (hc : CIV m c) (k : RUN m c d) : CIV m d := by
  obtain ⟨n, k⟩ := k
  induction n generalizing c with
  | zero => have q : c = d := k; subst q; exact hc
  | succ n ih =>
    obtain ⟨e, k1, k2⟩ := k
    exact ih (civ_st hc k1) k2
theorem civ_start {s : BNT} {n : CTT} (h : s.2.1 = 1) : CIV m (GOc [(0, -1, 0, [], [], -1)] [] s n) := by
  obtain ⟨b, i, c⟩ := s
  have h : i = 1 := h
  subst h
  have mem : ∀ f : FRT, f ∈ [((0, -1, 0, [], [], -1) : FRT)] → f = (0, -1, 0, [], [], -1) := fun f hf => List.mem_singleton.mp hf
  refine ⟨True.intro, fun _ i t ht => (by cases ht), ⟨fun e he => (by cases he), True.intro⟩, fun f hf => ?_, ⟨fun e he => (by cases he), True.intro⟩, fun i t e es ht => (by cases ht), fun f hf => ?_, (show (1 : Nat) ≤ 30 by decide), fun i t ht => (by cases ht), fun f hf x hx => ?_⟩
  · rw [mem f hf]; decide
  · rw [mem f hf]; exact Nat.zero_lt_one
  · rw [mem f hf] at hx
    rcases hx with hx | hx <;> cases hx
/-- the literals that are closed are unlike: so many at most -/
theorem kiv_len : ∀ (K : List CHT) (M : Nat), KIV m K → NIK 30 K → (∀ (i : Nat) (u : CHT) (e : FRT) (es : List FRT), atK K i = some u → u.1 = e :: es → e.2.2.1 < 6) → ∃ fn : Nat → Nat, (∀ i : Nat, i < K.length → fn i ∈ List.range 180 ∧ ∃ (u : CHT) (e : FRT) (es : List FRT), atK K i = some u ∧ u.1 = e :: es ∧ fn i = 6 * e.1 + e.2.2.1) ∧ ∀ i j : Nat, i < K.length → j < K.length → fn i = fn j → i = j := by
  intro K
  induction K with
  | nil => intro M _ _ _; exact ⟨fun _ => 0, fun i hi => absurd hi (Nat.not_lt_zero _), fun i j hi => absurd hi (Nat.not_lt_zero _)⟩
  | cons t K ih =>
    intro M h hn h6
    obtain ⟨fn, f1, f2⟩ := ih M h.2.2 (fun i u hu => hn i u (atK_up hu)) (fun i u e es hu eu => h6 i u e es (atK_up hu) eu)
    obtain ⟨f, fs, e1, _⟩ := h.1.1
    have hr := h.1.2
    rw [e1] at hr
    obtain ⟨_, _, _, _, hd, hl, _⟩ := hr
    have a1 := hl f List.mem_cons_self
    have a2 := hn K.length t atK_top
    have a3 := h6 K.length t f fs atK_top e1
    refine ⟨fun i => if i = K.length then 6 * f.1 + f.2.2.1 else fn i, fun i hi => ?_, fun i j hi hj e => ?_⟩
    · rw [List.length_cons] at hi
      by_cases q : i = K.length
      · simp only [q, if_true]
        exact ⟨List.mem_range.mpr (by omega), t, f, fs, atK_top, e1, rfl⟩
      · simp only [if_neg q]
        obtain ⟨g1, u, e, es, g2, g3, g4⟩ := f1 i (by omega)
        exact ⟨g1, u, e, es, atK_up g2, g3, g4⟩
    · rw [List.length_cons] at hi hj
      have key : ∀ k : Nat, k < K.length → ¬ fn k = 6 * f.1 + f.2.2.1 := fun k hk w => by
        obtain ⟨_, u, e, es, g2, g3, g4⟩ := f1 k hk
        have g5 := h6 k u e es (atK_up g2) g3
        have g6 : f.1 = e.1 := by omega
        have g7 := hd k u e es g2 g3 f List.mem_cons_self g6
        omega
      by_cases q : i = K.length
      · by_cases w : j = K.length
        · omega
        · simp only [q, if_true, if_neg w] at e
          exact absurd e.symm (key j (by omega))
      · by_cases w : j = K.length
        · simp only [w, if_true, if_neg q] at e
          exact absurd e (key i (by omega))
        · simp only [if_neg q, if_neg w] at e
          exact f2 i j (by omega) (by omega) e
end IL
