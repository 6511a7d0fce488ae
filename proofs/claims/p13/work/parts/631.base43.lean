/-! the class's rows, links and steps as rows and choices of the search -/
def LKR (la : Nat → Nat) (lf : Nat → LT) : Int → Option Nat → List LKT → Prop
  | _, o, [] => o = none
  | n, o, x :: xs => ∃ q : Nat, (q : Int) < n ∧ o = some (la q) ∧ (lf q).1.toInt = (x.1 : Int) ∧ (lf q).2.1.toInt = (x.2 : Int) ∧ (lf q).2.2.1.toInt = (xs.length : Int) + 1 ∧ LKR la lf (q : Int) (lf q).2.2.2 xs
def RWV (la : Nat → Nat) (lf : Nat → LT) (L : Int) (t : RT) (f : FRT) : Prop := t.1.toInt = (f.1 : Int) ∧ t.2.1.toInt = f.2.1 ∧ t.2.2.1.toInt = (f.2.2.1 : Int) ∧ LKR la lf L t.2.2.2.1 f.2.2.2.1 ∧ LKR la lf L t.2.2.2.2.1 f.2.2.2.2.1 ∧ t.2.2.2.2.2.2.toInt = f.2.2.2.2.2
def RWR (la : Nat → Nat) (lf : Nat → LT) (L : Int) (ra : Nat → Nat) (rf : Nat → RT) : Int → Option Nat → List FRT → Prop
  | _, o, [] => o = none
  | n, o, f :: fs => ∃ q : Nat, (q : Int) < n ∧ o = some (ra q) ∧ RWV la lf L (rf q) f ∧ RWR la lf L ra rf (q : Int) (rf q).2.2.2.2.2.1 fs
/-- what was bound up to a mark -/
def TRB (bnd trl : Nat → Int32) (M : Int) (b0 : Nat → Int) : Prop := ∀ c : Nat, ((∃ j : Nat, (j : Int) < M ∧ (trl j).toInt.toNat = c) → b0 c = BDV bnd c) ∧ ((¬ ∃ j : Nat, (j : Int) < M ∧ (trl j).toInt.toNat = c) → b0 c = -1)
abbrev sTM (t : ST) : Int := t.2.2.2.2.2.2.2.2.1.toInt
def CHV (la : Nat → Nat) (lf : Nat → LT) (ra : Nat → Nat) (rf : Nat → RT) (bnd trl cof : Nat → Int32) (x : ST) (t : CHT) : Prop :=
  RWR la lf (sLM x) ra rf (sRM x) x.1 t.1 ∧ (t.2.1 = 0 ∨ (x.2.1.toInt = t.2.1 ∧ x.2.2.1.toInt = t.2.2.1 ∧ x.2.2.2.1.toInt = t.2.2.2.1)) ∧ (x.2.2.2.2.1.toInt = 1 ↔ t.2.2.2.2.1 = true) ∧ LKR la lf (sLM x) x.2.2.2.2.2.1 t.2.2.2.2.2.1 ∧ x.2.2.2.2.2.2.1.toInt = (t.2.2.2.2.2.2.1 : Int) ∧ (x.2.2.2.2.2.2.2.1.toInt = 1 ↔ t.2.2.2.2.2.2.2.1 = true) ∧ TRB bnd trl (sTM x) t.2.2.2.2.2.2.2.2.1 ∧ sIM x = (t.2.2.2.2.2.2.2.2.2.1 : Int) ∧ ∀ i : Nat, i < t.2.2.2.2.2.2.2.2.2.1 → (cof i).toInt = (t.2.2.2.2.2.2.2.2.2.2 i : Int)
def STV (la : Nat → Nat) (lf : Nat → LT) (ra : Nat → Nat) (rf : Nat → RT) (sf : Nat → ST) (bnd trl cof : Nat → Int32) : Int → Int → Int → Int → List CHT → Prop
  | _, _, _, _, [] => True
  | T, I, R, L, t :: K => (0 ≤ sTM (sf K.length) ∧ sTM (sf K.length) ≤ T) ∧ (0 ≤ sIM (sf K.length) ∧ sIM (sf K.length) ≤ I) ∧ (0 ≤ sRM (sf K.length) ∧ sRM (sf K.length) ≤ R) ∧ (0 ≤ sLM (sf K.length) ∧ sLM (sf K.length) ≤ L) ∧ CHV la lf ra rf bnd trl cof (sf K.length) t ∧ STV la lf ra rf sf bnd trl cof (sTM (sf K.length)) (sIM (sf K.length)) (sRM (sf K.length)) (sLM (sf K.length)) K
def BND_ (bnd cof : Nat → Int32) (I : Int) (s : BNT) : Prop := s.1 = BDV bnd ∧ (s.2.1 : Int) = I ∧ ∀ i : Nat, i < s.2.1 → (cof i).toInt = (s.2.2 i : Int)
/-- rows are to be closed; the first of them at o -/
def GOX (m : PRM) (c0 : CFT) (la : Nat → Nat) (lf : Nat → LT) (ra : Nat → Nat) (rf : Nat → RT) (sf : Nat → ST) (bnd trl cof : Nat → Int32) (T I R L S : Int) (o : Option Nat) (n : CTT) : Prop := ∃ (fs : List FRT) (K : List CHT) (s : BNT), RUN m c0 (GOc fs K s n) ∧ RWR la lf L ra rf R o fs ∧ (K.length : Int) = S ∧ STV la lf ra rf sf bnd trl cof T I R L K ∧ BND_ bnd cof I s
/-- another way is wanted -/
def BKX (m : PRM) (c0 : CFT) (la : Nat → Nat) (lf : Nat → LT) (ra : Nat → Nat) (rf : Nat → RT) (sf : Nat → ST) (bnd trl cof : Nat → Int32) (T I R L S : Int) (n : CTT) : Prop := ∃ K : List CHT, RUN m c0 (BKc K n) ∧ (K.length : Int) = S ∧ STV la lf ra rf sf bnd trl cof T I R L K
/-- another way of the latest choice, all behind it freed -/
def BKT (m : PRM) (c0 : CFT) (la : Nat → Nat) (lf : Nat → LT) (ra : Nat → Nat) (rf : Nat → RT) (sf : Nat → ST) (bnd trl cof : Nat → Int32) (j : Nat) (n : CTT) : Prop := ∃ (t : CHT) (K : List CHT), RUN m c0 (BKc (t :: K) n) ∧ K.length = j ∧ STV la lf ra rf sf bnd trl cof (sTM (sf j)) (sIM (sf j)) (sRM (sf j)) (sLM (sf j)) (t :: K) ∧ t.2.2.2.2.2.2.2.2.1 = BDV bnd
/-- the latest choice is closed -/
def CZX (m : PRM) (c0 : CFT) (la : Nat → Nat) (lf : Nat → LT) (ra : Nat → Nat) (rf : Nat → RT) (sf : Nat → ST) (bnd trl cof : Nat → Int32) (T I : Int) (j : Nat) (n : CTT) : Prop := ∃ (f : FRT) (fs gs : List FRT) (t : CHT) (K : List CHT) (s : BNT), RUN m c0 (GOc gs (t :: K) s n) ∧ t.1 = f :: fs ∧ K.length = j ∧ STV la lf ra rf sf bnd trl cof T I (sRM (sf j)) (sLM (sf j)) (t :: K) ∧ BND_ bnd cof I s ∧ t.2.1 ≠ 0 ∧ ((t.2.1 ≠ 3 ∧ gs = rsq m f :: fs) ∨ (t.2.1 = 3 ∧ 0 ≤ t.2.2.1 ∧ 0 ≤ t.2.2.2.1 ∧ gs = exq f t.2.2.1.toNat t.2.2.2.1.toNat (j : Int) :: rsq m f :: fs))
section CL1
variable {la la' ra ra' : Nat → Nat} {lf lf' : Nat → LT} {rf rf' : Nat → RT} {sf sf' : Nat → ST} {bnd bnd' trl trl' cof cof' : Nat → Int32}
theorem lkr_mono : ∀ (xs : List LKT) (n n' : Int) (o : Option Nat), LKR la lf n o xs → n ≤ n' → (∀ i : Nat, (i : Int) < n → la' i = la i ∧ lf' i = lf i) → LKR la' lf' n' o xs := by
  intro xs
  induction xs with
  | nil => intro n n' o h _ _; exact h
  | cons x xs ih =>
    intro n n' o h hn ha
    obtain ⟨q, h1, h2, h3, h4, h5, h6⟩ := h
    obtain ⟨e1, e2⟩ := ha q h1
    exact ⟨q, by omega, by rw [e1]; exact h2, by rw [e2]; exact h3, by rw [e2]; exact h4, by rw [e2]; exact h5, by rw [e2]; exact ih _ _ _ h6 (Int.le_refl _) (fun i hi => ha i (by omega))⟩
theorem rwv_mono {L L' : Int} {t : RT} {f : FRT} (h : RWV la lf L t f) (hL : L ≤ L') (ha : ∀ i : Nat, (i : Int) < L → la' i = la i ∧ lf' i = lf i) : RWV la' lf' L' t f := by
  obtain ⟨h1, h2, h3, h4, h5, h6⟩ := h
  exact ⟨h1, h2, h3, lkr_mono _ _ _ _ h4 hL ha, lkr_mono _ _ _ _ h5 hL ha, h6⟩
theorem rwr_mono {L L' : Int} (hL : L ≤ L') (ha : ∀ i : Nat, (i : Int) < L → la' i = la i ∧ lf' i = lf i) : ∀ (fs : List FRT) (n n' : Int) (o : Option Nat), RWR la lf L ra rf n o fs → n ≤ n' → (∀ i : Nat, (i : Int) < n → ra' i = ra i ∧ rf' i = rf i) → RWR la' lf' L' ra' rf' n' o fs := by
  intro fs
  induction fs with
  | nil => intro n n' o h _ _; exact h
  | cons f fs ih =>
    intro n n' o h hn hr
    obtain ⟨q, h1, h2, h3, h4⟩ := h
    obtain ⟨e1, e2⟩ := hr q h1
    exact ⟨q, by omega, by rw [e1]; exact h2, by rw [e2]; exact rwv_mono h3 hL ha, by rw [e2]; exact ih _ _ _ h4 (Int.le_refl _) (fun i hi => hr i (by omega))⟩
theorem trb_keep {M T : Int} {b0 : Nat → Int} (h : TRB bnd trl M b0) (hM : M ≤ T) (ha : ∀ i : Nat, (i : Int) < T → trl' i = trl i ∧ bnd' (trl i).toInt.toNat = bnd (trl i).toInt.toNat) : TRB bnd' trl' M b0 := fun c => by
  obtain ⟨h1, h2⟩ := h c
  refine ⟨fun ⟨j, j1, j2⟩ => ?_, fun w => h2 (fun ⟨j, j1, j2⟩ => w ⟨j, j1, by rw [(ha j (by omega)).1]; exact j2⟩)⟩
  obtain ⟨e1, e2⟩ := ha j (by omega)
  rw [e1] at j2
  rw [h1 ⟨j, j1, j2⟩]
  unfold BDV
  rw [← j2, e2]
theorem trb_full {T : Int} (hb : BTR T trl bnd) (hz : BHZ bnd) : TRB bnd trl T (BDV bnd) := fun c => by
  refine ⟨fun _ => rfl, fun w => ?_⟩
  have z : (bnd c).toInt = 0 := by
    by_cases q : (bnd c).toInt = 0
    · exact q
    · by_cases l : c < 256
      · obtain ⟨i, i1, i2⟩ := hb c l q
        exact absurd ⟨i, i1, i2⟩ w
      · exact absurd (hz c (by omega)) q
  unfold BDV; omega
theorem trb_un {T : Int} {b b' : Nat → Int} (h : TRB bnd trl T b) (k : TRB bnd trl T b') : b = b' := by
  funext c
  obtain ⟨h1, h2⟩ := h c
  obtain ⟨k1, k2⟩ := k c
  by_cases w : ∃ j : Nat, (j : Int) < T ∧ (trl j).toInt.toNat = c
  · rw [h1 w, k1 w]
  · rw [h2 w, k2 w]
/-- behind an undoing: what is bound up to the mark stays -/
theorem une_keep {M T : Int} (hc : TRC T trl bnd) (hr : Rg 0 255 trl) (hM : M ≤ T) (u : UNE M T trl bnd bnd') : ∀ i : Nat, (i : Int) < M → trl i = trl i ∧ bnd' (trl i).toInt.toNat = bnd (trl i).toInt.toNat := fun i hi => by
  refine ⟨rfl, ?_⟩
  rcases u.1 (trl i).toInt.toNat with e | ⟨_, j, j1, j2, j3⟩
  · exact e
  · have r1 := hr i
    have r2 := hr j
    have e := hc.1 i j (by omega) j2 (by omega)
    omega
/-- behind a binding: what was bound stays -/
theorem gri_keep {Lo Hi T T' : Int} (hg : GRI Lo Hi T T' bnd trl bnd' trl') (hc : TRC T' trl' bnd') (hr : Rg 0 255 trl') : ∀ i : Nat, (i : Int) < T → trl' i = trl i ∧ bnd' (trl i).toInt.toNat = bnd (trl i).toInt.toNat := fun i hi => by
  obtain ⟨g1, g2, g3, g4, g5⟩ := hg
  have e := g4 i hi
  refine ⟨e, ?_⟩
  have z := hc.2 i (by omega)
  rw [e] at z
  rcases g5 _ z with q | ⟨j, j1, j2, j3⟩
  · exact q
  · have r1 := hr i
    have r2 := hr j
    rw [clamp_nat r2.1] at j3
    rw [e] at r1
    have w := hc.1 j i (by omega) (by omega) (by rw [e]; omega)
    omega
/-- the choices stay, whatever grows behind their marks -/
theorem stv_ext : ∀ (K : List CHT) (T I R L T' I' R' L' : Int), STV la lf ra rf sf bnd trl cof T I R L K → T ≤ T' → I ≤ I' → R ≤ R' → L ≤ L' → (∀ i : Nat, (i : Int) < L → la' i = la i ∧ lf' i = lf i) → (∀ i : Nat, (i : Int) < R → ra' i = ra i ∧ rf' i = rf i) → (∀ j : Nat, j < K.length → sf' j = sf j) → (∀ i : Nat, (i : Int) < T → trl' i = trl i ∧ bnd' (trl i).toInt.toNat = bnd (trl i).toInt.toNat) → (∀ i : Nat, (i : Int) < I → cof' i = cof i) → STV la' lf' ra' rf' sf' bnd' trl' cof' T' I' R' L' K := by
  intro K
  induction K with
  | nil => intro T I R L T' I' R' L' _ _ _ _ _ _ _ _ _ _; exact True.intro
  | cons t K ih =>
    intro T I R L T' I' R' L' h hT hI hR hL a1 a2 a3 a4 a5
    have es : sf' K.length = sf K.length := a3 K.length (by rw [List.length_cons]; omega)
    obtain ⟨h1, h2, h3, h4, ⟨c1, c2, c3, c4, c5, c6, c7, c8, c9⟩, h6⟩ := h
    show _ ∧ _ ∧ _ ∧ _ ∧ CHV la' lf' ra' rf' bnd' trl' cof' (sf' K.length) t ∧ _
    rw [es]
    refine ⟨by omega, by omega, by omega, by omega, ⟨?_, c2, c3, ?_, c5, c6, ?_, c8, fun i hi => ?_⟩, ?_⟩
    · exact rwr_mono (Int.le_refl _) (fun i hi => a1 i (by omega)) _ _ _ _ c1 (Int.le_refl _) (fun i hi => a2 i (by omega))
    · exact lkr_mono _ _ _ _ c4 (Int.le_refl _) (fun i hi => a1 i (by omega))
    · exact trb_keep c7 (Int.le_refl _) (fun i hi => a4 i (by omega))
    · rw [a5 i (by omega)]; exact c9 i hi
    · exact ih _ _ _ _ _ _ _ _ h6 (Int.le_refl _) (Int.le_refl _) (Int.le_refl _) (Int.le_refl _) (fun i hi => a1 i (by omega)) (fun i hi => a2 i (by omega)) (fun j hj => a3 j (by rw [List.length_cons]; omega)) (fun i hi => a4 i (by omega)) (fun i hi => a5 i (by omega))
/-- no other way of those from a mark on -/
theorem stv_mkF (md : Int) (S : Nat) (h1 : ∀ j : Nat, (j : Int) < md → sf' j = sf j) (h2 : ∀ j : Nat, md ≤ (j : Int) → j < S → sf' j = ((sf j).1, (sf j).2.1, (sf j).2.2.1, (sf j).2.2.2.1, (sf j).2.2.2.2.1, (sf j).2.2.2.2.2.1, (sf j).2.2.2.2.2.2.1, 1, (sf j).2.2.2.2.2.2.2.2)) : ∀ (K : List CHT) (T I R L : Int), K.length ≤ S → STV la lf ra rf sf bnd trl cof T I R L K → STV la lf ra rf sf' bnd trl cof T I R L (mkF md K) := by
  intro K
  induction K with
  | nil => intro T I R L _ h; exact h
  | cons t K ih =>
    intro T I R L hS h
    rw [List.length_cons] at hS
    have hl := mkF_len md K
    by_cases w : md ≤ (K.length : Int)
    · have e : mkF md (t :: K) = fxq t :: mkF md K := by show (if md ≤ (K.length : Int) then fxq t :: mkF md K else t :: K) = _; rw [if_pos w]
      rw [e]
      have es := h2 K.length w (by omega)
      obtain ⟨k1, k2, k3, k4, ⟨c1, c2, c3, c4, c5, c6, c7, c8, c9⟩, k6⟩ := h
      show (0 ≤ sTM (sf' (mkF md K).length) ∧ _) ∧ _ ∧ _ ∧ _ ∧ CHV la lf ra rf bnd trl cof (sf' (mkF md K).length) (fxq t) ∧ STV la lf ra rf sf' bnd trl cof (sTM (sf' (mkF md K).length)) (sIM (sf' (mkF md K).length)) (sRM (sf' (mkF md K).length)) (sLM (sf' (mkF md K).length)) (mkF md K)
      rw [hl, es]
      exact ⟨k1, k2, k3, k4, ⟨c1, c2, c3, c4, c5, ⟨fun _ => rfl, fun _ => (show (1 : Int32).toInt = 1 by decide)⟩, c7, c8, c9⟩, ih _ _ _ _ (by omega) k6⟩
    · have e : mkF md (t :: K) = t :: K := by show (if md ≤ (K.length : Int) then fxq t :: mkF md K else t :: K) = _; rw [if_neg w]
      rw [e]
      exact stv_ext _ _ _ _ _ _ _ _ _ h (Int.le_refl _) (Int.le_refl _) (Int.le_refl _) (Int.le_refl _) (fun _ _ => ⟨rfl, rfl⟩) (fun _ _ => ⟨rfl, rfl⟩) (fun j hj => h1 j (by rw [List.length_cons] at hj; omega)) (fun _ _ => ⟨rfl, rfl⟩) (fun _ _ => rfl)
end CL1
section CL2
variable {m : PRM} {c0 : CFT} {la la' ra ra' : Nat → Nat} {lf lf' : Nat → LT} {rf rf' : Nat → RT} {sf sf' : Nat → ST} {bnd bnd' trl trl' cof cof' : Nat → Int32} {T I R L S : Int} {n : CTT} {o : Option Nat}
/-- all rows are closed -/
def DNX (m : PRM) (c0 : CFT) (la : Nat → Nat) (lf : Nat → LT) (ra : Nat → Nat) (rf : Nat → RT) (sf : Nat → ST) (bnd trl cof : Nat → Int32) (T I R L S : Int) (n : CTT) : Prop := ∃ (K : List CHT) (s : BNT), RUN m c0 (DNc 1 K s n) ∧ (K.length : Int) = S ∧ STV la lf ra rf sf bnd trl cof T I R L K ∧ BND_ bnd cof I s
theorem gox_done (h : GOX m c0 la lf ra rf sf bnd trl cof T I R L S none n) : DNX m c0 la lf ra rf sf bnd trl cof T I R L S n := by
  obtain ⟨fs, K, s, h1, h2, h3, h4, h5⟩ := h
  cases fs with
  | nil => exact ⟨K, s, run_st h1 mst_done, h3, h4, h5⟩
  | cons f fs =>
    obtain ⟨q, _, h6, _⟩ := h2
    cases h6
/-- the first row's own words -/
theorem gox_row {q : Nat} (h : GOX m c0 la lf ra rf sf bnd trl cof T I R L S (some (ra q)) n) (hq : (q : Int) < R) (ij : ∀ i j : Nat, (i : Int) < R → (j : Int) < R → ra i = ra j → i = j) : ∃ (f : FRT) (fs : List FRT) (K : List CHT) (s : BNT), RUN m c0 (GOc (f :: fs) K s n) ∧ RWV la lf L (rf q) f ∧ RWR la lf L ra rf (q : Int) (rf q).2.2.2.2.2.1 fs ∧ (K.length : Int) = S ∧ STV la lf ra rf sf bnd trl cof T I R L K ∧ BND_ bnd cof I s := by
  obtain ⟨fs, K, s, h1, h2, h3, h4, h5⟩ := h
  cases fs with
  | nil => cases h2
  | cons f fs =>
    obtain ⟨q', k1, k2, k3, k4⟩ := h2
    have e := ij q q' hq k1 (Option.some.inj k2)
    subst e
    exact ⟨f, fs, K, s, h1, k3, k4, h3, h4, h5⟩
/-- a literal's clause, by the instances there are -/
theorem bnd_cof {s : BNT} {i : Nat} (h : BND_ bnd cof I s) (hi : (i : Int) < I) : (cof i).toInt = (s.2.2 i : Int) := h.2.2 i (by have := h.2.1; omega)
/-- a row whose literals are all closed goes: with RESTRICTED no other way of what it needed -/
theorem gox_pop {q : Nat} {ln : Nat → Int32} (h : GOX m c0 la lf ra rf sf bnd trl cof T I R L S (some (ra q)) n) (hq : (q : Int) < R) (ij : ∀ i j : Nat, (i : Int) < R → (j : Int) < R → ra i = ra j → i = j) (hi : (rf q).1.toInt < I) (hn : ∀ c : Nat, (m.2.2.1 c : Int) = (ln c).toInt) (hl : (ln (cof (rf q).1.toInt.toNat).toInt.toNat).toInt ≤ (rf q).2.2.1.toInt)
    (hf : (¬ (m.2.2.2.2.2.2.2.2 = true ∧ (rf q).2.2.2.2.2.2.toInt ≠ -1) ∧ ∀ j : Nat, (j : Int) < S → sf' j = sf j) ∨ ((m.2.2.2.2.2.2.2.2 = true ∧ (rf q).2.2.2.2.2.2.toInt ≠ -1) ∧ (∀ j : Nat, (j : Int) < (rf q).2.2.2.2.2.2.toInt → sf' j = sf j) ∧ ∀ j : Nat, (rf q).2.2.2.2.2.2.toInt ≤ (j : Int) → (j : Int) < S → sf' j = ((sf j).1, (sf j).2.1, (sf j).2.2.1, (sf j).2.2.2.1, (sf j).2.2.2.2.1, (sf j).2.2.2.2.2.1, (sf j).2.2.2.2.2.2.1, 1, (sf j).2.2.2.2.2.2.2.2))) : GOX m c0 la lf ra rf sf' bnd trl cof T I R L S (rf q).2.2.2.2.2.1 n := by
  obtain ⟨f, fs, K, s, h1, h2, h3, h4, h5, h6⟩ := gox_row h hq ij
  obtain ⟨r1, r2, r3, r4, r5, r6⟩ := h2
  have ec := bnd_cof (i := (rf q).1.toInt.toNat) h6 (by omega)
  have ef : (rf q).1.toInt.toNat = f.1 := by omega
  have el : lqn m s.2.2 f.1 ≤ f.2.2.1 := by
    unfold lqn
    have q1 := hn (s.2.2 f.1)
    rw [ef] at ec hl
    rw [ec] at hl
    rw [Int.toNat_natCast] at hl
    omega
  refine ⟨fs, mkq m f.2.2.2.2.2 K, s, run_st h1 (mst_pop el), rwr_mono (Int.le_refl _) (fun _ _ => ⟨rfl, rfl⟩) _ _ _ _ h3 (by omega) (fun _ _ => ⟨rfl, rfl⟩), by rw [mkq_len]; exact h4, ?_, h6⟩
  unfold mkq
  rw [← r6]
  rcases hf with ⟨w, hf⟩ | ⟨w, hf1, hf2⟩
  · rw [if_neg w]
    exact stv_ext _ _ _ _ _ _ _ _ _ h5 (Int.le_refl _) (Int.le_refl _) (Int.le_refl _) (Int.le_refl _) (fun _ _ => ⟨rfl, rfl⟩) (fun _ _ => ⟨rfl, rfl⟩) (fun j hj => hf j (by omega)) (fun _ _ => ⟨rfl, rfl⟩) (fun _ _ => rfl)
  · rw [if_pos w]
    exact stv_mkF _ K.length hf1 (fun j a b => hf2 j a (by omega)) K _ _ _ _ (Nat.le_refl _) h5
/-- no choice is left -/
theorem bkx_none (h : BKX m c0 la lf ra rf sf bnd trl cof T I R L S n) (hS : S ≤ 0) : RUN m c0 (DNc 0 [] zB n) := by
  obtain ⟨K, h1, h2, _⟩ := h
  cases K with
  | nil => exact run_st h1 mst_none
  | cons t K => rw [List.length_cons] at h2; omega
/-- all is freed up to the latest choice -/
theorem bkx_free {j : Nat} {M : Int} (h : BKX m c0 la lf ra rf sf bnd trl cof T I R L S n) (hj : (j : Int) + 1 = S) (eM : M = sTM (sf j)) (hc : TRC T trl bnd) (hb : BTR T trl bnd) (hz : BHZ bnd) (hr : Rg 0 255 trl) (u : UNE M T trl bnd bnd') (hz' : BHZ bnd') : BKT m c0 la lf ra rf sf bnd' trl cof j n := by
  obtain ⟨K, h1, h2, h3⟩ := h
  cases K with
  | nil => exact absurd h2 (by rw [List.length_nil]; omega)
  | cons t K =>
    rw [List.length_cons] at h2
    have e : K.length = j := by omega
    subst e
    obtain ⟨k1, k2, k3, k4, kc, k6⟩ := h3
    subst eM
    have ke := une_keep hc hr k1.2 u
    have sv : STV la lf ra rf sf bnd' trl cof (sTM (sf K.length)) (sIM (sf K.length)) (sRM (sf K.length)) (sLM (sf K.length)) (t :: K) := by
      have sv0 : STV la lf ra rf sf bnd trl cof (sTM (sf K.length)) (sIM (sf K.length)) (sRM (sf K.length)) (sLM (sf K.length)) (t :: K) := ⟨⟨k1.1, Int.le_refl _⟩, ⟨k2.1, Int.le_refl _⟩, ⟨k3.1, Int.le_refl _⟩, ⟨k4.1, Int.le_refl _⟩, kc, k6⟩
      exact stv_ext _ _ _ _ _ _ _ _ _ sv0 (Int.le_refl _) (Int.le_refl _) (Int.le_refl _) (Int.le_refl _) (fun _ _ => ⟨rfl, rfl⟩) (fun _ _ => ⟨rfl, rfl⟩) (fun _ _ => rfl) ke (fun _ _ => rfl)
    refine ⟨t, K, h1, rfl, sv, ?_⟩
    have q1 : TRB bnd' trl (sTM (sf K.length)) t.2.2.2.2.2.2.2.2.1 := sv.2.2.2.2.1.2.2.2.2.2.2.1
    exact trb_un q1 (trb_full (btr_und hb u) hz')
/-- a choice has no way more -/
theorem bkt_bkx {j : Nat} {S' : Int} (h : ∃ K : List CHT, RUN m c0 (BKc K n) ∧ K.length = j ∧ STV la lf ra rf sf bnd trl cof T I R L K) (e : S' = (j : Int)) : BKX m c0 la lf ra rf sf bnd trl cof T I R L S' n := by
  obtain ⟨K, h1, h2, h3⟩ := h
  exact ⟨K, h1, by omega, h3⟩
theorem bkt_fixed {j : Nat} {S' : Int} (h : BKT m c0 la lf ra rf sf bnd trl cof j n) (hx : (sf j).2.2.2.2.2.2.2.1.toInt = 1) (e : S' = (j : Int)) : BKX m c0 la lf ra rf sf bnd trl cof (sTM (sf j)) (sIM (sf j)) (sRM (sf j)) (sLM (sf j)) S' n := by
  obtain ⟨t, K, h1, h2, h3, h4⟩ := h
  subst h2
  obtain ⟨k1, k2, k3, k4, kc, k6⟩ := h3
  exact ⟨K, run_st h1 (mst_fixed (kc.2.2.2.2.2.1.mp hx)), e.symm, k6⟩
end CL2
