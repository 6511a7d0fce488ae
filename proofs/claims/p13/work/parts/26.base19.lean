/-! the reading as a function of the tape: places, tokens, parts, literals, clauses -/
abbrev PR : Type := Int × Int × Int × (Int → Int)
section TK
variable (G : Int → Int) (n : Int)
def skf : Nat → Int → Int
  | 0, a => a
  | f + 1, a => if a < n ∧ (G a = 32 ∨ G a = 10) then skf f (a + 1) else a
def lef : Nat → Int → Int
  | 0, a => a
  | f + 1, a => if a < n ∧ ((97 ≤ G a ∧ G a ≤ 122) ∨ (65 ≤ G a ∧ G a ≤ 90)) then lef f (a + 1) else a
def gcf : Nat → Int → Int
  | 0, _ => 0
  | f + 1, a => if a < n ∧ ((97 ≤ G a ∧ G a ≤ 122) ∨ (65 ≤ G a ∧ G a ≤ 90)) then (if (97 ≤ G a ∧ G a ≤ 122) then 0 else 1) + gcf f (a + 1) else 0
def tkS (a : Int) : Int := skf G n 600 a
def tkE (a : Int) : Int := lef G n 600 a
def tkG (a : Int) : Int := gcf G n 600 a
def tkT (a : Int) : Int := if a < n then (if ((97 ≤ G a ∧ G a ≤ 122) ∨ (65 ≤ G a ∧ G a ≤ 90)) then (if tkG G n a = 0 ∧ tkE G n a - a ≤ 8 then 256 else if tkG G n a = 1 ∧ tkE G n a - a = 1 then 257 else 258) else G a) else -1
def tkX (a : Int) : Int := if ((97 ≤ G a ∧ G a ≤ 122) ∨ (65 ≤ G a ∧ G a ≤ 90)) then tkE G n a else a + 1
def tkN (a : Int) : Int := tkS G n (tkX G n a)
noncomputable def pVar (p nv : Int) (vf : Int → Int) : PR := @ite _ (∃ k : Int, 0 ≤ k ∧ k < nv ∧ vf k = G p) (Classical.propDecidable _) (0, tkN G n p, nv, vf) (if nv = 8 then (2, p, nv, vf) else (0, tkN G n p, nv + 1, fun k => if k = nv then G p else vf k))
def pBind (x : PR) (f : Int → Int → (Int → Int) → PR) : PR := if x.1 = 0 then f x.2.1 x.2.2.1 x.2.2.2 else x
noncomputable def pTm (P : Int → Int → (Int → Int) → PR) (p nv : Int) (vf : Int → Int) : PR := if tkT G n p = 257 then pVar G n p nv vf else if tkT G n p = 256 then P (tkN G n p) nv vf else (1, p, nv, vf)
def pCl (q nv : Int) (vf : Int → Int) : PR := if tkT G n q = 41 then (0, tkN G n q, nv, vf) else (1, q, nv, vf)
noncomputable def pLo (P : Int → Int → (Int → Int) → PR) : Nat → Int → Int → (Int → Int) → PR
  | 0, q, nv, vf => (if tkT G n (tkN G n q) = 256 ∨ tkT G n (tkN G n q) = 257 then 2 else 1, tkN G n q, nv, vf)
  | r + 1, q, nv, vf => pBind (pTm G n P (tkN G n q) nv vf) (fun q1 nv1 vf1 => if tkT G n q1 = 44 then pLo P r q1 nv1 vf1 else pCl G n q1 nv1 vf1)
noncomputable def pPs : Nat → Int → Int → (Int → Int) → PR
  | 0, q, nv, vf => if tkT G n q = 40 then (2, q, nv, vf) else (0, q, nv, vf)
  | d + 1, q, nv, vf => if tkT G n q = 40 then pLo G n (pPs d) 3 q nv vf else (0, q, nv, vf)
noncomputable def pLit (k p nv : Int) (vf : Int → Int) : PR := if (tkT G n p = 45 ∨ tkT G n p = 256) then (if k = 6 then (2, p, nv, vf) else if tkT G n p = 45 then (if tkT G n (tkN G n p) = 256 then pPs G n 6 (tkN G n (tkN G n p)) nv vf else (1, tkN G n p, nv, vf)) else pPs G n 6 (tkN G n p) nv vf) else (1, p, nv, vf)
noncomputable def pLs : Nat → Int → Int → (Int → Int) → PR
  | 0, p, nv, vf => pLit G n 6 p nv vf
  | r + 1, p, nv, vf => pBind (pLit G n (5 - r) p nv vf) (fun q nv1 vf1 => if tkT G n q = 124 then pLs r (tkN G n q) nv1 vf1 else if tkT G n q = 46 then (0, tkN G n q, nv1, vf1) else (1, q, nv1, vf1))
noncomputable def pCs : Nat → Int → PR
  | 0, p => if tkT G n p = -1 then (0, p, 16, fun _ => 0) else if (tkT G n p = 45 ∨ tkT G n p = 256) then (2, p, 0, fun _ => 0) else (1, p, 0, fun _ => 0)
  | r + 1, p => if tkT G n p = -1 then (0, p, 15 - r, fun _ => 0) else if (tkT G n p = 45 ∨ tkT G n p = 256) then pBind (pLs G n 6 p 0 (fun _ => 0)) (fun q _ _ => pCs r q) else (1, p, 0, fun _ => 0)
noncomputable def pAll : PR := pCs G n 16 (tkS G n 0)
end TK
section TL
variable {G : Int → Int} {n : Int}
theorem skf_s (f : Nat) (a : Int) : skf G n (f + 1) a = (if a < n ∧ (G a = 32 ∨ G a = 10) then skf G n f (a + 1) else a) := rfl
theorem lef_s (f : Nat) (a : Int) : lef G n (f + 1) a = (if a < n ∧ ((97 ≤ G a ∧ G a ≤ 122) ∨ (65 ≤ G a ∧ G a ≤ 90)) then lef G n f (a + 1) else a) := rfl
theorem gcf_s (f : Nat) (a : Int) : gcf G n (f + 1) a = (if a < n ∧ ((97 ≤ G a ∧ G a ≤ 122) ∨ (65 ≤ G a ∧ G a ≤ 90)) then (if (97 ≤ G a ∧ G a ≤ 122) then 0 else 1) + gcf G n f (a + 1) else 0) := rfl
theorem skf_more (f : Nat) : ∀ a : Int, n - a ≤ f → skf G n (f + 1) a = skf G n f a := by
  induction f with
  | zero =>
    intro a h
    rw [skf_s, if_neg (fun q => by have := q.1; omega)]; rfl
  | succ f ih =>
    intro a h
    rw [skf_s (f + 1) a, skf_s f a]
    by_cases c : a < n ∧ (G a = 32 ∨ G a = 10)
    · rw [if_pos c, if_pos c]; exact ih (a + 1) (by omega)
    · rw [if_neg c, if_neg c]
theorem lef_more (f : Nat) : ∀ a : Int, n - a ≤ f → lef G n (f + 1) a = lef G n f a := by
  induction f with
  | zero =>
    intro a h
    rw [lef_s, if_neg (fun q => by have := q.1; omega)]; rfl
  | succ f ih =>
    intro a h
    rw [lef_s (f + 1) a, lef_s f a]
    by_cases c : a < n ∧ ((97 ≤ G a ∧ G a ≤ 122) ∨ (65 ≤ G a ∧ G a ≤ 90))
    · rw [if_pos c, if_pos c]; exact ih (a + 1) (by omega)
    · rw [if_neg c, if_neg c]
theorem gcf_more (f : Nat) : ∀ a : Int, n - a ≤ f → gcf G n (f + 1) a = gcf G n f a := by
  induction f with
  | zero =>
    intro a h
    rw [gcf_s, if_neg (fun q => by have := q.1; omega)]; rfl
  | succ f ih =>
    intro a h
    rw [gcf_s (f + 1) a, gcf_s f a]
    by_cases c : a < n ∧ ((97 ≤ G a ∧ G a ≤ 122) ∨ (65 ≤ G a ∧ G a ≤ 90))
    · rw [if_pos c, if_pos c, ih (a + 1) (by omega)]
    · rw [if_neg c, if_neg c]
theorem tkS_on {a : Int} (h0 : 0 ≤ a) (hn : n ≤ 600) (h : a < n) (c : G a = 32 ∨ G a = 10) : tkS G n (a + 1) = tkS G n a := by
  have e1 : skf G n 600 (a + 1) = skf G n 599 (a + 1) := skf_more 599 (a + 1) (by omega)
  have e2 : skf G n 600 a = (if a < n ∧ (G a = 32 ∨ G a = 10) then skf G n 599 (a + 1) else a) := skf_s 599 a
  unfold tkS
  rw [e1, e2, if_pos ⟨h, c⟩]
theorem tkS_off {a : Int} (h : ¬ (a < n ∧ (G a = 32 ∨ G a = 10))) : tkS G n a = a := by
  have e2 : skf G n 600 a = (if a < n ∧ (G a = 32 ∨ G a = 10) then skf G n 599 (a + 1) else a) := skf_s 599 a
  unfold tkS
  rw [e2, if_neg h]
theorem tkE_on {a : Int} (h0 : 0 ≤ a) (hn : n ≤ 600) (h : a < n) (c : ((97 ≤ G a ∧ G a ≤ 122) ∨ (65 ≤ G a ∧ G a ≤ 90))) : tkE G n (a + 1) = tkE G n a := by
  have e1 : lef G n 600 (a + 1) = lef G n 599 (a + 1) := lef_more 599 (a + 1) (by omega)
  have e2 : lef G n 600 a = (if a < n ∧ ((97 ≤ G a ∧ G a ≤ 122) ∨ (65 ≤ G a ∧ G a ≤ 90)) then lef G n 599 (a + 1) else a) := lef_s 599 a
  unfold tkE
  rw [e1, e2, if_pos ⟨h, c⟩]
theorem tkE_off {a : Int} (h : ¬ (a < n ∧ ((97 ≤ G a ∧ G a ≤ 122) ∨ (65 ≤ G a ∧ G a ≤ 90)))) : tkE G n a = a := by
  have e2 : lef G n 600 a = (if a < n ∧ ((97 ≤ G a ∧ G a ≤ 122) ∨ (65 ≤ G a ∧ G a ≤ 90)) then lef G n 599 (a + 1) else a) := lef_s 599 a
  unfold tkE
  rw [e2, if_neg h]
theorem tkG_on {a : Int} (h0 : 0 ≤ a) (hn : n ≤ 600) (h : a < n) (c : ((97 ≤ G a ∧ G a ≤ 122) ∨ (65 ≤ G a ∧ G a ≤ 90))) : tkG G n a = (if (97 ≤ G a ∧ G a ≤ 122) then 0 else 1) + tkG G n (a + 1) := by
  have e1 : gcf G n 600 (a + 1) = gcf G n 599 (a + 1) := gcf_more 599 (a + 1) (by omega)
  have e2 : gcf G n 600 a = (if a < n ∧ ((97 ≤ G a ∧ G a ≤ 122) ∨ (65 ≤ G a ∧ G a ≤ 90)) then (if (97 ≤ G a ∧ G a ≤ 122) then 0 else 1) + gcf G n 599 (a + 1) else 0) := gcf_s 599 a
  unfold tkG
  rw [e1, e2, if_pos ⟨h, c⟩]
theorem tkG_off {a : Int} (h : ¬ (a < n ∧ ((97 ≤ G a ∧ G a ≤ 122) ∨ (65 ≤ G a ∧ G a ≤ 90)))) : tkG G n a = 0 := by
  have e2 : gcf G n 600 a = (if a < n ∧ ((97 ≤ G a ∧ G a ≤ 122) ∨ (65 ≤ G a ∧ G a ≤ 90)) then (if (97 ≤ G a ∧ G a ≤ 122) then 0 else 1) + gcf G n 599 (a + 1) else 0) := gcf_s 599 a
  unfold tkG
  rw [e2, if_neg h]
theorem skf_ge (f : Nat) : ∀ a : Int, a ≤ skf G n f a ∧ (a ≤ n → skf G n f a ≤ n) := by
  induction f with
  | zero => intro a; exact ⟨Int.le_refl _, fun h => h⟩
  | succ f ih =>
    intro a
    rw [skf_s]
    by_cases c : a < n ∧ (G a = 32 ∨ G a = 10)
    · rw [if_pos c]
      have i := ih (a + 1)
      exact ⟨by have := i.1; omega, fun _ => i.2 (by have := c.1; omega)⟩
    · rw [if_neg c]; exact ⟨Int.le_refl _, fun h => h⟩
theorem lef_ge (f : Nat) : ∀ a : Int, a ≤ lef G n f a ∧ (a ≤ n → lef G n f a ≤ n) := by
  induction f with
  | zero => intro a; exact ⟨Int.le_refl _, fun h => h⟩
  | succ f ih =>
    intro a
    rw [lef_s]
    by_cases c : a < n ∧ ((97 ≤ G a ∧ G a ≤ 122) ∨ (65 ≤ G a ∧ G a ≤ 90))
    · rw [if_pos c]
      have i := ih (a + 1)
      exact ⟨by have := i.1; omega, fun _ => i.2 (by have := c.1; omega)⟩
    · rw [if_neg c]; exact ⟨Int.le_refl _, fun h => h⟩
theorem gcf_ge (f : Nat) : ∀ a : Int, 0 ≤ gcf G n f a := by
  induction f with
  | zero => intro a; exact Int.le_refl _
  | succ f ih =>
    intro a
    rw [gcf_s]
    have i := ih (a + 1)
    by_cases c : a < n ∧ ((97 ≤ G a ∧ G a ≤ 122) ∨ (65 ≤ G a ∧ G a ≤ 90))
    · rw [if_pos c]
      by_cases d : (97 ≤ G a ∧ G a ≤ 122)
      · rw [if_pos d]; omega
      · rw [if_neg d]; omega
    · rw [if_neg c]; exact Int.le_refl _
/-- where a run of letters ends none stands -/
theorem lef_end (f : Nat) : ∀ a : Int, n - a ≤ f → ¬ (lef G n f a < n ∧ ((97 ≤ G (lef G n f a) ∧ G (lef G n f a) ≤ 122) ∨ (65 ≤ G (lef G n f a) ∧ G (lef G n f a) ≤ 90))) := by
  induction f with
  | zero => intro a h q; have q1 : a < n := q.1; omega
  | succ f ih =>
    intro a h
    rw [lef_s]
    by_cases c : a < n ∧ ((97 ≤ G a ∧ G a ≤ 122) ∨ (65 ≤ G a ∧ G a ≤ 90))
    · rw [if_pos c]; exact ih (a + 1) (by omega)
    · rw [if_neg c]; exact c
theorem tkS_ge (a : Int) : a ≤ tkS G n a := (skf_ge 600 a).1
theorem tkS_le {a : Int} (h : a ≤ n) : tkS G n a ≤ n := (skf_ge 600 a).2 h
theorem tkE_ge (a : Int) : a ≤ tkE G n a := (lef_ge 600 a).1
theorem tkE_le {a : Int} (h : a ≤ n) : tkE G n a ≤ n := (lef_ge 600 a).2 h
theorem tkG_ge (a : Int) : 0 ≤ tkG G n a := gcf_ge 600 a
theorem tkE_gt {a : Int} (h0 : 0 ≤ a) (hn : n ≤ 600) (h : a < n) (c : ((97 ≤ G a ∧ G a ≤ 122) ∨ (65 ≤ G a ∧ G a ≤ 90))) : a + 1 ≤ tkE G n a := by
  rw [← tkE_on h0 hn h c]; exact tkE_ge _
theorem tkX_gt {a : Int} (h0 : 0 ≤ a) (hn : n ≤ 600) (h : a < n) : a + 1 ≤ tkX G n a ∧ tkX G n a ≤ n := by
  unfold tkX
  by_cases c : ((97 ≤ G a ∧ G a ≤ 122) ∨ (65 ≤ G a ∧ G a ≤ 90))
  · rw [if_pos c]; exact ⟨tkE_gt h0 hn h c, tkE_le (by omega)⟩
  · rw [if_neg c]; exact ⟨Int.le_refl _, by omega⟩
theorem tkN_gt {a : Int} (h0 : 0 ≤ a) (hn : n ≤ 600) (h : a < n) : a + 1 ≤ tkN G n a ∧ tkN G n a ≤ n := by
  have x := tkX_gt (G := G) h0 hn h
  have y := tkS_ge (G := G) (n := n) (tkX G n a)
  exact ⟨by unfold tkN; omega, tkS_le x.2⟩
theorem tkT_end {a : Int} (h : n ≤ a) : tkT G n a = -1 := by
  unfold tkT; rw [if_neg (by omega)]
theorem tkT_sign {a : Int} (h : a < n) (c : ¬ ((97 ≤ G a ∧ G a ≤ 122) ∨ (65 ≤ G a ∧ G a ≤ 90))) : tkT G n a = G a := by
  unfold tkT; rw [if_pos h, if_neg c]
theorem tkT_name {a : Int} (h : a < n) (c : ((97 ≤ G a ∧ G a ≤ 122) ∨ (65 ≤ G a ∧ G a ≤ 90))) (g : tkG G n a = 0) (l : tkE G n a - a ≤ 8) : tkT G n a = 256 := by
  unfold tkT; rw [if_pos h, if_pos c, if_pos ⟨g, l⟩]
theorem tkT_var {a : Int} (h : a < n) (c : ((97 ≤ G a ∧ G a ≤ 122) ∨ (65 ≤ G a ∧ G a ≤ 90))) (g : tkG G n a = 1) (l : tkE G n a - a = 1) : tkT G n a = 257 := by
  unfold tkT; rw [if_pos h, if_pos c, if_neg (fun q => by have := q.1; omega), if_pos ⟨g, l⟩]
theorem tkT_bad {a : Int} (h : a < n) (c : ((97 ≤ G a ∧ G a ≤ 122) ∨ (65 ≤ G a ∧ G a ≤ 90))) (g : ¬ (tkG G n a = 0 ∧ tkE G n a - a ≤ 8)) (l : ¬ (tkG G n a = 1 ∧ tkE G n a - a = 1)) : tkT G n a = 258 := by
  unfold tkT; rw [if_pos h, if_pos c, if_neg g, if_neg l]
/-- what a token says of its place -/
theorem tkT_in {a : Int} (h : tkT G n a ≠ -1) : a < n := by
  by_cases c : a < n
  · exact c
  · exact absurd (tkT_end (G := G) (by omega)) h
theorem tkT_let {a : Int} (hG : ∀ k : Int, 0 ≤ G k ∧ G k ≤ 255) (h : 256 ≤ tkT G n a) : a < n ∧ ((97 ≤ G a ∧ G a ≤ 122) ∨ (65 ≤ G a ∧ G a ≤ 90)) := by
  have hb := hG a
  by_cases c : a < n
  · refine ⟨c, ?_⟩
    by_cases d : ((97 ≤ G a ∧ G a ≤ 122) ∨ (65 ≤ G a ∧ G a ≤ 90))
    · exact d
    · have := tkT_sign c d; omega
  · have := tkT_end (G := G) (n := n) (a := a) (by omega); omega
/-- behind letters no letters stand at once -/
theorem tkN_two {a : Int} (hG : ∀ k : Int, 0 ≤ G k ∧ G k ≤ 255) (h0 : 0 ≤ a) (hn : n ≤ 600) (h : 256 ≤ tkT G n a) (g : 256 ≤ tkT G n (tkN G n a)) : a + 2 ≤ tkN G n a := by
  have x := tkT_let hG h
  have y := tkT_let hG g
  have e1 : tkX G n a = tkE G n a := by unfold tkX; rw [if_pos x.2]
  have e2 := lef_end (G := G) (n := n) 600 a (by omega)
  have e3 := tkE_gt h0 hn x.1 x.2
  have e4 := tkS_ge (G := G) (n := n) (tkX G n a)
  have e5 : tkN G n a ≠ tkE G n a := fun q => e2 (by show tkE G n a < n ∧ ((97 ≤ G (tkE G n a) ∧ G (tkE G n a) ≤ 122) ∨ (65 ≤ G (tkE G n a) ∧ G (tkE G n a) ≤ 90)); rw [← q]; exact y)
  have e6 : tkX G n a ≤ tkN G n a := e4
  omega
/-- a small letter among others: what the runs say -/
theorem tkG_sm {a : Int} (h0 : 0 ≤ a) (hn : n ≤ 600) (h : a < n) (c : (97 ≤ G a ∧ G a ≤ 122)) : tkG G n a = tkG G n (a + 1) := by
  rw [tkG_on h0 hn h (Or.inl c), if_pos c]; omega
theorem tkG_gr {a : Int} (h0 : 0 ≤ a) (hn : n ≤ 600) (h : a < n) (c : ((97 ≤ G a ∧ G a ≤ 122) ∨ (65 ≤ G a ∧ G a ≤ 90))) (d : ¬ (97 ≤ G a ∧ G a ≤ 122)) : tkG G n a = 1 + tkG G n (a + 1) := by
  rw [tkG_on h0 hn h c, if_neg d]
theorem pBind_no {x : PR} {f : Int → Int → (Int → Int) → PR} (h : x.1 ≠ 0) : pBind x f = x := by unfold pBind; rw [if_neg h]
theorem pBind_go {x : PR} {f : Int → Int → (Int → Int) → PR} (h : x.1 = 0) : pBind x f = f x.2.1 x.2.2.1 x.2.2.2 := by unfold pBind; rw [if_pos h]
end TL
theorem pLo_z {G : Int → Int} {n : Int} (P : Int → Int → (Int → Int) → PR) (q nv : Int) (vf : Int → Int) : pLo G n P 0 q nv vf = (if tkT G n (tkN G n q) = 256 ∨ tkT G n (tkN G n q) = 257 then 2 else 1, tkN G n q, nv, vf) := rfl
theorem pLo_s {G : Int → Int} {n : Int} (P : Int → Int → (Int → Int) → PR) (r : Nat) (q nv : Int) (vf : Int → Int) : pLo G n P (r + 1) q nv vf = pBind (pTm G n P (tkN G n q) nv vf) (fun q1 nv1 vf1 => if tkT G n q1 = 44 then pLo G n P r q1 nv1 vf1 else pCl G n q1 nv1 vf1) := rfl
theorem pPs_z {G : Int → Int} {n : Int} (q nv : Int) (vf : Int → Int) : pPs G n 0 q nv vf = (if tkT G n q = 40 then (2, q, nv, vf) else (0, q, nv, vf)) := rfl
theorem pPs_s {G : Int → Int} {n : Int} (d : Nat) (q nv : Int) (vf : Int → Int) : pPs G n (d + 1) q nv vf = (if tkT G n q = 40 then pLo G n (pPs G n d) 3 q nv vf else (0, q, nv, vf)) := rfl
theorem pLs_z {G : Int → Int} {n : Int} (p nv : Int) (vf : Int → Int) : pLs G n 0 p nv vf = pLit G n 6 p nv vf := rfl
theorem pLs_s {G : Int → Int} {n : Int} (r : Nat) (p nv : Int) (vf : Int → Int) : pLs G n (r + 1) p nv vf = pBind (pLit G n (5 - r) p nv vf) (fun q nv1 vf1 => if tkT G n q = 124 then pLs G n r (tkN G n q) nv1 vf1 else if tkT G n q = 46 then (0, tkN G n q, nv1, vf1) else (1, q, nv1, vf1)) := rfl
theorem pCs_z {G : Int → Int} {n : Int} (p : Int) : pCs G n 0 p = (if tkT G n p = -1 then (0, p, 16, fun _ => 0) else if (tkT G n p = 45 ∨ tkT G n p = 256) then (2, p, 0, fun _ => 0) else (1, p, 0, fun _ => 0)) := rfl
theorem pCs_s {G : Int → Int} {n : Int} (r : Nat) (p : Int) : pCs G n (r + 1) p = (if tkT G n p = -1 then ((0, p, 15 - (r : Int), fun _ => 0) : PR) else if (tkT G n p = 45 ∨ tkT G n p = 256) then pBind (pLs G n 6 p 0 (fun _ => 0)) (fun q _ _ => pCs G n r q) else (1, p, 0, fun _ => 0)) := rfl
section PLm
variable {G : Int → Int} {n : Int} {P : Int → Int → (Int → Int) → PR} {p q nv k : Int} {vf : Int → Int} {r d : Nat}
theorem pVar_old (h : ∃ j : Int, 0 ≤ j ∧ j < nv ∧ vf j = G p) : pVar G n p nv vf = (0, tkN G n p, nv, vf) := by unfold pVar; rw [if_pos h]
theorem pVar_full (h : ¬ ∃ j : Int, 0 ≤ j ∧ j < nv ∧ vf j = G p) (e : nv = 8) : pVar G n p nv vf = (2, p, nv, vf) := by unfold pVar; rw [if_neg h, if_pos e]
theorem pVar_new (h : ¬ ∃ j : Int, 0 ≤ j ∧ j < nv ∧ vf j = G p) (e : ¬ nv = 8) : pVar G n p nv vf = (0, tkN G n p, nv + 1, fun j => if j = nv then G p else vf j) := by unfold pVar; rw [if_neg h, if_neg e]
theorem pTm_var (h : tkT G n p = 257) : pTm G n P p nv vf = pVar G n p nv vf := by unfold pTm; rw [if_pos h]
theorem pTm_name (h : tkT G n p = 256) : pTm G n P p nv vf = P (tkN G n p) nv vf := by unfold pTm; rw [if_neg (by omega), if_pos h]
theorem pTm_bad (h1 : ¬ tkT G n p = 257) (h2 : ¬ tkT G n p = 256) : pTm G n P p nv vf = (1, p, nv, vf) := by unfold pTm; rw [if_neg h1, if_neg h2]
theorem pLo_bad (h1 : ¬ tkT G n (tkN G n q) = 257) (h2 : ¬ tkT G n (tkN G n q) = 256) : pLo G n P r q nv vf = (1, tkN G n q, nv, vf) := by
  cases r with
  | zero => rw [pLo_z, if_neg (by omega)]
  | succ r => rw [pLo_s, pTm_bad h1 h2, pBind_no (show (1 : Int) ≠ 0 by decide)]
theorem pLo_many (h : tkT G n (tkN G n q) = 256 ∨ tkT G n (tkN G n q) = 257) : pLo G n P 0 q nv vf = (2, tkN G n q, nv, vf) := by rw [pLo_z, if_pos h]
theorem pLo_no (h : (pTm G n P (tkN G n q) nv vf).1 ≠ 0) : pLo G n P (r + 1) q nv vf = pTm G n P (tkN G n q) nv vf := by rw [pLo_s, pBind_no h]
theorem pLo_on (h : (pTm G n P (tkN G n q) nv vf).1 = 0) (c : tkT G n (pTm G n P (tkN G n q) nv vf).2.1 = 44) : pLo G n P (r + 1) q nv vf = pLo G n P r (pTm G n P (tkN G n q) nv vf).2.1 (pTm G n P (tkN G n q) nv vf).2.2.1 (pTm G n P (tkN G n q) nv vf).2.2.2 := by rw [pLo_s, pBind_go h, if_pos c]
theorem pLo_off (h : (pTm G n P (tkN G n q) nv vf).1 = 0) (c : ¬ tkT G n (pTm G n P (tkN G n q) nv vf).2.1 = 44) : pLo G n P (r + 1) q nv vf = pCl G n (pTm G n P (tkN G n q) nv vf).2.1 (pTm G n P (tkN G n q) nv vf).2.2.1 (pTm G n P (tkN G n q) nv vf).2.2.2 := by rw [pLo_s, pBind_go h, if_neg c]
theorem pCl_yes (h : tkT G n q = 41) : pCl G n q nv vf = (0, tkN G n q, nv, vf) := by unfold pCl; rw [if_pos h]
theorem pCl_no (h : ¬ tkT G n q = 41) : pCl G n q nv vf = (1, q, nv, vf) := by unfold pCl; rw [if_neg h]
theorem pPs_none (h : ¬ tkT G n q = 40) : pPs G n d q nv vf = (0, q, nv, vf) := by
  cases d with
  | zero => rw [pPs_z, if_neg h]
  | succ d => rw [pPs_s, if_neg h]
theorem pPs_deep (h : tkT G n q = 40) : pPs G n 0 q nv vf = (2, q, nv, vf) := by rw [pPs_z, if_pos h]
theorem pPs_open (h : tkT G n q = 40) : pPs G n (d + 1) q nv vf = pLo G n (pPs G n d) 3 q nv vf := by rw [pPs_s, if_pos h]
theorem pLit_bad (h : ¬ (tkT G n p = 45 ∨ tkT G n p = 256)) : pLit G n k p nv vf = (1, p, nv, vf) := by unfold pLit; rw [if_neg h]
theorem pLit_many (h : tkT G n p = 45 ∨ tkT G n p = 256) (e : k = 6) : pLit G n k p nv vf = (2, p, nv, vf) := by unfold pLit; rw [if_pos h, if_pos e]
theorem pLit_neg (h : tkT G n p = 45) (e : ¬ k = 6) (c : tkT G n (tkN G n p) = 256) : pLit G n k p nv vf = pPs G n 6 (tkN G n (tkN G n p)) nv vf := by unfold pLit; rw [if_pos (Or.inl h), if_neg e, if_pos h, if_pos c]
theorem pLit_ng1 (h : tkT G n p = 45) (e : ¬ k = 6) (c : ¬ tkT G n (tkN G n p) = 256) : pLit G n k p nv vf = (1, tkN G n p, nv, vf) := by unfold pLit; rw [if_pos (Or.inl h), if_neg e, if_pos h, if_neg c]
theorem pLit_pos (h : tkT G n p = 256) (e : ¬ k = 6) : pLit G n k p nv vf = pPs G n 6 (tkN G n p) nv vf := by unfold pLit; rw [if_pos (Or.inr h), if_neg e, if_neg (by omega)]
theorem pLs_no (h : (pLit G n (5 - r) p nv vf).1 ≠ 0) : pLs G n (r + 1) p nv vf = pLit G n (5 - r) p nv vf := by rw [pLs_s, pBind_no h]
theorem pLs_on (h : (pLit G n (5 - r) p nv vf).1 = 0) (c : tkT G n (pLit G n (5 - r) p nv vf).2.1 = 124) : pLs G n (r + 1) p nv vf = pLs G n r (tkN G n (pLit G n (5 - r) p nv vf).2.1) (pLit G n (5 - r) p nv vf).2.2.1 (pLit G n (5 - r) p nv vf).2.2.2 := by rw [pLs_s, pBind_go h, if_pos c]
theorem pLs_dot (h : (pLit G n (5 - r) p nv vf).1 = 0) (c : tkT G n (pLit G n (5 - r) p nv vf).2.1 = 46) : pLs G n (r + 1) p nv vf = (0, tkN G n (pLit G n (5 - r) p nv vf).2.1, (pLit G n (5 - r) p nv vf).2.2.1, (pLit G n (5 - r) p nv vf).2.2.2) := by rw [pLs_s, pBind_go h, if_neg (by omega), if_pos c]
theorem pLs_bad (h : (pLit G n (5 - r) p nv vf).1 = 0) (c : ¬ tkT G n (pLit G n (5 - r) p nv vf).2.1 = 124) (c2 : ¬ tkT G n (pLit G n (5 - r) p nv vf).2.1 = 46) : pLs G n (r + 1) p nv vf = (1, (pLit G n (5 - r) p nv vf).2.1, (pLit G n (5 - r) p nv vf).2.2.1, (pLit G n (5 - r) p nv vf).2.2.2) := by rw [pLs_s, pBind_go h, if_neg c, if_neg c2]
theorem pLit_six (e : k = 6) : (pLit G n k p nv vf).1 ≠ 0 := by
  by_cases h : tkT G n p = 45 ∨ tkT G n p = 256
  · rw [pLit_many h e]; show (2 : Int) ≠ 0; decide
  · rw [pLit_bad h]; show (1 : Int) ≠ 0; decide
end PLm
theorem tkX_let {G : Int → Int} {n a : Int} (c : (97 ≤ G a ∧ G a ≤ 122) ∨ (65 ≤ G a ∧ G a ≤ 90)) : tkX G n a = tkE G n a := by unfold tkX; rw [if_pos c]
theorem tkX_sign {G : Int → Int} {n a : Int} (c : ¬ ((97 ≤ G a ∧ G a ≤ 122) ∨ (65 ≤ G a ∧ G a ≤ 90))) : tkX G n a = a + 1 := by unfold tkX; rw [if_neg c]
def BYT (G : Int → Int) (n : Int) (f : Nat → Int32) : Prop := (∀ k : Int, 0 ≤ G k ∧ G k ≤ 255) ∧ ∀ i : Int32, 0 ≤ i.toInt → i.toInt < n → (f (Int32.toNatClampNeg i)).toInt = G i.toInt
def VFC (nv : Int) (vf : Int → Int) (k : Nat → Int32) (m : Nat → Int64) (P : Int) : Prop := ∀ i : Int32, 0 ≤ i.toInt → i.toInt < nv → (m (Int32.toNatClampNeg (k (Int32.toNatClampNeg i)))).toInt = vf i.toInt ∧ 0 ≤ (k (Int32.toNatClampNeg i)).toInt ∧ (k (Int32.toNatClampNeg i)).toInt < P
theorem vfc_zero {vf : Int → Int} {k : Nat → Int32} {m : Nat → Int64} {P nv : Int} (h : nv = 0) : VFC nv vf k m P := fun i h1 h2 => absurd h2 (by omega)
theorem clamp_ne {i j : Int32} (h1 : 0 ≤ i.toInt) (h2 : 0 ≤ j.toInt) (h : i.toInt ≠ j.toInt) : Int32.toNatClampNeg i ≠ Int32.toNatClampNeg j := fun e => h (by
  have a := clamp_toInt h1
  have b := clamp_toInt h2
  omega)
theorem vfc_nam {nv nv' P P' : Int} {vf : Int → Int} {k : Nat → Int32} {m m' : Nat → Int64} {x : Int32} {y : Int64} (h : VFC nv vf k m P) (hx : x.toInt = P) (h0 : 0 ≤ P) (hm : m' = vp_updL m (Int32.toNatClampNeg x) y) (hP : P ≤ P') (hn : nv' = nv) : VFC nv' vf k m' P' := fun i h1 h2 => by
  obtain ⟨a, b, c⟩ := h i h1 (by omega)
  refine ⟨?_, b, by omega⟩
  rw [hm, pk_uLn (clamp_ne b (by omega) (by omega))]
  exact a
theorem vfc_add {nv nv' P P' c : Int} {vf : Int → Int} {k k' : Nat → Int32} {m m' : Nat → Int64} {v x : Int32} {y : Int64} (h : VFC nv vf k m P) (hv : v.toInt = nv) (h8 : 0 ≤ nv) (hx : x.toInt = P) (h0 : 0 ≤ P) (hm : m' = vp_updL m (Int32.toNatClampNeg x) y) (hy : y.toInt = c) (hk : k' = upd k (Int32.toNatClampNeg v) x) (hP : P' = P + 1) (hn : nv' = nv + 1) : VFC nv' (fun j => if j = nv then c else vf j) k' m' P' := fun i h1 h2 => by
  by_cases e : i.toInt = nv
  · have e2 : i = v := Int32.toInt_inj.mp (by omega)
    subst e2
    rw [hk, pk_us, hm, pk_uLs]
    refine ⟨?_, by omega, by omega⟩
    show y.toInt = (if i.toInt = nv then c else vf i.toInt)
    rw [if_pos e]; exact hy
  · obtain ⟨a, b, d⟩ := h i h1 (by omega)
    rw [hk, pk_un (clamp_ne h1 (by omega) (by omega)), hm, pk_uLn (clamp_ne b (by omega) (by omega))]
    refine ⟨?_, b, by omega⟩
    show _ = (if i.toInt = nv then c else vf i.toInt)
    rw [if_neg e]; exact a
theorem nf_step {vf : Int → Int} {a b c : Int} (h : ∀ j : Int, 0 ≤ j → j < a → ¬ vf j = c) (g : ¬ vf a = c) (e : b = a + 1) : ∀ j : Int, 0 ≤ j → j < b → ¬ vf j = c := fun j h1 h2 h3 => by
  by_cases q : j < a
  · exact h j h1 q h3
  · have e2 : j = a := by omega
    rw [e2] at h3; exact g h3
theorem lg_cmp0 {x y : Int64} : (lg_cmp x y).toInt = 0 ↔ x.toInt = y.toInt := by
  unfold lg_cmp
  by_cases h1 : y < x
  · have := Int64.lt_iff_toInt_lt.mp h1
    rw [if_pos h1]
    exact ⟨fun q => absurd q (by decide), fun q => by omega⟩
  · by_cases h2 : x = y
    · subst h2; rw [if_neg h1]; simp
    · have h3 : x.toInt ≠ y.toInt := fun q => h2 (Int64.toInt_inj.mp q)
      rw [if_neg h1]; simp [h2, h3]
theorem nx_two {G : Int → Int} {n a a' t t' : Int} (hG : ∀ k : Int, 0 ≤ G k ∧ G k ≤ 255) (h0 : 0 ≤ a) (hn : n ≤ 600) (ht : t = tkT G n a) (h : 256 ≤ t) (ha : a' = tkN G n a) (ht' : t' = tkT G n a') : t' < 256 ∨ a + 2 ≤ a' := by
  by_cases q : 256 ≤ t'
  · right; rw [ha]; exact tkN_two hG h0 hn (by omega) (by rw [← ha]; omega)
  · left; omega
section PC
variable {G : Int → Int} {n : Int} {p nv k c : Int} {vf : Int → Int} {r : Nat}
noncomputable def pCla (G : Int → Int) (n c p : Int) : PR := if tkT G n p = 45 ∨ tkT G n p = 256 then (if c = 16 then (2, p, 0, fun _ => 0) else pLs G n 6 p 0 (fun _ => 0)) else (1, p, 0, fun _ => 0)
theorem pCla_bad (h : ¬ (tkT G n p = 45 ∨ tkT G n p = 256)) : pCla G n c p = (1, p, 0, fun _ => 0) := by unfold pCla; rw [if_neg h]
theorem pCla_many (h : tkT G n p = 45 ∨ tkT G n p = 256) (e : c = 16) : pCla G n c p = (2, p, 0, fun _ => 0) := by unfold pCla; rw [if_pos h, if_pos e]
theorem pCla_go (h : tkT G n p = 45 ∨ tkT G n p = 256) (e : ¬ c = 16) : pCla G n c p = pLs G n 6 p 0 (fun _ => 0) := by unfold pCla; rw [if_pos h, if_neg e]
theorem pLs_stop (hk : k = 6 - (r : Int)) (h : (pLit G n k p nv vf).1 ≠ 0) : pLs G n r p nv vf = pLit G n k p nv vf := by
  cases r with
  | zero =>
    have e : k = 6 := by simpa using hk
    subst e; rw [pLs_z]
  | succ r =>
    have e : k = 5 - (r : Int) := by omega
    subst e; exact pLs_no h
theorem pLs_next (hk : k = 6 - (r : Int)) (h : (pLit G n k p nv vf).1 = 0) : ∃ r' : Nat, r = r' + 1 ∧ k = 5 - (r' : Int) := by
  cases r with
  | zero =>
    have e : k = 6 := by simpa using hk
    exact absurd h (pLit_six e)
  | succ r => exact ⟨r, rfl, by omega⟩
theorem pCs_end (h : tkT G n p = -1) : pCs G n r p = (0, p, 16 - (r : Int), fun _ => 0) := by
  cases r with
  | zero => rw [pCs_z, if_pos h]; rfl
  | succ r =>
    rw [pCs_s, if_pos h]
    have e : (15 : Int) - (r : Int) = 16 - ((r + 1 : Nat) : Int) := by omega
    rw [e]
theorem pCs_stop (h : ¬ tkT G n p = -1) (hc : c = 16 - (r : Int)) (g : (pCla G n c p).1 ≠ 0) : (pCs G n r p).1 = (pCla G n c p).1 ∧ (pCs G n r p).2.1 = (pCla G n c p).2.1 := by
  cases r with
  | zero =>
    have e : c = 16 := by simpa using hc
    rw [pCs_z, if_neg h]
    by_cases s : tkT G n p = 45 ∨ tkT G n p = 256
    · rw [if_pos s, pCla_many s e]; exact ⟨rfl, rfl⟩
    · rw [if_neg s, pCla_bad s]; exact ⟨rfl, rfl⟩
  | succ r =>
    have e : ¬ c = 16 := by omega
    rw [pCs_s, if_neg h]
    by_cases s : tkT G n p = 45 ∨ tkT G n p = 256
    · rw [if_pos s]
      rw [pCla_go s e] at g ⊢
      rw [pBind_no g]; exact ⟨rfl, rfl⟩
    · rw [if_neg s, pCla_bad s]; exact ⟨rfl, rfl⟩
theorem pCs_next (h : ¬ tkT G n p = -1) (hc : c = 16 - (r : Int)) (g : (pCla G n c p).1 = 0) : ∃ r' : Nat, r = r' + 1 ∧ pCs G n r p = pCs G n r' (pCla G n c p).2.1 := by
  cases r with
  | zero =>
    have e : c = 16 := by simpa using hc
    by_cases s : tkT G n p = 45 ∨ tkT G n p = 256
    · rw [pCla_many s e] at g; exact absurd g (show ¬ (2 : Int) = 0 by decide)
    · rw [pCla_bad s] at g; exact absurd g (show ¬ (1 : Int) = 0 by decide)
  | succ r =>
    have e : ¬ c = 16 := by omega
    by_cases s : tkT G n p = 45 ∨ tkT G n p = 256
    · refine ⟨r, rfl, ?_⟩
      rw [pCs_s, if_neg h, if_pos s]
      rw [pCla_go s e] at g ⊢
      rw [pBind_go g]
    · rw [pCla_bad s] at g; exact absurd g (show ¬ (1 : Int) = 0 by decide)
/-- where the reading stands between two clauses -/
def RDI (G : Int → Int) (n fault place at_ : Int) (r : Nat) : Prop := (fault = 0 ∧ place = -1 ∧ pCs G n r at_ = pAll G n) ∨ (¬ fault = 0 ∧ (pAll G n).1 = fault ∧ (pAll G n).2.1 = place)
/-- what a reading told -/
def RDE (G : Int → Int) (n fault place clauses : Int) : Prop := (fault = 0 ∧ place = -1 ∧ (pAll G n).1 = 0 ∧ (pAll G n).2.2.1 = clauses) ∨ (¬ fault = 0 ∧ (pAll G n).1 = fault ∧ (pAll G n).2.1 = place)
theorem rdi_end {fault place at_ clauses : Int} (h : RDI G n fault place at_ r) (t : ¬ fault = 0 ∨ tkT G n at_ = -1) (hc : clauses = 16 - (r : Int)) : RDE G n fault place clauses := by
  rcases h with ⟨a, b, d⟩ | ⟨a, b, d⟩
  · left
    have t2 := t.resolve_left (fun q => q a)
    rw [pCs_end t2] at d
    refine ⟨a, b, ?_, ?_⟩
    · rw [← d]
    · rw [← d]; exact hc.symm
  · exact Or.inr ⟨a, b, d⟩
end PC
theorem rdi_step {G : Int → Int} {n f p a c f' p' a' c' : Int} {r : Nat} (h : RDI G n f p a r) (h0 : f = 0) (t : ¬ tkT G n a = -1) (hc : c = 16 - (r : Int)) (hf : f' = (pCla G n c a).1) (ha : a' = (pCla G n c a).2.1) (hp : (f' = 0 ∧ p' = p) ∨ (¬ f' = 0 ∧ p' = a')) (hq : (f' = 0 ∧ c' = c + 1) ∨ (¬ f' = 0 ∧ c' = c)) : ∃ y : Nat, (y : Int) = 16 - c' ∧ RDI G n f' p' a' y := by
  rcases h with ⟨h1, h2, h3⟩ | ⟨h1, h2, h3⟩
  · by_cases g : f' = 0
    · obtain ⟨r', e, q⟩ := pCs_next t hc (by rw [← hf]; exact g)
      refine ⟨r', by omega, Or.inl ⟨g, by omega, ?_⟩⟩
      rw [ha, ← q]; exact h3
    · obtain ⟨e1, e2⟩ := pCs_stop t hc (by rw [← hf]; exact g)
      refine ⟨r, by omega, Or.inr ⟨g, ?_, ?_⟩⟩
      · rw [← h3, e1, hf]
      · rw [← h3, e2, ← ha]; omega
  · exact absurd h0 h1
/-! the reference's words for the same -/
def TAP (G : Int → Int) (n : Int) (f : Nat → Int32) : Prop := (∀ k : Int, 0 ≤ G k ∧ G k ≤ 255) ∧ ∀ i : Int32, 0 ≤ i.toInt → i.toInt < n → (f (Int32.toNatClampNeg i) &&& 255).toInt = G i.toInt
def sG (G : Int → Int) (n p : Int) : Int := if p < n then G p else -1
theorem sG_yes {G : Int → Int} {n p : Int} (h : p < n) : sG G n p = G p := if_pos h
theorem sG_no {G : Int → Int} {n p : Int} (h : ¬ p < n) : sG G n p = -1 := if_neg h
theorem sG_or (G : Int → Int) (n p : Int) : (p < n ∧ sG G n p = G p) ∨ (n ≤ p ∧ sG G n p = -1) := by
  by_cases h : p < n
  · exact Or.inl ⟨h, sG_yes h⟩
  · exact Or.inr ⟨by omega, sG_no h⟩
def kd (t : Int) : Int := if t = -1 then 0 else if t = 256 then 1 else if t = 257 then 2 else if t = 258 then 4 else 3
theorem kd_or (t : Int) : (t = -1 ∧ kd t = 0) ∨ (t = 256 ∧ kd t = 1) ∨ (t = 257 ∧ kd t = 2) ∨ (t = 258 ∧ kd t = 4) ∨ (¬ t = -1 ∧ ¬ t = 256 ∧ ¬ t = 257 ∧ ¬ t = 258 ∧ kd t = 3) := by
  unfold kd
  by_cases h1 : t = -1
  · exact Or.inl ⟨h1, if_pos h1⟩
  rw [if_neg h1]
  by_cases h2 : t = 256
  · exact Or.inr (Or.inl ⟨h2, if_pos h2⟩)
  rw [if_neg h2]
  by_cases h3 : t = 257
  · exact Or.inr (Or.inr (Or.inl ⟨h3, if_pos h3⟩))
  rw [if_neg h3]
  by_cases h4 : t = 258
  · exact Or.inr (Or.inr (Or.inr (Or.inl ⟨h4, if_pos h4⟩)))
  rw [if_neg h4]
  exact Or.inr (Or.inr (Or.inr (Or.inr ⟨h1, h2, h3, h4, rfl⟩)))
theorem kd_sign {t : Int} (h : 0 ≤ t ∧ t ≤ 255) : kd t = 3 := by
  have := kd_or t
  omega
theorem tk_or {G : Int → Int} (hG : ∀ k : Int, 0 ≤ G k ∧ G k ≤ 255) (n p : Int) : (kd (tkT G n p) = 3 ∧ tkT G n p = G p ∧ p < n) ∨ (¬ kd (tkT G n p) = 3 ∧ (tkT G n p = -1 ∨ 256 ≤ tkT G n p)) := by
  have hg := hG p
  have hk := kd_or (tkT G n p)
  by_cases h : p < n
  · by_cases c : (97 ≤ G p ∧ G p ≤ 122) ∨ (65 ≤ G p ∧ G p ≤ 90)
    · right
      have e : tkT G n p = 256 ∨ tkT G n p = 257 ∨ tkT G n p = 258 := by
        unfold tkT; rw [if_pos h, if_pos c]
        split
        · exact Or.inl rfl
        · split
          · exact Or.inr (Or.inl rfl)
          · exact Or.inr (Or.inr rfl)
      omega
    · left
      have e := tkT_sign h c
      omega
  · right
    have e := tkT_end (G := G) (n := n) (a := p) (by omega)
    omega
theorem tkG_step {G : Int → Int} {n a : Int} (h0 : 0 ≤ a) (hn : n ≤ 600) (h : a < n) (c : (97 ≤ G a ∧ G a ≤ 122) ∨ (65 ≤ G a ∧ G a ≤ 90)) : tkG G n a = tkG G n (a + 1) ∨ tkG G n a = 1 + tkG G n (a + 1) := by
  by_cases d : 97 ≤ G a ∧ G a ≤ 122
  · exact Or.inl (tkG_sm h0 hn h d)
  · exact Or.inr (tkG_gr h0 hn h c d)
def VFM (nv : Int) (vf : Int → Int) (f : Nat → Int32) (rd : Int) : Prop := ∀ i : Int32, 8 * rd ≤ i.toInt → i.toInt < 8 * rd + nv → (f (Int32.toNatClampNeg i)).toInt = vf (i.toInt - 8 * rd)
theorem vfm_zero {vf : Int → Int} {f : Nat → Int32} {rd nv : Int} (h : nv = 0) : VFM nv vf f rd := fun i h1 h2 => absurd h2 (by omega)
theorem vfm_add {nv nv' c rd : Int} {vf : Int → Int} {f f' : Nat → Int32} {i x : Int32} (h : VFM nv vf f rd) (h0 : 0 ≤ rd) (h8 : 0 ≤ nv) (hi : i.toInt = 8 * rd + nv) (hx : x.toInt = c) (hf : f' = upd f (Int32.toNatClampNeg i) x) (hn : nv' = nv + 1) : VFM nv' (fun j => if j = nv then c else vf j) f' rd := fun j h1 h2 => by
  by_cases e : j.toInt = i.toInt
  · have e2 : j = i := Int32.toInt_inj.mp e
    subst e2
    rw [hf, pk_us]
    show x.toInt = (if j.toInt - 8 * rd = nv then c else vf (j.toInt - 8 * rd))
    rw [if_pos (by omega)]; exact hx
  · rw [hf, pk_un (clamp_ne (by omega) (by omega) e)]
    show _ = (if j.toInt - 8 * rd = nv then c else vf (j.toInt - 8 * rd))
    rw [if_neg (by omega)]; exact h j h1 (by omega)
/-- what clauses() told and left -/
def CLQ (G : Int → Int) (n f p c c0 r : Int) : Prop := (f = 0 ∧ p = -1 ∧ (pAll G n).1 = 0 ∧ c = (pAll G n).2.2.1 ∧ r = c) ∨ (¬ f = 0 ∧ (pAll G n).1 = f ∧ (pAll G n).2.1 = p ∧ c = c0 ∧ r = -1)
theorem clq_bad {G : Int → Int} {n f p c' c c0 r : Int} (h : RDE G n f p c') (hf : ¬ f = 0) (hc : c = c0) (hr : r = -1) : CLQ G n f p c c0 r := by
  rcases h with ⟨a, -⟩ | ⟨a, b, d⟩
  · exact absurd a hf
  · exact Or.inr ⟨a, b, d, hc, hr⟩
theorem clq_ok {G : Int → Int} {n f1 p1 c1 f p c c0 r : Int} (h : RDE G n f1 p1 c1) (hf : f1 = 0) (g : RDE G n f p c) (hr : r = c) : CLQ G n f p c c0 r := by
  rcases h with ⟨-, -, e, -⟩ | ⟨a, -⟩
  · rcases g with ⟨a, b, d, q⟩ | ⟨a, b, d⟩
    · exact Or.inl ⟨a, b, d, q.symm, hr⟩
    · exact absurd (b.symm.trans e) a
  · exact absurd hf a
/-- two that read the same tell the same -/
theorem clq_two {G : Int → Int} {n f p c c0 r f' p' c' c0' r' : Int} (h : CLQ G n f p c c0 r) (g : CLQ G n f' p' c' c0' r') (e : c0 = c0') : f = f' ∧ p = p' ∧ c = c' ∧ r = r' := by
  rcases h with ⟨a, b, d, q, s⟩ | ⟨a, b, d, q, s⟩
  · rcases g with ⟨a', b', d', q', s'⟩ | ⟨a', b', d', q', s'⟩
    · exact ⟨by omega, by omega, by omega, by omega⟩
    · exact absurd (b'.symm.trans d) a'
  · rcases g with ⟨a', b', d', q', s'⟩ | ⟨a', b', d', q', s'⟩
    · exact absurd (b.symm.trans d') a
    · exact ⟨by omega, by omega, by omega, by omega⟩
/-- behind a literal that was read -/
noncomputable def pAf (G : Int → Int) (n : Int) (r : Nat) (q nv : Int) (vf : Int → Int) : PR := if tkT G n q = 124 then pLs G n r (tkN G n q) nv vf else if tkT G n q = 46 then (0, tkN G n q, nv, vf) else (1, q, nv, vf)
section AF
variable {G : Int → Int} {n : Int} {p q nv k : Int} {vf : Int → Int} {r : Nat}
theorem pAf_on (h : tkT G n q = 124) : pAf G n r q nv vf = pLs G n r (tkN G n q) nv vf := by unfold pAf; rw [if_pos h]
theorem pAf_dot (h : tkT G n q = 46) : pAf G n r q nv vf = (0, tkN G n q, nv, vf) := by unfold pAf; rw [if_neg (by omega), if_pos h]
theorem pAf_bad (h : ¬ tkT G n q = 124) (g : ¬ tkT G n q = 46) : pAf G n r q nv vf = (1, q, nv, vf) := by unfold pAf; rw [if_neg h, if_neg g]
theorem pLs_af (h : (pLit G n (5 - r) p nv vf).1 = 0) : pLs G n (r + 1) p nv vf = pAf G n r (pLit G n (5 - r) p nv vf).2.1 (pLit G n (5 - r) p nv vf).2.2.1 (pLit G n (5 - r) p nv vf).2.2.2 := by rw [pLs_s, pBind_go h, pAf]
end AF
/-- where the reference stands behind a literal -/
def LCI (G : Int → Int) (n isF fault fplace place : Int) (r : Nat) (nv : Int) (vf : Int → Int) (R : PR) : Prop := (isF = 0 ∧ pAf G n r place nv vf = R) ∨ (isF = 1 ∧ ¬ R.1 = 0 ∧ R.1 = fault ∧ R.2.1 = fplace ∧ R.2.1 = place)
theorem lci_step {G : Int → Int} {n k p nv isF fault fplace place f0 p0 : Int} {vf : Int → Int} {r : Nat} {R L : PR} (h : pLs G n r p nv vf = R) (hk : k = 6 - (r : Int)) (hL : L = pLit G n k p nv vf) (hq : (isF = 0 ∧ L.1 = 0 ∧ fault = f0 ∧ fplace = p0) ∨ (isF = 1 ∧ ¬ L.1 = 0 ∧ fault = L.1 ∧ fplace = L.2.1)) (hp : place = L.2.1) : ∃ y : Nat, (isF = 1 ∨ k + 1 = 6 - (y : Int)) ∧ LCI G n isF fault fplace place y L.2.2.1 L.2.2.2 R := by
  rcases hq with ⟨a, b, c, d⟩ | ⟨a, b, c, d⟩
  · obtain ⟨r', e1, e2⟩ := pLs_next hk (by rw [← hL]; exact b)
    subst e1
    refine ⟨r', Or.inr (by omega), Or.inl ⟨a, ?_⟩⟩
    rw [← h]
    subst e2
    rw [pLs_af (by rw [← hL]; exact b), ← hL, hp]
  · have e := pLs_stop hk (by rw [← hL]; exact b)
    rw [← hL, h] at e
    refine ⟨r, Or.inl a, Or.inr ⟨a, ?_, ?_, ?_, ?_⟩⟩
    · rw [e]; exact b
    · rw [e]; exact c.symm
    · rw [e]; exact d.symm
    · rw [e]; exact hp.symm
theorem lci_go {G : Int → Int} {n isF fault fplace place nv : Int} {r : Nat} {vf : Int → Int} {R : PR} (h : LCI G n isF fault fplace place r nv vf R) (h0 : isF = 0) : pAf G n r place nv vf = R := by
  rcases h with ⟨a, b⟩ | ⟨a, b⟩
  · exact b
  · exact absurd h0 (by omega)
theorem lci_no {G : Int → Int} {n isF fault fplace place nv : Int} {r : Nat} {vf : Int → Int} {R : PR} (h : LCI G n isF fault fplace place r nv vf R) (h0 : isF = 1) : ¬ R.1 = 0 ∧ R.1 = fault ∧ R.2.1 = fplace ∧ R.2.1 = place := by
  rcases h with ⟨a, b⟩ | ⟨a, b⟩
  · exact absurd h0 (by omega)
  · exact b
theorem rdi_step2 {G : Int → Int} {n f p a c f' p' a' : Int} {r : Nat} (h : RDI G n f p a r) (h0 : f = 0) (t : ¬ tkT G n a = -1) (hc : c = 16 - (r : Int)) (hf : f' = (pCla G n c a).1) (ha : a' = (pCla G n c a).2.1) (hp : (f' = 0 ∧ p' = p) ∨ (¬ f' = 0 ∧ p' = a')) : ∃ y : Nat, (¬ f' = 0 ∨ (y : Int) = 16 - (c + 1)) ∧ RDI G n f' p' a' y := by
  by_cases g : f' = 0
  · obtain ⟨y, e, q⟩ := rdi_step (c' := c + 1) h h0 t hc hf ha hp (Or.inl ⟨g, rfl⟩)
    exact ⟨y, Or.inr e, q⟩
  · obtain ⟨y, e, q⟩ := rdi_step (c' := c) h h0 t hc hf ha hp (Or.inr ⟨g, rfl⟩)
    exact ⟨y, Or.inl g, q⟩
/-! the tape's bytes -/
theorem bp_b (x : Int32) : x.toInt8.toInt32 &&& 255 = x &&& 255 := by
  apply Int32.toBitVec_inj.mp
  rw [Int32.toBitVec_and, Int32.toBitVec_and, Int8.toBitVec_toInt32, Int32.toBitVec_toInt8]
  apply BitVec.eq_of_getLsbD_eq
  intro i hi
  rw [BitVec.getLsbD_and, BitVec.getLsbD_and]
  have hm : ∀ i < 32, 8 ≤ i → (255 : Int32).toBitVec.getLsbD i = false := by decide
  rcases Nat.lt_or_ge i 8 with z | z
  · rw [BitVec.getLsbD_signExtend, BitVec.getLsbD_signExtend, if_pos z, if_pos hi]
    simp only [z, hi, decide_true, Bool.true_and]
  · rw [hm i hi z]; simp
def bAt (w s : Int32) : Int := ((w >>> (s &&& 31)) &&& 255).toInt
def wAt (a b c d e : Int32) (j : Int) : Int32 := if j < 4 then a else if j < 8 then b else if j < 12 then c else if j < 16 then d else e
def TKF (n0 : Int) (w : Int32) (c : Int) (f f' : Nat → Int32) : Prop := (∀ i : Int32, 0 ≤ i.toInt → i.toInt < n0 → f' (Int32.toNatClampNeg i) = f (Int32.toNatClampNeg i)) ∧ (∀ i s : Int32, n0 ≤ i.toInt → i.toInt < n0 + c → s.toInt = 24 - 8 * (i.toInt - n0) → (f' (Int32.toNatClampNeg i)).toInt = bAt w s)
theorem tkf_zero {n0 c : Int} {w : Int32} {f : Nat → Int32} (h : c = 0) : TKF n0 w c f f := ⟨fun _ _ _ => rfl, fun i s h1 h2 _ => absurd h2 (by omega)⟩
theorem tkf_step {n0 c c' : Int} {w i s v : Int32} {f f' f'' : Nat → Int32} (h : TKF n0 w c f f') (h0 : 0 ≤ n0) (hc : 0 ≤ c) (hi : i.toInt = n0 + c) (hs : s.toInt = 24 - 8 * c) (hv : v = (w >>> (s &&& 31)) &&& 255) (hf : f'' = upd f' (Int32.toNatClampNeg i) v) (hc' : c' = c + 1) : TKF n0 w c' f f'' := by
  refine ⟨fun j h1 h2 => ?_, fun j t h1 h2 h3 => ?_⟩
  · rw [hf, pk_un (clamp_ne h1 (by omega) (by omega))]; exact h.1 j h1 h2
  · by_cases e : j.toInt = i.toInt
    · have e2 : j = i := Int32.toInt_inj.mp e
      have e3 : t = s := Int32.toInt_inj.mp (by omega)
      subst e2; subst e3
      rw [hf, pk_us, hv]; rfl
    · rw [hf, pk_un (clamp_ne (by omega) (by omega) e)]; exact h.2 j t h1 (by omega) h3
def FED (n0 : Int) (a b c d e : Int32) (f f' : Nat → Int32) : Prop := (∀ i : Int32, 0 ≤ i.toInt → i.toInt < n0 → f' (Int32.toNatClampNeg i) = f (Int32.toNatClampNeg i)) ∧ (∀ i s : Int32, n0 ≤ i.toInt → i.toInt < n0 + 20 → s.toInt = 24 - 8 * ((i.toInt - n0) % 4) → (f' (Int32.toNatClampNeg i)).toInt = bAt (wAt a b c d e (i.toInt - n0)) s)
theorem fed_five {n0 n1 n2 n3 n4 : Int} {a b c d e : Int32} {f f1 f2 f3 f4 f5 : Nat → Int32} (h1 : TKF n0 a 4 f f1) (h2 : TKF n1 b 4 f1 f2) (h3 : TKF n2 c 4 f2 f3) (h4 : TKF n3 d 4 f3 f4) (h5 : TKF n4 e 4 f4 f5) (e1 : n1 = n0 + 4) (e2 : n2 = n0 + 8) (e3 : n3 = n0 + 12) (e4 : n4 = n0 + 16) (hn : 0 ≤ n0) : FED n0 a b c d e f f5 := by
  refine ⟨fun i g1 g2 => ?_, fun i s g1 g2 g3 => ?_⟩
  · rw [h5.1 i g1 (by omega), h4.1 i g1 (by omega), h3.1 i g1 (by omega), h2.1 i g1 (by omega), h1.1 i g1 g2]
  · unfold wAt
    by_cases c1 : i.toInt - n0 < 4
    · rw [if_pos c1, h5.1 i (by omega) (by omega), h4.1 i (by omega) (by omega), h3.1 i (by omega) (by omega), h2.1 i (by omega) (by omega)]
      exact h1.2 i s (by omega) (by omega) (by omega)
    · rw [if_neg c1]
      by_cases c2 : i.toInt - n0 < 8
      · rw [if_pos c2, h5.1 i (by omega) (by omega), h4.1 i (by omega) (by omega), h3.1 i (by omega) (by omega)]
        exact h2.2 i s (by omega) (by omega) (by omega)
      · rw [if_neg c2]
        by_cases c3 : i.toInt - n0 < 12
        · rw [if_pos c3, h5.1 i (by omega) (by omega), h4.1 i (by omega) (by omega)]
          exact h3.2 i s (by omega) (by omega) (by omega)
        · rw [if_neg c3]
          by_cases c4 : i.toInt - n0 < 16
          · rw [if_pos c4, h5.1 i (by omega) (by omega)]
            exact h4.2 i s (by omega) (by omega) (by omega)
          · rw [if_neg c4]
            exact h5.2 i s (by omega) (by omega) (by omega)
def FEDM (n0 : Int) (a b c d e : Int32) (k : Int) (f f' : Nat → Int32) : Prop := (∀ i : Int32, 0 ≤ i.toInt → i.toInt < n0 → f' (Int32.toNatClampNeg i) = f (Int32.toNatClampNeg i)) ∧ (∀ i s : Int32, n0 ≤ i.toInt → i.toInt < n0 + k → s.toInt = 24 - 8 * ((i.toInt - n0) % 4) → (f' (Int32.toNatClampNeg i) &&& 255).toInt = bAt (wAt a b c d e (i.toInt - n0)) s)
theorem fedm_zero {n0 k : Int} {a b c d e : Int32} {f : Nat → Int32} (h : k = 0) : FEDM n0 a b c d e k f f := ⟨fun _ _ _ => rfl, fun i s h1 h2 _ => absurd h2 (by omega)⟩
theorem fedm_step {n0 k k' : Int} {a b c d e w i s v : Int32} {f f' f'' : Nat → Int32} (h : FEDM n0 a b c d e k f f') (h0 : 0 ≤ n0) (hk : 0 ≤ k) (hi : i.toInt = n0 + k) (hw : w = wAt a b c d e k) (hs : s.toInt = 24 - 8 * (k % 4)) (hv : v = (w >>> (s &&& 31)).toInt8.toInt32) (hf : f'' = upd f' (Int32.toNatClampNeg i) (vp_nar .byte v)) (hk' : k' = k + 1) : FEDM n0 a b c d e k' f f'' := by
  refine ⟨fun j h1 h2 => ?_, fun j t h1 h2 h3 => ?_⟩
  · rw [hf, pk_un (clamp_ne h1 (by omega) (by omega))]; exact h.1 j h1 h2
  · by_cases q : j.toInt = i.toInt
    · have e2 : j = i := Int32.toInt_inj.mp q
      have e4 : j.toInt - n0 = k := by omega
      have e3 : t = s := Int32.toInt_inj.mp (by rw [h3, hs, e4])
      subst e2; subst e3
      rw [hf, pk_us, hv, pk_vb, bp_b, e4, ← hw]; rfl
    · rw [hf, pk_un (clamp_ne (by omega) (by omega) q)]; exact h.2 j t h1 (by omega) h3
def TEQ (n : Int) (f g : Nat → Int32) : Prop := ∀ i : Int32, 0 ≤ i.toInt → i.toInt < n → (f (Int32.toNatClampNeg i)).toInt = (g (Int32.toNatClampNeg i) &&& 255).toInt
theorem teq_less {n n' : Int} {f g : Nat → Int32} (h : TEQ n f g) (hn : n' ≤ n) : TEQ n' f g := fun i h1 h2 => h i h1 (by omega)
theorem sh_some (j : Int) : ∃ s : Int32, s.toInt = 24 - 8 * (j % 4) := by
  have h : j % 4 = 0 ∨ j % 4 = 1 ∨ j % 4 = 2 ∨ j % 4 = 3 := by omega
  rcases h with h | h | h | h
  · exact ⟨24, by rw [h]; decide⟩
  · exact ⟨16, by rw [h]; decide⟩
  · exact ⟨8, by rw [h]; decide⟩
  · exact ⟨0, by rw [h]; decide⟩
theorem teq_fed {n n' : Int} {a b c d e : Int32} {f f' g g' : Nat → Int32} (h : TEQ n f g) (h1 : FED n a b c d e f f') (h2 : FEDM n a b c d e 20 g g') (hn : n' = n + 20) : TEQ n' f' g' := fun i g1 g2 => by
  by_cases q : i.toInt < n
  · rw [h1.1 i g1 q, h2.1 i g1 q]; exact h i g1 q
  · obtain ⟨s, hs⟩ := sh_some (i.toInt - n)
    rw [h1.2 i s (by omega) (by omega) hs, h2.2 i s (by omega) (by omega) hs]
/-- the tape as a function -/
def tapeG (f : Nat → Int32) (k : Int) : Int := (f k.toNat).toInt
theorem byt_tape {n : Int} {f : Nat → Int32} (h : Rg 0 255 f) : BYT (tapeG f) n f := ⟨fun k => h _, fun i h1 _ => by
  show _ = (f i.toInt.toNat).toInt
  rw [clamp_nat h1]⟩
theorem tap_tape {n : Int} {f g : Nat → Int32} (h : Rg 0 255 f) (e : TEQ n f g) : TAP (tapeG f) n g := ⟨fun k => h _, fun i h1 h2 => by
  show _ = (f i.toInt.toNat).toInt
  rw [← e i h1 h2, clamp_nat h1]⟩
theorem tkf_cast {n0 c c' : Int} {w : Int32} {f f' : Nat → Int32} (h : TKF n0 w c f f') (e : c = c') : TKF n0 w c' f f' := by rw [← e]; exact h
theorem fedm_cast {n0 k k' : Int} {a b c d e : Int32} {f f' : Nat → Int32} (h : FEDM n0 a b c d e k f f') (q : k = k') : FEDM n0 a b c d e k' f f' := by rw [← q]; exact h
theorem teq_zero {n : Int} {f g : Nat → Int32} (h : n = 0) : TEQ n f g := fun i h1 h2 => absurd h2 (by omega)
theorem teq_feed {n n2 n' r1 r2 : Int} {a b c d e a' b' c' d' e' : Int32} {f f' g g' : Nat → Int32} (h : TEQ n f g) (h1 : (r1 = -1 ∧ f' = f) ∨ FED n a b c d e f f') (h2 : (r2 = -1 ∧ g' = g) ∨ FEDM n2 a' b' c' d' e' 20 g g') (h3 : n2 = n) (ea : a' = a) (eb : b' = b) (ec : c' = c) (ed : d' = d) (ee : e' = e) (hn : (r1 = -1 ∧ n' = n) ∨ (¬ r1 = -1 ∧ ¬ r2 = -1 ∧ n' = n + 20)) : TEQ n' f' g' := by
  subst h3; subst ea; subst eb; subst ec; subst ed; subst ee
  rcases hn with ⟨x, y⟩ | ⟨x, z, y⟩
  · intro i g1 g2
    have e1 : f' (Int32.toNatClampNeg i) = f (Int32.toNatClampNeg i) := by
      rcases h1 with ⟨-, q⟩ | q
      · rw [q]
      · exact q.1 i g1 (by omega)
    have e2 : g' (Int32.toNatClampNeg i) = g (Int32.toNatClampNeg i) := by
      rcases h2 with ⟨-, q⟩ | q
      · rw [q]
      · exact q.1 i g1 (by omega)
    rw [e1, e2]; exact h i g1 (by omega)
  · have q1 := h1.resolve_left (fun q => x q.1)
    have q2 := h2.resolve_left (fun q => z q.1)
    exact teq_fed h q1 q2 y
theorem clq_eq {G : Int → Int} {n n' f p c c0 r f' p' c' c0' r' : Int} (h : CLQ G n f p c c0 r) (g : CLQ G n' f' p' c' c0' r') (e : n = n') : f = f' ∧ p = p' ∧ r = r' := by
  subst e
  rcases h with ⟨a, b, d, q, s⟩ | ⟨a, b, d, q, s⟩
  · rcases g with ⟨a', b', d', q', s'⟩ | ⟨a', b', d', q', s'⟩
    · exact ⟨by omega, by omega, by omega⟩
    · exact absurd (b'.symm.trans d) a'
  · rcases g with ⟨a', b', d', q', s'⟩ | ⟨a', b', d', q', s'⟩
    · exact absurd (b.symm.trans d') a
    · exact ⟨by omega, by omega, by omega⟩
theorem clq_all {G : Int → Int} {n n' f p c c0 r f' p' c' c0' r' : Int} (h : CLQ G n f p c c0 r) (g : CLQ G n' f' p' c' c0' r') (e : n = n') (e0 : c0 = c0') : f = f' ∧ p = p' ∧ c = c' ∧ r = r' := by
  subst e; exact clq_two h g e0
