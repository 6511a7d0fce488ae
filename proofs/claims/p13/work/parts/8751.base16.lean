section CLZ
variable {N : Int} {hz : Nat → Nat} {zv za zb zc fv fa fb fc bto bin : Nat → Int32} {v : Int}
theorem ocd_eq0 (hn : ND 0 N hz za zb zc) (he : EQ0 N za zb zc zv fa fb fc fv) (d : Nat) : ∀ x : Nat, (x : Int) < N → OCd fv fa fb fc d x v → OCd zv za zb zc d x v := by
  induction d with
  | zero =>
    intro x hx h
    obtain ⟨-, -, -, ev⟩ := he x hx
    have h1 : (fv x).toInt = v := h.1
    rw [ev] at h1
    exact ⟨h1, h.2⟩
  | succ d ih =>
    intro x hx h
    obtain ⟨ea, eb, ec, ev⟩ := he x hx
    have en : npx fv fa fb fc x = npx zv za zb zc x := by unfold npx; rw [ea, eb, ec, ev]
    rcases h with h | ⟨k, a, b, h⟩
    · have h1 : (fv x).toInt = v := h.1
      rw [ev] at h1
      exact Or.inl ⟨h1, h.2⟩
    · have ep : ptx fa fb fc x k = ptx za zb zc x k := by unfold ptx; rw [ea, eb, ec]
      rw [ep] at h
      rw [en] at b
      have cc := ch_ok (nv := zv) hn hx ⟨a, b⟩
      exact Or.inr ⟨k, a, b, ih _ (by omega) h⟩
theorem bi_clz {i0 i1 : Int} (hB : BI i0 i1 N hz zv za zb zc bto bin) (he : EQ0 N za zb zc zv fa fb fc fv) : BI i0 i1 N hz fv fa fb fc bto bin := by
  obtain ⟨h1, h2, r, h3⟩ := hB
  refine ⟨nd_eq0 h1 he, h2, r, fun s a b c v ho => ?_⟩
  obtain ⟨d, hd⟩ := ho
  have w := h2 s a b c
  exact h3 s a b c v ⟨d, ocd_eq0 h1 he d _ (by omega) hd⟩
end CLZ
theorem prf_clz {P P' N N' K K' : Int32} {I : Int} {hz hz' : Nat → Nat} {zv za zb zc fv fa fb fc bto bin cof : Nat → Int32} (hp : (P).toInt = 0 ∨ (BI 0 29 (N).toInt hz zv za zb zc bto bin ∧ INS I (K).toInt cof)) (hc : ((P').toInt = 0) ∨ (EQ0 (N).toInt za zb zc zv fa fb fc fv ∧ N' = N ∧ hz' = hz ∧ P' = P ∧ K' = K)) : (P').toInt = 0 ∨ (BI 0 29 (N').toInt hz' fv fa fb fc bto bin ∧ INS I (K').toInt cof) := by
  rcases hc with h | ⟨e, rfl, rfl, rfl, rfl⟩
  · exact Or.inl h
  · exact hp.imp id (fun g => ⟨bi_clz g.1 e, g.2⟩)
theorem wp_nil {X : va_W} {ra la sa : Nat → Nat} {rf : Nat → RT} {lf : Nat → LT} {sf : Nat → ST} : wp X (PL 0 ra rf 0 la lf 0 sa sf) = X := by
  simp [wp, PL, rowsW]
theorem pfx_zero {cap : Nat} {A : Nat → Nat} : PFX 0 cap (fun _ => none) A := by
  refine ⟨Nat.zero_le _, fun i hi => absurd hi (Nat.not_lt_zero i), ?_⟩
  intros
  rfl
theorem nd_zero {N : Int} {h : Nat → Nat} {fa fb fc : Nat → Int32} (h0 : N ≤ 0) : ND 0 N h fa fb fc := fun x h1 h2 => absurd h2 (by omega)
