/-! objects of a kind in a row: the i-th of n stands at A i and holds c i -/
def rowsW (n : Nat) (A : Nat → Nat) (c : Nat → va_E) : va_W := (List.range n).map (fun i => (A i, c i))
theorem rowsW_len {n : Nat} {A : Nat → Nat} {c : Nat → va_E} : (rowsW n A c).length = n := by simp [rowsW]
theorem rowsW_at {n : Nat} {A : Nat → Nat} {c : Nat → va_E} {i : Nat} (h : i < n) : (rowsW n A c)[i]? = some (A i, c i) := by simp [rowsW, h]
theorem rowsW_congr {n : Nat} {A A' : Nat → Nat} {c c' : Nat → va_E} (h : ∀ i, i < n → A i = A' i ∧ c i = c' i) : rowsW n A c = rowsW n A' c' := by
  apply List.map_congr_left
  intro i hi
  have := h i (List.mem_range.mp hi)
  rw [this.1, this.2]
theorem pl_at {X Y : va_W} {n : Nat} {A : Nat → Nat} {c : Nat → va_E} {i : Nat} (h : i < n) : (X ++ (rowsW n A c ++ Y))[X.length + i]? = some (A i, c i) := by
  rw [List.getElem?_append_right (by omega), Nat.add_sub_cancel_left, List.getElem?_append_left (by rw [rowsW_len]; exact h)]
  exact rowsW_at h
theorem rowsW_set {n : Nat} {A : Nat → Nat} {c : Nat → va_E} {i : Nat} {e : va_E} (h : i < n) : (rowsW n A c).set i (A i, e) = rowsW n A (va_up c i e) := by
  apply List.ext_getElem?
  intro j
  by_cases hj : j = i
  · subst hj
    rw [List.getElem?_set_self (by rw [rowsW_len]; exact h), rowsW_at h]
    simp [va_up]
  · rw [List.getElem?_set_ne (Ne.symm hj)]
    by_cases hn : j < n
    · rw [rowsW_at hn, rowsW_at hn]; simp [va_up, hj]
    · rw [List.getElem?_eq_none (by rw [rowsW_len]; omega), List.getElem?_eq_none (by rw [rowsW_len]; omega)]
theorem pl_set {X Y : va_W} {n : Nat} {A : Nat → Nat} {c : Nat → va_E} {i : Nat} {e : va_E} (h : i < n) : (X ++ (rowsW n A c ++ Y)).set (X.length + i) (A i, e) = X ++ (rowsW n A (va_up c i e) ++ Y) := by
  rw [List.set_append_right _ _ (by omega), Nat.add_sub_cancel_left, List.set_append_left _ _ (by rw [rowsW_len]; exact h), rowsW_set h]
theorem va_P_perm {D : va_G} {cl : List vw_C} {ws ws' : va_W} {H : Heap} (h : ws.Perm ws') (hP : va_P D cl ws H) : va_P D cl ws' H := fun k q hk => by
  obtain ⟨j, hj⟩ := List.getElem?_of_mem (h.mem_iff.mpr (List.mem_of_getElem? hk))
  exact hP j q hj
theorem va_D_iff {A : Nat → Prop} {ws : va_W} : va_D A ws ↔ (ws.map Prod.fst).Nodup ∧ ∀ q ∈ ws, A q.1 := by
  constructor
  · intro h
    refine ⟨?_, fun q hq => ?_⟩
    · rw [List.Nodup, List.pairwise_iff_getElem]
      intro i j hi hj hij e
      rw [List.length_map] at hi hj
      have := h.1 i j ws[i] ws[j] (List.getElem?_eq_getElem hi) (List.getElem?_eq_getElem hj) (by simpa using e)
      omega
    · obtain ⟨k, hk⟩ := List.getElem?_of_mem hq
      exact h.2 k q hk
  · intro h
    refine ⟨fun i j p q hi hj e => ?_, fun k q hk => h.2 q (List.mem_of_getElem? hk)⟩
    have hn := h.1
    rw [List.Nodup, List.pairwise_iff_getElem] at hn
    obtain ⟨li, ei⟩ := List.getElem?_eq_some_iff.mp hi
    obtain ⟨lj, ej⟩ := List.getElem?_eq_some_iff.mp hj
    rcases Nat.lt_trichotomy i j with hlt | rfl | hlt
    · refine absurd ?_ (hn i j (by rw [List.length_map]; exact li) (by rw [List.length_map]; exact lj) hlt)
      rw [List.getElem_map, List.getElem_map, ei, ej]; exact e
    · rfl
    · refine absurd ?_ (hn j i (by rw [List.length_map]; exact lj) (by rw [List.length_map]; exact li) hlt)
      rw [List.getElem_map, List.getElem_map, ei, ej]; exact e.symm
theorem va_D_perm {A : Nat → Prop} {ws ws' : va_W} (h : ws.Perm ws') (hD : va_D A ws) : va_D A ws' := by
  have h1 := va_D_iff.mp hD
  exact va_D_iff.mpr ⟨(List.Perm.nodup_iff (h.map Prod.fst)).mp h1.1, fun q hq => h1.2 q (h.mem_iff.mpr hq)⟩
theorem rowsW_push {n : Nat} {A : Nat → Nat} {c : Nat → va_E} {a : Nat} {e : va_E} : rowsW n A c ++ [(a, e)] = rowsW (n + 1) (va_up A n a) (va_up c n e) := by
  simp only [rowsW, List.range_succ, List.map_append, List.map_cons, List.map_nil]
  congr 1
  · apply List.map_congr_left
    intro i hi
    have : i ≠ n := by have := List.mem_range.mp hi; omega
    simp [va_up, this]
  · simp [va_up]
theorem pl_push {X Y : va_W} {n : Nat} {A : Nat → Nat} {c : Nat → va_E} {a : Nat} {e : va_E} : ((X ++ (rowsW n A c ++ Y)) ++ [(a, e)]).Perm (X ++ (rowsW (n + 1) (va_up A n a) (va_up c n e) ++ Y)) := by
  rw [← rowsW_push, List.append_assoc, List.append_assoc, List.append_assoc]
  exact List.Perm.append_left X (List.Perm.append_left _ List.perm_append_comm)
