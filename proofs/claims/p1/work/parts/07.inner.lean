set_option maxHeartbeats 4000000 in
set_option maxRecDepth 100000 in
theorem c_X5_take_0 (l : Launch) (dC : Nat → ClassId) (dI : Nat → Nat → Nat) (sz : Nat) (h_rd : Nat) (h_by : Nat) (v_rd : Nat → Value) (cy_by : ClassId) (f_by : Nat → Int32) (p1 : Int32) : Met l yX5_take (Ws yX5_take cX5_take 3 none) ({ frames := 0, cells := 0, slots := 0, locals := 0 }) (PRE (dC, dI) cls [(cy_by, .int)] [(h_rd, .inr (4, [.ref h_by, .int 0, (v_rd 2), (v_rd 3), (v_rd 4), (v_rd 5), (v_rd 6), (v_rd 7), (v_rd 8), (v_rd 9), (v_rd 10)])), (h_by, .inl (cy_by, 600, .inl f_by))] sz [.ref h_rd, .int p1]) (va_Qv (fun (_ : (Nat → Int32)) => True) (fun (u : (Nat → Int32)) (t : State) => va_P (dC, dI) cls [(h_rd, .inr (4, [.ref h_by, .int 4, (v_rd 2), (v_rd 3), (v_rd 4), (v_rd 5), (v_rd 6), (v_rd 7), (v_rd 8), (v_rd 9), (v_rd 10)])), (h_by, .inl (cy_by, 600, .inl u))] t.heap ∧ va_K (dC, dI) cls [] t ∧ va_D (va_A [(h_rd, .inr (4, [.ref h_by, .int 0, (v_rd 2), (v_rd 3), (v_rd 4), (v_rd 5), (v_rd 6), (v_rd 7), (v_rd 8), (v_rd 9), (v_rd 10)])), (h_by, .inl (cy_by, 600, .inl f_by))] sz) [(h_rd, .inr (4, [.ref h_by, .int 4, (v_rd 2), (v_rd 3), (v_rd 4), (v_rd 5), (v_rd 6), (v_rd 7), (v_rd 8), (v_rd 9), (v_rd 10)])), (h_by, .inl (cy_by, 600, .inl u))]) (va_A [(h_rd, .inr (4, [.ref h_by, .int 0, (v_rd 2), (v_rd 3), (v_rd 4), (v_rd 5), (v_rd 6), (v_rd 7), (v_rd 8), (v_rd 9), (v_rd 10)])), (h_by, .inl (cy_by, 600, .inl f_by))] sz)) 0 0 (va_A [(h_rd, .inr (4, [.ref h_by, .int 0, (v_rd 2), (v_rd 3), (v_rd 4), (v_rd 5), (v_rd 6), (v_rd 7), (v_rd 8), (v_rd 9), (v_rd 10)])), (h_by, .inl (cy_by, 600, .inl f_by))] sz) := by
  refine Met.ofW (cc := cX5_take) (maxL := 3) (ret := none) (by decide) rfl ?_
  intro p e s m args below meth c s₁ B hml hv
  obtain ⟨rfl, hsz, hP, hK, hD0, hN⟩ := hv
  have hx := B.exec
  have hb := B.bytes
  have hr := B.returns
  have hts := atoms_spec (ws := Ws yX5_take cX5_take 3 none) B.pre
  have hT : ∀ w ∈ WALL, w ∈ Ws yX5_take cX5_take 3 none := fun w h => List.mem_cons_of_mem _ h
  have hw := fun w (h : w ∈ WALL) => hts w (hT w h)
  have hown : s.vm.findClass RX5 = some m.cls := findClass_of_methodNamed B.named
  have hlocks := B.notSynchronized
  subst hsz
  have hD := hD0.self (sz := s.heap.size)
  generalize hAe : va_A [(h_rd, .inr (4, [.ref h_by, .int 0, (v_rd 2), (v_rd 3), (v_rd 4), (v_rd 5), (v_rd 6), (v_rd 7), (v_rd 8), (v_rd 9), (v_rd 10)])), (h_by, .inl (cy_by, 600, .inl f_by))] s.heap.size = A at hD ⊢
  have hA : ∀ q : Nat, s.heap.size ≤ q → A q := fun q h => by rw [← hAe]; exact Or.inr h
  have hS : va_S A s.heap s.heap [] := va_S.rf
  have hl := lv_entry ([.ref h_rd, .int p1]) (n := 3) (Nat.le_of_ble_eq_true rfl)
  rw [lg_entry_eq]
  generalize (lg_sl ([.ref h_rd, .int p1]) ++ List.replicate (3 - (lg_sl ([.ref h_rd, .int p1])).length) Slot.unset).toArray = ls at hl ⊢
  have hl : lv_has ls 3 [(0, .ref h_rd), (1, .int p1)] := hl
  refine lv_bipush (v := 24) hx hb dX5_take_0 (by decide) ?_
  refine lv_istore_n (lv' := [(2, .int 24), (0, .ref h_rd), (1, .int p1)]) hx hb dX5_take_2 rfl hl (by decide) rfl (fun ls hl => ?_)
  refine lv_iload_n hx hb dX5_take_3 rfl (lv_at hl 0 rfl) ?_
  refine lv_if_lt (tgt := 46) hx hb dX5_take_4 (by decide) (fun c9 => absurd c9 (by decide)) (fun _ => ?_)
  refine lv_aload_n hx hb dX5_take_7 rfl (lv_at hl 1 rfl) ?_
  refine va_get (D := (dC, dI)) (ci := 4) (v := .int 0) (C := RX5) (T := TX5) (N := 11) hx hb hw iwX5 hown hK hP 0 rfl rfl 1 (by decide) (hw _ w_f_X5_22) (fun _ h9 => h9) rfl dX5_take_8 ?_
  refine lv_sipush (v := 600) hx hb dX5_take_11 (by decide) ?_
  refine lv_icmp_ge (tgt := 46) hx hb dX5_take_14 (by decide) (fun c9 => absurd c9 (by decide)) (fun _ => ?_)
  refine lv_aload_n hx hb dX5_take_17 rfl (lv_at hl 1 rfl) ?_
  refine va_get (D := (dC, dI)) (ci := 4) (v := .ref h_by) (C := RX5) (T := TX5) (N := 11) hx hb hw iwX5 hown hK hP 0 rfl rfl 0 (by decide) (hw _ w_f_X5_9) (fun _ h9 => h9) rfl dX5_take_18 ?_
  refine lv_aload_n hx hb dX5_take_21 rfl (lv_at hl 1 rfl) ?_
  refine lv_dup hx hb dX5_take_22 rfl ?_
  refine va_get (D := (dC, dI)) (ci := 4) (v := .int 0) (C := RX5) (T := TX5) (N := 11) hx hb hw iwX5 hown hK hP 0 rfl rfl 1 (by decide) (hw _ w_f_X5_22) (fun _ h9 => h9) rfl dX5_take_23 ?_
  refine lv_dup_x1 hx hb dX5_take_26 rfl rfl ?_
  refine lv_iconst (v := 1) hx hb dX5_take_27 (by decide) ?_
  refine lv_iadd hx hb dX5_take_28 ?_
  refine lv_topi (fun z1 ez1 => ?_)
  obtain rfl : z1 = 1 := ez1.trans (by decide)
  refine va_put (D := (dC, dI)) (ci := 4) (v := .int 1) (ty := tyX5 1) (C := RX5) (T := TX5) (N := 11) hx hb hw iwX5 tyX5 tyX5_ok nmX5 hown hK hP hD hS 0 rfl rfl 1 (by decide) (hw _ w_f_X5_22) (fun _ h9 => h9) rfl (tyX5_ok 1 (by decide)) rfl rfl (Nat.le_of_ble_eq_true rfl) dX5_take_29 (fun H locs hP hD hS => ?_)
  have hP : va_P (dC, dI) cls [(h_rd, .inr (4, [.ref h_by, .int 1, (v_rd 2), (v_rd 3), (v_rd 4), (v_rd 5), (v_rd 6), (v_rd 7), (v_rd 8), (v_rd 9), (v_rd 10)])), (h_by, .inl (cy_by, 600, .inl f_by))] H := hP
  have hD : va_D A [(h_rd, .inr (4, [.ref h_by, .int 1, (v_rd 2), (v_rd 3), (v_rd 4), (v_rd 5), (v_rd 6), (v_rd 7), (v_rd 8), (v_rd 9), (v_rd 10)])), (h_by, .inl (cy_by, 600, .inl f_by))] := hD
  refine lv_iload_n hx hb dX5_take_32 rfl (lv_at hl 2 rfl) ?_
  refine lv_iload_n hx hb dX5_take_33 rfl (lv_at hl 0 rfl) ?_
  refine lv_ishr hx hb dX5_take_34 ?_
  refine lv_topi (fun z2 ez2 => ?_)
  refine lv_sipush (v := 255) hx hb dX5_take_35 (by decide) ?_
  refine lv_iand hx hb dX5_take_38 ?_
  refine lv_topi (fun z3 ez3 => ?_)
  refine va_iast hx hb hK hP hD hS 1 0 rfl rfl (i := 0) (x := z3) (show ¬ _ from by decide) dX5_take_39 (fun H locs hP hD hS => ?_)
  obtain ⟨f4, ef4⟩ : ∃ g : Nat → Int32, g = upd f_by (Int32.toNatClampNeg 0) z3 := ⟨_, rfl⟩
  have hP : va_P (dC, dI) cls [(h_rd, .inr (4, [.ref h_by, .int 1, (v_rd 2), (v_rd 3), (v_rd 4), (v_rd 5), (v_rd 6), (v_rd 7), (v_rd 8), (v_rd 9), (v_rd 10)])), (h_by, .inl (cy_by, 600, .inl f4))] H := by rw [ef4]; exact hP
  have hD : va_D A [(h_rd, .inr (4, [.ref h_by, .int 1, (v_rd 2), (v_rd 3), (v_rd 4), (v_rd 5), (v_rd 6), (v_rd 7), (v_rd 8), (v_rd 9), (v_rd 10)])), (h_by, .inl (cy_by, 600, .inl f4))] := by rw [ef4]; exact hD
  clear ef4
  refine lv_iinc (v := 16) (lv' := [(2, .int 16), (0, .ref h_rd), (1, .int p1)]) hx hb dX5_take_40 hl (k := 0) rfl (by decide) (by decide) rfl (fun ls hl => ?_)
  refine lv_goto (tgt := 3) hx hb dX5_take_43 (by decide) ?_
  refine lv_iload_n hx hb dX5_take_3 rfl (lv_at hl 0 rfl) ?_
  refine lv_if_lt (tgt := 46) hx hb dX5_take_4 (by decide) (fun c9 => absurd c9 (by decide)) (fun _ => ?_)
  refine lv_aload_n hx hb dX5_take_7 rfl (lv_at hl 1 rfl) ?_
  refine va_get (D := (dC, dI)) (ci := 4) (v := .int 1) (C := RX5) (T := TX5) (N := 11) hx hb hw iwX5 hown hK hP 0 rfl rfl 1 (by decide) (hw _ w_f_X5_22) (fun _ h9 => h9) rfl dX5_take_8 ?_
  refine lv_sipush (v := 600) hx hb dX5_take_11 (by decide) ?_
  refine lv_icmp_ge (tgt := 46) hx hb dX5_take_14 (by decide) (fun c9 => absurd c9 (by decide)) (fun _ => ?_)
  refine lv_aload_n hx hb dX5_take_17 rfl (lv_at hl 1 rfl) ?_
  refine va_get (D := (dC, dI)) (ci := 4) (v := .ref h_by) (C := RX5) (T := TX5) (N := 11) hx hb hw iwX5 hown hK hP 0 rfl rfl 0 (by decide) (hw _ w_f_X5_9) (fun _ h9 => h9) rfl dX5_take_18 ?_
  refine lv_aload_n hx hb dX5_take_21 rfl (lv_at hl 1 rfl) ?_
  refine lv_dup hx hb dX5_take_22 rfl ?_
  refine va_get (D := (dC, dI)) (ci := 4) (v := .int 1) (C := RX5) (T := TX5) (N := 11) hx hb hw iwX5 hown hK hP 0 rfl rfl 1 (by decide) (hw _ w_f_X5_22) (fun _ h9 => h9) rfl dX5_take_23 ?_
  refine lv_dup_x1 hx hb dX5_take_26 rfl rfl ?_
  refine lv_iconst (v := 1) hx hb dX5_take_27 (by decide) ?_
  refine lv_iadd hx hb dX5_take_28 ?_
  refine lv_topi (fun z5 ez5 => ?_)
  obtain rfl : z5 = 2 := ez5.trans (by decide)
  refine va_put (D := (dC, dI)) (ci := 4) (v := .int 2) (ty := tyX5 1) (C := RX5) (T := TX5) (N := 11) hx hb hw iwX5 tyX5 tyX5_ok nmX5 hown hK hP hD hS 0 rfl rfl 1 (by decide) (hw _ w_f_X5_22) (fun _ h9 => h9) rfl (tyX5_ok 1 (by decide)) rfl rfl (Nat.le_of_ble_eq_true rfl) dX5_take_29 (fun H locs hP hD hS => ?_)
  have hP : va_P (dC, dI) cls [(h_rd, .inr (4, [.ref h_by, .int 2, (v_rd 2), (v_rd 3), (v_rd 4), (v_rd 5), (v_rd 6), (v_rd 7), (v_rd 8), (v_rd 9), (v_rd 10)])), (h_by, .inl (cy_by, 600, .inl f4))] H := hP
  have hD : va_D A [(h_rd, .inr (4, [.ref h_by, .int 2, (v_rd 2), (v_rd 3), (v_rd 4), (v_rd 5), (v_rd 6), (v_rd 7), (v_rd 8), (v_rd 9), (v_rd 10)])), (h_by, .inl (cy_by, 600, .inl f4))] := hD
  refine lv_iload_n hx hb dX5_take_32 rfl (lv_at hl 2 rfl) ?_
  refine lv_iload_n hx hb dX5_take_33 rfl (lv_at hl 0 rfl) ?_
  refine lv_ishr hx hb dX5_take_34 ?_
  refine lv_topi (fun z6 ez6 => ?_)
  refine lv_sipush (v := 255) hx hb dX5_take_35 (by decide) ?_
  refine lv_iand hx hb dX5_take_38 ?_
  refine lv_topi (fun z7 ez7 => ?_)
  refine va_iast hx hb hK hP hD hS 1 0 rfl rfl (i := 1) (x := z7) (show ¬ _ from by decide) dX5_take_39 (fun H locs hP hD hS => ?_)
  obtain ⟨f8, ef8⟩ : ∃ g : Nat → Int32, g = upd f4 (Int32.toNatClampNeg 1) z7 := ⟨_, rfl⟩
  have hP : va_P (dC, dI) cls [(h_rd, .inr (4, [.ref h_by, .int 2, (v_rd 2), (v_rd 3), (v_rd 4), (v_rd 5), (v_rd 6), (v_rd 7), (v_rd 8), (v_rd 9), (v_rd 10)])), (h_by, .inl (cy_by, 600, .inl f8))] H := by rw [ef8]; exact hP
  have hD : va_D A [(h_rd, .inr (4, [.ref h_by, .int 2, (v_rd 2), (v_rd 3), (v_rd 4), (v_rd 5), (v_rd 6), (v_rd 7), (v_rd 8), (v_rd 9), (v_rd 10)])), (h_by, .inl (cy_by, 600, .inl f8))] := by rw [ef8]; exact hD
  clear ef8
  refine lv_iinc (v := 8) (lv' := [(2, .int 8), (0, .ref h_rd), (1, .int p1)]) hx hb dX5_take_40 hl (k := 0) rfl (by decide) (by decide) rfl (fun ls hl => ?_)
  refine lv_goto (tgt := 3) hx hb dX5_take_43 (by decide) ?_
  refine lv_iload_n hx hb dX5_take_3 rfl (lv_at hl 0 rfl) ?_
  refine lv_if_lt (tgt := 46) hx hb dX5_take_4 (by decide) (fun c9 => absurd c9 (by decide)) (fun _ => ?_)
  refine lv_aload_n hx hb dX5_take_7 rfl (lv_at hl 1 rfl) ?_
  refine va_get (D := (dC, dI)) (ci := 4) (v := .int 2) (C := RX5) (T := TX5) (N := 11) hx hb hw iwX5 hown hK hP 0 rfl rfl 1 (by decide) (hw _ w_f_X5_22) (fun _ h9 => h9) rfl dX5_take_8 ?_
  refine lv_sipush (v := 600) hx hb dX5_take_11 (by decide) ?_
  refine lv_icmp_ge (tgt := 46) hx hb dX5_take_14 (by decide) (fun c9 => absurd c9 (by decide)) (fun _ => ?_)
  refine lv_aload_n hx hb dX5_take_17 rfl (lv_at hl 1 rfl) ?_
  refine va_get (D := (dC, dI)) (ci := 4) (v := .ref h_by) (C := RX5) (T := TX5) (N := 11) hx hb hw iwX5 hown hK hP 0 rfl rfl 0 (by decide) (hw _ w_f_X5_9) (fun _ h9 => h9) rfl dX5_take_18 ?_
  refine lv_aload_n hx hb dX5_take_21 rfl (lv_at hl 1 rfl) ?_
  refine lv_dup hx hb dX5_take_22 rfl ?_
  refine va_get (D := (dC, dI)) (ci := 4) (v := .int 2) (C := RX5) (T := TX5) (N := 11) hx hb hw iwX5 hown hK hP 0 rfl rfl 1 (by decide) (hw _ w_f_X5_22) (fun _ h9 => h9) rfl dX5_take_23 ?_
  refine lv_dup_x1 hx hb dX5_take_26 rfl rfl ?_
  refine lv_iconst (v := 1) hx hb dX5_take_27 (by decide) ?_
  refine lv_iadd hx hb dX5_take_28 ?_
  refine lv_topi (fun z9 ez9 => ?_)
  obtain rfl : z9 = 3 := ez9.trans (by decide)
  refine va_put (D := (dC, dI)) (ci := 4) (v := .int 3) (ty := tyX5 1) (C := RX5) (T := TX5) (N := 11) hx hb hw iwX5 tyX5 tyX5_ok nmX5 hown hK hP hD hS 0 rfl rfl 1 (by decide) (hw _ w_f_X5_22) (fun _ h9 => h9) rfl (tyX5_ok 1 (by decide)) rfl rfl (Nat.le_of_ble_eq_true rfl) dX5_take_29 (fun H locs hP hD hS => ?_)
  have hP : va_P (dC, dI) cls [(h_rd, .inr (4, [.ref h_by, .int 3, (v_rd 2), (v_rd 3), (v_rd 4), (v_rd 5), (v_rd 6), (v_rd 7), (v_rd 8), (v_rd 9), (v_rd 10)])), (h_by, .inl (cy_by, 600, .inl f8))] H := hP
  have hD : va_D A [(h_rd, .inr (4, [.ref h_by, .int 3, (v_rd 2), (v_rd 3), (v_rd 4), (v_rd 5), (v_rd 6), (v_rd 7), (v_rd 8), (v_rd 9), (v_rd 10)])), (h_by, .inl (cy_by, 600, .inl f8))] := hD
  refine lv_iload_n hx hb dX5_take_32 rfl (lv_at hl 2 rfl) ?_
  refine lv_iload_n hx hb dX5_take_33 rfl (lv_at hl 0 rfl) ?_
  refine lv_ishr hx hb dX5_take_34 ?_
  refine lv_topi (fun z10 ez10 => ?_)
  refine lv_sipush (v := 255) hx hb dX5_take_35 (by decide) ?_
  refine lv_iand hx hb dX5_take_38 ?_
  refine lv_topi (fun z11 ez11 => ?_)
  refine va_iast hx hb hK hP hD hS 1 0 rfl rfl (i := 2) (x := z11) (show ¬ _ from by decide) dX5_take_39 (fun H locs hP hD hS => ?_)
  obtain ⟨f12, ef12⟩ : ∃ g : Nat → Int32, g = upd f8 (Int32.toNatClampNeg 2) z11 := ⟨_, rfl⟩
  have hP : va_P (dC, dI) cls [(h_rd, .inr (4, [.ref h_by, .int 3, (v_rd 2), (v_rd 3), (v_rd 4), (v_rd 5), (v_rd 6), (v_rd 7), (v_rd 8), (v_rd 9), (v_rd 10)])), (h_by, .inl (cy_by, 600, .inl f12))] H := by rw [ef12]; exact hP
  have hD : va_D A [(h_rd, .inr (4, [.ref h_by, .int 3, (v_rd 2), (v_rd 3), (v_rd 4), (v_rd 5), (v_rd 6), (v_rd 7), (v_rd 8), (v_rd 9), (v_rd 10)])), (h_by, .inl (cy_by, 600, .inl f12))] := by rw [ef12]; exact hD
  clear ef12
  refine lv_iinc (v := 0) (lv' := [(2, .int 0), (0, .ref h_rd), (1, .int p1)]) hx hb dX5_take_40 hl (k := 0) rfl (by decide) (by decide) rfl (fun ls hl => ?_)
  refine lv_goto (tgt := 3) hx hb dX5_take_43 (by decide) ?_
  refine lv_iload_n hx hb dX5_take_3 rfl (lv_at hl 0 rfl) ?_
  refine lv_if_lt (tgt := 46) hx hb dX5_take_4 (by decide) (fun c9 => absurd c9 (by decide)) (fun _ => ?_)
  refine lv_aload_n hx hb dX5_take_7 rfl (lv_at hl 1 rfl) ?_
  refine va_get (D := (dC, dI)) (ci := 4) (v := .int 3) (C := RX5) (T := TX5) (N := 11) hx hb hw iwX5 hown hK hP 0 rfl rfl 1 (by decide) (hw _ w_f_X5_22) (fun _ h9 => h9) rfl dX5_take_8 ?_
  refine lv_sipush (v := 600) hx hb dX5_take_11 (by decide) ?_
  refine lv_icmp_ge (tgt := 46) hx hb dX5_take_14 (by decide) (fun c9 => absurd c9 (by decide)) (fun _ => ?_)
  refine lv_aload_n hx hb dX5_take_17 rfl (lv_at hl 1 rfl) ?_
  refine va_get (D := (dC, dI)) (ci := 4) (v := .ref h_by) (C := RX5) (T := TX5) (N := 11) hx hb hw iwX5 hown hK hP 0 rfl rfl 0 (by decide) (hw _ w_f_X5_9) (fun _ h9 => h9) rfl dX5_take_18 ?_
  refine lv_aload_n hx hb dX5_take_21 rfl (lv_at hl 1 rfl) ?_
  refine lv_dup hx hb dX5_take_22 rfl ?_
  refine va_get (D := (dC, dI)) (ci := 4) (v := .int 3) (C := RX5) (T := TX5) (N := 11) hx hb hw iwX5 hown hK hP 0 rfl rfl 1 (by decide) (hw _ w_f_X5_22) (fun _ h9 => h9) rfl dX5_take_23 ?_
  refine lv_dup_x1 hx hb dX5_take_26 rfl rfl ?_
  refine lv_iconst (v := 1) hx hb dX5_take_27 (by decide) ?_
  refine lv_iadd hx hb dX5_take_28 ?_
  refine lv_topi (fun z13 ez13 => ?_)
  obtain rfl : z13 = 4 := ez13.trans (by decide)
  refine va_put (D := (dC, dI)) (ci := 4) (v := .int 4) (ty := tyX5 1) (C := RX5) (T := TX5) (N := 11) hx hb hw iwX5 tyX5 tyX5_ok nmX5 hown hK hP hD hS 0 rfl rfl 1 (by decide) (hw _ w_f_X5_22) (fun _ h9 => h9) rfl (tyX5_ok 1 (by decide)) rfl rfl (Nat.le_of_ble_eq_true rfl) dX5_take_29 (fun H locs hP hD hS => ?_)
  have hP : va_P (dC, dI) cls [(h_rd, .inr (4, [.ref h_by, .int 4, (v_rd 2), (v_rd 3), (v_rd 4), (v_rd 5), (v_rd 6), (v_rd 7), (v_rd 8), (v_rd 9), (v_rd 10)])), (h_by, .inl (cy_by, 600, .inl f12))] H := hP
  have hD : va_D A [(h_rd, .inr (4, [.ref h_by, .int 4, (v_rd 2), (v_rd 3), (v_rd 4), (v_rd 5), (v_rd 6), (v_rd 7), (v_rd 8), (v_rd 9), (v_rd 10)])), (h_by, .inl (cy_by, 600, .inl f12))] := hD
  refine lv_iload_n hx hb dX5_take_32 rfl (lv_at hl 2 rfl) ?_
  refine lv_iload_n hx hb dX5_take_33 rfl (lv_at hl 0 rfl) ?_
  refine lv_ishr hx hb dX5_take_34 ?_
  refine lv_topi (fun z14 ez14 => ?_)
  refine lv_sipush (v := 255) hx hb dX5_take_35 (by decide) ?_
  refine lv_iand hx hb dX5_take_38 ?_
  refine lv_topi (fun z15 ez15 => ?_)
  refine va_iast hx hb hK hP hD hS 1 0 rfl rfl (i := 3) (x := z15) (show ¬ _ from by decide) dX5_take_39 (fun H locs hP hD hS => ?_)
  obtain ⟨f16, ef16⟩ : ∃ g : Nat → Int32, g = upd f12 (Int32.toNatClampNeg 3) z15 := ⟨_, rfl⟩
  have hP : va_P (dC, dI) cls [(h_rd, .inr (4, [.ref h_by, .int 4, (v_rd 2), (v_rd 3), (v_rd 4), (v_rd 5), (v_rd 6), (v_rd 7), (v_rd 8), (v_rd 9), (v_rd 10)])), (h_by, .inl (cy_by, 600, .inl f16))] H := by rw [ef16]; exact hP
  have hD : va_D A [(h_rd, .inr (4, [.ref h_by, .int 4, (v_rd 2), (v_rd 3), (v_rd 4), (v_rd 5), (v_rd 6), (v_rd 7), (v_rd 8), (v_rd 9), (v_rd 10)])), (h_by, .inl (cy_by, 600, .inl f16))] := by rw [ef16]; exact hD
  clear ef16
  refine lv_iinc (v := (-8)) (lv' := [(2, .int (-8)), (0, .ref h_rd), (1, .int p1)]) hx hb dX5_take_40 hl (k := 0) rfl (by decide) (by decide) rfl (fun ls hl => ?_)
  refine lv_goto (tgt := 3) hx hb dX5_take_43 (by decide) ?_
  refine lv_iload_n hx hb dX5_take_3 rfl (lv_at hl 0 rfl) ?_
  refine lv_if_lt (tgt := 46) hx hb dX5_take_4 (by decide) (fun _ => ?_) (fun c9 => absurd c9 (by decide))
  refine W.widen (k := 0) (n := 0) (Nat.le_of_ble_eq_true rfl) (Nat.le_of_ble_eq_true rfl) ?_
  have hK9 := hK.sub (tys' := []) [] rfl
  exact W.vret hx hb hr (fun t ht hW => ⟨⟨f16, rfl, trivial, by rw [ht]; exact hP, va_K.moved hW.alike hK9, hD⟩, hS.F ht⟩) hS.2.2 dX5_take_46

set_option maxHeartbeats 4000000 in
set_option maxRecDepth 100000 in
theorem c_X5_take_4 (l : Launch) (dC : Nat → ClassId) (dI : Nat → Nat → Nat) (sz : Nat) (h_rd : Nat) (h_by : Nat) (v_rd : Nat → Value) (cy_by : ClassId) (f_by : Nat → Int32) (p1 : Int32) : Met l yX5_take (Ws yX5_take cX5_take 3 none) ({ frames := 0, cells := 0, slots := 0, locals := 0 }) (PRE (dC, dI) cls [(cy_by, .int)] [(h_rd, .inr (4, [.ref h_by, .int 4, (v_rd 2), (v_rd 3), (v_rd 4), (v_rd 5), (v_rd 6), (v_rd 7), (v_rd 8), (v_rd 9), (v_rd 10)])), (h_by, .inl (cy_by, 600, .inl f_by))] sz [.ref h_rd, .int p1]) (va_Qv (fun (_ : (Nat → Int32)) => True) (fun (u : (Nat → Int32)) (t : State) => va_P (dC, dI) cls [(h_rd, .inr (4, [.ref h_by, .int 8, (v_rd 2), (v_rd 3), (v_rd 4), (v_rd 5), (v_rd 6), (v_rd 7), (v_rd 8), (v_rd 9), (v_rd 10)])), (h_by, .inl (cy_by, 600, .inl u))] t.heap ∧ va_K (dC, dI) cls [] t ∧ va_D (va_A [(h_rd, .inr (4, [.ref h_by, .int 4, (v_rd 2), (v_rd 3), (v_rd 4), (v_rd 5), (v_rd 6), (v_rd 7), (v_rd 8), (v_rd 9), (v_rd 10)])), (h_by, .inl (cy_by, 600, .inl f_by))] sz) [(h_rd, .inr (4, [.ref h_by, .int 8, (v_rd 2), (v_rd 3), (v_rd 4), (v_rd 5), (v_rd 6), (v_rd 7), (v_rd 8), (v_rd 9), (v_rd 10)])), (h_by, .inl (cy_by, 600, .inl u))]) (va_A [(h_rd, .inr (4, [.ref h_by, .int 4, (v_rd 2), (v_rd 3), (v_rd 4), (v_rd 5), (v_rd 6), (v_rd 7), (v_rd 8), (v_rd 9), (v_rd 10)])), (h_by, .inl (cy_by, 600, .inl f_by))] sz)) 0 0 (va_A [(h_rd, .inr (4, [.ref h_by, .int 4, (v_rd 2), (v_rd 3), (v_rd 4), (v_rd 5), (v_rd 6), (v_rd 7), (v_rd 8), (v_rd 9), (v_rd 10)])), (h_by, .inl (cy_by, 600, .inl f_by))] sz) := by
  refine Met.ofW (cc := cX5_take) (maxL := 3) (ret := none) (by decide) rfl ?_
  intro p e s m args below meth c s₁ B hml hv
  obtain ⟨rfl, hsz, hP, hK, hD0, hN⟩ := hv
  have hx := B.exec
  have hb := B.bytes
  have hr := B.returns
  have hts := atoms_spec (ws := Ws yX5_take cX5_take 3 none) B.pre
  have hT : ∀ w ∈ WALL, w ∈ Ws yX5_take cX5_take 3 none := fun w h => List.mem_cons_of_mem _ h
  have hw := fun w (h : w ∈ WALL) => hts w (hT w h)
  have hown : s.vm.findClass RX5 = some m.cls := findClass_of_methodNamed B.named
  have hlocks := B.notSynchronized
  subst hsz
  have hD := hD0.self (sz := s.heap.size)
  generalize hAe : va_A [(h_rd, .inr (4, [.ref h_by, .int 4, (v_rd 2), (v_rd 3), (v_rd 4), (v_rd 5), (v_rd 6), (v_rd 7), (v_rd 8), (v_rd 9), (v_rd 10)])), (h_by, .inl (cy_by, 600, .inl f_by))] s.heap.size = A at hD ⊢
  have hA : ∀ q : Nat, s.heap.size ≤ q → A q := fun q h => by rw [← hAe]; exact Or.inr h
  have hS : va_S A s.heap s.heap [] := va_S.rf
  have hl := lv_entry ([.ref h_rd, .int p1]) (n := 3) (Nat.le_of_ble_eq_true rfl)
  rw [lg_entry_eq]
  generalize (lg_sl ([.ref h_rd, .int p1]) ++ List.replicate (3 - (lg_sl ([.ref h_rd, .int p1])).length) Slot.unset).toArray = ls at hl ⊢
  have hl : lv_has ls 3 [(0, .ref h_rd), (1, .int p1)] := hl
  refine lv_bipush (v := 24) hx hb dX5_take_0 (by decide) ?_
  refine lv_istore_n (lv' := [(2, .int 24), (0, .ref h_rd), (1, .int p1)]) hx hb dX5_take_2 rfl hl (by decide) rfl (fun ls hl => ?_)
  refine lv_iload_n hx hb dX5_take_3 rfl (lv_at hl 0 rfl) ?_
  refine lv_if_lt (tgt := 46) hx hb dX5_take_4 (by decide) (fun c9 => absurd c9 (by decide)) (fun _ => ?_)
  refine lv_aload_n hx hb dX5_take_7 rfl (lv_at hl 1 rfl) ?_
  refine va_get (D := (dC, dI)) (ci := 4) (v := .int 4) (C := RX5) (T := TX5) (N := 11) hx hb hw iwX5 hown hK hP 0 rfl rfl 1 (by decide) (hw _ w_f_X5_22) (fun _ h9 => h9) rfl dX5_take_8 ?_
  refine lv_sipush (v := 600) hx hb dX5_take_11 (by decide) ?_
  refine lv_icmp_ge (tgt := 46) hx hb dX5_take_14 (by decide) (fun c9 => absurd c9 (by decide)) (fun _ => ?_)
  refine lv_aload_n hx hb dX5_take_17 rfl (lv_at hl 1 rfl) ?_
  refine va_get (D := (dC, dI)) (ci := 4) (v := .ref h_by) (C := RX5) (T := TX5) (N := 11) hx hb hw iwX5 hown hK hP 0 rfl rfl 0 (by decide) (hw _ w_f_X5_9) (fun _ h9 => h9) rfl dX5_take_18 ?_
  refine lv_aload_n hx hb dX5_take_21 rfl (lv_at hl 1 rfl) ?_
  refine lv_dup hx hb dX5_take_22 rfl ?_
  refine va_get (D := (dC, dI)) (ci := 4) (v := .int 4) (C := RX5) (T := TX5) (N := 11) hx hb hw iwX5 hown hK hP 0 rfl rfl 1 (by decide) (hw _ w_f_X5_22) (fun _ h9 => h9) rfl dX5_take_23 ?_
  refine lv_dup_x1 hx hb dX5_take_26 rfl rfl ?_
  refine lv_iconst (v := 1) hx hb dX5_take_27 (by decide) ?_
  refine lv_iadd hx hb dX5_take_28 ?_
  refine lv_topi (fun z1 ez1 => ?_)
  obtain rfl : z1 = 5 := ez1.trans (by decide)
  refine va_put (D := (dC, dI)) (ci := 4) (v := .int 5) (ty := tyX5 1) (C := RX5) (T := TX5) (N := 11) hx hb hw iwX5 tyX5 tyX5_ok nmX5 hown hK hP hD hS 0 rfl rfl 1 (by decide) (hw _ w_f_X5_22) (fun _ h9 => h9) rfl (tyX5_ok 1 (by decide)) rfl rfl (Nat.le_of_ble_eq_true rfl) dX5_take_29 (fun H locs hP hD hS => ?_)
  have hP : va_P (dC, dI) cls [(h_rd, .inr (4, [.ref h_by, .int 5, (v_rd 2), (v_rd 3), (v_rd 4), (v_rd 5), (v_rd 6), (v_rd 7), (v_rd 8), (v_rd 9), (v_rd 10)])), (h_by, .inl (cy_by, 600, .inl f_by))] H := hP
  have hD : va_D A [(h_rd, .inr (4, [.ref h_by, .int 5, (v_rd 2), (v_rd 3), (v_rd 4), (v_rd 5), (v_rd 6), (v_rd 7), (v_rd 8), (v_rd 9), (v_rd 10)])), (h_by, .inl (cy_by, 600, .inl f_by))] := hD
  refine lv_iload_n hx hb dX5_take_32 rfl (lv_at hl 2 rfl) ?_
  refine lv_iload_n hx hb dX5_take_33 rfl (lv_at hl 0 rfl) ?_
  refine lv_ishr hx hb dX5_take_34 ?_
  refine lv_topi (fun z2 ez2 => ?_)
  refine lv_sipush (v := 255) hx hb dX5_take_35 (by decide) ?_
  refine lv_iand hx hb dX5_take_38 ?_
  refine lv_topi (fun z3 ez3 => ?_)
  refine va_iast hx hb hK hP hD hS 1 0 rfl rfl (i := 4) (x := z3) (show ¬ _ from by decide) dX5_take_39 (fun H locs hP hD hS => ?_)
  obtain ⟨f4, ef4⟩ : ∃ g : Nat → Int32, g = upd f_by (Int32.toNatClampNeg 4) z3 := ⟨_, rfl⟩
  have hP : va_P (dC, dI) cls [(h_rd, .inr (4, [.ref h_by, .int 5, (v_rd 2), (v_rd 3), (v_rd 4), (v_rd 5), (v_rd 6), (v_rd 7), (v_rd 8), (v_rd 9), (v_rd 10)])), (h_by, .inl (cy_by, 600, .inl f4))] H := by rw [ef4]; exact hP
  have hD : va_D A [(h_rd, .inr (4, [.ref h_by, .int 5, (v_rd 2), (v_rd 3), (v_rd 4), (v_rd 5), (v_rd 6), (v_rd 7), (v_rd 8), (v_rd 9), (v_rd 10)])), (h_by, .inl (cy_by, 600, .inl f4))] := by rw [ef4]; exact hD
  clear ef4
  refine lv_iinc (v := 16) (lv' := [(2, .int 16), (0, .ref h_rd), (1, .int p1)]) hx hb dX5_take_40 hl (k := 0) rfl (by decide) (by decide) rfl (fun ls hl => ?_)
  refine lv_goto (tgt := 3) hx hb dX5_take_43 (by decide) ?_
  refine lv_iload_n hx hb dX5_take_3 rfl (lv_at hl 0 rfl) ?_
  refine lv_if_lt (tgt := 46) hx hb dX5_take_4 (by decide) (fun c9 => absurd c9 (by decide)) (fun _ => ?_)
  refine lv_aload_n hx hb dX5_take_7 rfl (lv_at hl 1 rfl) ?_
  refine va_get (D := (dC, dI)) (ci := 4) (v := .int 5) (C := RX5) (T := TX5) (N := 11) hx hb hw iwX5 hown hK hP 0 rfl rfl 1 (by decide) (hw _ w_f_X5_22) (fun _ h9 => h9) rfl dX5_take_8 ?_
  refine lv_sipush (v := 600) hx hb dX5_take_11 (by decide) ?_
  refine lv_icmp_ge (tgt := 46) hx hb dX5_take_14 (by decide) (fun c9 => absurd c9 (by decide)) (fun _ => ?_)
  refine lv_aload_n hx hb dX5_take_17 rfl (lv_at hl 1 rfl) ?_
  refine va_get (D := (dC, dI)) (ci := 4) (v := .ref h_by) (C := RX5) (T := TX5) (N := 11) hx hb hw iwX5 hown hK hP 0 rfl rfl 0 (by decide) (hw _ w_f_X5_9) (fun _ h9 => h9) rfl dX5_take_18 ?_
  refine lv_aload_n hx hb dX5_take_21 rfl (lv_at hl 1 rfl) ?_
  refine lv_dup hx hb dX5_take_22 rfl ?_
  refine va_get (D := (dC, dI)) (ci := 4) (v := .int 5) (C := RX5) (T := TX5) (N := 11) hx hb hw iwX5 hown hK hP 0 rfl rfl 1 (by decide) (hw _ w_f_X5_22) (fun _ h9 => h9) rfl dX5_take_23 ?_
  refine lv_dup_x1 hx hb dX5_take_26 rfl rfl ?_
  refine lv_iconst (v := 1) hx hb dX5_take_27 (by decide) ?_
  refine lv_iadd hx hb dX5_take_28 ?_
  refine lv_topi (fun z5 ez5 => ?_)
  obtain rfl : z5 = 6 := ez5.trans (by decide)
  refine va_put (D := (dC, dI)) (ci := 4) (v := .int 6) (ty := tyX5 1) (C := RX5) (T := TX5) (N := 11) hx hb hw iwX5 tyX5 tyX5_ok nmX5 hown hK hP hD hS 0 rfl rfl 1 (by decide) (hw _ w_f_X5_22) (fun _ h9 => h9) rfl (tyX5_ok 1 (by decide)) rfl rfl (Nat.le_of_ble_eq_true rfl) dX5_take_29 (fun H locs hP hD hS => ?_)
  have hP : va_P (dC, dI) cls [(h_rd, .inr (4, [.ref h_by, .int 6, (v_rd 2), (v_rd 3), (v_rd 4), (v_rd 5), (v_rd 6), (v_rd 7), (v_rd 8), (v_rd 9), (v_rd 10)])), (h_by, .inl (cy_by, 600, .inl f4))] H := hP
  have hD : va_D A [(h_rd, .inr (4, [.ref h_by, .int 6, (v_rd 2), (v_rd 3), (v_rd 4), (v_rd 5), (v_rd 6), (v_rd 7), (v_rd 8), (v_rd 9), (v_rd 10)])), (h_by, .inl (cy_by, 600, .inl f4))] := hD
  refine lv_iload_n hx hb dX5_take_32 rfl (lv_at hl 2 rfl) ?_
  refine lv_iload_n hx hb dX5_take_33 rfl (lv_at hl 0 rfl) ?_
  refine lv_ishr hx hb dX5_take_34 ?_
  refine lv_topi (fun z6 ez6 => ?_)
  refine lv_sipush (v := 255) hx hb dX5_take_35 (by decide) ?_
  refine lv_iand hx hb dX5_take_38 ?_
  refine lv_topi (fun z7 ez7 => ?_)
  refine va_iast hx hb hK hP hD hS 1 0 rfl rfl (i := 5) (x := z7) (show ¬ _ from by decide) dX5_take_39 (fun H locs hP hD hS => ?_)
  obtain ⟨f8, ef8⟩ : ∃ g : Nat → Int32, g = upd f4 (Int32.toNatClampNeg 5) z7 := ⟨_, rfl⟩
  have hP : va_P (dC, dI) cls [(h_rd, .inr (4, [.ref h_by, .int 6, (v_rd 2), (v_rd 3), (v_rd 4), (v_rd 5), (v_rd 6), (v_rd 7), (v_rd 8), (v_rd 9), (v_rd 10)])), (h_by, .inl (cy_by, 600, .inl f8))] H := by rw [ef8]; exact hP
  have hD : va_D A [(h_rd, .inr (4, [.ref h_by, .int 6, (v_rd 2), (v_rd 3), (v_rd 4), (v_rd 5), (v_rd 6), (v_rd 7), (v_rd 8), (v_rd 9), (v_rd 10)])), (h_by, .inl (cy_by, 600, .inl f8))] := by rw [ef8]; exact hD
  clear ef8
  refine lv_iinc (v := 8) (lv' := [(2, .int 8), (0, .ref h_rd), (1, .int p1)]) hx hb dX5_take_40 hl (k := 0) rfl (by decide) (by decide) rfl (fun ls hl => ?_)
  refine lv_goto (tgt := 3) hx hb dX5_take_43 (by decide) ?_
  refine lv_iload_n hx hb dX5_take_3 rfl (lv_at hl 0 rfl) ?_
  refine lv_if_lt (tgt := 46) hx hb dX5_take_4 (by decide) (fun c9 => absurd c9 (by decide)) (fun _ => ?_)
  refine lv_aload_n hx hb dX5_take_7 rfl (lv_at hl 1 rfl) ?_
  refine va_get (D := (dC, dI)) (ci := 4) (v := .int 6) (C := RX5) (T := TX5) (N := 11) hx hb hw iwX5 hown hK hP 0 rfl rfl 1 (by decide) (hw _ w_f_X5_22) (fun _ h9 => h9) rfl dX5_take_8 ?_
  refine lv_sipush (v := 600) hx hb dX5_take_11 (by decide) ?_
  refine lv_icmp_ge (tgt := 46) hx hb dX5_take_14 (by decide) (fun c9 => absurd c9 (by decide)) (fun _ => ?_)
  refine lv_aload_n hx hb dX5_take_17 rfl (lv_at hl 1 rfl) ?_
  refine va_get (D := (dC, dI)) (ci := 4) (v := .ref h_by) (C := RX5) (T := TX5) (N := 11) hx hb hw iwX5 hown hK hP 0 rfl rfl 0 (by decide) (hw _ w_f_X5_9) (fun _ h9 => h9) rfl dX5_take_18 ?_
  refine lv_aload_n hx hb dX5_take_21 rfl (lv_at hl 1 rfl) ?_
  refine lv_dup hx hb dX5_take_22 rfl ?_
  refine va_get (D := (dC, dI)) (ci := 4) (v := .int 6) (C := RX5) (T := TX5) (N := 11) hx hb hw iwX5 hown hK hP 0 rfl rfl 1 (by decide) (hw _ w_f_X5_22) (fun _ h9 => h9) rfl dX5_take_23 ?_
  refine lv_dup_x1 hx hb dX5_take_26 rfl rfl ?_
  refine lv_iconst (v := 1) hx hb dX5_take_27 (by decide) ?_
  refine lv_iadd hx hb dX5_take_28 ?_
  refine lv_topi (fun z9 ez9 => ?_)
  obtain rfl : z9 = 7 := ez9.trans (by decide)
  refine va_put (D := (dC, dI)) (ci := 4) (v := .int 7) (ty := tyX5 1) (C := RX5) (T := TX5) (N := 11) hx hb hw iwX5 tyX5 tyX5_ok nmX5 hown hK hP hD hS 0 rfl rfl 1 (by decide) (hw _ w_f_X5_22) (fun _ h9 => h9) rfl (tyX5_ok 1 (by decide)) rfl rfl (Nat.le_of_ble_eq_true rfl) dX5_take_29 (fun H locs hP hD hS => ?_)
  have hP : va_P (dC, dI) cls [(h_rd, .inr (4, [.ref h_by, .int 7, (v_rd 2), (v_rd 3), (v_rd 4), (v_rd 5), (v_rd 6), (v_rd 7), (v_rd 8), (v_rd 9), (v_rd 10)])), (h_by, .inl (cy_by, 600, .inl f8))] H := hP
  have hD : va_D A [(h_rd, .inr (4, [.ref h_by, .int 7, (v_rd 2), (v_rd 3), (v_rd 4), (v_rd 5), (v_rd 6), (v_rd 7), (v_rd 8), (v_rd 9), (v_rd 10)])), (h_by, .inl (cy_by, 600, .inl f8))] := hD
  refine lv_iload_n hx hb dX5_take_32 rfl (lv_at hl 2 rfl) ?_
  refine lv_iload_n hx hb dX5_take_33 rfl (lv_at hl 0 rfl) ?_
  refine lv_ishr hx hb dX5_take_34 ?_
  refine lv_topi (fun z10 ez10 => ?_)
  refine lv_sipush (v := 255) hx hb dX5_take_35 (by decide) ?_
  refine lv_iand hx hb dX5_take_38 ?_
  refine lv_topi (fun z11 ez11 => ?_)
  refine va_iast hx hb hK hP hD hS 1 0 rfl rfl (i := 6) (x := z11) (show ¬ _ from by decide) dX5_take_39 (fun H locs hP hD hS => ?_)
  obtain ⟨f12, ef12⟩ : ∃ g : Nat → Int32, g = upd f8 (Int32.toNatClampNeg 6) z11 := ⟨_, rfl⟩
  have hP : va_P (dC, dI) cls [(h_rd, .inr (4, [.ref h_by, .int 7, (v_rd 2), (v_rd 3), (v_rd 4), (v_rd 5), (v_rd 6), (v_rd 7), (v_rd 8), (v_rd 9), (v_rd 10)])), (h_by, .inl (cy_by, 600, .inl f12))] H := by rw [ef12]; exact hP
  have hD : va_D A [(h_rd, .inr (4, [.ref h_by, .int 7, (v_rd 2), (v_rd 3), (v_rd 4), (v_rd 5), (v_rd 6), (v_rd 7), (v_rd 8), (v_rd 9), (v_rd 10)])), (h_by, .inl (cy_by, 600, .inl f12))] := by rw [ef12]; exact hD
  clear ef12
  refine lv_iinc (v := 0) (lv' := [(2, .int 0), (0, .ref h_rd), (1, .int p1)]) hx hb dX5_take_40 hl (k := 0) rfl (by decide) (by decide) rfl (fun ls hl => ?_)
  refine lv_goto (tgt := 3) hx hb dX5_take_43 (by decide) ?_
  refine lv_iload_n hx hb dX5_take_3 rfl (lv_at hl 0 rfl) ?_
  refine lv_if_lt (tgt := 46) hx hb dX5_take_4 (by decide) (fun c9 => absurd c9 (by decide)) (fun _ => ?_)
  refine lv_aload_n hx hb dX5_take_7 rfl (lv_at hl 1 rfl) ?_
  refine va_get (D := (dC, dI)) (ci := 4) (v := .int 7) (C := RX5) (T := TX5) (N := 11) hx hb hw iwX5 hown hK hP 0 rfl rfl 1 (by decide) (hw _ w_f_X5_22) (fun _ h9 => h9) rfl dX5_take_8 ?_
  refine lv_sipush (v := 600) hx hb dX5_take_11 (by decide) ?_
  refine lv_icmp_ge (tgt := 46) hx hb dX5_take_14 (by decide) (fun c9 => absurd c9 (by decide)) (fun _ => ?_)
  refine lv_aload_n hx hb dX5_take_17 rfl (lv_at hl 1 rfl) ?_
  refine va_get (D := (dC, dI)) (ci := 4) (v := .ref h_by) (C := RX5) (T := TX5) (N := 11) hx hb hw iwX5 hown hK hP 0 rfl rfl 0 (by decide) (hw _ w_f_X5_9) (fun _ h9 => h9) rfl dX5_take_18 ?_
  refine lv_aload_n hx hb dX5_take_21 rfl (lv_at hl 1 rfl) ?_
  refine lv_dup hx hb dX5_take_22 rfl ?_
  refine va_get (D := (dC, dI)) (ci := 4) (v := .int 7) (C := RX5) (T := TX5) (N := 11) hx hb hw iwX5 hown hK hP 0 rfl rfl 1 (by decide) (hw _ w_f_X5_22) (fun _ h9 => h9) rfl dX5_take_23 ?_
  refine lv_dup_x1 hx hb dX5_take_26 rfl rfl ?_
  refine lv_iconst (v := 1) hx hb dX5_take_27 (by decide) ?_
  refine lv_iadd hx hb dX5_take_28 ?_
  refine lv_topi (fun z13 ez13 => ?_)
  obtain rfl : z13 = 8 := ez13.trans (by decide)
  refine va_put (D := (dC, dI)) (ci := 4) (v := .int 8) (ty := tyX5 1) (C := RX5) (T := TX5) (N := 11) hx hb hw iwX5 tyX5 tyX5_ok nmX5 hown hK hP hD hS 0 rfl rfl 1 (by decide) (hw _ w_f_X5_22) (fun _ h9 => h9) rfl (tyX5_ok 1 (by decide)) rfl rfl (Nat.le_of_ble_eq_true rfl) dX5_take_29 (fun H locs hP hD hS => ?_)
  have hP : va_P (dC, dI) cls [(h_rd, .inr (4, [.ref h_by, .int 8, (v_rd 2), (v_rd 3), (v_rd 4), (v_rd 5), (v_rd 6), (v_rd 7), (v_rd 8), (v_rd 9), (v_rd 10)])), (h_by, .inl (cy_by, 600, .inl f12))] H := hP
  have hD : va_D A [(h_rd, .inr (4, [.ref h_by, .int 8, (v_rd 2), (v_rd 3), (v_rd 4), (v_rd 5), (v_rd 6), (v_rd 7), (v_rd 8), (v_rd 9), (v_rd 10)])), (h_by, .inl (cy_by, 600, .inl f12))] := hD
  refine lv_iload_n hx hb dX5_take_32 rfl (lv_at hl 2 rfl) ?_
  refine lv_iload_n hx hb dX5_take_33 rfl (lv_at hl 0 rfl) ?_
  refine lv_ishr hx hb dX5_take_34 ?_
  refine lv_topi (fun z14 ez14 => ?_)
  refine lv_sipush (v := 255) hx hb dX5_take_35 (by decide) ?_
  refine lv_iand hx hb dX5_take_38 ?_
  refine lv_topi (fun z15 ez15 => ?_)
  refine va_iast hx hb hK hP hD hS 1 0 rfl rfl (i := 7) (x := z15) (show ¬ _ from by decide) dX5_take_39 (fun H locs hP hD hS => ?_)
  obtain ⟨f16, ef16⟩ : ∃ g : Nat → Int32, g = upd f12 (Int32.toNatClampNeg 7) z15 := ⟨_, rfl⟩
  have hP : va_P (dC, dI) cls [(h_rd, .inr (4, [.ref h_by, .int 8, (v_rd 2), (v_rd 3), (v_rd 4), (v_rd 5), (v_rd 6), (v_rd 7), (v_rd 8), (v_rd 9), (v_rd 10)])), (h_by, .inl (cy_by, 600, .inl f16))] H := by rw [ef16]; exact hP
  have hD : va_D A [(h_rd, .inr (4, [.ref h_by, .int 8, (v_rd 2), (v_rd 3), (v_rd 4), (v_rd 5), (v_rd 6), (v_rd 7), (v_rd 8), (v_rd 9), (v_rd 10)])), (h_by, .inl (cy_by, 600, .inl f16))] := by rw [ef16]; exact hD
  clear ef16
  refine lv_iinc (v := (-8)) (lv' := [(2, .int (-8)), (0, .ref h_rd), (1, .int p1)]) hx hb dX5_take_40 hl (k := 0) rfl (by decide) (by decide) rfl (fun ls hl => ?_)
  refine lv_goto (tgt := 3) hx hb dX5_take_43 (by decide) ?_
  refine lv_iload_n hx hb dX5_take_3 rfl (lv_at hl 0 rfl) ?_
  refine lv_if_lt (tgt := 46) hx hb dX5_take_4 (by decide) (fun _ => ?_) (fun c9 => absurd c9 (by decide))
  refine W.widen (k := 0) (n := 0) (Nat.le_of_ble_eq_true rfl) (Nat.le_of_ble_eq_true rfl) ?_
  have hK9 := hK.sub (tys' := []) [] rfl
  exact W.vret hx hb hr (fun t ht hW => ⟨⟨f16, rfl, trivial, by rw [ht]; exact hP, va_K.moved hW.alike hK9, hD⟩, hS.F ht⟩) hS.2.2 dX5_take_46

set_option maxHeartbeats 4000000 in
set_option maxRecDepth 100000 in
theorem c_X5_take_8 (l : Launch) (dC : Nat → ClassId) (dI : Nat → Nat → Nat) (sz : Nat) (h_rd : Nat) (h_by : Nat) (v_rd : Nat → Value) (cy_by : ClassId) (f_by : Nat → Int32) (p1 : Int32) : Met l yX5_take (Ws yX5_take cX5_take 3 none) ({ frames := 0, cells := 0, slots := 0, locals := 0 }) (PRE (dC, dI) cls [(cy_by, .int)] [(h_rd, .inr (4, [.ref h_by, .int 8, (v_rd 2), (v_rd 3), (v_rd 4), (v_rd 5), (v_rd 6), (v_rd 7), (v_rd 8), (v_rd 9), (v_rd 10)])), (h_by, .inl (cy_by, 600, .inl f_by))] sz [.ref h_rd, .int p1]) (va_Qv (fun (_ : (Nat → Int32)) => True) (fun (u : (Nat → Int32)) (t : State) => va_P (dC, dI) cls [(h_rd, .inr (4, [.ref h_by, .int 12, (v_rd 2), (v_rd 3), (v_rd 4), (v_rd 5), (v_rd 6), (v_rd 7), (v_rd 8), (v_rd 9), (v_rd 10)])), (h_by, .inl (cy_by, 600, .inl u))] t.heap ∧ va_K (dC, dI) cls [] t ∧ va_D (va_A [(h_rd, .inr (4, [.ref h_by, .int 8, (v_rd 2), (v_rd 3), (v_rd 4), (v_rd 5), (v_rd 6), (v_rd 7), (v_rd 8), (v_rd 9), (v_rd 10)])), (h_by, .inl (cy_by, 600, .inl f_by))] sz) [(h_rd, .inr (4, [.ref h_by, .int 12, (v_rd 2), (v_rd 3), (v_rd 4), (v_rd 5), (v_rd 6), (v_rd 7), (v_rd 8), (v_rd 9), (v_rd 10)])), (h_by, .inl (cy_by, 600, .inl u))]) (va_A [(h_rd, .inr (4, [.ref h_by, .int 8, (v_rd 2), (v_rd 3), (v_rd 4), (v_rd 5), (v_rd 6), (v_rd 7), (v_rd 8), (v_rd 9), (v_rd 10)])), (h_by, .inl (cy_by, 600, .inl f_by))] sz)) 0 0 (va_A [(h_rd, .inr (4, [.ref h_by, .int 8, (v_rd 2), (v_rd 3), (v_rd 4), (v_rd 5), (v_rd 6), (v_rd 7), (v_rd 8), (v_rd 9), (v_rd 10)])), (h_by, .inl (cy_by, 600, .inl f_by))] sz) := by
  refine Met.ofW (cc := cX5_take) (maxL := 3) (ret := none) (by decide) rfl ?_
  intro p e s m args below meth c s₁ B hml hv
  obtain ⟨rfl, hsz, hP, hK, hD0, hN⟩ := hv
  have hx := B.exec
  have hb := B.bytes
  have hr := B.returns
  have hts := atoms_spec (ws := Ws yX5_take cX5_take 3 none) B.pre
  have hT : ∀ w ∈ WALL, w ∈ Ws yX5_take cX5_take 3 none := fun w h => List.mem_cons_of_mem _ h
  have hw := fun w (h : w ∈ WALL) => hts w (hT w h)
  have hown : s.vm.findClass RX5 = some m.cls := findClass_of_methodNamed B.named
  have hlocks := B.notSynchronized
  subst hsz
  have hD := hD0.self (sz := s.heap.size)
  generalize hAe : va_A [(h_rd, .inr (4, [.ref h_by, .int 8, (v_rd 2), (v_rd 3), (v_rd 4), (v_rd 5), (v_rd 6), (v_rd 7), (v_rd 8), (v_rd 9), (v_rd 10)])), (h_by, .inl (cy_by, 600, .inl f_by))] s.heap.size = A at hD ⊢
  have hA : ∀ q : Nat, s.heap.size ≤ q → A q := fun q h => by rw [← hAe]; exact Or.inr h
  have hS : va_S A s.heap s.heap [] := va_S.rf
  have hl := lv_entry ([.ref h_rd, .int p1]) (n := 3) (Nat.le_of_ble_eq_true rfl)
  rw [lg_entry_eq]
  generalize (lg_sl ([.ref h_rd, .int p1]) ++ List.replicate (3 - (lg_sl ([.ref h_rd, .int p1])).length) Slot.unset).toArray = ls at hl ⊢
  have hl : lv_has ls 3 [(0, .ref h_rd), (1, .int p1)] := hl
  refine lv_bipush (v := 24) hx hb dX5_take_0 (by decide) ?_
  refine lv_istore_n (lv' := [(2, .int 24), (0, .ref h_rd), (1, .int p1)]) hx hb dX5_take_2 rfl hl (by decide) rfl (fun ls hl => ?_)
  refine lv_iload_n hx hb dX5_take_3 rfl (lv_at hl 0 rfl) ?_
  refine lv_if_lt (tgt := 46) hx hb dX5_take_4 (by decide) (fun c9 => absurd c9 (by decide)) (fun _ => ?_)
  refine lv_aload_n hx hb dX5_take_7 rfl (lv_at hl 1 rfl) ?_
  refine va_get (D := (dC, dI)) (ci := 4) (v := .int 8) (C := RX5) (T := TX5) (N := 11) hx hb hw iwX5 hown hK hP 0 rfl rfl 1 (by decide) (hw _ w_f_X5_22) (fun _ h9 => h9) rfl dX5_take_8 ?_
  refine lv_sipush (v := 600) hx hb dX5_take_11 (by decide) ?_
  refine lv_icmp_ge (tgt := 46) hx hb dX5_take_14 (by decide) (fun c9 => absurd c9 (by decide)) (fun _ => ?_)
  refine lv_aload_n hx hb dX5_take_17 rfl (lv_at hl 1 rfl) ?_
  refine va_get (D := (dC, dI)) (ci := 4) (v := .ref h_by) (C := RX5) (T := TX5) (N := 11) hx hb hw iwX5 hown hK hP 0 rfl rfl 0 (by decide) (hw _ w_f_X5_9) (fun _ h9 => h9) rfl dX5_take_18 ?_
  refine lv_aload_n hx hb dX5_take_21 rfl (lv_at hl 1 rfl) ?_
  refine lv_dup hx hb dX5_take_22 rfl ?_
  refine va_get (D := (dC, dI)) (ci := 4) (v := .int 8) (C := RX5) (T := TX5) (N := 11) hx hb hw iwX5 hown hK hP 0 rfl rfl 1 (by decide) (hw _ w_f_X5_22) (fun _ h9 => h9) rfl dX5_take_23 ?_
  refine lv_dup_x1 hx hb dX5_take_26 rfl rfl ?_
  refine lv_iconst (v := 1) hx hb dX5_take_27 (by decide) ?_
  refine lv_iadd hx hb dX5_take_28 ?_
  refine lv_topi (fun z1 ez1 => ?_)
  obtain rfl : z1 = 9 := ez1.trans (by decide)
  refine va_put (D := (dC, dI)) (ci := 4) (v := .int 9) (ty := tyX5 1) (C := RX5) (T := TX5) (N := 11) hx hb hw iwX5 tyX5 tyX5_ok nmX5 hown hK hP hD hS 0 rfl rfl 1 (by decide) (hw _ w_f_X5_22) (fun _ h9 => h9) rfl (tyX5_ok 1 (by decide)) rfl rfl (Nat.le_of_ble_eq_true rfl) dX5_take_29 (fun H locs hP hD hS => ?_)
  have hP : va_P (dC, dI) cls [(h_rd, .inr (4, [.ref h_by, .int 9, (v_rd 2), (v_rd 3), (v_rd 4), (v_rd 5), (v_rd 6), (v_rd 7), (v_rd 8), (v_rd 9), (v_rd 10)])), (h_by, .inl (cy_by, 600, .inl f_by))] H := hP
  have hD : va_D A [(h_rd, .inr (4, [.ref h_by, .int 9, (v_rd 2), (v_rd 3), (v_rd 4), (v_rd 5), (v_rd 6), (v_rd 7), (v_rd 8), (v_rd 9), (v_rd 10)])), (h_by, .inl (cy_by, 600, .inl f_by))] := hD
  refine lv_iload_n hx hb dX5_take_32 rfl (lv_at hl 2 rfl) ?_
  refine lv_iload_n hx hb dX5_take_33 rfl (lv_at hl 0 rfl) ?_
  refine lv_ishr hx hb dX5_take_34 ?_
  refine lv_topi (fun z2 ez2 => ?_)
  refine lv_sipush (v := 255) hx hb dX5_take_35 (by decide) ?_
  refine lv_iand hx hb dX5_take_38 ?_
  refine lv_topi (fun z3 ez3 => ?_)
  refine va_iast hx hb hK hP hD hS 1 0 rfl rfl (i := 8) (x := z3) (show ¬ _ from by decide) dX5_take_39 (fun H locs hP hD hS => ?_)
  obtain ⟨f4, ef4⟩ : ∃ g : Nat → Int32, g = upd f_by (Int32.toNatClampNeg 8) z3 := ⟨_, rfl⟩
  have hP : va_P (dC, dI) cls [(h_rd, .inr (4, [.ref h_by, .int 9, (v_rd 2), (v_rd 3), (v_rd 4), (v_rd 5), (v_rd 6), (v_rd 7), (v_rd 8), (v_rd 9), (v_rd 10)])), (h_by, .inl (cy_by, 600, .inl f4))] H := by rw [ef4]; exact hP
  have hD : va_D A [(h_rd, .inr (4, [.ref h_by, .int 9, (v_rd 2), (v_rd 3), (v_rd 4), (v_rd 5), (v_rd 6), (v_rd 7), (v_rd 8), (v_rd 9), (v_rd 10)])), (h_by, .inl (cy_by, 600, .inl f4))] := by rw [ef4]; exact hD
  clear ef4
  refine lv_iinc (v := 16) (lv' := [(2, .int 16), (0, .ref h_rd), (1, .int p1)]) hx hb dX5_take_40 hl (k := 0) rfl (by decide) (by decide) rfl (fun ls hl => ?_)
  refine lv_goto (tgt := 3) hx hb dX5_take_43 (by decide) ?_
  refine lv_iload_n hx hb dX5_take_3 rfl (lv_at hl 0 rfl) ?_
  refine lv_if_lt (tgt := 46) hx hb dX5_take_4 (by decide) (fun c9 => absurd c9 (by decide)) (fun _ => ?_)
  refine lv_aload_n hx hb dX5_take_7 rfl (lv_at hl 1 rfl) ?_
  refine va_get (D := (dC, dI)) (ci := 4) (v := .int 9) (C := RX5) (T := TX5) (N := 11) hx hb hw iwX5 hown hK hP 0 rfl rfl 1 (by decide) (hw _ w_f_X5_22) (fun _ h9 => h9) rfl dX5_take_8 ?_
  refine lv_sipush (v := 600) hx hb dX5_take_11 (by decide) ?_
  refine lv_icmp_ge (tgt := 46) hx hb dX5_take_14 (by decide) (fun c9 => absurd c9 (by decide)) (fun _ => ?_)
  refine lv_aload_n hx hb dX5_take_17 rfl (lv_at hl 1 rfl) ?_
  refine va_get (D := (dC, dI)) (ci := 4) (v := .ref h_by) (C := RX5) (T := TX5) (N := 11) hx hb hw iwX5 hown hK hP 0 rfl rfl 0 (by decide) (hw _ w_f_X5_9) (fun _ h9 => h9) rfl dX5_take_18 ?_
  refine lv_aload_n hx hb dX5_take_21 rfl (lv_at hl 1 rfl) ?_
  refine lv_dup hx hb dX5_take_22 rfl ?_
  refine va_get (D := (dC, dI)) (ci := 4) (v := .int 9) (C := RX5) (T := TX5) (N := 11) hx hb hw iwX5 hown hK hP 0 rfl rfl 1 (by decide) (hw _ w_f_X5_22) (fun _ h9 => h9) rfl dX5_take_23 ?_
  refine lv_dup_x1 hx hb dX5_take_26 rfl rfl ?_
  refine lv_iconst (v := 1) hx hb dX5_take_27 (by decide) ?_
  refine lv_iadd hx hb dX5_take_28 ?_
  refine lv_topi (fun z5 ez5 => ?_)
  obtain rfl : z5 = 10 := ez5.trans (by decide)
  refine va_put (D := (dC, dI)) (ci := 4) (v := .int 10) (ty := tyX5 1) (C := RX5) (T := TX5) (N := 11) hx hb hw iwX5 tyX5 tyX5_ok nmX5 hown hK hP hD hS 0 rfl rfl 1 (by decide) (hw _ w_f_X5_22) (fun _ h9 => h9) rfl (tyX5_ok 1 (by decide)) rfl rfl (Nat.le_of_ble_eq_true rfl) dX5_take_29 (fun H locs hP hD hS => ?_)
  have hP : va_P (dC, dI) cls [(h_rd, .inr (4, [.ref h_by, .int 10, (v_rd 2), (v_rd 3), (v_rd 4), (v_rd 5), (v_rd 6), (v_rd 7), (v_rd 8), (v_rd 9), (v_rd 10)])), (h_by, .inl (cy_by, 600, .inl f4))] H := hP
  have hD : va_D A [(h_rd, .inr (4, [.ref h_by, .int 10, (v_rd 2), (v_rd 3), (v_rd 4), (v_rd 5), (v_rd 6), (v_rd 7), (v_rd 8), (v_rd 9), (v_rd 10)])), (h_by, .inl (cy_by, 600, .inl f4))] := hD
  refine lv_iload_n hx hb dX5_take_32 rfl (lv_at hl 2 rfl) ?_
  refine lv_iload_n hx hb dX5_take_33 rfl (lv_at hl 0 rfl) ?_
  refine lv_ishr hx hb dX5_take_34 ?_
  refine lv_topi (fun z6 ez6 => ?_)
  refine lv_sipush (v := 255) hx hb dX5_take_35 (by decide) ?_
  refine lv_iand hx hb dX5_take_38 ?_
  refine lv_topi (fun z7 ez7 => ?_)
  refine va_iast hx hb hK hP hD hS 1 0 rfl rfl (i := 9) (x := z7) (show ¬ _ from by decide) dX5_take_39 (fun H locs hP hD hS => ?_)
  obtain ⟨f8, ef8⟩ : ∃ g : Nat → Int32, g = upd f4 (Int32.toNatClampNeg 9) z7 := ⟨_, rfl⟩
  have hP : va_P (dC, dI) cls [(h_rd, .inr (4, [.ref h_by, .int 10, (v_rd 2), (v_rd 3), (v_rd 4), (v_rd 5), (v_rd 6), (v_rd 7), (v_rd 8), (v_rd 9), (v_rd 10)])), (h_by, .inl (cy_by, 600, .inl f8))] H := by rw [ef8]; exact hP
  have hD : va_D A [(h_rd, .inr (4, [.ref h_by, .int 10, (v_rd 2), (v_rd 3), (v_rd 4), (v_rd 5), (v_rd 6), (v_rd 7), (v_rd 8), (v_rd 9), (v_rd 10)])), (h_by, .inl (cy_by, 600, .inl f8))] := by rw [ef8]; exact hD
  clear ef8
  refine lv_iinc (v := 8) (lv' := [(2, .int 8), (0, .ref h_rd), (1, .int p1)]) hx hb dX5_take_40 hl (k := 0) rfl (by decide) (by decide) rfl (fun ls hl => ?_)
  refine lv_goto (tgt := 3) hx hb dX5_take_43 (by decide) ?_
  refine lv_iload_n hx hb dX5_take_3 rfl (lv_at hl 0 rfl) ?_
  refine lv_if_lt (tgt := 46) hx hb dX5_take_4 (by decide) (fun c9 => absurd c9 (by decide)) (fun _ => ?_)
  refine lv_aload_n hx hb dX5_take_7 rfl (lv_at hl 1 rfl) ?_
  refine va_get (D := (dC, dI)) (ci := 4) (v := .int 10) (C := RX5) (T := TX5) (N := 11) hx hb hw iwX5 hown hK hP 0 rfl rfl 1 (by decide) (hw _ w_f_X5_22) (fun _ h9 => h9) rfl dX5_take_8 ?_
  refine lv_sipush (v := 600) hx hb dX5_take_11 (by decide) ?_
  refine lv_icmp_ge (tgt := 46) hx hb dX5_take_14 (by decide) (fun c9 => absurd c9 (by decide)) (fun _ => ?_)
  refine lv_aload_n hx hb dX5_take_17 rfl (lv_at hl 1 rfl) ?_
  refine va_get (D := (dC, dI)) (ci := 4) (v := .ref h_by) (C := RX5) (T := TX5) (N := 11) hx hb hw iwX5 hown hK hP 0 rfl rfl 0 (by decide) (hw _ w_f_X5_9) (fun _ h9 => h9) rfl dX5_take_18 ?_
  refine lv_aload_n hx hb dX5_take_21 rfl (lv_at hl 1 rfl) ?_
  refine lv_dup hx hb dX5_take_22 rfl ?_
  refine va_get (D := (dC, dI)) (ci := 4) (v := .int 10) (C := RX5) (T := TX5) (N := 11) hx hb hw iwX5 hown hK hP 0 rfl rfl 1 (by decide) (hw _ w_f_X5_22) (fun _ h9 => h9) rfl dX5_take_23 ?_
  refine lv_dup_x1 hx hb dX5_take_26 rfl rfl ?_
  refine lv_iconst (v := 1) hx hb dX5_take_27 (by decide) ?_
  refine lv_iadd hx hb dX5_take_28 ?_
  refine lv_topi (fun z9 ez9 => ?_)
  obtain rfl : z9 = 11 := ez9.trans (by decide)
  refine va_put (D := (dC, dI)) (ci := 4) (v := .int 11) (ty := tyX5 1) (C := RX5) (T := TX5) (N := 11) hx hb hw iwX5 tyX5 tyX5_ok nmX5 hown hK hP hD hS 0 rfl rfl 1 (by decide) (hw _ w_f_X5_22) (fun _ h9 => h9) rfl (tyX5_ok 1 (by decide)) rfl rfl (Nat.le_of_ble_eq_true rfl) dX5_take_29 (fun H locs hP hD hS => ?_)
  have hP : va_P (dC, dI) cls [(h_rd, .inr (4, [.ref h_by, .int 11, (v_rd 2), (v_rd 3), (v_rd 4), (v_rd 5), (v_rd 6), (v_rd 7), (v_rd 8), (v_rd 9), (v_rd 10)])), (h_by, .inl (cy_by, 600, .inl f8))] H := hP
  have hD : va_D A [(h_rd, .inr (4, [.ref h_by, .int 11, (v_rd 2), (v_rd 3), (v_rd 4), (v_rd 5), (v_rd 6), (v_rd 7), (v_rd 8), (v_rd 9), (v_rd 10)])), (h_by, .inl (cy_by, 600, .inl f8))] := hD
  refine lv_iload_n hx hb dX5_take_32 rfl (lv_at hl 2 rfl) ?_
  refine lv_iload_n hx hb dX5_take_33 rfl (lv_at hl 0 rfl) ?_
  refine lv_ishr hx hb dX5_take_34 ?_
  refine lv_topi (fun z10 ez10 => ?_)
  refine lv_sipush (v := 255) hx hb dX5_take_35 (by decide) ?_
  refine lv_iand hx hb dX5_take_38 ?_
  refine lv_topi (fun z11 ez11 => ?_)
  refine va_iast hx hb hK hP hD hS 1 0 rfl rfl (i := 10) (x := z11) (show ¬ _ from by decide) dX5_take_39 (fun H locs hP hD hS => ?_)
  obtain ⟨f12, ef12⟩ : ∃ g : Nat → Int32, g = upd f8 (Int32.toNatClampNeg 10) z11 := ⟨_, rfl⟩
  have hP : va_P (dC, dI) cls [(h_rd, .inr (4, [.ref h_by, .int 11, (v_rd 2), (v_rd 3), (v_rd 4), (v_rd 5), (v_rd 6), (v_rd 7), (v_rd 8), (v_rd 9), (v_rd 10)])), (h_by, .inl (cy_by, 600, .inl f12))] H := by rw [ef12]; exact hP
  have hD : va_D A [(h_rd, .inr (4, [.ref h_by, .int 11, (v_rd 2), (v_rd 3), (v_rd 4), (v_rd 5), (v_rd 6), (v_rd 7), (v_rd 8), (v_rd 9), (v_rd 10)])), (h_by, .inl (cy_by, 600, .inl f12))] := by rw [ef12]; exact hD
  clear ef12
  refine lv_iinc (v := 0) (lv' := [(2, .int 0), (0, .ref h_rd), (1, .int p1)]) hx hb dX5_take_40 hl (k := 0) rfl (by decide) (by decide) rfl (fun ls hl => ?_)
  refine lv_goto (tgt := 3) hx hb dX5_take_43 (by decide) ?_
  refine lv_iload_n hx hb dX5_take_3 rfl (lv_at hl 0 rfl) ?_
  refine lv_if_lt (tgt := 46) hx hb dX5_take_4 (by decide) (fun c9 => absurd c9 (by decide)) (fun _ => ?_)
  refine lv_aload_n hx hb dX5_take_7 rfl (lv_at hl 1 rfl) ?_
  refine va_get (D := (dC, dI)) (ci := 4) (v := .int 11) (C := RX5) (T := TX5) (N := 11) hx hb hw iwX5 hown hK hP 0 rfl rfl 1 (by decide) (hw _ w_f_X5_22) (fun _ h9 => h9) rfl dX5_take_8 ?_
  refine lv_sipush (v := 600) hx hb dX5_take_11 (by decide) ?_
  refine lv_icmp_ge (tgt := 46) hx hb dX5_take_14 (by decide) (fun c9 => absurd c9 (by decide)) (fun _ => ?_)
  refine lv_aload_n hx hb dX5_take_17 rfl (lv_at hl 1 rfl) ?_
  refine va_get (D := (dC, dI)) (ci := 4) (v := .ref h_by) (C := RX5) (T := TX5) (N := 11) hx hb hw iwX5 hown hK hP 0 rfl rfl 0 (by decide) (hw _ w_f_X5_9) (fun _ h9 => h9) rfl dX5_take_18 ?_
  refine lv_aload_n hx hb dX5_take_21 rfl (lv_at hl 1 rfl) ?_
  refine lv_dup hx hb dX5_take_22 rfl ?_
  refine va_get (D := (dC, dI)) (ci := 4) (v := .int 11) (C := RX5) (T := TX5) (N := 11) hx hb hw iwX5 hown hK hP 0 rfl rfl 1 (by decide) (hw _ w_f_X5_22) (fun _ h9 => h9) rfl dX5_take_23 ?_
  refine lv_dup_x1 hx hb dX5_take_26 rfl rfl ?_
  refine lv_iconst (v := 1) hx hb dX5_take_27 (by decide) ?_
  refine lv_iadd hx hb dX5_take_28 ?_
  refine lv_topi (fun z13 ez13 => ?_)
  obtain rfl : z13 = 12 := ez13.trans (by decide)
  refine va_put (D := (dC, dI)) (ci := 4) (v := .int 12) (ty := tyX5 1) (C := RX5) (T := TX5) (N := 11) hx hb hw iwX5 tyX5 tyX5_ok nmX5 hown hK hP hD hS 0 rfl rfl 1 (by decide) (hw _ w_f_X5_22) (fun _ h9 => h9) rfl (tyX5_ok 1 (by decide)) rfl rfl (Nat.le_of_ble_eq_true rfl) dX5_take_29 (fun H locs hP hD hS => ?_)
  have hP : va_P (dC, dI) cls [(h_rd, .inr (4, [.ref h_by, .int 12, (v_rd 2), (v_rd 3), (v_rd 4), (v_rd 5), (v_rd 6), (v_rd 7), (v_rd 8), (v_rd 9), (v_rd 10)])), (h_by, .inl (cy_by, 600, .inl f12))] H := hP
  have hD : va_D A [(h_rd, .inr (4, [.ref h_by, .int 12, (v_rd 2), (v_rd 3), (v_rd 4), (v_rd 5), (v_rd 6), (v_rd 7), (v_rd 8), (v_rd 9), (v_rd 10)])), (h_by, .inl (cy_by, 600, .inl f12))] := hD
  refine lv_iload_n hx hb dX5_take_32 rfl (lv_at hl 2 rfl) ?_
  refine lv_iload_n hx hb dX5_take_33 rfl (lv_at hl 0 rfl) ?_
  refine lv_ishr hx hb dX5_take_34 ?_
  refine lv_topi (fun z14 ez14 => ?_)
  refine lv_sipush (v := 255) hx hb dX5_take_35 (by decide) ?_
  refine lv_iand hx hb dX5_take_38 ?_
  refine lv_topi (fun z15 ez15 => ?_)
  refine va_iast hx hb hK hP hD hS 1 0 rfl rfl (i := 11) (x := z15) (show ¬ _ from by decide) dX5_take_39 (fun H locs hP hD hS => ?_)
  obtain ⟨f16, ef16⟩ : ∃ g : Nat → Int32, g = upd f12 (Int32.toNatClampNeg 11) z15 := ⟨_, rfl⟩
  have hP : va_P (dC, dI) cls [(h_rd, .inr (4, [.ref h_by, .int 12, (v_rd 2), (v_rd 3), (v_rd 4), (v_rd 5), (v_rd 6), (v_rd 7), (v_rd 8), (v_rd 9), (v_rd 10)])), (h_by, .inl (cy_by, 600, .inl f16))] H := by rw [ef16]; exact hP
  have hD : va_D A [(h_rd, .inr (4, [.ref h_by, .int 12, (v_rd 2), (v_rd 3), (v_rd 4), (v_rd 5), (v_rd 6), (v_rd 7), (v_rd 8), (v_rd 9), (v_rd 10)])), (h_by, .inl (cy_by, 600, .inl f16))] := by rw [ef16]; exact hD
  clear ef16
  refine lv_iinc (v := (-8)) (lv' := [(2, .int (-8)), (0, .ref h_rd), (1, .int p1)]) hx hb dX5_take_40 hl (k := 0) rfl (by decide) (by decide) rfl (fun ls hl => ?_)
  refine lv_goto (tgt := 3) hx hb dX5_take_43 (by decide) ?_
  refine lv_iload_n hx hb dX5_take_3 rfl (lv_at hl 0 rfl) ?_
  refine lv_if_lt (tgt := 46) hx hb dX5_take_4 (by decide) (fun _ => ?_) (fun c9 => absurd c9 (by decide))
  refine W.widen (k := 0) (n := 0) (Nat.le_of_ble_eq_true rfl) (Nat.le_of_ble_eq_true rfl) ?_
  have hK9 := hK.sub (tys' := []) [] rfl
  exact W.vret hx hb hr (fun t ht hW => ⟨⟨f16, rfl, trivial, by rw [ht]; exact hP, va_K.moved hW.alike hK9, hD⟩, hS.F ht⟩) hS.2.2 dX5_take_46

set_option maxHeartbeats 4000000 in
set_option maxRecDepth 100000 in
theorem c_X5_take_12 (l : Launch) (dC : Nat → ClassId) (dI : Nat → Nat → Nat) (sz : Nat) (h_rd : Nat) (h_by : Nat) (v_rd : Nat → Value) (cy_by : ClassId) (f_by : Nat → Int32) (p1 : Int32) : Met l yX5_take (Ws yX5_take cX5_take 3 none) ({ frames := 0, cells := 0, slots := 0, locals := 0 }) (PRE (dC, dI) cls [(cy_by, .int)] [(h_rd, .inr (4, [.ref h_by, .int 12, (v_rd 2), (v_rd 3), (v_rd 4), (v_rd 5), (v_rd 6), (v_rd 7), (v_rd 8), (v_rd 9), (v_rd 10)])), (h_by, .inl (cy_by, 600, .inl f_by))] sz [.ref h_rd, .int p1]) (va_Qv (fun (_ : (Nat → Int32)) => True) (fun (u : (Nat → Int32)) (t : State) => va_P (dC, dI) cls [(h_rd, .inr (4, [.ref h_by, .int 16, (v_rd 2), (v_rd 3), (v_rd 4), (v_rd 5), (v_rd 6), (v_rd 7), (v_rd 8), (v_rd 9), (v_rd 10)])), (h_by, .inl (cy_by, 600, .inl u))] t.heap ∧ va_K (dC, dI) cls [] t ∧ va_D (va_A [(h_rd, .inr (4, [.ref h_by, .int 12, (v_rd 2), (v_rd 3), (v_rd 4), (v_rd 5), (v_rd 6), (v_rd 7), (v_rd 8), (v_rd 9), (v_rd 10)])), (h_by, .inl (cy_by, 600, .inl f_by))] sz) [(h_rd, .inr (4, [.ref h_by, .int 16, (v_rd 2), (v_rd 3), (v_rd 4), (v_rd 5), (v_rd 6), (v_rd 7), (v_rd 8), (v_rd 9), (v_rd 10)])), (h_by, .inl (cy_by, 600, .inl u))]) (va_A [(h_rd, .inr (4, [.ref h_by, .int 12, (v_rd 2), (v_rd 3), (v_rd 4), (v_rd 5), (v_rd 6), (v_rd 7), (v_rd 8), (v_rd 9), (v_rd 10)])), (h_by, .inl (cy_by, 600, .inl f_by))] sz)) 0 0 (va_A [(h_rd, .inr (4, [.ref h_by, .int 12, (v_rd 2), (v_rd 3), (v_rd 4), (v_rd 5), (v_rd 6), (v_rd 7), (v_rd 8), (v_rd 9), (v_rd 10)])), (h_by, .inl (cy_by, 600, .inl f_by))] sz) := by
  refine Met.ofW (cc := cX5_take) (maxL := 3) (ret := none) (by decide) rfl ?_
  intro p e s m args below meth c s₁ B hml hv
  obtain ⟨rfl, hsz, hP, hK, hD0, hN⟩ := hv
  have hx := B.exec
  have hb := B.bytes
  have hr := B.returns
  have hts := atoms_spec (ws := Ws yX5_take cX5_take 3 none) B.pre
  have hT : ∀ w ∈ WALL, w ∈ Ws yX5_take cX5_take 3 none := fun w h => List.mem_cons_of_mem _ h
  have hw := fun w (h : w ∈ WALL) => hts w (hT w h)
  have hown : s.vm.findClass RX5 = some m.cls := findClass_of_methodNamed B.named
  have hlocks := B.notSynchronized
  subst hsz
  have hD := hD0.self (sz := s.heap.size)
  generalize hAe : va_A [(h_rd, .inr (4, [.ref h_by, .int 12, (v_rd 2), (v_rd 3), (v_rd 4), (v_rd 5), (v_rd 6), (v_rd 7), (v_rd 8), (v_rd 9), (v_rd 10)])), (h_by, .inl (cy_by, 600, .inl f_by))] s.heap.size = A at hD ⊢
  have hA : ∀ q : Nat, s.heap.size ≤ q → A q := fun q h => by rw [← hAe]; exact Or.inr h
  have hS : va_S A s.heap s.heap [] := va_S.rf
  have hl := lv_entry ([.ref h_rd, .int p1]) (n := 3) (Nat.le_of_ble_eq_true rfl)
  rw [lg_entry_eq]
  generalize (lg_sl ([.ref h_rd, .int p1]) ++ List.replicate (3 - (lg_sl ([.ref h_rd, .int p1])).length) Slot.unset).toArray = ls at hl ⊢
  have hl : lv_has ls 3 [(0, .ref h_rd), (1, .int p1)] := hl
  refine lv_bipush (v := 24) hx hb dX5_take_0 (by decide) ?_
  refine lv_istore_n (lv' := [(2, .int 24), (0, .ref h_rd), (1, .int p1)]) hx hb dX5_take_2 rfl hl (by decide) rfl (fun ls hl => ?_)
  refine lv_iload_n hx hb dX5_take_3 rfl (lv_at hl 0 rfl) ?_
  refine lv_if_lt (tgt := 46) hx hb dX5_take_4 (by decide) (fun c9 => absurd c9 (by decide)) (fun _ => ?_)
  refine lv_aload_n hx hb dX5_take_7 rfl (lv_at hl 1 rfl) ?_
  refine va_get (D := (dC, dI)) (ci := 4) (v := .int 12) (C := RX5) (T := TX5) (N := 11) hx hb hw iwX5 hown hK hP 0 rfl rfl 1 (by decide) (hw _ w_f_X5_22) (fun _ h9 => h9) rfl dX5_take_8 ?_
  refine lv_sipush (v := 600) hx hb dX5_take_11 (by decide) ?_
  refine lv_icmp_ge (tgt := 46) hx hb dX5_take_14 (by decide) (fun c9 => absurd c9 (by decide)) (fun _ => ?_)
  refine lv_aload_n hx hb dX5_take_17 rfl (lv_at hl 1 rfl) ?_
  refine va_get (D := (dC, dI)) (ci := 4) (v := .ref h_by) (C := RX5) (T := TX5) (N := 11) hx hb hw iwX5 hown hK hP 0 rfl rfl 0 (by decide) (hw _ w_f_X5_9) (fun _ h9 => h9) rfl dX5_take_18 ?_
  refine lv_aload_n hx hb dX5_take_21 rfl (lv_at hl 1 rfl) ?_
  refine lv_dup hx hb dX5_take_22 rfl ?_
  refine va_get (D := (dC, dI)) (ci := 4) (v := .int 12) (C := RX5) (T := TX5) (N := 11) hx hb hw iwX5 hown hK hP 0 rfl rfl 1 (by decide) (hw _ w_f_X5_22) (fun _ h9 => h9) rfl dX5_take_23 ?_
  refine lv_dup_x1 hx hb dX5_take_26 rfl rfl ?_
  refine lv_iconst (v := 1) hx hb dX5_take_27 (by decide) ?_
  refine lv_iadd hx hb dX5_take_28 ?_
  refine lv_topi (fun z1 ez1 => ?_)
  obtain rfl : z1 = 13 := ez1.trans (by decide)
  refine va_put (D := (dC, dI)) (ci := 4) (v := .int 13) (ty := tyX5 1) (C := RX5) (T := TX5) (N := 11) hx hb hw iwX5 tyX5 tyX5_ok nmX5 hown hK hP hD hS 0 rfl rfl 1 (by decide) (hw _ w_f_X5_22) (fun _ h9 => h9) rfl (tyX5_ok 1 (by decide)) rfl rfl (Nat.le_of_ble_eq_true rfl) dX5_take_29 (fun H locs hP hD hS => ?_)
  have hP : va_P (dC, dI) cls [(h_rd, .inr (4, [.ref h_by, .int 13, (v_rd 2), (v_rd 3), (v_rd 4), (v_rd 5), (v_rd 6), (v_rd 7), (v_rd 8), (v_rd 9), (v_rd 10)])), (h_by, .inl (cy_by, 600, .inl f_by))] H := hP
  have hD : va_D A [(h_rd, .inr (4, [.ref h_by, .int 13, (v_rd 2), (v_rd 3), (v_rd 4), (v_rd 5), (v_rd 6), (v_rd 7), (v_rd 8), (v_rd 9), (v_rd 10)])), (h_by, .inl (cy_by, 600, .inl f_by))] := hD
  refine lv_iload_n hx hb dX5_take_32 rfl (lv_at hl 2 rfl) ?_
  refine lv_iload_n hx hb dX5_take_33 rfl (lv_at hl 0 rfl) ?_
  refine lv_ishr hx hb dX5_take_34 ?_
  refine lv_topi (fun z2 ez2 => ?_)
  refine lv_sipush (v := 255) hx hb dX5_take_35 (by decide) ?_
  refine lv_iand hx hb dX5_take_38 ?_
  refine lv_topi (fun z3 ez3 => ?_)
  refine va_iast hx hb hK hP hD hS 1 0 rfl rfl (i := 12) (x := z3) (show ¬ _ from by decide) dX5_take_39 (fun H locs hP hD hS => ?_)
  obtain ⟨f4, ef4⟩ : ∃ g : Nat → Int32, g = upd f_by (Int32.toNatClampNeg 12) z3 := ⟨_, rfl⟩
  have hP : va_P (dC, dI) cls [(h_rd, .inr (4, [.ref h_by, .int 13, (v_rd 2), (v_rd 3), (v_rd 4), (v_rd 5), (v_rd 6), (v_rd 7), (v_rd 8), (v_rd 9), (v_rd 10)])), (h_by, .inl (cy_by, 600, .inl f4))] H := by rw [ef4]; exact hP
  have hD : va_D A [(h_rd, .inr (4, [.ref h_by, .int 13, (v_rd 2), (v_rd 3), (v_rd 4), (v_rd 5), (v_rd 6), (v_rd 7), (v_rd 8), (v_rd 9), (v_rd 10)])), (h_by, .inl (cy_by, 600, .inl f4))] := by rw [ef4]; exact hD
  clear ef4
  refine lv_iinc (v := 16) (lv' := [(2, .int 16), (0, .ref h_rd), (1, .int p1)]) hx hb dX5_take_40 hl (k := 0) rfl (by decide) (by decide) rfl (fun ls hl => ?_)
  refine lv_goto (tgt := 3) hx hb dX5_take_43 (by decide) ?_
  refine lv_iload_n hx hb dX5_take_3 rfl (lv_at hl 0 rfl) ?_
  refine lv_if_lt (tgt := 46) hx hb dX5_take_4 (by decide) (fun c9 => absurd c9 (by decide)) (fun _ => ?_)
  refine lv_aload_n hx hb dX5_take_7 rfl (lv_at hl 1 rfl) ?_
  refine va_get (D := (dC, dI)) (ci := 4) (v := .int 13) (C := RX5) (T := TX5) (N := 11) hx hb hw iwX5 hown hK hP 0 rfl rfl 1 (by decide) (hw _ w_f_X5_22) (fun _ h9 => h9) rfl dX5_take_8 ?_
  refine lv_sipush (v := 600) hx hb dX5_take_11 (by decide) ?_
  refine lv_icmp_ge (tgt := 46) hx hb dX5_take_14 (by decide) (fun c9 => absurd c9 (by decide)) (fun _ => ?_)
  refine lv_aload_n hx hb dX5_take_17 rfl (lv_at hl 1 rfl) ?_
  refine va_get (D := (dC, dI)) (ci := 4) (v := .ref h_by) (C := RX5) (T := TX5) (N := 11) hx hb hw iwX5 hown hK hP 0 rfl rfl 0 (by decide) (hw _ w_f_X5_9) (fun _ h9 => h9) rfl dX5_take_18 ?_
  refine lv_aload_n hx hb dX5_take_21 rfl (lv_at hl 1 rfl) ?_
  refine lv_dup hx hb dX5_take_22 rfl ?_
  refine va_get (D := (dC, dI)) (ci := 4) (v := .int 13) (C := RX5) (T := TX5) (N := 11) hx hb hw iwX5 hown hK hP 0 rfl rfl 1 (by decide) (hw _ w_f_X5_22) (fun _ h9 => h9) rfl dX5_take_23 ?_
  refine lv_dup_x1 hx hb dX5_take_26 rfl rfl ?_
  refine lv_iconst (v := 1) hx hb dX5_take_27 (by decide) ?_
  refine lv_iadd hx hb dX5_take_28 ?_
  refine lv_topi (fun z5 ez5 => ?_)
  obtain rfl : z5 = 14 := ez5.trans (by decide)
  refine va_put (D := (dC, dI)) (ci := 4) (v := .int 14) (ty := tyX5 1) (C := RX5) (T := TX5) (N := 11) hx hb hw iwX5 tyX5 tyX5_ok nmX5 hown hK hP hD hS 0 rfl rfl 1 (by decide) (hw _ w_f_X5_22) (fun _ h9 => h9) rfl (tyX5_ok 1 (by decide)) rfl rfl (Nat.le_of_ble_eq_true rfl) dX5_take_29 (fun H locs hP hD hS => ?_)
  have hP : va_P (dC, dI) cls [(h_rd, .inr (4, [.ref h_by, .int 14, (v_rd 2), (v_rd 3), (v_rd 4), (v_rd 5), (v_rd 6), (v_rd 7), (v_rd 8), (v_rd 9), (v_rd 10)])), (h_by, .inl (cy_by, 600, .inl f4))] H := hP
  have hD : va_D A [(h_rd, .inr (4, [.ref h_by, .int 14, (v_rd 2), (v_rd 3), (v_rd 4), (v_rd 5), (v_rd 6), (v_rd 7), (v_rd 8), (v_rd 9), (v_rd 10)])), (h_by, .inl (cy_by, 600, .inl f4))] := hD
  refine lv_iload_n hx hb dX5_take_32 rfl (lv_at hl 2 rfl) ?_
  refine lv_iload_n hx hb dX5_take_33 rfl (lv_at hl 0 rfl) ?_
  refine lv_ishr hx hb dX5_take_34 ?_
  refine lv_topi (fun z6 ez6 => ?_)
  refine lv_sipush (v := 255) hx hb dX5_take_35 (by decide) ?_
  refine lv_iand hx hb dX5_take_38 ?_
  refine lv_topi (fun z7 ez7 => ?_)
  refine va_iast hx hb hK hP hD hS 1 0 rfl rfl (i := 13) (x := z7) (show ¬ _ from by decide) dX5_take_39 (fun H locs hP hD hS => ?_)
  obtain ⟨f8, ef8⟩ : ∃ g : Nat → Int32, g = upd f4 (Int32.toNatClampNeg 13) z7 := ⟨_, rfl⟩
  have hP : va_P (dC, dI) cls [(h_rd, .inr (4, [.ref h_by, .int 14, (v_rd 2), (v_rd 3), (v_rd 4), (v_rd 5), (v_rd 6), (v_rd 7), (v_rd 8), (v_rd 9), (v_rd 10)])), (h_by, .inl (cy_by, 600, .inl f8))] H := by rw [ef8]; exact hP
  have hD : va_D A [(h_rd, .inr (4, [.ref h_by, .int 14, (v_rd 2), (v_rd 3), (v_rd 4), (v_rd 5), (v_rd 6), (v_rd 7), (v_rd 8), (v_rd 9), (v_rd 10)])), (h_by, .inl (cy_by, 600, .inl f8))] := by rw [ef8]; exact hD
  clear ef8
  refine lv_iinc (v := 8) (lv' := [(2, .int 8), (0, .ref h_rd), (1, .int p1)]) hx hb dX5_take_40 hl (k := 0) rfl (by decide) (by decide) rfl (fun ls hl => ?_)
  refine lv_goto (tgt := 3) hx hb dX5_take_43 (by decide) ?_
  refine lv_iload_n hx hb dX5_take_3 rfl (lv_at hl 0 rfl) ?_
  refine lv_if_lt (tgt := 46) hx hb dX5_take_4 (by decide) (fun c9 => absurd c9 (by decide)) (fun _ => ?_)
  refine lv_aload_n hx hb dX5_take_7 rfl (lv_at hl 1 rfl) ?_
  refine va_get (D := (dC, dI)) (ci := 4) (v := .int 14) (C := RX5) (T := TX5) (N := 11) hx hb hw iwX5 hown hK hP 0 rfl rfl 1 (by decide) (hw _ w_f_X5_22) (fun _ h9 => h9) rfl dX5_take_8 ?_
  refine lv_sipush (v := 600) hx hb dX5_take_11 (by decide) ?_
  refine lv_icmp_ge (tgt := 46) hx hb dX5_take_14 (by decide) (fun c9 => absurd c9 (by decide)) (fun _ => ?_)
  refine lv_aload_n hx hb dX5_take_17 rfl (lv_at hl 1 rfl) ?_
  refine va_get (D := (dC, dI)) (ci := 4) (v := .ref h_by) (C := RX5) (T := TX5) (N := 11) hx hb hw iwX5 hown hK hP 0 rfl rfl 0 (by decide) (hw _ w_f_X5_9) (fun _ h9 => h9) rfl dX5_take_18 ?_
  refine lv_aload_n hx hb dX5_take_21 rfl (lv_at hl 1 rfl) ?_
  refine lv_dup hx hb dX5_take_22 rfl ?_
  refine va_get (D := (dC, dI)) (ci := 4) (v := .int 14) (C := RX5) (T := TX5) (N := 11) hx hb hw iwX5 hown hK hP 0 rfl rfl 1 (by decide) (hw _ w_f_X5_22) (fun _ h9 => h9) rfl dX5_take_23 ?_
  refine lv_dup_x1 hx hb dX5_take_26 rfl rfl ?_
  refine lv_iconst (v := 1) hx hb dX5_take_27 (by decide) ?_
  refine lv_iadd hx hb dX5_take_28 ?_
  refine lv_topi (fun z9 ez9 => ?_)
  obtain rfl : z9 = 15 := ez9.trans (by decide)
  refine va_put (D := (dC, dI)) (ci := 4) (v := .int 15) (ty := tyX5 1) (C := RX5) (T := TX5) (N := 11) hx hb hw iwX5 tyX5 tyX5_ok nmX5 hown hK hP hD hS 0 rfl rfl 1 (by decide) (hw _ w_f_X5_22) (fun _ h9 => h9) rfl (tyX5_ok 1 (by decide)) rfl rfl (Nat.le_of_ble_eq_true rfl) dX5_take_29 (fun H locs hP hD hS => ?_)
  have hP : va_P (dC, dI) cls [(h_rd, .inr (4, [.ref h_by, .int 15, (v_rd 2), (v_rd 3), (v_rd 4), (v_rd 5), (v_rd 6), (v_rd 7), (v_rd 8), (v_rd 9), (v_rd 10)])), (h_by, .inl (cy_by, 600, .inl f8))] H := hP
  have hD : va_D A [(h_rd, .inr (4, [.ref h_by, .int 15, (v_rd 2), (v_rd 3), (v_rd 4), (v_rd 5), (v_rd 6), (v_rd 7), (v_rd 8), (v_rd 9), (v_rd 10)])), (h_by, .inl (cy_by, 600, .inl f8))] := hD
  refine lv_iload_n hx hb dX5_take_32 rfl (lv_at hl 2 rfl) ?_
  refine lv_iload_n hx hb dX5_take_33 rfl (lv_at hl 0 rfl) ?_
  refine lv_ishr hx hb dX5_take_34 ?_
  refine lv_topi (fun z10 ez10 => ?_)
  refine lv_sipush (v := 255) hx hb dX5_take_35 (by decide) ?_
  refine lv_iand hx hb dX5_take_38 ?_
  refine lv_topi (fun z11 ez11 => ?_)
  refine va_iast hx hb hK hP hD hS 1 0 rfl rfl (i := 14) (x := z11) (show ¬ _ from by decide) dX5_take_39 (fun H locs hP hD hS => ?_)
  obtain ⟨f12, ef12⟩ : ∃ g : Nat → Int32, g = upd f8 (Int32.toNatClampNeg 14) z11 := ⟨_, rfl⟩
  have hP : va_P (dC, dI) cls [(h_rd, .inr (4, [.ref h_by, .int 15, (v_rd 2), (v_rd 3), (v_rd 4), (v_rd 5), (v_rd 6), (v_rd 7), (v_rd 8), (v_rd 9), (v_rd 10)])), (h_by, .inl (cy_by, 600, .inl f12))] H := by rw [ef12]; exact hP
  have hD : va_D A [(h_rd, .inr (4, [.ref h_by, .int 15, (v_rd 2), (v_rd 3), (v_rd 4), (v_rd 5), (v_rd 6), (v_rd 7), (v_rd 8), (v_rd 9), (v_rd 10)])), (h_by, .inl (cy_by, 600, .inl f12))] := by rw [ef12]; exact hD
  clear ef12
  refine lv_iinc (v := 0) (lv' := [(2, .int 0), (0, .ref h_rd), (1, .int p1)]) hx hb dX5_take_40 hl (k := 0) rfl (by decide) (by decide) rfl (fun ls hl => ?_)
  refine lv_goto (tgt := 3) hx hb dX5_take_43 (by decide) ?_
  refine lv_iload_n hx hb dX5_take_3 rfl (lv_at hl 0 rfl) ?_
  refine lv_if_lt (tgt := 46) hx hb dX5_take_4 (by decide) (fun c9 => absurd c9 (by decide)) (fun _ => ?_)
  refine lv_aload_n hx hb dX5_take_7 rfl (lv_at hl 1 rfl) ?_
  refine va_get (D := (dC, dI)) (ci := 4) (v := .int 15) (C := RX5) (T := TX5) (N := 11) hx hb hw iwX5 hown hK hP 0 rfl rfl 1 (by decide) (hw _ w_f_X5_22) (fun _ h9 => h9) rfl dX5_take_8 ?_
  refine lv_sipush (v := 600) hx hb dX5_take_11 (by decide) ?_
  refine lv_icmp_ge (tgt := 46) hx hb dX5_take_14 (by decide) (fun c9 => absurd c9 (by decide)) (fun _ => ?_)
  refine lv_aload_n hx hb dX5_take_17 rfl (lv_at hl 1 rfl) ?_
  refine va_get (D := (dC, dI)) (ci := 4) (v := .ref h_by) (C := RX5) (T := TX5) (N := 11) hx hb hw iwX5 hown hK hP 0 rfl rfl 0 (by decide) (hw _ w_f_X5_9) (fun _ h9 => h9) rfl dX5_take_18 ?_
  refine lv_aload_n hx hb dX5_take_21 rfl (lv_at hl 1 rfl) ?_
  refine lv_dup hx hb dX5_take_22 rfl ?_
  refine va_get (D := (dC, dI)) (ci := 4) (v := .int 15) (C := RX5) (T := TX5) (N := 11) hx hb hw iwX5 hown hK hP 0 rfl rfl 1 (by decide) (hw _ w_f_X5_22) (fun _ h9 => h9) rfl dX5_take_23 ?_
  refine lv_dup_x1 hx hb dX5_take_26 rfl rfl ?_
  refine lv_iconst (v := 1) hx hb dX5_take_27 (by decide) ?_
  refine lv_iadd hx hb dX5_take_28 ?_
  refine lv_topi (fun z13 ez13 => ?_)
  obtain rfl : z13 = 16 := ez13.trans (by decide)
  refine va_put (D := (dC, dI)) (ci := 4) (v := .int 16) (ty := tyX5 1) (C := RX5) (T := TX5) (N := 11) hx hb hw iwX5 tyX5 tyX5_ok nmX5 hown hK hP hD hS 0 rfl rfl 1 (by decide) (hw _ w_f_X5_22) (fun _ h9 => h9) rfl (tyX5_ok 1 (by decide)) rfl rfl (Nat.le_of_ble_eq_true rfl) dX5_take_29 (fun H locs hP hD hS => ?_)
  have hP : va_P (dC, dI) cls [(h_rd, .inr (4, [.ref h_by, .int 16, (v_rd 2), (v_rd 3), (v_rd 4), (v_rd 5), (v_rd 6), (v_rd 7), (v_rd 8), (v_rd 9), (v_rd 10)])), (h_by, .inl (cy_by, 600, .inl f12))] H := hP
  have hD : va_D A [(h_rd, .inr (4, [.ref h_by, .int 16, (v_rd 2), (v_rd 3), (v_rd 4), (v_rd 5), (v_rd 6), (v_rd 7), (v_rd 8), (v_rd 9), (v_rd 10)])), (h_by, .inl (cy_by, 600, .inl f12))] := hD
  refine lv_iload_n hx hb dX5_take_32 rfl (lv_at hl 2 rfl) ?_
  refine lv_iload_n hx hb dX5_take_33 rfl (lv_at hl 0 rfl) ?_
  refine lv_ishr hx hb dX5_take_34 ?_
  refine lv_topi (fun z14 ez14 => ?_)
  refine lv_sipush (v := 255) hx hb dX5_take_35 (by decide) ?_
  refine lv_iand hx hb dX5_take_38 ?_
  refine lv_topi (fun z15 ez15 => ?_)
  refine va_iast hx hb hK hP hD hS 1 0 rfl rfl (i := 15) (x := z15) (show ¬ _ from by decide) dX5_take_39 (fun H locs hP hD hS => ?_)
  obtain ⟨f16, ef16⟩ : ∃ g : Nat → Int32, g = upd f12 (Int32.toNatClampNeg 15) z15 := ⟨_, rfl⟩
  have hP : va_P (dC, dI) cls [(h_rd, .inr (4, [.ref h_by, .int 16, (v_rd 2), (v_rd 3), (v_rd 4), (v_rd 5), (v_rd 6), (v_rd 7), (v_rd 8), (v_rd 9), (v_rd 10)])), (h_by, .inl (cy_by, 600, .inl f16))] H := by rw [ef16]; exact hP
  have hD : va_D A [(h_rd, .inr (4, [.ref h_by, .int 16, (v_rd 2), (v_rd 3), (v_rd 4), (v_rd 5), (v_rd 6), (v_rd 7), (v_rd 8), (v_rd 9), (v_rd 10)])), (h_by, .inl (cy_by, 600, .inl f16))] := by rw [ef16]; exact hD
  clear ef16
  refine lv_iinc (v := (-8)) (lv' := [(2, .int (-8)), (0, .ref h_rd), (1, .int p1)]) hx hb dX5_take_40 hl (k := 0) rfl (by decide) (by decide) rfl (fun ls hl => ?_)
  refine lv_goto (tgt := 3) hx hb dX5_take_43 (by decide) ?_
  refine lv_iload_n hx hb dX5_take_3 rfl (lv_at hl 0 rfl) ?_
  refine lv_if_lt (tgt := 46) hx hb dX5_take_4 (by decide) (fun _ => ?_) (fun c9 => absurd c9 (by decide))
  refine W.widen (k := 0) (n := 0) (Nat.le_of_ble_eq_true rfl) (Nat.le_of_ble_eq_true rfl) ?_
  have hK9 := hK.sub (tys' := []) [] rfl
  exact W.vret hx hb hr (fun t ht hW => ⟨⟨f16, rfl, trivial, by rw [ht]; exact hP, va_K.moved hW.alike hK9, hD⟩, hS.F ht⟩) hS.2.2 dX5_take_46

set_option maxHeartbeats 4000000 in
set_option maxRecDepth 100000 in
theorem c_X5_take_16 (l : Launch) (dC : Nat → ClassId) (dI : Nat → Nat → Nat) (sz : Nat) (h_rd : Nat) (h_by : Nat) (v_rd : Nat → Value) (cy_by : ClassId) (f_by : Nat → Int32) (p1 : Int32) : Met l yX5_take (Ws yX5_take cX5_take 3 none) ({ frames := 0, cells := 0, slots := 0, locals := 0 }) (PRE (dC, dI) cls [(cy_by, .int)] [(h_rd, .inr (4, [.ref h_by, .int 16, (v_rd 2), (v_rd 3), (v_rd 4), (v_rd 5), (v_rd 6), (v_rd 7), (v_rd 8), (v_rd 9), (v_rd 10)])), (h_by, .inl (cy_by, 600, .inl f_by))] sz [.ref h_rd, .int p1]) (va_Qv (fun (_ : (Nat → Int32)) => True) (fun (u : (Nat → Int32)) (t : State) => va_P (dC, dI) cls [(h_rd, .inr (4, [.ref h_by, .int 20, (v_rd 2), (v_rd 3), (v_rd 4), (v_rd 5), (v_rd 6), (v_rd 7), (v_rd 8), (v_rd 9), (v_rd 10)])), (h_by, .inl (cy_by, 600, .inl u))] t.heap ∧ va_K (dC, dI) cls [] t ∧ va_D (va_A [(h_rd, .inr (4, [.ref h_by, .int 16, (v_rd 2), (v_rd 3), (v_rd 4), (v_rd 5), (v_rd 6), (v_rd 7), (v_rd 8), (v_rd 9), (v_rd 10)])), (h_by, .inl (cy_by, 600, .inl f_by))] sz) [(h_rd, .inr (4, [.ref h_by, .int 20, (v_rd 2), (v_rd 3), (v_rd 4), (v_rd 5), (v_rd 6), (v_rd 7), (v_rd 8), (v_rd 9), (v_rd 10)])), (h_by, .inl (cy_by, 600, .inl u))]) (va_A [(h_rd, .inr (4, [.ref h_by, .int 16, (v_rd 2), (v_rd 3), (v_rd 4), (v_rd 5), (v_rd 6), (v_rd 7), (v_rd 8), (v_rd 9), (v_rd 10)])), (h_by, .inl (cy_by, 600, .inl f_by))] sz)) 0 0 (va_A [(h_rd, .inr (4, [.ref h_by, .int 16, (v_rd 2), (v_rd 3), (v_rd 4), (v_rd 5), (v_rd 6), (v_rd 7), (v_rd 8), (v_rd 9), (v_rd 10)])), (h_by, .inl (cy_by, 600, .inl f_by))] sz) := by
  refine Met.ofW (cc := cX5_take) (maxL := 3) (ret := none) (by decide) rfl ?_
  intro p e s m args below meth c s₁ B hml hv
  obtain ⟨rfl, hsz, hP, hK, hD0, hN⟩ := hv
  have hx := B.exec
  have hb := B.bytes
  have hr := B.returns
  have hts := atoms_spec (ws := Ws yX5_take cX5_take 3 none) B.pre
  have hT : ∀ w ∈ WALL, w ∈ Ws yX5_take cX5_take 3 none := fun w h => List.mem_cons_of_mem _ h
  have hw := fun w (h : w ∈ WALL) => hts w (hT w h)
  have hown : s.vm.findClass RX5 = some m.cls := findClass_of_methodNamed B.named
  have hlocks := B.notSynchronized
  subst hsz
  have hD := hD0.self (sz := s.heap.size)
  generalize hAe : va_A [(h_rd, .inr (4, [.ref h_by, .int 16, (v_rd 2), (v_rd 3), (v_rd 4), (v_rd 5), (v_rd 6), (v_rd 7), (v_rd 8), (v_rd 9), (v_rd 10)])), (h_by, .inl (cy_by, 600, .inl f_by))] s.heap.size = A at hD ⊢
  have hA : ∀ q : Nat, s.heap.size ≤ q → A q := fun q h => by rw [← hAe]; exact Or.inr h
  have hS : va_S A s.heap s.heap [] := va_S.rf
  have hl := lv_entry ([.ref h_rd, .int p1]) (n := 3) (Nat.le_of_ble_eq_true rfl)
  rw [lg_entry_eq]
  generalize (lg_sl ([.ref h_rd, .int p1]) ++ List.replicate (3 - (lg_sl ([.ref h_rd, .int p1])).length) Slot.unset).toArray = ls at hl ⊢
  have hl : lv_has ls 3 [(0, .ref h_rd), (1, .int p1)] := hl
  refine lv_bipush (v := 24) hx hb dX5_take_0 (by decide) ?_
  refine lv_istore_n (lv' := [(2, .int 24), (0, .ref h_rd), (1, .int p1)]) hx hb dX5_take_2 rfl hl (by decide) rfl (fun ls hl => ?_)
  refine lv_iload_n hx hb dX5_take_3 rfl (lv_at hl 0 rfl) ?_
  refine lv_if_lt (tgt := 46) hx hb dX5_take_4 (by decide) (fun c9 => absurd c9 (by decide)) (fun _ => ?_)
  refine lv_aload_n hx hb dX5_take_7 rfl (lv_at hl 1 rfl) ?_
  refine va_get (D := (dC, dI)) (ci := 4) (v := .int 16) (C := RX5) (T := TX5) (N := 11) hx hb hw iwX5 hown hK hP 0 rfl rfl 1 (by decide) (hw _ w_f_X5_22) (fun _ h9 => h9) rfl dX5_take_8 ?_
  refine lv_sipush (v := 600) hx hb dX5_take_11 (by decide) ?_
  refine lv_icmp_ge (tgt := 46) hx hb dX5_take_14 (by decide) (fun c9 => absurd c9 (by decide)) (fun _ => ?_)
  refine lv_aload_n hx hb dX5_take_17 rfl (lv_at hl 1 rfl) ?_
  refine va_get (D := (dC, dI)) (ci := 4) (v := .ref h_by) (C := RX5) (T := TX5) (N := 11) hx hb hw iwX5 hown hK hP 0 rfl rfl 0 (by decide) (hw _ w_f_X5_9) (fun _ h9 => h9) rfl dX5_take_18 ?_
  refine lv_aload_n hx hb dX5_take_21 rfl (lv_at hl 1 rfl) ?_
  refine lv_dup hx hb dX5_take_22 rfl ?_
  refine va_get (D := (dC, dI)) (ci := 4) (v := .int 16) (C := RX5) (T := TX5) (N := 11) hx hb hw iwX5 hown hK hP 0 rfl rfl 1 (by decide) (hw _ w_f_X5_22) (fun _ h9 => h9) rfl dX5_take_23 ?_
  refine lv_dup_x1 hx hb dX5_take_26 rfl rfl ?_
  refine lv_iconst (v := 1) hx hb dX5_take_27 (by decide) ?_
  refine lv_iadd hx hb dX5_take_28 ?_
  refine lv_topi (fun z1 ez1 => ?_)
  obtain rfl : z1 = 17 := ez1.trans (by decide)
  refine va_put (D := (dC, dI)) (ci := 4) (v := .int 17) (ty := tyX5 1) (C := RX5) (T := TX5) (N := 11) hx hb hw iwX5 tyX5 tyX5_ok nmX5 hown hK hP hD hS 0 rfl rfl 1 (by decide) (hw _ w_f_X5_22) (fun _ h9 => h9) rfl (tyX5_ok 1 (by decide)) rfl rfl (Nat.le_of_ble_eq_true rfl) dX5_take_29 (fun H locs hP hD hS => ?_)
  have hP : va_P (dC, dI) cls [(h_rd, .inr (4, [.ref h_by, .int 17, (v_rd 2), (v_rd 3), (v_rd 4), (v_rd 5), (v_rd 6), (v_rd 7), (v_rd 8), (v_rd 9), (v_rd 10)])), (h_by, .inl (cy_by, 600, .inl f_by))] H := hP
  have hD : va_D A [(h_rd, .inr (4, [.ref h_by, .int 17, (v_rd 2), (v_rd 3), (v_rd 4), (v_rd 5), (v_rd 6), (v_rd 7), (v_rd 8), (v_rd 9), (v_rd 10)])), (h_by, .inl (cy_by, 600, .inl f_by))] := hD
  refine lv_iload_n hx hb dX5_take_32 rfl (lv_at hl 2 rfl) ?_
  refine lv_iload_n hx hb dX5_take_33 rfl (lv_at hl 0 rfl) ?_
  refine lv_ishr hx hb dX5_take_34 ?_
  refine lv_topi (fun z2 ez2 => ?_)
  refine lv_sipush (v := 255) hx hb dX5_take_35 (by decide) ?_
  refine lv_iand hx hb dX5_take_38 ?_
  refine lv_topi (fun z3 ez3 => ?_)
  refine va_iast hx hb hK hP hD hS 1 0 rfl rfl (i := 16) (x := z3) (show ¬ _ from by decide) dX5_take_39 (fun H locs hP hD hS => ?_)
  obtain ⟨f4, ef4⟩ : ∃ g : Nat → Int32, g = upd f_by (Int32.toNatClampNeg 16) z3 := ⟨_, rfl⟩
  have hP : va_P (dC, dI) cls [(h_rd, .inr (4, [.ref h_by, .int 17, (v_rd 2), (v_rd 3), (v_rd 4), (v_rd 5), (v_rd 6), (v_rd 7), (v_rd 8), (v_rd 9), (v_rd 10)])), (h_by, .inl (cy_by, 600, .inl f4))] H := by rw [ef4]; exact hP
  have hD : va_D A [(h_rd, .inr (4, [.ref h_by, .int 17, (v_rd 2), (v_rd 3), (v_rd 4), (v_rd 5), (v_rd 6), (v_rd 7), (v_rd 8), (v_rd 9), (v_rd 10)])), (h_by, .inl (cy_by, 600, .inl f4))] := by rw [ef4]; exact hD
  clear ef4
  refine lv_iinc (v := 16) (lv' := [(2, .int 16), (0, .ref h_rd), (1, .int p1)]) hx hb dX5_take_40 hl (k := 0) rfl (by decide) (by decide) rfl (fun ls hl => ?_)
  refine lv_goto (tgt := 3) hx hb dX5_take_43 (by decide) ?_
  refine lv_iload_n hx hb dX5_take_3 rfl (lv_at hl 0 rfl) ?_
  refine lv_if_lt (tgt := 46) hx hb dX5_take_4 (by decide) (fun c9 => absurd c9 (by decide)) (fun _ => ?_)
  refine lv_aload_n hx hb dX5_take_7 rfl (lv_at hl 1 rfl) ?_
  refine va_get (D := (dC, dI)) (ci := 4) (v := .int 17) (C := RX5) (T := TX5) (N := 11) hx hb hw iwX5 hown hK hP 0 rfl rfl 1 (by decide) (hw _ w_f_X5_22) (fun _ h9 => h9) rfl dX5_take_8 ?_
  refine lv_sipush (v := 600) hx hb dX5_take_11 (by decide) ?_
  refine lv_icmp_ge (tgt := 46) hx hb dX5_take_14 (by decide) (fun c9 => absurd c9 (by decide)) (fun _ => ?_)
  refine lv_aload_n hx hb dX5_take_17 rfl (lv_at hl 1 rfl) ?_
  refine va_get (D := (dC, dI)) (ci := 4) (v := .ref h_by) (C := RX5) (T := TX5) (N := 11) hx hb hw iwX5 hown hK hP 0 rfl rfl 0 (by decide) (hw _ w_f_X5_9) (fun _ h9 => h9) rfl dX5_take_18 ?_
  refine lv_aload_n hx hb dX5_take_21 rfl (lv_at hl 1 rfl) ?_
  refine lv_dup hx hb dX5_take_22 rfl ?_
  refine va_get (D := (dC, dI)) (ci := 4) (v := .int 17) (C := RX5) (T := TX5) (N := 11) hx hb hw iwX5 hown hK hP 0 rfl rfl 1 (by decide) (hw _ w_f_X5_22) (fun _ h9 => h9) rfl dX5_take_23 ?_
  refine lv_dup_x1 hx hb dX5_take_26 rfl rfl ?_
  refine lv_iconst (v := 1) hx hb dX5_take_27 (by decide) ?_
  refine lv_iadd hx hb dX5_take_28 ?_
  refine lv_topi (fun z5 ez5 => ?_)
  obtain rfl : z5 = 18 := ez5.trans (by decide)
  refine va_put (D := (dC, dI)) (ci := 4) (v := .int 18) (ty := tyX5 1) (C := RX5) (T := TX5) (N := 11) hx hb hw iwX5 tyX5 tyX5_ok nmX5 hown hK hP hD hS 0 rfl rfl 1 (by decide) (hw _ w_f_X5_22) (fun _ h9 => h9) rfl (tyX5_ok 1 (by decide)) rfl rfl (Nat.le_of_ble_eq_true rfl) dX5_take_29 (fun H locs hP hD hS => ?_)
  have hP : va_P (dC, dI) cls [(h_rd, .inr (4, [.ref h_by, .int 18, (v_rd 2), (v_rd 3), (v_rd 4), (v_rd 5), (v_rd 6), (v_rd 7), (v_rd 8), (v_rd 9), (v_rd 10)])), (h_by, .inl (cy_by, 600, .inl f4))] H := hP
  have hD : va_D A [(h_rd, .inr (4, [.ref h_by, .int 18, (v_rd 2), (v_rd 3), (v_rd 4), (v_rd 5), (v_rd 6), (v_rd 7), (v_rd 8), (v_rd 9), (v_rd 10)])), (h_by, .inl (cy_by, 600, .inl f4))] := hD
  refine lv_iload_n hx hb dX5_take_32 rfl (lv_at hl 2 rfl) ?_
  refine lv_iload_n hx hb dX5_take_33 rfl (lv_at hl 0 rfl) ?_
  refine lv_ishr hx hb dX5_take_34 ?_
  refine lv_topi (fun z6 ez6 => ?_)
  refine lv_sipush (v := 255) hx hb dX5_take_35 (by decide) ?_
  refine lv_iand hx hb dX5_take_38 ?_
  refine lv_topi (fun z7 ez7 => ?_)
  refine va_iast hx hb hK hP hD hS 1 0 rfl rfl (i := 17) (x := z7) (show ¬ _ from by decide) dX5_take_39 (fun H locs hP hD hS => ?_)
  obtain ⟨f8, ef8⟩ : ∃ g : Nat → Int32, g = upd f4 (Int32.toNatClampNeg 17) z7 := ⟨_, rfl⟩
  have hP : va_P (dC, dI) cls [(h_rd, .inr (4, [.ref h_by, .int 18, (v_rd 2), (v_rd 3), (v_rd 4), (v_rd 5), (v_rd 6), (v_rd 7), (v_rd 8), (v_rd 9), (v_rd 10)])), (h_by, .inl (cy_by, 600, .inl f8))] H := by rw [ef8]; exact hP
  have hD : va_D A [(h_rd, .inr (4, [.ref h_by, .int 18, (v_rd 2), (v_rd 3), (v_rd 4), (v_rd 5), (v_rd 6), (v_rd 7), (v_rd 8), (v_rd 9), (v_rd 10)])), (h_by, .inl (cy_by, 600, .inl f8))] := by rw [ef8]; exact hD
  clear ef8
  refine lv_iinc (v := 8) (lv' := [(2, .int 8), (0, .ref h_rd), (1, .int p1)]) hx hb dX5_take_40 hl (k := 0) rfl (by decide) (by decide) rfl (fun ls hl => ?_)
  refine lv_goto (tgt := 3) hx hb dX5_take_43 (by decide) ?_
  refine lv_iload_n hx hb dX5_take_3 rfl (lv_at hl 0 rfl) ?_
  refine lv_if_lt (tgt := 46) hx hb dX5_take_4 (by decide) (fun c9 => absurd c9 (by decide)) (fun _ => ?_)
  refine lv_aload_n hx hb dX5_take_7 rfl (lv_at hl 1 rfl) ?_
  refine va_get (D := (dC, dI)) (ci := 4) (v := .int 18) (C := RX5) (T := TX5) (N := 11) hx hb hw iwX5 hown hK hP 0 rfl rfl 1 (by decide) (hw _ w_f_X5_22) (fun _ h9 => h9) rfl dX5_take_8 ?_
  refine lv_sipush (v := 600) hx hb dX5_take_11 (by decide) ?_
  refine lv_icmp_ge (tgt := 46) hx hb dX5_take_14 (by decide) (fun c9 => absurd c9 (by decide)) (fun _ => ?_)
  refine lv_aload_n hx hb dX5_take_17 rfl (lv_at hl 1 rfl) ?_
  refine va_get (D := (dC, dI)) (ci := 4) (v := .ref h_by) (C := RX5) (T := TX5) (N := 11) hx hb hw iwX5 hown hK hP 0 rfl rfl 0 (by decide) (hw _ w_f_X5_9) (fun _ h9 => h9) rfl dX5_take_18 ?_
  refine lv_aload_n hx hb dX5_take_21 rfl (lv_at hl 1 rfl) ?_
  refine lv_dup hx hb dX5_take_22 rfl ?_
  refine va_get (D := (dC, dI)) (ci := 4) (v := .int 18) (C := RX5) (T := TX5) (N := 11) hx hb hw iwX5 hown hK hP 0 rfl rfl 1 (by decide) (hw _ w_f_X5_22) (fun _ h9 => h9) rfl dX5_take_23 ?_
  refine lv_dup_x1 hx hb dX5_take_26 rfl rfl ?_
  refine lv_iconst (v := 1) hx hb dX5_take_27 (by decide) ?_
  refine lv_iadd hx hb dX5_take_28 ?_
  refine lv_topi (fun z9 ez9 => ?_)
  obtain rfl : z9 = 19 := ez9.trans (by decide)
  refine va_put (D := (dC, dI)) (ci := 4) (v := .int 19) (ty := tyX5 1) (C := RX5) (T := TX5) (N := 11) hx hb hw iwX5 tyX5 tyX5_ok nmX5 hown hK hP hD hS 0 rfl rfl 1 (by decide) (hw _ w_f_X5_22) (fun _ h9 => h9) rfl (tyX5_ok 1 (by decide)) rfl rfl (Nat.le_of_ble_eq_true rfl) dX5_take_29 (fun H locs hP hD hS => ?_)
  have hP : va_P (dC, dI) cls [(h_rd, .inr (4, [.ref h_by, .int 19, (v_rd 2), (v_rd 3), (v_rd 4), (v_rd 5), (v_rd 6), (v_rd 7), (v_rd 8), (v_rd 9), (v_rd 10)])), (h_by, .inl (cy_by, 600, .inl f8))] H := hP
  have hD : va_D A [(h_rd, .inr (4, [.ref h_by, .int 19, (v_rd 2), (v_rd 3), (v_rd 4), (v_rd 5), (v_rd 6), (v_rd 7), (v_rd 8), (v_rd 9), (v_rd 10)])), (h_by, .inl (cy_by, 600, .inl f8))] := hD
  refine lv_iload_n hx hb dX5_take_32 rfl (lv_at hl 2 rfl) ?_
  refine lv_iload_n hx hb dX5_take_33 rfl (lv_at hl 0 rfl) ?_
  refine lv_ishr hx hb dX5_take_34 ?_
  refine lv_topi (fun z10 ez10 => ?_)
  refine lv_sipush (v := 255) hx hb dX5_take_35 (by decide) ?_
  refine lv_iand hx hb dX5_take_38 ?_
  refine lv_topi (fun z11 ez11 => ?_)
  refine va_iast hx hb hK hP hD hS 1 0 rfl rfl (i := 18) (x := z11) (show ¬ _ from by decide) dX5_take_39 (fun H locs hP hD hS => ?_)
  obtain ⟨f12, ef12⟩ : ∃ g : Nat → Int32, g = upd f8 (Int32.toNatClampNeg 18) z11 := ⟨_, rfl⟩
  have hP : va_P (dC, dI) cls [(h_rd, .inr (4, [.ref h_by, .int 19, (v_rd 2), (v_rd 3), (v_rd 4), (v_rd 5), (v_rd 6), (v_rd 7), (v_rd 8), (v_rd 9), (v_rd 10)])), (h_by, .inl (cy_by, 600, .inl f12))] H := by rw [ef12]; exact hP
  have hD : va_D A [(h_rd, .inr (4, [.ref h_by, .int 19, (v_rd 2), (v_rd 3), (v_rd 4), (v_rd 5), (v_rd 6), (v_rd 7), (v_rd 8), (v_rd 9), (v_rd 10)])), (h_by, .inl (cy_by, 600, .inl f12))] := by rw [ef12]; exact hD
  clear ef12
  refine lv_iinc (v := 0) (lv' := [(2, .int 0), (0, .ref h_rd), (1, .int p1)]) hx hb dX5_take_40 hl (k := 0) rfl (by decide) (by decide) rfl (fun ls hl => ?_)
  refine lv_goto (tgt := 3) hx hb dX5_take_43 (by decide) ?_
  refine lv_iload_n hx hb dX5_take_3 rfl (lv_at hl 0 rfl) ?_
  refine lv_if_lt (tgt := 46) hx hb dX5_take_4 (by decide) (fun c9 => absurd c9 (by decide)) (fun _ => ?_)
  refine lv_aload_n hx hb dX5_take_7 rfl (lv_at hl 1 rfl) ?_
  refine va_get (D := (dC, dI)) (ci := 4) (v := .int 19) (C := RX5) (T := TX5) (N := 11) hx hb hw iwX5 hown hK hP 0 rfl rfl 1 (by decide) (hw _ w_f_X5_22) (fun _ h9 => h9) rfl dX5_take_8 ?_
  refine lv_sipush (v := 600) hx hb dX5_take_11 (by decide) ?_
  refine lv_icmp_ge (tgt := 46) hx hb dX5_take_14 (by decide) (fun c9 => absurd c9 (by decide)) (fun _ => ?_)
  refine lv_aload_n hx hb dX5_take_17 rfl (lv_at hl 1 rfl) ?_
  refine va_get (D := (dC, dI)) (ci := 4) (v := .ref h_by) (C := RX5) (T := TX5) (N := 11) hx hb hw iwX5 hown hK hP 0 rfl rfl 0 (by decide) (hw _ w_f_X5_9) (fun _ h9 => h9) rfl dX5_take_18 ?_
  refine lv_aload_n hx hb dX5_take_21 rfl (lv_at hl 1 rfl) ?_
  refine lv_dup hx hb dX5_take_22 rfl ?_
  refine va_get (D := (dC, dI)) (ci := 4) (v := .int 19) (C := RX5) (T := TX5) (N := 11) hx hb hw iwX5 hown hK hP 0 rfl rfl 1 (by decide) (hw _ w_f_X5_22) (fun _ h9 => h9) rfl dX5_take_23 ?_
  refine lv_dup_x1 hx hb dX5_take_26 rfl rfl ?_
  refine lv_iconst (v := 1) hx hb dX5_take_27 (by decide) ?_
  refine lv_iadd hx hb dX5_take_28 ?_
  refine lv_topi (fun z13 ez13 => ?_)
  obtain rfl : z13 = 20 := ez13.trans (by decide)
  refine va_put (D := (dC, dI)) (ci := 4) (v := .int 20) (ty := tyX5 1) (C := RX5) (T := TX5) (N := 11) hx hb hw iwX5 tyX5 tyX5_ok nmX5 hown hK hP hD hS 0 rfl rfl 1 (by decide) (hw _ w_f_X5_22) (fun _ h9 => h9) rfl (tyX5_ok 1 (by decide)) rfl rfl (Nat.le_of_ble_eq_true rfl) dX5_take_29 (fun H locs hP hD hS => ?_)
  have hP : va_P (dC, dI) cls [(h_rd, .inr (4, [.ref h_by, .int 20, (v_rd 2), (v_rd 3), (v_rd 4), (v_rd 5), (v_rd 6), (v_rd 7), (v_rd 8), (v_rd 9), (v_rd 10)])), (h_by, .inl (cy_by, 600, .inl f12))] H := hP
  have hD : va_D A [(h_rd, .inr (4, [.ref h_by, .int 20, (v_rd 2), (v_rd 3), (v_rd 4), (v_rd 5), (v_rd 6), (v_rd 7), (v_rd 8), (v_rd 9), (v_rd 10)])), (h_by, .inl (cy_by, 600, .inl f12))] := hD
  refine lv_iload_n hx hb dX5_take_32 rfl (lv_at hl 2 rfl) ?_
  refine lv_iload_n hx hb dX5_take_33 rfl (lv_at hl 0 rfl) ?_
  refine lv_ishr hx hb dX5_take_34 ?_
  refine lv_topi (fun z14 ez14 => ?_)
  refine lv_sipush (v := 255) hx hb dX5_take_35 (by decide) ?_
  refine lv_iand hx hb dX5_take_38 ?_
  refine lv_topi (fun z15 ez15 => ?_)
  refine va_iast hx hb hK hP hD hS 1 0 rfl rfl (i := 19) (x := z15) (show ¬ _ from by decide) dX5_take_39 (fun H locs hP hD hS => ?_)
  obtain ⟨f16, ef16⟩ : ∃ g : Nat → Int32, g = upd f12 (Int32.toNatClampNeg 19) z15 := ⟨_, rfl⟩
  have hP : va_P (dC, dI) cls [(h_rd, .inr (4, [.ref h_by, .int 20, (v_rd 2), (v_rd 3), (v_rd 4), (v_rd 5), (v_rd 6), (v_rd 7), (v_rd 8), (v_rd 9), (v_rd 10)])), (h_by, .inl (cy_by, 600, .inl f16))] H := by rw [ef16]; exact hP
  have hD : va_D A [(h_rd, .inr (4, [.ref h_by, .int 20, (v_rd 2), (v_rd 3), (v_rd 4), (v_rd 5), (v_rd 6), (v_rd 7), (v_rd 8), (v_rd 9), (v_rd 10)])), (h_by, .inl (cy_by, 600, .inl f16))] := by rw [ef16]; exact hD
  clear ef16
  refine lv_iinc (v := (-8)) (lv' := [(2, .int (-8)), (0, .ref h_rd), (1, .int p1)]) hx hb dX5_take_40 hl (k := 0) rfl (by decide) (by decide) rfl (fun ls hl => ?_)
  refine lv_goto (tgt := 3) hx hb dX5_take_43 (by decide) ?_
  refine lv_iload_n hx hb dX5_take_3 rfl (lv_at hl 0 rfl) ?_
  refine lv_if_lt (tgt := 46) hx hb dX5_take_4 (by decide) (fun _ => ?_) (fun c9 => absurd c9 (by decide))
  refine W.widen (k := 0) (n := 0) (Nat.le_of_ble_eq_true rfl) (Nat.le_of_ble_eq_true rfl) ?_
  have hK9 := hK.sub (tys' := []) [] rfl
  exact W.vret hx hb hr (fun t ht hW => ⟨⟨f16, rfl, trivial, by rw [ht]; exact hP, va_K.moved hW.alike hK9, hD⟩, hS.F ht⟩) hS.2.2 dX5_take_46

set_option maxHeartbeats 4000000 in
set_option maxRecDepth 100000 in
theorem c_X5_nextToken (l : Launch) (dC : Nat → ClassId) (dI : Nat → Nat → Nat) (sz : Nat) (h_rd : Nat) (v_rd : Nat → Value) : Met l yX5_nextToken (Ws yX5_nextToken cX5_nextToken 1 none) ({ frames := 0, cells := 0, slots := 0, locals := 0 }) (PRE (dC, dI) cls [] [(h_rd, .inr (4, [(v_rd 0), .int 0, (v_rd 2), (v_rd 3), (v_rd 4), (v_rd 5), (v_rd 6), (v_rd 7), .int 0, (v_rd 9), (v_rd 10)]))] sz [.ref h_rd]) (va_Qv (fun (_ : Unit) => True) (fun (u : Unit) (t : State) => va_P (dC, dI) cls [(h_rd, .inr (4, [(v_rd 0), .int 0, (v_rd 2), (v_rd 3), (v_rd 4), (v_rd 5), (v_rd 6), .int 0, .int 0, .int (-1), (v_rd 10)]))] t.heap ∧ va_K (dC, dI) cls [] t ∧ va_D (va_A [(h_rd, .inr (4, [(v_rd 0), .int 0, (v_rd 2), (v_rd 3), (v_rd 4), (v_rd 5), (v_rd 6), (v_rd 7), .int 0, (v_rd 9), (v_rd 10)]))] sz) [(h_rd, .inr (4, [(v_rd 0), .int 0, (v_rd 2), (v_rd 3), (v_rd 4), (v_rd 5), (v_rd 6), .int 0, .int 0, .int (-1), (v_rd 10)]))]) (va_A [(h_rd, .inr (4, [(v_rd 0), .int 0, (v_rd 2), (v_rd 3), (v_rd 4), (v_rd 5), (v_rd 6), (v_rd 7), .int 0, (v_rd 9), (v_rd 10)]))] sz)) 0 0 (va_A [(h_rd, .inr (4, [(v_rd 0), .int 0, (v_rd 2), (v_rd 3), (v_rd 4), (v_rd 5), (v_rd 6), (v_rd 7), .int 0, (v_rd 9), (v_rd 10)]))] sz) := by
  refine Met.ofW (cc := cX5_nextToken) (maxL := 1) (ret := none) (by decide) rfl ?_
  intro p e s m args below meth c s₁ B hml hv
  obtain ⟨rfl, hsz, hP, hK, hD0, hN⟩ := hv
  have hx := B.exec
  have hb := B.bytes
  have hr := B.returns
  have hts := atoms_spec (ws := Ws yX5_nextToken cX5_nextToken 1 none) B.pre
  have hT : ∀ w ∈ WALL, w ∈ Ws yX5_nextToken cX5_nextToken 1 none := fun w h => List.mem_cons_of_mem _ h
  have hw := fun w (h : w ∈ WALL) => hts w (hT w h)
  have hown : s.vm.findClass RX5 = some m.cls := findClass_of_methodNamed B.named
  have hlocks := B.notSynchronized
  subst hsz
  have hD := hD0.self (sz := s.heap.size)
  generalize hAe : va_A [(h_rd, .inr (4, [(v_rd 0), .int 0, (v_rd 2), (v_rd 3), (v_rd 4), (v_rd 5), (v_rd 6), (v_rd 7), .int 0, (v_rd 9), (v_rd 10)]))] s.heap.size = A at hD ⊢
  have hA : ∀ q : Nat, s.heap.size ≤ q → A q := fun q h => by rw [← hAe]; exact Or.inr h
  have hS : va_S A s.heap s.heap [] := va_S.rf
  have hl := lv_entry ([.ref h_rd]) (n := 1) (Nat.le_of_ble_eq_true rfl)
  rw [lg_entry_eq]
  generalize (lg_sl ([.ref h_rd]) ++ List.replicate (1 - (lg_sl ([.ref h_rd])).length) Slot.unset).toArray = ls at hl ⊢
  have hl : lv_has ls 1 [(0, .ref h_rd)] := hl
  refine lv_aload_n hx hb dX5_nextToken_0 rfl (lv_at hl 0 rfl) ?_
  refine lv_aload_n hx hb dX5_nextToken_1 rfl (lv_at hl 0 rfl) ?_
  refine va_get (D := (dC, dI)) (ci := 4) (v := .int 0) (C := RX5) (T := TX5) (N := 11) hx hb hw iwX5 hown hK hP 0 rfl rfl 8 (by decide) (hw _ w_f_X5_37) (fun _ h9 => h9) rfl dX5_nextToken_2 ?_
  refine va_put (D := (dC, dI)) (ci := 4) (v := .int 0) (ty := tyX5 7) (C := RX5) (T := TX5) (N := 11) hx hb hw iwX5 tyX5 tyX5_ok nmX5 hown hK hP hD hS 0 rfl rfl 7 (by decide) (hw _ w_f_X5_49) (fun _ h9 => h9) rfl (tyX5_ok 7 (by decide)) rfl rfl (Nat.le_of_ble_eq_true rfl) dX5_nextToken_5 (fun H locs hP hD hS => ?_)
  have hP : va_P (dC, dI) cls [(h_rd, .inr (4, [(v_rd 0), .int 0, (v_rd 2), (v_rd 3), (v_rd 4), (v_rd 5), (v_rd 6), .int 0, .int 0, (v_rd 9), (v_rd 10)]))] H := hP
  have hD : va_D A [(h_rd, .inr (4, [(v_rd 0), .int 0, (v_rd 2), (v_rd 3), (v_rd 4), (v_rd 5), (v_rd 6), .int 0, .int 0, (v_rd 9), (v_rd 10)]))] := hD
  refine lv_aload_n hx hb dX5_nextToken_8 rfl (lv_at hl 0 rfl) ?_
  refine va_get (D := (dC, dI)) (ci := 4) (v := .int 0) (C := RX5) (T := TX5) (N := 11) hx hb hw iwX5 hown hK hP 0 rfl rfl 7 (by decide) (hw _ w_f_X5_49) (fun _ h9 => h9) rfl dX5_nextToken_9 ?_
  refine lv_aload_n hx hb dX5_nextToken_12 rfl (lv_at hl 0 rfl) ?_
  refine va_get (D := (dC, dI)) (ci := 4) (v := .int 0) (C := RX5) (T := TX5) (N := 11) hx hb hw iwX5 hown hK hP 0 rfl rfl 1 (by decide) (hw _ w_f_X5_22) (fun _ h9 => h9) rfl dX5_nextToken_13 ?_
  refine lv_icmp_ge (tgt := 60) hx hb dX5_nextToken_16 (by decide) (fun _ => ?_) (fun c9 => absurd c9 (by decide))
  refine lv_aload_n hx hb dX5_nextToken_60 rfl (lv_at hl 0 rfl) ?_
  refine va_get (D := (dC, dI)) (ci := 4) (v := .int 0) (C := RX5) (T := TX5) (N := 11) hx hb hw iwX5 hown hK hP 0 rfl rfl 7 (by decide) (hw _ w_f_X5_49) (fun _ h9 => h9) rfl dX5_nextToken_61 ?_
  refine lv_aload_n hx hb dX5_nextToken_64 rfl (lv_at hl 0 rfl) ?_
  refine va_get (D := (dC, dI)) (ci := 4) (v := .int 0) (C := RX5) (T := TX5) (N := 11) hx hb hw iwX5 hown hK hP 0 rfl rfl 1 (by decide) (hw _ w_f_X5_22) (fun _ h9 => h9) rfl dX5_nextToken_65 ?_
  refine lv_icmp_lt (tgt := 79) hx hb dX5_nextToken_68 (by decide) (fun c9 => absurd c9 (by decide)) (fun _ => ?_)
  refine lv_aload_n hx hb dX5_nextToken_71 rfl (lv_at hl 0 rfl) ?_
  refine lv_iconst (v := (-1)) hx hb dX5_nextToken_72 (by decide) ?_
  refine va_put (D := (dC, dI)) (ci := 4) (v := .int (-1)) (ty := tyX5 9) (C := RX5) (T := TX5) (N := 11) hx hb hw iwX5 tyX5 tyX5_ok nmX5 hown hK hP hD hS 0 rfl rfl 9 (by decide) (hw _ w_f_X5_43) (fun _ h9 => h9) rfl (tyX5_ok 9 (by decide)) rfl rfl (Nat.le_of_ble_eq_true rfl) dX5_nextToken_73 (fun H locs hP hD hS => ?_)
  have hP : va_P (dC, dI) cls [(h_rd, .inr (4, [(v_rd 0), .int 0, (v_rd 2), (v_rd 3), (v_rd 4), (v_rd 5), (v_rd 6), .int 0, .int 0, .int (-1), (v_rd 10)]))] H := hP
  have hD : va_D A [(h_rd, .inr (4, [(v_rd 0), .int 0, (v_rd 2), (v_rd 3), (v_rd 4), (v_rd 5), (v_rd 6), .int 0, .int 0, .int (-1), (v_rd 10)]))] := hD
  refine lv_goto (tgt := 139) hx hb dX5_nextToken_76 (by decide) ?_
  refine W.widen (k := 0) (n := 0) (Nat.le_of_ble_eq_true rfl) (Nat.le_of_ble_eq_true rfl) ?_
  have hK9 := hK.sub (tys' := []) [] rfl
  exact W.vret hx hb hr (fun t ht hW => ⟨⟨(), rfl, trivial, by rw [ht]; exact hP, va_K.moved hW.alike hK9, hD⟩, hS.F ht⟩) hS.2.2 dX5_nextToken_139

set_option maxHeartbeats 4000000 in
set_option maxRecDepth 100000 in
theorem c_X8_clear (l : Launch) (dC : Nat → ClassId) (dI : Nat → Nat → Nat) (sz : Nat) (h_td : Nat) (v_td : Nat → Value) : Met l yX8_clear (Ws yX8_clear cX8_clear 1 none) ({ frames := 0, cells := 0, slots := 0, locals := 0 }) (PRE (dC, dI) cls [] [(h_td, .inr (5, [(v_td 0), (v_td 1), (v_td 2), (v_td 3), (v_td 4), (v_td 5), (v_td 6), (v_td 7), (v_td 8), (v_td 9)]))] sz [.ref h_td]) (va_Qv (fun (_ : Unit) => True) (fun (u : Unit) (t : State) => va_P (dC, dI) cls [(h_td, .inr (5, [(v_td 0), (v_td 1), (v_td 2), (v_td 3), .int 0, (v_td 5), (v_td 6), (v_td 7), (v_td 8), .int 0]))] t.heap ∧ va_K (dC, dI) cls [] t ∧ va_D (va_A [(h_td, .inr (5, [(v_td 0), (v_td 1), (v_td 2), (v_td 3), (v_td 4), (v_td 5), (v_td 6), (v_td 7), (v_td 8), (v_td 9)]))] sz) [(h_td, .inr (5, [(v_td 0), (v_td 1), (v_td 2), (v_td 3), .int 0, (v_td 5), (v_td 6), (v_td 7), (v_td 8), .int 0]))]) (va_A [(h_td, .inr (5, [(v_td 0), (v_td 1), (v_td 2), (v_td 3), (v_td 4), (v_td 5), (v_td 6), (v_td 7), (v_td 8), (v_td 9)]))] sz)) 0 0 (va_A [(h_td, .inr (5, [(v_td 0), (v_td 1), (v_td 2), (v_td 3), (v_td 4), (v_td 5), (v_td 6), (v_td 7), (v_td 8), (v_td 9)]))] sz) := by
  refine Met.ofW (cc := cX8_clear) (maxL := 1) (ret := none) (by decide) rfl ?_
  intro p e s m args below meth c s₁ B hml hv
  obtain ⟨rfl, hsz, hP, hK, hD0, hN⟩ := hv
  have hx := B.exec
  have hb := B.bytes
  have hr := B.returns
  have hts := atoms_spec (ws := Ws yX8_clear cX8_clear 1 none) B.pre
  have hT : ∀ w ∈ WALL, w ∈ Ws yX8_clear cX8_clear 1 none := fun w h => List.mem_cons_of_mem _ h
  have hw := fun w (h : w ∈ WALL) => hts w (hT w h)
  have hown : s.vm.findClass RX8 = some m.cls := findClass_of_methodNamed B.named
  have hlocks := B.notSynchronized
  subst hsz
  have hD := hD0.self (sz := s.heap.size)
  generalize hAe : va_A [(h_td, .inr (5, [(v_td 0), (v_td 1), (v_td 2), (v_td 3), (v_td 4), (v_td 5), (v_td 6), (v_td 7), (v_td 8), (v_td 9)]))] s.heap.size = A at hD ⊢
  have hA : ∀ q : Nat, s.heap.size ≤ q → A q := fun q h => by rw [← hAe]; exact Or.inr h
  have hS : va_S A s.heap s.heap [] := va_S.rf
  have hl := lv_entry ([.ref h_td]) (n := 1) (Nat.le_of_ble_eq_true rfl)
  rw [lg_entry_eq]
  generalize (lg_sl ([.ref h_td]) ++ List.replicate (1 - (lg_sl ([.ref h_td])).length) Slot.unset).toArray = ls at hl ⊢
  have hl : lv_has ls 1 [(0, .ref h_td)] := hl
  refine lv_aload_n hx hb dX8_clear_0 rfl (lv_at hl 0 rfl) ?_
  refine lv_iconst (v := 0) hx hb dX8_clear_1 (by decide) ?_
  refine va_put (D := (dC, dI)) (ci := 5) (v := .int 0) (ty := tyX8 4) (C := RX8) (T := TX8) (N := 10) hx hb hw iwX8 tyX8 tyX8_ok nmX8 hown hK hP hD hS 0 rfl rfl 4 (by decide) (hw _ w_f_X8_37) (fun _ h9 => h9) rfl (tyX8_ok 4 (by decide)) rfl rfl (Nat.le_of_ble_eq_true rfl) dX8_clear_2 (fun H locs hP hD hS => ?_)
  have hP : va_P (dC, dI) cls [(h_td, .inr (5, [(v_td 0), (v_td 1), (v_td 2), (v_td 3), .int 0, (v_td 5), (v_td 6), (v_td 7), (v_td 8), (v_td 9)]))] H := hP
  have hD : va_D A [(h_td, .inr (5, [(v_td 0), (v_td 1), (v_td 2), (v_td 3), .int 0, (v_td 5), (v_td 6), (v_td 7), (v_td 8), (v_td 9)]))] := hD
  refine lv_aload_n hx hb dX8_clear_5 rfl (lv_at hl 0 rfl) ?_
  refine lv_iconst (v := 0) hx hb dX8_clear_6 (by decide) ?_
  refine va_put (D := (dC, dI)) (ci := 5) (v := .int 0) (ty := tyX8 9) (C := RX8) (T := TX8) (N := 10) hx hb hw iwX8 tyX8 tyX8_ok nmX8 hown hK hP hD hS 0 rfl rfl 9 (by decide) (hw _ w_f_X8_41) (fun _ h9 => h9) rfl (tyX8_ok 9 (by decide)) rfl rfl (Nat.le_of_ble_eq_true rfl) dX8_clear_7 (fun H locs hP hD hS => ?_)
  have hP : va_P (dC, dI) cls [(h_td, .inr (5, [(v_td 0), (v_td 1), (v_td 2), (v_td 3), .int 0, (v_td 5), (v_td 6), (v_td 7), (v_td 8), .int 0]))] H := hP
  have hD : va_D A [(h_td, .inr (5, [(v_td 0), (v_td 1), (v_td 2), (v_td 3), .int 0, (v_td 5), (v_td 6), (v_td 7), (v_td 8), .int 0]))] := hD
  refine W.widen (k := 0) (n := 0) (Nat.le_of_ble_eq_true rfl) (Nat.le_of_ble_eq_true rfl) ?_
  have hK9 := hK.sub (tys' := []) [] rfl
  exact W.vret hx hb hr (fun t ht hW => ⟨⟨(), rfl, trivial, by rw [ht]; exact hP, va_K.moved hW.alike hK9, hD⟩, hS.F ht⟩) hS.2.2 dX8_clear_10

set_option maxHeartbeats 4000000 in
set_option maxRecDepth 100000 in
theorem c_X5_read (l : Launch) (dC : Nat → ClassId) (dI : Nat → Nat → Nat) (sz : Nat) (h_rd : Nat) (h_td : Nat) (v_rd : Nat → Value) (v_td : Nat → Value) : Met l yX5_read (Ws yX5_read cX5_read 3 none) ({ frames := 1, cells := 0, slots := 0, locals := 20 }) (PRE (dC, dI) cls [] [(h_rd, .inr (4, [(v_rd 0), .int 0, (v_rd 2), (v_rd 3), (v_rd 4), (v_rd 5), (v_rd 6), (v_rd 7), (v_rd 8), (v_rd 9), (v_rd 10)])), (h_td, .inr (5, [(v_td 0), (v_td 1), (v_td 2), (v_td 3), (v_td 4), (v_td 5), (v_td 6), (v_td 7), (v_td 8), (v_td 9)]))] sz [.ref h_rd, .ref h_td]) (va_Qv (fun (_ : Unit) => True) (fun (u : Unit) (t : State) => va_P (dC, dI) cls [(h_td, .inr (5, [(v_td 0), (v_td 1), (v_td 2), (v_td 3), .int 0, (v_td 5), (v_td 6), (v_td 7), (v_td 8), .int 0])), (h_rd, .inr (4, [(v_rd 0), .int 0, .int 0, .int (-1), .ref h_td, (v_rd 5), (v_rd 6), .int 0, .int 0, .int (-1), (v_rd 10)]))] t.heap ∧ va_K (dC, dI) cls [] t ∧ va_D (va_A [(h_rd, .inr (4, [(v_rd 0), .int 0, (v_rd 2), (v_rd 3), (v_rd 4), (v_rd 5), (v_rd 6), (v_rd 7), (v_rd 8), (v_rd 9), (v_rd 10)])), (h_td, .inr (5, [(v_td 0), (v_td 1), (v_td 2), (v_td 3), (v_td 4), (v_td 5), (v_td 6), (v_td 7), (v_td 8), (v_td 9)]))] sz) [(h_td, .inr (5, [(v_td 0), (v_td 1), (v_td 2), (v_td 3), .int 0, (v_td 5), (v_td 6), (v_td 7), (v_td 8), .int 0])), (h_rd, .inr (4, [(v_rd 0), .int 0, .int 0, .int (-1), .ref h_td, (v_rd 5), (v_rd 6), .int 0, .int 0, .int (-1), (v_rd 10)]))]) (va_A [(h_rd, .inr (4, [(v_rd 0), .int 0, (v_rd 2), (v_rd 3), (v_rd 4), (v_rd 5), (v_rd 6), (v_rd 7), (v_rd 8), (v_rd 9), (v_rd 10)])), (h_td, .inr (5, [(v_td 0), (v_td 1), (v_td 2), (v_td 3), (v_td 4), (v_td 5), (v_td 6), (v_td 7), (v_td 8), (v_td 9)]))] sz)) 0 0 (va_A [(h_rd, .inr (4, [(v_rd 0), .int 0, (v_rd 2), (v_rd 3), (v_rd 4), (v_rd 5), (v_rd 6), (v_rd 7), (v_rd 8), (v_rd 9), (v_rd 10)])), (h_td, .inr (5, [(v_td 0), (v_td 1), (v_td 2), (v_td 3), (v_td 4), (v_td 5), (v_td 6), (v_td 7), (v_td 8), (v_td 9)]))] sz) := by
  refine Met.ofW (cc := cX5_read) (maxL := 3) (ret := none) (by decide) rfl ?_
  intro p e s m args below meth c s₁ B hml hv
  obtain ⟨rfl, hsz, hP, hK, hD0, hN⟩ := hv
  have hx := B.exec
  have hb := B.bytes
  have hr := B.returns
  have hts := atoms_spec (ws := Ws yX5_read cX5_read 3 none) B.pre
  have hT : ∀ w ∈ WALL, w ∈ Ws yX5_read cX5_read 3 none := fun w h => List.mem_cons_of_mem _ h
  have hw := fun w (h : w ∈ WALL) => hts w (hT w h)
  have hown : s.vm.findClass RX5 = some m.cls := findClass_of_methodNamed B.named
  have hlocks := B.notSynchronized
  subst hsz
  have hD := hD0.self (sz := s.heap.size)
  generalize hAe : va_A [(h_rd, .inr (4, [(v_rd 0), .int 0, (v_rd 2), (v_rd 3), (v_rd 4), (v_rd 5), (v_rd 6), (v_rd 7), (v_rd 8), (v_rd 9), (v_rd 10)])), (h_td, .inr (5, [(v_td 0), (v_td 1), (v_td 2), (v_td 3), (v_td 4), (v_td 5), (v_td 6), (v_td 7), (v_td 8), (v_td 9)]))] s.heap.size = A at hD ⊢
  have hA : ∀ q : Nat, s.heap.size ≤ q → A q := fun q h => by rw [← hAe]; exact Or.inr h
  have hS : va_S A s.heap s.heap [] := va_S.rf
  have hl := lv_entry ([.ref h_rd, .ref h_td]) (n := 3) (Nat.le_of_ble_eq_true rfl)
  rw [lg_entry_eq]
  generalize (lg_sl ([.ref h_rd, .ref h_td]) ++ List.replicate (3 - (lg_sl ([.ref h_rd, .ref h_td])).length) Slot.unset).toArray = ls at hl ⊢
  have hl : lv_has ls 3 [(0, .ref h_rd), (1, .ref h_td)] := hl
  refine lv_aload_n hx hb dX5_read_0 rfl (lv_at hl 0 rfl) ?_
  refine lv_aload_n hx hb dX5_read_1 rfl (lv_at hl 1 rfl) ?_
  refine va_put (D := (dC, dI)) (ci := 4) (v := .ref h_td) (ty := tyX5 4) (C := RX5) (T := TX5) (N := 11) hx hb hw iwX5 tyX5 tyX5_ok nmX5 hown hK hP hD hS 0 rfl rfl 4 (by decide) (hw _ w_f_X5_25) (fun _ h9 => h9) rfl (tyX5_ok 4 (by decide)) rfl rfl (Nat.le_of_ble_eq_true rfl) dX5_read_2 (fun H locs hP hD hS => ?_)
  have hP : va_P (dC, dI) cls [(h_rd, .inr (4, [(v_rd 0), .int 0, (v_rd 2), (v_rd 3), .ref h_td, (v_rd 5), (v_rd 6), (v_rd 7), (v_rd 8), (v_rd 9), (v_rd 10)])), (h_td, .inr (5, [(v_td 0), (v_td 1), (v_td 2), (v_td 3), (v_td 4), (v_td 5), (v_td 6), (v_td 7), (v_td 8), (v_td 9)]))] H := hP
  have hD : va_D A [(h_rd, .inr (4, [(v_rd 0), .int 0, (v_rd 2), (v_rd 3), .ref h_td, (v_rd 5), (v_rd 6), (v_rd 7), (v_rd 8), (v_rd 9), (v_rd 10)])), (h_td, .inr (5, [(v_td 0), (v_td 1), (v_td 2), (v_td 3), (v_td 4), (v_td 5), (v_td 6), (v_td 7), (v_td 8), (v_td 9)]))] := hD
  refine lv_aload_n hx hb dX5_read_5 rfl (lv_at hl 0 rfl) ?_
  refine va_get (D := (dC, dI)) (ci := 4) (v := .ref h_td) (C := RX5) (T := TX5) (N := 11) hx hb hw iwX5 hown hK hP 0 rfl rfl 4 (by decide) (hw _ w_f_X5_25) (fun _ h9 => h9) rfl dX5_read_6 ?_
  have hPc := hP.sub (ws' := [(h_td, .inr (5, [(v_td 0), (v_td 1), (v_td 2), (v_td 3), (v_td 4), (v_td 5), (v_td 6), (v_td 7), (v_td 8), (v_td 9)]))]) [1] rfl
  have hDc := hD.sub (ws' := [(h_td, .inr (5, [(v_td 0), (v_td 1), (v_td 2), (v_td 3), (v_td 4), (v_td 5), (v_td 6), (v_td 7), (v_td 8), (v_td 9)]))]) [1] (by decide) rfl
  have hKc := hK.sub (tys' := []) [] rfl
  have hFc := va_free (wc := [(h_td, .inr (5, [(v_td 0), (v_td 1), (v_td 2), (v_td 3), (v_td 4), (v_td 5), (v_td 6), (v_td 7), (v_td 8), (v_td 9)]))]) hD hS hA [1] rfl
  refine va_callv (va_runVN (As := []) (rest := []) ⟨hx, hb, hml, hown, hts⟩ (c_X8_clear l dC dI H.size h_td v_td) ⟨va_cnB (host := "OppositePairs") 0 hts (gd hT w_code_X8_clear) rfl rfl rfl (hN _ n_m_X5_29) (hw _ w_ini_X8) (by decide +kernel) ⟨(Nat.le_of_ble_eq_true rfl), (Nat.le_of_ble_eq_true rfl)⟩, hw _ w_instanceMethod_X8_clear, hw _ ws_sel_X8_clear⟩ ⟨pre_blind, va_recv hK hP (ci := 5) (q0 := 1) rfl rfl, pre_of hPc hKc hDc hN⟩ rfl rfl hl.1 rfl (lv_room (Nat.le_of_ble_eq_true rfl)) dX5_read_9 ⟨(Nat.le_of_ble_eq_true rfl), (Nat.le_of_ble_eq_true rfl)⟩) hS (fun q _ h => hFc q h) hFc (fun u t H locs ht hvm hq hB hz1 hk1 hS => ?_)
  obtain ⟨hP1, hK1, hD1⟩ := hB
  rw [ht] at hP1
  have hK1 := va_K.moved hvm.symm hK1
  obtain ⟨hP, hD⟩ := va_join (wr := [(h_rd, .inr (4, [(v_rd 0), .int 0, (v_rd 2), (v_rd 3), .ref h_td, (v_rd 5), (v_rd 6), (v_rd 7), (v_rd 8), (v_rd 9), (v_rd 10)]))]) (w1 := [(h_td, .inr (5, [(v_td 0), (v_td 1), (v_td 2), (v_td 3), .int 0, (v_td 5), (v_td 6), (v_td 7), (v_td 8), .int 0]))]) hP hD [1] [0] rfl rfl (by decide) (by decide) hk1 hFc hP1 hD1
  have hP : va_P (dC, dI) cls [(h_rd, .inr (4, [(v_rd 0), .int 0, (v_rd 2), (v_rd 3), .ref h_td, (v_rd 5), (v_rd 6), (v_rd 7), (v_rd 8), (v_rd 9), (v_rd 10)])), (h_td, .inr (5, [(v_td 0), (v_td 1), (v_td 2), (v_td 3), .int 0, (v_td 5), (v_td 6), (v_td 7), (v_td 8), .int 0]))] H := hP
  have hD : va_D A [(h_rd, .inr (4, [(v_rd 0), .int 0, (v_rd 2), (v_rd 3), .ref h_td, (v_rd 5), (v_rd 6), (v_rd 7), (v_rd 8), (v_rd 9), (v_rd 10)])), (h_td, .inr (5, [(v_td 0), (v_td 1), (v_td 2), (v_td 3), .int 0, (v_td 5), (v_td 6), (v_td 7), (v_td 8), .int 0]))] := hD
  refine lv_aload_n hx hb dX5_read_12 rfl (lv_at hl 0 rfl) ?_
  refine lv_iconst (v := 0) hx hb dX5_read_13 (by decide) ?_
  refine va_put (D := (dC, dI)) (ci := 4) (v := .int 0) (ty := tyX5 2) (C := RX5) (T := TX5) (N := 11) hx hb hw iwX5 tyX5 tyX5_ok nmX5 hown hK hP hD hS 0 rfl rfl 2 (by decide) (hw _ w_f_X5_34) (fun _ h9 => h9) rfl (tyX5_ok 2 (by decide)) rfl rfl (Nat.le_of_ble_eq_true rfl) dX5_read_14 (fun H locs hP hD hS => ?_)
  have hP : va_P (dC, dI) cls [(h_rd, .inr (4, [(v_rd 0), .int 0, .int 0, (v_rd 3), .ref h_td, (v_rd 5), (v_rd 6), (v_rd 7), (v_rd 8), (v_rd 9), (v_rd 10)])), (h_td, .inr (5, [(v_td 0), (v_td 1), (v_td 2), (v_td 3), .int 0, (v_td 5), (v_td 6), (v_td 7), (v_td 8), .int 0]))] H := hP
  have hD : va_D A [(h_rd, .inr (4, [(v_rd 0), .int 0, .int 0, (v_rd 3), .ref h_td, (v_rd 5), (v_rd 6), (v_rd 7), (v_rd 8), (v_rd 9), (v_rd 10)])), (h_td, .inr (5, [(v_td 0), (v_td 1), (v_td 2), (v_td 3), .int 0, (v_td 5), (v_td 6), (v_td 7), (v_td 8), .int 0]))] := hD
  refine lv_aload_n hx hb dX5_read_17 rfl (lv_at hl 0 rfl) ?_
  refine lv_iconst (v := (-1)) hx hb dX5_read_18 (by decide) ?_
  refine va_put (D := (dC, dI)) (ci := 4) (v := .int (-1)) (ty := tyX5 3) (C := RX5) (T := TX5) (N := 11) hx hb hw iwX5 tyX5 tyX5_ok nmX5 hown hK hP hD hS 0 rfl rfl 3 (by decide) (hw _ w_f_X5_15) (fun _ h9 => h9) rfl (tyX5_ok 3 (by decide)) rfl rfl (Nat.le_of_ble_eq_true rfl) dX5_read_19 (fun H locs hP hD hS => ?_)
  have hP : va_P (dC, dI) cls [(h_rd, .inr (4, [(v_rd 0), .int 0, .int 0, .int (-1), .ref h_td, (v_rd 5), (v_rd 6), (v_rd 7), (v_rd 8), (v_rd 9), (v_rd 10)])), (h_td, .inr (5, [(v_td 0), (v_td 1), (v_td 2), (v_td 3), .int 0, (v_td 5), (v_td 6), (v_td 7), (v_td 8), .int 0]))] H := hP
  have hD : va_D A [(h_rd, .inr (4, [(v_rd 0), .int 0, .int 0, .int (-1), .ref h_td, (v_rd 5), (v_rd 6), (v_rd 7), (v_rd 8), (v_rd 9), (v_rd 10)])), (h_td, .inr (5, [(v_td 0), (v_td 1), (v_td 2), (v_td 3), .int 0, (v_td 5), (v_td 6), (v_td 7), (v_td 8), .int 0]))] := hD
  refine lv_aload_n hx hb dX5_read_22 rfl (lv_at hl 0 rfl) ?_
  refine lv_iconst (v := 0) hx hb dX5_read_23 (by decide) ?_
  refine va_put (D := (dC, dI)) (ci := 4) (v := .int 0) (ty := tyX5 8) (C := RX5) (T := TX5) (N := 11) hx hb hw iwX5 tyX5 tyX5_ok nmX5 hown hK hP hD hS 0 rfl rfl 8 (by decide) (hw _ w_f_X5_37) (fun _ h9 => h9) rfl (tyX5_ok 8 (by decide)) rfl rfl (Nat.le_of_ble_eq_true rfl) dX5_read_24 (fun H locs hP hD hS => ?_)
  have hP : va_P (dC, dI) cls [(h_rd, .inr (4, [(v_rd 0), .int 0, .int 0, .int (-1), .ref h_td, (v_rd 5), (v_rd 6), (v_rd 7), .int 0, (v_rd 9), (v_rd 10)])), (h_td, .inr (5, [(v_td 0), (v_td 1), (v_td 2), (v_td 3), .int 0, (v_td 5), (v_td 6), (v_td 7), (v_td 8), .int 0]))] H := hP
  have hD : va_D A [(h_rd, .inr (4, [(v_rd 0), .int 0, .int 0, .int (-1), .ref h_td, (v_rd 5), (v_rd 6), (v_rd 7), .int 0, (v_rd 9), (v_rd 10)])), (h_td, .inr (5, [(v_td 0), (v_td 1), (v_td 2), (v_td 3), .int 0, (v_td 5), (v_td 6), (v_td 7), (v_td 8), .int 0]))] := hD
  refine lv_aload_n hx hb dX5_read_27 rfl (lv_at hl 0 rfl) ?_
  have hPc := hP.sub (ws' := [(h_rd, .inr (4, [(v_rd 0), .int 0, .int 0, .int (-1), .ref h_td, (v_rd 5), (v_rd 6), (v_rd 7), .int 0, (v_rd 9), (v_rd 10)]))]) [0] rfl
  have hDc := hD.sub (ws' := [(h_rd, .inr (4, [(v_rd 0), .int 0, .int 0, .int (-1), .ref h_td, (v_rd 5), (v_rd 6), (v_rd 7), .int 0, (v_rd 9), (v_rd 10)]))]) [0] (by decide) rfl
  have hKc := hK.sub (tys' := []) [] rfl
  have hFc := va_free (wc := [(h_rd, .inr (4, [(v_rd 0), .int 0, .int 0, .int (-1), .ref h_td, (v_rd 5), (v_rd 6), (v_rd 7), .int 0, (v_rd 9), (v_rd 10)]))]) hD hS hA [0] rfl
  refine va_callv (va_runV (As := []) (rest := []) ⟨hx, hb, hml, hown, hts⟩ (c_X5_nextToken l dC dI H.size h_rd (fun k => List.getD [(v_rd 0), .int 0, .int 0, .int (-1), .ref h_td, (v_rd 5), (v_rd 6), (v_rd 7), .int 0, (v_rd 9), (v_rd 10)] k .null)) (cwV 0 hts (gv hT w_m_X5_40 w_instanceMethod_X5_nextToken ws_sel_X5_nextToken w_ini_X5 w_code_X5_nextToken) rfl rfl rfl (by decide +kernel) ⟨(Nat.le_of_ble_eq_true rfl), (Nat.le_of_ble_eq_true rfl)⟩) ⟨pre_blind, va_recv hK hP (ci := 4) (q0 := 0) rfl rfl, pre_of hPc hKc hDc hN⟩ rfl rfl hl.1 rfl (lv_room (Nat.le_of_ble_eq_true rfl)) dX5_read_28 ⟨(Nat.le_of_ble_eq_true rfl), (Nat.le_of_ble_eq_true rfl)⟩) hS (fun q _ h => hFc q h) hFc (fun u t H locs ht hvm hq hB hz1 hk1 hS => ?_)
  obtain ⟨hP1, hK1, hD1⟩ := hB
  rw [ht] at hP1
  have hK1 := va_K.moved hvm.symm hK1
  obtain ⟨hP, hD⟩ := va_join (wr := [(h_td, .inr (5, [(v_td 0), (v_td 1), (v_td 2), (v_td 3), .int 0, (v_td 5), (v_td 6), (v_td 7), (v_td 8), .int 0]))]) (w1 := [(h_rd, .inr (4, [(v_rd 0), .int 0, .int 0, .int (-1), .ref h_td, (v_rd 5), (v_rd 6), .int 0, .int 0, .int (-1), (v_rd 10)]))]) hP hD [0] [1] rfl rfl (by decide) (by decide) hk1 hFc hP1 hD1
  have hP : va_P (dC, dI) cls [(h_td, .inr (5, [(v_td 0), (v_td 1), (v_td 2), (v_td 3), .int 0, (v_td 5), (v_td 6), (v_td 7), (v_td 8), .int 0])), (h_rd, .inr (4, [(v_rd 0), .int 0, .int 0, .int (-1), .ref h_td, (v_rd 5), (v_rd 6), .int 0, .int 0, .int (-1), (v_rd 10)]))] H := hP
  have hD : va_D A [(h_td, .inr (5, [(v_td 0), (v_td 1), (v_td 2), (v_td 3), .int 0, (v_td 5), (v_td 6), (v_td 7), (v_td 8), .int 0])), (h_rd, .inr (4, [(v_rd 0), .int 0, .int 0, .int (-1), .ref h_td, (v_rd 5), (v_rd 6), .int 0, .int 0, .int (-1), (v_rd 10)]))] := hD
  refine lv_iconst (v := 0) hx hb dX5_read_31 (by decide) ?_
  refine lv_istore_n (lv' := [(2, .int 0), (0, .ref h_rd), (1, .ref h_td)]) hx hb dX5_read_32 rfl hl (by decide) rfl (fun ls hl => ?_)
  refine lv_iload_n hx hb dX5_read_33 rfl (lv_at hl 0 rfl) ?_
  refine lv_sipush (v := 600) hx hb dX5_read_34 (by decide) ?_
  refine lv_icmp_ge (tgt := 65) hx hb dX5_read_37 (by decide) (fun c9 => absurd c9 (by decide)) (fun _ => ?_)
  refine lv_aload_n hx hb dX5_read_40 rfl (lv_at hl 1 rfl) ?_
  refine va_get (D := (dC, dI)) (ci := 4) (v := .int 0) (C := RX5) (T := TX5) (N := 11) hx hb hw iwX5 hown hK hP 1 rfl rfl 2 (by decide) (hw _ w_f_X5_34) (fun _ h9 => h9) rfl dX5_read_41 ?_
  refine lv_if_ne (tgt := 65) hx hb dX5_read_44 (by decide) (fun c9 => absurd c9 (by decide)) (fun _ => ?_)
  refine lv_aload_n hx hb dX5_read_47 rfl (lv_at hl 1 rfl) ?_
  refine va_get (D := (dC, dI)) (ci := 4) (v := .int (-1)) (C := RX5) (T := TX5) (N := 11) hx hb hw iwX5 hown hK hP 1 rfl rfl 9 (by decide) (hw _ w_f_X5_43) (fun _ h9 => h9) rfl dX5_read_48 ?_
  refine lv_iconst (v := (-1)) hx hb dX5_read_51 (by decide) ?_
  refine lv_icmp_eq (tgt := 65) hx hb dX5_read_52 (by decide) (fun _ => ?_) (fun c9 => absurd c9 (by decide))
  refine W.widen (k := 0) (n := 0) (Nat.le_of_ble_eq_true rfl) (Nat.le_of_ble_eq_true rfl) ?_
  have hK9 := hK.sub (tys' := []) [] rfl
  exact W.vret hx hb hr (fun t ht hW => ⟨⟨(), rfl, trivial, by rw [ht]; exact hP, va_K.moved hW.alike hK9, hD⟩, hS.F ht⟩) hS.2.2 dX5_read_65

set_option maxHeartbeats 4000000 in
set_option maxRecDepth 100000 in
theorem c_X3_forget (l : Launch) (dC : Nat → ClassId) (dI : Nat → Nat → Nat) (sz : Nat) (h_mx : Nat) (v_mx : Nat → Value) : Met l yX3_forget (Ws yX3_forget cX3_forget 1 none) ({ frames := 0, cells := 0, slots := 0, locals := 0 }) (PRE (dC, dI) cls [] [(h_mx, .inr (2, [(v_mx 0), (v_mx 1), (v_mx 2), (v_mx 3), (v_mx 4), (v_mx 5), (v_mx 6), (v_mx 7), (v_mx 8), (v_mx 9), (v_mx 10), (v_mx 11)]))] sz [.ref h_mx]) (va_Qv (fun (_ : Unit) => True) (fun (u : Unit) (t : State) => va_P (dC, dI) cls [(h_mx, .inr (2, [(v_mx 0), (v_mx 1), (v_mx 2), (v_mx 3), .int 0, (v_mx 5), (v_mx 6), (v_mx 7), (v_mx 8), (v_mx 9), .int (-2), (v_mx 11)]))] t.heap ∧ va_K (dC, dI) cls [] t ∧ va_D (va_A [(h_mx, .inr (2, [(v_mx 0), (v_mx 1), (v_mx 2), (v_mx 3), (v_mx 4), (v_mx 5), (v_mx 6), (v_mx 7), (v_mx 8), (v_mx 9), (v_mx 10), (v_mx 11)]))] sz) [(h_mx, .inr (2, [(v_mx 0), (v_mx 1), (v_mx 2), (v_mx 3), .int 0, (v_mx 5), (v_mx 6), (v_mx 7), (v_mx 8), (v_mx 9), .int (-2), (v_mx 11)]))]) (va_A [(h_mx, .inr (2, [(v_mx 0), (v_mx 1), (v_mx 2), (v_mx 3), (v_mx 4), (v_mx 5), (v_mx 6), (v_mx 7), (v_mx 8), (v_mx 9), (v_mx 10), (v_mx 11)]))] sz)) 0 0 (va_A [(h_mx, .inr (2, [(v_mx 0), (v_mx 1), (v_mx 2), (v_mx 3), (v_mx 4), (v_mx 5), (v_mx 6), (v_mx 7), (v_mx 8), (v_mx 9), (v_mx 10), (v_mx 11)]))] sz) := by
  refine Met.ofW (cc := cX3_forget) (maxL := 1) (ret := none) (by decide) rfl ?_
  intro p e s m args below meth c s₁ B hml hv
  obtain ⟨rfl, hsz, hP, hK, hD0, hN⟩ := hv
  have hx := B.exec
  have hb := B.bytes
  have hr := B.returns
  have hts := atoms_spec (ws := Ws yX3_forget cX3_forget 1 none) B.pre
  have hT : ∀ w ∈ WALL, w ∈ Ws yX3_forget cX3_forget 1 none := fun w h => List.mem_cons_of_mem _ h
  have hw := fun w (h : w ∈ WALL) => hts w (hT w h)
  have hown : s.vm.findClass RX3 = some m.cls := findClass_of_methodNamed B.named
  have hlocks := B.notSynchronized
  subst hsz
  have hD := hD0.self (sz := s.heap.size)
  generalize hAe : va_A [(h_mx, .inr (2, [(v_mx 0), (v_mx 1), (v_mx 2), (v_mx 3), (v_mx 4), (v_mx 5), (v_mx 6), (v_mx 7), (v_mx 8), (v_mx 9), (v_mx 10), (v_mx 11)]))] s.heap.size = A at hD ⊢
  have hA : ∀ q : Nat, s.heap.size ≤ q → A q := fun q h => by rw [← hAe]; exact Or.inr h
  have hS : va_S A s.heap s.heap [] := va_S.rf
  have hl := lv_entry ([.ref h_mx]) (n := 1) (Nat.le_of_ble_eq_true rfl)
  rw [lg_entry_eq]
  generalize (lg_sl ([.ref h_mx]) ++ List.replicate (1 - (lg_sl ([.ref h_mx])).length) Slot.unset).toArray = ls at hl ⊢
  have hl : lv_has ls 1 [(0, .ref h_mx)] := hl
  refine lv_aload_n hx hb dX3_forget_0 rfl (lv_at hl 0 rfl) ?_
  refine lv_iconst (v := 0) hx hb dX3_forget_1 (by decide) ?_
  refine va_put (D := (dC, dI)) (ci := 2) (v := .int 0) (ty := tyX3 4) (C := RX3) (T := TX3) (N := 12) hx hb hw iwX3 tyX3 tyX3_ok nmX3 hown hK hP hD hS 0 rfl rfl 4 (by decide) (hw _ w_f_X3_43) (fun _ h9 => h9) rfl (tyX3_ok 4 (by decide)) rfl rfl (Nat.le_of_ble_eq_true rfl) dX3_forget_2 (fun H locs hP hD hS => ?_)
  have hP : va_P (dC, dI) cls [(h_mx, .inr (2, [(v_mx 0), (v_mx 1), (v_mx 2), (v_mx 3), .int 0, (v_mx 5), (v_mx 6), (v_mx 7), (v_mx 8), (v_mx 9), (v_mx 10), (v_mx 11)]))] H := hP
  have hD : va_D A [(h_mx, .inr (2, [(v_mx 0), (v_mx 1), (v_mx 2), (v_mx 3), .int 0, (v_mx 5), (v_mx 6), (v_mx 7), (v_mx 8), (v_mx 9), (v_mx 10), (v_mx 11)]))] := hD
  refine lv_aload_n hx hb dX3_forget_5 rfl (lv_at hl 0 rfl) ?_
  refine lv_bipush (v := (-2)) hx hb dX3_forget_6 (by decide) ?_
  refine va_put (D := (dC, dI)) (ci := 2) (v := .int (-2)) (ty := tyX3 10) (C := RX3) (T := TX3) (N := 12) hx hb hw iwX3 tyX3 tyX3_ok nmX3 hown hK hP hD hS 0 rfl rfl 10 (by decide) (hw _ w_f_X3_27) (fun _ h9 => h9) rfl (tyX3_ok 10 (by decide)) rfl rfl (Nat.le_of_ble_eq_true rfl) dX3_forget_8 (fun H locs hP hD hS => ?_)
  have hP : va_P (dC, dI) cls [(h_mx, .inr (2, [(v_mx 0), (v_mx 1), (v_mx 2), (v_mx 3), .int 0, (v_mx 5), (v_mx 6), (v_mx 7), (v_mx 8), (v_mx 9), .int (-2), (v_mx 11)]))] H := hP
  have hD : va_D A [(h_mx, .inr (2, [(v_mx 0), (v_mx 1), (v_mx 2), (v_mx 3), .int 0, (v_mx 5), (v_mx 6), (v_mx 7), (v_mx 8), (v_mx 9), .int (-2), (v_mx 11)]))] := hD
  refine W.widen (k := 0) (n := 0) (Nat.le_of_ble_eq_true rfl) (Nat.le_of_ble_eq_true rfl) ?_
  have hK9 := hK.sub (tys' := []) [] rfl
  exact W.vret hx hb hr (fun t ht hW => ⟨⟨(), rfl, trivial, by rw [ht]; exact hP, va_K.moved hW.alike hK9, hD⟩, hS.F ht⟩) hS.2.2 dX3_forget_11

set_option maxHeartbeats 4000000 in
set_option maxRecDepth 100000 in
theorem c_X4_forgetCounts (l : Launch) (dC : Nat → ClassId) (dI : Nat → Nat → Nat) (sz : Nat) (h_pv : Nat) (v_pv : Nat → Value) : Met l yX4_forgetCounts (Ws yX4_forgetCounts cX4_forgetCounts 1 none) ({ frames := 0, cells := 0, slots := 0, locals := 0 }) (PRE (dC, dI) cls [] [(h_pv, .inr (3, [(v_pv 0), (v_pv 1), (v_pv 2), (v_pv 3), (v_pv 4), (v_pv 5), (v_pv 6), (v_pv 7), (v_pv 8), (v_pv 9), (v_pv 10), (v_pv 11), (v_pv 12), (v_pv 13), (v_pv 14), (v_pv 15), (v_pv 16), (v_pv 17)]))] sz [.ref h_pv]) (va_Qv (fun (_ : Unit) => True) (fun (u : Unit) (t : State) => va_P (dC, dI) cls [(h_pv, .inr (3, [(v_pv 0), (v_pv 1), (v_pv 2), (v_pv 3), (v_pv 4), (v_pv 5), (v_pv 6), (v_pv 7), (v_pv 8), (v_pv 9), (v_pv 10), (v_pv 11), .int 0, .int 0, .int 0, .int 0, (v_pv 16), .int 0]))] t.heap ∧ va_K (dC, dI) cls [] t ∧ va_D (va_A [(h_pv, .inr (3, [(v_pv 0), (v_pv 1), (v_pv 2), (v_pv 3), (v_pv 4), (v_pv 5), (v_pv 6), (v_pv 7), (v_pv 8), (v_pv 9), (v_pv 10), (v_pv 11), (v_pv 12), (v_pv 13), (v_pv 14), (v_pv 15), (v_pv 16), (v_pv 17)]))] sz) [(h_pv, .inr (3, [(v_pv 0), (v_pv 1), (v_pv 2), (v_pv 3), (v_pv 4), (v_pv 5), (v_pv 6), (v_pv 7), (v_pv 8), (v_pv 9), (v_pv 10), (v_pv 11), .int 0, .int 0, .int 0, .int 0, (v_pv 16), .int 0]))]) (va_A [(h_pv, .inr (3, [(v_pv 0), (v_pv 1), (v_pv 2), (v_pv 3), (v_pv 4), (v_pv 5), (v_pv 6), (v_pv 7), (v_pv 8), (v_pv 9), (v_pv 10), (v_pv 11), (v_pv 12), (v_pv 13), (v_pv 14), (v_pv 15), (v_pv 16), (v_pv 17)]))] sz)) 0 0 (va_A [(h_pv, .inr (3, [(v_pv 0), (v_pv 1), (v_pv 2), (v_pv 3), (v_pv 4), (v_pv 5), (v_pv 6), (v_pv 7), (v_pv 8), (v_pv 9), (v_pv 10), (v_pv 11), (v_pv 12), (v_pv 13), (v_pv 14), (v_pv 15), (v_pv 16), (v_pv 17)]))] sz) := by
  refine Met.ofW (cc := cX4_forgetCounts) (maxL := 1) (ret := none) (by decide) rfl ?_
  intro p e s m args below meth c s₁ B hml hv
  obtain ⟨rfl, hsz, hP, hK, hD0, hN⟩ := hv
  have hx := B.exec
  have hb := B.bytes
  have hr := B.returns
  have hts := atoms_spec (ws := Ws yX4_forgetCounts cX4_forgetCounts 1 none) B.pre
  have hT : ∀ w ∈ WALL, w ∈ Ws yX4_forgetCounts cX4_forgetCounts 1 none := fun w h => List.mem_cons_of_mem _ h
  have hw := fun w (h : w ∈ WALL) => hts w (hT w h)
  have hown : s.vm.findClass RX4 = some m.cls := findClass_of_methodNamed B.named
  have hlocks := B.notSynchronized
  subst hsz
  have hD := hD0.self (sz := s.heap.size)
  generalize hAe : va_A [(h_pv, .inr (3, [(v_pv 0), (v_pv 1), (v_pv 2), (v_pv 3), (v_pv 4), (v_pv 5), (v_pv 6), (v_pv 7), (v_pv 8), (v_pv 9), (v_pv 10), (v_pv 11), (v_pv 12), (v_pv 13), (v_pv 14), (v_pv 15), (v_pv 16), (v_pv 17)]))] s.heap.size = A at hD ⊢
  have hA : ∀ q : Nat, s.heap.size ≤ q → A q := fun q h => by rw [← hAe]; exact Or.inr h
  have hS : va_S A s.heap s.heap [] := va_S.rf
  have hl := lv_entry ([.ref h_pv]) (n := 1) (Nat.le_of_ble_eq_true rfl)
  rw [lg_entry_eq]
  generalize (lg_sl ([.ref h_pv]) ++ List.replicate (1 - (lg_sl ([.ref h_pv])).length) Slot.unset).toArray = ls at hl ⊢
  have hl : lv_has ls 1 [(0, .ref h_pv)] := hl
  refine lv_aload_n hx hb dX4_forgetCounts_0 rfl (lv_at hl 0 rfl) ?_
  refine lv_iconst (v := 0) hx hb dX4_forgetCounts_1 (by decide) ?_
  refine va_put (D := (dC, dI)) (ci := 3) (v := .int 0) (ty := tyX4 17) (C := RX4) (T := TX4) (N := 18) hx hb hw iwX4 tyX4 tyX4_ok nmX4 hown hK hP hD hS 0 rfl rfl 17 (by decide) (hw _ w_f_X4_41) (fun _ h9 => h9) rfl (tyX4_ok 17 (by decide)) rfl rfl (Nat.le_of_ble_eq_true rfl) dX4_forgetCounts_2 (fun H locs hP hD hS => ?_)
  have hP : va_P (dC, dI) cls [(h_pv, .inr (3, [(v_pv 0), (v_pv 1), (v_pv 2), (v_pv 3), (v_pv 4), (v_pv 5), (v_pv 6), (v_pv 7), (v_pv 8), (v_pv 9), (v_pv 10), (v_pv 11), (v_pv 12), (v_pv 13), (v_pv 14), (v_pv 15), (v_pv 16), .int 0]))] H := hP
  have hD : va_D A [(h_pv, .inr (3, [(v_pv 0), (v_pv 1), (v_pv 2), (v_pv 3), (v_pv 4), (v_pv 5), (v_pv 6), (v_pv 7), (v_pv 8), (v_pv 9), (v_pv 10), (v_pv 11), (v_pv 12), (v_pv 13), (v_pv 14), (v_pv 15), (v_pv 16), .int 0]))] := hD
  refine lv_aload_n hx hb dX4_forgetCounts_5 rfl (lv_at hl 0 rfl) ?_
  refine lv_iconst (v := 0) hx hb dX4_forgetCounts_6 (by decide) ?_
  refine va_put (D := (dC, dI)) (ci := 3) (v := .int 0) (ty := tyX4 12) (C := RX4) (T := TX4) (N := 18) hx hb hw iwX4 tyX4 tyX4_ok nmX4 hown hK hP hD hS 0 rfl rfl 12 (by decide) (hw _ w_f_X4_45) (fun _ h9 => h9) rfl (tyX4_ok 12 (by decide)) rfl rfl (Nat.le_of_ble_eq_true rfl) dX4_forgetCounts_7 (fun H locs hP hD hS => ?_)
  have hP : va_P (dC, dI) cls [(h_pv, .inr (3, [(v_pv 0), (v_pv 1), (v_pv 2), (v_pv 3), (v_pv 4), (v_pv 5), (v_pv 6), (v_pv 7), (v_pv 8), (v_pv 9), (v_pv 10), (v_pv 11), .int 0, (v_pv 13), (v_pv 14), (v_pv 15), (v_pv 16), .int 0]))] H := hP
  have hD : va_D A [(h_pv, .inr (3, [(v_pv 0), (v_pv 1), (v_pv 2), (v_pv 3), (v_pv 4), (v_pv 5), (v_pv 6), (v_pv 7), (v_pv 8), (v_pv 9), (v_pv 10), (v_pv 11), .int 0, (v_pv 13), (v_pv 14), (v_pv 15), (v_pv 16), .int 0]))] := hD
  refine lv_aload_n hx hb dX4_forgetCounts_10 rfl (lv_at hl 0 rfl) ?_
  refine lv_iconst (v := 0) hx hb dX4_forgetCounts_11 (by decide) ?_
  refine va_put (D := (dC, dI)) (ci := 3) (v := .int 0) (ty := tyX4 13) (C := RX4) (T := TX4) (N := 18) hx hb hw iwX4 tyX4 tyX4_ok nmX4 hown hK hP hD hS 0 rfl rfl 13 (by decide) (hw _ w_f_X4_49) (fun _ h9 => h9) rfl (tyX4_ok 13 (by decide)) rfl rfl (Nat.le_of_ble_eq_true rfl) dX4_forgetCounts_12 (fun H locs hP hD hS => ?_)
  have hP : va_P (dC, dI) cls [(h_pv, .inr (3, [(v_pv 0), (v_pv 1), (v_pv 2), (v_pv 3), (v_pv 4), (v_pv 5), (v_pv 6), (v_pv 7), (v_pv 8), (v_pv 9), (v_pv 10), (v_pv 11), .int 0, .int 0, (v_pv 14), (v_pv 15), (v_pv 16), .int 0]))] H := hP
  have hD : va_D A [(h_pv, .inr (3, [(v_pv 0), (v_pv 1), (v_pv 2), (v_pv 3), (v_pv 4), (v_pv 5), (v_pv 6), (v_pv 7), (v_pv 8), (v_pv 9), (v_pv 10), (v_pv 11), .int 0, .int 0, (v_pv 14), (v_pv 15), (v_pv 16), .int 0]))] := hD
  refine lv_aload_n hx hb dX4_forgetCounts_15 rfl (lv_at hl 0 rfl) ?_
  refine lv_iconst (v := 0) hx hb dX4_forgetCounts_16 (by decide) ?_
  refine va_put (D := (dC, dI)) (ci := 3) (v := .int 0) (ty := tyX4 14) (C := RX4) (T := TX4) (N := 18) hx hb hw iwX4 tyX4 tyX4_ok nmX4 hown hK hP hD hS 0 rfl rfl 14 (by decide) (hw _ w_f_X4_52) (fun _ h9 => h9) rfl (tyX4_ok 14 (by decide)) rfl rfl (Nat.le_of_ble_eq_true rfl) dX4_forgetCounts_17 (fun H locs hP hD hS => ?_)
  have hP : va_P (dC, dI) cls [(h_pv, .inr (3, [(v_pv 0), (v_pv 1), (v_pv 2), (v_pv 3), (v_pv 4), (v_pv 5), (v_pv 6), (v_pv 7), (v_pv 8), (v_pv 9), (v_pv 10), (v_pv 11), .int 0, .int 0, .int 0, (v_pv 15), (v_pv 16), .int 0]))] H := hP
  have hD : va_D A [(h_pv, .inr (3, [(v_pv 0), (v_pv 1), (v_pv 2), (v_pv 3), (v_pv 4), (v_pv 5), (v_pv 6), (v_pv 7), (v_pv 8), (v_pv 9), (v_pv 10), (v_pv 11), .int 0, .int 0, .int 0, (v_pv 15), (v_pv 16), .int 0]))] := hD
  refine lv_aload_n hx hb dX4_forgetCounts_20 rfl (lv_at hl 0 rfl) ?_
  refine lv_iconst (v := 0) hx hb dX4_forgetCounts_21 (by decide) ?_
  refine va_put (D := (dC, dI)) (ci := 3) (v := .int 0) (ty := tyX4 15) (C := RX4) (T := TX4) (N := 18) hx hb hw iwX4 tyX4 tyX4_ok nmX4 hown hK hP hD hS 0 rfl rfl 15 (by decide) (hw _ w_f_X4_55) (fun _ h9 => h9) rfl (tyX4_ok 15 (by decide)) rfl rfl (Nat.le_of_ble_eq_true rfl) dX4_forgetCounts_22 (fun H locs hP hD hS => ?_)
  have hP : va_P (dC, dI) cls [(h_pv, .inr (3, [(v_pv 0), (v_pv 1), (v_pv 2), (v_pv 3), (v_pv 4), (v_pv 5), (v_pv 6), (v_pv 7), (v_pv 8), (v_pv 9), (v_pv 10), (v_pv 11), .int 0, .int 0, .int 0, .int 0, (v_pv 16), .int 0]))] H := hP
  have hD : va_D A [(h_pv, .inr (3, [(v_pv 0), (v_pv 1), (v_pv 2), (v_pv 3), (v_pv 4), (v_pv 5), (v_pv 6), (v_pv 7), (v_pv 8), (v_pv 9), (v_pv 10), (v_pv 11), .int 0, .int 0, .int 0, .int 0, (v_pv 16), .int 0]))] := hD
  refine W.widen (k := 0) (n := 0) (Nat.le_of_ble_eq_true rfl) (Nat.le_of_ble_eq_true rfl) ?_
  have hK9 := hK.sub (tys' := []) [] rfl
  exact W.vret hx hb hr (fun t ht hW => ⟨⟨(), rfl, trivial, by rw [ht]; exact hP, va_K.moved hW.alike hK9, hD⟩, hS.F ht⟩) hS.2.2 dX4_forgetCounts_25

set_option maxHeartbeats 4000000 in
set_option maxRecDepth 100000 in
theorem c_X10_forgetAll (l : Launch) (dC : Nat → ClassId) (dI : Nat → Nat → Nat) (sz : Nat) (h_xx : Nat) (h_pv : Nat) (h_mx : Nat) (h_an : Nat) (v_xx : Nat → Value) (v_pv : Nat → Value) (v_mx : Nat → Value) (v_an : Nat → Value) : Met l yX10_forgetAll (Ws yX10_forgetAll cX10_forgetAll 1 none) ({ frames := 1, cells := 0, slots := 0, locals := 20 }) (PRE (dC, dI) cls [] [(h_xx, .inr (7, [(v_xx 0), (v_xx 1), (v_xx 2), (v_xx 3), (v_xx 4), .ref h_pv, .ref h_mx, .ref h_an])), (h_pv, .inr (3, [(v_pv 0), (v_pv 1), (v_pv 2), (v_pv 3), (v_pv 4), (v_pv 5), (v_pv 6), (v_pv 7), (v_pv 8), (v_pv 9), (v_pv 10), (v_pv 11), (v_pv 12), (v_pv 13), (v_pv 14), (v_pv 15), (v_pv 16), (v_pv 17)])), (h_mx, .inr (2, [(v_mx 0), (v_mx 1), (v_mx 2), (v_mx 3), (v_mx 4), (v_mx 5), (v_mx 6), (v_mx 7), (v_mx 8), (v_mx 9), (v_mx 10), (v_mx 11)])), (h_an, .inr (0, [(v_an 0), (v_an 1), (v_an 2), (v_an 3), (v_an 4), (v_an 5)]))] sz [.ref h_xx]) (va_Qv (fun (_ : Unit) => True) (fun (u : Unit) (t : State) => va_P (dC, dI) cls [(h_xx, .inr (7, [(v_xx 0), (v_xx 1), (v_xx 2), (v_xx 3), (v_xx 4), .ref h_pv, .ref h_mx, .ref h_an])), (h_pv, .inr (3, [(v_pv 0), (v_pv 1), (v_pv 2), (v_pv 3), (v_pv 4), (v_pv 5), (v_pv 6), (v_pv 7), (v_pv 8), (v_pv 9), (v_pv 10), (v_pv 11), (v_pv 12), (v_pv 13), (v_pv 14), (v_pv 15), (v_pv 16), .int 0])), (h_an, .inr (0, [(v_an 0), (v_an 1), (v_an 2), (v_an 3), .int 0, (v_an 5)])), (h_mx, .inr (2, [(v_mx 0), (v_mx 1), (v_mx 2), (v_mx 3), .int 0, (v_mx 5), (v_mx 6), (v_mx 7), (v_mx 8), (v_mx 9), .int (-2), (v_mx 11)]))] t.heap ∧ va_K (dC, dI) cls [] t ∧ va_D (va_A [(h_xx, .inr (7, [(v_xx 0), (v_xx 1), (v_xx 2), (v_xx 3), (v_xx 4), .ref h_pv, .ref h_mx, .ref h_an])), (h_pv, .inr (3, [(v_pv 0), (v_pv 1), (v_pv 2), (v_pv 3), (v_pv 4), (v_pv 5), (v_pv 6), (v_pv 7), (v_pv 8), (v_pv 9), (v_pv 10), (v_pv 11), (v_pv 12), (v_pv 13), (v_pv 14), (v_pv 15), (v_pv 16), (v_pv 17)])), (h_mx, .inr (2, [(v_mx 0), (v_mx 1), (v_mx 2), (v_mx 3), (v_mx 4), (v_mx 5), (v_mx 6), (v_mx 7), (v_mx 8), (v_mx 9), (v_mx 10), (v_mx 11)])), (h_an, .inr (0, [(v_an 0), (v_an 1), (v_an 2), (v_an 3), (v_an 4), (v_an 5)]))] sz) [(h_xx, .inr (7, [(v_xx 0), (v_xx 1), (v_xx 2), (v_xx 3), (v_xx 4), .ref h_pv, .ref h_mx, .ref h_an])), (h_pv, .inr (3, [(v_pv 0), (v_pv 1), (v_pv 2), (v_pv 3), (v_pv 4), (v_pv 5), (v_pv 6), (v_pv 7), (v_pv 8), (v_pv 9), (v_pv 10), (v_pv 11), (v_pv 12), (v_pv 13), (v_pv 14), (v_pv 15), (v_pv 16), .int 0])), (h_an, .inr (0, [(v_an 0), (v_an 1), (v_an 2), (v_an 3), .int 0, (v_an 5)])), (h_mx, .inr (2, [(v_mx 0), (v_mx 1), (v_mx 2), (v_mx 3), .int 0, (v_mx 5), (v_mx 6), (v_mx 7), (v_mx 8), (v_mx 9), .int (-2), (v_mx 11)]))]) (va_A [(h_xx, .inr (7, [(v_xx 0), (v_xx 1), (v_xx 2), (v_xx 3), (v_xx 4), .ref h_pv, .ref h_mx, .ref h_an])), (h_pv, .inr (3, [(v_pv 0), (v_pv 1), (v_pv 2), (v_pv 3), (v_pv 4), (v_pv 5), (v_pv 6), (v_pv 7), (v_pv 8), (v_pv 9), (v_pv 10), (v_pv 11), (v_pv 12), (v_pv 13), (v_pv 14), (v_pv 15), (v_pv 16), (v_pv 17)])), (h_mx, .inr (2, [(v_mx 0), (v_mx 1), (v_mx 2), (v_mx 3), (v_mx 4), (v_mx 5), (v_mx 6), (v_mx 7), (v_mx 8), (v_mx 9), (v_mx 10), (v_mx 11)])), (h_an, .inr (0, [(v_an 0), (v_an 1), (v_an 2), (v_an 3), (v_an 4), (v_an 5)]))] sz)) 0 0 (va_A [(h_xx, .inr (7, [(v_xx 0), (v_xx 1), (v_xx 2), (v_xx 3), (v_xx 4), .ref h_pv, .ref h_mx, .ref h_an])), (h_pv, .inr (3, [(v_pv 0), (v_pv 1), (v_pv 2), (v_pv 3), (v_pv 4), (v_pv 5), (v_pv 6), (v_pv 7), (v_pv 8), (v_pv 9), (v_pv 10), (v_pv 11), (v_pv 12), (v_pv 13), (v_pv 14), (v_pv 15), (v_pv 16), (v_pv 17)])), (h_mx, .inr (2, [(v_mx 0), (v_mx 1), (v_mx 2), (v_mx 3), (v_mx 4), (v_mx 5), (v_mx 6), (v_mx 7), (v_mx 8), (v_mx 9), (v_mx 10), (v_mx 11)])), (h_an, .inr (0, [(v_an 0), (v_an 1), (v_an 2), (v_an 3), (v_an 4), (v_an 5)]))] sz) := by
  refine Met.ofW (cc := cX10_forgetAll) (maxL := 1) (ret := none) (by decide) rfl ?_
  intro p e s m args below meth c s₁ B hml hv
  obtain ⟨rfl, hsz, hP, hK, hD0, hN⟩ := hv
  have hx := B.exec
  have hb := B.bytes
  have hr := B.returns
  have hts := atoms_spec (ws := Ws yX10_forgetAll cX10_forgetAll 1 none) B.pre
  have hT : ∀ w ∈ WALL, w ∈ Ws yX10_forgetAll cX10_forgetAll 1 none := fun w h => List.mem_cons_of_mem _ h
  have hw := fun w (h : w ∈ WALL) => hts w (hT w h)
  have hown : s.vm.findClass RX10 = some m.cls := findClass_of_methodNamed B.named
  have hlocks := B.notSynchronized
  subst hsz
  have hD := hD0.self (sz := s.heap.size)
  generalize hAe : va_A [(h_xx, .inr (7, [(v_xx 0), (v_xx 1), (v_xx 2), (v_xx 3), (v_xx 4), .ref h_pv, .ref h_mx, .ref h_an])), (h_pv, .inr (3, [(v_pv 0), (v_pv 1), (v_pv 2), (v_pv 3), (v_pv 4), (v_pv 5), (v_pv 6), (v_pv 7), (v_pv 8), (v_pv 9), (v_pv 10), (v_pv 11), (v_pv 12), (v_pv 13), (v_pv 14), (v_pv 15), (v_pv 16), (v_pv 17)])), (h_mx, .inr (2, [(v_mx 0), (v_mx 1), (v_mx 2), (v_mx 3), (v_mx 4), (v_mx 5), (v_mx 6), (v_mx 7), (v_mx 8), (v_mx 9), (v_mx 10), (v_mx 11)])), (h_an, .inr (0, [(v_an 0), (v_an 1), (v_an 2), (v_an 3), (v_an 4), (v_an 5)]))] s.heap.size = A at hD ⊢
  have hA : ∀ q : Nat, s.heap.size ≤ q → A q := fun q h => by rw [← hAe]; exact Or.inr h
  have hS : va_S A s.heap s.heap [] := va_S.rf
  have hl := lv_entry ([.ref h_xx]) (n := 1) (Nat.le_of_ble_eq_true rfl)
  rw [lg_entry_eq]
  generalize (lg_sl ([.ref h_xx]) ++ List.replicate (1 - (lg_sl ([.ref h_xx])).length) Slot.unset).toArray = ls at hl ⊢
  have hl : lv_has ls 1 [(0, .ref h_xx)] := hl
  refine lv_aload_n hx hb dX10_forgetAll_0 rfl (lv_at hl 0 rfl) ?_
  refine va_get (D := (dC, dI)) (ci := 7) (v := .ref h_pv) (C := RX10) (T := TX10) (N := 8) hx hb hw iwX10 hown hK hP 0 rfl rfl 5 (by decide) (hw _ w_f_X10_47) (fun _ h9 => h9) rfl dX10_forgetAll_1 ?_
  refine lv_iconst (v := 0) hx hb dX10_forgetAll_4 (by decide) ?_
  refine va_putN (D := (dC, dI)) (ci := 3) (v := .int 0) (ty := tyX4 17) (C := RX4) (T := TX4) (N := 18) (host := "OppositePairs") hx hb hw iwX4 tyX4 tyX4_ok nmX4 hown hK hP hD hS 1 rfl rfl 17 (by decide) (hN.use n_f_X10_175 rfl) (fun _ h9 => h9) rfl (tyX4_ok 17 (by decide)) rfl rfl (Nat.le_of_ble_eq_true rfl) dX10_forgetAll_5 (fun H locs hP hD hS => ?_)
  have hP : va_P (dC, dI) cls [(h_xx, .inr (7, [(v_xx 0), (v_xx 1), (v_xx 2), (v_xx 3), (v_xx 4), .ref h_pv, .ref h_mx, .ref h_an])), (h_pv, .inr (3, [(v_pv 0), (v_pv 1), (v_pv 2), (v_pv 3), (v_pv 4), (v_pv 5), (v_pv 6), (v_pv 7), (v_pv 8), (v_pv 9), (v_pv 10), (v_pv 11), (v_pv 12), (v_pv 13), (v_pv 14), (v_pv 15), (v_pv 16), .int 0])), (h_mx, .inr (2, [(v_mx 0), (v_mx 1), (v_mx 2), (v_mx 3), (v_mx 4), (v_mx 5), (v_mx 6), (v_mx 7), (v_mx 8), (v_mx 9), (v_mx 10), (v_mx 11)])), (h_an, .inr (0, [(v_an 0), (v_an 1), (v_an 2), (v_an 3), (v_an 4), (v_an 5)]))] H := hP
  have hD : va_D A [(h_xx, .inr (7, [(v_xx 0), (v_xx 1), (v_xx 2), (v_xx 3), (v_xx 4), .ref h_pv, .ref h_mx, .ref h_an])), (h_pv, .inr (3, [(v_pv 0), (v_pv 1), (v_pv 2), (v_pv 3), (v_pv 4), (v_pv 5), (v_pv 6), (v_pv 7), (v_pv 8), (v_pv 9), (v_pv 10), (v_pv 11), (v_pv 12), (v_pv 13), (v_pv 14), (v_pv 15), (v_pv 16), .int 0])), (h_mx, .inr (2, [(v_mx 0), (v_mx 1), (v_mx 2), (v_mx 3), (v_mx 4), (v_mx 5), (v_mx 6), (v_mx 7), (v_mx 8), (v_mx 9), (v_mx 10), (v_mx 11)])), (h_an, .inr (0, [(v_an 0), (v_an 1), (v_an 2), (v_an 3), (v_an 4), (v_an 5)]))] := hD
  refine lv_aload_n hx hb dX10_forgetAll_8 rfl (lv_at hl 0 rfl) ?_
  refine va_get (D := (dC, dI)) (ci := 7) (v := .ref h_mx) (C := RX10) (T := TX10) (N := 8) hx hb hw iwX10 hown hK hP 0 rfl rfl 6 (by decide) (hw _ w_f_X10_56) (fun _ h9 => h9) rfl dX10_forgetAll_9 ?_
  have hPc := hP.sub (ws' := [(h_mx, .inr (2, [(v_mx 0), (v_mx 1), (v_mx 2), (v_mx 3), (v_mx 4), (v_mx 5), (v_mx 6), (v_mx 7), (v_mx 8), (v_mx 9), (v_mx 10), (v_mx 11)]))]) [2] rfl
  have hDc := hD.sub (ws' := [(h_mx, .inr (2, [(v_mx 0), (v_mx 1), (v_mx 2), (v_mx 3), (v_mx 4), (v_mx 5), (v_mx 6), (v_mx 7), (v_mx 8), (v_mx 9), (v_mx 10), (v_mx 11)]))]) [2] (by decide) rfl
  have hKc := hK.sub (tys' := []) [] rfl
  have hFc := va_free (wc := [(h_mx, .inr (2, [(v_mx 0), (v_mx 1), (v_mx 2), (v_mx 3), (v_mx 4), (v_mx 5), (v_mx 6), (v_mx 7), (v_mx 8), (v_mx 9), (v_mx 10), (v_mx 11)]))]) hD hS hA [2] rfl
  refine va_callv (va_runVN (As := []) (rest := []) ⟨hx, hb, hml, hown, hts⟩ (c_X3_forget l dC dI H.size h_mx v_mx) ⟨va_cnB (host := "OppositePairs") 0 hts (gd hT w_code_X3_forget) rfl rfl rfl (hN _ n_m_X10_259) (hw _ w_ini_X3) (by decide +kernel) ⟨(Nat.le_of_ble_eq_true rfl), (Nat.le_of_ble_eq_true rfl)⟩, hw _ w_instanceMethod_X3_forget, hw _ ws_sel_X3_forget⟩ ⟨pre_blind, va_recv hK hP (ci := 2) (q0 := 2) rfl rfl, pre_of hPc hKc hDc hN⟩ rfl rfl hl.1 rfl (lv_room (Nat.le_of_ble_eq_true rfl)) dX10_forgetAll_12 ⟨(Nat.le_of_ble_eq_true rfl), (Nat.le_of_ble_eq_true rfl)⟩) hS (fun q _ h => hFc q h) hFc (fun u t H locs ht hvm hq hB hz1 hk1 hS => ?_)
  obtain ⟨hP1, hK1, hD1⟩ := hB
  rw [ht] at hP1
  have hK1 := va_K.moved hvm.symm hK1
  obtain ⟨hP, hD⟩ := va_join (wr := [(h_xx, .inr (7, [(v_xx 0), (v_xx 1), (v_xx 2), (v_xx 3), (v_xx 4), .ref h_pv, .ref h_mx, .ref h_an])), (h_pv, .inr (3, [(v_pv 0), (v_pv 1), (v_pv 2), (v_pv 3), (v_pv 4), (v_pv 5), (v_pv 6), (v_pv 7), (v_pv 8), (v_pv 9), (v_pv 10), (v_pv 11), (v_pv 12), (v_pv 13), (v_pv 14), (v_pv 15), (v_pv 16), .int 0])), (h_an, .inr (0, [(v_an 0), (v_an 1), (v_an 2), (v_an 3), (v_an 4), (v_an 5)]))]) (w1 := [(h_mx, .inr (2, [(v_mx 0), (v_mx 1), (v_mx 2), (v_mx 3), .int 0, (v_mx 5), (v_mx 6), (v_mx 7), (v_mx 8), (v_mx 9), .int (-2), (v_mx 11)]))]) hP hD [2] [0, 1, 3] rfl rfl (by decide) (by decide) hk1 hFc hP1 hD1
  have hP : va_P (dC, dI) cls [(h_xx, .inr (7, [(v_xx 0), (v_xx 1), (v_xx 2), (v_xx 3), (v_xx 4), .ref h_pv, .ref h_mx, .ref h_an])), (h_pv, .inr (3, [(v_pv 0), (v_pv 1), (v_pv 2), (v_pv 3), (v_pv 4), (v_pv 5), (v_pv 6), (v_pv 7), (v_pv 8), (v_pv 9), (v_pv 10), (v_pv 11), (v_pv 12), (v_pv 13), (v_pv 14), (v_pv 15), (v_pv 16), .int 0])), (h_an, .inr (0, [(v_an 0), (v_an 1), (v_an 2), (v_an 3), (v_an 4), (v_an 5)])), (h_mx, .inr (2, [(v_mx 0), (v_mx 1), (v_mx 2), (v_mx 3), .int 0, (v_mx 5), (v_mx 6), (v_mx 7), (v_mx 8), (v_mx 9), .int (-2), (v_mx 11)]))] H := hP
  have hD : va_D A [(h_xx, .inr (7, [(v_xx 0), (v_xx 1), (v_xx 2), (v_xx 3), (v_xx 4), .ref h_pv, .ref h_mx, .ref h_an])), (h_pv, .inr (3, [(v_pv 0), (v_pv 1), (v_pv 2), (v_pv 3), (v_pv 4), (v_pv 5), (v_pv 6), (v_pv 7), (v_pv 8), (v_pv 9), (v_pv 10), (v_pv 11), (v_pv 12), (v_pv 13), (v_pv 14), (v_pv 15), (v_pv 16), .int 0])), (h_an, .inr (0, [(v_an 0), (v_an 1), (v_an 2), (v_an 3), (v_an 4), (v_an 5)])), (h_mx, .inr (2, [(v_mx 0), (v_mx 1), (v_mx 2), (v_mx 3), .int 0, (v_mx 5), (v_mx 6), (v_mx 7), (v_mx 8), (v_mx 9), .int (-2), (v_mx 11)]))] := hD
  refine lv_aload_n hx hb dX10_forgetAll_15 rfl (lv_at hl 0 rfl) ?_
  refine va_get (D := (dC, dI)) (ci := 7) (v := .ref h_an) (C := RX10) (T := TX10) (N := 8) hx hb hw iwX10 hown hK hP 0 rfl rfl 7 (by decide) (hw _ w_f_X10_63) (fun _ h9 => h9) rfl dX10_forgetAll_16 ?_
  refine lv_iconst (v := 0) hx hb dX10_forgetAll_19 (by decide) ?_
  refine va_putN (D := (dC, dI)) (ci := 0) (v := .int 0) (ty := tyX0 4) (C := RX0) (T := TX0) (N := 6) (host := "OppositePairs") hx hb hw iwX0 tyX0 tyX0_ok nmX0 hown hK hP hD hS 2 rfl rfl 4 (by decide) (hN.use n_f_X10_232 rfl) (fun _ h9 => h9) rfl (tyX0_ok 4 (by decide)) rfl rfl (Nat.le_of_ble_eq_true rfl) dX10_forgetAll_20 (fun H locs hP hD hS => ?_)
  have hP : va_P (dC, dI) cls [(h_xx, .inr (7, [(v_xx 0), (v_xx 1), (v_xx 2), (v_xx 3), (v_xx 4), .ref h_pv, .ref h_mx, .ref h_an])), (h_pv, .inr (3, [(v_pv 0), (v_pv 1), (v_pv 2), (v_pv 3), (v_pv 4), (v_pv 5), (v_pv 6), (v_pv 7), (v_pv 8), (v_pv 9), (v_pv 10), (v_pv 11), (v_pv 12), (v_pv 13), (v_pv 14), (v_pv 15), (v_pv 16), .int 0])), (h_an, .inr (0, [(v_an 0), (v_an 1), (v_an 2), (v_an 3), .int 0, (v_an 5)])), (h_mx, .inr (2, [(v_mx 0), (v_mx 1), (v_mx 2), (v_mx 3), .int 0, (v_mx 5), (v_mx 6), (v_mx 7), (v_mx 8), (v_mx 9), .int (-2), (v_mx 11)]))] H := hP
  have hD : va_D A [(h_xx, .inr (7, [(v_xx 0), (v_xx 1), (v_xx 2), (v_xx 3), (v_xx 4), .ref h_pv, .ref h_mx, .ref h_an])), (h_pv, .inr (3, [(v_pv 0), (v_pv 1), (v_pv 2), (v_pv 3), (v_pv 4), (v_pv 5), (v_pv 6), (v_pv 7), (v_pv 8), (v_pv 9), (v_pv 10), (v_pv 11), (v_pv 12), (v_pv 13), (v_pv 14), (v_pv 15), (v_pv 16), .int 0])), (h_an, .inr (0, [(v_an 0), (v_an 1), (v_an 2), (v_an 3), .int 0, (v_an 5)])), (h_mx, .inr (2, [(v_mx 0), (v_mx 1), (v_mx 2), (v_mx 3), .int 0, (v_mx 5), (v_mx 6), (v_mx 7), (v_mx 8), (v_mx 9), .int (-2), (v_mx 11)]))] := hD
  refine W.widen (k := 0) (n := 0) (Nat.le_of_ble_eq_true rfl) (Nat.le_of_ble_eq_true rfl) ?_
  have hK9 := hK.sub (tys' := []) [] rfl
  exact W.vret hx hb hr (fun t ht hW => ⟨⟨(), rfl, trivial, by rw [ht]; exact hP, va_K.moved hW.alike hK9, hD⟩, hS.F ht⟩) hS.2.2 dX10_forgetAll_23

set_option maxHeartbeats 4000000 in
set_option maxRecDepth 100000 in
theorem c_X10_begin (l : Launch) (dC : Nat → ClassId) (dI : Nat → Nat → Nat) (sz : Nat) (h_xx : Nat) (h_pv : Nat) (h_mx : Nat) (v_xx : Nat → Value) (v_pv : Nat → Value) (v_mx : Nat → Value) : Met l yX10_begin (Ws yX10_begin cX10_begin 1 none) ({ frames := 1, cells := 0, slots := 0, locals := 20 }) (PRE (dC, dI) cls [] [(h_xx, .inr (7, [(v_xx 0), (v_xx 1), (v_xx 2), (v_xx 3), (v_xx 4), .ref h_pv, .ref h_mx, (v_xx 7)])), (h_pv, .inr (3, [(v_pv 0), (v_pv 1), (v_pv 2), (v_pv 3), (v_pv 4), (v_pv 5), (v_pv 6), (v_pv 7), (v_pv 8), (v_pv 9), (v_pv 10), (v_pv 11), (v_pv 12), (v_pv 13), (v_pv 14), (v_pv 15), (v_pv 16), (v_pv 17)])), (h_mx, .inr (2, [(v_mx 0), (v_mx 1), (v_mx 2), (v_mx 3), (v_mx 4), (v_mx 5), (v_mx 6), (v_mx 7), (v_mx 8), (v_mx 9), (v_mx 10), (v_mx 11)]))] sz [.ref h_xx]) (va_Qv (fun (_ : Unit) => True) (fun (u : Unit) (t : State) => va_P (dC, dI) cls [(h_xx, .inr (7, [(v_xx 0), (v_xx 1), (v_xx 2), (v_xx 3), (v_xx 4), .ref h_pv, .ref h_mx, (v_xx 7)])), (h_mx, .inr (2, [(v_mx 0), (v_mx 1), (v_mx 2), (v_mx 3), .int 0, (v_mx 5), (v_mx 6), (v_mx 7), (v_mx 8), (v_mx 9), .int (-2), (v_mx 11)])), (h_pv, .inr (3, [(v_pv 0), (v_pv 1), (v_pv 2), (v_pv 3), (v_pv 4), (v_pv 5), (v_pv 6), (v_pv 7), (v_pv 8), (v_pv 9), (v_pv 10), (v_pv 11), .int 0, .int 0, .int 0, .int 0, (v_pv 16), .int 0]))] t.heap ∧ va_K (dC, dI) cls [] t ∧ va_D (va_A [(h_xx, .inr (7, [(v_xx 0), (v_xx 1), (v_xx 2), (v_xx 3), (v_xx 4), .ref h_pv, .ref h_mx, (v_xx 7)])), (h_pv, .inr (3, [(v_pv 0), (v_pv 1), (v_pv 2), (v_pv 3), (v_pv 4), (v_pv 5), (v_pv 6), (v_pv 7), (v_pv 8), (v_pv 9), (v_pv 10), (v_pv 11), (v_pv 12), (v_pv 13), (v_pv 14), (v_pv 15), (v_pv 16), (v_pv 17)])), (h_mx, .inr (2, [(v_mx 0), (v_mx 1), (v_mx 2), (v_mx 3), (v_mx 4), (v_mx 5), (v_mx 6), (v_mx 7), (v_mx 8), (v_mx 9), (v_mx 10), (v_mx 11)]))] sz) [(h_xx, .inr (7, [(v_xx 0), (v_xx 1), (v_xx 2), (v_xx 3), (v_xx 4), .ref h_pv, .ref h_mx, (v_xx 7)])), (h_mx, .inr (2, [(v_mx 0), (v_mx 1), (v_mx 2), (v_mx 3), .int 0, (v_mx 5), (v_mx 6), (v_mx 7), (v_mx 8), (v_mx 9), .int (-2), (v_mx 11)])), (h_pv, .inr (3, [(v_pv 0), (v_pv 1), (v_pv 2), (v_pv 3), (v_pv 4), (v_pv 5), (v_pv 6), (v_pv 7), (v_pv 8), (v_pv 9), (v_pv 10), (v_pv 11), .int 0, .int 0, .int 0, .int 0, (v_pv 16), .int 0]))]) (va_A [(h_xx, .inr (7, [(v_xx 0), (v_xx 1), (v_xx 2), (v_xx 3), (v_xx 4), .ref h_pv, .ref h_mx, (v_xx 7)])), (h_pv, .inr (3, [(v_pv 0), (v_pv 1), (v_pv 2), (v_pv 3), (v_pv 4), (v_pv 5), (v_pv 6), (v_pv 7), (v_pv 8), (v_pv 9), (v_pv 10), (v_pv 11), (v_pv 12), (v_pv 13), (v_pv 14), (v_pv 15), (v_pv 16), (v_pv 17)])), (h_mx, .inr (2, [(v_mx 0), (v_mx 1), (v_mx 2), (v_mx 3), (v_mx 4), (v_mx 5), (v_mx 6), (v_mx 7), (v_mx 8), (v_mx 9), (v_mx 10), (v_mx 11)]))] sz)) 0 0 (va_A [(h_xx, .inr (7, [(v_xx 0), (v_xx 1), (v_xx 2), (v_xx 3), (v_xx 4), .ref h_pv, .ref h_mx, (v_xx 7)])), (h_pv, .inr (3, [(v_pv 0), (v_pv 1), (v_pv 2), (v_pv 3), (v_pv 4), (v_pv 5), (v_pv 6), (v_pv 7), (v_pv 8), (v_pv 9), (v_pv 10), (v_pv 11), (v_pv 12), (v_pv 13), (v_pv 14), (v_pv 15), (v_pv 16), (v_pv 17)])), (h_mx, .inr (2, [(v_mx 0), (v_mx 1), (v_mx 2), (v_mx 3), (v_mx 4), (v_mx 5), (v_mx 6), (v_mx 7), (v_mx 8), (v_mx 9), (v_mx 10), (v_mx 11)]))] sz) := by
  refine Met.ofW (cc := cX10_begin) (maxL := 1) (ret := none) (by decide) rfl ?_
  intro p e s m args below meth c s₁ B hml hv
  obtain ⟨rfl, hsz, hP, hK, hD0, hN⟩ := hv
  have hx := B.exec
  have hb := B.bytes
  have hr := B.returns
  have hts := atoms_spec (ws := Ws yX10_begin cX10_begin 1 none) B.pre
  have hT : ∀ w ∈ WALL, w ∈ Ws yX10_begin cX10_begin 1 none := fun w h => List.mem_cons_of_mem _ h
  have hw := fun w (h : w ∈ WALL) => hts w (hT w h)
  have hown : s.vm.findClass RX10 = some m.cls := findClass_of_methodNamed B.named
  have hlocks := B.notSynchronized
  subst hsz
  have hD := hD0.self (sz := s.heap.size)
  generalize hAe : va_A [(h_xx, .inr (7, [(v_xx 0), (v_xx 1), (v_xx 2), (v_xx 3), (v_xx 4), .ref h_pv, .ref h_mx, (v_xx 7)])), (h_pv, .inr (3, [(v_pv 0), (v_pv 1), (v_pv 2), (v_pv 3), (v_pv 4), (v_pv 5), (v_pv 6), (v_pv 7), (v_pv 8), (v_pv 9), (v_pv 10), (v_pv 11), (v_pv 12), (v_pv 13), (v_pv 14), (v_pv 15), (v_pv 16), (v_pv 17)])), (h_mx, .inr (2, [(v_mx 0), (v_mx 1), (v_mx 2), (v_mx 3), (v_mx 4), (v_mx 5), (v_mx 6), (v_mx 7), (v_mx 8), (v_mx 9), (v_mx 10), (v_mx 11)]))] s.heap.size = A at hD ⊢
  have hA : ∀ q : Nat, s.heap.size ≤ q → A q := fun q h => by rw [← hAe]; exact Or.inr h
  have hS : va_S A s.heap s.heap [] := va_S.rf
  have hl := lv_entry ([.ref h_xx]) (n := 1) (Nat.le_of_ble_eq_true rfl)
  rw [lg_entry_eq]
  generalize (lg_sl ([.ref h_xx]) ++ List.replicate (1 - (lg_sl ([.ref h_xx])).length) Slot.unset).toArray = ls at hl ⊢
  have hl : lv_has ls 1 [(0, .ref h_xx)] := hl
  refine lv_aload_n hx hb dX10_begin_0 rfl (lv_at hl 0 rfl) ?_
  refine va_get (D := (dC, dI)) (ci := 7) (v := .ref h_mx) (C := RX10) (T := TX10) (N := 8) hx hb hw iwX10 hown hK hP 0 rfl rfl 6 (by decide) (hw _ w_f_X10_56) (fun _ h9 => h9) rfl dX10_begin_1 ?_
  have hPc := hP.sub (ws' := [(h_mx, .inr (2, [(v_mx 0), (v_mx 1), (v_mx 2), (v_mx 3), (v_mx 4), (v_mx 5), (v_mx 6), (v_mx 7), (v_mx 8), (v_mx 9), (v_mx 10), (v_mx 11)]))]) [2] rfl
  have hDc := hD.sub (ws' := [(h_mx, .inr (2, [(v_mx 0), (v_mx 1), (v_mx 2), (v_mx 3), (v_mx 4), (v_mx 5), (v_mx 6), (v_mx 7), (v_mx 8), (v_mx 9), (v_mx 10), (v_mx 11)]))]) [2] (by decide) rfl
  have hKc := hK.sub (tys' := []) [] rfl
  have hFc := va_free (wc := [(h_mx, .inr (2, [(v_mx 0), (v_mx 1), (v_mx 2), (v_mx 3), (v_mx 4), (v_mx 5), (v_mx 6), (v_mx 7), (v_mx 8), (v_mx 9), (v_mx 10), (v_mx 11)]))]) hD hS hA [2] rfl
  refine va_callv (va_runVN (As := []) (rest := []) ⟨hx, hb, hml, hown, hts⟩ (c_X3_forget l dC dI s.heap.size h_mx v_mx) ⟨va_cnB (host := "OppositePairs") 0 hts (gd hT w_code_X3_forget) rfl rfl rfl (hN _ n_m_X10_259) (hw _ w_ini_X3) (by decide +kernel) ⟨(Nat.le_of_ble_eq_true rfl), (Nat.le_of_ble_eq_true rfl)⟩, hw _ w_instanceMethod_X3_forget, hw _ ws_sel_X3_forget⟩ ⟨pre_blind, va_recv hK hP (ci := 2) (q0 := 2) rfl rfl, pre_of hPc hKc hDc hN⟩ rfl rfl hl.1 rfl (lv_room (Nat.le_of_ble_eq_true rfl)) dX10_begin_4 ⟨(Nat.le_of_ble_eq_true rfl), (Nat.le_of_ble_eq_true rfl)⟩) hS (fun q _ h => hFc q h) hFc (fun u t H locs ht hvm hq hB hz1 hk1 hS => ?_)
  obtain ⟨hP1, hK1, hD1⟩ := hB
  rw [ht] at hP1
  have hK1 := va_K.moved hvm.symm hK1
  obtain ⟨hP, hD⟩ := va_join (wr := [(h_xx, .inr (7, [(v_xx 0), (v_xx 1), (v_xx 2), (v_xx 3), (v_xx 4), .ref h_pv, .ref h_mx, (v_xx 7)])), (h_pv, .inr (3, [(v_pv 0), (v_pv 1), (v_pv 2), (v_pv 3), (v_pv 4), (v_pv 5), (v_pv 6), (v_pv 7), (v_pv 8), (v_pv 9), (v_pv 10), (v_pv 11), (v_pv 12), (v_pv 13), (v_pv 14), (v_pv 15), (v_pv 16), (v_pv 17)]))]) (w1 := [(h_mx, .inr (2, [(v_mx 0), (v_mx 1), (v_mx 2), (v_mx 3), .int 0, (v_mx 5), (v_mx 6), (v_mx 7), (v_mx 8), (v_mx 9), .int (-2), (v_mx 11)]))]) hP hD [2] [0, 1] rfl rfl (by decide) (by decide) hk1 hFc hP1 hD1
  have hP : va_P (dC, dI) cls [(h_xx, .inr (7, [(v_xx 0), (v_xx 1), (v_xx 2), (v_xx 3), (v_xx 4), .ref h_pv, .ref h_mx, (v_xx 7)])), (h_pv, .inr (3, [(v_pv 0), (v_pv 1), (v_pv 2), (v_pv 3), (v_pv 4), (v_pv 5), (v_pv 6), (v_pv 7), (v_pv 8), (v_pv 9), (v_pv 10), (v_pv 11), (v_pv 12), (v_pv 13), (v_pv 14), (v_pv 15), (v_pv 16), (v_pv 17)])), (h_mx, .inr (2, [(v_mx 0), (v_mx 1), (v_mx 2), (v_mx 3), .int 0, (v_mx 5), (v_mx 6), (v_mx 7), (v_mx 8), (v_mx 9), .int (-2), (v_mx 11)]))] H := hP
  have hD : va_D A [(h_xx, .inr (7, [(v_xx 0), (v_xx 1), (v_xx 2), (v_xx 3), (v_xx 4), .ref h_pv, .ref h_mx, (v_xx 7)])), (h_pv, .inr (3, [(v_pv 0), (v_pv 1), (v_pv 2), (v_pv 3), (v_pv 4), (v_pv 5), (v_pv 6), (v_pv 7), (v_pv 8), (v_pv 9), (v_pv 10), (v_pv 11), (v_pv 12), (v_pv 13), (v_pv 14), (v_pv 15), (v_pv 16), (v_pv 17)])), (h_mx, .inr (2, [(v_mx 0), (v_mx 1), (v_mx 2), (v_mx 3), .int 0, (v_mx 5), (v_mx 6), (v_mx 7), (v_mx 8), (v_mx 9), .int (-2), (v_mx 11)]))] := hD
  refine lv_aload_n hx hb dX10_begin_7 rfl (lv_at hl 0 rfl) ?_
  refine va_get (D := (dC, dI)) (ci := 7) (v := .ref h_pv) (C := RX10) (T := TX10) (N := 8) hx hb hw iwX10 hown hK hP 0 rfl rfl 5 (by decide) (hw _ w_f_X10_47) (fun _ h9 => h9) rfl dX10_begin_8 ?_
  have hPc := hP.sub (ws' := [(h_pv, .inr (3, [(v_pv 0), (v_pv 1), (v_pv 2), (v_pv 3), (v_pv 4), (v_pv 5), (v_pv 6), (v_pv 7), (v_pv 8), (v_pv 9), (v_pv 10), (v_pv 11), (v_pv 12), (v_pv 13), (v_pv 14), (v_pv 15), (v_pv 16), (v_pv 17)]))]) [1] rfl
  have hDc := hD.sub (ws' := [(h_pv, .inr (3, [(v_pv 0), (v_pv 1), (v_pv 2), (v_pv 3), (v_pv 4), (v_pv 5), (v_pv 6), (v_pv 7), (v_pv 8), (v_pv 9), (v_pv 10), (v_pv 11), (v_pv 12), (v_pv 13), (v_pv 14), (v_pv 15), (v_pv 16), (v_pv 17)]))]) [1] (by decide) rfl
  have hKc := hK.sub (tys' := []) [] rfl
  have hFc := va_free (wc := [(h_pv, .inr (3, [(v_pv 0), (v_pv 1), (v_pv 2), (v_pv 3), (v_pv 4), (v_pv 5), (v_pv 6), (v_pv 7), (v_pv 8), (v_pv 9), (v_pv 10), (v_pv 11), (v_pv 12), (v_pv 13), (v_pv 14), (v_pv 15), (v_pv 16), (v_pv 17)]))]) hD hS hA [1] rfl
  refine va_callv (va_runVN (As := []) (rest := []) ⟨hx, hb, hml, hown, hts⟩ (c_X4_forgetCounts l dC dI H.size h_pv v_pv) ⟨va_cnB (host := "OppositePairs") 0 hts (gd hT w_code_X4_forgetCounts) rfl rfl rfl (hN _ n_m_X10_262) (hw _ w_ini_X4) (by decide +kernel) ⟨(Nat.le_of_ble_eq_true rfl), (Nat.le_of_ble_eq_true rfl)⟩, hw _ w_instanceMethod_X4_forgetCounts, hw _ ws_sel_X4_forgetCounts⟩ ⟨pre_blind, va_recv hK hP (ci := 3) (q0 := 1) rfl rfl, pre_of hPc hKc hDc hN⟩ rfl rfl hl.1 rfl (lv_room (Nat.le_of_ble_eq_true rfl)) dX10_begin_11 ⟨(Nat.le_of_ble_eq_true rfl), (Nat.le_of_ble_eq_true rfl)⟩) hS (fun q _ h => hFc q h) hFc (fun u t H locs ht hvm hq hB hz1 hk1 hS => ?_)
  obtain ⟨hP1, hK1, hD1⟩ := hB
  rw [ht] at hP1
  have hK1 := va_K.moved hvm.symm hK1
  obtain ⟨hP, hD⟩ := va_join (wr := [(h_xx, .inr (7, [(v_xx 0), (v_xx 1), (v_xx 2), (v_xx 3), (v_xx 4), .ref h_pv, .ref h_mx, (v_xx 7)])), (h_mx, .inr (2, [(v_mx 0), (v_mx 1), (v_mx 2), (v_mx 3), .int 0, (v_mx 5), (v_mx 6), (v_mx 7), (v_mx 8), (v_mx 9), .int (-2), (v_mx 11)]))]) (w1 := [(h_pv, .inr (3, [(v_pv 0), (v_pv 1), (v_pv 2), (v_pv 3), (v_pv 4), (v_pv 5), (v_pv 6), (v_pv 7), (v_pv 8), (v_pv 9), (v_pv 10), (v_pv 11), .int 0, .int 0, .int 0, .int 0, (v_pv 16), .int 0]))]) hP hD [1] [0, 2] rfl rfl (by decide) (by decide) hk1 hFc hP1 hD1
  have hP : va_P (dC, dI) cls [(h_xx, .inr (7, [(v_xx 0), (v_xx 1), (v_xx 2), (v_xx 3), (v_xx 4), .ref h_pv, .ref h_mx, (v_xx 7)])), (h_mx, .inr (2, [(v_mx 0), (v_mx 1), (v_mx 2), (v_mx 3), .int 0, (v_mx 5), (v_mx 6), (v_mx 7), (v_mx 8), (v_mx 9), .int (-2), (v_mx 11)])), (h_pv, .inr (3, [(v_pv 0), (v_pv 1), (v_pv 2), (v_pv 3), (v_pv 4), (v_pv 5), (v_pv 6), (v_pv 7), (v_pv 8), (v_pv 9), (v_pv 10), (v_pv 11), .int 0, .int 0, .int 0, .int 0, (v_pv 16), .int 0]))] H := hP
  have hD : va_D A [(h_xx, .inr (7, [(v_xx 0), (v_xx 1), (v_xx 2), (v_xx 3), (v_xx 4), .ref h_pv, .ref h_mx, (v_xx 7)])), (h_mx, .inr (2, [(v_mx 0), (v_mx 1), (v_mx 2), (v_mx 3), .int 0, (v_mx 5), (v_mx 6), (v_mx 7), (v_mx 8), (v_mx 9), .int (-2), (v_mx 11)])), (h_pv, .inr (3, [(v_pv 0), (v_pv 1), (v_pv 2), (v_pv 3), (v_pv 4), (v_pv 5), (v_pv 6), (v_pv 7), (v_pv 8), (v_pv 9), (v_pv 10), (v_pv 11), .int 0, .int 0, .int 0, .int 0, (v_pv 16), .int 0]))] := hD
  refine W.widen (k := 0) (n := 0) (Nat.le_of_ble_eq_true rfl) (Nat.le_of_ble_eq_true rfl) ?_
  have hK9 := hK.sub (tys' := []) [] rfl
  exact W.vret hx hb hr (fun t ht hW => ⟨⟨(), rfl, trivial, by rw [ht]; exact hP, va_K.moved hW.alike hK9, hD⟩, hS.F ht⟩) hS.2.2 dX10_begin_14

set_option maxHeartbeats 4000000 in
set_option maxRecDepth 100000 in
theorem c_X8_isClause (l : Launch) (dC : Nat → ClassId) (dI : Nat → Nat → Nat) (sz : Nat) (h_td : Nat) (v_td : Nat → Value) (p1 : Int32) : Met l yX8_isClause (Ws yX8_isClause cX8_isClause 2 (some .boolean)) ({ frames := 0, cells := 0, slots := 0, locals := 0 }) (PRE (dC, dI) cls [] [(h_td, .inr (5, [(v_td 0), (v_td 1), (v_td 2), (v_td 3), (v_td 4), (v_td 5), (v_td 6), (v_td 7), (v_td 8), .int 0]))] sz [.ref h_td, .int p1]) (va_Qi (fun (r : Int32) (_ : Unit) => r = 0) (fun (_ : Unit) (_ : State) => True) (va_A [(h_td, .inr (5, [(v_td 0), (v_td 1), (v_td 2), (v_td 3), (v_td 4), (v_td 5), (v_td 6), (v_td 7), (v_td 8), .int 0]))] sz)) 0 0 (va_A [(h_td, .inr (5, [(v_td 0), (v_td 1), (v_td 2), (v_td 3), (v_td 4), (v_td 5), (v_td 6), (v_td 7), (v_td 8), .int 0]))] sz) := by
  refine Met.ofW (cc := cX8_isClause) (maxL := 2) (ret := (some .boolean)) (by decide) rfl ?_
  intro p e s m args below meth c s₁ B hml hv
  obtain ⟨rfl, hsz, hP, hK, hD0, hN⟩ := hv
  have hx := B.exec
  have hb := B.bytes
  have hr := B.returns
  have hts := atoms_spec (ws := Ws yX8_isClause cX8_isClause 2 (some .boolean)) B.pre
  have hT : ∀ w ∈ WALL, w ∈ Ws yX8_isClause cX8_isClause 2 (some .boolean) := fun w h => List.mem_cons_of_mem _ h
  have hw := fun w (h : w ∈ WALL) => hts w (hT w h)
  have hown : s.vm.findClass RX8 = some m.cls := findClass_of_methodNamed B.named
  have hlocks := B.notSynchronized
  subst hsz
  have hD := hD0.self (sz := s.heap.size)
  generalize hAe : va_A [(h_td, .inr (5, [(v_td 0), (v_td 1), (v_td 2), (v_td 3), (v_td 4), (v_td 5), (v_td 6), (v_td 7), (v_td 8), .int 0]))] s.heap.size = A at hD ⊢
  have hA : ∀ q : Nat, s.heap.size ≤ q → A q := fun q h => by rw [← hAe]; exact Or.inr h
  have hS : va_S A s.heap s.heap [] := va_S.rf
  have hl := lv_entry ([.ref h_td, .int p1]) (n := 2) (Nat.le_of_ble_eq_true rfl)
  rw [lg_entry_eq]
  generalize (lg_sl ([.ref h_td, .int p1]) ++ List.replicate (2 - (lg_sl ([.ref h_td, .int p1])).length) Slot.unset).toArray = ls at hl ⊢
  have hl : lv_has ls 2 [(0, .ref h_td), (1, .int p1)] := hl
  refine lv_iload_n hx hb dX8_isClause_0 rfl (lv_at hl 1 rfl) ?_
  refine lv_if_lt (tgt := 16) hx hb dX8_isClause_1 (by decide) (fun c1 => ?_) (fun c1 => ?_)
  · have kc1 := (cv_lt (rfl : (p1).toInt = (p1).toInt) (by decide : (0 : Int32).toInt = 0)).mp c1
    refine lv_iconst (v := 0) hx hb dX8_isClause_16 (by decide) ?_
    refine W.widen (k := 0) (n := 0) (Nat.le_of_ble_eq_true rfl) (Nat.le_of_ble_eq_true rfl) ?_
    exact W.zret (v := 0) (ty := .boolean) hx hb hr (by decide) (fun t ht hW => ⟨⟨0, (), rfl, rfl, trivial⟩, hS.F ht⟩) hS.2.2 dX8_isClause_17
  · have kc1 := (not_congr (cv_lt (rfl : (p1).toInt = (p1).toInt) (by decide : (0 : Int32).toInt = 0))).mp c1
    refine lv_iload_n hx hb dX8_isClause_4 rfl (lv_at hl 1 rfl) ?_
    refine lv_aload_n hx hb dX8_isClause_5 rfl (lv_at hl 0 rfl) ?_
    refine va_get (D := (dC, dI)) (ci := 5) (v := .int 0) (C := RX8) (T := TX8) (N := 10) hx hb hw iwX8 hown hK hP 0 rfl rfl 9 (by decide) (hw _ w_f_X8_41) (fun _ h9 => h9) rfl dX8_isClause_6 ?_
    refine lv_icmp_ge (tgt := 16) hx hb dX8_isClause_9 (by decide) (fun _ => ?_) (fun c2 => False.elim (by have kc2 := (not_congr (cv_le (by decide : (0 : Int32).toInt = 0) (rfl : (p1).toInt = (p1).toInt))).mp c2; omega))
    refine lv_iconst (v := 0) hx hb dX8_isClause_16 (by decide) ?_
    refine W.widen (k := 0) (n := 0) (Nat.le_of_ble_eq_true rfl) (Nat.le_of_ble_eq_true rfl) ?_
    exact W.zret (v := 0) (ty := .boolean) hx hb hr (by decide) (fun t ht hW => ⟨⟨0, (), rfl, rfl, trivial⟩, hS.F ht⟩) hS.2.2 dX8_isClause_17

set_option maxHeartbeats 4000000 in
set_option maxRecDepth 100000 in
theorem c_X8_isLiteral (l : Launch) (dC : Nat → ClassId) (dI : Nat → Nat → Nat) (sz : Nat) (h_td : Nat) (v_td : Nat → Value) (p1 : Int32) (p2 : Int32) : Met l yX8_isLiteral (Ws yX8_isLiteral cX8_isLiteral 3 (some .boolean)) ({ frames := 1, cells := 0, slots := 0, locals := 21 }) (PRE (dC, dI) cls [] [(h_td, .inr (5, [(v_td 0), (v_td 1), (v_td 2), (v_td 3), (v_td 4), (v_td 5), (v_td 6), (v_td 7), (v_td 8), .int 0]))] sz [.ref h_td, .int p1, .int p2]) (va_Qi (fun (r : Int32) (_ : Unit) => r = 0) (fun (_ : Unit) (_ : State) => True) (va_A [(h_td, .inr (5, [(v_td 0), (v_td 1), (v_td 2), (v_td 3), (v_td 4), (v_td 5), (v_td 6), (v_td 7), (v_td 8), .int 0]))] sz)) 0 0 (va_A [(h_td, .inr (5, [(v_td 0), (v_td 1), (v_td 2), (v_td 3), (v_td 4), (v_td 5), (v_td 6), (v_td 7), (v_td 8), .int 0]))] sz) := by
  refine Met.ofW (cc := cX8_isLiteral) (maxL := 3) (ret := (some .boolean)) (by decide) rfl ?_
  intro p e s m args below meth c s₁ B hml hv
  obtain ⟨rfl, hsz, hP, hK, hD0, hN⟩ := hv
  have hx := B.exec
  have hb := B.bytes
  have hr := B.returns
  have hts := atoms_spec (ws := Ws yX8_isLiteral cX8_isLiteral 3 (some .boolean)) B.pre
  have hT : ∀ w ∈ WALL, w ∈ Ws yX8_isLiteral cX8_isLiteral 3 (some .boolean) := fun w h => List.mem_cons_of_mem _ h
  have hw := fun w (h : w ∈ WALL) => hts w (hT w h)
  have hown : s.vm.findClass RX8 = some m.cls := findClass_of_methodNamed B.named
  have hlocks := B.notSynchronized
  subst hsz
  have hD := hD0.self (sz := s.heap.size)
  generalize hAe : va_A [(h_td, .inr (5, [(v_td 0), (v_td 1), (v_td 2), (v_td 3), (v_td 4), (v_td 5), (v_td 6), (v_td 7), (v_td 8), .int 0]))] s.heap.size = A at hD ⊢
  have hA : ∀ q : Nat, s.heap.size ≤ q → A q := fun q h => by rw [← hAe]; exact Or.inr h
  have hS : va_S A s.heap s.heap [] := va_S.rf
  have hl := lv_entry ([.ref h_td, .int p1, .int p2]) (n := 3) (Nat.le_of_ble_eq_true rfl)
  rw [lg_entry_eq]
  generalize (lg_sl ([.ref h_td, .int p1, .int p2]) ++ List.replicate (3 - (lg_sl ([.ref h_td, .int p1, .int p2])).length) Slot.unset).toArray = ls at hl ⊢
  have hl : lv_has ls 3 [(0, .ref h_td), (1, .int p1), (2, .int p2)] := hl
  refine lv_aload_n hx hb dX8_isLiteral_0 rfl (lv_at hl 0 rfl) ?_
  refine lv_iload_n hx hb dX8_isLiteral_1 rfl (lv_at hl 1 rfl) ?_
  have hPc := hP.sub (ws' := [(h_td, .inr (5, [(v_td 0), (v_td 1), (v_td 2), (v_td 3), (v_td 4), (v_td 5), (v_td 6), (v_td 7), (v_td 8), .int 0]))]) [0] rfl
  have hDc := hD.sub (ws' := [(h_td, .inr (5, [(v_td 0), (v_td 1), (v_td 2), (v_td 3), (v_td 4), (v_td 5), (v_td 6), (v_td 7), (v_td 8), .int 0]))]) [0] (by decide) rfl
  have hKc := hK.sub (tys' := []) [] rfl
  have hFc := va_free (wc := [(h_td, .inr (5, [(v_td 0), (v_td 1), (v_td 2), (v_td 3), (v_td 4), (v_td 5), (v_td 6), (v_td 7), (v_td 8), .int 0]))]) hD hS hA [0] rfl
  refine va_calli (va_runV (As := [.int p1]) (rest := []) ⟨hx, hb, hml, hown, hts⟩ (c_X8_isClause l dC dI s.heap.size h_td v_td p1) (cwV 1 hts (gv hT w_m_X8_50 w_instanceMethod_X8_isClause ws_sel_X8_isClause w_ini_X8 w_code_X8_isClause) rfl rfl rfl (by decide +kernel) ⟨(Nat.le_of_ble_eq_true rfl), (Nat.le_of_ble_eq_true rfl)⟩) ⟨pre_blind, va_recv hK hP (ci := 5) (q0 := 0) rfl rfl, pre_of hPc hKc hDc hN⟩ rfl rfl hl.1 rfl (lv_room (Nat.le_of_ble_eq_true rfl)) dX8_isLiteral_2 ⟨(Nat.le_of_ble_eq_true rfl), (Nat.le_of_ble_eq_true rfl)⟩) hS (fun q _ h => hFc q h) hFc (fun r1 u t H locs ht hvm hq hB hz1 hk1 hS => ?_)
  obtain ⟨hP, hD⟩ := va_join (wr := []) (w1 := []) hP hD [0] [] rfl rfl (by decide) (by decide) hk1 hFc P_nil D_nil
  have hP : va_P (dC, dI) cls [] H := hP
  have hD : va_D A [] := hD
  obtain rfl : r1 = 0 := hq
  refine lv_if_eq (tgt := 26) hx hb dX8_isLiteral_5 (by decide) (fun _ => ?_) (fun c9 => absurd c9 (by decide))
  refine lv_iconst (v := 0) hx hb dX8_isLiteral_26 (by decide) ?_
  refine W.widen (k := 0) (n := 0) (Nat.le_of_ble_eq_true rfl) (Nat.le_of_ble_eq_true rfl) ?_
  exact W.zret (v := 0) (ty := .boolean) hx hb hr (by decide) (fun t ht hW => ⟨⟨0, (), rfl, rfl, trivial⟩, hS.F ht⟩) hS.2.2 dX8_isLiteral_27

set_option maxHeartbeats 4000000 in
set_option maxRecDepth 100000 in
theorem c_X8_all (l : Launch) (dC : Nat → ClassId) (dI : Nat → Nat → Nat) (sz : Nat) (h_td : Nat) (v_td : Nat → Value) : Met l yX8_all (Ws yX8_all cX8_all 1 (some .int)) ({ frames := 0, cells := 0, slots := 0, locals := 0 }) (PRE (dC, dI) cls [] [(h_td, .inr (5, [(v_td 0), (v_td 1), (v_td 2), (v_td 3), (v_td 4), (v_td 5), (v_td 6), (v_td 7), (v_td 8), .int 0]))] sz [.ref h_td]) (va_Qi (fun (r : Int32) (_ : Unit) => r = 0) (fun (u : Unit) (t : State) => va_P (dC, dI) cls [(h_td, .inr (5, [(v_td 0), (v_td 1), (v_td 2), (v_td 3), (v_td 4), (v_td 5), (v_td 6), (v_td 7), (v_td 8), .int 0]))] t.heap ∧ va_K (dC, dI) cls [] t ∧ va_D (va_A [(h_td, .inr (5, [(v_td 0), (v_td 1), (v_td 2), (v_td 3), (v_td 4), (v_td 5), (v_td 6), (v_td 7), (v_td 8), .int 0]))] sz) [(h_td, .inr (5, [(v_td 0), (v_td 1), (v_td 2), (v_td 3), (v_td 4), (v_td 5), (v_td 6), (v_td 7), (v_td 8), .int 0]))]) (va_A [(h_td, .inr (5, [(v_td 0), (v_td 1), (v_td 2), (v_td 3), (v_td 4), (v_td 5), (v_td 6), (v_td 7), (v_td 8), .int 0]))] sz)) 0 0 (va_A [(h_td, .inr (5, [(v_td 0), (v_td 1), (v_td 2), (v_td 3), (v_td 4), (v_td 5), (v_td 6), (v_td 7), (v_td 8), .int 0]))] sz) := by
  refine Met.ofW (cc := cX8_all) (maxL := 1) (ret := (some .int)) (by decide) rfl ?_
  intro p e s m args below meth c s₁ B hml hv
  obtain ⟨rfl, hsz, hP, hK, hD0, hN⟩ := hv
  have hx := B.exec
  have hb := B.bytes
  have hr := B.returns
  have hts := atoms_spec (ws := Ws yX8_all cX8_all 1 (some .int)) B.pre
  have hT : ∀ w ∈ WALL, w ∈ Ws yX8_all cX8_all 1 (some .int) := fun w h => List.mem_cons_of_mem _ h
  have hw := fun w (h : w ∈ WALL) => hts w (hT w h)
  have hown : s.vm.findClass RX8 = some m.cls := findClass_of_methodNamed B.named
  have hlocks := B.notSynchronized
  subst hsz
  have hD := hD0.self (sz := s.heap.size)
  generalize hAe : va_A [(h_td, .inr (5, [(v_td 0), (v_td 1), (v_td 2), (v_td 3), (v_td 4), (v_td 5), (v_td 6), (v_td 7), (v_td 8), .int 0]))] s.heap.size = A at hD ⊢
  have hA : ∀ q : Nat, s.heap.size ≤ q → A q := fun q h => by rw [← hAe]; exact Or.inr h
  have hS : va_S A s.heap s.heap [] := va_S.rf
  have hl := lv_entry ([.ref h_td]) (n := 1) (Nat.le_of_ble_eq_true rfl)
  rw [lg_entry_eq]
  generalize (lg_sl ([.ref h_td]) ++ List.replicate (1 - (lg_sl ([.ref h_td])).length) Slot.unset).toArray = ls at hl ⊢
  have hl : lv_has ls 1 [(0, .ref h_td)] := hl
  refine lv_iconst (v := 1) hx hb dX8_all_0 (by decide) ?_
  refine lv_aload_n hx hb dX8_all_1 rfl (lv_at hl 0 rfl) ?_
  refine va_get (D := (dC, dI)) (ci := 5) (v := .int 0) (C := RX8) (T := TX8) (N := 10) hx hb hw iwX8 hown hK hP 0 rfl rfl 9 (by decide) (hw _ w_f_X8_41) (fun _ h9 => h9) rfl dX8_all_2 ?_
  refine lv_ishl hx hb dX8_all_5 ?_
  refine lv_topi (fun z1 ez1 => ?_)
  obtain rfl : z1 = 1 := ez1.trans (by decide)
  refine lv_iconst (v := 1) hx hb dX8_all_6 (by decide) ?_
  refine lv_isub hx hb dX8_all_7 ?_
  refine lv_topi (fun z2 ez2 => ?_)
  obtain rfl : z2 = 0 := ez2.trans (by decide)
  refine W.widen (k := 0) (n := 0) (Nat.le_of_ble_eq_true rfl) (Nat.le_of_ble_eq_true rfl) ?_
  have hK9 := hK.sub (tys' := []) [] rfl
  exact W.iret (v := 0) hx hb hr (fun t ht hW => ⟨⟨0, (), rfl, rfl, by rw [ht]; exact hP, va_K.moved hW.alike hK9, hD⟩, hS.F ht⟩) hS.2.2 dX8_all_8

set_option maxHeartbeats 4000000 in
set_option maxRecDepth 100000 in
theorem c_X8_countLiterals (l : Launch) (dC : Nat → ClassId) (dI : Nat → Nat → Nat) (sz : Nat) (h_td : Nat) (v_td : Nat → Value) : Met l yX8_countLiterals (Ws yX8_countLiterals cX8_countLiterals 3 (some .int)) ({ frames := 0, cells := 0, slots := 0, locals := 0 }) (PRE (dC, dI) cls [] [(h_td, .inr (5, [(v_td 0), (v_td 1), (v_td 2), (v_td 3), (v_td 4), (v_td 5), (v_td 6), (v_td 7), (v_td 8), .int 0]))] sz [.ref h_td]) (va_Qi (fun (r : Int32) (_ : Unit) => r = 0) (fun (_ : Unit) (_ : State) => True) (va_A [(h_td, .inr (5, [(v_td 0), (v_td 1), (v_td 2), (v_td 3), (v_td 4), (v_td 5), (v_td 6), (v_td 7), (v_td 8), .int 0]))] sz)) 0 0 (va_A [(h_td, .inr (5, [(v_td 0), (v_td 1), (v_td 2), (v_td 3), (v_td 4), (v_td 5), (v_td 6), (v_td 7), (v_td 8), .int 0]))] sz) := by
  refine Met.ofW (cc := cX8_countLiterals) (maxL := 3) (ret := (some .int)) (by decide) rfl ?_
  intro p e s m args below meth c s₁ B hml hv
  obtain ⟨rfl, hsz, hP, hK, hD0, hN⟩ := hv
  have hx := B.exec
  have hb := B.bytes
  have hr := B.returns
  have hts := atoms_spec (ws := Ws yX8_countLiterals cX8_countLiterals 3 (some .int)) B.pre
  have hT : ∀ w ∈ WALL, w ∈ Ws yX8_countLiterals cX8_countLiterals 3 (some .int) := fun w h => List.mem_cons_of_mem _ h
  have hw := fun w (h : w ∈ WALL) => hts w (hT w h)
  have hown : s.vm.findClass RX8 = some m.cls := findClass_of_methodNamed B.named
  have hlocks := B.notSynchronized
  subst hsz
  have hD := hD0.self (sz := s.heap.size)
  generalize hAe : va_A [(h_td, .inr (5, [(v_td 0), (v_td 1), (v_td 2), (v_td 3), (v_td 4), (v_td 5), (v_td 6), (v_td 7), (v_td 8), .int 0]))] s.heap.size = A at hD ⊢
  have hA : ∀ q : Nat, s.heap.size ≤ q → A q := fun q h => by rw [← hAe]; exact Or.inr h
  have hS : va_S A s.heap s.heap [] := va_S.rf
  have hl := lv_entry ([.ref h_td]) (n := 3) (Nat.le_of_ble_eq_true rfl)
  rw [lg_entry_eq]
  generalize (lg_sl ([.ref h_td]) ++ List.replicate (3 - (lg_sl ([.ref h_td])).length) Slot.unset).toArray = ls at hl ⊢
  have hl : lv_has ls 3 [(0, .ref h_td)] := hl
  refine lv_iconst (v := 0) hx hb dX8_countLiterals_0 (by decide) ?_
  refine lv_istore_n (lv' := [(1, .int 0), (0, .ref h_td)]) hx hb dX8_countLiterals_1 rfl hl (by decide) rfl (fun ls hl => ?_)
  refine lv_iconst (v := 0) hx hb dX8_countLiterals_2 (by decide) ?_
  refine lv_istore_n (lv' := [(2, .int 0), (1, .int 0), (0, .ref h_td)]) hx hb dX8_countLiterals_3 rfl hl (by decide) rfl (fun ls hl => ?_)
  refine lv_iload_n hx hb dX8_countLiterals_4 rfl (lv_at hl 0 rfl) ?_
  refine lv_aload_n hx hb dX8_countLiterals_5 rfl (lv_at hl 2 rfl) ?_
  refine va_get (D := (dC, dI)) (ci := 5) (v := .int 0) (C := RX8) (T := TX8) (N := 10) hx hb hw iwX8 hown hK hP 0 rfl rfl 9 (by decide) (hw _ w_f_X8_41) (fun _ h9 => h9) rfl dX8_countLiterals_6 ?_
  refine lv_icmp_ge (tgt := 27) hx hb dX8_countLiterals_9 (by decide) (fun _ => ?_) (fun c9 => absurd c9 (by decide))
  refine lv_iload_n hx hb dX8_countLiterals_27 rfl (lv_at hl 1 rfl) ?_
  refine W.widen (k := 0) (n := 0) (Nat.le_of_ble_eq_true rfl) (Nat.le_of_ble_eq_true rfl) ?_
  exact W.iret (v := 0) hx hb hr (fun t ht hW => ⟨⟨0, (), rfl, rfl, trivial⟩, hS.F ht⟩) hS.2.2 dX8_countLiterals_28

set_option maxHeartbeats 4000000 in
set_option maxRecDepth 100000 in
theorem c_X8_countNames (l : Launch) (dC : Nat → ClassId) (dI : Nat → Nat → Nat) (sz : Nat) (h_td : Nat) (v_td : Nat → Value) : Met l yX8_countNames (Ws yX8_countNames cX8_countNames 4 (some .int)) ({ frames := 0, cells := 0, slots := 0, locals := 0 }) (PRE (dC, dI) cls [] [(h_td, .inr (5, [(v_td 0), (v_td 1), (v_td 2), (v_td 3), (v_td 4), (v_td 5), (v_td 6), (v_td 7), (v_td 8), .int 0]))] sz [.ref h_td]) (va_Qi (fun (r : Int32) (_ : Unit) => r = 0) (fun (_ : Unit) (_ : State) => True) (va_A [(h_td, .inr (5, [(v_td 0), (v_td 1), (v_td 2), (v_td 3), (v_td 4), (v_td 5), (v_td 6), (v_td 7), (v_td 8), .int 0]))] sz)) 0 0 (va_A [(h_td, .inr (5, [(v_td 0), (v_td 1), (v_td 2), (v_td 3), (v_td 4), (v_td 5), (v_td 6), (v_td 7), (v_td 8), .int 0]))] sz) := by
  refine Met.ofW (cc := cX8_countNames) (maxL := 4) (ret := (some .int)) (by decide) rfl ?_
  intro p e s m args below meth c s₁ B hml hv
  obtain ⟨rfl, hsz, hP, hK, hD0, hN⟩ := hv
  have hx := B.exec
  have hb := B.bytes
  have hr := B.returns
  have hts := atoms_spec (ws := Ws yX8_countNames cX8_countNames 4 (some .int)) B.pre
  have hT : ∀ w ∈ WALL, w ∈ Ws yX8_countNames cX8_countNames 4 (some .int) := fun w h => List.mem_cons_of_mem _ h
  have hw := fun w (h : w ∈ WALL) => hts w (hT w h)
  have hown : s.vm.findClass RX8 = some m.cls := findClass_of_methodNamed B.named
  have hlocks := B.notSynchronized
  subst hsz
  have hD := hD0.self (sz := s.heap.size)
  generalize hAe : va_A [(h_td, .inr (5, [(v_td 0), (v_td 1), (v_td 2), (v_td 3), (v_td 4), (v_td 5), (v_td 6), (v_td 7), (v_td 8), .int 0]))] s.heap.size = A at hD ⊢
  have hA : ∀ q : Nat, s.heap.size ≤ q → A q := fun q h => by rw [← hAe]; exact Or.inr h
  have hS : va_S A s.heap s.heap [] := va_S.rf
  have hl := lv_entry ([.ref h_td]) (n := 4) (Nat.le_of_ble_eq_true rfl)
  rw [lg_entry_eq]
  generalize (lg_sl ([.ref h_td]) ++ List.replicate (4 - (lg_sl ([.ref h_td])).length) Slot.unset).toArray = ls at hl ⊢
  have hl : lv_has ls 4 [(0, .ref h_td)] := hl
  refine lv_iconst (v := 0) hx hb dX8_countNames_0 (by decide) ?_
  refine lv_istore_n (lv' := [(1, .int 0), (0, .ref h_td)]) hx hb dX8_countNames_1 rfl hl (by decide) rfl (fun ls hl => ?_)
  refine lv_iconst (v := 0) hx hb dX8_countNames_2 (by decide) ?_
  refine lv_istore_n (lv' := [(2, .int 0), (1, .int 0), (0, .ref h_td)]) hx hb dX8_countNames_3 rfl hl (by decide) rfl (fun ls hl => ?_)
  refine lv_iload_n hx hb dX8_countNames_4 rfl (lv_at hl 0 rfl) ?_
  refine lv_aload_n hx hb dX8_countNames_5 rfl (lv_at hl 2 rfl) ?_
  refine va_get (D := (dC, dI)) (ci := 5) (v := .int 0) (C := RX8) (T := TX8) (N := 10) hx hb hw iwX8 hown hK hP 0 rfl rfl 9 (by decide) (hw _ w_f_X8_41) (fun _ h9 => h9) rfl dX8_countNames_6 ?_
  refine lv_icmp_ge (tgt := 53) hx hb dX8_countNames_9 (by decide) (fun _ => ?_) (fun c9 => absurd c9 (by decide))
  refine lv_iload_n hx hb dX8_countNames_53 rfl (lv_at hl 1 rfl) ?_
  refine W.widen (k := 0) (n := 0) (Nat.le_of_ble_eq_true rfl) (Nat.le_of_ble_eq_true rfl) ?_
  exact W.iret (v := 0) hx hb hr (fun t ht hW => ⟨⟨0, (), rfl, rfl, trivial⟩, hS.F ht⟩) hS.2.2 dX8_countNames_54

set_option maxHeartbeats 4000000 in
set_option maxRecDepth 100000 in
theorem c_X4_countSteps (l : Launch) (dC : Nat → ClassId) (dI : Nat → Nat → Nat) (sz : Nat) (h_pv : Nat) (v_pv : Nat → Value) (p1 : Int32) : Met l yX4_countSteps (Ws yX4_countSteps cX4_countSteps 4 (some .int)) ({ frames := 0, cells := 0, slots := 0, locals := 0 }) (PRE (dC, dI) cls [] [(h_pv, .inr (3, [(v_pv 0), (v_pv 1), (v_pv 2), (v_pv 3), (v_pv 4), (v_pv 5), (v_pv 6), .int 0, (v_pv 8), .int 0, (v_pv 10), (v_pv 11), .int 0, .int 0, .int 0, .int 0, (v_pv 16), .int 0]))] sz [.ref h_pv, .int p1]) (va_Qi (fun (r : Int32) (_ : Unit) => r = 0) (fun (_ : Unit) (_ : State) => True) (va_A [(h_pv, .inr (3, [(v_pv 0), (v_pv 1), (v_pv 2), (v_pv 3), (v_pv 4), (v_pv 5), (v_pv 6), .int 0, (v_pv 8), .int 0, (v_pv 10), (v_pv 11), .int 0, .int 0, .int 0, .int 0, (v_pv 16), .int 0]))] sz)) 0 0 (va_A [(h_pv, .inr (3, [(v_pv 0), (v_pv 1), (v_pv 2), (v_pv 3), (v_pv 4), (v_pv 5), (v_pv 6), .int 0, (v_pv 8), .int 0, (v_pv 10), (v_pv 11), .int 0, .int 0, .int 0, .int 0, (v_pv 16), .int 0]))] sz) := by
  refine Met.ofW (cc := cX4_countSteps) (maxL := 4) (ret := (some .int)) (by decide) rfl ?_
  intro p e s m args below meth c s₁ B hml hv
  obtain ⟨rfl, hsz, hP, hK, hD0, hN⟩ := hv
  have hx := B.exec
  have hb := B.bytes
  have hr := B.returns
  have hts := atoms_spec (ws := Ws yX4_countSteps cX4_countSteps 4 (some .int)) B.pre
  have hT : ∀ w ∈ WALL, w ∈ Ws yX4_countSteps cX4_countSteps 4 (some .int) := fun w h => List.mem_cons_of_mem _ h
  have hw := fun w (h : w ∈ WALL) => hts w (hT w h)
  have hown : s.vm.findClass RX4 = some m.cls := findClass_of_methodNamed B.named
  have hlocks := B.notSynchronized
  subst hsz
  have hD := hD0.self (sz := s.heap.size)
  generalize hAe : va_A [(h_pv, .inr (3, [(v_pv 0), (v_pv 1), (v_pv 2), (v_pv 3), (v_pv 4), (v_pv 5), (v_pv 6), .int 0, (v_pv 8), .int 0, (v_pv 10), (v_pv 11), .int 0, .int 0, .int 0, .int 0, (v_pv 16), .int 0]))] s.heap.size = A at hD ⊢
  have hA : ∀ q : Nat, s.heap.size ≤ q → A q := fun q h => by rw [← hAe]; exact Or.inr h
  have hS : va_S A s.heap s.heap [] := va_S.rf
  have hl := lv_entry ([.ref h_pv, .int p1]) (n := 4) (Nat.le_of_ble_eq_true rfl)
  rw [lg_entry_eq]
  generalize (lg_sl ([.ref h_pv, .int p1]) ++ List.replicate (4 - (lg_sl ([.ref h_pv, .int p1])).length) Slot.unset).toArray = ls at hl ⊢
  have hl : lv_has ls 4 [(0, .ref h_pv), (1, .int p1)] := hl
  refine lv_iconst (v := 0) hx hb dX4_countSteps_0 (by decide) ?_
  refine lv_istore_n (lv' := [(2, .int 0), (0, .ref h_pv), (1, .int p1)]) hx hb dX4_countSteps_1 rfl hl (by decide) rfl (fun ls hl => ?_)
  refine lv_iconst (v := 0) hx hb dX4_countSteps_2 (by decide) ?_
  refine lv_istore_n (lv' := [(3, .int 0), (2, .int 0), (0, .ref h_pv), (1, .int p1)]) hx hb dX4_countSteps_3 rfl hl (by decide) rfl (fun ls hl => ?_)
  refine lv_aload_n hx hb dX4_countSteps_4 rfl (lv_at hl 2 rfl) ?_
  refine va_get (D := (dC, dI)) (ci := 3) (v := .int 0) (C := RX4) (T := TX4) (N := 18) hx hb hw iwX4 hown hK hP 0 rfl rfl 17 (by decide) (hw _ w_f_X4_41) (fun _ h9 => h9) rfl dX4_countSteps_5 ?_
  refine lv_if_eq (tgt := 46) hx hb dX4_countSteps_8 (by decide) (fun _ => ?_) (fun c9 => absurd c9 (by decide))
  refine lv_iload_n hx hb dX4_countSteps_46 rfl (lv_at hl 1 rfl) ?_
  refine W.widen (k := 0) (n := 0) (Nat.le_of_ble_eq_true rfl) (Nat.le_of_ble_eq_true rfl) ?_
  exact W.iret (v := 0) hx hb hr (fun t ht hW => ⟨⟨0, (), rfl, rfl, trivial⟩, hS.F ht⟩) hS.2.2 dX4_countSteps_47

set_option maxHeartbeats 4000000 in
set_option maxRecDepth 100000 in
theorem c_X10_isInstance (l : Launch) (dC : Nat → ClassId) (dI : Nat → Nat → Nat) (sz : Nat) (h_xx : Nat) (h_pv : Nat) (v_xx : Nat → Value) (v_pv : Nat → Value) (p1 : Int32) : Met l yX10_isInstance (Ws yX10_isInstance cX10_isInstance 2 (some .boolean)) ({ frames := 0, cells := 0, slots := 0, locals := 0 }) (PRE (dC, dI) cls [] [(h_xx, .inr (7, [(v_xx 0), (v_xx 1), (v_xx 2), (v_xx 3), (v_xx 4), .ref h_pv, (v_xx 6), (v_xx 7)])), (h_pv, .inr (3, [(v_pv 0), (v_pv 1), (v_pv 2), (v_pv 3), (v_pv 4), (v_pv 5), (v_pv 6), .int 0, (v_pv 8), .int 0, (v_pv 10), (v_pv 11), .int 0, .int 0, .int 0, .int 0, (v_pv 16), .int 0]))] sz [.ref h_xx, .int p1]) (va_Qi (fun (r : Int32) (_ : Unit) => r = 0) (fun (_ : Unit) (_ : State) => True) (va_A [(h_xx, .inr (7, [(v_xx 0), (v_xx 1), (v_xx 2), (v_xx 3), (v_xx 4), .ref h_pv, (v_xx 6), (v_xx 7)])), (h_pv, .inr (3, [(v_pv 0), (v_pv 1), (v_pv 2), (v_pv 3), (v_pv 4), (v_pv 5), (v_pv 6), .int 0, (v_pv 8), .int 0, (v_pv 10), (v_pv 11), .int 0, .int 0, .int 0, .int 0, (v_pv 16), .int 0]))] sz)) 0 0 (va_A [(h_xx, .inr (7, [(v_xx 0), (v_xx 1), (v_xx 2), (v_xx 3), (v_xx 4), .ref h_pv, (v_xx 6), (v_xx 7)])), (h_pv, .inr (3, [(v_pv 0), (v_pv 1), (v_pv 2), (v_pv 3), (v_pv 4), (v_pv 5), (v_pv 6), .int 0, (v_pv 8), .int 0, (v_pv 10), (v_pv 11), .int 0, .int 0, .int 0, .int 0, (v_pv 16), .int 0]))] sz) := by
  refine Met.ofW (cc := cX10_isInstance) (maxL := 2) (ret := (some .boolean)) (by decide) rfl ?_
  intro p e s m args below meth c s₁ B hml hv
  obtain ⟨rfl, hsz, hP, hK, hD0, hN⟩ := hv
  have hx := B.exec
  have hb := B.bytes
  have hr := B.returns
  have hts := atoms_spec (ws := Ws yX10_isInstance cX10_isInstance 2 (some .boolean)) B.pre
  have hT : ∀ w ∈ WALL, w ∈ Ws yX10_isInstance cX10_isInstance 2 (some .boolean) := fun w h => List.mem_cons_of_mem _ h
  have hw := fun w (h : w ∈ WALL) => hts w (hT w h)
  have hown : s.vm.findClass RX10 = some m.cls := findClass_of_methodNamed B.named
  have hlocks := B.notSynchronized
  subst hsz
  have hD := hD0.self (sz := s.heap.size)
  generalize hAe : va_A [(h_xx, .inr (7, [(v_xx 0), (v_xx 1), (v_xx 2), (v_xx 3), (v_xx 4), .ref h_pv, (v_xx 6), (v_xx 7)])), (h_pv, .inr (3, [(v_pv 0), (v_pv 1), (v_pv 2), (v_pv 3), (v_pv 4), (v_pv 5), (v_pv 6), .int 0, (v_pv 8), .int 0, (v_pv 10), (v_pv 11), .int 0, .int 0, .int 0, .int 0, (v_pv 16), .int 0]))] s.heap.size = A at hD ⊢
  have hA : ∀ q : Nat, s.heap.size ≤ q → A q := fun q h => by rw [← hAe]; exact Or.inr h
  have hS : va_S A s.heap s.heap [] := va_S.rf
  have hl := lv_entry ([.ref h_xx, .int p1]) (n := 2) (Nat.le_of_ble_eq_true rfl)
  rw [lg_entry_eq]
  generalize (lg_sl ([.ref h_xx, .int p1]) ++ List.replicate (2 - (lg_sl ([.ref h_xx, .int p1])).length) Slot.unset).toArray = ls at hl ⊢
  have hl : lv_has ls 2 [(0, .ref h_xx), (1, .int p1)] := hl
  refine lv_aload_n hx hb dX10_isInstance_0 rfl (lv_at hl 0 rfl) ?_
  refine va_get (D := (dC, dI)) (ci := 7) (v := .ref h_pv) (C := RX10) (T := TX10) (N := 8) hx hb hw iwX10 hown hK hP 0 rfl rfl 5 (by decide) (hw _ w_f_X10_47) (fun _ h9 => h9) rfl dX10_isInstance_1 ?_
  refine va_getN (D := (dC, dI)) (ci := 3) (v := .int 0) (C := RX4) (T := TX4) (N := 18) (host := "OppositePairs") hx hb hw iwX4 hown hK hP 1 rfl rfl 17 (by decide) (hN.use n_f_X10_175 rfl) (fun _ h9 => h9) rfl dX10_isInstance_4 ?_
  refine lv_if_eq (tgt := 29) hx hb dX10_isInstance_7 (by decide) (fun _ => ?_) (fun c9 => absurd c9 (by decide))
  refine lv_iconst (v := 0) hx hb dX10_isInstance_29 (by decide) ?_
  refine W.widen (k := 0) (n := 0) (Nat.le_of_ble_eq_true rfl) (Nat.le_of_ble_eq_true rfl) ?_
  exact W.zret (v := 0) (ty := .boolean) hx hb hr (by decide) (fun t ht hW => ⟨⟨0, (), rfl, rfl, trivial⟩, hS.F ht⟩) hS.2.2 dX10_isInstance_30

set_option maxHeartbeats 4000000 in
set_option maxRecDepth 100000 in
theorem c_X10_canBe (l : Launch) (dC : Nat → ClassId) (dI : Nat → Nat → Nat) (sz : Nat) (p1 : Int32) (p2 : Int32) : Met l yX10_canBe (Ws yX10_canBe cX10_canBe 2 (some .boolean)) ({ frames := 0, cells := 0, slots := 0, locals := 0 }) (PRE (dC, dI) cls [] [] sz [.int p1, .int p2]) (va_Qi (fun (r : Int32) (_ : Unit) => (r = 1 ∧ (0 ≤ p1.toInt ∧ p1.toInt ≤ 20 ∧ 0 ≤ p2.toInt ∧ p2.toInt ≤ 7)) ∨ (r = 0 ∧ ¬ (0 ≤ p1.toInt ∧ p1.toInt ≤ 20 ∧ 0 ≤ p2.toInt ∧ p2.toInt ≤ 7))) (fun (_ : Unit) (_ : State) => True) (va_A [] sz)) 0 0 (va_A [] sz) := by
  refine Met.ofW (cc := cX10_canBe) (maxL := 2) (ret := (some .boolean)) (by decide) rfl ?_
  intro p e s m args below meth c s₁ B hml hv
  obtain ⟨rfl, hsz, hP, hK, hD0, hN⟩ := hv
  have hx := B.exec
  have hb := B.bytes
  have hr := B.returns
  have hts := atoms_spec (ws := Ws yX10_canBe cX10_canBe 2 (some .boolean)) B.pre
  have hT : ∀ w ∈ WALL, w ∈ Ws yX10_canBe cX10_canBe 2 (some .boolean) := fun w h => List.mem_cons_of_mem _ h
  have hw := fun w (h : w ∈ WALL) => hts w (hT w h)
  have hown : s.vm.findClass RX10 = some m.cls := findClass_of_methodNamed B.named
  have hlocks := B.notSynchronized
  subst hsz
  have hD := hD0.self (sz := s.heap.size)
  generalize hAe : va_A [] s.heap.size = A at hD ⊢
  have hA : ∀ q : Nat, s.heap.size ≤ q → A q := fun q h => by rw [← hAe]; exact Or.inr h
  have hS : va_S A s.heap s.heap [] := va_S.rf
  have hl := lv_entry ([.int p1, .int p2]) (n := 2) (Nat.le_of_ble_eq_true rfl)
  rw [lg_entry_eq]
  generalize (lg_sl ([.int p1, .int p2]) ++ List.replicate (2 - (lg_sl ([.int p1, .int p2])).length) Slot.unset).toArray = ls at hl ⊢
  have hl : lv_has ls 2 [(0, .int p1), (1, .int p2)] := hl
  refine lv_iload_n hx hb dX10_canBe_0 rfl (lv_at hl 0 rfl) ?_
  refine lv_if_lt (tgt := 24) hx hb dX10_canBe_1 (by decide) (fun c1 => ?_) (fun c1 => ?_)
  · have kc1 := (cv_lt (rfl : (p1).toInt = (p1).toInt) (by decide : (0 : Int32).toInt = 0)).mp c1
    refine lv_iconst (v := 0) hx hb dX10_canBe_24 (by decide) ?_
    refine W.widen (k := 0) (n := 0) (Nat.le_of_ble_eq_true rfl) (Nat.le_of_ble_eq_true rfl) ?_
    exact W.zret (v := 0) (ty := .boolean) hx hb hr (by decide) (fun t ht hW => ⟨⟨0, (), rfl, (Or.inr ⟨rfl, by omega⟩), trivial⟩, hS.F ht⟩) hS.2.2 dX10_canBe_25
  · have kc1 := (not_congr (cv_lt (rfl : (p1).toInt = (p1).toInt) (by decide : (0 : Int32).toInt = 0))).mp c1
    refine lv_iload_n hx hb dX10_canBe_4 rfl (lv_at hl 0 rfl) ?_
    refine lv_bipush (v := 20) hx hb dX10_canBe_5 (by decide) ?_
    refine lv_icmp_gt (tgt := 24) hx hb dX10_canBe_7 (by decide) (fun c2 => ?_) (fun c2 => ?_)
    · have kc2 := (cv_lt (by decide : (20 : Int32).toInt = 20) (rfl : (p1).toInt = (p1).toInt)).mp c2
      refine lv_iconst (v := 0) hx hb dX10_canBe_24 (by decide) ?_
      refine W.widen (k := 0) (n := 0) (Nat.le_of_ble_eq_true rfl) (Nat.le_of_ble_eq_true rfl) ?_
      exact W.zret (v := 0) (ty := .boolean) hx hb hr (by decide) (fun t ht hW => ⟨⟨0, (), rfl, (Or.inr ⟨rfl, by omega⟩), trivial⟩, hS.F ht⟩) hS.2.2 dX10_canBe_25
    · have kc2 := (not_congr (cv_lt (by decide : (20 : Int32).toInt = 20) (rfl : (p1).toInt = (p1).toInt))).mp c2
      refine lv_iload_n hx hb dX10_canBe_10 rfl (lv_at hl 1 rfl) ?_
      refine lv_if_lt (tgt := 24) hx hb dX10_canBe_11 (by decide) (fun c3 => ?_) (fun c3 => ?_)
      · have kc3 := (cv_lt (rfl : (p2).toInt = (p2).toInt) (by decide : (0 : Int32).toInt = 0)).mp c3
        refine lv_iconst (v := 0) hx hb dX10_canBe_24 (by decide) ?_
        refine W.widen (k := 0) (n := 0) (Nat.le_of_ble_eq_true rfl) (Nat.le_of_ble_eq_true rfl) ?_
        exact W.zret (v := 0) (ty := .boolean) hx hb hr (by decide) (fun t ht hW => ⟨⟨0, (), rfl, (Or.inr ⟨rfl, by omega⟩), trivial⟩, hS.F ht⟩) hS.2.2 dX10_canBe_25
      · have kc3 := (not_congr (cv_lt (rfl : (p2).toInt = (p2).toInt) (by decide : (0 : Int32).toInt = 0))).mp c3
        refine lv_iload_n hx hb dX10_canBe_14 rfl (lv_at hl 1 rfl) ?_
        refine lv_bipush (v := 7) hx hb dX10_canBe_15 (by decide) ?_
        refine lv_icmp_gt (tgt := 24) hx hb dX10_canBe_17 (by decide) (fun c4 => ?_) (fun c4 => ?_)
        · have kc4 := (cv_lt (by decide : (7 : Int32).toInt = 7) (rfl : (p2).toInt = (p2).toInt)).mp c4
          refine lv_iconst (v := 0) hx hb dX10_canBe_24 (by decide) ?_
          refine W.widen (k := 0) (n := 0) (Nat.le_of_ble_eq_true rfl) (Nat.le_of_ble_eq_true rfl) ?_
          exact W.zret (v := 0) (ty := .boolean) hx hb hr (by decide) (fun t ht hW => ⟨⟨0, (), rfl, (Or.inr ⟨rfl, by omega⟩), trivial⟩, hS.F ht⟩) hS.2.2 dX10_canBe_25
        · have kc4 := (not_congr (cv_lt (by decide : (7 : Int32).toInt = 7) (rfl : (p2).toInt = (p2).toInt))).mp c4
          refine lv_iconst (v := 1) hx hb dX10_canBe_20 (by decide) ?_
          refine lv_goto (tgt := 25) hx hb dX10_canBe_21 (by decide) ?_
          refine W.widen (k := 0) (n := 0) (Nat.le_of_ble_eq_true rfl) (Nat.le_of_ble_eq_true rfl) ?_
          exact W.zret (v := 1) (ty := .boolean) hx hb hr (by decide) (fun t ht hW => ⟨⟨1, (), rfl, (Or.inl ⟨rfl, by omega⟩), trivial⟩, hS.F ht⟩) hS.2.2 dX10_canBe_25

