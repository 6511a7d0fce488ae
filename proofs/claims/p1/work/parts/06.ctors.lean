set_option maxHeartbeats 4000000 in
set_option maxRecDepth 100000 in
theorem c_X5_init (l : Launch) (dC : Nat → ClassId) (dI : Nat → Nat → Nat) (sz : Nat) (h_rd : Nat) : Met l yX5_init (Ws yX5_init cX5_init 1 none) ({ frames := 1, cells := 2, slots := 608, locals := 24 }) (PRE (dC, dI) cls [] [(h_rd, .inr (4, [.null, .int 0, .int 0, .int 0, .null, .null, .int 0, .int 0, .int 0, .int 0, .long 0]))] sz [.ref h_rd]) (va_Qv (fun (_ : (Nat → Value) × (Nat) × (ClassId)) => True) (fun (u : (Nat → Value) × (Nat) × (ClassId)) (t : State) => va_P (dC, dI) cls [(h_rd, .inr (4, [.ref u.2.1, .int 0, .int 0, .int (-1), .null, (u.1 5), .int 0, .int 0, .int 0, .int 0, .long 0])), (u.2.1, .inl (u.2.2, 600, .inl (fun _ => 0)))] t.heap ∧ va_K (dC, dI) cls [(u.2.2, .int)] t ∧ va_D (va_A [(h_rd, .inr (4, [.null, .int 0, .int 0, .int 0, .null, .null, .int 0, .int 0, .int 0, .int 0, .long 0]))] sz) [(h_rd, .inr (4, [.ref u.2.1, .int 0, .int 0, .int (-1), .null, (u.1 5), .int 0, .int 0, .int 0, .int 0, .long 0])), (u.2.1, .inl (u.2.2, 600, .inl (fun _ => 0)))]) (va_A [(h_rd, .inr (4, [.null, .int 0, .int 0, .int 0, .null, .null, .int 0, .int 0, .int 0, .int 0, .long 0]))] sz)) 2 608 (va_A [(h_rd, .inr (4, [.null, .int 0, .int 0, .int 0, .null, .null, .int 0, .int 0, .int 0, .int 0, .long 0]))] sz) := by
  refine Met.ofW (cc := cX5_init) (maxL := 1) (ret := none) (by decide) rfl ?_
  intro p e s m args below meth c s₁ B hml hv
  obtain ⟨rfl, hsz, hP, hK, hD0, hN⟩ := hv
  have hx := B.exec
  have hb := B.bytes
  have hr := B.returns
  have hts := atoms_spec (ws := Ws yX5_init cX5_init 1 none) B.pre
  have hT : ∀ w ∈ WALL, w ∈ Ws yX5_init cX5_init 1 none := fun w h => List.mem_cons_of_mem _ h
  have hw := fun w (h : w ∈ WALL) => hts w (hT w h)
  have hown : s.vm.findClass RX5 = some m.cls := findClass_of_methodNamed B.named
  have hlocks := B.notSynchronized
  have hin : meth.name = "<init>" := (name_of_methodNamed B.named B.method).1
  subst hsz
  have hD := hD0.self (sz := s.heap.size)
  generalize hAe : va_A [(h_rd, .inr (4, [.null, .int 0, .int 0, .int 0, .null, .null, .int 0, .int 0, .int 0, .int 0, .long 0]))] s.heap.size = A at hD ⊢
  have hA : ∀ q : Nat, s.heap.size ≤ q → A q := fun q h => by rw [← hAe]; exact Or.inr h
  have hS : va_S A s.heap s.heap [] := va_S.rf
  have hl := lv_entry ([.ref h_rd]) (n := 1) (Nat.le_of_ble_eq_true rfl)
  rw [lg_entry_eq]
  generalize (lg_sl ([.ref h_rd]) ++ List.replicate (1 - (lg_sl ([.ref h_rd])).length) Slot.unset).toArray = ls at hl ⊢
  have hl : lv_has ls 1 [(0, .ref h_rd)] := hl
  refine lv_aload_n hx hb dX5_init_0 rfl (lv_at hl 0 rfl) ?_
  refine W.objInit hx hb hown (hw _ w_m_X5_3) (hw _ w_instanceMethod_objInit) (hw _ w_code_objInit) rfl (by rw [hml]; exact hl.1) rfl dX5_init_1 (Nat.le_of_ble_eq_true rfl) (Nat.le_of_ble_eq_true rfl) ?_
  refine W.eq (g2 := F0 m 4 ls []) rfl ?_
  refine lv_aload_n hx hb dX5_init_4 rfl (lv_at hl 0 rfl) ?_
  refine lv_sipush (v := 600) hx hb dX5_init_5 (by decide) ?_
  refine va_newa (atype := .int) (n := 600) (N' := 600) (a0 := (600, .inl (fun _ => 0))) hx hb (hw _ w_arr_int) rfl hK hP hD hS hA (fun _ => rfl) (by decide) (by decide) (by decide) (Nat.le_of_ble_eq_true rfl) (Nat.le_of_ble_eq_true rfl) dX5_init_8 (fun q1 y2 H hK1 hP hD hS => ?_)
  have hK : va_K (dC, dI) cls [(y2, .int)] s := hK1
  have hP : va_P (dC, dI) cls [(h_rd, .inr (4, [.null, .int 0, .int 0, .int 0, .null, .null, .int 0, .int 0, .int 0, .int 0, .long 0])), (q1, .inl (y2, 600, .inl (fun _ => 0)))] H := hP
  have hD : va_D A [(h_rd, .inr (4, [.null, .int 0, .int 0, .int 0, .null, .null, .int 0, .int 0, .int 0, .int 0, .long 0])), (q1, .inl (y2, 600, .inl (fun _ => 0)))] := hD
  refine va_putF (D := (dC, dI)) (ci := 4) (v := .ref q1) (ty := tyX5 0) (C := RX5) (T := TX5) (N := 11) hx hb hw iwX5 tyX5 tyX5_ok nmX5 hown hK hP hD hS 0 rfl rfl 0 (by decide) (hw _ w_f_X5_9) (fun _ h9 => h9) rfl hin rfl (tyX5_ok 0 (by decide)) rfl rfl (Nat.le_of_ble_eq_true rfl) dX5_init_10 (fun H locs hP hD hS => ?_)
  have hP : va_P (dC, dI) cls [(h_rd, .inr (4, [.ref q1, .int 0, .int 0, .int 0, .null, .null, .int 0, .int 0, .int 0, .int 0, .long 0])), (q1, .inl (y2, 600, .inl (fun _ => 0)))] H := hP
  have hD : va_D A [(h_rd, .inr (4, [.ref q1, .int 0, .int 0, .int 0, .null, .null, .int 0, .int 0, .int 0, .int 0, .long 0])), (q1, .inl (y2, 600, .inl (fun _ => 0)))] := hD
  refine lv_aload_n hx hb dX5_init_13 rfl (lv_at hl 0 rfl) ?_
  refine lv_iconst (v := (-1)) hx hb dX5_init_14 (by decide) ?_
  refine va_put (D := (dC, dI)) (ci := 4) (v := .int (-1)) (ty := tyX5 3) (C := RX5) (T := TX5) (N := 11) hx hb hw iwX5 tyX5 tyX5_ok nmX5 hown hK hP hD hS 0 rfl rfl 3 (by decide) (hw _ w_f_X5_15) (fun _ h9 => h9) rfl (tyX5_ok 3 (by decide)) rfl rfl (Nat.le_of_ble_eq_true rfl) dX5_init_15 (fun H locs hP hD hS => ?_)
  have hP : va_P (dC, dI) cls [(h_rd, .inr (4, [.ref q1, .int 0, .int 0, .int (-1), .null, .null, .int 0, .int 0, .int 0, .int 0, .long 0])), (q1, .inl (y2, 600, .inl (fun _ => 0)))] H := hP
  have hD : va_D A [(h_rd, .inr (4, [.ref q1, .int 0, .int 0, .int (-1), .null, .null, .int 0, .int 0, .int 0, .int 0, .long 0])), (q1, .inl (y2, 600, .inl (fun _ => 0)))] := hD
  refine lv_aload_n hx hb dX5_init_18 rfl (lv_at hl 0 rfl) ?_
  refine lv_bipush (v := 8) hx hb dX5_init_19 (by decide) ?_
  refine va_newa (atype := .int) (n := 8) (N' := 8) (a0 := (8, .inl (fun _ => 0))) hx hb (hw _ w_arr_int) rfl hK hP hD hS hA (fun _ => rfl) (by decide) (by decide) (by decide) (Nat.le_of_ble_eq_true rfl) (Nat.le_of_ble_eq_true rfl) dX5_init_21 (fun q3 y4 H hK1 hP hD hS => ?_)
  have hP : va_P (dC, dI) cls [(h_rd, .inr (4, [.ref q1, .int 0, .int 0, .int (-1), .null, .null, .int 0, .int 0, .int 0, .int 0, .long 0])), (q1, .inl (y2, 600, .inl (fun _ => 0)))] H := hP.sub [0, 1] rfl
  have hD : va_D A [(h_rd, .inr (4, [.ref q1, .int 0, .int 0, .int (-1), .null, .null, .int 0, .int 0, .int 0, .int 0, .long 0])), (q1, .inl (y2, 600, .inl (fun _ => 0)))] := hD.sub [0, 1] (by decide) rfl
  refine va_putF (D := (dC, dI)) (ci := 4) (v := .ref q3) (ty := tyX5 5) (C := RX5) (T := TX5) (N := 11) hx hb hw iwX5 tyX5 tyX5_ok nmX5 hown hK hP hD hS 0 rfl rfl 5 (by decide) (hw _ w_f_X5_19) (fun _ h9 => h9) rfl hin rfl (tyX5_ok 5 (by decide)) rfl rfl (Nat.le_of_ble_eq_true rfl) dX5_init_23 (fun H locs hP hD hS => ?_)
  have hP : va_P (dC, dI) cls [(h_rd, .inr (4, [.ref q1, .int 0, .int 0, .int (-1), .null, .ref q3, .int 0, .int 0, .int 0, .int 0, .long 0])), (q1, .inl (y2, 600, .inl (fun _ => 0)))] H := hP
  have hD : va_D A [(h_rd, .inr (4, [.ref q1, .int 0, .int 0, .int (-1), .null, .ref q3, .int 0, .int 0, .int 0, .int 0, .long 0])), (q1, .inl (y2, 600, .inl (fun _ => 0)))] := hD
  refine W.widen (k := 2) (n := 608) (Nat.le_of_ble_eq_true rfl) (Nat.le_of_ble_eq_true rfl) ?_
  have hK9 := hK.sub (tys' := [(y2, .int)]) [0] rfl
  exact W.vret hx hb hr (fun t ht hW => ⟨⟨((fun k => List.getD [.ref q1, .int 0, .int 0, .int (-1), .null, .ref q3, .int 0, .int 0, .int 0, .int 0, .long 0] k .null), q1, y2), rfl, trivial, by rw [ht]; exact hP, va_K.moved hW.alike hK9, hD⟩, hS.F ht⟩) hS.2.2 dX5_init_26

set_option maxHeartbeats 4000000 in
set_option maxRecDepth 100000 in
theorem c_X8_init (l : Launch) (dC : Nat → ClassId) (dI : Nat → Nat → Nat) (sz : Nat) (h_td : Nat) : Met l yX8_init (Ws yX8_init cX8_init 1 none) ({ frames := 1, cells := 8, slots := 1944, locals := 24 }) (PRE (dC, dI) cls [] [(h_td, .inr (5, [.null, .null, .null, .null, .int 0, .null, .null, .null, .null, .int 0]))] sz [.ref h_td]) (va_Qv (fun (_ : (Nat → Value)) => True) (fun (u : (Nat → Value)) (t : State) => va_P (dC, dI) cls [(h_td, .inr (5, [(u 0), (u 1), (u 2), (u 3), .int 0, (u 5), (u 6), (u 7), (u 8), .int 0]))] t.heap ∧ va_K (dC, dI) cls [] t ∧ va_D (va_A [(h_td, .inr (5, [.null, .null, .null, .null, .int 0, .null, .null, .null, .null, .int 0]))] sz) [(h_td, .inr (5, [(u 0), (u 1), (u 2), (u 3), .int 0, (u 5), (u 6), (u 7), (u 8), .int 0]))]) (va_A [(h_td, .inr (5, [.null, .null, .null, .null, .int 0, .null, .null, .null, .null, .int 0]))] sz)) 8 1944 (va_A [(h_td, .inr (5, [.null, .null, .null, .null, .int 0, .null, .null, .null, .null, .int 0]))] sz) := by
  refine Met.ofW (cc := cX8_init) (maxL := 1) (ret := none) (by decide) rfl ?_
  intro p e s m args below meth c s₁ B hml hv
  obtain ⟨rfl, hsz, hP, hK, hD0, hN⟩ := hv
  have hx := B.exec
  have hb := B.bytes
  have hr := B.returns
  have hts := atoms_spec (ws := Ws yX8_init cX8_init 1 none) B.pre
  have hT : ∀ w ∈ WALL, w ∈ Ws yX8_init cX8_init 1 none := fun w h => List.mem_cons_of_mem _ h
  have hw := fun w (h : w ∈ WALL) => hts w (hT w h)
  have hown : s.vm.findClass RX8 = some m.cls := findClass_of_methodNamed B.named
  have hlocks := B.notSynchronized
  have hin : meth.name = "<init>" := (name_of_methodNamed B.named B.method).1
  subst hsz
  have hD := hD0.self (sz := s.heap.size)
  generalize hAe : va_A [(h_td, .inr (5, [.null, .null, .null, .null, .int 0, .null, .null, .null, .null, .int 0]))] s.heap.size = A at hD ⊢
  have hA : ∀ q : Nat, s.heap.size ≤ q → A q := fun q h => by rw [← hAe]; exact Or.inr h
  have hS : va_S A s.heap s.heap [] := va_S.rf
  have hl := lv_entry ([.ref h_td]) (n := 1) (Nat.le_of_ble_eq_true rfl)
  rw [lg_entry_eq]
  generalize (lg_sl ([.ref h_td]) ++ List.replicate (1 - (lg_sl ([.ref h_td])).length) Slot.unset).toArray = ls at hl ⊢
  have hl : lv_has ls 1 [(0, .ref h_td)] := hl
  refine lv_aload_n hx hb dX8_init_0 rfl (lv_at hl 0 rfl) ?_
  refine W.objInit hx hb hown (hw _ w_m_X8_3) (hw _ w_instanceMethod_objInit) (hw _ w_code_objInit) rfl (by rw [hml]; exact hl.1) rfl dX8_init_1 (Nat.le_of_ble_eq_true rfl) (Nat.le_of_ble_eq_true rfl) ?_
  refine W.eq (g2 := F0 m 4 ls []) rfl ?_
  refine lv_aload_n hx hb dX8_init_4 rfl (lv_at hl 0 rfl) ?_
  refine lv_sipush (v := 300) hx hb dX8_init_5 (by decide) ?_
  refine va_newa (atype := .long) (n := 300) (N' := 300) (a0 := (300, .inr (.inl (fun _ => 0)))) hx hb (hw _ w_arr_long) rfl hK hP hD hS hA (fun _ => rfl) (by decide) (by decide) (by decide) (Nat.le_of_ble_eq_true rfl) (Nat.le_of_ble_eq_true rfl) dX8_init_8 (fun q1 y2 H hK1 hP hD hS => ?_)
  have hP : va_P (dC, dI) cls [(h_td, .inr (5, [.null, .null, .null, .null, .int 0, .null, .null, .null, .null, .int 0]))] H := hP.sub [0] rfl
  have hD : va_D A [(h_td, .inr (5, [.null, .null, .null, .null, .int 0, .null, .null, .null, .null, .int 0]))] := hD.sub [0] (by decide) rfl
  refine va_putF (D := (dC, dI)) (ci := 5) (v := .ref q1) (ty := tyX8 0) (C := RX8) (T := TX8) (N := 10) hx hb hw iwX8 tyX8 tyX8_ok nmX8 hown hK hP hD hS 0 rfl rfl 0 (by decide) (hw _ w_f_X8_9) (fun _ h9 => h9) rfl hin rfl (tyX8_ok 0 (by decide)) rfl rfl (Nat.le_of_ble_eq_true rfl) dX8_init_10 (fun H locs hP hD hS => ?_)
  have hP : va_P (dC, dI) cls [(h_td, .inr (5, [.ref q1, .null, .null, .null, .int 0, .null, .null, .null, .null, .int 0]))] H := hP
  have hD : va_D A [(h_td, .inr (5, [.ref q1, .null, .null, .null, .int 0, .null, .null, .null, .null, .int 0]))] := hD
  refine lv_aload_n hx hb dX8_init_13 rfl (lv_at hl 0 rfl) ?_
  refine lv_sipush (v := 300) hx hb dX8_init_14 (by decide) ?_
  refine va_newa (atype := .int) (n := 300) (N' := 300) (a0 := (300, .inl (fun _ => 0))) hx hb (hw _ w_arr_int) rfl hK hP hD hS hA (fun _ => rfl) (by decide) (by decide) (by decide) (Nat.le_of_ble_eq_true rfl) (Nat.le_of_ble_eq_true rfl) dX8_init_17 (fun q3 y4 H hK1 hP hD hS => ?_)
  have hP : va_P (dC, dI) cls [(h_td, .inr (5, [.ref q1, .null, .null, .null, .int 0, .null, .null, .null, .null, .int 0]))] H := hP.sub [0] rfl
  have hD : va_D A [(h_td, .inr (5, [.ref q1, .null, .null, .null, .int 0, .null, .null, .null, .null, .int 0]))] := hD.sub [0] (by decide) rfl
  refine va_putF (D := (dC, dI)) (ci := 5) (v := .ref q3) (ty := tyX8 1) (C := RX8) (T := TX8) (N := 10) hx hb hw iwX8 tyX8 tyX8_ok nmX8 hown hK hP hD hS 0 rfl rfl 1 (by decide) (hw _ w_f_X8_15) (fun _ h9 => h9) rfl hin rfl (tyX8_ok 1 (by decide)) rfl rfl (Nat.le_of_ble_eq_true rfl) dX8_init_19 (fun H locs hP hD hS => ?_)
  have hP : va_P (dC, dI) cls [(h_td, .inr (5, [.ref q1, .ref q3, .null, .null, .int 0, .null, .null, .null, .null, .int 0]))] H := hP
  have hD : va_D A [(h_td, .inr (5, [.ref q1, .ref q3, .null, .null, .int 0, .null, .null, .null, .null, .int 0]))] := hD
  refine lv_aload_n hx hb dX8_init_22 rfl (lv_at hl 0 rfl) ?_
  refine lv_sipush (v := 300) hx hb dX8_init_23 (by decide) ?_
  refine va_newa (atype := .int) (n := 300) (N' := 300) (a0 := (300, .inl (fun _ => 0))) hx hb (hw _ w_arr_int) rfl hK hP hD hS hA (fun _ => rfl) (by decide) (by decide) (by decide) (Nat.le_of_ble_eq_true rfl) (Nat.le_of_ble_eq_true rfl) dX8_init_26 (fun q5 y6 H hK1 hP hD hS => ?_)
  have hP : va_P (dC, dI) cls [(h_td, .inr (5, [.ref q1, .ref q3, .null, .null, .int 0, .null, .null, .null, .null, .int 0]))] H := hP.sub [0] rfl
  have hD : va_D A [(h_td, .inr (5, [.ref q1, .ref q3, .null, .null, .int 0, .null, .null, .null, .null, .int 0]))] := hD.sub [0] (by decide) rfl
  refine va_putF (D := (dC, dI)) (ci := 5) (v := .ref q5) (ty := tyX8 2) (C := RX8) (T := TX8) (N := 10) hx hb hw iwX8 tyX8 tyX8_ok nmX8 hown hK hP hD hS 0 rfl rfl 2 (by decide) (hw _ w_f_X8_19) (fun _ h9 => h9) rfl hin rfl (tyX8_ok 2 (by decide)) rfl rfl (Nat.le_of_ble_eq_true rfl) dX8_init_28 (fun H locs hP hD hS => ?_)
  have hP : va_P (dC, dI) cls [(h_td, .inr (5, [.ref q1, .ref q3, .ref q5, .null, .int 0, .null, .null, .null, .null, .int 0]))] H := hP
  have hD : va_D A [(h_td, .inr (5, [.ref q1, .ref q3, .ref q5, .null, .int 0, .null, .null, .null, .null, .int 0]))] := hD
  refine lv_aload_n hx hb dX8_init_31 rfl (lv_at hl 0 rfl) ?_
  refine lv_sipush (v := 900) hx hb dX8_init_32 (by decide) ?_
  refine va_newa (atype := .int) (n := 900) (N' := 900) (a0 := (900, .inl (fun _ => 0))) hx hb (hw _ w_arr_int) rfl hK hP hD hS hA (fun _ => rfl) (by decide) (by decide) (by decide) (Nat.le_of_ble_eq_true rfl) (Nat.le_of_ble_eq_true rfl) dX8_init_35 (fun q7 y8 H hK1 hP hD hS => ?_)
  have hP : va_P (dC, dI) cls [(h_td, .inr (5, [.ref q1, .ref q3, .ref q5, .null, .int 0, .null, .null, .null, .null, .int 0]))] H := hP.sub [0] rfl
  have hD : va_D A [(h_td, .inr (5, [.ref q1, .ref q3, .ref q5, .null, .int 0, .null, .null, .null, .null, .int 0]))] := hD.sub [0] (by decide) rfl
  refine va_putF (D := (dC, dI)) (ci := 5) (v := .ref q7) (ty := tyX8 3) (C := RX8) (T := TX8) (N := 10) hx hb hw iwX8 tyX8 tyX8_ok nmX8 hown hK hP hD hS 0 rfl rfl 3 (by decide) (hw _ w_f_X8_22) (fun _ h9 => h9) rfl hin rfl (tyX8_ok 3 (by decide)) rfl rfl (Nat.le_of_ble_eq_true rfl) dX8_init_37 (fun H locs hP hD hS => ?_)
  have hP : va_P (dC, dI) cls [(h_td, .inr (5, [.ref q1, .ref q3, .ref q5, .ref q7, .int 0, .null, .null, .null, .null, .int 0]))] H := hP
  have hD : va_D A [(h_td, .inr (5, [.ref q1, .ref q3, .ref q5, .ref q7, .int 0, .null, .null, .null, .null, .int 0]))] := hD
  refine lv_aload_n hx hb dX8_init_40 rfl (lv_at hl 0 rfl) ?_
  refine lv_bipush (v := 16) hx hb dX8_init_41 (by decide) ?_
  refine va_newa (atype := .int) (n := 16) (N' := 16) (a0 := (16, .inl (fun _ => 0))) hx hb (hw _ w_arr_int) rfl hK hP hD hS hA (fun _ => rfl) (by decide) (by decide) (by decide) (Nat.le_of_ble_eq_true rfl) (Nat.le_of_ble_eq_true rfl) dX8_init_43 (fun q9 y10 H hK1 hP hD hS => ?_)
  have hP : va_P (dC, dI) cls [(h_td, .inr (5, [.ref q1, .ref q3, .ref q5, .ref q7, .int 0, .null, .null, .null, .null, .int 0]))] H := hP.sub [0] rfl
  have hD : va_D A [(h_td, .inr (5, [.ref q1, .ref q3, .ref q5, .ref q7, .int 0, .null, .null, .null, .null, .int 0]))] := hD.sub [0] (by decide) rfl
  refine va_putF (D := (dC, dI)) (ci := 5) (v := .ref q9) (ty := tyX8 5) (C := RX8) (T := TX8) (N := 10) hx hb hw iwX8 tyX8 tyX8_ok nmX8 hown hK hP hD hS 0 rfl rfl 5 (by decide) (hw _ w_f_X8_25) (fun _ h9 => h9) rfl hin rfl (tyX8_ok 5 (by decide)) rfl rfl (Nat.le_of_ble_eq_true rfl) dX8_init_45 (fun H locs hP hD hS => ?_)
  have hP : va_P (dC, dI) cls [(h_td, .inr (5, [.ref q1, .ref q3, .ref q5, .ref q7, .int 0, .ref q9, .null, .null, .null, .int 0]))] H := hP
  have hD : va_D A [(h_td, .inr (5, [.ref q1, .ref q3, .ref q5, .ref q7, .int 0, .ref q9, .null, .null, .null, .int 0]))] := hD
  refine lv_aload_n hx hb dX8_init_48 rfl (lv_at hl 0 rfl) ?_
  refine lv_bipush (v := 16) hx hb dX8_init_49 (by decide) ?_
  refine va_newa (atype := .int) (n := 16) (N' := 16) (a0 := (16, .inl (fun _ => 0))) hx hb (hw _ w_arr_int) rfl hK hP hD hS hA (fun _ => rfl) (by decide) (by decide) (by decide) (Nat.le_of_ble_eq_true rfl) (Nat.le_of_ble_eq_true rfl) dX8_init_51 (fun q11 y12 H hK1 hP hD hS => ?_)
  have hP : va_P (dC, dI) cls [(h_td, .inr (5, [.ref q1, .ref q3, .ref q5, .ref q7, .int 0, .ref q9, .null, .null, .null, .int 0]))] H := hP.sub [0] rfl
  have hD : va_D A [(h_td, .inr (5, [.ref q1, .ref q3, .ref q5, .ref q7, .int 0, .ref q9, .null, .null, .null, .int 0]))] := hD.sub [0] (by decide) rfl
  refine va_putF (D := (dC, dI)) (ci := 5) (v := .ref q11) (ty := tyX8 6) (C := RX8) (T := TX8) (N := 10) hx hb hw iwX8 tyX8 tyX8_ok nmX8 hown hK hP hD hS 0 rfl rfl 6 (by decide) (hw _ w_f_X8_28) (fun _ h9 => h9) rfl hin rfl (tyX8_ok 6 (by decide)) rfl rfl (Nat.le_of_ble_eq_true rfl) dX8_init_53 (fun H locs hP hD hS => ?_)
  have hP : va_P (dC, dI) cls [(h_td, .inr (5, [.ref q1, .ref q3, .ref q5, .ref q7, .int 0, .ref q9, .ref q11, .null, .null, .int 0]))] H := hP
  have hD : va_D A [(h_td, .inr (5, [.ref q1, .ref q3, .ref q5, .ref q7, .int 0, .ref q9, .ref q11, .null, .null, .int 0]))] := hD
  refine lv_aload_n hx hb dX8_init_56 rfl (lv_at hl 0 rfl) ?_
  refine lv_bipush (v := 16) hx hb dX8_init_57 (by decide) ?_
  refine va_newa (atype := .int) (n := 16) (N' := 16) (a0 := (16, .inl (fun _ => 0))) hx hb (hw _ w_arr_int) rfl hK hP hD hS hA (fun _ => rfl) (by decide) (by decide) (by decide) (Nat.le_of_ble_eq_true rfl) (Nat.le_of_ble_eq_true rfl) dX8_init_59 (fun q13 y14 H hK1 hP hD hS => ?_)
  have hP : va_P (dC, dI) cls [(h_td, .inr (5, [.ref q1, .ref q3, .ref q5, .ref q7, .int 0, .ref q9, .ref q11, .null, .null, .int 0]))] H := hP.sub [0] rfl
  have hD : va_D A [(h_td, .inr (5, [.ref q1, .ref q3, .ref q5, .ref q7, .int 0, .ref q9, .ref q11, .null, .null, .int 0]))] := hD.sub [0] (by decide) rfl
  refine va_putF (D := (dC, dI)) (ci := 5) (v := .ref q13) (ty := tyX8 7) (C := RX8) (T := TX8) (N := 10) hx hb hw iwX8 tyX8 tyX8_ok nmX8 hown hK hP hD hS 0 rfl rfl 7 (by decide) (hw _ w_f_X8_31) (fun _ h9 => h9) rfl hin rfl (tyX8_ok 7 (by decide)) rfl rfl (Nat.le_of_ble_eq_true rfl) dX8_init_61 (fun H locs hP hD hS => ?_)
  have hP : va_P (dC, dI) cls [(h_td, .inr (5, [.ref q1, .ref q3, .ref q5, .ref q7, .int 0, .ref q9, .ref q11, .ref q13, .null, .int 0]))] H := hP
  have hD : va_D A [(h_td, .inr (5, [.ref q1, .ref q3, .ref q5, .ref q7, .int 0, .ref q9, .ref q11, .ref q13, .null, .int 0]))] := hD
  refine lv_aload_n hx hb dX8_init_64 rfl (lv_at hl 0 rfl) ?_
  refine lv_bipush (v := 96) hx hb dX8_init_65 (by decide) ?_
  refine va_newa (atype := .int) (n := 96) (N' := 96) (a0 := (96, .inl (fun _ => 0))) hx hb (hw _ w_arr_int) rfl hK hP hD hS hA (fun _ => rfl) (by decide) (by decide) (by decide) (Nat.le_of_ble_eq_true rfl) (Nat.le_of_ble_eq_true rfl) dX8_init_67 (fun q15 y16 H hK1 hP hD hS => ?_)
  have hP : va_P (dC, dI) cls [(h_td, .inr (5, [.ref q1, .ref q3, .ref q5, .ref q7, .int 0, .ref q9, .ref q11, .ref q13, .null, .int 0]))] H := hP.sub [0] rfl
  have hD : va_D A [(h_td, .inr (5, [.ref q1, .ref q3, .ref q5, .ref q7, .int 0, .ref q9, .ref q11, .ref q13, .null, .int 0]))] := hD.sub [0] (by decide) rfl
  refine va_putF (D := (dC, dI)) (ci := 5) (v := .ref q15) (ty := tyX8 8) (C := RX8) (T := TX8) (N := 10) hx hb hw iwX8 tyX8 tyX8_ok nmX8 hown hK hP hD hS 0 rfl rfl 8 (by decide) (hw _ w_f_X8_34) (fun _ h9 => h9) rfl hin rfl (tyX8_ok 8 (by decide)) rfl rfl (Nat.le_of_ble_eq_true rfl) dX8_init_69 (fun H locs hP hD hS => ?_)
  have hP : va_P (dC, dI) cls [(h_td, .inr (5, [.ref q1, .ref q3, .ref q5, .ref q7, .int 0, .ref q9, .ref q11, .ref q13, .ref q15, .int 0]))] H := hP
  have hD : va_D A [(h_td, .inr (5, [.ref q1, .ref q3, .ref q5, .ref q7, .int 0, .ref q9, .ref q11, .ref q13, .ref q15, .int 0]))] := hD
  refine W.widen (k := 8) (n := 1944) (Nat.le_of_ble_eq_true rfl) (Nat.le_of_ble_eq_true rfl) ?_
  have hK9 := hK.sub (tys' := []) [] rfl
  exact W.vret hx hb hr (fun t ht hW => ⟨⟨(fun k => List.getD [.ref q1, .ref q3, .ref q5, .ref q7, .int 0, .ref q9, .ref q11, .ref q13, .ref q15, .int 0] k .null), rfl, trivial, by rw [ht]; exact hP, va_K.moved hW.alike hK9, hD⟩, hS.F ht⟩) hS.2.2 dX8_init_72

set_option maxHeartbeats 4000000 in
set_option maxRecDepth 100000 in
theorem c_X1_init (l : Launch) (dC : Nat → ClassId) (dI : Nat → Nat → Nat) (sz : Nat) (h_bd : Nat) (p1 : Nat) : Met l yX1_init (Ws yX1_init cX1_init 2 none) ({ frames := 1, cells := 8, slots := 17536, locals := 24 }) (PRE (dC, dI) cls [] [(h_bd, .inr (1, [.null, .null, .null, .int 0, .null, .null, .int 0, .null, .null, .int 0, .null, .null, .int 0]))] sz [.ref h_bd, .ref p1]) (va_Qv (fun (_ : (Nat → Value)) => True) (fun (u : (Nat → Value)) (t : State) => va_P (dC, dI) cls [(h_bd, .inr (1, [.ref p1, (u 1), (u 2), .int 0, (u 4), (u 5), .int 0, (u 7), (u 8), .int 0, (u 10), (u 11), .int 0]))] t.heap ∧ va_K (dC, dI) cls [] t ∧ va_D (va_A [(h_bd, .inr (1, [.null, .null, .null, .int 0, .null, .null, .int 0, .null, .null, .int 0, .null, .null, .int 0]))] sz) [(h_bd, .inr (1, [.ref p1, (u 1), (u 2), .int 0, (u 4), (u 5), .int 0, (u 7), (u 8), .int 0, (u 10), (u 11), .int 0]))]) (va_A [(h_bd, .inr (1, [.null, .null, .null, .int 0, .null, .null, .int 0, .null, .null, .int 0, .null, .null, .int 0]))] sz)) 8 17536 (va_A [(h_bd, .inr (1, [.null, .null, .null, .int 0, .null, .null, .int 0, .null, .null, .int 0, .null, .null, .int 0]))] sz) := by
  refine Met.ofW (cc := cX1_init) (maxL := 2) (ret := none) (by decide) rfl ?_
  intro p e s m args below meth c s₁ B hml hv
  obtain ⟨rfl, hsz, hP, hK, hD0, hN⟩ := hv
  have hx := B.exec
  have hb := B.bytes
  have hr := B.returns
  have hts := atoms_spec (ws := Ws yX1_init cX1_init 2 none) B.pre
  have hT : ∀ w ∈ WALL, w ∈ Ws yX1_init cX1_init 2 none := fun w h => List.mem_cons_of_mem _ h
  have hw := fun w (h : w ∈ WALL) => hts w (hT w h)
  have hown : s.vm.findClass RX1 = some m.cls := findClass_of_methodNamed B.named
  have hlocks := B.notSynchronized
  have hin : meth.name = "<init>" := (name_of_methodNamed B.named B.method).1
  subst hsz
  have hD := hD0.self (sz := s.heap.size)
  generalize hAe : va_A [(h_bd, .inr (1, [.null, .null, .null, .int 0, .null, .null, .int 0, .null, .null, .int 0, .null, .null, .int 0]))] s.heap.size = A at hD ⊢
  have hA : ∀ q : Nat, s.heap.size ≤ q → A q := fun q h => by rw [← hAe]; exact Or.inr h
  have hS : va_S A s.heap s.heap [] := va_S.rf
  have hl := lv_entry ([.ref h_bd, .ref p1]) (n := 2) (Nat.le_of_ble_eq_true rfl)
  rw [lg_entry_eq]
  generalize (lg_sl ([.ref h_bd, .ref p1]) ++ List.replicate (2 - (lg_sl ([.ref h_bd, .ref p1])).length) Slot.unset).toArray = ls at hl ⊢
  have hl : lv_has ls 2 [(0, .ref h_bd), (1, .ref p1)] := hl
  refine lv_aload_n hx hb dX1_init_0 rfl (lv_at hl 0 rfl) ?_
  refine W.objInit hx hb hown (hw _ w_m_X1_3) (hw _ w_instanceMethod_objInit) (hw _ w_code_objInit) rfl (by rw [hml]; exact hl.1) rfl dX1_init_1 (Nat.le_of_ble_eq_true rfl) (Nat.le_of_ble_eq_true rfl) ?_
  refine W.eq (g2 := F0 m 4 ls []) rfl ?_
  refine lv_aload_n hx hb dX1_init_4 rfl (lv_at hl 0 rfl) ?_
  refine lv_sipush (v := 256) hx hb dX1_init_5 (by decide) ?_
  refine va_newa (atype := .int) (n := 256) (N' := 256) (a0 := (256, .inl (fun _ => 0))) hx hb (hw _ w_arr_int) rfl hK hP hD hS hA (fun _ => rfl) (by decide) (by decide) (by decide) (Nat.le_of_ble_eq_true rfl) (Nat.le_of_ble_eq_true rfl) dX1_init_8 (fun q1 y2 H hK1 hP hD hS => ?_)
  have hP : va_P (dC, dI) cls [(h_bd, .inr (1, [.null, .null, .null, .int 0, .null, .null, .int 0, .null, .null, .int 0, .null, .null, .int 0]))] H := hP.sub [0] rfl
  have hD : va_D A [(h_bd, .inr (1, [.null, .null, .null, .int 0, .null, .null, .int 0, .null, .null, .int 0, .null, .null, .int 0]))] := hD.sub [0] (by decide) rfl
  refine va_putF (D := (dC, dI)) (ci := 1) (v := .ref q1) (ty := tyX1 1) (C := RX1) (T := TX1) (N := 13) hx hb hw iwX1 tyX1 tyX1_ok nmX1 hown hK hP hD hS 0 rfl rfl 1 (by decide) (hw _ w_f_X1_9) (fun _ h9 => h9) rfl hin rfl (tyX1_ok 1 (by decide)) rfl rfl (Nat.le_of_ble_eq_true rfl) dX1_init_10 (fun H locs hP hD hS => ?_)
  have hP : va_P (dC, dI) cls [(h_bd, .inr (1, [.null, .ref q1, .null, .int 0, .null, .null, .int 0, .null, .null, .int 0, .null, .null, .int 0]))] H := hP
  have hD : va_D A [(h_bd, .inr (1, [.null, .ref q1, .null, .int 0, .null, .null, .int 0, .null, .null, .int 0, .null, .null, .int 0]))] := hD
  refine lv_aload_n hx hb dX1_init_13 rfl (lv_at hl 0 rfl) ?_
  refine lv_sipush (v := 256) hx hb dX1_init_14 (by decide) ?_
  refine va_newa (atype := .int) (n := 256) (N' := 256) (a0 := (256, .inl (fun _ => 0))) hx hb (hw _ w_arr_int) rfl hK hP hD hS hA (fun _ => rfl) (by decide) (by decide) (by decide) (Nat.le_of_ble_eq_true rfl) (Nat.le_of_ble_eq_true rfl) dX1_init_17 (fun q3 y4 H hK1 hP hD hS => ?_)
  have hP : va_P (dC, dI) cls [(h_bd, .inr (1, [.null, .ref q1, .null, .int 0, .null, .null, .int 0, .null, .null, .int 0, .null, .null, .int 0]))] H := hP.sub [0] rfl
  have hD : va_D A [(h_bd, .inr (1, [.null, .ref q1, .null, .int 0, .null, .null, .int 0, .null, .null, .int 0, .null, .null, .int 0]))] := hD.sub [0] (by decide) rfl
  refine va_putF (D := (dC, dI)) (ci := 1) (v := .ref q3) (ty := tyX1 2) (C := RX1) (T := TX1) (N := 13) hx hb hw iwX1 tyX1 tyX1_ok nmX1 hown hK hP hD hS 0 rfl rfl 2 (by decide) (hw _ w_f_X1_15) (fun _ h9 => h9) rfl hin rfl (tyX1_ok 2 (by decide)) rfl rfl (Nat.le_of_ble_eq_true rfl) dX1_init_19 (fun H locs hP hD hS => ?_)
  have hP : va_P (dC, dI) cls [(h_bd, .inr (1, [.null, .ref q1, .ref q3, .int 0, .null, .null, .int 0, .null, .null, .int 0, .null, .null, .int 0]))] H := hP
  have hD : va_D A [(h_bd, .inr (1, [.null, .ref q1, .ref q3, .int 0, .null, .null, .int 0, .null, .null, .int 0, .null, .null, .int 0]))] := hD
  refine lv_aload_n hx hb dX1_init_22 rfl (lv_at hl 0 rfl) ?_
  refine lv_sipush (v := 9600) hx hb dX1_init_23 (by decide) ?_
  refine va_newa (atype := .int) (n := 9600) (N' := 9600) (a0 := (9600, .inl (fun _ => 0))) hx hb (hw _ w_arr_int) rfl hK hP hD hS hA (fun _ => rfl) (by decide) (by decide) (by decide) (Nat.le_of_ble_eq_true rfl) (Nat.le_of_ble_eq_true rfl) dX1_init_26 (fun q5 y6 H hK1 hP hD hS => ?_)
  have hP : va_P (dC, dI) cls [(h_bd, .inr (1, [.null, .ref q1, .ref q3, .int 0, .null, .null, .int 0, .null, .null, .int 0, .null, .null, .int 0]))] H := hP.sub [0] rfl
  have hD : va_D A [(h_bd, .inr (1, [.null, .ref q1, .ref q3, .int 0, .null, .null, .int 0, .null, .null, .int 0, .null, .null, .int 0]))] := hD.sub [0] (by decide) rfl
  refine va_putF (D := (dC, dI)) (ci := 1) (v := .ref q5) (ty := tyX1 4) (C := RX1) (T := TX1) (N := 13) hx hb hw iwX1 tyX1 tyX1_ok nmX1 hown hK hP hD hS 0 rfl rfl 4 (by decide) (hw _ w_f_X1_18) (fun _ h9 => h9) rfl hin rfl (tyX1_ok 4 (by decide)) rfl rfl (Nat.le_of_ble_eq_true rfl) dX1_init_28 (fun H locs hP hD hS => ?_)
  have hP : va_P (dC, dI) cls [(h_bd, .inr (1, [.null, .ref q1, .ref q3, .int 0, .ref q5, .null, .int 0, .null, .null, .int 0, .null, .null, .int 0]))] H := hP
  have hD : va_D A [(h_bd, .inr (1, [.null, .ref q1, .ref q3, .int 0, .ref q5, .null, .int 0, .null, .null, .int 0, .null, .null, .int 0]))] := hD
  refine lv_aload_n hx hb dX1_init_31 rfl (lv_at hl 0 rfl) ?_
  refine lv_sipush (v := 1024) hx hb dX1_init_32 (by decide) ?_
  refine va_newa (atype := .int) (n := 1024) (N' := 1024) (a0 := (1024, .inl (fun _ => 0))) hx hb (hw _ w_arr_int) rfl hK hP hD hS hA (fun _ => rfl) (by decide) (by decide) (by decide) (Nat.le_of_ble_eq_true rfl) (Nat.le_of_ble_eq_true rfl) dX1_init_35 (fun q7 y8 H hK1 hP hD hS => ?_)
  have hP : va_P (dC, dI) cls [(h_bd, .inr (1, [.null, .ref q1, .ref q3, .int 0, .ref q5, .null, .int 0, .null, .null, .int 0, .null, .null, .int 0]))] H := hP.sub [0] rfl
  have hD : va_D A [(h_bd, .inr (1, [.null, .ref q1, .ref q3, .int 0, .ref q5, .null, .int 0, .null, .null, .int 0, .null, .null, .int 0]))] := hD.sub [0] (by decide) rfl
  refine va_putF (D := (dC, dI)) (ci := 1) (v := .ref q7) (ty := tyX1 5) (C := RX1) (T := TX1) (N := 13) hx hb hw iwX1 tyX1 tyX1_ok nmX1 hown hK hP hD hS 0 rfl rfl 5 (by decide) (hw _ w_f_X1_21) (fun _ h9 => h9) rfl hin rfl (tyX1_ok 5 (by decide)) rfl rfl (Nat.le_of_ble_eq_true rfl) dX1_init_37 (fun H locs hP hD hS => ?_)
  have hP : va_P (dC, dI) cls [(h_bd, .inr (1, [.null, .ref q1, .ref q3, .int 0, .ref q5, .ref q7, .int 0, .null, .null, .int 0, .null, .null, .int 0]))] H := hP
  have hD : va_D A [(h_bd, .inr (1, [.null, .ref q1, .ref q3, .int 0, .ref q5, .ref q7, .int 0, .null, .null, .int 0, .null, .null, .int 0]))] := hD
  refine lv_aload_n hx hb dX1_init_40 rfl (lv_at hl 0 rfl) ?_
  refine lv_sipush (v := 2048) hx hb dX1_init_41 (by decide) ?_
  refine va_newa (atype := .int) (n := 2048) (N' := 2048) (a0 := (2048, .inl (fun _ => 0))) hx hb (hw _ w_arr_int) rfl hK hP hD hS hA (fun _ => rfl) (by decide) (by decide) (by decide) (Nat.le_of_ble_eq_true rfl) (Nat.le_of_ble_eq_true rfl) dX1_init_44 (fun q9 y10 H hK1 hP hD hS => ?_)
  have hP : va_P (dC, dI) cls [(h_bd, .inr (1, [.null, .ref q1, .ref q3, .int 0, .ref q5, .ref q7, .int 0, .null, .null, .int 0, .null, .null, .int 0]))] H := hP.sub [0] rfl
  have hD : va_D A [(h_bd, .inr (1, [.null, .ref q1, .ref q3, .int 0, .ref q5, .ref q7, .int 0, .null, .null, .int 0, .null, .null, .int 0]))] := hD.sub [0] (by decide) rfl
  refine va_putF (D := (dC, dI)) (ci := 1) (v := .ref q9) (ty := tyX1 7) (C := RX1) (T := TX1) (N := 13) hx hb hw iwX1 tyX1 tyX1_ok nmX1 hown hK hP hD hS 0 rfl rfl 7 (by decide) (hw _ w_f_X1_24) (fun _ h9 => h9) rfl hin rfl (tyX1_ok 7 (by decide)) rfl rfl (Nat.le_of_ble_eq_true rfl) dX1_init_46 (fun H locs hP hD hS => ?_)
  have hP : va_P (dC, dI) cls [(h_bd, .inr (1, [.null, .ref q1, .ref q3, .int 0, .ref q5, .ref q7, .int 0, .ref q9, .null, .int 0, .null, .null, .int 0]))] H := hP
  have hD : va_D A [(h_bd, .inr (1, [.null, .ref q1, .ref q3, .int 0, .ref q5, .ref q7, .int 0, .ref q9, .null, .int 0, .null, .null, .int 0]))] := hD
  refine lv_aload_n hx hb dX1_init_49 rfl (lv_at hl 0 rfl) ?_
  refine lv_sipush (v := 2048) hx hb dX1_init_50 (by decide) ?_
  refine va_newa (atype := .int) (n := 2048) (N' := 2048) (a0 := (2048, .inl (fun _ => 0))) hx hb (hw _ w_arr_int) rfl hK hP hD hS hA (fun _ => rfl) (by decide) (by decide) (by decide) (Nat.le_of_ble_eq_true rfl) (Nat.le_of_ble_eq_true rfl) dX1_init_53 (fun q11 y12 H hK1 hP hD hS => ?_)
  have hP : va_P (dC, dI) cls [(h_bd, .inr (1, [.null, .ref q1, .ref q3, .int 0, .ref q5, .ref q7, .int 0, .ref q9, .null, .int 0, .null, .null, .int 0]))] H := hP.sub [0] rfl
  have hD : va_D A [(h_bd, .inr (1, [.null, .ref q1, .ref q3, .int 0, .ref q5, .ref q7, .int 0, .ref q9, .null, .int 0, .null, .null, .int 0]))] := hD.sub [0] (by decide) rfl
  refine va_putF (D := (dC, dI)) (ci := 1) (v := .ref q11) (ty := tyX1 8) (C := RX1) (T := TX1) (N := 13) hx hb hw iwX1 tyX1 tyX1_ok nmX1 hown hK hP hD hS 0 rfl rfl 8 (by decide) (hw _ w_f_X1_27) (fun _ h9 => h9) rfl hin rfl (tyX1_ok 8 (by decide)) rfl rfl (Nat.le_of_ble_eq_true rfl) dX1_init_55 (fun H locs hP hD hS => ?_)
  have hP : va_P (dC, dI) cls [(h_bd, .inr (1, [.null, .ref q1, .ref q3, .int 0, .ref q5, .ref q7, .int 0, .ref q9, .ref q11, .int 0, .null, .null, .int 0]))] H := hP
  have hD : va_D A [(h_bd, .inr (1, [.null, .ref q1, .ref q3, .int 0, .ref q5, .ref q7, .int 0, .ref q9, .ref q11, .int 0, .null, .null, .int 0]))] := hD
  refine lv_aload_n hx hb dX1_init_58 rfl (lv_at hl 0 rfl) ?_
  refine lv_sipush (v := 2048) hx hb dX1_init_59 (by decide) ?_
  refine va_newa (atype := .int) (n := 2048) (N' := 2048) (a0 := (2048, .inl (fun _ => 0))) hx hb (hw _ w_arr_int) rfl hK hP hD hS hA (fun _ => rfl) (by decide) (by decide) (by decide) (Nat.le_of_ble_eq_true rfl) (Nat.le_of_ble_eq_true rfl) dX1_init_62 (fun q13 y14 H hK1 hP hD hS => ?_)
  have hP : va_P (dC, dI) cls [(h_bd, .inr (1, [.null, .ref q1, .ref q3, .int 0, .ref q5, .ref q7, .int 0, .ref q9, .ref q11, .int 0, .null, .null, .int 0]))] H := hP.sub [0] rfl
  have hD : va_D A [(h_bd, .inr (1, [.null, .ref q1, .ref q3, .int 0, .ref q5, .ref q7, .int 0, .ref q9, .ref q11, .int 0, .null, .null, .int 0]))] := hD.sub [0] (by decide) rfl
  refine va_putF (D := (dC, dI)) (ci := 1) (v := .ref q13) (ty := tyX1 10) (C := RX1) (T := TX1) (N := 13) hx hb hw iwX1 tyX1 tyX1_ok nmX1 hown hK hP hD hS 0 rfl rfl 10 (by decide) (hw _ w_f_X1_30) (fun _ h9 => h9) rfl hin rfl (tyX1_ok 10 (by decide)) rfl rfl (Nat.le_of_ble_eq_true rfl) dX1_init_64 (fun H locs hP hD hS => ?_)
  have hP : va_P (dC, dI) cls [(h_bd, .inr (1, [.null, .ref q1, .ref q3, .int 0, .ref q5, .ref q7, .int 0, .ref q9, .ref q11, .int 0, .ref q13, .null, .int 0]))] H := hP
  have hD : va_D A [(h_bd, .inr (1, [.null, .ref q1, .ref q3, .int 0, .ref q5, .ref q7, .int 0, .ref q9, .ref q11, .int 0, .ref q13, .null, .int 0]))] := hD
  refine lv_aload_n hx hb dX1_init_67 rfl (lv_at hl 0 rfl) ?_
  refine lv_sipush (v := 256) hx hb dX1_init_68 (by decide) ?_
  refine va_newa (atype := .int) (n := 256) (N' := 256) (a0 := (256, .inl (fun _ => 0))) hx hb (hw _ w_arr_int) rfl hK hP hD hS hA (fun _ => rfl) (by decide) (by decide) (by decide) (Nat.le_of_ble_eq_true rfl) (Nat.le_of_ble_eq_true rfl) dX1_init_71 (fun q15 y16 H hK1 hP hD hS => ?_)
  have hP : va_P (dC, dI) cls [(h_bd, .inr (1, [.null, .ref q1, .ref q3, .int 0, .ref q5, .ref q7, .int 0, .ref q9, .ref q11, .int 0, .ref q13, .null, .int 0]))] H := hP.sub [0] rfl
  have hD : va_D A [(h_bd, .inr (1, [.null, .ref q1, .ref q3, .int 0, .ref q5, .ref q7, .int 0, .ref q9, .ref q11, .int 0, .ref q13, .null, .int 0]))] := hD.sub [0] (by decide) rfl
  refine va_putF (D := (dC, dI)) (ci := 1) (v := .ref q15) (ty := tyX1 11) (C := RX1) (T := TX1) (N := 13) hx hb hw iwX1 tyX1 tyX1_ok nmX1 hown hK hP hD hS 0 rfl rfl 11 (by decide) (hw _ w_f_X1_33) (fun _ h9 => h9) rfl hin rfl (tyX1_ok 11 (by decide)) rfl rfl (Nat.le_of_ble_eq_true rfl) dX1_init_73 (fun H locs hP hD hS => ?_)
  have hP : va_P (dC, dI) cls [(h_bd, .inr (1, [.null, .ref q1, .ref q3, .int 0, .ref q5, .ref q7, .int 0, .ref q9, .ref q11, .int 0, .ref q13, .ref q15, .int 0]))] H := hP
  have hD : va_D A [(h_bd, .inr (1, [.null, .ref q1, .ref q3, .int 0, .ref q5, .ref q7, .int 0, .ref q9, .ref q11, .int 0, .ref q13, .ref q15, .int 0]))] := hD
  refine lv_aload_n hx hb dX1_init_76 rfl (lv_at hl 0 rfl) ?_
  refine lv_aload_n hx hb dX1_init_77 rfl (lv_at hl 1 rfl) ?_
  refine va_putF (D := (dC, dI)) (ci := 1) (v := .ref p1) (ty := tyX1 0) (C := RX1) (T := TX1) (N := 13) hx hb hw iwX1 tyX1 tyX1_ok nmX1 hown hK hP hD hS 0 rfl rfl 0 (by decide) (hw _ w_f_X1_36) (fun _ h9 => h9) rfl hin rfl (tyX1_ok 0 (by decide)) rfl rfl (Nat.le_of_ble_eq_true rfl) dX1_init_78 (fun H locs hP hD hS => ?_)
  have hP : va_P (dC, dI) cls [(h_bd, .inr (1, [.ref p1, .ref q1, .ref q3, .int 0, .ref q5, .ref q7, .int 0, .ref q9, .ref q11, .int 0, .ref q13, .ref q15, .int 0]))] H := hP
  have hD : va_D A [(h_bd, .inr (1, [.ref p1, .ref q1, .ref q3, .int 0, .ref q5, .ref q7, .int 0, .ref q9, .ref q11, .int 0, .ref q13, .ref q15, .int 0]))] := hD
  refine W.widen (k := 8) (n := 17536) (Nat.le_of_ble_eq_true rfl) (Nat.le_of_ble_eq_true rfl) ?_
  have hK9 := hK.sub (tys' := []) [] rfl
  exact W.vret hx hb hr (fun t ht hW => ⟨⟨(fun k => List.getD [.ref p1, .ref q1, .ref q3, .int 0, .ref q5, .ref q7, .int 0, .ref q9, .ref q11, .int 0, .ref q13, .ref q15, .int 0] k .null), rfl, trivial, by rw [ht]; exact hP, va_K.moved hW.alike hK9, hD⟩, hS.F ht⟩) hS.2.2 dX1_init_81

set_option maxHeartbeats 4000000 in
set_option maxRecDepth 100000 in
theorem c_X9_init (l : Launch) (dC : Nat → ClassId) (dI : Nat → Nat → Nat) (sz : Nat) (h_wr : Nat) (p1 : Nat) (p2 : Nat) : Met l yX9_init (Ws yX9_init cX9_init 3 none) ({ frames := 1, cells := 3, slots := 3264, locals := 24 }) (PRE (dC, dI) cls [] [(h_wr, .inr (6, [.null, .null, .null, .int 0, .null, .int 0, .null, .int 0]))] sz [.ref h_wr, .ref p1, .ref p2]) (va_Qv (fun (_ : (Nat → Value)) => True) (fun (u : (Nat → Value)) (t : State) => va_P (dC, dI) cls [(h_wr, .inr (6, [.ref p1, .ref p2, (u 2), .int 0, (u 4), .int 0, (u 6), .int 0]))] t.heap ∧ va_K (dC, dI) cls [] t ∧ va_D (va_A [(h_wr, .inr (6, [.null, .null, .null, .int 0, .null, .int 0, .null, .int 0]))] sz) [(h_wr, .inr (6, [.ref p1, .ref p2, (u 2), .int 0, (u 4), .int 0, (u 6), .int 0]))]) (va_A [(h_wr, .inr (6, [.null, .null, .null, .int 0, .null, .int 0, .null, .int 0]))] sz)) 3 3264 (va_A [(h_wr, .inr (6, [.null, .null, .null, .int 0, .null, .int 0, .null, .int 0]))] sz) := by
  refine Met.ofW (cc := cX9_init) (maxL := 3) (ret := none) (by decide) rfl ?_
  intro p e s m args below meth c s₁ B hml hv
  obtain ⟨rfl, hsz, hP, hK, hD0, hN⟩ := hv
  have hx := B.exec
  have hb := B.bytes
  have hr := B.returns
  have hts := atoms_spec (ws := Ws yX9_init cX9_init 3 none) B.pre
  have hT : ∀ w ∈ WALL, w ∈ Ws yX9_init cX9_init 3 none := fun w h => List.mem_cons_of_mem _ h
  have hw := fun w (h : w ∈ WALL) => hts w (hT w h)
  have hown : s.vm.findClass RX9 = some m.cls := findClass_of_methodNamed B.named
  have hlocks := B.notSynchronized
  have hin : meth.name = "<init>" := (name_of_methodNamed B.named B.method).1
  subst hsz
  have hD := hD0.self (sz := s.heap.size)
  generalize hAe : va_A [(h_wr, .inr (6, [.null, .null, .null, .int 0, .null, .int 0, .null, .int 0]))] s.heap.size = A at hD ⊢
  have hA : ∀ q : Nat, s.heap.size ≤ q → A q := fun q h => by rw [← hAe]; exact Or.inr h
  have hS : va_S A s.heap s.heap [] := va_S.rf
  have hl := lv_entry ([.ref h_wr, .ref p1, .ref p2]) (n := 3) (Nat.le_of_ble_eq_true rfl)
  rw [lg_entry_eq]
  generalize (lg_sl ([.ref h_wr, .ref p1, .ref p2]) ++ List.replicate (3 - (lg_sl ([.ref h_wr, .ref p1, .ref p2])).length) Slot.unset).toArray = ls at hl ⊢
  have hl : lv_has ls 3 [(0, .ref h_wr), (1, .ref p1), (2, .ref p2)] := hl
  refine lv_aload_n hx hb dX9_init_0 rfl (lv_at hl 0 rfl) ?_
  refine W.objInit hx hb hown (hw _ w_m_X9_3) (hw _ w_instanceMethod_objInit) (hw _ w_code_objInit) rfl (by rw [hml]; exact hl.1) rfl dX9_init_1 (Nat.le_of_ble_eq_true rfl) (Nat.le_of_ble_eq_true rfl) ?_
  refine W.eq (g2 := F0 m 4 ls []) rfl ?_
  refine lv_aload_n hx hb dX9_init_4 rfl (lv_at hl 0 rfl) ?_
  refine lv_sipush (v := 600) hx hb dX9_init_5 (by decide) ?_
  refine va_newa (atype := .int) (n := 600) (N' := 600) (a0 := (600, .inl (fun _ => 0))) hx hb (hw _ w_arr_int) rfl hK hP hD hS hA (fun _ => rfl) (by decide) (by decide) (by decide) (Nat.le_of_ble_eq_true rfl) (Nat.le_of_ble_eq_true rfl) dX9_init_8 (fun q1 y2 H hK1 hP hD hS => ?_)
  have hP : va_P (dC, dI) cls [(h_wr, .inr (6, [.null, .null, .null, .int 0, .null, .int 0, .null, .int 0]))] H := hP.sub [0] rfl
  have hD : va_D A [(h_wr, .inr (6, [.null, .null, .null, .int 0, .null, .int 0, .null, .int 0]))] := hD.sub [0] (by decide) rfl
  refine va_putF (D := (dC, dI)) (ci := 6) (v := .ref q1) (ty := tyX9 2) (C := RX9) (T := TX9) (N := 8) hx hb hw iwX9 tyX9 tyX9_ok nmX9 hown hK hP hD hS 0 rfl rfl 2 (by decide) (hw _ w_f_X9_9) (fun _ h9 => h9) rfl hin rfl (tyX9_ok 2 (by decide)) rfl rfl (Nat.le_of_ble_eq_true rfl) dX9_init_10 (fun H locs hP hD hS => ?_)
  have hP : va_P (dC, dI) cls [(h_wr, .inr (6, [.null, .null, .ref q1, .int 0, .null, .int 0, .null, .int 0]))] H := hP
  have hD : va_D A [(h_wr, .inr (6, [.null, .null, .ref q1, .int 0, .null, .int 0, .null, .int 0]))] := hD
  refine lv_aload_n hx hb dX9_init_13 rfl (lv_at hl 0 rfl) ?_
  refine lv_sipush (v := 616) hx hb dX9_init_14 (by decide) ?_
  refine va_newa (atype := .int) (n := 616) (N' := 616) (a0 := (616, .inl (fun _ => 0))) hx hb (hw _ w_arr_int) rfl hK hP hD hS hA (fun _ => rfl) (by decide) (by decide) (by decide) (Nat.le_of_ble_eq_true rfl) (Nat.le_of_ble_eq_true rfl) dX9_init_17 (fun q3 y4 H hK1 hP hD hS => ?_)
  have hP : va_P (dC, dI) cls [(h_wr, .inr (6, [.null, .null, .ref q1, .int 0, .null, .int 0, .null, .int 0]))] H := hP.sub [0] rfl
  have hD : va_D A [(h_wr, .inr (6, [.null, .null, .ref q1, .int 0, .null, .int 0, .null, .int 0]))] := hD.sub [0] (by decide) rfl
  refine va_putF (D := (dC, dI)) (ci := 6) (v := .ref q3) (ty := tyX9 4) (C := RX9) (T := TX9) (N := 8) hx hb hw iwX9 tyX9 tyX9_ok nmX9 hown hK hP hD hS 0 rfl rfl 4 (by decide) (hw _ w_f_X9_15) (fun _ h9 => h9) rfl hin rfl (tyX9_ok 4 (by decide)) rfl rfl (Nat.le_of_ble_eq_true rfl) dX9_init_19 (fun H locs hP hD hS => ?_)
  have hP : va_P (dC, dI) cls [(h_wr, .inr (6, [.null, .null, .ref q1, .int 0, .ref q3, .int 0, .null, .int 0]))] H := hP
  have hD : va_D A [(h_wr, .inr (6, [.null, .null, .ref q1, .int 0, .ref q3, .int 0, .null, .int 0]))] := hD
  refine lv_aload_n hx hb dX9_init_22 rfl (lv_at hl 0 rfl) ?_
  refine lv_sipush (v := 2048) hx hb dX9_init_23 (by decide) ?_
  refine va_newa (atype := .int) (n := 2048) (N' := 2048) (a0 := (2048, .inl (fun _ => 0))) hx hb (hw _ w_arr_int) rfl hK hP hD hS hA (fun _ => rfl) (by decide) (by decide) (by decide) (Nat.le_of_ble_eq_true rfl) (Nat.le_of_ble_eq_true rfl) dX9_init_26 (fun q5 y6 H hK1 hP hD hS => ?_)
  have hP : va_P (dC, dI) cls [(h_wr, .inr (6, [.null, .null, .ref q1, .int 0, .ref q3, .int 0, .null, .int 0]))] H := hP.sub [0] rfl
  have hD : va_D A [(h_wr, .inr (6, [.null, .null, .ref q1, .int 0, .ref q3, .int 0, .null, .int 0]))] := hD.sub [0] (by decide) rfl
  refine va_putF (D := (dC, dI)) (ci := 6) (v := .ref q5) (ty := tyX9 6) (C := RX9) (T := TX9) (N := 8) hx hb hw iwX9 tyX9 tyX9_ok nmX9 hown hK hP hD hS 0 rfl rfl 6 (by decide) (hw _ w_f_X9_18) (fun _ h9 => h9) rfl hin rfl (tyX9_ok 6 (by decide)) rfl rfl (Nat.le_of_ble_eq_true rfl) dX9_init_28 (fun H locs hP hD hS => ?_)
  have hP : va_P (dC, dI) cls [(h_wr, .inr (6, [.null, .null, .ref q1, .int 0, .ref q3, .int 0, .ref q5, .int 0]))] H := hP
  have hD : va_D A [(h_wr, .inr (6, [.null, .null, .ref q1, .int 0, .ref q3, .int 0, .ref q5, .int 0]))] := hD
  refine lv_aload_n hx hb dX9_init_31 rfl (lv_at hl 0 rfl) ?_
  refine lv_aload_n hx hb dX9_init_32 rfl (lv_at hl 1 rfl) ?_
  refine va_putF (D := (dC, dI)) (ci := 6) (v := .ref p1) (ty := tyX9 0) (C := RX9) (T := TX9) (N := 8) hx hb hw iwX9 tyX9 tyX9_ok nmX9 hown hK hP hD hS 0 rfl rfl 0 (by decide) (hw _ w_f_X9_21) (fun _ h9 => h9) rfl hin rfl (tyX9_ok 0 (by decide)) rfl rfl (Nat.le_of_ble_eq_true rfl) dX9_init_33 (fun H locs hP hD hS => ?_)
  have hP : va_P (dC, dI) cls [(h_wr, .inr (6, [.ref p1, .null, .ref q1, .int 0, .ref q3, .int 0, .ref q5, .int 0]))] H := hP
  have hD : va_D A [(h_wr, .inr (6, [.ref p1, .null, .ref q1, .int 0, .ref q3, .int 0, .ref q5, .int 0]))] := hD
  refine lv_aload_n hx hb dX9_init_36 rfl (lv_at hl 0 rfl) ?_
  refine lv_aload_n hx hb dX9_init_37 rfl (lv_at hl 2 rfl) ?_
  refine va_putF (D := (dC, dI)) (ci := 6) (v := .ref p2) (ty := tyX9 1) (C := RX9) (T := TX9) (N := 8) hx hb hw iwX9 tyX9 tyX9_ok nmX9 hown hK hP hD hS 0 rfl rfl 1 (by decide) (hw _ w_f_X9_25) (fun _ h9 => h9) rfl hin rfl (tyX9_ok 1 (by decide)) rfl rfl (Nat.le_of_ble_eq_true rfl) dX9_init_38 (fun H locs hP hD hS => ?_)
  have hP : va_P (dC, dI) cls [(h_wr, .inr (6, [.ref p1, .ref p2, .ref q1, .int 0, .ref q3, .int 0, .ref q5, .int 0]))] H := hP
  have hD : va_D A [(h_wr, .inr (6, [.ref p1, .ref p2, .ref q1, .int 0, .ref q3, .int 0, .ref q5, .int 0]))] := hD
  refine W.widen (k := 3) (n := 3264) (Nat.le_of_ble_eq_true rfl) (Nat.le_of_ble_eq_true rfl) ?_
  have hK9 := hK.sub (tys' := []) [] rfl
  exact W.vret hx hb hr (fun t ht hW => ⟨⟨(fun k => List.getD [.ref p1, .ref p2, .ref q1, .int 0, .ref q3, .int 0, .ref q5, .int 0] k .null), rfl, trivial, by rw [ht]; exact hP, va_K.moved hW.alike hK9, hD⟩, hS.F ht⟩) hS.2.2 dX9_init_41

set_option maxHeartbeats 4000000 in
set_option maxRecDepth 100000 in
theorem c_X4_init (l : Launch) (dC : Nat → ClassId) (dI : Nat → Nat → Nat) (sz : Nat) (h_pv : Nat) (p1 : Nat) (p2 : Nat) : Met l yX4_init (Ws yX4_init cX4_init 3 none) ({ frames := 1, cells := 4, slots := 781, locals := 24 }) (PRE (dC, dI) cls [] [(h_pv, .inr (3, [.null, .null, .null, .int 0, .null, .int 0, .null, .int 0, .null, .int 0, .int 0, .int 0, .int 0, .int 0, .int 0, .int 0, .int 0, .int 0]))] sz [.ref h_pv, .ref p1, .ref p2]) (va_Qv (fun (_ : (Nat → Value)) => True) (fun (u : (Nat → Value)) (t : State) => va_P (dC, dI) cls [(h_pv, .inr (3, [.ref p1, .ref p2, (u 2), .int 0, (u 4), .int 0, (u 6), .int 0, (u 8), .int 0, .int 0, .int 0, .int 0, .int 0, .int 0, .int 0, .int 0, .int 0]))] t.heap ∧ va_K (dC, dI) cls [] t ∧ va_D (va_A [(h_pv, .inr (3, [.null, .null, .null, .int 0, .null, .int 0, .null, .int 0, .null, .int 0, .int 0, .int 0, .int 0, .int 0, .int 0, .int 0, .int 0, .int 0]))] sz) [(h_pv, .inr (3, [.ref p1, .ref p2, (u 2), .int 0, (u 4), .int 0, (u 6), .int 0, (u 8), .int 0, .int 0, .int 0, .int 0, .int 0, .int 0, .int 0, .int 0, .int 0]))]) (va_A [(h_pv, .inr (3, [.null, .null, .null, .int 0, .null, .int 0, .null, .int 0, .null, .int 0, .int 0, .int 0, .int 0, .int 0, .int 0, .int 0, .int 0, .int 0]))] sz)) 4 781 (va_A [(h_pv, .inr (3, [.null, .null, .null, .int 0, .null, .int 0, .null, .int 0, .null, .int 0, .int 0, .int 0, .int 0, .int 0, .int 0, .int 0, .int 0, .int 0]))] sz) := by
  refine Met.ofW (cc := cX4_init) (maxL := 3) (ret := none) (by decide) rfl ?_
  intro p e s m args below meth c s₁ B hml hv
  obtain ⟨rfl, hsz, hP, hK, hD0, hN⟩ := hv
  have hx := B.exec
  have hb := B.bytes
  have hr := B.returns
  have hts := atoms_spec (ws := Ws yX4_init cX4_init 3 none) B.pre
  have hT : ∀ w ∈ WALL, w ∈ Ws yX4_init cX4_init 3 none := fun w h => List.mem_cons_of_mem _ h
  have hw := fun w (h : w ∈ WALL) => hts w (hT w h)
  have hown : s.vm.findClass RX4 = some m.cls := findClass_of_methodNamed B.named
  have hlocks := B.notSynchronized
  have hin : meth.name = "<init>" := (name_of_methodNamed B.named B.method).1
  subst hsz
  have hD := hD0.self (sz := s.heap.size)
  generalize hAe : va_A [(h_pv, .inr (3, [.null, .null, .null, .int 0, .null, .int 0, .null, .int 0, .null, .int 0, .int 0, .int 0, .int 0, .int 0, .int 0, .int 0, .int 0, .int 0]))] s.heap.size = A at hD ⊢
  have hA : ∀ q : Nat, s.heap.size ≤ q → A q := fun q h => by rw [← hAe]; exact Or.inr h
  have hS : va_S A s.heap s.heap [] := va_S.rf
  have hl := lv_entry ([.ref h_pv, .ref p1, .ref p2]) (n := 3) (Nat.le_of_ble_eq_true rfl)
  rw [lg_entry_eq]
  generalize (lg_sl ([.ref h_pv, .ref p1, .ref p2]) ++ List.replicate (3 - (lg_sl ([.ref h_pv, .ref p1, .ref p2])).length) Slot.unset).toArray = ls at hl ⊢
  have hl : lv_has ls 3 [(0, .ref h_pv), (1, .ref p1), (2, .ref p2)] := hl
  refine lv_aload_n hx hb dX4_init_0 rfl (lv_at hl 0 rfl) ?_
  refine W.objInit hx hb hown (hw _ w_m_X4_3) (hw _ w_instanceMethod_objInit) (hw _ w_code_objInit) rfl (by rw [hml]; exact hl.1) rfl dX4_init_1 (Nat.le_of_ble_eq_true rfl) (Nat.le_of_ble_eq_true rfl) ?_
  refine W.eq (g2 := F0 m 4 ls []) rfl ?_
  refine lv_aload_n hx hb dX4_init_4 rfl (lv_at hl 0 rfl) ?_
  refine lv_sipush (v := 361) hx hb dX4_init_5 (by decide) ?_
  refine va_newq (C := "OppositePairs$Row") (n := 361) (N' := 361) hx hb hown (hw _ w_c_X4_9) (hN _ n_ao_X6) hK hP hD hS hA (by decide) (by decide) (by decide) (Nat.le_of_ble_eq_true rfl) (Nat.le_of_ble_eq_true rfl) dX4_init_8 (fun q1 y2 H hK1 hP hD hS => ?_)
  have hP : va_P (dC, dI) cls [(h_pv, .inr (3, [.null, .null, .null, .int 0, .null, .int 0, .null, .int 0, .null, .int 0, .int 0, .int 0, .int 0, .int 0, .int 0, .int 0, .int 0, .int 0]))] H := hP.sub [0] rfl
  have hD : va_D A [(h_pv, .inr (3, [.null, .null, .null, .int 0, .null, .int 0, .null, .int 0, .null, .int 0, .int 0, .int 0, .int 0, .int 0, .int 0, .int 0, .int 0, .int 0]))] := hD.sub [0] (by decide) rfl
  refine va_putF (D := (dC, dI)) (ci := 3) (v := .ref q1) (ty := tyX4 2) (C := RX4) (T := TX4) (N := 18) hx hb hw iwX4 tyX4 tyX4_ok nmX4 hown hK hP hD hS 0 rfl rfl 2 (by decide) (hw _ w_f_X4_11) (fun _ h9 => h9) rfl hin rfl (tyX4_ok 2 (by decide)) rfl rfl (Nat.le_of_ble_eq_true rfl) dX4_init_11 (fun H locs hP hD hS => ?_)
  have hP : va_P (dC, dI) cls [(h_pv, .inr (3, [.null, .null, .ref q1, .int 0, .null, .int 0, .null, .int 0, .null, .int 0, .int 0, .int 0, .int 0, .int 0, .int 0, .int 0, .int 0, .int 0]))] H := hP
  have hD : va_D A [(h_pv, .inr (3, [.null, .null, .ref q1, .int 0, .null, .int 0, .null, .int 0, .null, .int 0, .int 0, .int 0, .int 0, .int 0, .int 0, .int 0, .int 0, .int 0]))] := hD
  refine lv_aload_n hx hb dX4_init_14 rfl (lv_at hl 0 rfl) ?_
  refine lv_sipush (v := 210) hx hb dX4_init_15 (by decide) ?_
  refine va_newq (C := "OppositePairs$Link") (n := 210) (N' := 210) hx hb hown (hw _ w_c_X4_17) (hN _ n_ao_X2) hK hP hD hS hA (by decide) (by decide) (by decide) (Nat.le_of_ble_eq_true rfl) (Nat.le_of_ble_eq_true rfl) dX4_init_18 (fun q3 y4 H hK1 hP hD hS => ?_)
  have hP : va_P (dC, dI) cls [(h_pv, .inr (3, [.null, .null, .ref q1, .int 0, .null, .int 0, .null, .int 0, .null, .int 0, .int 0, .int 0, .int 0, .int 0, .int 0, .int 0, .int 0, .int 0]))] H := hP.sub [0] rfl
  have hD : va_D A [(h_pv, .inr (3, [.null, .null, .ref q1, .int 0, .null, .int 0, .null, .int 0, .null, .int 0, .int 0, .int 0, .int 0, .int 0, .int 0, .int 0, .int 0, .int 0]))] := hD.sub [0] (by decide) rfl
  refine va_putF (D := (dC, dI)) (ci := 3) (v := .ref q3) (ty := tyX4 4) (C := RX4) (T := TX4) (N := 18) hx hb hw iwX4 tyX4 tyX4_ok nmX4 hown hK hP hD hS 0 rfl rfl 4 (by decide) (hw _ w_f_X4_19) (fun _ h9 => h9) rfl hin rfl (tyX4_ok 4 (by decide)) rfl rfl (Nat.le_of_ble_eq_true rfl) dX4_init_21 (fun H locs hP hD hS => ?_)
  have hP : va_P (dC, dI) cls [(h_pv, .inr (3, [.null, .null, .ref q1, .int 0, .ref q3, .int 0, .null, .int 0, .null, .int 0, .int 0, .int 0, .int 0, .int 0, .int 0, .int 0, .int 0, .int 0]))] H := hP
  have hD : va_D A [(h_pv, .inr (3, [.null, .null, .ref q1, .int 0, .ref q3, .int 0, .null, .int 0, .null, .int 0, .int 0, .int 0, .int 0, .int 0, .int 0, .int 0, .int 0, .int 0]))] := hD
  refine lv_aload_n hx hb dX4_init_24 rfl (lv_at hl 0 rfl) ?_
  refine lv_sipush (v := 180) hx hb dX4_init_25 (by decide) ?_
  refine va_newq (C := "OppositePairs$Step") (n := 180) (N' := 180) hx hb hown (hw _ w_c_X4_23) (hN _ n_ao_X7) hK hP hD hS hA (by decide) (by decide) (by decide) (Nat.le_of_ble_eq_true rfl) (Nat.le_of_ble_eq_true rfl) dX4_init_28 (fun q5 y6 H hK1 hP hD hS => ?_)
  have hP : va_P (dC, dI) cls [(h_pv, .inr (3, [.null, .null, .ref q1, .int 0, .ref q3, .int 0, .null, .int 0, .null, .int 0, .int 0, .int 0, .int 0, .int 0, .int 0, .int 0, .int 0, .int 0]))] H := hP.sub [0] rfl
  have hD : va_D A [(h_pv, .inr (3, [.null, .null, .ref q1, .int 0, .ref q3, .int 0, .null, .int 0, .null, .int 0, .int 0, .int 0, .int 0, .int 0, .int 0, .int 0, .int 0, .int 0]))] := hD.sub [0] (by decide) rfl
  refine va_putF (D := (dC, dI)) (ci := 3) (v := .ref q5) (ty := tyX4 6) (C := RX4) (T := TX4) (N := 18) hx hb hw iwX4 tyX4 tyX4_ok nmX4 hown hK hP hD hS 0 rfl rfl 6 (by decide) (hw _ w_f_X4_25) (fun _ h9 => h9) rfl hin rfl (tyX4_ok 6 (by decide)) rfl rfl (Nat.le_of_ble_eq_true rfl) dX4_init_31 (fun H locs hP hD hS => ?_)
  have hP : va_P (dC, dI) cls [(h_pv, .inr (3, [.null, .null, .ref q1, .int 0, .ref q3, .int 0, .ref q5, .int 0, .null, .int 0, .int 0, .int 0, .int 0, .int 0, .int 0, .int 0, .int 0, .int 0]))] H := hP
  have hD : va_D A [(h_pv, .inr (3, [.null, .null, .ref q1, .int 0, .ref q3, .int 0, .ref q5, .int 0, .null, .int 0, .int 0, .int 0, .int 0, .int 0, .int 0, .int 0, .int 0, .int 0]))] := hD
  refine lv_aload_n hx hb dX4_init_34 rfl (lv_at hl 0 rfl) ?_
  refine lv_bipush (v := 30) hx hb dX4_init_35 (by decide) ?_
  refine va_newa (atype := .int) (n := 30) (N' := 30) (a0 := (30, .inl (fun _ => 0))) hx hb (hw _ w_arr_int) rfl hK hP hD hS hA (fun _ => rfl) (by decide) (by decide) (by decide) (Nat.le_of_ble_eq_true rfl) (Nat.le_of_ble_eq_true rfl) dX4_init_37 (fun q7 y8 H hK1 hP hD hS => ?_)
  have hP : va_P (dC, dI) cls [(h_pv, .inr (3, [.null, .null, .ref q1, .int 0, .ref q3, .int 0, .ref q5, .int 0, .null, .int 0, .int 0, .int 0, .int 0, .int 0, .int 0, .int 0, .int 0, .int 0]))] H := hP.sub [0] rfl
  have hD : va_D A [(h_pv, .inr (3, [.null, .null, .ref q1, .int 0, .ref q3, .int 0, .ref q5, .int 0, .null, .int 0, .int 0, .int 0, .int 0, .int 0, .int 0, .int 0, .int 0, .int 0]))] := hD.sub [0] (by decide) rfl
  refine va_putF (D := (dC, dI)) (ci := 3) (v := .ref q7) (ty := tyX4 8) (C := RX4) (T := TX4) (N := 18) hx hb hw iwX4 tyX4 tyX4_ok nmX4 hown hK hP hD hS 0 rfl rfl 8 (by decide) (hw _ w_f_X4_29) (fun _ h9 => h9) rfl hin rfl (tyX4_ok 8 (by decide)) rfl rfl (Nat.le_of_ble_eq_true rfl) dX4_init_39 (fun H locs hP hD hS => ?_)
  have hP : va_P (dC, dI) cls [(h_pv, .inr (3, [.null, .null, .ref q1, .int 0, .ref q3, .int 0, .ref q5, .int 0, .ref q7, .int 0, .int 0, .int 0, .int 0, .int 0, .int 0, .int 0, .int 0, .int 0]))] H := hP
  have hD : va_D A [(h_pv, .inr (3, [.null, .null, .ref q1, .int 0, .ref q3, .int 0, .ref q5, .int 0, .ref q7, .int 0, .int 0, .int 0, .int 0, .int 0, .int 0, .int 0, .int 0, .int 0]))] := hD
  refine lv_aload_n hx hb dX4_init_42 rfl (lv_at hl 0 rfl) ?_
  refine lv_aload_n hx hb dX4_init_43 rfl (lv_at hl 1 rfl) ?_
  refine va_putF (D := (dC, dI)) (ci := 3) (v := .ref p1) (ty := tyX4 0) (C := RX4) (T := TX4) (N := 18) hx hb hw iwX4 tyX4 tyX4_ok nmX4 hown hK hP hD hS 0 rfl rfl 0 (by decide) (hw _ w_f_X4_33) (fun _ h9 => h9) rfl hin rfl (tyX4_ok 0 (by decide)) rfl rfl (Nat.le_of_ble_eq_true rfl) dX4_init_44 (fun H locs hP hD hS => ?_)
  have hP : va_P (dC, dI) cls [(h_pv, .inr (3, [.ref p1, .null, .ref q1, .int 0, .ref q3, .int 0, .ref q5, .int 0, .ref q7, .int 0, .int 0, .int 0, .int 0, .int 0, .int 0, .int 0, .int 0, .int 0]))] H := hP
  have hD : va_D A [(h_pv, .inr (3, [.ref p1, .null, .ref q1, .int 0, .ref q3, .int 0, .ref q5, .int 0, .ref q7, .int 0, .int 0, .int 0, .int 0, .int 0, .int 0, .int 0, .int 0, .int 0]))] := hD
  refine lv_aload_n hx hb dX4_init_47 rfl (lv_at hl 0 rfl) ?_
  refine lv_aload_n hx hb dX4_init_48 rfl (lv_at hl 2 rfl) ?_
  refine va_putF (D := (dC, dI)) (ci := 3) (v := .ref p2) (ty := tyX4 1) (C := RX4) (T := TX4) (N := 18) hx hb hw iwX4 tyX4 tyX4_ok nmX4 hown hK hP hD hS 0 rfl rfl 1 (by decide) (hw _ w_f_X4_37) (fun _ h9 => h9) rfl hin rfl (tyX4_ok 1 (by decide)) rfl rfl (Nat.le_of_ble_eq_true rfl) dX4_init_49 (fun H locs hP hD hS => ?_)
  have hP : va_P (dC, dI) cls [(h_pv, .inr (3, [.ref p1, .ref p2, .ref q1, .int 0, .ref q3, .int 0, .ref q5, .int 0, .ref q7, .int 0, .int 0, .int 0, .int 0, .int 0, .int 0, .int 0, .int 0, .int 0]))] H := hP
  have hD : va_D A [(h_pv, .inr (3, [.ref p1, .ref p2, .ref q1, .int 0, .ref q3, .int 0, .ref q5, .int 0, .ref q7, .int 0, .int 0, .int 0, .int 0, .int 0, .int 0, .int 0, .int 0, .int 0]))] := hD
  refine W.widen (k := 4) (n := 781) (Nat.le_of_ble_eq_true rfl) (Nat.le_of_ble_eq_true rfl) ?_
  have hK9 := hK.sub (tys' := []) [] rfl
  exact W.vret hx hb hr (fun t ht hW => ⟨⟨(fun k => List.getD [.ref p1, .ref p2, .ref q1, .int 0, .ref q3, .int 0, .ref q5, .int 0, .ref q7, .int 0, .int 0, .int 0, .int 0, .int 0, .int 0, .int 0, .int 0, .int 0] k .null), rfl, trivial, by rw [ht]; exact hP, va_K.moved hW.alike hK9, hD⟩, hS.F ht⟩) hS.2.2 dX4_init_52

set_option maxHeartbeats 4000000 in
set_option maxRecDepth 100000 in
theorem c_X3_init (l : Launch) (dC : Nat → ClassId) (dI : Nat → Nat → Nat) (sz : Nat) (h_mx : Nat) (p1 : Nat) (p2 : Nat) (p3 : Nat) : Met l yX3_init (Ws yX3_init cX3_init 4 none) ({ frames := 1, cells := 5, slots := 600, locals := 24 }) (PRE (dC, dI) cls [] [(h_mx, .inr (2, [.null, .null, .null, .null, .int 0, .null, .int 0, .null, .null, .null, .int 0, .int 0]))] sz [.ref h_mx, .ref p1, .ref p2, .ref p3]) (va_Qv (fun (_ : (Nat → Value)) => True) (fun (u : (Nat → Value)) (t : State) => va_P (dC, dI) cls [(h_mx, .inr (2, [.ref p1, .ref p2, .ref p3, (u 3), .int 0, (u 5), .int 0, (u 7), (u 8), (u 9), .int (-2), .int 0]))] t.heap ∧ va_K (dC, dI) cls [] t ∧ va_D (va_A [(h_mx, .inr (2, [.null, .null, .null, .null, .int 0, .null, .int 0, .null, .null, .null, .int 0, .int 0]))] sz) [(h_mx, .inr (2, [.ref p1, .ref p2, .ref p3, (u 3), .int 0, (u 5), .int 0, (u 7), (u 8), (u 9), .int (-2), .int 0]))]) (va_A [(h_mx, .inr (2, [.null, .null, .null, .null, .int 0, .null, .int 0, .null, .null, .null, .int 0, .int 0]))] sz)) 5 600 (va_A [(h_mx, .inr (2, [.null, .null, .null, .null, .int 0, .null, .int 0, .null, .null, .null, .int 0, .int 0]))] sz) := by
  refine Met.ofW (cc := cX3_init) (maxL := 4) (ret := none) (by decide) rfl ?_
  intro p e s m args below meth c s₁ B hml hv
  obtain ⟨rfl, hsz, hP, hK, hD0, hN⟩ := hv
  have hx := B.exec
  have hb := B.bytes
  have hr := B.returns
  have hts := atoms_spec (ws := Ws yX3_init cX3_init 4 none) B.pre
  have hT : ∀ w ∈ WALL, w ∈ Ws yX3_init cX3_init 4 none := fun w h => List.mem_cons_of_mem _ h
  have hw := fun w (h : w ∈ WALL) => hts w (hT w h)
  have hown : s.vm.findClass RX3 = some m.cls := findClass_of_methodNamed B.named
  have hlocks := B.notSynchronized
  have hin : meth.name = "<init>" := (name_of_methodNamed B.named B.method).1
  subst hsz
  have hD := hD0.self (sz := s.heap.size)
  generalize hAe : va_A [(h_mx, .inr (2, [.null, .null, .null, .null, .int 0, .null, .int 0, .null, .null, .null, .int 0, .int 0]))] s.heap.size = A at hD ⊢
  have hA : ∀ q : Nat, s.heap.size ≤ q → A q := fun q h => by rw [← hAe]; exact Or.inr h
  have hS : va_S A s.heap s.heap [] := va_S.rf
  have hl := lv_entry ([.ref h_mx, .ref p1, .ref p2, .ref p3]) (n := 4) (Nat.le_of_ble_eq_true rfl)
  rw [lg_entry_eq]
  generalize (lg_sl ([.ref h_mx, .ref p1, .ref p2, .ref p3]) ++ List.replicate (4 - (lg_sl ([.ref h_mx, .ref p1, .ref p2, .ref p3])).length) Slot.unset).toArray = ls at hl ⊢
  have hl : lv_has ls 4 [(0, .ref h_mx), (1, .ref p1), (2, .ref p2), (3, .ref p3)] := hl
  refine lv_aload_n hx hb dX3_init_0 rfl (lv_at hl 0 rfl) ?_
  refine W.objInit hx hb hown (hw _ w_m_X3_3) (hw _ w_instanceMethod_objInit) (hw _ w_code_objInit) rfl (by rw [hml]; exact hl.1) rfl dX3_init_1 (Nat.le_of_ble_eq_true rfl) (Nat.le_of_ble_eq_true rfl) ?_
  refine W.eq (g2 := F0 m 4 ls []) rfl ?_
  refine lv_aload_n hx hb dX3_init_4 rfl (lv_at hl 0 rfl) ?_
  refine lv_sipush (v := 180) hx hb dX3_init_5 (by decide) ?_
  refine va_newa (atype := .int) (n := 180) (N' := 180) (a0 := (180, .inl (fun _ => 0))) hx hb (hw _ w_arr_int) rfl hK hP hD hS hA (fun _ => rfl) (by decide) (by decide) (by decide) (Nat.le_of_ble_eq_true rfl) (Nat.le_of_ble_eq_true rfl) dX3_init_8 (fun q1 y2 H hK1 hP hD hS => ?_)
  have hP : va_P (dC, dI) cls [(h_mx, .inr (2, [.null, .null, .null, .null, .int 0, .null, .int 0, .null, .null, .null, .int 0, .int 0]))] H := hP.sub [0] rfl
  have hD : va_D A [(h_mx, .inr (2, [.null, .null, .null, .null, .int 0, .null, .int 0, .null, .null, .null, .int 0, .int 0]))] := hD.sub [0] (by decide) rfl
  refine va_putF (D := (dC, dI)) (ci := 2) (v := .ref q1) (ty := tyX3 3) (C := RX3) (T := TX3) (N := 12) hx hb hw iwX3 tyX3 tyX3_ok nmX3 hown hK hP hD hS 0 rfl rfl 3 (by decide) (hw _ w_f_X3_9) (fun _ h9 => h9) rfl hin rfl (tyX3_ok 3 (by decide)) rfl rfl (Nat.le_of_ble_eq_true rfl) dX3_init_10 (fun H locs hP hD hS => ?_)
  have hP : va_P (dC, dI) cls [(h_mx, .inr (2, [.null, .null, .null, .ref q1, .int 0, .null, .int 0, .null, .null, .null, .int 0, .int 0]))] H := hP
  have hD : va_D A [(h_mx, .inr (2, [.null, .null, .null, .ref q1, .int 0, .null, .int 0, .null, .null, .null, .int 0, .int 0]))] := hD
  refine lv_aload_n hx hb dX3_init_13 rfl (lv_at hl 0 rfl) ?_
  refine lv_bipush (v := 30) hx hb dX3_init_14 (by decide) ?_
  refine va_newa (atype := .int) (n := 30) (N' := 30) (a0 := (30, .inl (fun _ => 0))) hx hb (hw _ w_arr_int) rfl hK hP hD hS hA (fun _ => rfl) (by decide) (by decide) (by decide) (Nat.le_of_ble_eq_true rfl) (Nat.le_of_ble_eq_true rfl) dX3_init_16 (fun q3 y4 H hK1 hP hD hS => ?_)
  have hP : va_P (dC, dI) cls [(h_mx, .inr (2, [.null, .null, .null, .ref q1, .int 0, .null, .int 0, .null, .null, .null, .int 0, .int 0]))] H := hP.sub [0] rfl
  have hD : va_D A [(h_mx, .inr (2, [.null, .null, .null, .ref q1, .int 0, .null, .int 0, .null, .null, .null, .int 0, .int 0]))] := hD.sub [0] (by decide) rfl
  refine va_putF (D := (dC, dI)) (ci := 2) (v := .ref q3) (ty := tyX3 5) (C := RX3) (T := TX3) (N := 12) hx hb hw iwX3 tyX3 tyX3_ok nmX3 hown hK hP hD hS 0 rfl rfl 5 (by decide) (hw _ w_f_X3_15) (fun _ h9 => h9) rfl hin rfl (tyX3_ok 5 (by decide)) rfl rfl (Nat.le_of_ble_eq_true rfl) dX3_init_18 (fun H locs hP hD hS => ?_)
  have hP : va_P (dC, dI) cls [(h_mx, .inr (2, [.null, .null, .null, .ref q1, .int 0, .ref q3, .int 0, .null, .null, .null, .int 0, .int 0]))] H := hP
  have hD : va_D A [(h_mx, .inr (2, [.null, .null, .null, .ref q1, .int 0, .ref q3, .int 0, .null, .null, .null, .int 0, .int 0]))] := hD
  refine lv_aload_n hx hb dX3_init_21 rfl (lv_at hl 0 rfl) ?_
  refine lv_bipush (v := 30) hx hb dX3_init_22 (by decide) ?_
  refine va_newa (atype := .int) (n := 30) (N' := 30) (a0 := (30, .inl (fun _ => 0))) hx hb (hw _ w_arr_int) rfl hK hP hD hS hA (fun _ => rfl) (by decide) (by decide) (by decide) (Nat.le_of_ble_eq_true rfl) (Nat.le_of_ble_eq_true rfl) dX3_init_24 (fun q5 y6 H hK1 hP hD hS => ?_)
  have hP : va_P (dC, dI) cls [(h_mx, .inr (2, [.null, .null, .null, .ref q1, .int 0, .ref q3, .int 0, .null, .null, .null, .int 0, .int 0]))] H := hP.sub [0] rfl
  have hD : va_D A [(h_mx, .inr (2, [.null, .null, .null, .ref q1, .int 0, .ref q3, .int 0, .null, .null, .null, .int 0, .int 0]))] := hD.sub [0] (by decide) rfl
  refine va_putF (D := (dC, dI)) (ci := 2) (v := .ref q5) (ty := tyX3 7) (C := RX3) (T := TX3) (N := 12) hx hb hw iwX3 tyX3 tyX3_ok nmX3 hown hK hP hD hS 0 rfl rfl 7 (by decide) (hw _ w_f_X3_18) (fun _ h9 => h9) rfl hin rfl (tyX3_ok 7 (by decide)) rfl rfl (Nat.le_of_ble_eq_true rfl) dX3_init_26 (fun H locs hP hD hS => ?_)
  have hP : va_P (dC, dI) cls [(h_mx, .inr (2, [.null, .null, .null, .ref q1, .int 0, .ref q3, .int 0, .ref q5, .null, .null, .int 0, .int 0]))] H := hP
  have hD : va_D A [(h_mx, .inr (2, [.null, .null, .null, .ref q1, .int 0, .ref q3, .int 0, .ref q5, .null, .null, .int 0, .int 0]))] := hD
  refine lv_aload_n hx hb dX3_init_29 rfl (lv_at hl 0 rfl) ?_
  refine lv_sipush (v := 180) hx hb dX3_init_30 (by decide) ?_
  refine va_newa (atype := .int) (n := 180) (N' := 180) (a0 := (180, .inl (fun _ => 0))) hx hb (hw _ w_arr_int) rfl hK hP hD hS hA (fun _ => rfl) (by decide) (by decide) (by decide) (Nat.le_of_ble_eq_true rfl) (Nat.le_of_ble_eq_true rfl) dX3_init_33 (fun q7 y8 H hK1 hP hD hS => ?_)
  have hP : va_P (dC, dI) cls [(h_mx, .inr (2, [.null, .null, .null, .ref q1, .int 0, .ref q3, .int 0, .ref q5, .null, .null, .int 0, .int 0]))] H := hP.sub [0] rfl
  have hD : va_D A [(h_mx, .inr (2, [.null, .null, .null, .ref q1, .int 0, .ref q3, .int 0, .ref q5, .null, .null, .int 0, .int 0]))] := hD.sub [0] (by decide) rfl
  refine va_putF (D := (dC, dI)) (ci := 2) (v := .ref q7) (ty := tyX3 8) (C := RX3) (T := TX3) (N := 12) hx hb hw iwX3 tyX3 tyX3_ok nmX3 hown hK hP hD hS 0 rfl rfl 8 (by decide) (hw _ w_f_X3_21) (fun _ h9 => h9) rfl hin rfl (tyX3_ok 8 (by decide)) rfl rfl (Nat.le_of_ble_eq_true rfl) dX3_init_35 (fun H locs hP hD hS => ?_)
  have hP : va_P (dC, dI) cls [(h_mx, .inr (2, [.null, .null, .null, .ref q1, .int 0, .ref q3, .int 0, .ref q5, .ref q7, .null, .int 0, .int 0]))] H := hP
  have hD : va_D A [(h_mx, .inr (2, [.null, .null, .null, .ref q1, .int 0, .ref q3, .int 0, .ref q5, .ref q7, .null, .int 0, .int 0]))] := hD
  refine lv_aload_n hx hb dX3_init_38 rfl (lv_at hl 0 rfl) ?_
  refine lv_sipush (v := 180) hx hb dX3_init_39 (by decide) ?_
  refine va_newa (atype := .int) (n := 180) (N' := 180) (a0 := (180, .inl (fun _ => 0))) hx hb (hw _ w_arr_int) rfl hK hP hD hS hA (fun _ => rfl) (by decide) (by decide) (by decide) (Nat.le_of_ble_eq_true rfl) (Nat.le_of_ble_eq_true rfl) dX3_init_42 (fun q9 y10 H hK1 hP hD hS => ?_)
  have hP : va_P (dC, dI) cls [(h_mx, .inr (2, [.null, .null, .null, .ref q1, .int 0, .ref q3, .int 0, .ref q5, .ref q7, .null, .int 0, .int 0]))] H := hP.sub [0] rfl
  have hD : va_D A [(h_mx, .inr (2, [.null, .null, .null, .ref q1, .int 0, .ref q3, .int 0, .ref q5, .ref q7, .null, .int 0, .int 0]))] := hD.sub [0] (by decide) rfl
  refine va_putF (D := (dC, dI)) (ci := 2) (v := .ref q9) (ty := tyX3 9) (C := RX3) (T := TX3) (N := 12) hx hb hw iwX3 tyX3 tyX3_ok nmX3 hown hK hP hD hS 0 rfl rfl 9 (by decide) (hw _ w_f_X3_24) (fun _ h9 => h9) rfl hin rfl (tyX3_ok 9 (by decide)) rfl rfl (Nat.le_of_ble_eq_true rfl) dX3_init_44 (fun H locs hP hD hS => ?_)
  have hP : va_P (dC, dI) cls [(h_mx, .inr (2, [.null, .null, .null, .ref q1, .int 0, .ref q3, .int 0, .ref q5, .ref q7, .ref q9, .int 0, .int 0]))] H := hP
  have hD : va_D A [(h_mx, .inr (2, [.null, .null, .null, .ref q1, .int 0, .ref q3, .int 0, .ref q5, .ref q7, .ref q9, .int 0, .int 0]))] := hD
  refine lv_aload_n hx hb dX3_init_47 rfl (lv_at hl 0 rfl) ?_
  refine lv_bipush (v := (-2)) hx hb dX3_init_48 (by decide) ?_
  refine va_put (D := (dC, dI)) (ci := 2) (v := .int (-2)) (ty := tyX3 10) (C := RX3) (T := TX3) (N := 12) hx hb hw iwX3 tyX3 tyX3_ok nmX3 hown hK hP hD hS 0 rfl rfl 10 (by decide) (hw _ w_f_X3_27) (fun _ h9 => h9) rfl (tyX3_ok 10 (by decide)) rfl rfl (Nat.le_of_ble_eq_true rfl) dX3_init_50 (fun H locs hP hD hS => ?_)
  have hP : va_P (dC, dI) cls [(h_mx, .inr (2, [.null, .null, .null, .ref q1, .int 0, .ref q3, .int 0, .ref q5, .ref q7, .ref q9, .int (-2), .int 0]))] H := hP
  have hD : va_D A [(h_mx, .inr (2, [.null, .null, .null, .ref q1, .int 0, .ref q3, .int 0, .ref q5, .ref q7, .ref q9, .int (-2), .int 0]))] := hD
  refine lv_aload_n hx hb dX3_init_53 rfl (lv_at hl 0 rfl) ?_
  refine lv_aload_n hx hb dX3_init_54 rfl (lv_at hl 1 rfl) ?_
  refine va_putF (D := (dC, dI)) (ci := 2) (v := .ref p1) (ty := tyX3 0) (C := RX3) (T := TX3) (N := 12) hx hb hw iwX3 tyX3 tyX3_ok nmX3 hown hK hP hD hS 0 rfl rfl 0 (by decide) (hw _ w_f_X3_31) (fun _ h9 => h9) rfl hin rfl (tyX3_ok 0 (by decide)) rfl rfl (Nat.le_of_ble_eq_true rfl) dX3_init_55 (fun H locs hP hD hS => ?_)
  have hP : va_P (dC, dI) cls [(h_mx, .inr (2, [.ref p1, .null, .null, .ref q1, .int 0, .ref q3, .int 0, .ref q5, .ref q7, .ref q9, .int (-2), .int 0]))] H := hP
  have hD : va_D A [(h_mx, .inr (2, [.ref p1, .null, .null, .ref q1, .int 0, .ref q3, .int 0, .ref q5, .ref q7, .ref q9, .int (-2), .int 0]))] := hD
  refine lv_aload_n hx hb dX3_init_58 rfl (lv_at hl 0 rfl) ?_
  refine lv_aload_n hx hb dX3_init_59 rfl (lv_at hl 2 rfl) ?_
  refine va_putF (D := (dC, dI)) (ci := 2) (v := .ref p2) (ty := tyX3 1) (C := RX3) (T := TX3) (N := 12) hx hb hw iwX3 tyX3 tyX3_ok nmX3 hown hK hP hD hS 0 rfl rfl 1 (by decide) (hw _ w_f_X3_35) (fun _ h9 => h9) rfl hin rfl (tyX3_ok 1 (by decide)) rfl rfl (Nat.le_of_ble_eq_true rfl) dX3_init_60 (fun H locs hP hD hS => ?_)
  have hP : va_P (dC, dI) cls [(h_mx, .inr (2, [.ref p1, .ref p2, .null, .ref q1, .int 0, .ref q3, .int 0, .ref q5, .ref q7, .ref q9, .int (-2), .int 0]))] H := hP
  have hD : va_D A [(h_mx, .inr (2, [.ref p1, .ref p2, .null, .ref q1, .int 0, .ref q3, .int 0, .ref q5, .ref q7, .ref q9, .int (-2), .int 0]))] := hD
  refine lv_aload_n hx hb dX3_init_63 rfl (lv_at hl 0 rfl) ?_
  refine lv_aload_n hx hb dX3_init_64 rfl (lv_at hl 3 rfl) ?_
  refine va_putF (D := (dC, dI)) (ci := 2) (v := .ref p3) (ty := tyX3 2) (C := RX3) (T := TX3) (N := 12) hx hb hw iwX3 tyX3 tyX3_ok nmX3 hown hK hP hD hS 0 rfl rfl 2 (by decide) (hw _ w_f_X3_39) (fun _ h9 => h9) rfl hin rfl (tyX3_ok 2 (by decide)) rfl rfl (Nat.le_of_ble_eq_true rfl) dX3_init_65 (fun H locs hP hD hS => ?_)
  have hP : va_P (dC, dI) cls [(h_mx, .inr (2, [.ref p1, .ref p2, .ref p3, .ref q1, .int 0, .ref q3, .int 0, .ref q5, .ref q7, .ref q9, .int (-2), .int 0]))] H := hP
  have hD : va_D A [(h_mx, .inr (2, [.ref p1, .ref p2, .ref p3, .ref q1, .int 0, .ref q3, .int 0, .ref q5, .ref q7, .ref q9, .int (-2), .int 0]))] := hD
  refine W.widen (k := 5) (n := 600) (Nat.le_of_ble_eq_true rfl) (Nat.le_of_ble_eq_true rfl) ?_
  have hK9 := hK.sub (tys' := []) [] rfl
  exact W.vret hx hb hr (fun t ht hW => ⟨⟨(fun k => List.getD [.ref p1, .ref p2, .ref p3, .ref q1, .int 0, .ref q3, .int 0, .ref q5, .ref q7, .ref q9, .int (-2), .int 0] k .null), rfl, trivial, by rw [ht]; exact hP, va_K.moved hW.alike hK9, hD⟩, hS.F ht⟩) hS.2.2 dX3_init_68

set_option maxHeartbeats 4000000 in
set_option maxRecDepth 100000 in
theorem c_X0_init (l : Launch) (dC : Nat → ClassId) (dI : Nat → Nat → Nat) (sz : Nat) (h_an : Nat) : Met l yX0_init (Ws yX0_init cX0_init 1 none) ({ frames := 1, cells := 4, slots := 32, locals := 24 }) (PRE (dC, dI) cls [] [(h_an, .inr (0, [.null, .null, .null, .null, .int 0, .int 0]))] sz [.ref h_an]) (va_Qv (fun (_ : (Nat → Value)) => True) (fun (u : (Nat → Value)) (t : State) => va_P (dC, dI) cls [(h_an, .inr (0, [(u 0), (u 1), (u 2), (u 3), .int 0, .int 0]))] t.heap ∧ va_K (dC, dI) cls [] t ∧ va_D (va_A [(h_an, .inr (0, [.null, .null, .null, .null, .int 0, .int 0]))] sz) [(h_an, .inr (0, [(u 0), (u 1), (u 2), (u 3), .int 0, .int 0]))]) (va_A [(h_an, .inr (0, [.null, .null, .null, .null, .int 0, .int 0]))] sz)) 4 32 (va_A [(h_an, .inr (0, [.null, .null, .null, .null, .int 0, .int 0]))] sz) := by
  refine Met.ofW (cc := cX0_init) (maxL := 1) (ret := none) (by decide) rfl ?_
  intro p e s m args below meth c s₁ B hml hv
  obtain ⟨rfl, hsz, hP, hK, hD0, hN⟩ := hv
  have hx := B.exec
  have hb := B.bytes
  have hr := B.returns
  have hts := atoms_spec (ws := Ws yX0_init cX0_init 1 none) B.pre
  have hT : ∀ w ∈ WALL, w ∈ Ws yX0_init cX0_init 1 none := fun w h => List.mem_cons_of_mem _ h
  have hw := fun w (h : w ∈ WALL) => hts w (hT w h)
  have hown : s.vm.findClass RX0 = some m.cls := findClass_of_methodNamed B.named
  have hlocks := B.notSynchronized
  have hin : meth.name = "<init>" := (name_of_methodNamed B.named B.method).1
  subst hsz
  have hD := hD0.self (sz := s.heap.size)
  generalize hAe : va_A [(h_an, .inr (0, [.null, .null, .null, .null, .int 0, .int 0]))] s.heap.size = A at hD ⊢
  have hA : ∀ q : Nat, s.heap.size ≤ q → A q := fun q h => by rw [← hAe]; exact Or.inr h
  have hS : va_S A s.heap s.heap [] := va_S.rf
  have hl := lv_entry ([.ref h_an]) (n := 1) (Nat.le_of_ble_eq_true rfl)
  rw [lg_entry_eq]
  generalize (lg_sl ([.ref h_an]) ++ List.replicate (1 - (lg_sl ([.ref h_an])).length) Slot.unset).toArray = ls at hl ⊢
  have hl : lv_has ls 1 [(0, .ref h_an)] := hl
  refine lv_aload_n hx hb dX0_init_0 rfl (lv_at hl 0 rfl) ?_
  refine W.objInit hx hb hown (hw _ w_m_X0_3) (hw _ w_instanceMethod_objInit) (hw _ w_code_objInit) rfl (by rw [hml]; exact hl.1) rfl dX0_init_1 (Nat.le_of_ble_eq_true rfl) (Nat.le_of_ble_eq_true rfl) ?_
  refine W.eq (g2 := F0 m 4 ls []) rfl ?_
  refine lv_aload_n hx hb dX0_init_4 rfl (lv_at hl 0 rfl) ?_
  refine lv_bipush (v := 8) hx hb dX0_init_5 (by decide) ?_
  refine va_newa (atype := .int) (n := 8) (N' := 8) (a0 := (8, .inl (fun _ => 0))) hx hb (hw _ w_arr_int) rfl hK hP hD hS hA (fun _ => rfl) (by decide) (by decide) (by decide) (Nat.le_of_ble_eq_true rfl) (Nat.le_of_ble_eq_true rfl) dX0_init_7 (fun q1 y2 H hK1 hP hD hS => ?_)
  have hP : va_P (dC, dI) cls [(h_an, .inr (0, [.null, .null, .null, .null, .int 0, .int 0]))] H := hP.sub [0] rfl
  have hD : va_D A [(h_an, .inr (0, [.null, .null, .null, .null, .int 0, .int 0]))] := hD.sub [0] (by decide) rfl
  refine va_putF (D := (dC, dI)) (ci := 0) (v := .ref q1) (ty := tyX0 0) (C := RX0) (T := TX0) (N := 6) hx hb hw iwX0 tyX0 tyX0_ok nmX0 hown hK hP hD hS 0 rfl rfl 0 (by decide) (hw _ w_f_X0_9) (fun _ h9 => h9) rfl hin rfl (tyX0_ok 0 (by decide)) rfl rfl (Nat.le_of_ble_eq_true rfl) dX0_init_9 (fun H locs hP hD hS => ?_)
  have hP : va_P (dC, dI) cls [(h_an, .inr (0, [.ref q1, .null, .null, .null, .int 0, .int 0]))] H := hP
  have hD : va_D A [(h_an, .inr (0, [.ref q1, .null, .null, .null, .int 0, .int 0]))] := hD
  refine lv_aload_n hx hb dX0_init_12 rfl (lv_at hl 0 rfl) ?_
  refine lv_bipush (v := 8) hx hb dX0_init_13 (by decide) ?_
  refine va_newa (atype := .int) (n := 8) (N' := 8) (a0 := (8, .inl (fun _ => 0))) hx hb (hw _ w_arr_int) rfl hK hP hD hS hA (fun _ => rfl) (by decide) (by decide) (by decide) (Nat.le_of_ble_eq_true rfl) (Nat.le_of_ble_eq_true rfl) dX0_init_15 (fun q3 y4 H hK1 hP hD hS => ?_)
  have hP : va_P (dC, dI) cls [(h_an, .inr (0, [.ref q1, .null, .null, .null, .int 0, .int 0]))] H := hP.sub [0] rfl
  have hD : va_D A [(h_an, .inr (0, [.ref q1, .null, .null, .null, .int 0, .int 0]))] := hD.sub [0] (by decide) rfl
  refine va_putF (D := (dC, dI)) (ci := 0) (v := .ref q3) (ty := tyX0 1) (C := RX0) (T := TX0) (N := 6) hx hb hw iwX0 tyX0 tyX0_ok nmX0 hown hK hP hD hS 0 rfl rfl 1 (by decide) (hw _ w_f_X0_15) (fun _ h9 => h9) rfl hin rfl (tyX0_ok 1 (by decide)) rfl rfl (Nat.le_of_ble_eq_true rfl) dX0_init_17 (fun H locs hP hD hS => ?_)
  have hP : va_P (dC, dI) cls [(h_an, .inr (0, [.ref q1, .ref q3, .null, .null, .int 0, .int 0]))] H := hP
  have hD : va_D A [(h_an, .inr (0, [.ref q1, .ref q3, .null, .null, .int 0, .int 0]))] := hD
  refine lv_aload_n hx hb dX0_init_20 rfl (lv_at hl 0 rfl) ?_
  refine lv_bipush (v := 8) hx hb dX0_init_21 (by decide) ?_
  refine va_newa (atype := .int) (n := 8) (N' := 8) (a0 := (8, .inl (fun _ => 0))) hx hb (hw _ w_arr_int) rfl hK hP hD hS hA (fun _ => rfl) (by decide) (by decide) (by decide) (Nat.le_of_ble_eq_true rfl) (Nat.le_of_ble_eq_true rfl) dX0_init_23 (fun q5 y6 H hK1 hP hD hS => ?_)
  have hP : va_P (dC, dI) cls [(h_an, .inr (0, [.ref q1, .ref q3, .null, .null, .int 0, .int 0]))] H := hP.sub [0] rfl
  have hD : va_D A [(h_an, .inr (0, [.ref q1, .ref q3, .null, .null, .int 0, .int 0]))] := hD.sub [0] (by decide) rfl
  refine va_putF (D := (dC, dI)) (ci := 0) (v := .ref q5) (ty := tyX0 2) (C := RX0) (T := TX0) (N := 6) hx hb hw iwX0 tyX0 tyX0_ok nmX0 hown hK hP hD hS 0 rfl rfl 2 (by decide) (hw _ w_f_X0_18) (fun _ h9 => h9) rfl hin rfl (tyX0_ok 2 (by decide)) rfl rfl (Nat.le_of_ble_eq_true rfl) dX0_init_25 (fun H locs hP hD hS => ?_)
  have hP : va_P (dC, dI) cls [(h_an, .inr (0, [.ref q1, .ref q3, .ref q5, .null, .int 0, .int 0]))] H := hP
  have hD : va_D A [(h_an, .inr (0, [.ref q1, .ref q3, .ref q5, .null, .int 0, .int 0]))] := hD
  refine lv_aload_n hx hb dX0_init_28 rfl (lv_at hl 0 rfl) ?_
  refine lv_bipush (v := 8) hx hb dX0_init_29 (by decide) ?_
  refine va_newa (atype := .int) (n := 8) (N' := 8) (a0 := (8, .inl (fun _ => 0))) hx hb (hw _ w_arr_int) rfl hK hP hD hS hA (fun _ => rfl) (by decide) (by decide) (by decide) (Nat.le_of_ble_eq_true rfl) (Nat.le_of_ble_eq_true rfl) dX0_init_31 (fun q7 y8 H hK1 hP hD hS => ?_)
  have hP : va_P (dC, dI) cls [(h_an, .inr (0, [.ref q1, .ref q3, .ref q5, .null, .int 0, .int 0]))] H := hP.sub [0] rfl
  have hD : va_D A [(h_an, .inr (0, [.ref q1, .ref q3, .ref q5, .null, .int 0, .int 0]))] := hD.sub [0] (by decide) rfl
  refine va_putF (D := (dC, dI)) (ci := 0) (v := .ref q7) (ty := tyX0 3) (C := RX0) (T := TX0) (N := 6) hx hb hw iwX0 tyX0 tyX0_ok nmX0 hown hK hP hD hS 0 rfl rfl 3 (by decide) (hw _ w_f_X0_21) (fun _ h9 => h9) rfl hin rfl (tyX0_ok 3 (by decide)) rfl rfl (Nat.le_of_ble_eq_true rfl) dX0_init_33 (fun H locs hP hD hS => ?_)
  have hP : va_P (dC, dI) cls [(h_an, .inr (0, [.ref q1, .ref q3, .ref q5, .ref q7, .int 0, .int 0]))] H := hP
  have hD : va_D A [(h_an, .inr (0, [.ref q1, .ref q3, .ref q5, .ref q7, .int 0, .int 0]))] := hD
  refine W.widen (k := 4) (n := 32) (Nat.le_of_ble_eq_true rfl) (Nat.le_of_ble_eq_true rfl) ?_
  have hK9 := hK.sub (tys' := []) [] rfl
  exact W.vret hx hb hr (fun t ht hW => ⟨⟨(fun k => List.getD [.ref q1, .ref q3, .ref q5, .ref q7, .int 0, .int 0] k .null), rfl, trivial, by rw [ht]; exact hP, va_K.moved hW.alike hK9, hD⟩, hS.F ht⟩) hS.2.2 dX0_init_36

set_option maxHeartbeats 4000000 in
set_option maxRecDepth 100000 in
theorem c_X10_init (l : Launch) (dC : Nat → ClassId) (dI : Nat → Nat → Nat) (sz : Nat) (h_xx : Nat) : Met l yX10_init (Ws yX10_init cX10_init 1 none) ({ frames := 2, cells := 50, slots := 26797, locals := 47 }) (PRE (dC, dI) cls [] [(h_xx, .inr (7, [.null, .null, .null, .null, .null, .null, .null, .null]))] sz [.ref h_xx]) (va_Qv (fun (_ : (Nat) × (Nat) × (Nat) × (Nat) × (Nat) × (Nat) × (Nat) × (Nat) × (Nat) × (Nat → Value) × (ClassId) × (Nat → Value) × (Nat → Value) × (Nat → Value) × (Nat → Value) × (Nat → Value) × (Nat → Value) × (Nat → Value)) => True) (fun (u : (Nat) × (Nat) × (Nat) × (Nat) × (Nat) × (Nat) × (Nat) × (Nat) × (Nat) × (Nat → Value) × (ClassId) × (Nat → Value) × (Nat → Value) × (Nat → Value) × (Nat → Value) × (Nat → Value) × (Nat → Value) × (Nat → Value)) (t : State) => va_P (dC, dI) cls [(h_xx, .inr (7, [.ref u.1, .ref u.2.1, .ref u.2.2.1, .ref u.2.2.2.1, .ref u.2.2.2.2.1, .ref u.2.2.2.2.2.1, .ref u.2.2.2.2.2.2.1, .ref u.2.2.2.2.2.2.2.1])), (u.1, .inr (4, [.ref u.2.2.2.2.2.2.2.2.1, .int 0, .int 0, .int (-1), .null, (u.2.2.2.2.2.2.2.2.2.1 5), .int 0, .int 0, .int 0, .int 0, .long 0])), (u.2.2.2.2.2.2.2.2.1, .inl (u.2.2.2.2.2.2.2.2.2.2.1, 600, .inl (fun _ => 0))), (u.2.1, .inr (5, [(u.2.2.2.2.2.2.2.2.2.2.2.1 0), (u.2.2.2.2.2.2.2.2.2.2.2.1 1), (u.2.2.2.2.2.2.2.2.2.2.2.1 2), (u.2.2.2.2.2.2.2.2.2.2.2.1 3), .int 0, (u.2.2.2.2.2.2.2.2.2.2.2.1 5), (u.2.2.2.2.2.2.2.2.2.2.2.1 6), (u.2.2.2.2.2.2.2.2.2.2.2.1 7), (u.2.2.2.2.2.2.2.2.2.2.2.1 8), .int 0])), (u.2.2.1, .inr (5, [(u.2.2.2.2.2.2.2.2.2.2.2.2.1 0), (u.2.2.2.2.2.2.2.2.2.2.2.2.1 1), (u.2.2.2.2.2.2.2.2.2.2.2.2.1 2), (u.2.2.2.2.2.2.2.2.2.2.2.2.1 3), .int 0, (u.2.2.2.2.2.2.2.2.2.2.2.2.1 5), (u.2.2.2.2.2.2.2.2.2.2.2.2.1 6), (u.2.2.2.2.2.2.2.2.2.2.2.2.1 7), (u.2.2.2.2.2.2.2.2.2.2.2.2.1 8), .int 0])), (u.2.2.2.1, .inr (1, [.ref u.2.1, (u.2.2.2.2.2.2.2.2.2.2.2.2.2.1 1), (u.2.2.2.2.2.2.2.2.2.2.2.2.2.1 2), .int 0, (u.2.2.2.2.2.2.2.2.2.2.2.2.2.1 4), (u.2.2.2.2.2.2.2.2.2.2.2.2.2.1 5), .int 0, (u.2.2.2.2.2.2.2.2.2.2.2.2.2.1 7), (u.2.2.2.2.2.2.2.2.2.2.2.2.2.1 8), .int 0, (u.2.2.2.2.2.2.2.2.2.2.2.2.2.1 10), (u.2.2.2.2.2.2.2.2.2.2.2.2.2.1 11), .int 0])), (u.2.2.2.2.1, .inr (6, [.ref u.2.1, .ref u.2.2.2.1, (u.2.2.2.2.2.2.2.2.2.2.2.2.2.2.1 2), .int 0, (u.2.2.2.2.2.2.2.2.2.2.2.2.2.2.1 4), .int 0, (u.2.2.2.2.2.2.2.2.2.2.2.2.2.2.1 6), .int 0])), (u.2.2.2.2.2.1, .inr (3, [.ref u.2.1, .ref u.2.2.2.1, (u.2.2.2.2.2.2.2.2.2.2.2.2.2.2.2.1 2), .int 0, (u.2.2.2.2.2.2.2.2.2.2.2.2.2.2.2.1 4), .int 0, (u.2.2.2.2.2.2.2.2.2.2.2.2.2.2.2.1 6), .int 0, (u.2.2.2.2.2.2.2.2.2.2.2.2.2.2.2.1 8), .int 0, .int 0, .int 0, .int 0, .int 0, .int 0, .int 0, .int 0, .int 0])), (u.2.2.2.2.2.2.1, .inr (2, [.ref u.2.1, .ref u.2.2.2.1, .ref u.2.2.2.2.2.1, (u.2.2.2.2.2.2.2.2.2.2.2.2.2.2.2.2.1 3), .int 0, (u.2.2.2.2.2.2.2.2.2.2.2.2.2.2.2.2.1 5), .int 0, (u.2.2.2.2.2.2.2.2.2.2.2.2.2.2.2.2.1 7), (u.2.2.2.2.2.2.2.2.2.2.2.2.2.2.2.2.1 8), (u.2.2.2.2.2.2.2.2.2.2.2.2.2.2.2.2.1 9), .int (-2), .int 0])), (u.2.2.2.2.2.2.2.1, .inr (0, [(u.2.2.2.2.2.2.2.2.2.2.2.2.2.2.2.2.2 0), (u.2.2.2.2.2.2.2.2.2.2.2.2.2.2.2.2.2 1), (u.2.2.2.2.2.2.2.2.2.2.2.2.2.2.2.2.2 2), (u.2.2.2.2.2.2.2.2.2.2.2.2.2.2.2.2.2 3), .int 0, .int 0]))] t.heap ∧ va_K (dC, dI) cls [(u.2.2.2.2.2.2.2.2.2.2.1, .int)] t ∧ va_D (va_A [(h_xx, .inr (7, [.null, .null, .null, .null, .null, .null, .null, .null]))] sz) [(h_xx, .inr (7, [.ref u.1, .ref u.2.1, .ref u.2.2.1, .ref u.2.2.2.1, .ref u.2.2.2.2.1, .ref u.2.2.2.2.2.1, .ref u.2.2.2.2.2.2.1, .ref u.2.2.2.2.2.2.2.1])), (u.1, .inr (4, [.ref u.2.2.2.2.2.2.2.2.1, .int 0, .int 0, .int (-1), .null, (u.2.2.2.2.2.2.2.2.2.1 5), .int 0, .int 0, .int 0, .int 0, .long 0])), (u.2.2.2.2.2.2.2.2.1, .inl (u.2.2.2.2.2.2.2.2.2.2.1, 600, .inl (fun _ => 0))), (u.2.1, .inr (5, [(u.2.2.2.2.2.2.2.2.2.2.2.1 0), (u.2.2.2.2.2.2.2.2.2.2.2.1 1), (u.2.2.2.2.2.2.2.2.2.2.2.1 2), (u.2.2.2.2.2.2.2.2.2.2.2.1 3), .int 0, (u.2.2.2.2.2.2.2.2.2.2.2.1 5), (u.2.2.2.2.2.2.2.2.2.2.2.1 6), (u.2.2.2.2.2.2.2.2.2.2.2.1 7), (u.2.2.2.2.2.2.2.2.2.2.2.1 8), .int 0])), (u.2.2.1, .inr (5, [(u.2.2.2.2.2.2.2.2.2.2.2.2.1 0), (u.2.2.2.2.2.2.2.2.2.2.2.2.1 1), (u.2.2.2.2.2.2.2.2.2.2.2.2.1 2), (u.2.2.2.2.2.2.2.2.2.2.2.2.1 3), .int 0, (u.2.2.2.2.2.2.2.2.2.2.2.2.1 5), (u.2.2.2.2.2.2.2.2.2.2.2.2.1 6), (u.2.2.2.2.2.2.2.2.2.2.2.2.1 7), (u.2.2.2.2.2.2.2.2.2.2.2.2.1 8), .int 0])), (u.2.2.2.1, .inr (1, [.ref u.2.1, (u.2.2.2.2.2.2.2.2.2.2.2.2.2.1 1), (u.2.2.2.2.2.2.2.2.2.2.2.2.2.1 2), .int 0, (u.2.2.2.2.2.2.2.2.2.2.2.2.2.1 4), (u.2.2.2.2.2.2.2.2.2.2.2.2.2.1 5), .int 0, (u.2.2.2.2.2.2.2.2.2.2.2.2.2.1 7), (u.2.2.2.2.2.2.2.2.2.2.2.2.2.1 8), .int 0, (u.2.2.2.2.2.2.2.2.2.2.2.2.2.1 10), (u.2.2.2.2.2.2.2.2.2.2.2.2.2.1 11), .int 0])), (u.2.2.2.2.1, .inr (6, [.ref u.2.1, .ref u.2.2.2.1, (u.2.2.2.2.2.2.2.2.2.2.2.2.2.2.1 2), .int 0, (u.2.2.2.2.2.2.2.2.2.2.2.2.2.2.1 4), .int 0, (u.2.2.2.2.2.2.2.2.2.2.2.2.2.2.1 6), .int 0])), (u.2.2.2.2.2.1, .inr (3, [.ref u.2.1, .ref u.2.2.2.1, (u.2.2.2.2.2.2.2.2.2.2.2.2.2.2.2.1 2), .int 0, (u.2.2.2.2.2.2.2.2.2.2.2.2.2.2.2.1 4), .int 0, (u.2.2.2.2.2.2.2.2.2.2.2.2.2.2.2.1 6), .int 0, (u.2.2.2.2.2.2.2.2.2.2.2.2.2.2.2.1 8), .int 0, .int 0, .int 0, .int 0, .int 0, .int 0, .int 0, .int 0, .int 0])), (u.2.2.2.2.2.2.1, .inr (2, [.ref u.2.1, .ref u.2.2.2.1, .ref u.2.2.2.2.2.1, (u.2.2.2.2.2.2.2.2.2.2.2.2.2.2.2.2.1 3), .int 0, (u.2.2.2.2.2.2.2.2.2.2.2.2.2.2.2.2.1 5), .int 0, (u.2.2.2.2.2.2.2.2.2.2.2.2.2.2.2.2.1 7), (u.2.2.2.2.2.2.2.2.2.2.2.2.2.2.2.2.1 8), (u.2.2.2.2.2.2.2.2.2.2.2.2.2.2.2.2.1 9), .int (-2), .int 0])), (u.2.2.2.2.2.2.2.1, .inr (0, [(u.2.2.2.2.2.2.2.2.2.2.2.2.2.2.2.2.2 0), (u.2.2.2.2.2.2.2.2.2.2.2.2.2.2.2.2.2 1), (u.2.2.2.2.2.2.2.2.2.2.2.2.2.2.2.2.2 2), (u.2.2.2.2.2.2.2.2.2.2.2.2.2.2.2.2.2 3), .int 0, .int 0]))]) (va_A [(h_xx, .inr (7, [.null, .null, .null, .null, .null, .null, .null, .null]))] sz)) 50 26797 (va_A [(h_xx, .inr (7, [.null, .null, .null, .null, .null, .null, .null, .null]))] sz) := by
  refine Met.ofW (cc := cX10_init) (maxL := 1) (ret := none) (by decide) rfl ?_
  intro p e s m args below meth c s₁ B hml hv
  obtain ⟨rfl, hsz, hP, hK, hD0, hN⟩ := hv
  have hx := B.exec
  have hb := B.bytes
  have hr := B.returns
  have hts := atoms_spec (ws := Ws yX10_init cX10_init 1 none) B.pre
  have hT : ∀ w ∈ WALL, w ∈ Ws yX10_init cX10_init 1 none := fun w h => List.mem_cons_of_mem _ h
  have hw := fun w (h : w ∈ WALL) => hts w (hT w h)
  have hown : s.vm.findClass RX10 = some m.cls := findClass_of_methodNamed B.named
  have hlocks := B.notSynchronized
  have hin : meth.name = "<init>" := (name_of_methodNamed B.named B.method).1
  subst hsz
  have hD := hD0.self (sz := s.heap.size)
  generalize hAe : va_A [(h_xx, .inr (7, [.null, .null, .null, .null, .null, .null, .null, .null]))] s.heap.size = A at hD ⊢
  have hA : ∀ q : Nat, s.heap.size ≤ q → A q := fun q h => by rw [← hAe]; exact Or.inr h
  have hS : va_S A s.heap s.heap [] := va_S.rf
  have hl := lv_entry ([.ref h_xx]) (n := 1) (Nat.le_of_ble_eq_true rfl)
  rw [lg_entry_eq]
  generalize (lg_sl ([.ref h_xx]) ++ List.replicate (1 - (lg_sl ([.ref h_xx])).length) Slot.unset).toArray = ls at hl ⊢
  have hl : lv_has ls 1 [(0, .ref h_xx)] := hl
  refine lv_aload_n hx hb dX10_init_0 rfl (lv_at hl 0 rfl) ?_
  refine W.objInit hx hb hown (hw _ w_m_X10_3) (hw _ w_instanceMethod_objInit) (hw _ w_code_objInit) rfl (by rw [hml]; exact hl.1) rfl dX10_init_1 (Nat.le_of_ble_eq_true rfl) (Nat.le_of_ble_eq_true rfl) ?_
  refine W.eq (g2 := F0 m 4 ls []) rfl ?_
  refine lv_aload_n hx hb dX10_init_4 rfl (lv_at hl 0 rfl) ?_
  refine va_new (ci := 4) (fs := [.null, .int 0, .int 0, .int 0, .null, .null, .int 0, .int 0, .int 0, .int 0, .long 0]) (C := RX5) (T := TX5) (N := 11) hx hb hw iwX5 tyX5 tyX5_ok hown (hw _ w_c_X10_9) (hw _ w_in_X5) (hw _ w_ini_X5) hK hP hD hS hA rfl (dfX5) (Nat.le_of_ble_eq_true rfl) (Nat.le_of_ble_eq_true rfl) dX10_init_5 (fun q1 H hP hD hS => ?_)
  have hP : va_P (dC, dI) cls [(h_xx, .inr (7, [.null, .null, .null, .null, .null, .null, .null, .null])), (q1, .inr (4, [.null, .int 0, .int 0, .int 0, .null, .null, .int 0, .int 0, .int 0, .int 0, .long 0]))] H := hP
  have hD : va_D A [(h_xx, .inr (7, [.null, .null, .null, .null, .null, .null, .null, .null])), (q1, .inr (4, [.null, .int 0, .int 0, .int 0, .null, .null, .int 0, .int 0, .int 0, .int 0, .long 0]))] := hD
  refine lv_dup hx hb dX10_init_8 rfl ?_
  have hPc := hP.sub (ws' := [(q1, .inr (4, [.null, .int 0, .int 0, .int 0, .null, .null, .int 0, .int 0, .int 0, .int 0, .long 0]))]) [1] rfl
  have hDc := hD.sub (ws' := [(q1, .inr (4, [.null, .int 0, .int 0, .int 0, .null, .null, .int 0, .int 0, .int 0, .int 0, .long 0]))]) [1] (by decide) rfl
  have hKc := hK.sub (tys' := []) [] rfl
  have hFc := va_free (wc := [(q1, .inr (4, [.null, .int 0, .int 0, .int 0, .null, .null, .int 0, .int 0, .int 0, .int 0, .long 0]))]) hD hS hA [1] rfl
  refine va_callv (va_runIN (As := []) (rest := [.ref q1, .ref h_xx]) ⟨hx, hb, hml, hown, hts⟩ (c_X5_init l dC dI H.size q1) ⟨va_cnB (host := "OppositePairs") 0 hts (gd hT w_code_X5_init) rfl rfl rfl (hN _ n_m_X10_11) (hw _ w_ini_X5) (by decide +kernel) ⟨(Nat.le_of_ble_eq_true rfl), (Nat.le_of_ble_eq_true rfl)⟩, rfl, hw _ w_instanceMethod_X5_init⟩ ⟨pre_blind, pre_of hPc hKc hDc hN⟩ rfl rfl hl.1 rfl (lv_room (Nat.le_of_ble_eq_true rfl)) dX10_init_9 ⟨(Nat.le_of_ble_eq_true rfl), (Nat.le_of_ble_eq_true rfl)⟩) hS (fun q _ h => hFc q h) hFc (fun u t H locs ht hvm hq hB hz1 hk1 hS => ?_)
  obtain ⟨v3, q4, y5⟩ := u
  obtain ⟨hP1, hK1, hD1⟩ := hB
  rw [ht] at hP1
  have hK1 := va_K.moved hvm.symm hK1
  obtain ⟨hP, hD⟩ := va_join (wr := [(h_xx, .inr (7, [.null, .null, .null, .null, .null, .null, .null, .null]))]) (w1 := [(q1, .inr (4, [.ref q4, .int 0, .int 0, .int (-1), .null, (v3 5), .int 0, .int 0, .int 0, .int 0, .long 0])), (q4, .inl (y5, 600, .inl (fun _ => 0)))]) hP hD [1] [0] rfl rfl (by decide) (by decide) hk1 hFc hP1 hD1
  have hK := hK.app hK1
  have hK : va_K (dC, dI) cls [(y5, .int)] s := hK
  have hP : va_P (dC, dI) cls [(h_xx, .inr (7, [.null, .null, .null, .null, .null, .null, .null, .null])), (q1, .inr (4, [.ref q4, .int 0, .int 0, .int (-1), .null, (v3 5), .int 0, .int 0, .int 0, .int 0, .long 0])), (q4, .inl (y5, 600, .inl (fun _ => 0)))] H := hP
  have hD : va_D A [(h_xx, .inr (7, [.null, .null, .null, .null, .null, .null, .null, .null])), (q1, .inr (4, [.ref q4, .int 0, .int 0, .int (-1), .null, (v3 5), .int 0, .int 0, .int 0, .int 0, .long 0])), (q4, .inl (y5, 600, .inl (fun _ => 0)))] := hD
  refine va_putF (D := (dC, dI)) (ci := 7) (v := .ref q1) (ty := tyX10 0) (C := RX10) (T := TX10) (N := 8) hx hb hw iwX10 tyX10 tyX10_ok nmX10 hown hK hP hD hS 0 rfl rfl 0 (by decide) (hw _ w_f_X10_12) (fun _ h9 => h9) rfl hin rfl (tyX10_ok 0 (by decide)) rfl rfl (Nat.le_of_ble_eq_true rfl) dX10_init_12 (fun H locs hP hD hS => ?_)
  have hP : va_P (dC, dI) cls [(h_xx, .inr (7, [.ref q1, .null, .null, .null, .null, .null, .null, .null])), (q1, .inr (4, [.ref q4, .int 0, .int 0, .int (-1), .null, (v3 5), .int 0, .int 0, .int 0, .int 0, .long 0])), (q4, .inl (y5, 600, .inl (fun _ => 0)))] H := hP
  have hD : va_D A [(h_xx, .inr (7, [.ref q1, .null, .null, .null, .null, .null, .null, .null])), (q1, .inr (4, [.ref q4, .int 0, .int 0, .int (-1), .null, (v3 5), .int 0, .int 0, .int 0, .int 0, .long 0])), (q4, .inl (y5, 600, .inl (fun _ => 0)))] := hD
  refine lv_aload_n hx hb dX10_init_15 rfl (lv_at hl 0 rfl) ?_
  refine va_new (ci := 5) (fs := [.null, .null, .null, .null, .int 0, .null, .null, .null, .null, .int 0]) (C := RX8) (T := TX8) (N := 10) hx hb hw iwX8 tyX8 tyX8_ok hown (hw _ w_c_X10_16) (hw _ w_in_X8) (hw _ w_ini_X8) hK hP hD hS hA rfl (dfX8) (Nat.le_of_ble_eq_true rfl) (Nat.le_of_ble_eq_true rfl) dX10_init_16 (fun q6 H hP hD hS => ?_)
  have hP : va_P (dC, dI) cls [(h_xx, .inr (7, [.ref q1, .null, .null, .null, .null, .null, .null, .null])), (q1, .inr (4, [.ref q4, .int 0, .int 0, .int (-1), .null, (v3 5), .int 0, .int 0, .int 0, .int 0, .long 0])), (q4, .inl (y5, 600, .inl (fun _ => 0))), (q6, .inr (5, [.null, .null, .null, .null, .int 0, .null, .null, .null, .null, .int 0]))] H := hP
  have hD : va_D A [(h_xx, .inr (7, [.ref q1, .null, .null, .null, .null, .null, .null, .null])), (q1, .inr (4, [.ref q4, .int 0, .int 0, .int (-1), .null, (v3 5), .int 0, .int 0, .int 0, .int 0, .long 0])), (q4, .inl (y5, 600, .inl (fun _ => 0))), (q6, .inr (5, [.null, .null, .null, .null, .int 0, .null, .null, .null, .null, .int 0]))] := hD
  refine lv_dup hx hb dX10_init_19 rfl ?_
  have hPc := hP.sub (ws' := [(q6, .inr (5, [.null, .null, .null, .null, .int 0, .null, .null, .null, .null, .int 0]))]) [3] rfl
  have hDc := hD.sub (ws' := [(q6, .inr (5, [.null, .null, .null, .null, .int 0, .null, .null, .null, .null, .int 0]))]) [3] (by decide) rfl
  have hKc := hK.sub (tys' := []) [] rfl
  have hFc := va_free (wc := [(q6, .inr (5, [.null, .null, .null, .null, .int 0, .null, .null, .null, .null, .int 0]))]) hD hS hA [3] rfl
  refine va_callv (va_runIN (As := []) (rest := [.ref q6, .ref h_xx]) ⟨hx, hb, hml, hown, hts⟩ (c_X8_init l dC dI H.size q6) ⟨va_cnB (host := "OppositePairs") 0 hts (gd hT w_code_X8_init) rfl rfl rfl (hN _ n_m_X10_18) (hw _ w_ini_X8) (by decide +kernel) ⟨(Nat.le_of_ble_eq_true rfl), (Nat.le_of_ble_eq_true rfl)⟩, rfl, hw _ w_instanceMethod_X8_init⟩ ⟨pre_blind, pre_of hPc hKc hDc hN⟩ rfl rfl hl.1 rfl (lv_room (Nat.le_of_ble_eq_true rfl)) dX10_init_20 ⟨(Nat.le_of_ble_eq_true rfl), (Nat.le_of_ble_eq_true rfl)⟩) hS (fun q _ h => hFc q h) hFc (fun u t H locs ht hvm hq hB hz1 hk1 hS => ?_)
  obtain ⟨v8, rfl⟩ : ∃ z, z = u := ⟨_, rfl⟩
  obtain ⟨hP1, hK1, hD1⟩ := hB
  rw [ht] at hP1
  have hK1 := va_K.moved hvm.symm hK1
  obtain ⟨hP, hD⟩ := va_join (wr := [(h_xx, .inr (7, [.ref q1, .null, .null, .null, .null, .null, .null, .null])), (q1, .inr (4, [.ref q4, .int 0, .int 0, .int (-1), .null, (v3 5), .int 0, .int 0, .int 0, .int 0, .long 0])), (q4, .inl (y5, 600, .inl (fun _ => 0)))]) (w1 := [(q6, .inr (5, [(v8 0), (v8 1), (v8 2), (v8 3), .int 0, (v8 5), (v8 6), (v8 7), (v8 8), .int 0]))]) hP hD [3] [0, 1, 2] rfl rfl (by decide) (by decide) hk1 hFc hP1 hD1
  have hP : va_P (dC, dI) cls [(h_xx, .inr (7, [.ref q1, .null, .null, .null, .null, .null, .null, .null])), (q1, .inr (4, [.ref q4, .int 0, .int 0, .int (-1), .null, (v3 5), .int 0, .int 0, .int 0, .int 0, .long 0])), (q4, .inl (y5, 600, .inl (fun _ => 0))), (q6, .inr (5, [(v8 0), (v8 1), (v8 2), (v8 3), .int 0, (v8 5), (v8 6), (v8 7), (v8 8), .int 0]))] H := hP
  have hD : va_D A [(h_xx, .inr (7, [.ref q1, .null, .null, .null, .null, .null, .null, .null])), (q1, .inr (4, [.ref q4, .int 0, .int 0, .int (-1), .null, (v3 5), .int 0, .int 0, .int 0, .int 0, .long 0])), (q4, .inl (y5, 600, .inl (fun _ => 0))), (q6, .inr (5, [(v8 0), (v8 1), (v8 2), (v8 3), .int 0, (v8 5), (v8 6), (v8 7), (v8 8), .int 0]))] := hD
  refine va_putF (D := (dC, dI)) (ci := 7) (v := .ref q6) (ty := tyX10 1) (C := RX10) (T := TX10) (N := 8) hx hb hw iwX10 tyX10 tyX10_ok nmX10 hown hK hP hD hS 0 rfl rfl 1 (by decide) (hw _ w_f_X10_19) (fun _ h9 => h9) rfl hin rfl (tyX10_ok 1 (by decide)) rfl rfl (Nat.le_of_ble_eq_true rfl) dX10_init_23 (fun H locs hP hD hS => ?_)
  have hP : va_P (dC, dI) cls [(h_xx, .inr (7, [.ref q1, .ref q6, .null, .null, .null, .null, .null, .null])), (q1, .inr (4, [.ref q4, .int 0, .int 0, .int (-1), .null, (v3 5), .int 0, .int 0, .int 0, .int 0, .long 0])), (q4, .inl (y5, 600, .inl (fun _ => 0))), (q6, .inr (5, [(v8 0), (v8 1), (v8 2), (v8 3), .int 0, (v8 5), (v8 6), (v8 7), (v8 8), .int 0]))] H := hP
  have hD : va_D A [(h_xx, .inr (7, [.ref q1, .ref q6, .null, .null, .null, .null, .null, .null])), (q1, .inr (4, [.ref q4, .int 0, .int 0, .int (-1), .null, (v3 5), .int 0, .int 0, .int 0, .int 0, .long 0])), (q4, .inl (y5, 600, .inl (fun _ => 0))), (q6, .inr (5, [(v8 0), (v8 1), (v8 2), (v8 3), .int 0, (v8 5), (v8 6), (v8 7), (v8 8), .int 0]))] := hD
  refine lv_aload_n hx hb dX10_init_26 rfl (lv_at hl 0 rfl) ?_
  refine va_new (ci := 5) (fs := [.null, .null, .null, .null, .int 0, .null, .null, .null, .null, .int 0]) (C := RX8) (T := TX8) (N := 10) hx hb hw iwX8 tyX8 tyX8_ok hown (hw _ w_c_X10_16) (hw _ w_in_X8) (hw _ w_ini_X8) hK hP hD hS hA rfl (dfX8) (Nat.le_of_ble_eq_true rfl) (Nat.le_of_ble_eq_true rfl) dX10_init_27 (fun q9 H hP hD hS => ?_)
  have hP : va_P (dC, dI) cls [(h_xx, .inr (7, [.ref q1, .ref q6, .null, .null, .null, .null, .null, .null])), (q1, .inr (4, [.ref q4, .int 0, .int 0, .int (-1), .null, (v3 5), .int 0, .int 0, .int 0, .int 0, .long 0])), (q4, .inl (y5, 600, .inl (fun _ => 0))), (q6, .inr (5, [(v8 0), (v8 1), (v8 2), (v8 3), .int 0, (v8 5), (v8 6), (v8 7), (v8 8), .int 0])), (q9, .inr (5, [.null, .null, .null, .null, .int 0, .null, .null, .null, .null, .int 0]))] H := hP
  have hD : va_D A [(h_xx, .inr (7, [.ref q1, .ref q6, .null, .null, .null, .null, .null, .null])), (q1, .inr (4, [.ref q4, .int 0, .int 0, .int (-1), .null, (v3 5), .int 0, .int 0, .int 0, .int 0, .long 0])), (q4, .inl (y5, 600, .inl (fun _ => 0))), (q6, .inr (5, [(v8 0), (v8 1), (v8 2), (v8 3), .int 0, (v8 5), (v8 6), (v8 7), (v8 8), .int 0])), (q9, .inr (5, [.null, .null, .null, .null, .int 0, .null, .null, .null, .null, .int 0]))] := hD
  refine lv_dup hx hb dX10_init_30 rfl ?_
  have hPc := hP.sub (ws' := [(q9, .inr (5, [.null, .null, .null, .null, .int 0, .null, .null, .null, .null, .int 0]))]) [4] rfl
  have hDc := hD.sub (ws' := [(q9, .inr (5, [.null, .null, .null, .null, .int 0, .null, .null, .null, .null, .int 0]))]) [4] (by decide) rfl
  have hKc := hK.sub (tys' := []) [] rfl
  have hFc := va_free (wc := [(q9, .inr (5, [.null, .null, .null, .null, .int 0, .null, .null, .null, .null, .int 0]))]) hD hS hA [4] rfl
  refine va_callv (va_runIN (As := []) (rest := [.ref q9, .ref h_xx]) ⟨hx, hb, hml, hown, hts⟩ (c_X8_init l dC dI H.size q9) ⟨va_cnB (host := "OppositePairs") 0 hts (gd hT w_code_X8_init) rfl rfl rfl (hN _ n_m_X10_18) (hw _ w_ini_X8) (by decide +kernel) ⟨(Nat.le_of_ble_eq_true rfl), (Nat.le_of_ble_eq_true rfl)⟩, rfl, hw _ w_instanceMethod_X8_init⟩ ⟨pre_blind, pre_of hPc hKc hDc hN⟩ rfl rfl hl.1 rfl (lv_room (Nat.le_of_ble_eq_true rfl)) dX10_init_31 ⟨(Nat.le_of_ble_eq_true rfl), (Nat.le_of_ble_eq_true rfl)⟩) hS (fun q _ h => hFc q h) hFc (fun u t H locs ht hvm hq hB hz1 hk1 hS => ?_)
  obtain ⟨v11, rfl⟩ : ∃ z, z = u := ⟨_, rfl⟩
  obtain ⟨hP1, hK1, hD1⟩ := hB
  rw [ht] at hP1
  have hK1 := va_K.moved hvm.symm hK1
  obtain ⟨hP, hD⟩ := va_join (wr := [(h_xx, .inr (7, [.ref q1, .ref q6, .null, .null, .null, .null, .null, .null])), (q1, .inr (4, [.ref q4, .int 0, .int 0, .int (-1), .null, (v3 5), .int 0, .int 0, .int 0, .int 0, .long 0])), (q4, .inl (y5, 600, .inl (fun _ => 0))), (q6, .inr (5, [(v8 0), (v8 1), (v8 2), (v8 3), .int 0, (v8 5), (v8 6), (v8 7), (v8 8), .int 0]))]) (w1 := [(q9, .inr (5, [(v11 0), (v11 1), (v11 2), (v11 3), .int 0, (v11 5), (v11 6), (v11 7), (v11 8), .int 0]))]) hP hD [4] [0, 1, 2, 3] rfl rfl (by decide) (by decide) hk1 hFc hP1 hD1
  have hP : va_P (dC, dI) cls [(h_xx, .inr (7, [.ref q1, .ref q6, .null, .null, .null, .null, .null, .null])), (q1, .inr (4, [.ref q4, .int 0, .int 0, .int (-1), .null, (v3 5), .int 0, .int 0, .int 0, .int 0, .long 0])), (q4, .inl (y5, 600, .inl (fun _ => 0))), (q6, .inr (5, [(v8 0), (v8 1), (v8 2), (v8 3), .int 0, (v8 5), (v8 6), (v8 7), (v8 8), .int 0])), (q9, .inr (5, [(v11 0), (v11 1), (v11 2), (v11 3), .int 0, (v11 5), (v11 6), (v11 7), (v11 8), .int 0]))] H := hP
  have hD : va_D A [(h_xx, .inr (7, [.ref q1, .ref q6, .null, .null, .null, .null, .null, .null])), (q1, .inr (4, [.ref q4, .int 0, .int 0, .int (-1), .null, (v3 5), .int 0, .int 0, .int 0, .int 0, .long 0])), (q4, .inl (y5, 600, .inl (fun _ => 0))), (q6, .inr (5, [(v8 0), (v8 1), (v8 2), (v8 3), .int 0, (v8 5), (v8 6), (v8 7), (v8 8), .int 0])), (q9, .inr (5, [(v11 0), (v11 1), (v11 2), (v11 3), .int 0, (v11 5), (v11 6), (v11 7), (v11 8), .int 0]))] := hD
  refine va_putF (D := (dC, dI)) (ci := 7) (v := .ref q9) (ty := tyX10 2) (C := RX10) (T := TX10) (N := 8) hx hb hw iwX10 tyX10 tyX10_ok nmX10 hown hK hP hD hS 0 rfl rfl 2 (by decide) (hw _ w_f_X10_23) (fun _ h9 => h9) rfl hin rfl (tyX10_ok 2 (by decide)) rfl rfl (Nat.le_of_ble_eq_true rfl) dX10_init_34 (fun H locs hP hD hS => ?_)
  have hP : va_P (dC, dI) cls [(h_xx, .inr (7, [.ref q1, .ref q6, .ref q9, .null, .null, .null, .null, .null])), (q1, .inr (4, [.ref q4, .int 0, .int 0, .int (-1), .null, (v3 5), .int 0, .int 0, .int 0, .int 0, .long 0])), (q4, .inl (y5, 600, .inl (fun _ => 0))), (q6, .inr (5, [(v8 0), (v8 1), (v8 2), (v8 3), .int 0, (v8 5), (v8 6), (v8 7), (v8 8), .int 0])), (q9, .inr (5, [(v11 0), (v11 1), (v11 2), (v11 3), .int 0, (v11 5), (v11 6), (v11 7), (v11 8), .int 0]))] H := hP
  have hD : va_D A [(h_xx, .inr (7, [.ref q1, .ref q6, .ref q9, .null, .null, .null, .null, .null])), (q1, .inr (4, [.ref q4, .int 0, .int 0, .int (-1), .null, (v3 5), .int 0, .int 0, .int 0, .int 0, .long 0])), (q4, .inl (y5, 600, .inl (fun _ => 0))), (q6, .inr (5, [(v8 0), (v8 1), (v8 2), (v8 3), .int 0, (v8 5), (v8 6), (v8 7), (v8 8), .int 0])), (q9, .inr (5, [(v11 0), (v11 1), (v11 2), (v11 3), .int 0, (v11 5), (v11 6), (v11 7), (v11 8), .int 0]))] := hD
  refine lv_aload_n hx hb dX10_init_37 rfl (lv_at hl 0 rfl) ?_
  refine va_new (ci := 1) (fs := [.null, .null, .null, .int 0, .null, .null, .int 0, .null, .null, .int 0, .null, .null, .int 0]) (C := RX1) (T := TX1) (N := 13) hx hb hw iwX1 tyX1 tyX1_ok hown (hw _ w_c_X10_26) (hw _ w_in_X1) (hw _ w_ini_X1) hK hP hD hS hA rfl (dfX1) (Nat.le_of_ble_eq_true rfl) (Nat.le_of_ble_eq_true rfl) dX10_init_38 (fun q12 H hP hD hS => ?_)
  have hP : va_P (dC, dI) cls [(h_xx, .inr (7, [.ref q1, .ref q6, .ref q9, .null, .null, .null, .null, .null])), (q1, .inr (4, [.ref q4, .int 0, .int 0, .int (-1), .null, (v3 5), .int 0, .int 0, .int 0, .int 0, .long 0])), (q4, .inl (y5, 600, .inl (fun _ => 0))), (q6, .inr (5, [(v8 0), (v8 1), (v8 2), (v8 3), .int 0, (v8 5), (v8 6), (v8 7), (v8 8), .int 0])), (q9, .inr (5, [(v11 0), (v11 1), (v11 2), (v11 3), .int 0, (v11 5), (v11 6), (v11 7), (v11 8), .int 0])), (q12, .inr (1, [.null, .null, .null, .int 0, .null, .null, .int 0, .null, .null, .int 0, .null, .null, .int 0]))] H := hP
  have hD : va_D A [(h_xx, .inr (7, [.ref q1, .ref q6, .ref q9, .null, .null, .null, .null, .null])), (q1, .inr (4, [.ref q4, .int 0, .int 0, .int (-1), .null, (v3 5), .int 0, .int 0, .int 0, .int 0, .long 0])), (q4, .inl (y5, 600, .inl (fun _ => 0))), (q6, .inr (5, [(v8 0), (v8 1), (v8 2), (v8 3), .int 0, (v8 5), (v8 6), (v8 7), (v8 8), .int 0])), (q9, .inr (5, [(v11 0), (v11 1), (v11 2), (v11 3), .int 0, (v11 5), (v11 6), (v11 7), (v11 8), .int 0])), (q12, .inr (1, [.null, .null, .null, .int 0, .null, .null, .int 0, .null, .null, .int 0, .null, .null, .int 0]))] := hD
  refine lv_dup hx hb dX10_init_41 rfl ?_
  refine lv_aload_n hx hb dX10_init_42 rfl (lv_at hl 0 rfl) ?_
  refine va_get (D := (dC, dI)) (ci := 7) (v := .ref q6) (C := RX10) (T := TX10) (N := 8) hx hb hw iwX10 hown hK hP 0 rfl rfl 1 (by decide) (hw _ w_f_X10_19) (fun _ h9 => h9) rfl dX10_init_43 ?_
  have hPc := hP.sub (ws' := [(q12, .inr (1, [.null, .null, .null, .int 0, .null, .null, .int 0, .null, .null, .int 0, .null, .null, .int 0]))]) [5] rfl
  have hDc := hD.sub (ws' := [(q12, .inr (1, [.null, .null, .null, .int 0, .null, .null, .int 0, .null, .null, .int 0, .null, .null, .int 0]))]) [5] (by decide) rfl
  have hKc := hK.sub (tys' := []) [] rfl
  have hFc := va_free (wc := [(q12, .inr (1, [.null, .null, .null, .int 0, .null, .null, .int 0, .null, .null, .int 0, .null, .null, .int 0]))]) hD hS hA [5] rfl
  refine va_callv (va_runIN (As := [.ref q6]) (rest := [.ref q12, .ref h_xx]) ⟨hx, hb, hml, hown, hts⟩ (c_X1_init l dC dI H.size q12 q6) ⟨va_cnB (host := "OppositePairs") 1 hts (gd hT w_code_X1_init) rfl rfl rfl (hN _ n_m_X10_28) (hw _ w_ini_X1) (by decide +kernel) ⟨(Nat.le_of_ble_eq_true rfl), (Nat.le_of_ble_eq_true rfl)⟩, rfl, hw _ w_instanceMethod_X1_init⟩ ⟨pre_blind, pre_of hPc hKc hDc hN⟩ rfl rfl hl.1 rfl (lv_room (Nat.le_of_ble_eq_true rfl)) dX10_init_46 ⟨(Nat.le_of_ble_eq_true rfl), (Nat.le_of_ble_eq_true rfl)⟩) hS (fun q _ h => hFc q h) hFc (fun u t H locs ht hvm hq hB hz1 hk1 hS => ?_)
  obtain ⟨v14, rfl⟩ : ∃ z, z = u := ⟨_, rfl⟩
  obtain ⟨hP1, hK1, hD1⟩ := hB
  rw [ht] at hP1
  have hK1 := va_K.moved hvm.symm hK1
  obtain ⟨hP, hD⟩ := va_join (wr := [(h_xx, .inr (7, [.ref q1, .ref q6, .ref q9, .null, .null, .null, .null, .null])), (q1, .inr (4, [.ref q4, .int 0, .int 0, .int (-1), .null, (v3 5), .int 0, .int 0, .int 0, .int 0, .long 0])), (q4, .inl (y5, 600, .inl (fun _ => 0))), (q6, .inr (5, [(v8 0), (v8 1), (v8 2), (v8 3), .int 0, (v8 5), (v8 6), (v8 7), (v8 8), .int 0])), (q9, .inr (5, [(v11 0), (v11 1), (v11 2), (v11 3), .int 0, (v11 5), (v11 6), (v11 7), (v11 8), .int 0]))]) (w1 := [(q12, .inr (1, [.ref q6, (v14 1), (v14 2), .int 0, (v14 4), (v14 5), .int 0, (v14 7), (v14 8), .int 0, (v14 10), (v14 11), .int 0]))]) hP hD [5] [0, 1, 2, 3, 4] rfl rfl (by decide) (by decide) hk1 hFc hP1 hD1
  have hP : va_P (dC, dI) cls [(h_xx, .inr (7, [.ref q1, .ref q6, .ref q9, .null, .null, .null, .null, .null])), (q1, .inr (4, [.ref q4, .int 0, .int 0, .int (-1), .null, (v3 5), .int 0, .int 0, .int 0, .int 0, .long 0])), (q4, .inl (y5, 600, .inl (fun _ => 0))), (q6, .inr (5, [(v8 0), (v8 1), (v8 2), (v8 3), .int 0, (v8 5), (v8 6), (v8 7), (v8 8), .int 0])), (q9, .inr (5, [(v11 0), (v11 1), (v11 2), (v11 3), .int 0, (v11 5), (v11 6), (v11 7), (v11 8), .int 0])), (q12, .inr (1, [.ref q6, (v14 1), (v14 2), .int 0, (v14 4), (v14 5), .int 0, (v14 7), (v14 8), .int 0, (v14 10), (v14 11), .int 0]))] H := hP
  have hD : va_D A [(h_xx, .inr (7, [.ref q1, .ref q6, .ref q9, .null, .null, .null, .null, .null])), (q1, .inr (4, [.ref q4, .int 0, .int 0, .int (-1), .null, (v3 5), .int 0, .int 0, .int 0, .int 0, .long 0])), (q4, .inl (y5, 600, .inl (fun _ => 0))), (q6, .inr (5, [(v8 0), (v8 1), (v8 2), (v8 3), .int 0, (v8 5), (v8 6), (v8 7), (v8 8), .int 0])), (q9, .inr (5, [(v11 0), (v11 1), (v11 2), (v11 3), .int 0, (v11 5), (v11 6), (v11 7), (v11 8), .int 0])), (q12, .inr (1, [.ref q6, (v14 1), (v14 2), .int 0, (v14 4), (v14 5), .int 0, (v14 7), (v14 8), .int 0, (v14 10), (v14 11), .int 0]))] := hD
  refine va_putF (D := (dC, dI)) (ci := 7) (v := .ref q12) (ty := tyX10 3) (C := RX10) (T := TX10) (N := 8) hx hb hw iwX10 tyX10 tyX10_ok nmX10 hown hK hP hD hS 0 rfl rfl 3 (by decide) (hw _ w_f_X10_31) (fun _ h9 => h9) rfl hin rfl (tyX10_ok 3 (by decide)) rfl rfl (Nat.le_of_ble_eq_true rfl) dX10_init_49 (fun H locs hP hD hS => ?_)
  have hP : va_P (dC, dI) cls [(h_xx, .inr (7, [.ref q1, .ref q6, .ref q9, .ref q12, .null, .null, .null, .null])), (q1, .inr (4, [.ref q4, .int 0, .int 0, .int (-1), .null, (v3 5), .int 0, .int 0, .int 0, .int 0, .long 0])), (q4, .inl (y5, 600, .inl (fun _ => 0))), (q6, .inr (5, [(v8 0), (v8 1), (v8 2), (v8 3), .int 0, (v8 5), (v8 6), (v8 7), (v8 8), .int 0])), (q9, .inr (5, [(v11 0), (v11 1), (v11 2), (v11 3), .int 0, (v11 5), (v11 6), (v11 7), (v11 8), .int 0])), (q12, .inr (1, [.ref q6, (v14 1), (v14 2), .int 0, (v14 4), (v14 5), .int 0, (v14 7), (v14 8), .int 0, (v14 10), (v14 11), .int 0]))] H := hP
  have hD : va_D A [(h_xx, .inr (7, [.ref q1, .ref q6, .ref q9, .ref q12, .null, .null, .null, .null])), (q1, .inr (4, [.ref q4, .int 0, .int 0, .int (-1), .null, (v3 5), .int 0, .int 0, .int 0, .int 0, .long 0])), (q4, .inl (y5, 600, .inl (fun _ => 0))), (q6, .inr (5, [(v8 0), (v8 1), (v8 2), (v8 3), .int 0, (v8 5), (v8 6), (v8 7), (v8 8), .int 0])), (q9, .inr (5, [(v11 0), (v11 1), (v11 2), (v11 3), .int 0, (v11 5), (v11 6), (v11 7), (v11 8), .int 0])), (q12, .inr (1, [.ref q6, (v14 1), (v14 2), .int 0, (v14 4), (v14 5), .int 0, (v14 7), (v14 8), .int 0, (v14 10), (v14 11), .int 0]))] := hD
  refine lv_aload_n hx hb dX10_init_52 rfl (lv_at hl 0 rfl) ?_
  refine va_new (ci := 6) (fs := [.null, .null, .null, .int 0, .null, .int 0, .null, .int 0]) (C := RX9) (T := TX9) (N := 8) hx hb hw iwX9 tyX9 tyX9_ok hown (hw _ w_c_X10_35) (hw _ w_in_X9) (hw _ w_ini_X9) hK hP hD hS hA rfl (dfX9) (Nat.le_of_ble_eq_true rfl) (Nat.le_of_ble_eq_true rfl) dX10_init_53 (fun q15 H hP hD hS => ?_)
  have hP : va_P (dC, dI) cls [(h_xx, .inr (7, [.ref q1, .ref q6, .ref q9, .ref q12, .null, .null, .null, .null])), (q1, .inr (4, [.ref q4, .int 0, .int 0, .int (-1), .null, (v3 5), .int 0, .int 0, .int 0, .int 0, .long 0])), (q4, .inl (y5, 600, .inl (fun _ => 0))), (q6, .inr (5, [(v8 0), (v8 1), (v8 2), (v8 3), .int 0, (v8 5), (v8 6), (v8 7), (v8 8), .int 0])), (q9, .inr (5, [(v11 0), (v11 1), (v11 2), (v11 3), .int 0, (v11 5), (v11 6), (v11 7), (v11 8), .int 0])), (q12, .inr (1, [.ref q6, (v14 1), (v14 2), .int 0, (v14 4), (v14 5), .int 0, (v14 7), (v14 8), .int 0, (v14 10), (v14 11), .int 0])), (q15, .inr (6, [.null, .null, .null, .int 0, .null, .int 0, .null, .int 0]))] H := hP
  have hD : va_D A [(h_xx, .inr (7, [.ref q1, .ref q6, .ref q9, .ref q12, .null, .null, .null, .null])), (q1, .inr (4, [.ref q4, .int 0, .int 0, .int (-1), .null, (v3 5), .int 0, .int 0, .int 0, .int 0, .long 0])), (q4, .inl (y5, 600, .inl (fun _ => 0))), (q6, .inr (5, [(v8 0), (v8 1), (v8 2), (v8 3), .int 0, (v8 5), (v8 6), (v8 7), (v8 8), .int 0])), (q9, .inr (5, [(v11 0), (v11 1), (v11 2), (v11 3), .int 0, (v11 5), (v11 6), (v11 7), (v11 8), .int 0])), (q12, .inr (1, [.ref q6, (v14 1), (v14 2), .int 0, (v14 4), (v14 5), .int 0, (v14 7), (v14 8), .int 0, (v14 10), (v14 11), .int 0])), (q15, .inr (6, [.null, .null, .null, .int 0, .null, .int 0, .null, .int 0]))] := hD
  refine lv_dup hx hb dX10_init_56 rfl ?_
  refine lv_aload_n hx hb dX10_init_57 rfl (lv_at hl 0 rfl) ?_
  refine va_get (D := (dC, dI)) (ci := 7) (v := .ref q6) (C := RX10) (T := TX10) (N := 8) hx hb hw iwX10 hown hK hP 0 rfl rfl 1 (by decide) (hw _ w_f_X10_19) (fun _ h9 => h9) rfl dX10_init_58 ?_
  refine lv_aload_n hx hb dX10_init_61 rfl (lv_at hl 0 rfl) ?_
  refine va_get (D := (dC, dI)) (ci := 7) (v := .ref q12) (C := RX10) (T := TX10) (N := 8) hx hb hw iwX10 hown hK hP 0 rfl rfl 3 (by decide) (hw _ w_f_X10_31) (fun _ h9 => h9) rfl dX10_init_62 ?_
  have hPc := hP.sub (ws' := [(q15, .inr (6, [.null, .null, .null, .int 0, .null, .int 0, .null, .int 0]))]) [6] rfl
  have hDc := hD.sub (ws' := [(q15, .inr (6, [.null, .null, .null, .int 0, .null, .int 0, .null, .int 0]))]) [6] (by decide) rfl
  have hKc := hK.sub (tys' := []) [] rfl
  have hFc := va_free (wc := [(q15, .inr (6, [.null, .null, .null, .int 0, .null, .int 0, .null, .int 0]))]) hD hS hA [6] rfl
  refine va_callv (va_runIN (As := [.ref q6, .ref q12]) (rest := [.ref q15, .ref h_xx]) ⟨hx, hb, hml, hown, hts⟩ (c_X9_init l dC dI H.size q15 q6 q12) ⟨va_cnB (host := "OppositePairs") 2 hts (gd hT w_code_X9_init) rfl rfl rfl (hN _ n_m_X10_37) (hw _ w_ini_X9) (by decide +kernel) ⟨(Nat.le_of_ble_eq_true rfl), (Nat.le_of_ble_eq_true rfl)⟩, rfl, hw _ w_instanceMethod_X9_init⟩ ⟨pre_blind, pre_of hPc hKc hDc hN⟩ rfl rfl hl.1 rfl (lv_room (Nat.le_of_ble_eq_true rfl)) dX10_init_65 ⟨(Nat.le_of_ble_eq_true rfl), (Nat.le_of_ble_eq_true rfl)⟩) hS (fun q _ h => hFc q h) hFc (fun u t H locs ht hvm hq hB hz1 hk1 hS => ?_)
  obtain ⟨v17, rfl⟩ : ∃ z, z = u := ⟨_, rfl⟩
  obtain ⟨hP1, hK1, hD1⟩ := hB
  rw [ht] at hP1
  have hK1 := va_K.moved hvm.symm hK1
  obtain ⟨hP, hD⟩ := va_join (wr := [(h_xx, .inr (7, [.ref q1, .ref q6, .ref q9, .ref q12, .null, .null, .null, .null])), (q1, .inr (4, [.ref q4, .int 0, .int 0, .int (-1), .null, (v3 5), .int 0, .int 0, .int 0, .int 0, .long 0])), (q4, .inl (y5, 600, .inl (fun _ => 0))), (q6, .inr (5, [(v8 0), (v8 1), (v8 2), (v8 3), .int 0, (v8 5), (v8 6), (v8 7), (v8 8), .int 0])), (q9, .inr (5, [(v11 0), (v11 1), (v11 2), (v11 3), .int 0, (v11 5), (v11 6), (v11 7), (v11 8), .int 0])), (q12, .inr (1, [.ref q6, (v14 1), (v14 2), .int 0, (v14 4), (v14 5), .int 0, (v14 7), (v14 8), .int 0, (v14 10), (v14 11), .int 0]))]) (w1 := [(q15, .inr (6, [.ref q6, .ref q12, (v17 2), .int 0, (v17 4), .int 0, (v17 6), .int 0]))]) hP hD [6] [0, 1, 2, 3, 4, 5] rfl rfl (by decide) (by decide) hk1 hFc hP1 hD1
  have hP : va_P (dC, dI) cls [(h_xx, .inr (7, [.ref q1, .ref q6, .ref q9, .ref q12, .null, .null, .null, .null])), (q1, .inr (4, [.ref q4, .int 0, .int 0, .int (-1), .null, (v3 5), .int 0, .int 0, .int 0, .int 0, .long 0])), (q4, .inl (y5, 600, .inl (fun _ => 0))), (q6, .inr (5, [(v8 0), (v8 1), (v8 2), (v8 3), .int 0, (v8 5), (v8 6), (v8 7), (v8 8), .int 0])), (q9, .inr (5, [(v11 0), (v11 1), (v11 2), (v11 3), .int 0, (v11 5), (v11 6), (v11 7), (v11 8), .int 0])), (q12, .inr (1, [.ref q6, (v14 1), (v14 2), .int 0, (v14 4), (v14 5), .int 0, (v14 7), (v14 8), .int 0, (v14 10), (v14 11), .int 0])), (q15, .inr (6, [.ref q6, .ref q12, (v17 2), .int 0, (v17 4), .int 0, (v17 6), .int 0]))] H := hP
  have hD : va_D A [(h_xx, .inr (7, [.ref q1, .ref q6, .ref q9, .ref q12, .null, .null, .null, .null])), (q1, .inr (4, [.ref q4, .int 0, .int 0, .int (-1), .null, (v3 5), .int 0, .int 0, .int 0, .int 0, .long 0])), (q4, .inl (y5, 600, .inl (fun _ => 0))), (q6, .inr (5, [(v8 0), (v8 1), (v8 2), (v8 3), .int 0, (v8 5), (v8 6), (v8 7), (v8 8), .int 0])), (q9, .inr (5, [(v11 0), (v11 1), (v11 2), (v11 3), .int 0, (v11 5), (v11 6), (v11 7), (v11 8), .int 0])), (q12, .inr (1, [.ref q6, (v14 1), (v14 2), .int 0, (v14 4), (v14 5), .int 0, (v14 7), (v14 8), .int 0, (v14 10), (v14 11), .int 0])), (q15, .inr (6, [.ref q6, .ref q12, (v17 2), .int 0, (v17 4), .int 0, (v17 6), .int 0]))] := hD
  refine va_putF (D := (dC, dI)) (ci := 7) (v := .ref q15) (ty := tyX10 4) (C := RX10) (T := TX10) (N := 8) hx hb hw iwX10 tyX10 tyX10_ok nmX10 hown hK hP hD hS 0 rfl rfl 4 (by decide) (hw _ w_f_X10_40) (fun _ h9 => h9) rfl hin rfl (tyX10_ok 4 (by decide)) rfl rfl (Nat.le_of_ble_eq_true rfl) dX10_init_68 (fun H locs hP hD hS => ?_)
  have hP : va_P (dC, dI) cls [(h_xx, .inr (7, [.ref q1, .ref q6, .ref q9, .ref q12, .ref q15, .null, .null, .null])), (q1, .inr (4, [.ref q4, .int 0, .int 0, .int (-1), .null, (v3 5), .int 0, .int 0, .int 0, .int 0, .long 0])), (q4, .inl (y5, 600, .inl (fun _ => 0))), (q6, .inr (5, [(v8 0), (v8 1), (v8 2), (v8 3), .int 0, (v8 5), (v8 6), (v8 7), (v8 8), .int 0])), (q9, .inr (5, [(v11 0), (v11 1), (v11 2), (v11 3), .int 0, (v11 5), (v11 6), (v11 7), (v11 8), .int 0])), (q12, .inr (1, [.ref q6, (v14 1), (v14 2), .int 0, (v14 4), (v14 5), .int 0, (v14 7), (v14 8), .int 0, (v14 10), (v14 11), .int 0])), (q15, .inr (6, [.ref q6, .ref q12, (v17 2), .int 0, (v17 4), .int 0, (v17 6), .int 0]))] H := hP
  have hD : va_D A [(h_xx, .inr (7, [.ref q1, .ref q6, .ref q9, .ref q12, .ref q15, .null, .null, .null])), (q1, .inr (4, [.ref q4, .int 0, .int 0, .int (-1), .null, (v3 5), .int 0, .int 0, .int 0, .int 0, .long 0])), (q4, .inl (y5, 600, .inl (fun _ => 0))), (q6, .inr (5, [(v8 0), (v8 1), (v8 2), (v8 3), .int 0, (v8 5), (v8 6), (v8 7), (v8 8), .int 0])), (q9, .inr (5, [(v11 0), (v11 1), (v11 2), (v11 3), .int 0, (v11 5), (v11 6), (v11 7), (v11 8), .int 0])), (q12, .inr (1, [.ref q6, (v14 1), (v14 2), .int 0, (v14 4), (v14 5), .int 0, (v14 7), (v14 8), .int 0, (v14 10), (v14 11), .int 0])), (q15, .inr (6, [.ref q6, .ref q12, (v17 2), .int 0, (v17 4), .int 0, (v17 6), .int 0]))] := hD
  refine lv_aload_n hx hb dX10_init_71 rfl (lv_at hl 0 rfl) ?_
  refine va_new (ci := 3) (fs := [.null, .null, .null, .int 0, .null, .int 0, .null, .int 0, .null, .int 0, .int 0, .int 0, .int 0, .int 0, .int 0, .int 0, .int 0, .int 0]) (C := RX4) (T := TX4) (N := 18) hx hb hw iwX4 tyX4 tyX4_ok hown (hw _ w_c_X10_44) (hw _ w_in_X4) (hw _ w_ini_X4) hK hP hD hS hA rfl (dfX4) (Nat.le_of_ble_eq_true rfl) (Nat.le_of_ble_eq_true rfl) dX10_init_72 (fun q18 H hP hD hS => ?_)
  have hP : va_P (dC, dI) cls [(h_xx, .inr (7, [.ref q1, .ref q6, .ref q9, .ref q12, .ref q15, .null, .null, .null])), (q1, .inr (4, [.ref q4, .int 0, .int 0, .int (-1), .null, (v3 5), .int 0, .int 0, .int 0, .int 0, .long 0])), (q4, .inl (y5, 600, .inl (fun _ => 0))), (q6, .inr (5, [(v8 0), (v8 1), (v8 2), (v8 3), .int 0, (v8 5), (v8 6), (v8 7), (v8 8), .int 0])), (q9, .inr (5, [(v11 0), (v11 1), (v11 2), (v11 3), .int 0, (v11 5), (v11 6), (v11 7), (v11 8), .int 0])), (q12, .inr (1, [.ref q6, (v14 1), (v14 2), .int 0, (v14 4), (v14 5), .int 0, (v14 7), (v14 8), .int 0, (v14 10), (v14 11), .int 0])), (q15, .inr (6, [.ref q6, .ref q12, (v17 2), .int 0, (v17 4), .int 0, (v17 6), .int 0])), (q18, .inr (3, [.null, .null, .null, .int 0, .null, .int 0, .null, .int 0, .null, .int 0, .int 0, .int 0, .int 0, .int 0, .int 0, .int 0, .int 0, .int 0]))] H := hP
  have hD : va_D A [(h_xx, .inr (7, [.ref q1, .ref q6, .ref q9, .ref q12, .ref q15, .null, .null, .null])), (q1, .inr (4, [.ref q4, .int 0, .int 0, .int (-1), .null, (v3 5), .int 0, .int 0, .int 0, .int 0, .long 0])), (q4, .inl (y5, 600, .inl (fun _ => 0))), (q6, .inr (5, [(v8 0), (v8 1), (v8 2), (v8 3), .int 0, (v8 5), (v8 6), (v8 7), (v8 8), .int 0])), (q9, .inr (5, [(v11 0), (v11 1), (v11 2), (v11 3), .int 0, (v11 5), (v11 6), (v11 7), (v11 8), .int 0])), (q12, .inr (1, [.ref q6, (v14 1), (v14 2), .int 0, (v14 4), (v14 5), .int 0, (v14 7), (v14 8), .int 0, (v14 10), (v14 11), .int 0])), (q15, .inr (6, [.ref q6, .ref q12, (v17 2), .int 0, (v17 4), .int 0, (v17 6), .int 0])), (q18, .inr (3, [.null, .null, .null, .int 0, .null, .int 0, .null, .int 0, .null, .int 0, .int 0, .int 0, .int 0, .int 0, .int 0, .int 0, .int 0, .int 0]))] := hD
  refine lv_dup hx hb dX10_init_75 rfl ?_
  refine lv_aload_n hx hb dX10_init_76 rfl (lv_at hl 0 rfl) ?_
  refine va_get (D := (dC, dI)) (ci := 7) (v := .ref q6) (C := RX10) (T := TX10) (N := 8) hx hb hw iwX10 hown hK hP 0 rfl rfl 1 (by decide) (hw _ w_f_X10_19) (fun _ h9 => h9) rfl dX10_init_77 ?_
  refine lv_aload_n hx hb dX10_init_80 rfl (lv_at hl 0 rfl) ?_
  refine va_get (D := (dC, dI)) (ci := 7) (v := .ref q12) (C := RX10) (T := TX10) (N := 8) hx hb hw iwX10 hown hK hP 0 rfl rfl 3 (by decide) (hw _ w_f_X10_31) (fun _ h9 => h9) rfl dX10_init_81 ?_
  have hPc := hP.sub (ws' := [(q18, .inr (3, [.null, .null, .null, .int 0, .null, .int 0, .null, .int 0, .null, .int 0, .int 0, .int 0, .int 0, .int 0, .int 0, .int 0, .int 0, .int 0]))]) [7] rfl
  have hDc := hD.sub (ws' := [(q18, .inr (3, [.null, .null, .null, .int 0, .null, .int 0, .null, .int 0, .null, .int 0, .int 0, .int 0, .int 0, .int 0, .int 0, .int 0, .int 0, .int 0]))]) [7] (by decide) rfl
  have hKc := hK.sub (tys' := []) [] rfl
  have hFc := va_free (wc := [(q18, .inr (3, [.null, .null, .null, .int 0, .null, .int 0, .null, .int 0, .null, .int 0, .int 0, .int 0, .int 0, .int 0, .int 0, .int 0, .int 0, .int 0]))]) hD hS hA [7] rfl
  refine va_callv (va_runIN (As := [.ref q6, .ref q12]) (rest := [.ref q18, .ref h_xx]) ⟨hx, hb, hml, hown, hts⟩ (c_X4_init l dC dI H.size q18 q6 q12) ⟨va_cnB (host := "OppositePairs") 2 hts (gd hT w_code_X4_init) rfl rfl rfl (hN _ n_m_X10_46) (hw _ w_ini_X4) (by decide +kernel) ⟨(Nat.le_of_ble_eq_true rfl), (Nat.le_of_ble_eq_true rfl)⟩, rfl, hw _ w_instanceMethod_X4_init⟩ ⟨pre_blind, pre_of hPc hKc hDc hN⟩ rfl rfl hl.1 rfl (lv_room (Nat.le_of_ble_eq_true rfl)) dX10_init_84 ⟨(Nat.le_of_ble_eq_true rfl), (Nat.le_of_ble_eq_true rfl)⟩) hS (fun q _ h => hFc q h) hFc (fun u t H locs ht hvm hq hB hz1 hk1 hS => ?_)
  obtain ⟨v20, rfl⟩ : ∃ z, z = u := ⟨_, rfl⟩
  obtain ⟨hP1, hK1, hD1⟩ := hB
  rw [ht] at hP1
  have hK1 := va_K.moved hvm.symm hK1
  obtain ⟨hP, hD⟩ := va_join (wr := [(h_xx, .inr (7, [.ref q1, .ref q6, .ref q9, .ref q12, .ref q15, .null, .null, .null])), (q1, .inr (4, [.ref q4, .int 0, .int 0, .int (-1), .null, (v3 5), .int 0, .int 0, .int 0, .int 0, .long 0])), (q4, .inl (y5, 600, .inl (fun _ => 0))), (q6, .inr (5, [(v8 0), (v8 1), (v8 2), (v8 3), .int 0, (v8 5), (v8 6), (v8 7), (v8 8), .int 0])), (q9, .inr (5, [(v11 0), (v11 1), (v11 2), (v11 3), .int 0, (v11 5), (v11 6), (v11 7), (v11 8), .int 0])), (q12, .inr (1, [.ref q6, (v14 1), (v14 2), .int 0, (v14 4), (v14 5), .int 0, (v14 7), (v14 8), .int 0, (v14 10), (v14 11), .int 0])), (q15, .inr (6, [.ref q6, .ref q12, (v17 2), .int 0, (v17 4), .int 0, (v17 6), .int 0]))]) (w1 := [(q18, .inr (3, [.ref q6, .ref q12, (v20 2), .int 0, (v20 4), .int 0, (v20 6), .int 0, (v20 8), .int 0, .int 0, .int 0, .int 0, .int 0, .int 0, .int 0, .int 0, .int 0]))]) hP hD [7] [0, 1, 2, 3, 4, 5, 6] rfl rfl (by decide) (by decide) hk1 hFc hP1 hD1
  have hP : va_P (dC, dI) cls [(h_xx, .inr (7, [.ref q1, .ref q6, .ref q9, .ref q12, .ref q15, .null, .null, .null])), (q1, .inr (4, [.ref q4, .int 0, .int 0, .int (-1), .null, (v3 5), .int 0, .int 0, .int 0, .int 0, .long 0])), (q4, .inl (y5, 600, .inl (fun _ => 0))), (q6, .inr (5, [(v8 0), (v8 1), (v8 2), (v8 3), .int 0, (v8 5), (v8 6), (v8 7), (v8 8), .int 0])), (q9, .inr (5, [(v11 0), (v11 1), (v11 2), (v11 3), .int 0, (v11 5), (v11 6), (v11 7), (v11 8), .int 0])), (q12, .inr (1, [.ref q6, (v14 1), (v14 2), .int 0, (v14 4), (v14 5), .int 0, (v14 7), (v14 8), .int 0, (v14 10), (v14 11), .int 0])), (q15, .inr (6, [.ref q6, .ref q12, (v17 2), .int 0, (v17 4), .int 0, (v17 6), .int 0])), (q18, .inr (3, [.ref q6, .ref q12, (v20 2), .int 0, (v20 4), .int 0, (v20 6), .int 0, (v20 8), .int 0, .int 0, .int 0, .int 0, .int 0, .int 0, .int 0, .int 0, .int 0]))] H := hP
  have hD : va_D A [(h_xx, .inr (7, [.ref q1, .ref q6, .ref q9, .ref q12, .ref q15, .null, .null, .null])), (q1, .inr (4, [.ref q4, .int 0, .int 0, .int (-1), .null, (v3 5), .int 0, .int 0, .int 0, .int 0, .long 0])), (q4, .inl (y5, 600, .inl (fun _ => 0))), (q6, .inr (5, [(v8 0), (v8 1), (v8 2), (v8 3), .int 0, (v8 5), (v8 6), (v8 7), (v8 8), .int 0])), (q9, .inr (5, [(v11 0), (v11 1), (v11 2), (v11 3), .int 0, (v11 5), (v11 6), (v11 7), (v11 8), .int 0])), (q12, .inr (1, [.ref q6, (v14 1), (v14 2), .int 0, (v14 4), (v14 5), .int 0, (v14 7), (v14 8), .int 0, (v14 10), (v14 11), .int 0])), (q15, .inr (6, [.ref q6, .ref q12, (v17 2), .int 0, (v17 4), .int 0, (v17 6), .int 0])), (q18, .inr (3, [.ref q6, .ref q12, (v20 2), .int 0, (v20 4), .int 0, (v20 6), .int 0, (v20 8), .int 0, .int 0, .int 0, .int 0, .int 0, .int 0, .int 0, .int 0, .int 0]))] := hD
  refine va_putF (D := (dC, dI)) (ci := 7) (v := .ref q18) (ty := tyX10 5) (C := RX10) (T := TX10) (N := 8) hx hb hw iwX10 tyX10 tyX10_ok nmX10 hown hK hP hD hS 0 rfl rfl 5 (by decide) (hw _ w_f_X10_47) (fun _ h9 => h9) rfl hin rfl (tyX10_ok 5 (by decide)) rfl rfl (Nat.le_of_ble_eq_true rfl) dX10_init_87 (fun H locs hP hD hS => ?_)
  have hP : va_P (dC, dI) cls [(h_xx, .inr (7, [.ref q1, .ref q6, .ref q9, .ref q12, .ref q15, .ref q18, .null, .null])), (q1, .inr (4, [.ref q4, .int 0, .int 0, .int (-1), .null, (v3 5), .int 0, .int 0, .int 0, .int 0, .long 0])), (q4, .inl (y5, 600, .inl (fun _ => 0))), (q6, .inr (5, [(v8 0), (v8 1), (v8 2), (v8 3), .int 0, (v8 5), (v8 6), (v8 7), (v8 8), .int 0])), (q9, .inr (5, [(v11 0), (v11 1), (v11 2), (v11 3), .int 0, (v11 5), (v11 6), (v11 7), (v11 8), .int 0])), (q12, .inr (1, [.ref q6, (v14 1), (v14 2), .int 0, (v14 4), (v14 5), .int 0, (v14 7), (v14 8), .int 0, (v14 10), (v14 11), .int 0])), (q15, .inr (6, [.ref q6, .ref q12, (v17 2), .int 0, (v17 4), .int 0, (v17 6), .int 0])), (q18, .inr (3, [.ref q6, .ref q12, (v20 2), .int 0, (v20 4), .int 0, (v20 6), .int 0, (v20 8), .int 0, .int 0, .int 0, .int 0, .int 0, .int 0, .int 0, .int 0, .int 0]))] H := hP
  have hD : va_D A [(h_xx, .inr (7, [.ref q1, .ref q6, .ref q9, .ref q12, .ref q15, .ref q18, .null, .null])), (q1, .inr (4, [.ref q4, .int 0, .int 0, .int (-1), .null, (v3 5), .int 0, .int 0, .int 0, .int 0, .long 0])), (q4, .inl (y5, 600, .inl (fun _ => 0))), (q6, .inr (5, [(v8 0), (v8 1), (v8 2), (v8 3), .int 0, (v8 5), (v8 6), (v8 7), (v8 8), .int 0])), (q9, .inr (5, [(v11 0), (v11 1), (v11 2), (v11 3), .int 0, (v11 5), (v11 6), (v11 7), (v11 8), .int 0])), (q12, .inr (1, [.ref q6, (v14 1), (v14 2), .int 0, (v14 4), (v14 5), .int 0, (v14 7), (v14 8), .int 0, (v14 10), (v14 11), .int 0])), (q15, .inr (6, [.ref q6, .ref q12, (v17 2), .int 0, (v17 4), .int 0, (v17 6), .int 0])), (q18, .inr (3, [.ref q6, .ref q12, (v20 2), .int 0, (v20 4), .int 0, (v20 6), .int 0, (v20 8), .int 0, .int 0, .int 0, .int 0, .int 0, .int 0, .int 0, .int 0, .int 0]))] := hD
  refine lv_aload_n hx hb dX10_init_90 rfl (lv_at hl 0 rfl) ?_
  refine va_new (ci := 2) (fs := [.null, .null, .null, .null, .int 0, .null, .int 0, .null, .null, .null, .int 0, .int 0]) (C := RX3) (T := TX3) (N := 12) hx hb hw iwX3 tyX3 tyX3_ok hown (hw _ w_c_X10_51) (hw _ w_in_X3) (hw _ w_ini_X3) hK hP hD hS hA rfl (dfX3) (Nat.le_of_ble_eq_true rfl) (Nat.le_of_ble_eq_true rfl) dX10_init_91 (fun q21 H hP hD hS => ?_)
  have hP : va_P (dC, dI) cls [(h_xx, .inr (7, [.ref q1, .ref q6, .ref q9, .ref q12, .ref q15, .ref q18, .null, .null])), (q1, .inr (4, [.ref q4, .int 0, .int 0, .int (-1), .null, (v3 5), .int 0, .int 0, .int 0, .int 0, .long 0])), (q4, .inl (y5, 600, .inl (fun _ => 0))), (q6, .inr (5, [(v8 0), (v8 1), (v8 2), (v8 3), .int 0, (v8 5), (v8 6), (v8 7), (v8 8), .int 0])), (q9, .inr (5, [(v11 0), (v11 1), (v11 2), (v11 3), .int 0, (v11 5), (v11 6), (v11 7), (v11 8), .int 0])), (q12, .inr (1, [.ref q6, (v14 1), (v14 2), .int 0, (v14 4), (v14 5), .int 0, (v14 7), (v14 8), .int 0, (v14 10), (v14 11), .int 0])), (q15, .inr (6, [.ref q6, .ref q12, (v17 2), .int 0, (v17 4), .int 0, (v17 6), .int 0])), (q18, .inr (3, [.ref q6, .ref q12, (v20 2), .int 0, (v20 4), .int 0, (v20 6), .int 0, (v20 8), .int 0, .int 0, .int 0, .int 0, .int 0, .int 0, .int 0, .int 0, .int 0])), (q21, .inr (2, [.null, .null, .null, .null, .int 0, .null, .int 0, .null, .null, .null, .int 0, .int 0]))] H := hP
  have hD : va_D A [(h_xx, .inr (7, [.ref q1, .ref q6, .ref q9, .ref q12, .ref q15, .ref q18, .null, .null])), (q1, .inr (4, [.ref q4, .int 0, .int 0, .int (-1), .null, (v3 5), .int 0, .int 0, .int 0, .int 0, .long 0])), (q4, .inl (y5, 600, .inl (fun _ => 0))), (q6, .inr (5, [(v8 0), (v8 1), (v8 2), (v8 3), .int 0, (v8 5), (v8 6), (v8 7), (v8 8), .int 0])), (q9, .inr (5, [(v11 0), (v11 1), (v11 2), (v11 3), .int 0, (v11 5), (v11 6), (v11 7), (v11 8), .int 0])), (q12, .inr (1, [.ref q6, (v14 1), (v14 2), .int 0, (v14 4), (v14 5), .int 0, (v14 7), (v14 8), .int 0, (v14 10), (v14 11), .int 0])), (q15, .inr (6, [.ref q6, .ref q12, (v17 2), .int 0, (v17 4), .int 0, (v17 6), .int 0])), (q18, .inr (3, [.ref q6, .ref q12, (v20 2), .int 0, (v20 4), .int 0, (v20 6), .int 0, (v20 8), .int 0, .int 0, .int 0, .int 0, .int 0, .int 0, .int 0, .int 0, .int 0])), (q21, .inr (2, [.null, .null, .null, .null, .int 0, .null, .int 0, .null, .null, .null, .int 0, .int 0]))] := hD
  refine lv_dup hx hb dX10_init_94 rfl ?_
  refine lv_aload_n hx hb dX10_init_95 rfl (lv_at hl 0 rfl) ?_
  refine va_get (D := (dC, dI)) (ci := 7) (v := .ref q6) (C := RX10) (T := TX10) (N := 8) hx hb hw iwX10 hown hK hP 0 rfl rfl 1 (by decide) (hw _ w_f_X10_19) (fun _ h9 => h9) rfl dX10_init_96 ?_
  refine lv_aload_n hx hb dX10_init_99 rfl (lv_at hl 0 rfl) ?_
  refine va_get (D := (dC, dI)) (ci := 7) (v := .ref q12) (C := RX10) (T := TX10) (N := 8) hx hb hw iwX10 hown hK hP 0 rfl rfl 3 (by decide) (hw _ w_f_X10_31) (fun _ h9 => h9) rfl dX10_init_100 ?_
  refine lv_aload_n hx hb dX10_init_103 rfl (lv_at hl 0 rfl) ?_
  refine va_get (D := (dC, dI)) (ci := 7) (v := .ref q18) (C := RX10) (T := TX10) (N := 8) hx hb hw iwX10 hown hK hP 0 rfl rfl 5 (by decide) (hw _ w_f_X10_47) (fun _ h9 => h9) rfl dX10_init_104 ?_
  have hPc := hP.sub (ws' := [(q21, .inr (2, [.null, .null, .null, .null, .int 0, .null, .int 0, .null, .null, .null, .int 0, .int 0]))]) [8] rfl
  have hDc := hD.sub (ws' := [(q21, .inr (2, [.null, .null, .null, .null, .int 0, .null, .int 0, .null, .null, .null, .int 0, .int 0]))]) [8] (by decide) rfl
  have hKc := hK.sub (tys' := []) [] rfl
  have hFc := va_free (wc := [(q21, .inr (2, [.null, .null, .null, .null, .int 0, .null, .int 0, .null, .null, .null, .int 0, .int 0]))]) hD hS hA [8] rfl
  refine va_callv (va_runIN (As := [.ref q6, .ref q12, .ref q18]) (rest := [.ref q21, .ref h_xx]) ⟨hx, hb, hml, hown, hts⟩ (c_X3_init l dC dI H.size q21 q6 q12 q18) ⟨va_cnB (host := "OppositePairs") 3 hts (gd hT w_code_X3_init) rfl rfl rfl (hN _ n_m_X10_53) (hw _ w_ini_X3) (by decide +kernel) ⟨(Nat.le_of_ble_eq_true rfl), (Nat.le_of_ble_eq_true rfl)⟩, rfl, hw _ w_instanceMethod_X3_init⟩ ⟨pre_blind, pre_of hPc hKc hDc hN⟩ rfl rfl hl.1 rfl (lv_room (Nat.le_of_ble_eq_true rfl)) dX10_init_107 ⟨(Nat.le_of_ble_eq_true rfl), (Nat.le_of_ble_eq_true rfl)⟩) hS (fun q _ h => hFc q h) hFc (fun u t H locs ht hvm hq hB hz1 hk1 hS => ?_)
  obtain ⟨v23, rfl⟩ : ∃ z, z = u := ⟨_, rfl⟩
  obtain ⟨hP1, hK1, hD1⟩ := hB
  rw [ht] at hP1
  have hK1 := va_K.moved hvm.symm hK1
  obtain ⟨hP, hD⟩ := va_join (wr := [(h_xx, .inr (7, [.ref q1, .ref q6, .ref q9, .ref q12, .ref q15, .ref q18, .null, .null])), (q1, .inr (4, [.ref q4, .int 0, .int 0, .int (-1), .null, (v3 5), .int 0, .int 0, .int 0, .int 0, .long 0])), (q4, .inl (y5, 600, .inl (fun _ => 0))), (q6, .inr (5, [(v8 0), (v8 1), (v8 2), (v8 3), .int 0, (v8 5), (v8 6), (v8 7), (v8 8), .int 0])), (q9, .inr (5, [(v11 0), (v11 1), (v11 2), (v11 3), .int 0, (v11 5), (v11 6), (v11 7), (v11 8), .int 0])), (q12, .inr (1, [.ref q6, (v14 1), (v14 2), .int 0, (v14 4), (v14 5), .int 0, (v14 7), (v14 8), .int 0, (v14 10), (v14 11), .int 0])), (q15, .inr (6, [.ref q6, .ref q12, (v17 2), .int 0, (v17 4), .int 0, (v17 6), .int 0])), (q18, .inr (3, [.ref q6, .ref q12, (v20 2), .int 0, (v20 4), .int 0, (v20 6), .int 0, (v20 8), .int 0, .int 0, .int 0, .int 0, .int 0, .int 0, .int 0, .int 0, .int 0]))]) (w1 := [(q21, .inr (2, [.ref q6, .ref q12, .ref q18, (v23 3), .int 0, (v23 5), .int 0, (v23 7), (v23 8), (v23 9), .int (-2), .int 0]))]) hP hD [8] [0, 1, 2, 3, 4, 5, 6, 7] rfl rfl (by decide) (by decide) hk1 hFc hP1 hD1
  have hP : va_P (dC, dI) cls [(h_xx, .inr (7, [.ref q1, .ref q6, .ref q9, .ref q12, .ref q15, .ref q18, .null, .null])), (q1, .inr (4, [.ref q4, .int 0, .int 0, .int (-1), .null, (v3 5), .int 0, .int 0, .int 0, .int 0, .long 0])), (q4, .inl (y5, 600, .inl (fun _ => 0))), (q6, .inr (5, [(v8 0), (v8 1), (v8 2), (v8 3), .int 0, (v8 5), (v8 6), (v8 7), (v8 8), .int 0])), (q9, .inr (5, [(v11 0), (v11 1), (v11 2), (v11 3), .int 0, (v11 5), (v11 6), (v11 7), (v11 8), .int 0])), (q12, .inr (1, [.ref q6, (v14 1), (v14 2), .int 0, (v14 4), (v14 5), .int 0, (v14 7), (v14 8), .int 0, (v14 10), (v14 11), .int 0])), (q15, .inr (6, [.ref q6, .ref q12, (v17 2), .int 0, (v17 4), .int 0, (v17 6), .int 0])), (q18, .inr (3, [.ref q6, .ref q12, (v20 2), .int 0, (v20 4), .int 0, (v20 6), .int 0, (v20 8), .int 0, .int 0, .int 0, .int 0, .int 0, .int 0, .int 0, .int 0, .int 0])), (q21, .inr (2, [.ref q6, .ref q12, .ref q18, (v23 3), .int 0, (v23 5), .int 0, (v23 7), (v23 8), (v23 9), .int (-2), .int 0]))] H := hP
  have hD : va_D A [(h_xx, .inr (7, [.ref q1, .ref q6, .ref q9, .ref q12, .ref q15, .ref q18, .null, .null])), (q1, .inr (4, [.ref q4, .int 0, .int 0, .int (-1), .null, (v3 5), .int 0, .int 0, .int 0, .int 0, .long 0])), (q4, .inl (y5, 600, .inl (fun _ => 0))), (q6, .inr (5, [(v8 0), (v8 1), (v8 2), (v8 3), .int 0, (v8 5), (v8 6), (v8 7), (v8 8), .int 0])), (q9, .inr (5, [(v11 0), (v11 1), (v11 2), (v11 3), .int 0, (v11 5), (v11 6), (v11 7), (v11 8), .int 0])), (q12, .inr (1, [.ref q6, (v14 1), (v14 2), .int 0, (v14 4), (v14 5), .int 0, (v14 7), (v14 8), .int 0, (v14 10), (v14 11), .int 0])), (q15, .inr (6, [.ref q6, .ref q12, (v17 2), .int 0, (v17 4), .int 0, (v17 6), .int 0])), (q18, .inr (3, [.ref q6, .ref q12, (v20 2), .int 0, (v20 4), .int 0, (v20 6), .int 0, (v20 8), .int 0, .int 0, .int 0, .int 0, .int 0, .int 0, .int 0, .int 0, .int 0])), (q21, .inr (2, [.ref q6, .ref q12, .ref q18, (v23 3), .int 0, (v23 5), .int 0, (v23 7), (v23 8), (v23 9), .int (-2), .int 0]))] := hD
  refine va_putF (D := (dC, dI)) (ci := 7) (v := .ref q21) (ty := tyX10 6) (C := RX10) (T := TX10) (N := 8) hx hb hw iwX10 tyX10 tyX10_ok nmX10 hown hK hP hD hS 0 rfl rfl 6 (by decide) (hw _ w_f_X10_56) (fun _ h9 => h9) rfl hin rfl (tyX10_ok 6 (by decide)) rfl rfl (Nat.le_of_ble_eq_true rfl) dX10_init_110 (fun H locs hP hD hS => ?_)
  have hP : va_P (dC, dI) cls [(h_xx, .inr (7, [.ref q1, .ref q6, .ref q9, .ref q12, .ref q15, .ref q18, .ref q21, .null])), (q1, .inr (4, [.ref q4, .int 0, .int 0, .int (-1), .null, (v3 5), .int 0, .int 0, .int 0, .int 0, .long 0])), (q4, .inl (y5, 600, .inl (fun _ => 0))), (q6, .inr (5, [(v8 0), (v8 1), (v8 2), (v8 3), .int 0, (v8 5), (v8 6), (v8 7), (v8 8), .int 0])), (q9, .inr (5, [(v11 0), (v11 1), (v11 2), (v11 3), .int 0, (v11 5), (v11 6), (v11 7), (v11 8), .int 0])), (q12, .inr (1, [.ref q6, (v14 1), (v14 2), .int 0, (v14 4), (v14 5), .int 0, (v14 7), (v14 8), .int 0, (v14 10), (v14 11), .int 0])), (q15, .inr (6, [.ref q6, .ref q12, (v17 2), .int 0, (v17 4), .int 0, (v17 6), .int 0])), (q18, .inr (3, [.ref q6, .ref q12, (v20 2), .int 0, (v20 4), .int 0, (v20 6), .int 0, (v20 8), .int 0, .int 0, .int 0, .int 0, .int 0, .int 0, .int 0, .int 0, .int 0])), (q21, .inr (2, [.ref q6, .ref q12, .ref q18, (v23 3), .int 0, (v23 5), .int 0, (v23 7), (v23 8), (v23 9), .int (-2), .int 0]))] H := hP
  have hD : va_D A [(h_xx, .inr (7, [.ref q1, .ref q6, .ref q9, .ref q12, .ref q15, .ref q18, .ref q21, .null])), (q1, .inr (4, [.ref q4, .int 0, .int 0, .int (-1), .null, (v3 5), .int 0, .int 0, .int 0, .int 0, .long 0])), (q4, .inl (y5, 600, .inl (fun _ => 0))), (q6, .inr (5, [(v8 0), (v8 1), (v8 2), (v8 3), .int 0, (v8 5), (v8 6), (v8 7), (v8 8), .int 0])), (q9, .inr (5, [(v11 0), (v11 1), (v11 2), (v11 3), .int 0, (v11 5), (v11 6), (v11 7), (v11 8), .int 0])), (q12, .inr (1, [.ref q6, (v14 1), (v14 2), .int 0, (v14 4), (v14 5), .int 0, (v14 7), (v14 8), .int 0, (v14 10), (v14 11), .int 0])), (q15, .inr (6, [.ref q6, .ref q12, (v17 2), .int 0, (v17 4), .int 0, (v17 6), .int 0])), (q18, .inr (3, [.ref q6, .ref q12, (v20 2), .int 0, (v20 4), .int 0, (v20 6), .int 0, (v20 8), .int 0, .int 0, .int 0, .int 0, .int 0, .int 0, .int 0, .int 0, .int 0])), (q21, .inr (2, [.ref q6, .ref q12, .ref q18, (v23 3), .int 0, (v23 5), .int 0, (v23 7), (v23 8), (v23 9), .int (-2), .int 0]))] := hD
  refine lv_aload_n hx hb dX10_init_113 rfl (lv_at hl 0 rfl) ?_
  refine va_new (ci := 0) (fs := [.null, .null, .null, .null, .int 0, .int 0]) (C := RX0) (T := TX0) (N := 6) hx hb hw iwX0 tyX0 tyX0_ok hown (hw _ w_c_X10_60) (hw _ w_in_X0) (hw _ w_ini_X0) hK hP hD hS hA rfl (dfX0) (Nat.le_of_ble_eq_true rfl) (Nat.le_of_ble_eq_true rfl) dX10_init_114 (fun q24 H hP hD hS => ?_)
  have hP : va_P (dC, dI) cls [(h_xx, .inr (7, [.ref q1, .ref q6, .ref q9, .ref q12, .ref q15, .ref q18, .ref q21, .null])), (q1, .inr (4, [.ref q4, .int 0, .int 0, .int (-1), .null, (v3 5), .int 0, .int 0, .int 0, .int 0, .long 0])), (q4, .inl (y5, 600, .inl (fun _ => 0))), (q6, .inr (5, [(v8 0), (v8 1), (v8 2), (v8 3), .int 0, (v8 5), (v8 6), (v8 7), (v8 8), .int 0])), (q9, .inr (5, [(v11 0), (v11 1), (v11 2), (v11 3), .int 0, (v11 5), (v11 6), (v11 7), (v11 8), .int 0])), (q12, .inr (1, [.ref q6, (v14 1), (v14 2), .int 0, (v14 4), (v14 5), .int 0, (v14 7), (v14 8), .int 0, (v14 10), (v14 11), .int 0])), (q15, .inr (6, [.ref q6, .ref q12, (v17 2), .int 0, (v17 4), .int 0, (v17 6), .int 0])), (q18, .inr (3, [.ref q6, .ref q12, (v20 2), .int 0, (v20 4), .int 0, (v20 6), .int 0, (v20 8), .int 0, .int 0, .int 0, .int 0, .int 0, .int 0, .int 0, .int 0, .int 0])), (q21, .inr (2, [.ref q6, .ref q12, .ref q18, (v23 3), .int 0, (v23 5), .int 0, (v23 7), (v23 8), (v23 9), .int (-2), .int 0])), (q24, .inr (0, [.null, .null, .null, .null, .int 0, .int 0]))] H := hP
  have hD : va_D A [(h_xx, .inr (7, [.ref q1, .ref q6, .ref q9, .ref q12, .ref q15, .ref q18, .ref q21, .null])), (q1, .inr (4, [.ref q4, .int 0, .int 0, .int (-1), .null, (v3 5), .int 0, .int 0, .int 0, .int 0, .long 0])), (q4, .inl (y5, 600, .inl (fun _ => 0))), (q6, .inr (5, [(v8 0), (v8 1), (v8 2), (v8 3), .int 0, (v8 5), (v8 6), (v8 7), (v8 8), .int 0])), (q9, .inr (5, [(v11 0), (v11 1), (v11 2), (v11 3), .int 0, (v11 5), (v11 6), (v11 7), (v11 8), .int 0])), (q12, .inr (1, [.ref q6, (v14 1), (v14 2), .int 0, (v14 4), (v14 5), .int 0, (v14 7), (v14 8), .int 0, (v14 10), (v14 11), .int 0])), (q15, .inr (6, [.ref q6, .ref q12, (v17 2), .int 0, (v17 4), .int 0, (v17 6), .int 0])), (q18, .inr (3, [.ref q6, .ref q12, (v20 2), .int 0, (v20 4), .int 0, (v20 6), .int 0, (v20 8), .int 0, .int 0, .int 0, .int 0, .int 0, .int 0, .int 0, .int 0, .int 0])), (q21, .inr (2, [.ref q6, .ref q12, .ref q18, (v23 3), .int 0, (v23 5), .int 0, (v23 7), (v23 8), (v23 9), .int (-2), .int 0])), (q24, .inr (0, [.null, .null, .null, .null, .int 0, .int 0]))] := hD
  refine lv_dup hx hb dX10_init_117 rfl ?_
  have hPc := hP.sub (ws' := [(q24, .inr (0, [.null, .null, .null, .null, .int 0, .int 0]))]) [9] rfl
  have hDc := hD.sub (ws' := [(q24, .inr (0, [.null, .null, .null, .null, .int 0, .int 0]))]) [9] (by decide) rfl
  have hKc := hK.sub (tys' := []) [] rfl
  have hFc := va_free (wc := [(q24, .inr (0, [.null, .null, .null, .null, .int 0, .int 0]))]) hD hS hA [9] rfl
  refine va_callv (va_runIN (As := []) (rest := [.ref q24, .ref h_xx]) ⟨hx, hb, hml, hown, hts⟩ (c_X0_init l dC dI H.size q24) ⟨va_cnB (host := "OppositePairs") 0 hts (gd hT w_code_X0_init) rfl rfl rfl (hN _ n_m_X10_62) (hw _ w_ini_X0) (by decide +kernel) ⟨(Nat.le_of_ble_eq_true rfl), (Nat.le_of_ble_eq_true rfl)⟩, rfl, hw _ w_instanceMethod_X0_init⟩ ⟨pre_blind, pre_of hPc hKc hDc hN⟩ rfl rfl hl.1 rfl (lv_room (Nat.le_of_ble_eq_true rfl)) dX10_init_118 ⟨(Nat.le_of_ble_eq_true rfl), (Nat.le_of_ble_eq_true rfl)⟩) hS (fun q _ h => hFc q h) hFc (fun u t H locs ht hvm hq hB hz1 hk1 hS => ?_)
  obtain ⟨v26, rfl⟩ : ∃ z, z = u := ⟨_, rfl⟩
  obtain ⟨hP1, hK1, hD1⟩ := hB
  rw [ht] at hP1
  have hK1 := va_K.moved hvm.symm hK1
  obtain ⟨hP, hD⟩ := va_join (wr := [(h_xx, .inr (7, [.ref q1, .ref q6, .ref q9, .ref q12, .ref q15, .ref q18, .ref q21, .null])), (q1, .inr (4, [.ref q4, .int 0, .int 0, .int (-1), .null, (v3 5), .int 0, .int 0, .int 0, .int 0, .long 0])), (q4, .inl (y5, 600, .inl (fun _ => 0))), (q6, .inr (5, [(v8 0), (v8 1), (v8 2), (v8 3), .int 0, (v8 5), (v8 6), (v8 7), (v8 8), .int 0])), (q9, .inr (5, [(v11 0), (v11 1), (v11 2), (v11 3), .int 0, (v11 5), (v11 6), (v11 7), (v11 8), .int 0])), (q12, .inr (1, [.ref q6, (v14 1), (v14 2), .int 0, (v14 4), (v14 5), .int 0, (v14 7), (v14 8), .int 0, (v14 10), (v14 11), .int 0])), (q15, .inr (6, [.ref q6, .ref q12, (v17 2), .int 0, (v17 4), .int 0, (v17 6), .int 0])), (q18, .inr (3, [.ref q6, .ref q12, (v20 2), .int 0, (v20 4), .int 0, (v20 6), .int 0, (v20 8), .int 0, .int 0, .int 0, .int 0, .int 0, .int 0, .int 0, .int 0, .int 0])), (q21, .inr (2, [.ref q6, .ref q12, .ref q18, (v23 3), .int 0, (v23 5), .int 0, (v23 7), (v23 8), (v23 9), .int (-2), .int 0]))]) (w1 := [(q24, .inr (0, [(v26 0), (v26 1), (v26 2), (v26 3), .int 0, .int 0]))]) hP hD [9] [0, 1, 2, 3, 4, 5, 6, 7, 8] rfl rfl (by decide) (by decide) hk1 hFc hP1 hD1
  have hP : va_P (dC, dI) cls [(h_xx, .inr (7, [.ref q1, .ref q6, .ref q9, .ref q12, .ref q15, .ref q18, .ref q21, .null])), (q1, .inr (4, [.ref q4, .int 0, .int 0, .int (-1), .null, (v3 5), .int 0, .int 0, .int 0, .int 0, .long 0])), (q4, .inl (y5, 600, .inl (fun _ => 0))), (q6, .inr (5, [(v8 0), (v8 1), (v8 2), (v8 3), .int 0, (v8 5), (v8 6), (v8 7), (v8 8), .int 0])), (q9, .inr (5, [(v11 0), (v11 1), (v11 2), (v11 3), .int 0, (v11 5), (v11 6), (v11 7), (v11 8), .int 0])), (q12, .inr (1, [.ref q6, (v14 1), (v14 2), .int 0, (v14 4), (v14 5), .int 0, (v14 7), (v14 8), .int 0, (v14 10), (v14 11), .int 0])), (q15, .inr (6, [.ref q6, .ref q12, (v17 2), .int 0, (v17 4), .int 0, (v17 6), .int 0])), (q18, .inr (3, [.ref q6, .ref q12, (v20 2), .int 0, (v20 4), .int 0, (v20 6), .int 0, (v20 8), .int 0, .int 0, .int 0, .int 0, .int 0, .int 0, .int 0, .int 0, .int 0])), (q21, .inr (2, [.ref q6, .ref q12, .ref q18, (v23 3), .int 0, (v23 5), .int 0, (v23 7), (v23 8), (v23 9), .int (-2), .int 0])), (q24, .inr (0, [(v26 0), (v26 1), (v26 2), (v26 3), .int 0, .int 0]))] H := hP
  have hD : va_D A [(h_xx, .inr (7, [.ref q1, .ref q6, .ref q9, .ref q12, .ref q15, .ref q18, .ref q21, .null])), (q1, .inr (4, [.ref q4, .int 0, .int 0, .int (-1), .null, (v3 5), .int 0, .int 0, .int 0, .int 0, .long 0])), (q4, .inl (y5, 600, .inl (fun _ => 0))), (q6, .inr (5, [(v8 0), (v8 1), (v8 2), (v8 3), .int 0, (v8 5), (v8 6), (v8 7), (v8 8), .int 0])), (q9, .inr (5, [(v11 0), (v11 1), (v11 2), (v11 3), .int 0, (v11 5), (v11 6), (v11 7), (v11 8), .int 0])), (q12, .inr (1, [.ref q6, (v14 1), (v14 2), .int 0, (v14 4), (v14 5), .int 0, (v14 7), (v14 8), .int 0, (v14 10), (v14 11), .int 0])), (q15, .inr (6, [.ref q6, .ref q12, (v17 2), .int 0, (v17 4), .int 0, (v17 6), .int 0])), (q18, .inr (3, [.ref q6, .ref q12, (v20 2), .int 0, (v20 4), .int 0, (v20 6), .int 0, (v20 8), .int 0, .int 0, .int 0, .int 0, .int 0, .int 0, .int 0, .int 0, .int 0])), (q21, .inr (2, [.ref q6, .ref q12, .ref q18, (v23 3), .int 0, (v23 5), .int 0, (v23 7), (v23 8), (v23 9), .int (-2), .int 0])), (q24, .inr (0, [(v26 0), (v26 1), (v26 2), (v26 3), .int 0, .int 0]))] := hD
  refine va_putF (D := (dC, dI)) (ci := 7) (v := .ref q24) (ty := tyX10 7) (C := RX10) (T := TX10) (N := 8) hx hb hw iwX10 tyX10 tyX10_ok nmX10 hown hK hP hD hS 0 rfl rfl 7 (by decide) (hw _ w_f_X10_63) (fun _ h9 => h9) rfl hin rfl (tyX10_ok 7 (by decide)) rfl rfl (Nat.le_of_ble_eq_true rfl) dX10_init_121 (fun H locs hP hD hS => ?_)
  have hP : va_P (dC, dI) cls [(h_xx, .inr (7, [.ref q1, .ref q6, .ref q9, .ref q12, .ref q15, .ref q18, .ref q21, .ref q24])), (q1, .inr (4, [.ref q4, .int 0, .int 0, .int (-1), .null, (v3 5), .int 0, .int 0, .int 0, .int 0, .long 0])), (q4, .inl (y5, 600, .inl (fun _ => 0))), (q6, .inr (5, [(v8 0), (v8 1), (v8 2), (v8 3), .int 0, (v8 5), (v8 6), (v8 7), (v8 8), .int 0])), (q9, .inr (5, [(v11 0), (v11 1), (v11 2), (v11 3), .int 0, (v11 5), (v11 6), (v11 7), (v11 8), .int 0])), (q12, .inr (1, [.ref q6, (v14 1), (v14 2), .int 0, (v14 4), (v14 5), .int 0, (v14 7), (v14 8), .int 0, (v14 10), (v14 11), .int 0])), (q15, .inr (6, [.ref q6, .ref q12, (v17 2), .int 0, (v17 4), .int 0, (v17 6), .int 0])), (q18, .inr (3, [.ref q6, .ref q12, (v20 2), .int 0, (v20 4), .int 0, (v20 6), .int 0, (v20 8), .int 0, .int 0, .int 0, .int 0, .int 0, .int 0, .int 0, .int 0, .int 0])), (q21, .inr (2, [.ref q6, .ref q12, .ref q18, (v23 3), .int 0, (v23 5), .int 0, (v23 7), (v23 8), (v23 9), .int (-2), .int 0])), (q24, .inr (0, [(v26 0), (v26 1), (v26 2), (v26 3), .int 0, .int 0]))] H := hP
  have hD : va_D A [(h_xx, .inr (7, [.ref q1, .ref q6, .ref q9, .ref q12, .ref q15, .ref q18, .ref q21, .ref q24])), (q1, .inr (4, [.ref q4, .int 0, .int 0, .int (-1), .null, (v3 5), .int 0, .int 0, .int 0, .int 0, .long 0])), (q4, .inl (y5, 600, .inl (fun _ => 0))), (q6, .inr (5, [(v8 0), (v8 1), (v8 2), (v8 3), .int 0, (v8 5), (v8 6), (v8 7), (v8 8), .int 0])), (q9, .inr (5, [(v11 0), (v11 1), (v11 2), (v11 3), .int 0, (v11 5), (v11 6), (v11 7), (v11 8), .int 0])), (q12, .inr (1, [.ref q6, (v14 1), (v14 2), .int 0, (v14 4), (v14 5), .int 0, (v14 7), (v14 8), .int 0, (v14 10), (v14 11), .int 0])), (q15, .inr (6, [.ref q6, .ref q12, (v17 2), .int 0, (v17 4), .int 0, (v17 6), .int 0])), (q18, .inr (3, [.ref q6, .ref q12, (v20 2), .int 0, (v20 4), .int 0, (v20 6), .int 0, (v20 8), .int 0, .int 0, .int 0, .int 0, .int 0, .int 0, .int 0, .int 0, .int 0])), (q21, .inr (2, [.ref q6, .ref q12, .ref q18, (v23 3), .int 0, (v23 5), .int 0, (v23 7), (v23 8), (v23 9), .int (-2), .int 0])), (q24, .inr (0, [(v26 0), (v26 1), (v26 2), (v26 3), .int 0, .int 0]))] := hD
  refine W.widen (k := 50) (n := 26797) (Nat.le_of_ble_eq_true rfl) (Nat.le_of_ble_eq_true rfl) ?_
  have hK9 := hK.sub (tys' := [(y5, .int)]) [0] rfl
  exact W.vret hx hb hr (fun t ht hW => ⟨⟨(q1, q6, q9, q12, q15, q18, q21, q24, q4, v3, y5, v8, v11, v14, v17, v20, v23, v26), rfl, trivial, by rw [ht]; exact hP, va_K.moved hW.alike hK9, hD⟩, hS.F ht⟩) hS.2.2 dX10_init_124

