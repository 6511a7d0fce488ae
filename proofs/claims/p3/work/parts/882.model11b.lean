set_option maxHeartbeats 8000000 in
set_option maxRecDepth 100000 in
theorem c_X11_saysNumber_0 (l : Launch) (dC : Nat → ClassId) (dI : Nat → Nat → Nat) (sz : Nat) (h_mm : Nat) (h_wri : Nat) (v_mm : Nat → Value) (x_mm_writes : Int32) (x_mm_room : Int32) (cy_wri : ClassId) (f_wri : Nat → Int32) (p1 : Int32) (hx_mm_writes : 0 ≤ (x_mm_writes).toInt ∧ (x_mm_writes).toInt ≤ 1000) (hx_mm_room : 0 ≤ (x_mm_room).toInt ∧ (x_mm_room).toInt ≤ 998) (q0 : 0 ≤ (p1).toInt ∧ (p1).toInt ≤ 9) : Met l yX11_saysNumber (Ws yX11_saysNumber cX11_saysNumber 2 none) (({ frames := 1, cells := 0, slots := 0, locals := 21 } : Room)) (PRE (dC, dI) cls [(cy_wri, .int)] [(h_mm, .inr (8, (mo32 v_mm (.ref h_wri) (.int x_mm_writes) (.int x_mm_room)))), (h_wri, .inl (cy_wri, 1000, .inl f_wri))] sz [.ref h_mm, .int p1]) (va_Qv (fun (u : (Int32) × (Nat → Int32)) => (0 ≤ (u.1).toInt ∧ (u.1).toInt ≤ 1000)) (fun (u : (Int32) × (Nat → Int32)) (t : State) => va_P (dC, dI) cls [(h_mm, .inr (8, (mo32 v_mm (.ref h_wri) (.int u.1) (.int x_mm_room)))), (h_wri, .inl (cy_wri, 1000, .inl u.2))] t.heap ∧ va_D (va_A [(h_mm, .inr (8, (mo32 v_mm (.ref h_wri) (.int x_mm_writes) (.int x_mm_room)))), (h_wri, .inl (cy_wri, 1000, .inl f_wri))] sz) [(h_mm, .inr (8, (mo32 v_mm (.ref h_wri) (.int u.1) (.int x_mm_room)))), (h_wri, .inl (cy_wri, 1000, .inl u.2))]) (va_A [(h_mm, .inr (8, (mo32 v_mm (.ref h_wri) (.int x_mm_writes) (.int x_mm_room)))), (h_wri, .inl (cy_wri, 1000, .inl f_wri))] sz)) 0 0 (va_A [(h_mm, .inr (8, (mo32 v_mm (.ref h_wri) (.int x_mm_writes) (.int x_mm_room)))), (h_wri, .inl (cy_wri, 1000, .inl f_wri))] sz) := by
  refine Met.ofW (cc := cX11_saysNumber) (maxL := 2) (ret := none) (by decide) rfl ?_
  intro p e s m args below meth c s₁ B hml hv
  obtain ⟨rfl, hsz, hP, hK, hD0, hN⟩ := hv
  have hx := B.exec
  have hb := B.bytes
  have hr := B.returns
  have hts := atoms_spec (ws := Ws yX11_saysNumber cX11_saysNumber 2 none) B.pre
  have hT : ∀ w ∈ WALL, w ∈ Ws yX11_saysNumber cX11_saysNumber 2 none := fun w h => List.mem_cons_of_mem _ h
  have hw := fun w (h : w ∈ WALL) => hts w (hT w h)
  have hown : s.vm.findClass RX11 = some m.cls := findClass_of_methodNamed B.named
  have hlocks := B.notSynchronized
  subst hsz
  have hD := hD0.self (sz := s.heap.size)
  generalize hAe : va_A [(h_mm, .inr (8, (mo32 v_mm (.ref h_wri) (.int x_mm_writes) (.int x_mm_room)))), (h_wri, .inl (cy_wri, 1000, .inl f_wri))] s.heap.size = A at hD ⊢
  have hA : ∀ q : Nat, s.heap.size ≤ q → A q := fun q h => by rw [← hAe]; exact Or.inr h
  have hS : va_S A s.heap s.heap [] := va_S.rf
  have hl := lv_entry ([.ref h_mm, .int p1]) (n := 2) (Nat.le_of_ble_eq_true rfl)
  rw [lg_entry_eq]
  generalize (lg_sl ([.ref h_mm, .int p1]) ++ List.replicate (2 - (lg_sl ([.ref h_mm, .int p1])).length) Slot.unset).toArray = ls at hl ⊢
  have hl : lv_has ls 2 [(0, .ref h_mm), (1, .int p1)] := hl
  refine lv_iload_n hx hb dX11_saysNumber_0 rfl (lv_at hl 1 rfl) ?_
  refine lv_bipush (v := 9) hx hb dX11_saysNumber_1 (by decide) ?_
  refine lv_icmp_le (tgt := 14) hx hb dX11_saysNumber_3 (by decide) (fun _ => ?_) (fun c1 => False.elim (by have kc1 := (not_congr (cv_le (rfl : (p1).toInt = (p1).toInt) (by decide : (9 : Int32).toInt = 9))).mp c1; omega))
  refine lv_aload_n hx hb dX11_saysNumber_14 rfl (lv_at hl 0 rfl) ?_
  refine lv_bipush (v := 48) hx hb dX11_saysNumber_15 (by decide) ?_
  refine lv_iload_n hx hb dX11_saysNumber_17 rfl (lv_at hl 1 rfl) ?_
  refine lv_bipush (v := 10) hx hb dX11_saysNumber_18 (by decide) ?_
  refine lv_irem hx hb dX11_saysNumber_20 (by decide) ?_
  refine lv_topi (fun z2 ez2 => ?_)
  have tz2 : (z2).toInt = (p1).toInt % 10 := by rw [ez2]; exact i_rem rfl (by decide) (by omega)
  refine lv_iadd hx hb dX11_saysNumber_21 ?_
  refine lv_topi (fun z3 ez3 => ?_)
  have tz3 : (z3).toInt = 48 + (z2).toInt := by rw [ez3]; exact i_add (by decide) rfl (by omega)
  have hPc := hP.sub (ws' := [(h_mm, .inr (8, (mo32 v_mm (.ref h_wri) (.int x_mm_writes) (.int x_mm_room)))), (h_wri, .inl (cy_wri, 1000, .inl f_wri))]) [0, 1] rfl
  have hDc := hD.sub (ws' := [(h_mm, .inr (8, (mo32 v_mm (.ref h_wri) (.int x_mm_writes) (.int x_mm_room)))), (h_wri, .inl (cy_wri, 1000, .inl f_wri))]) [0, 1] (by decide) rfl
  have hKc := hK.sub (tys' := [(cy_wri, .int)]) [0] rfl
  have hFc := va_free (wc := [(h_mm, .inr (8, (mo32 v_mm (.ref h_wri) (.int x_mm_writes) (.int x_mm_room)))), (h_wri, .inl (cy_wri, 1000, .inl f_wri))]) hD hS hA [0, 1] rfl
  refine va_callv (va_runV (As := [.int z3]) (rest := []) ⟨hx, hb, hml, hown, hts⟩ (c_X11_says l dC dI s.heap.size h_mm h_wri v_mm x_mm_writes x_mm_room cy_wri f_wri z3 (by omega) (by omega)) (cwV 1 hts (gv hT w_m_X11_452 w_instanceMethod_X11_says ws_sel_X11_says w_ini_X11 w_code_X11_says) rfl rfl rfl (by decide +kernel) ⟨(Nat.le_of_ble_eq_true rfl), (Nat.le_of_ble_eq_true rfl)⟩) ⟨pre_blind, va_recv hK hP (ci := 8) (q0 := 0) rfl rfl, pre_of hPc hKc hDc hN⟩ rfl rfl hl.1 rfl (lv_room (Nat.le_of_ble_eq_true rfl)) dX11_saysNumber_22 ⟨(Nat.le_of_ble_eq_true rfl), (Nat.le_of_ble_eq_true rfl)⟩) hS (fun q _ h => hFc q h) hFc (fun u t H locs ht hvm hq hB hz1 hk1 hS => ?_)
  obtain ⟨z5, f6⟩ := u
  obtain ⟨hP1, hD1⟩ := hB
  rw [ht] at hP1
  obtain ⟨hP, hD⟩ := va_join (wr := []) (w1 := [(h_mm, .inr (8, (mo32 v_mm (.ref h_wri) (.int z5) (.int x_mm_room)))), (h_wri, .inl (cy_wri, 1000, .inl f6))]) hP hD [0, 1] [] rfl rfl (by decide) (by decide) hk1 hFc hP1 hD1
  have hP : va_P (dC, dI) cls [(h_mm, .inr (8, (mo32 v_mm (.ref h_wri) (.int z5) (.int x_mm_room)))), (h_wri, .inl (cy_wri, 1000, .inl f6))] H := hP
  have hD : va_D A [(h_mm, .inr (8, (mo32 v_mm (.ref h_wri) (.int z5) (.int x_mm_room)))), (h_wri, .inl (cy_wri, 1000, .inl f6))] := hD
  obtain ⟨k7, k8⟩ := hq
  have k7 : 0 ≤ ((z5)).toInt ∧ ((z5)).toInt ≤ 1000 := k7
  have k8 : ((x_mm_writes)).toInt ≤ ((z5)).toInt := k8
  refine W.widen (k := 0) (n := 0) (Nat.le_of_ble_eq_true rfl) (Nat.le_of_ble_eq_true rfl) ?_
  have w9 : 0 ≤ ((z5)).toInt ∧ ((z5)).toInt ≤ 1000 := by omega
  exact W.vret hx hb hr (fun t ht hW => ⟨⟨(z5, f6), rfl, w9, by rw [ht]; exact hP, hD⟩, hS.F ht⟩) hS.2.2 dX11_saysNumber_25

set_option maxHeartbeats 8000000 in
set_option maxRecDepth 100000 in
theorem c_X11_saysNumber_1 (l : Launch) (dC : Nat → ClassId) (dI : Nat → Nat → Nat) (sz : Nat) (h_mm : Nat) (h_wri : Nat) (v_mm : Nat → Value) (x_mm_writes : Int32) (x_mm_room : Int32) (cy_wri : ClassId) (f_wri : Nat → Int32) (p1 : Int32) (hx_mm_writes : 0 ≤ (x_mm_writes).toInt ∧ (x_mm_writes).toInt ≤ 1000) (hx_mm_room : 0 ≤ (x_mm_room).toInt ∧ (x_mm_room).toInt ≤ 998) (q0 : 0 ≤ (p1).toInt ∧ (p1).toInt ≤ 99) : Met l yX11_saysNumber (Ws yX11_saysNumber cX11_saysNumber 2 none) (({ frames := 2, cells := 0, slots := 0, locals := 42 } : Room)) (PRE (dC, dI) cls [(cy_wri, .int)] [(h_mm, .inr (8, (mo32 v_mm (.ref h_wri) (.int x_mm_writes) (.int x_mm_room)))), (h_wri, .inl (cy_wri, 1000, .inl f_wri))] sz [.ref h_mm, .int p1]) (va_Qv (fun (u : (Int32) × (Nat → Int32)) => (0 ≤ (u.1).toInt ∧ (u.1).toInt ≤ 1000)) (fun (u : (Int32) × (Nat → Int32)) (t : State) => va_P (dC, dI) cls [(h_mm, .inr (8, (mo32 v_mm (.ref h_wri) (.int u.1) (.int x_mm_room)))), (h_wri, .inl (cy_wri, 1000, .inl u.2))] t.heap ∧ va_D (va_A [(h_mm, .inr (8, (mo32 v_mm (.ref h_wri) (.int x_mm_writes) (.int x_mm_room)))), (h_wri, .inl (cy_wri, 1000, .inl f_wri))] sz) [(h_mm, .inr (8, (mo32 v_mm (.ref h_wri) (.int u.1) (.int x_mm_room)))), (h_wri, .inl (cy_wri, 1000, .inl u.2))]) (va_A [(h_mm, .inr (8, (mo32 v_mm (.ref h_wri) (.int x_mm_writes) (.int x_mm_room)))), (h_wri, .inl (cy_wri, 1000, .inl f_wri))] sz)) 0 0 (va_A [(h_mm, .inr (8, (mo32 v_mm (.ref h_wri) (.int x_mm_writes) (.int x_mm_room)))), (h_wri, .inl (cy_wri, 1000, .inl f_wri))] sz) := by
  refine Met.ofW (cc := cX11_saysNumber) (maxL := 2) (ret := none) (by decide) rfl ?_
  intro p e s m args below meth c s₁ B hml hv
  obtain ⟨rfl, hsz, hP, hK, hD0, hN⟩ := hv
  have hx := B.exec
  have hb := B.bytes
  have hr := B.returns
  have hts := atoms_spec (ws := Ws yX11_saysNumber cX11_saysNumber 2 none) B.pre
  have hT : ∀ w ∈ WALL, w ∈ Ws yX11_saysNumber cX11_saysNumber 2 none := fun w h => List.mem_cons_of_mem _ h
  have hw := fun w (h : w ∈ WALL) => hts w (hT w h)
  have hown : s.vm.findClass RX11 = some m.cls := findClass_of_methodNamed B.named
  have hlocks := B.notSynchronized
  subst hsz
  have hD := hD0.self (sz := s.heap.size)
  generalize hAe : va_A [(h_mm, .inr (8, (mo32 v_mm (.ref h_wri) (.int x_mm_writes) (.int x_mm_room)))), (h_wri, .inl (cy_wri, 1000, .inl f_wri))] s.heap.size = A at hD ⊢
  have hA : ∀ q : Nat, s.heap.size ≤ q → A q := fun q h => by rw [← hAe]; exact Or.inr h
  have hS : va_S A s.heap s.heap [] := va_S.rf
  have hl := lv_entry ([.ref h_mm, .int p1]) (n := 2) (Nat.le_of_ble_eq_true rfl)
  rw [lg_entry_eq]
  generalize (lg_sl ([.ref h_mm, .int p1]) ++ List.replicate (2 - (lg_sl ([.ref h_mm, .int p1])).length) Slot.unset).toArray = ls at hl ⊢
  have hl : lv_has ls 2 [(0, .ref h_mm), (1, .int p1)] := hl
  refine lv_iload_n hx hb dX11_saysNumber_0 rfl (lv_at hl 1 rfl) ?_
  refine lv_bipush (v := 9) hx hb dX11_saysNumber_1 (by decide) ?_
  refine lv_icmp_le (tgt := 14) hx hb dX11_saysNumber_3 (by decide) (fun c1 => ?_) (fun c1 => ?_)
  · have kc1 := (cv_le (rfl : (p1).toInt = (p1).toInt) (by decide : (9 : Int32).toInt = 9)).mp c1
    refine lv_aload_n hx hb dX11_saysNumber_14 rfl (lv_at hl 0 rfl) ?_
    refine lv_bipush (v := 48) hx hb dX11_saysNumber_15 (by decide) ?_
    refine lv_iload_n hx hb dX11_saysNumber_17 rfl (lv_at hl 1 rfl) ?_
    refine lv_bipush (v := 10) hx hb dX11_saysNumber_18 (by decide) ?_
    refine lv_irem hx hb dX11_saysNumber_20 (by decide) ?_
    refine lv_topi (fun z2 ez2 => ?_)
    have tz2 : (z2).toInt = (p1).toInt % 10 := by rw [ez2]; exact i_rem rfl (by decide) (by omega)
    refine lv_iadd hx hb dX11_saysNumber_21 ?_
    refine lv_topi (fun z3 ez3 => ?_)
    have tz3 : (z3).toInt = 48 + (z2).toInt := by rw [ez3]; exact i_add (by decide) rfl (by omega)
    have hPc := hP.sub (ws' := [(h_mm, .inr (8, (mo32 v_mm (.ref h_wri) (.int x_mm_writes) (.int x_mm_room)))), (h_wri, .inl (cy_wri, 1000, .inl f_wri))]) [0, 1] rfl
    have hDc := hD.sub (ws' := [(h_mm, .inr (8, (mo32 v_mm (.ref h_wri) (.int x_mm_writes) (.int x_mm_room)))), (h_wri, .inl (cy_wri, 1000, .inl f_wri))]) [0, 1] (by decide) rfl
    have hKc := hK.sub (tys' := [(cy_wri, .int)]) [0] rfl
    have hFc := va_free (wc := [(h_mm, .inr (8, (mo32 v_mm (.ref h_wri) (.int x_mm_writes) (.int x_mm_room)))), (h_wri, .inl (cy_wri, 1000, .inl f_wri))]) hD hS hA [0, 1] rfl
    refine va_callv (va_runV (As := [.int z3]) (rest := []) ⟨hx, hb, hml, hown, hts⟩ (c_X11_says l dC dI s.heap.size h_mm h_wri v_mm x_mm_writes x_mm_room cy_wri f_wri z3 (by omega) (by omega)) (cwV 1 hts (gv hT w_m_X11_452 w_instanceMethod_X11_says ws_sel_X11_says w_ini_X11 w_code_X11_says) rfl rfl rfl (by decide +kernel) ⟨(Nat.le_of_ble_eq_true rfl), (Nat.le_of_ble_eq_true rfl)⟩) ⟨pre_blind, va_recv hK hP (ci := 8) (q0 := 0) rfl rfl, pre_of hPc hKc hDc hN⟩ rfl rfl hl.1 rfl (lv_room (Nat.le_of_ble_eq_true rfl)) dX11_saysNumber_22 ⟨(Nat.le_of_ble_eq_true rfl), (Nat.le_of_ble_eq_true rfl)⟩) hS (fun q _ h => hFc q h) hFc (fun u t H locs ht hvm hq hB hz1 hk1 hS => ?_)
    obtain ⟨z5, f6⟩ := u
    obtain ⟨hP1, hD1⟩ := hB
    rw [ht] at hP1
    obtain ⟨hP, hD⟩ := va_join (wr := []) (w1 := [(h_mm, .inr (8, (mo32 v_mm (.ref h_wri) (.int z5) (.int x_mm_room)))), (h_wri, .inl (cy_wri, 1000, .inl f6))]) hP hD [0, 1] [] rfl rfl (by decide) (by decide) hk1 hFc hP1 hD1
    have hP : va_P (dC, dI) cls [(h_mm, .inr (8, (mo32 v_mm (.ref h_wri) (.int z5) (.int x_mm_room)))), (h_wri, .inl (cy_wri, 1000, .inl f6))] H := hP
    have hD : va_D A [(h_mm, .inr (8, (mo32 v_mm (.ref h_wri) (.int z5) (.int x_mm_room)))), (h_wri, .inl (cy_wri, 1000, .inl f6))] := hD
    obtain ⟨k7, k8⟩ := hq
    have k7 : 0 ≤ ((z5)).toInt ∧ ((z5)).toInt ≤ 1000 := k7
    have k8 : ((x_mm_writes)).toInt ≤ ((z5)).toInt := k8
    refine W.widen (k := 0) (n := 0) (Nat.le_of_ble_eq_true rfl) (Nat.le_of_ble_eq_true rfl) ?_
    have w9 : 0 ≤ ((z5)).toInt ∧ ((z5)).toInt ≤ 1000 := by omega
    exact W.vret hx hb hr (fun t ht hW => ⟨⟨(z5, f6), rfl, w9, by rw [ht]; exact hP, hD⟩, hS.F ht⟩) hS.2.2 dX11_saysNumber_25
  · have kc1 := (not_congr (cv_le (rfl : (p1).toInt = (p1).toInt) (by decide : (9 : Int32).toInt = 9))).mp c1
    refine lv_aload_n hx hb dX11_saysNumber_6 rfl (lv_at hl 0 rfl) ?_
    refine lv_iload_n hx hb dX11_saysNumber_7 rfl (lv_at hl 1 rfl) ?_
    refine lv_bipush (v := 10) hx hb dX11_saysNumber_8 (by decide) ?_
    refine lv_idiv hx hb dX11_saysNumber_10 (by decide) ?_
    refine lv_topi (fun z10 ez10 => ?_)
    have tz10 : (z10).toInt = (p1).toInt / 10 := by rw [ez10]; exact i_div rfl (by decide) (by omega)
    have hPc := hP.sub (ws' := [(h_mm, .inr (8, (mo32 v_mm (.ref h_wri) (.int x_mm_writes) (.int x_mm_room)))), (h_wri, .inl (cy_wri, 1000, .inl f_wri))]) [0, 1] rfl
    have hDc := hD.sub (ws' := [(h_mm, .inr (8, (mo32 v_mm (.ref h_wri) (.int x_mm_writes) (.int x_mm_room)))), (h_wri, .inl (cy_wri, 1000, .inl f_wri))]) [0, 1] (by decide) rfl
    have hKc := hK.sub (tys' := [(cy_wri, .int)]) [0] rfl
    have hFc := va_free (wc := [(h_mm, .inr (8, (mo32 v_mm (.ref h_wri) (.int x_mm_writes) (.int x_mm_room)))), (h_wri, .inl (cy_wri, 1000, .inl f_wri))]) hD hS hA [0, 1] rfl
    refine va_callv (va_runV (As := [.int z10]) (rest := []) ⟨hx, hb, hml, hown, hts⟩ (c_X11_saysNumber_0 l dC dI s.heap.size h_mm h_wri v_mm x_mm_writes x_mm_room cy_wri f_wri z10 (by omega) (by omega) (by omega)) (cwV 1 hts (gv hT w_m_X11_449 w_instanceMethod_X11_saysNumber ws_sel_X11_saysNumber w_ini_X11 w_code_X11_saysNumber) rfl rfl rfl (by decide +kernel) ⟨(Nat.le_of_ble_eq_true rfl), (Nat.le_of_ble_eq_true rfl)⟩) ⟨pre_blind, va_recv hK hP (ci := 8) (q0 := 0) rfl rfl, pre_of hPc hKc hDc hN⟩ rfl rfl hl.1 rfl (lv_room (Nat.le_of_ble_eq_true rfl)) dX11_saysNumber_11 ⟨(Nat.le_of_ble_eq_true rfl), (Nat.le_of_ble_eq_true rfl)⟩) hS (fun q _ h => hFc q h) hFc (fun u t H locs ht hvm hq hB hz1 hk1 hS => ?_)
    obtain ⟨z12, f13⟩ := u
    obtain ⟨hP1, hD1⟩ := hB
    rw [ht] at hP1
    obtain ⟨hP, hD⟩ := va_join (wr := []) (w1 := [(h_mm, .inr (8, (mo32 v_mm (.ref h_wri) (.int z12) (.int x_mm_room)))), (h_wri, .inl (cy_wri, 1000, .inl f13))]) hP hD [0, 1] [] rfl rfl (by decide) (by decide) hk1 hFc hP1 hD1
    have hP : va_P (dC, dI) cls [(h_mm, .inr (8, (mo32 v_mm (.ref h_wri) (.int z12) (.int x_mm_room)))), (h_wri, .inl (cy_wri, 1000, .inl f13))] H := hP
    have hD : va_D A [(h_mm, .inr (8, (mo32 v_mm (.ref h_wri) (.int z12) (.int x_mm_room)))), (h_wri, .inl (cy_wri, 1000, .inl f13))] := hD
    have k14 : 0 ≤ ((z12)).toInt ∧ ((z12)).toInt ≤ 1000 := hq
    refine lv_aload_n hx hb dX11_saysNumber_14 rfl (lv_at hl 0 rfl) ?_
    refine lv_bipush (v := 48) hx hb dX11_saysNumber_15 (by decide) ?_
    refine lv_iload_n hx hb dX11_saysNumber_17 rfl (lv_at hl 1 rfl) ?_
    refine lv_bipush (v := 10) hx hb dX11_saysNumber_18 (by decide) ?_
    refine lv_irem hx hb dX11_saysNumber_20 (by decide) ?_
    refine lv_topi (fun z15 ez15 => ?_)
    have tz15 : (z15).toInt = (p1).toInt % 10 := by rw [ez15]; exact i_rem rfl (by decide) (by omega)
    refine lv_iadd hx hb dX11_saysNumber_21 ?_
    refine lv_topi (fun z16 ez16 => ?_)
    have tz16 : (z16).toInt = 48 + (z15).toInt := by rw [ez16]; exact i_add (by decide) rfl (by omega)
    have hPc := hP.sub (ws' := [(h_mm, .inr (8, (mo32 v_mm (.ref h_wri) (.int z12) (.int x_mm_room)))), (h_wri, .inl (cy_wri, 1000, .inl f13))]) [0, 1] rfl
    have hDc := hD.sub (ws' := [(h_mm, .inr (8, (mo32 v_mm (.ref h_wri) (.int z12) (.int x_mm_room)))), (h_wri, .inl (cy_wri, 1000, .inl f13))]) [0, 1] (by decide) rfl
    have hKc := hK.sub (tys' := [(cy_wri, .int)]) [0] rfl
    have hFc := va_free (wc := [(h_mm, .inr (8, (mo32 v_mm (.ref h_wri) (.int z12) (.int x_mm_room)))), (h_wri, .inl (cy_wri, 1000, .inl f13))]) hD hS hA [0, 1] rfl
    refine va_callv (va_runV (As := [.int z16]) (rest := []) ⟨hx, hb, hml, hown, hts⟩ (c_X11_says l dC dI H.size h_mm h_wri v_mm z12 x_mm_room cy_wri f13 z16 (by omega) (by omega)) (cwV 1 hts (gv hT w_m_X11_452 w_instanceMethod_X11_says ws_sel_X11_says w_ini_X11 w_code_X11_says) rfl rfl rfl (by decide +kernel) ⟨(Nat.le_of_ble_eq_true rfl), (Nat.le_of_ble_eq_true rfl)⟩) ⟨pre_blind, va_recv hK hP (ci := 8) (q0 := 0) rfl rfl, pre_of hPc hKc hDc hN⟩ rfl rfl hl.1 rfl (lv_room (Nat.le_of_ble_eq_true rfl)) dX11_saysNumber_22 ⟨(Nat.le_of_ble_eq_true rfl), (Nat.le_of_ble_eq_true rfl)⟩) hS (fun q _ h => hFc q h) hFc (fun u t H locs ht hvm hq hB hz1 hk1 hS => ?_)
    obtain ⟨z18, f19⟩ := u
    obtain ⟨hP1, hD1⟩ := hB
    rw [ht] at hP1
    obtain ⟨hP, hD⟩ := va_join (wr := []) (w1 := [(h_mm, .inr (8, (mo32 v_mm (.ref h_wri) (.int z18) (.int x_mm_room)))), (h_wri, .inl (cy_wri, 1000, .inl f19))]) hP hD [0, 1] [] rfl rfl (by decide) (by decide) hk1 hFc hP1 hD1
    have hP : va_P (dC, dI) cls [(h_mm, .inr (8, (mo32 v_mm (.ref h_wri) (.int z18) (.int x_mm_room)))), (h_wri, .inl (cy_wri, 1000, .inl f19))] H := hP
    have hD : va_D A [(h_mm, .inr (8, (mo32 v_mm (.ref h_wri) (.int z18) (.int x_mm_room)))), (h_wri, .inl (cy_wri, 1000, .inl f19))] := hD
    obtain ⟨k20, k21⟩ := hq
    have k20 : 0 ≤ ((z18)).toInt ∧ ((z18)).toInt ≤ 1000 := k20
    have k21 : ((z12)).toInt ≤ ((z18)).toInt := k21
    refine W.widen (k := 0) (n := 0) (Nat.le_of_ble_eq_true rfl) (Nat.le_of_ble_eq_true rfl) ?_
    have w22 : 0 ≤ ((z18)).toInt ∧ ((z18)).toInt ≤ 1000 := by omega
    exact W.vret hx hb hr (fun t ht hW => ⟨⟨(z18, f19), rfl, w22, by rw [ht]; exact hP, hD⟩, hS.F ht⟩) hS.2.2 dX11_saysNumber_25

set_option maxHeartbeats 8000000 in
set_option maxRecDepth 100000 in
theorem c_X11_saysName_0 (l : Launch) (dC : Nat → ClassId) (dI : Nat → Nat → Nat) (sz : Nat) (h_mm : Nat) (h_wri : Nat) (v_mm : Nat → Value) (x_mm_writes : Int32) (x_mm_room : Int32) (cy_wri : ClassId) (f_wri : Nat → Int32) (p1 : Int64) (hx_mm_writes : 0 ≤ (x_mm_writes).toInt ∧ (x_mm_writes).toInt ≤ 1000) (hx_mm_room : 0 ≤ (x_mm_room).toInt ∧ (x_mm_room).toInt ≤ 998) (q0 : (p1).toInt ≤ 27) : Met l yX11_saysName (Ws yX11_saysName cX11_saysName 3 none) (({ frames := 1, cells := 0, slots := 0, locals := 21 } : Room)) (PRE (dC, dI) cls [(cy_wri, .int)] [(h_mm, .inr (8, (mo32 v_mm (.ref h_wri) (.int x_mm_writes) (.int x_mm_room)))), (h_wri, .inl (cy_wri, 1000, .inl f_wri))] sz [.ref h_mm, .long p1]) (va_Qv (fun (u : (Int32) × (Nat → Int32)) => (0 ≤ (u.1).toInt ∧ (u.1).toInt ≤ 1000)) (fun (u : (Int32) × (Nat → Int32)) (t : State) => va_P (dC, dI) cls [(h_mm, .inr (8, (mo32 v_mm (.ref h_wri) (.int u.1) (.int x_mm_room)))), (h_wri, .inl (cy_wri, 1000, .inl u.2))] t.heap ∧ va_D (va_A [(h_mm, .inr (8, (mo32 v_mm (.ref h_wri) (.int x_mm_writes) (.int x_mm_room)))), (h_wri, .inl (cy_wri, 1000, .inl f_wri))] sz) [(h_mm, .inr (8, (mo32 v_mm (.ref h_wri) (.int u.1) (.int x_mm_room)))), (h_wri, .inl (cy_wri, 1000, .inl u.2))]) (va_A [(h_mm, .inr (8, (mo32 v_mm (.ref h_wri) (.int x_mm_writes) (.int x_mm_room)))), (h_wri, .inl (cy_wri, 1000, .inl f_wri))] sz)) 0 0 (va_A [(h_mm, .inr (8, (mo32 v_mm (.ref h_wri) (.int x_mm_writes) (.int x_mm_room)))), (h_wri, .inl (cy_wri, 1000, .inl f_wri))] sz) := by
  refine Met.ofW (cc := cX11_saysName) (maxL := 3) (ret := none) (by decide) rfl ?_
  intro p e s m args below meth c s₁ B hml hv
  obtain ⟨rfl, hsz, hP, hK, hD0, hN⟩ := hv
  have hx := B.exec
  have hb := B.bytes
  have hr := B.returns
  have hts := atoms_spec (ws := Ws yX11_saysName cX11_saysName 3 none) B.pre
  have hT : ∀ w ∈ WALL, w ∈ Ws yX11_saysName cX11_saysName 3 none := fun w h => List.mem_cons_of_mem _ h
  have hw := fun w (h : w ∈ WALL) => hts w (hT w h)
  have hown : s.vm.findClass RX11 = some m.cls := findClass_of_methodNamed B.named
  have hlocks := B.notSynchronized
  subst hsz
  have hD := hD0.self (sz := s.heap.size)
  generalize hAe : va_A [(h_mm, .inr (8, (mo32 v_mm (.ref h_wri) (.int x_mm_writes) (.int x_mm_room)))), (h_wri, .inl (cy_wri, 1000, .inl f_wri))] s.heap.size = A at hD ⊢
  have hA : ∀ q : Nat, s.heap.size ≤ q → A q := fun q h => by rw [← hAe]; exact Or.inr h
  have hS : va_S A s.heap s.heap [] := va_S.rf
  have hl := lv_entry ([.ref h_mm, .long p1]) (n := 3) (Nat.le_of_ble_eq_true rfl)
  rw [lg_entry_eq]
  generalize (lg_sl ([.ref h_mm, .long p1]) ++ List.replicate (3 - (lg_sl ([.ref h_mm, .long p1])).length) Slot.unset).toArray = ls at hl ⊢
  have hl : lv_has ls 3 [(0, .ref h_mm), (1, .long p1)] := hl
  refine lv_lload_n hx hb dX11_saysName_0 rfl (lv_at hl 1 rfl) ?_
  refine lv_ldc2 (v := 27) hx hb hown (hw _ w_cl_X11_93) dX11_saysName_1 ?_
  refine W.lcmp hx hb dX11_saysName_4 ?_
  refine lv_topi (fun z1 ez1 => ?_)
  have gz1 := lgc p1 27
  rw [← ez1] at gz1
  have : (27 : Int64).toInt = 27 := by decide
  refine lv_if_le (tgt := 19) hx hb dX11_saysName_5 (by decide) (fun _ => ?_) (fun c2 => False.elim (by have kc2 := (not_congr (cv_le (rfl : (z1).toInt = (z1).toInt) (by decide : (0 : Int32).toInt = 0))).mp c2; omega))
  refine lv_aload_n hx hb dX11_saysName_19 rfl (lv_at hl 0 rfl) ?_
  refine lv_bipush (v := 97) hx hb dX11_saysName_20 (by decide) ?_
  refine lv_lload_n hx hb dX11_saysName_22 rfl (lv_at hl 1 rfl) ?_
  refine lv_lconst (v := 1) hx hb dX11_saysName_23 (by decide) ?_
  refine lv_lsub hx hb dX11_saysName_24 ?_
  refine lv_topl (fun z3 ez3 => ?_)
  refine lv_ldc2 (v := 27) hx hb hown (hw _ w_cl_X11_93) dX11_saysName_25 ?_
  refine lv_lrem hx hb dX11_saysName_28 (by decide) ?_
  refine lv_topl (fun z4 ez4 => ?_)
  refine lv_l2i hx hb dX11_saysName_29 rfl ?_
  refine lv_topi (fun z5 ez5 => ?_)
  refine lv_iadd hx hb dX11_saysName_30 ?_
  refine lv_topi (fun z6 ez6 => ?_)
  have hPc := hP.sub (ws' := [(h_mm, .inr (8, (mo32 v_mm (.ref h_wri) (.int x_mm_writes) (.int x_mm_room)))), (h_wri, .inl (cy_wri, 1000, .inl f_wri))]) [0, 1] rfl
  have hDc := hD.sub (ws' := [(h_mm, .inr (8, (mo32 v_mm (.ref h_wri) (.int x_mm_writes) (.int x_mm_room)))), (h_wri, .inl (cy_wri, 1000, .inl f_wri))]) [0, 1] (by decide) rfl
  have hKc := hK.sub (tys' := [(cy_wri, .int)]) [0] rfl
  have hFc := va_free (wc := [(h_mm, .inr (8, (mo32 v_mm (.ref h_wri) (.int x_mm_writes) (.int x_mm_room)))), (h_wri, .inl (cy_wri, 1000, .inl f_wri))]) hD hS hA [0, 1] rfl
  refine va_callv (va_runV (As := [.int z6]) (rest := []) ⟨hx, hb, hml, hown, hts⟩ (c_X11_says l dC dI s.heap.size h_mm h_wri v_mm x_mm_writes x_mm_room cy_wri f_wri z6 (by omega) (by omega)) (cwV 1 hts (gv hT w_m_X11_452 w_instanceMethod_X11_says ws_sel_X11_says w_ini_X11 w_code_X11_says) rfl rfl rfl (by decide +kernel) ⟨(Nat.le_of_ble_eq_true rfl), (Nat.le_of_ble_eq_true rfl)⟩) ⟨pre_blind, va_recv hK hP (ci := 8) (q0 := 0) rfl rfl, pre_of hPc hKc hDc hN⟩ rfl rfl hl.1 rfl (lv_room (Nat.le_of_ble_eq_true rfl)) dX11_saysName_31 ⟨(Nat.le_of_ble_eq_true rfl), (Nat.le_of_ble_eq_true rfl)⟩) hS (fun q _ h => hFc q h) hFc (fun u t H locs ht hvm hq hB hz1 hk1 hS => ?_)
  obtain ⟨z8, f9⟩ := u
  obtain ⟨hP1, hD1⟩ := hB
  rw [ht] at hP1
  obtain ⟨hP, hD⟩ := va_join (wr := []) (w1 := [(h_mm, .inr (8, (mo32 v_mm (.ref h_wri) (.int z8) (.int x_mm_room)))), (h_wri, .inl (cy_wri, 1000, .inl f9))]) hP hD [0, 1] [] rfl rfl (by decide) (by decide) hk1 hFc hP1 hD1
  have hP : va_P (dC, dI) cls [(h_mm, .inr (8, (mo32 v_mm (.ref h_wri) (.int z8) (.int x_mm_room)))), (h_wri, .inl (cy_wri, 1000, .inl f9))] H := hP
  have hD : va_D A [(h_mm, .inr (8, (mo32 v_mm (.ref h_wri) (.int z8) (.int x_mm_room)))), (h_wri, .inl (cy_wri, 1000, .inl f9))] := hD
  obtain ⟨k10, k11⟩ := hq
  have k10 : 0 ≤ ((z8)).toInt ∧ ((z8)).toInt ≤ 1000 := k10
  have k11 : ((x_mm_writes)).toInt ≤ ((z8)).toInt := k11
  refine W.widen (k := 0) (n := 0) (Nat.le_of_ble_eq_true rfl) (Nat.le_of_ble_eq_true rfl) ?_
  have w12 : 0 ≤ ((z8)).toInt ∧ ((z8)).toInt ≤ 1000 := by omega
  exact W.vret hx hb hr (fun t ht hW => ⟨⟨(z8, f9), rfl, w12, by rw [ht]; exact hP, hD⟩, hS.F ht⟩) hS.2.2 dX11_saysName_34

set_option maxHeartbeats 8000000 in
set_option maxRecDepth 100000 in
theorem c_X11_saysName_1 (l : Launch) (dC : Nat → ClassId) (dI : Nat → Nat → Nat) (sz : Nat) (h_mm : Nat) (h_wri : Nat) (v_mm : Nat → Value) (x_mm_writes : Int32) (x_mm_room : Int32) (cy_wri : ClassId) (f_wri : Nat → Int32) (p1 : Int64) (hx_mm_writes : 0 ≤ (x_mm_writes).toInt ∧ (x_mm_writes).toInt ≤ 1000) (hx_mm_room : 0 ≤ (x_mm_room).toInt ∧ (x_mm_room).toInt ≤ 998) (q0 : (p1).toInt ≤ 756) : Met l yX11_saysName (Ws yX11_saysName cX11_saysName 3 none) (({ frames := 2, cells := 0, slots := 0, locals := 43 } : Room)) (PRE (dC, dI) cls [(cy_wri, .int)] [(h_mm, .inr (8, (mo32 v_mm (.ref h_wri) (.int x_mm_writes) (.int x_mm_room)))), (h_wri, .inl (cy_wri, 1000, .inl f_wri))] sz [.ref h_mm, .long p1]) (va_Qv (fun (u : (Int32) × (Nat → Int32)) => (0 ≤ (u.1).toInt ∧ (u.1).toInt ≤ 1000)) (fun (u : (Int32) × (Nat → Int32)) (t : State) => va_P (dC, dI) cls [(h_mm, .inr (8, (mo32 v_mm (.ref h_wri) (.int u.1) (.int x_mm_room)))), (h_wri, .inl (cy_wri, 1000, .inl u.2))] t.heap ∧ va_D (va_A [(h_mm, .inr (8, (mo32 v_mm (.ref h_wri) (.int x_mm_writes) (.int x_mm_room)))), (h_wri, .inl (cy_wri, 1000, .inl f_wri))] sz) [(h_mm, .inr (8, (mo32 v_mm (.ref h_wri) (.int u.1) (.int x_mm_room)))), (h_wri, .inl (cy_wri, 1000, .inl u.2))]) (va_A [(h_mm, .inr (8, (mo32 v_mm (.ref h_wri) (.int x_mm_writes) (.int x_mm_room)))), (h_wri, .inl (cy_wri, 1000, .inl f_wri))] sz)) 0 0 (va_A [(h_mm, .inr (8, (mo32 v_mm (.ref h_wri) (.int x_mm_writes) (.int x_mm_room)))), (h_wri, .inl (cy_wri, 1000, .inl f_wri))] sz) := by
  refine Met.ofW (cc := cX11_saysName) (maxL := 3) (ret := none) (by decide) rfl ?_
  intro p e s m args below meth c s₁ B hml hv
  obtain ⟨rfl, hsz, hP, hK, hD0, hN⟩ := hv
  have hx := B.exec
  have hb := B.bytes
  have hr := B.returns
  have hts := atoms_spec (ws := Ws yX11_saysName cX11_saysName 3 none) B.pre
  have hT : ∀ w ∈ WALL, w ∈ Ws yX11_saysName cX11_saysName 3 none := fun w h => List.mem_cons_of_mem _ h
  have hw := fun w (h : w ∈ WALL) => hts w (hT w h)
  have hown : s.vm.findClass RX11 = some m.cls := findClass_of_methodNamed B.named
  have hlocks := B.notSynchronized
  subst hsz
  have hD := hD0.self (sz := s.heap.size)
  generalize hAe : va_A [(h_mm, .inr (8, (mo32 v_mm (.ref h_wri) (.int x_mm_writes) (.int x_mm_room)))), (h_wri, .inl (cy_wri, 1000, .inl f_wri))] s.heap.size = A at hD ⊢
  have hA : ∀ q : Nat, s.heap.size ≤ q → A q := fun q h => by rw [← hAe]; exact Or.inr h
  have hS : va_S A s.heap s.heap [] := va_S.rf
  have hl := lv_entry ([.ref h_mm, .long p1]) (n := 3) (Nat.le_of_ble_eq_true rfl)
  rw [lg_entry_eq]
  generalize (lg_sl ([.ref h_mm, .long p1]) ++ List.replicate (3 - (lg_sl ([.ref h_mm, .long p1])).length) Slot.unset).toArray = ls at hl ⊢
  have hl : lv_has ls 3 [(0, .ref h_mm), (1, .long p1)] := hl
  refine lv_lload_n hx hb dX11_saysName_0 rfl (lv_at hl 1 rfl) ?_
  refine lv_ldc2 (v := 27) hx hb hown (hw _ w_cl_X11_93) dX11_saysName_1 ?_
  refine W.lcmp hx hb dX11_saysName_4 ?_
  refine lv_topi (fun z1 ez1 => ?_)
  have gz1 := lgc p1 27
  rw [← ez1] at gz1
  have : (27 : Int64).toInt = 27 := by decide
  refine lv_if_le (tgt := 19) hx hb dX11_saysName_5 (by decide) (fun c2 => ?_) (fun c2 => ?_)
  · have kc2 := (cv_le (rfl : (z1).toInt = (z1).toInt) (by decide : (0 : Int32).toInt = 0)).mp c2
    refine lv_aload_n hx hb dX11_saysName_19 rfl (lv_at hl 0 rfl) ?_
    refine lv_bipush (v := 97) hx hb dX11_saysName_20 (by decide) ?_
    refine lv_lload_n hx hb dX11_saysName_22 rfl (lv_at hl 1 rfl) ?_
    refine lv_lconst (v := 1) hx hb dX11_saysName_23 (by decide) ?_
    refine lv_lsub hx hb dX11_saysName_24 ?_
    refine lv_topl (fun z3 ez3 => ?_)
    refine lv_ldc2 (v := 27) hx hb hown (hw _ w_cl_X11_93) dX11_saysName_25 ?_
    refine lv_lrem hx hb dX11_saysName_28 (by decide) ?_
    refine lv_topl (fun z4 ez4 => ?_)
    refine lv_l2i hx hb dX11_saysName_29 rfl ?_
    refine lv_topi (fun z5 ez5 => ?_)
    refine lv_iadd hx hb dX11_saysName_30 ?_
    refine lv_topi (fun z6 ez6 => ?_)
    have hPc := hP.sub (ws' := [(h_mm, .inr (8, (mo32 v_mm (.ref h_wri) (.int x_mm_writes) (.int x_mm_room)))), (h_wri, .inl (cy_wri, 1000, .inl f_wri))]) [0, 1] rfl
    have hDc := hD.sub (ws' := [(h_mm, .inr (8, (mo32 v_mm (.ref h_wri) (.int x_mm_writes) (.int x_mm_room)))), (h_wri, .inl (cy_wri, 1000, .inl f_wri))]) [0, 1] (by decide) rfl
    have hKc := hK.sub (tys' := [(cy_wri, .int)]) [0] rfl
    have hFc := va_free (wc := [(h_mm, .inr (8, (mo32 v_mm (.ref h_wri) (.int x_mm_writes) (.int x_mm_room)))), (h_wri, .inl (cy_wri, 1000, .inl f_wri))]) hD hS hA [0, 1] rfl
    refine va_callv (va_runV (As := [.int z6]) (rest := []) ⟨hx, hb, hml, hown, hts⟩ (c_X11_says l dC dI s.heap.size h_mm h_wri v_mm x_mm_writes x_mm_room cy_wri f_wri z6 (by omega) (by omega)) (cwV 1 hts (gv hT w_m_X11_452 w_instanceMethod_X11_says ws_sel_X11_says w_ini_X11 w_code_X11_says) rfl rfl rfl (by decide +kernel) ⟨(Nat.le_of_ble_eq_true rfl), (Nat.le_of_ble_eq_true rfl)⟩) ⟨pre_blind, va_recv hK hP (ci := 8) (q0 := 0) rfl rfl, pre_of hPc hKc hDc hN⟩ rfl rfl hl.1 rfl (lv_room (Nat.le_of_ble_eq_true rfl)) dX11_saysName_31 ⟨(Nat.le_of_ble_eq_true rfl), (Nat.le_of_ble_eq_true rfl)⟩) hS (fun q _ h => hFc q h) hFc (fun u t H locs ht hvm hq hB hz1 hk1 hS => ?_)
    obtain ⟨z8, f9⟩ := u
    obtain ⟨hP1, hD1⟩ := hB
    rw [ht] at hP1
    obtain ⟨hP, hD⟩ := va_join (wr := []) (w1 := [(h_mm, .inr (8, (mo32 v_mm (.ref h_wri) (.int z8) (.int x_mm_room)))), (h_wri, .inl (cy_wri, 1000, .inl f9))]) hP hD [0, 1] [] rfl rfl (by decide) (by decide) hk1 hFc hP1 hD1
    have hP : va_P (dC, dI) cls [(h_mm, .inr (8, (mo32 v_mm (.ref h_wri) (.int z8) (.int x_mm_room)))), (h_wri, .inl (cy_wri, 1000, .inl f9))] H := hP
    have hD : va_D A [(h_mm, .inr (8, (mo32 v_mm (.ref h_wri) (.int z8) (.int x_mm_room)))), (h_wri, .inl (cy_wri, 1000, .inl f9))] := hD
    obtain ⟨k10, k11⟩ := hq
    have k10 : 0 ≤ ((z8)).toInt ∧ ((z8)).toInt ≤ 1000 := k10
    have k11 : ((x_mm_writes)).toInt ≤ ((z8)).toInt := k11
    refine W.widen (k := 0) (n := 0) (Nat.le_of_ble_eq_true rfl) (Nat.le_of_ble_eq_true rfl) ?_
    have w12 : 0 ≤ ((z8)).toInt ∧ ((z8)).toInt ≤ 1000 := by omega
    exact W.vret hx hb hr (fun t ht hW => ⟨⟨(z8, f9), rfl, w12, by rw [ht]; exact hP, hD⟩, hS.F ht⟩) hS.2.2 dX11_saysName_34
  · have kc2 := (not_congr (cv_le (rfl : (z1).toInt = (z1).toInt) (by decide : (0 : Int32).toInt = 0))).mp c2
    have bd9 := l_bd p1
    refine lv_aload_n hx hb dX11_saysName_8 rfl (lv_at hl 0 rfl) ?_
    refine lv_lload_n hx hb dX11_saysName_9 rfl (lv_at hl 1 rfl) ?_
    refine lv_lconst (v := 1) hx hb dX11_saysName_10 (by decide) ?_
    refine lv_lsub hx hb dX11_saysName_11 ?_
    refine lv_topl (fun z13 ez13 => ?_)
    have tz13 : (z13).toInt = (p1).toInt - 1 := by rw [ez13]; exact l_sub rfl (by decide) (by omega)
    refine lv_ldc2 (v := 27) hx hb hown (hw _ w_cl_X11_93) dX11_saysName_12 ?_
    refine lv_ldiv hx hb dX11_saysName_15 (by decide) ?_
    refine lv_topl (fun z14 ez14 => ?_)
    have tz14 : 0 ≤ (z13).toInt → (z14).toInt = (z13).toInt / 27 := fun h9 => by rw [ez14]; exact l_div rfl (by decide) (by omega)
    have hPc := hP.sub (ws' := [(h_mm, .inr (8, (mo32 v_mm (.ref h_wri) (.int x_mm_writes) (.int x_mm_room)))), (h_wri, .inl (cy_wri, 1000, .inl f_wri))]) [0, 1] rfl
    have hDc := hD.sub (ws' := [(h_mm, .inr (8, (mo32 v_mm (.ref h_wri) (.int x_mm_writes) (.int x_mm_room)))), (h_wri, .inl (cy_wri, 1000, .inl f_wri))]) [0, 1] (by decide) rfl
    have hKc := hK.sub (tys' := [(cy_wri, .int)]) [0] rfl
    have hFc := va_free (wc := [(h_mm, .inr (8, (mo32 v_mm (.ref h_wri) (.int x_mm_writes) (.int x_mm_room)))), (h_wri, .inl (cy_wri, 1000, .inl f_wri))]) hD hS hA [0, 1] rfl
    refine va_callv (va_runV (As := [.long z14]) (rest := []) ⟨hx, hb, hml, hown, hts⟩ (c_X11_saysName_0 l dC dI s.heap.size h_mm h_wri v_mm x_mm_writes x_mm_room cy_wri f_wri z14 (by omega) (by omega) (by omega)) (cwV 1 hts (gv hT w_m_X11_455 w_instanceMethod_X11_saysName ws_sel_X11_saysName w_ini_X11 w_code_X11_saysName) rfl rfl rfl (by decide +kernel) ⟨(Nat.le_of_ble_eq_true rfl), (Nat.le_of_ble_eq_true rfl)⟩) ⟨pre_blind, va_recv hK hP (ci := 8) (q0 := 0) rfl rfl, pre_of hPc hKc hDc hN⟩ rfl rfl hl.1 rfl (lv_room (Nat.le_of_ble_eq_true rfl)) dX11_saysName_16 ⟨(Nat.le_of_ble_eq_true rfl), (Nat.le_of_ble_eq_true rfl)⟩) hS (fun q _ h => hFc q h) hFc (fun u t H locs ht hvm hq hB hz1 hk1 hS => ?_)
    obtain ⟨z16, f17⟩ := u
    obtain ⟨hP1, hD1⟩ := hB
    rw [ht] at hP1
    obtain ⟨hP, hD⟩ := va_join (wr := []) (w1 := [(h_mm, .inr (8, (mo32 v_mm (.ref h_wri) (.int z16) (.int x_mm_room)))), (h_wri, .inl (cy_wri, 1000, .inl f17))]) hP hD [0, 1] [] rfl rfl (by decide) (by decide) hk1 hFc hP1 hD1
    have hP : va_P (dC, dI) cls [(h_mm, .inr (8, (mo32 v_mm (.ref h_wri) (.int z16) (.int x_mm_room)))), (h_wri, .inl (cy_wri, 1000, .inl f17))] H := hP
    have hD : va_D A [(h_mm, .inr (8, (mo32 v_mm (.ref h_wri) (.int z16) (.int x_mm_room)))), (h_wri, .inl (cy_wri, 1000, .inl f17))] := hD
    have k18 : 0 ≤ ((z16)).toInt ∧ ((z16)).toInt ≤ 1000 := hq
    refine lv_aload_n hx hb dX11_saysName_19 rfl (lv_at hl 0 rfl) ?_
    refine lv_bipush (v := 97) hx hb dX11_saysName_20 (by decide) ?_
    refine lv_lload_n hx hb dX11_saysName_22 rfl (lv_at hl 1 rfl) ?_
    refine lv_lconst (v := 1) hx hb dX11_saysName_23 (by decide) ?_
    refine lv_lsub hx hb dX11_saysName_24 ?_
    refine lv_topl (fun z19 ez19 => ?_)
    refine lv_ldc2 (v := 27) hx hb hown (hw _ w_cl_X11_93) dX11_saysName_25 ?_
    refine lv_lrem hx hb dX11_saysName_28 (by decide) ?_
    refine lv_topl (fun z20 ez20 => ?_)
    refine lv_l2i hx hb dX11_saysName_29 rfl ?_
    refine lv_topi (fun z21 ez21 => ?_)
    refine lv_iadd hx hb dX11_saysName_30 ?_
    refine lv_topi (fun z22 ez22 => ?_)
    have hPc := hP.sub (ws' := [(h_mm, .inr (8, (mo32 v_mm (.ref h_wri) (.int z16) (.int x_mm_room)))), (h_wri, .inl (cy_wri, 1000, .inl f17))]) [0, 1] rfl
    have hDc := hD.sub (ws' := [(h_mm, .inr (8, (mo32 v_mm (.ref h_wri) (.int z16) (.int x_mm_room)))), (h_wri, .inl (cy_wri, 1000, .inl f17))]) [0, 1] (by decide) rfl
    have hKc := hK.sub (tys' := [(cy_wri, .int)]) [0] rfl
    have hFc := va_free (wc := [(h_mm, .inr (8, (mo32 v_mm (.ref h_wri) (.int z16) (.int x_mm_room)))), (h_wri, .inl (cy_wri, 1000, .inl f17))]) hD hS hA [0, 1] rfl
    refine va_callv (va_runV (As := [.int z22]) (rest := []) ⟨hx, hb, hml, hown, hts⟩ (c_X11_says l dC dI H.size h_mm h_wri v_mm z16 x_mm_room cy_wri f17 z22 (by omega) (by omega)) (cwV 1 hts (gv hT w_m_X11_452 w_instanceMethod_X11_says ws_sel_X11_says w_ini_X11 w_code_X11_says) rfl rfl rfl (by decide +kernel) ⟨(Nat.le_of_ble_eq_true rfl), (Nat.le_of_ble_eq_true rfl)⟩) ⟨pre_blind, va_recv hK hP (ci := 8) (q0 := 0) rfl rfl, pre_of hPc hKc hDc hN⟩ rfl rfl hl.1 rfl (lv_room (Nat.le_of_ble_eq_true rfl)) dX11_saysName_31 ⟨(Nat.le_of_ble_eq_true rfl), (Nat.le_of_ble_eq_true rfl)⟩) hS (fun q _ h => hFc q h) hFc (fun u t H locs ht hvm hq hB hz1 hk1 hS => ?_)
    obtain ⟨z24, f25⟩ := u
    obtain ⟨hP1, hD1⟩ := hB
    rw [ht] at hP1
    obtain ⟨hP, hD⟩ := va_join (wr := []) (w1 := [(h_mm, .inr (8, (mo32 v_mm (.ref h_wri) (.int z24) (.int x_mm_room)))), (h_wri, .inl (cy_wri, 1000, .inl f25))]) hP hD [0, 1] [] rfl rfl (by decide) (by decide) hk1 hFc hP1 hD1
    have hP : va_P (dC, dI) cls [(h_mm, .inr (8, (mo32 v_mm (.ref h_wri) (.int z24) (.int x_mm_room)))), (h_wri, .inl (cy_wri, 1000, .inl f25))] H := hP
    have hD : va_D A [(h_mm, .inr (8, (mo32 v_mm (.ref h_wri) (.int z24) (.int x_mm_room)))), (h_wri, .inl (cy_wri, 1000, .inl f25))] := hD
    obtain ⟨k26, k27⟩ := hq
    have k26 : 0 ≤ ((z24)).toInt ∧ ((z24)).toInt ≤ 1000 := k26
    have k27 : ((z16)).toInt ≤ ((z24)).toInt := k27
    refine W.widen (k := 0) (n := 0) (Nat.le_of_ble_eq_true rfl) (Nat.le_of_ble_eq_true rfl) ?_
    have w28 : 0 ≤ ((z24)).toInt ∧ ((z24)).toInt ≤ 1000 := by omega
    exact W.vret hx hb hr (fun t ht hW => ⟨⟨(z24, f25), rfl, w28, by rw [ht]; exact hP, hD⟩, hS.F ht⟩) hS.2.2 dX11_saysName_34

set_option maxHeartbeats 8000000 in
set_option maxRecDepth 100000 in
theorem c_X11_saysName_2 (l : Launch) (dC : Nat → ClassId) (dI : Nat → Nat → Nat) (sz : Nat) (h_mm : Nat) (h_wri : Nat) (v_mm : Nat → Value) (x_mm_writes : Int32) (x_mm_room : Int32) (cy_wri : ClassId) (f_wri : Nat → Int32) (p1 : Int64) (hx_mm_writes : 0 ≤ (x_mm_writes).toInt ∧ (x_mm_writes).toInt ≤ 1000) (hx_mm_room : 0 ≤ (x_mm_room).toInt ∧ (x_mm_room).toInt ≤ 998) (q0 : (p1).toInt ≤ 20439) : Met l yX11_saysName (Ws yX11_saysName cX11_saysName 3 none) (({ frames := 3, cells := 0, slots := 0, locals := 65 } : Room)) (PRE (dC, dI) cls [(cy_wri, .int)] [(h_mm, .inr (8, (mo32 v_mm (.ref h_wri) (.int x_mm_writes) (.int x_mm_room)))), (h_wri, .inl (cy_wri, 1000, .inl f_wri))] sz [.ref h_mm, .long p1]) (va_Qv (fun (u : (Int32) × (Nat → Int32)) => (0 ≤ (u.1).toInt ∧ (u.1).toInt ≤ 1000)) (fun (u : (Int32) × (Nat → Int32)) (t : State) => va_P (dC, dI) cls [(h_mm, .inr (8, (mo32 v_mm (.ref h_wri) (.int u.1) (.int x_mm_room)))), (h_wri, .inl (cy_wri, 1000, .inl u.2))] t.heap ∧ va_D (va_A [(h_mm, .inr (8, (mo32 v_mm (.ref h_wri) (.int x_mm_writes) (.int x_mm_room)))), (h_wri, .inl (cy_wri, 1000, .inl f_wri))] sz) [(h_mm, .inr (8, (mo32 v_mm (.ref h_wri) (.int u.1) (.int x_mm_room)))), (h_wri, .inl (cy_wri, 1000, .inl u.2))]) (va_A [(h_mm, .inr (8, (mo32 v_mm (.ref h_wri) (.int x_mm_writes) (.int x_mm_room)))), (h_wri, .inl (cy_wri, 1000, .inl f_wri))] sz)) 0 0 (va_A [(h_mm, .inr (8, (mo32 v_mm (.ref h_wri) (.int x_mm_writes) (.int x_mm_room)))), (h_wri, .inl (cy_wri, 1000, .inl f_wri))] sz) := by
  refine Met.ofW (cc := cX11_saysName) (maxL := 3) (ret := none) (by decide) rfl ?_
  intro p e s m args below meth c s₁ B hml hv
  obtain ⟨rfl, hsz, hP, hK, hD0, hN⟩ := hv
  have hx := B.exec
  have hb := B.bytes
  have hr := B.returns
  have hts := atoms_spec (ws := Ws yX11_saysName cX11_saysName 3 none) B.pre
  have hT : ∀ w ∈ WALL, w ∈ Ws yX11_saysName cX11_saysName 3 none := fun w h => List.mem_cons_of_mem _ h
  have hw := fun w (h : w ∈ WALL) => hts w (hT w h)
  have hown : s.vm.findClass RX11 = some m.cls := findClass_of_methodNamed B.named
  have hlocks := B.notSynchronized
  subst hsz
  have hD := hD0.self (sz := s.heap.size)
  generalize hAe : va_A [(h_mm, .inr (8, (mo32 v_mm (.ref h_wri) (.int x_mm_writes) (.int x_mm_room)))), (h_wri, .inl (cy_wri, 1000, .inl f_wri))] s.heap.size = A at hD ⊢
  have hA : ∀ q : Nat, s.heap.size ≤ q → A q := fun q h => by rw [← hAe]; exact Or.inr h
  have hS : va_S A s.heap s.heap [] := va_S.rf
  have hl := lv_entry ([.ref h_mm, .long p1]) (n := 3) (Nat.le_of_ble_eq_true rfl)
  rw [lg_entry_eq]
  generalize (lg_sl ([.ref h_mm, .long p1]) ++ List.replicate (3 - (lg_sl ([.ref h_mm, .long p1])).length) Slot.unset).toArray = ls at hl ⊢
  have hl : lv_has ls 3 [(0, .ref h_mm), (1, .long p1)] := hl
  refine lv_lload_n hx hb dX11_saysName_0 rfl (lv_at hl 1 rfl) ?_
  refine lv_ldc2 (v := 27) hx hb hown (hw _ w_cl_X11_93) dX11_saysName_1 ?_
  refine W.lcmp hx hb dX11_saysName_4 ?_
  refine lv_topi (fun z1 ez1 => ?_)
  have gz1 := lgc p1 27
  rw [← ez1] at gz1
  have : (27 : Int64).toInt = 27 := by decide
  refine lv_if_le (tgt := 19) hx hb dX11_saysName_5 (by decide) (fun c2 => ?_) (fun c2 => ?_)
  · have kc2 := (cv_le (rfl : (z1).toInt = (z1).toInt) (by decide : (0 : Int32).toInt = 0)).mp c2
    refine lv_aload_n hx hb dX11_saysName_19 rfl (lv_at hl 0 rfl) ?_
    refine lv_bipush (v := 97) hx hb dX11_saysName_20 (by decide) ?_
    refine lv_lload_n hx hb dX11_saysName_22 rfl (lv_at hl 1 rfl) ?_
    refine lv_lconst (v := 1) hx hb dX11_saysName_23 (by decide) ?_
    refine lv_lsub hx hb dX11_saysName_24 ?_
    refine lv_topl (fun z3 ez3 => ?_)
    refine lv_ldc2 (v := 27) hx hb hown (hw _ w_cl_X11_93) dX11_saysName_25 ?_
    refine lv_lrem hx hb dX11_saysName_28 (by decide) ?_
    refine lv_topl (fun z4 ez4 => ?_)
    refine lv_l2i hx hb dX11_saysName_29 rfl ?_
    refine lv_topi (fun z5 ez5 => ?_)
    refine lv_iadd hx hb dX11_saysName_30 ?_
    refine lv_topi (fun z6 ez6 => ?_)
    have hPc := hP.sub (ws' := [(h_mm, .inr (8, (mo32 v_mm (.ref h_wri) (.int x_mm_writes) (.int x_mm_room)))), (h_wri, .inl (cy_wri, 1000, .inl f_wri))]) [0, 1] rfl
    have hDc := hD.sub (ws' := [(h_mm, .inr (8, (mo32 v_mm (.ref h_wri) (.int x_mm_writes) (.int x_mm_room)))), (h_wri, .inl (cy_wri, 1000, .inl f_wri))]) [0, 1] (by decide) rfl
    have hKc := hK.sub (tys' := [(cy_wri, .int)]) [0] rfl
    have hFc := va_free (wc := [(h_mm, .inr (8, (mo32 v_mm (.ref h_wri) (.int x_mm_writes) (.int x_mm_room)))), (h_wri, .inl (cy_wri, 1000, .inl f_wri))]) hD hS hA [0, 1] rfl
    refine va_callv (va_runV (As := [.int z6]) (rest := []) ⟨hx, hb, hml, hown, hts⟩ (c_X11_says l dC dI s.heap.size h_mm h_wri v_mm x_mm_writes x_mm_room cy_wri f_wri z6 (by omega) (by omega)) (cwV 1 hts (gv hT w_m_X11_452 w_instanceMethod_X11_says ws_sel_X11_says w_ini_X11 w_code_X11_says) rfl rfl rfl (by decide +kernel) ⟨(Nat.le_of_ble_eq_true rfl), (Nat.le_of_ble_eq_true rfl)⟩) ⟨pre_blind, va_recv hK hP (ci := 8) (q0 := 0) rfl rfl, pre_of hPc hKc hDc hN⟩ rfl rfl hl.1 rfl (lv_room (Nat.le_of_ble_eq_true rfl)) dX11_saysName_31 ⟨(Nat.le_of_ble_eq_true rfl), (Nat.le_of_ble_eq_true rfl)⟩) hS (fun q _ h => hFc q h) hFc (fun u t H locs ht hvm hq hB hz1 hk1 hS => ?_)
    obtain ⟨z8, f9⟩ := u
    obtain ⟨hP1, hD1⟩ := hB
    rw [ht] at hP1
    obtain ⟨hP, hD⟩ := va_join (wr := []) (w1 := [(h_mm, .inr (8, (mo32 v_mm (.ref h_wri) (.int z8) (.int x_mm_room)))), (h_wri, .inl (cy_wri, 1000, .inl f9))]) hP hD [0, 1] [] rfl rfl (by decide) (by decide) hk1 hFc hP1 hD1
    have hP : va_P (dC, dI) cls [(h_mm, .inr (8, (mo32 v_mm (.ref h_wri) (.int z8) (.int x_mm_room)))), (h_wri, .inl (cy_wri, 1000, .inl f9))] H := hP
    have hD : va_D A [(h_mm, .inr (8, (mo32 v_mm (.ref h_wri) (.int z8) (.int x_mm_room)))), (h_wri, .inl (cy_wri, 1000, .inl f9))] := hD
    obtain ⟨k10, k11⟩ := hq
    have k10 : 0 ≤ ((z8)).toInt ∧ ((z8)).toInt ≤ 1000 := k10
    have k11 : ((x_mm_writes)).toInt ≤ ((z8)).toInt := k11
    refine W.widen (k := 0) (n := 0) (Nat.le_of_ble_eq_true rfl) (Nat.le_of_ble_eq_true rfl) ?_
    have w12 : 0 ≤ ((z8)).toInt ∧ ((z8)).toInt ≤ 1000 := by omega
    exact W.vret hx hb hr (fun t ht hW => ⟨⟨(z8, f9), rfl, w12, by rw [ht]; exact hP, hD⟩, hS.F ht⟩) hS.2.2 dX11_saysName_34
  · have kc2 := (not_congr (cv_le (rfl : (z1).toInt = (z1).toInt) (by decide : (0 : Int32).toInt = 0))).mp c2
    have bd9 := l_bd p1
    refine lv_aload_n hx hb dX11_saysName_8 rfl (lv_at hl 0 rfl) ?_
    refine lv_lload_n hx hb dX11_saysName_9 rfl (lv_at hl 1 rfl) ?_
    refine lv_lconst (v := 1) hx hb dX11_saysName_10 (by decide) ?_
    refine lv_lsub hx hb dX11_saysName_11 ?_
    refine lv_topl (fun z13 ez13 => ?_)
    have tz13 : (z13).toInt = (p1).toInt - 1 := by rw [ez13]; exact l_sub rfl (by decide) (by omega)
    refine lv_ldc2 (v := 27) hx hb hown (hw _ w_cl_X11_93) dX11_saysName_12 ?_
    refine lv_ldiv hx hb dX11_saysName_15 (by decide) ?_
    refine lv_topl (fun z14 ez14 => ?_)
    have tz14 : 0 ≤ (z13).toInt → (z14).toInt = (z13).toInt / 27 := fun h9 => by rw [ez14]; exact l_div rfl (by decide) (by omega)
    have hPc := hP.sub (ws' := [(h_mm, .inr (8, (mo32 v_mm (.ref h_wri) (.int x_mm_writes) (.int x_mm_room)))), (h_wri, .inl (cy_wri, 1000, .inl f_wri))]) [0, 1] rfl
    have hDc := hD.sub (ws' := [(h_mm, .inr (8, (mo32 v_mm (.ref h_wri) (.int x_mm_writes) (.int x_mm_room)))), (h_wri, .inl (cy_wri, 1000, .inl f_wri))]) [0, 1] (by decide) rfl
    have hKc := hK.sub (tys' := [(cy_wri, .int)]) [0] rfl
    have hFc := va_free (wc := [(h_mm, .inr (8, (mo32 v_mm (.ref h_wri) (.int x_mm_writes) (.int x_mm_room)))), (h_wri, .inl (cy_wri, 1000, .inl f_wri))]) hD hS hA [0, 1] rfl
    refine va_callv (va_runV (As := [.long z14]) (rest := []) ⟨hx, hb, hml, hown, hts⟩ (c_X11_saysName_1 l dC dI s.heap.size h_mm h_wri v_mm x_mm_writes x_mm_room cy_wri f_wri z14 (by omega) (by omega) (by omega)) (cwV 1 hts (gv hT w_m_X11_455 w_instanceMethod_X11_saysName ws_sel_X11_saysName w_ini_X11 w_code_X11_saysName) rfl rfl rfl (by decide +kernel) ⟨(Nat.le_of_ble_eq_true rfl), (Nat.le_of_ble_eq_true rfl)⟩) ⟨pre_blind, va_recv hK hP (ci := 8) (q0 := 0) rfl rfl, pre_of hPc hKc hDc hN⟩ rfl rfl hl.1 rfl (lv_room (Nat.le_of_ble_eq_true rfl)) dX11_saysName_16 ⟨(Nat.le_of_ble_eq_true rfl), (Nat.le_of_ble_eq_true rfl)⟩) hS (fun q _ h => hFc q h) hFc (fun u t H locs ht hvm hq hB hz1 hk1 hS => ?_)
    obtain ⟨z16, f17⟩ := u
    obtain ⟨hP1, hD1⟩ := hB
    rw [ht] at hP1
    obtain ⟨hP, hD⟩ := va_join (wr := []) (w1 := [(h_mm, .inr (8, (mo32 v_mm (.ref h_wri) (.int z16) (.int x_mm_room)))), (h_wri, .inl (cy_wri, 1000, .inl f17))]) hP hD [0, 1] [] rfl rfl (by decide) (by decide) hk1 hFc hP1 hD1
    have hP : va_P (dC, dI) cls [(h_mm, .inr (8, (mo32 v_mm (.ref h_wri) (.int z16) (.int x_mm_room)))), (h_wri, .inl (cy_wri, 1000, .inl f17))] H := hP
    have hD : va_D A [(h_mm, .inr (8, (mo32 v_mm (.ref h_wri) (.int z16) (.int x_mm_room)))), (h_wri, .inl (cy_wri, 1000, .inl f17))] := hD
    have k18 : 0 ≤ ((z16)).toInt ∧ ((z16)).toInt ≤ 1000 := hq
    refine lv_aload_n hx hb dX11_saysName_19 rfl (lv_at hl 0 rfl) ?_
    refine lv_bipush (v := 97) hx hb dX11_saysName_20 (by decide) ?_
    refine lv_lload_n hx hb dX11_saysName_22 rfl (lv_at hl 1 rfl) ?_
    refine lv_lconst (v := 1) hx hb dX11_saysName_23 (by decide) ?_
    refine lv_lsub hx hb dX11_saysName_24 ?_
    refine lv_topl (fun z19 ez19 => ?_)
    refine lv_ldc2 (v := 27) hx hb hown (hw _ w_cl_X11_93) dX11_saysName_25 ?_
    refine lv_lrem hx hb dX11_saysName_28 (by decide) ?_
    refine lv_topl (fun z20 ez20 => ?_)
    refine lv_l2i hx hb dX11_saysName_29 rfl ?_
    refine lv_topi (fun z21 ez21 => ?_)
    refine lv_iadd hx hb dX11_saysName_30 ?_
    refine lv_topi (fun z22 ez22 => ?_)
    have hPc := hP.sub (ws' := [(h_mm, .inr (8, (mo32 v_mm (.ref h_wri) (.int z16) (.int x_mm_room)))), (h_wri, .inl (cy_wri, 1000, .inl f17))]) [0, 1] rfl
    have hDc := hD.sub (ws' := [(h_mm, .inr (8, (mo32 v_mm (.ref h_wri) (.int z16) (.int x_mm_room)))), (h_wri, .inl (cy_wri, 1000, .inl f17))]) [0, 1] (by decide) rfl
    have hKc := hK.sub (tys' := [(cy_wri, .int)]) [0] rfl
    have hFc := va_free (wc := [(h_mm, .inr (8, (mo32 v_mm (.ref h_wri) (.int z16) (.int x_mm_room)))), (h_wri, .inl (cy_wri, 1000, .inl f17))]) hD hS hA [0, 1] rfl
    refine va_callv (va_runV (As := [.int z22]) (rest := []) ⟨hx, hb, hml, hown, hts⟩ (c_X11_says l dC dI H.size h_mm h_wri v_mm z16 x_mm_room cy_wri f17 z22 (by omega) (by omega)) (cwV 1 hts (gv hT w_m_X11_452 w_instanceMethod_X11_says ws_sel_X11_says w_ini_X11 w_code_X11_says) rfl rfl rfl (by decide +kernel) ⟨(Nat.le_of_ble_eq_true rfl), (Nat.le_of_ble_eq_true rfl)⟩) ⟨pre_blind, va_recv hK hP (ci := 8) (q0 := 0) rfl rfl, pre_of hPc hKc hDc hN⟩ rfl rfl hl.1 rfl (lv_room (Nat.le_of_ble_eq_true rfl)) dX11_saysName_31 ⟨(Nat.le_of_ble_eq_true rfl), (Nat.le_of_ble_eq_true rfl)⟩) hS (fun q _ h => hFc q h) hFc (fun u t H locs ht hvm hq hB hz1 hk1 hS => ?_)
    obtain ⟨z24, f25⟩ := u
    obtain ⟨hP1, hD1⟩ := hB
    rw [ht] at hP1
    obtain ⟨hP, hD⟩ := va_join (wr := []) (w1 := [(h_mm, .inr (8, (mo32 v_mm (.ref h_wri) (.int z24) (.int x_mm_room)))), (h_wri, .inl (cy_wri, 1000, .inl f25))]) hP hD [0, 1] [] rfl rfl (by decide) (by decide) hk1 hFc hP1 hD1
    have hP : va_P (dC, dI) cls [(h_mm, .inr (8, (mo32 v_mm (.ref h_wri) (.int z24) (.int x_mm_room)))), (h_wri, .inl (cy_wri, 1000, .inl f25))] H := hP
    have hD : va_D A [(h_mm, .inr (8, (mo32 v_mm (.ref h_wri) (.int z24) (.int x_mm_room)))), (h_wri, .inl (cy_wri, 1000, .inl f25))] := hD
    obtain ⟨k26, k27⟩ := hq
    have k26 : 0 ≤ ((z24)).toInt ∧ ((z24)).toInt ≤ 1000 := k26
    have k27 : ((z16)).toInt ≤ ((z24)).toInt := k27
    refine W.widen (k := 0) (n := 0) (Nat.le_of_ble_eq_true rfl) (Nat.le_of_ble_eq_true rfl) ?_
    have w28 : 0 ≤ ((z24)).toInt ∧ ((z24)).toInt ≤ 1000 := by omega
    exact W.vret hx hb hr (fun t ht hW => ⟨⟨(z24, f25), rfl, w28, by rw [ht]; exact hP, hD⟩, hS.F ht⟩) hS.2.2 dX11_saysName_34

set_option maxHeartbeats 8000000 in
set_option maxRecDepth 100000 in
theorem c_X11_saysName_3 (l : Launch) (dC : Nat → ClassId) (dI : Nat → Nat → Nat) (sz : Nat) (h_mm : Nat) (h_wri : Nat) (v_mm : Nat → Value) (x_mm_writes : Int32) (x_mm_room : Int32) (cy_wri : ClassId) (f_wri : Nat → Int32) (p1 : Int64) (hx_mm_writes : 0 ≤ (x_mm_writes).toInt ∧ (x_mm_writes).toInt ≤ 1000) (hx_mm_room : 0 ≤ (x_mm_room).toInt ∧ (x_mm_room).toInt ≤ 998) (q0 : (p1).toInt ≤ 551880) : Met l yX11_saysName (Ws yX11_saysName cX11_saysName 3 none) (({ frames := 4, cells := 0, slots := 0, locals := 87 } : Room)) (PRE (dC, dI) cls [(cy_wri, .int)] [(h_mm, .inr (8, (mo32 v_mm (.ref h_wri) (.int x_mm_writes) (.int x_mm_room)))), (h_wri, .inl (cy_wri, 1000, .inl f_wri))] sz [.ref h_mm, .long p1]) (va_Qv (fun (u : (Int32) × (Nat → Int32)) => (0 ≤ (u.1).toInt ∧ (u.1).toInt ≤ 1000)) (fun (u : (Int32) × (Nat → Int32)) (t : State) => va_P (dC, dI) cls [(h_mm, .inr (8, (mo32 v_mm (.ref h_wri) (.int u.1) (.int x_mm_room)))), (h_wri, .inl (cy_wri, 1000, .inl u.2))] t.heap ∧ va_D (va_A [(h_mm, .inr (8, (mo32 v_mm (.ref h_wri) (.int x_mm_writes) (.int x_mm_room)))), (h_wri, .inl (cy_wri, 1000, .inl f_wri))] sz) [(h_mm, .inr (8, (mo32 v_mm (.ref h_wri) (.int u.1) (.int x_mm_room)))), (h_wri, .inl (cy_wri, 1000, .inl u.2))]) (va_A [(h_mm, .inr (8, (mo32 v_mm (.ref h_wri) (.int x_mm_writes) (.int x_mm_room)))), (h_wri, .inl (cy_wri, 1000, .inl f_wri))] sz)) 0 0 (va_A [(h_mm, .inr (8, (mo32 v_mm (.ref h_wri) (.int x_mm_writes) (.int x_mm_room)))), (h_wri, .inl (cy_wri, 1000, .inl f_wri))] sz) := by
  refine Met.ofW (cc := cX11_saysName) (maxL := 3) (ret := none) (by decide) rfl ?_
  intro p e s m args below meth c s₁ B hml hv
  obtain ⟨rfl, hsz, hP, hK, hD0, hN⟩ := hv
  have hx := B.exec
  have hb := B.bytes
  have hr := B.returns
  have hts := atoms_spec (ws := Ws yX11_saysName cX11_saysName 3 none) B.pre
  have hT : ∀ w ∈ WALL, w ∈ Ws yX11_saysName cX11_saysName 3 none := fun w h => List.mem_cons_of_mem _ h
  have hw := fun w (h : w ∈ WALL) => hts w (hT w h)
  have hown : s.vm.findClass RX11 = some m.cls := findClass_of_methodNamed B.named
  have hlocks := B.notSynchronized
  subst hsz
  have hD := hD0.self (sz := s.heap.size)
  generalize hAe : va_A [(h_mm, .inr (8, (mo32 v_mm (.ref h_wri) (.int x_mm_writes) (.int x_mm_room)))), (h_wri, .inl (cy_wri, 1000, .inl f_wri))] s.heap.size = A at hD ⊢
  have hA : ∀ q : Nat, s.heap.size ≤ q → A q := fun q h => by rw [← hAe]; exact Or.inr h
  have hS : va_S A s.heap s.heap [] := va_S.rf
  have hl := lv_entry ([.ref h_mm, .long p1]) (n := 3) (Nat.le_of_ble_eq_true rfl)
  rw [lg_entry_eq]
  generalize (lg_sl ([.ref h_mm, .long p1]) ++ List.replicate (3 - (lg_sl ([.ref h_mm, .long p1])).length) Slot.unset).toArray = ls at hl ⊢
  have hl : lv_has ls 3 [(0, .ref h_mm), (1, .long p1)] := hl
  refine lv_lload_n hx hb dX11_saysName_0 rfl (lv_at hl 1 rfl) ?_
  refine lv_ldc2 (v := 27) hx hb hown (hw _ w_cl_X11_93) dX11_saysName_1 ?_
  refine W.lcmp hx hb dX11_saysName_4 ?_
  refine lv_topi (fun z1 ez1 => ?_)
  have gz1 := lgc p1 27
  rw [← ez1] at gz1
  have : (27 : Int64).toInt = 27 := by decide
  refine lv_if_le (tgt := 19) hx hb dX11_saysName_5 (by decide) (fun c2 => ?_) (fun c2 => ?_)
  · have kc2 := (cv_le (rfl : (z1).toInt = (z1).toInt) (by decide : (0 : Int32).toInt = 0)).mp c2
    refine lv_aload_n hx hb dX11_saysName_19 rfl (lv_at hl 0 rfl) ?_
    refine lv_bipush (v := 97) hx hb dX11_saysName_20 (by decide) ?_
    refine lv_lload_n hx hb dX11_saysName_22 rfl (lv_at hl 1 rfl) ?_
    refine lv_lconst (v := 1) hx hb dX11_saysName_23 (by decide) ?_
    refine lv_lsub hx hb dX11_saysName_24 ?_
    refine lv_topl (fun z3 ez3 => ?_)
    refine lv_ldc2 (v := 27) hx hb hown (hw _ w_cl_X11_93) dX11_saysName_25 ?_
    refine lv_lrem hx hb dX11_saysName_28 (by decide) ?_
    refine lv_topl (fun z4 ez4 => ?_)
    refine lv_l2i hx hb dX11_saysName_29 rfl ?_
    refine lv_topi (fun z5 ez5 => ?_)
    refine lv_iadd hx hb dX11_saysName_30 ?_
    refine lv_topi (fun z6 ez6 => ?_)
    have hPc := hP.sub (ws' := [(h_mm, .inr (8, (mo32 v_mm (.ref h_wri) (.int x_mm_writes) (.int x_mm_room)))), (h_wri, .inl (cy_wri, 1000, .inl f_wri))]) [0, 1] rfl
    have hDc := hD.sub (ws' := [(h_mm, .inr (8, (mo32 v_mm (.ref h_wri) (.int x_mm_writes) (.int x_mm_room)))), (h_wri, .inl (cy_wri, 1000, .inl f_wri))]) [0, 1] (by decide) rfl
    have hKc := hK.sub (tys' := [(cy_wri, .int)]) [0] rfl
    have hFc := va_free (wc := [(h_mm, .inr (8, (mo32 v_mm (.ref h_wri) (.int x_mm_writes) (.int x_mm_room)))), (h_wri, .inl (cy_wri, 1000, .inl f_wri))]) hD hS hA [0, 1] rfl
    refine va_callv (va_runV (As := [.int z6]) (rest := []) ⟨hx, hb, hml, hown, hts⟩ (c_X11_says l dC dI s.heap.size h_mm h_wri v_mm x_mm_writes x_mm_room cy_wri f_wri z6 (by omega) (by omega)) (cwV 1 hts (gv hT w_m_X11_452 w_instanceMethod_X11_says ws_sel_X11_says w_ini_X11 w_code_X11_says) rfl rfl rfl (by decide +kernel) ⟨(Nat.le_of_ble_eq_true rfl), (Nat.le_of_ble_eq_true rfl)⟩) ⟨pre_blind, va_recv hK hP (ci := 8) (q0 := 0) rfl rfl, pre_of hPc hKc hDc hN⟩ rfl rfl hl.1 rfl (lv_room (Nat.le_of_ble_eq_true rfl)) dX11_saysName_31 ⟨(Nat.le_of_ble_eq_true rfl), (Nat.le_of_ble_eq_true rfl)⟩) hS (fun q _ h => hFc q h) hFc (fun u t H locs ht hvm hq hB hz1 hk1 hS => ?_)
    obtain ⟨z8, f9⟩ := u
    obtain ⟨hP1, hD1⟩ := hB
    rw [ht] at hP1
    obtain ⟨hP, hD⟩ := va_join (wr := []) (w1 := [(h_mm, .inr (8, (mo32 v_mm (.ref h_wri) (.int z8) (.int x_mm_room)))), (h_wri, .inl (cy_wri, 1000, .inl f9))]) hP hD [0, 1] [] rfl rfl (by decide) (by decide) hk1 hFc hP1 hD1
    have hP : va_P (dC, dI) cls [(h_mm, .inr (8, (mo32 v_mm (.ref h_wri) (.int z8) (.int x_mm_room)))), (h_wri, .inl (cy_wri, 1000, .inl f9))] H := hP
    have hD : va_D A [(h_mm, .inr (8, (mo32 v_mm (.ref h_wri) (.int z8) (.int x_mm_room)))), (h_wri, .inl (cy_wri, 1000, .inl f9))] := hD
    obtain ⟨k10, k11⟩ := hq
    have k10 : 0 ≤ ((z8)).toInt ∧ ((z8)).toInt ≤ 1000 := k10
    have k11 : ((x_mm_writes)).toInt ≤ ((z8)).toInt := k11
    refine W.widen (k := 0) (n := 0) (Nat.le_of_ble_eq_true rfl) (Nat.le_of_ble_eq_true rfl) ?_
    have w12 : 0 ≤ ((z8)).toInt ∧ ((z8)).toInt ≤ 1000 := by omega
    exact W.vret hx hb hr (fun t ht hW => ⟨⟨(z8, f9), rfl, w12, by rw [ht]; exact hP, hD⟩, hS.F ht⟩) hS.2.2 dX11_saysName_34
  · have kc2 := (not_congr (cv_le (rfl : (z1).toInt = (z1).toInt) (by decide : (0 : Int32).toInt = 0))).mp c2
    have bd9 := l_bd p1
    refine lv_aload_n hx hb dX11_saysName_8 rfl (lv_at hl 0 rfl) ?_
    refine lv_lload_n hx hb dX11_saysName_9 rfl (lv_at hl 1 rfl) ?_
    refine lv_lconst (v := 1) hx hb dX11_saysName_10 (by decide) ?_
    refine lv_lsub hx hb dX11_saysName_11 ?_
    refine lv_topl (fun z13 ez13 => ?_)
    have tz13 : (z13).toInt = (p1).toInt - 1 := by rw [ez13]; exact l_sub rfl (by decide) (by omega)
    refine lv_ldc2 (v := 27) hx hb hown (hw _ w_cl_X11_93) dX11_saysName_12 ?_
    refine lv_ldiv hx hb dX11_saysName_15 (by decide) ?_
    refine lv_topl (fun z14 ez14 => ?_)
    have tz14 : 0 ≤ (z13).toInt → (z14).toInt = (z13).toInt / 27 := fun h9 => by rw [ez14]; exact l_div rfl (by decide) (by omega)
    have hPc := hP.sub (ws' := [(h_mm, .inr (8, (mo32 v_mm (.ref h_wri) (.int x_mm_writes) (.int x_mm_room)))), (h_wri, .inl (cy_wri, 1000, .inl f_wri))]) [0, 1] rfl
    have hDc := hD.sub (ws' := [(h_mm, .inr (8, (mo32 v_mm (.ref h_wri) (.int x_mm_writes) (.int x_mm_room)))), (h_wri, .inl (cy_wri, 1000, .inl f_wri))]) [0, 1] (by decide) rfl
    have hKc := hK.sub (tys' := [(cy_wri, .int)]) [0] rfl
    have hFc := va_free (wc := [(h_mm, .inr (8, (mo32 v_mm (.ref h_wri) (.int x_mm_writes) (.int x_mm_room)))), (h_wri, .inl (cy_wri, 1000, .inl f_wri))]) hD hS hA [0, 1] rfl
    refine va_callv (va_runV (As := [.long z14]) (rest := []) ⟨hx, hb, hml, hown, hts⟩ (c_X11_saysName_2 l dC dI s.heap.size h_mm h_wri v_mm x_mm_writes x_mm_room cy_wri f_wri z14 (by omega) (by omega) (by omega)) (cwV 1 hts (gv hT w_m_X11_455 w_instanceMethod_X11_saysName ws_sel_X11_saysName w_ini_X11 w_code_X11_saysName) rfl rfl rfl (by decide +kernel) ⟨(Nat.le_of_ble_eq_true rfl), (Nat.le_of_ble_eq_true rfl)⟩) ⟨pre_blind, va_recv hK hP (ci := 8) (q0 := 0) rfl rfl, pre_of hPc hKc hDc hN⟩ rfl rfl hl.1 rfl (lv_room (Nat.le_of_ble_eq_true rfl)) dX11_saysName_16 ⟨(Nat.le_of_ble_eq_true rfl), (Nat.le_of_ble_eq_true rfl)⟩) hS (fun q _ h => hFc q h) hFc (fun u t H locs ht hvm hq hB hz1 hk1 hS => ?_)
    obtain ⟨z16, f17⟩ := u
    obtain ⟨hP1, hD1⟩ := hB
    rw [ht] at hP1
    obtain ⟨hP, hD⟩ := va_join (wr := []) (w1 := [(h_mm, .inr (8, (mo32 v_mm (.ref h_wri) (.int z16) (.int x_mm_room)))), (h_wri, .inl (cy_wri, 1000, .inl f17))]) hP hD [0, 1] [] rfl rfl (by decide) (by decide) hk1 hFc hP1 hD1
    have hP : va_P (dC, dI) cls [(h_mm, .inr (8, (mo32 v_mm (.ref h_wri) (.int z16) (.int x_mm_room)))), (h_wri, .inl (cy_wri, 1000, .inl f17))] H := hP
    have hD : va_D A [(h_mm, .inr (8, (mo32 v_mm (.ref h_wri) (.int z16) (.int x_mm_room)))), (h_wri, .inl (cy_wri, 1000, .inl f17))] := hD
    have k18 : 0 ≤ ((z16)).toInt ∧ ((z16)).toInt ≤ 1000 := hq
    refine lv_aload_n hx hb dX11_saysName_19 rfl (lv_at hl 0 rfl) ?_
    refine lv_bipush (v := 97) hx hb dX11_saysName_20 (by decide) ?_
    refine lv_lload_n hx hb dX11_saysName_22 rfl (lv_at hl 1 rfl) ?_
    refine lv_lconst (v := 1) hx hb dX11_saysName_23 (by decide) ?_
    refine lv_lsub hx hb dX11_saysName_24 ?_
    refine lv_topl (fun z19 ez19 => ?_)
    refine lv_ldc2 (v := 27) hx hb hown (hw _ w_cl_X11_93) dX11_saysName_25 ?_
    refine lv_lrem hx hb dX11_saysName_28 (by decide) ?_
    refine lv_topl (fun z20 ez20 => ?_)
    refine lv_l2i hx hb dX11_saysName_29 rfl ?_
    refine lv_topi (fun z21 ez21 => ?_)
    refine lv_iadd hx hb dX11_saysName_30 ?_
    refine lv_topi (fun z22 ez22 => ?_)
    have hPc := hP.sub (ws' := [(h_mm, .inr (8, (mo32 v_mm (.ref h_wri) (.int z16) (.int x_mm_room)))), (h_wri, .inl (cy_wri, 1000, .inl f17))]) [0, 1] rfl
    have hDc := hD.sub (ws' := [(h_mm, .inr (8, (mo32 v_mm (.ref h_wri) (.int z16) (.int x_mm_room)))), (h_wri, .inl (cy_wri, 1000, .inl f17))]) [0, 1] (by decide) rfl
    have hKc := hK.sub (tys' := [(cy_wri, .int)]) [0] rfl
    have hFc := va_free (wc := [(h_mm, .inr (8, (mo32 v_mm (.ref h_wri) (.int z16) (.int x_mm_room)))), (h_wri, .inl (cy_wri, 1000, .inl f17))]) hD hS hA [0, 1] rfl
    refine va_callv (va_runV (As := [.int z22]) (rest := []) ⟨hx, hb, hml, hown, hts⟩ (c_X11_says l dC dI H.size h_mm h_wri v_mm z16 x_mm_room cy_wri f17 z22 (by omega) (by omega)) (cwV 1 hts (gv hT w_m_X11_452 w_instanceMethod_X11_says ws_sel_X11_says w_ini_X11 w_code_X11_says) rfl rfl rfl (by decide +kernel) ⟨(Nat.le_of_ble_eq_true rfl), (Nat.le_of_ble_eq_true rfl)⟩) ⟨pre_blind, va_recv hK hP (ci := 8) (q0 := 0) rfl rfl, pre_of hPc hKc hDc hN⟩ rfl rfl hl.1 rfl (lv_room (Nat.le_of_ble_eq_true rfl)) dX11_saysName_31 ⟨(Nat.le_of_ble_eq_true rfl), (Nat.le_of_ble_eq_true rfl)⟩) hS (fun q _ h => hFc q h) hFc (fun u t H locs ht hvm hq hB hz1 hk1 hS => ?_)
    obtain ⟨z24, f25⟩ := u
    obtain ⟨hP1, hD1⟩ := hB
    rw [ht] at hP1
    obtain ⟨hP, hD⟩ := va_join (wr := []) (w1 := [(h_mm, .inr (8, (mo32 v_mm (.ref h_wri) (.int z24) (.int x_mm_room)))), (h_wri, .inl (cy_wri, 1000, .inl f25))]) hP hD [0, 1] [] rfl rfl (by decide) (by decide) hk1 hFc hP1 hD1
    have hP : va_P (dC, dI) cls [(h_mm, .inr (8, (mo32 v_mm (.ref h_wri) (.int z24) (.int x_mm_room)))), (h_wri, .inl (cy_wri, 1000, .inl f25))] H := hP
    have hD : va_D A [(h_mm, .inr (8, (mo32 v_mm (.ref h_wri) (.int z24) (.int x_mm_room)))), (h_wri, .inl (cy_wri, 1000, .inl f25))] := hD
    obtain ⟨k26, k27⟩ := hq
    have k26 : 0 ≤ ((z24)).toInt ∧ ((z24)).toInt ≤ 1000 := k26
    have k27 : ((z16)).toInt ≤ ((z24)).toInt := k27
    refine W.widen (k := 0) (n := 0) (Nat.le_of_ble_eq_true rfl) (Nat.le_of_ble_eq_true rfl) ?_
    have w28 : 0 ≤ ((z24)).toInt ∧ ((z24)).toInt ≤ 1000 := by omega
    exact W.vret hx hb hr (fun t ht hW => ⟨⟨(z24, f25), rfl, w28, by rw [ht]; exact hP, hD⟩, hS.F ht⟩) hS.2.2 dX11_saysName_34

set_option maxHeartbeats 8000000 in
set_option maxRecDepth 100000 in
theorem c_X11_saysName_4 (l : Launch) (dC : Nat → ClassId) (dI : Nat → Nat → Nat) (sz : Nat) (h_mm : Nat) (h_wri : Nat) (v_mm : Nat → Value) (x_mm_writes : Int32) (x_mm_room : Int32) (cy_wri : ClassId) (f_wri : Nat → Int32) (p1 : Int64) (hx_mm_writes : 0 ≤ (x_mm_writes).toInt ∧ (x_mm_writes).toInt ≤ 1000) (hx_mm_room : 0 ≤ (x_mm_room).toInt ∧ (x_mm_room).toInt ≤ 998) (q0 : (p1).toInt ≤ 14900787) : Met l yX11_saysName (Ws yX11_saysName cX11_saysName 3 none) (({ frames := 5, cells := 0, slots := 0, locals := 109 } : Room)) (PRE (dC, dI) cls [(cy_wri, .int)] [(h_mm, .inr (8, (mo32 v_mm (.ref h_wri) (.int x_mm_writes) (.int x_mm_room)))), (h_wri, .inl (cy_wri, 1000, .inl f_wri))] sz [.ref h_mm, .long p1]) (va_Qv (fun (u : (Int32) × (Nat → Int32)) => (0 ≤ (u.1).toInt ∧ (u.1).toInt ≤ 1000)) (fun (u : (Int32) × (Nat → Int32)) (t : State) => va_P (dC, dI) cls [(h_mm, .inr (8, (mo32 v_mm (.ref h_wri) (.int u.1) (.int x_mm_room)))), (h_wri, .inl (cy_wri, 1000, .inl u.2))] t.heap ∧ va_D (va_A [(h_mm, .inr (8, (mo32 v_mm (.ref h_wri) (.int x_mm_writes) (.int x_mm_room)))), (h_wri, .inl (cy_wri, 1000, .inl f_wri))] sz) [(h_mm, .inr (8, (mo32 v_mm (.ref h_wri) (.int u.1) (.int x_mm_room)))), (h_wri, .inl (cy_wri, 1000, .inl u.2))]) (va_A [(h_mm, .inr (8, (mo32 v_mm (.ref h_wri) (.int x_mm_writes) (.int x_mm_room)))), (h_wri, .inl (cy_wri, 1000, .inl f_wri))] sz)) 0 0 (va_A [(h_mm, .inr (8, (mo32 v_mm (.ref h_wri) (.int x_mm_writes) (.int x_mm_room)))), (h_wri, .inl (cy_wri, 1000, .inl f_wri))] sz) := by
  refine Met.ofW (cc := cX11_saysName) (maxL := 3) (ret := none) (by decide) rfl ?_
  intro p e s m args below meth c s₁ B hml hv
  obtain ⟨rfl, hsz, hP, hK, hD0, hN⟩ := hv
  have hx := B.exec
  have hb := B.bytes
  have hr := B.returns
  have hts := atoms_spec (ws := Ws yX11_saysName cX11_saysName 3 none) B.pre
  have hT : ∀ w ∈ WALL, w ∈ Ws yX11_saysName cX11_saysName 3 none := fun w h => List.mem_cons_of_mem _ h
  have hw := fun w (h : w ∈ WALL) => hts w (hT w h)
  have hown : s.vm.findClass RX11 = some m.cls := findClass_of_methodNamed B.named
  have hlocks := B.notSynchronized
  subst hsz
  have hD := hD0.self (sz := s.heap.size)
  generalize hAe : va_A [(h_mm, .inr (8, (mo32 v_mm (.ref h_wri) (.int x_mm_writes) (.int x_mm_room)))), (h_wri, .inl (cy_wri, 1000, .inl f_wri))] s.heap.size = A at hD ⊢
  have hA : ∀ q : Nat, s.heap.size ≤ q → A q := fun q h => by rw [← hAe]; exact Or.inr h
  have hS : va_S A s.heap s.heap [] := va_S.rf
  have hl := lv_entry ([.ref h_mm, .long p1]) (n := 3) (Nat.le_of_ble_eq_true rfl)
  rw [lg_entry_eq]
  generalize (lg_sl ([.ref h_mm, .long p1]) ++ List.replicate (3 - (lg_sl ([.ref h_mm, .long p1])).length) Slot.unset).toArray = ls at hl ⊢
  have hl : lv_has ls 3 [(0, .ref h_mm), (1, .long p1)] := hl
  refine lv_lload_n hx hb dX11_saysName_0 rfl (lv_at hl 1 rfl) ?_
  refine lv_ldc2 (v := 27) hx hb hown (hw _ w_cl_X11_93) dX11_saysName_1 ?_
  refine W.lcmp hx hb dX11_saysName_4 ?_
  refine lv_topi (fun z1 ez1 => ?_)
  have gz1 := lgc p1 27
  rw [← ez1] at gz1
  have : (27 : Int64).toInt = 27 := by decide
  refine lv_if_le (tgt := 19) hx hb dX11_saysName_5 (by decide) (fun c2 => ?_) (fun c2 => ?_)
  · have kc2 := (cv_le (rfl : (z1).toInt = (z1).toInt) (by decide : (0 : Int32).toInt = 0)).mp c2
    refine lv_aload_n hx hb dX11_saysName_19 rfl (lv_at hl 0 rfl) ?_
    refine lv_bipush (v := 97) hx hb dX11_saysName_20 (by decide) ?_
    refine lv_lload_n hx hb dX11_saysName_22 rfl (lv_at hl 1 rfl) ?_
    refine lv_lconst (v := 1) hx hb dX11_saysName_23 (by decide) ?_
    refine lv_lsub hx hb dX11_saysName_24 ?_
    refine lv_topl (fun z3 ez3 => ?_)
    refine lv_ldc2 (v := 27) hx hb hown (hw _ w_cl_X11_93) dX11_saysName_25 ?_
    refine lv_lrem hx hb dX11_saysName_28 (by decide) ?_
    refine lv_topl (fun z4 ez4 => ?_)
    refine lv_l2i hx hb dX11_saysName_29 rfl ?_
    refine lv_topi (fun z5 ez5 => ?_)
    refine lv_iadd hx hb dX11_saysName_30 ?_
    refine lv_topi (fun z6 ez6 => ?_)
    have hPc := hP.sub (ws' := [(h_mm, .inr (8, (mo32 v_mm (.ref h_wri) (.int x_mm_writes) (.int x_mm_room)))), (h_wri, .inl (cy_wri, 1000, .inl f_wri))]) [0, 1] rfl
    have hDc := hD.sub (ws' := [(h_mm, .inr (8, (mo32 v_mm (.ref h_wri) (.int x_mm_writes) (.int x_mm_room)))), (h_wri, .inl (cy_wri, 1000, .inl f_wri))]) [0, 1] (by decide) rfl
    have hKc := hK.sub (tys' := [(cy_wri, .int)]) [0] rfl
    have hFc := va_free (wc := [(h_mm, .inr (8, (mo32 v_mm (.ref h_wri) (.int x_mm_writes) (.int x_mm_room)))), (h_wri, .inl (cy_wri, 1000, .inl f_wri))]) hD hS hA [0, 1] rfl
    refine va_callv (va_runV (As := [.int z6]) (rest := []) ⟨hx, hb, hml, hown, hts⟩ (c_X11_says l dC dI s.heap.size h_mm h_wri v_mm x_mm_writes x_mm_room cy_wri f_wri z6 (by omega) (by omega)) (cwV 1 hts (gv hT w_m_X11_452 w_instanceMethod_X11_says ws_sel_X11_says w_ini_X11 w_code_X11_says) rfl rfl rfl (by decide +kernel) ⟨(Nat.le_of_ble_eq_true rfl), (Nat.le_of_ble_eq_true rfl)⟩) ⟨pre_blind, va_recv hK hP (ci := 8) (q0 := 0) rfl rfl, pre_of hPc hKc hDc hN⟩ rfl rfl hl.1 rfl (lv_room (Nat.le_of_ble_eq_true rfl)) dX11_saysName_31 ⟨(Nat.le_of_ble_eq_true rfl), (Nat.le_of_ble_eq_true rfl)⟩) hS (fun q _ h => hFc q h) hFc (fun u t H locs ht hvm hq hB hz1 hk1 hS => ?_)
    obtain ⟨z8, f9⟩ := u
    obtain ⟨hP1, hD1⟩ := hB
    rw [ht] at hP1
    obtain ⟨hP, hD⟩ := va_join (wr := []) (w1 := [(h_mm, .inr (8, (mo32 v_mm (.ref h_wri) (.int z8) (.int x_mm_room)))), (h_wri, .inl (cy_wri, 1000, .inl f9))]) hP hD [0, 1] [] rfl rfl (by decide) (by decide) hk1 hFc hP1 hD1
    have hP : va_P (dC, dI) cls [(h_mm, .inr (8, (mo32 v_mm (.ref h_wri) (.int z8) (.int x_mm_room)))), (h_wri, .inl (cy_wri, 1000, .inl f9))] H := hP
    have hD : va_D A [(h_mm, .inr (8, (mo32 v_mm (.ref h_wri) (.int z8) (.int x_mm_room)))), (h_wri, .inl (cy_wri, 1000, .inl f9))] := hD
    obtain ⟨k10, k11⟩ := hq
    have k10 : 0 ≤ ((z8)).toInt ∧ ((z8)).toInt ≤ 1000 := k10
    have k11 : ((x_mm_writes)).toInt ≤ ((z8)).toInt := k11
    refine W.widen (k := 0) (n := 0) (Nat.le_of_ble_eq_true rfl) (Nat.le_of_ble_eq_true rfl) ?_
    have w12 : 0 ≤ ((z8)).toInt ∧ ((z8)).toInt ≤ 1000 := by omega
    exact W.vret hx hb hr (fun t ht hW => ⟨⟨(z8, f9), rfl, w12, by rw [ht]; exact hP, hD⟩, hS.F ht⟩) hS.2.2 dX11_saysName_34
  · have kc2 := (not_congr (cv_le (rfl : (z1).toInt = (z1).toInt) (by decide : (0 : Int32).toInt = 0))).mp c2
    have bd9 := l_bd p1
    refine lv_aload_n hx hb dX11_saysName_8 rfl (lv_at hl 0 rfl) ?_
    refine lv_lload_n hx hb dX11_saysName_9 rfl (lv_at hl 1 rfl) ?_
    refine lv_lconst (v := 1) hx hb dX11_saysName_10 (by decide) ?_
    refine lv_lsub hx hb dX11_saysName_11 ?_
    refine lv_topl (fun z13 ez13 => ?_)
    have tz13 : (z13).toInt = (p1).toInt - 1 := by rw [ez13]; exact l_sub rfl (by decide) (by omega)
    refine lv_ldc2 (v := 27) hx hb hown (hw _ w_cl_X11_93) dX11_saysName_12 ?_
    refine lv_ldiv hx hb dX11_saysName_15 (by decide) ?_
    refine lv_topl (fun z14 ez14 => ?_)
    have tz14 : 0 ≤ (z13).toInt → (z14).toInt = (z13).toInt / 27 := fun h9 => by rw [ez14]; exact l_div rfl (by decide) (by omega)
    have hPc := hP.sub (ws' := [(h_mm, .inr (8, (mo32 v_mm (.ref h_wri) (.int x_mm_writes) (.int x_mm_room)))), (h_wri, .inl (cy_wri, 1000, .inl f_wri))]) [0, 1] rfl
    have hDc := hD.sub (ws' := [(h_mm, .inr (8, (mo32 v_mm (.ref h_wri) (.int x_mm_writes) (.int x_mm_room)))), (h_wri, .inl (cy_wri, 1000, .inl f_wri))]) [0, 1] (by decide) rfl
    have hKc := hK.sub (tys' := [(cy_wri, .int)]) [0] rfl
    have hFc := va_free (wc := [(h_mm, .inr (8, (mo32 v_mm (.ref h_wri) (.int x_mm_writes) (.int x_mm_room)))), (h_wri, .inl (cy_wri, 1000, .inl f_wri))]) hD hS hA [0, 1] rfl
    refine va_callv (va_runV (As := [.long z14]) (rest := []) ⟨hx, hb, hml, hown, hts⟩ (c_X11_saysName_3 l dC dI s.heap.size h_mm h_wri v_mm x_mm_writes x_mm_room cy_wri f_wri z14 (by omega) (by omega) (by omega)) (cwV 1 hts (gv hT w_m_X11_455 w_instanceMethod_X11_saysName ws_sel_X11_saysName w_ini_X11 w_code_X11_saysName) rfl rfl rfl (by decide +kernel) ⟨(Nat.le_of_ble_eq_true rfl), (Nat.le_of_ble_eq_true rfl)⟩) ⟨pre_blind, va_recv hK hP (ci := 8) (q0 := 0) rfl rfl, pre_of hPc hKc hDc hN⟩ rfl rfl hl.1 rfl (lv_room (Nat.le_of_ble_eq_true rfl)) dX11_saysName_16 ⟨(Nat.le_of_ble_eq_true rfl), (Nat.le_of_ble_eq_true rfl)⟩) hS (fun q _ h => hFc q h) hFc (fun u t H locs ht hvm hq hB hz1 hk1 hS => ?_)
    obtain ⟨z16, f17⟩ := u
    obtain ⟨hP1, hD1⟩ := hB
    rw [ht] at hP1
    obtain ⟨hP, hD⟩ := va_join (wr := []) (w1 := [(h_mm, .inr (8, (mo32 v_mm (.ref h_wri) (.int z16) (.int x_mm_room)))), (h_wri, .inl (cy_wri, 1000, .inl f17))]) hP hD [0, 1] [] rfl rfl (by decide) (by decide) hk1 hFc hP1 hD1
    have hP : va_P (dC, dI) cls [(h_mm, .inr (8, (mo32 v_mm (.ref h_wri) (.int z16) (.int x_mm_room)))), (h_wri, .inl (cy_wri, 1000, .inl f17))] H := hP
    have hD : va_D A [(h_mm, .inr (8, (mo32 v_mm (.ref h_wri) (.int z16) (.int x_mm_room)))), (h_wri, .inl (cy_wri, 1000, .inl f17))] := hD
    have k18 : 0 ≤ ((z16)).toInt ∧ ((z16)).toInt ≤ 1000 := hq
    refine lv_aload_n hx hb dX11_saysName_19 rfl (lv_at hl 0 rfl) ?_
    refine lv_bipush (v := 97) hx hb dX11_saysName_20 (by decide) ?_
    refine lv_lload_n hx hb dX11_saysName_22 rfl (lv_at hl 1 rfl) ?_
    refine lv_lconst (v := 1) hx hb dX11_saysName_23 (by decide) ?_
    refine lv_lsub hx hb dX11_saysName_24 ?_
    refine lv_topl (fun z19 ez19 => ?_)
    refine lv_ldc2 (v := 27) hx hb hown (hw _ w_cl_X11_93) dX11_saysName_25 ?_
    refine lv_lrem hx hb dX11_saysName_28 (by decide) ?_
    refine lv_topl (fun z20 ez20 => ?_)
    refine lv_l2i hx hb dX11_saysName_29 rfl ?_
    refine lv_topi (fun z21 ez21 => ?_)
    refine lv_iadd hx hb dX11_saysName_30 ?_
    refine lv_topi (fun z22 ez22 => ?_)
    have hPc := hP.sub (ws' := [(h_mm, .inr (8, (mo32 v_mm (.ref h_wri) (.int z16) (.int x_mm_room)))), (h_wri, .inl (cy_wri, 1000, .inl f17))]) [0, 1] rfl
    have hDc := hD.sub (ws' := [(h_mm, .inr (8, (mo32 v_mm (.ref h_wri) (.int z16) (.int x_mm_room)))), (h_wri, .inl (cy_wri, 1000, .inl f17))]) [0, 1] (by decide) rfl
    have hKc := hK.sub (tys' := [(cy_wri, .int)]) [0] rfl
    have hFc := va_free (wc := [(h_mm, .inr (8, (mo32 v_mm (.ref h_wri) (.int z16) (.int x_mm_room)))), (h_wri, .inl (cy_wri, 1000, .inl f17))]) hD hS hA [0, 1] rfl
    refine va_callv (va_runV (As := [.int z22]) (rest := []) ⟨hx, hb, hml, hown, hts⟩ (c_X11_says l dC dI H.size h_mm h_wri v_mm z16 x_mm_room cy_wri f17 z22 (by omega) (by omega)) (cwV 1 hts (gv hT w_m_X11_452 w_instanceMethod_X11_says ws_sel_X11_says w_ini_X11 w_code_X11_says) rfl rfl rfl (by decide +kernel) ⟨(Nat.le_of_ble_eq_true rfl), (Nat.le_of_ble_eq_true rfl)⟩) ⟨pre_blind, va_recv hK hP (ci := 8) (q0 := 0) rfl rfl, pre_of hPc hKc hDc hN⟩ rfl rfl hl.1 rfl (lv_room (Nat.le_of_ble_eq_true rfl)) dX11_saysName_31 ⟨(Nat.le_of_ble_eq_true rfl), (Nat.le_of_ble_eq_true rfl)⟩) hS (fun q _ h => hFc q h) hFc (fun u t H locs ht hvm hq hB hz1 hk1 hS => ?_)
    obtain ⟨z24, f25⟩ := u
    obtain ⟨hP1, hD1⟩ := hB
    rw [ht] at hP1
    obtain ⟨hP, hD⟩ := va_join (wr := []) (w1 := [(h_mm, .inr (8, (mo32 v_mm (.ref h_wri) (.int z24) (.int x_mm_room)))), (h_wri, .inl (cy_wri, 1000, .inl f25))]) hP hD [0, 1] [] rfl rfl (by decide) (by decide) hk1 hFc hP1 hD1
    have hP : va_P (dC, dI) cls [(h_mm, .inr (8, (mo32 v_mm (.ref h_wri) (.int z24) (.int x_mm_room)))), (h_wri, .inl (cy_wri, 1000, .inl f25))] H := hP
    have hD : va_D A [(h_mm, .inr (8, (mo32 v_mm (.ref h_wri) (.int z24) (.int x_mm_room)))), (h_wri, .inl (cy_wri, 1000, .inl f25))] := hD
    obtain ⟨k26, k27⟩ := hq
    have k26 : 0 ≤ ((z24)).toInt ∧ ((z24)).toInt ≤ 1000 := k26
    have k27 : ((z16)).toInt ≤ ((z24)).toInt := k27
    refine W.widen (k := 0) (n := 0) (Nat.le_of_ble_eq_true rfl) (Nat.le_of_ble_eq_true rfl) ?_
    have w28 : 0 ≤ ((z24)).toInt ∧ ((z24)).toInt ≤ 1000 := by omega
    exact W.vret hx hb hr (fun t ht hW => ⟨⟨(z24, f25), rfl, w28, by rw [ht]; exact hP, hD⟩, hS.F ht⟩) hS.2.2 dX11_saysName_34

set_option maxHeartbeats 8000000 in
set_option maxRecDepth 100000 in
theorem c_X11_saysName_5 (l : Launch) (dC : Nat → ClassId) (dI : Nat → Nat → Nat) (sz : Nat) (h_mm : Nat) (h_wri : Nat) (v_mm : Nat → Value) (x_mm_writes : Int32) (x_mm_room : Int32) (cy_wri : ClassId) (f_wri : Nat → Int32) (p1 : Int64) (hx_mm_writes : 0 ≤ (x_mm_writes).toInt ∧ (x_mm_writes).toInt ≤ 1000) (hx_mm_room : 0 ≤ (x_mm_room).toInt ∧ (x_mm_room).toInt ≤ 998) (q0 : (p1).toInt ≤ 402321276) : Met l yX11_saysName (Ws yX11_saysName cX11_saysName 3 none) (({ frames := 6, cells := 0, slots := 0, locals := 131 } : Room)) (PRE (dC, dI) cls [(cy_wri, .int)] [(h_mm, .inr (8, (mo32 v_mm (.ref h_wri) (.int x_mm_writes) (.int x_mm_room)))), (h_wri, .inl (cy_wri, 1000, .inl f_wri))] sz [.ref h_mm, .long p1]) (va_Qv (fun (u : (Int32) × (Nat → Int32)) => (0 ≤ (u.1).toInt ∧ (u.1).toInt ≤ 1000)) (fun (u : (Int32) × (Nat → Int32)) (t : State) => va_P (dC, dI) cls [(h_mm, .inr (8, (mo32 v_mm (.ref h_wri) (.int u.1) (.int x_mm_room)))), (h_wri, .inl (cy_wri, 1000, .inl u.2))] t.heap ∧ va_D (va_A [(h_mm, .inr (8, (mo32 v_mm (.ref h_wri) (.int x_mm_writes) (.int x_mm_room)))), (h_wri, .inl (cy_wri, 1000, .inl f_wri))] sz) [(h_mm, .inr (8, (mo32 v_mm (.ref h_wri) (.int u.1) (.int x_mm_room)))), (h_wri, .inl (cy_wri, 1000, .inl u.2))]) (va_A [(h_mm, .inr (8, (mo32 v_mm (.ref h_wri) (.int x_mm_writes) (.int x_mm_room)))), (h_wri, .inl (cy_wri, 1000, .inl f_wri))] sz)) 0 0 (va_A [(h_mm, .inr (8, (mo32 v_mm (.ref h_wri) (.int x_mm_writes) (.int x_mm_room)))), (h_wri, .inl (cy_wri, 1000, .inl f_wri))] sz) := by
  refine Met.ofW (cc := cX11_saysName) (maxL := 3) (ret := none) (by decide) rfl ?_
  intro p e s m args below meth c s₁ B hml hv
  obtain ⟨rfl, hsz, hP, hK, hD0, hN⟩ := hv
  have hx := B.exec
  have hb := B.bytes
  have hr := B.returns
  have hts := atoms_spec (ws := Ws yX11_saysName cX11_saysName 3 none) B.pre
  have hT : ∀ w ∈ WALL, w ∈ Ws yX11_saysName cX11_saysName 3 none := fun w h => List.mem_cons_of_mem _ h
  have hw := fun w (h : w ∈ WALL) => hts w (hT w h)
  have hown : s.vm.findClass RX11 = some m.cls := findClass_of_methodNamed B.named
  have hlocks := B.notSynchronized
  subst hsz
  have hD := hD0.self (sz := s.heap.size)
  generalize hAe : va_A [(h_mm, .inr (8, (mo32 v_mm (.ref h_wri) (.int x_mm_writes) (.int x_mm_room)))), (h_wri, .inl (cy_wri, 1000, .inl f_wri))] s.heap.size = A at hD ⊢
  have hA : ∀ q : Nat, s.heap.size ≤ q → A q := fun q h => by rw [← hAe]; exact Or.inr h
  have hS : va_S A s.heap s.heap [] := va_S.rf
  have hl := lv_entry ([.ref h_mm, .long p1]) (n := 3) (Nat.le_of_ble_eq_true rfl)
  rw [lg_entry_eq]
  generalize (lg_sl ([.ref h_mm, .long p1]) ++ List.replicate (3 - (lg_sl ([.ref h_mm, .long p1])).length) Slot.unset).toArray = ls at hl ⊢
  have hl : lv_has ls 3 [(0, .ref h_mm), (1, .long p1)] := hl
  refine lv_lload_n hx hb dX11_saysName_0 rfl (lv_at hl 1 rfl) ?_
  refine lv_ldc2 (v := 27) hx hb hown (hw _ w_cl_X11_93) dX11_saysName_1 ?_
  refine W.lcmp hx hb dX11_saysName_4 ?_
  refine lv_topi (fun z1 ez1 => ?_)
  have gz1 := lgc p1 27
  rw [← ez1] at gz1
  have : (27 : Int64).toInt = 27 := by decide
  refine lv_if_le (tgt := 19) hx hb dX11_saysName_5 (by decide) (fun c2 => ?_) (fun c2 => ?_)
  · have kc2 := (cv_le (rfl : (z1).toInt = (z1).toInt) (by decide : (0 : Int32).toInt = 0)).mp c2
    refine lv_aload_n hx hb dX11_saysName_19 rfl (lv_at hl 0 rfl) ?_
    refine lv_bipush (v := 97) hx hb dX11_saysName_20 (by decide) ?_
    refine lv_lload_n hx hb dX11_saysName_22 rfl (lv_at hl 1 rfl) ?_
    refine lv_lconst (v := 1) hx hb dX11_saysName_23 (by decide) ?_
    refine lv_lsub hx hb dX11_saysName_24 ?_
    refine lv_topl (fun z3 ez3 => ?_)
    refine lv_ldc2 (v := 27) hx hb hown (hw _ w_cl_X11_93) dX11_saysName_25 ?_
    refine lv_lrem hx hb dX11_saysName_28 (by decide) ?_
    refine lv_topl (fun z4 ez4 => ?_)
    refine lv_l2i hx hb dX11_saysName_29 rfl ?_
    refine lv_topi (fun z5 ez5 => ?_)
    refine lv_iadd hx hb dX11_saysName_30 ?_
    refine lv_topi (fun z6 ez6 => ?_)
    have hPc := hP.sub (ws' := [(h_mm, .inr (8, (mo32 v_mm (.ref h_wri) (.int x_mm_writes) (.int x_mm_room)))), (h_wri, .inl (cy_wri, 1000, .inl f_wri))]) [0, 1] rfl
    have hDc := hD.sub (ws' := [(h_mm, .inr (8, (mo32 v_mm (.ref h_wri) (.int x_mm_writes) (.int x_mm_room)))), (h_wri, .inl (cy_wri, 1000, .inl f_wri))]) [0, 1] (by decide) rfl
    have hKc := hK.sub (tys' := [(cy_wri, .int)]) [0] rfl
    have hFc := va_free (wc := [(h_mm, .inr (8, (mo32 v_mm (.ref h_wri) (.int x_mm_writes) (.int x_mm_room)))), (h_wri, .inl (cy_wri, 1000, .inl f_wri))]) hD hS hA [0, 1] rfl
    refine va_callv (va_runV (As := [.int z6]) (rest := []) ⟨hx, hb, hml, hown, hts⟩ (c_X11_says l dC dI s.heap.size h_mm h_wri v_mm x_mm_writes x_mm_room cy_wri f_wri z6 (by omega) (by omega)) (cwV 1 hts (gv hT w_m_X11_452 w_instanceMethod_X11_says ws_sel_X11_says w_ini_X11 w_code_X11_says) rfl rfl rfl (by decide +kernel) ⟨(Nat.le_of_ble_eq_true rfl), (Nat.le_of_ble_eq_true rfl)⟩) ⟨pre_blind, va_recv hK hP (ci := 8) (q0 := 0) rfl rfl, pre_of hPc hKc hDc hN⟩ rfl rfl hl.1 rfl (lv_room (Nat.le_of_ble_eq_true rfl)) dX11_saysName_31 ⟨(Nat.le_of_ble_eq_true rfl), (Nat.le_of_ble_eq_true rfl)⟩) hS (fun q _ h => hFc q h) hFc (fun u t H locs ht hvm hq hB hz1 hk1 hS => ?_)
    obtain ⟨z8, f9⟩ := u
    obtain ⟨hP1, hD1⟩ := hB
    rw [ht] at hP1
    obtain ⟨hP, hD⟩ := va_join (wr := []) (w1 := [(h_mm, .inr (8, (mo32 v_mm (.ref h_wri) (.int z8) (.int x_mm_room)))), (h_wri, .inl (cy_wri, 1000, .inl f9))]) hP hD [0, 1] [] rfl rfl (by decide) (by decide) hk1 hFc hP1 hD1
    have hP : va_P (dC, dI) cls [(h_mm, .inr (8, (mo32 v_mm (.ref h_wri) (.int z8) (.int x_mm_room)))), (h_wri, .inl (cy_wri, 1000, .inl f9))] H := hP
    have hD : va_D A [(h_mm, .inr (8, (mo32 v_mm (.ref h_wri) (.int z8) (.int x_mm_room)))), (h_wri, .inl (cy_wri, 1000, .inl f9))] := hD
    obtain ⟨k10, k11⟩ := hq
    have k10 : 0 ≤ ((z8)).toInt ∧ ((z8)).toInt ≤ 1000 := k10
    have k11 : ((x_mm_writes)).toInt ≤ ((z8)).toInt := k11
    refine W.widen (k := 0) (n := 0) (Nat.le_of_ble_eq_true rfl) (Nat.le_of_ble_eq_true rfl) ?_
    have w12 : 0 ≤ ((z8)).toInt ∧ ((z8)).toInt ≤ 1000 := by omega
    exact W.vret hx hb hr (fun t ht hW => ⟨⟨(z8, f9), rfl, w12, by rw [ht]; exact hP, hD⟩, hS.F ht⟩) hS.2.2 dX11_saysName_34
  · have kc2 := (not_congr (cv_le (rfl : (z1).toInt = (z1).toInt) (by decide : (0 : Int32).toInt = 0))).mp c2
    have bd9 := l_bd p1
    refine lv_aload_n hx hb dX11_saysName_8 rfl (lv_at hl 0 rfl) ?_
    refine lv_lload_n hx hb dX11_saysName_9 rfl (lv_at hl 1 rfl) ?_
    refine lv_lconst (v := 1) hx hb dX11_saysName_10 (by decide) ?_
    refine lv_lsub hx hb dX11_saysName_11 ?_
    refine lv_topl (fun z13 ez13 => ?_)
    have tz13 : (z13).toInt = (p1).toInt - 1 := by rw [ez13]; exact l_sub rfl (by decide) (by omega)
    refine lv_ldc2 (v := 27) hx hb hown (hw _ w_cl_X11_93) dX11_saysName_12 ?_
    refine lv_ldiv hx hb dX11_saysName_15 (by decide) ?_
    refine lv_topl (fun z14 ez14 => ?_)
    have tz14 : 0 ≤ (z13).toInt → (z14).toInt = (z13).toInt / 27 := fun h9 => by rw [ez14]; exact l_div rfl (by decide) (by omega)
    have hPc := hP.sub (ws' := [(h_mm, .inr (8, (mo32 v_mm (.ref h_wri) (.int x_mm_writes) (.int x_mm_room)))), (h_wri, .inl (cy_wri, 1000, .inl f_wri))]) [0, 1] rfl
    have hDc := hD.sub (ws' := [(h_mm, .inr (8, (mo32 v_mm (.ref h_wri) (.int x_mm_writes) (.int x_mm_room)))), (h_wri, .inl (cy_wri, 1000, .inl f_wri))]) [0, 1] (by decide) rfl
    have hKc := hK.sub (tys' := [(cy_wri, .int)]) [0] rfl
    have hFc := va_free (wc := [(h_mm, .inr (8, (mo32 v_mm (.ref h_wri) (.int x_mm_writes) (.int x_mm_room)))), (h_wri, .inl (cy_wri, 1000, .inl f_wri))]) hD hS hA [0, 1] rfl
    refine va_callv (va_runV (As := [.long z14]) (rest := []) ⟨hx, hb, hml, hown, hts⟩ (c_X11_saysName_4 l dC dI s.heap.size h_mm h_wri v_mm x_mm_writes x_mm_room cy_wri f_wri z14 (by omega) (by omega) (by omega)) (cwV 1 hts (gv hT w_m_X11_455 w_instanceMethod_X11_saysName ws_sel_X11_saysName w_ini_X11 w_code_X11_saysName) rfl rfl rfl (by decide +kernel) ⟨(Nat.le_of_ble_eq_true rfl), (Nat.le_of_ble_eq_true rfl)⟩) ⟨pre_blind, va_recv hK hP (ci := 8) (q0 := 0) rfl rfl, pre_of hPc hKc hDc hN⟩ rfl rfl hl.1 rfl (lv_room (Nat.le_of_ble_eq_true rfl)) dX11_saysName_16 ⟨(Nat.le_of_ble_eq_true rfl), (Nat.le_of_ble_eq_true rfl)⟩) hS (fun q _ h => hFc q h) hFc (fun u t H locs ht hvm hq hB hz1 hk1 hS => ?_)
    obtain ⟨z16, f17⟩ := u
    obtain ⟨hP1, hD1⟩ := hB
    rw [ht] at hP1
    obtain ⟨hP, hD⟩ := va_join (wr := []) (w1 := [(h_mm, .inr (8, (mo32 v_mm (.ref h_wri) (.int z16) (.int x_mm_room)))), (h_wri, .inl (cy_wri, 1000, .inl f17))]) hP hD [0, 1] [] rfl rfl (by decide) (by decide) hk1 hFc hP1 hD1
    have hP : va_P (dC, dI) cls [(h_mm, .inr (8, (mo32 v_mm (.ref h_wri) (.int z16) (.int x_mm_room)))), (h_wri, .inl (cy_wri, 1000, .inl f17))] H := hP
    have hD : va_D A [(h_mm, .inr (8, (mo32 v_mm (.ref h_wri) (.int z16) (.int x_mm_room)))), (h_wri, .inl (cy_wri, 1000, .inl f17))] := hD
    have k18 : 0 ≤ ((z16)).toInt ∧ ((z16)).toInt ≤ 1000 := hq
    refine lv_aload_n hx hb dX11_saysName_19 rfl (lv_at hl 0 rfl) ?_
    refine lv_bipush (v := 97) hx hb dX11_saysName_20 (by decide) ?_
    refine lv_lload_n hx hb dX11_saysName_22 rfl (lv_at hl 1 rfl) ?_
    refine lv_lconst (v := 1) hx hb dX11_saysName_23 (by decide) ?_
    refine lv_lsub hx hb dX11_saysName_24 ?_
    refine lv_topl (fun z19 ez19 => ?_)
    refine lv_ldc2 (v := 27) hx hb hown (hw _ w_cl_X11_93) dX11_saysName_25 ?_
    refine lv_lrem hx hb dX11_saysName_28 (by decide) ?_
    refine lv_topl (fun z20 ez20 => ?_)
    refine lv_l2i hx hb dX11_saysName_29 rfl ?_
    refine lv_topi (fun z21 ez21 => ?_)
    refine lv_iadd hx hb dX11_saysName_30 ?_
    refine lv_topi (fun z22 ez22 => ?_)
    have hPc := hP.sub (ws' := [(h_mm, .inr (8, (mo32 v_mm (.ref h_wri) (.int z16) (.int x_mm_room)))), (h_wri, .inl (cy_wri, 1000, .inl f17))]) [0, 1] rfl
    have hDc := hD.sub (ws' := [(h_mm, .inr (8, (mo32 v_mm (.ref h_wri) (.int z16) (.int x_mm_room)))), (h_wri, .inl (cy_wri, 1000, .inl f17))]) [0, 1] (by decide) rfl
    have hKc := hK.sub (tys' := [(cy_wri, .int)]) [0] rfl
    have hFc := va_free (wc := [(h_mm, .inr (8, (mo32 v_mm (.ref h_wri) (.int z16) (.int x_mm_room)))), (h_wri, .inl (cy_wri, 1000, .inl f17))]) hD hS hA [0, 1] rfl
    refine va_callv (va_runV (As := [.int z22]) (rest := []) ⟨hx, hb, hml, hown, hts⟩ (c_X11_says l dC dI H.size h_mm h_wri v_mm z16 x_mm_room cy_wri f17 z22 (by omega) (by omega)) (cwV 1 hts (gv hT w_m_X11_452 w_instanceMethod_X11_says ws_sel_X11_says w_ini_X11 w_code_X11_says) rfl rfl rfl (by decide +kernel) ⟨(Nat.le_of_ble_eq_true rfl), (Nat.le_of_ble_eq_true rfl)⟩) ⟨pre_blind, va_recv hK hP (ci := 8) (q0 := 0) rfl rfl, pre_of hPc hKc hDc hN⟩ rfl rfl hl.1 rfl (lv_room (Nat.le_of_ble_eq_true rfl)) dX11_saysName_31 ⟨(Nat.le_of_ble_eq_true rfl), (Nat.le_of_ble_eq_true rfl)⟩) hS (fun q _ h => hFc q h) hFc (fun u t H locs ht hvm hq hB hz1 hk1 hS => ?_)
    obtain ⟨z24, f25⟩ := u
    obtain ⟨hP1, hD1⟩ := hB
    rw [ht] at hP1
    obtain ⟨hP, hD⟩ := va_join (wr := []) (w1 := [(h_mm, .inr (8, (mo32 v_mm (.ref h_wri) (.int z24) (.int x_mm_room)))), (h_wri, .inl (cy_wri, 1000, .inl f25))]) hP hD [0, 1] [] rfl rfl (by decide) (by decide) hk1 hFc hP1 hD1
    have hP : va_P (dC, dI) cls [(h_mm, .inr (8, (mo32 v_mm (.ref h_wri) (.int z24) (.int x_mm_room)))), (h_wri, .inl (cy_wri, 1000, .inl f25))] H := hP
    have hD : va_D A [(h_mm, .inr (8, (mo32 v_mm (.ref h_wri) (.int z24) (.int x_mm_room)))), (h_wri, .inl (cy_wri, 1000, .inl f25))] := hD
    obtain ⟨k26, k27⟩ := hq
    have k26 : 0 ≤ ((z24)).toInt ∧ ((z24)).toInt ≤ 1000 := k26
    have k27 : ((z16)).toInt ≤ ((z24)).toInt := k27
    refine W.widen (k := 0) (n := 0) (Nat.le_of_ble_eq_true rfl) (Nat.le_of_ble_eq_true rfl) ?_
    have w28 : 0 ≤ ((z24)).toInt ∧ ((z24)).toInt ≤ 1000 := by omega
    exact W.vret hx hb hr (fun t ht hW => ⟨⟨(z24, f25), rfl, w28, by rw [ht]; exact hP, hD⟩, hS.F ht⟩) hS.2.2 dX11_saysName_34

set_option maxHeartbeats 8000000 in
set_option maxRecDepth 100000 in
theorem c_X11_saysName_6 (l : Launch) (dC : Nat → ClassId) (dI : Nat → Nat → Nat) (sz : Nat) (h_mm : Nat) (h_wri : Nat) (v_mm : Nat → Value) (x_mm_writes : Int32) (x_mm_room : Int32) (cy_wri : ClassId) (f_wri : Nat → Int32) (p1 : Int64) (hx_mm_writes : 0 ≤ (x_mm_writes).toInt ∧ (x_mm_writes).toInt ≤ 1000) (hx_mm_room : 0 ≤ (x_mm_room).toInt ∧ (x_mm_room).toInt ≤ 998) (q0 : (p1).toInt ≤ 10862674479) : Met l yX11_saysName (Ws yX11_saysName cX11_saysName 3 none) (({ frames := 7, cells := 0, slots := 0, locals := 153 } : Room)) (PRE (dC, dI) cls [(cy_wri, .int)] [(h_mm, .inr (8, (mo32 v_mm (.ref h_wri) (.int x_mm_writes) (.int x_mm_room)))), (h_wri, .inl (cy_wri, 1000, .inl f_wri))] sz [.ref h_mm, .long p1]) (va_Qv (fun (u : (Int32) × (Nat → Int32)) => (0 ≤ (u.1).toInt ∧ (u.1).toInt ≤ 1000)) (fun (u : (Int32) × (Nat → Int32)) (t : State) => va_P (dC, dI) cls [(h_mm, .inr (8, (mo32 v_mm (.ref h_wri) (.int u.1) (.int x_mm_room)))), (h_wri, .inl (cy_wri, 1000, .inl u.2))] t.heap ∧ va_D (va_A [(h_mm, .inr (8, (mo32 v_mm (.ref h_wri) (.int x_mm_writes) (.int x_mm_room)))), (h_wri, .inl (cy_wri, 1000, .inl f_wri))] sz) [(h_mm, .inr (8, (mo32 v_mm (.ref h_wri) (.int u.1) (.int x_mm_room)))), (h_wri, .inl (cy_wri, 1000, .inl u.2))]) (va_A [(h_mm, .inr (8, (mo32 v_mm (.ref h_wri) (.int x_mm_writes) (.int x_mm_room)))), (h_wri, .inl (cy_wri, 1000, .inl f_wri))] sz)) 0 0 (va_A [(h_mm, .inr (8, (mo32 v_mm (.ref h_wri) (.int x_mm_writes) (.int x_mm_room)))), (h_wri, .inl (cy_wri, 1000, .inl f_wri))] sz) := by
  refine Met.ofW (cc := cX11_saysName) (maxL := 3) (ret := none) (by decide) rfl ?_
  intro p e s m args below meth c s₁ B hml hv
  obtain ⟨rfl, hsz, hP, hK, hD0, hN⟩ := hv
  have hx := B.exec
  have hb := B.bytes
  have hr := B.returns
  have hts := atoms_spec (ws := Ws yX11_saysName cX11_saysName 3 none) B.pre
  have hT : ∀ w ∈ WALL, w ∈ Ws yX11_saysName cX11_saysName 3 none := fun w h => List.mem_cons_of_mem _ h
  have hw := fun w (h : w ∈ WALL) => hts w (hT w h)
  have hown : s.vm.findClass RX11 = some m.cls := findClass_of_methodNamed B.named
  have hlocks := B.notSynchronized
  subst hsz
  have hD := hD0.self (sz := s.heap.size)
  generalize hAe : va_A [(h_mm, .inr (8, (mo32 v_mm (.ref h_wri) (.int x_mm_writes) (.int x_mm_room)))), (h_wri, .inl (cy_wri, 1000, .inl f_wri))] s.heap.size = A at hD ⊢
  have hA : ∀ q : Nat, s.heap.size ≤ q → A q := fun q h => by rw [← hAe]; exact Or.inr h
  have hS : va_S A s.heap s.heap [] := va_S.rf
  have hl := lv_entry ([.ref h_mm, .long p1]) (n := 3) (Nat.le_of_ble_eq_true rfl)
  rw [lg_entry_eq]
  generalize (lg_sl ([.ref h_mm, .long p1]) ++ List.replicate (3 - (lg_sl ([.ref h_mm, .long p1])).length) Slot.unset).toArray = ls at hl ⊢
  have hl : lv_has ls 3 [(0, .ref h_mm), (1, .long p1)] := hl
  refine lv_lload_n hx hb dX11_saysName_0 rfl (lv_at hl 1 rfl) ?_
  refine lv_ldc2 (v := 27) hx hb hown (hw _ w_cl_X11_93) dX11_saysName_1 ?_
  refine W.lcmp hx hb dX11_saysName_4 ?_
  refine lv_topi (fun z1 ez1 => ?_)
  have gz1 := lgc p1 27
  rw [← ez1] at gz1
  have : (27 : Int64).toInt = 27 := by decide
  refine lv_if_le (tgt := 19) hx hb dX11_saysName_5 (by decide) (fun c2 => ?_) (fun c2 => ?_)
  · have kc2 := (cv_le (rfl : (z1).toInt = (z1).toInt) (by decide : (0 : Int32).toInt = 0)).mp c2
    refine lv_aload_n hx hb dX11_saysName_19 rfl (lv_at hl 0 rfl) ?_
    refine lv_bipush (v := 97) hx hb dX11_saysName_20 (by decide) ?_
    refine lv_lload_n hx hb dX11_saysName_22 rfl (lv_at hl 1 rfl) ?_
    refine lv_lconst (v := 1) hx hb dX11_saysName_23 (by decide) ?_
    refine lv_lsub hx hb dX11_saysName_24 ?_
    refine lv_topl (fun z3 ez3 => ?_)
    refine lv_ldc2 (v := 27) hx hb hown (hw _ w_cl_X11_93) dX11_saysName_25 ?_
    refine lv_lrem hx hb dX11_saysName_28 (by decide) ?_
    refine lv_topl (fun z4 ez4 => ?_)
    refine lv_l2i hx hb dX11_saysName_29 rfl ?_
    refine lv_topi (fun z5 ez5 => ?_)
    refine lv_iadd hx hb dX11_saysName_30 ?_
    refine lv_topi (fun z6 ez6 => ?_)
    have hPc := hP.sub (ws' := [(h_mm, .inr (8, (mo32 v_mm (.ref h_wri) (.int x_mm_writes) (.int x_mm_room)))), (h_wri, .inl (cy_wri, 1000, .inl f_wri))]) [0, 1] rfl
    have hDc := hD.sub (ws' := [(h_mm, .inr (8, (mo32 v_mm (.ref h_wri) (.int x_mm_writes) (.int x_mm_room)))), (h_wri, .inl (cy_wri, 1000, .inl f_wri))]) [0, 1] (by decide) rfl
    have hKc := hK.sub (tys' := [(cy_wri, .int)]) [0] rfl
    have hFc := va_free (wc := [(h_mm, .inr (8, (mo32 v_mm (.ref h_wri) (.int x_mm_writes) (.int x_mm_room)))), (h_wri, .inl (cy_wri, 1000, .inl f_wri))]) hD hS hA [0, 1] rfl
    refine va_callv (va_runV (As := [.int z6]) (rest := []) ⟨hx, hb, hml, hown, hts⟩ (c_X11_says l dC dI s.heap.size h_mm h_wri v_mm x_mm_writes x_mm_room cy_wri f_wri z6 (by omega) (by omega)) (cwV 1 hts (gv hT w_m_X11_452 w_instanceMethod_X11_says ws_sel_X11_says w_ini_X11 w_code_X11_says) rfl rfl rfl (by decide +kernel) ⟨(Nat.le_of_ble_eq_true rfl), (Nat.le_of_ble_eq_true rfl)⟩) ⟨pre_blind, va_recv hK hP (ci := 8) (q0 := 0) rfl rfl, pre_of hPc hKc hDc hN⟩ rfl rfl hl.1 rfl (lv_room (Nat.le_of_ble_eq_true rfl)) dX11_saysName_31 ⟨(Nat.le_of_ble_eq_true rfl), (Nat.le_of_ble_eq_true rfl)⟩) hS (fun q _ h => hFc q h) hFc (fun u t H locs ht hvm hq hB hz1 hk1 hS => ?_)
    obtain ⟨z8, f9⟩ := u
    obtain ⟨hP1, hD1⟩ := hB
    rw [ht] at hP1
    obtain ⟨hP, hD⟩ := va_join (wr := []) (w1 := [(h_mm, .inr (8, (mo32 v_mm (.ref h_wri) (.int z8) (.int x_mm_room)))), (h_wri, .inl (cy_wri, 1000, .inl f9))]) hP hD [0, 1] [] rfl rfl (by decide) (by decide) hk1 hFc hP1 hD1
    have hP : va_P (dC, dI) cls [(h_mm, .inr (8, (mo32 v_mm (.ref h_wri) (.int z8) (.int x_mm_room)))), (h_wri, .inl (cy_wri, 1000, .inl f9))] H := hP
    have hD : va_D A [(h_mm, .inr (8, (mo32 v_mm (.ref h_wri) (.int z8) (.int x_mm_room)))), (h_wri, .inl (cy_wri, 1000, .inl f9))] := hD
    obtain ⟨k10, k11⟩ := hq
    have k10 : 0 ≤ ((z8)).toInt ∧ ((z8)).toInt ≤ 1000 := k10
    have k11 : ((x_mm_writes)).toInt ≤ ((z8)).toInt := k11
    refine W.widen (k := 0) (n := 0) (Nat.le_of_ble_eq_true rfl) (Nat.le_of_ble_eq_true rfl) ?_
    have w12 : 0 ≤ ((z8)).toInt ∧ ((z8)).toInt ≤ 1000 := by omega
    exact W.vret hx hb hr (fun t ht hW => ⟨⟨(z8, f9), rfl, w12, by rw [ht]; exact hP, hD⟩, hS.F ht⟩) hS.2.2 dX11_saysName_34
  · have kc2 := (not_congr (cv_le (rfl : (z1).toInt = (z1).toInt) (by decide : (0 : Int32).toInt = 0))).mp c2
    have bd9 := l_bd p1
    refine lv_aload_n hx hb dX11_saysName_8 rfl (lv_at hl 0 rfl) ?_
    refine lv_lload_n hx hb dX11_saysName_9 rfl (lv_at hl 1 rfl) ?_
    refine lv_lconst (v := 1) hx hb dX11_saysName_10 (by decide) ?_
    refine lv_lsub hx hb dX11_saysName_11 ?_
    refine lv_topl (fun z13 ez13 => ?_)
    have tz13 : (z13).toInt = (p1).toInt - 1 := by rw [ez13]; exact l_sub rfl (by decide) (by omega)
    refine lv_ldc2 (v := 27) hx hb hown (hw _ w_cl_X11_93) dX11_saysName_12 ?_
    refine lv_ldiv hx hb dX11_saysName_15 (by decide) ?_
    refine lv_topl (fun z14 ez14 => ?_)
    have tz14 : 0 ≤ (z13).toInt → (z14).toInt = (z13).toInt / 27 := fun h9 => by rw [ez14]; exact l_div rfl (by decide) (by omega)
    have hPc := hP.sub (ws' := [(h_mm, .inr (8, (mo32 v_mm (.ref h_wri) (.int x_mm_writes) (.int x_mm_room)))), (h_wri, .inl (cy_wri, 1000, .inl f_wri))]) [0, 1] rfl
    have hDc := hD.sub (ws' := [(h_mm, .inr (8, (mo32 v_mm (.ref h_wri) (.int x_mm_writes) (.int x_mm_room)))), (h_wri, .inl (cy_wri, 1000, .inl f_wri))]) [0, 1] (by decide) rfl
    have hKc := hK.sub (tys' := [(cy_wri, .int)]) [0] rfl
    have hFc := va_free (wc := [(h_mm, .inr (8, (mo32 v_mm (.ref h_wri) (.int x_mm_writes) (.int x_mm_room)))), (h_wri, .inl (cy_wri, 1000, .inl f_wri))]) hD hS hA [0, 1] rfl
    refine va_callv (va_runV (As := [.long z14]) (rest := []) ⟨hx, hb, hml, hown, hts⟩ (c_X11_saysName_5 l dC dI s.heap.size h_mm h_wri v_mm x_mm_writes x_mm_room cy_wri f_wri z14 (by omega) (by omega) (by omega)) (cwV 1 hts (gv hT w_m_X11_455 w_instanceMethod_X11_saysName ws_sel_X11_saysName w_ini_X11 w_code_X11_saysName) rfl rfl rfl (by decide +kernel) ⟨(Nat.le_of_ble_eq_true rfl), (Nat.le_of_ble_eq_true rfl)⟩) ⟨pre_blind, va_recv hK hP (ci := 8) (q0 := 0) rfl rfl, pre_of hPc hKc hDc hN⟩ rfl rfl hl.1 rfl (lv_room (Nat.le_of_ble_eq_true rfl)) dX11_saysName_16 ⟨(Nat.le_of_ble_eq_true rfl), (Nat.le_of_ble_eq_true rfl)⟩) hS (fun q _ h => hFc q h) hFc (fun u t H locs ht hvm hq hB hz1 hk1 hS => ?_)
    obtain ⟨z16, f17⟩ := u
    obtain ⟨hP1, hD1⟩ := hB
    rw [ht] at hP1
    obtain ⟨hP, hD⟩ := va_join (wr := []) (w1 := [(h_mm, .inr (8, (mo32 v_mm (.ref h_wri) (.int z16) (.int x_mm_room)))), (h_wri, .inl (cy_wri, 1000, .inl f17))]) hP hD [0, 1] [] rfl rfl (by decide) (by decide) hk1 hFc hP1 hD1
    have hP : va_P (dC, dI) cls [(h_mm, .inr (8, (mo32 v_mm (.ref h_wri) (.int z16) (.int x_mm_room)))), (h_wri, .inl (cy_wri, 1000, .inl f17))] H := hP
    have hD : va_D A [(h_mm, .inr (8, (mo32 v_mm (.ref h_wri) (.int z16) (.int x_mm_room)))), (h_wri, .inl (cy_wri, 1000, .inl f17))] := hD
    have k18 : 0 ≤ ((z16)).toInt ∧ ((z16)).toInt ≤ 1000 := hq
    refine lv_aload_n hx hb dX11_saysName_19 rfl (lv_at hl 0 rfl) ?_
    refine lv_bipush (v := 97) hx hb dX11_saysName_20 (by decide) ?_
    refine lv_lload_n hx hb dX11_saysName_22 rfl (lv_at hl 1 rfl) ?_
    refine lv_lconst (v := 1) hx hb dX11_saysName_23 (by decide) ?_
    refine lv_lsub hx hb dX11_saysName_24 ?_
    refine lv_topl (fun z19 ez19 => ?_)
    refine lv_ldc2 (v := 27) hx hb hown (hw _ w_cl_X11_93) dX11_saysName_25 ?_
    refine lv_lrem hx hb dX11_saysName_28 (by decide) ?_
    refine lv_topl (fun z20 ez20 => ?_)
    refine lv_l2i hx hb dX11_saysName_29 rfl ?_
    refine lv_topi (fun z21 ez21 => ?_)
    refine lv_iadd hx hb dX11_saysName_30 ?_
    refine lv_topi (fun z22 ez22 => ?_)
    have hPc := hP.sub (ws' := [(h_mm, .inr (8, (mo32 v_mm (.ref h_wri) (.int z16) (.int x_mm_room)))), (h_wri, .inl (cy_wri, 1000, .inl f17))]) [0, 1] rfl
    have hDc := hD.sub (ws' := [(h_mm, .inr (8, (mo32 v_mm (.ref h_wri) (.int z16) (.int x_mm_room)))), (h_wri, .inl (cy_wri, 1000, .inl f17))]) [0, 1] (by decide) rfl
    have hKc := hK.sub (tys' := [(cy_wri, .int)]) [0] rfl
    have hFc := va_free (wc := [(h_mm, .inr (8, (mo32 v_mm (.ref h_wri) (.int z16) (.int x_mm_room)))), (h_wri, .inl (cy_wri, 1000, .inl f17))]) hD hS hA [0, 1] rfl
    refine va_callv (va_runV (As := [.int z22]) (rest := []) ⟨hx, hb, hml, hown, hts⟩ (c_X11_says l dC dI H.size h_mm h_wri v_mm z16 x_mm_room cy_wri f17 z22 (by omega) (by omega)) (cwV 1 hts (gv hT w_m_X11_452 w_instanceMethod_X11_says ws_sel_X11_says w_ini_X11 w_code_X11_says) rfl rfl rfl (by decide +kernel) ⟨(Nat.le_of_ble_eq_true rfl), (Nat.le_of_ble_eq_true rfl)⟩) ⟨pre_blind, va_recv hK hP (ci := 8) (q0 := 0) rfl rfl, pre_of hPc hKc hDc hN⟩ rfl rfl hl.1 rfl (lv_room (Nat.le_of_ble_eq_true rfl)) dX11_saysName_31 ⟨(Nat.le_of_ble_eq_true rfl), (Nat.le_of_ble_eq_true rfl)⟩) hS (fun q _ h => hFc q h) hFc (fun u t H locs ht hvm hq hB hz1 hk1 hS => ?_)
    obtain ⟨z24, f25⟩ := u
    obtain ⟨hP1, hD1⟩ := hB
    rw [ht] at hP1
    obtain ⟨hP, hD⟩ := va_join (wr := []) (w1 := [(h_mm, .inr (8, (mo32 v_mm (.ref h_wri) (.int z24) (.int x_mm_room)))), (h_wri, .inl (cy_wri, 1000, .inl f25))]) hP hD [0, 1] [] rfl rfl (by decide) (by decide) hk1 hFc hP1 hD1
    have hP : va_P (dC, dI) cls [(h_mm, .inr (8, (mo32 v_mm (.ref h_wri) (.int z24) (.int x_mm_room)))), (h_wri, .inl (cy_wri, 1000, .inl f25))] H := hP
    have hD : va_D A [(h_mm, .inr (8, (mo32 v_mm (.ref h_wri) (.int z24) (.int x_mm_room)))), (h_wri, .inl (cy_wri, 1000, .inl f25))] := hD
    obtain ⟨k26, k27⟩ := hq
    have k26 : 0 ≤ ((z24)).toInt ∧ ((z24)).toInt ≤ 1000 := k26
    have k27 : ((z16)).toInt ≤ ((z24)).toInt := k27
    refine W.widen (k := 0) (n := 0) (Nat.le_of_ble_eq_true rfl) (Nat.le_of_ble_eq_true rfl) ?_
    have w28 : 0 ≤ ((z24)).toInt ∧ ((z24)).toInt ≤ 1000 := by omega
    exact W.vret hx hb hr (fun t ht hW => ⟨⟨(z24, f25), rfl, w28, by rw [ht]; exact hP, hD⟩, hS.F ht⟩) hS.2.2 dX11_saysName_34

set_option maxHeartbeats 8000000 in
set_option maxRecDepth 100000 in
theorem c_X11_saysName_7 (l : Launch) (dC : Nat → ClassId) (dI : Nat → Nat → Nat) (sz : Nat) (h_mm : Nat) (h_wri : Nat) (v_mm : Nat → Value) (x_mm_writes : Int32) (x_mm_room : Int32) (cy_wri : ClassId) (f_wri : Nat → Int32) (p1 : Int64) (hx_mm_writes : 0 ≤ (x_mm_writes).toInt ∧ (x_mm_writes).toInt ≤ 1000) (hx_mm_room : 0 ≤ (x_mm_room).toInt ∧ (x_mm_room).toInt ≤ 998) (q0 : (p1).toInt ≤ 293292210960) : Met l yX11_saysName (Ws yX11_saysName cX11_saysName 3 none) (({ frames := 8, cells := 0, slots := 0, locals := 175 } : Room)) (PRE (dC, dI) cls [(cy_wri, .int)] [(h_mm, .inr (8, (mo32 v_mm (.ref h_wri) (.int x_mm_writes) (.int x_mm_room)))), (h_wri, .inl (cy_wri, 1000, .inl f_wri))] sz [.ref h_mm, .long p1]) (va_Qv (fun (u : (Int32) × (Nat → Int32)) => (0 ≤ (u.1).toInt ∧ (u.1).toInt ≤ 1000)) (fun (u : (Int32) × (Nat → Int32)) (t : State) => va_P (dC, dI) cls [(h_mm, .inr (8, (mo32 v_mm (.ref h_wri) (.int u.1) (.int x_mm_room)))), (h_wri, .inl (cy_wri, 1000, .inl u.2))] t.heap ∧ va_D (va_A [(h_mm, .inr (8, (mo32 v_mm (.ref h_wri) (.int x_mm_writes) (.int x_mm_room)))), (h_wri, .inl (cy_wri, 1000, .inl f_wri))] sz) [(h_mm, .inr (8, (mo32 v_mm (.ref h_wri) (.int u.1) (.int x_mm_room)))), (h_wri, .inl (cy_wri, 1000, .inl u.2))]) (va_A [(h_mm, .inr (8, (mo32 v_mm (.ref h_wri) (.int x_mm_writes) (.int x_mm_room)))), (h_wri, .inl (cy_wri, 1000, .inl f_wri))] sz)) 0 0 (va_A [(h_mm, .inr (8, (mo32 v_mm (.ref h_wri) (.int x_mm_writes) (.int x_mm_room)))), (h_wri, .inl (cy_wri, 1000, .inl f_wri))] sz) := by
  refine Met.ofW (cc := cX11_saysName) (maxL := 3) (ret := none) (by decide) rfl ?_
  intro p e s m args below meth c s₁ B hml hv
  obtain ⟨rfl, hsz, hP, hK, hD0, hN⟩ := hv
  have hx := B.exec
  have hb := B.bytes
  have hr := B.returns
  have hts := atoms_spec (ws := Ws yX11_saysName cX11_saysName 3 none) B.pre
  have hT : ∀ w ∈ WALL, w ∈ Ws yX11_saysName cX11_saysName 3 none := fun w h => List.mem_cons_of_mem _ h
  have hw := fun w (h : w ∈ WALL) => hts w (hT w h)
  have hown : s.vm.findClass RX11 = some m.cls := findClass_of_methodNamed B.named
  have hlocks := B.notSynchronized
  subst hsz
  have hD := hD0.self (sz := s.heap.size)
  generalize hAe : va_A [(h_mm, .inr (8, (mo32 v_mm (.ref h_wri) (.int x_mm_writes) (.int x_mm_room)))), (h_wri, .inl (cy_wri, 1000, .inl f_wri))] s.heap.size = A at hD ⊢
  have hA : ∀ q : Nat, s.heap.size ≤ q → A q := fun q h => by rw [← hAe]; exact Or.inr h
  have hS : va_S A s.heap s.heap [] := va_S.rf
  have hl := lv_entry ([.ref h_mm, .long p1]) (n := 3) (Nat.le_of_ble_eq_true rfl)
  rw [lg_entry_eq]
  generalize (lg_sl ([.ref h_mm, .long p1]) ++ List.replicate (3 - (lg_sl ([.ref h_mm, .long p1])).length) Slot.unset).toArray = ls at hl ⊢
  have hl : lv_has ls 3 [(0, .ref h_mm), (1, .long p1)] := hl
  refine lv_lload_n hx hb dX11_saysName_0 rfl (lv_at hl 1 rfl) ?_
  refine lv_ldc2 (v := 27) hx hb hown (hw _ w_cl_X11_93) dX11_saysName_1 ?_
  refine W.lcmp hx hb dX11_saysName_4 ?_
  refine lv_topi (fun z1 ez1 => ?_)
  have gz1 := lgc p1 27
  rw [← ez1] at gz1
  have : (27 : Int64).toInt = 27 := by decide
  refine lv_if_le (tgt := 19) hx hb dX11_saysName_5 (by decide) (fun c2 => ?_) (fun c2 => ?_)
  · have kc2 := (cv_le (rfl : (z1).toInt = (z1).toInt) (by decide : (0 : Int32).toInt = 0)).mp c2
    refine lv_aload_n hx hb dX11_saysName_19 rfl (lv_at hl 0 rfl) ?_
    refine lv_bipush (v := 97) hx hb dX11_saysName_20 (by decide) ?_
    refine lv_lload_n hx hb dX11_saysName_22 rfl (lv_at hl 1 rfl) ?_
    refine lv_lconst (v := 1) hx hb dX11_saysName_23 (by decide) ?_
    refine lv_lsub hx hb dX11_saysName_24 ?_
    refine lv_topl (fun z3 ez3 => ?_)
    refine lv_ldc2 (v := 27) hx hb hown (hw _ w_cl_X11_93) dX11_saysName_25 ?_
    refine lv_lrem hx hb dX11_saysName_28 (by decide) ?_
    refine lv_topl (fun z4 ez4 => ?_)
    refine lv_l2i hx hb dX11_saysName_29 rfl ?_
    refine lv_topi (fun z5 ez5 => ?_)
    refine lv_iadd hx hb dX11_saysName_30 ?_
    refine lv_topi (fun z6 ez6 => ?_)
    have hPc := hP.sub (ws' := [(h_mm, .inr (8, (mo32 v_mm (.ref h_wri) (.int x_mm_writes) (.int x_mm_room)))), (h_wri, .inl (cy_wri, 1000, .inl f_wri))]) [0, 1] rfl
    have hDc := hD.sub (ws' := [(h_mm, .inr (8, (mo32 v_mm (.ref h_wri) (.int x_mm_writes) (.int x_mm_room)))), (h_wri, .inl (cy_wri, 1000, .inl f_wri))]) [0, 1] (by decide) rfl
    have hKc := hK.sub (tys' := [(cy_wri, .int)]) [0] rfl
    have hFc := va_free (wc := [(h_mm, .inr (8, (mo32 v_mm (.ref h_wri) (.int x_mm_writes) (.int x_mm_room)))), (h_wri, .inl (cy_wri, 1000, .inl f_wri))]) hD hS hA [0, 1] rfl
    refine va_callv (va_runV (As := [.int z6]) (rest := []) ⟨hx, hb, hml, hown, hts⟩ (c_X11_says l dC dI s.heap.size h_mm h_wri v_mm x_mm_writes x_mm_room cy_wri f_wri z6 (by omega) (by omega)) (cwV 1 hts (gv hT w_m_X11_452 w_instanceMethod_X11_says ws_sel_X11_says w_ini_X11 w_code_X11_says) rfl rfl rfl (by decide +kernel) ⟨(Nat.le_of_ble_eq_true rfl), (Nat.le_of_ble_eq_true rfl)⟩) ⟨pre_blind, va_recv hK hP (ci := 8) (q0 := 0) rfl rfl, pre_of hPc hKc hDc hN⟩ rfl rfl hl.1 rfl (lv_room (Nat.le_of_ble_eq_true rfl)) dX11_saysName_31 ⟨(Nat.le_of_ble_eq_true rfl), (Nat.le_of_ble_eq_true rfl)⟩) hS (fun q _ h => hFc q h) hFc (fun u t H locs ht hvm hq hB hz1 hk1 hS => ?_)
    obtain ⟨z8, f9⟩ := u
    obtain ⟨hP1, hD1⟩ := hB
    rw [ht] at hP1
    obtain ⟨hP, hD⟩ := va_join (wr := []) (w1 := [(h_mm, .inr (8, (mo32 v_mm (.ref h_wri) (.int z8) (.int x_mm_room)))), (h_wri, .inl (cy_wri, 1000, .inl f9))]) hP hD [0, 1] [] rfl rfl (by decide) (by decide) hk1 hFc hP1 hD1
    have hP : va_P (dC, dI) cls [(h_mm, .inr (8, (mo32 v_mm (.ref h_wri) (.int z8) (.int x_mm_room)))), (h_wri, .inl (cy_wri, 1000, .inl f9))] H := hP
    have hD : va_D A [(h_mm, .inr (8, (mo32 v_mm (.ref h_wri) (.int z8) (.int x_mm_room)))), (h_wri, .inl (cy_wri, 1000, .inl f9))] := hD
    obtain ⟨k10, k11⟩ := hq
    have k10 : 0 ≤ ((z8)).toInt ∧ ((z8)).toInt ≤ 1000 := k10
    have k11 : ((x_mm_writes)).toInt ≤ ((z8)).toInt := k11
    refine W.widen (k := 0) (n := 0) (Nat.le_of_ble_eq_true rfl) (Nat.le_of_ble_eq_true rfl) ?_
    have w12 : 0 ≤ ((z8)).toInt ∧ ((z8)).toInt ≤ 1000 := by omega
    exact W.vret hx hb hr (fun t ht hW => ⟨⟨(z8, f9), rfl, w12, by rw [ht]; exact hP, hD⟩, hS.F ht⟩) hS.2.2 dX11_saysName_34
  · have kc2 := (not_congr (cv_le (rfl : (z1).toInt = (z1).toInt) (by decide : (0 : Int32).toInt = 0))).mp c2
    have bd9 := l_bd p1
    refine lv_aload_n hx hb dX11_saysName_8 rfl (lv_at hl 0 rfl) ?_
    refine lv_lload_n hx hb dX11_saysName_9 rfl (lv_at hl 1 rfl) ?_
    refine lv_lconst (v := 1) hx hb dX11_saysName_10 (by decide) ?_
    refine lv_lsub hx hb dX11_saysName_11 ?_
    refine lv_topl (fun z13 ez13 => ?_)
    have tz13 : (z13).toInt = (p1).toInt - 1 := by rw [ez13]; exact l_sub rfl (by decide) (by omega)
    refine lv_ldc2 (v := 27) hx hb hown (hw _ w_cl_X11_93) dX11_saysName_12 ?_
    refine lv_ldiv hx hb dX11_saysName_15 (by decide) ?_
    refine lv_topl (fun z14 ez14 => ?_)
    have tz14 : 0 ≤ (z13).toInt → (z14).toInt = (z13).toInt / 27 := fun h9 => by rw [ez14]; exact l_div rfl (by decide) (by omega)
    have hPc := hP.sub (ws' := [(h_mm, .inr (8, (mo32 v_mm (.ref h_wri) (.int x_mm_writes) (.int x_mm_room)))), (h_wri, .inl (cy_wri, 1000, .inl f_wri))]) [0, 1] rfl
    have hDc := hD.sub (ws' := [(h_mm, .inr (8, (mo32 v_mm (.ref h_wri) (.int x_mm_writes) (.int x_mm_room)))), (h_wri, .inl (cy_wri, 1000, .inl f_wri))]) [0, 1] (by decide) rfl
    have hKc := hK.sub (tys' := [(cy_wri, .int)]) [0] rfl
    have hFc := va_free (wc := [(h_mm, .inr (8, (mo32 v_mm (.ref h_wri) (.int x_mm_writes) (.int x_mm_room)))), (h_wri, .inl (cy_wri, 1000, .inl f_wri))]) hD hS hA [0, 1] rfl
    refine va_callv (va_runV (As := [.long z14]) (rest := []) ⟨hx, hb, hml, hown, hts⟩ (c_X11_saysName_6 l dC dI s.heap.size h_mm h_wri v_mm x_mm_writes x_mm_room cy_wri f_wri z14 (by omega) (by omega) (by omega)) (cwV 1 hts (gv hT w_m_X11_455 w_instanceMethod_X11_saysName ws_sel_X11_saysName w_ini_X11 w_code_X11_saysName) rfl rfl rfl (by decide +kernel) ⟨(Nat.le_of_ble_eq_true rfl), (Nat.le_of_ble_eq_true rfl)⟩) ⟨pre_blind, va_recv hK hP (ci := 8) (q0 := 0) rfl rfl, pre_of hPc hKc hDc hN⟩ rfl rfl hl.1 rfl (lv_room (Nat.le_of_ble_eq_true rfl)) dX11_saysName_16 ⟨(Nat.le_of_ble_eq_true rfl), (Nat.le_of_ble_eq_true rfl)⟩) hS (fun q _ h => hFc q h) hFc (fun u t H locs ht hvm hq hB hz1 hk1 hS => ?_)
    obtain ⟨z16, f17⟩ := u
    obtain ⟨hP1, hD1⟩ := hB
    rw [ht] at hP1
    obtain ⟨hP, hD⟩ := va_join (wr := []) (w1 := [(h_mm, .inr (8, (mo32 v_mm (.ref h_wri) (.int z16) (.int x_mm_room)))), (h_wri, .inl (cy_wri, 1000, .inl f17))]) hP hD [0, 1] [] rfl rfl (by decide) (by decide) hk1 hFc hP1 hD1
    have hP : va_P (dC, dI) cls [(h_mm, .inr (8, (mo32 v_mm (.ref h_wri) (.int z16) (.int x_mm_room)))), (h_wri, .inl (cy_wri, 1000, .inl f17))] H := hP
    have hD : va_D A [(h_mm, .inr (8, (mo32 v_mm (.ref h_wri) (.int z16) (.int x_mm_room)))), (h_wri, .inl (cy_wri, 1000, .inl f17))] := hD
    have k18 : 0 ≤ ((z16)).toInt ∧ ((z16)).toInt ≤ 1000 := hq
    refine lv_aload_n hx hb dX11_saysName_19 rfl (lv_at hl 0 rfl) ?_
    refine lv_bipush (v := 97) hx hb dX11_saysName_20 (by decide) ?_
    refine lv_lload_n hx hb dX11_saysName_22 rfl (lv_at hl 1 rfl) ?_
    refine lv_lconst (v := 1) hx hb dX11_saysName_23 (by decide) ?_
    refine lv_lsub hx hb dX11_saysName_24 ?_
    refine lv_topl (fun z19 ez19 => ?_)
    refine lv_ldc2 (v := 27) hx hb hown (hw _ w_cl_X11_93) dX11_saysName_25 ?_
    refine lv_lrem hx hb dX11_saysName_28 (by decide) ?_
    refine lv_topl (fun z20 ez20 => ?_)
    refine lv_l2i hx hb dX11_saysName_29 rfl ?_
    refine lv_topi (fun z21 ez21 => ?_)
    refine lv_iadd hx hb dX11_saysName_30 ?_
    refine lv_topi (fun z22 ez22 => ?_)
    have hPc := hP.sub (ws' := [(h_mm, .inr (8, (mo32 v_mm (.ref h_wri) (.int z16) (.int x_mm_room)))), (h_wri, .inl (cy_wri, 1000, .inl f17))]) [0, 1] rfl
    have hDc := hD.sub (ws' := [(h_mm, .inr (8, (mo32 v_mm (.ref h_wri) (.int z16) (.int x_mm_room)))), (h_wri, .inl (cy_wri, 1000, .inl f17))]) [0, 1] (by decide) rfl
    have hKc := hK.sub (tys' := [(cy_wri, .int)]) [0] rfl
    have hFc := va_free (wc := [(h_mm, .inr (8, (mo32 v_mm (.ref h_wri) (.int z16) (.int x_mm_room)))), (h_wri, .inl (cy_wri, 1000, .inl f17))]) hD hS hA [0, 1] rfl
    refine va_callv (va_runV (As := [.int z22]) (rest := []) ⟨hx, hb, hml, hown, hts⟩ (c_X11_says l dC dI H.size h_mm h_wri v_mm z16 x_mm_room cy_wri f17 z22 (by omega) (by omega)) (cwV 1 hts (gv hT w_m_X11_452 w_instanceMethod_X11_says ws_sel_X11_says w_ini_X11 w_code_X11_says) rfl rfl rfl (by decide +kernel) ⟨(Nat.le_of_ble_eq_true rfl), (Nat.le_of_ble_eq_true rfl)⟩) ⟨pre_blind, va_recv hK hP (ci := 8) (q0 := 0) rfl rfl, pre_of hPc hKc hDc hN⟩ rfl rfl hl.1 rfl (lv_room (Nat.le_of_ble_eq_true rfl)) dX11_saysName_31 ⟨(Nat.le_of_ble_eq_true rfl), (Nat.le_of_ble_eq_true rfl)⟩) hS (fun q _ h => hFc q h) hFc (fun u t H locs ht hvm hq hB hz1 hk1 hS => ?_)
    obtain ⟨z24, f25⟩ := u
    obtain ⟨hP1, hD1⟩ := hB
    rw [ht] at hP1
    obtain ⟨hP, hD⟩ := va_join (wr := []) (w1 := [(h_mm, .inr (8, (mo32 v_mm (.ref h_wri) (.int z24) (.int x_mm_room)))), (h_wri, .inl (cy_wri, 1000, .inl f25))]) hP hD [0, 1] [] rfl rfl (by decide) (by decide) hk1 hFc hP1 hD1
    have hP : va_P (dC, dI) cls [(h_mm, .inr (8, (mo32 v_mm (.ref h_wri) (.int z24) (.int x_mm_room)))), (h_wri, .inl (cy_wri, 1000, .inl f25))] H := hP
    have hD : va_D A [(h_mm, .inr (8, (mo32 v_mm (.ref h_wri) (.int z24) (.int x_mm_room)))), (h_wri, .inl (cy_wri, 1000, .inl f25))] := hD
    obtain ⟨k26, k27⟩ := hq
    have k26 : 0 ≤ ((z24)).toInt ∧ ((z24)).toInt ≤ 1000 := k26
    have k27 : ((z16)).toInt ≤ ((z24)).toInt := k27
    refine W.widen (k := 0) (n := 0) (Nat.le_of_ble_eq_true rfl) (Nat.le_of_ble_eq_true rfl) ?_
    have w28 : 0 ≤ ((z24)).toInt ∧ ((z24)).toInt ≤ 1000 := by omega
    exact W.vret hx hb hr (fun t ht hW => ⟨⟨(z24, f25), rfl, w28, by rw [ht]; exact hP, hD⟩, hS.F ht⟩) hS.2.2 dX11_saysName_34

set_option maxHeartbeats 8000000 in
set_option maxRecDepth 100000 in
theorem c_X11_saysName_8 (l : Launch) (dC : Nat → ClassId) (dI : Nat → Nat → Nat) (sz : Nat) (h_mm : Nat) (h_wri : Nat) (v_mm : Nat → Value) (x_mm_writes : Int32) (x_mm_room : Int32) (cy_wri : ClassId) (f_wri : Nat → Int32) (p1 : Int64) (hx_mm_writes : 0 ≤ (x_mm_writes).toInt ∧ (x_mm_writes).toInt ≤ 1000) (hx_mm_room : 0 ≤ (x_mm_room).toInt ∧ (x_mm_room).toInt ≤ 998) (q0 : (p1).toInt ≤ 7918889695947) : Met l yX11_saysName (Ws yX11_saysName cX11_saysName 3 none) (({ frames := 9, cells := 0, slots := 0, locals := 197 } : Room)) (PRE (dC, dI) cls [(cy_wri, .int)] [(h_mm, .inr (8, (mo32 v_mm (.ref h_wri) (.int x_mm_writes) (.int x_mm_room)))), (h_wri, .inl (cy_wri, 1000, .inl f_wri))] sz [.ref h_mm, .long p1]) (va_Qv (fun (u : (Int32) × (Nat → Int32)) => (0 ≤ (u.1).toInt ∧ (u.1).toInt ≤ 1000)) (fun (u : (Int32) × (Nat → Int32)) (t : State) => va_P (dC, dI) cls [(h_mm, .inr (8, (mo32 v_mm (.ref h_wri) (.int u.1) (.int x_mm_room)))), (h_wri, .inl (cy_wri, 1000, .inl u.2))] t.heap ∧ va_D (va_A [(h_mm, .inr (8, (mo32 v_mm (.ref h_wri) (.int x_mm_writes) (.int x_mm_room)))), (h_wri, .inl (cy_wri, 1000, .inl f_wri))] sz) [(h_mm, .inr (8, (mo32 v_mm (.ref h_wri) (.int u.1) (.int x_mm_room)))), (h_wri, .inl (cy_wri, 1000, .inl u.2))]) (va_A [(h_mm, .inr (8, (mo32 v_mm (.ref h_wri) (.int x_mm_writes) (.int x_mm_room)))), (h_wri, .inl (cy_wri, 1000, .inl f_wri))] sz)) 0 0 (va_A [(h_mm, .inr (8, (mo32 v_mm (.ref h_wri) (.int x_mm_writes) (.int x_mm_room)))), (h_wri, .inl (cy_wri, 1000, .inl f_wri))] sz) := by
  refine Met.ofW (cc := cX11_saysName) (maxL := 3) (ret := none) (by decide) rfl ?_
  intro p e s m args below meth c s₁ B hml hv
  obtain ⟨rfl, hsz, hP, hK, hD0, hN⟩ := hv
  have hx := B.exec
  have hb := B.bytes
  have hr := B.returns
  have hts := atoms_spec (ws := Ws yX11_saysName cX11_saysName 3 none) B.pre
  have hT : ∀ w ∈ WALL, w ∈ Ws yX11_saysName cX11_saysName 3 none := fun w h => List.mem_cons_of_mem _ h
  have hw := fun w (h : w ∈ WALL) => hts w (hT w h)
  have hown : s.vm.findClass RX11 = some m.cls := findClass_of_methodNamed B.named
  have hlocks := B.notSynchronized
  subst hsz
  have hD := hD0.self (sz := s.heap.size)
  generalize hAe : va_A [(h_mm, .inr (8, (mo32 v_mm (.ref h_wri) (.int x_mm_writes) (.int x_mm_room)))), (h_wri, .inl (cy_wri, 1000, .inl f_wri))] s.heap.size = A at hD ⊢
  have hA : ∀ q : Nat, s.heap.size ≤ q → A q := fun q h => by rw [← hAe]; exact Or.inr h
  have hS : va_S A s.heap s.heap [] := va_S.rf
  have hl := lv_entry ([.ref h_mm, .long p1]) (n := 3) (Nat.le_of_ble_eq_true rfl)
  rw [lg_entry_eq]
  generalize (lg_sl ([.ref h_mm, .long p1]) ++ List.replicate (3 - (lg_sl ([.ref h_mm, .long p1])).length) Slot.unset).toArray = ls at hl ⊢
  have hl : lv_has ls 3 [(0, .ref h_mm), (1, .long p1)] := hl
  refine lv_lload_n hx hb dX11_saysName_0 rfl (lv_at hl 1 rfl) ?_
  refine lv_ldc2 (v := 27) hx hb hown (hw _ w_cl_X11_93) dX11_saysName_1 ?_
  refine W.lcmp hx hb dX11_saysName_4 ?_
  refine lv_topi (fun z1 ez1 => ?_)
  have gz1 := lgc p1 27
  rw [← ez1] at gz1
  have : (27 : Int64).toInt = 27 := by decide
  refine lv_if_le (tgt := 19) hx hb dX11_saysName_5 (by decide) (fun c2 => ?_) (fun c2 => ?_)
  · have kc2 := (cv_le (rfl : (z1).toInt = (z1).toInt) (by decide : (0 : Int32).toInt = 0)).mp c2
    refine lv_aload_n hx hb dX11_saysName_19 rfl (lv_at hl 0 rfl) ?_
    refine lv_bipush (v := 97) hx hb dX11_saysName_20 (by decide) ?_
    refine lv_lload_n hx hb dX11_saysName_22 rfl (lv_at hl 1 rfl) ?_
    refine lv_lconst (v := 1) hx hb dX11_saysName_23 (by decide) ?_
    refine lv_lsub hx hb dX11_saysName_24 ?_
    refine lv_topl (fun z3 ez3 => ?_)
    refine lv_ldc2 (v := 27) hx hb hown (hw _ w_cl_X11_93) dX11_saysName_25 ?_
    refine lv_lrem hx hb dX11_saysName_28 (by decide) ?_
    refine lv_topl (fun z4 ez4 => ?_)
    refine lv_l2i hx hb dX11_saysName_29 rfl ?_
    refine lv_topi (fun z5 ez5 => ?_)
    refine lv_iadd hx hb dX11_saysName_30 ?_
    refine lv_topi (fun z6 ez6 => ?_)
    have hPc := hP.sub (ws' := [(h_mm, .inr (8, (mo32 v_mm (.ref h_wri) (.int x_mm_writes) (.int x_mm_room)))), (h_wri, .inl (cy_wri, 1000, .inl f_wri))]) [0, 1] rfl
    have hDc := hD.sub (ws' := [(h_mm, .inr (8, (mo32 v_mm (.ref h_wri) (.int x_mm_writes) (.int x_mm_room)))), (h_wri, .inl (cy_wri, 1000, .inl f_wri))]) [0, 1] (by decide) rfl
    have hKc := hK.sub (tys' := [(cy_wri, .int)]) [0] rfl
    have hFc := va_free (wc := [(h_mm, .inr (8, (mo32 v_mm (.ref h_wri) (.int x_mm_writes) (.int x_mm_room)))), (h_wri, .inl (cy_wri, 1000, .inl f_wri))]) hD hS hA [0, 1] rfl
    refine va_callv (va_runV (As := [.int z6]) (rest := []) ⟨hx, hb, hml, hown, hts⟩ (c_X11_says l dC dI s.heap.size h_mm h_wri v_mm x_mm_writes x_mm_room cy_wri f_wri z6 (by omega) (by omega)) (cwV 1 hts (gv hT w_m_X11_452 w_instanceMethod_X11_says ws_sel_X11_says w_ini_X11 w_code_X11_says) rfl rfl rfl (by decide +kernel) ⟨(Nat.le_of_ble_eq_true rfl), (Nat.le_of_ble_eq_true rfl)⟩) ⟨pre_blind, va_recv hK hP (ci := 8) (q0 := 0) rfl rfl, pre_of hPc hKc hDc hN⟩ rfl rfl hl.1 rfl (lv_room (Nat.le_of_ble_eq_true rfl)) dX11_saysName_31 ⟨(Nat.le_of_ble_eq_true rfl), (Nat.le_of_ble_eq_true rfl)⟩) hS (fun q _ h => hFc q h) hFc (fun u t H locs ht hvm hq hB hz1 hk1 hS => ?_)
    obtain ⟨z8, f9⟩ := u
    obtain ⟨hP1, hD1⟩ := hB
    rw [ht] at hP1
    obtain ⟨hP, hD⟩ := va_join (wr := []) (w1 := [(h_mm, .inr (8, (mo32 v_mm (.ref h_wri) (.int z8) (.int x_mm_room)))), (h_wri, .inl (cy_wri, 1000, .inl f9))]) hP hD [0, 1] [] rfl rfl (by decide) (by decide) hk1 hFc hP1 hD1
    have hP : va_P (dC, dI) cls [(h_mm, .inr (8, (mo32 v_mm (.ref h_wri) (.int z8) (.int x_mm_room)))), (h_wri, .inl (cy_wri, 1000, .inl f9))] H := hP
    have hD : va_D A [(h_mm, .inr (8, (mo32 v_mm (.ref h_wri) (.int z8) (.int x_mm_room)))), (h_wri, .inl (cy_wri, 1000, .inl f9))] := hD
    obtain ⟨k10, k11⟩ := hq
    have k10 : 0 ≤ ((z8)).toInt ∧ ((z8)).toInt ≤ 1000 := k10
    have k11 : ((x_mm_writes)).toInt ≤ ((z8)).toInt := k11
    refine W.widen (k := 0) (n := 0) (Nat.le_of_ble_eq_true rfl) (Nat.le_of_ble_eq_true rfl) ?_
    have w12 : 0 ≤ ((z8)).toInt ∧ ((z8)).toInt ≤ 1000 := by omega
    exact W.vret hx hb hr (fun t ht hW => ⟨⟨(z8, f9), rfl, w12, by rw [ht]; exact hP, hD⟩, hS.F ht⟩) hS.2.2 dX11_saysName_34
  · have kc2 := (not_congr (cv_le (rfl : (z1).toInt = (z1).toInt) (by decide : (0 : Int32).toInt = 0))).mp c2
    have bd9 := l_bd p1
    refine lv_aload_n hx hb dX11_saysName_8 rfl (lv_at hl 0 rfl) ?_
    refine lv_lload_n hx hb dX11_saysName_9 rfl (lv_at hl 1 rfl) ?_
    refine lv_lconst (v := 1) hx hb dX11_saysName_10 (by decide) ?_
    refine lv_lsub hx hb dX11_saysName_11 ?_
    refine lv_topl (fun z13 ez13 => ?_)
    have tz13 : (z13).toInt = (p1).toInt - 1 := by rw [ez13]; exact l_sub rfl (by decide) (by omega)
    refine lv_ldc2 (v := 27) hx hb hown (hw _ w_cl_X11_93) dX11_saysName_12 ?_
    refine lv_ldiv hx hb dX11_saysName_15 (by decide) ?_
    refine lv_topl (fun z14 ez14 => ?_)
    have tz14 : 0 ≤ (z13).toInt → (z14).toInt = (z13).toInt / 27 := fun h9 => by rw [ez14]; exact l_div rfl (by decide) (by omega)
    have hPc := hP.sub (ws' := [(h_mm, .inr (8, (mo32 v_mm (.ref h_wri) (.int x_mm_writes) (.int x_mm_room)))), (h_wri, .inl (cy_wri, 1000, .inl f_wri))]) [0, 1] rfl
    have hDc := hD.sub (ws' := [(h_mm, .inr (8, (mo32 v_mm (.ref h_wri) (.int x_mm_writes) (.int x_mm_room)))), (h_wri, .inl (cy_wri, 1000, .inl f_wri))]) [0, 1] (by decide) rfl
    have hKc := hK.sub (tys' := [(cy_wri, .int)]) [0] rfl
    have hFc := va_free (wc := [(h_mm, .inr (8, (mo32 v_mm (.ref h_wri) (.int x_mm_writes) (.int x_mm_room)))), (h_wri, .inl (cy_wri, 1000, .inl f_wri))]) hD hS hA [0, 1] rfl
    refine va_callv (va_runV (As := [.long z14]) (rest := []) ⟨hx, hb, hml, hown, hts⟩ (c_X11_saysName_7 l dC dI s.heap.size h_mm h_wri v_mm x_mm_writes x_mm_room cy_wri f_wri z14 (by omega) (by omega) (by omega)) (cwV 1 hts (gv hT w_m_X11_455 w_instanceMethod_X11_saysName ws_sel_X11_saysName w_ini_X11 w_code_X11_saysName) rfl rfl rfl (by decide +kernel) ⟨(Nat.le_of_ble_eq_true rfl), (Nat.le_of_ble_eq_true rfl)⟩) ⟨pre_blind, va_recv hK hP (ci := 8) (q0 := 0) rfl rfl, pre_of hPc hKc hDc hN⟩ rfl rfl hl.1 rfl (lv_room (Nat.le_of_ble_eq_true rfl)) dX11_saysName_16 ⟨(Nat.le_of_ble_eq_true rfl), (Nat.le_of_ble_eq_true rfl)⟩) hS (fun q _ h => hFc q h) hFc (fun u t H locs ht hvm hq hB hz1 hk1 hS => ?_)
    obtain ⟨z16, f17⟩ := u
    obtain ⟨hP1, hD1⟩ := hB
    rw [ht] at hP1
    obtain ⟨hP, hD⟩ := va_join (wr := []) (w1 := [(h_mm, .inr (8, (mo32 v_mm (.ref h_wri) (.int z16) (.int x_mm_room)))), (h_wri, .inl (cy_wri, 1000, .inl f17))]) hP hD [0, 1] [] rfl rfl (by decide) (by decide) hk1 hFc hP1 hD1
    have hP : va_P (dC, dI) cls [(h_mm, .inr (8, (mo32 v_mm (.ref h_wri) (.int z16) (.int x_mm_room)))), (h_wri, .inl (cy_wri, 1000, .inl f17))] H := hP
    have hD : va_D A [(h_mm, .inr (8, (mo32 v_mm (.ref h_wri) (.int z16) (.int x_mm_room)))), (h_wri, .inl (cy_wri, 1000, .inl f17))] := hD
    have k18 : 0 ≤ ((z16)).toInt ∧ ((z16)).toInt ≤ 1000 := hq
    refine lv_aload_n hx hb dX11_saysName_19 rfl (lv_at hl 0 rfl) ?_
    refine lv_bipush (v := 97) hx hb dX11_saysName_20 (by decide) ?_
    refine lv_lload_n hx hb dX11_saysName_22 rfl (lv_at hl 1 rfl) ?_
    refine lv_lconst (v := 1) hx hb dX11_saysName_23 (by decide) ?_
    refine lv_lsub hx hb dX11_saysName_24 ?_
    refine lv_topl (fun z19 ez19 => ?_)
    refine lv_ldc2 (v := 27) hx hb hown (hw _ w_cl_X11_93) dX11_saysName_25 ?_
    refine lv_lrem hx hb dX11_saysName_28 (by decide) ?_
    refine lv_topl (fun z20 ez20 => ?_)
    refine lv_l2i hx hb dX11_saysName_29 rfl ?_
    refine lv_topi (fun z21 ez21 => ?_)
    refine lv_iadd hx hb dX11_saysName_30 ?_
    refine lv_topi (fun z22 ez22 => ?_)
    have hPc := hP.sub (ws' := [(h_mm, .inr (8, (mo32 v_mm (.ref h_wri) (.int z16) (.int x_mm_room)))), (h_wri, .inl (cy_wri, 1000, .inl f17))]) [0, 1] rfl
    have hDc := hD.sub (ws' := [(h_mm, .inr (8, (mo32 v_mm (.ref h_wri) (.int z16) (.int x_mm_room)))), (h_wri, .inl (cy_wri, 1000, .inl f17))]) [0, 1] (by decide) rfl
    have hKc := hK.sub (tys' := [(cy_wri, .int)]) [0] rfl
    have hFc := va_free (wc := [(h_mm, .inr (8, (mo32 v_mm (.ref h_wri) (.int z16) (.int x_mm_room)))), (h_wri, .inl (cy_wri, 1000, .inl f17))]) hD hS hA [0, 1] rfl
    refine va_callv (va_runV (As := [.int z22]) (rest := []) ⟨hx, hb, hml, hown, hts⟩ (c_X11_says l dC dI H.size h_mm h_wri v_mm z16 x_mm_room cy_wri f17 z22 (by omega) (by omega)) (cwV 1 hts (gv hT w_m_X11_452 w_instanceMethod_X11_says ws_sel_X11_says w_ini_X11 w_code_X11_says) rfl rfl rfl (by decide +kernel) ⟨(Nat.le_of_ble_eq_true rfl), (Nat.le_of_ble_eq_true rfl)⟩) ⟨pre_blind, va_recv hK hP (ci := 8) (q0 := 0) rfl rfl, pre_of hPc hKc hDc hN⟩ rfl rfl hl.1 rfl (lv_room (Nat.le_of_ble_eq_true rfl)) dX11_saysName_31 ⟨(Nat.le_of_ble_eq_true rfl), (Nat.le_of_ble_eq_true rfl)⟩) hS (fun q _ h => hFc q h) hFc (fun u t H locs ht hvm hq hB hz1 hk1 hS => ?_)
    obtain ⟨z24, f25⟩ := u
    obtain ⟨hP1, hD1⟩ := hB
    rw [ht] at hP1
    obtain ⟨hP, hD⟩ := va_join (wr := []) (w1 := [(h_mm, .inr (8, (mo32 v_mm (.ref h_wri) (.int z24) (.int x_mm_room)))), (h_wri, .inl (cy_wri, 1000, .inl f25))]) hP hD [0, 1] [] rfl rfl (by decide) (by decide) hk1 hFc hP1 hD1
    have hP : va_P (dC, dI) cls [(h_mm, .inr (8, (mo32 v_mm (.ref h_wri) (.int z24) (.int x_mm_room)))), (h_wri, .inl (cy_wri, 1000, .inl f25))] H := hP
    have hD : va_D A [(h_mm, .inr (8, (mo32 v_mm (.ref h_wri) (.int z24) (.int x_mm_room)))), (h_wri, .inl (cy_wri, 1000, .inl f25))] := hD
    obtain ⟨k26, k27⟩ := hq
    have k26 : 0 ≤ ((z24)).toInt ∧ ((z24)).toInt ≤ 1000 := k26
    have k27 : ((z16)).toInt ≤ ((z24)).toInt := k27
    refine W.widen (k := 0) (n := 0) (Nat.le_of_ble_eq_true rfl) (Nat.le_of_ble_eq_true rfl) ?_
    have w28 : 0 ≤ ((z24)).toInt ∧ ((z24)).toInt ≤ 1000 := by omega
    exact W.vret hx hb hr (fun t ht hW => ⟨⟨(z24, f25), rfl, w28, by rw [ht]; exact hP, hD⟩, hS.F ht⟩) hS.2.2 dX11_saysName_34

set_option maxHeartbeats 8000000 in
set_option maxRecDepth 100000 in
theorem c_X11_saysName_9 (l : Launch) (dC : Nat → ClassId) (dI : Nat → Nat → Nat) (sz : Nat) (h_mm : Nat) (h_wri : Nat) (v_mm : Nat → Value) (x_mm_writes : Int32) (x_mm_room : Int32) (cy_wri : ClassId) (f_wri : Nat → Int32) (p1 : Int64) (hx_mm_writes : 0 ≤ (x_mm_writes).toInt ∧ (x_mm_writes).toInt ≤ 1000) (hx_mm_room : 0 ≤ (x_mm_room).toInt ∧ (x_mm_room).toInt ≤ 998) (q0 : (p1).toInt ≤ 213810021790596) : Met l yX11_saysName (Ws yX11_saysName cX11_saysName 3 none) (({ frames := 10, cells := 0, slots := 0, locals := 219 } : Room)) (PRE (dC, dI) cls [(cy_wri, .int)] [(h_mm, .inr (8, (mo32 v_mm (.ref h_wri) (.int x_mm_writes) (.int x_mm_room)))), (h_wri, .inl (cy_wri, 1000, .inl f_wri))] sz [.ref h_mm, .long p1]) (va_Qv (fun (u : (Int32) × (Nat → Int32)) => (0 ≤ (u.1).toInt ∧ (u.1).toInt ≤ 1000)) (fun (u : (Int32) × (Nat → Int32)) (t : State) => va_P (dC, dI) cls [(h_mm, .inr (8, (mo32 v_mm (.ref h_wri) (.int u.1) (.int x_mm_room)))), (h_wri, .inl (cy_wri, 1000, .inl u.2))] t.heap ∧ va_D (va_A [(h_mm, .inr (8, (mo32 v_mm (.ref h_wri) (.int x_mm_writes) (.int x_mm_room)))), (h_wri, .inl (cy_wri, 1000, .inl f_wri))] sz) [(h_mm, .inr (8, (mo32 v_mm (.ref h_wri) (.int u.1) (.int x_mm_room)))), (h_wri, .inl (cy_wri, 1000, .inl u.2))]) (va_A [(h_mm, .inr (8, (mo32 v_mm (.ref h_wri) (.int x_mm_writes) (.int x_mm_room)))), (h_wri, .inl (cy_wri, 1000, .inl f_wri))] sz)) 0 0 (va_A [(h_mm, .inr (8, (mo32 v_mm (.ref h_wri) (.int x_mm_writes) (.int x_mm_room)))), (h_wri, .inl (cy_wri, 1000, .inl f_wri))] sz) := by
  refine Met.ofW (cc := cX11_saysName) (maxL := 3) (ret := none) (by decide) rfl ?_
  intro p e s m args below meth c s₁ B hml hv
  obtain ⟨rfl, hsz, hP, hK, hD0, hN⟩ := hv
  have hx := B.exec
  have hb := B.bytes
  have hr := B.returns
  have hts := atoms_spec (ws := Ws yX11_saysName cX11_saysName 3 none) B.pre
  have hT : ∀ w ∈ WALL, w ∈ Ws yX11_saysName cX11_saysName 3 none := fun w h => List.mem_cons_of_mem _ h
  have hw := fun w (h : w ∈ WALL) => hts w (hT w h)
  have hown : s.vm.findClass RX11 = some m.cls := findClass_of_methodNamed B.named
  have hlocks := B.notSynchronized
  subst hsz
  have hD := hD0.self (sz := s.heap.size)
  generalize hAe : va_A [(h_mm, .inr (8, (mo32 v_mm (.ref h_wri) (.int x_mm_writes) (.int x_mm_room)))), (h_wri, .inl (cy_wri, 1000, .inl f_wri))] s.heap.size = A at hD ⊢
  have hA : ∀ q : Nat, s.heap.size ≤ q → A q := fun q h => by rw [← hAe]; exact Or.inr h
  have hS : va_S A s.heap s.heap [] := va_S.rf
  have hl := lv_entry ([.ref h_mm, .long p1]) (n := 3) (Nat.le_of_ble_eq_true rfl)
  rw [lg_entry_eq]
  generalize (lg_sl ([.ref h_mm, .long p1]) ++ List.replicate (3 - (lg_sl ([.ref h_mm, .long p1])).length) Slot.unset).toArray = ls at hl ⊢
  have hl : lv_has ls 3 [(0, .ref h_mm), (1, .long p1)] := hl
  refine lv_lload_n hx hb dX11_saysName_0 rfl (lv_at hl 1 rfl) ?_
  refine lv_ldc2 (v := 27) hx hb hown (hw _ w_cl_X11_93) dX11_saysName_1 ?_
  refine W.lcmp hx hb dX11_saysName_4 ?_
  refine lv_topi (fun z1 ez1 => ?_)
  have gz1 := lgc p1 27
  rw [← ez1] at gz1
  have : (27 : Int64).toInt = 27 := by decide
  refine lv_if_le (tgt := 19) hx hb dX11_saysName_5 (by decide) (fun c2 => ?_) (fun c2 => ?_)
  · have kc2 := (cv_le (rfl : (z1).toInt = (z1).toInt) (by decide : (0 : Int32).toInt = 0)).mp c2
    refine lv_aload_n hx hb dX11_saysName_19 rfl (lv_at hl 0 rfl) ?_
    refine lv_bipush (v := 97) hx hb dX11_saysName_20 (by decide) ?_
    refine lv_lload_n hx hb dX11_saysName_22 rfl (lv_at hl 1 rfl) ?_
    refine lv_lconst (v := 1) hx hb dX11_saysName_23 (by decide) ?_
    refine lv_lsub hx hb dX11_saysName_24 ?_
    refine lv_topl (fun z3 ez3 => ?_)
    refine lv_ldc2 (v := 27) hx hb hown (hw _ w_cl_X11_93) dX11_saysName_25 ?_
    refine lv_lrem hx hb dX11_saysName_28 (by decide) ?_
    refine lv_topl (fun z4 ez4 => ?_)
    refine lv_l2i hx hb dX11_saysName_29 rfl ?_
    refine lv_topi (fun z5 ez5 => ?_)
    refine lv_iadd hx hb dX11_saysName_30 ?_
    refine lv_topi (fun z6 ez6 => ?_)
    have hPc := hP.sub (ws' := [(h_mm, .inr (8, (mo32 v_mm (.ref h_wri) (.int x_mm_writes) (.int x_mm_room)))), (h_wri, .inl (cy_wri, 1000, .inl f_wri))]) [0, 1] rfl
    have hDc := hD.sub (ws' := [(h_mm, .inr (8, (mo32 v_mm (.ref h_wri) (.int x_mm_writes) (.int x_mm_room)))), (h_wri, .inl (cy_wri, 1000, .inl f_wri))]) [0, 1] (by decide) rfl
    have hKc := hK.sub (tys' := [(cy_wri, .int)]) [0] rfl
    have hFc := va_free (wc := [(h_mm, .inr (8, (mo32 v_mm (.ref h_wri) (.int x_mm_writes) (.int x_mm_room)))), (h_wri, .inl (cy_wri, 1000, .inl f_wri))]) hD hS hA [0, 1] rfl
    refine va_callv (va_runV (As := [.int z6]) (rest := []) ⟨hx, hb, hml, hown, hts⟩ (c_X11_says l dC dI s.heap.size h_mm h_wri v_mm x_mm_writes x_mm_room cy_wri f_wri z6 (by omega) (by omega)) (cwV 1 hts (gv hT w_m_X11_452 w_instanceMethod_X11_says ws_sel_X11_says w_ini_X11 w_code_X11_says) rfl rfl rfl (by decide +kernel) ⟨(Nat.le_of_ble_eq_true rfl), (Nat.le_of_ble_eq_true rfl)⟩) ⟨pre_blind, va_recv hK hP (ci := 8) (q0 := 0) rfl rfl, pre_of hPc hKc hDc hN⟩ rfl rfl hl.1 rfl (lv_room (Nat.le_of_ble_eq_true rfl)) dX11_saysName_31 ⟨(Nat.le_of_ble_eq_true rfl), (Nat.le_of_ble_eq_true rfl)⟩) hS (fun q _ h => hFc q h) hFc (fun u t H locs ht hvm hq hB hz1 hk1 hS => ?_)
    obtain ⟨z8, f9⟩ := u
    obtain ⟨hP1, hD1⟩ := hB
    rw [ht] at hP1
    obtain ⟨hP, hD⟩ := va_join (wr := []) (w1 := [(h_mm, .inr (8, (mo32 v_mm (.ref h_wri) (.int z8) (.int x_mm_room)))), (h_wri, .inl (cy_wri, 1000, .inl f9))]) hP hD [0, 1] [] rfl rfl (by decide) (by decide) hk1 hFc hP1 hD1
    have hP : va_P (dC, dI) cls [(h_mm, .inr (8, (mo32 v_mm (.ref h_wri) (.int z8) (.int x_mm_room)))), (h_wri, .inl (cy_wri, 1000, .inl f9))] H := hP
    have hD : va_D A [(h_mm, .inr (8, (mo32 v_mm (.ref h_wri) (.int z8) (.int x_mm_room)))), (h_wri, .inl (cy_wri, 1000, .inl f9))] := hD
    obtain ⟨k10, k11⟩ := hq
    have k10 : 0 ≤ ((z8)).toInt ∧ ((z8)).toInt ≤ 1000 := k10
    have k11 : ((x_mm_writes)).toInt ≤ ((z8)).toInt := k11
    refine W.widen (k := 0) (n := 0) (Nat.le_of_ble_eq_true rfl) (Nat.le_of_ble_eq_true rfl) ?_
    have w12 : 0 ≤ ((z8)).toInt ∧ ((z8)).toInt ≤ 1000 := by omega
    exact W.vret hx hb hr (fun t ht hW => ⟨⟨(z8, f9), rfl, w12, by rw [ht]; exact hP, hD⟩, hS.F ht⟩) hS.2.2 dX11_saysName_34
  · have kc2 := (not_congr (cv_le (rfl : (z1).toInt = (z1).toInt) (by decide : (0 : Int32).toInt = 0))).mp c2
    have bd9 := l_bd p1
    refine lv_aload_n hx hb dX11_saysName_8 rfl (lv_at hl 0 rfl) ?_
    refine lv_lload_n hx hb dX11_saysName_9 rfl (lv_at hl 1 rfl) ?_
    refine lv_lconst (v := 1) hx hb dX11_saysName_10 (by decide) ?_
    refine lv_lsub hx hb dX11_saysName_11 ?_
    refine lv_topl (fun z13 ez13 => ?_)
    have tz13 : (z13).toInt = (p1).toInt - 1 := by rw [ez13]; exact l_sub rfl (by decide) (by omega)
    refine lv_ldc2 (v := 27) hx hb hown (hw _ w_cl_X11_93) dX11_saysName_12 ?_
    refine lv_ldiv hx hb dX11_saysName_15 (by decide) ?_
    refine lv_topl (fun z14 ez14 => ?_)
    have tz14 : 0 ≤ (z13).toInt → (z14).toInt = (z13).toInt / 27 := fun h9 => by rw [ez14]; exact l_div rfl (by decide) (by omega)
    have hPc := hP.sub (ws' := [(h_mm, .inr (8, (mo32 v_mm (.ref h_wri) (.int x_mm_writes) (.int x_mm_room)))), (h_wri, .inl (cy_wri, 1000, .inl f_wri))]) [0, 1] rfl
    have hDc := hD.sub (ws' := [(h_mm, .inr (8, (mo32 v_mm (.ref h_wri) (.int x_mm_writes) (.int x_mm_room)))), (h_wri, .inl (cy_wri, 1000, .inl f_wri))]) [0, 1] (by decide) rfl
    have hKc := hK.sub (tys' := [(cy_wri, .int)]) [0] rfl
    have hFc := va_free (wc := [(h_mm, .inr (8, (mo32 v_mm (.ref h_wri) (.int x_mm_writes) (.int x_mm_room)))), (h_wri, .inl (cy_wri, 1000, .inl f_wri))]) hD hS hA [0, 1] rfl
    refine va_callv (va_runV (As := [.long z14]) (rest := []) ⟨hx, hb, hml, hown, hts⟩ (c_X11_saysName_8 l dC dI s.heap.size h_mm h_wri v_mm x_mm_writes x_mm_room cy_wri f_wri z14 (by omega) (by omega) (by omega)) (cwV 1 hts (gv hT w_m_X11_455 w_instanceMethod_X11_saysName ws_sel_X11_saysName w_ini_X11 w_code_X11_saysName) rfl rfl rfl (by decide +kernel) ⟨(Nat.le_of_ble_eq_true rfl), (Nat.le_of_ble_eq_true rfl)⟩) ⟨pre_blind, va_recv hK hP (ci := 8) (q0 := 0) rfl rfl, pre_of hPc hKc hDc hN⟩ rfl rfl hl.1 rfl (lv_room (Nat.le_of_ble_eq_true rfl)) dX11_saysName_16 ⟨(Nat.le_of_ble_eq_true rfl), (Nat.le_of_ble_eq_true rfl)⟩) hS (fun q _ h => hFc q h) hFc (fun u t H locs ht hvm hq hB hz1 hk1 hS => ?_)
    obtain ⟨z16, f17⟩ := u
    obtain ⟨hP1, hD1⟩ := hB
    rw [ht] at hP1
    obtain ⟨hP, hD⟩ := va_join (wr := []) (w1 := [(h_mm, .inr (8, (mo32 v_mm (.ref h_wri) (.int z16) (.int x_mm_room)))), (h_wri, .inl (cy_wri, 1000, .inl f17))]) hP hD [0, 1] [] rfl rfl (by decide) (by decide) hk1 hFc hP1 hD1
    have hP : va_P (dC, dI) cls [(h_mm, .inr (8, (mo32 v_mm (.ref h_wri) (.int z16) (.int x_mm_room)))), (h_wri, .inl (cy_wri, 1000, .inl f17))] H := hP
    have hD : va_D A [(h_mm, .inr (8, (mo32 v_mm (.ref h_wri) (.int z16) (.int x_mm_room)))), (h_wri, .inl (cy_wri, 1000, .inl f17))] := hD
    have k18 : 0 ≤ ((z16)).toInt ∧ ((z16)).toInt ≤ 1000 := hq
    refine lv_aload_n hx hb dX11_saysName_19 rfl (lv_at hl 0 rfl) ?_
    refine lv_bipush (v := 97) hx hb dX11_saysName_20 (by decide) ?_
    refine lv_lload_n hx hb dX11_saysName_22 rfl (lv_at hl 1 rfl) ?_
    refine lv_lconst (v := 1) hx hb dX11_saysName_23 (by decide) ?_
    refine lv_lsub hx hb dX11_saysName_24 ?_
    refine lv_topl (fun z19 ez19 => ?_)
    refine lv_ldc2 (v := 27) hx hb hown (hw _ w_cl_X11_93) dX11_saysName_25 ?_
    refine lv_lrem hx hb dX11_saysName_28 (by decide) ?_
    refine lv_topl (fun z20 ez20 => ?_)
    refine lv_l2i hx hb dX11_saysName_29 rfl ?_
    refine lv_topi (fun z21 ez21 => ?_)
    refine lv_iadd hx hb dX11_saysName_30 ?_
    refine lv_topi (fun z22 ez22 => ?_)
    have hPc := hP.sub (ws' := [(h_mm, .inr (8, (mo32 v_mm (.ref h_wri) (.int z16) (.int x_mm_room)))), (h_wri, .inl (cy_wri, 1000, .inl f17))]) [0, 1] rfl
    have hDc := hD.sub (ws' := [(h_mm, .inr (8, (mo32 v_mm (.ref h_wri) (.int z16) (.int x_mm_room)))), (h_wri, .inl (cy_wri, 1000, .inl f17))]) [0, 1] (by decide) rfl
    have hKc := hK.sub (tys' := [(cy_wri, .int)]) [0] rfl
    have hFc := va_free (wc := [(h_mm, .inr (8, (mo32 v_mm (.ref h_wri) (.int z16) (.int x_mm_room)))), (h_wri, .inl (cy_wri, 1000, .inl f17))]) hD hS hA [0, 1] rfl
    refine va_callv (va_runV (As := [.int z22]) (rest := []) ⟨hx, hb, hml, hown, hts⟩ (c_X11_says l dC dI H.size h_mm h_wri v_mm z16 x_mm_room cy_wri f17 z22 (by omega) (by omega)) (cwV 1 hts (gv hT w_m_X11_452 w_instanceMethod_X11_says ws_sel_X11_says w_ini_X11 w_code_X11_says) rfl rfl rfl (by decide +kernel) ⟨(Nat.le_of_ble_eq_true rfl), (Nat.le_of_ble_eq_true rfl)⟩) ⟨pre_blind, va_recv hK hP (ci := 8) (q0 := 0) rfl rfl, pre_of hPc hKc hDc hN⟩ rfl rfl hl.1 rfl (lv_room (Nat.le_of_ble_eq_true rfl)) dX11_saysName_31 ⟨(Nat.le_of_ble_eq_true rfl), (Nat.le_of_ble_eq_true rfl)⟩) hS (fun q _ h => hFc q h) hFc (fun u t H locs ht hvm hq hB hz1 hk1 hS => ?_)
    obtain ⟨z24, f25⟩ := u
    obtain ⟨hP1, hD1⟩ := hB
    rw [ht] at hP1
    obtain ⟨hP, hD⟩ := va_join (wr := []) (w1 := [(h_mm, .inr (8, (mo32 v_mm (.ref h_wri) (.int z24) (.int x_mm_room)))), (h_wri, .inl (cy_wri, 1000, .inl f25))]) hP hD [0, 1] [] rfl rfl (by decide) (by decide) hk1 hFc hP1 hD1
    have hP : va_P (dC, dI) cls [(h_mm, .inr (8, (mo32 v_mm (.ref h_wri) (.int z24) (.int x_mm_room)))), (h_wri, .inl (cy_wri, 1000, .inl f25))] H := hP
    have hD : va_D A [(h_mm, .inr (8, (mo32 v_mm (.ref h_wri) (.int z24) (.int x_mm_room)))), (h_wri, .inl (cy_wri, 1000, .inl f25))] := hD
    obtain ⟨k26, k27⟩ := hq
    have k26 : 0 ≤ ((z24)).toInt ∧ ((z24)).toInt ≤ 1000 := k26
    have k27 : ((z16)).toInt ≤ ((z24)).toInt := k27
    refine W.widen (k := 0) (n := 0) (Nat.le_of_ble_eq_true rfl) (Nat.le_of_ble_eq_true rfl) ?_
    have w28 : 0 ≤ ((z24)).toInt ∧ ((z24)).toInt ≤ 1000 := by omega
    exact W.vret hx hb hr (fun t ht hW => ⟨⟨(z24, f25), rfl, w28, by rw [ht]; exact hP, hD⟩, hS.F ht⟩) hS.2.2 dX11_saysName_34

set_option maxHeartbeats 8000000 in
set_option maxRecDepth 100000 in
theorem c_X11_saysName_10 (l : Launch) (dC : Nat → ClassId) (dI : Nat → Nat → Nat) (sz : Nat) (h_mm : Nat) (h_wri : Nat) (v_mm : Nat → Value) (x_mm_writes : Int32) (x_mm_room : Int32) (cy_wri : ClassId) (f_wri : Nat → Int32) (p1 : Int64) (hx_mm_writes : 0 ≤ (x_mm_writes).toInt ∧ (x_mm_writes).toInt ≤ 1000) (hx_mm_room : 0 ≤ (x_mm_room).toInt ∧ (x_mm_room).toInt ≤ 998) (q0 : (p1).toInt ≤ 5772870588346119) : Met l yX11_saysName (Ws yX11_saysName cX11_saysName 3 none) (({ frames := 11, cells := 0, slots := 0, locals := 241 } : Room)) (PRE (dC, dI) cls [(cy_wri, .int)] [(h_mm, .inr (8, (mo32 v_mm (.ref h_wri) (.int x_mm_writes) (.int x_mm_room)))), (h_wri, .inl (cy_wri, 1000, .inl f_wri))] sz [.ref h_mm, .long p1]) (va_Qv (fun (u : (Int32) × (Nat → Int32)) => (0 ≤ (u.1).toInt ∧ (u.1).toInt ≤ 1000)) (fun (u : (Int32) × (Nat → Int32)) (t : State) => va_P (dC, dI) cls [(h_mm, .inr (8, (mo32 v_mm (.ref h_wri) (.int u.1) (.int x_mm_room)))), (h_wri, .inl (cy_wri, 1000, .inl u.2))] t.heap ∧ va_D (va_A [(h_mm, .inr (8, (mo32 v_mm (.ref h_wri) (.int x_mm_writes) (.int x_mm_room)))), (h_wri, .inl (cy_wri, 1000, .inl f_wri))] sz) [(h_mm, .inr (8, (mo32 v_mm (.ref h_wri) (.int u.1) (.int x_mm_room)))), (h_wri, .inl (cy_wri, 1000, .inl u.2))]) (va_A [(h_mm, .inr (8, (mo32 v_mm (.ref h_wri) (.int x_mm_writes) (.int x_mm_room)))), (h_wri, .inl (cy_wri, 1000, .inl f_wri))] sz)) 0 0 (va_A [(h_mm, .inr (8, (mo32 v_mm (.ref h_wri) (.int x_mm_writes) (.int x_mm_room)))), (h_wri, .inl (cy_wri, 1000, .inl f_wri))] sz) := by
  refine Met.ofW (cc := cX11_saysName) (maxL := 3) (ret := none) (by decide) rfl ?_
  intro p e s m args below meth c s₁ B hml hv
  obtain ⟨rfl, hsz, hP, hK, hD0, hN⟩ := hv
  have hx := B.exec
  have hb := B.bytes
  have hr := B.returns
  have hts := atoms_spec (ws := Ws yX11_saysName cX11_saysName 3 none) B.pre
  have hT : ∀ w ∈ WALL, w ∈ Ws yX11_saysName cX11_saysName 3 none := fun w h => List.mem_cons_of_mem _ h
  have hw := fun w (h : w ∈ WALL) => hts w (hT w h)
  have hown : s.vm.findClass RX11 = some m.cls := findClass_of_methodNamed B.named
  have hlocks := B.notSynchronized
  subst hsz
  have hD := hD0.self (sz := s.heap.size)
  generalize hAe : va_A [(h_mm, .inr (8, (mo32 v_mm (.ref h_wri) (.int x_mm_writes) (.int x_mm_room)))), (h_wri, .inl (cy_wri, 1000, .inl f_wri))] s.heap.size = A at hD ⊢
  have hA : ∀ q : Nat, s.heap.size ≤ q → A q := fun q h => by rw [← hAe]; exact Or.inr h
  have hS : va_S A s.heap s.heap [] := va_S.rf
  have hl := lv_entry ([.ref h_mm, .long p1]) (n := 3) (Nat.le_of_ble_eq_true rfl)
  rw [lg_entry_eq]
  generalize (lg_sl ([.ref h_mm, .long p1]) ++ List.replicate (3 - (lg_sl ([.ref h_mm, .long p1])).length) Slot.unset).toArray = ls at hl ⊢
  have hl : lv_has ls 3 [(0, .ref h_mm), (1, .long p1)] := hl
  refine lv_lload_n hx hb dX11_saysName_0 rfl (lv_at hl 1 rfl) ?_
  refine lv_ldc2 (v := 27) hx hb hown (hw _ w_cl_X11_93) dX11_saysName_1 ?_
  refine W.lcmp hx hb dX11_saysName_4 ?_
  refine lv_topi (fun z1 ez1 => ?_)
  have gz1 := lgc p1 27
  rw [← ez1] at gz1
  have : (27 : Int64).toInt = 27 := by decide
  refine lv_if_le (tgt := 19) hx hb dX11_saysName_5 (by decide) (fun c2 => ?_) (fun c2 => ?_)
  · have kc2 := (cv_le (rfl : (z1).toInt = (z1).toInt) (by decide : (0 : Int32).toInt = 0)).mp c2
    refine lv_aload_n hx hb dX11_saysName_19 rfl (lv_at hl 0 rfl) ?_
    refine lv_bipush (v := 97) hx hb dX11_saysName_20 (by decide) ?_
    refine lv_lload_n hx hb dX11_saysName_22 rfl (lv_at hl 1 rfl) ?_
    refine lv_lconst (v := 1) hx hb dX11_saysName_23 (by decide) ?_
    refine lv_lsub hx hb dX11_saysName_24 ?_
    refine lv_topl (fun z3 ez3 => ?_)
    refine lv_ldc2 (v := 27) hx hb hown (hw _ w_cl_X11_93) dX11_saysName_25 ?_
    refine lv_lrem hx hb dX11_saysName_28 (by decide) ?_
    refine lv_topl (fun z4 ez4 => ?_)
    refine lv_l2i hx hb dX11_saysName_29 rfl ?_
    refine lv_topi (fun z5 ez5 => ?_)
    refine lv_iadd hx hb dX11_saysName_30 ?_
    refine lv_topi (fun z6 ez6 => ?_)
    have hPc := hP.sub (ws' := [(h_mm, .inr (8, (mo32 v_mm (.ref h_wri) (.int x_mm_writes) (.int x_mm_room)))), (h_wri, .inl (cy_wri, 1000, .inl f_wri))]) [0, 1] rfl
    have hDc := hD.sub (ws' := [(h_mm, .inr (8, (mo32 v_mm (.ref h_wri) (.int x_mm_writes) (.int x_mm_room)))), (h_wri, .inl (cy_wri, 1000, .inl f_wri))]) [0, 1] (by decide) rfl
    have hKc := hK.sub (tys' := [(cy_wri, .int)]) [0] rfl
    have hFc := va_free (wc := [(h_mm, .inr (8, (mo32 v_mm (.ref h_wri) (.int x_mm_writes) (.int x_mm_room)))), (h_wri, .inl (cy_wri, 1000, .inl f_wri))]) hD hS hA [0, 1] rfl
    refine va_callv (va_runV (As := [.int z6]) (rest := []) ⟨hx, hb, hml, hown, hts⟩ (c_X11_says l dC dI s.heap.size h_mm h_wri v_mm x_mm_writes x_mm_room cy_wri f_wri z6 (by omega) (by omega)) (cwV 1 hts (gv hT w_m_X11_452 w_instanceMethod_X11_says ws_sel_X11_says w_ini_X11 w_code_X11_says) rfl rfl rfl (by decide +kernel) ⟨(Nat.le_of_ble_eq_true rfl), (Nat.le_of_ble_eq_true rfl)⟩) ⟨pre_blind, va_recv hK hP (ci := 8) (q0 := 0) rfl rfl, pre_of hPc hKc hDc hN⟩ rfl rfl hl.1 rfl (lv_room (Nat.le_of_ble_eq_true rfl)) dX11_saysName_31 ⟨(Nat.le_of_ble_eq_true rfl), (Nat.le_of_ble_eq_true rfl)⟩) hS (fun q _ h => hFc q h) hFc (fun u t H locs ht hvm hq hB hz1 hk1 hS => ?_)
    obtain ⟨z8, f9⟩ := u
    obtain ⟨hP1, hD1⟩ := hB
    rw [ht] at hP1
    obtain ⟨hP, hD⟩ := va_join (wr := []) (w1 := [(h_mm, .inr (8, (mo32 v_mm (.ref h_wri) (.int z8) (.int x_mm_room)))), (h_wri, .inl (cy_wri, 1000, .inl f9))]) hP hD [0, 1] [] rfl rfl (by decide) (by decide) hk1 hFc hP1 hD1
    have hP : va_P (dC, dI) cls [(h_mm, .inr (8, (mo32 v_mm (.ref h_wri) (.int z8) (.int x_mm_room)))), (h_wri, .inl (cy_wri, 1000, .inl f9))] H := hP
    have hD : va_D A [(h_mm, .inr (8, (mo32 v_mm (.ref h_wri) (.int z8) (.int x_mm_room)))), (h_wri, .inl (cy_wri, 1000, .inl f9))] := hD
    obtain ⟨k10, k11⟩ := hq
    have k10 : 0 ≤ ((z8)).toInt ∧ ((z8)).toInt ≤ 1000 := k10
    have k11 : ((x_mm_writes)).toInt ≤ ((z8)).toInt := k11
    refine W.widen (k := 0) (n := 0) (Nat.le_of_ble_eq_true rfl) (Nat.le_of_ble_eq_true rfl) ?_
    have w12 : 0 ≤ ((z8)).toInt ∧ ((z8)).toInt ≤ 1000 := by omega
    exact W.vret hx hb hr (fun t ht hW => ⟨⟨(z8, f9), rfl, w12, by rw [ht]; exact hP, hD⟩, hS.F ht⟩) hS.2.2 dX11_saysName_34
  · have kc2 := (not_congr (cv_le (rfl : (z1).toInt = (z1).toInt) (by decide : (0 : Int32).toInt = 0))).mp c2
    have bd9 := l_bd p1
    refine lv_aload_n hx hb dX11_saysName_8 rfl (lv_at hl 0 rfl) ?_
    refine lv_lload_n hx hb dX11_saysName_9 rfl (lv_at hl 1 rfl) ?_
    refine lv_lconst (v := 1) hx hb dX11_saysName_10 (by decide) ?_
    refine lv_lsub hx hb dX11_saysName_11 ?_
    refine lv_topl (fun z13 ez13 => ?_)
    have tz13 : (z13).toInt = (p1).toInt - 1 := by rw [ez13]; exact l_sub rfl (by decide) (by omega)
    refine lv_ldc2 (v := 27) hx hb hown (hw _ w_cl_X11_93) dX11_saysName_12 ?_
    refine lv_ldiv hx hb dX11_saysName_15 (by decide) ?_
    refine lv_topl (fun z14 ez14 => ?_)
    have tz14 : 0 ≤ (z13).toInt → (z14).toInt = (z13).toInt / 27 := fun h9 => by rw [ez14]; exact l_div rfl (by decide) (by omega)
    have hPc := hP.sub (ws' := [(h_mm, .inr (8, (mo32 v_mm (.ref h_wri) (.int x_mm_writes) (.int x_mm_room)))), (h_wri, .inl (cy_wri, 1000, .inl f_wri))]) [0, 1] rfl
    have hDc := hD.sub (ws' := [(h_mm, .inr (8, (mo32 v_mm (.ref h_wri) (.int x_mm_writes) (.int x_mm_room)))), (h_wri, .inl (cy_wri, 1000, .inl f_wri))]) [0, 1] (by decide) rfl
    have hKc := hK.sub (tys' := [(cy_wri, .int)]) [0] rfl
    have hFc := va_free (wc := [(h_mm, .inr (8, (mo32 v_mm (.ref h_wri) (.int x_mm_writes) (.int x_mm_room)))), (h_wri, .inl (cy_wri, 1000, .inl f_wri))]) hD hS hA [0, 1] rfl
    refine va_callv (va_runV (As := [.long z14]) (rest := []) ⟨hx, hb, hml, hown, hts⟩ (c_X11_saysName_9 l dC dI s.heap.size h_mm h_wri v_mm x_mm_writes x_mm_room cy_wri f_wri z14 (by omega) (by omega) (by omega)) (cwV 1 hts (gv hT w_m_X11_455 w_instanceMethod_X11_saysName ws_sel_X11_saysName w_ini_X11 w_code_X11_saysName) rfl rfl rfl (by decide +kernel) ⟨(Nat.le_of_ble_eq_true rfl), (Nat.le_of_ble_eq_true rfl)⟩) ⟨pre_blind, va_recv hK hP (ci := 8) (q0 := 0) rfl rfl, pre_of hPc hKc hDc hN⟩ rfl rfl hl.1 rfl (lv_room (Nat.le_of_ble_eq_true rfl)) dX11_saysName_16 ⟨(Nat.le_of_ble_eq_true rfl), (Nat.le_of_ble_eq_true rfl)⟩) hS (fun q _ h => hFc q h) hFc (fun u t H locs ht hvm hq hB hz1 hk1 hS => ?_)
    obtain ⟨z16, f17⟩ := u
    obtain ⟨hP1, hD1⟩ := hB
    rw [ht] at hP1
    obtain ⟨hP, hD⟩ := va_join (wr := []) (w1 := [(h_mm, .inr (8, (mo32 v_mm (.ref h_wri) (.int z16) (.int x_mm_room)))), (h_wri, .inl (cy_wri, 1000, .inl f17))]) hP hD [0, 1] [] rfl rfl (by decide) (by decide) hk1 hFc hP1 hD1
    have hP : va_P (dC, dI) cls [(h_mm, .inr (8, (mo32 v_mm (.ref h_wri) (.int z16) (.int x_mm_room)))), (h_wri, .inl (cy_wri, 1000, .inl f17))] H := hP
    have hD : va_D A [(h_mm, .inr (8, (mo32 v_mm (.ref h_wri) (.int z16) (.int x_mm_room)))), (h_wri, .inl (cy_wri, 1000, .inl f17))] := hD
    have k18 : 0 ≤ ((z16)).toInt ∧ ((z16)).toInt ≤ 1000 := hq
    refine lv_aload_n hx hb dX11_saysName_19 rfl (lv_at hl 0 rfl) ?_
    refine lv_bipush (v := 97) hx hb dX11_saysName_20 (by decide) ?_
    refine lv_lload_n hx hb dX11_saysName_22 rfl (lv_at hl 1 rfl) ?_
    refine lv_lconst (v := 1) hx hb dX11_saysName_23 (by decide) ?_
    refine lv_lsub hx hb dX11_saysName_24 ?_
    refine lv_topl (fun z19 ez19 => ?_)
    refine lv_ldc2 (v := 27) hx hb hown (hw _ w_cl_X11_93) dX11_saysName_25 ?_
    refine lv_lrem hx hb dX11_saysName_28 (by decide) ?_
    refine lv_topl (fun z20 ez20 => ?_)
    refine lv_l2i hx hb dX11_saysName_29 rfl ?_
    refine lv_topi (fun z21 ez21 => ?_)
    refine lv_iadd hx hb dX11_saysName_30 ?_
    refine lv_topi (fun z22 ez22 => ?_)
    have hPc := hP.sub (ws' := [(h_mm, .inr (8, (mo32 v_mm (.ref h_wri) (.int z16) (.int x_mm_room)))), (h_wri, .inl (cy_wri, 1000, .inl f17))]) [0, 1] rfl
    have hDc := hD.sub (ws' := [(h_mm, .inr (8, (mo32 v_mm (.ref h_wri) (.int z16) (.int x_mm_room)))), (h_wri, .inl (cy_wri, 1000, .inl f17))]) [0, 1] (by decide) rfl
    have hKc := hK.sub (tys' := [(cy_wri, .int)]) [0] rfl
    have hFc := va_free (wc := [(h_mm, .inr (8, (mo32 v_mm (.ref h_wri) (.int z16) (.int x_mm_room)))), (h_wri, .inl (cy_wri, 1000, .inl f17))]) hD hS hA [0, 1] rfl
    refine va_callv (va_runV (As := [.int z22]) (rest := []) ⟨hx, hb, hml, hown, hts⟩ (c_X11_says l dC dI H.size h_mm h_wri v_mm z16 x_mm_room cy_wri f17 z22 (by omega) (by omega)) (cwV 1 hts (gv hT w_m_X11_452 w_instanceMethod_X11_says ws_sel_X11_says w_ini_X11 w_code_X11_says) rfl rfl rfl (by decide +kernel) ⟨(Nat.le_of_ble_eq_true rfl), (Nat.le_of_ble_eq_true rfl)⟩) ⟨pre_blind, va_recv hK hP (ci := 8) (q0 := 0) rfl rfl, pre_of hPc hKc hDc hN⟩ rfl rfl hl.1 rfl (lv_room (Nat.le_of_ble_eq_true rfl)) dX11_saysName_31 ⟨(Nat.le_of_ble_eq_true rfl), (Nat.le_of_ble_eq_true rfl)⟩) hS (fun q _ h => hFc q h) hFc (fun u t H locs ht hvm hq hB hz1 hk1 hS => ?_)
    obtain ⟨z24, f25⟩ := u
    obtain ⟨hP1, hD1⟩ := hB
    rw [ht] at hP1
    obtain ⟨hP, hD⟩ := va_join (wr := []) (w1 := [(h_mm, .inr (8, (mo32 v_mm (.ref h_wri) (.int z24) (.int x_mm_room)))), (h_wri, .inl (cy_wri, 1000, .inl f25))]) hP hD [0, 1] [] rfl rfl (by decide) (by decide) hk1 hFc hP1 hD1
    have hP : va_P (dC, dI) cls [(h_mm, .inr (8, (mo32 v_mm (.ref h_wri) (.int z24) (.int x_mm_room)))), (h_wri, .inl (cy_wri, 1000, .inl f25))] H := hP
    have hD : va_D A [(h_mm, .inr (8, (mo32 v_mm (.ref h_wri) (.int z24) (.int x_mm_room)))), (h_wri, .inl (cy_wri, 1000, .inl f25))] := hD
    obtain ⟨k26, k27⟩ := hq
    have k26 : 0 ≤ ((z24)).toInt ∧ ((z24)).toInt ≤ 1000 := k26
    have k27 : ((z16)).toInt ≤ ((z24)).toInt := k27
    refine W.widen (k := 0) (n := 0) (Nat.le_of_ble_eq_true rfl) (Nat.le_of_ble_eq_true rfl) ?_
    have w28 : 0 ≤ ((z24)).toInt ∧ ((z24)).toInt ≤ 1000 := by omega
    exact W.vret hx hb hr (fun t ht hW => ⟨⟨(z24, f25), rfl, w28, by rw [ht]; exact hP, hD⟩, hS.F ht⟩) hS.2.2 dX11_saysName_34

set_option maxHeartbeats 8000000 in
set_option maxRecDepth 100000 in
theorem c_X11_saysName_11 (l : Launch) (dC : Nat → ClassId) (dI : Nat → Nat → Nat) (sz : Nat) (h_mm : Nat) (h_wri : Nat) (v_mm : Nat → Value) (x_mm_writes : Int32) (x_mm_room : Int32) (cy_wri : ClassId) (f_wri : Nat → Int32) (p1 : Int64) (hx_mm_writes : 0 ≤ (x_mm_writes).toInt ∧ (x_mm_writes).toInt ≤ 1000) (hx_mm_room : 0 ≤ (x_mm_room).toInt ∧ (x_mm_room).toInt ≤ 998) (q0 : (p1).toInt ≤ 155867505885345240) : Met l yX11_saysName (Ws yX11_saysName cX11_saysName 3 none) (({ frames := 12, cells := 0, slots := 0, locals := 263 } : Room)) (PRE (dC, dI) cls [(cy_wri, .int)] [(h_mm, .inr (8, (mo32 v_mm (.ref h_wri) (.int x_mm_writes) (.int x_mm_room)))), (h_wri, .inl (cy_wri, 1000, .inl f_wri))] sz [.ref h_mm, .long p1]) (va_Qv (fun (u : (Int32) × (Nat → Int32)) => (0 ≤ (u.1).toInt ∧ (u.1).toInt ≤ 1000)) (fun (u : (Int32) × (Nat → Int32)) (t : State) => va_P (dC, dI) cls [(h_mm, .inr (8, (mo32 v_mm (.ref h_wri) (.int u.1) (.int x_mm_room)))), (h_wri, .inl (cy_wri, 1000, .inl u.2))] t.heap ∧ va_D (va_A [(h_mm, .inr (8, (mo32 v_mm (.ref h_wri) (.int x_mm_writes) (.int x_mm_room)))), (h_wri, .inl (cy_wri, 1000, .inl f_wri))] sz) [(h_mm, .inr (8, (mo32 v_mm (.ref h_wri) (.int u.1) (.int x_mm_room)))), (h_wri, .inl (cy_wri, 1000, .inl u.2))]) (va_A [(h_mm, .inr (8, (mo32 v_mm (.ref h_wri) (.int x_mm_writes) (.int x_mm_room)))), (h_wri, .inl (cy_wri, 1000, .inl f_wri))] sz)) 0 0 (va_A [(h_mm, .inr (8, (mo32 v_mm (.ref h_wri) (.int x_mm_writes) (.int x_mm_room)))), (h_wri, .inl (cy_wri, 1000, .inl f_wri))] sz) := by
  refine Met.ofW (cc := cX11_saysName) (maxL := 3) (ret := none) (by decide) rfl ?_
  intro p e s m args below meth c s₁ B hml hv
  obtain ⟨rfl, hsz, hP, hK, hD0, hN⟩ := hv
  have hx := B.exec
  have hb := B.bytes
  have hr := B.returns
  have hts := atoms_spec (ws := Ws yX11_saysName cX11_saysName 3 none) B.pre
  have hT : ∀ w ∈ WALL, w ∈ Ws yX11_saysName cX11_saysName 3 none := fun w h => List.mem_cons_of_mem _ h
  have hw := fun w (h : w ∈ WALL) => hts w (hT w h)
  have hown : s.vm.findClass RX11 = some m.cls := findClass_of_methodNamed B.named
  have hlocks := B.notSynchronized
  subst hsz
  have hD := hD0.self (sz := s.heap.size)
  generalize hAe : va_A [(h_mm, .inr (8, (mo32 v_mm (.ref h_wri) (.int x_mm_writes) (.int x_mm_room)))), (h_wri, .inl (cy_wri, 1000, .inl f_wri))] s.heap.size = A at hD ⊢
  have hA : ∀ q : Nat, s.heap.size ≤ q → A q := fun q h => by rw [← hAe]; exact Or.inr h
  have hS : va_S A s.heap s.heap [] := va_S.rf
  have hl := lv_entry ([.ref h_mm, .long p1]) (n := 3) (Nat.le_of_ble_eq_true rfl)
  rw [lg_entry_eq]
  generalize (lg_sl ([.ref h_mm, .long p1]) ++ List.replicate (3 - (lg_sl ([.ref h_mm, .long p1])).length) Slot.unset).toArray = ls at hl ⊢
  have hl : lv_has ls 3 [(0, .ref h_mm), (1, .long p1)] := hl
  refine lv_lload_n hx hb dX11_saysName_0 rfl (lv_at hl 1 rfl) ?_
  refine lv_ldc2 (v := 27) hx hb hown (hw _ w_cl_X11_93) dX11_saysName_1 ?_
  refine W.lcmp hx hb dX11_saysName_4 ?_
  refine lv_topi (fun z1 ez1 => ?_)
  have gz1 := lgc p1 27
  rw [← ez1] at gz1
  have : (27 : Int64).toInt = 27 := by decide
  refine lv_if_le (tgt := 19) hx hb dX11_saysName_5 (by decide) (fun c2 => ?_) (fun c2 => ?_)
  · have kc2 := (cv_le (rfl : (z1).toInt = (z1).toInt) (by decide : (0 : Int32).toInt = 0)).mp c2
    refine lv_aload_n hx hb dX11_saysName_19 rfl (lv_at hl 0 rfl) ?_
    refine lv_bipush (v := 97) hx hb dX11_saysName_20 (by decide) ?_
    refine lv_lload_n hx hb dX11_saysName_22 rfl (lv_at hl 1 rfl) ?_
    refine lv_lconst (v := 1) hx hb dX11_saysName_23 (by decide) ?_
    refine lv_lsub hx hb dX11_saysName_24 ?_
    refine lv_topl (fun z3 ez3 => ?_)
    refine lv_ldc2 (v := 27) hx hb hown (hw _ w_cl_X11_93) dX11_saysName_25 ?_
    refine lv_lrem hx hb dX11_saysName_28 (by decide) ?_
    refine lv_topl (fun z4 ez4 => ?_)
    refine lv_l2i hx hb dX11_saysName_29 rfl ?_
    refine lv_topi (fun z5 ez5 => ?_)
    refine lv_iadd hx hb dX11_saysName_30 ?_
    refine lv_topi (fun z6 ez6 => ?_)
    have hPc := hP.sub (ws' := [(h_mm, .inr (8, (mo32 v_mm (.ref h_wri) (.int x_mm_writes) (.int x_mm_room)))), (h_wri, .inl (cy_wri, 1000, .inl f_wri))]) [0, 1] rfl
    have hDc := hD.sub (ws' := [(h_mm, .inr (8, (mo32 v_mm (.ref h_wri) (.int x_mm_writes) (.int x_mm_room)))), (h_wri, .inl (cy_wri, 1000, .inl f_wri))]) [0, 1] (by decide) rfl
    have hKc := hK.sub (tys' := [(cy_wri, .int)]) [0] rfl
    have hFc := va_free (wc := [(h_mm, .inr (8, (mo32 v_mm (.ref h_wri) (.int x_mm_writes) (.int x_mm_room)))), (h_wri, .inl (cy_wri, 1000, .inl f_wri))]) hD hS hA [0, 1] rfl
    refine va_callv (va_runV (As := [.int z6]) (rest := []) ⟨hx, hb, hml, hown, hts⟩ (c_X11_says l dC dI s.heap.size h_mm h_wri v_mm x_mm_writes x_mm_room cy_wri f_wri z6 (by omega) (by omega)) (cwV 1 hts (gv hT w_m_X11_452 w_instanceMethod_X11_says ws_sel_X11_says w_ini_X11 w_code_X11_says) rfl rfl rfl (by decide +kernel) ⟨(Nat.le_of_ble_eq_true rfl), (Nat.le_of_ble_eq_true rfl)⟩) ⟨pre_blind, va_recv hK hP (ci := 8) (q0 := 0) rfl rfl, pre_of hPc hKc hDc hN⟩ rfl rfl hl.1 rfl (lv_room (Nat.le_of_ble_eq_true rfl)) dX11_saysName_31 ⟨(Nat.le_of_ble_eq_true rfl), (Nat.le_of_ble_eq_true rfl)⟩) hS (fun q _ h => hFc q h) hFc (fun u t H locs ht hvm hq hB hz1 hk1 hS => ?_)
    obtain ⟨z8, f9⟩ := u
    obtain ⟨hP1, hD1⟩ := hB
    rw [ht] at hP1
    obtain ⟨hP, hD⟩ := va_join (wr := []) (w1 := [(h_mm, .inr (8, (mo32 v_mm (.ref h_wri) (.int z8) (.int x_mm_room)))), (h_wri, .inl (cy_wri, 1000, .inl f9))]) hP hD [0, 1] [] rfl rfl (by decide) (by decide) hk1 hFc hP1 hD1
    have hP : va_P (dC, dI) cls [(h_mm, .inr (8, (mo32 v_mm (.ref h_wri) (.int z8) (.int x_mm_room)))), (h_wri, .inl (cy_wri, 1000, .inl f9))] H := hP
    have hD : va_D A [(h_mm, .inr (8, (mo32 v_mm (.ref h_wri) (.int z8) (.int x_mm_room)))), (h_wri, .inl (cy_wri, 1000, .inl f9))] := hD
    obtain ⟨k10, k11⟩ := hq
    have k10 : 0 ≤ ((z8)).toInt ∧ ((z8)).toInt ≤ 1000 := k10
    have k11 : ((x_mm_writes)).toInt ≤ ((z8)).toInt := k11
    refine W.widen (k := 0) (n := 0) (Nat.le_of_ble_eq_true rfl) (Nat.le_of_ble_eq_true rfl) ?_
    have w12 : 0 ≤ ((z8)).toInt ∧ ((z8)).toInt ≤ 1000 := by omega
    exact W.vret hx hb hr (fun t ht hW => ⟨⟨(z8, f9), rfl, w12, by rw [ht]; exact hP, hD⟩, hS.F ht⟩) hS.2.2 dX11_saysName_34
  · have kc2 := (not_congr (cv_le (rfl : (z1).toInt = (z1).toInt) (by decide : (0 : Int32).toInt = 0))).mp c2
    have bd9 := l_bd p1
    refine lv_aload_n hx hb dX11_saysName_8 rfl (lv_at hl 0 rfl) ?_
    refine lv_lload_n hx hb dX11_saysName_9 rfl (lv_at hl 1 rfl) ?_
    refine lv_lconst (v := 1) hx hb dX11_saysName_10 (by decide) ?_
    refine lv_lsub hx hb dX11_saysName_11 ?_
    refine lv_topl (fun z13 ez13 => ?_)
    have tz13 : (z13).toInt = (p1).toInt - 1 := by rw [ez13]; exact l_sub rfl (by decide) (by omega)
    refine lv_ldc2 (v := 27) hx hb hown (hw _ w_cl_X11_93) dX11_saysName_12 ?_
    refine lv_ldiv hx hb dX11_saysName_15 (by decide) ?_
    refine lv_topl (fun z14 ez14 => ?_)
    have tz14 : 0 ≤ (z13).toInt → (z14).toInt = (z13).toInt / 27 := fun h9 => by rw [ez14]; exact l_div rfl (by decide) (by omega)
    have hPc := hP.sub (ws' := [(h_mm, .inr (8, (mo32 v_mm (.ref h_wri) (.int x_mm_writes) (.int x_mm_room)))), (h_wri, .inl (cy_wri, 1000, .inl f_wri))]) [0, 1] rfl
    have hDc := hD.sub (ws' := [(h_mm, .inr (8, (mo32 v_mm (.ref h_wri) (.int x_mm_writes) (.int x_mm_room)))), (h_wri, .inl (cy_wri, 1000, .inl f_wri))]) [0, 1] (by decide) rfl
    have hKc := hK.sub (tys' := [(cy_wri, .int)]) [0] rfl
    have hFc := va_free (wc := [(h_mm, .inr (8, (mo32 v_mm (.ref h_wri) (.int x_mm_writes) (.int x_mm_room)))), (h_wri, .inl (cy_wri, 1000, .inl f_wri))]) hD hS hA [0, 1] rfl
    refine va_callv (va_runV (As := [.long z14]) (rest := []) ⟨hx, hb, hml, hown, hts⟩ (c_X11_saysName_10 l dC dI s.heap.size h_mm h_wri v_mm x_mm_writes x_mm_room cy_wri f_wri z14 (by omega) (by omega) (by omega)) (cwV 1 hts (gv hT w_m_X11_455 w_instanceMethod_X11_saysName ws_sel_X11_saysName w_ini_X11 w_code_X11_saysName) rfl rfl rfl (by decide +kernel) ⟨(Nat.le_of_ble_eq_true rfl), (Nat.le_of_ble_eq_true rfl)⟩) ⟨pre_blind, va_recv hK hP (ci := 8) (q0 := 0) rfl rfl, pre_of hPc hKc hDc hN⟩ rfl rfl hl.1 rfl (lv_room (Nat.le_of_ble_eq_true rfl)) dX11_saysName_16 ⟨(Nat.le_of_ble_eq_true rfl), (Nat.le_of_ble_eq_true rfl)⟩) hS (fun q _ h => hFc q h) hFc (fun u t H locs ht hvm hq hB hz1 hk1 hS => ?_)
    obtain ⟨z16, f17⟩ := u
    obtain ⟨hP1, hD1⟩ := hB
    rw [ht] at hP1
    obtain ⟨hP, hD⟩ := va_join (wr := []) (w1 := [(h_mm, .inr (8, (mo32 v_mm (.ref h_wri) (.int z16) (.int x_mm_room)))), (h_wri, .inl (cy_wri, 1000, .inl f17))]) hP hD [0, 1] [] rfl rfl (by decide) (by decide) hk1 hFc hP1 hD1
    have hP : va_P (dC, dI) cls [(h_mm, .inr (8, (mo32 v_mm (.ref h_wri) (.int z16) (.int x_mm_room)))), (h_wri, .inl (cy_wri, 1000, .inl f17))] H := hP
    have hD : va_D A [(h_mm, .inr (8, (mo32 v_mm (.ref h_wri) (.int z16) (.int x_mm_room)))), (h_wri, .inl (cy_wri, 1000, .inl f17))] := hD
    have k18 : 0 ≤ ((z16)).toInt ∧ ((z16)).toInt ≤ 1000 := hq
    refine lv_aload_n hx hb dX11_saysName_19 rfl (lv_at hl 0 rfl) ?_
    refine lv_bipush (v := 97) hx hb dX11_saysName_20 (by decide) ?_
    refine lv_lload_n hx hb dX11_saysName_22 rfl (lv_at hl 1 rfl) ?_
    refine lv_lconst (v := 1) hx hb dX11_saysName_23 (by decide) ?_
    refine lv_lsub hx hb dX11_saysName_24 ?_
    refine lv_topl (fun z19 ez19 => ?_)
    refine lv_ldc2 (v := 27) hx hb hown (hw _ w_cl_X11_93) dX11_saysName_25 ?_
    refine lv_lrem hx hb dX11_saysName_28 (by decide) ?_
    refine lv_topl (fun z20 ez20 => ?_)
    refine lv_l2i hx hb dX11_saysName_29 rfl ?_
    refine lv_topi (fun z21 ez21 => ?_)
    refine lv_iadd hx hb dX11_saysName_30 ?_
    refine lv_topi (fun z22 ez22 => ?_)
    have hPc := hP.sub (ws' := [(h_mm, .inr (8, (mo32 v_mm (.ref h_wri) (.int z16) (.int x_mm_room)))), (h_wri, .inl (cy_wri, 1000, .inl f17))]) [0, 1] rfl
    have hDc := hD.sub (ws' := [(h_mm, .inr (8, (mo32 v_mm (.ref h_wri) (.int z16) (.int x_mm_room)))), (h_wri, .inl (cy_wri, 1000, .inl f17))]) [0, 1] (by decide) rfl
    have hKc := hK.sub (tys' := [(cy_wri, .int)]) [0] rfl
    have hFc := va_free (wc := [(h_mm, .inr (8, (mo32 v_mm (.ref h_wri) (.int z16) (.int x_mm_room)))), (h_wri, .inl (cy_wri, 1000, .inl f17))]) hD hS hA [0, 1] rfl
    refine va_callv (va_runV (As := [.int z22]) (rest := []) ⟨hx, hb, hml, hown, hts⟩ (c_X11_says l dC dI H.size h_mm h_wri v_mm z16 x_mm_room cy_wri f17 z22 (by omega) (by omega)) (cwV 1 hts (gv hT w_m_X11_452 w_instanceMethod_X11_says ws_sel_X11_says w_ini_X11 w_code_X11_says) rfl rfl rfl (by decide +kernel) ⟨(Nat.le_of_ble_eq_true rfl), (Nat.le_of_ble_eq_true rfl)⟩) ⟨pre_blind, va_recv hK hP (ci := 8) (q0 := 0) rfl rfl, pre_of hPc hKc hDc hN⟩ rfl rfl hl.1 rfl (lv_room (Nat.le_of_ble_eq_true rfl)) dX11_saysName_31 ⟨(Nat.le_of_ble_eq_true rfl), (Nat.le_of_ble_eq_true rfl)⟩) hS (fun q _ h => hFc q h) hFc (fun u t H locs ht hvm hq hB hz1 hk1 hS => ?_)
    obtain ⟨z24, f25⟩ := u
    obtain ⟨hP1, hD1⟩ := hB
    rw [ht] at hP1
    obtain ⟨hP, hD⟩ := va_join (wr := []) (w1 := [(h_mm, .inr (8, (mo32 v_mm (.ref h_wri) (.int z24) (.int x_mm_room)))), (h_wri, .inl (cy_wri, 1000, .inl f25))]) hP hD [0, 1] [] rfl rfl (by decide) (by decide) hk1 hFc hP1 hD1
    have hP : va_P (dC, dI) cls [(h_mm, .inr (8, (mo32 v_mm (.ref h_wri) (.int z24) (.int x_mm_room)))), (h_wri, .inl (cy_wri, 1000, .inl f25))] H := hP
    have hD : va_D A [(h_mm, .inr (8, (mo32 v_mm (.ref h_wri) (.int z24) (.int x_mm_room)))), (h_wri, .inl (cy_wri, 1000, .inl f25))] := hD
    obtain ⟨k26, k27⟩ := hq
    have k26 : 0 ≤ ((z24)).toInt ∧ ((z24)).toInt ≤ 1000 := k26
    have k27 : ((z16)).toInt ≤ ((z24)).toInt := k27
    refine W.widen (k := 0) (n := 0) (Nat.le_of_ble_eq_true rfl) (Nat.le_of_ble_eq_true rfl) ?_
    have w28 : 0 ≤ ((z24)).toInt ∧ ((z24)).toInt ≤ 1000 := by omega
    exact W.vret hx hb hr (fun t ht hW => ⟨⟨(z24, f25), rfl, w28, by rw [ht]; exact hP, hD⟩, hS.F ht⟩) hS.2.2 dX11_saysName_34

set_option maxHeartbeats 8000000 in
set_option maxRecDepth 100000 in
theorem c_X11_saysName_12 (l : Launch) (dC : Nat → ClassId) (dI : Nat → Nat → Nat) (sz : Nat) (h_mm : Nat) (h_wri : Nat) (v_mm : Nat → Value) (x_mm_writes : Int32) (x_mm_room : Int32) (cy_wri : ClassId) (f_wri : Nat → Int32) (p1 : Int64) (hx_mm_writes : 0 ≤ (x_mm_writes).toInt ∧ (x_mm_writes).toInt ≤ 1000) (hx_mm_room : 0 ≤ (x_mm_room).toInt ∧ (x_mm_room).toInt ≤ 998) (q0 : (p1).toInt ≤ 4208422658904321507) : Met l yX11_saysName (Ws yX11_saysName cX11_saysName 3 none) (({ frames := 13, cells := 0, slots := 0, locals := 285 } : Room)) (PRE (dC, dI) cls [(cy_wri, .int)] [(h_mm, .inr (8, (mo32 v_mm (.ref h_wri) (.int x_mm_writes) (.int x_mm_room)))), (h_wri, .inl (cy_wri, 1000, .inl f_wri))] sz [.ref h_mm, .long p1]) (va_Qv (fun (u : (Int32) × (Nat → Int32)) => (0 ≤ (u.1).toInt ∧ (u.1).toInt ≤ 1000)) (fun (u : (Int32) × (Nat → Int32)) (t : State) => va_P (dC, dI) cls [(h_mm, .inr (8, (mo32 v_mm (.ref h_wri) (.int u.1) (.int x_mm_room)))), (h_wri, .inl (cy_wri, 1000, .inl u.2))] t.heap ∧ va_D (va_A [(h_mm, .inr (8, (mo32 v_mm (.ref h_wri) (.int x_mm_writes) (.int x_mm_room)))), (h_wri, .inl (cy_wri, 1000, .inl f_wri))] sz) [(h_mm, .inr (8, (mo32 v_mm (.ref h_wri) (.int u.1) (.int x_mm_room)))), (h_wri, .inl (cy_wri, 1000, .inl u.2))]) (va_A [(h_mm, .inr (8, (mo32 v_mm (.ref h_wri) (.int x_mm_writes) (.int x_mm_room)))), (h_wri, .inl (cy_wri, 1000, .inl f_wri))] sz)) 0 0 (va_A [(h_mm, .inr (8, (mo32 v_mm (.ref h_wri) (.int x_mm_writes) (.int x_mm_room)))), (h_wri, .inl (cy_wri, 1000, .inl f_wri))] sz) := by
  refine Met.ofW (cc := cX11_saysName) (maxL := 3) (ret := none) (by decide) rfl ?_
  intro p e s m args below meth c s₁ B hml hv
  obtain ⟨rfl, hsz, hP, hK, hD0, hN⟩ := hv
  have hx := B.exec
  have hb := B.bytes
  have hr := B.returns
  have hts := atoms_spec (ws := Ws yX11_saysName cX11_saysName 3 none) B.pre
  have hT : ∀ w ∈ WALL, w ∈ Ws yX11_saysName cX11_saysName 3 none := fun w h => List.mem_cons_of_mem _ h
  have hw := fun w (h : w ∈ WALL) => hts w (hT w h)
  have hown : s.vm.findClass RX11 = some m.cls := findClass_of_methodNamed B.named
  have hlocks := B.notSynchronized
  subst hsz
  have hD := hD0.self (sz := s.heap.size)
  generalize hAe : va_A [(h_mm, .inr (8, (mo32 v_mm (.ref h_wri) (.int x_mm_writes) (.int x_mm_room)))), (h_wri, .inl (cy_wri, 1000, .inl f_wri))] s.heap.size = A at hD ⊢
  have hA : ∀ q : Nat, s.heap.size ≤ q → A q := fun q h => by rw [← hAe]; exact Or.inr h
  have hS : va_S A s.heap s.heap [] := va_S.rf
  have hl := lv_entry ([.ref h_mm, .long p1]) (n := 3) (Nat.le_of_ble_eq_true rfl)
  rw [lg_entry_eq]
  generalize (lg_sl ([.ref h_mm, .long p1]) ++ List.replicate (3 - (lg_sl ([.ref h_mm, .long p1])).length) Slot.unset).toArray = ls at hl ⊢
  have hl : lv_has ls 3 [(0, .ref h_mm), (1, .long p1)] := hl
  refine lv_lload_n hx hb dX11_saysName_0 rfl (lv_at hl 1 rfl) ?_
  refine lv_ldc2 (v := 27) hx hb hown (hw _ w_cl_X11_93) dX11_saysName_1 ?_
  refine W.lcmp hx hb dX11_saysName_4 ?_
  refine lv_topi (fun z1 ez1 => ?_)
  have gz1 := lgc p1 27
  rw [← ez1] at gz1
  have : (27 : Int64).toInt = 27 := by decide
  refine lv_if_le (tgt := 19) hx hb dX11_saysName_5 (by decide) (fun c2 => ?_) (fun c2 => ?_)
  · have kc2 := (cv_le (rfl : (z1).toInt = (z1).toInt) (by decide : (0 : Int32).toInt = 0)).mp c2
    refine lv_aload_n hx hb dX11_saysName_19 rfl (lv_at hl 0 rfl) ?_
    refine lv_bipush (v := 97) hx hb dX11_saysName_20 (by decide) ?_
    refine lv_lload_n hx hb dX11_saysName_22 rfl (lv_at hl 1 rfl) ?_
    refine lv_lconst (v := 1) hx hb dX11_saysName_23 (by decide) ?_
    refine lv_lsub hx hb dX11_saysName_24 ?_
    refine lv_topl (fun z3 ez3 => ?_)
    refine lv_ldc2 (v := 27) hx hb hown (hw _ w_cl_X11_93) dX11_saysName_25 ?_
    refine lv_lrem hx hb dX11_saysName_28 (by decide) ?_
    refine lv_topl (fun z4 ez4 => ?_)
    refine lv_l2i hx hb dX11_saysName_29 rfl ?_
    refine lv_topi (fun z5 ez5 => ?_)
    refine lv_iadd hx hb dX11_saysName_30 ?_
    refine lv_topi (fun z6 ez6 => ?_)
    have hPc := hP.sub (ws' := [(h_mm, .inr (8, (mo32 v_mm (.ref h_wri) (.int x_mm_writes) (.int x_mm_room)))), (h_wri, .inl (cy_wri, 1000, .inl f_wri))]) [0, 1] rfl
    have hDc := hD.sub (ws' := [(h_mm, .inr (8, (mo32 v_mm (.ref h_wri) (.int x_mm_writes) (.int x_mm_room)))), (h_wri, .inl (cy_wri, 1000, .inl f_wri))]) [0, 1] (by decide) rfl
    have hKc := hK.sub (tys' := [(cy_wri, .int)]) [0] rfl
    have hFc := va_free (wc := [(h_mm, .inr (8, (mo32 v_mm (.ref h_wri) (.int x_mm_writes) (.int x_mm_room)))), (h_wri, .inl (cy_wri, 1000, .inl f_wri))]) hD hS hA [0, 1] rfl
    refine va_callv (va_runV (As := [.int z6]) (rest := []) ⟨hx, hb, hml, hown, hts⟩ (c_X11_says l dC dI s.heap.size h_mm h_wri v_mm x_mm_writes x_mm_room cy_wri f_wri z6 (by omega) (by omega)) (cwV 1 hts (gv hT w_m_X11_452 w_instanceMethod_X11_says ws_sel_X11_says w_ini_X11 w_code_X11_says) rfl rfl rfl (by decide +kernel) ⟨(Nat.le_of_ble_eq_true rfl), (Nat.le_of_ble_eq_true rfl)⟩) ⟨pre_blind, va_recv hK hP (ci := 8) (q0 := 0) rfl rfl, pre_of hPc hKc hDc hN⟩ rfl rfl hl.1 rfl (lv_room (Nat.le_of_ble_eq_true rfl)) dX11_saysName_31 ⟨(Nat.le_of_ble_eq_true rfl), (Nat.le_of_ble_eq_true rfl)⟩) hS (fun q _ h => hFc q h) hFc (fun u t H locs ht hvm hq hB hz1 hk1 hS => ?_)
    obtain ⟨z8, f9⟩ := u
    obtain ⟨hP1, hD1⟩ := hB
    rw [ht] at hP1
    obtain ⟨hP, hD⟩ := va_join (wr := []) (w1 := [(h_mm, .inr (8, (mo32 v_mm (.ref h_wri) (.int z8) (.int x_mm_room)))), (h_wri, .inl (cy_wri, 1000, .inl f9))]) hP hD [0, 1] [] rfl rfl (by decide) (by decide) hk1 hFc hP1 hD1
    have hP : va_P (dC, dI) cls [(h_mm, .inr (8, (mo32 v_mm (.ref h_wri) (.int z8) (.int x_mm_room)))), (h_wri, .inl (cy_wri, 1000, .inl f9))] H := hP
    have hD : va_D A [(h_mm, .inr (8, (mo32 v_mm (.ref h_wri) (.int z8) (.int x_mm_room)))), (h_wri, .inl (cy_wri, 1000, .inl f9))] := hD
    obtain ⟨k10, k11⟩ := hq
    have k10 : 0 ≤ ((z8)).toInt ∧ ((z8)).toInt ≤ 1000 := k10
    have k11 : ((x_mm_writes)).toInt ≤ ((z8)).toInt := k11
    refine W.widen (k := 0) (n := 0) (Nat.le_of_ble_eq_true rfl) (Nat.le_of_ble_eq_true rfl) ?_
    have w12 : 0 ≤ ((z8)).toInt ∧ ((z8)).toInt ≤ 1000 := by omega
    exact W.vret hx hb hr (fun t ht hW => ⟨⟨(z8, f9), rfl, w12, by rw [ht]; exact hP, hD⟩, hS.F ht⟩) hS.2.2 dX11_saysName_34
  · have kc2 := (not_congr (cv_le (rfl : (z1).toInt = (z1).toInt) (by decide : (0 : Int32).toInt = 0))).mp c2
    have bd9 := l_bd p1
    refine lv_aload_n hx hb dX11_saysName_8 rfl (lv_at hl 0 rfl) ?_
    refine lv_lload_n hx hb dX11_saysName_9 rfl (lv_at hl 1 rfl) ?_
    refine lv_lconst (v := 1) hx hb dX11_saysName_10 (by decide) ?_
    refine lv_lsub hx hb dX11_saysName_11 ?_
    refine lv_topl (fun z13 ez13 => ?_)
    have tz13 : (z13).toInt = (p1).toInt - 1 := by rw [ez13]; exact l_sub rfl (by decide) (by omega)
    refine lv_ldc2 (v := 27) hx hb hown (hw _ w_cl_X11_93) dX11_saysName_12 ?_
    refine lv_ldiv hx hb dX11_saysName_15 (by decide) ?_
    refine lv_topl (fun z14 ez14 => ?_)
    have tz14 : 0 ≤ (z13).toInt → (z14).toInt = (z13).toInt / 27 := fun h9 => by rw [ez14]; exact l_div rfl (by decide) (by omega)
    have hPc := hP.sub (ws' := [(h_mm, .inr (8, (mo32 v_mm (.ref h_wri) (.int x_mm_writes) (.int x_mm_room)))), (h_wri, .inl (cy_wri, 1000, .inl f_wri))]) [0, 1] rfl
    have hDc := hD.sub (ws' := [(h_mm, .inr (8, (mo32 v_mm (.ref h_wri) (.int x_mm_writes) (.int x_mm_room)))), (h_wri, .inl (cy_wri, 1000, .inl f_wri))]) [0, 1] (by decide) rfl
    have hKc := hK.sub (tys' := [(cy_wri, .int)]) [0] rfl
    have hFc := va_free (wc := [(h_mm, .inr (8, (mo32 v_mm (.ref h_wri) (.int x_mm_writes) (.int x_mm_room)))), (h_wri, .inl (cy_wri, 1000, .inl f_wri))]) hD hS hA [0, 1] rfl
    refine va_callv (va_runV (As := [.long z14]) (rest := []) ⟨hx, hb, hml, hown, hts⟩ (c_X11_saysName_11 l dC dI s.heap.size h_mm h_wri v_mm x_mm_writes x_mm_room cy_wri f_wri z14 (by omega) (by omega) (by omega)) (cwV 1 hts (gv hT w_m_X11_455 w_instanceMethod_X11_saysName ws_sel_X11_saysName w_ini_X11 w_code_X11_saysName) rfl rfl rfl (by decide +kernel) ⟨(Nat.le_of_ble_eq_true rfl), (Nat.le_of_ble_eq_true rfl)⟩) ⟨pre_blind, va_recv hK hP (ci := 8) (q0 := 0) rfl rfl, pre_of hPc hKc hDc hN⟩ rfl rfl hl.1 rfl (lv_room (Nat.le_of_ble_eq_true rfl)) dX11_saysName_16 ⟨(Nat.le_of_ble_eq_true rfl), (Nat.le_of_ble_eq_true rfl)⟩) hS (fun q _ h => hFc q h) hFc (fun u t H locs ht hvm hq hB hz1 hk1 hS => ?_)
    obtain ⟨z16, f17⟩ := u
    obtain ⟨hP1, hD1⟩ := hB
    rw [ht] at hP1
    obtain ⟨hP, hD⟩ := va_join (wr := []) (w1 := [(h_mm, .inr (8, (mo32 v_mm (.ref h_wri) (.int z16) (.int x_mm_room)))), (h_wri, .inl (cy_wri, 1000, .inl f17))]) hP hD [0, 1] [] rfl rfl (by decide) (by decide) hk1 hFc hP1 hD1
    have hP : va_P (dC, dI) cls [(h_mm, .inr (8, (mo32 v_mm (.ref h_wri) (.int z16) (.int x_mm_room)))), (h_wri, .inl (cy_wri, 1000, .inl f17))] H := hP
    have hD : va_D A [(h_mm, .inr (8, (mo32 v_mm (.ref h_wri) (.int z16) (.int x_mm_room)))), (h_wri, .inl (cy_wri, 1000, .inl f17))] := hD
    have k18 : 0 ≤ ((z16)).toInt ∧ ((z16)).toInt ≤ 1000 := hq
    refine lv_aload_n hx hb dX11_saysName_19 rfl (lv_at hl 0 rfl) ?_
    refine lv_bipush (v := 97) hx hb dX11_saysName_20 (by decide) ?_
    refine lv_lload_n hx hb dX11_saysName_22 rfl (lv_at hl 1 rfl) ?_
    refine lv_lconst (v := 1) hx hb dX11_saysName_23 (by decide) ?_
    refine lv_lsub hx hb dX11_saysName_24 ?_
    refine lv_topl (fun z19 ez19 => ?_)
    refine lv_ldc2 (v := 27) hx hb hown (hw _ w_cl_X11_93) dX11_saysName_25 ?_
    refine lv_lrem hx hb dX11_saysName_28 (by decide) ?_
    refine lv_topl (fun z20 ez20 => ?_)
    refine lv_l2i hx hb dX11_saysName_29 rfl ?_
    refine lv_topi (fun z21 ez21 => ?_)
    refine lv_iadd hx hb dX11_saysName_30 ?_
    refine lv_topi (fun z22 ez22 => ?_)
    have hPc := hP.sub (ws' := [(h_mm, .inr (8, (mo32 v_mm (.ref h_wri) (.int z16) (.int x_mm_room)))), (h_wri, .inl (cy_wri, 1000, .inl f17))]) [0, 1] rfl
    have hDc := hD.sub (ws' := [(h_mm, .inr (8, (mo32 v_mm (.ref h_wri) (.int z16) (.int x_mm_room)))), (h_wri, .inl (cy_wri, 1000, .inl f17))]) [0, 1] (by decide) rfl
    have hKc := hK.sub (tys' := [(cy_wri, .int)]) [0] rfl
    have hFc := va_free (wc := [(h_mm, .inr (8, (mo32 v_mm (.ref h_wri) (.int z16) (.int x_mm_room)))), (h_wri, .inl (cy_wri, 1000, .inl f17))]) hD hS hA [0, 1] rfl
    refine va_callv (va_runV (As := [.int z22]) (rest := []) ⟨hx, hb, hml, hown, hts⟩ (c_X11_says l dC dI H.size h_mm h_wri v_mm z16 x_mm_room cy_wri f17 z22 (by omega) (by omega)) (cwV 1 hts (gv hT w_m_X11_452 w_instanceMethod_X11_says ws_sel_X11_says w_ini_X11 w_code_X11_says) rfl rfl rfl (by decide +kernel) ⟨(Nat.le_of_ble_eq_true rfl), (Nat.le_of_ble_eq_true rfl)⟩) ⟨pre_blind, va_recv hK hP (ci := 8) (q0 := 0) rfl rfl, pre_of hPc hKc hDc hN⟩ rfl rfl hl.1 rfl (lv_room (Nat.le_of_ble_eq_true rfl)) dX11_saysName_31 ⟨(Nat.le_of_ble_eq_true rfl), (Nat.le_of_ble_eq_true rfl)⟩) hS (fun q _ h => hFc q h) hFc (fun u t H locs ht hvm hq hB hz1 hk1 hS => ?_)
    obtain ⟨z24, f25⟩ := u
    obtain ⟨hP1, hD1⟩ := hB
    rw [ht] at hP1
    obtain ⟨hP, hD⟩ := va_join (wr := []) (w1 := [(h_mm, .inr (8, (mo32 v_mm (.ref h_wri) (.int z24) (.int x_mm_room)))), (h_wri, .inl (cy_wri, 1000, .inl f25))]) hP hD [0, 1] [] rfl rfl (by decide) (by decide) hk1 hFc hP1 hD1
    have hP : va_P (dC, dI) cls [(h_mm, .inr (8, (mo32 v_mm (.ref h_wri) (.int z24) (.int x_mm_room)))), (h_wri, .inl (cy_wri, 1000, .inl f25))] H := hP
    have hD : va_D A [(h_mm, .inr (8, (mo32 v_mm (.ref h_wri) (.int z24) (.int x_mm_room)))), (h_wri, .inl (cy_wri, 1000, .inl f25))] := hD
    obtain ⟨k26, k27⟩ := hq
    have k26 : 0 ≤ ((z24)).toInt ∧ ((z24)).toInt ≤ 1000 := k26
    have k27 : ((z16)).toInt ≤ ((z24)).toInt := k27
    refine W.widen (k := 0) (n := 0) (Nat.le_of_ble_eq_true rfl) (Nat.le_of_ble_eq_true rfl) ?_
    have w28 : 0 ≤ ((z24)).toInt ∧ ((z24)).toInt ≤ 1000 := by omega
    exact W.vret hx hb hr (fun t ht hW => ⟨⟨(z24, f25), rfl, w28, by rw [ht]; exact hP, hD⟩, hS.F ht⟩) hS.2.2 dX11_saysName_34

set_option maxHeartbeats 8000000 in
set_option maxRecDepth 100000 in
theorem c_X11_saysName_13 (l : Launch) (dC : Nat → ClassId) (dI : Nat → Nat → Nat) (sz : Nat) (h_mm : Nat) (h_wri : Nat) (v_mm : Nat → Value) (x_mm_writes : Int32) (x_mm_room : Int32) (cy_wri : ClassId) (f_wri : Nat → Int32) (p1 : Int64) (hx_mm_writes : 0 ≤ (x_mm_writes).toInt ∧ (x_mm_writes).toInt ≤ 1000) (hx_mm_room : 0 ≤ (x_mm_room).toInt ∧ (x_mm_room).toInt ≤ 998) : Met l yX11_saysName (Ws yX11_saysName cX11_saysName 3 none) (({ frames := 14, cells := 0, slots := 0, locals := 307 } : Room)) (PRE (dC, dI) cls [(cy_wri, .int)] [(h_mm, .inr (8, (mo32 v_mm (.ref h_wri) (.int x_mm_writes) (.int x_mm_room)))), (h_wri, .inl (cy_wri, 1000, .inl f_wri))] sz [.ref h_mm, .long p1]) (va_Qv (fun (u : (Int32) × (Nat → Int32)) => (0 ≤ (u.1).toInt ∧ (u.1).toInt ≤ 1000)) (fun (u : (Int32) × (Nat → Int32)) (t : State) => va_P (dC, dI) cls [(h_mm, .inr (8, (mo32 v_mm (.ref h_wri) (.int u.1) (.int x_mm_room)))), (h_wri, .inl (cy_wri, 1000, .inl u.2))] t.heap ∧ va_D (va_A [(h_mm, .inr (8, (mo32 v_mm (.ref h_wri) (.int x_mm_writes) (.int x_mm_room)))), (h_wri, .inl (cy_wri, 1000, .inl f_wri))] sz) [(h_mm, .inr (8, (mo32 v_mm (.ref h_wri) (.int u.1) (.int x_mm_room)))), (h_wri, .inl (cy_wri, 1000, .inl u.2))]) (va_A [(h_mm, .inr (8, (mo32 v_mm (.ref h_wri) (.int x_mm_writes) (.int x_mm_room)))), (h_wri, .inl (cy_wri, 1000, .inl f_wri))] sz)) 0 0 (va_A [(h_mm, .inr (8, (mo32 v_mm (.ref h_wri) (.int x_mm_writes) (.int x_mm_room)))), (h_wri, .inl (cy_wri, 1000, .inl f_wri))] sz) := by
  refine Met.ofW (cc := cX11_saysName) (maxL := 3) (ret := none) (by decide) rfl ?_
  intro p e s m args below meth c s₁ B hml hv
  obtain ⟨rfl, hsz, hP, hK, hD0, hN⟩ := hv
  have hx := B.exec
  have hb := B.bytes
  have hr := B.returns
  have hts := atoms_spec (ws := Ws yX11_saysName cX11_saysName 3 none) B.pre
  have hT : ∀ w ∈ WALL, w ∈ Ws yX11_saysName cX11_saysName 3 none := fun w h => List.mem_cons_of_mem _ h
  have hw := fun w (h : w ∈ WALL) => hts w (hT w h)
  have hown : s.vm.findClass RX11 = some m.cls := findClass_of_methodNamed B.named
  have hlocks := B.notSynchronized
  subst hsz
  have hD := hD0.self (sz := s.heap.size)
  generalize hAe : va_A [(h_mm, .inr (8, (mo32 v_mm (.ref h_wri) (.int x_mm_writes) (.int x_mm_room)))), (h_wri, .inl (cy_wri, 1000, .inl f_wri))] s.heap.size = A at hD ⊢
  have hA : ∀ q : Nat, s.heap.size ≤ q → A q := fun q h => by rw [← hAe]; exact Or.inr h
  have hS : va_S A s.heap s.heap [] := va_S.rf
  have hl := lv_entry ([.ref h_mm, .long p1]) (n := 3) (Nat.le_of_ble_eq_true rfl)
  rw [lg_entry_eq]
  generalize (lg_sl ([.ref h_mm, .long p1]) ++ List.replicate (3 - (lg_sl ([.ref h_mm, .long p1])).length) Slot.unset).toArray = ls at hl ⊢
  have hl : lv_has ls 3 [(0, .ref h_mm), (1, .long p1)] := hl
  refine lv_lload_n hx hb dX11_saysName_0 rfl (lv_at hl 1 rfl) ?_
  refine lv_ldc2 (v := 27) hx hb hown (hw _ w_cl_X11_93) dX11_saysName_1 ?_
  refine W.lcmp hx hb dX11_saysName_4 ?_
  refine lv_topi (fun z1 ez1 => ?_)
  have gz1 := lgc p1 27
  rw [← ez1] at gz1
  have : (27 : Int64).toInt = 27 := by decide
  refine lv_if_le (tgt := 19) hx hb dX11_saysName_5 (by decide) (fun c2 => ?_) (fun c2 => ?_)
  · have kc2 := (cv_le (rfl : (z1).toInt = (z1).toInt) (by decide : (0 : Int32).toInt = 0)).mp c2
    refine lv_aload_n hx hb dX11_saysName_19 rfl (lv_at hl 0 rfl) ?_
    refine lv_bipush (v := 97) hx hb dX11_saysName_20 (by decide) ?_
    refine lv_lload_n hx hb dX11_saysName_22 rfl (lv_at hl 1 rfl) ?_
    refine lv_lconst (v := 1) hx hb dX11_saysName_23 (by decide) ?_
    refine lv_lsub hx hb dX11_saysName_24 ?_
    refine lv_topl (fun z3 ez3 => ?_)
    refine lv_ldc2 (v := 27) hx hb hown (hw _ w_cl_X11_93) dX11_saysName_25 ?_
    refine lv_lrem hx hb dX11_saysName_28 (by decide) ?_
    refine lv_topl (fun z4 ez4 => ?_)
    refine lv_l2i hx hb dX11_saysName_29 rfl ?_
    refine lv_topi (fun z5 ez5 => ?_)
    refine lv_iadd hx hb dX11_saysName_30 ?_
    refine lv_topi (fun z6 ez6 => ?_)
    have hPc := hP.sub (ws' := [(h_mm, .inr (8, (mo32 v_mm (.ref h_wri) (.int x_mm_writes) (.int x_mm_room)))), (h_wri, .inl (cy_wri, 1000, .inl f_wri))]) [0, 1] rfl
    have hDc := hD.sub (ws' := [(h_mm, .inr (8, (mo32 v_mm (.ref h_wri) (.int x_mm_writes) (.int x_mm_room)))), (h_wri, .inl (cy_wri, 1000, .inl f_wri))]) [0, 1] (by decide) rfl
    have hKc := hK.sub (tys' := [(cy_wri, .int)]) [0] rfl
    have hFc := va_free (wc := [(h_mm, .inr (8, (mo32 v_mm (.ref h_wri) (.int x_mm_writes) (.int x_mm_room)))), (h_wri, .inl (cy_wri, 1000, .inl f_wri))]) hD hS hA [0, 1] rfl
    refine va_callv (va_runV (As := [.int z6]) (rest := []) ⟨hx, hb, hml, hown, hts⟩ (c_X11_says l dC dI s.heap.size h_mm h_wri v_mm x_mm_writes x_mm_room cy_wri f_wri z6 (by omega) (by omega)) (cwV 1 hts (gv hT w_m_X11_452 w_instanceMethod_X11_says ws_sel_X11_says w_ini_X11 w_code_X11_says) rfl rfl rfl (by decide +kernel) ⟨(Nat.le_of_ble_eq_true rfl), (Nat.le_of_ble_eq_true rfl)⟩) ⟨pre_blind, va_recv hK hP (ci := 8) (q0 := 0) rfl rfl, pre_of hPc hKc hDc hN⟩ rfl rfl hl.1 rfl (lv_room (Nat.le_of_ble_eq_true rfl)) dX11_saysName_31 ⟨(Nat.le_of_ble_eq_true rfl), (Nat.le_of_ble_eq_true rfl)⟩) hS (fun q _ h => hFc q h) hFc (fun u t H locs ht hvm hq hB hz1 hk1 hS => ?_)
    obtain ⟨z8, f9⟩ := u
    obtain ⟨hP1, hD1⟩ := hB
    rw [ht] at hP1
    obtain ⟨hP, hD⟩ := va_join (wr := []) (w1 := [(h_mm, .inr (8, (mo32 v_mm (.ref h_wri) (.int z8) (.int x_mm_room)))), (h_wri, .inl (cy_wri, 1000, .inl f9))]) hP hD [0, 1] [] rfl rfl (by decide) (by decide) hk1 hFc hP1 hD1
    have hP : va_P (dC, dI) cls [(h_mm, .inr (8, (mo32 v_mm (.ref h_wri) (.int z8) (.int x_mm_room)))), (h_wri, .inl (cy_wri, 1000, .inl f9))] H := hP
    have hD : va_D A [(h_mm, .inr (8, (mo32 v_mm (.ref h_wri) (.int z8) (.int x_mm_room)))), (h_wri, .inl (cy_wri, 1000, .inl f9))] := hD
    obtain ⟨k10, k11⟩ := hq
    have k10 : 0 ≤ ((z8)).toInt ∧ ((z8)).toInt ≤ 1000 := k10
    have k11 : ((x_mm_writes)).toInt ≤ ((z8)).toInt := k11
    refine W.widen (k := 0) (n := 0) (Nat.le_of_ble_eq_true rfl) (Nat.le_of_ble_eq_true rfl) ?_
    have w12 : 0 ≤ ((z8)).toInt ∧ ((z8)).toInt ≤ 1000 := by omega
    exact W.vret hx hb hr (fun t ht hW => ⟨⟨(z8, f9), rfl, w12, by rw [ht]; exact hP, hD⟩, hS.F ht⟩) hS.2.2 dX11_saysName_34
  · have kc2 := (not_congr (cv_le (rfl : (z1).toInt = (z1).toInt) (by decide : (0 : Int32).toInt = 0))).mp c2
    have bd9 := l_bd p1
    refine lv_aload_n hx hb dX11_saysName_8 rfl (lv_at hl 0 rfl) ?_
    refine lv_lload_n hx hb dX11_saysName_9 rfl (lv_at hl 1 rfl) ?_
    refine lv_lconst (v := 1) hx hb dX11_saysName_10 (by decide) ?_
    refine lv_lsub hx hb dX11_saysName_11 ?_
    refine lv_topl (fun z13 ez13 => ?_)
    have tz13 : (z13).toInt = (p1).toInt - 1 := by rw [ez13]; exact l_sub rfl (by decide) (by omega)
    refine lv_ldc2 (v := 27) hx hb hown (hw _ w_cl_X11_93) dX11_saysName_12 ?_
    refine lv_ldiv hx hb dX11_saysName_15 (by decide) ?_
    refine lv_topl (fun z14 ez14 => ?_)
    have tz14 : 0 ≤ (z13).toInt → (z14).toInt = (z13).toInt / 27 := fun h9 => by rw [ez14]; exact l_div rfl (by decide) (by omega)
    have hPc := hP.sub (ws' := [(h_mm, .inr (8, (mo32 v_mm (.ref h_wri) (.int x_mm_writes) (.int x_mm_room)))), (h_wri, .inl (cy_wri, 1000, .inl f_wri))]) [0, 1] rfl
    have hDc := hD.sub (ws' := [(h_mm, .inr (8, (mo32 v_mm (.ref h_wri) (.int x_mm_writes) (.int x_mm_room)))), (h_wri, .inl (cy_wri, 1000, .inl f_wri))]) [0, 1] (by decide) rfl
    have hKc := hK.sub (tys' := [(cy_wri, .int)]) [0] rfl
    have hFc := va_free (wc := [(h_mm, .inr (8, (mo32 v_mm (.ref h_wri) (.int x_mm_writes) (.int x_mm_room)))), (h_wri, .inl (cy_wri, 1000, .inl f_wri))]) hD hS hA [0, 1] rfl
    refine va_callv (va_runV (As := [.long z14]) (rest := []) ⟨hx, hb, hml, hown, hts⟩ (c_X11_saysName_12 l dC dI s.heap.size h_mm h_wri v_mm x_mm_writes x_mm_room cy_wri f_wri z14 (by omega) (by omega) (by omega)) (cwV 1 hts (gv hT w_m_X11_455 w_instanceMethod_X11_saysName ws_sel_X11_saysName w_ini_X11 w_code_X11_saysName) rfl rfl rfl (by decide +kernel) ⟨(Nat.le_of_ble_eq_true rfl), (Nat.le_of_ble_eq_true rfl)⟩) ⟨pre_blind, va_recv hK hP (ci := 8) (q0 := 0) rfl rfl, pre_of hPc hKc hDc hN⟩ rfl rfl hl.1 rfl (lv_room (Nat.le_of_ble_eq_true rfl)) dX11_saysName_16 ⟨(Nat.le_of_ble_eq_true rfl), (Nat.le_of_ble_eq_true rfl)⟩) hS (fun q _ h => hFc q h) hFc (fun u t H locs ht hvm hq hB hz1 hk1 hS => ?_)
    obtain ⟨z16, f17⟩ := u
    obtain ⟨hP1, hD1⟩ := hB
    rw [ht] at hP1
    obtain ⟨hP, hD⟩ := va_join (wr := []) (w1 := [(h_mm, .inr (8, (mo32 v_mm (.ref h_wri) (.int z16) (.int x_mm_room)))), (h_wri, .inl (cy_wri, 1000, .inl f17))]) hP hD [0, 1] [] rfl rfl (by decide) (by decide) hk1 hFc hP1 hD1
    have hP : va_P (dC, dI) cls [(h_mm, .inr (8, (mo32 v_mm (.ref h_wri) (.int z16) (.int x_mm_room)))), (h_wri, .inl (cy_wri, 1000, .inl f17))] H := hP
    have hD : va_D A [(h_mm, .inr (8, (mo32 v_mm (.ref h_wri) (.int z16) (.int x_mm_room)))), (h_wri, .inl (cy_wri, 1000, .inl f17))] := hD
    have k18 : 0 ≤ ((z16)).toInt ∧ ((z16)).toInt ≤ 1000 := hq
    refine lv_aload_n hx hb dX11_saysName_19 rfl (lv_at hl 0 rfl) ?_
    refine lv_bipush (v := 97) hx hb dX11_saysName_20 (by decide) ?_
    refine lv_lload_n hx hb dX11_saysName_22 rfl (lv_at hl 1 rfl) ?_
    refine lv_lconst (v := 1) hx hb dX11_saysName_23 (by decide) ?_
    refine lv_lsub hx hb dX11_saysName_24 ?_
    refine lv_topl (fun z19 ez19 => ?_)
    refine lv_ldc2 (v := 27) hx hb hown (hw _ w_cl_X11_93) dX11_saysName_25 ?_
    refine lv_lrem hx hb dX11_saysName_28 (by decide) ?_
    refine lv_topl (fun z20 ez20 => ?_)
    refine lv_l2i hx hb dX11_saysName_29 rfl ?_
    refine lv_topi (fun z21 ez21 => ?_)
    refine lv_iadd hx hb dX11_saysName_30 ?_
    refine lv_topi (fun z22 ez22 => ?_)
    have hPc := hP.sub (ws' := [(h_mm, .inr (8, (mo32 v_mm (.ref h_wri) (.int z16) (.int x_mm_room)))), (h_wri, .inl (cy_wri, 1000, .inl f17))]) [0, 1] rfl
    have hDc := hD.sub (ws' := [(h_mm, .inr (8, (mo32 v_mm (.ref h_wri) (.int z16) (.int x_mm_room)))), (h_wri, .inl (cy_wri, 1000, .inl f17))]) [0, 1] (by decide) rfl
    have hKc := hK.sub (tys' := [(cy_wri, .int)]) [0] rfl
    have hFc := va_free (wc := [(h_mm, .inr (8, (mo32 v_mm (.ref h_wri) (.int z16) (.int x_mm_room)))), (h_wri, .inl (cy_wri, 1000, .inl f17))]) hD hS hA [0, 1] rfl
    refine va_callv (va_runV (As := [.int z22]) (rest := []) ⟨hx, hb, hml, hown, hts⟩ (c_X11_says l dC dI H.size h_mm h_wri v_mm z16 x_mm_room cy_wri f17 z22 (by omega) (by omega)) (cwV 1 hts (gv hT w_m_X11_452 w_instanceMethod_X11_says ws_sel_X11_says w_ini_X11 w_code_X11_says) rfl rfl rfl (by decide +kernel) ⟨(Nat.le_of_ble_eq_true rfl), (Nat.le_of_ble_eq_true rfl)⟩) ⟨pre_blind, va_recv hK hP (ci := 8) (q0 := 0) rfl rfl, pre_of hPc hKc hDc hN⟩ rfl rfl hl.1 rfl (lv_room (Nat.le_of_ble_eq_true rfl)) dX11_saysName_31 ⟨(Nat.le_of_ble_eq_true rfl), (Nat.le_of_ble_eq_true rfl)⟩) hS (fun q _ h => hFc q h) hFc (fun u t H locs ht hvm hq hB hz1 hk1 hS => ?_)
    obtain ⟨z24, f25⟩ := u
    obtain ⟨hP1, hD1⟩ := hB
    rw [ht] at hP1
    obtain ⟨hP, hD⟩ := va_join (wr := []) (w1 := [(h_mm, .inr (8, (mo32 v_mm (.ref h_wri) (.int z24) (.int x_mm_room)))), (h_wri, .inl (cy_wri, 1000, .inl f25))]) hP hD [0, 1] [] rfl rfl (by decide) (by decide) hk1 hFc hP1 hD1
    have hP : va_P (dC, dI) cls [(h_mm, .inr (8, (mo32 v_mm (.ref h_wri) (.int z24) (.int x_mm_room)))), (h_wri, .inl (cy_wri, 1000, .inl f25))] H := hP
    have hD : va_D A [(h_mm, .inr (8, (mo32 v_mm (.ref h_wri) (.int z24) (.int x_mm_room)))), (h_wri, .inl (cy_wri, 1000, .inl f25))] := hD
    obtain ⟨k26, k27⟩ := hq
    have k26 : 0 ≤ ((z24)).toInt ∧ ((z24)).toInt ≤ 1000 := k26
    have k27 : ((z16)).toInt ≤ ((z24)).toInt := k27
    refine W.widen (k := 0) (n := 0) (Nat.le_of_ble_eq_true rfl) (Nat.le_of_ble_eq_true rfl) ?_
    have w28 : 0 ≤ ((z24)).toInt ∧ ((z24)).toInt ≤ 1000 := by omega
    exact W.vret hx hb hr (fun t ht hW => ⟨⟨(z24, f25), rfl, w28, by rw [ht]; exact hP, hD⟩, hS.F ht⟩) hS.2.2 dX11_saysName_34

def K_X11_saysTerm_0 (l : Launch) (fu : Nat) : Prop := ∀ (dC : Nat → ClassId) (dI : Nat → Nat → Nat) (sz : Nat) (h_mm : Nat) (h_wri : Nat) (h_let : Nat) (h_nv : Nat) (h_nn : Nat) (h_na : Nat) (h_nb : Nat) (h_nc : Nat) (v_mm : Nat → Value) (x_mm_writes : Int32) (x_mm_room : Int32) (cy_wri : ClassId) (f_wri : Nat → Int32) (cy_let : ClassId) (f_let : Nat → Int32) (cy_nv : ClassId) (f_nv : Nat → Int32) (cy_nn : ClassId) (f_nn : Nat → Int64) (cy_na : ClassId) (f_na : Nat → Int32) (cy_nb : ClassId) (f_nb : Nat → Int32) (cy_nc : ClassId) (f_nc : Nat → Int32) (p1 : Int32) (p3 : Int32) (N : Int) (hz : Nat → Nat) (hx_mm_writes : 0 ≤ (x_mm_writes).toInt ∧ (x_mm_writes).toInt ≤ 1000) (hx_mm_room : 0 ≤ (x_mm_room).toInt ∧ (x_mm_room).toInt ≤ 998) (hf_nv : Rg (-1) 7 f_nv) (hf_na : Rg (-1) 7999 f_na) (hf_nb : Rg (-1) 7999 f_nb) (hf_nc : Rg (-1) 7999 f_nc) (q0 : 0 ≤ (p1).toInt ∧ (p1).toInt < N) (q1 : N ≤ 8000) (q2 : 0 ≤ (p3).toInt ∧ (p3).toInt ≤ 15) (q3 : hz (p1).toInt.toNat + 1 ≤ fu) (hn_nds : ND 0 N hz f_na f_nb f_nc), Met l yX11_saysTerm (Ws yX11_saysTerm cX11_saysTerm 7 none) (({ frames := fu + 15, cells := 0, slots := 0, locals := 26 * fu + 329 } : Room)) (PRE (dC, dI) cls [(cy_wri, .int), (cy_let, .int), (cy_nv, .int), (cy_nn, .long), (cy_na, .int), (cy_nb, .int), (cy_nc, .int)] [(h_mm, .inr (8, (mo72 v_mm (.ref h_nv) (.ref h_nn) (.ref h_na) (.ref h_nb) (.ref h_nc) (.ref h_let) (.ref h_wri) (.int x_mm_writes) (.int x_mm_room)))), (h_wri, .inl (cy_wri, 1000, .inl f_wri)), (h_let, .inl (cy_let, 256, .inl f_let)), (h_nv, .inl (cy_nv, 8000, .inl f_nv)), (h_nn, .inl (cy_nn, 8000, .inr (.inl f_nn))), (h_na, .inl (cy_na, 8000, .inl f_na)), (h_nb, .inl (cy_nb, 8000, .inl f_nb)), (h_nc, .inl (cy_nc, 8000, .inl f_nc))] sz [.ref h_mm, .int p1, .int (-1), .int p3]) (va_Qv (fun (u : (Int32) × (Nat → Int32)) => (0 ≤ (u.1).toInt ∧ (u.1).toInt ≤ 1000)) (fun (u : (Int32) × (Nat → Int32)) (t : State) => va_P (dC, dI) cls [(h_mm, .inr (8, (mo72 v_mm (.ref h_nv) (.ref h_nn) (.ref h_na) (.ref h_nb) (.ref h_nc) (.ref h_let) (.ref h_wri) (.int u.1) (.int x_mm_room)))), (h_wri, .inl (cy_wri, 1000, .inl u.2)), (h_let, .inl (cy_let, 256, .inl f_let)), (h_nv, .inl (cy_nv, 8000, .inl f_nv)), (h_nn, .inl (cy_nn, 8000, .inr (.inl f_nn))), (h_na, .inl (cy_na, 8000, .inl f_na)), (h_nb, .inl (cy_nb, 8000, .inl f_nb)), (h_nc, .inl (cy_nc, 8000, .inl f_nc))] t.heap ∧ va_D (va_A [(h_mm, .inr (8, (mo72 v_mm (.ref h_nv) (.ref h_nn) (.ref h_na) (.ref h_nb) (.ref h_nc) (.ref h_let) (.ref h_wri) (.int x_mm_writes) (.int x_mm_room)))), (h_wri, .inl (cy_wri, 1000, .inl f_wri)), (h_let, .inl (cy_let, 256, .inl f_let)), (h_nv, .inl (cy_nv, 8000, .inl f_nv)), (h_nn, .inl (cy_nn, 8000, .inr (.inl f_nn))), (h_na, .inl (cy_na, 8000, .inl f_na)), (h_nb, .inl (cy_nb, 8000, .inl f_nb)), (h_nc, .inl (cy_nc, 8000, .inl f_nc))] sz) [(h_mm, .inr (8, (mo72 v_mm (.ref h_nv) (.ref h_nn) (.ref h_na) (.ref h_nb) (.ref h_nc) (.ref h_let) (.ref h_wri) (.int u.1) (.int x_mm_room)))), (h_wri, .inl (cy_wri, 1000, .inl u.2)), (h_let, .inl (cy_let, 256, .inl f_let)), (h_nv, .inl (cy_nv, 8000, .inl f_nv)), (h_nn, .inl (cy_nn, 8000, .inr (.inl f_nn))), (h_na, .inl (cy_na, 8000, .inl f_na)), (h_nb, .inl (cy_nb, 8000, .inl f_nb)), (h_nc, .inl (cy_nc, 8000, .inl f_nc))]) (va_A [(h_mm, .inr (8, (mo72 v_mm (.ref h_nv) (.ref h_nn) (.ref h_na) (.ref h_nb) (.ref h_nc) (.ref h_let) (.ref h_wri) (.int x_mm_writes) (.int x_mm_room)))), (h_wri, .inl (cy_wri, 1000, .inl f_wri)), (h_let, .inl (cy_let, 256, .inl f_let)), (h_nv, .inl (cy_nv, 8000, .inl f_nv)), (h_nn, .inl (cy_nn, 8000, .inr (.inl f_nn))), (h_na, .inl (cy_na, 8000, .inl f_na)), (h_nb, .inl (cy_nb, 8000, .inl f_nb)), (h_nc, .inl (cy_nc, 8000, .inl f_nc))] sz)) 0 0 (va_A [(h_mm, .inr (8, (mo72 v_mm (.ref h_nv) (.ref h_nn) (.ref h_na) (.ref h_nb) (.ref h_nc) (.ref h_let) (.ref h_wri) (.int x_mm_writes) (.int x_mm_room)))), (h_wri, .inl (cy_wri, 1000, .inl f_wri)), (h_let, .inl (cy_let, 256, .inl f_let)), (h_nv, .inl (cy_nv, 8000, .inl f_nv)), (h_nn, .inl (cy_nn, 8000, .inr (.inl f_nn))), (h_na, .inl (cy_na, 8000, .inl f_na)), (h_nb, .inl (cy_nb, 8000, .inl f_nb)), (h_nc, .inl (cy_nc, 8000, .inl f_nc))] sz)
set_option maxHeartbeats 8000000 in
set_option maxRecDepth 100000 in
theorem c_X11_saysTerm_0 (l : Launch) (fu : Nat) : K_X11_saysTerm_0 l fu := by
  refine Nat.rec (motive := fun fu => K_X11_saysTerm_0 l fu) ?_ ?_ fu
  · intro dC dI sz h_mm h_wri h_let h_nv h_nn h_na h_nb h_nc v_mm x_mm_writes x_mm_room cy_wri f_wri cy_let f_let cy_nv f_nv cy_nn f_nn cy_na f_na cy_nb f_nb cy_nc f_nc p1 p3 N hz hx_mm_writes hx_mm_room hf_nv hf_na hf_nb hf_nc q0 q1 q2 q3 hn_nds
    have h09 : Nat.zero = 0 := rfl
    exact False.elim (by omega)
  intro fu ihf
  intro dC dI sz h_mm h_wri h_let h_nv h_nn h_na h_nb h_nc v_mm x_mm_writes x_mm_room cy_wri f_wri cy_let f_let cy_nv f_nv cy_nn f_nn cy_na f_na cy_nb f_nb cy_nc f_nc p1 p3 N hz hx_mm_writes hx_mm_room hf_nv hf_na hf_nb hf_nc q0 q1 q2 q3 hn_nds
  refine Met.ofW (cc := cX11_saysTerm) (maxL := 7) (ret := none) (by decide) rfl ?_
  intro p e s m args below meth c s₁ B hml hv
  obtain ⟨rfl, hsz, hP, hK, hD0, hN⟩ := hv
  have hx := B.exec
  have hb := B.bytes
  have hr := B.returns
  have hts := atoms_spec (ws := Ws yX11_saysTerm cX11_saysTerm 7 none) B.pre
  have hT : ∀ w ∈ WALL, w ∈ Ws yX11_saysTerm cX11_saysTerm 7 none := fun w h => List.mem_cons_of_mem _ h
  have hw := fun w (h : w ∈ WALL) => hts w (hT w h)
  have hown : s.vm.findClass RX11 = some m.cls := findClass_of_methodNamed B.named
  have hlocks := B.notSynchronized
  subst hsz
  have hD := hD0.self (sz := s.heap.size)
  generalize hAe : va_A [(h_mm, .inr (8, (mo72 v_mm (.ref h_nv) (.ref h_nn) (.ref h_na) (.ref h_nb) (.ref h_nc) (.ref h_let) (.ref h_wri) (.int x_mm_writes) (.int x_mm_room)))), (h_wri, .inl (cy_wri, 1000, .inl f_wri)), (h_let, .inl (cy_let, 256, .inl f_let)), (h_nv, .inl (cy_nv, 8000, .inl f_nv)), (h_nn, .inl (cy_nn, 8000, .inr (.inl f_nn))), (h_na, .inl (cy_na, 8000, .inl f_na)), (h_nb, .inl (cy_nb, 8000, .inl f_nb)), (h_nc, .inl (cy_nc, 8000, .inl f_nc))] s.heap.size = A at hD ⊢
  have hA : ∀ q : Nat, s.heap.size ≤ q → A q := fun q h => by rw [← hAe]; exact Or.inr h
  have hS : va_S A s.heap s.heap [] := va_S.rf
  have hl := lv_entry ([.ref h_mm, .int p1, .int (-1), .int p3]) (n := 7) (Nat.le_of_ble_eq_true rfl)
  rw [lg_entry_eq]
  generalize (lg_sl ([.ref h_mm, .int p1, .int (-1), .int p3]) ++ List.replicate (7 - (lg_sl ([.ref h_mm, .int p1, .int (-1), .int p3])).length) Slot.unset).toArray = ls at hl ⊢
  have hl : lv_has ls 7 [(0, .ref h_mm), (1, .int p1), (2, .int (-1)), (3, .int p3)] := hl
  refine lv_aload_n hx hb dX11_saysTerm_0 rfl (lv_at hl 0 rfl) ?_
  refine va_get (D := (dC, dI)) (ci := 8) (v := .int x_mm_writes) (C := RX11) (T := TX11) (N := 71) hx hb hw iwX11 hown hK hP 0 rfl rfl 65 (by decide) (hw _ w_f_X11_443) (fun _ h9 => h9) rfl dX11_saysTerm_1 ?_
  refine lv_aload_n hx hb dX11_saysTerm_4 rfl (lv_at hl 0 rfl) ?_
  refine va_get (D := (dC, dI)) (ci := 8) (v := .int x_mm_room) (C := RX11) (T := TX11) (N := 71) hx hb hw iwX11 hown hK hP 0 rfl rfl 66 (by decide) (hw _ w_f_X11_446) (fun _ h9 => h9) rfl dX11_saysTerm_5 ?_
  refine lv_icmp_le (tgt := 12) hx hb dX11_saysTerm_8 (by decide) (fun c1 => ?_) (fun c1 => ?_)
  · have kc1 := (cv_le (rfl : (x_mm_writes).toInt = (x_mm_writes).toInt) (rfl : (x_mm_room).toInt = (x_mm_room).toInt)).mp c1
    refine lv_iload_n hx hb dX11_saysTerm_12 rfl (lv_at hl 1 rfl) ?_
    refine lv_istore (lv' := [(4, .int p1), (0, .ref h_mm), (1, .int p1), (2, .int (-1)), (3, .int p3)]) hx hb dX11_saysTerm_13 hl (by decide) rfl (fun ls hl => ?_)
    refine lv_iload_n hx hb dX11_saysTerm_15 rfl (lv_at hl 3 rfl) ?_
    refine lv_istore (lv' := [(5, .int (-1)), (4, .int p1), (0, .ref h_mm), (1, .int p1), (2, .int (-1)), (3, .int p3)]) hx hb dX11_saysTerm_16 hl (by decide) rfl (fun ls hl => ?_)
    refine lv_iload_n hx hb dX11_saysTerm_18 rfl (lv_at hl 4 rfl) ?_
    refine lv_iconst (v := (-1)) hx hb dX11_saysTerm_19 (by decide) ?_
    refine lv_icmp_eq (tgt := 41) hx hb dX11_saysTerm_20 (by decide) (fun _ => ?_) (fun c9 => absurd c9 (by decide))
    refine lv_aload_n hx hb dX11_saysTerm_41 rfl (lv_at hl 2 rfl) ?_
    refine va_get (D := (dC, dI)) (ci := 8) (v := .ref h_nv) (C := RX11) (T := TX11) (N := 71) hx hb hw iwX11 hown hK hP 0 rfl rfl 1 (by decide) (hw _ w_f_X11_17) (fun _ h9 => h9) rfl dX11_saysTerm_42 ?_
    refine lv_iload hx hb dX11_saysTerm_45 (lv_at hl 1 rfl) ?_
    refine va_iald hx hb hK hP 3 2 rfl rfl (i := p1) (vp_in_iff.mpr (by omega)) dX11_saysTerm_47 ?_
    refine lv_topi (fun z2 ez2 => ?_)
    have rz2 : -1 ≤ (z2).toInt ∧ (z2).toInt ≤ 7 := by rw [ez2]; exact hf_nv _
    refine lv_iconst (v := (-1)) hx hb dX11_saysTerm_48 (by decide) ?_
    refine lv_icmp_eq (tgt := 102) hx hb dX11_saysTerm_49 (by decide) (fun c3 => ?_) (fun c3 => ?_)
    · have kc3 := (cv_eq (rfl : (z2).toInt = (z2).toInt) (by decide : ((-1) : Int32).toInt = -1)).mp c3
      refine lv_aload_n hx hb dX11_saysTerm_102 rfl (lv_at hl 2 rfl) ?_
      refine lv_aload_n hx hb dX11_saysTerm_103 rfl (lv_at hl 2 rfl) ?_
      refine va_get (D := (dC, dI)) (ci := 8) (v := .ref h_nn) (C := RX11) (T := TX11) (N := 71) hx hb hw iwX11 hown hK hP 0 rfl rfl 2 (by decide) (hw _ w_f_X11_23) (fun _ h9 => h9) rfl dX11_saysTerm_104 ?_
      refine lv_iload hx hb dX11_saysTerm_107 (lv_at hl 1 rfl) ?_
      refine va_lald hx hb hK hP 4 3 rfl rfl (i := p1) (vp_in_iff.mpr (by omega)) dX11_saysTerm_109 ?_
      refine lv_topl (fun z4 ez4 => ?_)
      have hPc := hP.sub (ws' := [(h_mm, .inr (8, (mo72 v_mm (.ref h_nv) (.ref h_nn) (.ref h_na) (.ref h_nb) (.ref h_nc) (.ref h_let) (.ref h_wri) (.int x_mm_writes) (.int x_mm_room)))), (h_wri, .inl (cy_wri, 1000, .inl f_wri))]) [0, 1] rfl
      have hDc := hD.sub (ws' := [(h_mm, .inr (8, (mo72 v_mm (.ref h_nv) (.ref h_nn) (.ref h_na) (.ref h_nb) (.ref h_nc) (.ref h_let) (.ref h_wri) (.int x_mm_writes) (.int x_mm_room)))), (h_wri, .inl (cy_wri, 1000, .inl f_wri))]) [0, 1] (by decide) rfl
      have hKc := hK.sub (tys' := [(cy_wri, .int)]) [0] rfl
      have hFc := va_free (wc := [(h_mm, .inr (8, (mo72 v_mm (.ref h_nv) (.ref h_nn) (.ref h_na) (.ref h_nb) (.ref h_nc) (.ref h_let) (.ref h_wri) (.int x_mm_writes) (.int x_mm_room)))), (h_wri, .inl (cy_wri, 1000, .inl f_wri))]) hD hS hA [0, 1] rfl
      refine va_callv (va_runV (As := [.long z4]) (rest := []) ⟨hx, hb, hml, hown, hts⟩ (c_X11_saysName_13 l dC dI s.heap.size h_mm h_wri (fun k => List.getD (mo72 v_mm (.ref h_nv) (.ref h_nn) (.ref h_na) (.ref h_nb) (.ref h_nc) (.ref h_let) (.ref h_wri) (.int x_mm_writes) (.int x_mm_room)) k .null) x_mm_writes x_mm_room cy_wri f_wri z4 (by omega) (by omega)) (cwV 1 hts (gv hT w_m_X11_455 w_instanceMethod_X11_saysName ws_sel_X11_saysName w_ini_X11 w_code_X11_saysName) rfl rfl rfl (by decide +kernel) ⟨(by dsimp only [headSpec]; omega), (by dsimp only [headSpec]; omega)⟩) ⟨pre_blind, va_recv hK hP (ci := 8) (q0 := 0) rfl rfl, pre_of hPc hKc hDc hN⟩ rfl rfl hl.1 rfl (lv_room (Nat.le_of_ble_eq_true rfl)) dX11_saysTerm_110 ⟨(Nat.le_of_ble_eq_true rfl), (Nat.le_of_ble_eq_true rfl)⟩) hS (fun q _ h => hFc q h) hFc (fun u t H locs ht hvm hq hB hz1 hk1 hS => ?_)
      obtain ⟨z6, f7⟩ := u
      obtain ⟨hP1, hD1⟩ := hB
      rw [ht] at hP1
      obtain ⟨hP, hD⟩ := va_join (wr := [(h_let, .inl (cy_let, 256, .inl f_let)), (h_nv, .inl (cy_nv, 8000, .inl f_nv)), (h_nn, .inl (cy_nn, 8000, .inr (.inl f_nn))), (h_na, .inl (cy_na, 8000, .inl f_na)), (h_nb, .inl (cy_nb, 8000, .inl f_nb)), (h_nc, .inl (cy_nc, 8000, .inl f_nc))]) (w1 := [(h_mm, .inr (8, (mo72 v_mm (.ref h_nv) (.ref h_nn) (.ref h_na) (.ref h_nb) (.ref h_nc) (.ref h_let) (.ref h_wri) (.int z6) (.int x_mm_room)))), (h_wri, .inl (cy_wri, 1000, .inl f7))]) hP hD [0, 1] [2, 3, 4, 5, 6, 7] rfl rfl (by decide) (by decide) hk1 hFc hP1 hD1
      have hP : va_P (dC, dI) cls [(h_let, .inl (cy_let, 256, .inl f_let)), (h_nv, .inl (cy_nv, 8000, .inl f_nv)), (h_nn, .inl (cy_nn, 8000, .inr (.inl f_nn))), (h_na, .inl (cy_na, 8000, .inl f_na)), (h_nb, .inl (cy_nb, 8000, .inl f_nb)), (h_nc, .inl (cy_nc, 8000, .inl f_nc)), (h_mm, .inr (8, (mo72 v_mm (.ref h_nv) (.ref h_nn) (.ref h_na) (.ref h_nb) (.ref h_nc) (.ref h_let) (.ref h_wri) (.int z6) (.int x_mm_room)))), (h_wri, .inl (cy_wri, 1000, .inl f7))] H := hP
      have hD : va_D A [(h_let, .inl (cy_let, 256, .inl f_let)), (h_nv, .inl (cy_nv, 8000, .inl f_nv)), (h_nn, .inl (cy_nn, 8000, .inr (.inl f_nn))), (h_na, .inl (cy_na, 8000, .inl f_na)), (h_nb, .inl (cy_nb, 8000, .inl f_nb)), (h_nc, .inl (cy_nc, 8000, .inl f_nc)), (h_mm, .inr (8, (mo72 v_mm (.ref h_nv) (.ref h_nn) (.ref h_na) (.ref h_nb) (.ref h_nc) (.ref h_let) (.ref h_wri) (.int z6) (.int x_mm_room)))), (h_wri, .inl (cy_wri, 1000, .inl f7))] := hD
      have k8 : 0 ≤ ((z6)).toInt ∧ ((z6)).toInt ≤ 1000 := hq
      refine lv_iconst (v := 0) hx hb dX11_saysTerm_113 (by decide) ?_
      refine lv_istore (lv' := [(6, .int 0), (5, .int (-1)), (4, .int p1), (0, .ref h_mm), (1, .int p1), (2, .int (-1)), (3, .int p3)]) hx hb dX11_saysTerm_114 hl (by decide) rfl (fun ls hl => ?_)
      have lp12 : ∀ (n : Nat) (x9 : Int32) (x10 : Int32) (f11 : Nat → Int32) (H : Heap) (locs : List Loc) (ls : Array Slot), (0 ≤ (x9).toInt ∧ (x9).toInt ≤ 3) → (0 ≤ (x10).toInt ∧ (x10).toInt ≤ 1000) → (3 - (x9).toInt).toNat + 1 ≤ n → va_P (dC, dI) cls [(h_let, .inl (cy_let, 256, .inl f_let)), (h_nv, .inl (cy_nv, 8000, .inl f_nv)), (h_nn, .inl (cy_nn, 8000, .inr (.inl f_nn))), (h_na, .inl (cy_na, 8000, .inl f_na)), (h_nb, .inl (cy_nb, 8000, .inl f_nb)), (h_nc, .inl (cy_nc, 8000, .inl f_nc)), (h_mm, .inr (8, (mo72 v_mm (.ref h_nv) (.ref h_nn) (.ref h_na) (.ref h_nb) (.ref h_nc) (.ref h_let) (.ref h_wri) (.int x10) (.int x_mm_room)))), (h_wri, .inl (cy_wri, 1000, .inl f11))] H → va_D A [(h_let, .inl (cy_let, 256, .inl f_let)), (h_nv, .inl (cy_nv, 8000, .inl f_nv)), (h_nn, .inl (cy_nn, 8000, .inr (.inl f_nn))), (h_na, .inl (cy_na, 8000, .inl f_na)), (h_nb, .inl (cy_nb, 8000, .inl f_nb)), (h_nc, .inl (cy_nc, 8000, .inl f_nc)), (h_mm, .inr (8, (mo72 v_mm (.ref h_nv) (.ref h_nn) (.ref h_na) (.ref h_nb) (.ref h_nc) (.ref h_let) (.ref h_wri) (.int x10) (.int x_mm_room)))), (h_wri, .inl (cy_wri, 1000, .inl f11))] → va_S A s.heap H locs → lv_has ls 7 [(0, .ref h_mm), (1, .int p1), (2, .int (-1)), (3, .int p3), (4, .int p1), (5, .int (-1)), (6, .int x9)] → W p l e ({ frames := (fu + 1) + 15, cells := 0, slots := 0, locals := 26 * (fu + 1) + 329 } : Room) s m ([.ref h_mm, .int p1, .int (-1), .int p3] : List Value).toArray below meth c H locs 0 0 (MQ below (va_Qv (fun (u : (Int32) × (Nat → Int32)) => (0 ≤ (u.1).toInt ∧ (u.1).toInt ≤ 1000)) (fun (u : (Int32) × (Nat → Int32)) (t : State) => va_P (dC, dI) cls [(h_mm, .inr (8, (mo72 v_mm (.ref h_nv) (.ref h_nn) (.ref h_na) (.ref h_nb) (.ref h_nc) (.ref h_let) (.ref h_wri) (.int u.1) (.int x_mm_room)))), (h_wri, .inl (cy_wri, 1000, .inl u.2)), (h_let, .inl (cy_let, 256, .inl f_let)), (h_nv, .inl (cy_nv, 8000, .inl f_nv)), (h_nn, .inl (cy_nn, 8000, .inr (.inl f_nn))), (h_na, .inl (cy_na, 8000, .inl f_na)), (h_nb, .inl (cy_nb, 8000, .inl f_nb)), (h_nc, .inl (cy_nc, 8000, .inl f_nc))] t.heap ∧ va_D A [(h_mm, .inr (8, (mo72 v_mm (.ref h_nv) (.ref h_nn) (.ref h_na) (.ref h_nb) (.ref h_nc) (.ref h_let) (.ref h_wri) (.int u.1) (.int x_mm_room)))), (h_wri, .inl (cy_wri, 1000, .inl u.2)), (h_let, .inl (cy_let, 256, .inl f_let)), (h_nv, .inl (cy_nv, 8000, .inl f_nv)), (h_nn, .inl (cy_nn, 8000, .inr (.inl f_nn))), (h_na, .inl (cy_na, 8000, .inl f_na)), (h_nb, .inl (cy_nb, 8000, .inl f_nb)), (h_nc, .inl (cy_nc, 8000, .inl f_nc))]) A) ([.ref h_mm, .int p1, .int (-1), .int p3] : List Value).toArray s 0 0 A) (F0 m 116 ls []) := by
        intro n
        induction n with
        | zero => intro x9 x10 f11 H locs ls klp12_0 klp12_1 hm hP hD hS hl; exact False.elim (by omega)
        | succ n ih => 
          intro x9 x10 f11 H locs ls klp12_0 klp12_1 hm hP hD hS hl
          have ih13 := ih
          clear ih
          refine lv_iload hx hb dX11_saysTerm_116 (lv_at hl 6 rfl) ?_
          refine lv_aload_n hx hb dX11_saysTerm_118 rfl (lv_at hl 0 rfl) ?_
          refine lv_iload hx hb dX11_saysTerm_119 (lv_at hl 4 rfl) ?_
          have hPc := hP.sub (ws' := [(h_mm, .inr (8, (mo72 v_mm (.ref h_nv) (.ref h_nn) (.ref h_na) (.ref h_nb) (.ref h_nc) (.ref h_let) (.ref h_wri) (.int x10) (.int x_mm_room)))), (h_nv, .inl (cy_nv, 8000, .inl f_nv)), (h_na, .inl (cy_na, 8000, .inl f_na)), (h_nb, .inl (cy_nb, 8000, .inl f_nb)), (h_nc, .inl (cy_nc, 8000, .inl f_nc))]) [6, 1, 3, 4, 5] rfl
          have hDc := hD.sub (ws' := [(h_mm, .inr (8, (mo72 v_mm (.ref h_nv) (.ref h_nn) (.ref h_na) (.ref h_nb) (.ref h_nc) (.ref h_let) (.ref h_wri) (.int x10) (.int x_mm_room)))), (h_nv, .inl (cy_nv, 8000, .inl f_nv)), (h_na, .inl (cy_na, 8000, .inl f_na)), (h_nb, .inl (cy_nb, 8000, .inl f_nb)), (h_nc, .inl (cy_nc, 8000, .inl f_nc))]) [6, 1, 3, 4, 5] (by decide) rfl
          have hKc := hK.sub (tys' := [(cy_nv, .int), (cy_na, .int), (cy_nb, .int), (cy_nc, .int)]) [2, 4, 5, 6] rfl
          have hFc := va_free (wc := [(h_mm, .inr (8, (mo72 v_mm (.ref h_nv) (.ref h_nn) (.ref h_na) (.ref h_nb) (.ref h_nc) (.ref h_let) (.ref h_wri) (.int x10) (.int x_mm_room)))), (h_nv, .inl (cy_nv, 8000, .inl f_nv)), (h_na, .inl (cy_na, 8000, .inl f_na)), (h_nb, .inl (cy_nb, 8000, .inl f_nb)), (h_nc, .inl (cy_nc, 8000, .inl f_nc))]) hD hS hA [6, 1, 3, 4, 5] rfl
          refine va_calli (va_runV (As := [.int p1]) (rest := [.int x9]) ⟨hx, hb, hml, hown, hts⟩ (c_X11_partsAt_e l dC dI H.size h_mm h_nv h_na h_nb h_nc (fun k => List.getD (mo72 v_mm (.ref h_nv) (.ref h_nn) (.ref h_na) (.ref h_nb) (.ref h_nc) (.ref h_let) (.ref h_wri) (.int x10) (.int x_mm_room)) k .null) cy_nv f_nv cy_na f_na cy_nb f_nb cy_nc f_nc p1 hf_nv hf_na hf_nb hf_nc (by omega)) (cwV 1 hts (gv hT w_m_X11_27 w_instanceMethod_X11_partsAt ws_sel_X11_partsAt w_ini_X11 w_code_X11_partsAt) rfl rfl rfl (by decide +kernel) ⟨(by dsimp only [headSpec]; omega), (by dsimp only [headSpec]; omega)⟩) ⟨pre_blind, va_recv hK hP (ci := 8) (q0 := 6) rfl rfl, pre_of hPc hKc hDc hN⟩ rfl rfl hl.1 rfl (lv_room (Nat.le_of_ble_eq_true rfl)) dX11_saysTerm_121 ⟨(Nat.le_of_ble_eq_true rfl), (Nat.le_of_ble_eq_true rfl)⟩) hS (fun q _ h => hFc q h) hFc (fun r14 u t H locs ht hvm hq hB hz1 hk1 hS => ?_)
          obtain ⟨hP1, hD1⟩ := hB
          rw [ht] at hP1
          obtain ⟨hP, hD⟩ := va_join (wr := [(h_let, .inl (cy_let, 256, .inl f_let)), (h_nn, .inl (cy_nn, 8000, .inr (.inl f_nn))), (h_wri, .inl (cy_wri, 1000, .inl f11))]) (w1 := [(h_mm, .inr (8, (mo72 v_mm (.ref h_nv) (.ref h_nn) (.ref h_na) (.ref h_nb) (.ref h_nc) (.ref h_let) (.ref h_wri) (.int x10) (.int x_mm_room)))), (h_nv, .inl (cy_nv, 8000, .inl f_nv)), (h_na, .inl (cy_na, 8000, .inl f_na)), (h_nb, .inl (cy_nb, 8000, .inl f_nb)), (h_nc, .inl (cy_nc, 8000, .inl f_nc))]) hP hD [6, 1, 3, 4, 5] [0, 2, 7] rfl rfl (by decide) (by decide) hk1 hFc hP1 hD1
          have hP : va_P (dC, dI) cls [(h_let, .inl (cy_let, 256, .inl f_let)), (h_nn, .inl (cy_nn, 8000, .inr (.inl f_nn))), (h_wri, .inl (cy_wri, 1000, .inl f11)), (h_mm, .inr (8, (mo72 v_mm (.ref h_nv) (.ref h_nn) (.ref h_na) (.ref h_nb) (.ref h_nc) (.ref h_let) (.ref h_wri) (.int x10) (.int x_mm_room)))), (h_nv, .inl (cy_nv, 8000, .inl f_nv)), (h_na, .inl (cy_na, 8000, .inl f_na)), (h_nb, .inl (cy_nb, 8000, .inl f_nb)), (h_nc, .inl (cy_nc, 8000, .inl f_nc))] H := hP
          have hD : va_D A [(h_let, .inl (cy_let, 256, .inl f_let)), (h_nn, .inl (cy_nn, 8000, .inr (.inl f_nn))), (h_wri, .inl (cy_wri, 1000, .inl f11)), (h_mm, .inr (8, (mo72 v_mm (.ref h_nv) (.ref h_nn) (.ref h_na) (.ref h_nb) (.ref h_nc) (.ref h_let) (.ref h_wri) (.int x10) (.int x_mm_room)))), (h_nv, .inl (cy_nv, 8000, .inl f_nv)), (h_na, .inl (cy_na, 8000, .inl f_na)), (h_nb, .inl (cy_nb, 8000, .inl f_nb)), (h_nc, .inl (cy_nc, 8000, .inl f_nc))] := hD
          obtain ⟨k15, k16⟩ := hq
          have k15 : 0 ≤ (r14).toInt ∧ (r14).toInt ≤ 3 := k15
          have k16 : ((r14)).toInt = (npx f_nv f_na f_nb f_nc ((p1)).toInt.toNat) := k16
          refine lv_icmp_ge (tgt := 164) hx hb dX11_saysTerm_124 (by decide) (fun c17 => ?_) (fun c17 => ?_)
          · have kc17 := (cv_le (rfl : (r14).toInt = (r14).toInt) (rfl : (x9).toInt = (x9).toInt)).mp c17
            refine lv_aload_n hx hb dX11_saysTerm_164 rfl (lv_at hl 0 rfl) ?_
            refine lv_iload hx hb dX11_saysTerm_165 (lv_at hl 4 rfl) ?_
            have hPc := hP.sub (ws' := [(h_mm, .inr (8, (mo72 v_mm (.ref h_nv) (.ref h_nn) (.ref h_na) (.ref h_nb) (.ref h_nc) (.ref h_let) (.ref h_wri) (.int x10) (.int x_mm_room)))), (h_nv, .inl (cy_nv, 8000, .inl f_nv)), (h_na, .inl (cy_na, 8000, .inl f_na)), (h_nb, .inl (cy_nb, 8000, .inl f_nb)), (h_nc, .inl (cy_nc, 8000, .inl f_nc))]) [3, 4, 5, 6, 7] rfl
            have hDc := hD.sub (ws' := [(h_mm, .inr (8, (mo72 v_mm (.ref h_nv) (.ref h_nn) (.ref h_na) (.ref h_nb) (.ref h_nc) (.ref h_let) (.ref h_wri) (.int x10) (.int x_mm_room)))), (h_nv, .inl (cy_nv, 8000, .inl f_nv)), (h_na, .inl (cy_na, 8000, .inl f_na)), (h_nb, .inl (cy_nb, 8000, .inl f_nb)), (h_nc, .inl (cy_nc, 8000, .inl f_nc))]) [3, 4, 5, 6, 7] (by decide) rfl
            have hKc := hK.sub (tys' := [(cy_nv, .int), (cy_na, .int), (cy_nb, .int), (cy_nc, .int)]) [2, 4, 5, 6] rfl
            have hFc := va_free (wc := [(h_mm, .inr (8, (mo72 v_mm (.ref h_nv) (.ref h_nn) (.ref h_na) (.ref h_nb) (.ref h_nc) (.ref h_let) (.ref h_wri) (.int x10) (.int x_mm_room)))), (h_nv, .inl (cy_nv, 8000, .inl f_nv)), (h_na, .inl (cy_na, 8000, .inl f_na)), (h_nb, .inl (cy_nb, 8000, .inl f_nb)), (h_nc, .inl (cy_nc, 8000, .inl f_nc))]) hD hS hA [3, 4, 5, 6, 7] rfl
            refine va_calli (va_runV (As := [.int p1]) (rest := []) ⟨hx, hb, hml, hown, hts⟩ (c_X11_partsAt_e l dC dI H.size h_mm h_nv h_na h_nb h_nc (fun k => List.getD (mo72 v_mm (.ref h_nv) (.ref h_nn) (.ref h_na) (.ref h_nb) (.ref h_nc) (.ref h_let) (.ref h_wri) (.int x10) (.int x_mm_room)) k .null) cy_nv f_nv cy_na f_na cy_nb f_nb cy_nc f_nc p1 hf_nv hf_na hf_nb hf_nc (by omega)) (cwV 1 hts (gv hT w_m_X11_27 w_instanceMethod_X11_partsAt ws_sel_X11_partsAt w_ini_X11 w_code_X11_partsAt) rfl rfl rfl (by decide +kernel) ⟨(by dsimp only [headSpec]; omega), (by dsimp only [headSpec]; omega)⟩) ⟨pre_blind, va_recv hK hP (ci := 8) (q0 := 3) rfl rfl, pre_of hPc hKc hDc hN⟩ rfl rfl hl.1 rfl (lv_room (Nat.le_of_ble_eq_true rfl)) dX11_saysTerm_167 ⟨(Nat.le_of_ble_eq_true rfl), (Nat.le_of_ble_eq_true rfl)⟩) hS (fun q _ h => hFc q h) hFc (fun r18 u t H locs ht hvm hq hB hz1 hk1 hS => ?_)
            obtain ⟨hP1, hD1⟩ := hB
            rw [ht] at hP1
            obtain ⟨hP, hD⟩ := va_join (wr := [(h_let, .inl (cy_let, 256, .inl f_let)), (h_nn, .inl (cy_nn, 8000, .inr (.inl f_nn))), (h_wri, .inl (cy_wri, 1000, .inl f11))]) (w1 := [(h_mm, .inr (8, (mo72 v_mm (.ref h_nv) (.ref h_nn) (.ref h_na) (.ref h_nb) (.ref h_nc) (.ref h_let) (.ref h_wri) (.int x10) (.int x_mm_room)))), (h_nv, .inl (cy_nv, 8000, .inl f_nv)), (h_na, .inl (cy_na, 8000, .inl f_na)), (h_nb, .inl (cy_nb, 8000, .inl f_nb)), (h_nc, .inl (cy_nc, 8000, .inl f_nc))]) hP hD [3, 4, 5, 6, 7] [0, 1, 2] rfl rfl (by decide) (by decide) hk1 hFc hP1 hD1
            have hP : va_P (dC, dI) cls [(h_let, .inl (cy_let, 256, .inl f_let)), (h_nn, .inl (cy_nn, 8000, .inr (.inl f_nn))), (h_wri, .inl (cy_wri, 1000, .inl f11)), (h_mm, .inr (8, (mo72 v_mm (.ref h_nv) (.ref h_nn) (.ref h_na) (.ref h_nb) (.ref h_nc) (.ref h_let) (.ref h_wri) (.int x10) (.int x_mm_room)))), (h_nv, .inl (cy_nv, 8000, .inl f_nv)), (h_na, .inl (cy_na, 8000, .inl f_na)), (h_nb, .inl (cy_nb, 8000, .inl f_nb)), (h_nc, .inl (cy_nc, 8000, .inl f_nc))] H := hP
            have hD : va_D A [(h_let, .inl (cy_let, 256, .inl f_let)), (h_nn, .inl (cy_nn, 8000, .inr (.inl f_nn))), (h_wri, .inl (cy_wri, 1000, .inl f11)), (h_mm, .inr (8, (mo72 v_mm (.ref h_nv) (.ref h_nn) (.ref h_na) (.ref h_nb) (.ref h_nc) (.ref h_let) (.ref h_wri) (.int x10) (.int x_mm_room)))), (h_nv, .inl (cy_nv, 8000, .inl f_nv)), (h_na, .inl (cy_na, 8000, .inl f_na)), (h_nb, .inl (cy_nb, 8000, .inl f_nb)), (h_nc, .inl (cy_nc, 8000, .inl f_nc))] := hD
            obtain ⟨k19, k20⟩ := hq
            have k19 : 0 ≤ (r18).toInt ∧ (r18).toInt ≤ 3 := k19
            have k20 : ((r18)).toInt = (npx f_nv f_na f_nb f_nc ((p1)).toInt.toNat) := k20
            refine lv_if_le (tgt := 179) hx hb dX11_saysTerm_170 (by decide) (fun c21 => ?_) (fun c21 => ?_)
            · have kc21 := (cv_le (rfl : (r18).toInt = (r18).toInt) (by decide : (0 : Int32).toInt = 0)).mp c21
              have hP : va_P (dC, dI) cls [(h_mm, .inr (8, (mo72 v_mm (.ref h_nv) (.ref h_nn) (.ref h_na) (.ref h_nb) (.ref h_nc) (.ref h_let) (.ref h_wri) (.int x10) (.int x_mm_room)))), (h_wri, .inl (cy_wri, 1000, .inl f11)), (h_let, .inl (cy_let, 256, .inl f_let)), (h_nv, .inl (cy_nv, 8000, .inl f_nv)), (h_nn, .inl (cy_nn, 8000, .inr (.inl f_nn))), (h_na, .inl (cy_na, 8000, .inl f_na)), (h_nb, .inl (cy_nb, 8000, .inl f_nb)), (h_nc, .inl (cy_nc, 8000, .inl f_nc))] H := hP.sub [3, 2, 0, 4, 1, 5, 6, 7] rfl
              have hD : va_D A [(h_mm, .inr (8, (mo72 v_mm (.ref h_nv) (.ref h_nn) (.ref h_na) (.ref h_nb) (.ref h_nc) (.ref h_let) (.ref h_wri) (.int x10) (.int x_mm_room)))), (h_wri, .inl (cy_wri, 1000, .inl f11)), (h_let, .inl (cy_let, 256, .inl f_let)), (h_nv, .inl (cy_nv, 8000, .inl f_nv)), (h_nn, .inl (cy_nn, 8000, .inr (.inl f_nn))), (h_na, .inl (cy_na, 8000, .inl f_na)), (h_nb, .inl (cy_nb, 8000, .inl f_nb)), (h_nc, .inl (cy_nc, 8000, .inl f_nc))] := hD.sub [3, 2, 0, 4, 1, 5, 6, 7] (by decide) rfl
              refine W.widen (k := 0) (n := 0) (Nat.le_of_ble_eq_true rfl) (Nat.le_of_ble_eq_true rfl) ?_
              have w22 : 0 ≤ ((x10)).toInt ∧ ((x10)).toInt ≤ 1000 := by omega
              exact W.vret hx hb hr (fun t ht hW => ⟨⟨(x10, f11), rfl, w22, by rw [ht]; exact hP, hD⟩, hS.F ht⟩) hS.2.2 dX11_saysTerm_179
            · have kc21 := (not_congr (cv_le (rfl : (r18).toInt = (r18).toInt) (by decide : (0 : Int32).toInt = 0))).mp c21
              refine lv_aload_n hx hb dX11_saysTerm_173 rfl (lv_at hl 0 rfl) ?_
              refine lv_bipush (v := 41) hx hb dX11_saysTerm_174 (by decide) ?_
              have cst41 : (41 : Int32).toInt = 41 := by decide
              have hPc := hP.sub (ws' := [(h_mm, .inr (8, (mo72 v_mm (.ref h_nv) (.ref h_nn) (.ref h_na) (.ref h_nb) (.ref h_nc) (.ref h_let) (.ref h_wri) (.int x10) (.int x_mm_room)))), (h_wri, .inl (cy_wri, 1000, .inl f11))]) [3, 2] rfl
              have hDc := hD.sub (ws' := [(h_mm, .inr (8, (mo72 v_mm (.ref h_nv) (.ref h_nn) (.ref h_na) (.ref h_nb) (.ref h_nc) (.ref h_let) (.ref h_wri) (.int x10) (.int x_mm_room)))), (h_wri, .inl (cy_wri, 1000, .inl f11))]) [3, 2] (by decide) rfl
              have hKc := hK.sub (tys' := [(cy_wri, .int)]) [0] rfl
              have hFc := va_free (wc := [(h_mm, .inr (8, (mo72 v_mm (.ref h_nv) (.ref h_nn) (.ref h_na) (.ref h_nb) (.ref h_nc) (.ref h_let) (.ref h_wri) (.int x10) (.int x_mm_room)))), (h_wri, .inl (cy_wri, 1000, .inl f11))]) hD hS hA [3, 2] rfl
              refine va_callv (va_runV (As := [.int 41]) (rest := []) ⟨hx, hb, hml, hown, hts⟩ (c_X11_says l dC dI H.size h_mm h_wri (fun k => List.getD (mo72 v_mm (.ref h_nv) (.ref h_nn) (.ref h_na) (.ref h_nb) (.ref h_nc) (.ref h_let) (.ref h_wri) (.int x10) (.int x_mm_room)) k .null) x10 x_mm_room cy_wri f11 41 (by omega) (by omega)) (cwV 1 hts (gv hT w_m_X11_452 w_instanceMethod_X11_says ws_sel_X11_says w_ini_X11 w_code_X11_says) rfl rfl rfl (by decide +kernel) ⟨(by dsimp only [headSpec]; omega), (by dsimp only [headSpec]; omega)⟩) ⟨pre_blind, va_recv hK hP (ci := 8) (q0 := 3) rfl rfl, pre_of hPc hKc hDc hN⟩ rfl rfl hl.1 rfl (lv_room (Nat.le_of_ble_eq_true rfl)) dX11_saysTerm_176 ⟨(Nat.le_of_ble_eq_true rfl), (Nat.le_of_ble_eq_true rfl)⟩) hS (fun q _ h => hFc q h) hFc (fun u t H locs ht hvm hq hB hz1 hk1 hS => ?_)
              obtain ⟨z24, f25⟩ := u
              obtain ⟨hP1, hD1⟩ := hB
              rw [ht] at hP1
              obtain ⟨hP, hD⟩ := va_join (wr := [(h_let, .inl (cy_let, 256, .inl f_let)), (h_nn, .inl (cy_nn, 8000, .inr (.inl f_nn))), (h_nv, .inl (cy_nv, 8000, .inl f_nv)), (h_na, .inl (cy_na, 8000, .inl f_na)), (h_nb, .inl (cy_nb, 8000, .inl f_nb)), (h_nc, .inl (cy_nc, 8000, .inl f_nc))]) (w1 := [(h_mm, .inr (8, (mo72 v_mm (.ref h_nv) (.ref h_nn) (.ref h_na) (.ref h_nb) (.ref h_nc) (.ref h_let) (.ref h_wri) (.int z24) (.int x_mm_room)))), (h_wri, .inl (cy_wri, 1000, .inl f25))]) hP hD [3, 2] [0, 1, 4, 5, 6, 7] rfl rfl (by decide) (by decide) hk1 hFc hP1 hD1
              have hP : va_P (dC, dI) cls [(h_let, .inl (cy_let, 256, .inl f_let)), (h_nn, .inl (cy_nn, 8000, .inr (.inl f_nn))), (h_nv, .inl (cy_nv, 8000, .inl f_nv)), (h_na, .inl (cy_na, 8000, .inl f_na)), (h_nb, .inl (cy_nb, 8000, .inl f_nb)), (h_nc, .inl (cy_nc, 8000, .inl f_nc)), (h_mm, .inr (8, (mo72 v_mm (.ref h_nv) (.ref h_nn) (.ref h_na) (.ref h_nb) (.ref h_nc) (.ref h_let) (.ref h_wri) (.int z24) (.int x_mm_room)))), (h_wri, .inl (cy_wri, 1000, .inl f25))] H := hP
              have hD : va_D A [(h_let, .inl (cy_let, 256, .inl f_let)), (h_nn, .inl (cy_nn, 8000, .inr (.inl f_nn))), (h_nv, .inl (cy_nv, 8000, .inl f_nv)), (h_na, .inl (cy_na, 8000, .inl f_na)), (h_nb, .inl (cy_nb, 8000, .inl f_nb)), (h_nc, .inl (cy_nc, 8000, .inl f_nc)), (h_mm, .inr (8, (mo72 v_mm (.ref h_nv) (.ref h_nn) (.ref h_na) (.ref h_nb) (.ref h_nc) (.ref h_let) (.ref h_wri) (.int z24) (.int x_mm_room)))), (h_wri, .inl (cy_wri, 1000, .inl f25))] := hD
              obtain ⟨k26, k27⟩ := hq
              have k26 : 0 ≤ ((z24)).toInt ∧ ((z24)).toInt ≤ 1000 := k26
              have k27 : ((x10)).toInt ≤ ((z24)).toInt := k27
              have hP : va_P (dC, dI) cls [(h_mm, .inr (8, (mo72 v_mm (.ref h_nv) (.ref h_nn) (.ref h_na) (.ref h_nb) (.ref h_nc) (.ref h_let) (.ref h_wri) (.int z24) (.int x_mm_room)))), (h_wri, .inl (cy_wri, 1000, .inl f25)), (h_let, .inl (cy_let, 256, .inl f_let)), (h_nv, .inl (cy_nv, 8000, .inl f_nv)), (h_nn, .inl (cy_nn, 8000, .inr (.inl f_nn))), (h_na, .inl (cy_na, 8000, .inl f_na)), (h_nb, .inl (cy_nb, 8000, .inl f_nb)), (h_nc, .inl (cy_nc, 8000, .inl f_nc))] H := hP.sub [6, 7, 0, 2, 1, 3, 4, 5] rfl
              have hD : va_D A [(h_mm, .inr (8, (mo72 v_mm (.ref h_nv) (.ref h_nn) (.ref h_na) (.ref h_nb) (.ref h_nc) (.ref h_let) (.ref h_wri) (.int z24) (.int x_mm_room)))), (h_wri, .inl (cy_wri, 1000, .inl f25)), (h_let, .inl (cy_let, 256, .inl f_let)), (h_nv, .inl (cy_nv, 8000, .inl f_nv)), (h_nn, .inl (cy_nn, 8000, .inr (.inl f_nn))), (h_na, .inl (cy_na, 8000, .inl f_na)), (h_nb, .inl (cy_nb, 8000, .inl f_nb)), (h_nc, .inl (cy_nc, 8000, .inl f_nc))] := hD.sub [6, 7, 0, 2, 1, 3, 4, 5] (by decide) rfl
              refine W.widen (k := 0) (n := 0) (Nat.le_of_ble_eq_true rfl) (Nat.le_of_ble_eq_true rfl) ?_
              have w28 : 0 ≤ ((z24)).toInt ∧ ((z24)).toInt ≤ 1000 := by omega
              exact W.vret hx hb hr (fun t ht hW => ⟨⟨(z24, f25), rfl, w28, by rw [ht]; exact hP, hD⟩, hS.F ht⟩) hS.2.2 dX11_saysTerm_179
          · have kc17 := (not_congr (cv_le (rfl : (r14).toInt = (r14).toInt) (rfl : (x9).toInt = (x9).toInt))).mp c17
            refine lv_aload_n hx hb dX11_saysTerm_127 rfl (lv_at hl 0 rfl) ?_
            refine lv_iload hx hb dX11_saysTerm_128 (lv_at hl 6 rfl) ?_
            refine lv_if_ne (tgt := 138) hx hb dX11_saysTerm_130 (by decide) (fun c29 => ?_) (fun c29 => ?_)
            · have kc29 := (not_congr (cv_eq (rfl : (x9).toInt = (x9).toInt) (by decide : (0 : Int32).toInt = 0))).mp c29
              refine lv_bipush (v := 44) hx hb dX11_saysTerm_138 (by decide) ?_
              have cst44 : (44 : Int32).toInt = 44 := by decide
              have hPc := hP.sub (ws' := [(h_mm, .inr (8, (mo72 v_mm (.ref h_nv) (.ref h_nn) (.ref h_na) (.ref h_nb) (.ref h_nc) (.ref h_let) (.ref h_wri) (.int x10) (.int x_mm_room)))), (h_wri, .inl (cy_wri, 1000, .inl f11))]) [3, 2] rfl
              have hDc := hD.sub (ws' := [(h_mm, .inr (8, (mo72 v_mm (.ref h_nv) (.ref h_nn) (.ref h_na) (.ref h_nb) (.ref h_nc) (.ref h_let) (.ref h_wri) (.int x10) (.int x_mm_room)))), (h_wri, .inl (cy_wri, 1000, .inl f11))]) [3, 2] (by decide) rfl
              have hKc := hK.sub (tys' := [(cy_wri, .int)]) [0] rfl
              have hFc := va_free (wc := [(h_mm, .inr (8, (mo72 v_mm (.ref h_nv) (.ref h_nn) (.ref h_na) (.ref h_nb) (.ref h_nc) (.ref h_let) (.ref h_wri) (.int x10) (.int x_mm_room)))), (h_wri, .inl (cy_wri, 1000, .inl f11))]) hD hS hA [3, 2] rfl
              refine va_callv (va_runV (As := [.int 44]) (rest := []) ⟨hx, hb, hml, hown, hts⟩ (c_X11_says l dC dI H.size h_mm h_wri (fun k => List.getD (mo72 v_mm (.ref h_nv) (.ref h_nn) (.ref h_na) (.ref h_nb) (.ref h_nc) (.ref h_let) (.ref h_wri) (.int x10) (.int x_mm_room)) k .null) x10 x_mm_room cy_wri f11 44 (by omega) (by omega)) (cwV 1 hts (gv hT w_m_X11_452 w_instanceMethod_X11_says ws_sel_X11_says w_ini_X11 w_code_X11_says) rfl rfl rfl (by decide +kernel) ⟨(by dsimp only [headSpec]; omega), (by dsimp only [headSpec]; omega)⟩) ⟨pre_blind, va_recv hK hP (ci := 8) (q0 := 3) rfl rfl, pre_of hPc hKc hDc hN⟩ rfl rfl hl.1 rfl (lv_room (Nat.le_of_ble_eq_true rfl)) dX11_saysTerm_140 ⟨(Nat.le_of_ble_eq_true rfl), (Nat.le_of_ble_eq_true rfl)⟩) hS (fun q _ h => hFc q h) hFc (fun u t H locs ht hvm hq hB hz1 hk1 hS => ?_)
              obtain ⟨z31, f32⟩ := u
              obtain ⟨hP1, hD1⟩ := hB
              rw [ht] at hP1
              obtain ⟨hP, hD⟩ := va_join (wr := [(h_let, .inl (cy_let, 256, .inl f_let)), (h_nn, .inl (cy_nn, 8000, .inr (.inl f_nn))), (h_nv, .inl (cy_nv, 8000, .inl f_nv)), (h_na, .inl (cy_na, 8000, .inl f_na)), (h_nb, .inl (cy_nb, 8000, .inl f_nb)), (h_nc, .inl (cy_nc, 8000, .inl f_nc))]) (w1 := [(h_mm, .inr (8, (mo72 v_mm (.ref h_nv) (.ref h_nn) (.ref h_na) (.ref h_nb) (.ref h_nc) (.ref h_let) (.ref h_wri) (.int z31) (.int x_mm_room)))), (h_wri, .inl (cy_wri, 1000, .inl f32))]) hP hD [3, 2] [0, 1, 4, 5, 6, 7] rfl rfl (by decide) (by decide) hk1 hFc hP1 hD1
              have hP : va_P (dC, dI) cls [(h_let, .inl (cy_let, 256, .inl f_let)), (h_nn, .inl (cy_nn, 8000, .inr (.inl f_nn))), (h_nv, .inl (cy_nv, 8000, .inl f_nv)), (h_na, .inl (cy_na, 8000, .inl f_na)), (h_nb, .inl (cy_nb, 8000, .inl f_nb)), (h_nc, .inl (cy_nc, 8000, .inl f_nc)), (h_mm, .inr (8, (mo72 v_mm (.ref h_nv) (.ref h_nn) (.ref h_na) (.ref h_nb) (.ref h_nc) (.ref h_let) (.ref h_wri) (.int z31) (.int x_mm_room)))), (h_wri, .inl (cy_wri, 1000, .inl f32))] H := hP
              have hD : va_D A [(h_let, .inl (cy_let, 256, .inl f_let)), (h_nn, .inl (cy_nn, 8000, .inr (.inl f_nn))), (h_nv, .inl (cy_nv, 8000, .inl f_nv)), (h_na, .inl (cy_na, 8000, .inl f_na)), (h_nb, .inl (cy_nb, 8000, .inl f_nb)), (h_nc, .inl (cy_nc, 8000, .inl f_nc)), (h_mm, .inr (8, (mo72 v_mm (.ref h_nv) (.ref h_nn) (.ref h_na) (.ref h_nb) (.ref h_nc) (.ref h_let) (.ref h_wri) (.int z31) (.int x_mm_room)))), (h_wri, .inl (cy_wri, 1000, .inl f32))] := hD
              obtain ⟨k33, k34⟩ := hq
              have k33 : 0 ≤ ((z31)).toInt ∧ ((z31)).toInt ≤ 1000 := k33
              have k34 : ((x10)).toInt ≤ ((z31)).toInt := k34
              refine lv_aload_n hx hb dX11_saysTerm_143 rfl (lv_at hl 0 rfl) ?_
              refine lv_aload_n hx hb dX11_saysTerm_144 rfl (lv_at hl 0 rfl) ?_
              refine lv_iload hx hb dX11_saysTerm_145 (lv_at hl 4 rfl) ?_
              refine lv_iload hx hb dX11_saysTerm_147 (lv_at hl 6 rfl) ?_
              have hPc := hP.sub (ws' := [(h_mm, .inr (8, (mo72 v_mm (.ref h_nv) (.ref h_nn) (.ref h_na) (.ref h_nb) (.ref h_nc) (.ref h_let) (.ref h_wri) (.int z31) (.int x_mm_room)))), (h_na, .inl (cy_na, 8000, .inl f_na)), (h_nb, .inl (cy_nb, 8000, .inl f_nb)), (h_nc, .inl (cy_nc, 8000, .inl f_nc))]) [6, 3, 4, 5] rfl
              have hDc := hD.sub (ws' := [(h_mm, .inr (8, (mo72 v_mm (.ref h_nv) (.ref h_nn) (.ref h_na) (.ref h_nb) (.ref h_nc) (.ref h_let) (.ref h_wri) (.int z31) (.int x_mm_room)))), (h_na, .inl (cy_na, 8000, .inl f_na)), (h_nb, .inl (cy_nb, 8000, .inl f_nb)), (h_nc, .inl (cy_nc, 8000, .inl f_nc))]) [6, 3, 4, 5] (by decide) rfl
              have hKc := hK.sub (tys' := [(cy_na, .int), (cy_nb, .int), (cy_nc, .int)]) [4, 5, 6] rfl
              have hFc := va_free (wc := [(h_mm, .inr (8, (mo72 v_mm (.ref h_nv) (.ref h_nn) (.ref h_na) (.ref h_nb) (.ref h_nc) (.ref h_let) (.ref h_wri) (.int z31) (.int x_mm_room)))), (h_na, .inl (cy_na, 8000, .inl f_na)), (h_nb, .inl (cy_nb, 8000, .inl f_nb)), (h_nc, .inl (cy_nc, 8000, .inl f_nc))]) hD hS hA [6, 3, 4, 5] rfl
              refine va_calli (va_runV (As := [.int p1, .int x9]) (rest := [.ref h_mm]) ⟨hx, hb, hml, hown, hts⟩ (c_X11_part_e l dC dI H.size h_mm h_na h_nb h_nc (fun k => List.getD (mo72 v_mm (.ref h_nv) (.ref h_nn) (.ref h_na) (.ref h_nb) (.ref h_nc) (.ref h_let) (.ref h_wri) (.int z31) (.int x_mm_room)) k .null) cy_na f_na cy_nb f_nb cy_nc f_nc p1 x9 hf_na hf_nb hf_nc (by omega)) (cwV 2 hts (gv hT w_m_X11_31 w_instanceMethod_X11_part ws_sel_X11_part w_ini_X11 w_code_X11_part) rfl rfl rfl (by decide +kernel) ⟨(by dsimp only [headSpec]; omega), (by dsimp only [headSpec]; omega)⟩) ⟨pre_blind, va_recv hK hP (ci := 8) (q0 := 6) rfl rfl, pre_of hPc hKc hDc hN⟩ rfl rfl hl.1 rfl (lv_room (Nat.le_of_ble_eq_true rfl)) dX11_saysTerm_149 ⟨(Nat.le_of_ble_eq_true rfl), (Nat.le_of_ble_eq_true rfl)⟩) hS (fun q _ h => hFc q h) hFc (fun r35 u t H locs ht hvm hq hB hz1 hk1 hS => ?_)
              obtain ⟨hP1, hD1⟩ := hB
              rw [ht] at hP1
              obtain ⟨hP, hD⟩ := va_join (wr := [(h_let, .inl (cy_let, 256, .inl f_let)), (h_nn, .inl (cy_nn, 8000, .inr (.inl f_nn))), (h_nv, .inl (cy_nv, 8000, .inl f_nv)), (h_wri, .inl (cy_wri, 1000, .inl f32))]) (w1 := [(h_mm, .inr (8, (mo72 v_mm (.ref h_nv) (.ref h_nn) (.ref h_na) (.ref h_nb) (.ref h_nc) (.ref h_let) (.ref h_wri) (.int z31) (.int x_mm_room)))), (h_na, .inl (cy_na, 8000, .inl f_na)), (h_nb, .inl (cy_nb, 8000, .inl f_nb)), (h_nc, .inl (cy_nc, 8000, .inl f_nc))]) hP hD [6, 3, 4, 5] [0, 1, 2, 7] rfl rfl (by decide) (by decide) hk1 hFc hP1 hD1
              have hP : va_P (dC, dI) cls [(h_let, .inl (cy_let, 256, .inl f_let)), (h_nn, .inl (cy_nn, 8000, .inr (.inl f_nn))), (h_nv, .inl (cy_nv, 8000, .inl f_nv)), (h_wri, .inl (cy_wri, 1000, .inl f32)), (h_mm, .inr (8, (mo72 v_mm (.ref h_nv) (.ref h_nn) (.ref h_na) (.ref h_nb) (.ref h_nc) (.ref h_let) (.ref h_wri) (.int z31) (.int x_mm_room)))), (h_na, .inl (cy_na, 8000, .inl f_na)), (h_nb, .inl (cy_nb, 8000, .inl f_nb)), (h_nc, .inl (cy_nc, 8000, .inl f_nc))] H := hP
              have hD : va_D A [(h_let, .inl (cy_let, 256, .inl f_let)), (h_nn, .inl (cy_nn, 8000, .inr (.inl f_nn))), (h_nv, .inl (cy_nv, 8000, .inl f_nv)), (h_wri, .inl (cy_wri, 1000, .inl f32)), (h_mm, .inr (8, (mo72 v_mm (.ref h_nv) (.ref h_nn) (.ref h_na) (.ref h_nb) (.ref h_nc) (.ref h_let) (.ref h_wri) (.int z31) (.int x_mm_room)))), (h_na, .inl (cy_na, 8000, .inl f_na)), (h_nb, .inl (cy_nb, 8000, .inl f_nb)), (h_nc, .inl (cy_nc, 8000, .inl f_nc))] := hD
              obtain ⟨k36, k37⟩ := hq
              have k36 : -1 ≤ (r35).toInt ∧ (r35).toInt ≤ 7999 := k36
              have k37 : ((r35)).toInt = (ptx f_na f_nb f_nc ((p1)).toInt.toNat ((x9)).toInt).toInt := k37
              have ch9 := ch_ok (nv := f_nv) (k := (x9).toInt) (x := (p1).toInt.toNat) hn_nds (by omega) (by omega)
              rw [← Int32.toInt_inj.mp (show (r35).toInt = (ptx f_na f_nb f_nc (p1).toInt.toNat (x9).toInt).toInt by omega)] at ch9
              refine lv_iload hx hb dX11_saysTerm_152 (lv_at hl 5 rfl) ?_
              refine lv_iload_n hx hb dX11_saysTerm_154 rfl (lv_at hl 3 rfl) ?_
              have cstm1 : ((-1) : Int32).toInt = -1 := by decide
              have hPc := hP.sub (ws' := [(h_mm, .inr (8, (mo72 v_mm (.ref h_nv) (.ref h_nn) (.ref h_na) (.ref h_nb) (.ref h_nc) (.ref h_let) (.ref h_wri) (.int z31) (.int x_mm_room)))), (h_wri, .inl (cy_wri, 1000, .inl f32)), (h_let, .inl (cy_let, 256, .inl f_let)), (h_nv, .inl (cy_nv, 8000, .inl f_nv)), (h_nn, .inl (cy_nn, 8000, .inr (.inl f_nn))), (h_na, .inl (cy_na, 8000, .inl f_na)), (h_nb, .inl (cy_nb, 8000, .inl f_nb)), (h_nc, .inl (cy_nc, 8000, .inl f_nc))]) [4, 3, 0, 2, 1, 5, 6, 7] rfl
              have hDc := hD.sub (ws' := [(h_mm, .inr (8, (mo72 v_mm (.ref h_nv) (.ref h_nn) (.ref h_na) (.ref h_nb) (.ref h_nc) (.ref h_let) (.ref h_wri) (.int z31) (.int x_mm_room)))), (h_wri, .inl (cy_wri, 1000, .inl f32)), (h_let, .inl (cy_let, 256, .inl f_let)), (h_nv, .inl (cy_nv, 8000, .inl f_nv)), (h_nn, .inl (cy_nn, 8000, .inr (.inl f_nn))), (h_na, .inl (cy_na, 8000, .inl f_na)), (h_nb, .inl (cy_nb, 8000, .inl f_nb)), (h_nc, .inl (cy_nc, 8000, .inl f_nc))]) [4, 3, 0, 2, 1, 5, 6, 7] (by decide) rfl
              have hKc := hK.sub (tys' := [(cy_wri, .int), (cy_let, .int), (cy_nv, .int), (cy_nn, .long), (cy_na, .int), (cy_nb, .int), (cy_nc, .int)]) [0, 1, 2, 3, 4, 5, 6] rfl
              have hFc := va_free (wc := [(h_mm, .inr (8, (mo72 v_mm (.ref h_nv) (.ref h_nn) (.ref h_na) (.ref h_nb) (.ref h_nc) (.ref h_let) (.ref h_wri) (.int z31) (.int x_mm_room)))), (h_wri, .inl (cy_wri, 1000, .inl f32)), (h_let, .inl (cy_let, 256, .inl f_let)), (h_nv, .inl (cy_nv, 8000, .inl f_nv)), (h_nn, .inl (cy_nn, 8000, .inr (.inl f_nn))), (h_na, .inl (cy_na, 8000, .inl f_na)), (h_nb, .inl (cy_nb, 8000, .inl f_nb)), (h_nc, .inl (cy_nc, 8000, .inl f_nc))]) hD hS hA [4, 3, 0, 2, 1, 5, 6, 7] rfl
              refine va_callv (va_runV (As := [.int r35, .int (-1), .int p3]) (rest := []) ⟨hx, hb, hml, hown, hts⟩ (ihf dC dI H.size h_mm h_wri h_let h_nv h_nn h_na h_nb h_nc v_mm z31 x_mm_room cy_wri f32 cy_let f_let cy_nv f_nv cy_nn f_nn cy_na f_na cy_nb f_nb cy_nc f_nc r35 p3 N hz (by omega) (by omega) hf_nv hf_na hf_nb hf_nc (by omega) (by omega) (by omega) (by omega) hn_nds) (cwV 3 hts (gv hT w_m_X11_459 w_instanceMethod_X11_saysTerm ws_sel_X11_saysTerm w_ini_X11 w_code_X11_saysTerm) rfl rfl rfl (by decide +kernel) ⟨(by dsimp only [headSpec]; omega), (by dsimp only [headSpec]; omega)⟩) ⟨pre_blind, va_recv hK hP (ci := 8) (q0 := 4) rfl rfl, pre_of hPc hKc hDc hN⟩ rfl rfl hl.1 rfl (lv_room (Nat.le_of_ble_eq_true rfl)) dX11_saysTerm_155 ⟨(Nat.le_of_ble_eq_true rfl), (Nat.le_of_ble_eq_true rfl)⟩) hS (fun q _ h => hFc q h) hFc (fun u t H locs ht hvm hq hB hz1 hk1 hS => ?_)
              obtain ⟨z39, f40⟩ := u
              obtain ⟨hP1, hD1⟩ := hB
              rw [ht] at hP1
              obtain ⟨hP, hD⟩ := va_join (wr := []) (w1 := [(h_mm, .inr (8, (mo72 v_mm (.ref h_nv) (.ref h_nn) (.ref h_na) (.ref h_nb) (.ref h_nc) (.ref h_let) (.ref h_wri) (.int z39) (.int x_mm_room)))), (h_wri, .inl (cy_wri, 1000, .inl f40)), (h_let, .inl (cy_let, 256, .inl f_let)), (h_nv, .inl (cy_nv, 8000, .inl f_nv)), (h_nn, .inl (cy_nn, 8000, .inr (.inl f_nn))), (h_na, .inl (cy_na, 8000, .inl f_na)), (h_nb, .inl (cy_nb, 8000, .inl f_nb)), (h_nc, .inl (cy_nc, 8000, .inl f_nc))]) hP hD [4, 3, 0, 2, 1, 5, 6, 7] [] rfl rfl (by decide) (by decide) hk1 hFc hP1 hD1
              have hP : va_P (dC, dI) cls [(h_mm, .inr (8, (mo72 v_mm (.ref h_nv) (.ref h_nn) (.ref h_na) (.ref h_nb) (.ref h_nc) (.ref h_let) (.ref h_wri) (.int z39) (.int x_mm_room)))), (h_wri, .inl (cy_wri, 1000, .inl f40)), (h_let, .inl (cy_let, 256, .inl f_let)), (h_nv, .inl (cy_nv, 8000, .inl f_nv)), (h_nn, .inl (cy_nn, 8000, .inr (.inl f_nn))), (h_na, .inl (cy_na, 8000, .inl f_na)), (h_nb, .inl (cy_nb, 8000, .inl f_nb)), (h_nc, .inl (cy_nc, 8000, .inl f_nc))] H := hP
              have hD : va_D A [(h_mm, .inr (8, (mo72 v_mm (.ref h_nv) (.ref h_nn) (.ref h_na) (.ref h_nb) (.ref h_nc) (.ref h_let) (.ref h_wri) (.int z39) (.int x_mm_room)))), (h_wri, .inl (cy_wri, 1000, .inl f40)), (h_let, .inl (cy_let, 256, .inl f_let)), (h_nv, .inl (cy_nv, 8000, .inl f_nv)), (h_nn, .inl (cy_nn, 8000, .inr (.inl f_nn))), (h_na, .inl (cy_na, 8000, .inl f_na)), (h_nb, .inl (cy_nb, 8000, .inl f_nb)), (h_nc, .inl (cy_nc, 8000, .inl f_nc))] := hD
              have k41 : 0 ≤ ((z39)).toInt ∧ ((z39)).toInt ≤ 1000 := hq
              obtain ⟨z42, ez42⟩ : ∃ y : Int32, y = x9 + 1 := ⟨_, rfl⟩
              have tz42 : (z42).toInt = (x9).toInt + 1 := by rw [ez42]; exact i_add rfl (by decide) (by omega)
              refine lv_iinc (v := z42) (lv' := [(6, .int z42), (0, .ref h_mm), (1, .int p1), (2, .int (-1)), (3, .int p3), (4, .int p1), (5, .int (-1))]) hx hb dX11_saysTerm_158 hl (k := 6) rfl (by rw [ez42]; rfl) (by decide) rfl (fun ls hl => ?_)
              refine lv_goto (tgt := 116) hx hb dX11_saysTerm_161 (by decide) ?_
              have hP : va_P (dC, dI) cls [(h_let, .inl (cy_let, 256, .inl f_let)), (h_nv, .inl (cy_nv, 8000, .inl f_nv)), (h_nn, .inl (cy_nn, 8000, .inr (.inl f_nn))), (h_na, .inl (cy_na, 8000, .inl f_na)), (h_nb, .inl (cy_nb, 8000, .inl f_nb)), (h_nc, .inl (cy_nc, 8000, .inl f_nc)), (h_mm, .inr (8, (mo72 v_mm (.ref h_nv) (.ref h_nn) (.ref h_na) (.ref h_nb) (.ref h_nc) (.ref h_let) (.ref h_wri) (.int z39) (.int x_mm_room)))), (h_wri, .inl (cy_wri, 1000, .inl f40))] H := hP.sub [2, 3, 4, 5, 6, 7, 0, 1] rfl
              have hD : va_D A [(h_let, .inl (cy_let, 256, .inl f_let)), (h_nv, .inl (cy_nv, 8000, .inl f_nv)), (h_nn, .inl (cy_nn, 8000, .inr (.inl f_nn))), (h_na, .inl (cy_na, 8000, .inl f_na)), (h_nb, .inl (cy_nb, 8000, .inl f_nb)), (h_nc, .inl (cy_nc, 8000, .inl f_nc)), (h_mm, .inr (8, (mo72 v_mm (.ref h_nv) (.ref h_nn) (.ref h_na) (.ref h_nb) (.ref h_nc) (.ref h_let) (.ref h_wri) (.int z39) (.int x_mm_room)))), (h_wri, .inl (cy_wri, 1000, .inl f40))] := hD.sub [2, 3, 4, 5, 6, 7, 0, 1] (by decide) rfl
              exact ih13 (z42) (z39) (f40) _ _ _ (by omega) (by omega) (by omega) hP hD hS (lv_sub hl [1, 2, 3, 4, 5, 6, 0] rfl)
            · have kc29 := (cv_eq (rfl : (x9).toInt = (x9).toInt) (by decide : (0 : Int32).toInt = 0)).mp c29
              refine lv_bipush (v := 40) hx hb dX11_saysTerm_133 (by decide) ?_
              refine lv_goto (tgt := 140) hx hb dX11_saysTerm_135 (by decide) ?_
              have cst40 : (40 : Int32).toInt = 40 := by decide
              have hPc := hP.sub (ws' := [(h_mm, .inr (8, (mo72 v_mm (.ref h_nv) (.ref h_nn) (.ref h_na) (.ref h_nb) (.ref h_nc) (.ref h_let) (.ref h_wri) (.int x10) (.int x_mm_room)))), (h_wri, .inl (cy_wri, 1000, .inl f11))]) [3, 2] rfl
              have hDc := hD.sub (ws' := [(h_mm, .inr (8, (mo72 v_mm (.ref h_nv) (.ref h_nn) (.ref h_na) (.ref h_nb) (.ref h_nc) (.ref h_let) (.ref h_wri) (.int x10) (.int x_mm_room)))), (h_wri, .inl (cy_wri, 1000, .inl f11))]) [3, 2] (by decide) rfl
              have hKc := hK.sub (tys' := [(cy_wri, .int)]) [0] rfl
              have hFc := va_free (wc := [(h_mm, .inr (8, (mo72 v_mm (.ref h_nv) (.ref h_nn) (.ref h_na) (.ref h_nb) (.ref h_nc) (.ref h_let) (.ref h_wri) (.int x10) (.int x_mm_room)))), (h_wri, .inl (cy_wri, 1000, .inl f11))]) hD hS hA [3, 2] rfl
              refine va_callv (va_runV (As := [.int 40]) (rest := []) ⟨hx, hb, hml, hown, hts⟩ (c_X11_says l dC dI H.size h_mm h_wri (fun k => List.getD (mo72 v_mm (.ref h_nv) (.ref h_nn) (.ref h_na) (.ref h_nb) (.ref h_nc) (.ref h_let) (.ref h_wri) (.int x10) (.int x_mm_room)) k .null) x10 x_mm_room cy_wri f11 40 (by omega) (by omega)) (cwV 1 hts (gv hT w_m_X11_452 w_instanceMethod_X11_says ws_sel_X11_says w_ini_X11 w_code_X11_says) rfl rfl rfl (by decide +kernel) ⟨(by dsimp only [headSpec]; omega), (by dsimp only [headSpec]; omega)⟩) ⟨pre_blind, va_recv hK hP (ci := 8) (q0 := 3) rfl rfl, pre_of hPc hKc hDc hN⟩ rfl rfl hl.1 rfl (lv_room (Nat.le_of_ble_eq_true rfl)) dX11_saysTerm_140 ⟨(Nat.le_of_ble_eq_true rfl), (Nat.le_of_ble_eq_true rfl)⟩) hS (fun q _ h => hFc q h) hFc (fun u t H locs ht hvm hq hB hz1 hk1 hS => ?_)
              obtain ⟨z44, f45⟩ := u
              obtain ⟨hP1, hD1⟩ := hB
              rw [ht] at hP1
              obtain ⟨hP, hD⟩ := va_join (wr := [(h_let, .inl (cy_let, 256, .inl f_let)), (h_nn, .inl (cy_nn, 8000, .inr (.inl f_nn))), (h_nv, .inl (cy_nv, 8000, .inl f_nv)), (h_na, .inl (cy_na, 8000, .inl f_na)), (h_nb, .inl (cy_nb, 8000, .inl f_nb)), (h_nc, .inl (cy_nc, 8000, .inl f_nc))]) (w1 := [(h_mm, .inr (8, (mo72 v_mm (.ref h_nv) (.ref h_nn) (.ref h_na) (.ref h_nb) (.ref h_nc) (.ref h_let) (.ref h_wri) (.int z44) (.int x_mm_room)))), (h_wri, .inl (cy_wri, 1000, .inl f45))]) hP hD [3, 2] [0, 1, 4, 5, 6, 7] rfl rfl (by decide) (by decide) hk1 hFc hP1 hD1
              have hP : va_P (dC, dI) cls [(h_let, .inl (cy_let, 256, .inl f_let)), (h_nn, .inl (cy_nn, 8000, .inr (.inl f_nn))), (h_nv, .inl (cy_nv, 8000, .inl f_nv)), (h_na, .inl (cy_na, 8000, .inl f_na)), (h_nb, .inl (cy_nb, 8000, .inl f_nb)), (h_nc, .inl (cy_nc, 8000, .inl f_nc)), (h_mm, .inr (8, (mo72 v_mm (.ref h_nv) (.ref h_nn) (.ref h_na) (.ref h_nb) (.ref h_nc) (.ref h_let) (.ref h_wri) (.int z44) (.int x_mm_room)))), (h_wri, .inl (cy_wri, 1000, .inl f45))] H := hP
              have hD : va_D A [(h_let, .inl (cy_let, 256, .inl f_let)), (h_nn, .inl (cy_nn, 8000, .inr (.inl f_nn))), (h_nv, .inl (cy_nv, 8000, .inl f_nv)), (h_na, .inl (cy_na, 8000, .inl f_na)), (h_nb, .inl (cy_nb, 8000, .inl f_nb)), (h_nc, .inl (cy_nc, 8000, .inl f_nc)), (h_mm, .inr (8, (mo72 v_mm (.ref h_nv) (.ref h_nn) (.ref h_na) (.ref h_nb) (.ref h_nc) (.ref h_let) (.ref h_wri) (.int z44) (.int x_mm_room)))), (h_wri, .inl (cy_wri, 1000, .inl f45))] := hD
              obtain ⟨k46, k47⟩ := hq
              have k46 : 0 ≤ ((z44)).toInt ∧ ((z44)).toInt ≤ 1000 := k46
              have k47 : ((x10)).toInt ≤ ((z44)).toInt := k47
              refine lv_aload_n hx hb dX11_saysTerm_143 rfl (lv_at hl 0 rfl) ?_
              refine lv_aload_n hx hb dX11_saysTerm_144 rfl (lv_at hl 0 rfl) ?_
              refine lv_iload hx hb dX11_saysTerm_145 (lv_at hl 4 rfl) ?_
              refine lv_iload hx hb dX11_saysTerm_147 (lv_at hl 6 rfl) ?_
              have hPc := hP.sub (ws' := [(h_mm, .inr (8, (mo72 v_mm (.ref h_nv) (.ref h_nn) (.ref h_na) (.ref h_nb) (.ref h_nc) (.ref h_let) (.ref h_wri) (.int z44) (.int x_mm_room)))), (h_na, .inl (cy_na, 8000, .inl f_na)), (h_nb, .inl (cy_nb, 8000, .inl f_nb)), (h_nc, .inl (cy_nc, 8000, .inl f_nc))]) [6, 3, 4, 5] rfl
              have hDc := hD.sub (ws' := [(h_mm, .inr (8, (mo72 v_mm (.ref h_nv) (.ref h_nn) (.ref h_na) (.ref h_nb) (.ref h_nc) (.ref h_let) (.ref h_wri) (.int z44) (.int x_mm_room)))), (h_na, .inl (cy_na, 8000, .inl f_na)), (h_nb, .inl (cy_nb, 8000, .inl f_nb)), (h_nc, .inl (cy_nc, 8000, .inl f_nc))]) [6, 3, 4, 5] (by decide) rfl
              have hKc := hK.sub (tys' := [(cy_na, .int), (cy_nb, .int), (cy_nc, .int)]) [4, 5, 6] rfl
              have hFc := va_free (wc := [(h_mm, .inr (8, (mo72 v_mm (.ref h_nv) (.ref h_nn) (.ref h_na) (.ref h_nb) (.ref h_nc) (.ref h_let) (.ref h_wri) (.int z44) (.int x_mm_room)))), (h_na, .inl (cy_na, 8000, .inl f_na)), (h_nb, .inl (cy_nb, 8000, .inl f_nb)), (h_nc, .inl (cy_nc, 8000, .inl f_nc))]) hD hS hA [6, 3, 4, 5] rfl
              refine va_calli (va_runV (As := [.int p1, .int x9]) (rest := [.ref h_mm]) ⟨hx, hb, hml, hown, hts⟩ (c_X11_part_e l dC dI H.size h_mm h_na h_nb h_nc (fun k => List.getD (mo72 v_mm (.ref h_nv) (.ref h_nn) (.ref h_na) (.ref h_nb) (.ref h_nc) (.ref h_let) (.ref h_wri) (.int z44) (.int x_mm_room)) k .null) cy_na f_na cy_nb f_nb cy_nc f_nc p1 x9 hf_na hf_nb hf_nc (by omega)) (cwV 2 hts (gv hT w_m_X11_31 w_instanceMethod_X11_part ws_sel_X11_part w_ini_X11 w_code_X11_part) rfl rfl rfl (by decide +kernel) ⟨(by dsimp only [headSpec]; omega), (by dsimp only [headSpec]; omega)⟩) ⟨pre_blind, va_recv hK hP (ci := 8) (q0 := 6) rfl rfl, pre_of hPc hKc hDc hN⟩ rfl rfl hl.1 rfl (lv_room (Nat.le_of_ble_eq_true rfl)) dX11_saysTerm_149 ⟨(Nat.le_of_ble_eq_true rfl), (Nat.le_of_ble_eq_true rfl)⟩) hS (fun q _ h => hFc q h) hFc (fun r48 u t H locs ht hvm hq hB hz1 hk1 hS => ?_)
              obtain ⟨hP1, hD1⟩ := hB
              rw [ht] at hP1
              obtain ⟨hP, hD⟩ := va_join (wr := [(h_let, .inl (cy_let, 256, .inl f_let)), (h_nn, .inl (cy_nn, 8000, .inr (.inl f_nn))), (h_nv, .inl (cy_nv, 8000, .inl f_nv)), (h_wri, .inl (cy_wri, 1000, .inl f45))]) (w1 := [(h_mm, .inr (8, (mo72 v_mm (.ref h_nv) (.ref h_nn) (.ref h_na) (.ref h_nb) (.ref h_nc) (.ref h_let) (.ref h_wri) (.int z44) (.int x_mm_room)))), (h_na, .inl (cy_na, 8000, .inl f_na)), (h_nb, .inl (cy_nb, 8000, .inl f_nb)), (h_nc, .inl (cy_nc, 8000, .inl f_nc))]) hP hD [6, 3, 4, 5] [0, 1, 2, 7] rfl rfl (by decide) (by decide) hk1 hFc hP1 hD1
              have hP : va_P (dC, dI) cls [(h_let, .inl (cy_let, 256, .inl f_let)), (h_nn, .inl (cy_nn, 8000, .inr (.inl f_nn))), (h_nv, .inl (cy_nv, 8000, .inl f_nv)), (h_wri, .inl (cy_wri, 1000, .inl f45)), (h_mm, .inr (8, (mo72 v_mm (.ref h_nv) (.ref h_nn) (.ref h_na) (.ref h_nb) (.ref h_nc) (.ref h_let) (.ref h_wri) (.int z44) (.int x_mm_room)))), (h_na, .inl (cy_na, 8000, .inl f_na)), (h_nb, .inl (cy_nb, 8000, .inl f_nb)), (h_nc, .inl (cy_nc, 8000, .inl f_nc))] H := hP
              have hD : va_D A [(h_let, .inl (cy_let, 256, .inl f_let)), (h_nn, .inl (cy_nn, 8000, .inr (.inl f_nn))), (h_nv, .inl (cy_nv, 8000, .inl f_nv)), (h_wri, .inl (cy_wri, 1000, .inl f45)), (h_mm, .inr (8, (mo72 v_mm (.ref h_nv) (.ref h_nn) (.ref h_na) (.ref h_nb) (.ref h_nc) (.ref h_let) (.ref h_wri) (.int z44) (.int x_mm_room)))), (h_na, .inl (cy_na, 8000, .inl f_na)), (h_nb, .inl (cy_nb, 8000, .inl f_nb)), (h_nc, .inl (cy_nc, 8000, .inl f_nc))] := hD
              obtain ⟨k49, k50⟩ := hq
              have k49 : -1 ≤ (r48).toInt ∧ (r48).toInt ≤ 7999 := k49
              have k50 : ((r48)).toInt = (ptx f_na f_nb f_nc ((p1)).toInt.toNat ((x9)).toInt).toInt := k50
              have ch9 := ch_ok (nv := f_nv) (k := (x9).toInt) (x := (p1).toInt.toNat) hn_nds (by omega) (by omega)
              rw [← Int32.toInt_inj.mp (show (r48).toInt = (ptx f_na f_nb f_nc (p1).toInt.toNat (x9).toInt).toInt by omega)] at ch9
              refine lv_iload hx hb dX11_saysTerm_152 (lv_at hl 5 rfl) ?_
              refine lv_iload_n hx hb dX11_saysTerm_154 rfl (lv_at hl 3 rfl) ?_
              have cstm1 : ((-1) : Int32).toInt = -1 := by decide
              have hPc := hP.sub (ws' := [(h_mm, .inr (8, (mo72 v_mm (.ref h_nv) (.ref h_nn) (.ref h_na) (.ref h_nb) (.ref h_nc) (.ref h_let) (.ref h_wri) (.int z44) (.int x_mm_room)))), (h_wri, .inl (cy_wri, 1000, .inl f45)), (h_let, .inl (cy_let, 256, .inl f_let)), (h_nv, .inl (cy_nv, 8000, .inl f_nv)), (h_nn, .inl (cy_nn, 8000, .inr (.inl f_nn))), (h_na, .inl (cy_na, 8000, .inl f_na)), (h_nb, .inl (cy_nb, 8000, .inl f_nb)), (h_nc, .inl (cy_nc, 8000, .inl f_nc))]) [4, 3, 0, 2, 1, 5, 6, 7] rfl
              have hDc := hD.sub (ws' := [(h_mm, .inr (8, (mo72 v_mm (.ref h_nv) (.ref h_nn) (.ref h_na) (.ref h_nb) (.ref h_nc) (.ref h_let) (.ref h_wri) (.int z44) (.int x_mm_room)))), (h_wri, .inl (cy_wri, 1000, .inl f45)), (h_let, .inl (cy_let, 256, .inl f_let)), (h_nv, .inl (cy_nv, 8000, .inl f_nv)), (h_nn, .inl (cy_nn, 8000, .inr (.inl f_nn))), (h_na, .inl (cy_na, 8000, .inl f_na)), (h_nb, .inl (cy_nb, 8000, .inl f_nb)), (h_nc, .inl (cy_nc, 8000, .inl f_nc))]) [4, 3, 0, 2, 1, 5, 6, 7] (by decide) rfl
              have hKc := hK.sub (tys' := [(cy_wri, .int), (cy_let, .int), (cy_nv, .int), (cy_nn, .long), (cy_na, .int), (cy_nb, .int), (cy_nc, .int)]) [0, 1, 2, 3, 4, 5, 6] rfl
              have hFc := va_free (wc := [(h_mm, .inr (8, (mo72 v_mm (.ref h_nv) (.ref h_nn) (.ref h_na) (.ref h_nb) (.ref h_nc) (.ref h_let) (.ref h_wri) (.int z44) (.int x_mm_room)))), (h_wri, .inl (cy_wri, 1000, .inl f45)), (h_let, .inl (cy_let, 256, .inl f_let)), (h_nv, .inl (cy_nv, 8000, .inl f_nv)), (h_nn, .inl (cy_nn, 8000, .inr (.inl f_nn))), (h_na, .inl (cy_na, 8000, .inl f_na)), (h_nb, .inl (cy_nb, 8000, .inl f_nb)), (h_nc, .inl (cy_nc, 8000, .inl f_nc))]) hD hS hA [4, 3, 0, 2, 1, 5, 6, 7] rfl
              refine va_callv (va_runV (As := [.int r48, .int (-1), .int p3]) (rest := []) ⟨hx, hb, hml, hown, hts⟩ (ihf dC dI H.size h_mm h_wri h_let h_nv h_nn h_na h_nb h_nc v_mm z44 x_mm_room cy_wri f45 cy_let f_let cy_nv f_nv cy_nn f_nn cy_na f_na cy_nb f_nb cy_nc f_nc r48 p3 N hz (by omega) (by omega) hf_nv hf_na hf_nb hf_nc (by omega) (by omega) (by omega) (by omega) hn_nds) (cwV 3 hts (gv hT w_m_X11_459 w_instanceMethod_X11_saysTerm ws_sel_X11_saysTerm w_ini_X11 w_code_X11_saysTerm) rfl rfl rfl (by decide +kernel) ⟨(by dsimp only [headSpec]; omega), (by dsimp only [headSpec]; omega)⟩) ⟨pre_blind, va_recv hK hP (ci := 8) (q0 := 4) rfl rfl, pre_of hPc hKc hDc hN⟩ rfl rfl hl.1 rfl (lv_room (Nat.le_of_ble_eq_true rfl)) dX11_saysTerm_155 ⟨(Nat.le_of_ble_eq_true rfl), (Nat.le_of_ble_eq_true rfl)⟩) hS (fun q _ h => hFc q h) hFc (fun u t H locs ht hvm hq hB hz1 hk1 hS => ?_)
              obtain ⟨z52, f53⟩ := u
              obtain ⟨hP1, hD1⟩ := hB
              rw [ht] at hP1
              obtain ⟨hP, hD⟩ := va_join (wr := []) (w1 := [(h_mm, .inr (8, (mo72 v_mm (.ref h_nv) (.ref h_nn) (.ref h_na) (.ref h_nb) (.ref h_nc) (.ref h_let) (.ref h_wri) (.int z52) (.int x_mm_room)))), (h_wri, .inl (cy_wri, 1000, .inl f53)), (h_let, .inl (cy_let, 256, .inl f_let)), (h_nv, .inl (cy_nv, 8000, .inl f_nv)), (h_nn, .inl (cy_nn, 8000, .inr (.inl f_nn))), (h_na, .inl (cy_na, 8000, .inl f_na)), (h_nb, .inl (cy_nb, 8000, .inl f_nb)), (h_nc, .inl (cy_nc, 8000, .inl f_nc))]) hP hD [4, 3, 0, 2, 1, 5, 6, 7] [] rfl rfl (by decide) (by decide) hk1 hFc hP1 hD1
              have hP : va_P (dC, dI) cls [(h_mm, .inr (8, (mo72 v_mm (.ref h_nv) (.ref h_nn) (.ref h_na) (.ref h_nb) (.ref h_nc) (.ref h_let) (.ref h_wri) (.int z52) (.int x_mm_room)))), (h_wri, .inl (cy_wri, 1000, .inl f53)), (h_let, .inl (cy_let, 256, .inl f_let)), (h_nv, .inl (cy_nv, 8000, .inl f_nv)), (h_nn, .inl (cy_nn, 8000, .inr (.inl f_nn))), (h_na, .inl (cy_na, 8000, .inl f_na)), (h_nb, .inl (cy_nb, 8000, .inl f_nb)), (h_nc, .inl (cy_nc, 8000, .inl f_nc))] H := hP
              have hD : va_D A [(h_mm, .inr (8, (mo72 v_mm (.ref h_nv) (.ref h_nn) (.ref h_na) (.ref h_nb) (.ref h_nc) (.ref h_let) (.ref h_wri) (.int z52) (.int x_mm_room)))), (h_wri, .inl (cy_wri, 1000, .inl f53)), (h_let, .inl (cy_let, 256, .inl f_let)), (h_nv, .inl (cy_nv, 8000, .inl f_nv)), (h_nn, .inl (cy_nn, 8000, .inr (.inl f_nn))), (h_na, .inl (cy_na, 8000, .inl f_na)), (h_nb, .inl (cy_nb, 8000, .inl f_nb)), (h_nc, .inl (cy_nc, 8000, .inl f_nc))] := hD
              have k54 : 0 ≤ ((z52)).toInt ∧ ((z52)).toInt ≤ 1000 := hq
              obtain ⟨z55, ez55⟩ : ∃ y : Int32, y = x9 + 1 := ⟨_, rfl⟩
              have tz55 : (z55).toInt = (x9).toInt + 1 := by rw [ez55]; exact i_add rfl (by decide) (by omega)
              refine lv_iinc (v := z55) (lv' := [(6, .int z55), (0, .ref h_mm), (1, .int p1), (2, .int (-1)), (3, .int p3), (4, .int p1), (5, .int (-1))]) hx hb dX11_saysTerm_158 hl (k := 6) rfl (by rw [ez55]; rfl) (by decide) rfl (fun ls hl => ?_)
              refine lv_goto (tgt := 116) hx hb dX11_saysTerm_161 (by decide) ?_
              have hP : va_P (dC, dI) cls [(h_let, .inl (cy_let, 256, .inl f_let)), (h_nv, .inl (cy_nv, 8000, .inl f_nv)), (h_nn, .inl (cy_nn, 8000, .inr (.inl f_nn))), (h_na, .inl (cy_na, 8000, .inl f_na)), (h_nb, .inl (cy_nb, 8000, .inl f_nb)), (h_nc, .inl (cy_nc, 8000, .inl f_nc)), (h_mm, .inr (8, (mo72 v_mm (.ref h_nv) (.ref h_nn) (.ref h_na) (.ref h_nb) (.ref h_nc) (.ref h_let) (.ref h_wri) (.int z52) (.int x_mm_room)))), (h_wri, .inl (cy_wri, 1000, .inl f53))] H := hP.sub [2, 3, 4, 5, 6, 7, 0, 1] rfl
              have hD : va_D A [(h_let, .inl (cy_let, 256, .inl f_let)), (h_nv, .inl (cy_nv, 8000, .inl f_nv)), (h_nn, .inl (cy_nn, 8000, .inr (.inl f_nn))), (h_na, .inl (cy_na, 8000, .inl f_na)), (h_nb, .inl (cy_nb, 8000, .inl f_nb)), (h_nc, .inl (cy_nc, 8000, .inl f_nc)), (h_mm, .inr (8, (mo72 v_mm (.ref h_nv) (.ref h_nn) (.ref h_na) (.ref h_nb) (.ref h_nc) (.ref h_let) (.ref h_wri) (.int z52) (.int x_mm_room)))), (h_wri, .inl (cy_wri, 1000, .inl f53))] := hD.sub [2, 3, 4, 5, 6, 7, 0, 1] (by decide) rfl
              exact ih13 (z55) (z52) (f53) _ _ _ (by omega) (by omega) (by omega) hP hD hS (lv_sub hl [1, 2, 3, 4, 5, 6, 0] rfl)
      have cst0 : (0 : Int32).toInt = 0 := by decide
      exact lp12 _ (0) (z6) (f7) _ _ _ (by decide) (by omega) (Nat.le_refl _) hP hD hS (lv_sub hl [3, 4, 5, 6, 2, 1, 0] rfl)
    · have kc3 := (not_congr (cv_eq (rfl : (z2).toInt = (z2).toInt) (by decide : ((-1) : Int32).toInt = -1))).mp c3
      refine lv_aload_n hx hb dX11_saysTerm_52 rfl (lv_at hl 2 rfl) ?_
      refine lv_aload_n hx hb dX11_saysTerm_53 rfl (lv_at hl 2 rfl) ?_
      refine va_get (D := (dC, dI)) (ci := 8) (v := .ref h_let) (C := RX11) (T := TX11) (N := 71) hx hb hw iwX11 hown hK hP 0 rfl rfl 10 (by decide) (hw _ w_f_X11_108) (fun _ h9 => h9) rfl dX11_saysTerm_54 ?_
      refine lv_bipush (v := 8) hx hb dX11_saysTerm_57 (by decide) ?_
      refine lv_iload hx hb dX11_saysTerm_59 (lv_at hl 0 rfl) ?_
      refine lv_iconst (v := (-1)) hx hb dX11_saysTerm_61 (by decide) ?_
      refine lv_icmp_ne (tgt := 69) hx hb dX11_saysTerm_62 (by decide) (fun c9 => absurd c9 (by decide)) (fun _ => ?_)
      refine lv_iload_n hx hb dX11_saysTerm_65 rfl (lv_at hl 5 rfl) ?_
      refine lv_goto (tgt := 76) hx hb dX11_saysTerm_66 (by decide) ?_
      refine lv_imul hx hb dX11_saysTerm_76 ?_
      refine lv_topi (fun z56 ez56 => ?_)
      have tz56 : (z56).toInt = 8 * (p3).toInt := by rw [ez56]; exact i_mul (by decide) rfl (by omega)
      refine lv_aload_n hx hb dX11_saysTerm_77 rfl (lv_at hl 2 rfl) ?_
      refine va_get (D := (dC, dI)) (ci := 8) (v := .ref h_nv) (C := RX11) (T := TX11) (N := 71) hx hb hw iwX11 hown hK hP 0 rfl rfl 1 (by decide) (hw _ w_f_X11_17) (fun _ h9 => h9) rfl dX11_saysTerm_78 ?_
      refine lv_iload hx hb dX11_saysTerm_81 (lv_at hl 1 rfl) ?_
      refine va_iald hx hb hK hP 3 2 rfl rfl (i := p1) (vp_in_iff.mpr (by omega)) dX11_saysTerm_83 ?_
      refine lv_topi (fun z57 ez57 => ?_)
      have qz57 : (z57).toInt = (z2).toInt := by rw [ez57, ez2]
      have rz57 : -1 ≤ (z57).toInt ∧ (z57).toInt ≤ 7 := by rw [ez57]; exact hf_nv _
      refine lv_iadd hx hb dX11_saysTerm_84 ?_
      refine lv_topi (fun z58 ez58 => ?_)
      have tz58 : (z58).toInt = (z56).toInt + (z57).toInt := by rw [ez58]; exact i_add rfl rfl (by omega)
      refine va_iald hx hb hK hP 2 1 rfl rfl (i := z58) (vp_in_iff.mpr (by omega)) dX11_saysTerm_85 ?_
      refine lv_topi (fun z59 ez59 => ?_)
      have hPc := hP.sub (ws' := [(h_mm, .inr (8, (mo72 v_mm (.ref h_nv) (.ref h_nn) (.ref h_na) (.ref h_nb) (.ref h_nc) (.ref h_let) (.ref h_wri) (.int x_mm_writes) (.int x_mm_room)))), (h_wri, .inl (cy_wri, 1000, .inl f_wri))]) [0, 1] rfl
      have hDc := hD.sub (ws' := [(h_mm, .inr (8, (mo72 v_mm (.ref h_nv) (.ref h_nn) (.ref h_na) (.ref h_nb) (.ref h_nc) (.ref h_let) (.ref h_wri) (.int x_mm_writes) (.int x_mm_room)))), (h_wri, .inl (cy_wri, 1000, .inl f_wri))]) [0, 1] (by decide) rfl
      have hKc := hK.sub (tys' := [(cy_wri, .int)]) [0] rfl
      have hFc := va_free (wc := [(h_mm, .inr (8, (mo72 v_mm (.ref h_nv) (.ref h_nn) (.ref h_na) (.ref h_nb) (.ref h_nc) (.ref h_let) (.ref h_wri) (.int x_mm_writes) (.int x_mm_room)))), (h_wri, .inl (cy_wri, 1000, .inl f_wri))]) hD hS hA [0, 1] rfl
      refine va_callv (va_runV (As := [.int z59]) (rest := []) ⟨hx, hb, hml, hown, hts⟩ (c_X11_says l dC dI s.heap.size h_mm h_wri (fun k => List.getD (mo72 v_mm (.ref h_nv) (.ref h_nn) (.ref h_na) (.ref h_nb) (.ref h_nc) (.ref h_let) (.ref h_wri) (.int x_mm_writes) (.int x_mm_room)) k .null) x_mm_writes x_mm_room cy_wri f_wri z59 (by omega) (by omega)) (cwV 1 hts (gv hT w_m_X11_452 w_instanceMethod_X11_says ws_sel_X11_says w_ini_X11 w_code_X11_says) rfl rfl rfl (by decide +kernel) ⟨(by dsimp only [headSpec]; omega), (by dsimp only [headSpec]; omega)⟩) ⟨pre_blind, va_recv hK hP (ci := 8) (q0 := 0) rfl rfl, pre_of hPc hKc hDc hN⟩ rfl rfl hl.1 rfl (lv_room (Nat.le_of_ble_eq_true rfl)) dX11_saysTerm_86 ⟨(Nat.le_of_ble_eq_true rfl), (Nat.le_of_ble_eq_true rfl)⟩) hS (fun q _ h => hFc q h) hFc (fun u t H locs ht hvm hq hB hz1 hk1 hS => ?_)
      obtain ⟨z61, f62⟩ := u
      obtain ⟨hP1, hD1⟩ := hB
      rw [ht] at hP1
      obtain ⟨hP, hD⟩ := va_join (wr := [(h_let, .inl (cy_let, 256, .inl f_let)), (h_nv, .inl (cy_nv, 8000, .inl f_nv)), (h_nn, .inl (cy_nn, 8000, .inr (.inl f_nn))), (h_na, .inl (cy_na, 8000, .inl f_na)), (h_nb, .inl (cy_nb, 8000, .inl f_nb)), (h_nc, .inl (cy_nc, 8000, .inl f_nc))]) (w1 := [(h_mm, .inr (8, (mo72 v_mm (.ref h_nv) (.ref h_nn) (.ref h_na) (.ref h_nb) (.ref h_nc) (.ref h_let) (.ref h_wri) (.int z61) (.int x_mm_room)))), (h_wri, .inl (cy_wri, 1000, .inl f62))]) hP hD [0, 1] [2, 3, 4, 5, 6, 7] rfl rfl (by decide) (by decide) hk1 hFc hP1 hD1
      have hP : va_P (dC, dI) cls [(h_let, .inl (cy_let, 256, .inl f_let)), (h_nv, .inl (cy_nv, 8000, .inl f_nv)), (h_nn, .inl (cy_nn, 8000, .inr (.inl f_nn))), (h_na, .inl (cy_na, 8000, .inl f_na)), (h_nb, .inl (cy_nb, 8000, .inl f_nb)), (h_nc, .inl (cy_nc, 8000, .inl f_nc)), (h_mm, .inr (8, (mo72 v_mm (.ref h_nv) (.ref h_nn) (.ref h_na) (.ref h_nb) (.ref h_nc) (.ref h_let) (.ref h_wri) (.int z61) (.int x_mm_room)))), (h_wri, .inl (cy_wri, 1000, .inl f62))] H := hP
      have hD : va_D A [(h_let, .inl (cy_let, 256, .inl f_let)), (h_nv, .inl (cy_nv, 8000, .inl f_nv)), (h_nn, .inl (cy_nn, 8000, .inr (.inl f_nn))), (h_na, .inl (cy_na, 8000, .inl f_na)), (h_nb, .inl (cy_nb, 8000, .inl f_nb)), (h_nc, .inl (cy_nc, 8000, .inl f_nc)), (h_mm, .inr (8, (mo72 v_mm (.ref h_nv) (.ref h_nn) (.ref h_na) (.ref h_nb) (.ref h_nc) (.ref h_let) (.ref h_wri) (.int z61) (.int x_mm_room)))), (h_wri, .inl (cy_wri, 1000, .inl f62))] := hD
      obtain ⟨k63, k64⟩ := hq
      have k63 : 0 ≤ ((z61)).toInt ∧ ((z61)).toInt ≤ 1000 := k63
      have k64 : ((x_mm_writes)).toInt ≤ ((z61)).toInt := k64
      refine lv_iload hx hb dX11_saysTerm_89 (lv_at hl 0 rfl) ?_
      refine lv_iconst (v := (-1)) hx hb dX11_saysTerm_91 (by decide) ?_
      refine lv_icmp_eq (tgt := 101) hx hb dX11_saysTerm_92 (by decide) (fun _ => ?_) (fun c9 => absurd c9 (by decide))
      have hP : va_P (dC, dI) cls [(h_mm, .inr (8, (mo72 v_mm (.ref h_nv) (.ref h_nn) (.ref h_na) (.ref h_nb) (.ref h_nc) (.ref h_let) (.ref h_wri) (.int z61) (.int x_mm_room)))), (h_wri, .inl (cy_wri, 1000, .inl f62)), (h_let, .inl (cy_let, 256, .inl f_let)), (h_nv, .inl (cy_nv, 8000, .inl f_nv)), (h_nn, .inl (cy_nn, 8000, .inr (.inl f_nn))), (h_na, .inl (cy_na, 8000, .inl f_na)), (h_nb, .inl (cy_nb, 8000, .inl f_nb)), (h_nc, .inl (cy_nc, 8000, .inl f_nc))] H := hP.sub [6, 7, 0, 1, 2, 3, 4, 5] rfl
      have hD : va_D A [(h_mm, .inr (8, (mo72 v_mm (.ref h_nv) (.ref h_nn) (.ref h_na) (.ref h_nb) (.ref h_nc) (.ref h_let) (.ref h_wri) (.int z61) (.int x_mm_room)))), (h_wri, .inl (cy_wri, 1000, .inl f62)), (h_let, .inl (cy_let, 256, .inl f_let)), (h_nv, .inl (cy_nv, 8000, .inl f_nv)), (h_nn, .inl (cy_nn, 8000, .inr (.inl f_nn))), (h_na, .inl (cy_na, 8000, .inl f_na)), (h_nb, .inl (cy_nb, 8000, .inl f_nb)), (h_nc, .inl (cy_nc, 8000, .inl f_nc))] := hD.sub [6, 7, 0, 1, 2, 3, 4, 5] (by decide) rfl
      refine W.widen (k := 0) (n := 0) (Nat.le_of_ble_eq_true rfl) (Nat.le_of_ble_eq_true rfl) ?_
      have w65 : 0 ≤ ((z61)).toInt ∧ ((z61)).toInt ≤ 1000 := by omega
      exact W.vret hx hb hr (fun t ht hW => ⟨⟨(z61, f62), rfl, w65, by rw [ht]; exact hP, hD⟩, hS.F ht⟩) hS.2.2 dX11_saysTerm_101
  · have kc1 := (not_congr (cv_le (rfl : (x_mm_writes).toInt = (x_mm_writes).toInt) (rfl : (x_mm_room).toInt = (x_mm_room).toInt))).mp c1
    refine W.widen (k := 0) (n := 0) (Nat.le_of_ble_eq_true rfl) (Nat.le_of_ble_eq_true rfl) ?_
    have w66 : 0 ≤ ((x_mm_writes)).toInt ∧ ((x_mm_writes)).toInt ≤ 1000 := by omega
    exact W.vret hx hb hr (fun t ht hW => ⟨⟨(x_mm_writes, f_wri), rfl, w66, by rw [ht]; exact hP, hD⟩, hS.F ht⟩) hS.2.2 dX11_saysTerm_11

def K_X11_saysTerm_1 (l : Launch) (fu : Nat) : Prop := ∀ (dC : Nat → ClassId) (dI : Nat → Nat → Nat) (sz : Nat) (h_mm : Nat) (h_wri : Nat) (h_let : Nat) (h_nv : Nat) (h_nn : Nat) (h_na : Nat) (h_nb : Nat) (h_nc : Nat) (h_bto : Nat) (h_bin : Nat) (h_cof : Nat) (v_mm : Nat → Value) (x_mm_goneTo : Int32) (x_mm_goneIn : Int32) (x_mm_writes : Int32) (x_mm_room : Int32) (cy_wri : ClassId) (f_wri : Nat → Int32) (cy_let : ClassId) (f_let : Nat → Int32) (cy_nv : ClassId) (f_nv : Nat → Int32) (cy_nn : ClassId) (f_nn : Nat → Int64) (cy_na : ClassId) (f_na : Nat → Int32) (cy_nb : ClassId) (f_nb : Nat → Int32) (cy_nc : ClassId) (f_nc : Nat → Int32) (cy_bto : ClassId) (f_bto : Nat → Int32) (cy_bin : ClassId) (f_bin : Nat → Int32) (cy_cof : ClassId) (f_cof : Nat → Int32) (p1 : Int32) (p2 : Int32) (p3 : Int32) (i0 : Int) (i1 : Int) (N : Int) (hz : Nat → Nat) (P : List Nat) (hx_mm_goneTo : 0 ≤ (x_mm_goneTo).toInt ∧ (x_mm_goneTo).toInt ≤ 7999) (hx_mm_goneIn : 0 ≤ (x_mm_goneIn).toInt ∧ (x_mm_goneIn).toInt ≤ 31) (hx_mm_writes : 0 ≤ (x_mm_writes).toInt ∧ (x_mm_writes).toInt ≤ 1000) (hx_mm_room : 0 ≤ (x_mm_room).toInt ∧ (x_mm_room).toInt ≤ 998) (hf_nv : Rg (-1) 7 f_nv) (hf_na : Rg (-1) 7999 f_na) (hf_nb : Rg (-1) 7999 f_nb) (hf_nc : Rg (-1) 7999 f_nc) (hf_bto : Rg (-1) 7999 f_bto) (hf_bin : Rg 0 31 f_bin) (hf_cof : Rg 0 15 f_cof) (q0 : 0 ≤ i0 ∧ i0 ≤ i1 ∧ i1 ≤ 31) (q1 : N ≤ 8000) (q2 : i0 = 0 ∧ i1 = 29) (q3 : 0 ≤ (p1).toInt ∧ (p1).toInt < N) (q4 : 0 ≤ (p2).toInt ∧ (p2).toInt ≤ 29) (q5 : hz (p1).toInt.toNat + 6 * (256 - (P).length) + 1 ≤ fu) (hn_bi : BI i0 i1 N hz f_nv f_na f_nb f_nc f_bto f_bin) (hn_pa : PA i0 P f_nv f_na f_nb f_nc f_bto f_bin (p1).toInt.toNat (p2).toInt), Met l yX11_saysTerm (Ws yX11_saysTerm cX11_saysTerm 7 none) (({ frames := fu + 15, cells := 0, slots := 0, locals := 26 * fu + 329 } : Room)) (PRE (dC, dI) cls [(cy_wri, .int), (cy_let, .int), (cy_nv, .int), (cy_nn, .long), (cy_na, .int), (cy_nb, .int), (cy_nc, .int), (cy_bto, .int), (cy_bin, .int), (cy_cof, .int)] [(h_mm, .inr (8, (mo73 v_mm (.ref h_nv) (.ref h_nn) (.ref h_na) (.ref h_nb) (.ref h_nc) (.ref h_let) (.ref h_bto) (.ref h_bin) (.int x_mm_goneTo) (.int x_mm_goneIn) (.ref h_cof) (.ref h_wri) (.int x_mm_writes) (.int x_mm_room)))), (h_wri, .inl (cy_wri, 1000, .inl f_wri)), (h_let, .inl (cy_let, 256, .inl f_let)), (h_nv, .inl (cy_nv, 8000, .inl f_nv)), (h_nn, .inl (cy_nn, 8000, .inr (.inl f_nn))), (h_na, .inl (cy_na, 8000, .inl f_na)), (h_nb, .inl (cy_nb, 8000, .inl f_nb)), (h_nc, .inl (cy_nc, 8000, .inl f_nc)), (h_bto, .inl (cy_bto, 256, .inl f_bto)), (h_bin, .inl (cy_bin, 256, .inl f_bin)), (h_cof, .inl (cy_cof, 31, .inl f_cof))] sz [.ref h_mm, .int p1, .int p2, .int p3]) (va_Qv (fun (u : (Int32) × (Int32) × (Int32) × (Nat → Int32)) => (0 ≤ (u.1).toInt ∧ (u.1).toInt ≤ 7999) ∧ (0 ≤ (u.2.1).toInt ∧ (u.2.1).toInt ≤ 31) ∧ (0 ≤ (u.2.2.1).toInt ∧ (u.2.2.1).toInt ≤ 1000)) (fun (u : (Int32) × (Int32) × (Int32) × (Nat → Int32)) (t : State) => va_P (dC, dI) cls [(h_mm, .inr (8, (mo73 v_mm (.ref h_nv) (.ref h_nn) (.ref h_na) (.ref h_nb) (.ref h_nc) (.ref h_let) (.ref h_bto) (.ref h_bin) (.int u.1) (.int u.2.1) (.ref h_cof) (.ref h_wri) (.int u.2.2.1) (.int x_mm_room)))), (h_wri, .inl (cy_wri, 1000, .inl u.2.2.2)), (h_let, .inl (cy_let, 256, .inl f_let)), (h_nv, .inl (cy_nv, 8000, .inl f_nv)), (h_nn, .inl (cy_nn, 8000, .inr (.inl f_nn))), (h_na, .inl (cy_na, 8000, .inl f_na)), (h_nb, .inl (cy_nb, 8000, .inl f_nb)), (h_nc, .inl (cy_nc, 8000, .inl f_nc)), (h_bto, .inl (cy_bto, 256, .inl f_bto)), (h_bin, .inl (cy_bin, 256, .inl f_bin)), (h_cof, .inl (cy_cof, 31, .inl f_cof))] t.heap ∧ va_D (va_A [(h_mm, .inr (8, (mo73 v_mm (.ref h_nv) (.ref h_nn) (.ref h_na) (.ref h_nb) (.ref h_nc) (.ref h_let) (.ref h_bto) (.ref h_bin) (.int x_mm_goneTo) (.int x_mm_goneIn) (.ref h_cof) (.ref h_wri) (.int x_mm_writes) (.int x_mm_room)))), (h_wri, .inl (cy_wri, 1000, .inl f_wri)), (h_let, .inl (cy_let, 256, .inl f_let)), (h_nv, .inl (cy_nv, 8000, .inl f_nv)), (h_nn, .inl (cy_nn, 8000, .inr (.inl f_nn))), (h_na, .inl (cy_na, 8000, .inl f_na)), (h_nb, .inl (cy_nb, 8000, .inl f_nb)), (h_nc, .inl (cy_nc, 8000, .inl f_nc)), (h_bto, .inl (cy_bto, 256, .inl f_bto)), (h_bin, .inl (cy_bin, 256, .inl f_bin)), (h_cof, .inl (cy_cof, 31, .inl f_cof))] sz) [(h_mm, .inr (8, (mo73 v_mm (.ref h_nv) (.ref h_nn) (.ref h_na) (.ref h_nb) (.ref h_nc) (.ref h_let) (.ref h_bto) (.ref h_bin) (.int u.1) (.int u.2.1) (.ref h_cof) (.ref h_wri) (.int u.2.2.1) (.int x_mm_room)))), (h_wri, .inl (cy_wri, 1000, .inl u.2.2.2)), (h_let, .inl (cy_let, 256, .inl f_let)), (h_nv, .inl (cy_nv, 8000, .inl f_nv)), (h_nn, .inl (cy_nn, 8000, .inr (.inl f_nn))), (h_na, .inl (cy_na, 8000, .inl f_na)), (h_nb, .inl (cy_nb, 8000, .inl f_nb)), (h_nc, .inl (cy_nc, 8000, .inl f_nc)), (h_bto, .inl (cy_bto, 256, .inl f_bto)), (h_bin, .inl (cy_bin, 256, .inl f_bin)), (h_cof, .inl (cy_cof, 31, .inl f_cof))]) (va_A [(h_mm, .inr (8, (mo73 v_mm (.ref h_nv) (.ref h_nn) (.ref h_na) (.ref h_nb) (.ref h_nc) (.ref h_let) (.ref h_bto) (.ref h_bin) (.int x_mm_goneTo) (.int x_mm_goneIn) (.ref h_cof) (.ref h_wri) (.int x_mm_writes) (.int x_mm_room)))), (h_wri, .inl (cy_wri, 1000, .inl f_wri)), (h_let, .inl (cy_let, 256, .inl f_let)), (h_nv, .inl (cy_nv, 8000, .inl f_nv)), (h_nn, .inl (cy_nn, 8000, .inr (.inl f_nn))), (h_na, .inl (cy_na, 8000, .inl f_na)), (h_nb, .inl (cy_nb, 8000, .inl f_nb)), (h_nc, .inl (cy_nc, 8000, .inl f_nc)), (h_bto, .inl (cy_bto, 256, .inl f_bto)), (h_bin, .inl (cy_bin, 256, .inl f_bin)), (h_cof, .inl (cy_cof, 31, .inl f_cof))] sz)) 0 0 (va_A [(h_mm, .inr (8, (mo73 v_mm (.ref h_nv) (.ref h_nn) (.ref h_na) (.ref h_nb) (.ref h_nc) (.ref h_let) (.ref h_bto) (.ref h_bin) (.int x_mm_goneTo) (.int x_mm_goneIn) (.ref h_cof) (.ref h_wri) (.int x_mm_writes) (.int x_mm_room)))), (h_wri, .inl (cy_wri, 1000, .inl f_wri)), (h_let, .inl (cy_let, 256, .inl f_let)), (h_nv, .inl (cy_nv, 8000, .inl f_nv)), (h_nn, .inl (cy_nn, 8000, .inr (.inl f_nn))), (h_na, .inl (cy_na, 8000, .inl f_na)), (h_nb, .inl (cy_nb, 8000, .inl f_nb)), (h_nc, .inl (cy_nc, 8000, .inl f_nc)), (h_bto, .inl (cy_bto, 256, .inl f_bto)), (h_bin, .inl (cy_bin, 256, .inl f_bin)), (h_cof, .inl (cy_cof, 31, .inl f_cof))] sz)
set_option maxHeartbeats 8000000 in
set_option maxRecDepth 100000 in
theorem c_X11_saysTerm_1 (l : Launch) (fu : Nat) : K_X11_saysTerm_1 l fu := by
  refine Nat.rec (motive := fun fu => K_X11_saysTerm_1 l fu) ?_ ?_ fu
  · intro dC dI sz h_mm h_wri h_let h_nv h_nn h_na h_nb h_nc h_bto h_bin h_cof v_mm x_mm_goneTo x_mm_goneIn x_mm_writes x_mm_room cy_wri f_wri cy_let f_let cy_nv f_nv cy_nn f_nn cy_na f_na cy_nb f_nb cy_nc f_nc cy_bto f_bto cy_bin f_bin cy_cof f_cof p1 p2 p3 i0 i1 N hz P hx_mm_goneTo hx_mm_goneIn hx_mm_writes hx_mm_room hf_nv hf_na hf_nb hf_nc hf_bto hf_bin hf_cof q0 q1 q2 q3 q4 q5 hn_bi hn_pa
    have h09 : Nat.zero = 0 := rfl
    exact False.elim (by omega)
  intro fu ihf
  intro dC dI sz h_mm h_wri h_let h_nv h_nn h_na h_nb h_nc h_bto h_bin h_cof v_mm x_mm_goneTo x_mm_goneIn x_mm_writes x_mm_room cy_wri f_wri cy_let f_let cy_nv f_nv cy_nn f_nn cy_na f_na cy_nb f_nb cy_nc f_nc cy_bto f_bto cy_bin f_bin cy_cof f_cof p1 p2 p3 i0 i1 N hz P hx_mm_goneTo hx_mm_goneIn hx_mm_writes hx_mm_room hf_nv hf_na hf_nb hf_nc hf_bto hf_bin hf_cof q0 q1 q2 q3 q4 q5 hn_bi hn_pa
  refine Met.ofW (cc := cX11_saysTerm) (maxL := 7) (ret := none) (by decide) rfl ?_
  intro p e s m args below meth c s₁ B hml hv
  obtain ⟨rfl, hsz, hP, hK, hD0, hN⟩ := hv
  have hx := B.exec
  have hb := B.bytes
  have hr := B.returns
  have hts := atoms_spec (ws := Ws yX11_saysTerm cX11_saysTerm 7 none) B.pre
  have hT : ∀ w ∈ WALL, w ∈ Ws yX11_saysTerm cX11_saysTerm 7 none := fun w h => List.mem_cons_of_mem _ h
  have hw := fun w (h : w ∈ WALL) => hts w (hT w h)
  have hown : s.vm.findClass RX11 = some m.cls := findClass_of_methodNamed B.named
  have hlocks := B.notSynchronized
  subst hsz
  have hD := hD0.self (sz := s.heap.size)
  generalize hAe : va_A [(h_mm, .inr (8, (mo73 v_mm (.ref h_nv) (.ref h_nn) (.ref h_na) (.ref h_nb) (.ref h_nc) (.ref h_let) (.ref h_bto) (.ref h_bin) (.int x_mm_goneTo) (.int x_mm_goneIn) (.ref h_cof) (.ref h_wri) (.int x_mm_writes) (.int x_mm_room)))), (h_wri, .inl (cy_wri, 1000, .inl f_wri)), (h_let, .inl (cy_let, 256, .inl f_let)), (h_nv, .inl (cy_nv, 8000, .inl f_nv)), (h_nn, .inl (cy_nn, 8000, .inr (.inl f_nn))), (h_na, .inl (cy_na, 8000, .inl f_na)), (h_nb, .inl (cy_nb, 8000, .inl f_nb)), (h_nc, .inl (cy_nc, 8000, .inl f_nc)), (h_bto, .inl (cy_bto, 256, .inl f_bto)), (h_bin, .inl (cy_bin, 256, .inl f_bin)), (h_cof, .inl (cy_cof, 31, .inl f_cof))] s.heap.size = A at hD ⊢
  have hA : ∀ q : Nat, s.heap.size ≤ q → A q := fun q h => by rw [← hAe]; exact Or.inr h
  have hS : va_S A s.heap s.heap [] := va_S.rf
  have hl := lv_entry ([.ref h_mm, .int p1, .int p2, .int p3]) (n := 7) (Nat.le_of_ble_eq_true rfl)
  rw [lg_entry_eq]
  generalize (lg_sl ([.ref h_mm, .int p1, .int p2, .int p3]) ++ List.replicate (7 - (lg_sl ([.ref h_mm, .int p1, .int p2, .int p3])).length) Slot.unset).toArray = ls at hl ⊢
  have hl : lv_has ls 7 [(0, .ref h_mm), (1, .int p1), (2, .int p2), (3, .int p3)] := hl
  refine lv_aload_n hx hb dX11_saysTerm_0 rfl (lv_at hl 0 rfl) ?_
  refine va_get (D := (dC, dI)) (ci := 8) (v := .int x_mm_writes) (C := RX11) (T := TX11) (N := 71) hx hb hw iwX11 hown hK hP 0 rfl rfl 65 (by decide) (hw _ w_f_X11_443) (fun _ h9 => h9) rfl dX11_saysTerm_1 ?_
  refine lv_aload_n hx hb dX11_saysTerm_4 rfl (lv_at hl 0 rfl) ?_
  refine va_get (D := (dC, dI)) (ci := 8) (v := .int x_mm_room) (C := RX11) (T := TX11) (N := 71) hx hb hw iwX11 hown hK hP 0 rfl rfl 66 (by decide) (hw _ w_f_X11_446) (fun _ h9 => h9) rfl dX11_saysTerm_5 ?_
  refine lv_icmp_le (tgt := 12) hx hb dX11_saysTerm_8 (by decide) (fun c1 => ?_) (fun c1 => ?_)
  · have kc1 := (cv_le (rfl : (x_mm_writes).toInt = (x_mm_writes).toInt) (rfl : (x_mm_room).toInt = (x_mm_room).toInt)).mp c1
    refine lv_iload_n hx hb dX11_saysTerm_12 rfl (lv_at hl 1 rfl) ?_
    refine lv_istore (lv' := [(4, .int p1), (0, .ref h_mm), (1, .int p1), (2, .int p2), (3, .int p3)]) hx hb dX11_saysTerm_13 hl (by decide) rfl (fun ls hl => ?_)
    refine lv_iload_n hx hb dX11_saysTerm_15 rfl (lv_at hl 3 rfl) ?_
    refine lv_istore (lv' := [(5, .int p2), (4, .int p1), (0, .ref h_mm), (1, .int p1), (2, .int p2), (3, .int p3)]) hx hb dX11_saysTerm_16 hl (by decide) rfl (fun ls hl => ?_)
    refine lv_iload_n hx hb dX11_saysTerm_18 rfl (lv_at hl 4 rfl) ?_
    refine lv_iconst (v := (-1)) hx hb dX11_saysTerm_19 (by decide) ?_
    refine lv_icmp_eq (tgt := 41) hx hb dX11_saysTerm_20 (by decide) (fun c2 => False.elim (by have kc2 := (cv_eq (rfl : (p2).toInt = (p2).toInt) (by decide : ((-1) : Int32).toInt = -1)).mp c2; omega)) (fun _ => ?_)
    refine lv_aload_n hx hb dX11_saysTerm_23 rfl (lv_at hl 2 rfl) ?_
    refine lv_iload_n hx hb dX11_saysTerm_24 rfl (lv_at hl 3 rfl) ?_
    refine lv_iload_n hx hb dX11_saysTerm_25 rfl (lv_at hl 4 rfl) ?_
    have hPc := hP.sub (ws' := [(h_mm, .inr (8, (mo73 v_mm (.ref h_nv) (.ref h_nn) (.ref h_na) (.ref h_nb) (.ref h_nc) (.ref h_let) (.ref h_bto) (.ref h_bin) (.int x_mm_goneTo) (.int x_mm_goneIn) (.ref h_cof) (.ref h_wri) (.int x_mm_writes) (.int x_mm_room)))), (h_nv, .inl (cy_nv, 8000, .inl f_nv)), (h_na, .inl (cy_na, 8000, .inl f_na)), (h_nb, .inl (cy_nb, 8000, .inl f_nb)), (h_nc, .inl (cy_nc, 8000, .inl f_nc)), (h_bto, .inl (cy_bto, 256, .inl f_bto)), (h_bin, .inl (cy_bin, 256, .inl f_bin))]) [0, 3, 5, 6, 7, 8, 9] rfl
    have hDc := hD.sub (ws' := [(h_mm, .inr (8, (mo73 v_mm (.ref h_nv) (.ref h_nn) (.ref h_na) (.ref h_nb) (.ref h_nc) (.ref h_let) (.ref h_bto) (.ref h_bin) (.int x_mm_goneTo) (.int x_mm_goneIn) (.ref h_cof) (.ref h_wri) (.int x_mm_writes) (.int x_mm_room)))), (h_nv, .inl (cy_nv, 8000, .inl f_nv)), (h_na, .inl (cy_na, 8000, .inl f_na)), (h_nb, .inl (cy_nb, 8000, .inl f_nb)), (h_nc, .inl (cy_nc, 8000, .inl f_nc)), (h_bto, .inl (cy_bto, 256, .inl f_bto)), (h_bin, .inl (cy_bin, 256, .inl f_bin))]) [0, 3, 5, 6, 7, 8, 9] (by decide) rfl
    have hKc := hK.sub (tys' := [(cy_nv, .int), (cy_na, .int), (cy_nb, .int), (cy_nc, .int), (cy_bto, .int), (cy_bin, .int)]) [2, 4, 5, 6, 7, 8] rfl
    have hFc := va_free (wc := [(h_mm, .inr (8, (mo73 v_mm (.ref h_nv) (.ref h_nn) (.ref h_na) (.ref h_nb) (.ref h_nc) (.ref h_let) (.ref h_bto) (.ref h_bin) (.int x_mm_goneTo) (.int x_mm_goneIn) (.ref h_cof) (.ref h_wri) (.int x_mm_writes) (.int x_mm_room)))), (h_nv, .inl (cy_nv, 8000, .inl f_nv)), (h_na, .inl (cy_na, 8000, .inl f_na)), (h_nb, .inl (cy_nb, 8000, .inl f_nb)), (h_nc, .inl (cy_nc, 8000, .inl f_nc)), (h_bto, .inl (cy_bto, 256, .inl f_bto)), (h_bin, .inl (cy_bin, 256, .inl f_bin))]) hD hS hA [0, 3, 5, 6, 7, 8, 9] rfl
    refine va_callv (va_runV (As := [.int p1, .int p2]) (rest := []) ⟨hx, hb, hml, hown, hts⟩ (c_X11_goesTo l dC dI s.heap.size h_mm h_nv h_na h_nb h_nc h_bto h_bin (fun k => List.getD (mo73 v_mm (.ref h_nv) (.ref h_nn) (.ref h_na) (.ref h_nb) (.ref h_nc) (.ref h_let) (.ref h_bto) (.ref h_bin) (.int x_mm_goneTo) (.int x_mm_goneIn) (.ref h_cof) (.ref h_wri) (.int x_mm_writes) (.int x_mm_room)) k .null) x_mm_goneTo x_mm_goneIn cy_nv f_nv cy_na f_na cy_nb f_nb cy_nc f_nc cy_bto f_bto cy_bin f_bin p1 p2 i0 i1 N hz P (fu + 1) (by omega) (by omega) hf_nv hf_na hf_nb hf_nc hf_bto hf_bin (by omega) (by omega) (by omega) (by omega) (by omega) hn_bi hn_pa) (cwV 2 hts (gv hT w_m_X11_273 w_instanceMethod_X11_goesTo ws_sel_X11_goesTo w_ini_X11 w_code_X11_goesTo) rfl rfl rfl (by decide +kernel) ⟨(by dsimp only [headSpec]; omega), (by dsimp only [headSpec]; omega)⟩) ⟨pre_blind, va_recv hK hP (ci := 8) (q0 := 0) rfl rfl, pre_of hPc hKc hDc hN⟩ rfl rfl hl.1 rfl (lv_room (Nat.le_of_ble_eq_true rfl)) dX11_saysTerm_26 ⟨(Nat.le_of_ble_eq_true rfl), (Nat.le_of_ble_eq_true rfl)⟩) hS (fun q _ h => hFc q h) hFc (fun u t H locs ht hvm hq hB hz1 hk1 hS => ?_)
    obtain ⟨z4, z5, z6⟩ := u
    obtain ⟨hP1, hD1⟩ := hB
    rw [ht] at hP1
    obtain ⟨hP, hD⟩ := va_join (wr := [(h_wri, .inl (cy_wri, 1000, .inl f_wri)), (h_let, .inl (cy_let, 256, .inl f_let)), (h_nn, .inl (cy_nn, 8000, .inr (.inl f_nn))), (h_cof, .inl (cy_cof, 31, .inl f_cof))]) (w1 := [(h_mm, .inr (8, (mo73 v_mm (.ref h_nv) (.ref h_nn) (.ref h_na) (.ref h_nb) (.ref h_nc) (.ref h_let) (.ref h_bto) (.ref h_bin) (.int z4) (.int z5) (.ref h_cof) (.ref h_wri) (.int x_mm_writes) (.int x_mm_room)))), (h_nv, .inl (cy_nv, 8000, .inl f_nv)), (h_na, .inl (cy_na, 8000, .inl f_na)), (h_nb, .inl (cy_nb, 8000, .inl f_nb)), (h_nc, .inl (cy_nc, 8000, .inl f_nc)), (h_bto, .inl (cy_bto, 256, .inl f_bto)), (h_bin, .inl (cy_bin, 256, .inl f_bin))]) hP hD [0, 3, 5, 6, 7, 8, 9] [1, 2, 4, 10] rfl rfl (by decide) (by decide) hk1 hFc hP1 hD1
    have hP : va_P (dC, dI) cls [(h_wri, .inl (cy_wri, 1000, .inl f_wri)), (h_let, .inl (cy_let, 256, .inl f_let)), (h_nn, .inl (cy_nn, 8000, .inr (.inl f_nn))), (h_cof, .inl (cy_cof, 31, .inl f_cof)), (h_mm, .inr (8, (mo73 v_mm (.ref h_nv) (.ref h_nn) (.ref h_na) (.ref h_nb) (.ref h_nc) (.ref h_let) (.ref h_bto) (.ref h_bin) (.int z4) (.int z5) (.ref h_cof) (.ref h_wri) (.int x_mm_writes) (.int x_mm_room)))), (h_nv, .inl (cy_nv, 8000, .inl f_nv)), (h_na, .inl (cy_na, 8000, .inl f_na)), (h_nb, .inl (cy_nb, 8000, .inl f_nb)), (h_nc, .inl (cy_nc, 8000, .inl f_nc)), (h_bto, .inl (cy_bto, 256, .inl f_bto)), (h_bin, .inl (cy_bin, 256, .inl f_bin))] H := hP
    have hD : va_D A [(h_wri, .inl (cy_wri, 1000, .inl f_wri)), (h_let, .inl (cy_let, 256, .inl f_let)), (h_nn, .inl (cy_nn, 8000, .inr (.inl f_nn))), (h_cof, .inl (cy_cof, 31, .inl f_cof)), (h_mm, .inr (8, (mo73 v_mm (.ref h_nv) (.ref h_nn) (.ref h_na) (.ref h_nb) (.ref h_nc) (.ref h_let) (.ref h_bto) (.ref h_bin) (.int z4) (.int z5) (.ref h_cof) (.ref h_wri) (.int x_mm_writes) (.int x_mm_room)))), (h_nv, .inl (cy_nv, 8000, .inl f_nv)), (h_na, .inl (cy_na, 8000, .inl f_na)), (h_nb, .inl (cy_nb, 8000, .inl f_nb)), (h_nc, .inl (cy_nc, 8000, .inl f_nc)), (h_bto, .inl (cy_bto, 256, .inl f_bto)), (h_bin, .inl (cy_bin, 256, .inl f_bin))] := hD
    obtain ⟨k7, k8, k9, k10, k11, k12, k13, k14⟩ := hq
    have k7 : 0 ≤ ((z4)).toInt ∧ ((z4)).toInt ≤ 7999 := k7
    have k8 : 0 ≤ ((z5)).toInt ∧ ((z5)).toInt ≤ 31 := k8
    have k9 : 0 ≤ ((z4)).toInt ∧ ((z4)).toInt < (N) := k9
    have k10 : (i0) ≤ ((z5)).toInt ∧ ((z5)).toInt ≤ (i1) := k10
    have k11 : (hz) ((z4)).toInt.toNat + 6 * (256 - ((z6)).length) + 1 ≤ ((fu + 1)) := k11
    have k12 : PA (i0) (z6) f_nv f_na f_nb f_nc f_bto f_bin ((z4)).toInt.toNat ((z5)).toInt := k12
    have k13 : (f_nv ((z4)).toInt.toNat).toInt = -1 ∨ (f_bto (8 * ((z5)).toInt + (f_nv ((z4)).toInt.toNat).toInt).toNat).toInt = -1 := k13
    have k14 : ∀ tt : Nat, (f_bto tt).toInt = -1 → NR f_nv f_na f_nb f_nc f_bto f_bin ((z4)).toInt.toNat ((z5)).toInt tt → NR f_nv f_na f_nb f_nc f_bto f_bin ((p1)).toInt.toNat ((p2)).toInt tt := k14
    refine lv_aload_n hx hb dX11_saysTerm_29 rfl (lv_at hl 2 rfl) ?_
    refine va_get (D := (dC, dI)) (ci := 8) (v := .int z4) (C := RX11) (T := TX11) (N := 71) hx hb hw iwX11 hown hK hP 4 rfl rfl 31 (by decide) (hw _ w_f_X11_264) (fun _ h9 => h9) rfl dX11_saysTerm_30 ?_
    refine lv_istore (lv' := [(4, .int z4), (5, .int p2), (0, .ref h_mm), (1, .int p1), (2, .int p2), (3, .int p3)]) hx hb dX11_saysTerm_33 hl (by decide) rfl (fun ls hl => ?_)
    refine lv_aload_n hx hb dX11_saysTerm_35 rfl (lv_at hl 2 rfl) ?_
    refine va_get (D := (dC, dI)) (ci := 8) (v := .int z5) (C := RX11) (T := TX11) (N := 71) hx hb hw iwX11 hown hK hP 4 rfl rfl 32 (by decide) (hw _ w_f_X11_267) (fun _ h9 => h9) rfl dX11_saysTerm_36 ?_
    refine lv_istore (lv' := [(5, .int z5), (4, .int z4), (0, .ref h_mm), (1, .int p1), (2, .int p2), (3, .int p3)]) hx hb dX11_saysTerm_39 hl (by decide) rfl (fun ls hl => ?_)
    refine lv_aload_n hx hb dX11_saysTerm_41 rfl (lv_at hl 2 rfl) ?_
    refine va_get (D := (dC, dI)) (ci := 8) (v := .ref h_nv) (C := RX11) (T := TX11) (N := 71) hx hb hw iwX11 hown hK hP 4 rfl rfl 1 (by decide) (hw _ w_f_X11_17) (fun _ h9 => h9) rfl dX11_saysTerm_42 ?_
    refine lv_iload hx hb dX11_saysTerm_45 (lv_at hl 1 rfl) ?_
    refine va_iald hx hb hK hP 5 2 rfl rfl (i := z4) (vp_in_iff.mpr (by omega)) dX11_saysTerm_47 ?_
    refine lv_topi (fun z15 ez15 => ?_)
    have rz15 : -1 ≤ (z15).toInt ∧ (z15).toInt ≤ 7 := by rw [ez15]; exact hf_nv _
    refine lv_iconst (v := (-1)) hx hb dX11_saysTerm_48 (by decide) ?_
    refine lv_icmp_eq (tgt := 102) hx hb dX11_saysTerm_49 (by decide) (fun c16 => ?_) (fun c16 => ?_)
    · have kc16 := (cv_eq (rfl : (z15).toInt = (z15).toInt) (by decide : ((-1) : Int32).toInt = -1)).mp c16
      refine lv_aload_n hx hb dX11_saysTerm_102 rfl (lv_at hl 2 rfl) ?_
      refine lv_aload_n hx hb dX11_saysTerm_103 rfl (lv_at hl 2 rfl) ?_
      refine va_get (D := (dC, dI)) (ci := 8) (v := .ref h_nn) (C := RX11) (T := TX11) (N := 71) hx hb hw iwX11 hown hK hP 4 rfl rfl 2 (by decide) (hw _ w_f_X11_23) (fun _ h9 => h9) rfl dX11_saysTerm_104 ?_
      refine lv_iload hx hb dX11_saysTerm_107 (lv_at hl 1 rfl) ?_
      refine va_lald hx hb hK hP 2 3 rfl rfl (i := z4) (vp_in_iff.mpr (by omega)) dX11_saysTerm_109 ?_
      refine lv_topl (fun z17 ez17 => ?_)
      have hPc := hP.sub (ws' := [(h_mm, .inr (8, (mo73 v_mm (.ref h_nv) (.ref h_nn) (.ref h_na) (.ref h_nb) (.ref h_nc) (.ref h_let) (.ref h_bto) (.ref h_bin) (.int z4) (.int z5) (.ref h_cof) (.ref h_wri) (.int x_mm_writes) (.int x_mm_room)))), (h_wri, .inl (cy_wri, 1000, .inl f_wri))]) [4, 0] rfl
      have hDc := hD.sub (ws' := [(h_mm, .inr (8, (mo73 v_mm (.ref h_nv) (.ref h_nn) (.ref h_na) (.ref h_nb) (.ref h_nc) (.ref h_let) (.ref h_bto) (.ref h_bin) (.int z4) (.int z5) (.ref h_cof) (.ref h_wri) (.int x_mm_writes) (.int x_mm_room)))), (h_wri, .inl (cy_wri, 1000, .inl f_wri))]) [4, 0] (by decide) rfl
      have hKc := hK.sub (tys' := [(cy_wri, .int)]) [0] rfl
      have hFc := va_free (wc := [(h_mm, .inr (8, (mo73 v_mm (.ref h_nv) (.ref h_nn) (.ref h_na) (.ref h_nb) (.ref h_nc) (.ref h_let) (.ref h_bto) (.ref h_bin) (.int z4) (.int z5) (.ref h_cof) (.ref h_wri) (.int x_mm_writes) (.int x_mm_room)))), (h_wri, .inl (cy_wri, 1000, .inl f_wri))]) hD hS hA [4, 0] rfl
      refine va_callv (va_runV (As := [.long z17]) (rest := []) ⟨hx, hb, hml, hown, hts⟩ (c_X11_saysName_13 l dC dI H.size h_mm h_wri (fun k => List.getD (mo73 v_mm (.ref h_nv) (.ref h_nn) (.ref h_na) (.ref h_nb) (.ref h_nc) (.ref h_let) (.ref h_bto) (.ref h_bin) (.int z4) (.int z5) (.ref h_cof) (.ref h_wri) (.int x_mm_writes) (.int x_mm_room)) k .null) x_mm_writes x_mm_room cy_wri f_wri z17 (by omega) (by omega)) (cwV 1 hts (gv hT w_m_X11_455 w_instanceMethod_X11_saysName ws_sel_X11_saysName w_ini_X11 w_code_X11_saysName) rfl rfl rfl (by decide +kernel) ⟨(by dsimp only [headSpec]; omega), (by dsimp only [headSpec]; omega)⟩) ⟨pre_blind, va_recv hK hP (ci := 8) (q0 := 4) rfl rfl, pre_of hPc hKc hDc hN⟩ rfl rfl hl.1 rfl (lv_room (Nat.le_of_ble_eq_true rfl)) dX11_saysTerm_110 ⟨(Nat.le_of_ble_eq_true rfl), (Nat.le_of_ble_eq_true rfl)⟩) hS (fun q _ h => hFc q h) hFc (fun u t H locs ht hvm hq hB hz1 hk1 hS => ?_)
      obtain ⟨z19, f20⟩ := u
      obtain ⟨hP1, hD1⟩ := hB
      rw [ht] at hP1
      obtain ⟨hP, hD⟩ := va_join (wr := [(h_let, .inl (cy_let, 256, .inl f_let)), (h_nn, .inl (cy_nn, 8000, .inr (.inl f_nn))), (h_cof, .inl (cy_cof, 31, .inl f_cof)), (h_nv, .inl (cy_nv, 8000, .inl f_nv)), (h_na, .inl (cy_na, 8000, .inl f_na)), (h_nb, .inl (cy_nb, 8000, .inl f_nb)), (h_nc, .inl (cy_nc, 8000, .inl f_nc)), (h_bto, .inl (cy_bto, 256, .inl f_bto)), (h_bin, .inl (cy_bin, 256, .inl f_bin))]) (w1 := [(h_mm, .inr (8, (mo73 v_mm (.ref h_nv) (.ref h_nn) (.ref h_na) (.ref h_nb) (.ref h_nc) (.ref h_let) (.ref h_bto) (.ref h_bin) (.int z4) (.int z5) (.ref h_cof) (.ref h_wri) (.int z19) (.int x_mm_room)))), (h_wri, .inl (cy_wri, 1000, .inl f20))]) hP hD [4, 0] [1, 2, 3, 5, 6, 7, 8, 9, 10] rfl rfl (by decide) (by decide) hk1 hFc hP1 hD1
      have hP : va_P (dC, dI) cls [(h_let, .inl (cy_let, 256, .inl f_let)), (h_nn, .inl (cy_nn, 8000, .inr (.inl f_nn))), (h_cof, .inl (cy_cof, 31, .inl f_cof)), (h_nv, .inl (cy_nv, 8000, .inl f_nv)), (h_na, .inl (cy_na, 8000, .inl f_na)), (h_nb, .inl (cy_nb, 8000, .inl f_nb)), (h_nc, .inl (cy_nc, 8000, .inl f_nc)), (h_bto, .inl (cy_bto, 256, .inl f_bto)), (h_bin, .inl (cy_bin, 256, .inl f_bin)), (h_mm, .inr (8, (mo73 v_mm (.ref h_nv) (.ref h_nn) (.ref h_na) (.ref h_nb) (.ref h_nc) (.ref h_let) (.ref h_bto) (.ref h_bin) (.int z4) (.int z5) (.ref h_cof) (.ref h_wri) (.int z19) (.int x_mm_room)))), (h_wri, .inl (cy_wri, 1000, .inl f20))] H := hP
      have hD : va_D A [(h_let, .inl (cy_let, 256, .inl f_let)), (h_nn, .inl (cy_nn, 8000, .inr (.inl f_nn))), (h_cof, .inl (cy_cof, 31, .inl f_cof)), (h_nv, .inl (cy_nv, 8000, .inl f_nv)), (h_na, .inl (cy_na, 8000, .inl f_na)), (h_nb, .inl (cy_nb, 8000, .inl f_nb)), (h_nc, .inl (cy_nc, 8000, .inl f_nc)), (h_bto, .inl (cy_bto, 256, .inl f_bto)), (h_bin, .inl (cy_bin, 256, .inl f_bin)), (h_mm, .inr (8, (mo73 v_mm (.ref h_nv) (.ref h_nn) (.ref h_na) (.ref h_nb) (.ref h_nc) (.ref h_let) (.ref h_bto) (.ref h_bin) (.int z4) (.int z5) (.ref h_cof) (.ref h_wri) (.int z19) (.int x_mm_room)))), (h_wri, .inl (cy_wri, 1000, .inl f20))] := hD
      have k21 : 0 ≤ ((z19)).toInt ∧ ((z19)).toInt ≤ 1000 := hq
      refine lv_iconst (v := 0) hx hb dX11_saysTerm_113 (by decide) ?_
      refine lv_istore (lv' := [(6, .int 0), (5, .int z5), (4, .int z4), (0, .ref h_mm), (1, .int p1), (2, .int p2), (3, .int p3)]) hx hb dX11_saysTerm_114 hl (by decide) rfl (fun ls hl => ?_)
      have lp27 : ∀ (n : Nat) (x22 : Int32) (x23 : Int32) (x24 : Int32) (x25 : Int32) (f26 : Nat → Int32) (H : Heap) (locs : List Loc) (ls : Array Slot), (0 ≤ (x22).toInt ∧ (x22).toInt ≤ 3) → (0 ≤ (x23).toInt ∧ (x23).toInt ≤ 7999) → (0 ≤ (x24).toInt ∧ (x24).toInt ≤ 31) → (0 ≤ (x25).toInt ∧ (x25).toInt ≤ 1000) → (3 - (x22).toInt).toNat + 1 ≤ n → va_P (dC, dI) cls [(h_let, .inl (cy_let, 256, .inl f_let)), (h_nn, .inl (cy_nn, 8000, .inr (.inl f_nn))), (h_cof, .inl (cy_cof, 31, .inl f_cof)), (h_nv, .inl (cy_nv, 8000, .inl f_nv)), (h_na, .inl (cy_na, 8000, .inl f_na)), (h_nb, .inl (cy_nb, 8000, .inl f_nb)), (h_nc, .inl (cy_nc, 8000, .inl f_nc)), (h_bto, .inl (cy_bto, 256, .inl f_bto)), (h_bin, .inl (cy_bin, 256, .inl f_bin)), (h_mm, .inr (8, (mo73 v_mm (.ref h_nv) (.ref h_nn) (.ref h_na) (.ref h_nb) (.ref h_nc) (.ref h_let) (.ref h_bto) (.ref h_bin) (.int x23) (.int x24) (.ref h_cof) (.ref h_wri) (.int x25) (.int x_mm_room)))), (h_wri, .inl (cy_wri, 1000, .inl f26))] H → va_D A [(h_let, .inl (cy_let, 256, .inl f_let)), (h_nn, .inl (cy_nn, 8000, .inr (.inl f_nn))), (h_cof, .inl (cy_cof, 31, .inl f_cof)), (h_nv, .inl (cy_nv, 8000, .inl f_nv)), (h_na, .inl (cy_na, 8000, .inl f_na)), (h_nb, .inl (cy_nb, 8000, .inl f_nb)), (h_nc, .inl (cy_nc, 8000, .inl f_nc)), (h_bto, .inl (cy_bto, 256, .inl f_bto)), (h_bin, .inl (cy_bin, 256, .inl f_bin)), (h_mm, .inr (8, (mo73 v_mm (.ref h_nv) (.ref h_nn) (.ref h_na) (.ref h_nb) (.ref h_nc) (.ref h_let) (.ref h_bto) (.ref h_bin) (.int x23) (.int x24) (.ref h_cof) (.ref h_wri) (.int x25) (.int x_mm_room)))), (h_wri, .inl (cy_wri, 1000, .inl f26))] → va_S A s.heap H locs → lv_has ls 7 [(0, .ref h_mm), (1, .int p1), (2, .int p2), (3, .int p3), (4, .int z4), (5, .int z5), (6, .int x22)] → W p l e ({ frames := (fu + 1) + 15, cells := 0, slots := 0, locals := 26 * (fu + 1) + 329 } : Room) s m ([.ref h_mm, .int p1, .int p2, .int p3] : List Value).toArray below meth c H locs 0 0 (MQ below (va_Qv (fun (u : (Int32) × (Int32) × (Int32) × (Nat → Int32)) => (0 ≤ (u.1).toInt ∧ (u.1).toInt ≤ 7999) ∧ (0 ≤ (u.2.1).toInt ∧ (u.2.1).toInt ≤ 31) ∧ (0 ≤ (u.2.2.1).toInt ∧ (u.2.2.1).toInt ≤ 1000)) (fun (u : (Int32) × (Int32) × (Int32) × (Nat → Int32)) (t : State) => va_P (dC, dI) cls [(h_mm, .inr (8, (mo73 v_mm (.ref h_nv) (.ref h_nn) (.ref h_na) (.ref h_nb) (.ref h_nc) (.ref h_let) (.ref h_bto) (.ref h_bin) (.int u.1) (.int u.2.1) (.ref h_cof) (.ref h_wri) (.int u.2.2.1) (.int x_mm_room)))), (h_wri, .inl (cy_wri, 1000, .inl u.2.2.2)), (h_let, .inl (cy_let, 256, .inl f_let)), (h_nv, .inl (cy_nv, 8000, .inl f_nv)), (h_nn, .inl (cy_nn, 8000, .inr (.inl f_nn))), (h_na, .inl (cy_na, 8000, .inl f_na)), (h_nb, .inl (cy_nb, 8000, .inl f_nb)), (h_nc, .inl (cy_nc, 8000, .inl f_nc)), (h_bto, .inl (cy_bto, 256, .inl f_bto)), (h_bin, .inl (cy_bin, 256, .inl f_bin)), (h_cof, .inl (cy_cof, 31, .inl f_cof))] t.heap ∧ va_D A [(h_mm, .inr (8, (mo73 v_mm (.ref h_nv) (.ref h_nn) (.ref h_na) (.ref h_nb) (.ref h_nc) (.ref h_let) (.ref h_bto) (.ref h_bin) (.int u.1) (.int u.2.1) (.ref h_cof) (.ref h_wri) (.int u.2.2.1) (.int x_mm_room)))), (h_wri, .inl (cy_wri, 1000, .inl u.2.2.2)), (h_let, .inl (cy_let, 256, .inl f_let)), (h_nv, .inl (cy_nv, 8000, .inl f_nv)), (h_nn, .inl (cy_nn, 8000, .inr (.inl f_nn))), (h_na, .inl (cy_na, 8000, .inl f_na)), (h_nb, .inl (cy_nb, 8000, .inl f_nb)), (h_nc, .inl (cy_nc, 8000, .inl f_nc)), (h_bto, .inl (cy_bto, 256, .inl f_bto)), (h_bin, .inl (cy_bin, 256, .inl f_bin)), (h_cof, .inl (cy_cof, 31, .inl f_cof))]) A) ([.ref h_mm, .int p1, .int p2, .int p3] : List Value).toArray s 0 0 A) (F0 m 116 ls []) := by
        intro n
        induction n with
        | zero => intro x22 x23 x24 x25 f26 H locs ls klp27_0 klp27_1 klp27_2 klp27_3 hm hP hD hS hl; exact False.elim (by omega)
        | succ n ih => 
          intro x22 x23 x24 x25 f26 H locs ls klp27_0 klp27_1 klp27_2 klp27_3 hm hP hD hS hl
          have ih28 := ih
          clear ih
          refine lv_iload hx hb dX11_saysTerm_116 (lv_at hl 6 rfl) ?_
          refine lv_aload_n hx hb dX11_saysTerm_118 rfl (lv_at hl 0 rfl) ?_
          refine lv_iload hx hb dX11_saysTerm_119 (lv_at hl 4 rfl) ?_
          have hPc := hP.sub (ws' := [(h_mm, .inr (8, (mo73 v_mm (.ref h_nv) (.ref h_nn) (.ref h_na) (.ref h_nb) (.ref h_nc) (.ref h_let) (.ref h_bto) (.ref h_bin) (.int x23) (.int x24) (.ref h_cof) (.ref h_wri) (.int x25) (.int x_mm_room)))), (h_nv, .inl (cy_nv, 8000, .inl f_nv)), (h_na, .inl (cy_na, 8000, .inl f_na)), (h_nb, .inl (cy_nb, 8000, .inl f_nb)), (h_nc, .inl (cy_nc, 8000, .inl f_nc))]) [9, 3, 4, 5, 6] rfl
          have hDc := hD.sub (ws' := [(h_mm, .inr (8, (mo73 v_mm (.ref h_nv) (.ref h_nn) (.ref h_na) (.ref h_nb) (.ref h_nc) (.ref h_let) (.ref h_bto) (.ref h_bin) (.int x23) (.int x24) (.ref h_cof) (.ref h_wri) (.int x25) (.int x_mm_room)))), (h_nv, .inl (cy_nv, 8000, .inl f_nv)), (h_na, .inl (cy_na, 8000, .inl f_na)), (h_nb, .inl (cy_nb, 8000, .inl f_nb)), (h_nc, .inl (cy_nc, 8000, .inl f_nc))]) [9, 3, 4, 5, 6] (by decide) rfl
          have hKc := hK.sub (tys' := [(cy_nv, .int), (cy_na, .int), (cy_nb, .int), (cy_nc, .int)]) [2, 4, 5, 6] rfl
          have hFc := va_free (wc := [(h_mm, .inr (8, (mo73 v_mm (.ref h_nv) (.ref h_nn) (.ref h_na) (.ref h_nb) (.ref h_nc) (.ref h_let) (.ref h_bto) (.ref h_bin) (.int x23) (.int x24) (.ref h_cof) (.ref h_wri) (.int x25) (.int x_mm_room)))), (h_nv, .inl (cy_nv, 8000, .inl f_nv)), (h_na, .inl (cy_na, 8000, .inl f_na)), (h_nb, .inl (cy_nb, 8000, .inl f_nb)), (h_nc, .inl (cy_nc, 8000, .inl f_nc))]) hD hS hA [9, 3, 4, 5, 6] rfl
          refine va_calli (va_runV (As := [.int z4]) (rest := [.int x22]) ⟨hx, hb, hml, hown, hts⟩ (c_X11_partsAt_e l dC dI H.size h_mm h_nv h_na h_nb h_nc (fun k => List.getD (mo73 v_mm (.ref h_nv) (.ref h_nn) (.ref h_na) (.ref h_nb) (.ref h_nc) (.ref h_let) (.ref h_bto) (.ref h_bin) (.int x23) (.int x24) (.ref h_cof) (.ref h_wri) (.int x25) (.int x_mm_room)) k .null) cy_nv f_nv cy_na f_na cy_nb f_nb cy_nc f_nc z4 hf_nv hf_na hf_nb hf_nc (by omega)) (cwV 1 hts (gv hT w_m_X11_27 w_instanceMethod_X11_partsAt ws_sel_X11_partsAt w_ini_X11 w_code_X11_partsAt) rfl rfl rfl (by decide +kernel) ⟨(by dsimp only [headSpec]; omega), (by dsimp only [headSpec]; omega)⟩) ⟨pre_blind, va_recv hK hP (ci := 8) (q0 := 9) rfl rfl, pre_of hPc hKc hDc hN⟩ rfl rfl hl.1 rfl (lv_room (Nat.le_of_ble_eq_true rfl)) dX11_saysTerm_121 ⟨(Nat.le_of_ble_eq_true rfl), (Nat.le_of_ble_eq_true rfl)⟩) hS (fun q _ h => hFc q h) hFc (fun r29 u t H locs ht hvm hq hB hz1 hk1 hS => ?_)
          obtain ⟨hP1, hD1⟩ := hB
          rw [ht] at hP1
          obtain ⟨hP, hD⟩ := va_join (wr := [(h_let, .inl (cy_let, 256, .inl f_let)), (h_nn, .inl (cy_nn, 8000, .inr (.inl f_nn))), (h_cof, .inl (cy_cof, 31, .inl f_cof)), (h_bto, .inl (cy_bto, 256, .inl f_bto)), (h_bin, .inl (cy_bin, 256, .inl f_bin)), (h_wri, .inl (cy_wri, 1000, .inl f26))]) (w1 := [(h_mm, .inr (8, (mo73 v_mm (.ref h_nv) (.ref h_nn) (.ref h_na) (.ref h_nb) (.ref h_nc) (.ref h_let) (.ref h_bto) (.ref h_bin) (.int x23) (.int x24) (.ref h_cof) (.ref h_wri) (.int x25) (.int x_mm_room)))), (h_nv, .inl (cy_nv, 8000, .inl f_nv)), (h_na, .inl (cy_na, 8000, .inl f_na)), (h_nb, .inl (cy_nb, 8000, .inl f_nb)), (h_nc, .inl (cy_nc, 8000, .inl f_nc))]) hP hD [9, 3, 4, 5, 6] [0, 1, 2, 7, 8, 10] rfl rfl (by decide) (by decide) hk1 hFc hP1 hD1
          have hP : va_P (dC, dI) cls [(h_let, .inl (cy_let, 256, .inl f_let)), (h_nn, .inl (cy_nn, 8000, .inr (.inl f_nn))), (h_cof, .inl (cy_cof, 31, .inl f_cof)), (h_bto, .inl (cy_bto, 256, .inl f_bto)), (h_bin, .inl (cy_bin, 256, .inl f_bin)), (h_wri, .inl (cy_wri, 1000, .inl f26)), (h_mm, .inr (8, (mo73 v_mm (.ref h_nv) (.ref h_nn) (.ref h_na) (.ref h_nb) (.ref h_nc) (.ref h_let) (.ref h_bto) (.ref h_bin) (.int x23) (.int x24) (.ref h_cof) (.ref h_wri) (.int x25) (.int x_mm_room)))), (h_nv, .inl (cy_nv, 8000, .inl f_nv)), (h_na, .inl (cy_na, 8000, .inl f_na)), (h_nb, .inl (cy_nb, 8000, .inl f_nb)), (h_nc, .inl (cy_nc, 8000, .inl f_nc))] H := hP
          have hD : va_D A [(h_let, .inl (cy_let, 256, .inl f_let)), (h_nn, .inl (cy_nn, 8000, .inr (.inl f_nn))), (h_cof, .inl (cy_cof, 31, .inl f_cof)), (h_bto, .inl (cy_bto, 256, .inl f_bto)), (h_bin, .inl (cy_bin, 256, .inl f_bin)), (h_wri, .inl (cy_wri, 1000, .inl f26)), (h_mm, .inr (8, (mo73 v_mm (.ref h_nv) (.ref h_nn) (.ref h_na) (.ref h_nb) (.ref h_nc) (.ref h_let) (.ref h_bto) (.ref h_bin) (.int x23) (.int x24) (.ref h_cof) (.ref h_wri) (.int x25) (.int x_mm_room)))), (h_nv, .inl (cy_nv, 8000, .inl f_nv)), (h_na, .inl (cy_na, 8000, .inl f_na)), (h_nb, .inl (cy_nb, 8000, .inl f_nb)), (h_nc, .inl (cy_nc, 8000, .inl f_nc))] := hD
          obtain ⟨k30, k31⟩ := hq
          have k30 : 0 ≤ (r29).toInt ∧ (r29).toInt ≤ 3 := k30
          have k31 : ((r29)).toInt = (npx f_nv f_na f_nb f_nc ((z4)).toInt.toNat) := k31
          refine lv_icmp_ge (tgt := 164) hx hb dX11_saysTerm_124 (by decide) (fun c32 => ?_) (fun c32 => ?_)
          · have kc32 := (cv_le (rfl : (r29).toInt = (r29).toInt) (rfl : (x22).toInt = (x22).toInt)).mp c32
            refine lv_aload_n hx hb dX11_saysTerm_164 rfl (lv_at hl 0 rfl) ?_
            refine lv_iload hx hb dX11_saysTerm_165 (lv_at hl 4 rfl) ?_
            have hPc := hP.sub (ws' := [(h_mm, .inr (8, (mo73 v_mm (.ref h_nv) (.ref h_nn) (.ref h_na) (.ref h_nb) (.ref h_nc) (.ref h_let) (.ref h_bto) (.ref h_bin) (.int x23) (.int x24) (.ref h_cof) (.ref h_wri) (.int x25) (.int x_mm_room)))), (h_nv, .inl (cy_nv, 8000, .inl f_nv)), (h_na, .inl (cy_na, 8000, .inl f_na)), (h_nb, .inl (cy_nb, 8000, .inl f_nb)), (h_nc, .inl (cy_nc, 8000, .inl f_nc))]) [6, 7, 8, 9, 10] rfl
            have hDc := hD.sub (ws' := [(h_mm, .inr (8, (mo73 v_mm (.ref h_nv) (.ref h_nn) (.ref h_na) (.ref h_nb) (.ref h_nc) (.ref h_let) (.ref h_bto) (.ref h_bin) (.int x23) (.int x24) (.ref h_cof) (.ref h_wri) (.int x25) (.int x_mm_room)))), (h_nv, .inl (cy_nv, 8000, .inl f_nv)), (h_na, .inl (cy_na, 8000, .inl f_na)), (h_nb, .inl (cy_nb, 8000, .inl f_nb)), (h_nc, .inl (cy_nc, 8000, .inl f_nc))]) [6, 7, 8, 9, 10] (by decide) rfl
            have hKc := hK.sub (tys' := [(cy_nv, .int), (cy_na, .int), (cy_nb, .int), (cy_nc, .int)]) [2, 4, 5, 6] rfl
            have hFc := va_free (wc := [(h_mm, .inr (8, (mo73 v_mm (.ref h_nv) (.ref h_nn) (.ref h_na) (.ref h_nb) (.ref h_nc) (.ref h_let) (.ref h_bto) (.ref h_bin) (.int x23) (.int x24) (.ref h_cof) (.ref h_wri) (.int x25) (.int x_mm_room)))), (h_nv, .inl (cy_nv, 8000, .inl f_nv)), (h_na, .inl (cy_na, 8000, .inl f_na)), (h_nb, .inl (cy_nb, 8000, .inl f_nb)), (h_nc, .inl (cy_nc, 8000, .inl f_nc))]) hD hS hA [6, 7, 8, 9, 10] rfl
            refine va_calli (va_runV (As := [.int z4]) (rest := []) ⟨hx, hb, hml, hown, hts⟩ (c_X11_partsAt_e l dC dI H.size h_mm h_nv h_na h_nb h_nc (fun k => List.getD (mo73 v_mm (.ref h_nv) (.ref h_nn) (.ref h_na) (.ref h_nb) (.ref h_nc) (.ref h_let) (.ref h_bto) (.ref h_bin) (.int x23) (.int x24) (.ref h_cof) (.ref h_wri) (.int x25) (.int x_mm_room)) k .null) cy_nv f_nv cy_na f_na cy_nb f_nb cy_nc f_nc z4 hf_nv hf_na hf_nb hf_nc (by omega)) (cwV 1 hts (gv hT w_m_X11_27 w_instanceMethod_X11_partsAt ws_sel_X11_partsAt w_ini_X11 w_code_X11_partsAt) rfl rfl rfl (by decide +kernel) ⟨(by dsimp only [headSpec]; omega), (by dsimp only [headSpec]; omega)⟩) ⟨pre_blind, va_recv hK hP (ci := 8) (q0 := 6) rfl rfl, pre_of hPc hKc hDc hN⟩ rfl rfl hl.1 rfl (lv_room (Nat.le_of_ble_eq_true rfl)) dX11_saysTerm_167 ⟨(Nat.le_of_ble_eq_true rfl), (Nat.le_of_ble_eq_true rfl)⟩) hS (fun q _ h => hFc q h) hFc (fun r33 u t H locs ht hvm hq hB hz1 hk1 hS => ?_)
            obtain ⟨hP1, hD1⟩ := hB
            rw [ht] at hP1
            obtain ⟨hP, hD⟩ := va_join (wr := [(h_let, .inl (cy_let, 256, .inl f_let)), (h_nn, .inl (cy_nn, 8000, .inr (.inl f_nn))), (h_cof, .inl (cy_cof, 31, .inl f_cof)), (h_bto, .inl (cy_bto, 256, .inl f_bto)), (h_bin, .inl (cy_bin, 256, .inl f_bin)), (h_wri, .inl (cy_wri, 1000, .inl f26))]) (w1 := [(h_mm, .inr (8, (mo73 v_mm (.ref h_nv) (.ref h_nn) (.ref h_na) (.ref h_nb) (.ref h_nc) (.ref h_let) (.ref h_bto) (.ref h_bin) (.int x23) (.int x24) (.ref h_cof) (.ref h_wri) (.int x25) (.int x_mm_room)))), (h_nv, .inl (cy_nv, 8000, .inl f_nv)), (h_na, .inl (cy_na, 8000, .inl f_na)), (h_nb, .inl (cy_nb, 8000, .inl f_nb)), (h_nc, .inl (cy_nc, 8000, .inl f_nc))]) hP hD [6, 7, 8, 9, 10] [0, 1, 2, 3, 4, 5] rfl rfl (by decide) (by decide) hk1 hFc hP1 hD1
            have hP : va_P (dC, dI) cls [(h_let, .inl (cy_let, 256, .inl f_let)), (h_nn, .inl (cy_nn, 8000, .inr (.inl f_nn))), (h_cof, .inl (cy_cof, 31, .inl f_cof)), (h_bto, .inl (cy_bto, 256, .inl f_bto)), (h_bin, .inl (cy_bin, 256, .inl f_bin)), (h_wri, .inl (cy_wri, 1000, .inl f26)), (h_mm, .inr (8, (mo73 v_mm (.ref h_nv) (.ref h_nn) (.ref h_na) (.ref h_nb) (.ref h_nc) (.ref h_let) (.ref h_bto) (.ref h_bin) (.int x23) (.int x24) (.ref h_cof) (.ref h_wri) (.int x25) (.int x_mm_room)))), (h_nv, .inl (cy_nv, 8000, .inl f_nv)), (h_na, .inl (cy_na, 8000, .inl f_na)), (h_nb, .inl (cy_nb, 8000, .inl f_nb)), (h_nc, .inl (cy_nc, 8000, .inl f_nc))] H := hP
            have hD : va_D A [(h_let, .inl (cy_let, 256, .inl f_let)), (h_nn, .inl (cy_nn, 8000, .inr (.inl f_nn))), (h_cof, .inl (cy_cof, 31, .inl f_cof)), (h_bto, .inl (cy_bto, 256, .inl f_bto)), (h_bin, .inl (cy_bin, 256, .inl f_bin)), (h_wri, .inl (cy_wri, 1000, .inl f26)), (h_mm, .inr (8, (mo73 v_mm (.ref h_nv) (.ref h_nn) (.ref h_na) (.ref h_nb) (.ref h_nc) (.ref h_let) (.ref h_bto) (.ref h_bin) (.int x23) (.int x24) (.ref h_cof) (.ref h_wri) (.int x25) (.int x_mm_room)))), (h_nv, .inl (cy_nv, 8000, .inl f_nv)), (h_na, .inl (cy_na, 8000, .inl f_na)), (h_nb, .inl (cy_nb, 8000, .inl f_nb)), (h_nc, .inl (cy_nc, 8000, .inl f_nc))] := hD
            obtain ⟨k34, k35⟩ := hq
            have k34 : 0 ≤ (r33).toInt ∧ (r33).toInt ≤ 3 := k34
            have k35 : ((r33)).toInt = (npx f_nv f_na f_nb f_nc ((z4)).toInt.toNat) := k35
            refine lv_if_le (tgt := 179) hx hb dX11_saysTerm_170 (by decide) (fun c36 => ?_) (fun c36 => ?_)
            · have kc36 := (cv_le (rfl : (r33).toInt = (r33).toInt) (by decide : (0 : Int32).toInt = 0)).mp c36
              have hP : va_P (dC, dI) cls [(h_mm, .inr (8, (mo73 v_mm (.ref h_nv) (.ref h_nn) (.ref h_na) (.ref h_nb) (.ref h_nc) (.ref h_let) (.ref h_bto) (.ref h_bin) (.int x23) (.int x24) (.ref h_cof) (.ref h_wri) (.int x25) (.int x_mm_room)))), (h_wri, .inl (cy_wri, 1000, .inl f26)), (h_let, .inl (cy_let, 256, .inl f_let)), (h_nv, .inl (cy_nv, 8000, .inl f_nv)), (h_nn, .inl (cy_nn, 8000, .inr (.inl f_nn))), (h_na, .inl (cy_na, 8000, .inl f_na)), (h_nb, .inl (cy_nb, 8000, .inl f_nb)), (h_nc, .inl (cy_nc, 8000, .inl f_nc)), (h_bto, .inl (cy_bto, 256, .inl f_bto)), (h_bin, .inl (cy_bin, 256, .inl f_bin)), (h_cof, .inl (cy_cof, 31, .inl f_cof))] H := hP.sub [6, 5, 0, 7, 1, 8, 9, 10, 3, 4, 2] rfl
              have hD : va_D A [(h_mm, .inr (8, (mo73 v_mm (.ref h_nv) (.ref h_nn) (.ref h_na) (.ref h_nb) (.ref h_nc) (.ref h_let) (.ref h_bto) (.ref h_bin) (.int x23) (.int x24) (.ref h_cof) (.ref h_wri) (.int x25) (.int x_mm_room)))), (h_wri, .inl (cy_wri, 1000, .inl f26)), (h_let, .inl (cy_let, 256, .inl f_let)), (h_nv, .inl (cy_nv, 8000, .inl f_nv)), (h_nn, .inl (cy_nn, 8000, .inr (.inl f_nn))), (h_na, .inl (cy_na, 8000, .inl f_na)), (h_nb, .inl (cy_nb, 8000, .inl f_nb)), (h_nc, .inl (cy_nc, 8000, .inl f_nc)), (h_bto, .inl (cy_bto, 256, .inl f_bto)), (h_bin, .inl (cy_bin, 256, .inl f_bin)), (h_cof, .inl (cy_cof, 31, .inl f_cof))] := hD.sub [6, 5, 0, 7, 1, 8, 9, 10, 3, 4, 2] (by decide) rfl
              refine W.widen (k := 0) (n := 0) (Nat.le_of_ble_eq_true rfl) (Nat.le_of_ble_eq_true rfl) ?_
              have w37 : 0 ≤ ((x23)).toInt ∧ ((x23)).toInt ≤ 7999 := by omega
              have w38 : 0 ≤ ((x24)).toInt ∧ ((x24)).toInt ≤ 31 := by omega
              have w39 : 0 ≤ ((x25)).toInt ∧ ((x25)).toInt ≤ 1000 := by omega
              exact W.vret hx hb hr (fun t ht hW => ⟨⟨(x23, x24, x25, f26), rfl, ⟨w37, w38, w39⟩, by rw [ht]; exact hP, hD⟩, hS.F ht⟩) hS.2.2 dX11_saysTerm_179
            · have kc36 := (not_congr (cv_le (rfl : (r33).toInt = (r33).toInt) (by decide : (0 : Int32).toInt = 0))).mp c36
              refine lv_aload_n hx hb dX11_saysTerm_173 rfl (lv_at hl 0 rfl) ?_
              refine lv_bipush (v := 41) hx hb dX11_saysTerm_174 (by decide) ?_
              have cst41 : (41 : Int32).toInt = 41 := by decide
              have hPc := hP.sub (ws' := [(h_mm, .inr (8, (mo73 v_mm (.ref h_nv) (.ref h_nn) (.ref h_na) (.ref h_nb) (.ref h_nc) (.ref h_let) (.ref h_bto) (.ref h_bin) (.int x23) (.int x24) (.ref h_cof) (.ref h_wri) (.int x25) (.int x_mm_room)))), (h_wri, .inl (cy_wri, 1000, .inl f26))]) [6, 5] rfl
              have hDc := hD.sub (ws' := [(h_mm, .inr (8, (mo73 v_mm (.ref h_nv) (.ref h_nn) (.ref h_na) (.ref h_nb) (.ref h_nc) (.ref h_let) (.ref h_bto) (.ref h_bin) (.int x23) (.int x24) (.ref h_cof) (.ref h_wri) (.int x25) (.int x_mm_room)))), (h_wri, .inl (cy_wri, 1000, .inl f26))]) [6, 5] (by decide) rfl
              have hKc := hK.sub (tys' := [(cy_wri, .int)]) [0] rfl
              have hFc := va_free (wc := [(h_mm, .inr (8, (mo73 v_mm (.ref h_nv) (.ref h_nn) (.ref h_na) (.ref h_nb) (.ref h_nc) (.ref h_let) (.ref h_bto) (.ref h_bin) (.int x23) (.int x24) (.ref h_cof) (.ref h_wri) (.int x25) (.int x_mm_room)))), (h_wri, .inl (cy_wri, 1000, .inl f26))]) hD hS hA [6, 5] rfl
              refine va_callv (va_runV (As := [.int 41]) (rest := []) ⟨hx, hb, hml, hown, hts⟩ (c_X11_says l dC dI H.size h_mm h_wri (fun k => List.getD (mo73 v_mm (.ref h_nv) (.ref h_nn) (.ref h_na) (.ref h_nb) (.ref h_nc) (.ref h_let) (.ref h_bto) (.ref h_bin) (.int x23) (.int x24) (.ref h_cof) (.ref h_wri) (.int x25) (.int x_mm_room)) k .null) x25 x_mm_room cy_wri f26 41 (by omega) (by omega)) (cwV 1 hts (gv hT w_m_X11_452 w_instanceMethod_X11_says ws_sel_X11_says w_ini_X11 w_code_X11_says) rfl rfl rfl (by decide +kernel) ⟨(by dsimp only [headSpec]; omega), (by dsimp only [headSpec]; omega)⟩) ⟨pre_blind, va_recv hK hP (ci := 8) (q0 := 6) rfl rfl, pre_of hPc hKc hDc hN⟩ rfl rfl hl.1 rfl (lv_room (Nat.le_of_ble_eq_true rfl)) dX11_saysTerm_176 ⟨(Nat.le_of_ble_eq_true rfl), (Nat.le_of_ble_eq_true rfl)⟩) hS (fun q _ h => hFc q h) hFc (fun u t H locs ht hvm hq hB hz1 hk1 hS => ?_)
              obtain ⟨z41, f42⟩ := u
              obtain ⟨hP1, hD1⟩ := hB
              rw [ht] at hP1
              obtain ⟨hP, hD⟩ := va_join (wr := [(h_let, .inl (cy_let, 256, .inl f_let)), (h_nn, .inl (cy_nn, 8000, .inr (.inl f_nn))), (h_cof, .inl (cy_cof, 31, .inl f_cof)), (h_bto, .inl (cy_bto, 256, .inl f_bto)), (h_bin, .inl (cy_bin, 256, .inl f_bin)), (h_nv, .inl (cy_nv, 8000, .inl f_nv)), (h_na, .inl (cy_na, 8000, .inl f_na)), (h_nb, .inl (cy_nb, 8000, .inl f_nb)), (h_nc, .inl (cy_nc, 8000, .inl f_nc))]) (w1 := [(h_mm, .inr (8, (mo73 v_mm (.ref h_nv) (.ref h_nn) (.ref h_na) (.ref h_nb) (.ref h_nc) (.ref h_let) (.ref h_bto) (.ref h_bin) (.int x23) (.int x24) (.ref h_cof) (.ref h_wri) (.int z41) (.int x_mm_room)))), (h_wri, .inl (cy_wri, 1000, .inl f42))]) hP hD [6, 5] [0, 1, 2, 3, 4, 7, 8, 9, 10] rfl rfl (by decide) (by decide) hk1 hFc hP1 hD1
              have hP : va_P (dC, dI) cls [(h_let, .inl (cy_let, 256, .inl f_let)), (h_nn, .inl (cy_nn, 8000, .inr (.inl f_nn))), (h_cof, .inl (cy_cof, 31, .inl f_cof)), (h_bto, .inl (cy_bto, 256, .inl f_bto)), (h_bin, .inl (cy_bin, 256, .inl f_bin)), (h_nv, .inl (cy_nv, 8000, .inl f_nv)), (h_na, .inl (cy_na, 8000, .inl f_na)), (h_nb, .inl (cy_nb, 8000, .inl f_nb)), (h_nc, .inl (cy_nc, 8000, .inl f_nc)), (h_mm, .inr (8, (mo73 v_mm (.ref h_nv) (.ref h_nn) (.ref h_na) (.ref h_nb) (.ref h_nc) (.ref h_let) (.ref h_bto) (.ref h_bin) (.int x23) (.int x24) (.ref h_cof) (.ref h_wri) (.int z41) (.int x_mm_room)))), (h_wri, .inl (cy_wri, 1000, .inl f42))] H := hP
              have hD : va_D A [(h_let, .inl (cy_let, 256, .inl f_let)), (h_nn, .inl (cy_nn, 8000, .inr (.inl f_nn))), (h_cof, .inl (cy_cof, 31, .inl f_cof)), (h_bto, .inl (cy_bto, 256, .inl f_bto)), (h_bin, .inl (cy_bin, 256, .inl f_bin)), (h_nv, .inl (cy_nv, 8000, .inl f_nv)), (h_na, .inl (cy_na, 8000, .inl f_na)), (h_nb, .inl (cy_nb, 8000, .inl f_nb)), (h_nc, .inl (cy_nc, 8000, .inl f_nc)), (h_mm, .inr (8, (mo73 v_mm (.ref h_nv) (.ref h_nn) (.ref h_na) (.ref h_nb) (.ref h_nc) (.ref h_let) (.ref h_bto) (.ref h_bin) (.int x23) (.int x24) (.ref h_cof) (.ref h_wri) (.int z41) (.int x_mm_room)))), (h_wri, .inl (cy_wri, 1000, .inl f42))] := hD
              obtain ⟨k43, k44⟩ := hq
              have k43 : 0 ≤ ((z41)).toInt ∧ ((z41)).toInt ≤ 1000 := k43
              have k44 : ((x25)).toInt ≤ ((z41)).toInt := k44
              have hP : va_P (dC, dI) cls [(h_mm, .inr (8, (mo73 v_mm (.ref h_nv) (.ref h_nn) (.ref h_na) (.ref h_nb) (.ref h_nc) (.ref h_let) (.ref h_bto) (.ref h_bin) (.int x23) (.int x24) (.ref h_cof) (.ref h_wri) (.int z41) (.int x_mm_room)))), (h_wri, .inl (cy_wri, 1000, .inl f42)), (h_let, .inl (cy_let, 256, .inl f_let)), (h_nv, .inl (cy_nv, 8000, .inl f_nv)), (h_nn, .inl (cy_nn, 8000, .inr (.inl f_nn))), (h_na, .inl (cy_na, 8000, .inl f_na)), (h_nb, .inl (cy_nb, 8000, .inl f_nb)), (h_nc, .inl (cy_nc, 8000, .inl f_nc)), (h_bto, .inl (cy_bto, 256, .inl f_bto)), (h_bin, .inl (cy_bin, 256, .inl f_bin)), (h_cof, .inl (cy_cof, 31, .inl f_cof))] H := hP.sub [9, 10, 0, 5, 1, 6, 7, 8, 3, 4, 2] rfl
              have hD : va_D A [(h_mm, .inr (8, (mo73 v_mm (.ref h_nv) (.ref h_nn) (.ref h_na) (.ref h_nb) (.ref h_nc) (.ref h_let) (.ref h_bto) (.ref h_bin) (.int x23) (.int x24) (.ref h_cof) (.ref h_wri) (.int z41) (.int x_mm_room)))), (h_wri, .inl (cy_wri, 1000, .inl f42)), (h_let, .inl (cy_let, 256, .inl f_let)), (h_nv, .inl (cy_nv, 8000, .inl f_nv)), (h_nn, .inl (cy_nn, 8000, .inr (.inl f_nn))), (h_na, .inl (cy_na, 8000, .inl f_na)), (h_nb, .inl (cy_nb, 8000, .inl f_nb)), (h_nc, .inl (cy_nc, 8000, .inl f_nc)), (h_bto, .inl (cy_bto, 256, .inl f_bto)), (h_bin, .inl (cy_bin, 256, .inl f_bin)), (h_cof, .inl (cy_cof, 31, .inl f_cof))] := hD.sub [9, 10, 0, 5, 1, 6, 7, 8, 3, 4, 2] (by decide) rfl
              refine W.widen (k := 0) (n := 0) (Nat.le_of_ble_eq_true rfl) (Nat.le_of_ble_eq_true rfl) ?_
              have w45 : 0 ≤ ((x23)).toInt ∧ ((x23)).toInt ≤ 7999 := by omega
              have w46 : 0 ≤ ((x24)).toInt ∧ ((x24)).toInt ≤ 31 := by omega
              have w47 : 0 ≤ ((z41)).toInt ∧ ((z41)).toInt ≤ 1000 := by omega
              exact W.vret hx hb hr (fun t ht hW => ⟨⟨(x23, x24, z41, f42), rfl, ⟨w45, w46, w47⟩, by rw [ht]; exact hP, hD⟩, hS.F ht⟩) hS.2.2 dX11_saysTerm_179
          · have kc32 := (not_congr (cv_le (rfl : (r29).toInt = (r29).toInt) (rfl : (x22).toInt = (x22).toInt))).mp c32
            refine lv_aload_n hx hb dX11_saysTerm_127 rfl (lv_at hl 0 rfl) ?_
            refine lv_iload hx hb dX11_saysTerm_128 (lv_at hl 6 rfl) ?_
            refine lv_if_ne (tgt := 138) hx hb dX11_saysTerm_130 (by decide) (fun c48 => ?_) (fun c48 => ?_)
            · have kc48 := (not_congr (cv_eq (rfl : (x22).toInt = (x22).toInt) (by decide : (0 : Int32).toInt = 0))).mp c48
              refine lv_bipush (v := 44) hx hb dX11_saysTerm_138 (by decide) ?_
              have cst44 : (44 : Int32).toInt = 44 := by decide
              have hPc := hP.sub (ws' := [(h_mm, .inr (8, (mo73 v_mm (.ref h_nv) (.ref h_nn) (.ref h_na) (.ref h_nb) (.ref h_nc) (.ref h_let) (.ref h_bto) (.ref h_bin) (.int x23) (.int x24) (.ref h_cof) (.ref h_wri) (.int x25) (.int x_mm_room)))), (h_wri, .inl (cy_wri, 1000, .inl f26))]) [6, 5] rfl
              have hDc := hD.sub (ws' := [(h_mm, .inr (8, (mo73 v_mm (.ref h_nv) (.ref h_nn) (.ref h_na) (.ref h_nb) (.ref h_nc) (.ref h_let) (.ref h_bto) (.ref h_bin) (.int x23) (.int x24) (.ref h_cof) (.ref h_wri) (.int x25) (.int x_mm_room)))), (h_wri, .inl (cy_wri, 1000, .inl f26))]) [6, 5] (by decide) rfl
              have hKc := hK.sub (tys' := [(cy_wri, .int)]) [0] rfl
              have hFc := va_free (wc := [(h_mm, .inr (8, (mo73 v_mm (.ref h_nv) (.ref h_nn) (.ref h_na) (.ref h_nb) (.ref h_nc) (.ref h_let) (.ref h_bto) (.ref h_bin) (.int x23) (.int x24) (.ref h_cof) (.ref h_wri) (.int x25) (.int x_mm_room)))), (h_wri, .inl (cy_wri, 1000, .inl f26))]) hD hS hA [6, 5] rfl
              refine va_callv (va_runV (As := [.int 44]) (rest := []) ⟨hx, hb, hml, hown, hts⟩ (c_X11_says l dC dI H.size h_mm h_wri (fun k => List.getD (mo73 v_mm (.ref h_nv) (.ref h_nn) (.ref h_na) (.ref h_nb) (.ref h_nc) (.ref h_let) (.ref h_bto) (.ref h_bin) (.int x23) (.int x24) (.ref h_cof) (.ref h_wri) (.int x25) (.int x_mm_room)) k .null) x25 x_mm_room cy_wri f26 44 (by omega) (by omega)) (cwV 1 hts (gv hT w_m_X11_452 w_instanceMethod_X11_says ws_sel_X11_says w_ini_X11 w_code_X11_says) rfl rfl rfl (by decide +kernel) ⟨(by dsimp only [headSpec]; omega), (by dsimp only [headSpec]; omega)⟩) ⟨pre_blind, va_recv hK hP (ci := 8) (q0 := 6) rfl rfl, pre_of hPc hKc hDc hN⟩ rfl rfl hl.1 rfl (lv_room (Nat.le_of_ble_eq_true rfl)) dX11_saysTerm_140 ⟨(Nat.le_of_ble_eq_true rfl), (Nat.le_of_ble_eq_true rfl)⟩) hS (fun q _ h => hFc q h) hFc (fun u t H locs ht hvm hq hB hz1 hk1 hS => ?_)
              obtain ⟨z50, f51⟩ := u
              obtain ⟨hP1, hD1⟩ := hB
              rw [ht] at hP1
              obtain ⟨hP, hD⟩ := va_join (wr := [(h_let, .inl (cy_let, 256, .inl f_let)), (h_nn, .inl (cy_nn, 8000, .inr (.inl f_nn))), (h_cof, .inl (cy_cof, 31, .inl f_cof)), (h_bto, .inl (cy_bto, 256, .inl f_bto)), (h_bin, .inl (cy_bin, 256, .inl f_bin)), (h_nv, .inl (cy_nv, 8000, .inl f_nv)), (h_na, .inl (cy_na, 8000, .inl f_na)), (h_nb, .inl (cy_nb, 8000, .inl f_nb)), (h_nc, .inl (cy_nc, 8000, .inl f_nc))]) (w1 := [(h_mm, .inr (8, (mo73 v_mm (.ref h_nv) (.ref h_nn) (.ref h_na) (.ref h_nb) (.ref h_nc) (.ref h_let) (.ref h_bto) (.ref h_bin) (.int x23) (.int x24) (.ref h_cof) (.ref h_wri) (.int z50) (.int x_mm_room)))), (h_wri, .inl (cy_wri, 1000, .inl f51))]) hP hD [6, 5] [0, 1, 2, 3, 4, 7, 8, 9, 10] rfl rfl (by decide) (by decide) hk1 hFc hP1 hD1
              have hP : va_P (dC, dI) cls [(h_let, .inl (cy_let, 256, .inl f_let)), (h_nn, .inl (cy_nn, 8000, .inr (.inl f_nn))), (h_cof, .inl (cy_cof, 31, .inl f_cof)), (h_bto, .inl (cy_bto, 256, .inl f_bto)), (h_bin, .inl (cy_bin, 256, .inl f_bin)), (h_nv, .inl (cy_nv, 8000, .inl f_nv)), (h_na, .inl (cy_na, 8000, .inl f_na)), (h_nb, .inl (cy_nb, 8000, .inl f_nb)), (h_nc, .inl (cy_nc, 8000, .inl f_nc)), (h_mm, .inr (8, (mo73 v_mm (.ref h_nv) (.ref h_nn) (.ref h_na) (.ref h_nb) (.ref h_nc) (.ref h_let) (.ref h_bto) (.ref h_bin) (.int x23) (.int x24) (.ref h_cof) (.ref h_wri) (.int z50) (.int x_mm_room)))), (h_wri, .inl (cy_wri, 1000, .inl f51))] H := hP
              have hD : va_D A [(h_let, .inl (cy_let, 256, .inl f_let)), (h_nn, .inl (cy_nn, 8000, .inr (.inl f_nn))), (h_cof, .inl (cy_cof, 31, .inl f_cof)), (h_bto, .inl (cy_bto, 256, .inl f_bto)), (h_bin, .inl (cy_bin, 256, .inl f_bin)), (h_nv, .inl (cy_nv, 8000, .inl f_nv)), (h_na, .inl (cy_na, 8000, .inl f_na)), (h_nb, .inl (cy_nb, 8000, .inl f_nb)), (h_nc, .inl (cy_nc, 8000, .inl f_nc)), (h_mm, .inr (8, (mo73 v_mm (.ref h_nv) (.ref h_nn) (.ref h_na) (.ref h_nb) (.ref h_nc) (.ref h_let) (.ref h_bto) (.ref h_bin) (.int x23) (.int x24) (.ref h_cof) (.ref h_wri) (.int z50) (.int x_mm_room)))), (h_wri, .inl (cy_wri, 1000, .inl f51))] := hD
              obtain ⟨k52, k53⟩ := hq
              have k52 : 0 ≤ ((z50)).toInt ∧ ((z50)).toInt ≤ 1000 := k52
              have k53 : ((x25)).toInt ≤ ((z50)).toInt := k53
              refine lv_aload_n hx hb dX11_saysTerm_143 rfl (lv_at hl 0 rfl) ?_
              refine lv_aload_n hx hb dX11_saysTerm_144 rfl (lv_at hl 0 rfl) ?_
              refine lv_iload hx hb dX11_saysTerm_145 (lv_at hl 4 rfl) ?_
              refine lv_iload hx hb dX11_saysTerm_147 (lv_at hl 6 rfl) ?_
              have hPc := hP.sub (ws' := [(h_mm, .inr (8, (mo73 v_mm (.ref h_nv) (.ref h_nn) (.ref h_na) (.ref h_nb) (.ref h_nc) (.ref h_let) (.ref h_bto) (.ref h_bin) (.int x23) (.int x24) (.ref h_cof) (.ref h_wri) (.int z50) (.int x_mm_room)))), (h_na, .inl (cy_na, 8000, .inl f_na)), (h_nb, .inl (cy_nb, 8000, .inl f_nb)), (h_nc, .inl (cy_nc, 8000, .inl f_nc))]) [9, 6, 7, 8] rfl
              have hDc := hD.sub (ws' := [(h_mm, .inr (8, (mo73 v_mm (.ref h_nv) (.ref h_nn) (.ref h_na) (.ref h_nb) (.ref h_nc) (.ref h_let) (.ref h_bto) (.ref h_bin) (.int x23) (.int x24) (.ref h_cof) (.ref h_wri) (.int z50) (.int x_mm_room)))), (h_na, .inl (cy_na, 8000, .inl f_na)), (h_nb, .inl (cy_nb, 8000, .inl f_nb)), (h_nc, .inl (cy_nc, 8000, .inl f_nc))]) [9, 6, 7, 8] (by decide) rfl
              have hKc := hK.sub (tys' := [(cy_na, .int), (cy_nb, .int), (cy_nc, .int)]) [4, 5, 6] rfl
              have hFc := va_free (wc := [(h_mm, .inr (8, (mo73 v_mm (.ref h_nv) (.ref h_nn) (.ref h_na) (.ref h_nb) (.ref h_nc) (.ref h_let) (.ref h_bto) (.ref h_bin) (.int x23) (.int x24) (.ref h_cof) (.ref h_wri) (.int z50) (.int x_mm_room)))), (h_na, .inl (cy_na, 8000, .inl f_na)), (h_nb, .inl (cy_nb, 8000, .inl f_nb)), (h_nc, .inl (cy_nc, 8000, .inl f_nc))]) hD hS hA [9, 6, 7, 8] rfl
              refine va_calli (va_runV (As := [.int z4, .int x22]) (rest := [.ref h_mm]) ⟨hx, hb, hml, hown, hts⟩ (c_X11_part_e l dC dI H.size h_mm h_na h_nb h_nc (fun k => List.getD (mo73 v_mm (.ref h_nv) (.ref h_nn) (.ref h_na) (.ref h_nb) (.ref h_nc) (.ref h_let) (.ref h_bto) (.ref h_bin) (.int x23) (.int x24) (.ref h_cof) (.ref h_wri) (.int z50) (.int x_mm_room)) k .null) cy_na f_na cy_nb f_nb cy_nc f_nc z4 x22 hf_na hf_nb hf_nc (by omega)) (cwV 2 hts (gv hT w_m_X11_31 w_instanceMethod_X11_part ws_sel_X11_part w_ini_X11 w_code_X11_part) rfl rfl rfl (by decide +kernel) ⟨(by dsimp only [headSpec]; omega), (by dsimp only [headSpec]; omega)⟩) ⟨pre_blind, va_recv hK hP (ci := 8) (q0 := 9) rfl rfl, pre_of hPc hKc hDc hN⟩ rfl rfl hl.1 rfl (lv_room (Nat.le_of_ble_eq_true rfl)) dX11_saysTerm_149 ⟨(Nat.le_of_ble_eq_true rfl), (Nat.le_of_ble_eq_true rfl)⟩) hS (fun q _ h => hFc q h) hFc (fun r54 u t H locs ht hvm hq hB hz1 hk1 hS => ?_)
              obtain ⟨hP1, hD1⟩ := hB
              rw [ht] at hP1
              obtain ⟨hP, hD⟩ := va_join (wr := [(h_let, .inl (cy_let, 256, .inl f_let)), (h_nn, .inl (cy_nn, 8000, .inr (.inl f_nn))), (h_cof, .inl (cy_cof, 31, .inl f_cof)), (h_bto, .inl (cy_bto, 256, .inl f_bto)), (h_bin, .inl (cy_bin, 256, .inl f_bin)), (h_nv, .inl (cy_nv, 8000, .inl f_nv)), (h_wri, .inl (cy_wri, 1000, .inl f51))]) (w1 := [(h_mm, .inr (8, (mo73 v_mm (.ref h_nv) (.ref h_nn) (.ref h_na) (.ref h_nb) (.ref h_nc) (.ref h_let) (.ref h_bto) (.ref h_bin) (.int x23) (.int x24) (.ref h_cof) (.ref h_wri) (.int z50) (.int x_mm_room)))), (h_na, .inl (cy_na, 8000, .inl f_na)), (h_nb, .inl (cy_nb, 8000, .inl f_nb)), (h_nc, .inl (cy_nc, 8000, .inl f_nc))]) hP hD [9, 6, 7, 8] [0, 1, 2, 3, 4, 5, 10] rfl rfl (by decide) (by decide) hk1 hFc hP1 hD1
              have hP : va_P (dC, dI) cls [(h_let, .inl (cy_let, 256, .inl f_let)), (h_nn, .inl (cy_nn, 8000, .inr (.inl f_nn))), (h_cof, .inl (cy_cof, 31, .inl f_cof)), (h_bto, .inl (cy_bto, 256, .inl f_bto)), (h_bin, .inl (cy_bin, 256, .inl f_bin)), (h_nv, .inl (cy_nv, 8000, .inl f_nv)), (h_wri, .inl (cy_wri, 1000, .inl f51)), (h_mm, .inr (8, (mo73 v_mm (.ref h_nv) (.ref h_nn) (.ref h_na) (.ref h_nb) (.ref h_nc) (.ref h_let) (.ref h_bto) (.ref h_bin) (.int x23) (.int x24) (.ref h_cof) (.ref h_wri) (.int z50) (.int x_mm_room)))), (h_na, .inl (cy_na, 8000, .inl f_na)), (h_nb, .inl (cy_nb, 8000, .inl f_nb)), (h_nc, .inl (cy_nc, 8000, .inl f_nc))] H := hP
              have hD : va_D A [(h_let, .inl (cy_let, 256, .inl f_let)), (h_nn, .inl (cy_nn, 8000, .inr (.inl f_nn))), (h_cof, .inl (cy_cof, 31, .inl f_cof)), (h_bto, .inl (cy_bto, 256, .inl f_bto)), (h_bin, .inl (cy_bin, 256, .inl f_bin)), (h_nv, .inl (cy_nv, 8000, .inl f_nv)), (h_wri, .inl (cy_wri, 1000, .inl f51)), (h_mm, .inr (8, (mo73 v_mm (.ref h_nv) (.ref h_nn) (.ref h_na) (.ref h_nb) (.ref h_nc) (.ref h_let) (.ref h_bto) (.ref h_bin) (.int x23) (.int x24) (.ref h_cof) (.ref h_wri) (.int z50) (.int x_mm_room)))), (h_na, .inl (cy_na, 8000, .inl f_na)), (h_nb, .inl (cy_nb, 8000, .inl f_nb)), (h_nc, .inl (cy_nc, 8000, .inl f_nc))] := hD
              obtain ⟨k55, k56⟩ := hq
              have k55 : -1 ≤ (r54).toInt ∧ (r54).toInt ≤ 7999 := k55
              have k56 : ((r54)).toInt = (ptx f_na f_nb f_nc ((z4)).toInt.toNat ((x22)).toInt).toInt := k56
              have cc9e : ptx f_na f_nb f_nc (z4).toInt.toNat (x22).toInt = r54 := Int32.toInt_inj.mp (by omega)
              have cc9c := ch_ok (nv := f_nv) (k := (x22).toInt) (x := (z4).toInt.toNat) hn_bi.1 (by omega) (by omega)
              rw [cc9e] at cc9c
              have cc9p := pa_ch (k := (x22).toInt) (k12) (by omega)
              rw [cc9e] at cc9p
              refine lv_iload hx hb dX11_saysTerm_152 (lv_at hl 5 rfl) ?_
              refine lv_iload_n hx hb dX11_saysTerm_154 rfl (lv_at hl 3 rfl) ?_
              have hPc := hP.sub (ws' := [(h_mm, .inr (8, (mo73 v_mm (.ref h_nv) (.ref h_nn) (.ref h_na) (.ref h_nb) (.ref h_nc) (.ref h_let) (.ref h_bto) (.ref h_bin) (.int x23) (.int x24) (.ref h_cof) (.ref h_wri) (.int z50) (.int x_mm_room)))), (h_wri, .inl (cy_wri, 1000, .inl f51)), (h_let, .inl (cy_let, 256, .inl f_let)), (h_nv, .inl (cy_nv, 8000, .inl f_nv)), (h_nn, .inl (cy_nn, 8000, .inr (.inl f_nn))), (h_na, .inl (cy_na, 8000, .inl f_na)), (h_nb, .inl (cy_nb, 8000, .inl f_nb)), (h_nc, .inl (cy_nc, 8000, .inl f_nc)), (h_bto, .inl (cy_bto, 256, .inl f_bto)), (h_bin, .inl (cy_bin, 256, .inl f_bin)), (h_cof, .inl (cy_cof, 31, .inl f_cof))]) [7, 6, 0, 5, 1, 8, 9, 10, 3, 4, 2] rfl
              have hDc := hD.sub (ws' := [(h_mm, .inr (8, (mo73 v_mm (.ref h_nv) (.ref h_nn) (.ref h_na) (.ref h_nb) (.ref h_nc) (.ref h_let) (.ref h_bto) (.ref h_bin) (.int x23) (.int x24) (.ref h_cof) (.ref h_wri) (.int z50) (.int x_mm_room)))), (h_wri, .inl (cy_wri, 1000, .inl f51)), (h_let, .inl (cy_let, 256, .inl f_let)), (h_nv, .inl (cy_nv, 8000, .inl f_nv)), (h_nn, .inl (cy_nn, 8000, .inr (.inl f_nn))), (h_na, .inl (cy_na, 8000, .inl f_na)), (h_nb, .inl (cy_nb, 8000, .inl f_nb)), (h_nc, .inl (cy_nc, 8000, .inl f_nc)), (h_bto, .inl (cy_bto, 256, .inl f_bto)), (h_bin, .inl (cy_bin, 256, .inl f_bin)), (h_cof, .inl (cy_cof, 31, .inl f_cof))]) [7, 6, 0, 5, 1, 8, 9, 10, 3, 4, 2] (by decide) rfl
              have hKc := hK.sub (tys' := [(cy_wri, .int), (cy_let, .int), (cy_nv, .int), (cy_nn, .long), (cy_na, .int), (cy_nb, .int), (cy_nc, .int), (cy_bto, .int), (cy_bin, .int), (cy_cof, .int)]) [0, 1, 2, 3, 4, 5, 6, 7, 8, 9] rfl
              have hFc := va_free (wc := [(h_mm, .inr (8, (mo73 v_mm (.ref h_nv) (.ref h_nn) (.ref h_na) (.ref h_nb) (.ref h_nc) (.ref h_let) (.ref h_bto) (.ref h_bin) (.int x23) (.int x24) (.ref h_cof) (.ref h_wri) (.int z50) (.int x_mm_room)))), (h_wri, .inl (cy_wri, 1000, .inl f51)), (h_let, .inl (cy_let, 256, .inl f_let)), (h_nv, .inl (cy_nv, 8000, .inl f_nv)), (h_nn, .inl (cy_nn, 8000, .inr (.inl f_nn))), (h_na, .inl (cy_na, 8000, .inl f_na)), (h_nb, .inl (cy_nb, 8000, .inl f_nb)), (h_nc, .inl (cy_nc, 8000, .inl f_nc)), (h_bto, .inl (cy_bto, 256, .inl f_bto)), (h_bin, .inl (cy_bin, 256, .inl f_bin)), (h_cof, .inl (cy_cof, 31, .inl f_cof))]) hD hS hA [7, 6, 0, 5, 1, 8, 9, 10, 3, 4, 2] rfl
              refine va_callv (va_runV (As := [.int r54, .int z5, .int p3]) (rest := []) ⟨hx, hb, hml, hown, hts⟩ (ihf dC dI H.size h_mm h_wri h_let h_nv h_nn h_na h_nb h_nc h_bto h_bin h_cof v_mm x23 x24 z50 x_mm_room cy_wri f51 cy_let f_let cy_nv f_nv cy_nn f_nn cy_na f_na cy_nb f_nb cy_nc f_nc cy_bto f_bto cy_bin f_bin cy_cof f_cof r54 z5 p3 i0 i1 N hz z6 (by omega) (by omega) (by omega) (by omega) hf_nv hf_na hf_nb hf_nc hf_bto hf_bin hf_cof (by omega) (by omega) (by omega) (by omega) (by omega) (by omega) hn_bi cc9p) (cwV 3 hts (gv hT w_m_X11_459 w_instanceMethod_X11_saysTerm ws_sel_X11_saysTerm w_ini_X11 w_code_X11_saysTerm) rfl rfl rfl (by decide +kernel) ⟨(by dsimp only [headSpec]; omega), (by dsimp only [headSpec]; omega)⟩) ⟨pre_blind, va_recv hK hP (ci := 8) (q0 := 7) rfl rfl, pre_of hPc hKc hDc hN⟩ rfl rfl hl.1 rfl (lv_room (Nat.le_of_ble_eq_true rfl)) dX11_saysTerm_155 ⟨(Nat.le_of_ble_eq_true rfl), (Nat.le_of_ble_eq_true rfl)⟩) hS (fun q _ h => hFc q h) hFc (fun u t H locs ht hvm hq hB hz1 hk1 hS => ?_)
              obtain ⟨z58, z59, z60, f61⟩ := u
              obtain ⟨hP1, hD1⟩ := hB
              rw [ht] at hP1
              obtain ⟨hP, hD⟩ := va_join (wr := []) (w1 := [(h_mm, .inr (8, (mo73 v_mm (.ref h_nv) (.ref h_nn) (.ref h_na) (.ref h_nb) (.ref h_nc) (.ref h_let) (.ref h_bto) (.ref h_bin) (.int z58) (.int z59) (.ref h_cof) (.ref h_wri) (.int z60) (.int x_mm_room)))), (h_wri, .inl (cy_wri, 1000, .inl f61)), (h_let, .inl (cy_let, 256, .inl f_let)), (h_nv, .inl (cy_nv, 8000, .inl f_nv)), (h_nn, .inl (cy_nn, 8000, .inr (.inl f_nn))), (h_na, .inl (cy_na, 8000, .inl f_na)), (h_nb, .inl (cy_nb, 8000, .inl f_nb)), (h_nc, .inl (cy_nc, 8000, .inl f_nc)), (h_bto, .inl (cy_bto, 256, .inl f_bto)), (h_bin, .inl (cy_bin, 256, .inl f_bin)), (h_cof, .inl (cy_cof, 31, .inl f_cof))]) hP hD [7, 6, 0, 5, 1, 8, 9, 10, 3, 4, 2] [] rfl rfl (by decide) (by decide) hk1 hFc hP1 hD1
              have hP : va_P (dC, dI) cls [(h_mm, .inr (8, (mo73 v_mm (.ref h_nv) (.ref h_nn) (.ref h_na) (.ref h_nb) (.ref h_nc) (.ref h_let) (.ref h_bto) (.ref h_bin) (.int z58) (.int z59) (.ref h_cof) (.ref h_wri) (.int z60) (.int x_mm_room)))), (h_wri, .inl (cy_wri, 1000, .inl f61)), (h_let, .inl (cy_let, 256, .inl f_let)), (h_nv, .inl (cy_nv, 8000, .inl f_nv)), (h_nn, .inl (cy_nn, 8000, .inr (.inl f_nn))), (h_na, .inl (cy_na, 8000, .inl f_na)), (h_nb, .inl (cy_nb, 8000, .inl f_nb)), (h_nc, .inl (cy_nc, 8000, .inl f_nc)), (h_bto, .inl (cy_bto, 256, .inl f_bto)), (h_bin, .inl (cy_bin, 256, .inl f_bin)), (h_cof, .inl (cy_cof, 31, .inl f_cof))] H := hP
              have hD : va_D A [(h_mm, .inr (8, (mo73 v_mm (.ref h_nv) (.ref h_nn) (.ref h_na) (.ref h_nb) (.ref h_nc) (.ref h_let) (.ref h_bto) (.ref h_bin) (.int z58) (.int z59) (.ref h_cof) (.ref h_wri) (.int z60) (.int x_mm_room)))), (h_wri, .inl (cy_wri, 1000, .inl f61)), (h_let, .inl (cy_let, 256, .inl f_let)), (h_nv, .inl (cy_nv, 8000, .inl f_nv)), (h_nn, .inl (cy_nn, 8000, .inr (.inl f_nn))), (h_na, .inl (cy_na, 8000, .inl f_na)), (h_nb, .inl (cy_nb, 8000, .inl f_nb)), (h_nc, .inl (cy_nc, 8000, .inl f_nc)), (h_bto, .inl (cy_bto, 256, .inl f_bto)), (h_bin, .inl (cy_bin, 256, .inl f_bin)), (h_cof, .inl (cy_cof, 31, .inl f_cof))] := hD
              obtain ⟨k62, k63, k64⟩ := hq
              have k62 : 0 ≤ ((z58)).toInt ∧ ((z58)).toInt ≤ 7999 := k62
              have k63 : 0 ≤ ((z59)).toInt ∧ ((z59)).toInt ≤ 31 := k63
              have k64 : 0 ≤ ((z60)).toInt ∧ ((z60)).toInt ≤ 1000 := k64
              obtain ⟨z65, ez65⟩ : ∃ y : Int32, y = x22 + 1 := ⟨_, rfl⟩
              have tz65 : (z65).toInt = (x22).toInt + 1 := by rw [ez65]; exact i_add rfl (by decide) (by omega)
              refine lv_iinc (v := z65) (lv' := [(6, .int z65), (0, .ref h_mm), (1, .int p1), (2, .int p2), (3, .int p3), (4, .int z4), (5, .int z5)]) hx hb dX11_saysTerm_158 hl (k := 6) rfl (by rw [ez65]; rfl) (by decide) rfl (fun ls hl => ?_)
              refine lv_goto (tgt := 116) hx hb dX11_saysTerm_161 (by decide) ?_
              have hP : va_P (dC, dI) cls [(h_let, .inl (cy_let, 256, .inl f_let)), (h_nn, .inl (cy_nn, 8000, .inr (.inl f_nn))), (h_cof, .inl (cy_cof, 31, .inl f_cof)), (h_nv, .inl (cy_nv, 8000, .inl f_nv)), (h_na, .inl (cy_na, 8000, .inl f_na)), (h_nb, .inl (cy_nb, 8000, .inl f_nb)), (h_nc, .inl (cy_nc, 8000, .inl f_nc)), (h_bto, .inl (cy_bto, 256, .inl f_bto)), (h_bin, .inl (cy_bin, 256, .inl f_bin)), (h_mm, .inr (8, (mo73 v_mm (.ref h_nv) (.ref h_nn) (.ref h_na) (.ref h_nb) (.ref h_nc) (.ref h_let) (.ref h_bto) (.ref h_bin) (.int z58) (.int z59) (.ref h_cof) (.ref h_wri) (.int z60) (.int x_mm_room)))), (h_wri, .inl (cy_wri, 1000, .inl f61))] H := hP.sub [2, 4, 10, 3, 5, 6, 7, 8, 9, 0, 1] rfl
              have hD : va_D A [(h_let, .inl (cy_let, 256, .inl f_let)), (h_nn, .inl (cy_nn, 8000, .inr (.inl f_nn))), (h_cof, .inl (cy_cof, 31, .inl f_cof)), (h_nv, .inl (cy_nv, 8000, .inl f_nv)), (h_na, .inl (cy_na, 8000, .inl f_na)), (h_nb, .inl (cy_nb, 8000, .inl f_nb)), (h_nc, .inl (cy_nc, 8000, .inl f_nc)), (h_bto, .inl (cy_bto, 256, .inl f_bto)), (h_bin, .inl (cy_bin, 256, .inl f_bin)), (h_mm, .inr (8, (mo73 v_mm (.ref h_nv) (.ref h_nn) (.ref h_na) (.ref h_nb) (.ref h_nc) (.ref h_let) (.ref h_bto) (.ref h_bin) (.int z58) (.int z59) (.ref h_cof) (.ref h_wri) (.int z60) (.int x_mm_room)))), (h_wri, .inl (cy_wri, 1000, .inl f61))] := hD.sub [2, 4, 10, 3, 5, 6, 7, 8, 9, 0, 1] (by decide) rfl
              exact ih28 (z65) (z58) (z59) (z60) (f61) _ _ _ (by omega) (by omega) (by omega) (by omega) (by omega) hP hD hS (lv_sub hl [1, 2, 3, 4, 5, 6, 0] rfl)
            · have kc48 := (cv_eq (rfl : (x22).toInt = (x22).toInt) (by decide : (0 : Int32).toInt = 0)).mp c48
              refine lv_bipush (v := 40) hx hb dX11_saysTerm_133 (by decide) ?_
              refine lv_goto (tgt := 140) hx hb dX11_saysTerm_135 (by decide) ?_
              have cst40 : (40 : Int32).toInt = 40 := by decide
              have hPc := hP.sub (ws' := [(h_mm, .inr (8, (mo73 v_mm (.ref h_nv) (.ref h_nn) (.ref h_na) (.ref h_nb) (.ref h_nc) (.ref h_let) (.ref h_bto) (.ref h_bin) (.int x23) (.int x24) (.ref h_cof) (.ref h_wri) (.int x25) (.int x_mm_room)))), (h_wri, .inl (cy_wri, 1000, .inl f26))]) [6, 5] rfl
              have hDc := hD.sub (ws' := [(h_mm, .inr (8, (mo73 v_mm (.ref h_nv) (.ref h_nn) (.ref h_na) (.ref h_nb) (.ref h_nc) (.ref h_let) (.ref h_bto) (.ref h_bin) (.int x23) (.int x24) (.ref h_cof) (.ref h_wri) (.int x25) (.int x_mm_room)))), (h_wri, .inl (cy_wri, 1000, .inl f26))]) [6, 5] (by decide) rfl
              have hKc := hK.sub (tys' := [(cy_wri, .int)]) [0] rfl
              have hFc := va_free (wc := [(h_mm, .inr (8, (mo73 v_mm (.ref h_nv) (.ref h_nn) (.ref h_na) (.ref h_nb) (.ref h_nc) (.ref h_let) (.ref h_bto) (.ref h_bin) (.int x23) (.int x24) (.ref h_cof) (.ref h_wri) (.int x25) (.int x_mm_room)))), (h_wri, .inl (cy_wri, 1000, .inl f26))]) hD hS hA [6, 5] rfl
              refine va_callv (va_runV (As := [.int 40]) (rest := []) ⟨hx, hb, hml, hown, hts⟩ (c_X11_says l dC dI H.size h_mm h_wri (fun k => List.getD (mo73 v_mm (.ref h_nv) (.ref h_nn) (.ref h_na) (.ref h_nb) (.ref h_nc) (.ref h_let) (.ref h_bto) (.ref h_bin) (.int x23) (.int x24) (.ref h_cof) (.ref h_wri) (.int x25) (.int x_mm_room)) k .null) x25 x_mm_room cy_wri f26 40 (by omega) (by omega)) (cwV 1 hts (gv hT w_m_X11_452 w_instanceMethod_X11_says ws_sel_X11_says w_ini_X11 w_code_X11_says) rfl rfl rfl (by decide +kernel) ⟨(by dsimp only [headSpec]; omega), (by dsimp only [headSpec]; omega)⟩) ⟨pre_blind, va_recv hK hP (ci := 8) (q0 := 6) rfl rfl, pre_of hPc hKc hDc hN⟩ rfl rfl hl.1 rfl (lv_room (Nat.le_of_ble_eq_true rfl)) dX11_saysTerm_140 ⟨(Nat.le_of_ble_eq_true rfl), (Nat.le_of_ble_eq_true rfl)⟩) hS (fun q _ h => hFc q h) hFc (fun u t H locs ht hvm hq hB hz1 hk1 hS => ?_)
              obtain ⟨z67, f68⟩ := u
              obtain ⟨hP1, hD1⟩ := hB
              rw [ht] at hP1
              obtain ⟨hP, hD⟩ := va_join (wr := [(h_let, .inl (cy_let, 256, .inl f_let)), (h_nn, .inl (cy_nn, 8000, .inr (.inl f_nn))), (h_cof, .inl (cy_cof, 31, .inl f_cof)), (h_bto, .inl (cy_bto, 256, .inl f_bto)), (h_bin, .inl (cy_bin, 256, .inl f_bin)), (h_nv, .inl (cy_nv, 8000, .inl f_nv)), (h_na, .inl (cy_na, 8000, .inl f_na)), (h_nb, .inl (cy_nb, 8000, .inl f_nb)), (h_nc, .inl (cy_nc, 8000, .inl f_nc))]) (w1 := [(h_mm, .inr (8, (mo73 v_mm (.ref h_nv) (.ref h_nn) (.ref h_na) (.ref h_nb) (.ref h_nc) (.ref h_let) (.ref h_bto) (.ref h_bin) (.int x23) (.int x24) (.ref h_cof) (.ref h_wri) (.int z67) (.int x_mm_room)))), (h_wri, .inl (cy_wri, 1000, .inl f68))]) hP hD [6, 5] [0, 1, 2, 3, 4, 7, 8, 9, 10] rfl rfl (by decide) (by decide) hk1 hFc hP1 hD1
              have hP : va_P (dC, dI) cls [(h_let, .inl (cy_let, 256, .inl f_let)), (h_nn, .inl (cy_nn, 8000, .inr (.inl f_nn))), (h_cof, .inl (cy_cof, 31, .inl f_cof)), (h_bto, .inl (cy_bto, 256, .inl f_bto)), (h_bin, .inl (cy_bin, 256, .inl f_bin)), (h_nv, .inl (cy_nv, 8000, .inl f_nv)), (h_na, .inl (cy_na, 8000, .inl f_na)), (h_nb, .inl (cy_nb, 8000, .inl f_nb)), (h_nc, .inl (cy_nc, 8000, .inl f_nc)), (h_mm, .inr (8, (mo73 v_mm (.ref h_nv) (.ref h_nn) (.ref h_na) (.ref h_nb) (.ref h_nc) (.ref h_let) (.ref h_bto) (.ref h_bin) (.int x23) (.int x24) (.ref h_cof) (.ref h_wri) (.int z67) (.int x_mm_room)))), (h_wri, .inl (cy_wri, 1000, .inl f68))] H := hP
              have hD : va_D A [(h_let, .inl (cy_let, 256, .inl f_let)), (h_nn, .inl (cy_nn, 8000, .inr (.inl f_nn))), (h_cof, .inl (cy_cof, 31, .inl f_cof)), (h_bto, .inl (cy_bto, 256, .inl f_bto)), (h_bin, .inl (cy_bin, 256, .inl f_bin)), (h_nv, .inl (cy_nv, 8000, .inl f_nv)), (h_na, .inl (cy_na, 8000, .inl f_na)), (h_nb, .inl (cy_nb, 8000, .inl f_nb)), (h_nc, .inl (cy_nc, 8000, .inl f_nc)), (h_mm, .inr (8, (mo73 v_mm (.ref h_nv) (.ref h_nn) (.ref h_na) (.ref h_nb) (.ref h_nc) (.ref h_let) (.ref h_bto) (.ref h_bin) (.int x23) (.int x24) (.ref h_cof) (.ref h_wri) (.int z67) (.int x_mm_room)))), (h_wri, .inl (cy_wri, 1000, .inl f68))] := hD
              obtain ⟨k69, k70⟩ := hq
              have k69 : 0 ≤ ((z67)).toInt ∧ ((z67)).toInt ≤ 1000 := k69
              have k70 : ((x25)).toInt ≤ ((z67)).toInt := k70
              refine lv_aload_n hx hb dX11_saysTerm_143 rfl (lv_at hl 0 rfl) ?_
              refine lv_aload_n hx hb dX11_saysTerm_144 rfl (lv_at hl 0 rfl) ?_
              refine lv_iload hx hb dX11_saysTerm_145 (lv_at hl 4 rfl) ?_
              refine lv_iload hx hb dX11_saysTerm_147 (lv_at hl 6 rfl) ?_
              have hPc := hP.sub (ws' := [(h_mm, .inr (8, (mo73 v_mm (.ref h_nv) (.ref h_nn) (.ref h_na) (.ref h_nb) (.ref h_nc) (.ref h_let) (.ref h_bto) (.ref h_bin) (.int x23) (.int x24) (.ref h_cof) (.ref h_wri) (.int z67) (.int x_mm_room)))), (h_na, .inl (cy_na, 8000, .inl f_na)), (h_nb, .inl (cy_nb, 8000, .inl f_nb)), (h_nc, .inl (cy_nc, 8000, .inl f_nc))]) [9, 6, 7, 8] rfl
              have hDc := hD.sub (ws' := [(h_mm, .inr (8, (mo73 v_mm (.ref h_nv) (.ref h_nn) (.ref h_na) (.ref h_nb) (.ref h_nc) (.ref h_let) (.ref h_bto) (.ref h_bin) (.int x23) (.int x24) (.ref h_cof) (.ref h_wri) (.int z67) (.int x_mm_room)))), (h_na, .inl (cy_na, 8000, .inl f_na)), (h_nb, .inl (cy_nb, 8000, .inl f_nb)), (h_nc, .inl (cy_nc, 8000, .inl f_nc))]) [9, 6, 7, 8] (by decide) rfl
              have hKc := hK.sub (tys' := [(cy_na, .int), (cy_nb, .int), (cy_nc, .int)]) [4, 5, 6] rfl
              have hFc := va_free (wc := [(h_mm, .inr (8, (mo73 v_mm (.ref h_nv) (.ref h_nn) (.ref h_na) (.ref h_nb) (.ref h_nc) (.ref h_let) (.ref h_bto) (.ref h_bin) (.int x23) (.int x24) (.ref h_cof) (.ref h_wri) (.int z67) (.int x_mm_room)))), (h_na, .inl (cy_na, 8000, .inl f_na)), (h_nb, .inl (cy_nb, 8000, .inl f_nb)), (h_nc, .inl (cy_nc, 8000, .inl f_nc))]) hD hS hA [9, 6, 7, 8] rfl
              refine va_calli (va_runV (As := [.int z4, .int x22]) (rest := [.ref h_mm]) ⟨hx, hb, hml, hown, hts⟩ (c_X11_part_e l dC dI H.size h_mm h_na h_nb h_nc (fun k => List.getD (mo73 v_mm (.ref h_nv) (.ref h_nn) (.ref h_na) (.ref h_nb) (.ref h_nc) (.ref h_let) (.ref h_bto) (.ref h_bin) (.int x23) (.int x24) (.ref h_cof) (.ref h_wri) (.int z67) (.int x_mm_room)) k .null) cy_na f_na cy_nb f_nb cy_nc f_nc z4 x22 hf_na hf_nb hf_nc (by omega)) (cwV 2 hts (gv hT w_m_X11_31 w_instanceMethod_X11_part ws_sel_X11_part w_ini_X11 w_code_X11_part) rfl rfl rfl (by decide +kernel) ⟨(by dsimp only [headSpec]; omega), (by dsimp only [headSpec]; omega)⟩) ⟨pre_blind, va_recv hK hP (ci := 8) (q0 := 9) rfl rfl, pre_of hPc hKc hDc hN⟩ rfl rfl hl.1 rfl (lv_room (Nat.le_of_ble_eq_true rfl)) dX11_saysTerm_149 ⟨(Nat.le_of_ble_eq_true rfl), (Nat.le_of_ble_eq_true rfl)⟩) hS (fun q _ h => hFc q h) hFc (fun r71 u t H locs ht hvm hq hB hz1 hk1 hS => ?_)
              obtain ⟨hP1, hD1⟩ := hB
              rw [ht] at hP1
              obtain ⟨hP, hD⟩ := va_join (wr := [(h_let, .inl (cy_let, 256, .inl f_let)), (h_nn, .inl (cy_nn, 8000, .inr (.inl f_nn))), (h_cof, .inl (cy_cof, 31, .inl f_cof)), (h_bto, .inl (cy_bto, 256, .inl f_bto)), (h_bin, .inl (cy_bin, 256, .inl f_bin)), (h_nv, .inl (cy_nv, 8000, .inl f_nv)), (h_wri, .inl (cy_wri, 1000, .inl f68))]) (w1 := [(h_mm, .inr (8, (mo73 v_mm (.ref h_nv) (.ref h_nn) (.ref h_na) (.ref h_nb) (.ref h_nc) (.ref h_let) (.ref h_bto) (.ref h_bin) (.int x23) (.int x24) (.ref h_cof) (.ref h_wri) (.int z67) (.int x_mm_room)))), (h_na, .inl (cy_na, 8000, .inl f_na)), (h_nb, .inl (cy_nb, 8000, .inl f_nb)), (h_nc, .inl (cy_nc, 8000, .inl f_nc))]) hP hD [9, 6, 7, 8] [0, 1, 2, 3, 4, 5, 10] rfl rfl (by decide) (by decide) hk1 hFc hP1 hD1
              have hP : va_P (dC, dI) cls [(h_let, .inl (cy_let, 256, .inl f_let)), (h_nn, .inl (cy_nn, 8000, .inr (.inl f_nn))), (h_cof, .inl (cy_cof, 31, .inl f_cof)), (h_bto, .inl (cy_bto, 256, .inl f_bto)), (h_bin, .inl (cy_bin, 256, .inl f_bin)), (h_nv, .inl (cy_nv, 8000, .inl f_nv)), (h_wri, .inl (cy_wri, 1000, .inl f68)), (h_mm, .inr (8, (mo73 v_mm (.ref h_nv) (.ref h_nn) (.ref h_na) (.ref h_nb) (.ref h_nc) (.ref h_let) (.ref h_bto) (.ref h_bin) (.int x23) (.int x24) (.ref h_cof) (.ref h_wri) (.int z67) (.int x_mm_room)))), (h_na, .inl (cy_na, 8000, .inl f_na)), (h_nb, .inl (cy_nb, 8000, .inl f_nb)), (h_nc, .inl (cy_nc, 8000, .inl f_nc))] H := hP
              have hD : va_D A [(h_let, .inl (cy_let, 256, .inl f_let)), (h_nn, .inl (cy_nn, 8000, .inr (.inl f_nn))), (h_cof, .inl (cy_cof, 31, .inl f_cof)), (h_bto, .inl (cy_bto, 256, .inl f_bto)), (h_bin, .inl (cy_bin, 256, .inl f_bin)), (h_nv, .inl (cy_nv, 8000, .inl f_nv)), (h_wri, .inl (cy_wri, 1000, .inl f68)), (h_mm, .inr (8, (mo73 v_mm (.ref h_nv) (.ref h_nn) (.ref h_na) (.ref h_nb) (.ref h_nc) (.ref h_let) (.ref h_bto) (.ref h_bin) (.int x23) (.int x24) (.ref h_cof) (.ref h_wri) (.int z67) (.int x_mm_room)))), (h_na, .inl (cy_na, 8000, .inl f_na)), (h_nb, .inl (cy_nb, 8000, .inl f_nb)), (h_nc, .inl (cy_nc, 8000, .inl f_nc))] := hD
              obtain ⟨k72, k73⟩ := hq
              have k72 : -1 ≤ (r71).toInt ∧ (r71).toInt ≤ 7999 := k72
              have k73 : ((r71)).toInt = (ptx f_na f_nb f_nc ((z4)).toInt.toNat ((x22)).toInt).toInt := k73
              have cc9e : ptx f_na f_nb f_nc (z4).toInt.toNat (x22).toInt = r71 := Int32.toInt_inj.mp (by omega)
              have cc9c := ch_ok (nv := f_nv) (k := (x22).toInt) (x := (z4).toInt.toNat) hn_bi.1 (by omega) (by omega)
              rw [cc9e] at cc9c
              have cc9p := pa_ch (k := (x22).toInt) (k12) (by omega)
              rw [cc9e] at cc9p
              refine lv_iload hx hb dX11_saysTerm_152 (lv_at hl 5 rfl) ?_
              refine lv_iload_n hx hb dX11_saysTerm_154 rfl (lv_at hl 3 rfl) ?_
              have hPc := hP.sub (ws' := [(h_mm, .inr (8, (mo73 v_mm (.ref h_nv) (.ref h_nn) (.ref h_na) (.ref h_nb) (.ref h_nc) (.ref h_let) (.ref h_bto) (.ref h_bin) (.int x23) (.int x24) (.ref h_cof) (.ref h_wri) (.int z67) (.int x_mm_room)))), (h_wri, .inl (cy_wri, 1000, .inl f68)), (h_let, .inl (cy_let, 256, .inl f_let)), (h_nv, .inl (cy_nv, 8000, .inl f_nv)), (h_nn, .inl (cy_nn, 8000, .inr (.inl f_nn))), (h_na, .inl (cy_na, 8000, .inl f_na)), (h_nb, .inl (cy_nb, 8000, .inl f_nb)), (h_nc, .inl (cy_nc, 8000, .inl f_nc)), (h_bto, .inl (cy_bto, 256, .inl f_bto)), (h_bin, .inl (cy_bin, 256, .inl f_bin)), (h_cof, .inl (cy_cof, 31, .inl f_cof))]) [7, 6, 0, 5, 1, 8, 9, 10, 3, 4, 2] rfl
              have hDc := hD.sub (ws' := [(h_mm, .inr (8, (mo73 v_mm (.ref h_nv) (.ref h_nn) (.ref h_na) (.ref h_nb) (.ref h_nc) (.ref h_let) (.ref h_bto) (.ref h_bin) (.int x23) (.int x24) (.ref h_cof) (.ref h_wri) (.int z67) (.int x_mm_room)))), (h_wri, .inl (cy_wri, 1000, .inl f68)), (h_let, .inl (cy_let, 256, .inl f_let)), (h_nv, .inl (cy_nv, 8000, .inl f_nv)), (h_nn, .inl (cy_nn, 8000, .inr (.inl f_nn))), (h_na, .inl (cy_na, 8000, .inl f_na)), (h_nb, .inl (cy_nb, 8000, .inl f_nb)), (h_nc, .inl (cy_nc, 8000, .inl f_nc)), (h_bto, .inl (cy_bto, 256, .inl f_bto)), (h_bin, .inl (cy_bin, 256, .inl f_bin)), (h_cof, .inl (cy_cof, 31, .inl f_cof))]) [7, 6, 0, 5, 1, 8, 9, 10, 3, 4, 2] (by decide) rfl
              have hKc := hK.sub (tys' := [(cy_wri, .int), (cy_let, .int), (cy_nv, .int), (cy_nn, .long), (cy_na, .int), (cy_nb, .int), (cy_nc, .int), (cy_bto, .int), (cy_bin, .int), (cy_cof, .int)]) [0, 1, 2, 3, 4, 5, 6, 7, 8, 9] rfl
              have hFc := va_free (wc := [(h_mm, .inr (8, (mo73 v_mm (.ref h_nv) (.ref h_nn) (.ref h_na) (.ref h_nb) (.ref h_nc) (.ref h_let) (.ref h_bto) (.ref h_bin) (.int x23) (.int x24) (.ref h_cof) (.ref h_wri) (.int z67) (.int x_mm_room)))), (h_wri, .inl (cy_wri, 1000, .inl f68)), (h_let, .inl (cy_let, 256, .inl f_let)), (h_nv, .inl (cy_nv, 8000, .inl f_nv)), (h_nn, .inl (cy_nn, 8000, .inr (.inl f_nn))), (h_na, .inl (cy_na, 8000, .inl f_na)), (h_nb, .inl (cy_nb, 8000, .inl f_nb)), (h_nc, .inl (cy_nc, 8000, .inl f_nc)), (h_bto, .inl (cy_bto, 256, .inl f_bto)), (h_bin, .inl (cy_bin, 256, .inl f_bin)), (h_cof, .inl (cy_cof, 31, .inl f_cof))]) hD hS hA [7, 6, 0, 5, 1, 8, 9, 10, 3, 4, 2] rfl
              refine va_callv (va_runV (As := [.int r71, .int z5, .int p3]) (rest := []) ⟨hx, hb, hml, hown, hts⟩ (ihf dC dI H.size h_mm h_wri h_let h_nv h_nn h_na h_nb h_nc h_bto h_bin h_cof v_mm x23 x24 z67 x_mm_room cy_wri f68 cy_let f_let cy_nv f_nv cy_nn f_nn cy_na f_na cy_nb f_nb cy_nc f_nc cy_bto f_bto cy_bin f_bin cy_cof f_cof r71 z5 p3 i0 i1 N hz z6 (by omega) (by omega) (by omega) (by omega) hf_nv hf_na hf_nb hf_nc hf_bto hf_bin hf_cof (by omega) (by omega) (by omega) (by omega) (by omega) (by omega) hn_bi cc9p) (cwV 3 hts (gv hT w_m_X11_459 w_instanceMethod_X11_saysTerm ws_sel_X11_saysTerm w_ini_X11 w_code_X11_saysTerm) rfl rfl rfl (by decide +kernel) ⟨(by dsimp only [headSpec]; omega), (by dsimp only [headSpec]; omega)⟩) ⟨pre_blind, va_recv hK hP (ci := 8) (q0 := 7) rfl rfl, pre_of hPc hKc hDc hN⟩ rfl rfl hl.1 rfl (lv_room (Nat.le_of_ble_eq_true rfl)) dX11_saysTerm_155 ⟨(Nat.le_of_ble_eq_true rfl), (Nat.le_of_ble_eq_true rfl)⟩) hS (fun q _ h => hFc q h) hFc (fun u t H locs ht hvm hq hB hz1 hk1 hS => ?_)
              obtain ⟨z75, z76, z77, f78⟩ := u
              obtain ⟨hP1, hD1⟩ := hB
              rw [ht] at hP1
              obtain ⟨hP, hD⟩ := va_join (wr := []) (w1 := [(h_mm, .inr (8, (mo73 v_mm (.ref h_nv) (.ref h_nn) (.ref h_na) (.ref h_nb) (.ref h_nc) (.ref h_let) (.ref h_bto) (.ref h_bin) (.int z75) (.int z76) (.ref h_cof) (.ref h_wri) (.int z77) (.int x_mm_room)))), (h_wri, .inl (cy_wri, 1000, .inl f78)), (h_let, .inl (cy_let, 256, .inl f_let)), (h_nv, .inl (cy_nv, 8000, .inl f_nv)), (h_nn, .inl (cy_nn, 8000, .inr (.inl f_nn))), (h_na, .inl (cy_na, 8000, .inl f_na)), (h_nb, .inl (cy_nb, 8000, .inl f_nb)), (h_nc, .inl (cy_nc, 8000, .inl f_nc)), (h_bto, .inl (cy_bto, 256, .inl f_bto)), (h_bin, .inl (cy_bin, 256, .inl f_bin)), (h_cof, .inl (cy_cof, 31, .inl f_cof))]) hP hD [7, 6, 0, 5, 1, 8, 9, 10, 3, 4, 2] [] rfl rfl (by decide) (by decide) hk1 hFc hP1 hD1
              have hP : va_P (dC, dI) cls [(h_mm, .inr (8, (mo73 v_mm (.ref h_nv) (.ref h_nn) (.ref h_na) (.ref h_nb) (.ref h_nc) (.ref h_let) (.ref h_bto) (.ref h_bin) (.int z75) (.int z76) (.ref h_cof) (.ref h_wri) (.int z77) (.int x_mm_room)))), (h_wri, .inl (cy_wri, 1000, .inl f78)), (h_let, .inl (cy_let, 256, .inl f_let)), (h_nv, .inl (cy_nv, 8000, .inl f_nv)), (h_nn, .inl (cy_nn, 8000, .inr (.inl f_nn))), (h_na, .inl (cy_na, 8000, .inl f_na)), (h_nb, .inl (cy_nb, 8000, .inl f_nb)), (h_nc, .inl (cy_nc, 8000, .inl f_nc)), (h_bto, .inl (cy_bto, 256, .inl f_bto)), (h_bin, .inl (cy_bin, 256, .inl f_bin)), (h_cof, .inl (cy_cof, 31, .inl f_cof))] H := hP
              have hD : va_D A [(h_mm, .inr (8, (mo73 v_mm (.ref h_nv) (.ref h_nn) (.ref h_na) (.ref h_nb) (.ref h_nc) (.ref h_let) (.ref h_bto) (.ref h_bin) (.int z75) (.int z76) (.ref h_cof) (.ref h_wri) (.int z77) (.int x_mm_room)))), (h_wri, .inl (cy_wri, 1000, .inl f78)), (h_let, .inl (cy_let, 256, .inl f_let)), (h_nv, .inl (cy_nv, 8000, .inl f_nv)), (h_nn, .inl (cy_nn, 8000, .inr (.inl f_nn))), (h_na, .inl (cy_na, 8000, .inl f_na)), (h_nb, .inl (cy_nb, 8000, .inl f_nb)), (h_nc, .inl (cy_nc, 8000, .inl f_nc)), (h_bto, .inl (cy_bto, 256, .inl f_bto)), (h_bin, .inl (cy_bin, 256, .inl f_bin)), (h_cof, .inl (cy_cof, 31, .inl f_cof))] := hD
              obtain ⟨k79, k80, k81⟩ := hq
              have k79 : 0 ≤ ((z75)).toInt ∧ ((z75)).toInt ≤ 7999 := k79
              have k80 : 0 ≤ ((z76)).toInt ∧ ((z76)).toInt ≤ 31 := k80
              have k81 : 0 ≤ ((z77)).toInt ∧ ((z77)).toInt ≤ 1000 := k81
              obtain ⟨z82, ez82⟩ : ∃ y : Int32, y = x22 + 1 := ⟨_, rfl⟩
              have tz82 : (z82).toInt = (x22).toInt + 1 := by rw [ez82]; exact i_add rfl (by decide) (by omega)
              refine lv_iinc (v := z82) (lv' := [(6, .int z82), (0, .ref h_mm), (1, .int p1), (2, .int p2), (3, .int p3), (4, .int z4), (5, .int z5)]) hx hb dX11_saysTerm_158 hl (k := 6) rfl (by rw [ez82]; rfl) (by decide) rfl (fun ls hl => ?_)
              refine lv_goto (tgt := 116) hx hb dX11_saysTerm_161 (by decide) ?_
              have hP : va_P (dC, dI) cls [(h_let, .inl (cy_let, 256, .inl f_let)), (h_nn, .inl (cy_nn, 8000, .inr (.inl f_nn))), (h_cof, .inl (cy_cof, 31, .inl f_cof)), (h_nv, .inl (cy_nv, 8000, .inl f_nv)), (h_na, .inl (cy_na, 8000, .inl f_na)), (h_nb, .inl (cy_nb, 8000, .inl f_nb)), (h_nc, .inl (cy_nc, 8000, .inl f_nc)), (h_bto, .inl (cy_bto, 256, .inl f_bto)), (h_bin, .inl (cy_bin, 256, .inl f_bin)), (h_mm, .inr (8, (mo73 v_mm (.ref h_nv) (.ref h_nn) (.ref h_na) (.ref h_nb) (.ref h_nc) (.ref h_let) (.ref h_bto) (.ref h_bin) (.int z75) (.int z76) (.ref h_cof) (.ref h_wri) (.int z77) (.int x_mm_room)))), (h_wri, .inl (cy_wri, 1000, .inl f78))] H := hP.sub [2, 4, 10, 3, 5, 6, 7, 8, 9, 0, 1] rfl
              have hD : va_D A [(h_let, .inl (cy_let, 256, .inl f_let)), (h_nn, .inl (cy_nn, 8000, .inr (.inl f_nn))), (h_cof, .inl (cy_cof, 31, .inl f_cof)), (h_nv, .inl (cy_nv, 8000, .inl f_nv)), (h_na, .inl (cy_na, 8000, .inl f_na)), (h_nb, .inl (cy_nb, 8000, .inl f_nb)), (h_nc, .inl (cy_nc, 8000, .inl f_nc)), (h_bto, .inl (cy_bto, 256, .inl f_bto)), (h_bin, .inl (cy_bin, 256, .inl f_bin)), (h_mm, .inr (8, (mo73 v_mm (.ref h_nv) (.ref h_nn) (.ref h_na) (.ref h_nb) (.ref h_nc) (.ref h_let) (.ref h_bto) (.ref h_bin) (.int z75) (.int z76) (.ref h_cof) (.ref h_wri) (.int z77) (.int x_mm_room)))), (h_wri, .inl (cy_wri, 1000, .inl f78))] := hD.sub [2, 4, 10, 3, 5, 6, 7, 8, 9, 0, 1] (by decide) rfl
              exact ih28 (z82) (z75) (z76) (z77) (f78) _ _ _ (by omega) (by omega) (by omega) (by omega) (by omega) hP hD hS (lv_sub hl [1, 2, 3, 4, 5, 6, 0] rfl)
      have cst0 : (0 : Int32).toInt = 0 := by decide
      exact lp27 _ (0) (z4) (z5) (z19) (f20) _ _ _ (by decide) (by omega) (by omega) (by omega) (Nat.le_refl _) hP hD hS (lv_sub hl [3, 4, 5, 6, 2, 1, 0] rfl)
    · have kc16 := (not_congr (cv_eq (rfl : (z15).toInt = (z15).toInt) (by decide : ((-1) : Int32).toInt = -1))).mp c16
      have hvz15 : (f_nv (z4).toInt.toNat).toInt = (z15).toInt := by rw [ez15, (clamp_nat (i := z4) (by omega))]
      refine lv_aload_n hx hb dX11_saysTerm_52 rfl (lv_at hl 2 rfl) ?_
      refine lv_aload_n hx hb dX11_saysTerm_53 rfl (lv_at hl 2 rfl) ?_
      refine va_get (D := (dC, dI)) (ci := 8) (v := .ref h_let) (C := RX11) (T := TX11) (N := 71) hx hb hw iwX11 hown hK hP 4 rfl rfl 10 (by decide) (hw _ w_f_X11_108) (fun _ h9 => h9) rfl dX11_saysTerm_54 ?_
      refine lv_bipush (v := 8) hx hb dX11_saysTerm_57 (by decide) ?_
      refine lv_iload hx hb dX11_saysTerm_59 (lv_at hl 0 rfl) ?_
      refine lv_iconst (v := (-1)) hx hb dX11_saysTerm_61 (by decide) ?_
      refine lv_icmp_ne (tgt := 69) hx hb dX11_saysTerm_62 (by decide) (fun _ => ?_) (fun c83 => False.elim (by have kc83 := (cv_eq (rfl : (z5).toInt = (z5).toInt) (by decide : ((-1) : Int32).toInt = -1)).mp c83; omega))
      refine lv_aload_n hx hb dX11_saysTerm_69 rfl (lv_at hl 2 rfl) ?_
      refine va_get (D := (dC, dI)) (ci := 8) (v := .ref h_cof) (C := RX11) (T := TX11) (N := 71) hx hb hw iwX11 hown hK hP 4 rfl rfl 37 (by decide) (hw _ w_f_X11_204) (fun _ h9 => h9) rfl dX11_saysTerm_70 ?_
      refine lv_iload hx hb dX11_saysTerm_73 (lv_at hl 0 rfl) ?_
      refine va_iald hx hb hK hP 3 9 rfl rfl (i := z5) (vp_in_iff.mpr (by omega)) dX11_saysTerm_75 ?_
      refine lv_topi (fun z84 ez84 => ?_)
      have rz84 : 0 ≤ (z84).toInt ∧ (z84).toInt ≤ 15 := by rw [ez84]; exact hf_cof _
      refine lv_imul hx hb dX11_saysTerm_76 ?_
      refine lv_topi (fun z85 ez85 => ?_)
      have tz85 : (z85).toInt = 8 * (z84).toInt := by rw [ez85]; exact i_mul (by decide) rfl (by omega)
      refine lv_aload_n hx hb dX11_saysTerm_77 rfl (lv_at hl 2 rfl) ?_
      refine va_get (D := (dC, dI)) (ci := 8) (v := .ref h_nv) (C := RX11) (T := TX11) (N := 71) hx hb hw iwX11 hown hK hP 4 rfl rfl 1 (by decide) (hw _ w_f_X11_17) (fun _ h9 => h9) rfl dX11_saysTerm_78 ?_
      refine lv_iload hx hb dX11_saysTerm_81 (lv_at hl 1 rfl) ?_
      refine va_iald hx hb hK hP 5 2 rfl rfl (i := z4) (vp_in_iff.mpr (by omega)) dX11_saysTerm_83 ?_
      refine lv_topi (fun z86 ez86 => ?_)
      have qz86 : (z86).toInt = (z15).toInt := by rw [ez86, ez15]
      have rz86 : -1 ≤ (z86).toInt ∧ (z86).toInt ≤ 7 := by rw [ez86]; exact hf_nv _
      refine lv_iadd hx hb dX11_saysTerm_84 ?_
      refine lv_topi (fun z87 ez87 => ?_)
      have tz87 : (z87).toInt = (z85).toInt + (z86).toInt := by rw [ez87]; exact i_add rfl rfl (by omega)
      refine va_iald hx hb hK hP 1 1 rfl rfl (i := z87) (vp_in_iff.mpr (by omega)) dX11_saysTerm_85 ?_
      refine lv_topi (fun z88 ez88 => ?_)
      have hPc := hP.sub (ws' := [(h_mm, .inr (8, (mo73 v_mm (.ref h_nv) (.ref h_nn) (.ref h_na) (.ref h_nb) (.ref h_nc) (.ref h_let) (.ref h_bto) (.ref h_bin) (.int z4) (.int z5) (.ref h_cof) (.ref h_wri) (.int x_mm_writes) (.int x_mm_room)))), (h_wri, .inl (cy_wri, 1000, .inl f_wri))]) [4, 0] rfl
      have hDc := hD.sub (ws' := [(h_mm, .inr (8, (mo73 v_mm (.ref h_nv) (.ref h_nn) (.ref h_na) (.ref h_nb) (.ref h_nc) (.ref h_let) (.ref h_bto) (.ref h_bin) (.int z4) (.int z5) (.ref h_cof) (.ref h_wri) (.int x_mm_writes) (.int x_mm_room)))), (h_wri, .inl (cy_wri, 1000, .inl f_wri))]) [4, 0] (by decide) rfl
      have hKc := hK.sub (tys' := [(cy_wri, .int)]) [0] rfl
      have hFc := va_free (wc := [(h_mm, .inr (8, (mo73 v_mm (.ref h_nv) (.ref h_nn) (.ref h_na) (.ref h_nb) (.ref h_nc) (.ref h_let) (.ref h_bto) (.ref h_bin) (.int z4) (.int z5) (.ref h_cof) (.ref h_wri) (.int x_mm_writes) (.int x_mm_room)))), (h_wri, .inl (cy_wri, 1000, .inl f_wri))]) hD hS hA [4, 0] rfl
      refine va_callv (va_runV (As := [.int z88]) (rest := []) ⟨hx, hb, hml, hown, hts⟩ (c_X11_says l dC dI H.size h_mm h_wri (fun k => List.getD (mo73 v_mm (.ref h_nv) (.ref h_nn) (.ref h_na) (.ref h_nb) (.ref h_nc) (.ref h_let) (.ref h_bto) (.ref h_bin) (.int z4) (.int z5) (.ref h_cof) (.ref h_wri) (.int x_mm_writes) (.int x_mm_room)) k .null) x_mm_writes x_mm_room cy_wri f_wri z88 (by omega) (by omega)) (cwV 1 hts (gv hT w_m_X11_452 w_instanceMethod_X11_says ws_sel_X11_says w_ini_X11 w_code_X11_says) rfl rfl rfl (by decide +kernel) ⟨(by dsimp only [headSpec]; omega), (by dsimp only [headSpec]; omega)⟩) ⟨pre_blind, va_recv hK hP (ci := 8) (q0 := 4) rfl rfl, pre_of hPc hKc hDc hN⟩ rfl rfl hl.1 rfl (lv_room (Nat.le_of_ble_eq_true rfl)) dX11_saysTerm_86 ⟨(Nat.le_of_ble_eq_true rfl), (Nat.le_of_ble_eq_true rfl)⟩) hS (fun q _ h => hFc q h) hFc (fun u t H locs ht hvm hq hB hz1 hk1 hS => ?_)
      obtain ⟨z90, f91⟩ := u
      obtain ⟨hP1, hD1⟩ := hB
      rw [ht] at hP1
      obtain ⟨hP, hD⟩ := va_join (wr := [(h_let, .inl (cy_let, 256, .inl f_let)), (h_nn, .inl (cy_nn, 8000, .inr (.inl f_nn))), (h_cof, .inl (cy_cof, 31, .inl f_cof)), (h_nv, .inl (cy_nv, 8000, .inl f_nv)), (h_na, .inl (cy_na, 8000, .inl f_na)), (h_nb, .inl (cy_nb, 8000, .inl f_nb)), (h_nc, .inl (cy_nc, 8000, .inl f_nc)), (h_bto, .inl (cy_bto, 256, .inl f_bto)), (h_bin, .inl (cy_bin, 256, .inl f_bin))]) (w1 := [(h_mm, .inr (8, (mo73 v_mm (.ref h_nv) (.ref h_nn) (.ref h_na) (.ref h_nb) (.ref h_nc) (.ref h_let) (.ref h_bto) (.ref h_bin) (.int z4) (.int z5) (.ref h_cof) (.ref h_wri) (.int z90) (.int x_mm_room)))), (h_wri, .inl (cy_wri, 1000, .inl f91))]) hP hD [4, 0] [1, 2, 3, 5, 6, 7, 8, 9, 10] rfl rfl (by decide) (by decide) hk1 hFc hP1 hD1
      have hP : va_P (dC, dI) cls [(h_let, .inl (cy_let, 256, .inl f_let)), (h_nn, .inl (cy_nn, 8000, .inr (.inl f_nn))), (h_cof, .inl (cy_cof, 31, .inl f_cof)), (h_nv, .inl (cy_nv, 8000, .inl f_nv)), (h_na, .inl (cy_na, 8000, .inl f_na)), (h_nb, .inl (cy_nb, 8000, .inl f_nb)), (h_nc, .inl (cy_nc, 8000, .inl f_nc)), (h_bto, .inl (cy_bto, 256, .inl f_bto)), (h_bin, .inl (cy_bin, 256, .inl f_bin)), (h_mm, .inr (8, (mo73 v_mm (.ref h_nv) (.ref h_nn) (.ref h_na) (.ref h_nb) (.ref h_nc) (.ref h_let) (.ref h_bto) (.ref h_bin) (.int z4) (.int z5) (.ref h_cof) (.ref h_wri) (.int z90) (.int x_mm_room)))), (h_wri, .inl (cy_wri, 1000, .inl f91))] H := hP
      have hD : va_D A [(h_let, .inl (cy_let, 256, .inl f_let)), (h_nn, .inl (cy_nn, 8000, .inr (.inl f_nn))), (h_cof, .inl (cy_cof, 31, .inl f_cof)), (h_nv, .inl (cy_nv, 8000, .inl f_nv)), (h_na, .inl (cy_na, 8000, .inl f_na)), (h_nb, .inl (cy_nb, 8000, .inl f_nb)), (h_nc, .inl (cy_nc, 8000, .inl f_nc)), (h_bto, .inl (cy_bto, 256, .inl f_bto)), (h_bin, .inl (cy_bin, 256, .inl f_bin)), (h_mm, .inr (8, (mo73 v_mm (.ref h_nv) (.ref h_nn) (.ref h_na) (.ref h_nb) (.ref h_nc) (.ref h_let) (.ref h_bto) (.ref h_bin) (.int z4) (.int z5) (.ref h_cof) (.ref h_wri) (.int z90) (.int x_mm_room)))), (h_wri, .inl (cy_wri, 1000, .inl f91))] := hD
      obtain ⟨k92, k93⟩ := hq
      have k92 : 0 ≤ ((z90)).toInt ∧ ((z90)).toInt ≤ 1000 := k92
      have k93 : ((x_mm_writes)).toInt ≤ ((z90)).toInt := k93
      refine lv_iload hx hb dX11_saysTerm_89 (lv_at hl 0 rfl) ?_
      refine lv_iconst (v := (-1)) hx hb dX11_saysTerm_91 (by decide) ?_
      refine lv_icmp_eq (tgt := 101) hx hb dX11_saysTerm_92 (by decide) (fun c94 => False.elim (by have kc94 := (cv_eq (rfl : (z5).toInt = (z5).toInt) (by decide : ((-1) : Int32).toInt = -1)).mp c94; omega)) (fun _ => ?_)
      refine lv_aload_n hx hb dX11_saysTerm_95 rfl (lv_at hl 2 rfl) ?_
      refine lv_iload hx hb dX11_saysTerm_96 (lv_at hl 0 rfl) ?_
      have hPc := hP.sub (ws' := [(h_mm, .inr (8, (mo73 v_mm (.ref h_nv) (.ref h_nn) (.ref h_na) (.ref h_nb) (.ref h_nc) (.ref h_let) (.ref h_bto) (.ref h_bin) (.int z4) (.int z5) (.ref h_cof) (.ref h_wri) (.int z90) (.int x_mm_room)))), (h_wri, .inl (cy_wri, 1000, .inl f91))]) [9, 10] rfl
      have hDc := hD.sub (ws' := [(h_mm, .inr (8, (mo73 v_mm (.ref h_nv) (.ref h_nn) (.ref h_na) (.ref h_nb) (.ref h_nc) (.ref h_let) (.ref h_bto) (.ref h_bin) (.int z4) (.int z5) (.ref h_cof) (.ref h_wri) (.int z90) (.int x_mm_room)))), (h_wri, .inl (cy_wri, 1000, .inl f91))]) [9, 10] (by decide) rfl
      have hKc := hK.sub (tys' := [(cy_wri, .int)]) [0] rfl
      have hFc := va_free (wc := [(h_mm, .inr (8, (mo73 v_mm (.ref h_nv) (.ref h_nn) (.ref h_na) (.ref h_nb) (.ref h_nc) (.ref h_let) (.ref h_bto) (.ref h_bin) (.int z4) (.int z5) (.ref h_cof) (.ref h_wri) (.int z90) (.int x_mm_room)))), (h_wri, .inl (cy_wri, 1000, .inl f91))]) hD hS hA [9, 10] rfl
      refine va_callv (va_runV (As := [.int z5]) (rest := []) ⟨hx, hb, hml, hown, hts⟩ (c_X11_saysNumber_1 l dC dI H.size h_mm h_wri (fun k => List.getD (mo73 v_mm (.ref h_nv) (.ref h_nn) (.ref h_na) (.ref h_nb) (.ref h_nc) (.ref h_let) (.ref h_bto) (.ref h_bin) (.int z4) (.int z5) (.ref h_cof) (.ref h_wri) (.int z90) (.int x_mm_room)) k .null) z90 x_mm_room cy_wri f91 z5 (by omega) (by omega) (by omega)) (cwV 1 hts (gv hT w_m_X11_449 w_instanceMethod_X11_saysNumber ws_sel_X11_saysNumber w_ini_X11 w_code_X11_saysNumber) rfl rfl rfl (by decide +kernel) ⟨(by dsimp only [headSpec]; omega), (by dsimp only [headSpec]; omega)⟩) ⟨pre_blind, va_recv hK hP (ci := 8) (q0 := 9) rfl rfl, pre_of hPc hKc hDc hN⟩ rfl rfl hl.1 rfl (lv_room (Nat.le_of_ble_eq_true rfl)) dX11_saysTerm_98 ⟨(Nat.le_of_ble_eq_true rfl), (Nat.le_of_ble_eq_true rfl)⟩) hS (fun q _ h => hFc q h) hFc (fun u t H locs ht hvm hq hB hz1 hk1 hS => ?_)
      obtain ⟨z96, f97⟩ := u
      obtain ⟨hP1, hD1⟩ := hB
      rw [ht] at hP1
      obtain ⟨hP, hD⟩ := va_join (wr := [(h_let, .inl (cy_let, 256, .inl f_let)), (h_nn, .inl (cy_nn, 8000, .inr (.inl f_nn))), (h_cof, .inl (cy_cof, 31, .inl f_cof)), (h_nv, .inl (cy_nv, 8000, .inl f_nv)), (h_na, .inl (cy_na, 8000, .inl f_na)), (h_nb, .inl (cy_nb, 8000, .inl f_nb)), (h_nc, .inl (cy_nc, 8000, .inl f_nc)), (h_bto, .inl (cy_bto, 256, .inl f_bto)), (h_bin, .inl (cy_bin, 256, .inl f_bin))]) (w1 := [(h_mm, .inr (8, (mo73 v_mm (.ref h_nv) (.ref h_nn) (.ref h_na) (.ref h_nb) (.ref h_nc) (.ref h_let) (.ref h_bto) (.ref h_bin) (.int z4) (.int z5) (.ref h_cof) (.ref h_wri) (.int z96) (.int x_mm_room)))), (h_wri, .inl (cy_wri, 1000, .inl f97))]) hP hD [9, 10] [0, 1, 2, 3, 4, 5, 6, 7, 8] rfl rfl (by decide) (by decide) hk1 hFc hP1 hD1
      have hP : va_P (dC, dI) cls [(h_let, .inl (cy_let, 256, .inl f_let)), (h_nn, .inl (cy_nn, 8000, .inr (.inl f_nn))), (h_cof, .inl (cy_cof, 31, .inl f_cof)), (h_nv, .inl (cy_nv, 8000, .inl f_nv)), (h_na, .inl (cy_na, 8000, .inl f_na)), (h_nb, .inl (cy_nb, 8000, .inl f_nb)), (h_nc, .inl (cy_nc, 8000, .inl f_nc)), (h_bto, .inl (cy_bto, 256, .inl f_bto)), (h_bin, .inl (cy_bin, 256, .inl f_bin)), (h_mm, .inr (8, (mo73 v_mm (.ref h_nv) (.ref h_nn) (.ref h_na) (.ref h_nb) (.ref h_nc) (.ref h_let) (.ref h_bto) (.ref h_bin) (.int z4) (.int z5) (.ref h_cof) (.ref h_wri) (.int z96) (.int x_mm_room)))), (h_wri, .inl (cy_wri, 1000, .inl f97))] H := hP
      have hD : va_D A [(h_let, .inl (cy_let, 256, .inl f_let)), (h_nn, .inl (cy_nn, 8000, .inr (.inl f_nn))), (h_cof, .inl (cy_cof, 31, .inl f_cof)), (h_nv, .inl (cy_nv, 8000, .inl f_nv)), (h_na, .inl (cy_na, 8000, .inl f_na)), (h_nb, .inl (cy_nb, 8000, .inl f_nb)), (h_nc, .inl (cy_nc, 8000, .inl f_nc)), (h_bto, .inl (cy_bto, 256, .inl f_bto)), (h_bin, .inl (cy_bin, 256, .inl f_bin)), (h_mm, .inr (8, (mo73 v_mm (.ref h_nv) (.ref h_nn) (.ref h_na) (.ref h_nb) (.ref h_nc) (.ref h_let) (.ref h_bto) (.ref h_bin) (.int z4) (.int z5) (.ref h_cof) (.ref h_wri) (.int z96) (.int x_mm_room)))), (h_wri, .inl (cy_wri, 1000, .inl f97))] := hD
      have k98 : 0 ≤ ((z96)).toInt ∧ ((z96)).toInt ≤ 1000 := hq
      have hP : va_P (dC, dI) cls [(h_mm, .inr (8, (mo73 v_mm (.ref h_nv) (.ref h_nn) (.ref h_na) (.ref h_nb) (.ref h_nc) (.ref h_let) (.ref h_bto) (.ref h_bin) (.int z4) (.int z5) (.ref h_cof) (.ref h_wri) (.int z96) (.int x_mm_room)))), (h_wri, .inl (cy_wri, 1000, .inl f97)), (h_let, .inl (cy_let, 256, .inl f_let)), (h_nv, .inl (cy_nv, 8000, .inl f_nv)), (h_nn, .inl (cy_nn, 8000, .inr (.inl f_nn))), (h_na, .inl (cy_na, 8000, .inl f_na)), (h_nb, .inl (cy_nb, 8000, .inl f_nb)), (h_nc, .inl (cy_nc, 8000, .inl f_nc)), (h_bto, .inl (cy_bto, 256, .inl f_bto)), (h_bin, .inl (cy_bin, 256, .inl f_bin)), (h_cof, .inl (cy_cof, 31, .inl f_cof))] H := hP.sub [9, 10, 0, 3, 1, 4, 5, 6, 7, 8, 2] rfl
      have hD : va_D A [(h_mm, .inr (8, (mo73 v_mm (.ref h_nv) (.ref h_nn) (.ref h_na) (.ref h_nb) (.ref h_nc) (.ref h_let) (.ref h_bto) (.ref h_bin) (.int z4) (.int z5) (.ref h_cof) (.ref h_wri) (.int z96) (.int x_mm_room)))), (h_wri, .inl (cy_wri, 1000, .inl f97)), (h_let, .inl (cy_let, 256, .inl f_let)), (h_nv, .inl (cy_nv, 8000, .inl f_nv)), (h_nn, .inl (cy_nn, 8000, .inr (.inl f_nn))), (h_na, .inl (cy_na, 8000, .inl f_na)), (h_nb, .inl (cy_nb, 8000, .inl f_nb)), (h_nc, .inl (cy_nc, 8000, .inl f_nc)), (h_bto, .inl (cy_bto, 256, .inl f_bto)), (h_bin, .inl (cy_bin, 256, .inl f_bin)), (h_cof, .inl (cy_cof, 31, .inl f_cof))] := hD.sub [9, 10, 0, 3, 1, 4, 5, 6, 7, 8, 2] (by decide) rfl
      refine W.widen (k := 0) (n := 0) (Nat.le_of_ble_eq_true rfl) (Nat.le_of_ble_eq_true rfl) ?_
      have w99 : 0 ≤ ((z4)).toInt ∧ ((z4)).toInt ≤ 7999 := by omega
      have w100 : 0 ≤ ((z5)).toInt ∧ ((z5)).toInt ≤ 31 := by omega
      have w101 : 0 ≤ ((z96)).toInt ∧ ((z96)).toInt ≤ 1000 := by omega
      exact W.vret hx hb hr (fun t ht hW => ⟨⟨(z4, z5, z96, f97), rfl, ⟨w99, w100, w101⟩, by rw [ht]; exact hP, hD⟩, hS.F ht⟩) hS.2.2 dX11_saysTerm_101
  · have kc1 := (not_congr (cv_le (rfl : (x_mm_writes).toInt = (x_mm_writes).toInt) (rfl : (x_mm_room).toInt = (x_mm_room).toInt))).mp c1
    refine W.widen (k := 0) (n := 0) (Nat.le_of_ble_eq_true rfl) (Nat.le_of_ble_eq_true rfl) ?_
    have w102 : 0 ≤ ((x_mm_goneTo)).toInt ∧ ((x_mm_goneTo)).toInt ≤ 7999 := by omega
    have w103 : 0 ≤ ((x_mm_goneIn)).toInt ∧ ((x_mm_goneIn)).toInt ≤ 31 := by omega
    have w104 : 0 ≤ ((x_mm_writes)).toInt ∧ ((x_mm_writes)).toInt ≤ 1000 := by omega
    exact W.vret hx hb hr (fun t ht hW => ⟨⟨(x_mm_goneTo, x_mm_goneIn, x_mm_writes, f_wri), rfl, ⟨w102, w103, w104⟩, by rw [ht]; exact hP, hD⟩, hS.F ht⟩) hS.2.2 dX11_saysTerm_11

set_option maxHeartbeats 8000000 in
set_option maxRecDepth 100000 in
theorem c_X11_shows_0 (l : Launch) (dC : Nat → ClassId) (dI : Nat → Nat → Nat) (sz : Nat) (h_mm : Nat) (h_wri : Nat) (h_let : Nat) (h_nv : Nat) (h_nn : Nat) (h_na : Nat) (h_nb : Nat) (h_nc : Nat) (h_isn : Nat) (h_tem : Nat) (h_out : Nat) (v_mm : Nat → Value) (x_mm_outs : Int32) (x_mm_writes : Int32) (x_mm_room : Int32) (cy_wri : ClassId) (f_wri : Nat → Int32) (cy_let : ClassId) (f_let : Nat → Int32) (cy_nv : ClassId) (f_nv : Nat → Int32) (cy_nn : ClassId) (f_nn : Nat → Int64) (cy_na : ClassId) (f_na : Nat → Int32) (cy_nb : ClassId) (f_nb : Nat → Int32) (cy_nc : ClassId) (f_nc : Nat → Int32) (cy_isn : ClassId) (f_isn : Nat → Int32) (cy_tem : ClassId) (f_tem : Nat → Int32) (cy_out : ClassId) (f_out : Nat → Int32) (p1 : Int32) (p3 : Int32) (N : Int) (hz : Nat → Nat) (hx_mm_outs : 0 ≤ (x_mm_outs).toInt ∧ (x_mm_outs).toInt ≤ 1000) (hx_mm_writes : 0 ≤ (x_mm_writes).toInt ∧ (x_mm_writes).toInt ≤ 1000) (hx_mm_room : 0 ≤ (x_mm_room).toInt ∧ (x_mm_room).toInt ≤ 998) (hf_nv : Rg (-1) 7 f_nv) (hf_na : Rg (-1) 7999 f_na) (hf_nb : Rg (-1) 7999 f_nb) (hf_nc : Rg (-1) 7999 f_nc) (hf_tem : Rg 0 7999 f_tem) (q0 : 0 ≤ (f_tem (p1).toInt.toNat).toInt ∧ (f_tem (p1).toInt.toNat).toInt < N ∧ hz (f_tem (p1).toInt.toNat).toInt.toNat = 7) (q1 : N ≤ 8000) (q2 : 0 ≤ (p1).toInt ∧ (p1).toInt ≤ 191) (q3 : 0 ≤ (p3).toInt ∧ (p3).toInt ≤ 15) (hn_nds : ND 0 N hz f_na f_nb f_nc) : Met l yX11_shows (Ws yX11_shows cX11_shows 6 (some .int)) (({ frames := 24, cells := 0, slots := 0, locals := 563 } : Room)) (PRE (dC, dI) cls [(cy_wri, .int), (cy_let, .int), (cy_nv, .int), (cy_nn, .long), (cy_na, .int), (cy_nb, .int), (cy_nc, .int), (cy_isn, .boolean), (cy_tem, .int), (cy_out, .int)] [(h_mm, .inr (8, (mo74 v_mm (.ref h_nv) (.ref h_nn) (.ref h_na) (.ref h_nb) (.ref h_nc) (.ref h_let) (.ref h_isn) (.ref h_tem) (.ref h_out) (.int x_mm_outs) (.ref h_wri) (.int x_mm_writes) (.int x_mm_room)))), (h_wri, .inl (cy_wri, 1000, .inl f_wri)), (h_let, .inl (cy_let, 256, .inl f_let)), (h_nv, .inl (cy_nv, 8000, .inl f_nv)), (h_nn, .inl (cy_nn, 8000, .inr (.inl f_nn))), (h_na, .inl (cy_na, 8000, .inl f_na)), (h_nb, .inl (cy_nb, 8000, .inl f_nb)), (h_nc, .inl (cy_nc, 8000, .inl f_nc)), (h_isn, .inl (cy_isn, 192, .inl f_isn)), (h_tem, .inl (cy_tem, 192, .inl f_tem)), (h_out, .inl (cy_out, 1000, .inl f_out))] sz [.ref h_mm, .int p1, .int (-1), .int p3, .int 900]) (va_Qi (fun (r : Int32) (u : (Int32) × (Int32) × (Int32) × (Nat → Int32) × (Nat → Int32)) => (0 ≤ (u.1).toInt ∧ (u.1).toInt ≤ 1000) ∧ (0 ≤ (u.2.1).toInt ∧ (u.2.1).toInt ≤ 1000) ∧ (0 ≤ (u.2.2.1).toInt ∧ (u.2.2.1).toInt ≤ 998)) (fun (u : (Int32) × (Int32) × (Int32) × (Nat → Int32) × (Nat → Int32)) (t : State) => va_P (dC, dI) cls [(h_mm, .inr (8, (mo74 v_mm (.ref h_nv) (.ref h_nn) (.ref h_na) (.ref h_nb) (.ref h_nc) (.ref h_let) (.ref h_isn) (.ref h_tem) (.ref h_out) (.int u.1) (.ref h_wri) (.int u.2.1) (.int u.2.2.1)))), (h_wri, .inl (cy_wri, 1000, .inl u.2.2.2.1)), (h_let, .inl (cy_let, 256, .inl f_let)), (h_nv, .inl (cy_nv, 8000, .inl f_nv)), (h_nn, .inl (cy_nn, 8000, .inr (.inl f_nn))), (h_na, .inl (cy_na, 8000, .inl f_na)), (h_nb, .inl (cy_nb, 8000, .inl f_nb)), (h_nc, .inl (cy_nc, 8000, .inl f_nc)), (h_isn, .inl (cy_isn, 192, .inl f_isn)), (h_tem, .inl (cy_tem, 192, .inl f_tem)), (h_out, .inl (cy_out, 1000, .inl u.2.2.2.2))] t.heap ∧ va_D (va_A [(h_mm, .inr (8, (mo74 v_mm (.ref h_nv) (.ref h_nn) (.ref h_na) (.ref h_nb) (.ref h_nc) (.ref h_let) (.ref h_isn) (.ref h_tem) (.ref h_out) (.int x_mm_outs) (.ref h_wri) (.int x_mm_writes) (.int x_mm_room)))), (h_wri, .inl (cy_wri, 1000, .inl f_wri)), (h_let, .inl (cy_let, 256, .inl f_let)), (h_nv, .inl (cy_nv, 8000, .inl f_nv)), (h_nn, .inl (cy_nn, 8000, .inr (.inl f_nn))), (h_na, .inl (cy_na, 8000, .inl f_na)), (h_nb, .inl (cy_nb, 8000, .inl f_nb)), (h_nc, .inl (cy_nc, 8000, .inl f_nc)), (h_isn, .inl (cy_isn, 192, .inl f_isn)), (h_tem, .inl (cy_tem, 192, .inl f_tem)), (h_out, .inl (cy_out, 1000, .inl f_out))] sz) [(h_mm, .inr (8, (mo74 v_mm (.ref h_nv) (.ref h_nn) (.ref h_na) (.ref h_nb) (.ref h_nc) (.ref h_let) (.ref h_isn) (.ref h_tem) (.ref h_out) (.int u.1) (.ref h_wri) (.int u.2.1) (.int u.2.2.1)))), (h_wri, .inl (cy_wri, 1000, .inl u.2.2.2.1)), (h_let, .inl (cy_let, 256, .inl f_let)), (h_nv, .inl (cy_nv, 8000, .inl f_nv)), (h_nn, .inl (cy_nn, 8000, .inr (.inl f_nn))), (h_na, .inl (cy_na, 8000, .inl f_na)), (h_nb, .inl (cy_nb, 8000, .inl f_nb)), (h_nc, .inl (cy_nc, 8000, .inl f_nc)), (h_isn, .inl (cy_isn, 192, .inl f_isn)), (h_tem, .inl (cy_tem, 192, .inl f_tem)), (h_out, .inl (cy_out, 1000, .inl u.2.2.2.2))]) (va_A [(h_mm, .inr (8, (mo74 v_mm (.ref h_nv) (.ref h_nn) (.ref h_na) (.ref h_nb) (.ref h_nc) (.ref h_let) (.ref h_isn) (.ref h_tem) (.ref h_out) (.int x_mm_outs) (.ref h_wri) (.int x_mm_writes) (.int x_mm_room)))), (h_wri, .inl (cy_wri, 1000, .inl f_wri)), (h_let, .inl (cy_let, 256, .inl f_let)), (h_nv, .inl (cy_nv, 8000, .inl f_nv)), (h_nn, .inl (cy_nn, 8000, .inr (.inl f_nn))), (h_na, .inl (cy_na, 8000, .inl f_na)), (h_nb, .inl (cy_nb, 8000, .inl f_nb)), (h_nc, .inl (cy_nc, 8000, .inl f_nc)), (h_isn, .inl (cy_isn, 192, .inl f_isn)), (h_tem, .inl (cy_tem, 192, .inl f_tem)), (h_out, .inl (cy_out, 1000, .inl f_out))] sz)) 0 0 (va_A [(h_mm, .inr (8, (mo74 v_mm (.ref h_nv) (.ref h_nn) (.ref h_na) (.ref h_nb) (.ref h_nc) (.ref h_let) (.ref h_isn) (.ref h_tem) (.ref h_out) (.int x_mm_outs) (.ref h_wri) (.int x_mm_writes) (.int x_mm_room)))), (h_wri, .inl (cy_wri, 1000, .inl f_wri)), (h_let, .inl (cy_let, 256, .inl f_let)), (h_nv, .inl (cy_nv, 8000, .inl f_nv)), (h_nn, .inl (cy_nn, 8000, .inr (.inl f_nn))), (h_na, .inl (cy_na, 8000, .inl f_na)), (h_nb, .inl (cy_nb, 8000, .inl f_nb)), (h_nc, .inl (cy_nc, 8000, .inl f_nc)), (h_isn, .inl (cy_isn, 192, .inl f_isn)), (h_tem, .inl (cy_tem, 192, .inl f_tem)), (h_out, .inl (cy_out, 1000, .inl f_out))] sz) := by
  refine Met.ofW (cc := cX11_shows) (maxL := 6) (ret := (some .int)) (by decide) rfl ?_
  intro p e s m args below meth c s₁ B hml hv
  obtain ⟨rfl, hsz, hP, hK, hD0, hN⟩ := hv
  have hx := B.exec
  have hb := B.bytes
  have hr := B.returns
  have hts := atoms_spec (ws := Ws yX11_shows cX11_shows 6 (some .int)) B.pre
  have hT : ∀ w ∈ WALL, w ∈ Ws yX11_shows cX11_shows 6 (some .int) := fun w h => List.mem_cons_of_mem _ h
  have hw := fun w (h : w ∈ WALL) => hts w (hT w h)
  have hown : s.vm.findClass RX11 = some m.cls := findClass_of_methodNamed B.named
  have hlocks := B.notSynchronized
  subst hsz
  have hD := hD0.self (sz := s.heap.size)
  generalize hAe : va_A [(h_mm, .inr (8, (mo74 v_mm (.ref h_nv) (.ref h_nn) (.ref h_na) (.ref h_nb) (.ref h_nc) (.ref h_let) (.ref h_isn) (.ref h_tem) (.ref h_out) (.int x_mm_outs) (.ref h_wri) (.int x_mm_writes) (.int x_mm_room)))), (h_wri, .inl (cy_wri, 1000, .inl f_wri)), (h_let, .inl (cy_let, 256, .inl f_let)), (h_nv, .inl (cy_nv, 8000, .inl f_nv)), (h_nn, .inl (cy_nn, 8000, .inr (.inl f_nn))), (h_na, .inl (cy_na, 8000, .inl f_na)), (h_nb, .inl (cy_nb, 8000, .inl f_nb)), (h_nc, .inl (cy_nc, 8000, .inl f_nc)), (h_isn, .inl (cy_isn, 192, .inl f_isn)), (h_tem, .inl (cy_tem, 192, .inl f_tem)), (h_out, .inl (cy_out, 1000, .inl f_out))] s.heap.size = A at hD ⊢
  have hA : ∀ q : Nat, s.heap.size ≤ q → A q := fun q h => by rw [← hAe]; exact Or.inr h
  have hS : va_S A s.heap s.heap [] := va_S.rf
  have hl := lv_entry ([.ref h_mm, .int p1, .int (-1), .int p3, .int 900]) (n := 6) (Nat.le_of_ble_eq_true rfl)
  rw [lg_entry_eq]
  generalize (lg_sl ([.ref h_mm, .int p1, .int (-1), .int p3, .int 900]) ++ List.replicate (6 - (lg_sl ([.ref h_mm, .int p1, .int (-1), .int p3, .int 900])).length) Slot.unset).toArray = ls at hl ⊢
  have hl : lv_has ls 6 [(0, .ref h_mm), (1, .int p1), (2, .int (-1)), (3, .int p3), (4, .int 900)] := hl
  refine lv_aload_n hx hb dX11_shows_0 rfl (lv_at hl 0 rfl) ?_
  refine lv_iconst (v := 0) hx hb dX11_shows_1 (by decide) ?_
  refine va_put (D := (dC, dI)) (ci := 8) (v := .int 0) (ty := tyX11 65) (C := RX11) (T := TX11) (N := 71) hx hb hw iwX11 tyX11 tyX11_ok nmX11 hown hK hP hD hS 0 rfl rfl 65 (by decide) (hw _ w_f_X11_443) (fun _ h9 => h9) rfl (tyX11_ok 65 (by decide)) rfl rfl (Nat.le_of_ble_eq_true rfl) dX11_shows_2 (fun H locs hP hD hS => ?_)
  have hP : va_P (dC, dI) cls [(h_mm, .inr (8, (mo74 v_mm (.ref h_nv) (.ref h_nn) (.ref h_na) (.ref h_nb) (.ref h_nc) (.ref h_let) (.ref h_isn) (.ref h_tem) (.ref h_out) (.int x_mm_outs) (.ref h_wri) (.int 0) (.int x_mm_room)))), (h_wri, .inl (cy_wri, 1000, .inl f_wri)), (h_let, .inl (cy_let, 256, .inl f_let)), (h_nv, .inl (cy_nv, 8000, .inl f_nv)), (h_nn, .inl (cy_nn, 8000, .inr (.inl f_nn))), (h_na, .inl (cy_na, 8000, .inl f_na)), (h_nb, .inl (cy_nb, 8000, .inl f_nb)), (h_nc, .inl (cy_nc, 8000, .inl f_nc)), (h_isn, .inl (cy_isn, 192, .inl f_isn)), (h_tem, .inl (cy_tem, 192, .inl f_tem)), (h_out, .inl (cy_out, 1000, .inl f_out))] H := hP
  have hD : va_D A [(h_mm, .inr (8, (mo74 v_mm (.ref h_nv) (.ref h_nn) (.ref h_na) (.ref h_nb) (.ref h_nc) (.ref h_let) (.ref h_isn) (.ref h_tem) (.ref h_out) (.int x_mm_outs) (.ref h_wri) (.int 0) (.int x_mm_room)))), (h_wri, .inl (cy_wri, 1000, .inl f_wri)), (h_let, .inl (cy_let, 256, .inl f_let)), (h_nv, .inl (cy_nv, 8000, .inl f_nv)), (h_nn, .inl (cy_nn, 8000, .inr (.inl f_nn))), (h_na, .inl (cy_na, 8000, .inl f_na)), (h_nb, .inl (cy_nb, 8000, .inl f_nb)), (h_nc, .inl (cy_nc, 8000, .inl f_nc)), (h_isn, .inl (cy_isn, 192, .inl f_isn)), (h_tem, .inl (cy_tem, 192, .inl f_tem)), (h_out, .inl (cy_out, 1000, .inl f_out))] := hD
  refine lv_aload_n hx hb dX11_shows_5 rfl (lv_at hl 0 rfl) ?_
  refine lv_iload hx hb dX11_shows_6 (lv_at hl 4 rfl) ?_
  refine va_put (D := (dC, dI)) (ci := 8) (v := .int 900) (ty := tyX11 66) (C := RX11) (T := TX11) (N := 71) hx hb hw iwX11 tyX11 tyX11_ok nmX11 hown hK hP hD hS 0 rfl rfl 66 (by decide) (hw _ w_f_X11_446) (fun _ h9 => h9) rfl (tyX11_ok 66 (by decide)) rfl rfl (Nat.le_of_ble_eq_true rfl) dX11_shows_8 (fun H locs hP hD hS => ?_)
  have hP : va_P (dC, dI) cls [(h_mm, .inr (8, (mo74 v_mm (.ref h_nv) (.ref h_nn) (.ref h_na) (.ref h_nb) (.ref h_nc) (.ref h_let) (.ref h_isn) (.ref h_tem) (.ref h_out) (.int x_mm_outs) (.ref h_wri) (.int 0) (.int 900)))), (h_wri, .inl (cy_wri, 1000, .inl f_wri)), (h_let, .inl (cy_let, 256, .inl f_let)), (h_nv, .inl (cy_nv, 8000, .inl f_nv)), (h_nn, .inl (cy_nn, 8000, .inr (.inl f_nn))), (h_na, .inl (cy_na, 8000, .inl f_na)), (h_nb, .inl (cy_nb, 8000, .inl f_nb)), (h_nc, .inl (cy_nc, 8000, .inl f_nc)), (h_isn, .inl (cy_isn, 192, .inl f_isn)), (h_tem, .inl (cy_tem, 192, .inl f_tem)), (h_out, .inl (cy_out, 1000, .inl f_out))] H := hP
  have hD : va_D A [(h_mm, .inr (8, (mo74 v_mm (.ref h_nv) (.ref h_nn) (.ref h_na) (.ref h_nb) (.ref h_nc) (.ref h_let) (.ref h_isn) (.ref h_tem) (.ref h_out) (.int x_mm_outs) (.ref h_wri) (.int 0) (.int 900)))), (h_wri, .inl (cy_wri, 1000, .inl f_wri)), (h_let, .inl (cy_let, 256, .inl f_let)), (h_nv, .inl (cy_nv, 8000, .inl f_nv)), (h_nn, .inl (cy_nn, 8000, .inr (.inl f_nn))), (h_na, .inl (cy_na, 8000, .inl f_na)), (h_nb, .inl (cy_nb, 8000, .inl f_nb)), (h_nc, .inl (cy_nc, 8000, .inl f_nc)), (h_isn, .inl (cy_isn, 192, .inl f_isn)), (h_tem, .inl (cy_tem, 192, .inl f_tem)), (h_out, .inl (cy_out, 1000, .inl f_out))] := hD
  refine lv_aload_n hx hb dX11_shows_11 rfl (lv_at hl 0 rfl) ?_
  refine va_get (D := (dC, dI)) (ci := 8) (v := .ref h_isn) (C := RX11) (T := TX11) (N := 71) hx hb hw iwX11 hown hK hP 0 rfl rfl 11 (by decide) (hw _ w_f_X11_145) (fun _ h9 => h9) rfl dX11_shows_12 ?_
  refine lv_iload_n hx hb dX11_shows_15 rfl (lv_at hl 1 rfl) ?_
  refine va_zald hx hb hK hP 8 7 rfl rfl (i := p1) (vp_in_iff.mpr (by omega)) dX11_shows_16 ?_
  refine lv_topi (fun z1 ez1 => ?_)
  refine lv_if_eq (tgt := 26) hx hb dX11_shows_17 (by decide) (fun c2 => ?_) (fun c2 => ?_)
  · have kc2 := (cv_eq (rfl : (z1).toInt = (z1).toInt) (by decide : (0 : Int32).toInt = 0)).mp c2
    refine lv_aload_n hx hb dX11_shows_26 rfl (lv_at hl 0 rfl) ?_
    refine lv_aload_n hx hb dX11_shows_27 rfl (lv_at hl 0 rfl) ?_
    refine va_get (D := (dC, dI)) (ci := 8) (v := .ref h_tem) (C := RX11) (T := TX11) (N := 71) hx hb hw iwX11 hown hK hP 0 rfl rfl 12 (by decide) (hw _ w_f_X11_152) (fun _ h9 => h9) rfl dX11_shows_28 ?_
    refine lv_iload_n hx hb dX11_shows_31 rfl (lv_at hl 1 rfl) ?_
    refine va_iald hx hb hK hP 9 8 rfl rfl (i := p1) (vp_in_iff.mpr (by omega)) dX11_shows_32 ?_
    refine lv_topi (fun z3 ez3 => ?_)
    have rz3 : 0 ≤ (z3).toInt ∧ (z3).toInt ≤ 7999 := by rw [ez3]; exact hf_tem _
    have tq9 : f_tem (p1).toInt.toNat = z3 := by rw [← clamp_nat (i := p1) (by omega), ← ez3]
    have tr9 : 0 ≤ (z3).toInt ∧ (z3).toInt < N ∧ hz (z3).toInt.toNat = 7 := by rw [← tq9]; omega
    refine lv_iload_n hx hb dX11_shows_33 rfl (lv_at hl 2 rfl) ?_
    refine lv_iload_n hx hb dX11_shows_34 rfl (lv_at hl 3 rfl) ?_
    have cstm1 : ((-1) : Int32).toInt = -1 := by decide
    have hPc := hP.sub (ws' := [(h_mm, .inr (8, (mo74 v_mm (.ref h_nv) (.ref h_nn) (.ref h_na) (.ref h_nb) (.ref h_nc) (.ref h_let) (.ref h_isn) (.ref h_tem) (.ref h_out) (.int x_mm_outs) (.ref h_wri) (.int 0) (.int 900)))), (h_wri, .inl (cy_wri, 1000, .inl f_wri)), (h_let, .inl (cy_let, 256, .inl f_let)), (h_nv, .inl (cy_nv, 8000, .inl f_nv)), (h_nn, .inl (cy_nn, 8000, .inr (.inl f_nn))), (h_na, .inl (cy_na, 8000, .inl f_na)), (h_nb, .inl (cy_nb, 8000, .inl f_nb)), (h_nc, .inl (cy_nc, 8000, .inl f_nc))]) [0, 1, 2, 3, 4, 5, 6, 7] rfl
    have hDc := hD.sub (ws' := [(h_mm, .inr (8, (mo74 v_mm (.ref h_nv) (.ref h_nn) (.ref h_na) (.ref h_nb) (.ref h_nc) (.ref h_let) (.ref h_isn) (.ref h_tem) (.ref h_out) (.int x_mm_outs) (.ref h_wri) (.int 0) (.int 900)))), (h_wri, .inl (cy_wri, 1000, .inl f_wri)), (h_let, .inl (cy_let, 256, .inl f_let)), (h_nv, .inl (cy_nv, 8000, .inl f_nv)), (h_nn, .inl (cy_nn, 8000, .inr (.inl f_nn))), (h_na, .inl (cy_na, 8000, .inl f_na)), (h_nb, .inl (cy_nb, 8000, .inl f_nb)), (h_nc, .inl (cy_nc, 8000, .inl f_nc))]) [0, 1, 2, 3, 4, 5, 6, 7] (by decide) rfl
    have hKc := hK.sub (tys' := [(cy_wri, .int), (cy_let, .int), (cy_nv, .int), (cy_nn, .long), (cy_na, .int), (cy_nb, .int), (cy_nc, .int)]) [0, 1, 2, 3, 4, 5, 6] rfl
    have hFc := va_free (wc := [(h_mm, .inr (8, (mo74 v_mm (.ref h_nv) (.ref h_nn) (.ref h_na) (.ref h_nb) (.ref h_nc) (.ref h_let) (.ref h_isn) (.ref h_tem) (.ref h_out) (.int x_mm_outs) (.ref h_wri) (.int 0) (.int 900)))), (h_wri, .inl (cy_wri, 1000, .inl f_wri)), (h_let, .inl (cy_let, 256, .inl f_let)), (h_nv, .inl (cy_nv, 8000, .inl f_nv)), (h_nn, .inl (cy_nn, 8000, .inr (.inl f_nn))), (h_na, .inl (cy_na, 8000, .inl f_na)), (h_nb, .inl (cy_nb, 8000, .inl f_nb)), (h_nc, .inl (cy_nc, 8000, .inl f_nc))]) hD hS hA [0, 1, 2, 3, 4, 5, 6, 7] rfl
    refine va_callv (va_runV (As := [.int z3, .int (-1), .int p3]) (rest := []) ⟨hx, hb, hml, hown, hts⟩ (c_X11_saysTerm_0 l 8 dC dI H.size h_mm h_wri h_let h_nv h_nn h_na h_nb h_nc (fun k => List.getD (mo74 v_mm (.ref h_nv) (.ref h_nn) (.ref h_na) (.ref h_nb) (.ref h_nc) (.ref h_let) (.ref h_isn) (.ref h_tem) (.ref h_out) (.int x_mm_outs) (.ref h_wri) (.int 0) (.int 900)) k .null) 0 900 cy_wri f_wri cy_let f_let cy_nv f_nv cy_nn f_nn cy_na f_na cy_nb f_nb cy_nc f_nc z3 p3 N hz (by decide) (by decide) hf_nv hf_na hf_nb hf_nc (by omega) (by omega) (by omega) (by omega) hn_nds) (cwV 3 hts (gv hT w_m_X11_459 w_instanceMethod_X11_saysTerm ws_sel_X11_saysTerm w_ini_X11 w_code_X11_saysTerm) rfl rfl rfl (by decide +kernel) ⟨(Nat.le_of_ble_eq_true rfl), (Nat.le_of_ble_eq_true rfl)⟩) ⟨pre_blind, va_recv hK hP (ci := 8) (q0 := 0) rfl rfl, pre_of hPc hKc hDc hN⟩ rfl rfl hl.1 rfl (lv_room (Nat.le_of_ble_eq_true rfl)) dX11_shows_35 ⟨(Nat.le_of_ble_eq_true rfl), (Nat.le_of_ble_eq_true rfl)⟩) hS (fun q _ h => hFc q h) hFc (fun u t H locs ht hvm hq hB hz1 hk1 hS => ?_)
    obtain ⟨z5, f6⟩ := u
    obtain ⟨hP1, hD1⟩ := hB
    rw [ht] at hP1
    obtain ⟨hP, hD⟩ := va_join (wr := [(h_isn, .inl (cy_isn, 192, .inl f_isn)), (h_tem, .inl (cy_tem, 192, .inl f_tem)), (h_out, .inl (cy_out, 1000, .inl f_out))]) (w1 := [(h_mm, .inr (8, (mo74 v_mm (.ref h_nv) (.ref h_nn) (.ref h_na) (.ref h_nb) (.ref h_nc) (.ref h_let) (.ref h_isn) (.ref h_tem) (.ref h_out) (.int x_mm_outs) (.ref h_wri) (.int z5) (.int 900)))), (h_wri, .inl (cy_wri, 1000, .inl f6)), (h_let, .inl (cy_let, 256, .inl f_let)), (h_nv, .inl (cy_nv, 8000, .inl f_nv)), (h_nn, .inl (cy_nn, 8000, .inr (.inl f_nn))), (h_na, .inl (cy_na, 8000, .inl f_na)), (h_nb, .inl (cy_nb, 8000, .inl f_nb)), (h_nc, .inl (cy_nc, 8000, .inl f_nc))]) hP hD [0, 1, 2, 3, 4, 5, 6, 7] [8, 9, 10] rfl rfl (by decide) (by decide) hk1 hFc hP1 hD1
    have hP : va_P (dC, dI) cls [(h_isn, .inl (cy_isn, 192, .inl f_isn)), (h_tem, .inl (cy_tem, 192, .inl f_tem)), (h_out, .inl (cy_out, 1000, .inl f_out)), (h_mm, .inr (8, (mo74 v_mm (.ref h_nv) (.ref h_nn) (.ref h_na) (.ref h_nb) (.ref h_nc) (.ref h_let) (.ref h_isn) (.ref h_tem) (.ref h_out) (.int x_mm_outs) (.ref h_wri) (.int z5) (.int 900)))), (h_wri, .inl (cy_wri, 1000, .inl f6)), (h_let, .inl (cy_let, 256, .inl f_let)), (h_nv, .inl (cy_nv, 8000, .inl f_nv)), (h_nn, .inl (cy_nn, 8000, .inr (.inl f_nn))), (h_na, .inl (cy_na, 8000, .inl f_na)), (h_nb, .inl (cy_nb, 8000, .inl f_nb)), (h_nc, .inl (cy_nc, 8000, .inl f_nc))] H := hP
    have hD : va_D A [(h_isn, .inl (cy_isn, 192, .inl f_isn)), (h_tem, .inl (cy_tem, 192, .inl f_tem)), (h_out, .inl (cy_out, 1000, .inl f_out)), (h_mm, .inr (8, (mo74 v_mm (.ref h_nv) (.ref h_nn) (.ref h_na) (.ref h_nb) (.ref h_nc) (.ref h_let) (.ref h_isn) (.ref h_tem) (.ref h_out) (.int x_mm_outs) (.ref h_wri) (.int z5) (.int 900)))), (h_wri, .inl (cy_wri, 1000, .inl f6)), (h_let, .inl (cy_let, 256, .inl f_let)), (h_nv, .inl (cy_nv, 8000, .inl f_nv)), (h_nn, .inl (cy_nn, 8000, .inr (.inl f_nn))), (h_na, .inl (cy_na, 8000, .inl f_na)), (h_nb, .inl (cy_nb, 8000, .inl f_nb)), (h_nc, .inl (cy_nc, 8000, .inl f_nc))] := hD
    have k7 : 0 ≤ ((z5)).toInt ∧ ((z5)).toInt ≤ 1000 := hq
    refine lv_aload_n hx hb dX11_shows_38 rfl (lv_at hl 0 rfl) ?_
    refine va_get (D := (dC, dI)) (ci := 8) (v := .int z5) (C := RX11) (T := TX11) (N := 71) hx hb hw iwX11 hown hK hP 3 rfl rfl 65 (by decide) (hw _ w_f_X11_443) (fun _ h9 => h9) rfl dX11_shows_39 ?_
    refine lv_iload hx hb dX11_shows_42 (lv_at hl 4 rfl) ?_
    refine lv_icmp_le (tgt := 49) hx hb dX11_shows_44 (by decide) (fun c8 => ?_) (fun c8 => ?_)
    · have kc8 := (cv_le (rfl : (z5).toInt = (z5).toInt) (by decide : (900 : Int32).toInt = 900)).mp c8
      refine lv_iconst (v := 0) hx hb dX11_shows_49 (by decide) ?_
      refine lv_istore (lv' := [(5, .int 0), (0, .ref h_mm), (1, .int p1), (2, .int (-1)), (3, .int p3), (4, .int 900)]) hx hb dX11_shows_50 hl (by decide) rfl (fun ls hl => ?_)
      have lp11 : ∀ (n : Nat) (x9 : Int32) (f10 : Nat → Int32) (H : Heap) (locs : List Loc) (ls : Array Slot), (0 ≤ (x9).toInt ∧ (x9).toInt ≤ 1000) → ((z5).toInt ≤ 900) → (1000 - (x9).toInt).toNat + 1 ≤ n → va_P (dC, dI) cls [(h_isn, .inl (cy_isn, 192, .inl f_isn)), (h_tem, .inl (cy_tem, 192, .inl f_tem)), (h_out, .inl (cy_out, 1000, .inl f10)), (h_mm, .inr (8, (mo74 v_mm (.ref h_nv) (.ref h_nn) (.ref h_na) (.ref h_nb) (.ref h_nc) (.ref h_let) (.ref h_isn) (.ref h_tem) (.ref h_out) (.int x_mm_outs) (.ref h_wri) (.int z5) (.int 900)))), (h_wri, .inl (cy_wri, 1000, .inl f6)), (h_let, .inl (cy_let, 256, .inl f_let)), (h_nv, .inl (cy_nv, 8000, .inl f_nv)), (h_nn, .inl (cy_nn, 8000, .inr (.inl f_nn))), (h_na, .inl (cy_na, 8000, .inl f_na)), (h_nb, .inl (cy_nb, 8000, .inl f_nb)), (h_nc, .inl (cy_nc, 8000, .inl f_nc))] H → va_D A [(h_isn, .inl (cy_isn, 192, .inl f_isn)), (h_tem, .inl (cy_tem, 192, .inl f_tem)), (h_out, .inl (cy_out, 1000, .inl f10)), (h_mm, .inr (8, (mo74 v_mm (.ref h_nv) (.ref h_nn) (.ref h_na) (.ref h_nb) (.ref h_nc) (.ref h_let) (.ref h_isn) (.ref h_tem) (.ref h_out) (.int x_mm_outs) (.ref h_wri) (.int z5) (.int 900)))), (h_wri, .inl (cy_wri, 1000, .inl f6)), (h_let, .inl (cy_let, 256, .inl f_let)), (h_nv, .inl (cy_nv, 8000, .inl f_nv)), (h_nn, .inl (cy_nn, 8000, .inr (.inl f_nn))), (h_na, .inl (cy_na, 8000, .inl f_na)), (h_nb, .inl (cy_nb, 8000, .inl f_nb)), (h_nc, .inl (cy_nc, 8000, .inl f_nc))] → va_S A s.heap H locs → lv_has ls 6 [(0, .ref h_mm), (1, .int p1), (2, .int (-1)), (3, .int p3), (4, .int 900), (5, .int x9)] → W p l e ({ frames := 24, cells := 0, slots := 0, locals := 563 } : Room) s m ([.ref h_mm, .int p1, .int (-1), .int p3, .int 900] : List Value).toArray below meth c H locs 0 0 (MQ below (va_Qi (fun (r : Int32) (u : (Int32) × (Int32) × (Int32) × (Nat → Int32) × (Nat → Int32)) => (0 ≤ (u.1).toInt ∧ (u.1).toInt ≤ 1000) ∧ (0 ≤ (u.2.1).toInt ∧ (u.2.1).toInt ≤ 1000) ∧ (0 ≤ (u.2.2.1).toInt ∧ (u.2.2.1).toInt ≤ 998)) (fun (u : (Int32) × (Int32) × (Int32) × (Nat → Int32) × (Nat → Int32)) (t : State) => va_P (dC, dI) cls [(h_mm, .inr (8, (mo74 v_mm (.ref h_nv) (.ref h_nn) (.ref h_na) (.ref h_nb) (.ref h_nc) (.ref h_let) (.ref h_isn) (.ref h_tem) (.ref h_out) (.int u.1) (.ref h_wri) (.int u.2.1) (.int u.2.2.1)))), (h_wri, .inl (cy_wri, 1000, .inl u.2.2.2.1)), (h_let, .inl (cy_let, 256, .inl f_let)), (h_nv, .inl (cy_nv, 8000, .inl f_nv)), (h_nn, .inl (cy_nn, 8000, .inr (.inl f_nn))), (h_na, .inl (cy_na, 8000, .inl f_na)), (h_nb, .inl (cy_nb, 8000, .inl f_nb)), (h_nc, .inl (cy_nc, 8000, .inl f_nc)), (h_isn, .inl (cy_isn, 192, .inl f_isn)), (h_tem, .inl (cy_tem, 192, .inl f_tem)), (h_out, .inl (cy_out, 1000, .inl u.2.2.2.2))] t.heap ∧ va_D A [(h_mm, .inr (8, (mo74 v_mm (.ref h_nv) (.ref h_nn) (.ref h_na) (.ref h_nb) (.ref h_nc) (.ref h_let) (.ref h_isn) (.ref h_tem) (.ref h_out) (.int u.1) (.ref h_wri) (.int u.2.1) (.int u.2.2.1)))), (h_wri, .inl (cy_wri, 1000, .inl u.2.2.2.1)), (h_let, .inl (cy_let, 256, .inl f_let)), (h_nv, .inl (cy_nv, 8000, .inl f_nv)), (h_nn, .inl (cy_nn, 8000, .inr (.inl f_nn))), (h_na, .inl (cy_na, 8000, .inl f_na)), (h_nb, .inl (cy_nb, 8000, .inl f_nb)), (h_nc, .inl (cy_nc, 8000, .inl f_nc)), (h_isn, .inl (cy_isn, 192, .inl f_isn)), (h_tem, .inl (cy_tem, 192, .inl f_tem)), (h_out, .inl (cy_out, 1000, .inl u.2.2.2.2))]) A) ([.ref h_mm, .int p1, .int (-1), .int p3, .int 900] : List Value).toArray s 0 0 A) (F0 m 52 ls []) := by
        intro n
        induction n with
        | zero => intro x9 f10 H locs ls klp11_0 klp11_1 hm hP hD hS hl; exact False.elim (by omega)
        | succ n ih => 
          intro x9 f10 H locs ls klp11_0 klp11_1 hm hP hD hS hl
          have ih12 := ih
          clear ih
          refine lv_iload hx hb dX11_shows_52 (lv_at hl 5 rfl) ?_
          refine lv_aload_n hx hb dX11_shows_54 rfl (lv_at hl 0 rfl) ?_
          refine va_get (D := (dC, dI)) (ci := 8) (v := .int z5) (C := RX11) (T := TX11) (N := 71) hx hb hw iwX11 hown hK hP 3 rfl rfl 65 (by decide) (hw _ w_f_X11_443) (fun _ h9 => h9) rfl dX11_shows_55 ?_
          refine lv_icmp_ge (tgt := 81) hx hb dX11_shows_58 (by decide) (fun c13 => ?_) (fun c13 => ?_)
          · have kc13 := (cv_le (rfl : (z5).toInt = (z5).toInt) (rfl : (x9).toInt = (x9).toInt)).mp c13
            refine lv_aload_n hx hb dX11_shows_81 rfl (lv_at hl 0 rfl) ?_
            refine lv_aload_n hx hb dX11_shows_82 rfl (lv_at hl 0 rfl) ?_
            refine va_get (D := (dC, dI)) (ci := 8) (v := .int z5) (C := RX11) (T := TX11) (N := 71) hx hb hw iwX11 hown hK hP 3 rfl rfl 65 (by decide) (hw _ w_f_X11_443) (fun _ h9 => h9) rfl dX11_shows_83 ?_
            refine va_put (D := (dC, dI)) (ci := 8) (v := .int z5) (ty := tyX11 63) (C := RX11) (T := TX11) (N := 71) hx hb hw iwX11 tyX11 tyX11_ok nmX11 hown hK hP hD hS 3 rfl rfl 63 (by decide) (hw _ w_f_X11_462) (fun _ h9 => h9) rfl (tyX11_ok 63 (by decide)) rfl rfl (Nat.le_of_ble_eq_true rfl) dX11_shows_86 (fun H locs hP hD hS => ?_)
            have hP : va_P (dC, dI) cls [(h_isn, .inl (cy_isn, 192, .inl f_isn)), (h_tem, .inl (cy_tem, 192, .inl f_tem)), (h_out, .inl (cy_out, 1000, .inl f10)), (h_mm, .inr (8, (mo74 v_mm (.ref h_nv) (.ref h_nn) (.ref h_na) (.ref h_nb) (.ref h_nc) (.ref h_let) (.ref h_isn) (.ref h_tem) (.ref h_out) (.int z5) (.ref h_wri) (.int z5) (.int 900)))), (h_wri, .inl (cy_wri, 1000, .inl f6)), (h_let, .inl (cy_let, 256, .inl f_let)), (h_nv, .inl (cy_nv, 8000, .inl f_nv)), (h_nn, .inl (cy_nn, 8000, .inr (.inl f_nn))), (h_na, .inl (cy_na, 8000, .inl f_na)), (h_nb, .inl (cy_nb, 8000, .inl f_nb)), (h_nc, .inl (cy_nc, 8000, .inl f_nc))] H := hP
            have hD : va_D A [(h_isn, .inl (cy_isn, 192, .inl f_isn)), (h_tem, .inl (cy_tem, 192, .inl f_tem)), (h_out, .inl (cy_out, 1000, .inl f10)), (h_mm, .inr (8, (mo74 v_mm (.ref h_nv) (.ref h_nn) (.ref h_na) (.ref h_nb) (.ref h_nc) (.ref h_let) (.ref h_isn) (.ref h_tem) (.ref h_out) (.int z5) (.ref h_wri) (.int z5) (.int 900)))), (h_wri, .inl (cy_wri, 1000, .inl f6)), (h_let, .inl (cy_let, 256, .inl f_let)), (h_nv, .inl (cy_nv, 8000, .inl f_nv)), (h_nn, .inl (cy_nn, 8000, .inr (.inl f_nn))), (h_na, .inl (cy_na, 8000, .inl f_na)), (h_nb, .inl (cy_nb, 8000, .inl f_nb)), (h_nc, .inl (cy_nc, 8000, .inl f_nc))] := hD
            refine lv_aload_n hx hb dX11_shows_89 rfl (lv_at hl 0 rfl) ?_
            refine va_get (D := (dC, dI)) (ci := 8) (v := .int z5) (C := RX11) (T := TX11) (N := 71) hx hb hw iwX11 hown hK hP 3 rfl rfl 63 (by decide) (hw _ w_f_X11_462) (fun _ h9 => h9) rfl dX11_shows_90 ?_
            have hP : va_P (dC, dI) cls [(h_mm, .inr (8, (mo74 v_mm (.ref h_nv) (.ref h_nn) (.ref h_na) (.ref h_nb) (.ref h_nc) (.ref h_let) (.ref h_isn) (.ref h_tem) (.ref h_out) (.int z5) (.ref h_wri) (.int z5) (.int 900)))), (h_wri, .inl (cy_wri, 1000, .inl f6)), (h_let, .inl (cy_let, 256, .inl f_let)), (h_nv, .inl (cy_nv, 8000, .inl f_nv)), (h_nn, .inl (cy_nn, 8000, .inr (.inl f_nn))), (h_na, .inl (cy_na, 8000, .inl f_na)), (h_nb, .inl (cy_nb, 8000, .inl f_nb)), (h_nc, .inl (cy_nc, 8000, .inl f_nc)), (h_isn, .inl (cy_isn, 192, .inl f_isn)), (h_tem, .inl (cy_tem, 192, .inl f_tem)), (h_out, .inl (cy_out, 1000, .inl f10))] H := hP.sub [3, 4, 5, 6, 7, 8, 9, 10, 0, 1, 2] rfl
            have hD : va_D A [(h_mm, .inr (8, (mo74 v_mm (.ref h_nv) (.ref h_nn) (.ref h_na) (.ref h_nb) (.ref h_nc) (.ref h_let) (.ref h_isn) (.ref h_tem) (.ref h_out) (.int z5) (.ref h_wri) (.int z5) (.int 900)))), (h_wri, .inl (cy_wri, 1000, .inl f6)), (h_let, .inl (cy_let, 256, .inl f_let)), (h_nv, .inl (cy_nv, 8000, .inl f_nv)), (h_nn, .inl (cy_nn, 8000, .inr (.inl f_nn))), (h_na, .inl (cy_na, 8000, .inl f_na)), (h_nb, .inl (cy_nb, 8000, .inl f_nb)), (h_nc, .inl (cy_nc, 8000, .inl f_nc)), (h_isn, .inl (cy_isn, 192, .inl f_isn)), (h_tem, .inl (cy_tem, 192, .inl f_tem)), (h_out, .inl (cy_out, 1000, .inl f10))] := hD.sub [3, 4, 5, 6, 7, 8, 9, 10, 0, 1, 2] (by decide) rfl
            refine W.widen (k := 0) (n := 0) (Nat.le_of_ble_eq_true rfl) (Nat.le_of_ble_eq_true rfl) ?_
            have cst900 : (900 : Int32).toInt = 900 := by decide
            have w14 : 0 ≤ ((z5)).toInt ∧ ((z5)).toInt ≤ 1000 := by omega
            have w15 : 0 ≤ ((z5)).toInt ∧ ((z5)).toInt ≤ 1000 := by omega
            have w16 : 0 ≤ ((900 : Int32)).toInt ∧ ((900 : Int32)).toInt ≤ 998 := by omega
            exact W.iret (v := z5) hx hb hr (fun t ht hW => ⟨⟨z5, (z5, z5, 900, f6, f10), rfl, ⟨w14, w15, w16⟩, by rw [ht]; exact hP, hD⟩, hS.F ht⟩) hS.2.2 dX11_shows_93
          · have kc13 := (not_congr (cv_le (rfl : (z5).toInt = (z5).toInt) (rfl : (x9).toInt = (x9).toInt))).mp c13
            refine lv_aload_n hx hb dX11_shows_61 rfl (lv_at hl 0 rfl) ?_
            refine va_get (D := (dC, dI)) (ci := 8) (v := .ref h_out) (C := RX11) (T := TX11) (N := 71) hx hb hw iwX11 hown hK hP 3 rfl rfl 62 (by decide) (hw _ w_f_X11_243) (fun _ h9 => h9) rfl dX11_shows_62 ?_
            refine lv_iload hx hb dX11_shows_65 (lv_at hl 5 rfl) ?_
            refine lv_aload_n hx hb dX11_shows_67 rfl (lv_at hl 0 rfl) ?_
            refine va_get (D := (dC, dI)) (ci := 8) (v := .ref h_wri) (C := RX11) (T := TX11) (N := 71) hx hb hw iwX11 hown hK hP 3 rfl rfl 64 (by decide) (hw _ w_f_X11_246) (fun _ h9 => h9) rfl dX11_shows_68 ?_
            refine lv_iload hx hb dX11_shows_71 (lv_at hl 5 rfl) ?_
            refine va_iald hx hb hK hP 4 0 rfl rfl (i := x9) (vp_in_iff.mpr (by omega)) dX11_shows_73 ?_
            refine lv_topi (fun z17 ez17 => ?_)
            refine va_iast hx hb hK hP hD hS 2 9 rfl rfl (i := x9) (x := z17) (vp_in_iff.mpr (by omega)) dX11_shows_74 (fun H locs hP hD hS => ?_)
            obtain ⟨f18, ef18⟩ : ∃ g : Nat → Int32, g = upd f10 (Int32.toNatClampNeg x9) z17 := ⟨_, rfl⟩
            have hP : va_P (dC, dI) cls [(h_isn, .inl (cy_isn, 192, .inl f_isn)), (h_tem, .inl (cy_tem, 192, .inl f_tem)), (h_out, .inl (cy_out, 1000, .inl f18)), (h_mm, .inr (8, (mo74 v_mm (.ref h_nv) (.ref h_nn) (.ref h_na) (.ref h_nb) (.ref h_nc) (.ref h_let) (.ref h_isn) (.ref h_tem) (.ref h_out) (.int x_mm_outs) (.ref h_wri) (.int z5) (.int 900)))), (h_wri, .inl (cy_wri, 1000, .inl f6)), (h_let, .inl (cy_let, 256, .inl f_let)), (h_nv, .inl (cy_nv, 8000, .inl f_nv)), (h_nn, .inl (cy_nn, 8000, .inr (.inl f_nn))), (h_na, .inl (cy_na, 8000, .inl f_na)), (h_nb, .inl (cy_nb, 8000, .inl f_nb)), (h_nc, .inl (cy_nc, 8000, .inl f_nc))] H := by rw [ef18]; exact hP
            have hD : va_D A [(h_isn, .inl (cy_isn, 192, .inl f_isn)), (h_tem, .inl (cy_tem, 192, .inl f_tem)), (h_out, .inl (cy_out, 1000, .inl f18)), (h_mm, .inr (8, (mo74 v_mm (.ref h_nv) (.ref h_nn) (.ref h_na) (.ref h_nb) (.ref h_nc) (.ref h_let) (.ref h_isn) (.ref h_tem) (.ref h_out) (.int x_mm_outs) (.ref h_wri) (.int z5) (.int 900)))), (h_wri, .inl (cy_wri, 1000, .inl f6)), (h_let, .inl (cy_let, 256, .inl f_let)), (h_nv, .inl (cy_nv, 8000, .inl f_nv)), (h_nn, .inl (cy_nn, 8000, .inr (.inl f_nn))), (h_na, .inl (cy_na, 8000, .inl f_na)), (h_nb, .inl (cy_nb, 8000, .inl f_nb)), (h_nc, .inl (cy_nc, 8000, .inl f_nc))] := by rw [ef18]; exact hD
            clear ef18
            obtain ⟨z19, ez19⟩ : ∃ y : Int32, y = x9 + 1 := ⟨_, rfl⟩
            have tz19 : (z19).toInt = (x9).toInt + 1 := by rw [ez19]; exact i_add rfl (by decide) (by omega)
            refine lv_iinc (v := z19) (lv' := [(5, .int z19), (0, .ref h_mm), (1, .int p1), (2, .int (-1)), (3, .int p3), (4, .int 900)]) hx hb dX11_shows_75 hl (k := 5) rfl (by rw [ez19]; rfl) (by decide) rfl (fun ls hl => ?_)
            refine lv_goto (tgt := 52) hx hb dX11_shows_78 (by decide) ?_
            exact ih12 (z19) (f18) _ _ _ (by omega) (by omega) (by omega) hP hD hS (lv_sub hl [1, 2, 3, 4, 5, 0] rfl)
      have cst0 : (0 : Int32).toInt = 0 := by decide
      exact lp11 _ (0) (f_out) _ _ _ (by decide) (by omega) (Nat.le_refl _) hP hD hS (lv_sub hl [1, 2, 3, 4, 5, 0] rfl)
    · have kc8 := (not_congr (cv_le (rfl : (z5).toInt = (z5).toInt) (by decide : (900 : Int32).toInt = 900))).mp c8
      refine lv_iconst (v := (-1)) hx hb dX11_shows_47 (by decide) ?_
      have hP : va_P (dC, dI) cls [(h_mm, .inr (8, (mo74 v_mm (.ref h_nv) (.ref h_nn) (.ref h_na) (.ref h_nb) (.ref h_nc) (.ref h_let) (.ref h_isn) (.ref h_tem) (.ref h_out) (.int x_mm_outs) (.ref h_wri) (.int z5) (.int 900)))), (h_wri, .inl (cy_wri, 1000, .inl f6)), (h_let, .inl (cy_let, 256, .inl f_let)), (h_nv, .inl (cy_nv, 8000, .inl f_nv)), (h_nn, .inl (cy_nn, 8000, .inr (.inl f_nn))), (h_na, .inl (cy_na, 8000, .inl f_na)), (h_nb, .inl (cy_nb, 8000, .inl f_nb)), (h_nc, .inl (cy_nc, 8000, .inl f_nc)), (h_isn, .inl (cy_isn, 192, .inl f_isn)), (h_tem, .inl (cy_tem, 192, .inl f_tem)), (h_out, .inl (cy_out, 1000, .inl f_out))] H := hP.sub [3, 4, 5, 6, 7, 8, 9, 10, 0, 1, 2] rfl
      have hD : va_D A [(h_mm, .inr (8, (mo74 v_mm (.ref h_nv) (.ref h_nn) (.ref h_na) (.ref h_nb) (.ref h_nc) (.ref h_let) (.ref h_isn) (.ref h_tem) (.ref h_out) (.int x_mm_outs) (.ref h_wri) (.int z5) (.int 900)))), (h_wri, .inl (cy_wri, 1000, .inl f6)), (h_let, .inl (cy_let, 256, .inl f_let)), (h_nv, .inl (cy_nv, 8000, .inl f_nv)), (h_nn, .inl (cy_nn, 8000, .inr (.inl f_nn))), (h_na, .inl (cy_na, 8000, .inl f_na)), (h_nb, .inl (cy_nb, 8000, .inl f_nb)), (h_nc, .inl (cy_nc, 8000, .inl f_nc)), (h_isn, .inl (cy_isn, 192, .inl f_isn)), (h_tem, .inl (cy_tem, 192, .inl f_tem)), (h_out, .inl (cy_out, 1000, .inl f_out))] := hD.sub [3, 4, 5, 6, 7, 8, 9, 10, 0, 1, 2] (by decide) rfl
      refine W.widen (k := 0) (n := 0) (Nat.le_of_ble_eq_true rfl) (Nat.le_of_ble_eq_true rfl) ?_
      have cstm1 : ((-1) : Int32).toInt = -1 := by decide
      have cst900 : (900 : Int32).toInt = 900 := by decide
      have w20 : 0 ≤ ((x_mm_outs)).toInt ∧ ((x_mm_outs)).toInt ≤ 1000 := by omega
      have w21 : 0 ≤ ((z5)).toInt ∧ ((z5)).toInt ≤ 1000 := by omega
      have w22 : 0 ≤ ((900 : Int32)).toInt ∧ ((900 : Int32)).toInt ≤ 998 := by omega
      exact W.iret (v := (-1)) hx hb hr (fun t ht hW => ⟨⟨(-1), (x_mm_outs, z5, 900, f6, f_out), rfl, ⟨w20, w21, w22⟩, by rw [ht]; exact hP, hD⟩, hS.F ht⟩) hS.2.2 dX11_shows_48
  · have kc2 := (not_congr (cv_eq (rfl : (z1).toInt = (z1).toInt) (by decide : (0 : Int32).toInt = 0))).mp c2
    refine lv_aload_n hx hb dX11_shows_20 rfl (lv_at hl 0 rfl) ?_
    refine lv_bipush (v := 45) hx hb dX11_shows_21 (by decide) ?_
    have cst45 : (45 : Int32).toInt = 45 := by decide
    have hPc := hP.sub (ws' := [(h_mm, .inr (8, (mo74 v_mm (.ref h_nv) (.ref h_nn) (.ref h_na) (.ref h_nb) (.ref h_nc) (.ref h_let) (.ref h_isn) (.ref h_tem) (.ref h_out) (.int x_mm_outs) (.ref h_wri) (.int 0) (.int 900)))), (h_wri, .inl (cy_wri, 1000, .inl f_wri))]) [0, 1] rfl
    have hDc := hD.sub (ws' := [(h_mm, .inr (8, (mo74 v_mm (.ref h_nv) (.ref h_nn) (.ref h_na) (.ref h_nb) (.ref h_nc) (.ref h_let) (.ref h_isn) (.ref h_tem) (.ref h_out) (.int x_mm_outs) (.ref h_wri) (.int 0) (.int 900)))), (h_wri, .inl (cy_wri, 1000, .inl f_wri))]) [0, 1] (by decide) rfl
    have hKc := hK.sub (tys' := [(cy_wri, .int)]) [0] rfl
    have hFc := va_free (wc := [(h_mm, .inr (8, (mo74 v_mm (.ref h_nv) (.ref h_nn) (.ref h_na) (.ref h_nb) (.ref h_nc) (.ref h_let) (.ref h_isn) (.ref h_tem) (.ref h_out) (.int x_mm_outs) (.ref h_wri) (.int 0) (.int 900)))), (h_wri, .inl (cy_wri, 1000, .inl f_wri))]) hD hS hA [0, 1] rfl
    refine va_callv (va_runV (As := [.int 45]) (rest := []) ⟨hx, hb, hml, hown, hts⟩ (c_X11_says l dC dI H.size h_mm h_wri (fun k => List.getD (mo74 v_mm (.ref h_nv) (.ref h_nn) (.ref h_na) (.ref h_nb) (.ref h_nc) (.ref h_let) (.ref h_isn) (.ref h_tem) (.ref h_out) (.int x_mm_outs) (.ref h_wri) (.int 0) (.int 900)) k .null) 0 900 cy_wri f_wri 45 (by decide) (by decide)) (cwV 1 hts (gv hT w_m_X11_452 w_instanceMethod_X11_says ws_sel_X11_says w_ini_X11 w_code_X11_says) rfl rfl rfl (by decide +kernel) ⟨(Nat.le_of_ble_eq_true rfl), (Nat.le_of_ble_eq_true rfl)⟩) ⟨pre_blind, va_recv hK hP (ci := 8) (q0 := 0) rfl rfl, pre_of hPc hKc hDc hN⟩ rfl rfl hl.1 rfl (lv_room (Nat.le_of_ble_eq_true rfl)) dX11_shows_23 ⟨(Nat.le_of_ble_eq_true rfl), (Nat.le_of_ble_eq_true rfl)⟩) hS (fun q _ h => hFc q h) hFc (fun u t H locs ht hvm hq hB hz1 hk1 hS => ?_)
    obtain ⟨z24, f25⟩ := u
    obtain ⟨hP1, hD1⟩ := hB
    rw [ht] at hP1
    obtain ⟨hP, hD⟩ := va_join (wr := [(h_let, .inl (cy_let, 256, .inl f_let)), (h_nv, .inl (cy_nv, 8000, .inl f_nv)), (h_nn, .inl (cy_nn, 8000, .inr (.inl f_nn))), (h_na, .inl (cy_na, 8000, .inl f_na)), (h_nb, .inl (cy_nb, 8000, .inl f_nb)), (h_nc, .inl (cy_nc, 8000, .inl f_nc)), (h_isn, .inl (cy_isn, 192, .inl f_isn)), (h_tem, .inl (cy_tem, 192, .inl f_tem)), (h_out, .inl (cy_out, 1000, .inl f_out))]) (w1 := [(h_mm, .inr (8, (mo74 v_mm (.ref h_nv) (.ref h_nn) (.ref h_na) (.ref h_nb) (.ref h_nc) (.ref h_let) (.ref h_isn) (.ref h_tem) (.ref h_out) (.int x_mm_outs) (.ref h_wri) (.int z24) (.int 900)))), (h_wri, .inl (cy_wri, 1000, .inl f25))]) hP hD [0, 1] [2, 3, 4, 5, 6, 7, 8, 9, 10] rfl rfl (by decide) (by decide) hk1 hFc hP1 hD1
    have hP : va_P (dC, dI) cls [(h_let, .inl (cy_let, 256, .inl f_let)), (h_nv, .inl (cy_nv, 8000, .inl f_nv)), (h_nn, .inl (cy_nn, 8000, .inr (.inl f_nn))), (h_na, .inl (cy_na, 8000, .inl f_na)), (h_nb, .inl (cy_nb, 8000, .inl f_nb)), (h_nc, .inl (cy_nc, 8000, .inl f_nc)), (h_isn, .inl (cy_isn, 192, .inl f_isn)), (h_tem, .inl (cy_tem, 192, .inl f_tem)), (h_out, .inl (cy_out, 1000, .inl f_out)), (h_mm, .inr (8, (mo74 v_mm (.ref h_nv) (.ref h_nn) (.ref h_na) (.ref h_nb) (.ref h_nc) (.ref h_let) (.ref h_isn) (.ref h_tem) (.ref h_out) (.int x_mm_outs) (.ref h_wri) (.int z24) (.int 900)))), (h_wri, .inl (cy_wri, 1000, .inl f25))] H := hP
    have hD : va_D A [(h_let, .inl (cy_let, 256, .inl f_let)), (h_nv, .inl (cy_nv, 8000, .inl f_nv)), (h_nn, .inl (cy_nn, 8000, .inr (.inl f_nn))), (h_na, .inl (cy_na, 8000, .inl f_na)), (h_nb, .inl (cy_nb, 8000, .inl f_nb)), (h_nc, .inl (cy_nc, 8000, .inl f_nc)), (h_isn, .inl (cy_isn, 192, .inl f_isn)), (h_tem, .inl (cy_tem, 192, .inl f_tem)), (h_out, .inl (cy_out, 1000, .inl f_out)), (h_mm, .inr (8, (mo74 v_mm (.ref h_nv) (.ref h_nn) (.ref h_na) (.ref h_nb) (.ref h_nc) (.ref h_let) (.ref h_isn) (.ref h_tem) (.ref h_out) (.int x_mm_outs) (.ref h_wri) (.int z24) (.int 900)))), (h_wri, .inl (cy_wri, 1000, .inl f25))] := hD
    obtain ⟨k26, k27⟩ := hq
    have k26 : 0 ≤ ((z24)).toInt ∧ ((z24)).toInt ≤ 1000 := k26
    have k27 : ((0 : Int32)).toInt ≤ ((z24)).toInt := k27
    refine lv_aload_n hx hb dX11_shows_26 rfl (lv_at hl 0 rfl) ?_
    refine lv_aload_n hx hb dX11_shows_27 rfl (lv_at hl 0 rfl) ?_
    refine va_get (D := (dC, dI)) (ci := 8) (v := .ref h_tem) (C := RX11) (T := TX11) (N := 71) hx hb hw iwX11 hown hK hP 9 rfl rfl 12 (by decide) (hw _ w_f_X11_152) (fun _ h9 => h9) rfl dX11_shows_28 ?_
    refine lv_iload_n hx hb dX11_shows_31 rfl (lv_at hl 1 rfl) ?_
    refine va_iald hx hb hK hP 7 8 rfl rfl (i := p1) (vp_in_iff.mpr (by omega)) dX11_shows_32 ?_
    refine lv_topi (fun z28 ez28 => ?_)
    have rz28 : 0 ≤ (z28).toInt ∧ (z28).toInt ≤ 7999 := by rw [ez28]; exact hf_tem _
    have tq9 : f_tem (p1).toInt.toNat = z28 := by rw [← clamp_nat (i := p1) (by omega), ← ez28]
    have tr9 : 0 ≤ (z28).toInt ∧ (z28).toInt < N ∧ hz (z28).toInt.toNat = 7 := by rw [← tq9]; omega
    refine lv_iload_n hx hb dX11_shows_33 rfl (lv_at hl 2 rfl) ?_
    refine lv_iload_n hx hb dX11_shows_34 rfl (lv_at hl 3 rfl) ?_
    have cstm1 : ((-1) : Int32).toInt = -1 := by decide
    have hPc := hP.sub (ws' := [(h_mm, .inr (8, (mo74 v_mm (.ref h_nv) (.ref h_nn) (.ref h_na) (.ref h_nb) (.ref h_nc) (.ref h_let) (.ref h_isn) (.ref h_tem) (.ref h_out) (.int x_mm_outs) (.ref h_wri) (.int z24) (.int 900)))), (h_wri, .inl (cy_wri, 1000, .inl f25)), (h_let, .inl (cy_let, 256, .inl f_let)), (h_nv, .inl (cy_nv, 8000, .inl f_nv)), (h_nn, .inl (cy_nn, 8000, .inr (.inl f_nn))), (h_na, .inl (cy_na, 8000, .inl f_na)), (h_nb, .inl (cy_nb, 8000, .inl f_nb)), (h_nc, .inl (cy_nc, 8000, .inl f_nc))]) [9, 10, 0, 1, 2, 3, 4, 5] rfl
    have hDc := hD.sub (ws' := [(h_mm, .inr (8, (mo74 v_mm (.ref h_nv) (.ref h_nn) (.ref h_na) (.ref h_nb) (.ref h_nc) (.ref h_let) (.ref h_isn) (.ref h_tem) (.ref h_out) (.int x_mm_outs) (.ref h_wri) (.int z24) (.int 900)))), (h_wri, .inl (cy_wri, 1000, .inl f25)), (h_let, .inl (cy_let, 256, .inl f_let)), (h_nv, .inl (cy_nv, 8000, .inl f_nv)), (h_nn, .inl (cy_nn, 8000, .inr (.inl f_nn))), (h_na, .inl (cy_na, 8000, .inl f_na)), (h_nb, .inl (cy_nb, 8000, .inl f_nb)), (h_nc, .inl (cy_nc, 8000, .inl f_nc))]) [9, 10, 0, 1, 2, 3, 4, 5] (by decide) rfl
    have hKc := hK.sub (tys' := [(cy_wri, .int), (cy_let, .int), (cy_nv, .int), (cy_nn, .long), (cy_na, .int), (cy_nb, .int), (cy_nc, .int)]) [0, 1, 2, 3, 4, 5, 6] rfl
    have hFc := va_free (wc := [(h_mm, .inr (8, (mo74 v_mm (.ref h_nv) (.ref h_nn) (.ref h_na) (.ref h_nb) (.ref h_nc) (.ref h_let) (.ref h_isn) (.ref h_tem) (.ref h_out) (.int x_mm_outs) (.ref h_wri) (.int z24) (.int 900)))), (h_wri, .inl (cy_wri, 1000, .inl f25)), (h_let, .inl (cy_let, 256, .inl f_let)), (h_nv, .inl (cy_nv, 8000, .inl f_nv)), (h_nn, .inl (cy_nn, 8000, .inr (.inl f_nn))), (h_na, .inl (cy_na, 8000, .inl f_na)), (h_nb, .inl (cy_nb, 8000, .inl f_nb)), (h_nc, .inl (cy_nc, 8000, .inl f_nc))]) hD hS hA [9, 10, 0, 1, 2, 3, 4, 5] rfl
    refine va_callv (va_runV (As := [.int z28, .int (-1), .int p3]) (rest := []) ⟨hx, hb, hml, hown, hts⟩ (c_X11_saysTerm_0 l 8 dC dI H.size h_mm h_wri h_let h_nv h_nn h_na h_nb h_nc (fun k => List.getD (mo74 v_mm (.ref h_nv) (.ref h_nn) (.ref h_na) (.ref h_nb) (.ref h_nc) (.ref h_let) (.ref h_isn) (.ref h_tem) (.ref h_out) (.int x_mm_outs) (.ref h_wri) (.int z24) (.int 900)) k .null) z24 900 cy_wri f25 cy_let f_let cy_nv f_nv cy_nn f_nn cy_na f_na cy_nb f_nb cy_nc f_nc z28 p3 N hz (by omega) (by decide) hf_nv hf_na hf_nb hf_nc (by omega) (by omega) (by omega) (by omega) hn_nds) (cwV 3 hts (gv hT w_m_X11_459 w_instanceMethod_X11_saysTerm ws_sel_X11_saysTerm w_ini_X11 w_code_X11_saysTerm) rfl rfl rfl (by decide +kernel) ⟨(Nat.le_of_ble_eq_true rfl), (Nat.le_of_ble_eq_true rfl)⟩) ⟨pre_blind, va_recv hK hP (ci := 8) (q0 := 9) rfl rfl, pre_of hPc hKc hDc hN⟩ rfl rfl hl.1 rfl (lv_room (Nat.le_of_ble_eq_true rfl)) dX11_shows_35 ⟨(Nat.le_of_ble_eq_true rfl), (Nat.le_of_ble_eq_true rfl)⟩) hS (fun q _ h => hFc q h) hFc (fun u t H locs ht hvm hq hB hz1 hk1 hS => ?_)
    obtain ⟨z30, f31⟩ := u
    obtain ⟨hP1, hD1⟩ := hB
    rw [ht] at hP1
    obtain ⟨hP, hD⟩ := va_join (wr := [(h_isn, .inl (cy_isn, 192, .inl f_isn)), (h_tem, .inl (cy_tem, 192, .inl f_tem)), (h_out, .inl (cy_out, 1000, .inl f_out))]) (w1 := [(h_mm, .inr (8, (mo74 v_mm (.ref h_nv) (.ref h_nn) (.ref h_na) (.ref h_nb) (.ref h_nc) (.ref h_let) (.ref h_isn) (.ref h_tem) (.ref h_out) (.int x_mm_outs) (.ref h_wri) (.int z30) (.int 900)))), (h_wri, .inl (cy_wri, 1000, .inl f31)), (h_let, .inl (cy_let, 256, .inl f_let)), (h_nv, .inl (cy_nv, 8000, .inl f_nv)), (h_nn, .inl (cy_nn, 8000, .inr (.inl f_nn))), (h_na, .inl (cy_na, 8000, .inl f_na)), (h_nb, .inl (cy_nb, 8000, .inl f_nb)), (h_nc, .inl (cy_nc, 8000, .inl f_nc))]) hP hD [9, 10, 0, 1, 2, 3, 4, 5] [6, 7, 8] rfl rfl (by decide) (by decide) hk1 hFc hP1 hD1
    have hP : va_P (dC, dI) cls [(h_isn, .inl (cy_isn, 192, .inl f_isn)), (h_tem, .inl (cy_tem, 192, .inl f_tem)), (h_out, .inl (cy_out, 1000, .inl f_out)), (h_mm, .inr (8, (mo74 v_mm (.ref h_nv) (.ref h_nn) (.ref h_na) (.ref h_nb) (.ref h_nc) (.ref h_let) (.ref h_isn) (.ref h_tem) (.ref h_out) (.int x_mm_outs) (.ref h_wri) (.int z30) (.int 900)))), (h_wri, .inl (cy_wri, 1000, .inl f31)), (h_let, .inl (cy_let, 256, .inl f_let)), (h_nv, .inl (cy_nv, 8000, .inl f_nv)), (h_nn, .inl (cy_nn, 8000, .inr (.inl f_nn))), (h_na, .inl (cy_na, 8000, .inl f_na)), (h_nb, .inl (cy_nb, 8000, .inl f_nb)), (h_nc, .inl (cy_nc, 8000, .inl f_nc))] H := hP
    have hD : va_D A [(h_isn, .inl (cy_isn, 192, .inl f_isn)), (h_tem, .inl (cy_tem, 192, .inl f_tem)), (h_out, .inl (cy_out, 1000, .inl f_out)), (h_mm, .inr (8, (mo74 v_mm (.ref h_nv) (.ref h_nn) (.ref h_na) (.ref h_nb) (.ref h_nc) (.ref h_let) (.ref h_isn) (.ref h_tem) (.ref h_out) (.int x_mm_outs) (.ref h_wri) (.int z30) (.int 900)))), (h_wri, .inl (cy_wri, 1000, .inl f31)), (h_let, .inl (cy_let, 256, .inl f_let)), (h_nv, .inl (cy_nv, 8000, .inl f_nv)), (h_nn, .inl (cy_nn, 8000, .inr (.inl f_nn))), (h_na, .inl (cy_na, 8000, .inl f_na)), (h_nb, .inl (cy_nb, 8000, .inl f_nb)), (h_nc, .inl (cy_nc, 8000, .inl f_nc))] := hD
    have k32 : 0 ≤ ((z30)).toInt ∧ ((z30)).toInt ≤ 1000 := hq
    refine lv_aload_n hx hb dX11_shows_38 rfl (lv_at hl 0 rfl) ?_
    refine va_get (D := (dC, dI)) (ci := 8) (v := .int z30) (C := RX11) (T := TX11) (N := 71) hx hb hw iwX11 hown hK hP 3 rfl rfl 65 (by decide) (hw _ w_f_X11_443) (fun _ h9 => h9) rfl dX11_shows_39 ?_
    refine lv_iload hx hb dX11_shows_42 (lv_at hl 4 rfl) ?_
    refine lv_icmp_le (tgt := 49) hx hb dX11_shows_44 (by decide) (fun c33 => ?_) (fun c33 => ?_)
    · have kc33 := (cv_le (rfl : (z30).toInt = (z30).toInt) (by decide : (900 : Int32).toInt = 900)).mp c33
      refine lv_iconst (v := 0) hx hb dX11_shows_49 (by decide) ?_
      refine lv_istore (lv' := [(5, .int 0), (0, .ref h_mm), (1, .int p1), (2, .int (-1)), (3, .int p3), (4, .int 900)]) hx hb dX11_shows_50 hl (by decide) rfl (fun ls hl => ?_)
      have lp36 : ∀ (n : Nat) (x34 : Int32) (f35 : Nat → Int32) (H : Heap) (locs : List Loc) (ls : Array Slot), (0 ≤ (x34).toInt ∧ (x34).toInt ≤ 1000) → ((z30).toInt ≤ 900) → (1000 - (x34).toInt).toNat + 1 ≤ n → va_P (dC, dI) cls [(h_isn, .inl (cy_isn, 192, .inl f_isn)), (h_tem, .inl (cy_tem, 192, .inl f_tem)), (h_out, .inl (cy_out, 1000, .inl f35)), (h_mm, .inr (8, (mo74 v_mm (.ref h_nv) (.ref h_nn) (.ref h_na) (.ref h_nb) (.ref h_nc) (.ref h_let) (.ref h_isn) (.ref h_tem) (.ref h_out) (.int x_mm_outs) (.ref h_wri) (.int z30) (.int 900)))), (h_wri, .inl (cy_wri, 1000, .inl f31)), (h_let, .inl (cy_let, 256, .inl f_let)), (h_nv, .inl (cy_nv, 8000, .inl f_nv)), (h_nn, .inl (cy_nn, 8000, .inr (.inl f_nn))), (h_na, .inl (cy_na, 8000, .inl f_na)), (h_nb, .inl (cy_nb, 8000, .inl f_nb)), (h_nc, .inl (cy_nc, 8000, .inl f_nc))] H → va_D A [(h_isn, .inl (cy_isn, 192, .inl f_isn)), (h_tem, .inl (cy_tem, 192, .inl f_tem)), (h_out, .inl (cy_out, 1000, .inl f35)), (h_mm, .inr (8, (mo74 v_mm (.ref h_nv) (.ref h_nn) (.ref h_na) (.ref h_nb) (.ref h_nc) (.ref h_let) (.ref h_isn) (.ref h_tem) (.ref h_out) (.int x_mm_outs) (.ref h_wri) (.int z30) (.int 900)))), (h_wri, .inl (cy_wri, 1000, .inl f31)), (h_let, .inl (cy_let, 256, .inl f_let)), (h_nv, .inl (cy_nv, 8000, .inl f_nv)), (h_nn, .inl (cy_nn, 8000, .inr (.inl f_nn))), (h_na, .inl (cy_na, 8000, .inl f_na)), (h_nb, .inl (cy_nb, 8000, .inl f_nb)), (h_nc, .inl (cy_nc, 8000, .inl f_nc))] → va_S A s.heap H locs → lv_has ls 6 [(0, .ref h_mm), (1, .int p1), (2, .int (-1)), (3, .int p3), (4, .int 900), (5, .int x34)] → W p l e ({ frames := 24, cells := 0, slots := 0, locals := 563 } : Room) s m ([.ref h_mm, .int p1, .int (-1), .int p3, .int 900] : List Value).toArray below meth c H locs 0 0 (MQ below (va_Qi (fun (r : Int32) (u : (Int32) × (Int32) × (Int32) × (Nat → Int32) × (Nat → Int32)) => (0 ≤ (u.1).toInt ∧ (u.1).toInt ≤ 1000) ∧ (0 ≤ (u.2.1).toInt ∧ (u.2.1).toInt ≤ 1000) ∧ (0 ≤ (u.2.2.1).toInt ∧ (u.2.2.1).toInt ≤ 998)) (fun (u : (Int32) × (Int32) × (Int32) × (Nat → Int32) × (Nat → Int32)) (t : State) => va_P (dC, dI) cls [(h_mm, .inr (8, (mo74 v_mm (.ref h_nv) (.ref h_nn) (.ref h_na) (.ref h_nb) (.ref h_nc) (.ref h_let) (.ref h_isn) (.ref h_tem) (.ref h_out) (.int u.1) (.ref h_wri) (.int u.2.1) (.int u.2.2.1)))), (h_wri, .inl (cy_wri, 1000, .inl u.2.2.2.1)), (h_let, .inl (cy_let, 256, .inl f_let)), (h_nv, .inl (cy_nv, 8000, .inl f_nv)), (h_nn, .inl (cy_nn, 8000, .inr (.inl f_nn))), (h_na, .inl (cy_na, 8000, .inl f_na)), (h_nb, .inl (cy_nb, 8000, .inl f_nb)), (h_nc, .inl (cy_nc, 8000, .inl f_nc)), (h_isn, .inl (cy_isn, 192, .inl f_isn)), (h_tem, .inl (cy_tem, 192, .inl f_tem)), (h_out, .inl (cy_out, 1000, .inl u.2.2.2.2))] t.heap ∧ va_D A [(h_mm, .inr (8, (mo74 v_mm (.ref h_nv) (.ref h_nn) (.ref h_na) (.ref h_nb) (.ref h_nc) (.ref h_let) (.ref h_isn) (.ref h_tem) (.ref h_out) (.int u.1) (.ref h_wri) (.int u.2.1) (.int u.2.2.1)))), (h_wri, .inl (cy_wri, 1000, .inl u.2.2.2.1)), (h_let, .inl (cy_let, 256, .inl f_let)), (h_nv, .inl (cy_nv, 8000, .inl f_nv)), (h_nn, .inl (cy_nn, 8000, .inr (.inl f_nn))), (h_na, .inl (cy_na, 8000, .inl f_na)), (h_nb, .inl (cy_nb, 8000, .inl f_nb)), (h_nc, .inl (cy_nc, 8000, .inl f_nc)), (h_isn, .inl (cy_isn, 192, .inl f_isn)), (h_tem, .inl (cy_tem, 192, .inl f_tem)), (h_out, .inl (cy_out, 1000, .inl u.2.2.2.2))]) A) ([.ref h_mm, .int p1, .int (-1), .int p3, .int 900] : List Value).toArray s 0 0 A) (F0 m 52 ls []) := by
        intro n
        induction n with
        | zero => intro x34 f35 H locs ls klp36_0 klp36_1 hm hP hD hS hl; exact False.elim (by omega)
        | succ n ih => 
          intro x34 f35 H locs ls klp36_0 klp36_1 hm hP hD hS hl
          have ih37 := ih
          clear ih
          refine lv_iload hx hb dX11_shows_52 (lv_at hl 5 rfl) ?_
          refine lv_aload_n hx hb dX11_shows_54 rfl (lv_at hl 0 rfl) ?_
          refine va_get (D := (dC, dI)) (ci := 8) (v := .int z30) (C := RX11) (T := TX11) (N := 71) hx hb hw iwX11 hown hK hP 3 rfl rfl 65 (by decide) (hw _ w_f_X11_443) (fun _ h9 => h9) rfl dX11_shows_55 ?_
          refine lv_icmp_ge (tgt := 81) hx hb dX11_shows_58 (by decide) (fun c38 => ?_) (fun c38 => ?_)
          · have kc38 := (cv_le (rfl : (z30).toInt = (z30).toInt) (rfl : (x34).toInt = (x34).toInt)).mp c38
            refine lv_aload_n hx hb dX11_shows_81 rfl (lv_at hl 0 rfl) ?_
            refine lv_aload_n hx hb dX11_shows_82 rfl (lv_at hl 0 rfl) ?_
            refine va_get (D := (dC, dI)) (ci := 8) (v := .int z30) (C := RX11) (T := TX11) (N := 71) hx hb hw iwX11 hown hK hP 3 rfl rfl 65 (by decide) (hw _ w_f_X11_443) (fun _ h9 => h9) rfl dX11_shows_83 ?_
            refine va_put (D := (dC, dI)) (ci := 8) (v := .int z30) (ty := tyX11 63) (C := RX11) (T := TX11) (N := 71) hx hb hw iwX11 tyX11 tyX11_ok nmX11 hown hK hP hD hS 3 rfl rfl 63 (by decide) (hw _ w_f_X11_462) (fun _ h9 => h9) rfl (tyX11_ok 63 (by decide)) rfl rfl (Nat.le_of_ble_eq_true rfl) dX11_shows_86 (fun H locs hP hD hS => ?_)
            have hP : va_P (dC, dI) cls [(h_isn, .inl (cy_isn, 192, .inl f_isn)), (h_tem, .inl (cy_tem, 192, .inl f_tem)), (h_out, .inl (cy_out, 1000, .inl f35)), (h_mm, .inr (8, (mo74 v_mm (.ref h_nv) (.ref h_nn) (.ref h_na) (.ref h_nb) (.ref h_nc) (.ref h_let) (.ref h_isn) (.ref h_tem) (.ref h_out) (.int z30) (.ref h_wri) (.int z30) (.int 900)))), (h_wri, .inl (cy_wri, 1000, .inl f31)), (h_let, .inl (cy_let, 256, .inl f_let)), (h_nv, .inl (cy_nv, 8000, .inl f_nv)), (h_nn, .inl (cy_nn, 8000, .inr (.inl f_nn))), (h_na, .inl (cy_na, 8000, .inl f_na)), (h_nb, .inl (cy_nb, 8000, .inl f_nb)), (h_nc, .inl (cy_nc, 8000, .inl f_nc))] H := hP
            have hD : va_D A [(h_isn, .inl (cy_isn, 192, .inl f_isn)), (h_tem, .inl (cy_tem, 192, .inl f_tem)), (h_out, .inl (cy_out, 1000, .inl f35)), (h_mm, .inr (8, (mo74 v_mm (.ref h_nv) (.ref h_nn) (.ref h_na) (.ref h_nb) (.ref h_nc) (.ref h_let) (.ref h_isn) (.ref h_tem) (.ref h_out) (.int z30) (.ref h_wri) (.int z30) (.int 900)))), (h_wri, .inl (cy_wri, 1000, .inl f31)), (h_let, .inl (cy_let, 256, .inl f_let)), (h_nv, .inl (cy_nv, 8000, .inl f_nv)), (h_nn, .inl (cy_nn, 8000, .inr (.inl f_nn))), (h_na, .inl (cy_na, 8000, .inl f_na)), (h_nb, .inl (cy_nb, 8000, .inl f_nb)), (h_nc, .inl (cy_nc, 8000, .inl f_nc))] := hD
            refine lv_aload_n hx hb dX11_shows_89 rfl (lv_at hl 0 rfl) ?_
            refine va_get (D := (dC, dI)) (ci := 8) (v := .int z30) (C := RX11) (T := TX11) (N := 71) hx hb hw iwX11 hown hK hP 3 rfl rfl 63 (by decide) (hw _ w_f_X11_462) (fun _ h9 => h9) rfl dX11_shows_90 ?_
            have hP : va_P (dC, dI) cls [(h_mm, .inr (8, (mo74 v_mm (.ref h_nv) (.ref h_nn) (.ref h_na) (.ref h_nb) (.ref h_nc) (.ref h_let) (.ref h_isn) (.ref h_tem) (.ref h_out) (.int z30) (.ref h_wri) (.int z30) (.int 900)))), (h_wri, .inl (cy_wri, 1000, .inl f31)), (h_let, .inl (cy_let, 256, .inl f_let)), (h_nv, .inl (cy_nv, 8000, .inl f_nv)), (h_nn, .inl (cy_nn, 8000, .inr (.inl f_nn))), (h_na, .inl (cy_na, 8000, .inl f_na)), (h_nb, .inl (cy_nb, 8000, .inl f_nb)), (h_nc, .inl (cy_nc, 8000, .inl f_nc)), (h_isn, .inl (cy_isn, 192, .inl f_isn)), (h_tem, .inl (cy_tem, 192, .inl f_tem)), (h_out, .inl (cy_out, 1000, .inl f35))] H := hP.sub [3, 4, 5, 6, 7, 8, 9, 10, 0, 1, 2] rfl
            have hD : va_D A [(h_mm, .inr (8, (mo74 v_mm (.ref h_nv) (.ref h_nn) (.ref h_na) (.ref h_nb) (.ref h_nc) (.ref h_let) (.ref h_isn) (.ref h_tem) (.ref h_out) (.int z30) (.ref h_wri) (.int z30) (.int 900)))), (h_wri, .inl (cy_wri, 1000, .inl f31)), (h_let, .inl (cy_let, 256, .inl f_let)), (h_nv, .inl (cy_nv, 8000, .inl f_nv)), (h_nn, .inl (cy_nn, 8000, .inr (.inl f_nn))), (h_na, .inl (cy_na, 8000, .inl f_na)), (h_nb, .inl (cy_nb, 8000, .inl f_nb)), (h_nc, .inl (cy_nc, 8000, .inl f_nc)), (h_isn, .inl (cy_isn, 192, .inl f_isn)), (h_tem, .inl (cy_tem, 192, .inl f_tem)), (h_out, .inl (cy_out, 1000, .inl f35))] := hD.sub [3, 4, 5, 6, 7, 8, 9, 10, 0, 1, 2] (by decide) rfl
            refine W.widen (k := 0) (n := 0) (Nat.le_of_ble_eq_true rfl) (Nat.le_of_ble_eq_true rfl) ?_
            have cst900 : (900 : Int32).toInt = 900 := by decide
            have w39 : 0 ≤ ((z30)).toInt ∧ ((z30)).toInt ≤ 1000 := by omega
            have w40 : 0 ≤ ((z30)).toInt ∧ ((z30)).toInt ≤ 1000 := by omega
            have w41 : 0 ≤ ((900 : Int32)).toInt ∧ ((900 : Int32)).toInt ≤ 998 := by omega
            exact W.iret (v := z30) hx hb hr (fun t ht hW => ⟨⟨z30, (z30, z30, 900, f31, f35), rfl, ⟨w39, w40, w41⟩, by rw [ht]; exact hP, hD⟩, hS.F ht⟩) hS.2.2 dX11_shows_93
          · have kc38 := (not_congr (cv_le (rfl : (z30).toInt = (z30).toInt) (rfl : (x34).toInt = (x34).toInt))).mp c38
            refine lv_aload_n hx hb dX11_shows_61 rfl (lv_at hl 0 rfl) ?_
            refine va_get (D := (dC, dI)) (ci := 8) (v := .ref h_out) (C := RX11) (T := TX11) (N := 71) hx hb hw iwX11 hown hK hP 3 rfl rfl 62 (by decide) (hw _ w_f_X11_243) (fun _ h9 => h9) rfl dX11_shows_62 ?_
            refine lv_iload hx hb dX11_shows_65 (lv_at hl 5 rfl) ?_
            refine lv_aload_n hx hb dX11_shows_67 rfl (lv_at hl 0 rfl) ?_
            refine va_get (D := (dC, dI)) (ci := 8) (v := .ref h_wri) (C := RX11) (T := TX11) (N := 71) hx hb hw iwX11 hown hK hP 3 rfl rfl 64 (by decide) (hw _ w_f_X11_246) (fun _ h9 => h9) rfl dX11_shows_68 ?_
            refine lv_iload hx hb dX11_shows_71 (lv_at hl 5 rfl) ?_
            refine va_iald hx hb hK hP 4 0 rfl rfl (i := x34) (vp_in_iff.mpr (by omega)) dX11_shows_73 ?_
            refine lv_topi (fun z42 ez42 => ?_)
            refine va_iast hx hb hK hP hD hS 2 9 rfl rfl (i := x34) (x := z42) (vp_in_iff.mpr (by omega)) dX11_shows_74 (fun H locs hP hD hS => ?_)
            obtain ⟨f43, ef43⟩ : ∃ g : Nat → Int32, g = upd f35 (Int32.toNatClampNeg x34) z42 := ⟨_, rfl⟩
            have hP : va_P (dC, dI) cls [(h_isn, .inl (cy_isn, 192, .inl f_isn)), (h_tem, .inl (cy_tem, 192, .inl f_tem)), (h_out, .inl (cy_out, 1000, .inl f43)), (h_mm, .inr (8, (mo74 v_mm (.ref h_nv) (.ref h_nn) (.ref h_na) (.ref h_nb) (.ref h_nc) (.ref h_let) (.ref h_isn) (.ref h_tem) (.ref h_out) (.int x_mm_outs) (.ref h_wri) (.int z30) (.int 900)))), (h_wri, .inl (cy_wri, 1000, .inl f31)), (h_let, .inl (cy_let, 256, .inl f_let)), (h_nv, .inl (cy_nv, 8000, .inl f_nv)), (h_nn, .inl (cy_nn, 8000, .inr (.inl f_nn))), (h_na, .inl (cy_na, 8000, .inl f_na)), (h_nb, .inl (cy_nb, 8000, .inl f_nb)), (h_nc, .inl (cy_nc, 8000, .inl f_nc))] H := by rw [ef43]; exact hP
            have hD : va_D A [(h_isn, .inl (cy_isn, 192, .inl f_isn)), (h_tem, .inl (cy_tem, 192, .inl f_tem)), (h_out, .inl (cy_out, 1000, .inl f43)), (h_mm, .inr (8, (mo74 v_mm (.ref h_nv) (.ref h_nn) (.ref h_na) (.ref h_nb) (.ref h_nc) (.ref h_let) (.ref h_isn) (.ref h_tem) (.ref h_out) (.int x_mm_outs) (.ref h_wri) (.int z30) (.int 900)))), (h_wri, .inl (cy_wri, 1000, .inl f31)), (h_let, .inl (cy_let, 256, .inl f_let)), (h_nv, .inl (cy_nv, 8000, .inl f_nv)), (h_nn, .inl (cy_nn, 8000, .inr (.inl f_nn))), (h_na, .inl (cy_na, 8000, .inl f_na)), (h_nb, .inl (cy_nb, 8000, .inl f_nb)), (h_nc, .inl (cy_nc, 8000, .inl f_nc))] := by rw [ef43]; exact hD
            clear ef43
            obtain ⟨z44, ez44⟩ : ∃ y : Int32, y = x34 + 1 := ⟨_, rfl⟩
            have tz44 : (z44).toInt = (x34).toInt + 1 := by rw [ez44]; exact i_add rfl (by decide) (by omega)
            refine lv_iinc (v := z44) (lv' := [(5, .int z44), (0, .ref h_mm), (1, .int p1), (2, .int (-1)), (3, .int p3), (4, .int 900)]) hx hb dX11_shows_75 hl (k := 5) rfl (by rw [ez44]; rfl) (by decide) rfl (fun ls hl => ?_)
            refine lv_goto (tgt := 52) hx hb dX11_shows_78 (by decide) ?_
            exact ih37 (z44) (f43) _ _ _ (by omega) (by omega) (by omega) hP hD hS (lv_sub hl [1, 2, 3, 4, 5, 0] rfl)
      have cst0 : (0 : Int32).toInt = 0 := by decide
      exact lp36 _ (0) (f_out) _ _ _ (by decide) (by omega) (Nat.le_refl _) hP hD hS (lv_sub hl [1, 2, 3, 4, 5, 0] rfl)
    · have kc33 := (not_congr (cv_le (rfl : (z30).toInt = (z30).toInt) (by decide : (900 : Int32).toInt = 900))).mp c33
      refine lv_iconst (v := (-1)) hx hb dX11_shows_47 (by decide) ?_
      have hP : va_P (dC, dI) cls [(h_mm, .inr (8, (mo74 v_mm (.ref h_nv) (.ref h_nn) (.ref h_na) (.ref h_nb) (.ref h_nc) (.ref h_let) (.ref h_isn) (.ref h_tem) (.ref h_out) (.int x_mm_outs) (.ref h_wri) (.int z30) (.int 900)))), (h_wri, .inl (cy_wri, 1000, .inl f31)), (h_let, .inl (cy_let, 256, .inl f_let)), (h_nv, .inl (cy_nv, 8000, .inl f_nv)), (h_nn, .inl (cy_nn, 8000, .inr (.inl f_nn))), (h_na, .inl (cy_na, 8000, .inl f_na)), (h_nb, .inl (cy_nb, 8000, .inl f_nb)), (h_nc, .inl (cy_nc, 8000, .inl f_nc)), (h_isn, .inl (cy_isn, 192, .inl f_isn)), (h_tem, .inl (cy_tem, 192, .inl f_tem)), (h_out, .inl (cy_out, 1000, .inl f_out))] H := hP.sub [3, 4, 5, 6, 7, 8, 9, 10, 0, 1, 2] rfl
      have hD : va_D A [(h_mm, .inr (8, (mo74 v_mm (.ref h_nv) (.ref h_nn) (.ref h_na) (.ref h_nb) (.ref h_nc) (.ref h_let) (.ref h_isn) (.ref h_tem) (.ref h_out) (.int x_mm_outs) (.ref h_wri) (.int z30) (.int 900)))), (h_wri, .inl (cy_wri, 1000, .inl f31)), (h_let, .inl (cy_let, 256, .inl f_let)), (h_nv, .inl (cy_nv, 8000, .inl f_nv)), (h_nn, .inl (cy_nn, 8000, .inr (.inl f_nn))), (h_na, .inl (cy_na, 8000, .inl f_na)), (h_nb, .inl (cy_nb, 8000, .inl f_nb)), (h_nc, .inl (cy_nc, 8000, .inl f_nc)), (h_isn, .inl (cy_isn, 192, .inl f_isn)), (h_tem, .inl (cy_tem, 192, .inl f_tem)), (h_out, .inl (cy_out, 1000, .inl f_out))] := hD.sub [3, 4, 5, 6, 7, 8, 9, 10, 0, 1, 2] (by decide) rfl
      refine W.widen (k := 0) (n := 0) (Nat.le_of_ble_eq_true rfl) (Nat.le_of_ble_eq_true rfl) ?_
      have cstm1 : ((-1) : Int32).toInt = -1 := by decide
      have cst900 : (900 : Int32).toInt = 900 := by decide
      have w45 : 0 ≤ ((x_mm_outs)).toInt ∧ ((x_mm_outs)).toInt ≤ 1000 := by omega
      have w46 : 0 ≤ ((z30)).toInt ∧ ((z30)).toInt ≤ 1000 := by omega
      have w47 : 0 ≤ ((900 : Int32)).toInt ∧ ((900 : Int32)).toInt ≤ 998 := by omega
      exact W.iret (v := (-1)) hx hb hr (fun t ht hW => ⟨⟨(-1), (x_mm_outs, z30, 900, f31, f_out), rfl, ⟨w45, w46, w47⟩, by rw [ht]; exact hP, hD⟩, hS.F ht⟩) hS.2.2 dX11_shows_48

set_option maxHeartbeats 8000000 in
set_option maxRecDepth 100000 in
theorem c_X11_shows_1 (l : Launch) (dC : Nat → ClassId) (dI : Nat → Nat → Nat) (sz : Nat) (h_mm : Nat) (h_wri : Nat) (h_let : Nat) (h_nv : Nat) (h_nn : Nat) (h_na : Nat) (h_nb : Nat) (h_nc : Nat) (h_bto : Nat) (h_bin : Nat) (h_cof : Nat) (h_isn : Nat) (h_tem : Nat) (h_out : Nat) (v_mm : Nat → Value) (x_mm_goneTo : Int32) (x_mm_goneIn : Int32) (x_mm_outs : Int32) (x_mm_writes : Int32) (x_mm_room : Int32) (cy_wri : ClassId) (f_wri : Nat → Int32) (cy_let : ClassId) (f_let : Nat → Int32) (cy_nv : ClassId) (f_nv : Nat → Int32) (cy_nn : ClassId) (f_nn : Nat → Int64) (cy_na : ClassId) (f_na : Nat → Int32) (cy_nb : ClassId) (f_nb : Nat → Int32) (cy_nc : ClassId) (f_nc : Nat → Int32) (cy_bto : ClassId) (f_bto : Nat → Int32) (cy_bin : ClassId) (f_bin : Nat → Int32) (cy_cof : ClassId) (f_cof : Nat → Int32) (cy_isn : ClassId) (f_isn : Nat → Int32) (cy_tem : ClassId) (f_tem : Nat → Int32) (cy_out : ClassId) (f_out : Nat → Int32) (p1 : Int32) (p2 : Int32) (i0 : Int) (i1 : Int) (N : Int) (hz : Nat → Nat) (hx_mm_goneTo : 0 ≤ (x_mm_goneTo).toInt ∧ (x_mm_goneTo).toInt ≤ 7999) (hx_mm_goneIn : 0 ≤ (x_mm_goneIn).toInt ∧ (x_mm_goneIn).toInt ≤ 31) (hx_mm_outs : 0 ≤ (x_mm_outs).toInt ∧ (x_mm_outs).toInt ≤ 1000) (hx_mm_writes : 0 ≤ (x_mm_writes).toInt ∧ (x_mm_writes).toInt ≤ 1000) (hx_mm_room : 0 ≤ (x_mm_room).toInt ∧ (x_mm_room).toInt ≤ 998) (hf_nv : Rg (-1) 7 f_nv) (hf_na : Rg (-1) 7999 f_na) (hf_nb : Rg (-1) 7999 f_nb) (hf_nc : Rg (-1) 7999 f_nc) (hf_bto : Rg (-1) 7999 f_bto) (hf_bin : Rg 0 31 f_bin) (hf_cof : Rg 0 15 f_cof) (hf_tem : Rg 0 7999 f_tem) (q0 : 0 ≤ (f_tem (p1).toInt.toNat).toInt ∧ (f_tem (p1).toInt.toNat).toInt < N ∧ hz (f_tem (p1).toInt.toNat).toInt.toNat = 7) (q1 : N ≤ 8000) (q2 : 0 ≤ (p1).toInt ∧ (p1).toInt ≤ 191) (q3 : 0 ≤ i0 ∧ i0 ≤ i1 ∧ i1 ≤ 31) (q4 : N ≤ 8000) (q5 : i0 = 0 ∧ i1 = 29) (q6 : 0 ≤ (p2).toInt ∧ (p2).toInt ≤ 29) (hn_bi : BI i0 i1 N hz f_nv f_na f_nb f_nc f_bto f_bin) : Met l yX11_shows (Ws yX11_shows cX11_shows 6 (some .int)) (({ frames := 1560, cells := 0, slots := 0, locals := 40499 } : Room)) (PRE (dC, dI) cls [(cy_wri, .int), (cy_let, .int), (cy_nv, .int), (cy_nn, .long), (cy_na, .int), (cy_nb, .int), (cy_nc, .int), (cy_bto, .int), (cy_bin, .int), (cy_cof, .int), (cy_isn, .boolean), (cy_tem, .int), (cy_out, .int)] [(h_mm, .inr (8, (mo75 v_mm (.ref h_nv) (.ref h_nn) (.ref h_na) (.ref h_nb) (.ref h_nc) (.ref h_let) (.ref h_isn) (.ref h_tem) (.ref h_bto) (.ref h_bin) (.int x_mm_goneTo) (.int x_mm_goneIn) (.ref h_cof) (.ref h_out) (.int x_mm_outs) (.ref h_wri) (.int x_mm_writes) (.int x_mm_room)))), (h_wri, .inl (cy_wri, 1000, .inl f_wri)), (h_let, .inl (cy_let, 256, .inl f_let)), (h_nv, .inl (cy_nv, 8000, .inl f_nv)), (h_nn, .inl (cy_nn, 8000, .inr (.inl f_nn))), (h_na, .inl (cy_na, 8000, .inl f_na)), (h_nb, .inl (cy_nb, 8000, .inl f_nb)), (h_nc, .inl (cy_nc, 8000, .inl f_nc)), (h_bto, .inl (cy_bto, 256, .inl f_bto)), (h_bin, .inl (cy_bin, 256, .inl f_bin)), (h_cof, .inl (cy_cof, 31, .inl f_cof)), (h_isn, .inl (cy_isn, 192, .inl f_isn)), (h_tem, .inl (cy_tem, 192, .inl f_tem)), (h_out, .inl (cy_out, 1000, .inl f_out))] sz [.ref h_mm, .int p1, .int p2, .int (-1), .int 300]) (va_Qi (fun (r : Int32) (u : (Int32) × (Int32) × (Int32) × (Int32) × (Int32) × (Nat → Int32) × (Nat → Int32)) => (0 ≤ (u.1).toInt ∧ (u.1).toInt ≤ 7999) ∧ (0 ≤ (u.2.1).toInt ∧ (u.2.1).toInt ≤ 31) ∧ (0 ≤ (u.2.2.1).toInt ∧ (u.2.2.1).toInt ≤ 1000) ∧ (0 ≤ (u.2.2.2.1).toInt ∧ (u.2.2.2.1).toInt ≤ 1000) ∧ (0 ≤ (u.2.2.2.2.1).toInt ∧ (u.2.2.2.2.1).toInt ≤ 998)) (fun (u : (Int32) × (Int32) × (Int32) × (Int32) × (Int32) × (Nat → Int32) × (Nat → Int32)) (t : State) => va_P (dC, dI) cls [(h_mm, .inr (8, (mo75 v_mm (.ref h_nv) (.ref h_nn) (.ref h_na) (.ref h_nb) (.ref h_nc) (.ref h_let) (.ref h_isn) (.ref h_tem) (.ref h_bto) (.ref h_bin) (.int u.1) (.int u.2.1) (.ref h_cof) (.ref h_out) (.int u.2.2.1) (.ref h_wri) (.int u.2.2.2.1) (.int u.2.2.2.2.1)))), (h_wri, .inl (cy_wri, 1000, .inl u.2.2.2.2.2.1)), (h_let, .inl (cy_let, 256, .inl f_let)), (h_nv, .inl (cy_nv, 8000, .inl f_nv)), (h_nn, .inl (cy_nn, 8000, .inr (.inl f_nn))), (h_na, .inl (cy_na, 8000, .inl f_na)), (h_nb, .inl (cy_nb, 8000, .inl f_nb)), (h_nc, .inl (cy_nc, 8000, .inl f_nc)), (h_bto, .inl (cy_bto, 256, .inl f_bto)), (h_bin, .inl (cy_bin, 256, .inl f_bin)), (h_cof, .inl (cy_cof, 31, .inl f_cof)), (h_isn, .inl (cy_isn, 192, .inl f_isn)), (h_tem, .inl (cy_tem, 192, .inl f_tem)), (h_out, .inl (cy_out, 1000, .inl u.2.2.2.2.2.2))] t.heap ∧ va_D (va_A [(h_mm, .inr (8, (mo75 v_mm (.ref h_nv) (.ref h_nn) (.ref h_na) (.ref h_nb) (.ref h_nc) (.ref h_let) (.ref h_isn) (.ref h_tem) (.ref h_bto) (.ref h_bin) (.int x_mm_goneTo) (.int x_mm_goneIn) (.ref h_cof) (.ref h_out) (.int x_mm_outs) (.ref h_wri) (.int x_mm_writes) (.int x_mm_room)))), (h_wri, .inl (cy_wri, 1000, .inl f_wri)), (h_let, .inl (cy_let, 256, .inl f_let)), (h_nv, .inl (cy_nv, 8000, .inl f_nv)), (h_nn, .inl (cy_nn, 8000, .inr (.inl f_nn))), (h_na, .inl (cy_na, 8000, .inl f_na)), (h_nb, .inl (cy_nb, 8000, .inl f_nb)), (h_nc, .inl (cy_nc, 8000, .inl f_nc)), (h_bto, .inl (cy_bto, 256, .inl f_bto)), (h_bin, .inl (cy_bin, 256, .inl f_bin)), (h_cof, .inl (cy_cof, 31, .inl f_cof)), (h_isn, .inl (cy_isn, 192, .inl f_isn)), (h_tem, .inl (cy_tem, 192, .inl f_tem)), (h_out, .inl (cy_out, 1000, .inl f_out))] sz) [(h_mm, .inr (8, (mo75 v_mm (.ref h_nv) (.ref h_nn) (.ref h_na) (.ref h_nb) (.ref h_nc) (.ref h_let) (.ref h_isn) (.ref h_tem) (.ref h_bto) (.ref h_bin) (.int u.1) (.int u.2.1) (.ref h_cof) (.ref h_out) (.int u.2.2.1) (.ref h_wri) (.int u.2.2.2.1) (.int u.2.2.2.2.1)))), (h_wri, .inl (cy_wri, 1000, .inl u.2.2.2.2.2.1)), (h_let, .inl (cy_let, 256, .inl f_let)), (h_nv, .inl (cy_nv, 8000, .inl f_nv)), (h_nn, .inl (cy_nn, 8000, .inr (.inl f_nn))), (h_na, .inl (cy_na, 8000, .inl f_na)), (h_nb, .inl (cy_nb, 8000, .inl f_nb)), (h_nc, .inl (cy_nc, 8000, .inl f_nc)), (h_bto, .inl (cy_bto, 256, .inl f_bto)), (h_bin, .inl (cy_bin, 256, .inl f_bin)), (h_cof, .inl (cy_cof, 31, .inl f_cof)), (h_isn, .inl (cy_isn, 192, .inl f_isn)), (h_tem, .inl (cy_tem, 192, .inl f_tem)), (h_out, .inl (cy_out, 1000, .inl u.2.2.2.2.2.2))]) (va_A [(h_mm, .inr (8, (mo75 v_mm (.ref h_nv) (.ref h_nn) (.ref h_na) (.ref h_nb) (.ref h_nc) (.ref h_let) (.ref h_isn) (.ref h_tem) (.ref h_bto) (.ref h_bin) (.int x_mm_goneTo) (.int x_mm_goneIn) (.ref h_cof) (.ref h_out) (.int x_mm_outs) (.ref h_wri) (.int x_mm_writes) (.int x_mm_room)))), (h_wri, .inl (cy_wri, 1000, .inl f_wri)), (h_let, .inl (cy_let, 256, .inl f_let)), (h_nv, .inl (cy_nv, 8000, .inl f_nv)), (h_nn, .inl (cy_nn, 8000, .inr (.inl f_nn))), (h_na, .inl (cy_na, 8000, .inl f_na)), (h_nb, .inl (cy_nb, 8000, .inl f_nb)), (h_nc, .inl (cy_nc, 8000, .inl f_nc)), (h_bto, .inl (cy_bto, 256, .inl f_bto)), (h_bin, .inl (cy_bin, 256, .inl f_bin)), (h_cof, .inl (cy_cof, 31, .inl f_cof)), (h_isn, .inl (cy_isn, 192, .inl f_isn)), (h_tem, .inl (cy_tem, 192, .inl f_tem)), (h_out, .inl (cy_out, 1000, .inl f_out))] sz)) 0 0 (va_A [(h_mm, .inr (8, (mo75 v_mm (.ref h_nv) (.ref h_nn) (.ref h_na) (.ref h_nb) (.ref h_nc) (.ref h_let) (.ref h_isn) (.ref h_tem) (.ref h_bto) (.ref h_bin) (.int x_mm_goneTo) (.int x_mm_goneIn) (.ref h_cof) (.ref h_out) (.int x_mm_outs) (.ref h_wri) (.int x_mm_writes) (.int x_mm_room)))), (h_wri, .inl (cy_wri, 1000, .inl f_wri)), (h_let, .inl (cy_let, 256, .inl f_let)), (h_nv, .inl (cy_nv, 8000, .inl f_nv)), (h_nn, .inl (cy_nn, 8000, .inr (.inl f_nn))), (h_na, .inl (cy_na, 8000, .inl f_na)), (h_nb, .inl (cy_nb, 8000, .inl f_nb)), (h_nc, .inl (cy_nc, 8000, .inl f_nc)), (h_bto, .inl (cy_bto, 256, .inl f_bto)), (h_bin, .inl (cy_bin, 256, .inl f_bin)), (h_cof, .inl (cy_cof, 31, .inl f_cof)), (h_isn, .inl (cy_isn, 192, .inl f_isn)), (h_tem, .inl (cy_tem, 192, .inl f_tem)), (h_out, .inl (cy_out, 1000, .inl f_out))] sz) := by
  refine Met.ofW (cc := cX11_shows) (maxL := 6) (ret := (some .int)) (by decide) rfl ?_
  intro p e s m args below meth c s₁ B hml hv
  obtain ⟨rfl, hsz, hP, hK, hD0, hN⟩ := hv
  have hx := B.exec
  have hb := B.bytes
  have hr := B.returns
  have hts := atoms_spec (ws := Ws yX11_shows cX11_shows 6 (some .int)) B.pre
  have hT : ∀ w ∈ WALL, w ∈ Ws yX11_shows cX11_shows 6 (some .int) := fun w h => List.mem_cons_of_mem _ h
  have hw := fun w (h : w ∈ WALL) => hts w (hT w h)
  have hown : s.vm.findClass RX11 = some m.cls := findClass_of_methodNamed B.named
  have hlocks := B.notSynchronized
  subst hsz
  have hD := hD0.self (sz := s.heap.size)
  generalize hAe : va_A [(h_mm, .inr (8, (mo75 v_mm (.ref h_nv) (.ref h_nn) (.ref h_na) (.ref h_nb) (.ref h_nc) (.ref h_let) (.ref h_isn) (.ref h_tem) (.ref h_bto) (.ref h_bin) (.int x_mm_goneTo) (.int x_mm_goneIn) (.ref h_cof) (.ref h_out) (.int x_mm_outs) (.ref h_wri) (.int x_mm_writes) (.int x_mm_room)))), (h_wri, .inl (cy_wri, 1000, .inl f_wri)), (h_let, .inl (cy_let, 256, .inl f_let)), (h_nv, .inl (cy_nv, 8000, .inl f_nv)), (h_nn, .inl (cy_nn, 8000, .inr (.inl f_nn))), (h_na, .inl (cy_na, 8000, .inl f_na)), (h_nb, .inl (cy_nb, 8000, .inl f_nb)), (h_nc, .inl (cy_nc, 8000, .inl f_nc)), (h_bto, .inl (cy_bto, 256, .inl f_bto)), (h_bin, .inl (cy_bin, 256, .inl f_bin)), (h_cof, .inl (cy_cof, 31, .inl f_cof)), (h_isn, .inl (cy_isn, 192, .inl f_isn)), (h_tem, .inl (cy_tem, 192, .inl f_tem)), (h_out, .inl (cy_out, 1000, .inl f_out))] s.heap.size = A at hD ⊢
  have hA : ∀ q : Nat, s.heap.size ≤ q → A q := fun q h => by rw [← hAe]; exact Or.inr h
  have hS : va_S A s.heap s.heap [] := va_S.rf
  have hl := lv_entry ([.ref h_mm, .int p1, .int p2, .int (-1), .int 300]) (n := 6) (Nat.le_of_ble_eq_true rfl)
  rw [lg_entry_eq]
  generalize (lg_sl ([.ref h_mm, .int p1, .int p2, .int (-1), .int 300]) ++ List.replicate (6 - (lg_sl ([.ref h_mm, .int p1, .int p2, .int (-1), .int 300])).length) Slot.unset).toArray = ls at hl ⊢
  have hl : lv_has ls 6 [(0, .ref h_mm), (1, .int p1), (2, .int p2), (3, .int (-1)), (4, .int 300)] := hl
  refine lv_aload_n hx hb dX11_shows_0 rfl (lv_at hl 0 rfl) ?_
  refine lv_iconst (v := 0) hx hb dX11_shows_1 (by decide) ?_
  refine va_put (D := (dC, dI)) (ci := 8) (v := .int 0) (ty := tyX11 65) (C := RX11) (T := TX11) (N := 71) hx hb hw iwX11 tyX11 tyX11_ok nmX11 hown hK hP hD hS 0 rfl rfl 65 (by decide) (hw _ w_f_X11_443) (fun _ h9 => h9) rfl (tyX11_ok 65 (by decide)) rfl rfl (Nat.le_of_ble_eq_true rfl) dX11_shows_2 (fun H locs hP hD hS => ?_)
  have hP : va_P (dC, dI) cls [(h_mm, .inr (8, (mo75 v_mm (.ref h_nv) (.ref h_nn) (.ref h_na) (.ref h_nb) (.ref h_nc) (.ref h_let) (.ref h_isn) (.ref h_tem) (.ref h_bto) (.ref h_bin) (.int x_mm_goneTo) (.int x_mm_goneIn) (.ref h_cof) (.ref h_out) (.int x_mm_outs) (.ref h_wri) (.int 0) (.int x_mm_room)))), (h_wri, .inl (cy_wri, 1000, .inl f_wri)), (h_let, .inl (cy_let, 256, .inl f_let)), (h_nv, .inl (cy_nv, 8000, .inl f_nv)), (h_nn, .inl (cy_nn, 8000, .inr (.inl f_nn))), (h_na, .inl (cy_na, 8000, .inl f_na)), (h_nb, .inl (cy_nb, 8000, .inl f_nb)), (h_nc, .inl (cy_nc, 8000, .inl f_nc)), (h_bto, .inl (cy_bto, 256, .inl f_bto)), (h_bin, .inl (cy_bin, 256, .inl f_bin)), (h_cof, .inl (cy_cof, 31, .inl f_cof)), (h_isn, .inl (cy_isn, 192, .inl f_isn)), (h_tem, .inl (cy_tem, 192, .inl f_tem)), (h_out, .inl (cy_out, 1000, .inl f_out))] H := hP
  have hD : va_D A [(h_mm, .inr (8, (mo75 v_mm (.ref h_nv) (.ref h_nn) (.ref h_na) (.ref h_nb) (.ref h_nc) (.ref h_let) (.ref h_isn) (.ref h_tem) (.ref h_bto) (.ref h_bin) (.int x_mm_goneTo) (.int x_mm_goneIn) (.ref h_cof) (.ref h_out) (.int x_mm_outs) (.ref h_wri) (.int 0) (.int x_mm_room)))), (h_wri, .inl (cy_wri, 1000, .inl f_wri)), (h_let, .inl (cy_let, 256, .inl f_let)), (h_nv, .inl (cy_nv, 8000, .inl f_nv)), (h_nn, .inl (cy_nn, 8000, .inr (.inl f_nn))), (h_na, .inl (cy_na, 8000, .inl f_na)), (h_nb, .inl (cy_nb, 8000, .inl f_nb)), (h_nc, .inl (cy_nc, 8000, .inl f_nc)), (h_bto, .inl (cy_bto, 256, .inl f_bto)), (h_bin, .inl (cy_bin, 256, .inl f_bin)), (h_cof, .inl (cy_cof, 31, .inl f_cof)), (h_isn, .inl (cy_isn, 192, .inl f_isn)), (h_tem, .inl (cy_tem, 192, .inl f_tem)), (h_out, .inl (cy_out, 1000, .inl f_out))] := hD
  refine lv_aload_n hx hb dX11_shows_5 rfl (lv_at hl 0 rfl) ?_
  refine lv_iload hx hb dX11_shows_6 (lv_at hl 4 rfl) ?_
  refine va_put (D := (dC, dI)) (ci := 8) (v := .int 300) (ty := tyX11 66) (C := RX11) (T := TX11) (N := 71) hx hb hw iwX11 tyX11 tyX11_ok nmX11 hown hK hP hD hS 0 rfl rfl 66 (by decide) (hw _ w_f_X11_446) (fun _ h9 => h9) rfl (tyX11_ok 66 (by decide)) rfl rfl (Nat.le_of_ble_eq_true rfl) dX11_shows_8 (fun H locs hP hD hS => ?_)
  have hP : va_P (dC, dI) cls [(h_mm, .inr (8, (mo75 v_mm (.ref h_nv) (.ref h_nn) (.ref h_na) (.ref h_nb) (.ref h_nc) (.ref h_let) (.ref h_isn) (.ref h_tem) (.ref h_bto) (.ref h_bin) (.int x_mm_goneTo) (.int x_mm_goneIn) (.ref h_cof) (.ref h_out) (.int x_mm_outs) (.ref h_wri) (.int 0) (.int 300)))), (h_wri, .inl (cy_wri, 1000, .inl f_wri)), (h_let, .inl (cy_let, 256, .inl f_let)), (h_nv, .inl (cy_nv, 8000, .inl f_nv)), (h_nn, .inl (cy_nn, 8000, .inr (.inl f_nn))), (h_na, .inl (cy_na, 8000, .inl f_na)), (h_nb, .inl (cy_nb, 8000, .inl f_nb)), (h_nc, .inl (cy_nc, 8000, .inl f_nc)), (h_bto, .inl (cy_bto, 256, .inl f_bto)), (h_bin, .inl (cy_bin, 256, .inl f_bin)), (h_cof, .inl (cy_cof, 31, .inl f_cof)), (h_isn, .inl (cy_isn, 192, .inl f_isn)), (h_tem, .inl (cy_tem, 192, .inl f_tem)), (h_out, .inl (cy_out, 1000, .inl f_out))] H := hP
  have hD : va_D A [(h_mm, .inr (8, (mo75 v_mm (.ref h_nv) (.ref h_nn) (.ref h_na) (.ref h_nb) (.ref h_nc) (.ref h_let) (.ref h_isn) (.ref h_tem) (.ref h_bto) (.ref h_bin) (.int x_mm_goneTo) (.int x_mm_goneIn) (.ref h_cof) (.ref h_out) (.int x_mm_outs) (.ref h_wri) (.int 0) (.int 300)))), (h_wri, .inl (cy_wri, 1000, .inl f_wri)), (h_let, .inl (cy_let, 256, .inl f_let)), (h_nv, .inl (cy_nv, 8000, .inl f_nv)), (h_nn, .inl (cy_nn, 8000, .inr (.inl f_nn))), (h_na, .inl (cy_na, 8000, .inl f_na)), (h_nb, .inl (cy_nb, 8000, .inl f_nb)), (h_nc, .inl (cy_nc, 8000, .inl f_nc)), (h_bto, .inl (cy_bto, 256, .inl f_bto)), (h_bin, .inl (cy_bin, 256, .inl f_bin)), (h_cof, .inl (cy_cof, 31, .inl f_cof)), (h_isn, .inl (cy_isn, 192, .inl f_isn)), (h_tem, .inl (cy_tem, 192, .inl f_tem)), (h_out, .inl (cy_out, 1000, .inl f_out))] := hD
  refine lv_aload_n hx hb dX11_shows_11 rfl (lv_at hl 0 rfl) ?_
  refine va_get (D := (dC, dI)) (ci := 8) (v := .ref h_isn) (C := RX11) (T := TX11) (N := 71) hx hb hw iwX11 hown hK hP 0 rfl rfl 11 (by decide) (hw _ w_f_X11_145) (fun _ h9 => h9) rfl dX11_shows_12 ?_
  refine lv_iload_n hx hb dX11_shows_15 rfl (lv_at hl 1 rfl) ?_
  refine va_zald hx hb hK hP 11 10 rfl rfl (i := p1) (vp_in_iff.mpr (by omega)) dX11_shows_16 ?_
  refine lv_topi (fun z1 ez1 => ?_)
  refine lv_if_eq (tgt := 26) hx hb dX11_shows_17 (by decide) (fun c2 => ?_) (fun c2 => ?_)
  · have kc2 := (cv_eq (rfl : (z1).toInt = (z1).toInt) (by decide : (0 : Int32).toInt = 0)).mp c2
    refine lv_aload_n hx hb dX11_shows_26 rfl (lv_at hl 0 rfl) ?_
    refine lv_aload_n hx hb dX11_shows_27 rfl (lv_at hl 0 rfl) ?_
    refine va_get (D := (dC, dI)) (ci := 8) (v := .ref h_tem) (C := RX11) (T := TX11) (N := 71) hx hb hw iwX11 hown hK hP 0 rfl rfl 12 (by decide) (hw _ w_f_X11_152) (fun _ h9 => h9) rfl dX11_shows_28 ?_
    refine lv_iload_n hx hb dX11_shows_31 rfl (lv_at hl 1 rfl) ?_
    refine va_iald hx hb hK hP 12 11 rfl rfl (i := p1) (vp_in_iff.mpr (by omega)) dX11_shows_32 ?_
    refine lv_topi (fun z3 ez3 => ?_)
    have rz3 : 0 ≤ (z3).toInt ∧ (z3).toInt ≤ 7999 := by rw [ez3]; exact hf_tem _
    have tq9 : f_tem (p1).toInt.toNat = z3 := by rw [← clamp_nat (i := p1) (by omega), ← ez3]
    have tr9 : 0 ≤ (z3).toInt ∧ (z3).toInt < N ∧ hz (z3).toInt.toNat = 7 := by rw [← tq9]; omega
    refine lv_iload_n hx hb dX11_shows_33 rfl (lv_at hl 2 rfl) ?_
    refine lv_iload_n hx hb dX11_shows_34 rfl (lv_at hl 3 rfl) ?_
    have l09 : ([] : List Nat).length = 0 := rfl
    have cstm1 : ((-1) : Int32).toInt = -1 := by decide
    have hPc := hP.sub (ws' := [(h_mm, .inr (8, (mo75 v_mm (.ref h_nv) (.ref h_nn) (.ref h_na) (.ref h_nb) (.ref h_nc) (.ref h_let) (.ref h_isn) (.ref h_tem) (.ref h_bto) (.ref h_bin) (.int x_mm_goneTo) (.int x_mm_goneIn) (.ref h_cof) (.ref h_out) (.int x_mm_outs) (.ref h_wri) (.int 0) (.int 300)))), (h_wri, .inl (cy_wri, 1000, .inl f_wri)), (h_let, .inl (cy_let, 256, .inl f_let)), (h_nv, .inl (cy_nv, 8000, .inl f_nv)), (h_nn, .inl (cy_nn, 8000, .inr (.inl f_nn))), (h_na, .inl (cy_na, 8000, .inl f_na)), (h_nb, .inl (cy_nb, 8000, .inl f_nb)), (h_nc, .inl (cy_nc, 8000, .inl f_nc)), (h_bto, .inl (cy_bto, 256, .inl f_bto)), (h_bin, .inl (cy_bin, 256, .inl f_bin)), (h_cof, .inl (cy_cof, 31, .inl f_cof))]) [0, 1, 2, 3, 4, 5, 6, 7, 8, 9, 10] rfl
    have hDc := hD.sub (ws' := [(h_mm, .inr (8, (mo75 v_mm (.ref h_nv) (.ref h_nn) (.ref h_na) (.ref h_nb) (.ref h_nc) (.ref h_let) (.ref h_isn) (.ref h_tem) (.ref h_bto) (.ref h_bin) (.int x_mm_goneTo) (.int x_mm_goneIn) (.ref h_cof) (.ref h_out) (.int x_mm_outs) (.ref h_wri) (.int 0) (.int 300)))), (h_wri, .inl (cy_wri, 1000, .inl f_wri)), (h_let, .inl (cy_let, 256, .inl f_let)), (h_nv, .inl (cy_nv, 8000, .inl f_nv)), (h_nn, .inl (cy_nn, 8000, .inr (.inl f_nn))), (h_na, .inl (cy_na, 8000, .inl f_na)), (h_nb, .inl (cy_nb, 8000, .inl f_nb)), (h_nc, .inl (cy_nc, 8000, .inl f_nc)), (h_bto, .inl (cy_bto, 256, .inl f_bto)), (h_bin, .inl (cy_bin, 256, .inl f_bin)), (h_cof, .inl (cy_cof, 31, .inl f_cof))]) [0, 1, 2, 3, 4, 5, 6, 7, 8, 9, 10] (by decide) rfl
    have hKc := hK.sub (tys' := [(cy_wri, .int), (cy_let, .int), (cy_nv, .int), (cy_nn, .long), (cy_na, .int), (cy_nb, .int), (cy_nc, .int), (cy_bto, .int), (cy_bin, .int), (cy_cof, .int)]) [0, 1, 2, 3, 4, 5, 6, 7, 8, 9] rfl
    have hFc := va_free (wc := [(h_mm, .inr (8, (mo75 v_mm (.ref h_nv) (.ref h_nn) (.ref h_na) (.ref h_nb) (.ref h_nc) (.ref h_let) (.ref h_isn) (.ref h_tem) (.ref h_bto) (.ref h_bin) (.int x_mm_goneTo) (.int x_mm_goneIn) (.ref h_cof) (.ref h_out) (.int x_mm_outs) (.ref h_wri) (.int 0) (.int 300)))), (h_wri, .inl (cy_wri, 1000, .inl f_wri)), (h_let, .inl (cy_let, 256, .inl f_let)), (h_nv, .inl (cy_nv, 8000, .inl f_nv)), (h_nn, .inl (cy_nn, 8000, .inr (.inl f_nn))), (h_na, .inl (cy_na, 8000, .inl f_na)), (h_nb, .inl (cy_nb, 8000, .inl f_nb)), (h_nc, .inl (cy_nc, 8000, .inl f_nc)), (h_bto, .inl (cy_bto, 256, .inl f_bto)), (h_bin, .inl (cy_bin, 256, .inl f_bin)), (h_cof, .inl (cy_cof, 31, .inl f_cof))]) hD hS hA [0, 1, 2, 3, 4, 5, 6, 7, 8, 9, 10] rfl
    refine va_callv (va_runV (As := [.int z3, .int p2, .int (-1)]) (rest := []) ⟨hx, hb, hml, hown, hts⟩ (c_X11_saysTerm_1 l 1544 dC dI H.size h_mm h_wri h_let h_nv h_nn h_na h_nb h_nc h_bto h_bin h_cof (fun k => List.getD (mo75 v_mm (.ref h_nv) (.ref h_nn) (.ref h_na) (.ref h_nb) (.ref h_nc) (.ref h_let) (.ref h_isn) (.ref h_tem) (.ref h_bto) (.ref h_bin) (.int x_mm_goneTo) (.int x_mm_goneIn) (.ref h_cof) (.ref h_out) (.int x_mm_outs) (.ref h_wri) (.int 0) (.int 300)) k .null) x_mm_goneTo x_mm_goneIn 0 300 cy_wri f_wri cy_let f_let cy_nv f_nv cy_nn f_nn cy_na f_na cy_nb f_nb cy_nc f_nc cy_bto f_bto cy_bin f_bin cy_cof f_cof z3 p2 (-1) i0 i1 N hz ([]) (by omega) (by omega) (by decide) (by decide) hf_nv hf_na hf_nb hf_nc hf_bto hf_bin hf_cof (by omega) (by omega) (by omega) (by omega) (by omega) (by omega) hn_bi pa_nil) (cwV 3 hts (gv hT w_m_X11_459 w_instanceMethod_X11_saysTerm ws_sel_X11_saysTerm w_ini_X11 w_code_X11_saysTerm) rfl rfl rfl (by decide +kernel) ⟨(Nat.le_of_ble_eq_true rfl), (Nat.le_of_ble_eq_true rfl)⟩) ⟨pre_blind, va_recv hK hP (ci := 8) (q0 := 0) rfl rfl, pre_of hPc hKc hDc hN⟩ rfl rfl hl.1 rfl (lv_room (Nat.le_of_ble_eq_true rfl)) dX11_shows_35 ⟨(Nat.le_of_ble_eq_true rfl), (Nat.le_of_ble_eq_true rfl)⟩) hS (fun q _ h => hFc q h) hFc (fun u t H locs ht hvm hq hB hz1 hk1 hS => ?_)
    obtain ⟨z5, z6, z7, f8⟩ := u
    obtain ⟨hP1, hD1⟩ := hB
    rw [ht] at hP1
    obtain ⟨hP, hD⟩ := va_join (wr := [(h_isn, .inl (cy_isn, 192, .inl f_isn)), (h_tem, .inl (cy_tem, 192, .inl f_tem)), (h_out, .inl (cy_out, 1000, .inl f_out))]) (w1 := [(h_mm, .inr (8, (mo75 v_mm (.ref h_nv) (.ref h_nn) (.ref h_na) (.ref h_nb) (.ref h_nc) (.ref h_let) (.ref h_isn) (.ref h_tem) (.ref h_bto) (.ref h_bin) (.int z5) (.int z6) (.ref h_cof) (.ref h_out) (.int x_mm_outs) (.ref h_wri) (.int z7) (.int 300)))), (h_wri, .inl (cy_wri, 1000, .inl f8)), (h_let, .inl (cy_let, 256, .inl f_let)), (h_nv, .inl (cy_nv, 8000, .inl f_nv)), (h_nn, .inl (cy_nn, 8000, .inr (.inl f_nn))), (h_na, .inl (cy_na, 8000, .inl f_na)), (h_nb, .inl (cy_nb, 8000, .inl f_nb)), (h_nc, .inl (cy_nc, 8000, .inl f_nc)), (h_bto, .inl (cy_bto, 256, .inl f_bto)), (h_bin, .inl (cy_bin, 256, .inl f_bin)), (h_cof, .inl (cy_cof, 31, .inl f_cof))]) hP hD [0, 1, 2, 3, 4, 5, 6, 7, 8, 9, 10] [11, 12, 13] rfl rfl (by decide) (by decide) hk1 hFc hP1 hD1
    have hP : va_P (dC, dI) cls [(h_isn, .inl (cy_isn, 192, .inl f_isn)), (h_tem, .inl (cy_tem, 192, .inl f_tem)), (h_out, .inl (cy_out, 1000, .inl f_out)), (h_mm, .inr (8, (mo75 v_mm (.ref h_nv) (.ref h_nn) (.ref h_na) (.ref h_nb) (.ref h_nc) (.ref h_let) (.ref h_isn) (.ref h_tem) (.ref h_bto) (.ref h_bin) (.int z5) (.int z6) (.ref h_cof) (.ref h_out) (.int x_mm_outs) (.ref h_wri) (.int z7) (.int 300)))), (h_wri, .inl (cy_wri, 1000, .inl f8)), (h_let, .inl (cy_let, 256, .inl f_let)), (h_nv, .inl (cy_nv, 8000, .inl f_nv)), (h_nn, .inl (cy_nn, 8000, .inr (.inl f_nn))), (h_na, .inl (cy_na, 8000, .inl f_na)), (h_nb, .inl (cy_nb, 8000, .inl f_nb)), (h_nc, .inl (cy_nc, 8000, .inl f_nc)), (h_bto, .inl (cy_bto, 256, .inl f_bto)), (h_bin, .inl (cy_bin, 256, .inl f_bin)), (h_cof, .inl (cy_cof, 31, .inl f_cof))] H := hP
    have hD : va_D A [(h_isn, .inl (cy_isn, 192, .inl f_isn)), (h_tem, .inl (cy_tem, 192, .inl f_tem)), (h_out, .inl (cy_out, 1000, .inl f_out)), (h_mm, .inr (8, (mo75 v_mm (.ref h_nv) (.ref h_nn) (.ref h_na) (.ref h_nb) (.ref h_nc) (.ref h_let) (.ref h_isn) (.ref h_tem) (.ref h_bto) (.ref h_bin) (.int z5) (.int z6) (.ref h_cof) (.ref h_out) (.int x_mm_outs) (.ref h_wri) (.int z7) (.int 300)))), (h_wri, .inl (cy_wri, 1000, .inl f8)), (h_let, .inl (cy_let, 256, .inl f_let)), (h_nv, .inl (cy_nv, 8000, .inl f_nv)), (h_nn, .inl (cy_nn, 8000, .inr (.inl f_nn))), (h_na, .inl (cy_na, 8000, .inl f_na)), (h_nb, .inl (cy_nb, 8000, .inl f_nb)), (h_nc, .inl (cy_nc, 8000, .inl f_nc)), (h_bto, .inl (cy_bto, 256, .inl f_bto)), (h_bin, .inl (cy_bin, 256, .inl f_bin)), (h_cof, .inl (cy_cof, 31, .inl f_cof))] := hD
    obtain ⟨k9, k10, k11⟩ := hq
    have k9 : 0 ≤ ((z5)).toInt ∧ ((z5)).toInt ≤ 7999 := k9
    have k10 : 0 ≤ ((z6)).toInt ∧ ((z6)).toInt ≤ 31 := k10
    have k11 : 0 ≤ ((z7)).toInt ∧ ((z7)).toInt ≤ 1000 := k11
    refine lv_aload_n hx hb dX11_shows_38 rfl (lv_at hl 0 rfl) ?_
    refine va_get (D := (dC, dI)) (ci := 8) (v := .int z7) (C := RX11) (T := TX11) (N := 71) hx hb hw iwX11 hown hK hP 3 rfl rfl 65 (by decide) (hw _ w_f_X11_443) (fun _ h9 => h9) rfl dX11_shows_39 ?_
    refine lv_iload hx hb dX11_shows_42 (lv_at hl 4 rfl) ?_
    refine lv_icmp_le (tgt := 49) hx hb dX11_shows_44 (by decide) (fun c12 => ?_) (fun c12 => ?_)
    · have kc12 := (cv_le (rfl : (z7).toInt = (z7).toInt) (by decide : (300 : Int32).toInt = 300)).mp c12
      refine lv_iconst (v := 0) hx hb dX11_shows_49 (by decide) ?_
      refine lv_istore (lv' := [(5, .int 0), (0, .ref h_mm), (1, .int p1), (2, .int p2), (3, .int (-1)), (4, .int 300)]) hx hb dX11_shows_50 hl (by decide) rfl (fun ls hl => ?_)
      have lp15 : ∀ (n : Nat) (x13 : Int32) (f14 : Nat → Int32) (H : Heap) (locs : List Loc) (ls : Array Slot), (0 ≤ (x13).toInt ∧ (x13).toInt ≤ 1000) → ((z7).toInt ≤ 300) → (1000 - (x13).toInt).toNat + 1 ≤ n → va_P (dC, dI) cls [(h_isn, .inl (cy_isn, 192, .inl f_isn)), (h_tem, .inl (cy_tem, 192, .inl f_tem)), (h_out, .inl (cy_out, 1000, .inl f14)), (h_mm, .inr (8, (mo75 v_mm (.ref h_nv) (.ref h_nn) (.ref h_na) (.ref h_nb) (.ref h_nc) (.ref h_let) (.ref h_isn) (.ref h_tem) (.ref h_bto) (.ref h_bin) (.int z5) (.int z6) (.ref h_cof) (.ref h_out) (.int x_mm_outs) (.ref h_wri) (.int z7) (.int 300)))), (h_wri, .inl (cy_wri, 1000, .inl f8)), (h_let, .inl (cy_let, 256, .inl f_let)), (h_nv, .inl (cy_nv, 8000, .inl f_nv)), (h_nn, .inl (cy_nn, 8000, .inr (.inl f_nn))), (h_na, .inl (cy_na, 8000, .inl f_na)), (h_nb, .inl (cy_nb, 8000, .inl f_nb)), (h_nc, .inl (cy_nc, 8000, .inl f_nc)), (h_bto, .inl (cy_bto, 256, .inl f_bto)), (h_bin, .inl (cy_bin, 256, .inl f_bin)), (h_cof, .inl (cy_cof, 31, .inl f_cof))] H → va_D A [(h_isn, .inl (cy_isn, 192, .inl f_isn)), (h_tem, .inl (cy_tem, 192, .inl f_tem)), (h_out, .inl (cy_out, 1000, .inl f14)), (h_mm, .inr (8, (mo75 v_mm (.ref h_nv) (.ref h_nn) (.ref h_na) (.ref h_nb) (.ref h_nc) (.ref h_let) (.ref h_isn) (.ref h_tem) (.ref h_bto) (.ref h_bin) (.int z5) (.int z6) (.ref h_cof) (.ref h_out) (.int x_mm_outs) (.ref h_wri) (.int z7) (.int 300)))), (h_wri, .inl (cy_wri, 1000, .inl f8)), (h_let, .inl (cy_let, 256, .inl f_let)), (h_nv, .inl (cy_nv, 8000, .inl f_nv)), (h_nn, .inl (cy_nn, 8000, .inr (.inl f_nn))), (h_na, .inl (cy_na, 8000, .inl f_na)), (h_nb, .inl (cy_nb, 8000, .inl f_nb)), (h_nc, .inl (cy_nc, 8000, .inl f_nc)), (h_bto, .inl (cy_bto, 256, .inl f_bto)), (h_bin, .inl (cy_bin, 256, .inl f_bin)), (h_cof, .inl (cy_cof, 31, .inl f_cof))] → va_S A s.heap H locs → lv_has ls 6 [(0, .ref h_mm), (1, .int p1), (2, .int p2), (3, .int (-1)), (4, .int 300), (5, .int x13)] → W p l e ({ frames := 1560, cells := 0, slots := 0, locals := 40499 } : Room) s m ([.ref h_mm, .int p1, .int p2, .int (-1), .int 300] : List Value).toArray below meth c H locs 0 0 (MQ below (va_Qi (fun (r : Int32) (u : (Int32) × (Int32) × (Int32) × (Int32) × (Int32) × (Nat → Int32) × (Nat → Int32)) => (0 ≤ (u.1).toInt ∧ (u.1).toInt ≤ 7999) ∧ (0 ≤ (u.2.1).toInt ∧ (u.2.1).toInt ≤ 31) ∧ (0 ≤ (u.2.2.1).toInt ∧ (u.2.2.1).toInt ≤ 1000) ∧ (0 ≤ (u.2.2.2.1).toInt ∧ (u.2.2.2.1).toInt ≤ 1000) ∧ (0 ≤ (u.2.2.2.2.1).toInt ∧ (u.2.2.2.2.1).toInt ≤ 998)) (fun (u : (Int32) × (Int32) × (Int32) × (Int32) × (Int32) × (Nat → Int32) × (Nat → Int32)) (t : State) => va_P (dC, dI) cls [(h_mm, .inr (8, (mo75 v_mm (.ref h_nv) (.ref h_nn) (.ref h_na) (.ref h_nb) (.ref h_nc) (.ref h_let) (.ref h_isn) (.ref h_tem) (.ref h_bto) (.ref h_bin) (.int u.1) (.int u.2.1) (.ref h_cof) (.ref h_out) (.int u.2.2.1) (.ref h_wri) (.int u.2.2.2.1) (.int u.2.2.2.2.1)))), (h_wri, .inl (cy_wri, 1000, .inl u.2.2.2.2.2.1)), (h_let, .inl (cy_let, 256, .inl f_let)), (h_nv, .inl (cy_nv, 8000, .inl f_nv)), (h_nn, .inl (cy_nn, 8000, .inr (.inl f_nn))), (h_na, .inl (cy_na, 8000, .inl f_na)), (h_nb, .inl (cy_nb, 8000, .inl f_nb)), (h_nc, .inl (cy_nc, 8000, .inl f_nc)), (h_bto, .inl (cy_bto, 256, .inl f_bto)), (h_bin, .inl (cy_bin, 256, .inl f_bin)), (h_cof, .inl (cy_cof, 31, .inl f_cof)), (h_isn, .inl (cy_isn, 192, .inl f_isn)), (h_tem, .inl (cy_tem, 192, .inl f_tem)), (h_out, .inl (cy_out, 1000, .inl u.2.2.2.2.2.2))] t.heap ∧ va_D A [(h_mm, .inr (8, (mo75 v_mm (.ref h_nv) (.ref h_nn) (.ref h_na) (.ref h_nb) (.ref h_nc) (.ref h_let) (.ref h_isn) (.ref h_tem) (.ref h_bto) (.ref h_bin) (.int u.1) (.int u.2.1) (.ref h_cof) (.ref h_out) (.int u.2.2.1) (.ref h_wri) (.int u.2.2.2.1) (.int u.2.2.2.2.1)))), (h_wri, .inl (cy_wri, 1000, .inl u.2.2.2.2.2.1)), (h_let, .inl (cy_let, 256, .inl f_let)), (h_nv, .inl (cy_nv, 8000, .inl f_nv)), (h_nn, .inl (cy_nn, 8000, .inr (.inl f_nn))), (h_na, .inl (cy_na, 8000, .inl f_na)), (h_nb, .inl (cy_nb, 8000, .inl f_nb)), (h_nc, .inl (cy_nc, 8000, .inl f_nc)), (h_bto, .inl (cy_bto, 256, .inl f_bto)), (h_bin, .inl (cy_bin, 256, .inl f_bin)), (h_cof, .inl (cy_cof, 31, .inl f_cof)), (h_isn, .inl (cy_isn, 192, .inl f_isn)), (h_tem, .inl (cy_tem, 192, .inl f_tem)), (h_out, .inl (cy_out, 1000, .inl u.2.2.2.2.2.2))]) A) ([.ref h_mm, .int p1, .int p2, .int (-1), .int 300] : List Value).toArray s 0 0 A) (F0 m 52 ls []) := by
        intro n
        induction n with
        | zero => intro x13 f14 H locs ls klp15_0 klp15_1 hm hP hD hS hl; exact False.elim (by omega)
        | succ n ih => 
          intro x13 f14 H locs ls klp15_0 klp15_1 hm hP hD hS hl
          have ih16 := ih
          clear ih
          refine lv_iload hx hb dX11_shows_52 (lv_at hl 5 rfl) ?_
          refine lv_aload_n hx hb dX11_shows_54 rfl (lv_at hl 0 rfl) ?_
          refine va_get (D := (dC, dI)) (ci := 8) (v := .int z7) (C := RX11) (T := TX11) (N := 71) hx hb hw iwX11 hown hK hP 3 rfl rfl 65 (by decide) (hw _ w_f_X11_443) (fun _ h9 => h9) rfl dX11_shows_55 ?_
          refine lv_icmp_ge (tgt := 81) hx hb dX11_shows_58 (by decide) (fun c17 => ?_) (fun c17 => ?_)
          · have kc17 := (cv_le (rfl : (z7).toInt = (z7).toInt) (rfl : (x13).toInt = (x13).toInt)).mp c17
            refine lv_aload_n hx hb dX11_shows_81 rfl (lv_at hl 0 rfl) ?_
            refine lv_aload_n hx hb dX11_shows_82 rfl (lv_at hl 0 rfl) ?_
            refine va_get (D := (dC, dI)) (ci := 8) (v := .int z7) (C := RX11) (T := TX11) (N := 71) hx hb hw iwX11 hown hK hP 3 rfl rfl 65 (by decide) (hw _ w_f_X11_443) (fun _ h9 => h9) rfl dX11_shows_83 ?_
            refine va_put (D := (dC, dI)) (ci := 8) (v := .int z7) (ty := tyX11 63) (C := RX11) (T := TX11) (N := 71) hx hb hw iwX11 tyX11 tyX11_ok nmX11 hown hK hP hD hS 3 rfl rfl 63 (by decide) (hw _ w_f_X11_462) (fun _ h9 => h9) rfl (tyX11_ok 63 (by decide)) rfl rfl (Nat.le_of_ble_eq_true rfl) dX11_shows_86 (fun H locs hP hD hS => ?_)
            have hP : va_P (dC, dI) cls [(h_isn, .inl (cy_isn, 192, .inl f_isn)), (h_tem, .inl (cy_tem, 192, .inl f_tem)), (h_out, .inl (cy_out, 1000, .inl f14)), (h_mm, .inr (8, (mo75 v_mm (.ref h_nv) (.ref h_nn) (.ref h_na) (.ref h_nb) (.ref h_nc) (.ref h_let) (.ref h_isn) (.ref h_tem) (.ref h_bto) (.ref h_bin) (.int z5) (.int z6) (.ref h_cof) (.ref h_out) (.int z7) (.ref h_wri) (.int z7) (.int 300)))), (h_wri, .inl (cy_wri, 1000, .inl f8)), (h_let, .inl (cy_let, 256, .inl f_let)), (h_nv, .inl (cy_nv, 8000, .inl f_nv)), (h_nn, .inl (cy_nn, 8000, .inr (.inl f_nn))), (h_na, .inl (cy_na, 8000, .inl f_na)), (h_nb, .inl (cy_nb, 8000, .inl f_nb)), (h_nc, .inl (cy_nc, 8000, .inl f_nc)), (h_bto, .inl (cy_bto, 256, .inl f_bto)), (h_bin, .inl (cy_bin, 256, .inl f_bin)), (h_cof, .inl (cy_cof, 31, .inl f_cof))] H := hP
            have hD : va_D A [(h_isn, .inl (cy_isn, 192, .inl f_isn)), (h_tem, .inl (cy_tem, 192, .inl f_tem)), (h_out, .inl (cy_out, 1000, .inl f14)), (h_mm, .inr (8, (mo75 v_mm (.ref h_nv) (.ref h_nn) (.ref h_na) (.ref h_nb) (.ref h_nc) (.ref h_let) (.ref h_isn) (.ref h_tem) (.ref h_bto) (.ref h_bin) (.int z5) (.int z6) (.ref h_cof) (.ref h_out) (.int z7) (.ref h_wri) (.int z7) (.int 300)))), (h_wri, .inl (cy_wri, 1000, .inl f8)), (h_let, .inl (cy_let, 256, .inl f_let)), (h_nv, .inl (cy_nv, 8000, .inl f_nv)), (h_nn, .inl (cy_nn, 8000, .inr (.inl f_nn))), (h_na, .inl (cy_na, 8000, .inl f_na)), (h_nb, .inl (cy_nb, 8000, .inl f_nb)), (h_nc, .inl (cy_nc, 8000, .inl f_nc)), (h_bto, .inl (cy_bto, 256, .inl f_bto)), (h_bin, .inl (cy_bin, 256, .inl f_bin)), (h_cof, .inl (cy_cof, 31, .inl f_cof))] := hD
            refine lv_aload_n hx hb dX11_shows_89 rfl (lv_at hl 0 rfl) ?_
            refine va_get (D := (dC, dI)) (ci := 8) (v := .int z7) (C := RX11) (T := TX11) (N := 71) hx hb hw iwX11 hown hK hP 3 rfl rfl 63 (by decide) (hw _ w_f_X11_462) (fun _ h9 => h9) rfl dX11_shows_90 ?_
            have hP : va_P (dC, dI) cls [(h_mm, .inr (8, (mo75 v_mm (.ref h_nv) (.ref h_nn) (.ref h_na) (.ref h_nb) (.ref h_nc) (.ref h_let) (.ref h_isn) (.ref h_tem) (.ref h_bto) (.ref h_bin) (.int z5) (.int z6) (.ref h_cof) (.ref h_out) (.int z7) (.ref h_wri) (.int z7) (.int 300)))), (h_wri, .inl (cy_wri, 1000, .inl f8)), (h_let, .inl (cy_let, 256, .inl f_let)), (h_nv, .inl (cy_nv, 8000, .inl f_nv)), (h_nn, .inl (cy_nn, 8000, .inr (.inl f_nn))), (h_na, .inl (cy_na, 8000, .inl f_na)), (h_nb, .inl (cy_nb, 8000, .inl f_nb)), (h_nc, .inl (cy_nc, 8000, .inl f_nc)), (h_bto, .inl (cy_bto, 256, .inl f_bto)), (h_bin, .inl (cy_bin, 256, .inl f_bin)), (h_cof, .inl (cy_cof, 31, .inl f_cof)), (h_isn, .inl (cy_isn, 192, .inl f_isn)), (h_tem, .inl (cy_tem, 192, .inl f_tem)), (h_out, .inl (cy_out, 1000, .inl f14))] H := hP.sub [3, 4, 5, 6, 7, 8, 9, 10, 11, 12, 13, 0, 1, 2] rfl
            have hD : va_D A [(h_mm, .inr (8, (mo75 v_mm (.ref h_nv) (.ref h_nn) (.ref h_na) (.ref h_nb) (.ref h_nc) (.ref h_let) (.ref h_isn) (.ref h_tem) (.ref h_bto) (.ref h_bin) (.int z5) (.int z6) (.ref h_cof) (.ref h_out) (.int z7) (.ref h_wri) (.int z7) (.int 300)))), (h_wri, .inl (cy_wri, 1000, .inl f8)), (h_let, .inl (cy_let, 256, .inl f_let)), (h_nv, .inl (cy_nv, 8000, .inl f_nv)), (h_nn, .inl (cy_nn, 8000, .inr (.inl f_nn))), (h_na, .inl (cy_na, 8000, .inl f_na)), (h_nb, .inl (cy_nb, 8000, .inl f_nb)), (h_nc, .inl (cy_nc, 8000, .inl f_nc)), (h_bto, .inl (cy_bto, 256, .inl f_bto)), (h_bin, .inl (cy_bin, 256, .inl f_bin)), (h_cof, .inl (cy_cof, 31, .inl f_cof)), (h_isn, .inl (cy_isn, 192, .inl f_isn)), (h_tem, .inl (cy_tem, 192, .inl f_tem)), (h_out, .inl (cy_out, 1000, .inl f14))] := hD.sub [3, 4, 5, 6, 7, 8, 9, 10, 11, 12, 13, 0, 1, 2] (by decide) rfl
            refine W.widen (k := 0) (n := 0) (Nat.le_of_ble_eq_true rfl) (Nat.le_of_ble_eq_true rfl) ?_
            have cst300 : (300 : Int32).toInt = 300 := by decide
            have w18 : 0 ≤ ((z5)).toInt ∧ ((z5)).toInt ≤ 7999 := by omega
            have w19 : 0 ≤ ((z6)).toInt ∧ ((z6)).toInt ≤ 31 := by omega
            have w20 : 0 ≤ ((z7)).toInt ∧ ((z7)).toInt ≤ 1000 := by omega
            have w21 : 0 ≤ ((z7)).toInt ∧ ((z7)).toInt ≤ 1000 := by omega
            have w22 : 0 ≤ ((300 : Int32)).toInt ∧ ((300 : Int32)).toInt ≤ 998 := by omega
            exact W.iret (v := z7) hx hb hr (fun t ht hW => ⟨⟨z7, (z5, z6, z7, z7, 300, f8, f14), rfl, ⟨w18, w19, w20, w21, w22⟩, by rw [ht]; exact hP, hD⟩, hS.F ht⟩) hS.2.2 dX11_shows_93
          · have kc17 := (not_congr (cv_le (rfl : (z7).toInt = (z7).toInt) (rfl : (x13).toInt = (x13).toInt))).mp c17
            refine lv_aload_n hx hb dX11_shows_61 rfl (lv_at hl 0 rfl) ?_
            refine va_get (D := (dC, dI)) (ci := 8) (v := .ref h_out) (C := RX11) (T := TX11) (N := 71) hx hb hw iwX11 hown hK hP 3 rfl rfl 62 (by decide) (hw _ w_f_X11_243) (fun _ h9 => h9) rfl dX11_shows_62 ?_
            refine lv_iload hx hb dX11_shows_65 (lv_at hl 5 rfl) ?_
            refine lv_aload_n hx hb dX11_shows_67 rfl (lv_at hl 0 rfl) ?_
            refine va_get (D := (dC, dI)) (ci := 8) (v := .ref h_wri) (C := RX11) (T := TX11) (N := 71) hx hb hw iwX11 hown hK hP 3 rfl rfl 64 (by decide) (hw _ w_f_X11_246) (fun _ h9 => h9) rfl dX11_shows_68 ?_
            refine lv_iload hx hb dX11_shows_71 (lv_at hl 5 rfl) ?_
            refine va_iald hx hb hK hP 4 0 rfl rfl (i := x13) (vp_in_iff.mpr (by omega)) dX11_shows_73 ?_
            refine lv_topi (fun z23 ez23 => ?_)
            refine va_iast hx hb hK hP hD hS 2 12 rfl rfl (i := x13) (x := z23) (vp_in_iff.mpr (by omega)) dX11_shows_74 (fun H locs hP hD hS => ?_)
            obtain ⟨f24, ef24⟩ : ∃ g : Nat → Int32, g = upd f14 (Int32.toNatClampNeg x13) z23 := ⟨_, rfl⟩
            have hP : va_P (dC, dI) cls [(h_isn, .inl (cy_isn, 192, .inl f_isn)), (h_tem, .inl (cy_tem, 192, .inl f_tem)), (h_out, .inl (cy_out, 1000, .inl f24)), (h_mm, .inr (8, (mo75 v_mm (.ref h_nv) (.ref h_nn) (.ref h_na) (.ref h_nb) (.ref h_nc) (.ref h_let) (.ref h_isn) (.ref h_tem) (.ref h_bto) (.ref h_bin) (.int z5) (.int z6) (.ref h_cof) (.ref h_out) (.int x_mm_outs) (.ref h_wri) (.int z7) (.int 300)))), (h_wri, .inl (cy_wri, 1000, .inl f8)), (h_let, .inl (cy_let, 256, .inl f_let)), (h_nv, .inl (cy_nv, 8000, .inl f_nv)), (h_nn, .inl (cy_nn, 8000, .inr (.inl f_nn))), (h_na, .inl (cy_na, 8000, .inl f_na)), (h_nb, .inl (cy_nb, 8000, .inl f_nb)), (h_nc, .inl (cy_nc, 8000, .inl f_nc)), (h_bto, .inl (cy_bto, 256, .inl f_bto)), (h_bin, .inl (cy_bin, 256, .inl f_bin)), (h_cof, .inl (cy_cof, 31, .inl f_cof))] H := by rw [ef24]; exact hP
            have hD : va_D A [(h_isn, .inl (cy_isn, 192, .inl f_isn)), (h_tem, .inl (cy_tem, 192, .inl f_tem)), (h_out, .inl (cy_out, 1000, .inl f24)), (h_mm, .inr (8, (mo75 v_mm (.ref h_nv) (.ref h_nn) (.ref h_na) (.ref h_nb) (.ref h_nc) (.ref h_let) (.ref h_isn) (.ref h_tem) (.ref h_bto) (.ref h_bin) (.int z5) (.int z6) (.ref h_cof) (.ref h_out) (.int x_mm_outs) (.ref h_wri) (.int z7) (.int 300)))), (h_wri, .inl (cy_wri, 1000, .inl f8)), (h_let, .inl (cy_let, 256, .inl f_let)), (h_nv, .inl (cy_nv, 8000, .inl f_nv)), (h_nn, .inl (cy_nn, 8000, .inr (.inl f_nn))), (h_na, .inl (cy_na, 8000, .inl f_na)), (h_nb, .inl (cy_nb, 8000, .inl f_nb)), (h_nc, .inl (cy_nc, 8000, .inl f_nc)), (h_bto, .inl (cy_bto, 256, .inl f_bto)), (h_bin, .inl (cy_bin, 256, .inl f_bin)), (h_cof, .inl (cy_cof, 31, .inl f_cof))] := by rw [ef24]; exact hD
            clear ef24
            obtain ⟨z25, ez25⟩ : ∃ y : Int32, y = x13 + 1 := ⟨_, rfl⟩
            have tz25 : (z25).toInt = (x13).toInt + 1 := by rw [ez25]; exact i_add rfl (by decide) (by omega)
            refine lv_iinc (v := z25) (lv' := [(5, .int z25), (0, .ref h_mm), (1, .int p1), (2, .int p2), (3, .int (-1)), (4, .int 300)]) hx hb dX11_shows_75 hl (k := 5) rfl (by rw [ez25]; rfl) (by decide) rfl (fun ls hl => ?_)
            refine lv_goto (tgt := 52) hx hb dX11_shows_78 (by decide) ?_
            exact ih16 (z25) (f24) _ _ _ (by omega) (by omega) (by omega) hP hD hS (lv_sub hl [1, 2, 3, 4, 5, 0] rfl)
      have cst0 : (0 : Int32).toInt = 0 := by decide
      exact lp15 _ (0) (f_out) _ _ _ (by decide) (by omega) (Nat.le_refl _) hP hD hS (lv_sub hl [1, 2, 3, 4, 5, 0] rfl)
    · have kc12 := (not_congr (cv_le (rfl : (z7).toInt = (z7).toInt) (by decide : (300 : Int32).toInt = 300))).mp c12
      refine lv_iconst (v := (-1)) hx hb dX11_shows_47 (by decide) ?_
      have hP : va_P (dC, dI) cls [(h_mm, .inr (8, (mo75 v_mm (.ref h_nv) (.ref h_nn) (.ref h_na) (.ref h_nb) (.ref h_nc) (.ref h_let) (.ref h_isn) (.ref h_tem) (.ref h_bto) (.ref h_bin) (.int z5) (.int z6) (.ref h_cof) (.ref h_out) (.int x_mm_outs) (.ref h_wri) (.int z7) (.int 300)))), (h_wri, .inl (cy_wri, 1000, .inl f8)), (h_let, .inl (cy_let, 256, .inl f_let)), (h_nv, .inl (cy_nv, 8000, .inl f_nv)), (h_nn, .inl (cy_nn, 8000, .inr (.inl f_nn))), (h_na, .inl (cy_na, 8000, .inl f_na)), (h_nb, .inl (cy_nb, 8000, .inl f_nb)), (h_nc, .inl (cy_nc, 8000, .inl f_nc)), (h_bto, .inl (cy_bto, 256, .inl f_bto)), (h_bin, .inl (cy_bin, 256, .inl f_bin)), (h_cof, .inl (cy_cof, 31, .inl f_cof)), (h_isn, .inl (cy_isn, 192, .inl f_isn)), (h_tem, .inl (cy_tem, 192, .inl f_tem)), (h_out, .inl (cy_out, 1000, .inl f_out))] H := hP.sub [3, 4, 5, 6, 7, 8, 9, 10, 11, 12, 13, 0, 1, 2] rfl
      have hD : va_D A [(h_mm, .inr (8, (mo75 v_mm (.ref h_nv) (.ref h_nn) (.ref h_na) (.ref h_nb) (.ref h_nc) (.ref h_let) (.ref h_isn) (.ref h_tem) (.ref h_bto) (.ref h_bin) (.int z5) (.int z6) (.ref h_cof) (.ref h_out) (.int x_mm_outs) (.ref h_wri) (.int z7) (.int 300)))), (h_wri, .inl (cy_wri, 1000, .inl f8)), (h_let, .inl (cy_let, 256, .inl f_let)), (h_nv, .inl (cy_nv, 8000, .inl f_nv)), (h_nn, .inl (cy_nn, 8000, .inr (.inl f_nn))), (h_na, .inl (cy_na, 8000, .inl f_na)), (h_nb, .inl (cy_nb, 8000, .inl f_nb)), (h_nc, .inl (cy_nc, 8000, .inl f_nc)), (h_bto, .inl (cy_bto, 256, .inl f_bto)), (h_bin, .inl (cy_bin, 256, .inl f_bin)), (h_cof, .inl (cy_cof, 31, .inl f_cof)), (h_isn, .inl (cy_isn, 192, .inl f_isn)), (h_tem, .inl (cy_tem, 192, .inl f_tem)), (h_out, .inl (cy_out, 1000, .inl f_out))] := hD.sub [3, 4, 5, 6, 7, 8, 9, 10, 11, 12, 13, 0, 1, 2] (by decide) rfl
      refine W.widen (k := 0) (n := 0) (Nat.le_of_ble_eq_true rfl) (Nat.le_of_ble_eq_true rfl) ?_
      have cstm1 : ((-1) : Int32).toInt = -1 := by decide
      have cst300 : (300 : Int32).toInt = 300 := by decide
      have w26 : 0 ≤ ((z5)).toInt ∧ ((z5)).toInt ≤ 7999 := by omega
      have w27 : 0 ≤ ((z6)).toInt ∧ ((z6)).toInt ≤ 31 := by omega
      have w28 : 0 ≤ ((x_mm_outs)).toInt ∧ ((x_mm_outs)).toInt ≤ 1000 := by omega
      have w29 : 0 ≤ ((z7)).toInt ∧ ((z7)).toInt ≤ 1000 := by omega
      have w30 : 0 ≤ ((300 : Int32)).toInt ∧ ((300 : Int32)).toInt ≤ 998 := by omega
      exact W.iret (v := (-1)) hx hb hr (fun t ht hW => ⟨⟨(-1), (z5, z6, x_mm_outs, z7, 300, f8, f_out), rfl, ⟨w26, w27, w28, w29, w30⟩, by rw [ht]; exact hP, hD⟩, hS.F ht⟩) hS.2.2 dX11_shows_48
  · have kc2 := (not_congr (cv_eq (rfl : (z1).toInt = (z1).toInt) (by decide : (0 : Int32).toInt = 0))).mp c2
    refine lv_aload_n hx hb dX11_shows_20 rfl (lv_at hl 0 rfl) ?_
    refine lv_bipush (v := 45) hx hb dX11_shows_21 (by decide) ?_
    have cst45 : (45 : Int32).toInt = 45 := by decide
    have hPc := hP.sub (ws' := [(h_mm, .inr (8, (mo75 v_mm (.ref h_nv) (.ref h_nn) (.ref h_na) (.ref h_nb) (.ref h_nc) (.ref h_let) (.ref h_isn) (.ref h_tem) (.ref h_bto) (.ref h_bin) (.int x_mm_goneTo) (.int x_mm_goneIn) (.ref h_cof) (.ref h_out) (.int x_mm_outs) (.ref h_wri) (.int 0) (.int 300)))), (h_wri, .inl (cy_wri, 1000, .inl f_wri))]) [0, 1] rfl
    have hDc := hD.sub (ws' := [(h_mm, .inr (8, (mo75 v_mm (.ref h_nv) (.ref h_nn) (.ref h_na) (.ref h_nb) (.ref h_nc) (.ref h_let) (.ref h_isn) (.ref h_tem) (.ref h_bto) (.ref h_bin) (.int x_mm_goneTo) (.int x_mm_goneIn) (.ref h_cof) (.ref h_out) (.int x_mm_outs) (.ref h_wri) (.int 0) (.int 300)))), (h_wri, .inl (cy_wri, 1000, .inl f_wri))]) [0, 1] (by decide) rfl
    have hKc := hK.sub (tys' := [(cy_wri, .int)]) [0] rfl
    have hFc := va_free (wc := [(h_mm, .inr (8, (mo75 v_mm (.ref h_nv) (.ref h_nn) (.ref h_na) (.ref h_nb) (.ref h_nc) (.ref h_let) (.ref h_isn) (.ref h_tem) (.ref h_bto) (.ref h_bin) (.int x_mm_goneTo) (.int x_mm_goneIn) (.ref h_cof) (.ref h_out) (.int x_mm_outs) (.ref h_wri) (.int 0) (.int 300)))), (h_wri, .inl (cy_wri, 1000, .inl f_wri))]) hD hS hA [0, 1] rfl
    refine va_callv (va_runV (As := [.int 45]) (rest := []) ⟨hx, hb, hml, hown, hts⟩ (c_X11_says l dC dI H.size h_mm h_wri (fun k => List.getD (mo75 v_mm (.ref h_nv) (.ref h_nn) (.ref h_na) (.ref h_nb) (.ref h_nc) (.ref h_let) (.ref h_isn) (.ref h_tem) (.ref h_bto) (.ref h_bin) (.int x_mm_goneTo) (.int x_mm_goneIn) (.ref h_cof) (.ref h_out) (.int x_mm_outs) (.ref h_wri) (.int 0) (.int 300)) k .null) 0 300 cy_wri f_wri 45 (by decide) (by decide)) (cwV 1 hts (gv hT w_m_X11_452 w_instanceMethod_X11_says ws_sel_X11_says w_ini_X11 w_code_X11_says) rfl rfl rfl (by decide +kernel) ⟨(Nat.le_of_ble_eq_true rfl), (Nat.le_of_ble_eq_true rfl)⟩) ⟨pre_blind, va_recv hK hP (ci := 8) (q0 := 0) rfl rfl, pre_of hPc hKc hDc hN⟩ rfl rfl hl.1 rfl (lv_room (Nat.le_of_ble_eq_true rfl)) dX11_shows_23 ⟨(Nat.le_of_ble_eq_true rfl), (Nat.le_of_ble_eq_true rfl)⟩) hS (fun q _ h => hFc q h) hFc (fun u t H locs ht hvm hq hB hz1 hk1 hS => ?_)
    obtain ⟨z32, f33⟩ := u
    obtain ⟨hP1, hD1⟩ := hB
    rw [ht] at hP1
    obtain ⟨hP, hD⟩ := va_join (wr := [(h_let, .inl (cy_let, 256, .inl f_let)), (h_nv, .inl (cy_nv, 8000, .inl f_nv)), (h_nn, .inl (cy_nn, 8000, .inr (.inl f_nn))), (h_na, .inl (cy_na, 8000, .inl f_na)), (h_nb, .inl (cy_nb, 8000, .inl f_nb)), (h_nc, .inl (cy_nc, 8000, .inl f_nc)), (h_bto, .inl (cy_bto, 256, .inl f_bto)), (h_bin, .inl (cy_bin, 256, .inl f_bin)), (h_cof, .inl (cy_cof, 31, .inl f_cof)), (h_isn, .inl (cy_isn, 192, .inl f_isn)), (h_tem, .inl (cy_tem, 192, .inl f_tem)), (h_out, .inl (cy_out, 1000, .inl f_out))]) (w1 := [(h_mm, .inr (8, (mo75 v_mm (.ref h_nv) (.ref h_nn) (.ref h_na) (.ref h_nb) (.ref h_nc) (.ref h_let) (.ref h_isn) (.ref h_tem) (.ref h_bto) (.ref h_bin) (.int x_mm_goneTo) (.int x_mm_goneIn) (.ref h_cof) (.ref h_out) (.int x_mm_outs) (.ref h_wri) (.int z32) (.int 300)))), (h_wri, .inl (cy_wri, 1000, .inl f33))]) hP hD [0, 1] [2, 3, 4, 5, 6, 7, 8, 9, 10, 11, 12, 13] rfl rfl (by decide) (by decide) hk1 hFc hP1 hD1
    have hP : va_P (dC, dI) cls [(h_let, .inl (cy_let, 256, .inl f_let)), (h_nv, .inl (cy_nv, 8000, .inl f_nv)), (h_nn, .inl (cy_nn, 8000, .inr (.inl f_nn))), (h_na, .inl (cy_na, 8000, .inl f_na)), (h_nb, .inl (cy_nb, 8000, .inl f_nb)), (h_nc, .inl (cy_nc, 8000, .inl f_nc)), (h_bto, .inl (cy_bto, 256, .inl f_bto)), (h_bin, .inl (cy_bin, 256, .inl f_bin)), (h_cof, .inl (cy_cof, 31, .inl f_cof)), (h_isn, .inl (cy_isn, 192, .inl f_isn)), (h_tem, .inl (cy_tem, 192, .inl f_tem)), (h_out, .inl (cy_out, 1000, .inl f_out)), (h_mm, .inr (8, (mo75 v_mm (.ref h_nv) (.ref h_nn) (.ref h_na) (.ref h_nb) (.ref h_nc) (.ref h_let) (.ref h_isn) (.ref h_tem) (.ref h_bto) (.ref h_bin) (.int x_mm_goneTo) (.int x_mm_goneIn) (.ref h_cof) (.ref h_out) (.int x_mm_outs) (.ref h_wri) (.int z32) (.int 300)))), (h_wri, .inl (cy_wri, 1000, .inl f33))] H := hP
    have hD : va_D A [(h_let, .inl (cy_let, 256, .inl f_let)), (h_nv, .inl (cy_nv, 8000, .inl f_nv)), (h_nn, .inl (cy_nn, 8000, .inr (.inl f_nn))), (h_na, .inl (cy_na, 8000, .inl f_na)), (h_nb, .inl (cy_nb, 8000, .inl f_nb)), (h_nc, .inl (cy_nc, 8000, .inl f_nc)), (h_bto, .inl (cy_bto, 256, .inl f_bto)), (h_bin, .inl (cy_bin, 256, .inl f_bin)), (h_cof, .inl (cy_cof, 31, .inl f_cof)), (h_isn, .inl (cy_isn, 192, .inl f_isn)), (h_tem, .inl (cy_tem, 192, .inl f_tem)), (h_out, .inl (cy_out, 1000, .inl f_out)), (h_mm, .inr (8, (mo75 v_mm (.ref h_nv) (.ref h_nn) (.ref h_na) (.ref h_nb) (.ref h_nc) (.ref h_let) (.ref h_isn) (.ref h_tem) (.ref h_bto) (.ref h_bin) (.int x_mm_goneTo) (.int x_mm_goneIn) (.ref h_cof) (.ref h_out) (.int x_mm_outs) (.ref h_wri) (.int z32) (.int 300)))), (h_wri, .inl (cy_wri, 1000, .inl f33))] := hD
    obtain ⟨k34, k35⟩ := hq
    have k34 : 0 ≤ ((z32)).toInt ∧ ((z32)).toInt ≤ 1000 := k34
    have k35 : ((0 : Int32)).toInt ≤ ((z32)).toInt := k35
    refine lv_aload_n hx hb dX11_shows_26 rfl (lv_at hl 0 rfl) ?_
    refine lv_aload_n hx hb dX11_shows_27 rfl (lv_at hl 0 rfl) ?_
    refine va_get (D := (dC, dI)) (ci := 8) (v := .ref h_tem) (C := RX11) (T := TX11) (N := 71) hx hb hw iwX11 hown hK hP 12 rfl rfl 12 (by decide) (hw _ w_f_X11_152) (fun _ h9 => h9) rfl dX11_shows_28 ?_
    refine lv_iload_n hx hb dX11_shows_31 rfl (lv_at hl 1 rfl) ?_
    refine va_iald hx hb hK hP 10 11 rfl rfl (i := p1) (vp_in_iff.mpr (by omega)) dX11_shows_32 ?_
    refine lv_topi (fun z36 ez36 => ?_)
    have rz36 : 0 ≤ (z36).toInt ∧ (z36).toInt ≤ 7999 := by rw [ez36]; exact hf_tem _
    have tq9 : f_tem (p1).toInt.toNat = z36 := by rw [← clamp_nat (i := p1) (by omega), ← ez36]
    have tr9 : 0 ≤ (z36).toInt ∧ (z36).toInt < N ∧ hz (z36).toInt.toNat = 7 := by rw [← tq9]; omega
    refine lv_iload_n hx hb dX11_shows_33 rfl (lv_at hl 2 rfl) ?_
    refine lv_iload_n hx hb dX11_shows_34 rfl (lv_at hl 3 rfl) ?_
    have l09 : ([] : List Nat).length = 0 := rfl
    have cstm1 : ((-1) : Int32).toInt = -1 := by decide
    have hPc := hP.sub (ws' := [(h_mm, .inr (8, (mo75 v_mm (.ref h_nv) (.ref h_nn) (.ref h_na) (.ref h_nb) (.ref h_nc) (.ref h_let) (.ref h_isn) (.ref h_tem) (.ref h_bto) (.ref h_bin) (.int x_mm_goneTo) (.int x_mm_goneIn) (.ref h_cof) (.ref h_out) (.int x_mm_outs) (.ref h_wri) (.int z32) (.int 300)))), (h_wri, .inl (cy_wri, 1000, .inl f33)), (h_let, .inl (cy_let, 256, .inl f_let)), (h_nv, .inl (cy_nv, 8000, .inl f_nv)), (h_nn, .inl (cy_nn, 8000, .inr (.inl f_nn))), (h_na, .inl (cy_na, 8000, .inl f_na)), (h_nb, .inl (cy_nb, 8000, .inl f_nb)), (h_nc, .inl (cy_nc, 8000, .inl f_nc)), (h_bto, .inl (cy_bto, 256, .inl f_bto)), (h_bin, .inl (cy_bin, 256, .inl f_bin)), (h_cof, .inl (cy_cof, 31, .inl f_cof))]) [12, 13, 0, 1, 2, 3, 4, 5, 6, 7, 8] rfl
    have hDc := hD.sub (ws' := [(h_mm, .inr (8, (mo75 v_mm (.ref h_nv) (.ref h_nn) (.ref h_na) (.ref h_nb) (.ref h_nc) (.ref h_let) (.ref h_isn) (.ref h_tem) (.ref h_bto) (.ref h_bin) (.int x_mm_goneTo) (.int x_mm_goneIn) (.ref h_cof) (.ref h_out) (.int x_mm_outs) (.ref h_wri) (.int z32) (.int 300)))), (h_wri, .inl (cy_wri, 1000, .inl f33)), (h_let, .inl (cy_let, 256, .inl f_let)), (h_nv, .inl (cy_nv, 8000, .inl f_nv)), (h_nn, .inl (cy_nn, 8000, .inr (.inl f_nn))), (h_na, .inl (cy_na, 8000, .inl f_na)), (h_nb, .inl (cy_nb, 8000, .inl f_nb)), (h_nc, .inl (cy_nc, 8000, .inl f_nc)), (h_bto, .inl (cy_bto, 256, .inl f_bto)), (h_bin, .inl (cy_bin, 256, .inl f_bin)), (h_cof, .inl (cy_cof, 31, .inl f_cof))]) [12, 13, 0, 1, 2, 3, 4, 5, 6, 7, 8] (by decide) rfl
    have hKc := hK.sub (tys' := [(cy_wri, .int), (cy_let, .int), (cy_nv, .int), (cy_nn, .long), (cy_na, .int), (cy_nb, .int), (cy_nc, .int), (cy_bto, .int), (cy_bin, .int), (cy_cof, .int)]) [0, 1, 2, 3, 4, 5, 6, 7, 8, 9] rfl
    have hFc := va_free (wc := [(h_mm, .inr (8, (mo75 v_mm (.ref h_nv) (.ref h_nn) (.ref h_na) (.ref h_nb) (.ref h_nc) (.ref h_let) (.ref h_isn) (.ref h_tem) (.ref h_bto) (.ref h_bin) (.int x_mm_goneTo) (.int x_mm_goneIn) (.ref h_cof) (.ref h_out) (.int x_mm_outs) (.ref h_wri) (.int z32) (.int 300)))), (h_wri, .inl (cy_wri, 1000, .inl f33)), (h_let, .inl (cy_let, 256, .inl f_let)), (h_nv, .inl (cy_nv, 8000, .inl f_nv)), (h_nn, .inl (cy_nn, 8000, .inr (.inl f_nn))), (h_na, .inl (cy_na, 8000, .inl f_na)), (h_nb, .inl (cy_nb, 8000, .inl f_nb)), (h_nc, .inl (cy_nc, 8000, .inl f_nc)), (h_bto, .inl (cy_bto, 256, .inl f_bto)), (h_bin, .inl (cy_bin, 256, .inl f_bin)), (h_cof, .inl (cy_cof, 31, .inl f_cof))]) hD hS hA [12, 13, 0, 1, 2, 3, 4, 5, 6, 7, 8] rfl
    refine va_callv (va_runV (As := [.int z36, .int p2, .int (-1)]) (rest := []) ⟨hx, hb, hml, hown, hts⟩ (c_X11_saysTerm_1 l 1544 dC dI H.size h_mm h_wri h_let h_nv h_nn h_na h_nb h_nc h_bto h_bin h_cof (fun k => List.getD (mo75 v_mm (.ref h_nv) (.ref h_nn) (.ref h_na) (.ref h_nb) (.ref h_nc) (.ref h_let) (.ref h_isn) (.ref h_tem) (.ref h_bto) (.ref h_bin) (.int x_mm_goneTo) (.int x_mm_goneIn) (.ref h_cof) (.ref h_out) (.int x_mm_outs) (.ref h_wri) (.int z32) (.int 300)) k .null) x_mm_goneTo x_mm_goneIn z32 300 cy_wri f33 cy_let f_let cy_nv f_nv cy_nn f_nn cy_na f_na cy_nb f_nb cy_nc f_nc cy_bto f_bto cy_bin f_bin cy_cof f_cof z36 p2 (-1) i0 i1 N hz ([]) (by omega) (by omega) (by omega) (by decide) hf_nv hf_na hf_nb hf_nc hf_bto hf_bin hf_cof (by omega) (by omega) (by omega) (by omega) (by omega) (by omega) hn_bi pa_nil) (cwV 3 hts (gv hT w_m_X11_459 w_instanceMethod_X11_saysTerm ws_sel_X11_saysTerm w_ini_X11 w_code_X11_saysTerm) rfl rfl rfl (by decide +kernel) ⟨(Nat.le_of_ble_eq_true rfl), (Nat.le_of_ble_eq_true rfl)⟩) ⟨pre_blind, va_recv hK hP (ci := 8) (q0 := 12) rfl rfl, pre_of hPc hKc hDc hN⟩ rfl rfl hl.1 rfl (lv_room (Nat.le_of_ble_eq_true rfl)) dX11_shows_35 ⟨(Nat.le_of_ble_eq_true rfl), (Nat.le_of_ble_eq_true rfl)⟩) hS (fun q _ h => hFc q h) hFc (fun u t H locs ht hvm hq hB hz1 hk1 hS => ?_)
    obtain ⟨z38, z39, z40, f41⟩ := u
    obtain ⟨hP1, hD1⟩ := hB
    rw [ht] at hP1
    obtain ⟨hP, hD⟩ := va_join (wr := [(h_isn, .inl (cy_isn, 192, .inl f_isn)), (h_tem, .inl (cy_tem, 192, .inl f_tem)), (h_out, .inl (cy_out, 1000, .inl f_out))]) (w1 := [(h_mm, .inr (8, (mo75 v_mm (.ref h_nv) (.ref h_nn) (.ref h_na) (.ref h_nb) (.ref h_nc) (.ref h_let) (.ref h_isn) (.ref h_tem) (.ref h_bto) (.ref h_bin) (.int z38) (.int z39) (.ref h_cof) (.ref h_out) (.int x_mm_outs) (.ref h_wri) (.int z40) (.int 300)))), (h_wri, .inl (cy_wri, 1000, .inl f41)), (h_let, .inl (cy_let, 256, .inl f_let)), (h_nv, .inl (cy_nv, 8000, .inl f_nv)), (h_nn, .inl (cy_nn, 8000, .inr (.inl f_nn))), (h_na, .inl (cy_na, 8000, .inl f_na)), (h_nb, .inl (cy_nb, 8000, .inl f_nb)), (h_nc, .inl (cy_nc, 8000, .inl f_nc)), (h_bto, .inl (cy_bto, 256, .inl f_bto)), (h_bin, .inl (cy_bin, 256, .inl f_bin)), (h_cof, .inl (cy_cof, 31, .inl f_cof))]) hP hD [12, 13, 0, 1, 2, 3, 4, 5, 6, 7, 8] [9, 10, 11] rfl rfl (by decide) (by decide) hk1 hFc hP1 hD1
    have hP : va_P (dC, dI) cls [(h_isn, .inl (cy_isn, 192, .inl f_isn)), (h_tem, .inl (cy_tem, 192, .inl f_tem)), (h_out, .inl (cy_out, 1000, .inl f_out)), (h_mm, .inr (8, (mo75 v_mm (.ref h_nv) (.ref h_nn) (.ref h_na) (.ref h_nb) (.ref h_nc) (.ref h_let) (.ref h_isn) (.ref h_tem) (.ref h_bto) (.ref h_bin) (.int z38) (.int z39) (.ref h_cof) (.ref h_out) (.int x_mm_outs) (.ref h_wri) (.int z40) (.int 300)))), (h_wri, .inl (cy_wri, 1000, .inl f41)), (h_let, .inl (cy_let, 256, .inl f_let)), (h_nv, .inl (cy_nv, 8000, .inl f_nv)), (h_nn, .inl (cy_nn, 8000, .inr (.inl f_nn))), (h_na, .inl (cy_na, 8000, .inl f_na)), (h_nb, .inl (cy_nb, 8000, .inl f_nb)), (h_nc, .inl (cy_nc, 8000, .inl f_nc)), (h_bto, .inl (cy_bto, 256, .inl f_bto)), (h_bin, .inl (cy_bin, 256, .inl f_bin)), (h_cof, .inl (cy_cof, 31, .inl f_cof))] H := hP
    have hD : va_D A [(h_isn, .inl (cy_isn, 192, .inl f_isn)), (h_tem, .inl (cy_tem, 192, .inl f_tem)), (h_out, .inl (cy_out, 1000, .inl f_out)), (h_mm, .inr (8, (mo75 v_mm (.ref h_nv) (.ref h_nn) (.ref h_na) (.ref h_nb) (.ref h_nc) (.ref h_let) (.ref h_isn) (.ref h_tem) (.ref h_bto) (.ref h_bin) (.int z38) (.int z39) (.ref h_cof) (.ref h_out) (.int x_mm_outs) (.ref h_wri) (.int z40) (.int 300)))), (h_wri, .inl (cy_wri, 1000, .inl f41)), (h_let, .inl (cy_let, 256, .inl f_let)), (h_nv, .inl (cy_nv, 8000, .inl f_nv)), (h_nn, .inl (cy_nn, 8000, .inr (.inl f_nn))), (h_na, .inl (cy_na, 8000, .inl f_na)), (h_nb, .inl (cy_nb, 8000, .inl f_nb)), (h_nc, .inl (cy_nc, 8000, .inl f_nc)), (h_bto, .inl (cy_bto, 256, .inl f_bto)), (h_bin, .inl (cy_bin, 256, .inl f_bin)), (h_cof, .inl (cy_cof, 31, .inl f_cof))] := hD
    obtain ⟨k42, k43, k44⟩ := hq
    have k42 : 0 ≤ ((z38)).toInt ∧ ((z38)).toInt ≤ 7999 := k42
    have k43 : 0 ≤ ((z39)).toInt ∧ ((z39)).toInt ≤ 31 := k43
    have k44 : 0 ≤ ((z40)).toInt ∧ ((z40)).toInt ≤ 1000 := k44
    refine lv_aload_n hx hb dX11_shows_38 rfl (lv_at hl 0 rfl) ?_
    refine va_get (D := (dC, dI)) (ci := 8) (v := .int z40) (C := RX11) (T := TX11) (N := 71) hx hb hw iwX11 hown hK hP 3 rfl rfl 65 (by decide) (hw _ w_f_X11_443) (fun _ h9 => h9) rfl dX11_shows_39 ?_
    refine lv_iload hx hb dX11_shows_42 (lv_at hl 4 rfl) ?_
    refine lv_icmp_le (tgt := 49) hx hb dX11_shows_44 (by decide) (fun c45 => ?_) (fun c45 => ?_)
    · have kc45 := (cv_le (rfl : (z40).toInt = (z40).toInt) (by decide : (300 : Int32).toInt = 300)).mp c45
      refine lv_iconst (v := 0) hx hb dX11_shows_49 (by decide) ?_
      refine lv_istore (lv' := [(5, .int 0), (0, .ref h_mm), (1, .int p1), (2, .int p2), (3, .int (-1)), (4, .int 300)]) hx hb dX11_shows_50 hl (by decide) rfl (fun ls hl => ?_)
      have lp48 : ∀ (n : Nat) (x46 : Int32) (f47 : Nat → Int32) (H : Heap) (locs : List Loc) (ls : Array Slot), (0 ≤ (x46).toInt ∧ (x46).toInt ≤ 1000) → ((z40).toInt ≤ 300) → (1000 - (x46).toInt).toNat + 1 ≤ n → va_P (dC, dI) cls [(h_isn, .inl (cy_isn, 192, .inl f_isn)), (h_tem, .inl (cy_tem, 192, .inl f_tem)), (h_out, .inl (cy_out, 1000, .inl f47)), (h_mm, .inr (8, (mo75 v_mm (.ref h_nv) (.ref h_nn) (.ref h_na) (.ref h_nb) (.ref h_nc) (.ref h_let) (.ref h_isn) (.ref h_tem) (.ref h_bto) (.ref h_bin) (.int z38) (.int z39) (.ref h_cof) (.ref h_out) (.int x_mm_outs) (.ref h_wri) (.int z40) (.int 300)))), (h_wri, .inl (cy_wri, 1000, .inl f41)), (h_let, .inl (cy_let, 256, .inl f_let)), (h_nv, .inl (cy_nv, 8000, .inl f_nv)), (h_nn, .inl (cy_nn, 8000, .inr (.inl f_nn))), (h_na, .inl (cy_na, 8000, .inl f_na)), (h_nb, .inl (cy_nb, 8000, .inl f_nb)), (h_nc, .inl (cy_nc, 8000, .inl f_nc)), (h_bto, .inl (cy_bto, 256, .inl f_bto)), (h_bin, .inl (cy_bin, 256, .inl f_bin)), (h_cof, .inl (cy_cof, 31, .inl f_cof))] H → va_D A [(h_isn, .inl (cy_isn, 192, .inl f_isn)), (h_tem, .inl (cy_tem, 192, .inl f_tem)), (h_out, .inl (cy_out, 1000, .inl f47)), (h_mm, .inr (8, (mo75 v_mm (.ref h_nv) (.ref h_nn) (.ref h_na) (.ref h_nb) (.ref h_nc) (.ref h_let) (.ref h_isn) (.ref h_tem) (.ref h_bto) (.ref h_bin) (.int z38) (.int z39) (.ref h_cof) (.ref h_out) (.int x_mm_outs) (.ref h_wri) (.int z40) (.int 300)))), (h_wri, .inl (cy_wri, 1000, .inl f41)), (h_let, .inl (cy_let, 256, .inl f_let)), (h_nv, .inl (cy_nv, 8000, .inl f_nv)), (h_nn, .inl (cy_nn, 8000, .inr (.inl f_nn))), (h_na, .inl (cy_na, 8000, .inl f_na)), (h_nb, .inl (cy_nb, 8000, .inl f_nb)), (h_nc, .inl (cy_nc, 8000, .inl f_nc)), (h_bto, .inl (cy_bto, 256, .inl f_bto)), (h_bin, .inl (cy_bin, 256, .inl f_bin)), (h_cof, .inl (cy_cof, 31, .inl f_cof))] → va_S A s.heap H locs → lv_has ls 6 [(0, .ref h_mm), (1, .int p1), (2, .int p2), (3, .int (-1)), (4, .int 300), (5, .int x46)] → W p l e ({ frames := 1560, cells := 0, slots := 0, locals := 40499 } : Room) s m ([.ref h_mm, .int p1, .int p2, .int (-1), .int 300] : List Value).toArray below meth c H locs 0 0 (MQ below (va_Qi (fun (r : Int32) (u : (Int32) × (Int32) × (Int32) × (Int32) × (Int32) × (Nat → Int32) × (Nat → Int32)) => (0 ≤ (u.1).toInt ∧ (u.1).toInt ≤ 7999) ∧ (0 ≤ (u.2.1).toInt ∧ (u.2.1).toInt ≤ 31) ∧ (0 ≤ (u.2.2.1).toInt ∧ (u.2.2.1).toInt ≤ 1000) ∧ (0 ≤ (u.2.2.2.1).toInt ∧ (u.2.2.2.1).toInt ≤ 1000) ∧ (0 ≤ (u.2.2.2.2.1).toInt ∧ (u.2.2.2.2.1).toInt ≤ 998)) (fun (u : (Int32) × (Int32) × (Int32) × (Int32) × (Int32) × (Nat → Int32) × (Nat → Int32)) (t : State) => va_P (dC, dI) cls [(h_mm, .inr (8, (mo75 v_mm (.ref h_nv) (.ref h_nn) (.ref h_na) (.ref h_nb) (.ref h_nc) (.ref h_let) (.ref h_isn) (.ref h_tem) (.ref h_bto) (.ref h_bin) (.int u.1) (.int u.2.1) (.ref h_cof) (.ref h_out) (.int u.2.2.1) (.ref h_wri) (.int u.2.2.2.1) (.int u.2.2.2.2.1)))), (h_wri, .inl (cy_wri, 1000, .inl u.2.2.2.2.2.1)), (h_let, .inl (cy_let, 256, .inl f_let)), (h_nv, .inl (cy_nv, 8000, .inl f_nv)), (h_nn, .inl (cy_nn, 8000, .inr (.inl f_nn))), (h_na, .inl (cy_na, 8000, .inl f_na)), (h_nb, .inl (cy_nb, 8000, .inl f_nb)), (h_nc, .inl (cy_nc, 8000, .inl f_nc)), (h_bto, .inl (cy_bto, 256, .inl f_bto)), (h_bin, .inl (cy_bin, 256, .inl f_bin)), (h_cof, .inl (cy_cof, 31, .inl f_cof)), (h_isn, .inl (cy_isn, 192, .inl f_isn)), (h_tem, .inl (cy_tem, 192, .inl f_tem)), (h_out, .inl (cy_out, 1000, .inl u.2.2.2.2.2.2))] t.heap ∧ va_D A [(h_mm, .inr (8, (mo75 v_mm (.ref h_nv) (.ref h_nn) (.ref h_na) (.ref h_nb) (.ref h_nc) (.ref h_let) (.ref h_isn) (.ref h_tem) (.ref h_bto) (.ref h_bin) (.int u.1) (.int u.2.1) (.ref h_cof) (.ref h_out) (.int u.2.2.1) (.ref h_wri) (.int u.2.2.2.1) (.int u.2.2.2.2.1)))), (h_wri, .inl (cy_wri, 1000, .inl u.2.2.2.2.2.1)), (h_let, .inl (cy_let, 256, .inl f_let)), (h_nv, .inl (cy_nv, 8000, .inl f_nv)), (h_nn, .inl (cy_nn, 8000, .inr (.inl f_nn))), (h_na, .inl (cy_na, 8000, .inl f_na)), (h_nb, .inl (cy_nb, 8000, .inl f_nb)), (h_nc, .inl (cy_nc, 8000, .inl f_nc)), (h_bto, .inl (cy_bto, 256, .inl f_bto)), (h_bin, .inl (cy_bin, 256, .inl f_bin)), (h_cof, .inl (cy_cof, 31, .inl f_cof)), (h_isn, .inl (cy_isn, 192, .inl f_isn)), (h_tem, .inl (cy_tem, 192, .inl f_tem)), (h_out, .inl (cy_out, 1000, .inl u.2.2.2.2.2.2))]) A) ([.ref h_mm, .int p1, .int p2, .int (-1), .int 300] : List Value).toArray s 0 0 A) (F0 m 52 ls []) := by
        intro n
        induction n with
        | zero => intro x46 f47 H locs ls klp48_0 klp48_1 hm hP hD hS hl; exact False.elim (by omega)
        | succ n ih => 
          intro x46 f47 H locs ls klp48_0 klp48_1 hm hP hD hS hl
          have ih49 := ih
          clear ih
          refine lv_iload hx hb dX11_shows_52 (lv_at hl 5 rfl) ?_
          refine lv_aload_n hx hb dX11_shows_54 rfl (lv_at hl 0 rfl) ?_
          refine va_get (D := (dC, dI)) (ci := 8) (v := .int z40) (C := RX11) (T := TX11) (N := 71) hx hb hw iwX11 hown hK hP 3 rfl rfl 65 (by decide) (hw _ w_f_X11_443) (fun _ h9 => h9) rfl dX11_shows_55 ?_
          refine lv_icmp_ge (tgt := 81) hx hb dX11_shows_58 (by decide) (fun c50 => ?_) (fun c50 => ?_)
          · have kc50 := (cv_le (rfl : (z40).toInt = (z40).toInt) (rfl : (x46).toInt = (x46).toInt)).mp c50
            refine lv_aload_n hx hb dX11_shows_81 rfl (lv_at hl 0 rfl) ?_
            refine lv_aload_n hx hb dX11_shows_82 rfl (lv_at hl 0 rfl) ?_
            refine va_get (D := (dC, dI)) (ci := 8) (v := .int z40) (C := RX11) (T := TX11) (N := 71) hx hb hw iwX11 hown hK hP 3 rfl rfl 65 (by decide) (hw _ w_f_X11_443) (fun _ h9 => h9) rfl dX11_shows_83 ?_
            refine va_put (D := (dC, dI)) (ci := 8) (v := .int z40) (ty := tyX11 63) (C := RX11) (T := TX11) (N := 71) hx hb hw iwX11 tyX11 tyX11_ok nmX11 hown hK hP hD hS 3 rfl rfl 63 (by decide) (hw _ w_f_X11_462) (fun _ h9 => h9) rfl (tyX11_ok 63 (by decide)) rfl rfl (Nat.le_of_ble_eq_true rfl) dX11_shows_86 (fun H locs hP hD hS => ?_)
            have hP : va_P (dC, dI) cls [(h_isn, .inl (cy_isn, 192, .inl f_isn)), (h_tem, .inl (cy_tem, 192, .inl f_tem)), (h_out, .inl (cy_out, 1000, .inl f47)), (h_mm, .inr (8, (mo75 v_mm (.ref h_nv) (.ref h_nn) (.ref h_na) (.ref h_nb) (.ref h_nc) (.ref h_let) (.ref h_isn) (.ref h_tem) (.ref h_bto) (.ref h_bin) (.int z38) (.int z39) (.ref h_cof) (.ref h_out) (.int z40) (.ref h_wri) (.int z40) (.int 300)))), (h_wri, .inl (cy_wri, 1000, .inl f41)), (h_let, .inl (cy_let, 256, .inl f_let)), (h_nv, .inl (cy_nv, 8000, .inl f_nv)), (h_nn, .inl (cy_nn, 8000, .inr (.inl f_nn))), (h_na, .inl (cy_na, 8000, .inl f_na)), (h_nb, .inl (cy_nb, 8000, .inl f_nb)), (h_nc, .inl (cy_nc, 8000, .inl f_nc)), (h_bto, .inl (cy_bto, 256, .inl f_bto)), (h_bin, .inl (cy_bin, 256, .inl f_bin)), (h_cof, .inl (cy_cof, 31, .inl f_cof))] H := hP
            have hD : va_D A [(h_isn, .inl (cy_isn, 192, .inl f_isn)), (h_tem, .inl (cy_tem, 192, .inl f_tem)), (h_out, .inl (cy_out, 1000, .inl f47)), (h_mm, .inr (8, (mo75 v_mm (.ref h_nv) (.ref h_nn) (.ref h_na) (.ref h_nb) (.ref h_nc) (.ref h_let) (.ref h_isn) (.ref h_tem) (.ref h_bto) (.ref h_bin) (.int z38) (.int z39) (.ref h_cof) (.ref h_out) (.int z40) (.ref h_wri) (.int z40) (.int 300)))), (h_wri, .inl (cy_wri, 1000, .inl f41)), (h_let, .inl (cy_let, 256, .inl f_let)), (h_nv, .inl (cy_nv, 8000, .inl f_nv)), (h_nn, .inl (cy_nn, 8000, .inr (.inl f_nn))), (h_na, .inl (cy_na, 8000, .inl f_na)), (h_nb, .inl (cy_nb, 8000, .inl f_nb)), (h_nc, .inl (cy_nc, 8000, .inl f_nc)), (h_bto, .inl (cy_bto, 256, .inl f_bto)), (h_bin, .inl (cy_bin, 256, .inl f_bin)), (h_cof, .inl (cy_cof, 31, .inl f_cof))] := hD
            refine lv_aload_n hx hb dX11_shows_89 rfl (lv_at hl 0 rfl) ?_
            refine va_get (D := (dC, dI)) (ci := 8) (v := .int z40) (C := RX11) (T := TX11) (N := 71) hx hb hw iwX11 hown hK hP 3 rfl rfl 63 (by decide) (hw _ w_f_X11_462) (fun _ h9 => h9) rfl dX11_shows_90 ?_
            have hP : va_P (dC, dI) cls [(h_mm, .inr (8, (mo75 v_mm (.ref h_nv) (.ref h_nn) (.ref h_na) (.ref h_nb) (.ref h_nc) (.ref h_let) (.ref h_isn) (.ref h_tem) (.ref h_bto) (.ref h_bin) (.int z38) (.int z39) (.ref h_cof) (.ref h_out) (.int z40) (.ref h_wri) (.int z40) (.int 300)))), (h_wri, .inl (cy_wri, 1000, .inl f41)), (h_let, .inl (cy_let, 256, .inl f_let)), (h_nv, .inl (cy_nv, 8000, .inl f_nv)), (h_nn, .inl (cy_nn, 8000, .inr (.inl f_nn))), (h_na, .inl (cy_na, 8000, .inl f_na)), (h_nb, .inl (cy_nb, 8000, .inl f_nb)), (h_nc, .inl (cy_nc, 8000, .inl f_nc)), (h_bto, .inl (cy_bto, 256, .inl f_bto)), (h_bin, .inl (cy_bin, 256, .inl f_bin)), (h_cof, .inl (cy_cof, 31, .inl f_cof)), (h_isn, .inl (cy_isn, 192, .inl f_isn)), (h_tem, .inl (cy_tem, 192, .inl f_tem)), (h_out, .inl (cy_out, 1000, .inl f47))] H := hP.sub [3, 4, 5, 6, 7, 8, 9, 10, 11, 12, 13, 0, 1, 2] rfl
            have hD : va_D A [(h_mm, .inr (8, (mo75 v_mm (.ref h_nv) (.ref h_nn) (.ref h_na) (.ref h_nb) (.ref h_nc) (.ref h_let) (.ref h_isn) (.ref h_tem) (.ref h_bto) (.ref h_bin) (.int z38) (.int z39) (.ref h_cof) (.ref h_out) (.int z40) (.ref h_wri) (.int z40) (.int 300)))), (h_wri, .inl (cy_wri, 1000, .inl f41)), (h_let, .inl (cy_let, 256, .inl f_let)), (h_nv, .inl (cy_nv, 8000, .inl f_nv)), (h_nn, .inl (cy_nn, 8000, .inr (.inl f_nn))), (h_na, .inl (cy_na, 8000, .inl f_na)), (h_nb, .inl (cy_nb, 8000, .inl f_nb)), (h_nc, .inl (cy_nc, 8000, .inl f_nc)), (h_bto, .inl (cy_bto, 256, .inl f_bto)), (h_bin, .inl (cy_bin, 256, .inl f_bin)), (h_cof, .inl (cy_cof, 31, .inl f_cof)), (h_isn, .inl (cy_isn, 192, .inl f_isn)), (h_tem, .inl (cy_tem, 192, .inl f_tem)), (h_out, .inl (cy_out, 1000, .inl f47))] := hD.sub [3, 4, 5, 6, 7, 8, 9, 10, 11, 12, 13, 0, 1, 2] (by decide) rfl
            refine W.widen (k := 0) (n := 0) (Nat.le_of_ble_eq_true rfl) (Nat.le_of_ble_eq_true rfl) ?_
            have cst300 : (300 : Int32).toInt = 300 := by decide
            have w51 : 0 ≤ ((z38)).toInt ∧ ((z38)).toInt ≤ 7999 := by omega
            have w52 : 0 ≤ ((z39)).toInt ∧ ((z39)).toInt ≤ 31 := by omega
            have w53 : 0 ≤ ((z40)).toInt ∧ ((z40)).toInt ≤ 1000 := by omega
            have w54 : 0 ≤ ((z40)).toInt ∧ ((z40)).toInt ≤ 1000 := by omega
            have w55 : 0 ≤ ((300 : Int32)).toInt ∧ ((300 : Int32)).toInt ≤ 998 := by omega
            exact W.iret (v := z40) hx hb hr (fun t ht hW => ⟨⟨z40, (z38, z39, z40, z40, 300, f41, f47), rfl, ⟨w51, w52, w53, w54, w55⟩, by rw [ht]; exact hP, hD⟩, hS.F ht⟩) hS.2.2 dX11_shows_93
          · have kc50 := (not_congr (cv_le (rfl : (z40).toInt = (z40).toInt) (rfl : (x46).toInt = (x46).toInt))).mp c50
            refine lv_aload_n hx hb dX11_shows_61 rfl (lv_at hl 0 rfl) ?_
            refine va_get (D := (dC, dI)) (ci := 8) (v := .ref h_out) (C := RX11) (T := TX11) (N := 71) hx hb hw iwX11 hown hK hP 3 rfl rfl 62 (by decide) (hw _ w_f_X11_243) (fun _ h9 => h9) rfl dX11_shows_62 ?_
            refine lv_iload hx hb dX11_shows_65 (lv_at hl 5 rfl) ?_
            refine lv_aload_n hx hb dX11_shows_67 rfl (lv_at hl 0 rfl) ?_
            refine va_get (D := (dC, dI)) (ci := 8) (v := .ref h_wri) (C := RX11) (T := TX11) (N := 71) hx hb hw iwX11 hown hK hP 3 rfl rfl 64 (by decide) (hw _ w_f_X11_246) (fun _ h9 => h9) rfl dX11_shows_68 ?_
            refine lv_iload hx hb dX11_shows_71 (lv_at hl 5 rfl) ?_
            refine va_iald hx hb hK hP 4 0 rfl rfl (i := x46) (vp_in_iff.mpr (by omega)) dX11_shows_73 ?_
            refine lv_topi (fun z56 ez56 => ?_)
            refine va_iast hx hb hK hP hD hS 2 12 rfl rfl (i := x46) (x := z56) (vp_in_iff.mpr (by omega)) dX11_shows_74 (fun H locs hP hD hS => ?_)
            obtain ⟨f57, ef57⟩ : ∃ g : Nat → Int32, g = upd f47 (Int32.toNatClampNeg x46) z56 := ⟨_, rfl⟩
            have hP : va_P (dC, dI) cls [(h_isn, .inl (cy_isn, 192, .inl f_isn)), (h_tem, .inl (cy_tem, 192, .inl f_tem)), (h_out, .inl (cy_out, 1000, .inl f57)), (h_mm, .inr (8, (mo75 v_mm (.ref h_nv) (.ref h_nn) (.ref h_na) (.ref h_nb) (.ref h_nc) (.ref h_let) (.ref h_isn) (.ref h_tem) (.ref h_bto) (.ref h_bin) (.int z38) (.int z39) (.ref h_cof) (.ref h_out) (.int x_mm_outs) (.ref h_wri) (.int z40) (.int 300)))), (h_wri, .inl (cy_wri, 1000, .inl f41)), (h_let, .inl (cy_let, 256, .inl f_let)), (h_nv, .inl (cy_nv, 8000, .inl f_nv)), (h_nn, .inl (cy_nn, 8000, .inr (.inl f_nn))), (h_na, .inl (cy_na, 8000, .inl f_na)), (h_nb, .inl (cy_nb, 8000, .inl f_nb)), (h_nc, .inl (cy_nc, 8000, .inl f_nc)), (h_bto, .inl (cy_bto, 256, .inl f_bto)), (h_bin, .inl (cy_bin, 256, .inl f_bin)), (h_cof, .inl (cy_cof, 31, .inl f_cof))] H := by rw [ef57]; exact hP
            have hD : va_D A [(h_isn, .inl (cy_isn, 192, .inl f_isn)), (h_tem, .inl (cy_tem, 192, .inl f_tem)), (h_out, .inl (cy_out, 1000, .inl f57)), (h_mm, .inr (8, (mo75 v_mm (.ref h_nv) (.ref h_nn) (.ref h_na) (.ref h_nb) (.ref h_nc) (.ref h_let) (.ref h_isn) (.ref h_tem) (.ref h_bto) (.ref h_bin) (.int z38) (.int z39) (.ref h_cof) (.ref h_out) (.int x_mm_outs) (.ref h_wri) (.int z40) (.int 300)))), (h_wri, .inl (cy_wri, 1000, .inl f41)), (h_let, .inl (cy_let, 256, .inl f_let)), (h_nv, .inl (cy_nv, 8000, .inl f_nv)), (h_nn, .inl (cy_nn, 8000, .inr (.inl f_nn))), (h_na, .inl (cy_na, 8000, .inl f_na)), (h_nb, .inl (cy_nb, 8000, .inl f_nb)), (h_nc, .inl (cy_nc, 8000, .inl f_nc)), (h_bto, .inl (cy_bto, 256, .inl f_bto)), (h_bin, .inl (cy_bin, 256, .inl f_bin)), (h_cof, .inl (cy_cof, 31, .inl f_cof))] := by rw [ef57]; exact hD
            clear ef57
            obtain ⟨z58, ez58⟩ : ∃ y : Int32, y = x46 + 1 := ⟨_, rfl⟩
            have tz58 : (z58).toInt = (x46).toInt + 1 := by rw [ez58]; exact i_add rfl (by decide) (by omega)
            refine lv_iinc (v := z58) (lv' := [(5, .int z58), (0, .ref h_mm), (1, .int p1), (2, .int p2), (3, .int (-1)), (4, .int 300)]) hx hb dX11_shows_75 hl (k := 5) rfl (by rw [ez58]; rfl) (by decide) rfl (fun ls hl => ?_)
            refine lv_goto (tgt := 52) hx hb dX11_shows_78 (by decide) ?_
            exact ih49 (z58) (f57) _ _ _ (by omega) (by omega) (by omega) hP hD hS (lv_sub hl [1, 2, 3, 4, 5, 0] rfl)
      have cst0 : (0 : Int32).toInt = 0 := by decide
      exact lp48 _ (0) (f_out) _ _ _ (by decide) (by omega) (Nat.le_refl _) hP hD hS (lv_sub hl [1, 2, 3, 4, 5, 0] rfl)
    · have kc45 := (not_congr (cv_le (rfl : (z40).toInt = (z40).toInt) (by decide : (300 : Int32).toInt = 300))).mp c45
      refine lv_iconst (v := (-1)) hx hb dX11_shows_47 (by decide) ?_
      have hP : va_P (dC, dI) cls [(h_mm, .inr (8, (mo75 v_mm (.ref h_nv) (.ref h_nn) (.ref h_na) (.ref h_nb) (.ref h_nc) (.ref h_let) (.ref h_isn) (.ref h_tem) (.ref h_bto) (.ref h_bin) (.int z38) (.int z39) (.ref h_cof) (.ref h_out) (.int x_mm_outs) (.ref h_wri) (.int z40) (.int 300)))), (h_wri, .inl (cy_wri, 1000, .inl f41)), (h_let, .inl (cy_let, 256, .inl f_let)), (h_nv, .inl (cy_nv, 8000, .inl f_nv)), (h_nn, .inl (cy_nn, 8000, .inr (.inl f_nn))), (h_na, .inl (cy_na, 8000, .inl f_na)), (h_nb, .inl (cy_nb, 8000, .inl f_nb)), (h_nc, .inl (cy_nc, 8000, .inl f_nc)), (h_bto, .inl (cy_bto, 256, .inl f_bto)), (h_bin, .inl (cy_bin, 256, .inl f_bin)), (h_cof, .inl (cy_cof, 31, .inl f_cof)), (h_isn, .inl (cy_isn, 192, .inl f_isn)), (h_tem, .inl (cy_tem, 192, .inl f_tem)), (h_out, .inl (cy_out, 1000, .inl f_out))] H := hP.sub [3, 4, 5, 6, 7, 8, 9, 10, 11, 12, 13, 0, 1, 2] rfl
      have hD : va_D A [(h_mm, .inr (8, (mo75 v_mm (.ref h_nv) (.ref h_nn) (.ref h_na) (.ref h_nb) (.ref h_nc) (.ref h_let) (.ref h_isn) (.ref h_tem) (.ref h_bto) (.ref h_bin) (.int z38) (.int z39) (.ref h_cof) (.ref h_out) (.int x_mm_outs) (.ref h_wri) (.int z40) (.int 300)))), (h_wri, .inl (cy_wri, 1000, .inl f41)), (h_let, .inl (cy_let, 256, .inl f_let)), (h_nv, .inl (cy_nv, 8000, .inl f_nv)), (h_nn, .inl (cy_nn, 8000, .inr (.inl f_nn))), (h_na, .inl (cy_na, 8000, .inl f_na)), (h_nb, .inl (cy_nb, 8000, .inl f_nb)), (h_nc, .inl (cy_nc, 8000, .inl f_nc)), (h_bto, .inl (cy_bto, 256, .inl f_bto)), (h_bin, .inl (cy_bin, 256, .inl f_bin)), (h_cof, .inl (cy_cof, 31, .inl f_cof)), (h_isn, .inl (cy_isn, 192, .inl f_isn)), (h_tem, .inl (cy_tem, 192, .inl f_tem)), (h_out, .inl (cy_out, 1000, .inl f_out))] := hD.sub [3, 4, 5, 6, 7, 8, 9, 10, 11, 12, 13, 0, 1, 2] (by decide) rfl
      refine W.widen (k := 0) (n := 0) (Nat.le_of_ble_eq_true rfl) (Nat.le_of_ble_eq_true rfl) ?_
      have cstm1 : ((-1) : Int32).toInt = -1 := by decide
      have cst300 : (300 : Int32).toInt = 300 := by decide
      have w59 : 0 ≤ ((z38)).toInt ∧ ((z38)).toInt ≤ 7999 := by omega
      have w60 : 0 ≤ ((z39)).toInt ∧ ((z39)).toInt ≤ 31 := by omega
      have w61 : 0 ≤ ((x_mm_outs)).toInt ∧ ((x_mm_outs)).toInt ≤ 1000 := by omega
      have w62 : 0 ≤ ((z40)).toInt ∧ ((z40)).toInt ≤ 1000 := by omega
      have w63 : 0 ≤ ((300 : Int32)).toInt ∧ ((300 : Int32)).toInt ≤ 998 := by omega
      exact W.iret (v := (-1)) hx hb hr (fun t ht hW => ⟨⟨(-1), (z38, z39, x_mm_outs, z40, 300, f41, f_out), rfl, ⟨w59, w60, w61, w62, w63⟩, by rw [ht]; exact hP, hD⟩, hS.F ht⟩) hS.2.2 dX11_shows_48

set_option maxHeartbeats 8000000 in
set_option maxRecDepth 100000 in
theorem c_X11_show (l : Launch) (dC : Nat → ClassId) (dI : Nat → Nat → Nat) (sz : Nat) (h_mm : Nat) (h_wri : Nat) (h_let : Nat) (h_nv : Nat) (h_nn : Nat) (h_na : Nat) (h_nb : Nat) (h_nc : Nat) (h_isn : Nat) (h_tem : Nat) (h_out : Nat) (h_mny : Nat) (v_mm : Nat → Value) (x_mm_clauses : Int32) (x_mm_outs : Int32) (x_mm_writes : Int32) (x_mm_room : Int32) (cy_wri : ClassId) (f_wri : Nat → Int32) (cy_let : ClassId) (f_let : Nat → Int32) (cy_nv : ClassId) (f_nv : Nat → Int32) (cy_nn : ClassId) (f_nn : Nat → Int64) (cy_na : ClassId) (f_na : Nat → Int32) (cy_nb : ClassId) (f_nb : Nat → Int32) (cy_nc : ClassId) (f_nc : Nat → Int32) (cy_isn : ClassId) (f_isn : Nat → Int32) (cy_tem : ClassId) (f_tem : Nat → Int32) (cy_out : ClassId) (f_out : Nat → Int32) (cy_mny : ClassId) (f_mny : Nat → Int32) (p1 : Int32) (p2 : Int32) (N : Int) (hz : Nat → Nat) (hx_mm_clauses : 0 ≤ (x_mm_clauses).toInt ∧ (x_mm_clauses).toInt ≤ 16) (hx_mm_outs : 0 ≤ (x_mm_outs).toInt ∧ (x_mm_outs).toInt ≤ 1000) (hx_mm_writes : 0 ≤ (x_mm_writes).toInt ∧ (x_mm_writes).toInt ≤ 1000) (hx_mm_room : 0 ≤ (x_mm_room).toInt ∧ (x_mm_room).toInt ≤ 998) (hf_nv : Rg (-1) 7 f_nv) (hf_na : Rg (-1) 7999 f_na) (hf_nb : Rg (-1) 7999 f_nb) (hf_nc : Rg (-1) 7999 f_nc) (hf_tem : Rg 0 7999 f_tem) (hf_mny : Rg 0 6 f_mny) (q0 : N ≤ 8000) (hn_nds : ND 0 N hz f_na f_nb f_nc) (hn_tms : TM 0 N hz 0 (x_mm_clauses).toInt f_mny f_tem) : Met l yX11_show (Ws yX11_show cX11_show 3 (some .int)) (({ frames := 25, cells := 0, slots := 0, locals := 588 } : Room)) (PRE (dC, dI) cls [(cy_wri, .int), (cy_let, .int), (cy_nv, .int), (cy_nn, .long), (cy_na, .int), (cy_nb, .int), (cy_nc, .int), (cy_isn, .boolean), (cy_tem, .int), (cy_out, .int), (cy_mny, .int)] [(h_mm, .inr (8, (mo76 v_mm (.ref h_nv) (.ref h_nn) (.ref h_na) (.ref h_nb) (.ref h_nc) (.int x_mm_clauses) (.ref h_mny) (.ref h_let) (.ref h_isn) (.ref h_tem) (.ref h_out) (.int x_mm_outs) (.ref h_wri) (.int x_mm_writes) (.int x_mm_room)))), (h_wri, .inl (cy_wri, 1000, .inl f_wri)), (h_let, .inl (cy_let, 256, .inl f_let)), (h_nv, .inl (cy_nv, 8000, .inl f_nv)), (h_nn, .inl (cy_nn, 8000, .inr (.inl f_nn))), (h_na, .inl (cy_na, 8000, .inl f_na)), (h_nb, .inl (cy_nb, 8000, .inl f_nb)), (h_nc, .inl (cy_nc, 8000, .inl f_nc)), (h_isn, .inl (cy_isn, 192, .inl f_isn)), (h_tem, .inl (cy_tem, 192, .inl f_tem)), (h_out, .inl (cy_out, 1000, .inl f_out)), (h_mny, .inl (cy_mny, 32, .inl f_mny))] sz [.ref h_mm, .int p1, .int p2]) (va_Qi (fun (r : Int32) (u : (Int32) × (Int32) × (Int32) × (Int32) × (Nat → Int32) × (Nat → Int32)) => (0 ≤ (u.2.1).toInt ∧ (u.2.1).toInt ≤ 1000) ∧ (0 ≤ (u.2.2.1).toInt ∧ (u.2.2.1).toInt ≤ 1000) ∧ (0 ≤ (u.2.2.2.1).toInt ∧ (u.2.2.2.1).toInt ≤ 998)) (fun (u : (Int32) × (Int32) × (Int32) × (Int32) × (Nat → Int32) × (Nat → Int32)) (t : State) => va_P (dC, dI) cls [(h_mm, .inr (8, (mo77 v_mm (.int u.1) (.ref h_nv) (.ref h_nn) (.ref h_na) (.ref h_nb) (.ref h_nc) (.int x_mm_clauses) (.ref h_mny) (.ref h_let) (.ref h_isn) (.ref h_tem) (.ref h_out) (.int u.2.1) (.ref h_wri) (.int u.2.2.1) (.int u.2.2.2.1)))), (h_wri, .inl (cy_wri, 1000, .inl u.2.2.2.2.1)), (h_let, .inl (cy_let, 256, .inl f_let)), (h_nv, .inl (cy_nv, 8000, .inl f_nv)), (h_nn, .inl (cy_nn, 8000, .inr (.inl f_nn))), (h_na, .inl (cy_na, 8000, .inl f_na)), (h_nb, .inl (cy_nb, 8000, .inl f_nb)), (h_nc, .inl (cy_nc, 8000, .inl f_nc)), (h_isn, .inl (cy_isn, 192, .inl f_isn)), (h_tem, .inl (cy_tem, 192, .inl f_tem)), (h_out, .inl (cy_out, 1000, .inl u.2.2.2.2.2)), (h_mny, .inl (cy_mny, 32, .inl f_mny))] t.heap ∧ va_D (va_A [(h_mm, .inr (8, (mo76 v_mm (.ref h_nv) (.ref h_nn) (.ref h_na) (.ref h_nb) (.ref h_nc) (.int x_mm_clauses) (.ref h_mny) (.ref h_let) (.ref h_isn) (.ref h_tem) (.ref h_out) (.int x_mm_outs) (.ref h_wri) (.int x_mm_writes) (.int x_mm_room)))), (h_wri, .inl (cy_wri, 1000, .inl f_wri)), (h_let, .inl (cy_let, 256, .inl f_let)), (h_nv, .inl (cy_nv, 8000, .inl f_nv)), (h_nn, .inl (cy_nn, 8000, .inr (.inl f_nn))), (h_na, .inl (cy_na, 8000, .inl f_na)), (h_nb, .inl (cy_nb, 8000, .inl f_nb)), (h_nc, .inl (cy_nc, 8000, .inl f_nc)), (h_isn, .inl (cy_isn, 192, .inl f_isn)), (h_tem, .inl (cy_tem, 192, .inl f_tem)), (h_out, .inl (cy_out, 1000, .inl f_out)), (h_mny, .inl (cy_mny, 32, .inl f_mny))] sz) [(h_mm, .inr (8, (mo77 v_mm (.int u.1) (.ref h_nv) (.ref h_nn) (.ref h_na) (.ref h_nb) (.ref h_nc) (.int x_mm_clauses) (.ref h_mny) (.ref h_let) (.ref h_isn) (.ref h_tem) (.ref h_out) (.int u.2.1) (.ref h_wri) (.int u.2.2.1) (.int u.2.2.2.1)))), (h_wri, .inl (cy_wri, 1000, .inl u.2.2.2.2.1)), (h_let, .inl (cy_let, 256, .inl f_let)), (h_nv, .inl (cy_nv, 8000, .inl f_nv)), (h_nn, .inl (cy_nn, 8000, .inr (.inl f_nn))), (h_na, .inl (cy_na, 8000, .inl f_na)), (h_nb, .inl (cy_nb, 8000, .inl f_nb)), (h_nc, .inl (cy_nc, 8000, .inl f_nc)), (h_isn, .inl (cy_isn, 192, .inl f_isn)), (h_tem, .inl (cy_tem, 192, .inl f_tem)), (h_out, .inl (cy_out, 1000, .inl u.2.2.2.2.2)), (h_mny, .inl (cy_mny, 32, .inl f_mny))]) (va_A [(h_mm, .inr (8, (mo76 v_mm (.ref h_nv) (.ref h_nn) (.ref h_na) (.ref h_nb) (.ref h_nc) (.int x_mm_clauses) (.ref h_mny) (.ref h_let) (.ref h_isn) (.ref h_tem) (.ref h_out) (.int x_mm_outs) (.ref h_wri) (.int x_mm_writes) (.int x_mm_room)))), (h_wri, .inl (cy_wri, 1000, .inl f_wri)), (h_let, .inl (cy_let, 256, .inl f_let)), (h_nv, .inl (cy_nv, 8000, .inl f_nv)), (h_nn, .inl (cy_nn, 8000, .inr (.inl f_nn))), (h_na, .inl (cy_na, 8000, .inl f_na)), (h_nb, .inl (cy_nb, 8000, .inl f_nb)), (h_nc, .inl (cy_nc, 8000, .inl f_nc)), (h_isn, .inl (cy_isn, 192, .inl f_isn)), (h_tem, .inl (cy_tem, 192, .inl f_tem)), (h_out, .inl (cy_out, 1000, .inl f_out)), (h_mny, .inl (cy_mny, 32, .inl f_mny))] sz)) 0 0 (va_A [(h_mm, .inr (8, (mo76 v_mm (.ref h_nv) (.ref h_nn) (.ref h_na) (.ref h_nb) (.ref h_nc) (.int x_mm_clauses) (.ref h_mny) (.ref h_let) (.ref h_isn) (.ref h_tem) (.ref h_out) (.int x_mm_outs) (.ref h_wri) (.int x_mm_writes) (.int x_mm_room)))), (h_wri, .inl (cy_wri, 1000, .inl f_wri)), (h_let, .inl (cy_let, 256, .inl f_let)), (h_nv, .inl (cy_nv, 8000, .inl f_nv)), (h_nn, .inl (cy_nn, 8000, .inr (.inl f_nn))), (h_na, .inl (cy_na, 8000, .inl f_na)), (h_nb, .inl (cy_nb, 8000, .inl f_nb)), (h_nc, .inl (cy_nc, 8000, .inl f_nc)), (h_isn, .inl (cy_isn, 192, .inl f_isn)), (h_tem, .inl (cy_tem, 192, .inl f_tem)), (h_out, .inl (cy_out, 1000, .inl f_out)), (h_mny, .inl (cy_mny, 32, .inl f_mny))] sz) := by
  refine Met.ofW (cc := cX11_show) (maxL := 3) (ret := (some .int)) (by decide) rfl ?_
  intro p e s m args below meth c s₁ B hml hv
  obtain ⟨rfl, hsz, hP, hK, hD0, hN⟩ := hv
  have hx := B.exec
  have hb := B.bytes
  have hr := B.returns
  have hts := atoms_spec (ws := Ws yX11_show cX11_show 3 (some .int)) B.pre
  have hT : ∀ w ∈ WALL, w ∈ Ws yX11_show cX11_show 3 (some .int) := fun w h => List.mem_cons_of_mem _ h
  have hw := fun w (h : w ∈ WALL) => hts w (hT w h)
  have hown : s.vm.findClass RX11 = some m.cls := findClass_of_methodNamed B.named
  have hlocks := B.notSynchronized
  subst hsz
  have hD := hD0.self (sz := s.heap.size)
  generalize hAe : va_A [(h_mm, .inr (8, (mo76 v_mm (.ref h_nv) (.ref h_nn) (.ref h_na) (.ref h_nb) (.ref h_nc) (.int x_mm_clauses) (.ref h_mny) (.ref h_let) (.ref h_isn) (.ref h_tem) (.ref h_out) (.int x_mm_outs) (.ref h_wri) (.int x_mm_writes) (.int x_mm_room)))), (h_wri, .inl (cy_wri, 1000, .inl f_wri)), (h_let, .inl (cy_let, 256, .inl f_let)), (h_nv, .inl (cy_nv, 8000, .inl f_nv)), (h_nn, .inl (cy_nn, 8000, .inr (.inl f_nn))), (h_na, .inl (cy_na, 8000, .inl f_na)), (h_nb, .inl (cy_nb, 8000, .inl f_nb)), (h_nc, .inl (cy_nc, 8000, .inl f_nc)), (h_isn, .inl (cy_isn, 192, .inl f_isn)), (h_tem, .inl (cy_tem, 192, .inl f_tem)), (h_out, .inl (cy_out, 1000, .inl f_out)), (h_mny, .inl (cy_mny, 32, .inl f_mny))] s.heap.size = A at hD ⊢
  have hA : ∀ q : Nat, s.heap.size ≤ q → A q := fun q h => by rw [← hAe]; exact Or.inr h
  have hS : va_S A s.heap s.heap [] := va_S.rf
  have hl := lv_entry ([.ref h_mm, .int p1, .int p2]) (n := 3) (Nat.le_of_ble_eq_true rfl)
  rw [lg_entry_eq]
  generalize (lg_sl ([.ref h_mm, .int p1, .int p2]) ++ List.replicate (3 - (lg_sl ([.ref h_mm, .int p1, .int p2])).length) Slot.unset).toArray = ls at hl ⊢
  have hl : lv_has ls 3 [(0, .ref h_mm), (1, .int p1), (2, .int p2)] := hl
  refine lv_aload_n hx hb dX11_show_0 rfl (lv_at hl 0 rfl) ?_
  refine lv_iconst (v := 0) hx hb dX11_show_1 (by decide) ?_
  refine va_put (D := (dC, dI)) (ci := 8) (v := .int 0) (ty := tyX11 0) (C := RX11) (T := TX11) (N := 71) hx hb hw iwX11 tyX11 tyX11_ok nmX11 hown hK hP hD hS 0 rfl rfl 0 (by decide) (hw _ w_f_X11_1) (fun _ h9 => h9) rfl (tyX11_ok 0 (by decide)) rfl rfl (Nat.le_of_ble_eq_true rfl) dX11_show_2 (fun H locs hP hD hS => ?_)
  have hP : va_P (dC, dI) cls [(h_mm, .inr (8, (mo77 v_mm (.int 0) (.ref h_nv) (.ref h_nn) (.ref h_na) (.ref h_nb) (.ref h_nc) (.int x_mm_clauses) (.ref h_mny) (.ref h_let) (.ref h_isn) (.ref h_tem) (.ref h_out) (.int x_mm_outs) (.ref h_wri) (.int x_mm_writes) (.int x_mm_room)))), (h_wri, .inl (cy_wri, 1000, .inl f_wri)), (h_let, .inl (cy_let, 256, .inl f_let)), (h_nv, .inl (cy_nv, 8000, .inl f_nv)), (h_nn, .inl (cy_nn, 8000, .inr (.inl f_nn))), (h_na, .inl (cy_na, 8000, .inl f_na)), (h_nb, .inl (cy_nb, 8000, .inl f_nb)), (h_nc, .inl (cy_nc, 8000, .inl f_nc)), (h_isn, .inl (cy_isn, 192, .inl f_isn)), (h_tem, .inl (cy_tem, 192, .inl f_tem)), (h_out, .inl (cy_out, 1000, .inl f_out)), (h_mny, .inl (cy_mny, 32, .inl f_mny))] H := hP
  have hD : va_D A [(h_mm, .inr (8, (mo77 v_mm (.int 0) (.ref h_nv) (.ref h_nn) (.ref h_na) (.ref h_nb) (.ref h_nc) (.int x_mm_clauses) (.ref h_mny) (.ref h_let) (.ref h_isn) (.ref h_tem) (.ref h_out) (.int x_mm_outs) (.ref h_wri) (.int x_mm_writes) (.int x_mm_room)))), (h_wri, .inl (cy_wri, 1000, .inl f_wri)), (h_let, .inl (cy_let, 256, .inl f_let)), (h_nv, .inl (cy_nv, 8000, .inl f_nv)), (h_nn, .inl (cy_nn, 8000, .inr (.inl f_nn))), (h_na, .inl (cy_na, 8000, .inl f_na)), (h_nb, .inl (cy_nb, 8000, .inl f_nb)), (h_nc, .inl (cy_nc, 8000, .inl f_nc)), (h_isn, .inl (cy_isn, 192, .inl f_isn)), (h_tem, .inl (cy_tem, 192, .inl f_tem)), (h_out, .inl (cy_out, 1000, .inl f_out)), (h_mny, .inl (cy_mny, 32, .inl f_mny))] := hD
  refine lv_aload_n hx hb dX11_show_5 rfl (lv_at hl 0 rfl) ?_
  refine lv_iload_n hx hb dX11_show_6 rfl (lv_at hl 1 rfl) ?_
  refine lv_iload_n hx hb dX11_show_7 rfl (lv_at hl 2 rfl) ?_
  have hPc := hP.sub (ws' := [(h_mm, .inr (8, (mo77 v_mm (.int 0) (.ref h_nv) (.ref h_nn) (.ref h_na) (.ref h_nb) (.ref h_nc) (.int x_mm_clauses) (.ref h_mny) (.ref h_let) (.ref h_isn) (.ref h_tem) (.ref h_out) (.int x_mm_outs) (.ref h_wri) (.int x_mm_writes) (.int x_mm_room)))), (h_mny, .inl (cy_mny, 32, .inl f_mny))]) [0, 11] rfl
  have hDc := hD.sub (ws' := [(h_mm, .inr (8, (mo77 v_mm (.int 0) (.ref h_nv) (.ref h_nn) (.ref h_na) (.ref h_nb) (.ref h_nc) (.int x_mm_clauses) (.ref h_mny) (.ref h_let) (.ref h_isn) (.ref h_tem) (.ref h_out) (.int x_mm_outs) (.ref h_wri) (.int x_mm_writes) (.int x_mm_room)))), (h_mny, .inl (cy_mny, 32, .inl f_mny))]) [0, 11] (by decide) rfl
  have hKc := hK.sub (tys' := [(cy_mny, .int)]) [10] rfl
  have hFc := va_free (wc := [(h_mm, .inr (8, (mo77 v_mm (.int 0) (.ref h_nv) (.ref h_nn) (.ref h_na) (.ref h_nb) (.ref h_nc) (.int x_mm_clauses) (.ref h_mny) (.ref h_let) (.ref h_isn) (.ref h_tem) (.ref h_out) (.int x_mm_outs) (.ref h_wri) (.int x_mm_writes) (.int x_mm_room)))), (h_mny, .inl (cy_mny, 32, .inl f_mny))]) hD hS hA [0, 11] rfl
  refine va_calli (va_runV (As := [.int p1, .int p2]) (rest := []) ⟨hx, hb, hml, hown, hts⟩ (c_X11_isLiteral_e l dC dI H.size h_mm h_mny (fun k => List.getD (mo77 v_mm (.int 0) (.ref h_nv) (.ref h_nn) (.ref h_na) (.ref h_nb) (.ref h_nc) (.int x_mm_clauses) (.ref h_mny) (.ref h_let) (.ref h_isn) (.ref h_tem) (.ref h_out) (.int x_mm_outs) (.ref h_wri) (.int x_mm_writes) (.int x_mm_room)) k .null) x_mm_clauses cy_mny f_mny p1 p2 (by omega) hf_mny) (cwV 2 hts (gv hT w_m_X11_300 w_instanceMethod_X11_isLiteral ws_sel_X11_isLiteral w_ini_X11 w_code_X11_isLiteral) rfl rfl rfl (by decide +kernel) ⟨(Nat.le_of_ble_eq_true rfl), (Nat.le_of_ble_eq_true rfl)⟩) ⟨pre_blind, va_recv hK hP (ci := 8) (q0 := 0) rfl rfl, pre_of hPc hKc hDc hN⟩ rfl rfl hl.1 rfl (lv_room (Nat.le_of_ble_eq_true rfl)) dX11_show_8 ⟨(Nat.le_of_ble_eq_true rfl), (Nat.le_of_ble_eq_true rfl)⟩) hS (fun q _ h => hFc q h) hFc (fun r1 u t H locs ht hvm hq hB hz1 hk1 hS => ?_)
  obtain ⟨hP1, hD1⟩ := hB
  rw [ht] at hP1
  obtain ⟨hP, hD⟩ := va_join (wr := [(h_wri, .inl (cy_wri, 1000, .inl f_wri)), (h_let, .inl (cy_let, 256, .inl f_let)), (h_nv, .inl (cy_nv, 8000, .inl f_nv)), (h_nn, .inl (cy_nn, 8000, .inr (.inl f_nn))), (h_na, .inl (cy_na, 8000, .inl f_na)), (h_nb, .inl (cy_nb, 8000, .inl f_nb)), (h_nc, .inl (cy_nc, 8000, .inl f_nc)), (h_isn, .inl (cy_isn, 192, .inl f_isn)), (h_tem, .inl (cy_tem, 192, .inl f_tem)), (h_out, .inl (cy_out, 1000, .inl f_out))]) (w1 := [(h_mm, .inr (8, (mo77 v_mm (.int 0) (.ref h_nv) (.ref h_nn) (.ref h_na) (.ref h_nb) (.ref h_nc) (.int x_mm_clauses) (.ref h_mny) (.ref h_let) (.ref h_isn) (.ref h_tem) (.ref h_out) (.int x_mm_outs) (.ref h_wri) (.int x_mm_writes) (.int x_mm_room)))), (h_mny, .inl (cy_mny, 32, .inl f_mny))]) hP hD [0, 11] [1, 2, 3, 4, 5, 6, 7, 8, 9, 10] rfl rfl (by decide) (by decide) hk1 hFc hP1 hD1
  have hP : va_P (dC, dI) cls [(h_wri, .inl (cy_wri, 1000, .inl f_wri)), (h_let, .inl (cy_let, 256, .inl f_let)), (h_nv, .inl (cy_nv, 8000, .inl f_nv)), (h_nn, .inl (cy_nn, 8000, .inr (.inl f_nn))), (h_na, .inl (cy_na, 8000, .inl f_na)), (h_nb, .inl (cy_nb, 8000, .inl f_nb)), (h_nc, .inl (cy_nc, 8000, .inl f_nc)), (h_isn, .inl (cy_isn, 192, .inl f_isn)), (h_tem, .inl (cy_tem, 192, .inl f_tem)), (h_out, .inl (cy_out, 1000, .inl f_out)), (h_mm, .inr (8, (mo77 v_mm (.int 0) (.ref h_nv) (.ref h_nn) (.ref h_na) (.ref h_nb) (.ref h_nc) (.int x_mm_clauses) (.ref h_mny) (.ref h_let) (.ref h_isn) (.ref h_tem) (.ref h_out) (.int x_mm_outs) (.ref h_wri) (.int x_mm_writes) (.int x_mm_room)))), (h_mny, .inl (cy_mny, 32, .inl f_mny))] H := hP
  have hD : va_D A [(h_wri, .inl (cy_wri, 1000, .inl f_wri)), (h_let, .inl (cy_let, 256, .inl f_let)), (h_nv, .inl (cy_nv, 8000, .inl f_nv)), (h_nn, .inl (cy_nn, 8000, .inr (.inl f_nn))), (h_na, .inl (cy_na, 8000, .inl f_na)), (h_nb, .inl (cy_nb, 8000, .inl f_nb)), (h_nc, .inl (cy_nc, 8000, .inl f_nc)), (h_isn, .inl (cy_isn, 192, .inl f_isn)), (h_tem, .inl (cy_tem, 192, .inl f_tem)), (h_out, .inl (cy_out, 1000, .inl f_out)), (h_mm, .inr (8, (mo77 v_mm (.int 0) (.ref h_nv) (.ref h_nn) (.ref h_na) (.ref h_nb) (.ref h_nc) (.int x_mm_clauses) (.ref h_mny) (.ref h_let) (.ref h_isn) (.ref h_tem) (.ref h_out) (.int x_mm_outs) (.ref h_wri) (.int x_mm_writes) (.int x_mm_room)))), (h_mny, .inl (cy_mny, 32, .inl f_mny))] := hD
  rcases hq with ⟨rfl, hq⟩ | rfl
  · have hq : (0 ≤ ((p1)).toInt) ∧ (((p1)).toInt < ((x_mm_clauses)).toInt) ∧ (0 ≤ ((p2)).toInt) ∧ (((p2)).toInt ≤ 5) ∧ (((p2)).toInt < (f_mny ((p1)).toInt.toNat).toInt) := hq
    refine lv_if_eq (tgt := 32) hx hb dX11_show_11 (by decide) (fun c9 => absurd c9 (by decide)) (fun _ => ?_)
    refine lv_aload_n hx hb dX11_show_14 rfl (lv_at hl 0 rfl) ?_
    refine lv_aload_n hx hb dX11_show_15 rfl (lv_at hl 0 rfl) ?_
    refine lv_iload_n hx hb dX11_show_16 rfl (lv_at hl 1 rfl) ?_
    refine lv_iload_n hx hb dX11_show_17 rfl (lv_at hl 2 rfl) ?_
    have hPc := hP.sub (ws' := []) [] rfl
    have hDc := hD.sub (ws' := []) [] (by decide) rfl
    have hKc := hK.sub (tys' := []) [] rfl
    have hFc := va_free (wc := []) hD hS hA [] rfl
    refine va_calli (va_runV (As := [.int p1, .int p2]) (rest := [.ref h_mm]) ⟨hx, hb, hml, hown, hts⟩ (c_X11_litAt l dC dI H.size h_mm p1 p2 (by omega) (by omega)) (cwV 2 hts (gv hT w_m_X11_149 w_instanceMethod_X11_litAt ws_sel_X11_litAt w_ini_X11 w_code_X11_litAt) rfl rfl rfl (by decide +kernel) ⟨(Nat.le_of_ble_eq_true rfl), (Nat.le_of_ble_eq_true rfl)⟩) ⟨pre_blind, va_recv hK hP (ci := 8) (q0 := 10) rfl rfl, pre_of hPc hKc hDc hN⟩ rfl rfl hl.1 rfl (lv_room (Nat.le_of_ble_eq_true rfl)) dX11_show_18 ⟨(Nat.le_of_ble_eq_true rfl), (Nat.le_of_ble_eq_true rfl)⟩) hS (fun q _ h => hFc q h) hFc (fun r2 u t H locs ht hvm hq hB hz1 hk1 hS => ?_)
    obtain ⟨hP1, hD1⟩ := hB
    rw [ht] at hP1
    obtain ⟨hP, hD⟩ := va_join (wr := [(h_wri, .inl (cy_wri, 1000, .inl f_wri)), (h_let, .inl (cy_let, 256, .inl f_let)), (h_nv, .inl (cy_nv, 8000, .inl f_nv)), (h_nn, .inl (cy_nn, 8000, .inr (.inl f_nn))), (h_na, .inl (cy_na, 8000, .inl f_na)), (h_nb, .inl (cy_nb, 8000, .inl f_nb)), (h_nc, .inl (cy_nc, 8000, .inl f_nc)), (h_isn, .inl (cy_isn, 192, .inl f_isn)), (h_tem, .inl (cy_tem, 192, .inl f_tem)), (h_out, .inl (cy_out, 1000, .inl f_out)), (h_mm, .inr (8, (mo77 v_mm (.int 0) (.ref h_nv) (.ref h_nn) (.ref h_na) (.ref h_nb) (.ref h_nc) (.int x_mm_clauses) (.ref h_mny) (.ref h_let) (.ref h_isn) (.ref h_tem) (.ref h_out) (.int x_mm_outs) (.ref h_wri) (.int x_mm_writes) (.int x_mm_room)))), (h_mny, .inl (cy_mny, 32, .inl f_mny))]) (w1 := []) hP hD [] [0, 1, 2, 3, 4, 5, 6, 7, 8, 9, 10, 11] rfl rfl (by decide) (by decide) hk1 hFc hP1 hD1
    have hP : va_P (dC, dI) cls [(h_wri, .inl (cy_wri, 1000, .inl f_wri)), (h_let, .inl (cy_let, 256, .inl f_let)), (h_nv, .inl (cy_nv, 8000, .inl f_nv)), (h_nn, .inl (cy_nn, 8000, .inr (.inl f_nn))), (h_na, .inl (cy_na, 8000, .inl f_na)), (h_nb, .inl (cy_nb, 8000, .inl f_nb)), (h_nc, .inl (cy_nc, 8000, .inl f_nc)), (h_isn, .inl (cy_isn, 192, .inl f_isn)), (h_tem, .inl (cy_tem, 192, .inl f_tem)), (h_out, .inl (cy_out, 1000, .inl f_out)), (h_mm, .inr (8, (mo77 v_mm (.int 0) (.ref h_nv) (.ref h_nn) (.ref h_na) (.ref h_nb) (.ref h_nc) (.int x_mm_clauses) (.ref h_mny) (.ref h_let) (.ref h_isn) (.ref h_tem) (.ref h_out) (.int x_mm_outs) (.ref h_wri) (.int x_mm_writes) (.int x_mm_room)))), (h_mny, .inl (cy_mny, 32, .inl f_mny))] H := hP
    have hD : va_D A [(h_wri, .inl (cy_wri, 1000, .inl f_wri)), (h_let, .inl (cy_let, 256, .inl f_let)), (h_nv, .inl (cy_nv, 8000, .inl f_nv)), (h_nn, .inl (cy_nn, 8000, .inr (.inl f_nn))), (h_na, .inl (cy_na, 8000, .inl f_na)), (h_nb, .inl (cy_nb, 8000, .inl f_nb)), (h_nc, .inl (cy_nc, 8000, .inl f_nc)), (h_isn, .inl (cy_isn, 192, .inl f_isn)), (h_tem, .inl (cy_tem, 192, .inl f_tem)), (h_out, .inl (cy_out, 1000, .inl f_out)), (h_mm, .inr (8, (mo77 v_mm (.int 0) (.ref h_nv) (.ref h_nn) (.ref h_na) (.ref h_nb) (.ref h_nc) (.int x_mm_clauses) (.ref h_mny) (.ref h_let) (.ref h_isn) (.ref h_tem) (.ref h_out) (.int x_mm_outs) (.ref h_wri) (.int x_mm_writes) (.int x_mm_room)))), (h_mny, .inl (cy_mny, 32, .inl f_mny))] := hD
    obtain ⟨k3, k4⟩ := hq
    have k3 : 0 ≤ (r2).toInt ∧ (r2).toInt ≤ 191 := k3
    have k4 : ((r2)).toInt = 6 * ((p1)).toInt + ((p2)).toInt := k4
    refine lv_iconst (v := (-1)) hx hb dX11_show_21 (by decide) ?_
    refine lv_iload_n hx hb dX11_show_22 rfl (lv_at hl 1 rfl) ?_
    refine lv_sipush (v := 900) hx hb dX11_show_23 (by decide) ?_
    have hm9 := hf_mny (p1).toInt.toNat
    have tg9 := tm_get (z := f_tem (r2).toInt.toNat) (c := p1) (t := r2) (l := (p2).toInt) hn_tms (by omega) (by rw [clamp_nat (i := p1) (by omega)]; omega) (by omega) (by rw [clamp_nat (i := r2) (by omega)])
    have cstm1 : ((-1) : Int32).toInt = -1 := by decide
    have cst900 : (900 : Int32).toInt = 900 := by decide
    have hPc := hP.sub (ws' := [(h_mm, .inr (8, (mo77 v_mm (.int 0) (.ref h_nv) (.ref h_nn) (.ref h_na) (.ref h_nb) (.ref h_nc) (.int x_mm_clauses) (.ref h_mny) (.ref h_let) (.ref h_isn) (.ref h_tem) (.ref h_out) (.int x_mm_outs) (.ref h_wri) (.int x_mm_writes) (.int x_mm_room)))), (h_wri, .inl (cy_wri, 1000, .inl f_wri)), (h_let, .inl (cy_let, 256, .inl f_let)), (h_nv, .inl (cy_nv, 8000, .inl f_nv)), (h_nn, .inl (cy_nn, 8000, .inr (.inl f_nn))), (h_na, .inl (cy_na, 8000, .inl f_na)), (h_nb, .inl (cy_nb, 8000, .inl f_nb)), (h_nc, .inl (cy_nc, 8000, .inl f_nc)), (h_isn, .inl (cy_isn, 192, .inl f_isn)), (h_tem, .inl (cy_tem, 192, .inl f_tem)), (h_out, .inl (cy_out, 1000, .inl f_out))]) [10, 0, 1, 2, 3, 4, 5, 6, 7, 8, 9] rfl
    have hDc := hD.sub (ws' := [(h_mm, .inr (8, (mo77 v_mm (.int 0) (.ref h_nv) (.ref h_nn) (.ref h_na) (.ref h_nb) (.ref h_nc) (.int x_mm_clauses) (.ref h_mny) (.ref h_let) (.ref h_isn) (.ref h_tem) (.ref h_out) (.int x_mm_outs) (.ref h_wri) (.int x_mm_writes) (.int x_mm_room)))), (h_wri, .inl (cy_wri, 1000, .inl f_wri)), (h_let, .inl (cy_let, 256, .inl f_let)), (h_nv, .inl (cy_nv, 8000, .inl f_nv)), (h_nn, .inl (cy_nn, 8000, .inr (.inl f_nn))), (h_na, .inl (cy_na, 8000, .inl f_na)), (h_nb, .inl (cy_nb, 8000, .inl f_nb)), (h_nc, .inl (cy_nc, 8000, .inl f_nc)), (h_isn, .inl (cy_isn, 192, .inl f_isn)), (h_tem, .inl (cy_tem, 192, .inl f_tem)), (h_out, .inl (cy_out, 1000, .inl f_out))]) [10, 0, 1, 2, 3, 4, 5, 6, 7, 8, 9] (by decide) rfl
    have hKc := hK.sub (tys' := [(cy_wri, .int), (cy_let, .int), (cy_nv, .int), (cy_nn, .long), (cy_na, .int), (cy_nb, .int), (cy_nc, .int), (cy_isn, .boolean), (cy_tem, .int), (cy_out, .int)]) [0, 1, 2, 3, 4, 5, 6, 7, 8, 9] rfl
    have hFc := va_free (wc := [(h_mm, .inr (8, (mo77 v_mm (.int 0) (.ref h_nv) (.ref h_nn) (.ref h_na) (.ref h_nb) (.ref h_nc) (.int x_mm_clauses) (.ref h_mny) (.ref h_let) (.ref h_isn) (.ref h_tem) (.ref h_out) (.int x_mm_outs) (.ref h_wri) (.int x_mm_writes) (.int x_mm_room)))), (h_wri, .inl (cy_wri, 1000, .inl f_wri)), (h_let, .inl (cy_let, 256, .inl f_let)), (h_nv, .inl (cy_nv, 8000, .inl f_nv)), (h_nn, .inl (cy_nn, 8000, .inr (.inl f_nn))), (h_na, .inl (cy_na, 8000, .inl f_na)), (h_nb, .inl (cy_nb, 8000, .inl f_nb)), (h_nc, .inl (cy_nc, 8000, .inl f_nc)), (h_isn, .inl (cy_isn, 192, .inl f_isn)), (h_tem, .inl (cy_tem, 192, .inl f_tem)), (h_out, .inl (cy_out, 1000, .inl f_out))]) hD hS hA [10, 0, 1, 2, 3, 4, 5, 6, 7, 8, 9] rfl
    refine va_calli (va_runV (As := [.int r2, .int (-1), .int p1, .int 900]) (rest := []) ⟨hx, hb, hml, hown, hts⟩ (c_X11_shows_0 l dC dI H.size h_mm h_wri h_let h_nv h_nn h_na h_nb h_nc h_isn h_tem h_out (fun k => List.getD (mo77 v_mm (.int 0) (.ref h_nv) (.ref h_nn) (.ref h_na) (.ref h_nb) (.ref h_nc) (.int x_mm_clauses) (.ref h_mny) (.ref h_let) (.ref h_isn) (.ref h_tem) (.ref h_out) (.int x_mm_outs) (.ref h_wri) (.int x_mm_writes) (.int x_mm_room)) k .null) x_mm_outs x_mm_writes x_mm_room cy_wri f_wri cy_let f_let cy_nv f_nv cy_nn f_nn cy_na f_na cy_nb f_nb cy_nc f_nc cy_isn f_isn cy_tem f_tem cy_out f_out r2 p1 N hz (by omega) (by omega) (by omega) hf_nv hf_na hf_nb hf_nc hf_tem (by omega) (by omega) (by omega) (by omega) hn_nds) (cwV 4 hts (gv hT w_m_X11_465 w_instanceMethod_X11_shows ws_sel_X11_shows w_ini_X11 w_code_X11_shows) rfl rfl rfl (by decide +kernel) ⟨(Nat.le_of_ble_eq_true rfl), (Nat.le_of_ble_eq_true rfl)⟩) ⟨pre_blind, va_recv hK hP (ci := 8) (q0 := 10) rfl rfl, pre_of hPc hKc hDc hN⟩ rfl rfl hl.1 rfl (lv_room (Nat.le_of_ble_eq_true rfl)) dX11_show_26 ⟨(Nat.le_of_ble_eq_true rfl), (Nat.le_of_ble_eq_true rfl)⟩) hS (fun q _ h => hFc q h) hFc (fun r5 u t H locs ht hvm hq hB hz1 hk1 hS => ?_)
    obtain ⟨z6, z7, z8, f9, f10⟩ := u
    obtain ⟨hP1, hD1⟩ := hB
    rw [ht] at hP1
    obtain ⟨hP, hD⟩ := va_join (wr := [(h_mny, .inl (cy_mny, 32, .inl f_mny))]) (w1 := [(h_mm, .inr (8, (mo77 v_mm (.int 0) (.ref h_nv) (.ref h_nn) (.ref h_na) (.ref h_nb) (.ref h_nc) (.int x_mm_clauses) (.ref h_mny) (.ref h_let) (.ref h_isn) (.ref h_tem) (.ref h_out) (.int z6) (.ref h_wri) (.int z7) (.int z8)))), (h_wri, .inl (cy_wri, 1000, .inl f9)), (h_let, .inl (cy_let, 256, .inl f_let)), (h_nv, .inl (cy_nv, 8000, .inl f_nv)), (h_nn, .inl (cy_nn, 8000, .inr (.inl f_nn))), (h_na, .inl (cy_na, 8000, .inl f_na)), (h_nb, .inl (cy_nb, 8000, .inl f_nb)), (h_nc, .inl (cy_nc, 8000, .inl f_nc)), (h_isn, .inl (cy_isn, 192, .inl f_isn)), (h_tem, .inl (cy_tem, 192, .inl f_tem)), (h_out, .inl (cy_out, 1000, .inl f10))]) hP hD [10, 0, 1, 2, 3, 4, 5, 6, 7, 8, 9] [11] rfl rfl (by decide) (by decide) hk1 hFc hP1 hD1
    have hP : va_P (dC, dI) cls [(h_mny, .inl (cy_mny, 32, .inl f_mny)), (h_mm, .inr (8, (mo77 v_mm (.int 0) (.ref h_nv) (.ref h_nn) (.ref h_na) (.ref h_nb) (.ref h_nc) (.int x_mm_clauses) (.ref h_mny) (.ref h_let) (.ref h_isn) (.ref h_tem) (.ref h_out) (.int z6) (.ref h_wri) (.int z7) (.int z8)))), (h_wri, .inl (cy_wri, 1000, .inl f9)), (h_let, .inl (cy_let, 256, .inl f_let)), (h_nv, .inl (cy_nv, 8000, .inl f_nv)), (h_nn, .inl (cy_nn, 8000, .inr (.inl f_nn))), (h_na, .inl (cy_na, 8000, .inl f_na)), (h_nb, .inl (cy_nb, 8000, .inl f_nb)), (h_nc, .inl (cy_nc, 8000, .inl f_nc)), (h_isn, .inl (cy_isn, 192, .inl f_isn)), (h_tem, .inl (cy_tem, 192, .inl f_tem)), (h_out, .inl (cy_out, 1000, .inl f10))] H := hP
    have hD : va_D A [(h_mny, .inl (cy_mny, 32, .inl f_mny)), (h_mm, .inr (8, (mo77 v_mm (.int 0) (.ref h_nv) (.ref h_nn) (.ref h_na) (.ref h_nb) (.ref h_nc) (.int x_mm_clauses) (.ref h_mny) (.ref h_let) (.ref h_isn) (.ref h_tem) (.ref h_out) (.int z6) (.ref h_wri) (.int z7) (.int z8)))), (h_wri, .inl (cy_wri, 1000, .inl f9)), (h_let, .inl (cy_let, 256, .inl f_let)), (h_nv, .inl (cy_nv, 8000, .inl f_nv)), (h_nn, .inl (cy_nn, 8000, .inr (.inl f_nn))), (h_na, .inl (cy_na, 8000, .inl f_na)), (h_nb, .inl (cy_nb, 8000, .inl f_nb)), (h_nc, .inl (cy_nc, 8000, .inl f_nc)), (h_isn, .inl (cy_isn, 192, .inl f_isn)), (h_tem, .inl (cy_tem, 192, .inl f_tem)), (h_out, .inl (cy_out, 1000, .inl f10))] := hD
    obtain ⟨k11, k12, k13⟩ := hq
    have k11 : 0 ≤ ((z6)).toInt ∧ ((z6)).toInt ≤ 1000 := k11
    have k12 : 0 ≤ ((z7)).toInt ∧ ((z7)).toInt ≤ 1000 := k12
    have k13 : 0 ≤ ((z8)).toInt ∧ ((z8)).toInt ≤ 998 := k13
    refine lv_goto (tgt := 33) hx hb dX11_show_29 (by decide) ?_
    have hP : va_P (dC, dI) cls [(h_mm, .inr (8, (mo77 v_mm (.int 0) (.ref h_nv) (.ref h_nn) (.ref h_na) (.ref h_nb) (.ref h_nc) (.int x_mm_clauses) (.ref h_mny) (.ref h_let) (.ref h_isn) (.ref h_tem) (.ref h_out) (.int z6) (.ref h_wri) (.int z7) (.int z8)))), (h_wri, .inl (cy_wri, 1000, .inl f9)), (h_let, .inl (cy_let, 256, .inl f_let)), (h_nv, .inl (cy_nv, 8000, .inl f_nv)), (h_nn, .inl (cy_nn, 8000, .inr (.inl f_nn))), (h_na, .inl (cy_na, 8000, .inl f_na)), (h_nb, .inl (cy_nb, 8000, .inl f_nb)), (h_nc, .inl (cy_nc, 8000, .inl f_nc)), (h_isn, .inl (cy_isn, 192, .inl f_isn)), (h_tem, .inl (cy_tem, 192, .inl f_tem)), (h_out, .inl (cy_out, 1000, .inl f10)), (h_mny, .inl (cy_mny, 32, .inl f_mny))] H := hP.sub [1, 2, 3, 4, 5, 6, 7, 8, 9, 10, 11, 0] rfl
    have hD : va_D A [(h_mm, .inr (8, (mo77 v_mm (.int 0) (.ref h_nv) (.ref h_nn) (.ref h_na) (.ref h_nb) (.ref h_nc) (.int x_mm_clauses) (.ref h_mny) (.ref h_let) (.ref h_isn) (.ref h_tem) (.ref h_out) (.int z6) (.ref h_wri) (.int z7) (.int z8)))), (h_wri, .inl (cy_wri, 1000, .inl f9)), (h_let, .inl (cy_let, 256, .inl f_let)), (h_nv, .inl (cy_nv, 8000, .inl f_nv)), (h_nn, .inl (cy_nn, 8000, .inr (.inl f_nn))), (h_na, .inl (cy_na, 8000, .inl f_na)), (h_nb, .inl (cy_nb, 8000, .inl f_nb)), (h_nc, .inl (cy_nc, 8000, .inl f_nc)), (h_isn, .inl (cy_isn, 192, .inl f_isn)), (h_tem, .inl (cy_tem, 192, .inl f_tem)), (h_out, .inl (cy_out, 1000, .inl f10)), (h_mny, .inl (cy_mny, 32, .inl f_mny))] := hD.sub [1, 2, 3, 4, 5, 6, 7, 8, 9, 10, 11, 0] (by decide) rfl
    refine W.widen (k := 0) (n := 0) (Nat.le_of_ble_eq_true rfl) (Nat.le_of_ble_eq_true rfl) ?_
    have cst0 : (0 : Int32).toInt = 0 := by decide
    have w14 : 0 ≤ ((z6)).toInt ∧ ((z6)).toInt ≤ 1000 := by omega
    have w15 : 0 ≤ ((z7)).toInt ∧ ((z7)).toInt ≤ 1000 := by omega
    have w16 : 0 ≤ ((z8)).toInt ∧ ((z8)).toInt ≤ 998 := by omega
    exact W.iret (v := r5) hx hb hr (fun t ht hW => ⟨⟨r5, (0, z6, z7, z8, f9, f10), rfl, ⟨w14, w15, w16⟩, by rw [ht]; exact hP, hD⟩, hS.F ht⟩) hS.2.2 dX11_show_33
  · have hq : True := trivial
    refine lv_if_eq (tgt := 32) hx hb dX11_show_11 (by decide) (fun _ => ?_) (fun c9 => absurd c9 (by decide))
    refine lv_iconst (v := (-1)) hx hb dX11_show_32 (by decide) ?_
    have hP : va_P (dC, dI) cls [(h_mm, .inr (8, (mo77 v_mm (.int 0) (.ref h_nv) (.ref h_nn) (.ref h_na) (.ref h_nb) (.ref h_nc) (.int x_mm_clauses) (.ref h_mny) (.ref h_let) (.ref h_isn) (.ref h_tem) (.ref h_out) (.int x_mm_outs) (.ref h_wri) (.int x_mm_writes) (.int x_mm_room)))), (h_wri, .inl (cy_wri, 1000, .inl f_wri)), (h_let, .inl (cy_let, 256, .inl f_let)), (h_nv, .inl (cy_nv, 8000, .inl f_nv)), (h_nn, .inl (cy_nn, 8000, .inr (.inl f_nn))), (h_na, .inl (cy_na, 8000, .inl f_na)), (h_nb, .inl (cy_nb, 8000, .inl f_nb)), (h_nc, .inl (cy_nc, 8000, .inl f_nc)), (h_isn, .inl (cy_isn, 192, .inl f_isn)), (h_tem, .inl (cy_tem, 192, .inl f_tem)), (h_out, .inl (cy_out, 1000, .inl f_out)), (h_mny, .inl (cy_mny, 32, .inl f_mny))] H := hP.sub [10, 0, 1, 2, 3, 4, 5, 6, 7, 8, 9, 11] rfl
    have hD : va_D A [(h_mm, .inr (8, (mo77 v_mm (.int 0) (.ref h_nv) (.ref h_nn) (.ref h_na) (.ref h_nb) (.ref h_nc) (.int x_mm_clauses) (.ref h_mny) (.ref h_let) (.ref h_isn) (.ref h_tem) (.ref h_out) (.int x_mm_outs) (.ref h_wri) (.int x_mm_writes) (.int x_mm_room)))), (h_wri, .inl (cy_wri, 1000, .inl f_wri)), (h_let, .inl (cy_let, 256, .inl f_let)), (h_nv, .inl (cy_nv, 8000, .inl f_nv)), (h_nn, .inl (cy_nn, 8000, .inr (.inl f_nn))), (h_na, .inl (cy_na, 8000, .inl f_na)), (h_nb, .inl (cy_nb, 8000, .inl f_nb)), (h_nc, .inl (cy_nc, 8000, .inl f_nc)), (h_isn, .inl (cy_isn, 192, .inl f_isn)), (h_tem, .inl (cy_tem, 192, .inl f_tem)), (h_out, .inl (cy_out, 1000, .inl f_out)), (h_mny, .inl (cy_mny, 32, .inl f_mny))] := hD.sub [10, 0, 1, 2, 3, 4, 5, 6, 7, 8, 9, 11] (by decide) rfl
    refine W.widen (k := 0) (n := 0) (Nat.le_of_ble_eq_true rfl) (Nat.le_of_ble_eq_true rfl) ?_
    have cstm1 : ((-1) : Int32).toInt = -1 := by decide
    have cst0 : (0 : Int32).toInt = 0 := by decide
    have w17 : 0 ≤ ((x_mm_outs)).toInt ∧ ((x_mm_outs)).toInt ≤ 1000 := by omega
    have w18 : 0 ≤ ((x_mm_writes)).toInt ∧ ((x_mm_writes)).toInt ≤ 1000 := by omega
    have w19 : 0 ≤ ((x_mm_room)).toInt ∧ ((x_mm_room)).toInt ≤ 998 := by omega
    exact W.iret (v := (-1)) hx hb hr (fun t ht hW => ⟨⟨(-1), (0, x_mm_outs, x_mm_writes, x_mm_room, f_wri, f_out), rfl, ⟨w17, w18, w19⟩, by rw [ht]; exact hP, hD⟩, hS.F ht⟩) hS.2.2 dX11_show_33

set_option maxHeartbeats 8000000 in
set_option maxRecDepth 100000 in
theorem c_X11_shown (l : Launch) (dC : Nat → ClassId) (dI : Nat → Nat → Nat) (sz : Nat) (h_mm : Nat) (h_wri : Nat) (h_let : Nat) (h_nv : Nat) (h_nn : Nat) (h_na : Nat) (h_nb : Nat) (h_nc : Nat) (h_bto : Nat) (h_bin : Nat) (h_cof : Nat) (h_isn : Nat) (h_tem : Nat) (h_out : Nat) (h_mny : Nat) (v_mm : Nat → Value) (x_mm_clauses : Int32) (x_mm_goneTo : Int32) (x_mm_goneIn : Int32) (x_mm_instances : Int32) (x_mm_isProof : Int32) (x_mm_outs : Int32) (x_mm_writes : Int32) (x_mm_room : Int32) (cy_wri : ClassId) (f_wri : Nat → Int32) (cy_let : ClassId) (f_let : Nat → Int32) (cy_nv : ClassId) (f_nv : Nat → Int32) (cy_nn : ClassId) (f_nn : Nat → Int64) (cy_na : ClassId) (f_na : Nat → Int32) (cy_nb : ClassId) (f_nb : Nat → Int32) (cy_nc : ClassId) (f_nc : Nat → Int32) (cy_bto : ClassId) (f_bto : Nat → Int32) (cy_bin : ClassId) (f_bin : Nat → Int32) (cy_cof : ClassId) (f_cof : Nat → Int32) (cy_isn : ClassId) (f_isn : Nat → Int32) (cy_tem : ClassId) (f_tem : Nat → Int32) (cy_out : ClassId) (f_out : Nat → Int32) (cy_mny : ClassId) (f_mny : Nat → Int32) (p1 : Int32) (p2 : Int32) (N : Int) (hz : Nat → Nat) (hx_mm_clauses : 0 ≤ (x_mm_clauses).toInt ∧ (x_mm_clauses).toInt ≤ 16) (hx_mm_goneTo : 0 ≤ (x_mm_goneTo).toInt ∧ (x_mm_goneTo).toInt ≤ 7999) (hx_mm_goneIn : 0 ≤ (x_mm_goneIn).toInt ∧ (x_mm_goneIn).toInt ≤ 31) (hx_mm_instances : 0 ≤ (x_mm_instances).toInt ∧ (x_mm_instances).toInt ≤ 30) (hx_mm_isProof : 0 ≤ (x_mm_isProof).toInt ∧ (x_mm_isProof).toInt ≤ 1) (hx_mm_outs : 0 ≤ (x_mm_outs).toInt ∧ (x_mm_outs).toInt ≤ 1000) (hx_mm_writes : 0 ≤ (x_mm_writes).toInt ∧ (x_mm_writes).toInt ≤ 1000) (hx_mm_room : 0 ≤ (x_mm_room).toInt ∧ (x_mm_room).toInt ≤ 998) (hf_nv : Rg (-1) 7 f_nv) (hf_na : Rg (-1) 7999 f_na) (hf_nb : Rg (-1) 7999 f_nb) (hf_nc : Rg (-1) 7999 f_nc) (hf_bto : Rg (-1) 7999 f_bto) (hf_bin : Rg 0 31 f_bin) (hf_cof : Rg 0 15 f_cof) (hf_tem : Rg 0 7999 f_tem) (hf_mny : Rg 0 6 f_mny) (q0 : N ≤ 8000) (hn_tms : TM 0 N hz 0 (x_mm_clauses).toInt f_mny f_tem) (hn_prf : (x_mm_isProof).toInt = 0 ∨ (BI 0 29 N hz f_nv f_na f_nb f_nc f_bto f_bin ∧ INS (x_mm_instances).toInt (x_mm_clauses).toInt f_cof)) : Met l yX11_shown (Ws yX11_shown cX11_shown 3 (some .int)) (({ frames := 1561, cells := 0, slots := 0, locals := 40524 } : Room)) (PRE (dC, dI) cls [(cy_wri, .int), (cy_let, .int), (cy_nv, .int), (cy_nn, .long), (cy_na, .int), (cy_nb, .int), (cy_nc, .int), (cy_bto, .int), (cy_bin, .int), (cy_cof, .int), (cy_isn, .boolean), (cy_tem, .int), (cy_out, .int), (cy_mny, .int)] [(h_mm, .inr (8, (mo78 v_mm (.ref h_nv) (.ref h_nn) (.ref h_na) (.ref h_nb) (.ref h_nc) (.int x_mm_clauses) (.ref h_mny) (.ref h_let) (.ref h_isn) (.ref h_tem) (.ref h_bto) (.ref h_bin) (.int x_mm_goneTo) (.int x_mm_goneIn) (.int x_mm_instances) (.ref h_cof) (.int x_mm_isProof) (.ref h_out) (.int x_mm_outs) (.ref h_wri) (.int x_mm_writes) (.int x_mm_room)))), (h_wri, .inl (cy_wri, 1000, .inl f_wri)), (h_let, .inl (cy_let, 256, .inl f_let)), (h_nv, .inl (cy_nv, 8000, .inl f_nv)), (h_nn, .inl (cy_nn, 8000, .inr (.inl f_nn))), (h_na, .inl (cy_na, 8000, .inl f_na)), (h_nb, .inl (cy_nb, 8000, .inl f_nb)), (h_nc, .inl (cy_nc, 8000, .inl f_nc)), (h_bto, .inl (cy_bto, 256, .inl f_bto)), (h_bin, .inl (cy_bin, 256, .inl f_bin)), (h_cof, .inl (cy_cof, 31, .inl f_cof)), (h_isn, .inl (cy_isn, 192, .inl f_isn)), (h_tem, .inl (cy_tem, 192, .inl f_tem)), (h_out, .inl (cy_out, 1000, .inl f_out)), (h_mny, .inl (cy_mny, 32, .inl f_mny))] sz [.ref h_mm, .int p1, .int p2]) (va_Qi (fun (r : Int32) (u : (Int32) × (Int32) × (Int32) × (Int32) × (Int32) × (Int32) × (Nat → Int32) × (Nat → Int32)) => (0 ≤ (u.2.1).toInt ∧ (u.2.1).toInt ≤ 7999) ∧ (0 ≤ (u.2.2.1).toInt ∧ (u.2.2.1).toInt ≤ 31) ∧ (0 ≤ (u.2.2.2.1).toInt ∧ (u.2.2.2.1).toInt ≤ 1000) ∧ (0 ≤ (u.2.2.2.2.1).toInt ∧ (u.2.2.2.2.1).toInt ≤ 1000) ∧ (0 ≤ (u.2.2.2.2.2.1).toInt ∧ (u.2.2.2.2.2.1).toInt ≤ 998)) (fun (u : (Int32) × (Int32) × (Int32) × (Int32) × (Int32) × (Int32) × (Nat → Int32) × (Nat → Int32)) (t : State) => va_P (dC, dI) cls [(h_mm, .inr (8, (mo79 v_mm (.int u.1) (.ref h_nv) (.ref h_nn) (.ref h_na) (.ref h_nb) (.ref h_nc) (.int x_mm_clauses) (.ref h_mny) (.ref h_let) (.ref h_isn) (.ref h_tem) (.ref h_bto) (.ref h_bin) (.int u.2.1) (.int u.2.2.1) (.int x_mm_instances) (.ref h_cof) (.int x_mm_isProof) (.ref h_out) (.int u.2.2.2.1) (.ref h_wri) (.int u.2.2.2.2.1) (.int u.2.2.2.2.2.1)))), (h_wri, .inl (cy_wri, 1000, .inl u.2.2.2.2.2.2.1)), (h_let, .inl (cy_let, 256, .inl f_let)), (h_nv, .inl (cy_nv, 8000, .inl f_nv)), (h_nn, .inl (cy_nn, 8000, .inr (.inl f_nn))), (h_na, .inl (cy_na, 8000, .inl f_na)), (h_nb, .inl (cy_nb, 8000, .inl f_nb)), (h_nc, .inl (cy_nc, 8000, .inl f_nc)), (h_bto, .inl (cy_bto, 256, .inl f_bto)), (h_bin, .inl (cy_bin, 256, .inl f_bin)), (h_cof, .inl (cy_cof, 31, .inl f_cof)), (h_isn, .inl (cy_isn, 192, .inl f_isn)), (h_tem, .inl (cy_tem, 192, .inl f_tem)), (h_out, .inl (cy_out, 1000, .inl u.2.2.2.2.2.2.2)), (h_mny, .inl (cy_mny, 32, .inl f_mny))] t.heap ∧ va_D (va_A [(h_mm, .inr (8, (mo78 v_mm (.ref h_nv) (.ref h_nn) (.ref h_na) (.ref h_nb) (.ref h_nc) (.int x_mm_clauses) (.ref h_mny) (.ref h_let) (.ref h_isn) (.ref h_tem) (.ref h_bto) (.ref h_bin) (.int x_mm_goneTo) (.int x_mm_goneIn) (.int x_mm_instances) (.ref h_cof) (.int x_mm_isProof) (.ref h_out) (.int x_mm_outs) (.ref h_wri) (.int x_mm_writes) (.int x_mm_room)))), (h_wri, .inl (cy_wri, 1000, .inl f_wri)), (h_let, .inl (cy_let, 256, .inl f_let)), (h_nv, .inl (cy_nv, 8000, .inl f_nv)), (h_nn, .inl (cy_nn, 8000, .inr (.inl f_nn))), (h_na, .inl (cy_na, 8000, .inl f_na)), (h_nb, .inl (cy_nb, 8000, .inl f_nb)), (h_nc, .inl (cy_nc, 8000, .inl f_nc)), (h_bto, .inl (cy_bto, 256, .inl f_bto)), (h_bin, .inl (cy_bin, 256, .inl f_bin)), (h_cof, .inl (cy_cof, 31, .inl f_cof)), (h_isn, .inl (cy_isn, 192, .inl f_isn)), (h_tem, .inl (cy_tem, 192, .inl f_tem)), (h_out, .inl (cy_out, 1000, .inl f_out)), (h_mny, .inl (cy_mny, 32, .inl f_mny))] sz) [(h_mm, .inr (8, (mo79 v_mm (.int u.1) (.ref h_nv) (.ref h_nn) (.ref h_na) (.ref h_nb) (.ref h_nc) (.int x_mm_clauses) (.ref h_mny) (.ref h_let) (.ref h_isn) (.ref h_tem) (.ref h_bto) (.ref h_bin) (.int u.2.1) (.int u.2.2.1) (.int x_mm_instances) (.ref h_cof) (.int x_mm_isProof) (.ref h_out) (.int u.2.2.2.1) (.ref h_wri) (.int u.2.2.2.2.1) (.int u.2.2.2.2.2.1)))), (h_wri, .inl (cy_wri, 1000, .inl u.2.2.2.2.2.2.1)), (h_let, .inl (cy_let, 256, .inl f_let)), (h_nv, .inl (cy_nv, 8000, .inl f_nv)), (h_nn, .inl (cy_nn, 8000, .inr (.inl f_nn))), (h_na, .inl (cy_na, 8000, .inl f_na)), (h_nb, .inl (cy_nb, 8000, .inl f_nb)), (h_nc, .inl (cy_nc, 8000, .inl f_nc)), (h_bto, .inl (cy_bto, 256, .inl f_bto)), (h_bin, .inl (cy_bin, 256, .inl f_bin)), (h_cof, .inl (cy_cof, 31, .inl f_cof)), (h_isn, .inl (cy_isn, 192, .inl f_isn)), (h_tem, .inl (cy_tem, 192, .inl f_tem)), (h_out, .inl (cy_out, 1000, .inl u.2.2.2.2.2.2.2)), (h_mny, .inl (cy_mny, 32, .inl f_mny))]) (va_A [(h_mm, .inr (8, (mo78 v_mm (.ref h_nv) (.ref h_nn) (.ref h_na) (.ref h_nb) (.ref h_nc) (.int x_mm_clauses) (.ref h_mny) (.ref h_let) (.ref h_isn) (.ref h_tem) (.ref h_bto) (.ref h_bin) (.int x_mm_goneTo) (.int x_mm_goneIn) (.int x_mm_instances) (.ref h_cof) (.int x_mm_isProof) (.ref h_out) (.int x_mm_outs) (.ref h_wri) (.int x_mm_writes) (.int x_mm_room)))), (h_wri, .inl (cy_wri, 1000, .inl f_wri)), (h_let, .inl (cy_let, 256, .inl f_let)), (h_nv, .inl (cy_nv, 8000, .inl f_nv)), (h_nn, .inl (cy_nn, 8000, .inr (.inl f_nn))), (h_na, .inl (cy_na, 8000, .inl f_na)), (h_nb, .inl (cy_nb, 8000, .inl f_nb)), (h_nc, .inl (cy_nc, 8000, .inl f_nc)), (h_bto, .inl (cy_bto, 256, .inl f_bto)), (h_bin, .inl (cy_bin, 256, .inl f_bin)), (h_cof, .inl (cy_cof, 31, .inl f_cof)), (h_isn, .inl (cy_isn, 192, .inl f_isn)), (h_tem, .inl (cy_tem, 192, .inl f_tem)), (h_out, .inl (cy_out, 1000, .inl f_out)), (h_mny, .inl (cy_mny, 32, .inl f_mny))] sz)) 0 0 (va_A [(h_mm, .inr (8, (mo78 v_mm (.ref h_nv) (.ref h_nn) (.ref h_na) (.ref h_nb) (.ref h_nc) (.int x_mm_clauses) (.ref h_mny) (.ref h_let) (.ref h_isn) (.ref h_tem) (.ref h_bto) (.ref h_bin) (.int x_mm_goneTo) (.int x_mm_goneIn) (.int x_mm_instances) (.ref h_cof) (.int x_mm_isProof) (.ref h_out) (.int x_mm_outs) (.ref h_wri) (.int x_mm_writes) (.int x_mm_room)))), (h_wri, .inl (cy_wri, 1000, .inl f_wri)), (h_let, .inl (cy_let, 256, .inl f_let)), (h_nv, .inl (cy_nv, 8000, .inl f_nv)), (h_nn, .inl (cy_nn, 8000, .inr (.inl f_nn))), (h_na, .inl (cy_na, 8000, .inl f_na)), (h_nb, .inl (cy_nb, 8000, .inl f_nb)), (h_nc, .inl (cy_nc, 8000, .inl f_nc)), (h_bto, .inl (cy_bto, 256, .inl f_bto)), (h_bin, .inl (cy_bin, 256, .inl f_bin)), (h_cof, .inl (cy_cof, 31, .inl f_cof)), (h_isn, .inl (cy_isn, 192, .inl f_isn)), (h_tem, .inl (cy_tem, 192, .inl f_tem)), (h_out, .inl (cy_out, 1000, .inl f_out)), (h_mny, .inl (cy_mny, 32, .inl f_mny))] sz) := by
  refine Met.ofW (cc := cX11_shown) (maxL := 3) (ret := (some .int)) (by decide) rfl ?_
  intro p e s m args below meth c s₁ B hml hv
  obtain ⟨rfl, hsz, hP, hK, hD0, hN⟩ := hv
  have hx := B.exec
  have hb := B.bytes
  have hr := B.returns
  have hts := atoms_spec (ws := Ws yX11_shown cX11_shown 3 (some .int)) B.pre
  have hT : ∀ w ∈ WALL, w ∈ Ws yX11_shown cX11_shown 3 (some .int) := fun w h => List.mem_cons_of_mem _ h
  have hw := fun w (h : w ∈ WALL) => hts w (hT w h)
  have hown : s.vm.findClass RX11 = some m.cls := findClass_of_methodNamed B.named
  have hlocks := B.notSynchronized
  subst hsz
  have hD := hD0.self (sz := s.heap.size)
  generalize hAe : va_A [(h_mm, .inr (8, (mo78 v_mm (.ref h_nv) (.ref h_nn) (.ref h_na) (.ref h_nb) (.ref h_nc) (.int x_mm_clauses) (.ref h_mny) (.ref h_let) (.ref h_isn) (.ref h_tem) (.ref h_bto) (.ref h_bin) (.int x_mm_goneTo) (.int x_mm_goneIn) (.int x_mm_instances) (.ref h_cof) (.int x_mm_isProof) (.ref h_out) (.int x_mm_outs) (.ref h_wri) (.int x_mm_writes) (.int x_mm_room)))), (h_wri, .inl (cy_wri, 1000, .inl f_wri)), (h_let, .inl (cy_let, 256, .inl f_let)), (h_nv, .inl (cy_nv, 8000, .inl f_nv)), (h_nn, .inl (cy_nn, 8000, .inr (.inl f_nn))), (h_na, .inl (cy_na, 8000, .inl f_na)), (h_nb, .inl (cy_nb, 8000, .inl f_nb)), (h_nc, .inl (cy_nc, 8000, .inl f_nc)), (h_bto, .inl (cy_bto, 256, .inl f_bto)), (h_bin, .inl (cy_bin, 256, .inl f_bin)), (h_cof, .inl (cy_cof, 31, .inl f_cof)), (h_isn, .inl (cy_isn, 192, .inl f_isn)), (h_tem, .inl (cy_tem, 192, .inl f_tem)), (h_out, .inl (cy_out, 1000, .inl f_out)), (h_mny, .inl (cy_mny, 32, .inl f_mny))] s.heap.size = A at hD ⊢
  have hA : ∀ q : Nat, s.heap.size ≤ q → A q := fun q h => by rw [← hAe]; exact Or.inr h
  have hS : va_S A s.heap s.heap [] := va_S.rf
  have hl := lv_entry ([.ref h_mm, .int p1, .int p2]) (n := 3) (Nat.le_of_ble_eq_true rfl)
  rw [lg_entry_eq]
  generalize (lg_sl ([.ref h_mm, .int p1, .int p2]) ++ List.replicate (3 - (lg_sl ([.ref h_mm, .int p1, .int p2])).length) Slot.unset).toArray = ls at hl ⊢
  have hl : lv_has ls 3 [(0, .ref h_mm), (1, .int p1), (2, .int p2)] := hl
  refine lv_aload_n hx hb dX11_shown_0 rfl (lv_at hl 0 rfl) ?_
  refine lv_iconst (v := 0) hx hb dX11_shown_1 (by decide) ?_
  refine va_put (D := (dC, dI)) (ci := 8) (v := .int 0) (ty := tyX11 0) (C := RX11) (T := TX11) (N := 71) hx hb hw iwX11 tyX11 tyX11_ok nmX11 hown hK hP hD hS 0 rfl rfl 0 (by decide) (hw _ w_f_X11_1) (fun _ h9 => h9) rfl (tyX11_ok 0 (by decide)) rfl rfl (Nat.le_of_ble_eq_true rfl) dX11_shown_2 (fun H locs hP hD hS => ?_)
  have hP : va_P (dC, dI) cls [(h_mm, .inr (8, (mo79 v_mm (.int 0) (.ref h_nv) (.ref h_nn) (.ref h_na) (.ref h_nb) (.ref h_nc) (.int x_mm_clauses) (.ref h_mny) (.ref h_let) (.ref h_isn) (.ref h_tem) (.ref h_bto) (.ref h_bin) (.int x_mm_goneTo) (.int x_mm_goneIn) (.int x_mm_instances) (.ref h_cof) (.int x_mm_isProof) (.ref h_out) (.int x_mm_outs) (.ref h_wri) (.int x_mm_writes) (.int x_mm_room)))), (h_wri, .inl (cy_wri, 1000, .inl f_wri)), (h_let, .inl (cy_let, 256, .inl f_let)), (h_nv, .inl (cy_nv, 8000, .inl f_nv)), (h_nn, .inl (cy_nn, 8000, .inr (.inl f_nn))), (h_na, .inl (cy_na, 8000, .inl f_na)), (h_nb, .inl (cy_nb, 8000, .inl f_nb)), (h_nc, .inl (cy_nc, 8000, .inl f_nc)), (h_bto, .inl (cy_bto, 256, .inl f_bto)), (h_bin, .inl (cy_bin, 256, .inl f_bin)), (h_cof, .inl (cy_cof, 31, .inl f_cof)), (h_isn, .inl (cy_isn, 192, .inl f_isn)), (h_tem, .inl (cy_tem, 192, .inl f_tem)), (h_out, .inl (cy_out, 1000, .inl f_out)), (h_mny, .inl (cy_mny, 32, .inl f_mny))] H := hP
  have hD : va_D A [(h_mm, .inr (8, (mo79 v_mm (.int 0) (.ref h_nv) (.ref h_nn) (.ref h_na) (.ref h_nb) (.ref h_nc) (.int x_mm_clauses) (.ref h_mny) (.ref h_let) (.ref h_isn) (.ref h_tem) (.ref h_bto) (.ref h_bin) (.int x_mm_goneTo) (.int x_mm_goneIn) (.int x_mm_instances) (.ref h_cof) (.int x_mm_isProof) (.ref h_out) (.int x_mm_outs) (.ref h_wri) (.int x_mm_writes) (.int x_mm_room)))), (h_wri, .inl (cy_wri, 1000, .inl f_wri)), (h_let, .inl (cy_let, 256, .inl f_let)), (h_nv, .inl (cy_nv, 8000, .inl f_nv)), (h_nn, .inl (cy_nn, 8000, .inr (.inl f_nn))), (h_na, .inl (cy_na, 8000, .inl f_na)), (h_nb, .inl (cy_nb, 8000, .inl f_nb)), (h_nc, .inl (cy_nc, 8000, .inl f_nc)), (h_bto, .inl (cy_bto, 256, .inl f_bto)), (h_bin, .inl (cy_bin, 256, .inl f_bin)), (h_cof, .inl (cy_cof, 31, .inl f_cof)), (h_isn, .inl (cy_isn, 192, .inl f_isn)), (h_tem, .inl (cy_tem, 192, .inl f_tem)), (h_out, .inl (cy_out, 1000, .inl f_out)), (h_mny, .inl (cy_mny, 32, .inl f_mny))] := hD
  refine lv_aload_n hx hb dX11_shown_5 rfl (lv_at hl 0 rfl) ?_
  refine lv_iload_n hx hb dX11_shown_6 rfl (lv_at hl 1 rfl) ?_
  have hPc := hP.sub (ws' := [(h_mm, .inr (8, (mo79 v_mm (.int 0) (.ref h_nv) (.ref h_nn) (.ref h_na) (.ref h_nb) (.ref h_nc) (.int x_mm_clauses) (.ref h_mny) (.ref h_let) (.ref h_isn) (.ref h_tem) (.ref h_bto) (.ref h_bin) (.int x_mm_goneTo) (.int x_mm_goneIn) (.int x_mm_instances) (.ref h_cof) (.int x_mm_isProof) (.ref h_out) (.int x_mm_outs) (.ref h_wri) (.int x_mm_writes) (.int x_mm_room))))]) [0] rfl
  have hDc := hD.sub (ws' := [(h_mm, .inr (8, (mo79 v_mm (.int 0) (.ref h_nv) (.ref h_nn) (.ref h_na) (.ref h_nb) (.ref h_nc) (.int x_mm_clauses) (.ref h_mny) (.ref h_let) (.ref h_isn) (.ref h_tem) (.ref h_bto) (.ref h_bin) (.int x_mm_goneTo) (.int x_mm_goneIn) (.int x_mm_instances) (.ref h_cof) (.int x_mm_isProof) (.ref h_out) (.int x_mm_outs) (.ref h_wri) (.int x_mm_writes) (.int x_mm_room))))]) [0] (by decide) rfl
  have hKc := hK.sub (tys' := []) [] rfl
  have hFc := va_free (wc := [(h_mm, .inr (8, (mo79 v_mm (.int 0) (.ref h_nv) (.ref h_nn) (.ref h_na) (.ref h_nb) (.ref h_nc) (.int x_mm_clauses) (.ref h_mny) (.ref h_let) (.ref h_isn) (.ref h_tem) (.ref h_bto) (.ref h_bin) (.int x_mm_goneTo) (.int x_mm_goneIn) (.int x_mm_instances) (.ref h_cof) (.int x_mm_isProof) (.ref h_out) (.int x_mm_outs) (.ref h_wri) (.int x_mm_writes) (.int x_mm_room))))]) hD hS hA [0] rfl
  refine va_calli (va_runV (As := [.int p1]) (rest := []) ⟨hx, hb, hml, hown, hts⟩ (c_X11_isInstance l dC dI H.size h_mm (fun k => List.getD (mo79 v_mm (.int 0) (.ref h_nv) (.ref h_nn) (.ref h_na) (.ref h_nb) (.ref h_nc) (.int x_mm_clauses) (.ref h_mny) (.ref h_let) (.ref h_isn) (.ref h_tem) (.ref h_bto) (.ref h_bin) (.int x_mm_goneTo) (.int x_mm_goneIn) (.int x_mm_instances) (.ref h_cof) (.int x_mm_isProof) (.ref h_out) (.int x_mm_outs) (.ref h_wri) (.int x_mm_writes) (.int x_mm_room)) k .null) x_mm_instances x_mm_isProof p1 (by omega) (by omega)) (cwV 1 hts (gv hT w_m_X11_440 w_instanceMethod_X11_isInstance ws_sel_X11_isInstance w_ini_X11 w_code_X11_isInstance) rfl rfl rfl (by decide +kernel) ⟨(Nat.le_of_ble_eq_true rfl), (Nat.le_of_ble_eq_true rfl)⟩) ⟨pre_blind, va_recv hK hP (ci := 8) (q0 := 0) rfl rfl, pre_of hPc hKc hDc hN⟩ rfl rfl hl.1 rfl (lv_room (Nat.le_of_ble_eq_true rfl)) dX11_shown_7 ⟨(Nat.le_of_ble_eq_true rfl), (Nat.le_of_ble_eq_true rfl)⟩) hS (fun q _ h => hFc q h) hFc (fun r1 u t H locs ht hvm hq hB hz1 hk1 hS => ?_)
  obtain ⟨hP1, hD1⟩ := hB
  rw [ht] at hP1
  obtain ⟨hP, hD⟩ := va_join (wr := [(h_wri, .inl (cy_wri, 1000, .inl f_wri)), (h_let, .inl (cy_let, 256, .inl f_let)), (h_nv, .inl (cy_nv, 8000, .inl f_nv)), (h_nn, .inl (cy_nn, 8000, .inr (.inl f_nn))), (h_na, .inl (cy_na, 8000, .inl f_na)), (h_nb, .inl (cy_nb, 8000, .inl f_nb)), (h_nc, .inl (cy_nc, 8000, .inl f_nc)), (h_bto, .inl (cy_bto, 256, .inl f_bto)), (h_bin, .inl (cy_bin, 256, .inl f_bin)), (h_cof, .inl (cy_cof, 31, .inl f_cof)), (h_isn, .inl (cy_isn, 192, .inl f_isn)), (h_tem, .inl (cy_tem, 192, .inl f_tem)), (h_out, .inl (cy_out, 1000, .inl f_out)), (h_mny, .inl (cy_mny, 32, .inl f_mny))]) (w1 := [(h_mm, .inr (8, (mo79 v_mm (.int 0) (.ref h_nv) (.ref h_nn) (.ref h_na) (.ref h_nb) (.ref h_nc) (.int x_mm_clauses) (.ref h_mny) (.ref h_let) (.ref h_isn) (.ref h_tem) (.ref h_bto) (.ref h_bin) (.int x_mm_goneTo) (.int x_mm_goneIn) (.int x_mm_instances) (.ref h_cof) (.int x_mm_isProof) (.ref h_out) (.int x_mm_outs) (.ref h_wri) (.int x_mm_writes) (.int x_mm_room))))]) hP hD [0] [1, 2, 3, 4, 5, 6, 7, 8, 9, 10, 11, 12, 13, 14] rfl rfl (by decide) (by decide) hk1 hFc hP1 hD1
  have hP : va_P (dC, dI) cls [(h_wri, .inl (cy_wri, 1000, .inl f_wri)), (h_let, .inl (cy_let, 256, .inl f_let)), (h_nv, .inl (cy_nv, 8000, .inl f_nv)), (h_nn, .inl (cy_nn, 8000, .inr (.inl f_nn))), (h_na, .inl (cy_na, 8000, .inl f_na)), (h_nb, .inl (cy_nb, 8000, .inl f_nb)), (h_nc, .inl (cy_nc, 8000, .inl f_nc)), (h_bto, .inl (cy_bto, 256, .inl f_bto)), (h_bin, .inl (cy_bin, 256, .inl f_bin)), (h_cof, .inl (cy_cof, 31, .inl f_cof)), (h_isn, .inl (cy_isn, 192, .inl f_isn)), (h_tem, .inl (cy_tem, 192, .inl f_tem)), (h_out, .inl (cy_out, 1000, .inl f_out)), (h_mny, .inl (cy_mny, 32, .inl f_mny)), (h_mm, .inr (8, (mo79 v_mm (.int 0) (.ref h_nv) (.ref h_nn) (.ref h_na) (.ref h_nb) (.ref h_nc) (.int x_mm_clauses) (.ref h_mny) (.ref h_let) (.ref h_isn) (.ref h_tem) (.ref h_bto) (.ref h_bin) (.int x_mm_goneTo) (.int x_mm_goneIn) (.int x_mm_instances) (.ref h_cof) (.int x_mm_isProof) (.ref h_out) (.int x_mm_outs) (.ref h_wri) (.int x_mm_writes) (.int x_mm_room))))] H := hP
  have hD : va_D A [(h_wri, .inl (cy_wri, 1000, .inl f_wri)), (h_let, .inl (cy_let, 256, .inl f_let)), (h_nv, .inl (cy_nv, 8000, .inl f_nv)), (h_nn, .inl (cy_nn, 8000, .inr (.inl f_nn))), (h_na, .inl (cy_na, 8000, .inl f_na)), (h_nb, .inl (cy_nb, 8000, .inl f_nb)), (h_nc, .inl (cy_nc, 8000, .inl f_nc)), (h_bto, .inl (cy_bto, 256, .inl f_bto)), (h_bin, .inl (cy_bin, 256, .inl f_bin)), (h_cof, .inl (cy_cof, 31, .inl f_cof)), (h_isn, .inl (cy_isn, 192, .inl f_isn)), (h_tem, .inl (cy_tem, 192, .inl f_tem)), (h_out, .inl (cy_out, 1000, .inl f_out)), (h_mny, .inl (cy_mny, 32, .inl f_mny)), (h_mm, .inr (8, (mo79 v_mm (.int 0) (.ref h_nv) (.ref h_nn) (.ref h_na) (.ref h_nb) (.ref h_nc) (.int x_mm_clauses) (.ref h_mny) (.ref h_let) (.ref h_isn) (.ref h_tem) (.ref h_bto) (.ref h_bin) (.int x_mm_goneTo) (.int x_mm_goneIn) (.int x_mm_instances) (.ref h_cof) (.int x_mm_isProof) (.ref h_out) (.int x_mm_outs) (.ref h_wri) (.int x_mm_writes) (.int x_mm_room))))] := hD
  rcases hq with ⟨rfl, hq⟩ | rfl
  · have hq : (0 ≤ ((p1)).toInt) ∧ (((p1)).toInt < ((x_mm_instances)).toInt) ∧ (((x_mm_isProof)).toInt = 1) := hq
    refine lv_if_eq (tgt := 55) hx hb dX11_shown_10 (by decide) (fun c9 => absurd c9 (by decide)) (fun _ => ?_)
    refine lv_aload_n hx hb dX11_shown_13 rfl (lv_at hl 0 rfl) ?_
    refine lv_iload_n hx hb dX11_shown_14 rfl (lv_at hl 2 rfl) ?_
    refine lv_i2l hx hb dX11_shown_15 rfl ?_
    refine lv_topl (fun z2 ez2 => ?_)
    have tz2 : (z2).toInt = (p2).toInt := by rw [ez2]; exact Int32.toInt_toInt64 _
    have bz2 := i_bd p2
    refine lv_lconst (v := 0) hx hb dX11_shown_16 (by decide) ?_
    refine lv_aload_n hx hb dX11_shown_17 rfl (lv_at hl 0 rfl) ?_
    refine va_get (D := (dC, dI)) (ci := 8) (v := .ref h_mny) (C := RX11) (T := TX11) (N := 71) hx hb hw iwX11 hown hK hP 14 rfl rfl 8 (by decide) (hw _ w_f_X11_142) (fun _ h9 => h9) rfl dX11_shown_18 ?_
    refine lv_aload_n hx hb dX11_shown_21 rfl (lv_at hl 0 rfl) ?_
    refine va_get (D := (dC, dI)) (ci := 8) (v := .ref h_cof) (C := RX11) (T := TX11) (N := 71) hx hb hw iwX11 hown hK hP 14 rfl rfl 37 (by decide) (hw _ w_f_X11_204) (fun _ h9 => h9) rfl dX11_shown_22 ?_
    refine lv_iload_n hx hb dX11_shown_25 rfl (lv_at hl 1 rfl) ?_
    refine va_iald hx hb hK hP 9 9 rfl rfl (i := p1) (vp_in_iff.mpr (by omega)) dX11_shown_26 ?_
    refine lv_topi (fun z3 ez3 => ?_)
    have rz3 : 0 ≤ (z3).toInt ∧ (z3).toInt ≤ 15 := by rw [ez3]; exact hf_cof _
    refine va_iald hx hb hK hP 13 13 rfl rfl (i := z3) (vp_in_iff.mpr (by omega)) dX11_shown_27 ?_
    refine lv_topi (fun z4 ez4 => ?_)
    have rz4 : 0 ≤ (z4).toInt ∧ (z4).toInt ≤ 6 := by rw [ez4]; exact hf_mny _
    have cq9 : f_cof (p1).toInt.toNat = z3 := by rw [← clamp_nat (i := p1) (by omega), ← ez3]
    have mq9 : f_mny (f_cof (p1).toInt.toNat).toInt.toNat = z4 := by rw [cq9, ← clamp_nat (i := z3) (by omega), ← ez4]
    have mv9 : (f_mny (f_cof (p1).toInt.toNat).toInt.toNat).toInt = (z4).toInt := by rw [mq9]
    refine lv_i2l hx hb dX11_shown_28 rfl ?_
    refine lv_topl (fun z5 ez5 => ?_)
    have tz5 : (z5).toInt = (z4).toInt := by rw [ez5]; exact Int32.toInt_toInt64 _
    have bz5 := i_bd z4
    refine lv_lconst (v := 1) hx hb dX11_shown_29 (by decide) ?_
    refine lv_lsub hx hb dX11_shown_30 ?_
    refine lv_topl (fun z6 ez6 => ?_)
    have tz6 : (z6).toInt = (z5).toInt - 1 := by rw [ez6]; exact l_sub rfl (by decide) (by omega)
    have : (0 : Int64).toInt = 0 := by decide
    have hPc := hP.sub (ws' := []) [] rfl
    have hDc := hD.sub (ws' := []) [] (by decide) rfl
    have hKc := hK.sub (tys' := []) [] rfl
    have hFc := va_free (wc := []) hD hS hA [] rfl
    refine va_calli (va_runV (As := [.long z2, .long 0, .long z6]) (rest := []) ⟨hx, hb, hml, hown, hts⟩ (c_X11_isIn l dC dI H.size h_mm z2 0 z6) (cwV 3 hts (gv hT w_m_X11_49 w_instanceMethod_X11_isIn ws_sel_X11_isIn w_ini_X11 w_code_X11_isIn) rfl rfl rfl (by decide +kernel) ⟨(Nat.le_of_ble_eq_true rfl), (Nat.le_of_ble_eq_true rfl)⟩) ⟨pre_blind, va_recv hK hP (ci := 8) (q0 := 14) rfl rfl, pre_of hPc hKc hDc hN⟩ rfl rfl hl.1 rfl (lv_room (Nat.le_of_ble_eq_true rfl)) dX11_shown_31 ⟨(Nat.le_of_ble_eq_true rfl), (Nat.le_of_ble_eq_true rfl)⟩) hS (fun q _ h => hFc q h) hFc (fun r7 u t H locs ht hvm hq hB hz1 hk1 hS => ?_)
    obtain ⟨hP1, hD1⟩ := hB
    rw [ht] at hP1
    obtain ⟨hP, hD⟩ := va_join (wr := [(h_wri, .inl (cy_wri, 1000, .inl f_wri)), (h_let, .inl (cy_let, 256, .inl f_let)), (h_nv, .inl (cy_nv, 8000, .inl f_nv)), (h_nn, .inl (cy_nn, 8000, .inr (.inl f_nn))), (h_na, .inl (cy_na, 8000, .inl f_na)), (h_nb, .inl (cy_nb, 8000, .inl f_nb)), (h_nc, .inl (cy_nc, 8000, .inl f_nc)), (h_bto, .inl (cy_bto, 256, .inl f_bto)), (h_bin, .inl (cy_bin, 256, .inl f_bin)), (h_cof, .inl (cy_cof, 31, .inl f_cof)), (h_isn, .inl (cy_isn, 192, .inl f_isn)), (h_tem, .inl (cy_tem, 192, .inl f_tem)), (h_out, .inl (cy_out, 1000, .inl f_out)), (h_mny, .inl (cy_mny, 32, .inl f_mny)), (h_mm, .inr (8, (mo79 v_mm (.int 0) (.ref h_nv) (.ref h_nn) (.ref h_na) (.ref h_nb) (.ref h_nc) (.int x_mm_clauses) (.ref h_mny) (.ref h_let) (.ref h_isn) (.ref h_tem) (.ref h_bto) (.ref h_bin) (.int x_mm_goneTo) (.int x_mm_goneIn) (.int x_mm_instances) (.ref h_cof) (.int x_mm_isProof) (.ref h_out) (.int x_mm_outs) (.ref h_wri) (.int x_mm_writes) (.int x_mm_room))))]) (w1 := []) hP hD [] [0, 1, 2, 3, 4, 5, 6, 7, 8, 9, 10, 11, 12, 13, 14] rfl rfl (by decide) (by decide) hk1 hFc hP1 hD1
    have hP : va_P (dC, dI) cls [(h_wri, .inl (cy_wri, 1000, .inl f_wri)), (h_let, .inl (cy_let, 256, .inl f_let)), (h_nv, .inl (cy_nv, 8000, .inl f_nv)), (h_nn, .inl (cy_nn, 8000, .inr (.inl f_nn))), (h_na, .inl (cy_na, 8000, .inl f_na)), (h_nb, .inl (cy_nb, 8000, .inl f_nb)), (h_nc, .inl (cy_nc, 8000, .inl f_nc)), (h_bto, .inl (cy_bto, 256, .inl f_bto)), (h_bin, .inl (cy_bin, 256, .inl f_bin)), (h_cof, .inl (cy_cof, 31, .inl f_cof)), (h_isn, .inl (cy_isn, 192, .inl f_isn)), (h_tem, .inl (cy_tem, 192, .inl f_tem)), (h_out, .inl (cy_out, 1000, .inl f_out)), (h_mny, .inl (cy_mny, 32, .inl f_mny)), (h_mm, .inr (8, (mo79 v_mm (.int 0) (.ref h_nv) (.ref h_nn) (.ref h_na) (.ref h_nb) (.ref h_nc) (.int x_mm_clauses) (.ref h_mny) (.ref h_let) (.ref h_isn) (.ref h_tem) (.ref h_bto) (.ref h_bin) (.int x_mm_goneTo) (.int x_mm_goneIn) (.int x_mm_instances) (.ref h_cof) (.int x_mm_isProof) (.ref h_out) (.int x_mm_outs) (.ref h_wri) (.int x_mm_writes) (.int x_mm_room))))] H := hP
    have hD : va_D A [(h_wri, .inl (cy_wri, 1000, .inl f_wri)), (h_let, .inl (cy_let, 256, .inl f_let)), (h_nv, .inl (cy_nv, 8000, .inl f_nv)), (h_nn, .inl (cy_nn, 8000, .inr (.inl f_nn))), (h_na, .inl (cy_na, 8000, .inl f_na)), (h_nb, .inl (cy_nb, 8000, .inl f_nb)), (h_nc, .inl (cy_nc, 8000, .inl f_nc)), (h_bto, .inl (cy_bto, 256, .inl f_bto)), (h_bin, .inl (cy_bin, 256, .inl f_bin)), (h_cof, .inl (cy_cof, 31, .inl f_cof)), (h_isn, .inl (cy_isn, 192, .inl f_isn)), (h_tem, .inl (cy_tem, 192, .inl f_tem)), (h_out, .inl (cy_out, 1000, .inl f_out)), (h_mny, .inl (cy_mny, 32, .inl f_mny)), (h_mm, .inr (8, (mo79 v_mm (.int 0) (.ref h_nv) (.ref h_nn) (.ref h_na) (.ref h_nb) (.ref h_nc) (.int x_mm_clauses) (.ref h_mny) (.ref h_let) (.ref h_isn) (.ref h_tem) (.ref h_bto) (.ref h_bin) (.int x_mm_goneTo) (.int x_mm_goneIn) (.int x_mm_instances) (.ref h_cof) (.int x_mm_isProof) (.ref h_out) (.int x_mm_outs) (.ref h_wri) (.int x_mm_writes) (.int x_mm_room))))] := hD
    rcases hq with ⟨rfl, hq⟩ | ⟨rfl, hq⟩
    · have hq : (((0 : Int64)).toInt ≤ ((z2)).toInt) ∧ (((z2)).toInt ≤ ((z6)).toInt) := hq
      refine lv_if_eq (tgt := 55) hx hb dX11_shown_34 (by decide) (fun c9 => absurd c9 (by decide)) (fun _ => ?_)
      refine lv_aload_n hx hb dX11_shown_37 rfl (lv_at hl 0 rfl) ?_
      refine lv_aload_n hx hb dX11_shown_38 rfl (lv_at hl 0 rfl) ?_
      refine lv_iload_n hx hb dX11_shown_39 rfl (lv_at hl 1 rfl) ?_
      refine lv_iload_n hx hb dX11_shown_40 rfl (lv_at hl 2 rfl) ?_
      have hPc := hP.sub (ws' := [(h_mm, .inr (8, (mo79 v_mm (.int 0) (.ref h_nv) (.ref h_nn) (.ref h_na) (.ref h_nb) (.ref h_nc) (.int x_mm_clauses) (.ref h_mny) (.ref h_let) (.ref h_isn) (.ref h_tem) (.ref h_bto) (.ref h_bin) (.int x_mm_goneTo) (.int x_mm_goneIn) (.int x_mm_instances) (.ref h_cof) (.int x_mm_isProof) (.ref h_out) (.int x_mm_outs) (.ref h_wri) (.int x_mm_writes) (.int x_mm_room)))), (h_cof, .inl (cy_cof, 31, .inl f_cof))]) [14, 9] rfl
      have hDc := hD.sub (ws' := [(h_mm, .inr (8, (mo79 v_mm (.int 0) (.ref h_nv) (.ref h_nn) (.ref h_na) (.ref h_nb) (.ref h_nc) (.int x_mm_clauses) (.ref h_mny) (.ref h_let) (.ref h_isn) (.ref h_tem) (.ref h_bto) (.ref h_bin) (.int x_mm_goneTo) (.int x_mm_goneIn) (.int x_mm_instances) (.ref h_cof) (.int x_mm_isProof) (.ref h_out) (.int x_mm_outs) (.ref h_wri) (.int x_mm_writes) (.int x_mm_room)))), (h_cof, .inl (cy_cof, 31, .inl f_cof))]) [14, 9] (by decide) rfl
      have hKc := hK.sub (tys' := [(cy_cof, .int)]) [9] rfl
      have hFc := va_free (wc := [(h_mm, .inr (8, (mo79 v_mm (.int 0) (.ref h_nv) (.ref h_nn) (.ref h_na) (.ref h_nb) (.ref h_nc) (.int x_mm_clauses) (.ref h_mny) (.ref h_let) (.ref h_isn) (.ref h_tem) (.ref h_bto) (.ref h_bin) (.int x_mm_goneTo) (.int x_mm_goneIn) (.int x_mm_instances) (.ref h_cof) (.int x_mm_isProof) (.ref h_out) (.int x_mm_outs) (.ref h_wri) (.int x_mm_writes) (.int x_mm_room)))), (h_cof, .inl (cy_cof, 31, .inl f_cof))]) hD hS hA [14, 9] rfl
      refine va_calli (va_runV (As := [.int p1, .int p2]) (rest := [.ref h_mm]) ⟨hx, hb, hml, hown, hts⟩ (c_X11_litOf l dC dI H.size h_mm h_cof (fun k => List.getD (mo79 v_mm (.int 0) (.ref h_nv) (.ref h_nn) (.ref h_na) (.ref h_nb) (.ref h_nc) (.int x_mm_clauses) (.ref h_mny) (.ref h_let) (.ref h_isn) (.ref h_tem) (.ref h_bto) (.ref h_bin) (.int x_mm_goneTo) (.int x_mm_goneIn) (.int x_mm_instances) (.ref h_cof) (.int x_mm_isProof) (.ref h_out) (.int x_mm_outs) (.ref h_wri) (.int x_mm_writes) (.int x_mm_room)) k .null) cy_cof f_cof p1 p2 hf_cof (by omega) (by omega)) (cwV 2 hts (gv hT w_m_X11_317 w_instanceMethod_X11_litOf ws_sel_X11_litOf w_ini_X11 w_code_X11_litOf) rfl rfl rfl (by decide +kernel) ⟨(Nat.le_of_ble_eq_true rfl), (Nat.le_of_ble_eq_true rfl)⟩) ⟨pre_blind, va_recv hK hP (ci := 8) (q0 := 14) rfl rfl, pre_of hPc hKc hDc hN⟩ rfl rfl hl.1 rfl (lv_room (Nat.le_of_ble_eq_true rfl)) dX11_shown_41 ⟨(Nat.le_of_ble_eq_true rfl), (Nat.le_of_ble_eq_true rfl)⟩) hS (fun q _ h => hFc q h) hFc (fun r8 u t H locs ht hvm hq hB hz1 hk1 hS => ?_)
      obtain ⟨hP1, hD1⟩ := hB
      rw [ht] at hP1
      obtain ⟨hP, hD⟩ := va_join (wr := [(h_wri, .inl (cy_wri, 1000, .inl f_wri)), (h_let, .inl (cy_let, 256, .inl f_let)), (h_nv, .inl (cy_nv, 8000, .inl f_nv)), (h_nn, .inl (cy_nn, 8000, .inr (.inl f_nn))), (h_na, .inl (cy_na, 8000, .inl f_na)), (h_nb, .inl (cy_nb, 8000, .inl f_nb)), (h_nc, .inl (cy_nc, 8000, .inl f_nc)), (h_bto, .inl (cy_bto, 256, .inl f_bto)), (h_bin, .inl (cy_bin, 256, .inl f_bin)), (h_isn, .inl (cy_isn, 192, .inl f_isn)), (h_tem, .inl (cy_tem, 192, .inl f_tem)), (h_out, .inl (cy_out, 1000, .inl f_out)), (h_mny, .inl (cy_mny, 32, .inl f_mny))]) (w1 := [(h_mm, .inr (8, (mo79 v_mm (.int 0) (.ref h_nv) (.ref h_nn) (.ref h_na) (.ref h_nb) (.ref h_nc) (.int x_mm_clauses) (.ref h_mny) (.ref h_let) (.ref h_isn) (.ref h_tem) (.ref h_bto) (.ref h_bin) (.int x_mm_goneTo) (.int x_mm_goneIn) (.int x_mm_instances) (.ref h_cof) (.int x_mm_isProof) (.ref h_out) (.int x_mm_outs) (.ref h_wri) (.int x_mm_writes) (.int x_mm_room)))), (h_cof, .inl (cy_cof, 31, .inl f_cof))]) hP hD [14, 9] [0, 1, 2, 3, 4, 5, 6, 7, 8, 10, 11, 12, 13] rfl rfl (by decide) (by decide) hk1 hFc hP1 hD1
      have hP : va_P (dC, dI) cls [(h_wri, .inl (cy_wri, 1000, .inl f_wri)), (h_let, .inl (cy_let, 256, .inl f_let)), (h_nv, .inl (cy_nv, 8000, .inl f_nv)), (h_nn, .inl (cy_nn, 8000, .inr (.inl f_nn))), (h_na, .inl (cy_na, 8000, .inl f_na)), (h_nb, .inl (cy_nb, 8000, .inl f_nb)), (h_nc, .inl (cy_nc, 8000, .inl f_nc)), (h_bto, .inl (cy_bto, 256, .inl f_bto)), (h_bin, .inl (cy_bin, 256, .inl f_bin)), (h_isn, .inl (cy_isn, 192, .inl f_isn)), (h_tem, .inl (cy_tem, 192, .inl f_tem)), (h_out, .inl (cy_out, 1000, .inl f_out)), (h_mny, .inl (cy_mny, 32, .inl f_mny)), (h_mm, .inr (8, (mo79 v_mm (.int 0) (.ref h_nv) (.ref h_nn) (.ref h_na) (.ref h_nb) (.ref h_nc) (.int x_mm_clauses) (.ref h_mny) (.ref h_let) (.ref h_isn) (.ref h_tem) (.ref h_bto) (.ref h_bin) (.int x_mm_goneTo) (.int x_mm_goneIn) (.int x_mm_instances) (.ref h_cof) (.int x_mm_isProof) (.ref h_out) (.int x_mm_outs) (.ref h_wri) (.int x_mm_writes) (.int x_mm_room)))), (h_cof, .inl (cy_cof, 31, .inl f_cof))] H := hP
      have hD : va_D A [(h_wri, .inl (cy_wri, 1000, .inl f_wri)), (h_let, .inl (cy_let, 256, .inl f_let)), (h_nv, .inl (cy_nv, 8000, .inl f_nv)), (h_nn, .inl (cy_nn, 8000, .inr (.inl f_nn))), (h_na, .inl (cy_na, 8000, .inl f_na)), (h_nb, .inl (cy_nb, 8000, .inl f_nb)), (h_nc, .inl (cy_nc, 8000, .inl f_nc)), (h_bto, .inl (cy_bto, 256, .inl f_bto)), (h_bin, .inl (cy_bin, 256, .inl f_bin)), (h_isn, .inl (cy_isn, 192, .inl f_isn)), (h_tem, .inl (cy_tem, 192, .inl f_tem)), (h_out, .inl (cy_out, 1000, .inl f_out)), (h_mny, .inl (cy_mny, 32, .inl f_mny)), (h_mm, .inr (8, (mo79 v_mm (.int 0) (.ref h_nv) (.ref h_nn) (.ref h_na) (.ref h_nb) (.ref h_nc) (.int x_mm_clauses) (.ref h_mny) (.ref h_let) (.ref h_isn) (.ref h_tem) (.ref h_bto) (.ref h_bin) (.int x_mm_goneTo) (.int x_mm_goneIn) (.int x_mm_instances) (.ref h_cof) (.int x_mm_isProof) (.ref h_out) (.int x_mm_outs) (.ref h_wri) (.int x_mm_writes) (.int x_mm_room)))), (h_cof, .inl (cy_cof, 31, .inl f_cof))] := hD
      obtain ⟨k9, k10⟩ := hq
      have k9 : 0 ≤ (r8).toInt ∧ (r8).toInt ≤ 95 := k9
      have k10 : ((r8)).toInt = 6 * (f_cof ((p1)).toInt.toNat).toInt + ((p2)).toInt := k10
      refine lv_iload_n hx hb dX11_shown_44 rfl (lv_at hl 1 rfl) ?_
      refine lv_iconst (v := (-1)) hx hb dX11_shown_45 (by decide) ?_
      refine lv_sipush (v := 300) hx hb dX11_shown_46 (by decide) ?_
      have pf9 := (hn_prf).resolve_left (by omega)
      have in9 := pf9.2 (p1).toInt.toNat (by omega)
      have hc9 := hf_cof (p1).toInt.toNat
      have tg9 := tm_get (z := f_tem (r8).toInt.toNat) (c := f_cof (p1).toInt.toNat) (t := r8) (l := (p2).toInt) hn_tms (by omega) (by rw [clamp_nat (i := f_cof (p1).toInt.toNat) (by omega)]; omega) (by omega) (by rw [clamp_nat (i := r8) (by omega)])
      have cstm1 : ((-1) : Int32).toInt = -1 := by decide
      have cst300 : (300 : Int32).toInt = 300 := by decide
      have hPc := hP.sub (ws' := [(h_mm, .inr (8, (mo79 v_mm (.int 0) (.ref h_nv) (.ref h_nn) (.ref h_na) (.ref h_nb) (.ref h_nc) (.int x_mm_clauses) (.ref h_mny) (.ref h_let) (.ref h_isn) (.ref h_tem) (.ref h_bto) (.ref h_bin) (.int x_mm_goneTo) (.int x_mm_goneIn) (.int x_mm_instances) (.ref h_cof) (.int x_mm_isProof) (.ref h_out) (.int x_mm_outs) (.ref h_wri) (.int x_mm_writes) (.int x_mm_room)))), (h_wri, .inl (cy_wri, 1000, .inl f_wri)), (h_let, .inl (cy_let, 256, .inl f_let)), (h_nv, .inl (cy_nv, 8000, .inl f_nv)), (h_nn, .inl (cy_nn, 8000, .inr (.inl f_nn))), (h_na, .inl (cy_na, 8000, .inl f_na)), (h_nb, .inl (cy_nb, 8000, .inl f_nb)), (h_nc, .inl (cy_nc, 8000, .inl f_nc)), (h_bto, .inl (cy_bto, 256, .inl f_bto)), (h_bin, .inl (cy_bin, 256, .inl f_bin)), (h_cof, .inl (cy_cof, 31, .inl f_cof)), (h_isn, .inl (cy_isn, 192, .inl f_isn)), (h_tem, .inl (cy_tem, 192, .inl f_tem)), (h_out, .inl (cy_out, 1000, .inl f_out))]) [13, 0, 1, 2, 3, 4, 5, 6, 7, 8, 14, 9, 10, 11] rfl
      have hDc := hD.sub (ws' := [(h_mm, .inr (8, (mo79 v_mm (.int 0) (.ref h_nv) (.ref h_nn) (.ref h_na) (.ref h_nb) (.ref h_nc) (.int x_mm_clauses) (.ref h_mny) (.ref h_let) (.ref h_isn) (.ref h_tem) (.ref h_bto) (.ref h_bin) (.int x_mm_goneTo) (.int x_mm_goneIn) (.int x_mm_instances) (.ref h_cof) (.int x_mm_isProof) (.ref h_out) (.int x_mm_outs) (.ref h_wri) (.int x_mm_writes) (.int x_mm_room)))), (h_wri, .inl (cy_wri, 1000, .inl f_wri)), (h_let, .inl (cy_let, 256, .inl f_let)), (h_nv, .inl (cy_nv, 8000, .inl f_nv)), (h_nn, .inl (cy_nn, 8000, .inr (.inl f_nn))), (h_na, .inl (cy_na, 8000, .inl f_na)), (h_nb, .inl (cy_nb, 8000, .inl f_nb)), (h_nc, .inl (cy_nc, 8000, .inl f_nc)), (h_bto, .inl (cy_bto, 256, .inl f_bto)), (h_bin, .inl (cy_bin, 256, .inl f_bin)), (h_cof, .inl (cy_cof, 31, .inl f_cof)), (h_isn, .inl (cy_isn, 192, .inl f_isn)), (h_tem, .inl (cy_tem, 192, .inl f_tem)), (h_out, .inl (cy_out, 1000, .inl f_out))]) [13, 0, 1, 2, 3, 4, 5, 6, 7, 8, 14, 9, 10, 11] (by decide) rfl
      have hKc := hK.sub (tys' := [(cy_wri, .int), (cy_let, .int), (cy_nv, .int), (cy_nn, .long), (cy_na, .int), (cy_nb, .int), (cy_nc, .int), (cy_bto, .int), (cy_bin, .int), (cy_cof, .int), (cy_isn, .boolean), (cy_tem, .int), (cy_out, .int)]) [0, 1, 2, 3, 4, 5, 6, 7, 8, 9, 10, 11, 12] rfl
      have hFc := va_free (wc := [(h_mm, .inr (8, (mo79 v_mm (.int 0) (.ref h_nv) (.ref h_nn) (.ref h_na) (.ref h_nb) (.ref h_nc) (.int x_mm_clauses) (.ref h_mny) (.ref h_let) (.ref h_isn) (.ref h_tem) (.ref h_bto) (.ref h_bin) (.int x_mm_goneTo) (.int x_mm_goneIn) (.int x_mm_instances) (.ref h_cof) (.int x_mm_isProof) (.ref h_out) (.int x_mm_outs) (.ref h_wri) (.int x_mm_writes) (.int x_mm_room)))), (h_wri, .inl (cy_wri, 1000, .inl f_wri)), (h_let, .inl (cy_let, 256, .inl f_let)), (h_nv, .inl (cy_nv, 8000, .inl f_nv)), (h_nn, .inl (cy_nn, 8000, .inr (.inl f_nn))), (h_na, .inl (cy_na, 8000, .inl f_na)), (h_nb, .inl (cy_nb, 8000, .inl f_nb)), (h_nc, .inl (cy_nc, 8000, .inl f_nc)), (h_bto, .inl (cy_bto, 256, .inl f_bto)), (h_bin, .inl (cy_bin, 256, .inl f_bin)), (h_cof, .inl (cy_cof, 31, .inl f_cof)), (h_isn, .inl (cy_isn, 192, .inl f_isn)), (h_tem, .inl (cy_tem, 192, .inl f_tem)), (h_out, .inl (cy_out, 1000, .inl f_out))]) hD hS hA [13, 0, 1, 2, 3, 4, 5, 6, 7, 8, 14, 9, 10, 11] rfl
      refine va_calli (va_runV (As := [.int r8, .int p1, .int (-1), .int 300]) (rest := []) ⟨hx, hb, hml, hown, hts⟩ (c_X11_shows_1 l dC dI H.size h_mm h_wri h_let h_nv h_nn h_na h_nb h_nc h_bto h_bin h_cof h_isn h_tem h_out (fun k => List.getD (mo79 v_mm (.int 0) (.ref h_nv) (.ref h_nn) (.ref h_na) (.ref h_nb) (.ref h_nc) (.int x_mm_clauses) (.ref h_mny) (.ref h_let) (.ref h_isn) (.ref h_tem) (.ref h_bto) (.ref h_bin) (.int x_mm_goneTo) (.int x_mm_goneIn) (.int x_mm_instances) (.ref h_cof) (.int x_mm_isProof) (.ref h_out) (.int x_mm_outs) (.ref h_wri) (.int x_mm_writes) (.int x_mm_room)) k .null) x_mm_goneTo x_mm_goneIn x_mm_outs x_mm_writes x_mm_room cy_wri f_wri cy_let f_let cy_nv f_nv cy_nn f_nn cy_na f_na cy_nb f_nb cy_nc f_nc cy_bto f_bto cy_bin f_bin cy_cof f_cof cy_isn f_isn cy_tem f_tem cy_out f_out r8 p1 0 29 N hz (by omega) (by omega) (by omega) (by omega) (by omega) hf_nv hf_na hf_nb hf_nc hf_bto hf_bin hf_cof hf_tem (by omega) (by omega) (by omega) (by omega) (by omega) (by omega) (by omega) pf9.1) (cwV 4 hts (gv hT w_m_X11_465 w_instanceMethod_X11_shows ws_sel_X11_shows w_ini_X11 w_code_X11_shows) rfl rfl rfl (by decide +kernel) ⟨(Nat.le_of_ble_eq_true rfl), (Nat.le_of_ble_eq_true rfl)⟩) ⟨pre_blind, va_recv hK hP (ci := 8) (q0 := 13) rfl rfl, pre_of hPc hKc hDc hN⟩ rfl rfl hl.1 rfl (lv_room (Nat.le_of_ble_eq_true rfl)) dX11_shown_49 ⟨(Nat.le_of_ble_eq_true rfl), (Nat.le_of_ble_eq_true rfl)⟩) hS (fun q _ h => hFc q h) hFc (fun r11 u t H locs ht hvm hq hB hz1 hk1 hS => ?_)
      obtain ⟨z12, z13, z14, z15, z16, f17, f18⟩ := u
      obtain ⟨hP1, hD1⟩ := hB
      rw [ht] at hP1
      obtain ⟨hP, hD⟩ := va_join (wr := [(h_mny, .inl (cy_mny, 32, .inl f_mny))]) (w1 := [(h_mm, .inr (8, (mo79 v_mm (.int 0) (.ref h_nv) (.ref h_nn) (.ref h_na) (.ref h_nb) (.ref h_nc) (.int x_mm_clauses) (.ref h_mny) (.ref h_let) (.ref h_isn) (.ref h_tem) (.ref h_bto) (.ref h_bin) (.int z12) (.int z13) (.int x_mm_instances) (.ref h_cof) (.int x_mm_isProof) (.ref h_out) (.int z14) (.ref h_wri) (.int z15) (.int z16)))), (h_wri, .inl (cy_wri, 1000, .inl f17)), (h_let, .inl (cy_let, 256, .inl f_let)), (h_nv, .inl (cy_nv, 8000, .inl f_nv)), (h_nn, .inl (cy_nn, 8000, .inr (.inl f_nn))), (h_na, .inl (cy_na, 8000, .inl f_na)), (h_nb, .inl (cy_nb, 8000, .inl f_nb)), (h_nc, .inl (cy_nc, 8000, .inl f_nc)), (h_bto, .inl (cy_bto, 256, .inl f_bto)), (h_bin, .inl (cy_bin, 256, .inl f_bin)), (h_cof, .inl (cy_cof, 31, .inl f_cof)), (h_isn, .inl (cy_isn, 192, .inl f_isn)), (h_tem, .inl (cy_tem, 192, .inl f_tem)), (h_out, .inl (cy_out, 1000, .inl f18))]) hP hD [13, 0, 1, 2, 3, 4, 5, 6, 7, 8, 14, 9, 10, 11] [12] rfl rfl (by decide) (by decide) hk1 hFc hP1 hD1
      have hP : va_P (dC, dI) cls [(h_mny, .inl (cy_mny, 32, .inl f_mny)), (h_mm, .inr (8, (mo79 v_mm (.int 0) (.ref h_nv) (.ref h_nn) (.ref h_na) (.ref h_nb) (.ref h_nc) (.int x_mm_clauses) (.ref h_mny) (.ref h_let) (.ref h_isn) (.ref h_tem) (.ref h_bto) (.ref h_bin) (.int z12) (.int z13) (.int x_mm_instances) (.ref h_cof) (.int x_mm_isProof) (.ref h_out) (.int z14) (.ref h_wri) (.int z15) (.int z16)))), (h_wri, .inl (cy_wri, 1000, .inl f17)), (h_let, .inl (cy_let, 256, .inl f_let)), (h_nv, .inl (cy_nv, 8000, .inl f_nv)), (h_nn, .inl (cy_nn, 8000, .inr (.inl f_nn))), (h_na, .inl (cy_na, 8000, .inl f_na)), (h_nb, .inl (cy_nb, 8000, .inl f_nb)), (h_nc, .inl (cy_nc, 8000, .inl f_nc)), (h_bto, .inl (cy_bto, 256, .inl f_bto)), (h_bin, .inl (cy_bin, 256, .inl f_bin)), (h_cof, .inl (cy_cof, 31, .inl f_cof)), (h_isn, .inl (cy_isn, 192, .inl f_isn)), (h_tem, .inl (cy_tem, 192, .inl f_tem)), (h_out, .inl (cy_out, 1000, .inl f18))] H := hP
      have hD : va_D A [(h_mny, .inl (cy_mny, 32, .inl f_mny)), (h_mm, .inr (8, (mo79 v_mm (.int 0) (.ref h_nv) (.ref h_nn) (.ref h_na) (.ref h_nb) (.ref h_nc) (.int x_mm_clauses) (.ref h_mny) (.ref h_let) (.ref h_isn) (.ref h_tem) (.ref h_bto) (.ref h_bin) (.int z12) (.int z13) (.int x_mm_instances) (.ref h_cof) (.int x_mm_isProof) (.ref h_out) (.int z14) (.ref h_wri) (.int z15) (.int z16)))), (h_wri, .inl (cy_wri, 1000, .inl f17)), (h_let, .inl (cy_let, 256, .inl f_let)), (h_nv, .inl (cy_nv, 8000, .inl f_nv)), (h_nn, .inl (cy_nn, 8000, .inr (.inl f_nn))), (h_na, .inl (cy_na, 8000, .inl f_na)), (h_nb, .inl (cy_nb, 8000, .inl f_nb)), (h_nc, .inl (cy_nc, 8000, .inl f_nc)), (h_bto, .inl (cy_bto, 256, .inl f_bto)), (h_bin, .inl (cy_bin, 256, .inl f_bin)), (h_cof, .inl (cy_cof, 31, .inl f_cof)), (h_isn, .inl (cy_isn, 192, .inl f_isn)), (h_tem, .inl (cy_tem, 192, .inl f_tem)), (h_out, .inl (cy_out, 1000, .inl f18))] := hD
      obtain ⟨k19, k20, k21, k22, k23⟩ := hq
      have k19 : 0 ≤ ((z12)).toInt ∧ ((z12)).toInt ≤ 7999 := k19
      have k20 : 0 ≤ ((z13)).toInt ∧ ((z13)).toInt ≤ 31 := k20
      have k21 : 0 ≤ ((z14)).toInt ∧ ((z14)).toInt ≤ 1000 := k21
      have k22 : 0 ≤ ((z15)).toInt ∧ ((z15)).toInt ≤ 1000 := k22
      have k23 : 0 ≤ ((z16)).toInt ∧ ((z16)).toInt ≤ 998 := k23
      refine lv_goto (tgt := 56) hx hb dX11_shown_52 (by decide) ?_
      have hP : va_P (dC, dI) cls [(h_mm, .inr (8, (mo79 v_mm (.int 0) (.ref h_nv) (.ref h_nn) (.ref h_na) (.ref h_nb) (.ref h_nc) (.int x_mm_clauses) (.ref h_mny) (.ref h_let) (.ref h_isn) (.ref h_tem) (.ref h_bto) (.ref h_bin) (.int z12) (.int z13) (.int x_mm_instances) (.ref h_cof) (.int x_mm_isProof) (.ref h_out) (.int z14) (.ref h_wri) (.int z15) (.int z16)))), (h_wri, .inl (cy_wri, 1000, .inl f17)), (h_let, .inl (cy_let, 256, .inl f_let)), (h_nv, .inl (cy_nv, 8000, .inl f_nv)), (h_nn, .inl (cy_nn, 8000, .inr (.inl f_nn))), (h_na, .inl (cy_na, 8000, .inl f_na)), (h_nb, .inl (cy_nb, 8000, .inl f_nb)), (h_nc, .inl (cy_nc, 8000, .inl f_nc)), (h_bto, .inl (cy_bto, 256, .inl f_bto)), (h_bin, .inl (cy_bin, 256, .inl f_bin)), (h_cof, .inl (cy_cof, 31, .inl f_cof)), (h_isn, .inl (cy_isn, 192, .inl f_isn)), (h_tem, .inl (cy_tem, 192, .inl f_tem)), (h_out, .inl (cy_out, 1000, .inl f18)), (h_mny, .inl (cy_mny, 32, .inl f_mny))] H := hP.sub [1, 2, 3, 4, 5, 6, 7, 8, 9, 10, 11, 12, 13, 14, 0] rfl
      have hD : va_D A [(h_mm, .inr (8, (mo79 v_mm (.int 0) (.ref h_nv) (.ref h_nn) (.ref h_na) (.ref h_nb) (.ref h_nc) (.int x_mm_clauses) (.ref h_mny) (.ref h_let) (.ref h_isn) (.ref h_tem) (.ref h_bto) (.ref h_bin) (.int z12) (.int z13) (.int x_mm_instances) (.ref h_cof) (.int x_mm_isProof) (.ref h_out) (.int z14) (.ref h_wri) (.int z15) (.int z16)))), (h_wri, .inl (cy_wri, 1000, .inl f17)), (h_let, .inl (cy_let, 256, .inl f_let)), (h_nv, .inl (cy_nv, 8000, .inl f_nv)), (h_nn, .inl (cy_nn, 8000, .inr (.inl f_nn))), (h_na, .inl (cy_na, 8000, .inl f_na)), (h_nb, .inl (cy_nb, 8000, .inl f_nb)), (h_nc, .inl (cy_nc, 8000, .inl f_nc)), (h_bto, .inl (cy_bto, 256, .inl f_bto)), (h_bin, .inl (cy_bin, 256, .inl f_bin)), (h_cof, .inl (cy_cof, 31, .inl f_cof)), (h_isn, .inl (cy_isn, 192, .inl f_isn)), (h_tem, .inl (cy_tem, 192, .inl f_tem)), (h_out, .inl (cy_out, 1000, .inl f18)), (h_mny, .inl (cy_mny, 32, .inl f_mny))] := hD.sub [1, 2, 3, 4, 5, 6, 7, 8, 9, 10, 11, 12, 13, 14, 0] (by decide) rfl
      refine W.widen (k := 0) (n := 0) (Nat.le_of_ble_eq_true rfl) (Nat.le_of_ble_eq_true rfl) ?_
      have cst0 : (0 : Int32).toInt = 0 := by decide
      have w24 : 0 ≤ ((z12)).toInt ∧ ((z12)).toInt ≤ 7999 := by omega
      have w25 : 0 ≤ ((z13)).toInt ∧ ((z13)).toInt ≤ 31 := by omega
      have w26 : 0 ≤ ((z14)).toInt ∧ ((z14)).toInt ≤ 1000 := by omega
      have w27 : 0 ≤ ((z15)).toInt ∧ ((z15)).toInt ≤ 1000 := by omega
      have w28 : 0 ≤ ((z16)).toInt ∧ ((z16)).toInt ≤ 998 := by omega
      exact W.iret (v := r11) hx hb hr (fun t ht hW => ⟨⟨r11, (0, z12, z13, z14, z15, z16, f17, f18), rfl, ⟨w24, w25, w26, w27, w28⟩, by rw [ht]; exact hP, hD⟩, hS.F ht⟩) hS.2.2 dX11_shown_56
    · have hq : (((z2)).toInt < ((0 : Int64)).toInt ∨ ((z6)).toInt < ((z2)).toInt) := hq
      refine lv_if_eq (tgt := 55) hx hb dX11_shown_34 (by decide) (fun _ => ?_) (fun c9 => absurd c9 (by decide))
      refine lv_iconst (v := (-1)) hx hb dX11_shown_55 (by decide) ?_
      have hP : va_P (dC, dI) cls [(h_mm, .inr (8, (mo79 v_mm (.int 0) (.ref h_nv) (.ref h_nn) (.ref h_na) (.ref h_nb) (.ref h_nc) (.int x_mm_clauses) (.ref h_mny) (.ref h_let) (.ref h_isn) (.ref h_tem) (.ref h_bto) (.ref h_bin) (.int x_mm_goneTo) (.int x_mm_goneIn) (.int x_mm_instances) (.ref h_cof) (.int x_mm_isProof) (.ref h_out) (.int x_mm_outs) (.ref h_wri) (.int x_mm_writes) (.int x_mm_room)))), (h_wri, .inl (cy_wri, 1000, .inl f_wri)), (h_let, .inl (cy_let, 256, .inl f_let)), (h_nv, .inl (cy_nv, 8000, .inl f_nv)), (h_nn, .inl (cy_nn, 8000, .inr (.inl f_nn))), (h_na, .inl (cy_na, 8000, .inl f_na)), (h_nb, .inl (cy_nb, 8000, .inl f_nb)), (h_nc, .inl (cy_nc, 8000, .inl f_nc)), (h_bto, .inl (cy_bto, 256, .inl f_bto)), (h_bin, .inl (cy_bin, 256, .inl f_bin)), (h_cof, .inl (cy_cof, 31, .inl f_cof)), (h_isn, .inl (cy_isn, 192, .inl f_isn)), (h_tem, .inl (cy_tem, 192, .inl f_tem)), (h_out, .inl (cy_out, 1000, .inl f_out)), (h_mny, .inl (cy_mny, 32, .inl f_mny))] H := hP.sub [14, 0, 1, 2, 3, 4, 5, 6, 7, 8, 9, 10, 11, 12, 13] rfl
      have hD : va_D A [(h_mm, .inr (8, (mo79 v_mm (.int 0) (.ref h_nv) (.ref h_nn) (.ref h_na) (.ref h_nb) (.ref h_nc) (.int x_mm_clauses) (.ref h_mny) (.ref h_let) (.ref h_isn) (.ref h_tem) (.ref h_bto) (.ref h_bin) (.int x_mm_goneTo) (.int x_mm_goneIn) (.int x_mm_instances) (.ref h_cof) (.int x_mm_isProof) (.ref h_out) (.int x_mm_outs) (.ref h_wri) (.int x_mm_writes) (.int x_mm_room)))), (h_wri, .inl (cy_wri, 1000, .inl f_wri)), (h_let, .inl (cy_let, 256, .inl f_let)), (h_nv, .inl (cy_nv, 8000, .inl f_nv)), (h_nn, .inl (cy_nn, 8000, .inr (.inl f_nn))), (h_na, .inl (cy_na, 8000, .inl f_na)), (h_nb, .inl (cy_nb, 8000, .inl f_nb)), (h_nc, .inl (cy_nc, 8000, .inl f_nc)), (h_bto, .inl (cy_bto, 256, .inl f_bto)), (h_bin, .inl (cy_bin, 256, .inl f_bin)), (h_cof, .inl (cy_cof, 31, .inl f_cof)), (h_isn, .inl (cy_isn, 192, .inl f_isn)), (h_tem, .inl (cy_tem, 192, .inl f_tem)), (h_out, .inl (cy_out, 1000, .inl f_out)), (h_mny, .inl (cy_mny, 32, .inl f_mny))] := hD.sub [14, 0, 1, 2, 3, 4, 5, 6, 7, 8, 9, 10, 11, 12, 13] (by decide) rfl
      refine W.widen (k := 0) (n := 0) (Nat.le_of_ble_eq_true rfl) (Nat.le_of_ble_eq_true rfl) ?_
      have cstm1 : ((-1) : Int32).toInt = -1 := by decide
      have cst0 : (0 : Int32).toInt = 0 := by decide
      have w29 : 0 ≤ ((x_mm_goneTo)).toInt ∧ ((x_mm_goneTo)).toInt ≤ 7999 := by omega
      have w30 : 0 ≤ ((x_mm_goneIn)).toInt ∧ ((x_mm_goneIn)).toInt ≤ 31 := by omega
      have w31 : 0 ≤ ((x_mm_outs)).toInt ∧ ((x_mm_outs)).toInt ≤ 1000 := by omega
      have w32 : 0 ≤ ((x_mm_writes)).toInt ∧ ((x_mm_writes)).toInt ≤ 1000 := by omega
      have w33 : 0 ≤ ((x_mm_room)).toInt ∧ ((x_mm_room)).toInt ≤ 998 := by omega
      exact W.iret (v := (-1)) hx hb hr (fun t ht hW => ⟨⟨(-1), (0, x_mm_goneTo, x_mm_goneIn, x_mm_outs, x_mm_writes, x_mm_room, f_wri, f_out), rfl, ⟨w29, w30, w31, w32, w33⟩, by rw [ht]; exact hP, hD⟩, hS.F ht⟩) hS.2.2 dX11_shown_56
  · have hq : True := trivial
    refine lv_if_eq (tgt := 55) hx hb dX11_shown_10 (by decide) (fun _ => ?_) (fun c9 => absurd c9 (by decide))
    refine lv_iconst (v := (-1)) hx hb dX11_shown_55 (by decide) ?_
    have hP : va_P (dC, dI) cls [(h_mm, .inr (8, (mo79 v_mm (.int 0) (.ref h_nv) (.ref h_nn) (.ref h_na) (.ref h_nb) (.ref h_nc) (.int x_mm_clauses) (.ref h_mny) (.ref h_let) (.ref h_isn) (.ref h_tem) (.ref h_bto) (.ref h_bin) (.int x_mm_goneTo) (.int x_mm_goneIn) (.int x_mm_instances) (.ref h_cof) (.int x_mm_isProof) (.ref h_out) (.int x_mm_outs) (.ref h_wri) (.int x_mm_writes) (.int x_mm_room)))), (h_wri, .inl (cy_wri, 1000, .inl f_wri)), (h_let, .inl (cy_let, 256, .inl f_let)), (h_nv, .inl (cy_nv, 8000, .inl f_nv)), (h_nn, .inl (cy_nn, 8000, .inr (.inl f_nn))), (h_na, .inl (cy_na, 8000, .inl f_na)), (h_nb, .inl (cy_nb, 8000, .inl f_nb)), (h_nc, .inl (cy_nc, 8000, .inl f_nc)), (h_bto, .inl (cy_bto, 256, .inl f_bto)), (h_bin, .inl (cy_bin, 256, .inl f_bin)), (h_cof, .inl (cy_cof, 31, .inl f_cof)), (h_isn, .inl (cy_isn, 192, .inl f_isn)), (h_tem, .inl (cy_tem, 192, .inl f_tem)), (h_out, .inl (cy_out, 1000, .inl f_out)), (h_mny, .inl (cy_mny, 32, .inl f_mny))] H := hP.sub [14, 0, 1, 2, 3, 4, 5, 6, 7, 8, 9, 10, 11, 12, 13] rfl
    have hD : va_D A [(h_mm, .inr (8, (mo79 v_mm (.int 0) (.ref h_nv) (.ref h_nn) (.ref h_na) (.ref h_nb) (.ref h_nc) (.int x_mm_clauses) (.ref h_mny) (.ref h_let) (.ref h_isn) (.ref h_tem) (.ref h_bto) (.ref h_bin) (.int x_mm_goneTo) (.int x_mm_goneIn) (.int x_mm_instances) (.ref h_cof) (.int x_mm_isProof) (.ref h_out) (.int x_mm_outs) (.ref h_wri) (.int x_mm_writes) (.int x_mm_room)))), (h_wri, .inl (cy_wri, 1000, .inl f_wri)), (h_let, .inl (cy_let, 256, .inl f_let)), (h_nv, .inl (cy_nv, 8000, .inl f_nv)), (h_nn, .inl (cy_nn, 8000, .inr (.inl f_nn))), (h_na, .inl (cy_na, 8000, .inl f_na)), (h_nb, .inl (cy_nb, 8000, .inl f_nb)), (h_nc, .inl (cy_nc, 8000, .inl f_nc)), (h_bto, .inl (cy_bto, 256, .inl f_bto)), (h_bin, .inl (cy_bin, 256, .inl f_bin)), (h_cof, .inl (cy_cof, 31, .inl f_cof)), (h_isn, .inl (cy_isn, 192, .inl f_isn)), (h_tem, .inl (cy_tem, 192, .inl f_tem)), (h_out, .inl (cy_out, 1000, .inl f_out)), (h_mny, .inl (cy_mny, 32, .inl f_mny))] := hD.sub [14, 0, 1, 2, 3, 4, 5, 6, 7, 8, 9, 10, 11, 12, 13] (by decide) rfl
    refine W.widen (k := 0) (n := 0) (Nat.le_of_ble_eq_true rfl) (Nat.le_of_ble_eq_true rfl) ?_
    have cstm1 : ((-1) : Int32).toInt = -1 := by decide
    have cst0 : (0 : Int32).toInt = 0 := by decide
    have w34 : 0 ≤ ((x_mm_goneTo)).toInt ∧ ((x_mm_goneTo)).toInt ≤ 7999 := by omega
    have w35 : 0 ≤ ((x_mm_goneIn)).toInt ∧ ((x_mm_goneIn)).toInt ≤ 31 := by omega
    have w36 : 0 ≤ ((x_mm_outs)).toInt ∧ ((x_mm_outs)).toInt ≤ 1000 := by omega
    have w37 : 0 ≤ ((x_mm_writes)).toInt ∧ ((x_mm_writes)).toInt ≤ 1000 := by omega
    have w38 : 0 ≤ ((x_mm_room)).toInt ∧ ((x_mm_room)).toInt ≤ 998 := by omega
    exact W.iret (v := (-1)) hx hb hr (fun t ht hW => ⟨⟨(-1), (0, x_mm_goneTo, x_mm_goneIn, x_mm_outs, x_mm_writes, x_mm_room, f_wri, f_out), rfl, ⟨w34, w35, w36, w37, w38⟩, by rw [ht]; exact hP, hD⟩, hS.F ht⟩) hS.2.2 dX11_shown_56

