set_option maxHeartbeats 8000000 in
set_option maxRecDepth 100000 in
theorem c_X11_saysNumber_0 (l : Launch) (dC : Nat → ClassId) (dI : Nat → Nat → Nat) (sz : Nat) (h_mm : Nat) (h_wri : Nat) (v_mm : Nat → Value) (x_mm_writes : Int32) (x_mm_room : Int32) (cy_wri : ClassId) (f_wri : Nat → Int32) (p1 : Int32) (hx_mm_writes : 0 ≤ (x_mm_writes).toInt ∧ (x_mm_writes).toInt ≤ 1000) (hx_mm_room : 0 ≤ (x_mm_room).toInt ∧ (x_mm_room).toInt ≤ 998) (q0 : 0 ≤ (p1).toInt ∧ (p1).toInt ≤ 9) : Met l yX11_saysNumber (Ws yX11_saysNumber cX11_saysNumber 2 none) (({ frames := 1, cells := 0, slots := 0, locals := 21 } : Room)) (PRE (dC, dI) cls [(cy_wri, .int)] [(h_mm, .inr (8, (mo118 v_mm (.ref h_wri) (.int x_mm_writes) (.int x_mm_room)))), (h_wri, .inl (cy_wri, 1000, .inl f_wri))] sz [.ref h_mm, .int p1]) (va_Qv (fun (u : (Int32) × (Nat → Int32)) => (0 ≤ (u.1).toInt ∧ (u.1).toInt ≤ 1000)) (fun (u : (Int32) × (Nat → Int32)) (t : State) => va_P (dC, dI) cls [(h_mm, .inr (8, (mo118 v_mm (.ref h_wri) (.int u.1) (.int x_mm_room)))), (h_wri, .inl (cy_wri, 1000, .inl u.2))] t.heap ∧ va_D (va_A [(h_mm, .inr (8, (mo118 v_mm (.ref h_wri) (.int x_mm_writes) (.int x_mm_room)))), (h_wri, .inl (cy_wri, 1000, .inl f_wri))] sz) [(h_mm, .inr (8, (mo118 v_mm (.ref h_wri) (.int u.1) (.int x_mm_room)))), (h_wri, .inl (cy_wri, 1000, .inl u.2))]) (va_A [(h_mm, .inr (8, (mo118 v_mm (.ref h_wri) (.int x_mm_writes) (.int x_mm_room)))), (h_wri, .inl (cy_wri, 1000, .inl f_wri))] sz)) 0 0 (va_A [(h_mm, .inr (8, (mo118 v_mm (.ref h_wri) (.int x_mm_writes) (.int x_mm_room)))), (h_wri, .inl (cy_wri, 1000, .inl f_wri))] sz) := by
  refine Met.ofW (cc := cX11_saysNumber) (maxL := 2) (ret := none) (by decide) rfl ?_
  intro p e s m args below meth c s₁ B hml hv
  obtain ⟨rfl, hsz, hP, hK, hD0, hN⟩ := hv
  have hx := B.exec
  have hb := B.bytes
  have hr := B.returns
  have hts := atoms_spec (ws := Ws yX11_saysNumber cX11_saysNumber 2 none) B.pre
  have hT : ∀ w ∈ WALL, w ∈ Ws yX11_saysNumber cX11_saysNumber 2 none := fun w h => List.mem_cons_of_mem _ h
  have hw := fun w (h : w ∈ WALL) => hts w (hT w h)
  have hown : s.vm.findClass RX11 = some m.cls := findClass_of_methodNamed B.named
  have hlocks := B.notSynchronized
  subst hsz
  have hD := hD0.self (sz := s.heap.size)
  generalize hAe : va_A [(h_mm, .inr (8, (mo118 v_mm (.ref h_wri) (.int x_mm_writes) (.int x_mm_room)))), (h_wri, .inl (cy_wri, 1000, .inl f_wri))] s.heap.size = A at hD ⊢
  have hA : ∀ q : Nat, s.heap.size ≤ q → A q := fun q h => by rw [← hAe]; exact Or.inr h
  have hS : va_S A s.heap s.heap [] := va_S.rf
  have hl := lv_entry ([.ref h_mm, .int p1]) (n := 2) (Nat.le_of_ble_eq_true rfl)
  rw [lg_entry_eq]
  generalize (lg_sl ([.ref h_mm, .int p1]) ++ List.replicate (2 - (lg_sl ([.ref h_mm, .int p1])).length) Slot.unset).toArray = ls at hl ⊢
  have hl : lv_has ls 2 [(0, .ref h_mm), (1, .int p1)] := hl
  refine lv_iload_n hx hb dX11_saysNumber_0 rfl (lv_at hl 1 rfl) ?_
  refine lv_bipush (v := 9) hx hb dX11_saysNumber_1 (by decide) ?_
  refine lv_icmp_le (tgt := 14) hx hb dX11_saysNumber_3 (by decide) (fun _ => ?_) (fun c1 => False.elim (by have kc1 := (not_congr (cv_le (rfl : (p1).toInt = (p1).toInt) (by decide : (9 : Int32).toInt = 9))).mp c1; omega))
  refine lv_aload_n hx hb dX11_saysNumber_14 rfl (lv_at hl 0 rfl) ?_
  refine lv_bipush (v := 48) hx hb dX11_saysNumber_15 (by decide) ?_
  refine lv_iload_n hx hb dX11_saysNumber_17 rfl (lv_at hl 1 rfl) ?_
  refine lv_bipush (v := 10) hx hb dX11_saysNumber_18 (by decide) ?_
  refine lv_irem hx hb dX11_saysNumber_20 (by decide) ?_
  refine lv_topi (fun z2 ez2 => ?_)
  have tz2 : (z2).toInt = (p1).toInt % 10 := by rw [ez2]; exact i_rem rfl (by decide) (by omega)
  refine lv_iadd hx hb dX11_saysNumber_21 ?_
  refine lv_topi (fun z3 ez3 => ?_)
  have tz3 : (z3).toInt = 48 + (z2).toInt := by rw [ez3]; exact i_add (by decide) rfl (by omega)
  have hPc := hP.sub (ws' := [(h_mm, .inr (8, (mo118 v_mm (.ref h_wri) (.int x_mm_writes) (.int x_mm_room)))), (h_wri, .inl (cy_wri, 1000, .inl f_wri))]) [0, 1] rfl
  have hDc := hD.sub (ws' := [(h_mm, .inr (8, (mo118 v_mm (.ref h_wri) (.int x_mm_writes) (.int x_mm_room)))), (h_wri, .inl (cy_wri, 1000, .inl f_wri))]) [0, 1] (by decide) rfl
  have hKc := hK.sub (tys' := [(cy_wri, .int)]) [0] rfl
  have hFc := va_free (wc := [(h_mm, .inr (8, (mo118 v_mm (.ref h_wri) (.int x_mm_writes) (.int x_mm_room)))), (h_wri, .inl (cy_wri, 1000, .inl f_wri))]) hD hS hA [0, 1] rfl
  refine va_callv (va_runV (As := [.int z3]) (rest := []) ⟨hx, hb, hml, hown, hts⟩ (c_X11_says l dC dI s.heap.size h_mm h_wri v_mm x_mm_writes x_mm_room cy_wri f_wri z3 (by first | exact hx_mm_writes | omega) (by first | exact hx_mm_room | omega)) (cwV 1 hts (gv hT w_m_X11_452 w_instanceMethod_X11_says ws_sel_X11_says w_ini_X11 w_code_X11_says) rfl rfl rfl (by decide +kernel) ⟨(Nat.le_of_ble_eq_true rfl), (Nat.le_of_ble_eq_true rfl)⟩) ⟨pre_blind, va_recv hK hP (ci := 8) (q0 := 0) rfl rfl, pre_of hPc hKc hDc hN⟩ rfl rfl hl.1 rfl (lv_room (Nat.le_of_ble_eq_true rfl)) dX11_saysNumber_22 ⟨(Nat.le_of_ble_eq_true rfl), (Nat.le_of_ble_eq_true rfl)⟩) hS (fun q _ h => hFc q h) hFc (fun u t H locs ht hvm hq hB hz1 hk1 hS9 => ?_)
  obtain ⟨z5, f6⟩ := u
  obtain ⟨hP1, hD1⟩ := hB
  rw [ht] at hP1
  obtain ⟨hP9, hD9⟩ := va_join (wr := []) (w1 := [(h_mm, .inr (8, (mo118 v_mm (.ref h_wri) (.int z5) (.int x_mm_room)))), (h_wri, .inl (cy_wri, 1000, .inl f6))]) hP hD [0, 1] [] rfl rfl (by decide) (by decide) hk1 hFc hP1 hD1
  clear hP hD hS hPc hDc hKc hFc hP1 hD1 hk1 hz1 ht hvm
  have hP : va_P (dC, dI) cls [(h_mm, .inr (8, (mo118 v_mm (.ref h_wri) (.int z5) (.int x_mm_room)))), (h_wri, .inl (cy_wri, 1000, .inl f6))] H := hP9
  have hD : va_D A [(h_mm, .inr (8, (mo118 v_mm (.ref h_wri) (.int z5) (.int x_mm_room)))), (h_wri, .inl (cy_wri, 1000, .inl f6))] := hD9
  have hS := hS9
  clear hP9 hD9 hS9
  obtain ⟨k7, k8⟩ := hq
  replace k7 : 0 ≤ ((z5)).toInt ∧ ((z5)).toInt ≤ 1000 := k7
  replace k8 : ((x_mm_writes)).toInt ≤ ((z5)).toInt := k8
  refine W.widen (k := 0) (n := 0) (Nat.le_of_ble_eq_true rfl) (Nat.le_of_ble_eq_true rfl) ?_
  have w9 : 0 ≤ ((z5)).toInt ∧ ((z5)).toInt ≤ 1000 := by first | exact k7 | omega
  exact W.vret hx hb hr (fun t ht hW => ⟨⟨(z5, f6), rfl, w9, by rw [ht]; exact hP, hD⟩, hS.F ht⟩) hS.2.2 dX11_saysNumber_25

set_option maxHeartbeats 8000000 in
set_option maxRecDepth 100000 in
theorem c_X11_saysNumber_1 (l : Launch) (dC : Nat → ClassId) (dI : Nat → Nat → Nat) (sz : Nat) (h_mm : Nat) (h_wri : Nat) (v_mm : Nat → Value) (x_mm_writes : Int32) (x_mm_room : Int32) (cy_wri : ClassId) (f_wri : Nat → Int32) (p1 : Int32) (hx_mm_writes : 0 ≤ (x_mm_writes).toInt ∧ (x_mm_writes).toInt ≤ 1000) (hx_mm_room : 0 ≤ (x_mm_room).toInt ∧ (x_mm_room).toInt ≤ 998) (q0 : 0 ≤ (p1).toInt ∧ (p1).toInt ≤ 99) : Met l yX11_saysNumber (Ws yX11_saysNumber cX11_saysNumber 2 none) (({ frames := 2, cells := 0, slots := 0, locals := 42 } : Room)) (PRE (dC, dI) cls [(cy_wri, .int)] [(h_mm, .inr (8, (mo118 v_mm (.ref h_wri) (.int x_mm_writes) (.int x_mm_room)))), (h_wri, .inl (cy_wri, 1000, .inl f_wri))] sz [.ref h_mm, .int p1]) (va_Qv (fun (u : (Int32) × (Nat → Int32)) => (0 ≤ (u.1).toInt ∧ (u.1).toInt ≤ 1000)) (fun (u : (Int32) × (Nat → Int32)) (t : State) => va_P (dC, dI) cls [(h_mm, .inr (8, (mo118 v_mm (.ref h_wri) (.int u.1) (.int x_mm_room)))), (h_wri, .inl (cy_wri, 1000, .inl u.2))] t.heap ∧ va_D (va_A [(h_mm, .inr (8, (mo118 v_mm (.ref h_wri) (.int x_mm_writes) (.int x_mm_room)))), (h_wri, .inl (cy_wri, 1000, .inl f_wri))] sz) [(h_mm, .inr (8, (mo118 v_mm (.ref h_wri) (.int u.1) (.int x_mm_room)))), (h_wri, .inl (cy_wri, 1000, .inl u.2))]) (va_A [(h_mm, .inr (8, (mo118 v_mm (.ref h_wri) (.int x_mm_writes) (.int x_mm_room)))), (h_wri, .inl (cy_wri, 1000, .inl f_wri))] sz)) 0 0 (va_A [(h_mm, .inr (8, (mo118 v_mm (.ref h_wri) (.int x_mm_writes) (.int x_mm_room)))), (h_wri, .inl (cy_wri, 1000, .inl f_wri))] sz) := by
  refine Met.ofW (cc := cX11_saysNumber) (maxL := 2) (ret := none) (by decide) rfl ?_
  intro p e s m args below meth c s₁ B hml hv
  obtain ⟨rfl, hsz, hP, hK, hD0, hN⟩ := hv
  have hx := B.exec
  have hb := B.bytes
  have hr := B.returns
  have hts := atoms_spec (ws := Ws yX11_saysNumber cX11_saysNumber 2 none) B.pre
  have hT : ∀ w ∈ WALL, w ∈ Ws yX11_saysNumber cX11_saysNumber 2 none := fun w h => List.mem_cons_of_mem _ h
  have hw := fun w (h : w ∈ WALL) => hts w (hT w h)
  have hown : s.vm.findClass RX11 = some m.cls := findClass_of_methodNamed B.named
  have hlocks := B.notSynchronized
  subst hsz
  have hD := hD0.self (sz := s.heap.size)
  generalize hAe : va_A [(h_mm, .inr (8, (mo118 v_mm (.ref h_wri) (.int x_mm_writes) (.int x_mm_room)))), (h_wri, .inl (cy_wri, 1000, .inl f_wri))] s.heap.size = A at hD ⊢
  have hA : ∀ q : Nat, s.heap.size ≤ q → A q := fun q h => by rw [← hAe]; exact Or.inr h
  have hS : va_S A s.heap s.heap [] := va_S.rf
  have hl := lv_entry ([.ref h_mm, .int p1]) (n := 2) (Nat.le_of_ble_eq_true rfl)
  rw [lg_entry_eq]
  generalize (lg_sl ([.ref h_mm, .int p1]) ++ List.replicate (2 - (lg_sl ([.ref h_mm, .int p1])).length) Slot.unset).toArray = ls at hl ⊢
  have hl : lv_has ls 2 [(0, .ref h_mm), (1, .int p1)] := hl
  refine lv_iload_n hx hb dX11_saysNumber_0 rfl (lv_at hl 1 rfl) ?_
  refine lv_bipush (v := 9) hx hb dX11_saysNumber_1 (by decide) ?_
  refine lv_icmp_le (tgt := 14) hx hb dX11_saysNumber_3 (by decide) (fun c1 => ?_) (fun c1 => ?_)
  · have kc1 := (cv_le (rfl : (p1).toInt = (p1).toInt) (by decide : (9 : Int32).toInt = 9)).mp c1
    refine lv_aload_n hx hb dX11_saysNumber_14 rfl (lv_at hl 0 rfl) ?_
    refine lv_bipush (v := 48) hx hb dX11_saysNumber_15 (by decide) ?_
    refine lv_iload_n hx hb dX11_saysNumber_17 rfl (lv_at hl 1 rfl) ?_
    refine lv_bipush (v := 10) hx hb dX11_saysNumber_18 (by decide) ?_
    refine lv_irem hx hb dX11_saysNumber_20 (by decide) ?_
    refine lv_topi (fun z2 ez2 => ?_)
    have tz2 : (z2).toInt = (p1).toInt % 10 := by rw [ez2]; exact i_rem rfl (by decide) (by omega)
    refine lv_iadd hx hb dX11_saysNumber_21 ?_
    refine lv_topi (fun z3 ez3 => ?_)
    have tz3 : (z3).toInt = 48 + (z2).toInt := by rw [ez3]; exact i_add (by decide) rfl (by omega)
    have hPc := hP.sub (ws' := [(h_mm, .inr (8, (mo118 v_mm (.ref h_wri) (.int x_mm_writes) (.int x_mm_room)))), (h_wri, .inl (cy_wri, 1000, .inl f_wri))]) [0, 1] rfl
    have hDc := hD.sub (ws' := [(h_mm, .inr (8, (mo118 v_mm (.ref h_wri) (.int x_mm_writes) (.int x_mm_room)))), (h_wri, .inl (cy_wri, 1000, .inl f_wri))]) [0, 1] (by decide) rfl
    have hKc := hK.sub (tys' := [(cy_wri, .int)]) [0] rfl
    have hFc := va_free (wc := [(h_mm, .inr (8, (mo118 v_mm (.ref h_wri) (.int x_mm_writes) (.int x_mm_room)))), (h_wri, .inl (cy_wri, 1000, .inl f_wri))]) hD hS hA [0, 1] rfl
    refine va_callv (va_runV (As := [.int z3]) (rest := []) ⟨hx, hb, hml, hown, hts⟩ (c_X11_says l dC dI s.heap.size h_mm h_wri v_mm x_mm_writes x_mm_room cy_wri f_wri z3 (by first | exact hx_mm_writes | omega) (by first | exact hx_mm_room | omega)) (cwV 1 hts (gv hT w_m_X11_452 w_instanceMethod_X11_says ws_sel_X11_says w_ini_X11 w_code_X11_says) rfl rfl rfl (by decide +kernel) ⟨(Nat.le_of_ble_eq_true rfl), (Nat.le_of_ble_eq_true rfl)⟩) ⟨pre_blind, va_recv hK hP (ci := 8) (q0 := 0) rfl rfl, pre_of hPc hKc hDc hN⟩ rfl rfl hl.1 rfl (lv_room (Nat.le_of_ble_eq_true rfl)) dX11_saysNumber_22 ⟨(Nat.le_of_ble_eq_true rfl), (Nat.le_of_ble_eq_true rfl)⟩) hS (fun q _ h => hFc q h) hFc (fun u t H locs ht hvm hq hB hz1 hk1 hS9 => ?_)
    obtain ⟨z5, f6⟩ := u
    obtain ⟨hP1, hD1⟩ := hB
    rw [ht] at hP1
    obtain ⟨hP9, hD9⟩ := va_join (wr := []) (w1 := [(h_mm, .inr (8, (mo118 v_mm (.ref h_wri) (.int z5) (.int x_mm_room)))), (h_wri, .inl (cy_wri, 1000, .inl f6))]) hP hD [0, 1] [] rfl rfl (by decide) (by decide) hk1 hFc hP1 hD1
    clear hP hD hS hPc hDc hKc hFc hP1 hD1 hk1 hz1 ht hvm
    have hP : va_P (dC, dI) cls [(h_mm, .inr (8, (mo118 v_mm (.ref h_wri) (.int z5) (.int x_mm_room)))), (h_wri, .inl (cy_wri, 1000, .inl f6))] H := hP9
    have hD : va_D A [(h_mm, .inr (8, (mo118 v_mm (.ref h_wri) (.int z5) (.int x_mm_room)))), (h_wri, .inl (cy_wri, 1000, .inl f6))] := hD9
    have hS := hS9
    clear hP9 hD9 hS9
    obtain ⟨k7, k8⟩ := hq
    replace k7 : 0 ≤ ((z5)).toInt ∧ ((z5)).toInt ≤ 1000 := k7
    replace k8 : ((x_mm_writes)).toInt ≤ ((z5)).toInt := k8
    refine W.widen (k := 0) (n := 0) (Nat.le_of_ble_eq_true rfl) (Nat.le_of_ble_eq_true rfl) ?_
    have w9 : 0 ≤ ((z5)).toInt ∧ ((z5)).toInt ≤ 1000 := by first | exact k7 | omega
    exact W.vret hx hb hr (fun t ht hW => ⟨⟨(z5, f6), rfl, w9, by rw [ht]; exact hP, hD⟩, hS.F ht⟩) hS.2.2 dX11_saysNumber_25
  · have kc1 := (not_congr (cv_le (rfl : (p1).toInt = (p1).toInt) (by decide : (9 : Int32).toInt = 9))).mp c1
    refine lv_aload_n hx hb dX11_saysNumber_6 rfl (lv_at hl 0 rfl) ?_
    refine lv_iload_n hx hb dX11_saysNumber_7 rfl (lv_at hl 1 rfl) ?_
    refine lv_bipush (v := 10) hx hb dX11_saysNumber_8 (by decide) ?_
    refine lv_idiv hx hb dX11_saysNumber_10 (by decide) ?_
    refine lv_topi (fun z10 ez10 => ?_)
    have tz10 : (z10).toInt = (p1).toInt / 10 := by rw [ez10]; exact i_div rfl (by decide) (by omega)
    have hPc := hP.sub (ws' := [(h_mm, .inr (8, (mo118 v_mm (.ref h_wri) (.int x_mm_writes) (.int x_mm_room)))), (h_wri, .inl (cy_wri, 1000, .inl f_wri))]) [0, 1] rfl
    have hDc := hD.sub (ws' := [(h_mm, .inr (8, (mo118 v_mm (.ref h_wri) (.int x_mm_writes) (.int x_mm_room)))), (h_wri, .inl (cy_wri, 1000, .inl f_wri))]) [0, 1] (by decide) rfl
    have hKc := hK.sub (tys' := [(cy_wri, .int)]) [0] rfl
    have hFc := va_free (wc := [(h_mm, .inr (8, (mo118 v_mm (.ref h_wri) (.int x_mm_writes) (.int x_mm_room)))), (h_wri, .inl (cy_wri, 1000, .inl f_wri))]) hD hS hA [0, 1] rfl
    refine va_callv (va_runV (As := [.int z10]) (rest := []) ⟨hx, hb, hml, hown, hts⟩ (c_X11_saysNumber_0 l dC dI s.heap.size h_mm h_wri v_mm x_mm_writes x_mm_room cy_wri f_wri z10 (by first | exact hx_mm_writes | omega) (by first | exact hx_mm_room | omega) (by omega)) (cwV 1 hts (gv hT w_m_X11_449 w_instanceMethod_X11_saysNumber ws_sel_X11_saysNumber w_ini_X11 w_code_X11_saysNumber) rfl rfl rfl (by decide +kernel) ⟨(Nat.le_of_ble_eq_true rfl), (Nat.le_of_ble_eq_true rfl)⟩) ⟨pre_blind, va_recv hK hP (ci := 8) (q0 := 0) rfl rfl, pre_of hPc hKc hDc hN⟩ rfl rfl hl.1 rfl (lv_room (Nat.le_of_ble_eq_true rfl)) dX11_saysNumber_11 ⟨(Nat.le_of_ble_eq_true rfl), (Nat.le_of_ble_eq_true rfl)⟩) hS (fun q _ h => hFc q h) hFc (fun u t H locs ht hvm hq hB hz1 hk1 hS9 => ?_)
    obtain ⟨z12, f13⟩ := u
    obtain ⟨hP1, hD1⟩ := hB
    rw [ht] at hP1
    obtain ⟨hP9, hD9⟩ := va_join (wr := []) (w1 := [(h_mm, .inr (8, (mo118 v_mm (.ref h_wri) (.int z12) (.int x_mm_room)))), (h_wri, .inl (cy_wri, 1000, .inl f13))]) hP hD [0, 1] [] rfl rfl (by decide) (by decide) hk1 hFc hP1 hD1
    clear hP hD hS hPc hDc hKc hFc hP1 hD1 hk1 hz1 ht hvm
    have hP : va_P (dC, dI) cls [(h_mm, .inr (8, (mo118 v_mm (.ref h_wri) (.int z12) (.int x_mm_room)))), (h_wri, .inl (cy_wri, 1000, .inl f13))] H := hP9
    have hD : va_D A [(h_mm, .inr (8, (mo118 v_mm (.ref h_wri) (.int z12) (.int x_mm_room)))), (h_wri, .inl (cy_wri, 1000, .inl f13))] := hD9
    have hS := hS9
    clear hP9 hD9 hS9
    have k14 : 0 ≤ ((z12)).toInt ∧ ((z12)).toInt ≤ 1000 := hq
    clear hq
    refine lv_aload_n hx hb dX11_saysNumber_14 rfl (lv_at hl 0 rfl) ?_
    refine lv_bipush (v := 48) hx hb dX11_saysNumber_15 (by decide) ?_
    refine lv_iload_n hx hb dX11_saysNumber_17 rfl (lv_at hl 1 rfl) ?_
    refine lv_bipush (v := 10) hx hb dX11_saysNumber_18 (by decide) ?_
    refine lv_irem hx hb dX11_saysNumber_20 (by decide) ?_
    refine lv_topi (fun z15 ez15 => ?_)
    have tz15 : (z15).toInt = (p1).toInt % 10 := by rw [ez15]; exact i_rem rfl (by decide) (by omega)
    refine lv_iadd hx hb dX11_saysNumber_21 ?_
    refine lv_topi (fun z16 ez16 => ?_)
    have tz16 : (z16).toInt = 48 + (z15).toInt := by rw [ez16]; exact i_add (by decide) rfl (by omega)
    have hPc := hP.sub (ws' := [(h_mm, .inr (8, (mo118 v_mm (.ref h_wri) (.int z12) (.int x_mm_room)))), (h_wri, .inl (cy_wri, 1000, .inl f13))]) [0, 1] rfl
    have hDc := hD.sub (ws' := [(h_mm, .inr (8, (mo118 v_mm (.ref h_wri) (.int z12) (.int x_mm_room)))), (h_wri, .inl (cy_wri, 1000, .inl f13))]) [0, 1] (by decide) rfl
    have hKc := hK.sub (tys' := [(cy_wri, .int)]) [0] rfl
    have hFc := va_free (wc := [(h_mm, .inr (8, (mo118 v_mm (.ref h_wri) (.int z12) (.int x_mm_room)))), (h_wri, .inl (cy_wri, 1000, .inl f13))]) hD hS hA [0, 1] rfl
    refine va_callv (va_runV (As := [.int z16]) (rest := []) ⟨hx, hb, hml, hown, hts⟩ (c_X11_says l dC dI H.size h_mm h_wri v_mm z12 x_mm_room cy_wri f13 z16 (by first | exact k14 | omega) (by first | exact hx_mm_room | omega)) (cwV 1 hts (gv hT w_m_X11_452 w_instanceMethod_X11_says ws_sel_X11_says w_ini_X11 w_code_X11_says) rfl rfl rfl (by decide +kernel) ⟨(Nat.le_of_ble_eq_true rfl), (Nat.le_of_ble_eq_true rfl)⟩) ⟨pre_blind, va_recv hK hP (ci := 8) (q0 := 0) rfl rfl, pre_of hPc hKc hDc hN⟩ rfl rfl hl.1 rfl (lv_room (Nat.le_of_ble_eq_true rfl)) dX11_saysNumber_22 ⟨(Nat.le_of_ble_eq_true rfl), (Nat.le_of_ble_eq_true rfl)⟩) hS (fun q _ h => hFc q h) hFc (fun u t H locs ht hvm hq hB hz1 hk1 hS9 => ?_)
    obtain ⟨z18, f19⟩ := u
    obtain ⟨hP1, hD1⟩ := hB
    rw [ht] at hP1
    obtain ⟨hP9, hD9⟩ := va_join (wr := []) (w1 := [(h_mm, .inr (8, (mo118 v_mm (.ref h_wri) (.int z18) (.int x_mm_room)))), (h_wri, .inl (cy_wri, 1000, .inl f19))]) hP hD [0, 1] [] rfl rfl (by decide) (by decide) hk1 hFc hP1 hD1
    clear hP hD hS hPc hDc hKc hFc hP1 hD1 hk1 hz1 ht hvm
    have hP : va_P (dC, dI) cls [(h_mm, .inr (8, (mo118 v_mm (.ref h_wri) (.int z18) (.int x_mm_room)))), (h_wri, .inl (cy_wri, 1000, .inl f19))] H := hP9
    have hD : va_D A [(h_mm, .inr (8, (mo118 v_mm (.ref h_wri) (.int z18) (.int x_mm_room)))), (h_wri, .inl (cy_wri, 1000, .inl f19))] := hD9
    have hS := hS9
    clear hP9 hD9 hS9
    obtain ⟨k20, k21⟩ := hq
    replace k20 : 0 ≤ ((z18)).toInt ∧ ((z18)).toInt ≤ 1000 := k20
    replace k21 : ((z12)).toInt ≤ ((z18)).toInt := k21
    refine W.widen (k := 0) (n := 0) (Nat.le_of_ble_eq_true rfl) (Nat.le_of_ble_eq_true rfl) ?_
    have w22 : 0 ≤ ((z18)).toInt ∧ ((z18)).toInt ≤ 1000 := by first | exact k20 | omega
    exact W.vret hx hb hr (fun t ht hW => ⟨⟨(z18, f19), rfl, w22, by rw [ht]; exact hP, hD⟩, hS.F ht⟩) hS.2.2 dX11_saysNumber_25

set_option maxHeartbeats 8000000 in
set_option maxRecDepth 100000 in
theorem c_X11_saysName_0 (l : Launch) (dC : Nat → ClassId) (dI : Nat → Nat → Nat) (sz : Nat) (h_mm : Nat) (h_wri : Nat) (v_mm : Nat → Value) (x_mm_writes : Int32) (x_mm_room : Int32) (cy_wri : ClassId) (f_wri : Nat → Int32) (p1 : Int64) (hx_mm_writes : 0 ≤ (x_mm_writes).toInt ∧ (x_mm_writes).toInt ≤ 1000) (hx_mm_room : 0 ≤ (x_mm_room).toInt ∧ (x_mm_room).toInt ≤ 998) (q0 : (p1).toInt ≤ 27) : Met l yX11_saysName (Ws yX11_saysName cX11_saysName 3 none) (({ frames := 1, cells := 0, slots := 0, locals := 21 } : Room)) (PRE (dC, dI) cls [(cy_wri, .int)] [(h_mm, .inr (8, (mo118 v_mm (.ref h_wri) (.int x_mm_writes) (.int x_mm_room)))), (h_wri, .inl (cy_wri, 1000, .inl f_wri))] sz [.ref h_mm, .long p1]) (va_Qv (fun (u : (Int32) × (Nat → Int32)) => (0 ≤ (u.1).toInt ∧ (u.1).toInt ≤ 1000)) (fun (u : (Int32) × (Nat → Int32)) (t : State) => va_P (dC, dI) cls [(h_mm, .inr (8, (mo118 v_mm (.ref h_wri) (.int u.1) (.int x_mm_room)))), (h_wri, .inl (cy_wri, 1000, .inl u.2))] t.heap ∧ va_D (va_A [(h_mm, .inr (8, (mo118 v_mm (.ref h_wri) (.int x_mm_writes) (.int x_mm_room)))), (h_wri, .inl (cy_wri, 1000, .inl f_wri))] sz) [(h_mm, .inr (8, (mo118 v_mm (.ref h_wri) (.int u.1) (.int x_mm_room)))), (h_wri, .inl (cy_wri, 1000, .inl u.2))]) (va_A [(h_mm, .inr (8, (mo118 v_mm (.ref h_wri) (.int x_mm_writes) (.int x_mm_room)))), (h_wri, .inl (cy_wri, 1000, .inl f_wri))] sz)) 0 0 (va_A [(h_mm, .inr (8, (mo118 v_mm (.ref h_wri) (.int x_mm_writes) (.int x_mm_room)))), (h_wri, .inl (cy_wri, 1000, .inl f_wri))] sz) := by
  refine Met.ofW (cc := cX11_saysName) (maxL := 3) (ret := none) (by decide) rfl ?_
  intro p e s m args below meth c s₁ B hml hv
  obtain ⟨rfl, hsz, hP, hK, hD0, hN⟩ := hv
  have hx := B.exec
  have hb := B.bytes
  have hr := B.returns
  have hts := atoms_spec (ws := Ws yX11_saysName cX11_saysName 3 none) B.pre
  have hT : ∀ w ∈ WALL, w ∈ Ws yX11_saysName cX11_saysName 3 none := fun w h => List.mem_cons_of_mem _ h
  have hw := fun w (h : w ∈ WALL) => hts w (hT w h)
  have hown : s.vm.findClass RX11 = some m.cls := findClass_of_methodNamed B.named
  have hlocks := B.notSynchronized
  subst hsz
  have hD := hD0.self (sz := s.heap.size)
  generalize hAe : va_A [(h_mm, .inr (8, (mo118 v_mm (.ref h_wri) (.int x_mm_writes) (.int x_mm_room)))), (h_wri, .inl (cy_wri, 1000, .inl f_wri))] s.heap.size = A at hD ⊢
  have hA : ∀ q : Nat, s.heap.size ≤ q → A q := fun q h => by rw [← hAe]; exact Or.inr h
  have hS : va_S A s.heap s.heap [] := va_S.rf
  have hl := lv_entry ([.ref h_mm, .long p1]) (n := 3) (Nat.le_of_ble_eq_true rfl)
  rw [lg_entry_eq]
  generalize (lg_sl ([.ref h_mm, .long p1]) ++ List.replicate (3 - (lg_sl ([.ref h_mm, .long p1])).length) Slot.unset).toArray = ls at hl ⊢
  have hl : lv_has ls 3 [(0, .ref h_mm), (1, .long p1)] := hl
  refine lv_lload_n hx hb dX11_saysName_0 rfl (lv_at hl 1 rfl) ?_
  refine lv_ldc2 (v := 27) hx hb hown (hw _ w_cl_X11_93) dX11_saysName_1 ?_
  refine W.lcmp hx hb dX11_saysName_4 ?_
  refine lv_topi (fun z1 ez1 => ?_)
  have gz1 := lgc p1 27
  rw [← ez1] at gz1
  have : (27 : Int64).toInt = 27 := by decide
  refine lv_if_le (tgt := 19) hx hb dX11_saysName_5 (by decide) (fun _ => ?_) (fun c2 => False.elim (by have kc2 := (not_congr (cv_le (rfl : (z1).toInt = (z1).toInt) (by decide : (0 : Int32).toInt = 0))).mp c2; omega))
  refine lv_aload_n hx hb dX11_saysName_19 rfl (lv_at hl 0 rfl) ?_
  refine lv_bipush (v := 97) hx hb dX11_saysName_20 (by decide) ?_
  refine lv_lload_n hx hb dX11_saysName_22 rfl (lv_at hl 1 rfl) ?_
  refine lv_lconst (v := 1) hx hb dX11_saysName_23 (by decide) ?_
  refine lv_lsub hx hb dX11_saysName_24 ?_
  refine lv_topl (fun z3 ez3 => ?_)
  refine lv_ldc2 (v := 27) hx hb hown (hw _ w_cl_X11_93) dX11_saysName_25 ?_
  refine lv_lrem hx hb dX11_saysName_28 (by decide) ?_
  refine lv_topl (fun z4 ez4 => ?_)
  refine lv_l2i hx hb dX11_saysName_29 rfl ?_
  refine lv_topi (fun z5 ez5 => ?_)
  refine lv_iadd hx hb dX11_saysName_30 ?_
  refine lv_topi (fun z6 ez6 => ?_)
  have hPc := hP.sub (ws' := [(h_mm, .inr (8, (mo118 v_mm (.ref h_wri) (.int x_mm_writes) (.int x_mm_room)))), (h_wri, .inl (cy_wri, 1000, .inl f_wri))]) [0, 1] rfl
  have hDc := hD.sub (ws' := [(h_mm, .inr (8, (mo118 v_mm (.ref h_wri) (.int x_mm_writes) (.int x_mm_room)))), (h_wri, .inl (cy_wri, 1000, .inl f_wri))]) [0, 1] (by decide) rfl
  have hKc := hK.sub (tys' := [(cy_wri, .int)]) [0] rfl
  have hFc := va_free (wc := [(h_mm, .inr (8, (mo118 v_mm (.ref h_wri) (.int x_mm_writes) (.int x_mm_room)))), (h_wri, .inl (cy_wri, 1000, .inl f_wri))]) hD hS hA [0, 1] rfl
  refine va_callv (va_runV (As := [.int z6]) (rest := []) ⟨hx, hb, hml, hown, hts⟩ (c_X11_says l dC dI s.heap.size h_mm h_wri v_mm x_mm_writes x_mm_room cy_wri f_wri z6 (by first | exact hx_mm_writes | omega) (by first | exact hx_mm_room | omega)) (cwV 1 hts (gv hT w_m_X11_452 w_instanceMethod_X11_says ws_sel_X11_says w_ini_X11 w_code_X11_says) rfl rfl rfl (by decide +kernel) ⟨(Nat.le_of_ble_eq_true rfl), (Nat.le_of_ble_eq_true rfl)⟩) ⟨pre_blind, va_recv hK hP (ci := 8) (q0 := 0) rfl rfl, pre_of hPc hKc hDc hN⟩ rfl rfl hl.1 rfl (lv_room (Nat.le_of_ble_eq_true rfl)) dX11_saysName_31 ⟨(Nat.le_of_ble_eq_true rfl), (Nat.le_of_ble_eq_true rfl)⟩) hS (fun q _ h => hFc q h) hFc (fun u t H locs ht hvm hq hB hz1 hk1 hS9 => ?_)
  obtain ⟨z8, f9⟩ := u
  obtain ⟨hP1, hD1⟩ := hB
  rw [ht] at hP1
  obtain ⟨hP9, hD9⟩ := va_join (wr := []) (w1 := [(h_mm, .inr (8, (mo118 v_mm (.ref h_wri) (.int z8) (.int x_mm_room)))), (h_wri, .inl (cy_wri, 1000, .inl f9))]) hP hD [0, 1] [] rfl rfl (by decide) (by decide) hk1 hFc hP1 hD1
  clear hP hD hS hPc hDc hKc hFc hP1 hD1 hk1 hz1 ht hvm
  have hP : va_P (dC, dI) cls [(h_mm, .inr (8, (mo118 v_mm (.ref h_wri) (.int z8) (.int x_mm_room)))), (h_wri, .inl (cy_wri, 1000, .inl f9))] H := hP9
  have hD : va_D A [(h_mm, .inr (8, (mo118 v_mm (.ref h_wri) (.int z8) (.int x_mm_room)))), (h_wri, .inl (cy_wri, 1000, .inl f9))] := hD9
  have hS := hS9
  clear hP9 hD9 hS9
  obtain ⟨k10, k11⟩ := hq
  replace k10 : 0 ≤ ((z8)).toInt ∧ ((z8)).toInt ≤ 1000 := k10
  replace k11 : ((x_mm_writes)).toInt ≤ ((z8)).toInt := k11
  refine W.widen (k := 0) (n := 0) (Nat.le_of_ble_eq_true rfl) (Nat.le_of_ble_eq_true rfl) ?_
  have w12 : 0 ≤ ((z8)).toInt ∧ ((z8)).toInt ≤ 1000 := by first | exact k10 | omega
  exact W.vret hx hb hr (fun t ht hW => ⟨⟨(z8, f9), rfl, w12, by rw [ht]; exact hP, hD⟩, hS.F ht⟩) hS.2.2 dX11_saysName_34

set_option maxHeartbeats 8000000 in
set_option maxRecDepth 100000 in
theorem c_X11_saysName_1 (l : Launch) (dC : Nat → ClassId) (dI : Nat → Nat → Nat) (sz : Nat) (h_mm : Nat) (h_wri : Nat) (v_mm : Nat → Value) (x_mm_writes : Int32) (x_mm_room : Int32) (cy_wri : ClassId) (f_wri : Nat → Int32) (p1 : Int64) (hx_mm_writes : 0 ≤ (x_mm_writes).toInt ∧ (x_mm_writes).toInt ≤ 1000) (hx_mm_room : 0 ≤ (x_mm_room).toInt ∧ (x_mm_room).toInt ≤ 998) (q0 : (p1).toInt ≤ 756) : Met l yX11_saysName (Ws yX11_saysName cX11_saysName 3 none) (({ frames := 2, cells := 0, slots := 0, locals := 43 } : Room)) (PRE (dC, dI) cls [(cy_wri, .int)] [(h_mm, .inr (8, (mo118 v_mm (.ref h_wri) (.int x_mm_writes) (.int x_mm_room)))), (h_wri, .inl (cy_wri, 1000, .inl f_wri))] sz [.ref h_mm, .long p1]) (va_Qv (fun (u : (Int32) × (Nat → Int32)) => (0 ≤ (u.1).toInt ∧ (u.1).toInt ≤ 1000)) (fun (u : (Int32) × (Nat → Int32)) (t : State) => va_P (dC, dI) cls [(h_mm, .inr (8, (mo118 v_mm (.ref h_wri) (.int u.1) (.int x_mm_room)))), (h_wri, .inl (cy_wri, 1000, .inl u.2))] t.heap ∧ va_D (va_A [(h_mm, .inr (8, (mo118 v_mm (.ref h_wri) (.int x_mm_writes) (.int x_mm_room)))), (h_wri, .inl (cy_wri, 1000, .inl f_wri))] sz) [(h_mm, .inr (8, (mo118 v_mm (.ref h_wri) (.int u.1) (.int x_mm_room)))), (h_wri, .inl (cy_wri, 1000, .inl u.2))]) (va_A [(h_mm, .inr (8, (mo118 v_mm (.ref h_wri) (.int x_mm_writes) (.int x_mm_room)))), (h_wri, .inl (cy_wri, 1000, .inl f_wri))] sz)) 0 0 (va_A [(h_mm, .inr (8, (mo118 v_mm (.ref h_wri) (.int x_mm_writes) (.int x_mm_room)))), (h_wri, .inl (cy_wri, 1000, .inl f_wri))] sz) := by
  refine Met.ofW (cc := cX11_saysName) (maxL := 3) (ret := none) (by decide) rfl ?_
  intro p e s m args below meth c s₁ B hml hv
  obtain ⟨rfl, hsz, hP, hK, hD0, hN⟩ := hv
  have hx := B.exec
  have hb := B.bytes
  have hr := B.returns
  have hts := atoms_spec (ws := Ws yX11_saysName cX11_saysName 3 none) B.pre
  have hT : ∀ w ∈ WALL, w ∈ Ws yX11_saysName cX11_saysName 3 none := fun w h => List.mem_cons_of_mem _ h
  have hw := fun w (h : w ∈ WALL) => hts w (hT w h)
  have hown : s.vm.findClass RX11 = some m.cls := findClass_of_methodNamed B.named
  have hlocks := B.notSynchronized
  subst hsz
  have hD := hD0.self (sz := s.heap.size)
  generalize hAe : va_A [(h_mm, .inr (8, (mo118 v_mm (.ref h_wri) (.int x_mm_writes) (.int x_mm_room)))), (h_wri, .inl (cy_wri, 1000, .inl f_wri))] s.heap.size = A at hD ⊢
  have hA : ∀ q : Nat, s.heap.size ≤ q → A q := fun q h => by rw [← hAe]; exact Or.inr h
  have hS : va_S A s.heap s.heap [] := va_S.rf
  have hl := lv_entry ([.ref h_mm, .long p1]) (n := 3) (Nat.le_of_ble_eq_true rfl)
  rw [lg_entry_eq]
  generalize (lg_sl ([.ref h_mm, .long p1]) ++ List.replicate (3 - (lg_sl ([.ref h_mm, .long p1])).length) Slot.unset).toArray = ls at hl ⊢
  have hl : lv_has ls 3 [(0, .ref h_mm), (1, .long p1)] := hl
  refine lv_lload_n hx hb dX11_saysName_0 rfl (lv_at hl 1 rfl) ?_
  refine lv_ldc2 (v := 27) hx hb hown (hw _ w_cl_X11_93) dX11_saysName_1 ?_
  refine W.lcmp hx hb dX11_saysName_4 ?_
  refine lv_topi (fun z1 ez1 => ?_)
  have gz1 := lgc p1 27
  rw [← ez1] at gz1
  have : (27 : Int64).toInt = 27 := by decide
  refine lv_if_le (tgt := 19) hx hb dX11_saysName_5 (by decide) (fun c2 => ?_) (fun c2 => ?_)
  · have kc2 := (cv_le (rfl : (z1).toInt = (z1).toInt) (by decide : (0 : Int32).toInt = 0)).mp c2
    refine lv_aload_n hx hb dX11_saysName_19 rfl (lv_at hl 0 rfl) ?_
    refine lv_bipush (v := 97) hx hb dX11_saysName_20 (by decide) ?_
    refine lv_lload_n hx hb dX11_saysName_22 rfl (lv_at hl 1 rfl) ?_
    refine lv_lconst (v := 1) hx hb dX11_saysName_23 (by decide) ?_
    refine lv_lsub hx hb dX11_saysName_24 ?_
    refine lv_topl (fun z3 ez3 => ?_)
    refine lv_ldc2 (v := 27) hx hb hown (hw _ w_cl_X11_93) dX11_saysName_25 ?_
    refine lv_lrem hx hb dX11_saysName_28 (by decide) ?_
    refine lv_topl (fun z4 ez4 => ?_)
    refine lv_l2i hx hb dX11_saysName_29 rfl ?_
    refine lv_topi (fun z5 ez5 => ?_)
    refine lv_iadd hx hb dX11_saysName_30 ?_
    refine lv_topi (fun z6 ez6 => ?_)
    have hPc := hP.sub (ws' := [(h_mm, .inr (8, (mo118 v_mm (.ref h_wri) (.int x_mm_writes) (.int x_mm_room)))), (h_wri, .inl (cy_wri, 1000, .inl f_wri))]) [0, 1] rfl
    have hDc := hD.sub (ws' := [(h_mm, .inr (8, (mo118 v_mm (.ref h_wri) (.int x_mm_writes) (.int x_mm_room)))), (h_wri, .inl (cy_wri, 1000, .inl f_wri))]) [0, 1] (by decide) rfl
    have hKc := hK.sub (tys' := [(cy_wri, .int)]) [0] rfl
    have hFc := va_free (wc := [(h_mm, .inr (8, (mo118 v_mm (.ref h_wri) (.int x_mm_writes) (.int x_mm_room)))), (h_wri, .inl (cy_wri, 1000, .inl f_wri))]) hD hS hA [0, 1] rfl
    refine va_callv (va_runV (As := [.int z6]) (rest := []) ⟨hx, hb, hml, hown, hts⟩ (c_X11_says l dC dI s.heap.size h_mm h_wri v_mm x_mm_writes x_mm_room cy_wri f_wri z6 (by first | exact hx_mm_writes | omega) (by first | exact hx_mm_room | omega)) (cwV 1 hts (gv hT w_m_X11_452 w_instanceMethod_X11_says ws_sel_X11_says w_ini_X11 w_code_X11_says) rfl rfl rfl (by decide +kernel) ⟨(Nat.le_of_ble_eq_true rfl), (Nat.le_of_ble_eq_true rfl)⟩) ⟨pre_blind, va_recv hK hP (ci := 8) (q0 := 0) rfl rfl, pre_of hPc hKc hDc hN⟩ rfl rfl hl.1 rfl (lv_room (Nat.le_of_ble_eq_true rfl)) dX11_saysName_31 ⟨(Nat.le_of_ble_eq_true rfl), (Nat.le_of_ble_eq_true rfl)⟩) hS (fun q _ h => hFc q h) hFc (fun u t H locs ht hvm hq hB hz1 hk1 hS9 => ?_)
    obtain ⟨z8, f9⟩ := u
    obtain ⟨hP1, hD1⟩ := hB
    rw [ht] at hP1
    obtain ⟨hP9, hD9⟩ := va_join (wr := []) (w1 := [(h_mm, .inr (8, (mo118 v_mm (.ref h_wri) (.int z8) (.int x_mm_room)))), (h_wri, .inl (cy_wri, 1000, .inl f9))]) hP hD [0, 1] [] rfl rfl (by decide) (by decide) hk1 hFc hP1 hD1
    clear hP hD hS hPc hDc hKc hFc hP1 hD1 hk1 hz1 ht hvm
    have hP : va_P (dC, dI) cls [(h_mm, .inr (8, (mo118 v_mm (.ref h_wri) (.int z8) (.int x_mm_room)))), (h_wri, .inl (cy_wri, 1000, .inl f9))] H := hP9
    have hD : va_D A [(h_mm, .inr (8, (mo118 v_mm (.ref h_wri) (.int z8) (.int x_mm_room)))), (h_wri, .inl (cy_wri, 1000, .inl f9))] := hD9
    have hS := hS9
    clear hP9 hD9 hS9
    obtain ⟨k10, k11⟩ := hq
    replace k10 : 0 ≤ ((z8)).toInt ∧ ((z8)).toInt ≤ 1000 := k10
    replace k11 : ((x_mm_writes)).toInt ≤ ((z8)).toInt := k11
    refine W.widen (k := 0) (n := 0) (Nat.le_of_ble_eq_true rfl) (Nat.le_of_ble_eq_true rfl) ?_
    have w12 : 0 ≤ ((z8)).toInt ∧ ((z8)).toInt ≤ 1000 := by first | exact k10 | omega
    exact W.vret hx hb hr (fun t ht hW => ⟨⟨(z8, f9), rfl, w12, by rw [ht]; exact hP, hD⟩, hS.F ht⟩) hS.2.2 dX11_saysName_34
  · have kc2 := (not_congr (cv_le (rfl : (z1).toInt = (z1).toInt) (by decide : (0 : Int32).toInt = 0))).mp c2
    have bd9 := l_bd p1
    refine lv_aload_n hx hb dX11_saysName_8 rfl (lv_at hl 0 rfl) ?_
    refine lv_lload_n hx hb dX11_saysName_9 rfl (lv_at hl 1 rfl) ?_
    refine lv_lconst (v := 1) hx hb dX11_saysName_10 (by decide) ?_
    refine lv_lsub hx hb dX11_saysName_11 ?_
    refine lv_topl (fun z13 ez13 => ?_)
    have tz13 : (z13).toInt = (p1).toInt - 1 := by rw [ez13]; exact l_sub rfl (by decide) (by omega)
    refine lv_ldc2 (v := 27) hx hb hown (hw _ w_cl_X11_93) dX11_saysName_12 ?_
    refine lv_ldiv hx hb dX11_saysName_15 (by decide) ?_
    refine lv_topl (fun z14 ez14 => ?_)
    have tz14 : 0 ≤ (z13).toInt → (z14).toInt = (z13).toInt / 27 := fun h9 => by rw [ez14]; exact l_div rfl (by decide) (by omega)
    have hPc := hP.sub (ws' := [(h_mm, .inr (8, (mo118 v_mm (.ref h_wri) (.int x_mm_writes) (.int x_mm_room)))), (h_wri, .inl (cy_wri, 1000, .inl f_wri))]) [0, 1] rfl
    have hDc := hD.sub (ws' := [(h_mm, .inr (8, (mo118 v_mm (.ref h_wri) (.int x_mm_writes) (.int x_mm_room)))), (h_wri, .inl (cy_wri, 1000, .inl f_wri))]) [0, 1] (by decide) rfl
    have hKc := hK.sub (tys' := [(cy_wri, .int)]) [0] rfl
    have hFc := va_free (wc := [(h_mm, .inr (8, (mo118 v_mm (.ref h_wri) (.int x_mm_writes) (.int x_mm_room)))), (h_wri, .inl (cy_wri, 1000, .inl f_wri))]) hD hS hA [0, 1] rfl
    refine va_callv (va_runV (As := [.long z14]) (rest := []) ⟨hx, hb, hml, hown, hts⟩ (c_X11_saysName_0 l dC dI s.heap.size h_mm h_wri v_mm x_mm_writes x_mm_room cy_wri f_wri z14 (by first | exact hx_mm_writes | omega) (by first | exact hx_mm_room | omega) (by omega)) (cwV 1 hts (gv hT w_m_X11_455 w_instanceMethod_X11_saysName ws_sel_X11_saysName w_ini_X11 w_code_X11_saysName) rfl rfl rfl (by decide +kernel) ⟨(Nat.le_of_ble_eq_true rfl), (Nat.le_of_ble_eq_true rfl)⟩) ⟨pre_blind, va_recv hK hP (ci := 8) (q0 := 0) rfl rfl, pre_of hPc hKc hDc hN⟩ rfl rfl hl.1 rfl (lv_room (Nat.le_of_ble_eq_true rfl)) dX11_saysName_16 ⟨(Nat.le_of_ble_eq_true rfl), (Nat.le_of_ble_eq_true rfl)⟩) hS (fun q _ h => hFc q h) hFc (fun u t H locs ht hvm hq hB hz1 hk1 hS9 => ?_)
    obtain ⟨z16, f17⟩ := u
    obtain ⟨hP1, hD1⟩ := hB
    rw [ht] at hP1
    obtain ⟨hP9, hD9⟩ := va_join (wr := []) (w1 := [(h_mm, .inr (8, (mo118 v_mm (.ref h_wri) (.int z16) (.int x_mm_room)))), (h_wri, .inl (cy_wri, 1000, .inl f17))]) hP hD [0, 1] [] rfl rfl (by decide) (by decide) hk1 hFc hP1 hD1
    clear hP hD hS hPc hDc hKc hFc hP1 hD1 hk1 hz1 ht hvm
    have hP : va_P (dC, dI) cls [(h_mm, .inr (8, (mo118 v_mm (.ref h_wri) (.int z16) (.int x_mm_room)))), (h_wri, .inl (cy_wri, 1000, .inl f17))] H := hP9
    have hD : va_D A [(h_mm, .inr (8, (mo118 v_mm (.ref h_wri) (.int z16) (.int x_mm_room)))), (h_wri, .inl (cy_wri, 1000, .inl f17))] := hD9
    have hS := hS9
    clear hP9 hD9 hS9
    have k18 : 0 ≤ ((z16)).toInt ∧ ((z16)).toInt ≤ 1000 := hq
    clear hq
    refine lv_aload_n hx hb dX11_saysName_19 rfl (lv_at hl 0 rfl) ?_
    refine lv_bipush (v := 97) hx hb dX11_saysName_20 (by decide) ?_
    refine lv_lload_n hx hb dX11_saysName_22 rfl (lv_at hl 1 rfl) ?_
    refine lv_lconst (v := 1) hx hb dX11_saysName_23 (by decide) ?_
    refine lv_lsub hx hb dX11_saysName_24 ?_
    refine lv_topl (fun z19 ez19 => ?_)
    refine lv_ldc2 (v := 27) hx hb hown (hw _ w_cl_X11_93) dX11_saysName_25 ?_
    refine lv_lrem hx hb dX11_saysName_28 (by decide) ?_
    refine lv_topl (fun z20 ez20 => ?_)
    refine lv_l2i hx hb dX11_saysName_29 rfl ?_
    refine lv_topi (fun z21 ez21 => ?_)
    refine lv_iadd hx hb dX11_saysName_30 ?_
    refine lv_topi (fun z22 ez22 => ?_)
    have hPc := hP.sub (ws' := [(h_mm, .inr (8, (mo118 v_mm (.ref h_wri) (.int z16) (.int x_mm_room)))), (h_wri, .inl (cy_wri, 1000, .inl f17))]) [0, 1] rfl
    have hDc := hD.sub (ws' := [(h_mm, .inr (8, (mo118 v_mm (.ref h_wri) (.int z16) (.int x_mm_room)))), (h_wri, .inl (cy_wri, 1000, .inl f17))]) [0, 1] (by decide) rfl
    have hKc := hK.sub (tys' := [(cy_wri, .int)]) [0] rfl
    have hFc := va_free (wc := [(h_mm, .inr (8, (mo118 v_mm (.ref h_wri) (.int z16) (.int x_mm_room)))), (h_wri, .inl (cy_wri, 1000, .inl f17))]) hD hS hA [0, 1] rfl
    refine va_callv (va_runV (As := [.int z22]) (rest := []) ⟨hx, hb, hml, hown, hts⟩ (c_X11_says l dC dI H.size h_mm h_wri v_mm z16 x_mm_room cy_wri f17 z22 (by first | exact k18 | omega) (by first | exact hx_mm_room | omega)) (cwV 1 hts (gv hT w_m_X11_452 w_instanceMethod_X11_says ws_sel_X11_says w_ini_X11 w_code_X11_says) rfl rfl rfl (by decide +kernel) ⟨(Nat.le_of_ble_eq_true rfl), (Nat.le_of_ble_eq_true rfl)⟩) ⟨pre_blind, va_recv hK hP (ci := 8) (q0 := 0) rfl rfl, pre_of hPc hKc hDc hN⟩ rfl rfl hl.1 rfl (lv_room (Nat.le_of_ble_eq_true rfl)) dX11_saysName_31 ⟨(Nat.le_of_ble_eq_true rfl), (Nat.le_of_ble_eq_true rfl)⟩) hS (fun q _ h => hFc q h) hFc (fun u t H locs ht hvm hq hB hz1 hk1 hS9 => ?_)
    obtain ⟨z24, f25⟩ := u
    obtain ⟨hP1, hD1⟩ := hB
    rw [ht] at hP1
    obtain ⟨hP9, hD9⟩ := va_join (wr := []) (w1 := [(h_mm, .inr (8, (mo118 v_mm (.ref h_wri) (.int z24) (.int x_mm_room)))), (h_wri, .inl (cy_wri, 1000, .inl f25))]) hP hD [0, 1] [] rfl rfl (by decide) (by decide) hk1 hFc hP1 hD1
    clear hP hD hS hPc hDc hKc hFc hP1 hD1 hk1 hz1 ht hvm
    have hP : va_P (dC, dI) cls [(h_mm, .inr (8, (mo118 v_mm (.ref h_wri) (.int z24) (.int x_mm_room)))), (h_wri, .inl (cy_wri, 1000, .inl f25))] H := hP9
    have hD : va_D A [(h_mm, .inr (8, (mo118 v_mm (.ref h_wri) (.int z24) (.int x_mm_room)))), (h_wri, .inl (cy_wri, 1000, .inl f25))] := hD9
    have hS := hS9
    clear hP9 hD9 hS9
    obtain ⟨k26, k27⟩ := hq
    replace k26 : 0 ≤ ((z24)).toInt ∧ ((z24)).toInt ≤ 1000 := k26
    replace k27 : ((z16)).toInt ≤ ((z24)).toInt := k27
    refine W.widen (k := 0) (n := 0) (Nat.le_of_ble_eq_true rfl) (Nat.le_of_ble_eq_true rfl) ?_
    have w28 : 0 ≤ ((z24)).toInt ∧ ((z24)).toInt ≤ 1000 := by first | exact k26 | omega
    exact W.vret hx hb hr (fun t ht hW => ⟨⟨(z24, f25), rfl, w28, by rw [ht]; exact hP, hD⟩, hS.F ht⟩) hS.2.2 dX11_saysName_34

set_option maxHeartbeats 8000000 in
set_option maxRecDepth 100000 in
theorem c_X11_saysName_2 (l : Launch) (dC : Nat → ClassId) (dI : Nat → Nat → Nat) (sz : Nat) (h_mm : Nat) (h_wri : Nat) (v_mm : Nat → Value) (x_mm_writes : Int32) (x_mm_room : Int32) (cy_wri : ClassId) (f_wri : Nat → Int32) (p1 : Int64) (hx_mm_writes : 0 ≤ (x_mm_writes).toInt ∧ (x_mm_writes).toInt ≤ 1000) (hx_mm_room : 0 ≤ (x_mm_room).toInt ∧ (x_mm_room).toInt ≤ 998) (q0 : (p1).toInt ≤ 20439) : Met l yX11_saysName (Ws yX11_saysName cX11_saysName 3 none) (({ frames := 3, cells := 0, slots := 0, locals := 65 } : Room)) (PRE (dC, dI) cls [(cy_wri, .int)] [(h_mm, .inr (8, (mo118 v_mm (.ref h_wri) (.int x_mm_writes) (.int x_mm_room)))), (h_wri, .inl (cy_wri, 1000, .inl f_wri))] sz [.ref h_mm, .long p1]) (va_Qv (fun (u : (Int32) × (Nat → Int32)) => (0 ≤ (u.1).toInt ∧ (u.1).toInt ≤ 1000)) (fun (u : (Int32) × (Nat → Int32)) (t : State) => va_P (dC, dI) cls [(h_mm, .inr (8, (mo118 v_mm (.ref h_wri) (.int u.1) (.int x_mm_room)))), (h_wri, .inl (cy_wri, 1000, .inl u.2))] t.heap ∧ va_D (va_A [(h_mm, .inr (8, (mo118 v_mm (.ref h_wri) (.int x_mm_writes) (.int x_mm_room)))), (h_wri, .inl (cy_wri, 1000, .inl f_wri))] sz) [(h_mm, .inr (8, (mo118 v_mm (.ref h_wri) (.int u.1) (.int x_mm_room)))), (h_wri, .inl (cy_wri, 1000, .inl u.2))]) (va_A [(h_mm, .inr (8, (mo118 v_mm (.ref h_wri) (.int x_mm_writes) (.int x_mm_room)))), (h_wri, .inl (cy_wri, 1000, .inl f_wri))] sz)) 0 0 (va_A [(h_mm, .inr (8, (mo118 v_mm (.ref h_wri) (.int x_mm_writes) (.int x_mm_room)))), (h_wri, .inl (cy_wri, 1000, .inl f_wri))] sz) := by
  refine Met.ofW (cc := cX11_saysName) (maxL := 3) (ret := none) (by decide) rfl ?_
  intro p e s m args below meth c s₁ B hml hv
  obtain ⟨rfl, hsz, hP, hK, hD0, hN⟩ := hv
  have hx := B.exec
  have hb := B.bytes
  have hr := B.returns
  have hts := atoms_spec (ws := Ws yX11_saysName cX11_saysName 3 none) B.pre
  have hT : ∀ w ∈ WALL, w ∈ Ws yX11_saysName cX11_saysName 3 none := fun w h => List.mem_cons_of_mem _ h
  have hw := fun w (h : w ∈ WALL) => hts w (hT w h)
  have hown : s.vm.findClass RX11 = some m.cls := findClass_of_methodNamed B.named
  have hlocks := B.notSynchronized
  subst hsz
  have hD := hD0.self (sz := s.heap.size)
  generalize hAe : va_A [(h_mm, .inr (8, (mo118 v_mm (.ref h_wri) (.int x_mm_writes) (.int x_mm_room)))), (h_wri, .inl (cy_wri, 1000, .inl f_wri))] s.heap.size = A at hD ⊢
  have hA : ∀ q : Nat, s.heap.size ≤ q → A q := fun q h => by rw [← hAe]; exact Or.inr h
  have hS : va_S A s.heap s.heap [] := va_S.rf
  have hl := lv_entry ([.ref h_mm, .long p1]) (n := 3) (Nat.le_of_ble_eq_true rfl)
  rw [lg_entry_eq]
  generalize (lg_sl ([.ref h_mm, .long p1]) ++ List.replicate (3 - (lg_sl ([.ref h_mm, .long p1])).length) Slot.unset).toArray = ls at hl ⊢
  have hl : lv_has ls 3 [(0, .ref h_mm), (1, .long p1)] := hl
  refine lv_lload_n hx hb dX11_saysName_0 rfl (lv_at hl 1 rfl) ?_
  refine lv_ldc2 (v := 27) hx hb hown (hw _ w_cl_X11_93) dX11_saysName_1 ?_
  refine W.lcmp hx hb dX11_saysName_4 ?_
  refine lv_topi (fun z1 ez1 => ?_)
  have gz1 := lgc p1 27
  rw [← ez1] at gz1
  have : (27 : Int64).toInt = 27 := by decide
  refine lv_if_le (tgt := 19) hx hb dX11_saysName_5 (by decide) (fun c2 => ?_) (fun c2 => ?_)
  · have kc2 := (cv_le (rfl : (z1).toInt = (z1).toInt) (by decide : (0 : Int32).toInt = 0)).mp c2
    refine lv_aload_n hx hb dX11_saysName_19 rfl (lv_at hl 0 rfl) ?_
    refine lv_bipush (v := 97) hx hb dX11_saysName_20 (by decide) ?_
    refine lv_lload_n hx hb dX11_saysName_22 rfl (lv_at hl 1 rfl) ?_
    refine lv_lconst (v := 1) hx hb dX11_saysName_23 (by decide) ?_
    refine lv_lsub hx hb dX11_saysName_24 ?_
    refine lv_topl (fun z3 ez3 => ?_)
    refine lv_ldc2 (v := 27) hx hb hown (hw _ w_cl_X11_93) dX11_saysName_25 ?_
    refine lv_lrem hx hb dX11_saysName_28 (by decide) ?_
    refine lv_topl (fun z4 ez4 => ?_)
    refine lv_l2i hx hb dX11_saysName_29 rfl ?_
    refine lv_topi (fun z5 ez5 => ?_)
    refine lv_iadd hx hb dX11_saysName_30 ?_
    refine lv_topi (fun z6 ez6 => ?_)
    have hPc := hP.sub (ws' := [(h_mm, .inr (8, (mo118 v_mm (.ref h_wri) (.int x_mm_writes) (.int x_mm_room)))), (h_wri, .inl (cy_wri, 1000, .inl f_wri))]) [0, 1] rfl
    have hDc := hD.sub (ws' := [(h_mm, .inr (8, (mo118 v_mm (.ref h_wri) (.int x_mm_writes) (.int x_mm_room)))), (h_wri, .inl (cy_wri, 1000, .inl f_wri))]) [0, 1] (by decide) rfl
    have hKc := hK.sub (tys' := [(cy_wri, .int)]) [0] rfl
    have hFc := va_free (wc := [(h_mm, .inr (8, (mo118 v_mm (.ref h_wri) (.int x_mm_writes) (.int x_mm_room)))), (h_wri, .inl (cy_wri, 1000, .inl f_wri))]) hD hS hA [0, 1] rfl
    refine va_callv (va_runV (As := [.int z6]) (rest := []) ⟨hx, hb, hml, hown, hts⟩ (c_X11_says l dC dI s.heap.size h_mm h_wri v_mm x_mm_writes x_mm_room cy_wri f_wri z6 (by first | exact hx_mm_writes | omega) (by first | exact hx_mm_room | omega)) (cwV 1 hts (gv hT w_m_X11_452 w_instanceMethod_X11_says ws_sel_X11_says w_ini_X11 w_code_X11_says) rfl rfl rfl (by decide +kernel) ⟨(Nat.le_of_ble_eq_true rfl), (Nat.le_of_ble_eq_true rfl)⟩) ⟨pre_blind, va_recv hK hP (ci := 8) (q0 := 0) rfl rfl, pre_of hPc hKc hDc hN⟩ rfl rfl hl.1 rfl (lv_room (Nat.le_of_ble_eq_true rfl)) dX11_saysName_31 ⟨(Nat.le_of_ble_eq_true rfl), (Nat.le_of_ble_eq_true rfl)⟩) hS (fun q _ h => hFc q h) hFc (fun u t H locs ht hvm hq hB hz1 hk1 hS9 => ?_)
    obtain ⟨z8, f9⟩ := u
    obtain ⟨hP1, hD1⟩ := hB
    rw [ht] at hP1
    obtain ⟨hP9, hD9⟩ := va_join (wr := []) (w1 := [(h_mm, .inr (8, (mo118 v_mm (.ref h_wri) (.int z8) (.int x_mm_room)))), (h_wri, .inl (cy_wri, 1000, .inl f9))]) hP hD [0, 1] [] rfl rfl (by decide) (by decide) hk1 hFc hP1 hD1
    clear hP hD hS hPc hDc hKc hFc hP1 hD1 hk1 hz1 ht hvm
    have hP : va_P (dC, dI) cls [(h_mm, .inr (8, (mo118 v_mm (.ref h_wri) (.int z8) (.int x_mm_room)))), (h_wri, .inl (cy_wri, 1000, .inl f9))] H := hP9
    have hD : va_D A [(h_mm, .inr (8, (mo118 v_mm (.ref h_wri) (.int z8) (.int x_mm_room)))), (h_wri, .inl (cy_wri, 1000, .inl f9))] := hD9
    have hS := hS9
    clear hP9 hD9 hS9
    obtain ⟨k10, k11⟩ := hq
    replace k10 : 0 ≤ ((z8)).toInt ∧ ((z8)).toInt ≤ 1000 := k10
    replace k11 : ((x_mm_writes)).toInt ≤ ((z8)).toInt := k11
    refine W.widen (k := 0) (n := 0) (Nat.le_of_ble_eq_true rfl) (Nat.le_of_ble_eq_true rfl) ?_
    have w12 : 0 ≤ ((z8)).toInt ∧ ((z8)).toInt ≤ 1000 := by first | exact k10 | omega
    exact W.vret hx hb hr (fun t ht hW => ⟨⟨(z8, f9), rfl, w12, by rw [ht]; exact hP, hD⟩, hS.F ht⟩) hS.2.2 dX11_saysName_34
  · have kc2 := (not_congr (cv_le (rfl : (z1).toInt = (z1).toInt) (by decide : (0 : Int32).toInt = 0))).mp c2
    have bd9 := l_bd p1
    refine lv_aload_n hx hb dX11_saysName_8 rfl (lv_at hl 0 rfl) ?_
    refine lv_lload_n hx hb dX11_saysName_9 rfl (lv_at hl 1 rfl) ?_
    refine lv_lconst (v := 1) hx hb dX11_saysName_10 (by decide) ?_
    refine lv_lsub hx hb dX11_saysName_11 ?_
    refine lv_topl (fun z13 ez13 => ?_)
    have tz13 : (z13).toInt = (p1).toInt - 1 := by rw [ez13]; exact l_sub rfl (by decide) (by omega)
    refine lv_ldc2 (v := 27) hx hb hown (hw _ w_cl_X11_93) dX11_saysName_12 ?_
    refine lv_ldiv hx hb dX11_saysName_15 (by decide) ?_
    refine lv_topl (fun z14 ez14 => ?_)
    have tz14 : 0 ≤ (z13).toInt → (z14).toInt = (z13).toInt / 27 := fun h9 => by rw [ez14]; exact l_div rfl (by decide) (by omega)
    have hPc := hP.sub (ws' := [(h_mm, .inr (8, (mo118 v_mm (.ref h_wri) (.int x_mm_writes) (.int x_mm_room)))), (h_wri, .inl (cy_wri, 1000, .inl f_wri))]) [0, 1] rfl
    have hDc := hD.sub (ws' := [(h_mm, .inr (8, (mo118 v_mm (.ref h_wri) (.int x_mm_writes) (.int x_mm_room)))), (h_wri, .inl (cy_wri, 1000, .inl f_wri))]) [0, 1] (by decide) rfl
    have hKc := hK.sub (tys' := [(cy_wri, .int)]) [0] rfl
    have hFc := va_free (wc := [(h_mm, .inr (8, (mo118 v_mm (.ref h_wri) (.int x_mm_writes) (.int x_mm_room)))), (h_wri, .inl (cy_wri, 1000, .inl f_wri))]) hD hS hA [0, 1] rfl
    refine va_callv (va_runV (As := [.long z14]) (rest := []) ⟨hx, hb, hml, hown, hts⟩ (c_X11_saysName_1 l dC dI s.heap.size h_mm h_wri v_mm x_mm_writes x_mm_room cy_wri f_wri z14 (by first | exact hx_mm_writes | omega) (by first | exact hx_mm_room | omega) (by omega)) (cwV 1 hts (gv hT w_m_X11_455 w_instanceMethod_X11_saysName ws_sel_X11_saysName w_ini_X11 w_code_X11_saysName) rfl rfl rfl (by decide +kernel) ⟨(Nat.le_of_ble_eq_true rfl), (Nat.le_of_ble_eq_true rfl)⟩) ⟨pre_blind, va_recv hK hP (ci := 8) (q0 := 0) rfl rfl, pre_of hPc hKc hDc hN⟩ rfl rfl hl.1 rfl (lv_room (Nat.le_of_ble_eq_true rfl)) dX11_saysName_16 ⟨(Nat.le_of_ble_eq_true rfl), (Nat.le_of_ble_eq_true rfl)⟩) hS (fun q _ h => hFc q h) hFc (fun u t H locs ht hvm hq hB hz1 hk1 hS9 => ?_)
    obtain ⟨z16, f17⟩ := u
    obtain ⟨hP1, hD1⟩ := hB
    rw [ht] at hP1
    obtain ⟨hP9, hD9⟩ := va_join (wr := []) (w1 := [(h_mm, .inr (8, (mo118 v_mm (.ref h_wri) (.int z16) (.int x_mm_room)))), (h_wri, .inl (cy_wri, 1000, .inl f17))]) hP hD [0, 1] [] rfl rfl (by decide) (by decide) hk1 hFc hP1 hD1
    clear hP hD hS hPc hDc hKc hFc hP1 hD1 hk1 hz1 ht hvm
    have hP : va_P (dC, dI) cls [(h_mm, .inr (8, (mo118 v_mm (.ref h_wri) (.int z16) (.int x_mm_room)))), (h_wri, .inl (cy_wri, 1000, .inl f17))] H := hP9
    have hD : va_D A [(h_mm, .inr (8, (mo118 v_mm (.ref h_wri) (.int z16) (.int x_mm_room)))), (h_wri, .inl (cy_wri, 1000, .inl f17))] := hD9
    have hS := hS9
    clear hP9 hD9 hS9
    have k18 : 0 ≤ ((z16)).toInt ∧ ((z16)).toInt ≤ 1000 := hq
    clear hq
    refine lv_aload_n hx hb dX11_saysName_19 rfl (lv_at hl 0 rfl) ?_
    refine lv_bipush (v := 97) hx hb dX11_saysName_20 (by decide) ?_
    refine lv_lload_n hx hb dX11_saysName_22 rfl (lv_at hl 1 rfl) ?_
    refine lv_lconst (v := 1) hx hb dX11_saysName_23 (by decide) ?_
    refine lv_lsub hx hb dX11_saysName_24 ?_
    refine lv_topl (fun z19 ez19 => ?_)
    refine lv_ldc2 (v := 27) hx hb hown (hw _ w_cl_X11_93) dX11_saysName_25 ?_
    refine lv_lrem hx hb dX11_saysName_28 (by decide) ?_
    refine lv_topl (fun z20 ez20 => ?_)
    refine lv_l2i hx hb dX11_saysName_29 rfl ?_
    refine lv_topi (fun z21 ez21 => ?_)
    refine lv_iadd hx hb dX11_saysName_30 ?_
    refine lv_topi (fun z22 ez22 => ?_)
    have hPc := hP.sub (ws' := [(h_mm, .inr (8, (mo118 v_mm (.ref h_wri) (.int z16) (.int x_mm_room)))), (h_wri, .inl (cy_wri, 1000, .inl f17))]) [0, 1] rfl
    have hDc := hD.sub (ws' := [(h_mm, .inr (8, (mo118 v_mm (.ref h_wri) (.int z16) (.int x_mm_room)))), (h_wri, .inl (cy_wri, 1000, .inl f17))]) [0, 1] (by decide) rfl
    have hKc := hK.sub (tys' := [(cy_wri, .int)]) [0] rfl
    have hFc := va_free (wc := [(h_mm, .inr (8, (mo118 v_mm (.ref h_wri) (.int z16) (.int x_mm_room)))), (h_wri, .inl (cy_wri, 1000, .inl f17))]) hD hS hA [0, 1] rfl
    refine va_callv (va_runV (As := [.int z22]) (rest := []) ⟨hx, hb, hml, hown, hts⟩ (c_X11_says l dC dI H.size h_mm h_wri v_mm z16 x_mm_room cy_wri f17 z22 (by first | exact k18 | omega) (by first | exact hx_mm_room | omega)) (cwV 1 hts (gv hT w_m_X11_452 w_instanceMethod_X11_says ws_sel_X11_says w_ini_X11 w_code_X11_says) rfl rfl rfl (by decide +kernel) ⟨(Nat.le_of_ble_eq_true rfl), (Nat.le_of_ble_eq_true rfl)⟩) ⟨pre_blind, va_recv hK hP (ci := 8) (q0 := 0) rfl rfl, pre_of hPc hKc hDc hN⟩ rfl rfl hl.1 rfl (lv_room (Nat.le_of_ble_eq_true rfl)) dX11_saysName_31 ⟨(Nat.le_of_ble_eq_true rfl), (Nat.le_of_ble_eq_true rfl)⟩) hS (fun q _ h => hFc q h) hFc (fun u t H locs ht hvm hq hB hz1 hk1 hS9 => ?_)
    obtain ⟨z24, f25⟩ := u
    obtain ⟨hP1, hD1⟩ := hB
    rw [ht] at hP1
    obtain ⟨hP9, hD9⟩ := va_join (wr := []) (w1 := [(h_mm, .inr (8, (mo118 v_mm (.ref h_wri) (.int z24) (.int x_mm_room)))), (h_wri, .inl (cy_wri, 1000, .inl f25))]) hP hD [0, 1] [] rfl rfl (by decide) (by decide) hk1 hFc hP1 hD1
    clear hP hD hS hPc hDc hKc hFc hP1 hD1 hk1 hz1 ht hvm
    have hP : va_P (dC, dI) cls [(h_mm, .inr (8, (mo118 v_mm (.ref h_wri) (.int z24) (.int x_mm_room)))), (h_wri, .inl (cy_wri, 1000, .inl f25))] H := hP9
    have hD : va_D A [(h_mm, .inr (8, (mo118 v_mm (.ref h_wri) (.int z24) (.int x_mm_room)))), (h_wri, .inl (cy_wri, 1000, .inl f25))] := hD9
    have hS := hS9
    clear hP9 hD9 hS9
    obtain ⟨k26, k27⟩ := hq
    replace k26 : 0 ≤ ((z24)).toInt ∧ ((z24)).toInt ≤ 1000 := k26
    replace k27 : ((z16)).toInt ≤ ((z24)).toInt := k27
    refine W.widen (k := 0) (n := 0) (Nat.le_of_ble_eq_true rfl) (Nat.le_of_ble_eq_true rfl) ?_
    have w28 : 0 ≤ ((z24)).toInt ∧ ((z24)).toInt ≤ 1000 := by first | exact k26 | omega
    exact W.vret hx hb hr (fun t ht hW => ⟨⟨(z24, f25), rfl, w28, by rw [ht]; exact hP, hD⟩, hS.F ht⟩) hS.2.2 dX11_saysName_34

set_option maxHeartbeats 8000000 in
set_option maxRecDepth 100000 in
theorem c_X11_saysName_3 (l : Launch) (dC : Nat → ClassId) (dI : Nat → Nat → Nat) (sz : Nat) (h_mm : Nat) (h_wri : Nat) (v_mm : Nat → Value) (x_mm_writes : Int32) (x_mm_room : Int32) (cy_wri : ClassId) (f_wri : Nat → Int32) (p1 : Int64) (hx_mm_writes : 0 ≤ (x_mm_writes).toInt ∧ (x_mm_writes).toInt ≤ 1000) (hx_mm_room : 0 ≤ (x_mm_room).toInt ∧ (x_mm_room).toInt ≤ 998) (q0 : (p1).toInt ≤ 551880) : Met l yX11_saysName (Ws yX11_saysName cX11_saysName 3 none) (({ frames := 4, cells := 0, slots := 0, locals := 87 } : Room)) (PRE (dC, dI) cls [(cy_wri, .int)] [(h_mm, .inr (8, (mo118 v_mm (.ref h_wri) (.int x_mm_writes) (.int x_mm_room)))), (h_wri, .inl (cy_wri, 1000, .inl f_wri))] sz [.ref h_mm, .long p1]) (va_Qv (fun (u : (Int32) × (Nat → Int32)) => (0 ≤ (u.1).toInt ∧ (u.1).toInt ≤ 1000)) (fun (u : (Int32) × (Nat → Int32)) (t : State) => va_P (dC, dI) cls [(h_mm, .inr (8, (mo118 v_mm (.ref h_wri) (.int u.1) (.int x_mm_room)))), (h_wri, .inl (cy_wri, 1000, .inl u.2))] t.heap ∧ va_D (va_A [(h_mm, .inr (8, (mo118 v_mm (.ref h_wri) (.int x_mm_writes) (.int x_mm_room)))), (h_wri, .inl (cy_wri, 1000, .inl f_wri))] sz) [(h_mm, .inr (8, (mo118 v_mm (.ref h_wri) (.int u.1) (.int x_mm_room)))), (h_wri, .inl (cy_wri, 1000, .inl u.2))]) (va_A [(h_mm, .inr (8, (mo118 v_mm (.ref h_wri) (.int x_mm_writes) (.int x_mm_room)))), (h_wri, .inl (cy_wri, 1000, .inl f_wri))] sz)) 0 0 (va_A [(h_mm, .inr (8, (mo118 v_mm (.ref h_wri) (.int x_mm_writes) (.int x_mm_room)))), (h_wri, .inl (cy_wri, 1000, .inl f_wri))] sz) := by
  refine Met.ofW (cc := cX11_saysName) (maxL := 3) (ret := none) (by decide) rfl ?_
  intro p e s m args below meth c s₁ B hml hv
  obtain ⟨rfl, hsz, hP, hK, hD0, hN⟩ := hv
  have hx := B.exec
  have hb := B.bytes
  have hr := B.returns
  have hts := atoms_spec (ws := Ws yX11_saysName cX11_saysName 3 none) B.pre
  have hT : ∀ w ∈ WALL, w ∈ Ws yX11_saysName cX11_saysName 3 none := fun w h => List.mem_cons_of_mem _ h
  have hw := fun w (h : w ∈ WALL) => hts w (hT w h)
  have hown : s.vm.findClass RX11 = some m.cls := findClass_of_methodNamed B.named
  have hlocks := B.notSynchronized
  subst hsz
  have hD := hD0.self (sz := s.heap.size)
  generalize hAe : va_A [(h_mm, .inr (8, (mo118 v_mm (.ref h_wri) (.int x_mm_writes) (.int x_mm_room)))), (h_wri, .inl (cy_wri, 1000, .inl f_wri))] s.heap.size = A at hD ⊢
  have hA : ∀ q : Nat, s.heap.size ≤ q → A q := fun q h => by rw [← hAe]; exact Or.inr h
  have hS : va_S A s.heap s.heap [] := va_S.rf
  have hl := lv_entry ([.ref h_mm, .long p1]) (n := 3) (Nat.le_of_ble_eq_true rfl)
  rw [lg_entry_eq]
  generalize (lg_sl ([.ref h_mm, .long p1]) ++ List.replicate (3 - (lg_sl ([.ref h_mm, .long p1])).length) Slot.unset).toArray = ls at hl ⊢
  have hl : lv_has ls 3 [(0, .ref h_mm), (1, .long p1)] := hl
  refine lv_lload_n hx hb dX11_saysName_0 rfl (lv_at hl 1 rfl) ?_
  refine lv_ldc2 (v := 27) hx hb hown (hw _ w_cl_X11_93) dX11_saysName_1 ?_
  refine W.lcmp hx hb dX11_saysName_4 ?_
  refine lv_topi (fun z1 ez1 => ?_)
  have gz1 := lgc p1 27
  rw [← ez1] at gz1
  have : (27 : Int64).toInt = 27 := by decide
  refine lv_if_le (tgt := 19) hx hb dX11_saysName_5 (by decide) (fun c2 => ?_) (fun c2 => ?_)
  · have kc2 := (cv_le (rfl : (z1).toInt = (z1).toInt) (by decide : (0 : Int32).toInt = 0)).mp c2
    refine lv_aload_n hx hb dX11_saysName_19 rfl (lv_at hl 0 rfl) ?_
    refine lv_bipush (v := 97) hx hb dX11_saysName_20 (by decide) ?_
    refine lv_lload_n hx hb dX11_saysName_22 rfl (lv_at hl 1 rfl) ?_
    refine lv_lconst (v := 1) hx hb dX11_saysName_23 (by decide) ?_
    refine lv_lsub hx hb dX11_saysName_24 ?_
    refine lv_topl (fun z3 ez3 => ?_)
    refine lv_ldc2 (v := 27) hx hb hown (hw _ w_cl_X11_93) dX11_saysName_25 ?_
    refine lv_lrem hx hb dX11_saysName_28 (by decide) ?_
    refine lv_topl (fun z4 ez4 => ?_)
    refine lv_l2i hx hb dX11_saysName_29 rfl ?_
    refine lv_topi (fun z5 ez5 => ?_)
    refine lv_iadd hx hb dX11_saysName_30 ?_
    refine lv_topi (fun z6 ez6 => ?_)
    have hPc := hP.sub (ws' := [(h_mm, .inr (8, (mo118 v_mm (.ref h_wri) (.int x_mm_writes) (.int x_mm_room)))), (h_wri, .inl (cy_wri, 1000, .inl f_wri))]) [0, 1] rfl
    have hDc := hD.sub (ws' := [(h_mm, .inr (8, (mo118 v_mm (.ref h_wri) (.int x_mm_writes) (.int x_mm_room)))), (h_wri, .inl (cy_wri, 1000, .inl f_wri))]) [0, 1] (by decide) rfl
    have hKc := hK.sub (tys' := [(cy_wri, .int)]) [0] rfl
    have hFc := va_free (wc := [(h_mm, .inr (8, (mo118 v_mm (.ref h_wri) (.int x_mm_writes) (.int x_mm_room)))), (h_wri, .inl (cy_wri, 1000, .inl f_wri))]) hD hS hA [0, 1] rfl
    refine va_callv (va_runV (As := [.int z6]) (rest := []) ⟨hx, hb, hml, hown, hts⟩ (c_X11_says l dC dI s.heap.size h_mm h_wri v_mm x_mm_writes x_mm_room cy_wri f_wri z6 (by first | exact hx_mm_writes | omega) (by first | exact hx_mm_room | omega)) (cwV 1 hts (gv hT w_m_X11_452 w_instanceMethod_X11_says ws_sel_X11_says w_ini_X11 w_code_X11_says) rfl rfl rfl (by decide +kernel) ⟨(Nat.le_of_ble_eq_true rfl), (Nat.le_of_ble_eq_true rfl)⟩) ⟨pre_blind, va_recv hK hP (ci := 8) (q0 := 0) rfl rfl, pre_of hPc hKc hDc hN⟩ rfl rfl hl.1 rfl (lv_room (Nat.le_of_ble_eq_true rfl)) dX11_saysName_31 ⟨(Nat.le_of_ble_eq_true rfl), (Nat.le_of_ble_eq_true rfl)⟩) hS (fun q _ h => hFc q h) hFc (fun u t H locs ht hvm hq hB hz1 hk1 hS9 => ?_)
    obtain ⟨z8, f9⟩ := u
    obtain ⟨hP1, hD1⟩ := hB
    rw [ht] at hP1
    obtain ⟨hP9, hD9⟩ := va_join (wr := []) (w1 := [(h_mm, .inr (8, (mo118 v_mm (.ref h_wri) (.int z8) (.int x_mm_room)))), (h_wri, .inl (cy_wri, 1000, .inl f9))]) hP hD [0, 1] [] rfl rfl (by decide) (by decide) hk1 hFc hP1 hD1
    clear hP hD hS hPc hDc hKc hFc hP1 hD1 hk1 hz1 ht hvm
    have hP : va_P (dC, dI) cls [(h_mm, .inr (8, (mo118 v_mm (.ref h_wri) (.int z8) (.int x_mm_room)))), (h_wri, .inl (cy_wri, 1000, .inl f9))] H := hP9
    have hD : va_D A [(h_mm, .inr (8, (mo118 v_mm (.ref h_wri) (.int z8) (.int x_mm_room)))), (h_wri, .inl (cy_wri, 1000, .inl f9))] := hD9
    have hS := hS9
    clear hP9 hD9 hS9
    obtain ⟨k10, k11⟩ := hq
    replace k10 : 0 ≤ ((z8)).toInt ∧ ((z8)).toInt ≤ 1000 := k10
    replace k11 : ((x_mm_writes)).toInt ≤ ((z8)).toInt := k11
    refine W.widen (k := 0) (n := 0) (Nat.le_of_ble_eq_true rfl) (Nat.le_of_ble_eq_true rfl) ?_
    have w12 : 0 ≤ ((z8)).toInt ∧ ((z8)).toInt ≤ 1000 := by first | exact k10 | omega
    exact W.vret hx hb hr (fun t ht hW => ⟨⟨(z8, f9), rfl, w12, by rw [ht]; exact hP, hD⟩, hS.F ht⟩) hS.2.2 dX11_saysName_34
  · have kc2 := (not_congr (cv_le (rfl : (z1).toInt = (z1).toInt) (by decide : (0 : Int32).toInt = 0))).mp c2
    have bd9 := l_bd p1
    refine lv_aload_n hx hb dX11_saysName_8 rfl (lv_at hl 0 rfl) ?_
    refine lv_lload_n hx hb dX11_saysName_9 rfl (lv_at hl 1 rfl) ?_
    refine lv_lconst (v := 1) hx hb dX11_saysName_10 (by decide) ?_
    refine lv_lsub hx hb dX11_saysName_11 ?_
    refine lv_topl (fun z13 ez13 => ?_)
    have tz13 : (z13).toInt = (p1).toInt - 1 := by rw [ez13]; exact l_sub rfl (by decide) (by omega)
    refine lv_ldc2 (v := 27) hx hb hown (hw _ w_cl_X11_93) dX11_saysName_12 ?_
    refine lv_ldiv hx hb dX11_saysName_15 (by decide) ?_
    refine lv_topl (fun z14 ez14 => ?_)
    have tz14 : 0 ≤ (z13).toInt → (z14).toInt = (z13).toInt / 27 := fun h9 => by rw [ez14]; exact l_div rfl (by decide) (by omega)
    have hPc := hP.sub (ws' := [(h_mm, .inr (8, (mo118 v_mm (.ref h_wri) (.int x_mm_writes) (.int x_mm_room)))), (h_wri, .inl (cy_wri, 1000, .inl f_wri))]) [0, 1] rfl
    have hDc := hD.sub (ws' := [(h_mm, .inr (8, (mo118 v_mm (.ref h_wri) (.int x_mm_writes) (.int x_mm_room)))), (h_wri, .inl (cy_wri, 1000, .inl f_wri))]) [0, 1] (by decide) rfl
    have hKc := hK.sub (tys' := [(cy_wri, .int)]) [0] rfl
    have hFc := va_free (wc := [(h_mm, .inr (8, (mo118 v_mm (.ref h_wri) (.int x_mm_writes) (.int x_mm_room)))), (h_wri, .inl (cy_wri, 1000, .inl f_wri))]) hD hS hA [0, 1] rfl
    refine va_callv (va_runV (As := [.long z14]) (rest := []) ⟨hx, hb, hml, hown, hts⟩ (c_X11_saysName_2 l dC dI s.heap.size h_mm h_wri v_mm x_mm_writes x_mm_room cy_wri f_wri z14 (by first | exact hx_mm_writes | omega) (by first | exact hx_mm_room | omega) (by omega)) (cwV 1 hts (gv hT w_m_X11_455 w_instanceMethod_X11_saysName ws_sel_X11_saysName w_ini_X11 w_code_X11_saysName) rfl rfl rfl (by decide +kernel) ⟨(Nat.le_of_ble_eq_true rfl), (Nat.le_of_ble_eq_true rfl)⟩) ⟨pre_blind, va_recv hK hP (ci := 8) (q0 := 0) rfl rfl, pre_of hPc hKc hDc hN⟩ rfl rfl hl.1 rfl (lv_room (Nat.le_of_ble_eq_true rfl)) dX11_saysName_16 ⟨(Nat.le_of_ble_eq_true rfl), (Nat.le_of_ble_eq_true rfl)⟩) hS (fun q _ h => hFc q h) hFc (fun u t H locs ht hvm hq hB hz1 hk1 hS9 => ?_)
    obtain ⟨z16, f17⟩ := u
    obtain ⟨hP1, hD1⟩ := hB
    rw [ht] at hP1
    obtain ⟨hP9, hD9⟩ := va_join (wr := []) (w1 := [(h_mm, .inr (8, (mo118 v_mm (.ref h_wri) (.int z16) (.int x_mm_room)))), (h_wri, .inl (cy_wri, 1000, .inl f17))]) hP hD [0, 1] [] rfl rfl (by decide) (by decide) hk1 hFc hP1 hD1
    clear hP hD hS hPc hDc hKc hFc hP1 hD1 hk1 hz1 ht hvm
    have hP : va_P (dC, dI) cls [(h_mm, .inr (8, (mo118 v_mm (.ref h_wri) (.int z16) (.int x_mm_room)))), (h_wri, .inl (cy_wri, 1000, .inl f17))] H := hP9
    have hD : va_D A [(h_mm, .inr (8, (mo118 v_mm (.ref h_wri) (.int z16) (.int x_mm_room)))), (h_wri, .inl (cy_wri, 1000, .inl f17))] := hD9
    have hS := hS9
    clear hP9 hD9 hS9
    have k18 : 0 ≤ ((z16)).toInt ∧ ((z16)).toInt ≤ 1000 := hq
    clear hq
    refine lv_aload_n hx hb dX11_saysName_19 rfl (lv_at hl 0 rfl) ?_
    refine lv_bipush (v := 97) hx hb dX11_saysName_20 (by decide) ?_
    refine lv_lload_n hx hb dX11_saysName_22 rfl (lv_at hl 1 rfl) ?_
    refine lv_lconst (v := 1) hx hb dX11_saysName_23 (by decide) ?_
    refine lv_lsub hx hb dX11_saysName_24 ?_
    refine lv_topl (fun z19 ez19 => ?_)
    refine lv_ldc2 (v := 27) hx hb hown (hw _ w_cl_X11_93) dX11_saysName_25 ?_
    refine lv_lrem hx hb dX11_saysName_28 (by decide) ?_
    refine lv_topl (fun z20 ez20 => ?_)
    refine lv_l2i hx hb dX11_saysName_29 rfl ?_
    refine lv_topi (fun z21 ez21 => ?_)
    refine lv_iadd hx hb dX11_saysName_30 ?_
    refine lv_topi (fun z22 ez22 => ?_)
    have hPc := hP.sub (ws' := [(h_mm, .inr (8, (mo118 v_mm (.ref h_wri) (.int z16) (.int x_mm_room)))), (h_wri, .inl (cy_wri, 1000, .inl f17))]) [0, 1] rfl
    have hDc := hD.sub (ws' := [(h_mm, .inr (8, (mo118 v_mm (.ref h_wri) (.int z16) (.int x_mm_room)))), (h_wri, .inl (cy_wri, 1000, .inl f17))]) [0, 1] (by decide) rfl
    have hKc := hK.sub (tys' := [(cy_wri, .int)]) [0] rfl
    have hFc := va_free (wc := [(h_mm, .inr (8, (mo118 v_mm (.ref h_wri) (.int z16) (.int x_mm_room)))), (h_wri, .inl (cy_wri, 1000, .inl f17))]) hD hS hA [0, 1] rfl
    refine va_callv (va_runV (As := [.int z22]) (rest := []) ⟨hx, hb, hml, hown, hts⟩ (c_X11_says l dC dI H.size h_mm h_wri v_mm z16 x_mm_room cy_wri f17 z22 (by first | exact k18 | omega) (by first | exact hx_mm_room | omega)) (cwV 1 hts (gv hT w_m_X11_452 w_instanceMethod_X11_says ws_sel_X11_says w_ini_X11 w_code_X11_says) rfl rfl rfl (by decide +kernel) ⟨(Nat.le_of_ble_eq_true rfl), (Nat.le_of_ble_eq_true rfl)⟩) ⟨pre_blind, va_recv hK hP (ci := 8) (q0 := 0) rfl rfl, pre_of hPc hKc hDc hN⟩ rfl rfl hl.1 rfl (lv_room (Nat.le_of_ble_eq_true rfl)) dX11_saysName_31 ⟨(Nat.le_of_ble_eq_true rfl), (Nat.le_of_ble_eq_true rfl)⟩) hS (fun q _ h => hFc q h) hFc (fun u t H locs ht hvm hq hB hz1 hk1 hS9 => ?_)
    obtain ⟨z24, f25⟩ := u
    obtain ⟨hP1, hD1⟩ := hB
    rw [ht] at hP1
    obtain ⟨hP9, hD9⟩ := va_join (wr := []) (w1 := [(h_mm, .inr (8, (mo118 v_mm (.ref h_wri) (.int z24) (.int x_mm_room)))), (h_wri, .inl (cy_wri, 1000, .inl f25))]) hP hD [0, 1] [] rfl rfl (by decide) (by decide) hk1 hFc hP1 hD1
    clear hP hD hS hPc hDc hKc hFc hP1 hD1 hk1 hz1 ht hvm
    have hP : va_P (dC, dI) cls [(h_mm, .inr (8, (mo118 v_mm (.ref h_wri) (.int z24) (.int x_mm_room)))), (h_wri, .inl (cy_wri, 1000, .inl f25))] H := hP9
    have hD : va_D A [(h_mm, .inr (8, (mo118 v_mm (.ref h_wri) (.int z24) (.int x_mm_room)))), (h_wri, .inl (cy_wri, 1000, .inl f25))] := hD9
    have hS := hS9
    clear hP9 hD9 hS9
    obtain ⟨k26, k27⟩ := hq
    replace k26 : 0 ≤ ((z24)).toInt ∧ ((z24)).toInt ≤ 1000 := k26
    replace k27 : ((z16)).toInt ≤ ((z24)).toInt := k27
    refine W.widen (k := 0) (n := 0) (Nat.le_of_ble_eq_true rfl) (Nat.le_of_ble_eq_true rfl) ?_
    have w28 : 0 ≤ ((z24)).toInt ∧ ((z24)).toInt ≤ 1000 := by first | exact k26 | omega
    exact W.vret hx hb hr (fun t ht hW => ⟨⟨(z24, f25), rfl, w28, by rw [ht]; exact hP, hD⟩, hS.F ht⟩) hS.2.2 dX11_saysName_34

set_option maxHeartbeats 8000000 in
set_option maxRecDepth 100000 in
theorem c_X11_saysName_4 (l : Launch) (dC : Nat → ClassId) (dI : Nat → Nat → Nat) (sz : Nat) (h_mm : Nat) (h_wri : Nat) (v_mm : Nat → Value) (x_mm_writes : Int32) (x_mm_room : Int32) (cy_wri : ClassId) (f_wri : Nat → Int32) (p1 : Int64) (hx_mm_writes : 0 ≤ (x_mm_writes).toInt ∧ (x_mm_writes).toInt ≤ 1000) (hx_mm_room : 0 ≤ (x_mm_room).toInt ∧ (x_mm_room).toInt ≤ 998) (q0 : (p1).toInt ≤ 14900787) : Met l yX11_saysName (Ws yX11_saysName cX11_saysName 3 none) (({ frames := 5, cells := 0, slots := 0, locals := 109 } : Room)) (PRE (dC, dI) cls [(cy_wri, .int)] [(h_mm, .inr (8, (mo118 v_mm (.ref h_wri) (.int x_mm_writes) (.int x_mm_room)))), (h_wri, .inl (cy_wri, 1000, .inl f_wri))] sz [.ref h_mm, .long p1]) (va_Qv (fun (u : (Int32) × (Nat → Int32)) => (0 ≤ (u.1).toInt ∧ (u.1).toInt ≤ 1000)) (fun (u : (Int32) × (Nat → Int32)) (t : State) => va_P (dC, dI) cls [(h_mm, .inr (8, (mo118 v_mm (.ref h_wri) (.int u.1) (.int x_mm_room)))), (h_wri, .inl (cy_wri, 1000, .inl u.2))] t.heap ∧ va_D (va_A [(h_mm, .inr (8, (mo118 v_mm (.ref h_wri) (.int x_mm_writes) (.int x_mm_room)))), (h_wri, .inl (cy_wri, 1000, .inl f_wri))] sz) [(h_mm, .inr (8, (mo118 v_mm (.ref h_wri) (.int u.1) (.int x_mm_room)))), (h_wri, .inl (cy_wri, 1000, .inl u.2))]) (va_A [(h_mm, .inr (8, (mo118 v_mm (.ref h_wri) (.int x_mm_writes) (.int x_mm_room)))), (h_wri, .inl (cy_wri, 1000, .inl f_wri))] sz)) 0 0 (va_A [(h_mm, .inr (8, (mo118 v_mm (.ref h_wri) (.int x_mm_writes) (.int x_mm_room)))), (h_wri, .inl (cy_wri, 1000, .inl f_wri))] sz) := by
  refine Met.ofW (cc := cX11_saysName) (maxL := 3) (ret := none) (by decide) rfl ?_
  intro p e s m args below meth c s₁ B hml hv
  obtain ⟨rfl, hsz, hP, hK, hD0, hN⟩ := hv
  have hx := B.exec
  have hb := B.bytes
  have hr := B.returns
  have hts := atoms_spec (ws := Ws yX11_saysName cX11_saysName 3 none) B.pre
  have hT : ∀ w ∈ WALL, w ∈ Ws yX11_saysName cX11_saysName 3 none := fun w h => List.mem_cons_of_mem _ h
  have hw := fun w (h : w ∈ WALL) => hts w (hT w h)
  have hown : s.vm.findClass RX11 = some m.cls := findClass_of_methodNamed B.named
  have hlocks := B.notSynchronized
  subst hsz
  have hD := hD0.self (sz := s.heap.size)
  generalize hAe : va_A [(h_mm, .inr (8, (mo118 v_mm (.ref h_wri) (.int x_mm_writes) (.int x_mm_room)))), (h_wri, .inl (cy_wri, 1000, .inl f_wri))] s.heap.size = A at hD ⊢
  have hA : ∀ q : Nat, s.heap.size ≤ q → A q := fun q h => by rw [← hAe]; exact Or.inr h
  have hS : va_S A s.heap s.heap [] := va_S.rf
  have hl := lv_entry ([.ref h_mm, .long p1]) (n := 3) (Nat.le_of_ble_eq_true rfl)
  rw [lg_entry_eq]
  generalize (lg_sl ([.ref h_mm, .long p1]) ++ List.replicate (3 - (lg_sl ([.ref h_mm, .long p1])).length) Slot.unset).toArray = ls at hl ⊢
  have hl : lv_has ls 3 [(0, .ref h_mm), (1, .long p1)] := hl
  refine lv_lload_n hx hb dX11_saysName_0 rfl (lv_at hl 1 rfl) ?_
  refine lv_ldc2 (v := 27) hx hb hown (hw _ w_cl_X11_93) dX11_saysName_1 ?_
  refine W.lcmp hx hb dX11_saysName_4 ?_
  refine lv_topi (fun z1 ez1 => ?_)
  have gz1 := lgc p1 27
  rw [← ez1] at gz1
  have : (27 : Int64).toInt = 27 := by decide
  refine lv_if_le (tgt := 19) hx hb dX11_saysName_5 (by decide) (fun c2 => ?_) (fun c2 => ?_)
  · have kc2 := (cv_le (rfl : (z1).toInt = (z1).toInt) (by decide : (0 : Int32).toInt = 0)).mp c2
    refine lv_aload_n hx hb dX11_saysName_19 rfl (lv_at hl 0 rfl) ?_
    refine lv_bipush (v := 97) hx hb dX11_saysName_20 (by decide) ?_
    refine lv_lload_n hx hb dX11_saysName_22 rfl (lv_at hl 1 rfl) ?_
    refine lv_lconst (v := 1) hx hb dX11_saysName_23 (by decide) ?_
    refine lv_lsub hx hb dX11_saysName_24 ?_
    refine lv_topl (fun z3 ez3 => ?_)
    refine lv_ldc2 (v := 27) hx hb hown (hw _ w_cl_X11_93) dX11_saysName_25 ?_
    refine lv_lrem hx hb dX11_saysName_28 (by decide) ?_
    refine lv_topl (fun z4 ez4 => ?_)
    refine lv_l2i hx hb dX11_saysName_29 rfl ?_
    refine lv_topi (fun z5 ez5 => ?_)
    refine lv_iadd hx hb dX11_saysName_30 ?_
    refine lv_topi (fun z6 ez6 => ?_)
    have hPc := hP.sub (ws' := [(h_mm, .inr (8, (mo118 v_mm (.ref h_wri) (.int x_mm_writes) (.int x_mm_room)))), (h_wri, .inl (cy_wri, 1000, .inl f_wri))]) [0, 1] rfl
    have hDc := hD.sub (ws' := [(h_mm, .inr (8, (mo118 v_mm (.ref h_wri) (.int x_mm_writes) (.int x_mm_room)))), (h_wri, .inl (cy_wri, 1000, .inl f_wri))]) [0, 1] (by decide) rfl
    have hKc := hK.sub (tys' := [(cy_wri, .int)]) [0] rfl
    have hFc := va_free (wc := [(h_mm, .inr (8, (mo118 v_mm (.ref h_wri) (.int x_mm_writes) (.int x_mm_room)))), (h_wri, .inl (cy_wri, 1000, .inl f_wri))]) hD hS hA [0, 1] rfl
    refine va_callv (va_runV (As := [.int z6]) (rest := []) ⟨hx, hb, hml, hown, hts⟩ (c_X11_says l dC dI s.heap.size h_mm h_wri v_mm x_mm_writes x_mm_room cy_wri f_wri z6 (by first | exact hx_mm_writes | omega) (by first | exact hx_mm_room | omega)) (cwV 1 hts (gv hT w_m_X11_452 w_instanceMethod_X11_says ws_sel_X11_says w_ini_X11 w_code_X11_says) rfl rfl rfl (by decide +kernel) ⟨(Nat.le_of_ble_eq_true rfl), (Nat.le_of_ble_eq_true rfl)⟩) ⟨pre_blind, va_recv hK hP (ci := 8) (q0 := 0) rfl rfl, pre_of hPc hKc hDc hN⟩ rfl rfl hl.1 rfl (lv_room (Nat.le_of_ble_eq_true rfl)) dX11_saysName_31 ⟨(Nat.le_of_ble_eq_true rfl), (Nat.le_of_ble_eq_true rfl)⟩) hS (fun q _ h => hFc q h) hFc (fun u t H locs ht hvm hq hB hz1 hk1 hS9 => ?_)
    obtain ⟨z8, f9⟩ := u
    obtain ⟨hP1, hD1⟩ := hB
    rw [ht] at hP1
    obtain ⟨hP9, hD9⟩ := va_join (wr := []) (w1 := [(h_mm, .inr (8, (mo118 v_mm (.ref h_wri) (.int z8) (.int x_mm_room)))), (h_wri, .inl (cy_wri, 1000, .inl f9))]) hP hD [0, 1] [] rfl rfl (by decide) (by decide) hk1 hFc hP1 hD1
    clear hP hD hS hPc hDc hKc hFc hP1 hD1 hk1 hz1 ht hvm
    have hP : va_P (dC, dI) cls [(h_mm, .inr (8, (mo118 v_mm (.ref h_wri) (.int z8) (.int x_mm_room)))), (h_wri, .inl (cy_wri, 1000, .inl f9))] H := hP9
    have hD : va_D A [(h_mm, .inr (8, (mo118 v_mm (.ref h_wri) (.int z8) (.int x_mm_room)))), (h_wri, .inl (cy_wri, 1000, .inl f9))] := hD9
    have hS := hS9
    clear hP9 hD9 hS9
    obtain ⟨k10, k11⟩ := hq
    replace k10 : 0 ≤ ((z8)).toInt ∧ ((z8)).toInt ≤ 1000 := k10
    replace k11 : ((x_mm_writes)).toInt ≤ ((z8)).toInt := k11
    refine W.widen (k := 0) (n := 0) (Nat.le_of_ble_eq_true rfl) (Nat.le_of_ble_eq_true rfl) ?_
    have w12 : 0 ≤ ((z8)).toInt ∧ ((z8)).toInt ≤ 1000 := by first | exact k10 | omega
    exact W.vret hx hb hr (fun t ht hW => ⟨⟨(z8, f9), rfl, w12, by rw [ht]; exact hP, hD⟩, hS.F ht⟩) hS.2.2 dX11_saysName_34
  · have kc2 := (not_congr (cv_le (rfl : (z1).toInt = (z1).toInt) (by decide : (0 : Int32).toInt = 0))).mp c2
    have bd9 := l_bd p1
    refine lv_aload_n hx hb dX11_saysName_8 rfl (lv_at hl 0 rfl) ?_
    refine lv_lload_n hx hb dX11_saysName_9 rfl (lv_at hl 1 rfl) ?_
    refine lv_lconst (v := 1) hx hb dX11_saysName_10 (by decide) ?_
    refine lv_lsub hx hb dX11_saysName_11 ?_
    refine lv_topl (fun z13 ez13 => ?_)
    have tz13 : (z13).toInt = (p1).toInt - 1 := by rw [ez13]; exact l_sub rfl (by decide) (by omega)
    refine lv_ldc2 (v := 27) hx hb hown (hw _ w_cl_X11_93) dX11_saysName_12 ?_
    refine lv_ldiv hx hb dX11_saysName_15 (by decide) ?_
    refine lv_topl (fun z14 ez14 => ?_)
    have tz14 : 0 ≤ (z13).toInt → (z14).toInt = (z13).toInt / 27 := fun h9 => by rw [ez14]; exact l_div rfl (by decide) (by omega)
    have hPc := hP.sub (ws' := [(h_mm, .inr (8, (mo118 v_mm (.ref h_wri) (.int x_mm_writes) (.int x_mm_room)))), (h_wri, .inl (cy_wri, 1000, .inl f_wri))]) [0, 1] rfl
    have hDc := hD.sub (ws' := [(h_mm, .inr (8, (mo118 v_mm (.ref h_wri) (.int x_mm_writes) (.int x_mm_room)))), (h_wri, .inl (cy_wri, 1000, .inl f_wri))]) [0, 1] (by decide) rfl
    have hKc := hK.sub (tys' := [(cy_wri, .int)]) [0] rfl
    have hFc := va_free (wc := [(h_mm, .inr (8, (mo118 v_mm (.ref h_wri) (.int x_mm_writes) (.int x_mm_room)))), (h_wri, .inl (cy_wri, 1000, .inl f_wri))]) hD hS hA [0, 1] rfl
    refine va_callv (va_runV (As := [.long z14]) (rest := []) ⟨hx, hb, hml, hown, hts⟩ (c_X11_saysName_3 l dC dI s.heap.size h_mm h_wri v_mm x_mm_writes x_mm_room cy_wri f_wri z14 (by first | exact hx_mm_writes | omega) (by first | exact hx_mm_room | omega) (by omega)) (cwV 1 hts (gv hT w_m_X11_455 w_instanceMethod_X11_saysName ws_sel_X11_saysName w_ini_X11 w_code_X11_saysName) rfl rfl rfl (by decide +kernel) ⟨(Nat.le_of_ble_eq_true rfl), (Nat.le_of_ble_eq_true rfl)⟩) ⟨pre_blind, va_recv hK hP (ci := 8) (q0 := 0) rfl rfl, pre_of hPc hKc hDc hN⟩ rfl rfl hl.1 rfl (lv_room (Nat.le_of_ble_eq_true rfl)) dX11_saysName_16 ⟨(Nat.le_of_ble_eq_true rfl), (Nat.le_of_ble_eq_true rfl)⟩) hS (fun q _ h => hFc q h) hFc (fun u t H locs ht hvm hq hB hz1 hk1 hS9 => ?_)
    obtain ⟨z16, f17⟩ := u
    obtain ⟨hP1, hD1⟩ := hB
    rw [ht] at hP1
    obtain ⟨hP9, hD9⟩ := va_join (wr := []) (w1 := [(h_mm, .inr (8, (mo118 v_mm (.ref h_wri) (.int z16) (.int x_mm_room)))), (h_wri, .inl (cy_wri, 1000, .inl f17))]) hP hD [0, 1] [] rfl rfl (by decide) (by decide) hk1 hFc hP1 hD1
    clear hP hD hS hPc hDc hKc hFc hP1 hD1 hk1 hz1 ht hvm
    have hP : va_P (dC, dI) cls [(h_mm, .inr (8, (mo118 v_mm (.ref h_wri) (.int z16) (.int x_mm_room)))), (h_wri, .inl (cy_wri, 1000, .inl f17))] H := hP9
    have hD : va_D A [(h_mm, .inr (8, (mo118 v_mm (.ref h_wri) (.int z16) (.int x_mm_room)))), (h_wri, .inl (cy_wri, 1000, .inl f17))] := hD9
    have hS := hS9
    clear hP9 hD9 hS9
    have k18 : 0 ≤ ((z16)).toInt ∧ ((z16)).toInt ≤ 1000 := hq
    clear hq
    refine lv_aload_n hx hb dX11_saysName_19 rfl (lv_at hl 0 rfl) ?_
    refine lv_bipush (v := 97) hx hb dX11_saysName_20 (by decide) ?_
    refine lv_lload_n hx hb dX11_saysName_22 rfl (lv_at hl 1 rfl) ?_
    refine lv_lconst (v := 1) hx hb dX11_saysName_23 (by decide) ?_
    refine lv_lsub hx hb dX11_saysName_24 ?_
    refine lv_topl (fun z19 ez19 => ?_)
    refine lv_ldc2 (v := 27) hx hb hown (hw _ w_cl_X11_93) dX11_saysName_25 ?_
    refine lv_lrem hx hb dX11_saysName_28 (by decide) ?_
    refine lv_topl (fun z20 ez20 => ?_)
    refine lv_l2i hx hb dX11_saysName_29 rfl ?_
    refine lv_topi (fun z21 ez21 => ?_)
    refine lv_iadd hx hb dX11_saysName_30 ?_
    refine lv_topi (fun z22 ez22 => ?_)
    have hPc := hP.sub (ws' := [(h_mm, .inr (8, (mo118 v_mm (.ref h_wri) (.int z16) (.int x_mm_room)))), (h_wri, .inl (cy_wri, 1000, .inl f17))]) [0, 1] rfl
    have hDc := hD.sub (ws' := [(h_mm, .inr (8, (mo118 v_mm (.ref h_wri) (.int z16) (.int x_mm_room)))), (h_wri, .inl (cy_wri, 1000, .inl f17))]) [0, 1] (by decide) rfl
    have hKc := hK.sub (tys' := [(cy_wri, .int)]) [0] rfl
    have hFc := va_free (wc := [(h_mm, .inr (8, (mo118 v_mm (.ref h_wri) (.int z16) (.int x_mm_room)))), (h_wri, .inl (cy_wri, 1000, .inl f17))]) hD hS hA [0, 1] rfl
    refine va_callv (va_runV (As := [.int z22]) (rest := []) ⟨hx, hb, hml, hown, hts⟩ (c_X11_says l dC dI H.size h_mm h_wri v_mm z16 x_mm_room cy_wri f17 z22 (by first | exact k18 | omega) (by first | exact hx_mm_room | omega)) (cwV 1 hts (gv hT w_m_X11_452 w_instanceMethod_X11_says ws_sel_X11_says w_ini_X11 w_code_X11_says) rfl rfl rfl (by decide +kernel) ⟨(Nat.le_of_ble_eq_true rfl), (Nat.le_of_ble_eq_true rfl)⟩) ⟨pre_blind, va_recv hK hP (ci := 8) (q0 := 0) rfl rfl, pre_of hPc hKc hDc hN⟩ rfl rfl hl.1 rfl (lv_room (Nat.le_of_ble_eq_true rfl)) dX11_saysName_31 ⟨(Nat.le_of_ble_eq_true rfl), (Nat.le_of_ble_eq_true rfl)⟩) hS (fun q _ h => hFc q h) hFc (fun u t H locs ht hvm hq hB hz1 hk1 hS9 => ?_)
    obtain ⟨z24, f25⟩ := u
    obtain ⟨hP1, hD1⟩ := hB
    rw [ht] at hP1
    obtain ⟨hP9, hD9⟩ := va_join (wr := []) (w1 := [(h_mm, .inr (8, (mo118 v_mm (.ref h_wri) (.int z24) (.int x_mm_room)))), (h_wri, .inl (cy_wri, 1000, .inl f25))]) hP hD [0, 1] [] rfl rfl (by decide) (by decide) hk1 hFc hP1 hD1
    clear hP hD hS hPc hDc hKc hFc hP1 hD1 hk1 hz1 ht hvm
    have hP : va_P (dC, dI) cls [(h_mm, .inr (8, (mo118 v_mm (.ref h_wri) (.int z24) (.int x_mm_room)))), (h_wri, .inl (cy_wri, 1000, .inl f25))] H := hP9
    have hD : va_D A [(h_mm, .inr (8, (mo118 v_mm (.ref h_wri) (.int z24) (.int x_mm_room)))), (h_wri, .inl (cy_wri, 1000, .inl f25))] := hD9
    have hS := hS9
    clear hP9 hD9 hS9
    obtain ⟨k26, k27⟩ := hq
    replace k26 : 0 ≤ ((z24)).toInt ∧ ((z24)).toInt ≤ 1000 := k26
    replace k27 : ((z16)).toInt ≤ ((z24)).toInt := k27
    refine W.widen (k := 0) (n := 0) (Nat.le_of_ble_eq_true rfl) (Nat.le_of_ble_eq_true rfl) ?_
    have w28 : 0 ≤ ((z24)).toInt ∧ ((z24)).toInt ≤ 1000 := by first | exact k26 | omega
    exact W.vret hx hb hr (fun t ht hW => ⟨⟨(z24, f25), rfl, w28, by rw [ht]; exact hP, hD⟩, hS.F ht⟩) hS.2.2 dX11_saysName_34

set_option maxHeartbeats 8000000 in
set_option maxRecDepth 100000 in
theorem c_X11_saysName_5 (l : Launch) (dC : Nat → ClassId) (dI : Nat → Nat → Nat) (sz : Nat) (h_mm : Nat) (h_wri : Nat) (v_mm : Nat → Value) (x_mm_writes : Int32) (x_mm_room : Int32) (cy_wri : ClassId) (f_wri : Nat → Int32) (p1 : Int64) (hx_mm_writes : 0 ≤ (x_mm_writes).toInt ∧ (x_mm_writes).toInt ≤ 1000) (hx_mm_room : 0 ≤ (x_mm_room).toInt ∧ (x_mm_room).toInt ≤ 998) (q0 : (p1).toInt ≤ 402321276) : Met l yX11_saysName (Ws yX11_saysName cX11_saysName 3 none) (({ frames := 6, cells := 0, slots := 0, locals := 131 } : Room)) (PRE (dC, dI) cls [(cy_wri, .int)] [(h_mm, .inr (8, (mo118 v_mm (.ref h_wri) (.int x_mm_writes) (.int x_mm_room)))), (h_wri, .inl (cy_wri, 1000, .inl f_wri))] sz [.ref h_mm, .long p1]) (va_Qv (fun (u : (Int32) × (Nat → Int32)) => (0 ≤ (u.1).toInt ∧ (u.1).toInt ≤ 1000)) (fun (u : (Int32) × (Nat → Int32)) (t : State) => va_P (dC, dI) cls [(h_mm, .inr (8, (mo118 v_mm (.ref h_wri) (.int u.1) (.int x_mm_room)))), (h_wri, .inl (cy_wri, 1000, .inl u.2))] t.heap ∧ va_D (va_A [(h_mm, .inr (8, (mo118 v_mm (.ref h_wri) (.int x_mm_writes) (.int x_mm_room)))), (h_wri, .inl (cy_wri, 1000, .inl f_wri))] sz) [(h_mm, .inr (8, (mo118 v_mm (.ref h_wri) (.int u.1) (.int x_mm_room)))), (h_wri, .inl (cy_wri, 1000, .inl u.2))]) (va_A [(h_mm, .inr (8, (mo118 v_mm (.ref h_wri) (.int x_mm_writes) (.int x_mm_room)))), (h_wri, .inl (cy_wri, 1000, .inl f_wri))] sz)) 0 0 (va_A [(h_mm, .inr (8, (mo118 v_mm (.ref h_wri) (.int x_mm_writes) (.int x_mm_room)))), (h_wri, .inl (cy_wri, 1000, .inl f_wri))] sz) := by
  refine Met.ofW (cc := cX11_saysName) (maxL := 3) (ret := none) (by decide) rfl ?_
  intro p e s m args below meth c s₁ B hml hv
  obtain ⟨rfl, hsz, hP, hK, hD0, hN⟩ := hv
  have hx := B.exec
  have hb := B.bytes
  have hr := B.returns
  have hts := atoms_spec (ws := Ws yX11_saysName cX11_saysName 3 none) B.pre
  have hT : ∀ w ∈ WALL, w ∈ Ws yX11_saysName cX11_saysName 3 none := fun w h => List.mem_cons_of_mem _ h
  have hw := fun w (h : w ∈ WALL) => hts w (hT w h)
  have hown : s.vm.findClass RX11 = some m.cls := findClass_of_methodNamed B.named
  have hlocks := B.notSynchronized
  subst hsz
  have hD := hD0.self (sz := s.heap.size)
  generalize hAe : va_A [(h_mm, .inr (8, (mo118 v_mm (.ref h_wri) (.int x_mm_writes) (.int x_mm_room)))), (h_wri, .inl (cy_wri, 1000, .inl f_wri))] s.heap.size = A at hD ⊢
  have hA : ∀ q : Nat, s.heap.size ≤ q → A q := fun q h => by rw [← hAe]; exact Or.inr h
  have hS : va_S A s.heap s.heap [] := va_S.rf
  have hl := lv_entry ([.ref h_mm, .long p1]) (n := 3) (Nat.le_of_ble_eq_true rfl)
  rw [lg_entry_eq]
  generalize (lg_sl ([.ref h_mm, .long p1]) ++ List.replicate (3 - (lg_sl ([.ref h_mm, .long p1])).length) Slot.unset).toArray = ls at hl ⊢
  have hl : lv_has ls 3 [(0, .ref h_mm), (1, .long p1)] := hl
  refine lv_lload_n hx hb dX11_saysName_0 rfl (lv_at hl 1 rfl) ?_
  refine lv_ldc2 (v := 27) hx hb hown (hw _ w_cl_X11_93) dX11_saysName_1 ?_
  refine W.lcmp hx hb dX11_saysName_4 ?_
  refine lv_topi (fun z1 ez1 => ?_)
  have gz1 := lgc p1 27
  rw [← ez1] at gz1
  have : (27 : Int64).toInt = 27 := by decide
  refine lv_if_le (tgt := 19) hx hb dX11_saysName_5 (by decide) (fun c2 => ?_) (fun c2 => ?_)
  · have kc2 := (cv_le (rfl : (z1).toInt = (z1).toInt) (by decide : (0 : Int32).toInt = 0)).mp c2
    refine lv_aload_n hx hb dX11_saysName_19 rfl (lv_at hl 0 rfl) ?_
    refine lv_bipush (v := 97) hx hb dX11_saysName_20 (by decide) ?_
    refine lv_lload_n hx hb dX11_saysName_22 rfl (lv_at hl 1 rfl) ?_
    refine lv_lconst (v := 1) hx hb dX11_saysName_23 (by decide) ?_
    refine lv_lsub hx hb dX11_saysName_24 ?_
    refine lv_topl (fun z3 ez3 => ?_)
    refine lv_ldc2 (v := 27) hx hb hown (hw _ w_cl_X11_93) dX11_saysName_25 ?_
    refine lv_lrem hx hb dX11_saysName_28 (by decide) ?_
    refine lv_topl (fun z4 ez4 => ?_)
    refine lv_l2i hx hb dX11_saysName_29 rfl ?_
    refine lv_topi (fun z5 ez5 => ?_)
    refine lv_iadd hx hb dX11_saysName_30 ?_
    refine lv_topi (fun z6 ez6 => ?_)
    have hPc := hP.sub (ws' := [(h_mm, .inr (8, (mo118 v_mm (.ref h_wri) (.int x_mm_writes) (.int x_mm_room)))), (h_wri, .inl (cy_wri, 1000, .inl f_wri))]) [0, 1] rfl
    have hDc := hD.sub (ws' := [(h_mm, .inr (8, (mo118 v_mm (.ref h_wri) (.int x_mm_writes) (.int x_mm_room)))), (h_wri, .inl (cy_wri, 1000, .inl f_wri))]) [0, 1] (by decide) rfl
    have hKc := hK.sub (tys' := [(cy_wri, .int)]) [0] rfl
    have hFc := va_free (wc := [(h_mm, .inr (8, (mo118 v_mm (.ref h_wri) (.int x_mm_writes) (.int x_mm_room)))), (h_wri, .inl (cy_wri, 1000, .inl f_wri))]) hD hS hA [0, 1] rfl
    refine va_callv (va_runV (As := [.int z6]) (rest := []) ⟨hx, hb, hml, hown, hts⟩ (c_X11_says l dC dI s.heap.size h_mm h_wri v_mm x_mm_writes x_mm_room cy_wri f_wri z6 (by first | exact hx_mm_writes | omega) (by first | exact hx_mm_room | omega)) (cwV 1 hts (gv hT w_m_X11_452 w_instanceMethod_X11_says ws_sel_X11_says w_ini_X11 w_code_X11_says) rfl rfl rfl (by decide +kernel) ⟨(Nat.le_of_ble_eq_true rfl), (Nat.le_of_ble_eq_true rfl)⟩) ⟨pre_blind, va_recv hK hP (ci := 8) (q0 := 0) rfl rfl, pre_of hPc hKc hDc hN⟩ rfl rfl hl.1 rfl (lv_room (Nat.le_of_ble_eq_true rfl)) dX11_saysName_31 ⟨(Nat.le_of_ble_eq_true rfl), (Nat.le_of_ble_eq_true rfl)⟩) hS (fun q _ h => hFc q h) hFc (fun u t H locs ht hvm hq hB hz1 hk1 hS9 => ?_)
    obtain ⟨z8, f9⟩ := u
    obtain ⟨hP1, hD1⟩ := hB
    rw [ht] at hP1
    obtain ⟨hP9, hD9⟩ := va_join (wr := []) (w1 := [(h_mm, .inr (8, (mo118 v_mm (.ref h_wri) (.int z8) (.int x_mm_room)))), (h_wri, .inl (cy_wri, 1000, .inl f9))]) hP hD [0, 1] [] rfl rfl (by decide) (by decide) hk1 hFc hP1 hD1
    clear hP hD hS hPc hDc hKc hFc hP1 hD1 hk1 hz1 ht hvm
    have hP : va_P (dC, dI) cls [(h_mm, .inr (8, (mo118 v_mm (.ref h_wri) (.int z8) (.int x_mm_room)))), (h_wri, .inl (cy_wri, 1000, .inl f9))] H := hP9
    have hD : va_D A [(h_mm, .inr (8, (mo118 v_mm (.ref h_wri) (.int z8) (.int x_mm_room)))), (h_wri, .inl (cy_wri, 1000, .inl f9))] := hD9
    have hS := hS9
    clear hP9 hD9 hS9
    obtain ⟨k10, k11⟩ := hq
    replace k10 : 0 ≤ ((z8)).toInt ∧ ((z8)).toInt ≤ 1000 := k10
    replace k11 : ((x_mm_writes)).toInt ≤ ((z8)).toInt := k11
    refine W.widen (k := 0) (n := 0) (Nat.le_of_ble_eq_true rfl) (Nat.le_of_ble_eq_true rfl) ?_
    have w12 : 0 ≤ ((z8)).toInt ∧ ((z8)).toInt ≤ 1000 := by first | exact k10 | omega
    exact W.vret hx hb hr (fun t ht hW => ⟨⟨(z8, f9), rfl, w12, by rw [ht]; exact hP, hD⟩, hS.F ht⟩) hS.2.2 dX11_saysName_34
  · have kc2 := (not_congr (cv_le (rfl : (z1).toInt = (z1).toInt) (by decide : (0 : Int32).toInt = 0))).mp c2
    have bd9 := l_bd p1
    refine lv_aload_n hx hb dX11_saysName_8 rfl (lv_at hl 0 rfl) ?_
    refine lv_lload_n hx hb dX11_saysName_9 rfl (lv_at hl 1 rfl) ?_
    refine lv_lconst (v := 1) hx hb dX11_saysName_10 (by decide) ?_
    refine lv_lsub hx hb dX11_saysName_11 ?_
    refine lv_topl (fun z13 ez13 => ?_)
    have tz13 : (z13).toInt = (p1).toInt - 1 := by rw [ez13]; exact l_sub rfl (by decide) (by omega)
    refine lv_ldc2 (v := 27) hx hb hown (hw _ w_cl_X11_93) dX11_saysName_12 ?_
    refine lv_ldiv hx hb dX11_saysName_15 (by decide) ?_
    refine lv_topl (fun z14 ez14 => ?_)
    have tz14 : 0 ≤ (z13).toInt → (z14).toInt = (z13).toInt / 27 := fun h9 => by rw [ez14]; exact l_div rfl (by decide) (by omega)
    have hPc := hP.sub (ws' := [(h_mm, .inr (8, (mo118 v_mm (.ref h_wri) (.int x_mm_writes) (.int x_mm_room)))), (h_wri, .inl (cy_wri, 1000, .inl f_wri))]) [0, 1] rfl
    have hDc := hD.sub (ws' := [(h_mm, .inr (8, (mo118 v_mm (.ref h_wri) (.int x_mm_writes) (.int x_mm_room)))), (h_wri, .inl (cy_wri, 1000, .inl f_wri))]) [0, 1] (by decide) rfl
    have hKc := hK.sub (tys' := [(cy_wri, .int)]) [0] rfl
    have hFc := va_free (wc := [(h_mm, .inr (8, (mo118 v_mm (.ref h_wri) (.int x_mm_writes) (.int x_mm_room)))), (h_wri, .inl (cy_wri, 1000, .inl f_wri))]) hD hS hA [0, 1] rfl
    refine va_callv (va_runV (As := [.long z14]) (rest := []) ⟨hx, hb, hml, hown, hts⟩ (c_X11_saysName_4 l dC dI s.heap.size h_mm h_wri v_mm x_mm_writes x_mm_room cy_wri f_wri z14 (by first | exact hx_mm_writes | omega) (by first | exact hx_mm_room | omega) (by omega)) (cwV 1 hts (gv hT w_m_X11_455 w_instanceMethod_X11_saysName ws_sel_X11_saysName w_ini_X11 w_code_X11_saysName) rfl rfl rfl (by decide +kernel) ⟨(Nat.le_of_ble_eq_true rfl), (Nat.le_of_ble_eq_true rfl)⟩) ⟨pre_blind, va_recv hK hP (ci := 8) (q0 := 0) rfl rfl, pre_of hPc hKc hDc hN⟩ rfl rfl hl.1 rfl (lv_room (Nat.le_of_ble_eq_true rfl)) dX11_saysName_16 ⟨(Nat.le_of_ble_eq_true rfl), (Nat.le_of_ble_eq_true rfl)⟩) hS (fun q _ h => hFc q h) hFc (fun u t H locs ht hvm hq hB hz1 hk1 hS9 => ?_)
    obtain ⟨z16, f17⟩ := u
    obtain ⟨hP1, hD1⟩ := hB
    rw [ht] at hP1
    obtain ⟨hP9, hD9⟩ := va_join (wr := []) (w1 := [(h_mm, .inr (8, (mo118 v_mm (.ref h_wri) (.int z16) (.int x_mm_room)))), (h_wri, .inl (cy_wri, 1000, .inl f17))]) hP hD [0, 1] [] rfl rfl (by decide) (by decide) hk1 hFc hP1 hD1
    clear hP hD hS hPc hDc hKc hFc hP1 hD1 hk1 hz1 ht hvm
    have hP : va_P (dC, dI) cls [(h_mm, .inr (8, (mo118 v_mm (.ref h_wri) (.int z16) (.int x_mm_room)))), (h_wri, .inl (cy_wri, 1000, .inl f17))] H := hP9
    have hD : va_D A [(h_mm, .inr (8, (mo118 v_mm (.ref h_wri) (.int z16) (.int x_mm_room)))), (h_wri, .inl (cy_wri, 1000, .inl f17))] := hD9
    have hS := hS9
    clear hP9 hD9 hS9
    have k18 : 0 ≤ ((z16)).toInt ∧ ((z16)).toInt ≤ 1000 := hq
    clear hq
    refine lv_aload_n hx hb dX11_saysName_19 rfl (lv_at hl 0 rfl) ?_
    refine lv_bipush (v := 97) hx hb dX11_saysName_20 (by decide) ?_
    refine lv_lload_n hx hb dX11_saysName_22 rfl (lv_at hl 1 rfl) ?_
    refine lv_lconst (v := 1) hx hb dX11_saysName_23 (by decide) ?_
    refine lv_lsub hx hb dX11_saysName_24 ?_
    refine lv_topl (fun z19 ez19 => ?_)
    refine lv_ldc2 (v := 27) hx hb hown (hw _ w_cl_X11_93) dX11_saysName_25 ?_
    refine lv_lrem hx hb dX11_saysName_28 (by decide) ?_
    refine lv_topl (fun z20 ez20 => ?_)
    refine lv_l2i hx hb dX11_saysName_29 rfl ?_
    refine lv_topi (fun z21 ez21 => ?_)
    refine lv_iadd hx hb dX11_saysName_30 ?_
    refine lv_topi (fun z22 ez22 => ?_)
    have hPc := hP.sub (ws' := [(h_mm, .inr (8, (mo118 v_mm (.ref h_wri) (.int z16) (.int x_mm_room)))), (h_wri, .inl (cy_wri, 1000, .inl f17))]) [0, 1] rfl
    have hDc := hD.sub (ws' := [(h_mm, .inr (8, (mo118 v_mm (.ref h_wri) (.int z16) (.int x_mm_room)))), (h_wri, .inl (cy_wri, 1000, .inl f17))]) [0, 1] (by decide) rfl
    have hKc := hK.sub (tys' := [(cy_wri, .int)]) [0] rfl
    have hFc := va_free (wc := [(h_mm, .inr (8, (mo118 v_mm (.ref h_wri) (.int z16) (.int x_mm_room)))), (h_wri, .inl (cy_wri, 1000, .inl f17))]) hD hS hA [0, 1] rfl
    refine va_callv (va_runV (As := [.int z22]) (rest := []) ⟨hx, hb, hml, hown, hts⟩ (c_X11_says l dC dI H.size h_mm h_wri v_mm z16 x_mm_room cy_wri f17 z22 (by first | exact k18 | omega) (by first | exact hx_mm_room | omega)) (cwV 1 hts (gv hT w_m_X11_452 w_instanceMethod_X11_says ws_sel_X11_says w_ini_X11 w_code_X11_says) rfl rfl rfl (by decide +kernel) ⟨(Nat.le_of_ble_eq_true rfl), (Nat.le_of_ble_eq_true rfl)⟩) ⟨pre_blind, va_recv hK hP (ci := 8) (q0 := 0) rfl rfl, pre_of hPc hKc hDc hN⟩ rfl rfl hl.1 rfl (lv_room (Nat.le_of_ble_eq_true rfl)) dX11_saysName_31 ⟨(Nat.le_of_ble_eq_true rfl), (Nat.le_of_ble_eq_true rfl)⟩) hS (fun q _ h => hFc q h) hFc (fun u t H locs ht hvm hq hB hz1 hk1 hS9 => ?_)
    obtain ⟨z24, f25⟩ := u
    obtain ⟨hP1, hD1⟩ := hB
    rw [ht] at hP1
    obtain ⟨hP9, hD9⟩ := va_join (wr := []) (w1 := [(h_mm, .inr (8, (mo118 v_mm (.ref h_wri) (.int z24) (.int x_mm_room)))), (h_wri, .inl (cy_wri, 1000, .inl f25))]) hP hD [0, 1] [] rfl rfl (by decide) (by decide) hk1 hFc hP1 hD1
    clear hP hD hS hPc hDc hKc hFc hP1 hD1 hk1 hz1 ht hvm
    have hP : va_P (dC, dI) cls [(h_mm, .inr (8, (mo118 v_mm (.ref h_wri) (.int z24) (.int x_mm_room)))), (h_wri, .inl (cy_wri, 1000, .inl f25))] H := hP9
    have hD : va_D A [(h_mm, .inr (8, (mo118 v_mm (.ref h_wri) (.int z24) (.int x_mm_room)))), (h_wri, .inl (cy_wri, 1000, .inl f25))] := hD9
    have hS := hS9
    clear hP9 hD9 hS9
    obtain ⟨k26, k27⟩ := hq
    replace k26 : 0 ≤ ((z24)).toInt ∧ ((z24)).toInt ≤ 1000 := k26
    replace k27 : ((z16)).toInt ≤ ((z24)).toInt := k27
    refine W.widen (k := 0) (n := 0) (Nat.le_of_ble_eq_true rfl) (Nat.le_of_ble_eq_true rfl) ?_
    have w28 : 0 ≤ ((z24)).toInt ∧ ((z24)).toInt ≤ 1000 := by first | exact k26 | omega
    exact W.vret hx hb hr (fun t ht hW => ⟨⟨(z24, f25), rfl, w28, by rw [ht]; exact hP, hD⟩, hS.F ht⟩) hS.2.2 dX11_saysName_34

set_option maxHeartbeats 8000000 in
set_option maxRecDepth 100000 in
theorem c_X11_saysName_6 (l : Launch) (dC : Nat → ClassId) (dI : Nat → Nat → Nat) (sz : Nat) (h_mm : Nat) (h_wri : Nat) (v_mm : Nat → Value) (x_mm_writes : Int32) (x_mm_room : Int32) (cy_wri : ClassId) (f_wri : Nat → Int32) (p1 : Int64) (hx_mm_writes : 0 ≤ (x_mm_writes).toInt ∧ (x_mm_writes).toInt ≤ 1000) (hx_mm_room : 0 ≤ (x_mm_room).toInt ∧ (x_mm_room).toInt ≤ 998) (q0 : (p1).toInt ≤ 10862674479) : Met l yX11_saysName (Ws yX11_saysName cX11_saysName 3 none) (({ frames := 7, cells := 0, slots := 0, locals := 153 } : Room)) (PRE (dC, dI) cls [(cy_wri, .int)] [(h_mm, .inr (8, (mo118 v_mm (.ref h_wri) (.int x_mm_writes) (.int x_mm_room)))), (h_wri, .inl (cy_wri, 1000, .inl f_wri))] sz [.ref h_mm, .long p1]) (va_Qv (fun (u : (Int32) × (Nat → Int32)) => (0 ≤ (u.1).toInt ∧ (u.1).toInt ≤ 1000)) (fun (u : (Int32) × (Nat → Int32)) (t : State) => va_P (dC, dI) cls [(h_mm, .inr (8, (mo118 v_mm (.ref h_wri) (.int u.1) (.int x_mm_room)))), (h_wri, .inl (cy_wri, 1000, .inl u.2))] t.heap ∧ va_D (va_A [(h_mm, .inr (8, (mo118 v_mm (.ref h_wri) (.int x_mm_writes) (.int x_mm_room)))), (h_wri, .inl (cy_wri, 1000, .inl f_wri))] sz) [(h_mm, .inr (8, (mo118 v_mm (.ref h_wri) (.int u.1) (.int x_mm_room)))), (h_wri, .inl (cy_wri, 1000, .inl u.2))]) (va_A [(h_mm, .inr (8, (mo118 v_mm (.ref h_wri) (.int x_mm_writes) (.int x_mm_room)))), (h_wri, .inl (cy_wri, 1000, .inl f_wri))] sz)) 0 0 (va_A [(h_mm, .inr (8, (mo118 v_mm (.ref h_wri) (.int x_mm_writes) (.int x_mm_room)))), (h_wri, .inl (cy_wri, 1000, .inl f_wri))] sz) := by
  refine Met.ofW (cc := cX11_saysName) (maxL := 3) (ret := none) (by decide) rfl ?_
  intro p e s m args below meth c s₁ B hml hv
  obtain ⟨rfl, hsz, hP, hK, hD0, hN⟩ := hv
  have hx := B.exec
  have hb := B.bytes
  have hr := B.returns
  have hts := atoms_spec (ws := Ws yX11_saysName cX11_saysName 3 none) B.pre
  have hT : ∀ w ∈ WALL, w ∈ Ws yX11_saysName cX11_saysName 3 none := fun w h => List.mem_cons_of_mem _ h
  have hw := fun w (h : w ∈ WALL) => hts w (hT w h)
  have hown : s.vm.findClass RX11 = some m.cls := findClass_of_methodNamed B.named
  have hlocks := B.notSynchronized
  subst hsz
  have hD := hD0.self (sz := s.heap.size)
  generalize hAe : va_A [(h_mm, .inr (8, (mo118 v_mm (.ref h_wri) (.int x_mm_writes) (.int x_mm_room)))), (h_wri, .inl (cy_wri, 1000, .inl f_wri))] s.heap.size = A at hD ⊢
  have hA : ∀ q : Nat, s.heap.size ≤ q → A q := fun q h => by rw [← hAe]; exact Or.inr h
  have hS : va_S A s.heap s.heap [] := va_S.rf
  have hl := lv_entry ([.ref h_mm, .long p1]) (n := 3) (Nat.le_of_ble_eq_true rfl)
  rw [lg_entry_eq]
  generalize (lg_sl ([.ref h_mm, .long p1]) ++ List.replicate (3 - (lg_sl ([.ref h_mm, .long p1])).length) Slot.unset).toArray = ls at hl ⊢
  have hl : lv_has ls 3 [(0, .ref h_mm), (1, .long p1)] := hl
  refine lv_lload_n hx hb dX11_saysName_0 rfl (lv_at hl 1 rfl) ?_
  refine lv_ldc2 (v := 27) hx hb hown (hw _ w_cl_X11_93) dX11_saysName_1 ?_
  refine W.lcmp hx hb dX11_saysName_4 ?_
  refine lv_topi (fun z1 ez1 => ?_)
  have gz1 := lgc p1 27
  rw [← ez1] at gz1
  have : (27 : Int64).toInt = 27 := by decide
  refine lv_if_le (tgt := 19) hx hb dX11_saysName_5 (by decide) (fun c2 => ?_) (fun c2 => ?_)
  · have kc2 := (cv_le (rfl : (z1).toInt = (z1).toInt) (by decide : (0 : Int32).toInt = 0)).mp c2
    refine lv_aload_n hx hb dX11_saysName_19 rfl (lv_at hl 0 rfl) ?_
    refine lv_bipush (v := 97) hx hb dX11_saysName_20 (by decide) ?_
    refine lv_lload_n hx hb dX11_saysName_22 rfl (lv_at hl 1 rfl) ?_
    refine lv_lconst (v := 1) hx hb dX11_saysName_23 (by decide) ?_
    refine lv_lsub hx hb dX11_saysName_24 ?_
    refine lv_topl (fun z3 ez3 => ?_)
    refine lv_ldc2 (v := 27) hx hb hown (hw _ w_cl_X11_93) dX11_saysName_25 ?_
    refine lv_lrem hx hb dX11_saysName_28 (by decide) ?_
    refine lv_topl (fun z4 ez4 => ?_)
    refine lv_l2i hx hb dX11_saysName_29 rfl ?_
    refine lv_topi (fun z5 ez5 => ?_)
    refine lv_iadd hx hb dX11_saysName_30 ?_
    refine lv_topi (fun z6 ez6 => ?_)
    have hPc := hP.sub (ws' := [(h_mm, .inr (8, (mo118 v_mm (.ref h_wri) (.int x_mm_writes) (.int x_mm_room)))), (h_wri, .inl (cy_wri, 1000, .inl f_wri))]) [0, 1] rfl
    have hDc := hD.sub (ws' := [(h_mm, .inr (8, (mo118 v_mm (.ref h_wri) (.int x_mm_writes) (.int x_mm_room)))), (h_wri, .inl (cy_wri, 1000, .inl f_wri))]) [0, 1] (by decide) rfl
    have hKc := hK.sub (tys' := [(cy_wri, .int)]) [0] rfl
    have hFc := va_free (wc := [(h_mm, .inr (8, (mo118 v_mm (.ref h_wri) (.int x_mm_writes) (.int x_mm_room)))), (h_wri, .inl (cy_wri, 1000, .inl f_wri))]) hD hS hA [0, 1] rfl
    refine va_callv (va_runV (As := [.int z6]) (rest := []) ⟨hx, hb, hml, hown, hts⟩ (c_X11_says l dC dI s.heap.size h_mm h_wri v_mm x_mm_writes x_mm_room cy_wri f_wri z6 (by first | exact hx_mm_writes | omega) (by first | exact hx_mm_room | omega)) (cwV 1 hts (gv hT w_m_X11_452 w_instanceMethod_X11_says ws_sel_X11_says w_ini_X11 w_code_X11_says) rfl rfl rfl (by decide +kernel) ⟨(Nat.le_of_ble_eq_true rfl), (Nat.le_of_ble_eq_true rfl)⟩) ⟨pre_blind, va_recv hK hP (ci := 8) (q0 := 0) rfl rfl, pre_of hPc hKc hDc hN⟩ rfl rfl hl.1 rfl (lv_room (Nat.le_of_ble_eq_true rfl)) dX11_saysName_31 ⟨(Nat.le_of_ble_eq_true rfl), (Nat.le_of_ble_eq_true rfl)⟩) hS (fun q _ h => hFc q h) hFc (fun u t H locs ht hvm hq hB hz1 hk1 hS9 => ?_)
    obtain ⟨z8, f9⟩ := u
    obtain ⟨hP1, hD1⟩ := hB
    rw [ht] at hP1
    obtain ⟨hP9, hD9⟩ := va_join (wr := []) (w1 := [(h_mm, .inr (8, (mo118 v_mm (.ref h_wri) (.int z8) (.int x_mm_room)))), (h_wri, .inl (cy_wri, 1000, .inl f9))]) hP hD [0, 1] [] rfl rfl (by decide) (by decide) hk1 hFc hP1 hD1
    clear hP hD hS hPc hDc hKc hFc hP1 hD1 hk1 hz1 ht hvm
    have hP : va_P (dC, dI) cls [(h_mm, .inr (8, (mo118 v_mm (.ref h_wri) (.int z8) (.int x_mm_room)))), (h_wri, .inl (cy_wri, 1000, .inl f9))] H := hP9
    have hD : va_D A [(h_mm, .inr (8, (mo118 v_mm (.ref h_wri) (.int z8) (.int x_mm_room)))), (h_wri, .inl (cy_wri, 1000, .inl f9))] := hD9
    have hS := hS9
    clear hP9 hD9 hS9
    obtain ⟨k10, k11⟩ := hq
    replace k10 : 0 ≤ ((z8)).toInt ∧ ((z8)).toInt ≤ 1000 := k10
    replace k11 : ((x_mm_writes)).toInt ≤ ((z8)).toInt := k11
    refine W.widen (k := 0) (n := 0) (Nat.le_of_ble_eq_true rfl) (Nat.le_of_ble_eq_true rfl) ?_
    have w12 : 0 ≤ ((z8)).toInt ∧ ((z8)).toInt ≤ 1000 := by first | exact k10 | omega
    exact W.vret hx hb hr (fun t ht hW => ⟨⟨(z8, f9), rfl, w12, by rw [ht]; exact hP, hD⟩, hS.F ht⟩) hS.2.2 dX11_saysName_34
  · have kc2 := (not_congr (cv_le (rfl : (z1).toInt = (z1).toInt) (by decide : (0 : Int32).toInt = 0))).mp c2
    have bd9 := l_bd p1
    refine lv_aload_n hx hb dX11_saysName_8 rfl (lv_at hl 0 rfl) ?_
    refine lv_lload_n hx hb dX11_saysName_9 rfl (lv_at hl 1 rfl) ?_
    refine lv_lconst (v := 1) hx hb dX11_saysName_10 (by decide) ?_
    refine lv_lsub hx hb dX11_saysName_11 ?_
    refine lv_topl (fun z13 ez13 => ?_)
    have tz13 : (z13).toInt = (p1).toInt - 1 := by rw [ez13]; exact l_sub rfl (by decide) (by omega)
    refine lv_ldc2 (v := 27) hx hb hown (hw _ w_cl_X11_93) dX11_saysName_12 ?_
    refine lv_ldiv hx hb dX11_saysName_15 (by decide) ?_
    refine lv_topl (fun z14 ez14 => ?_)
    have tz14 : 0 ≤ (z13).toInt → (z14).toInt = (z13).toInt / 27 := fun h9 => by rw [ez14]; exact l_div rfl (by decide) (by omega)
    have hPc := hP.sub (ws' := [(h_mm, .inr (8, (mo118 v_mm (.ref h_wri) (.int x_mm_writes) (.int x_mm_room)))), (h_wri, .inl (cy_wri, 1000, .inl f_wri))]) [0, 1] rfl
    have hDc := hD.sub (ws' := [(h_mm, .inr (8, (mo118 v_mm (.ref h_wri) (.int x_mm_writes) (.int x_mm_room)))), (h_wri, .inl (cy_wri, 1000, .inl f_wri))]) [0, 1] (by decide) rfl
    have hKc := hK.sub (tys' := [(cy_wri, .int)]) [0] rfl
    have hFc := va_free (wc := [(h_mm, .inr (8, (mo118 v_mm (.ref h_wri) (.int x_mm_writes) (.int x_mm_room)))), (h_wri, .inl (cy_wri, 1000, .inl f_wri))]) hD hS hA [0, 1] rfl
    refine va_callv (va_runV (As := [.long z14]) (rest := []) ⟨hx, hb, hml, hown, hts⟩ (c_X11_saysName_5 l dC dI s.heap.size h_mm h_wri v_mm x_mm_writes x_mm_room cy_wri f_wri z14 (by first | exact hx_mm_writes | omega) (by first | exact hx_mm_room | omega) (by omega)) (cwV 1 hts (gv hT w_m_X11_455 w_instanceMethod_X11_saysName ws_sel_X11_saysName w_ini_X11 w_code_X11_saysName) rfl rfl rfl (by decide +kernel) ⟨(Nat.le_of_ble_eq_true rfl), (Nat.le_of_ble_eq_true rfl)⟩) ⟨pre_blind, va_recv hK hP (ci := 8) (q0 := 0) rfl rfl, pre_of hPc hKc hDc hN⟩ rfl rfl hl.1 rfl (lv_room (Nat.le_of_ble_eq_true rfl)) dX11_saysName_16 ⟨(Nat.le_of_ble_eq_true rfl), (Nat.le_of_ble_eq_true rfl)⟩) hS (fun q _ h => hFc q h) hFc (fun u t H locs ht hvm hq hB hz1 hk1 hS9 => ?_)
    obtain ⟨z16, f17⟩ := u
    obtain ⟨hP1, hD1⟩ := hB
    rw [ht] at hP1
    obtain ⟨hP9, hD9⟩ := va_join (wr := []) (w1 := [(h_mm, .inr (8, (mo118 v_mm (.ref h_wri) (.int z16) (.int x_mm_room)))), (h_wri, .inl (cy_wri, 1000, .inl f17))]) hP hD [0, 1] [] rfl rfl (by decide) (by decide) hk1 hFc hP1 hD1
    clear hP hD hS hPc hDc hKc hFc hP1 hD1 hk1 hz1 ht hvm
    have hP : va_P (dC, dI) cls [(h_mm, .inr (8, (mo118 v_mm (.ref h_wri) (.int z16) (.int x_mm_room)))), (h_wri, .inl (cy_wri, 1000, .inl f17))] H := hP9
    have hD : va_D A [(h_mm, .inr (8, (mo118 v_mm (.ref h_wri) (.int z16) (.int x_mm_room)))), (h_wri, .inl (cy_wri, 1000, .inl f17))] := hD9
    have hS := hS9
    clear hP9 hD9 hS9
    have k18 : 0 ≤ ((z16)).toInt ∧ ((z16)).toInt ≤ 1000 := hq
    clear hq
    refine lv_aload_n hx hb dX11_saysName_19 rfl (lv_at hl 0 rfl) ?_
    refine lv_bipush (v := 97) hx hb dX11_saysName_20 (by decide) ?_
    refine lv_lload_n hx hb dX11_saysName_22 rfl (lv_at hl 1 rfl) ?_
    refine lv_lconst (v := 1) hx hb dX11_saysName_23 (by decide) ?_
    refine lv_lsub hx hb dX11_saysName_24 ?_
    refine lv_topl (fun z19 ez19 => ?_)
    refine lv_ldc2 (v := 27) hx hb hown (hw _ w_cl_X11_93) dX11_saysName_25 ?_
    refine lv_lrem hx hb dX11_saysName_28 (by decide) ?_
    refine lv_topl (fun z20 ez20 => ?_)
    refine lv_l2i hx hb dX11_saysName_29 rfl ?_
    refine lv_topi (fun z21 ez21 => ?_)
    refine lv_iadd hx hb dX11_saysName_30 ?_
    refine lv_topi (fun z22 ez22 => ?_)
    have hPc := hP.sub (ws' := [(h_mm, .inr (8, (mo118 v_mm (.ref h_wri) (.int z16) (.int x_mm_room)))), (h_wri, .inl (cy_wri, 1000, .inl f17))]) [0, 1] rfl
    have hDc := hD.sub (ws' := [(h_mm, .inr (8, (mo118 v_mm (.ref h_wri) (.int z16) (.int x_mm_room)))), (h_wri, .inl (cy_wri, 1000, .inl f17))]) [0, 1] (by decide) rfl
    have hKc := hK.sub (tys' := [(cy_wri, .int)]) [0] rfl
    have hFc := va_free (wc := [(h_mm, .inr (8, (mo118 v_mm (.ref h_wri) (.int z16) (.int x_mm_room)))), (h_wri, .inl (cy_wri, 1000, .inl f17))]) hD hS hA [0, 1] rfl
    refine va_callv (va_runV (As := [.int z22]) (rest := []) ⟨hx, hb, hml, hown, hts⟩ (c_X11_says l dC dI H.size h_mm h_wri v_mm z16 x_mm_room cy_wri f17 z22 (by first | exact k18 | omega) (by first | exact hx_mm_room | omega)) (cwV 1 hts (gv hT w_m_X11_452 w_instanceMethod_X11_says ws_sel_X11_says w_ini_X11 w_code_X11_says) rfl rfl rfl (by decide +kernel) ⟨(Nat.le_of_ble_eq_true rfl), (Nat.le_of_ble_eq_true rfl)⟩) ⟨pre_blind, va_recv hK hP (ci := 8) (q0 := 0) rfl rfl, pre_of hPc hKc hDc hN⟩ rfl rfl hl.1 rfl (lv_room (Nat.le_of_ble_eq_true rfl)) dX11_saysName_31 ⟨(Nat.le_of_ble_eq_true rfl), (Nat.le_of_ble_eq_true rfl)⟩) hS (fun q _ h => hFc q h) hFc (fun u t H locs ht hvm hq hB hz1 hk1 hS9 => ?_)
    obtain ⟨z24, f25⟩ := u
    obtain ⟨hP1, hD1⟩ := hB
    rw [ht] at hP1
    obtain ⟨hP9, hD9⟩ := va_join (wr := []) (w1 := [(h_mm, .inr (8, (mo118 v_mm (.ref h_wri) (.int z24) (.int x_mm_room)))), (h_wri, .inl (cy_wri, 1000, .inl f25))]) hP hD [0, 1] [] rfl rfl (by decide) (by decide) hk1 hFc hP1 hD1
    clear hP hD hS hPc hDc hKc hFc hP1 hD1 hk1 hz1 ht hvm
    have hP : va_P (dC, dI) cls [(h_mm, .inr (8, (mo118 v_mm (.ref h_wri) (.int z24) (.int x_mm_room)))), (h_wri, .inl (cy_wri, 1000, .inl f25))] H := hP9
    have hD : va_D A [(h_mm, .inr (8, (mo118 v_mm (.ref h_wri) (.int z24) (.int x_mm_room)))), (h_wri, .inl (cy_wri, 1000, .inl f25))] := hD9
    have hS := hS9
    clear hP9 hD9 hS9
    obtain ⟨k26, k27⟩ := hq
    replace k26 : 0 ≤ ((z24)).toInt ∧ ((z24)).toInt ≤ 1000 := k26
    replace k27 : ((z16)).toInt ≤ ((z24)).toInt := k27
    refine W.widen (k := 0) (n := 0) (Nat.le_of_ble_eq_true rfl) (Nat.le_of_ble_eq_true rfl) ?_
    have w28 : 0 ≤ ((z24)).toInt ∧ ((z24)).toInt ≤ 1000 := by first | exact k26 | omega
    exact W.vret hx hb hr (fun t ht hW => ⟨⟨(z24, f25), rfl, w28, by rw [ht]; exact hP, hD⟩, hS.F ht⟩) hS.2.2 dX11_saysName_34

set_option maxHeartbeats 8000000 in
set_option maxRecDepth 100000 in
theorem c_X11_saysName_7 (l : Launch) (dC : Nat → ClassId) (dI : Nat → Nat → Nat) (sz : Nat) (h_mm : Nat) (h_wri : Nat) (v_mm : Nat → Value) (x_mm_writes : Int32) (x_mm_room : Int32) (cy_wri : ClassId) (f_wri : Nat → Int32) (p1 : Int64) (hx_mm_writes : 0 ≤ (x_mm_writes).toInt ∧ (x_mm_writes).toInt ≤ 1000) (hx_mm_room : 0 ≤ (x_mm_room).toInt ∧ (x_mm_room).toInt ≤ 998) (q0 : (p1).toInt ≤ 293292210960) : Met l yX11_saysName (Ws yX11_saysName cX11_saysName 3 none) (({ frames := 8, cells := 0, slots := 0, locals := 175 } : Room)) (PRE (dC, dI) cls [(cy_wri, .int)] [(h_mm, .inr (8, (mo118 v_mm (.ref h_wri) (.int x_mm_writes) (.int x_mm_room)))), (h_wri, .inl (cy_wri, 1000, .inl f_wri))] sz [.ref h_mm, .long p1]) (va_Qv (fun (u : (Int32) × (Nat → Int32)) => (0 ≤ (u.1).toInt ∧ (u.1).toInt ≤ 1000)) (fun (u : (Int32) × (Nat → Int32)) (t : State) => va_P (dC, dI) cls [(h_mm, .inr (8, (mo118 v_mm (.ref h_wri) (.int u.1) (.int x_mm_room)))), (h_wri, .inl (cy_wri, 1000, .inl u.2))] t.heap ∧ va_D (va_A [(h_mm, .inr (8, (mo118 v_mm (.ref h_wri) (.int x_mm_writes) (.int x_mm_room)))), (h_wri, .inl (cy_wri, 1000, .inl f_wri))] sz) [(h_mm, .inr (8, (mo118 v_mm (.ref h_wri) (.int u.1) (.int x_mm_room)))), (h_wri, .inl (cy_wri, 1000, .inl u.2))]) (va_A [(h_mm, .inr (8, (mo118 v_mm (.ref h_wri) (.int x_mm_writes) (.int x_mm_room)))), (h_wri, .inl (cy_wri, 1000, .inl f_wri))] sz)) 0 0 (va_A [(h_mm, .inr (8, (mo118 v_mm (.ref h_wri) (.int x_mm_writes) (.int x_mm_room)))), (h_wri, .inl (cy_wri, 1000, .inl f_wri))] sz) := by
  refine Met.ofW (cc := cX11_saysName) (maxL := 3) (ret := none) (by decide) rfl ?_
  intro p e s m args below meth c s₁ B hml hv
  obtain ⟨rfl, hsz, hP, hK, hD0, hN⟩ := hv
  have hx := B.exec
  have hb := B.bytes
  have hr := B.returns
  have hts := atoms_spec (ws := Ws yX11_saysName cX11_saysName 3 none) B.pre
  have hT : ∀ w ∈ WALL, w ∈ Ws yX11_saysName cX11_saysName 3 none := fun w h => List.mem_cons_of_mem _ h
  have hw := fun w (h : w ∈ WALL) => hts w (hT w h)
  have hown : s.vm.findClass RX11 = some m.cls := findClass_of_methodNamed B.named
  have hlocks := B.notSynchronized
  subst hsz
  have hD := hD0.self (sz := s.heap.size)
  generalize hAe : va_A [(h_mm, .inr (8, (mo118 v_mm (.ref h_wri) (.int x_mm_writes) (.int x_mm_room)))), (h_wri, .inl (cy_wri, 1000, .inl f_wri))] s.heap.size = A at hD ⊢
  have hA : ∀ q : Nat, s.heap.size ≤ q → A q := fun q h => by rw [← hAe]; exact Or.inr h
  have hS : va_S A s.heap s.heap [] := va_S.rf
  have hl := lv_entry ([.ref h_mm, .long p1]) (n := 3) (Nat.le_of_ble_eq_true rfl)
  rw [lg_entry_eq]
  generalize (lg_sl ([.ref h_mm, .long p1]) ++ List.replicate (3 - (lg_sl ([.ref h_mm, .long p1])).length) Slot.unset).toArray = ls at hl ⊢
  have hl : lv_has ls 3 [(0, .ref h_mm), (1, .long p1)] := hl
  refine lv_lload_n hx hb dX11_saysName_0 rfl (lv_at hl 1 rfl) ?_
  refine lv_ldc2 (v := 27) hx hb hown (hw _ w_cl_X11_93) dX11_saysName_1 ?_
  refine W.lcmp hx hb dX11_saysName_4 ?_
  refine lv_topi (fun z1 ez1 => ?_)
  have gz1 := lgc p1 27
  rw [← ez1] at gz1
  have : (27 : Int64).toInt = 27 := by decide
  refine lv_if_le (tgt := 19) hx hb dX11_saysName_5 (by decide) (fun c2 => ?_) (fun c2 => ?_)
  · have kc2 := (cv_le (rfl : (z1).toInt = (z1).toInt) (by decide : (0 : Int32).toInt = 0)).mp c2
    refine lv_aload_n hx hb dX11_saysName_19 rfl (lv_at hl 0 rfl) ?_
    refine lv_bipush (v := 97) hx hb dX11_saysName_20 (by decide) ?_
    refine lv_lload_n hx hb dX11_saysName_22 rfl (lv_at hl 1 rfl) ?_
    refine lv_lconst (v := 1) hx hb dX11_saysName_23 (by decide) ?_
    refine lv_lsub hx hb dX11_saysName_24 ?_
    refine lv_topl (fun z3 ez3 => ?_)
    refine lv_ldc2 (v := 27) hx hb hown (hw _ w_cl_X11_93) dX11_saysName_25 ?_
    refine lv_lrem hx hb dX11_saysName_28 (by decide) ?_
    refine lv_topl (fun z4 ez4 => ?_)
    refine lv_l2i hx hb dX11_saysName_29 rfl ?_
    refine lv_topi (fun z5 ez5 => ?_)
    refine lv_iadd hx hb dX11_saysName_30 ?_
    refine lv_topi (fun z6 ez6 => ?_)
    have hPc := hP.sub (ws' := [(h_mm, .inr (8, (mo118 v_mm (.ref h_wri) (.int x_mm_writes) (.int x_mm_room)))), (h_wri, .inl (cy_wri, 1000, .inl f_wri))]) [0, 1] rfl
    have hDc := hD.sub (ws' := [(h_mm, .inr (8, (mo118 v_mm (.ref h_wri) (.int x_mm_writes) (.int x_mm_room)))), (h_wri, .inl (cy_wri, 1000, .inl f_wri))]) [0, 1] (by decide) rfl
    have hKc := hK.sub (tys' := [(cy_wri, .int)]) [0] rfl
    have hFc := va_free (wc := [(h_mm, .inr (8, (mo118 v_mm (.ref h_wri) (.int x_mm_writes) (.int x_mm_room)))), (h_wri, .inl (cy_wri, 1000, .inl f_wri))]) hD hS hA [0, 1] rfl
    refine va_callv (va_runV (As := [.int z6]) (rest := []) ⟨hx, hb, hml, hown, hts⟩ (c_X11_says l dC dI s.heap.size h_mm h_wri v_mm x_mm_writes x_mm_room cy_wri f_wri z6 (by first | exact hx_mm_writes | omega) (by first | exact hx_mm_room | omega)) (cwV 1 hts (gv hT w_m_X11_452 w_instanceMethod_X11_says ws_sel_X11_says w_ini_X11 w_code_X11_says) rfl rfl rfl (by decide +kernel) ⟨(Nat.le_of_ble_eq_true rfl), (Nat.le_of_ble_eq_true rfl)⟩) ⟨pre_blind, va_recv hK hP (ci := 8) (q0 := 0) rfl rfl, pre_of hPc hKc hDc hN⟩ rfl rfl hl.1 rfl (lv_room (Nat.le_of_ble_eq_true rfl)) dX11_saysName_31 ⟨(Nat.le_of_ble_eq_true rfl), (Nat.le_of_ble_eq_true rfl)⟩) hS (fun q _ h => hFc q h) hFc (fun u t H locs ht hvm hq hB hz1 hk1 hS9 => ?_)
    obtain ⟨z8, f9⟩ := u
    obtain ⟨hP1, hD1⟩ := hB
    rw [ht] at hP1
    obtain ⟨hP9, hD9⟩ := va_join (wr := []) (w1 := [(h_mm, .inr (8, (mo118 v_mm (.ref h_wri) (.int z8) (.int x_mm_room)))), (h_wri, .inl (cy_wri, 1000, .inl f9))]) hP hD [0, 1] [] rfl rfl (by decide) (by decide) hk1 hFc hP1 hD1
    clear hP hD hS hPc hDc hKc hFc hP1 hD1 hk1 hz1 ht hvm
    have hP : va_P (dC, dI) cls [(h_mm, .inr (8, (mo118 v_mm (.ref h_wri) (.int z8) (.int x_mm_room)))), (h_wri, .inl (cy_wri, 1000, .inl f9))] H := hP9
    have hD : va_D A [(h_mm, .inr (8, (mo118 v_mm (.ref h_wri) (.int z8) (.int x_mm_room)))), (h_wri, .inl (cy_wri, 1000, .inl f9))] := hD9
    have hS := hS9
    clear hP9 hD9 hS9
    obtain ⟨k10, k11⟩ := hq
    replace k10 : 0 ≤ ((z8)).toInt ∧ ((z8)).toInt ≤ 1000 := k10
    replace k11 : ((x_mm_writes)).toInt ≤ ((z8)).toInt := k11
    refine W.widen (k := 0) (n := 0) (Nat.le_of_ble_eq_true rfl) (Nat.le_of_ble_eq_true rfl) ?_
    have w12 : 0 ≤ ((z8)).toInt ∧ ((z8)).toInt ≤ 1000 := by first | exact k10 | omega
    exact W.vret hx hb hr (fun t ht hW => ⟨⟨(z8, f9), rfl, w12, by rw [ht]; exact hP, hD⟩, hS.F ht⟩) hS.2.2 dX11_saysName_34
  · have kc2 := (not_congr (cv_le (rfl : (z1).toInt = (z1).toInt) (by decide : (0 : Int32).toInt = 0))).mp c2
    have bd9 := l_bd p1
    refine lv_aload_n hx hb dX11_saysName_8 rfl (lv_at hl 0 rfl) ?_
    refine lv_lload_n hx hb dX11_saysName_9 rfl (lv_at hl 1 rfl) ?_
    refine lv_lconst (v := 1) hx hb dX11_saysName_10 (by decide) ?_
    refine lv_lsub hx hb dX11_saysName_11 ?_
    refine lv_topl (fun z13 ez13 => ?_)
    have tz13 : (z13).toInt = (p1).toInt - 1 := by rw [ez13]; exact l_sub rfl (by decide) (by omega)
    refine lv_ldc2 (v := 27) hx hb hown (hw _ w_cl_X11_93) dX11_saysName_12 ?_
    refine lv_ldiv hx hb dX11_saysName_15 (by decide) ?_
    refine lv_topl (fun z14 ez14 => ?_)
    have tz14 : 0 ≤ (z13).toInt → (z14).toInt = (z13).toInt / 27 := fun h9 => by rw [ez14]; exact l_div rfl (by decide) (by omega)
    have hPc := hP.sub (ws' := [(h_mm, .inr (8, (mo118 v_mm (.ref h_wri) (.int x_mm_writes) (.int x_mm_room)))), (h_wri, .inl (cy_wri, 1000, .inl f_wri))]) [0, 1] rfl
    have hDc := hD.sub (ws' := [(h_mm, .inr (8, (mo118 v_mm (.ref h_wri) (.int x_mm_writes) (.int x_mm_room)))), (h_wri, .inl (cy_wri, 1000, .inl f_wri))]) [0, 1] (by decide) rfl
    have hKc := hK.sub (tys' := [(cy_wri, .int)]) [0] rfl
    have hFc := va_free (wc := [(h_mm, .inr (8, (mo118 v_mm (.ref h_wri) (.int x_mm_writes) (.int x_mm_room)))), (h_wri, .inl (cy_wri, 1000, .inl f_wri))]) hD hS hA [0, 1] rfl
    refine va_callv (va_runV (As := [.long z14]) (rest := []) ⟨hx, hb, hml, hown, hts⟩ (c_X11_saysName_6 l dC dI s.heap.size h_mm h_wri v_mm x_mm_writes x_mm_room cy_wri f_wri z14 (by first | exact hx_mm_writes | omega) (by first | exact hx_mm_room | omega) (by omega)) (cwV 1 hts (gv hT w_m_X11_455 w_instanceMethod_X11_saysName ws_sel_X11_saysName w_ini_X11 w_code_X11_saysName) rfl rfl rfl (by decide +kernel) ⟨(Nat.le_of_ble_eq_true rfl), (Nat.le_of_ble_eq_true rfl)⟩) ⟨pre_blind, va_recv hK hP (ci := 8) (q0 := 0) rfl rfl, pre_of hPc hKc hDc hN⟩ rfl rfl hl.1 rfl (lv_room (Nat.le_of_ble_eq_true rfl)) dX11_saysName_16 ⟨(Nat.le_of_ble_eq_true rfl), (Nat.le_of_ble_eq_true rfl)⟩) hS (fun q _ h => hFc q h) hFc (fun u t H locs ht hvm hq hB hz1 hk1 hS9 => ?_)
    obtain ⟨z16, f17⟩ := u
    obtain ⟨hP1, hD1⟩ := hB
    rw [ht] at hP1
    obtain ⟨hP9, hD9⟩ := va_join (wr := []) (w1 := [(h_mm, .inr (8, (mo118 v_mm (.ref h_wri) (.int z16) (.int x_mm_room)))), (h_wri, .inl (cy_wri, 1000, .inl f17))]) hP hD [0, 1] [] rfl rfl (by decide) (by decide) hk1 hFc hP1 hD1
    clear hP hD hS hPc hDc hKc hFc hP1 hD1 hk1 hz1 ht hvm
    have hP : va_P (dC, dI) cls [(h_mm, .inr (8, (mo118 v_mm (.ref h_wri) (.int z16) (.int x_mm_room)))), (h_wri, .inl (cy_wri, 1000, .inl f17))] H := hP9
    have hD : va_D A [(h_mm, .inr (8, (mo118 v_mm (.ref h_wri) (.int z16) (.int x_mm_room)))), (h_wri, .inl (cy_wri, 1000, .inl f17))] := hD9
    have hS := hS9
    clear hP9 hD9 hS9
    have k18 : 0 ≤ ((z16)).toInt ∧ ((z16)).toInt ≤ 1000 := hq
    clear hq
    refine lv_aload_n hx hb dX11_saysName_19 rfl (lv_at hl 0 rfl) ?_
    refine lv_bipush (v := 97) hx hb dX11_saysName_20 (by decide) ?_
    refine lv_lload_n hx hb dX11_saysName_22 rfl (lv_at hl 1 rfl) ?_
    refine lv_lconst (v := 1) hx hb dX11_saysName_23 (by decide) ?_
    refine lv_lsub hx hb dX11_saysName_24 ?_
    refine lv_topl (fun z19 ez19 => ?_)
    refine lv_ldc2 (v := 27) hx hb hown (hw _ w_cl_X11_93) dX11_saysName_25 ?_
    refine lv_lrem hx hb dX11_saysName_28 (by decide) ?_
    refine lv_topl (fun z20 ez20 => ?_)
    refine lv_l2i hx hb dX11_saysName_29 rfl ?_
    refine lv_topi (fun z21 ez21 => ?_)
    refine lv_iadd hx hb dX11_saysName_30 ?_
    refine lv_topi (fun z22 ez22 => ?_)
    have hPc := hP.sub (ws' := [(h_mm, .inr (8, (mo118 v_mm (.ref h_wri) (.int z16) (.int x_mm_room)))), (h_wri, .inl (cy_wri, 1000, .inl f17))]) [0, 1] rfl
    have hDc := hD.sub (ws' := [(h_mm, .inr (8, (mo118 v_mm (.ref h_wri) (.int z16) (.int x_mm_room)))), (h_wri, .inl (cy_wri, 1000, .inl f17))]) [0, 1] (by decide) rfl
    have hKc := hK.sub (tys' := [(cy_wri, .int)]) [0] rfl
    have hFc := va_free (wc := [(h_mm, .inr (8, (mo118 v_mm (.ref h_wri) (.int z16) (.int x_mm_room)))), (h_wri, .inl (cy_wri, 1000, .inl f17))]) hD hS hA [0, 1] rfl
    refine va_callv (va_runV (As := [.int z22]) (rest := []) ⟨hx, hb, hml, hown, hts⟩ (c_X11_says l dC dI H.size h_mm h_wri v_mm z16 x_mm_room cy_wri f17 z22 (by first | exact k18 | omega) (by first | exact hx_mm_room | omega)) (cwV 1 hts (gv hT w_m_X11_452 w_instanceMethod_X11_says ws_sel_X11_says w_ini_X11 w_code_X11_says) rfl rfl rfl (by decide +kernel) ⟨(Nat.le_of_ble_eq_true rfl), (Nat.le_of_ble_eq_true rfl)⟩) ⟨pre_blind, va_recv hK hP (ci := 8) (q0 := 0) rfl rfl, pre_of hPc hKc hDc hN⟩ rfl rfl hl.1 rfl (lv_room (Nat.le_of_ble_eq_true rfl)) dX11_saysName_31 ⟨(Nat.le_of_ble_eq_true rfl), (Nat.le_of_ble_eq_true rfl)⟩) hS (fun q _ h => hFc q h) hFc (fun u t H locs ht hvm hq hB hz1 hk1 hS9 => ?_)
    obtain ⟨z24, f25⟩ := u
    obtain ⟨hP1, hD1⟩ := hB
    rw [ht] at hP1
    obtain ⟨hP9, hD9⟩ := va_join (wr := []) (w1 := [(h_mm, .inr (8, (mo118 v_mm (.ref h_wri) (.int z24) (.int x_mm_room)))), (h_wri, .inl (cy_wri, 1000, .inl f25))]) hP hD [0, 1] [] rfl rfl (by decide) (by decide) hk1 hFc hP1 hD1
    clear hP hD hS hPc hDc hKc hFc hP1 hD1 hk1 hz1 ht hvm
    have hP : va_P (dC, dI) cls [(h_mm, .inr (8, (mo118 v_mm (.ref h_wri) (.int z24) (.int x_mm_room)))), (h_wri, .inl (cy_wri, 1000, .inl f25))] H := hP9
    have hD : va_D A [(h_mm, .inr (8, (mo118 v_mm (.ref h_wri) (.int z24) (.int x_mm_room)))), (h_wri, .inl (cy_wri, 1000, .inl f25))] := hD9
    have hS := hS9
    clear hP9 hD9 hS9
    obtain ⟨k26, k27⟩ := hq
    replace k26 : 0 ≤ ((z24)).toInt ∧ ((z24)).toInt ≤ 1000 := k26
    replace k27 : ((z16)).toInt ≤ ((z24)).toInt := k27
    refine W.widen (k := 0) (n := 0) (Nat.le_of_ble_eq_true rfl) (Nat.le_of_ble_eq_true rfl) ?_
    have w28 : 0 ≤ ((z24)).toInt ∧ ((z24)).toInt ≤ 1000 := by first | exact k26 | omega
    exact W.vret hx hb hr (fun t ht hW => ⟨⟨(z24, f25), rfl, w28, by rw [ht]; exact hP, hD⟩, hS.F ht⟩) hS.2.2 dX11_saysName_34

set_option maxHeartbeats 8000000 in
set_option maxRecDepth 100000 in
theorem c_X11_saysName_8 (l : Launch) (dC : Nat → ClassId) (dI : Nat → Nat → Nat) (sz : Nat) (h_mm : Nat) (h_wri : Nat) (v_mm : Nat → Value) (x_mm_writes : Int32) (x_mm_room : Int32) (cy_wri : ClassId) (f_wri : Nat → Int32) (p1 : Int64) (hx_mm_writes : 0 ≤ (x_mm_writes).toInt ∧ (x_mm_writes).toInt ≤ 1000) (hx_mm_room : 0 ≤ (x_mm_room).toInt ∧ (x_mm_room).toInt ≤ 998) (q0 : (p1).toInt ≤ 7918889695947) : Met l yX11_saysName (Ws yX11_saysName cX11_saysName 3 none) (({ frames := 9, cells := 0, slots := 0, locals := 197 } : Room)) (PRE (dC, dI) cls [(cy_wri, .int)] [(h_mm, .inr (8, (mo118 v_mm (.ref h_wri) (.int x_mm_writes) (.int x_mm_room)))), (h_wri, .inl (cy_wri, 1000, .inl f_wri))] sz [.ref h_mm, .long p1]) (va_Qv (fun (u : (Int32) × (Nat → Int32)) => (0 ≤ (u.1).toInt ∧ (u.1).toInt ≤ 1000)) (fun (u : (Int32) × (Nat → Int32)) (t : State) => va_P (dC, dI) cls [(h_mm, .inr (8, (mo118 v_mm (.ref h_wri) (.int u.1) (.int x_mm_room)))), (h_wri, .inl (cy_wri, 1000, .inl u.2))] t.heap ∧ va_D (va_A [(h_mm, .inr (8, (mo118 v_mm (.ref h_wri) (.int x_mm_writes) (.int x_mm_room)))), (h_wri, .inl (cy_wri, 1000, .inl f_wri))] sz) [(h_mm, .inr (8, (mo118 v_mm (.ref h_wri) (.int u.1) (.int x_mm_room)))), (h_wri, .inl (cy_wri, 1000, .inl u.2))]) (va_A [(h_mm, .inr (8, (mo118 v_mm (.ref h_wri) (.int x_mm_writes) (.int x_mm_room)))), (h_wri, .inl (cy_wri, 1000, .inl f_wri))] sz)) 0 0 (va_A [(h_mm, .inr (8, (mo118 v_mm (.ref h_wri) (.int x_mm_writes) (.int x_mm_room)))), (h_wri, .inl (cy_wri, 1000, .inl f_wri))] sz) := by
  refine Met.ofW (cc := cX11_saysName) (maxL := 3) (ret := none) (by decide) rfl ?_
  intro p e s m args below meth c s₁ B hml hv
  obtain ⟨rfl, hsz, hP, hK, hD0, hN⟩ := hv
  have hx := B.exec
  have hb := B.bytes
  have hr := B.returns
  have hts := atoms_spec (ws := Ws yX11_saysName cX11_saysName 3 none) B.pre
  have hT : ∀ w ∈ WALL, w ∈ Ws yX11_saysName cX11_saysName 3 none := fun w h => List.mem_cons_of_mem _ h
  have hw := fun w (h : w ∈ WALL) => hts w (hT w h)
  have hown : s.vm.findClass RX11 = some m.cls := findClass_of_methodNamed B.named
  have hlocks := B.notSynchronized
  subst hsz
  have hD := hD0.self (sz := s.heap.size)
  generalize hAe : va_A [(h_mm, .inr (8, (mo118 v_mm (.ref h_wri) (.int x_mm_writes) (.int x_mm_room)))), (h_wri, .inl (cy_wri, 1000, .inl f_wri))] s.heap.size = A at hD ⊢
  have hA : ∀ q : Nat, s.heap.size ≤ q → A q := fun q h => by rw [← hAe]; exact Or.inr h
  have hS : va_S A s.heap s.heap [] := va_S.rf
  have hl := lv_entry ([.ref h_mm, .long p1]) (n := 3) (Nat.le_of_ble_eq_true rfl)
  rw [lg_entry_eq]
  generalize (lg_sl ([.ref h_mm, .long p1]) ++ List.replicate (3 - (lg_sl ([.ref h_mm, .long p1])).length) Slot.unset).toArray = ls at hl ⊢
  have hl : lv_has ls 3 [(0, .ref h_mm), (1, .long p1)] := hl
  refine lv_lload_n hx hb dX11_saysName_0 rfl (lv_at hl 1 rfl) ?_
  refine lv_ldc2 (v := 27) hx hb hown (hw _ w_cl_X11_93) dX11_saysName_1 ?_
  refine W.lcmp hx hb dX11_saysName_4 ?_
  refine lv_topi (fun z1 ez1 => ?_)
  have gz1 := lgc p1 27
  rw [← ez1] at gz1
  have : (27 : Int64).toInt = 27 := by decide
  refine lv_if_le (tgt := 19) hx hb dX11_saysName_5 (by decide) (fun c2 => ?_) (fun c2 => ?_)
  · have kc2 := (cv_le (rfl : (z1).toInt = (z1).toInt) (by decide : (0 : Int32).toInt = 0)).mp c2
    refine lv_aload_n hx hb dX11_saysName_19 rfl (lv_at hl 0 rfl) ?_
    refine lv_bipush (v := 97) hx hb dX11_saysName_20 (by decide) ?_
    refine lv_lload_n hx hb dX11_saysName_22 rfl (lv_at hl 1 rfl) ?_
    refine lv_lconst (v := 1) hx hb dX11_saysName_23 (by decide) ?_
    refine lv_lsub hx hb dX11_saysName_24 ?_
    refine lv_topl (fun z3 ez3 => ?_)
    refine lv_ldc2 (v := 27) hx hb hown (hw _ w_cl_X11_93) dX11_saysName_25 ?_
    refine lv_lrem hx hb dX11_saysName_28 (by decide) ?_
    refine lv_topl (fun z4 ez4 => ?_)
    refine lv_l2i hx hb dX11_saysName_29 rfl ?_
    refine lv_topi (fun z5 ez5 => ?_)
    refine lv_iadd hx hb dX11_saysName_30 ?_
    refine lv_topi (fun z6 ez6 => ?_)
    have hPc := hP.sub (ws' := [(h_mm, .inr (8, (mo118 v_mm (.ref h_wri) (.int x_mm_writes) (.int x_mm_room)))), (h_wri, .inl (cy_wri, 1000, .inl f_wri))]) [0, 1] rfl
    have hDc := hD.sub (ws' := [(h_mm, .inr (8, (mo118 v_mm (.ref h_wri) (.int x_mm_writes) (.int x_mm_room)))), (h_wri, .inl (cy_wri, 1000, .inl f_wri))]) [0, 1] (by decide) rfl
    have hKc := hK.sub (tys' := [(cy_wri, .int)]) [0] rfl
    have hFc := va_free (wc := [(h_mm, .inr (8, (mo118 v_mm (.ref h_wri) (.int x_mm_writes) (.int x_mm_room)))), (h_wri, .inl (cy_wri, 1000, .inl f_wri))]) hD hS hA [0, 1] rfl
    refine va_callv (va_runV (As := [.int z6]) (rest := []) ⟨hx, hb, hml, hown, hts⟩ (c_X11_says l dC dI s.heap.size h_mm h_wri v_mm x_mm_writes x_mm_room cy_wri f_wri z6 (by first | exact hx_mm_writes | omega) (by first | exact hx_mm_room | omega)) (cwV 1 hts (gv hT w_m_X11_452 w_instanceMethod_X11_says ws_sel_X11_says w_ini_X11 w_code_X11_says) rfl rfl rfl (by decide +kernel) ⟨(Nat.le_of_ble_eq_true rfl), (Nat.le_of_ble_eq_true rfl)⟩) ⟨pre_blind, va_recv hK hP (ci := 8) (q0 := 0) rfl rfl, pre_of hPc hKc hDc hN⟩ rfl rfl hl.1 rfl (lv_room (Nat.le_of_ble_eq_true rfl)) dX11_saysName_31 ⟨(Nat.le_of_ble_eq_true rfl), (Nat.le_of_ble_eq_true rfl)⟩) hS (fun q _ h => hFc q h) hFc (fun u t H locs ht hvm hq hB hz1 hk1 hS9 => ?_)
    obtain ⟨z8, f9⟩ := u
    obtain ⟨hP1, hD1⟩ := hB
    rw [ht] at hP1
    obtain ⟨hP9, hD9⟩ := va_join (wr := []) (w1 := [(h_mm, .inr (8, (mo118 v_mm (.ref h_wri) (.int z8) (.int x_mm_room)))), (h_wri, .inl (cy_wri, 1000, .inl f9))]) hP hD [0, 1] [] rfl rfl (by decide) (by decide) hk1 hFc hP1 hD1
    clear hP hD hS hPc hDc hKc hFc hP1 hD1 hk1 hz1 ht hvm
    have hP : va_P (dC, dI) cls [(h_mm, .inr (8, (mo118 v_mm (.ref h_wri) (.int z8) (.int x_mm_room)))), (h_wri, .inl (cy_wri, 1000, .inl f9))] H := hP9
    have hD : va_D A [(h_mm, .inr (8, (mo118 v_mm (.ref h_wri) (.int z8) (.int x_mm_room)))), (h_wri, .inl (cy_wri, 1000, .inl f9))] := hD9
    have hS := hS9
    clear hP9 hD9 hS9
    obtain ⟨k10, k11⟩ := hq
    replace k10 : 0 ≤ ((z8)).toInt ∧ ((z8)).toInt ≤ 1000 := k10
    replace k11 : ((x_mm_writes)).toInt ≤ ((z8)).toInt := k11
    refine W.widen (k := 0) (n := 0) (Nat.le_of_ble_eq_true rfl) (Nat.le_of_ble_eq_true rfl) ?_
    have w12 : 0 ≤ ((z8)).toInt ∧ ((z8)).toInt ≤ 1000 := by first | exact k10 | omega
    exact W.vret hx hb hr (fun t ht hW => ⟨⟨(z8, f9), rfl, w12, by rw [ht]; exact hP, hD⟩, hS.F ht⟩) hS.2.2 dX11_saysName_34
  · have kc2 := (not_congr (cv_le (rfl : (z1).toInt = (z1).toInt) (by decide : (0 : Int32).toInt = 0))).mp c2
    have bd9 := l_bd p1
    refine lv_aload_n hx hb dX11_saysName_8 rfl (lv_at hl 0 rfl) ?_
    refine lv_lload_n hx hb dX11_saysName_9 rfl (lv_at hl 1 rfl) ?_
    refine lv_lconst (v := 1) hx hb dX11_saysName_10 (by decide) ?_
    refine lv_lsub hx hb dX11_saysName_11 ?_
    refine lv_topl (fun z13 ez13 => ?_)
    have tz13 : (z13).toInt = (p1).toInt - 1 := by rw [ez13]; exact l_sub rfl (by decide) (by omega)
    refine lv_ldc2 (v := 27) hx hb hown (hw _ w_cl_X11_93) dX11_saysName_12 ?_
    refine lv_ldiv hx hb dX11_saysName_15 (by decide) ?_
    refine lv_topl (fun z14 ez14 => ?_)
    have tz14 : 0 ≤ (z13).toInt → (z14).toInt = (z13).toInt / 27 := fun h9 => by rw [ez14]; exact l_div rfl (by decide) (by omega)
    have hPc := hP.sub (ws' := [(h_mm, .inr (8, (mo118 v_mm (.ref h_wri) (.int x_mm_writes) (.int x_mm_room)))), (h_wri, .inl (cy_wri, 1000, .inl f_wri))]) [0, 1] rfl
    have hDc := hD.sub (ws' := [(h_mm, .inr (8, (mo118 v_mm (.ref h_wri) (.int x_mm_writes) (.int x_mm_room)))), (h_wri, .inl (cy_wri, 1000, .inl f_wri))]) [0, 1] (by decide) rfl
    have hKc := hK.sub (tys' := [(cy_wri, .int)]) [0] rfl
    have hFc := va_free (wc := [(h_mm, .inr (8, (mo118 v_mm (.ref h_wri) (.int x_mm_writes) (.int x_mm_room)))), (h_wri, .inl (cy_wri, 1000, .inl f_wri))]) hD hS hA [0, 1] rfl
    refine va_callv (va_runV (As := [.long z14]) (rest := []) ⟨hx, hb, hml, hown, hts⟩ (c_X11_saysName_7 l dC dI s.heap.size h_mm h_wri v_mm x_mm_writes x_mm_room cy_wri f_wri z14 (by first | exact hx_mm_writes | omega) (by first | exact hx_mm_room | omega) (by omega)) (cwV 1 hts (gv hT w_m_X11_455 w_instanceMethod_X11_saysName ws_sel_X11_saysName w_ini_X11 w_code_X11_saysName) rfl rfl rfl (by decide +kernel) ⟨(Nat.le_of_ble_eq_true rfl), (Nat.le_of_ble_eq_true rfl)⟩) ⟨pre_blind, va_recv hK hP (ci := 8) (q0 := 0) rfl rfl, pre_of hPc hKc hDc hN⟩ rfl rfl hl.1 rfl (lv_room (Nat.le_of_ble_eq_true rfl)) dX11_saysName_16 ⟨(Nat.le_of_ble_eq_true rfl), (Nat.le_of_ble_eq_true rfl)⟩) hS (fun q _ h => hFc q h) hFc (fun u t H locs ht hvm hq hB hz1 hk1 hS9 => ?_)
    obtain ⟨z16, f17⟩ := u
    obtain ⟨hP1, hD1⟩ := hB
    rw [ht] at hP1
    obtain ⟨hP9, hD9⟩ := va_join (wr := []) (w1 := [(h_mm, .inr (8, (mo118 v_mm (.ref h_wri) (.int z16) (.int x_mm_room)))), (h_wri, .inl (cy_wri, 1000, .inl f17))]) hP hD [0, 1] [] rfl rfl (by decide) (by decide) hk1 hFc hP1 hD1
    clear hP hD hS hPc hDc hKc hFc hP1 hD1 hk1 hz1 ht hvm
    have hP : va_P (dC, dI) cls [(h_mm, .inr (8, (mo118 v_mm (.ref h_wri) (.int z16) (.int x_mm_room)))), (h_wri, .inl (cy_wri, 1000, .inl f17))] H := hP9
    have hD : va_D A [(h_mm, .inr (8, (mo118 v_mm (.ref h_wri) (.int z16) (.int x_mm_room)))), (h_wri, .inl (cy_wri, 1000, .inl f17))] := hD9
    have hS := hS9
    clear hP9 hD9 hS9
    have k18 : 0 ≤ ((z16)).toInt ∧ ((z16)).toInt ≤ 1000 := hq
    clear hq
    refine lv_aload_n hx hb dX11_saysName_19 rfl (lv_at hl 0 rfl) ?_
    refine lv_bipush (v := 97) hx hb dX11_saysName_20 (by decide) ?_
    refine lv_lload_n hx hb dX11_saysName_22 rfl (lv_at hl 1 rfl) ?_
    refine lv_lconst (v := 1) hx hb dX11_saysName_23 (by decide) ?_
    refine lv_lsub hx hb dX11_saysName_24 ?_
    refine lv_topl (fun z19 ez19 => ?_)
    refine lv_ldc2 (v := 27) hx hb hown (hw _ w_cl_X11_93) dX11_saysName_25 ?_
    refine lv_lrem hx hb dX11_saysName_28 (by decide) ?_
    refine lv_topl (fun z20 ez20 => ?_)
    refine lv_l2i hx hb dX11_saysName_29 rfl ?_
    refine lv_topi (fun z21 ez21 => ?_)
    refine lv_iadd hx hb dX11_saysName_30 ?_
    refine lv_topi (fun z22 ez22 => ?_)
    have hPc := hP.sub (ws' := [(h_mm, .inr (8, (mo118 v_mm (.ref h_wri) (.int z16) (.int x_mm_room)))), (h_wri, .inl (cy_wri, 1000, .inl f17))]) [0, 1] rfl
    have hDc := hD.sub (ws' := [(h_mm, .inr (8, (mo118 v_mm (.ref h_wri) (.int z16) (.int x_mm_room)))), (h_wri, .inl (cy_wri, 1000, .inl f17))]) [0, 1] (by decide) rfl
    have hKc := hK.sub (tys' := [(cy_wri, .int)]) [0] rfl
    have hFc := va_free (wc := [(h_mm, .inr (8, (mo118 v_mm (.ref h_wri) (.int z16) (.int x_mm_room)))), (h_wri, .inl (cy_wri, 1000, .inl f17))]) hD hS hA [0, 1] rfl
    refine va_callv (va_runV (As := [.int z22]) (rest := []) ⟨hx, hb, hml, hown, hts⟩ (c_X11_says l dC dI H.size h_mm h_wri v_mm z16 x_mm_room cy_wri f17 z22 (by first | exact k18 | omega) (by first | exact hx_mm_room | omega)) (cwV 1 hts (gv hT w_m_X11_452 w_instanceMethod_X11_says ws_sel_X11_says w_ini_X11 w_code_X11_says) rfl rfl rfl (by decide +kernel) ⟨(Nat.le_of_ble_eq_true rfl), (Nat.le_of_ble_eq_true rfl)⟩) ⟨pre_blind, va_recv hK hP (ci := 8) (q0 := 0) rfl rfl, pre_of hPc hKc hDc hN⟩ rfl rfl hl.1 rfl (lv_room (Nat.le_of_ble_eq_true rfl)) dX11_saysName_31 ⟨(Nat.le_of_ble_eq_true rfl), (Nat.le_of_ble_eq_true rfl)⟩) hS (fun q _ h => hFc q h) hFc (fun u t H locs ht hvm hq hB hz1 hk1 hS9 => ?_)
    obtain ⟨z24, f25⟩ := u
    obtain ⟨hP1, hD1⟩ := hB
    rw [ht] at hP1
    obtain ⟨hP9, hD9⟩ := va_join (wr := []) (w1 := [(h_mm, .inr (8, (mo118 v_mm (.ref h_wri) (.int z24) (.int x_mm_room)))), (h_wri, .inl (cy_wri, 1000, .inl f25))]) hP hD [0, 1] [] rfl rfl (by decide) (by decide) hk1 hFc hP1 hD1
    clear hP hD hS hPc hDc hKc hFc hP1 hD1 hk1 hz1 ht hvm
    have hP : va_P (dC, dI) cls [(h_mm, .inr (8, (mo118 v_mm (.ref h_wri) (.int z24) (.int x_mm_room)))), (h_wri, .inl (cy_wri, 1000, .inl f25))] H := hP9
    have hD : va_D A [(h_mm, .inr (8, (mo118 v_mm (.ref h_wri) (.int z24) (.int x_mm_room)))), (h_wri, .inl (cy_wri, 1000, .inl f25))] := hD9
    have hS := hS9
    clear hP9 hD9 hS9
    obtain ⟨k26, k27⟩ := hq
    replace k26 : 0 ≤ ((z24)).toInt ∧ ((z24)).toInt ≤ 1000 := k26
    replace k27 : ((z16)).toInt ≤ ((z24)).toInt := k27
    refine W.widen (k := 0) (n := 0) (Nat.le_of_ble_eq_true rfl) (Nat.le_of_ble_eq_true rfl) ?_
    have w28 : 0 ≤ ((z24)).toInt ∧ ((z24)).toInt ≤ 1000 := by first | exact k26 | omega
    exact W.vret hx hb hr (fun t ht hW => ⟨⟨(z24, f25), rfl, w28, by rw [ht]; exact hP, hD⟩, hS.F ht⟩) hS.2.2 dX11_saysName_34

set_option maxHeartbeats 8000000 in
set_option maxRecDepth 100000 in
theorem c_X11_saysName_9 (l : Launch) (dC : Nat → ClassId) (dI : Nat → Nat → Nat) (sz : Nat) (h_mm : Nat) (h_wri : Nat) (v_mm : Nat → Value) (x_mm_writes : Int32) (x_mm_room : Int32) (cy_wri : ClassId) (f_wri : Nat → Int32) (p1 : Int64) (hx_mm_writes : 0 ≤ (x_mm_writes).toInt ∧ (x_mm_writes).toInt ≤ 1000) (hx_mm_room : 0 ≤ (x_mm_room).toInt ∧ (x_mm_room).toInt ≤ 998) (q0 : (p1).toInt ≤ 213810021790596) : Met l yX11_saysName (Ws yX11_saysName cX11_saysName 3 none) (({ frames := 10, cells := 0, slots := 0, locals := 219 } : Room)) (PRE (dC, dI) cls [(cy_wri, .int)] [(h_mm, .inr (8, (mo118 v_mm (.ref h_wri) (.int x_mm_writes) (.int x_mm_room)))), (h_wri, .inl (cy_wri, 1000, .inl f_wri))] sz [.ref h_mm, .long p1]) (va_Qv (fun (u : (Int32) × (Nat → Int32)) => (0 ≤ (u.1).toInt ∧ (u.1).toInt ≤ 1000)) (fun (u : (Int32) × (Nat → Int32)) (t : State) => va_P (dC, dI) cls [(h_mm, .inr (8, (mo118 v_mm (.ref h_wri) (.int u.1) (.int x_mm_room)))), (h_wri, .inl (cy_wri, 1000, .inl u.2))] t.heap ∧ va_D (va_A [(h_mm, .inr (8, (mo118 v_mm (.ref h_wri) (.int x_mm_writes) (.int x_mm_room)))), (h_wri, .inl (cy_wri, 1000, .inl f_wri))] sz) [(h_mm, .inr (8, (mo118 v_mm (.ref h_wri) (.int u.1) (.int x_mm_room)))), (h_wri, .inl (cy_wri, 1000, .inl u.2))]) (va_A [(h_mm, .inr (8, (mo118 v_mm (.ref h_wri) (.int x_mm_writes) (.int x_mm_room)))), (h_wri, .inl (cy_wri, 1000, .inl f_wri))] sz)) 0 0 (va_A [(h_mm, .inr (8, (mo118 v_mm (.ref h_wri) (.int x_mm_writes) (.int x_mm_room)))), (h_wri, .inl (cy_wri, 1000, .inl f_wri))] sz) := by
  refine Met.ofW (cc := cX11_saysName) (maxL := 3) (ret := none) (by decide) rfl ?_
  intro p e s m args below meth c s₁ B hml hv
  obtain ⟨rfl, hsz, hP, hK, hD0, hN⟩ := hv
  have hx := B.exec
  have hb := B.bytes
  have hr := B.returns
  have hts := atoms_spec (ws := Ws yX11_saysName cX11_saysName 3 none) B.pre
  have hT : ∀ w ∈ WALL, w ∈ Ws yX11_saysName cX11_saysName 3 none := fun w h => List.mem_cons_of_mem _ h
  have hw := fun w (h : w ∈ WALL) => hts w (hT w h)
  have hown : s.vm.findClass RX11 = some m.cls := findClass_of_methodNamed B.named
  have hlocks := B.notSynchronized
  subst hsz
  have hD := hD0.self (sz := s.heap.size)
  generalize hAe : va_A [(h_mm, .inr (8, (mo118 v_mm (.ref h_wri) (.int x_mm_writes) (.int x_mm_room)))), (h_wri, .inl (cy_wri, 1000, .inl f_wri))] s.heap.size = A at hD ⊢
  have hA : ∀ q : Nat, s.heap.size ≤ q → A q := fun q h => by rw [← hAe]; exact Or.inr h
  have hS : va_S A s.heap s.heap [] := va_S.rf
  have hl := lv_entry ([.ref h_mm, .long p1]) (n := 3) (Nat.le_of_ble_eq_true rfl)
  rw [lg_entry_eq]
  generalize (lg_sl ([.ref h_mm, .long p1]) ++ List.replicate (3 - (lg_sl ([.ref h_mm, .long p1])).length) Slot.unset).toArray = ls at hl ⊢
  have hl : lv_has ls 3 [(0, .ref h_mm), (1, .long p1)] := hl
  refine lv_lload_n hx hb dX11_saysName_0 rfl (lv_at hl 1 rfl) ?_
  refine lv_ldc2 (v := 27) hx hb hown (hw _ w_cl_X11_93) dX11_saysName_1 ?_
  refine W.lcmp hx hb dX11_saysName_4 ?_
  refine lv_topi (fun z1 ez1 => ?_)
  have gz1 := lgc p1 27
  rw [← ez1] at gz1
  have : (27 : Int64).toInt = 27 := by decide
  refine lv_if_le (tgt := 19) hx hb dX11_saysName_5 (by decide) (fun c2 => ?_) (fun c2 => ?_)
  · have kc2 := (cv_le (rfl : (z1).toInt = (z1).toInt) (by decide : (0 : Int32).toInt = 0)).mp c2
    refine lv_aload_n hx hb dX11_saysName_19 rfl (lv_at hl 0 rfl) ?_
    refine lv_bipush (v := 97) hx hb dX11_saysName_20 (by decide) ?_
    refine lv_lload_n hx hb dX11_saysName_22 rfl (lv_at hl 1 rfl) ?_
    refine lv_lconst (v := 1) hx hb dX11_saysName_23 (by decide) ?_
    refine lv_lsub hx hb dX11_saysName_24 ?_
    refine lv_topl (fun z3 ez3 => ?_)
    refine lv_ldc2 (v := 27) hx hb hown (hw _ w_cl_X11_93) dX11_saysName_25 ?_
    refine lv_lrem hx hb dX11_saysName_28 (by decide) ?_
    refine lv_topl (fun z4 ez4 => ?_)
    refine lv_l2i hx hb dX11_saysName_29 rfl ?_
    refine lv_topi (fun z5 ez5 => ?_)
    refine lv_iadd hx hb dX11_saysName_30 ?_
    refine lv_topi (fun z6 ez6 => ?_)
    have hPc := hP.sub (ws' := [(h_mm, .inr (8, (mo118 v_mm (.ref h_wri) (.int x_mm_writes) (.int x_mm_room)))), (h_wri, .inl (cy_wri, 1000, .inl f_wri))]) [0, 1] rfl
    have hDc := hD.sub (ws' := [(h_mm, .inr (8, (mo118 v_mm (.ref h_wri) (.int x_mm_writes) (.int x_mm_room)))), (h_wri, .inl (cy_wri, 1000, .inl f_wri))]) [0, 1] (by decide) rfl
    have hKc := hK.sub (tys' := [(cy_wri, .int)]) [0] rfl
    have hFc := va_free (wc := [(h_mm, .inr (8, (mo118 v_mm (.ref h_wri) (.int x_mm_writes) (.int x_mm_room)))), (h_wri, .inl (cy_wri, 1000, .inl f_wri))]) hD hS hA [0, 1] rfl
    refine va_callv (va_runV (As := [.int z6]) (rest := []) ⟨hx, hb, hml, hown, hts⟩ (c_X11_says l dC dI s.heap.size h_mm h_wri v_mm x_mm_writes x_mm_room cy_wri f_wri z6 (by first | exact hx_mm_writes | omega) (by first | exact hx_mm_room | omega)) (cwV 1 hts (gv hT w_m_X11_452 w_instanceMethod_X11_says ws_sel_X11_says w_ini_X11 w_code_X11_says) rfl rfl rfl (by decide +kernel) ⟨(Nat.le_of_ble_eq_true rfl), (Nat.le_of_ble_eq_true rfl)⟩) ⟨pre_blind, va_recv hK hP (ci := 8) (q0 := 0) rfl rfl, pre_of hPc hKc hDc hN⟩ rfl rfl hl.1 rfl (lv_room (Nat.le_of_ble_eq_true rfl)) dX11_saysName_31 ⟨(Nat.le_of_ble_eq_true rfl), (Nat.le_of_ble_eq_true rfl)⟩) hS (fun q _ h => hFc q h) hFc (fun u t H locs ht hvm hq hB hz1 hk1 hS9 => ?_)
    obtain ⟨z8, f9⟩ := u
    obtain ⟨hP1, hD1⟩ := hB
    rw [ht] at hP1
    obtain ⟨hP9, hD9⟩ := va_join (wr := []) (w1 := [(h_mm, .inr (8, (mo118 v_mm (.ref h_wri) (.int z8) (.int x_mm_room)))), (h_wri, .inl (cy_wri, 1000, .inl f9))]) hP hD [0, 1] [] rfl rfl (by decide) (by decide) hk1 hFc hP1 hD1
    clear hP hD hS hPc hDc hKc hFc hP1 hD1 hk1 hz1 ht hvm
    have hP : va_P (dC, dI) cls [(h_mm, .inr (8, (mo118 v_mm (.ref h_wri) (.int z8) (.int x_mm_room)))), (h_wri, .inl (cy_wri, 1000, .inl f9))] H := hP9
    have hD : va_D A [(h_mm, .inr (8, (mo118 v_mm (.ref h_wri) (.int z8) (.int x_mm_room)))), (h_wri, .inl (cy_wri, 1000, .inl f9))] := hD9
    have hS := hS9
    clear hP9 hD9 hS9
    obtain ⟨k10, k11⟩ := hq
    replace k10 : 0 ≤ ((z8)).toInt ∧ ((z8)).toInt ≤ 1000 := k10
    replace k11 : ((x_mm_writes)).toInt ≤ ((z8)).toInt := k11
    refine W.widen (k := 0) (n := 0) (Nat.le_of_ble_eq_true rfl) (Nat.le_of_ble_eq_true rfl) ?_
    have w12 : 0 ≤ ((z8)).toInt ∧ ((z8)).toInt ≤ 1000 := by first | exact k10 | omega
    exact W.vret hx hb hr (fun t ht hW => ⟨⟨(z8, f9), rfl, w12, by rw [ht]; exact hP, hD⟩, hS.F ht⟩) hS.2.2 dX11_saysName_34
  · have kc2 := (not_congr (cv_le (rfl : (z1).toInt = (z1).toInt) (by decide : (0 : Int32).toInt = 0))).mp c2
    have bd9 := l_bd p1
    refine lv_aload_n hx hb dX11_saysName_8 rfl (lv_at hl 0 rfl) ?_
    refine lv_lload_n hx hb dX11_saysName_9 rfl (lv_at hl 1 rfl) ?_
    refine lv_lconst (v := 1) hx hb dX11_saysName_10 (by decide) ?_
    refine lv_lsub hx hb dX11_saysName_11 ?_
    refine lv_topl (fun z13 ez13 => ?_)
    have tz13 : (z13).toInt = (p1).toInt - 1 := by rw [ez13]; exact l_sub rfl (by decide) (by omega)
    refine lv_ldc2 (v := 27) hx hb hown (hw _ w_cl_X11_93) dX11_saysName_12 ?_
    refine lv_ldiv hx hb dX11_saysName_15 (by decide) ?_
    refine lv_topl (fun z14 ez14 => ?_)
    have tz14 : 0 ≤ (z13).toInt → (z14).toInt = (z13).toInt / 27 := fun h9 => by rw [ez14]; exact l_div rfl (by decide) (by omega)
    have hPc := hP.sub (ws' := [(h_mm, .inr (8, (mo118 v_mm (.ref h_wri) (.int x_mm_writes) (.int x_mm_room)))), (h_wri, .inl (cy_wri, 1000, .inl f_wri))]) [0, 1] rfl
    have hDc := hD.sub (ws' := [(h_mm, .inr (8, (mo118 v_mm (.ref h_wri) (.int x_mm_writes) (.int x_mm_room)))), (h_wri, .inl (cy_wri, 1000, .inl f_wri))]) [0, 1] (by decide) rfl
    have hKc := hK.sub (tys' := [(cy_wri, .int)]) [0] rfl
    have hFc := va_free (wc := [(h_mm, .inr (8, (mo118 v_mm (.ref h_wri) (.int x_mm_writes) (.int x_mm_room)))), (h_wri, .inl (cy_wri, 1000, .inl f_wri))]) hD hS hA [0, 1] rfl
    refine va_callv (va_runV (As := [.long z14]) (rest := []) ⟨hx, hb, hml, hown, hts⟩ (c_X11_saysName_8 l dC dI s.heap.size h_mm h_wri v_mm x_mm_writes x_mm_room cy_wri f_wri z14 (by first | exact hx_mm_writes | omega) (by first | exact hx_mm_room | omega) (by omega)) (cwV 1 hts (gv hT w_m_X11_455 w_instanceMethod_X11_saysName ws_sel_X11_saysName w_ini_X11 w_code_X11_saysName) rfl rfl rfl (by decide +kernel) ⟨(Nat.le_of_ble_eq_true rfl), (Nat.le_of_ble_eq_true rfl)⟩) ⟨pre_blind, va_recv hK hP (ci := 8) (q0 := 0) rfl rfl, pre_of hPc hKc hDc hN⟩ rfl rfl hl.1 rfl (lv_room (Nat.le_of_ble_eq_true rfl)) dX11_saysName_16 ⟨(Nat.le_of_ble_eq_true rfl), (Nat.le_of_ble_eq_true rfl)⟩) hS (fun q _ h => hFc q h) hFc (fun u t H locs ht hvm hq hB hz1 hk1 hS9 => ?_)
    obtain ⟨z16, f17⟩ := u
    obtain ⟨hP1, hD1⟩ := hB
    rw [ht] at hP1
    obtain ⟨hP9, hD9⟩ := va_join (wr := []) (w1 := [(h_mm, .inr (8, (mo118 v_mm (.ref h_wri) (.int z16) (.int x_mm_room)))), (h_wri, .inl (cy_wri, 1000, .inl f17))]) hP hD [0, 1] [] rfl rfl (by decide) (by decide) hk1 hFc hP1 hD1
    clear hP hD hS hPc hDc hKc hFc hP1 hD1 hk1 hz1 ht hvm
    have hP : va_P (dC, dI) cls [(h_mm, .inr (8, (mo118 v_mm (.ref h_wri) (.int z16) (.int x_mm_room)))), (h_wri, .inl (cy_wri, 1000, .inl f17))] H := hP9
    have hD : va_D A [(h_mm, .inr (8, (mo118 v_mm (.ref h_wri) (.int z16) (.int x_mm_room)))), (h_wri, .inl (cy_wri, 1000, .inl f17))] := hD9
    have hS := hS9
    clear hP9 hD9 hS9
    have k18 : 0 ≤ ((z16)).toInt ∧ ((z16)).toInt ≤ 1000 := hq
    clear hq
    refine lv_aload_n hx hb dX11_saysName_19 rfl (lv_at hl 0 rfl) ?_
    refine lv_bipush (v := 97) hx hb dX11_saysName_20 (by decide) ?_
    refine lv_lload_n hx hb dX11_saysName_22 rfl (lv_at hl 1 rfl) ?_
    refine lv_lconst (v := 1) hx hb dX11_saysName_23 (by decide) ?_
    refine lv_lsub hx hb dX11_saysName_24 ?_
    refine lv_topl (fun z19 ez19 => ?_)
    refine lv_ldc2 (v := 27) hx hb hown (hw _ w_cl_X11_93) dX11_saysName_25 ?_
    refine lv_lrem hx hb dX11_saysName_28 (by decide) ?_
    refine lv_topl (fun z20 ez20 => ?_)
    refine lv_l2i hx hb dX11_saysName_29 rfl ?_
    refine lv_topi (fun z21 ez21 => ?_)
    refine lv_iadd hx hb dX11_saysName_30 ?_
    refine lv_topi (fun z22 ez22 => ?_)
    have hPc := hP.sub (ws' := [(h_mm, .inr (8, (mo118 v_mm (.ref h_wri) (.int z16) (.int x_mm_room)))), (h_wri, .inl (cy_wri, 1000, .inl f17))]) [0, 1] rfl
    have hDc := hD.sub (ws' := [(h_mm, .inr (8, (mo118 v_mm (.ref h_wri) (.int z16) (.int x_mm_room)))), (h_wri, .inl (cy_wri, 1000, .inl f17))]) [0, 1] (by decide) rfl
    have hKc := hK.sub (tys' := [(cy_wri, .int)]) [0] rfl
    have hFc := va_free (wc := [(h_mm, .inr (8, (mo118 v_mm (.ref h_wri) (.int z16) (.int x_mm_room)))), (h_wri, .inl (cy_wri, 1000, .inl f17))]) hD hS hA [0, 1] rfl
    refine va_callv (va_runV (As := [.int z22]) (rest := []) ⟨hx, hb, hml, hown, hts⟩ (c_X11_says l dC dI H.size h_mm h_wri v_mm z16 x_mm_room cy_wri f17 z22 (by first | exact k18 | omega) (by first | exact hx_mm_room | omega)) (cwV 1 hts (gv hT w_m_X11_452 w_instanceMethod_X11_says ws_sel_X11_says w_ini_X11 w_code_X11_says) rfl rfl rfl (by decide +kernel) ⟨(Nat.le_of_ble_eq_true rfl), (Nat.le_of_ble_eq_true rfl)⟩) ⟨pre_blind, va_recv hK hP (ci := 8) (q0 := 0) rfl rfl, pre_of hPc hKc hDc hN⟩ rfl rfl hl.1 rfl (lv_room (Nat.le_of_ble_eq_true rfl)) dX11_saysName_31 ⟨(Nat.le_of_ble_eq_true rfl), (Nat.le_of_ble_eq_true rfl)⟩) hS (fun q _ h => hFc q h) hFc (fun u t H locs ht hvm hq hB hz1 hk1 hS9 => ?_)
    obtain ⟨z24, f25⟩ := u
    obtain ⟨hP1, hD1⟩ := hB
    rw [ht] at hP1
    obtain ⟨hP9, hD9⟩ := va_join (wr := []) (w1 := [(h_mm, .inr (8, (mo118 v_mm (.ref h_wri) (.int z24) (.int x_mm_room)))), (h_wri, .inl (cy_wri, 1000, .inl f25))]) hP hD [0, 1] [] rfl rfl (by decide) (by decide) hk1 hFc hP1 hD1
    clear hP hD hS hPc hDc hKc hFc hP1 hD1 hk1 hz1 ht hvm
    have hP : va_P (dC, dI) cls [(h_mm, .inr (8, (mo118 v_mm (.ref h_wri) (.int z24) (.int x_mm_room)))), (h_wri, .inl (cy_wri, 1000, .inl f25))] H := hP9
    have hD : va_D A [(h_mm, .inr (8, (mo118 v_mm (.ref h_wri) (.int z24) (.int x_mm_room)))), (h_wri, .inl (cy_wri, 1000, .inl f25))] := hD9
    have hS := hS9
    clear hP9 hD9 hS9
    obtain ⟨k26, k27⟩ := hq
    replace k26 : 0 ≤ ((z24)).toInt ∧ ((z24)).toInt ≤ 1000 := k26
    replace k27 : ((z16)).toInt ≤ ((z24)).toInt := k27
    refine W.widen (k := 0) (n := 0) (Nat.le_of_ble_eq_true rfl) (Nat.le_of_ble_eq_true rfl) ?_
    have w28 : 0 ≤ ((z24)).toInt ∧ ((z24)).toInt ≤ 1000 := by first | exact k26 | omega
    exact W.vret hx hb hr (fun t ht hW => ⟨⟨(z24, f25), rfl, w28, by rw [ht]; exact hP, hD⟩, hS.F ht⟩) hS.2.2 dX11_saysName_34

set_option maxHeartbeats 8000000 in
set_option maxRecDepth 100000 in
theorem c_X11_saysName_10 (l : Launch) (dC : Nat → ClassId) (dI : Nat → Nat → Nat) (sz : Nat) (h_mm : Nat) (h_wri : Nat) (v_mm : Nat → Value) (x_mm_writes : Int32) (x_mm_room : Int32) (cy_wri : ClassId) (f_wri : Nat → Int32) (p1 : Int64) (hx_mm_writes : 0 ≤ (x_mm_writes).toInt ∧ (x_mm_writes).toInt ≤ 1000) (hx_mm_room : 0 ≤ (x_mm_room).toInt ∧ (x_mm_room).toInt ≤ 998) (q0 : (p1).toInt ≤ 5772870588346119) : Met l yX11_saysName (Ws yX11_saysName cX11_saysName 3 none) (({ frames := 11, cells := 0, slots := 0, locals := 241 } : Room)) (PRE (dC, dI) cls [(cy_wri, .int)] [(h_mm, .inr (8, (mo118 v_mm (.ref h_wri) (.int x_mm_writes) (.int x_mm_room)))), (h_wri, .inl (cy_wri, 1000, .inl f_wri))] sz [.ref h_mm, .long p1]) (va_Qv (fun (u : (Int32) × (Nat → Int32)) => (0 ≤ (u.1).toInt ∧ (u.1).toInt ≤ 1000)) (fun (u : (Int32) × (Nat → Int32)) (t : State) => va_P (dC, dI) cls [(h_mm, .inr (8, (mo118 v_mm (.ref h_wri) (.int u.1) (.int x_mm_room)))), (h_wri, .inl (cy_wri, 1000, .inl u.2))] t.heap ∧ va_D (va_A [(h_mm, .inr (8, (mo118 v_mm (.ref h_wri) (.int x_mm_writes) (.int x_mm_room)))), (h_wri, .inl (cy_wri, 1000, .inl f_wri))] sz) [(h_mm, .inr (8, (mo118 v_mm (.ref h_wri) (.int u.1) (.int x_mm_room)))), (h_wri, .inl (cy_wri, 1000, .inl u.2))]) (va_A [(h_mm, .inr (8, (mo118 v_mm (.ref h_wri) (.int x_mm_writes) (.int x_mm_room)))), (h_wri, .inl (cy_wri, 1000, .inl f_wri))] sz)) 0 0 (va_A [(h_mm, .inr (8, (mo118 v_mm (.ref h_wri) (.int x_mm_writes) (.int x_mm_room)))), (h_wri, .inl (cy_wri, 1000, .inl f_wri))] sz) := by
  refine Met.ofW (cc := cX11_saysName) (maxL := 3) (ret := none) (by decide) rfl ?_
  intro p e s m args below meth c s₁ B hml hv
  obtain ⟨rfl, hsz, hP, hK, hD0, hN⟩ := hv
  have hx := B.exec
  have hb := B.bytes
  have hr := B.returns
  have hts := atoms_spec (ws := Ws yX11_saysName cX11_saysName 3 none) B.pre
  have hT : ∀ w ∈ WALL, w ∈ Ws yX11_saysName cX11_saysName 3 none := fun w h => List.mem_cons_of_mem _ h
  have hw := fun w (h : w ∈ WALL) => hts w (hT w h)
  have hown : s.vm.findClass RX11 = some m.cls := findClass_of_methodNamed B.named
  have hlocks := B.notSynchronized
  subst hsz
  have hD := hD0.self (sz := s.heap.size)
  generalize hAe : va_A [(h_mm, .inr (8, (mo118 v_mm (.ref h_wri) (.int x_mm_writes) (.int x_mm_room)))), (h_wri, .inl (cy_wri, 1000, .inl f_wri))] s.heap.size = A at hD ⊢
  have hA : ∀ q : Nat, s.heap.size ≤ q → A q := fun q h => by rw [← hAe]; exact Or.inr h
  have hS : va_S A s.heap s.heap [] := va_S.rf
  have hl := lv_entry ([.ref h_mm, .long p1]) (n := 3) (Nat.le_of_ble_eq_true rfl)
  rw [lg_entry_eq]
  generalize (lg_sl ([.ref h_mm, .long p1]) ++ List.replicate (3 - (lg_sl ([.ref h_mm, .long p1])).length) Slot.unset).toArray = ls at hl ⊢
  have hl : lv_has ls 3 [(0, .ref h_mm), (1, .long p1)] := hl
  refine lv_lload_n hx hb dX11_saysName_0 rfl (lv_at hl 1 rfl) ?_
  refine lv_ldc2 (v := 27) hx hb hown (hw _ w_cl_X11_93) dX11_saysName_1 ?_
  refine W.lcmp hx hb dX11_saysName_4 ?_
  refine lv_topi (fun z1 ez1 => ?_)
  have gz1 := lgc p1 27
  rw [← ez1] at gz1
  have : (27 : Int64).toInt = 27 := by decide
  refine lv_if_le (tgt := 19) hx hb dX11_saysName_5 (by decide) (fun c2 => ?_) (fun c2 => ?_)
  · have kc2 := (cv_le (rfl : (z1).toInt = (z1).toInt) (by decide : (0 : Int32).toInt = 0)).mp c2
    refine lv_aload_n hx hb dX11_saysName_19 rfl (lv_at hl 0 rfl) ?_
    refine lv_bipush (v := 97) hx hb dX11_saysName_20 (by decide) ?_
    refine lv_lload_n hx hb dX11_saysName_22 rfl (lv_at hl 1 rfl) ?_
    refine lv_lconst (v := 1) hx hb dX11_saysName_23 (by decide) ?_
    refine lv_lsub hx hb dX11_saysName_24 ?_
    refine lv_topl (fun z3 ez3 => ?_)
    refine lv_ldc2 (v := 27) hx hb hown (hw _ w_cl_X11_93) dX11_saysName_25 ?_
    refine lv_lrem hx hb dX11_saysName_28 (by decide) ?_
    refine lv_topl (fun z4 ez4 => ?_)
    refine lv_l2i hx hb dX11_saysName_29 rfl ?_
    refine lv_topi (fun z5 ez5 => ?_)
    refine lv_iadd hx hb dX11_saysName_30 ?_
    refine lv_topi (fun z6 ez6 => ?_)
    have hPc := hP.sub (ws' := [(h_mm, .inr (8, (mo118 v_mm (.ref h_wri) (.int x_mm_writes) (.int x_mm_room)))), (h_wri, .inl (cy_wri, 1000, .inl f_wri))]) [0, 1] rfl
    have hDc := hD.sub (ws' := [(h_mm, .inr (8, (mo118 v_mm (.ref h_wri) (.int x_mm_writes) (.int x_mm_room)))), (h_wri, .inl (cy_wri, 1000, .inl f_wri))]) [0, 1] (by decide) rfl
    have hKc := hK.sub (tys' := [(cy_wri, .int)]) [0] rfl
    have hFc := va_free (wc := [(h_mm, .inr (8, (mo118 v_mm (.ref h_wri) (.int x_mm_writes) (.int x_mm_room)))), (h_wri, .inl (cy_wri, 1000, .inl f_wri))]) hD hS hA [0, 1] rfl
    refine va_callv (va_runV (As := [.int z6]) (rest := []) ⟨hx, hb, hml, hown, hts⟩ (c_X11_says l dC dI s.heap.size h_mm h_wri v_mm x_mm_writes x_mm_room cy_wri f_wri z6 (by first | exact hx_mm_writes | omega) (by first | exact hx_mm_room | omega)) (cwV 1 hts (gv hT w_m_X11_452 w_instanceMethod_X11_says ws_sel_X11_says w_ini_X11 w_code_X11_says) rfl rfl rfl (by decide +kernel) ⟨(Nat.le_of_ble_eq_true rfl), (Nat.le_of_ble_eq_true rfl)⟩) ⟨pre_blind, va_recv hK hP (ci := 8) (q0 := 0) rfl rfl, pre_of hPc hKc hDc hN⟩ rfl rfl hl.1 rfl (lv_room (Nat.le_of_ble_eq_true rfl)) dX11_saysName_31 ⟨(Nat.le_of_ble_eq_true rfl), (Nat.le_of_ble_eq_true rfl)⟩) hS (fun q _ h => hFc q h) hFc (fun u t H locs ht hvm hq hB hz1 hk1 hS9 => ?_)
    obtain ⟨z8, f9⟩ := u
    obtain ⟨hP1, hD1⟩ := hB
    rw [ht] at hP1
    obtain ⟨hP9, hD9⟩ := va_join (wr := []) (w1 := [(h_mm, .inr (8, (mo118 v_mm (.ref h_wri) (.int z8) (.int x_mm_room)))), (h_wri, .inl (cy_wri, 1000, .inl f9))]) hP hD [0, 1] [] rfl rfl (by decide) (by decide) hk1 hFc hP1 hD1
    clear hP hD hS hPc hDc hKc hFc hP1 hD1 hk1 hz1 ht hvm
    have hP : va_P (dC, dI) cls [(h_mm, .inr (8, (mo118 v_mm (.ref h_wri) (.int z8) (.int x_mm_room)))), (h_wri, .inl (cy_wri, 1000, .inl f9))] H := hP9
    have hD : va_D A [(h_mm, .inr (8, (mo118 v_mm (.ref h_wri) (.int z8) (.int x_mm_room)))), (h_wri, .inl (cy_wri, 1000, .inl f9))] := hD9
    have hS := hS9
    clear hP9 hD9 hS9
    obtain ⟨k10, k11⟩ := hq
    replace k10 : 0 ≤ ((z8)).toInt ∧ ((z8)).toInt ≤ 1000 := k10
    replace k11 : ((x_mm_writes)).toInt ≤ ((z8)).toInt := k11
    refine W.widen (k := 0) (n := 0) (Nat.le_of_ble_eq_true rfl) (Nat.le_of_ble_eq_true rfl) ?_
    have w12 : 0 ≤ ((z8)).toInt ∧ ((z8)).toInt ≤ 1000 := by first | exact k10 | omega
    exact W.vret hx hb hr (fun t ht hW => ⟨⟨(z8, f9), rfl, w12, by rw [ht]; exact hP, hD⟩, hS.F ht⟩) hS.2.2 dX11_saysName_34
  · have kc2 := (not_congr (cv_le (rfl : (z1).toInt = (z1).toInt) (by decide : (0 : Int32).toInt = 0))).mp c2
    have bd9 := l_bd p1
    refine lv_aload_n hx hb dX11_saysName_8 rfl (lv_at hl 0 rfl) ?_
    refine lv_lload_n hx hb dX11_saysName_9 rfl (lv_at hl 1 rfl) ?_
    refine lv_lconst (v := 1) hx hb dX11_saysName_10 (by decide) ?_
    refine lv_lsub hx hb dX11_saysName_11 ?_
    refine lv_topl (fun z13 ez13 => ?_)
    have tz13 : (z13).toInt = (p1).toInt - 1 := by rw [ez13]; exact l_sub rfl (by decide) (by omega)
    refine lv_ldc2 (v := 27) hx hb hown (hw _ w_cl_X11_93) dX11_saysName_12 ?_
    refine lv_ldiv hx hb dX11_saysName_15 (by decide) ?_
    refine lv_topl (fun z14 ez14 => ?_)
    have tz14 : 0 ≤ (z13).toInt → (z14).toInt = (z13).toInt / 27 := fun h9 => by rw [ez14]; exact l_div rfl (by decide) (by omega)
    have hPc := hP.sub (ws' := [(h_mm, .inr (8, (mo118 v_mm (.ref h_wri) (.int x_mm_writes) (.int x_mm_room)))), (h_wri, .inl (cy_wri, 1000, .inl f_wri))]) [0, 1] rfl
    have hDc := hD.sub (ws' := [(h_mm, .inr (8, (mo118 v_mm (.ref h_wri) (.int x_mm_writes) (.int x_mm_room)))), (h_wri, .inl (cy_wri, 1000, .inl f_wri))]) [0, 1] (by decide) rfl
    have hKc := hK.sub (tys' := [(cy_wri, .int)]) [0] rfl
    have hFc := va_free (wc := [(h_mm, .inr (8, (mo118 v_mm (.ref h_wri) (.int x_mm_writes) (.int x_mm_room)))), (h_wri, .inl (cy_wri, 1000, .inl f_wri))]) hD hS hA [0, 1] rfl
    refine va_callv (va_runV (As := [.long z14]) (rest := []) ⟨hx, hb, hml, hown, hts⟩ (c_X11_saysName_9 l dC dI s.heap.size h_mm h_wri v_mm x_mm_writes x_mm_room cy_wri f_wri z14 (by first | exact hx_mm_writes | omega) (by first | exact hx_mm_room | omega) (by omega)) (cwV 1 hts (gv hT w_m_X11_455 w_instanceMethod_X11_saysName ws_sel_X11_saysName w_ini_X11 w_code_X11_saysName) rfl rfl rfl (by decide +kernel) ⟨(Nat.le_of_ble_eq_true rfl), (Nat.le_of_ble_eq_true rfl)⟩) ⟨pre_blind, va_recv hK hP (ci := 8) (q0 := 0) rfl rfl, pre_of hPc hKc hDc hN⟩ rfl rfl hl.1 rfl (lv_room (Nat.le_of_ble_eq_true rfl)) dX11_saysName_16 ⟨(Nat.le_of_ble_eq_true rfl), (Nat.le_of_ble_eq_true rfl)⟩) hS (fun q _ h => hFc q h) hFc (fun u t H locs ht hvm hq hB hz1 hk1 hS9 => ?_)
    obtain ⟨z16, f17⟩ := u
    obtain ⟨hP1, hD1⟩ := hB
    rw [ht] at hP1
    obtain ⟨hP9, hD9⟩ := va_join (wr := []) (w1 := [(h_mm, .inr (8, (mo118 v_mm (.ref h_wri) (.int z16) (.int x_mm_room)))), (h_wri, .inl (cy_wri, 1000, .inl f17))]) hP hD [0, 1] [] rfl rfl (by decide) (by decide) hk1 hFc hP1 hD1
    clear hP hD hS hPc hDc hKc hFc hP1 hD1 hk1 hz1 ht hvm
    have hP : va_P (dC, dI) cls [(h_mm, .inr (8, (mo118 v_mm (.ref h_wri) (.int z16) (.int x_mm_room)))), (h_wri, .inl (cy_wri, 1000, .inl f17))] H := hP9
    have hD : va_D A [(h_mm, .inr (8, (mo118 v_mm (.ref h_wri) (.int z16) (.int x_mm_room)))), (h_wri, .inl (cy_wri, 1000, .inl f17))] := hD9
    have hS := hS9
    clear hP9 hD9 hS9
    have k18 : 0 ≤ ((z16)).toInt ∧ ((z16)).toInt ≤ 1000 := hq
    clear hq
    refine lv_aload_n hx hb dX11_saysName_19 rfl (lv_at hl 0 rfl) ?_
    refine lv_bipush (v := 97) hx hb dX11_saysName_20 (by decide) ?_
    refine lv_lload_n hx hb dX11_saysName_22 rfl (lv_at hl 1 rfl) ?_
    refine lv_lconst (v := 1) hx hb dX11_saysName_23 (by decide) ?_
    refine lv_lsub hx hb dX11_saysName_24 ?_
    refine lv_topl (fun z19 ez19 => ?_)
    refine lv_ldc2 (v := 27) hx hb hown (hw _ w_cl_X11_93) dX11_saysName_25 ?_
    refine lv_lrem hx hb dX11_saysName_28 (by decide) ?_
    refine lv_topl (fun z20 ez20 => ?_)
    refine lv_l2i hx hb dX11_saysName_29 rfl ?_
    refine lv_topi (fun z21 ez21 => ?_)
    refine lv_iadd hx hb dX11_saysName_30 ?_
    refine lv_topi (fun z22 ez22 => ?_)
    have hPc := hP.sub (ws' := [(h_mm, .inr (8, (mo118 v_mm (.ref h_wri) (.int z16) (.int x_mm_room)))), (h_wri, .inl (cy_wri, 1000, .inl f17))]) [0, 1] rfl
    have hDc := hD.sub (ws' := [(h_mm, .inr (8, (mo118 v_mm (.ref h_wri) (.int z16) (.int x_mm_room)))), (h_wri, .inl (cy_wri, 1000, .inl f17))]) [0, 1] (by decide) rfl
    have hKc := hK.sub (tys' := [(cy_wri, .int)]) [0] rfl
    have hFc := va_free (wc := [(h_mm, .inr (8, (mo118 v_mm (.ref h_wri) (.int z16) (.int x_mm_room)))), (h_wri, .inl (cy_wri, 1000, .inl f17))]) hD hS hA [0, 1] rfl
    refine va_callv (va_runV (As := [.int z22]) (rest := []) ⟨hx, hb, hml, hown, hts⟩ (c_X11_says l dC dI H.size h_mm h_wri v_mm z16 x_mm_room cy_wri f17 z22 (by first | exact k18 | omega) (by first | exact hx_mm_room | omega)) (cwV 1 hts (gv hT w_m_X11_452 w_instanceMethod_X11_says ws_sel_X11_says w_ini_X11 w_code_X11_says) rfl rfl rfl (by decide +kernel) ⟨(Nat.le_of_ble_eq_true rfl), (Nat.le_of_ble_eq_true rfl)⟩) ⟨pre_blind, va_recv hK hP (ci := 8) (q0 := 0) rfl rfl, pre_of hPc hKc hDc hN⟩ rfl rfl hl.1 rfl (lv_room (Nat.le_of_ble_eq_true rfl)) dX11_saysName_31 ⟨(Nat.le_of_ble_eq_true rfl), (Nat.le_of_ble_eq_true rfl)⟩) hS (fun q _ h => hFc q h) hFc (fun u t H locs ht hvm hq hB hz1 hk1 hS9 => ?_)
    obtain ⟨z24, f25⟩ := u
    obtain ⟨hP1, hD1⟩ := hB
    rw [ht] at hP1
    obtain ⟨hP9, hD9⟩ := va_join (wr := []) (w1 := [(h_mm, .inr (8, (mo118 v_mm (.ref h_wri) (.int z24) (.int x_mm_room)))), (h_wri, .inl (cy_wri, 1000, .inl f25))]) hP hD [0, 1] [] rfl rfl (by decide) (by decide) hk1 hFc hP1 hD1
    clear hP hD hS hPc hDc hKc hFc hP1 hD1 hk1 hz1 ht hvm
    have hP : va_P (dC, dI) cls [(h_mm, .inr (8, (mo118 v_mm (.ref h_wri) (.int z24) (.int x_mm_room)))), (h_wri, .inl (cy_wri, 1000, .inl f25))] H := hP9
    have hD : va_D A [(h_mm, .inr (8, (mo118 v_mm (.ref h_wri) (.int z24) (.int x_mm_room)))), (h_wri, .inl (cy_wri, 1000, .inl f25))] := hD9
    have hS := hS9
    clear hP9 hD9 hS9
    obtain ⟨k26, k27⟩ := hq
    replace k26 : 0 ≤ ((z24)).toInt ∧ ((z24)).toInt ≤ 1000 := k26
    replace k27 : ((z16)).toInt ≤ ((z24)).toInt := k27
    refine W.widen (k := 0) (n := 0) (Nat.le_of_ble_eq_true rfl) (Nat.le_of_ble_eq_true rfl) ?_
    have w28 : 0 ≤ ((z24)).toInt ∧ ((z24)).toInt ≤ 1000 := by first | exact k26 | omega
    exact W.vret hx hb hr (fun t ht hW => ⟨⟨(z24, f25), rfl, w28, by rw [ht]; exact hP, hD⟩, hS.F ht⟩) hS.2.2 dX11_saysName_34

set_option maxHeartbeats 8000000 in
set_option maxRecDepth 100000 in
theorem c_X11_saysName_11 (l : Launch) (dC : Nat → ClassId) (dI : Nat → Nat → Nat) (sz : Nat) (h_mm : Nat) (h_wri : Nat) (v_mm : Nat → Value) (x_mm_writes : Int32) (x_mm_room : Int32) (cy_wri : ClassId) (f_wri : Nat → Int32) (p1 : Int64) (hx_mm_writes : 0 ≤ (x_mm_writes).toInt ∧ (x_mm_writes).toInt ≤ 1000) (hx_mm_room : 0 ≤ (x_mm_room).toInt ∧ (x_mm_room).toInt ≤ 998) (q0 : (p1).toInt ≤ 155867505885345240) : Met l yX11_saysName (Ws yX11_saysName cX11_saysName 3 none) (({ frames := 12, cells := 0, slots := 0, locals := 263 } : Room)) (PRE (dC, dI) cls [(cy_wri, .int)] [(h_mm, .inr (8, (mo118 v_mm (.ref h_wri) (.int x_mm_writes) (.int x_mm_room)))), (h_wri, .inl (cy_wri, 1000, .inl f_wri))] sz [.ref h_mm, .long p1]) (va_Qv (fun (u : (Int32) × (Nat → Int32)) => (0 ≤ (u.1).toInt ∧ (u.1).toInt ≤ 1000)) (fun (u : (Int32) × (Nat → Int32)) (t : State) => va_P (dC, dI) cls [(h_mm, .inr (8, (mo118 v_mm (.ref h_wri) (.int u.1) (.int x_mm_room)))), (h_wri, .inl (cy_wri, 1000, .inl u.2))] t.heap ∧ va_D (va_A [(h_mm, .inr (8, (mo118 v_mm (.ref h_wri) (.int x_mm_writes) (.int x_mm_room)))), (h_wri, .inl (cy_wri, 1000, .inl f_wri))] sz) [(h_mm, .inr (8, (mo118 v_mm (.ref h_wri) (.int u.1) (.int x_mm_room)))), (h_wri, .inl (cy_wri, 1000, .inl u.2))]) (va_A [(h_mm, .inr (8, (mo118 v_mm (.ref h_wri) (.int x_mm_writes) (.int x_mm_room)))), (h_wri, .inl (cy_wri, 1000, .inl f_wri))] sz)) 0 0 (va_A [(h_mm, .inr (8, (mo118 v_mm (.ref h_wri) (.int x_mm_writes) (.int x_mm_room)))), (h_wri, .inl (cy_wri, 1000, .inl f_wri))] sz) := by
  refine Met.ofW (cc := cX11_saysName) (maxL := 3) (ret := none) (by decide) rfl ?_
  intro p e s m args below meth c s₁ B hml hv
  obtain ⟨rfl, hsz, hP, hK, hD0, hN⟩ := hv
  have hx := B.exec
  have hb := B.bytes
  have hr := B.returns
  have hts := atoms_spec (ws := Ws yX11_saysName cX11_saysName 3 none) B.pre
  have hT : ∀ w ∈ WALL, w ∈ Ws yX11_saysName cX11_saysName 3 none := fun w h => List.mem_cons_of_mem _ h
  have hw := fun w (h : w ∈ WALL) => hts w (hT w h)
  have hown : s.vm.findClass RX11 = some m.cls := findClass_of_methodNamed B.named
  have hlocks := B.notSynchronized
  subst hsz
  have hD := hD0.self (sz := s.heap.size)
  generalize hAe : va_A [(h_mm, .inr (8, (mo118 v_mm (.ref h_wri) (.int x_mm_writes) (.int x_mm_room)))), (h_wri, .inl (cy_wri, 1000, .inl f_wri))] s.heap.size = A at hD ⊢
  have hA : ∀ q : Nat, s.heap.size ≤ q → A q := fun q h => by rw [← hAe]; exact Or.inr h
  have hS : va_S A s.heap s.heap [] := va_S.rf
  have hl := lv_entry ([.ref h_mm, .long p1]) (n := 3) (Nat.le_of_ble_eq_true rfl)
  rw [lg_entry_eq]
  generalize (lg_sl ([.ref h_mm, .long p1]) ++ List.replicate (3 - (lg_sl ([.ref h_mm, .long p1])).length) Slot.unset).toArray = ls at hl ⊢
  have hl : lv_has ls 3 [(0, .ref h_mm), (1, .long p1)] := hl
  refine lv_lload_n hx hb dX11_saysName_0 rfl (lv_at hl 1 rfl) ?_
  refine lv_ldc2 (v := 27) hx hb hown (hw _ w_cl_X11_93) dX11_saysName_1 ?_
  refine W.lcmp hx hb dX11_saysName_4 ?_
  refine lv_topi (fun z1 ez1 => ?_)
  have gz1 := lgc p1 27
  rw [← ez1] at gz1
  have : (27 : Int64).toInt = 27 := by decide
  refine lv_if_le (tgt := 19) hx hb dX11_saysName_5 (by decide) (fun c2 => ?_) (fun c2 => ?_)
  · have kc2 := (cv_le (rfl : (z1).toInt = (z1).toInt) (by decide : (0 : Int32).toInt = 0)).mp c2
    refine lv_aload_n hx hb dX11_saysName_19 rfl (lv_at hl 0 rfl) ?_
    refine lv_bipush (v := 97) hx hb dX11_saysName_20 (by decide) ?_
    refine lv_lload_n hx hb dX11_saysName_22 rfl (lv_at hl 1 rfl) ?_
    refine lv_lconst (v := 1) hx hb dX11_saysName_23 (by decide) ?_
    refine lv_lsub hx hb dX11_saysName_24 ?_
    refine lv_topl (fun z3 ez3 => ?_)
    refine lv_ldc2 (v := 27) hx hb hown (hw _ w_cl_X11_93) dX11_saysName_25 ?_
    refine lv_lrem hx hb dX11_saysName_28 (by decide) ?_
    refine lv_topl (fun z4 ez4 => ?_)
    refine lv_l2i hx hb dX11_saysName_29 rfl ?_
    refine lv_topi (fun z5 ez5 => ?_)
    refine lv_iadd hx hb dX11_saysName_30 ?_
    refine lv_topi (fun z6 ez6 => ?_)
    have hPc := hP.sub (ws' := [(h_mm, .inr (8, (mo118 v_mm (.ref h_wri) (.int x_mm_writes) (.int x_mm_room)))), (h_wri, .inl (cy_wri, 1000, .inl f_wri))]) [0, 1] rfl
    have hDc := hD.sub (ws' := [(h_mm, .inr (8, (mo118 v_mm (.ref h_wri) (.int x_mm_writes) (.int x_mm_room)))), (h_wri, .inl (cy_wri, 1000, .inl f_wri))]) [0, 1] (by decide) rfl
    have hKc := hK.sub (tys' := [(cy_wri, .int)]) [0] rfl
    have hFc := va_free (wc := [(h_mm, .inr (8, (mo118 v_mm (.ref h_wri) (.int x_mm_writes) (.int x_mm_room)))), (h_wri, .inl (cy_wri, 1000, .inl f_wri))]) hD hS hA [0, 1] rfl
    refine va_callv (va_runV (As := [.int z6]) (rest := []) ⟨hx, hb, hml, hown, hts⟩ (c_X11_says l dC dI s.heap.size h_mm h_wri v_mm x_mm_writes x_mm_room cy_wri f_wri z6 (by first | exact hx_mm_writes | omega) (by first | exact hx_mm_room | omega)) (cwV 1 hts (gv hT w_m_X11_452 w_instanceMethod_X11_says ws_sel_X11_says w_ini_X11 w_code_X11_says) rfl rfl rfl (by decide +kernel) ⟨(Nat.le_of_ble_eq_true rfl), (Nat.le_of_ble_eq_true rfl)⟩) ⟨pre_blind, va_recv hK hP (ci := 8) (q0 := 0) rfl rfl, pre_of hPc hKc hDc hN⟩ rfl rfl hl.1 rfl (lv_room (Nat.le_of_ble_eq_true rfl)) dX11_saysName_31 ⟨(Nat.le_of_ble_eq_true rfl), (Nat.le_of_ble_eq_true rfl)⟩) hS (fun q _ h => hFc q h) hFc (fun u t H locs ht hvm hq hB hz1 hk1 hS9 => ?_)
    obtain ⟨z8, f9⟩ := u
    obtain ⟨hP1, hD1⟩ := hB
    rw [ht] at hP1
    obtain ⟨hP9, hD9⟩ := va_join (wr := []) (w1 := [(h_mm, .inr (8, (mo118 v_mm (.ref h_wri) (.int z8) (.int x_mm_room)))), (h_wri, .inl (cy_wri, 1000, .inl f9))]) hP hD [0, 1] [] rfl rfl (by decide) (by decide) hk1 hFc hP1 hD1
    clear hP hD hS hPc hDc hKc hFc hP1 hD1 hk1 hz1 ht hvm
    have hP : va_P (dC, dI) cls [(h_mm, .inr (8, (mo118 v_mm (.ref h_wri) (.int z8) (.int x_mm_room)))), (h_wri, .inl (cy_wri, 1000, .inl f9))] H := hP9
    have hD : va_D A [(h_mm, .inr (8, (mo118 v_mm (.ref h_wri) (.int z8) (.int x_mm_room)))), (h_wri, .inl (cy_wri, 1000, .inl f9))] := hD9
    have hS := hS9
    clear hP9 hD9 hS9
    obtain ⟨k10, k11⟩ := hq
    replace k10 : 0 ≤ ((z8)).toInt ∧ ((z8)).toInt ≤ 1000 := k10
    replace k11 : ((x_mm_writes)).toInt ≤ ((z8)).toInt := k11
    refine W.widen (k := 0) (n := 0) (Nat.le_of_ble_eq_true rfl) (Nat.le_of_ble_eq_true rfl) ?_
    have w12 : 0 ≤ ((z8)).toInt ∧ ((z8)).toInt ≤ 1000 := by first | exact k10 | omega
    exact W.vret hx hb hr (fun t ht hW => ⟨⟨(z8, f9), rfl, w12, by rw [ht]; exact hP, hD⟩, hS.F ht⟩) hS.2.2 dX11_saysName_34
  · have kc2 := (not_congr (cv_le (rfl : (z1).toInt = (z1).toInt) (by decide : (0 : Int32).toInt = 0))).mp c2
    have bd9 := l_bd p1
    refine lv_aload_n hx hb dX11_saysName_8 rfl (lv_at hl 0 rfl) ?_
    refine lv_lload_n hx hb dX11_saysName_9 rfl (lv_at hl 1 rfl) ?_
    refine lv_lconst (v := 1) hx hb dX11_saysName_10 (by decide) ?_
    refine lv_lsub hx hb dX11_saysName_11 ?_
    refine lv_topl (fun z13 ez13 => ?_)
    have tz13 : (z13).toInt = (p1).toInt - 1 := by rw [ez13]; exact l_sub rfl (by decide) (by omega)
    refine lv_ldc2 (v := 27) hx hb hown (hw _ w_cl_X11_93) dX11_saysName_12 ?_
    refine lv_ldiv hx hb dX11_saysName_15 (by decide) ?_
    refine lv_topl (fun z14 ez14 => ?_)
    have tz14 : 0 ≤ (z13).toInt → (z14).toInt = (z13).toInt / 27 := fun h9 => by rw [ez14]; exact l_div rfl (by decide) (by omega)
    have hPc := hP.sub (ws' := [(h_mm, .inr (8, (mo118 v_mm (.ref h_wri) (.int x_mm_writes) (.int x_mm_room)))), (h_wri, .inl (cy_wri, 1000, .inl f_wri))]) [0, 1] rfl
    have hDc := hD.sub (ws' := [(h_mm, .inr (8, (mo118 v_mm (.ref h_wri) (.int x_mm_writes) (.int x_mm_room)))), (h_wri, .inl (cy_wri, 1000, .inl f_wri))]) [0, 1] (by decide) rfl
    have hKc := hK.sub (tys' := [(cy_wri, .int)]) [0] rfl
    have hFc := va_free (wc := [(h_mm, .inr (8, (mo118 v_mm (.ref h_wri) (.int x_mm_writes) (.int x_mm_room)))), (h_wri, .inl (cy_wri, 1000, .inl f_wri))]) hD hS hA [0, 1] rfl
    refine va_callv (va_runV (As := [.long z14]) (rest := []) ⟨hx, hb, hml, hown, hts⟩ (c_X11_saysName_10 l dC dI s.heap.size h_mm h_wri v_mm x_mm_writes x_mm_room cy_wri f_wri z14 (by first | exact hx_mm_writes | omega) (by first | exact hx_mm_room | omega) (by omega)) (cwV 1 hts (gv hT w_m_X11_455 w_instanceMethod_X11_saysName ws_sel_X11_saysName w_ini_X11 w_code_X11_saysName) rfl rfl rfl (by decide +kernel) ⟨(Nat.le_of_ble_eq_true rfl), (Nat.le_of_ble_eq_true rfl)⟩) ⟨pre_blind, va_recv hK hP (ci := 8) (q0 := 0) rfl rfl, pre_of hPc hKc hDc hN⟩ rfl rfl hl.1 rfl (lv_room (Nat.le_of_ble_eq_true rfl)) dX11_saysName_16 ⟨(Nat.le_of_ble_eq_true rfl), (Nat.le_of_ble_eq_true rfl)⟩) hS (fun q _ h => hFc q h) hFc (fun u t H locs ht hvm hq hB hz1 hk1 hS9 => ?_)
    obtain ⟨z16, f17⟩ := u
    obtain ⟨hP1, hD1⟩ := hB
    rw [ht] at hP1
    obtain ⟨hP9, hD9⟩ := va_join (wr := []) (w1 := [(h_mm, .inr (8, (mo118 v_mm (.ref h_wri) (.int z16) (.int x_mm_room)))), (h_wri, .inl (cy_wri, 1000, .inl f17))]) hP hD [0, 1] [] rfl rfl (by decide) (by decide) hk1 hFc hP1 hD1
    clear hP hD hS hPc hDc hKc hFc hP1 hD1 hk1 hz1 ht hvm
    have hP : va_P (dC, dI) cls [(h_mm, .inr (8, (mo118 v_mm (.ref h_wri) (.int z16) (.int x_mm_room)))), (h_wri, .inl (cy_wri, 1000, .inl f17))] H := hP9
    have hD : va_D A [(h_mm, .inr (8, (mo118 v_mm (.ref h_wri) (.int z16) (.int x_mm_room)))), (h_wri, .inl (cy_wri, 1000, .inl f17))] := hD9
    have hS := hS9
    clear hP9 hD9 hS9
    have k18 : 0 ≤ ((z16)).toInt ∧ ((z16)).toInt ≤ 1000 := hq
    clear hq
    refine lv_aload_n hx hb dX11_saysName_19 rfl (lv_at hl 0 rfl) ?_
    refine lv_bipush (v := 97) hx hb dX11_saysName_20 (by decide) ?_
    refine lv_lload_n hx hb dX11_saysName_22 rfl (lv_at hl 1 rfl) ?_
    refine lv_lconst (v := 1) hx hb dX11_saysName_23 (by decide) ?_
    refine lv_lsub hx hb dX11_saysName_24 ?_
    refine lv_topl (fun z19 ez19 => ?_)
    refine lv_ldc2 (v := 27) hx hb hown (hw _ w_cl_X11_93) dX11_saysName_25 ?_
    refine lv_lrem hx hb dX11_saysName_28 (by decide) ?_
    refine lv_topl (fun z20 ez20 => ?_)
    refine lv_l2i hx hb dX11_saysName_29 rfl ?_
    refine lv_topi (fun z21 ez21 => ?_)
    refine lv_iadd hx hb dX11_saysName_30 ?_
    refine lv_topi (fun z22 ez22 => ?_)
    have hPc := hP.sub (ws' := [(h_mm, .inr (8, (mo118 v_mm (.ref h_wri) (.int z16) (.int x_mm_room)))), (h_wri, .inl (cy_wri, 1000, .inl f17))]) [0, 1] rfl
    have hDc := hD.sub (ws' := [(h_mm, .inr (8, (mo118 v_mm (.ref h_wri) (.int z16) (.int x_mm_room)))), (h_wri, .inl (cy_wri, 1000, .inl f17))]) [0, 1] (by decide) rfl
    have hKc := hK.sub (tys' := [(cy_wri, .int)]) [0] rfl
    have hFc := va_free (wc := [(h_mm, .inr (8, (mo118 v_mm (.ref h_wri) (.int z16) (.int x_mm_room)))), (h_wri, .inl (cy_wri, 1000, .inl f17))]) hD hS hA [0, 1] rfl
    refine va_callv (va_runV (As := [.int z22]) (rest := []) ⟨hx, hb, hml, hown, hts⟩ (c_X11_says l dC dI H.size h_mm h_wri v_mm z16 x_mm_room cy_wri f17 z22 (by first | exact k18 | omega) (by first | exact hx_mm_room | omega)) (cwV 1 hts (gv hT w_m_X11_452 w_instanceMethod_X11_says ws_sel_X11_says w_ini_X11 w_code_X11_says) rfl rfl rfl (by decide +kernel) ⟨(Nat.le_of_ble_eq_true rfl), (Nat.le_of_ble_eq_true rfl)⟩) ⟨pre_blind, va_recv hK hP (ci := 8) (q0 := 0) rfl rfl, pre_of hPc hKc hDc hN⟩ rfl rfl hl.1 rfl (lv_room (Nat.le_of_ble_eq_true rfl)) dX11_saysName_31 ⟨(Nat.le_of_ble_eq_true rfl), (Nat.le_of_ble_eq_true rfl)⟩) hS (fun q _ h => hFc q h) hFc (fun u t H locs ht hvm hq hB hz1 hk1 hS9 => ?_)
    obtain ⟨z24, f25⟩ := u
    obtain ⟨hP1, hD1⟩ := hB
    rw [ht] at hP1
    obtain ⟨hP9, hD9⟩ := va_join (wr := []) (w1 := [(h_mm, .inr (8, (mo118 v_mm (.ref h_wri) (.int z24) (.int x_mm_room)))), (h_wri, .inl (cy_wri, 1000, .inl f25))]) hP hD [0, 1] [] rfl rfl (by decide) (by decide) hk1 hFc hP1 hD1
    clear hP hD hS hPc hDc hKc hFc hP1 hD1 hk1 hz1 ht hvm
    have hP : va_P (dC, dI) cls [(h_mm, .inr (8, (mo118 v_mm (.ref h_wri) (.int z24) (.int x_mm_room)))), (h_wri, .inl (cy_wri, 1000, .inl f25))] H := hP9
    have hD : va_D A [(h_mm, .inr (8, (mo118 v_mm (.ref h_wri) (.int z24) (.int x_mm_room)))), (h_wri, .inl (cy_wri, 1000, .inl f25))] := hD9
    have hS := hS9
    clear hP9 hD9 hS9
    obtain ⟨k26, k27⟩ := hq
    replace k26 : 0 ≤ ((z24)).toInt ∧ ((z24)).toInt ≤ 1000 := k26
    replace k27 : ((z16)).toInt ≤ ((z24)).toInt := k27
    refine W.widen (k := 0) (n := 0) (Nat.le_of_ble_eq_true rfl) (Nat.le_of_ble_eq_true rfl) ?_
    have w28 : 0 ≤ ((z24)).toInt ∧ ((z24)).toInt ≤ 1000 := by first | exact k26 | omega
    exact W.vret hx hb hr (fun t ht hW => ⟨⟨(z24, f25), rfl, w28, by rw [ht]; exact hP, hD⟩, hS.F ht⟩) hS.2.2 dX11_saysName_34

set_option maxHeartbeats 8000000 in
set_option maxRecDepth 100000 in
theorem c_X11_saysName_12 (l : Launch) (dC : Nat → ClassId) (dI : Nat → Nat → Nat) (sz : Nat) (h_mm : Nat) (h_wri : Nat) (v_mm : Nat → Value) (x_mm_writes : Int32) (x_mm_room : Int32) (cy_wri : ClassId) (f_wri : Nat → Int32) (p1 : Int64) (hx_mm_writes : 0 ≤ (x_mm_writes).toInt ∧ (x_mm_writes).toInt ≤ 1000) (hx_mm_room : 0 ≤ (x_mm_room).toInt ∧ (x_mm_room).toInt ≤ 998) (q0 : (p1).toInt ≤ 4208422658904321507) : Met l yX11_saysName (Ws yX11_saysName cX11_saysName 3 none) (({ frames := 13, cells := 0, slots := 0, locals := 285 } : Room)) (PRE (dC, dI) cls [(cy_wri, .int)] [(h_mm, .inr (8, (mo118 v_mm (.ref h_wri) (.int x_mm_writes) (.int x_mm_room)))), (h_wri, .inl (cy_wri, 1000, .inl f_wri))] sz [.ref h_mm, .long p1]) (va_Qv (fun (u : (Int32) × (Nat → Int32)) => (0 ≤ (u.1).toInt ∧ (u.1).toInt ≤ 1000)) (fun (u : (Int32) × (Nat → Int32)) (t : State) => va_P (dC, dI) cls [(h_mm, .inr (8, (mo118 v_mm (.ref h_wri) (.int u.1) (.int x_mm_room)))), (h_wri, .inl (cy_wri, 1000, .inl u.2))] t.heap ∧ va_D (va_A [(h_mm, .inr (8, (mo118 v_mm (.ref h_wri) (.int x_mm_writes) (.int x_mm_room)))), (h_wri, .inl (cy_wri, 1000, .inl f_wri))] sz) [(h_mm, .inr (8, (mo118 v_mm (.ref h_wri) (.int u.1) (.int x_mm_room)))), (h_wri, .inl (cy_wri, 1000, .inl u.2))]) (va_A [(h_mm, .inr (8, (mo118 v_mm (.ref h_wri) (.int x_mm_writes) (.int x_mm_room)))), (h_wri, .inl (cy_wri, 1000, .inl f_wri))] sz)) 0 0 (va_A [(h_mm, .inr (8, (mo118 v_mm (.ref h_wri) (.int x_mm_writes) (.int x_mm_room)))), (h_wri, .inl (cy_wri, 1000, .inl f_wri))] sz) := by
  refine Met.ofW (cc := cX11_saysName) (maxL := 3) (ret := none) (by decide) rfl ?_
  intro p e s m args below meth c s₁ B hml hv
  obtain ⟨rfl, hsz, hP, hK, hD0, hN⟩ := hv
  have hx := B.exec
  have hb := B.bytes
  have hr := B.returns
  have hts := atoms_spec (ws := Ws yX11_saysName cX11_saysName 3 none) B.pre
  have hT : ∀ w ∈ WALL, w ∈ Ws yX11_saysName cX11_saysName 3 none := fun w h => List.mem_cons_of_mem _ h
  have hw := fun w (h : w ∈ WALL) => hts w (hT w h)
  have hown : s.vm.findClass RX11 = some m.cls := findClass_of_methodNamed B.named
  have hlocks := B.notSynchronized
  subst hsz
  have hD := hD0.self (sz := s.heap.size)
  generalize hAe : va_A [(h_mm, .inr (8, (mo118 v_mm (.ref h_wri) (.int x_mm_writes) (.int x_mm_room)))), (h_wri, .inl (cy_wri, 1000, .inl f_wri))] s.heap.size = A at hD ⊢
  have hA : ∀ q : Nat, s.heap.size ≤ q → A q := fun q h => by rw [← hAe]; exact Or.inr h
  have hS : va_S A s.heap s.heap [] := va_S.rf
  have hl := lv_entry ([.ref h_mm, .long p1]) (n := 3) (Nat.le_of_ble_eq_true rfl)
  rw [lg_entry_eq]
  generalize (lg_sl ([.ref h_mm, .long p1]) ++ List.replicate (3 - (lg_sl ([.ref h_mm, .long p1])).length) Slot.unset).toArray = ls at hl ⊢
  have hl : lv_has ls 3 [(0, .ref h_mm), (1, .long p1)] := hl
  refine lv_lload_n hx hb dX11_saysName_0 rfl (lv_at hl 1 rfl) ?_
  refine lv_ldc2 (v := 27) hx hb hown (hw _ w_cl_X11_93) dX11_saysName_1 ?_
  refine W.lcmp hx hb dX11_saysName_4 ?_
  refine lv_topi (fun z1 ez1 => ?_)
  have gz1 := lgc p1 27
  rw [← ez1] at gz1
  have : (27 : Int64).toInt = 27 := by decide
  refine lv_if_le (tgt := 19) hx hb dX11_saysName_5 (by decide) (fun c2 => ?_) (fun c2 => ?_)
  · have kc2 := (cv_le (rfl : (z1).toInt = (z1).toInt) (by decide : (0 : Int32).toInt = 0)).mp c2
    refine lv_aload_n hx hb dX11_saysName_19 rfl (lv_at hl 0 rfl) ?_
    refine lv_bipush (v := 97) hx hb dX11_saysName_20 (by decide) ?_
    refine lv_lload_n hx hb dX11_saysName_22 rfl (lv_at hl 1 rfl) ?_
    refine lv_lconst (v := 1) hx hb dX11_saysName_23 (by decide) ?_
    refine lv_lsub hx hb dX11_saysName_24 ?_
    refine lv_topl (fun z3 ez3 => ?_)
    refine lv_ldc2 (v := 27) hx hb hown (hw _ w_cl_X11_93) dX11_saysName_25 ?_
    refine lv_lrem hx hb dX11_saysName_28 (by decide) ?_
    refine lv_topl (fun z4 ez4 => ?_)
    refine lv_l2i hx hb dX11_saysName_29 rfl ?_
    refine lv_topi (fun z5 ez5 => ?_)
    refine lv_iadd hx hb dX11_saysName_30 ?_
    refine lv_topi (fun z6 ez6 => ?_)
    have hPc := hP.sub (ws' := [(h_mm, .inr (8, (mo118 v_mm (.ref h_wri) (.int x_mm_writes) (.int x_mm_room)))), (h_wri, .inl (cy_wri, 1000, .inl f_wri))]) [0, 1] rfl
    have hDc := hD.sub (ws' := [(h_mm, .inr (8, (mo118 v_mm (.ref h_wri) (.int x_mm_writes) (.int x_mm_room)))), (h_wri, .inl (cy_wri, 1000, .inl f_wri))]) [0, 1] (by decide) rfl
    have hKc := hK.sub (tys' := [(cy_wri, .int)]) [0] rfl
    have hFc := va_free (wc := [(h_mm, .inr (8, (mo118 v_mm (.ref h_wri) (.int x_mm_writes) (.int x_mm_room)))), (h_wri, .inl (cy_wri, 1000, .inl f_wri))]) hD hS hA [0, 1] rfl
    refine va_callv (va_runV (As := [.int z6]) (rest := []) ⟨hx, hb, hml, hown, hts⟩ (c_X11_says l dC dI s.heap.size h_mm h_wri v_mm x_mm_writes x_mm_room cy_wri f_wri z6 (by first | exact hx_mm_writes | omega) (by first | exact hx_mm_room | omega)) (cwV 1 hts (gv hT w_m_X11_452 w_instanceMethod_X11_says ws_sel_X11_says w_ini_X11 w_code_X11_says) rfl rfl rfl (by decide +kernel) ⟨(Nat.le_of_ble_eq_true rfl), (Nat.le_of_ble_eq_true rfl)⟩) ⟨pre_blind, va_recv hK hP (ci := 8) (q0 := 0) rfl rfl, pre_of hPc hKc hDc hN⟩ rfl rfl hl.1 rfl (lv_room (Nat.le_of_ble_eq_true rfl)) dX11_saysName_31 ⟨(Nat.le_of_ble_eq_true rfl), (Nat.le_of_ble_eq_true rfl)⟩) hS (fun q _ h => hFc q h) hFc (fun u t H locs ht hvm hq hB hz1 hk1 hS9 => ?_)
    obtain ⟨z8, f9⟩ := u
    obtain ⟨hP1, hD1⟩ := hB
    rw [ht] at hP1
    obtain ⟨hP9, hD9⟩ := va_join (wr := []) (w1 := [(h_mm, .inr (8, (mo118 v_mm (.ref h_wri) (.int z8) (.int x_mm_room)))), (h_wri, .inl (cy_wri, 1000, .inl f9))]) hP hD [0, 1] [] rfl rfl (by decide) (by decide) hk1 hFc hP1 hD1
    clear hP hD hS hPc hDc hKc hFc hP1 hD1 hk1 hz1 ht hvm
    have hP : va_P (dC, dI) cls [(h_mm, .inr (8, (mo118 v_mm (.ref h_wri) (.int z8) (.int x_mm_room)))), (h_wri, .inl (cy_wri, 1000, .inl f9))] H := hP9
    have hD : va_D A [(h_mm, .inr (8, (mo118 v_mm (.ref h_wri) (.int z8) (.int x_mm_room)))), (h_wri, .inl (cy_wri, 1000, .inl f9))] := hD9
    have hS := hS9
    clear hP9 hD9 hS9
    obtain ⟨k10, k11⟩ := hq
    replace k10 : 0 ≤ ((z8)).toInt ∧ ((z8)).toInt ≤ 1000 := k10
    replace k11 : ((x_mm_writes)).toInt ≤ ((z8)).toInt := k11
    refine W.widen (k := 0) (n := 0) (Nat.le_of_ble_eq_true rfl) (Nat.le_of_ble_eq_true rfl) ?_
    have w12 : 0 ≤ ((z8)).toInt ∧ ((z8)).toInt ≤ 1000 := by first | exact k10 | omega
    exact W.vret hx hb hr (fun t ht hW => ⟨⟨(z8, f9), rfl, w12, by rw [ht]; exact hP, hD⟩, hS.F ht⟩) hS.2.2 dX11_saysName_34
  · have kc2 := (not_congr (cv_le (rfl : (z1).toInt = (z1).toInt) (by decide : (0 : Int32).toInt = 0))).mp c2
    have bd9 := l_bd p1
    refine lv_aload_n hx hb dX11_saysName_8 rfl (lv_at hl 0 rfl) ?_
    refine lv_lload_n hx hb dX11_saysName_9 rfl (lv_at hl 1 rfl) ?_
    refine lv_lconst (v := 1) hx hb dX11_saysName_10 (by decide) ?_
    refine lv_lsub hx hb dX11_saysName_11 ?_
    refine lv_topl (fun z13 ez13 => ?_)
    have tz13 : (z13).toInt = (p1).toInt - 1 := by rw [ez13]; exact l_sub rfl (by decide) (by omega)
    refine lv_ldc2 (v := 27) hx hb hown (hw _ w_cl_X11_93) dX11_saysName_12 ?_
    refine lv_ldiv hx hb dX11_saysName_15 (by decide) ?_
    refine lv_topl (fun z14 ez14 => ?_)
    have tz14 : 0 ≤ (z13).toInt → (z14).toInt = (z13).toInt / 27 := fun h9 => by rw [ez14]; exact l_div rfl (by decide) (by omega)
    have hPc := hP.sub (ws' := [(h_mm, .inr (8, (mo118 v_mm (.ref h_wri) (.int x_mm_writes) (.int x_mm_room)))), (h_wri, .inl (cy_wri, 1000, .inl f_wri))]) [0, 1] rfl
    have hDc := hD.sub (ws' := [(h_mm, .inr (8, (mo118 v_mm (.ref h_wri) (.int x_mm_writes) (.int x_mm_room)))), (h_wri, .inl (cy_wri, 1000, .inl f_wri))]) [0, 1] (by decide) rfl
    have hKc := hK.sub (tys' := [(cy_wri, .int)]) [0] rfl
    have hFc := va_free (wc := [(h_mm, .inr (8, (mo118 v_mm (.ref h_wri) (.int x_mm_writes) (.int x_mm_room)))), (h_wri, .inl (cy_wri, 1000, .inl f_wri))]) hD hS hA [0, 1] rfl
    refine va_callv (va_runV (As := [.long z14]) (rest := []) ⟨hx, hb, hml, hown, hts⟩ (c_X11_saysName_11 l dC dI s.heap.size h_mm h_wri v_mm x_mm_writes x_mm_room cy_wri f_wri z14 (by first | exact hx_mm_writes | omega) (by first | exact hx_mm_room | omega) (by omega)) (cwV 1 hts (gv hT w_m_X11_455 w_instanceMethod_X11_saysName ws_sel_X11_saysName w_ini_X11 w_code_X11_saysName) rfl rfl rfl (by decide +kernel) ⟨(Nat.le_of_ble_eq_true rfl), (Nat.le_of_ble_eq_true rfl)⟩) ⟨pre_blind, va_recv hK hP (ci := 8) (q0 := 0) rfl rfl, pre_of hPc hKc hDc hN⟩ rfl rfl hl.1 rfl (lv_room (Nat.le_of_ble_eq_true rfl)) dX11_saysName_16 ⟨(Nat.le_of_ble_eq_true rfl), (Nat.le_of_ble_eq_true rfl)⟩) hS (fun q _ h => hFc q h) hFc (fun u t H locs ht hvm hq hB hz1 hk1 hS9 => ?_)
    obtain ⟨z16, f17⟩ := u
    obtain ⟨hP1, hD1⟩ := hB
    rw [ht] at hP1
    obtain ⟨hP9, hD9⟩ := va_join (wr := []) (w1 := [(h_mm, .inr (8, (mo118 v_mm (.ref h_wri) (.int z16) (.int x_mm_room)))), (h_wri, .inl (cy_wri, 1000, .inl f17))]) hP hD [0, 1] [] rfl rfl (by decide) (by decide) hk1 hFc hP1 hD1
    clear hP hD hS hPc hDc hKc hFc hP1 hD1 hk1 hz1 ht hvm
    have hP : va_P (dC, dI) cls [(h_mm, .inr (8, (mo118 v_mm (.ref h_wri) (.int z16) (.int x_mm_room)))), (h_wri, .inl (cy_wri, 1000, .inl f17))] H := hP9
    have hD : va_D A [(h_mm, .inr (8, (mo118 v_mm (.ref h_wri) (.int z16) (.int x_mm_room)))), (h_wri, .inl (cy_wri, 1000, .inl f17))] := hD9
    have hS := hS9
    clear hP9 hD9 hS9
    have k18 : 0 ≤ ((z16)).toInt ∧ ((z16)).toInt ≤ 1000 := hq
    clear hq
    refine lv_aload_n hx hb dX11_saysName_19 rfl (lv_at hl 0 rfl) ?_
    refine lv_bipush (v := 97) hx hb dX11_saysName_20 (by decide) ?_
    refine lv_lload_n hx hb dX11_saysName_22 rfl (lv_at hl 1 rfl) ?_
    refine lv_lconst (v := 1) hx hb dX11_saysName_23 (by decide) ?_
    refine lv_lsub hx hb dX11_saysName_24 ?_
    refine lv_topl (fun z19 ez19 => ?_)
    refine lv_ldc2 (v := 27) hx hb hown (hw _ w_cl_X11_93) dX11_saysName_25 ?_
    refine lv_lrem hx hb dX11_saysName_28 (by decide) ?_
    refine lv_topl (fun z20 ez20 => ?_)
    refine lv_l2i hx hb dX11_saysName_29 rfl ?_
    refine lv_topi (fun z21 ez21 => ?_)
    refine lv_iadd hx hb dX11_saysName_30 ?_
    refine lv_topi (fun z22 ez22 => ?_)
    have hPc := hP.sub (ws' := [(h_mm, .inr (8, (mo118 v_mm (.ref h_wri) (.int z16) (.int x_mm_room)))), (h_wri, .inl (cy_wri, 1000, .inl f17))]) [0, 1] rfl
    have hDc := hD.sub (ws' := [(h_mm, .inr (8, (mo118 v_mm (.ref h_wri) (.int z16) (.int x_mm_room)))), (h_wri, .inl (cy_wri, 1000, .inl f17))]) [0, 1] (by decide) rfl
    have hKc := hK.sub (tys' := [(cy_wri, .int)]) [0] rfl
    have hFc := va_free (wc := [(h_mm, .inr (8, (mo118 v_mm (.ref h_wri) (.int z16) (.int x_mm_room)))), (h_wri, .inl (cy_wri, 1000, .inl f17))]) hD hS hA [0, 1] rfl
    refine va_callv (va_runV (As := [.int z22]) (rest := []) ⟨hx, hb, hml, hown, hts⟩ (c_X11_says l dC dI H.size h_mm h_wri v_mm z16 x_mm_room cy_wri f17 z22 (by first | exact k18 | omega) (by first | exact hx_mm_room | omega)) (cwV 1 hts (gv hT w_m_X11_452 w_instanceMethod_X11_says ws_sel_X11_says w_ini_X11 w_code_X11_says) rfl rfl rfl (by decide +kernel) ⟨(Nat.le_of_ble_eq_true rfl), (Nat.le_of_ble_eq_true rfl)⟩) ⟨pre_blind, va_recv hK hP (ci := 8) (q0 := 0) rfl rfl, pre_of hPc hKc hDc hN⟩ rfl rfl hl.1 rfl (lv_room (Nat.le_of_ble_eq_true rfl)) dX11_saysName_31 ⟨(Nat.le_of_ble_eq_true rfl), (Nat.le_of_ble_eq_true rfl)⟩) hS (fun q _ h => hFc q h) hFc (fun u t H locs ht hvm hq hB hz1 hk1 hS9 => ?_)
    obtain ⟨z24, f25⟩ := u
    obtain ⟨hP1, hD1⟩ := hB
    rw [ht] at hP1
    obtain ⟨hP9, hD9⟩ := va_join (wr := []) (w1 := [(h_mm, .inr (8, (mo118 v_mm (.ref h_wri) (.int z24) (.int x_mm_room)))), (h_wri, .inl (cy_wri, 1000, .inl f25))]) hP hD [0, 1] [] rfl rfl (by decide) (by decide) hk1 hFc hP1 hD1
    clear hP hD hS hPc hDc hKc hFc hP1 hD1 hk1 hz1 ht hvm
    have hP : va_P (dC, dI) cls [(h_mm, .inr (8, (mo118 v_mm (.ref h_wri) (.int z24) (.int x_mm_room)))), (h_wri, .inl (cy_wri, 1000, .inl f25))] H := hP9
    have hD : va_D A [(h_mm, .inr (8, (mo118 v_mm (.ref h_wri) (.int z24) (.int x_mm_room)))), (h_wri, .inl (cy_wri, 1000, .inl f25))] := hD9
    have hS := hS9
    clear hP9 hD9 hS9
    obtain ⟨k26, k27⟩ := hq
    replace k26 : 0 ≤ ((z24)).toInt ∧ ((z24)).toInt ≤ 1000 := k26
    replace k27 : ((z16)).toInt ≤ ((z24)).toInt := k27
    refine W.widen (k := 0) (n := 0) (Nat.le_of_ble_eq_true rfl) (Nat.le_of_ble_eq_true rfl) ?_
    have w28 : 0 ≤ ((z24)).toInt ∧ ((z24)).toInt ≤ 1000 := by first | exact k26 | omega
    exact W.vret hx hb hr (fun t ht hW => ⟨⟨(z24, f25), rfl, w28, by rw [ht]; exact hP, hD⟩, hS.F ht⟩) hS.2.2 dX11_saysName_34

set_option maxHeartbeats 8000000 in
set_option maxRecDepth 100000 in
theorem c_X11_saysName_13 (l : Launch) (dC : Nat → ClassId) (dI : Nat → Nat → Nat) (sz : Nat) (h_mm : Nat) (h_wri : Nat) (v_mm : Nat → Value) (x_mm_writes : Int32) (x_mm_room : Int32) (cy_wri : ClassId) (f_wri : Nat → Int32) (p1 : Int64) (hx_mm_writes : 0 ≤ (x_mm_writes).toInt ∧ (x_mm_writes).toInt ≤ 1000) (hx_mm_room : 0 ≤ (x_mm_room).toInt ∧ (x_mm_room).toInt ≤ 998) : Met l yX11_saysName (Ws yX11_saysName cX11_saysName 3 none) (({ frames := 14, cells := 0, slots := 0, locals := 307 } : Room)) (PRE (dC, dI) cls [(cy_wri, .int)] [(h_mm, .inr (8, (mo118 v_mm (.ref h_wri) (.int x_mm_writes) (.int x_mm_room)))), (h_wri, .inl (cy_wri, 1000, .inl f_wri))] sz [.ref h_mm, .long p1]) (va_Qv (fun (u : (Int32) × (Nat → Int32)) => (0 ≤ (u.1).toInt ∧ (u.1).toInt ≤ 1000)) (fun (u : (Int32) × (Nat → Int32)) (t : State) => va_P (dC, dI) cls [(h_mm, .inr (8, (mo118 v_mm (.ref h_wri) (.int u.1) (.int x_mm_room)))), (h_wri, .inl (cy_wri, 1000, .inl u.2))] t.heap ∧ va_D (va_A [(h_mm, .inr (8, (mo118 v_mm (.ref h_wri) (.int x_mm_writes) (.int x_mm_room)))), (h_wri, .inl (cy_wri, 1000, .inl f_wri))] sz) [(h_mm, .inr (8, (mo118 v_mm (.ref h_wri) (.int u.1) (.int x_mm_room)))), (h_wri, .inl (cy_wri, 1000, .inl u.2))]) (va_A [(h_mm, .inr (8, (mo118 v_mm (.ref h_wri) (.int x_mm_writes) (.int x_mm_room)))), (h_wri, .inl (cy_wri, 1000, .inl f_wri))] sz)) 0 0 (va_A [(h_mm, .inr (8, (mo118 v_mm (.ref h_wri) (.int x_mm_writes) (.int x_mm_room)))), (h_wri, .inl (cy_wri, 1000, .inl f_wri))] sz) := by
  refine Met.ofW (cc := cX11_saysName) (maxL := 3) (ret := none) (by decide) rfl ?_
  intro p e s m args below meth c s₁ B hml hv
  obtain ⟨rfl, hsz, hP, hK, hD0, hN⟩ := hv
  have hx := B.exec
  have hb := B.bytes
  have hr := B.returns
  have hts := atoms_spec (ws := Ws yX11_saysName cX11_saysName 3 none) B.pre
  have hT : ∀ w ∈ WALL, w ∈ Ws yX11_saysName cX11_saysName 3 none := fun w h => List.mem_cons_of_mem _ h
  have hw := fun w (h : w ∈ WALL) => hts w (hT w h)
  have hown : s.vm.findClass RX11 = some m.cls := findClass_of_methodNamed B.named
  have hlocks := B.notSynchronized
  subst hsz
  have hD := hD0.self (sz := s.heap.size)
  generalize hAe : va_A [(h_mm, .inr (8, (mo118 v_mm (.ref h_wri) (.int x_mm_writes) (.int x_mm_room)))), (h_wri, .inl (cy_wri, 1000, .inl f_wri))] s.heap.size = A at hD ⊢
  have hA : ∀ q : Nat, s.heap.size ≤ q → A q := fun q h => by rw [← hAe]; exact Or.inr h
  have hS : va_S A s.heap s.heap [] := va_S.rf
  have hl := lv_entry ([.ref h_mm, .long p1]) (n := 3) (Nat.le_of_ble_eq_true rfl)
  rw [lg_entry_eq]
  generalize (lg_sl ([.ref h_mm, .long p1]) ++ List.replicate (3 - (lg_sl ([.ref h_mm, .long p1])).length) Slot.unset).toArray = ls at hl ⊢
  have hl : lv_has ls 3 [(0, .ref h_mm), (1, .long p1)] := hl
  refine lv_lload_n hx hb dX11_saysName_0 rfl (lv_at hl 1 rfl) ?_
  refine lv_ldc2 (v := 27) hx hb hown (hw _ w_cl_X11_93) dX11_saysName_1 ?_
  refine W.lcmp hx hb dX11_saysName_4 ?_
  refine lv_topi (fun z1 ez1 => ?_)
  have gz1 := lgc p1 27
  rw [← ez1] at gz1
  have : (27 : Int64).toInt = 27 := by decide
  refine lv_if_le (tgt := 19) hx hb dX11_saysName_5 (by decide) (fun c2 => ?_) (fun c2 => ?_)
  · have kc2 := (cv_le (rfl : (z1).toInt = (z1).toInt) (by decide : (0 : Int32).toInt = 0)).mp c2
    refine lv_aload_n hx hb dX11_saysName_19 rfl (lv_at hl 0 rfl) ?_
    refine lv_bipush (v := 97) hx hb dX11_saysName_20 (by decide) ?_
    refine lv_lload_n hx hb dX11_saysName_22 rfl (lv_at hl 1 rfl) ?_
    refine lv_lconst (v := 1) hx hb dX11_saysName_23 (by decide) ?_
    refine lv_lsub hx hb dX11_saysName_24 ?_
    refine lv_topl (fun z3 ez3 => ?_)
    refine lv_ldc2 (v := 27) hx hb hown (hw _ w_cl_X11_93) dX11_saysName_25 ?_
    refine lv_lrem hx hb dX11_saysName_28 (by decide) ?_
    refine lv_topl (fun z4 ez4 => ?_)
    refine lv_l2i hx hb dX11_saysName_29 rfl ?_
    refine lv_topi (fun z5 ez5 => ?_)
    refine lv_iadd hx hb dX11_saysName_30 ?_
    refine lv_topi (fun z6 ez6 => ?_)
    have hPc := hP.sub (ws' := [(h_mm, .inr (8, (mo118 v_mm (.ref h_wri) (.int x_mm_writes) (.int x_mm_room)))), (h_wri, .inl (cy_wri, 1000, .inl f_wri))]) [0, 1] rfl
    have hDc := hD.sub (ws' := [(h_mm, .inr (8, (mo118 v_mm (.ref h_wri) (.int x_mm_writes) (.int x_mm_room)))), (h_wri, .inl (cy_wri, 1000, .inl f_wri))]) [0, 1] (by decide) rfl
    have hKc := hK.sub (tys' := [(cy_wri, .int)]) [0] rfl
    have hFc := va_free (wc := [(h_mm, .inr (8, (mo118 v_mm (.ref h_wri) (.int x_mm_writes) (.int x_mm_room)))), (h_wri, .inl (cy_wri, 1000, .inl f_wri))]) hD hS hA [0, 1] rfl
    refine va_callv (va_runV (As := [.int z6]) (rest := []) ⟨hx, hb, hml, hown, hts⟩ (c_X11_says l dC dI s.heap.size h_mm h_wri v_mm x_mm_writes x_mm_room cy_wri f_wri z6 (by first | exact hx_mm_writes | omega) (by first | exact hx_mm_room | omega)) (cwV 1 hts (gv hT w_m_X11_452 w_instanceMethod_X11_says ws_sel_X11_says w_ini_X11 w_code_X11_says) rfl rfl rfl (by decide +kernel) ⟨(Nat.le_of_ble_eq_true rfl), (Nat.le_of_ble_eq_true rfl)⟩) ⟨pre_blind, va_recv hK hP (ci := 8) (q0 := 0) rfl rfl, pre_of hPc hKc hDc hN⟩ rfl rfl hl.1 rfl (lv_room (Nat.le_of_ble_eq_true rfl)) dX11_saysName_31 ⟨(Nat.le_of_ble_eq_true rfl), (Nat.le_of_ble_eq_true rfl)⟩) hS (fun q _ h => hFc q h) hFc (fun u t H locs ht hvm hq hB hz1 hk1 hS9 => ?_)
    obtain ⟨z8, f9⟩ := u
    obtain ⟨hP1, hD1⟩ := hB
    rw [ht] at hP1
    obtain ⟨hP9, hD9⟩ := va_join (wr := []) (w1 := [(h_mm, .inr (8, (mo118 v_mm (.ref h_wri) (.int z8) (.int x_mm_room)))), (h_wri, .inl (cy_wri, 1000, .inl f9))]) hP hD [0, 1] [] rfl rfl (by decide) (by decide) hk1 hFc hP1 hD1
    clear hP hD hS hPc hDc hKc hFc hP1 hD1 hk1 hz1 ht hvm
    have hP : va_P (dC, dI) cls [(h_mm, .inr (8, (mo118 v_mm (.ref h_wri) (.int z8) (.int x_mm_room)))), (h_wri, .inl (cy_wri, 1000, .inl f9))] H := hP9
    have hD : va_D A [(h_mm, .inr (8, (mo118 v_mm (.ref h_wri) (.int z8) (.int x_mm_room)))), (h_wri, .inl (cy_wri, 1000, .inl f9))] := hD9
    have hS := hS9
    clear hP9 hD9 hS9
    obtain ⟨k10, k11⟩ := hq
    replace k10 : 0 ≤ ((z8)).toInt ∧ ((z8)).toInt ≤ 1000 := k10
    replace k11 : ((x_mm_writes)).toInt ≤ ((z8)).toInt := k11
    refine W.widen (k := 0) (n := 0) (Nat.le_of_ble_eq_true rfl) (Nat.le_of_ble_eq_true rfl) ?_
    have w12 : 0 ≤ ((z8)).toInt ∧ ((z8)).toInt ≤ 1000 := by first | exact k10 | omega
    exact W.vret hx hb hr (fun t ht hW => ⟨⟨(z8, f9), rfl, w12, by rw [ht]; exact hP, hD⟩, hS.F ht⟩) hS.2.2 dX11_saysName_34
  · have kc2 := (not_congr (cv_le (rfl : (z1).toInt = (z1).toInt) (by decide : (0 : Int32).toInt = 0))).mp c2
    have bd9 := l_bd p1
    refine lv_aload_n hx hb dX11_saysName_8 rfl (lv_at hl 0 rfl) ?_
    refine lv_lload_n hx hb dX11_saysName_9 rfl (lv_at hl 1 rfl) ?_
    refine lv_lconst (v := 1) hx hb dX11_saysName_10 (by decide) ?_
    refine lv_lsub hx hb dX11_saysName_11 ?_
    refine lv_topl (fun z13 ez13 => ?_)
    have tz13 : (z13).toInt = (p1).toInt - 1 := by rw [ez13]; exact l_sub rfl (by decide) (by omega)
    refine lv_ldc2 (v := 27) hx hb hown (hw _ w_cl_X11_93) dX11_saysName_12 ?_
    refine lv_ldiv hx hb dX11_saysName_15 (by decide) ?_
    refine lv_topl (fun z14 ez14 => ?_)
    have tz14 : 0 ≤ (z13).toInt → (z14).toInt = (z13).toInt / 27 := fun h9 => by rw [ez14]; exact l_div rfl (by decide) (by omega)
    have hPc := hP.sub (ws' := [(h_mm, .inr (8, (mo118 v_mm (.ref h_wri) (.int x_mm_writes) (.int x_mm_room)))), (h_wri, .inl (cy_wri, 1000, .inl f_wri))]) [0, 1] rfl
    have hDc := hD.sub (ws' := [(h_mm, .inr (8, (mo118 v_mm (.ref h_wri) (.int x_mm_writes) (.int x_mm_room)))), (h_wri, .inl (cy_wri, 1000, .inl f_wri))]) [0, 1] (by decide) rfl
    have hKc := hK.sub (tys' := [(cy_wri, .int)]) [0] rfl
    have hFc := va_free (wc := [(h_mm, .inr (8, (mo118 v_mm (.ref h_wri) (.int x_mm_writes) (.int x_mm_room)))), (h_wri, .inl (cy_wri, 1000, .inl f_wri))]) hD hS hA [0, 1] rfl
    refine va_callv (va_runV (As := [.long z14]) (rest := []) ⟨hx, hb, hml, hown, hts⟩ (c_X11_saysName_12 l dC dI s.heap.size h_mm h_wri v_mm x_mm_writes x_mm_room cy_wri f_wri z14 (by first | exact hx_mm_writes | omega) (by first | exact hx_mm_room | omega) (by omega)) (cwV 1 hts (gv hT w_m_X11_455 w_instanceMethod_X11_saysName ws_sel_X11_saysName w_ini_X11 w_code_X11_saysName) rfl rfl rfl (by decide +kernel) ⟨(Nat.le_of_ble_eq_true rfl), (Nat.le_of_ble_eq_true rfl)⟩) ⟨pre_blind, va_recv hK hP (ci := 8) (q0 := 0) rfl rfl, pre_of hPc hKc hDc hN⟩ rfl rfl hl.1 rfl (lv_room (Nat.le_of_ble_eq_true rfl)) dX11_saysName_16 ⟨(Nat.le_of_ble_eq_true rfl), (Nat.le_of_ble_eq_true rfl)⟩) hS (fun q _ h => hFc q h) hFc (fun u t H locs ht hvm hq hB hz1 hk1 hS9 => ?_)
    obtain ⟨z16, f17⟩ := u
    obtain ⟨hP1, hD1⟩ := hB
    rw [ht] at hP1
    obtain ⟨hP9, hD9⟩ := va_join (wr := []) (w1 := [(h_mm, .inr (8, (mo118 v_mm (.ref h_wri) (.int z16) (.int x_mm_room)))), (h_wri, .inl (cy_wri, 1000, .inl f17))]) hP hD [0, 1] [] rfl rfl (by decide) (by decide) hk1 hFc hP1 hD1
    clear hP hD hS hPc hDc hKc hFc hP1 hD1 hk1 hz1 ht hvm
    have hP : va_P (dC, dI) cls [(h_mm, .inr (8, (mo118 v_mm (.ref h_wri) (.int z16) (.int x_mm_room)))), (h_wri, .inl (cy_wri, 1000, .inl f17))] H := hP9
    have hD : va_D A [(h_mm, .inr (8, (mo118 v_mm (.ref h_wri) (.int z16) (.int x_mm_room)))), (h_wri, .inl (cy_wri, 1000, .inl f17))] := hD9
    have hS := hS9
    clear hP9 hD9 hS9
    have k18 : 0 ≤ ((z16)).toInt ∧ ((z16)).toInt ≤ 1000 := hq
    clear hq
    refine lv_aload_n hx hb dX11_saysName_19 rfl (lv_at hl 0 rfl) ?_
    refine lv_bipush (v := 97) hx hb dX11_saysName_20 (by decide) ?_
    refine lv_lload_n hx hb dX11_saysName_22 rfl (lv_at hl 1 rfl) ?_
    refine lv_lconst (v := 1) hx hb dX11_saysName_23 (by decide) ?_
    refine lv_lsub hx hb dX11_saysName_24 ?_
    refine lv_topl (fun z19 ez19 => ?_)
    refine lv_ldc2 (v := 27) hx hb hown (hw _ w_cl_X11_93) dX11_saysName_25 ?_
    refine lv_lrem hx hb dX11_saysName_28 (by decide) ?_
    refine lv_topl (fun z20 ez20 => ?_)
    refine lv_l2i hx hb dX11_saysName_29 rfl ?_
    refine lv_topi (fun z21 ez21 => ?_)
    refine lv_iadd hx hb dX11_saysName_30 ?_
    refine lv_topi (fun z22 ez22 => ?_)
    have hPc := hP.sub (ws' := [(h_mm, .inr (8, (mo118 v_mm (.ref h_wri) (.int z16) (.int x_mm_room)))), (h_wri, .inl (cy_wri, 1000, .inl f17))]) [0, 1] rfl
    have hDc := hD.sub (ws' := [(h_mm, .inr (8, (mo118 v_mm (.ref h_wri) (.int z16) (.int x_mm_room)))), (h_wri, .inl (cy_wri, 1000, .inl f17))]) [0, 1] (by decide) rfl
    have hKc := hK.sub (tys' := [(cy_wri, .int)]) [0] rfl
    have hFc := va_free (wc := [(h_mm, .inr (8, (mo118 v_mm (.ref h_wri) (.int z16) (.int x_mm_room)))), (h_wri, .inl (cy_wri, 1000, .inl f17))]) hD hS hA [0, 1] rfl
    refine va_callv (va_runV (As := [.int z22]) (rest := []) ⟨hx, hb, hml, hown, hts⟩ (c_X11_says l dC dI H.size h_mm h_wri v_mm z16 x_mm_room cy_wri f17 z22 (by first | exact k18 | omega) (by first | exact hx_mm_room | omega)) (cwV 1 hts (gv hT w_m_X11_452 w_instanceMethod_X11_says ws_sel_X11_says w_ini_X11 w_code_X11_says) rfl rfl rfl (by decide +kernel) ⟨(Nat.le_of_ble_eq_true rfl), (Nat.le_of_ble_eq_true rfl)⟩) ⟨pre_blind, va_recv hK hP (ci := 8) (q0 := 0) rfl rfl, pre_of hPc hKc hDc hN⟩ rfl rfl hl.1 rfl (lv_room (Nat.le_of_ble_eq_true rfl)) dX11_saysName_31 ⟨(Nat.le_of_ble_eq_true rfl), (Nat.le_of_ble_eq_true rfl)⟩) hS (fun q _ h => hFc q h) hFc (fun u t H locs ht hvm hq hB hz1 hk1 hS9 => ?_)
    obtain ⟨z24, f25⟩ := u
    obtain ⟨hP1, hD1⟩ := hB
    rw [ht] at hP1
    obtain ⟨hP9, hD9⟩ := va_join (wr := []) (w1 := [(h_mm, .inr (8, (mo118 v_mm (.ref h_wri) (.int z24) (.int x_mm_room)))), (h_wri, .inl (cy_wri, 1000, .inl f25))]) hP hD [0, 1] [] rfl rfl (by decide) (by decide) hk1 hFc hP1 hD1
    clear hP hD hS hPc hDc hKc hFc hP1 hD1 hk1 hz1 ht hvm
    have hP : va_P (dC, dI) cls [(h_mm, .inr (8, (mo118 v_mm (.ref h_wri) (.int z24) (.int x_mm_room)))), (h_wri, .inl (cy_wri, 1000, .inl f25))] H := hP9
    have hD : va_D A [(h_mm, .inr (8, (mo118 v_mm (.ref h_wri) (.int z24) (.int x_mm_room)))), (h_wri, .inl (cy_wri, 1000, .inl f25))] := hD9
    have hS := hS9
    clear hP9 hD9 hS9
    obtain ⟨k26, k27⟩ := hq
    replace k26 : 0 ≤ ((z24)).toInt ∧ ((z24)).toInt ≤ 1000 := k26
    replace k27 : ((z16)).toInt ≤ ((z24)).toInt := k27
    refine W.widen (k := 0) (n := 0) (Nat.le_of_ble_eq_true rfl) (Nat.le_of_ble_eq_true rfl) ?_
    have w28 : 0 ≤ ((z24)).toInt ∧ ((z24)).toInt ≤ 1000 := by first | exact k26 | omega
    exact W.vret hx hb hr (fun t ht hW => ⟨⟨(z24, f25), rfl, w28, by rw [ht]; exact hP, hD⟩, hS.F ht⟩) hS.2.2 dX11_saysName_34

set_option maxHeartbeats 8000000 in
set_option maxRecDepth 100000 in
theorem c_X11_says_n (l : Launch) (dC : Nat → ClassId) (dI : Nat → Nat → Nat) (sz : Nat) (h_mm : Nat) (h_wri : Nat) (v_mm : Nat → Value) (x_mm_writes : Int32) (x_mm_room : Int32) (cy_wri : ClassId) (f_wri : Nat → Int32) (p1 : Int32) (hx_mm_writes : 0 ≤ (x_mm_writes).toInt ∧ (x_mm_writes).toInt ≤ 1000) (hx_mm_room : 0 ≤ (x_mm_room).toInt ∧ (x_mm_room).toInt ≤ 998) (q0 : (x_mm_writes).toInt ≤ (x_mm_room).toInt) : Met l yX11_says (Ws yX11_says cX11_says 2 none) (({ frames := 0, cells := 0, slots := 0, locals := 0 } : Room)) (PRE (dC, dI) cls [(cy_wri, .int)] [(h_mm, .inr (8, (mo118 v_mm (.ref h_wri) (.int x_mm_writes) (.int x_mm_room)))), (h_wri, .inl (cy_wri, 1000, .inl f_wri))] sz [.ref h_mm, .int p1]) (va_Qv (fun (u : (Int32) × (Nat → Int32)) => (0 ≤ (u.1).toInt ∧ (u.1).toInt ≤ 1000) ∧ ((u.1).toInt = (x_mm_writes).toInt + 1)) (fun (u : (Int32) × (Nat → Int32)) (t : State) => va_P (dC, dI) cls [(h_mm, .inr (8, (mo118 v_mm (.ref h_wri) (.int u.1) (.int x_mm_room)))), (h_wri, .inl (cy_wri, 1000, .inl u.2))] t.heap ∧ va_D (va_A [(h_mm, .inr (8, (mo118 v_mm (.ref h_wri) (.int x_mm_writes) (.int x_mm_room)))), (h_wri, .inl (cy_wri, 1000, .inl f_wri))] sz) [(h_mm, .inr (8, (mo118 v_mm (.ref h_wri) (.int u.1) (.int x_mm_room)))), (h_wri, .inl (cy_wri, 1000, .inl u.2))]) (va_A [(h_mm, .inr (8, (mo118 v_mm (.ref h_wri) (.int x_mm_writes) (.int x_mm_room)))), (h_wri, .inl (cy_wri, 1000, .inl f_wri))] sz)) 0 0 (va_A [(h_mm, .inr (8, (mo118 v_mm (.ref h_wri) (.int x_mm_writes) (.int x_mm_room)))), (h_wri, .inl (cy_wri, 1000, .inl f_wri))] sz) := by
  refine Met.ofW (cc := cX11_says) (maxL := 2) (ret := none) (by decide) rfl ?_
  intro p e s m args below meth c s₁ B hml hv
  obtain ⟨rfl, hsz, hP, hK, hD0, hN⟩ := hv
  have hx := B.exec
  have hb := B.bytes
  have hr := B.returns
  have hts := atoms_spec (ws := Ws yX11_says cX11_says 2 none) B.pre
  have hT : ∀ w ∈ WALL, w ∈ Ws yX11_says cX11_says 2 none := fun w h => List.mem_cons_of_mem _ h
  have hw := fun w (h : w ∈ WALL) => hts w (hT w h)
  have hown : s.vm.findClass RX11 = some m.cls := findClass_of_methodNamed B.named
  have hlocks := B.notSynchronized
  subst hsz
  have hD := hD0.self (sz := s.heap.size)
  generalize hAe : va_A [(h_mm, .inr (8, (mo118 v_mm (.ref h_wri) (.int x_mm_writes) (.int x_mm_room)))), (h_wri, .inl (cy_wri, 1000, .inl f_wri))] s.heap.size = A at hD ⊢
  have hA : ∀ q : Nat, s.heap.size ≤ q → A q := fun q h => by rw [← hAe]; exact Or.inr h
  have hS : va_S A s.heap s.heap [] := va_S.rf
  have hl := lv_entry ([.ref h_mm, .int p1]) (n := 2) (Nat.le_of_ble_eq_true rfl)
  rw [lg_entry_eq]
  generalize (lg_sl ([.ref h_mm, .int p1]) ++ List.replicate (2 - (lg_sl ([.ref h_mm, .int p1])).length) Slot.unset).toArray = ls at hl ⊢
  have hl : lv_has ls 2 [(0, .ref h_mm), (1, .int p1)] := hl
  refine lv_aload_n hx hb dX11_says_0 rfl (lv_at hl 0 rfl) ?_
  refine va_get (D := (dC, dI)) (ci := 8) (v := .int x_mm_writes) (C := RX11) (T := TX11) (N := 71) hx hb hw iwX11 hown hK hP 0 rfl rfl 65 (by decide) (hw _ w_f_X11_443) (fun _ h9 => h9) rfl dX11_says_1 ?_
  refine lv_aload_n hx hb dX11_says_4 rfl (lv_at hl 0 rfl) ?_
  refine va_get (D := (dC, dI)) (ci := 8) (v := .int x_mm_room) (C := RX11) (T := TX11) (N := 71) hx hb hw iwX11 hown hK hP 0 rfl rfl 66 (by decide) (hw _ w_f_X11_446) (fun _ h9 => h9) rfl dX11_says_5 ?_
  refine lv_icmp_gt (tgt := 31) hx hb dX11_says_8 (by decide) (fun c1 => False.elim (by have kc1 := (cv_lt (rfl : (x_mm_room).toInt = (x_mm_room).toInt) (rfl : (x_mm_writes).toInt = (x_mm_writes).toInt)).mp c1; omega)) (fun _ => ?_)
  refine lv_aload_n hx hb dX11_says_11 rfl (lv_at hl 0 rfl) ?_
  refine va_get (D := (dC, dI)) (ci := 8) (v := .ref h_wri) (C := RX11) (T := TX11) (N := 71) hx hb hw iwX11 hown hK hP 0 rfl rfl 64 (by decide) (hw _ w_f_X11_246) (fun _ h9 => h9) rfl dX11_says_12 ?_
  refine lv_aload_n hx hb dX11_says_15 rfl (lv_at hl 0 rfl) ?_
  refine va_get (D := (dC, dI)) (ci := 8) (v := .int x_mm_writes) (C := RX11) (T := TX11) (N := 71) hx hb hw iwX11 hown hK hP 0 rfl rfl 65 (by decide) (hw _ w_f_X11_443) (fun _ h9 => h9) rfl dX11_says_16 ?_
  refine lv_iload_n hx hb dX11_says_19 rfl (lv_at hl 1 rfl) ?_
  refine va_iast hx hb hK hP hD hS 1 0 rfl rfl (i := x_mm_writes) (x := p1) (vp_in_iff.mpr (by omega)) dX11_says_20 (fun H locs hP9 hD9 hS9 => ?_)
  obtain ⟨f2, ef2⟩ : ∃ g : Nat → Int32, g = upd f_wri (Int32.toNatClampNeg x_mm_writes) p1 := ⟨_, rfl⟩
  clear hP hD hS
  have hP : va_P (dC, dI) cls [(h_mm, .inr (8, (mo118 v_mm (.ref h_wri) (.int x_mm_writes) (.int x_mm_room)))), (h_wri, .inl (cy_wri, 1000, .inl f2))] H := by rw [ef2]; exact hP9
  have hD : va_D A [(h_mm, .inr (8, (mo118 v_mm (.ref h_wri) (.int x_mm_writes) (.int x_mm_room)))), (h_wri, .inl (cy_wri, 1000, .inl f2))] := by rw [ef2]; exact hD9
  have hS := hS9
  clear hP9 hD9 hS9
  clear ef2
  refine lv_aload_n hx hb dX11_says_21 rfl (lv_at hl 0 rfl) ?_
  refine lv_aload_n hx hb dX11_says_22 rfl (lv_at hl 0 rfl) ?_
  refine va_get (D := (dC, dI)) (ci := 8) (v := .int x_mm_writes) (C := RX11) (T := TX11) (N := 71) hx hb hw iwX11 hown hK hP 0 rfl rfl 65 (by decide) (hw _ w_f_X11_443) (fun _ h9 => h9) rfl dX11_says_23 ?_
  refine lv_iconst (v := 1) hx hb dX11_says_26 (by decide) ?_
  refine lv_iadd hx hb dX11_says_27 ?_
  refine lv_topi (fun z3 ez3 => ?_)
  have tz3 : (z3).toInt = (x_mm_writes).toInt + 1 := by rw [ez3]; exact i_add rfl (by decide) (by omega)
  refine va_put (D := (dC, dI)) (ci := 8) (v := .int z3) (ty := tyX11 65) (C := RX11) (T := TX11) (N := 71) hx hb hw iwX11 tyX11 tyX11_ok nmX11 hown hK hP hD hS 0 rfl rfl 65 (by decide) (hw _ w_f_X11_443) (fun _ h9 => h9) rfl (tyX11_ok 65 (by decide)) rfl rfl (Nat.le_of_ble_eq_true rfl) dX11_says_28 (fun H locs hP9 hD9 hS9 => ?_)
  clear hP hD hS
  have hP : va_P (dC, dI) cls [(h_mm, .inr (8, (mo118 v_mm (.ref h_wri) (.int z3) (.int x_mm_room)))), (h_wri, .inl (cy_wri, 1000, .inl f2))] H := hP9
  have hD : va_D A [(h_mm, .inr (8, (mo118 v_mm (.ref h_wri) (.int z3) (.int x_mm_room)))), (h_wri, .inl (cy_wri, 1000, .inl f2))] := hD9
  have hS := hS9
  clear hP9 hD9 hS9
  refine W.widen (k := 0) (n := 0) (Nat.le_of_ble_eq_true rfl) (Nat.le_of_ble_eq_true rfl) ?_
  have w4 : 0 ≤ ((z3)).toInt ∧ ((z3)).toInt ≤ 1000 := by omega
  have w5 : ((z3)).toInt = (x_mm_writes).toInt + 1 := by omega
  exact W.vret hx hb hr (fun t ht hW => ⟨⟨(z3, f2), rfl, ⟨w4, w5⟩, by rw [ht]; exact hP, hD⟩, hS.F ht⟩) hS.2.2 dX11_says_31

set_option maxHeartbeats 8000000 in
set_option maxRecDepth 100000 in
theorem c_X11_saysName_n0 (l : Launch) (dC : Nat → ClassId) (dI : Nat → Nat → Nat) (sz : Nat) (h_mm : Nat) (h_wri : Nat) (v_mm : Nat → Value) (x_mm_writes : Int32) (x_mm_room : Int32) (cy_wri : ClassId) (f_wri : Nat → Int32) (p1 : Int64) (hx_mm_writes : 0 ≤ (x_mm_writes).toInt ∧ (x_mm_writes).toInt ≤ 1000) (hx_mm_room : 0 ≤ (x_mm_room).toInt ∧ (x_mm_room).toInt ≤ 998) (q0 : (p1).toInt ≤ 27) (q1 : 1 ≤ (p1).toInt) (q2 : (x_mm_writes).toInt + nlR 1 (p1).toInt ≤ (x_mm_room).toInt + 1) : Met l yX11_saysName (Ws yX11_saysName cX11_saysName 3 none) (({ frames := 1, cells := 0, slots := 0, locals := 21 } : Room)) (PRE (dC, dI) cls [(cy_wri, .int)] [(h_mm, .inr (8, (mo118 v_mm (.ref h_wri) (.int x_mm_writes) (.int x_mm_room)))), (h_wri, .inl (cy_wri, 1000, .inl f_wri))] sz [.ref h_mm, .long p1]) (va_Qv (fun (u : (Int32) × (Nat → Int32)) => (0 ≤ (u.1).toInt ∧ (u.1).toInt ≤ 1000) ∧ ((u.1).toInt = (x_mm_writes).toInt + nlR 1 (p1).toInt)) (fun (u : (Int32) × (Nat → Int32)) (t : State) => va_P (dC, dI) cls [(h_mm, .inr (8, (mo118 v_mm (.ref h_wri) (.int u.1) (.int x_mm_room)))), (h_wri, .inl (cy_wri, 1000, .inl u.2))] t.heap ∧ va_D (va_A [(h_mm, .inr (8, (mo118 v_mm (.ref h_wri) (.int x_mm_writes) (.int x_mm_room)))), (h_wri, .inl (cy_wri, 1000, .inl f_wri))] sz) [(h_mm, .inr (8, (mo118 v_mm (.ref h_wri) (.int u.1) (.int x_mm_room)))), (h_wri, .inl (cy_wri, 1000, .inl u.2))]) (va_A [(h_mm, .inr (8, (mo118 v_mm (.ref h_wri) (.int x_mm_writes) (.int x_mm_room)))), (h_wri, .inl (cy_wri, 1000, .inl f_wri))] sz)) 0 0 (va_A [(h_mm, .inr (8, (mo118 v_mm (.ref h_wri) (.int x_mm_writes) (.int x_mm_room)))), (h_wri, .inl (cy_wri, 1000, .inl f_wri))] sz) := by
  refine Met.ofW (cc := cX11_saysName) (maxL := 3) (ret := none) (by decide) rfl ?_
  intro p e s m args below meth c s₁ B hml hv
  obtain ⟨rfl, hsz, hP, hK, hD0, hN⟩ := hv
  have hx := B.exec
  have hb := B.bytes
  have hr := B.returns
  have hts := atoms_spec (ws := Ws yX11_saysName cX11_saysName 3 none) B.pre
  have hT : ∀ w ∈ WALL, w ∈ Ws yX11_saysName cX11_saysName 3 none := fun w h => List.mem_cons_of_mem _ h
  have hw := fun w (h : w ∈ WALL) => hts w (hT w h)
  have hown : s.vm.findClass RX11 = some m.cls := findClass_of_methodNamed B.named
  have hlocks := B.notSynchronized
  subst hsz
  have hD := hD0.self (sz := s.heap.size)
  generalize hAe : va_A [(h_mm, .inr (8, (mo118 v_mm (.ref h_wri) (.int x_mm_writes) (.int x_mm_room)))), (h_wri, .inl (cy_wri, 1000, .inl f_wri))] s.heap.size = A at hD ⊢
  have hA : ∀ q : Nat, s.heap.size ≤ q → A q := fun q h => by rw [← hAe]; exact Or.inr h
  have hS : va_S A s.heap s.heap [] := va_S.rf
  have hl := lv_entry ([.ref h_mm, .long p1]) (n := 3) (Nat.le_of_ble_eq_true rfl)
  rw [lg_entry_eq]
  generalize (lg_sl ([.ref h_mm, .long p1]) ++ List.replicate (3 - (lg_sl ([.ref h_mm, .long p1])).length) Slot.unset).toArray = ls at hl ⊢
  have hl : lv_has ls 3 [(0, .ref h_mm), (1, .long p1)] := hl
  refine lv_lload_n hx hb dX11_saysName_0 rfl (lv_at hl 1 rfl) ?_
  refine lv_ldc2 (v := 27) hx hb hown (hw _ w_cl_X11_93) dX11_saysName_1 ?_
  refine W.lcmp hx hb dX11_saysName_4 ?_
  refine lv_topi (fun z1 ez1 => ?_)
  have gz1 := lgc p1 27
  rw [← ez1] at gz1
  have : (27 : Int64).toInt = 27 := by decide
  have nr9 : nlR 1 (p1).toInt = _ := nlR_s 0 (p1).toInt
  refine lv_if_le (tgt := 19) hx hb dX11_saysName_5 (by decide) (fun _ => ?_) (fun c2 => False.elim (by have kc2 := (not_congr (cv_le (rfl : (z1).toInt = (z1).toInt) (by decide : (0 : Int32).toInt = 0))).mp c2; omega))
  rw [if_neg (by omega)] at nr9
  refine lv_aload_n hx hb dX11_saysName_19 rfl (lv_at hl 0 rfl) ?_
  refine lv_bipush (v := 97) hx hb dX11_saysName_20 (by decide) ?_
  refine lv_lload_n hx hb dX11_saysName_22 rfl (lv_at hl 1 rfl) ?_
  refine lv_lconst (v := 1) hx hb dX11_saysName_23 (by decide) ?_
  refine lv_lsub hx hb dX11_saysName_24 ?_
  refine lv_topl (fun z3 ez3 => ?_)
  refine lv_ldc2 (v := 27) hx hb hown (hw _ w_cl_X11_93) dX11_saysName_25 ?_
  refine lv_lrem hx hb dX11_saysName_28 (by decide) ?_
  refine lv_topl (fun z4 ez4 => ?_)
  refine lv_l2i hx hb dX11_saysName_29 rfl ?_
  refine lv_topi (fun z5 ez5 => ?_)
  refine lv_iadd hx hb dX11_saysName_30 ?_
  refine lv_topi (fun z6 ez6 => ?_)
  have hPc := hP.sub (ws' := [(h_mm, .inr (8, (mo118 v_mm (.ref h_wri) (.int x_mm_writes) (.int x_mm_room)))), (h_wri, .inl (cy_wri, 1000, .inl f_wri))]) [0, 1] rfl
  have hDc := hD.sub (ws' := [(h_mm, .inr (8, (mo118 v_mm (.ref h_wri) (.int x_mm_writes) (.int x_mm_room)))), (h_wri, .inl (cy_wri, 1000, .inl f_wri))]) [0, 1] (by decide) rfl
  have hKc := hK.sub (tys' := [(cy_wri, .int)]) [0] rfl
  have hFc := va_free (wc := [(h_mm, .inr (8, (mo118 v_mm (.ref h_wri) (.int x_mm_writes) (.int x_mm_room)))), (h_wri, .inl (cy_wri, 1000, .inl f_wri))]) hD hS hA [0, 1] rfl
  refine va_callv (va_runV (As := [.int z6]) (rest := []) ⟨hx, hb, hml, hown, hts⟩ (c_X11_says_n l dC dI s.heap.size h_mm h_wri v_mm x_mm_writes x_mm_room cy_wri f_wri z6 (by first | exact hx_mm_writes | omega) (by first | exact hx_mm_room | omega) (by omega)) (cwV 1 hts (gv hT w_m_X11_452 w_instanceMethod_X11_says ws_sel_X11_says w_ini_X11 w_code_X11_says) rfl rfl rfl (by decide +kernel) ⟨(Nat.le_of_ble_eq_true rfl), (Nat.le_of_ble_eq_true rfl)⟩) ⟨pre_blind, va_recv hK hP (ci := 8) (q0 := 0) rfl rfl, pre_of hPc hKc hDc hN⟩ rfl rfl hl.1 rfl (lv_room (Nat.le_of_ble_eq_true rfl)) dX11_saysName_31 ⟨(Nat.le_of_ble_eq_true rfl), (Nat.le_of_ble_eq_true rfl)⟩) hS (fun q _ h => hFc q h) hFc (fun u t H locs ht hvm hq hB hz1 hk1 hS9 => ?_)
  obtain ⟨z8, f9⟩ := u
  obtain ⟨hP1, hD1⟩ := hB
  rw [ht] at hP1
  obtain ⟨hP9, hD9⟩ := va_join (wr := []) (w1 := [(h_mm, .inr (8, (mo118 v_mm (.ref h_wri) (.int z8) (.int x_mm_room)))), (h_wri, .inl (cy_wri, 1000, .inl f9))]) hP hD [0, 1] [] rfl rfl (by decide) (by decide) hk1 hFc hP1 hD1
  clear hP hD hS hPc hDc hKc hFc hP1 hD1 hk1 hz1 ht hvm
  have hP : va_P (dC, dI) cls [(h_mm, .inr (8, (mo118 v_mm (.ref h_wri) (.int z8) (.int x_mm_room)))), (h_wri, .inl (cy_wri, 1000, .inl f9))] H := hP9
  have hD : va_D A [(h_mm, .inr (8, (mo118 v_mm (.ref h_wri) (.int z8) (.int x_mm_room)))), (h_wri, .inl (cy_wri, 1000, .inl f9))] := hD9
  have hS := hS9
  clear hP9 hD9 hS9
  obtain ⟨k10, k11⟩ := hq
  replace k10 : 0 ≤ ((z8)).toInt ∧ ((z8)).toInt ≤ 1000 := k10
  replace k11 : ((z8)).toInt = ((x_mm_writes)).toInt + 1 := k11
  refine W.widen (k := 0) (n := 0) (Nat.le_of_ble_eq_true rfl) (Nat.le_of_ble_eq_true rfl) ?_
  have w12 : 0 ≤ ((z8)).toInt ∧ ((z8)).toInt ≤ 1000 := by first | exact k10 | omega
  have w13 : ((z8)).toInt = (x_mm_writes).toInt + nlR 1 (p1).toInt := by omega
  exact W.vret hx hb hr (fun t ht hW => ⟨⟨(z8, f9), rfl, ⟨w12, w13⟩, by rw [ht]; exact hP, hD⟩, hS.F ht⟩) hS.2.2 dX11_saysName_34

set_option maxHeartbeats 8000000 in
set_option maxRecDepth 100000 in
theorem c_X11_saysName_n1 (l : Launch) (dC : Nat → ClassId) (dI : Nat → Nat → Nat) (sz : Nat) (h_mm : Nat) (h_wri : Nat) (v_mm : Nat → Value) (x_mm_writes : Int32) (x_mm_room : Int32) (cy_wri : ClassId) (f_wri : Nat → Int32) (p1 : Int64) (hx_mm_writes : 0 ≤ (x_mm_writes).toInt ∧ (x_mm_writes).toInt ≤ 1000) (hx_mm_room : 0 ≤ (x_mm_room).toInt ∧ (x_mm_room).toInt ≤ 998) (q0 : (p1).toInt ≤ 756) (q1 : 1 ≤ (p1).toInt) (q2 : (x_mm_writes).toInt + nlR 2 (p1).toInt ≤ (x_mm_room).toInt + 1) : Met l yX11_saysName (Ws yX11_saysName cX11_saysName 3 none) (({ frames := 2, cells := 0, slots := 0, locals := 43 } : Room)) (PRE (dC, dI) cls [(cy_wri, .int)] [(h_mm, .inr (8, (mo118 v_mm (.ref h_wri) (.int x_mm_writes) (.int x_mm_room)))), (h_wri, .inl (cy_wri, 1000, .inl f_wri))] sz [.ref h_mm, .long p1]) (va_Qv (fun (u : (Int32) × (Nat → Int32)) => (0 ≤ (u.1).toInt ∧ (u.1).toInt ≤ 1000) ∧ ((u.1).toInt = (x_mm_writes).toInt + nlR 2 (p1).toInt)) (fun (u : (Int32) × (Nat → Int32)) (t : State) => va_P (dC, dI) cls [(h_mm, .inr (8, (mo118 v_mm (.ref h_wri) (.int u.1) (.int x_mm_room)))), (h_wri, .inl (cy_wri, 1000, .inl u.2))] t.heap ∧ va_D (va_A [(h_mm, .inr (8, (mo118 v_mm (.ref h_wri) (.int x_mm_writes) (.int x_mm_room)))), (h_wri, .inl (cy_wri, 1000, .inl f_wri))] sz) [(h_mm, .inr (8, (mo118 v_mm (.ref h_wri) (.int u.1) (.int x_mm_room)))), (h_wri, .inl (cy_wri, 1000, .inl u.2))]) (va_A [(h_mm, .inr (8, (mo118 v_mm (.ref h_wri) (.int x_mm_writes) (.int x_mm_room)))), (h_wri, .inl (cy_wri, 1000, .inl f_wri))] sz)) 0 0 (va_A [(h_mm, .inr (8, (mo118 v_mm (.ref h_wri) (.int x_mm_writes) (.int x_mm_room)))), (h_wri, .inl (cy_wri, 1000, .inl f_wri))] sz) := by
  refine Met.ofW (cc := cX11_saysName) (maxL := 3) (ret := none) (by decide) rfl ?_
  intro p e s m args below meth c s₁ B hml hv
  obtain ⟨rfl, hsz, hP, hK, hD0, hN⟩ := hv
  have hx := B.exec
  have hb := B.bytes
  have hr := B.returns
  have hts := atoms_spec (ws := Ws yX11_saysName cX11_saysName 3 none) B.pre
  have hT : ∀ w ∈ WALL, w ∈ Ws yX11_saysName cX11_saysName 3 none := fun w h => List.mem_cons_of_mem _ h
  have hw := fun w (h : w ∈ WALL) => hts w (hT w h)
  have hown : s.vm.findClass RX11 = some m.cls := findClass_of_methodNamed B.named
  have hlocks := B.notSynchronized
  subst hsz
  have hD := hD0.self (sz := s.heap.size)
  generalize hAe : va_A [(h_mm, .inr (8, (mo118 v_mm (.ref h_wri) (.int x_mm_writes) (.int x_mm_room)))), (h_wri, .inl (cy_wri, 1000, .inl f_wri))] s.heap.size = A at hD ⊢
  have hA : ∀ q : Nat, s.heap.size ≤ q → A q := fun q h => by rw [← hAe]; exact Or.inr h
  have hS : va_S A s.heap s.heap [] := va_S.rf
  have hl := lv_entry ([.ref h_mm, .long p1]) (n := 3) (Nat.le_of_ble_eq_true rfl)
  rw [lg_entry_eq]
  generalize (lg_sl ([.ref h_mm, .long p1]) ++ List.replicate (3 - (lg_sl ([.ref h_mm, .long p1])).length) Slot.unset).toArray = ls at hl ⊢
  have hl : lv_has ls 3 [(0, .ref h_mm), (1, .long p1)] := hl
  refine lv_lload_n hx hb dX11_saysName_0 rfl (lv_at hl 1 rfl) ?_
  refine lv_ldc2 (v := 27) hx hb hown (hw _ w_cl_X11_93) dX11_saysName_1 ?_
  refine W.lcmp hx hb dX11_saysName_4 ?_
  refine lv_topi (fun z1 ez1 => ?_)
  have gz1 := lgc p1 27
  rw [← ez1] at gz1
  have : (27 : Int64).toInt = 27 := by decide
  have nr9 : nlR 2 (p1).toInt = _ := nlR_s 1 (p1).toInt
  refine lv_if_le (tgt := 19) hx hb dX11_saysName_5 (by decide) (fun c2 => ?_) (fun c2 => ?_)
  · have kc2 := (cv_le (rfl : (z1).toInt = (z1).toInt) (by decide : (0 : Int32).toInt = 0)).mp c2
    rw [if_neg (by omega)] at nr9
    refine lv_aload_n hx hb dX11_saysName_19 rfl (lv_at hl 0 rfl) ?_
    refine lv_bipush (v := 97) hx hb dX11_saysName_20 (by decide) ?_
    refine lv_lload_n hx hb dX11_saysName_22 rfl (lv_at hl 1 rfl) ?_
    refine lv_lconst (v := 1) hx hb dX11_saysName_23 (by decide) ?_
    refine lv_lsub hx hb dX11_saysName_24 ?_
    refine lv_topl (fun z3 ez3 => ?_)
    refine lv_ldc2 (v := 27) hx hb hown (hw _ w_cl_X11_93) dX11_saysName_25 ?_
    refine lv_lrem hx hb dX11_saysName_28 (by decide) ?_
    refine lv_topl (fun z4 ez4 => ?_)
    refine lv_l2i hx hb dX11_saysName_29 rfl ?_
    refine lv_topi (fun z5 ez5 => ?_)
    refine lv_iadd hx hb dX11_saysName_30 ?_
    refine lv_topi (fun z6 ez6 => ?_)
    have hPc := hP.sub (ws' := [(h_mm, .inr (8, (mo118 v_mm (.ref h_wri) (.int x_mm_writes) (.int x_mm_room)))), (h_wri, .inl (cy_wri, 1000, .inl f_wri))]) [0, 1] rfl
    have hDc := hD.sub (ws' := [(h_mm, .inr (8, (mo118 v_mm (.ref h_wri) (.int x_mm_writes) (.int x_mm_room)))), (h_wri, .inl (cy_wri, 1000, .inl f_wri))]) [0, 1] (by decide) rfl
    have hKc := hK.sub (tys' := [(cy_wri, .int)]) [0] rfl
    have hFc := va_free (wc := [(h_mm, .inr (8, (mo118 v_mm (.ref h_wri) (.int x_mm_writes) (.int x_mm_room)))), (h_wri, .inl (cy_wri, 1000, .inl f_wri))]) hD hS hA [0, 1] rfl
    refine va_callv (va_runV (As := [.int z6]) (rest := []) ⟨hx, hb, hml, hown, hts⟩ (c_X11_says_n l dC dI s.heap.size h_mm h_wri v_mm x_mm_writes x_mm_room cy_wri f_wri z6 (by first | exact hx_mm_writes | omega) (by first | exact hx_mm_room | omega) (by omega)) (cwV 1 hts (gv hT w_m_X11_452 w_instanceMethod_X11_says ws_sel_X11_says w_ini_X11 w_code_X11_says) rfl rfl rfl (by decide +kernel) ⟨(Nat.le_of_ble_eq_true rfl), (Nat.le_of_ble_eq_true rfl)⟩) ⟨pre_blind, va_recv hK hP (ci := 8) (q0 := 0) rfl rfl, pre_of hPc hKc hDc hN⟩ rfl rfl hl.1 rfl (lv_room (Nat.le_of_ble_eq_true rfl)) dX11_saysName_31 ⟨(Nat.le_of_ble_eq_true rfl), (Nat.le_of_ble_eq_true rfl)⟩) hS (fun q _ h => hFc q h) hFc (fun u t H locs ht hvm hq hB hz1 hk1 hS9 => ?_)
    obtain ⟨z8, f9⟩ := u
    obtain ⟨hP1, hD1⟩ := hB
    rw [ht] at hP1
    obtain ⟨hP9, hD9⟩ := va_join (wr := []) (w1 := [(h_mm, .inr (8, (mo118 v_mm (.ref h_wri) (.int z8) (.int x_mm_room)))), (h_wri, .inl (cy_wri, 1000, .inl f9))]) hP hD [0, 1] [] rfl rfl (by decide) (by decide) hk1 hFc hP1 hD1
    clear hP hD hS hPc hDc hKc hFc hP1 hD1 hk1 hz1 ht hvm
    have hP : va_P (dC, dI) cls [(h_mm, .inr (8, (mo118 v_mm (.ref h_wri) (.int z8) (.int x_mm_room)))), (h_wri, .inl (cy_wri, 1000, .inl f9))] H := hP9
    have hD : va_D A [(h_mm, .inr (8, (mo118 v_mm (.ref h_wri) (.int z8) (.int x_mm_room)))), (h_wri, .inl (cy_wri, 1000, .inl f9))] := hD9
    have hS := hS9
    clear hP9 hD9 hS9
    obtain ⟨k10, k11⟩ := hq
    replace k10 : 0 ≤ ((z8)).toInt ∧ ((z8)).toInt ≤ 1000 := k10
    replace k11 : ((z8)).toInt = ((x_mm_writes)).toInt + 1 := k11
    refine W.widen (k := 0) (n := 0) (Nat.le_of_ble_eq_true rfl) (Nat.le_of_ble_eq_true rfl) ?_
    have w12 : 0 ≤ ((z8)).toInt ∧ ((z8)).toInt ≤ 1000 := by first | exact k10 | omega
    have w13 : ((z8)).toInt = (x_mm_writes).toInt + nlR 2 (p1).toInt := by omega
    exact W.vret hx hb hr (fun t ht hW => ⟨⟨(z8, f9), rfl, ⟨w12, w13⟩, by rw [ht]; exact hP, hD⟩, hS.F ht⟩) hS.2.2 dX11_saysName_34
  · have kc2 := (not_congr (cv_le (rfl : (z1).toInt = (z1).toInt) (by decide : (0 : Int32).toInt = 0))).mp c2
    have bd9 := l_bd p1
    rw [if_pos (by omega)] at nr9
    refine lv_aload_n hx hb dX11_saysName_8 rfl (lv_at hl 0 rfl) ?_
    refine lv_lload_n hx hb dX11_saysName_9 rfl (lv_at hl 1 rfl) ?_
    refine lv_lconst (v := 1) hx hb dX11_saysName_10 (by decide) ?_
    refine lv_lsub hx hb dX11_saysName_11 ?_
    refine lv_topl (fun z14 ez14 => ?_)
    have tz14 : (z14).toInt = (p1).toInt - 1 := by rw [ez14]; exact l_sub rfl (by decide) (by omega)
    refine lv_ldc2 (v := 27) hx hb hown (hw _ w_cl_X11_93) dX11_saysName_12 ?_
    refine lv_ldiv hx hb dX11_saysName_15 (by decide) ?_
    refine lv_topl (fun z15 ez15 => ?_)
    have tz15 : 0 ≤ (z14).toInt → (z15).toInt = (z14).toInt / 27 := fun h9 => by rw [ez15]; exact l_div rfl (by decide) (by omega)
    have dv9 := tz15 (by omega)
    have dw9 : ((p1).toInt - 1) / 27 = (z15).toInt := by omega
    rw [dw9] at nr9
    have ng9 := nlR_ge 1 (z15).toInt
    have hPc := hP.sub (ws' := [(h_mm, .inr (8, (mo118 v_mm (.ref h_wri) (.int x_mm_writes) (.int x_mm_room)))), (h_wri, .inl (cy_wri, 1000, .inl f_wri))]) [0, 1] rfl
    have hDc := hD.sub (ws' := [(h_mm, .inr (8, (mo118 v_mm (.ref h_wri) (.int x_mm_writes) (.int x_mm_room)))), (h_wri, .inl (cy_wri, 1000, .inl f_wri))]) [0, 1] (by decide) rfl
    have hKc := hK.sub (tys' := [(cy_wri, .int)]) [0] rfl
    have hFc := va_free (wc := [(h_mm, .inr (8, (mo118 v_mm (.ref h_wri) (.int x_mm_writes) (.int x_mm_room)))), (h_wri, .inl (cy_wri, 1000, .inl f_wri))]) hD hS hA [0, 1] rfl
    refine va_callv (va_runV (As := [.long z15]) (rest := []) ⟨hx, hb, hml, hown, hts⟩ (c_X11_saysName_n0 l dC dI s.heap.size h_mm h_wri v_mm x_mm_writes x_mm_room cy_wri f_wri z15 (by first | exact hx_mm_writes | omega) (by first | exact hx_mm_room | omega) (by omega) (by omega) (by omega)) (cwV 1 hts (gv hT w_m_X11_455 w_instanceMethod_X11_saysName ws_sel_X11_saysName w_ini_X11 w_code_X11_saysName) rfl rfl rfl (by decide +kernel) ⟨(Nat.le_of_ble_eq_true rfl), (Nat.le_of_ble_eq_true rfl)⟩) ⟨pre_blind, va_recv hK hP (ci := 8) (q0 := 0) rfl rfl, pre_of hPc hKc hDc hN⟩ rfl rfl hl.1 rfl (lv_room (Nat.le_of_ble_eq_true rfl)) dX11_saysName_16 ⟨(Nat.le_of_ble_eq_true rfl), (Nat.le_of_ble_eq_true rfl)⟩) hS (fun q _ h => hFc q h) hFc (fun u t H locs ht hvm hq hB hz1 hk1 hS9 => ?_)
    obtain ⟨z17, f18⟩ := u
    obtain ⟨hP1, hD1⟩ := hB
    rw [ht] at hP1
    obtain ⟨hP9, hD9⟩ := va_join (wr := []) (w1 := [(h_mm, .inr (8, (mo118 v_mm (.ref h_wri) (.int z17) (.int x_mm_room)))), (h_wri, .inl (cy_wri, 1000, .inl f18))]) hP hD [0, 1] [] rfl rfl (by decide) (by decide) hk1 hFc hP1 hD1
    clear hP hD hS hPc hDc hKc hFc hP1 hD1 hk1 hz1 ht hvm
    have hP : va_P (dC, dI) cls [(h_mm, .inr (8, (mo118 v_mm (.ref h_wri) (.int z17) (.int x_mm_room)))), (h_wri, .inl (cy_wri, 1000, .inl f18))] H := hP9
    have hD : va_D A [(h_mm, .inr (8, (mo118 v_mm (.ref h_wri) (.int z17) (.int x_mm_room)))), (h_wri, .inl (cy_wri, 1000, .inl f18))] := hD9
    have hS := hS9
    clear hP9 hD9 hS9
    obtain ⟨k19, k20⟩ := hq
    replace k19 : 0 ≤ ((z17)).toInt ∧ ((z17)).toInt ≤ 1000 := k19
    replace k20 : ((z17)).toInt = ((x_mm_writes)).toInt + nlR 1 ((z15)).toInt := k20
    refine lv_aload_n hx hb dX11_saysName_19 rfl (lv_at hl 0 rfl) ?_
    refine lv_bipush (v := 97) hx hb dX11_saysName_20 (by decide) ?_
    refine lv_lload_n hx hb dX11_saysName_22 rfl (lv_at hl 1 rfl) ?_
    refine lv_lconst (v := 1) hx hb dX11_saysName_23 (by decide) ?_
    refine lv_lsub hx hb dX11_saysName_24 ?_
    refine lv_topl (fun z21 ez21 => ?_)
    refine lv_ldc2 (v := 27) hx hb hown (hw _ w_cl_X11_93) dX11_saysName_25 ?_
    refine lv_lrem hx hb dX11_saysName_28 (by decide) ?_
    refine lv_topl (fun z22 ez22 => ?_)
    refine lv_l2i hx hb dX11_saysName_29 rfl ?_
    refine lv_topi (fun z23 ez23 => ?_)
    refine lv_iadd hx hb dX11_saysName_30 ?_
    refine lv_topi (fun z24 ez24 => ?_)
    have hPc := hP.sub (ws' := [(h_mm, .inr (8, (mo118 v_mm (.ref h_wri) (.int z17) (.int x_mm_room)))), (h_wri, .inl (cy_wri, 1000, .inl f18))]) [0, 1] rfl
    have hDc := hD.sub (ws' := [(h_mm, .inr (8, (mo118 v_mm (.ref h_wri) (.int z17) (.int x_mm_room)))), (h_wri, .inl (cy_wri, 1000, .inl f18))]) [0, 1] (by decide) rfl
    have hKc := hK.sub (tys' := [(cy_wri, .int)]) [0] rfl
    have hFc := va_free (wc := [(h_mm, .inr (8, (mo118 v_mm (.ref h_wri) (.int z17) (.int x_mm_room)))), (h_wri, .inl (cy_wri, 1000, .inl f18))]) hD hS hA [0, 1] rfl
    refine va_callv (va_runV (As := [.int z24]) (rest := []) ⟨hx, hb, hml, hown, hts⟩ (c_X11_says_n l dC dI H.size h_mm h_wri v_mm z17 x_mm_room cy_wri f18 z24 (by first | exact k19 | omega) (by first | exact hx_mm_room | omega) (by omega)) (cwV 1 hts (gv hT w_m_X11_452 w_instanceMethod_X11_says ws_sel_X11_says w_ini_X11 w_code_X11_says) rfl rfl rfl (by decide +kernel) ⟨(Nat.le_of_ble_eq_true rfl), (Nat.le_of_ble_eq_true rfl)⟩) ⟨pre_blind, va_recv hK hP (ci := 8) (q0 := 0) rfl rfl, pre_of hPc hKc hDc hN⟩ rfl rfl hl.1 rfl (lv_room (Nat.le_of_ble_eq_true rfl)) dX11_saysName_31 ⟨(Nat.le_of_ble_eq_true rfl), (Nat.le_of_ble_eq_true rfl)⟩) hS (fun q _ h => hFc q h) hFc (fun u t H locs ht hvm hq hB hz1 hk1 hS9 => ?_)
    obtain ⟨z26, f27⟩ := u
    obtain ⟨hP1, hD1⟩ := hB
    rw [ht] at hP1
    obtain ⟨hP9, hD9⟩ := va_join (wr := []) (w1 := [(h_mm, .inr (8, (mo118 v_mm (.ref h_wri) (.int z26) (.int x_mm_room)))), (h_wri, .inl (cy_wri, 1000, .inl f27))]) hP hD [0, 1] [] rfl rfl (by decide) (by decide) hk1 hFc hP1 hD1
    clear hP hD hS hPc hDc hKc hFc hP1 hD1 hk1 hz1 ht hvm
    have hP : va_P (dC, dI) cls [(h_mm, .inr (8, (mo118 v_mm (.ref h_wri) (.int z26) (.int x_mm_room)))), (h_wri, .inl (cy_wri, 1000, .inl f27))] H := hP9
    have hD : va_D A [(h_mm, .inr (8, (mo118 v_mm (.ref h_wri) (.int z26) (.int x_mm_room)))), (h_wri, .inl (cy_wri, 1000, .inl f27))] := hD9
    have hS := hS9
    clear hP9 hD9 hS9
    obtain ⟨k28, k29⟩ := hq
    replace k28 : 0 ≤ ((z26)).toInt ∧ ((z26)).toInt ≤ 1000 := k28
    replace k29 : ((z26)).toInt = ((z17)).toInt + 1 := k29
    refine W.widen (k := 0) (n := 0) (Nat.le_of_ble_eq_true rfl) (Nat.le_of_ble_eq_true rfl) ?_
    have w30 : 0 ≤ ((z26)).toInt ∧ ((z26)).toInt ≤ 1000 := by first | exact k28 | omega
    have w31 : ((z26)).toInt = (x_mm_writes).toInt + nlR 2 (p1).toInt := by omega
    exact W.vret hx hb hr (fun t ht hW => ⟨⟨(z26, f27), rfl, ⟨w30, w31⟩, by rw [ht]; exact hP, hD⟩, hS.F ht⟩) hS.2.2 dX11_saysName_34

set_option maxHeartbeats 8000000 in
set_option maxRecDepth 100000 in
theorem c_X11_saysName_n2 (l : Launch) (dC : Nat → ClassId) (dI : Nat → Nat → Nat) (sz : Nat) (h_mm : Nat) (h_wri : Nat) (v_mm : Nat → Value) (x_mm_writes : Int32) (x_mm_room : Int32) (cy_wri : ClassId) (f_wri : Nat → Int32) (p1 : Int64) (hx_mm_writes : 0 ≤ (x_mm_writes).toInt ∧ (x_mm_writes).toInt ≤ 1000) (hx_mm_room : 0 ≤ (x_mm_room).toInt ∧ (x_mm_room).toInt ≤ 998) (q0 : (p1).toInt ≤ 20439) (q1 : 1 ≤ (p1).toInt) (q2 : (x_mm_writes).toInt + nlR 3 (p1).toInt ≤ (x_mm_room).toInt + 1) : Met l yX11_saysName (Ws yX11_saysName cX11_saysName 3 none) (({ frames := 3, cells := 0, slots := 0, locals := 65 } : Room)) (PRE (dC, dI) cls [(cy_wri, .int)] [(h_mm, .inr (8, (mo118 v_mm (.ref h_wri) (.int x_mm_writes) (.int x_mm_room)))), (h_wri, .inl (cy_wri, 1000, .inl f_wri))] sz [.ref h_mm, .long p1]) (va_Qv (fun (u : (Int32) × (Nat → Int32)) => (0 ≤ (u.1).toInt ∧ (u.1).toInt ≤ 1000) ∧ ((u.1).toInt = (x_mm_writes).toInt + nlR 3 (p1).toInt)) (fun (u : (Int32) × (Nat → Int32)) (t : State) => va_P (dC, dI) cls [(h_mm, .inr (8, (mo118 v_mm (.ref h_wri) (.int u.1) (.int x_mm_room)))), (h_wri, .inl (cy_wri, 1000, .inl u.2))] t.heap ∧ va_D (va_A [(h_mm, .inr (8, (mo118 v_mm (.ref h_wri) (.int x_mm_writes) (.int x_mm_room)))), (h_wri, .inl (cy_wri, 1000, .inl f_wri))] sz) [(h_mm, .inr (8, (mo118 v_mm (.ref h_wri) (.int u.1) (.int x_mm_room)))), (h_wri, .inl (cy_wri, 1000, .inl u.2))]) (va_A [(h_mm, .inr (8, (mo118 v_mm (.ref h_wri) (.int x_mm_writes) (.int x_mm_room)))), (h_wri, .inl (cy_wri, 1000, .inl f_wri))] sz)) 0 0 (va_A [(h_mm, .inr (8, (mo118 v_mm (.ref h_wri) (.int x_mm_writes) (.int x_mm_room)))), (h_wri, .inl (cy_wri, 1000, .inl f_wri))] sz) := by
  refine Met.ofW (cc := cX11_saysName) (maxL := 3) (ret := none) (by decide) rfl ?_
  intro p e s m args below meth c s₁ B hml hv
  obtain ⟨rfl, hsz, hP, hK, hD0, hN⟩ := hv
  have hx := B.exec
  have hb := B.bytes
  have hr := B.returns
  have hts := atoms_spec (ws := Ws yX11_saysName cX11_saysName 3 none) B.pre
  have hT : ∀ w ∈ WALL, w ∈ Ws yX11_saysName cX11_saysName 3 none := fun w h => List.mem_cons_of_mem _ h
  have hw := fun w (h : w ∈ WALL) => hts w (hT w h)
  have hown : s.vm.findClass RX11 = some m.cls := findClass_of_methodNamed B.named
  have hlocks := B.notSynchronized
  subst hsz
  have hD := hD0.self (sz := s.heap.size)
  generalize hAe : va_A [(h_mm, .inr (8, (mo118 v_mm (.ref h_wri) (.int x_mm_writes) (.int x_mm_room)))), (h_wri, .inl (cy_wri, 1000, .inl f_wri))] s.heap.size = A at hD ⊢
  have hA : ∀ q : Nat, s.heap.size ≤ q → A q := fun q h => by rw [← hAe]; exact Or.inr h
  have hS : va_S A s.heap s.heap [] := va_S.rf
  have hl := lv_entry ([.ref h_mm, .long p1]) (n := 3) (Nat.le_of_ble_eq_true rfl)
  rw [lg_entry_eq]
  generalize (lg_sl ([.ref h_mm, .long p1]) ++ List.replicate (3 - (lg_sl ([.ref h_mm, .long p1])).length) Slot.unset).toArray = ls at hl ⊢
  have hl : lv_has ls 3 [(0, .ref h_mm), (1, .long p1)] := hl
  refine lv_lload_n hx hb dX11_saysName_0 rfl (lv_at hl 1 rfl) ?_
  refine lv_ldc2 (v := 27) hx hb hown (hw _ w_cl_X11_93) dX11_saysName_1 ?_
  refine W.lcmp hx hb dX11_saysName_4 ?_
  refine lv_topi (fun z1 ez1 => ?_)
  have gz1 := lgc p1 27
  rw [← ez1] at gz1
  have : (27 : Int64).toInt = 27 := by decide
  have nr9 : nlR 3 (p1).toInt = _ := nlR_s 2 (p1).toInt
  refine lv_if_le (tgt := 19) hx hb dX11_saysName_5 (by decide) (fun c2 => ?_) (fun c2 => ?_)
  · have kc2 := (cv_le (rfl : (z1).toInt = (z1).toInt) (by decide : (0 : Int32).toInt = 0)).mp c2
    rw [if_neg (by omega)] at nr9
    refine lv_aload_n hx hb dX11_saysName_19 rfl (lv_at hl 0 rfl) ?_
    refine lv_bipush (v := 97) hx hb dX11_saysName_20 (by decide) ?_
    refine lv_lload_n hx hb dX11_saysName_22 rfl (lv_at hl 1 rfl) ?_
    refine lv_lconst (v := 1) hx hb dX11_saysName_23 (by decide) ?_
    refine lv_lsub hx hb dX11_saysName_24 ?_
    refine lv_topl (fun z3 ez3 => ?_)
    refine lv_ldc2 (v := 27) hx hb hown (hw _ w_cl_X11_93) dX11_saysName_25 ?_
    refine lv_lrem hx hb dX11_saysName_28 (by decide) ?_
    refine lv_topl (fun z4 ez4 => ?_)
    refine lv_l2i hx hb dX11_saysName_29 rfl ?_
    refine lv_topi (fun z5 ez5 => ?_)
    refine lv_iadd hx hb dX11_saysName_30 ?_
    refine lv_topi (fun z6 ez6 => ?_)
    have hPc := hP.sub (ws' := [(h_mm, .inr (8, (mo118 v_mm (.ref h_wri) (.int x_mm_writes) (.int x_mm_room)))), (h_wri, .inl (cy_wri, 1000, .inl f_wri))]) [0, 1] rfl
    have hDc := hD.sub (ws' := [(h_mm, .inr (8, (mo118 v_mm (.ref h_wri) (.int x_mm_writes) (.int x_mm_room)))), (h_wri, .inl (cy_wri, 1000, .inl f_wri))]) [0, 1] (by decide) rfl
    have hKc := hK.sub (tys' := [(cy_wri, .int)]) [0] rfl
    have hFc := va_free (wc := [(h_mm, .inr (8, (mo118 v_mm (.ref h_wri) (.int x_mm_writes) (.int x_mm_room)))), (h_wri, .inl (cy_wri, 1000, .inl f_wri))]) hD hS hA [0, 1] rfl
    refine va_callv (va_runV (As := [.int z6]) (rest := []) ⟨hx, hb, hml, hown, hts⟩ (c_X11_says_n l dC dI s.heap.size h_mm h_wri v_mm x_mm_writes x_mm_room cy_wri f_wri z6 (by first | exact hx_mm_writes | omega) (by first | exact hx_mm_room | omega) (by omega)) (cwV 1 hts (gv hT w_m_X11_452 w_instanceMethod_X11_says ws_sel_X11_says w_ini_X11 w_code_X11_says) rfl rfl rfl (by decide +kernel) ⟨(Nat.le_of_ble_eq_true rfl), (Nat.le_of_ble_eq_true rfl)⟩) ⟨pre_blind, va_recv hK hP (ci := 8) (q0 := 0) rfl rfl, pre_of hPc hKc hDc hN⟩ rfl rfl hl.1 rfl (lv_room (Nat.le_of_ble_eq_true rfl)) dX11_saysName_31 ⟨(Nat.le_of_ble_eq_true rfl), (Nat.le_of_ble_eq_true rfl)⟩) hS (fun q _ h => hFc q h) hFc (fun u t H locs ht hvm hq hB hz1 hk1 hS9 => ?_)
    obtain ⟨z8, f9⟩ := u
    obtain ⟨hP1, hD1⟩ := hB
    rw [ht] at hP1
    obtain ⟨hP9, hD9⟩ := va_join (wr := []) (w1 := [(h_mm, .inr (8, (mo118 v_mm (.ref h_wri) (.int z8) (.int x_mm_room)))), (h_wri, .inl (cy_wri, 1000, .inl f9))]) hP hD [0, 1] [] rfl rfl (by decide) (by decide) hk1 hFc hP1 hD1
    clear hP hD hS hPc hDc hKc hFc hP1 hD1 hk1 hz1 ht hvm
    have hP : va_P (dC, dI) cls [(h_mm, .inr (8, (mo118 v_mm (.ref h_wri) (.int z8) (.int x_mm_room)))), (h_wri, .inl (cy_wri, 1000, .inl f9))] H := hP9
    have hD : va_D A [(h_mm, .inr (8, (mo118 v_mm (.ref h_wri) (.int z8) (.int x_mm_room)))), (h_wri, .inl (cy_wri, 1000, .inl f9))] := hD9
    have hS := hS9
    clear hP9 hD9 hS9
    obtain ⟨k10, k11⟩ := hq
    replace k10 : 0 ≤ ((z8)).toInt ∧ ((z8)).toInt ≤ 1000 := k10
    replace k11 : ((z8)).toInt = ((x_mm_writes)).toInt + 1 := k11
    refine W.widen (k := 0) (n := 0) (Nat.le_of_ble_eq_true rfl) (Nat.le_of_ble_eq_true rfl) ?_
    have w12 : 0 ≤ ((z8)).toInt ∧ ((z8)).toInt ≤ 1000 := by first | exact k10 | omega
    have w13 : ((z8)).toInt = (x_mm_writes).toInt + nlR 3 (p1).toInt := by omega
    exact W.vret hx hb hr (fun t ht hW => ⟨⟨(z8, f9), rfl, ⟨w12, w13⟩, by rw [ht]; exact hP, hD⟩, hS.F ht⟩) hS.2.2 dX11_saysName_34
  · have kc2 := (not_congr (cv_le (rfl : (z1).toInt = (z1).toInt) (by decide : (0 : Int32).toInt = 0))).mp c2
    have bd9 := l_bd p1
    rw [if_pos (by omega)] at nr9
    refine lv_aload_n hx hb dX11_saysName_8 rfl (lv_at hl 0 rfl) ?_
    refine lv_lload_n hx hb dX11_saysName_9 rfl (lv_at hl 1 rfl) ?_
    refine lv_lconst (v := 1) hx hb dX11_saysName_10 (by decide) ?_
    refine lv_lsub hx hb dX11_saysName_11 ?_
    refine lv_topl (fun z14 ez14 => ?_)
    have tz14 : (z14).toInt = (p1).toInt - 1 := by rw [ez14]; exact l_sub rfl (by decide) (by omega)
    refine lv_ldc2 (v := 27) hx hb hown (hw _ w_cl_X11_93) dX11_saysName_12 ?_
    refine lv_ldiv hx hb dX11_saysName_15 (by decide) ?_
    refine lv_topl (fun z15 ez15 => ?_)
    have tz15 : 0 ≤ (z14).toInt → (z15).toInt = (z14).toInt / 27 := fun h9 => by rw [ez15]; exact l_div rfl (by decide) (by omega)
    have dv9 := tz15 (by omega)
    have dw9 : ((p1).toInt - 1) / 27 = (z15).toInt := by omega
    rw [dw9] at nr9
    have ng9 := nlR_ge 2 (z15).toInt
    have hPc := hP.sub (ws' := [(h_mm, .inr (8, (mo118 v_mm (.ref h_wri) (.int x_mm_writes) (.int x_mm_room)))), (h_wri, .inl (cy_wri, 1000, .inl f_wri))]) [0, 1] rfl
    have hDc := hD.sub (ws' := [(h_mm, .inr (8, (mo118 v_mm (.ref h_wri) (.int x_mm_writes) (.int x_mm_room)))), (h_wri, .inl (cy_wri, 1000, .inl f_wri))]) [0, 1] (by decide) rfl
    have hKc := hK.sub (tys' := [(cy_wri, .int)]) [0] rfl
    have hFc := va_free (wc := [(h_mm, .inr (8, (mo118 v_mm (.ref h_wri) (.int x_mm_writes) (.int x_mm_room)))), (h_wri, .inl (cy_wri, 1000, .inl f_wri))]) hD hS hA [0, 1] rfl
    refine va_callv (va_runV (As := [.long z15]) (rest := []) ⟨hx, hb, hml, hown, hts⟩ (c_X11_saysName_n1 l dC dI s.heap.size h_mm h_wri v_mm x_mm_writes x_mm_room cy_wri f_wri z15 (by first | exact hx_mm_writes | omega) (by first | exact hx_mm_room | omega) (by omega) (by omega) (by omega)) (cwV 1 hts (gv hT w_m_X11_455 w_instanceMethod_X11_saysName ws_sel_X11_saysName w_ini_X11 w_code_X11_saysName) rfl rfl rfl (by decide +kernel) ⟨(Nat.le_of_ble_eq_true rfl), (Nat.le_of_ble_eq_true rfl)⟩) ⟨pre_blind, va_recv hK hP (ci := 8) (q0 := 0) rfl rfl, pre_of hPc hKc hDc hN⟩ rfl rfl hl.1 rfl (lv_room (Nat.le_of_ble_eq_true rfl)) dX11_saysName_16 ⟨(Nat.le_of_ble_eq_true rfl), (Nat.le_of_ble_eq_true rfl)⟩) hS (fun q _ h => hFc q h) hFc (fun u t H locs ht hvm hq hB hz1 hk1 hS9 => ?_)
    obtain ⟨z17, f18⟩ := u
    obtain ⟨hP1, hD1⟩ := hB
    rw [ht] at hP1
    obtain ⟨hP9, hD9⟩ := va_join (wr := []) (w1 := [(h_mm, .inr (8, (mo118 v_mm (.ref h_wri) (.int z17) (.int x_mm_room)))), (h_wri, .inl (cy_wri, 1000, .inl f18))]) hP hD [0, 1] [] rfl rfl (by decide) (by decide) hk1 hFc hP1 hD1
    clear hP hD hS hPc hDc hKc hFc hP1 hD1 hk1 hz1 ht hvm
    have hP : va_P (dC, dI) cls [(h_mm, .inr (8, (mo118 v_mm (.ref h_wri) (.int z17) (.int x_mm_room)))), (h_wri, .inl (cy_wri, 1000, .inl f18))] H := hP9
    have hD : va_D A [(h_mm, .inr (8, (mo118 v_mm (.ref h_wri) (.int z17) (.int x_mm_room)))), (h_wri, .inl (cy_wri, 1000, .inl f18))] := hD9
    have hS := hS9
    clear hP9 hD9 hS9
    obtain ⟨k19, k20⟩ := hq
    replace k19 : 0 ≤ ((z17)).toInt ∧ ((z17)).toInt ≤ 1000 := k19
    replace k20 : ((z17)).toInt = ((x_mm_writes)).toInt + nlR 2 ((z15)).toInt := k20
    refine lv_aload_n hx hb dX11_saysName_19 rfl (lv_at hl 0 rfl) ?_
    refine lv_bipush (v := 97) hx hb dX11_saysName_20 (by decide) ?_
    refine lv_lload_n hx hb dX11_saysName_22 rfl (lv_at hl 1 rfl) ?_
    refine lv_lconst (v := 1) hx hb dX11_saysName_23 (by decide) ?_
    refine lv_lsub hx hb dX11_saysName_24 ?_
    refine lv_topl (fun z21 ez21 => ?_)
    refine lv_ldc2 (v := 27) hx hb hown (hw _ w_cl_X11_93) dX11_saysName_25 ?_
    refine lv_lrem hx hb dX11_saysName_28 (by decide) ?_
    refine lv_topl (fun z22 ez22 => ?_)
    refine lv_l2i hx hb dX11_saysName_29 rfl ?_
    refine lv_topi (fun z23 ez23 => ?_)
    refine lv_iadd hx hb dX11_saysName_30 ?_
    refine lv_topi (fun z24 ez24 => ?_)
    have hPc := hP.sub (ws' := [(h_mm, .inr (8, (mo118 v_mm (.ref h_wri) (.int z17) (.int x_mm_room)))), (h_wri, .inl (cy_wri, 1000, .inl f18))]) [0, 1] rfl
    have hDc := hD.sub (ws' := [(h_mm, .inr (8, (mo118 v_mm (.ref h_wri) (.int z17) (.int x_mm_room)))), (h_wri, .inl (cy_wri, 1000, .inl f18))]) [0, 1] (by decide) rfl
    have hKc := hK.sub (tys' := [(cy_wri, .int)]) [0] rfl
    have hFc := va_free (wc := [(h_mm, .inr (8, (mo118 v_mm (.ref h_wri) (.int z17) (.int x_mm_room)))), (h_wri, .inl (cy_wri, 1000, .inl f18))]) hD hS hA [0, 1] rfl
    refine va_callv (va_runV (As := [.int z24]) (rest := []) ⟨hx, hb, hml, hown, hts⟩ (c_X11_says_n l dC dI H.size h_mm h_wri v_mm z17 x_mm_room cy_wri f18 z24 (by first | exact k19 | omega) (by first | exact hx_mm_room | omega) (by omega)) (cwV 1 hts (gv hT w_m_X11_452 w_instanceMethod_X11_says ws_sel_X11_says w_ini_X11 w_code_X11_says) rfl rfl rfl (by decide +kernel) ⟨(Nat.le_of_ble_eq_true rfl), (Nat.le_of_ble_eq_true rfl)⟩) ⟨pre_blind, va_recv hK hP (ci := 8) (q0 := 0) rfl rfl, pre_of hPc hKc hDc hN⟩ rfl rfl hl.1 rfl (lv_room (Nat.le_of_ble_eq_true rfl)) dX11_saysName_31 ⟨(Nat.le_of_ble_eq_true rfl), (Nat.le_of_ble_eq_true rfl)⟩) hS (fun q _ h => hFc q h) hFc (fun u t H locs ht hvm hq hB hz1 hk1 hS9 => ?_)
    obtain ⟨z26, f27⟩ := u
    obtain ⟨hP1, hD1⟩ := hB
    rw [ht] at hP1
    obtain ⟨hP9, hD9⟩ := va_join (wr := []) (w1 := [(h_mm, .inr (8, (mo118 v_mm (.ref h_wri) (.int z26) (.int x_mm_room)))), (h_wri, .inl (cy_wri, 1000, .inl f27))]) hP hD [0, 1] [] rfl rfl (by decide) (by decide) hk1 hFc hP1 hD1
    clear hP hD hS hPc hDc hKc hFc hP1 hD1 hk1 hz1 ht hvm
    have hP : va_P (dC, dI) cls [(h_mm, .inr (8, (mo118 v_mm (.ref h_wri) (.int z26) (.int x_mm_room)))), (h_wri, .inl (cy_wri, 1000, .inl f27))] H := hP9
    have hD : va_D A [(h_mm, .inr (8, (mo118 v_mm (.ref h_wri) (.int z26) (.int x_mm_room)))), (h_wri, .inl (cy_wri, 1000, .inl f27))] := hD9
    have hS := hS9
    clear hP9 hD9 hS9
    obtain ⟨k28, k29⟩ := hq
    replace k28 : 0 ≤ ((z26)).toInt ∧ ((z26)).toInt ≤ 1000 := k28
    replace k29 : ((z26)).toInt = ((z17)).toInt + 1 := k29
    refine W.widen (k := 0) (n := 0) (Nat.le_of_ble_eq_true rfl) (Nat.le_of_ble_eq_true rfl) ?_
    have w30 : 0 ≤ ((z26)).toInt ∧ ((z26)).toInt ≤ 1000 := by first | exact k28 | omega
    have w31 : ((z26)).toInt = (x_mm_writes).toInt + nlR 3 (p1).toInt := by omega
    exact W.vret hx hb hr (fun t ht hW => ⟨⟨(z26, f27), rfl, ⟨w30, w31⟩, by rw [ht]; exact hP, hD⟩, hS.F ht⟩) hS.2.2 dX11_saysName_34

set_option maxHeartbeats 8000000 in
set_option maxRecDepth 100000 in
theorem c_X11_saysName_n3 (l : Launch) (dC : Nat → ClassId) (dI : Nat → Nat → Nat) (sz : Nat) (h_mm : Nat) (h_wri : Nat) (v_mm : Nat → Value) (x_mm_writes : Int32) (x_mm_room : Int32) (cy_wri : ClassId) (f_wri : Nat → Int32) (p1 : Int64) (hx_mm_writes : 0 ≤ (x_mm_writes).toInt ∧ (x_mm_writes).toInt ≤ 1000) (hx_mm_room : 0 ≤ (x_mm_room).toInt ∧ (x_mm_room).toInt ≤ 998) (q0 : (p1).toInt ≤ 551880) (q1 : 1 ≤ (p1).toInt) (q2 : (x_mm_writes).toInt + nlR 4 (p1).toInt ≤ (x_mm_room).toInt + 1) : Met l yX11_saysName (Ws yX11_saysName cX11_saysName 3 none) (({ frames := 4, cells := 0, slots := 0, locals := 87 } : Room)) (PRE (dC, dI) cls [(cy_wri, .int)] [(h_mm, .inr (8, (mo118 v_mm (.ref h_wri) (.int x_mm_writes) (.int x_mm_room)))), (h_wri, .inl (cy_wri, 1000, .inl f_wri))] sz [.ref h_mm, .long p1]) (va_Qv (fun (u : (Int32) × (Nat → Int32)) => (0 ≤ (u.1).toInt ∧ (u.1).toInt ≤ 1000) ∧ ((u.1).toInt = (x_mm_writes).toInt + nlR 4 (p1).toInt)) (fun (u : (Int32) × (Nat → Int32)) (t : State) => va_P (dC, dI) cls [(h_mm, .inr (8, (mo118 v_mm (.ref h_wri) (.int u.1) (.int x_mm_room)))), (h_wri, .inl (cy_wri, 1000, .inl u.2))] t.heap ∧ va_D (va_A [(h_mm, .inr (8, (mo118 v_mm (.ref h_wri) (.int x_mm_writes) (.int x_mm_room)))), (h_wri, .inl (cy_wri, 1000, .inl f_wri))] sz) [(h_mm, .inr (8, (mo118 v_mm (.ref h_wri) (.int u.1) (.int x_mm_room)))), (h_wri, .inl (cy_wri, 1000, .inl u.2))]) (va_A [(h_mm, .inr (8, (mo118 v_mm (.ref h_wri) (.int x_mm_writes) (.int x_mm_room)))), (h_wri, .inl (cy_wri, 1000, .inl f_wri))] sz)) 0 0 (va_A [(h_mm, .inr (8, (mo118 v_mm (.ref h_wri) (.int x_mm_writes) (.int x_mm_room)))), (h_wri, .inl (cy_wri, 1000, .inl f_wri))] sz) := by
  refine Met.ofW (cc := cX11_saysName) (maxL := 3) (ret := none) (by decide) rfl ?_
  intro p e s m args below meth c s₁ B hml hv
  obtain ⟨rfl, hsz, hP, hK, hD0, hN⟩ := hv
  have hx := B.exec
  have hb := B.bytes
  have hr := B.returns
  have hts := atoms_spec (ws := Ws yX11_saysName cX11_saysName 3 none) B.pre
  have hT : ∀ w ∈ WALL, w ∈ Ws yX11_saysName cX11_saysName 3 none := fun w h => List.mem_cons_of_mem _ h
  have hw := fun w (h : w ∈ WALL) => hts w (hT w h)
  have hown : s.vm.findClass RX11 = some m.cls := findClass_of_methodNamed B.named
  have hlocks := B.notSynchronized
  subst hsz
  have hD := hD0.self (sz := s.heap.size)
  generalize hAe : va_A [(h_mm, .inr (8, (mo118 v_mm (.ref h_wri) (.int x_mm_writes) (.int x_mm_room)))), (h_wri, .inl (cy_wri, 1000, .inl f_wri))] s.heap.size = A at hD ⊢
  have hA : ∀ q : Nat, s.heap.size ≤ q → A q := fun q h => by rw [← hAe]; exact Or.inr h
  have hS : va_S A s.heap s.heap [] := va_S.rf
  have hl := lv_entry ([.ref h_mm, .long p1]) (n := 3) (Nat.le_of_ble_eq_true rfl)
  rw [lg_entry_eq]
  generalize (lg_sl ([.ref h_mm, .long p1]) ++ List.replicate (3 - (lg_sl ([.ref h_mm, .long p1])).length) Slot.unset).toArray = ls at hl ⊢
  have hl : lv_has ls 3 [(0, .ref h_mm), (1, .long p1)] := hl
  refine lv_lload_n hx hb dX11_saysName_0 rfl (lv_at hl 1 rfl) ?_
  refine lv_ldc2 (v := 27) hx hb hown (hw _ w_cl_X11_93) dX11_saysName_1 ?_
  refine W.lcmp hx hb dX11_saysName_4 ?_
  refine lv_topi (fun z1 ez1 => ?_)
  have gz1 := lgc p1 27
  rw [← ez1] at gz1
  have : (27 : Int64).toInt = 27 := by decide
  have nr9 : nlR 4 (p1).toInt = _ := nlR_s 3 (p1).toInt
  refine lv_if_le (tgt := 19) hx hb dX11_saysName_5 (by decide) (fun c2 => ?_) (fun c2 => ?_)
  · have kc2 := (cv_le (rfl : (z1).toInt = (z1).toInt) (by decide : (0 : Int32).toInt = 0)).mp c2
    rw [if_neg (by omega)] at nr9
    refine lv_aload_n hx hb dX11_saysName_19 rfl (lv_at hl 0 rfl) ?_
    refine lv_bipush (v := 97) hx hb dX11_saysName_20 (by decide) ?_
    refine lv_lload_n hx hb dX11_saysName_22 rfl (lv_at hl 1 rfl) ?_
    refine lv_lconst (v := 1) hx hb dX11_saysName_23 (by decide) ?_
    refine lv_lsub hx hb dX11_saysName_24 ?_
    refine lv_topl (fun z3 ez3 => ?_)
    refine lv_ldc2 (v := 27) hx hb hown (hw _ w_cl_X11_93) dX11_saysName_25 ?_
    refine lv_lrem hx hb dX11_saysName_28 (by decide) ?_
    refine lv_topl (fun z4 ez4 => ?_)
    refine lv_l2i hx hb dX11_saysName_29 rfl ?_
    refine lv_topi (fun z5 ez5 => ?_)
    refine lv_iadd hx hb dX11_saysName_30 ?_
    refine lv_topi (fun z6 ez6 => ?_)
    have hPc := hP.sub (ws' := [(h_mm, .inr (8, (mo118 v_mm (.ref h_wri) (.int x_mm_writes) (.int x_mm_room)))), (h_wri, .inl (cy_wri, 1000, .inl f_wri))]) [0, 1] rfl
    have hDc := hD.sub (ws' := [(h_mm, .inr (8, (mo118 v_mm (.ref h_wri) (.int x_mm_writes) (.int x_mm_room)))), (h_wri, .inl (cy_wri, 1000, .inl f_wri))]) [0, 1] (by decide) rfl
    have hKc := hK.sub (tys' := [(cy_wri, .int)]) [0] rfl
    have hFc := va_free (wc := [(h_mm, .inr (8, (mo118 v_mm (.ref h_wri) (.int x_mm_writes) (.int x_mm_room)))), (h_wri, .inl (cy_wri, 1000, .inl f_wri))]) hD hS hA [0, 1] rfl
    refine va_callv (va_runV (As := [.int z6]) (rest := []) ⟨hx, hb, hml, hown, hts⟩ (c_X11_says_n l dC dI s.heap.size h_mm h_wri v_mm x_mm_writes x_mm_room cy_wri f_wri z6 (by first | exact hx_mm_writes | omega) (by first | exact hx_mm_room | omega) (by omega)) (cwV 1 hts (gv hT w_m_X11_452 w_instanceMethod_X11_says ws_sel_X11_says w_ini_X11 w_code_X11_says) rfl rfl rfl (by decide +kernel) ⟨(Nat.le_of_ble_eq_true rfl), (Nat.le_of_ble_eq_true rfl)⟩) ⟨pre_blind, va_recv hK hP (ci := 8) (q0 := 0) rfl rfl, pre_of hPc hKc hDc hN⟩ rfl rfl hl.1 rfl (lv_room (Nat.le_of_ble_eq_true rfl)) dX11_saysName_31 ⟨(Nat.le_of_ble_eq_true rfl), (Nat.le_of_ble_eq_true rfl)⟩) hS (fun q _ h => hFc q h) hFc (fun u t H locs ht hvm hq hB hz1 hk1 hS9 => ?_)
    obtain ⟨z8, f9⟩ := u
    obtain ⟨hP1, hD1⟩ := hB
    rw [ht] at hP1
    obtain ⟨hP9, hD9⟩ := va_join (wr := []) (w1 := [(h_mm, .inr (8, (mo118 v_mm (.ref h_wri) (.int z8) (.int x_mm_room)))), (h_wri, .inl (cy_wri, 1000, .inl f9))]) hP hD [0, 1] [] rfl rfl (by decide) (by decide) hk1 hFc hP1 hD1
    clear hP hD hS hPc hDc hKc hFc hP1 hD1 hk1 hz1 ht hvm
    have hP : va_P (dC, dI) cls [(h_mm, .inr (8, (mo118 v_mm (.ref h_wri) (.int z8) (.int x_mm_room)))), (h_wri, .inl (cy_wri, 1000, .inl f9))] H := hP9
    have hD : va_D A [(h_mm, .inr (8, (mo118 v_mm (.ref h_wri) (.int z8) (.int x_mm_room)))), (h_wri, .inl (cy_wri, 1000, .inl f9))] := hD9
    have hS := hS9
    clear hP9 hD9 hS9
    obtain ⟨k10, k11⟩ := hq
    replace k10 : 0 ≤ ((z8)).toInt ∧ ((z8)).toInt ≤ 1000 := k10
    replace k11 : ((z8)).toInt = ((x_mm_writes)).toInt + 1 := k11
    refine W.widen (k := 0) (n := 0) (Nat.le_of_ble_eq_true rfl) (Nat.le_of_ble_eq_true rfl) ?_
    have w12 : 0 ≤ ((z8)).toInt ∧ ((z8)).toInt ≤ 1000 := by first | exact k10 | omega
    have w13 : ((z8)).toInt = (x_mm_writes).toInt + nlR 4 (p1).toInt := by omega
    exact W.vret hx hb hr (fun t ht hW => ⟨⟨(z8, f9), rfl, ⟨w12, w13⟩, by rw [ht]; exact hP, hD⟩, hS.F ht⟩) hS.2.2 dX11_saysName_34
  · have kc2 := (not_congr (cv_le (rfl : (z1).toInt = (z1).toInt) (by decide : (0 : Int32).toInt = 0))).mp c2
    have bd9 := l_bd p1
    rw [if_pos (by omega)] at nr9
    refine lv_aload_n hx hb dX11_saysName_8 rfl (lv_at hl 0 rfl) ?_
    refine lv_lload_n hx hb dX11_saysName_9 rfl (lv_at hl 1 rfl) ?_
    refine lv_lconst (v := 1) hx hb dX11_saysName_10 (by decide) ?_
    refine lv_lsub hx hb dX11_saysName_11 ?_
    refine lv_topl (fun z14 ez14 => ?_)
    have tz14 : (z14).toInt = (p1).toInt - 1 := by rw [ez14]; exact l_sub rfl (by decide) (by omega)
    refine lv_ldc2 (v := 27) hx hb hown (hw _ w_cl_X11_93) dX11_saysName_12 ?_
    refine lv_ldiv hx hb dX11_saysName_15 (by decide) ?_
    refine lv_topl (fun z15 ez15 => ?_)
    have tz15 : 0 ≤ (z14).toInt → (z15).toInt = (z14).toInt / 27 := fun h9 => by rw [ez15]; exact l_div rfl (by decide) (by omega)
    have dv9 := tz15 (by omega)
    have dw9 : ((p1).toInt - 1) / 27 = (z15).toInt := by omega
    rw [dw9] at nr9
    have ng9 := nlR_ge 3 (z15).toInt
    have hPc := hP.sub (ws' := [(h_mm, .inr (8, (mo118 v_mm (.ref h_wri) (.int x_mm_writes) (.int x_mm_room)))), (h_wri, .inl (cy_wri, 1000, .inl f_wri))]) [0, 1] rfl
    have hDc := hD.sub (ws' := [(h_mm, .inr (8, (mo118 v_mm (.ref h_wri) (.int x_mm_writes) (.int x_mm_room)))), (h_wri, .inl (cy_wri, 1000, .inl f_wri))]) [0, 1] (by decide) rfl
    have hKc := hK.sub (tys' := [(cy_wri, .int)]) [0] rfl
    have hFc := va_free (wc := [(h_mm, .inr (8, (mo118 v_mm (.ref h_wri) (.int x_mm_writes) (.int x_mm_room)))), (h_wri, .inl (cy_wri, 1000, .inl f_wri))]) hD hS hA [0, 1] rfl
    refine va_callv (va_runV (As := [.long z15]) (rest := []) ⟨hx, hb, hml, hown, hts⟩ (c_X11_saysName_n2 l dC dI s.heap.size h_mm h_wri v_mm x_mm_writes x_mm_room cy_wri f_wri z15 (by first | exact hx_mm_writes | omega) (by first | exact hx_mm_room | omega) (by omega) (by omega) (by omega)) (cwV 1 hts (gv hT w_m_X11_455 w_instanceMethod_X11_saysName ws_sel_X11_saysName w_ini_X11 w_code_X11_saysName) rfl rfl rfl (by decide +kernel) ⟨(Nat.le_of_ble_eq_true rfl), (Nat.le_of_ble_eq_true rfl)⟩) ⟨pre_blind, va_recv hK hP (ci := 8) (q0 := 0) rfl rfl, pre_of hPc hKc hDc hN⟩ rfl rfl hl.1 rfl (lv_room (Nat.le_of_ble_eq_true rfl)) dX11_saysName_16 ⟨(Nat.le_of_ble_eq_true rfl), (Nat.le_of_ble_eq_true rfl)⟩) hS (fun q _ h => hFc q h) hFc (fun u t H locs ht hvm hq hB hz1 hk1 hS9 => ?_)
    obtain ⟨z17, f18⟩ := u
    obtain ⟨hP1, hD1⟩ := hB
    rw [ht] at hP1
    obtain ⟨hP9, hD9⟩ := va_join (wr := []) (w1 := [(h_mm, .inr (8, (mo118 v_mm (.ref h_wri) (.int z17) (.int x_mm_room)))), (h_wri, .inl (cy_wri, 1000, .inl f18))]) hP hD [0, 1] [] rfl rfl (by decide) (by decide) hk1 hFc hP1 hD1
    clear hP hD hS hPc hDc hKc hFc hP1 hD1 hk1 hz1 ht hvm
    have hP : va_P (dC, dI) cls [(h_mm, .inr (8, (mo118 v_mm (.ref h_wri) (.int z17) (.int x_mm_room)))), (h_wri, .inl (cy_wri, 1000, .inl f18))] H := hP9
    have hD : va_D A [(h_mm, .inr (8, (mo118 v_mm (.ref h_wri) (.int z17) (.int x_mm_room)))), (h_wri, .inl (cy_wri, 1000, .inl f18))] := hD9
    have hS := hS9
    clear hP9 hD9 hS9
    obtain ⟨k19, k20⟩ := hq
    replace k19 : 0 ≤ ((z17)).toInt ∧ ((z17)).toInt ≤ 1000 := k19
    replace k20 : ((z17)).toInt = ((x_mm_writes)).toInt + nlR 3 ((z15)).toInt := k20
    refine lv_aload_n hx hb dX11_saysName_19 rfl (lv_at hl 0 rfl) ?_
    refine lv_bipush (v := 97) hx hb dX11_saysName_20 (by decide) ?_
    refine lv_lload_n hx hb dX11_saysName_22 rfl (lv_at hl 1 rfl) ?_
    refine lv_lconst (v := 1) hx hb dX11_saysName_23 (by decide) ?_
    refine lv_lsub hx hb dX11_saysName_24 ?_
    refine lv_topl (fun z21 ez21 => ?_)
    refine lv_ldc2 (v := 27) hx hb hown (hw _ w_cl_X11_93) dX11_saysName_25 ?_
    refine lv_lrem hx hb dX11_saysName_28 (by decide) ?_
    refine lv_topl (fun z22 ez22 => ?_)
    refine lv_l2i hx hb dX11_saysName_29 rfl ?_
    refine lv_topi (fun z23 ez23 => ?_)
    refine lv_iadd hx hb dX11_saysName_30 ?_
    refine lv_topi (fun z24 ez24 => ?_)
    have hPc := hP.sub (ws' := [(h_mm, .inr (8, (mo118 v_mm (.ref h_wri) (.int z17) (.int x_mm_room)))), (h_wri, .inl (cy_wri, 1000, .inl f18))]) [0, 1] rfl
    have hDc := hD.sub (ws' := [(h_mm, .inr (8, (mo118 v_mm (.ref h_wri) (.int z17) (.int x_mm_room)))), (h_wri, .inl (cy_wri, 1000, .inl f18))]) [0, 1] (by decide) rfl
    have hKc := hK.sub (tys' := [(cy_wri, .int)]) [0] rfl
    have hFc := va_free (wc := [(h_mm, .inr (8, (mo118 v_mm (.ref h_wri) (.int z17) (.int x_mm_room)))), (h_wri, .inl (cy_wri, 1000, .inl f18))]) hD hS hA [0, 1] rfl
    refine va_callv (va_runV (As := [.int z24]) (rest := []) ⟨hx, hb, hml, hown, hts⟩ (c_X11_says_n l dC dI H.size h_mm h_wri v_mm z17 x_mm_room cy_wri f18 z24 (by first | exact k19 | omega) (by first | exact hx_mm_room | omega) (by omega)) (cwV 1 hts (gv hT w_m_X11_452 w_instanceMethod_X11_says ws_sel_X11_says w_ini_X11 w_code_X11_says) rfl rfl rfl (by decide +kernel) ⟨(Nat.le_of_ble_eq_true rfl), (Nat.le_of_ble_eq_true rfl)⟩) ⟨pre_blind, va_recv hK hP (ci := 8) (q0 := 0) rfl rfl, pre_of hPc hKc hDc hN⟩ rfl rfl hl.1 rfl (lv_room (Nat.le_of_ble_eq_true rfl)) dX11_saysName_31 ⟨(Nat.le_of_ble_eq_true rfl), (Nat.le_of_ble_eq_true rfl)⟩) hS (fun q _ h => hFc q h) hFc (fun u t H locs ht hvm hq hB hz1 hk1 hS9 => ?_)
    obtain ⟨z26, f27⟩ := u
    obtain ⟨hP1, hD1⟩ := hB
    rw [ht] at hP1
    obtain ⟨hP9, hD9⟩ := va_join (wr := []) (w1 := [(h_mm, .inr (8, (mo118 v_mm (.ref h_wri) (.int z26) (.int x_mm_room)))), (h_wri, .inl (cy_wri, 1000, .inl f27))]) hP hD [0, 1] [] rfl rfl (by decide) (by decide) hk1 hFc hP1 hD1
    clear hP hD hS hPc hDc hKc hFc hP1 hD1 hk1 hz1 ht hvm
    have hP : va_P (dC, dI) cls [(h_mm, .inr (8, (mo118 v_mm (.ref h_wri) (.int z26) (.int x_mm_room)))), (h_wri, .inl (cy_wri, 1000, .inl f27))] H := hP9
    have hD : va_D A [(h_mm, .inr (8, (mo118 v_mm (.ref h_wri) (.int z26) (.int x_mm_room)))), (h_wri, .inl (cy_wri, 1000, .inl f27))] := hD9
    have hS := hS9
    clear hP9 hD9 hS9
    obtain ⟨k28, k29⟩ := hq
    replace k28 : 0 ≤ ((z26)).toInt ∧ ((z26)).toInt ≤ 1000 := k28
    replace k29 : ((z26)).toInt = ((z17)).toInt + 1 := k29
    refine W.widen (k := 0) (n := 0) (Nat.le_of_ble_eq_true rfl) (Nat.le_of_ble_eq_true rfl) ?_
    have w30 : 0 ≤ ((z26)).toInt ∧ ((z26)).toInt ≤ 1000 := by first | exact k28 | omega
    have w31 : ((z26)).toInt = (x_mm_writes).toInt + nlR 4 (p1).toInt := by omega
    exact W.vret hx hb hr (fun t ht hW => ⟨⟨(z26, f27), rfl, ⟨w30, w31⟩, by rw [ht]; exact hP, hD⟩, hS.F ht⟩) hS.2.2 dX11_saysName_34

set_option maxHeartbeats 8000000 in
set_option maxRecDepth 100000 in
theorem c_X11_saysName_n4 (l : Launch) (dC : Nat → ClassId) (dI : Nat → Nat → Nat) (sz : Nat) (h_mm : Nat) (h_wri : Nat) (v_mm : Nat → Value) (x_mm_writes : Int32) (x_mm_room : Int32) (cy_wri : ClassId) (f_wri : Nat → Int32) (p1 : Int64) (hx_mm_writes : 0 ≤ (x_mm_writes).toInt ∧ (x_mm_writes).toInt ≤ 1000) (hx_mm_room : 0 ≤ (x_mm_room).toInt ∧ (x_mm_room).toInt ≤ 998) (q0 : (p1).toInt ≤ 14900787) (q1 : 1 ≤ (p1).toInt) (q2 : (x_mm_writes).toInt + nlR 5 (p1).toInt ≤ (x_mm_room).toInt + 1) : Met l yX11_saysName (Ws yX11_saysName cX11_saysName 3 none) (({ frames := 5, cells := 0, slots := 0, locals := 109 } : Room)) (PRE (dC, dI) cls [(cy_wri, .int)] [(h_mm, .inr (8, (mo118 v_mm (.ref h_wri) (.int x_mm_writes) (.int x_mm_room)))), (h_wri, .inl (cy_wri, 1000, .inl f_wri))] sz [.ref h_mm, .long p1]) (va_Qv (fun (u : (Int32) × (Nat → Int32)) => (0 ≤ (u.1).toInt ∧ (u.1).toInt ≤ 1000) ∧ ((u.1).toInt = (x_mm_writes).toInt + nlR 5 (p1).toInt)) (fun (u : (Int32) × (Nat → Int32)) (t : State) => va_P (dC, dI) cls [(h_mm, .inr (8, (mo118 v_mm (.ref h_wri) (.int u.1) (.int x_mm_room)))), (h_wri, .inl (cy_wri, 1000, .inl u.2))] t.heap ∧ va_D (va_A [(h_mm, .inr (8, (mo118 v_mm (.ref h_wri) (.int x_mm_writes) (.int x_mm_room)))), (h_wri, .inl (cy_wri, 1000, .inl f_wri))] sz) [(h_mm, .inr (8, (mo118 v_mm (.ref h_wri) (.int u.1) (.int x_mm_room)))), (h_wri, .inl (cy_wri, 1000, .inl u.2))]) (va_A [(h_mm, .inr (8, (mo118 v_mm (.ref h_wri) (.int x_mm_writes) (.int x_mm_room)))), (h_wri, .inl (cy_wri, 1000, .inl f_wri))] sz)) 0 0 (va_A [(h_mm, .inr (8, (mo118 v_mm (.ref h_wri) (.int x_mm_writes) (.int x_mm_room)))), (h_wri, .inl (cy_wri, 1000, .inl f_wri))] sz) := by
  refine Met.ofW (cc := cX11_saysName) (maxL := 3) (ret := none) (by decide) rfl ?_
  intro p e s m args below meth c s₁ B hml hv
  obtain ⟨rfl, hsz, hP, hK, hD0, hN⟩ := hv
  have hx := B.exec
  have hb := B.bytes
  have hr := B.returns
  have hts := atoms_spec (ws := Ws yX11_saysName cX11_saysName 3 none) B.pre
  have hT : ∀ w ∈ WALL, w ∈ Ws yX11_saysName cX11_saysName 3 none := fun w h => List.mem_cons_of_mem _ h
  have hw := fun w (h : w ∈ WALL) => hts w (hT w h)
  have hown : s.vm.findClass RX11 = some m.cls := findClass_of_methodNamed B.named
  have hlocks := B.notSynchronized
  subst hsz
  have hD := hD0.self (sz := s.heap.size)
  generalize hAe : va_A [(h_mm, .inr (8, (mo118 v_mm (.ref h_wri) (.int x_mm_writes) (.int x_mm_room)))), (h_wri, .inl (cy_wri, 1000, .inl f_wri))] s.heap.size = A at hD ⊢
  have hA : ∀ q : Nat, s.heap.size ≤ q → A q := fun q h => by rw [← hAe]; exact Or.inr h
  have hS : va_S A s.heap s.heap [] := va_S.rf
  have hl := lv_entry ([.ref h_mm, .long p1]) (n := 3) (Nat.le_of_ble_eq_true rfl)
  rw [lg_entry_eq]
  generalize (lg_sl ([.ref h_mm, .long p1]) ++ List.replicate (3 - (lg_sl ([.ref h_mm, .long p1])).length) Slot.unset).toArray = ls at hl ⊢
  have hl : lv_has ls 3 [(0, .ref h_mm), (1, .long p1)] := hl
  refine lv_lload_n hx hb dX11_saysName_0 rfl (lv_at hl 1 rfl) ?_
  refine lv_ldc2 (v := 27) hx hb hown (hw _ w_cl_X11_93) dX11_saysName_1 ?_
  refine W.lcmp hx hb dX11_saysName_4 ?_
  refine lv_topi (fun z1 ez1 => ?_)
  have gz1 := lgc p1 27
  rw [← ez1] at gz1
  have : (27 : Int64).toInt = 27 := by decide
  have nr9 : nlR 5 (p1).toInt = _ := nlR_s 4 (p1).toInt
  refine lv_if_le (tgt := 19) hx hb dX11_saysName_5 (by decide) (fun c2 => ?_) (fun c2 => ?_)
  · have kc2 := (cv_le (rfl : (z1).toInt = (z1).toInt) (by decide : (0 : Int32).toInt = 0)).mp c2
    rw [if_neg (by omega)] at nr9
    refine lv_aload_n hx hb dX11_saysName_19 rfl (lv_at hl 0 rfl) ?_
    refine lv_bipush (v := 97) hx hb dX11_saysName_20 (by decide) ?_
    refine lv_lload_n hx hb dX11_saysName_22 rfl (lv_at hl 1 rfl) ?_
    refine lv_lconst (v := 1) hx hb dX11_saysName_23 (by decide) ?_
    refine lv_lsub hx hb dX11_saysName_24 ?_
    refine lv_topl (fun z3 ez3 => ?_)
    refine lv_ldc2 (v := 27) hx hb hown (hw _ w_cl_X11_93) dX11_saysName_25 ?_
    refine lv_lrem hx hb dX11_saysName_28 (by decide) ?_
    refine lv_topl (fun z4 ez4 => ?_)
    refine lv_l2i hx hb dX11_saysName_29 rfl ?_
    refine lv_topi (fun z5 ez5 => ?_)
    refine lv_iadd hx hb dX11_saysName_30 ?_
    refine lv_topi (fun z6 ez6 => ?_)
    have hPc := hP.sub (ws' := [(h_mm, .inr (8, (mo118 v_mm (.ref h_wri) (.int x_mm_writes) (.int x_mm_room)))), (h_wri, .inl (cy_wri, 1000, .inl f_wri))]) [0, 1] rfl
    have hDc := hD.sub (ws' := [(h_mm, .inr (8, (mo118 v_mm (.ref h_wri) (.int x_mm_writes) (.int x_mm_room)))), (h_wri, .inl (cy_wri, 1000, .inl f_wri))]) [0, 1] (by decide) rfl
    have hKc := hK.sub (tys' := [(cy_wri, .int)]) [0] rfl
    have hFc := va_free (wc := [(h_mm, .inr (8, (mo118 v_mm (.ref h_wri) (.int x_mm_writes) (.int x_mm_room)))), (h_wri, .inl (cy_wri, 1000, .inl f_wri))]) hD hS hA [0, 1] rfl
    refine va_callv (va_runV (As := [.int z6]) (rest := []) ⟨hx, hb, hml, hown, hts⟩ (c_X11_says_n l dC dI s.heap.size h_mm h_wri v_mm x_mm_writes x_mm_room cy_wri f_wri z6 (by first | exact hx_mm_writes | omega) (by first | exact hx_mm_room | omega) (by omega)) (cwV 1 hts (gv hT w_m_X11_452 w_instanceMethod_X11_says ws_sel_X11_says w_ini_X11 w_code_X11_says) rfl rfl rfl (by decide +kernel) ⟨(Nat.le_of_ble_eq_true rfl), (Nat.le_of_ble_eq_true rfl)⟩) ⟨pre_blind, va_recv hK hP (ci := 8) (q0 := 0) rfl rfl, pre_of hPc hKc hDc hN⟩ rfl rfl hl.1 rfl (lv_room (Nat.le_of_ble_eq_true rfl)) dX11_saysName_31 ⟨(Nat.le_of_ble_eq_true rfl), (Nat.le_of_ble_eq_true rfl)⟩) hS (fun q _ h => hFc q h) hFc (fun u t H locs ht hvm hq hB hz1 hk1 hS9 => ?_)
    obtain ⟨z8, f9⟩ := u
    obtain ⟨hP1, hD1⟩ := hB
    rw [ht] at hP1
    obtain ⟨hP9, hD9⟩ := va_join (wr := []) (w1 := [(h_mm, .inr (8, (mo118 v_mm (.ref h_wri) (.int z8) (.int x_mm_room)))), (h_wri, .inl (cy_wri, 1000, .inl f9))]) hP hD [0, 1] [] rfl rfl (by decide) (by decide) hk1 hFc hP1 hD1
    clear hP hD hS hPc hDc hKc hFc hP1 hD1 hk1 hz1 ht hvm
    have hP : va_P (dC, dI) cls [(h_mm, .inr (8, (mo118 v_mm (.ref h_wri) (.int z8) (.int x_mm_room)))), (h_wri, .inl (cy_wri, 1000, .inl f9))] H := hP9
    have hD : va_D A [(h_mm, .inr (8, (mo118 v_mm (.ref h_wri) (.int z8) (.int x_mm_room)))), (h_wri, .inl (cy_wri, 1000, .inl f9))] := hD9
    have hS := hS9
    clear hP9 hD9 hS9
    obtain ⟨k10, k11⟩ := hq
    replace k10 : 0 ≤ ((z8)).toInt ∧ ((z8)).toInt ≤ 1000 := k10
    replace k11 : ((z8)).toInt = ((x_mm_writes)).toInt + 1 := k11
    refine W.widen (k := 0) (n := 0) (Nat.le_of_ble_eq_true rfl) (Nat.le_of_ble_eq_true rfl) ?_
    have w12 : 0 ≤ ((z8)).toInt ∧ ((z8)).toInt ≤ 1000 := by first | exact k10 | omega
    have w13 : ((z8)).toInt = (x_mm_writes).toInt + nlR 5 (p1).toInt := by omega
    exact W.vret hx hb hr (fun t ht hW => ⟨⟨(z8, f9), rfl, ⟨w12, w13⟩, by rw [ht]; exact hP, hD⟩, hS.F ht⟩) hS.2.2 dX11_saysName_34
  · have kc2 := (not_congr (cv_le (rfl : (z1).toInt = (z1).toInt) (by decide : (0 : Int32).toInt = 0))).mp c2
    have bd9 := l_bd p1
    rw [if_pos (by omega)] at nr9
    refine lv_aload_n hx hb dX11_saysName_8 rfl (lv_at hl 0 rfl) ?_
    refine lv_lload_n hx hb dX11_saysName_9 rfl (lv_at hl 1 rfl) ?_
    refine lv_lconst (v := 1) hx hb dX11_saysName_10 (by decide) ?_
    refine lv_lsub hx hb dX11_saysName_11 ?_
    refine lv_topl (fun z14 ez14 => ?_)
    have tz14 : (z14).toInt = (p1).toInt - 1 := by rw [ez14]; exact l_sub rfl (by decide) (by omega)
    refine lv_ldc2 (v := 27) hx hb hown (hw _ w_cl_X11_93) dX11_saysName_12 ?_
    refine lv_ldiv hx hb dX11_saysName_15 (by decide) ?_
    refine lv_topl (fun z15 ez15 => ?_)
    have tz15 : 0 ≤ (z14).toInt → (z15).toInt = (z14).toInt / 27 := fun h9 => by rw [ez15]; exact l_div rfl (by decide) (by omega)
    have dv9 := tz15 (by omega)
    have dw9 : ((p1).toInt - 1) / 27 = (z15).toInt := by omega
    rw [dw9] at nr9
    have ng9 := nlR_ge 4 (z15).toInt
    have hPc := hP.sub (ws' := [(h_mm, .inr (8, (mo118 v_mm (.ref h_wri) (.int x_mm_writes) (.int x_mm_room)))), (h_wri, .inl (cy_wri, 1000, .inl f_wri))]) [0, 1] rfl
    have hDc := hD.sub (ws' := [(h_mm, .inr (8, (mo118 v_mm (.ref h_wri) (.int x_mm_writes) (.int x_mm_room)))), (h_wri, .inl (cy_wri, 1000, .inl f_wri))]) [0, 1] (by decide) rfl
    have hKc := hK.sub (tys' := [(cy_wri, .int)]) [0] rfl
    have hFc := va_free (wc := [(h_mm, .inr (8, (mo118 v_mm (.ref h_wri) (.int x_mm_writes) (.int x_mm_room)))), (h_wri, .inl (cy_wri, 1000, .inl f_wri))]) hD hS hA [0, 1] rfl
    refine va_callv (va_runV (As := [.long z15]) (rest := []) ⟨hx, hb, hml, hown, hts⟩ (c_X11_saysName_n3 l dC dI s.heap.size h_mm h_wri v_mm x_mm_writes x_mm_room cy_wri f_wri z15 (by first | exact hx_mm_writes | omega) (by first | exact hx_mm_room | omega) (by omega) (by omega) (by omega)) (cwV 1 hts (gv hT w_m_X11_455 w_instanceMethod_X11_saysName ws_sel_X11_saysName w_ini_X11 w_code_X11_saysName) rfl rfl rfl (by decide +kernel) ⟨(Nat.le_of_ble_eq_true rfl), (Nat.le_of_ble_eq_true rfl)⟩) ⟨pre_blind, va_recv hK hP (ci := 8) (q0 := 0) rfl rfl, pre_of hPc hKc hDc hN⟩ rfl rfl hl.1 rfl (lv_room (Nat.le_of_ble_eq_true rfl)) dX11_saysName_16 ⟨(Nat.le_of_ble_eq_true rfl), (Nat.le_of_ble_eq_true rfl)⟩) hS (fun q _ h => hFc q h) hFc (fun u t H locs ht hvm hq hB hz1 hk1 hS9 => ?_)
    obtain ⟨z17, f18⟩ := u
    obtain ⟨hP1, hD1⟩ := hB
    rw [ht] at hP1
    obtain ⟨hP9, hD9⟩ := va_join (wr := []) (w1 := [(h_mm, .inr (8, (mo118 v_mm (.ref h_wri) (.int z17) (.int x_mm_room)))), (h_wri, .inl (cy_wri, 1000, .inl f18))]) hP hD [0, 1] [] rfl rfl (by decide) (by decide) hk1 hFc hP1 hD1
    clear hP hD hS hPc hDc hKc hFc hP1 hD1 hk1 hz1 ht hvm
    have hP : va_P (dC, dI) cls [(h_mm, .inr (8, (mo118 v_mm (.ref h_wri) (.int z17) (.int x_mm_room)))), (h_wri, .inl (cy_wri, 1000, .inl f18))] H := hP9
    have hD : va_D A [(h_mm, .inr (8, (mo118 v_mm (.ref h_wri) (.int z17) (.int x_mm_room)))), (h_wri, .inl (cy_wri, 1000, .inl f18))] := hD9
    have hS := hS9
    clear hP9 hD9 hS9
    obtain ⟨k19, k20⟩ := hq
    replace k19 : 0 ≤ ((z17)).toInt ∧ ((z17)).toInt ≤ 1000 := k19
    replace k20 : ((z17)).toInt = ((x_mm_writes)).toInt + nlR 4 ((z15)).toInt := k20
    refine lv_aload_n hx hb dX11_saysName_19 rfl (lv_at hl 0 rfl) ?_
    refine lv_bipush (v := 97) hx hb dX11_saysName_20 (by decide) ?_
    refine lv_lload_n hx hb dX11_saysName_22 rfl (lv_at hl 1 rfl) ?_
    refine lv_lconst (v := 1) hx hb dX11_saysName_23 (by decide) ?_
    refine lv_lsub hx hb dX11_saysName_24 ?_
    refine lv_topl (fun z21 ez21 => ?_)
    refine lv_ldc2 (v := 27) hx hb hown (hw _ w_cl_X11_93) dX11_saysName_25 ?_
    refine lv_lrem hx hb dX11_saysName_28 (by decide) ?_
    refine lv_topl (fun z22 ez22 => ?_)
    refine lv_l2i hx hb dX11_saysName_29 rfl ?_
    refine lv_topi (fun z23 ez23 => ?_)
    refine lv_iadd hx hb dX11_saysName_30 ?_
    refine lv_topi (fun z24 ez24 => ?_)
    have hPc := hP.sub (ws' := [(h_mm, .inr (8, (mo118 v_mm (.ref h_wri) (.int z17) (.int x_mm_room)))), (h_wri, .inl (cy_wri, 1000, .inl f18))]) [0, 1] rfl
    have hDc := hD.sub (ws' := [(h_mm, .inr (8, (mo118 v_mm (.ref h_wri) (.int z17) (.int x_mm_room)))), (h_wri, .inl (cy_wri, 1000, .inl f18))]) [0, 1] (by decide) rfl
    have hKc := hK.sub (tys' := [(cy_wri, .int)]) [0] rfl
    have hFc := va_free (wc := [(h_mm, .inr (8, (mo118 v_mm (.ref h_wri) (.int z17) (.int x_mm_room)))), (h_wri, .inl (cy_wri, 1000, .inl f18))]) hD hS hA [0, 1] rfl
    refine va_callv (va_runV (As := [.int z24]) (rest := []) ⟨hx, hb, hml, hown, hts⟩ (c_X11_says_n l dC dI H.size h_mm h_wri v_mm z17 x_mm_room cy_wri f18 z24 (by first | exact k19 | omega) (by first | exact hx_mm_room | omega) (by omega)) (cwV 1 hts (gv hT w_m_X11_452 w_instanceMethod_X11_says ws_sel_X11_says w_ini_X11 w_code_X11_says) rfl rfl rfl (by decide +kernel) ⟨(Nat.le_of_ble_eq_true rfl), (Nat.le_of_ble_eq_true rfl)⟩) ⟨pre_blind, va_recv hK hP (ci := 8) (q0 := 0) rfl rfl, pre_of hPc hKc hDc hN⟩ rfl rfl hl.1 rfl (lv_room (Nat.le_of_ble_eq_true rfl)) dX11_saysName_31 ⟨(Nat.le_of_ble_eq_true rfl), (Nat.le_of_ble_eq_true rfl)⟩) hS (fun q _ h => hFc q h) hFc (fun u t H locs ht hvm hq hB hz1 hk1 hS9 => ?_)
    obtain ⟨z26, f27⟩ := u
    obtain ⟨hP1, hD1⟩ := hB
    rw [ht] at hP1
    obtain ⟨hP9, hD9⟩ := va_join (wr := []) (w1 := [(h_mm, .inr (8, (mo118 v_mm (.ref h_wri) (.int z26) (.int x_mm_room)))), (h_wri, .inl (cy_wri, 1000, .inl f27))]) hP hD [0, 1] [] rfl rfl (by decide) (by decide) hk1 hFc hP1 hD1
    clear hP hD hS hPc hDc hKc hFc hP1 hD1 hk1 hz1 ht hvm
    have hP : va_P (dC, dI) cls [(h_mm, .inr (8, (mo118 v_mm (.ref h_wri) (.int z26) (.int x_mm_room)))), (h_wri, .inl (cy_wri, 1000, .inl f27))] H := hP9
    have hD : va_D A [(h_mm, .inr (8, (mo118 v_mm (.ref h_wri) (.int z26) (.int x_mm_room)))), (h_wri, .inl (cy_wri, 1000, .inl f27))] := hD9
    have hS := hS9
    clear hP9 hD9 hS9
    obtain ⟨k28, k29⟩ := hq
    replace k28 : 0 ≤ ((z26)).toInt ∧ ((z26)).toInt ≤ 1000 := k28
    replace k29 : ((z26)).toInt = ((z17)).toInt + 1 := k29
    refine W.widen (k := 0) (n := 0) (Nat.le_of_ble_eq_true rfl) (Nat.le_of_ble_eq_true rfl) ?_
    have w30 : 0 ≤ ((z26)).toInt ∧ ((z26)).toInt ≤ 1000 := by first | exact k28 | omega
    have w31 : ((z26)).toInt = (x_mm_writes).toInt + nlR 5 (p1).toInt := by omega
    exact W.vret hx hb hr (fun t ht hW => ⟨⟨(z26, f27), rfl, ⟨w30, w31⟩, by rw [ht]; exact hP, hD⟩, hS.F ht⟩) hS.2.2 dX11_saysName_34

set_option maxHeartbeats 8000000 in
set_option maxRecDepth 100000 in
theorem c_X11_saysName_n5 (l : Launch) (dC : Nat → ClassId) (dI : Nat → Nat → Nat) (sz : Nat) (h_mm : Nat) (h_wri : Nat) (v_mm : Nat → Value) (x_mm_writes : Int32) (x_mm_room : Int32) (cy_wri : ClassId) (f_wri : Nat → Int32) (p1 : Int64) (hx_mm_writes : 0 ≤ (x_mm_writes).toInt ∧ (x_mm_writes).toInt ≤ 1000) (hx_mm_room : 0 ≤ (x_mm_room).toInt ∧ (x_mm_room).toInt ≤ 998) (q0 : (p1).toInt ≤ 402321276) (q1 : 1 ≤ (p1).toInt) (q2 : (x_mm_writes).toInt + nlR 6 (p1).toInt ≤ (x_mm_room).toInt + 1) : Met l yX11_saysName (Ws yX11_saysName cX11_saysName 3 none) (({ frames := 6, cells := 0, slots := 0, locals := 131 } : Room)) (PRE (dC, dI) cls [(cy_wri, .int)] [(h_mm, .inr (8, (mo118 v_mm (.ref h_wri) (.int x_mm_writes) (.int x_mm_room)))), (h_wri, .inl (cy_wri, 1000, .inl f_wri))] sz [.ref h_mm, .long p1]) (va_Qv (fun (u : (Int32) × (Nat → Int32)) => (0 ≤ (u.1).toInt ∧ (u.1).toInt ≤ 1000) ∧ ((u.1).toInt = (x_mm_writes).toInt + nlR 6 (p1).toInt)) (fun (u : (Int32) × (Nat → Int32)) (t : State) => va_P (dC, dI) cls [(h_mm, .inr (8, (mo118 v_mm (.ref h_wri) (.int u.1) (.int x_mm_room)))), (h_wri, .inl (cy_wri, 1000, .inl u.2))] t.heap ∧ va_D (va_A [(h_mm, .inr (8, (mo118 v_mm (.ref h_wri) (.int x_mm_writes) (.int x_mm_room)))), (h_wri, .inl (cy_wri, 1000, .inl f_wri))] sz) [(h_mm, .inr (8, (mo118 v_mm (.ref h_wri) (.int u.1) (.int x_mm_room)))), (h_wri, .inl (cy_wri, 1000, .inl u.2))]) (va_A [(h_mm, .inr (8, (mo118 v_mm (.ref h_wri) (.int x_mm_writes) (.int x_mm_room)))), (h_wri, .inl (cy_wri, 1000, .inl f_wri))] sz)) 0 0 (va_A [(h_mm, .inr (8, (mo118 v_mm (.ref h_wri) (.int x_mm_writes) (.int x_mm_room)))), (h_wri, .inl (cy_wri, 1000, .inl f_wri))] sz) := by
  refine Met.ofW (cc := cX11_saysName) (maxL := 3) (ret := none) (by decide) rfl ?_
  intro p e s m args below meth c s₁ B hml hv
  obtain ⟨rfl, hsz, hP, hK, hD0, hN⟩ := hv
  have hx := B.exec
  have hb := B.bytes
  have hr := B.returns
  have hts := atoms_spec (ws := Ws yX11_saysName cX11_saysName 3 none) B.pre
  have hT : ∀ w ∈ WALL, w ∈ Ws yX11_saysName cX11_saysName 3 none := fun w h => List.mem_cons_of_mem _ h
  have hw := fun w (h : w ∈ WALL) => hts w (hT w h)
  have hown : s.vm.findClass RX11 = some m.cls := findClass_of_methodNamed B.named
  have hlocks := B.notSynchronized
  subst hsz
  have hD := hD0.self (sz := s.heap.size)
  generalize hAe : va_A [(h_mm, .inr (8, (mo118 v_mm (.ref h_wri) (.int x_mm_writes) (.int x_mm_room)))), (h_wri, .inl (cy_wri, 1000, .inl f_wri))] s.heap.size = A at hD ⊢
  have hA : ∀ q : Nat, s.heap.size ≤ q → A q := fun q h => by rw [← hAe]; exact Or.inr h
  have hS : va_S A s.heap s.heap [] := va_S.rf
  have hl := lv_entry ([.ref h_mm, .long p1]) (n := 3) (Nat.le_of_ble_eq_true rfl)
  rw [lg_entry_eq]
  generalize (lg_sl ([.ref h_mm, .long p1]) ++ List.replicate (3 - (lg_sl ([.ref h_mm, .long p1])).length) Slot.unset).toArray = ls at hl ⊢
  have hl : lv_has ls 3 [(0, .ref h_mm), (1, .long p1)] := hl
  refine lv_lload_n hx hb dX11_saysName_0 rfl (lv_at hl 1 rfl) ?_
  refine lv_ldc2 (v := 27) hx hb hown (hw _ w_cl_X11_93) dX11_saysName_1 ?_
  refine W.lcmp hx hb dX11_saysName_4 ?_
  refine lv_topi (fun z1 ez1 => ?_)
  have gz1 := lgc p1 27
  rw [← ez1] at gz1
  have : (27 : Int64).toInt = 27 := by decide
  have nr9 : nlR 6 (p1).toInt = _ := nlR_s 5 (p1).toInt
  refine lv_if_le (tgt := 19) hx hb dX11_saysName_5 (by decide) (fun c2 => ?_) (fun c2 => ?_)
  · have kc2 := (cv_le (rfl : (z1).toInt = (z1).toInt) (by decide : (0 : Int32).toInt = 0)).mp c2
    rw [if_neg (by omega)] at nr9
    refine lv_aload_n hx hb dX11_saysName_19 rfl (lv_at hl 0 rfl) ?_
    refine lv_bipush (v := 97) hx hb dX11_saysName_20 (by decide) ?_
    refine lv_lload_n hx hb dX11_saysName_22 rfl (lv_at hl 1 rfl) ?_
    refine lv_lconst (v := 1) hx hb dX11_saysName_23 (by decide) ?_
    refine lv_lsub hx hb dX11_saysName_24 ?_
    refine lv_topl (fun z3 ez3 => ?_)
    refine lv_ldc2 (v := 27) hx hb hown (hw _ w_cl_X11_93) dX11_saysName_25 ?_
    refine lv_lrem hx hb dX11_saysName_28 (by decide) ?_
    refine lv_topl (fun z4 ez4 => ?_)
    refine lv_l2i hx hb dX11_saysName_29 rfl ?_
    refine lv_topi (fun z5 ez5 => ?_)
    refine lv_iadd hx hb dX11_saysName_30 ?_
    refine lv_topi (fun z6 ez6 => ?_)
    have hPc := hP.sub (ws' := [(h_mm, .inr (8, (mo118 v_mm (.ref h_wri) (.int x_mm_writes) (.int x_mm_room)))), (h_wri, .inl (cy_wri, 1000, .inl f_wri))]) [0, 1] rfl
    have hDc := hD.sub (ws' := [(h_mm, .inr (8, (mo118 v_mm (.ref h_wri) (.int x_mm_writes) (.int x_mm_room)))), (h_wri, .inl (cy_wri, 1000, .inl f_wri))]) [0, 1] (by decide) rfl
    have hKc := hK.sub (tys' := [(cy_wri, .int)]) [0] rfl
    have hFc := va_free (wc := [(h_mm, .inr (8, (mo118 v_mm (.ref h_wri) (.int x_mm_writes) (.int x_mm_room)))), (h_wri, .inl (cy_wri, 1000, .inl f_wri))]) hD hS hA [0, 1] rfl
    refine va_callv (va_runV (As := [.int z6]) (rest := []) ⟨hx, hb, hml, hown, hts⟩ (c_X11_says_n l dC dI s.heap.size h_mm h_wri v_mm x_mm_writes x_mm_room cy_wri f_wri z6 (by first | exact hx_mm_writes | omega) (by first | exact hx_mm_room | omega) (by omega)) (cwV 1 hts (gv hT w_m_X11_452 w_instanceMethod_X11_says ws_sel_X11_says w_ini_X11 w_code_X11_says) rfl rfl rfl (by decide +kernel) ⟨(Nat.le_of_ble_eq_true rfl), (Nat.le_of_ble_eq_true rfl)⟩) ⟨pre_blind, va_recv hK hP (ci := 8) (q0 := 0) rfl rfl, pre_of hPc hKc hDc hN⟩ rfl rfl hl.1 rfl (lv_room (Nat.le_of_ble_eq_true rfl)) dX11_saysName_31 ⟨(Nat.le_of_ble_eq_true rfl), (Nat.le_of_ble_eq_true rfl)⟩) hS (fun q _ h => hFc q h) hFc (fun u t H locs ht hvm hq hB hz1 hk1 hS9 => ?_)
    obtain ⟨z8, f9⟩ := u
    obtain ⟨hP1, hD1⟩ := hB
    rw [ht] at hP1
    obtain ⟨hP9, hD9⟩ := va_join (wr := []) (w1 := [(h_mm, .inr (8, (mo118 v_mm (.ref h_wri) (.int z8) (.int x_mm_room)))), (h_wri, .inl (cy_wri, 1000, .inl f9))]) hP hD [0, 1] [] rfl rfl (by decide) (by decide) hk1 hFc hP1 hD1
    clear hP hD hS hPc hDc hKc hFc hP1 hD1 hk1 hz1 ht hvm
    have hP : va_P (dC, dI) cls [(h_mm, .inr (8, (mo118 v_mm (.ref h_wri) (.int z8) (.int x_mm_room)))), (h_wri, .inl (cy_wri, 1000, .inl f9))] H := hP9
    have hD : va_D A [(h_mm, .inr (8, (mo118 v_mm (.ref h_wri) (.int z8) (.int x_mm_room)))), (h_wri, .inl (cy_wri, 1000, .inl f9))] := hD9
    have hS := hS9
    clear hP9 hD9 hS9
    obtain ⟨k10, k11⟩ := hq
    replace k10 : 0 ≤ ((z8)).toInt ∧ ((z8)).toInt ≤ 1000 := k10
    replace k11 : ((z8)).toInt = ((x_mm_writes)).toInt + 1 := k11
    refine W.widen (k := 0) (n := 0) (Nat.le_of_ble_eq_true rfl) (Nat.le_of_ble_eq_true rfl) ?_
    have w12 : 0 ≤ ((z8)).toInt ∧ ((z8)).toInt ≤ 1000 := by first | exact k10 | omega
    have w13 : ((z8)).toInt = (x_mm_writes).toInt + nlR 6 (p1).toInt := by omega
    exact W.vret hx hb hr (fun t ht hW => ⟨⟨(z8, f9), rfl, ⟨w12, w13⟩, by rw [ht]; exact hP, hD⟩, hS.F ht⟩) hS.2.2 dX11_saysName_34
  · have kc2 := (not_congr (cv_le (rfl : (z1).toInt = (z1).toInt) (by decide : (0 : Int32).toInt = 0))).mp c2
    have bd9 := l_bd p1
    rw [if_pos (by omega)] at nr9
    refine lv_aload_n hx hb dX11_saysName_8 rfl (lv_at hl 0 rfl) ?_
    refine lv_lload_n hx hb dX11_saysName_9 rfl (lv_at hl 1 rfl) ?_
    refine lv_lconst (v := 1) hx hb dX11_saysName_10 (by decide) ?_
    refine lv_lsub hx hb dX11_saysName_11 ?_
    refine lv_topl (fun z14 ez14 => ?_)
    have tz14 : (z14).toInt = (p1).toInt - 1 := by rw [ez14]; exact l_sub rfl (by decide) (by omega)
    refine lv_ldc2 (v := 27) hx hb hown (hw _ w_cl_X11_93) dX11_saysName_12 ?_
    refine lv_ldiv hx hb dX11_saysName_15 (by decide) ?_
    refine lv_topl (fun z15 ez15 => ?_)
    have tz15 : 0 ≤ (z14).toInt → (z15).toInt = (z14).toInt / 27 := fun h9 => by rw [ez15]; exact l_div rfl (by decide) (by omega)
    have dv9 := tz15 (by omega)
    have dw9 : ((p1).toInt - 1) / 27 = (z15).toInt := by omega
    rw [dw9] at nr9
    have ng9 := nlR_ge 5 (z15).toInt
    have hPc := hP.sub (ws' := [(h_mm, .inr (8, (mo118 v_mm (.ref h_wri) (.int x_mm_writes) (.int x_mm_room)))), (h_wri, .inl (cy_wri, 1000, .inl f_wri))]) [0, 1] rfl
    have hDc := hD.sub (ws' := [(h_mm, .inr (8, (mo118 v_mm (.ref h_wri) (.int x_mm_writes) (.int x_mm_room)))), (h_wri, .inl (cy_wri, 1000, .inl f_wri))]) [0, 1] (by decide) rfl
    have hKc := hK.sub (tys' := [(cy_wri, .int)]) [0] rfl
    have hFc := va_free (wc := [(h_mm, .inr (8, (mo118 v_mm (.ref h_wri) (.int x_mm_writes) (.int x_mm_room)))), (h_wri, .inl (cy_wri, 1000, .inl f_wri))]) hD hS hA [0, 1] rfl
    refine va_callv (va_runV (As := [.long z15]) (rest := []) ⟨hx, hb, hml, hown, hts⟩ (c_X11_saysName_n4 l dC dI s.heap.size h_mm h_wri v_mm x_mm_writes x_mm_room cy_wri f_wri z15 (by first | exact hx_mm_writes | omega) (by first | exact hx_mm_room | omega) (by omega) (by omega) (by omega)) (cwV 1 hts (gv hT w_m_X11_455 w_instanceMethod_X11_saysName ws_sel_X11_saysName w_ini_X11 w_code_X11_saysName) rfl rfl rfl (by decide +kernel) ⟨(Nat.le_of_ble_eq_true rfl), (Nat.le_of_ble_eq_true rfl)⟩) ⟨pre_blind, va_recv hK hP (ci := 8) (q0 := 0) rfl rfl, pre_of hPc hKc hDc hN⟩ rfl rfl hl.1 rfl (lv_room (Nat.le_of_ble_eq_true rfl)) dX11_saysName_16 ⟨(Nat.le_of_ble_eq_true rfl), (Nat.le_of_ble_eq_true rfl)⟩) hS (fun q _ h => hFc q h) hFc (fun u t H locs ht hvm hq hB hz1 hk1 hS9 => ?_)
    obtain ⟨z17, f18⟩ := u
    obtain ⟨hP1, hD1⟩ := hB
    rw [ht] at hP1
    obtain ⟨hP9, hD9⟩ := va_join (wr := []) (w1 := [(h_mm, .inr (8, (mo118 v_mm (.ref h_wri) (.int z17) (.int x_mm_room)))), (h_wri, .inl (cy_wri, 1000, .inl f18))]) hP hD [0, 1] [] rfl rfl (by decide) (by decide) hk1 hFc hP1 hD1
    clear hP hD hS hPc hDc hKc hFc hP1 hD1 hk1 hz1 ht hvm
    have hP : va_P (dC, dI) cls [(h_mm, .inr (8, (mo118 v_mm (.ref h_wri) (.int z17) (.int x_mm_room)))), (h_wri, .inl (cy_wri, 1000, .inl f18))] H := hP9
    have hD : va_D A [(h_mm, .inr (8, (mo118 v_mm (.ref h_wri) (.int z17) (.int x_mm_room)))), (h_wri, .inl (cy_wri, 1000, .inl f18))] := hD9
    have hS := hS9
    clear hP9 hD9 hS9
    obtain ⟨k19, k20⟩ := hq
    replace k19 : 0 ≤ ((z17)).toInt ∧ ((z17)).toInt ≤ 1000 := k19
    replace k20 : ((z17)).toInt = ((x_mm_writes)).toInt + nlR 5 ((z15)).toInt := k20
    refine lv_aload_n hx hb dX11_saysName_19 rfl (lv_at hl 0 rfl) ?_
    refine lv_bipush (v := 97) hx hb dX11_saysName_20 (by decide) ?_
    refine lv_lload_n hx hb dX11_saysName_22 rfl (lv_at hl 1 rfl) ?_
    refine lv_lconst (v := 1) hx hb dX11_saysName_23 (by decide) ?_
    refine lv_lsub hx hb dX11_saysName_24 ?_
    refine lv_topl (fun z21 ez21 => ?_)
    refine lv_ldc2 (v := 27) hx hb hown (hw _ w_cl_X11_93) dX11_saysName_25 ?_
    refine lv_lrem hx hb dX11_saysName_28 (by decide) ?_
    refine lv_topl (fun z22 ez22 => ?_)
    refine lv_l2i hx hb dX11_saysName_29 rfl ?_
    refine lv_topi (fun z23 ez23 => ?_)
    refine lv_iadd hx hb dX11_saysName_30 ?_
    refine lv_topi (fun z24 ez24 => ?_)
    have hPc := hP.sub (ws' := [(h_mm, .inr (8, (mo118 v_mm (.ref h_wri) (.int z17) (.int x_mm_room)))), (h_wri, .inl (cy_wri, 1000, .inl f18))]) [0, 1] rfl
    have hDc := hD.sub (ws' := [(h_mm, .inr (8, (mo118 v_mm (.ref h_wri) (.int z17) (.int x_mm_room)))), (h_wri, .inl (cy_wri, 1000, .inl f18))]) [0, 1] (by decide) rfl
    have hKc := hK.sub (tys' := [(cy_wri, .int)]) [0] rfl
    have hFc := va_free (wc := [(h_mm, .inr (8, (mo118 v_mm (.ref h_wri) (.int z17) (.int x_mm_room)))), (h_wri, .inl (cy_wri, 1000, .inl f18))]) hD hS hA [0, 1] rfl
    refine va_callv (va_runV (As := [.int z24]) (rest := []) ⟨hx, hb, hml, hown, hts⟩ (c_X11_says_n l dC dI H.size h_mm h_wri v_mm z17 x_mm_room cy_wri f18 z24 (by first | exact k19 | omega) (by first | exact hx_mm_room | omega) (by omega)) (cwV 1 hts (gv hT w_m_X11_452 w_instanceMethod_X11_says ws_sel_X11_says w_ini_X11 w_code_X11_says) rfl rfl rfl (by decide +kernel) ⟨(Nat.le_of_ble_eq_true rfl), (Nat.le_of_ble_eq_true rfl)⟩) ⟨pre_blind, va_recv hK hP (ci := 8) (q0 := 0) rfl rfl, pre_of hPc hKc hDc hN⟩ rfl rfl hl.1 rfl (lv_room (Nat.le_of_ble_eq_true rfl)) dX11_saysName_31 ⟨(Nat.le_of_ble_eq_true rfl), (Nat.le_of_ble_eq_true rfl)⟩) hS (fun q _ h => hFc q h) hFc (fun u t H locs ht hvm hq hB hz1 hk1 hS9 => ?_)
    obtain ⟨z26, f27⟩ := u
    obtain ⟨hP1, hD1⟩ := hB
    rw [ht] at hP1
    obtain ⟨hP9, hD9⟩ := va_join (wr := []) (w1 := [(h_mm, .inr (8, (mo118 v_mm (.ref h_wri) (.int z26) (.int x_mm_room)))), (h_wri, .inl (cy_wri, 1000, .inl f27))]) hP hD [0, 1] [] rfl rfl (by decide) (by decide) hk1 hFc hP1 hD1
    clear hP hD hS hPc hDc hKc hFc hP1 hD1 hk1 hz1 ht hvm
    have hP : va_P (dC, dI) cls [(h_mm, .inr (8, (mo118 v_mm (.ref h_wri) (.int z26) (.int x_mm_room)))), (h_wri, .inl (cy_wri, 1000, .inl f27))] H := hP9
    have hD : va_D A [(h_mm, .inr (8, (mo118 v_mm (.ref h_wri) (.int z26) (.int x_mm_room)))), (h_wri, .inl (cy_wri, 1000, .inl f27))] := hD9
    have hS := hS9
    clear hP9 hD9 hS9
    obtain ⟨k28, k29⟩ := hq
    replace k28 : 0 ≤ ((z26)).toInt ∧ ((z26)).toInt ≤ 1000 := k28
    replace k29 : ((z26)).toInt = ((z17)).toInt + 1 := k29
    refine W.widen (k := 0) (n := 0) (Nat.le_of_ble_eq_true rfl) (Nat.le_of_ble_eq_true rfl) ?_
    have w30 : 0 ≤ ((z26)).toInt ∧ ((z26)).toInt ≤ 1000 := by first | exact k28 | omega
    have w31 : ((z26)).toInt = (x_mm_writes).toInt + nlR 6 (p1).toInt := by omega
    exact W.vret hx hb hr (fun t ht hW => ⟨⟨(z26, f27), rfl, ⟨w30, w31⟩, by rw [ht]; exact hP, hD⟩, hS.F ht⟩) hS.2.2 dX11_saysName_34

set_option maxHeartbeats 8000000 in
set_option maxRecDepth 100000 in
theorem c_X11_saysName_n6 (l : Launch) (dC : Nat → ClassId) (dI : Nat → Nat → Nat) (sz : Nat) (h_mm : Nat) (h_wri : Nat) (v_mm : Nat → Value) (x_mm_writes : Int32) (x_mm_room : Int32) (cy_wri : ClassId) (f_wri : Nat → Int32) (p1 : Int64) (hx_mm_writes : 0 ≤ (x_mm_writes).toInt ∧ (x_mm_writes).toInt ≤ 1000) (hx_mm_room : 0 ≤ (x_mm_room).toInt ∧ (x_mm_room).toInt ≤ 998) (q0 : (p1).toInt ≤ 10862674479) (q1 : 1 ≤ (p1).toInt) (q2 : (x_mm_writes).toInt + nlR 7 (p1).toInt ≤ (x_mm_room).toInt + 1) : Met l yX11_saysName (Ws yX11_saysName cX11_saysName 3 none) (({ frames := 7, cells := 0, slots := 0, locals := 153 } : Room)) (PRE (dC, dI) cls [(cy_wri, .int)] [(h_mm, .inr (8, (mo118 v_mm (.ref h_wri) (.int x_mm_writes) (.int x_mm_room)))), (h_wri, .inl (cy_wri, 1000, .inl f_wri))] sz [.ref h_mm, .long p1]) (va_Qv (fun (u : (Int32) × (Nat → Int32)) => (0 ≤ (u.1).toInt ∧ (u.1).toInt ≤ 1000) ∧ ((u.1).toInt = (x_mm_writes).toInt + nlR 7 (p1).toInt)) (fun (u : (Int32) × (Nat → Int32)) (t : State) => va_P (dC, dI) cls [(h_mm, .inr (8, (mo118 v_mm (.ref h_wri) (.int u.1) (.int x_mm_room)))), (h_wri, .inl (cy_wri, 1000, .inl u.2))] t.heap ∧ va_D (va_A [(h_mm, .inr (8, (mo118 v_mm (.ref h_wri) (.int x_mm_writes) (.int x_mm_room)))), (h_wri, .inl (cy_wri, 1000, .inl f_wri))] sz) [(h_mm, .inr (8, (mo118 v_mm (.ref h_wri) (.int u.1) (.int x_mm_room)))), (h_wri, .inl (cy_wri, 1000, .inl u.2))]) (va_A [(h_mm, .inr (8, (mo118 v_mm (.ref h_wri) (.int x_mm_writes) (.int x_mm_room)))), (h_wri, .inl (cy_wri, 1000, .inl f_wri))] sz)) 0 0 (va_A [(h_mm, .inr (8, (mo118 v_mm (.ref h_wri) (.int x_mm_writes) (.int x_mm_room)))), (h_wri, .inl (cy_wri, 1000, .inl f_wri))] sz) := by
  refine Met.ofW (cc := cX11_saysName) (maxL := 3) (ret := none) (by decide) rfl ?_
  intro p e s m args below meth c s₁ B hml hv
  obtain ⟨rfl, hsz, hP, hK, hD0, hN⟩ := hv
  have hx := B.exec
  have hb := B.bytes
  have hr := B.returns
  have hts := atoms_spec (ws := Ws yX11_saysName cX11_saysName 3 none) B.pre
  have hT : ∀ w ∈ WALL, w ∈ Ws yX11_saysName cX11_saysName 3 none := fun w h => List.mem_cons_of_mem _ h
  have hw := fun w (h : w ∈ WALL) => hts w (hT w h)
  have hown : s.vm.findClass RX11 = some m.cls := findClass_of_methodNamed B.named
  have hlocks := B.notSynchronized
  subst hsz
  have hD := hD0.self (sz := s.heap.size)
  generalize hAe : va_A [(h_mm, .inr (8, (mo118 v_mm (.ref h_wri) (.int x_mm_writes) (.int x_mm_room)))), (h_wri, .inl (cy_wri, 1000, .inl f_wri))] s.heap.size = A at hD ⊢
  have hA : ∀ q : Nat, s.heap.size ≤ q → A q := fun q h => by rw [← hAe]; exact Or.inr h
  have hS : va_S A s.heap s.heap [] := va_S.rf
  have hl := lv_entry ([.ref h_mm, .long p1]) (n := 3) (Nat.le_of_ble_eq_true rfl)
  rw [lg_entry_eq]
  generalize (lg_sl ([.ref h_mm, .long p1]) ++ List.replicate (3 - (lg_sl ([.ref h_mm, .long p1])).length) Slot.unset).toArray = ls at hl ⊢
  have hl : lv_has ls 3 [(0, .ref h_mm), (1, .long p1)] := hl
  refine lv_lload_n hx hb dX11_saysName_0 rfl (lv_at hl 1 rfl) ?_
  refine lv_ldc2 (v := 27) hx hb hown (hw _ w_cl_X11_93) dX11_saysName_1 ?_
  refine W.lcmp hx hb dX11_saysName_4 ?_
  refine lv_topi (fun z1 ez1 => ?_)
  have gz1 := lgc p1 27
  rw [← ez1] at gz1
  have : (27 : Int64).toInt = 27 := by decide
  have nr9 : nlR 7 (p1).toInt = _ := nlR_s 6 (p1).toInt
  refine lv_if_le (tgt := 19) hx hb dX11_saysName_5 (by decide) (fun c2 => ?_) (fun c2 => ?_)
  · have kc2 := (cv_le (rfl : (z1).toInt = (z1).toInt) (by decide : (0 : Int32).toInt = 0)).mp c2
    rw [if_neg (by omega)] at nr9
    refine lv_aload_n hx hb dX11_saysName_19 rfl (lv_at hl 0 rfl) ?_
    refine lv_bipush (v := 97) hx hb dX11_saysName_20 (by decide) ?_
    refine lv_lload_n hx hb dX11_saysName_22 rfl (lv_at hl 1 rfl) ?_
    refine lv_lconst (v := 1) hx hb dX11_saysName_23 (by decide) ?_
    refine lv_lsub hx hb dX11_saysName_24 ?_
    refine lv_topl (fun z3 ez3 => ?_)
    refine lv_ldc2 (v := 27) hx hb hown (hw _ w_cl_X11_93) dX11_saysName_25 ?_
    refine lv_lrem hx hb dX11_saysName_28 (by decide) ?_
    refine lv_topl (fun z4 ez4 => ?_)
    refine lv_l2i hx hb dX11_saysName_29 rfl ?_
    refine lv_topi (fun z5 ez5 => ?_)
    refine lv_iadd hx hb dX11_saysName_30 ?_
    refine lv_topi (fun z6 ez6 => ?_)
    have hPc := hP.sub (ws' := [(h_mm, .inr (8, (mo118 v_mm (.ref h_wri) (.int x_mm_writes) (.int x_mm_room)))), (h_wri, .inl (cy_wri, 1000, .inl f_wri))]) [0, 1] rfl
    have hDc := hD.sub (ws' := [(h_mm, .inr (8, (mo118 v_mm (.ref h_wri) (.int x_mm_writes) (.int x_mm_room)))), (h_wri, .inl (cy_wri, 1000, .inl f_wri))]) [0, 1] (by decide) rfl
    have hKc := hK.sub (tys' := [(cy_wri, .int)]) [0] rfl
    have hFc := va_free (wc := [(h_mm, .inr (8, (mo118 v_mm (.ref h_wri) (.int x_mm_writes) (.int x_mm_room)))), (h_wri, .inl (cy_wri, 1000, .inl f_wri))]) hD hS hA [0, 1] rfl
    refine va_callv (va_runV (As := [.int z6]) (rest := []) ⟨hx, hb, hml, hown, hts⟩ (c_X11_says_n l dC dI s.heap.size h_mm h_wri v_mm x_mm_writes x_mm_room cy_wri f_wri z6 (by first | exact hx_mm_writes | omega) (by first | exact hx_mm_room | omega) (by omega)) (cwV 1 hts (gv hT w_m_X11_452 w_instanceMethod_X11_says ws_sel_X11_says w_ini_X11 w_code_X11_says) rfl rfl rfl (by decide +kernel) ⟨(Nat.le_of_ble_eq_true rfl), (Nat.le_of_ble_eq_true rfl)⟩) ⟨pre_blind, va_recv hK hP (ci := 8) (q0 := 0) rfl rfl, pre_of hPc hKc hDc hN⟩ rfl rfl hl.1 rfl (lv_room (Nat.le_of_ble_eq_true rfl)) dX11_saysName_31 ⟨(Nat.le_of_ble_eq_true rfl), (Nat.le_of_ble_eq_true rfl)⟩) hS (fun q _ h => hFc q h) hFc (fun u t H locs ht hvm hq hB hz1 hk1 hS9 => ?_)
    obtain ⟨z8, f9⟩ := u
    obtain ⟨hP1, hD1⟩ := hB
    rw [ht] at hP1
    obtain ⟨hP9, hD9⟩ := va_join (wr := []) (w1 := [(h_mm, .inr (8, (mo118 v_mm (.ref h_wri) (.int z8) (.int x_mm_room)))), (h_wri, .inl (cy_wri, 1000, .inl f9))]) hP hD [0, 1] [] rfl rfl (by decide) (by decide) hk1 hFc hP1 hD1
    clear hP hD hS hPc hDc hKc hFc hP1 hD1 hk1 hz1 ht hvm
    have hP : va_P (dC, dI) cls [(h_mm, .inr (8, (mo118 v_mm (.ref h_wri) (.int z8) (.int x_mm_room)))), (h_wri, .inl (cy_wri, 1000, .inl f9))] H := hP9
    have hD : va_D A [(h_mm, .inr (8, (mo118 v_mm (.ref h_wri) (.int z8) (.int x_mm_room)))), (h_wri, .inl (cy_wri, 1000, .inl f9))] := hD9
    have hS := hS9
    clear hP9 hD9 hS9
    obtain ⟨k10, k11⟩ := hq
    replace k10 : 0 ≤ ((z8)).toInt ∧ ((z8)).toInt ≤ 1000 := k10
    replace k11 : ((z8)).toInt = ((x_mm_writes)).toInt + 1 := k11
    refine W.widen (k := 0) (n := 0) (Nat.le_of_ble_eq_true rfl) (Nat.le_of_ble_eq_true rfl) ?_
    have w12 : 0 ≤ ((z8)).toInt ∧ ((z8)).toInt ≤ 1000 := by first | exact k10 | omega
    have w13 : ((z8)).toInt = (x_mm_writes).toInt + nlR 7 (p1).toInt := by omega
    exact W.vret hx hb hr (fun t ht hW => ⟨⟨(z8, f9), rfl, ⟨w12, w13⟩, by rw [ht]; exact hP, hD⟩, hS.F ht⟩) hS.2.2 dX11_saysName_34
  · have kc2 := (not_congr (cv_le (rfl : (z1).toInt = (z1).toInt) (by decide : (0 : Int32).toInt = 0))).mp c2
    have bd9 := l_bd p1
    rw [if_pos (by omega)] at nr9
    refine lv_aload_n hx hb dX11_saysName_8 rfl (lv_at hl 0 rfl) ?_
    refine lv_lload_n hx hb dX11_saysName_9 rfl (lv_at hl 1 rfl) ?_
    refine lv_lconst (v := 1) hx hb dX11_saysName_10 (by decide) ?_
    refine lv_lsub hx hb dX11_saysName_11 ?_
    refine lv_topl (fun z14 ez14 => ?_)
    have tz14 : (z14).toInt = (p1).toInt - 1 := by rw [ez14]; exact l_sub rfl (by decide) (by omega)
    refine lv_ldc2 (v := 27) hx hb hown (hw _ w_cl_X11_93) dX11_saysName_12 ?_
    refine lv_ldiv hx hb dX11_saysName_15 (by decide) ?_
    refine lv_topl (fun z15 ez15 => ?_)
    have tz15 : 0 ≤ (z14).toInt → (z15).toInt = (z14).toInt / 27 := fun h9 => by rw [ez15]; exact l_div rfl (by decide) (by omega)
    have dv9 := tz15 (by omega)
    have dw9 : ((p1).toInt - 1) / 27 = (z15).toInt := by omega
    rw [dw9] at nr9
    have ng9 := nlR_ge 6 (z15).toInt
    have hPc := hP.sub (ws' := [(h_mm, .inr (8, (mo118 v_mm (.ref h_wri) (.int x_mm_writes) (.int x_mm_room)))), (h_wri, .inl (cy_wri, 1000, .inl f_wri))]) [0, 1] rfl
    have hDc := hD.sub (ws' := [(h_mm, .inr (8, (mo118 v_mm (.ref h_wri) (.int x_mm_writes) (.int x_mm_room)))), (h_wri, .inl (cy_wri, 1000, .inl f_wri))]) [0, 1] (by decide) rfl
    have hKc := hK.sub (tys' := [(cy_wri, .int)]) [0] rfl
    have hFc := va_free (wc := [(h_mm, .inr (8, (mo118 v_mm (.ref h_wri) (.int x_mm_writes) (.int x_mm_room)))), (h_wri, .inl (cy_wri, 1000, .inl f_wri))]) hD hS hA [0, 1] rfl
    refine va_callv (va_runV (As := [.long z15]) (rest := []) ⟨hx, hb, hml, hown, hts⟩ (c_X11_saysName_n5 l dC dI s.heap.size h_mm h_wri v_mm x_mm_writes x_mm_room cy_wri f_wri z15 (by first | exact hx_mm_writes | omega) (by first | exact hx_mm_room | omega) (by omega) (by omega) (by omega)) (cwV 1 hts (gv hT w_m_X11_455 w_instanceMethod_X11_saysName ws_sel_X11_saysName w_ini_X11 w_code_X11_saysName) rfl rfl rfl (by decide +kernel) ⟨(Nat.le_of_ble_eq_true rfl), (Nat.le_of_ble_eq_true rfl)⟩) ⟨pre_blind, va_recv hK hP (ci := 8) (q0 := 0) rfl rfl, pre_of hPc hKc hDc hN⟩ rfl rfl hl.1 rfl (lv_room (Nat.le_of_ble_eq_true rfl)) dX11_saysName_16 ⟨(Nat.le_of_ble_eq_true rfl), (Nat.le_of_ble_eq_true rfl)⟩) hS (fun q _ h => hFc q h) hFc (fun u t H locs ht hvm hq hB hz1 hk1 hS9 => ?_)
    obtain ⟨z17, f18⟩ := u
    obtain ⟨hP1, hD1⟩ := hB
    rw [ht] at hP1
    obtain ⟨hP9, hD9⟩ := va_join (wr := []) (w1 := [(h_mm, .inr (8, (mo118 v_mm (.ref h_wri) (.int z17) (.int x_mm_room)))), (h_wri, .inl (cy_wri, 1000, .inl f18))]) hP hD [0, 1] [] rfl rfl (by decide) (by decide) hk1 hFc hP1 hD1
    clear hP hD hS hPc hDc hKc hFc hP1 hD1 hk1 hz1 ht hvm
    have hP : va_P (dC, dI) cls [(h_mm, .inr (8, (mo118 v_mm (.ref h_wri) (.int z17) (.int x_mm_room)))), (h_wri, .inl (cy_wri, 1000, .inl f18))] H := hP9
    have hD : va_D A [(h_mm, .inr (8, (mo118 v_mm (.ref h_wri) (.int z17) (.int x_mm_room)))), (h_wri, .inl (cy_wri, 1000, .inl f18))] := hD9
    have hS := hS9
    clear hP9 hD9 hS9
    obtain ⟨k19, k20⟩ := hq
    replace k19 : 0 ≤ ((z17)).toInt ∧ ((z17)).toInt ≤ 1000 := k19
    replace k20 : ((z17)).toInt = ((x_mm_writes)).toInt + nlR 6 ((z15)).toInt := k20
    refine lv_aload_n hx hb dX11_saysName_19 rfl (lv_at hl 0 rfl) ?_
    refine lv_bipush (v := 97) hx hb dX11_saysName_20 (by decide) ?_
    refine lv_lload_n hx hb dX11_saysName_22 rfl (lv_at hl 1 rfl) ?_
    refine lv_lconst (v := 1) hx hb dX11_saysName_23 (by decide) ?_
    refine lv_lsub hx hb dX11_saysName_24 ?_
    refine lv_topl (fun z21 ez21 => ?_)
    refine lv_ldc2 (v := 27) hx hb hown (hw _ w_cl_X11_93) dX11_saysName_25 ?_
    refine lv_lrem hx hb dX11_saysName_28 (by decide) ?_
    refine lv_topl (fun z22 ez22 => ?_)
    refine lv_l2i hx hb dX11_saysName_29 rfl ?_
    refine lv_topi (fun z23 ez23 => ?_)
    refine lv_iadd hx hb dX11_saysName_30 ?_
    refine lv_topi (fun z24 ez24 => ?_)
    have hPc := hP.sub (ws' := [(h_mm, .inr (8, (mo118 v_mm (.ref h_wri) (.int z17) (.int x_mm_room)))), (h_wri, .inl (cy_wri, 1000, .inl f18))]) [0, 1] rfl
    have hDc := hD.sub (ws' := [(h_mm, .inr (8, (mo118 v_mm (.ref h_wri) (.int z17) (.int x_mm_room)))), (h_wri, .inl (cy_wri, 1000, .inl f18))]) [0, 1] (by decide) rfl
    have hKc := hK.sub (tys' := [(cy_wri, .int)]) [0] rfl
    have hFc := va_free (wc := [(h_mm, .inr (8, (mo118 v_mm (.ref h_wri) (.int z17) (.int x_mm_room)))), (h_wri, .inl (cy_wri, 1000, .inl f18))]) hD hS hA [0, 1] rfl
    refine va_callv (va_runV (As := [.int z24]) (rest := []) ⟨hx, hb, hml, hown, hts⟩ (c_X11_says_n l dC dI H.size h_mm h_wri v_mm z17 x_mm_room cy_wri f18 z24 (by first | exact k19 | omega) (by first | exact hx_mm_room | omega) (by omega)) (cwV 1 hts (gv hT w_m_X11_452 w_instanceMethod_X11_says ws_sel_X11_says w_ini_X11 w_code_X11_says) rfl rfl rfl (by decide +kernel) ⟨(Nat.le_of_ble_eq_true rfl), (Nat.le_of_ble_eq_true rfl)⟩) ⟨pre_blind, va_recv hK hP (ci := 8) (q0 := 0) rfl rfl, pre_of hPc hKc hDc hN⟩ rfl rfl hl.1 rfl (lv_room (Nat.le_of_ble_eq_true rfl)) dX11_saysName_31 ⟨(Nat.le_of_ble_eq_true rfl), (Nat.le_of_ble_eq_true rfl)⟩) hS (fun q _ h => hFc q h) hFc (fun u t H locs ht hvm hq hB hz1 hk1 hS9 => ?_)
    obtain ⟨z26, f27⟩ := u
    obtain ⟨hP1, hD1⟩ := hB
    rw [ht] at hP1
    obtain ⟨hP9, hD9⟩ := va_join (wr := []) (w1 := [(h_mm, .inr (8, (mo118 v_mm (.ref h_wri) (.int z26) (.int x_mm_room)))), (h_wri, .inl (cy_wri, 1000, .inl f27))]) hP hD [0, 1] [] rfl rfl (by decide) (by decide) hk1 hFc hP1 hD1
    clear hP hD hS hPc hDc hKc hFc hP1 hD1 hk1 hz1 ht hvm
    have hP : va_P (dC, dI) cls [(h_mm, .inr (8, (mo118 v_mm (.ref h_wri) (.int z26) (.int x_mm_room)))), (h_wri, .inl (cy_wri, 1000, .inl f27))] H := hP9
    have hD : va_D A [(h_mm, .inr (8, (mo118 v_mm (.ref h_wri) (.int z26) (.int x_mm_room)))), (h_wri, .inl (cy_wri, 1000, .inl f27))] := hD9
    have hS := hS9
    clear hP9 hD9 hS9
    obtain ⟨k28, k29⟩ := hq
    replace k28 : 0 ≤ ((z26)).toInt ∧ ((z26)).toInt ≤ 1000 := k28
    replace k29 : ((z26)).toInt = ((z17)).toInt + 1 := k29
    refine W.widen (k := 0) (n := 0) (Nat.le_of_ble_eq_true rfl) (Nat.le_of_ble_eq_true rfl) ?_
    have w30 : 0 ≤ ((z26)).toInt ∧ ((z26)).toInt ≤ 1000 := by first | exact k28 | omega
    have w31 : ((z26)).toInt = (x_mm_writes).toInt + nlR 7 (p1).toInt := by omega
    exact W.vret hx hb hr (fun t ht hW => ⟨⟨(z26, f27), rfl, ⟨w30, w31⟩, by rw [ht]; exact hP, hD⟩, hS.F ht⟩) hS.2.2 dX11_saysName_34

set_option maxHeartbeats 8000000 in
set_option maxRecDepth 100000 in
theorem c_X11_saysName_n7 (l : Launch) (dC : Nat → ClassId) (dI : Nat → Nat → Nat) (sz : Nat) (h_mm : Nat) (h_wri : Nat) (v_mm : Nat → Value) (x_mm_writes : Int32) (x_mm_room : Int32) (cy_wri : ClassId) (f_wri : Nat → Int32) (p1 : Int64) (hx_mm_writes : 0 ≤ (x_mm_writes).toInt ∧ (x_mm_writes).toInt ≤ 1000) (hx_mm_room : 0 ≤ (x_mm_room).toInt ∧ (x_mm_room).toInt ≤ 998) (q0 : (p1).toInt ≤ 293292210960) (q1 : 1 ≤ (p1).toInt) (q2 : (x_mm_writes).toInt + nlR 8 (p1).toInt ≤ (x_mm_room).toInt + 1) : Met l yX11_saysName (Ws yX11_saysName cX11_saysName 3 none) (({ frames := 8, cells := 0, slots := 0, locals := 175 } : Room)) (PRE (dC, dI) cls [(cy_wri, .int)] [(h_mm, .inr (8, (mo118 v_mm (.ref h_wri) (.int x_mm_writes) (.int x_mm_room)))), (h_wri, .inl (cy_wri, 1000, .inl f_wri))] sz [.ref h_mm, .long p1]) (va_Qv (fun (u : (Int32) × (Nat → Int32)) => (0 ≤ (u.1).toInt ∧ (u.1).toInt ≤ 1000) ∧ ((u.1).toInt = (x_mm_writes).toInt + nlR 8 (p1).toInt)) (fun (u : (Int32) × (Nat → Int32)) (t : State) => va_P (dC, dI) cls [(h_mm, .inr (8, (mo118 v_mm (.ref h_wri) (.int u.1) (.int x_mm_room)))), (h_wri, .inl (cy_wri, 1000, .inl u.2))] t.heap ∧ va_D (va_A [(h_mm, .inr (8, (mo118 v_mm (.ref h_wri) (.int x_mm_writes) (.int x_mm_room)))), (h_wri, .inl (cy_wri, 1000, .inl f_wri))] sz) [(h_mm, .inr (8, (mo118 v_mm (.ref h_wri) (.int u.1) (.int x_mm_room)))), (h_wri, .inl (cy_wri, 1000, .inl u.2))]) (va_A [(h_mm, .inr (8, (mo118 v_mm (.ref h_wri) (.int x_mm_writes) (.int x_mm_room)))), (h_wri, .inl (cy_wri, 1000, .inl f_wri))] sz)) 0 0 (va_A [(h_mm, .inr (8, (mo118 v_mm (.ref h_wri) (.int x_mm_writes) (.int x_mm_room)))), (h_wri, .inl (cy_wri, 1000, .inl f_wri))] sz) := by
  refine Met.ofW (cc := cX11_saysName) (maxL := 3) (ret := none) (by decide) rfl ?_
  intro p e s m args below meth c s₁ B hml hv
  obtain ⟨rfl, hsz, hP, hK, hD0, hN⟩ := hv
  have hx := B.exec
  have hb := B.bytes
  have hr := B.returns
  have hts := atoms_spec (ws := Ws yX11_saysName cX11_saysName 3 none) B.pre
  have hT : ∀ w ∈ WALL, w ∈ Ws yX11_saysName cX11_saysName 3 none := fun w h => List.mem_cons_of_mem _ h
  have hw := fun w (h : w ∈ WALL) => hts w (hT w h)
  have hown : s.vm.findClass RX11 = some m.cls := findClass_of_methodNamed B.named
  have hlocks := B.notSynchronized
  subst hsz
  have hD := hD0.self (sz := s.heap.size)
  generalize hAe : va_A [(h_mm, .inr (8, (mo118 v_mm (.ref h_wri) (.int x_mm_writes) (.int x_mm_room)))), (h_wri, .inl (cy_wri, 1000, .inl f_wri))] s.heap.size = A at hD ⊢
  have hA : ∀ q : Nat, s.heap.size ≤ q → A q := fun q h => by rw [← hAe]; exact Or.inr h
  have hS : va_S A s.heap s.heap [] := va_S.rf
  have hl := lv_entry ([.ref h_mm, .long p1]) (n := 3) (Nat.le_of_ble_eq_true rfl)
  rw [lg_entry_eq]
  generalize (lg_sl ([.ref h_mm, .long p1]) ++ List.replicate (3 - (lg_sl ([.ref h_mm, .long p1])).length) Slot.unset).toArray = ls at hl ⊢
  have hl : lv_has ls 3 [(0, .ref h_mm), (1, .long p1)] := hl
  refine lv_lload_n hx hb dX11_saysName_0 rfl (lv_at hl 1 rfl) ?_
  refine lv_ldc2 (v := 27) hx hb hown (hw _ w_cl_X11_93) dX11_saysName_1 ?_
  refine W.lcmp hx hb dX11_saysName_4 ?_
  refine lv_topi (fun z1 ez1 => ?_)
  have gz1 := lgc p1 27
  rw [← ez1] at gz1
  have : (27 : Int64).toInt = 27 := by decide
  have nr9 : nlR 8 (p1).toInt = _ := nlR_s 7 (p1).toInt
  refine lv_if_le (tgt := 19) hx hb dX11_saysName_5 (by decide) (fun c2 => ?_) (fun c2 => ?_)
  · have kc2 := (cv_le (rfl : (z1).toInt = (z1).toInt) (by decide : (0 : Int32).toInt = 0)).mp c2
    rw [if_neg (by omega)] at nr9
    refine lv_aload_n hx hb dX11_saysName_19 rfl (lv_at hl 0 rfl) ?_
    refine lv_bipush (v := 97) hx hb dX11_saysName_20 (by decide) ?_
    refine lv_lload_n hx hb dX11_saysName_22 rfl (lv_at hl 1 rfl) ?_
    refine lv_lconst (v := 1) hx hb dX11_saysName_23 (by decide) ?_
    refine lv_lsub hx hb dX11_saysName_24 ?_
    refine lv_topl (fun z3 ez3 => ?_)
    refine lv_ldc2 (v := 27) hx hb hown (hw _ w_cl_X11_93) dX11_saysName_25 ?_
    refine lv_lrem hx hb dX11_saysName_28 (by decide) ?_
    refine lv_topl (fun z4 ez4 => ?_)
    refine lv_l2i hx hb dX11_saysName_29 rfl ?_
    refine lv_topi (fun z5 ez5 => ?_)
    refine lv_iadd hx hb dX11_saysName_30 ?_
    refine lv_topi (fun z6 ez6 => ?_)
    have hPc := hP.sub (ws' := [(h_mm, .inr (8, (mo118 v_mm (.ref h_wri) (.int x_mm_writes) (.int x_mm_room)))), (h_wri, .inl (cy_wri, 1000, .inl f_wri))]) [0, 1] rfl
    have hDc := hD.sub (ws' := [(h_mm, .inr (8, (mo118 v_mm (.ref h_wri) (.int x_mm_writes) (.int x_mm_room)))), (h_wri, .inl (cy_wri, 1000, .inl f_wri))]) [0, 1] (by decide) rfl
    have hKc := hK.sub (tys' := [(cy_wri, .int)]) [0] rfl
    have hFc := va_free (wc := [(h_mm, .inr (8, (mo118 v_mm (.ref h_wri) (.int x_mm_writes) (.int x_mm_room)))), (h_wri, .inl (cy_wri, 1000, .inl f_wri))]) hD hS hA [0, 1] rfl
    refine va_callv (va_runV (As := [.int z6]) (rest := []) ⟨hx, hb, hml, hown, hts⟩ (c_X11_says_n l dC dI s.heap.size h_mm h_wri v_mm x_mm_writes x_mm_room cy_wri f_wri z6 (by first | exact hx_mm_writes | omega) (by first | exact hx_mm_room | omega) (by omega)) (cwV 1 hts (gv hT w_m_X11_452 w_instanceMethod_X11_says ws_sel_X11_says w_ini_X11 w_code_X11_says) rfl rfl rfl (by decide +kernel) ⟨(Nat.le_of_ble_eq_true rfl), (Nat.le_of_ble_eq_true rfl)⟩) ⟨pre_blind, va_recv hK hP (ci := 8) (q0 := 0) rfl rfl, pre_of hPc hKc hDc hN⟩ rfl rfl hl.1 rfl (lv_room (Nat.le_of_ble_eq_true rfl)) dX11_saysName_31 ⟨(Nat.le_of_ble_eq_true rfl), (Nat.le_of_ble_eq_true rfl)⟩) hS (fun q _ h => hFc q h) hFc (fun u t H locs ht hvm hq hB hz1 hk1 hS9 => ?_)
    obtain ⟨z8, f9⟩ := u
    obtain ⟨hP1, hD1⟩ := hB
    rw [ht] at hP1
    obtain ⟨hP9, hD9⟩ := va_join (wr := []) (w1 := [(h_mm, .inr (8, (mo118 v_mm (.ref h_wri) (.int z8) (.int x_mm_room)))), (h_wri, .inl (cy_wri, 1000, .inl f9))]) hP hD [0, 1] [] rfl rfl (by decide) (by decide) hk1 hFc hP1 hD1
    clear hP hD hS hPc hDc hKc hFc hP1 hD1 hk1 hz1 ht hvm
    have hP : va_P (dC, dI) cls [(h_mm, .inr (8, (mo118 v_mm (.ref h_wri) (.int z8) (.int x_mm_room)))), (h_wri, .inl (cy_wri, 1000, .inl f9))] H := hP9
    have hD : va_D A [(h_mm, .inr (8, (mo118 v_mm (.ref h_wri) (.int z8) (.int x_mm_room)))), (h_wri, .inl (cy_wri, 1000, .inl f9))] := hD9
    have hS := hS9
    clear hP9 hD9 hS9
    obtain ⟨k10, k11⟩ := hq
    replace k10 : 0 ≤ ((z8)).toInt ∧ ((z8)).toInt ≤ 1000 := k10
    replace k11 : ((z8)).toInt = ((x_mm_writes)).toInt + 1 := k11
    refine W.widen (k := 0) (n := 0) (Nat.le_of_ble_eq_true rfl) (Nat.le_of_ble_eq_true rfl) ?_
    have w12 : 0 ≤ ((z8)).toInt ∧ ((z8)).toInt ≤ 1000 := by first | exact k10 | omega
    have w13 : ((z8)).toInt = (x_mm_writes).toInt + nlR 8 (p1).toInt := by omega
    exact W.vret hx hb hr (fun t ht hW => ⟨⟨(z8, f9), rfl, ⟨w12, w13⟩, by rw [ht]; exact hP, hD⟩, hS.F ht⟩) hS.2.2 dX11_saysName_34
  · have kc2 := (not_congr (cv_le (rfl : (z1).toInt = (z1).toInt) (by decide : (0 : Int32).toInt = 0))).mp c2
    have bd9 := l_bd p1
    rw [if_pos (by omega)] at nr9
    refine lv_aload_n hx hb dX11_saysName_8 rfl (lv_at hl 0 rfl) ?_
    refine lv_lload_n hx hb dX11_saysName_9 rfl (lv_at hl 1 rfl) ?_
    refine lv_lconst (v := 1) hx hb dX11_saysName_10 (by decide) ?_
    refine lv_lsub hx hb dX11_saysName_11 ?_
    refine lv_topl (fun z14 ez14 => ?_)
    have tz14 : (z14).toInt = (p1).toInt - 1 := by rw [ez14]; exact l_sub rfl (by decide) (by omega)
    refine lv_ldc2 (v := 27) hx hb hown (hw _ w_cl_X11_93) dX11_saysName_12 ?_
    refine lv_ldiv hx hb dX11_saysName_15 (by decide) ?_
    refine lv_topl (fun z15 ez15 => ?_)
    have tz15 : 0 ≤ (z14).toInt → (z15).toInt = (z14).toInt / 27 := fun h9 => by rw [ez15]; exact l_div rfl (by decide) (by omega)
    have dv9 := tz15 (by omega)
    have dw9 : ((p1).toInt - 1) / 27 = (z15).toInt := by omega
    rw [dw9] at nr9
    have ng9 := nlR_ge 7 (z15).toInt
    have hPc := hP.sub (ws' := [(h_mm, .inr (8, (mo118 v_mm (.ref h_wri) (.int x_mm_writes) (.int x_mm_room)))), (h_wri, .inl (cy_wri, 1000, .inl f_wri))]) [0, 1] rfl
    have hDc := hD.sub (ws' := [(h_mm, .inr (8, (mo118 v_mm (.ref h_wri) (.int x_mm_writes) (.int x_mm_room)))), (h_wri, .inl (cy_wri, 1000, .inl f_wri))]) [0, 1] (by decide) rfl
    have hKc := hK.sub (tys' := [(cy_wri, .int)]) [0] rfl
    have hFc := va_free (wc := [(h_mm, .inr (8, (mo118 v_mm (.ref h_wri) (.int x_mm_writes) (.int x_mm_room)))), (h_wri, .inl (cy_wri, 1000, .inl f_wri))]) hD hS hA [0, 1] rfl
    refine va_callv (va_runV (As := [.long z15]) (rest := []) ⟨hx, hb, hml, hown, hts⟩ (c_X11_saysName_n6 l dC dI s.heap.size h_mm h_wri v_mm x_mm_writes x_mm_room cy_wri f_wri z15 (by first | exact hx_mm_writes | omega) (by first | exact hx_mm_room | omega) (by omega) (by omega) (by omega)) (cwV 1 hts (gv hT w_m_X11_455 w_instanceMethod_X11_saysName ws_sel_X11_saysName w_ini_X11 w_code_X11_saysName) rfl rfl rfl (by decide +kernel) ⟨(Nat.le_of_ble_eq_true rfl), (Nat.le_of_ble_eq_true rfl)⟩) ⟨pre_blind, va_recv hK hP (ci := 8) (q0 := 0) rfl rfl, pre_of hPc hKc hDc hN⟩ rfl rfl hl.1 rfl (lv_room (Nat.le_of_ble_eq_true rfl)) dX11_saysName_16 ⟨(Nat.le_of_ble_eq_true rfl), (Nat.le_of_ble_eq_true rfl)⟩) hS (fun q _ h => hFc q h) hFc (fun u t H locs ht hvm hq hB hz1 hk1 hS9 => ?_)
    obtain ⟨z17, f18⟩ := u
    obtain ⟨hP1, hD1⟩ := hB
    rw [ht] at hP1
    obtain ⟨hP9, hD9⟩ := va_join (wr := []) (w1 := [(h_mm, .inr (8, (mo118 v_mm (.ref h_wri) (.int z17) (.int x_mm_room)))), (h_wri, .inl (cy_wri, 1000, .inl f18))]) hP hD [0, 1] [] rfl rfl (by decide) (by decide) hk1 hFc hP1 hD1
    clear hP hD hS hPc hDc hKc hFc hP1 hD1 hk1 hz1 ht hvm
    have hP : va_P (dC, dI) cls [(h_mm, .inr (8, (mo118 v_mm (.ref h_wri) (.int z17) (.int x_mm_room)))), (h_wri, .inl (cy_wri, 1000, .inl f18))] H := hP9
    have hD : va_D A [(h_mm, .inr (8, (mo118 v_mm (.ref h_wri) (.int z17) (.int x_mm_room)))), (h_wri, .inl (cy_wri, 1000, .inl f18))] := hD9
    have hS := hS9
    clear hP9 hD9 hS9
    obtain ⟨k19, k20⟩ := hq
    replace k19 : 0 ≤ ((z17)).toInt ∧ ((z17)).toInt ≤ 1000 := k19
    replace k20 : ((z17)).toInt = ((x_mm_writes)).toInt + nlR 7 ((z15)).toInt := k20
    refine lv_aload_n hx hb dX11_saysName_19 rfl (lv_at hl 0 rfl) ?_
    refine lv_bipush (v := 97) hx hb dX11_saysName_20 (by decide) ?_
    refine lv_lload_n hx hb dX11_saysName_22 rfl (lv_at hl 1 rfl) ?_
    refine lv_lconst (v := 1) hx hb dX11_saysName_23 (by decide) ?_
    refine lv_lsub hx hb dX11_saysName_24 ?_
    refine lv_topl (fun z21 ez21 => ?_)
    refine lv_ldc2 (v := 27) hx hb hown (hw _ w_cl_X11_93) dX11_saysName_25 ?_
    refine lv_lrem hx hb dX11_saysName_28 (by decide) ?_
    refine lv_topl (fun z22 ez22 => ?_)
    refine lv_l2i hx hb dX11_saysName_29 rfl ?_
    refine lv_topi (fun z23 ez23 => ?_)
    refine lv_iadd hx hb dX11_saysName_30 ?_
    refine lv_topi (fun z24 ez24 => ?_)
    have hPc := hP.sub (ws' := [(h_mm, .inr (8, (mo118 v_mm (.ref h_wri) (.int z17) (.int x_mm_room)))), (h_wri, .inl (cy_wri, 1000, .inl f18))]) [0, 1] rfl
    have hDc := hD.sub (ws' := [(h_mm, .inr (8, (mo118 v_mm (.ref h_wri) (.int z17) (.int x_mm_room)))), (h_wri, .inl (cy_wri, 1000, .inl f18))]) [0, 1] (by decide) rfl
    have hKc := hK.sub (tys' := [(cy_wri, .int)]) [0] rfl
    have hFc := va_free (wc := [(h_mm, .inr (8, (mo118 v_mm (.ref h_wri) (.int z17) (.int x_mm_room)))), (h_wri, .inl (cy_wri, 1000, .inl f18))]) hD hS hA [0, 1] rfl
    refine va_callv (va_runV (As := [.int z24]) (rest := []) ⟨hx, hb, hml, hown, hts⟩ (c_X11_says_n l dC dI H.size h_mm h_wri v_mm z17 x_mm_room cy_wri f18 z24 (by first | exact k19 | omega) (by first | exact hx_mm_room | omega) (by omega)) (cwV 1 hts (gv hT w_m_X11_452 w_instanceMethod_X11_says ws_sel_X11_says w_ini_X11 w_code_X11_says) rfl rfl rfl (by decide +kernel) ⟨(Nat.le_of_ble_eq_true rfl), (Nat.le_of_ble_eq_true rfl)⟩) ⟨pre_blind, va_recv hK hP (ci := 8) (q0 := 0) rfl rfl, pre_of hPc hKc hDc hN⟩ rfl rfl hl.1 rfl (lv_room (Nat.le_of_ble_eq_true rfl)) dX11_saysName_31 ⟨(Nat.le_of_ble_eq_true rfl), (Nat.le_of_ble_eq_true rfl)⟩) hS (fun q _ h => hFc q h) hFc (fun u t H locs ht hvm hq hB hz1 hk1 hS9 => ?_)
    obtain ⟨z26, f27⟩ := u
    obtain ⟨hP1, hD1⟩ := hB
    rw [ht] at hP1
    obtain ⟨hP9, hD9⟩ := va_join (wr := []) (w1 := [(h_mm, .inr (8, (mo118 v_mm (.ref h_wri) (.int z26) (.int x_mm_room)))), (h_wri, .inl (cy_wri, 1000, .inl f27))]) hP hD [0, 1] [] rfl rfl (by decide) (by decide) hk1 hFc hP1 hD1
    clear hP hD hS hPc hDc hKc hFc hP1 hD1 hk1 hz1 ht hvm
    have hP : va_P (dC, dI) cls [(h_mm, .inr (8, (mo118 v_mm (.ref h_wri) (.int z26) (.int x_mm_room)))), (h_wri, .inl (cy_wri, 1000, .inl f27))] H := hP9
    have hD : va_D A [(h_mm, .inr (8, (mo118 v_mm (.ref h_wri) (.int z26) (.int x_mm_room)))), (h_wri, .inl (cy_wri, 1000, .inl f27))] := hD9
    have hS := hS9
    clear hP9 hD9 hS9
    obtain ⟨k28, k29⟩ := hq
    replace k28 : 0 ≤ ((z26)).toInt ∧ ((z26)).toInt ≤ 1000 := k28
    replace k29 : ((z26)).toInt = ((z17)).toInt + 1 := k29
    refine W.widen (k := 0) (n := 0) (Nat.le_of_ble_eq_true rfl) (Nat.le_of_ble_eq_true rfl) ?_
    have w30 : 0 ≤ ((z26)).toInt ∧ ((z26)).toInt ≤ 1000 := by first | exact k28 | omega
    have w31 : ((z26)).toInt = (x_mm_writes).toInt + nlR 8 (p1).toInt := by omega
    exact W.vret hx hb hr (fun t ht hW => ⟨⟨(z26, f27), rfl, ⟨w30, w31⟩, by rw [ht]; exact hP, hD⟩, hS.F ht⟩) hS.2.2 dX11_saysName_34

set_option maxHeartbeats 8000000 in
set_option maxRecDepth 100000 in
theorem c_X11_saysName_n8 (l : Launch) (dC : Nat → ClassId) (dI : Nat → Nat → Nat) (sz : Nat) (h_mm : Nat) (h_wri : Nat) (v_mm : Nat → Value) (x_mm_writes : Int32) (x_mm_room : Int32) (cy_wri : ClassId) (f_wri : Nat → Int32) (p1 : Int64) (hx_mm_writes : 0 ≤ (x_mm_writes).toInt ∧ (x_mm_writes).toInt ≤ 1000) (hx_mm_room : 0 ≤ (x_mm_room).toInt ∧ (x_mm_room).toInt ≤ 998) (q0 : (p1).toInt ≤ 7918889695947) (q1 : 1 ≤ (p1).toInt) (q2 : (x_mm_writes).toInt + nlR 9 (p1).toInt ≤ (x_mm_room).toInt + 1) : Met l yX11_saysName (Ws yX11_saysName cX11_saysName 3 none) (({ frames := 9, cells := 0, slots := 0, locals := 197 } : Room)) (PRE (dC, dI) cls [(cy_wri, .int)] [(h_mm, .inr (8, (mo118 v_mm (.ref h_wri) (.int x_mm_writes) (.int x_mm_room)))), (h_wri, .inl (cy_wri, 1000, .inl f_wri))] sz [.ref h_mm, .long p1]) (va_Qv (fun (u : (Int32) × (Nat → Int32)) => (0 ≤ (u.1).toInt ∧ (u.1).toInt ≤ 1000) ∧ ((u.1).toInt = (x_mm_writes).toInt + nlR 9 (p1).toInt)) (fun (u : (Int32) × (Nat → Int32)) (t : State) => va_P (dC, dI) cls [(h_mm, .inr (8, (mo118 v_mm (.ref h_wri) (.int u.1) (.int x_mm_room)))), (h_wri, .inl (cy_wri, 1000, .inl u.2))] t.heap ∧ va_D (va_A [(h_mm, .inr (8, (mo118 v_mm (.ref h_wri) (.int x_mm_writes) (.int x_mm_room)))), (h_wri, .inl (cy_wri, 1000, .inl f_wri))] sz) [(h_mm, .inr (8, (mo118 v_mm (.ref h_wri) (.int u.1) (.int x_mm_room)))), (h_wri, .inl (cy_wri, 1000, .inl u.2))]) (va_A [(h_mm, .inr (8, (mo118 v_mm (.ref h_wri) (.int x_mm_writes) (.int x_mm_room)))), (h_wri, .inl (cy_wri, 1000, .inl f_wri))] sz)) 0 0 (va_A [(h_mm, .inr (8, (mo118 v_mm (.ref h_wri) (.int x_mm_writes) (.int x_mm_room)))), (h_wri, .inl (cy_wri, 1000, .inl f_wri))] sz) := by
  refine Met.ofW (cc := cX11_saysName) (maxL := 3) (ret := none) (by decide) rfl ?_
  intro p e s m args below meth c s₁ B hml hv
  obtain ⟨rfl, hsz, hP, hK, hD0, hN⟩ := hv
  have hx := B.exec
  have hb := B.bytes
  have hr := B.returns
  have hts := atoms_spec (ws := Ws yX11_saysName cX11_saysName 3 none) B.pre
  have hT : ∀ w ∈ WALL, w ∈ Ws yX11_saysName cX11_saysName 3 none := fun w h => List.mem_cons_of_mem _ h
  have hw := fun w (h : w ∈ WALL) => hts w (hT w h)
  have hown : s.vm.findClass RX11 = some m.cls := findClass_of_methodNamed B.named
  have hlocks := B.notSynchronized
  subst hsz
  have hD := hD0.self (sz := s.heap.size)
  generalize hAe : va_A [(h_mm, .inr (8, (mo118 v_mm (.ref h_wri) (.int x_mm_writes) (.int x_mm_room)))), (h_wri, .inl (cy_wri, 1000, .inl f_wri))] s.heap.size = A at hD ⊢
  have hA : ∀ q : Nat, s.heap.size ≤ q → A q := fun q h => by rw [← hAe]; exact Or.inr h
  have hS : va_S A s.heap s.heap [] := va_S.rf
  have hl := lv_entry ([.ref h_mm, .long p1]) (n := 3) (Nat.le_of_ble_eq_true rfl)
  rw [lg_entry_eq]
  generalize (lg_sl ([.ref h_mm, .long p1]) ++ List.replicate (3 - (lg_sl ([.ref h_mm, .long p1])).length) Slot.unset).toArray = ls at hl ⊢
  have hl : lv_has ls 3 [(0, .ref h_mm), (1, .long p1)] := hl
  refine lv_lload_n hx hb dX11_saysName_0 rfl (lv_at hl 1 rfl) ?_
  refine lv_ldc2 (v := 27) hx hb hown (hw _ w_cl_X11_93) dX11_saysName_1 ?_
  refine W.lcmp hx hb dX11_saysName_4 ?_
  refine lv_topi (fun z1 ez1 => ?_)
  have gz1 := lgc p1 27
  rw [← ez1] at gz1
  have : (27 : Int64).toInt = 27 := by decide
  have nr9 : nlR 9 (p1).toInt = _ := nlR_s 8 (p1).toInt
  refine lv_if_le (tgt := 19) hx hb dX11_saysName_5 (by decide) (fun c2 => ?_) (fun c2 => ?_)
  · have kc2 := (cv_le (rfl : (z1).toInt = (z1).toInt) (by decide : (0 : Int32).toInt = 0)).mp c2
    rw [if_neg (by omega)] at nr9
    refine lv_aload_n hx hb dX11_saysName_19 rfl (lv_at hl 0 rfl) ?_
    refine lv_bipush (v := 97) hx hb dX11_saysName_20 (by decide) ?_
    refine lv_lload_n hx hb dX11_saysName_22 rfl (lv_at hl 1 rfl) ?_
    refine lv_lconst (v := 1) hx hb dX11_saysName_23 (by decide) ?_
    refine lv_lsub hx hb dX11_saysName_24 ?_
    refine lv_topl (fun z3 ez3 => ?_)
    refine lv_ldc2 (v := 27) hx hb hown (hw _ w_cl_X11_93) dX11_saysName_25 ?_
    refine lv_lrem hx hb dX11_saysName_28 (by decide) ?_
    refine lv_topl (fun z4 ez4 => ?_)
    refine lv_l2i hx hb dX11_saysName_29 rfl ?_
    refine lv_topi (fun z5 ez5 => ?_)
    refine lv_iadd hx hb dX11_saysName_30 ?_
    refine lv_topi (fun z6 ez6 => ?_)
    have hPc := hP.sub (ws' := [(h_mm, .inr (8, (mo118 v_mm (.ref h_wri) (.int x_mm_writes) (.int x_mm_room)))), (h_wri, .inl (cy_wri, 1000, .inl f_wri))]) [0, 1] rfl
    have hDc := hD.sub (ws' := [(h_mm, .inr (8, (mo118 v_mm (.ref h_wri) (.int x_mm_writes) (.int x_mm_room)))), (h_wri, .inl (cy_wri, 1000, .inl f_wri))]) [0, 1] (by decide) rfl
    have hKc := hK.sub (tys' := [(cy_wri, .int)]) [0] rfl
    have hFc := va_free (wc := [(h_mm, .inr (8, (mo118 v_mm (.ref h_wri) (.int x_mm_writes) (.int x_mm_room)))), (h_wri, .inl (cy_wri, 1000, .inl f_wri))]) hD hS hA [0, 1] rfl
    refine va_callv (va_runV (As := [.int z6]) (rest := []) ⟨hx, hb, hml, hown, hts⟩ (c_X11_says_n l dC dI s.heap.size h_mm h_wri v_mm x_mm_writes x_mm_room cy_wri f_wri z6 (by first | exact hx_mm_writes | omega) (by first | exact hx_mm_room | omega) (by omega)) (cwV 1 hts (gv hT w_m_X11_452 w_instanceMethod_X11_says ws_sel_X11_says w_ini_X11 w_code_X11_says) rfl rfl rfl (by decide +kernel) ⟨(Nat.le_of_ble_eq_true rfl), (Nat.le_of_ble_eq_true rfl)⟩) ⟨pre_blind, va_recv hK hP (ci := 8) (q0 := 0) rfl rfl, pre_of hPc hKc hDc hN⟩ rfl rfl hl.1 rfl (lv_room (Nat.le_of_ble_eq_true rfl)) dX11_saysName_31 ⟨(Nat.le_of_ble_eq_true rfl), (Nat.le_of_ble_eq_true rfl)⟩) hS (fun q _ h => hFc q h) hFc (fun u t H locs ht hvm hq hB hz1 hk1 hS9 => ?_)
    obtain ⟨z8, f9⟩ := u
    obtain ⟨hP1, hD1⟩ := hB
    rw [ht] at hP1
    obtain ⟨hP9, hD9⟩ := va_join (wr := []) (w1 := [(h_mm, .inr (8, (mo118 v_mm (.ref h_wri) (.int z8) (.int x_mm_room)))), (h_wri, .inl (cy_wri, 1000, .inl f9))]) hP hD [0, 1] [] rfl rfl (by decide) (by decide) hk1 hFc hP1 hD1
    clear hP hD hS hPc hDc hKc hFc hP1 hD1 hk1 hz1 ht hvm
    have hP : va_P (dC, dI) cls [(h_mm, .inr (8, (mo118 v_mm (.ref h_wri) (.int z8) (.int x_mm_room)))), (h_wri, .inl (cy_wri, 1000, .inl f9))] H := hP9
    have hD : va_D A [(h_mm, .inr (8, (mo118 v_mm (.ref h_wri) (.int z8) (.int x_mm_room)))), (h_wri, .inl (cy_wri, 1000, .inl f9))] := hD9
    have hS := hS9
    clear hP9 hD9 hS9
    obtain ⟨k10, k11⟩ := hq
    replace k10 : 0 ≤ ((z8)).toInt ∧ ((z8)).toInt ≤ 1000 := k10
    replace k11 : ((z8)).toInt = ((x_mm_writes)).toInt + 1 := k11
    refine W.widen (k := 0) (n := 0) (Nat.le_of_ble_eq_true rfl) (Nat.le_of_ble_eq_true rfl) ?_
    have w12 : 0 ≤ ((z8)).toInt ∧ ((z8)).toInt ≤ 1000 := by first | exact k10 | omega
    have w13 : ((z8)).toInt = (x_mm_writes).toInt + nlR 9 (p1).toInt := by omega
    exact W.vret hx hb hr (fun t ht hW => ⟨⟨(z8, f9), rfl, ⟨w12, w13⟩, by rw [ht]; exact hP, hD⟩, hS.F ht⟩) hS.2.2 dX11_saysName_34
  · have kc2 := (not_congr (cv_le (rfl : (z1).toInt = (z1).toInt) (by decide : (0 : Int32).toInt = 0))).mp c2
    have bd9 := l_bd p1
    rw [if_pos (by omega)] at nr9
    refine lv_aload_n hx hb dX11_saysName_8 rfl (lv_at hl 0 rfl) ?_
    refine lv_lload_n hx hb dX11_saysName_9 rfl (lv_at hl 1 rfl) ?_
    refine lv_lconst (v := 1) hx hb dX11_saysName_10 (by decide) ?_
    refine lv_lsub hx hb dX11_saysName_11 ?_
    refine lv_topl (fun z14 ez14 => ?_)
    have tz14 : (z14).toInt = (p1).toInt - 1 := by rw [ez14]; exact l_sub rfl (by decide) (by omega)
    refine lv_ldc2 (v := 27) hx hb hown (hw _ w_cl_X11_93) dX11_saysName_12 ?_
    refine lv_ldiv hx hb dX11_saysName_15 (by decide) ?_
    refine lv_topl (fun z15 ez15 => ?_)
    have tz15 : 0 ≤ (z14).toInt → (z15).toInt = (z14).toInt / 27 := fun h9 => by rw [ez15]; exact l_div rfl (by decide) (by omega)
    have dv9 := tz15 (by omega)
    have dw9 : ((p1).toInt - 1) / 27 = (z15).toInt := by omega
    rw [dw9] at nr9
    have ng9 := nlR_ge 8 (z15).toInt
    have hPc := hP.sub (ws' := [(h_mm, .inr (8, (mo118 v_mm (.ref h_wri) (.int x_mm_writes) (.int x_mm_room)))), (h_wri, .inl (cy_wri, 1000, .inl f_wri))]) [0, 1] rfl
    have hDc := hD.sub (ws' := [(h_mm, .inr (8, (mo118 v_mm (.ref h_wri) (.int x_mm_writes) (.int x_mm_room)))), (h_wri, .inl (cy_wri, 1000, .inl f_wri))]) [0, 1] (by decide) rfl
    have hKc := hK.sub (tys' := [(cy_wri, .int)]) [0] rfl
    have hFc := va_free (wc := [(h_mm, .inr (8, (mo118 v_mm (.ref h_wri) (.int x_mm_writes) (.int x_mm_room)))), (h_wri, .inl (cy_wri, 1000, .inl f_wri))]) hD hS hA [0, 1] rfl
    refine va_callv (va_runV (As := [.long z15]) (rest := []) ⟨hx, hb, hml, hown, hts⟩ (c_X11_saysName_n7 l dC dI s.heap.size h_mm h_wri v_mm x_mm_writes x_mm_room cy_wri f_wri z15 (by first | exact hx_mm_writes | omega) (by first | exact hx_mm_room | omega) (by omega) (by omega) (by omega)) (cwV 1 hts (gv hT w_m_X11_455 w_instanceMethod_X11_saysName ws_sel_X11_saysName w_ini_X11 w_code_X11_saysName) rfl rfl rfl (by decide +kernel) ⟨(Nat.le_of_ble_eq_true rfl), (Nat.le_of_ble_eq_true rfl)⟩) ⟨pre_blind, va_recv hK hP (ci := 8) (q0 := 0) rfl rfl, pre_of hPc hKc hDc hN⟩ rfl rfl hl.1 rfl (lv_room (Nat.le_of_ble_eq_true rfl)) dX11_saysName_16 ⟨(Nat.le_of_ble_eq_true rfl), (Nat.le_of_ble_eq_true rfl)⟩) hS (fun q _ h => hFc q h) hFc (fun u t H locs ht hvm hq hB hz1 hk1 hS9 => ?_)
    obtain ⟨z17, f18⟩ := u
    obtain ⟨hP1, hD1⟩ := hB
    rw [ht] at hP1
    obtain ⟨hP9, hD9⟩ := va_join (wr := []) (w1 := [(h_mm, .inr (8, (mo118 v_mm (.ref h_wri) (.int z17) (.int x_mm_room)))), (h_wri, .inl (cy_wri, 1000, .inl f18))]) hP hD [0, 1] [] rfl rfl (by decide) (by decide) hk1 hFc hP1 hD1
    clear hP hD hS hPc hDc hKc hFc hP1 hD1 hk1 hz1 ht hvm
    have hP : va_P (dC, dI) cls [(h_mm, .inr (8, (mo118 v_mm (.ref h_wri) (.int z17) (.int x_mm_room)))), (h_wri, .inl (cy_wri, 1000, .inl f18))] H := hP9
    have hD : va_D A [(h_mm, .inr (8, (mo118 v_mm (.ref h_wri) (.int z17) (.int x_mm_room)))), (h_wri, .inl (cy_wri, 1000, .inl f18))] := hD9
    have hS := hS9
    clear hP9 hD9 hS9
    obtain ⟨k19, k20⟩ := hq
    replace k19 : 0 ≤ ((z17)).toInt ∧ ((z17)).toInt ≤ 1000 := k19
    replace k20 : ((z17)).toInt = ((x_mm_writes)).toInt + nlR 8 ((z15)).toInt := k20
    refine lv_aload_n hx hb dX11_saysName_19 rfl (lv_at hl 0 rfl) ?_
    refine lv_bipush (v := 97) hx hb dX11_saysName_20 (by decide) ?_
    refine lv_lload_n hx hb dX11_saysName_22 rfl (lv_at hl 1 rfl) ?_
    refine lv_lconst (v := 1) hx hb dX11_saysName_23 (by decide) ?_
    refine lv_lsub hx hb dX11_saysName_24 ?_
    refine lv_topl (fun z21 ez21 => ?_)
    refine lv_ldc2 (v := 27) hx hb hown (hw _ w_cl_X11_93) dX11_saysName_25 ?_
    refine lv_lrem hx hb dX11_saysName_28 (by decide) ?_
    refine lv_topl (fun z22 ez22 => ?_)
    refine lv_l2i hx hb dX11_saysName_29 rfl ?_
    refine lv_topi (fun z23 ez23 => ?_)
    refine lv_iadd hx hb dX11_saysName_30 ?_
    refine lv_topi (fun z24 ez24 => ?_)
    have hPc := hP.sub (ws' := [(h_mm, .inr (8, (mo118 v_mm (.ref h_wri) (.int z17) (.int x_mm_room)))), (h_wri, .inl (cy_wri, 1000, .inl f18))]) [0, 1] rfl
    have hDc := hD.sub (ws' := [(h_mm, .inr (8, (mo118 v_mm (.ref h_wri) (.int z17) (.int x_mm_room)))), (h_wri, .inl (cy_wri, 1000, .inl f18))]) [0, 1] (by decide) rfl
    have hKc := hK.sub (tys' := [(cy_wri, .int)]) [0] rfl
    have hFc := va_free (wc := [(h_mm, .inr (8, (mo118 v_mm (.ref h_wri) (.int z17) (.int x_mm_room)))), (h_wri, .inl (cy_wri, 1000, .inl f18))]) hD hS hA [0, 1] rfl
    refine va_callv (va_runV (As := [.int z24]) (rest := []) ⟨hx, hb, hml, hown, hts⟩ (c_X11_says_n l dC dI H.size h_mm h_wri v_mm z17 x_mm_room cy_wri f18 z24 (by first | exact k19 | omega) (by first | exact hx_mm_room | omega) (by omega)) (cwV 1 hts (gv hT w_m_X11_452 w_instanceMethod_X11_says ws_sel_X11_says w_ini_X11 w_code_X11_says) rfl rfl rfl (by decide +kernel) ⟨(Nat.le_of_ble_eq_true rfl), (Nat.le_of_ble_eq_true rfl)⟩) ⟨pre_blind, va_recv hK hP (ci := 8) (q0 := 0) rfl rfl, pre_of hPc hKc hDc hN⟩ rfl rfl hl.1 rfl (lv_room (Nat.le_of_ble_eq_true rfl)) dX11_saysName_31 ⟨(Nat.le_of_ble_eq_true rfl), (Nat.le_of_ble_eq_true rfl)⟩) hS (fun q _ h => hFc q h) hFc (fun u t H locs ht hvm hq hB hz1 hk1 hS9 => ?_)
    obtain ⟨z26, f27⟩ := u
    obtain ⟨hP1, hD1⟩ := hB
    rw [ht] at hP1
    obtain ⟨hP9, hD9⟩ := va_join (wr := []) (w1 := [(h_mm, .inr (8, (mo118 v_mm (.ref h_wri) (.int z26) (.int x_mm_room)))), (h_wri, .inl (cy_wri, 1000, .inl f27))]) hP hD [0, 1] [] rfl rfl (by decide) (by decide) hk1 hFc hP1 hD1
    clear hP hD hS hPc hDc hKc hFc hP1 hD1 hk1 hz1 ht hvm
    have hP : va_P (dC, dI) cls [(h_mm, .inr (8, (mo118 v_mm (.ref h_wri) (.int z26) (.int x_mm_room)))), (h_wri, .inl (cy_wri, 1000, .inl f27))] H := hP9
    have hD : va_D A [(h_mm, .inr (8, (mo118 v_mm (.ref h_wri) (.int z26) (.int x_mm_room)))), (h_wri, .inl (cy_wri, 1000, .inl f27))] := hD9
    have hS := hS9
    clear hP9 hD9 hS9
    obtain ⟨k28, k29⟩ := hq
    replace k28 : 0 ≤ ((z26)).toInt ∧ ((z26)).toInt ≤ 1000 := k28
    replace k29 : ((z26)).toInt = ((z17)).toInt + 1 := k29
    refine W.widen (k := 0) (n := 0) (Nat.le_of_ble_eq_true rfl) (Nat.le_of_ble_eq_true rfl) ?_
    have w30 : 0 ≤ ((z26)).toInt ∧ ((z26)).toInt ≤ 1000 := by first | exact k28 | omega
    have w31 : ((z26)).toInt = (x_mm_writes).toInt + nlR 9 (p1).toInt := by omega
    exact W.vret hx hb hr (fun t ht hW => ⟨⟨(z26, f27), rfl, ⟨w30, w31⟩, by rw [ht]; exact hP, hD⟩, hS.F ht⟩) hS.2.2 dX11_saysName_34

set_option maxHeartbeats 8000000 in
set_option maxRecDepth 100000 in
theorem c_X11_saysName_n9 (l : Launch) (dC : Nat → ClassId) (dI : Nat → Nat → Nat) (sz : Nat) (h_mm : Nat) (h_wri : Nat) (v_mm : Nat → Value) (x_mm_writes : Int32) (x_mm_room : Int32) (cy_wri : ClassId) (f_wri : Nat → Int32) (p1 : Int64) (hx_mm_writes : 0 ≤ (x_mm_writes).toInt ∧ (x_mm_writes).toInt ≤ 1000) (hx_mm_room : 0 ≤ (x_mm_room).toInt ∧ (x_mm_room).toInt ≤ 998) (q0 : (p1).toInt ≤ 213810021790596) (q1 : 1 ≤ (p1).toInt) (q2 : (x_mm_writes).toInt + nlR 10 (p1).toInt ≤ (x_mm_room).toInt + 1) : Met l yX11_saysName (Ws yX11_saysName cX11_saysName 3 none) (({ frames := 10, cells := 0, slots := 0, locals := 219 } : Room)) (PRE (dC, dI) cls [(cy_wri, .int)] [(h_mm, .inr (8, (mo118 v_mm (.ref h_wri) (.int x_mm_writes) (.int x_mm_room)))), (h_wri, .inl (cy_wri, 1000, .inl f_wri))] sz [.ref h_mm, .long p1]) (va_Qv (fun (u : (Int32) × (Nat → Int32)) => (0 ≤ (u.1).toInt ∧ (u.1).toInt ≤ 1000) ∧ ((u.1).toInt = (x_mm_writes).toInt + nlR 10 (p1).toInt)) (fun (u : (Int32) × (Nat → Int32)) (t : State) => va_P (dC, dI) cls [(h_mm, .inr (8, (mo118 v_mm (.ref h_wri) (.int u.1) (.int x_mm_room)))), (h_wri, .inl (cy_wri, 1000, .inl u.2))] t.heap ∧ va_D (va_A [(h_mm, .inr (8, (mo118 v_mm (.ref h_wri) (.int x_mm_writes) (.int x_mm_room)))), (h_wri, .inl (cy_wri, 1000, .inl f_wri))] sz) [(h_mm, .inr (8, (mo118 v_mm (.ref h_wri) (.int u.1) (.int x_mm_room)))), (h_wri, .inl (cy_wri, 1000, .inl u.2))]) (va_A [(h_mm, .inr (8, (mo118 v_mm (.ref h_wri) (.int x_mm_writes) (.int x_mm_room)))), (h_wri, .inl (cy_wri, 1000, .inl f_wri))] sz)) 0 0 (va_A [(h_mm, .inr (8, (mo118 v_mm (.ref h_wri) (.int x_mm_writes) (.int x_mm_room)))), (h_wri, .inl (cy_wri, 1000, .inl f_wri))] sz) := by
  refine Met.ofW (cc := cX11_saysName) (maxL := 3) (ret := none) (by decide) rfl ?_
  intro p e s m args below meth c s₁ B hml hv
  obtain ⟨rfl, hsz, hP, hK, hD0, hN⟩ := hv
  have hx := B.exec
  have hb := B.bytes
  have hr := B.returns
  have hts := atoms_spec (ws := Ws yX11_saysName cX11_saysName 3 none) B.pre
  have hT : ∀ w ∈ WALL, w ∈ Ws yX11_saysName cX11_saysName 3 none := fun w h => List.mem_cons_of_mem _ h
  have hw := fun w (h : w ∈ WALL) => hts w (hT w h)
  have hown : s.vm.findClass RX11 = some m.cls := findClass_of_methodNamed B.named
  have hlocks := B.notSynchronized
  subst hsz
  have hD := hD0.self (sz := s.heap.size)
  generalize hAe : va_A [(h_mm, .inr (8, (mo118 v_mm (.ref h_wri) (.int x_mm_writes) (.int x_mm_room)))), (h_wri, .inl (cy_wri, 1000, .inl f_wri))] s.heap.size = A at hD ⊢
  have hA : ∀ q : Nat, s.heap.size ≤ q → A q := fun q h => by rw [← hAe]; exact Or.inr h
  have hS : va_S A s.heap s.heap [] := va_S.rf
  have hl := lv_entry ([.ref h_mm, .long p1]) (n := 3) (Nat.le_of_ble_eq_true rfl)
  rw [lg_entry_eq]
  generalize (lg_sl ([.ref h_mm, .long p1]) ++ List.replicate (3 - (lg_sl ([.ref h_mm, .long p1])).length) Slot.unset).toArray = ls at hl ⊢
  have hl : lv_has ls 3 [(0, .ref h_mm), (1, .long p1)] := hl
  refine lv_lload_n hx hb dX11_saysName_0 rfl (lv_at hl 1 rfl) ?_
  refine lv_ldc2 (v := 27) hx hb hown (hw _ w_cl_X11_93) dX11_saysName_1 ?_
  refine W.lcmp hx hb dX11_saysName_4 ?_
  refine lv_topi (fun z1 ez1 => ?_)
  have gz1 := lgc p1 27
  rw [← ez1] at gz1
  have : (27 : Int64).toInt = 27 := by decide
  have nr9 : nlR 10 (p1).toInt = _ := nlR_s 9 (p1).toInt
  refine lv_if_le (tgt := 19) hx hb dX11_saysName_5 (by decide) (fun c2 => ?_) (fun c2 => ?_)
  · have kc2 := (cv_le (rfl : (z1).toInt = (z1).toInt) (by decide : (0 : Int32).toInt = 0)).mp c2
    rw [if_neg (by omega)] at nr9
    refine lv_aload_n hx hb dX11_saysName_19 rfl (lv_at hl 0 rfl) ?_
    refine lv_bipush (v := 97) hx hb dX11_saysName_20 (by decide) ?_
    refine lv_lload_n hx hb dX11_saysName_22 rfl (lv_at hl 1 rfl) ?_
    refine lv_lconst (v := 1) hx hb dX11_saysName_23 (by decide) ?_
    refine lv_lsub hx hb dX11_saysName_24 ?_
    refine lv_topl (fun z3 ez3 => ?_)
    refine lv_ldc2 (v := 27) hx hb hown (hw _ w_cl_X11_93) dX11_saysName_25 ?_
    refine lv_lrem hx hb dX11_saysName_28 (by decide) ?_
    refine lv_topl (fun z4 ez4 => ?_)
    refine lv_l2i hx hb dX11_saysName_29 rfl ?_
    refine lv_topi (fun z5 ez5 => ?_)
    refine lv_iadd hx hb dX11_saysName_30 ?_
    refine lv_topi (fun z6 ez6 => ?_)
    have hPc := hP.sub (ws' := [(h_mm, .inr (8, (mo118 v_mm (.ref h_wri) (.int x_mm_writes) (.int x_mm_room)))), (h_wri, .inl (cy_wri, 1000, .inl f_wri))]) [0, 1] rfl
    have hDc := hD.sub (ws' := [(h_mm, .inr (8, (mo118 v_mm (.ref h_wri) (.int x_mm_writes) (.int x_mm_room)))), (h_wri, .inl (cy_wri, 1000, .inl f_wri))]) [0, 1] (by decide) rfl
    have hKc := hK.sub (tys' := [(cy_wri, .int)]) [0] rfl
    have hFc := va_free (wc := [(h_mm, .inr (8, (mo118 v_mm (.ref h_wri) (.int x_mm_writes) (.int x_mm_room)))), (h_wri, .inl (cy_wri, 1000, .inl f_wri))]) hD hS hA [0, 1] rfl
    refine va_callv (va_runV (As := [.int z6]) (rest := []) ⟨hx, hb, hml, hown, hts⟩ (c_X11_says_n l dC dI s.heap.size h_mm h_wri v_mm x_mm_writes x_mm_room cy_wri f_wri z6 (by first | exact hx_mm_writes | omega) (by first | exact hx_mm_room | omega) (by omega)) (cwV 1 hts (gv hT w_m_X11_452 w_instanceMethod_X11_says ws_sel_X11_says w_ini_X11 w_code_X11_says) rfl rfl rfl (by decide +kernel) ⟨(Nat.le_of_ble_eq_true rfl), (Nat.le_of_ble_eq_true rfl)⟩) ⟨pre_blind, va_recv hK hP (ci := 8) (q0 := 0) rfl rfl, pre_of hPc hKc hDc hN⟩ rfl rfl hl.1 rfl (lv_room (Nat.le_of_ble_eq_true rfl)) dX11_saysName_31 ⟨(Nat.le_of_ble_eq_true rfl), (Nat.le_of_ble_eq_true rfl)⟩) hS (fun q _ h => hFc q h) hFc (fun u t H locs ht hvm hq hB hz1 hk1 hS9 => ?_)
    obtain ⟨z8, f9⟩ := u
    obtain ⟨hP1, hD1⟩ := hB
    rw [ht] at hP1
    obtain ⟨hP9, hD9⟩ := va_join (wr := []) (w1 := [(h_mm, .inr (8, (mo118 v_mm (.ref h_wri) (.int z8) (.int x_mm_room)))), (h_wri, .inl (cy_wri, 1000, .inl f9))]) hP hD [0, 1] [] rfl rfl (by decide) (by decide) hk1 hFc hP1 hD1
    clear hP hD hS hPc hDc hKc hFc hP1 hD1 hk1 hz1 ht hvm
    have hP : va_P (dC, dI) cls [(h_mm, .inr (8, (mo118 v_mm (.ref h_wri) (.int z8) (.int x_mm_room)))), (h_wri, .inl (cy_wri, 1000, .inl f9))] H := hP9
    have hD : va_D A [(h_mm, .inr (8, (mo118 v_mm (.ref h_wri) (.int z8) (.int x_mm_room)))), (h_wri, .inl (cy_wri, 1000, .inl f9))] := hD9
    have hS := hS9
    clear hP9 hD9 hS9
    obtain ⟨k10, k11⟩ := hq
    replace k10 : 0 ≤ ((z8)).toInt ∧ ((z8)).toInt ≤ 1000 := k10
    replace k11 : ((z8)).toInt = ((x_mm_writes)).toInt + 1 := k11
    refine W.widen (k := 0) (n := 0) (Nat.le_of_ble_eq_true rfl) (Nat.le_of_ble_eq_true rfl) ?_
    have w12 : 0 ≤ ((z8)).toInt ∧ ((z8)).toInt ≤ 1000 := by first | exact k10 | omega
    have w13 : ((z8)).toInt = (x_mm_writes).toInt + nlR 10 (p1).toInt := by omega
    exact W.vret hx hb hr (fun t ht hW => ⟨⟨(z8, f9), rfl, ⟨w12, w13⟩, by rw [ht]; exact hP, hD⟩, hS.F ht⟩) hS.2.2 dX11_saysName_34
  · have kc2 := (not_congr (cv_le (rfl : (z1).toInt = (z1).toInt) (by decide : (0 : Int32).toInt = 0))).mp c2
    have bd9 := l_bd p1
    rw [if_pos (by omega)] at nr9
    refine lv_aload_n hx hb dX11_saysName_8 rfl (lv_at hl 0 rfl) ?_
    refine lv_lload_n hx hb dX11_saysName_9 rfl (lv_at hl 1 rfl) ?_
    refine lv_lconst (v := 1) hx hb dX11_saysName_10 (by decide) ?_
    refine lv_lsub hx hb dX11_saysName_11 ?_
    refine lv_topl (fun z14 ez14 => ?_)
    have tz14 : (z14).toInt = (p1).toInt - 1 := by rw [ez14]; exact l_sub rfl (by decide) (by omega)
    refine lv_ldc2 (v := 27) hx hb hown (hw _ w_cl_X11_93) dX11_saysName_12 ?_
    refine lv_ldiv hx hb dX11_saysName_15 (by decide) ?_
    refine lv_topl (fun z15 ez15 => ?_)
    have tz15 : 0 ≤ (z14).toInt → (z15).toInt = (z14).toInt / 27 := fun h9 => by rw [ez15]; exact l_div rfl (by decide) (by omega)
    have dv9 := tz15 (by omega)
    have dw9 : ((p1).toInt - 1) / 27 = (z15).toInt := by omega
    rw [dw9] at nr9
    have ng9 := nlR_ge 9 (z15).toInt
    have hPc := hP.sub (ws' := [(h_mm, .inr (8, (mo118 v_mm (.ref h_wri) (.int x_mm_writes) (.int x_mm_room)))), (h_wri, .inl (cy_wri, 1000, .inl f_wri))]) [0, 1] rfl
    have hDc := hD.sub (ws' := [(h_mm, .inr (8, (mo118 v_mm (.ref h_wri) (.int x_mm_writes) (.int x_mm_room)))), (h_wri, .inl (cy_wri, 1000, .inl f_wri))]) [0, 1] (by decide) rfl
    have hKc := hK.sub (tys' := [(cy_wri, .int)]) [0] rfl
    have hFc := va_free (wc := [(h_mm, .inr (8, (mo118 v_mm (.ref h_wri) (.int x_mm_writes) (.int x_mm_room)))), (h_wri, .inl (cy_wri, 1000, .inl f_wri))]) hD hS hA [0, 1] rfl
    refine va_callv (va_runV (As := [.long z15]) (rest := []) ⟨hx, hb, hml, hown, hts⟩ (c_X11_saysName_n8 l dC dI s.heap.size h_mm h_wri v_mm x_mm_writes x_mm_room cy_wri f_wri z15 (by first | exact hx_mm_writes | omega) (by first | exact hx_mm_room | omega) (by omega) (by omega) (by omega)) (cwV 1 hts (gv hT w_m_X11_455 w_instanceMethod_X11_saysName ws_sel_X11_saysName w_ini_X11 w_code_X11_saysName) rfl rfl rfl (by decide +kernel) ⟨(Nat.le_of_ble_eq_true rfl), (Nat.le_of_ble_eq_true rfl)⟩) ⟨pre_blind, va_recv hK hP (ci := 8) (q0 := 0) rfl rfl, pre_of hPc hKc hDc hN⟩ rfl rfl hl.1 rfl (lv_room (Nat.le_of_ble_eq_true rfl)) dX11_saysName_16 ⟨(Nat.le_of_ble_eq_true rfl), (Nat.le_of_ble_eq_true rfl)⟩) hS (fun q _ h => hFc q h) hFc (fun u t H locs ht hvm hq hB hz1 hk1 hS9 => ?_)
    obtain ⟨z17, f18⟩ := u
    obtain ⟨hP1, hD1⟩ := hB
    rw [ht] at hP1
    obtain ⟨hP9, hD9⟩ := va_join (wr := []) (w1 := [(h_mm, .inr (8, (mo118 v_mm (.ref h_wri) (.int z17) (.int x_mm_room)))), (h_wri, .inl (cy_wri, 1000, .inl f18))]) hP hD [0, 1] [] rfl rfl (by decide) (by decide) hk1 hFc hP1 hD1
    clear hP hD hS hPc hDc hKc hFc hP1 hD1 hk1 hz1 ht hvm
    have hP : va_P (dC, dI) cls [(h_mm, .inr (8, (mo118 v_mm (.ref h_wri) (.int z17) (.int x_mm_room)))), (h_wri, .inl (cy_wri, 1000, .inl f18))] H := hP9
    have hD : va_D A [(h_mm, .inr (8, (mo118 v_mm (.ref h_wri) (.int z17) (.int x_mm_room)))), (h_wri, .inl (cy_wri, 1000, .inl f18))] := hD9
    have hS := hS9
    clear hP9 hD9 hS9
    obtain ⟨k19, k20⟩ := hq
    replace k19 : 0 ≤ ((z17)).toInt ∧ ((z17)).toInt ≤ 1000 := k19
    replace k20 : ((z17)).toInt = ((x_mm_writes)).toInt + nlR 9 ((z15)).toInt := k20
    refine lv_aload_n hx hb dX11_saysName_19 rfl (lv_at hl 0 rfl) ?_
    refine lv_bipush (v := 97) hx hb dX11_saysName_20 (by decide) ?_
    refine lv_lload_n hx hb dX11_saysName_22 rfl (lv_at hl 1 rfl) ?_
    refine lv_lconst (v := 1) hx hb dX11_saysName_23 (by decide) ?_
    refine lv_lsub hx hb dX11_saysName_24 ?_
    refine lv_topl (fun z21 ez21 => ?_)
    refine lv_ldc2 (v := 27) hx hb hown (hw _ w_cl_X11_93) dX11_saysName_25 ?_
    refine lv_lrem hx hb dX11_saysName_28 (by decide) ?_
    refine lv_topl (fun z22 ez22 => ?_)
    refine lv_l2i hx hb dX11_saysName_29 rfl ?_
    refine lv_topi (fun z23 ez23 => ?_)
    refine lv_iadd hx hb dX11_saysName_30 ?_
    refine lv_topi (fun z24 ez24 => ?_)
    have hPc := hP.sub (ws' := [(h_mm, .inr (8, (mo118 v_mm (.ref h_wri) (.int z17) (.int x_mm_room)))), (h_wri, .inl (cy_wri, 1000, .inl f18))]) [0, 1] rfl
    have hDc := hD.sub (ws' := [(h_mm, .inr (8, (mo118 v_mm (.ref h_wri) (.int z17) (.int x_mm_room)))), (h_wri, .inl (cy_wri, 1000, .inl f18))]) [0, 1] (by decide) rfl
    have hKc := hK.sub (tys' := [(cy_wri, .int)]) [0] rfl
    have hFc := va_free (wc := [(h_mm, .inr (8, (mo118 v_mm (.ref h_wri) (.int z17) (.int x_mm_room)))), (h_wri, .inl (cy_wri, 1000, .inl f18))]) hD hS hA [0, 1] rfl
    refine va_callv (va_runV (As := [.int z24]) (rest := []) ⟨hx, hb, hml, hown, hts⟩ (c_X11_says_n l dC dI H.size h_mm h_wri v_mm z17 x_mm_room cy_wri f18 z24 (by first | exact k19 | omega) (by first | exact hx_mm_room | omega) (by omega)) (cwV 1 hts (gv hT w_m_X11_452 w_instanceMethod_X11_says ws_sel_X11_says w_ini_X11 w_code_X11_says) rfl rfl rfl (by decide +kernel) ⟨(Nat.le_of_ble_eq_true rfl), (Nat.le_of_ble_eq_true rfl)⟩) ⟨pre_blind, va_recv hK hP (ci := 8) (q0 := 0) rfl rfl, pre_of hPc hKc hDc hN⟩ rfl rfl hl.1 rfl (lv_room (Nat.le_of_ble_eq_true rfl)) dX11_saysName_31 ⟨(Nat.le_of_ble_eq_true rfl), (Nat.le_of_ble_eq_true rfl)⟩) hS (fun q _ h => hFc q h) hFc (fun u t H locs ht hvm hq hB hz1 hk1 hS9 => ?_)
    obtain ⟨z26, f27⟩ := u
    obtain ⟨hP1, hD1⟩ := hB
    rw [ht] at hP1
    obtain ⟨hP9, hD9⟩ := va_join (wr := []) (w1 := [(h_mm, .inr (8, (mo118 v_mm (.ref h_wri) (.int z26) (.int x_mm_room)))), (h_wri, .inl (cy_wri, 1000, .inl f27))]) hP hD [0, 1] [] rfl rfl (by decide) (by decide) hk1 hFc hP1 hD1
    clear hP hD hS hPc hDc hKc hFc hP1 hD1 hk1 hz1 ht hvm
    have hP : va_P (dC, dI) cls [(h_mm, .inr (8, (mo118 v_mm (.ref h_wri) (.int z26) (.int x_mm_room)))), (h_wri, .inl (cy_wri, 1000, .inl f27))] H := hP9
    have hD : va_D A [(h_mm, .inr (8, (mo118 v_mm (.ref h_wri) (.int z26) (.int x_mm_room)))), (h_wri, .inl (cy_wri, 1000, .inl f27))] := hD9
    have hS := hS9
    clear hP9 hD9 hS9
    obtain ⟨k28, k29⟩ := hq
    replace k28 : 0 ≤ ((z26)).toInt ∧ ((z26)).toInt ≤ 1000 := k28
    replace k29 : ((z26)).toInt = ((z17)).toInt + 1 := k29
    refine W.widen (k := 0) (n := 0) (Nat.le_of_ble_eq_true rfl) (Nat.le_of_ble_eq_true rfl) ?_
    have w30 : 0 ≤ ((z26)).toInt ∧ ((z26)).toInt ≤ 1000 := by first | exact k28 | omega
    have w31 : ((z26)).toInt = (x_mm_writes).toInt + nlR 10 (p1).toInt := by omega
    exact W.vret hx hb hr (fun t ht hW => ⟨⟨(z26, f27), rfl, ⟨w30, w31⟩, by rw [ht]; exact hP, hD⟩, hS.F ht⟩) hS.2.2 dX11_saysName_34

set_option maxHeartbeats 8000000 in
set_option maxRecDepth 100000 in
theorem c_X11_saysName_n10 (l : Launch) (dC : Nat → ClassId) (dI : Nat → Nat → Nat) (sz : Nat) (h_mm : Nat) (h_wri : Nat) (v_mm : Nat → Value) (x_mm_writes : Int32) (x_mm_room : Int32) (cy_wri : ClassId) (f_wri : Nat → Int32) (p1 : Int64) (hx_mm_writes : 0 ≤ (x_mm_writes).toInt ∧ (x_mm_writes).toInt ≤ 1000) (hx_mm_room : 0 ≤ (x_mm_room).toInt ∧ (x_mm_room).toInt ≤ 998) (q0 : (p1).toInt ≤ 5772870588346119) (q1 : 1 ≤ (p1).toInt) (q2 : (x_mm_writes).toInt + nlR 11 (p1).toInt ≤ (x_mm_room).toInt + 1) : Met l yX11_saysName (Ws yX11_saysName cX11_saysName 3 none) (({ frames := 11, cells := 0, slots := 0, locals := 241 } : Room)) (PRE (dC, dI) cls [(cy_wri, .int)] [(h_mm, .inr (8, (mo118 v_mm (.ref h_wri) (.int x_mm_writes) (.int x_mm_room)))), (h_wri, .inl (cy_wri, 1000, .inl f_wri))] sz [.ref h_mm, .long p1]) (va_Qv (fun (u : (Int32) × (Nat → Int32)) => (0 ≤ (u.1).toInt ∧ (u.1).toInt ≤ 1000) ∧ ((u.1).toInt = (x_mm_writes).toInt + nlR 11 (p1).toInt)) (fun (u : (Int32) × (Nat → Int32)) (t : State) => va_P (dC, dI) cls [(h_mm, .inr (8, (mo118 v_mm (.ref h_wri) (.int u.1) (.int x_mm_room)))), (h_wri, .inl (cy_wri, 1000, .inl u.2))] t.heap ∧ va_D (va_A [(h_mm, .inr (8, (mo118 v_mm (.ref h_wri) (.int x_mm_writes) (.int x_mm_room)))), (h_wri, .inl (cy_wri, 1000, .inl f_wri))] sz) [(h_mm, .inr (8, (mo118 v_mm (.ref h_wri) (.int u.1) (.int x_mm_room)))), (h_wri, .inl (cy_wri, 1000, .inl u.2))]) (va_A [(h_mm, .inr (8, (mo118 v_mm (.ref h_wri) (.int x_mm_writes) (.int x_mm_room)))), (h_wri, .inl (cy_wri, 1000, .inl f_wri))] sz)) 0 0 (va_A [(h_mm, .inr (8, (mo118 v_mm (.ref h_wri) (.int x_mm_writes) (.int x_mm_room)))), (h_wri, .inl (cy_wri, 1000, .inl f_wri))] sz) := by
  refine Met.ofW (cc := cX11_saysName) (maxL := 3) (ret := none) (by decide) rfl ?_
  intro p e s m args below meth c s₁ B hml hv
  obtain ⟨rfl, hsz, hP, hK, hD0, hN⟩ := hv
  have hx := B.exec
  have hb := B.bytes
  have hr := B.returns
  have hts := atoms_spec (ws := Ws yX11_saysName cX11_saysName 3 none) B.pre
  have hT : ∀ w ∈ WALL, w ∈ Ws yX11_saysName cX11_saysName 3 none := fun w h => List.mem_cons_of_mem _ h
  have hw := fun w (h : w ∈ WALL) => hts w (hT w h)
  have hown : s.vm.findClass RX11 = some m.cls := findClass_of_methodNamed B.named
  have hlocks := B.notSynchronized
  subst hsz
  have hD := hD0.self (sz := s.heap.size)
  generalize hAe : va_A [(h_mm, .inr (8, (mo118 v_mm (.ref h_wri) (.int x_mm_writes) (.int x_mm_room)))), (h_wri, .inl (cy_wri, 1000, .inl f_wri))] s.heap.size = A at hD ⊢
  have hA : ∀ q : Nat, s.heap.size ≤ q → A q := fun q h => by rw [← hAe]; exact Or.inr h
  have hS : va_S A s.heap s.heap [] := va_S.rf
  have hl := lv_entry ([.ref h_mm, .long p1]) (n := 3) (Nat.le_of_ble_eq_true rfl)
  rw [lg_entry_eq]
  generalize (lg_sl ([.ref h_mm, .long p1]) ++ List.replicate (3 - (lg_sl ([.ref h_mm, .long p1])).length) Slot.unset).toArray = ls at hl ⊢
  have hl : lv_has ls 3 [(0, .ref h_mm), (1, .long p1)] := hl
  refine lv_lload_n hx hb dX11_saysName_0 rfl (lv_at hl 1 rfl) ?_
  refine lv_ldc2 (v := 27) hx hb hown (hw _ w_cl_X11_93) dX11_saysName_1 ?_
  refine W.lcmp hx hb dX11_saysName_4 ?_
  refine lv_topi (fun z1 ez1 => ?_)
  have gz1 := lgc p1 27
  rw [← ez1] at gz1
  have : (27 : Int64).toInt = 27 := by decide
  have nr9 : nlR 11 (p1).toInt = _ := nlR_s 10 (p1).toInt
  refine lv_if_le (tgt := 19) hx hb dX11_saysName_5 (by decide) (fun c2 => ?_) (fun c2 => ?_)
  · have kc2 := (cv_le (rfl : (z1).toInt = (z1).toInt) (by decide : (0 : Int32).toInt = 0)).mp c2
    rw [if_neg (by omega)] at nr9
    refine lv_aload_n hx hb dX11_saysName_19 rfl (lv_at hl 0 rfl) ?_
    refine lv_bipush (v := 97) hx hb dX11_saysName_20 (by decide) ?_
    refine lv_lload_n hx hb dX11_saysName_22 rfl (lv_at hl 1 rfl) ?_
    refine lv_lconst (v := 1) hx hb dX11_saysName_23 (by decide) ?_
    refine lv_lsub hx hb dX11_saysName_24 ?_
    refine lv_topl (fun z3 ez3 => ?_)
    refine lv_ldc2 (v := 27) hx hb hown (hw _ w_cl_X11_93) dX11_saysName_25 ?_
    refine lv_lrem hx hb dX11_saysName_28 (by decide) ?_
    refine lv_topl (fun z4 ez4 => ?_)
    refine lv_l2i hx hb dX11_saysName_29 rfl ?_
    refine lv_topi (fun z5 ez5 => ?_)
    refine lv_iadd hx hb dX11_saysName_30 ?_
    refine lv_topi (fun z6 ez6 => ?_)
    have hPc := hP.sub (ws' := [(h_mm, .inr (8, (mo118 v_mm (.ref h_wri) (.int x_mm_writes) (.int x_mm_room)))), (h_wri, .inl (cy_wri, 1000, .inl f_wri))]) [0, 1] rfl
    have hDc := hD.sub (ws' := [(h_mm, .inr (8, (mo118 v_mm (.ref h_wri) (.int x_mm_writes) (.int x_mm_room)))), (h_wri, .inl (cy_wri, 1000, .inl f_wri))]) [0, 1] (by decide) rfl
    have hKc := hK.sub (tys' := [(cy_wri, .int)]) [0] rfl
    have hFc := va_free (wc := [(h_mm, .inr (8, (mo118 v_mm (.ref h_wri) (.int x_mm_writes) (.int x_mm_room)))), (h_wri, .inl (cy_wri, 1000, .inl f_wri))]) hD hS hA [0, 1] rfl
    refine va_callv (va_runV (As := [.int z6]) (rest := []) ⟨hx, hb, hml, hown, hts⟩ (c_X11_says_n l dC dI s.heap.size h_mm h_wri v_mm x_mm_writes x_mm_room cy_wri f_wri z6 (by first | exact hx_mm_writes | omega) (by first | exact hx_mm_room | omega) (by omega)) (cwV 1 hts (gv hT w_m_X11_452 w_instanceMethod_X11_says ws_sel_X11_says w_ini_X11 w_code_X11_says) rfl rfl rfl (by decide +kernel) ⟨(Nat.le_of_ble_eq_true rfl), (Nat.le_of_ble_eq_true rfl)⟩) ⟨pre_blind, va_recv hK hP (ci := 8) (q0 := 0) rfl rfl, pre_of hPc hKc hDc hN⟩ rfl rfl hl.1 rfl (lv_room (Nat.le_of_ble_eq_true rfl)) dX11_saysName_31 ⟨(Nat.le_of_ble_eq_true rfl), (Nat.le_of_ble_eq_true rfl)⟩) hS (fun q _ h => hFc q h) hFc (fun u t H locs ht hvm hq hB hz1 hk1 hS9 => ?_)
    obtain ⟨z8, f9⟩ := u
    obtain ⟨hP1, hD1⟩ := hB
    rw [ht] at hP1
    obtain ⟨hP9, hD9⟩ := va_join (wr := []) (w1 := [(h_mm, .inr (8, (mo118 v_mm (.ref h_wri) (.int z8) (.int x_mm_room)))), (h_wri, .inl (cy_wri, 1000, .inl f9))]) hP hD [0, 1] [] rfl rfl (by decide) (by decide) hk1 hFc hP1 hD1
    clear hP hD hS hPc hDc hKc hFc hP1 hD1 hk1 hz1 ht hvm
    have hP : va_P (dC, dI) cls [(h_mm, .inr (8, (mo118 v_mm (.ref h_wri) (.int z8) (.int x_mm_room)))), (h_wri, .inl (cy_wri, 1000, .inl f9))] H := hP9
    have hD : va_D A [(h_mm, .inr (8, (mo118 v_mm (.ref h_wri) (.int z8) (.int x_mm_room)))), (h_wri, .inl (cy_wri, 1000, .inl f9))] := hD9
    have hS := hS9
    clear hP9 hD9 hS9
    obtain ⟨k10, k11⟩ := hq
    replace k10 : 0 ≤ ((z8)).toInt ∧ ((z8)).toInt ≤ 1000 := k10
    replace k11 : ((z8)).toInt = ((x_mm_writes)).toInt + 1 := k11
    refine W.widen (k := 0) (n := 0) (Nat.le_of_ble_eq_true rfl) (Nat.le_of_ble_eq_true rfl) ?_
    have w12 : 0 ≤ ((z8)).toInt ∧ ((z8)).toInt ≤ 1000 := by first | exact k10 | omega
    have w13 : ((z8)).toInt = (x_mm_writes).toInt + nlR 11 (p1).toInt := by omega
    exact W.vret hx hb hr (fun t ht hW => ⟨⟨(z8, f9), rfl, ⟨w12, w13⟩, by rw [ht]; exact hP, hD⟩, hS.F ht⟩) hS.2.2 dX11_saysName_34
  · have kc2 := (not_congr (cv_le (rfl : (z1).toInt = (z1).toInt) (by decide : (0 : Int32).toInt = 0))).mp c2
    have bd9 := l_bd p1
    rw [if_pos (by omega)] at nr9
    refine lv_aload_n hx hb dX11_saysName_8 rfl (lv_at hl 0 rfl) ?_
    refine lv_lload_n hx hb dX11_saysName_9 rfl (lv_at hl 1 rfl) ?_
    refine lv_lconst (v := 1) hx hb dX11_saysName_10 (by decide) ?_
    refine lv_lsub hx hb dX11_saysName_11 ?_
    refine lv_topl (fun z14 ez14 => ?_)
    have tz14 : (z14).toInt = (p1).toInt - 1 := by rw [ez14]; exact l_sub rfl (by decide) (by omega)
    refine lv_ldc2 (v := 27) hx hb hown (hw _ w_cl_X11_93) dX11_saysName_12 ?_
    refine lv_ldiv hx hb dX11_saysName_15 (by decide) ?_
    refine lv_topl (fun z15 ez15 => ?_)
    have tz15 : 0 ≤ (z14).toInt → (z15).toInt = (z14).toInt / 27 := fun h9 => by rw [ez15]; exact l_div rfl (by decide) (by omega)
    have dv9 := tz15 (by omega)
    have dw9 : ((p1).toInt - 1) / 27 = (z15).toInt := by omega
    rw [dw9] at nr9
    have ng9 := nlR_ge 10 (z15).toInt
    have hPc := hP.sub (ws' := [(h_mm, .inr (8, (mo118 v_mm (.ref h_wri) (.int x_mm_writes) (.int x_mm_room)))), (h_wri, .inl (cy_wri, 1000, .inl f_wri))]) [0, 1] rfl
    have hDc := hD.sub (ws' := [(h_mm, .inr (8, (mo118 v_mm (.ref h_wri) (.int x_mm_writes) (.int x_mm_room)))), (h_wri, .inl (cy_wri, 1000, .inl f_wri))]) [0, 1] (by decide) rfl
    have hKc := hK.sub (tys' := [(cy_wri, .int)]) [0] rfl
    have hFc := va_free (wc := [(h_mm, .inr (8, (mo118 v_mm (.ref h_wri) (.int x_mm_writes) (.int x_mm_room)))), (h_wri, .inl (cy_wri, 1000, .inl f_wri))]) hD hS hA [0, 1] rfl
    refine va_callv (va_runV (As := [.long z15]) (rest := []) ⟨hx, hb, hml, hown, hts⟩ (c_X11_saysName_n9 l dC dI s.heap.size h_mm h_wri v_mm x_mm_writes x_mm_room cy_wri f_wri z15 (by first | exact hx_mm_writes | omega) (by first | exact hx_mm_room | omega) (by omega) (by omega) (by omega)) (cwV 1 hts (gv hT w_m_X11_455 w_instanceMethod_X11_saysName ws_sel_X11_saysName w_ini_X11 w_code_X11_saysName) rfl rfl rfl (by decide +kernel) ⟨(Nat.le_of_ble_eq_true rfl), (Nat.le_of_ble_eq_true rfl)⟩) ⟨pre_blind, va_recv hK hP (ci := 8) (q0 := 0) rfl rfl, pre_of hPc hKc hDc hN⟩ rfl rfl hl.1 rfl (lv_room (Nat.le_of_ble_eq_true rfl)) dX11_saysName_16 ⟨(Nat.le_of_ble_eq_true rfl), (Nat.le_of_ble_eq_true rfl)⟩) hS (fun q _ h => hFc q h) hFc (fun u t H locs ht hvm hq hB hz1 hk1 hS9 => ?_)
    obtain ⟨z17, f18⟩ := u
    obtain ⟨hP1, hD1⟩ := hB
    rw [ht] at hP1
    obtain ⟨hP9, hD9⟩ := va_join (wr := []) (w1 := [(h_mm, .inr (8, (mo118 v_mm (.ref h_wri) (.int z17) (.int x_mm_room)))), (h_wri, .inl (cy_wri, 1000, .inl f18))]) hP hD [0, 1] [] rfl rfl (by decide) (by decide) hk1 hFc hP1 hD1
    clear hP hD hS hPc hDc hKc hFc hP1 hD1 hk1 hz1 ht hvm
    have hP : va_P (dC, dI) cls [(h_mm, .inr (8, (mo118 v_mm (.ref h_wri) (.int z17) (.int x_mm_room)))), (h_wri, .inl (cy_wri, 1000, .inl f18))] H := hP9
    have hD : va_D A [(h_mm, .inr (8, (mo118 v_mm (.ref h_wri) (.int z17) (.int x_mm_room)))), (h_wri, .inl (cy_wri, 1000, .inl f18))] := hD9
    have hS := hS9
    clear hP9 hD9 hS9
    obtain ⟨k19, k20⟩ := hq
    replace k19 : 0 ≤ ((z17)).toInt ∧ ((z17)).toInt ≤ 1000 := k19
    replace k20 : ((z17)).toInt = ((x_mm_writes)).toInt + nlR 10 ((z15)).toInt := k20
    refine lv_aload_n hx hb dX11_saysName_19 rfl (lv_at hl 0 rfl) ?_
    refine lv_bipush (v := 97) hx hb dX11_saysName_20 (by decide) ?_
    refine lv_lload_n hx hb dX11_saysName_22 rfl (lv_at hl 1 rfl) ?_
    refine lv_lconst (v := 1) hx hb dX11_saysName_23 (by decide) ?_
    refine lv_lsub hx hb dX11_saysName_24 ?_
    refine lv_topl (fun z21 ez21 => ?_)
    refine lv_ldc2 (v := 27) hx hb hown (hw _ w_cl_X11_93) dX11_saysName_25 ?_
    refine lv_lrem hx hb dX11_saysName_28 (by decide) ?_
    refine lv_topl (fun z22 ez22 => ?_)
    refine lv_l2i hx hb dX11_saysName_29 rfl ?_
    refine lv_topi (fun z23 ez23 => ?_)
    refine lv_iadd hx hb dX11_saysName_30 ?_
    refine lv_topi (fun z24 ez24 => ?_)
    have hPc := hP.sub (ws' := [(h_mm, .inr (8, (mo118 v_mm (.ref h_wri) (.int z17) (.int x_mm_room)))), (h_wri, .inl (cy_wri, 1000, .inl f18))]) [0, 1] rfl
    have hDc := hD.sub (ws' := [(h_mm, .inr (8, (mo118 v_mm (.ref h_wri) (.int z17) (.int x_mm_room)))), (h_wri, .inl (cy_wri, 1000, .inl f18))]) [0, 1] (by decide) rfl
    have hKc := hK.sub (tys' := [(cy_wri, .int)]) [0] rfl
    have hFc := va_free (wc := [(h_mm, .inr (8, (mo118 v_mm (.ref h_wri) (.int z17) (.int x_mm_room)))), (h_wri, .inl (cy_wri, 1000, .inl f18))]) hD hS hA [0, 1] rfl
    refine va_callv (va_runV (As := [.int z24]) (rest := []) ⟨hx, hb, hml, hown, hts⟩ (c_X11_says_n l dC dI H.size h_mm h_wri v_mm z17 x_mm_room cy_wri f18 z24 (by first | exact k19 | omega) (by first | exact hx_mm_room | omega) (by omega)) (cwV 1 hts (gv hT w_m_X11_452 w_instanceMethod_X11_says ws_sel_X11_says w_ini_X11 w_code_X11_says) rfl rfl rfl (by decide +kernel) ⟨(Nat.le_of_ble_eq_true rfl), (Nat.le_of_ble_eq_true rfl)⟩) ⟨pre_blind, va_recv hK hP (ci := 8) (q0 := 0) rfl rfl, pre_of hPc hKc hDc hN⟩ rfl rfl hl.1 rfl (lv_room (Nat.le_of_ble_eq_true rfl)) dX11_saysName_31 ⟨(Nat.le_of_ble_eq_true rfl), (Nat.le_of_ble_eq_true rfl)⟩) hS (fun q _ h => hFc q h) hFc (fun u t H locs ht hvm hq hB hz1 hk1 hS9 => ?_)
    obtain ⟨z26, f27⟩ := u
    obtain ⟨hP1, hD1⟩ := hB
    rw [ht] at hP1
    obtain ⟨hP9, hD9⟩ := va_join (wr := []) (w1 := [(h_mm, .inr (8, (mo118 v_mm (.ref h_wri) (.int z26) (.int x_mm_room)))), (h_wri, .inl (cy_wri, 1000, .inl f27))]) hP hD [0, 1] [] rfl rfl (by decide) (by decide) hk1 hFc hP1 hD1
    clear hP hD hS hPc hDc hKc hFc hP1 hD1 hk1 hz1 ht hvm
    have hP : va_P (dC, dI) cls [(h_mm, .inr (8, (mo118 v_mm (.ref h_wri) (.int z26) (.int x_mm_room)))), (h_wri, .inl (cy_wri, 1000, .inl f27))] H := hP9
    have hD : va_D A [(h_mm, .inr (8, (mo118 v_mm (.ref h_wri) (.int z26) (.int x_mm_room)))), (h_wri, .inl (cy_wri, 1000, .inl f27))] := hD9
    have hS := hS9
    clear hP9 hD9 hS9
    obtain ⟨k28, k29⟩ := hq
    replace k28 : 0 ≤ ((z26)).toInt ∧ ((z26)).toInt ≤ 1000 := k28
    replace k29 : ((z26)).toInt = ((z17)).toInt + 1 := k29
    refine W.widen (k := 0) (n := 0) (Nat.le_of_ble_eq_true rfl) (Nat.le_of_ble_eq_true rfl) ?_
    have w30 : 0 ≤ ((z26)).toInt ∧ ((z26)).toInt ≤ 1000 := by first | exact k28 | omega
    have w31 : ((z26)).toInt = (x_mm_writes).toInt + nlR 11 (p1).toInt := by omega
    exact W.vret hx hb hr (fun t ht hW => ⟨⟨(z26, f27), rfl, ⟨w30, w31⟩, by rw [ht]; exact hP, hD⟩, hS.F ht⟩) hS.2.2 dX11_saysName_34

set_option maxHeartbeats 8000000 in
set_option maxRecDepth 100000 in
theorem c_X11_saysName_n11 (l : Launch) (dC : Nat → ClassId) (dI : Nat → Nat → Nat) (sz : Nat) (h_mm : Nat) (h_wri : Nat) (v_mm : Nat → Value) (x_mm_writes : Int32) (x_mm_room : Int32) (cy_wri : ClassId) (f_wri : Nat → Int32) (p1 : Int64) (hx_mm_writes : 0 ≤ (x_mm_writes).toInt ∧ (x_mm_writes).toInt ≤ 1000) (hx_mm_room : 0 ≤ (x_mm_room).toInt ∧ (x_mm_room).toInt ≤ 998) (q0 : (p1).toInt ≤ 155867505885345240) (q1 : 1 ≤ (p1).toInt) (q2 : (x_mm_writes).toInt + nlR 12 (p1).toInt ≤ (x_mm_room).toInt + 1) : Met l yX11_saysName (Ws yX11_saysName cX11_saysName 3 none) (({ frames := 12, cells := 0, slots := 0, locals := 263 } : Room)) (PRE (dC, dI) cls [(cy_wri, .int)] [(h_mm, .inr (8, (mo118 v_mm (.ref h_wri) (.int x_mm_writes) (.int x_mm_room)))), (h_wri, .inl (cy_wri, 1000, .inl f_wri))] sz [.ref h_mm, .long p1]) (va_Qv (fun (u : (Int32) × (Nat → Int32)) => (0 ≤ (u.1).toInt ∧ (u.1).toInt ≤ 1000) ∧ ((u.1).toInt = (x_mm_writes).toInt + nlR 12 (p1).toInt)) (fun (u : (Int32) × (Nat → Int32)) (t : State) => va_P (dC, dI) cls [(h_mm, .inr (8, (mo118 v_mm (.ref h_wri) (.int u.1) (.int x_mm_room)))), (h_wri, .inl (cy_wri, 1000, .inl u.2))] t.heap ∧ va_D (va_A [(h_mm, .inr (8, (mo118 v_mm (.ref h_wri) (.int x_mm_writes) (.int x_mm_room)))), (h_wri, .inl (cy_wri, 1000, .inl f_wri))] sz) [(h_mm, .inr (8, (mo118 v_mm (.ref h_wri) (.int u.1) (.int x_mm_room)))), (h_wri, .inl (cy_wri, 1000, .inl u.2))]) (va_A [(h_mm, .inr (8, (mo118 v_mm (.ref h_wri) (.int x_mm_writes) (.int x_mm_room)))), (h_wri, .inl (cy_wri, 1000, .inl f_wri))] sz)) 0 0 (va_A [(h_mm, .inr (8, (mo118 v_mm (.ref h_wri) (.int x_mm_writes) (.int x_mm_room)))), (h_wri, .inl (cy_wri, 1000, .inl f_wri))] sz) := by
  refine Met.ofW (cc := cX11_saysName) (maxL := 3) (ret := none) (by decide) rfl ?_
  intro p e s m args below meth c s₁ B hml hv
  obtain ⟨rfl, hsz, hP, hK, hD0, hN⟩ := hv
  have hx := B.exec
  have hb := B.bytes
  have hr := B.returns
  have hts := atoms_spec (ws := Ws yX11_saysName cX11_saysName 3 none) B.pre
  have hT : ∀ w ∈ WALL, w ∈ Ws yX11_saysName cX11_saysName 3 none := fun w h => List.mem_cons_of_mem _ h
  have hw := fun w (h : w ∈ WALL) => hts w (hT w h)
  have hown : s.vm.findClass RX11 = some m.cls := findClass_of_methodNamed B.named
  have hlocks := B.notSynchronized
  subst hsz
  have hD := hD0.self (sz := s.heap.size)
  generalize hAe : va_A [(h_mm, .inr (8, (mo118 v_mm (.ref h_wri) (.int x_mm_writes) (.int x_mm_room)))), (h_wri, .inl (cy_wri, 1000, .inl f_wri))] s.heap.size = A at hD ⊢
  have hA : ∀ q : Nat, s.heap.size ≤ q → A q := fun q h => by rw [← hAe]; exact Or.inr h
  have hS : va_S A s.heap s.heap [] := va_S.rf
  have hl := lv_entry ([.ref h_mm, .long p1]) (n := 3) (Nat.le_of_ble_eq_true rfl)
  rw [lg_entry_eq]
  generalize (lg_sl ([.ref h_mm, .long p1]) ++ List.replicate (3 - (lg_sl ([.ref h_mm, .long p1])).length) Slot.unset).toArray = ls at hl ⊢
  have hl : lv_has ls 3 [(0, .ref h_mm), (1, .long p1)] := hl
  refine lv_lload_n hx hb dX11_saysName_0 rfl (lv_at hl 1 rfl) ?_
  refine lv_ldc2 (v := 27) hx hb hown (hw _ w_cl_X11_93) dX11_saysName_1 ?_
  refine W.lcmp hx hb dX11_saysName_4 ?_
  refine lv_topi (fun z1 ez1 => ?_)
  have gz1 := lgc p1 27
  rw [← ez1] at gz1
  have : (27 : Int64).toInt = 27 := by decide
  have nr9 : nlR 12 (p1).toInt = _ := nlR_s 11 (p1).toInt
  refine lv_if_le (tgt := 19) hx hb dX11_saysName_5 (by decide) (fun c2 => ?_) (fun c2 => ?_)
  · have kc2 := (cv_le (rfl : (z1).toInt = (z1).toInt) (by decide : (0 : Int32).toInt = 0)).mp c2
    rw [if_neg (by omega)] at nr9
    refine lv_aload_n hx hb dX11_saysName_19 rfl (lv_at hl 0 rfl) ?_
    refine lv_bipush (v := 97) hx hb dX11_saysName_20 (by decide) ?_
    refine lv_lload_n hx hb dX11_saysName_22 rfl (lv_at hl 1 rfl) ?_
    refine lv_lconst (v := 1) hx hb dX11_saysName_23 (by decide) ?_
    refine lv_lsub hx hb dX11_saysName_24 ?_
    refine lv_topl (fun z3 ez3 => ?_)
    refine lv_ldc2 (v := 27) hx hb hown (hw _ w_cl_X11_93) dX11_saysName_25 ?_
    refine lv_lrem hx hb dX11_saysName_28 (by decide) ?_
    refine lv_topl (fun z4 ez4 => ?_)
    refine lv_l2i hx hb dX11_saysName_29 rfl ?_
    refine lv_topi (fun z5 ez5 => ?_)
    refine lv_iadd hx hb dX11_saysName_30 ?_
    refine lv_topi (fun z6 ez6 => ?_)
    have hPc := hP.sub (ws' := [(h_mm, .inr (8, (mo118 v_mm (.ref h_wri) (.int x_mm_writes) (.int x_mm_room)))), (h_wri, .inl (cy_wri, 1000, .inl f_wri))]) [0, 1] rfl
    have hDc := hD.sub (ws' := [(h_mm, .inr (8, (mo118 v_mm (.ref h_wri) (.int x_mm_writes) (.int x_mm_room)))), (h_wri, .inl (cy_wri, 1000, .inl f_wri))]) [0, 1] (by decide) rfl
    have hKc := hK.sub (tys' := [(cy_wri, .int)]) [0] rfl
    have hFc := va_free (wc := [(h_mm, .inr (8, (mo118 v_mm (.ref h_wri) (.int x_mm_writes) (.int x_mm_room)))), (h_wri, .inl (cy_wri, 1000, .inl f_wri))]) hD hS hA [0, 1] rfl
    refine va_callv (va_runV (As := [.int z6]) (rest := []) ⟨hx, hb, hml, hown, hts⟩ (c_X11_says_n l dC dI s.heap.size h_mm h_wri v_mm x_mm_writes x_mm_room cy_wri f_wri z6 (by first | exact hx_mm_writes | omega) (by first | exact hx_mm_room | omega) (by omega)) (cwV 1 hts (gv hT w_m_X11_452 w_instanceMethod_X11_says ws_sel_X11_says w_ini_X11 w_code_X11_says) rfl rfl rfl (by decide +kernel) ⟨(Nat.le_of_ble_eq_true rfl), (Nat.le_of_ble_eq_true rfl)⟩) ⟨pre_blind, va_recv hK hP (ci := 8) (q0 := 0) rfl rfl, pre_of hPc hKc hDc hN⟩ rfl rfl hl.1 rfl (lv_room (Nat.le_of_ble_eq_true rfl)) dX11_saysName_31 ⟨(Nat.le_of_ble_eq_true rfl), (Nat.le_of_ble_eq_true rfl)⟩) hS (fun q _ h => hFc q h) hFc (fun u t H locs ht hvm hq hB hz1 hk1 hS9 => ?_)
    obtain ⟨z8, f9⟩ := u
    obtain ⟨hP1, hD1⟩ := hB
    rw [ht] at hP1
    obtain ⟨hP9, hD9⟩ := va_join (wr := []) (w1 := [(h_mm, .inr (8, (mo118 v_mm (.ref h_wri) (.int z8) (.int x_mm_room)))), (h_wri, .inl (cy_wri, 1000, .inl f9))]) hP hD [0, 1] [] rfl rfl (by decide) (by decide) hk1 hFc hP1 hD1
    clear hP hD hS hPc hDc hKc hFc hP1 hD1 hk1 hz1 ht hvm
    have hP : va_P (dC, dI) cls [(h_mm, .inr (8, (mo118 v_mm (.ref h_wri) (.int z8) (.int x_mm_room)))), (h_wri, .inl (cy_wri, 1000, .inl f9))] H := hP9
    have hD : va_D A [(h_mm, .inr (8, (mo118 v_mm (.ref h_wri) (.int z8) (.int x_mm_room)))), (h_wri, .inl (cy_wri, 1000, .inl f9))] := hD9
    have hS := hS9
    clear hP9 hD9 hS9
    obtain ⟨k10, k11⟩ := hq
    replace k10 : 0 ≤ ((z8)).toInt ∧ ((z8)).toInt ≤ 1000 := k10
    replace k11 : ((z8)).toInt = ((x_mm_writes)).toInt + 1 := k11
    refine W.widen (k := 0) (n := 0) (Nat.le_of_ble_eq_true rfl) (Nat.le_of_ble_eq_true rfl) ?_
    have w12 : 0 ≤ ((z8)).toInt ∧ ((z8)).toInt ≤ 1000 := by first | exact k10 | omega
    have w13 : ((z8)).toInt = (x_mm_writes).toInt + nlR 12 (p1).toInt := by omega
    exact W.vret hx hb hr (fun t ht hW => ⟨⟨(z8, f9), rfl, ⟨w12, w13⟩, by rw [ht]; exact hP, hD⟩, hS.F ht⟩) hS.2.2 dX11_saysName_34
  · have kc2 := (not_congr (cv_le (rfl : (z1).toInt = (z1).toInt) (by decide : (0 : Int32).toInt = 0))).mp c2
    have bd9 := l_bd p1
    rw [if_pos (by omega)] at nr9
    refine lv_aload_n hx hb dX11_saysName_8 rfl (lv_at hl 0 rfl) ?_
    refine lv_lload_n hx hb dX11_saysName_9 rfl (lv_at hl 1 rfl) ?_
    refine lv_lconst (v := 1) hx hb dX11_saysName_10 (by decide) ?_
    refine lv_lsub hx hb dX11_saysName_11 ?_
    refine lv_topl (fun z14 ez14 => ?_)
    have tz14 : (z14).toInt = (p1).toInt - 1 := by rw [ez14]; exact l_sub rfl (by decide) (by omega)
    refine lv_ldc2 (v := 27) hx hb hown (hw _ w_cl_X11_93) dX11_saysName_12 ?_
    refine lv_ldiv hx hb dX11_saysName_15 (by decide) ?_
    refine lv_topl (fun z15 ez15 => ?_)
    have tz15 : 0 ≤ (z14).toInt → (z15).toInt = (z14).toInt / 27 := fun h9 => by rw [ez15]; exact l_div rfl (by decide) (by omega)
    have dv9 := tz15 (by omega)
    have dw9 : ((p1).toInt - 1) / 27 = (z15).toInt := by omega
    rw [dw9] at nr9
    have ng9 := nlR_ge 11 (z15).toInt
    have hPc := hP.sub (ws' := [(h_mm, .inr (8, (mo118 v_mm (.ref h_wri) (.int x_mm_writes) (.int x_mm_room)))), (h_wri, .inl (cy_wri, 1000, .inl f_wri))]) [0, 1] rfl
    have hDc := hD.sub (ws' := [(h_mm, .inr (8, (mo118 v_mm (.ref h_wri) (.int x_mm_writes) (.int x_mm_room)))), (h_wri, .inl (cy_wri, 1000, .inl f_wri))]) [0, 1] (by decide) rfl
    have hKc := hK.sub (tys' := [(cy_wri, .int)]) [0] rfl
    have hFc := va_free (wc := [(h_mm, .inr (8, (mo118 v_mm (.ref h_wri) (.int x_mm_writes) (.int x_mm_room)))), (h_wri, .inl (cy_wri, 1000, .inl f_wri))]) hD hS hA [0, 1] rfl
    refine va_callv (va_runV (As := [.long z15]) (rest := []) ⟨hx, hb, hml, hown, hts⟩ (c_X11_saysName_n10 l dC dI s.heap.size h_mm h_wri v_mm x_mm_writes x_mm_room cy_wri f_wri z15 (by first | exact hx_mm_writes | omega) (by first | exact hx_mm_room | omega) (by omega) (by omega) (by omega)) (cwV 1 hts (gv hT w_m_X11_455 w_instanceMethod_X11_saysName ws_sel_X11_saysName w_ini_X11 w_code_X11_saysName) rfl rfl rfl (by decide +kernel) ⟨(Nat.le_of_ble_eq_true rfl), (Nat.le_of_ble_eq_true rfl)⟩) ⟨pre_blind, va_recv hK hP (ci := 8) (q0 := 0) rfl rfl, pre_of hPc hKc hDc hN⟩ rfl rfl hl.1 rfl (lv_room (Nat.le_of_ble_eq_true rfl)) dX11_saysName_16 ⟨(Nat.le_of_ble_eq_true rfl), (Nat.le_of_ble_eq_true rfl)⟩) hS (fun q _ h => hFc q h) hFc (fun u t H locs ht hvm hq hB hz1 hk1 hS9 => ?_)
    obtain ⟨z17, f18⟩ := u
    obtain ⟨hP1, hD1⟩ := hB
    rw [ht] at hP1
    obtain ⟨hP9, hD9⟩ := va_join (wr := []) (w1 := [(h_mm, .inr (8, (mo118 v_mm (.ref h_wri) (.int z17) (.int x_mm_room)))), (h_wri, .inl (cy_wri, 1000, .inl f18))]) hP hD [0, 1] [] rfl rfl (by decide) (by decide) hk1 hFc hP1 hD1
    clear hP hD hS hPc hDc hKc hFc hP1 hD1 hk1 hz1 ht hvm
    have hP : va_P (dC, dI) cls [(h_mm, .inr (8, (mo118 v_mm (.ref h_wri) (.int z17) (.int x_mm_room)))), (h_wri, .inl (cy_wri, 1000, .inl f18))] H := hP9
    have hD : va_D A [(h_mm, .inr (8, (mo118 v_mm (.ref h_wri) (.int z17) (.int x_mm_room)))), (h_wri, .inl (cy_wri, 1000, .inl f18))] := hD9
    have hS := hS9
    clear hP9 hD9 hS9
    obtain ⟨k19, k20⟩ := hq
    replace k19 : 0 ≤ ((z17)).toInt ∧ ((z17)).toInt ≤ 1000 := k19
    replace k20 : ((z17)).toInt = ((x_mm_writes)).toInt + nlR 11 ((z15)).toInt := k20
    refine lv_aload_n hx hb dX11_saysName_19 rfl (lv_at hl 0 rfl) ?_
    refine lv_bipush (v := 97) hx hb dX11_saysName_20 (by decide) ?_
    refine lv_lload_n hx hb dX11_saysName_22 rfl (lv_at hl 1 rfl) ?_
    refine lv_lconst (v := 1) hx hb dX11_saysName_23 (by decide) ?_
    refine lv_lsub hx hb dX11_saysName_24 ?_
    refine lv_topl (fun z21 ez21 => ?_)
    refine lv_ldc2 (v := 27) hx hb hown (hw _ w_cl_X11_93) dX11_saysName_25 ?_
    refine lv_lrem hx hb dX11_saysName_28 (by decide) ?_
    refine lv_topl (fun z22 ez22 => ?_)
    refine lv_l2i hx hb dX11_saysName_29 rfl ?_
    refine lv_topi (fun z23 ez23 => ?_)
    refine lv_iadd hx hb dX11_saysName_30 ?_
    refine lv_topi (fun z24 ez24 => ?_)
    have hPc := hP.sub (ws' := [(h_mm, .inr (8, (mo118 v_mm (.ref h_wri) (.int z17) (.int x_mm_room)))), (h_wri, .inl (cy_wri, 1000, .inl f18))]) [0, 1] rfl
    have hDc := hD.sub (ws' := [(h_mm, .inr (8, (mo118 v_mm (.ref h_wri) (.int z17) (.int x_mm_room)))), (h_wri, .inl (cy_wri, 1000, .inl f18))]) [0, 1] (by decide) rfl
    have hKc := hK.sub (tys' := [(cy_wri, .int)]) [0] rfl
    have hFc := va_free (wc := [(h_mm, .inr (8, (mo118 v_mm (.ref h_wri) (.int z17) (.int x_mm_room)))), (h_wri, .inl (cy_wri, 1000, .inl f18))]) hD hS hA [0, 1] rfl
    refine va_callv (va_runV (As := [.int z24]) (rest := []) ⟨hx, hb, hml, hown, hts⟩ (c_X11_says_n l dC dI H.size h_mm h_wri v_mm z17 x_mm_room cy_wri f18 z24 (by first | exact k19 | omega) (by first | exact hx_mm_room | omega) (by omega)) (cwV 1 hts (gv hT w_m_X11_452 w_instanceMethod_X11_says ws_sel_X11_says w_ini_X11 w_code_X11_says) rfl rfl rfl (by decide +kernel) ⟨(Nat.le_of_ble_eq_true rfl), (Nat.le_of_ble_eq_true rfl)⟩) ⟨pre_blind, va_recv hK hP (ci := 8) (q0 := 0) rfl rfl, pre_of hPc hKc hDc hN⟩ rfl rfl hl.1 rfl (lv_room (Nat.le_of_ble_eq_true rfl)) dX11_saysName_31 ⟨(Nat.le_of_ble_eq_true rfl), (Nat.le_of_ble_eq_true rfl)⟩) hS (fun q _ h => hFc q h) hFc (fun u t H locs ht hvm hq hB hz1 hk1 hS9 => ?_)
    obtain ⟨z26, f27⟩ := u
    obtain ⟨hP1, hD1⟩ := hB
    rw [ht] at hP1
    obtain ⟨hP9, hD9⟩ := va_join (wr := []) (w1 := [(h_mm, .inr (8, (mo118 v_mm (.ref h_wri) (.int z26) (.int x_mm_room)))), (h_wri, .inl (cy_wri, 1000, .inl f27))]) hP hD [0, 1] [] rfl rfl (by decide) (by decide) hk1 hFc hP1 hD1
    clear hP hD hS hPc hDc hKc hFc hP1 hD1 hk1 hz1 ht hvm
    have hP : va_P (dC, dI) cls [(h_mm, .inr (8, (mo118 v_mm (.ref h_wri) (.int z26) (.int x_mm_room)))), (h_wri, .inl (cy_wri, 1000, .inl f27))] H := hP9
    have hD : va_D A [(h_mm, .inr (8, (mo118 v_mm (.ref h_wri) (.int z26) (.int x_mm_room)))), (h_wri, .inl (cy_wri, 1000, .inl f27))] := hD9
    have hS := hS9
    clear hP9 hD9 hS9
    obtain ⟨k28, k29⟩ := hq
    replace k28 : 0 ≤ ((z26)).toInt ∧ ((z26)).toInt ≤ 1000 := k28
    replace k29 : ((z26)).toInt = ((z17)).toInt + 1 := k29
    refine W.widen (k := 0) (n := 0) (Nat.le_of_ble_eq_true rfl) (Nat.le_of_ble_eq_true rfl) ?_
    have w30 : 0 ≤ ((z26)).toInt ∧ ((z26)).toInt ≤ 1000 := by first | exact k28 | omega
    have w31 : ((z26)).toInt = (x_mm_writes).toInt + nlR 12 (p1).toInt := by omega
    exact W.vret hx hb hr (fun t ht hW => ⟨⟨(z26, f27), rfl, ⟨w30, w31⟩, by rw [ht]; exact hP, hD⟩, hS.F ht⟩) hS.2.2 dX11_saysName_34

set_option maxHeartbeats 8000000 in
set_option maxRecDepth 100000 in
theorem c_X11_saysName_n12 (l : Launch) (dC : Nat → ClassId) (dI : Nat → Nat → Nat) (sz : Nat) (h_mm : Nat) (h_wri : Nat) (v_mm : Nat → Value) (x_mm_writes : Int32) (x_mm_room : Int32) (cy_wri : ClassId) (f_wri : Nat → Int32) (p1 : Int64) (hx_mm_writes : 0 ≤ (x_mm_writes).toInt ∧ (x_mm_writes).toInt ≤ 1000) (hx_mm_room : 0 ≤ (x_mm_room).toInt ∧ (x_mm_room).toInt ≤ 998) (q0 : (p1).toInt ≤ 4208422658904321507) (q1 : 1 ≤ (p1).toInt) (q2 : (x_mm_writes).toInt + nlR 13 (p1).toInt ≤ (x_mm_room).toInt + 1) : Met l yX11_saysName (Ws yX11_saysName cX11_saysName 3 none) (({ frames := 13, cells := 0, slots := 0, locals := 285 } : Room)) (PRE (dC, dI) cls [(cy_wri, .int)] [(h_mm, .inr (8, (mo118 v_mm (.ref h_wri) (.int x_mm_writes) (.int x_mm_room)))), (h_wri, .inl (cy_wri, 1000, .inl f_wri))] sz [.ref h_mm, .long p1]) (va_Qv (fun (u : (Int32) × (Nat → Int32)) => (0 ≤ (u.1).toInt ∧ (u.1).toInt ≤ 1000) ∧ ((u.1).toInt = (x_mm_writes).toInt + nlR 13 (p1).toInt)) (fun (u : (Int32) × (Nat → Int32)) (t : State) => va_P (dC, dI) cls [(h_mm, .inr (8, (mo118 v_mm (.ref h_wri) (.int u.1) (.int x_mm_room)))), (h_wri, .inl (cy_wri, 1000, .inl u.2))] t.heap ∧ va_D (va_A [(h_mm, .inr (8, (mo118 v_mm (.ref h_wri) (.int x_mm_writes) (.int x_mm_room)))), (h_wri, .inl (cy_wri, 1000, .inl f_wri))] sz) [(h_mm, .inr (8, (mo118 v_mm (.ref h_wri) (.int u.1) (.int x_mm_room)))), (h_wri, .inl (cy_wri, 1000, .inl u.2))]) (va_A [(h_mm, .inr (8, (mo118 v_mm (.ref h_wri) (.int x_mm_writes) (.int x_mm_room)))), (h_wri, .inl (cy_wri, 1000, .inl f_wri))] sz)) 0 0 (va_A [(h_mm, .inr (8, (mo118 v_mm (.ref h_wri) (.int x_mm_writes) (.int x_mm_room)))), (h_wri, .inl (cy_wri, 1000, .inl f_wri))] sz) := by
  refine Met.ofW (cc := cX11_saysName) (maxL := 3) (ret := none) (by decide) rfl ?_
  intro p e s m args below meth c s₁ B hml hv
  obtain ⟨rfl, hsz, hP, hK, hD0, hN⟩ := hv
  have hx := B.exec
  have hb := B.bytes
  have hr := B.returns
  have hts := atoms_spec (ws := Ws yX11_saysName cX11_saysName 3 none) B.pre
  have hT : ∀ w ∈ WALL, w ∈ Ws yX11_saysName cX11_saysName 3 none := fun w h => List.mem_cons_of_mem _ h
  have hw := fun w (h : w ∈ WALL) => hts w (hT w h)
  have hown : s.vm.findClass RX11 = some m.cls := findClass_of_methodNamed B.named
  have hlocks := B.notSynchronized
  subst hsz
  have hD := hD0.self (sz := s.heap.size)
  generalize hAe : va_A [(h_mm, .inr (8, (mo118 v_mm (.ref h_wri) (.int x_mm_writes) (.int x_mm_room)))), (h_wri, .inl (cy_wri, 1000, .inl f_wri))] s.heap.size = A at hD ⊢
  have hA : ∀ q : Nat, s.heap.size ≤ q → A q := fun q h => by rw [← hAe]; exact Or.inr h
  have hS : va_S A s.heap s.heap [] := va_S.rf
  have hl := lv_entry ([.ref h_mm, .long p1]) (n := 3) (Nat.le_of_ble_eq_true rfl)
  rw [lg_entry_eq]
  generalize (lg_sl ([.ref h_mm, .long p1]) ++ List.replicate (3 - (lg_sl ([.ref h_mm, .long p1])).length) Slot.unset).toArray = ls at hl ⊢
  have hl : lv_has ls 3 [(0, .ref h_mm), (1, .long p1)] := hl
  refine lv_lload_n hx hb dX11_saysName_0 rfl (lv_at hl 1 rfl) ?_
  refine lv_ldc2 (v := 27) hx hb hown (hw _ w_cl_X11_93) dX11_saysName_1 ?_
  refine W.lcmp hx hb dX11_saysName_4 ?_
  refine lv_topi (fun z1 ez1 => ?_)
  have gz1 := lgc p1 27
  rw [← ez1] at gz1
  have : (27 : Int64).toInt = 27 := by decide
  have nr9 : nlR 13 (p1).toInt = _ := nlR_s 12 (p1).toInt
  refine lv_if_le (tgt := 19) hx hb dX11_saysName_5 (by decide) (fun c2 => ?_) (fun c2 => ?_)
  · have kc2 := (cv_le (rfl : (z1).toInt = (z1).toInt) (by decide : (0 : Int32).toInt = 0)).mp c2
    rw [if_neg (by omega)] at nr9
    refine lv_aload_n hx hb dX11_saysName_19 rfl (lv_at hl 0 rfl) ?_
    refine lv_bipush (v := 97) hx hb dX11_saysName_20 (by decide) ?_
    refine lv_lload_n hx hb dX11_saysName_22 rfl (lv_at hl 1 rfl) ?_
    refine lv_lconst (v := 1) hx hb dX11_saysName_23 (by decide) ?_
    refine lv_lsub hx hb dX11_saysName_24 ?_
    refine lv_topl (fun z3 ez3 => ?_)
    refine lv_ldc2 (v := 27) hx hb hown (hw _ w_cl_X11_93) dX11_saysName_25 ?_
    refine lv_lrem hx hb dX11_saysName_28 (by decide) ?_
    refine lv_topl (fun z4 ez4 => ?_)
    refine lv_l2i hx hb dX11_saysName_29 rfl ?_
    refine lv_topi (fun z5 ez5 => ?_)
    refine lv_iadd hx hb dX11_saysName_30 ?_
    refine lv_topi (fun z6 ez6 => ?_)
    have hPc := hP.sub (ws' := [(h_mm, .inr (8, (mo118 v_mm (.ref h_wri) (.int x_mm_writes) (.int x_mm_room)))), (h_wri, .inl (cy_wri, 1000, .inl f_wri))]) [0, 1] rfl
    have hDc := hD.sub (ws' := [(h_mm, .inr (8, (mo118 v_mm (.ref h_wri) (.int x_mm_writes) (.int x_mm_room)))), (h_wri, .inl (cy_wri, 1000, .inl f_wri))]) [0, 1] (by decide) rfl
    have hKc := hK.sub (tys' := [(cy_wri, .int)]) [0] rfl
    have hFc := va_free (wc := [(h_mm, .inr (8, (mo118 v_mm (.ref h_wri) (.int x_mm_writes) (.int x_mm_room)))), (h_wri, .inl (cy_wri, 1000, .inl f_wri))]) hD hS hA [0, 1] rfl
    refine va_callv (va_runV (As := [.int z6]) (rest := []) ⟨hx, hb, hml, hown, hts⟩ (c_X11_says_n l dC dI s.heap.size h_mm h_wri v_mm x_mm_writes x_mm_room cy_wri f_wri z6 (by first | exact hx_mm_writes | omega) (by first | exact hx_mm_room | omega) (by omega)) (cwV 1 hts (gv hT w_m_X11_452 w_instanceMethod_X11_says ws_sel_X11_says w_ini_X11 w_code_X11_says) rfl rfl rfl (by decide +kernel) ⟨(Nat.le_of_ble_eq_true rfl), (Nat.le_of_ble_eq_true rfl)⟩) ⟨pre_blind, va_recv hK hP (ci := 8) (q0 := 0) rfl rfl, pre_of hPc hKc hDc hN⟩ rfl rfl hl.1 rfl (lv_room (Nat.le_of_ble_eq_true rfl)) dX11_saysName_31 ⟨(Nat.le_of_ble_eq_true rfl), (Nat.le_of_ble_eq_true rfl)⟩) hS (fun q _ h => hFc q h) hFc (fun u t H locs ht hvm hq hB hz1 hk1 hS9 => ?_)
    obtain ⟨z8, f9⟩ := u
    obtain ⟨hP1, hD1⟩ := hB
    rw [ht] at hP1
    obtain ⟨hP9, hD9⟩ := va_join (wr := []) (w1 := [(h_mm, .inr (8, (mo118 v_mm (.ref h_wri) (.int z8) (.int x_mm_room)))), (h_wri, .inl (cy_wri, 1000, .inl f9))]) hP hD [0, 1] [] rfl rfl (by decide) (by decide) hk1 hFc hP1 hD1
    clear hP hD hS hPc hDc hKc hFc hP1 hD1 hk1 hz1 ht hvm
    have hP : va_P (dC, dI) cls [(h_mm, .inr (8, (mo118 v_mm (.ref h_wri) (.int z8) (.int x_mm_room)))), (h_wri, .inl (cy_wri, 1000, .inl f9))] H := hP9
    have hD : va_D A [(h_mm, .inr (8, (mo118 v_mm (.ref h_wri) (.int z8) (.int x_mm_room)))), (h_wri, .inl (cy_wri, 1000, .inl f9))] := hD9
    have hS := hS9
    clear hP9 hD9 hS9
    obtain ⟨k10, k11⟩ := hq
    replace k10 : 0 ≤ ((z8)).toInt ∧ ((z8)).toInt ≤ 1000 := k10
    replace k11 : ((z8)).toInt = ((x_mm_writes)).toInt + 1 := k11
    refine W.widen (k := 0) (n := 0) (Nat.le_of_ble_eq_true rfl) (Nat.le_of_ble_eq_true rfl) ?_
    have w12 : 0 ≤ ((z8)).toInt ∧ ((z8)).toInt ≤ 1000 := by first | exact k10 | omega
    have w13 : ((z8)).toInt = (x_mm_writes).toInt + nlR 13 (p1).toInt := by omega
    exact W.vret hx hb hr (fun t ht hW => ⟨⟨(z8, f9), rfl, ⟨w12, w13⟩, by rw [ht]; exact hP, hD⟩, hS.F ht⟩) hS.2.2 dX11_saysName_34
  · have kc2 := (not_congr (cv_le (rfl : (z1).toInt = (z1).toInt) (by decide : (0 : Int32).toInt = 0))).mp c2
    have bd9 := l_bd p1
    rw [if_pos (by omega)] at nr9
    refine lv_aload_n hx hb dX11_saysName_8 rfl (lv_at hl 0 rfl) ?_
    refine lv_lload_n hx hb dX11_saysName_9 rfl (lv_at hl 1 rfl) ?_
    refine lv_lconst (v := 1) hx hb dX11_saysName_10 (by decide) ?_
    refine lv_lsub hx hb dX11_saysName_11 ?_
    refine lv_topl (fun z14 ez14 => ?_)
    have tz14 : (z14).toInt = (p1).toInt - 1 := by rw [ez14]; exact l_sub rfl (by decide) (by omega)
    refine lv_ldc2 (v := 27) hx hb hown (hw _ w_cl_X11_93) dX11_saysName_12 ?_
    refine lv_ldiv hx hb dX11_saysName_15 (by decide) ?_
    refine lv_topl (fun z15 ez15 => ?_)
    have tz15 : 0 ≤ (z14).toInt → (z15).toInt = (z14).toInt / 27 := fun h9 => by rw [ez15]; exact l_div rfl (by decide) (by omega)
    have dv9 := tz15 (by omega)
    have dw9 : ((p1).toInt - 1) / 27 = (z15).toInt := by omega
    rw [dw9] at nr9
    have ng9 := nlR_ge 12 (z15).toInt
    have hPc := hP.sub (ws' := [(h_mm, .inr (8, (mo118 v_mm (.ref h_wri) (.int x_mm_writes) (.int x_mm_room)))), (h_wri, .inl (cy_wri, 1000, .inl f_wri))]) [0, 1] rfl
    have hDc := hD.sub (ws' := [(h_mm, .inr (8, (mo118 v_mm (.ref h_wri) (.int x_mm_writes) (.int x_mm_room)))), (h_wri, .inl (cy_wri, 1000, .inl f_wri))]) [0, 1] (by decide) rfl
    have hKc := hK.sub (tys' := [(cy_wri, .int)]) [0] rfl
    have hFc := va_free (wc := [(h_mm, .inr (8, (mo118 v_mm (.ref h_wri) (.int x_mm_writes) (.int x_mm_room)))), (h_wri, .inl (cy_wri, 1000, .inl f_wri))]) hD hS hA [0, 1] rfl
    refine va_callv (va_runV (As := [.long z15]) (rest := []) ⟨hx, hb, hml, hown, hts⟩ (c_X11_saysName_n11 l dC dI s.heap.size h_mm h_wri v_mm x_mm_writes x_mm_room cy_wri f_wri z15 (by first | exact hx_mm_writes | omega) (by first | exact hx_mm_room | omega) (by omega) (by omega) (by omega)) (cwV 1 hts (gv hT w_m_X11_455 w_instanceMethod_X11_saysName ws_sel_X11_saysName w_ini_X11 w_code_X11_saysName) rfl rfl rfl (by decide +kernel) ⟨(Nat.le_of_ble_eq_true rfl), (Nat.le_of_ble_eq_true rfl)⟩) ⟨pre_blind, va_recv hK hP (ci := 8) (q0 := 0) rfl rfl, pre_of hPc hKc hDc hN⟩ rfl rfl hl.1 rfl (lv_room (Nat.le_of_ble_eq_true rfl)) dX11_saysName_16 ⟨(Nat.le_of_ble_eq_true rfl), (Nat.le_of_ble_eq_true rfl)⟩) hS (fun q _ h => hFc q h) hFc (fun u t H locs ht hvm hq hB hz1 hk1 hS9 => ?_)
    obtain ⟨z17, f18⟩ := u
    obtain ⟨hP1, hD1⟩ := hB
    rw [ht] at hP1
    obtain ⟨hP9, hD9⟩ := va_join (wr := []) (w1 := [(h_mm, .inr (8, (mo118 v_mm (.ref h_wri) (.int z17) (.int x_mm_room)))), (h_wri, .inl (cy_wri, 1000, .inl f18))]) hP hD [0, 1] [] rfl rfl (by decide) (by decide) hk1 hFc hP1 hD1
    clear hP hD hS hPc hDc hKc hFc hP1 hD1 hk1 hz1 ht hvm
    have hP : va_P (dC, dI) cls [(h_mm, .inr (8, (mo118 v_mm (.ref h_wri) (.int z17) (.int x_mm_room)))), (h_wri, .inl (cy_wri, 1000, .inl f18))] H := hP9
    have hD : va_D A [(h_mm, .inr (8, (mo118 v_mm (.ref h_wri) (.int z17) (.int x_mm_room)))), (h_wri, .inl (cy_wri, 1000, .inl f18))] := hD9
    have hS := hS9
    clear hP9 hD9 hS9
    obtain ⟨k19, k20⟩ := hq
    replace k19 : 0 ≤ ((z17)).toInt ∧ ((z17)).toInt ≤ 1000 := k19
    replace k20 : ((z17)).toInt = ((x_mm_writes)).toInt + nlR 12 ((z15)).toInt := k20
    refine lv_aload_n hx hb dX11_saysName_19 rfl (lv_at hl 0 rfl) ?_
    refine lv_bipush (v := 97) hx hb dX11_saysName_20 (by decide) ?_
    refine lv_lload_n hx hb dX11_saysName_22 rfl (lv_at hl 1 rfl) ?_
    refine lv_lconst (v := 1) hx hb dX11_saysName_23 (by decide) ?_
    refine lv_lsub hx hb dX11_saysName_24 ?_
    refine lv_topl (fun z21 ez21 => ?_)
    refine lv_ldc2 (v := 27) hx hb hown (hw _ w_cl_X11_93) dX11_saysName_25 ?_
    refine lv_lrem hx hb dX11_saysName_28 (by decide) ?_
    refine lv_topl (fun z22 ez22 => ?_)
    refine lv_l2i hx hb dX11_saysName_29 rfl ?_
    refine lv_topi (fun z23 ez23 => ?_)
    refine lv_iadd hx hb dX11_saysName_30 ?_
    refine lv_topi (fun z24 ez24 => ?_)
    have hPc := hP.sub (ws' := [(h_mm, .inr (8, (mo118 v_mm (.ref h_wri) (.int z17) (.int x_mm_room)))), (h_wri, .inl (cy_wri, 1000, .inl f18))]) [0, 1] rfl
    have hDc := hD.sub (ws' := [(h_mm, .inr (8, (mo118 v_mm (.ref h_wri) (.int z17) (.int x_mm_room)))), (h_wri, .inl (cy_wri, 1000, .inl f18))]) [0, 1] (by decide) rfl
    have hKc := hK.sub (tys' := [(cy_wri, .int)]) [0] rfl
    have hFc := va_free (wc := [(h_mm, .inr (8, (mo118 v_mm (.ref h_wri) (.int z17) (.int x_mm_room)))), (h_wri, .inl (cy_wri, 1000, .inl f18))]) hD hS hA [0, 1] rfl
    refine va_callv (va_runV (As := [.int z24]) (rest := []) ⟨hx, hb, hml, hown, hts⟩ (c_X11_says_n l dC dI H.size h_mm h_wri v_mm z17 x_mm_room cy_wri f18 z24 (by first | exact k19 | omega) (by first | exact hx_mm_room | omega) (by omega)) (cwV 1 hts (gv hT w_m_X11_452 w_instanceMethod_X11_says ws_sel_X11_says w_ini_X11 w_code_X11_says) rfl rfl rfl (by decide +kernel) ⟨(Nat.le_of_ble_eq_true rfl), (Nat.le_of_ble_eq_true rfl)⟩) ⟨pre_blind, va_recv hK hP (ci := 8) (q0 := 0) rfl rfl, pre_of hPc hKc hDc hN⟩ rfl rfl hl.1 rfl (lv_room (Nat.le_of_ble_eq_true rfl)) dX11_saysName_31 ⟨(Nat.le_of_ble_eq_true rfl), (Nat.le_of_ble_eq_true rfl)⟩) hS (fun q _ h => hFc q h) hFc (fun u t H locs ht hvm hq hB hz1 hk1 hS9 => ?_)
    obtain ⟨z26, f27⟩ := u
    obtain ⟨hP1, hD1⟩ := hB
    rw [ht] at hP1
    obtain ⟨hP9, hD9⟩ := va_join (wr := []) (w1 := [(h_mm, .inr (8, (mo118 v_mm (.ref h_wri) (.int z26) (.int x_mm_room)))), (h_wri, .inl (cy_wri, 1000, .inl f27))]) hP hD [0, 1] [] rfl rfl (by decide) (by decide) hk1 hFc hP1 hD1
    clear hP hD hS hPc hDc hKc hFc hP1 hD1 hk1 hz1 ht hvm
    have hP : va_P (dC, dI) cls [(h_mm, .inr (8, (mo118 v_mm (.ref h_wri) (.int z26) (.int x_mm_room)))), (h_wri, .inl (cy_wri, 1000, .inl f27))] H := hP9
    have hD : va_D A [(h_mm, .inr (8, (mo118 v_mm (.ref h_wri) (.int z26) (.int x_mm_room)))), (h_wri, .inl (cy_wri, 1000, .inl f27))] := hD9
    have hS := hS9
    clear hP9 hD9 hS9
    obtain ⟨k28, k29⟩ := hq
    replace k28 : 0 ≤ ((z26)).toInt ∧ ((z26)).toInt ≤ 1000 := k28
    replace k29 : ((z26)).toInt = ((z17)).toInt + 1 := k29
    refine W.widen (k := 0) (n := 0) (Nat.le_of_ble_eq_true rfl) (Nat.le_of_ble_eq_true rfl) ?_
    have w30 : 0 ≤ ((z26)).toInt ∧ ((z26)).toInt ≤ 1000 := by first | exact k28 | omega
    have w31 : ((z26)).toInt = (x_mm_writes).toInt + nlR 13 (p1).toInt := by omega
    exact W.vret hx hb hr (fun t ht hW => ⟨⟨(z26, f27), rfl, ⟨w30, w31⟩, by rw [ht]; exact hP, hD⟩, hS.F ht⟩) hS.2.2 dX11_saysName_34

set_option maxHeartbeats 8000000 in
set_option maxRecDepth 100000 in
theorem c_X11_saysName_n13 (l : Launch) (dC : Nat → ClassId) (dI : Nat → Nat → Nat) (sz : Nat) (h_mm : Nat) (h_wri : Nat) (v_mm : Nat → Value) (x_mm_writes : Int32) (x_mm_room : Int32) (cy_wri : ClassId) (f_wri : Nat → Int32) (p1 : Int64) (hx_mm_writes : 0 ≤ (x_mm_writes).toInt ∧ (x_mm_writes).toInt ≤ 1000) (hx_mm_room : 0 ≤ (x_mm_room).toInt ∧ (x_mm_room).toInt ≤ 998) (q0 : 1 ≤ (p1).toInt) (q1 : (x_mm_writes).toInt + nlR 14 (p1).toInt ≤ (x_mm_room).toInt + 1) : Met l yX11_saysName (Ws yX11_saysName cX11_saysName 3 none) (({ frames := 14, cells := 0, slots := 0, locals := 307 } : Room)) (PRE (dC, dI) cls [(cy_wri, .int)] [(h_mm, .inr (8, (mo118 v_mm (.ref h_wri) (.int x_mm_writes) (.int x_mm_room)))), (h_wri, .inl (cy_wri, 1000, .inl f_wri))] sz [.ref h_mm, .long p1]) (va_Qv (fun (u : (Int32) × (Nat → Int32)) => (0 ≤ (u.1).toInt ∧ (u.1).toInt ≤ 1000) ∧ ((u.1).toInt = (x_mm_writes).toInt + nlR 14 (p1).toInt)) (fun (u : (Int32) × (Nat → Int32)) (t : State) => va_P (dC, dI) cls [(h_mm, .inr (8, (mo118 v_mm (.ref h_wri) (.int u.1) (.int x_mm_room)))), (h_wri, .inl (cy_wri, 1000, .inl u.2))] t.heap ∧ va_D (va_A [(h_mm, .inr (8, (mo118 v_mm (.ref h_wri) (.int x_mm_writes) (.int x_mm_room)))), (h_wri, .inl (cy_wri, 1000, .inl f_wri))] sz) [(h_mm, .inr (8, (mo118 v_mm (.ref h_wri) (.int u.1) (.int x_mm_room)))), (h_wri, .inl (cy_wri, 1000, .inl u.2))]) (va_A [(h_mm, .inr (8, (mo118 v_mm (.ref h_wri) (.int x_mm_writes) (.int x_mm_room)))), (h_wri, .inl (cy_wri, 1000, .inl f_wri))] sz)) 0 0 (va_A [(h_mm, .inr (8, (mo118 v_mm (.ref h_wri) (.int x_mm_writes) (.int x_mm_room)))), (h_wri, .inl (cy_wri, 1000, .inl f_wri))] sz) := by
  refine Met.ofW (cc := cX11_saysName) (maxL := 3) (ret := none) (by decide) rfl ?_
  intro p e s m args below meth c s₁ B hml hv
  obtain ⟨rfl, hsz, hP, hK, hD0, hN⟩ := hv
  have hx := B.exec
  have hb := B.bytes
  have hr := B.returns
  have hts := atoms_spec (ws := Ws yX11_saysName cX11_saysName 3 none) B.pre
  have hT : ∀ w ∈ WALL, w ∈ Ws yX11_saysName cX11_saysName 3 none := fun w h => List.mem_cons_of_mem _ h
  have hw := fun w (h : w ∈ WALL) => hts w (hT w h)
  have hown : s.vm.findClass RX11 = some m.cls := findClass_of_methodNamed B.named
  have hlocks := B.notSynchronized
  subst hsz
  have hD := hD0.self (sz := s.heap.size)
  generalize hAe : va_A [(h_mm, .inr (8, (mo118 v_mm (.ref h_wri) (.int x_mm_writes) (.int x_mm_room)))), (h_wri, .inl (cy_wri, 1000, .inl f_wri))] s.heap.size = A at hD ⊢
  have hA : ∀ q : Nat, s.heap.size ≤ q → A q := fun q h => by rw [← hAe]; exact Or.inr h
  have hS : va_S A s.heap s.heap [] := va_S.rf
  have hl := lv_entry ([.ref h_mm, .long p1]) (n := 3) (Nat.le_of_ble_eq_true rfl)
  rw [lg_entry_eq]
  generalize (lg_sl ([.ref h_mm, .long p1]) ++ List.replicate (3 - (lg_sl ([.ref h_mm, .long p1])).length) Slot.unset).toArray = ls at hl ⊢
  have hl : lv_has ls 3 [(0, .ref h_mm), (1, .long p1)] := hl
  refine lv_lload_n hx hb dX11_saysName_0 rfl (lv_at hl 1 rfl) ?_
  refine lv_ldc2 (v := 27) hx hb hown (hw _ w_cl_X11_93) dX11_saysName_1 ?_
  refine W.lcmp hx hb dX11_saysName_4 ?_
  refine lv_topi (fun z1 ez1 => ?_)
  have gz1 := lgc p1 27
  rw [← ez1] at gz1
  have : (27 : Int64).toInt = 27 := by decide
  have nr9 : nlR 14 (p1).toInt = _ := nlR_s 13 (p1).toInt
  refine lv_if_le (tgt := 19) hx hb dX11_saysName_5 (by decide) (fun c2 => ?_) (fun c2 => ?_)
  · have kc2 := (cv_le (rfl : (z1).toInt = (z1).toInt) (by decide : (0 : Int32).toInt = 0)).mp c2
    rw [if_neg (by omega)] at nr9
    refine lv_aload_n hx hb dX11_saysName_19 rfl (lv_at hl 0 rfl) ?_
    refine lv_bipush (v := 97) hx hb dX11_saysName_20 (by decide) ?_
    refine lv_lload_n hx hb dX11_saysName_22 rfl (lv_at hl 1 rfl) ?_
    refine lv_lconst (v := 1) hx hb dX11_saysName_23 (by decide) ?_
    refine lv_lsub hx hb dX11_saysName_24 ?_
    refine lv_topl (fun z3 ez3 => ?_)
    refine lv_ldc2 (v := 27) hx hb hown (hw _ w_cl_X11_93) dX11_saysName_25 ?_
    refine lv_lrem hx hb dX11_saysName_28 (by decide) ?_
    refine lv_topl (fun z4 ez4 => ?_)
    refine lv_l2i hx hb dX11_saysName_29 rfl ?_
    refine lv_topi (fun z5 ez5 => ?_)
    refine lv_iadd hx hb dX11_saysName_30 ?_
    refine lv_topi (fun z6 ez6 => ?_)
    have hPc := hP.sub (ws' := [(h_mm, .inr (8, (mo118 v_mm (.ref h_wri) (.int x_mm_writes) (.int x_mm_room)))), (h_wri, .inl (cy_wri, 1000, .inl f_wri))]) [0, 1] rfl
    have hDc := hD.sub (ws' := [(h_mm, .inr (8, (mo118 v_mm (.ref h_wri) (.int x_mm_writes) (.int x_mm_room)))), (h_wri, .inl (cy_wri, 1000, .inl f_wri))]) [0, 1] (by decide) rfl
    have hKc := hK.sub (tys' := [(cy_wri, .int)]) [0] rfl
    have hFc := va_free (wc := [(h_mm, .inr (8, (mo118 v_mm (.ref h_wri) (.int x_mm_writes) (.int x_mm_room)))), (h_wri, .inl (cy_wri, 1000, .inl f_wri))]) hD hS hA [0, 1] rfl
    refine va_callv (va_runV (As := [.int z6]) (rest := []) ⟨hx, hb, hml, hown, hts⟩ (c_X11_says_n l dC dI s.heap.size h_mm h_wri v_mm x_mm_writes x_mm_room cy_wri f_wri z6 (by first | exact hx_mm_writes | omega) (by first | exact hx_mm_room | omega) (by omega)) (cwV 1 hts (gv hT w_m_X11_452 w_instanceMethod_X11_says ws_sel_X11_says w_ini_X11 w_code_X11_says) rfl rfl rfl (by decide +kernel) ⟨(Nat.le_of_ble_eq_true rfl), (Nat.le_of_ble_eq_true rfl)⟩) ⟨pre_blind, va_recv hK hP (ci := 8) (q0 := 0) rfl rfl, pre_of hPc hKc hDc hN⟩ rfl rfl hl.1 rfl (lv_room (Nat.le_of_ble_eq_true rfl)) dX11_saysName_31 ⟨(Nat.le_of_ble_eq_true rfl), (Nat.le_of_ble_eq_true rfl)⟩) hS (fun q _ h => hFc q h) hFc (fun u t H locs ht hvm hq hB hz1 hk1 hS9 => ?_)
    obtain ⟨z8, f9⟩ := u
    obtain ⟨hP1, hD1⟩ := hB
    rw [ht] at hP1
    obtain ⟨hP9, hD9⟩ := va_join (wr := []) (w1 := [(h_mm, .inr (8, (mo118 v_mm (.ref h_wri) (.int z8) (.int x_mm_room)))), (h_wri, .inl (cy_wri, 1000, .inl f9))]) hP hD [0, 1] [] rfl rfl (by decide) (by decide) hk1 hFc hP1 hD1
    clear hP hD hS hPc hDc hKc hFc hP1 hD1 hk1 hz1 ht hvm
    have hP : va_P (dC, dI) cls [(h_mm, .inr (8, (mo118 v_mm (.ref h_wri) (.int z8) (.int x_mm_room)))), (h_wri, .inl (cy_wri, 1000, .inl f9))] H := hP9
    have hD : va_D A [(h_mm, .inr (8, (mo118 v_mm (.ref h_wri) (.int z8) (.int x_mm_room)))), (h_wri, .inl (cy_wri, 1000, .inl f9))] := hD9
    have hS := hS9
    clear hP9 hD9 hS9
    obtain ⟨k10, k11⟩ := hq
    replace k10 : 0 ≤ ((z8)).toInt ∧ ((z8)).toInt ≤ 1000 := k10
    replace k11 : ((z8)).toInt = ((x_mm_writes)).toInt + 1 := k11
    refine W.widen (k := 0) (n := 0) (Nat.le_of_ble_eq_true rfl) (Nat.le_of_ble_eq_true rfl) ?_
    have w12 : 0 ≤ ((z8)).toInt ∧ ((z8)).toInt ≤ 1000 := by first | exact k10 | omega
    have w13 : ((z8)).toInt = (x_mm_writes).toInt + nlR 14 (p1).toInt := by omega
    exact W.vret hx hb hr (fun t ht hW => ⟨⟨(z8, f9), rfl, ⟨w12, w13⟩, by rw [ht]; exact hP, hD⟩, hS.F ht⟩) hS.2.2 dX11_saysName_34
  · have kc2 := (not_congr (cv_le (rfl : (z1).toInt = (z1).toInt) (by decide : (0 : Int32).toInt = 0))).mp c2
    have bd9 := l_bd p1
    rw [if_pos (by omega)] at nr9
    refine lv_aload_n hx hb dX11_saysName_8 rfl (lv_at hl 0 rfl) ?_
    refine lv_lload_n hx hb dX11_saysName_9 rfl (lv_at hl 1 rfl) ?_
    refine lv_lconst (v := 1) hx hb dX11_saysName_10 (by decide) ?_
    refine lv_lsub hx hb dX11_saysName_11 ?_
    refine lv_topl (fun z14 ez14 => ?_)
    have tz14 : (z14).toInt = (p1).toInt - 1 := by rw [ez14]; exact l_sub rfl (by decide) (by omega)
    refine lv_ldc2 (v := 27) hx hb hown (hw _ w_cl_X11_93) dX11_saysName_12 ?_
    refine lv_ldiv hx hb dX11_saysName_15 (by decide) ?_
    refine lv_topl (fun z15 ez15 => ?_)
    have tz15 : 0 ≤ (z14).toInt → (z15).toInt = (z14).toInt / 27 := fun h9 => by rw [ez15]; exact l_div rfl (by decide) (by omega)
    have dv9 := tz15 (by omega)
    have dw9 : ((p1).toInt - 1) / 27 = (z15).toInt := by omega
    rw [dw9] at nr9
    have ng9 := nlR_ge 13 (z15).toInt
    have hPc := hP.sub (ws' := [(h_mm, .inr (8, (mo118 v_mm (.ref h_wri) (.int x_mm_writes) (.int x_mm_room)))), (h_wri, .inl (cy_wri, 1000, .inl f_wri))]) [0, 1] rfl
    have hDc := hD.sub (ws' := [(h_mm, .inr (8, (mo118 v_mm (.ref h_wri) (.int x_mm_writes) (.int x_mm_room)))), (h_wri, .inl (cy_wri, 1000, .inl f_wri))]) [0, 1] (by decide) rfl
    have hKc := hK.sub (tys' := [(cy_wri, .int)]) [0] rfl
    have hFc := va_free (wc := [(h_mm, .inr (8, (mo118 v_mm (.ref h_wri) (.int x_mm_writes) (.int x_mm_room)))), (h_wri, .inl (cy_wri, 1000, .inl f_wri))]) hD hS hA [0, 1] rfl
    refine va_callv (va_runV (As := [.long z15]) (rest := []) ⟨hx, hb, hml, hown, hts⟩ (c_X11_saysName_n12 l dC dI s.heap.size h_mm h_wri v_mm x_mm_writes x_mm_room cy_wri f_wri z15 (by first | exact hx_mm_writes | omega) (by first | exact hx_mm_room | omega) (by omega) (by omega) (by omega)) (cwV 1 hts (gv hT w_m_X11_455 w_instanceMethod_X11_saysName ws_sel_X11_saysName w_ini_X11 w_code_X11_saysName) rfl rfl rfl (by decide +kernel) ⟨(Nat.le_of_ble_eq_true rfl), (Nat.le_of_ble_eq_true rfl)⟩) ⟨pre_blind, va_recv hK hP (ci := 8) (q0 := 0) rfl rfl, pre_of hPc hKc hDc hN⟩ rfl rfl hl.1 rfl (lv_room (Nat.le_of_ble_eq_true rfl)) dX11_saysName_16 ⟨(Nat.le_of_ble_eq_true rfl), (Nat.le_of_ble_eq_true rfl)⟩) hS (fun q _ h => hFc q h) hFc (fun u t H locs ht hvm hq hB hz1 hk1 hS9 => ?_)
    obtain ⟨z17, f18⟩ := u
    obtain ⟨hP1, hD1⟩ := hB
    rw [ht] at hP1
    obtain ⟨hP9, hD9⟩ := va_join (wr := []) (w1 := [(h_mm, .inr (8, (mo118 v_mm (.ref h_wri) (.int z17) (.int x_mm_room)))), (h_wri, .inl (cy_wri, 1000, .inl f18))]) hP hD [0, 1] [] rfl rfl (by decide) (by decide) hk1 hFc hP1 hD1
    clear hP hD hS hPc hDc hKc hFc hP1 hD1 hk1 hz1 ht hvm
    have hP : va_P (dC, dI) cls [(h_mm, .inr (8, (mo118 v_mm (.ref h_wri) (.int z17) (.int x_mm_room)))), (h_wri, .inl (cy_wri, 1000, .inl f18))] H := hP9
    have hD : va_D A [(h_mm, .inr (8, (mo118 v_mm (.ref h_wri) (.int z17) (.int x_mm_room)))), (h_wri, .inl (cy_wri, 1000, .inl f18))] := hD9
    have hS := hS9
    clear hP9 hD9 hS9
    obtain ⟨k19, k20⟩ := hq
    replace k19 : 0 ≤ ((z17)).toInt ∧ ((z17)).toInt ≤ 1000 := k19
    replace k20 : ((z17)).toInt = ((x_mm_writes)).toInt + nlR 13 ((z15)).toInt := k20
    refine lv_aload_n hx hb dX11_saysName_19 rfl (lv_at hl 0 rfl) ?_
    refine lv_bipush (v := 97) hx hb dX11_saysName_20 (by decide) ?_
    refine lv_lload_n hx hb dX11_saysName_22 rfl (lv_at hl 1 rfl) ?_
    refine lv_lconst (v := 1) hx hb dX11_saysName_23 (by decide) ?_
    refine lv_lsub hx hb dX11_saysName_24 ?_
    refine lv_topl (fun z21 ez21 => ?_)
    refine lv_ldc2 (v := 27) hx hb hown (hw _ w_cl_X11_93) dX11_saysName_25 ?_
    refine lv_lrem hx hb dX11_saysName_28 (by decide) ?_
    refine lv_topl (fun z22 ez22 => ?_)
    refine lv_l2i hx hb dX11_saysName_29 rfl ?_
    refine lv_topi (fun z23 ez23 => ?_)
    refine lv_iadd hx hb dX11_saysName_30 ?_
    refine lv_topi (fun z24 ez24 => ?_)
    have hPc := hP.sub (ws' := [(h_mm, .inr (8, (mo118 v_mm (.ref h_wri) (.int z17) (.int x_mm_room)))), (h_wri, .inl (cy_wri, 1000, .inl f18))]) [0, 1] rfl
    have hDc := hD.sub (ws' := [(h_mm, .inr (8, (mo118 v_mm (.ref h_wri) (.int z17) (.int x_mm_room)))), (h_wri, .inl (cy_wri, 1000, .inl f18))]) [0, 1] (by decide) rfl
    have hKc := hK.sub (tys' := [(cy_wri, .int)]) [0] rfl
    have hFc := va_free (wc := [(h_mm, .inr (8, (mo118 v_mm (.ref h_wri) (.int z17) (.int x_mm_room)))), (h_wri, .inl (cy_wri, 1000, .inl f18))]) hD hS hA [0, 1] rfl
    refine va_callv (va_runV (As := [.int z24]) (rest := []) ⟨hx, hb, hml, hown, hts⟩ (c_X11_says_n l dC dI H.size h_mm h_wri v_mm z17 x_mm_room cy_wri f18 z24 (by first | exact k19 | omega) (by first | exact hx_mm_room | omega) (by omega)) (cwV 1 hts (gv hT w_m_X11_452 w_instanceMethod_X11_says ws_sel_X11_says w_ini_X11 w_code_X11_says) rfl rfl rfl (by decide +kernel) ⟨(Nat.le_of_ble_eq_true rfl), (Nat.le_of_ble_eq_true rfl)⟩) ⟨pre_blind, va_recv hK hP (ci := 8) (q0 := 0) rfl rfl, pre_of hPc hKc hDc hN⟩ rfl rfl hl.1 rfl (lv_room (Nat.le_of_ble_eq_true rfl)) dX11_saysName_31 ⟨(Nat.le_of_ble_eq_true rfl), (Nat.le_of_ble_eq_true rfl)⟩) hS (fun q _ h => hFc q h) hFc (fun u t H locs ht hvm hq hB hz1 hk1 hS9 => ?_)
    obtain ⟨z26, f27⟩ := u
    obtain ⟨hP1, hD1⟩ := hB
    rw [ht] at hP1
    obtain ⟨hP9, hD9⟩ := va_join (wr := []) (w1 := [(h_mm, .inr (8, (mo118 v_mm (.ref h_wri) (.int z26) (.int x_mm_room)))), (h_wri, .inl (cy_wri, 1000, .inl f27))]) hP hD [0, 1] [] rfl rfl (by decide) (by decide) hk1 hFc hP1 hD1
    clear hP hD hS hPc hDc hKc hFc hP1 hD1 hk1 hz1 ht hvm
    have hP : va_P (dC, dI) cls [(h_mm, .inr (8, (mo118 v_mm (.ref h_wri) (.int z26) (.int x_mm_room)))), (h_wri, .inl (cy_wri, 1000, .inl f27))] H := hP9
    have hD : va_D A [(h_mm, .inr (8, (mo118 v_mm (.ref h_wri) (.int z26) (.int x_mm_room)))), (h_wri, .inl (cy_wri, 1000, .inl f27))] := hD9
    have hS := hS9
    clear hP9 hD9 hS9
    obtain ⟨k28, k29⟩ := hq
    replace k28 : 0 ≤ ((z26)).toInt ∧ ((z26)).toInt ≤ 1000 := k28
    replace k29 : ((z26)).toInt = ((z17)).toInt + 1 := k29
    refine W.widen (k := 0) (n := 0) (Nat.le_of_ble_eq_true rfl) (Nat.le_of_ble_eq_true rfl) ?_
    have w30 : 0 ≤ ((z26)).toInt ∧ ((z26)).toInt ≤ 1000 := by first | exact k28 | omega
    have w31 : ((z26)).toInt = (x_mm_writes).toInt + nlR 14 (p1).toInt := by omega
    exact W.vret hx hb hr (fun t ht hW => ⟨⟨(z26, f27), rfl, ⟨w30, w31⟩, by rw [ht]; exact hP, hD⟩, hS.F ht⟩) hS.2.2 dX11_saysName_34

def K_X11_saysTerm_0 (l : Launch) (fu : Nat) : Prop := ∀ (dC : Nat → ClassId) (dI : Nat → Nat → Nat) (sz : Nat) (h_mm : Nat) (h_wri : Nat) (h_let : Nat) (h_nv : Nat) (h_nn : Nat) (h_na : Nat) (h_nb : Nat) (h_nc : Nat) (v_mm : Nat → Value) (x_mm_writes : Int32) (x_mm_room : Int32) (cy_wri : ClassId) (f_wri : Nat → Int32) (cy_let : ClassId) (f_let : Nat → Int32) (cy_nv : ClassId) (f_nv : Nat → Int32) (cy_nn : ClassId) (f_nn : Nat → Int64) (cy_na : ClassId) (f_na : Nat → Int32) (cy_nb : ClassId) (f_nb : Nat → Int32) (cy_nc : ClassId) (f_nc : Nat → Int32) (p1 : Int32) (p3 : Int32) (N : Int) (hz : Nat → Nat) (hx_mm_writes : 0 ≤ (x_mm_writes).toInt ∧ (x_mm_writes).toInt ≤ 1000) (hx_mm_room : 0 ≤ (x_mm_room).toInt ∧ (x_mm_room).toInt ≤ 998) (hf_nv : Rg (-1) 7 f_nv) (hf_na : Rg (-1) 7999 f_na) (hf_nb : Rg (-1) 7999 f_nb) (hf_nc : Rg (-1) 7999 f_nc) (q0 : 0 ≤ (p1).toInt ∧ (p1).toInt < N) (q1 : N ≤ 8000) (q2 : 0 ≤ (p3).toInt ∧ (p3).toInt ≤ 15) (q3 : hz (p1).toInt.toNat + 1 ≤ fu) (hn_nds : ND 0 N hz f_na f_nb f_nc), Met l yX11_saysTerm (Ws yX11_saysTerm cX11_saysTerm 7 none) (({ frames := fu + 15, cells := 0, slots := 0, locals := 26 * fu + 329 } : Room)) (PRE (dC, dI) cls [(cy_wri, .int), (cy_let, .int), (cy_nv, .int), (cy_nn, .long), (cy_na, .int), (cy_nb, .int), (cy_nc, .int)] [(h_mm, .inr (8, (mo156 v_mm (.ref h_nv) (.ref h_nn) (.ref h_na) (.ref h_nb) (.ref h_nc) (.ref h_let) (.ref h_wri) (.int x_mm_writes) (.int x_mm_room)))), (h_wri, .inl (cy_wri, 1000, .inl f_wri)), (h_let, .inl (cy_let, 256, .inl f_let)), (h_nv, .inl (cy_nv, 8000, .inl f_nv)), (h_nn, .inl (cy_nn, 8000, .inr (.inl f_nn))), (h_na, .inl (cy_na, 8000, .inl f_na)), (h_nb, .inl (cy_nb, 8000, .inl f_nb)), (h_nc, .inl (cy_nc, 8000, .inl f_nc))] sz [.ref h_mm, .int p1, .int (-1), .int p3]) (va_Qv (fun (u : (Int32) × (Nat → Int32)) => (0 ≤ (u.1).toInt ∧ (u.1).toInt ≤ 1000)) (fun (u : (Int32) × (Nat → Int32)) (t : State) => va_P (dC, dI) cls [(h_mm, .inr (8, (mo156 v_mm (.ref h_nv) (.ref h_nn) (.ref h_na) (.ref h_nb) (.ref h_nc) (.ref h_let) (.ref h_wri) (.int u.1) (.int x_mm_room)))), (h_wri, .inl (cy_wri, 1000, .inl u.2)), (h_let, .inl (cy_let, 256, .inl f_let)), (h_nv, .inl (cy_nv, 8000, .inl f_nv)), (h_nn, .inl (cy_nn, 8000, .inr (.inl f_nn))), (h_na, .inl (cy_na, 8000, .inl f_na)), (h_nb, .inl (cy_nb, 8000, .inl f_nb)), (h_nc, .inl (cy_nc, 8000, .inl f_nc))] t.heap ∧ va_D (va_A [(h_mm, .inr (8, (mo156 v_mm (.ref h_nv) (.ref h_nn) (.ref h_na) (.ref h_nb) (.ref h_nc) (.ref h_let) (.ref h_wri) (.int x_mm_writes) (.int x_mm_room)))), (h_wri, .inl (cy_wri, 1000, .inl f_wri)), (h_let, .inl (cy_let, 256, .inl f_let)), (h_nv, .inl (cy_nv, 8000, .inl f_nv)), (h_nn, .inl (cy_nn, 8000, .inr (.inl f_nn))), (h_na, .inl (cy_na, 8000, .inl f_na)), (h_nb, .inl (cy_nb, 8000, .inl f_nb)), (h_nc, .inl (cy_nc, 8000, .inl f_nc))] sz) [(h_mm, .inr (8, (mo156 v_mm (.ref h_nv) (.ref h_nn) (.ref h_na) (.ref h_nb) (.ref h_nc) (.ref h_let) (.ref h_wri) (.int u.1) (.int x_mm_room)))), (h_wri, .inl (cy_wri, 1000, .inl u.2)), (h_let, .inl (cy_let, 256, .inl f_let)), (h_nv, .inl (cy_nv, 8000, .inl f_nv)), (h_nn, .inl (cy_nn, 8000, .inr (.inl f_nn))), (h_na, .inl (cy_na, 8000, .inl f_na)), (h_nb, .inl (cy_nb, 8000, .inl f_nb)), (h_nc, .inl (cy_nc, 8000, .inl f_nc))]) (va_A [(h_mm, .inr (8, (mo156 v_mm (.ref h_nv) (.ref h_nn) (.ref h_na) (.ref h_nb) (.ref h_nc) (.ref h_let) (.ref h_wri) (.int x_mm_writes) (.int x_mm_room)))), (h_wri, .inl (cy_wri, 1000, .inl f_wri)), (h_let, .inl (cy_let, 256, .inl f_let)), (h_nv, .inl (cy_nv, 8000, .inl f_nv)), (h_nn, .inl (cy_nn, 8000, .inr (.inl f_nn))), (h_na, .inl (cy_na, 8000, .inl f_na)), (h_nb, .inl (cy_nb, 8000, .inl f_nb)), (h_nc, .inl (cy_nc, 8000, .inl f_nc))] sz)) 0 0 (va_A [(h_mm, .inr (8, (mo156 v_mm (.ref h_nv) (.ref h_nn) (.ref h_na) (.ref h_nb) (.ref h_nc) (.ref h_let) (.ref h_wri) (.int x_mm_writes) (.int x_mm_room)))), (h_wri, .inl (cy_wri, 1000, .inl f_wri)), (h_let, .inl (cy_let, 256, .inl f_let)), (h_nv, .inl (cy_nv, 8000, .inl f_nv)), (h_nn, .inl (cy_nn, 8000, .inr (.inl f_nn))), (h_na, .inl (cy_na, 8000, .inl f_na)), (h_nb, .inl (cy_nb, 8000, .inl f_nb)), (h_nc, .inl (cy_nc, 8000, .inl f_nc))] sz)
set_option maxHeartbeats 8000000 in
set_option maxRecDepth 100000 in
theorem c_X11_saysTerm_0 (l : Launch) (fu : Nat) : K_X11_saysTerm_0 l fu := by
  refine Nat.rec (motive := fun fu => K_X11_saysTerm_0 l fu) ?_ ?_ fu
  · intro dC dI sz h_mm h_wri h_let h_nv h_nn h_na h_nb h_nc v_mm x_mm_writes x_mm_room cy_wri f_wri cy_let f_let cy_nv f_nv cy_nn f_nn cy_na f_na cy_nb f_nb cy_nc f_nc p1 p3 N hz hx_mm_writes hx_mm_room hf_nv hf_na hf_nb hf_nc q0 q1 q2 q3 hn_nds
    have h09 : Nat.zero = 0 := rfl
    exact False.elim (by omega)
  intro fu ihf
  intro dC dI sz h_mm h_wri h_let h_nv h_nn h_na h_nb h_nc v_mm x_mm_writes x_mm_room cy_wri f_wri cy_let f_let cy_nv f_nv cy_nn f_nn cy_na f_na cy_nb f_nb cy_nc f_nc p1 p3 N hz hx_mm_writes hx_mm_room hf_nv hf_na hf_nb hf_nc q0 q1 q2 q3 hn_nds
  refine Met.ofW (cc := cX11_saysTerm) (maxL := 7) (ret := none) (by decide) rfl ?_
  intro p e s m args below meth c s₁ B hml hv
  obtain ⟨rfl, hsz, hP, hK, hD0, hN⟩ := hv
  have hx := B.exec
  have hb := B.bytes
  have hr := B.returns
  have hts := atoms_spec (ws := Ws yX11_saysTerm cX11_saysTerm 7 none) B.pre
  have hT : ∀ w ∈ WALL, w ∈ Ws yX11_saysTerm cX11_saysTerm 7 none := fun w h => List.mem_cons_of_mem _ h
  have hw := fun w (h : w ∈ WALL) => hts w (hT w h)
  have hown : s.vm.findClass RX11 = some m.cls := findClass_of_methodNamed B.named
  have hlocks := B.notSynchronized
  subst hsz
  have hD := hD0.self (sz := s.heap.size)
  generalize hAe : va_A [(h_mm, .inr (8, (mo156 v_mm (.ref h_nv) (.ref h_nn) (.ref h_na) (.ref h_nb) (.ref h_nc) (.ref h_let) (.ref h_wri) (.int x_mm_writes) (.int x_mm_room)))), (h_wri, .inl (cy_wri, 1000, .inl f_wri)), (h_let, .inl (cy_let, 256, .inl f_let)), (h_nv, .inl (cy_nv, 8000, .inl f_nv)), (h_nn, .inl (cy_nn, 8000, .inr (.inl f_nn))), (h_na, .inl (cy_na, 8000, .inl f_na)), (h_nb, .inl (cy_nb, 8000, .inl f_nb)), (h_nc, .inl (cy_nc, 8000, .inl f_nc))] s.heap.size = A at hD ⊢
  have hA : ∀ q : Nat, s.heap.size ≤ q → A q := fun q h => by rw [← hAe]; exact Or.inr h
  have hS : va_S A s.heap s.heap [] := va_S.rf
  have hl := lv_entry ([.ref h_mm, .int p1, .int (-1), .int p3]) (n := 7) (Nat.le_of_ble_eq_true rfl)
  rw [lg_entry_eq]
  generalize (lg_sl ([.ref h_mm, .int p1, .int (-1), .int p3]) ++ List.replicate (7 - (lg_sl ([.ref h_mm, .int p1, .int (-1), .int p3])).length) Slot.unset).toArray = ls at hl ⊢
  have hl : lv_has ls 7 [(0, .ref h_mm), (1, .int p1), (2, .int (-1)), (3, .int p3)] := hl
  refine lv_aload_n hx hb dX11_saysTerm_0 rfl (lv_at hl 0 rfl) ?_
  refine va_get (D := (dC, dI)) (ci := 8) (v := .int x_mm_writes) (C := RX11) (T := TX11) (N := 71) hx hb hw iwX11 hown hK hP 0 rfl rfl 65 (by decide) (hw _ w_f_X11_443) (fun _ h9 => h9) rfl dX11_saysTerm_1 ?_
  refine lv_aload_n hx hb dX11_saysTerm_4 rfl (lv_at hl 0 rfl) ?_
  refine va_get (D := (dC, dI)) (ci := 8) (v := .int x_mm_room) (C := RX11) (T := TX11) (N := 71) hx hb hw iwX11 hown hK hP 0 rfl rfl 66 (by decide) (hw _ w_f_X11_446) (fun _ h9 => h9) rfl dX11_saysTerm_5 ?_
  refine lv_icmp_le (tgt := 12) hx hb dX11_saysTerm_8 (by decide) (fun c1 => ?_) (fun c1 => ?_)
  · have kc1 := (cv_le (rfl : (x_mm_writes).toInt = (x_mm_writes).toInt) (rfl : (x_mm_room).toInt = (x_mm_room).toInt)).mp c1
    refine lv_iload_n hx hb dX11_saysTerm_12 rfl (lv_at hl 1 rfl) ?_
    refine lv_istore (lv' := [(4, .int p1), (0, .ref h_mm), (1, .int p1), (2, .int (-1)), (3, .int p3)]) hx hb dX11_saysTerm_13 hl (by decide) rfl (fun ls hl => ?_)
    refine lv_iload_n hx hb dX11_saysTerm_15 rfl (lv_at hl 3 rfl) ?_
    refine lv_istore (lv' := [(5, .int (-1)), (4, .int p1), (0, .ref h_mm), (1, .int p1), (2, .int (-1)), (3, .int p3)]) hx hb dX11_saysTerm_16 hl (by decide) rfl (fun ls hl => ?_)
    refine lv_iload_n hx hb dX11_saysTerm_18 rfl (lv_at hl 4 rfl) ?_
    refine lv_iconst (v := (-1)) hx hb dX11_saysTerm_19 (by decide) ?_
    refine lv_icmp_eq (tgt := 41) hx hb dX11_saysTerm_20 (by decide) (fun _ => ?_) (fun c9 => absurd c9 (by decide))
    refine lv_aload_n hx hb dX11_saysTerm_41 rfl (lv_at hl 2 rfl) ?_
    refine va_get (D := (dC, dI)) (ci := 8) (v := .ref h_nv) (C := RX11) (T := TX11) (N := 71) hx hb hw iwX11 hown hK hP 0 rfl rfl 1 (by decide) (hw _ w_f_X11_17) (fun _ h9 => h9) rfl dX11_saysTerm_42 ?_
    refine lv_iload hx hb dX11_saysTerm_45 (lv_at hl 1 rfl) ?_
    refine va_iald hx hb hK hP 3 2 rfl rfl (i := p1) (vp_in_iff.mpr (by omega)) dX11_saysTerm_47 ?_
    refine lv_topi (fun z2 ez2 => ?_)
    have rz2 : -1 ≤ (z2).toInt ∧ (z2).toInt ≤ 7 := by rw [ez2]; exact hf_nv _
    refine lv_iconst (v := (-1)) hx hb dX11_saysTerm_48 (by decide) ?_
    refine lv_icmp_eq (tgt := 102) hx hb dX11_saysTerm_49 (by decide) (fun c3 => ?_) (fun c3 => ?_)
    · have kc3 := (cv_eq (rfl : (z2).toInt = (z2).toInt) (by decide : ((-1) : Int32).toInt = -1)).mp c3
      refine lv_aload_n hx hb dX11_saysTerm_102 rfl (lv_at hl 2 rfl) ?_
      refine lv_aload_n hx hb dX11_saysTerm_103 rfl (lv_at hl 2 rfl) ?_
      refine va_get (D := (dC, dI)) (ci := 8) (v := .ref h_nn) (C := RX11) (T := TX11) (N := 71) hx hb hw iwX11 hown hK hP 0 rfl rfl 2 (by decide) (hw _ w_f_X11_23) (fun _ h9 => h9) rfl dX11_saysTerm_104 ?_
      refine lv_iload hx hb dX11_saysTerm_107 (lv_at hl 1 rfl) ?_
      refine va_lald hx hb hK hP 4 3 rfl rfl (i := p1) (vp_in_iff.mpr (by omega)) dX11_saysTerm_109 ?_
      refine lv_topl (fun z4 ez4 => ?_)
      obtain ⟨vq5, evq5⟩ := mq156_118 v_mm (.ref h_nv) (.ref h_nn) (.ref h_na) (.ref h_nb) (.ref h_nc) (.ref h_let)
      replace hP : va_P (dC, dI) cls [(h_mm, .inr (8, (mo118 vq5 (.ref h_wri) (.int x_mm_writes) (.int x_mm_room)))), (h_wri, .inl (cy_wri, 1000, .inl f_wri)), (h_let, .inl (cy_let, 256, .inl f_let)), (h_nv, .inl (cy_nv, 8000, .inl f_nv)), (h_nn, .inl (cy_nn, 8000, .inr (.inl f_nn))), (h_na, .inl (cy_na, 8000, .inl f_na)), (h_nb, .inl (cy_nb, 8000, .inl f_nb)), (h_nc, .inl (cy_nc, 8000, .inl f_nc))] s.heap := by rw [evq5]; exact hP
      replace hD : va_D A [(h_mm, .inr (8, (mo118 vq5 (.ref h_wri) (.int x_mm_writes) (.int x_mm_room)))), (h_wri, .inl (cy_wri, 1000, .inl f_wri)), (h_let, .inl (cy_let, 256, .inl f_let)), (h_nv, .inl (cy_nv, 8000, .inl f_nv)), (h_nn, .inl (cy_nn, 8000, .inr (.inl f_nn))), (h_na, .inl (cy_na, 8000, .inl f_na)), (h_nb, .inl (cy_nb, 8000, .inl f_nb)), (h_nc, .inl (cy_nc, 8000, .inl f_nc))] := by rw [evq5]; exact hD
      have hPc := hP.sub (ws' := [(h_mm, .inr (8, (mo118 vq5 (.ref h_wri) (.int x_mm_writes) (.int x_mm_room)))), (h_wri, .inl (cy_wri, 1000, .inl f_wri))]) [0, 1] rfl
      have hDc := hD.sub (ws' := [(h_mm, .inr (8, (mo118 vq5 (.ref h_wri) (.int x_mm_writes) (.int x_mm_room)))), (h_wri, .inl (cy_wri, 1000, .inl f_wri))]) [0, 1] (by decide) rfl
      have hKc := hK.sub (tys' := [(cy_wri, .int)]) [0] rfl
      have hFc := va_free (wc := [(h_mm, .inr (8, (mo118 vq5 (.ref h_wri) (.int x_mm_writes) (.int x_mm_room)))), (h_wri, .inl (cy_wri, 1000, .inl f_wri))]) hD hS hA [0, 1] rfl
      refine va_callv (va_runV (As := [.long z4]) (rest := []) ⟨hx, hb, hml, hown, hts⟩ (c_X11_saysName_13 l dC dI s.heap.size h_mm h_wri vq5 x_mm_writes x_mm_room cy_wri f_wri z4 (by first | exact hx_mm_writes | omega) (by first | exact hx_mm_room | omega)) (cwV 1 hts (gv hT w_m_X11_455 w_instanceMethod_X11_saysName ws_sel_X11_saysName w_ini_X11 w_code_X11_saysName) rfl rfl rfl (by decide +kernel) ⟨(by dsimp only [headSpec]; omega), (by dsimp only [headSpec]; omega)⟩) ⟨pre_blind, va_recv hK hP (ci := 8) (q0 := 0) rfl rfl, pre_of hPc hKc hDc hN⟩ rfl rfl hl.1 rfl (lv_room (Nat.le_of_ble_eq_true rfl)) dX11_saysTerm_110 ⟨(Nat.le_of_ble_eq_true rfl), (Nat.le_of_ble_eq_true rfl)⟩) hS (fun q _ h => hFc q h) hFc (fun u t H locs ht hvm hq hB hz1 hk1 hS9 => ?_)
      obtain ⟨z7, f8⟩ := u
      obtain ⟨hP1, hD1⟩ := hB
      rw [ht] at hP1
      obtain ⟨hP9, hD9⟩ := va_join (wr := [(h_let, .inl (cy_let, 256, .inl f_let)), (h_nv, .inl (cy_nv, 8000, .inl f_nv)), (h_nn, .inl (cy_nn, 8000, .inr (.inl f_nn))), (h_na, .inl (cy_na, 8000, .inl f_na)), (h_nb, .inl (cy_nb, 8000, .inl f_nb)), (h_nc, .inl (cy_nc, 8000, .inl f_nc))]) (w1 := [(h_mm, .inr (8, (mo118 vq5 (.ref h_wri) (.int z7) (.int x_mm_room)))), (h_wri, .inl (cy_wri, 1000, .inl f8))]) hP hD [0, 1] [2, 3, 4, 5, 6, 7] rfl rfl (by decide) (by decide) hk1 hFc hP1 hD1
      clear hP hD hS hPc hDc hKc hFc hP1 hD1 hk1 hz1 ht hvm
      have hP : va_P (dC, dI) cls [(h_let, .inl (cy_let, 256, .inl f_let)), (h_nv, .inl (cy_nv, 8000, .inl f_nv)), (h_nn, .inl (cy_nn, 8000, .inr (.inl f_nn))), (h_na, .inl (cy_na, 8000, .inl f_na)), (h_nb, .inl (cy_nb, 8000, .inl f_nb)), (h_nc, .inl (cy_nc, 8000, .inl f_nc)), (h_mm, .inr (8, (mo118 vq5 (.ref h_wri) (.int z7) (.int x_mm_room)))), (h_wri, .inl (cy_wri, 1000, .inl f8))] H := hP9
      have hD : va_D A [(h_let, .inl (cy_let, 256, .inl f_let)), (h_nv, .inl (cy_nv, 8000, .inl f_nv)), (h_nn, .inl (cy_nn, 8000, .inr (.inl f_nn))), (h_na, .inl (cy_na, 8000, .inl f_na)), (h_nb, .inl (cy_nb, 8000, .inl f_nb)), (h_nc, .inl (cy_nc, 8000, .inl f_nc)), (h_mm, .inr (8, (mo118 vq5 (.ref h_wri) (.int z7) (.int x_mm_room)))), (h_wri, .inl (cy_wri, 1000, .inl f8))] := hD9
      have hS := hS9
      clear hP9 hD9 hS9
      rw [evq5] at hP hD
      replace hP : va_P (dC, dI) cls [(h_let, .inl (cy_let, 256, .inl f_let)), (h_nv, .inl (cy_nv, 8000, .inl f_nv)), (h_nn, .inl (cy_nn, 8000, .inr (.inl f_nn))), (h_na, .inl (cy_na, 8000, .inl f_na)), (h_nb, .inl (cy_nb, 8000, .inl f_nb)), (h_nc, .inl (cy_nc, 8000, .inl f_nc)), (h_mm, .inr (8, (mo156 v_mm (.ref h_nv) (.ref h_nn) (.ref h_na) (.ref h_nb) (.ref h_nc) (.ref h_let) (.ref h_wri) (.int z7) (.int x_mm_room)))), (h_wri, .inl (cy_wri, 1000, .inl f8))] H := hP
      replace hD : va_D A [(h_let, .inl (cy_let, 256, .inl f_let)), (h_nv, .inl (cy_nv, 8000, .inl f_nv)), (h_nn, .inl (cy_nn, 8000, .inr (.inl f_nn))), (h_na, .inl (cy_na, 8000, .inl f_na)), (h_nb, .inl (cy_nb, 8000, .inl f_nb)), (h_nc, .inl (cy_nc, 8000, .inl f_nc)), (h_mm, .inr (8, (mo156 v_mm (.ref h_nv) (.ref h_nn) (.ref h_na) (.ref h_nb) (.ref h_nc) (.ref h_let) (.ref h_wri) (.int z7) (.int x_mm_room)))), (h_wri, .inl (cy_wri, 1000, .inl f8))] := hD
      clear evq5 
      have k9 : 0 ≤ ((z7)).toInt ∧ ((z7)).toInt ≤ 1000 := hq
      clear hq
      refine lv_iconst (v := 0) hx hb dX11_saysTerm_113 (by decide) ?_
      refine lv_istore (lv' := [(6, .int 0), (5, .int (-1)), (4, .int p1), (0, .ref h_mm), (1, .int p1), (2, .int (-1)), (3, .int p3)]) hx hb dX11_saysTerm_114 hl (by decide) rfl (fun ls hl => ?_)
      have lp13 : ∀ (n : Nat) (x10 : Int32) (x11 : Int32) (f12 : Nat → Int32) (H : Heap) (locs : List Loc) (ls : Array Slot), (0 ≤ (x10).toInt ∧ (x10).toInt ≤ 3) → (0 ≤ (x11).toInt ∧ (x11).toInt ≤ 1000) → (3 - (x10).toInt).toNat + 1 ≤ n → va_P (dC, dI) cls [(h_let, .inl (cy_let, 256, .inl f_let)), (h_nv, .inl (cy_nv, 8000, .inl f_nv)), (h_nn, .inl (cy_nn, 8000, .inr (.inl f_nn))), (h_na, .inl (cy_na, 8000, .inl f_na)), (h_nb, .inl (cy_nb, 8000, .inl f_nb)), (h_nc, .inl (cy_nc, 8000, .inl f_nc)), (h_mm, .inr (8, (mo156 v_mm (.ref h_nv) (.ref h_nn) (.ref h_na) (.ref h_nb) (.ref h_nc) (.ref h_let) (.ref h_wri) (.int x11) (.int x_mm_room)))), (h_wri, .inl (cy_wri, 1000, .inl f12))] H → va_D A [(h_let, .inl (cy_let, 256, .inl f_let)), (h_nv, .inl (cy_nv, 8000, .inl f_nv)), (h_nn, .inl (cy_nn, 8000, .inr (.inl f_nn))), (h_na, .inl (cy_na, 8000, .inl f_na)), (h_nb, .inl (cy_nb, 8000, .inl f_nb)), (h_nc, .inl (cy_nc, 8000, .inl f_nc)), (h_mm, .inr (8, (mo156 v_mm (.ref h_nv) (.ref h_nn) (.ref h_na) (.ref h_nb) (.ref h_nc) (.ref h_let) (.ref h_wri) (.int x11) (.int x_mm_room)))), (h_wri, .inl (cy_wri, 1000, .inl f12))] → va_S A s.heap H locs → lv_has ls 7 [(0, .ref h_mm), (1, .int p1), (2, .int (-1)), (3, .int p3), (4, .int p1), (5, .int (-1)), (6, .int x10)] → W p l e ({ frames := (fu + 1) + 15, cells := 0, slots := 0, locals := 26 * (fu + 1) + 329 } : Room) s m ([.ref h_mm, .int p1, .int (-1), .int p3] : List Value).toArray below meth c H locs 0 0 (MQ below (va_Qv (fun (u : (Int32) × (Nat → Int32)) => (0 ≤ (u.1).toInt ∧ (u.1).toInt ≤ 1000)) (fun (u : (Int32) × (Nat → Int32)) (t : State) => va_P (dC, dI) cls [(h_mm, .inr (8, (mo156 v_mm (.ref h_nv) (.ref h_nn) (.ref h_na) (.ref h_nb) (.ref h_nc) (.ref h_let) (.ref h_wri) (.int u.1) (.int x_mm_room)))), (h_wri, .inl (cy_wri, 1000, .inl u.2)), (h_let, .inl (cy_let, 256, .inl f_let)), (h_nv, .inl (cy_nv, 8000, .inl f_nv)), (h_nn, .inl (cy_nn, 8000, .inr (.inl f_nn))), (h_na, .inl (cy_na, 8000, .inl f_na)), (h_nb, .inl (cy_nb, 8000, .inl f_nb)), (h_nc, .inl (cy_nc, 8000, .inl f_nc))] t.heap ∧ va_D A [(h_mm, .inr (8, (mo156 v_mm (.ref h_nv) (.ref h_nn) (.ref h_na) (.ref h_nb) (.ref h_nc) (.ref h_let) (.ref h_wri) (.int u.1) (.int x_mm_room)))), (h_wri, .inl (cy_wri, 1000, .inl u.2)), (h_let, .inl (cy_let, 256, .inl f_let)), (h_nv, .inl (cy_nv, 8000, .inl f_nv)), (h_nn, .inl (cy_nn, 8000, .inr (.inl f_nn))), (h_na, .inl (cy_na, 8000, .inl f_na)), (h_nb, .inl (cy_nb, 8000, .inl f_nb)), (h_nc, .inl (cy_nc, 8000, .inl f_nc))]) A) ([.ref h_mm, .int p1, .int (-1), .int p3] : List Value).toArray s 0 0 A) (F0 m 116 ls []) := by
        clear hP hD hS hl
        intro n
        induction n with
        | zero => intro x10 x11 f12 H locs ls klp13_0 klp13_1 hm hP hD hS hl; exact False.elim (by omega)
        | succ n ih => 
          intro x10 x11 f12 H locs ls klp13_0 klp13_1 hm hP hD hS hl
          have ih14 := ih
          clear ih
          refine lv_iload hx hb dX11_saysTerm_116 (lv_at hl 6 rfl) ?_
          refine lv_aload_n hx hb dX11_saysTerm_118 rfl (lv_at hl 0 rfl) ?_
          refine lv_iload hx hb dX11_saysTerm_119 (lv_at hl 4 rfl) ?_
          obtain ⟨vq15, evq15⟩ := mq156_86 v_mm (.ref h_nn) (.ref h_let) (.ref h_wri) (.int x11) (.int x_mm_room)
          replace hP : va_P (dC, dI) cls [(h_let, .inl (cy_let, 256, .inl f_let)), (h_nv, .inl (cy_nv, 8000, .inl f_nv)), (h_nn, .inl (cy_nn, 8000, .inr (.inl f_nn))), (h_na, .inl (cy_na, 8000, .inl f_na)), (h_nb, .inl (cy_nb, 8000, .inl f_nb)), (h_nc, .inl (cy_nc, 8000, .inl f_nc)), (h_mm, .inr (8, (mo86 vq15 (.ref h_nv) (.ref h_na) (.ref h_nb) (.ref h_nc)))), (h_wri, .inl (cy_wri, 1000, .inl f12))] H := by rw [evq15]; exact hP
          replace hD : va_D A [(h_let, .inl (cy_let, 256, .inl f_let)), (h_nv, .inl (cy_nv, 8000, .inl f_nv)), (h_nn, .inl (cy_nn, 8000, .inr (.inl f_nn))), (h_na, .inl (cy_na, 8000, .inl f_na)), (h_nb, .inl (cy_nb, 8000, .inl f_nb)), (h_nc, .inl (cy_nc, 8000, .inl f_nc)), (h_mm, .inr (8, (mo86 vq15 (.ref h_nv) (.ref h_na) (.ref h_nb) (.ref h_nc)))), (h_wri, .inl (cy_wri, 1000, .inl f12))] := by rw [evq15]; exact hD
          have hPc := hP.sub (ws' := [(h_mm, .inr (8, (mo86 vq15 (.ref h_nv) (.ref h_na) (.ref h_nb) (.ref h_nc)))), (h_nv, .inl (cy_nv, 8000, .inl f_nv)), (h_na, .inl (cy_na, 8000, .inl f_na)), (h_nb, .inl (cy_nb, 8000, .inl f_nb)), (h_nc, .inl (cy_nc, 8000, .inl f_nc))]) [6, 1, 3, 4, 5] rfl
          have hDc := hD.sub (ws' := [(h_mm, .inr (8, (mo86 vq15 (.ref h_nv) (.ref h_na) (.ref h_nb) (.ref h_nc)))), (h_nv, .inl (cy_nv, 8000, .inl f_nv)), (h_na, .inl (cy_na, 8000, .inl f_na)), (h_nb, .inl (cy_nb, 8000, .inl f_nb)), (h_nc, .inl (cy_nc, 8000, .inl f_nc))]) [6, 1, 3, 4, 5] (by decide) rfl
          have hKc := hK.sub (tys' := [(cy_nv, .int), (cy_na, .int), (cy_nb, .int), (cy_nc, .int)]) [2, 4, 5, 6] rfl
          have hFc := va_free (wc := [(h_mm, .inr (8, (mo86 vq15 (.ref h_nv) (.ref h_na) (.ref h_nb) (.ref h_nc)))), (h_nv, .inl (cy_nv, 8000, .inl f_nv)), (h_na, .inl (cy_na, 8000, .inl f_na)), (h_nb, .inl (cy_nb, 8000, .inl f_nb)), (h_nc, .inl (cy_nc, 8000, .inl f_nc))]) hD hS hA [6, 1, 3, 4, 5] rfl
          refine va_calli (va_runV (As := [.int p1]) (rest := [.int x10]) ⟨hx, hb, hml, hown, hts⟩ (c_X11_partsAt_e l dC dI H.size h_mm h_nv h_na h_nb h_nc vq15 cy_nv f_nv cy_na f_na cy_nb f_nb cy_nc f_nc p1 hf_nv hf_na hf_nb hf_nc (by omega)) (cwV 1 hts (gv hT w_m_X11_27 w_instanceMethod_X11_partsAt ws_sel_X11_partsAt w_ini_X11 w_code_X11_partsAt) rfl rfl rfl (by decide +kernel) ⟨(by dsimp only [headSpec]; omega), (by dsimp only [headSpec]; omega)⟩) ⟨pre_blind, va_recv hK hP (ci := 8) (q0 := 6) rfl rfl, pre_of hPc hKc hDc hN⟩ rfl rfl hl.1 rfl (lv_room (Nat.le_of_ble_eq_true rfl)) dX11_saysTerm_121 ⟨(Nat.le_of_ble_eq_true rfl), (Nat.le_of_ble_eq_true rfl)⟩) hS (fun q _ h => hFc q h) hFc (fun r16 u t H locs ht hvm hq hB hz1 hk1 hS9 => ?_)
          obtain ⟨hP1, hD1⟩ := hB
          rw [ht] at hP1
          obtain ⟨hP9, hD9⟩ := va_join (wr := [(h_let, .inl (cy_let, 256, .inl f_let)), (h_nn, .inl (cy_nn, 8000, .inr (.inl f_nn))), (h_wri, .inl (cy_wri, 1000, .inl f12))]) (w1 := [(h_mm, .inr (8, (mo86 vq15 (.ref h_nv) (.ref h_na) (.ref h_nb) (.ref h_nc)))), (h_nv, .inl (cy_nv, 8000, .inl f_nv)), (h_na, .inl (cy_na, 8000, .inl f_na)), (h_nb, .inl (cy_nb, 8000, .inl f_nb)), (h_nc, .inl (cy_nc, 8000, .inl f_nc))]) hP hD [6, 1, 3, 4, 5] [0, 2, 7] rfl rfl (by decide) (by decide) hk1 hFc hP1 hD1
          clear hP hD hS hPc hDc hKc hFc hP1 hD1 hk1 hz1 ht hvm
          have hP : va_P (dC, dI) cls [(h_let, .inl (cy_let, 256, .inl f_let)), (h_nn, .inl (cy_nn, 8000, .inr (.inl f_nn))), (h_wri, .inl (cy_wri, 1000, .inl f12)), (h_mm, .inr (8, (mo86 vq15 (.ref h_nv) (.ref h_na) (.ref h_nb) (.ref h_nc)))), (h_nv, .inl (cy_nv, 8000, .inl f_nv)), (h_na, .inl (cy_na, 8000, .inl f_na)), (h_nb, .inl (cy_nb, 8000, .inl f_nb)), (h_nc, .inl (cy_nc, 8000, .inl f_nc))] H := hP9
          have hD : va_D A [(h_let, .inl (cy_let, 256, .inl f_let)), (h_nn, .inl (cy_nn, 8000, .inr (.inl f_nn))), (h_wri, .inl (cy_wri, 1000, .inl f12)), (h_mm, .inr (8, (mo86 vq15 (.ref h_nv) (.ref h_na) (.ref h_nb) (.ref h_nc)))), (h_nv, .inl (cy_nv, 8000, .inl f_nv)), (h_na, .inl (cy_na, 8000, .inl f_na)), (h_nb, .inl (cy_nb, 8000, .inl f_nb)), (h_nc, .inl (cy_nc, 8000, .inl f_nc))] := hD9
          have hS := hS9
          clear hP9 hD9 hS9
          rw [evq15] at hP hD
          replace hP : va_P (dC, dI) cls [(h_let, .inl (cy_let, 256, .inl f_let)), (h_nn, .inl (cy_nn, 8000, .inr (.inl f_nn))), (h_wri, .inl (cy_wri, 1000, .inl f12)), (h_mm, .inr (8, (mo156 v_mm (.ref h_nv) (.ref h_nn) (.ref h_na) (.ref h_nb) (.ref h_nc) (.ref h_let) (.ref h_wri) (.int x11) (.int x_mm_room)))), (h_nv, .inl (cy_nv, 8000, .inl f_nv)), (h_na, .inl (cy_na, 8000, .inl f_na)), (h_nb, .inl (cy_nb, 8000, .inl f_nb)), (h_nc, .inl (cy_nc, 8000, .inl f_nc))] H := hP
          replace hD : va_D A [(h_let, .inl (cy_let, 256, .inl f_let)), (h_nn, .inl (cy_nn, 8000, .inr (.inl f_nn))), (h_wri, .inl (cy_wri, 1000, .inl f12)), (h_mm, .inr (8, (mo156 v_mm (.ref h_nv) (.ref h_nn) (.ref h_na) (.ref h_nb) (.ref h_nc) (.ref h_let) (.ref h_wri) (.int x11) (.int x_mm_room)))), (h_nv, .inl (cy_nv, 8000, .inl f_nv)), (h_na, .inl (cy_na, 8000, .inl f_na)), (h_nb, .inl (cy_nb, 8000, .inl f_nb)), (h_nc, .inl (cy_nc, 8000, .inl f_nc))] := hD
          clear evq15 
          obtain ⟨k17, k18⟩ := hq
          replace k17 : 0 ≤ (r16).toInt ∧ (r16).toInt ≤ 3 := k17
          replace k18 : ((r16)).toInt = (npx f_nv f_na f_nb f_nc ((p1)).toInt.toNat) := k18
          refine lv_icmp_ge (tgt := 164) hx hb dX11_saysTerm_124 (by decide) (fun c19 => ?_) (fun c19 => ?_)
          · have kc19 := (cv_le (rfl : (r16).toInt = (r16).toInt) (rfl : (x10).toInt = (x10).toInt)).mp c19
            refine lv_aload_n hx hb dX11_saysTerm_164 rfl (lv_at hl 0 rfl) ?_
            refine lv_iload hx hb dX11_saysTerm_165 (lv_at hl 4 rfl) ?_
            obtain ⟨vq20, evq20⟩ := mq156_86 v_mm (.ref h_nn) (.ref h_let) (.ref h_wri) (.int x11) (.int x_mm_room)
            replace hP : va_P (dC, dI) cls [(h_let, .inl (cy_let, 256, .inl f_let)), (h_nn, .inl (cy_nn, 8000, .inr (.inl f_nn))), (h_wri, .inl (cy_wri, 1000, .inl f12)), (h_mm, .inr (8, (mo86 vq20 (.ref h_nv) (.ref h_na) (.ref h_nb) (.ref h_nc)))), (h_nv, .inl (cy_nv, 8000, .inl f_nv)), (h_na, .inl (cy_na, 8000, .inl f_na)), (h_nb, .inl (cy_nb, 8000, .inl f_nb)), (h_nc, .inl (cy_nc, 8000, .inl f_nc))] H := by rw [evq20]; exact hP
            replace hD : va_D A [(h_let, .inl (cy_let, 256, .inl f_let)), (h_nn, .inl (cy_nn, 8000, .inr (.inl f_nn))), (h_wri, .inl (cy_wri, 1000, .inl f12)), (h_mm, .inr (8, (mo86 vq20 (.ref h_nv) (.ref h_na) (.ref h_nb) (.ref h_nc)))), (h_nv, .inl (cy_nv, 8000, .inl f_nv)), (h_na, .inl (cy_na, 8000, .inl f_na)), (h_nb, .inl (cy_nb, 8000, .inl f_nb)), (h_nc, .inl (cy_nc, 8000, .inl f_nc))] := by rw [evq20]; exact hD
            have hPc := hP.sub (ws' := [(h_mm, .inr (8, (mo86 vq20 (.ref h_nv) (.ref h_na) (.ref h_nb) (.ref h_nc)))), (h_nv, .inl (cy_nv, 8000, .inl f_nv)), (h_na, .inl (cy_na, 8000, .inl f_na)), (h_nb, .inl (cy_nb, 8000, .inl f_nb)), (h_nc, .inl (cy_nc, 8000, .inl f_nc))]) [3, 4, 5, 6, 7] rfl
            have hDc := hD.sub (ws' := [(h_mm, .inr (8, (mo86 vq20 (.ref h_nv) (.ref h_na) (.ref h_nb) (.ref h_nc)))), (h_nv, .inl (cy_nv, 8000, .inl f_nv)), (h_na, .inl (cy_na, 8000, .inl f_na)), (h_nb, .inl (cy_nb, 8000, .inl f_nb)), (h_nc, .inl (cy_nc, 8000, .inl f_nc))]) [3, 4, 5, 6, 7] (by decide) rfl
            have hKc := hK.sub (tys' := [(cy_nv, .int), (cy_na, .int), (cy_nb, .int), (cy_nc, .int)]) [2, 4, 5, 6] rfl
            have hFc := va_free (wc := [(h_mm, .inr (8, (mo86 vq20 (.ref h_nv) (.ref h_na) (.ref h_nb) (.ref h_nc)))), (h_nv, .inl (cy_nv, 8000, .inl f_nv)), (h_na, .inl (cy_na, 8000, .inl f_na)), (h_nb, .inl (cy_nb, 8000, .inl f_nb)), (h_nc, .inl (cy_nc, 8000, .inl f_nc))]) hD hS hA [3, 4, 5, 6, 7] rfl
            refine va_calli (va_runV (As := [.int p1]) (rest := []) ⟨hx, hb, hml, hown, hts⟩ (c_X11_partsAt_e l dC dI H.size h_mm h_nv h_na h_nb h_nc vq20 cy_nv f_nv cy_na f_na cy_nb f_nb cy_nc f_nc p1 hf_nv hf_na hf_nb hf_nc (by omega)) (cwV 1 hts (gv hT w_m_X11_27 w_instanceMethod_X11_partsAt ws_sel_X11_partsAt w_ini_X11 w_code_X11_partsAt) rfl rfl rfl (by decide +kernel) ⟨(by dsimp only [headSpec]; omega), (by dsimp only [headSpec]; omega)⟩) ⟨pre_blind, va_recv hK hP (ci := 8) (q0 := 3) rfl rfl, pre_of hPc hKc hDc hN⟩ rfl rfl hl.1 rfl (lv_room (Nat.le_of_ble_eq_true rfl)) dX11_saysTerm_167 ⟨(Nat.le_of_ble_eq_true rfl), (Nat.le_of_ble_eq_true rfl)⟩) hS (fun q _ h => hFc q h) hFc (fun r21 u t H locs ht hvm hq hB hz1 hk1 hS9 => ?_)
            obtain ⟨hP1, hD1⟩ := hB
            rw [ht] at hP1
            obtain ⟨hP9, hD9⟩ := va_join (wr := [(h_let, .inl (cy_let, 256, .inl f_let)), (h_nn, .inl (cy_nn, 8000, .inr (.inl f_nn))), (h_wri, .inl (cy_wri, 1000, .inl f12))]) (w1 := [(h_mm, .inr (8, (mo86 vq20 (.ref h_nv) (.ref h_na) (.ref h_nb) (.ref h_nc)))), (h_nv, .inl (cy_nv, 8000, .inl f_nv)), (h_na, .inl (cy_na, 8000, .inl f_na)), (h_nb, .inl (cy_nb, 8000, .inl f_nb)), (h_nc, .inl (cy_nc, 8000, .inl f_nc))]) hP hD [3, 4, 5, 6, 7] [0, 1, 2] rfl rfl (by decide) (by decide) hk1 hFc hP1 hD1
            clear hP hD hS hPc hDc hKc hFc hP1 hD1 hk1 hz1 ht hvm
            have hP : va_P (dC, dI) cls [(h_let, .inl (cy_let, 256, .inl f_let)), (h_nn, .inl (cy_nn, 8000, .inr (.inl f_nn))), (h_wri, .inl (cy_wri, 1000, .inl f12)), (h_mm, .inr (8, (mo86 vq20 (.ref h_nv) (.ref h_na) (.ref h_nb) (.ref h_nc)))), (h_nv, .inl (cy_nv, 8000, .inl f_nv)), (h_na, .inl (cy_na, 8000, .inl f_na)), (h_nb, .inl (cy_nb, 8000, .inl f_nb)), (h_nc, .inl (cy_nc, 8000, .inl f_nc))] H := hP9
            have hD : va_D A [(h_let, .inl (cy_let, 256, .inl f_let)), (h_nn, .inl (cy_nn, 8000, .inr (.inl f_nn))), (h_wri, .inl (cy_wri, 1000, .inl f12)), (h_mm, .inr (8, (mo86 vq20 (.ref h_nv) (.ref h_na) (.ref h_nb) (.ref h_nc)))), (h_nv, .inl (cy_nv, 8000, .inl f_nv)), (h_na, .inl (cy_na, 8000, .inl f_na)), (h_nb, .inl (cy_nb, 8000, .inl f_nb)), (h_nc, .inl (cy_nc, 8000, .inl f_nc))] := hD9
            have hS := hS9
            clear hP9 hD9 hS9
            rw [evq20] at hP hD
            replace hP : va_P (dC, dI) cls [(h_let, .inl (cy_let, 256, .inl f_let)), (h_nn, .inl (cy_nn, 8000, .inr (.inl f_nn))), (h_wri, .inl (cy_wri, 1000, .inl f12)), (h_mm, .inr (8, (mo156 v_mm (.ref h_nv) (.ref h_nn) (.ref h_na) (.ref h_nb) (.ref h_nc) (.ref h_let) (.ref h_wri) (.int x11) (.int x_mm_room)))), (h_nv, .inl (cy_nv, 8000, .inl f_nv)), (h_na, .inl (cy_na, 8000, .inl f_na)), (h_nb, .inl (cy_nb, 8000, .inl f_nb)), (h_nc, .inl (cy_nc, 8000, .inl f_nc))] H := hP
            replace hD : va_D A [(h_let, .inl (cy_let, 256, .inl f_let)), (h_nn, .inl (cy_nn, 8000, .inr (.inl f_nn))), (h_wri, .inl (cy_wri, 1000, .inl f12)), (h_mm, .inr (8, (mo156 v_mm (.ref h_nv) (.ref h_nn) (.ref h_na) (.ref h_nb) (.ref h_nc) (.ref h_let) (.ref h_wri) (.int x11) (.int x_mm_room)))), (h_nv, .inl (cy_nv, 8000, .inl f_nv)), (h_na, .inl (cy_na, 8000, .inl f_na)), (h_nb, .inl (cy_nb, 8000, .inl f_nb)), (h_nc, .inl (cy_nc, 8000, .inl f_nc))] := hD
            clear evq20 
            obtain ⟨k22, k23⟩ := hq
            replace k22 : 0 ≤ (r21).toInt ∧ (r21).toInt ≤ 3 := k22
            replace k23 : ((r21)).toInt = (npx f_nv f_na f_nb f_nc ((p1)).toInt.toNat) := k23
            refine lv_if_le (tgt := 179) hx hb dX11_saysTerm_170 (by decide) (fun c24 => ?_) (fun c24 => ?_)
            · have kc24 := (cv_le (rfl : (r21).toInt = (r21).toInt) (by decide : (0 : Int32).toInt = 0)).mp c24
              replace hP : va_P (dC, dI) cls [(h_mm, .inr (8, (mo156 v_mm (.ref h_nv) (.ref h_nn) (.ref h_na) (.ref h_nb) (.ref h_nc) (.ref h_let) (.ref h_wri) (.int x11) (.int x_mm_room)))), (h_wri, .inl (cy_wri, 1000, .inl f12)), (h_let, .inl (cy_let, 256, .inl f_let)), (h_nv, .inl (cy_nv, 8000, .inl f_nv)), (h_nn, .inl (cy_nn, 8000, .inr (.inl f_nn))), (h_na, .inl (cy_na, 8000, .inl f_na)), (h_nb, .inl (cy_nb, 8000, .inl f_nb)), (h_nc, .inl (cy_nc, 8000, .inl f_nc))] H := hP.sub [3, 2, 0, 4, 1, 5, 6, 7] rfl
              replace hD : va_D A [(h_mm, .inr (8, (mo156 v_mm (.ref h_nv) (.ref h_nn) (.ref h_na) (.ref h_nb) (.ref h_nc) (.ref h_let) (.ref h_wri) (.int x11) (.int x_mm_room)))), (h_wri, .inl (cy_wri, 1000, .inl f12)), (h_let, .inl (cy_let, 256, .inl f_let)), (h_nv, .inl (cy_nv, 8000, .inl f_nv)), (h_nn, .inl (cy_nn, 8000, .inr (.inl f_nn))), (h_na, .inl (cy_na, 8000, .inl f_na)), (h_nb, .inl (cy_nb, 8000, .inl f_nb)), (h_nc, .inl (cy_nc, 8000, .inl f_nc))] := hD.sub [3, 2, 0, 4, 1, 5, 6, 7] (by decide) rfl
              refine W.widen (k := 0) (n := 0) (Nat.le_of_ble_eq_true rfl) (Nat.le_of_ble_eq_true rfl) ?_
              have w25 : 0 ≤ ((x11)).toInt ∧ ((x11)).toInt ≤ 1000 := by first | exact klp13_1 | omega
              exact W.vret hx hb hr (fun t ht hW => ⟨⟨(x11, f12), rfl, w25, by rw [ht]; exact hP, hD⟩, hS.F ht⟩) hS.2.2 dX11_saysTerm_179
            · have kc24 := (not_congr (cv_le (rfl : (r21).toInt = (r21).toInt) (by decide : (0 : Int32).toInt = 0))).mp c24
              refine lv_aload_n hx hb dX11_saysTerm_173 rfl (lv_at hl 0 rfl) ?_
              refine lv_bipush (v := 41) hx hb dX11_saysTerm_174 (by decide) ?_
              obtain ⟨vq26, evq26⟩ := mq156_118 v_mm (.ref h_nv) (.ref h_nn) (.ref h_na) (.ref h_nb) (.ref h_nc) (.ref h_let)
              replace hP : va_P (dC, dI) cls [(h_let, .inl (cy_let, 256, .inl f_let)), (h_nn, .inl (cy_nn, 8000, .inr (.inl f_nn))), (h_wri, .inl (cy_wri, 1000, .inl f12)), (h_mm, .inr (8, (mo118 vq26 (.ref h_wri) (.int x11) (.int x_mm_room)))), (h_nv, .inl (cy_nv, 8000, .inl f_nv)), (h_na, .inl (cy_na, 8000, .inl f_na)), (h_nb, .inl (cy_nb, 8000, .inl f_nb)), (h_nc, .inl (cy_nc, 8000, .inl f_nc))] H := by rw [evq26]; exact hP
              replace hD : va_D A [(h_let, .inl (cy_let, 256, .inl f_let)), (h_nn, .inl (cy_nn, 8000, .inr (.inl f_nn))), (h_wri, .inl (cy_wri, 1000, .inl f12)), (h_mm, .inr (8, (mo118 vq26 (.ref h_wri) (.int x11) (.int x_mm_room)))), (h_nv, .inl (cy_nv, 8000, .inl f_nv)), (h_na, .inl (cy_na, 8000, .inl f_na)), (h_nb, .inl (cy_nb, 8000, .inl f_nb)), (h_nc, .inl (cy_nc, 8000, .inl f_nc))] := by rw [evq26]; exact hD
              have cst41 : (41 : Int32).toInt = 41 := by decide
              have hPc := hP.sub (ws' := [(h_mm, .inr (8, (mo118 vq26 (.ref h_wri) (.int x11) (.int x_mm_room)))), (h_wri, .inl (cy_wri, 1000, .inl f12))]) [3, 2] rfl
              have hDc := hD.sub (ws' := [(h_mm, .inr (8, (mo118 vq26 (.ref h_wri) (.int x11) (.int x_mm_room)))), (h_wri, .inl (cy_wri, 1000, .inl f12))]) [3, 2] (by decide) rfl
              have hKc := hK.sub (tys' := [(cy_wri, .int)]) [0] rfl
              have hFc := va_free (wc := [(h_mm, .inr (8, (mo118 vq26 (.ref h_wri) (.int x11) (.int x_mm_room)))), (h_wri, .inl (cy_wri, 1000, .inl f12))]) hD hS hA [3, 2] rfl
              refine va_callv (va_runV (As := [.int 41]) (rest := []) ⟨hx, hb, hml, hown, hts⟩ (c_X11_says l dC dI H.size h_mm h_wri vq26 x11 x_mm_room cy_wri f12 41 (by first | exact klp13_1 | omega) (by first | exact hx_mm_room | omega)) (cwV 1 hts (gv hT w_m_X11_452 w_instanceMethod_X11_says ws_sel_X11_says w_ini_X11 w_code_X11_says) rfl rfl rfl (by decide +kernel) ⟨(by dsimp only [headSpec]; omega), (by dsimp only [headSpec]; omega)⟩) ⟨pre_blind, va_recv hK hP (ci := 8) (q0 := 3) rfl rfl, pre_of hPc hKc hDc hN⟩ rfl rfl hl.1 rfl (lv_room (Nat.le_of_ble_eq_true rfl)) dX11_saysTerm_176 ⟨(Nat.le_of_ble_eq_true rfl), (Nat.le_of_ble_eq_true rfl)⟩) hS (fun q _ h => hFc q h) hFc (fun u t H locs ht hvm hq hB hz1 hk1 hS9 => ?_)
              obtain ⟨z28, f29⟩ := u
              obtain ⟨hP1, hD1⟩ := hB
              rw [ht] at hP1
              obtain ⟨hP9, hD9⟩ := va_join (wr := [(h_let, .inl (cy_let, 256, .inl f_let)), (h_nn, .inl (cy_nn, 8000, .inr (.inl f_nn))), (h_nv, .inl (cy_nv, 8000, .inl f_nv)), (h_na, .inl (cy_na, 8000, .inl f_na)), (h_nb, .inl (cy_nb, 8000, .inl f_nb)), (h_nc, .inl (cy_nc, 8000, .inl f_nc))]) (w1 := [(h_mm, .inr (8, (mo118 vq26 (.ref h_wri) (.int z28) (.int x_mm_room)))), (h_wri, .inl (cy_wri, 1000, .inl f29))]) hP hD [3, 2] [0, 1, 4, 5, 6, 7] rfl rfl (by decide) (by decide) hk1 hFc hP1 hD1
              clear hP hD hS hPc hDc hKc hFc hP1 hD1 hk1 hz1 ht hvm
              have hP : va_P (dC, dI) cls [(h_let, .inl (cy_let, 256, .inl f_let)), (h_nn, .inl (cy_nn, 8000, .inr (.inl f_nn))), (h_nv, .inl (cy_nv, 8000, .inl f_nv)), (h_na, .inl (cy_na, 8000, .inl f_na)), (h_nb, .inl (cy_nb, 8000, .inl f_nb)), (h_nc, .inl (cy_nc, 8000, .inl f_nc)), (h_mm, .inr (8, (mo118 vq26 (.ref h_wri) (.int z28) (.int x_mm_room)))), (h_wri, .inl (cy_wri, 1000, .inl f29))] H := hP9
              have hD : va_D A [(h_let, .inl (cy_let, 256, .inl f_let)), (h_nn, .inl (cy_nn, 8000, .inr (.inl f_nn))), (h_nv, .inl (cy_nv, 8000, .inl f_nv)), (h_na, .inl (cy_na, 8000, .inl f_na)), (h_nb, .inl (cy_nb, 8000, .inl f_nb)), (h_nc, .inl (cy_nc, 8000, .inl f_nc)), (h_mm, .inr (8, (mo118 vq26 (.ref h_wri) (.int z28) (.int x_mm_room)))), (h_wri, .inl (cy_wri, 1000, .inl f29))] := hD9
              have hS := hS9
              clear hP9 hD9 hS9
              rw [evq26] at hP hD
              replace hP : va_P (dC, dI) cls [(h_let, .inl (cy_let, 256, .inl f_let)), (h_nn, .inl (cy_nn, 8000, .inr (.inl f_nn))), (h_nv, .inl (cy_nv, 8000, .inl f_nv)), (h_na, .inl (cy_na, 8000, .inl f_na)), (h_nb, .inl (cy_nb, 8000, .inl f_nb)), (h_nc, .inl (cy_nc, 8000, .inl f_nc)), (h_mm, .inr (8, (mo156 v_mm (.ref h_nv) (.ref h_nn) (.ref h_na) (.ref h_nb) (.ref h_nc) (.ref h_let) (.ref h_wri) (.int z28) (.int x_mm_room)))), (h_wri, .inl (cy_wri, 1000, .inl f29))] H := hP
              replace hD : va_D A [(h_let, .inl (cy_let, 256, .inl f_let)), (h_nn, .inl (cy_nn, 8000, .inr (.inl f_nn))), (h_nv, .inl (cy_nv, 8000, .inl f_nv)), (h_na, .inl (cy_na, 8000, .inl f_na)), (h_nb, .inl (cy_nb, 8000, .inl f_nb)), (h_nc, .inl (cy_nc, 8000, .inl f_nc)), (h_mm, .inr (8, (mo156 v_mm (.ref h_nv) (.ref h_nn) (.ref h_na) (.ref h_nb) (.ref h_nc) (.ref h_let) (.ref h_wri) (.int z28) (.int x_mm_room)))), (h_wri, .inl (cy_wri, 1000, .inl f29))] := hD
              clear evq26 
              obtain ⟨k30, k31⟩ := hq
              replace k30 : 0 ≤ ((z28)).toInt ∧ ((z28)).toInt ≤ 1000 := k30
              replace k31 : ((x11)).toInt ≤ ((z28)).toInt := k31
              replace hP : va_P (dC, dI) cls [(h_mm, .inr (8, (mo156 v_mm (.ref h_nv) (.ref h_nn) (.ref h_na) (.ref h_nb) (.ref h_nc) (.ref h_let) (.ref h_wri) (.int z28) (.int x_mm_room)))), (h_wri, .inl (cy_wri, 1000, .inl f29)), (h_let, .inl (cy_let, 256, .inl f_let)), (h_nv, .inl (cy_nv, 8000, .inl f_nv)), (h_nn, .inl (cy_nn, 8000, .inr (.inl f_nn))), (h_na, .inl (cy_na, 8000, .inl f_na)), (h_nb, .inl (cy_nb, 8000, .inl f_nb)), (h_nc, .inl (cy_nc, 8000, .inl f_nc))] H := hP.sub [6, 7, 0, 2, 1, 3, 4, 5] rfl
              replace hD : va_D A [(h_mm, .inr (8, (mo156 v_mm (.ref h_nv) (.ref h_nn) (.ref h_na) (.ref h_nb) (.ref h_nc) (.ref h_let) (.ref h_wri) (.int z28) (.int x_mm_room)))), (h_wri, .inl (cy_wri, 1000, .inl f29)), (h_let, .inl (cy_let, 256, .inl f_let)), (h_nv, .inl (cy_nv, 8000, .inl f_nv)), (h_nn, .inl (cy_nn, 8000, .inr (.inl f_nn))), (h_na, .inl (cy_na, 8000, .inl f_na)), (h_nb, .inl (cy_nb, 8000, .inl f_nb)), (h_nc, .inl (cy_nc, 8000, .inl f_nc))] := hD.sub [6, 7, 0, 2, 1, 3, 4, 5] (by decide) rfl
              refine W.widen (k := 0) (n := 0) (Nat.le_of_ble_eq_true rfl) (Nat.le_of_ble_eq_true rfl) ?_
              have w32 : 0 ≤ ((z28)).toInt ∧ ((z28)).toInt ≤ 1000 := by first | exact k30 | omega
              exact W.vret hx hb hr (fun t ht hW => ⟨⟨(z28, f29), rfl, w32, by rw [ht]; exact hP, hD⟩, hS.F ht⟩) hS.2.2 dX11_saysTerm_179
          · have kc19 := (not_congr (cv_le (rfl : (r16).toInt = (r16).toInt) (rfl : (x10).toInt = (x10).toInt))).mp c19
            refine lv_aload_n hx hb dX11_saysTerm_127 rfl (lv_at hl 0 rfl) ?_
            refine lv_iload hx hb dX11_saysTerm_128 (lv_at hl 6 rfl) ?_
            refine lv_if_ne (tgt := 138) hx hb dX11_saysTerm_130 (by decide) (fun c33 => ?_) (fun c33 => ?_)
            · have kc33 := (not_congr (cv_eq (rfl : (x10).toInt = (x10).toInt) (by decide : (0 : Int32).toInt = 0))).mp c33
              refine lv_bipush (v := 44) hx hb dX11_saysTerm_138 (by decide) ?_
              obtain ⟨vq34, evq34⟩ := mq156_118 v_mm (.ref h_nv) (.ref h_nn) (.ref h_na) (.ref h_nb) (.ref h_nc) (.ref h_let)
              replace hP : va_P (dC, dI) cls [(h_let, .inl (cy_let, 256, .inl f_let)), (h_nn, .inl (cy_nn, 8000, .inr (.inl f_nn))), (h_wri, .inl (cy_wri, 1000, .inl f12)), (h_mm, .inr (8, (mo118 vq34 (.ref h_wri) (.int x11) (.int x_mm_room)))), (h_nv, .inl (cy_nv, 8000, .inl f_nv)), (h_na, .inl (cy_na, 8000, .inl f_na)), (h_nb, .inl (cy_nb, 8000, .inl f_nb)), (h_nc, .inl (cy_nc, 8000, .inl f_nc))] H := by rw [evq34]; exact hP
              replace hD : va_D A [(h_let, .inl (cy_let, 256, .inl f_let)), (h_nn, .inl (cy_nn, 8000, .inr (.inl f_nn))), (h_wri, .inl (cy_wri, 1000, .inl f12)), (h_mm, .inr (8, (mo118 vq34 (.ref h_wri) (.int x11) (.int x_mm_room)))), (h_nv, .inl (cy_nv, 8000, .inl f_nv)), (h_na, .inl (cy_na, 8000, .inl f_na)), (h_nb, .inl (cy_nb, 8000, .inl f_nb)), (h_nc, .inl (cy_nc, 8000, .inl f_nc))] := by rw [evq34]; exact hD
              have cst44 : (44 : Int32).toInt = 44 := by decide
              have hPc := hP.sub (ws' := [(h_mm, .inr (8, (mo118 vq34 (.ref h_wri) (.int x11) (.int x_mm_room)))), (h_wri, .inl (cy_wri, 1000, .inl f12))]) [3, 2] rfl
              have hDc := hD.sub (ws' := [(h_mm, .inr (8, (mo118 vq34 (.ref h_wri) (.int x11) (.int x_mm_room)))), (h_wri, .inl (cy_wri, 1000, .inl f12))]) [3, 2] (by decide) rfl
              have hKc := hK.sub (tys' := [(cy_wri, .int)]) [0] rfl
              have hFc := va_free (wc := [(h_mm, .inr (8, (mo118 vq34 (.ref h_wri) (.int x11) (.int x_mm_room)))), (h_wri, .inl (cy_wri, 1000, .inl f12))]) hD hS hA [3, 2] rfl
              refine va_callv (va_runV (As := [.int 44]) (rest := []) ⟨hx, hb, hml, hown, hts⟩ (c_X11_says l dC dI H.size h_mm h_wri vq34 x11 x_mm_room cy_wri f12 44 (by first | exact klp13_1 | omega) (by first | exact hx_mm_room | omega)) (cwV 1 hts (gv hT w_m_X11_452 w_instanceMethod_X11_says ws_sel_X11_says w_ini_X11 w_code_X11_says) rfl rfl rfl (by decide +kernel) ⟨(by dsimp only [headSpec]; omega), (by dsimp only [headSpec]; omega)⟩) ⟨pre_blind, va_recv hK hP (ci := 8) (q0 := 3) rfl rfl, pre_of hPc hKc hDc hN⟩ rfl rfl hl.1 rfl (lv_room (Nat.le_of_ble_eq_true rfl)) dX11_saysTerm_140 ⟨(Nat.le_of_ble_eq_true rfl), (Nat.le_of_ble_eq_true rfl)⟩) hS (fun q _ h => hFc q h) hFc (fun u t H locs ht hvm hq hB hz1 hk1 hS9 => ?_)
              obtain ⟨z36, f37⟩ := u
              obtain ⟨hP1, hD1⟩ := hB
              rw [ht] at hP1
              obtain ⟨hP9, hD9⟩ := va_join (wr := [(h_let, .inl (cy_let, 256, .inl f_let)), (h_nn, .inl (cy_nn, 8000, .inr (.inl f_nn))), (h_nv, .inl (cy_nv, 8000, .inl f_nv)), (h_na, .inl (cy_na, 8000, .inl f_na)), (h_nb, .inl (cy_nb, 8000, .inl f_nb)), (h_nc, .inl (cy_nc, 8000, .inl f_nc))]) (w1 := [(h_mm, .inr (8, (mo118 vq34 (.ref h_wri) (.int z36) (.int x_mm_room)))), (h_wri, .inl (cy_wri, 1000, .inl f37))]) hP hD [3, 2] [0, 1, 4, 5, 6, 7] rfl rfl (by decide) (by decide) hk1 hFc hP1 hD1
              clear hP hD hS hPc hDc hKc hFc hP1 hD1 hk1 hz1 ht hvm
              have hP : va_P (dC, dI) cls [(h_let, .inl (cy_let, 256, .inl f_let)), (h_nn, .inl (cy_nn, 8000, .inr (.inl f_nn))), (h_nv, .inl (cy_nv, 8000, .inl f_nv)), (h_na, .inl (cy_na, 8000, .inl f_na)), (h_nb, .inl (cy_nb, 8000, .inl f_nb)), (h_nc, .inl (cy_nc, 8000, .inl f_nc)), (h_mm, .inr (8, (mo118 vq34 (.ref h_wri) (.int z36) (.int x_mm_room)))), (h_wri, .inl (cy_wri, 1000, .inl f37))] H := hP9
              have hD : va_D A [(h_let, .inl (cy_let, 256, .inl f_let)), (h_nn, .inl (cy_nn, 8000, .inr (.inl f_nn))), (h_nv, .inl (cy_nv, 8000, .inl f_nv)), (h_na, .inl (cy_na, 8000, .inl f_na)), (h_nb, .inl (cy_nb, 8000, .inl f_nb)), (h_nc, .inl (cy_nc, 8000, .inl f_nc)), (h_mm, .inr (8, (mo118 vq34 (.ref h_wri) (.int z36) (.int x_mm_room)))), (h_wri, .inl (cy_wri, 1000, .inl f37))] := hD9
              have hS := hS9
              clear hP9 hD9 hS9
              rw [evq34] at hP hD
              replace hP : va_P (dC, dI) cls [(h_let, .inl (cy_let, 256, .inl f_let)), (h_nn, .inl (cy_nn, 8000, .inr (.inl f_nn))), (h_nv, .inl (cy_nv, 8000, .inl f_nv)), (h_na, .inl (cy_na, 8000, .inl f_na)), (h_nb, .inl (cy_nb, 8000, .inl f_nb)), (h_nc, .inl (cy_nc, 8000, .inl f_nc)), (h_mm, .inr (8, (mo156 v_mm (.ref h_nv) (.ref h_nn) (.ref h_na) (.ref h_nb) (.ref h_nc) (.ref h_let) (.ref h_wri) (.int z36) (.int x_mm_room)))), (h_wri, .inl (cy_wri, 1000, .inl f37))] H := hP
              replace hD : va_D A [(h_let, .inl (cy_let, 256, .inl f_let)), (h_nn, .inl (cy_nn, 8000, .inr (.inl f_nn))), (h_nv, .inl (cy_nv, 8000, .inl f_nv)), (h_na, .inl (cy_na, 8000, .inl f_na)), (h_nb, .inl (cy_nb, 8000, .inl f_nb)), (h_nc, .inl (cy_nc, 8000, .inl f_nc)), (h_mm, .inr (8, (mo156 v_mm (.ref h_nv) (.ref h_nn) (.ref h_na) (.ref h_nb) (.ref h_nc) (.ref h_let) (.ref h_wri) (.int z36) (.int x_mm_room)))), (h_wri, .inl (cy_wri, 1000, .inl f37))] := hD
              clear evq34 
              obtain ⟨k38, k39⟩ := hq
              replace k38 : 0 ≤ ((z36)).toInt ∧ ((z36)).toInt ≤ 1000 := k38
              replace k39 : ((x11)).toInt ≤ ((z36)).toInt := k39
              refine lv_aload_n hx hb dX11_saysTerm_143 rfl (lv_at hl 0 rfl) ?_
              refine lv_aload_n hx hb dX11_saysTerm_144 rfl (lv_at hl 0 rfl) ?_
              refine lv_iload hx hb dX11_saysTerm_145 (lv_at hl 4 rfl) ?_
              refine lv_iload hx hb dX11_saysTerm_147 (lv_at hl 6 rfl) ?_
              obtain ⟨vq40, evq40⟩ := mq156_85 v_mm (.ref h_nv) (.ref h_nn) (.ref h_let) (.ref h_wri) (.int z36) (.int x_mm_room)
              replace hP : va_P (dC, dI) cls [(h_let, .inl (cy_let, 256, .inl f_let)), (h_nn, .inl (cy_nn, 8000, .inr (.inl f_nn))), (h_nv, .inl (cy_nv, 8000, .inl f_nv)), (h_na, .inl (cy_na, 8000, .inl f_na)), (h_nb, .inl (cy_nb, 8000, .inl f_nb)), (h_nc, .inl (cy_nc, 8000, .inl f_nc)), (h_mm, .inr (8, (mo85 vq40 (.ref h_na) (.ref h_nb) (.ref h_nc)))), (h_wri, .inl (cy_wri, 1000, .inl f37))] H := by rw [evq40]; exact hP
              replace hD : va_D A [(h_let, .inl (cy_let, 256, .inl f_let)), (h_nn, .inl (cy_nn, 8000, .inr (.inl f_nn))), (h_nv, .inl (cy_nv, 8000, .inl f_nv)), (h_na, .inl (cy_na, 8000, .inl f_na)), (h_nb, .inl (cy_nb, 8000, .inl f_nb)), (h_nc, .inl (cy_nc, 8000, .inl f_nc)), (h_mm, .inr (8, (mo85 vq40 (.ref h_na) (.ref h_nb) (.ref h_nc)))), (h_wri, .inl (cy_wri, 1000, .inl f37))] := by rw [evq40]; exact hD
              have hPc := hP.sub (ws' := [(h_mm, .inr (8, (mo85 vq40 (.ref h_na) (.ref h_nb) (.ref h_nc)))), (h_na, .inl (cy_na, 8000, .inl f_na)), (h_nb, .inl (cy_nb, 8000, .inl f_nb)), (h_nc, .inl (cy_nc, 8000, .inl f_nc))]) [6, 3, 4, 5] rfl
              have hDc := hD.sub (ws' := [(h_mm, .inr (8, (mo85 vq40 (.ref h_na) (.ref h_nb) (.ref h_nc)))), (h_na, .inl (cy_na, 8000, .inl f_na)), (h_nb, .inl (cy_nb, 8000, .inl f_nb)), (h_nc, .inl (cy_nc, 8000, .inl f_nc))]) [6, 3, 4, 5] (by decide) rfl
              have hKc := hK.sub (tys' := [(cy_na, .int), (cy_nb, .int), (cy_nc, .int)]) [4, 5, 6] rfl
              have hFc := va_free (wc := [(h_mm, .inr (8, (mo85 vq40 (.ref h_na) (.ref h_nb) (.ref h_nc)))), (h_na, .inl (cy_na, 8000, .inl f_na)), (h_nb, .inl (cy_nb, 8000, .inl f_nb)), (h_nc, .inl (cy_nc, 8000, .inl f_nc))]) hD hS hA [6, 3, 4, 5] rfl
              refine va_calli (va_runV (As := [.int p1, .int x10]) (rest := [.ref h_mm]) ⟨hx, hb, hml, hown, hts⟩ (c_X11_part_e l dC dI H.size h_mm h_na h_nb h_nc vq40 cy_na f_na cy_nb f_nb cy_nc f_nc p1 x10 hf_na hf_nb hf_nc (by omega)) (cwV 2 hts (gv hT w_m_X11_31 w_instanceMethod_X11_part ws_sel_X11_part w_ini_X11 w_code_X11_part) rfl rfl rfl (by decide +kernel) ⟨(by dsimp only [headSpec]; omega), (by dsimp only [headSpec]; omega)⟩) ⟨pre_blind, va_recv hK hP (ci := 8) (q0 := 6) rfl rfl, pre_of hPc hKc hDc hN⟩ rfl rfl hl.1 rfl (lv_room (Nat.le_of_ble_eq_true rfl)) dX11_saysTerm_149 ⟨(Nat.le_of_ble_eq_true rfl), (Nat.le_of_ble_eq_true rfl)⟩) hS (fun q _ h => hFc q h) hFc (fun r41 u t H locs ht hvm hq hB hz1 hk1 hS9 => ?_)
              obtain ⟨hP1, hD1⟩ := hB
              rw [ht] at hP1
              obtain ⟨hP9, hD9⟩ := va_join (wr := [(h_let, .inl (cy_let, 256, .inl f_let)), (h_nn, .inl (cy_nn, 8000, .inr (.inl f_nn))), (h_nv, .inl (cy_nv, 8000, .inl f_nv)), (h_wri, .inl (cy_wri, 1000, .inl f37))]) (w1 := [(h_mm, .inr (8, (mo85 vq40 (.ref h_na) (.ref h_nb) (.ref h_nc)))), (h_na, .inl (cy_na, 8000, .inl f_na)), (h_nb, .inl (cy_nb, 8000, .inl f_nb)), (h_nc, .inl (cy_nc, 8000, .inl f_nc))]) hP hD [6, 3, 4, 5] [0, 1, 2, 7] rfl rfl (by decide) (by decide) hk1 hFc hP1 hD1
              clear hP hD hS hPc hDc hKc hFc hP1 hD1 hk1 hz1 ht hvm
              have hP : va_P (dC, dI) cls [(h_let, .inl (cy_let, 256, .inl f_let)), (h_nn, .inl (cy_nn, 8000, .inr (.inl f_nn))), (h_nv, .inl (cy_nv, 8000, .inl f_nv)), (h_wri, .inl (cy_wri, 1000, .inl f37)), (h_mm, .inr (8, (mo85 vq40 (.ref h_na) (.ref h_nb) (.ref h_nc)))), (h_na, .inl (cy_na, 8000, .inl f_na)), (h_nb, .inl (cy_nb, 8000, .inl f_nb)), (h_nc, .inl (cy_nc, 8000, .inl f_nc))] H := hP9
              have hD : va_D A [(h_let, .inl (cy_let, 256, .inl f_let)), (h_nn, .inl (cy_nn, 8000, .inr (.inl f_nn))), (h_nv, .inl (cy_nv, 8000, .inl f_nv)), (h_wri, .inl (cy_wri, 1000, .inl f37)), (h_mm, .inr (8, (mo85 vq40 (.ref h_na) (.ref h_nb) (.ref h_nc)))), (h_na, .inl (cy_na, 8000, .inl f_na)), (h_nb, .inl (cy_nb, 8000, .inl f_nb)), (h_nc, .inl (cy_nc, 8000, .inl f_nc))] := hD9
              have hS := hS9
              clear hP9 hD9 hS9
              rw [evq40] at hP hD
              replace hP : va_P (dC, dI) cls [(h_let, .inl (cy_let, 256, .inl f_let)), (h_nn, .inl (cy_nn, 8000, .inr (.inl f_nn))), (h_nv, .inl (cy_nv, 8000, .inl f_nv)), (h_wri, .inl (cy_wri, 1000, .inl f37)), (h_mm, .inr (8, (mo156 v_mm (.ref h_nv) (.ref h_nn) (.ref h_na) (.ref h_nb) (.ref h_nc) (.ref h_let) (.ref h_wri) (.int z36) (.int x_mm_room)))), (h_na, .inl (cy_na, 8000, .inl f_na)), (h_nb, .inl (cy_nb, 8000, .inl f_nb)), (h_nc, .inl (cy_nc, 8000, .inl f_nc))] H := hP
              replace hD : va_D A [(h_let, .inl (cy_let, 256, .inl f_let)), (h_nn, .inl (cy_nn, 8000, .inr (.inl f_nn))), (h_nv, .inl (cy_nv, 8000, .inl f_nv)), (h_wri, .inl (cy_wri, 1000, .inl f37)), (h_mm, .inr (8, (mo156 v_mm (.ref h_nv) (.ref h_nn) (.ref h_na) (.ref h_nb) (.ref h_nc) (.ref h_let) (.ref h_wri) (.int z36) (.int x_mm_room)))), (h_na, .inl (cy_na, 8000, .inl f_na)), (h_nb, .inl (cy_nb, 8000, .inl f_nb)), (h_nc, .inl (cy_nc, 8000, .inl f_nc))] := hD
              clear evq40 
              obtain ⟨k42, k43⟩ := hq
              replace k42 : -1 ≤ (r41).toInt ∧ (r41).toInt ≤ 7999 := k42
              replace k43 : ((r41)).toInt = (ptx f_na f_nb f_nc ((p1)).toInt.toNat ((x10)).toInt).toInt := k43
              have ch9 := ch_ok (nv := f_nv) (k := (x10).toInt) (x := (p1).toInt.toNat) hn_nds (by omega) (by omega)
              rw [← Int32.toInt_inj.mp (show (r41).toInt = (ptx f_na f_nb f_nc (p1).toInt.toNat (x10).toInt).toInt by omega)] at ch9
              refine lv_iload hx hb dX11_saysTerm_152 (lv_at hl 5 rfl) ?_
              refine lv_iload_n hx hb dX11_saysTerm_154 rfl (lv_at hl 3 rfl) ?_
              have cstm1 : ((-1) : Int32).toInt = -1 := by decide
              have hPc := hP.sub (ws' := [(h_mm, .inr (8, (mo156 v_mm (.ref h_nv) (.ref h_nn) (.ref h_na) (.ref h_nb) (.ref h_nc) (.ref h_let) (.ref h_wri) (.int z36) (.int x_mm_room)))), (h_wri, .inl (cy_wri, 1000, .inl f37)), (h_let, .inl (cy_let, 256, .inl f_let)), (h_nv, .inl (cy_nv, 8000, .inl f_nv)), (h_nn, .inl (cy_nn, 8000, .inr (.inl f_nn))), (h_na, .inl (cy_na, 8000, .inl f_na)), (h_nb, .inl (cy_nb, 8000, .inl f_nb)), (h_nc, .inl (cy_nc, 8000, .inl f_nc))]) [4, 3, 0, 2, 1, 5, 6, 7] rfl
              have hDc := hD.sub (ws' := [(h_mm, .inr (8, (mo156 v_mm (.ref h_nv) (.ref h_nn) (.ref h_na) (.ref h_nb) (.ref h_nc) (.ref h_let) (.ref h_wri) (.int z36) (.int x_mm_room)))), (h_wri, .inl (cy_wri, 1000, .inl f37)), (h_let, .inl (cy_let, 256, .inl f_let)), (h_nv, .inl (cy_nv, 8000, .inl f_nv)), (h_nn, .inl (cy_nn, 8000, .inr (.inl f_nn))), (h_na, .inl (cy_na, 8000, .inl f_na)), (h_nb, .inl (cy_nb, 8000, .inl f_nb)), (h_nc, .inl (cy_nc, 8000, .inl f_nc))]) [4, 3, 0, 2, 1, 5, 6, 7] (by decide) rfl
              have hKc := hK.sub (tys' := [(cy_wri, .int), (cy_let, .int), (cy_nv, .int), (cy_nn, .long), (cy_na, .int), (cy_nb, .int), (cy_nc, .int)]) [0, 1, 2, 3, 4, 5, 6] rfl
              have hFc := va_free (wc := [(h_mm, .inr (8, (mo156 v_mm (.ref h_nv) (.ref h_nn) (.ref h_na) (.ref h_nb) (.ref h_nc) (.ref h_let) (.ref h_wri) (.int z36) (.int x_mm_room)))), (h_wri, .inl (cy_wri, 1000, .inl f37)), (h_let, .inl (cy_let, 256, .inl f_let)), (h_nv, .inl (cy_nv, 8000, .inl f_nv)), (h_nn, .inl (cy_nn, 8000, .inr (.inl f_nn))), (h_na, .inl (cy_na, 8000, .inl f_na)), (h_nb, .inl (cy_nb, 8000, .inl f_nb)), (h_nc, .inl (cy_nc, 8000, .inl f_nc))]) hD hS hA [4, 3, 0, 2, 1, 5, 6, 7] rfl
              refine va_callv (va_runV (As := [.int r41, .int (-1), .int p3]) (rest := []) ⟨hx, hb, hml, hown, hts⟩ (ihf dC dI H.size h_mm h_wri h_let h_nv h_nn h_na h_nb h_nc v_mm z36 x_mm_room cy_wri f37 cy_let f_let cy_nv f_nv cy_nn f_nn cy_na f_na cy_nb f_nb cy_nc f_nc r41 p3 N hz (by first | exact k38 | omega) (by first | exact hx_mm_room | omega) hf_nv hf_na hf_nb hf_nc (by omega) (by first | exact q1 | omega) (by first | exact q2 | omega) (by omega) hn_nds) (cwV 3 hts (gv hT w_m_X11_459 w_instanceMethod_X11_saysTerm ws_sel_X11_saysTerm w_ini_X11 w_code_X11_saysTerm) rfl rfl rfl (by decide +kernel) ⟨(by dsimp only [headSpec]; omega), (by dsimp only [headSpec]; omega)⟩) ⟨pre_blind, va_recv hK hP (ci := 8) (q0 := 4) rfl rfl, pre_of hPc hKc hDc hN⟩ rfl rfl hl.1 rfl (lv_room (Nat.le_of_ble_eq_true rfl)) dX11_saysTerm_155 ⟨(Nat.le_of_ble_eq_true rfl), (Nat.le_of_ble_eq_true rfl)⟩) hS (fun q _ h => hFc q h) hFc (fun u t H locs ht hvm hq hB hz1 hk1 hS9 => ?_)
              obtain ⟨z45, f46⟩ := u
              obtain ⟨hP1, hD1⟩ := hB
              rw [ht] at hP1
              obtain ⟨hP9, hD9⟩ := va_join (wr := []) (w1 := [(h_mm, .inr (8, (mo156 v_mm (.ref h_nv) (.ref h_nn) (.ref h_na) (.ref h_nb) (.ref h_nc) (.ref h_let) (.ref h_wri) (.int z45) (.int x_mm_room)))), (h_wri, .inl (cy_wri, 1000, .inl f46)), (h_let, .inl (cy_let, 256, .inl f_let)), (h_nv, .inl (cy_nv, 8000, .inl f_nv)), (h_nn, .inl (cy_nn, 8000, .inr (.inl f_nn))), (h_na, .inl (cy_na, 8000, .inl f_na)), (h_nb, .inl (cy_nb, 8000, .inl f_nb)), (h_nc, .inl (cy_nc, 8000, .inl f_nc))]) hP hD [4, 3, 0, 2, 1, 5, 6, 7] [] rfl rfl (by decide) (by decide) hk1 hFc hP1 hD1
              clear hP hD hS hPc hDc hKc hFc hP1 hD1 hk1 hz1 ht hvm
              have hP : va_P (dC, dI) cls [(h_mm, .inr (8, (mo156 v_mm (.ref h_nv) (.ref h_nn) (.ref h_na) (.ref h_nb) (.ref h_nc) (.ref h_let) (.ref h_wri) (.int z45) (.int x_mm_room)))), (h_wri, .inl (cy_wri, 1000, .inl f46)), (h_let, .inl (cy_let, 256, .inl f_let)), (h_nv, .inl (cy_nv, 8000, .inl f_nv)), (h_nn, .inl (cy_nn, 8000, .inr (.inl f_nn))), (h_na, .inl (cy_na, 8000, .inl f_na)), (h_nb, .inl (cy_nb, 8000, .inl f_nb)), (h_nc, .inl (cy_nc, 8000, .inl f_nc))] H := hP9
              have hD : va_D A [(h_mm, .inr (8, (mo156 v_mm (.ref h_nv) (.ref h_nn) (.ref h_na) (.ref h_nb) (.ref h_nc) (.ref h_let) (.ref h_wri) (.int z45) (.int x_mm_room)))), (h_wri, .inl (cy_wri, 1000, .inl f46)), (h_let, .inl (cy_let, 256, .inl f_let)), (h_nv, .inl (cy_nv, 8000, .inl f_nv)), (h_nn, .inl (cy_nn, 8000, .inr (.inl f_nn))), (h_na, .inl (cy_na, 8000, .inl f_na)), (h_nb, .inl (cy_nb, 8000, .inl f_nb)), (h_nc, .inl (cy_nc, 8000, .inl f_nc))] := hD9
              have hS := hS9
              clear hP9 hD9 hS9
              have k47 : 0 ≤ ((z45)).toInt ∧ ((z45)).toInt ≤ 1000 := hq
              clear hq
              obtain ⟨z48, ez48⟩ : ∃ y : Int32, y = x10 + 1 := ⟨_, rfl⟩
              have tz48 : (z48).toInt = (x10).toInt + 1 := by rw [ez48]; exact i_add rfl (by decide) (by omega)
              refine lv_iinc (v := z48) (lv' := [(6, .int z48), (0, .ref h_mm), (1, .int p1), (2, .int (-1)), (3, .int p3), (4, .int p1), (5, .int (-1))]) hx hb dX11_saysTerm_158 hl (k := 6) rfl (by rw [ez48]; rfl) (by decide) rfl (fun ls hl => ?_)
              refine lv_goto (tgt := 116) hx hb dX11_saysTerm_161 (by decide) ?_
              replace hP : va_P (dC, dI) cls [(h_let, .inl (cy_let, 256, .inl f_let)), (h_nv, .inl (cy_nv, 8000, .inl f_nv)), (h_nn, .inl (cy_nn, 8000, .inr (.inl f_nn))), (h_na, .inl (cy_na, 8000, .inl f_na)), (h_nb, .inl (cy_nb, 8000, .inl f_nb)), (h_nc, .inl (cy_nc, 8000, .inl f_nc)), (h_mm, .inr (8, (mo156 v_mm (.ref h_nv) (.ref h_nn) (.ref h_na) (.ref h_nb) (.ref h_nc) (.ref h_let) (.ref h_wri) (.int z45) (.int x_mm_room)))), (h_wri, .inl (cy_wri, 1000, .inl f46))] H := hP.sub [2, 3, 4, 5, 6, 7, 0, 1] rfl
              replace hD : va_D A [(h_let, .inl (cy_let, 256, .inl f_let)), (h_nv, .inl (cy_nv, 8000, .inl f_nv)), (h_nn, .inl (cy_nn, 8000, .inr (.inl f_nn))), (h_na, .inl (cy_na, 8000, .inl f_na)), (h_nb, .inl (cy_nb, 8000, .inl f_nb)), (h_nc, .inl (cy_nc, 8000, .inl f_nc)), (h_mm, .inr (8, (mo156 v_mm (.ref h_nv) (.ref h_nn) (.ref h_na) (.ref h_nb) (.ref h_nc) (.ref h_let) (.ref h_wri) (.int z45) (.int x_mm_room)))), (h_wri, .inl (cy_wri, 1000, .inl f46))] := hD.sub [2, 3, 4, 5, 6, 7, 0, 1] (by decide) rfl
              exact ih14 (z48) (z45) (f46) _ _ _ (by omega) (by first | exact k47 | omega) (by omega) hP hD hS (lv_sub hl [1, 2, 3, 4, 5, 6, 0] rfl)
            · have kc33 := (cv_eq (rfl : (x10).toInt = (x10).toInt) (by decide : (0 : Int32).toInt = 0)).mp c33
              refine lv_bipush (v := 40) hx hb dX11_saysTerm_133 (by decide) ?_
              refine lv_goto (tgt := 140) hx hb dX11_saysTerm_135 (by decide) ?_
              obtain ⟨vq49, evq49⟩ := mq156_118 v_mm (.ref h_nv) (.ref h_nn) (.ref h_na) (.ref h_nb) (.ref h_nc) (.ref h_let)
              replace hP : va_P (dC, dI) cls [(h_let, .inl (cy_let, 256, .inl f_let)), (h_nn, .inl (cy_nn, 8000, .inr (.inl f_nn))), (h_wri, .inl (cy_wri, 1000, .inl f12)), (h_mm, .inr (8, (mo118 vq49 (.ref h_wri) (.int x11) (.int x_mm_room)))), (h_nv, .inl (cy_nv, 8000, .inl f_nv)), (h_na, .inl (cy_na, 8000, .inl f_na)), (h_nb, .inl (cy_nb, 8000, .inl f_nb)), (h_nc, .inl (cy_nc, 8000, .inl f_nc))] H := by rw [evq49]; exact hP
              replace hD : va_D A [(h_let, .inl (cy_let, 256, .inl f_let)), (h_nn, .inl (cy_nn, 8000, .inr (.inl f_nn))), (h_wri, .inl (cy_wri, 1000, .inl f12)), (h_mm, .inr (8, (mo118 vq49 (.ref h_wri) (.int x11) (.int x_mm_room)))), (h_nv, .inl (cy_nv, 8000, .inl f_nv)), (h_na, .inl (cy_na, 8000, .inl f_na)), (h_nb, .inl (cy_nb, 8000, .inl f_nb)), (h_nc, .inl (cy_nc, 8000, .inl f_nc))] := by rw [evq49]; exact hD
              have cst40 : (40 : Int32).toInt = 40 := by decide
              have hPc := hP.sub (ws' := [(h_mm, .inr (8, (mo118 vq49 (.ref h_wri) (.int x11) (.int x_mm_room)))), (h_wri, .inl (cy_wri, 1000, .inl f12))]) [3, 2] rfl
              have hDc := hD.sub (ws' := [(h_mm, .inr (8, (mo118 vq49 (.ref h_wri) (.int x11) (.int x_mm_room)))), (h_wri, .inl (cy_wri, 1000, .inl f12))]) [3, 2] (by decide) rfl
              have hKc := hK.sub (tys' := [(cy_wri, .int)]) [0] rfl
              have hFc := va_free (wc := [(h_mm, .inr (8, (mo118 vq49 (.ref h_wri) (.int x11) (.int x_mm_room)))), (h_wri, .inl (cy_wri, 1000, .inl f12))]) hD hS hA [3, 2] rfl
              refine va_callv (va_runV (As := [.int 40]) (rest := []) ⟨hx, hb, hml, hown, hts⟩ (c_X11_says l dC dI H.size h_mm h_wri vq49 x11 x_mm_room cy_wri f12 40 (by first | exact klp13_1 | omega) (by first | exact hx_mm_room | omega)) (cwV 1 hts (gv hT w_m_X11_452 w_instanceMethod_X11_says ws_sel_X11_says w_ini_X11 w_code_X11_says) rfl rfl rfl (by decide +kernel) ⟨(by dsimp only [headSpec]; omega), (by dsimp only [headSpec]; omega)⟩) ⟨pre_blind, va_recv hK hP (ci := 8) (q0 := 3) rfl rfl, pre_of hPc hKc hDc hN⟩ rfl rfl hl.1 rfl (lv_room (Nat.le_of_ble_eq_true rfl)) dX11_saysTerm_140 ⟨(Nat.le_of_ble_eq_true rfl), (Nat.le_of_ble_eq_true rfl)⟩) hS (fun q _ h => hFc q h) hFc (fun u t H locs ht hvm hq hB hz1 hk1 hS9 => ?_)
              obtain ⟨z51, f52⟩ := u
              obtain ⟨hP1, hD1⟩ := hB
              rw [ht] at hP1
              obtain ⟨hP9, hD9⟩ := va_join (wr := [(h_let, .inl (cy_let, 256, .inl f_let)), (h_nn, .inl (cy_nn, 8000, .inr (.inl f_nn))), (h_nv, .inl (cy_nv, 8000, .inl f_nv)), (h_na, .inl (cy_na, 8000, .inl f_na)), (h_nb, .inl (cy_nb, 8000, .inl f_nb)), (h_nc, .inl (cy_nc, 8000, .inl f_nc))]) (w1 := [(h_mm, .inr (8, (mo118 vq49 (.ref h_wri) (.int z51) (.int x_mm_room)))), (h_wri, .inl (cy_wri, 1000, .inl f52))]) hP hD [3, 2] [0, 1, 4, 5, 6, 7] rfl rfl (by decide) (by decide) hk1 hFc hP1 hD1
              clear hP hD hS hPc hDc hKc hFc hP1 hD1 hk1 hz1 ht hvm
              have hP : va_P (dC, dI) cls [(h_let, .inl (cy_let, 256, .inl f_let)), (h_nn, .inl (cy_nn, 8000, .inr (.inl f_nn))), (h_nv, .inl (cy_nv, 8000, .inl f_nv)), (h_na, .inl (cy_na, 8000, .inl f_na)), (h_nb, .inl (cy_nb, 8000, .inl f_nb)), (h_nc, .inl (cy_nc, 8000, .inl f_nc)), (h_mm, .inr (8, (mo118 vq49 (.ref h_wri) (.int z51) (.int x_mm_room)))), (h_wri, .inl (cy_wri, 1000, .inl f52))] H := hP9
              have hD : va_D A [(h_let, .inl (cy_let, 256, .inl f_let)), (h_nn, .inl (cy_nn, 8000, .inr (.inl f_nn))), (h_nv, .inl (cy_nv, 8000, .inl f_nv)), (h_na, .inl (cy_na, 8000, .inl f_na)), (h_nb, .inl (cy_nb, 8000, .inl f_nb)), (h_nc, .inl (cy_nc, 8000, .inl f_nc)), (h_mm, .inr (8, (mo118 vq49 (.ref h_wri) (.int z51) (.int x_mm_room)))), (h_wri, .inl (cy_wri, 1000, .inl f52))] := hD9
              have hS := hS9
              clear hP9 hD9 hS9
              rw [evq49] at hP hD
              replace hP : va_P (dC, dI) cls [(h_let, .inl (cy_let, 256, .inl f_let)), (h_nn, .inl (cy_nn, 8000, .inr (.inl f_nn))), (h_nv, .inl (cy_nv, 8000, .inl f_nv)), (h_na, .inl (cy_na, 8000, .inl f_na)), (h_nb, .inl (cy_nb, 8000, .inl f_nb)), (h_nc, .inl (cy_nc, 8000, .inl f_nc)), (h_mm, .inr (8, (mo156 v_mm (.ref h_nv) (.ref h_nn) (.ref h_na) (.ref h_nb) (.ref h_nc) (.ref h_let) (.ref h_wri) (.int z51) (.int x_mm_room)))), (h_wri, .inl (cy_wri, 1000, .inl f52))] H := hP
              replace hD : va_D A [(h_let, .inl (cy_let, 256, .inl f_let)), (h_nn, .inl (cy_nn, 8000, .inr (.inl f_nn))), (h_nv, .inl (cy_nv, 8000, .inl f_nv)), (h_na, .inl (cy_na, 8000, .inl f_na)), (h_nb, .inl (cy_nb, 8000, .inl f_nb)), (h_nc, .inl (cy_nc, 8000, .inl f_nc)), (h_mm, .inr (8, (mo156 v_mm (.ref h_nv) (.ref h_nn) (.ref h_na) (.ref h_nb) (.ref h_nc) (.ref h_let) (.ref h_wri) (.int z51) (.int x_mm_room)))), (h_wri, .inl (cy_wri, 1000, .inl f52))] := hD
              clear evq49 
              obtain ⟨k53, k54⟩ := hq
              replace k53 : 0 ≤ ((z51)).toInt ∧ ((z51)).toInt ≤ 1000 := k53
              replace k54 : ((x11)).toInt ≤ ((z51)).toInt := k54
              refine lv_aload_n hx hb dX11_saysTerm_143 rfl (lv_at hl 0 rfl) ?_
              refine lv_aload_n hx hb dX11_saysTerm_144 rfl (lv_at hl 0 rfl) ?_
              refine lv_iload hx hb dX11_saysTerm_145 (lv_at hl 4 rfl) ?_
              refine lv_iload hx hb dX11_saysTerm_147 (lv_at hl 6 rfl) ?_
              obtain ⟨vq55, evq55⟩ := mq156_85 v_mm (.ref h_nv) (.ref h_nn) (.ref h_let) (.ref h_wri) (.int z51) (.int x_mm_room)
              replace hP : va_P (dC, dI) cls [(h_let, .inl (cy_let, 256, .inl f_let)), (h_nn, .inl (cy_nn, 8000, .inr (.inl f_nn))), (h_nv, .inl (cy_nv, 8000, .inl f_nv)), (h_na, .inl (cy_na, 8000, .inl f_na)), (h_nb, .inl (cy_nb, 8000, .inl f_nb)), (h_nc, .inl (cy_nc, 8000, .inl f_nc)), (h_mm, .inr (8, (mo85 vq55 (.ref h_na) (.ref h_nb) (.ref h_nc)))), (h_wri, .inl (cy_wri, 1000, .inl f52))] H := by rw [evq55]; exact hP
              replace hD : va_D A [(h_let, .inl (cy_let, 256, .inl f_let)), (h_nn, .inl (cy_nn, 8000, .inr (.inl f_nn))), (h_nv, .inl (cy_nv, 8000, .inl f_nv)), (h_na, .inl (cy_na, 8000, .inl f_na)), (h_nb, .inl (cy_nb, 8000, .inl f_nb)), (h_nc, .inl (cy_nc, 8000, .inl f_nc)), (h_mm, .inr (8, (mo85 vq55 (.ref h_na) (.ref h_nb) (.ref h_nc)))), (h_wri, .inl (cy_wri, 1000, .inl f52))] := by rw [evq55]; exact hD
              have hPc := hP.sub (ws' := [(h_mm, .inr (8, (mo85 vq55 (.ref h_na) (.ref h_nb) (.ref h_nc)))), (h_na, .inl (cy_na, 8000, .inl f_na)), (h_nb, .inl (cy_nb, 8000, .inl f_nb)), (h_nc, .inl (cy_nc, 8000, .inl f_nc))]) [6, 3, 4, 5] rfl
              have hDc := hD.sub (ws' := [(h_mm, .inr (8, (mo85 vq55 (.ref h_na) (.ref h_nb) (.ref h_nc)))), (h_na, .inl (cy_na, 8000, .inl f_na)), (h_nb, .inl (cy_nb, 8000, .inl f_nb)), (h_nc, .inl (cy_nc, 8000, .inl f_nc))]) [6, 3, 4, 5] (by decide) rfl
              have hKc := hK.sub (tys' := [(cy_na, .int), (cy_nb, .int), (cy_nc, .int)]) [4, 5, 6] rfl
              have hFc := va_free (wc := [(h_mm, .inr (8, (mo85 vq55 (.ref h_na) (.ref h_nb) (.ref h_nc)))), (h_na, .inl (cy_na, 8000, .inl f_na)), (h_nb, .inl (cy_nb, 8000, .inl f_nb)), (h_nc, .inl (cy_nc, 8000, .inl f_nc))]) hD hS hA [6, 3, 4, 5] rfl
              refine va_calli (va_runV (As := [.int p1, .int x10]) (rest := [.ref h_mm]) ⟨hx, hb, hml, hown, hts⟩ (c_X11_part_e l dC dI H.size h_mm h_na h_nb h_nc vq55 cy_na f_na cy_nb f_nb cy_nc f_nc p1 x10 hf_na hf_nb hf_nc (by omega)) (cwV 2 hts (gv hT w_m_X11_31 w_instanceMethod_X11_part ws_sel_X11_part w_ini_X11 w_code_X11_part) rfl rfl rfl (by decide +kernel) ⟨(by dsimp only [headSpec]; omega), (by dsimp only [headSpec]; omega)⟩) ⟨pre_blind, va_recv hK hP (ci := 8) (q0 := 6) rfl rfl, pre_of hPc hKc hDc hN⟩ rfl rfl hl.1 rfl (lv_room (Nat.le_of_ble_eq_true rfl)) dX11_saysTerm_149 ⟨(Nat.le_of_ble_eq_true rfl), (Nat.le_of_ble_eq_true rfl)⟩) hS (fun q _ h => hFc q h) hFc (fun r56 u t H locs ht hvm hq hB hz1 hk1 hS9 => ?_)
              obtain ⟨hP1, hD1⟩ := hB
              rw [ht] at hP1
              obtain ⟨hP9, hD9⟩ := va_join (wr := [(h_let, .inl (cy_let, 256, .inl f_let)), (h_nn, .inl (cy_nn, 8000, .inr (.inl f_nn))), (h_nv, .inl (cy_nv, 8000, .inl f_nv)), (h_wri, .inl (cy_wri, 1000, .inl f52))]) (w1 := [(h_mm, .inr (8, (mo85 vq55 (.ref h_na) (.ref h_nb) (.ref h_nc)))), (h_na, .inl (cy_na, 8000, .inl f_na)), (h_nb, .inl (cy_nb, 8000, .inl f_nb)), (h_nc, .inl (cy_nc, 8000, .inl f_nc))]) hP hD [6, 3, 4, 5] [0, 1, 2, 7] rfl rfl (by decide) (by decide) hk1 hFc hP1 hD1
              clear hP hD hS hPc hDc hKc hFc hP1 hD1 hk1 hz1 ht hvm
              have hP : va_P (dC, dI) cls [(h_let, .inl (cy_let, 256, .inl f_let)), (h_nn, .inl (cy_nn, 8000, .inr (.inl f_nn))), (h_nv, .inl (cy_nv, 8000, .inl f_nv)), (h_wri, .inl (cy_wri, 1000, .inl f52)), (h_mm, .inr (8, (mo85 vq55 (.ref h_na) (.ref h_nb) (.ref h_nc)))), (h_na, .inl (cy_na, 8000, .inl f_na)), (h_nb, .inl (cy_nb, 8000, .inl f_nb)), (h_nc, .inl (cy_nc, 8000, .inl f_nc))] H := hP9
              have hD : va_D A [(h_let, .inl (cy_let, 256, .inl f_let)), (h_nn, .inl (cy_nn, 8000, .inr (.inl f_nn))), (h_nv, .inl (cy_nv, 8000, .inl f_nv)), (h_wri, .inl (cy_wri, 1000, .inl f52)), (h_mm, .inr (8, (mo85 vq55 (.ref h_na) (.ref h_nb) (.ref h_nc)))), (h_na, .inl (cy_na, 8000, .inl f_na)), (h_nb, .inl (cy_nb, 8000, .inl f_nb)), (h_nc, .inl (cy_nc, 8000, .inl f_nc))] := hD9
              have hS := hS9
              clear hP9 hD9 hS9
              rw [evq55] at hP hD
              replace hP : va_P (dC, dI) cls [(h_let, .inl (cy_let, 256, .inl f_let)), (h_nn, .inl (cy_nn, 8000, .inr (.inl f_nn))), (h_nv, .inl (cy_nv, 8000, .inl f_nv)), (h_wri, .inl (cy_wri, 1000, .inl f52)), (h_mm, .inr (8, (mo156 v_mm (.ref h_nv) (.ref h_nn) (.ref h_na) (.ref h_nb) (.ref h_nc) (.ref h_let) (.ref h_wri) (.int z51) (.int x_mm_room)))), (h_na, .inl (cy_na, 8000, .inl f_na)), (h_nb, .inl (cy_nb, 8000, .inl f_nb)), (h_nc, .inl (cy_nc, 8000, .inl f_nc))] H := hP
              replace hD : va_D A [(h_let, .inl (cy_let, 256, .inl f_let)), (h_nn, .inl (cy_nn, 8000, .inr (.inl f_nn))), (h_nv, .inl (cy_nv, 8000, .inl f_nv)), (h_wri, .inl (cy_wri, 1000, .inl f52)), (h_mm, .inr (8, (mo156 v_mm (.ref h_nv) (.ref h_nn) (.ref h_na) (.ref h_nb) (.ref h_nc) (.ref h_let) (.ref h_wri) (.int z51) (.int x_mm_room)))), (h_na, .inl (cy_na, 8000, .inl f_na)), (h_nb, .inl (cy_nb, 8000, .inl f_nb)), (h_nc, .inl (cy_nc, 8000, .inl f_nc))] := hD
              clear evq55 
              obtain ⟨k57, k58⟩ := hq
              replace k57 : -1 ≤ (r56).toInt ∧ (r56).toInt ≤ 7999 := k57
              replace k58 : ((r56)).toInt = (ptx f_na f_nb f_nc ((p1)).toInt.toNat ((x10)).toInt).toInt := k58
              have ch9 := ch_ok (nv := f_nv) (k := (x10).toInt) (x := (p1).toInt.toNat) hn_nds (by omega) (by omega)
              rw [← Int32.toInt_inj.mp (show (r56).toInt = (ptx f_na f_nb f_nc (p1).toInt.toNat (x10).toInt).toInt by omega)] at ch9
              refine lv_iload hx hb dX11_saysTerm_152 (lv_at hl 5 rfl) ?_
              refine lv_iload_n hx hb dX11_saysTerm_154 rfl (lv_at hl 3 rfl) ?_
              have cstm1 : ((-1) : Int32).toInt = -1 := by decide
              have hPc := hP.sub (ws' := [(h_mm, .inr (8, (mo156 v_mm (.ref h_nv) (.ref h_nn) (.ref h_na) (.ref h_nb) (.ref h_nc) (.ref h_let) (.ref h_wri) (.int z51) (.int x_mm_room)))), (h_wri, .inl (cy_wri, 1000, .inl f52)), (h_let, .inl (cy_let, 256, .inl f_let)), (h_nv, .inl (cy_nv, 8000, .inl f_nv)), (h_nn, .inl (cy_nn, 8000, .inr (.inl f_nn))), (h_na, .inl (cy_na, 8000, .inl f_na)), (h_nb, .inl (cy_nb, 8000, .inl f_nb)), (h_nc, .inl (cy_nc, 8000, .inl f_nc))]) [4, 3, 0, 2, 1, 5, 6, 7] rfl
              have hDc := hD.sub (ws' := [(h_mm, .inr (8, (mo156 v_mm (.ref h_nv) (.ref h_nn) (.ref h_na) (.ref h_nb) (.ref h_nc) (.ref h_let) (.ref h_wri) (.int z51) (.int x_mm_room)))), (h_wri, .inl (cy_wri, 1000, .inl f52)), (h_let, .inl (cy_let, 256, .inl f_let)), (h_nv, .inl (cy_nv, 8000, .inl f_nv)), (h_nn, .inl (cy_nn, 8000, .inr (.inl f_nn))), (h_na, .inl (cy_na, 8000, .inl f_na)), (h_nb, .inl (cy_nb, 8000, .inl f_nb)), (h_nc, .inl (cy_nc, 8000, .inl f_nc))]) [4, 3, 0, 2, 1, 5, 6, 7] (by decide) rfl
              have hKc := hK.sub (tys' := [(cy_wri, .int), (cy_let, .int), (cy_nv, .int), (cy_nn, .long), (cy_na, .int), (cy_nb, .int), (cy_nc, .int)]) [0, 1, 2, 3, 4, 5, 6] rfl
              have hFc := va_free (wc := [(h_mm, .inr (8, (mo156 v_mm (.ref h_nv) (.ref h_nn) (.ref h_na) (.ref h_nb) (.ref h_nc) (.ref h_let) (.ref h_wri) (.int z51) (.int x_mm_room)))), (h_wri, .inl (cy_wri, 1000, .inl f52)), (h_let, .inl (cy_let, 256, .inl f_let)), (h_nv, .inl (cy_nv, 8000, .inl f_nv)), (h_nn, .inl (cy_nn, 8000, .inr (.inl f_nn))), (h_na, .inl (cy_na, 8000, .inl f_na)), (h_nb, .inl (cy_nb, 8000, .inl f_nb)), (h_nc, .inl (cy_nc, 8000, .inl f_nc))]) hD hS hA [4, 3, 0, 2, 1, 5, 6, 7] rfl
              refine va_callv (va_runV (As := [.int r56, .int (-1), .int p3]) (rest := []) ⟨hx, hb, hml, hown, hts⟩ (ihf dC dI H.size h_mm h_wri h_let h_nv h_nn h_na h_nb h_nc v_mm z51 x_mm_room cy_wri f52 cy_let f_let cy_nv f_nv cy_nn f_nn cy_na f_na cy_nb f_nb cy_nc f_nc r56 p3 N hz (by first | exact k53 | omega) (by first | exact hx_mm_room | omega) hf_nv hf_na hf_nb hf_nc (by omega) (by first | exact q1 | omega) (by first | exact q2 | omega) (by omega) hn_nds) (cwV 3 hts (gv hT w_m_X11_459 w_instanceMethod_X11_saysTerm ws_sel_X11_saysTerm w_ini_X11 w_code_X11_saysTerm) rfl rfl rfl (by decide +kernel) ⟨(by dsimp only [headSpec]; omega), (by dsimp only [headSpec]; omega)⟩) ⟨pre_blind, va_recv hK hP (ci := 8) (q0 := 4) rfl rfl, pre_of hPc hKc hDc hN⟩ rfl rfl hl.1 rfl (lv_room (Nat.le_of_ble_eq_true rfl)) dX11_saysTerm_155 ⟨(Nat.le_of_ble_eq_true rfl), (Nat.le_of_ble_eq_true rfl)⟩) hS (fun q _ h => hFc q h) hFc (fun u t H locs ht hvm hq hB hz1 hk1 hS9 => ?_)
              obtain ⟨z60, f61⟩ := u
              obtain ⟨hP1, hD1⟩ := hB
              rw [ht] at hP1
              obtain ⟨hP9, hD9⟩ := va_join (wr := []) (w1 := [(h_mm, .inr (8, (mo156 v_mm (.ref h_nv) (.ref h_nn) (.ref h_na) (.ref h_nb) (.ref h_nc) (.ref h_let) (.ref h_wri) (.int z60) (.int x_mm_room)))), (h_wri, .inl (cy_wri, 1000, .inl f61)), (h_let, .inl (cy_let, 256, .inl f_let)), (h_nv, .inl (cy_nv, 8000, .inl f_nv)), (h_nn, .inl (cy_nn, 8000, .inr (.inl f_nn))), (h_na, .inl (cy_na, 8000, .inl f_na)), (h_nb, .inl (cy_nb, 8000, .inl f_nb)), (h_nc, .inl (cy_nc, 8000, .inl f_nc))]) hP hD [4, 3, 0, 2, 1, 5, 6, 7] [] rfl rfl (by decide) (by decide) hk1 hFc hP1 hD1
              clear hP hD hS hPc hDc hKc hFc hP1 hD1 hk1 hz1 ht hvm
              have hP : va_P (dC, dI) cls [(h_mm, .inr (8, (mo156 v_mm (.ref h_nv) (.ref h_nn) (.ref h_na) (.ref h_nb) (.ref h_nc) (.ref h_let) (.ref h_wri) (.int z60) (.int x_mm_room)))), (h_wri, .inl (cy_wri, 1000, .inl f61)), (h_let, .inl (cy_let, 256, .inl f_let)), (h_nv, .inl (cy_nv, 8000, .inl f_nv)), (h_nn, .inl (cy_nn, 8000, .inr (.inl f_nn))), (h_na, .inl (cy_na, 8000, .inl f_na)), (h_nb, .inl (cy_nb, 8000, .inl f_nb)), (h_nc, .inl (cy_nc, 8000, .inl f_nc))] H := hP9
              have hD : va_D A [(h_mm, .inr (8, (mo156 v_mm (.ref h_nv) (.ref h_nn) (.ref h_na) (.ref h_nb) (.ref h_nc) (.ref h_let) (.ref h_wri) (.int z60) (.int x_mm_room)))), (h_wri, .inl (cy_wri, 1000, .inl f61)), (h_let, .inl (cy_let, 256, .inl f_let)), (h_nv, .inl (cy_nv, 8000, .inl f_nv)), (h_nn, .inl (cy_nn, 8000, .inr (.inl f_nn))), (h_na, .inl (cy_na, 8000, .inl f_na)), (h_nb, .inl (cy_nb, 8000, .inl f_nb)), (h_nc, .inl (cy_nc, 8000, .inl f_nc))] := hD9
              have hS := hS9
              clear hP9 hD9 hS9
              have k62 : 0 ≤ ((z60)).toInt ∧ ((z60)).toInt ≤ 1000 := hq
              clear hq
              obtain ⟨z63, ez63⟩ : ∃ y : Int32, y = x10 + 1 := ⟨_, rfl⟩
              have tz63 : (z63).toInt = (x10).toInt + 1 := by rw [ez63]; exact i_add rfl (by decide) (by omega)
              refine lv_iinc (v := z63) (lv' := [(6, .int z63), (0, .ref h_mm), (1, .int p1), (2, .int (-1)), (3, .int p3), (4, .int p1), (5, .int (-1))]) hx hb dX11_saysTerm_158 hl (k := 6) rfl (by rw [ez63]; rfl) (by decide) rfl (fun ls hl => ?_)
              refine lv_goto (tgt := 116) hx hb dX11_saysTerm_161 (by decide) ?_
              replace hP : va_P (dC, dI) cls [(h_let, .inl (cy_let, 256, .inl f_let)), (h_nv, .inl (cy_nv, 8000, .inl f_nv)), (h_nn, .inl (cy_nn, 8000, .inr (.inl f_nn))), (h_na, .inl (cy_na, 8000, .inl f_na)), (h_nb, .inl (cy_nb, 8000, .inl f_nb)), (h_nc, .inl (cy_nc, 8000, .inl f_nc)), (h_mm, .inr (8, (mo156 v_mm (.ref h_nv) (.ref h_nn) (.ref h_na) (.ref h_nb) (.ref h_nc) (.ref h_let) (.ref h_wri) (.int z60) (.int x_mm_room)))), (h_wri, .inl (cy_wri, 1000, .inl f61))] H := hP.sub [2, 3, 4, 5, 6, 7, 0, 1] rfl
              replace hD : va_D A [(h_let, .inl (cy_let, 256, .inl f_let)), (h_nv, .inl (cy_nv, 8000, .inl f_nv)), (h_nn, .inl (cy_nn, 8000, .inr (.inl f_nn))), (h_na, .inl (cy_na, 8000, .inl f_na)), (h_nb, .inl (cy_nb, 8000, .inl f_nb)), (h_nc, .inl (cy_nc, 8000, .inl f_nc)), (h_mm, .inr (8, (mo156 v_mm (.ref h_nv) (.ref h_nn) (.ref h_na) (.ref h_nb) (.ref h_nc) (.ref h_let) (.ref h_wri) (.int z60) (.int x_mm_room)))), (h_wri, .inl (cy_wri, 1000, .inl f61))] := hD.sub [2, 3, 4, 5, 6, 7, 0, 1] (by decide) rfl
              exact ih14 (z63) (z60) (f61) _ _ _ (by omega) (by first | exact k62 | omega) (by omega) hP hD hS (lv_sub hl [1, 2, 3, 4, 5, 6, 0] rfl)
      have cst0 : (0 : Int32).toInt = 0 := by decide
      exact lp13 _ (0) (z7) (f8) _ _ _ (by decide) (by first | exact k9 | omega) (Nat.le_refl _) hP hD hS (lv_sub hl [3, 4, 5, 6, 2, 1, 0] rfl)
    · have kc3 := (not_congr (cv_eq (rfl : (z2).toInt = (z2).toInt) (by decide : ((-1) : Int32).toInt = -1))).mp c3
      refine lv_aload_n hx hb dX11_saysTerm_52 rfl (lv_at hl 2 rfl) ?_
      refine lv_aload_n hx hb dX11_saysTerm_53 rfl (lv_at hl 2 rfl) ?_
      refine va_get (D := (dC, dI)) (ci := 8) (v := .ref h_let) (C := RX11) (T := TX11) (N := 71) hx hb hw iwX11 hown hK hP 0 rfl rfl 10 (by decide) (hw _ w_f_X11_108) (fun _ h9 => h9) rfl dX11_saysTerm_54 ?_
      refine lv_bipush (v := 8) hx hb dX11_saysTerm_57 (by decide) ?_
      refine lv_iload hx hb dX11_saysTerm_59 (lv_at hl 0 rfl) ?_
      refine lv_iconst (v := (-1)) hx hb dX11_saysTerm_61 (by decide) ?_
      refine lv_icmp_ne (tgt := 69) hx hb dX11_saysTerm_62 (by decide) (fun c9 => absurd c9 (by decide)) (fun _ => ?_)
      refine lv_iload_n hx hb dX11_saysTerm_65 rfl (lv_at hl 5 rfl) ?_
      refine lv_goto (tgt := 76) hx hb dX11_saysTerm_66 (by decide) ?_
      refine lv_imul hx hb dX11_saysTerm_76 ?_
      refine lv_topi (fun z64 ez64 => ?_)
      have tz64 : (z64).toInt = 8 * (p3).toInt := by rw [ez64]; exact i_mul (by decide) rfl (by omega)
      refine lv_aload_n hx hb dX11_saysTerm_77 rfl (lv_at hl 2 rfl) ?_
      refine va_get (D := (dC, dI)) (ci := 8) (v := .ref h_nv) (C := RX11) (T := TX11) (N := 71) hx hb hw iwX11 hown hK hP 0 rfl rfl 1 (by decide) (hw _ w_f_X11_17) (fun _ h9 => h9) rfl dX11_saysTerm_78 ?_
      refine lv_iload hx hb dX11_saysTerm_81 (lv_at hl 1 rfl) ?_
      refine va_iald hx hb hK hP 3 2 rfl rfl (i := p1) (vp_in_iff.mpr (by omega)) dX11_saysTerm_83 ?_
      refine lv_topi (fun z65 ez65 => ?_)
      have qz65 : (z65).toInt = (z2).toInt := by rw [ez65, ez2]
      have rz65 : -1 ≤ (z65).toInt ∧ (z65).toInt ≤ 7 := by rw [ez65]; exact hf_nv _
      refine lv_iadd hx hb dX11_saysTerm_84 ?_
      refine lv_topi (fun z66 ez66 => ?_)
      have tz66 : (z66).toInt = (z64).toInt + (z65).toInt := by rw [ez66]; exact i_add rfl rfl (by omega)
      refine va_iald hx hb hK hP 2 1 rfl rfl (i := z66) (vp_in_iff.mpr (by omega)) dX11_saysTerm_85 ?_
      refine lv_topi (fun z67 ez67 => ?_)
      obtain ⟨vq68, evq68⟩ := mq156_118 v_mm (.ref h_nv) (.ref h_nn) (.ref h_na) (.ref h_nb) (.ref h_nc) (.ref h_let)
      replace hP : va_P (dC, dI) cls [(h_mm, .inr (8, (mo118 vq68 (.ref h_wri) (.int x_mm_writes) (.int x_mm_room)))), (h_wri, .inl (cy_wri, 1000, .inl f_wri)), (h_let, .inl (cy_let, 256, .inl f_let)), (h_nv, .inl (cy_nv, 8000, .inl f_nv)), (h_nn, .inl (cy_nn, 8000, .inr (.inl f_nn))), (h_na, .inl (cy_na, 8000, .inl f_na)), (h_nb, .inl (cy_nb, 8000, .inl f_nb)), (h_nc, .inl (cy_nc, 8000, .inl f_nc))] s.heap := by rw [evq68]; exact hP
      replace hD : va_D A [(h_mm, .inr (8, (mo118 vq68 (.ref h_wri) (.int x_mm_writes) (.int x_mm_room)))), (h_wri, .inl (cy_wri, 1000, .inl f_wri)), (h_let, .inl (cy_let, 256, .inl f_let)), (h_nv, .inl (cy_nv, 8000, .inl f_nv)), (h_nn, .inl (cy_nn, 8000, .inr (.inl f_nn))), (h_na, .inl (cy_na, 8000, .inl f_na)), (h_nb, .inl (cy_nb, 8000, .inl f_nb)), (h_nc, .inl (cy_nc, 8000, .inl f_nc))] := by rw [evq68]; exact hD
      have hPc := hP.sub (ws' := [(h_mm, .inr (8, (mo118 vq68 (.ref h_wri) (.int x_mm_writes) (.int x_mm_room)))), (h_wri, .inl (cy_wri, 1000, .inl f_wri))]) [0, 1] rfl
      have hDc := hD.sub (ws' := [(h_mm, .inr (8, (mo118 vq68 (.ref h_wri) (.int x_mm_writes) (.int x_mm_room)))), (h_wri, .inl (cy_wri, 1000, .inl f_wri))]) [0, 1] (by decide) rfl
      have hKc := hK.sub (tys' := [(cy_wri, .int)]) [0] rfl
      have hFc := va_free (wc := [(h_mm, .inr (8, (mo118 vq68 (.ref h_wri) (.int x_mm_writes) (.int x_mm_room)))), (h_wri, .inl (cy_wri, 1000, .inl f_wri))]) hD hS hA [0, 1] rfl
      refine va_callv (va_runV (As := [.int z67]) (rest := []) ⟨hx, hb, hml, hown, hts⟩ (c_X11_says l dC dI s.heap.size h_mm h_wri vq68 x_mm_writes x_mm_room cy_wri f_wri z67 (by first | exact hx_mm_writes | omega) (by first | exact hx_mm_room | omega)) (cwV 1 hts (gv hT w_m_X11_452 w_instanceMethod_X11_says ws_sel_X11_says w_ini_X11 w_code_X11_says) rfl rfl rfl (by decide +kernel) ⟨(by dsimp only [headSpec]; omega), (by dsimp only [headSpec]; omega)⟩) ⟨pre_blind, va_recv hK hP (ci := 8) (q0 := 0) rfl rfl, pre_of hPc hKc hDc hN⟩ rfl rfl hl.1 rfl (lv_room (Nat.le_of_ble_eq_true rfl)) dX11_saysTerm_86 ⟨(Nat.le_of_ble_eq_true rfl), (Nat.le_of_ble_eq_true rfl)⟩) hS (fun q _ h => hFc q h) hFc (fun u t H locs ht hvm hq hB hz1 hk1 hS9 => ?_)
      obtain ⟨z70, f71⟩ := u
      obtain ⟨hP1, hD1⟩ := hB
      rw [ht] at hP1
      obtain ⟨hP9, hD9⟩ := va_join (wr := [(h_let, .inl (cy_let, 256, .inl f_let)), (h_nv, .inl (cy_nv, 8000, .inl f_nv)), (h_nn, .inl (cy_nn, 8000, .inr (.inl f_nn))), (h_na, .inl (cy_na, 8000, .inl f_na)), (h_nb, .inl (cy_nb, 8000, .inl f_nb)), (h_nc, .inl (cy_nc, 8000, .inl f_nc))]) (w1 := [(h_mm, .inr (8, (mo118 vq68 (.ref h_wri) (.int z70) (.int x_mm_room)))), (h_wri, .inl (cy_wri, 1000, .inl f71))]) hP hD [0, 1] [2, 3, 4, 5, 6, 7] rfl rfl (by decide) (by decide) hk1 hFc hP1 hD1
      clear hP hD hS hPc hDc hKc hFc hP1 hD1 hk1 hz1 ht hvm
      have hP : va_P (dC, dI) cls [(h_let, .inl (cy_let, 256, .inl f_let)), (h_nv, .inl (cy_nv, 8000, .inl f_nv)), (h_nn, .inl (cy_nn, 8000, .inr (.inl f_nn))), (h_na, .inl (cy_na, 8000, .inl f_na)), (h_nb, .inl (cy_nb, 8000, .inl f_nb)), (h_nc, .inl (cy_nc, 8000, .inl f_nc)), (h_mm, .inr (8, (mo118 vq68 (.ref h_wri) (.int z70) (.int x_mm_room)))), (h_wri, .inl (cy_wri, 1000, .inl f71))] H := hP9
      have hD : va_D A [(h_let, .inl (cy_let, 256, .inl f_let)), (h_nv, .inl (cy_nv, 8000, .inl f_nv)), (h_nn, .inl (cy_nn, 8000, .inr (.inl f_nn))), (h_na, .inl (cy_na, 8000, .inl f_na)), (h_nb, .inl (cy_nb, 8000, .inl f_nb)), (h_nc, .inl (cy_nc, 8000, .inl f_nc)), (h_mm, .inr (8, (mo118 vq68 (.ref h_wri) (.int z70) (.int x_mm_room)))), (h_wri, .inl (cy_wri, 1000, .inl f71))] := hD9
      have hS := hS9
      clear hP9 hD9 hS9
      rw [evq68] at hP hD
      replace hP : va_P (dC, dI) cls [(h_let, .inl (cy_let, 256, .inl f_let)), (h_nv, .inl (cy_nv, 8000, .inl f_nv)), (h_nn, .inl (cy_nn, 8000, .inr (.inl f_nn))), (h_na, .inl (cy_na, 8000, .inl f_na)), (h_nb, .inl (cy_nb, 8000, .inl f_nb)), (h_nc, .inl (cy_nc, 8000, .inl f_nc)), (h_mm, .inr (8, (mo156 v_mm (.ref h_nv) (.ref h_nn) (.ref h_na) (.ref h_nb) (.ref h_nc) (.ref h_let) (.ref h_wri) (.int z70) (.int x_mm_room)))), (h_wri, .inl (cy_wri, 1000, .inl f71))] H := hP
      replace hD : va_D A [(h_let, .inl (cy_let, 256, .inl f_let)), (h_nv, .inl (cy_nv, 8000, .inl f_nv)), (h_nn, .inl (cy_nn, 8000, .inr (.inl f_nn))), (h_na, .inl (cy_na, 8000, .inl f_na)), (h_nb, .inl (cy_nb, 8000, .inl f_nb)), (h_nc, .inl (cy_nc, 8000, .inl f_nc)), (h_mm, .inr (8, (mo156 v_mm (.ref h_nv) (.ref h_nn) (.ref h_na) (.ref h_nb) (.ref h_nc) (.ref h_let) (.ref h_wri) (.int z70) (.int x_mm_room)))), (h_wri, .inl (cy_wri, 1000, .inl f71))] := hD
      clear evq68 
      obtain ⟨k72, k73⟩ := hq
      replace k72 : 0 ≤ ((z70)).toInt ∧ ((z70)).toInt ≤ 1000 := k72
      replace k73 : ((x_mm_writes)).toInt ≤ ((z70)).toInt := k73
      refine lv_iload hx hb dX11_saysTerm_89 (lv_at hl 0 rfl) ?_
      refine lv_iconst (v := (-1)) hx hb dX11_saysTerm_91 (by decide) ?_
      refine lv_icmp_eq (tgt := 101) hx hb dX11_saysTerm_92 (by decide) (fun _ => ?_) (fun c9 => absurd c9 (by decide))
      replace hP : va_P (dC, dI) cls [(h_mm, .inr (8, (mo156 v_mm (.ref h_nv) (.ref h_nn) (.ref h_na) (.ref h_nb) (.ref h_nc) (.ref h_let) (.ref h_wri) (.int z70) (.int x_mm_room)))), (h_wri, .inl (cy_wri, 1000, .inl f71)), (h_let, .inl (cy_let, 256, .inl f_let)), (h_nv, .inl (cy_nv, 8000, .inl f_nv)), (h_nn, .inl (cy_nn, 8000, .inr (.inl f_nn))), (h_na, .inl (cy_na, 8000, .inl f_na)), (h_nb, .inl (cy_nb, 8000, .inl f_nb)), (h_nc, .inl (cy_nc, 8000, .inl f_nc))] H := hP.sub [6, 7, 0, 1, 2, 3, 4, 5] rfl
      replace hD : va_D A [(h_mm, .inr (8, (mo156 v_mm (.ref h_nv) (.ref h_nn) (.ref h_na) (.ref h_nb) (.ref h_nc) (.ref h_let) (.ref h_wri) (.int z70) (.int x_mm_room)))), (h_wri, .inl (cy_wri, 1000, .inl f71)), (h_let, .inl (cy_let, 256, .inl f_let)), (h_nv, .inl (cy_nv, 8000, .inl f_nv)), (h_nn, .inl (cy_nn, 8000, .inr (.inl f_nn))), (h_na, .inl (cy_na, 8000, .inl f_na)), (h_nb, .inl (cy_nb, 8000, .inl f_nb)), (h_nc, .inl (cy_nc, 8000, .inl f_nc))] := hD.sub [6, 7, 0, 1, 2, 3, 4, 5] (by decide) rfl
      refine W.widen (k := 0) (n := 0) (Nat.le_of_ble_eq_true rfl) (Nat.le_of_ble_eq_true rfl) ?_
      have w74 : 0 ≤ ((z70)).toInt ∧ ((z70)).toInt ≤ 1000 := by first | exact k72 | omega
      exact W.vret hx hb hr (fun t ht hW => ⟨⟨(z70, f71), rfl, w74, by rw [ht]; exact hP, hD⟩, hS.F ht⟩) hS.2.2 dX11_saysTerm_101
  · have kc1 := (not_congr (cv_le (rfl : (x_mm_writes).toInt = (x_mm_writes).toInt) (rfl : (x_mm_room).toInt = (x_mm_room).toInt))).mp c1
    refine W.widen (k := 0) (n := 0) (Nat.le_of_ble_eq_true rfl) (Nat.le_of_ble_eq_true rfl) ?_
    have w75 : 0 ≤ ((x_mm_writes)).toInt ∧ ((x_mm_writes)).toInt ≤ 1000 := by first | exact hx_mm_writes | omega
    exact W.vret hx hb hr (fun t ht hW => ⟨⟨(x_mm_writes, f_wri), rfl, w75, by rw [ht]; exact hP, hD⟩, hS.F ht⟩) hS.2.2 dX11_saysTerm_11

def K_X11_saysTerm_n (l : Launch) (fu : Nat) : Prop := ∀ (dC : Nat → ClassId) (dI : Nat → Nat → Nat) (sz : Nat) (h_mm : Nat) (h_wri : Nat) (h_let : Nat) (h_nv : Nat) (h_nn : Nat) (h_na : Nat) (h_nb : Nat) (h_nc : Nat) (v_mm : Nat → Value) (x_mm_writes : Int32) (x_mm_room : Int32) (cy_wri : ClassId) (f_wri : Nat → Int32) (cy_let : ClassId) (f_let : Nat → Int32) (cy_nv : ClassId) (f_nv : Nat → Int32) (cy_nn : ClassId) (f_nn : Nat → Int64) (cy_na : ClassId) (f_na : Nat → Int32) (cy_nb : ClassId) (f_nb : Nat → Int32) (cy_nc : ClassId) (f_nc : Nat → Int32) (p1 : Int32) (p3 : Int32) (N : Int) (hz : Nat → Nat) (dd : Nat) (hx_mm_writes : 0 ≤ (x_mm_writes).toInt ∧ (x_mm_writes).toInt ≤ 1000) (hx_mm_room : 0 ≤ (x_mm_room).toInt ∧ (x_mm_room).toInt ≤ 998) (hf_nv : Rg (-1) 7 f_nv) (hf_na : Rg (-1) 7999 f_na) (hf_nb : Rg (-1) 7999 f_nb) (hf_nc : Rg (-1) 7999 f_nc) (q0 : 0 ≤ (p1).toInt ∧ (p1).toInt < N) (q1 : N ≤ 8000) (q2 : 0 ≤ (p3).toInt ∧ (p3).toInt ≤ 15) (q3 : hz (p1).toInt.toNat + 1 ≤ fu) (q4 : (x_mm_writes).toInt + lnX (nlR 14) (RVW f_nv f_nn f_na f_nb f_nc) dd (p1).toInt.toNat ≤ (x_mm_room).toInt + 1) (hn_nds : ND 0 N hz f_na f_nb f_nc) (hn_whx : WHX (RVW f_nv f_nn f_na f_nb f_nc) dd (p1).toInt.toNat), Met l yX11_saysTerm (Ws yX11_saysTerm cX11_saysTerm 7 none) (({ frames := fu + 15, cells := 0, slots := 0, locals := 26 * fu + 329 } : Room)) (PRE (dC, dI) cls [(cy_wri, .int), (cy_let, .int), (cy_nv, .int), (cy_nn, .long), (cy_na, .int), (cy_nb, .int), (cy_nc, .int)] [(h_mm, .inr (8, (mo156 v_mm (.ref h_nv) (.ref h_nn) (.ref h_na) (.ref h_nb) (.ref h_nc) (.ref h_let) (.ref h_wri) (.int x_mm_writes) (.int x_mm_room)))), (h_wri, .inl (cy_wri, 1000, .inl f_wri)), (h_let, .inl (cy_let, 256, .inl f_let)), (h_nv, .inl (cy_nv, 8000, .inl f_nv)), (h_nn, .inl (cy_nn, 8000, .inr (.inl f_nn))), (h_na, .inl (cy_na, 8000, .inl f_na)), (h_nb, .inl (cy_nb, 8000, .inl f_nb)), (h_nc, .inl (cy_nc, 8000, .inl f_nc))] sz [.ref h_mm, .int p1, .int (-1), .int p3]) (va_Qv (fun (u : (Int32) × (Nat → Int32)) => (0 ≤ (u.1).toInt ∧ (u.1).toInt ≤ 1000) ∧ ((u.1).toInt = (x_mm_writes).toInt + lnX (nlR 14) (RVW f_nv f_nn f_na f_nb f_nc) dd (p1).toInt.toNat)) (fun (u : (Int32) × (Nat → Int32)) (t : State) => va_P (dC, dI) cls [(h_mm, .inr (8, (mo156 v_mm (.ref h_nv) (.ref h_nn) (.ref h_na) (.ref h_nb) (.ref h_nc) (.ref h_let) (.ref h_wri) (.int u.1) (.int x_mm_room)))), (h_wri, .inl (cy_wri, 1000, .inl u.2)), (h_let, .inl (cy_let, 256, .inl f_let)), (h_nv, .inl (cy_nv, 8000, .inl f_nv)), (h_nn, .inl (cy_nn, 8000, .inr (.inl f_nn))), (h_na, .inl (cy_na, 8000, .inl f_na)), (h_nb, .inl (cy_nb, 8000, .inl f_nb)), (h_nc, .inl (cy_nc, 8000, .inl f_nc))] t.heap ∧ va_D (va_A [(h_mm, .inr (8, (mo156 v_mm (.ref h_nv) (.ref h_nn) (.ref h_na) (.ref h_nb) (.ref h_nc) (.ref h_let) (.ref h_wri) (.int x_mm_writes) (.int x_mm_room)))), (h_wri, .inl (cy_wri, 1000, .inl f_wri)), (h_let, .inl (cy_let, 256, .inl f_let)), (h_nv, .inl (cy_nv, 8000, .inl f_nv)), (h_nn, .inl (cy_nn, 8000, .inr (.inl f_nn))), (h_na, .inl (cy_na, 8000, .inl f_na)), (h_nb, .inl (cy_nb, 8000, .inl f_nb)), (h_nc, .inl (cy_nc, 8000, .inl f_nc))] sz) [(h_mm, .inr (8, (mo156 v_mm (.ref h_nv) (.ref h_nn) (.ref h_na) (.ref h_nb) (.ref h_nc) (.ref h_let) (.ref h_wri) (.int u.1) (.int x_mm_room)))), (h_wri, .inl (cy_wri, 1000, .inl u.2)), (h_let, .inl (cy_let, 256, .inl f_let)), (h_nv, .inl (cy_nv, 8000, .inl f_nv)), (h_nn, .inl (cy_nn, 8000, .inr (.inl f_nn))), (h_na, .inl (cy_na, 8000, .inl f_na)), (h_nb, .inl (cy_nb, 8000, .inl f_nb)), (h_nc, .inl (cy_nc, 8000, .inl f_nc))]) (va_A [(h_mm, .inr (8, (mo156 v_mm (.ref h_nv) (.ref h_nn) (.ref h_na) (.ref h_nb) (.ref h_nc) (.ref h_let) (.ref h_wri) (.int x_mm_writes) (.int x_mm_room)))), (h_wri, .inl (cy_wri, 1000, .inl f_wri)), (h_let, .inl (cy_let, 256, .inl f_let)), (h_nv, .inl (cy_nv, 8000, .inl f_nv)), (h_nn, .inl (cy_nn, 8000, .inr (.inl f_nn))), (h_na, .inl (cy_na, 8000, .inl f_na)), (h_nb, .inl (cy_nb, 8000, .inl f_nb)), (h_nc, .inl (cy_nc, 8000, .inl f_nc))] sz)) 0 0 (va_A [(h_mm, .inr (8, (mo156 v_mm (.ref h_nv) (.ref h_nn) (.ref h_na) (.ref h_nb) (.ref h_nc) (.ref h_let) (.ref h_wri) (.int x_mm_writes) (.int x_mm_room)))), (h_wri, .inl (cy_wri, 1000, .inl f_wri)), (h_let, .inl (cy_let, 256, .inl f_let)), (h_nv, .inl (cy_nv, 8000, .inl f_nv)), (h_nn, .inl (cy_nn, 8000, .inr (.inl f_nn))), (h_na, .inl (cy_na, 8000, .inl f_na)), (h_nb, .inl (cy_nb, 8000, .inl f_nb)), (h_nc, .inl (cy_nc, 8000, .inl f_nc))] sz)
set_option maxHeartbeats 8000000 in
set_option maxRecDepth 100000 in
theorem c_X11_saysTerm_n (l : Launch) (fu : Nat) : K_X11_saysTerm_n l fu := by
  refine Nat.rec (motive := fun fu => K_X11_saysTerm_n l fu) ?_ ?_ fu
  · intro dC dI sz h_mm h_wri h_let h_nv h_nn h_na h_nb h_nc v_mm x_mm_writes x_mm_room cy_wri f_wri cy_let f_let cy_nv f_nv cy_nn f_nn cy_na f_na cy_nb f_nb cy_nc f_nc p1 p3 N hz dd hx_mm_writes hx_mm_room hf_nv hf_na hf_nb hf_nc q0 q1 q2 q3 q4 hn_nds hn_whx
    have h09 : Nat.zero = 0 := rfl
    exact False.elim (by omega)
  intro fu ihf
  intro dC dI sz h_mm h_wri h_let h_nv h_nn h_na h_nb h_nc v_mm x_mm_writes x_mm_room cy_wri f_wri cy_let f_let cy_nv f_nv cy_nn f_nn cy_na f_na cy_nb f_nb cy_nc f_nc p1 p3 N hz dd hx_mm_writes hx_mm_room hf_nv hf_na hf_nb hf_nc q0 q1 q2 q3 q4 hn_nds hn_whx
  refine Met.ofW (cc := cX11_saysTerm) (maxL := 7) (ret := none) (by decide) rfl ?_
  intro p e s m args below meth c s₁ B hml hv
  obtain ⟨rfl, hsz, hP, hK, hD0, hN⟩ := hv
  have hx := B.exec
  have hb := B.bytes
  have hr := B.returns
  have hts := atoms_spec (ws := Ws yX11_saysTerm cX11_saysTerm 7 none) B.pre
  have hT : ∀ w ∈ WALL, w ∈ Ws yX11_saysTerm cX11_saysTerm 7 none := fun w h => List.mem_cons_of_mem _ h
  have hw := fun w (h : w ∈ WALL) => hts w (hT w h)
  have hown : s.vm.findClass RX11 = some m.cls := findClass_of_methodNamed B.named
  have hlocks := B.notSynchronized
  subst hsz
  have hD := hD0.self (sz := s.heap.size)
  generalize hAe : va_A [(h_mm, .inr (8, (mo156 v_mm (.ref h_nv) (.ref h_nn) (.ref h_na) (.ref h_nb) (.ref h_nc) (.ref h_let) (.ref h_wri) (.int x_mm_writes) (.int x_mm_room)))), (h_wri, .inl (cy_wri, 1000, .inl f_wri)), (h_let, .inl (cy_let, 256, .inl f_let)), (h_nv, .inl (cy_nv, 8000, .inl f_nv)), (h_nn, .inl (cy_nn, 8000, .inr (.inl f_nn))), (h_na, .inl (cy_na, 8000, .inl f_na)), (h_nb, .inl (cy_nb, 8000, .inl f_nb)), (h_nc, .inl (cy_nc, 8000, .inl f_nc))] s.heap.size = A at hD ⊢
  have hA : ∀ q : Nat, s.heap.size ≤ q → A q := fun q h => by rw [← hAe]; exact Or.inr h
  have hS : va_S A s.heap s.heap [] := va_S.rf
  have hl := lv_entry ([.ref h_mm, .int p1, .int (-1), .int p3]) (n := 7) (Nat.le_of_ble_eq_true rfl)
  rw [lg_entry_eq]
  generalize (lg_sl ([.ref h_mm, .int p1, .int (-1), .int p3]) ++ List.replicate (7 - (lg_sl ([.ref h_mm, .int p1, .int (-1), .int p3])).length) Slot.unset).toArray = ls at hl ⊢
  have hl : lv_has ls 7 [(0, .ref h_mm), (1, .int p1), (2, .int (-1)), (3, .int p3)] := hl
  obtain ⟨d9, hd9⟩ := wfx_suc (whx_wfx _ _ hn_whx)
  have hx9 : WHX (RVW f_nv f_nn f_na f_nb f_nc) (d9 + 1) (p1).toInt.toNat := by rw [← hd9]; exact hn_whx
  have wx9 := whx_wfx _ _ hx9
  have ld9 : lnX (nlR 14) (RVW f_nv f_nn f_na f_nb f_nc) dd (p1).toInt.toNat = lnX (nlR 14) (RVW f_nv f_nn f_na f_nb f_nc) (d9 + 1) (p1).toInt.toNat := by rw [hd9]
  have lg9 := lnX_pos14 wx9
  refine lv_aload_n hx hb dX11_saysTerm_0 rfl (lv_at hl 0 rfl) ?_
  refine va_get (D := (dC, dI)) (ci := 8) (v := .int x_mm_writes) (C := RX11) (T := TX11) (N := 71) hx hb hw iwX11 hown hK hP 0 rfl rfl 65 (by decide) (hw _ w_f_X11_443) (fun _ h9 => h9) rfl dX11_saysTerm_1 ?_
  refine lv_aload_n hx hb dX11_saysTerm_4 rfl (lv_at hl 0 rfl) ?_
  refine va_get (D := (dC, dI)) (ci := 8) (v := .int x_mm_room) (C := RX11) (T := TX11) (N := 71) hx hb hw iwX11 hown hK hP 0 rfl rfl 66 (by decide) (hw _ w_f_X11_446) (fun _ h9 => h9) rfl dX11_saysTerm_5 ?_
  refine lv_icmp_le (tgt := 12) hx hb dX11_saysTerm_8 (by decide) (fun _ => ?_) (fun c1 => False.elim (by have kc1 := (not_congr (cv_le (rfl : (x_mm_writes).toInt = (x_mm_writes).toInt) (rfl : (x_mm_room).toInt = (x_mm_room).toInt))).mp c1; omega))
  refine lv_iload_n hx hb dX11_saysTerm_12 rfl (lv_at hl 1 rfl) ?_
  refine lv_istore (lv' := [(4, .int p1), (0, .ref h_mm), (1, .int p1), (2, .int (-1)), (3, .int p3)]) hx hb dX11_saysTerm_13 hl (by decide) rfl (fun ls hl => ?_)
  refine lv_iload_n hx hb dX11_saysTerm_15 rfl (lv_at hl 3 rfl) ?_
  refine lv_istore (lv' := [(5, .int (-1)), (4, .int p1), (0, .ref h_mm), (1, .int p1), (2, .int (-1)), (3, .int p3)]) hx hb dX11_saysTerm_16 hl (by decide) rfl (fun ls hl => ?_)
  refine lv_iload_n hx hb dX11_saysTerm_18 rfl (lv_at hl 4 rfl) ?_
  refine lv_iconst (v := (-1)) hx hb dX11_saysTerm_19 (by decide) ?_
  refine lv_icmp_eq (tgt := 41) hx hb dX11_saysTerm_20 (by decide) (fun _ => ?_) (fun c9 => absurd c9 (by decide))
  refine lv_aload_n hx hb dX11_saysTerm_41 rfl (lv_at hl 2 rfl) ?_
  refine va_get (D := (dC, dI)) (ci := 8) (v := .ref h_nv) (C := RX11) (T := TX11) (N := 71) hx hb hw iwX11 hown hK hP 0 rfl rfl 1 (by decide) (hw _ w_f_X11_17) (fun _ h9 => h9) rfl dX11_saysTerm_42 ?_
  refine lv_iload hx hb dX11_saysTerm_45 (lv_at hl 1 rfl) ?_
  refine va_iald hx hb hK hP 3 2 rfl rfl (i := p1) (vp_in_iff.mpr (by omega)) dX11_saysTerm_47 ?_
  refine lv_topi (fun z2 ez2 => ?_)
  have rz2 : -1 ≤ (z2).toInt ∧ (z2).toInt ≤ 7 := by rw [ez2]; exact hf_nv _
  refine lv_iconst (v := (-1)) hx hb dX11_saysTerm_48 (by decide) ?_
  refine lv_icmp_eq (tgt := 102) hx hb dX11_saysTerm_49 (by decide) (fun c3 => ?_) (fun c3 => ?_)
  · have kc3 := (cv_eq (rfl : (z2).toInt = (z2).toInt) (by decide : ((-1) : Int32).toInt = -1)).mp c3
    refine lv_aload_n hx hb dX11_saysTerm_102 rfl (lv_at hl 2 rfl) ?_
    refine lv_aload_n hx hb dX11_saysTerm_103 rfl (lv_at hl 2 rfl) ?_
    refine va_get (D := (dC, dI)) (ci := 8) (v := .ref h_nn) (C := RX11) (T := TX11) (N := 71) hx hb hw iwX11 hown hK hP 0 rfl rfl 2 (by decide) (hw _ w_f_X11_23) (fun _ h9 => h9) rfl dX11_saysTerm_104 ?_
    refine lv_iload hx hb dX11_saysTerm_107 (lv_at hl 1 rfl) ?_
    refine va_lald hx hb hK hP 4 3 rfl rfl (i := p1) (vp_in_iff.mpr (by omega)) dX11_saysTerm_109 ?_
    refine lv_topl (fun z4 ez4 => ?_)
    have hvz2 : (f_nv (p1).toInt.toNat).toInt = (z2).toInt := by rw [ez2, (clamp_nat (i := p1) (by omega))]
    have hm9 : (f_nn (p1).toInt.toNat).toInt = (z4).toInt := by rw [ez4, (clamp_nat (i := p1) (by omega))]
    have v9 : (f_nv (p1).toInt.toNat).toInt = -1 := by omega
    have n19 : 1 ≤ (f_nn (p1).toInt.toNat).toInt := whx_nm hx9 v9
    have a9 := rvw_ar (nn := f_nn) (A := f_na) (B := f_nb) (C := f_nc) v9
    have b9 := wfx_ar wx9 v9
    rw [a9] at b9
    obtain ⟨M9, eM9⟩ : ∃ y : Nat, npx f_nv f_na f_nb f_nc (p1).toInt.toNat = (y : Int) := ⟨(npx f_nv f_na f_nb f_nc (p1).toInt.toNat).toNat, by omega⟩
    have ls9 := lnX_sum (nf := nlR 14) (V := (RVW f_nv f_nn f_na f_nb f_nc)) (d := d9) (x := (p1).toInt.toNat) v9 (a9.trans eM9) (by omega)
    rw [show ((RVW f_nv f_nn f_na f_nb f_nc)).2.1 (p1).toInt.toNat = (f_nn (p1).toInt.toNat).toInt from rfl, hm9] at ls9
    have sl0 : slX (nlR 14) (RVW f_nv f_nn f_na f_nb f_nc) d9 (p1).toInt.toNat 0 = 0 := rfl
    have sl9 : slX (nlR 14) (RVW f_nv f_nn f_na f_nb f_nc) d9 (p1).toInt.toNat (Int.toNat ((0 : Int32)).toInt) = 0 := rfl
    have nq9 : nlR 14 (f_nn (p1).toInt.toNat).toInt = nlR 14 (z4).toInt := by rw [hm9]
    have sg9 := slX_ge (nlR_ge 14) (V := (RVW f_nv f_nn f_na f_nb f_nc)) (d := d9) (x := (p1).toInt.toNat) M9
    have np9 := nlR_ge 14 (z4).toInt
    obtain ⟨vq5, evq5⟩ := mq156_118 v_mm (.ref h_nv) (.ref h_nn) (.ref h_na) (.ref h_nb) (.ref h_nc) (.ref h_let)
    replace hP : va_P (dC, dI) cls [(h_mm, .inr (8, (mo118 vq5 (.ref h_wri) (.int x_mm_writes) (.int x_mm_room)))), (h_wri, .inl (cy_wri, 1000, .inl f_wri)), (h_let, .inl (cy_let, 256, .inl f_let)), (h_nv, .inl (cy_nv, 8000, .inl f_nv)), (h_nn, .inl (cy_nn, 8000, .inr (.inl f_nn))), (h_na, .inl (cy_na, 8000, .inl f_na)), (h_nb, .inl (cy_nb, 8000, .inl f_nb)), (h_nc, .inl (cy_nc, 8000, .inl f_nc))] s.heap := by rw [evq5]; exact hP
    replace hD : va_D A [(h_mm, .inr (8, (mo118 vq5 (.ref h_wri) (.int x_mm_writes) (.int x_mm_room)))), (h_wri, .inl (cy_wri, 1000, .inl f_wri)), (h_let, .inl (cy_let, 256, .inl f_let)), (h_nv, .inl (cy_nv, 8000, .inl f_nv)), (h_nn, .inl (cy_nn, 8000, .inr (.inl f_nn))), (h_na, .inl (cy_na, 8000, .inl f_na)), (h_nb, .inl (cy_nb, 8000, .inl f_nb)), (h_nc, .inl (cy_nc, 8000, .inl f_nc))] := by rw [evq5]; exact hD
    have hPc := hP.sub (ws' := [(h_mm, .inr (8, (mo118 vq5 (.ref h_wri) (.int x_mm_writes) (.int x_mm_room)))), (h_wri, .inl (cy_wri, 1000, .inl f_wri))]) [0, 1] rfl
    have hDc := hD.sub (ws' := [(h_mm, .inr (8, (mo118 vq5 (.ref h_wri) (.int x_mm_writes) (.int x_mm_room)))), (h_wri, .inl (cy_wri, 1000, .inl f_wri))]) [0, 1] (by decide) rfl
    have hKc := hK.sub (tys' := [(cy_wri, .int)]) [0] rfl
    have hFc := va_free (wc := [(h_mm, .inr (8, (mo118 vq5 (.ref h_wri) (.int x_mm_writes) (.int x_mm_room)))), (h_wri, .inl (cy_wri, 1000, .inl f_wri))]) hD hS hA [0, 1] rfl
    refine va_callv (va_runV (As := [.long z4]) (rest := []) ⟨hx, hb, hml, hown, hts⟩ (c_X11_saysName_n13 l dC dI s.heap.size h_mm h_wri vq5 x_mm_writes x_mm_room cy_wri f_wri z4 (by first | exact hx_mm_writes | omega) (by first | exact hx_mm_room | omega) (by omega) (by omega)) (cwV 1 hts (gv hT w_m_X11_455 w_instanceMethod_X11_saysName ws_sel_X11_saysName w_ini_X11 w_code_X11_saysName) rfl rfl rfl (by decide +kernel) ⟨(by dsimp only [headSpec]; omega), (by dsimp only [headSpec]; omega)⟩) ⟨pre_blind, va_recv hK hP (ci := 8) (q0 := 0) rfl rfl, pre_of hPc hKc hDc hN⟩ rfl rfl hl.1 rfl (lv_room (Nat.le_of_ble_eq_true rfl)) dX11_saysTerm_110 ⟨(Nat.le_of_ble_eq_true rfl), (Nat.le_of_ble_eq_true rfl)⟩) hS (fun q _ h => hFc q h) hFc (fun u t H locs ht hvm hq hB hz1 hk1 hS9 => ?_)
    obtain ⟨z7, f8⟩ := u
    obtain ⟨hP1, hD1⟩ := hB
    rw [ht] at hP1
    obtain ⟨hP9, hD9⟩ := va_join (wr := [(h_let, .inl (cy_let, 256, .inl f_let)), (h_nv, .inl (cy_nv, 8000, .inl f_nv)), (h_nn, .inl (cy_nn, 8000, .inr (.inl f_nn))), (h_na, .inl (cy_na, 8000, .inl f_na)), (h_nb, .inl (cy_nb, 8000, .inl f_nb)), (h_nc, .inl (cy_nc, 8000, .inl f_nc))]) (w1 := [(h_mm, .inr (8, (mo118 vq5 (.ref h_wri) (.int z7) (.int x_mm_room)))), (h_wri, .inl (cy_wri, 1000, .inl f8))]) hP hD [0, 1] [2, 3, 4, 5, 6, 7] rfl rfl (by decide) (by decide) hk1 hFc hP1 hD1
    clear hP hD hS hPc hDc hKc hFc hP1 hD1 hk1 hz1 ht hvm
    have hP : va_P (dC, dI) cls [(h_let, .inl (cy_let, 256, .inl f_let)), (h_nv, .inl (cy_nv, 8000, .inl f_nv)), (h_nn, .inl (cy_nn, 8000, .inr (.inl f_nn))), (h_na, .inl (cy_na, 8000, .inl f_na)), (h_nb, .inl (cy_nb, 8000, .inl f_nb)), (h_nc, .inl (cy_nc, 8000, .inl f_nc)), (h_mm, .inr (8, (mo118 vq5 (.ref h_wri) (.int z7) (.int x_mm_room)))), (h_wri, .inl (cy_wri, 1000, .inl f8))] H := hP9
    have hD : va_D A [(h_let, .inl (cy_let, 256, .inl f_let)), (h_nv, .inl (cy_nv, 8000, .inl f_nv)), (h_nn, .inl (cy_nn, 8000, .inr (.inl f_nn))), (h_na, .inl (cy_na, 8000, .inl f_na)), (h_nb, .inl (cy_nb, 8000, .inl f_nb)), (h_nc, .inl (cy_nc, 8000, .inl f_nc)), (h_mm, .inr (8, (mo118 vq5 (.ref h_wri) (.int z7) (.int x_mm_room)))), (h_wri, .inl (cy_wri, 1000, .inl f8))] := hD9
    have hS := hS9
    clear hP9 hD9 hS9
    rw [evq5] at hP hD
    replace hP : va_P (dC, dI) cls [(h_let, .inl (cy_let, 256, .inl f_let)), (h_nv, .inl (cy_nv, 8000, .inl f_nv)), (h_nn, .inl (cy_nn, 8000, .inr (.inl f_nn))), (h_na, .inl (cy_na, 8000, .inl f_na)), (h_nb, .inl (cy_nb, 8000, .inl f_nb)), (h_nc, .inl (cy_nc, 8000, .inl f_nc)), (h_mm, .inr (8, (mo156 v_mm (.ref h_nv) (.ref h_nn) (.ref h_na) (.ref h_nb) (.ref h_nc) (.ref h_let) (.ref h_wri) (.int z7) (.int x_mm_room)))), (h_wri, .inl (cy_wri, 1000, .inl f8))] H := hP
    replace hD : va_D A [(h_let, .inl (cy_let, 256, .inl f_let)), (h_nv, .inl (cy_nv, 8000, .inl f_nv)), (h_nn, .inl (cy_nn, 8000, .inr (.inl f_nn))), (h_na, .inl (cy_na, 8000, .inl f_na)), (h_nb, .inl (cy_nb, 8000, .inl f_nb)), (h_nc, .inl (cy_nc, 8000, .inl f_nc)), (h_mm, .inr (8, (mo156 v_mm (.ref h_nv) (.ref h_nn) (.ref h_na) (.ref h_nb) (.ref h_nc) (.ref h_let) (.ref h_wri) (.int z7) (.int x_mm_room)))), (h_wri, .inl (cy_wri, 1000, .inl f8))] := hD
    clear evq5 
    obtain ⟨k9, k10⟩ := hq
    replace k9 : 0 ≤ ((z7)).toInt ∧ ((z7)).toInt ≤ 1000 := k9
    replace k10 : ((z7)).toInt = ((x_mm_writes)).toInt + nlR 14 ((z4)).toInt := k10
    refine lv_iconst (v := 0) hx hb dX11_saysTerm_113 (by decide) ?_
    refine lv_istore (lv' := [(6, .int 0), (5, .int (-1)), (4, .int p1), (0, .ref h_mm), (1, .int p1), (2, .int (-1)), (3, .int p3)]) hx hb dX11_saysTerm_114 hl (by decide) rfl (fun ls hl => ?_)
    have lp14 : ∀ (n : Nat) (x11 : Int32) (x12 : Int32) (f13 : Nat → Int32) (H : Heap) (locs : List Loc) (ls : Array Slot), (0 ≤ (x11).toInt ∧ (x11).toInt ≤ 3) → (0 ≤ (x12).toInt ∧ (x12).toInt ≤ 1000) → ((x12).toInt = (x_mm_writes).toInt + nlR 14 (f_nn (p1).toInt.toNat).toInt + slX (nlR 14) (RVW f_nv f_nn f_na f_nb f_nc) d9 (p1).toInt.toNat (Int.toNat ((x11).toInt))) → ((x11).toInt ≤ (M9 : Int)) → (3 - (x11).toInt).toNat + 1 ≤ n → va_P (dC, dI) cls [(h_let, .inl (cy_let, 256, .inl f_let)), (h_nv, .inl (cy_nv, 8000, .inl f_nv)), (h_nn, .inl (cy_nn, 8000, .inr (.inl f_nn))), (h_na, .inl (cy_na, 8000, .inl f_na)), (h_nb, .inl (cy_nb, 8000, .inl f_nb)), (h_nc, .inl (cy_nc, 8000, .inl f_nc)), (h_mm, .inr (8, (mo156 v_mm (.ref h_nv) (.ref h_nn) (.ref h_na) (.ref h_nb) (.ref h_nc) (.ref h_let) (.ref h_wri) (.int x12) (.int x_mm_room)))), (h_wri, .inl (cy_wri, 1000, .inl f13))] H → va_D A [(h_let, .inl (cy_let, 256, .inl f_let)), (h_nv, .inl (cy_nv, 8000, .inl f_nv)), (h_nn, .inl (cy_nn, 8000, .inr (.inl f_nn))), (h_na, .inl (cy_na, 8000, .inl f_na)), (h_nb, .inl (cy_nb, 8000, .inl f_nb)), (h_nc, .inl (cy_nc, 8000, .inl f_nc)), (h_mm, .inr (8, (mo156 v_mm (.ref h_nv) (.ref h_nn) (.ref h_na) (.ref h_nb) (.ref h_nc) (.ref h_let) (.ref h_wri) (.int x12) (.int x_mm_room)))), (h_wri, .inl (cy_wri, 1000, .inl f13))] → va_S A s.heap H locs → lv_has ls 7 [(0, .ref h_mm), (1, .int p1), (2, .int (-1)), (3, .int p3), (4, .int p1), (5, .int (-1)), (6, .int x11)] → W p l e ({ frames := (fu + 1) + 15, cells := 0, slots := 0, locals := 26 * (fu + 1) + 329 } : Room) s m ([.ref h_mm, .int p1, .int (-1), .int p3] : List Value).toArray below meth c H locs 0 0 (MQ below (va_Qv (fun (u : (Int32) × (Nat → Int32)) => (0 ≤ (u.1).toInt ∧ (u.1).toInt ≤ 1000) ∧ ((u.1).toInt = (x_mm_writes).toInt + lnX (nlR 14) (RVW f_nv f_nn f_na f_nb f_nc) dd (p1).toInt.toNat)) (fun (u : (Int32) × (Nat → Int32)) (t : State) => va_P (dC, dI) cls [(h_mm, .inr (8, (mo156 v_mm (.ref h_nv) (.ref h_nn) (.ref h_na) (.ref h_nb) (.ref h_nc) (.ref h_let) (.ref h_wri) (.int u.1) (.int x_mm_room)))), (h_wri, .inl (cy_wri, 1000, .inl u.2)), (h_let, .inl (cy_let, 256, .inl f_let)), (h_nv, .inl (cy_nv, 8000, .inl f_nv)), (h_nn, .inl (cy_nn, 8000, .inr (.inl f_nn))), (h_na, .inl (cy_na, 8000, .inl f_na)), (h_nb, .inl (cy_nb, 8000, .inl f_nb)), (h_nc, .inl (cy_nc, 8000, .inl f_nc))] t.heap ∧ va_D A [(h_mm, .inr (8, (mo156 v_mm (.ref h_nv) (.ref h_nn) (.ref h_na) (.ref h_nb) (.ref h_nc) (.ref h_let) (.ref h_wri) (.int u.1) (.int x_mm_room)))), (h_wri, .inl (cy_wri, 1000, .inl u.2)), (h_let, .inl (cy_let, 256, .inl f_let)), (h_nv, .inl (cy_nv, 8000, .inl f_nv)), (h_nn, .inl (cy_nn, 8000, .inr (.inl f_nn))), (h_na, .inl (cy_na, 8000, .inl f_na)), (h_nb, .inl (cy_nb, 8000, .inl f_nb)), (h_nc, .inl (cy_nc, 8000, .inl f_nc))]) A) ([.ref h_mm, .int p1, .int (-1), .int p3] : List Value).toArray s 0 0 A) (F0 m 116 ls []) := by
      clear hP hD hS hl
      intro n
      induction n with
      | zero => intro x11 x12 f13 H locs ls klp14_0 klp14_1 klp14_2 klp14_3 hm hP hD hS hl; exact False.elim (by omega)
      | succ n ih => 
        intro x11 x12 f13 H locs ls klp14_0 klp14_1 klp14_2 klp14_3 hm hP hD hS hl
        have ih15 := ih
        clear ih
        refine lv_iload hx hb dX11_saysTerm_116 (lv_at hl 6 rfl) ?_
        have sx9 : (x11).toInt = (M9 : Int) → slX (nlR 14) (RVW f_nv f_nn f_na f_nb f_nc) d9 (p1).toInt.toNat (Int.toNat (x11).toInt) = slX (nlR 14) (RVW f_nv f_nn f_na f_nb f_nc) d9 (p1).toInt.toNat M9 := fun h9 => by rw [show Int.toNat (x11).toInt = M9 by omega]
        refine lv_aload_n hx hb dX11_saysTerm_118 rfl (lv_at hl 0 rfl) ?_
        refine lv_iload hx hb dX11_saysTerm_119 (lv_at hl 4 rfl) ?_
        obtain ⟨vq16, evq16⟩ := mq156_86 v_mm (.ref h_nn) (.ref h_let) (.ref h_wri) (.int x12) (.int x_mm_room)
        replace hP : va_P (dC, dI) cls [(h_let, .inl (cy_let, 256, .inl f_let)), (h_nv, .inl (cy_nv, 8000, .inl f_nv)), (h_nn, .inl (cy_nn, 8000, .inr (.inl f_nn))), (h_na, .inl (cy_na, 8000, .inl f_na)), (h_nb, .inl (cy_nb, 8000, .inl f_nb)), (h_nc, .inl (cy_nc, 8000, .inl f_nc)), (h_mm, .inr (8, (mo86 vq16 (.ref h_nv) (.ref h_na) (.ref h_nb) (.ref h_nc)))), (h_wri, .inl (cy_wri, 1000, .inl f13))] H := by rw [evq16]; exact hP
        replace hD : va_D A [(h_let, .inl (cy_let, 256, .inl f_let)), (h_nv, .inl (cy_nv, 8000, .inl f_nv)), (h_nn, .inl (cy_nn, 8000, .inr (.inl f_nn))), (h_na, .inl (cy_na, 8000, .inl f_na)), (h_nb, .inl (cy_nb, 8000, .inl f_nb)), (h_nc, .inl (cy_nc, 8000, .inl f_nc)), (h_mm, .inr (8, (mo86 vq16 (.ref h_nv) (.ref h_na) (.ref h_nb) (.ref h_nc)))), (h_wri, .inl (cy_wri, 1000, .inl f13))] := by rw [evq16]; exact hD
        have hPc := hP.sub (ws' := [(h_mm, .inr (8, (mo86 vq16 (.ref h_nv) (.ref h_na) (.ref h_nb) (.ref h_nc)))), (h_nv, .inl (cy_nv, 8000, .inl f_nv)), (h_na, .inl (cy_na, 8000, .inl f_na)), (h_nb, .inl (cy_nb, 8000, .inl f_nb)), (h_nc, .inl (cy_nc, 8000, .inl f_nc))]) [6, 1, 3, 4, 5] rfl
        have hDc := hD.sub (ws' := [(h_mm, .inr (8, (mo86 vq16 (.ref h_nv) (.ref h_na) (.ref h_nb) (.ref h_nc)))), (h_nv, .inl (cy_nv, 8000, .inl f_nv)), (h_na, .inl (cy_na, 8000, .inl f_na)), (h_nb, .inl (cy_nb, 8000, .inl f_nb)), (h_nc, .inl (cy_nc, 8000, .inl f_nc))]) [6, 1, 3, 4, 5] (by decide) rfl
        have hKc := hK.sub (tys' := [(cy_nv, .int), (cy_na, .int), (cy_nb, .int), (cy_nc, .int)]) [2, 4, 5, 6] rfl
        have hFc := va_free (wc := [(h_mm, .inr (8, (mo86 vq16 (.ref h_nv) (.ref h_na) (.ref h_nb) (.ref h_nc)))), (h_nv, .inl (cy_nv, 8000, .inl f_nv)), (h_na, .inl (cy_na, 8000, .inl f_na)), (h_nb, .inl (cy_nb, 8000, .inl f_nb)), (h_nc, .inl (cy_nc, 8000, .inl f_nc))]) hD hS hA [6, 1, 3, 4, 5] rfl
        refine va_calli (va_runV (As := [.int p1]) (rest := [.int x11]) ⟨hx, hb, hml, hown, hts⟩ (c_X11_partsAt_e l dC dI H.size h_mm h_nv h_na h_nb h_nc vq16 cy_nv f_nv cy_na f_na cy_nb f_nb cy_nc f_nc p1 hf_nv hf_na hf_nb hf_nc (by omega)) (cwV 1 hts (gv hT w_m_X11_27 w_instanceMethod_X11_partsAt ws_sel_X11_partsAt w_ini_X11 w_code_X11_partsAt) rfl rfl rfl (by decide +kernel) ⟨(by dsimp only [headSpec]; omega), (by dsimp only [headSpec]; omega)⟩) ⟨pre_blind, va_recv hK hP (ci := 8) (q0 := 6) rfl rfl, pre_of hPc hKc hDc hN⟩ rfl rfl hl.1 rfl (lv_room (Nat.le_of_ble_eq_true rfl)) dX11_saysTerm_121 ⟨(Nat.le_of_ble_eq_true rfl), (Nat.le_of_ble_eq_true rfl)⟩) hS (fun q _ h => hFc q h) hFc (fun r17 u t H locs ht hvm hq hB hz1 hk1 hS9 => ?_)
        obtain ⟨hP1, hD1⟩ := hB
        rw [ht] at hP1
        obtain ⟨hP9, hD9⟩ := va_join (wr := [(h_let, .inl (cy_let, 256, .inl f_let)), (h_nn, .inl (cy_nn, 8000, .inr (.inl f_nn))), (h_wri, .inl (cy_wri, 1000, .inl f13))]) (w1 := [(h_mm, .inr (8, (mo86 vq16 (.ref h_nv) (.ref h_na) (.ref h_nb) (.ref h_nc)))), (h_nv, .inl (cy_nv, 8000, .inl f_nv)), (h_na, .inl (cy_na, 8000, .inl f_na)), (h_nb, .inl (cy_nb, 8000, .inl f_nb)), (h_nc, .inl (cy_nc, 8000, .inl f_nc))]) hP hD [6, 1, 3, 4, 5] [0, 2, 7] rfl rfl (by decide) (by decide) hk1 hFc hP1 hD1
        clear hP hD hS hPc hDc hKc hFc hP1 hD1 hk1 hz1 ht hvm
        have hP : va_P (dC, dI) cls [(h_let, .inl (cy_let, 256, .inl f_let)), (h_nn, .inl (cy_nn, 8000, .inr (.inl f_nn))), (h_wri, .inl (cy_wri, 1000, .inl f13)), (h_mm, .inr (8, (mo86 vq16 (.ref h_nv) (.ref h_na) (.ref h_nb) (.ref h_nc)))), (h_nv, .inl (cy_nv, 8000, .inl f_nv)), (h_na, .inl (cy_na, 8000, .inl f_na)), (h_nb, .inl (cy_nb, 8000, .inl f_nb)), (h_nc, .inl (cy_nc, 8000, .inl f_nc))] H := hP9
        have hD : va_D A [(h_let, .inl (cy_let, 256, .inl f_let)), (h_nn, .inl (cy_nn, 8000, .inr (.inl f_nn))), (h_wri, .inl (cy_wri, 1000, .inl f13)), (h_mm, .inr (8, (mo86 vq16 (.ref h_nv) (.ref h_na) (.ref h_nb) (.ref h_nc)))), (h_nv, .inl (cy_nv, 8000, .inl f_nv)), (h_na, .inl (cy_na, 8000, .inl f_na)), (h_nb, .inl (cy_nb, 8000, .inl f_nb)), (h_nc, .inl (cy_nc, 8000, .inl f_nc))] := hD9
        have hS := hS9
        clear hP9 hD9 hS9
        rw [evq16] at hP hD
        replace hP : va_P (dC, dI) cls [(h_let, .inl (cy_let, 256, .inl f_let)), (h_nn, .inl (cy_nn, 8000, .inr (.inl f_nn))), (h_wri, .inl (cy_wri, 1000, .inl f13)), (h_mm, .inr (8, (mo156 v_mm (.ref h_nv) (.ref h_nn) (.ref h_na) (.ref h_nb) (.ref h_nc) (.ref h_let) (.ref h_wri) (.int x12) (.int x_mm_room)))), (h_nv, .inl (cy_nv, 8000, .inl f_nv)), (h_na, .inl (cy_na, 8000, .inl f_na)), (h_nb, .inl (cy_nb, 8000, .inl f_nb)), (h_nc, .inl (cy_nc, 8000, .inl f_nc))] H := hP
        replace hD : va_D A [(h_let, .inl (cy_let, 256, .inl f_let)), (h_nn, .inl (cy_nn, 8000, .inr (.inl f_nn))), (h_wri, .inl (cy_wri, 1000, .inl f13)), (h_mm, .inr (8, (mo156 v_mm (.ref h_nv) (.ref h_nn) (.ref h_na) (.ref h_nb) (.ref h_nc) (.ref h_let) (.ref h_wri) (.int x12) (.int x_mm_room)))), (h_nv, .inl (cy_nv, 8000, .inl f_nv)), (h_na, .inl (cy_na, 8000, .inl f_na)), (h_nb, .inl (cy_nb, 8000, .inl f_nb)), (h_nc, .inl (cy_nc, 8000, .inl f_nc))] := hD
        clear evq16 
        obtain ⟨k18, k19⟩ := hq
        replace k18 : 0 ≤ (r17).toInt ∧ (r17).toInt ≤ 3 := k18
        replace k19 : ((r17)).toInt = (npx f_nv f_na f_nb f_nc ((p1)).toInt.toNat) := k19
        refine lv_icmp_ge (tgt := 164) hx hb dX11_saysTerm_124 (by decide) (fun c20 => ?_) (fun c20 => ?_)
        · have kc20 := (cv_le (rfl : (r17).toInt = (r17).toInt) (rfl : (x11).toInt = (x11).toInt)).mp c20
          refine lv_aload_n hx hb dX11_saysTerm_164 rfl (lv_at hl 0 rfl) ?_
          refine lv_iload hx hb dX11_saysTerm_165 (lv_at hl 4 rfl) ?_
          obtain ⟨vq21, evq21⟩ := mq156_86 v_mm (.ref h_nn) (.ref h_let) (.ref h_wri) (.int x12) (.int x_mm_room)
          replace hP : va_P (dC, dI) cls [(h_let, .inl (cy_let, 256, .inl f_let)), (h_nn, .inl (cy_nn, 8000, .inr (.inl f_nn))), (h_wri, .inl (cy_wri, 1000, .inl f13)), (h_mm, .inr (8, (mo86 vq21 (.ref h_nv) (.ref h_na) (.ref h_nb) (.ref h_nc)))), (h_nv, .inl (cy_nv, 8000, .inl f_nv)), (h_na, .inl (cy_na, 8000, .inl f_na)), (h_nb, .inl (cy_nb, 8000, .inl f_nb)), (h_nc, .inl (cy_nc, 8000, .inl f_nc))] H := by rw [evq21]; exact hP
          replace hD : va_D A [(h_let, .inl (cy_let, 256, .inl f_let)), (h_nn, .inl (cy_nn, 8000, .inr (.inl f_nn))), (h_wri, .inl (cy_wri, 1000, .inl f13)), (h_mm, .inr (8, (mo86 vq21 (.ref h_nv) (.ref h_na) (.ref h_nb) (.ref h_nc)))), (h_nv, .inl (cy_nv, 8000, .inl f_nv)), (h_na, .inl (cy_na, 8000, .inl f_na)), (h_nb, .inl (cy_nb, 8000, .inl f_nb)), (h_nc, .inl (cy_nc, 8000, .inl f_nc))] := by rw [evq21]; exact hD
          have hPc := hP.sub (ws' := [(h_mm, .inr (8, (mo86 vq21 (.ref h_nv) (.ref h_na) (.ref h_nb) (.ref h_nc)))), (h_nv, .inl (cy_nv, 8000, .inl f_nv)), (h_na, .inl (cy_na, 8000, .inl f_na)), (h_nb, .inl (cy_nb, 8000, .inl f_nb)), (h_nc, .inl (cy_nc, 8000, .inl f_nc))]) [3, 4, 5, 6, 7] rfl
          have hDc := hD.sub (ws' := [(h_mm, .inr (8, (mo86 vq21 (.ref h_nv) (.ref h_na) (.ref h_nb) (.ref h_nc)))), (h_nv, .inl (cy_nv, 8000, .inl f_nv)), (h_na, .inl (cy_na, 8000, .inl f_na)), (h_nb, .inl (cy_nb, 8000, .inl f_nb)), (h_nc, .inl (cy_nc, 8000, .inl f_nc))]) [3, 4, 5, 6, 7] (by decide) rfl
          have hKc := hK.sub (tys' := [(cy_nv, .int), (cy_na, .int), (cy_nb, .int), (cy_nc, .int)]) [2, 4, 5, 6] rfl
          have hFc := va_free (wc := [(h_mm, .inr (8, (mo86 vq21 (.ref h_nv) (.ref h_na) (.ref h_nb) (.ref h_nc)))), (h_nv, .inl (cy_nv, 8000, .inl f_nv)), (h_na, .inl (cy_na, 8000, .inl f_na)), (h_nb, .inl (cy_nb, 8000, .inl f_nb)), (h_nc, .inl (cy_nc, 8000, .inl f_nc))]) hD hS hA [3, 4, 5, 6, 7] rfl
          refine va_calli (va_runV (As := [.int p1]) (rest := []) ⟨hx, hb, hml, hown, hts⟩ (c_X11_partsAt_e l dC dI H.size h_mm h_nv h_na h_nb h_nc vq21 cy_nv f_nv cy_na f_na cy_nb f_nb cy_nc f_nc p1 hf_nv hf_na hf_nb hf_nc (by omega)) (cwV 1 hts (gv hT w_m_X11_27 w_instanceMethod_X11_partsAt ws_sel_X11_partsAt w_ini_X11 w_code_X11_partsAt) rfl rfl rfl (by decide +kernel) ⟨(by dsimp only [headSpec]; omega), (by dsimp only [headSpec]; omega)⟩) ⟨pre_blind, va_recv hK hP (ci := 8) (q0 := 3) rfl rfl, pre_of hPc hKc hDc hN⟩ rfl rfl hl.1 rfl (lv_room (Nat.le_of_ble_eq_true rfl)) dX11_saysTerm_167 ⟨(Nat.le_of_ble_eq_true rfl), (Nat.le_of_ble_eq_true rfl)⟩) hS (fun q _ h => hFc q h) hFc (fun r22 u t H locs ht hvm hq hB hz1 hk1 hS9 => ?_)
          obtain ⟨hP1, hD1⟩ := hB
          rw [ht] at hP1
          obtain ⟨hP9, hD9⟩ := va_join (wr := [(h_let, .inl (cy_let, 256, .inl f_let)), (h_nn, .inl (cy_nn, 8000, .inr (.inl f_nn))), (h_wri, .inl (cy_wri, 1000, .inl f13))]) (w1 := [(h_mm, .inr (8, (mo86 vq21 (.ref h_nv) (.ref h_na) (.ref h_nb) (.ref h_nc)))), (h_nv, .inl (cy_nv, 8000, .inl f_nv)), (h_na, .inl (cy_na, 8000, .inl f_na)), (h_nb, .inl (cy_nb, 8000, .inl f_nb)), (h_nc, .inl (cy_nc, 8000, .inl f_nc))]) hP hD [3, 4, 5, 6, 7] [0, 1, 2] rfl rfl (by decide) (by decide) hk1 hFc hP1 hD1
          clear hP hD hS hPc hDc hKc hFc hP1 hD1 hk1 hz1 ht hvm
          have hP : va_P (dC, dI) cls [(h_let, .inl (cy_let, 256, .inl f_let)), (h_nn, .inl (cy_nn, 8000, .inr (.inl f_nn))), (h_wri, .inl (cy_wri, 1000, .inl f13)), (h_mm, .inr (8, (mo86 vq21 (.ref h_nv) (.ref h_na) (.ref h_nb) (.ref h_nc)))), (h_nv, .inl (cy_nv, 8000, .inl f_nv)), (h_na, .inl (cy_na, 8000, .inl f_na)), (h_nb, .inl (cy_nb, 8000, .inl f_nb)), (h_nc, .inl (cy_nc, 8000, .inl f_nc))] H := hP9
          have hD : va_D A [(h_let, .inl (cy_let, 256, .inl f_let)), (h_nn, .inl (cy_nn, 8000, .inr (.inl f_nn))), (h_wri, .inl (cy_wri, 1000, .inl f13)), (h_mm, .inr (8, (mo86 vq21 (.ref h_nv) (.ref h_na) (.ref h_nb) (.ref h_nc)))), (h_nv, .inl (cy_nv, 8000, .inl f_nv)), (h_na, .inl (cy_na, 8000, .inl f_na)), (h_nb, .inl (cy_nb, 8000, .inl f_nb)), (h_nc, .inl (cy_nc, 8000, .inl f_nc))] := hD9
          have hS := hS9
          clear hP9 hD9 hS9
          rw [evq21] at hP hD
          replace hP : va_P (dC, dI) cls [(h_let, .inl (cy_let, 256, .inl f_let)), (h_nn, .inl (cy_nn, 8000, .inr (.inl f_nn))), (h_wri, .inl (cy_wri, 1000, .inl f13)), (h_mm, .inr (8, (mo156 v_mm (.ref h_nv) (.ref h_nn) (.ref h_na) (.ref h_nb) (.ref h_nc) (.ref h_let) (.ref h_wri) (.int x12) (.int x_mm_room)))), (h_nv, .inl (cy_nv, 8000, .inl f_nv)), (h_na, .inl (cy_na, 8000, .inl f_na)), (h_nb, .inl (cy_nb, 8000, .inl f_nb)), (h_nc, .inl (cy_nc, 8000, .inl f_nc))] H := hP
          replace hD : va_D A [(h_let, .inl (cy_let, 256, .inl f_let)), (h_nn, .inl (cy_nn, 8000, .inr (.inl f_nn))), (h_wri, .inl (cy_wri, 1000, .inl f13)), (h_mm, .inr (8, (mo156 v_mm (.ref h_nv) (.ref h_nn) (.ref h_na) (.ref h_nb) (.ref h_nc) (.ref h_let) (.ref h_wri) (.int x12) (.int x_mm_room)))), (h_nv, .inl (cy_nv, 8000, .inl f_nv)), (h_na, .inl (cy_na, 8000, .inl f_na)), (h_nb, .inl (cy_nb, 8000, .inl f_nb)), (h_nc, .inl (cy_nc, 8000, .inl f_nc))] := hD
          clear evq21 
          obtain ⟨k23, k24⟩ := hq
          replace k23 : 0 ≤ (r22).toInt ∧ (r22).toInt ≤ 3 := k23
          replace k24 : ((r22)).toInt = (npx f_nv f_na f_nb f_nc ((p1)).toInt.toNat) := k24
          refine lv_if_le (tgt := 179) hx hb dX11_saysTerm_170 (by decide) (fun c25 => ?_) (fun c25 => ?_)
          · have kc25 := (cv_le (rfl : (r22).toInt = (r22).toInt) (by decide : (0 : Int32).toInt = 0)).mp c25
            replace hP : va_P (dC, dI) cls [(h_mm, .inr (8, (mo156 v_mm (.ref h_nv) (.ref h_nn) (.ref h_na) (.ref h_nb) (.ref h_nc) (.ref h_let) (.ref h_wri) (.int x12) (.int x_mm_room)))), (h_wri, .inl (cy_wri, 1000, .inl f13)), (h_let, .inl (cy_let, 256, .inl f_let)), (h_nv, .inl (cy_nv, 8000, .inl f_nv)), (h_nn, .inl (cy_nn, 8000, .inr (.inl f_nn))), (h_na, .inl (cy_na, 8000, .inl f_na)), (h_nb, .inl (cy_nb, 8000, .inl f_nb)), (h_nc, .inl (cy_nc, 8000, .inl f_nc))] H := hP.sub [3, 2, 0, 4, 1, 5, 6, 7] rfl
            replace hD : va_D A [(h_mm, .inr (8, (mo156 v_mm (.ref h_nv) (.ref h_nn) (.ref h_na) (.ref h_nb) (.ref h_nc) (.ref h_let) (.ref h_wri) (.int x12) (.int x_mm_room)))), (h_wri, .inl (cy_wri, 1000, .inl f13)), (h_let, .inl (cy_let, 256, .inl f_let)), (h_nv, .inl (cy_nv, 8000, .inl f_nv)), (h_nn, .inl (cy_nn, 8000, .inr (.inl f_nn))), (h_na, .inl (cy_na, 8000, .inl f_na)), (h_nb, .inl (cy_nb, 8000, .inl f_nb)), (h_nc, .inl (cy_nc, 8000, .inl f_nc))] := hD.sub [3, 2, 0, 4, 1, 5, 6, 7] (by decide) rfl
            refine W.widen (k := 0) (n := 0) (Nat.le_of_ble_eq_true rfl) (Nat.le_of_ble_eq_true rfl) ?_
            have w26 : 0 ≤ ((x12)).toInt ∧ ((x12)).toInt ≤ 1000 := by first | exact klp14_1 | omega
            have w27 : ((x12)).toInt = (x_mm_writes).toInt + lnX (nlR 14) (RVW f_nv f_nn f_na f_nb f_nc) dd (p1).toInt.toNat := by omega
            exact W.vret hx hb hr (fun t ht hW => ⟨⟨(x12, f13), rfl, ⟨w26, w27⟩, by rw [ht]; exact hP, hD⟩, hS.F ht⟩) hS.2.2 dX11_saysTerm_179
          · have kc25 := (not_congr (cv_le (rfl : (r22).toInt = (r22).toInt) (by decide : (0 : Int32).toInt = 0))).mp c25
            refine lv_aload_n hx hb dX11_saysTerm_173 rfl (lv_at hl 0 rfl) ?_
            refine lv_bipush (v := 41) hx hb dX11_saysTerm_174 (by decide) ?_
            obtain ⟨vq28, evq28⟩ := mq156_118 v_mm (.ref h_nv) (.ref h_nn) (.ref h_na) (.ref h_nb) (.ref h_nc) (.ref h_let)
            replace hP : va_P (dC, dI) cls [(h_let, .inl (cy_let, 256, .inl f_let)), (h_nn, .inl (cy_nn, 8000, .inr (.inl f_nn))), (h_wri, .inl (cy_wri, 1000, .inl f13)), (h_mm, .inr (8, (mo118 vq28 (.ref h_wri) (.int x12) (.int x_mm_room)))), (h_nv, .inl (cy_nv, 8000, .inl f_nv)), (h_na, .inl (cy_na, 8000, .inl f_na)), (h_nb, .inl (cy_nb, 8000, .inl f_nb)), (h_nc, .inl (cy_nc, 8000, .inl f_nc))] H := by rw [evq28]; exact hP
            replace hD : va_D A [(h_let, .inl (cy_let, 256, .inl f_let)), (h_nn, .inl (cy_nn, 8000, .inr (.inl f_nn))), (h_wri, .inl (cy_wri, 1000, .inl f13)), (h_mm, .inr (8, (mo118 vq28 (.ref h_wri) (.int x12) (.int x_mm_room)))), (h_nv, .inl (cy_nv, 8000, .inl f_nv)), (h_na, .inl (cy_na, 8000, .inl f_na)), (h_nb, .inl (cy_nb, 8000, .inl f_nb)), (h_nc, .inl (cy_nc, 8000, .inl f_nc))] := by rw [evq28]; exact hD
            have cst41 : (41 : Int32).toInt = 41 := by decide
            have hPc := hP.sub (ws' := [(h_mm, .inr (8, (mo118 vq28 (.ref h_wri) (.int x12) (.int x_mm_room)))), (h_wri, .inl (cy_wri, 1000, .inl f13))]) [3, 2] rfl
            have hDc := hD.sub (ws' := [(h_mm, .inr (8, (mo118 vq28 (.ref h_wri) (.int x12) (.int x_mm_room)))), (h_wri, .inl (cy_wri, 1000, .inl f13))]) [3, 2] (by decide) rfl
            have hKc := hK.sub (tys' := [(cy_wri, .int)]) [0] rfl
            have hFc := va_free (wc := [(h_mm, .inr (8, (mo118 vq28 (.ref h_wri) (.int x12) (.int x_mm_room)))), (h_wri, .inl (cy_wri, 1000, .inl f13))]) hD hS hA [3, 2] rfl
            refine va_callv (va_runV (As := [.int 41]) (rest := []) ⟨hx, hb, hml, hown, hts⟩ (c_X11_says_n l dC dI H.size h_mm h_wri vq28 x12 x_mm_room cy_wri f13 41 (by first | exact klp14_1 | omega) (by first | exact hx_mm_room | omega) (by omega)) (cwV 1 hts (gv hT w_m_X11_452 w_instanceMethod_X11_says ws_sel_X11_says w_ini_X11 w_code_X11_says) rfl rfl rfl (by decide +kernel) ⟨(by dsimp only [headSpec]; omega), (by dsimp only [headSpec]; omega)⟩) ⟨pre_blind, va_recv hK hP (ci := 8) (q0 := 3) rfl rfl, pre_of hPc hKc hDc hN⟩ rfl rfl hl.1 rfl (lv_room (Nat.le_of_ble_eq_true rfl)) dX11_saysTerm_176 ⟨(Nat.le_of_ble_eq_true rfl), (Nat.le_of_ble_eq_true rfl)⟩) hS (fun q _ h => hFc q h) hFc (fun u t H locs ht hvm hq hB hz1 hk1 hS9 => ?_)
            obtain ⟨z30, f31⟩ := u
            obtain ⟨hP1, hD1⟩ := hB
            rw [ht] at hP1
            obtain ⟨hP9, hD9⟩ := va_join (wr := [(h_let, .inl (cy_let, 256, .inl f_let)), (h_nn, .inl (cy_nn, 8000, .inr (.inl f_nn))), (h_nv, .inl (cy_nv, 8000, .inl f_nv)), (h_na, .inl (cy_na, 8000, .inl f_na)), (h_nb, .inl (cy_nb, 8000, .inl f_nb)), (h_nc, .inl (cy_nc, 8000, .inl f_nc))]) (w1 := [(h_mm, .inr (8, (mo118 vq28 (.ref h_wri) (.int z30) (.int x_mm_room)))), (h_wri, .inl (cy_wri, 1000, .inl f31))]) hP hD [3, 2] [0, 1, 4, 5, 6, 7] rfl rfl (by decide) (by decide) hk1 hFc hP1 hD1
            clear hP hD hS hPc hDc hKc hFc hP1 hD1 hk1 hz1 ht hvm
            have hP : va_P (dC, dI) cls [(h_let, .inl (cy_let, 256, .inl f_let)), (h_nn, .inl (cy_nn, 8000, .inr (.inl f_nn))), (h_nv, .inl (cy_nv, 8000, .inl f_nv)), (h_na, .inl (cy_na, 8000, .inl f_na)), (h_nb, .inl (cy_nb, 8000, .inl f_nb)), (h_nc, .inl (cy_nc, 8000, .inl f_nc)), (h_mm, .inr (8, (mo118 vq28 (.ref h_wri) (.int z30) (.int x_mm_room)))), (h_wri, .inl (cy_wri, 1000, .inl f31))] H := hP9
            have hD : va_D A [(h_let, .inl (cy_let, 256, .inl f_let)), (h_nn, .inl (cy_nn, 8000, .inr (.inl f_nn))), (h_nv, .inl (cy_nv, 8000, .inl f_nv)), (h_na, .inl (cy_na, 8000, .inl f_na)), (h_nb, .inl (cy_nb, 8000, .inl f_nb)), (h_nc, .inl (cy_nc, 8000, .inl f_nc)), (h_mm, .inr (8, (mo118 vq28 (.ref h_wri) (.int z30) (.int x_mm_room)))), (h_wri, .inl (cy_wri, 1000, .inl f31))] := hD9
            have hS := hS9
            clear hP9 hD9 hS9
            rw [evq28] at hP hD
            replace hP : va_P (dC, dI) cls [(h_let, .inl (cy_let, 256, .inl f_let)), (h_nn, .inl (cy_nn, 8000, .inr (.inl f_nn))), (h_nv, .inl (cy_nv, 8000, .inl f_nv)), (h_na, .inl (cy_na, 8000, .inl f_na)), (h_nb, .inl (cy_nb, 8000, .inl f_nb)), (h_nc, .inl (cy_nc, 8000, .inl f_nc)), (h_mm, .inr (8, (mo156 v_mm (.ref h_nv) (.ref h_nn) (.ref h_na) (.ref h_nb) (.ref h_nc) (.ref h_let) (.ref h_wri) (.int z30) (.int x_mm_room)))), (h_wri, .inl (cy_wri, 1000, .inl f31))] H := hP
            replace hD : va_D A [(h_let, .inl (cy_let, 256, .inl f_let)), (h_nn, .inl (cy_nn, 8000, .inr (.inl f_nn))), (h_nv, .inl (cy_nv, 8000, .inl f_nv)), (h_na, .inl (cy_na, 8000, .inl f_na)), (h_nb, .inl (cy_nb, 8000, .inl f_nb)), (h_nc, .inl (cy_nc, 8000, .inl f_nc)), (h_mm, .inr (8, (mo156 v_mm (.ref h_nv) (.ref h_nn) (.ref h_na) (.ref h_nb) (.ref h_nc) (.ref h_let) (.ref h_wri) (.int z30) (.int x_mm_room)))), (h_wri, .inl (cy_wri, 1000, .inl f31))] := hD
            clear evq28 
            obtain ⟨k32, k33⟩ := hq
            replace k32 : 0 ≤ ((z30)).toInt ∧ ((z30)).toInt ≤ 1000 := k32
            replace k33 : ((z30)).toInt = ((x12)).toInt + 1 := k33
            replace hP : va_P (dC, dI) cls [(h_mm, .inr (8, (mo156 v_mm (.ref h_nv) (.ref h_nn) (.ref h_na) (.ref h_nb) (.ref h_nc) (.ref h_let) (.ref h_wri) (.int z30) (.int x_mm_room)))), (h_wri, .inl (cy_wri, 1000, .inl f31)), (h_let, .inl (cy_let, 256, .inl f_let)), (h_nv, .inl (cy_nv, 8000, .inl f_nv)), (h_nn, .inl (cy_nn, 8000, .inr (.inl f_nn))), (h_na, .inl (cy_na, 8000, .inl f_na)), (h_nb, .inl (cy_nb, 8000, .inl f_nb)), (h_nc, .inl (cy_nc, 8000, .inl f_nc))] H := hP.sub [6, 7, 0, 2, 1, 3, 4, 5] rfl
            replace hD : va_D A [(h_mm, .inr (8, (mo156 v_mm (.ref h_nv) (.ref h_nn) (.ref h_na) (.ref h_nb) (.ref h_nc) (.ref h_let) (.ref h_wri) (.int z30) (.int x_mm_room)))), (h_wri, .inl (cy_wri, 1000, .inl f31)), (h_let, .inl (cy_let, 256, .inl f_let)), (h_nv, .inl (cy_nv, 8000, .inl f_nv)), (h_nn, .inl (cy_nn, 8000, .inr (.inl f_nn))), (h_na, .inl (cy_na, 8000, .inl f_na)), (h_nb, .inl (cy_nb, 8000, .inl f_nb)), (h_nc, .inl (cy_nc, 8000, .inl f_nc))] := hD.sub [6, 7, 0, 2, 1, 3, 4, 5] (by decide) rfl
            refine W.widen (k := 0) (n := 0) (Nat.le_of_ble_eq_true rfl) (Nat.le_of_ble_eq_true rfl) ?_
            have w34 : 0 ≤ ((z30)).toInt ∧ ((z30)).toInt ≤ 1000 := by first | exact k32 | omega
            have w35 : ((z30)).toInt = (x_mm_writes).toInt + lnX (nlR 14) (RVW f_nv f_nn f_na f_nb f_nc) dd (p1).toInt.toNat := by omega
            exact W.vret hx hb hr (fun t ht hW => ⟨⟨(z30, f31), rfl, ⟨w34, w35⟩, by rw [ht]; exact hP, hD⟩, hS.F ht⟩) hS.2.2 dX11_saysTerm_179
        · have kc20 := (not_congr (cv_le (rfl : (r17).toInt = (r17).toInt) (rfl : (x11).toInt = (x11).toInt))).mp c20
          have sr9 : slX (nlR 14) (RVW f_nv f_nn f_na f_nb f_nc) d9 (p1).toInt.toNat (Int.toNat ((x11).toInt + 1)) = slX (nlR 14) (RVW f_nv f_nn f_na f_nb f_nc) d9 (p1).toInt.toNat (Int.toNat (x11).toInt) + (1 + lnX (nlR 14) (RVW f_nv f_nn f_na f_nb f_nc) d9 (((RVW f_nv f_nn f_na f_nb f_nc)).2.2.2 (p1).toInt.toNat (Int.toNat (x11).toInt))) := by rw [show Int.toNat ((x11).toInt + 1) = Int.toNat (x11).toInt + 1 by omega]; rfl
          have lq9 := lnX_ge (nlR_ge 14) (V := (RVW f_nv f_nn f_na f_nb f_nc)) d9 (((RVW f_nv f_nn f_na f_nb f_nc)).2.2.2 (p1).toInt.toNat (Int.toNat (x11).toInt))
          have so9 := slX_mono (nlR_ge 14) (V := (RVW f_nv f_nn f_na f_nb f_nc)) (d := d9) (x := (p1).toInt.toNat) (j := Int.toNat ((x11).toInt + 1)) M9 (by omega)
          have sp9 := slX_ge (nlR_ge 14) (V := (RVW f_nv f_nn f_na f_nb f_nc)) (d := d9) (x := (p1).toInt.toNat) (Int.toNat (x11).toInt)
          refine lv_aload_n hx hb dX11_saysTerm_127 rfl (lv_at hl 0 rfl) ?_
          refine lv_iload hx hb dX11_saysTerm_128 (lv_at hl 6 rfl) ?_
          refine lv_if_ne (tgt := 138) hx hb dX11_saysTerm_130 (by decide) (fun c36 => ?_) (fun c36 => ?_)
          · have kc36 := (not_congr (cv_eq (rfl : (x11).toInt = (x11).toInt) (by decide : (0 : Int32).toInt = 0))).mp c36
            refine lv_bipush (v := 44) hx hb dX11_saysTerm_138 (by decide) ?_
            obtain ⟨vq37, evq37⟩ := mq156_118 v_mm (.ref h_nv) (.ref h_nn) (.ref h_na) (.ref h_nb) (.ref h_nc) (.ref h_let)
            replace hP : va_P (dC, dI) cls [(h_let, .inl (cy_let, 256, .inl f_let)), (h_nn, .inl (cy_nn, 8000, .inr (.inl f_nn))), (h_wri, .inl (cy_wri, 1000, .inl f13)), (h_mm, .inr (8, (mo118 vq37 (.ref h_wri) (.int x12) (.int x_mm_room)))), (h_nv, .inl (cy_nv, 8000, .inl f_nv)), (h_na, .inl (cy_na, 8000, .inl f_na)), (h_nb, .inl (cy_nb, 8000, .inl f_nb)), (h_nc, .inl (cy_nc, 8000, .inl f_nc))] H := by rw [evq37]; exact hP
            replace hD : va_D A [(h_let, .inl (cy_let, 256, .inl f_let)), (h_nn, .inl (cy_nn, 8000, .inr (.inl f_nn))), (h_wri, .inl (cy_wri, 1000, .inl f13)), (h_mm, .inr (8, (mo118 vq37 (.ref h_wri) (.int x12) (.int x_mm_room)))), (h_nv, .inl (cy_nv, 8000, .inl f_nv)), (h_na, .inl (cy_na, 8000, .inl f_na)), (h_nb, .inl (cy_nb, 8000, .inl f_nb)), (h_nc, .inl (cy_nc, 8000, .inl f_nc))] := by rw [evq37]; exact hD
            have cst44 : (44 : Int32).toInt = 44 := by decide
            have hPc := hP.sub (ws' := [(h_mm, .inr (8, (mo118 vq37 (.ref h_wri) (.int x12) (.int x_mm_room)))), (h_wri, .inl (cy_wri, 1000, .inl f13))]) [3, 2] rfl
            have hDc := hD.sub (ws' := [(h_mm, .inr (8, (mo118 vq37 (.ref h_wri) (.int x12) (.int x_mm_room)))), (h_wri, .inl (cy_wri, 1000, .inl f13))]) [3, 2] (by decide) rfl
            have hKc := hK.sub (tys' := [(cy_wri, .int)]) [0] rfl
            have hFc := va_free (wc := [(h_mm, .inr (8, (mo118 vq37 (.ref h_wri) (.int x12) (.int x_mm_room)))), (h_wri, .inl (cy_wri, 1000, .inl f13))]) hD hS hA [3, 2] rfl
            refine va_callv (va_runV (As := [.int 44]) (rest := []) ⟨hx, hb, hml, hown, hts⟩ (c_X11_says_n l dC dI H.size h_mm h_wri vq37 x12 x_mm_room cy_wri f13 44 (by first | exact klp14_1 | omega) (by first | exact hx_mm_room | omega) (by omega)) (cwV 1 hts (gv hT w_m_X11_452 w_instanceMethod_X11_says ws_sel_X11_says w_ini_X11 w_code_X11_says) rfl rfl rfl (by decide +kernel) ⟨(by dsimp only [headSpec]; omega), (by dsimp only [headSpec]; omega)⟩) ⟨pre_blind, va_recv hK hP (ci := 8) (q0 := 3) rfl rfl, pre_of hPc hKc hDc hN⟩ rfl rfl hl.1 rfl (lv_room (Nat.le_of_ble_eq_true rfl)) dX11_saysTerm_140 ⟨(Nat.le_of_ble_eq_true rfl), (Nat.le_of_ble_eq_true rfl)⟩) hS (fun q _ h => hFc q h) hFc (fun u t H locs ht hvm hq hB hz1 hk1 hS9 => ?_)
            obtain ⟨z39, f40⟩ := u
            obtain ⟨hP1, hD1⟩ := hB
            rw [ht] at hP1
            obtain ⟨hP9, hD9⟩ := va_join (wr := [(h_let, .inl (cy_let, 256, .inl f_let)), (h_nn, .inl (cy_nn, 8000, .inr (.inl f_nn))), (h_nv, .inl (cy_nv, 8000, .inl f_nv)), (h_na, .inl (cy_na, 8000, .inl f_na)), (h_nb, .inl (cy_nb, 8000, .inl f_nb)), (h_nc, .inl (cy_nc, 8000, .inl f_nc))]) (w1 := [(h_mm, .inr (8, (mo118 vq37 (.ref h_wri) (.int z39) (.int x_mm_room)))), (h_wri, .inl (cy_wri, 1000, .inl f40))]) hP hD [3, 2] [0, 1, 4, 5, 6, 7] rfl rfl (by decide) (by decide) hk1 hFc hP1 hD1
            clear hP hD hS hPc hDc hKc hFc hP1 hD1 hk1 hz1 ht hvm
            have hP : va_P (dC, dI) cls [(h_let, .inl (cy_let, 256, .inl f_let)), (h_nn, .inl (cy_nn, 8000, .inr (.inl f_nn))), (h_nv, .inl (cy_nv, 8000, .inl f_nv)), (h_na, .inl (cy_na, 8000, .inl f_na)), (h_nb, .inl (cy_nb, 8000, .inl f_nb)), (h_nc, .inl (cy_nc, 8000, .inl f_nc)), (h_mm, .inr (8, (mo118 vq37 (.ref h_wri) (.int z39) (.int x_mm_room)))), (h_wri, .inl (cy_wri, 1000, .inl f40))] H := hP9
            have hD : va_D A [(h_let, .inl (cy_let, 256, .inl f_let)), (h_nn, .inl (cy_nn, 8000, .inr (.inl f_nn))), (h_nv, .inl (cy_nv, 8000, .inl f_nv)), (h_na, .inl (cy_na, 8000, .inl f_na)), (h_nb, .inl (cy_nb, 8000, .inl f_nb)), (h_nc, .inl (cy_nc, 8000, .inl f_nc)), (h_mm, .inr (8, (mo118 vq37 (.ref h_wri) (.int z39) (.int x_mm_room)))), (h_wri, .inl (cy_wri, 1000, .inl f40))] := hD9
            have hS := hS9
            clear hP9 hD9 hS9
            rw [evq37] at hP hD
            replace hP : va_P (dC, dI) cls [(h_let, .inl (cy_let, 256, .inl f_let)), (h_nn, .inl (cy_nn, 8000, .inr (.inl f_nn))), (h_nv, .inl (cy_nv, 8000, .inl f_nv)), (h_na, .inl (cy_na, 8000, .inl f_na)), (h_nb, .inl (cy_nb, 8000, .inl f_nb)), (h_nc, .inl (cy_nc, 8000, .inl f_nc)), (h_mm, .inr (8, (mo156 v_mm (.ref h_nv) (.ref h_nn) (.ref h_na) (.ref h_nb) (.ref h_nc) (.ref h_let) (.ref h_wri) (.int z39) (.int x_mm_room)))), (h_wri, .inl (cy_wri, 1000, .inl f40))] H := hP
            replace hD : va_D A [(h_let, .inl (cy_let, 256, .inl f_let)), (h_nn, .inl (cy_nn, 8000, .inr (.inl f_nn))), (h_nv, .inl (cy_nv, 8000, .inl f_nv)), (h_na, .inl (cy_na, 8000, .inl f_na)), (h_nb, .inl (cy_nb, 8000, .inl f_nb)), (h_nc, .inl (cy_nc, 8000, .inl f_nc)), (h_mm, .inr (8, (mo156 v_mm (.ref h_nv) (.ref h_nn) (.ref h_na) (.ref h_nb) (.ref h_nc) (.ref h_let) (.ref h_wri) (.int z39) (.int x_mm_room)))), (h_wri, .inl (cy_wri, 1000, .inl f40))] := hD
            clear evq37 
            obtain ⟨k41, k42⟩ := hq
            replace k41 : 0 ≤ ((z39)).toInt ∧ ((z39)).toInt ≤ 1000 := k41
            replace k42 : ((z39)).toInt = ((x12)).toInt + 1 := k42
            refine lv_aload_n hx hb dX11_saysTerm_143 rfl (lv_at hl 0 rfl) ?_
            refine lv_aload_n hx hb dX11_saysTerm_144 rfl (lv_at hl 0 rfl) ?_
            refine lv_iload hx hb dX11_saysTerm_145 (lv_at hl 4 rfl) ?_
            refine lv_iload hx hb dX11_saysTerm_147 (lv_at hl 6 rfl) ?_
            obtain ⟨vq43, evq43⟩ := mq156_85 v_mm (.ref h_nv) (.ref h_nn) (.ref h_let) (.ref h_wri) (.int z39) (.int x_mm_room)
            replace hP : va_P (dC, dI) cls [(h_let, .inl (cy_let, 256, .inl f_let)), (h_nn, .inl (cy_nn, 8000, .inr (.inl f_nn))), (h_nv, .inl (cy_nv, 8000, .inl f_nv)), (h_na, .inl (cy_na, 8000, .inl f_na)), (h_nb, .inl (cy_nb, 8000, .inl f_nb)), (h_nc, .inl (cy_nc, 8000, .inl f_nc)), (h_mm, .inr (8, (mo85 vq43 (.ref h_na) (.ref h_nb) (.ref h_nc)))), (h_wri, .inl (cy_wri, 1000, .inl f40))] H := by rw [evq43]; exact hP
            replace hD : va_D A [(h_let, .inl (cy_let, 256, .inl f_let)), (h_nn, .inl (cy_nn, 8000, .inr (.inl f_nn))), (h_nv, .inl (cy_nv, 8000, .inl f_nv)), (h_na, .inl (cy_na, 8000, .inl f_na)), (h_nb, .inl (cy_nb, 8000, .inl f_nb)), (h_nc, .inl (cy_nc, 8000, .inl f_nc)), (h_mm, .inr (8, (mo85 vq43 (.ref h_na) (.ref h_nb) (.ref h_nc)))), (h_wri, .inl (cy_wri, 1000, .inl f40))] := by rw [evq43]; exact hD
            have hPc := hP.sub (ws' := [(h_mm, .inr (8, (mo85 vq43 (.ref h_na) (.ref h_nb) (.ref h_nc)))), (h_na, .inl (cy_na, 8000, .inl f_na)), (h_nb, .inl (cy_nb, 8000, .inl f_nb)), (h_nc, .inl (cy_nc, 8000, .inl f_nc))]) [6, 3, 4, 5] rfl
            have hDc := hD.sub (ws' := [(h_mm, .inr (8, (mo85 vq43 (.ref h_na) (.ref h_nb) (.ref h_nc)))), (h_na, .inl (cy_na, 8000, .inl f_na)), (h_nb, .inl (cy_nb, 8000, .inl f_nb)), (h_nc, .inl (cy_nc, 8000, .inl f_nc))]) [6, 3, 4, 5] (by decide) rfl
            have hKc := hK.sub (tys' := [(cy_na, .int), (cy_nb, .int), (cy_nc, .int)]) [4, 5, 6] rfl
            have hFc := va_free (wc := [(h_mm, .inr (8, (mo85 vq43 (.ref h_na) (.ref h_nb) (.ref h_nc)))), (h_na, .inl (cy_na, 8000, .inl f_na)), (h_nb, .inl (cy_nb, 8000, .inl f_nb)), (h_nc, .inl (cy_nc, 8000, .inl f_nc))]) hD hS hA [6, 3, 4, 5] rfl
            refine va_calli (va_runV (As := [.int p1, .int x11]) (rest := [.ref h_mm]) ⟨hx, hb, hml, hown, hts⟩ (c_X11_part_e l dC dI H.size h_mm h_na h_nb h_nc vq43 cy_na f_na cy_nb f_nb cy_nc f_nc p1 x11 hf_na hf_nb hf_nc (by omega)) (cwV 2 hts (gv hT w_m_X11_31 w_instanceMethod_X11_part ws_sel_X11_part w_ini_X11 w_code_X11_part) rfl rfl rfl (by decide +kernel) ⟨(by dsimp only [headSpec]; omega), (by dsimp only [headSpec]; omega)⟩) ⟨pre_blind, va_recv hK hP (ci := 8) (q0 := 6) rfl rfl, pre_of hPc hKc hDc hN⟩ rfl rfl hl.1 rfl (lv_room (Nat.le_of_ble_eq_true rfl)) dX11_saysTerm_149 ⟨(Nat.le_of_ble_eq_true rfl), (Nat.le_of_ble_eq_true rfl)⟩) hS (fun q _ h => hFc q h) hFc (fun r44 u t H locs ht hvm hq hB hz1 hk1 hS9 => ?_)
            obtain ⟨hP1, hD1⟩ := hB
            rw [ht] at hP1
            obtain ⟨hP9, hD9⟩ := va_join (wr := [(h_let, .inl (cy_let, 256, .inl f_let)), (h_nn, .inl (cy_nn, 8000, .inr (.inl f_nn))), (h_nv, .inl (cy_nv, 8000, .inl f_nv)), (h_wri, .inl (cy_wri, 1000, .inl f40))]) (w1 := [(h_mm, .inr (8, (mo85 vq43 (.ref h_na) (.ref h_nb) (.ref h_nc)))), (h_na, .inl (cy_na, 8000, .inl f_na)), (h_nb, .inl (cy_nb, 8000, .inl f_nb)), (h_nc, .inl (cy_nc, 8000, .inl f_nc))]) hP hD [6, 3, 4, 5] [0, 1, 2, 7] rfl rfl (by decide) (by decide) hk1 hFc hP1 hD1
            clear hP hD hS hPc hDc hKc hFc hP1 hD1 hk1 hz1 ht hvm
            have hP : va_P (dC, dI) cls [(h_let, .inl (cy_let, 256, .inl f_let)), (h_nn, .inl (cy_nn, 8000, .inr (.inl f_nn))), (h_nv, .inl (cy_nv, 8000, .inl f_nv)), (h_wri, .inl (cy_wri, 1000, .inl f40)), (h_mm, .inr (8, (mo85 vq43 (.ref h_na) (.ref h_nb) (.ref h_nc)))), (h_na, .inl (cy_na, 8000, .inl f_na)), (h_nb, .inl (cy_nb, 8000, .inl f_nb)), (h_nc, .inl (cy_nc, 8000, .inl f_nc))] H := hP9
            have hD : va_D A [(h_let, .inl (cy_let, 256, .inl f_let)), (h_nn, .inl (cy_nn, 8000, .inr (.inl f_nn))), (h_nv, .inl (cy_nv, 8000, .inl f_nv)), (h_wri, .inl (cy_wri, 1000, .inl f40)), (h_mm, .inr (8, (mo85 vq43 (.ref h_na) (.ref h_nb) (.ref h_nc)))), (h_na, .inl (cy_na, 8000, .inl f_na)), (h_nb, .inl (cy_nb, 8000, .inl f_nb)), (h_nc, .inl (cy_nc, 8000, .inl f_nc))] := hD9
            have hS := hS9
            clear hP9 hD9 hS9
            rw [evq43] at hP hD
            replace hP : va_P (dC, dI) cls [(h_let, .inl (cy_let, 256, .inl f_let)), (h_nn, .inl (cy_nn, 8000, .inr (.inl f_nn))), (h_nv, .inl (cy_nv, 8000, .inl f_nv)), (h_wri, .inl (cy_wri, 1000, .inl f40)), (h_mm, .inr (8, (mo156 v_mm (.ref h_nv) (.ref h_nn) (.ref h_na) (.ref h_nb) (.ref h_nc) (.ref h_let) (.ref h_wri) (.int z39) (.int x_mm_room)))), (h_na, .inl (cy_na, 8000, .inl f_na)), (h_nb, .inl (cy_nb, 8000, .inl f_nb)), (h_nc, .inl (cy_nc, 8000, .inl f_nc))] H := hP
            replace hD : va_D A [(h_let, .inl (cy_let, 256, .inl f_let)), (h_nn, .inl (cy_nn, 8000, .inr (.inl f_nn))), (h_nv, .inl (cy_nv, 8000, .inl f_nv)), (h_wri, .inl (cy_wri, 1000, .inl f40)), (h_mm, .inr (8, (mo156 v_mm (.ref h_nv) (.ref h_nn) (.ref h_na) (.ref h_nb) (.ref h_nc) (.ref h_let) (.ref h_wri) (.int z39) (.int x_mm_room)))), (h_na, .inl (cy_na, 8000, .inl f_na)), (h_nb, .inl (cy_nb, 8000, .inl f_nb)), (h_nc, .inl (cy_nc, 8000, .inl f_nc))] := hD
            clear evq43 
            obtain ⟨k45, k46⟩ := hq
            replace k45 : -1 ≤ (r44).toInt ∧ (r44).toInt ≤ 7999 := k45
            replace k46 : ((r44)).toInt = (ptx f_na f_nb f_nc ((p1)).toInt.toNat ((x11)).toInt).toInt := k46
            have ch9 := ch_ok (nv := f_nv) (k := (x11).toInt) (x := (p1).toInt.toNat) hn_nds (by omega) (by omega)
            rw [← Int32.toInt_inj.mp (show (r44).toInt = (ptx f_na f_nb f_nc (p1).toInt.toNat (x11).toInt).toInt by omega)] at ch9
            have c9 : (r44).toInt.toNat = ((RVW f_nv f_nn f_na f_nb f_nc)).2.2.2 (p1).toInt.toNat (Int.toNat (x11).toInt) := by rw [rvw_ch, ← clamp_nat (i := r44) (by omega)]; have e9 : ((Int.toNat (x11).toInt : Nat) : Int) = (x11).toInt := (by omega); rw [e9]; exact congrArg Int32.toNatClampNeg (Int32.toInt_inj.mp (by omega))
            have wc9 : WHX (RVW f_nv f_nn f_na f_nb f_nc) d9 (r44).toInt.toNat := by rw [c9]; exact whx_ch hx9 v9 (by rw [a9]; omega)
            have sn9 : slX (nlR 14) (RVW f_nv f_nn f_na f_nb f_nc) d9 (p1).toInt.toNat (Int.toNat ((x11).toInt + 1)) = slX (nlR 14) (RVW f_nv f_nn f_na f_nb f_nc) d9 (p1).toInt.toNat (Int.toNat (x11).toInt) + (1 + lnX (nlR 14) (RVW f_nv f_nn f_na f_nb f_nc) d9 (r44).toInt.toNat) := by have e9 : Int.toNat ((x11).toInt + 1) = Int.toNat (x11).toInt + 1 := (by omega); rw [e9, c9]; rfl
            refine lv_iload hx hb dX11_saysTerm_152 (lv_at hl 5 rfl) ?_
            refine lv_iload_n hx hb dX11_saysTerm_154 rfl (lv_at hl 3 rfl) ?_
            have cstm1 : ((-1) : Int32).toInt = -1 := by decide
            have hPc := hP.sub (ws' := [(h_mm, .inr (8, (mo156 v_mm (.ref h_nv) (.ref h_nn) (.ref h_na) (.ref h_nb) (.ref h_nc) (.ref h_let) (.ref h_wri) (.int z39) (.int x_mm_room)))), (h_wri, .inl (cy_wri, 1000, .inl f40)), (h_let, .inl (cy_let, 256, .inl f_let)), (h_nv, .inl (cy_nv, 8000, .inl f_nv)), (h_nn, .inl (cy_nn, 8000, .inr (.inl f_nn))), (h_na, .inl (cy_na, 8000, .inl f_na)), (h_nb, .inl (cy_nb, 8000, .inl f_nb)), (h_nc, .inl (cy_nc, 8000, .inl f_nc))]) [4, 3, 0, 2, 1, 5, 6, 7] rfl
            have hDc := hD.sub (ws' := [(h_mm, .inr (8, (mo156 v_mm (.ref h_nv) (.ref h_nn) (.ref h_na) (.ref h_nb) (.ref h_nc) (.ref h_let) (.ref h_wri) (.int z39) (.int x_mm_room)))), (h_wri, .inl (cy_wri, 1000, .inl f40)), (h_let, .inl (cy_let, 256, .inl f_let)), (h_nv, .inl (cy_nv, 8000, .inl f_nv)), (h_nn, .inl (cy_nn, 8000, .inr (.inl f_nn))), (h_na, .inl (cy_na, 8000, .inl f_na)), (h_nb, .inl (cy_nb, 8000, .inl f_nb)), (h_nc, .inl (cy_nc, 8000, .inl f_nc))]) [4, 3, 0, 2, 1, 5, 6, 7] (by decide) rfl
            have hKc := hK.sub (tys' := [(cy_wri, .int), (cy_let, .int), (cy_nv, .int), (cy_nn, .long), (cy_na, .int), (cy_nb, .int), (cy_nc, .int)]) [0, 1, 2, 3, 4, 5, 6] rfl
            have hFc := va_free (wc := [(h_mm, .inr (8, (mo156 v_mm (.ref h_nv) (.ref h_nn) (.ref h_na) (.ref h_nb) (.ref h_nc) (.ref h_let) (.ref h_wri) (.int z39) (.int x_mm_room)))), (h_wri, .inl (cy_wri, 1000, .inl f40)), (h_let, .inl (cy_let, 256, .inl f_let)), (h_nv, .inl (cy_nv, 8000, .inl f_nv)), (h_nn, .inl (cy_nn, 8000, .inr (.inl f_nn))), (h_na, .inl (cy_na, 8000, .inl f_na)), (h_nb, .inl (cy_nb, 8000, .inl f_nb)), (h_nc, .inl (cy_nc, 8000, .inl f_nc))]) hD hS hA [4, 3, 0, 2, 1, 5, 6, 7] rfl
            refine va_callv (va_runV (As := [.int r44, .int (-1), .int p3]) (rest := []) ⟨hx, hb, hml, hown, hts⟩ (ihf dC dI H.size h_mm h_wri h_let h_nv h_nn h_na h_nb h_nc v_mm z39 x_mm_room cy_wri f40 cy_let f_let cy_nv f_nv cy_nn f_nn cy_na f_na cy_nb f_nb cy_nc f_nc r44 p3 N hz d9 (by first | exact k41 | omega) (by first | exact hx_mm_room | omega) hf_nv hf_na hf_nb hf_nc (by omega) (by first | exact q1 | omega) (by first | exact q2 | omega) (by omega) (by omega) hn_nds wc9) (cwV 3 hts (gv hT w_m_X11_459 w_instanceMethod_X11_saysTerm ws_sel_X11_saysTerm w_ini_X11 w_code_X11_saysTerm) rfl rfl rfl (by decide +kernel) ⟨(by dsimp only [headSpec]; omega), (by dsimp only [headSpec]; omega)⟩) ⟨pre_blind, va_recv hK hP (ci := 8) (q0 := 4) rfl rfl, pre_of hPc hKc hDc hN⟩ rfl rfl hl.1 rfl (lv_room (Nat.le_of_ble_eq_true rfl)) dX11_saysTerm_155 ⟨(Nat.le_of_ble_eq_true rfl), (Nat.le_of_ble_eq_true rfl)⟩) hS (fun q _ h => hFc q h) hFc (fun u t H locs ht hvm hq hB hz1 hk1 hS9 => ?_)
            obtain ⟨z48, f49⟩ := u
            obtain ⟨hP1, hD1⟩ := hB
            rw [ht] at hP1
            obtain ⟨hP9, hD9⟩ := va_join (wr := []) (w1 := [(h_mm, .inr (8, (mo156 v_mm (.ref h_nv) (.ref h_nn) (.ref h_na) (.ref h_nb) (.ref h_nc) (.ref h_let) (.ref h_wri) (.int z48) (.int x_mm_room)))), (h_wri, .inl (cy_wri, 1000, .inl f49)), (h_let, .inl (cy_let, 256, .inl f_let)), (h_nv, .inl (cy_nv, 8000, .inl f_nv)), (h_nn, .inl (cy_nn, 8000, .inr (.inl f_nn))), (h_na, .inl (cy_na, 8000, .inl f_na)), (h_nb, .inl (cy_nb, 8000, .inl f_nb)), (h_nc, .inl (cy_nc, 8000, .inl f_nc))]) hP hD [4, 3, 0, 2, 1, 5, 6, 7] [] rfl rfl (by decide) (by decide) hk1 hFc hP1 hD1
            clear hP hD hS hPc hDc hKc hFc hP1 hD1 hk1 hz1 ht hvm
            have hP : va_P (dC, dI) cls [(h_mm, .inr (8, (mo156 v_mm (.ref h_nv) (.ref h_nn) (.ref h_na) (.ref h_nb) (.ref h_nc) (.ref h_let) (.ref h_wri) (.int z48) (.int x_mm_room)))), (h_wri, .inl (cy_wri, 1000, .inl f49)), (h_let, .inl (cy_let, 256, .inl f_let)), (h_nv, .inl (cy_nv, 8000, .inl f_nv)), (h_nn, .inl (cy_nn, 8000, .inr (.inl f_nn))), (h_na, .inl (cy_na, 8000, .inl f_na)), (h_nb, .inl (cy_nb, 8000, .inl f_nb)), (h_nc, .inl (cy_nc, 8000, .inl f_nc))] H := hP9
            have hD : va_D A [(h_mm, .inr (8, (mo156 v_mm (.ref h_nv) (.ref h_nn) (.ref h_na) (.ref h_nb) (.ref h_nc) (.ref h_let) (.ref h_wri) (.int z48) (.int x_mm_room)))), (h_wri, .inl (cy_wri, 1000, .inl f49)), (h_let, .inl (cy_let, 256, .inl f_let)), (h_nv, .inl (cy_nv, 8000, .inl f_nv)), (h_nn, .inl (cy_nn, 8000, .inr (.inl f_nn))), (h_na, .inl (cy_na, 8000, .inl f_na)), (h_nb, .inl (cy_nb, 8000, .inl f_nb)), (h_nc, .inl (cy_nc, 8000, .inl f_nc))] := hD9
            have hS := hS9
            clear hP9 hD9 hS9
            obtain ⟨k50, k51⟩ := hq
            replace k50 : 0 ≤ ((z48)).toInt ∧ ((z48)).toInt ≤ 1000 := k50
            replace k51 : ((z48)).toInt = ((z39)).toInt + lnX (nlR 14) (RVW f_nv f_nn f_na f_nb f_nc) (d9) ((r44)).toInt.toNat := k51
            obtain ⟨z52, ez52⟩ : ∃ y : Int32, y = x11 + 1 := ⟨_, rfl⟩
            have tz52 : (z52).toInt = (x11).toInt + 1 := by rw [ez52]; exact i_add rfl (by decide) (by omega)
            refine lv_iinc (v := z52) (lv' := [(6, .int z52), (0, .ref h_mm), (1, .int p1), (2, .int (-1)), (3, .int p3), (4, .int p1), (5, .int (-1))]) hx hb dX11_saysTerm_158 hl (k := 6) rfl (by rw [ez52]; rfl) (by decide) rfl (fun ls hl => ?_)
            refine lv_goto (tgt := 116) hx hb dX11_saysTerm_161 (by decide) ?_
            replace hP : va_P (dC, dI) cls [(h_let, .inl (cy_let, 256, .inl f_let)), (h_nv, .inl (cy_nv, 8000, .inl f_nv)), (h_nn, .inl (cy_nn, 8000, .inr (.inl f_nn))), (h_na, .inl (cy_na, 8000, .inl f_na)), (h_nb, .inl (cy_nb, 8000, .inl f_nb)), (h_nc, .inl (cy_nc, 8000, .inl f_nc)), (h_mm, .inr (8, (mo156 v_mm (.ref h_nv) (.ref h_nn) (.ref h_na) (.ref h_nb) (.ref h_nc) (.ref h_let) (.ref h_wri) (.int z48) (.int x_mm_room)))), (h_wri, .inl (cy_wri, 1000, .inl f49))] H := hP.sub [2, 3, 4, 5, 6, 7, 0, 1] rfl
            replace hD : va_D A [(h_let, .inl (cy_let, 256, .inl f_let)), (h_nv, .inl (cy_nv, 8000, .inl f_nv)), (h_nn, .inl (cy_nn, 8000, .inr (.inl f_nn))), (h_na, .inl (cy_na, 8000, .inl f_na)), (h_nb, .inl (cy_nb, 8000, .inl f_nb)), (h_nc, .inl (cy_nc, 8000, .inl f_nc)), (h_mm, .inr (8, (mo156 v_mm (.ref h_nv) (.ref h_nn) (.ref h_na) (.ref h_nb) (.ref h_nc) (.ref h_let) (.ref h_wri) (.int z48) (.int x_mm_room)))), (h_wri, .inl (cy_wri, 1000, .inl f49))] := hD.sub [2, 3, 4, 5, 6, 7, 0, 1] (by decide) rfl
            have eb9 : slX (nlR 14) (RVW f_nv f_nn f_na f_nb f_nc) d9 (p1).toInt.toNat (Int.toNat (z52).toInt) = slX (nlR 14) (RVW f_nv f_nn f_na f_nb f_nc) d9 (p1).toInt.toNat (Int.toNat ((x11).toInt + 1)) := by rw [show Int.toNat (z52).toInt = Int.toNat ((x11).toInt + 1) by omega]
            exact ih15 (z52) (z48) (f49) _ _ _ (by omega) (by first | exact k50 | omega) (by omega) (by omega) (by omega) hP hD hS (lv_sub hl [1, 2, 3, 4, 5, 6, 0] rfl)
          · have kc36 := (cv_eq (rfl : (x11).toInt = (x11).toInt) (by decide : (0 : Int32).toInt = 0)).mp c36
            refine lv_bipush (v := 40) hx hb dX11_saysTerm_133 (by decide) ?_
            refine lv_goto (tgt := 140) hx hb dX11_saysTerm_135 (by decide) ?_
            obtain ⟨vq53, evq53⟩ := mq156_118 v_mm (.ref h_nv) (.ref h_nn) (.ref h_na) (.ref h_nb) (.ref h_nc) (.ref h_let)
            replace hP : va_P (dC, dI) cls [(h_let, .inl (cy_let, 256, .inl f_let)), (h_nn, .inl (cy_nn, 8000, .inr (.inl f_nn))), (h_wri, .inl (cy_wri, 1000, .inl f13)), (h_mm, .inr (8, (mo118 vq53 (.ref h_wri) (.int x12) (.int x_mm_room)))), (h_nv, .inl (cy_nv, 8000, .inl f_nv)), (h_na, .inl (cy_na, 8000, .inl f_na)), (h_nb, .inl (cy_nb, 8000, .inl f_nb)), (h_nc, .inl (cy_nc, 8000, .inl f_nc))] H := by rw [evq53]; exact hP
            replace hD : va_D A [(h_let, .inl (cy_let, 256, .inl f_let)), (h_nn, .inl (cy_nn, 8000, .inr (.inl f_nn))), (h_wri, .inl (cy_wri, 1000, .inl f13)), (h_mm, .inr (8, (mo118 vq53 (.ref h_wri) (.int x12) (.int x_mm_room)))), (h_nv, .inl (cy_nv, 8000, .inl f_nv)), (h_na, .inl (cy_na, 8000, .inl f_na)), (h_nb, .inl (cy_nb, 8000, .inl f_nb)), (h_nc, .inl (cy_nc, 8000, .inl f_nc))] := by rw [evq53]; exact hD
            have cst40 : (40 : Int32).toInt = 40 := by decide
            have hPc := hP.sub (ws' := [(h_mm, .inr (8, (mo118 vq53 (.ref h_wri) (.int x12) (.int x_mm_room)))), (h_wri, .inl (cy_wri, 1000, .inl f13))]) [3, 2] rfl
            have hDc := hD.sub (ws' := [(h_mm, .inr (8, (mo118 vq53 (.ref h_wri) (.int x12) (.int x_mm_room)))), (h_wri, .inl (cy_wri, 1000, .inl f13))]) [3, 2] (by decide) rfl
            have hKc := hK.sub (tys' := [(cy_wri, .int)]) [0] rfl
            have hFc := va_free (wc := [(h_mm, .inr (8, (mo118 vq53 (.ref h_wri) (.int x12) (.int x_mm_room)))), (h_wri, .inl (cy_wri, 1000, .inl f13))]) hD hS hA [3, 2] rfl
            refine va_callv (va_runV (As := [.int 40]) (rest := []) ⟨hx, hb, hml, hown, hts⟩ (c_X11_says_n l dC dI H.size h_mm h_wri vq53 x12 x_mm_room cy_wri f13 40 (by first | exact klp14_1 | omega) (by first | exact hx_mm_room | omega) (by omega)) (cwV 1 hts (gv hT w_m_X11_452 w_instanceMethod_X11_says ws_sel_X11_says w_ini_X11 w_code_X11_says) rfl rfl rfl (by decide +kernel) ⟨(by dsimp only [headSpec]; omega), (by dsimp only [headSpec]; omega)⟩) ⟨pre_blind, va_recv hK hP (ci := 8) (q0 := 3) rfl rfl, pre_of hPc hKc hDc hN⟩ rfl rfl hl.1 rfl (lv_room (Nat.le_of_ble_eq_true rfl)) dX11_saysTerm_140 ⟨(Nat.le_of_ble_eq_true rfl), (Nat.le_of_ble_eq_true rfl)⟩) hS (fun q _ h => hFc q h) hFc (fun u t H locs ht hvm hq hB hz1 hk1 hS9 => ?_)
            obtain ⟨z55, f56⟩ := u
            obtain ⟨hP1, hD1⟩ := hB
            rw [ht] at hP1
            obtain ⟨hP9, hD9⟩ := va_join (wr := [(h_let, .inl (cy_let, 256, .inl f_let)), (h_nn, .inl (cy_nn, 8000, .inr (.inl f_nn))), (h_nv, .inl (cy_nv, 8000, .inl f_nv)), (h_na, .inl (cy_na, 8000, .inl f_na)), (h_nb, .inl (cy_nb, 8000, .inl f_nb)), (h_nc, .inl (cy_nc, 8000, .inl f_nc))]) (w1 := [(h_mm, .inr (8, (mo118 vq53 (.ref h_wri) (.int z55) (.int x_mm_room)))), (h_wri, .inl (cy_wri, 1000, .inl f56))]) hP hD [3, 2] [0, 1, 4, 5, 6, 7] rfl rfl (by decide) (by decide) hk1 hFc hP1 hD1
            clear hP hD hS hPc hDc hKc hFc hP1 hD1 hk1 hz1 ht hvm
            have hP : va_P (dC, dI) cls [(h_let, .inl (cy_let, 256, .inl f_let)), (h_nn, .inl (cy_nn, 8000, .inr (.inl f_nn))), (h_nv, .inl (cy_nv, 8000, .inl f_nv)), (h_na, .inl (cy_na, 8000, .inl f_na)), (h_nb, .inl (cy_nb, 8000, .inl f_nb)), (h_nc, .inl (cy_nc, 8000, .inl f_nc)), (h_mm, .inr (8, (mo118 vq53 (.ref h_wri) (.int z55) (.int x_mm_room)))), (h_wri, .inl (cy_wri, 1000, .inl f56))] H := hP9
            have hD : va_D A [(h_let, .inl (cy_let, 256, .inl f_let)), (h_nn, .inl (cy_nn, 8000, .inr (.inl f_nn))), (h_nv, .inl (cy_nv, 8000, .inl f_nv)), (h_na, .inl (cy_na, 8000, .inl f_na)), (h_nb, .inl (cy_nb, 8000, .inl f_nb)), (h_nc, .inl (cy_nc, 8000, .inl f_nc)), (h_mm, .inr (8, (mo118 vq53 (.ref h_wri) (.int z55) (.int x_mm_room)))), (h_wri, .inl (cy_wri, 1000, .inl f56))] := hD9
            have hS := hS9
            clear hP9 hD9 hS9
            rw [evq53] at hP hD
            replace hP : va_P (dC, dI) cls [(h_let, .inl (cy_let, 256, .inl f_let)), (h_nn, .inl (cy_nn, 8000, .inr (.inl f_nn))), (h_nv, .inl (cy_nv, 8000, .inl f_nv)), (h_na, .inl (cy_na, 8000, .inl f_na)), (h_nb, .inl (cy_nb, 8000, .inl f_nb)), (h_nc, .inl (cy_nc, 8000, .inl f_nc)), (h_mm, .inr (8, (mo156 v_mm (.ref h_nv) (.ref h_nn) (.ref h_na) (.ref h_nb) (.ref h_nc) (.ref h_let) (.ref h_wri) (.int z55) (.int x_mm_room)))), (h_wri, .inl (cy_wri, 1000, .inl f56))] H := hP
            replace hD : va_D A [(h_let, .inl (cy_let, 256, .inl f_let)), (h_nn, .inl (cy_nn, 8000, .inr (.inl f_nn))), (h_nv, .inl (cy_nv, 8000, .inl f_nv)), (h_na, .inl (cy_na, 8000, .inl f_na)), (h_nb, .inl (cy_nb, 8000, .inl f_nb)), (h_nc, .inl (cy_nc, 8000, .inl f_nc)), (h_mm, .inr (8, (mo156 v_mm (.ref h_nv) (.ref h_nn) (.ref h_na) (.ref h_nb) (.ref h_nc) (.ref h_let) (.ref h_wri) (.int z55) (.int x_mm_room)))), (h_wri, .inl (cy_wri, 1000, .inl f56))] := hD
            clear evq53 
            obtain ⟨k57, k58⟩ := hq
            replace k57 : 0 ≤ ((z55)).toInt ∧ ((z55)).toInt ≤ 1000 := k57
            replace k58 : ((z55)).toInt = ((x12)).toInt + 1 := k58
            refine lv_aload_n hx hb dX11_saysTerm_143 rfl (lv_at hl 0 rfl) ?_
            refine lv_aload_n hx hb dX11_saysTerm_144 rfl (lv_at hl 0 rfl) ?_
            refine lv_iload hx hb dX11_saysTerm_145 (lv_at hl 4 rfl) ?_
            refine lv_iload hx hb dX11_saysTerm_147 (lv_at hl 6 rfl) ?_
            obtain ⟨vq59, evq59⟩ := mq156_85 v_mm (.ref h_nv) (.ref h_nn) (.ref h_let) (.ref h_wri) (.int z55) (.int x_mm_room)
            replace hP : va_P (dC, dI) cls [(h_let, .inl (cy_let, 256, .inl f_let)), (h_nn, .inl (cy_nn, 8000, .inr (.inl f_nn))), (h_nv, .inl (cy_nv, 8000, .inl f_nv)), (h_na, .inl (cy_na, 8000, .inl f_na)), (h_nb, .inl (cy_nb, 8000, .inl f_nb)), (h_nc, .inl (cy_nc, 8000, .inl f_nc)), (h_mm, .inr (8, (mo85 vq59 (.ref h_na) (.ref h_nb) (.ref h_nc)))), (h_wri, .inl (cy_wri, 1000, .inl f56))] H := by rw [evq59]; exact hP
            replace hD : va_D A [(h_let, .inl (cy_let, 256, .inl f_let)), (h_nn, .inl (cy_nn, 8000, .inr (.inl f_nn))), (h_nv, .inl (cy_nv, 8000, .inl f_nv)), (h_na, .inl (cy_na, 8000, .inl f_na)), (h_nb, .inl (cy_nb, 8000, .inl f_nb)), (h_nc, .inl (cy_nc, 8000, .inl f_nc)), (h_mm, .inr (8, (mo85 vq59 (.ref h_na) (.ref h_nb) (.ref h_nc)))), (h_wri, .inl (cy_wri, 1000, .inl f56))] := by rw [evq59]; exact hD
            have hPc := hP.sub (ws' := [(h_mm, .inr (8, (mo85 vq59 (.ref h_na) (.ref h_nb) (.ref h_nc)))), (h_na, .inl (cy_na, 8000, .inl f_na)), (h_nb, .inl (cy_nb, 8000, .inl f_nb)), (h_nc, .inl (cy_nc, 8000, .inl f_nc))]) [6, 3, 4, 5] rfl
            have hDc := hD.sub (ws' := [(h_mm, .inr (8, (mo85 vq59 (.ref h_na) (.ref h_nb) (.ref h_nc)))), (h_na, .inl (cy_na, 8000, .inl f_na)), (h_nb, .inl (cy_nb, 8000, .inl f_nb)), (h_nc, .inl (cy_nc, 8000, .inl f_nc))]) [6, 3, 4, 5] (by decide) rfl
            have hKc := hK.sub (tys' := [(cy_na, .int), (cy_nb, .int), (cy_nc, .int)]) [4, 5, 6] rfl
            have hFc := va_free (wc := [(h_mm, .inr (8, (mo85 vq59 (.ref h_na) (.ref h_nb) (.ref h_nc)))), (h_na, .inl (cy_na, 8000, .inl f_na)), (h_nb, .inl (cy_nb, 8000, .inl f_nb)), (h_nc, .inl (cy_nc, 8000, .inl f_nc))]) hD hS hA [6, 3, 4, 5] rfl
            refine va_calli (va_runV (As := [.int p1, .int x11]) (rest := [.ref h_mm]) ⟨hx, hb, hml, hown, hts⟩ (c_X11_part_e l dC dI H.size h_mm h_na h_nb h_nc vq59 cy_na f_na cy_nb f_nb cy_nc f_nc p1 x11 hf_na hf_nb hf_nc (by omega)) (cwV 2 hts (gv hT w_m_X11_31 w_instanceMethod_X11_part ws_sel_X11_part w_ini_X11 w_code_X11_part) rfl rfl rfl (by decide +kernel) ⟨(by dsimp only [headSpec]; omega), (by dsimp only [headSpec]; omega)⟩) ⟨pre_blind, va_recv hK hP (ci := 8) (q0 := 6) rfl rfl, pre_of hPc hKc hDc hN⟩ rfl rfl hl.1 rfl (lv_room (Nat.le_of_ble_eq_true rfl)) dX11_saysTerm_149 ⟨(Nat.le_of_ble_eq_true rfl), (Nat.le_of_ble_eq_true rfl)⟩) hS (fun q _ h => hFc q h) hFc (fun r60 u t H locs ht hvm hq hB hz1 hk1 hS9 => ?_)
            obtain ⟨hP1, hD1⟩ := hB
            rw [ht] at hP1
            obtain ⟨hP9, hD9⟩ := va_join (wr := [(h_let, .inl (cy_let, 256, .inl f_let)), (h_nn, .inl (cy_nn, 8000, .inr (.inl f_nn))), (h_nv, .inl (cy_nv, 8000, .inl f_nv)), (h_wri, .inl (cy_wri, 1000, .inl f56))]) (w1 := [(h_mm, .inr (8, (mo85 vq59 (.ref h_na) (.ref h_nb) (.ref h_nc)))), (h_na, .inl (cy_na, 8000, .inl f_na)), (h_nb, .inl (cy_nb, 8000, .inl f_nb)), (h_nc, .inl (cy_nc, 8000, .inl f_nc))]) hP hD [6, 3, 4, 5] [0, 1, 2, 7] rfl rfl (by decide) (by decide) hk1 hFc hP1 hD1
            clear hP hD hS hPc hDc hKc hFc hP1 hD1 hk1 hz1 ht hvm
            have hP : va_P (dC, dI) cls [(h_let, .inl (cy_let, 256, .inl f_let)), (h_nn, .inl (cy_nn, 8000, .inr (.inl f_nn))), (h_nv, .inl (cy_nv, 8000, .inl f_nv)), (h_wri, .inl (cy_wri, 1000, .inl f56)), (h_mm, .inr (8, (mo85 vq59 (.ref h_na) (.ref h_nb) (.ref h_nc)))), (h_na, .inl (cy_na, 8000, .inl f_na)), (h_nb, .inl (cy_nb, 8000, .inl f_nb)), (h_nc, .inl (cy_nc, 8000, .inl f_nc))] H := hP9
            have hD : va_D A [(h_let, .inl (cy_let, 256, .inl f_let)), (h_nn, .inl (cy_nn, 8000, .inr (.inl f_nn))), (h_nv, .inl (cy_nv, 8000, .inl f_nv)), (h_wri, .inl (cy_wri, 1000, .inl f56)), (h_mm, .inr (8, (mo85 vq59 (.ref h_na) (.ref h_nb) (.ref h_nc)))), (h_na, .inl (cy_na, 8000, .inl f_na)), (h_nb, .inl (cy_nb, 8000, .inl f_nb)), (h_nc, .inl (cy_nc, 8000, .inl f_nc))] := hD9
            have hS := hS9
            clear hP9 hD9 hS9
            rw [evq59] at hP hD
            replace hP : va_P (dC, dI) cls [(h_let, .inl (cy_let, 256, .inl f_let)), (h_nn, .inl (cy_nn, 8000, .inr (.inl f_nn))), (h_nv, .inl (cy_nv, 8000, .inl f_nv)), (h_wri, .inl (cy_wri, 1000, .inl f56)), (h_mm, .inr (8, (mo156 v_mm (.ref h_nv) (.ref h_nn) (.ref h_na) (.ref h_nb) (.ref h_nc) (.ref h_let) (.ref h_wri) (.int z55) (.int x_mm_room)))), (h_na, .inl (cy_na, 8000, .inl f_na)), (h_nb, .inl (cy_nb, 8000, .inl f_nb)), (h_nc, .inl (cy_nc, 8000, .inl f_nc))] H := hP
            replace hD : va_D A [(h_let, .inl (cy_let, 256, .inl f_let)), (h_nn, .inl (cy_nn, 8000, .inr (.inl f_nn))), (h_nv, .inl (cy_nv, 8000, .inl f_nv)), (h_wri, .inl (cy_wri, 1000, .inl f56)), (h_mm, .inr (8, (mo156 v_mm (.ref h_nv) (.ref h_nn) (.ref h_na) (.ref h_nb) (.ref h_nc) (.ref h_let) (.ref h_wri) (.int z55) (.int x_mm_room)))), (h_na, .inl (cy_na, 8000, .inl f_na)), (h_nb, .inl (cy_nb, 8000, .inl f_nb)), (h_nc, .inl (cy_nc, 8000, .inl f_nc))] := hD
            clear evq59 
            obtain ⟨k61, k62⟩ := hq
            replace k61 : -1 ≤ (r60).toInt ∧ (r60).toInt ≤ 7999 := k61
            replace k62 : ((r60)).toInt = (ptx f_na f_nb f_nc ((p1)).toInt.toNat ((x11)).toInt).toInt := k62
            have ch9 := ch_ok (nv := f_nv) (k := (x11).toInt) (x := (p1).toInt.toNat) hn_nds (by omega) (by omega)
            rw [← Int32.toInt_inj.mp (show (r60).toInt = (ptx f_na f_nb f_nc (p1).toInt.toNat (x11).toInt).toInt by omega)] at ch9
            have c9 : (r60).toInt.toNat = ((RVW f_nv f_nn f_na f_nb f_nc)).2.2.2 (p1).toInt.toNat (Int.toNat (x11).toInt) := by rw [rvw_ch, ← clamp_nat (i := r60) (by omega)]; have e9 : ((Int.toNat (x11).toInt : Nat) : Int) = (x11).toInt := (by omega); rw [e9]; exact congrArg Int32.toNatClampNeg (Int32.toInt_inj.mp (by omega))
            have wc9 : WHX (RVW f_nv f_nn f_na f_nb f_nc) d9 (r60).toInt.toNat := by rw [c9]; exact whx_ch hx9 v9 (by rw [a9]; omega)
            have sn9 : slX (nlR 14) (RVW f_nv f_nn f_na f_nb f_nc) d9 (p1).toInt.toNat (Int.toNat ((x11).toInt + 1)) = slX (nlR 14) (RVW f_nv f_nn f_na f_nb f_nc) d9 (p1).toInt.toNat (Int.toNat (x11).toInt) + (1 + lnX (nlR 14) (RVW f_nv f_nn f_na f_nb f_nc) d9 (r60).toInt.toNat) := by have e9 : Int.toNat ((x11).toInt + 1) = Int.toNat (x11).toInt + 1 := (by omega); rw [e9, c9]; rfl
            refine lv_iload hx hb dX11_saysTerm_152 (lv_at hl 5 rfl) ?_
            refine lv_iload_n hx hb dX11_saysTerm_154 rfl (lv_at hl 3 rfl) ?_
            have cstm1 : ((-1) : Int32).toInt = -1 := by decide
            have hPc := hP.sub (ws' := [(h_mm, .inr (8, (mo156 v_mm (.ref h_nv) (.ref h_nn) (.ref h_na) (.ref h_nb) (.ref h_nc) (.ref h_let) (.ref h_wri) (.int z55) (.int x_mm_room)))), (h_wri, .inl (cy_wri, 1000, .inl f56)), (h_let, .inl (cy_let, 256, .inl f_let)), (h_nv, .inl (cy_nv, 8000, .inl f_nv)), (h_nn, .inl (cy_nn, 8000, .inr (.inl f_nn))), (h_na, .inl (cy_na, 8000, .inl f_na)), (h_nb, .inl (cy_nb, 8000, .inl f_nb)), (h_nc, .inl (cy_nc, 8000, .inl f_nc))]) [4, 3, 0, 2, 1, 5, 6, 7] rfl
            have hDc := hD.sub (ws' := [(h_mm, .inr (8, (mo156 v_mm (.ref h_nv) (.ref h_nn) (.ref h_na) (.ref h_nb) (.ref h_nc) (.ref h_let) (.ref h_wri) (.int z55) (.int x_mm_room)))), (h_wri, .inl (cy_wri, 1000, .inl f56)), (h_let, .inl (cy_let, 256, .inl f_let)), (h_nv, .inl (cy_nv, 8000, .inl f_nv)), (h_nn, .inl (cy_nn, 8000, .inr (.inl f_nn))), (h_na, .inl (cy_na, 8000, .inl f_na)), (h_nb, .inl (cy_nb, 8000, .inl f_nb)), (h_nc, .inl (cy_nc, 8000, .inl f_nc))]) [4, 3, 0, 2, 1, 5, 6, 7] (by decide) rfl
            have hKc := hK.sub (tys' := [(cy_wri, .int), (cy_let, .int), (cy_nv, .int), (cy_nn, .long), (cy_na, .int), (cy_nb, .int), (cy_nc, .int)]) [0, 1, 2, 3, 4, 5, 6] rfl
            have hFc := va_free (wc := [(h_mm, .inr (8, (mo156 v_mm (.ref h_nv) (.ref h_nn) (.ref h_na) (.ref h_nb) (.ref h_nc) (.ref h_let) (.ref h_wri) (.int z55) (.int x_mm_room)))), (h_wri, .inl (cy_wri, 1000, .inl f56)), (h_let, .inl (cy_let, 256, .inl f_let)), (h_nv, .inl (cy_nv, 8000, .inl f_nv)), (h_nn, .inl (cy_nn, 8000, .inr (.inl f_nn))), (h_na, .inl (cy_na, 8000, .inl f_na)), (h_nb, .inl (cy_nb, 8000, .inl f_nb)), (h_nc, .inl (cy_nc, 8000, .inl f_nc))]) hD hS hA [4, 3, 0, 2, 1, 5, 6, 7] rfl
            refine va_callv (va_runV (As := [.int r60, .int (-1), .int p3]) (rest := []) ⟨hx, hb, hml, hown, hts⟩ (ihf dC dI H.size h_mm h_wri h_let h_nv h_nn h_na h_nb h_nc v_mm z55 x_mm_room cy_wri f56 cy_let f_let cy_nv f_nv cy_nn f_nn cy_na f_na cy_nb f_nb cy_nc f_nc r60 p3 N hz d9 (by first | exact k57 | omega) (by first | exact hx_mm_room | omega) hf_nv hf_na hf_nb hf_nc (by omega) (by first | exact q1 | omega) (by first | exact q2 | omega) (by omega) (by omega) hn_nds wc9) (cwV 3 hts (gv hT w_m_X11_459 w_instanceMethod_X11_saysTerm ws_sel_X11_saysTerm w_ini_X11 w_code_X11_saysTerm) rfl rfl rfl (by decide +kernel) ⟨(by dsimp only [headSpec]; omega), (by dsimp only [headSpec]; omega)⟩) ⟨pre_blind, va_recv hK hP (ci := 8) (q0 := 4) rfl rfl, pre_of hPc hKc hDc hN⟩ rfl rfl hl.1 rfl (lv_room (Nat.le_of_ble_eq_true rfl)) dX11_saysTerm_155 ⟨(Nat.le_of_ble_eq_true rfl), (Nat.le_of_ble_eq_true rfl)⟩) hS (fun q _ h => hFc q h) hFc (fun u t H locs ht hvm hq hB hz1 hk1 hS9 => ?_)
            obtain ⟨z64, f65⟩ := u
            obtain ⟨hP1, hD1⟩ := hB
            rw [ht] at hP1
            obtain ⟨hP9, hD9⟩ := va_join (wr := []) (w1 := [(h_mm, .inr (8, (mo156 v_mm (.ref h_nv) (.ref h_nn) (.ref h_na) (.ref h_nb) (.ref h_nc) (.ref h_let) (.ref h_wri) (.int z64) (.int x_mm_room)))), (h_wri, .inl (cy_wri, 1000, .inl f65)), (h_let, .inl (cy_let, 256, .inl f_let)), (h_nv, .inl (cy_nv, 8000, .inl f_nv)), (h_nn, .inl (cy_nn, 8000, .inr (.inl f_nn))), (h_na, .inl (cy_na, 8000, .inl f_na)), (h_nb, .inl (cy_nb, 8000, .inl f_nb)), (h_nc, .inl (cy_nc, 8000, .inl f_nc))]) hP hD [4, 3, 0, 2, 1, 5, 6, 7] [] rfl rfl (by decide) (by decide) hk1 hFc hP1 hD1
            clear hP hD hS hPc hDc hKc hFc hP1 hD1 hk1 hz1 ht hvm
            have hP : va_P (dC, dI) cls [(h_mm, .inr (8, (mo156 v_mm (.ref h_nv) (.ref h_nn) (.ref h_na) (.ref h_nb) (.ref h_nc) (.ref h_let) (.ref h_wri) (.int z64) (.int x_mm_room)))), (h_wri, .inl (cy_wri, 1000, .inl f65)), (h_let, .inl (cy_let, 256, .inl f_let)), (h_nv, .inl (cy_nv, 8000, .inl f_nv)), (h_nn, .inl (cy_nn, 8000, .inr (.inl f_nn))), (h_na, .inl (cy_na, 8000, .inl f_na)), (h_nb, .inl (cy_nb, 8000, .inl f_nb)), (h_nc, .inl (cy_nc, 8000, .inl f_nc))] H := hP9
            have hD : va_D A [(h_mm, .inr (8, (mo156 v_mm (.ref h_nv) (.ref h_nn) (.ref h_na) (.ref h_nb) (.ref h_nc) (.ref h_let) (.ref h_wri) (.int z64) (.int x_mm_room)))), (h_wri, .inl (cy_wri, 1000, .inl f65)), (h_let, .inl (cy_let, 256, .inl f_let)), (h_nv, .inl (cy_nv, 8000, .inl f_nv)), (h_nn, .inl (cy_nn, 8000, .inr (.inl f_nn))), (h_na, .inl (cy_na, 8000, .inl f_na)), (h_nb, .inl (cy_nb, 8000, .inl f_nb)), (h_nc, .inl (cy_nc, 8000, .inl f_nc))] := hD9
            have hS := hS9
            clear hP9 hD9 hS9
            obtain ⟨k66, k67⟩ := hq
            replace k66 : 0 ≤ ((z64)).toInt ∧ ((z64)).toInt ≤ 1000 := k66
            replace k67 : ((z64)).toInt = ((z55)).toInt + lnX (nlR 14) (RVW f_nv f_nn f_na f_nb f_nc) (d9) ((r60)).toInt.toNat := k67
            obtain ⟨z68, ez68⟩ : ∃ y : Int32, y = x11 + 1 := ⟨_, rfl⟩
            have tz68 : (z68).toInt = (x11).toInt + 1 := by rw [ez68]; exact i_add rfl (by decide) (by omega)
            refine lv_iinc (v := z68) (lv' := [(6, .int z68), (0, .ref h_mm), (1, .int p1), (2, .int (-1)), (3, .int p3), (4, .int p1), (5, .int (-1))]) hx hb dX11_saysTerm_158 hl (k := 6) rfl (by rw [ez68]; rfl) (by decide) rfl (fun ls hl => ?_)
            refine lv_goto (tgt := 116) hx hb dX11_saysTerm_161 (by decide) ?_
            replace hP : va_P (dC, dI) cls [(h_let, .inl (cy_let, 256, .inl f_let)), (h_nv, .inl (cy_nv, 8000, .inl f_nv)), (h_nn, .inl (cy_nn, 8000, .inr (.inl f_nn))), (h_na, .inl (cy_na, 8000, .inl f_na)), (h_nb, .inl (cy_nb, 8000, .inl f_nb)), (h_nc, .inl (cy_nc, 8000, .inl f_nc)), (h_mm, .inr (8, (mo156 v_mm (.ref h_nv) (.ref h_nn) (.ref h_na) (.ref h_nb) (.ref h_nc) (.ref h_let) (.ref h_wri) (.int z64) (.int x_mm_room)))), (h_wri, .inl (cy_wri, 1000, .inl f65))] H := hP.sub [2, 3, 4, 5, 6, 7, 0, 1] rfl
            replace hD : va_D A [(h_let, .inl (cy_let, 256, .inl f_let)), (h_nv, .inl (cy_nv, 8000, .inl f_nv)), (h_nn, .inl (cy_nn, 8000, .inr (.inl f_nn))), (h_na, .inl (cy_na, 8000, .inl f_na)), (h_nb, .inl (cy_nb, 8000, .inl f_nb)), (h_nc, .inl (cy_nc, 8000, .inl f_nc)), (h_mm, .inr (8, (mo156 v_mm (.ref h_nv) (.ref h_nn) (.ref h_na) (.ref h_nb) (.ref h_nc) (.ref h_let) (.ref h_wri) (.int z64) (.int x_mm_room)))), (h_wri, .inl (cy_wri, 1000, .inl f65))] := hD.sub [2, 3, 4, 5, 6, 7, 0, 1] (by decide) rfl
            have eb9 : slX (nlR 14) (RVW f_nv f_nn f_na f_nb f_nc) d9 (p1).toInt.toNat (Int.toNat (z68).toInt) = slX (nlR 14) (RVW f_nv f_nn f_na f_nb f_nc) d9 (p1).toInt.toNat (Int.toNat ((x11).toInt + 1)) := by rw [show Int.toNat (z68).toInt = Int.toNat ((x11).toInt + 1) by omega]
            exact ih15 (z68) (z64) (f65) _ _ _ (by omega) (by first | exact k66 | omega) (by omega) (by omega) (by omega) hP hD hS (lv_sub hl [1, 2, 3, 4, 5, 6, 0] rfl)
    have cst0 : (0 : Int32).toInt = 0 := by decide
    exact lp14 _ (0) (z7) (f8) _ _ _ (by decide) (by first | exact k9 | omega) (by omega) (by omega) (Nat.le_refl _) hP hD hS (lv_sub hl [3, 4, 5, 6, 2, 1, 0] rfl)
  · have kc3 := (not_congr (cv_eq (rfl : (z2).toInt = (z2).toInt) (by decide : ((-1) : Int32).toInt = -1))).mp c3
    have hvz2 : (f_nv (p1).toInt.toNat).toInt = (z2).toInt := by rw [ez2, (clamp_nat (i := p1) (by omega))]
    have lv9 := lnX_var (nf := nlR 14) (V := (RVW f_nv f_nn f_na f_nb f_nc)) (d := d9) (x := (p1).toInt.toNat) (show 0 ≤ (f_nv (p1).toInt.toNat).toInt by omega)
    refine lv_aload_n hx hb dX11_saysTerm_52 rfl (lv_at hl 2 rfl) ?_
    refine lv_aload_n hx hb dX11_saysTerm_53 rfl (lv_at hl 2 rfl) ?_
    refine va_get (D := (dC, dI)) (ci := 8) (v := .ref h_let) (C := RX11) (T := TX11) (N := 71) hx hb hw iwX11 hown hK hP 0 rfl rfl 10 (by decide) (hw _ w_f_X11_108) (fun _ h9 => h9) rfl dX11_saysTerm_54 ?_
    refine lv_bipush (v := 8) hx hb dX11_saysTerm_57 (by decide) ?_
    refine lv_iload hx hb dX11_saysTerm_59 (lv_at hl 0 rfl) ?_
    refine lv_iconst (v := (-1)) hx hb dX11_saysTerm_61 (by decide) ?_
    refine lv_icmp_ne (tgt := 69) hx hb dX11_saysTerm_62 (by decide) (fun c9 => absurd c9 (by decide)) (fun _ => ?_)
    refine lv_iload_n hx hb dX11_saysTerm_65 rfl (lv_at hl 5 rfl) ?_
    refine lv_goto (tgt := 76) hx hb dX11_saysTerm_66 (by decide) ?_
    refine lv_imul hx hb dX11_saysTerm_76 ?_
    refine lv_topi (fun z69 ez69 => ?_)
    have tz69 : (z69).toInt = 8 * (p3).toInt := by rw [ez69]; exact i_mul (by decide) rfl (by omega)
    refine lv_aload_n hx hb dX11_saysTerm_77 rfl (lv_at hl 2 rfl) ?_
    refine va_get (D := (dC, dI)) (ci := 8) (v := .ref h_nv) (C := RX11) (T := TX11) (N := 71) hx hb hw iwX11 hown hK hP 0 rfl rfl 1 (by decide) (hw _ w_f_X11_17) (fun _ h9 => h9) rfl dX11_saysTerm_78 ?_
    refine lv_iload hx hb dX11_saysTerm_81 (lv_at hl 1 rfl) ?_
    refine va_iald hx hb hK hP 3 2 rfl rfl (i := p1) (vp_in_iff.mpr (by omega)) dX11_saysTerm_83 ?_
    refine lv_topi (fun z70 ez70 => ?_)
    have qz70 : (z70).toInt = (z2).toInt := by rw [ez70, ez2]
    have rz70 : -1 ≤ (z70).toInt ∧ (z70).toInt ≤ 7 := by rw [ez70]; exact hf_nv _
    refine lv_iadd hx hb dX11_saysTerm_84 ?_
    refine lv_topi (fun z71 ez71 => ?_)
    have tz71 : (z71).toInt = (z69).toInt + (z70).toInt := by rw [ez71]; exact i_add rfl rfl (by omega)
    refine va_iald hx hb hK hP 2 1 rfl rfl (i := z71) (vp_in_iff.mpr (by omega)) dX11_saysTerm_85 ?_
    refine lv_topi (fun z72 ez72 => ?_)
    obtain ⟨vq73, evq73⟩ := mq156_118 v_mm (.ref h_nv) (.ref h_nn) (.ref h_na) (.ref h_nb) (.ref h_nc) (.ref h_let)
    replace hP : va_P (dC, dI) cls [(h_mm, .inr (8, (mo118 vq73 (.ref h_wri) (.int x_mm_writes) (.int x_mm_room)))), (h_wri, .inl (cy_wri, 1000, .inl f_wri)), (h_let, .inl (cy_let, 256, .inl f_let)), (h_nv, .inl (cy_nv, 8000, .inl f_nv)), (h_nn, .inl (cy_nn, 8000, .inr (.inl f_nn))), (h_na, .inl (cy_na, 8000, .inl f_na)), (h_nb, .inl (cy_nb, 8000, .inl f_nb)), (h_nc, .inl (cy_nc, 8000, .inl f_nc))] s.heap := by rw [evq73]; exact hP
    replace hD : va_D A [(h_mm, .inr (8, (mo118 vq73 (.ref h_wri) (.int x_mm_writes) (.int x_mm_room)))), (h_wri, .inl (cy_wri, 1000, .inl f_wri)), (h_let, .inl (cy_let, 256, .inl f_let)), (h_nv, .inl (cy_nv, 8000, .inl f_nv)), (h_nn, .inl (cy_nn, 8000, .inr (.inl f_nn))), (h_na, .inl (cy_na, 8000, .inl f_na)), (h_nb, .inl (cy_nb, 8000, .inl f_nb)), (h_nc, .inl (cy_nc, 8000, .inl f_nc))] := by rw [evq73]; exact hD
    have hPc := hP.sub (ws' := [(h_mm, .inr (8, (mo118 vq73 (.ref h_wri) (.int x_mm_writes) (.int x_mm_room)))), (h_wri, .inl (cy_wri, 1000, .inl f_wri))]) [0, 1] rfl
    have hDc := hD.sub (ws' := [(h_mm, .inr (8, (mo118 vq73 (.ref h_wri) (.int x_mm_writes) (.int x_mm_room)))), (h_wri, .inl (cy_wri, 1000, .inl f_wri))]) [0, 1] (by decide) rfl
    have hKc := hK.sub (tys' := [(cy_wri, .int)]) [0] rfl
    have hFc := va_free (wc := [(h_mm, .inr (8, (mo118 vq73 (.ref h_wri) (.int x_mm_writes) (.int x_mm_room)))), (h_wri, .inl (cy_wri, 1000, .inl f_wri))]) hD hS hA [0, 1] rfl
    refine va_callv (va_runV (As := [.int z72]) (rest := []) ⟨hx, hb, hml, hown, hts⟩ (c_X11_says_n l dC dI s.heap.size h_mm h_wri vq73 x_mm_writes x_mm_room cy_wri f_wri z72 (by first | exact hx_mm_writes | omega) (by first | exact hx_mm_room | omega) (by omega)) (cwV 1 hts (gv hT w_m_X11_452 w_instanceMethod_X11_says ws_sel_X11_says w_ini_X11 w_code_X11_says) rfl rfl rfl (by decide +kernel) ⟨(by dsimp only [headSpec]; omega), (by dsimp only [headSpec]; omega)⟩) ⟨pre_blind, va_recv hK hP (ci := 8) (q0 := 0) rfl rfl, pre_of hPc hKc hDc hN⟩ rfl rfl hl.1 rfl (lv_room (Nat.le_of_ble_eq_true rfl)) dX11_saysTerm_86 ⟨(Nat.le_of_ble_eq_true rfl), (Nat.le_of_ble_eq_true rfl)⟩) hS (fun q _ h => hFc q h) hFc (fun u t H locs ht hvm hq hB hz1 hk1 hS9 => ?_)
    obtain ⟨z75, f76⟩ := u
    obtain ⟨hP1, hD1⟩ := hB
    rw [ht] at hP1
    obtain ⟨hP9, hD9⟩ := va_join (wr := [(h_let, .inl (cy_let, 256, .inl f_let)), (h_nv, .inl (cy_nv, 8000, .inl f_nv)), (h_nn, .inl (cy_nn, 8000, .inr (.inl f_nn))), (h_na, .inl (cy_na, 8000, .inl f_na)), (h_nb, .inl (cy_nb, 8000, .inl f_nb)), (h_nc, .inl (cy_nc, 8000, .inl f_nc))]) (w1 := [(h_mm, .inr (8, (mo118 vq73 (.ref h_wri) (.int z75) (.int x_mm_room)))), (h_wri, .inl (cy_wri, 1000, .inl f76))]) hP hD [0, 1] [2, 3, 4, 5, 6, 7] rfl rfl (by decide) (by decide) hk1 hFc hP1 hD1
    clear hP hD hS hPc hDc hKc hFc hP1 hD1 hk1 hz1 ht hvm
    have hP : va_P (dC, dI) cls [(h_let, .inl (cy_let, 256, .inl f_let)), (h_nv, .inl (cy_nv, 8000, .inl f_nv)), (h_nn, .inl (cy_nn, 8000, .inr (.inl f_nn))), (h_na, .inl (cy_na, 8000, .inl f_na)), (h_nb, .inl (cy_nb, 8000, .inl f_nb)), (h_nc, .inl (cy_nc, 8000, .inl f_nc)), (h_mm, .inr (8, (mo118 vq73 (.ref h_wri) (.int z75) (.int x_mm_room)))), (h_wri, .inl (cy_wri, 1000, .inl f76))] H := hP9
    have hD : va_D A [(h_let, .inl (cy_let, 256, .inl f_let)), (h_nv, .inl (cy_nv, 8000, .inl f_nv)), (h_nn, .inl (cy_nn, 8000, .inr (.inl f_nn))), (h_na, .inl (cy_na, 8000, .inl f_na)), (h_nb, .inl (cy_nb, 8000, .inl f_nb)), (h_nc, .inl (cy_nc, 8000, .inl f_nc)), (h_mm, .inr (8, (mo118 vq73 (.ref h_wri) (.int z75) (.int x_mm_room)))), (h_wri, .inl (cy_wri, 1000, .inl f76))] := hD9
    have hS := hS9
    clear hP9 hD9 hS9
    rw [evq73] at hP hD
    replace hP : va_P (dC, dI) cls [(h_let, .inl (cy_let, 256, .inl f_let)), (h_nv, .inl (cy_nv, 8000, .inl f_nv)), (h_nn, .inl (cy_nn, 8000, .inr (.inl f_nn))), (h_na, .inl (cy_na, 8000, .inl f_na)), (h_nb, .inl (cy_nb, 8000, .inl f_nb)), (h_nc, .inl (cy_nc, 8000, .inl f_nc)), (h_mm, .inr (8, (mo156 v_mm (.ref h_nv) (.ref h_nn) (.ref h_na) (.ref h_nb) (.ref h_nc) (.ref h_let) (.ref h_wri) (.int z75) (.int x_mm_room)))), (h_wri, .inl (cy_wri, 1000, .inl f76))] H := hP
    replace hD : va_D A [(h_let, .inl (cy_let, 256, .inl f_let)), (h_nv, .inl (cy_nv, 8000, .inl f_nv)), (h_nn, .inl (cy_nn, 8000, .inr (.inl f_nn))), (h_na, .inl (cy_na, 8000, .inl f_na)), (h_nb, .inl (cy_nb, 8000, .inl f_nb)), (h_nc, .inl (cy_nc, 8000, .inl f_nc)), (h_mm, .inr (8, (mo156 v_mm (.ref h_nv) (.ref h_nn) (.ref h_na) (.ref h_nb) (.ref h_nc) (.ref h_let) (.ref h_wri) (.int z75) (.int x_mm_room)))), (h_wri, .inl (cy_wri, 1000, .inl f76))] := hD
    clear evq73 
    obtain ⟨k77, k78⟩ := hq
    replace k77 : 0 ≤ ((z75)).toInt ∧ ((z75)).toInt ≤ 1000 := k77
    replace k78 : ((z75)).toInt = ((x_mm_writes)).toInt + 1 := k78
    refine lv_iload hx hb dX11_saysTerm_89 (lv_at hl 0 rfl) ?_
    refine lv_iconst (v := (-1)) hx hb dX11_saysTerm_91 (by decide) ?_
    refine lv_icmp_eq (tgt := 101) hx hb dX11_saysTerm_92 (by decide) (fun _ => ?_) (fun c9 => absurd c9 (by decide))
    replace hP : va_P (dC, dI) cls [(h_mm, .inr (8, (mo156 v_mm (.ref h_nv) (.ref h_nn) (.ref h_na) (.ref h_nb) (.ref h_nc) (.ref h_let) (.ref h_wri) (.int z75) (.int x_mm_room)))), (h_wri, .inl (cy_wri, 1000, .inl f76)), (h_let, .inl (cy_let, 256, .inl f_let)), (h_nv, .inl (cy_nv, 8000, .inl f_nv)), (h_nn, .inl (cy_nn, 8000, .inr (.inl f_nn))), (h_na, .inl (cy_na, 8000, .inl f_na)), (h_nb, .inl (cy_nb, 8000, .inl f_nb)), (h_nc, .inl (cy_nc, 8000, .inl f_nc))] H := hP.sub [6, 7, 0, 1, 2, 3, 4, 5] rfl
    replace hD : va_D A [(h_mm, .inr (8, (mo156 v_mm (.ref h_nv) (.ref h_nn) (.ref h_na) (.ref h_nb) (.ref h_nc) (.ref h_let) (.ref h_wri) (.int z75) (.int x_mm_room)))), (h_wri, .inl (cy_wri, 1000, .inl f76)), (h_let, .inl (cy_let, 256, .inl f_let)), (h_nv, .inl (cy_nv, 8000, .inl f_nv)), (h_nn, .inl (cy_nn, 8000, .inr (.inl f_nn))), (h_na, .inl (cy_na, 8000, .inl f_na)), (h_nb, .inl (cy_nb, 8000, .inl f_nb)), (h_nc, .inl (cy_nc, 8000, .inl f_nc))] := hD.sub [6, 7, 0, 1, 2, 3, 4, 5] (by decide) rfl
    refine W.widen (k := 0) (n := 0) (Nat.le_of_ble_eq_true rfl) (Nat.le_of_ble_eq_true rfl) ?_
    have w79 : 0 ≤ ((z75)).toInt ∧ ((z75)).toInt ≤ 1000 := by first | exact k77 | omega
    have w80 : ((z75)).toInt = (x_mm_writes).toInt + lnX (nlR 14) (RVW f_nv f_nn f_na f_nb f_nc) dd (p1).toInt.toNat := by omega
    exact W.vret hx hb hr (fun t ht hW => ⟨⟨(z75, f76), rfl, ⟨w79, w80⟩, by rw [ht]; exact hP, hD⟩, hS.F ht⟩) hS.2.2 dX11_saysTerm_101

def K_X11_saysTerm_1 (l : Launch) (fu : Nat) : Prop := ∀ (dC : Nat → ClassId) (dI : Nat → Nat → Nat) (sz : Nat) (h_mm : Nat) (h_wri : Nat) (h_let : Nat) (h_nv : Nat) (h_nn : Nat) (h_na : Nat) (h_nb : Nat) (h_nc : Nat) (h_bto : Nat) (h_bin : Nat) (h_cof : Nat) (v_mm : Nat → Value) (x_mm_goneTo : Int32) (x_mm_goneIn : Int32) (x_mm_writes : Int32) (x_mm_room : Int32) (cy_wri : ClassId) (f_wri : Nat → Int32) (cy_let : ClassId) (f_let : Nat → Int32) (cy_nv : ClassId) (f_nv : Nat → Int32) (cy_nn : ClassId) (f_nn : Nat → Int64) (cy_na : ClassId) (f_na : Nat → Int32) (cy_nb : ClassId) (f_nb : Nat → Int32) (cy_nc : ClassId) (f_nc : Nat → Int32) (cy_bto : ClassId) (f_bto : Nat → Int32) (cy_bin : ClassId) (f_bin : Nat → Int32) (cy_cof : ClassId) (f_cof : Nat → Int32) (p1 : Int32) (p2 : Int32) (p3 : Int32) (i0 : Int) (i1 : Int) (N : Int) (hz : Nat → Nat) (P : List Nat) (hx_mm_goneTo : 0 ≤ (x_mm_goneTo).toInt ∧ (x_mm_goneTo).toInt ≤ 7999) (hx_mm_goneIn : 0 ≤ (x_mm_goneIn).toInt ∧ (x_mm_goneIn).toInt ≤ 31) (hx_mm_writes : 0 ≤ (x_mm_writes).toInt ∧ (x_mm_writes).toInt ≤ 1000) (hx_mm_room : 0 ≤ (x_mm_room).toInt ∧ (x_mm_room).toInt ≤ 998) (hf_nv : Rg (-1) 7 f_nv) (hf_na : Rg (-1) 7999 f_na) (hf_nb : Rg (-1) 7999 f_nb) (hf_nc : Rg (-1) 7999 f_nc) (hf_bto : Rg (-1) 7999 f_bto) (hf_bin : Rg 0 31 f_bin) (hf_cof : Rg 0 15 f_cof) (q0 : 0 ≤ i0 ∧ i0 ≤ i1 ∧ i1 ≤ 31) (q1 : N ≤ 8000) (q2 : i0 = 0 ∧ i1 = 29) (q3 : 0 ≤ (p1).toInt ∧ (p1).toInt < N) (q4 : 0 ≤ (p2).toInt ∧ (p2).toInt ≤ 29) (q5 : hz (p1).toInt.toNat + 6 * (256 - (P).length) + 1 ≤ fu) (hn_bi : BI i0 i1 N hz f_nv f_na f_nb f_nc f_bto f_bin) (hn_pa : PA i0 P f_nv f_na f_nb f_nc f_bto f_bin (p1).toInt.toNat (p2).toInt), Met l yX11_saysTerm (Ws yX11_saysTerm cX11_saysTerm 7 none) (({ frames := fu + 15, cells := 0, slots := 0, locals := 26 * fu + 329 } : Room)) (PRE (dC, dI) cls [(cy_wri, .int), (cy_let, .int), (cy_nv, .int), (cy_nn, .long), (cy_na, .int), (cy_nb, .int), (cy_nc, .int), (cy_bto, .int), (cy_bin, .int), (cy_cof, .int)] [(h_mm, .inr (8, (mo157 v_mm (.ref h_nv) (.ref h_nn) (.ref h_na) (.ref h_nb) (.ref h_nc) (.ref h_let) (.ref h_bto) (.ref h_bin) (.int x_mm_goneTo) (.int x_mm_goneIn) (.ref h_cof) (.ref h_wri) (.int x_mm_writes) (.int x_mm_room)))), (h_wri, .inl (cy_wri, 1000, .inl f_wri)), (h_let, .inl (cy_let, 256, .inl f_let)), (h_nv, .inl (cy_nv, 8000, .inl f_nv)), (h_nn, .inl (cy_nn, 8000, .inr (.inl f_nn))), (h_na, .inl (cy_na, 8000, .inl f_na)), (h_nb, .inl (cy_nb, 8000, .inl f_nb)), (h_nc, .inl (cy_nc, 8000, .inl f_nc)), (h_bto, .inl (cy_bto, 256, .inl f_bto)), (h_bin, .inl (cy_bin, 256, .inl f_bin)), (h_cof, .inl (cy_cof, 31, .inl f_cof))] sz [.ref h_mm, .int p1, .int p2, .int p3]) (va_Qv (fun (u : (Int32) × (Int32) × (Int32) × (Nat → Int32)) => (0 ≤ (u.1).toInt ∧ (u.1).toInt ≤ 7999) ∧ (0 ≤ (u.2.1).toInt ∧ (u.2.1).toInt ≤ 31) ∧ (0 ≤ (u.2.2.1).toInt ∧ (u.2.2.1).toInt ≤ 1000)) (fun (u : (Int32) × (Int32) × (Int32) × (Nat → Int32)) (t : State) => va_P (dC, dI) cls [(h_mm, .inr (8, (mo157 v_mm (.ref h_nv) (.ref h_nn) (.ref h_na) (.ref h_nb) (.ref h_nc) (.ref h_let) (.ref h_bto) (.ref h_bin) (.int u.1) (.int u.2.1) (.ref h_cof) (.ref h_wri) (.int u.2.2.1) (.int x_mm_room)))), (h_wri, .inl (cy_wri, 1000, .inl u.2.2.2)), (h_let, .inl (cy_let, 256, .inl f_let)), (h_nv, .inl (cy_nv, 8000, .inl f_nv)), (h_nn, .inl (cy_nn, 8000, .inr (.inl f_nn))), (h_na, .inl (cy_na, 8000, .inl f_na)), (h_nb, .inl (cy_nb, 8000, .inl f_nb)), (h_nc, .inl (cy_nc, 8000, .inl f_nc)), (h_bto, .inl (cy_bto, 256, .inl f_bto)), (h_bin, .inl (cy_bin, 256, .inl f_bin)), (h_cof, .inl (cy_cof, 31, .inl f_cof))] t.heap ∧ va_D (va_A [(h_mm, .inr (8, (mo157 v_mm (.ref h_nv) (.ref h_nn) (.ref h_na) (.ref h_nb) (.ref h_nc) (.ref h_let) (.ref h_bto) (.ref h_bin) (.int x_mm_goneTo) (.int x_mm_goneIn) (.ref h_cof) (.ref h_wri) (.int x_mm_writes) (.int x_mm_room)))), (h_wri, .inl (cy_wri, 1000, .inl f_wri)), (h_let, .inl (cy_let, 256, .inl f_let)), (h_nv, .inl (cy_nv, 8000, .inl f_nv)), (h_nn, .inl (cy_nn, 8000, .inr (.inl f_nn))), (h_na, .inl (cy_na, 8000, .inl f_na)), (h_nb, .inl (cy_nb, 8000, .inl f_nb)), (h_nc, .inl (cy_nc, 8000, .inl f_nc)), (h_bto, .inl (cy_bto, 256, .inl f_bto)), (h_bin, .inl (cy_bin, 256, .inl f_bin)), (h_cof, .inl (cy_cof, 31, .inl f_cof))] sz) [(h_mm, .inr (8, (mo157 v_mm (.ref h_nv) (.ref h_nn) (.ref h_na) (.ref h_nb) (.ref h_nc) (.ref h_let) (.ref h_bto) (.ref h_bin) (.int u.1) (.int u.2.1) (.ref h_cof) (.ref h_wri) (.int u.2.2.1) (.int x_mm_room)))), (h_wri, .inl (cy_wri, 1000, .inl u.2.2.2)), (h_let, .inl (cy_let, 256, .inl f_let)), (h_nv, .inl (cy_nv, 8000, .inl f_nv)), (h_nn, .inl (cy_nn, 8000, .inr (.inl f_nn))), (h_na, .inl (cy_na, 8000, .inl f_na)), (h_nb, .inl (cy_nb, 8000, .inl f_nb)), (h_nc, .inl (cy_nc, 8000, .inl f_nc)), (h_bto, .inl (cy_bto, 256, .inl f_bto)), (h_bin, .inl (cy_bin, 256, .inl f_bin)), (h_cof, .inl (cy_cof, 31, .inl f_cof))]) (va_A [(h_mm, .inr (8, (mo157 v_mm (.ref h_nv) (.ref h_nn) (.ref h_na) (.ref h_nb) (.ref h_nc) (.ref h_let) (.ref h_bto) (.ref h_bin) (.int x_mm_goneTo) (.int x_mm_goneIn) (.ref h_cof) (.ref h_wri) (.int x_mm_writes) (.int x_mm_room)))), (h_wri, .inl (cy_wri, 1000, .inl f_wri)), (h_let, .inl (cy_let, 256, .inl f_let)), (h_nv, .inl (cy_nv, 8000, .inl f_nv)), (h_nn, .inl (cy_nn, 8000, .inr (.inl f_nn))), (h_na, .inl (cy_na, 8000, .inl f_na)), (h_nb, .inl (cy_nb, 8000, .inl f_nb)), (h_nc, .inl (cy_nc, 8000, .inl f_nc)), (h_bto, .inl (cy_bto, 256, .inl f_bto)), (h_bin, .inl (cy_bin, 256, .inl f_bin)), (h_cof, .inl (cy_cof, 31, .inl f_cof))] sz)) 0 0 (va_A [(h_mm, .inr (8, (mo157 v_mm (.ref h_nv) (.ref h_nn) (.ref h_na) (.ref h_nb) (.ref h_nc) (.ref h_let) (.ref h_bto) (.ref h_bin) (.int x_mm_goneTo) (.int x_mm_goneIn) (.ref h_cof) (.ref h_wri) (.int x_mm_writes) (.int x_mm_room)))), (h_wri, .inl (cy_wri, 1000, .inl f_wri)), (h_let, .inl (cy_let, 256, .inl f_let)), (h_nv, .inl (cy_nv, 8000, .inl f_nv)), (h_nn, .inl (cy_nn, 8000, .inr (.inl f_nn))), (h_na, .inl (cy_na, 8000, .inl f_na)), (h_nb, .inl (cy_nb, 8000, .inl f_nb)), (h_nc, .inl (cy_nc, 8000, .inl f_nc)), (h_bto, .inl (cy_bto, 256, .inl f_bto)), (h_bin, .inl (cy_bin, 256, .inl f_bin)), (h_cof, .inl (cy_cof, 31, .inl f_cof))] sz)
set_option maxHeartbeats 8000000 in
set_option maxRecDepth 100000 in
theorem c_X11_saysTerm_1 (l : Launch) (fu : Nat) : K_X11_saysTerm_1 l fu := by
  refine Nat.rec (motive := fun fu => K_X11_saysTerm_1 l fu) ?_ ?_ fu
  · intro dC dI sz h_mm h_wri h_let h_nv h_nn h_na h_nb h_nc h_bto h_bin h_cof v_mm x_mm_goneTo x_mm_goneIn x_mm_writes x_mm_room cy_wri f_wri cy_let f_let cy_nv f_nv cy_nn f_nn cy_na f_na cy_nb f_nb cy_nc f_nc cy_bto f_bto cy_bin f_bin cy_cof f_cof p1 p2 p3 i0 i1 N hz P hx_mm_goneTo hx_mm_goneIn hx_mm_writes hx_mm_room hf_nv hf_na hf_nb hf_nc hf_bto hf_bin hf_cof q0 q1 q2 q3 q4 q5 hn_bi hn_pa
    have h09 : Nat.zero = 0 := rfl
    exact False.elim (by omega)
  intro fu ihf
  intro dC dI sz h_mm h_wri h_let h_nv h_nn h_na h_nb h_nc h_bto h_bin h_cof v_mm x_mm_goneTo x_mm_goneIn x_mm_writes x_mm_room cy_wri f_wri cy_let f_let cy_nv f_nv cy_nn f_nn cy_na f_na cy_nb f_nb cy_nc f_nc cy_bto f_bto cy_bin f_bin cy_cof f_cof p1 p2 p3 i0 i1 N hz P hx_mm_goneTo hx_mm_goneIn hx_mm_writes hx_mm_room hf_nv hf_na hf_nb hf_nc hf_bto hf_bin hf_cof q0 q1 q2 q3 q4 q5 hn_bi hn_pa
  refine Met.ofW (cc := cX11_saysTerm) (maxL := 7) (ret := none) (by decide) rfl ?_
  intro p e s m args below meth c s₁ B hml hv
  obtain ⟨rfl, hsz, hP, hK, hD0, hN⟩ := hv
  have hx := B.exec
  have hb := B.bytes
  have hr := B.returns
  have hts := atoms_spec (ws := Ws yX11_saysTerm cX11_saysTerm 7 none) B.pre
  have hT : ∀ w ∈ WALL, w ∈ Ws yX11_saysTerm cX11_saysTerm 7 none := fun w h => List.mem_cons_of_mem _ h
  have hw := fun w (h : w ∈ WALL) => hts w (hT w h)
  have hown : s.vm.findClass RX11 = some m.cls := findClass_of_methodNamed B.named
  have hlocks := B.notSynchronized
  subst hsz
  have hD := hD0.self (sz := s.heap.size)
  generalize hAe : va_A [(h_mm, .inr (8, (mo157 v_mm (.ref h_nv) (.ref h_nn) (.ref h_na) (.ref h_nb) (.ref h_nc) (.ref h_let) (.ref h_bto) (.ref h_bin) (.int x_mm_goneTo) (.int x_mm_goneIn) (.ref h_cof) (.ref h_wri) (.int x_mm_writes) (.int x_mm_room)))), (h_wri, .inl (cy_wri, 1000, .inl f_wri)), (h_let, .inl (cy_let, 256, .inl f_let)), (h_nv, .inl (cy_nv, 8000, .inl f_nv)), (h_nn, .inl (cy_nn, 8000, .inr (.inl f_nn))), (h_na, .inl (cy_na, 8000, .inl f_na)), (h_nb, .inl (cy_nb, 8000, .inl f_nb)), (h_nc, .inl (cy_nc, 8000, .inl f_nc)), (h_bto, .inl (cy_bto, 256, .inl f_bto)), (h_bin, .inl (cy_bin, 256, .inl f_bin)), (h_cof, .inl (cy_cof, 31, .inl f_cof))] s.heap.size = A at hD ⊢
  have hA : ∀ q : Nat, s.heap.size ≤ q → A q := fun q h => by rw [← hAe]; exact Or.inr h
  have hS : va_S A s.heap s.heap [] := va_S.rf
  have hl := lv_entry ([.ref h_mm, .int p1, .int p2, .int p3]) (n := 7) (Nat.le_of_ble_eq_true rfl)
  rw [lg_entry_eq]
  generalize (lg_sl ([.ref h_mm, .int p1, .int p2, .int p3]) ++ List.replicate (7 - (lg_sl ([.ref h_mm, .int p1, .int p2, .int p3])).length) Slot.unset).toArray = ls at hl ⊢
  have hl : lv_has ls 7 [(0, .ref h_mm), (1, .int p1), (2, .int p2), (3, .int p3)] := hl
  refine lv_aload_n hx hb dX11_saysTerm_0 rfl (lv_at hl 0 rfl) ?_
  refine va_get (D := (dC, dI)) (ci := 8) (v := .int x_mm_writes) (C := RX11) (T := TX11) (N := 71) hx hb hw iwX11 hown hK hP 0 rfl rfl 65 (by decide) (hw _ w_f_X11_443) (fun _ h9 => h9) rfl dX11_saysTerm_1 ?_
  refine lv_aload_n hx hb dX11_saysTerm_4 rfl (lv_at hl 0 rfl) ?_
  refine va_get (D := (dC, dI)) (ci := 8) (v := .int x_mm_room) (C := RX11) (T := TX11) (N := 71) hx hb hw iwX11 hown hK hP 0 rfl rfl 66 (by decide) (hw _ w_f_X11_446) (fun _ h9 => h9) rfl dX11_saysTerm_5 ?_
  refine lv_icmp_le (tgt := 12) hx hb dX11_saysTerm_8 (by decide) (fun c1 => ?_) (fun c1 => ?_)
  · have kc1 := (cv_le (rfl : (x_mm_writes).toInt = (x_mm_writes).toInt) (rfl : (x_mm_room).toInt = (x_mm_room).toInt)).mp c1
    refine lv_iload_n hx hb dX11_saysTerm_12 rfl (lv_at hl 1 rfl) ?_
    refine lv_istore (lv' := [(4, .int p1), (0, .ref h_mm), (1, .int p1), (2, .int p2), (3, .int p3)]) hx hb dX11_saysTerm_13 hl (by decide) rfl (fun ls hl => ?_)
    refine lv_iload_n hx hb dX11_saysTerm_15 rfl (lv_at hl 3 rfl) ?_
    refine lv_istore (lv' := [(5, .int p2), (4, .int p1), (0, .ref h_mm), (1, .int p1), (2, .int p2), (3, .int p3)]) hx hb dX11_saysTerm_16 hl (by decide) rfl (fun ls hl => ?_)
    refine lv_iload_n hx hb dX11_saysTerm_18 rfl (lv_at hl 4 rfl) ?_
    refine lv_iconst (v := (-1)) hx hb dX11_saysTerm_19 (by decide) ?_
    refine lv_icmp_eq (tgt := 41) hx hb dX11_saysTerm_20 (by decide) (fun c2 => False.elim (by have kc2 := (cv_eq (rfl : (p2).toInt = (p2).toInt) (by decide : ((-1) : Int32).toInt = -1)).mp c2; omega)) (fun _ => ?_)
    refine lv_aload_n hx hb dX11_saysTerm_23 rfl (lv_at hl 2 rfl) ?_
    refine lv_iload_n hx hb dX11_saysTerm_24 rfl (lv_at hl 3 rfl) ?_
    refine lv_iload_n hx hb dX11_saysTerm_25 rfl (lv_at hl 4 rfl) ?_
    obtain ⟨vq3, evq3⟩ := mq157_134 v_mm (.ref h_nn) (.ref h_let) (.ref h_cof) (.ref h_wri) (.int x_mm_writes) (.int x_mm_room)
    replace hP : va_P (dC, dI) cls [(h_mm, .inr (8, (mo134 vq3 (.ref h_nv) (.ref h_na) (.ref h_nb) (.ref h_nc) (.ref h_bto) (.ref h_bin) (.int x_mm_goneTo) (.int x_mm_goneIn)))), (h_wri, .inl (cy_wri, 1000, .inl f_wri)), (h_let, .inl (cy_let, 256, .inl f_let)), (h_nv, .inl (cy_nv, 8000, .inl f_nv)), (h_nn, .inl (cy_nn, 8000, .inr (.inl f_nn))), (h_na, .inl (cy_na, 8000, .inl f_na)), (h_nb, .inl (cy_nb, 8000, .inl f_nb)), (h_nc, .inl (cy_nc, 8000, .inl f_nc)), (h_bto, .inl (cy_bto, 256, .inl f_bto)), (h_bin, .inl (cy_bin, 256, .inl f_bin)), (h_cof, .inl (cy_cof, 31, .inl f_cof))] s.heap := by rw [evq3]; exact hP
    replace hD : va_D A [(h_mm, .inr (8, (mo134 vq3 (.ref h_nv) (.ref h_na) (.ref h_nb) (.ref h_nc) (.ref h_bto) (.ref h_bin) (.int x_mm_goneTo) (.int x_mm_goneIn)))), (h_wri, .inl (cy_wri, 1000, .inl f_wri)), (h_let, .inl (cy_let, 256, .inl f_let)), (h_nv, .inl (cy_nv, 8000, .inl f_nv)), (h_nn, .inl (cy_nn, 8000, .inr (.inl f_nn))), (h_na, .inl (cy_na, 8000, .inl f_na)), (h_nb, .inl (cy_nb, 8000, .inl f_nb)), (h_nc, .inl (cy_nc, 8000, .inl f_nc)), (h_bto, .inl (cy_bto, 256, .inl f_bto)), (h_bin, .inl (cy_bin, 256, .inl f_bin)), (h_cof, .inl (cy_cof, 31, .inl f_cof))] := by rw [evq3]; exact hD
    have hPc := hP.sub (ws' := [(h_mm, .inr (8, (mo134 vq3 (.ref h_nv) (.ref h_na) (.ref h_nb) (.ref h_nc) (.ref h_bto) (.ref h_bin) (.int x_mm_goneTo) (.int x_mm_goneIn)))), (h_nv, .inl (cy_nv, 8000, .inl f_nv)), (h_na, .inl (cy_na, 8000, .inl f_na)), (h_nb, .inl (cy_nb, 8000, .inl f_nb)), (h_nc, .inl (cy_nc, 8000, .inl f_nc)), (h_bto, .inl (cy_bto, 256, .inl f_bto)), (h_bin, .inl (cy_bin, 256, .inl f_bin))]) [0, 3, 5, 6, 7, 8, 9] rfl
    have hDc := hD.sub (ws' := [(h_mm, .inr (8, (mo134 vq3 (.ref h_nv) (.ref h_na) (.ref h_nb) (.ref h_nc) (.ref h_bto) (.ref h_bin) (.int x_mm_goneTo) (.int x_mm_goneIn)))), (h_nv, .inl (cy_nv, 8000, .inl f_nv)), (h_na, .inl (cy_na, 8000, .inl f_na)), (h_nb, .inl (cy_nb, 8000, .inl f_nb)), (h_nc, .inl (cy_nc, 8000, .inl f_nc)), (h_bto, .inl (cy_bto, 256, .inl f_bto)), (h_bin, .inl (cy_bin, 256, .inl f_bin))]) [0, 3, 5, 6, 7, 8, 9] (by decide) rfl
    have hKc := hK.sub (tys' := [(cy_nv, .int), (cy_na, .int), (cy_nb, .int), (cy_nc, .int), (cy_bto, .int), (cy_bin, .int)]) [2, 4, 5, 6, 7, 8] rfl
    have hFc := va_free (wc := [(h_mm, .inr (8, (mo134 vq3 (.ref h_nv) (.ref h_na) (.ref h_nb) (.ref h_nc) (.ref h_bto) (.ref h_bin) (.int x_mm_goneTo) (.int x_mm_goneIn)))), (h_nv, .inl (cy_nv, 8000, .inl f_nv)), (h_na, .inl (cy_na, 8000, .inl f_na)), (h_nb, .inl (cy_nb, 8000, .inl f_nb)), (h_nc, .inl (cy_nc, 8000, .inl f_nc)), (h_bto, .inl (cy_bto, 256, .inl f_bto)), (h_bin, .inl (cy_bin, 256, .inl f_bin))]) hD hS hA [0, 3, 5, 6, 7, 8, 9] rfl
    refine va_callv (va_runV (As := [.int p1, .int p2]) (rest := []) ⟨hx, hb, hml, hown, hts⟩ (c_X11_goesTo l dC dI s.heap.size h_mm h_nv h_na h_nb h_nc h_bto h_bin vq3 x_mm_goneTo x_mm_goneIn cy_nv f_nv cy_na f_na cy_nb f_nb cy_nc f_nc cy_bto f_bto cy_bin f_bin p1 p2 i0 i1 N hz (RGW f_nn f_nv f_na f_nb f_nc) P (fu + 1) (by first | exact hx_mm_goneTo | omega) (by first | exact hx_mm_goneIn | omega) hf_nv hf_na hf_nb hf_nc hf_bto hf_bin (by first | exact q0 | omega) (by first | exact q1 | omega) (by first | exact q3 | omega) (by omega) (by omega) hn_bi hn_pa rgw_grv) (cwV 2 hts (gv hT w_m_X11_273 w_instanceMethod_X11_goesTo ws_sel_X11_goesTo w_ini_X11 w_code_X11_goesTo) rfl rfl rfl (by decide +kernel) ⟨(by dsimp only [headSpec]; omega), (by dsimp only [headSpec]; omega)⟩) ⟨pre_blind, va_recv hK hP (ci := 8) (q0 := 0) rfl rfl, pre_of hPc hKc hDc hN⟩ rfl rfl hl.1 rfl (lv_room (Nat.le_of_ble_eq_true rfl)) dX11_saysTerm_26 ⟨(Nat.le_of_ble_eq_true rfl), (Nat.le_of_ble_eq_true rfl)⟩) hS (fun q _ h => hFc q h) hFc (fun u t H locs ht hvm hq hB hz1 hk1 hS9 => ?_)
    obtain ⟨z5, z6, z7⟩ := u
    obtain ⟨hP1, hD1⟩ := hB
    rw [ht] at hP1
    obtain ⟨hP9, hD9⟩ := va_join (wr := [(h_wri, .inl (cy_wri, 1000, .inl f_wri)), (h_let, .inl (cy_let, 256, .inl f_let)), (h_nn, .inl (cy_nn, 8000, .inr (.inl f_nn))), (h_cof, .inl (cy_cof, 31, .inl f_cof))]) (w1 := [(h_mm, .inr (8, (mo134 vq3 (.ref h_nv) (.ref h_na) (.ref h_nb) (.ref h_nc) (.ref h_bto) (.ref h_bin) (.int z5) (.int z6)))), (h_nv, .inl (cy_nv, 8000, .inl f_nv)), (h_na, .inl (cy_na, 8000, .inl f_na)), (h_nb, .inl (cy_nb, 8000, .inl f_nb)), (h_nc, .inl (cy_nc, 8000, .inl f_nc)), (h_bto, .inl (cy_bto, 256, .inl f_bto)), (h_bin, .inl (cy_bin, 256, .inl f_bin))]) hP hD [0, 3, 5, 6, 7, 8, 9] [1, 2, 4, 10] rfl rfl (by decide) (by decide) hk1 hFc hP1 hD1
    clear hP hD hS hPc hDc hKc hFc hP1 hD1 hk1 hz1 ht hvm
    have hP : va_P (dC, dI) cls [(h_wri, .inl (cy_wri, 1000, .inl f_wri)), (h_let, .inl (cy_let, 256, .inl f_let)), (h_nn, .inl (cy_nn, 8000, .inr (.inl f_nn))), (h_cof, .inl (cy_cof, 31, .inl f_cof)), (h_mm, .inr (8, (mo134 vq3 (.ref h_nv) (.ref h_na) (.ref h_nb) (.ref h_nc) (.ref h_bto) (.ref h_bin) (.int z5) (.int z6)))), (h_nv, .inl (cy_nv, 8000, .inl f_nv)), (h_na, .inl (cy_na, 8000, .inl f_na)), (h_nb, .inl (cy_nb, 8000, .inl f_nb)), (h_nc, .inl (cy_nc, 8000, .inl f_nc)), (h_bto, .inl (cy_bto, 256, .inl f_bto)), (h_bin, .inl (cy_bin, 256, .inl f_bin))] H := hP9
    have hD : va_D A [(h_wri, .inl (cy_wri, 1000, .inl f_wri)), (h_let, .inl (cy_let, 256, .inl f_let)), (h_nn, .inl (cy_nn, 8000, .inr (.inl f_nn))), (h_cof, .inl (cy_cof, 31, .inl f_cof)), (h_mm, .inr (8, (mo134 vq3 (.ref h_nv) (.ref h_na) (.ref h_nb) (.ref h_nc) (.ref h_bto) (.ref h_bin) (.int z5) (.int z6)))), (h_nv, .inl (cy_nv, 8000, .inl f_nv)), (h_na, .inl (cy_na, 8000, .inl f_na)), (h_nb, .inl (cy_nb, 8000, .inl f_nb)), (h_nc, .inl (cy_nc, 8000, .inl f_nc)), (h_bto, .inl (cy_bto, 256, .inl f_bto)), (h_bin, .inl (cy_bin, 256, .inl f_bin))] := hD9
    have hS := hS9
    clear hP9 hD9 hS9
    rw [evq3] at hP hD
    replace hP : va_P (dC, dI) cls [(h_wri, .inl (cy_wri, 1000, .inl f_wri)), (h_let, .inl (cy_let, 256, .inl f_let)), (h_nn, .inl (cy_nn, 8000, .inr (.inl f_nn))), (h_cof, .inl (cy_cof, 31, .inl f_cof)), (h_mm, .inr (8, (mo157 v_mm (.ref h_nv) (.ref h_nn) (.ref h_na) (.ref h_nb) (.ref h_nc) (.ref h_let) (.ref h_bto) (.ref h_bin) (.int z5) (.int z6) (.ref h_cof) (.ref h_wri) (.int x_mm_writes) (.int x_mm_room)))), (h_nv, .inl (cy_nv, 8000, .inl f_nv)), (h_na, .inl (cy_na, 8000, .inl f_na)), (h_nb, .inl (cy_nb, 8000, .inl f_nb)), (h_nc, .inl (cy_nc, 8000, .inl f_nc)), (h_bto, .inl (cy_bto, 256, .inl f_bto)), (h_bin, .inl (cy_bin, 256, .inl f_bin))] H := hP
    replace hD : va_D A [(h_wri, .inl (cy_wri, 1000, .inl f_wri)), (h_let, .inl (cy_let, 256, .inl f_let)), (h_nn, .inl (cy_nn, 8000, .inr (.inl f_nn))), (h_cof, .inl (cy_cof, 31, .inl f_cof)), (h_mm, .inr (8, (mo157 v_mm (.ref h_nv) (.ref h_nn) (.ref h_na) (.ref h_nb) (.ref h_nc) (.ref h_let) (.ref h_bto) (.ref h_bin) (.int z5) (.int z6) (.ref h_cof) (.ref h_wri) (.int x_mm_writes) (.int x_mm_room)))), (h_nv, .inl (cy_nv, 8000, .inl f_nv)), (h_na, .inl (cy_na, 8000, .inl f_na)), (h_nb, .inl (cy_nb, 8000, .inl f_nb)), (h_nc, .inl (cy_nc, 8000, .inl f_nc)), (h_bto, .inl (cy_bto, 256, .inl f_bto)), (h_bin, .inl (cy_bin, 256, .inl f_bin))] := hD
    clear evq3 
    obtain ⟨k8, k9, k10, k11, k12, k13, k14, k15, k16⟩ := hq
    replace k8 : 0 ≤ ((z5)).toInt ∧ ((z5)).toInt ≤ 7999 := k8
    replace k9 : 0 ≤ ((z6)).toInt ∧ ((z6)).toInt ≤ 31 := k9
    replace k10 : 0 ≤ ((z5)).toInt ∧ ((z5)).toInt < (N) := k10
    replace k11 : (i0) ≤ ((z6)).toInt ∧ ((z6)).toInt ≤ (i1) := k11
    replace k12 : (hz) ((z5)).toInt.toNat + 6 * (256 - ((z7)).length) + 1 ≤ ((fu + 1)) := k12
    replace k13 : PA (i0) (z7) f_nv f_na f_nb f_nc f_bto f_bin ((z5)).toInt.toNat ((z6)).toInt := k13
    replace k14 : (f_nv ((z5)).toInt.toNat).toInt = -1 ∨ (f_bto (8 * ((z6)).toInt + (f_nv ((z5)).toInt.toNat).toInt).toNat).toInt = -1 := k14
    replace k15 : ∀ tt : Nat, (f_bto tt).toInt = -1 → NR f_nv f_na f_nb f_nc f_bto f_bin ((z5)).toInt.toNat ((z6)).toInt tt → NR f_nv f_na f_nb f_nc f_bto f_bin ((p1)).toInt.toNat ((p2)).toInt tt := k15
    replace k16 : BRE ((RGW f_nn f_nv f_na f_nb f_nc)) (BDW f_bto f_bin) (PLR (p1) (p2)) (PLR (z5) (z6)) := k16
    refine lv_aload_n hx hb dX11_saysTerm_29 rfl (lv_at hl 2 rfl) ?_
    refine va_get (D := (dC, dI)) (ci := 8) (v := .int z5) (C := RX11) (T := TX11) (N := 71) hx hb hw iwX11 hown hK hP 4 rfl rfl 31 (by decide) (hw _ w_f_X11_264) (fun _ h9 => h9) rfl dX11_saysTerm_30 ?_
    refine lv_istore (lv' := [(4, .int z5), (5, .int p2), (0, .ref h_mm), (1, .int p1), (2, .int p2), (3, .int p3)]) hx hb dX11_saysTerm_33 hl (by decide) rfl (fun ls hl => ?_)
    refine lv_aload_n hx hb dX11_saysTerm_35 rfl (lv_at hl 2 rfl) ?_
    refine va_get (D := (dC, dI)) (ci := 8) (v := .int z6) (C := RX11) (T := TX11) (N := 71) hx hb hw iwX11 hown hK hP 4 rfl rfl 32 (by decide) (hw _ w_f_X11_267) (fun _ h9 => h9) rfl dX11_saysTerm_36 ?_
    refine lv_istore (lv' := [(5, .int z6), (4, .int z5), (0, .ref h_mm), (1, .int p1), (2, .int p2), (3, .int p3)]) hx hb dX11_saysTerm_39 hl (by decide) rfl (fun ls hl => ?_)
    refine lv_aload_n hx hb dX11_saysTerm_41 rfl (lv_at hl 2 rfl) ?_
    refine va_get (D := (dC, dI)) (ci := 8) (v := .ref h_nv) (C := RX11) (T := TX11) (N := 71) hx hb hw iwX11 hown hK hP 4 rfl rfl 1 (by decide) (hw _ w_f_X11_17) (fun _ h9 => h9) rfl dX11_saysTerm_42 ?_
    refine lv_iload hx hb dX11_saysTerm_45 (lv_at hl 1 rfl) ?_
    refine va_iald hx hb hK hP 5 2 rfl rfl (i := z5) (vp_in_iff.mpr (by omega)) dX11_saysTerm_47 ?_
    refine lv_topi (fun z17 ez17 => ?_)
    have rz17 : -1 ≤ (z17).toInt ∧ (z17).toInt ≤ 7 := by rw [ez17]; exact hf_nv _
    refine lv_iconst (v := (-1)) hx hb dX11_saysTerm_48 (by decide) ?_
    refine lv_icmp_eq (tgt := 102) hx hb dX11_saysTerm_49 (by decide) (fun c18 => ?_) (fun c18 => ?_)
    · have kc18 := (cv_eq (rfl : (z17).toInt = (z17).toInt) (by decide : ((-1) : Int32).toInt = -1)).mp c18
      refine lv_aload_n hx hb dX11_saysTerm_102 rfl (lv_at hl 2 rfl) ?_
      refine lv_aload_n hx hb dX11_saysTerm_103 rfl (lv_at hl 2 rfl) ?_
      refine va_get (D := (dC, dI)) (ci := 8) (v := .ref h_nn) (C := RX11) (T := TX11) (N := 71) hx hb hw iwX11 hown hK hP 4 rfl rfl 2 (by decide) (hw _ w_f_X11_23) (fun _ h9 => h9) rfl dX11_saysTerm_104 ?_
      refine lv_iload hx hb dX11_saysTerm_107 (lv_at hl 1 rfl) ?_
      refine va_lald hx hb hK hP 2 3 rfl rfl (i := z5) (vp_in_iff.mpr (by omega)) dX11_saysTerm_109 ?_
      refine lv_topl (fun z19 ez19 => ?_)
      obtain ⟨vq20, evq20⟩ := mq157_118 v_mm (.ref h_nv) (.ref h_nn) (.ref h_na) (.ref h_nb) (.ref h_nc) (.ref h_let) (.ref h_bto) (.ref h_bin) (.int z5) (.int z6) (.ref h_cof)
      replace hP : va_P (dC, dI) cls [(h_wri, .inl (cy_wri, 1000, .inl f_wri)), (h_let, .inl (cy_let, 256, .inl f_let)), (h_nn, .inl (cy_nn, 8000, .inr (.inl f_nn))), (h_cof, .inl (cy_cof, 31, .inl f_cof)), (h_mm, .inr (8, (mo118 vq20 (.ref h_wri) (.int x_mm_writes) (.int x_mm_room)))), (h_nv, .inl (cy_nv, 8000, .inl f_nv)), (h_na, .inl (cy_na, 8000, .inl f_na)), (h_nb, .inl (cy_nb, 8000, .inl f_nb)), (h_nc, .inl (cy_nc, 8000, .inl f_nc)), (h_bto, .inl (cy_bto, 256, .inl f_bto)), (h_bin, .inl (cy_bin, 256, .inl f_bin))] H := by rw [evq20]; exact hP
      replace hD : va_D A [(h_wri, .inl (cy_wri, 1000, .inl f_wri)), (h_let, .inl (cy_let, 256, .inl f_let)), (h_nn, .inl (cy_nn, 8000, .inr (.inl f_nn))), (h_cof, .inl (cy_cof, 31, .inl f_cof)), (h_mm, .inr (8, (mo118 vq20 (.ref h_wri) (.int x_mm_writes) (.int x_mm_room)))), (h_nv, .inl (cy_nv, 8000, .inl f_nv)), (h_na, .inl (cy_na, 8000, .inl f_na)), (h_nb, .inl (cy_nb, 8000, .inl f_nb)), (h_nc, .inl (cy_nc, 8000, .inl f_nc)), (h_bto, .inl (cy_bto, 256, .inl f_bto)), (h_bin, .inl (cy_bin, 256, .inl f_bin))] := by rw [evq20]; exact hD
      have hPc := hP.sub (ws' := [(h_mm, .inr (8, (mo118 vq20 (.ref h_wri) (.int x_mm_writes) (.int x_mm_room)))), (h_wri, .inl (cy_wri, 1000, .inl f_wri))]) [4, 0] rfl
      have hDc := hD.sub (ws' := [(h_mm, .inr (8, (mo118 vq20 (.ref h_wri) (.int x_mm_writes) (.int x_mm_room)))), (h_wri, .inl (cy_wri, 1000, .inl f_wri))]) [4, 0] (by decide) rfl
      have hKc := hK.sub (tys' := [(cy_wri, .int)]) [0] rfl
      have hFc := va_free (wc := [(h_mm, .inr (8, (mo118 vq20 (.ref h_wri) (.int x_mm_writes) (.int x_mm_room)))), (h_wri, .inl (cy_wri, 1000, .inl f_wri))]) hD hS hA [4, 0] rfl
      refine va_callv (va_runV (As := [.long z19]) (rest := []) ⟨hx, hb, hml, hown, hts⟩ (c_X11_saysName_13 l dC dI H.size h_mm h_wri vq20 x_mm_writes x_mm_room cy_wri f_wri z19 (by first | exact hx_mm_writes | omega) (by first | exact hx_mm_room | omega)) (cwV 1 hts (gv hT w_m_X11_455 w_instanceMethod_X11_saysName ws_sel_X11_saysName w_ini_X11 w_code_X11_saysName) rfl rfl rfl (by decide +kernel) ⟨(by dsimp only [headSpec]; omega), (by dsimp only [headSpec]; omega)⟩) ⟨pre_blind, va_recv hK hP (ci := 8) (q0 := 4) rfl rfl, pre_of hPc hKc hDc hN⟩ rfl rfl hl.1 rfl (lv_room (Nat.le_of_ble_eq_true rfl)) dX11_saysTerm_110 ⟨(Nat.le_of_ble_eq_true rfl), (Nat.le_of_ble_eq_true rfl)⟩) hS (fun q _ h => hFc q h) hFc (fun u t H locs ht hvm hq hB hz1 hk1 hS9 => ?_)
      obtain ⟨z22, f23⟩ := u
      obtain ⟨hP1, hD1⟩ := hB
      rw [ht] at hP1
      obtain ⟨hP9, hD9⟩ := va_join (wr := [(h_let, .inl (cy_let, 256, .inl f_let)), (h_nn, .inl (cy_nn, 8000, .inr (.inl f_nn))), (h_cof, .inl (cy_cof, 31, .inl f_cof)), (h_nv, .inl (cy_nv, 8000, .inl f_nv)), (h_na, .inl (cy_na, 8000, .inl f_na)), (h_nb, .inl (cy_nb, 8000, .inl f_nb)), (h_nc, .inl (cy_nc, 8000, .inl f_nc)), (h_bto, .inl (cy_bto, 256, .inl f_bto)), (h_bin, .inl (cy_bin, 256, .inl f_bin))]) (w1 := [(h_mm, .inr (8, (mo118 vq20 (.ref h_wri) (.int z22) (.int x_mm_room)))), (h_wri, .inl (cy_wri, 1000, .inl f23))]) hP hD [4, 0] [1, 2, 3, 5, 6, 7, 8, 9, 10] rfl rfl (by decide) (by decide) hk1 hFc hP1 hD1
      clear hP hD hS hPc hDc hKc hFc hP1 hD1 hk1 hz1 ht hvm
      have hP : va_P (dC, dI) cls [(h_let, .inl (cy_let, 256, .inl f_let)), (h_nn, .inl (cy_nn, 8000, .inr (.inl f_nn))), (h_cof, .inl (cy_cof, 31, .inl f_cof)), (h_nv, .inl (cy_nv, 8000, .inl f_nv)), (h_na, .inl (cy_na, 8000, .inl f_na)), (h_nb, .inl (cy_nb, 8000, .inl f_nb)), (h_nc, .inl (cy_nc, 8000, .inl f_nc)), (h_bto, .inl (cy_bto, 256, .inl f_bto)), (h_bin, .inl (cy_bin, 256, .inl f_bin)), (h_mm, .inr (8, (mo118 vq20 (.ref h_wri) (.int z22) (.int x_mm_room)))), (h_wri, .inl (cy_wri, 1000, .inl f23))] H := hP9
      have hD : va_D A [(h_let, .inl (cy_let, 256, .inl f_let)), (h_nn, .inl (cy_nn, 8000, .inr (.inl f_nn))), (h_cof, .inl (cy_cof, 31, .inl f_cof)), (h_nv, .inl (cy_nv, 8000, .inl f_nv)), (h_na, .inl (cy_na, 8000, .inl f_na)), (h_nb, .inl (cy_nb, 8000, .inl f_nb)), (h_nc, .inl (cy_nc, 8000, .inl f_nc)), (h_bto, .inl (cy_bto, 256, .inl f_bto)), (h_bin, .inl (cy_bin, 256, .inl f_bin)), (h_mm, .inr (8, (mo118 vq20 (.ref h_wri) (.int z22) (.int x_mm_room)))), (h_wri, .inl (cy_wri, 1000, .inl f23))] := hD9
      have hS := hS9
      clear hP9 hD9 hS9
      rw [evq20] at hP hD
      replace hP : va_P (dC, dI) cls [(h_let, .inl (cy_let, 256, .inl f_let)), (h_nn, .inl (cy_nn, 8000, .inr (.inl f_nn))), (h_cof, .inl (cy_cof, 31, .inl f_cof)), (h_nv, .inl (cy_nv, 8000, .inl f_nv)), (h_na, .inl (cy_na, 8000, .inl f_na)), (h_nb, .inl (cy_nb, 8000, .inl f_nb)), (h_nc, .inl (cy_nc, 8000, .inl f_nc)), (h_bto, .inl (cy_bto, 256, .inl f_bto)), (h_bin, .inl (cy_bin, 256, .inl f_bin)), (h_mm, .inr (8, (mo157 v_mm (.ref h_nv) (.ref h_nn) (.ref h_na) (.ref h_nb) (.ref h_nc) (.ref h_let) (.ref h_bto) (.ref h_bin) (.int z5) (.int z6) (.ref h_cof) (.ref h_wri) (.int z22) (.int x_mm_room)))), (h_wri, .inl (cy_wri, 1000, .inl f23))] H := hP
      replace hD : va_D A [(h_let, .inl (cy_let, 256, .inl f_let)), (h_nn, .inl (cy_nn, 8000, .inr (.inl f_nn))), (h_cof, .inl (cy_cof, 31, .inl f_cof)), (h_nv, .inl (cy_nv, 8000, .inl f_nv)), (h_na, .inl (cy_na, 8000, .inl f_na)), (h_nb, .inl (cy_nb, 8000, .inl f_nb)), (h_nc, .inl (cy_nc, 8000, .inl f_nc)), (h_bto, .inl (cy_bto, 256, .inl f_bto)), (h_bin, .inl (cy_bin, 256, .inl f_bin)), (h_mm, .inr (8, (mo157 v_mm (.ref h_nv) (.ref h_nn) (.ref h_na) (.ref h_nb) (.ref h_nc) (.ref h_let) (.ref h_bto) (.ref h_bin) (.int z5) (.int z6) (.ref h_cof) (.ref h_wri) (.int z22) (.int x_mm_room)))), (h_wri, .inl (cy_wri, 1000, .inl f23))] := hD
      clear evq20 
      have k24 : 0 ≤ ((z22)).toInt ∧ ((z22)).toInt ≤ 1000 := hq
      clear hq
      refine lv_iconst (v := 0) hx hb dX11_saysTerm_113 (by decide) ?_
      refine lv_istore (lv' := [(6, .int 0), (5, .int z6), (4, .int z5), (0, .ref h_mm), (1, .int p1), (2, .int p2), (3, .int p3)]) hx hb dX11_saysTerm_114 hl (by decide) rfl (fun ls hl => ?_)
      have lp30 : ∀ (n : Nat) (x25 : Int32) (x26 : Int32) (x27 : Int32) (x28 : Int32) (f29 : Nat → Int32) (H : Heap) (locs : List Loc) (ls : Array Slot), (0 ≤ (x25).toInt ∧ (x25).toInt ≤ 3) → (0 ≤ (x26).toInt ∧ (x26).toInt ≤ 7999) → (0 ≤ (x27).toInt ∧ (x27).toInt ≤ 31) → (0 ≤ (x28).toInt ∧ (x28).toInt ≤ 1000) → (3 - (x25).toInt).toNat + 1 ≤ n → va_P (dC, dI) cls [(h_let, .inl (cy_let, 256, .inl f_let)), (h_nn, .inl (cy_nn, 8000, .inr (.inl f_nn))), (h_cof, .inl (cy_cof, 31, .inl f_cof)), (h_nv, .inl (cy_nv, 8000, .inl f_nv)), (h_na, .inl (cy_na, 8000, .inl f_na)), (h_nb, .inl (cy_nb, 8000, .inl f_nb)), (h_nc, .inl (cy_nc, 8000, .inl f_nc)), (h_bto, .inl (cy_bto, 256, .inl f_bto)), (h_bin, .inl (cy_bin, 256, .inl f_bin)), (h_mm, .inr (8, (mo157 v_mm (.ref h_nv) (.ref h_nn) (.ref h_na) (.ref h_nb) (.ref h_nc) (.ref h_let) (.ref h_bto) (.ref h_bin) (.int x26) (.int x27) (.ref h_cof) (.ref h_wri) (.int x28) (.int x_mm_room)))), (h_wri, .inl (cy_wri, 1000, .inl f29))] H → va_D A [(h_let, .inl (cy_let, 256, .inl f_let)), (h_nn, .inl (cy_nn, 8000, .inr (.inl f_nn))), (h_cof, .inl (cy_cof, 31, .inl f_cof)), (h_nv, .inl (cy_nv, 8000, .inl f_nv)), (h_na, .inl (cy_na, 8000, .inl f_na)), (h_nb, .inl (cy_nb, 8000, .inl f_nb)), (h_nc, .inl (cy_nc, 8000, .inl f_nc)), (h_bto, .inl (cy_bto, 256, .inl f_bto)), (h_bin, .inl (cy_bin, 256, .inl f_bin)), (h_mm, .inr (8, (mo157 v_mm (.ref h_nv) (.ref h_nn) (.ref h_na) (.ref h_nb) (.ref h_nc) (.ref h_let) (.ref h_bto) (.ref h_bin) (.int x26) (.int x27) (.ref h_cof) (.ref h_wri) (.int x28) (.int x_mm_room)))), (h_wri, .inl (cy_wri, 1000, .inl f29))] → va_S A s.heap H locs → lv_has ls 7 [(0, .ref h_mm), (1, .int p1), (2, .int p2), (3, .int p3), (4, .int z5), (5, .int z6), (6, .int x25)] → W p l e ({ frames := (fu + 1) + 15, cells := 0, slots := 0, locals := 26 * (fu + 1) + 329 } : Room) s m ([.ref h_mm, .int p1, .int p2, .int p3] : List Value).toArray below meth c H locs 0 0 (MQ below (va_Qv (fun (u : (Int32) × (Int32) × (Int32) × (Nat → Int32)) => (0 ≤ (u.1).toInt ∧ (u.1).toInt ≤ 7999) ∧ (0 ≤ (u.2.1).toInt ∧ (u.2.1).toInt ≤ 31) ∧ (0 ≤ (u.2.2.1).toInt ∧ (u.2.2.1).toInt ≤ 1000)) (fun (u : (Int32) × (Int32) × (Int32) × (Nat → Int32)) (t : State) => va_P (dC, dI) cls [(h_mm, .inr (8, (mo157 v_mm (.ref h_nv) (.ref h_nn) (.ref h_na) (.ref h_nb) (.ref h_nc) (.ref h_let) (.ref h_bto) (.ref h_bin) (.int u.1) (.int u.2.1) (.ref h_cof) (.ref h_wri) (.int u.2.2.1) (.int x_mm_room)))), (h_wri, .inl (cy_wri, 1000, .inl u.2.2.2)), (h_let, .inl (cy_let, 256, .inl f_let)), (h_nv, .inl (cy_nv, 8000, .inl f_nv)), (h_nn, .inl (cy_nn, 8000, .inr (.inl f_nn))), (h_na, .inl (cy_na, 8000, .inl f_na)), (h_nb, .inl (cy_nb, 8000, .inl f_nb)), (h_nc, .inl (cy_nc, 8000, .inl f_nc)), (h_bto, .inl (cy_bto, 256, .inl f_bto)), (h_bin, .inl (cy_bin, 256, .inl f_bin)), (h_cof, .inl (cy_cof, 31, .inl f_cof))] t.heap ∧ va_D A [(h_mm, .inr (8, (mo157 v_mm (.ref h_nv) (.ref h_nn) (.ref h_na) (.ref h_nb) (.ref h_nc) (.ref h_let) (.ref h_bto) (.ref h_bin) (.int u.1) (.int u.2.1) (.ref h_cof) (.ref h_wri) (.int u.2.2.1) (.int x_mm_room)))), (h_wri, .inl (cy_wri, 1000, .inl u.2.2.2)), (h_let, .inl (cy_let, 256, .inl f_let)), (h_nv, .inl (cy_nv, 8000, .inl f_nv)), (h_nn, .inl (cy_nn, 8000, .inr (.inl f_nn))), (h_na, .inl (cy_na, 8000, .inl f_na)), (h_nb, .inl (cy_nb, 8000, .inl f_nb)), (h_nc, .inl (cy_nc, 8000, .inl f_nc)), (h_bto, .inl (cy_bto, 256, .inl f_bto)), (h_bin, .inl (cy_bin, 256, .inl f_bin)), (h_cof, .inl (cy_cof, 31, .inl f_cof))]) A) ([.ref h_mm, .int p1, .int p2, .int p3] : List Value).toArray s 0 0 A) (F0 m 116 ls []) := by
        clear hP hD hS hl
        intro n
        induction n with
        | zero => intro x25 x26 x27 x28 f29 H locs ls klp30_0 klp30_1 klp30_2 klp30_3 hm hP hD hS hl; exact False.elim (by omega)
        | succ n ih => 
          intro x25 x26 x27 x28 f29 H locs ls klp30_0 klp30_1 klp30_2 klp30_3 hm hP hD hS hl
          have ih31 := ih
          clear ih
          refine lv_iload hx hb dX11_saysTerm_116 (lv_at hl 6 rfl) ?_
          refine lv_aload_n hx hb dX11_saysTerm_118 rfl (lv_at hl 0 rfl) ?_
          refine lv_iload hx hb dX11_saysTerm_119 (lv_at hl 4 rfl) ?_
          obtain ⟨vq32, evq32⟩ := mq157_86 v_mm (.ref h_nn) (.ref h_let) (.ref h_bto) (.ref h_bin) (.int x26) (.int x27) (.ref h_cof) (.ref h_wri) (.int x28) (.int x_mm_room)
          replace hP : va_P (dC, dI) cls [(h_let, .inl (cy_let, 256, .inl f_let)), (h_nn, .inl (cy_nn, 8000, .inr (.inl f_nn))), (h_cof, .inl (cy_cof, 31, .inl f_cof)), (h_nv, .inl (cy_nv, 8000, .inl f_nv)), (h_na, .inl (cy_na, 8000, .inl f_na)), (h_nb, .inl (cy_nb, 8000, .inl f_nb)), (h_nc, .inl (cy_nc, 8000, .inl f_nc)), (h_bto, .inl (cy_bto, 256, .inl f_bto)), (h_bin, .inl (cy_bin, 256, .inl f_bin)), (h_mm, .inr (8, (mo86 vq32 (.ref h_nv) (.ref h_na) (.ref h_nb) (.ref h_nc)))), (h_wri, .inl (cy_wri, 1000, .inl f29))] H := by rw [evq32]; exact hP
          replace hD : va_D A [(h_let, .inl (cy_let, 256, .inl f_let)), (h_nn, .inl (cy_nn, 8000, .inr (.inl f_nn))), (h_cof, .inl (cy_cof, 31, .inl f_cof)), (h_nv, .inl (cy_nv, 8000, .inl f_nv)), (h_na, .inl (cy_na, 8000, .inl f_na)), (h_nb, .inl (cy_nb, 8000, .inl f_nb)), (h_nc, .inl (cy_nc, 8000, .inl f_nc)), (h_bto, .inl (cy_bto, 256, .inl f_bto)), (h_bin, .inl (cy_bin, 256, .inl f_bin)), (h_mm, .inr (8, (mo86 vq32 (.ref h_nv) (.ref h_na) (.ref h_nb) (.ref h_nc)))), (h_wri, .inl (cy_wri, 1000, .inl f29))] := by rw [evq32]; exact hD
          have hPc := hP.sub (ws' := [(h_mm, .inr (8, (mo86 vq32 (.ref h_nv) (.ref h_na) (.ref h_nb) (.ref h_nc)))), (h_nv, .inl (cy_nv, 8000, .inl f_nv)), (h_na, .inl (cy_na, 8000, .inl f_na)), (h_nb, .inl (cy_nb, 8000, .inl f_nb)), (h_nc, .inl (cy_nc, 8000, .inl f_nc))]) [9, 3, 4, 5, 6] rfl
          have hDc := hD.sub (ws' := [(h_mm, .inr (8, (mo86 vq32 (.ref h_nv) (.ref h_na) (.ref h_nb) (.ref h_nc)))), (h_nv, .inl (cy_nv, 8000, .inl f_nv)), (h_na, .inl (cy_na, 8000, .inl f_na)), (h_nb, .inl (cy_nb, 8000, .inl f_nb)), (h_nc, .inl (cy_nc, 8000, .inl f_nc))]) [9, 3, 4, 5, 6] (by decide) rfl
          have hKc := hK.sub (tys' := [(cy_nv, .int), (cy_na, .int), (cy_nb, .int), (cy_nc, .int)]) [2, 4, 5, 6] rfl
          have hFc := va_free (wc := [(h_mm, .inr (8, (mo86 vq32 (.ref h_nv) (.ref h_na) (.ref h_nb) (.ref h_nc)))), (h_nv, .inl (cy_nv, 8000, .inl f_nv)), (h_na, .inl (cy_na, 8000, .inl f_na)), (h_nb, .inl (cy_nb, 8000, .inl f_nb)), (h_nc, .inl (cy_nc, 8000, .inl f_nc))]) hD hS hA [9, 3, 4, 5, 6] rfl
          refine va_calli (va_runV (As := [.int z5]) (rest := [.int x25]) ⟨hx, hb, hml, hown, hts⟩ (c_X11_partsAt_e l dC dI H.size h_mm h_nv h_na h_nb h_nc vq32 cy_nv f_nv cy_na f_na cy_nb f_nb cy_nc f_nc z5 hf_nv hf_na hf_nb hf_nc (by first | exact k8 | omega)) (cwV 1 hts (gv hT w_m_X11_27 w_instanceMethod_X11_partsAt ws_sel_X11_partsAt w_ini_X11 w_code_X11_partsAt) rfl rfl rfl (by decide +kernel) ⟨(by dsimp only [headSpec]; omega), (by dsimp only [headSpec]; omega)⟩) ⟨pre_blind, va_recv hK hP (ci := 8) (q0 := 9) rfl rfl, pre_of hPc hKc hDc hN⟩ rfl rfl hl.1 rfl (lv_room (Nat.le_of_ble_eq_true rfl)) dX11_saysTerm_121 ⟨(Nat.le_of_ble_eq_true rfl), (Nat.le_of_ble_eq_true rfl)⟩) hS (fun q _ h => hFc q h) hFc (fun r33 u t H locs ht hvm hq hB hz1 hk1 hS9 => ?_)
          obtain ⟨hP1, hD1⟩ := hB
          rw [ht] at hP1
          obtain ⟨hP9, hD9⟩ := va_join (wr := [(h_let, .inl (cy_let, 256, .inl f_let)), (h_nn, .inl (cy_nn, 8000, .inr (.inl f_nn))), (h_cof, .inl (cy_cof, 31, .inl f_cof)), (h_bto, .inl (cy_bto, 256, .inl f_bto)), (h_bin, .inl (cy_bin, 256, .inl f_bin)), (h_wri, .inl (cy_wri, 1000, .inl f29))]) (w1 := [(h_mm, .inr (8, (mo86 vq32 (.ref h_nv) (.ref h_na) (.ref h_nb) (.ref h_nc)))), (h_nv, .inl (cy_nv, 8000, .inl f_nv)), (h_na, .inl (cy_na, 8000, .inl f_na)), (h_nb, .inl (cy_nb, 8000, .inl f_nb)), (h_nc, .inl (cy_nc, 8000, .inl f_nc))]) hP hD [9, 3, 4, 5, 6] [0, 1, 2, 7, 8, 10] rfl rfl (by decide) (by decide) hk1 hFc hP1 hD1
          clear hP hD hS hPc hDc hKc hFc hP1 hD1 hk1 hz1 ht hvm
          have hP : va_P (dC, dI) cls [(h_let, .inl (cy_let, 256, .inl f_let)), (h_nn, .inl (cy_nn, 8000, .inr (.inl f_nn))), (h_cof, .inl (cy_cof, 31, .inl f_cof)), (h_bto, .inl (cy_bto, 256, .inl f_bto)), (h_bin, .inl (cy_bin, 256, .inl f_bin)), (h_wri, .inl (cy_wri, 1000, .inl f29)), (h_mm, .inr (8, (mo86 vq32 (.ref h_nv) (.ref h_na) (.ref h_nb) (.ref h_nc)))), (h_nv, .inl (cy_nv, 8000, .inl f_nv)), (h_na, .inl (cy_na, 8000, .inl f_na)), (h_nb, .inl (cy_nb, 8000, .inl f_nb)), (h_nc, .inl (cy_nc, 8000, .inl f_nc))] H := hP9
          have hD : va_D A [(h_let, .inl (cy_let, 256, .inl f_let)), (h_nn, .inl (cy_nn, 8000, .inr (.inl f_nn))), (h_cof, .inl (cy_cof, 31, .inl f_cof)), (h_bto, .inl (cy_bto, 256, .inl f_bto)), (h_bin, .inl (cy_bin, 256, .inl f_bin)), (h_wri, .inl (cy_wri, 1000, .inl f29)), (h_mm, .inr (8, (mo86 vq32 (.ref h_nv) (.ref h_na) (.ref h_nb) (.ref h_nc)))), (h_nv, .inl (cy_nv, 8000, .inl f_nv)), (h_na, .inl (cy_na, 8000, .inl f_na)), (h_nb, .inl (cy_nb, 8000, .inl f_nb)), (h_nc, .inl (cy_nc, 8000, .inl f_nc))] := hD9
          have hS := hS9
          clear hP9 hD9 hS9
          rw [evq32] at hP hD
          replace hP : va_P (dC, dI) cls [(h_let, .inl (cy_let, 256, .inl f_let)), (h_nn, .inl (cy_nn, 8000, .inr (.inl f_nn))), (h_cof, .inl (cy_cof, 31, .inl f_cof)), (h_bto, .inl (cy_bto, 256, .inl f_bto)), (h_bin, .inl (cy_bin, 256, .inl f_bin)), (h_wri, .inl (cy_wri, 1000, .inl f29)), (h_mm, .inr (8, (mo157 v_mm (.ref h_nv) (.ref h_nn) (.ref h_na) (.ref h_nb) (.ref h_nc) (.ref h_let) (.ref h_bto) (.ref h_bin) (.int x26) (.int x27) (.ref h_cof) (.ref h_wri) (.int x28) (.int x_mm_room)))), (h_nv, .inl (cy_nv, 8000, .inl f_nv)), (h_na, .inl (cy_na, 8000, .inl f_na)), (h_nb, .inl (cy_nb, 8000, .inl f_nb)), (h_nc, .inl (cy_nc, 8000, .inl f_nc))] H := hP
          replace hD : va_D A [(h_let, .inl (cy_let, 256, .inl f_let)), (h_nn, .inl (cy_nn, 8000, .inr (.inl f_nn))), (h_cof, .inl (cy_cof, 31, .inl f_cof)), (h_bto, .inl (cy_bto, 256, .inl f_bto)), (h_bin, .inl (cy_bin, 256, .inl f_bin)), (h_wri, .inl (cy_wri, 1000, .inl f29)), (h_mm, .inr (8, (mo157 v_mm (.ref h_nv) (.ref h_nn) (.ref h_na) (.ref h_nb) (.ref h_nc) (.ref h_let) (.ref h_bto) (.ref h_bin) (.int x26) (.int x27) (.ref h_cof) (.ref h_wri) (.int x28) (.int x_mm_room)))), (h_nv, .inl (cy_nv, 8000, .inl f_nv)), (h_na, .inl (cy_na, 8000, .inl f_na)), (h_nb, .inl (cy_nb, 8000, .inl f_nb)), (h_nc, .inl (cy_nc, 8000, .inl f_nc))] := hD
          clear evq32 
          obtain ⟨k34, k35⟩ := hq
          replace k34 : 0 ≤ (r33).toInt ∧ (r33).toInt ≤ 3 := k34
          replace k35 : ((r33)).toInt = (npx f_nv f_na f_nb f_nc ((z5)).toInt.toNat) := k35
          refine lv_icmp_ge (tgt := 164) hx hb dX11_saysTerm_124 (by decide) (fun c36 => ?_) (fun c36 => ?_)
          · have kc36 := (cv_le (rfl : (r33).toInt = (r33).toInt) (rfl : (x25).toInt = (x25).toInt)).mp c36
            refine lv_aload_n hx hb dX11_saysTerm_164 rfl (lv_at hl 0 rfl) ?_
            refine lv_iload hx hb dX11_saysTerm_165 (lv_at hl 4 rfl) ?_
            obtain ⟨vq37, evq37⟩ := mq157_86 v_mm (.ref h_nn) (.ref h_let) (.ref h_bto) (.ref h_bin) (.int x26) (.int x27) (.ref h_cof) (.ref h_wri) (.int x28) (.int x_mm_room)
            replace hP : va_P (dC, dI) cls [(h_let, .inl (cy_let, 256, .inl f_let)), (h_nn, .inl (cy_nn, 8000, .inr (.inl f_nn))), (h_cof, .inl (cy_cof, 31, .inl f_cof)), (h_bto, .inl (cy_bto, 256, .inl f_bto)), (h_bin, .inl (cy_bin, 256, .inl f_bin)), (h_wri, .inl (cy_wri, 1000, .inl f29)), (h_mm, .inr (8, (mo86 vq37 (.ref h_nv) (.ref h_na) (.ref h_nb) (.ref h_nc)))), (h_nv, .inl (cy_nv, 8000, .inl f_nv)), (h_na, .inl (cy_na, 8000, .inl f_na)), (h_nb, .inl (cy_nb, 8000, .inl f_nb)), (h_nc, .inl (cy_nc, 8000, .inl f_nc))] H := by rw [evq37]; exact hP
            replace hD : va_D A [(h_let, .inl (cy_let, 256, .inl f_let)), (h_nn, .inl (cy_nn, 8000, .inr (.inl f_nn))), (h_cof, .inl (cy_cof, 31, .inl f_cof)), (h_bto, .inl (cy_bto, 256, .inl f_bto)), (h_bin, .inl (cy_bin, 256, .inl f_bin)), (h_wri, .inl (cy_wri, 1000, .inl f29)), (h_mm, .inr (8, (mo86 vq37 (.ref h_nv) (.ref h_na) (.ref h_nb) (.ref h_nc)))), (h_nv, .inl (cy_nv, 8000, .inl f_nv)), (h_na, .inl (cy_na, 8000, .inl f_na)), (h_nb, .inl (cy_nb, 8000, .inl f_nb)), (h_nc, .inl (cy_nc, 8000, .inl f_nc))] := by rw [evq37]; exact hD
            have hPc := hP.sub (ws' := [(h_mm, .inr (8, (mo86 vq37 (.ref h_nv) (.ref h_na) (.ref h_nb) (.ref h_nc)))), (h_nv, .inl (cy_nv, 8000, .inl f_nv)), (h_na, .inl (cy_na, 8000, .inl f_na)), (h_nb, .inl (cy_nb, 8000, .inl f_nb)), (h_nc, .inl (cy_nc, 8000, .inl f_nc))]) [6, 7, 8, 9, 10] rfl
            have hDc := hD.sub (ws' := [(h_mm, .inr (8, (mo86 vq37 (.ref h_nv) (.ref h_na) (.ref h_nb) (.ref h_nc)))), (h_nv, .inl (cy_nv, 8000, .inl f_nv)), (h_na, .inl (cy_na, 8000, .inl f_na)), (h_nb, .inl (cy_nb, 8000, .inl f_nb)), (h_nc, .inl (cy_nc, 8000, .inl f_nc))]) [6, 7, 8, 9, 10] (by decide) rfl
            have hKc := hK.sub (tys' := [(cy_nv, .int), (cy_na, .int), (cy_nb, .int), (cy_nc, .int)]) [2, 4, 5, 6] rfl
            have hFc := va_free (wc := [(h_mm, .inr (8, (mo86 vq37 (.ref h_nv) (.ref h_na) (.ref h_nb) (.ref h_nc)))), (h_nv, .inl (cy_nv, 8000, .inl f_nv)), (h_na, .inl (cy_na, 8000, .inl f_na)), (h_nb, .inl (cy_nb, 8000, .inl f_nb)), (h_nc, .inl (cy_nc, 8000, .inl f_nc))]) hD hS hA [6, 7, 8, 9, 10] rfl
            refine va_calli (va_runV (As := [.int z5]) (rest := []) ⟨hx, hb, hml, hown, hts⟩ (c_X11_partsAt_e l dC dI H.size h_mm h_nv h_na h_nb h_nc vq37 cy_nv f_nv cy_na f_na cy_nb f_nb cy_nc f_nc z5 hf_nv hf_na hf_nb hf_nc (by first | exact k8 | omega)) (cwV 1 hts (gv hT w_m_X11_27 w_instanceMethod_X11_partsAt ws_sel_X11_partsAt w_ini_X11 w_code_X11_partsAt) rfl rfl rfl (by decide +kernel) ⟨(by dsimp only [headSpec]; omega), (by dsimp only [headSpec]; omega)⟩) ⟨pre_blind, va_recv hK hP (ci := 8) (q0 := 6) rfl rfl, pre_of hPc hKc hDc hN⟩ rfl rfl hl.1 rfl (lv_room (Nat.le_of_ble_eq_true rfl)) dX11_saysTerm_167 ⟨(Nat.le_of_ble_eq_true rfl), (Nat.le_of_ble_eq_true rfl)⟩) hS (fun q _ h => hFc q h) hFc (fun r38 u t H locs ht hvm hq hB hz1 hk1 hS9 => ?_)
            obtain ⟨hP1, hD1⟩ := hB
            rw [ht] at hP1
            obtain ⟨hP9, hD9⟩ := va_join (wr := [(h_let, .inl (cy_let, 256, .inl f_let)), (h_nn, .inl (cy_nn, 8000, .inr (.inl f_nn))), (h_cof, .inl (cy_cof, 31, .inl f_cof)), (h_bto, .inl (cy_bto, 256, .inl f_bto)), (h_bin, .inl (cy_bin, 256, .inl f_bin)), (h_wri, .inl (cy_wri, 1000, .inl f29))]) (w1 := [(h_mm, .inr (8, (mo86 vq37 (.ref h_nv) (.ref h_na) (.ref h_nb) (.ref h_nc)))), (h_nv, .inl (cy_nv, 8000, .inl f_nv)), (h_na, .inl (cy_na, 8000, .inl f_na)), (h_nb, .inl (cy_nb, 8000, .inl f_nb)), (h_nc, .inl (cy_nc, 8000, .inl f_nc))]) hP hD [6, 7, 8, 9, 10] [0, 1, 2, 3, 4, 5] rfl rfl (by decide) (by decide) hk1 hFc hP1 hD1
            clear hP hD hS hPc hDc hKc hFc hP1 hD1 hk1 hz1 ht hvm
            have hP : va_P (dC, dI) cls [(h_let, .inl (cy_let, 256, .inl f_let)), (h_nn, .inl (cy_nn, 8000, .inr (.inl f_nn))), (h_cof, .inl (cy_cof, 31, .inl f_cof)), (h_bto, .inl (cy_bto, 256, .inl f_bto)), (h_bin, .inl (cy_bin, 256, .inl f_bin)), (h_wri, .inl (cy_wri, 1000, .inl f29)), (h_mm, .inr (8, (mo86 vq37 (.ref h_nv) (.ref h_na) (.ref h_nb) (.ref h_nc)))), (h_nv, .inl (cy_nv, 8000, .inl f_nv)), (h_na, .inl (cy_na, 8000, .inl f_na)), (h_nb, .inl (cy_nb, 8000, .inl f_nb)), (h_nc, .inl (cy_nc, 8000, .inl f_nc))] H := hP9
            have hD : va_D A [(h_let, .inl (cy_let, 256, .inl f_let)), (h_nn, .inl (cy_nn, 8000, .inr (.inl f_nn))), (h_cof, .inl (cy_cof, 31, .inl f_cof)), (h_bto, .inl (cy_bto, 256, .inl f_bto)), (h_bin, .inl (cy_bin, 256, .inl f_bin)), (h_wri, .inl (cy_wri, 1000, .inl f29)), (h_mm, .inr (8, (mo86 vq37 (.ref h_nv) (.ref h_na) (.ref h_nb) (.ref h_nc)))), (h_nv, .inl (cy_nv, 8000, .inl f_nv)), (h_na, .inl (cy_na, 8000, .inl f_na)), (h_nb, .inl (cy_nb, 8000, .inl f_nb)), (h_nc, .inl (cy_nc, 8000, .inl f_nc))] := hD9
            have hS := hS9
            clear hP9 hD9 hS9
            rw [evq37] at hP hD
            replace hP : va_P (dC, dI) cls [(h_let, .inl (cy_let, 256, .inl f_let)), (h_nn, .inl (cy_nn, 8000, .inr (.inl f_nn))), (h_cof, .inl (cy_cof, 31, .inl f_cof)), (h_bto, .inl (cy_bto, 256, .inl f_bto)), (h_bin, .inl (cy_bin, 256, .inl f_bin)), (h_wri, .inl (cy_wri, 1000, .inl f29)), (h_mm, .inr (8, (mo157 v_mm (.ref h_nv) (.ref h_nn) (.ref h_na) (.ref h_nb) (.ref h_nc) (.ref h_let) (.ref h_bto) (.ref h_bin) (.int x26) (.int x27) (.ref h_cof) (.ref h_wri) (.int x28) (.int x_mm_room)))), (h_nv, .inl (cy_nv, 8000, .inl f_nv)), (h_na, .inl (cy_na, 8000, .inl f_na)), (h_nb, .inl (cy_nb, 8000, .inl f_nb)), (h_nc, .inl (cy_nc, 8000, .inl f_nc))] H := hP
            replace hD : va_D A [(h_let, .inl (cy_let, 256, .inl f_let)), (h_nn, .inl (cy_nn, 8000, .inr (.inl f_nn))), (h_cof, .inl (cy_cof, 31, .inl f_cof)), (h_bto, .inl (cy_bto, 256, .inl f_bto)), (h_bin, .inl (cy_bin, 256, .inl f_bin)), (h_wri, .inl (cy_wri, 1000, .inl f29)), (h_mm, .inr (8, (mo157 v_mm (.ref h_nv) (.ref h_nn) (.ref h_na) (.ref h_nb) (.ref h_nc) (.ref h_let) (.ref h_bto) (.ref h_bin) (.int x26) (.int x27) (.ref h_cof) (.ref h_wri) (.int x28) (.int x_mm_room)))), (h_nv, .inl (cy_nv, 8000, .inl f_nv)), (h_na, .inl (cy_na, 8000, .inl f_na)), (h_nb, .inl (cy_nb, 8000, .inl f_nb)), (h_nc, .inl (cy_nc, 8000, .inl f_nc))] := hD
            clear evq37 
            obtain ⟨k39, k40⟩ := hq
            replace k39 : 0 ≤ (r38).toInt ∧ (r38).toInt ≤ 3 := k39
            replace k40 : ((r38)).toInt = (npx f_nv f_na f_nb f_nc ((z5)).toInt.toNat) := k40
            refine lv_if_le (tgt := 179) hx hb dX11_saysTerm_170 (by decide) (fun c41 => ?_) (fun c41 => ?_)
            · have kc41 := (cv_le (rfl : (r38).toInt = (r38).toInt) (by decide : (0 : Int32).toInt = 0)).mp c41
              replace hP : va_P (dC, dI) cls [(h_mm, .inr (8, (mo157 v_mm (.ref h_nv) (.ref h_nn) (.ref h_na) (.ref h_nb) (.ref h_nc) (.ref h_let) (.ref h_bto) (.ref h_bin) (.int x26) (.int x27) (.ref h_cof) (.ref h_wri) (.int x28) (.int x_mm_room)))), (h_wri, .inl (cy_wri, 1000, .inl f29)), (h_let, .inl (cy_let, 256, .inl f_let)), (h_nv, .inl (cy_nv, 8000, .inl f_nv)), (h_nn, .inl (cy_nn, 8000, .inr (.inl f_nn))), (h_na, .inl (cy_na, 8000, .inl f_na)), (h_nb, .inl (cy_nb, 8000, .inl f_nb)), (h_nc, .inl (cy_nc, 8000, .inl f_nc)), (h_bto, .inl (cy_bto, 256, .inl f_bto)), (h_bin, .inl (cy_bin, 256, .inl f_bin)), (h_cof, .inl (cy_cof, 31, .inl f_cof))] H := hP.sub [6, 5, 0, 7, 1, 8, 9, 10, 3, 4, 2] rfl
              replace hD : va_D A [(h_mm, .inr (8, (mo157 v_mm (.ref h_nv) (.ref h_nn) (.ref h_na) (.ref h_nb) (.ref h_nc) (.ref h_let) (.ref h_bto) (.ref h_bin) (.int x26) (.int x27) (.ref h_cof) (.ref h_wri) (.int x28) (.int x_mm_room)))), (h_wri, .inl (cy_wri, 1000, .inl f29)), (h_let, .inl (cy_let, 256, .inl f_let)), (h_nv, .inl (cy_nv, 8000, .inl f_nv)), (h_nn, .inl (cy_nn, 8000, .inr (.inl f_nn))), (h_na, .inl (cy_na, 8000, .inl f_na)), (h_nb, .inl (cy_nb, 8000, .inl f_nb)), (h_nc, .inl (cy_nc, 8000, .inl f_nc)), (h_bto, .inl (cy_bto, 256, .inl f_bto)), (h_bin, .inl (cy_bin, 256, .inl f_bin)), (h_cof, .inl (cy_cof, 31, .inl f_cof))] := hD.sub [6, 5, 0, 7, 1, 8, 9, 10, 3, 4, 2] (by decide) rfl
              refine W.widen (k := 0) (n := 0) (Nat.le_of_ble_eq_true rfl) (Nat.le_of_ble_eq_true rfl) ?_
              have w42 : 0 ≤ ((x26)).toInt ∧ ((x26)).toInt ≤ 7999 := by first | exact klp30_1 | omega
              have w43 : 0 ≤ ((x27)).toInt ∧ ((x27)).toInt ≤ 31 := by first | exact klp30_2 | omega
              have w44 : 0 ≤ ((x28)).toInt ∧ ((x28)).toInt ≤ 1000 := by first | exact klp30_3 | omega
              exact W.vret hx hb hr (fun t ht hW => ⟨⟨(x26, x27, x28, f29), rfl, ⟨w42, w43, w44⟩, by rw [ht]; exact hP, hD⟩, hS.F ht⟩) hS.2.2 dX11_saysTerm_179
            · have kc41 := (not_congr (cv_le (rfl : (r38).toInt = (r38).toInt) (by decide : (0 : Int32).toInt = 0))).mp c41
              refine lv_aload_n hx hb dX11_saysTerm_173 rfl (lv_at hl 0 rfl) ?_
              refine lv_bipush (v := 41) hx hb dX11_saysTerm_174 (by decide) ?_
              obtain ⟨vq45, evq45⟩ := mq157_118 v_mm (.ref h_nv) (.ref h_nn) (.ref h_na) (.ref h_nb) (.ref h_nc) (.ref h_let) (.ref h_bto) (.ref h_bin) (.int x26) (.int x27) (.ref h_cof)
              replace hP : va_P (dC, dI) cls [(h_let, .inl (cy_let, 256, .inl f_let)), (h_nn, .inl (cy_nn, 8000, .inr (.inl f_nn))), (h_cof, .inl (cy_cof, 31, .inl f_cof)), (h_bto, .inl (cy_bto, 256, .inl f_bto)), (h_bin, .inl (cy_bin, 256, .inl f_bin)), (h_wri, .inl (cy_wri, 1000, .inl f29)), (h_mm, .inr (8, (mo118 vq45 (.ref h_wri) (.int x28) (.int x_mm_room)))), (h_nv, .inl (cy_nv, 8000, .inl f_nv)), (h_na, .inl (cy_na, 8000, .inl f_na)), (h_nb, .inl (cy_nb, 8000, .inl f_nb)), (h_nc, .inl (cy_nc, 8000, .inl f_nc))] H := by rw [evq45]; exact hP
              replace hD : va_D A [(h_let, .inl (cy_let, 256, .inl f_let)), (h_nn, .inl (cy_nn, 8000, .inr (.inl f_nn))), (h_cof, .inl (cy_cof, 31, .inl f_cof)), (h_bto, .inl (cy_bto, 256, .inl f_bto)), (h_bin, .inl (cy_bin, 256, .inl f_bin)), (h_wri, .inl (cy_wri, 1000, .inl f29)), (h_mm, .inr (8, (mo118 vq45 (.ref h_wri) (.int x28) (.int x_mm_room)))), (h_nv, .inl (cy_nv, 8000, .inl f_nv)), (h_na, .inl (cy_na, 8000, .inl f_na)), (h_nb, .inl (cy_nb, 8000, .inl f_nb)), (h_nc, .inl (cy_nc, 8000, .inl f_nc))] := by rw [evq45]; exact hD
              have cst41 : (41 : Int32).toInt = 41 := by decide
              have hPc := hP.sub (ws' := [(h_mm, .inr (8, (mo118 vq45 (.ref h_wri) (.int x28) (.int x_mm_room)))), (h_wri, .inl (cy_wri, 1000, .inl f29))]) [6, 5] rfl
              have hDc := hD.sub (ws' := [(h_mm, .inr (8, (mo118 vq45 (.ref h_wri) (.int x28) (.int x_mm_room)))), (h_wri, .inl (cy_wri, 1000, .inl f29))]) [6, 5] (by decide) rfl
              have hKc := hK.sub (tys' := [(cy_wri, .int)]) [0] rfl
              have hFc := va_free (wc := [(h_mm, .inr (8, (mo118 vq45 (.ref h_wri) (.int x28) (.int x_mm_room)))), (h_wri, .inl (cy_wri, 1000, .inl f29))]) hD hS hA [6, 5] rfl
              refine va_callv (va_runV (As := [.int 41]) (rest := []) ⟨hx, hb, hml, hown, hts⟩ (c_X11_says l dC dI H.size h_mm h_wri vq45 x28 x_mm_room cy_wri f29 41 (by first | exact klp30_3 | omega) (by first | exact hx_mm_room | omega)) (cwV 1 hts (gv hT w_m_X11_452 w_instanceMethod_X11_says ws_sel_X11_says w_ini_X11 w_code_X11_says) rfl rfl rfl (by decide +kernel) ⟨(by dsimp only [headSpec]; omega), (by dsimp only [headSpec]; omega)⟩) ⟨pre_blind, va_recv hK hP (ci := 8) (q0 := 6) rfl rfl, pre_of hPc hKc hDc hN⟩ rfl rfl hl.1 rfl (lv_room (Nat.le_of_ble_eq_true rfl)) dX11_saysTerm_176 ⟨(Nat.le_of_ble_eq_true rfl), (Nat.le_of_ble_eq_true rfl)⟩) hS (fun q _ h => hFc q h) hFc (fun u t H locs ht hvm hq hB hz1 hk1 hS9 => ?_)
              obtain ⟨z47, f48⟩ := u
              obtain ⟨hP1, hD1⟩ := hB
              rw [ht] at hP1
              obtain ⟨hP9, hD9⟩ := va_join (wr := [(h_let, .inl (cy_let, 256, .inl f_let)), (h_nn, .inl (cy_nn, 8000, .inr (.inl f_nn))), (h_cof, .inl (cy_cof, 31, .inl f_cof)), (h_bto, .inl (cy_bto, 256, .inl f_bto)), (h_bin, .inl (cy_bin, 256, .inl f_bin)), (h_nv, .inl (cy_nv, 8000, .inl f_nv)), (h_na, .inl (cy_na, 8000, .inl f_na)), (h_nb, .inl (cy_nb, 8000, .inl f_nb)), (h_nc, .inl (cy_nc, 8000, .inl f_nc))]) (w1 := [(h_mm, .inr (8, (mo118 vq45 (.ref h_wri) (.int z47) (.int x_mm_room)))), (h_wri, .inl (cy_wri, 1000, .inl f48))]) hP hD [6, 5] [0, 1, 2, 3, 4, 7, 8, 9, 10] rfl rfl (by decide) (by decide) hk1 hFc hP1 hD1
              clear hP hD hS hPc hDc hKc hFc hP1 hD1 hk1 hz1 ht hvm
              have hP : va_P (dC, dI) cls [(h_let, .inl (cy_let, 256, .inl f_let)), (h_nn, .inl (cy_nn, 8000, .inr (.inl f_nn))), (h_cof, .inl (cy_cof, 31, .inl f_cof)), (h_bto, .inl (cy_bto, 256, .inl f_bto)), (h_bin, .inl (cy_bin, 256, .inl f_bin)), (h_nv, .inl (cy_nv, 8000, .inl f_nv)), (h_na, .inl (cy_na, 8000, .inl f_na)), (h_nb, .inl (cy_nb, 8000, .inl f_nb)), (h_nc, .inl (cy_nc, 8000, .inl f_nc)), (h_mm, .inr (8, (mo118 vq45 (.ref h_wri) (.int z47) (.int x_mm_room)))), (h_wri, .inl (cy_wri, 1000, .inl f48))] H := hP9
              have hD : va_D A [(h_let, .inl (cy_let, 256, .inl f_let)), (h_nn, .inl (cy_nn, 8000, .inr (.inl f_nn))), (h_cof, .inl (cy_cof, 31, .inl f_cof)), (h_bto, .inl (cy_bto, 256, .inl f_bto)), (h_bin, .inl (cy_bin, 256, .inl f_bin)), (h_nv, .inl (cy_nv, 8000, .inl f_nv)), (h_na, .inl (cy_na, 8000, .inl f_na)), (h_nb, .inl (cy_nb, 8000, .inl f_nb)), (h_nc, .inl (cy_nc, 8000, .inl f_nc)), (h_mm, .inr (8, (mo118 vq45 (.ref h_wri) (.int z47) (.int x_mm_room)))), (h_wri, .inl (cy_wri, 1000, .inl f48))] := hD9
              have hS := hS9
              clear hP9 hD9 hS9
              rw [evq45] at hP hD
              replace hP : va_P (dC, dI) cls [(h_let, .inl (cy_let, 256, .inl f_let)), (h_nn, .inl (cy_nn, 8000, .inr (.inl f_nn))), (h_cof, .inl (cy_cof, 31, .inl f_cof)), (h_bto, .inl (cy_bto, 256, .inl f_bto)), (h_bin, .inl (cy_bin, 256, .inl f_bin)), (h_nv, .inl (cy_nv, 8000, .inl f_nv)), (h_na, .inl (cy_na, 8000, .inl f_na)), (h_nb, .inl (cy_nb, 8000, .inl f_nb)), (h_nc, .inl (cy_nc, 8000, .inl f_nc)), (h_mm, .inr (8, (mo157 v_mm (.ref h_nv) (.ref h_nn) (.ref h_na) (.ref h_nb) (.ref h_nc) (.ref h_let) (.ref h_bto) (.ref h_bin) (.int x26) (.int x27) (.ref h_cof) (.ref h_wri) (.int z47) (.int x_mm_room)))), (h_wri, .inl (cy_wri, 1000, .inl f48))] H := hP
              replace hD : va_D A [(h_let, .inl (cy_let, 256, .inl f_let)), (h_nn, .inl (cy_nn, 8000, .inr (.inl f_nn))), (h_cof, .inl (cy_cof, 31, .inl f_cof)), (h_bto, .inl (cy_bto, 256, .inl f_bto)), (h_bin, .inl (cy_bin, 256, .inl f_bin)), (h_nv, .inl (cy_nv, 8000, .inl f_nv)), (h_na, .inl (cy_na, 8000, .inl f_na)), (h_nb, .inl (cy_nb, 8000, .inl f_nb)), (h_nc, .inl (cy_nc, 8000, .inl f_nc)), (h_mm, .inr (8, (mo157 v_mm (.ref h_nv) (.ref h_nn) (.ref h_na) (.ref h_nb) (.ref h_nc) (.ref h_let) (.ref h_bto) (.ref h_bin) (.int x26) (.int x27) (.ref h_cof) (.ref h_wri) (.int z47) (.int x_mm_room)))), (h_wri, .inl (cy_wri, 1000, .inl f48))] := hD
              clear evq45 
              obtain ⟨k49, k50⟩ := hq
              replace k49 : 0 ≤ ((z47)).toInt ∧ ((z47)).toInt ≤ 1000 := k49
              replace k50 : ((x28)).toInt ≤ ((z47)).toInt := k50
              replace hP : va_P (dC, dI) cls [(h_mm, .inr (8, (mo157 v_mm (.ref h_nv) (.ref h_nn) (.ref h_na) (.ref h_nb) (.ref h_nc) (.ref h_let) (.ref h_bto) (.ref h_bin) (.int x26) (.int x27) (.ref h_cof) (.ref h_wri) (.int z47) (.int x_mm_room)))), (h_wri, .inl (cy_wri, 1000, .inl f48)), (h_let, .inl (cy_let, 256, .inl f_let)), (h_nv, .inl (cy_nv, 8000, .inl f_nv)), (h_nn, .inl (cy_nn, 8000, .inr (.inl f_nn))), (h_na, .inl (cy_na, 8000, .inl f_na)), (h_nb, .inl (cy_nb, 8000, .inl f_nb)), (h_nc, .inl (cy_nc, 8000, .inl f_nc)), (h_bto, .inl (cy_bto, 256, .inl f_bto)), (h_bin, .inl (cy_bin, 256, .inl f_bin)), (h_cof, .inl (cy_cof, 31, .inl f_cof))] H := hP.sub [9, 10, 0, 5, 1, 6, 7, 8, 3, 4, 2] rfl
              replace hD : va_D A [(h_mm, .inr (8, (mo157 v_mm (.ref h_nv) (.ref h_nn) (.ref h_na) (.ref h_nb) (.ref h_nc) (.ref h_let) (.ref h_bto) (.ref h_bin) (.int x26) (.int x27) (.ref h_cof) (.ref h_wri) (.int z47) (.int x_mm_room)))), (h_wri, .inl (cy_wri, 1000, .inl f48)), (h_let, .inl (cy_let, 256, .inl f_let)), (h_nv, .inl (cy_nv, 8000, .inl f_nv)), (h_nn, .inl (cy_nn, 8000, .inr (.inl f_nn))), (h_na, .inl (cy_na, 8000, .inl f_na)), (h_nb, .inl (cy_nb, 8000, .inl f_nb)), (h_nc, .inl (cy_nc, 8000, .inl f_nc)), (h_bto, .inl (cy_bto, 256, .inl f_bto)), (h_bin, .inl (cy_bin, 256, .inl f_bin)), (h_cof, .inl (cy_cof, 31, .inl f_cof))] := hD.sub [9, 10, 0, 5, 1, 6, 7, 8, 3, 4, 2] (by decide) rfl
              refine W.widen (k := 0) (n := 0) (Nat.le_of_ble_eq_true rfl) (Nat.le_of_ble_eq_true rfl) ?_
              have w51 : 0 ≤ ((x26)).toInt ∧ ((x26)).toInt ≤ 7999 := by first | exact klp30_1 | omega
              have w52 : 0 ≤ ((x27)).toInt ∧ ((x27)).toInt ≤ 31 := by first | exact klp30_2 | omega
              have w53 : 0 ≤ ((z47)).toInt ∧ ((z47)).toInt ≤ 1000 := by first | exact k49 | omega
              exact W.vret hx hb hr (fun t ht hW => ⟨⟨(x26, x27, z47, f48), rfl, ⟨w51, w52, w53⟩, by rw [ht]; exact hP, hD⟩, hS.F ht⟩) hS.2.2 dX11_saysTerm_179
          · have kc36 := (not_congr (cv_le (rfl : (r33).toInt = (r33).toInt) (rfl : (x25).toInt = (x25).toInt))).mp c36
            refine lv_aload_n hx hb dX11_saysTerm_127 rfl (lv_at hl 0 rfl) ?_
            refine lv_iload hx hb dX11_saysTerm_128 (lv_at hl 6 rfl) ?_
            refine lv_if_ne (tgt := 138) hx hb dX11_saysTerm_130 (by decide) (fun c54 => ?_) (fun c54 => ?_)
            · have kc54 := (not_congr (cv_eq (rfl : (x25).toInt = (x25).toInt) (by decide : (0 : Int32).toInt = 0))).mp c54
              refine lv_bipush (v := 44) hx hb dX11_saysTerm_138 (by decide) ?_
              obtain ⟨vq55, evq55⟩ := mq157_118 v_mm (.ref h_nv) (.ref h_nn) (.ref h_na) (.ref h_nb) (.ref h_nc) (.ref h_let) (.ref h_bto) (.ref h_bin) (.int x26) (.int x27) (.ref h_cof)
              replace hP : va_P (dC, dI) cls [(h_let, .inl (cy_let, 256, .inl f_let)), (h_nn, .inl (cy_nn, 8000, .inr (.inl f_nn))), (h_cof, .inl (cy_cof, 31, .inl f_cof)), (h_bto, .inl (cy_bto, 256, .inl f_bto)), (h_bin, .inl (cy_bin, 256, .inl f_bin)), (h_wri, .inl (cy_wri, 1000, .inl f29)), (h_mm, .inr (8, (mo118 vq55 (.ref h_wri) (.int x28) (.int x_mm_room)))), (h_nv, .inl (cy_nv, 8000, .inl f_nv)), (h_na, .inl (cy_na, 8000, .inl f_na)), (h_nb, .inl (cy_nb, 8000, .inl f_nb)), (h_nc, .inl (cy_nc, 8000, .inl f_nc))] H := by rw [evq55]; exact hP
              replace hD : va_D A [(h_let, .inl (cy_let, 256, .inl f_let)), (h_nn, .inl (cy_nn, 8000, .inr (.inl f_nn))), (h_cof, .inl (cy_cof, 31, .inl f_cof)), (h_bto, .inl (cy_bto, 256, .inl f_bto)), (h_bin, .inl (cy_bin, 256, .inl f_bin)), (h_wri, .inl (cy_wri, 1000, .inl f29)), (h_mm, .inr (8, (mo118 vq55 (.ref h_wri) (.int x28) (.int x_mm_room)))), (h_nv, .inl (cy_nv, 8000, .inl f_nv)), (h_na, .inl (cy_na, 8000, .inl f_na)), (h_nb, .inl (cy_nb, 8000, .inl f_nb)), (h_nc, .inl (cy_nc, 8000, .inl f_nc))] := by rw [evq55]; exact hD
              have cst44 : (44 : Int32).toInt = 44 := by decide
              have hPc := hP.sub (ws' := [(h_mm, .inr (8, (mo118 vq55 (.ref h_wri) (.int x28) (.int x_mm_room)))), (h_wri, .inl (cy_wri, 1000, .inl f29))]) [6, 5] rfl
              have hDc := hD.sub (ws' := [(h_mm, .inr (8, (mo118 vq55 (.ref h_wri) (.int x28) (.int x_mm_room)))), (h_wri, .inl (cy_wri, 1000, .inl f29))]) [6, 5] (by decide) rfl
              have hKc := hK.sub (tys' := [(cy_wri, .int)]) [0] rfl
              have hFc := va_free (wc := [(h_mm, .inr (8, (mo118 vq55 (.ref h_wri) (.int x28) (.int x_mm_room)))), (h_wri, .inl (cy_wri, 1000, .inl f29))]) hD hS hA [6, 5] rfl
              refine va_callv (va_runV (As := [.int 44]) (rest := []) ⟨hx, hb, hml, hown, hts⟩ (c_X11_says l dC dI H.size h_mm h_wri vq55 x28 x_mm_room cy_wri f29 44 (by first | exact klp30_3 | omega) (by first | exact hx_mm_room | omega)) (cwV 1 hts (gv hT w_m_X11_452 w_instanceMethod_X11_says ws_sel_X11_says w_ini_X11 w_code_X11_says) rfl rfl rfl (by decide +kernel) ⟨(by dsimp only [headSpec]; omega), (by dsimp only [headSpec]; omega)⟩) ⟨pre_blind, va_recv hK hP (ci := 8) (q0 := 6) rfl rfl, pre_of hPc hKc hDc hN⟩ rfl rfl hl.1 rfl (lv_room (Nat.le_of_ble_eq_true rfl)) dX11_saysTerm_140 ⟨(Nat.le_of_ble_eq_true rfl), (Nat.le_of_ble_eq_true rfl)⟩) hS (fun q _ h => hFc q h) hFc (fun u t H locs ht hvm hq hB hz1 hk1 hS9 => ?_)
              obtain ⟨z57, f58⟩ := u
              obtain ⟨hP1, hD1⟩ := hB
              rw [ht] at hP1
              obtain ⟨hP9, hD9⟩ := va_join (wr := [(h_let, .inl (cy_let, 256, .inl f_let)), (h_nn, .inl (cy_nn, 8000, .inr (.inl f_nn))), (h_cof, .inl (cy_cof, 31, .inl f_cof)), (h_bto, .inl (cy_bto, 256, .inl f_bto)), (h_bin, .inl (cy_bin, 256, .inl f_bin)), (h_nv, .inl (cy_nv, 8000, .inl f_nv)), (h_na, .inl (cy_na, 8000, .inl f_na)), (h_nb, .inl (cy_nb, 8000, .inl f_nb)), (h_nc, .inl (cy_nc, 8000, .inl f_nc))]) (w1 := [(h_mm, .inr (8, (mo118 vq55 (.ref h_wri) (.int z57) (.int x_mm_room)))), (h_wri, .inl (cy_wri, 1000, .inl f58))]) hP hD [6, 5] [0, 1, 2, 3, 4, 7, 8, 9, 10] rfl rfl (by decide) (by decide) hk1 hFc hP1 hD1
              clear hP hD hS hPc hDc hKc hFc hP1 hD1 hk1 hz1 ht hvm
              have hP : va_P (dC, dI) cls [(h_let, .inl (cy_let, 256, .inl f_let)), (h_nn, .inl (cy_nn, 8000, .inr (.inl f_nn))), (h_cof, .inl (cy_cof, 31, .inl f_cof)), (h_bto, .inl (cy_bto, 256, .inl f_bto)), (h_bin, .inl (cy_bin, 256, .inl f_bin)), (h_nv, .inl (cy_nv, 8000, .inl f_nv)), (h_na, .inl (cy_na, 8000, .inl f_na)), (h_nb, .inl (cy_nb, 8000, .inl f_nb)), (h_nc, .inl (cy_nc, 8000, .inl f_nc)), (h_mm, .inr (8, (mo118 vq55 (.ref h_wri) (.int z57) (.int x_mm_room)))), (h_wri, .inl (cy_wri, 1000, .inl f58))] H := hP9
              have hD : va_D A [(h_let, .inl (cy_let, 256, .inl f_let)), (h_nn, .inl (cy_nn, 8000, .inr (.inl f_nn))), (h_cof, .inl (cy_cof, 31, .inl f_cof)), (h_bto, .inl (cy_bto, 256, .inl f_bto)), (h_bin, .inl (cy_bin, 256, .inl f_bin)), (h_nv, .inl (cy_nv, 8000, .inl f_nv)), (h_na, .inl (cy_na, 8000, .inl f_na)), (h_nb, .inl (cy_nb, 8000, .inl f_nb)), (h_nc, .inl (cy_nc, 8000, .inl f_nc)), (h_mm, .inr (8, (mo118 vq55 (.ref h_wri) (.int z57) (.int x_mm_room)))), (h_wri, .inl (cy_wri, 1000, .inl f58))] := hD9
              have hS := hS9
              clear hP9 hD9 hS9
              rw [evq55] at hP hD
              replace hP : va_P (dC, dI) cls [(h_let, .inl (cy_let, 256, .inl f_let)), (h_nn, .inl (cy_nn, 8000, .inr (.inl f_nn))), (h_cof, .inl (cy_cof, 31, .inl f_cof)), (h_bto, .inl (cy_bto, 256, .inl f_bto)), (h_bin, .inl (cy_bin, 256, .inl f_bin)), (h_nv, .inl (cy_nv, 8000, .inl f_nv)), (h_na, .inl (cy_na, 8000, .inl f_na)), (h_nb, .inl (cy_nb, 8000, .inl f_nb)), (h_nc, .inl (cy_nc, 8000, .inl f_nc)), (h_mm, .inr (8, (mo157 v_mm (.ref h_nv) (.ref h_nn) (.ref h_na) (.ref h_nb) (.ref h_nc) (.ref h_let) (.ref h_bto) (.ref h_bin) (.int x26) (.int x27) (.ref h_cof) (.ref h_wri) (.int z57) (.int x_mm_room)))), (h_wri, .inl (cy_wri, 1000, .inl f58))] H := hP
              replace hD : va_D A [(h_let, .inl (cy_let, 256, .inl f_let)), (h_nn, .inl (cy_nn, 8000, .inr (.inl f_nn))), (h_cof, .inl (cy_cof, 31, .inl f_cof)), (h_bto, .inl (cy_bto, 256, .inl f_bto)), (h_bin, .inl (cy_bin, 256, .inl f_bin)), (h_nv, .inl (cy_nv, 8000, .inl f_nv)), (h_na, .inl (cy_na, 8000, .inl f_na)), (h_nb, .inl (cy_nb, 8000, .inl f_nb)), (h_nc, .inl (cy_nc, 8000, .inl f_nc)), (h_mm, .inr (8, (mo157 v_mm (.ref h_nv) (.ref h_nn) (.ref h_na) (.ref h_nb) (.ref h_nc) (.ref h_let) (.ref h_bto) (.ref h_bin) (.int x26) (.int x27) (.ref h_cof) (.ref h_wri) (.int z57) (.int x_mm_room)))), (h_wri, .inl (cy_wri, 1000, .inl f58))] := hD
              clear evq55 
              obtain ⟨k59, k60⟩ := hq
              replace k59 : 0 ≤ ((z57)).toInt ∧ ((z57)).toInt ≤ 1000 := k59
              replace k60 : ((x28)).toInt ≤ ((z57)).toInt := k60
              refine lv_aload_n hx hb dX11_saysTerm_143 rfl (lv_at hl 0 rfl) ?_
              refine lv_aload_n hx hb dX11_saysTerm_144 rfl (lv_at hl 0 rfl) ?_
              refine lv_iload hx hb dX11_saysTerm_145 (lv_at hl 4 rfl) ?_
              refine lv_iload hx hb dX11_saysTerm_147 (lv_at hl 6 rfl) ?_
              obtain ⟨vq61, evq61⟩ := mq157_85 v_mm (.ref h_nv) (.ref h_nn) (.ref h_let) (.ref h_bto) (.ref h_bin) (.int x26) (.int x27) (.ref h_cof) (.ref h_wri) (.int z57) (.int x_mm_room)
              replace hP : va_P (dC, dI) cls [(h_let, .inl (cy_let, 256, .inl f_let)), (h_nn, .inl (cy_nn, 8000, .inr (.inl f_nn))), (h_cof, .inl (cy_cof, 31, .inl f_cof)), (h_bto, .inl (cy_bto, 256, .inl f_bto)), (h_bin, .inl (cy_bin, 256, .inl f_bin)), (h_nv, .inl (cy_nv, 8000, .inl f_nv)), (h_na, .inl (cy_na, 8000, .inl f_na)), (h_nb, .inl (cy_nb, 8000, .inl f_nb)), (h_nc, .inl (cy_nc, 8000, .inl f_nc)), (h_mm, .inr (8, (mo85 vq61 (.ref h_na) (.ref h_nb) (.ref h_nc)))), (h_wri, .inl (cy_wri, 1000, .inl f58))] H := by rw [evq61]; exact hP
              replace hD : va_D A [(h_let, .inl (cy_let, 256, .inl f_let)), (h_nn, .inl (cy_nn, 8000, .inr (.inl f_nn))), (h_cof, .inl (cy_cof, 31, .inl f_cof)), (h_bto, .inl (cy_bto, 256, .inl f_bto)), (h_bin, .inl (cy_bin, 256, .inl f_bin)), (h_nv, .inl (cy_nv, 8000, .inl f_nv)), (h_na, .inl (cy_na, 8000, .inl f_na)), (h_nb, .inl (cy_nb, 8000, .inl f_nb)), (h_nc, .inl (cy_nc, 8000, .inl f_nc)), (h_mm, .inr (8, (mo85 vq61 (.ref h_na) (.ref h_nb) (.ref h_nc)))), (h_wri, .inl (cy_wri, 1000, .inl f58))] := by rw [evq61]; exact hD
              have hPc := hP.sub (ws' := [(h_mm, .inr (8, (mo85 vq61 (.ref h_na) (.ref h_nb) (.ref h_nc)))), (h_na, .inl (cy_na, 8000, .inl f_na)), (h_nb, .inl (cy_nb, 8000, .inl f_nb)), (h_nc, .inl (cy_nc, 8000, .inl f_nc))]) [9, 6, 7, 8] rfl
              have hDc := hD.sub (ws' := [(h_mm, .inr (8, (mo85 vq61 (.ref h_na) (.ref h_nb) (.ref h_nc)))), (h_na, .inl (cy_na, 8000, .inl f_na)), (h_nb, .inl (cy_nb, 8000, .inl f_nb)), (h_nc, .inl (cy_nc, 8000, .inl f_nc))]) [9, 6, 7, 8] (by decide) rfl
              have hKc := hK.sub (tys' := [(cy_na, .int), (cy_nb, .int), (cy_nc, .int)]) [4, 5, 6] rfl
              have hFc := va_free (wc := [(h_mm, .inr (8, (mo85 vq61 (.ref h_na) (.ref h_nb) (.ref h_nc)))), (h_na, .inl (cy_na, 8000, .inl f_na)), (h_nb, .inl (cy_nb, 8000, .inl f_nb)), (h_nc, .inl (cy_nc, 8000, .inl f_nc))]) hD hS hA [9, 6, 7, 8] rfl
              refine va_calli (va_runV (As := [.int z5, .int x25]) (rest := [.ref h_mm]) ⟨hx, hb, hml, hown, hts⟩ (c_X11_part_e l dC dI H.size h_mm h_na h_nb h_nc vq61 cy_na f_na cy_nb f_nb cy_nc f_nc z5 x25 hf_na hf_nb hf_nc (by first | exact k8 | omega)) (cwV 2 hts (gv hT w_m_X11_31 w_instanceMethod_X11_part ws_sel_X11_part w_ini_X11 w_code_X11_part) rfl rfl rfl (by decide +kernel) ⟨(by dsimp only [headSpec]; omega), (by dsimp only [headSpec]; omega)⟩) ⟨pre_blind, va_recv hK hP (ci := 8) (q0 := 9) rfl rfl, pre_of hPc hKc hDc hN⟩ rfl rfl hl.1 rfl (lv_room (Nat.le_of_ble_eq_true rfl)) dX11_saysTerm_149 ⟨(Nat.le_of_ble_eq_true rfl), (Nat.le_of_ble_eq_true rfl)⟩) hS (fun q _ h => hFc q h) hFc (fun r62 u t H locs ht hvm hq hB hz1 hk1 hS9 => ?_)
              obtain ⟨hP1, hD1⟩ := hB
              rw [ht] at hP1
              obtain ⟨hP9, hD9⟩ := va_join (wr := [(h_let, .inl (cy_let, 256, .inl f_let)), (h_nn, .inl (cy_nn, 8000, .inr (.inl f_nn))), (h_cof, .inl (cy_cof, 31, .inl f_cof)), (h_bto, .inl (cy_bto, 256, .inl f_bto)), (h_bin, .inl (cy_bin, 256, .inl f_bin)), (h_nv, .inl (cy_nv, 8000, .inl f_nv)), (h_wri, .inl (cy_wri, 1000, .inl f58))]) (w1 := [(h_mm, .inr (8, (mo85 vq61 (.ref h_na) (.ref h_nb) (.ref h_nc)))), (h_na, .inl (cy_na, 8000, .inl f_na)), (h_nb, .inl (cy_nb, 8000, .inl f_nb)), (h_nc, .inl (cy_nc, 8000, .inl f_nc))]) hP hD [9, 6, 7, 8] [0, 1, 2, 3, 4, 5, 10] rfl rfl (by decide) (by decide) hk1 hFc hP1 hD1
              clear hP hD hS hPc hDc hKc hFc hP1 hD1 hk1 hz1 ht hvm
              have hP : va_P (dC, dI) cls [(h_let, .inl (cy_let, 256, .inl f_let)), (h_nn, .inl (cy_nn, 8000, .inr (.inl f_nn))), (h_cof, .inl (cy_cof, 31, .inl f_cof)), (h_bto, .inl (cy_bto, 256, .inl f_bto)), (h_bin, .inl (cy_bin, 256, .inl f_bin)), (h_nv, .inl (cy_nv, 8000, .inl f_nv)), (h_wri, .inl (cy_wri, 1000, .inl f58)), (h_mm, .inr (8, (mo85 vq61 (.ref h_na) (.ref h_nb) (.ref h_nc)))), (h_na, .inl (cy_na, 8000, .inl f_na)), (h_nb, .inl (cy_nb, 8000, .inl f_nb)), (h_nc, .inl (cy_nc, 8000, .inl f_nc))] H := hP9
              have hD : va_D A [(h_let, .inl (cy_let, 256, .inl f_let)), (h_nn, .inl (cy_nn, 8000, .inr (.inl f_nn))), (h_cof, .inl (cy_cof, 31, .inl f_cof)), (h_bto, .inl (cy_bto, 256, .inl f_bto)), (h_bin, .inl (cy_bin, 256, .inl f_bin)), (h_nv, .inl (cy_nv, 8000, .inl f_nv)), (h_wri, .inl (cy_wri, 1000, .inl f58)), (h_mm, .inr (8, (mo85 vq61 (.ref h_na) (.ref h_nb) (.ref h_nc)))), (h_na, .inl (cy_na, 8000, .inl f_na)), (h_nb, .inl (cy_nb, 8000, .inl f_nb)), (h_nc, .inl (cy_nc, 8000, .inl f_nc))] := hD9
              have hS := hS9
              clear hP9 hD9 hS9
              rw [evq61] at hP hD
              replace hP : va_P (dC, dI) cls [(h_let, .inl (cy_let, 256, .inl f_let)), (h_nn, .inl (cy_nn, 8000, .inr (.inl f_nn))), (h_cof, .inl (cy_cof, 31, .inl f_cof)), (h_bto, .inl (cy_bto, 256, .inl f_bto)), (h_bin, .inl (cy_bin, 256, .inl f_bin)), (h_nv, .inl (cy_nv, 8000, .inl f_nv)), (h_wri, .inl (cy_wri, 1000, .inl f58)), (h_mm, .inr (8, (mo157 v_mm (.ref h_nv) (.ref h_nn) (.ref h_na) (.ref h_nb) (.ref h_nc) (.ref h_let) (.ref h_bto) (.ref h_bin) (.int x26) (.int x27) (.ref h_cof) (.ref h_wri) (.int z57) (.int x_mm_room)))), (h_na, .inl (cy_na, 8000, .inl f_na)), (h_nb, .inl (cy_nb, 8000, .inl f_nb)), (h_nc, .inl (cy_nc, 8000, .inl f_nc))] H := hP
              replace hD : va_D A [(h_let, .inl (cy_let, 256, .inl f_let)), (h_nn, .inl (cy_nn, 8000, .inr (.inl f_nn))), (h_cof, .inl (cy_cof, 31, .inl f_cof)), (h_bto, .inl (cy_bto, 256, .inl f_bto)), (h_bin, .inl (cy_bin, 256, .inl f_bin)), (h_nv, .inl (cy_nv, 8000, .inl f_nv)), (h_wri, .inl (cy_wri, 1000, .inl f58)), (h_mm, .inr (8, (mo157 v_mm (.ref h_nv) (.ref h_nn) (.ref h_na) (.ref h_nb) (.ref h_nc) (.ref h_let) (.ref h_bto) (.ref h_bin) (.int x26) (.int x27) (.ref h_cof) (.ref h_wri) (.int z57) (.int x_mm_room)))), (h_na, .inl (cy_na, 8000, .inl f_na)), (h_nb, .inl (cy_nb, 8000, .inl f_nb)), (h_nc, .inl (cy_nc, 8000, .inl f_nc))] := hD
              clear evq61 
              obtain ⟨k63, k64⟩ := hq
              replace k63 : -1 ≤ (r62).toInt ∧ (r62).toInt ≤ 7999 := k63
              replace k64 : ((r62)).toInt = (ptx f_na f_nb f_nc ((z5)).toInt.toNat ((x25)).toInt).toInt := k64
              have cc9e : ptx f_na f_nb f_nc (z5).toInt.toNat (x25).toInt = r62 := Int32.toInt_inj.mp (by omega)
              have cc9c := ch_ok (nv := f_nv) (k := (x25).toInt) (x := (z5).toInt.toNat) hn_bi.1 (by omega) (by omega)
              rw [cc9e] at cc9c
              have cc9p := pa_ch (k := (x25).toInt) (k13) (by omega)
              rw [cc9e] at cc9p
              refine lv_iload hx hb dX11_saysTerm_152 (lv_at hl 5 rfl) ?_
              refine lv_iload_n hx hb dX11_saysTerm_154 rfl (lv_at hl 3 rfl) ?_
              have hPc := hP.sub (ws' := [(h_mm, .inr (8, (mo157 v_mm (.ref h_nv) (.ref h_nn) (.ref h_na) (.ref h_nb) (.ref h_nc) (.ref h_let) (.ref h_bto) (.ref h_bin) (.int x26) (.int x27) (.ref h_cof) (.ref h_wri) (.int z57) (.int x_mm_room)))), (h_wri, .inl (cy_wri, 1000, .inl f58)), (h_let, .inl (cy_let, 256, .inl f_let)), (h_nv, .inl (cy_nv, 8000, .inl f_nv)), (h_nn, .inl (cy_nn, 8000, .inr (.inl f_nn))), (h_na, .inl (cy_na, 8000, .inl f_na)), (h_nb, .inl (cy_nb, 8000, .inl f_nb)), (h_nc, .inl (cy_nc, 8000, .inl f_nc)), (h_bto, .inl (cy_bto, 256, .inl f_bto)), (h_bin, .inl (cy_bin, 256, .inl f_bin)), (h_cof, .inl (cy_cof, 31, .inl f_cof))]) [7, 6, 0, 5, 1, 8, 9, 10, 3, 4, 2] rfl
              have hDc := hD.sub (ws' := [(h_mm, .inr (8, (mo157 v_mm (.ref h_nv) (.ref h_nn) (.ref h_na) (.ref h_nb) (.ref h_nc) (.ref h_let) (.ref h_bto) (.ref h_bin) (.int x26) (.int x27) (.ref h_cof) (.ref h_wri) (.int z57) (.int x_mm_room)))), (h_wri, .inl (cy_wri, 1000, .inl f58)), (h_let, .inl (cy_let, 256, .inl f_let)), (h_nv, .inl (cy_nv, 8000, .inl f_nv)), (h_nn, .inl (cy_nn, 8000, .inr (.inl f_nn))), (h_na, .inl (cy_na, 8000, .inl f_na)), (h_nb, .inl (cy_nb, 8000, .inl f_nb)), (h_nc, .inl (cy_nc, 8000, .inl f_nc)), (h_bto, .inl (cy_bto, 256, .inl f_bto)), (h_bin, .inl (cy_bin, 256, .inl f_bin)), (h_cof, .inl (cy_cof, 31, .inl f_cof))]) [7, 6, 0, 5, 1, 8, 9, 10, 3, 4, 2] (by decide) rfl
              have hKc := hK.sub (tys' := [(cy_wri, .int), (cy_let, .int), (cy_nv, .int), (cy_nn, .long), (cy_na, .int), (cy_nb, .int), (cy_nc, .int), (cy_bto, .int), (cy_bin, .int), (cy_cof, .int)]) [0, 1, 2, 3, 4, 5, 6, 7, 8, 9] rfl
              have hFc := va_free (wc := [(h_mm, .inr (8, (mo157 v_mm (.ref h_nv) (.ref h_nn) (.ref h_na) (.ref h_nb) (.ref h_nc) (.ref h_let) (.ref h_bto) (.ref h_bin) (.int x26) (.int x27) (.ref h_cof) (.ref h_wri) (.int z57) (.int x_mm_room)))), (h_wri, .inl (cy_wri, 1000, .inl f58)), (h_let, .inl (cy_let, 256, .inl f_let)), (h_nv, .inl (cy_nv, 8000, .inl f_nv)), (h_nn, .inl (cy_nn, 8000, .inr (.inl f_nn))), (h_na, .inl (cy_na, 8000, .inl f_na)), (h_nb, .inl (cy_nb, 8000, .inl f_nb)), (h_nc, .inl (cy_nc, 8000, .inl f_nc)), (h_bto, .inl (cy_bto, 256, .inl f_bto)), (h_bin, .inl (cy_bin, 256, .inl f_bin)), (h_cof, .inl (cy_cof, 31, .inl f_cof))]) hD hS hA [7, 6, 0, 5, 1, 8, 9, 10, 3, 4, 2] rfl
              refine va_callv (va_runV (As := [.int r62, .int z6, .int p3]) (rest := []) ⟨hx, hb, hml, hown, hts⟩ (ihf dC dI H.size h_mm h_wri h_let h_nv h_nn h_na h_nb h_nc h_bto h_bin h_cof v_mm x26 x27 z57 x_mm_room cy_wri f58 cy_let f_let cy_nv f_nv cy_nn f_nn cy_na f_na cy_nb f_nb cy_nc f_nc cy_bto f_bto cy_bin f_bin cy_cof f_cof r62 z6 p3 i0 i1 N hz z7 (by first | exact klp30_1 | omega) (by first | exact klp30_2 | omega) (by first | exact k59 | omega) (by first | exact hx_mm_room | omega) hf_nv hf_na hf_nb hf_nc hf_bto hf_bin hf_cof (by first | exact q0 | omega) (by first | exact q1 | omega) (by first | exact q2 | omega) (by omega) (by omega) (by omega) hn_bi cc9p) (cwV 3 hts (gv hT w_m_X11_459 w_instanceMethod_X11_saysTerm ws_sel_X11_saysTerm w_ini_X11 w_code_X11_saysTerm) rfl rfl rfl (by decide +kernel) ⟨(by dsimp only [headSpec]; omega), (by dsimp only [headSpec]; omega)⟩) ⟨pre_blind, va_recv hK hP (ci := 8) (q0 := 7) rfl rfl, pre_of hPc hKc hDc hN⟩ rfl rfl hl.1 rfl (lv_room (Nat.le_of_ble_eq_true rfl)) dX11_saysTerm_155 ⟨(Nat.le_of_ble_eq_true rfl), (Nat.le_of_ble_eq_true rfl)⟩) hS (fun q _ h => hFc q h) hFc (fun u t H locs ht hvm hq hB hz1 hk1 hS9 => ?_)
              obtain ⟨z66, z67, z68, f69⟩ := u
              obtain ⟨hP1, hD1⟩ := hB
              rw [ht] at hP1
              obtain ⟨hP9, hD9⟩ := va_join (wr := []) (w1 := [(h_mm, .inr (8, (mo157 v_mm (.ref h_nv) (.ref h_nn) (.ref h_na) (.ref h_nb) (.ref h_nc) (.ref h_let) (.ref h_bto) (.ref h_bin) (.int z66) (.int z67) (.ref h_cof) (.ref h_wri) (.int z68) (.int x_mm_room)))), (h_wri, .inl (cy_wri, 1000, .inl f69)), (h_let, .inl (cy_let, 256, .inl f_let)), (h_nv, .inl (cy_nv, 8000, .inl f_nv)), (h_nn, .inl (cy_nn, 8000, .inr (.inl f_nn))), (h_na, .inl (cy_na, 8000, .inl f_na)), (h_nb, .inl (cy_nb, 8000, .inl f_nb)), (h_nc, .inl (cy_nc, 8000, .inl f_nc)), (h_bto, .inl (cy_bto, 256, .inl f_bto)), (h_bin, .inl (cy_bin, 256, .inl f_bin)), (h_cof, .inl (cy_cof, 31, .inl f_cof))]) hP hD [7, 6, 0, 5, 1, 8, 9, 10, 3, 4, 2] [] rfl rfl (by decide) (by decide) hk1 hFc hP1 hD1
              clear hP hD hS hPc hDc hKc hFc hP1 hD1 hk1 hz1 ht hvm
              have hP : va_P (dC, dI) cls [(h_mm, .inr (8, (mo157 v_mm (.ref h_nv) (.ref h_nn) (.ref h_na) (.ref h_nb) (.ref h_nc) (.ref h_let) (.ref h_bto) (.ref h_bin) (.int z66) (.int z67) (.ref h_cof) (.ref h_wri) (.int z68) (.int x_mm_room)))), (h_wri, .inl (cy_wri, 1000, .inl f69)), (h_let, .inl (cy_let, 256, .inl f_let)), (h_nv, .inl (cy_nv, 8000, .inl f_nv)), (h_nn, .inl (cy_nn, 8000, .inr (.inl f_nn))), (h_na, .inl (cy_na, 8000, .inl f_na)), (h_nb, .inl (cy_nb, 8000, .inl f_nb)), (h_nc, .inl (cy_nc, 8000, .inl f_nc)), (h_bto, .inl (cy_bto, 256, .inl f_bto)), (h_bin, .inl (cy_bin, 256, .inl f_bin)), (h_cof, .inl (cy_cof, 31, .inl f_cof))] H := hP9
              have hD : va_D A [(h_mm, .inr (8, (mo157 v_mm (.ref h_nv) (.ref h_nn) (.ref h_na) (.ref h_nb) (.ref h_nc) (.ref h_let) (.ref h_bto) (.ref h_bin) (.int z66) (.int z67) (.ref h_cof) (.ref h_wri) (.int z68) (.int x_mm_room)))), (h_wri, .inl (cy_wri, 1000, .inl f69)), (h_let, .inl (cy_let, 256, .inl f_let)), (h_nv, .inl (cy_nv, 8000, .inl f_nv)), (h_nn, .inl (cy_nn, 8000, .inr (.inl f_nn))), (h_na, .inl (cy_na, 8000, .inl f_na)), (h_nb, .inl (cy_nb, 8000, .inl f_nb)), (h_nc, .inl (cy_nc, 8000, .inl f_nc)), (h_bto, .inl (cy_bto, 256, .inl f_bto)), (h_bin, .inl (cy_bin, 256, .inl f_bin)), (h_cof, .inl (cy_cof, 31, .inl f_cof))] := hD9
              have hS := hS9
              clear hP9 hD9 hS9
              obtain ⟨k70, k71, k72⟩ := hq
              replace k70 : 0 ≤ ((z66)).toInt ∧ ((z66)).toInt ≤ 7999 := k70
              replace k71 : 0 ≤ ((z67)).toInt ∧ ((z67)).toInt ≤ 31 := k71
              replace k72 : 0 ≤ ((z68)).toInt ∧ ((z68)).toInt ≤ 1000 := k72
              obtain ⟨z73, ez73⟩ : ∃ y : Int32, y = x25 + 1 := ⟨_, rfl⟩
              have tz73 : (z73).toInt = (x25).toInt + 1 := by rw [ez73]; exact i_add rfl (by decide) (by omega)
              refine lv_iinc (v := z73) (lv' := [(6, .int z73), (0, .ref h_mm), (1, .int p1), (2, .int p2), (3, .int p3), (4, .int z5), (5, .int z6)]) hx hb dX11_saysTerm_158 hl (k := 6) rfl (by rw [ez73]; rfl) (by decide) rfl (fun ls hl => ?_)
              refine lv_goto (tgt := 116) hx hb dX11_saysTerm_161 (by decide) ?_
              replace hP : va_P (dC, dI) cls [(h_let, .inl (cy_let, 256, .inl f_let)), (h_nn, .inl (cy_nn, 8000, .inr (.inl f_nn))), (h_cof, .inl (cy_cof, 31, .inl f_cof)), (h_nv, .inl (cy_nv, 8000, .inl f_nv)), (h_na, .inl (cy_na, 8000, .inl f_na)), (h_nb, .inl (cy_nb, 8000, .inl f_nb)), (h_nc, .inl (cy_nc, 8000, .inl f_nc)), (h_bto, .inl (cy_bto, 256, .inl f_bto)), (h_bin, .inl (cy_bin, 256, .inl f_bin)), (h_mm, .inr (8, (mo157 v_mm (.ref h_nv) (.ref h_nn) (.ref h_na) (.ref h_nb) (.ref h_nc) (.ref h_let) (.ref h_bto) (.ref h_bin) (.int z66) (.int z67) (.ref h_cof) (.ref h_wri) (.int z68) (.int x_mm_room)))), (h_wri, .inl (cy_wri, 1000, .inl f69))] H := hP.sub [2, 4, 10, 3, 5, 6, 7, 8, 9, 0, 1] rfl
              replace hD : va_D A [(h_let, .inl (cy_let, 256, .inl f_let)), (h_nn, .inl (cy_nn, 8000, .inr (.inl f_nn))), (h_cof, .inl (cy_cof, 31, .inl f_cof)), (h_nv, .inl (cy_nv, 8000, .inl f_nv)), (h_na, .inl (cy_na, 8000, .inl f_na)), (h_nb, .inl (cy_nb, 8000, .inl f_nb)), (h_nc, .inl (cy_nc, 8000, .inl f_nc)), (h_bto, .inl (cy_bto, 256, .inl f_bto)), (h_bin, .inl (cy_bin, 256, .inl f_bin)), (h_mm, .inr (8, (mo157 v_mm (.ref h_nv) (.ref h_nn) (.ref h_na) (.ref h_nb) (.ref h_nc) (.ref h_let) (.ref h_bto) (.ref h_bin) (.int z66) (.int z67) (.ref h_cof) (.ref h_wri) (.int z68) (.int x_mm_room)))), (h_wri, .inl (cy_wri, 1000, .inl f69))] := hD.sub [2, 4, 10, 3, 5, 6, 7, 8, 9, 0, 1] (by decide) rfl
              exact ih31 (z73) (z66) (z67) (z68) (f69) _ _ _ (by omega) (by first | exact k70 | omega) (by first | exact k71 | omega) (by first | exact k72 | omega) (by omega) hP hD hS (lv_sub hl [1, 2, 3, 4, 5, 6, 0] rfl)
            · have kc54 := (cv_eq (rfl : (x25).toInt = (x25).toInt) (by decide : (0 : Int32).toInt = 0)).mp c54
              refine lv_bipush (v := 40) hx hb dX11_saysTerm_133 (by decide) ?_
              refine lv_goto (tgt := 140) hx hb dX11_saysTerm_135 (by decide) ?_
              obtain ⟨vq74, evq74⟩ := mq157_118 v_mm (.ref h_nv) (.ref h_nn) (.ref h_na) (.ref h_nb) (.ref h_nc) (.ref h_let) (.ref h_bto) (.ref h_bin) (.int x26) (.int x27) (.ref h_cof)
              replace hP : va_P (dC, dI) cls [(h_let, .inl (cy_let, 256, .inl f_let)), (h_nn, .inl (cy_nn, 8000, .inr (.inl f_nn))), (h_cof, .inl (cy_cof, 31, .inl f_cof)), (h_bto, .inl (cy_bto, 256, .inl f_bto)), (h_bin, .inl (cy_bin, 256, .inl f_bin)), (h_wri, .inl (cy_wri, 1000, .inl f29)), (h_mm, .inr (8, (mo118 vq74 (.ref h_wri) (.int x28) (.int x_mm_room)))), (h_nv, .inl (cy_nv, 8000, .inl f_nv)), (h_na, .inl (cy_na, 8000, .inl f_na)), (h_nb, .inl (cy_nb, 8000, .inl f_nb)), (h_nc, .inl (cy_nc, 8000, .inl f_nc))] H := by rw [evq74]; exact hP
              replace hD : va_D A [(h_let, .inl (cy_let, 256, .inl f_let)), (h_nn, .inl (cy_nn, 8000, .inr (.inl f_nn))), (h_cof, .inl (cy_cof, 31, .inl f_cof)), (h_bto, .inl (cy_bto, 256, .inl f_bto)), (h_bin, .inl (cy_bin, 256, .inl f_bin)), (h_wri, .inl (cy_wri, 1000, .inl f29)), (h_mm, .inr (8, (mo118 vq74 (.ref h_wri) (.int x28) (.int x_mm_room)))), (h_nv, .inl (cy_nv, 8000, .inl f_nv)), (h_na, .inl (cy_na, 8000, .inl f_na)), (h_nb, .inl (cy_nb, 8000, .inl f_nb)), (h_nc, .inl (cy_nc, 8000, .inl f_nc))] := by rw [evq74]; exact hD
              have cst40 : (40 : Int32).toInt = 40 := by decide
              have hPc := hP.sub (ws' := [(h_mm, .inr (8, (mo118 vq74 (.ref h_wri) (.int x28) (.int x_mm_room)))), (h_wri, .inl (cy_wri, 1000, .inl f29))]) [6, 5] rfl
              have hDc := hD.sub (ws' := [(h_mm, .inr (8, (mo118 vq74 (.ref h_wri) (.int x28) (.int x_mm_room)))), (h_wri, .inl (cy_wri, 1000, .inl f29))]) [6, 5] (by decide) rfl
              have hKc := hK.sub (tys' := [(cy_wri, .int)]) [0] rfl
              have hFc := va_free (wc := [(h_mm, .inr (8, (mo118 vq74 (.ref h_wri) (.int x28) (.int x_mm_room)))), (h_wri, .inl (cy_wri, 1000, .inl f29))]) hD hS hA [6, 5] rfl
              refine va_callv (va_runV (As := [.int 40]) (rest := []) ⟨hx, hb, hml, hown, hts⟩ (c_X11_says l dC dI H.size h_mm h_wri vq74 x28 x_mm_room cy_wri f29 40 (by first | exact klp30_3 | omega) (by first | exact hx_mm_room | omega)) (cwV 1 hts (gv hT w_m_X11_452 w_instanceMethod_X11_says ws_sel_X11_says w_ini_X11 w_code_X11_says) rfl rfl rfl (by decide +kernel) ⟨(by dsimp only [headSpec]; omega), (by dsimp only [headSpec]; omega)⟩) ⟨pre_blind, va_recv hK hP (ci := 8) (q0 := 6) rfl rfl, pre_of hPc hKc hDc hN⟩ rfl rfl hl.1 rfl (lv_room (Nat.le_of_ble_eq_true rfl)) dX11_saysTerm_140 ⟨(Nat.le_of_ble_eq_true rfl), (Nat.le_of_ble_eq_true rfl)⟩) hS (fun q _ h => hFc q h) hFc (fun u t H locs ht hvm hq hB hz1 hk1 hS9 => ?_)
              obtain ⟨z76, f77⟩ := u
              obtain ⟨hP1, hD1⟩ := hB
              rw [ht] at hP1
              obtain ⟨hP9, hD9⟩ := va_join (wr := [(h_let, .inl (cy_let, 256, .inl f_let)), (h_nn, .inl (cy_nn, 8000, .inr (.inl f_nn))), (h_cof, .inl (cy_cof, 31, .inl f_cof)), (h_bto, .inl (cy_bto, 256, .inl f_bto)), (h_bin, .inl (cy_bin, 256, .inl f_bin)), (h_nv, .inl (cy_nv, 8000, .inl f_nv)), (h_na, .inl (cy_na, 8000, .inl f_na)), (h_nb, .inl (cy_nb, 8000, .inl f_nb)), (h_nc, .inl (cy_nc, 8000, .inl f_nc))]) (w1 := [(h_mm, .inr (8, (mo118 vq74 (.ref h_wri) (.int z76) (.int x_mm_room)))), (h_wri, .inl (cy_wri, 1000, .inl f77))]) hP hD [6, 5] [0, 1, 2, 3, 4, 7, 8, 9, 10] rfl rfl (by decide) (by decide) hk1 hFc hP1 hD1
              clear hP hD hS hPc hDc hKc hFc hP1 hD1 hk1 hz1 ht hvm
              have hP : va_P (dC, dI) cls [(h_let, .inl (cy_let, 256, .inl f_let)), (h_nn, .inl (cy_nn, 8000, .inr (.inl f_nn))), (h_cof, .inl (cy_cof, 31, .inl f_cof)), (h_bto, .inl (cy_bto, 256, .inl f_bto)), (h_bin, .inl (cy_bin, 256, .inl f_bin)), (h_nv, .inl (cy_nv, 8000, .inl f_nv)), (h_na, .inl (cy_na, 8000, .inl f_na)), (h_nb, .inl (cy_nb, 8000, .inl f_nb)), (h_nc, .inl (cy_nc, 8000, .inl f_nc)), (h_mm, .inr (8, (mo118 vq74 (.ref h_wri) (.int z76) (.int x_mm_room)))), (h_wri, .inl (cy_wri, 1000, .inl f77))] H := hP9
              have hD : va_D A [(h_let, .inl (cy_let, 256, .inl f_let)), (h_nn, .inl (cy_nn, 8000, .inr (.inl f_nn))), (h_cof, .inl (cy_cof, 31, .inl f_cof)), (h_bto, .inl (cy_bto, 256, .inl f_bto)), (h_bin, .inl (cy_bin, 256, .inl f_bin)), (h_nv, .inl (cy_nv, 8000, .inl f_nv)), (h_na, .inl (cy_na, 8000, .inl f_na)), (h_nb, .inl (cy_nb, 8000, .inl f_nb)), (h_nc, .inl (cy_nc, 8000, .inl f_nc)), (h_mm, .inr (8, (mo118 vq74 (.ref h_wri) (.int z76) (.int x_mm_room)))), (h_wri, .inl (cy_wri, 1000, .inl f77))] := hD9
              have hS := hS9
              clear hP9 hD9 hS9
              rw [evq74] at hP hD
              replace hP : va_P (dC, dI) cls [(h_let, .inl (cy_let, 256, .inl f_let)), (h_nn, .inl (cy_nn, 8000, .inr (.inl f_nn))), (h_cof, .inl (cy_cof, 31, .inl f_cof)), (h_bto, .inl (cy_bto, 256, .inl f_bto)), (h_bin, .inl (cy_bin, 256, .inl f_bin)), (h_nv, .inl (cy_nv, 8000, .inl f_nv)), (h_na, .inl (cy_na, 8000, .inl f_na)), (h_nb, .inl (cy_nb, 8000, .inl f_nb)), (h_nc, .inl (cy_nc, 8000, .inl f_nc)), (h_mm, .inr (8, (mo157 v_mm (.ref h_nv) (.ref h_nn) (.ref h_na) (.ref h_nb) (.ref h_nc) (.ref h_let) (.ref h_bto) (.ref h_bin) (.int x26) (.int x27) (.ref h_cof) (.ref h_wri) (.int z76) (.int x_mm_room)))), (h_wri, .inl (cy_wri, 1000, .inl f77))] H := hP
              replace hD : va_D A [(h_let, .inl (cy_let, 256, .inl f_let)), (h_nn, .inl (cy_nn, 8000, .inr (.inl f_nn))), (h_cof, .inl (cy_cof, 31, .inl f_cof)), (h_bto, .inl (cy_bto, 256, .inl f_bto)), (h_bin, .inl (cy_bin, 256, .inl f_bin)), (h_nv, .inl (cy_nv, 8000, .inl f_nv)), (h_na, .inl (cy_na, 8000, .inl f_na)), (h_nb, .inl (cy_nb, 8000, .inl f_nb)), (h_nc, .inl (cy_nc, 8000, .inl f_nc)), (h_mm, .inr (8, (mo157 v_mm (.ref h_nv) (.ref h_nn) (.ref h_na) (.ref h_nb) (.ref h_nc) (.ref h_let) (.ref h_bto) (.ref h_bin) (.int x26) (.int x27) (.ref h_cof) (.ref h_wri) (.int z76) (.int x_mm_room)))), (h_wri, .inl (cy_wri, 1000, .inl f77))] := hD
              clear evq74 
              obtain ⟨k78, k79⟩ := hq
              replace k78 : 0 ≤ ((z76)).toInt ∧ ((z76)).toInt ≤ 1000 := k78
              replace k79 : ((x28)).toInt ≤ ((z76)).toInt := k79
              refine lv_aload_n hx hb dX11_saysTerm_143 rfl (lv_at hl 0 rfl) ?_
              refine lv_aload_n hx hb dX11_saysTerm_144 rfl (lv_at hl 0 rfl) ?_
              refine lv_iload hx hb dX11_saysTerm_145 (lv_at hl 4 rfl) ?_
              refine lv_iload hx hb dX11_saysTerm_147 (lv_at hl 6 rfl) ?_
              obtain ⟨vq80, evq80⟩ := mq157_85 v_mm (.ref h_nv) (.ref h_nn) (.ref h_let) (.ref h_bto) (.ref h_bin) (.int x26) (.int x27) (.ref h_cof) (.ref h_wri) (.int z76) (.int x_mm_room)
              replace hP : va_P (dC, dI) cls [(h_let, .inl (cy_let, 256, .inl f_let)), (h_nn, .inl (cy_nn, 8000, .inr (.inl f_nn))), (h_cof, .inl (cy_cof, 31, .inl f_cof)), (h_bto, .inl (cy_bto, 256, .inl f_bto)), (h_bin, .inl (cy_bin, 256, .inl f_bin)), (h_nv, .inl (cy_nv, 8000, .inl f_nv)), (h_na, .inl (cy_na, 8000, .inl f_na)), (h_nb, .inl (cy_nb, 8000, .inl f_nb)), (h_nc, .inl (cy_nc, 8000, .inl f_nc)), (h_mm, .inr (8, (mo85 vq80 (.ref h_na) (.ref h_nb) (.ref h_nc)))), (h_wri, .inl (cy_wri, 1000, .inl f77))] H := by rw [evq80]; exact hP
              replace hD : va_D A [(h_let, .inl (cy_let, 256, .inl f_let)), (h_nn, .inl (cy_nn, 8000, .inr (.inl f_nn))), (h_cof, .inl (cy_cof, 31, .inl f_cof)), (h_bto, .inl (cy_bto, 256, .inl f_bto)), (h_bin, .inl (cy_bin, 256, .inl f_bin)), (h_nv, .inl (cy_nv, 8000, .inl f_nv)), (h_na, .inl (cy_na, 8000, .inl f_na)), (h_nb, .inl (cy_nb, 8000, .inl f_nb)), (h_nc, .inl (cy_nc, 8000, .inl f_nc)), (h_mm, .inr (8, (mo85 vq80 (.ref h_na) (.ref h_nb) (.ref h_nc)))), (h_wri, .inl (cy_wri, 1000, .inl f77))] := by rw [evq80]; exact hD
              have hPc := hP.sub (ws' := [(h_mm, .inr (8, (mo85 vq80 (.ref h_na) (.ref h_nb) (.ref h_nc)))), (h_na, .inl (cy_na, 8000, .inl f_na)), (h_nb, .inl (cy_nb, 8000, .inl f_nb)), (h_nc, .inl (cy_nc, 8000, .inl f_nc))]) [9, 6, 7, 8] rfl
              have hDc := hD.sub (ws' := [(h_mm, .inr (8, (mo85 vq80 (.ref h_na) (.ref h_nb) (.ref h_nc)))), (h_na, .inl (cy_na, 8000, .inl f_na)), (h_nb, .inl (cy_nb, 8000, .inl f_nb)), (h_nc, .inl (cy_nc, 8000, .inl f_nc))]) [9, 6, 7, 8] (by decide) rfl
              have hKc := hK.sub (tys' := [(cy_na, .int), (cy_nb, .int), (cy_nc, .int)]) [4, 5, 6] rfl
              have hFc := va_free (wc := [(h_mm, .inr (8, (mo85 vq80 (.ref h_na) (.ref h_nb) (.ref h_nc)))), (h_na, .inl (cy_na, 8000, .inl f_na)), (h_nb, .inl (cy_nb, 8000, .inl f_nb)), (h_nc, .inl (cy_nc, 8000, .inl f_nc))]) hD hS hA [9, 6, 7, 8] rfl
              refine va_calli (va_runV (As := [.int z5, .int x25]) (rest := [.ref h_mm]) ⟨hx, hb, hml, hown, hts⟩ (c_X11_part_e l dC dI H.size h_mm h_na h_nb h_nc vq80 cy_na f_na cy_nb f_nb cy_nc f_nc z5 x25 hf_na hf_nb hf_nc (by first | exact k8 | omega)) (cwV 2 hts (gv hT w_m_X11_31 w_instanceMethod_X11_part ws_sel_X11_part w_ini_X11 w_code_X11_part) rfl rfl rfl (by decide +kernel) ⟨(by dsimp only [headSpec]; omega), (by dsimp only [headSpec]; omega)⟩) ⟨pre_blind, va_recv hK hP (ci := 8) (q0 := 9) rfl rfl, pre_of hPc hKc hDc hN⟩ rfl rfl hl.1 rfl (lv_room (Nat.le_of_ble_eq_true rfl)) dX11_saysTerm_149 ⟨(Nat.le_of_ble_eq_true rfl), (Nat.le_of_ble_eq_true rfl)⟩) hS (fun q _ h => hFc q h) hFc (fun r81 u t H locs ht hvm hq hB hz1 hk1 hS9 => ?_)
              obtain ⟨hP1, hD1⟩ := hB
              rw [ht] at hP1
              obtain ⟨hP9, hD9⟩ := va_join (wr := [(h_let, .inl (cy_let, 256, .inl f_let)), (h_nn, .inl (cy_nn, 8000, .inr (.inl f_nn))), (h_cof, .inl (cy_cof, 31, .inl f_cof)), (h_bto, .inl (cy_bto, 256, .inl f_bto)), (h_bin, .inl (cy_bin, 256, .inl f_bin)), (h_nv, .inl (cy_nv, 8000, .inl f_nv)), (h_wri, .inl (cy_wri, 1000, .inl f77))]) (w1 := [(h_mm, .inr (8, (mo85 vq80 (.ref h_na) (.ref h_nb) (.ref h_nc)))), (h_na, .inl (cy_na, 8000, .inl f_na)), (h_nb, .inl (cy_nb, 8000, .inl f_nb)), (h_nc, .inl (cy_nc, 8000, .inl f_nc))]) hP hD [9, 6, 7, 8] [0, 1, 2, 3, 4, 5, 10] rfl rfl (by decide) (by decide) hk1 hFc hP1 hD1
              clear hP hD hS hPc hDc hKc hFc hP1 hD1 hk1 hz1 ht hvm
              have hP : va_P (dC, dI) cls [(h_let, .inl (cy_let, 256, .inl f_let)), (h_nn, .inl (cy_nn, 8000, .inr (.inl f_nn))), (h_cof, .inl (cy_cof, 31, .inl f_cof)), (h_bto, .inl (cy_bto, 256, .inl f_bto)), (h_bin, .inl (cy_bin, 256, .inl f_bin)), (h_nv, .inl (cy_nv, 8000, .inl f_nv)), (h_wri, .inl (cy_wri, 1000, .inl f77)), (h_mm, .inr (8, (mo85 vq80 (.ref h_na) (.ref h_nb) (.ref h_nc)))), (h_na, .inl (cy_na, 8000, .inl f_na)), (h_nb, .inl (cy_nb, 8000, .inl f_nb)), (h_nc, .inl (cy_nc, 8000, .inl f_nc))] H := hP9
              have hD : va_D A [(h_let, .inl (cy_let, 256, .inl f_let)), (h_nn, .inl (cy_nn, 8000, .inr (.inl f_nn))), (h_cof, .inl (cy_cof, 31, .inl f_cof)), (h_bto, .inl (cy_bto, 256, .inl f_bto)), (h_bin, .inl (cy_bin, 256, .inl f_bin)), (h_nv, .inl (cy_nv, 8000, .inl f_nv)), (h_wri, .inl (cy_wri, 1000, .inl f77)), (h_mm, .inr (8, (mo85 vq80 (.ref h_na) (.ref h_nb) (.ref h_nc)))), (h_na, .inl (cy_na, 8000, .inl f_na)), (h_nb, .inl (cy_nb, 8000, .inl f_nb)), (h_nc, .inl (cy_nc, 8000, .inl f_nc))] := hD9
              have hS := hS9
              clear hP9 hD9 hS9
              rw [evq80] at hP hD
              replace hP : va_P (dC, dI) cls [(h_let, .inl (cy_let, 256, .inl f_let)), (h_nn, .inl (cy_nn, 8000, .inr (.inl f_nn))), (h_cof, .inl (cy_cof, 31, .inl f_cof)), (h_bto, .inl (cy_bto, 256, .inl f_bto)), (h_bin, .inl (cy_bin, 256, .inl f_bin)), (h_nv, .inl (cy_nv, 8000, .inl f_nv)), (h_wri, .inl (cy_wri, 1000, .inl f77)), (h_mm, .inr (8, (mo157 v_mm (.ref h_nv) (.ref h_nn) (.ref h_na) (.ref h_nb) (.ref h_nc) (.ref h_let) (.ref h_bto) (.ref h_bin) (.int x26) (.int x27) (.ref h_cof) (.ref h_wri) (.int z76) (.int x_mm_room)))), (h_na, .inl (cy_na, 8000, .inl f_na)), (h_nb, .inl (cy_nb, 8000, .inl f_nb)), (h_nc, .inl (cy_nc, 8000, .inl f_nc))] H := hP
              replace hD : va_D A [(h_let, .inl (cy_let, 256, .inl f_let)), (h_nn, .inl (cy_nn, 8000, .inr (.inl f_nn))), (h_cof, .inl (cy_cof, 31, .inl f_cof)), (h_bto, .inl (cy_bto, 256, .inl f_bto)), (h_bin, .inl (cy_bin, 256, .inl f_bin)), (h_nv, .inl (cy_nv, 8000, .inl f_nv)), (h_wri, .inl (cy_wri, 1000, .inl f77)), (h_mm, .inr (8, (mo157 v_mm (.ref h_nv) (.ref h_nn) (.ref h_na) (.ref h_nb) (.ref h_nc) (.ref h_let) (.ref h_bto) (.ref h_bin) (.int x26) (.int x27) (.ref h_cof) (.ref h_wri) (.int z76) (.int x_mm_room)))), (h_na, .inl (cy_na, 8000, .inl f_na)), (h_nb, .inl (cy_nb, 8000, .inl f_nb)), (h_nc, .inl (cy_nc, 8000, .inl f_nc))] := hD
              clear evq80 
              obtain ⟨k82, k83⟩ := hq
              replace k82 : -1 ≤ (r81).toInt ∧ (r81).toInt ≤ 7999 := k82
              replace k83 : ((r81)).toInt = (ptx f_na f_nb f_nc ((z5)).toInt.toNat ((x25)).toInt).toInt := k83
              have cc9e : ptx f_na f_nb f_nc (z5).toInt.toNat (x25).toInt = r81 := Int32.toInt_inj.mp (by omega)
              have cc9c := ch_ok (nv := f_nv) (k := (x25).toInt) (x := (z5).toInt.toNat) hn_bi.1 (by omega) (by omega)
              rw [cc9e] at cc9c
              have cc9p := pa_ch (k := (x25).toInt) (k13) (by omega)
              rw [cc9e] at cc9p
              refine lv_iload hx hb dX11_saysTerm_152 (lv_at hl 5 rfl) ?_
              refine lv_iload_n hx hb dX11_saysTerm_154 rfl (lv_at hl 3 rfl) ?_
              have hPc := hP.sub (ws' := [(h_mm, .inr (8, (mo157 v_mm (.ref h_nv) (.ref h_nn) (.ref h_na) (.ref h_nb) (.ref h_nc) (.ref h_let) (.ref h_bto) (.ref h_bin) (.int x26) (.int x27) (.ref h_cof) (.ref h_wri) (.int z76) (.int x_mm_room)))), (h_wri, .inl (cy_wri, 1000, .inl f77)), (h_let, .inl (cy_let, 256, .inl f_let)), (h_nv, .inl (cy_nv, 8000, .inl f_nv)), (h_nn, .inl (cy_nn, 8000, .inr (.inl f_nn))), (h_na, .inl (cy_na, 8000, .inl f_na)), (h_nb, .inl (cy_nb, 8000, .inl f_nb)), (h_nc, .inl (cy_nc, 8000, .inl f_nc)), (h_bto, .inl (cy_bto, 256, .inl f_bto)), (h_bin, .inl (cy_bin, 256, .inl f_bin)), (h_cof, .inl (cy_cof, 31, .inl f_cof))]) [7, 6, 0, 5, 1, 8, 9, 10, 3, 4, 2] rfl
              have hDc := hD.sub (ws' := [(h_mm, .inr (8, (mo157 v_mm (.ref h_nv) (.ref h_nn) (.ref h_na) (.ref h_nb) (.ref h_nc) (.ref h_let) (.ref h_bto) (.ref h_bin) (.int x26) (.int x27) (.ref h_cof) (.ref h_wri) (.int z76) (.int x_mm_room)))), (h_wri, .inl (cy_wri, 1000, .inl f77)), (h_let, .inl (cy_let, 256, .inl f_let)), (h_nv, .inl (cy_nv, 8000, .inl f_nv)), (h_nn, .inl (cy_nn, 8000, .inr (.inl f_nn))), (h_na, .inl (cy_na, 8000, .inl f_na)), (h_nb, .inl (cy_nb, 8000, .inl f_nb)), (h_nc, .inl (cy_nc, 8000, .inl f_nc)), (h_bto, .inl (cy_bto, 256, .inl f_bto)), (h_bin, .inl (cy_bin, 256, .inl f_bin)), (h_cof, .inl (cy_cof, 31, .inl f_cof))]) [7, 6, 0, 5, 1, 8, 9, 10, 3, 4, 2] (by decide) rfl
              have hKc := hK.sub (tys' := [(cy_wri, .int), (cy_let, .int), (cy_nv, .int), (cy_nn, .long), (cy_na, .int), (cy_nb, .int), (cy_nc, .int), (cy_bto, .int), (cy_bin, .int), (cy_cof, .int)]) [0, 1, 2, 3, 4, 5, 6, 7, 8, 9] rfl
              have hFc := va_free (wc := [(h_mm, .inr (8, (mo157 v_mm (.ref h_nv) (.ref h_nn) (.ref h_na) (.ref h_nb) (.ref h_nc) (.ref h_let) (.ref h_bto) (.ref h_bin) (.int x26) (.int x27) (.ref h_cof) (.ref h_wri) (.int z76) (.int x_mm_room)))), (h_wri, .inl (cy_wri, 1000, .inl f77)), (h_let, .inl (cy_let, 256, .inl f_let)), (h_nv, .inl (cy_nv, 8000, .inl f_nv)), (h_nn, .inl (cy_nn, 8000, .inr (.inl f_nn))), (h_na, .inl (cy_na, 8000, .inl f_na)), (h_nb, .inl (cy_nb, 8000, .inl f_nb)), (h_nc, .inl (cy_nc, 8000, .inl f_nc)), (h_bto, .inl (cy_bto, 256, .inl f_bto)), (h_bin, .inl (cy_bin, 256, .inl f_bin)), (h_cof, .inl (cy_cof, 31, .inl f_cof))]) hD hS hA [7, 6, 0, 5, 1, 8, 9, 10, 3, 4, 2] rfl
              refine va_callv (va_runV (As := [.int r81, .int z6, .int p3]) (rest := []) ⟨hx, hb, hml, hown, hts⟩ (ihf dC dI H.size h_mm h_wri h_let h_nv h_nn h_na h_nb h_nc h_bto h_bin h_cof v_mm x26 x27 z76 x_mm_room cy_wri f77 cy_let f_let cy_nv f_nv cy_nn f_nn cy_na f_na cy_nb f_nb cy_nc f_nc cy_bto f_bto cy_bin f_bin cy_cof f_cof r81 z6 p3 i0 i1 N hz z7 (by first | exact klp30_1 | omega) (by first | exact klp30_2 | omega) (by first | exact k78 | omega) (by first | exact hx_mm_room | omega) hf_nv hf_na hf_nb hf_nc hf_bto hf_bin hf_cof (by first | exact q0 | omega) (by first | exact q1 | omega) (by first | exact q2 | omega) (by omega) (by omega) (by omega) hn_bi cc9p) (cwV 3 hts (gv hT w_m_X11_459 w_instanceMethod_X11_saysTerm ws_sel_X11_saysTerm w_ini_X11 w_code_X11_saysTerm) rfl rfl rfl (by decide +kernel) ⟨(by dsimp only [headSpec]; omega), (by dsimp only [headSpec]; omega)⟩) ⟨pre_blind, va_recv hK hP (ci := 8) (q0 := 7) rfl rfl, pre_of hPc hKc hDc hN⟩ rfl rfl hl.1 rfl (lv_room (Nat.le_of_ble_eq_true rfl)) dX11_saysTerm_155 ⟨(Nat.le_of_ble_eq_true rfl), (Nat.le_of_ble_eq_true rfl)⟩) hS (fun q _ h => hFc q h) hFc (fun u t H locs ht hvm hq hB hz1 hk1 hS9 => ?_)
              obtain ⟨z85, z86, z87, f88⟩ := u
              obtain ⟨hP1, hD1⟩ := hB
              rw [ht] at hP1
              obtain ⟨hP9, hD9⟩ := va_join (wr := []) (w1 := [(h_mm, .inr (8, (mo157 v_mm (.ref h_nv) (.ref h_nn) (.ref h_na) (.ref h_nb) (.ref h_nc) (.ref h_let) (.ref h_bto) (.ref h_bin) (.int z85) (.int z86) (.ref h_cof) (.ref h_wri) (.int z87) (.int x_mm_room)))), (h_wri, .inl (cy_wri, 1000, .inl f88)), (h_let, .inl (cy_let, 256, .inl f_let)), (h_nv, .inl (cy_nv, 8000, .inl f_nv)), (h_nn, .inl (cy_nn, 8000, .inr (.inl f_nn))), (h_na, .inl (cy_na, 8000, .inl f_na)), (h_nb, .inl (cy_nb, 8000, .inl f_nb)), (h_nc, .inl (cy_nc, 8000, .inl f_nc)), (h_bto, .inl (cy_bto, 256, .inl f_bto)), (h_bin, .inl (cy_bin, 256, .inl f_bin)), (h_cof, .inl (cy_cof, 31, .inl f_cof))]) hP hD [7, 6, 0, 5, 1, 8, 9, 10, 3, 4, 2] [] rfl rfl (by decide) (by decide) hk1 hFc hP1 hD1
              clear hP hD hS hPc hDc hKc hFc hP1 hD1 hk1 hz1 ht hvm
              have hP : va_P (dC, dI) cls [(h_mm, .inr (8, (mo157 v_mm (.ref h_nv) (.ref h_nn) (.ref h_na) (.ref h_nb) (.ref h_nc) (.ref h_let) (.ref h_bto) (.ref h_bin) (.int z85) (.int z86) (.ref h_cof) (.ref h_wri) (.int z87) (.int x_mm_room)))), (h_wri, .inl (cy_wri, 1000, .inl f88)), (h_let, .inl (cy_let, 256, .inl f_let)), (h_nv, .inl (cy_nv, 8000, .inl f_nv)), (h_nn, .inl (cy_nn, 8000, .inr (.inl f_nn))), (h_na, .inl (cy_na, 8000, .inl f_na)), (h_nb, .inl (cy_nb, 8000, .inl f_nb)), (h_nc, .inl (cy_nc, 8000, .inl f_nc)), (h_bto, .inl (cy_bto, 256, .inl f_bto)), (h_bin, .inl (cy_bin, 256, .inl f_bin)), (h_cof, .inl (cy_cof, 31, .inl f_cof))] H := hP9
              have hD : va_D A [(h_mm, .inr (8, (mo157 v_mm (.ref h_nv) (.ref h_nn) (.ref h_na) (.ref h_nb) (.ref h_nc) (.ref h_let) (.ref h_bto) (.ref h_bin) (.int z85) (.int z86) (.ref h_cof) (.ref h_wri) (.int z87) (.int x_mm_room)))), (h_wri, .inl (cy_wri, 1000, .inl f88)), (h_let, .inl (cy_let, 256, .inl f_let)), (h_nv, .inl (cy_nv, 8000, .inl f_nv)), (h_nn, .inl (cy_nn, 8000, .inr (.inl f_nn))), (h_na, .inl (cy_na, 8000, .inl f_na)), (h_nb, .inl (cy_nb, 8000, .inl f_nb)), (h_nc, .inl (cy_nc, 8000, .inl f_nc)), (h_bto, .inl (cy_bto, 256, .inl f_bto)), (h_bin, .inl (cy_bin, 256, .inl f_bin)), (h_cof, .inl (cy_cof, 31, .inl f_cof))] := hD9
              have hS := hS9
              clear hP9 hD9 hS9
              obtain ⟨k89, k90, k91⟩ := hq
              replace k89 : 0 ≤ ((z85)).toInt ∧ ((z85)).toInt ≤ 7999 := k89
              replace k90 : 0 ≤ ((z86)).toInt ∧ ((z86)).toInt ≤ 31 := k90
              replace k91 : 0 ≤ ((z87)).toInt ∧ ((z87)).toInt ≤ 1000 := k91
              obtain ⟨z92, ez92⟩ : ∃ y : Int32, y = x25 + 1 := ⟨_, rfl⟩
              have tz92 : (z92).toInt = (x25).toInt + 1 := by rw [ez92]; exact i_add rfl (by decide) (by omega)
              refine lv_iinc (v := z92) (lv' := [(6, .int z92), (0, .ref h_mm), (1, .int p1), (2, .int p2), (3, .int p3), (4, .int z5), (5, .int z6)]) hx hb dX11_saysTerm_158 hl (k := 6) rfl (by rw [ez92]; rfl) (by decide) rfl (fun ls hl => ?_)
              refine lv_goto (tgt := 116) hx hb dX11_saysTerm_161 (by decide) ?_
              replace hP : va_P (dC, dI) cls [(h_let, .inl (cy_let, 256, .inl f_let)), (h_nn, .inl (cy_nn, 8000, .inr (.inl f_nn))), (h_cof, .inl (cy_cof, 31, .inl f_cof)), (h_nv, .inl (cy_nv, 8000, .inl f_nv)), (h_na, .inl (cy_na, 8000, .inl f_na)), (h_nb, .inl (cy_nb, 8000, .inl f_nb)), (h_nc, .inl (cy_nc, 8000, .inl f_nc)), (h_bto, .inl (cy_bto, 256, .inl f_bto)), (h_bin, .inl (cy_bin, 256, .inl f_bin)), (h_mm, .inr (8, (mo157 v_mm (.ref h_nv) (.ref h_nn) (.ref h_na) (.ref h_nb) (.ref h_nc) (.ref h_let) (.ref h_bto) (.ref h_bin) (.int z85) (.int z86) (.ref h_cof) (.ref h_wri) (.int z87) (.int x_mm_room)))), (h_wri, .inl (cy_wri, 1000, .inl f88))] H := hP.sub [2, 4, 10, 3, 5, 6, 7, 8, 9, 0, 1] rfl
              replace hD : va_D A [(h_let, .inl (cy_let, 256, .inl f_let)), (h_nn, .inl (cy_nn, 8000, .inr (.inl f_nn))), (h_cof, .inl (cy_cof, 31, .inl f_cof)), (h_nv, .inl (cy_nv, 8000, .inl f_nv)), (h_na, .inl (cy_na, 8000, .inl f_na)), (h_nb, .inl (cy_nb, 8000, .inl f_nb)), (h_nc, .inl (cy_nc, 8000, .inl f_nc)), (h_bto, .inl (cy_bto, 256, .inl f_bto)), (h_bin, .inl (cy_bin, 256, .inl f_bin)), (h_mm, .inr (8, (mo157 v_mm (.ref h_nv) (.ref h_nn) (.ref h_na) (.ref h_nb) (.ref h_nc) (.ref h_let) (.ref h_bto) (.ref h_bin) (.int z85) (.int z86) (.ref h_cof) (.ref h_wri) (.int z87) (.int x_mm_room)))), (h_wri, .inl (cy_wri, 1000, .inl f88))] := hD.sub [2, 4, 10, 3, 5, 6, 7, 8, 9, 0, 1] (by decide) rfl
              exact ih31 (z92) (z85) (z86) (z87) (f88) _ _ _ (by omega) (by first | exact k89 | omega) (by first | exact k90 | omega) (by first | exact k91 | omega) (by omega) hP hD hS (lv_sub hl [1, 2, 3, 4, 5, 6, 0] rfl)
      have cst0 : (0 : Int32).toInt = 0 := by decide
      exact lp30 _ (0) (z5) (z6) (z22) (f23) _ _ _ (by decide) (by first | exact k8 | omega) (by first | exact k9 | omega) (by first | exact k24 | omega) (Nat.le_refl _) hP hD hS (lv_sub hl [3, 4, 5, 6, 2, 1, 0] rfl)
    · have kc18 := (not_congr (cv_eq (rfl : (z17).toInt = (z17).toInt) (by decide : ((-1) : Int32).toInt = -1))).mp c18
      have hvz17 : (f_nv (z5).toInt.toNat).toInt = (z17).toInt := by rw [ez17, (clamp_nat (i := z5) (by omega))]
      refine lv_aload_n hx hb dX11_saysTerm_52 rfl (lv_at hl 2 rfl) ?_
      refine lv_aload_n hx hb dX11_saysTerm_53 rfl (lv_at hl 2 rfl) ?_
      refine va_get (D := (dC, dI)) (ci := 8) (v := .ref h_let) (C := RX11) (T := TX11) (N := 71) hx hb hw iwX11 hown hK hP 4 rfl rfl 10 (by decide) (hw _ w_f_X11_108) (fun _ h9 => h9) rfl dX11_saysTerm_54 ?_
      refine lv_bipush (v := 8) hx hb dX11_saysTerm_57 (by decide) ?_
      refine lv_iload hx hb dX11_saysTerm_59 (lv_at hl 0 rfl) ?_
      refine lv_iconst (v := (-1)) hx hb dX11_saysTerm_61 (by decide) ?_
      refine lv_icmp_ne (tgt := 69) hx hb dX11_saysTerm_62 (by decide) (fun _ => ?_) (fun c93 => False.elim (by have kc93 := (cv_eq (rfl : (z6).toInt = (z6).toInt) (by decide : ((-1) : Int32).toInt = -1)).mp c93; omega))
      refine lv_aload_n hx hb dX11_saysTerm_69 rfl (lv_at hl 2 rfl) ?_
      refine va_get (D := (dC, dI)) (ci := 8) (v := .ref h_cof) (C := RX11) (T := TX11) (N := 71) hx hb hw iwX11 hown hK hP 4 rfl rfl 37 (by decide) (hw _ w_f_X11_204) (fun _ h9 => h9) rfl dX11_saysTerm_70 ?_
      refine lv_iload hx hb dX11_saysTerm_73 (lv_at hl 0 rfl) ?_
      refine va_iald hx hb hK hP 3 9 rfl rfl (i := z6) (vp_in_iff.mpr (by omega)) dX11_saysTerm_75 ?_
      refine lv_topi (fun z94 ez94 => ?_)
      have rz94 : 0 ≤ (z94).toInt ∧ (z94).toInt ≤ 15 := by rw [ez94]; exact hf_cof _
      refine lv_imul hx hb dX11_saysTerm_76 ?_
      refine lv_topi (fun z95 ez95 => ?_)
      have tz95 : (z95).toInt = 8 * (z94).toInt := by rw [ez95]; exact i_mul (by decide) rfl (by omega)
      refine lv_aload_n hx hb dX11_saysTerm_77 rfl (lv_at hl 2 rfl) ?_
      refine va_get (D := (dC, dI)) (ci := 8) (v := .ref h_nv) (C := RX11) (T := TX11) (N := 71) hx hb hw iwX11 hown hK hP 4 rfl rfl 1 (by decide) (hw _ w_f_X11_17) (fun _ h9 => h9) rfl dX11_saysTerm_78 ?_
      refine lv_iload hx hb dX11_saysTerm_81 (lv_at hl 1 rfl) ?_
      refine va_iald hx hb hK hP 5 2 rfl rfl (i := z5) (vp_in_iff.mpr (by omega)) dX11_saysTerm_83 ?_
      refine lv_topi (fun z96 ez96 => ?_)
      have qz96 : (z96).toInt = (z17).toInt := by rw [ez96, ez17]
      have rz96 : -1 ≤ (z96).toInt ∧ (z96).toInt ≤ 7 := by rw [ez96]; exact hf_nv _
      refine lv_iadd hx hb dX11_saysTerm_84 ?_
      refine lv_topi (fun z97 ez97 => ?_)
      have tz97 : (z97).toInt = (z95).toInt + (z96).toInt := by rw [ez97]; exact i_add rfl rfl (by omega)
      refine va_iald hx hb hK hP 1 1 rfl rfl (i := z97) (vp_in_iff.mpr (by omega)) dX11_saysTerm_85 ?_
      refine lv_topi (fun z98 ez98 => ?_)
      obtain ⟨vq99, evq99⟩ := mq157_118 v_mm (.ref h_nv) (.ref h_nn) (.ref h_na) (.ref h_nb) (.ref h_nc) (.ref h_let) (.ref h_bto) (.ref h_bin) (.int z5) (.int z6) (.ref h_cof)
      replace hP : va_P (dC, dI) cls [(h_wri, .inl (cy_wri, 1000, .inl f_wri)), (h_let, .inl (cy_let, 256, .inl f_let)), (h_nn, .inl (cy_nn, 8000, .inr (.inl f_nn))), (h_cof, .inl (cy_cof, 31, .inl f_cof)), (h_mm, .inr (8, (mo118 vq99 (.ref h_wri) (.int x_mm_writes) (.int x_mm_room)))), (h_nv, .inl (cy_nv, 8000, .inl f_nv)), (h_na, .inl (cy_na, 8000, .inl f_na)), (h_nb, .inl (cy_nb, 8000, .inl f_nb)), (h_nc, .inl (cy_nc, 8000, .inl f_nc)), (h_bto, .inl (cy_bto, 256, .inl f_bto)), (h_bin, .inl (cy_bin, 256, .inl f_bin))] H := by rw [evq99]; exact hP
      replace hD : va_D A [(h_wri, .inl (cy_wri, 1000, .inl f_wri)), (h_let, .inl (cy_let, 256, .inl f_let)), (h_nn, .inl (cy_nn, 8000, .inr (.inl f_nn))), (h_cof, .inl (cy_cof, 31, .inl f_cof)), (h_mm, .inr (8, (mo118 vq99 (.ref h_wri) (.int x_mm_writes) (.int x_mm_room)))), (h_nv, .inl (cy_nv, 8000, .inl f_nv)), (h_na, .inl (cy_na, 8000, .inl f_na)), (h_nb, .inl (cy_nb, 8000, .inl f_nb)), (h_nc, .inl (cy_nc, 8000, .inl f_nc)), (h_bto, .inl (cy_bto, 256, .inl f_bto)), (h_bin, .inl (cy_bin, 256, .inl f_bin))] := by rw [evq99]; exact hD
      have hPc := hP.sub (ws' := [(h_mm, .inr (8, (mo118 vq99 (.ref h_wri) (.int x_mm_writes) (.int x_mm_room)))), (h_wri, .inl (cy_wri, 1000, .inl f_wri))]) [4, 0] rfl
      have hDc := hD.sub (ws' := [(h_mm, .inr (8, (mo118 vq99 (.ref h_wri) (.int x_mm_writes) (.int x_mm_room)))), (h_wri, .inl (cy_wri, 1000, .inl f_wri))]) [4, 0] (by decide) rfl
      have hKc := hK.sub (tys' := [(cy_wri, .int)]) [0] rfl
      have hFc := va_free (wc := [(h_mm, .inr (8, (mo118 vq99 (.ref h_wri) (.int x_mm_writes) (.int x_mm_room)))), (h_wri, .inl (cy_wri, 1000, .inl f_wri))]) hD hS hA [4, 0] rfl
      refine va_callv (va_runV (As := [.int z98]) (rest := []) ⟨hx, hb, hml, hown, hts⟩ (c_X11_says l dC dI H.size h_mm h_wri vq99 x_mm_writes x_mm_room cy_wri f_wri z98 (by first | exact hx_mm_writes | omega) (by first | exact hx_mm_room | omega)) (cwV 1 hts (gv hT w_m_X11_452 w_instanceMethod_X11_says ws_sel_X11_says w_ini_X11 w_code_X11_says) rfl rfl rfl (by decide +kernel) ⟨(by dsimp only [headSpec]; omega), (by dsimp only [headSpec]; omega)⟩) ⟨pre_blind, va_recv hK hP (ci := 8) (q0 := 4) rfl rfl, pre_of hPc hKc hDc hN⟩ rfl rfl hl.1 rfl (lv_room (Nat.le_of_ble_eq_true rfl)) dX11_saysTerm_86 ⟨(Nat.le_of_ble_eq_true rfl), (Nat.le_of_ble_eq_true rfl)⟩) hS (fun q _ h => hFc q h) hFc (fun u t H locs ht hvm hq hB hz1 hk1 hS9 => ?_)
      obtain ⟨z101, f102⟩ := u
      obtain ⟨hP1, hD1⟩ := hB
      rw [ht] at hP1
      obtain ⟨hP9, hD9⟩ := va_join (wr := [(h_let, .inl (cy_let, 256, .inl f_let)), (h_nn, .inl (cy_nn, 8000, .inr (.inl f_nn))), (h_cof, .inl (cy_cof, 31, .inl f_cof)), (h_nv, .inl (cy_nv, 8000, .inl f_nv)), (h_na, .inl (cy_na, 8000, .inl f_na)), (h_nb, .inl (cy_nb, 8000, .inl f_nb)), (h_nc, .inl (cy_nc, 8000, .inl f_nc)), (h_bto, .inl (cy_bto, 256, .inl f_bto)), (h_bin, .inl (cy_bin, 256, .inl f_bin))]) (w1 := [(h_mm, .inr (8, (mo118 vq99 (.ref h_wri) (.int z101) (.int x_mm_room)))), (h_wri, .inl (cy_wri, 1000, .inl f102))]) hP hD [4, 0] [1, 2, 3, 5, 6, 7, 8, 9, 10] rfl rfl (by decide) (by decide) hk1 hFc hP1 hD1
      clear hP hD hS hPc hDc hKc hFc hP1 hD1 hk1 hz1 ht hvm
      have hP : va_P (dC, dI) cls [(h_let, .inl (cy_let, 256, .inl f_let)), (h_nn, .inl (cy_nn, 8000, .inr (.inl f_nn))), (h_cof, .inl (cy_cof, 31, .inl f_cof)), (h_nv, .inl (cy_nv, 8000, .inl f_nv)), (h_na, .inl (cy_na, 8000, .inl f_na)), (h_nb, .inl (cy_nb, 8000, .inl f_nb)), (h_nc, .inl (cy_nc, 8000, .inl f_nc)), (h_bto, .inl (cy_bto, 256, .inl f_bto)), (h_bin, .inl (cy_bin, 256, .inl f_bin)), (h_mm, .inr (8, (mo118 vq99 (.ref h_wri) (.int z101) (.int x_mm_room)))), (h_wri, .inl (cy_wri, 1000, .inl f102))] H := hP9
      have hD : va_D A [(h_let, .inl (cy_let, 256, .inl f_let)), (h_nn, .inl (cy_nn, 8000, .inr (.inl f_nn))), (h_cof, .inl (cy_cof, 31, .inl f_cof)), (h_nv, .inl (cy_nv, 8000, .inl f_nv)), (h_na, .inl (cy_na, 8000, .inl f_na)), (h_nb, .inl (cy_nb, 8000, .inl f_nb)), (h_nc, .inl (cy_nc, 8000, .inl f_nc)), (h_bto, .inl (cy_bto, 256, .inl f_bto)), (h_bin, .inl (cy_bin, 256, .inl f_bin)), (h_mm, .inr (8, (mo118 vq99 (.ref h_wri) (.int z101) (.int x_mm_room)))), (h_wri, .inl (cy_wri, 1000, .inl f102))] := hD9
      have hS := hS9
      clear hP9 hD9 hS9
      rw [evq99] at hP hD
      replace hP : va_P (dC, dI) cls [(h_let, .inl (cy_let, 256, .inl f_let)), (h_nn, .inl (cy_nn, 8000, .inr (.inl f_nn))), (h_cof, .inl (cy_cof, 31, .inl f_cof)), (h_nv, .inl (cy_nv, 8000, .inl f_nv)), (h_na, .inl (cy_na, 8000, .inl f_na)), (h_nb, .inl (cy_nb, 8000, .inl f_nb)), (h_nc, .inl (cy_nc, 8000, .inl f_nc)), (h_bto, .inl (cy_bto, 256, .inl f_bto)), (h_bin, .inl (cy_bin, 256, .inl f_bin)), (h_mm, .inr (8, (mo157 v_mm (.ref h_nv) (.ref h_nn) (.ref h_na) (.ref h_nb) (.ref h_nc) (.ref h_let) (.ref h_bto) (.ref h_bin) (.int z5) (.int z6) (.ref h_cof) (.ref h_wri) (.int z101) (.int x_mm_room)))), (h_wri, .inl (cy_wri, 1000, .inl f102))] H := hP
      replace hD : va_D A [(h_let, .inl (cy_let, 256, .inl f_let)), (h_nn, .inl (cy_nn, 8000, .inr (.inl f_nn))), (h_cof, .inl (cy_cof, 31, .inl f_cof)), (h_nv, .inl (cy_nv, 8000, .inl f_nv)), (h_na, .inl (cy_na, 8000, .inl f_na)), (h_nb, .inl (cy_nb, 8000, .inl f_nb)), (h_nc, .inl (cy_nc, 8000, .inl f_nc)), (h_bto, .inl (cy_bto, 256, .inl f_bto)), (h_bin, .inl (cy_bin, 256, .inl f_bin)), (h_mm, .inr (8, (mo157 v_mm (.ref h_nv) (.ref h_nn) (.ref h_na) (.ref h_nb) (.ref h_nc) (.ref h_let) (.ref h_bto) (.ref h_bin) (.int z5) (.int z6) (.ref h_cof) (.ref h_wri) (.int z101) (.int x_mm_room)))), (h_wri, .inl (cy_wri, 1000, .inl f102))] := hD
      clear evq99 
      obtain ⟨k103, k104⟩ := hq
      replace k103 : 0 ≤ ((z101)).toInt ∧ ((z101)).toInt ≤ 1000 := k103
      replace k104 : ((x_mm_writes)).toInt ≤ ((z101)).toInt := k104
      refine lv_iload hx hb dX11_saysTerm_89 (lv_at hl 0 rfl) ?_
      refine lv_iconst (v := (-1)) hx hb dX11_saysTerm_91 (by decide) ?_
      refine lv_icmp_eq (tgt := 101) hx hb dX11_saysTerm_92 (by decide) (fun c105 => False.elim (by have kc105 := (cv_eq (rfl : (z6).toInt = (z6).toInt) (by decide : ((-1) : Int32).toInt = -1)).mp c105; omega)) (fun _ => ?_)
      refine lv_aload_n hx hb dX11_saysTerm_95 rfl (lv_at hl 2 rfl) ?_
      refine lv_iload hx hb dX11_saysTerm_96 (lv_at hl 0 rfl) ?_
      obtain ⟨vq106, evq106⟩ := mq157_118 v_mm (.ref h_nv) (.ref h_nn) (.ref h_na) (.ref h_nb) (.ref h_nc) (.ref h_let) (.ref h_bto) (.ref h_bin) (.int z5) (.int z6) (.ref h_cof)
      replace hP : va_P (dC, dI) cls [(h_let, .inl (cy_let, 256, .inl f_let)), (h_nn, .inl (cy_nn, 8000, .inr (.inl f_nn))), (h_cof, .inl (cy_cof, 31, .inl f_cof)), (h_nv, .inl (cy_nv, 8000, .inl f_nv)), (h_na, .inl (cy_na, 8000, .inl f_na)), (h_nb, .inl (cy_nb, 8000, .inl f_nb)), (h_nc, .inl (cy_nc, 8000, .inl f_nc)), (h_bto, .inl (cy_bto, 256, .inl f_bto)), (h_bin, .inl (cy_bin, 256, .inl f_bin)), (h_mm, .inr (8, (mo118 vq106 (.ref h_wri) (.int z101) (.int x_mm_room)))), (h_wri, .inl (cy_wri, 1000, .inl f102))] H := by rw [evq106]; exact hP
      replace hD : va_D A [(h_let, .inl (cy_let, 256, .inl f_let)), (h_nn, .inl (cy_nn, 8000, .inr (.inl f_nn))), (h_cof, .inl (cy_cof, 31, .inl f_cof)), (h_nv, .inl (cy_nv, 8000, .inl f_nv)), (h_na, .inl (cy_na, 8000, .inl f_na)), (h_nb, .inl (cy_nb, 8000, .inl f_nb)), (h_nc, .inl (cy_nc, 8000, .inl f_nc)), (h_bto, .inl (cy_bto, 256, .inl f_bto)), (h_bin, .inl (cy_bin, 256, .inl f_bin)), (h_mm, .inr (8, (mo118 vq106 (.ref h_wri) (.int z101) (.int x_mm_room)))), (h_wri, .inl (cy_wri, 1000, .inl f102))] := by rw [evq106]; exact hD
      have hPc := hP.sub (ws' := [(h_mm, .inr (8, (mo118 vq106 (.ref h_wri) (.int z101) (.int x_mm_room)))), (h_wri, .inl (cy_wri, 1000, .inl f102))]) [9, 10] rfl
      have hDc := hD.sub (ws' := [(h_mm, .inr (8, (mo118 vq106 (.ref h_wri) (.int z101) (.int x_mm_room)))), (h_wri, .inl (cy_wri, 1000, .inl f102))]) [9, 10] (by decide) rfl
      have hKc := hK.sub (tys' := [(cy_wri, .int)]) [0] rfl
      have hFc := va_free (wc := [(h_mm, .inr (8, (mo118 vq106 (.ref h_wri) (.int z101) (.int x_mm_room)))), (h_wri, .inl (cy_wri, 1000, .inl f102))]) hD hS hA [9, 10] rfl
      refine va_callv (va_runV (As := [.int z6]) (rest := []) ⟨hx, hb, hml, hown, hts⟩ (c_X11_saysNumber_1 l dC dI H.size h_mm h_wri vq106 z101 x_mm_room cy_wri f102 z6 (by first | exact k103 | omega) (by first | exact hx_mm_room | omega) (by omega)) (cwV 1 hts (gv hT w_m_X11_449 w_instanceMethod_X11_saysNumber ws_sel_X11_saysNumber w_ini_X11 w_code_X11_saysNumber) rfl rfl rfl (by decide +kernel) ⟨(by dsimp only [headSpec]; omega), (by dsimp only [headSpec]; omega)⟩) ⟨pre_blind, va_recv hK hP (ci := 8) (q0 := 9) rfl rfl, pre_of hPc hKc hDc hN⟩ rfl rfl hl.1 rfl (lv_room (Nat.le_of_ble_eq_true rfl)) dX11_saysTerm_98 ⟨(Nat.le_of_ble_eq_true rfl), (Nat.le_of_ble_eq_true rfl)⟩) hS (fun q _ h => hFc q h) hFc (fun u t H locs ht hvm hq hB hz1 hk1 hS9 => ?_)
      obtain ⟨z108, f109⟩ := u
      obtain ⟨hP1, hD1⟩ := hB
      rw [ht] at hP1
      obtain ⟨hP9, hD9⟩ := va_join (wr := [(h_let, .inl (cy_let, 256, .inl f_let)), (h_nn, .inl (cy_nn, 8000, .inr (.inl f_nn))), (h_cof, .inl (cy_cof, 31, .inl f_cof)), (h_nv, .inl (cy_nv, 8000, .inl f_nv)), (h_na, .inl (cy_na, 8000, .inl f_na)), (h_nb, .inl (cy_nb, 8000, .inl f_nb)), (h_nc, .inl (cy_nc, 8000, .inl f_nc)), (h_bto, .inl (cy_bto, 256, .inl f_bto)), (h_bin, .inl (cy_bin, 256, .inl f_bin))]) (w1 := [(h_mm, .inr (8, (mo118 vq106 (.ref h_wri) (.int z108) (.int x_mm_room)))), (h_wri, .inl (cy_wri, 1000, .inl f109))]) hP hD [9, 10] [0, 1, 2, 3, 4, 5, 6, 7, 8] rfl rfl (by decide) (by decide) hk1 hFc hP1 hD1
      clear hP hD hS hPc hDc hKc hFc hP1 hD1 hk1 hz1 ht hvm
      have hP : va_P (dC, dI) cls [(h_let, .inl (cy_let, 256, .inl f_let)), (h_nn, .inl (cy_nn, 8000, .inr (.inl f_nn))), (h_cof, .inl (cy_cof, 31, .inl f_cof)), (h_nv, .inl (cy_nv, 8000, .inl f_nv)), (h_na, .inl (cy_na, 8000, .inl f_na)), (h_nb, .inl (cy_nb, 8000, .inl f_nb)), (h_nc, .inl (cy_nc, 8000, .inl f_nc)), (h_bto, .inl (cy_bto, 256, .inl f_bto)), (h_bin, .inl (cy_bin, 256, .inl f_bin)), (h_mm, .inr (8, (mo118 vq106 (.ref h_wri) (.int z108) (.int x_mm_room)))), (h_wri, .inl (cy_wri, 1000, .inl f109))] H := hP9
      have hD : va_D A [(h_let, .inl (cy_let, 256, .inl f_let)), (h_nn, .inl (cy_nn, 8000, .inr (.inl f_nn))), (h_cof, .inl (cy_cof, 31, .inl f_cof)), (h_nv, .inl (cy_nv, 8000, .inl f_nv)), (h_na, .inl (cy_na, 8000, .inl f_na)), (h_nb, .inl (cy_nb, 8000, .inl f_nb)), (h_nc, .inl (cy_nc, 8000, .inl f_nc)), (h_bto, .inl (cy_bto, 256, .inl f_bto)), (h_bin, .inl (cy_bin, 256, .inl f_bin)), (h_mm, .inr (8, (mo118 vq106 (.ref h_wri) (.int z108) (.int x_mm_room)))), (h_wri, .inl (cy_wri, 1000, .inl f109))] := hD9
      have hS := hS9
      clear hP9 hD9 hS9
      rw [evq106] at hP hD
      replace hP : va_P (dC, dI) cls [(h_let, .inl (cy_let, 256, .inl f_let)), (h_nn, .inl (cy_nn, 8000, .inr (.inl f_nn))), (h_cof, .inl (cy_cof, 31, .inl f_cof)), (h_nv, .inl (cy_nv, 8000, .inl f_nv)), (h_na, .inl (cy_na, 8000, .inl f_na)), (h_nb, .inl (cy_nb, 8000, .inl f_nb)), (h_nc, .inl (cy_nc, 8000, .inl f_nc)), (h_bto, .inl (cy_bto, 256, .inl f_bto)), (h_bin, .inl (cy_bin, 256, .inl f_bin)), (h_mm, .inr (8, (mo157 v_mm (.ref h_nv) (.ref h_nn) (.ref h_na) (.ref h_nb) (.ref h_nc) (.ref h_let) (.ref h_bto) (.ref h_bin) (.int z5) (.int z6) (.ref h_cof) (.ref h_wri) (.int z108) (.int x_mm_room)))), (h_wri, .inl (cy_wri, 1000, .inl f109))] H := hP
      replace hD : va_D A [(h_let, .inl (cy_let, 256, .inl f_let)), (h_nn, .inl (cy_nn, 8000, .inr (.inl f_nn))), (h_cof, .inl (cy_cof, 31, .inl f_cof)), (h_nv, .inl (cy_nv, 8000, .inl f_nv)), (h_na, .inl (cy_na, 8000, .inl f_na)), (h_nb, .inl (cy_nb, 8000, .inl f_nb)), (h_nc, .inl (cy_nc, 8000, .inl f_nc)), (h_bto, .inl (cy_bto, 256, .inl f_bto)), (h_bin, .inl (cy_bin, 256, .inl f_bin)), (h_mm, .inr (8, (mo157 v_mm (.ref h_nv) (.ref h_nn) (.ref h_na) (.ref h_nb) (.ref h_nc) (.ref h_let) (.ref h_bto) (.ref h_bin) (.int z5) (.int z6) (.ref h_cof) (.ref h_wri) (.int z108) (.int x_mm_room)))), (h_wri, .inl (cy_wri, 1000, .inl f109))] := hD
      clear evq106 
      have k110 : 0 ≤ ((z108)).toInt ∧ ((z108)).toInt ≤ 1000 := hq
      clear hq
      replace hP : va_P (dC, dI) cls [(h_mm, .inr (8, (mo157 v_mm (.ref h_nv) (.ref h_nn) (.ref h_na) (.ref h_nb) (.ref h_nc) (.ref h_let) (.ref h_bto) (.ref h_bin) (.int z5) (.int z6) (.ref h_cof) (.ref h_wri) (.int z108) (.int x_mm_room)))), (h_wri, .inl (cy_wri, 1000, .inl f109)), (h_let, .inl (cy_let, 256, .inl f_let)), (h_nv, .inl (cy_nv, 8000, .inl f_nv)), (h_nn, .inl (cy_nn, 8000, .inr (.inl f_nn))), (h_na, .inl (cy_na, 8000, .inl f_na)), (h_nb, .inl (cy_nb, 8000, .inl f_nb)), (h_nc, .inl (cy_nc, 8000, .inl f_nc)), (h_bto, .inl (cy_bto, 256, .inl f_bto)), (h_bin, .inl (cy_bin, 256, .inl f_bin)), (h_cof, .inl (cy_cof, 31, .inl f_cof))] H := hP.sub [9, 10, 0, 3, 1, 4, 5, 6, 7, 8, 2] rfl
      replace hD : va_D A [(h_mm, .inr (8, (mo157 v_mm (.ref h_nv) (.ref h_nn) (.ref h_na) (.ref h_nb) (.ref h_nc) (.ref h_let) (.ref h_bto) (.ref h_bin) (.int z5) (.int z6) (.ref h_cof) (.ref h_wri) (.int z108) (.int x_mm_room)))), (h_wri, .inl (cy_wri, 1000, .inl f109)), (h_let, .inl (cy_let, 256, .inl f_let)), (h_nv, .inl (cy_nv, 8000, .inl f_nv)), (h_nn, .inl (cy_nn, 8000, .inr (.inl f_nn))), (h_na, .inl (cy_na, 8000, .inl f_na)), (h_nb, .inl (cy_nb, 8000, .inl f_nb)), (h_nc, .inl (cy_nc, 8000, .inl f_nc)), (h_bto, .inl (cy_bto, 256, .inl f_bto)), (h_bin, .inl (cy_bin, 256, .inl f_bin)), (h_cof, .inl (cy_cof, 31, .inl f_cof))] := hD.sub [9, 10, 0, 3, 1, 4, 5, 6, 7, 8, 2] (by decide) rfl
      refine W.widen (k := 0) (n := 0) (Nat.le_of_ble_eq_true rfl) (Nat.le_of_ble_eq_true rfl) ?_
      have w111 : 0 ≤ ((z5)).toInt ∧ ((z5)).toInt ≤ 7999 := by first | exact k8 | omega
      have w112 : 0 ≤ ((z6)).toInt ∧ ((z6)).toInt ≤ 31 := by first | exact k9 | omega
      have w113 : 0 ≤ ((z108)).toInt ∧ ((z108)).toInt ≤ 1000 := by first | exact k110 | omega
      exact W.vret hx hb hr (fun t ht hW => ⟨⟨(z5, z6, z108, f109), rfl, ⟨w111, w112, w113⟩, by rw [ht]; exact hP, hD⟩, hS.F ht⟩) hS.2.2 dX11_saysTerm_101
  · have kc1 := (not_congr (cv_le (rfl : (x_mm_writes).toInt = (x_mm_writes).toInt) (rfl : (x_mm_room).toInt = (x_mm_room).toInt))).mp c1
    refine W.widen (k := 0) (n := 0) (Nat.le_of_ble_eq_true rfl) (Nat.le_of_ble_eq_true rfl) ?_
    have w114 : 0 ≤ ((x_mm_goneTo)).toInt ∧ ((x_mm_goneTo)).toInt ≤ 7999 := by first | exact hx_mm_goneTo | omega
    have w115 : 0 ≤ ((x_mm_goneIn)).toInt ∧ ((x_mm_goneIn)).toInt ≤ 31 := by first | exact hx_mm_goneIn | omega
    have w116 : 0 ≤ ((x_mm_writes)).toInt ∧ ((x_mm_writes)).toInt ≤ 1000 := by first | exact hx_mm_writes | omega
    exact W.vret hx hb hr (fun t ht hW => ⟨⟨(x_mm_goneTo, x_mm_goneIn, x_mm_writes, f_wri), rfl, ⟨w114, w115, w116⟩, by rw [ht]; exact hP, hD⟩, hS.F ht⟩) hS.2.2 dX11_saysTerm_11

set_option maxHeartbeats 8000000 in
set_option maxRecDepth 100000 in
theorem c_X11_shows_0 (l : Launch) (dC : Nat → ClassId) (dI : Nat → Nat → Nat) (sz : Nat) (h_mm : Nat) (h_wri : Nat) (h_let : Nat) (h_nv : Nat) (h_nn : Nat) (h_na : Nat) (h_nb : Nat) (h_nc : Nat) (h_isn : Nat) (h_tem : Nat) (h_out : Nat) (v_mm : Nat → Value) (x_mm_outs : Int32) (x_mm_writes : Int32) (x_mm_room : Int32) (cy_wri : ClassId) (f_wri : Nat → Int32) (cy_let : ClassId) (f_let : Nat → Int32) (cy_nv : ClassId) (f_nv : Nat → Int32) (cy_nn : ClassId) (f_nn : Nat → Int64) (cy_na : ClassId) (f_na : Nat → Int32) (cy_nb : ClassId) (f_nb : Nat → Int32) (cy_nc : ClassId) (f_nc : Nat → Int32) (cy_isn : ClassId) (f_isn : Nat → Int32) (cy_tem : ClassId) (f_tem : Nat → Int32) (cy_out : ClassId) (f_out : Nat → Int32) (p1 : Int32) (p3 : Int32) (N : Int) (hz : Nat → Nat) (hx_mm_outs : 0 ≤ (x_mm_outs).toInt ∧ (x_mm_outs).toInt ≤ 1000) (hx_mm_writes : 0 ≤ (x_mm_writes).toInt ∧ (x_mm_writes).toInt ≤ 1000) (hx_mm_room : 0 ≤ (x_mm_room).toInt ∧ (x_mm_room).toInt ≤ 998) (hf_nv : Rg (-1) 7 f_nv) (hf_na : Rg (-1) 7999 f_na) (hf_nb : Rg (-1) 7999 f_nb) (hf_nc : Rg (-1) 7999 f_nc) (hf_isn : Rg 0 1 f_isn) (hf_tem : Rg 0 7999 f_tem) (q0 : 0 ≤ (f_tem (p1).toInt.toNat).toInt ∧ (f_tem (p1).toInt.toNat).toInt < N ∧ hz (f_tem (p1).toInt.toNat).toInt.toNat = 7) (q1 : N ≤ 8000) (q2 : 0 ≤ (p1).toInt ∧ (p1).toInt ≤ 191) (q3 : 0 ≤ (p3).toInt ∧ (p3).toInt ≤ 15) (hn_nds : ND 0 N hz f_na f_nb f_nc) : Met l yX11_shows (Ws yX11_shows cX11_shows 6 (some .int)) (({ frames := 24, cells := 0, slots := 0, locals := 563 } : Room)) (PRE (dC, dI) cls [(cy_wri, .int), (cy_let, .int), (cy_nv, .int), (cy_nn, .long), (cy_na, .int), (cy_nb, .int), (cy_nc, .int), (cy_isn, .boolean), (cy_tem, .int), (cy_out, .int)] [(h_mm, .inr (8, (mo158 v_mm (.ref h_nv) (.ref h_nn) (.ref h_na) (.ref h_nb) (.ref h_nc) (.ref h_let) (.ref h_isn) (.ref h_tem) (.ref h_out) (.int x_mm_outs) (.ref h_wri) (.int x_mm_writes) (.int x_mm_room)))), (h_wri, .inl (cy_wri, 1000, .inl f_wri)), (h_let, .inl (cy_let, 256, .inl f_let)), (h_nv, .inl (cy_nv, 8000, .inl f_nv)), (h_nn, .inl (cy_nn, 8000, .inr (.inl f_nn))), (h_na, .inl (cy_na, 8000, .inl f_na)), (h_nb, .inl (cy_nb, 8000, .inl f_nb)), (h_nc, .inl (cy_nc, 8000, .inl f_nc)), (h_isn, .inl (cy_isn, 192, .inl f_isn)), (h_tem, .inl (cy_tem, 192, .inl f_tem)), (h_out, .inl (cy_out, 1000, .inl f_out))] sz [.ref h_mm, .int p1, .int (-1), .int p3, .int 900]) (va_Qi (fun (r : Int32) (u : (Int32) × (Int32) × (Int32) × (Nat → Int32) × (Nat → Int32)) => (0 ≤ (u.1).toInt ∧ (u.1).toInt ≤ 1000) ∧ (0 ≤ (u.2.1).toInt ∧ (u.2.1).toInt ≤ 1000) ∧ (0 ≤ (u.2.2.1).toInt ∧ (u.2.2.1).toInt ≤ 998)) (fun (u : (Int32) × (Int32) × (Int32) × (Nat → Int32) × (Nat → Int32)) (t : State) => va_P (dC, dI) cls [(h_mm, .inr (8, (mo158 v_mm (.ref h_nv) (.ref h_nn) (.ref h_na) (.ref h_nb) (.ref h_nc) (.ref h_let) (.ref h_isn) (.ref h_tem) (.ref h_out) (.int u.1) (.ref h_wri) (.int u.2.1) (.int u.2.2.1)))), (h_wri, .inl (cy_wri, 1000, .inl u.2.2.2.1)), (h_let, .inl (cy_let, 256, .inl f_let)), (h_nv, .inl (cy_nv, 8000, .inl f_nv)), (h_nn, .inl (cy_nn, 8000, .inr (.inl f_nn))), (h_na, .inl (cy_na, 8000, .inl f_na)), (h_nb, .inl (cy_nb, 8000, .inl f_nb)), (h_nc, .inl (cy_nc, 8000, .inl f_nc)), (h_isn, .inl (cy_isn, 192, .inl f_isn)), (h_tem, .inl (cy_tem, 192, .inl f_tem)), (h_out, .inl (cy_out, 1000, .inl u.2.2.2.2))] t.heap ∧ va_D (va_A [(h_mm, .inr (8, (mo158 v_mm (.ref h_nv) (.ref h_nn) (.ref h_na) (.ref h_nb) (.ref h_nc) (.ref h_let) (.ref h_isn) (.ref h_tem) (.ref h_out) (.int x_mm_outs) (.ref h_wri) (.int x_mm_writes) (.int x_mm_room)))), (h_wri, .inl (cy_wri, 1000, .inl f_wri)), (h_let, .inl (cy_let, 256, .inl f_let)), (h_nv, .inl (cy_nv, 8000, .inl f_nv)), (h_nn, .inl (cy_nn, 8000, .inr (.inl f_nn))), (h_na, .inl (cy_na, 8000, .inl f_na)), (h_nb, .inl (cy_nb, 8000, .inl f_nb)), (h_nc, .inl (cy_nc, 8000, .inl f_nc)), (h_isn, .inl (cy_isn, 192, .inl f_isn)), (h_tem, .inl (cy_tem, 192, .inl f_tem)), (h_out, .inl (cy_out, 1000, .inl f_out))] sz) [(h_mm, .inr (8, (mo158 v_mm (.ref h_nv) (.ref h_nn) (.ref h_na) (.ref h_nb) (.ref h_nc) (.ref h_let) (.ref h_isn) (.ref h_tem) (.ref h_out) (.int u.1) (.ref h_wri) (.int u.2.1) (.int u.2.2.1)))), (h_wri, .inl (cy_wri, 1000, .inl u.2.2.2.1)), (h_let, .inl (cy_let, 256, .inl f_let)), (h_nv, .inl (cy_nv, 8000, .inl f_nv)), (h_nn, .inl (cy_nn, 8000, .inr (.inl f_nn))), (h_na, .inl (cy_na, 8000, .inl f_na)), (h_nb, .inl (cy_nb, 8000, .inl f_nb)), (h_nc, .inl (cy_nc, 8000, .inl f_nc)), (h_isn, .inl (cy_isn, 192, .inl f_isn)), (h_tem, .inl (cy_tem, 192, .inl f_tem)), (h_out, .inl (cy_out, 1000, .inl u.2.2.2.2))]) (va_A [(h_mm, .inr (8, (mo158 v_mm (.ref h_nv) (.ref h_nn) (.ref h_na) (.ref h_nb) (.ref h_nc) (.ref h_let) (.ref h_isn) (.ref h_tem) (.ref h_out) (.int x_mm_outs) (.ref h_wri) (.int x_mm_writes) (.int x_mm_room)))), (h_wri, .inl (cy_wri, 1000, .inl f_wri)), (h_let, .inl (cy_let, 256, .inl f_let)), (h_nv, .inl (cy_nv, 8000, .inl f_nv)), (h_nn, .inl (cy_nn, 8000, .inr (.inl f_nn))), (h_na, .inl (cy_na, 8000, .inl f_na)), (h_nb, .inl (cy_nb, 8000, .inl f_nb)), (h_nc, .inl (cy_nc, 8000, .inl f_nc)), (h_isn, .inl (cy_isn, 192, .inl f_isn)), (h_tem, .inl (cy_tem, 192, .inl f_tem)), (h_out, .inl (cy_out, 1000, .inl f_out))] sz)) 0 0 (va_A [(h_mm, .inr (8, (mo158 v_mm (.ref h_nv) (.ref h_nn) (.ref h_na) (.ref h_nb) (.ref h_nc) (.ref h_let) (.ref h_isn) (.ref h_tem) (.ref h_out) (.int x_mm_outs) (.ref h_wri) (.int x_mm_writes) (.int x_mm_room)))), (h_wri, .inl (cy_wri, 1000, .inl f_wri)), (h_let, .inl (cy_let, 256, .inl f_let)), (h_nv, .inl (cy_nv, 8000, .inl f_nv)), (h_nn, .inl (cy_nn, 8000, .inr (.inl f_nn))), (h_na, .inl (cy_na, 8000, .inl f_na)), (h_nb, .inl (cy_nb, 8000, .inl f_nb)), (h_nc, .inl (cy_nc, 8000, .inl f_nc)), (h_isn, .inl (cy_isn, 192, .inl f_isn)), (h_tem, .inl (cy_tem, 192, .inl f_tem)), (h_out, .inl (cy_out, 1000, .inl f_out))] sz) := by
  refine Met.ofW (cc := cX11_shows) (maxL := 6) (ret := (some .int)) (by decide) rfl ?_
  intro p e s m args below meth c s₁ B hml hv
  obtain ⟨rfl, hsz, hP, hK, hD0, hN⟩ := hv
  have hx := B.exec
  have hb := B.bytes
  have hr := B.returns
  have hts := atoms_spec (ws := Ws yX11_shows cX11_shows 6 (some .int)) B.pre
  have hT : ∀ w ∈ WALL, w ∈ Ws yX11_shows cX11_shows 6 (some .int) := fun w h => List.mem_cons_of_mem _ h
  have hw := fun w (h : w ∈ WALL) => hts w (hT w h)
  have hown : s.vm.findClass RX11 = some m.cls := findClass_of_methodNamed B.named
  have hlocks := B.notSynchronized
  subst hsz
  have hD := hD0.self (sz := s.heap.size)
  generalize hAe : va_A [(h_mm, .inr (8, (mo158 v_mm (.ref h_nv) (.ref h_nn) (.ref h_na) (.ref h_nb) (.ref h_nc) (.ref h_let) (.ref h_isn) (.ref h_tem) (.ref h_out) (.int x_mm_outs) (.ref h_wri) (.int x_mm_writes) (.int x_mm_room)))), (h_wri, .inl (cy_wri, 1000, .inl f_wri)), (h_let, .inl (cy_let, 256, .inl f_let)), (h_nv, .inl (cy_nv, 8000, .inl f_nv)), (h_nn, .inl (cy_nn, 8000, .inr (.inl f_nn))), (h_na, .inl (cy_na, 8000, .inl f_na)), (h_nb, .inl (cy_nb, 8000, .inl f_nb)), (h_nc, .inl (cy_nc, 8000, .inl f_nc)), (h_isn, .inl (cy_isn, 192, .inl f_isn)), (h_tem, .inl (cy_tem, 192, .inl f_tem)), (h_out, .inl (cy_out, 1000, .inl f_out))] s.heap.size = A at hD ⊢
  have hA : ∀ q : Nat, s.heap.size ≤ q → A q := fun q h => by rw [← hAe]; exact Or.inr h
  have hS : va_S A s.heap s.heap [] := va_S.rf
  have hl := lv_entry ([.ref h_mm, .int p1, .int (-1), .int p3, .int 900]) (n := 6) (Nat.le_of_ble_eq_true rfl)
  rw [lg_entry_eq]
  generalize (lg_sl ([.ref h_mm, .int p1, .int (-1), .int p3, .int 900]) ++ List.replicate (6 - (lg_sl ([.ref h_mm, .int p1, .int (-1), .int p3, .int 900])).length) Slot.unset).toArray = ls at hl ⊢
  have hl : lv_has ls 6 [(0, .ref h_mm), (1, .int p1), (2, .int (-1)), (3, .int p3), (4, .int 900)] := hl
  refine lv_aload_n hx hb dX11_shows_0 rfl (lv_at hl 0 rfl) ?_
  refine lv_iconst (v := 0) hx hb dX11_shows_1 (by decide) ?_
  refine va_put (D := (dC, dI)) (ci := 8) (v := .int 0) (ty := tyX11 65) (C := RX11) (T := TX11) (N := 71) hx hb hw iwX11 tyX11 tyX11_ok nmX11 hown hK hP hD hS 0 rfl rfl 65 (by decide) (hw _ w_f_X11_443) (fun _ h9 => h9) rfl (tyX11_ok 65 (by decide)) rfl rfl (Nat.le_of_ble_eq_true rfl) dX11_shows_2 (fun H locs hP9 hD9 hS9 => ?_)
  clear hP hD hS
  have hP : va_P (dC, dI) cls [(h_mm, .inr (8, (mo158 v_mm (.ref h_nv) (.ref h_nn) (.ref h_na) (.ref h_nb) (.ref h_nc) (.ref h_let) (.ref h_isn) (.ref h_tem) (.ref h_out) (.int x_mm_outs) (.ref h_wri) (.int 0) (.int x_mm_room)))), (h_wri, .inl (cy_wri, 1000, .inl f_wri)), (h_let, .inl (cy_let, 256, .inl f_let)), (h_nv, .inl (cy_nv, 8000, .inl f_nv)), (h_nn, .inl (cy_nn, 8000, .inr (.inl f_nn))), (h_na, .inl (cy_na, 8000, .inl f_na)), (h_nb, .inl (cy_nb, 8000, .inl f_nb)), (h_nc, .inl (cy_nc, 8000, .inl f_nc)), (h_isn, .inl (cy_isn, 192, .inl f_isn)), (h_tem, .inl (cy_tem, 192, .inl f_tem)), (h_out, .inl (cy_out, 1000, .inl f_out))] H := hP9
  have hD : va_D A [(h_mm, .inr (8, (mo158 v_mm (.ref h_nv) (.ref h_nn) (.ref h_na) (.ref h_nb) (.ref h_nc) (.ref h_let) (.ref h_isn) (.ref h_tem) (.ref h_out) (.int x_mm_outs) (.ref h_wri) (.int 0) (.int x_mm_room)))), (h_wri, .inl (cy_wri, 1000, .inl f_wri)), (h_let, .inl (cy_let, 256, .inl f_let)), (h_nv, .inl (cy_nv, 8000, .inl f_nv)), (h_nn, .inl (cy_nn, 8000, .inr (.inl f_nn))), (h_na, .inl (cy_na, 8000, .inl f_na)), (h_nb, .inl (cy_nb, 8000, .inl f_nb)), (h_nc, .inl (cy_nc, 8000, .inl f_nc)), (h_isn, .inl (cy_isn, 192, .inl f_isn)), (h_tem, .inl (cy_tem, 192, .inl f_tem)), (h_out, .inl (cy_out, 1000, .inl f_out))] := hD9
  have hS := hS9
  clear hP9 hD9 hS9
  refine lv_aload_n hx hb dX11_shows_5 rfl (lv_at hl 0 rfl) ?_
  refine lv_iload hx hb dX11_shows_6 (lv_at hl 4 rfl) ?_
  refine va_put (D := (dC, dI)) (ci := 8) (v := .int 900) (ty := tyX11 66) (C := RX11) (T := TX11) (N := 71) hx hb hw iwX11 tyX11 tyX11_ok nmX11 hown hK hP hD hS 0 rfl rfl 66 (by decide) (hw _ w_f_X11_446) (fun _ h9 => h9) rfl (tyX11_ok 66 (by decide)) rfl rfl (Nat.le_of_ble_eq_true rfl) dX11_shows_8 (fun H locs hP9 hD9 hS9 => ?_)
  clear hP hD hS
  have hP : va_P (dC, dI) cls [(h_mm, .inr (8, (mo158 v_mm (.ref h_nv) (.ref h_nn) (.ref h_na) (.ref h_nb) (.ref h_nc) (.ref h_let) (.ref h_isn) (.ref h_tem) (.ref h_out) (.int x_mm_outs) (.ref h_wri) (.int 0) (.int 900)))), (h_wri, .inl (cy_wri, 1000, .inl f_wri)), (h_let, .inl (cy_let, 256, .inl f_let)), (h_nv, .inl (cy_nv, 8000, .inl f_nv)), (h_nn, .inl (cy_nn, 8000, .inr (.inl f_nn))), (h_na, .inl (cy_na, 8000, .inl f_na)), (h_nb, .inl (cy_nb, 8000, .inl f_nb)), (h_nc, .inl (cy_nc, 8000, .inl f_nc)), (h_isn, .inl (cy_isn, 192, .inl f_isn)), (h_tem, .inl (cy_tem, 192, .inl f_tem)), (h_out, .inl (cy_out, 1000, .inl f_out))] H := hP9
  have hD : va_D A [(h_mm, .inr (8, (mo158 v_mm (.ref h_nv) (.ref h_nn) (.ref h_na) (.ref h_nb) (.ref h_nc) (.ref h_let) (.ref h_isn) (.ref h_tem) (.ref h_out) (.int x_mm_outs) (.ref h_wri) (.int 0) (.int 900)))), (h_wri, .inl (cy_wri, 1000, .inl f_wri)), (h_let, .inl (cy_let, 256, .inl f_let)), (h_nv, .inl (cy_nv, 8000, .inl f_nv)), (h_nn, .inl (cy_nn, 8000, .inr (.inl f_nn))), (h_na, .inl (cy_na, 8000, .inl f_na)), (h_nb, .inl (cy_nb, 8000, .inl f_nb)), (h_nc, .inl (cy_nc, 8000, .inl f_nc)), (h_isn, .inl (cy_isn, 192, .inl f_isn)), (h_tem, .inl (cy_tem, 192, .inl f_tem)), (h_out, .inl (cy_out, 1000, .inl f_out))] := hD9
  have hS := hS9
  clear hP9 hD9 hS9
  refine lv_aload_n hx hb dX11_shows_11 rfl (lv_at hl 0 rfl) ?_
  refine va_get (D := (dC, dI)) (ci := 8) (v := .ref h_isn) (C := RX11) (T := TX11) (N := 71) hx hb hw iwX11 hown hK hP 0 rfl rfl 11 (by decide) (hw _ w_f_X11_145) (fun _ h9 => h9) rfl dX11_shows_12 ?_
  refine lv_iload_n hx hb dX11_shows_15 rfl (lv_at hl 1 rfl) ?_
  refine va_zald hx hb hK hP 8 7 rfl rfl (i := p1) (vp_in_iff.mpr (by omega)) dX11_shows_16 ?_
  refine lv_topi (fun z1 ez1 => ?_)
  have rz1 : 0 ≤ (z1).toInt ∧ (z1).toInt ≤ 1 := by rw [ez1]; exact hf_isn _
  refine lv_if_eq (tgt := 26) hx hb dX11_shows_17 (by decide) (fun c2 => ?_) (fun c2 => ?_)
  · have kc2 := (cv_eq (rfl : (z1).toInt = (z1).toInt) (by decide : (0 : Int32).toInt = 0)).mp c2
    refine lv_aload_n hx hb dX11_shows_26 rfl (lv_at hl 0 rfl) ?_
    refine lv_aload_n hx hb dX11_shows_27 rfl (lv_at hl 0 rfl) ?_
    refine va_get (D := (dC, dI)) (ci := 8) (v := .ref h_tem) (C := RX11) (T := TX11) (N := 71) hx hb hw iwX11 hown hK hP 0 rfl rfl 12 (by decide) (hw _ w_f_X11_152) (fun _ h9 => h9) rfl dX11_shows_28 ?_
    refine lv_iload_n hx hb dX11_shows_31 rfl (lv_at hl 1 rfl) ?_
    refine va_iald hx hb hK hP 9 8 rfl rfl (i := p1) (vp_in_iff.mpr (by omega)) dX11_shows_32 ?_
    refine lv_topi (fun z3 ez3 => ?_)
    have rz3 : 0 ≤ (z3).toInt ∧ (z3).toInt ≤ 7999 := by rw [ez3]; exact hf_tem _
    have tq9 : f_tem (p1).toInt.toNat = z3 := by rw [← clamp_nat (i := p1) (by omega), ← ez3]
    have tr9 : 0 ≤ (z3).toInt ∧ (z3).toInt < N ∧ hz (z3).toInt.toNat = 7 := by rw [← tq9]; omega
    refine lv_iload_n hx hb dX11_shows_33 rfl (lv_at hl 2 rfl) ?_
    refine lv_iload_n hx hb dX11_shows_34 rfl (lv_at hl 3 rfl) ?_
    obtain ⟨vq4, evq4⟩ := mq158_156 v_mm (.ref h_isn) (.ref h_tem) (.ref h_out) (.int x_mm_outs)
    replace hP : va_P (dC, dI) cls [(h_mm, .inr (8, (mo156 vq4 (.ref h_nv) (.ref h_nn) (.ref h_na) (.ref h_nb) (.ref h_nc) (.ref h_let) (.ref h_wri) (.int 0) (.int 900)))), (h_wri, .inl (cy_wri, 1000, .inl f_wri)), (h_let, .inl (cy_let, 256, .inl f_let)), (h_nv, .inl (cy_nv, 8000, .inl f_nv)), (h_nn, .inl (cy_nn, 8000, .inr (.inl f_nn))), (h_na, .inl (cy_na, 8000, .inl f_na)), (h_nb, .inl (cy_nb, 8000, .inl f_nb)), (h_nc, .inl (cy_nc, 8000, .inl f_nc)), (h_isn, .inl (cy_isn, 192, .inl f_isn)), (h_tem, .inl (cy_tem, 192, .inl f_tem)), (h_out, .inl (cy_out, 1000, .inl f_out))] H := by rw [evq4]; exact hP
    replace hD : va_D A [(h_mm, .inr (8, (mo156 vq4 (.ref h_nv) (.ref h_nn) (.ref h_na) (.ref h_nb) (.ref h_nc) (.ref h_let) (.ref h_wri) (.int 0) (.int 900)))), (h_wri, .inl (cy_wri, 1000, .inl f_wri)), (h_let, .inl (cy_let, 256, .inl f_let)), (h_nv, .inl (cy_nv, 8000, .inl f_nv)), (h_nn, .inl (cy_nn, 8000, .inr (.inl f_nn))), (h_na, .inl (cy_na, 8000, .inl f_na)), (h_nb, .inl (cy_nb, 8000, .inl f_nb)), (h_nc, .inl (cy_nc, 8000, .inl f_nc)), (h_isn, .inl (cy_isn, 192, .inl f_isn)), (h_tem, .inl (cy_tem, 192, .inl f_tem)), (h_out, .inl (cy_out, 1000, .inl f_out))] := by rw [evq4]; exact hD
    have cstm1 : ((-1) : Int32).toInt = -1 := by decide
    have hPc := hP.sub (ws' := [(h_mm, .inr (8, (mo156 vq4 (.ref h_nv) (.ref h_nn) (.ref h_na) (.ref h_nb) (.ref h_nc) (.ref h_let) (.ref h_wri) (.int 0) (.int 900)))), (h_wri, .inl (cy_wri, 1000, .inl f_wri)), (h_let, .inl (cy_let, 256, .inl f_let)), (h_nv, .inl (cy_nv, 8000, .inl f_nv)), (h_nn, .inl (cy_nn, 8000, .inr (.inl f_nn))), (h_na, .inl (cy_na, 8000, .inl f_na)), (h_nb, .inl (cy_nb, 8000, .inl f_nb)), (h_nc, .inl (cy_nc, 8000, .inl f_nc))]) [0, 1, 2, 3, 4, 5, 6, 7] rfl
    have hDc := hD.sub (ws' := [(h_mm, .inr (8, (mo156 vq4 (.ref h_nv) (.ref h_nn) (.ref h_na) (.ref h_nb) (.ref h_nc) (.ref h_let) (.ref h_wri) (.int 0) (.int 900)))), (h_wri, .inl (cy_wri, 1000, .inl f_wri)), (h_let, .inl (cy_let, 256, .inl f_let)), (h_nv, .inl (cy_nv, 8000, .inl f_nv)), (h_nn, .inl (cy_nn, 8000, .inr (.inl f_nn))), (h_na, .inl (cy_na, 8000, .inl f_na)), (h_nb, .inl (cy_nb, 8000, .inl f_nb)), (h_nc, .inl (cy_nc, 8000, .inl f_nc))]) [0, 1, 2, 3, 4, 5, 6, 7] (by decide) rfl
    have hKc := hK.sub (tys' := [(cy_wri, .int), (cy_let, .int), (cy_nv, .int), (cy_nn, .long), (cy_na, .int), (cy_nb, .int), (cy_nc, .int)]) [0, 1, 2, 3, 4, 5, 6] rfl
    have hFc := va_free (wc := [(h_mm, .inr (8, (mo156 vq4 (.ref h_nv) (.ref h_nn) (.ref h_na) (.ref h_nb) (.ref h_nc) (.ref h_let) (.ref h_wri) (.int 0) (.int 900)))), (h_wri, .inl (cy_wri, 1000, .inl f_wri)), (h_let, .inl (cy_let, 256, .inl f_let)), (h_nv, .inl (cy_nv, 8000, .inl f_nv)), (h_nn, .inl (cy_nn, 8000, .inr (.inl f_nn))), (h_na, .inl (cy_na, 8000, .inl f_na)), (h_nb, .inl (cy_nb, 8000, .inl f_nb)), (h_nc, .inl (cy_nc, 8000, .inl f_nc))]) hD hS hA [0, 1, 2, 3, 4, 5, 6, 7] rfl
    refine va_callv (va_runV (As := [.int z3, .int (-1), .int p3]) (rest := []) ⟨hx, hb, hml, hown, hts⟩ (c_X11_saysTerm_0 l 8 dC dI H.size h_mm h_wri h_let h_nv h_nn h_na h_nb h_nc vq4 0 900 cy_wri f_wri cy_let f_let cy_nv f_nv cy_nn f_nn cy_na f_na cy_nb f_nb cy_nc f_nc z3 p3 N hz (by decide) (by decide) hf_nv hf_na hf_nb hf_nc (by omega) (by first | exact q1 | omega) (by first | exact q3 | omega) (by omega) hn_nds) (cwV 3 hts (gv hT w_m_X11_459 w_instanceMethod_X11_saysTerm ws_sel_X11_saysTerm w_ini_X11 w_code_X11_saysTerm) rfl rfl rfl (by decide +kernel) ⟨(Nat.le_of_ble_eq_true rfl), (Nat.le_of_ble_eq_true rfl)⟩) ⟨pre_blind, va_recv hK hP (ci := 8) (q0 := 0) rfl rfl, pre_of hPc hKc hDc hN⟩ rfl rfl hl.1 rfl (lv_room (Nat.le_of_ble_eq_true rfl)) dX11_shows_35 ⟨(Nat.le_of_ble_eq_true rfl), (Nat.le_of_ble_eq_true rfl)⟩) hS (fun q _ h => hFc q h) hFc (fun u t H locs ht hvm hq hB hz1 hk1 hS9 => ?_)
    obtain ⟨z6, f7⟩ := u
    obtain ⟨hP1, hD1⟩ := hB
    rw [ht] at hP1
    obtain ⟨hP9, hD9⟩ := va_join (wr := [(h_isn, .inl (cy_isn, 192, .inl f_isn)), (h_tem, .inl (cy_tem, 192, .inl f_tem)), (h_out, .inl (cy_out, 1000, .inl f_out))]) (w1 := [(h_mm, .inr (8, (mo156 vq4 (.ref h_nv) (.ref h_nn) (.ref h_na) (.ref h_nb) (.ref h_nc) (.ref h_let) (.ref h_wri) (.int z6) (.int 900)))), (h_wri, .inl (cy_wri, 1000, .inl f7)), (h_let, .inl (cy_let, 256, .inl f_let)), (h_nv, .inl (cy_nv, 8000, .inl f_nv)), (h_nn, .inl (cy_nn, 8000, .inr (.inl f_nn))), (h_na, .inl (cy_na, 8000, .inl f_na)), (h_nb, .inl (cy_nb, 8000, .inl f_nb)), (h_nc, .inl (cy_nc, 8000, .inl f_nc))]) hP hD [0, 1, 2, 3, 4, 5, 6, 7] [8, 9, 10] rfl rfl (by decide) (by decide) hk1 hFc hP1 hD1
    clear hP hD hS hPc hDc hKc hFc hP1 hD1 hk1 hz1 ht hvm
    have hP : va_P (dC, dI) cls [(h_isn, .inl (cy_isn, 192, .inl f_isn)), (h_tem, .inl (cy_tem, 192, .inl f_tem)), (h_out, .inl (cy_out, 1000, .inl f_out)), (h_mm, .inr (8, (mo156 vq4 (.ref h_nv) (.ref h_nn) (.ref h_na) (.ref h_nb) (.ref h_nc) (.ref h_let) (.ref h_wri) (.int z6) (.int 900)))), (h_wri, .inl (cy_wri, 1000, .inl f7)), (h_let, .inl (cy_let, 256, .inl f_let)), (h_nv, .inl (cy_nv, 8000, .inl f_nv)), (h_nn, .inl (cy_nn, 8000, .inr (.inl f_nn))), (h_na, .inl (cy_na, 8000, .inl f_na)), (h_nb, .inl (cy_nb, 8000, .inl f_nb)), (h_nc, .inl (cy_nc, 8000, .inl f_nc))] H := hP9
    have hD : va_D A [(h_isn, .inl (cy_isn, 192, .inl f_isn)), (h_tem, .inl (cy_tem, 192, .inl f_tem)), (h_out, .inl (cy_out, 1000, .inl f_out)), (h_mm, .inr (8, (mo156 vq4 (.ref h_nv) (.ref h_nn) (.ref h_na) (.ref h_nb) (.ref h_nc) (.ref h_let) (.ref h_wri) (.int z6) (.int 900)))), (h_wri, .inl (cy_wri, 1000, .inl f7)), (h_let, .inl (cy_let, 256, .inl f_let)), (h_nv, .inl (cy_nv, 8000, .inl f_nv)), (h_nn, .inl (cy_nn, 8000, .inr (.inl f_nn))), (h_na, .inl (cy_na, 8000, .inl f_na)), (h_nb, .inl (cy_nb, 8000, .inl f_nb)), (h_nc, .inl (cy_nc, 8000, .inl f_nc))] := hD9
    have hS := hS9
    clear hP9 hD9 hS9
    rw [evq4] at hP hD
    replace hP : va_P (dC, dI) cls [(h_isn, .inl (cy_isn, 192, .inl f_isn)), (h_tem, .inl (cy_tem, 192, .inl f_tem)), (h_out, .inl (cy_out, 1000, .inl f_out)), (h_mm, .inr (8, (mo158 v_mm (.ref h_nv) (.ref h_nn) (.ref h_na) (.ref h_nb) (.ref h_nc) (.ref h_let) (.ref h_isn) (.ref h_tem) (.ref h_out) (.int x_mm_outs) (.ref h_wri) (.int z6) (.int 900)))), (h_wri, .inl (cy_wri, 1000, .inl f7)), (h_let, .inl (cy_let, 256, .inl f_let)), (h_nv, .inl (cy_nv, 8000, .inl f_nv)), (h_nn, .inl (cy_nn, 8000, .inr (.inl f_nn))), (h_na, .inl (cy_na, 8000, .inl f_na)), (h_nb, .inl (cy_nb, 8000, .inl f_nb)), (h_nc, .inl (cy_nc, 8000, .inl f_nc))] H := hP
    replace hD : va_D A [(h_isn, .inl (cy_isn, 192, .inl f_isn)), (h_tem, .inl (cy_tem, 192, .inl f_tem)), (h_out, .inl (cy_out, 1000, .inl f_out)), (h_mm, .inr (8, (mo158 v_mm (.ref h_nv) (.ref h_nn) (.ref h_na) (.ref h_nb) (.ref h_nc) (.ref h_let) (.ref h_isn) (.ref h_tem) (.ref h_out) (.int x_mm_outs) (.ref h_wri) (.int z6) (.int 900)))), (h_wri, .inl (cy_wri, 1000, .inl f7)), (h_let, .inl (cy_let, 256, .inl f_let)), (h_nv, .inl (cy_nv, 8000, .inl f_nv)), (h_nn, .inl (cy_nn, 8000, .inr (.inl f_nn))), (h_na, .inl (cy_na, 8000, .inl f_na)), (h_nb, .inl (cy_nb, 8000, .inl f_nb)), (h_nc, .inl (cy_nc, 8000, .inl f_nc))] := hD
    clear evq4 
    have k8 : 0 ≤ ((z6)).toInt ∧ ((z6)).toInt ≤ 1000 := hq
    clear hq
    refine lv_aload_n hx hb dX11_shows_38 rfl (lv_at hl 0 rfl) ?_
    refine va_get (D := (dC, dI)) (ci := 8) (v := .int z6) (C := RX11) (T := TX11) (N := 71) hx hb hw iwX11 hown hK hP 3 rfl rfl 65 (by decide) (hw _ w_f_X11_443) (fun _ h9 => h9) rfl dX11_shows_39 ?_
    refine lv_iload hx hb dX11_shows_42 (lv_at hl 4 rfl) ?_
    refine lv_icmp_le (tgt := 49) hx hb dX11_shows_44 (by decide) (fun c9 => ?_) (fun c9 => ?_)
    · have kc9 := (cv_le (rfl : (z6).toInt = (z6).toInt) (by decide : (900 : Int32).toInt = 900)).mp c9
      refine lv_iconst (v := 0) hx hb dX11_shows_49 (by decide) ?_
      refine lv_istore (lv' := [(5, .int 0), (0, .ref h_mm), (1, .int p1), (2, .int (-1)), (3, .int p3), (4, .int 900)]) hx hb dX11_shows_50 hl (by decide) rfl (fun ls hl => ?_)
      have lp12 : ∀ (n : Nat) (x10 : Int32) (f11 : Nat → Int32) (H : Heap) (locs : List Loc) (ls : Array Slot), (0 ≤ (x10).toInt ∧ (x10).toInt ≤ 1000) → ((z6).toInt ≤ 900) → (1000 - (x10).toInt).toNat + 1 ≤ n → va_P (dC, dI) cls [(h_isn, .inl (cy_isn, 192, .inl f_isn)), (h_tem, .inl (cy_tem, 192, .inl f_tem)), (h_out, .inl (cy_out, 1000, .inl f11)), (h_mm, .inr (8, (mo158 v_mm (.ref h_nv) (.ref h_nn) (.ref h_na) (.ref h_nb) (.ref h_nc) (.ref h_let) (.ref h_isn) (.ref h_tem) (.ref h_out) (.int x_mm_outs) (.ref h_wri) (.int z6) (.int 900)))), (h_wri, .inl (cy_wri, 1000, .inl f7)), (h_let, .inl (cy_let, 256, .inl f_let)), (h_nv, .inl (cy_nv, 8000, .inl f_nv)), (h_nn, .inl (cy_nn, 8000, .inr (.inl f_nn))), (h_na, .inl (cy_na, 8000, .inl f_na)), (h_nb, .inl (cy_nb, 8000, .inl f_nb)), (h_nc, .inl (cy_nc, 8000, .inl f_nc))] H → va_D A [(h_isn, .inl (cy_isn, 192, .inl f_isn)), (h_tem, .inl (cy_tem, 192, .inl f_tem)), (h_out, .inl (cy_out, 1000, .inl f11)), (h_mm, .inr (8, (mo158 v_mm (.ref h_nv) (.ref h_nn) (.ref h_na) (.ref h_nb) (.ref h_nc) (.ref h_let) (.ref h_isn) (.ref h_tem) (.ref h_out) (.int x_mm_outs) (.ref h_wri) (.int z6) (.int 900)))), (h_wri, .inl (cy_wri, 1000, .inl f7)), (h_let, .inl (cy_let, 256, .inl f_let)), (h_nv, .inl (cy_nv, 8000, .inl f_nv)), (h_nn, .inl (cy_nn, 8000, .inr (.inl f_nn))), (h_na, .inl (cy_na, 8000, .inl f_na)), (h_nb, .inl (cy_nb, 8000, .inl f_nb)), (h_nc, .inl (cy_nc, 8000, .inl f_nc))] → va_S A s.heap H locs → lv_has ls 6 [(0, .ref h_mm), (1, .int p1), (2, .int (-1)), (3, .int p3), (4, .int 900), (5, .int x10)] → W p l e ({ frames := 24, cells := 0, slots := 0, locals := 563 } : Room) s m ([.ref h_mm, .int p1, .int (-1), .int p3, .int 900] : List Value).toArray below meth c H locs 0 0 (MQ below (va_Qi (fun (r : Int32) (u : (Int32) × (Int32) × (Int32) × (Nat → Int32) × (Nat → Int32)) => (0 ≤ (u.1).toInt ∧ (u.1).toInt ≤ 1000) ∧ (0 ≤ (u.2.1).toInt ∧ (u.2.1).toInt ≤ 1000) ∧ (0 ≤ (u.2.2.1).toInt ∧ (u.2.2.1).toInt ≤ 998)) (fun (u : (Int32) × (Int32) × (Int32) × (Nat → Int32) × (Nat → Int32)) (t : State) => va_P (dC, dI) cls [(h_mm, .inr (8, (mo158 v_mm (.ref h_nv) (.ref h_nn) (.ref h_na) (.ref h_nb) (.ref h_nc) (.ref h_let) (.ref h_isn) (.ref h_tem) (.ref h_out) (.int u.1) (.ref h_wri) (.int u.2.1) (.int u.2.2.1)))), (h_wri, .inl (cy_wri, 1000, .inl u.2.2.2.1)), (h_let, .inl (cy_let, 256, .inl f_let)), (h_nv, .inl (cy_nv, 8000, .inl f_nv)), (h_nn, .inl (cy_nn, 8000, .inr (.inl f_nn))), (h_na, .inl (cy_na, 8000, .inl f_na)), (h_nb, .inl (cy_nb, 8000, .inl f_nb)), (h_nc, .inl (cy_nc, 8000, .inl f_nc)), (h_isn, .inl (cy_isn, 192, .inl f_isn)), (h_tem, .inl (cy_tem, 192, .inl f_tem)), (h_out, .inl (cy_out, 1000, .inl u.2.2.2.2))] t.heap ∧ va_D A [(h_mm, .inr (8, (mo158 v_mm (.ref h_nv) (.ref h_nn) (.ref h_na) (.ref h_nb) (.ref h_nc) (.ref h_let) (.ref h_isn) (.ref h_tem) (.ref h_out) (.int u.1) (.ref h_wri) (.int u.2.1) (.int u.2.2.1)))), (h_wri, .inl (cy_wri, 1000, .inl u.2.2.2.1)), (h_let, .inl (cy_let, 256, .inl f_let)), (h_nv, .inl (cy_nv, 8000, .inl f_nv)), (h_nn, .inl (cy_nn, 8000, .inr (.inl f_nn))), (h_na, .inl (cy_na, 8000, .inl f_na)), (h_nb, .inl (cy_nb, 8000, .inl f_nb)), (h_nc, .inl (cy_nc, 8000, .inl f_nc)), (h_isn, .inl (cy_isn, 192, .inl f_isn)), (h_tem, .inl (cy_tem, 192, .inl f_tem)), (h_out, .inl (cy_out, 1000, .inl u.2.2.2.2))]) A) ([.ref h_mm, .int p1, .int (-1), .int p3, .int 900] : List Value).toArray s 0 0 A) (F0 m 52 ls []) := by
        clear hP hD hS hl
        intro n
        induction n with
        | zero => intro x10 f11 H locs ls klp12_0 klp12_1 hm hP hD hS hl; exact False.elim (by omega)
        | succ n ih => 
          intro x10 f11 H locs ls klp12_0 klp12_1 hm hP hD hS hl
          have ih13 := ih
          clear ih
          refine lv_iload hx hb dX11_shows_52 (lv_at hl 5 rfl) ?_
          refine lv_aload_n hx hb dX11_shows_54 rfl (lv_at hl 0 rfl) ?_
          refine va_get (D := (dC, dI)) (ci := 8) (v := .int z6) (C := RX11) (T := TX11) (N := 71) hx hb hw iwX11 hown hK hP 3 rfl rfl 65 (by decide) (hw _ w_f_X11_443) (fun _ h9 => h9) rfl dX11_shows_55 ?_
          refine lv_icmp_ge (tgt := 81) hx hb dX11_shows_58 (by decide) (fun c14 => ?_) (fun c14 => ?_)
          · have kc14 := (cv_le (rfl : (z6).toInt = (z6).toInt) (rfl : (x10).toInt = (x10).toInt)).mp c14
            refine lv_aload_n hx hb dX11_shows_81 rfl (lv_at hl 0 rfl) ?_
            refine lv_aload_n hx hb dX11_shows_82 rfl (lv_at hl 0 rfl) ?_
            refine va_get (D := (dC, dI)) (ci := 8) (v := .int z6) (C := RX11) (T := TX11) (N := 71) hx hb hw iwX11 hown hK hP 3 rfl rfl 65 (by decide) (hw _ w_f_X11_443) (fun _ h9 => h9) rfl dX11_shows_83 ?_
            refine va_put (D := (dC, dI)) (ci := 8) (v := .int z6) (ty := tyX11 63) (C := RX11) (T := TX11) (N := 71) hx hb hw iwX11 tyX11 tyX11_ok nmX11 hown hK hP hD hS 3 rfl rfl 63 (by decide) (hw _ w_f_X11_462) (fun _ h9 => h9) rfl (tyX11_ok 63 (by decide)) rfl rfl (Nat.le_of_ble_eq_true rfl) dX11_shows_86 (fun H locs hP9 hD9 hS9 => ?_)
            clear hP hD hS
            have hP : va_P (dC, dI) cls [(h_isn, .inl (cy_isn, 192, .inl f_isn)), (h_tem, .inl (cy_tem, 192, .inl f_tem)), (h_out, .inl (cy_out, 1000, .inl f11)), (h_mm, .inr (8, (mo158 v_mm (.ref h_nv) (.ref h_nn) (.ref h_na) (.ref h_nb) (.ref h_nc) (.ref h_let) (.ref h_isn) (.ref h_tem) (.ref h_out) (.int z6) (.ref h_wri) (.int z6) (.int 900)))), (h_wri, .inl (cy_wri, 1000, .inl f7)), (h_let, .inl (cy_let, 256, .inl f_let)), (h_nv, .inl (cy_nv, 8000, .inl f_nv)), (h_nn, .inl (cy_nn, 8000, .inr (.inl f_nn))), (h_na, .inl (cy_na, 8000, .inl f_na)), (h_nb, .inl (cy_nb, 8000, .inl f_nb)), (h_nc, .inl (cy_nc, 8000, .inl f_nc))] H := hP9
            have hD : va_D A [(h_isn, .inl (cy_isn, 192, .inl f_isn)), (h_tem, .inl (cy_tem, 192, .inl f_tem)), (h_out, .inl (cy_out, 1000, .inl f11)), (h_mm, .inr (8, (mo158 v_mm (.ref h_nv) (.ref h_nn) (.ref h_na) (.ref h_nb) (.ref h_nc) (.ref h_let) (.ref h_isn) (.ref h_tem) (.ref h_out) (.int z6) (.ref h_wri) (.int z6) (.int 900)))), (h_wri, .inl (cy_wri, 1000, .inl f7)), (h_let, .inl (cy_let, 256, .inl f_let)), (h_nv, .inl (cy_nv, 8000, .inl f_nv)), (h_nn, .inl (cy_nn, 8000, .inr (.inl f_nn))), (h_na, .inl (cy_na, 8000, .inl f_na)), (h_nb, .inl (cy_nb, 8000, .inl f_nb)), (h_nc, .inl (cy_nc, 8000, .inl f_nc))] := hD9
            have hS := hS9
            clear hP9 hD9 hS9
            refine lv_aload_n hx hb dX11_shows_89 rfl (lv_at hl 0 rfl) ?_
            refine va_get (D := (dC, dI)) (ci := 8) (v := .int z6) (C := RX11) (T := TX11) (N := 71) hx hb hw iwX11 hown hK hP 3 rfl rfl 63 (by decide) (hw _ w_f_X11_462) (fun _ h9 => h9) rfl dX11_shows_90 ?_
            replace hP : va_P (dC, dI) cls [(h_mm, .inr (8, (mo158 v_mm (.ref h_nv) (.ref h_nn) (.ref h_na) (.ref h_nb) (.ref h_nc) (.ref h_let) (.ref h_isn) (.ref h_tem) (.ref h_out) (.int z6) (.ref h_wri) (.int z6) (.int 900)))), (h_wri, .inl (cy_wri, 1000, .inl f7)), (h_let, .inl (cy_let, 256, .inl f_let)), (h_nv, .inl (cy_nv, 8000, .inl f_nv)), (h_nn, .inl (cy_nn, 8000, .inr (.inl f_nn))), (h_na, .inl (cy_na, 8000, .inl f_na)), (h_nb, .inl (cy_nb, 8000, .inl f_nb)), (h_nc, .inl (cy_nc, 8000, .inl f_nc)), (h_isn, .inl (cy_isn, 192, .inl f_isn)), (h_tem, .inl (cy_tem, 192, .inl f_tem)), (h_out, .inl (cy_out, 1000, .inl f11))] H := hP.sub [3, 4, 5, 6, 7, 8, 9, 10, 0, 1, 2] rfl
            replace hD : va_D A [(h_mm, .inr (8, (mo158 v_mm (.ref h_nv) (.ref h_nn) (.ref h_na) (.ref h_nb) (.ref h_nc) (.ref h_let) (.ref h_isn) (.ref h_tem) (.ref h_out) (.int z6) (.ref h_wri) (.int z6) (.int 900)))), (h_wri, .inl (cy_wri, 1000, .inl f7)), (h_let, .inl (cy_let, 256, .inl f_let)), (h_nv, .inl (cy_nv, 8000, .inl f_nv)), (h_nn, .inl (cy_nn, 8000, .inr (.inl f_nn))), (h_na, .inl (cy_na, 8000, .inl f_na)), (h_nb, .inl (cy_nb, 8000, .inl f_nb)), (h_nc, .inl (cy_nc, 8000, .inl f_nc)), (h_isn, .inl (cy_isn, 192, .inl f_isn)), (h_tem, .inl (cy_tem, 192, .inl f_tem)), (h_out, .inl (cy_out, 1000, .inl f11))] := hD.sub [3, 4, 5, 6, 7, 8, 9, 10, 0, 1, 2] (by decide) rfl
            refine W.widen (k := 0) (n := 0) (Nat.le_of_ble_eq_true rfl) (Nat.le_of_ble_eq_true rfl) ?_
            have cst900 : (900 : Int32).toInt = 900 := by decide
            have w15 : 0 ≤ ((z6)).toInt ∧ ((z6)).toInt ≤ 1000 := by first | exact k8 | omega
            have w16 : 0 ≤ ((z6)).toInt ∧ ((z6)).toInt ≤ 1000 := by first | exact k8 | omega
            have w17 : 0 ≤ ((900 : Int32)).toInt ∧ ((900 : Int32)).toInt ≤ 998 := by omega
            exact W.iret (v := z6) hx hb hr (fun t ht hW => ⟨⟨z6, (z6, z6, 900, f7, f11), rfl, ⟨w15, w16, w17⟩, by rw [ht]; exact hP, hD⟩, hS.F ht⟩) hS.2.2 dX11_shows_93
          · have kc14 := (not_congr (cv_le (rfl : (z6).toInt = (z6).toInt) (rfl : (x10).toInt = (x10).toInt))).mp c14
            refine lv_aload_n hx hb dX11_shows_61 rfl (lv_at hl 0 rfl) ?_
            refine va_get (D := (dC, dI)) (ci := 8) (v := .ref h_out) (C := RX11) (T := TX11) (N := 71) hx hb hw iwX11 hown hK hP 3 rfl rfl 62 (by decide) (hw _ w_f_X11_243) (fun _ h9 => h9) rfl dX11_shows_62 ?_
            refine lv_iload hx hb dX11_shows_65 (lv_at hl 5 rfl) ?_
            refine lv_aload_n hx hb dX11_shows_67 rfl (lv_at hl 0 rfl) ?_
            refine va_get (D := (dC, dI)) (ci := 8) (v := .ref h_wri) (C := RX11) (T := TX11) (N := 71) hx hb hw iwX11 hown hK hP 3 rfl rfl 64 (by decide) (hw _ w_f_X11_246) (fun _ h9 => h9) rfl dX11_shows_68 ?_
            refine lv_iload hx hb dX11_shows_71 (lv_at hl 5 rfl) ?_
            refine va_iald hx hb hK hP 4 0 rfl rfl (i := x10) (vp_in_iff.mpr (by omega)) dX11_shows_73 ?_
            refine lv_topi (fun z18 ez18 => ?_)
            refine va_iast hx hb hK hP hD hS 2 9 rfl rfl (i := x10) (x := z18) (vp_in_iff.mpr (by omega)) dX11_shows_74 (fun H locs hP9 hD9 hS9 => ?_)
            obtain ⟨f19, ef19⟩ : ∃ g : Nat → Int32, g = upd f11 (Int32.toNatClampNeg x10) z18 := ⟨_, rfl⟩
            clear hP hD hS
            have hP : va_P (dC, dI) cls [(h_isn, .inl (cy_isn, 192, .inl f_isn)), (h_tem, .inl (cy_tem, 192, .inl f_tem)), (h_out, .inl (cy_out, 1000, .inl f19)), (h_mm, .inr (8, (mo158 v_mm (.ref h_nv) (.ref h_nn) (.ref h_na) (.ref h_nb) (.ref h_nc) (.ref h_let) (.ref h_isn) (.ref h_tem) (.ref h_out) (.int x_mm_outs) (.ref h_wri) (.int z6) (.int 900)))), (h_wri, .inl (cy_wri, 1000, .inl f7)), (h_let, .inl (cy_let, 256, .inl f_let)), (h_nv, .inl (cy_nv, 8000, .inl f_nv)), (h_nn, .inl (cy_nn, 8000, .inr (.inl f_nn))), (h_na, .inl (cy_na, 8000, .inl f_na)), (h_nb, .inl (cy_nb, 8000, .inl f_nb)), (h_nc, .inl (cy_nc, 8000, .inl f_nc))] H := by rw [ef19]; exact hP9
            have hD : va_D A [(h_isn, .inl (cy_isn, 192, .inl f_isn)), (h_tem, .inl (cy_tem, 192, .inl f_tem)), (h_out, .inl (cy_out, 1000, .inl f19)), (h_mm, .inr (8, (mo158 v_mm (.ref h_nv) (.ref h_nn) (.ref h_na) (.ref h_nb) (.ref h_nc) (.ref h_let) (.ref h_isn) (.ref h_tem) (.ref h_out) (.int x_mm_outs) (.ref h_wri) (.int z6) (.int 900)))), (h_wri, .inl (cy_wri, 1000, .inl f7)), (h_let, .inl (cy_let, 256, .inl f_let)), (h_nv, .inl (cy_nv, 8000, .inl f_nv)), (h_nn, .inl (cy_nn, 8000, .inr (.inl f_nn))), (h_na, .inl (cy_na, 8000, .inl f_na)), (h_nb, .inl (cy_nb, 8000, .inl f_nb)), (h_nc, .inl (cy_nc, 8000, .inl f_nc))] := by rw [ef19]; exact hD9
            have hS := hS9
            clear hP9 hD9 hS9
            clear ef19
            obtain ⟨z20, ez20⟩ : ∃ y : Int32, y = x10 + 1 := ⟨_, rfl⟩
            have tz20 : (z20).toInt = (x10).toInt + 1 := by rw [ez20]; exact i_add rfl (by decide) (by omega)
            refine lv_iinc (v := z20) (lv' := [(5, .int z20), (0, .ref h_mm), (1, .int p1), (2, .int (-1)), (3, .int p3), (4, .int 900)]) hx hb dX11_shows_75 hl (k := 5) rfl (by rw [ez20]; rfl) (by decide) rfl (fun ls hl => ?_)
            refine lv_goto (tgt := 52) hx hb dX11_shows_78 (by decide) ?_
            exact ih13 (z20) (f19) _ _ _ (by omega) (by first | exact klp12_1 | omega) (by omega) hP hD hS (lv_sub hl [1, 2, 3, 4, 5, 0] rfl)
      have cst0 : (0 : Int32).toInt = 0 := by decide
      exact lp12 _ (0) (f_out) _ _ _ (by decide) (by omega) (Nat.le_refl _) hP hD hS (lv_sub hl [1, 2, 3, 4, 5, 0] rfl)
    · have kc9 := (not_congr (cv_le (rfl : (z6).toInt = (z6).toInt) (by decide : (900 : Int32).toInt = 900))).mp c9
      refine lv_iconst (v := (-1)) hx hb dX11_shows_47 (by decide) ?_
      replace hP : va_P (dC, dI) cls [(h_mm, .inr (8, (mo158 v_mm (.ref h_nv) (.ref h_nn) (.ref h_na) (.ref h_nb) (.ref h_nc) (.ref h_let) (.ref h_isn) (.ref h_tem) (.ref h_out) (.int x_mm_outs) (.ref h_wri) (.int z6) (.int 900)))), (h_wri, .inl (cy_wri, 1000, .inl f7)), (h_let, .inl (cy_let, 256, .inl f_let)), (h_nv, .inl (cy_nv, 8000, .inl f_nv)), (h_nn, .inl (cy_nn, 8000, .inr (.inl f_nn))), (h_na, .inl (cy_na, 8000, .inl f_na)), (h_nb, .inl (cy_nb, 8000, .inl f_nb)), (h_nc, .inl (cy_nc, 8000, .inl f_nc)), (h_isn, .inl (cy_isn, 192, .inl f_isn)), (h_tem, .inl (cy_tem, 192, .inl f_tem)), (h_out, .inl (cy_out, 1000, .inl f_out))] H := hP.sub [3, 4, 5, 6, 7, 8, 9, 10, 0, 1, 2] rfl
      replace hD : va_D A [(h_mm, .inr (8, (mo158 v_mm (.ref h_nv) (.ref h_nn) (.ref h_na) (.ref h_nb) (.ref h_nc) (.ref h_let) (.ref h_isn) (.ref h_tem) (.ref h_out) (.int x_mm_outs) (.ref h_wri) (.int z6) (.int 900)))), (h_wri, .inl (cy_wri, 1000, .inl f7)), (h_let, .inl (cy_let, 256, .inl f_let)), (h_nv, .inl (cy_nv, 8000, .inl f_nv)), (h_nn, .inl (cy_nn, 8000, .inr (.inl f_nn))), (h_na, .inl (cy_na, 8000, .inl f_na)), (h_nb, .inl (cy_nb, 8000, .inl f_nb)), (h_nc, .inl (cy_nc, 8000, .inl f_nc)), (h_isn, .inl (cy_isn, 192, .inl f_isn)), (h_tem, .inl (cy_tem, 192, .inl f_tem)), (h_out, .inl (cy_out, 1000, .inl f_out))] := hD.sub [3, 4, 5, 6, 7, 8, 9, 10, 0, 1, 2] (by decide) rfl
      refine W.widen (k := 0) (n := 0) (Nat.le_of_ble_eq_true rfl) (Nat.le_of_ble_eq_true rfl) ?_
      have cstm1 : ((-1) : Int32).toInt = -1 := by decide
      have cst900 : (900 : Int32).toInt = 900 := by decide
      have w21 : 0 ≤ ((x_mm_outs)).toInt ∧ ((x_mm_outs)).toInt ≤ 1000 := by first | exact hx_mm_outs | omega
      have w22 : 0 ≤ ((z6)).toInt ∧ ((z6)).toInt ≤ 1000 := by first | exact k8 | omega
      have w23 : 0 ≤ ((900 : Int32)).toInt ∧ ((900 : Int32)).toInt ≤ 998 := by omega
      exact W.iret (v := (-1)) hx hb hr (fun t ht hW => ⟨⟨(-1), (x_mm_outs, z6, 900, f7, f_out), rfl, ⟨w21, w22, w23⟩, by rw [ht]; exact hP, hD⟩, hS.F ht⟩) hS.2.2 dX11_shows_48
  · have kc2 := (not_congr (cv_eq (rfl : (z1).toInt = (z1).toInt) (by decide : (0 : Int32).toInt = 0))).mp c2
    refine lv_aload_n hx hb dX11_shows_20 rfl (lv_at hl 0 rfl) ?_
    refine lv_bipush (v := 45) hx hb dX11_shows_21 (by decide) ?_
    obtain ⟨vq24, evq24⟩ := mq158_118 v_mm (.ref h_nv) (.ref h_nn) (.ref h_na) (.ref h_nb) (.ref h_nc) (.ref h_let) (.ref h_isn) (.ref h_tem) (.ref h_out) (.int x_mm_outs)
    replace hP : va_P (dC, dI) cls [(h_mm, .inr (8, (mo118 vq24 (.ref h_wri) (.int 0) (.int 900)))), (h_wri, .inl (cy_wri, 1000, .inl f_wri)), (h_let, .inl (cy_let, 256, .inl f_let)), (h_nv, .inl (cy_nv, 8000, .inl f_nv)), (h_nn, .inl (cy_nn, 8000, .inr (.inl f_nn))), (h_na, .inl (cy_na, 8000, .inl f_na)), (h_nb, .inl (cy_nb, 8000, .inl f_nb)), (h_nc, .inl (cy_nc, 8000, .inl f_nc)), (h_isn, .inl (cy_isn, 192, .inl f_isn)), (h_tem, .inl (cy_tem, 192, .inl f_tem)), (h_out, .inl (cy_out, 1000, .inl f_out))] H := by rw [evq24]; exact hP
    replace hD : va_D A [(h_mm, .inr (8, (mo118 vq24 (.ref h_wri) (.int 0) (.int 900)))), (h_wri, .inl (cy_wri, 1000, .inl f_wri)), (h_let, .inl (cy_let, 256, .inl f_let)), (h_nv, .inl (cy_nv, 8000, .inl f_nv)), (h_nn, .inl (cy_nn, 8000, .inr (.inl f_nn))), (h_na, .inl (cy_na, 8000, .inl f_na)), (h_nb, .inl (cy_nb, 8000, .inl f_nb)), (h_nc, .inl (cy_nc, 8000, .inl f_nc)), (h_isn, .inl (cy_isn, 192, .inl f_isn)), (h_tem, .inl (cy_tem, 192, .inl f_tem)), (h_out, .inl (cy_out, 1000, .inl f_out))] := by rw [evq24]; exact hD
    have cst45 : (45 : Int32).toInt = 45 := by decide
    have hPc := hP.sub (ws' := [(h_mm, .inr (8, (mo118 vq24 (.ref h_wri) (.int 0) (.int 900)))), (h_wri, .inl (cy_wri, 1000, .inl f_wri))]) [0, 1] rfl
    have hDc := hD.sub (ws' := [(h_mm, .inr (8, (mo118 vq24 (.ref h_wri) (.int 0) (.int 900)))), (h_wri, .inl (cy_wri, 1000, .inl f_wri))]) [0, 1] (by decide) rfl
    have hKc := hK.sub (tys' := [(cy_wri, .int)]) [0] rfl
    have hFc := va_free (wc := [(h_mm, .inr (8, (mo118 vq24 (.ref h_wri) (.int 0) (.int 900)))), (h_wri, .inl (cy_wri, 1000, .inl f_wri))]) hD hS hA [0, 1] rfl
    refine va_callv (va_runV (As := [.int 45]) (rest := []) ⟨hx, hb, hml, hown, hts⟩ (c_X11_says l dC dI H.size h_mm h_wri vq24 0 900 cy_wri f_wri 45 (by decide) (by decide)) (cwV 1 hts (gv hT w_m_X11_452 w_instanceMethod_X11_says ws_sel_X11_says w_ini_X11 w_code_X11_says) rfl rfl rfl (by decide +kernel) ⟨(Nat.le_of_ble_eq_true rfl), (Nat.le_of_ble_eq_true rfl)⟩) ⟨pre_blind, va_recv hK hP (ci := 8) (q0 := 0) rfl rfl, pre_of hPc hKc hDc hN⟩ rfl rfl hl.1 rfl (lv_room (Nat.le_of_ble_eq_true rfl)) dX11_shows_23 ⟨(Nat.le_of_ble_eq_true rfl), (Nat.le_of_ble_eq_true rfl)⟩) hS (fun q _ h => hFc q h) hFc (fun u t H locs ht hvm hq hB hz1 hk1 hS9 => ?_)
    obtain ⟨z26, f27⟩ := u
    obtain ⟨hP1, hD1⟩ := hB
    rw [ht] at hP1
    obtain ⟨hP9, hD9⟩ := va_join (wr := [(h_let, .inl (cy_let, 256, .inl f_let)), (h_nv, .inl (cy_nv, 8000, .inl f_nv)), (h_nn, .inl (cy_nn, 8000, .inr (.inl f_nn))), (h_na, .inl (cy_na, 8000, .inl f_na)), (h_nb, .inl (cy_nb, 8000, .inl f_nb)), (h_nc, .inl (cy_nc, 8000, .inl f_nc)), (h_isn, .inl (cy_isn, 192, .inl f_isn)), (h_tem, .inl (cy_tem, 192, .inl f_tem)), (h_out, .inl (cy_out, 1000, .inl f_out))]) (w1 := [(h_mm, .inr (8, (mo118 vq24 (.ref h_wri) (.int z26) (.int 900)))), (h_wri, .inl (cy_wri, 1000, .inl f27))]) hP hD [0, 1] [2, 3, 4, 5, 6, 7, 8, 9, 10] rfl rfl (by decide) (by decide) hk1 hFc hP1 hD1
    clear hP hD hS hPc hDc hKc hFc hP1 hD1 hk1 hz1 ht hvm
    have hP : va_P (dC, dI) cls [(h_let, .inl (cy_let, 256, .inl f_let)), (h_nv, .inl (cy_nv, 8000, .inl f_nv)), (h_nn, .inl (cy_nn, 8000, .inr (.inl f_nn))), (h_na, .inl (cy_na, 8000, .inl f_na)), (h_nb, .inl (cy_nb, 8000, .inl f_nb)), (h_nc, .inl (cy_nc, 8000, .inl f_nc)), (h_isn, .inl (cy_isn, 192, .inl f_isn)), (h_tem, .inl (cy_tem, 192, .inl f_tem)), (h_out, .inl (cy_out, 1000, .inl f_out)), (h_mm, .inr (8, (mo118 vq24 (.ref h_wri) (.int z26) (.int 900)))), (h_wri, .inl (cy_wri, 1000, .inl f27))] H := hP9
    have hD : va_D A [(h_let, .inl (cy_let, 256, .inl f_let)), (h_nv, .inl (cy_nv, 8000, .inl f_nv)), (h_nn, .inl (cy_nn, 8000, .inr (.inl f_nn))), (h_na, .inl (cy_na, 8000, .inl f_na)), (h_nb, .inl (cy_nb, 8000, .inl f_nb)), (h_nc, .inl (cy_nc, 8000, .inl f_nc)), (h_isn, .inl (cy_isn, 192, .inl f_isn)), (h_tem, .inl (cy_tem, 192, .inl f_tem)), (h_out, .inl (cy_out, 1000, .inl f_out)), (h_mm, .inr (8, (mo118 vq24 (.ref h_wri) (.int z26) (.int 900)))), (h_wri, .inl (cy_wri, 1000, .inl f27))] := hD9
    have hS := hS9
    clear hP9 hD9 hS9
    rw [evq24] at hP hD
    replace hP : va_P (dC, dI) cls [(h_let, .inl (cy_let, 256, .inl f_let)), (h_nv, .inl (cy_nv, 8000, .inl f_nv)), (h_nn, .inl (cy_nn, 8000, .inr (.inl f_nn))), (h_na, .inl (cy_na, 8000, .inl f_na)), (h_nb, .inl (cy_nb, 8000, .inl f_nb)), (h_nc, .inl (cy_nc, 8000, .inl f_nc)), (h_isn, .inl (cy_isn, 192, .inl f_isn)), (h_tem, .inl (cy_tem, 192, .inl f_tem)), (h_out, .inl (cy_out, 1000, .inl f_out)), (h_mm, .inr (8, (mo158 v_mm (.ref h_nv) (.ref h_nn) (.ref h_na) (.ref h_nb) (.ref h_nc) (.ref h_let) (.ref h_isn) (.ref h_tem) (.ref h_out) (.int x_mm_outs) (.ref h_wri) (.int z26) (.int 900)))), (h_wri, .inl (cy_wri, 1000, .inl f27))] H := hP
    replace hD : va_D A [(h_let, .inl (cy_let, 256, .inl f_let)), (h_nv, .inl (cy_nv, 8000, .inl f_nv)), (h_nn, .inl (cy_nn, 8000, .inr (.inl f_nn))), (h_na, .inl (cy_na, 8000, .inl f_na)), (h_nb, .inl (cy_nb, 8000, .inl f_nb)), (h_nc, .inl (cy_nc, 8000, .inl f_nc)), (h_isn, .inl (cy_isn, 192, .inl f_isn)), (h_tem, .inl (cy_tem, 192, .inl f_tem)), (h_out, .inl (cy_out, 1000, .inl f_out)), (h_mm, .inr (8, (mo158 v_mm (.ref h_nv) (.ref h_nn) (.ref h_na) (.ref h_nb) (.ref h_nc) (.ref h_let) (.ref h_isn) (.ref h_tem) (.ref h_out) (.int x_mm_outs) (.ref h_wri) (.int z26) (.int 900)))), (h_wri, .inl (cy_wri, 1000, .inl f27))] := hD
    clear evq24 
    obtain ⟨k28, k29⟩ := hq
    replace k28 : 0 ≤ ((z26)).toInt ∧ ((z26)).toInt ≤ 1000 := k28
    replace k29 : ((0 : Int32)).toInt ≤ ((z26)).toInt := k29
    refine lv_aload_n hx hb dX11_shows_26 rfl (lv_at hl 0 rfl) ?_
    refine lv_aload_n hx hb dX11_shows_27 rfl (lv_at hl 0 rfl) ?_
    refine va_get (D := (dC, dI)) (ci := 8) (v := .ref h_tem) (C := RX11) (T := TX11) (N := 71) hx hb hw iwX11 hown hK hP 9 rfl rfl 12 (by decide) (hw _ w_f_X11_152) (fun _ h9 => h9) rfl dX11_shows_28 ?_
    refine lv_iload_n hx hb dX11_shows_31 rfl (lv_at hl 1 rfl) ?_
    refine va_iald hx hb hK hP 7 8 rfl rfl (i := p1) (vp_in_iff.mpr (by omega)) dX11_shows_32 ?_
    refine lv_topi (fun z30 ez30 => ?_)
    have rz30 : 0 ≤ (z30).toInt ∧ (z30).toInt ≤ 7999 := by rw [ez30]; exact hf_tem _
    have tq9 : f_tem (p1).toInt.toNat = z30 := by rw [← clamp_nat (i := p1) (by omega), ← ez30]
    have tr9 : 0 ≤ (z30).toInt ∧ (z30).toInt < N ∧ hz (z30).toInt.toNat = 7 := by rw [← tq9]; omega
    refine lv_iload_n hx hb dX11_shows_33 rfl (lv_at hl 2 rfl) ?_
    refine lv_iload_n hx hb dX11_shows_34 rfl (lv_at hl 3 rfl) ?_
    obtain ⟨vq31, evq31⟩ := mq158_156 v_mm (.ref h_isn) (.ref h_tem) (.ref h_out) (.int x_mm_outs)
    replace hP : va_P (dC, dI) cls [(h_let, .inl (cy_let, 256, .inl f_let)), (h_nv, .inl (cy_nv, 8000, .inl f_nv)), (h_nn, .inl (cy_nn, 8000, .inr (.inl f_nn))), (h_na, .inl (cy_na, 8000, .inl f_na)), (h_nb, .inl (cy_nb, 8000, .inl f_nb)), (h_nc, .inl (cy_nc, 8000, .inl f_nc)), (h_isn, .inl (cy_isn, 192, .inl f_isn)), (h_tem, .inl (cy_tem, 192, .inl f_tem)), (h_out, .inl (cy_out, 1000, .inl f_out)), (h_mm, .inr (8, (mo156 vq31 (.ref h_nv) (.ref h_nn) (.ref h_na) (.ref h_nb) (.ref h_nc) (.ref h_let) (.ref h_wri) (.int z26) (.int 900)))), (h_wri, .inl (cy_wri, 1000, .inl f27))] H := by rw [evq31]; exact hP
    replace hD : va_D A [(h_let, .inl (cy_let, 256, .inl f_let)), (h_nv, .inl (cy_nv, 8000, .inl f_nv)), (h_nn, .inl (cy_nn, 8000, .inr (.inl f_nn))), (h_na, .inl (cy_na, 8000, .inl f_na)), (h_nb, .inl (cy_nb, 8000, .inl f_nb)), (h_nc, .inl (cy_nc, 8000, .inl f_nc)), (h_isn, .inl (cy_isn, 192, .inl f_isn)), (h_tem, .inl (cy_tem, 192, .inl f_tem)), (h_out, .inl (cy_out, 1000, .inl f_out)), (h_mm, .inr (8, (mo156 vq31 (.ref h_nv) (.ref h_nn) (.ref h_na) (.ref h_nb) (.ref h_nc) (.ref h_let) (.ref h_wri) (.int z26) (.int 900)))), (h_wri, .inl (cy_wri, 1000, .inl f27))] := by rw [evq31]; exact hD
    have cstm1 : ((-1) : Int32).toInt = -1 := by decide
    have hPc := hP.sub (ws' := [(h_mm, .inr (8, (mo156 vq31 (.ref h_nv) (.ref h_nn) (.ref h_na) (.ref h_nb) (.ref h_nc) (.ref h_let) (.ref h_wri) (.int z26) (.int 900)))), (h_wri, .inl (cy_wri, 1000, .inl f27)), (h_let, .inl (cy_let, 256, .inl f_let)), (h_nv, .inl (cy_nv, 8000, .inl f_nv)), (h_nn, .inl (cy_nn, 8000, .inr (.inl f_nn))), (h_na, .inl (cy_na, 8000, .inl f_na)), (h_nb, .inl (cy_nb, 8000, .inl f_nb)), (h_nc, .inl (cy_nc, 8000, .inl f_nc))]) [9, 10, 0, 1, 2, 3, 4, 5] rfl
    have hDc := hD.sub (ws' := [(h_mm, .inr (8, (mo156 vq31 (.ref h_nv) (.ref h_nn) (.ref h_na) (.ref h_nb) (.ref h_nc) (.ref h_let) (.ref h_wri) (.int z26) (.int 900)))), (h_wri, .inl (cy_wri, 1000, .inl f27)), (h_let, .inl (cy_let, 256, .inl f_let)), (h_nv, .inl (cy_nv, 8000, .inl f_nv)), (h_nn, .inl (cy_nn, 8000, .inr (.inl f_nn))), (h_na, .inl (cy_na, 8000, .inl f_na)), (h_nb, .inl (cy_nb, 8000, .inl f_nb)), (h_nc, .inl (cy_nc, 8000, .inl f_nc))]) [9, 10, 0, 1, 2, 3, 4, 5] (by decide) rfl
    have hKc := hK.sub (tys' := [(cy_wri, .int), (cy_let, .int), (cy_nv, .int), (cy_nn, .long), (cy_na, .int), (cy_nb, .int), (cy_nc, .int)]) [0, 1, 2, 3, 4, 5, 6] rfl
    have hFc := va_free (wc := [(h_mm, .inr (8, (mo156 vq31 (.ref h_nv) (.ref h_nn) (.ref h_na) (.ref h_nb) (.ref h_nc) (.ref h_let) (.ref h_wri) (.int z26) (.int 900)))), (h_wri, .inl (cy_wri, 1000, .inl f27)), (h_let, .inl (cy_let, 256, .inl f_let)), (h_nv, .inl (cy_nv, 8000, .inl f_nv)), (h_nn, .inl (cy_nn, 8000, .inr (.inl f_nn))), (h_na, .inl (cy_na, 8000, .inl f_na)), (h_nb, .inl (cy_nb, 8000, .inl f_nb)), (h_nc, .inl (cy_nc, 8000, .inl f_nc))]) hD hS hA [9, 10, 0, 1, 2, 3, 4, 5] rfl
    refine va_callv (va_runV (As := [.int z30, .int (-1), .int p3]) (rest := []) ⟨hx, hb, hml, hown, hts⟩ (c_X11_saysTerm_0 l 8 dC dI H.size h_mm h_wri h_let h_nv h_nn h_na h_nb h_nc vq31 z26 900 cy_wri f27 cy_let f_let cy_nv f_nv cy_nn f_nn cy_na f_na cy_nb f_nb cy_nc f_nc z30 p3 N hz (by first | exact k28 | omega) (by decide) hf_nv hf_na hf_nb hf_nc (by omega) (by first | exact q1 | omega) (by first | exact q3 | omega) (by omega) hn_nds) (cwV 3 hts (gv hT w_m_X11_459 w_instanceMethod_X11_saysTerm ws_sel_X11_saysTerm w_ini_X11 w_code_X11_saysTerm) rfl rfl rfl (by decide +kernel) ⟨(Nat.le_of_ble_eq_true rfl), (Nat.le_of_ble_eq_true rfl)⟩) ⟨pre_blind, va_recv hK hP (ci := 8) (q0 := 9) rfl rfl, pre_of hPc hKc hDc hN⟩ rfl rfl hl.1 rfl (lv_room (Nat.le_of_ble_eq_true rfl)) dX11_shows_35 ⟨(Nat.le_of_ble_eq_true rfl), (Nat.le_of_ble_eq_true rfl)⟩) hS (fun q _ h => hFc q h) hFc (fun u t H locs ht hvm hq hB hz1 hk1 hS9 => ?_)
    obtain ⟨z33, f34⟩ := u
    obtain ⟨hP1, hD1⟩ := hB
    rw [ht] at hP1
    obtain ⟨hP9, hD9⟩ := va_join (wr := [(h_isn, .inl (cy_isn, 192, .inl f_isn)), (h_tem, .inl (cy_tem, 192, .inl f_tem)), (h_out, .inl (cy_out, 1000, .inl f_out))]) (w1 := [(h_mm, .inr (8, (mo156 vq31 (.ref h_nv) (.ref h_nn) (.ref h_na) (.ref h_nb) (.ref h_nc) (.ref h_let) (.ref h_wri) (.int z33) (.int 900)))), (h_wri, .inl (cy_wri, 1000, .inl f34)), (h_let, .inl (cy_let, 256, .inl f_let)), (h_nv, .inl (cy_nv, 8000, .inl f_nv)), (h_nn, .inl (cy_nn, 8000, .inr (.inl f_nn))), (h_na, .inl (cy_na, 8000, .inl f_na)), (h_nb, .inl (cy_nb, 8000, .inl f_nb)), (h_nc, .inl (cy_nc, 8000, .inl f_nc))]) hP hD [9, 10, 0, 1, 2, 3, 4, 5] [6, 7, 8] rfl rfl (by decide) (by decide) hk1 hFc hP1 hD1
    clear hP hD hS hPc hDc hKc hFc hP1 hD1 hk1 hz1 ht hvm
    have hP : va_P (dC, dI) cls [(h_isn, .inl (cy_isn, 192, .inl f_isn)), (h_tem, .inl (cy_tem, 192, .inl f_tem)), (h_out, .inl (cy_out, 1000, .inl f_out)), (h_mm, .inr (8, (mo156 vq31 (.ref h_nv) (.ref h_nn) (.ref h_na) (.ref h_nb) (.ref h_nc) (.ref h_let) (.ref h_wri) (.int z33) (.int 900)))), (h_wri, .inl (cy_wri, 1000, .inl f34)), (h_let, .inl (cy_let, 256, .inl f_let)), (h_nv, .inl (cy_nv, 8000, .inl f_nv)), (h_nn, .inl (cy_nn, 8000, .inr (.inl f_nn))), (h_na, .inl (cy_na, 8000, .inl f_na)), (h_nb, .inl (cy_nb, 8000, .inl f_nb)), (h_nc, .inl (cy_nc, 8000, .inl f_nc))] H := hP9
    have hD : va_D A [(h_isn, .inl (cy_isn, 192, .inl f_isn)), (h_tem, .inl (cy_tem, 192, .inl f_tem)), (h_out, .inl (cy_out, 1000, .inl f_out)), (h_mm, .inr (8, (mo156 vq31 (.ref h_nv) (.ref h_nn) (.ref h_na) (.ref h_nb) (.ref h_nc) (.ref h_let) (.ref h_wri) (.int z33) (.int 900)))), (h_wri, .inl (cy_wri, 1000, .inl f34)), (h_let, .inl (cy_let, 256, .inl f_let)), (h_nv, .inl (cy_nv, 8000, .inl f_nv)), (h_nn, .inl (cy_nn, 8000, .inr (.inl f_nn))), (h_na, .inl (cy_na, 8000, .inl f_na)), (h_nb, .inl (cy_nb, 8000, .inl f_nb)), (h_nc, .inl (cy_nc, 8000, .inl f_nc))] := hD9
    have hS := hS9
    clear hP9 hD9 hS9
    rw [evq31] at hP hD
    replace hP : va_P (dC, dI) cls [(h_isn, .inl (cy_isn, 192, .inl f_isn)), (h_tem, .inl (cy_tem, 192, .inl f_tem)), (h_out, .inl (cy_out, 1000, .inl f_out)), (h_mm, .inr (8, (mo158 v_mm (.ref h_nv) (.ref h_nn) (.ref h_na) (.ref h_nb) (.ref h_nc) (.ref h_let) (.ref h_isn) (.ref h_tem) (.ref h_out) (.int x_mm_outs) (.ref h_wri) (.int z33) (.int 900)))), (h_wri, .inl (cy_wri, 1000, .inl f34)), (h_let, .inl (cy_let, 256, .inl f_let)), (h_nv, .inl (cy_nv, 8000, .inl f_nv)), (h_nn, .inl (cy_nn, 8000, .inr (.inl f_nn))), (h_na, .inl (cy_na, 8000, .inl f_na)), (h_nb, .inl (cy_nb, 8000, .inl f_nb)), (h_nc, .inl (cy_nc, 8000, .inl f_nc))] H := hP
    replace hD : va_D A [(h_isn, .inl (cy_isn, 192, .inl f_isn)), (h_tem, .inl (cy_tem, 192, .inl f_tem)), (h_out, .inl (cy_out, 1000, .inl f_out)), (h_mm, .inr (8, (mo158 v_mm (.ref h_nv) (.ref h_nn) (.ref h_na) (.ref h_nb) (.ref h_nc) (.ref h_let) (.ref h_isn) (.ref h_tem) (.ref h_out) (.int x_mm_outs) (.ref h_wri) (.int z33) (.int 900)))), (h_wri, .inl (cy_wri, 1000, .inl f34)), (h_let, .inl (cy_let, 256, .inl f_let)), (h_nv, .inl (cy_nv, 8000, .inl f_nv)), (h_nn, .inl (cy_nn, 8000, .inr (.inl f_nn))), (h_na, .inl (cy_na, 8000, .inl f_na)), (h_nb, .inl (cy_nb, 8000, .inl f_nb)), (h_nc, .inl (cy_nc, 8000, .inl f_nc))] := hD
    clear evq31 
    have k35 : 0 ≤ ((z33)).toInt ∧ ((z33)).toInt ≤ 1000 := hq
    clear hq
    refine lv_aload_n hx hb dX11_shows_38 rfl (lv_at hl 0 rfl) ?_
    refine va_get (D := (dC, dI)) (ci := 8) (v := .int z33) (C := RX11) (T := TX11) (N := 71) hx hb hw iwX11 hown hK hP 3 rfl rfl 65 (by decide) (hw _ w_f_X11_443) (fun _ h9 => h9) rfl dX11_shows_39 ?_
    refine lv_iload hx hb dX11_shows_42 (lv_at hl 4 rfl) ?_
    refine lv_icmp_le (tgt := 49) hx hb dX11_shows_44 (by decide) (fun c36 => ?_) (fun c36 => ?_)
    · have kc36 := (cv_le (rfl : (z33).toInt = (z33).toInt) (by decide : (900 : Int32).toInt = 900)).mp c36
      refine lv_iconst (v := 0) hx hb dX11_shows_49 (by decide) ?_
      refine lv_istore (lv' := [(5, .int 0), (0, .ref h_mm), (1, .int p1), (2, .int (-1)), (3, .int p3), (4, .int 900)]) hx hb dX11_shows_50 hl (by decide) rfl (fun ls hl => ?_)
      have lp39 : ∀ (n : Nat) (x37 : Int32) (f38 : Nat → Int32) (H : Heap) (locs : List Loc) (ls : Array Slot), (0 ≤ (x37).toInt ∧ (x37).toInt ≤ 1000) → ((z33).toInt ≤ 900) → (1000 - (x37).toInt).toNat + 1 ≤ n → va_P (dC, dI) cls [(h_isn, .inl (cy_isn, 192, .inl f_isn)), (h_tem, .inl (cy_tem, 192, .inl f_tem)), (h_out, .inl (cy_out, 1000, .inl f38)), (h_mm, .inr (8, (mo158 v_mm (.ref h_nv) (.ref h_nn) (.ref h_na) (.ref h_nb) (.ref h_nc) (.ref h_let) (.ref h_isn) (.ref h_tem) (.ref h_out) (.int x_mm_outs) (.ref h_wri) (.int z33) (.int 900)))), (h_wri, .inl (cy_wri, 1000, .inl f34)), (h_let, .inl (cy_let, 256, .inl f_let)), (h_nv, .inl (cy_nv, 8000, .inl f_nv)), (h_nn, .inl (cy_nn, 8000, .inr (.inl f_nn))), (h_na, .inl (cy_na, 8000, .inl f_na)), (h_nb, .inl (cy_nb, 8000, .inl f_nb)), (h_nc, .inl (cy_nc, 8000, .inl f_nc))] H → va_D A [(h_isn, .inl (cy_isn, 192, .inl f_isn)), (h_tem, .inl (cy_tem, 192, .inl f_tem)), (h_out, .inl (cy_out, 1000, .inl f38)), (h_mm, .inr (8, (mo158 v_mm (.ref h_nv) (.ref h_nn) (.ref h_na) (.ref h_nb) (.ref h_nc) (.ref h_let) (.ref h_isn) (.ref h_tem) (.ref h_out) (.int x_mm_outs) (.ref h_wri) (.int z33) (.int 900)))), (h_wri, .inl (cy_wri, 1000, .inl f34)), (h_let, .inl (cy_let, 256, .inl f_let)), (h_nv, .inl (cy_nv, 8000, .inl f_nv)), (h_nn, .inl (cy_nn, 8000, .inr (.inl f_nn))), (h_na, .inl (cy_na, 8000, .inl f_na)), (h_nb, .inl (cy_nb, 8000, .inl f_nb)), (h_nc, .inl (cy_nc, 8000, .inl f_nc))] → va_S A s.heap H locs → lv_has ls 6 [(0, .ref h_mm), (1, .int p1), (2, .int (-1)), (3, .int p3), (4, .int 900), (5, .int x37)] → W p l e ({ frames := 24, cells := 0, slots := 0, locals := 563 } : Room) s m ([.ref h_mm, .int p1, .int (-1), .int p3, .int 900] : List Value).toArray below meth c H locs 0 0 (MQ below (va_Qi (fun (r : Int32) (u : (Int32) × (Int32) × (Int32) × (Nat → Int32) × (Nat → Int32)) => (0 ≤ (u.1).toInt ∧ (u.1).toInt ≤ 1000) ∧ (0 ≤ (u.2.1).toInt ∧ (u.2.1).toInt ≤ 1000) ∧ (0 ≤ (u.2.2.1).toInt ∧ (u.2.2.1).toInt ≤ 998)) (fun (u : (Int32) × (Int32) × (Int32) × (Nat → Int32) × (Nat → Int32)) (t : State) => va_P (dC, dI) cls [(h_mm, .inr (8, (mo158 v_mm (.ref h_nv) (.ref h_nn) (.ref h_na) (.ref h_nb) (.ref h_nc) (.ref h_let) (.ref h_isn) (.ref h_tem) (.ref h_out) (.int u.1) (.ref h_wri) (.int u.2.1) (.int u.2.2.1)))), (h_wri, .inl (cy_wri, 1000, .inl u.2.2.2.1)), (h_let, .inl (cy_let, 256, .inl f_let)), (h_nv, .inl (cy_nv, 8000, .inl f_nv)), (h_nn, .inl (cy_nn, 8000, .inr (.inl f_nn))), (h_na, .inl (cy_na, 8000, .inl f_na)), (h_nb, .inl (cy_nb, 8000, .inl f_nb)), (h_nc, .inl (cy_nc, 8000, .inl f_nc)), (h_isn, .inl (cy_isn, 192, .inl f_isn)), (h_tem, .inl (cy_tem, 192, .inl f_tem)), (h_out, .inl (cy_out, 1000, .inl u.2.2.2.2))] t.heap ∧ va_D A [(h_mm, .inr (8, (mo158 v_mm (.ref h_nv) (.ref h_nn) (.ref h_na) (.ref h_nb) (.ref h_nc) (.ref h_let) (.ref h_isn) (.ref h_tem) (.ref h_out) (.int u.1) (.ref h_wri) (.int u.2.1) (.int u.2.2.1)))), (h_wri, .inl (cy_wri, 1000, .inl u.2.2.2.1)), (h_let, .inl (cy_let, 256, .inl f_let)), (h_nv, .inl (cy_nv, 8000, .inl f_nv)), (h_nn, .inl (cy_nn, 8000, .inr (.inl f_nn))), (h_na, .inl (cy_na, 8000, .inl f_na)), (h_nb, .inl (cy_nb, 8000, .inl f_nb)), (h_nc, .inl (cy_nc, 8000, .inl f_nc)), (h_isn, .inl (cy_isn, 192, .inl f_isn)), (h_tem, .inl (cy_tem, 192, .inl f_tem)), (h_out, .inl (cy_out, 1000, .inl u.2.2.2.2))]) A) ([.ref h_mm, .int p1, .int (-1), .int p3, .int 900] : List Value).toArray s 0 0 A) (F0 m 52 ls []) := by
        clear hP hD hS hl
        intro n
        induction n with
        | zero => intro x37 f38 H locs ls klp39_0 klp39_1 hm hP hD hS hl; exact False.elim (by omega)
        | succ n ih => 
          intro x37 f38 H locs ls klp39_0 klp39_1 hm hP hD hS hl
          have ih40 := ih
          clear ih
          refine lv_iload hx hb dX11_shows_52 (lv_at hl 5 rfl) ?_
          refine lv_aload_n hx hb dX11_shows_54 rfl (lv_at hl 0 rfl) ?_
          refine va_get (D := (dC, dI)) (ci := 8) (v := .int z33) (C := RX11) (T := TX11) (N := 71) hx hb hw iwX11 hown hK hP 3 rfl rfl 65 (by decide) (hw _ w_f_X11_443) (fun _ h9 => h9) rfl dX11_shows_55 ?_
          refine lv_icmp_ge (tgt := 81) hx hb dX11_shows_58 (by decide) (fun c41 => ?_) (fun c41 => ?_)
          · have kc41 := (cv_le (rfl : (z33).toInt = (z33).toInt) (rfl : (x37).toInt = (x37).toInt)).mp c41
            refine lv_aload_n hx hb dX11_shows_81 rfl (lv_at hl 0 rfl) ?_
            refine lv_aload_n hx hb dX11_shows_82 rfl (lv_at hl 0 rfl) ?_
            refine va_get (D := (dC, dI)) (ci := 8) (v := .int z33) (C := RX11) (T := TX11) (N := 71) hx hb hw iwX11 hown hK hP 3 rfl rfl 65 (by decide) (hw _ w_f_X11_443) (fun _ h9 => h9) rfl dX11_shows_83 ?_
            refine va_put (D := (dC, dI)) (ci := 8) (v := .int z33) (ty := tyX11 63) (C := RX11) (T := TX11) (N := 71) hx hb hw iwX11 tyX11 tyX11_ok nmX11 hown hK hP hD hS 3 rfl rfl 63 (by decide) (hw _ w_f_X11_462) (fun _ h9 => h9) rfl (tyX11_ok 63 (by decide)) rfl rfl (Nat.le_of_ble_eq_true rfl) dX11_shows_86 (fun H locs hP9 hD9 hS9 => ?_)
            clear hP hD hS
            have hP : va_P (dC, dI) cls [(h_isn, .inl (cy_isn, 192, .inl f_isn)), (h_tem, .inl (cy_tem, 192, .inl f_tem)), (h_out, .inl (cy_out, 1000, .inl f38)), (h_mm, .inr (8, (mo158 v_mm (.ref h_nv) (.ref h_nn) (.ref h_na) (.ref h_nb) (.ref h_nc) (.ref h_let) (.ref h_isn) (.ref h_tem) (.ref h_out) (.int z33) (.ref h_wri) (.int z33) (.int 900)))), (h_wri, .inl (cy_wri, 1000, .inl f34)), (h_let, .inl (cy_let, 256, .inl f_let)), (h_nv, .inl (cy_nv, 8000, .inl f_nv)), (h_nn, .inl (cy_nn, 8000, .inr (.inl f_nn))), (h_na, .inl (cy_na, 8000, .inl f_na)), (h_nb, .inl (cy_nb, 8000, .inl f_nb)), (h_nc, .inl (cy_nc, 8000, .inl f_nc))] H := hP9
            have hD : va_D A [(h_isn, .inl (cy_isn, 192, .inl f_isn)), (h_tem, .inl (cy_tem, 192, .inl f_tem)), (h_out, .inl (cy_out, 1000, .inl f38)), (h_mm, .inr (8, (mo158 v_mm (.ref h_nv) (.ref h_nn) (.ref h_na) (.ref h_nb) (.ref h_nc) (.ref h_let) (.ref h_isn) (.ref h_tem) (.ref h_out) (.int z33) (.ref h_wri) (.int z33) (.int 900)))), (h_wri, .inl (cy_wri, 1000, .inl f34)), (h_let, .inl (cy_let, 256, .inl f_let)), (h_nv, .inl (cy_nv, 8000, .inl f_nv)), (h_nn, .inl (cy_nn, 8000, .inr (.inl f_nn))), (h_na, .inl (cy_na, 8000, .inl f_na)), (h_nb, .inl (cy_nb, 8000, .inl f_nb)), (h_nc, .inl (cy_nc, 8000, .inl f_nc))] := hD9
            have hS := hS9
            clear hP9 hD9 hS9
            refine lv_aload_n hx hb dX11_shows_89 rfl (lv_at hl 0 rfl) ?_
            refine va_get (D := (dC, dI)) (ci := 8) (v := .int z33) (C := RX11) (T := TX11) (N := 71) hx hb hw iwX11 hown hK hP 3 rfl rfl 63 (by decide) (hw _ w_f_X11_462) (fun _ h9 => h9) rfl dX11_shows_90 ?_
            replace hP : va_P (dC, dI) cls [(h_mm, .inr (8, (mo158 v_mm (.ref h_nv) (.ref h_nn) (.ref h_na) (.ref h_nb) (.ref h_nc) (.ref h_let) (.ref h_isn) (.ref h_tem) (.ref h_out) (.int z33) (.ref h_wri) (.int z33) (.int 900)))), (h_wri, .inl (cy_wri, 1000, .inl f34)), (h_let, .inl (cy_let, 256, .inl f_let)), (h_nv, .inl (cy_nv, 8000, .inl f_nv)), (h_nn, .inl (cy_nn, 8000, .inr (.inl f_nn))), (h_na, .inl (cy_na, 8000, .inl f_na)), (h_nb, .inl (cy_nb, 8000, .inl f_nb)), (h_nc, .inl (cy_nc, 8000, .inl f_nc)), (h_isn, .inl (cy_isn, 192, .inl f_isn)), (h_tem, .inl (cy_tem, 192, .inl f_tem)), (h_out, .inl (cy_out, 1000, .inl f38))] H := hP.sub [3, 4, 5, 6, 7, 8, 9, 10, 0, 1, 2] rfl
            replace hD : va_D A [(h_mm, .inr (8, (mo158 v_mm (.ref h_nv) (.ref h_nn) (.ref h_na) (.ref h_nb) (.ref h_nc) (.ref h_let) (.ref h_isn) (.ref h_tem) (.ref h_out) (.int z33) (.ref h_wri) (.int z33) (.int 900)))), (h_wri, .inl (cy_wri, 1000, .inl f34)), (h_let, .inl (cy_let, 256, .inl f_let)), (h_nv, .inl (cy_nv, 8000, .inl f_nv)), (h_nn, .inl (cy_nn, 8000, .inr (.inl f_nn))), (h_na, .inl (cy_na, 8000, .inl f_na)), (h_nb, .inl (cy_nb, 8000, .inl f_nb)), (h_nc, .inl (cy_nc, 8000, .inl f_nc)), (h_isn, .inl (cy_isn, 192, .inl f_isn)), (h_tem, .inl (cy_tem, 192, .inl f_tem)), (h_out, .inl (cy_out, 1000, .inl f38))] := hD.sub [3, 4, 5, 6, 7, 8, 9, 10, 0, 1, 2] (by decide) rfl
            refine W.widen (k := 0) (n := 0) (Nat.le_of_ble_eq_true rfl) (Nat.le_of_ble_eq_true rfl) ?_
            have cst900 : (900 : Int32).toInt = 900 := by decide
            have w42 : 0 ≤ ((z33)).toInt ∧ ((z33)).toInt ≤ 1000 := by first | exact k35 | omega
            have w43 : 0 ≤ ((z33)).toInt ∧ ((z33)).toInt ≤ 1000 := by first | exact k35 | omega
            have w44 : 0 ≤ ((900 : Int32)).toInt ∧ ((900 : Int32)).toInt ≤ 998 := by omega
            exact W.iret (v := z33) hx hb hr (fun t ht hW => ⟨⟨z33, (z33, z33, 900, f34, f38), rfl, ⟨w42, w43, w44⟩, by rw [ht]; exact hP, hD⟩, hS.F ht⟩) hS.2.2 dX11_shows_93
          · have kc41 := (not_congr (cv_le (rfl : (z33).toInt = (z33).toInt) (rfl : (x37).toInt = (x37).toInt))).mp c41
            refine lv_aload_n hx hb dX11_shows_61 rfl (lv_at hl 0 rfl) ?_
            refine va_get (D := (dC, dI)) (ci := 8) (v := .ref h_out) (C := RX11) (T := TX11) (N := 71) hx hb hw iwX11 hown hK hP 3 rfl rfl 62 (by decide) (hw _ w_f_X11_243) (fun _ h9 => h9) rfl dX11_shows_62 ?_
            refine lv_iload hx hb dX11_shows_65 (lv_at hl 5 rfl) ?_
            refine lv_aload_n hx hb dX11_shows_67 rfl (lv_at hl 0 rfl) ?_
            refine va_get (D := (dC, dI)) (ci := 8) (v := .ref h_wri) (C := RX11) (T := TX11) (N := 71) hx hb hw iwX11 hown hK hP 3 rfl rfl 64 (by decide) (hw _ w_f_X11_246) (fun _ h9 => h9) rfl dX11_shows_68 ?_
            refine lv_iload hx hb dX11_shows_71 (lv_at hl 5 rfl) ?_
            refine va_iald hx hb hK hP 4 0 rfl rfl (i := x37) (vp_in_iff.mpr (by omega)) dX11_shows_73 ?_
            refine lv_topi (fun z45 ez45 => ?_)
            refine va_iast hx hb hK hP hD hS 2 9 rfl rfl (i := x37) (x := z45) (vp_in_iff.mpr (by omega)) dX11_shows_74 (fun H locs hP9 hD9 hS9 => ?_)
            obtain ⟨f46, ef46⟩ : ∃ g : Nat → Int32, g = upd f38 (Int32.toNatClampNeg x37) z45 := ⟨_, rfl⟩
            clear hP hD hS
            have hP : va_P (dC, dI) cls [(h_isn, .inl (cy_isn, 192, .inl f_isn)), (h_tem, .inl (cy_tem, 192, .inl f_tem)), (h_out, .inl (cy_out, 1000, .inl f46)), (h_mm, .inr (8, (mo158 v_mm (.ref h_nv) (.ref h_nn) (.ref h_na) (.ref h_nb) (.ref h_nc) (.ref h_let) (.ref h_isn) (.ref h_tem) (.ref h_out) (.int x_mm_outs) (.ref h_wri) (.int z33) (.int 900)))), (h_wri, .inl (cy_wri, 1000, .inl f34)), (h_let, .inl (cy_let, 256, .inl f_let)), (h_nv, .inl (cy_nv, 8000, .inl f_nv)), (h_nn, .inl (cy_nn, 8000, .inr (.inl f_nn))), (h_na, .inl (cy_na, 8000, .inl f_na)), (h_nb, .inl (cy_nb, 8000, .inl f_nb)), (h_nc, .inl (cy_nc, 8000, .inl f_nc))] H := by rw [ef46]; exact hP9
            have hD : va_D A [(h_isn, .inl (cy_isn, 192, .inl f_isn)), (h_tem, .inl (cy_tem, 192, .inl f_tem)), (h_out, .inl (cy_out, 1000, .inl f46)), (h_mm, .inr (8, (mo158 v_mm (.ref h_nv) (.ref h_nn) (.ref h_na) (.ref h_nb) (.ref h_nc) (.ref h_let) (.ref h_isn) (.ref h_tem) (.ref h_out) (.int x_mm_outs) (.ref h_wri) (.int z33) (.int 900)))), (h_wri, .inl (cy_wri, 1000, .inl f34)), (h_let, .inl (cy_let, 256, .inl f_let)), (h_nv, .inl (cy_nv, 8000, .inl f_nv)), (h_nn, .inl (cy_nn, 8000, .inr (.inl f_nn))), (h_na, .inl (cy_na, 8000, .inl f_na)), (h_nb, .inl (cy_nb, 8000, .inl f_nb)), (h_nc, .inl (cy_nc, 8000, .inl f_nc))] := by rw [ef46]; exact hD9
            have hS := hS9
            clear hP9 hD9 hS9
            clear ef46
            obtain ⟨z47, ez47⟩ : ∃ y : Int32, y = x37 + 1 := ⟨_, rfl⟩
            have tz47 : (z47).toInt = (x37).toInt + 1 := by rw [ez47]; exact i_add rfl (by decide) (by omega)
            refine lv_iinc (v := z47) (lv' := [(5, .int z47), (0, .ref h_mm), (1, .int p1), (2, .int (-1)), (3, .int p3), (4, .int 900)]) hx hb dX11_shows_75 hl (k := 5) rfl (by rw [ez47]; rfl) (by decide) rfl (fun ls hl => ?_)
            refine lv_goto (tgt := 52) hx hb dX11_shows_78 (by decide) ?_
            exact ih40 (z47) (f46) _ _ _ (by omega) (by first | exact klp39_1 | omega) (by omega) hP hD hS (lv_sub hl [1, 2, 3, 4, 5, 0] rfl)
      have cst0 : (0 : Int32).toInt = 0 := by decide
      exact lp39 _ (0) (f_out) _ _ _ (by decide) (by omega) (Nat.le_refl _) hP hD hS (lv_sub hl [1, 2, 3, 4, 5, 0] rfl)
    · have kc36 := (not_congr (cv_le (rfl : (z33).toInt = (z33).toInt) (by decide : (900 : Int32).toInt = 900))).mp c36
      refine lv_iconst (v := (-1)) hx hb dX11_shows_47 (by decide) ?_
      replace hP : va_P (dC, dI) cls [(h_mm, .inr (8, (mo158 v_mm (.ref h_nv) (.ref h_nn) (.ref h_na) (.ref h_nb) (.ref h_nc) (.ref h_let) (.ref h_isn) (.ref h_tem) (.ref h_out) (.int x_mm_outs) (.ref h_wri) (.int z33) (.int 900)))), (h_wri, .inl (cy_wri, 1000, .inl f34)), (h_let, .inl (cy_let, 256, .inl f_let)), (h_nv, .inl (cy_nv, 8000, .inl f_nv)), (h_nn, .inl (cy_nn, 8000, .inr (.inl f_nn))), (h_na, .inl (cy_na, 8000, .inl f_na)), (h_nb, .inl (cy_nb, 8000, .inl f_nb)), (h_nc, .inl (cy_nc, 8000, .inl f_nc)), (h_isn, .inl (cy_isn, 192, .inl f_isn)), (h_tem, .inl (cy_tem, 192, .inl f_tem)), (h_out, .inl (cy_out, 1000, .inl f_out))] H := hP.sub [3, 4, 5, 6, 7, 8, 9, 10, 0, 1, 2] rfl
      replace hD : va_D A [(h_mm, .inr (8, (mo158 v_mm (.ref h_nv) (.ref h_nn) (.ref h_na) (.ref h_nb) (.ref h_nc) (.ref h_let) (.ref h_isn) (.ref h_tem) (.ref h_out) (.int x_mm_outs) (.ref h_wri) (.int z33) (.int 900)))), (h_wri, .inl (cy_wri, 1000, .inl f34)), (h_let, .inl (cy_let, 256, .inl f_let)), (h_nv, .inl (cy_nv, 8000, .inl f_nv)), (h_nn, .inl (cy_nn, 8000, .inr (.inl f_nn))), (h_na, .inl (cy_na, 8000, .inl f_na)), (h_nb, .inl (cy_nb, 8000, .inl f_nb)), (h_nc, .inl (cy_nc, 8000, .inl f_nc)), (h_isn, .inl (cy_isn, 192, .inl f_isn)), (h_tem, .inl (cy_tem, 192, .inl f_tem)), (h_out, .inl (cy_out, 1000, .inl f_out))] := hD.sub [3, 4, 5, 6, 7, 8, 9, 10, 0, 1, 2] (by decide) rfl
      refine W.widen (k := 0) (n := 0) (Nat.le_of_ble_eq_true rfl) (Nat.le_of_ble_eq_true rfl) ?_
      have cstm1 : ((-1) : Int32).toInt = -1 := by decide
      have cst900 : (900 : Int32).toInt = 900 := by decide
      have w48 : 0 ≤ ((x_mm_outs)).toInt ∧ ((x_mm_outs)).toInt ≤ 1000 := by first | exact hx_mm_outs | omega
      have w49 : 0 ≤ ((z33)).toInt ∧ ((z33)).toInt ≤ 1000 := by first | exact k35 | omega
      have w50 : 0 ≤ ((900 : Int32)).toInt ∧ ((900 : Int32)).toInt ≤ 998 := by omega
      exact W.iret (v := (-1)) hx hb hr (fun t ht hW => ⟨⟨(-1), (x_mm_outs, z33, 900, f34, f_out), rfl, ⟨w48, w49, w50⟩, by rw [ht]; exact hP, hD⟩, hS.F ht⟩) hS.2.2 dX11_shows_48

set_option maxHeartbeats 8000000 in
set_option maxRecDepth 100000 in
theorem c_X11_shows_n (l : Launch) (dC : Nat → ClassId) (dI : Nat → Nat → Nat) (sz : Nat) (h_mm : Nat) (h_wri : Nat) (h_let : Nat) (h_nv : Nat) (h_nn : Nat) (h_na : Nat) (h_nb : Nat) (h_nc : Nat) (h_isn : Nat) (h_tem : Nat) (h_out : Nat) (v_mm : Nat → Value) (x_mm_outs : Int32) (x_mm_writes : Int32) (x_mm_room : Int32) (cy_wri : ClassId) (f_wri : Nat → Int32) (cy_let : ClassId) (f_let : Nat → Int32) (cy_nv : ClassId) (f_nv : Nat → Int32) (cy_nn : ClassId) (f_nn : Nat → Int64) (cy_na : ClassId) (f_na : Nat → Int32) (cy_nb : ClassId) (f_nb : Nat → Int32) (cy_nc : ClassId) (f_nc : Nat → Int32) (cy_isn : ClassId) (f_isn : Nat → Int32) (cy_tem : ClassId) (f_tem : Nat → Int32) (cy_out : ClassId) (f_out : Nat → Int32) (p1 : Int32) (p3 : Int32) (N : Int) (hz : Nat → Nat) (hx_mm_outs : 0 ≤ (x_mm_outs).toInt ∧ (x_mm_outs).toInt ≤ 1000) (hx_mm_writes : 0 ≤ (x_mm_writes).toInt ∧ (x_mm_writes).toInt ≤ 1000) (hx_mm_room : 0 ≤ (x_mm_room).toInt ∧ (x_mm_room).toInt ≤ 998) (hf_nv : Rg (-1) 7 f_nv) (hf_na : Rg (-1) 7999 f_na) (hf_nb : Rg (-1) 7999 f_nb) (hf_nc : Rg (-1) 7999 f_nc) (hf_isn : Rg 0 1 f_isn) (hf_tem : Rg 0 7999 f_tem) (q0 : 0 ≤ (f_tem (p1).toInt.toNat).toInt ∧ (f_tem (p1).toInt.toNat).toInt < N ∧ hz (f_tem (p1).toInt.toNat).toInt.toNat = 7) (q1 : N ≤ 8000) (q2 : 0 ≤ (p1).toInt ∧ (p1).toInt ≤ 191) (q3 : 0 ≤ (p3).toInt ∧ (p3).toInt ≤ 15) (q4 : (f_isn (p1).toInt.toNat).toInt + lnX (nlR 14) (RVW f_nv f_nn f_na f_nb f_nc) 7 (f_tem (p1).toInt.toNat).toInt.toNat ≤ 900) (hn_nds : ND 0 N hz f_na f_nb f_nc) (hn_whx : WHX (RVW f_nv f_nn f_na f_nb f_nc) 7 (f_tem (p1).toInt.toNat).toInt.toNat) : Met l yX11_shows (Ws yX11_shows cX11_shows 6 (some .int)) (({ frames := 24, cells := 0, slots := 0, locals := 563 } : Room)) (PRE (dC, dI) cls [(cy_wri, .int), (cy_let, .int), (cy_nv, .int), (cy_nn, .long), (cy_na, .int), (cy_nb, .int), (cy_nc, .int), (cy_isn, .boolean), (cy_tem, .int), (cy_out, .int)] [(h_mm, .inr (8, (mo158 v_mm (.ref h_nv) (.ref h_nn) (.ref h_na) (.ref h_nb) (.ref h_nc) (.ref h_let) (.ref h_isn) (.ref h_tem) (.ref h_out) (.int x_mm_outs) (.ref h_wri) (.int x_mm_writes) (.int x_mm_room)))), (h_wri, .inl (cy_wri, 1000, .inl f_wri)), (h_let, .inl (cy_let, 256, .inl f_let)), (h_nv, .inl (cy_nv, 8000, .inl f_nv)), (h_nn, .inl (cy_nn, 8000, .inr (.inl f_nn))), (h_na, .inl (cy_na, 8000, .inl f_na)), (h_nb, .inl (cy_nb, 8000, .inl f_nb)), (h_nc, .inl (cy_nc, 8000, .inl f_nc)), (h_isn, .inl (cy_isn, 192, .inl f_isn)), (h_tem, .inl (cy_tem, 192, .inl f_tem)), (h_out, .inl (cy_out, 1000, .inl f_out))] sz [.ref h_mm, .int p1, .int (-1), .int p3, .int 900]) (va_Qi (fun (r : Int32) (u : (Int32) × (Int32) × (Int32) × (Nat → Int32) × (Nat → Int32)) => (0 ≤ (u.1).toInt ∧ (u.1).toInt ≤ 1000) ∧ (0 ≤ (u.2.1).toInt ∧ (u.2.1).toInt ≤ 1000) ∧ (0 ≤ (u.2.2.1).toInt ∧ (u.2.2.1).toInt ≤ 998) ∧ ((r).toInt = (f_isn (p1).toInt.toNat).toInt + lnX (nlR 14) (RVW f_nv f_nn f_na f_nb f_nc) 7 (f_tem (p1).toInt.toNat).toInt.toNat)) (fun (u : (Int32) × (Int32) × (Int32) × (Nat → Int32) × (Nat → Int32)) (t : State) => va_P (dC, dI) cls [(h_mm, .inr (8, (mo158 v_mm (.ref h_nv) (.ref h_nn) (.ref h_na) (.ref h_nb) (.ref h_nc) (.ref h_let) (.ref h_isn) (.ref h_tem) (.ref h_out) (.int u.1) (.ref h_wri) (.int u.2.1) (.int u.2.2.1)))), (h_wri, .inl (cy_wri, 1000, .inl u.2.2.2.1)), (h_let, .inl (cy_let, 256, .inl f_let)), (h_nv, .inl (cy_nv, 8000, .inl f_nv)), (h_nn, .inl (cy_nn, 8000, .inr (.inl f_nn))), (h_na, .inl (cy_na, 8000, .inl f_na)), (h_nb, .inl (cy_nb, 8000, .inl f_nb)), (h_nc, .inl (cy_nc, 8000, .inl f_nc)), (h_isn, .inl (cy_isn, 192, .inl f_isn)), (h_tem, .inl (cy_tem, 192, .inl f_tem)), (h_out, .inl (cy_out, 1000, .inl u.2.2.2.2))] t.heap ∧ va_D (va_A [(h_mm, .inr (8, (mo158 v_mm (.ref h_nv) (.ref h_nn) (.ref h_na) (.ref h_nb) (.ref h_nc) (.ref h_let) (.ref h_isn) (.ref h_tem) (.ref h_out) (.int x_mm_outs) (.ref h_wri) (.int x_mm_writes) (.int x_mm_room)))), (h_wri, .inl (cy_wri, 1000, .inl f_wri)), (h_let, .inl (cy_let, 256, .inl f_let)), (h_nv, .inl (cy_nv, 8000, .inl f_nv)), (h_nn, .inl (cy_nn, 8000, .inr (.inl f_nn))), (h_na, .inl (cy_na, 8000, .inl f_na)), (h_nb, .inl (cy_nb, 8000, .inl f_nb)), (h_nc, .inl (cy_nc, 8000, .inl f_nc)), (h_isn, .inl (cy_isn, 192, .inl f_isn)), (h_tem, .inl (cy_tem, 192, .inl f_tem)), (h_out, .inl (cy_out, 1000, .inl f_out))] sz) [(h_mm, .inr (8, (mo158 v_mm (.ref h_nv) (.ref h_nn) (.ref h_na) (.ref h_nb) (.ref h_nc) (.ref h_let) (.ref h_isn) (.ref h_tem) (.ref h_out) (.int u.1) (.ref h_wri) (.int u.2.1) (.int u.2.2.1)))), (h_wri, .inl (cy_wri, 1000, .inl u.2.2.2.1)), (h_let, .inl (cy_let, 256, .inl f_let)), (h_nv, .inl (cy_nv, 8000, .inl f_nv)), (h_nn, .inl (cy_nn, 8000, .inr (.inl f_nn))), (h_na, .inl (cy_na, 8000, .inl f_na)), (h_nb, .inl (cy_nb, 8000, .inl f_nb)), (h_nc, .inl (cy_nc, 8000, .inl f_nc)), (h_isn, .inl (cy_isn, 192, .inl f_isn)), (h_tem, .inl (cy_tem, 192, .inl f_tem)), (h_out, .inl (cy_out, 1000, .inl u.2.2.2.2))]) (va_A [(h_mm, .inr (8, (mo158 v_mm (.ref h_nv) (.ref h_nn) (.ref h_na) (.ref h_nb) (.ref h_nc) (.ref h_let) (.ref h_isn) (.ref h_tem) (.ref h_out) (.int x_mm_outs) (.ref h_wri) (.int x_mm_writes) (.int x_mm_room)))), (h_wri, .inl (cy_wri, 1000, .inl f_wri)), (h_let, .inl (cy_let, 256, .inl f_let)), (h_nv, .inl (cy_nv, 8000, .inl f_nv)), (h_nn, .inl (cy_nn, 8000, .inr (.inl f_nn))), (h_na, .inl (cy_na, 8000, .inl f_na)), (h_nb, .inl (cy_nb, 8000, .inl f_nb)), (h_nc, .inl (cy_nc, 8000, .inl f_nc)), (h_isn, .inl (cy_isn, 192, .inl f_isn)), (h_tem, .inl (cy_tem, 192, .inl f_tem)), (h_out, .inl (cy_out, 1000, .inl f_out))] sz)) 0 0 (va_A [(h_mm, .inr (8, (mo158 v_mm (.ref h_nv) (.ref h_nn) (.ref h_na) (.ref h_nb) (.ref h_nc) (.ref h_let) (.ref h_isn) (.ref h_tem) (.ref h_out) (.int x_mm_outs) (.ref h_wri) (.int x_mm_writes) (.int x_mm_room)))), (h_wri, .inl (cy_wri, 1000, .inl f_wri)), (h_let, .inl (cy_let, 256, .inl f_let)), (h_nv, .inl (cy_nv, 8000, .inl f_nv)), (h_nn, .inl (cy_nn, 8000, .inr (.inl f_nn))), (h_na, .inl (cy_na, 8000, .inl f_na)), (h_nb, .inl (cy_nb, 8000, .inl f_nb)), (h_nc, .inl (cy_nc, 8000, .inl f_nc)), (h_isn, .inl (cy_isn, 192, .inl f_isn)), (h_tem, .inl (cy_tem, 192, .inl f_tem)), (h_out, .inl (cy_out, 1000, .inl f_out))] sz) := by
  refine Met.ofW (cc := cX11_shows) (maxL := 6) (ret := (some .int)) (by decide) rfl ?_
  intro p e s m args below meth c s₁ B hml hv
  obtain ⟨rfl, hsz, hP, hK, hD0, hN⟩ := hv
  have hx := B.exec
  have hb := B.bytes
  have hr := B.returns
  have hts := atoms_spec (ws := Ws yX11_shows cX11_shows 6 (some .int)) B.pre
  have hT : ∀ w ∈ WALL, w ∈ Ws yX11_shows cX11_shows 6 (some .int) := fun w h => List.mem_cons_of_mem _ h
  have hw := fun w (h : w ∈ WALL) => hts w (hT w h)
  have hown : s.vm.findClass RX11 = some m.cls := findClass_of_methodNamed B.named
  have hlocks := B.notSynchronized
  subst hsz
  have hD := hD0.self (sz := s.heap.size)
  generalize hAe : va_A [(h_mm, .inr (8, (mo158 v_mm (.ref h_nv) (.ref h_nn) (.ref h_na) (.ref h_nb) (.ref h_nc) (.ref h_let) (.ref h_isn) (.ref h_tem) (.ref h_out) (.int x_mm_outs) (.ref h_wri) (.int x_mm_writes) (.int x_mm_room)))), (h_wri, .inl (cy_wri, 1000, .inl f_wri)), (h_let, .inl (cy_let, 256, .inl f_let)), (h_nv, .inl (cy_nv, 8000, .inl f_nv)), (h_nn, .inl (cy_nn, 8000, .inr (.inl f_nn))), (h_na, .inl (cy_na, 8000, .inl f_na)), (h_nb, .inl (cy_nb, 8000, .inl f_nb)), (h_nc, .inl (cy_nc, 8000, .inl f_nc)), (h_isn, .inl (cy_isn, 192, .inl f_isn)), (h_tem, .inl (cy_tem, 192, .inl f_tem)), (h_out, .inl (cy_out, 1000, .inl f_out))] s.heap.size = A at hD ⊢
  have hA : ∀ q : Nat, s.heap.size ≤ q → A q := fun q h => by rw [← hAe]; exact Or.inr h
  have hS : va_S A s.heap s.heap [] := va_S.rf
  have hl := lv_entry ([.ref h_mm, .int p1, .int (-1), .int p3, .int 900]) (n := 6) (Nat.le_of_ble_eq_true rfl)
  rw [lg_entry_eq]
  generalize (lg_sl ([.ref h_mm, .int p1, .int (-1), .int p3, .int 900]) ++ List.replicate (6 - (lg_sl ([.ref h_mm, .int p1, .int (-1), .int p3, .int 900])).length) Slot.unset).toArray = ls at hl ⊢
  have hl : lv_has ls 6 [(0, .ref h_mm), (1, .int p1), (2, .int (-1)), (3, .int p3), (4, .int 900)] := hl
  have c09 : Int32.toInt 0 = 0 := by decide
  have c99 : Int32.toInt 900 = 900 := by decide
  have hi9 := hf_isn (p1).toInt.toNat
  refine lv_aload_n hx hb dX11_shows_0 rfl (lv_at hl 0 rfl) ?_
  refine lv_iconst (v := 0) hx hb dX11_shows_1 (by decide) ?_
  refine va_put (D := (dC, dI)) (ci := 8) (v := .int 0) (ty := tyX11 65) (C := RX11) (T := TX11) (N := 71) hx hb hw iwX11 tyX11 tyX11_ok nmX11 hown hK hP hD hS 0 rfl rfl 65 (by decide) (hw _ w_f_X11_443) (fun _ h9 => h9) rfl (tyX11_ok 65 (by decide)) rfl rfl (Nat.le_of_ble_eq_true rfl) dX11_shows_2 (fun H locs hP9 hD9 hS9 => ?_)
  clear hP hD hS
  have hP : va_P (dC, dI) cls [(h_mm, .inr (8, (mo158 v_mm (.ref h_nv) (.ref h_nn) (.ref h_na) (.ref h_nb) (.ref h_nc) (.ref h_let) (.ref h_isn) (.ref h_tem) (.ref h_out) (.int x_mm_outs) (.ref h_wri) (.int 0) (.int x_mm_room)))), (h_wri, .inl (cy_wri, 1000, .inl f_wri)), (h_let, .inl (cy_let, 256, .inl f_let)), (h_nv, .inl (cy_nv, 8000, .inl f_nv)), (h_nn, .inl (cy_nn, 8000, .inr (.inl f_nn))), (h_na, .inl (cy_na, 8000, .inl f_na)), (h_nb, .inl (cy_nb, 8000, .inl f_nb)), (h_nc, .inl (cy_nc, 8000, .inl f_nc)), (h_isn, .inl (cy_isn, 192, .inl f_isn)), (h_tem, .inl (cy_tem, 192, .inl f_tem)), (h_out, .inl (cy_out, 1000, .inl f_out))] H := hP9
  have hD : va_D A [(h_mm, .inr (8, (mo158 v_mm (.ref h_nv) (.ref h_nn) (.ref h_na) (.ref h_nb) (.ref h_nc) (.ref h_let) (.ref h_isn) (.ref h_tem) (.ref h_out) (.int x_mm_outs) (.ref h_wri) (.int 0) (.int x_mm_room)))), (h_wri, .inl (cy_wri, 1000, .inl f_wri)), (h_let, .inl (cy_let, 256, .inl f_let)), (h_nv, .inl (cy_nv, 8000, .inl f_nv)), (h_nn, .inl (cy_nn, 8000, .inr (.inl f_nn))), (h_na, .inl (cy_na, 8000, .inl f_na)), (h_nb, .inl (cy_nb, 8000, .inl f_nb)), (h_nc, .inl (cy_nc, 8000, .inl f_nc)), (h_isn, .inl (cy_isn, 192, .inl f_isn)), (h_tem, .inl (cy_tem, 192, .inl f_tem)), (h_out, .inl (cy_out, 1000, .inl f_out))] := hD9
  have hS := hS9
  clear hP9 hD9 hS9
  refine lv_aload_n hx hb dX11_shows_5 rfl (lv_at hl 0 rfl) ?_
  refine lv_iload hx hb dX11_shows_6 (lv_at hl 4 rfl) ?_
  refine va_put (D := (dC, dI)) (ci := 8) (v := .int 900) (ty := tyX11 66) (C := RX11) (T := TX11) (N := 71) hx hb hw iwX11 tyX11 tyX11_ok nmX11 hown hK hP hD hS 0 rfl rfl 66 (by decide) (hw _ w_f_X11_446) (fun _ h9 => h9) rfl (tyX11_ok 66 (by decide)) rfl rfl (Nat.le_of_ble_eq_true rfl) dX11_shows_8 (fun H locs hP9 hD9 hS9 => ?_)
  clear hP hD hS
  have hP : va_P (dC, dI) cls [(h_mm, .inr (8, (mo158 v_mm (.ref h_nv) (.ref h_nn) (.ref h_na) (.ref h_nb) (.ref h_nc) (.ref h_let) (.ref h_isn) (.ref h_tem) (.ref h_out) (.int x_mm_outs) (.ref h_wri) (.int 0) (.int 900)))), (h_wri, .inl (cy_wri, 1000, .inl f_wri)), (h_let, .inl (cy_let, 256, .inl f_let)), (h_nv, .inl (cy_nv, 8000, .inl f_nv)), (h_nn, .inl (cy_nn, 8000, .inr (.inl f_nn))), (h_na, .inl (cy_na, 8000, .inl f_na)), (h_nb, .inl (cy_nb, 8000, .inl f_nb)), (h_nc, .inl (cy_nc, 8000, .inl f_nc)), (h_isn, .inl (cy_isn, 192, .inl f_isn)), (h_tem, .inl (cy_tem, 192, .inl f_tem)), (h_out, .inl (cy_out, 1000, .inl f_out))] H := hP9
  have hD : va_D A [(h_mm, .inr (8, (mo158 v_mm (.ref h_nv) (.ref h_nn) (.ref h_na) (.ref h_nb) (.ref h_nc) (.ref h_let) (.ref h_isn) (.ref h_tem) (.ref h_out) (.int x_mm_outs) (.ref h_wri) (.int 0) (.int 900)))), (h_wri, .inl (cy_wri, 1000, .inl f_wri)), (h_let, .inl (cy_let, 256, .inl f_let)), (h_nv, .inl (cy_nv, 8000, .inl f_nv)), (h_nn, .inl (cy_nn, 8000, .inr (.inl f_nn))), (h_na, .inl (cy_na, 8000, .inl f_na)), (h_nb, .inl (cy_nb, 8000, .inl f_nb)), (h_nc, .inl (cy_nc, 8000, .inl f_nc)), (h_isn, .inl (cy_isn, 192, .inl f_isn)), (h_tem, .inl (cy_tem, 192, .inl f_tem)), (h_out, .inl (cy_out, 1000, .inl f_out))] := hD9
  have hS := hS9
  clear hP9 hD9 hS9
  refine lv_aload_n hx hb dX11_shows_11 rfl (lv_at hl 0 rfl) ?_
  refine va_get (D := (dC, dI)) (ci := 8) (v := .ref h_isn) (C := RX11) (T := TX11) (N := 71) hx hb hw iwX11 hown hK hP 0 rfl rfl 11 (by decide) (hw _ w_f_X11_145) (fun _ h9 => h9) rfl dX11_shows_12 ?_
  refine lv_iload_n hx hb dX11_shows_15 rfl (lv_at hl 1 rfl) ?_
  refine va_zald hx hb hK hP 8 7 rfl rfl (i := p1) (vp_in_iff.mpr (by omega)) dX11_shows_16 ?_
  refine lv_topi (fun z1 ez1 => ?_)
  have rz1 : 0 ≤ (z1).toInt ∧ (z1).toInt ≤ 1 := by rw [ez1]; exact hf_isn _
  have is9 : (f_isn (p1).toInt.toNat).toInt = (z1).toInt := by rw [ez1, (clamp_nat (i := p1) (by omega))]
  refine lv_if_eq (tgt := 26) hx hb dX11_shows_17 (by decide) (fun c2 => ?_) (fun c2 => ?_)
  · have kc2 := (cv_eq (rfl : (z1).toInt = (z1).toInt) (by decide : (0 : Int32).toInt = 0)).mp c2
    refine lv_aload_n hx hb dX11_shows_26 rfl (lv_at hl 0 rfl) ?_
    refine lv_aload_n hx hb dX11_shows_27 rfl (lv_at hl 0 rfl) ?_
    refine va_get (D := (dC, dI)) (ci := 8) (v := .ref h_tem) (C := RX11) (T := TX11) (N := 71) hx hb hw iwX11 hown hK hP 0 rfl rfl 12 (by decide) (hw _ w_f_X11_152) (fun _ h9 => h9) rfl dX11_shows_28 ?_
    refine lv_iload_n hx hb dX11_shows_31 rfl (lv_at hl 1 rfl) ?_
    refine va_iald hx hb hK hP 9 8 rfl rfl (i := p1) (vp_in_iff.mpr (by omega)) dX11_shows_32 ?_
    refine lv_topi (fun z3 ez3 => ?_)
    have rz3 : 0 ≤ (z3).toInt ∧ (z3).toInt ≤ 7999 := by rw [ez3]; exact hf_tem _
    have tq9 : f_tem (p1).toInt.toNat = z3 := by rw [← clamp_nat (i := p1) (by omega), ← ez3]
    have tr9 : 0 ≤ (z3).toInt ∧ (z3).toInt < N ∧ hz (z3).toInt.toNat = 7 := by rw [← tq9]; omega
    have wf9 : WHX (RVW f_nv f_nn f_na f_nb f_nc) 7 (z3).toInt.toNat := by rw [← tq9]; exact hn_whx
    have le9 : lnX (nlR 14) (RVW f_nv f_nn f_na f_nb f_nc) 7 (f_tem (p1).toInt.toNat).toInt.toNat = lnX (nlR 14) (RVW f_nv f_nn f_na f_nb f_nc) 7 (z3).toInt.toNat := by rw [tq9]
    refine lv_iload_n hx hb dX11_shows_33 rfl (lv_at hl 2 rfl) ?_
    refine lv_iload_n hx hb dX11_shows_34 rfl (lv_at hl 3 rfl) ?_
    obtain ⟨vq4, evq4⟩ := mq158_156 v_mm (.ref h_isn) (.ref h_tem) (.ref h_out) (.int x_mm_outs)
    replace hP : va_P (dC, dI) cls [(h_mm, .inr (8, (mo156 vq4 (.ref h_nv) (.ref h_nn) (.ref h_na) (.ref h_nb) (.ref h_nc) (.ref h_let) (.ref h_wri) (.int 0) (.int 900)))), (h_wri, .inl (cy_wri, 1000, .inl f_wri)), (h_let, .inl (cy_let, 256, .inl f_let)), (h_nv, .inl (cy_nv, 8000, .inl f_nv)), (h_nn, .inl (cy_nn, 8000, .inr (.inl f_nn))), (h_na, .inl (cy_na, 8000, .inl f_na)), (h_nb, .inl (cy_nb, 8000, .inl f_nb)), (h_nc, .inl (cy_nc, 8000, .inl f_nc)), (h_isn, .inl (cy_isn, 192, .inl f_isn)), (h_tem, .inl (cy_tem, 192, .inl f_tem)), (h_out, .inl (cy_out, 1000, .inl f_out))] H := by rw [evq4]; exact hP
    replace hD : va_D A [(h_mm, .inr (8, (mo156 vq4 (.ref h_nv) (.ref h_nn) (.ref h_na) (.ref h_nb) (.ref h_nc) (.ref h_let) (.ref h_wri) (.int 0) (.int 900)))), (h_wri, .inl (cy_wri, 1000, .inl f_wri)), (h_let, .inl (cy_let, 256, .inl f_let)), (h_nv, .inl (cy_nv, 8000, .inl f_nv)), (h_nn, .inl (cy_nn, 8000, .inr (.inl f_nn))), (h_na, .inl (cy_na, 8000, .inl f_na)), (h_nb, .inl (cy_nb, 8000, .inl f_nb)), (h_nc, .inl (cy_nc, 8000, .inl f_nc)), (h_isn, .inl (cy_isn, 192, .inl f_isn)), (h_tem, .inl (cy_tem, 192, .inl f_tem)), (h_out, .inl (cy_out, 1000, .inl f_out))] := by rw [evq4]; exact hD
    have cstm1 : ((-1) : Int32).toInt = -1 := by decide
    have hPc := hP.sub (ws' := [(h_mm, .inr (8, (mo156 vq4 (.ref h_nv) (.ref h_nn) (.ref h_na) (.ref h_nb) (.ref h_nc) (.ref h_let) (.ref h_wri) (.int 0) (.int 900)))), (h_wri, .inl (cy_wri, 1000, .inl f_wri)), (h_let, .inl (cy_let, 256, .inl f_let)), (h_nv, .inl (cy_nv, 8000, .inl f_nv)), (h_nn, .inl (cy_nn, 8000, .inr (.inl f_nn))), (h_na, .inl (cy_na, 8000, .inl f_na)), (h_nb, .inl (cy_nb, 8000, .inl f_nb)), (h_nc, .inl (cy_nc, 8000, .inl f_nc))]) [0, 1, 2, 3, 4, 5, 6, 7] rfl
    have hDc := hD.sub (ws' := [(h_mm, .inr (8, (mo156 vq4 (.ref h_nv) (.ref h_nn) (.ref h_na) (.ref h_nb) (.ref h_nc) (.ref h_let) (.ref h_wri) (.int 0) (.int 900)))), (h_wri, .inl (cy_wri, 1000, .inl f_wri)), (h_let, .inl (cy_let, 256, .inl f_let)), (h_nv, .inl (cy_nv, 8000, .inl f_nv)), (h_nn, .inl (cy_nn, 8000, .inr (.inl f_nn))), (h_na, .inl (cy_na, 8000, .inl f_na)), (h_nb, .inl (cy_nb, 8000, .inl f_nb)), (h_nc, .inl (cy_nc, 8000, .inl f_nc))]) [0, 1, 2, 3, 4, 5, 6, 7] (by decide) rfl
    have hKc := hK.sub (tys' := [(cy_wri, .int), (cy_let, .int), (cy_nv, .int), (cy_nn, .long), (cy_na, .int), (cy_nb, .int), (cy_nc, .int)]) [0, 1, 2, 3, 4, 5, 6] rfl
    have hFc := va_free (wc := [(h_mm, .inr (8, (mo156 vq4 (.ref h_nv) (.ref h_nn) (.ref h_na) (.ref h_nb) (.ref h_nc) (.ref h_let) (.ref h_wri) (.int 0) (.int 900)))), (h_wri, .inl (cy_wri, 1000, .inl f_wri)), (h_let, .inl (cy_let, 256, .inl f_let)), (h_nv, .inl (cy_nv, 8000, .inl f_nv)), (h_nn, .inl (cy_nn, 8000, .inr (.inl f_nn))), (h_na, .inl (cy_na, 8000, .inl f_na)), (h_nb, .inl (cy_nb, 8000, .inl f_nb)), (h_nc, .inl (cy_nc, 8000, .inl f_nc))]) hD hS hA [0, 1, 2, 3, 4, 5, 6, 7] rfl
    refine va_callv (va_runV (As := [.int z3, .int (-1), .int p3]) (rest := []) ⟨hx, hb, hml, hown, hts⟩ (c_X11_saysTerm_n l 8 dC dI H.size h_mm h_wri h_let h_nv h_nn h_na h_nb h_nc vq4 0 900 cy_wri f_wri cy_let f_let cy_nv f_nv cy_nn f_nn cy_na f_na cy_nb f_nb cy_nc f_nc z3 p3 N hz 7 (by decide) (by decide) hf_nv hf_na hf_nb hf_nc (by omega) (by first | exact q1 | omega) (by first | exact q3 | omega) (by omega) (by omega) hn_nds wf9) (cwV 3 hts (gv hT w_m_X11_459 w_instanceMethod_X11_saysTerm ws_sel_X11_saysTerm w_ini_X11 w_code_X11_saysTerm) rfl rfl rfl (by decide +kernel) ⟨(Nat.le_of_ble_eq_true rfl), (Nat.le_of_ble_eq_true rfl)⟩) ⟨pre_blind, va_recv hK hP (ci := 8) (q0 := 0) rfl rfl, pre_of hPc hKc hDc hN⟩ rfl rfl hl.1 rfl (lv_room (Nat.le_of_ble_eq_true rfl)) dX11_shows_35 ⟨(Nat.le_of_ble_eq_true rfl), (Nat.le_of_ble_eq_true rfl)⟩) hS (fun q _ h => hFc q h) hFc (fun u t H locs ht hvm hq hB hz1 hk1 hS9 => ?_)
    obtain ⟨z6, f7⟩ := u
    obtain ⟨hP1, hD1⟩ := hB
    rw [ht] at hP1
    obtain ⟨hP9, hD9⟩ := va_join (wr := [(h_isn, .inl (cy_isn, 192, .inl f_isn)), (h_tem, .inl (cy_tem, 192, .inl f_tem)), (h_out, .inl (cy_out, 1000, .inl f_out))]) (w1 := [(h_mm, .inr (8, (mo156 vq4 (.ref h_nv) (.ref h_nn) (.ref h_na) (.ref h_nb) (.ref h_nc) (.ref h_let) (.ref h_wri) (.int z6) (.int 900)))), (h_wri, .inl (cy_wri, 1000, .inl f7)), (h_let, .inl (cy_let, 256, .inl f_let)), (h_nv, .inl (cy_nv, 8000, .inl f_nv)), (h_nn, .inl (cy_nn, 8000, .inr (.inl f_nn))), (h_na, .inl (cy_na, 8000, .inl f_na)), (h_nb, .inl (cy_nb, 8000, .inl f_nb)), (h_nc, .inl (cy_nc, 8000, .inl f_nc))]) hP hD [0, 1, 2, 3, 4, 5, 6, 7] [8, 9, 10] rfl rfl (by decide) (by decide) hk1 hFc hP1 hD1
    clear hP hD hS hPc hDc hKc hFc hP1 hD1 hk1 hz1 ht hvm
    have hP : va_P (dC, dI) cls [(h_isn, .inl (cy_isn, 192, .inl f_isn)), (h_tem, .inl (cy_tem, 192, .inl f_tem)), (h_out, .inl (cy_out, 1000, .inl f_out)), (h_mm, .inr (8, (mo156 vq4 (.ref h_nv) (.ref h_nn) (.ref h_na) (.ref h_nb) (.ref h_nc) (.ref h_let) (.ref h_wri) (.int z6) (.int 900)))), (h_wri, .inl (cy_wri, 1000, .inl f7)), (h_let, .inl (cy_let, 256, .inl f_let)), (h_nv, .inl (cy_nv, 8000, .inl f_nv)), (h_nn, .inl (cy_nn, 8000, .inr (.inl f_nn))), (h_na, .inl (cy_na, 8000, .inl f_na)), (h_nb, .inl (cy_nb, 8000, .inl f_nb)), (h_nc, .inl (cy_nc, 8000, .inl f_nc))] H := hP9
    have hD : va_D A [(h_isn, .inl (cy_isn, 192, .inl f_isn)), (h_tem, .inl (cy_tem, 192, .inl f_tem)), (h_out, .inl (cy_out, 1000, .inl f_out)), (h_mm, .inr (8, (mo156 vq4 (.ref h_nv) (.ref h_nn) (.ref h_na) (.ref h_nb) (.ref h_nc) (.ref h_let) (.ref h_wri) (.int z6) (.int 900)))), (h_wri, .inl (cy_wri, 1000, .inl f7)), (h_let, .inl (cy_let, 256, .inl f_let)), (h_nv, .inl (cy_nv, 8000, .inl f_nv)), (h_nn, .inl (cy_nn, 8000, .inr (.inl f_nn))), (h_na, .inl (cy_na, 8000, .inl f_na)), (h_nb, .inl (cy_nb, 8000, .inl f_nb)), (h_nc, .inl (cy_nc, 8000, .inl f_nc))] := hD9
    have hS := hS9
    clear hP9 hD9 hS9
    rw [evq4] at hP hD
    replace hP : va_P (dC, dI) cls [(h_isn, .inl (cy_isn, 192, .inl f_isn)), (h_tem, .inl (cy_tem, 192, .inl f_tem)), (h_out, .inl (cy_out, 1000, .inl f_out)), (h_mm, .inr (8, (mo158 v_mm (.ref h_nv) (.ref h_nn) (.ref h_na) (.ref h_nb) (.ref h_nc) (.ref h_let) (.ref h_isn) (.ref h_tem) (.ref h_out) (.int x_mm_outs) (.ref h_wri) (.int z6) (.int 900)))), (h_wri, .inl (cy_wri, 1000, .inl f7)), (h_let, .inl (cy_let, 256, .inl f_let)), (h_nv, .inl (cy_nv, 8000, .inl f_nv)), (h_nn, .inl (cy_nn, 8000, .inr (.inl f_nn))), (h_na, .inl (cy_na, 8000, .inl f_na)), (h_nb, .inl (cy_nb, 8000, .inl f_nb)), (h_nc, .inl (cy_nc, 8000, .inl f_nc))] H := hP
    replace hD : va_D A [(h_isn, .inl (cy_isn, 192, .inl f_isn)), (h_tem, .inl (cy_tem, 192, .inl f_tem)), (h_out, .inl (cy_out, 1000, .inl f_out)), (h_mm, .inr (8, (mo158 v_mm (.ref h_nv) (.ref h_nn) (.ref h_na) (.ref h_nb) (.ref h_nc) (.ref h_let) (.ref h_isn) (.ref h_tem) (.ref h_out) (.int x_mm_outs) (.ref h_wri) (.int z6) (.int 900)))), (h_wri, .inl (cy_wri, 1000, .inl f7)), (h_let, .inl (cy_let, 256, .inl f_let)), (h_nv, .inl (cy_nv, 8000, .inl f_nv)), (h_nn, .inl (cy_nn, 8000, .inr (.inl f_nn))), (h_na, .inl (cy_na, 8000, .inl f_na)), (h_nb, .inl (cy_nb, 8000, .inl f_nb)), (h_nc, .inl (cy_nc, 8000, .inl f_nc))] := hD
    clear evq4 
    obtain ⟨k8, k9⟩ := hq
    replace k8 : 0 ≤ ((z6)).toInt ∧ ((z6)).toInt ≤ 1000 := k8
    replace k9 : ((z6)).toInt = ((0 : Int32)).toInt + lnX (nlR 14) (RVW f_nv f_nn f_na f_nb f_nc) (7 : Nat) ((z3)).toInt.toNat := k9
    refine lv_aload_n hx hb dX11_shows_38 rfl (lv_at hl 0 rfl) ?_
    refine va_get (D := (dC, dI)) (ci := 8) (v := .int z6) (C := RX11) (T := TX11) (N := 71) hx hb hw iwX11 hown hK hP 3 rfl rfl 65 (by decide) (hw _ w_f_X11_443) (fun _ h9 => h9) rfl dX11_shows_39 ?_
    refine lv_iload hx hb dX11_shows_42 (lv_at hl 4 rfl) ?_
    refine lv_icmp_le (tgt := 49) hx hb dX11_shows_44 (by decide) (fun _ => ?_) (fun c10 => False.elim (by have kc10 := (not_congr (cv_le (rfl : (z6).toInt = (z6).toInt) (by decide : (900 : Int32).toInt = 900))).mp c10; omega))
    refine lv_iconst (v := 0) hx hb dX11_shows_49 (by decide) ?_
    refine lv_istore (lv' := [(5, .int 0), (0, .ref h_mm), (1, .int p1), (2, .int (-1)), (3, .int p3), (4, .int 900)]) hx hb dX11_shows_50 hl (by decide) rfl (fun ls hl => ?_)
    have lp13 : ∀ (n : Nat) (x11 : Int32) (f12 : Nat → Int32) (H : Heap) (locs : List Loc) (ls : Array Slot), (0 ≤ (x11).toInt ∧ (x11).toInt ≤ 1000) → ((z6).toInt ≤ 900) → (1000 - (x11).toInt).toNat + 1 ≤ n → va_P (dC, dI) cls [(h_isn, .inl (cy_isn, 192, .inl f_isn)), (h_tem, .inl (cy_tem, 192, .inl f_tem)), (h_out, .inl (cy_out, 1000, .inl f12)), (h_mm, .inr (8, (mo158 v_mm (.ref h_nv) (.ref h_nn) (.ref h_na) (.ref h_nb) (.ref h_nc) (.ref h_let) (.ref h_isn) (.ref h_tem) (.ref h_out) (.int x_mm_outs) (.ref h_wri) (.int z6) (.int 900)))), (h_wri, .inl (cy_wri, 1000, .inl f7)), (h_let, .inl (cy_let, 256, .inl f_let)), (h_nv, .inl (cy_nv, 8000, .inl f_nv)), (h_nn, .inl (cy_nn, 8000, .inr (.inl f_nn))), (h_na, .inl (cy_na, 8000, .inl f_na)), (h_nb, .inl (cy_nb, 8000, .inl f_nb)), (h_nc, .inl (cy_nc, 8000, .inl f_nc))] H → va_D A [(h_isn, .inl (cy_isn, 192, .inl f_isn)), (h_tem, .inl (cy_tem, 192, .inl f_tem)), (h_out, .inl (cy_out, 1000, .inl f12)), (h_mm, .inr (8, (mo158 v_mm (.ref h_nv) (.ref h_nn) (.ref h_na) (.ref h_nb) (.ref h_nc) (.ref h_let) (.ref h_isn) (.ref h_tem) (.ref h_out) (.int x_mm_outs) (.ref h_wri) (.int z6) (.int 900)))), (h_wri, .inl (cy_wri, 1000, .inl f7)), (h_let, .inl (cy_let, 256, .inl f_let)), (h_nv, .inl (cy_nv, 8000, .inl f_nv)), (h_nn, .inl (cy_nn, 8000, .inr (.inl f_nn))), (h_na, .inl (cy_na, 8000, .inl f_na)), (h_nb, .inl (cy_nb, 8000, .inl f_nb)), (h_nc, .inl (cy_nc, 8000, .inl f_nc))] → va_S A s.heap H locs → lv_has ls 6 [(0, .ref h_mm), (1, .int p1), (2, .int (-1)), (3, .int p3), (4, .int 900), (5, .int x11)] → W p l e ({ frames := 24, cells := 0, slots := 0, locals := 563 } : Room) s m ([.ref h_mm, .int p1, .int (-1), .int p3, .int 900] : List Value).toArray below meth c H locs 0 0 (MQ below (va_Qi (fun (r : Int32) (u : (Int32) × (Int32) × (Int32) × (Nat → Int32) × (Nat → Int32)) => (0 ≤ (u.1).toInt ∧ (u.1).toInt ≤ 1000) ∧ (0 ≤ (u.2.1).toInt ∧ (u.2.1).toInt ≤ 1000) ∧ (0 ≤ (u.2.2.1).toInt ∧ (u.2.2.1).toInt ≤ 998) ∧ ((r).toInt = (f_isn (p1).toInt.toNat).toInt + lnX (nlR 14) (RVW f_nv f_nn f_na f_nb f_nc) 7 (f_tem (p1).toInt.toNat).toInt.toNat)) (fun (u : (Int32) × (Int32) × (Int32) × (Nat → Int32) × (Nat → Int32)) (t : State) => va_P (dC, dI) cls [(h_mm, .inr (8, (mo158 v_mm (.ref h_nv) (.ref h_nn) (.ref h_na) (.ref h_nb) (.ref h_nc) (.ref h_let) (.ref h_isn) (.ref h_tem) (.ref h_out) (.int u.1) (.ref h_wri) (.int u.2.1) (.int u.2.2.1)))), (h_wri, .inl (cy_wri, 1000, .inl u.2.2.2.1)), (h_let, .inl (cy_let, 256, .inl f_let)), (h_nv, .inl (cy_nv, 8000, .inl f_nv)), (h_nn, .inl (cy_nn, 8000, .inr (.inl f_nn))), (h_na, .inl (cy_na, 8000, .inl f_na)), (h_nb, .inl (cy_nb, 8000, .inl f_nb)), (h_nc, .inl (cy_nc, 8000, .inl f_nc)), (h_isn, .inl (cy_isn, 192, .inl f_isn)), (h_tem, .inl (cy_tem, 192, .inl f_tem)), (h_out, .inl (cy_out, 1000, .inl u.2.2.2.2))] t.heap ∧ va_D A [(h_mm, .inr (8, (mo158 v_mm (.ref h_nv) (.ref h_nn) (.ref h_na) (.ref h_nb) (.ref h_nc) (.ref h_let) (.ref h_isn) (.ref h_tem) (.ref h_out) (.int u.1) (.ref h_wri) (.int u.2.1) (.int u.2.2.1)))), (h_wri, .inl (cy_wri, 1000, .inl u.2.2.2.1)), (h_let, .inl (cy_let, 256, .inl f_let)), (h_nv, .inl (cy_nv, 8000, .inl f_nv)), (h_nn, .inl (cy_nn, 8000, .inr (.inl f_nn))), (h_na, .inl (cy_na, 8000, .inl f_na)), (h_nb, .inl (cy_nb, 8000, .inl f_nb)), (h_nc, .inl (cy_nc, 8000, .inl f_nc)), (h_isn, .inl (cy_isn, 192, .inl f_isn)), (h_tem, .inl (cy_tem, 192, .inl f_tem)), (h_out, .inl (cy_out, 1000, .inl u.2.2.2.2))]) A) ([.ref h_mm, .int p1, .int (-1), .int p3, .int 900] : List Value).toArray s 0 0 A) (F0 m 52 ls []) := by
      clear hP hD hS hl
      intro n
      induction n with
      | zero => intro x11 f12 H locs ls klp13_0 klp13_1 hm hP hD hS hl; exact False.elim (by omega)
      | succ n ih => 
        intro x11 f12 H locs ls klp13_0 klp13_1 hm hP hD hS hl
        have ih14 := ih
        clear ih
        refine lv_iload hx hb dX11_shows_52 (lv_at hl 5 rfl) ?_
        refine lv_aload_n hx hb dX11_shows_54 rfl (lv_at hl 0 rfl) ?_
        refine va_get (D := (dC, dI)) (ci := 8) (v := .int z6) (C := RX11) (T := TX11) (N := 71) hx hb hw iwX11 hown hK hP 3 rfl rfl 65 (by decide) (hw _ w_f_X11_443) (fun _ h9 => h9) rfl dX11_shows_55 ?_
        refine lv_icmp_ge (tgt := 81) hx hb dX11_shows_58 (by decide) (fun c15 => ?_) (fun c15 => ?_)
        · have kc15 := (cv_le (rfl : (z6).toInt = (z6).toInt) (rfl : (x11).toInt = (x11).toInt)).mp c15
          refine lv_aload_n hx hb dX11_shows_81 rfl (lv_at hl 0 rfl) ?_
          refine lv_aload_n hx hb dX11_shows_82 rfl (lv_at hl 0 rfl) ?_
          refine va_get (D := (dC, dI)) (ci := 8) (v := .int z6) (C := RX11) (T := TX11) (N := 71) hx hb hw iwX11 hown hK hP 3 rfl rfl 65 (by decide) (hw _ w_f_X11_443) (fun _ h9 => h9) rfl dX11_shows_83 ?_
          refine va_put (D := (dC, dI)) (ci := 8) (v := .int z6) (ty := tyX11 63) (C := RX11) (T := TX11) (N := 71) hx hb hw iwX11 tyX11 tyX11_ok nmX11 hown hK hP hD hS 3 rfl rfl 63 (by decide) (hw _ w_f_X11_462) (fun _ h9 => h9) rfl (tyX11_ok 63 (by decide)) rfl rfl (Nat.le_of_ble_eq_true rfl) dX11_shows_86 (fun H locs hP9 hD9 hS9 => ?_)
          clear hP hD hS
          have hP : va_P (dC, dI) cls [(h_isn, .inl (cy_isn, 192, .inl f_isn)), (h_tem, .inl (cy_tem, 192, .inl f_tem)), (h_out, .inl (cy_out, 1000, .inl f12)), (h_mm, .inr (8, (mo158 v_mm (.ref h_nv) (.ref h_nn) (.ref h_na) (.ref h_nb) (.ref h_nc) (.ref h_let) (.ref h_isn) (.ref h_tem) (.ref h_out) (.int z6) (.ref h_wri) (.int z6) (.int 900)))), (h_wri, .inl (cy_wri, 1000, .inl f7)), (h_let, .inl (cy_let, 256, .inl f_let)), (h_nv, .inl (cy_nv, 8000, .inl f_nv)), (h_nn, .inl (cy_nn, 8000, .inr (.inl f_nn))), (h_na, .inl (cy_na, 8000, .inl f_na)), (h_nb, .inl (cy_nb, 8000, .inl f_nb)), (h_nc, .inl (cy_nc, 8000, .inl f_nc))] H := hP9
          have hD : va_D A [(h_isn, .inl (cy_isn, 192, .inl f_isn)), (h_tem, .inl (cy_tem, 192, .inl f_tem)), (h_out, .inl (cy_out, 1000, .inl f12)), (h_mm, .inr (8, (mo158 v_mm (.ref h_nv) (.ref h_nn) (.ref h_na) (.ref h_nb) (.ref h_nc) (.ref h_let) (.ref h_isn) (.ref h_tem) (.ref h_out) (.int z6) (.ref h_wri) (.int z6) (.int 900)))), (h_wri, .inl (cy_wri, 1000, .inl f7)), (h_let, .inl (cy_let, 256, .inl f_let)), (h_nv, .inl (cy_nv, 8000, .inl f_nv)), (h_nn, .inl (cy_nn, 8000, .inr (.inl f_nn))), (h_na, .inl (cy_na, 8000, .inl f_na)), (h_nb, .inl (cy_nb, 8000, .inl f_nb)), (h_nc, .inl (cy_nc, 8000, .inl f_nc))] := hD9
          have hS := hS9
          clear hP9 hD9 hS9
          refine lv_aload_n hx hb dX11_shows_89 rfl (lv_at hl 0 rfl) ?_
          refine va_get (D := (dC, dI)) (ci := 8) (v := .int z6) (C := RX11) (T := TX11) (N := 71) hx hb hw iwX11 hown hK hP 3 rfl rfl 63 (by decide) (hw _ w_f_X11_462) (fun _ h9 => h9) rfl dX11_shows_90 ?_
          replace hP : va_P (dC, dI) cls [(h_mm, .inr (8, (mo158 v_mm (.ref h_nv) (.ref h_nn) (.ref h_na) (.ref h_nb) (.ref h_nc) (.ref h_let) (.ref h_isn) (.ref h_tem) (.ref h_out) (.int z6) (.ref h_wri) (.int z6) (.int 900)))), (h_wri, .inl (cy_wri, 1000, .inl f7)), (h_let, .inl (cy_let, 256, .inl f_let)), (h_nv, .inl (cy_nv, 8000, .inl f_nv)), (h_nn, .inl (cy_nn, 8000, .inr (.inl f_nn))), (h_na, .inl (cy_na, 8000, .inl f_na)), (h_nb, .inl (cy_nb, 8000, .inl f_nb)), (h_nc, .inl (cy_nc, 8000, .inl f_nc)), (h_isn, .inl (cy_isn, 192, .inl f_isn)), (h_tem, .inl (cy_tem, 192, .inl f_tem)), (h_out, .inl (cy_out, 1000, .inl f12))] H := hP.sub [3, 4, 5, 6, 7, 8, 9, 10, 0, 1, 2] rfl
          replace hD : va_D A [(h_mm, .inr (8, (mo158 v_mm (.ref h_nv) (.ref h_nn) (.ref h_na) (.ref h_nb) (.ref h_nc) (.ref h_let) (.ref h_isn) (.ref h_tem) (.ref h_out) (.int z6) (.ref h_wri) (.int z6) (.int 900)))), (h_wri, .inl (cy_wri, 1000, .inl f7)), (h_let, .inl (cy_let, 256, .inl f_let)), (h_nv, .inl (cy_nv, 8000, .inl f_nv)), (h_nn, .inl (cy_nn, 8000, .inr (.inl f_nn))), (h_na, .inl (cy_na, 8000, .inl f_na)), (h_nb, .inl (cy_nb, 8000, .inl f_nb)), (h_nc, .inl (cy_nc, 8000, .inl f_nc)), (h_isn, .inl (cy_isn, 192, .inl f_isn)), (h_tem, .inl (cy_tem, 192, .inl f_tem)), (h_out, .inl (cy_out, 1000, .inl f12))] := hD.sub [3, 4, 5, 6, 7, 8, 9, 10, 0, 1, 2] (by decide) rfl
          refine W.widen (k := 0) (n := 0) (Nat.le_of_ble_eq_true rfl) (Nat.le_of_ble_eq_true rfl) ?_
          have cst900 : (900 : Int32).toInt = 900 := by decide
          have w16 : 0 ≤ ((z6)).toInt ∧ ((z6)).toInt ≤ 1000 := by first | exact k8 | omega
          have w17 : 0 ≤ ((z6)).toInt ∧ ((z6)).toInt ≤ 1000 := by first | exact k8 | omega
          have w18 : 0 ≤ ((900 : Int32)).toInt ∧ ((900 : Int32)).toInt ≤ 998 := by omega
          have w19 : ((z6 : Int32)).toInt = (f_isn (p1).toInt.toNat).toInt + lnX (nlR 14) (RVW f_nv f_nn f_na f_nb f_nc) 7 (f_tem (p1).toInt.toNat).toInt.toNat := by omega
          exact W.iret (v := z6) hx hb hr (fun t ht hW => ⟨⟨z6, (z6, z6, 900, f7, f12), rfl, ⟨w16, w17, w18, w19⟩, by rw [ht]; exact hP, hD⟩, hS.F ht⟩) hS.2.2 dX11_shows_93
        · have kc15 := (not_congr (cv_le (rfl : (z6).toInt = (z6).toInt) (rfl : (x11).toInt = (x11).toInt))).mp c15
          refine lv_aload_n hx hb dX11_shows_61 rfl (lv_at hl 0 rfl) ?_
          refine va_get (D := (dC, dI)) (ci := 8) (v := .ref h_out) (C := RX11) (T := TX11) (N := 71) hx hb hw iwX11 hown hK hP 3 rfl rfl 62 (by decide) (hw _ w_f_X11_243) (fun _ h9 => h9) rfl dX11_shows_62 ?_
          refine lv_iload hx hb dX11_shows_65 (lv_at hl 5 rfl) ?_
          refine lv_aload_n hx hb dX11_shows_67 rfl (lv_at hl 0 rfl) ?_
          refine va_get (D := (dC, dI)) (ci := 8) (v := .ref h_wri) (C := RX11) (T := TX11) (N := 71) hx hb hw iwX11 hown hK hP 3 rfl rfl 64 (by decide) (hw _ w_f_X11_246) (fun _ h9 => h9) rfl dX11_shows_68 ?_
          refine lv_iload hx hb dX11_shows_71 (lv_at hl 5 rfl) ?_
          refine va_iald hx hb hK hP 4 0 rfl rfl (i := x11) (vp_in_iff.mpr (by omega)) dX11_shows_73 ?_
          refine lv_topi (fun z20 ez20 => ?_)
          refine va_iast hx hb hK hP hD hS 2 9 rfl rfl (i := x11) (x := z20) (vp_in_iff.mpr (by omega)) dX11_shows_74 (fun H locs hP9 hD9 hS9 => ?_)
          obtain ⟨f21, ef21⟩ : ∃ g : Nat → Int32, g = upd f12 (Int32.toNatClampNeg x11) z20 := ⟨_, rfl⟩
          clear hP hD hS
          have hP : va_P (dC, dI) cls [(h_isn, .inl (cy_isn, 192, .inl f_isn)), (h_tem, .inl (cy_tem, 192, .inl f_tem)), (h_out, .inl (cy_out, 1000, .inl f21)), (h_mm, .inr (8, (mo158 v_mm (.ref h_nv) (.ref h_nn) (.ref h_na) (.ref h_nb) (.ref h_nc) (.ref h_let) (.ref h_isn) (.ref h_tem) (.ref h_out) (.int x_mm_outs) (.ref h_wri) (.int z6) (.int 900)))), (h_wri, .inl (cy_wri, 1000, .inl f7)), (h_let, .inl (cy_let, 256, .inl f_let)), (h_nv, .inl (cy_nv, 8000, .inl f_nv)), (h_nn, .inl (cy_nn, 8000, .inr (.inl f_nn))), (h_na, .inl (cy_na, 8000, .inl f_na)), (h_nb, .inl (cy_nb, 8000, .inl f_nb)), (h_nc, .inl (cy_nc, 8000, .inl f_nc))] H := by rw [ef21]; exact hP9
          have hD : va_D A [(h_isn, .inl (cy_isn, 192, .inl f_isn)), (h_tem, .inl (cy_tem, 192, .inl f_tem)), (h_out, .inl (cy_out, 1000, .inl f21)), (h_mm, .inr (8, (mo158 v_mm (.ref h_nv) (.ref h_nn) (.ref h_na) (.ref h_nb) (.ref h_nc) (.ref h_let) (.ref h_isn) (.ref h_tem) (.ref h_out) (.int x_mm_outs) (.ref h_wri) (.int z6) (.int 900)))), (h_wri, .inl (cy_wri, 1000, .inl f7)), (h_let, .inl (cy_let, 256, .inl f_let)), (h_nv, .inl (cy_nv, 8000, .inl f_nv)), (h_nn, .inl (cy_nn, 8000, .inr (.inl f_nn))), (h_na, .inl (cy_na, 8000, .inl f_na)), (h_nb, .inl (cy_nb, 8000, .inl f_nb)), (h_nc, .inl (cy_nc, 8000, .inl f_nc))] := by rw [ef21]; exact hD9
          have hS := hS9
          clear hP9 hD9 hS9
          clear ef21
          obtain ⟨z22, ez22⟩ : ∃ y : Int32, y = x11 + 1 := ⟨_, rfl⟩
          have tz22 : (z22).toInt = (x11).toInt + 1 := by rw [ez22]; exact i_add rfl (by decide) (by omega)
          refine lv_iinc (v := z22) (lv' := [(5, .int z22), (0, .ref h_mm), (1, .int p1), (2, .int (-1)), (3, .int p3), (4, .int 900)]) hx hb dX11_shows_75 hl (k := 5) rfl (by rw [ez22]; rfl) (by decide) rfl (fun ls hl => ?_)
          refine lv_goto (tgt := 52) hx hb dX11_shows_78 (by decide) ?_
          exact ih14 (z22) (f21) _ _ _ (by omega) (by first | exact klp13_1 | omega) (by omega) hP hD hS (lv_sub hl [1, 2, 3, 4, 5, 0] rfl)
    have cst0 : (0 : Int32).toInt = 0 := by decide
    exact lp13 _ (0) (f_out) _ _ _ (by decide) (by omega) (Nat.le_refl _) hP hD hS (lv_sub hl [1, 2, 3, 4, 5, 0] rfl)
  · have kc2 := (not_congr (cv_eq (rfl : (z1).toInt = (z1).toInt) (by decide : (0 : Int32).toInt = 0))).mp c2
    refine lv_aload_n hx hb dX11_shows_20 rfl (lv_at hl 0 rfl) ?_
    refine lv_bipush (v := 45) hx hb dX11_shows_21 (by decide) ?_
    obtain ⟨vq23, evq23⟩ := mq158_118 v_mm (.ref h_nv) (.ref h_nn) (.ref h_na) (.ref h_nb) (.ref h_nc) (.ref h_let) (.ref h_isn) (.ref h_tem) (.ref h_out) (.int x_mm_outs)
    replace hP : va_P (dC, dI) cls [(h_mm, .inr (8, (mo118 vq23 (.ref h_wri) (.int 0) (.int 900)))), (h_wri, .inl (cy_wri, 1000, .inl f_wri)), (h_let, .inl (cy_let, 256, .inl f_let)), (h_nv, .inl (cy_nv, 8000, .inl f_nv)), (h_nn, .inl (cy_nn, 8000, .inr (.inl f_nn))), (h_na, .inl (cy_na, 8000, .inl f_na)), (h_nb, .inl (cy_nb, 8000, .inl f_nb)), (h_nc, .inl (cy_nc, 8000, .inl f_nc)), (h_isn, .inl (cy_isn, 192, .inl f_isn)), (h_tem, .inl (cy_tem, 192, .inl f_tem)), (h_out, .inl (cy_out, 1000, .inl f_out))] H := by rw [evq23]; exact hP
    replace hD : va_D A [(h_mm, .inr (8, (mo118 vq23 (.ref h_wri) (.int 0) (.int 900)))), (h_wri, .inl (cy_wri, 1000, .inl f_wri)), (h_let, .inl (cy_let, 256, .inl f_let)), (h_nv, .inl (cy_nv, 8000, .inl f_nv)), (h_nn, .inl (cy_nn, 8000, .inr (.inl f_nn))), (h_na, .inl (cy_na, 8000, .inl f_na)), (h_nb, .inl (cy_nb, 8000, .inl f_nb)), (h_nc, .inl (cy_nc, 8000, .inl f_nc)), (h_isn, .inl (cy_isn, 192, .inl f_isn)), (h_tem, .inl (cy_tem, 192, .inl f_tem)), (h_out, .inl (cy_out, 1000, .inl f_out))] := by rw [evq23]; exact hD
    have cst45 : (45 : Int32).toInt = 45 := by decide
    have hPc := hP.sub (ws' := [(h_mm, .inr (8, (mo118 vq23 (.ref h_wri) (.int 0) (.int 900)))), (h_wri, .inl (cy_wri, 1000, .inl f_wri))]) [0, 1] rfl
    have hDc := hD.sub (ws' := [(h_mm, .inr (8, (mo118 vq23 (.ref h_wri) (.int 0) (.int 900)))), (h_wri, .inl (cy_wri, 1000, .inl f_wri))]) [0, 1] (by decide) rfl
    have hKc := hK.sub (tys' := [(cy_wri, .int)]) [0] rfl
    have hFc := va_free (wc := [(h_mm, .inr (8, (mo118 vq23 (.ref h_wri) (.int 0) (.int 900)))), (h_wri, .inl (cy_wri, 1000, .inl f_wri))]) hD hS hA [0, 1] rfl
    refine va_callv (va_runV (As := [.int 45]) (rest := []) ⟨hx, hb, hml, hown, hts⟩ (c_X11_says_n l dC dI H.size h_mm h_wri vq23 0 900 cy_wri f_wri 45 (by decide) (by decide) (by omega)) (cwV 1 hts (gv hT w_m_X11_452 w_instanceMethod_X11_says ws_sel_X11_says w_ini_X11 w_code_X11_says) rfl rfl rfl (by decide +kernel) ⟨(Nat.le_of_ble_eq_true rfl), (Nat.le_of_ble_eq_true rfl)⟩) ⟨pre_blind, va_recv hK hP (ci := 8) (q0 := 0) rfl rfl, pre_of hPc hKc hDc hN⟩ rfl rfl hl.1 rfl (lv_room (Nat.le_of_ble_eq_true rfl)) dX11_shows_23 ⟨(Nat.le_of_ble_eq_true rfl), (Nat.le_of_ble_eq_true rfl)⟩) hS (fun q _ h => hFc q h) hFc (fun u t H locs ht hvm hq hB hz1 hk1 hS9 => ?_)
    obtain ⟨z25, f26⟩ := u
    obtain ⟨hP1, hD1⟩ := hB
    rw [ht] at hP1
    obtain ⟨hP9, hD9⟩ := va_join (wr := [(h_let, .inl (cy_let, 256, .inl f_let)), (h_nv, .inl (cy_nv, 8000, .inl f_nv)), (h_nn, .inl (cy_nn, 8000, .inr (.inl f_nn))), (h_na, .inl (cy_na, 8000, .inl f_na)), (h_nb, .inl (cy_nb, 8000, .inl f_nb)), (h_nc, .inl (cy_nc, 8000, .inl f_nc)), (h_isn, .inl (cy_isn, 192, .inl f_isn)), (h_tem, .inl (cy_tem, 192, .inl f_tem)), (h_out, .inl (cy_out, 1000, .inl f_out))]) (w1 := [(h_mm, .inr (8, (mo118 vq23 (.ref h_wri) (.int z25) (.int 900)))), (h_wri, .inl (cy_wri, 1000, .inl f26))]) hP hD [0, 1] [2, 3, 4, 5, 6, 7, 8, 9, 10] rfl rfl (by decide) (by decide) hk1 hFc hP1 hD1
    clear hP hD hS hPc hDc hKc hFc hP1 hD1 hk1 hz1 ht hvm
    have hP : va_P (dC, dI) cls [(h_let, .inl (cy_let, 256, .inl f_let)), (h_nv, .inl (cy_nv, 8000, .inl f_nv)), (h_nn, .inl (cy_nn, 8000, .inr (.inl f_nn))), (h_na, .inl (cy_na, 8000, .inl f_na)), (h_nb, .inl (cy_nb, 8000, .inl f_nb)), (h_nc, .inl (cy_nc, 8000, .inl f_nc)), (h_isn, .inl (cy_isn, 192, .inl f_isn)), (h_tem, .inl (cy_tem, 192, .inl f_tem)), (h_out, .inl (cy_out, 1000, .inl f_out)), (h_mm, .inr (8, (mo118 vq23 (.ref h_wri) (.int z25) (.int 900)))), (h_wri, .inl (cy_wri, 1000, .inl f26))] H := hP9
    have hD : va_D A [(h_let, .inl (cy_let, 256, .inl f_let)), (h_nv, .inl (cy_nv, 8000, .inl f_nv)), (h_nn, .inl (cy_nn, 8000, .inr (.inl f_nn))), (h_na, .inl (cy_na, 8000, .inl f_na)), (h_nb, .inl (cy_nb, 8000, .inl f_nb)), (h_nc, .inl (cy_nc, 8000, .inl f_nc)), (h_isn, .inl (cy_isn, 192, .inl f_isn)), (h_tem, .inl (cy_tem, 192, .inl f_tem)), (h_out, .inl (cy_out, 1000, .inl f_out)), (h_mm, .inr (8, (mo118 vq23 (.ref h_wri) (.int z25) (.int 900)))), (h_wri, .inl (cy_wri, 1000, .inl f26))] := hD9
    have hS := hS9
    clear hP9 hD9 hS9
    rw [evq23] at hP hD
    replace hP : va_P (dC, dI) cls [(h_let, .inl (cy_let, 256, .inl f_let)), (h_nv, .inl (cy_nv, 8000, .inl f_nv)), (h_nn, .inl (cy_nn, 8000, .inr (.inl f_nn))), (h_na, .inl (cy_na, 8000, .inl f_na)), (h_nb, .inl (cy_nb, 8000, .inl f_nb)), (h_nc, .inl (cy_nc, 8000, .inl f_nc)), (h_isn, .inl (cy_isn, 192, .inl f_isn)), (h_tem, .inl (cy_tem, 192, .inl f_tem)), (h_out, .inl (cy_out, 1000, .inl f_out)), (h_mm, .inr (8, (mo158 v_mm (.ref h_nv) (.ref h_nn) (.ref h_na) (.ref h_nb) (.ref h_nc) (.ref h_let) (.ref h_isn) (.ref h_tem) (.ref h_out) (.int x_mm_outs) (.ref h_wri) (.int z25) (.int 900)))), (h_wri, .inl (cy_wri, 1000, .inl f26))] H := hP
    replace hD : va_D A [(h_let, .inl (cy_let, 256, .inl f_let)), (h_nv, .inl (cy_nv, 8000, .inl f_nv)), (h_nn, .inl (cy_nn, 8000, .inr (.inl f_nn))), (h_na, .inl (cy_na, 8000, .inl f_na)), (h_nb, .inl (cy_nb, 8000, .inl f_nb)), (h_nc, .inl (cy_nc, 8000, .inl f_nc)), (h_isn, .inl (cy_isn, 192, .inl f_isn)), (h_tem, .inl (cy_tem, 192, .inl f_tem)), (h_out, .inl (cy_out, 1000, .inl f_out)), (h_mm, .inr (8, (mo158 v_mm (.ref h_nv) (.ref h_nn) (.ref h_na) (.ref h_nb) (.ref h_nc) (.ref h_let) (.ref h_isn) (.ref h_tem) (.ref h_out) (.int x_mm_outs) (.ref h_wri) (.int z25) (.int 900)))), (h_wri, .inl (cy_wri, 1000, .inl f26))] := hD
    clear evq23 
    obtain ⟨k27, k28⟩ := hq
    replace k27 : 0 ≤ ((z25)).toInt ∧ ((z25)).toInt ≤ 1000 := k27
    replace k28 : ((z25)).toInt = ((0 : Int32)).toInt + 1 := k28
    refine lv_aload_n hx hb dX11_shows_26 rfl (lv_at hl 0 rfl) ?_
    refine lv_aload_n hx hb dX11_shows_27 rfl (lv_at hl 0 rfl) ?_
    refine va_get (D := (dC, dI)) (ci := 8) (v := .ref h_tem) (C := RX11) (T := TX11) (N := 71) hx hb hw iwX11 hown hK hP 9 rfl rfl 12 (by decide) (hw _ w_f_X11_152) (fun _ h9 => h9) rfl dX11_shows_28 ?_
    refine lv_iload_n hx hb dX11_shows_31 rfl (lv_at hl 1 rfl) ?_
    refine va_iald hx hb hK hP 7 8 rfl rfl (i := p1) (vp_in_iff.mpr (by omega)) dX11_shows_32 ?_
    refine lv_topi (fun z29 ez29 => ?_)
    have rz29 : 0 ≤ (z29).toInt ∧ (z29).toInt ≤ 7999 := by rw [ez29]; exact hf_tem _
    have tq9 : f_tem (p1).toInt.toNat = z29 := by rw [← clamp_nat (i := p1) (by omega), ← ez29]
    have tr9 : 0 ≤ (z29).toInt ∧ (z29).toInt < N ∧ hz (z29).toInt.toNat = 7 := by rw [← tq9]; omega
    have wf9 : WHX (RVW f_nv f_nn f_na f_nb f_nc) 7 (z29).toInt.toNat := by rw [← tq9]; exact hn_whx
    have le9 : lnX (nlR 14) (RVW f_nv f_nn f_na f_nb f_nc) 7 (f_tem (p1).toInt.toNat).toInt.toNat = lnX (nlR 14) (RVW f_nv f_nn f_na f_nb f_nc) 7 (z29).toInt.toNat := by rw [tq9]
    refine lv_iload_n hx hb dX11_shows_33 rfl (lv_at hl 2 rfl) ?_
    refine lv_iload_n hx hb dX11_shows_34 rfl (lv_at hl 3 rfl) ?_
    obtain ⟨vq30, evq30⟩ := mq158_156 v_mm (.ref h_isn) (.ref h_tem) (.ref h_out) (.int x_mm_outs)
    replace hP : va_P (dC, dI) cls [(h_let, .inl (cy_let, 256, .inl f_let)), (h_nv, .inl (cy_nv, 8000, .inl f_nv)), (h_nn, .inl (cy_nn, 8000, .inr (.inl f_nn))), (h_na, .inl (cy_na, 8000, .inl f_na)), (h_nb, .inl (cy_nb, 8000, .inl f_nb)), (h_nc, .inl (cy_nc, 8000, .inl f_nc)), (h_isn, .inl (cy_isn, 192, .inl f_isn)), (h_tem, .inl (cy_tem, 192, .inl f_tem)), (h_out, .inl (cy_out, 1000, .inl f_out)), (h_mm, .inr (8, (mo156 vq30 (.ref h_nv) (.ref h_nn) (.ref h_na) (.ref h_nb) (.ref h_nc) (.ref h_let) (.ref h_wri) (.int z25) (.int 900)))), (h_wri, .inl (cy_wri, 1000, .inl f26))] H := by rw [evq30]; exact hP
    replace hD : va_D A [(h_let, .inl (cy_let, 256, .inl f_let)), (h_nv, .inl (cy_nv, 8000, .inl f_nv)), (h_nn, .inl (cy_nn, 8000, .inr (.inl f_nn))), (h_na, .inl (cy_na, 8000, .inl f_na)), (h_nb, .inl (cy_nb, 8000, .inl f_nb)), (h_nc, .inl (cy_nc, 8000, .inl f_nc)), (h_isn, .inl (cy_isn, 192, .inl f_isn)), (h_tem, .inl (cy_tem, 192, .inl f_tem)), (h_out, .inl (cy_out, 1000, .inl f_out)), (h_mm, .inr (8, (mo156 vq30 (.ref h_nv) (.ref h_nn) (.ref h_na) (.ref h_nb) (.ref h_nc) (.ref h_let) (.ref h_wri) (.int z25) (.int 900)))), (h_wri, .inl (cy_wri, 1000, .inl f26))] := by rw [evq30]; exact hD
    have cstm1 : ((-1) : Int32).toInt = -1 := by decide
    have hPc := hP.sub (ws' := [(h_mm, .inr (8, (mo156 vq30 (.ref h_nv) (.ref h_nn) (.ref h_na) (.ref h_nb) (.ref h_nc) (.ref h_let) (.ref h_wri) (.int z25) (.int 900)))), (h_wri, .inl (cy_wri, 1000, .inl f26)), (h_let, .inl (cy_let, 256, .inl f_let)), (h_nv, .inl (cy_nv, 8000, .inl f_nv)), (h_nn, .inl (cy_nn, 8000, .inr (.inl f_nn))), (h_na, .inl (cy_na, 8000, .inl f_na)), (h_nb, .inl (cy_nb, 8000, .inl f_nb)), (h_nc, .inl (cy_nc, 8000, .inl f_nc))]) [9, 10, 0, 1, 2, 3, 4, 5] rfl
    have hDc := hD.sub (ws' := [(h_mm, .inr (8, (mo156 vq30 (.ref h_nv) (.ref h_nn) (.ref h_na) (.ref h_nb) (.ref h_nc) (.ref h_let) (.ref h_wri) (.int z25) (.int 900)))), (h_wri, .inl (cy_wri, 1000, .inl f26)), (h_let, .inl (cy_let, 256, .inl f_let)), (h_nv, .inl (cy_nv, 8000, .inl f_nv)), (h_nn, .inl (cy_nn, 8000, .inr (.inl f_nn))), (h_na, .inl (cy_na, 8000, .inl f_na)), (h_nb, .inl (cy_nb, 8000, .inl f_nb)), (h_nc, .inl (cy_nc, 8000, .inl f_nc))]) [9, 10, 0, 1, 2, 3, 4, 5] (by decide) rfl
    have hKc := hK.sub (tys' := [(cy_wri, .int), (cy_let, .int), (cy_nv, .int), (cy_nn, .long), (cy_na, .int), (cy_nb, .int), (cy_nc, .int)]) [0, 1, 2, 3, 4, 5, 6] rfl
    have hFc := va_free (wc := [(h_mm, .inr (8, (mo156 vq30 (.ref h_nv) (.ref h_nn) (.ref h_na) (.ref h_nb) (.ref h_nc) (.ref h_let) (.ref h_wri) (.int z25) (.int 900)))), (h_wri, .inl (cy_wri, 1000, .inl f26)), (h_let, .inl (cy_let, 256, .inl f_let)), (h_nv, .inl (cy_nv, 8000, .inl f_nv)), (h_nn, .inl (cy_nn, 8000, .inr (.inl f_nn))), (h_na, .inl (cy_na, 8000, .inl f_na)), (h_nb, .inl (cy_nb, 8000, .inl f_nb)), (h_nc, .inl (cy_nc, 8000, .inl f_nc))]) hD hS hA [9, 10, 0, 1, 2, 3, 4, 5] rfl
    refine va_callv (va_runV (As := [.int z29, .int (-1), .int p3]) (rest := []) ⟨hx, hb, hml, hown, hts⟩ (c_X11_saysTerm_n l 8 dC dI H.size h_mm h_wri h_let h_nv h_nn h_na h_nb h_nc vq30 z25 900 cy_wri f26 cy_let f_let cy_nv f_nv cy_nn f_nn cy_na f_na cy_nb f_nb cy_nc f_nc z29 p3 N hz 7 (by first | exact k27 | omega) (by decide) hf_nv hf_na hf_nb hf_nc (by omega) (by first | exact q1 | omega) (by first | exact q3 | omega) (by omega) (by omega) hn_nds wf9) (cwV 3 hts (gv hT w_m_X11_459 w_instanceMethod_X11_saysTerm ws_sel_X11_saysTerm w_ini_X11 w_code_X11_saysTerm) rfl rfl rfl (by decide +kernel) ⟨(Nat.le_of_ble_eq_true rfl), (Nat.le_of_ble_eq_true rfl)⟩) ⟨pre_blind, va_recv hK hP (ci := 8) (q0 := 9) rfl rfl, pre_of hPc hKc hDc hN⟩ rfl rfl hl.1 rfl (lv_room (Nat.le_of_ble_eq_true rfl)) dX11_shows_35 ⟨(Nat.le_of_ble_eq_true rfl), (Nat.le_of_ble_eq_true rfl)⟩) hS (fun q _ h => hFc q h) hFc (fun u t H locs ht hvm hq hB hz1 hk1 hS9 => ?_)
    obtain ⟨z32, f33⟩ := u
    obtain ⟨hP1, hD1⟩ := hB
    rw [ht] at hP1
    obtain ⟨hP9, hD9⟩ := va_join (wr := [(h_isn, .inl (cy_isn, 192, .inl f_isn)), (h_tem, .inl (cy_tem, 192, .inl f_tem)), (h_out, .inl (cy_out, 1000, .inl f_out))]) (w1 := [(h_mm, .inr (8, (mo156 vq30 (.ref h_nv) (.ref h_nn) (.ref h_na) (.ref h_nb) (.ref h_nc) (.ref h_let) (.ref h_wri) (.int z32) (.int 900)))), (h_wri, .inl (cy_wri, 1000, .inl f33)), (h_let, .inl (cy_let, 256, .inl f_let)), (h_nv, .inl (cy_nv, 8000, .inl f_nv)), (h_nn, .inl (cy_nn, 8000, .inr (.inl f_nn))), (h_na, .inl (cy_na, 8000, .inl f_na)), (h_nb, .inl (cy_nb, 8000, .inl f_nb)), (h_nc, .inl (cy_nc, 8000, .inl f_nc))]) hP hD [9, 10, 0, 1, 2, 3, 4, 5] [6, 7, 8] rfl rfl (by decide) (by decide) hk1 hFc hP1 hD1
    clear hP hD hS hPc hDc hKc hFc hP1 hD1 hk1 hz1 ht hvm
    have hP : va_P (dC, dI) cls [(h_isn, .inl (cy_isn, 192, .inl f_isn)), (h_tem, .inl (cy_tem, 192, .inl f_tem)), (h_out, .inl (cy_out, 1000, .inl f_out)), (h_mm, .inr (8, (mo156 vq30 (.ref h_nv) (.ref h_nn) (.ref h_na) (.ref h_nb) (.ref h_nc) (.ref h_let) (.ref h_wri) (.int z32) (.int 900)))), (h_wri, .inl (cy_wri, 1000, .inl f33)), (h_let, .inl (cy_let, 256, .inl f_let)), (h_nv, .inl (cy_nv, 8000, .inl f_nv)), (h_nn, .inl (cy_nn, 8000, .inr (.inl f_nn))), (h_na, .inl (cy_na, 8000, .inl f_na)), (h_nb, .inl (cy_nb, 8000, .inl f_nb)), (h_nc, .inl (cy_nc, 8000, .inl f_nc))] H := hP9
    have hD : va_D A [(h_isn, .inl (cy_isn, 192, .inl f_isn)), (h_tem, .inl (cy_tem, 192, .inl f_tem)), (h_out, .inl (cy_out, 1000, .inl f_out)), (h_mm, .inr (8, (mo156 vq30 (.ref h_nv) (.ref h_nn) (.ref h_na) (.ref h_nb) (.ref h_nc) (.ref h_let) (.ref h_wri) (.int z32) (.int 900)))), (h_wri, .inl (cy_wri, 1000, .inl f33)), (h_let, .inl (cy_let, 256, .inl f_let)), (h_nv, .inl (cy_nv, 8000, .inl f_nv)), (h_nn, .inl (cy_nn, 8000, .inr (.inl f_nn))), (h_na, .inl (cy_na, 8000, .inl f_na)), (h_nb, .inl (cy_nb, 8000, .inl f_nb)), (h_nc, .inl (cy_nc, 8000, .inl f_nc))] := hD9
    have hS := hS9
    clear hP9 hD9 hS9
    rw [evq30] at hP hD
    replace hP : va_P (dC, dI) cls [(h_isn, .inl (cy_isn, 192, .inl f_isn)), (h_tem, .inl (cy_tem, 192, .inl f_tem)), (h_out, .inl (cy_out, 1000, .inl f_out)), (h_mm, .inr (8, (mo158 v_mm (.ref h_nv) (.ref h_nn) (.ref h_na) (.ref h_nb) (.ref h_nc) (.ref h_let) (.ref h_isn) (.ref h_tem) (.ref h_out) (.int x_mm_outs) (.ref h_wri) (.int z32) (.int 900)))), (h_wri, .inl (cy_wri, 1000, .inl f33)), (h_let, .inl (cy_let, 256, .inl f_let)), (h_nv, .inl (cy_nv, 8000, .inl f_nv)), (h_nn, .inl (cy_nn, 8000, .inr (.inl f_nn))), (h_na, .inl (cy_na, 8000, .inl f_na)), (h_nb, .inl (cy_nb, 8000, .inl f_nb)), (h_nc, .inl (cy_nc, 8000, .inl f_nc))] H := hP
    replace hD : va_D A [(h_isn, .inl (cy_isn, 192, .inl f_isn)), (h_tem, .inl (cy_tem, 192, .inl f_tem)), (h_out, .inl (cy_out, 1000, .inl f_out)), (h_mm, .inr (8, (mo158 v_mm (.ref h_nv) (.ref h_nn) (.ref h_na) (.ref h_nb) (.ref h_nc) (.ref h_let) (.ref h_isn) (.ref h_tem) (.ref h_out) (.int x_mm_outs) (.ref h_wri) (.int z32) (.int 900)))), (h_wri, .inl (cy_wri, 1000, .inl f33)), (h_let, .inl (cy_let, 256, .inl f_let)), (h_nv, .inl (cy_nv, 8000, .inl f_nv)), (h_nn, .inl (cy_nn, 8000, .inr (.inl f_nn))), (h_na, .inl (cy_na, 8000, .inl f_na)), (h_nb, .inl (cy_nb, 8000, .inl f_nb)), (h_nc, .inl (cy_nc, 8000, .inl f_nc))] := hD
    clear evq30 
    obtain ⟨k34, k35⟩ := hq
    replace k34 : 0 ≤ ((z32)).toInt ∧ ((z32)).toInt ≤ 1000 := k34
    replace k35 : ((z32)).toInt = ((z25)).toInt + lnX (nlR 14) (RVW f_nv f_nn f_na f_nb f_nc) (7 : Nat) ((z29)).toInt.toNat := k35
    refine lv_aload_n hx hb dX11_shows_38 rfl (lv_at hl 0 rfl) ?_
    refine va_get (D := (dC, dI)) (ci := 8) (v := .int z32) (C := RX11) (T := TX11) (N := 71) hx hb hw iwX11 hown hK hP 3 rfl rfl 65 (by decide) (hw _ w_f_X11_443) (fun _ h9 => h9) rfl dX11_shows_39 ?_
    refine lv_iload hx hb dX11_shows_42 (lv_at hl 4 rfl) ?_
    refine lv_icmp_le (tgt := 49) hx hb dX11_shows_44 (by decide) (fun _ => ?_) (fun c36 => False.elim (by have kc36 := (not_congr (cv_le (rfl : (z32).toInt = (z32).toInt) (by decide : (900 : Int32).toInt = 900))).mp c36; omega))
    refine lv_iconst (v := 0) hx hb dX11_shows_49 (by decide) ?_
    refine lv_istore (lv' := [(5, .int 0), (0, .ref h_mm), (1, .int p1), (2, .int (-1)), (3, .int p3), (4, .int 900)]) hx hb dX11_shows_50 hl (by decide) rfl (fun ls hl => ?_)
    have lp39 : ∀ (n : Nat) (x37 : Int32) (f38 : Nat → Int32) (H : Heap) (locs : List Loc) (ls : Array Slot), (0 ≤ (x37).toInt ∧ (x37).toInt ≤ 1000) → ((z32).toInt ≤ 900) → (1000 - (x37).toInt).toNat + 1 ≤ n → va_P (dC, dI) cls [(h_isn, .inl (cy_isn, 192, .inl f_isn)), (h_tem, .inl (cy_tem, 192, .inl f_tem)), (h_out, .inl (cy_out, 1000, .inl f38)), (h_mm, .inr (8, (mo158 v_mm (.ref h_nv) (.ref h_nn) (.ref h_na) (.ref h_nb) (.ref h_nc) (.ref h_let) (.ref h_isn) (.ref h_tem) (.ref h_out) (.int x_mm_outs) (.ref h_wri) (.int z32) (.int 900)))), (h_wri, .inl (cy_wri, 1000, .inl f33)), (h_let, .inl (cy_let, 256, .inl f_let)), (h_nv, .inl (cy_nv, 8000, .inl f_nv)), (h_nn, .inl (cy_nn, 8000, .inr (.inl f_nn))), (h_na, .inl (cy_na, 8000, .inl f_na)), (h_nb, .inl (cy_nb, 8000, .inl f_nb)), (h_nc, .inl (cy_nc, 8000, .inl f_nc))] H → va_D A [(h_isn, .inl (cy_isn, 192, .inl f_isn)), (h_tem, .inl (cy_tem, 192, .inl f_tem)), (h_out, .inl (cy_out, 1000, .inl f38)), (h_mm, .inr (8, (mo158 v_mm (.ref h_nv) (.ref h_nn) (.ref h_na) (.ref h_nb) (.ref h_nc) (.ref h_let) (.ref h_isn) (.ref h_tem) (.ref h_out) (.int x_mm_outs) (.ref h_wri) (.int z32) (.int 900)))), (h_wri, .inl (cy_wri, 1000, .inl f33)), (h_let, .inl (cy_let, 256, .inl f_let)), (h_nv, .inl (cy_nv, 8000, .inl f_nv)), (h_nn, .inl (cy_nn, 8000, .inr (.inl f_nn))), (h_na, .inl (cy_na, 8000, .inl f_na)), (h_nb, .inl (cy_nb, 8000, .inl f_nb)), (h_nc, .inl (cy_nc, 8000, .inl f_nc))] → va_S A s.heap H locs → lv_has ls 6 [(0, .ref h_mm), (1, .int p1), (2, .int (-1)), (3, .int p3), (4, .int 900), (5, .int x37)] → W p l e ({ frames := 24, cells := 0, slots := 0, locals := 563 } : Room) s m ([.ref h_mm, .int p1, .int (-1), .int p3, .int 900] : List Value).toArray below meth c H locs 0 0 (MQ below (va_Qi (fun (r : Int32) (u : (Int32) × (Int32) × (Int32) × (Nat → Int32) × (Nat → Int32)) => (0 ≤ (u.1).toInt ∧ (u.1).toInt ≤ 1000) ∧ (0 ≤ (u.2.1).toInt ∧ (u.2.1).toInt ≤ 1000) ∧ (0 ≤ (u.2.2.1).toInt ∧ (u.2.2.1).toInt ≤ 998) ∧ ((r).toInt = (f_isn (p1).toInt.toNat).toInt + lnX (nlR 14) (RVW f_nv f_nn f_na f_nb f_nc) 7 (f_tem (p1).toInt.toNat).toInt.toNat)) (fun (u : (Int32) × (Int32) × (Int32) × (Nat → Int32) × (Nat → Int32)) (t : State) => va_P (dC, dI) cls [(h_mm, .inr (8, (mo158 v_mm (.ref h_nv) (.ref h_nn) (.ref h_na) (.ref h_nb) (.ref h_nc) (.ref h_let) (.ref h_isn) (.ref h_tem) (.ref h_out) (.int u.1) (.ref h_wri) (.int u.2.1) (.int u.2.2.1)))), (h_wri, .inl (cy_wri, 1000, .inl u.2.2.2.1)), (h_let, .inl (cy_let, 256, .inl f_let)), (h_nv, .inl (cy_nv, 8000, .inl f_nv)), (h_nn, .inl (cy_nn, 8000, .inr (.inl f_nn))), (h_na, .inl (cy_na, 8000, .inl f_na)), (h_nb, .inl (cy_nb, 8000, .inl f_nb)), (h_nc, .inl (cy_nc, 8000, .inl f_nc)), (h_isn, .inl (cy_isn, 192, .inl f_isn)), (h_tem, .inl (cy_tem, 192, .inl f_tem)), (h_out, .inl (cy_out, 1000, .inl u.2.2.2.2))] t.heap ∧ va_D A [(h_mm, .inr (8, (mo158 v_mm (.ref h_nv) (.ref h_nn) (.ref h_na) (.ref h_nb) (.ref h_nc) (.ref h_let) (.ref h_isn) (.ref h_tem) (.ref h_out) (.int u.1) (.ref h_wri) (.int u.2.1) (.int u.2.2.1)))), (h_wri, .inl (cy_wri, 1000, .inl u.2.2.2.1)), (h_let, .inl (cy_let, 256, .inl f_let)), (h_nv, .inl (cy_nv, 8000, .inl f_nv)), (h_nn, .inl (cy_nn, 8000, .inr (.inl f_nn))), (h_na, .inl (cy_na, 8000, .inl f_na)), (h_nb, .inl (cy_nb, 8000, .inl f_nb)), (h_nc, .inl (cy_nc, 8000, .inl f_nc)), (h_isn, .inl (cy_isn, 192, .inl f_isn)), (h_tem, .inl (cy_tem, 192, .inl f_tem)), (h_out, .inl (cy_out, 1000, .inl u.2.2.2.2))]) A) ([.ref h_mm, .int p1, .int (-1), .int p3, .int 900] : List Value).toArray s 0 0 A) (F0 m 52 ls []) := by
      clear hP hD hS hl
      intro n
      induction n with
      | zero => intro x37 f38 H locs ls klp39_0 klp39_1 hm hP hD hS hl; exact False.elim (by omega)
      | succ n ih => 
        intro x37 f38 H locs ls klp39_0 klp39_1 hm hP hD hS hl
        have ih40 := ih
        clear ih
        refine lv_iload hx hb dX11_shows_52 (lv_at hl 5 rfl) ?_
        refine lv_aload_n hx hb dX11_shows_54 rfl (lv_at hl 0 rfl) ?_
        refine va_get (D := (dC, dI)) (ci := 8) (v := .int z32) (C := RX11) (T := TX11) (N := 71) hx hb hw iwX11 hown hK hP 3 rfl rfl 65 (by decide) (hw _ w_f_X11_443) (fun _ h9 => h9) rfl dX11_shows_55 ?_
        refine lv_icmp_ge (tgt := 81) hx hb dX11_shows_58 (by decide) (fun c41 => ?_) (fun c41 => ?_)
        · have kc41 := (cv_le (rfl : (z32).toInt = (z32).toInt) (rfl : (x37).toInt = (x37).toInt)).mp c41
          refine lv_aload_n hx hb dX11_shows_81 rfl (lv_at hl 0 rfl) ?_
          refine lv_aload_n hx hb dX11_shows_82 rfl (lv_at hl 0 rfl) ?_
          refine va_get (D := (dC, dI)) (ci := 8) (v := .int z32) (C := RX11) (T := TX11) (N := 71) hx hb hw iwX11 hown hK hP 3 rfl rfl 65 (by decide) (hw _ w_f_X11_443) (fun _ h9 => h9) rfl dX11_shows_83 ?_
          refine va_put (D := (dC, dI)) (ci := 8) (v := .int z32) (ty := tyX11 63) (C := RX11) (T := TX11) (N := 71) hx hb hw iwX11 tyX11 tyX11_ok nmX11 hown hK hP hD hS 3 rfl rfl 63 (by decide) (hw _ w_f_X11_462) (fun _ h9 => h9) rfl (tyX11_ok 63 (by decide)) rfl rfl (Nat.le_of_ble_eq_true rfl) dX11_shows_86 (fun H locs hP9 hD9 hS9 => ?_)
          clear hP hD hS
          have hP : va_P (dC, dI) cls [(h_isn, .inl (cy_isn, 192, .inl f_isn)), (h_tem, .inl (cy_tem, 192, .inl f_tem)), (h_out, .inl (cy_out, 1000, .inl f38)), (h_mm, .inr (8, (mo158 v_mm (.ref h_nv) (.ref h_nn) (.ref h_na) (.ref h_nb) (.ref h_nc) (.ref h_let) (.ref h_isn) (.ref h_tem) (.ref h_out) (.int z32) (.ref h_wri) (.int z32) (.int 900)))), (h_wri, .inl (cy_wri, 1000, .inl f33)), (h_let, .inl (cy_let, 256, .inl f_let)), (h_nv, .inl (cy_nv, 8000, .inl f_nv)), (h_nn, .inl (cy_nn, 8000, .inr (.inl f_nn))), (h_na, .inl (cy_na, 8000, .inl f_na)), (h_nb, .inl (cy_nb, 8000, .inl f_nb)), (h_nc, .inl (cy_nc, 8000, .inl f_nc))] H := hP9
          have hD : va_D A [(h_isn, .inl (cy_isn, 192, .inl f_isn)), (h_tem, .inl (cy_tem, 192, .inl f_tem)), (h_out, .inl (cy_out, 1000, .inl f38)), (h_mm, .inr (8, (mo158 v_mm (.ref h_nv) (.ref h_nn) (.ref h_na) (.ref h_nb) (.ref h_nc) (.ref h_let) (.ref h_isn) (.ref h_tem) (.ref h_out) (.int z32) (.ref h_wri) (.int z32) (.int 900)))), (h_wri, .inl (cy_wri, 1000, .inl f33)), (h_let, .inl (cy_let, 256, .inl f_let)), (h_nv, .inl (cy_nv, 8000, .inl f_nv)), (h_nn, .inl (cy_nn, 8000, .inr (.inl f_nn))), (h_na, .inl (cy_na, 8000, .inl f_na)), (h_nb, .inl (cy_nb, 8000, .inl f_nb)), (h_nc, .inl (cy_nc, 8000, .inl f_nc))] := hD9
          have hS := hS9
          clear hP9 hD9 hS9
          refine lv_aload_n hx hb dX11_shows_89 rfl (lv_at hl 0 rfl) ?_
          refine va_get (D := (dC, dI)) (ci := 8) (v := .int z32) (C := RX11) (T := TX11) (N := 71) hx hb hw iwX11 hown hK hP 3 rfl rfl 63 (by decide) (hw _ w_f_X11_462) (fun _ h9 => h9) rfl dX11_shows_90 ?_
          replace hP : va_P (dC, dI) cls [(h_mm, .inr (8, (mo158 v_mm (.ref h_nv) (.ref h_nn) (.ref h_na) (.ref h_nb) (.ref h_nc) (.ref h_let) (.ref h_isn) (.ref h_tem) (.ref h_out) (.int z32) (.ref h_wri) (.int z32) (.int 900)))), (h_wri, .inl (cy_wri, 1000, .inl f33)), (h_let, .inl (cy_let, 256, .inl f_let)), (h_nv, .inl (cy_nv, 8000, .inl f_nv)), (h_nn, .inl (cy_nn, 8000, .inr (.inl f_nn))), (h_na, .inl (cy_na, 8000, .inl f_na)), (h_nb, .inl (cy_nb, 8000, .inl f_nb)), (h_nc, .inl (cy_nc, 8000, .inl f_nc)), (h_isn, .inl (cy_isn, 192, .inl f_isn)), (h_tem, .inl (cy_tem, 192, .inl f_tem)), (h_out, .inl (cy_out, 1000, .inl f38))] H := hP.sub [3, 4, 5, 6, 7, 8, 9, 10, 0, 1, 2] rfl
          replace hD : va_D A [(h_mm, .inr (8, (mo158 v_mm (.ref h_nv) (.ref h_nn) (.ref h_na) (.ref h_nb) (.ref h_nc) (.ref h_let) (.ref h_isn) (.ref h_tem) (.ref h_out) (.int z32) (.ref h_wri) (.int z32) (.int 900)))), (h_wri, .inl (cy_wri, 1000, .inl f33)), (h_let, .inl (cy_let, 256, .inl f_let)), (h_nv, .inl (cy_nv, 8000, .inl f_nv)), (h_nn, .inl (cy_nn, 8000, .inr (.inl f_nn))), (h_na, .inl (cy_na, 8000, .inl f_na)), (h_nb, .inl (cy_nb, 8000, .inl f_nb)), (h_nc, .inl (cy_nc, 8000, .inl f_nc)), (h_isn, .inl (cy_isn, 192, .inl f_isn)), (h_tem, .inl (cy_tem, 192, .inl f_tem)), (h_out, .inl (cy_out, 1000, .inl f38))] := hD.sub [3, 4, 5, 6, 7, 8, 9, 10, 0, 1, 2] (by decide) rfl
          refine W.widen (k := 0) (n := 0) (Nat.le_of_ble_eq_true rfl) (Nat.le_of_ble_eq_true rfl) ?_
          have cst900 : (900 : Int32).toInt = 900 := by decide
          have w42 : 0 ≤ ((z32)).toInt ∧ ((z32)).toInt ≤ 1000 := by first | exact k34 | omega
          have w43 : 0 ≤ ((z32)).toInt ∧ ((z32)).toInt ≤ 1000 := by first | exact k34 | omega
          have w44 : 0 ≤ ((900 : Int32)).toInt ∧ ((900 : Int32)).toInt ≤ 998 := by omega
          have w45 : ((z32 : Int32)).toInt = (f_isn (p1).toInt.toNat).toInt + lnX (nlR 14) (RVW f_nv f_nn f_na f_nb f_nc) 7 (f_tem (p1).toInt.toNat).toInt.toNat := by omega
          exact W.iret (v := z32) hx hb hr (fun t ht hW => ⟨⟨z32, (z32, z32, 900, f33, f38), rfl, ⟨w42, w43, w44, w45⟩, by rw [ht]; exact hP, hD⟩, hS.F ht⟩) hS.2.2 dX11_shows_93
        · have kc41 := (not_congr (cv_le (rfl : (z32).toInt = (z32).toInt) (rfl : (x37).toInt = (x37).toInt))).mp c41
          refine lv_aload_n hx hb dX11_shows_61 rfl (lv_at hl 0 rfl) ?_
          refine va_get (D := (dC, dI)) (ci := 8) (v := .ref h_out) (C := RX11) (T := TX11) (N := 71) hx hb hw iwX11 hown hK hP 3 rfl rfl 62 (by decide) (hw _ w_f_X11_243) (fun _ h9 => h9) rfl dX11_shows_62 ?_
          refine lv_iload hx hb dX11_shows_65 (lv_at hl 5 rfl) ?_
          refine lv_aload_n hx hb dX11_shows_67 rfl (lv_at hl 0 rfl) ?_
          refine va_get (D := (dC, dI)) (ci := 8) (v := .ref h_wri) (C := RX11) (T := TX11) (N := 71) hx hb hw iwX11 hown hK hP 3 rfl rfl 64 (by decide) (hw _ w_f_X11_246) (fun _ h9 => h9) rfl dX11_shows_68 ?_
          refine lv_iload hx hb dX11_shows_71 (lv_at hl 5 rfl) ?_
          refine va_iald hx hb hK hP 4 0 rfl rfl (i := x37) (vp_in_iff.mpr (by omega)) dX11_shows_73 ?_
          refine lv_topi (fun z46 ez46 => ?_)
          refine va_iast hx hb hK hP hD hS 2 9 rfl rfl (i := x37) (x := z46) (vp_in_iff.mpr (by omega)) dX11_shows_74 (fun H locs hP9 hD9 hS9 => ?_)
          obtain ⟨f47, ef47⟩ : ∃ g : Nat → Int32, g = upd f38 (Int32.toNatClampNeg x37) z46 := ⟨_, rfl⟩
          clear hP hD hS
          have hP : va_P (dC, dI) cls [(h_isn, .inl (cy_isn, 192, .inl f_isn)), (h_tem, .inl (cy_tem, 192, .inl f_tem)), (h_out, .inl (cy_out, 1000, .inl f47)), (h_mm, .inr (8, (mo158 v_mm (.ref h_nv) (.ref h_nn) (.ref h_na) (.ref h_nb) (.ref h_nc) (.ref h_let) (.ref h_isn) (.ref h_tem) (.ref h_out) (.int x_mm_outs) (.ref h_wri) (.int z32) (.int 900)))), (h_wri, .inl (cy_wri, 1000, .inl f33)), (h_let, .inl (cy_let, 256, .inl f_let)), (h_nv, .inl (cy_nv, 8000, .inl f_nv)), (h_nn, .inl (cy_nn, 8000, .inr (.inl f_nn))), (h_na, .inl (cy_na, 8000, .inl f_na)), (h_nb, .inl (cy_nb, 8000, .inl f_nb)), (h_nc, .inl (cy_nc, 8000, .inl f_nc))] H := by rw [ef47]; exact hP9
          have hD : va_D A [(h_isn, .inl (cy_isn, 192, .inl f_isn)), (h_tem, .inl (cy_tem, 192, .inl f_tem)), (h_out, .inl (cy_out, 1000, .inl f47)), (h_mm, .inr (8, (mo158 v_mm (.ref h_nv) (.ref h_nn) (.ref h_na) (.ref h_nb) (.ref h_nc) (.ref h_let) (.ref h_isn) (.ref h_tem) (.ref h_out) (.int x_mm_outs) (.ref h_wri) (.int z32) (.int 900)))), (h_wri, .inl (cy_wri, 1000, .inl f33)), (h_let, .inl (cy_let, 256, .inl f_let)), (h_nv, .inl (cy_nv, 8000, .inl f_nv)), (h_nn, .inl (cy_nn, 8000, .inr (.inl f_nn))), (h_na, .inl (cy_na, 8000, .inl f_na)), (h_nb, .inl (cy_nb, 8000, .inl f_nb)), (h_nc, .inl (cy_nc, 8000, .inl f_nc))] := by rw [ef47]; exact hD9
          have hS := hS9
          clear hP9 hD9 hS9
          clear ef47
          obtain ⟨z48, ez48⟩ : ∃ y : Int32, y = x37 + 1 := ⟨_, rfl⟩
          have tz48 : (z48).toInt = (x37).toInt + 1 := by rw [ez48]; exact i_add rfl (by decide) (by omega)
          refine lv_iinc (v := z48) (lv' := [(5, .int z48), (0, .ref h_mm), (1, .int p1), (2, .int (-1)), (3, .int p3), (4, .int 900)]) hx hb dX11_shows_75 hl (k := 5) rfl (by rw [ez48]; rfl) (by decide) rfl (fun ls hl => ?_)
          refine lv_goto (tgt := 52) hx hb dX11_shows_78 (by decide) ?_
          exact ih40 (z48) (f47) _ _ _ (by omega) (by first | exact klp39_1 | omega) (by omega) hP hD hS (lv_sub hl [1, 2, 3, 4, 5, 0] rfl)
    have cst0 : (0 : Int32).toInt = 0 := by decide
    exact lp39 _ (0) (f_out) _ _ _ (by decide) (by omega) (Nat.le_refl _) hP hD hS (lv_sub hl [1, 2, 3, 4, 5, 0] rfl)

set_option maxHeartbeats 8000000 in
set_option maxRecDepth 100000 in
theorem c_X11_isLiteral_f (l : Launch) (dC : Nat → ClassId) (dI : Nat → Nat → Nat) (sz : Nat) (h_mm : Nat) (h_mny : Nat) (v_mm : Nat → Value) (x_mm_clauses : Int32) (cy_mny : ClassId) (f_mny : Nat → Int32) (p1 : Int32) (p2 : Int32) (hx_mm_clauses : 0 ≤ (x_mm_clauses).toInt ∧ (x_mm_clauses).toInt ≤ 16) (hf_mny : Rg 0 6 f_mny) : Met l yX11_isLiteral (Ws yX11_isLiteral cX11_isLiteral 3 (some .boolean)) (({ frames := 2, cells := 0, slots := 0, locals := 47 } : Room)) (PRE (dC, dI) cls [(cy_mny, .int)] [(h_mm, .inr (8, (mo101 v_mm (.int x_mm_clauses) (.ref h_mny)))), (h_mny, .inl (cy_mny, 32, .inl f_mny))] sz [.ref h_mm, .int p1, .int p2]) (va_Qi (fun (r : Int32) (_ : Unit) => ((r = 1 ∧ (0 ≤ (p1).toInt) ∧ ((p1).toInt < (x_mm_clauses).toInt) ∧ (0 ≤ (p2).toInt) ∧ ((p2).toInt ≤ 5) ∧ ((p2).toInt < (f_mny (Int32.toNatClampNeg p1)).toInt)) ∨ (r = 0 ∧ ((p1).toInt < 0 ∨ (x_mm_clauses).toInt ≤ (p1).toInt ∨ (p2).toInt < 0 ∨ (f_mny (Int32.toNatClampNeg p1)).toInt ≤ (p2).toInt)))) (fun (_ : Unit) (t : State) => va_P (dC, dI) cls [(h_mm, .inr (8, (mo101 v_mm (.int x_mm_clauses) (.ref h_mny)))), (h_mny, .inl (cy_mny, 32, .inl f_mny))] t.heap ∧ va_D (va_A [(h_mm, .inr (8, (mo101 v_mm (.int x_mm_clauses) (.ref h_mny)))), (h_mny, .inl (cy_mny, 32, .inl f_mny))] sz) [(h_mm, .inr (8, (mo101 v_mm (.int x_mm_clauses) (.ref h_mny)))), (h_mny, .inl (cy_mny, 32, .inl f_mny))]) (va_A [(h_mm, .inr (8, (mo101 v_mm (.int x_mm_clauses) (.ref h_mny)))), (h_mny, .inl (cy_mny, 32, .inl f_mny))] sz)) 0 0 (va_A [(h_mm, .inr (8, (mo101 v_mm (.int x_mm_clauses) (.ref h_mny)))), (h_mny, .inl (cy_mny, 32, .inl f_mny))] sz) := by
  refine Met.ofW (cc := cX11_isLiteral) (maxL := 3) (ret := (some .boolean)) (by decide) rfl ?_
  intro p e s m args below meth c s₁ B hml hv
  obtain ⟨rfl, hsz, hP, hK, hD0, hN⟩ := hv
  have hx := B.exec
  have hb := B.bytes
  have hr := B.returns
  have hts := atoms_spec (ws := Ws yX11_isLiteral cX11_isLiteral 3 (some .boolean)) B.pre
  have hT : ∀ w ∈ WALL, w ∈ Ws yX11_isLiteral cX11_isLiteral 3 (some .boolean) := fun w h => List.mem_cons_of_mem _ h
  have hw := fun w (h : w ∈ WALL) => hts w (hT w h)
  have hown : s.vm.findClass RX11 = some m.cls := findClass_of_methodNamed B.named
  have hlocks := B.notSynchronized
  subst hsz
  have hD := hD0.self (sz := s.heap.size)
  generalize hAe : va_A [(h_mm, .inr (8, (mo101 v_mm (.int x_mm_clauses) (.ref h_mny)))), (h_mny, .inl (cy_mny, 32, .inl f_mny))] s.heap.size = A at hD ⊢
  have hA : ∀ q : Nat, s.heap.size ≤ q → A q := fun q h => by rw [← hAe]; exact Or.inr h
  have hS : va_S A s.heap s.heap [] := va_S.rf
  have hl := lv_entry ([.ref h_mm, .int p1, .int p2]) (n := 3) (Nat.le_of_ble_eq_true rfl)
  rw [lg_entry_eq]
  generalize (lg_sl ([.ref h_mm, .int p1, .int p2]) ++ List.replicate (3 - (lg_sl ([.ref h_mm, .int p1, .int p2])).length) Slot.unset).toArray = ls at hl ⊢
  have hl : lv_has ls 3 [(0, .ref h_mm), (1, .int p1), (2, .int p2)] := hl
  refine lv_aload_n hx hb dX11_isLiteral_0 rfl (lv_at hl 0 rfl) ?_
  refine lv_iload_n hx hb dX11_isLiteral_1 rfl (lv_at hl 1 rfl) ?_
  obtain ⟨vq1, evq1⟩ := mq101_100 v_mm (.ref h_mny)
  replace hP : va_P (dC, dI) cls [(h_mm, .inr (8, (mo100 vq1 (.int x_mm_clauses)))), (h_mny, .inl (cy_mny, 32, .inl f_mny))] s.heap := by rw [evq1]; exact hP
  replace hD : va_D A [(h_mm, .inr (8, (mo100 vq1 (.int x_mm_clauses)))), (h_mny, .inl (cy_mny, 32, .inl f_mny))] := by rw [evq1]; exact hD
  have hPc := hP.sub (ws' := [(h_mm, .inr (8, (mo100 vq1 (.int x_mm_clauses))))]) [0] rfl
  have hDc := hD.sub (ws' := [(h_mm, .inr (8, (mo100 vq1 (.int x_mm_clauses))))]) [0] (by decide) rfl
  have hKc := hK.sub (tys' := []) [] rfl
  have hFc := va_free (wc := [(h_mm, .inr (8, (mo100 vq1 (.int x_mm_clauses))))]) hD hS hA [0] rfl
  refine va_calli (va_runV (As := [.int p1]) (rest := []) ⟨hx, hb, hml, hown, hts⟩ (c_X11_isClause l dC dI s.heap.size h_mm vq1 x_mm_clauses p1 (by first | exact hx_mm_clauses | omega)) (cwV 1 hts (gv hT w_m_X11_174 w_instanceMethod_X11_isClause ws_sel_X11_isClause w_ini_X11 w_code_X11_isClause) rfl rfl rfl (by decide +kernel) ⟨(Nat.le_of_ble_eq_true rfl), (Nat.le_of_ble_eq_true rfl)⟩) ⟨pre_blind, va_recv hK hP (ci := 8) (q0 := 0) rfl rfl, pre_of hPc hKc hDc hN⟩ rfl rfl hl.1 rfl (lv_room (Nat.le_of_ble_eq_true rfl)) dX11_isLiteral_2 ⟨(Nat.le_of_ble_eq_true rfl), (Nat.le_of_ble_eq_true rfl)⟩) hS (fun q _ h => hFc q h) hFc (fun r2 u t H locs ht hvm hq hB hz1 hk1 hS9 => ?_)
  obtain ⟨hP1, hD1⟩ := hB
  rw [ht] at hP1
  obtain ⟨hP9, hD9⟩ := va_join (wr := [(h_mny, .inl (cy_mny, 32, .inl f_mny))]) (w1 := [(h_mm, .inr (8, (mo100 vq1 (.int x_mm_clauses))))]) hP hD [0] [1] rfl rfl (by decide) (by decide) hk1 hFc hP1 hD1
  clear hP hD hS hPc hDc hKc hFc hP1 hD1 hk1 hz1 ht hvm
  have hP : va_P (dC, dI) cls [(h_mny, .inl (cy_mny, 32, .inl f_mny)), (h_mm, .inr (8, (mo100 vq1 (.int x_mm_clauses))))] H := hP9
  have hD : va_D A [(h_mny, .inl (cy_mny, 32, .inl f_mny)), (h_mm, .inr (8, (mo100 vq1 (.int x_mm_clauses))))] := hD9
  have hS := hS9
  clear hP9 hD9 hS9
  rw [evq1] at hP hD
  replace hP : va_P (dC, dI) cls [(h_mny, .inl (cy_mny, 32, .inl f_mny)), (h_mm, .inr (8, (mo101 v_mm (.int x_mm_clauses) (.ref h_mny))))] H := hP
  replace hD : va_D A [(h_mny, .inl (cy_mny, 32, .inl f_mny)), (h_mm, .inr (8, (mo101 v_mm (.int x_mm_clauses) (.ref h_mny))))] := hD
  clear evq1 
  rcases hq with ⟨rfl, hq⟩ | ⟨rfl, hq⟩
  · replace hq : (0 ≤ ((p1)).toInt) ∧ (((p1)).toInt < ((x_mm_clauses)).toInt) := hq
    refine lv_if_eq (tgt := 31) hx hb dX11_isLiteral_5 (by decide) (fun c9 => absurd c9 (by decide)) (fun _ => ?_)
    refine lv_aload_n hx hb dX11_isLiteral_8 rfl (lv_at hl 0 rfl) ?_
    refine lv_iload_n hx hb dX11_isLiteral_9 rfl (lv_at hl 2 rfl) ?_
    refine lv_i2l hx hb dX11_isLiteral_10 rfl ?_
    refine lv_topl (fun z3 ez3 => ?_)
    have tz3 : (z3).toInt = (p2).toInt := by rw [ez3]; exact Int32.toInt_toInt64 _
    have bz3 := i_bd p2
    refine lv_lconst (v := 0) hx hb dX11_isLiteral_11 (by decide) ?_
    refine lv_aload_n hx hb dX11_isLiteral_12 rfl (lv_at hl 0 rfl) ?_
    refine va_get (D := (dC, dI)) (ci := 8) (v := .ref h_mny) (C := RX11) (T := TX11) (N := 71) hx hb hw iwX11 hown hK hP 1 rfl rfl 8 (by decide) (hw _ w_f_X11_142) (fun _ h9 => h9) rfl dX11_isLiteral_13 ?_
    refine lv_iload_n hx hb dX11_isLiteral_16 rfl (lv_at hl 1 rfl) ?_
    refine va_iald hx hb hK hP 0 0 rfl rfl (i := p1) (vp_in_iff.mpr (by omega)) dX11_isLiteral_17 ?_
    refine lv_topi (fun z4 ez4 => ?_)
    have rz4 : 0 ≤ (z4).toInt ∧ (z4).toInt ≤ 6 := by rw [ez4]; exact hf_mny _
    have ml9 : (f_mny (Int32.toNatClampNeg p1)).toInt = (z4).toInt := by rw [ez4]
    refine lv_i2l hx hb dX11_isLiteral_18 rfl ?_
    refine lv_topl (fun z5 ez5 => ?_)
    have tz5 : (z5).toInt = (z4).toInt := by rw [ez5]; exact Int32.toInt_toInt64 _
    have bz5 := i_bd z4
    refine lv_lconst (v := 1) hx hb dX11_isLiteral_19 (by decide) ?_
    refine lv_lsub hx hb dX11_isLiteral_20 ?_
    refine lv_topl (fun z6 ez6 => ?_)
    have tz6 : (z6).toInt = (z5).toInt - 1 := by rw [ez6]; exact l_sub rfl (by decide) (by omega)
    have : (0 : Int64).toInt = 0 := by decide
    have hPc := hP.sub (ws' := []) [] rfl
    have hDc := hD.sub (ws' := []) [] (by decide) rfl
    have hKc := hK.sub (tys' := []) [] rfl
    have hFc := va_free (wc := []) hD hS hA [] rfl
    refine va_calli (va_runV (As := [.long z3, .long 0, .long z6]) (rest := []) ⟨hx, hb, hml, hown, hts⟩ (c_X11_isIn l dC dI H.size h_mm z3 0 z6) (cwV 3 hts (gv hT w_m_X11_49 w_instanceMethod_X11_isIn ws_sel_X11_isIn w_ini_X11 w_code_X11_isIn) rfl rfl rfl (by decide +kernel) ⟨(Nat.le_of_ble_eq_true rfl), (Nat.le_of_ble_eq_true rfl)⟩) ⟨pre_blind, va_recv hK hP (ci := 8) (q0 := 1) rfl rfl, pre_of hPc hKc hDc hN⟩ rfl rfl hl.1 rfl (lv_room (Nat.le_of_ble_eq_true rfl)) dX11_isLiteral_21 ⟨(Nat.le_of_ble_eq_true rfl), (Nat.le_of_ble_eq_true rfl)⟩) hS (fun q _ h => hFc q h) hFc (fun r7 u t H locs ht hvm hq hB hz1 hk1 hS9 => ?_)
    obtain ⟨hP1, hD1⟩ := hB
    rw [ht] at hP1
    obtain ⟨hP9, hD9⟩ := va_join (wr := [(h_mny, .inl (cy_mny, 32, .inl f_mny)), (h_mm, .inr (8, (mo101 v_mm (.int x_mm_clauses) (.ref h_mny))))]) (w1 := []) hP hD [] [0, 1] rfl rfl (by decide) (by decide) hk1 hFc hP1 hD1
    clear hP hD hS hPc hDc hKc hFc hP1 hD1 hk1 hz1 ht hvm
    have hP : va_P (dC, dI) cls [(h_mny, .inl (cy_mny, 32, .inl f_mny)), (h_mm, .inr (8, (mo101 v_mm (.int x_mm_clauses) (.ref h_mny))))] H := hP9
    have hD : va_D A [(h_mny, .inl (cy_mny, 32, .inl f_mny)), (h_mm, .inr (8, (mo101 v_mm (.int x_mm_clauses) (.ref h_mny))))] := hD9
    have hS := hS9
    clear hP9 hD9 hS9
    rcases hq with ⟨rfl, hq⟩ | ⟨rfl, hq⟩
    · replace hq : (((0 : Int64)).toInt ≤ ((z3)).toInt) ∧ (((z3)).toInt ≤ ((z6)).toInt) := hq
      refine lv_if_eq (tgt := 31) hx hb dX11_isLiteral_24 (by decide) (fun c9 => absurd c9 (by decide)) (fun _ => ?_)
      refine lv_iconst (v := 1) hx hb dX11_isLiteral_27 (by decide) ?_
      refine lv_goto (tgt := 32) hx hb dX11_isLiteral_28 (by decide) ?_
      replace hP : va_P (dC, dI) cls [(h_mm, .inr (8, (mo101 v_mm (.int x_mm_clauses) (.ref h_mny)))), (h_mny, .inl (cy_mny, 32, .inl f_mny))] H := hP.sub [1, 0] rfl
      replace hD : va_D A [(h_mm, .inr (8, (mo101 v_mm (.int x_mm_clauses) (.ref h_mny)))), (h_mny, .inl (cy_mny, 32, .inl f_mny))] := hD.sub [1, 0] (by decide) rfl
      refine W.widen (k := 0) (n := 0) (Nat.le_of_ble_eq_true rfl) (Nat.le_of_ble_eq_true rfl) ?_
      have cst1 : (1 : Int32).toInt = 1 := by decide
      have : 0 ≤ (p1).toInt := by omega
      have : (p1).toInt < (x_mm_clauses).toInt := by omega
      have : 0 ≤ (p2).toInt := by omega
      have : (p2).toInt ≤ 5 := by omega
      have : (p2).toInt < (f_mny (Int32.toNatClampNeg p1)).toInt := by omega
      exact W.zret (v := 1) (ty := .boolean) hx hb hr (by decide) (fun t ht hW => ⟨⟨1, (), rfl, (Or.inl (⟨rfl, by assumption, by assumption, by assumption, by assumption, by assumption⟩)), by rw [ht]; exact hP, hD⟩, hS.F ht⟩) hS.2.2 dX11_isLiteral_32
    · replace hq : (((z3)).toInt < ((0 : Int64)).toInt ∨ ((z6)).toInt < ((z3)).toInt) := hq
      refine lv_if_eq (tgt := 31) hx hb dX11_isLiteral_24 (by decide) (fun _ => ?_) (fun c9 => absurd c9 (by decide))
      refine lv_iconst (v := 0) hx hb dX11_isLiteral_31 (by decide) ?_
      replace hP : va_P (dC, dI) cls [(h_mm, .inr (8, (mo101 v_mm (.int x_mm_clauses) (.ref h_mny)))), (h_mny, .inl (cy_mny, 32, .inl f_mny))] H := hP.sub [1, 0] rfl
      replace hD : va_D A [(h_mm, .inr (8, (mo101 v_mm (.int x_mm_clauses) (.ref h_mny)))), (h_mny, .inl (cy_mny, 32, .inl f_mny))] := hD.sub [1, 0] (by decide) rfl
      refine W.widen (k := 0) (n := 0) (Nat.le_of_ble_eq_true rfl) (Nat.le_of_ble_eq_true rfl) ?_
      have cst0 : (0 : Int32).toInt = 0 := by decide
      have : (p1).toInt < 0 ∨ (x_mm_clauses).toInt ≤ (p1).toInt ∨ (p2).toInt < 0 ∨ (f_mny (Int32.toNatClampNeg p1)).toInt ≤ (p2).toInt := by omega
      exact W.zret (v := 0) (ty := .boolean) hx hb hr (by decide) (fun t ht hW => ⟨⟨0, (), rfl, (Or.inr (⟨rfl, by assumption⟩)), by rw [ht]; exact hP, hD⟩, hS.F ht⟩) hS.2.2 dX11_isLiteral_32
  · replace hq : (((p1)).toInt < 0 ∨ ((x_mm_clauses)).toInt ≤ ((p1)).toInt) := hq
    refine lv_if_eq (tgt := 31) hx hb dX11_isLiteral_5 (by decide) (fun _ => ?_) (fun c9 => absurd c9 (by decide))
    refine lv_iconst (v := 0) hx hb dX11_isLiteral_31 (by decide) ?_
    replace hP : va_P (dC, dI) cls [(h_mm, .inr (8, (mo101 v_mm (.int x_mm_clauses) (.ref h_mny)))), (h_mny, .inl (cy_mny, 32, .inl f_mny))] H := hP.sub [1, 0] rfl
    replace hD : va_D A [(h_mm, .inr (8, (mo101 v_mm (.int x_mm_clauses) (.ref h_mny)))), (h_mny, .inl (cy_mny, 32, .inl f_mny))] := hD.sub [1, 0] (by decide) rfl
    refine W.widen (k := 0) (n := 0) (Nat.le_of_ble_eq_true rfl) (Nat.le_of_ble_eq_true rfl) ?_
    have cst0 : (0 : Int32).toInt = 0 := by decide
    have : (p1).toInt < 0 ∨ (x_mm_clauses).toInt ≤ (p1).toInt ∨ (p2).toInt < 0 ∨ (f_mny (Int32.toNatClampNeg p1)).toInt ≤ (p2).toInt := by omega
    exact W.zret (v := 0) (ty := .boolean) hx hb hr (by decide) (fun t ht hW => ⟨⟨0, (), rfl, (Or.inr (⟨rfl, by assumption⟩)), by rw [ht]; exact hP, hD⟩, hS.F ht⟩) hS.2.2 dX11_isLiteral_32

set_option maxHeartbeats 8000000 in
set_option maxRecDepth 100000 in
theorem c_X11_shows_1 (l : Launch) (dC : Nat → ClassId) (dI : Nat → Nat → Nat) (sz : Nat) (h_mm : Nat) (h_wri : Nat) (h_let : Nat) (h_nv : Nat) (h_nn : Nat) (h_na : Nat) (h_nb : Nat) (h_nc : Nat) (h_bto : Nat) (h_bin : Nat) (h_cof : Nat) (h_isn : Nat) (h_tem : Nat) (h_out : Nat) (v_mm : Nat → Value) (x_mm_goneTo : Int32) (x_mm_goneIn : Int32) (x_mm_outs : Int32) (x_mm_writes : Int32) (x_mm_room : Int32) (cy_wri : ClassId) (f_wri : Nat → Int32) (cy_let : ClassId) (f_let : Nat → Int32) (cy_nv : ClassId) (f_nv : Nat → Int32) (cy_nn : ClassId) (f_nn : Nat → Int64) (cy_na : ClassId) (f_na : Nat → Int32) (cy_nb : ClassId) (f_nb : Nat → Int32) (cy_nc : ClassId) (f_nc : Nat → Int32) (cy_bto : ClassId) (f_bto : Nat → Int32) (cy_bin : ClassId) (f_bin : Nat → Int32) (cy_cof : ClassId) (f_cof : Nat → Int32) (cy_isn : ClassId) (f_isn : Nat → Int32) (cy_tem : ClassId) (f_tem : Nat → Int32) (cy_out : ClassId) (f_out : Nat → Int32) (p1 : Int32) (p2 : Int32) (i0 : Int) (i1 : Int) (N : Int) (hz : Nat → Nat) (hx_mm_goneTo : 0 ≤ (x_mm_goneTo).toInt ∧ (x_mm_goneTo).toInt ≤ 7999) (hx_mm_goneIn : 0 ≤ (x_mm_goneIn).toInt ∧ (x_mm_goneIn).toInt ≤ 31) (hx_mm_outs : 0 ≤ (x_mm_outs).toInt ∧ (x_mm_outs).toInt ≤ 1000) (hx_mm_writes : 0 ≤ (x_mm_writes).toInt ∧ (x_mm_writes).toInt ≤ 1000) (hx_mm_room : 0 ≤ (x_mm_room).toInt ∧ (x_mm_room).toInt ≤ 998) (hf_nv : Rg (-1) 7 f_nv) (hf_na : Rg (-1) 7999 f_na) (hf_nb : Rg (-1) 7999 f_nb) (hf_nc : Rg (-1) 7999 f_nc) (hf_bto : Rg (-1) 7999 f_bto) (hf_bin : Rg 0 31 f_bin) (hf_cof : Rg 0 15 f_cof) (hf_isn : Rg 0 1 f_isn) (hf_tem : Rg 0 7999 f_tem) (q0 : 0 ≤ (f_tem (p1).toInt.toNat).toInt ∧ (f_tem (p1).toInt.toNat).toInt < N ∧ hz (f_tem (p1).toInt.toNat).toInt.toNat = 7) (q1 : N ≤ 8000) (q2 : 0 ≤ (p1).toInt ∧ (p1).toInt ≤ 191) (q3 : 0 ≤ i0 ∧ i0 ≤ i1 ∧ i1 ≤ 31) (q4 : N ≤ 8000) (q5 : i0 = 0 ∧ i1 = 29) (q6 : 0 ≤ (p2).toInt ∧ (p2).toInt ≤ 29) (hn_bi : BI i0 i1 N hz f_nv f_na f_nb f_nc f_bto f_bin) : Met l yX11_shows (Ws yX11_shows cX11_shows 6 (some .int)) (({ frames := 1560, cells := 0, slots := 0, locals := 40499 } : Room)) (PRE (dC, dI) cls [(cy_wri, .int), (cy_let, .int), (cy_nv, .int), (cy_nn, .long), (cy_na, .int), (cy_nb, .int), (cy_nc, .int), (cy_bto, .int), (cy_bin, .int), (cy_cof, .int), (cy_isn, .boolean), (cy_tem, .int), (cy_out, .int)] [(h_mm, .inr (8, (mo159 v_mm (.ref h_nv) (.ref h_nn) (.ref h_na) (.ref h_nb) (.ref h_nc) (.ref h_let) (.ref h_isn) (.ref h_tem) (.ref h_bto) (.ref h_bin) (.int x_mm_goneTo) (.int x_mm_goneIn) (.ref h_cof) (.ref h_out) (.int x_mm_outs) (.ref h_wri) (.int x_mm_writes) (.int x_mm_room)))), (h_wri, .inl (cy_wri, 1000, .inl f_wri)), (h_let, .inl (cy_let, 256, .inl f_let)), (h_nv, .inl (cy_nv, 8000, .inl f_nv)), (h_nn, .inl (cy_nn, 8000, .inr (.inl f_nn))), (h_na, .inl (cy_na, 8000, .inl f_na)), (h_nb, .inl (cy_nb, 8000, .inl f_nb)), (h_nc, .inl (cy_nc, 8000, .inl f_nc)), (h_bto, .inl (cy_bto, 256, .inl f_bto)), (h_bin, .inl (cy_bin, 256, .inl f_bin)), (h_cof, .inl (cy_cof, 31, .inl f_cof)), (h_isn, .inl (cy_isn, 192, .inl f_isn)), (h_tem, .inl (cy_tem, 192, .inl f_tem)), (h_out, .inl (cy_out, 1000, .inl f_out))] sz [.ref h_mm, .int p1, .int p2, .int (-1), .int 300]) (va_Qi (fun (r : Int32) (u : (Int32) × (Int32) × (Int32) × (Int32) × (Int32) × (Nat → Int32) × (Nat → Int32)) => (0 ≤ (u.1).toInt ∧ (u.1).toInt ≤ 7999) ∧ (0 ≤ (u.2.1).toInt ∧ (u.2.1).toInt ≤ 31) ∧ (0 ≤ (u.2.2.1).toInt ∧ (u.2.2.1).toInt ≤ 1000) ∧ (0 ≤ (u.2.2.2.1).toInt ∧ (u.2.2.2.1).toInt ≤ 1000) ∧ (0 ≤ (u.2.2.2.2.1).toInt ∧ (u.2.2.2.2.1).toInt ≤ 998)) (fun (u : (Int32) × (Int32) × (Int32) × (Int32) × (Int32) × (Nat → Int32) × (Nat → Int32)) (t : State) => va_P (dC, dI) cls [(h_mm, .inr (8, (mo159 v_mm (.ref h_nv) (.ref h_nn) (.ref h_na) (.ref h_nb) (.ref h_nc) (.ref h_let) (.ref h_isn) (.ref h_tem) (.ref h_bto) (.ref h_bin) (.int u.1) (.int u.2.1) (.ref h_cof) (.ref h_out) (.int u.2.2.1) (.ref h_wri) (.int u.2.2.2.1) (.int u.2.2.2.2.1)))), (h_wri, .inl (cy_wri, 1000, .inl u.2.2.2.2.2.1)), (h_let, .inl (cy_let, 256, .inl f_let)), (h_nv, .inl (cy_nv, 8000, .inl f_nv)), (h_nn, .inl (cy_nn, 8000, .inr (.inl f_nn))), (h_na, .inl (cy_na, 8000, .inl f_na)), (h_nb, .inl (cy_nb, 8000, .inl f_nb)), (h_nc, .inl (cy_nc, 8000, .inl f_nc)), (h_bto, .inl (cy_bto, 256, .inl f_bto)), (h_bin, .inl (cy_bin, 256, .inl f_bin)), (h_cof, .inl (cy_cof, 31, .inl f_cof)), (h_isn, .inl (cy_isn, 192, .inl f_isn)), (h_tem, .inl (cy_tem, 192, .inl f_tem)), (h_out, .inl (cy_out, 1000, .inl u.2.2.2.2.2.2))] t.heap ∧ va_D (va_A [(h_mm, .inr (8, (mo159 v_mm (.ref h_nv) (.ref h_nn) (.ref h_na) (.ref h_nb) (.ref h_nc) (.ref h_let) (.ref h_isn) (.ref h_tem) (.ref h_bto) (.ref h_bin) (.int x_mm_goneTo) (.int x_mm_goneIn) (.ref h_cof) (.ref h_out) (.int x_mm_outs) (.ref h_wri) (.int x_mm_writes) (.int x_mm_room)))), (h_wri, .inl (cy_wri, 1000, .inl f_wri)), (h_let, .inl (cy_let, 256, .inl f_let)), (h_nv, .inl (cy_nv, 8000, .inl f_nv)), (h_nn, .inl (cy_nn, 8000, .inr (.inl f_nn))), (h_na, .inl (cy_na, 8000, .inl f_na)), (h_nb, .inl (cy_nb, 8000, .inl f_nb)), (h_nc, .inl (cy_nc, 8000, .inl f_nc)), (h_bto, .inl (cy_bto, 256, .inl f_bto)), (h_bin, .inl (cy_bin, 256, .inl f_bin)), (h_cof, .inl (cy_cof, 31, .inl f_cof)), (h_isn, .inl (cy_isn, 192, .inl f_isn)), (h_tem, .inl (cy_tem, 192, .inl f_tem)), (h_out, .inl (cy_out, 1000, .inl f_out))] sz) [(h_mm, .inr (8, (mo159 v_mm (.ref h_nv) (.ref h_nn) (.ref h_na) (.ref h_nb) (.ref h_nc) (.ref h_let) (.ref h_isn) (.ref h_tem) (.ref h_bto) (.ref h_bin) (.int u.1) (.int u.2.1) (.ref h_cof) (.ref h_out) (.int u.2.2.1) (.ref h_wri) (.int u.2.2.2.1) (.int u.2.2.2.2.1)))), (h_wri, .inl (cy_wri, 1000, .inl u.2.2.2.2.2.1)), (h_let, .inl (cy_let, 256, .inl f_let)), (h_nv, .inl (cy_nv, 8000, .inl f_nv)), (h_nn, .inl (cy_nn, 8000, .inr (.inl f_nn))), (h_na, .inl (cy_na, 8000, .inl f_na)), (h_nb, .inl (cy_nb, 8000, .inl f_nb)), (h_nc, .inl (cy_nc, 8000, .inl f_nc)), (h_bto, .inl (cy_bto, 256, .inl f_bto)), (h_bin, .inl (cy_bin, 256, .inl f_bin)), (h_cof, .inl (cy_cof, 31, .inl f_cof)), (h_isn, .inl (cy_isn, 192, .inl f_isn)), (h_tem, .inl (cy_tem, 192, .inl f_tem)), (h_out, .inl (cy_out, 1000, .inl u.2.2.2.2.2.2))]) (va_A [(h_mm, .inr (8, (mo159 v_mm (.ref h_nv) (.ref h_nn) (.ref h_na) (.ref h_nb) (.ref h_nc) (.ref h_let) (.ref h_isn) (.ref h_tem) (.ref h_bto) (.ref h_bin) (.int x_mm_goneTo) (.int x_mm_goneIn) (.ref h_cof) (.ref h_out) (.int x_mm_outs) (.ref h_wri) (.int x_mm_writes) (.int x_mm_room)))), (h_wri, .inl (cy_wri, 1000, .inl f_wri)), (h_let, .inl (cy_let, 256, .inl f_let)), (h_nv, .inl (cy_nv, 8000, .inl f_nv)), (h_nn, .inl (cy_nn, 8000, .inr (.inl f_nn))), (h_na, .inl (cy_na, 8000, .inl f_na)), (h_nb, .inl (cy_nb, 8000, .inl f_nb)), (h_nc, .inl (cy_nc, 8000, .inl f_nc)), (h_bto, .inl (cy_bto, 256, .inl f_bto)), (h_bin, .inl (cy_bin, 256, .inl f_bin)), (h_cof, .inl (cy_cof, 31, .inl f_cof)), (h_isn, .inl (cy_isn, 192, .inl f_isn)), (h_tem, .inl (cy_tem, 192, .inl f_tem)), (h_out, .inl (cy_out, 1000, .inl f_out))] sz)) 0 0 (va_A [(h_mm, .inr (8, (mo159 v_mm (.ref h_nv) (.ref h_nn) (.ref h_na) (.ref h_nb) (.ref h_nc) (.ref h_let) (.ref h_isn) (.ref h_tem) (.ref h_bto) (.ref h_bin) (.int x_mm_goneTo) (.int x_mm_goneIn) (.ref h_cof) (.ref h_out) (.int x_mm_outs) (.ref h_wri) (.int x_mm_writes) (.int x_mm_room)))), (h_wri, .inl (cy_wri, 1000, .inl f_wri)), (h_let, .inl (cy_let, 256, .inl f_let)), (h_nv, .inl (cy_nv, 8000, .inl f_nv)), (h_nn, .inl (cy_nn, 8000, .inr (.inl f_nn))), (h_na, .inl (cy_na, 8000, .inl f_na)), (h_nb, .inl (cy_nb, 8000, .inl f_nb)), (h_nc, .inl (cy_nc, 8000, .inl f_nc)), (h_bto, .inl (cy_bto, 256, .inl f_bto)), (h_bin, .inl (cy_bin, 256, .inl f_bin)), (h_cof, .inl (cy_cof, 31, .inl f_cof)), (h_isn, .inl (cy_isn, 192, .inl f_isn)), (h_tem, .inl (cy_tem, 192, .inl f_tem)), (h_out, .inl (cy_out, 1000, .inl f_out))] sz) := by
  refine Met.ofW (cc := cX11_shows) (maxL := 6) (ret := (some .int)) (by decide) rfl ?_
  intro p e s m args below meth c s₁ B hml hv
  obtain ⟨rfl, hsz, hP, hK, hD0, hN⟩ := hv
  have hx := B.exec
  have hb := B.bytes
  have hr := B.returns
  have hts := atoms_spec (ws := Ws yX11_shows cX11_shows 6 (some .int)) B.pre
  have hT : ∀ w ∈ WALL, w ∈ Ws yX11_shows cX11_shows 6 (some .int) := fun w h => List.mem_cons_of_mem _ h
  have hw := fun w (h : w ∈ WALL) => hts w (hT w h)
  have hown : s.vm.findClass RX11 = some m.cls := findClass_of_methodNamed B.named
  have hlocks := B.notSynchronized
  subst hsz
  have hD := hD0.self (sz := s.heap.size)
  generalize hAe : va_A [(h_mm, .inr (8, (mo159 v_mm (.ref h_nv) (.ref h_nn) (.ref h_na) (.ref h_nb) (.ref h_nc) (.ref h_let) (.ref h_isn) (.ref h_tem) (.ref h_bto) (.ref h_bin) (.int x_mm_goneTo) (.int x_mm_goneIn) (.ref h_cof) (.ref h_out) (.int x_mm_outs) (.ref h_wri) (.int x_mm_writes) (.int x_mm_room)))), (h_wri, .inl (cy_wri, 1000, .inl f_wri)), (h_let, .inl (cy_let, 256, .inl f_let)), (h_nv, .inl (cy_nv, 8000, .inl f_nv)), (h_nn, .inl (cy_nn, 8000, .inr (.inl f_nn))), (h_na, .inl (cy_na, 8000, .inl f_na)), (h_nb, .inl (cy_nb, 8000, .inl f_nb)), (h_nc, .inl (cy_nc, 8000, .inl f_nc)), (h_bto, .inl (cy_bto, 256, .inl f_bto)), (h_bin, .inl (cy_bin, 256, .inl f_bin)), (h_cof, .inl (cy_cof, 31, .inl f_cof)), (h_isn, .inl (cy_isn, 192, .inl f_isn)), (h_tem, .inl (cy_tem, 192, .inl f_tem)), (h_out, .inl (cy_out, 1000, .inl f_out))] s.heap.size = A at hD ⊢
  have hA : ∀ q : Nat, s.heap.size ≤ q → A q := fun q h => by rw [← hAe]; exact Or.inr h
  have hS : va_S A s.heap s.heap [] := va_S.rf
  have hl := lv_entry ([.ref h_mm, .int p1, .int p2, .int (-1), .int 300]) (n := 6) (Nat.le_of_ble_eq_true rfl)
  rw [lg_entry_eq]
  generalize (lg_sl ([.ref h_mm, .int p1, .int p2, .int (-1), .int 300]) ++ List.replicate (6 - (lg_sl ([.ref h_mm, .int p1, .int p2, .int (-1), .int 300])).length) Slot.unset).toArray = ls at hl ⊢
  have hl : lv_has ls 6 [(0, .ref h_mm), (1, .int p1), (2, .int p2), (3, .int (-1)), (4, .int 300)] := hl
  refine lv_aload_n hx hb dX11_shows_0 rfl (lv_at hl 0 rfl) ?_
  refine lv_iconst (v := 0) hx hb dX11_shows_1 (by decide) ?_
  refine va_put (D := (dC, dI)) (ci := 8) (v := .int 0) (ty := tyX11 65) (C := RX11) (T := TX11) (N := 71) hx hb hw iwX11 tyX11 tyX11_ok nmX11 hown hK hP hD hS 0 rfl rfl 65 (by decide) (hw _ w_f_X11_443) (fun _ h9 => h9) rfl (tyX11_ok 65 (by decide)) rfl rfl (Nat.le_of_ble_eq_true rfl) dX11_shows_2 (fun H locs hP9 hD9 hS9 => ?_)
  clear hP hD hS
  have hP : va_P (dC, dI) cls [(h_mm, .inr (8, (mo159 v_mm (.ref h_nv) (.ref h_nn) (.ref h_na) (.ref h_nb) (.ref h_nc) (.ref h_let) (.ref h_isn) (.ref h_tem) (.ref h_bto) (.ref h_bin) (.int x_mm_goneTo) (.int x_mm_goneIn) (.ref h_cof) (.ref h_out) (.int x_mm_outs) (.ref h_wri) (.int 0) (.int x_mm_room)))), (h_wri, .inl (cy_wri, 1000, .inl f_wri)), (h_let, .inl (cy_let, 256, .inl f_let)), (h_nv, .inl (cy_nv, 8000, .inl f_nv)), (h_nn, .inl (cy_nn, 8000, .inr (.inl f_nn))), (h_na, .inl (cy_na, 8000, .inl f_na)), (h_nb, .inl (cy_nb, 8000, .inl f_nb)), (h_nc, .inl (cy_nc, 8000, .inl f_nc)), (h_bto, .inl (cy_bto, 256, .inl f_bto)), (h_bin, .inl (cy_bin, 256, .inl f_bin)), (h_cof, .inl (cy_cof, 31, .inl f_cof)), (h_isn, .inl (cy_isn, 192, .inl f_isn)), (h_tem, .inl (cy_tem, 192, .inl f_tem)), (h_out, .inl (cy_out, 1000, .inl f_out))] H := hP9
  have hD : va_D A [(h_mm, .inr (8, (mo159 v_mm (.ref h_nv) (.ref h_nn) (.ref h_na) (.ref h_nb) (.ref h_nc) (.ref h_let) (.ref h_isn) (.ref h_tem) (.ref h_bto) (.ref h_bin) (.int x_mm_goneTo) (.int x_mm_goneIn) (.ref h_cof) (.ref h_out) (.int x_mm_outs) (.ref h_wri) (.int 0) (.int x_mm_room)))), (h_wri, .inl (cy_wri, 1000, .inl f_wri)), (h_let, .inl (cy_let, 256, .inl f_let)), (h_nv, .inl (cy_nv, 8000, .inl f_nv)), (h_nn, .inl (cy_nn, 8000, .inr (.inl f_nn))), (h_na, .inl (cy_na, 8000, .inl f_na)), (h_nb, .inl (cy_nb, 8000, .inl f_nb)), (h_nc, .inl (cy_nc, 8000, .inl f_nc)), (h_bto, .inl (cy_bto, 256, .inl f_bto)), (h_bin, .inl (cy_bin, 256, .inl f_bin)), (h_cof, .inl (cy_cof, 31, .inl f_cof)), (h_isn, .inl (cy_isn, 192, .inl f_isn)), (h_tem, .inl (cy_tem, 192, .inl f_tem)), (h_out, .inl (cy_out, 1000, .inl f_out))] := hD9
  have hS := hS9
  clear hP9 hD9 hS9
  refine lv_aload_n hx hb dX11_shows_5 rfl (lv_at hl 0 rfl) ?_
  refine lv_iload hx hb dX11_shows_6 (lv_at hl 4 rfl) ?_
  refine va_put (D := (dC, dI)) (ci := 8) (v := .int 300) (ty := tyX11 66) (C := RX11) (T := TX11) (N := 71) hx hb hw iwX11 tyX11 tyX11_ok nmX11 hown hK hP hD hS 0 rfl rfl 66 (by decide) (hw _ w_f_X11_446) (fun _ h9 => h9) rfl (tyX11_ok 66 (by decide)) rfl rfl (Nat.le_of_ble_eq_true rfl) dX11_shows_8 (fun H locs hP9 hD9 hS9 => ?_)
  clear hP hD hS
  have hP : va_P (dC, dI) cls [(h_mm, .inr (8, (mo159 v_mm (.ref h_nv) (.ref h_nn) (.ref h_na) (.ref h_nb) (.ref h_nc) (.ref h_let) (.ref h_isn) (.ref h_tem) (.ref h_bto) (.ref h_bin) (.int x_mm_goneTo) (.int x_mm_goneIn) (.ref h_cof) (.ref h_out) (.int x_mm_outs) (.ref h_wri) (.int 0) (.int 300)))), (h_wri, .inl (cy_wri, 1000, .inl f_wri)), (h_let, .inl (cy_let, 256, .inl f_let)), (h_nv, .inl (cy_nv, 8000, .inl f_nv)), (h_nn, .inl (cy_nn, 8000, .inr (.inl f_nn))), (h_na, .inl (cy_na, 8000, .inl f_na)), (h_nb, .inl (cy_nb, 8000, .inl f_nb)), (h_nc, .inl (cy_nc, 8000, .inl f_nc)), (h_bto, .inl (cy_bto, 256, .inl f_bto)), (h_bin, .inl (cy_bin, 256, .inl f_bin)), (h_cof, .inl (cy_cof, 31, .inl f_cof)), (h_isn, .inl (cy_isn, 192, .inl f_isn)), (h_tem, .inl (cy_tem, 192, .inl f_tem)), (h_out, .inl (cy_out, 1000, .inl f_out))] H := hP9
  have hD : va_D A [(h_mm, .inr (8, (mo159 v_mm (.ref h_nv) (.ref h_nn) (.ref h_na) (.ref h_nb) (.ref h_nc) (.ref h_let) (.ref h_isn) (.ref h_tem) (.ref h_bto) (.ref h_bin) (.int x_mm_goneTo) (.int x_mm_goneIn) (.ref h_cof) (.ref h_out) (.int x_mm_outs) (.ref h_wri) (.int 0) (.int 300)))), (h_wri, .inl (cy_wri, 1000, .inl f_wri)), (h_let, .inl (cy_let, 256, .inl f_let)), (h_nv, .inl (cy_nv, 8000, .inl f_nv)), (h_nn, .inl (cy_nn, 8000, .inr (.inl f_nn))), (h_na, .inl (cy_na, 8000, .inl f_na)), (h_nb, .inl (cy_nb, 8000, .inl f_nb)), (h_nc, .inl (cy_nc, 8000, .inl f_nc)), (h_bto, .inl (cy_bto, 256, .inl f_bto)), (h_bin, .inl (cy_bin, 256, .inl f_bin)), (h_cof, .inl (cy_cof, 31, .inl f_cof)), (h_isn, .inl (cy_isn, 192, .inl f_isn)), (h_tem, .inl (cy_tem, 192, .inl f_tem)), (h_out, .inl (cy_out, 1000, .inl f_out))] := hD9
  have hS := hS9
  clear hP9 hD9 hS9
  refine lv_aload_n hx hb dX11_shows_11 rfl (lv_at hl 0 rfl) ?_
  refine va_get (D := (dC, dI)) (ci := 8) (v := .ref h_isn) (C := RX11) (T := TX11) (N := 71) hx hb hw iwX11 hown hK hP 0 rfl rfl 11 (by decide) (hw _ w_f_X11_145) (fun _ h9 => h9) rfl dX11_shows_12 ?_
  refine lv_iload_n hx hb dX11_shows_15 rfl (lv_at hl 1 rfl) ?_
  refine va_zald hx hb hK hP 11 10 rfl rfl (i := p1) (vp_in_iff.mpr (by omega)) dX11_shows_16 ?_
  refine lv_topi (fun z1 ez1 => ?_)
  have rz1 : 0 ≤ (z1).toInt ∧ (z1).toInt ≤ 1 := by rw [ez1]; exact hf_isn _
  refine lv_if_eq (tgt := 26) hx hb dX11_shows_17 (by decide) (fun c2 => ?_) (fun c2 => ?_)
  · have kc2 := (cv_eq (rfl : (z1).toInt = (z1).toInt) (by decide : (0 : Int32).toInt = 0)).mp c2
    refine lv_aload_n hx hb dX11_shows_26 rfl (lv_at hl 0 rfl) ?_
    refine lv_aload_n hx hb dX11_shows_27 rfl (lv_at hl 0 rfl) ?_
    refine va_get (D := (dC, dI)) (ci := 8) (v := .ref h_tem) (C := RX11) (T := TX11) (N := 71) hx hb hw iwX11 hown hK hP 0 rfl rfl 12 (by decide) (hw _ w_f_X11_152) (fun _ h9 => h9) rfl dX11_shows_28 ?_
    refine lv_iload_n hx hb dX11_shows_31 rfl (lv_at hl 1 rfl) ?_
    refine va_iald hx hb hK hP 12 11 rfl rfl (i := p1) (vp_in_iff.mpr (by omega)) dX11_shows_32 ?_
    refine lv_topi (fun z3 ez3 => ?_)
    have rz3 : 0 ≤ (z3).toInt ∧ (z3).toInt ≤ 7999 := by rw [ez3]; exact hf_tem _
    have tq9 : f_tem (p1).toInt.toNat = z3 := by rw [← clamp_nat (i := p1) (by omega), ← ez3]
    have tr9 : 0 ≤ (z3).toInt ∧ (z3).toInt < N ∧ hz (z3).toInt.toNat = 7 := by rw [← tq9]; omega
    refine lv_iload_n hx hb dX11_shows_33 rfl (lv_at hl 2 rfl) ?_
    refine lv_iload_n hx hb dX11_shows_34 rfl (lv_at hl 3 rfl) ?_
    have l09 : ([] : List Nat).length = 0 := rfl
    obtain ⟨vq4, evq4⟩ := mq159_157 v_mm (.ref h_isn) (.ref h_tem) (.ref h_out) (.int x_mm_outs)
    replace hP : va_P (dC, dI) cls [(h_mm, .inr (8, (mo157 vq4 (.ref h_nv) (.ref h_nn) (.ref h_na) (.ref h_nb) (.ref h_nc) (.ref h_let) (.ref h_bto) (.ref h_bin) (.int x_mm_goneTo) (.int x_mm_goneIn) (.ref h_cof) (.ref h_wri) (.int 0) (.int 300)))), (h_wri, .inl (cy_wri, 1000, .inl f_wri)), (h_let, .inl (cy_let, 256, .inl f_let)), (h_nv, .inl (cy_nv, 8000, .inl f_nv)), (h_nn, .inl (cy_nn, 8000, .inr (.inl f_nn))), (h_na, .inl (cy_na, 8000, .inl f_na)), (h_nb, .inl (cy_nb, 8000, .inl f_nb)), (h_nc, .inl (cy_nc, 8000, .inl f_nc)), (h_bto, .inl (cy_bto, 256, .inl f_bto)), (h_bin, .inl (cy_bin, 256, .inl f_bin)), (h_cof, .inl (cy_cof, 31, .inl f_cof)), (h_isn, .inl (cy_isn, 192, .inl f_isn)), (h_tem, .inl (cy_tem, 192, .inl f_tem)), (h_out, .inl (cy_out, 1000, .inl f_out))] H := by rw [evq4]; exact hP
    replace hD : va_D A [(h_mm, .inr (8, (mo157 vq4 (.ref h_nv) (.ref h_nn) (.ref h_na) (.ref h_nb) (.ref h_nc) (.ref h_let) (.ref h_bto) (.ref h_bin) (.int x_mm_goneTo) (.int x_mm_goneIn) (.ref h_cof) (.ref h_wri) (.int 0) (.int 300)))), (h_wri, .inl (cy_wri, 1000, .inl f_wri)), (h_let, .inl (cy_let, 256, .inl f_let)), (h_nv, .inl (cy_nv, 8000, .inl f_nv)), (h_nn, .inl (cy_nn, 8000, .inr (.inl f_nn))), (h_na, .inl (cy_na, 8000, .inl f_na)), (h_nb, .inl (cy_nb, 8000, .inl f_nb)), (h_nc, .inl (cy_nc, 8000, .inl f_nc)), (h_bto, .inl (cy_bto, 256, .inl f_bto)), (h_bin, .inl (cy_bin, 256, .inl f_bin)), (h_cof, .inl (cy_cof, 31, .inl f_cof)), (h_isn, .inl (cy_isn, 192, .inl f_isn)), (h_tem, .inl (cy_tem, 192, .inl f_tem)), (h_out, .inl (cy_out, 1000, .inl f_out))] := by rw [evq4]; exact hD
    have cstm1 : ((-1) : Int32).toInt = -1 := by decide
    have hPc := hP.sub (ws' := [(h_mm, .inr (8, (mo157 vq4 (.ref h_nv) (.ref h_nn) (.ref h_na) (.ref h_nb) (.ref h_nc) (.ref h_let) (.ref h_bto) (.ref h_bin) (.int x_mm_goneTo) (.int x_mm_goneIn) (.ref h_cof) (.ref h_wri) (.int 0) (.int 300)))), (h_wri, .inl (cy_wri, 1000, .inl f_wri)), (h_let, .inl (cy_let, 256, .inl f_let)), (h_nv, .inl (cy_nv, 8000, .inl f_nv)), (h_nn, .inl (cy_nn, 8000, .inr (.inl f_nn))), (h_na, .inl (cy_na, 8000, .inl f_na)), (h_nb, .inl (cy_nb, 8000, .inl f_nb)), (h_nc, .inl (cy_nc, 8000, .inl f_nc)), (h_bto, .inl (cy_bto, 256, .inl f_bto)), (h_bin, .inl (cy_bin, 256, .inl f_bin)), (h_cof, .inl (cy_cof, 31, .inl f_cof))]) [0, 1, 2, 3, 4, 5, 6, 7, 8, 9, 10] rfl
    have hDc := hD.sub (ws' := [(h_mm, .inr (8, (mo157 vq4 (.ref h_nv) (.ref h_nn) (.ref h_na) (.ref h_nb) (.ref h_nc) (.ref h_let) (.ref h_bto) (.ref h_bin) (.int x_mm_goneTo) (.int x_mm_goneIn) (.ref h_cof) (.ref h_wri) (.int 0) (.int 300)))), (h_wri, .inl (cy_wri, 1000, .inl f_wri)), (h_let, .inl (cy_let, 256, .inl f_let)), (h_nv, .inl (cy_nv, 8000, .inl f_nv)), (h_nn, .inl (cy_nn, 8000, .inr (.inl f_nn))), (h_na, .inl (cy_na, 8000, .inl f_na)), (h_nb, .inl (cy_nb, 8000, .inl f_nb)), (h_nc, .inl (cy_nc, 8000, .inl f_nc)), (h_bto, .inl (cy_bto, 256, .inl f_bto)), (h_bin, .inl (cy_bin, 256, .inl f_bin)), (h_cof, .inl (cy_cof, 31, .inl f_cof))]) [0, 1, 2, 3, 4, 5, 6, 7, 8, 9, 10] (by decide) rfl
    have hKc := hK.sub (tys' := [(cy_wri, .int), (cy_let, .int), (cy_nv, .int), (cy_nn, .long), (cy_na, .int), (cy_nb, .int), (cy_nc, .int), (cy_bto, .int), (cy_bin, .int), (cy_cof, .int)]) [0, 1, 2, 3, 4, 5, 6, 7, 8, 9] rfl
    have hFc := va_free (wc := [(h_mm, .inr (8, (mo157 vq4 (.ref h_nv) (.ref h_nn) (.ref h_na) (.ref h_nb) (.ref h_nc) (.ref h_let) (.ref h_bto) (.ref h_bin) (.int x_mm_goneTo) (.int x_mm_goneIn) (.ref h_cof) (.ref h_wri) (.int 0) (.int 300)))), (h_wri, .inl (cy_wri, 1000, .inl f_wri)), (h_let, .inl (cy_let, 256, .inl f_let)), (h_nv, .inl (cy_nv, 8000, .inl f_nv)), (h_nn, .inl (cy_nn, 8000, .inr (.inl f_nn))), (h_na, .inl (cy_na, 8000, .inl f_na)), (h_nb, .inl (cy_nb, 8000, .inl f_nb)), (h_nc, .inl (cy_nc, 8000, .inl f_nc)), (h_bto, .inl (cy_bto, 256, .inl f_bto)), (h_bin, .inl (cy_bin, 256, .inl f_bin)), (h_cof, .inl (cy_cof, 31, .inl f_cof))]) hD hS hA [0, 1, 2, 3, 4, 5, 6, 7, 8, 9, 10] rfl
    refine va_callv (va_runV (As := [.int z3, .int p2, .int (-1)]) (rest := []) ⟨hx, hb, hml, hown, hts⟩ (c_X11_saysTerm_1 l 1544 dC dI H.size h_mm h_wri h_let h_nv h_nn h_na h_nb h_nc h_bto h_bin h_cof vq4 x_mm_goneTo x_mm_goneIn 0 300 cy_wri f_wri cy_let f_let cy_nv f_nv cy_nn f_nn cy_na f_na cy_nb f_nb cy_nc f_nc cy_bto f_bto cy_bin f_bin cy_cof f_cof z3 p2 (-1) i0 i1 N hz ([]) (by first | exact hx_mm_goneTo | omega) (by first | exact hx_mm_goneIn | omega) (by decide) (by decide) hf_nv hf_na hf_nb hf_nc hf_bto hf_bin hf_cof (by first | exact q3 | omega) (by first | exact q4 | omega) (by first | exact q5 | omega) (by omega) (by first | exact q6 | omega) (by omega) hn_bi pa_nil) (cwV 3 hts (gv hT w_m_X11_459 w_instanceMethod_X11_saysTerm ws_sel_X11_saysTerm w_ini_X11 w_code_X11_saysTerm) rfl rfl rfl (by decide +kernel) ⟨(Nat.le_of_ble_eq_true rfl), (Nat.le_of_ble_eq_true rfl)⟩) ⟨pre_blind, va_recv hK hP (ci := 8) (q0 := 0) rfl rfl, pre_of hPc hKc hDc hN⟩ rfl rfl hl.1 rfl (lv_room (Nat.le_of_ble_eq_true rfl)) dX11_shows_35 ⟨(Nat.le_of_ble_eq_true rfl), (Nat.le_of_ble_eq_true rfl)⟩) hS (fun q _ h => hFc q h) hFc (fun u t H locs ht hvm hq hB hz1 hk1 hS9 => ?_)
    obtain ⟨z6, z7, z8, f9⟩ := u
    obtain ⟨hP1, hD1⟩ := hB
    rw [ht] at hP1
    obtain ⟨hP9, hD9⟩ := va_join (wr := [(h_isn, .inl (cy_isn, 192, .inl f_isn)), (h_tem, .inl (cy_tem, 192, .inl f_tem)), (h_out, .inl (cy_out, 1000, .inl f_out))]) (w1 := [(h_mm, .inr (8, (mo157 vq4 (.ref h_nv) (.ref h_nn) (.ref h_na) (.ref h_nb) (.ref h_nc) (.ref h_let) (.ref h_bto) (.ref h_bin) (.int z6) (.int z7) (.ref h_cof) (.ref h_wri) (.int z8) (.int 300)))), (h_wri, .inl (cy_wri, 1000, .inl f9)), (h_let, .inl (cy_let, 256, .inl f_let)), (h_nv, .inl (cy_nv, 8000, .inl f_nv)), (h_nn, .inl (cy_nn, 8000, .inr (.inl f_nn))), (h_na, .inl (cy_na, 8000, .inl f_na)), (h_nb, .inl (cy_nb, 8000, .inl f_nb)), (h_nc, .inl (cy_nc, 8000, .inl f_nc)), (h_bto, .inl (cy_bto, 256, .inl f_bto)), (h_bin, .inl (cy_bin, 256, .inl f_bin)), (h_cof, .inl (cy_cof, 31, .inl f_cof))]) hP hD [0, 1, 2, 3, 4, 5, 6, 7, 8, 9, 10] [11, 12, 13] rfl rfl (by decide) (by decide) hk1 hFc hP1 hD1
    clear hP hD hS hPc hDc hKc hFc hP1 hD1 hk1 hz1 ht hvm
    have hP : va_P (dC, dI) cls [(h_isn, .inl (cy_isn, 192, .inl f_isn)), (h_tem, .inl (cy_tem, 192, .inl f_tem)), (h_out, .inl (cy_out, 1000, .inl f_out)), (h_mm, .inr (8, (mo157 vq4 (.ref h_nv) (.ref h_nn) (.ref h_na) (.ref h_nb) (.ref h_nc) (.ref h_let) (.ref h_bto) (.ref h_bin) (.int z6) (.int z7) (.ref h_cof) (.ref h_wri) (.int z8) (.int 300)))), (h_wri, .inl (cy_wri, 1000, .inl f9)), (h_let, .inl (cy_let, 256, .inl f_let)), (h_nv, .inl (cy_nv, 8000, .inl f_nv)), (h_nn, .inl (cy_nn, 8000, .inr (.inl f_nn))), (h_na, .inl (cy_na, 8000, .inl f_na)), (h_nb, .inl (cy_nb, 8000, .inl f_nb)), (h_nc, .inl (cy_nc, 8000, .inl f_nc)), (h_bto, .inl (cy_bto, 256, .inl f_bto)), (h_bin, .inl (cy_bin, 256, .inl f_bin)), (h_cof, .inl (cy_cof, 31, .inl f_cof))] H := hP9
    have hD : va_D A [(h_isn, .inl (cy_isn, 192, .inl f_isn)), (h_tem, .inl (cy_tem, 192, .inl f_tem)), (h_out, .inl (cy_out, 1000, .inl f_out)), (h_mm, .inr (8, (mo157 vq4 (.ref h_nv) (.ref h_nn) (.ref h_na) (.ref h_nb) (.ref h_nc) (.ref h_let) (.ref h_bto) (.ref h_bin) (.int z6) (.int z7) (.ref h_cof) (.ref h_wri) (.int z8) (.int 300)))), (h_wri, .inl (cy_wri, 1000, .inl f9)), (h_let, .inl (cy_let, 256, .inl f_let)), (h_nv, .inl (cy_nv, 8000, .inl f_nv)), (h_nn, .inl (cy_nn, 8000, .inr (.inl f_nn))), (h_na, .inl (cy_na, 8000, .inl f_na)), (h_nb, .inl (cy_nb, 8000, .inl f_nb)), (h_nc, .inl (cy_nc, 8000, .inl f_nc)), (h_bto, .inl (cy_bto, 256, .inl f_bto)), (h_bin, .inl (cy_bin, 256, .inl f_bin)), (h_cof, .inl (cy_cof, 31, .inl f_cof))] := hD9
    have hS := hS9
    clear hP9 hD9 hS9
    rw [evq4] at hP hD
    replace hP : va_P (dC, dI) cls [(h_isn, .inl (cy_isn, 192, .inl f_isn)), (h_tem, .inl (cy_tem, 192, .inl f_tem)), (h_out, .inl (cy_out, 1000, .inl f_out)), (h_mm, .inr (8, (mo159 v_mm (.ref h_nv) (.ref h_nn) (.ref h_na) (.ref h_nb) (.ref h_nc) (.ref h_let) (.ref h_isn) (.ref h_tem) (.ref h_bto) (.ref h_bin) (.int z6) (.int z7) (.ref h_cof) (.ref h_out) (.int x_mm_outs) (.ref h_wri) (.int z8) (.int 300)))), (h_wri, .inl (cy_wri, 1000, .inl f9)), (h_let, .inl (cy_let, 256, .inl f_let)), (h_nv, .inl (cy_nv, 8000, .inl f_nv)), (h_nn, .inl (cy_nn, 8000, .inr (.inl f_nn))), (h_na, .inl (cy_na, 8000, .inl f_na)), (h_nb, .inl (cy_nb, 8000, .inl f_nb)), (h_nc, .inl (cy_nc, 8000, .inl f_nc)), (h_bto, .inl (cy_bto, 256, .inl f_bto)), (h_bin, .inl (cy_bin, 256, .inl f_bin)), (h_cof, .inl (cy_cof, 31, .inl f_cof))] H := hP
    replace hD : va_D A [(h_isn, .inl (cy_isn, 192, .inl f_isn)), (h_tem, .inl (cy_tem, 192, .inl f_tem)), (h_out, .inl (cy_out, 1000, .inl f_out)), (h_mm, .inr (8, (mo159 v_mm (.ref h_nv) (.ref h_nn) (.ref h_na) (.ref h_nb) (.ref h_nc) (.ref h_let) (.ref h_isn) (.ref h_tem) (.ref h_bto) (.ref h_bin) (.int z6) (.int z7) (.ref h_cof) (.ref h_out) (.int x_mm_outs) (.ref h_wri) (.int z8) (.int 300)))), (h_wri, .inl (cy_wri, 1000, .inl f9)), (h_let, .inl (cy_let, 256, .inl f_let)), (h_nv, .inl (cy_nv, 8000, .inl f_nv)), (h_nn, .inl (cy_nn, 8000, .inr (.inl f_nn))), (h_na, .inl (cy_na, 8000, .inl f_na)), (h_nb, .inl (cy_nb, 8000, .inl f_nb)), (h_nc, .inl (cy_nc, 8000, .inl f_nc)), (h_bto, .inl (cy_bto, 256, .inl f_bto)), (h_bin, .inl (cy_bin, 256, .inl f_bin)), (h_cof, .inl (cy_cof, 31, .inl f_cof))] := hD
    clear evq4 
    obtain ⟨k10, k11, k12⟩ := hq
    replace k10 : 0 ≤ ((z6)).toInt ∧ ((z6)).toInt ≤ 7999 := k10
    replace k11 : 0 ≤ ((z7)).toInt ∧ ((z7)).toInt ≤ 31 := k11
    replace k12 : 0 ≤ ((z8)).toInt ∧ ((z8)).toInt ≤ 1000 := k12
    refine lv_aload_n hx hb dX11_shows_38 rfl (lv_at hl 0 rfl) ?_
    refine va_get (D := (dC, dI)) (ci := 8) (v := .int z8) (C := RX11) (T := TX11) (N := 71) hx hb hw iwX11 hown hK hP 3 rfl rfl 65 (by decide) (hw _ w_f_X11_443) (fun _ h9 => h9) rfl dX11_shows_39 ?_
    refine lv_iload hx hb dX11_shows_42 (lv_at hl 4 rfl) ?_
    refine lv_icmp_le (tgt := 49) hx hb dX11_shows_44 (by decide) (fun c13 => ?_) (fun c13 => ?_)
    · have kc13 := (cv_le (rfl : (z8).toInt = (z8).toInt) (by decide : (300 : Int32).toInt = 300)).mp c13
      refine lv_iconst (v := 0) hx hb dX11_shows_49 (by decide) ?_
      refine lv_istore (lv' := [(5, .int 0), (0, .ref h_mm), (1, .int p1), (2, .int p2), (3, .int (-1)), (4, .int 300)]) hx hb dX11_shows_50 hl (by decide) rfl (fun ls hl => ?_)
      have lp16 : ∀ (n : Nat) (x14 : Int32) (f15 : Nat → Int32) (H : Heap) (locs : List Loc) (ls : Array Slot), (0 ≤ (x14).toInt ∧ (x14).toInt ≤ 1000) → ((z8).toInt ≤ 300) → (1000 - (x14).toInt).toNat + 1 ≤ n → va_P (dC, dI) cls [(h_isn, .inl (cy_isn, 192, .inl f_isn)), (h_tem, .inl (cy_tem, 192, .inl f_tem)), (h_out, .inl (cy_out, 1000, .inl f15)), (h_mm, .inr (8, (mo159 v_mm (.ref h_nv) (.ref h_nn) (.ref h_na) (.ref h_nb) (.ref h_nc) (.ref h_let) (.ref h_isn) (.ref h_tem) (.ref h_bto) (.ref h_bin) (.int z6) (.int z7) (.ref h_cof) (.ref h_out) (.int x_mm_outs) (.ref h_wri) (.int z8) (.int 300)))), (h_wri, .inl (cy_wri, 1000, .inl f9)), (h_let, .inl (cy_let, 256, .inl f_let)), (h_nv, .inl (cy_nv, 8000, .inl f_nv)), (h_nn, .inl (cy_nn, 8000, .inr (.inl f_nn))), (h_na, .inl (cy_na, 8000, .inl f_na)), (h_nb, .inl (cy_nb, 8000, .inl f_nb)), (h_nc, .inl (cy_nc, 8000, .inl f_nc)), (h_bto, .inl (cy_bto, 256, .inl f_bto)), (h_bin, .inl (cy_bin, 256, .inl f_bin)), (h_cof, .inl (cy_cof, 31, .inl f_cof))] H → va_D A [(h_isn, .inl (cy_isn, 192, .inl f_isn)), (h_tem, .inl (cy_tem, 192, .inl f_tem)), (h_out, .inl (cy_out, 1000, .inl f15)), (h_mm, .inr (8, (mo159 v_mm (.ref h_nv) (.ref h_nn) (.ref h_na) (.ref h_nb) (.ref h_nc) (.ref h_let) (.ref h_isn) (.ref h_tem) (.ref h_bto) (.ref h_bin) (.int z6) (.int z7) (.ref h_cof) (.ref h_out) (.int x_mm_outs) (.ref h_wri) (.int z8) (.int 300)))), (h_wri, .inl (cy_wri, 1000, .inl f9)), (h_let, .inl (cy_let, 256, .inl f_let)), (h_nv, .inl (cy_nv, 8000, .inl f_nv)), (h_nn, .inl (cy_nn, 8000, .inr (.inl f_nn))), (h_na, .inl (cy_na, 8000, .inl f_na)), (h_nb, .inl (cy_nb, 8000, .inl f_nb)), (h_nc, .inl (cy_nc, 8000, .inl f_nc)), (h_bto, .inl (cy_bto, 256, .inl f_bto)), (h_bin, .inl (cy_bin, 256, .inl f_bin)), (h_cof, .inl (cy_cof, 31, .inl f_cof))] → va_S A s.heap H locs → lv_has ls 6 [(0, .ref h_mm), (1, .int p1), (2, .int p2), (3, .int (-1)), (4, .int 300), (5, .int x14)] → W p l e ({ frames := 1560, cells := 0, slots := 0, locals := 40499 } : Room) s m ([.ref h_mm, .int p1, .int p2, .int (-1), .int 300] : List Value).toArray below meth c H locs 0 0 (MQ below (va_Qi (fun (r : Int32) (u : (Int32) × (Int32) × (Int32) × (Int32) × (Int32) × (Nat → Int32) × (Nat → Int32)) => (0 ≤ (u.1).toInt ∧ (u.1).toInt ≤ 7999) ∧ (0 ≤ (u.2.1).toInt ∧ (u.2.1).toInt ≤ 31) ∧ (0 ≤ (u.2.2.1).toInt ∧ (u.2.2.1).toInt ≤ 1000) ∧ (0 ≤ (u.2.2.2.1).toInt ∧ (u.2.2.2.1).toInt ≤ 1000) ∧ (0 ≤ (u.2.2.2.2.1).toInt ∧ (u.2.2.2.2.1).toInt ≤ 998)) (fun (u : (Int32) × (Int32) × (Int32) × (Int32) × (Int32) × (Nat → Int32) × (Nat → Int32)) (t : State) => va_P (dC, dI) cls [(h_mm, .inr (8, (mo159 v_mm (.ref h_nv) (.ref h_nn) (.ref h_na) (.ref h_nb) (.ref h_nc) (.ref h_let) (.ref h_isn) (.ref h_tem) (.ref h_bto) (.ref h_bin) (.int u.1) (.int u.2.1) (.ref h_cof) (.ref h_out) (.int u.2.2.1) (.ref h_wri) (.int u.2.2.2.1) (.int u.2.2.2.2.1)))), (h_wri, .inl (cy_wri, 1000, .inl u.2.2.2.2.2.1)), (h_let, .inl (cy_let, 256, .inl f_let)), (h_nv, .inl (cy_nv, 8000, .inl f_nv)), (h_nn, .inl (cy_nn, 8000, .inr (.inl f_nn))), (h_na, .inl (cy_na, 8000, .inl f_na)), (h_nb, .inl (cy_nb, 8000, .inl f_nb)), (h_nc, .inl (cy_nc, 8000, .inl f_nc)), (h_bto, .inl (cy_bto, 256, .inl f_bto)), (h_bin, .inl (cy_bin, 256, .inl f_bin)), (h_cof, .inl (cy_cof, 31, .inl f_cof)), (h_isn, .inl (cy_isn, 192, .inl f_isn)), (h_tem, .inl (cy_tem, 192, .inl f_tem)), (h_out, .inl (cy_out, 1000, .inl u.2.2.2.2.2.2))] t.heap ∧ va_D A [(h_mm, .inr (8, (mo159 v_mm (.ref h_nv) (.ref h_nn) (.ref h_na) (.ref h_nb) (.ref h_nc) (.ref h_let) (.ref h_isn) (.ref h_tem) (.ref h_bto) (.ref h_bin) (.int u.1) (.int u.2.1) (.ref h_cof) (.ref h_out) (.int u.2.2.1) (.ref h_wri) (.int u.2.2.2.1) (.int u.2.2.2.2.1)))), (h_wri, .inl (cy_wri, 1000, .inl u.2.2.2.2.2.1)), (h_let, .inl (cy_let, 256, .inl f_let)), (h_nv, .inl (cy_nv, 8000, .inl f_nv)), (h_nn, .inl (cy_nn, 8000, .inr (.inl f_nn))), (h_na, .inl (cy_na, 8000, .inl f_na)), (h_nb, .inl (cy_nb, 8000, .inl f_nb)), (h_nc, .inl (cy_nc, 8000, .inl f_nc)), (h_bto, .inl (cy_bto, 256, .inl f_bto)), (h_bin, .inl (cy_bin, 256, .inl f_bin)), (h_cof, .inl (cy_cof, 31, .inl f_cof)), (h_isn, .inl (cy_isn, 192, .inl f_isn)), (h_tem, .inl (cy_tem, 192, .inl f_tem)), (h_out, .inl (cy_out, 1000, .inl u.2.2.2.2.2.2))]) A) ([.ref h_mm, .int p1, .int p2, .int (-1), .int 300] : List Value).toArray s 0 0 A) (F0 m 52 ls []) := by
        clear hP hD hS hl
        intro n
        induction n with
        | zero => intro x14 f15 H locs ls klp16_0 klp16_1 hm hP hD hS hl; exact False.elim (by omega)
        | succ n ih => 
          intro x14 f15 H locs ls klp16_0 klp16_1 hm hP hD hS hl
          have ih17 := ih
          clear ih
          refine lv_iload hx hb dX11_shows_52 (lv_at hl 5 rfl) ?_
          refine lv_aload_n hx hb dX11_shows_54 rfl (lv_at hl 0 rfl) ?_
          refine va_get (D := (dC, dI)) (ci := 8) (v := .int z8) (C := RX11) (T := TX11) (N := 71) hx hb hw iwX11 hown hK hP 3 rfl rfl 65 (by decide) (hw _ w_f_X11_443) (fun _ h9 => h9) rfl dX11_shows_55 ?_
          refine lv_icmp_ge (tgt := 81) hx hb dX11_shows_58 (by decide) (fun c18 => ?_) (fun c18 => ?_)
          · have kc18 := (cv_le (rfl : (z8).toInt = (z8).toInt) (rfl : (x14).toInt = (x14).toInt)).mp c18
            refine lv_aload_n hx hb dX11_shows_81 rfl (lv_at hl 0 rfl) ?_
            refine lv_aload_n hx hb dX11_shows_82 rfl (lv_at hl 0 rfl) ?_
            refine va_get (D := (dC, dI)) (ci := 8) (v := .int z8) (C := RX11) (T := TX11) (N := 71) hx hb hw iwX11 hown hK hP 3 rfl rfl 65 (by decide) (hw _ w_f_X11_443) (fun _ h9 => h9) rfl dX11_shows_83 ?_
            refine va_put (D := (dC, dI)) (ci := 8) (v := .int z8) (ty := tyX11 63) (C := RX11) (T := TX11) (N := 71) hx hb hw iwX11 tyX11 tyX11_ok nmX11 hown hK hP hD hS 3 rfl rfl 63 (by decide) (hw _ w_f_X11_462) (fun _ h9 => h9) rfl (tyX11_ok 63 (by decide)) rfl rfl (Nat.le_of_ble_eq_true rfl) dX11_shows_86 (fun H locs hP9 hD9 hS9 => ?_)
            clear hP hD hS
            have hP : va_P (dC, dI) cls [(h_isn, .inl (cy_isn, 192, .inl f_isn)), (h_tem, .inl (cy_tem, 192, .inl f_tem)), (h_out, .inl (cy_out, 1000, .inl f15)), (h_mm, .inr (8, (mo159 v_mm (.ref h_nv) (.ref h_nn) (.ref h_na) (.ref h_nb) (.ref h_nc) (.ref h_let) (.ref h_isn) (.ref h_tem) (.ref h_bto) (.ref h_bin) (.int z6) (.int z7) (.ref h_cof) (.ref h_out) (.int z8) (.ref h_wri) (.int z8) (.int 300)))), (h_wri, .inl (cy_wri, 1000, .inl f9)), (h_let, .inl (cy_let, 256, .inl f_let)), (h_nv, .inl (cy_nv, 8000, .inl f_nv)), (h_nn, .inl (cy_nn, 8000, .inr (.inl f_nn))), (h_na, .inl (cy_na, 8000, .inl f_na)), (h_nb, .inl (cy_nb, 8000, .inl f_nb)), (h_nc, .inl (cy_nc, 8000, .inl f_nc)), (h_bto, .inl (cy_bto, 256, .inl f_bto)), (h_bin, .inl (cy_bin, 256, .inl f_bin)), (h_cof, .inl (cy_cof, 31, .inl f_cof))] H := hP9
            have hD : va_D A [(h_isn, .inl (cy_isn, 192, .inl f_isn)), (h_tem, .inl (cy_tem, 192, .inl f_tem)), (h_out, .inl (cy_out, 1000, .inl f15)), (h_mm, .inr (8, (mo159 v_mm (.ref h_nv) (.ref h_nn) (.ref h_na) (.ref h_nb) (.ref h_nc) (.ref h_let) (.ref h_isn) (.ref h_tem) (.ref h_bto) (.ref h_bin) (.int z6) (.int z7) (.ref h_cof) (.ref h_out) (.int z8) (.ref h_wri) (.int z8) (.int 300)))), (h_wri, .inl (cy_wri, 1000, .inl f9)), (h_let, .inl (cy_let, 256, .inl f_let)), (h_nv, .inl (cy_nv, 8000, .inl f_nv)), (h_nn, .inl (cy_nn, 8000, .inr (.inl f_nn))), (h_na, .inl (cy_na, 8000, .inl f_na)), (h_nb, .inl (cy_nb, 8000, .inl f_nb)), (h_nc, .inl (cy_nc, 8000, .inl f_nc)), (h_bto, .inl (cy_bto, 256, .inl f_bto)), (h_bin, .inl (cy_bin, 256, .inl f_bin)), (h_cof, .inl (cy_cof, 31, .inl f_cof))] := hD9
            have hS := hS9
            clear hP9 hD9 hS9
            refine lv_aload_n hx hb dX11_shows_89 rfl (lv_at hl 0 rfl) ?_
            refine va_get (D := (dC, dI)) (ci := 8) (v := .int z8) (C := RX11) (T := TX11) (N := 71) hx hb hw iwX11 hown hK hP 3 rfl rfl 63 (by decide) (hw _ w_f_X11_462) (fun _ h9 => h9) rfl dX11_shows_90 ?_
            replace hP : va_P (dC, dI) cls [(h_mm, .inr (8, (mo159 v_mm (.ref h_nv) (.ref h_nn) (.ref h_na) (.ref h_nb) (.ref h_nc) (.ref h_let) (.ref h_isn) (.ref h_tem) (.ref h_bto) (.ref h_bin) (.int z6) (.int z7) (.ref h_cof) (.ref h_out) (.int z8) (.ref h_wri) (.int z8) (.int 300)))), (h_wri, .inl (cy_wri, 1000, .inl f9)), (h_let, .inl (cy_let, 256, .inl f_let)), (h_nv, .inl (cy_nv, 8000, .inl f_nv)), (h_nn, .inl (cy_nn, 8000, .inr (.inl f_nn))), (h_na, .inl (cy_na, 8000, .inl f_na)), (h_nb, .inl (cy_nb, 8000, .inl f_nb)), (h_nc, .inl (cy_nc, 8000, .inl f_nc)), (h_bto, .inl (cy_bto, 256, .inl f_bto)), (h_bin, .inl (cy_bin, 256, .inl f_bin)), (h_cof, .inl (cy_cof, 31, .inl f_cof)), (h_isn, .inl (cy_isn, 192, .inl f_isn)), (h_tem, .inl (cy_tem, 192, .inl f_tem)), (h_out, .inl (cy_out, 1000, .inl f15))] H := hP.sub [3, 4, 5, 6, 7, 8, 9, 10, 11, 12, 13, 0, 1, 2] rfl
            replace hD : va_D A [(h_mm, .inr (8, (mo159 v_mm (.ref h_nv) (.ref h_nn) (.ref h_na) (.ref h_nb) (.ref h_nc) (.ref h_let) (.ref h_isn) (.ref h_tem) (.ref h_bto) (.ref h_bin) (.int z6) (.int z7) (.ref h_cof) (.ref h_out) (.int z8) (.ref h_wri) (.int z8) (.int 300)))), (h_wri, .inl (cy_wri, 1000, .inl f9)), (h_let, .inl (cy_let, 256, .inl f_let)), (h_nv, .inl (cy_nv, 8000, .inl f_nv)), (h_nn, .inl (cy_nn, 8000, .inr (.inl f_nn))), (h_na, .inl (cy_na, 8000, .inl f_na)), (h_nb, .inl (cy_nb, 8000, .inl f_nb)), (h_nc, .inl (cy_nc, 8000, .inl f_nc)), (h_bto, .inl (cy_bto, 256, .inl f_bto)), (h_bin, .inl (cy_bin, 256, .inl f_bin)), (h_cof, .inl (cy_cof, 31, .inl f_cof)), (h_isn, .inl (cy_isn, 192, .inl f_isn)), (h_tem, .inl (cy_tem, 192, .inl f_tem)), (h_out, .inl (cy_out, 1000, .inl f15))] := hD.sub [3, 4, 5, 6, 7, 8, 9, 10, 11, 12, 13, 0, 1, 2] (by decide) rfl
            refine W.widen (k := 0) (n := 0) (Nat.le_of_ble_eq_true rfl) (Nat.le_of_ble_eq_true rfl) ?_
            have cst300 : (300 : Int32).toInt = 300 := by decide
            have w19 : 0 ≤ ((z6)).toInt ∧ ((z6)).toInt ≤ 7999 := by first | exact k10 | omega
            have w20 : 0 ≤ ((z7)).toInt ∧ ((z7)).toInt ≤ 31 := by first | exact k11 | omega
            have w21 : 0 ≤ ((z8)).toInt ∧ ((z8)).toInt ≤ 1000 := by first | exact k12 | omega
            have w22 : 0 ≤ ((z8)).toInt ∧ ((z8)).toInt ≤ 1000 := by first | exact k12 | omega
            have w23 : 0 ≤ ((300 : Int32)).toInt ∧ ((300 : Int32)).toInt ≤ 998 := by omega
            exact W.iret (v := z8) hx hb hr (fun t ht hW => ⟨⟨z8, (z6, z7, z8, z8, 300, f9, f15), rfl, ⟨w19, w20, w21, w22, w23⟩, by rw [ht]; exact hP, hD⟩, hS.F ht⟩) hS.2.2 dX11_shows_93
          · have kc18 := (not_congr (cv_le (rfl : (z8).toInt = (z8).toInt) (rfl : (x14).toInt = (x14).toInt))).mp c18
            refine lv_aload_n hx hb dX11_shows_61 rfl (lv_at hl 0 rfl) ?_
            refine va_get (D := (dC, dI)) (ci := 8) (v := .ref h_out) (C := RX11) (T := TX11) (N := 71) hx hb hw iwX11 hown hK hP 3 rfl rfl 62 (by decide) (hw _ w_f_X11_243) (fun _ h9 => h9) rfl dX11_shows_62 ?_
            refine lv_iload hx hb dX11_shows_65 (lv_at hl 5 rfl) ?_
            refine lv_aload_n hx hb dX11_shows_67 rfl (lv_at hl 0 rfl) ?_
            refine va_get (D := (dC, dI)) (ci := 8) (v := .ref h_wri) (C := RX11) (T := TX11) (N := 71) hx hb hw iwX11 hown hK hP 3 rfl rfl 64 (by decide) (hw _ w_f_X11_246) (fun _ h9 => h9) rfl dX11_shows_68 ?_
            refine lv_iload hx hb dX11_shows_71 (lv_at hl 5 rfl) ?_
            refine va_iald hx hb hK hP 4 0 rfl rfl (i := x14) (vp_in_iff.mpr (by omega)) dX11_shows_73 ?_
            refine lv_topi (fun z24 ez24 => ?_)
            refine va_iast hx hb hK hP hD hS 2 12 rfl rfl (i := x14) (x := z24) (vp_in_iff.mpr (by omega)) dX11_shows_74 (fun H locs hP9 hD9 hS9 => ?_)
            obtain ⟨f25, ef25⟩ : ∃ g : Nat → Int32, g = upd f15 (Int32.toNatClampNeg x14) z24 := ⟨_, rfl⟩
            clear hP hD hS
            have hP : va_P (dC, dI) cls [(h_isn, .inl (cy_isn, 192, .inl f_isn)), (h_tem, .inl (cy_tem, 192, .inl f_tem)), (h_out, .inl (cy_out, 1000, .inl f25)), (h_mm, .inr (8, (mo159 v_mm (.ref h_nv) (.ref h_nn) (.ref h_na) (.ref h_nb) (.ref h_nc) (.ref h_let) (.ref h_isn) (.ref h_tem) (.ref h_bto) (.ref h_bin) (.int z6) (.int z7) (.ref h_cof) (.ref h_out) (.int x_mm_outs) (.ref h_wri) (.int z8) (.int 300)))), (h_wri, .inl (cy_wri, 1000, .inl f9)), (h_let, .inl (cy_let, 256, .inl f_let)), (h_nv, .inl (cy_nv, 8000, .inl f_nv)), (h_nn, .inl (cy_nn, 8000, .inr (.inl f_nn))), (h_na, .inl (cy_na, 8000, .inl f_na)), (h_nb, .inl (cy_nb, 8000, .inl f_nb)), (h_nc, .inl (cy_nc, 8000, .inl f_nc)), (h_bto, .inl (cy_bto, 256, .inl f_bto)), (h_bin, .inl (cy_bin, 256, .inl f_bin)), (h_cof, .inl (cy_cof, 31, .inl f_cof))] H := by rw [ef25]; exact hP9
            have hD : va_D A [(h_isn, .inl (cy_isn, 192, .inl f_isn)), (h_tem, .inl (cy_tem, 192, .inl f_tem)), (h_out, .inl (cy_out, 1000, .inl f25)), (h_mm, .inr (8, (mo159 v_mm (.ref h_nv) (.ref h_nn) (.ref h_na) (.ref h_nb) (.ref h_nc) (.ref h_let) (.ref h_isn) (.ref h_tem) (.ref h_bto) (.ref h_bin) (.int z6) (.int z7) (.ref h_cof) (.ref h_out) (.int x_mm_outs) (.ref h_wri) (.int z8) (.int 300)))), (h_wri, .inl (cy_wri, 1000, .inl f9)), (h_let, .inl (cy_let, 256, .inl f_let)), (h_nv, .inl (cy_nv, 8000, .inl f_nv)), (h_nn, .inl (cy_nn, 8000, .inr (.inl f_nn))), (h_na, .inl (cy_na, 8000, .inl f_na)), (h_nb, .inl (cy_nb, 8000, .inl f_nb)), (h_nc, .inl (cy_nc, 8000, .inl f_nc)), (h_bto, .inl (cy_bto, 256, .inl f_bto)), (h_bin, .inl (cy_bin, 256, .inl f_bin)), (h_cof, .inl (cy_cof, 31, .inl f_cof))] := by rw [ef25]; exact hD9
            have hS := hS9
            clear hP9 hD9 hS9
            clear ef25
            obtain ⟨z26, ez26⟩ : ∃ y : Int32, y = x14 + 1 := ⟨_, rfl⟩
            have tz26 : (z26).toInt = (x14).toInt + 1 := by rw [ez26]; exact i_add rfl (by decide) (by omega)
            refine lv_iinc (v := z26) (lv' := [(5, .int z26), (0, .ref h_mm), (1, .int p1), (2, .int p2), (3, .int (-1)), (4, .int 300)]) hx hb dX11_shows_75 hl (k := 5) rfl (by rw [ez26]; rfl) (by decide) rfl (fun ls hl => ?_)
            refine lv_goto (tgt := 52) hx hb dX11_shows_78 (by decide) ?_
            exact ih17 (z26) (f25) _ _ _ (by omega) (by first | exact klp16_1 | omega) (by omega) hP hD hS (lv_sub hl [1, 2, 3, 4, 5, 0] rfl)
      have cst0 : (0 : Int32).toInt = 0 := by decide
      exact lp16 _ (0) (f_out) _ _ _ (by decide) (by omega) (Nat.le_refl _) hP hD hS (lv_sub hl [1, 2, 3, 4, 5, 0] rfl)
    · have kc13 := (not_congr (cv_le (rfl : (z8).toInt = (z8).toInt) (by decide : (300 : Int32).toInt = 300))).mp c13
      refine lv_iconst (v := (-1)) hx hb dX11_shows_47 (by decide) ?_
      replace hP : va_P (dC, dI) cls [(h_mm, .inr (8, (mo159 v_mm (.ref h_nv) (.ref h_nn) (.ref h_na) (.ref h_nb) (.ref h_nc) (.ref h_let) (.ref h_isn) (.ref h_tem) (.ref h_bto) (.ref h_bin) (.int z6) (.int z7) (.ref h_cof) (.ref h_out) (.int x_mm_outs) (.ref h_wri) (.int z8) (.int 300)))), (h_wri, .inl (cy_wri, 1000, .inl f9)), (h_let, .inl (cy_let, 256, .inl f_let)), (h_nv, .inl (cy_nv, 8000, .inl f_nv)), (h_nn, .inl (cy_nn, 8000, .inr (.inl f_nn))), (h_na, .inl (cy_na, 8000, .inl f_na)), (h_nb, .inl (cy_nb, 8000, .inl f_nb)), (h_nc, .inl (cy_nc, 8000, .inl f_nc)), (h_bto, .inl (cy_bto, 256, .inl f_bto)), (h_bin, .inl (cy_bin, 256, .inl f_bin)), (h_cof, .inl (cy_cof, 31, .inl f_cof)), (h_isn, .inl (cy_isn, 192, .inl f_isn)), (h_tem, .inl (cy_tem, 192, .inl f_tem)), (h_out, .inl (cy_out, 1000, .inl f_out))] H := hP.sub [3, 4, 5, 6, 7, 8, 9, 10, 11, 12, 13, 0, 1, 2] rfl
      replace hD : va_D A [(h_mm, .inr (8, (mo159 v_mm (.ref h_nv) (.ref h_nn) (.ref h_na) (.ref h_nb) (.ref h_nc) (.ref h_let) (.ref h_isn) (.ref h_tem) (.ref h_bto) (.ref h_bin) (.int z6) (.int z7) (.ref h_cof) (.ref h_out) (.int x_mm_outs) (.ref h_wri) (.int z8) (.int 300)))), (h_wri, .inl (cy_wri, 1000, .inl f9)), (h_let, .inl (cy_let, 256, .inl f_let)), (h_nv, .inl (cy_nv, 8000, .inl f_nv)), (h_nn, .inl (cy_nn, 8000, .inr (.inl f_nn))), (h_na, .inl (cy_na, 8000, .inl f_na)), (h_nb, .inl (cy_nb, 8000, .inl f_nb)), (h_nc, .inl (cy_nc, 8000, .inl f_nc)), (h_bto, .inl (cy_bto, 256, .inl f_bto)), (h_bin, .inl (cy_bin, 256, .inl f_bin)), (h_cof, .inl (cy_cof, 31, .inl f_cof)), (h_isn, .inl (cy_isn, 192, .inl f_isn)), (h_tem, .inl (cy_tem, 192, .inl f_tem)), (h_out, .inl (cy_out, 1000, .inl f_out))] := hD.sub [3, 4, 5, 6, 7, 8, 9, 10, 11, 12, 13, 0, 1, 2] (by decide) rfl
      refine W.widen (k := 0) (n := 0) (Nat.le_of_ble_eq_true rfl) (Nat.le_of_ble_eq_true rfl) ?_
      have cstm1 : ((-1) : Int32).toInt = -1 := by decide
      have cst300 : (300 : Int32).toInt = 300 := by decide
      have w27 : 0 ≤ ((z6)).toInt ∧ ((z6)).toInt ≤ 7999 := by first | exact k10 | omega
      have w28 : 0 ≤ ((z7)).toInt ∧ ((z7)).toInt ≤ 31 := by first | exact k11 | omega
      have w29 : 0 ≤ ((x_mm_outs)).toInt ∧ ((x_mm_outs)).toInt ≤ 1000 := by first | exact hx_mm_outs | omega
      have w30 : 0 ≤ ((z8)).toInt ∧ ((z8)).toInt ≤ 1000 := by first | exact k12 | omega
      have w31 : 0 ≤ ((300 : Int32)).toInt ∧ ((300 : Int32)).toInt ≤ 998 := by omega
      exact W.iret (v := (-1)) hx hb hr (fun t ht hW => ⟨⟨(-1), (z6, z7, x_mm_outs, z8, 300, f9, f_out), rfl, ⟨w27, w28, w29, w30, w31⟩, by rw [ht]; exact hP, hD⟩, hS.F ht⟩) hS.2.2 dX11_shows_48
  · have kc2 := (not_congr (cv_eq (rfl : (z1).toInt = (z1).toInt) (by decide : (0 : Int32).toInt = 0))).mp c2
    refine lv_aload_n hx hb dX11_shows_20 rfl (lv_at hl 0 rfl) ?_
    refine lv_bipush (v := 45) hx hb dX11_shows_21 (by decide) ?_
    obtain ⟨vq32, evq32⟩ := mq159_118 v_mm (.ref h_nv) (.ref h_nn) (.ref h_na) (.ref h_nb) (.ref h_nc) (.ref h_let) (.ref h_isn) (.ref h_tem) (.ref h_bto) (.ref h_bin) (.int x_mm_goneTo) (.int x_mm_goneIn) (.ref h_cof) (.ref h_out) (.int x_mm_outs)
    replace hP : va_P (dC, dI) cls [(h_mm, .inr (8, (mo118 vq32 (.ref h_wri) (.int 0) (.int 300)))), (h_wri, .inl (cy_wri, 1000, .inl f_wri)), (h_let, .inl (cy_let, 256, .inl f_let)), (h_nv, .inl (cy_nv, 8000, .inl f_nv)), (h_nn, .inl (cy_nn, 8000, .inr (.inl f_nn))), (h_na, .inl (cy_na, 8000, .inl f_na)), (h_nb, .inl (cy_nb, 8000, .inl f_nb)), (h_nc, .inl (cy_nc, 8000, .inl f_nc)), (h_bto, .inl (cy_bto, 256, .inl f_bto)), (h_bin, .inl (cy_bin, 256, .inl f_bin)), (h_cof, .inl (cy_cof, 31, .inl f_cof)), (h_isn, .inl (cy_isn, 192, .inl f_isn)), (h_tem, .inl (cy_tem, 192, .inl f_tem)), (h_out, .inl (cy_out, 1000, .inl f_out))] H := by rw [evq32]; exact hP
    replace hD : va_D A [(h_mm, .inr (8, (mo118 vq32 (.ref h_wri) (.int 0) (.int 300)))), (h_wri, .inl (cy_wri, 1000, .inl f_wri)), (h_let, .inl (cy_let, 256, .inl f_let)), (h_nv, .inl (cy_nv, 8000, .inl f_nv)), (h_nn, .inl (cy_nn, 8000, .inr (.inl f_nn))), (h_na, .inl (cy_na, 8000, .inl f_na)), (h_nb, .inl (cy_nb, 8000, .inl f_nb)), (h_nc, .inl (cy_nc, 8000, .inl f_nc)), (h_bto, .inl (cy_bto, 256, .inl f_bto)), (h_bin, .inl (cy_bin, 256, .inl f_bin)), (h_cof, .inl (cy_cof, 31, .inl f_cof)), (h_isn, .inl (cy_isn, 192, .inl f_isn)), (h_tem, .inl (cy_tem, 192, .inl f_tem)), (h_out, .inl (cy_out, 1000, .inl f_out))] := by rw [evq32]; exact hD
    have cst45 : (45 : Int32).toInt = 45 := by decide
    have hPc := hP.sub (ws' := [(h_mm, .inr (8, (mo118 vq32 (.ref h_wri) (.int 0) (.int 300)))), (h_wri, .inl (cy_wri, 1000, .inl f_wri))]) [0, 1] rfl
    have hDc := hD.sub (ws' := [(h_mm, .inr (8, (mo118 vq32 (.ref h_wri) (.int 0) (.int 300)))), (h_wri, .inl (cy_wri, 1000, .inl f_wri))]) [0, 1] (by decide) rfl
    have hKc := hK.sub (tys' := [(cy_wri, .int)]) [0] rfl
    have hFc := va_free (wc := [(h_mm, .inr (8, (mo118 vq32 (.ref h_wri) (.int 0) (.int 300)))), (h_wri, .inl (cy_wri, 1000, .inl f_wri))]) hD hS hA [0, 1] rfl
    refine va_callv (va_runV (As := [.int 45]) (rest := []) ⟨hx, hb, hml, hown, hts⟩ (c_X11_says l dC dI H.size h_mm h_wri vq32 0 300 cy_wri f_wri 45 (by decide) (by decide)) (cwV 1 hts (gv hT w_m_X11_452 w_instanceMethod_X11_says ws_sel_X11_says w_ini_X11 w_code_X11_says) rfl rfl rfl (by decide +kernel) ⟨(Nat.le_of_ble_eq_true rfl), (Nat.le_of_ble_eq_true rfl)⟩) ⟨pre_blind, va_recv hK hP (ci := 8) (q0 := 0) rfl rfl, pre_of hPc hKc hDc hN⟩ rfl rfl hl.1 rfl (lv_room (Nat.le_of_ble_eq_true rfl)) dX11_shows_23 ⟨(Nat.le_of_ble_eq_true rfl), (Nat.le_of_ble_eq_true rfl)⟩) hS (fun q _ h => hFc q h) hFc (fun u t H locs ht hvm hq hB hz1 hk1 hS9 => ?_)
    obtain ⟨z34, f35⟩ := u
    obtain ⟨hP1, hD1⟩ := hB
    rw [ht] at hP1
    obtain ⟨hP9, hD9⟩ := va_join (wr := [(h_let, .inl (cy_let, 256, .inl f_let)), (h_nv, .inl (cy_nv, 8000, .inl f_nv)), (h_nn, .inl (cy_nn, 8000, .inr (.inl f_nn))), (h_na, .inl (cy_na, 8000, .inl f_na)), (h_nb, .inl (cy_nb, 8000, .inl f_nb)), (h_nc, .inl (cy_nc, 8000, .inl f_nc)), (h_bto, .inl (cy_bto, 256, .inl f_bto)), (h_bin, .inl (cy_bin, 256, .inl f_bin)), (h_cof, .inl (cy_cof, 31, .inl f_cof)), (h_isn, .inl (cy_isn, 192, .inl f_isn)), (h_tem, .inl (cy_tem, 192, .inl f_tem)), (h_out, .inl (cy_out, 1000, .inl f_out))]) (w1 := [(h_mm, .inr (8, (mo118 vq32 (.ref h_wri) (.int z34) (.int 300)))), (h_wri, .inl (cy_wri, 1000, .inl f35))]) hP hD [0, 1] [2, 3, 4, 5, 6, 7, 8, 9, 10, 11, 12, 13] rfl rfl (by decide) (by decide) hk1 hFc hP1 hD1
    clear hP hD hS hPc hDc hKc hFc hP1 hD1 hk1 hz1 ht hvm
    have hP : va_P (dC, dI) cls [(h_let, .inl (cy_let, 256, .inl f_let)), (h_nv, .inl (cy_nv, 8000, .inl f_nv)), (h_nn, .inl (cy_nn, 8000, .inr (.inl f_nn))), (h_na, .inl (cy_na, 8000, .inl f_na)), (h_nb, .inl (cy_nb, 8000, .inl f_nb)), (h_nc, .inl (cy_nc, 8000, .inl f_nc)), (h_bto, .inl (cy_bto, 256, .inl f_bto)), (h_bin, .inl (cy_bin, 256, .inl f_bin)), (h_cof, .inl (cy_cof, 31, .inl f_cof)), (h_isn, .inl (cy_isn, 192, .inl f_isn)), (h_tem, .inl (cy_tem, 192, .inl f_tem)), (h_out, .inl (cy_out, 1000, .inl f_out)), (h_mm, .inr (8, (mo118 vq32 (.ref h_wri) (.int z34) (.int 300)))), (h_wri, .inl (cy_wri, 1000, .inl f35))] H := hP9
    have hD : va_D A [(h_let, .inl (cy_let, 256, .inl f_let)), (h_nv, .inl (cy_nv, 8000, .inl f_nv)), (h_nn, .inl (cy_nn, 8000, .inr (.inl f_nn))), (h_na, .inl (cy_na, 8000, .inl f_na)), (h_nb, .inl (cy_nb, 8000, .inl f_nb)), (h_nc, .inl (cy_nc, 8000, .inl f_nc)), (h_bto, .inl (cy_bto, 256, .inl f_bto)), (h_bin, .inl (cy_bin, 256, .inl f_bin)), (h_cof, .inl (cy_cof, 31, .inl f_cof)), (h_isn, .inl (cy_isn, 192, .inl f_isn)), (h_tem, .inl (cy_tem, 192, .inl f_tem)), (h_out, .inl (cy_out, 1000, .inl f_out)), (h_mm, .inr (8, (mo118 vq32 (.ref h_wri) (.int z34) (.int 300)))), (h_wri, .inl (cy_wri, 1000, .inl f35))] := hD9
    have hS := hS9
    clear hP9 hD9 hS9
    rw [evq32] at hP hD
    replace hP : va_P (dC, dI) cls [(h_let, .inl (cy_let, 256, .inl f_let)), (h_nv, .inl (cy_nv, 8000, .inl f_nv)), (h_nn, .inl (cy_nn, 8000, .inr (.inl f_nn))), (h_na, .inl (cy_na, 8000, .inl f_na)), (h_nb, .inl (cy_nb, 8000, .inl f_nb)), (h_nc, .inl (cy_nc, 8000, .inl f_nc)), (h_bto, .inl (cy_bto, 256, .inl f_bto)), (h_bin, .inl (cy_bin, 256, .inl f_bin)), (h_cof, .inl (cy_cof, 31, .inl f_cof)), (h_isn, .inl (cy_isn, 192, .inl f_isn)), (h_tem, .inl (cy_tem, 192, .inl f_tem)), (h_out, .inl (cy_out, 1000, .inl f_out)), (h_mm, .inr (8, (mo159 v_mm (.ref h_nv) (.ref h_nn) (.ref h_na) (.ref h_nb) (.ref h_nc) (.ref h_let) (.ref h_isn) (.ref h_tem) (.ref h_bto) (.ref h_bin) (.int x_mm_goneTo) (.int x_mm_goneIn) (.ref h_cof) (.ref h_out) (.int x_mm_outs) (.ref h_wri) (.int z34) (.int 300)))), (h_wri, .inl (cy_wri, 1000, .inl f35))] H := hP
    replace hD : va_D A [(h_let, .inl (cy_let, 256, .inl f_let)), (h_nv, .inl (cy_nv, 8000, .inl f_nv)), (h_nn, .inl (cy_nn, 8000, .inr (.inl f_nn))), (h_na, .inl (cy_na, 8000, .inl f_na)), (h_nb, .inl (cy_nb, 8000, .inl f_nb)), (h_nc, .inl (cy_nc, 8000, .inl f_nc)), (h_bto, .inl (cy_bto, 256, .inl f_bto)), (h_bin, .inl (cy_bin, 256, .inl f_bin)), (h_cof, .inl (cy_cof, 31, .inl f_cof)), (h_isn, .inl (cy_isn, 192, .inl f_isn)), (h_tem, .inl (cy_tem, 192, .inl f_tem)), (h_out, .inl (cy_out, 1000, .inl f_out)), (h_mm, .inr (8, (mo159 v_mm (.ref h_nv) (.ref h_nn) (.ref h_na) (.ref h_nb) (.ref h_nc) (.ref h_let) (.ref h_isn) (.ref h_tem) (.ref h_bto) (.ref h_bin) (.int x_mm_goneTo) (.int x_mm_goneIn) (.ref h_cof) (.ref h_out) (.int x_mm_outs) (.ref h_wri) (.int z34) (.int 300)))), (h_wri, .inl (cy_wri, 1000, .inl f35))] := hD
    clear evq32 
    obtain ⟨k36, k37⟩ := hq
    replace k36 : 0 ≤ ((z34)).toInt ∧ ((z34)).toInt ≤ 1000 := k36
    replace k37 : ((0 : Int32)).toInt ≤ ((z34)).toInt := k37
    refine lv_aload_n hx hb dX11_shows_26 rfl (lv_at hl 0 rfl) ?_
    refine lv_aload_n hx hb dX11_shows_27 rfl (lv_at hl 0 rfl) ?_
    refine va_get (D := (dC, dI)) (ci := 8) (v := .ref h_tem) (C := RX11) (T := TX11) (N := 71) hx hb hw iwX11 hown hK hP 12 rfl rfl 12 (by decide) (hw _ w_f_X11_152) (fun _ h9 => h9) rfl dX11_shows_28 ?_
    refine lv_iload_n hx hb dX11_shows_31 rfl (lv_at hl 1 rfl) ?_
    refine va_iald hx hb hK hP 10 11 rfl rfl (i := p1) (vp_in_iff.mpr (by omega)) dX11_shows_32 ?_
    refine lv_topi (fun z38 ez38 => ?_)
    have rz38 : 0 ≤ (z38).toInt ∧ (z38).toInt ≤ 7999 := by rw [ez38]; exact hf_tem _
    have tq9 : f_tem (p1).toInt.toNat = z38 := by rw [← clamp_nat (i := p1) (by omega), ← ez38]
    have tr9 : 0 ≤ (z38).toInt ∧ (z38).toInt < N ∧ hz (z38).toInt.toNat = 7 := by rw [← tq9]; omega
    refine lv_iload_n hx hb dX11_shows_33 rfl (lv_at hl 2 rfl) ?_
    refine lv_iload_n hx hb dX11_shows_34 rfl (lv_at hl 3 rfl) ?_
    have l09 : ([] : List Nat).length = 0 := rfl
    obtain ⟨vq39, evq39⟩ := mq159_157 v_mm (.ref h_isn) (.ref h_tem) (.ref h_out) (.int x_mm_outs)
    replace hP : va_P (dC, dI) cls [(h_let, .inl (cy_let, 256, .inl f_let)), (h_nv, .inl (cy_nv, 8000, .inl f_nv)), (h_nn, .inl (cy_nn, 8000, .inr (.inl f_nn))), (h_na, .inl (cy_na, 8000, .inl f_na)), (h_nb, .inl (cy_nb, 8000, .inl f_nb)), (h_nc, .inl (cy_nc, 8000, .inl f_nc)), (h_bto, .inl (cy_bto, 256, .inl f_bto)), (h_bin, .inl (cy_bin, 256, .inl f_bin)), (h_cof, .inl (cy_cof, 31, .inl f_cof)), (h_isn, .inl (cy_isn, 192, .inl f_isn)), (h_tem, .inl (cy_tem, 192, .inl f_tem)), (h_out, .inl (cy_out, 1000, .inl f_out)), (h_mm, .inr (8, (mo157 vq39 (.ref h_nv) (.ref h_nn) (.ref h_na) (.ref h_nb) (.ref h_nc) (.ref h_let) (.ref h_bto) (.ref h_bin) (.int x_mm_goneTo) (.int x_mm_goneIn) (.ref h_cof) (.ref h_wri) (.int z34) (.int 300)))), (h_wri, .inl (cy_wri, 1000, .inl f35))] H := by rw [evq39]; exact hP
    replace hD : va_D A [(h_let, .inl (cy_let, 256, .inl f_let)), (h_nv, .inl (cy_nv, 8000, .inl f_nv)), (h_nn, .inl (cy_nn, 8000, .inr (.inl f_nn))), (h_na, .inl (cy_na, 8000, .inl f_na)), (h_nb, .inl (cy_nb, 8000, .inl f_nb)), (h_nc, .inl (cy_nc, 8000, .inl f_nc)), (h_bto, .inl (cy_bto, 256, .inl f_bto)), (h_bin, .inl (cy_bin, 256, .inl f_bin)), (h_cof, .inl (cy_cof, 31, .inl f_cof)), (h_isn, .inl (cy_isn, 192, .inl f_isn)), (h_tem, .inl (cy_tem, 192, .inl f_tem)), (h_out, .inl (cy_out, 1000, .inl f_out)), (h_mm, .inr (8, (mo157 vq39 (.ref h_nv) (.ref h_nn) (.ref h_na) (.ref h_nb) (.ref h_nc) (.ref h_let) (.ref h_bto) (.ref h_bin) (.int x_mm_goneTo) (.int x_mm_goneIn) (.ref h_cof) (.ref h_wri) (.int z34) (.int 300)))), (h_wri, .inl (cy_wri, 1000, .inl f35))] := by rw [evq39]; exact hD
    have cstm1 : ((-1) : Int32).toInt = -1 := by decide
    have hPc := hP.sub (ws' := [(h_mm, .inr (8, (mo157 vq39 (.ref h_nv) (.ref h_nn) (.ref h_na) (.ref h_nb) (.ref h_nc) (.ref h_let) (.ref h_bto) (.ref h_bin) (.int x_mm_goneTo) (.int x_mm_goneIn) (.ref h_cof) (.ref h_wri) (.int z34) (.int 300)))), (h_wri, .inl (cy_wri, 1000, .inl f35)), (h_let, .inl (cy_let, 256, .inl f_let)), (h_nv, .inl (cy_nv, 8000, .inl f_nv)), (h_nn, .inl (cy_nn, 8000, .inr (.inl f_nn))), (h_na, .inl (cy_na, 8000, .inl f_na)), (h_nb, .inl (cy_nb, 8000, .inl f_nb)), (h_nc, .inl (cy_nc, 8000, .inl f_nc)), (h_bto, .inl (cy_bto, 256, .inl f_bto)), (h_bin, .inl (cy_bin, 256, .inl f_bin)), (h_cof, .inl (cy_cof, 31, .inl f_cof))]) [12, 13, 0, 1, 2, 3, 4, 5, 6, 7, 8] rfl
    have hDc := hD.sub (ws' := [(h_mm, .inr (8, (mo157 vq39 (.ref h_nv) (.ref h_nn) (.ref h_na) (.ref h_nb) (.ref h_nc) (.ref h_let) (.ref h_bto) (.ref h_bin) (.int x_mm_goneTo) (.int x_mm_goneIn) (.ref h_cof) (.ref h_wri) (.int z34) (.int 300)))), (h_wri, .inl (cy_wri, 1000, .inl f35)), (h_let, .inl (cy_let, 256, .inl f_let)), (h_nv, .inl (cy_nv, 8000, .inl f_nv)), (h_nn, .inl (cy_nn, 8000, .inr (.inl f_nn))), (h_na, .inl (cy_na, 8000, .inl f_na)), (h_nb, .inl (cy_nb, 8000, .inl f_nb)), (h_nc, .inl (cy_nc, 8000, .inl f_nc)), (h_bto, .inl (cy_bto, 256, .inl f_bto)), (h_bin, .inl (cy_bin, 256, .inl f_bin)), (h_cof, .inl (cy_cof, 31, .inl f_cof))]) [12, 13, 0, 1, 2, 3, 4, 5, 6, 7, 8] (by decide) rfl
    have hKc := hK.sub (tys' := [(cy_wri, .int), (cy_let, .int), (cy_nv, .int), (cy_nn, .long), (cy_na, .int), (cy_nb, .int), (cy_nc, .int), (cy_bto, .int), (cy_bin, .int), (cy_cof, .int)]) [0, 1, 2, 3, 4, 5, 6, 7, 8, 9] rfl
    have hFc := va_free (wc := [(h_mm, .inr (8, (mo157 vq39 (.ref h_nv) (.ref h_nn) (.ref h_na) (.ref h_nb) (.ref h_nc) (.ref h_let) (.ref h_bto) (.ref h_bin) (.int x_mm_goneTo) (.int x_mm_goneIn) (.ref h_cof) (.ref h_wri) (.int z34) (.int 300)))), (h_wri, .inl (cy_wri, 1000, .inl f35)), (h_let, .inl (cy_let, 256, .inl f_let)), (h_nv, .inl (cy_nv, 8000, .inl f_nv)), (h_nn, .inl (cy_nn, 8000, .inr (.inl f_nn))), (h_na, .inl (cy_na, 8000, .inl f_na)), (h_nb, .inl (cy_nb, 8000, .inl f_nb)), (h_nc, .inl (cy_nc, 8000, .inl f_nc)), (h_bto, .inl (cy_bto, 256, .inl f_bto)), (h_bin, .inl (cy_bin, 256, .inl f_bin)), (h_cof, .inl (cy_cof, 31, .inl f_cof))]) hD hS hA [12, 13, 0, 1, 2, 3, 4, 5, 6, 7, 8] rfl
    refine va_callv (va_runV (As := [.int z38, .int p2, .int (-1)]) (rest := []) ⟨hx, hb, hml, hown, hts⟩ (c_X11_saysTerm_1 l 1544 dC dI H.size h_mm h_wri h_let h_nv h_nn h_na h_nb h_nc h_bto h_bin h_cof vq39 x_mm_goneTo x_mm_goneIn z34 300 cy_wri f35 cy_let f_let cy_nv f_nv cy_nn f_nn cy_na f_na cy_nb f_nb cy_nc f_nc cy_bto f_bto cy_bin f_bin cy_cof f_cof z38 p2 (-1) i0 i1 N hz ([]) (by first | exact hx_mm_goneTo | omega) (by first | exact hx_mm_goneIn | omega) (by first | exact k36 | omega) (by decide) hf_nv hf_na hf_nb hf_nc hf_bto hf_bin hf_cof (by first | exact q3 | omega) (by first | exact q4 | omega) (by first | exact q5 | omega) (by omega) (by first | exact q6 | omega) (by omega) hn_bi pa_nil) (cwV 3 hts (gv hT w_m_X11_459 w_instanceMethod_X11_saysTerm ws_sel_X11_saysTerm w_ini_X11 w_code_X11_saysTerm) rfl rfl rfl (by decide +kernel) ⟨(Nat.le_of_ble_eq_true rfl), (Nat.le_of_ble_eq_true rfl)⟩) ⟨pre_blind, va_recv hK hP (ci := 8) (q0 := 12) rfl rfl, pre_of hPc hKc hDc hN⟩ rfl rfl hl.1 rfl (lv_room (Nat.le_of_ble_eq_true rfl)) dX11_shows_35 ⟨(Nat.le_of_ble_eq_true rfl), (Nat.le_of_ble_eq_true rfl)⟩) hS (fun q _ h => hFc q h) hFc (fun u t H locs ht hvm hq hB hz1 hk1 hS9 => ?_)
    obtain ⟨z41, z42, z43, f44⟩ := u
    obtain ⟨hP1, hD1⟩ := hB
    rw [ht] at hP1
    obtain ⟨hP9, hD9⟩ := va_join (wr := [(h_isn, .inl (cy_isn, 192, .inl f_isn)), (h_tem, .inl (cy_tem, 192, .inl f_tem)), (h_out, .inl (cy_out, 1000, .inl f_out))]) (w1 := [(h_mm, .inr (8, (mo157 vq39 (.ref h_nv) (.ref h_nn) (.ref h_na) (.ref h_nb) (.ref h_nc) (.ref h_let) (.ref h_bto) (.ref h_bin) (.int z41) (.int z42) (.ref h_cof) (.ref h_wri) (.int z43) (.int 300)))), (h_wri, .inl (cy_wri, 1000, .inl f44)), (h_let, .inl (cy_let, 256, .inl f_let)), (h_nv, .inl (cy_nv, 8000, .inl f_nv)), (h_nn, .inl (cy_nn, 8000, .inr (.inl f_nn))), (h_na, .inl (cy_na, 8000, .inl f_na)), (h_nb, .inl (cy_nb, 8000, .inl f_nb)), (h_nc, .inl (cy_nc, 8000, .inl f_nc)), (h_bto, .inl (cy_bto, 256, .inl f_bto)), (h_bin, .inl (cy_bin, 256, .inl f_bin)), (h_cof, .inl (cy_cof, 31, .inl f_cof))]) hP hD [12, 13, 0, 1, 2, 3, 4, 5, 6, 7, 8] [9, 10, 11] rfl rfl (by decide) (by decide) hk1 hFc hP1 hD1
    clear hP hD hS hPc hDc hKc hFc hP1 hD1 hk1 hz1 ht hvm
    have hP : va_P (dC, dI) cls [(h_isn, .inl (cy_isn, 192, .inl f_isn)), (h_tem, .inl (cy_tem, 192, .inl f_tem)), (h_out, .inl (cy_out, 1000, .inl f_out)), (h_mm, .inr (8, (mo157 vq39 (.ref h_nv) (.ref h_nn) (.ref h_na) (.ref h_nb) (.ref h_nc) (.ref h_let) (.ref h_bto) (.ref h_bin) (.int z41) (.int z42) (.ref h_cof) (.ref h_wri) (.int z43) (.int 300)))), (h_wri, .inl (cy_wri, 1000, .inl f44)), (h_let, .inl (cy_let, 256, .inl f_let)), (h_nv, .inl (cy_nv, 8000, .inl f_nv)), (h_nn, .inl (cy_nn, 8000, .inr (.inl f_nn))), (h_na, .inl (cy_na, 8000, .inl f_na)), (h_nb, .inl (cy_nb, 8000, .inl f_nb)), (h_nc, .inl (cy_nc, 8000, .inl f_nc)), (h_bto, .inl (cy_bto, 256, .inl f_bto)), (h_bin, .inl (cy_bin, 256, .inl f_bin)), (h_cof, .inl (cy_cof, 31, .inl f_cof))] H := hP9
    have hD : va_D A [(h_isn, .inl (cy_isn, 192, .inl f_isn)), (h_tem, .inl (cy_tem, 192, .inl f_tem)), (h_out, .inl (cy_out, 1000, .inl f_out)), (h_mm, .inr (8, (mo157 vq39 (.ref h_nv) (.ref h_nn) (.ref h_na) (.ref h_nb) (.ref h_nc) (.ref h_let) (.ref h_bto) (.ref h_bin) (.int z41) (.int z42) (.ref h_cof) (.ref h_wri) (.int z43) (.int 300)))), (h_wri, .inl (cy_wri, 1000, .inl f44)), (h_let, .inl (cy_let, 256, .inl f_let)), (h_nv, .inl (cy_nv, 8000, .inl f_nv)), (h_nn, .inl (cy_nn, 8000, .inr (.inl f_nn))), (h_na, .inl (cy_na, 8000, .inl f_na)), (h_nb, .inl (cy_nb, 8000, .inl f_nb)), (h_nc, .inl (cy_nc, 8000, .inl f_nc)), (h_bto, .inl (cy_bto, 256, .inl f_bto)), (h_bin, .inl (cy_bin, 256, .inl f_bin)), (h_cof, .inl (cy_cof, 31, .inl f_cof))] := hD9
    have hS := hS9
    clear hP9 hD9 hS9
    rw [evq39] at hP hD
    replace hP : va_P (dC, dI) cls [(h_isn, .inl (cy_isn, 192, .inl f_isn)), (h_tem, .inl (cy_tem, 192, .inl f_tem)), (h_out, .inl (cy_out, 1000, .inl f_out)), (h_mm, .inr (8, (mo159 v_mm (.ref h_nv) (.ref h_nn) (.ref h_na) (.ref h_nb) (.ref h_nc) (.ref h_let) (.ref h_isn) (.ref h_tem) (.ref h_bto) (.ref h_bin) (.int z41) (.int z42) (.ref h_cof) (.ref h_out) (.int x_mm_outs) (.ref h_wri) (.int z43) (.int 300)))), (h_wri, .inl (cy_wri, 1000, .inl f44)), (h_let, .inl (cy_let, 256, .inl f_let)), (h_nv, .inl (cy_nv, 8000, .inl f_nv)), (h_nn, .inl (cy_nn, 8000, .inr (.inl f_nn))), (h_na, .inl (cy_na, 8000, .inl f_na)), (h_nb, .inl (cy_nb, 8000, .inl f_nb)), (h_nc, .inl (cy_nc, 8000, .inl f_nc)), (h_bto, .inl (cy_bto, 256, .inl f_bto)), (h_bin, .inl (cy_bin, 256, .inl f_bin)), (h_cof, .inl (cy_cof, 31, .inl f_cof))] H := hP
    replace hD : va_D A [(h_isn, .inl (cy_isn, 192, .inl f_isn)), (h_tem, .inl (cy_tem, 192, .inl f_tem)), (h_out, .inl (cy_out, 1000, .inl f_out)), (h_mm, .inr (8, (mo159 v_mm (.ref h_nv) (.ref h_nn) (.ref h_na) (.ref h_nb) (.ref h_nc) (.ref h_let) (.ref h_isn) (.ref h_tem) (.ref h_bto) (.ref h_bin) (.int z41) (.int z42) (.ref h_cof) (.ref h_out) (.int x_mm_outs) (.ref h_wri) (.int z43) (.int 300)))), (h_wri, .inl (cy_wri, 1000, .inl f44)), (h_let, .inl (cy_let, 256, .inl f_let)), (h_nv, .inl (cy_nv, 8000, .inl f_nv)), (h_nn, .inl (cy_nn, 8000, .inr (.inl f_nn))), (h_na, .inl (cy_na, 8000, .inl f_na)), (h_nb, .inl (cy_nb, 8000, .inl f_nb)), (h_nc, .inl (cy_nc, 8000, .inl f_nc)), (h_bto, .inl (cy_bto, 256, .inl f_bto)), (h_bin, .inl (cy_bin, 256, .inl f_bin)), (h_cof, .inl (cy_cof, 31, .inl f_cof))] := hD
    clear evq39 
    obtain ⟨k45, k46, k47⟩ := hq
    replace k45 : 0 ≤ ((z41)).toInt ∧ ((z41)).toInt ≤ 7999 := k45
    replace k46 : 0 ≤ ((z42)).toInt ∧ ((z42)).toInt ≤ 31 := k46
    replace k47 : 0 ≤ ((z43)).toInt ∧ ((z43)).toInt ≤ 1000 := k47
    refine lv_aload_n hx hb dX11_shows_38 rfl (lv_at hl 0 rfl) ?_
    refine va_get (D := (dC, dI)) (ci := 8) (v := .int z43) (C := RX11) (T := TX11) (N := 71) hx hb hw iwX11 hown hK hP 3 rfl rfl 65 (by decide) (hw _ w_f_X11_443) (fun _ h9 => h9) rfl dX11_shows_39 ?_
    refine lv_iload hx hb dX11_shows_42 (lv_at hl 4 rfl) ?_
    refine lv_icmp_le (tgt := 49) hx hb dX11_shows_44 (by decide) (fun c48 => ?_) (fun c48 => ?_)
    · have kc48 := (cv_le (rfl : (z43).toInt = (z43).toInt) (by decide : (300 : Int32).toInt = 300)).mp c48
      refine lv_iconst (v := 0) hx hb dX11_shows_49 (by decide) ?_
      refine lv_istore (lv' := [(5, .int 0), (0, .ref h_mm), (1, .int p1), (2, .int p2), (3, .int (-1)), (4, .int 300)]) hx hb dX11_shows_50 hl (by decide) rfl (fun ls hl => ?_)
      have lp51 : ∀ (n : Nat) (x49 : Int32) (f50 : Nat → Int32) (H : Heap) (locs : List Loc) (ls : Array Slot), (0 ≤ (x49).toInt ∧ (x49).toInt ≤ 1000) → ((z43).toInt ≤ 300) → (1000 - (x49).toInt).toNat + 1 ≤ n → va_P (dC, dI) cls [(h_isn, .inl (cy_isn, 192, .inl f_isn)), (h_tem, .inl (cy_tem, 192, .inl f_tem)), (h_out, .inl (cy_out, 1000, .inl f50)), (h_mm, .inr (8, (mo159 v_mm (.ref h_nv) (.ref h_nn) (.ref h_na) (.ref h_nb) (.ref h_nc) (.ref h_let) (.ref h_isn) (.ref h_tem) (.ref h_bto) (.ref h_bin) (.int z41) (.int z42) (.ref h_cof) (.ref h_out) (.int x_mm_outs) (.ref h_wri) (.int z43) (.int 300)))), (h_wri, .inl (cy_wri, 1000, .inl f44)), (h_let, .inl (cy_let, 256, .inl f_let)), (h_nv, .inl (cy_nv, 8000, .inl f_nv)), (h_nn, .inl (cy_nn, 8000, .inr (.inl f_nn))), (h_na, .inl (cy_na, 8000, .inl f_na)), (h_nb, .inl (cy_nb, 8000, .inl f_nb)), (h_nc, .inl (cy_nc, 8000, .inl f_nc)), (h_bto, .inl (cy_bto, 256, .inl f_bto)), (h_bin, .inl (cy_bin, 256, .inl f_bin)), (h_cof, .inl (cy_cof, 31, .inl f_cof))] H → va_D A [(h_isn, .inl (cy_isn, 192, .inl f_isn)), (h_tem, .inl (cy_tem, 192, .inl f_tem)), (h_out, .inl (cy_out, 1000, .inl f50)), (h_mm, .inr (8, (mo159 v_mm (.ref h_nv) (.ref h_nn) (.ref h_na) (.ref h_nb) (.ref h_nc) (.ref h_let) (.ref h_isn) (.ref h_tem) (.ref h_bto) (.ref h_bin) (.int z41) (.int z42) (.ref h_cof) (.ref h_out) (.int x_mm_outs) (.ref h_wri) (.int z43) (.int 300)))), (h_wri, .inl (cy_wri, 1000, .inl f44)), (h_let, .inl (cy_let, 256, .inl f_let)), (h_nv, .inl (cy_nv, 8000, .inl f_nv)), (h_nn, .inl (cy_nn, 8000, .inr (.inl f_nn))), (h_na, .inl (cy_na, 8000, .inl f_na)), (h_nb, .inl (cy_nb, 8000, .inl f_nb)), (h_nc, .inl (cy_nc, 8000, .inl f_nc)), (h_bto, .inl (cy_bto, 256, .inl f_bto)), (h_bin, .inl (cy_bin, 256, .inl f_bin)), (h_cof, .inl (cy_cof, 31, .inl f_cof))] → va_S A s.heap H locs → lv_has ls 6 [(0, .ref h_mm), (1, .int p1), (2, .int p2), (3, .int (-1)), (4, .int 300), (5, .int x49)] → W p l e ({ frames := 1560, cells := 0, slots := 0, locals := 40499 } : Room) s m ([.ref h_mm, .int p1, .int p2, .int (-1), .int 300] : List Value).toArray below meth c H locs 0 0 (MQ below (va_Qi (fun (r : Int32) (u : (Int32) × (Int32) × (Int32) × (Int32) × (Int32) × (Nat → Int32) × (Nat → Int32)) => (0 ≤ (u.1).toInt ∧ (u.1).toInt ≤ 7999) ∧ (0 ≤ (u.2.1).toInt ∧ (u.2.1).toInt ≤ 31) ∧ (0 ≤ (u.2.2.1).toInt ∧ (u.2.2.1).toInt ≤ 1000) ∧ (0 ≤ (u.2.2.2.1).toInt ∧ (u.2.2.2.1).toInt ≤ 1000) ∧ (0 ≤ (u.2.2.2.2.1).toInt ∧ (u.2.2.2.2.1).toInt ≤ 998)) (fun (u : (Int32) × (Int32) × (Int32) × (Int32) × (Int32) × (Nat → Int32) × (Nat → Int32)) (t : State) => va_P (dC, dI) cls [(h_mm, .inr (8, (mo159 v_mm (.ref h_nv) (.ref h_nn) (.ref h_na) (.ref h_nb) (.ref h_nc) (.ref h_let) (.ref h_isn) (.ref h_tem) (.ref h_bto) (.ref h_bin) (.int u.1) (.int u.2.1) (.ref h_cof) (.ref h_out) (.int u.2.2.1) (.ref h_wri) (.int u.2.2.2.1) (.int u.2.2.2.2.1)))), (h_wri, .inl (cy_wri, 1000, .inl u.2.2.2.2.2.1)), (h_let, .inl (cy_let, 256, .inl f_let)), (h_nv, .inl (cy_nv, 8000, .inl f_nv)), (h_nn, .inl (cy_nn, 8000, .inr (.inl f_nn))), (h_na, .inl (cy_na, 8000, .inl f_na)), (h_nb, .inl (cy_nb, 8000, .inl f_nb)), (h_nc, .inl (cy_nc, 8000, .inl f_nc)), (h_bto, .inl (cy_bto, 256, .inl f_bto)), (h_bin, .inl (cy_bin, 256, .inl f_bin)), (h_cof, .inl (cy_cof, 31, .inl f_cof)), (h_isn, .inl (cy_isn, 192, .inl f_isn)), (h_tem, .inl (cy_tem, 192, .inl f_tem)), (h_out, .inl (cy_out, 1000, .inl u.2.2.2.2.2.2))] t.heap ∧ va_D A [(h_mm, .inr (8, (mo159 v_mm (.ref h_nv) (.ref h_nn) (.ref h_na) (.ref h_nb) (.ref h_nc) (.ref h_let) (.ref h_isn) (.ref h_tem) (.ref h_bto) (.ref h_bin) (.int u.1) (.int u.2.1) (.ref h_cof) (.ref h_out) (.int u.2.2.1) (.ref h_wri) (.int u.2.2.2.1) (.int u.2.2.2.2.1)))), (h_wri, .inl (cy_wri, 1000, .inl u.2.2.2.2.2.1)), (h_let, .inl (cy_let, 256, .inl f_let)), (h_nv, .inl (cy_nv, 8000, .inl f_nv)), (h_nn, .inl (cy_nn, 8000, .inr (.inl f_nn))), (h_na, .inl (cy_na, 8000, .inl f_na)), (h_nb, .inl (cy_nb, 8000, .inl f_nb)), (h_nc, .inl (cy_nc, 8000, .inl f_nc)), (h_bto, .inl (cy_bto, 256, .inl f_bto)), (h_bin, .inl (cy_bin, 256, .inl f_bin)), (h_cof, .inl (cy_cof, 31, .inl f_cof)), (h_isn, .inl (cy_isn, 192, .inl f_isn)), (h_tem, .inl (cy_tem, 192, .inl f_tem)), (h_out, .inl (cy_out, 1000, .inl u.2.2.2.2.2.2))]) A) ([.ref h_mm, .int p1, .int p2, .int (-1), .int 300] : List Value).toArray s 0 0 A) (F0 m 52 ls []) := by
        clear hP hD hS hl
        intro n
        induction n with
        | zero => intro x49 f50 H locs ls klp51_0 klp51_1 hm hP hD hS hl; exact False.elim (by omega)
        | succ n ih => 
          intro x49 f50 H locs ls klp51_0 klp51_1 hm hP hD hS hl
          have ih52 := ih
          clear ih
          refine lv_iload hx hb dX11_shows_52 (lv_at hl 5 rfl) ?_
          refine lv_aload_n hx hb dX11_shows_54 rfl (lv_at hl 0 rfl) ?_
          refine va_get (D := (dC, dI)) (ci := 8) (v := .int z43) (C := RX11) (T := TX11) (N := 71) hx hb hw iwX11 hown hK hP 3 rfl rfl 65 (by decide) (hw _ w_f_X11_443) (fun _ h9 => h9) rfl dX11_shows_55 ?_
          refine lv_icmp_ge (tgt := 81) hx hb dX11_shows_58 (by decide) (fun c53 => ?_) (fun c53 => ?_)
          · have kc53 := (cv_le (rfl : (z43).toInt = (z43).toInt) (rfl : (x49).toInt = (x49).toInt)).mp c53
            refine lv_aload_n hx hb dX11_shows_81 rfl (lv_at hl 0 rfl) ?_
            refine lv_aload_n hx hb dX11_shows_82 rfl (lv_at hl 0 rfl) ?_
            refine va_get (D := (dC, dI)) (ci := 8) (v := .int z43) (C := RX11) (T := TX11) (N := 71) hx hb hw iwX11 hown hK hP 3 rfl rfl 65 (by decide) (hw _ w_f_X11_443) (fun _ h9 => h9) rfl dX11_shows_83 ?_
            refine va_put (D := (dC, dI)) (ci := 8) (v := .int z43) (ty := tyX11 63) (C := RX11) (T := TX11) (N := 71) hx hb hw iwX11 tyX11 tyX11_ok nmX11 hown hK hP hD hS 3 rfl rfl 63 (by decide) (hw _ w_f_X11_462) (fun _ h9 => h9) rfl (tyX11_ok 63 (by decide)) rfl rfl (Nat.le_of_ble_eq_true rfl) dX11_shows_86 (fun H locs hP9 hD9 hS9 => ?_)
            clear hP hD hS
            have hP : va_P (dC, dI) cls [(h_isn, .inl (cy_isn, 192, .inl f_isn)), (h_tem, .inl (cy_tem, 192, .inl f_tem)), (h_out, .inl (cy_out, 1000, .inl f50)), (h_mm, .inr (8, (mo159 v_mm (.ref h_nv) (.ref h_nn) (.ref h_na) (.ref h_nb) (.ref h_nc) (.ref h_let) (.ref h_isn) (.ref h_tem) (.ref h_bto) (.ref h_bin) (.int z41) (.int z42) (.ref h_cof) (.ref h_out) (.int z43) (.ref h_wri) (.int z43) (.int 300)))), (h_wri, .inl (cy_wri, 1000, .inl f44)), (h_let, .inl (cy_let, 256, .inl f_let)), (h_nv, .inl (cy_nv, 8000, .inl f_nv)), (h_nn, .inl (cy_nn, 8000, .inr (.inl f_nn))), (h_na, .inl (cy_na, 8000, .inl f_na)), (h_nb, .inl (cy_nb, 8000, .inl f_nb)), (h_nc, .inl (cy_nc, 8000, .inl f_nc)), (h_bto, .inl (cy_bto, 256, .inl f_bto)), (h_bin, .inl (cy_bin, 256, .inl f_bin)), (h_cof, .inl (cy_cof, 31, .inl f_cof))] H := hP9
            have hD : va_D A [(h_isn, .inl (cy_isn, 192, .inl f_isn)), (h_tem, .inl (cy_tem, 192, .inl f_tem)), (h_out, .inl (cy_out, 1000, .inl f50)), (h_mm, .inr (8, (mo159 v_mm (.ref h_nv) (.ref h_nn) (.ref h_na) (.ref h_nb) (.ref h_nc) (.ref h_let) (.ref h_isn) (.ref h_tem) (.ref h_bto) (.ref h_bin) (.int z41) (.int z42) (.ref h_cof) (.ref h_out) (.int z43) (.ref h_wri) (.int z43) (.int 300)))), (h_wri, .inl (cy_wri, 1000, .inl f44)), (h_let, .inl (cy_let, 256, .inl f_let)), (h_nv, .inl (cy_nv, 8000, .inl f_nv)), (h_nn, .inl (cy_nn, 8000, .inr (.inl f_nn))), (h_na, .inl (cy_na, 8000, .inl f_na)), (h_nb, .inl (cy_nb, 8000, .inl f_nb)), (h_nc, .inl (cy_nc, 8000, .inl f_nc)), (h_bto, .inl (cy_bto, 256, .inl f_bto)), (h_bin, .inl (cy_bin, 256, .inl f_bin)), (h_cof, .inl (cy_cof, 31, .inl f_cof))] := hD9
            have hS := hS9
            clear hP9 hD9 hS9
            refine lv_aload_n hx hb dX11_shows_89 rfl (lv_at hl 0 rfl) ?_
            refine va_get (D := (dC, dI)) (ci := 8) (v := .int z43) (C := RX11) (T := TX11) (N := 71) hx hb hw iwX11 hown hK hP 3 rfl rfl 63 (by decide) (hw _ w_f_X11_462) (fun _ h9 => h9) rfl dX11_shows_90 ?_
            replace hP : va_P (dC, dI) cls [(h_mm, .inr (8, (mo159 v_mm (.ref h_nv) (.ref h_nn) (.ref h_na) (.ref h_nb) (.ref h_nc) (.ref h_let) (.ref h_isn) (.ref h_tem) (.ref h_bto) (.ref h_bin) (.int z41) (.int z42) (.ref h_cof) (.ref h_out) (.int z43) (.ref h_wri) (.int z43) (.int 300)))), (h_wri, .inl (cy_wri, 1000, .inl f44)), (h_let, .inl (cy_let, 256, .inl f_let)), (h_nv, .inl (cy_nv, 8000, .inl f_nv)), (h_nn, .inl (cy_nn, 8000, .inr (.inl f_nn))), (h_na, .inl (cy_na, 8000, .inl f_na)), (h_nb, .inl (cy_nb, 8000, .inl f_nb)), (h_nc, .inl (cy_nc, 8000, .inl f_nc)), (h_bto, .inl (cy_bto, 256, .inl f_bto)), (h_bin, .inl (cy_bin, 256, .inl f_bin)), (h_cof, .inl (cy_cof, 31, .inl f_cof)), (h_isn, .inl (cy_isn, 192, .inl f_isn)), (h_tem, .inl (cy_tem, 192, .inl f_tem)), (h_out, .inl (cy_out, 1000, .inl f50))] H := hP.sub [3, 4, 5, 6, 7, 8, 9, 10, 11, 12, 13, 0, 1, 2] rfl
            replace hD : va_D A [(h_mm, .inr (8, (mo159 v_mm (.ref h_nv) (.ref h_nn) (.ref h_na) (.ref h_nb) (.ref h_nc) (.ref h_let) (.ref h_isn) (.ref h_tem) (.ref h_bto) (.ref h_bin) (.int z41) (.int z42) (.ref h_cof) (.ref h_out) (.int z43) (.ref h_wri) (.int z43) (.int 300)))), (h_wri, .inl (cy_wri, 1000, .inl f44)), (h_let, .inl (cy_let, 256, .inl f_let)), (h_nv, .inl (cy_nv, 8000, .inl f_nv)), (h_nn, .inl (cy_nn, 8000, .inr (.inl f_nn))), (h_na, .inl (cy_na, 8000, .inl f_na)), (h_nb, .inl (cy_nb, 8000, .inl f_nb)), (h_nc, .inl (cy_nc, 8000, .inl f_nc)), (h_bto, .inl (cy_bto, 256, .inl f_bto)), (h_bin, .inl (cy_bin, 256, .inl f_bin)), (h_cof, .inl (cy_cof, 31, .inl f_cof)), (h_isn, .inl (cy_isn, 192, .inl f_isn)), (h_tem, .inl (cy_tem, 192, .inl f_tem)), (h_out, .inl (cy_out, 1000, .inl f50))] := hD.sub [3, 4, 5, 6, 7, 8, 9, 10, 11, 12, 13, 0, 1, 2] (by decide) rfl
            refine W.widen (k := 0) (n := 0) (Nat.le_of_ble_eq_true rfl) (Nat.le_of_ble_eq_true rfl) ?_
            have cst300 : (300 : Int32).toInt = 300 := by decide
            have w54 : 0 ≤ ((z41)).toInt ∧ ((z41)).toInt ≤ 7999 := by first | exact k45 | omega
            have w55 : 0 ≤ ((z42)).toInt ∧ ((z42)).toInt ≤ 31 := by first | exact k46 | omega
            have w56 : 0 ≤ ((z43)).toInt ∧ ((z43)).toInt ≤ 1000 := by first | exact k47 | omega
            have w57 : 0 ≤ ((z43)).toInt ∧ ((z43)).toInt ≤ 1000 := by first | exact k47 | omega
            have w58 : 0 ≤ ((300 : Int32)).toInt ∧ ((300 : Int32)).toInt ≤ 998 := by omega
            exact W.iret (v := z43) hx hb hr (fun t ht hW => ⟨⟨z43, (z41, z42, z43, z43, 300, f44, f50), rfl, ⟨w54, w55, w56, w57, w58⟩, by rw [ht]; exact hP, hD⟩, hS.F ht⟩) hS.2.2 dX11_shows_93
          · have kc53 := (not_congr (cv_le (rfl : (z43).toInt = (z43).toInt) (rfl : (x49).toInt = (x49).toInt))).mp c53
            refine lv_aload_n hx hb dX11_shows_61 rfl (lv_at hl 0 rfl) ?_
            refine va_get (D := (dC, dI)) (ci := 8) (v := .ref h_out) (C := RX11) (T := TX11) (N := 71) hx hb hw iwX11 hown hK hP 3 rfl rfl 62 (by decide) (hw _ w_f_X11_243) (fun _ h9 => h9) rfl dX11_shows_62 ?_
            refine lv_iload hx hb dX11_shows_65 (lv_at hl 5 rfl) ?_
            refine lv_aload_n hx hb dX11_shows_67 rfl (lv_at hl 0 rfl) ?_
            refine va_get (D := (dC, dI)) (ci := 8) (v := .ref h_wri) (C := RX11) (T := TX11) (N := 71) hx hb hw iwX11 hown hK hP 3 rfl rfl 64 (by decide) (hw _ w_f_X11_246) (fun _ h9 => h9) rfl dX11_shows_68 ?_
            refine lv_iload hx hb dX11_shows_71 (lv_at hl 5 rfl) ?_
            refine va_iald hx hb hK hP 4 0 rfl rfl (i := x49) (vp_in_iff.mpr (by omega)) dX11_shows_73 ?_
            refine lv_topi (fun z59 ez59 => ?_)
            refine va_iast hx hb hK hP hD hS 2 12 rfl rfl (i := x49) (x := z59) (vp_in_iff.mpr (by omega)) dX11_shows_74 (fun H locs hP9 hD9 hS9 => ?_)
            obtain ⟨f60, ef60⟩ : ∃ g : Nat → Int32, g = upd f50 (Int32.toNatClampNeg x49) z59 := ⟨_, rfl⟩
            clear hP hD hS
            have hP : va_P (dC, dI) cls [(h_isn, .inl (cy_isn, 192, .inl f_isn)), (h_tem, .inl (cy_tem, 192, .inl f_tem)), (h_out, .inl (cy_out, 1000, .inl f60)), (h_mm, .inr (8, (mo159 v_mm (.ref h_nv) (.ref h_nn) (.ref h_na) (.ref h_nb) (.ref h_nc) (.ref h_let) (.ref h_isn) (.ref h_tem) (.ref h_bto) (.ref h_bin) (.int z41) (.int z42) (.ref h_cof) (.ref h_out) (.int x_mm_outs) (.ref h_wri) (.int z43) (.int 300)))), (h_wri, .inl (cy_wri, 1000, .inl f44)), (h_let, .inl (cy_let, 256, .inl f_let)), (h_nv, .inl (cy_nv, 8000, .inl f_nv)), (h_nn, .inl (cy_nn, 8000, .inr (.inl f_nn))), (h_na, .inl (cy_na, 8000, .inl f_na)), (h_nb, .inl (cy_nb, 8000, .inl f_nb)), (h_nc, .inl (cy_nc, 8000, .inl f_nc)), (h_bto, .inl (cy_bto, 256, .inl f_bto)), (h_bin, .inl (cy_bin, 256, .inl f_bin)), (h_cof, .inl (cy_cof, 31, .inl f_cof))] H := by rw [ef60]; exact hP9
            have hD : va_D A [(h_isn, .inl (cy_isn, 192, .inl f_isn)), (h_tem, .inl (cy_tem, 192, .inl f_tem)), (h_out, .inl (cy_out, 1000, .inl f60)), (h_mm, .inr (8, (mo159 v_mm (.ref h_nv) (.ref h_nn) (.ref h_na) (.ref h_nb) (.ref h_nc) (.ref h_let) (.ref h_isn) (.ref h_tem) (.ref h_bto) (.ref h_bin) (.int z41) (.int z42) (.ref h_cof) (.ref h_out) (.int x_mm_outs) (.ref h_wri) (.int z43) (.int 300)))), (h_wri, .inl (cy_wri, 1000, .inl f44)), (h_let, .inl (cy_let, 256, .inl f_let)), (h_nv, .inl (cy_nv, 8000, .inl f_nv)), (h_nn, .inl (cy_nn, 8000, .inr (.inl f_nn))), (h_na, .inl (cy_na, 8000, .inl f_na)), (h_nb, .inl (cy_nb, 8000, .inl f_nb)), (h_nc, .inl (cy_nc, 8000, .inl f_nc)), (h_bto, .inl (cy_bto, 256, .inl f_bto)), (h_bin, .inl (cy_bin, 256, .inl f_bin)), (h_cof, .inl (cy_cof, 31, .inl f_cof))] := by rw [ef60]; exact hD9
            have hS := hS9
            clear hP9 hD9 hS9
            clear ef60
            obtain ⟨z61, ez61⟩ : ∃ y : Int32, y = x49 + 1 := ⟨_, rfl⟩
            have tz61 : (z61).toInt = (x49).toInt + 1 := by rw [ez61]; exact i_add rfl (by decide) (by omega)
            refine lv_iinc (v := z61) (lv' := [(5, .int z61), (0, .ref h_mm), (1, .int p1), (2, .int p2), (3, .int (-1)), (4, .int 300)]) hx hb dX11_shows_75 hl (k := 5) rfl (by rw [ez61]; rfl) (by decide) rfl (fun ls hl => ?_)
            refine lv_goto (tgt := 52) hx hb dX11_shows_78 (by decide) ?_
            exact ih52 (z61) (f60) _ _ _ (by omega) (by first | exact klp51_1 | omega) (by omega) hP hD hS (lv_sub hl [1, 2, 3, 4, 5, 0] rfl)
      have cst0 : (0 : Int32).toInt = 0 := by decide
      exact lp51 _ (0) (f_out) _ _ _ (by decide) (by omega) (Nat.le_refl _) hP hD hS (lv_sub hl [1, 2, 3, 4, 5, 0] rfl)
    · have kc48 := (not_congr (cv_le (rfl : (z43).toInt = (z43).toInt) (by decide : (300 : Int32).toInt = 300))).mp c48
      refine lv_iconst (v := (-1)) hx hb dX11_shows_47 (by decide) ?_
      replace hP : va_P (dC, dI) cls [(h_mm, .inr (8, (mo159 v_mm (.ref h_nv) (.ref h_nn) (.ref h_na) (.ref h_nb) (.ref h_nc) (.ref h_let) (.ref h_isn) (.ref h_tem) (.ref h_bto) (.ref h_bin) (.int z41) (.int z42) (.ref h_cof) (.ref h_out) (.int x_mm_outs) (.ref h_wri) (.int z43) (.int 300)))), (h_wri, .inl (cy_wri, 1000, .inl f44)), (h_let, .inl (cy_let, 256, .inl f_let)), (h_nv, .inl (cy_nv, 8000, .inl f_nv)), (h_nn, .inl (cy_nn, 8000, .inr (.inl f_nn))), (h_na, .inl (cy_na, 8000, .inl f_na)), (h_nb, .inl (cy_nb, 8000, .inl f_nb)), (h_nc, .inl (cy_nc, 8000, .inl f_nc)), (h_bto, .inl (cy_bto, 256, .inl f_bto)), (h_bin, .inl (cy_bin, 256, .inl f_bin)), (h_cof, .inl (cy_cof, 31, .inl f_cof)), (h_isn, .inl (cy_isn, 192, .inl f_isn)), (h_tem, .inl (cy_tem, 192, .inl f_tem)), (h_out, .inl (cy_out, 1000, .inl f_out))] H := hP.sub [3, 4, 5, 6, 7, 8, 9, 10, 11, 12, 13, 0, 1, 2] rfl
      replace hD : va_D A [(h_mm, .inr (8, (mo159 v_mm (.ref h_nv) (.ref h_nn) (.ref h_na) (.ref h_nb) (.ref h_nc) (.ref h_let) (.ref h_isn) (.ref h_tem) (.ref h_bto) (.ref h_bin) (.int z41) (.int z42) (.ref h_cof) (.ref h_out) (.int x_mm_outs) (.ref h_wri) (.int z43) (.int 300)))), (h_wri, .inl (cy_wri, 1000, .inl f44)), (h_let, .inl (cy_let, 256, .inl f_let)), (h_nv, .inl (cy_nv, 8000, .inl f_nv)), (h_nn, .inl (cy_nn, 8000, .inr (.inl f_nn))), (h_na, .inl (cy_na, 8000, .inl f_na)), (h_nb, .inl (cy_nb, 8000, .inl f_nb)), (h_nc, .inl (cy_nc, 8000, .inl f_nc)), (h_bto, .inl (cy_bto, 256, .inl f_bto)), (h_bin, .inl (cy_bin, 256, .inl f_bin)), (h_cof, .inl (cy_cof, 31, .inl f_cof)), (h_isn, .inl (cy_isn, 192, .inl f_isn)), (h_tem, .inl (cy_tem, 192, .inl f_tem)), (h_out, .inl (cy_out, 1000, .inl f_out))] := hD.sub [3, 4, 5, 6, 7, 8, 9, 10, 11, 12, 13, 0, 1, 2] (by decide) rfl
      refine W.widen (k := 0) (n := 0) (Nat.le_of_ble_eq_true rfl) (Nat.le_of_ble_eq_true rfl) ?_
      have cstm1 : ((-1) : Int32).toInt = -1 := by decide
      have cst300 : (300 : Int32).toInt = 300 := by decide
      have w62 : 0 ≤ ((z41)).toInt ∧ ((z41)).toInt ≤ 7999 := by first | exact k45 | omega
      have w63 : 0 ≤ ((z42)).toInt ∧ ((z42)).toInt ≤ 31 := by first | exact k46 | omega
      have w64 : 0 ≤ ((x_mm_outs)).toInt ∧ ((x_mm_outs)).toInt ≤ 1000 := by first | exact hx_mm_outs | omega
      have w65 : 0 ≤ ((z43)).toInt ∧ ((z43)).toInt ≤ 1000 := by first | exact k47 | omega
      have w66 : 0 ≤ ((300 : Int32)).toInt ∧ ((300 : Int32)).toInt ≤ 998 := by omega
      exact W.iret (v := (-1)) hx hb hr (fun t ht hW => ⟨⟨(-1), (z41, z42, x_mm_outs, z43, 300, f44, f_out), rfl, ⟨w62, w63, w64, w65, w66⟩, by rw [ht]; exact hP, hD⟩, hS.F ht⟩) hS.2.2 dX11_shows_48

set_option maxHeartbeats 8000000 in
set_option maxRecDepth 100000 in
theorem c_X11_show (l : Launch) (dC : Nat → ClassId) (dI : Nat → Nat → Nat) (sz : Nat) (h_mm : Nat) (h_wri : Nat) (h_let : Nat) (h_nv : Nat) (h_nn : Nat) (h_na : Nat) (h_nb : Nat) (h_nc : Nat) (h_isn : Nat) (h_tem : Nat) (h_out : Nat) (h_mny : Nat) (h_vrs : Nat) (v_mm : Nat → Value) (x_mm_clauses : Int32) (x_mm_outs : Int32) (x_mm_writes : Int32) (x_mm_room : Int32) (cy_wri : ClassId) (f_wri : Nat → Int32) (cy_let : ClassId) (f_let : Nat → Int32) (cy_nv : ClassId) (f_nv : Nat → Int32) (cy_nn : ClassId) (f_nn : Nat → Int64) (cy_na : ClassId) (f_na : Nat → Int32) (cy_nb : ClassId) (f_nb : Nat → Int32) (cy_nc : ClassId) (f_nc : Nat → Int32) (cy_isn : ClassId) (f_isn : Nat → Int32) (cy_tem : ClassId) (f_tem : Nat → Int32) (cy_out : ClassId) (f_out : Nat → Int32) (cy_mny : ClassId) (f_mny : Nat → Int32) (cy_vrs : ClassId) (f_vrs : Nat → Int32) (p1 : Int32) (p2 : Int32) (N : Int) (hz : Nat → Nat) (hx_mm_clauses : 0 ≤ (x_mm_clauses).toInt ∧ (x_mm_clauses).toInt ≤ 16) (hx_mm_outs : 0 ≤ (x_mm_outs).toInt ∧ (x_mm_outs).toInt ≤ 1000) (hx_mm_writes : 0 ≤ (x_mm_writes).toInt ∧ (x_mm_writes).toInt ≤ 1000) (hx_mm_room : 0 ≤ (x_mm_room).toInt ∧ (x_mm_room).toInt ≤ 998) (hf_nv : Rg (-1) 7 f_nv) (hf_na : Rg (-1) 7999 f_na) (hf_nb : Rg (-1) 7999 f_nb) (hf_nc : Rg (-1) 7999 f_nc) (hf_isn : Rg 0 1 f_isn) (hf_tem : Rg 0 7999 f_tem) (hf_mny : Rg 0 6 f_mny) (hf_vrs : Rg 0 8 f_vrs) (q0 : N ≤ 8000) (hn_nds : ND 0 N hz f_na f_nb f_nc) (hn_tms : TM 0 N hz 0 (x_mm_clauses).toInt f_mny f_tem) (hn_wft : WFT (RVW f_nv f_nn f_na f_nb f_nc) (RLX 0 f_mny f_vrs f_isn f_tem) (x_mm_clauses).toInt) : Met l yX11_show (Ws yX11_show cX11_show 3 (some .int)) (({ frames := 25, cells := 0, slots := 0, locals := 588 } : Room)) (PRE (dC, dI) cls [(cy_wri, .int), (cy_let, .int), (cy_nv, .int), (cy_nn, .long), (cy_na, .int), (cy_nb, .int), (cy_nc, .int), (cy_isn, .boolean), (cy_tem, .int), (cy_out, .int), (cy_mny, .int), (cy_vrs, .int)] [(h_mm, .inr (8, (mo160 v_mm (.ref h_nv) (.ref h_nn) (.ref h_na) (.ref h_nb) (.ref h_nc) (.int x_mm_clauses) (.ref h_mny) (.ref h_vrs) (.ref h_let) (.ref h_isn) (.ref h_tem) (.ref h_out) (.int x_mm_outs) (.ref h_wri) (.int x_mm_writes) (.int x_mm_room)))), (h_wri, .inl (cy_wri, 1000, .inl f_wri)), (h_let, .inl (cy_let, 256, .inl f_let)), (h_nv, .inl (cy_nv, 8000, .inl f_nv)), (h_nn, .inl (cy_nn, 8000, .inr (.inl f_nn))), (h_na, .inl (cy_na, 8000, .inl f_na)), (h_nb, .inl (cy_nb, 8000, .inl f_nb)), (h_nc, .inl (cy_nc, 8000, .inl f_nc)), (h_isn, .inl (cy_isn, 192, .inl f_isn)), (h_tem, .inl (cy_tem, 192, .inl f_tem)), (h_out, .inl (cy_out, 1000, .inl f_out)), (h_mny, .inl (cy_mny, 32, .inl f_mny)), (h_vrs, .inl (cy_vrs, 32, .inl f_vrs))] sz [.ref h_mm, .int p1, .int p2]) (va_Qi (fun (r : Int32) (u : (Int32) × (Int32) × (Int32) × (Int32) × (Nat → Int32) × (Nat → Int32)) => (0 ≤ (u.2.1).toInt ∧ (u.2.1).toInt ≤ 1000) ∧ (0 ≤ (u.2.2.1).toInt ∧ (u.2.2.1).toInt ≤ 1000) ∧ (0 ≤ (u.2.2.2.1).toInt ∧ (u.2.2.2.1).toInt ≤ 998) ∧ (SHV (nlR 14) (RVW f_nv f_nn f_na f_nb f_nc) (RLX 0 f_mny f_vrs f_isn f_tem) (x_mm_clauses).toInt (p1).toInt (p2).toInt (r).toInt)) (fun (u : (Int32) × (Int32) × (Int32) × (Int32) × (Nat → Int32) × (Nat → Int32)) (t : State) => va_P (dC, dI) cls [(h_mm, .inr (8, (mo161 v_mm (.int u.1) (.ref h_nv) (.ref h_nn) (.ref h_na) (.ref h_nb) (.ref h_nc) (.int x_mm_clauses) (.ref h_mny) (.ref h_vrs) (.ref h_let) (.ref h_isn) (.ref h_tem) (.ref h_out) (.int u.2.1) (.ref h_wri) (.int u.2.2.1) (.int u.2.2.2.1)))), (h_wri, .inl (cy_wri, 1000, .inl u.2.2.2.2.1)), (h_let, .inl (cy_let, 256, .inl f_let)), (h_nv, .inl (cy_nv, 8000, .inl f_nv)), (h_nn, .inl (cy_nn, 8000, .inr (.inl f_nn))), (h_na, .inl (cy_na, 8000, .inl f_na)), (h_nb, .inl (cy_nb, 8000, .inl f_nb)), (h_nc, .inl (cy_nc, 8000, .inl f_nc)), (h_isn, .inl (cy_isn, 192, .inl f_isn)), (h_tem, .inl (cy_tem, 192, .inl f_tem)), (h_out, .inl (cy_out, 1000, .inl u.2.2.2.2.2)), (h_mny, .inl (cy_mny, 32, .inl f_mny)), (h_vrs, .inl (cy_vrs, 32, .inl f_vrs))] t.heap ∧ va_D (va_A [(h_mm, .inr (8, (mo160 v_mm (.ref h_nv) (.ref h_nn) (.ref h_na) (.ref h_nb) (.ref h_nc) (.int x_mm_clauses) (.ref h_mny) (.ref h_vrs) (.ref h_let) (.ref h_isn) (.ref h_tem) (.ref h_out) (.int x_mm_outs) (.ref h_wri) (.int x_mm_writes) (.int x_mm_room)))), (h_wri, .inl (cy_wri, 1000, .inl f_wri)), (h_let, .inl (cy_let, 256, .inl f_let)), (h_nv, .inl (cy_nv, 8000, .inl f_nv)), (h_nn, .inl (cy_nn, 8000, .inr (.inl f_nn))), (h_na, .inl (cy_na, 8000, .inl f_na)), (h_nb, .inl (cy_nb, 8000, .inl f_nb)), (h_nc, .inl (cy_nc, 8000, .inl f_nc)), (h_isn, .inl (cy_isn, 192, .inl f_isn)), (h_tem, .inl (cy_tem, 192, .inl f_tem)), (h_out, .inl (cy_out, 1000, .inl f_out)), (h_mny, .inl (cy_mny, 32, .inl f_mny)), (h_vrs, .inl (cy_vrs, 32, .inl f_vrs))] sz) [(h_mm, .inr (8, (mo161 v_mm (.int u.1) (.ref h_nv) (.ref h_nn) (.ref h_na) (.ref h_nb) (.ref h_nc) (.int x_mm_clauses) (.ref h_mny) (.ref h_vrs) (.ref h_let) (.ref h_isn) (.ref h_tem) (.ref h_out) (.int u.2.1) (.ref h_wri) (.int u.2.2.1) (.int u.2.2.2.1)))), (h_wri, .inl (cy_wri, 1000, .inl u.2.2.2.2.1)), (h_let, .inl (cy_let, 256, .inl f_let)), (h_nv, .inl (cy_nv, 8000, .inl f_nv)), (h_nn, .inl (cy_nn, 8000, .inr (.inl f_nn))), (h_na, .inl (cy_na, 8000, .inl f_na)), (h_nb, .inl (cy_nb, 8000, .inl f_nb)), (h_nc, .inl (cy_nc, 8000, .inl f_nc)), (h_isn, .inl (cy_isn, 192, .inl f_isn)), (h_tem, .inl (cy_tem, 192, .inl f_tem)), (h_out, .inl (cy_out, 1000, .inl u.2.2.2.2.2)), (h_mny, .inl (cy_mny, 32, .inl f_mny)), (h_vrs, .inl (cy_vrs, 32, .inl f_vrs))]) (va_A [(h_mm, .inr (8, (mo160 v_mm (.ref h_nv) (.ref h_nn) (.ref h_na) (.ref h_nb) (.ref h_nc) (.int x_mm_clauses) (.ref h_mny) (.ref h_vrs) (.ref h_let) (.ref h_isn) (.ref h_tem) (.ref h_out) (.int x_mm_outs) (.ref h_wri) (.int x_mm_writes) (.int x_mm_room)))), (h_wri, .inl (cy_wri, 1000, .inl f_wri)), (h_let, .inl (cy_let, 256, .inl f_let)), (h_nv, .inl (cy_nv, 8000, .inl f_nv)), (h_nn, .inl (cy_nn, 8000, .inr (.inl f_nn))), (h_na, .inl (cy_na, 8000, .inl f_na)), (h_nb, .inl (cy_nb, 8000, .inl f_nb)), (h_nc, .inl (cy_nc, 8000, .inl f_nc)), (h_isn, .inl (cy_isn, 192, .inl f_isn)), (h_tem, .inl (cy_tem, 192, .inl f_tem)), (h_out, .inl (cy_out, 1000, .inl f_out)), (h_mny, .inl (cy_mny, 32, .inl f_mny)), (h_vrs, .inl (cy_vrs, 32, .inl f_vrs))] sz)) 0 0 (va_A [(h_mm, .inr (8, (mo160 v_mm (.ref h_nv) (.ref h_nn) (.ref h_na) (.ref h_nb) (.ref h_nc) (.int x_mm_clauses) (.ref h_mny) (.ref h_vrs) (.ref h_let) (.ref h_isn) (.ref h_tem) (.ref h_out) (.int x_mm_outs) (.ref h_wri) (.int x_mm_writes) (.int x_mm_room)))), (h_wri, .inl (cy_wri, 1000, .inl f_wri)), (h_let, .inl (cy_let, 256, .inl f_let)), (h_nv, .inl (cy_nv, 8000, .inl f_nv)), (h_nn, .inl (cy_nn, 8000, .inr (.inl f_nn))), (h_na, .inl (cy_na, 8000, .inl f_na)), (h_nb, .inl (cy_nb, 8000, .inl f_nb)), (h_nc, .inl (cy_nc, 8000, .inl f_nc)), (h_isn, .inl (cy_isn, 192, .inl f_isn)), (h_tem, .inl (cy_tem, 192, .inl f_tem)), (h_out, .inl (cy_out, 1000, .inl f_out)), (h_mny, .inl (cy_mny, 32, .inl f_mny)), (h_vrs, .inl (cy_vrs, 32, .inl f_vrs))] sz) := by
  refine Met.ofW (cc := cX11_show) (maxL := 3) (ret := (some .int)) (by decide) rfl ?_
  intro p e s m args below meth c s₁ B hml hv
  obtain ⟨rfl, hsz, hP, hK, hD0, hN⟩ := hv
  have hx := B.exec
  have hb := B.bytes
  have hr := B.returns
  have hts := atoms_spec (ws := Ws yX11_show cX11_show 3 (some .int)) B.pre
  have hT : ∀ w ∈ WALL, w ∈ Ws yX11_show cX11_show 3 (some .int) := fun w h => List.mem_cons_of_mem _ h
  have hw := fun w (h : w ∈ WALL) => hts w (hT w h)
  have hown : s.vm.findClass RX11 = some m.cls := findClass_of_methodNamed B.named
  have hlocks := B.notSynchronized
  subst hsz
  have hD := hD0.self (sz := s.heap.size)
  generalize hAe : va_A [(h_mm, .inr (8, (mo160 v_mm (.ref h_nv) (.ref h_nn) (.ref h_na) (.ref h_nb) (.ref h_nc) (.int x_mm_clauses) (.ref h_mny) (.ref h_vrs) (.ref h_let) (.ref h_isn) (.ref h_tem) (.ref h_out) (.int x_mm_outs) (.ref h_wri) (.int x_mm_writes) (.int x_mm_room)))), (h_wri, .inl (cy_wri, 1000, .inl f_wri)), (h_let, .inl (cy_let, 256, .inl f_let)), (h_nv, .inl (cy_nv, 8000, .inl f_nv)), (h_nn, .inl (cy_nn, 8000, .inr (.inl f_nn))), (h_na, .inl (cy_na, 8000, .inl f_na)), (h_nb, .inl (cy_nb, 8000, .inl f_nb)), (h_nc, .inl (cy_nc, 8000, .inl f_nc)), (h_isn, .inl (cy_isn, 192, .inl f_isn)), (h_tem, .inl (cy_tem, 192, .inl f_tem)), (h_out, .inl (cy_out, 1000, .inl f_out)), (h_mny, .inl (cy_mny, 32, .inl f_mny)), (h_vrs, .inl (cy_vrs, 32, .inl f_vrs))] s.heap.size = A at hD ⊢
  have hA : ∀ q : Nat, s.heap.size ≤ q → A q := fun q h => by rw [← hAe]; exact Or.inr h
  have hS : va_S A s.heap s.heap [] := va_S.rf
  have hl := lv_entry ([.ref h_mm, .int p1, .int p2]) (n := 3) (Nat.le_of_ble_eq_true rfl)
  rw [lg_entry_eq]
  generalize (lg_sl ([.ref h_mm, .int p1, .int p2]) ++ List.replicate (3 - (lg_sl ([.ref h_mm, .int p1, .int p2])).length) Slot.unset).toArray = ls at hl ⊢
  have hl : lv_has ls 3 [(0, .ref h_mm), (1, .int p1), (2, .int p2)] := hl
  refine lv_aload_n hx hb dX11_show_0 rfl (lv_at hl 0 rfl) ?_
  refine lv_iconst (v := 0) hx hb dX11_show_1 (by decide) ?_
  refine va_put (D := (dC, dI)) (ci := 8) (v := .int 0) (ty := tyX11 0) (C := RX11) (T := TX11) (N := 71) hx hb hw iwX11 tyX11 tyX11_ok nmX11 hown hK hP hD hS 0 rfl rfl 0 (by decide) (hw _ w_f_X11_1) (fun _ h9 => h9) rfl (tyX11_ok 0 (by decide)) rfl rfl (Nat.le_of_ble_eq_true rfl) dX11_show_2 (fun H locs hP9 hD9 hS9 => ?_)
  clear hP hD hS
  have hP : va_P (dC, dI) cls [(h_mm, .inr (8, (mo161 v_mm (.int 0) (.ref h_nv) (.ref h_nn) (.ref h_na) (.ref h_nb) (.ref h_nc) (.int x_mm_clauses) (.ref h_mny) (.ref h_vrs) (.ref h_let) (.ref h_isn) (.ref h_tem) (.ref h_out) (.int x_mm_outs) (.ref h_wri) (.int x_mm_writes) (.int x_mm_room)))), (h_wri, .inl (cy_wri, 1000, .inl f_wri)), (h_let, .inl (cy_let, 256, .inl f_let)), (h_nv, .inl (cy_nv, 8000, .inl f_nv)), (h_nn, .inl (cy_nn, 8000, .inr (.inl f_nn))), (h_na, .inl (cy_na, 8000, .inl f_na)), (h_nb, .inl (cy_nb, 8000, .inl f_nb)), (h_nc, .inl (cy_nc, 8000, .inl f_nc)), (h_isn, .inl (cy_isn, 192, .inl f_isn)), (h_tem, .inl (cy_tem, 192, .inl f_tem)), (h_out, .inl (cy_out, 1000, .inl f_out)), (h_mny, .inl (cy_mny, 32, .inl f_mny)), (h_vrs, .inl (cy_vrs, 32, .inl f_vrs))] H := hP9
  have hD : va_D A [(h_mm, .inr (8, (mo161 v_mm (.int 0) (.ref h_nv) (.ref h_nn) (.ref h_na) (.ref h_nb) (.ref h_nc) (.int x_mm_clauses) (.ref h_mny) (.ref h_vrs) (.ref h_let) (.ref h_isn) (.ref h_tem) (.ref h_out) (.int x_mm_outs) (.ref h_wri) (.int x_mm_writes) (.int x_mm_room)))), (h_wri, .inl (cy_wri, 1000, .inl f_wri)), (h_let, .inl (cy_let, 256, .inl f_let)), (h_nv, .inl (cy_nv, 8000, .inl f_nv)), (h_nn, .inl (cy_nn, 8000, .inr (.inl f_nn))), (h_na, .inl (cy_na, 8000, .inl f_na)), (h_nb, .inl (cy_nb, 8000, .inl f_nb)), (h_nc, .inl (cy_nc, 8000, .inl f_nc)), (h_isn, .inl (cy_isn, 192, .inl f_isn)), (h_tem, .inl (cy_tem, 192, .inl f_tem)), (h_out, .inl (cy_out, 1000, .inl f_out)), (h_mny, .inl (cy_mny, 32, .inl f_mny)), (h_vrs, .inl (cy_vrs, 32, .inl f_vrs))] := hD9
  have hS := hS9
  clear hP9 hD9 hS9
  refine lv_aload_n hx hb dX11_show_5 rfl (lv_at hl 0 rfl) ?_
  refine lv_iload_n hx hb dX11_show_6 rfl (lv_at hl 1 rfl) ?_
  refine lv_iload_n hx hb dX11_show_7 rfl (lv_at hl 2 rfl) ?_
  obtain ⟨vq1, evq1⟩ := mq161_101 v_mm (.int 0) (.ref h_nv) (.ref h_nn) (.ref h_na) (.ref h_nb) (.ref h_nc) (.ref h_vrs) (.ref h_let) (.ref h_isn) (.ref h_tem) (.ref h_out) (.int x_mm_outs) (.ref h_wri) (.int x_mm_writes) (.int x_mm_room)
  replace hP : va_P (dC, dI) cls [(h_mm, .inr (8, (mo101 vq1 (.int x_mm_clauses) (.ref h_mny)))), (h_wri, .inl (cy_wri, 1000, .inl f_wri)), (h_let, .inl (cy_let, 256, .inl f_let)), (h_nv, .inl (cy_nv, 8000, .inl f_nv)), (h_nn, .inl (cy_nn, 8000, .inr (.inl f_nn))), (h_na, .inl (cy_na, 8000, .inl f_na)), (h_nb, .inl (cy_nb, 8000, .inl f_nb)), (h_nc, .inl (cy_nc, 8000, .inl f_nc)), (h_isn, .inl (cy_isn, 192, .inl f_isn)), (h_tem, .inl (cy_tem, 192, .inl f_tem)), (h_out, .inl (cy_out, 1000, .inl f_out)), (h_mny, .inl (cy_mny, 32, .inl f_mny)), (h_vrs, .inl (cy_vrs, 32, .inl f_vrs))] H := by rw [evq1]; exact hP
  replace hD : va_D A [(h_mm, .inr (8, (mo101 vq1 (.int x_mm_clauses) (.ref h_mny)))), (h_wri, .inl (cy_wri, 1000, .inl f_wri)), (h_let, .inl (cy_let, 256, .inl f_let)), (h_nv, .inl (cy_nv, 8000, .inl f_nv)), (h_nn, .inl (cy_nn, 8000, .inr (.inl f_nn))), (h_na, .inl (cy_na, 8000, .inl f_na)), (h_nb, .inl (cy_nb, 8000, .inl f_nb)), (h_nc, .inl (cy_nc, 8000, .inl f_nc)), (h_isn, .inl (cy_isn, 192, .inl f_isn)), (h_tem, .inl (cy_tem, 192, .inl f_tem)), (h_out, .inl (cy_out, 1000, .inl f_out)), (h_mny, .inl (cy_mny, 32, .inl f_mny)), (h_vrs, .inl (cy_vrs, 32, .inl f_vrs))] := by rw [evq1]; exact hD
  have hPc := hP.sub (ws' := [(h_mm, .inr (8, (mo101 vq1 (.int x_mm_clauses) (.ref h_mny)))), (h_mny, .inl (cy_mny, 32, .inl f_mny))]) [0, 11] rfl
  have hDc := hD.sub (ws' := [(h_mm, .inr (8, (mo101 vq1 (.int x_mm_clauses) (.ref h_mny)))), (h_mny, .inl (cy_mny, 32, .inl f_mny))]) [0, 11] (by decide) rfl
  have hKc := hK.sub (tys' := [(cy_mny, .int)]) [10] rfl
  have hFc := va_free (wc := [(h_mm, .inr (8, (mo101 vq1 (.int x_mm_clauses) (.ref h_mny)))), (h_mny, .inl (cy_mny, 32, .inl f_mny))]) hD hS hA [0, 11] rfl
  refine va_calli (va_runV (As := [.int p1, .int p2]) (rest := []) ⟨hx, hb, hml, hown, hts⟩ (c_X11_isLiteral_f l dC dI H.size h_mm h_mny vq1 x_mm_clauses cy_mny f_mny p1 p2 (by first | exact hx_mm_clauses | omega) hf_mny) (cwV 2 hts (gv hT w_m_X11_300 w_instanceMethod_X11_isLiteral ws_sel_X11_isLiteral w_ini_X11 w_code_X11_isLiteral) rfl rfl rfl (by decide +kernel) ⟨(Nat.le_of_ble_eq_true rfl), (Nat.le_of_ble_eq_true rfl)⟩) ⟨pre_blind, va_recv hK hP (ci := 8) (q0 := 0) rfl rfl, pre_of hPc hKc hDc hN⟩ rfl rfl hl.1 rfl (lv_room (Nat.le_of_ble_eq_true rfl)) dX11_show_8 ⟨(Nat.le_of_ble_eq_true rfl), (Nat.le_of_ble_eq_true rfl)⟩) hS (fun q _ h => hFc q h) hFc (fun r2 u t H locs ht hvm hq hB hz1 hk1 hS9 => ?_)
  obtain ⟨hP1, hD1⟩ := hB
  rw [ht] at hP1
  obtain ⟨hP9, hD9⟩ := va_join (wr := [(h_wri, .inl (cy_wri, 1000, .inl f_wri)), (h_let, .inl (cy_let, 256, .inl f_let)), (h_nv, .inl (cy_nv, 8000, .inl f_nv)), (h_nn, .inl (cy_nn, 8000, .inr (.inl f_nn))), (h_na, .inl (cy_na, 8000, .inl f_na)), (h_nb, .inl (cy_nb, 8000, .inl f_nb)), (h_nc, .inl (cy_nc, 8000, .inl f_nc)), (h_isn, .inl (cy_isn, 192, .inl f_isn)), (h_tem, .inl (cy_tem, 192, .inl f_tem)), (h_out, .inl (cy_out, 1000, .inl f_out)), (h_vrs, .inl (cy_vrs, 32, .inl f_vrs))]) (w1 := [(h_mm, .inr (8, (mo101 vq1 (.int x_mm_clauses) (.ref h_mny)))), (h_mny, .inl (cy_mny, 32, .inl f_mny))]) hP hD [0, 11] [1, 2, 3, 4, 5, 6, 7, 8, 9, 10, 12] rfl rfl (by decide) (by decide) hk1 hFc hP1 hD1
  clear hP hD hS hPc hDc hKc hFc hP1 hD1 hk1 hz1 ht hvm
  have hP : va_P (dC, dI) cls [(h_wri, .inl (cy_wri, 1000, .inl f_wri)), (h_let, .inl (cy_let, 256, .inl f_let)), (h_nv, .inl (cy_nv, 8000, .inl f_nv)), (h_nn, .inl (cy_nn, 8000, .inr (.inl f_nn))), (h_na, .inl (cy_na, 8000, .inl f_na)), (h_nb, .inl (cy_nb, 8000, .inl f_nb)), (h_nc, .inl (cy_nc, 8000, .inl f_nc)), (h_isn, .inl (cy_isn, 192, .inl f_isn)), (h_tem, .inl (cy_tem, 192, .inl f_tem)), (h_out, .inl (cy_out, 1000, .inl f_out)), (h_vrs, .inl (cy_vrs, 32, .inl f_vrs)), (h_mm, .inr (8, (mo101 vq1 (.int x_mm_clauses) (.ref h_mny)))), (h_mny, .inl (cy_mny, 32, .inl f_mny))] H := hP9
  have hD : va_D A [(h_wri, .inl (cy_wri, 1000, .inl f_wri)), (h_let, .inl (cy_let, 256, .inl f_let)), (h_nv, .inl (cy_nv, 8000, .inl f_nv)), (h_nn, .inl (cy_nn, 8000, .inr (.inl f_nn))), (h_na, .inl (cy_na, 8000, .inl f_na)), (h_nb, .inl (cy_nb, 8000, .inl f_nb)), (h_nc, .inl (cy_nc, 8000, .inl f_nc)), (h_isn, .inl (cy_isn, 192, .inl f_isn)), (h_tem, .inl (cy_tem, 192, .inl f_tem)), (h_out, .inl (cy_out, 1000, .inl f_out)), (h_vrs, .inl (cy_vrs, 32, .inl f_vrs)), (h_mm, .inr (8, (mo101 vq1 (.int x_mm_clauses) (.ref h_mny)))), (h_mny, .inl (cy_mny, 32, .inl f_mny))] := hD9
  have hS := hS9
  clear hP9 hD9 hS9
  rw [evq1] at hP hD
  replace hP : va_P (dC, dI) cls [(h_wri, .inl (cy_wri, 1000, .inl f_wri)), (h_let, .inl (cy_let, 256, .inl f_let)), (h_nv, .inl (cy_nv, 8000, .inl f_nv)), (h_nn, .inl (cy_nn, 8000, .inr (.inl f_nn))), (h_na, .inl (cy_na, 8000, .inl f_na)), (h_nb, .inl (cy_nb, 8000, .inl f_nb)), (h_nc, .inl (cy_nc, 8000, .inl f_nc)), (h_isn, .inl (cy_isn, 192, .inl f_isn)), (h_tem, .inl (cy_tem, 192, .inl f_tem)), (h_out, .inl (cy_out, 1000, .inl f_out)), (h_vrs, .inl (cy_vrs, 32, .inl f_vrs)), (h_mm, .inr (8, (mo161 v_mm (.int 0) (.ref h_nv) (.ref h_nn) (.ref h_na) (.ref h_nb) (.ref h_nc) (.int x_mm_clauses) (.ref h_mny) (.ref h_vrs) (.ref h_let) (.ref h_isn) (.ref h_tem) (.ref h_out) (.int x_mm_outs) (.ref h_wri) (.int x_mm_writes) (.int x_mm_room)))), (h_mny, .inl (cy_mny, 32, .inl f_mny))] H := hP
  replace hD : va_D A [(h_wri, .inl (cy_wri, 1000, .inl f_wri)), (h_let, .inl (cy_let, 256, .inl f_let)), (h_nv, .inl (cy_nv, 8000, .inl f_nv)), (h_nn, .inl (cy_nn, 8000, .inr (.inl f_nn))), (h_na, .inl (cy_na, 8000, .inl f_na)), (h_nb, .inl (cy_nb, 8000, .inl f_nb)), (h_nc, .inl (cy_nc, 8000, .inl f_nc)), (h_isn, .inl (cy_isn, 192, .inl f_isn)), (h_tem, .inl (cy_tem, 192, .inl f_tem)), (h_out, .inl (cy_out, 1000, .inl f_out)), (h_vrs, .inl (cy_vrs, 32, .inl f_vrs)), (h_mm, .inr (8, (mo161 v_mm (.int 0) (.ref h_nv) (.ref h_nn) (.ref h_na) (.ref h_nb) (.ref h_nc) (.int x_mm_clauses) (.ref h_mny) (.ref h_vrs) (.ref h_let) (.ref h_isn) (.ref h_tem) (.ref h_out) (.int x_mm_outs) (.ref h_wri) (.int x_mm_writes) (.int x_mm_room)))), (h_mny, .inl (cy_mny, 32, .inl f_mny))] := hD
  clear evq1 
  rcases hq with ⟨rfl, hq⟩ | ⟨rfl, hq⟩
  · replace hq : (0 ≤ ((p1)).toInt) ∧ (((p1)).toInt < ((x_mm_clauses)).toInt) ∧ (0 ≤ ((p2)).toInt) ∧ (((p2)).toInt ≤ 5) ∧ (((p2)).toInt < (f_mny (Int32.toNatClampNeg (p1))).toInt) := hq
    refine lv_if_eq (tgt := 32) hx hb dX11_show_11 (by decide) (fun c9 => absurd c9 (by decide)) (fun _ => ?_)
    have cl9 := clamp_nat (i := p1) (by omega)
    rw [cl9] at hq
    have em9 : ((RLX 0 f_mny f_vrs f_isn f_tem)).1 (p1).toInt.toNat = (f_mny (p1).toInt.toNat).toInt := by show (f_mny (0 + _)).toInt = _; rw [Nat.zero_add]
    refine lv_aload_n hx hb dX11_show_14 rfl (lv_at hl 0 rfl) ?_
    refine lv_aload_n hx hb dX11_show_15 rfl (lv_at hl 0 rfl) ?_
    refine lv_iload_n hx hb dX11_show_16 rfl (lv_at hl 1 rfl) ?_
    refine lv_iload_n hx hb dX11_show_17 rfl (lv_at hl 2 rfl) ?_
    have hPc := hP.sub (ws' := []) [] rfl
    have hDc := hD.sub (ws' := []) [] (by decide) rfl
    have hKc := hK.sub (tys' := []) [] rfl
    have hFc := va_free (wc := []) hD hS hA [] rfl
    refine va_calli (va_runV (As := [.int p1, .int p2]) (rest := [.ref h_mm]) ⟨hx, hb, hml, hown, hts⟩ (c_X11_litAt l dC dI H.size h_mm p1 p2 (by omega) (by omega)) (cwV 2 hts (gv hT w_m_X11_149 w_instanceMethod_X11_litAt ws_sel_X11_litAt w_ini_X11 w_code_X11_litAt) rfl rfl rfl (by decide +kernel) ⟨(Nat.le_of_ble_eq_true rfl), (Nat.le_of_ble_eq_true rfl)⟩) ⟨pre_blind, va_recv hK hP (ci := 8) (q0 := 11) rfl rfl, pre_of hPc hKc hDc hN⟩ rfl rfl hl.1 rfl (lv_room (Nat.le_of_ble_eq_true rfl)) dX11_show_18 ⟨(Nat.le_of_ble_eq_true rfl), (Nat.le_of_ble_eq_true rfl)⟩) hS (fun q _ h => hFc q h) hFc (fun r3 u t H locs ht hvm hq hB hz1 hk1 hS9 => ?_)
    obtain ⟨hP1, hD1⟩ := hB
    rw [ht] at hP1
    obtain ⟨hP9, hD9⟩ := va_join (wr := [(h_wri, .inl (cy_wri, 1000, .inl f_wri)), (h_let, .inl (cy_let, 256, .inl f_let)), (h_nv, .inl (cy_nv, 8000, .inl f_nv)), (h_nn, .inl (cy_nn, 8000, .inr (.inl f_nn))), (h_na, .inl (cy_na, 8000, .inl f_na)), (h_nb, .inl (cy_nb, 8000, .inl f_nb)), (h_nc, .inl (cy_nc, 8000, .inl f_nc)), (h_isn, .inl (cy_isn, 192, .inl f_isn)), (h_tem, .inl (cy_tem, 192, .inl f_tem)), (h_out, .inl (cy_out, 1000, .inl f_out)), (h_vrs, .inl (cy_vrs, 32, .inl f_vrs)), (h_mm, .inr (8, (mo161 v_mm (.int 0) (.ref h_nv) (.ref h_nn) (.ref h_na) (.ref h_nb) (.ref h_nc) (.int x_mm_clauses) (.ref h_mny) (.ref h_vrs) (.ref h_let) (.ref h_isn) (.ref h_tem) (.ref h_out) (.int x_mm_outs) (.ref h_wri) (.int x_mm_writes) (.int x_mm_room)))), (h_mny, .inl (cy_mny, 32, .inl f_mny))]) (w1 := []) hP hD [] [0, 1, 2, 3, 4, 5, 6, 7, 8, 9, 10, 11, 12] rfl rfl (by decide) (by decide) hk1 hFc hP1 hD1
    clear hP hD hS hPc hDc hKc hFc hP1 hD1 hk1 hz1 ht hvm
    have hP : va_P (dC, dI) cls [(h_wri, .inl (cy_wri, 1000, .inl f_wri)), (h_let, .inl (cy_let, 256, .inl f_let)), (h_nv, .inl (cy_nv, 8000, .inl f_nv)), (h_nn, .inl (cy_nn, 8000, .inr (.inl f_nn))), (h_na, .inl (cy_na, 8000, .inl f_na)), (h_nb, .inl (cy_nb, 8000, .inl f_nb)), (h_nc, .inl (cy_nc, 8000, .inl f_nc)), (h_isn, .inl (cy_isn, 192, .inl f_isn)), (h_tem, .inl (cy_tem, 192, .inl f_tem)), (h_out, .inl (cy_out, 1000, .inl f_out)), (h_vrs, .inl (cy_vrs, 32, .inl f_vrs)), (h_mm, .inr (8, (mo161 v_mm (.int 0) (.ref h_nv) (.ref h_nn) (.ref h_na) (.ref h_nb) (.ref h_nc) (.int x_mm_clauses) (.ref h_mny) (.ref h_vrs) (.ref h_let) (.ref h_isn) (.ref h_tem) (.ref h_out) (.int x_mm_outs) (.ref h_wri) (.int x_mm_writes) (.int x_mm_room)))), (h_mny, .inl (cy_mny, 32, .inl f_mny))] H := hP9
    have hD : va_D A [(h_wri, .inl (cy_wri, 1000, .inl f_wri)), (h_let, .inl (cy_let, 256, .inl f_let)), (h_nv, .inl (cy_nv, 8000, .inl f_nv)), (h_nn, .inl (cy_nn, 8000, .inr (.inl f_nn))), (h_na, .inl (cy_na, 8000, .inl f_na)), (h_nb, .inl (cy_nb, 8000, .inl f_nb)), (h_nc, .inl (cy_nc, 8000, .inl f_nc)), (h_isn, .inl (cy_isn, 192, .inl f_isn)), (h_tem, .inl (cy_tem, 192, .inl f_tem)), (h_out, .inl (cy_out, 1000, .inl f_out)), (h_vrs, .inl (cy_vrs, 32, .inl f_vrs)), (h_mm, .inr (8, (mo161 v_mm (.int 0) (.ref h_nv) (.ref h_nn) (.ref h_na) (.ref h_nb) (.ref h_nc) (.int x_mm_clauses) (.ref h_mny) (.ref h_vrs) (.ref h_let) (.ref h_isn) (.ref h_tem) (.ref h_out) (.int x_mm_outs) (.ref h_wri) (.int x_mm_writes) (.int x_mm_room)))), (h_mny, .inl (cy_mny, 32, .inl f_mny))] := hD9
    have hS := hS9
    clear hP9 hD9 hS9
    obtain ⟨k4, k5⟩ := hq
    replace k4 : 0 ≤ (r3).toInt ∧ (r3).toInt ≤ 191 := k4
    replace k5 : ((r3)).toInt = 6 * ((p1)).toInt + ((p2)).toInt := k5
    refine lv_iconst (v := (-1)) hx hb dX11_show_21 (by decide) ?_
    refine lv_iload_n hx hb dX11_show_22 rfl (lv_at hl 1 rfl) ?_
    refine lv_sipush (v := 900) hx hb dX11_show_23 (by decide) ?_
    have hm9 := hf_mny (p1).toInt.toNat
    have tg9 := tm_get (z := f_tem (r3).toInt.toNat) (c := p1) (t := r3) (l := (p2).toInt) hn_tms (by omega) (by rw [clamp_nat (i := p1) (by omega)]; omega) (by omega) (by rw [clamp_nat (i := r3) (by omega)])
    have ix9 : (r3).toInt.toNat = 6 * (0 + (p1).toInt.toNat) + (p2).toInt.toNat := by omega
    obtain ⟨wf1, wf2⟩ := hn_wft (p1).toInt.toNat (by omega) (p2).toInt.toNat (by rw [em9]; omega)
    have ts9 : ((RLX 0 f_mny f_vrs f_isn f_tem)).2.2.1 (p1).toInt.toNat (p2).toInt.toNat = (f_tem (r3).toInt.toNat).toInt.toNat := by show Int32.toNatClampNeg (f_tem (6 * (0 + _) + _)) = _; rw [← ix9, clamp_nat (by omega)]
    have sg9 : ((RLX 0 f_mny f_vrs f_isn f_tem)).2.2.2 (p1).toInt.toNat (p2).toInt.toNat = 1 - (f_isn (r3).toInt.toNat).toInt := by show 1 - (f_isn (6 * (0 + _) + _)).toInt = _; rw [← ix9]
    rw [ts9] at wf1 wf2
    rw [sg9] at wf2
    have ir9 := hf_isn (r3).toInt.toNat
    obtain ⟨vq6, evq6⟩ := mq161_158 v_mm (.int 0) (.int x_mm_clauses) (.ref h_mny) (.ref h_vrs)
    replace hP : va_P (dC, dI) cls [(h_wri, .inl (cy_wri, 1000, .inl f_wri)), (h_let, .inl (cy_let, 256, .inl f_let)), (h_nv, .inl (cy_nv, 8000, .inl f_nv)), (h_nn, .inl (cy_nn, 8000, .inr (.inl f_nn))), (h_na, .inl (cy_na, 8000, .inl f_na)), (h_nb, .inl (cy_nb, 8000, .inl f_nb)), (h_nc, .inl (cy_nc, 8000, .inl f_nc)), (h_isn, .inl (cy_isn, 192, .inl f_isn)), (h_tem, .inl (cy_tem, 192, .inl f_tem)), (h_out, .inl (cy_out, 1000, .inl f_out)), (h_vrs, .inl (cy_vrs, 32, .inl f_vrs)), (h_mm, .inr (8, (mo158 vq6 (.ref h_nv) (.ref h_nn) (.ref h_na) (.ref h_nb) (.ref h_nc) (.ref h_let) (.ref h_isn) (.ref h_tem) (.ref h_out) (.int x_mm_outs) (.ref h_wri) (.int x_mm_writes) (.int x_mm_room)))), (h_mny, .inl (cy_mny, 32, .inl f_mny))] H := by rw [evq6]; exact hP
    replace hD : va_D A [(h_wri, .inl (cy_wri, 1000, .inl f_wri)), (h_let, .inl (cy_let, 256, .inl f_let)), (h_nv, .inl (cy_nv, 8000, .inl f_nv)), (h_nn, .inl (cy_nn, 8000, .inr (.inl f_nn))), (h_na, .inl (cy_na, 8000, .inl f_na)), (h_nb, .inl (cy_nb, 8000, .inl f_nb)), (h_nc, .inl (cy_nc, 8000, .inl f_nc)), (h_isn, .inl (cy_isn, 192, .inl f_isn)), (h_tem, .inl (cy_tem, 192, .inl f_tem)), (h_out, .inl (cy_out, 1000, .inl f_out)), (h_vrs, .inl (cy_vrs, 32, .inl f_vrs)), (h_mm, .inr (8, (mo158 vq6 (.ref h_nv) (.ref h_nn) (.ref h_na) (.ref h_nb) (.ref h_nc) (.ref h_let) (.ref h_isn) (.ref h_tem) (.ref h_out) (.int x_mm_outs) (.ref h_wri) (.int x_mm_writes) (.int x_mm_room)))), (h_mny, .inl (cy_mny, 32, .inl f_mny))] := by rw [evq6]; exact hD
    have cstm1 : ((-1) : Int32).toInt = -1 := by decide
    have cst900 : (900 : Int32).toInt = 900 := by decide
    have hPc := hP.sub (ws' := [(h_mm, .inr (8, (mo158 vq6 (.ref h_nv) (.ref h_nn) (.ref h_na) (.ref h_nb) (.ref h_nc) (.ref h_let) (.ref h_isn) (.ref h_tem) (.ref h_out) (.int x_mm_outs) (.ref h_wri) (.int x_mm_writes) (.int x_mm_room)))), (h_wri, .inl (cy_wri, 1000, .inl f_wri)), (h_let, .inl (cy_let, 256, .inl f_let)), (h_nv, .inl (cy_nv, 8000, .inl f_nv)), (h_nn, .inl (cy_nn, 8000, .inr (.inl f_nn))), (h_na, .inl (cy_na, 8000, .inl f_na)), (h_nb, .inl (cy_nb, 8000, .inl f_nb)), (h_nc, .inl (cy_nc, 8000, .inl f_nc)), (h_isn, .inl (cy_isn, 192, .inl f_isn)), (h_tem, .inl (cy_tem, 192, .inl f_tem)), (h_out, .inl (cy_out, 1000, .inl f_out))]) [11, 0, 1, 2, 3, 4, 5, 6, 7, 8, 9] rfl
    have hDc := hD.sub (ws' := [(h_mm, .inr (8, (mo158 vq6 (.ref h_nv) (.ref h_nn) (.ref h_na) (.ref h_nb) (.ref h_nc) (.ref h_let) (.ref h_isn) (.ref h_tem) (.ref h_out) (.int x_mm_outs) (.ref h_wri) (.int x_mm_writes) (.int x_mm_room)))), (h_wri, .inl (cy_wri, 1000, .inl f_wri)), (h_let, .inl (cy_let, 256, .inl f_let)), (h_nv, .inl (cy_nv, 8000, .inl f_nv)), (h_nn, .inl (cy_nn, 8000, .inr (.inl f_nn))), (h_na, .inl (cy_na, 8000, .inl f_na)), (h_nb, .inl (cy_nb, 8000, .inl f_nb)), (h_nc, .inl (cy_nc, 8000, .inl f_nc)), (h_isn, .inl (cy_isn, 192, .inl f_isn)), (h_tem, .inl (cy_tem, 192, .inl f_tem)), (h_out, .inl (cy_out, 1000, .inl f_out))]) [11, 0, 1, 2, 3, 4, 5, 6, 7, 8, 9] (by decide) rfl
    have hKc := hK.sub (tys' := [(cy_wri, .int), (cy_let, .int), (cy_nv, .int), (cy_nn, .long), (cy_na, .int), (cy_nb, .int), (cy_nc, .int), (cy_isn, .boolean), (cy_tem, .int), (cy_out, .int)]) [0, 1, 2, 3, 4, 5, 6, 7, 8, 9] rfl
    have hFc := va_free (wc := [(h_mm, .inr (8, (mo158 vq6 (.ref h_nv) (.ref h_nn) (.ref h_na) (.ref h_nb) (.ref h_nc) (.ref h_let) (.ref h_isn) (.ref h_tem) (.ref h_out) (.int x_mm_outs) (.ref h_wri) (.int x_mm_writes) (.int x_mm_room)))), (h_wri, .inl (cy_wri, 1000, .inl f_wri)), (h_let, .inl (cy_let, 256, .inl f_let)), (h_nv, .inl (cy_nv, 8000, .inl f_nv)), (h_nn, .inl (cy_nn, 8000, .inr (.inl f_nn))), (h_na, .inl (cy_na, 8000, .inl f_na)), (h_nb, .inl (cy_nb, 8000, .inl f_nb)), (h_nc, .inl (cy_nc, 8000, .inl f_nc)), (h_isn, .inl (cy_isn, 192, .inl f_isn)), (h_tem, .inl (cy_tem, 192, .inl f_tem)), (h_out, .inl (cy_out, 1000, .inl f_out))]) hD hS hA [11, 0, 1, 2, 3, 4, 5, 6, 7, 8, 9] rfl
    refine va_calli (va_runV (As := [.int r3, .int (-1), .int p1, .int 900]) (rest := []) ⟨hx, hb, hml, hown, hts⟩ (c_X11_shows_n l dC dI H.size h_mm h_wri h_let h_nv h_nn h_na h_nb h_nc h_isn h_tem h_out vq6 x_mm_outs x_mm_writes x_mm_room cy_wri f_wri cy_let f_let cy_nv f_nv cy_nn f_nn cy_na f_na cy_nb f_nb cy_nc f_nc cy_isn f_isn cy_tem f_tem cy_out f_out r3 p1 N hz (by first | exact hx_mm_outs | omega) (by first | exact hx_mm_writes | omega) (by first | exact hx_mm_room | omega) hf_nv hf_na hf_nb hf_nc hf_isn hf_tem (by omega) (by first | exact q0 | omega) (by first | exact k4 | omega) (by omega) (by omega) hn_nds wf1) (cwV 4 hts (gv hT w_m_X11_465 w_instanceMethod_X11_shows ws_sel_X11_shows w_ini_X11 w_code_X11_shows) rfl rfl rfl (by decide +kernel) ⟨(Nat.le_of_ble_eq_true rfl), (Nat.le_of_ble_eq_true rfl)⟩) ⟨pre_blind, va_recv hK hP (ci := 8) (q0 := 11) rfl rfl, pre_of hPc hKc hDc hN⟩ rfl rfl hl.1 rfl (lv_room (Nat.le_of_ble_eq_true rfl)) dX11_show_26 ⟨(Nat.le_of_ble_eq_true rfl), (Nat.le_of_ble_eq_true rfl)⟩) hS (fun q _ h => hFc q h) hFc (fun r7 u t H locs ht hvm hq hB hz1 hk1 hS9 => ?_)
    obtain ⟨z8, z9, z10, f11, f12⟩ := u
    obtain ⟨hP1, hD1⟩ := hB
    rw [ht] at hP1
    obtain ⟨hP9, hD9⟩ := va_join (wr := [(h_vrs, .inl (cy_vrs, 32, .inl f_vrs)), (h_mny, .inl (cy_mny, 32, .inl f_mny))]) (w1 := [(h_mm, .inr (8, (mo158 vq6 (.ref h_nv) (.ref h_nn) (.ref h_na) (.ref h_nb) (.ref h_nc) (.ref h_let) (.ref h_isn) (.ref h_tem) (.ref h_out) (.int z8) (.ref h_wri) (.int z9) (.int z10)))), (h_wri, .inl (cy_wri, 1000, .inl f11)), (h_let, .inl (cy_let, 256, .inl f_let)), (h_nv, .inl (cy_nv, 8000, .inl f_nv)), (h_nn, .inl (cy_nn, 8000, .inr (.inl f_nn))), (h_na, .inl (cy_na, 8000, .inl f_na)), (h_nb, .inl (cy_nb, 8000, .inl f_nb)), (h_nc, .inl (cy_nc, 8000, .inl f_nc)), (h_isn, .inl (cy_isn, 192, .inl f_isn)), (h_tem, .inl (cy_tem, 192, .inl f_tem)), (h_out, .inl (cy_out, 1000, .inl f12))]) hP hD [11, 0, 1, 2, 3, 4, 5, 6, 7, 8, 9] [10, 12] rfl rfl (by decide) (by decide) hk1 hFc hP1 hD1
    clear hP hD hS hPc hDc hKc hFc hP1 hD1 hk1 hz1 ht hvm
    have hP : va_P (dC, dI) cls [(h_vrs, .inl (cy_vrs, 32, .inl f_vrs)), (h_mny, .inl (cy_mny, 32, .inl f_mny)), (h_mm, .inr (8, (mo158 vq6 (.ref h_nv) (.ref h_nn) (.ref h_na) (.ref h_nb) (.ref h_nc) (.ref h_let) (.ref h_isn) (.ref h_tem) (.ref h_out) (.int z8) (.ref h_wri) (.int z9) (.int z10)))), (h_wri, .inl (cy_wri, 1000, .inl f11)), (h_let, .inl (cy_let, 256, .inl f_let)), (h_nv, .inl (cy_nv, 8000, .inl f_nv)), (h_nn, .inl (cy_nn, 8000, .inr (.inl f_nn))), (h_na, .inl (cy_na, 8000, .inl f_na)), (h_nb, .inl (cy_nb, 8000, .inl f_nb)), (h_nc, .inl (cy_nc, 8000, .inl f_nc)), (h_isn, .inl (cy_isn, 192, .inl f_isn)), (h_tem, .inl (cy_tem, 192, .inl f_tem)), (h_out, .inl (cy_out, 1000, .inl f12))] H := hP9
    have hD : va_D A [(h_vrs, .inl (cy_vrs, 32, .inl f_vrs)), (h_mny, .inl (cy_mny, 32, .inl f_mny)), (h_mm, .inr (8, (mo158 vq6 (.ref h_nv) (.ref h_nn) (.ref h_na) (.ref h_nb) (.ref h_nc) (.ref h_let) (.ref h_isn) (.ref h_tem) (.ref h_out) (.int z8) (.ref h_wri) (.int z9) (.int z10)))), (h_wri, .inl (cy_wri, 1000, .inl f11)), (h_let, .inl (cy_let, 256, .inl f_let)), (h_nv, .inl (cy_nv, 8000, .inl f_nv)), (h_nn, .inl (cy_nn, 8000, .inr (.inl f_nn))), (h_na, .inl (cy_na, 8000, .inl f_na)), (h_nb, .inl (cy_nb, 8000, .inl f_nb)), (h_nc, .inl (cy_nc, 8000, .inl f_nc)), (h_isn, .inl (cy_isn, 192, .inl f_isn)), (h_tem, .inl (cy_tem, 192, .inl f_tem)), (h_out, .inl (cy_out, 1000, .inl f12))] := hD9
    have hS := hS9
    clear hP9 hD9 hS9
    rw [evq6] at hP hD
    replace hP : va_P (dC, dI) cls [(h_vrs, .inl (cy_vrs, 32, .inl f_vrs)), (h_mny, .inl (cy_mny, 32, .inl f_mny)), (h_mm, .inr (8, (mo161 v_mm (.int 0) (.ref h_nv) (.ref h_nn) (.ref h_na) (.ref h_nb) (.ref h_nc) (.int x_mm_clauses) (.ref h_mny) (.ref h_vrs) (.ref h_let) (.ref h_isn) (.ref h_tem) (.ref h_out) (.int z8) (.ref h_wri) (.int z9) (.int z10)))), (h_wri, .inl (cy_wri, 1000, .inl f11)), (h_let, .inl (cy_let, 256, .inl f_let)), (h_nv, .inl (cy_nv, 8000, .inl f_nv)), (h_nn, .inl (cy_nn, 8000, .inr (.inl f_nn))), (h_na, .inl (cy_na, 8000, .inl f_na)), (h_nb, .inl (cy_nb, 8000, .inl f_nb)), (h_nc, .inl (cy_nc, 8000, .inl f_nc)), (h_isn, .inl (cy_isn, 192, .inl f_isn)), (h_tem, .inl (cy_tem, 192, .inl f_tem)), (h_out, .inl (cy_out, 1000, .inl f12))] H := hP
    replace hD : va_D A [(h_vrs, .inl (cy_vrs, 32, .inl f_vrs)), (h_mny, .inl (cy_mny, 32, .inl f_mny)), (h_mm, .inr (8, (mo161 v_mm (.int 0) (.ref h_nv) (.ref h_nn) (.ref h_na) (.ref h_nb) (.ref h_nc) (.int x_mm_clauses) (.ref h_mny) (.ref h_vrs) (.ref h_let) (.ref h_isn) (.ref h_tem) (.ref h_out) (.int z8) (.ref h_wri) (.int z9) (.int z10)))), (h_wri, .inl (cy_wri, 1000, .inl f11)), (h_let, .inl (cy_let, 256, .inl f_let)), (h_nv, .inl (cy_nv, 8000, .inl f_nv)), (h_nn, .inl (cy_nn, 8000, .inr (.inl f_nn))), (h_na, .inl (cy_na, 8000, .inl f_na)), (h_nb, .inl (cy_nb, 8000, .inl f_nb)), (h_nc, .inl (cy_nc, 8000, .inl f_nc)), (h_isn, .inl (cy_isn, 192, .inl f_isn)), (h_tem, .inl (cy_tem, 192, .inl f_tem)), (h_out, .inl (cy_out, 1000, .inl f12))] := hD
    clear evq6 
    obtain ⟨k13, k14, k15, k16⟩ := hq
    replace k13 : 0 ≤ ((z8)).toInt ∧ ((z8)).toInt ≤ 1000 := k13
    replace k14 : 0 ≤ ((z9)).toInt ∧ ((z9)).toInt ≤ 1000 := k14
    replace k15 : 0 ≤ ((z10)).toInt ∧ ((z10)).toInt ≤ 998 := k15
    replace k16 : ((r7)).toInt = (f_isn ((r3)).toInt.toNat).toInt + lnX (nlR 14) (RVW f_nv f_nn f_na f_nb f_nc) 7 (f_tem ((r3)).toInt.toNat).toInt.toNat := k16
    have sv9 : SHV (nlR 14) (RVW f_nv f_nn f_na f_nb f_nc) (RLX 0 f_mny f_vrs f_isn f_tem) (x_mm_clauses).toInt (p1).toInt (p2).toInt (r7).toInt := Or.inr ⟨⟨by omega, by omega, by rw [em9]; omega⟩, by rw [sg9, ts9]; omega⟩
    refine lv_goto (tgt := 33) hx hb dX11_show_29 (by decide) ?_
    replace hP : va_P (dC, dI) cls [(h_mm, .inr (8, (mo161 v_mm (.int 0) (.ref h_nv) (.ref h_nn) (.ref h_na) (.ref h_nb) (.ref h_nc) (.int x_mm_clauses) (.ref h_mny) (.ref h_vrs) (.ref h_let) (.ref h_isn) (.ref h_tem) (.ref h_out) (.int z8) (.ref h_wri) (.int z9) (.int z10)))), (h_wri, .inl (cy_wri, 1000, .inl f11)), (h_let, .inl (cy_let, 256, .inl f_let)), (h_nv, .inl (cy_nv, 8000, .inl f_nv)), (h_nn, .inl (cy_nn, 8000, .inr (.inl f_nn))), (h_na, .inl (cy_na, 8000, .inl f_na)), (h_nb, .inl (cy_nb, 8000, .inl f_nb)), (h_nc, .inl (cy_nc, 8000, .inl f_nc)), (h_isn, .inl (cy_isn, 192, .inl f_isn)), (h_tem, .inl (cy_tem, 192, .inl f_tem)), (h_out, .inl (cy_out, 1000, .inl f12)), (h_mny, .inl (cy_mny, 32, .inl f_mny)), (h_vrs, .inl (cy_vrs, 32, .inl f_vrs))] H := hP.sub [2, 3, 4, 5, 6, 7, 8, 9, 10, 11, 12, 1, 0] rfl
    replace hD : va_D A [(h_mm, .inr (8, (mo161 v_mm (.int 0) (.ref h_nv) (.ref h_nn) (.ref h_na) (.ref h_nb) (.ref h_nc) (.int x_mm_clauses) (.ref h_mny) (.ref h_vrs) (.ref h_let) (.ref h_isn) (.ref h_tem) (.ref h_out) (.int z8) (.ref h_wri) (.int z9) (.int z10)))), (h_wri, .inl (cy_wri, 1000, .inl f11)), (h_let, .inl (cy_let, 256, .inl f_let)), (h_nv, .inl (cy_nv, 8000, .inl f_nv)), (h_nn, .inl (cy_nn, 8000, .inr (.inl f_nn))), (h_na, .inl (cy_na, 8000, .inl f_na)), (h_nb, .inl (cy_nb, 8000, .inl f_nb)), (h_nc, .inl (cy_nc, 8000, .inl f_nc)), (h_isn, .inl (cy_isn, 192, .inl f_isn)), (h_tem, .inl (cy_tem, 192, .inl f_tem)), (h_out, .inl (cy_out, 1000, .inl f12)), (h_mny, .inl (cy_mny, 32, .inl f_mny)), (h_vrs, .inl (cy_vrs, 32, .inl f_vrs))] := hD.sub [2, 3, 4, 5, 6, 7, 8, 9, 10, 11, 12, 1, 0] (by decide) rfl
    refine W.widen (k := 0) (n := 0) (Nat.le_of_ble_eq_true rfl) (Nat.le_of_ble_eq_true rfl) ?_
    have cst0 : (0 : Int32).toInt = 0 := by decide
    have w17 : 0 ≤ ((z8)).toInt ∧ ((z8)).toInt ≤ 1000 := by first | exact k13 | omega
    have w18 : 0 ≤ ((z9)).toInt ∧ ((z9)).toInt ≤ 1000 := by first | exact k14 | omega
    have w19 : 0 ≤ ((z10)).toInt ∧ ((z10)).toInt ≤ 998 := by first | exact k15 | omega
    have w20 : SHV (nlR 14) (RVW f_nv f_nn f_na f_nb f_nc) (RLX 0 f_mny f_vrs f_isn f_tem) (x_mm_clauses).toInt (p1).toInt (p2).toInt ((r7 : Int32)).toInt := sv9
    exact W.iret (v := r7) hx hb hr (fun t ht hW => ⟨⟨r7, (0, z8, z9, z10, f11, f12), rfl, ⟨w17, w18, w19, w20⟩, by rw [ht]; exact hP, hD⟩, hS.F ht⟩) hS.2.2 dX11_show_33
  · replace hq : (((p1)).toInt < 0 ∨ ((x_mm_clauses)).toInt ≤ ((p1)).toInt ∨ ((p2)).toInt < 0 ∨ (f_mny (Int32.toNatClampNeg (p1))).toInt ≤ ((p2)).toInt) := hq
    refine lv_if_eq (tgt := 32) hx hb dX11_show_11 (by decide) (fun _ => ?_) (fun c9 => absurd c9 (by decide))
    refine lv_iconst (v := (-1)) hx hb dX11_show_32 (by decide) ?_
    replace hP : va_P (dC, dI) cls [(h_mm, .inr (8, (mo161 v_mm (.int 0) (.ref h_nv) (.ref h_nn) (.ref h_na) (.ref h_nb) (.ref h_nc) (.int x_mm_clauses) (.ref h_mny) (.ref h_vrs) (.ref h_let) (.ref h_isn) (.ref h_tem) (.ref h_out) (.int x_mm_outs) (.ref h_wri) (.int x_mm_writes) (.int x_mm_room)))), (h_wri, .inl (cy_wri, 1000, .inl f_wri)), (h_let, .inl (cy_let, 256, .inl f_let)), (h_nv, .inl (cy_nv, 8000, .inl f_nv)), (h_nn, .inl (cy_nn, 8000, .inr (.inl f_nn))), (h_na, .inl (cy_na, 8000, .inl f_na)), (h_nb, .inl (cy_nb, 8000, .inl f_nb)), (h_nc, .inl (cy_nc, 8000, .inl f_nc)), (h_isn, .inl (cy_isn, 192, .inl f_isn)), (h_tem, .inl (cy_tem, 192, .inl f_tem)), (h_out, .inl (cy_out, 1000, .inl f_out)), (h_mny, .inl (cy_mny, 32, .inl f_mny)), (h_vrs, .inl (cy_vrs, 32, .inl f_vrs))] H := hP.sub [11, 0, 1, 2, 3, 4, 5, 6, 7, 8, 9, 12, 10] rfl
    replace hD : va_D A [(h_mm, .inr (8, (mo161 v_mm (.int 0) (.ref h_nv) (.ref h_nn) (.ref h_na) (.ref h_nb) (.ref h_nc) (.int x_mm_clauses) (.ref h_mny) (.ref h_vrs) (.ref h_let) (.ref h_isn) (.ref h_tem) (.ref h_out) (.int x_mm_outs) (.ref h_wri) (.int x_mm_writes) (.int x_mm_room)))), (h_wri, .inl (cy_wri, 1000, .inl f_wri)), (h_let, .inl (cy_let, 256, .inl f_let)), (h_nv, .inl (cy_nv, 8000, .inl f_nv)), (h_nn, .inl (cy_nn, 8000, .inr (.inl f_nn))), (h_na, .inl (cy_na, 8000, .inl f_na)), (h_nb, .inl (cy_nb, 8000, .inl f_nb)), (h_nc, .inl (cy_nc, 8000, .inl f_nc)), (h_isn, .inl (cy_isn, 192, .inl f_isn)), (h_tem, .inl (cy_tem, 192, .inl f_tem)), (h_out, .inl (cy_out, 1000, .inl f_out)), (h_mny, .inl (cy_mny, 32, .inl f_mny)), (h_vrs, .inl (cy_vrs, 32, .inl f_vrs))] := hD.sub [11, 0, 1, 2, 3, 4, 5, 6, 7, 8, 9, 12, 10] (by decide) rfl
    refine W.widen (k := 0) (n := 0) (Nat.le_of_ble_eq_true rfl) (Nat.le_of_ble_eq_true rfl) ?_
    have cstm1 : ((-1) : Int32).toInt = -1 := by decide
    have cst0 : (0 : Int32).toInt = 0 := by decide
    have w21 : 0 ≤ ((x_mm_outs)).toInt ∧ ((x_mm_outs)).toInt ≤ 1000 := by first | exact hx_mm_outs | omega
    have w22 : 0 ≤ ((x_mm_writes)).toInt ∧ ((x_mm_writes)).toInt ≤ 1000 := by first | exact hx_mm_writes | omega
    have w23 : 0 ≤ ((x_mm_room)).toInt ∧ ((x_mm_room)).toInt ≤ 998 := by first | exact hx_mm_room | omega
    have w24 : SHV (nlR 14) (RVW f_nv f_nn f_na f_nb f_nc) (RLX 0 f_mny f_vrs f_isn f_tem) (x_mm_clauses).toInt (p1).toInt (p2).toInt (((-1) : Int32)).toInt := (Or.inl ⟨fun q9 => by have cl9 := clamp_nat (i := p1) (by omega); rw [cl9] at hq; have em9 : ((RLX 0 f_mny f_vrs f_isn f_tem)).1 (p1).toInt.toNat = (f_mny (p1).toInt.toNat).toInt := (by show (f_mny (0 + _)).toInt = _; rw [Nat.zero_add]); rw [em9] at q9; omega, by decide⟩)
    exact W.iret (v := (-1)) hx hb hr (fun t ht hW => ⟨⟨(-1), (0, x_mm_outs, x_mm_writes, x_mm_room, f_wri, f_out), rfl, ⟨w21, w22, w23, w24⟩, by rw [ht]; exact hP, hD⟩, hS.F ht⟩) hS.2.2 dX11_show_33

set_option maxHeartbeats 8000000 in
set_option maxRecDepth 100000 in
theorem c_X11_shown (l : Launch) (dC : Nat → ClassId) (dI : Nat → Nat → Nat) (sz : Nat) (h_mm : Nat) (h_wri : Nat) (h_let : Nat) (h_nv : Nat) (h_nn : Nat) (h_na : Nat) (h_nb : Nat) (h_nc : Nat) (h_bto : Nat) (h_bin : Nat) (h_cof : Nat) (h_isn : Nat) (h_tem : Nat) (h_out : Nat) (h_mny : Nat) (v_mm : Nat → Value) (x_mm_clauses : Int32) (x_mm_goneTo : Int32) (x_mm_goneIn : Int32) (x_mm_instances : Int32) (x_mm_isProof : Int32) (x_mm_outs : Int32) (x_mm_writes : Int32) (x_mm_room : Int32) (cy_wri : ClassId) (f_wri : Nat → Int32) (cy_let : ClassId) (f_let : Nat → Int32) (cy_nv : ClassId) (f_nv : Nat → Int32) (cy_nn : ClassId) (f_nn : Nat → Int64) (cy_na : ClassId) (f_na : Nat → Int32) (cy_nb : ClassId) (f_nb : Nat → Int32) (cy_nc : ClassId) (f_nc : Nat → Int32) (cy_bto : ClassId) (f_bto : Nat → Int32) (cy_bin : ClassId) (f_bin : Nat → Int32) (cy_cof : ClassId) (f_cof : Nat → Int32) (cy_isn : ClassId) (f_isn : Nat → Int32) (cy_tem : ClassId) (f_tem : Nat → Int32) (cy_out : ClassId) (f_out : Nat → Int32) (cy_mny : ClassId) (f_mny : Nat → Int32) (p1 : Int32) (p2 : Int32) (N : Int) (hz : Nat → Nat) (hx_mm_clauses : 0 ≤ (x_mm_clauses).toInt ∧ (x_mm_clauses).toInt ≤ 16) (hx_mm_goneTo : 0 ≤ (x_mm_goneTo).toInt ∧ (x_mm_goneTo).toInt ≤ 7999) (hx_mm_goneIn : 0 ≤ (x_mm_goneIn).toInt ∧ (x_mm_goneIn).toInt ≤ 31) (hx_mm_instances : 0 ≤ (x_mm_instances).toInt ∧ (x_mm_instances).toInt ≤ 30) (hx_mm_isProof : 0 ≤ (x_mm_isProof).toInt ∧ (x_mm_isProof).toInt ≤ 1) (hx_mm_outs : 0 ≤ (x_mm_outs).toInt ∧ (x_mm_outs).toInt ≤ 1000) (hx_mm_writes : 0 ≤ (x_mm_writes).toInt ∧ (x_mm_writes).toInt ≤ 1000) (hx_mm_room : 0 ≤ (x_mm_room).toInt ∧ (x_mm_room).toInt ≤ 998) (hf_nv : Rg (-1) 7 f_nv) (hf_na : Rg (-1) 7999 f_na) (hf_nb : Rg (-1) 7999 f_nb) (hf_nc : Rg (-1) 7999 f_nc) (hf_bto : Rg (-1) 7999 f_bto) (hf_bin : Rg 0 31 f_bin) (hf_cof : Rg 0 15 f_cof) (hf_isn : Rg 0 1 f_isn) (hf_tem : Rg 0 7999 f_tem) (hf_mny : Rg 0 6 f_mny) (q0 : N ≤ 8000) (hn_tms : TM 0 N hz 0 (x_mm_clauses).toInt f_mny f_tem) (hn_prf : (x_mm_isProof).toInt = 0 ∨ (BI 0 29 N hz f_nv f_na f_nb f_nc f_bto f_bin ∧ INS (x_mm_instances).toInt (x_mm_clauses).toInt f_cof)) : Met l yX11_shown (Ws yX11_shown cX11_shown 3 (some .int)) (({ frames := 1561, cells := 0, slots := 0, locals := 40524 } : Room)) (PRE (dC, dI) cls [(cy_wri, .int), (cy_let, .int), (cy_nv, .int), (cy_nn, .long), (cy_na, .int), (cy_nb, .int), (cy_nc, .int), (cy_bto, .int), (cy_bin, .int), (cy_cof, .int), (cy_isn, .boolean), (cy_tem, .int), (cy_out, .int), (cy_mny, .int)] [(h_mm, .inr (8, (mo162 v_mm (.ref h_nv) (.ref h_nn) (.ref h_na) (.ref h_nb) (.ref h_nc) (.int x_mm_clauses) (.ref h_mny) (.ref h_let) (.ref h_isn) (.ref h_tem) (.ref h_bto) (.ref h_bin) (.int x_mm_goneTo) (.int x_mm_goneIn) (.int x_mm_instances) (.ref h_cof) (.int x_mm_isProof) (.ref h_out) (.int x_mm_outs) (.ref h_wri) (.int x_mm_writes) (.int x_mm_room)))), (h_wri, .inl (cy_wri, 1000, .inl f_wri)), (h_let, .inl (cy_let, 256, .inl f_let)), (h_nv, .inl (cy_nv, 8000, .inl f_nv)), (h_nn, .inl (cy_nn, 8000, .inr (.inl f_nn))), (h_na, .inl (cy_na, 8000, .inl f_na)), (h_nb, .inl (cy_nb, 8000, .inl f_nb)), (h_nc, .inl (cy_nc, 8000, .inl f_nc)), (h_bto, .inl (cy_bto, 256, .inl f_bto)), (h_bin, .inl (cy_bin, 256, .inl f_bin)), (h_cof, .inl (cy_cof, 31, .inl f_cof)), (h_isn, .inl (cy_isn, 192, .inl f_isn)), (h_tem, .inl (cy_tem, 192, .inl f_tem)), (h_out, .inl (cy_out, 1000, .inl f_out)), (h_mny, .inl (cy_mny, 32, .inl f_mny))] sz [.ref h_mm, .int p1, .int p2]) (va_Qi (fun (r : Int32) (u : (Int32) × (Int32) × (Int32) × (Int32) × (Int32) × (Int32) × (Nat → Int32) × (Nat → Int32)) => (0 ≤ (u.2.1).toInt ∧ (u.2.1).toInt ≤ 7999) ∧ (0 ≤ (u.2.2.1).toInt ∧ (u.2.2.1).toInt ≤ 31) ∧ (0 ≤ (u.2.2.2.1).toInt ∧ (u.2.2.2.1).toInt ≤ 1000) ∧ (0 ≤ (u.2.2.2.2.1).toInt ∧ (u.2.2.2.2.1).toInt ≤ 1000) ∧ (0 ≤ (u.2.2.2.2.2.1).toInt ∧ (u.2.2.2.2.2.1).toInt ≤ 998)) (fun (u : (Int32) × (Int32) × (Int32) × (Int32) × (Int32) × (Int32) × (Nat → Int32) × (Nat → Int32)) (t : State) => va_P (dC, dI) cls [(h_mm, .inr (8, (mo163 v_mm (.int u.1) (.ref h_nv) (.ref h_nn) (.ref h_na) (.ref h_nb) (.ref h_nc) (.int x_mm_clauses) (.ref h_mny) (.ref h_let) (.ref h_isn) (.ref h_tem) (.ref h_bto) (.ref h_bin) (.int u.2.1) (.int u.2.2.1) (.int x_mm_instances) (.ref h_cof) (.int x_mm_isProof) (.ref h_out) (.int u.2.2.2.1) (.ref h_wri) (.int u.2.2.2.2.1) (.int u.2.2.2.2.2.1)))), (h_wri, .inl (cy_wri, 1000, .inl u.2.2.2.2.2.2.1)), (h_let, .inl (cy_let, 256, .inl f_let)), (h_nv, .inl (cy_nv, 8000, .inl f_nv)), (h_nn, .inl (cy_nn, 8000, .inr (.inl f_nn))), (h_na, .inl (cy_na, 8000, .inl f_na)), (h_nb, .inl (cy_nb, 8000, .inl f_nb)), (h_nc, .inl (cy_nc, 8000, .inl f_nc)), (h_bto, .inl (cy_bto, 256, .inl f_bto)), (h_bin, .inl (cy_bin, 256, .inl f_bin)), (h_cof, .inl (cy_cof, 31, .inl f_cof)), (h_isn, .inl (cy_isn, 192, .inl f_isn)), (h_tem, .inl (cy_tem, 192, .inl f_tem)), (h_out, .inl (cy_out, 1000, .inl u.2.2.2.2.2.2.2)), (h_mny, .inl (cy_mny, 32, .inl f_mny))] t.heap ∧ va_D (va_A [(h_mm, .inr (8, (mo162 v_mm (.ref h_nv) (.ref h_nn) (.ref h_na) (.ref h_nb) (.ref h_nc) (.int x_mm_clauses) (.ref h_mny) (.ref h_let) (.ref h_isn) (.ref h_tem) (.ref h_bto) (.ref h_bin) (.int x_mm_goneTo) (.int x_mm_goneIn) (.int x_mm_instances) (.ref h_cof) (.int x_mm_isProof) (.ref h_out) (.int x_mm_outs) (.ref h_wri) (.int x_mm_writes) (.int x_mm_room)))), (h_wri, .inl (cy_wri, 1000, .inl f_wri)), (h_let, .inl (cy_let, 256, .inl f_let)), (h_nv, .inl (cy_nv, 8000, .inl f_nv)), (h_nn, .inl (cy_nn, 8000, .inr (.inl f_nn))), (h_na, .inl (cy_na, 8000, .inl f_na)), (h_nb, .inl (cy_nb, 8000, .inl f_nb)), (h_nc, .inl (cy_nc, 8000, .inl f_nc)), (h_bto, .inl (cy_bto, 256, .inl f_bto)), (h_bin, .inl (cy_bin, 256, .inl f_bin)), (h_cof, .inl (cy_cof, 31, .inl f_cof)), (h_isn, .inl (cy_isn, 192, .inl f_isn)), (h_tem, .inl (cy_tem, 192, .inl f_tem)), (h_out, .inl (cy_out, 1000, .inl f_out)), (h_mny, .inl (cy_mny, 32, .inl f_mny))] sz) [(h_mm, .inr (8, (mo163 v_mm (.int u.1) (.ref h_nv) (.ref h_nn) (.ref h_na) (.ref h_nb) (.ref h_nc) (.int x_mm_clauses) (.ref h_mny) (.ref h_let) (.ref h_isn) (.ref h_tem) (.ref h_bto) (.ref h_bin) (.int u.2.1) (.int u.2.2.1) (.int x_mm_instances) (.ref h_cof) (.int x_mm_isProof) (.ref h_out) (.int u.2.2.2.1) (.ref h_wri) (.int u.2.2.2.2.1) (.int u.2.2.2.2.2.1)))), (h_wri, .inl (cy_wri, 1000, .inl u.2.2.2.2.2.2.1)), (h_let, .inl (cy_let, 256, .inl f_let)), (h_nv, .inl (cy_nv, 8000, .inl f_nv)), (h_nn, .inl (cy_nn, 8000, .inr (.inl f_nn))), (h_na, .inl (cy_na, 8000, .inl f_na)), (h_nb, .inl (cy_nb, 8000, .inl f_nb)), (h_nc, .inl (cy_nc, 8000, .inl f_nc)), (h_bto, .inl (cy_bto, 256, .inl f_bto)), (h_bin, .inl (cy_bin, 256, .inl f_bin)), (h_cof, .inl (cy_cof, 31, .inl f_cof)), (h_isn, .inl (cy_isn, 192, .inl f_isn)), (h_tem, .inl (cy_tem, 192, .inl f_tem)), (h_out, .inl (cy_out, 1000, .inl u.2.2.2.2.2.2.2)), (h_mny, .inl (cy_mny, 32, .inl f_mny))]) (va_A [(h_mm, .inr (8, (mo162 v_mm (.ref h_nv) (.ref h_nn) (.ref h_na) (.ref h_nb) (.ref h_nc) (.int x_mm_clauses) (.ref h_mny) (.ref h_let) (.ref h_isn) (.ref h_tem) (.ref h_bto) (.ref h_bin) (.int x_mm_goneTo) (.int x_mm_goneIn) (.int x_mm_instances) (.ref h_cof) (.int x_mm_isProof) (.ref h_out) (.int x_mm_outs) (.ref h_wri) (.int x_mm_writes) (.int x_mm_room)))), (h_wri, .inl (cy_wri, 1000, .inl f_wri)), (h_let, .inl (cy_let, 256, .inl f_let)), (h_nv, .inl (cy_nv, 8000, .inl f_nv)), (h_nn, .inl (cy_nn, 8000, .inr (.inl f_nn))), (h_na, .inl (cy_na, 8000, .inl f_na)), (h_nb, .inl (cy_nb, 8000, .inl f_nb)), (h_nc, .inl (cy_nc, 8000, .inl f_nc)), (h_bto, .inl (cy_bto, 256, .inl f_bto)), (h_bin, .inl (cy_bin, 256, .inl f_bin)), (h_cof, .inl (cy_cof, 31, .inl f_cof)), (h_isn, .inl (cy_isn, 192, .inl f_isn)), (h_tem, .inl (cy_tem, 192, .inl f_tem)), (h_out, .inl (cy_out, 1000, .inl f_out)), (h_mny, .inl (cy_mny, 32, .inl f_mny))] sz)) 0 0 (va_A [(h_mm, .inr (8, (mo162 v_mm (.ref h_nv) (.ref h_nn) (.ref h_na) (.ref h_nb) (.ref h_nc) (.int x_mm_clauses) (.ref h_mny) (.ref h_let) (.ref h_isn) (.ref h_tem) (.ref h_bto) (.ref h_bin) (.int x_mm_goneTo) (.int x_mm_goneIn) (.int x_mm_instances) (.ref h_cof) (.int x_mm_isProof) (.ref h_out) (.int x_mm_outs) (.ref h_wri) (.int x_mm_writes) (.int x_mm_room)))), (h_wri, .inl (cy_wri, 1000, .inl f_wri)), (h_let, .inl (cy_let, 256, .inl f_let)), (h_nv, .inl (cy_nv, 8000, .inl f_nv)), (h_nn, .inl (cy_nn, 8000, .inr (.inl f_nn))), (h_na, .inl (cy_na, 8000, .inl f_na)), (h_nb, .inl (cy_nb, 8000, .inl f_nb)), (h_nc, .inl (cy_nc, 8000, .inl f_nc)), (h_bto, .inl (cy_bto, 256, .inl f_bto)), (h_bin, .inl (cy_bin, 256, .inl f_bin)), (h_cof, .inl (cy_cof, 31, .inl f_cof)), (h_isn, .inl (cy_isn, 192, .inl f_isn)), (h_tem, .inl (cy_tem, 192, .inl f_tem)), (h_out, .inl (cy_out, 1000, .inl f_out)), (h_mny, .inl (cy_mny, 32, .inl f_mny))] sz) := by
  refine Met.ofW (cc := cX11_shown) (maxL := 3) (ret := (some .int)) (by decide) rfl ?_
  intro p e s m args below meth c s₁ B hml hv
  obtain ⟨rfl, hsz, hP, hK, hD0, hN⟩ := hv
  have hx := B.exec
  have hb := B.bytes
  have hr := B.returns
  have hts := atoms_spec (ws := Ws yX11_shown cX11_shown 3 (some .int)) B.pre
  have hT : ∀ w ∈ WALL, w ∈ Ws yX11_shown cX11_shown 3 (some .int) := fun w h => List.mem_cons_of_mem _ h
  have hw := fun w (h : w ∈ WALL) => hts w (hT w h)
  have hown : s.vm.findClass RX11 = some m.cls := findClass_of_methodNamed B.named
  have hlocks := B.notSynchronized
  subst hsz
  have hD := hD0.self (sz := s.heap.size)
  generalize hAe : va_A [(h_mm, .inr (8, (mo162 v_mm (.ref h_nv) (.ref h_nn) (.ref h_na) (.ref h_nb) (.ref h_nc) (.int x_mm_clauses) (.ref h_mny) (.ref h_let) (.ref h_isn) (.ref h_tem) (.ref h_bto) (.ref h_bin) (.int x_mm_goneTo) (.int x_mm_goneIn) (.int x_mm_instances) (.ref h_cof) (.int x_mm_isProof) (.ref h_out) (.int x_mm_outs) (.ref h_wri) (.int x_mm_writes) (.int x_mm_room)))), (h_wri, .inl (cy_wri, 1000, .inl f_wri)), (h_let, .inl (cy_let, 256, .inl f_let)), (h_nv, .inl (cy_nv, 8000, .inl f_nv)), (h_nn, .inl (cy_nn, 8000, .inr (.inl f_nn))), (h_na, .inl (cy_na, 8000, .inl f_na)), (h_nb, .inl (cy_nb, 8000, .inl f_nb)), (h_nc, .inl (cy_nc, 8000, .inl f_nc)), (h_bto, .inl (cy_bto, 256, .inl f_bto)), (h_bin, .inl (cy_bin, 256, .inl f_bin)), (h_cof, .inl (cy_cof, 31, .inl f_cof)), (h_isn, .inl (cy_isn, 192, .inl f_isn)), (h_tem, .inl (cy_tem, 192, .inl f_tem)), (h_out, .inl (cy_out, 1000, .inl f_out)), (h_mny, .inl (cy_mny, 32, .inl f_mny))] s.heap.size = A at hD ⊢
  have hA : ∀ q : Nat, s.heap.size ≤ q → A q := fun q h => by rw [← hAe]; exact Or.inr h
  have hS : va_S A s.heap s.heap [] := va_S.rf
  have hl := lv_entry ([.ref h_mm, .int p1, .int p2]) (n := 3) (Nat.le_of_ble_eq_true rfl)
  rw [lg_entry_eq]
  generalize (lg_sl ([.ref h_mm, .int p1, .int p2]) ++ List.replicate (3 - (lg_sl ([.ref h_mm, .int p1, .int p2])).length) Slot.unset).toArray = ls at hl ⊢
  have hl : lv_has ls 3 [(0, .ref h_mm), (1, .int p1), (2, .int p2)] := hl
  refine lv_aload_n hx hb dX11_shown_0 rfl (lv_at hl 0 rfl) ?_
  refine lv_iconst (v := 0) hx hb dX11_shown_1 (by decide) ?_
  refine va_put (D := (dC, dI)) (ci := 8) (v := .int 0) (ty := tyX11 0) (C := RX11) (T := TX11) (N := 71) hx hb hw iwX11 tyX11 tyX11_ok nmX11 hown hK hP hD hS 0 rfl rfl 0 (by decide) (hw _ w_f_X11_1) (fun _ h9 => h9) rfl (tyX11_ok 0 (by decide)) rfl rfl (Nat.le_of_ble_eq_true rfl) dX11_shown_2 (fun H locs hP9 hD9 hS9 => ?_)
  clear hP hD hS
  have hP : va_P (dC, dI) cls [(h_mm, .inr (8, (mo163 v_mm (.int 0) (.ref h_nv) (.ref h_nn) (.ref h_na) (.ref h_nb) (.ref h_nc) (.int x_mm_clauses) (.ref h_mny) (.ref h_let) (.ref h_isn) (.ref h_tem) (.ref h_bto) (.ref h_bin) (.int x_mm_goneTo) (.int x_mm_goneIn) (.int x_mm_instances) (.ref h_cof) (.int x_mm_isProof) (.ref h_out) (.int x_mm_outs) (.ref h_wri) (.int x_mm_writes) (.int x_mm_room)))), (h_wri, .inl (cy_wri, 1000, .inl f_wri)), (h_let, .inl (cy_let, 256, .inl f_let)), (h_nv, .inl (cy_nv, 8000, .inl f_nv)), (h_nn, .inl (cy_nn, 8000, .inr (.inl f_nn))), (h_na, .inl (cy_na, 8000, .inl f_na)), (h_nb, .inl (cy_nb, 8000, .inl f_nb)), (h_nc, .inl (cy_nc, 8000, .inl f_nc)), (h_bto, .inl (cy_bto, 256, .inl f_bto)), (h_bin, .inl (cy_bin, 256, .inl f_bin)), (h_cof, .inl (cy_cof, 31, .inl f_cof)), (h_isn, .inl (cy_isn, 192, .inl f_isn)), (h_tem, .inl (cy_tem, 192, .inl f_tem)), (h_out, .inl (cy_out, 1000, .inl f_out)), (h_mny, .inl (cy_mny, 32, .inl f_mny))] H := hP9
  have hD : va_D A [(h_mm, .inr (8, (mo163 v_mm (.int 0) (.ref h_nv) (.ref h_nn) (.ref h_na) (.ref h_nb) (.ref h_nc) (.int x_mm_clauses) (.ref h_mny) (.ref h_let) (.ref h_isn) (.ref h_tem) (.ref h_bto) (.ref h_bin) (.int x_mm_goneTo) (.int x_mm_goneIn) (.int x_mm_instances) (.ref h_cof) (.int x_mm_isProof) (.ref h_out) (.int x_mm_outs) (.ref h_wri) (.int x_mm_writes) (.int x_mm_room)))), (h_wri, .inl (cy_wri, 1000, .inl f_wri)), (h_let, .inl (cy_let, 256, .inl f_let)), (h_nv, .inl (cy_nv, 8000, .inl f_nv)), (h_nn, .inl (cy_nn, 8000, .inr (.inl f_nn))), (h_na, .inl (cy_na, 8000, .inl f_na)), (h_nb, .inl (cy_nb, 8000, .inl f_nb)), (h_nc, .inl (cy_nc, 8000, .inl f_nc)), (h_bto, .inl (cy_bto, 256, .inl f_bto)), (h_bin, .inl (cy_bin, 256, .inl f_bin)), (h_cof, .inl (cy_cof, 31, .inl f_cof)), (h_isn, .inl (cy_isn, 192, .inl f_isn)), (h_tem, .inl (cy_tem, 192, .inl f_tem)), (h_out, .inl (cy_out, 1000, .inl f_out)), (h_mny, .inl (cy_mny, 32, .inl f_mny))] := hD9
  have hS := hS9
  clear hP9 hD9 hS9
  refine lv_aload_n hx hb dX11_shown_5 rfl (lv_at hl 0 rfl) ?_
  refine lv_iload_n hx hb dX11_shown_6 rfl (lv_at hl 1 rfl) ?_
  obtain ⟨vq1, evq1⟩ := mq163_115 v_mm (.int 0) (.ref h_nv) (.ref h_nn) (.ref h_na) (.ref h_nb) (.ref h_nc) (.int x_mm_clauses) (.ref h_mny) (.ref h_let) (.ref h_isn) (.ref h_tem) (.ref h_bto) (.ref h_bin) (.int x_mm_goneTo) (.int x_mm_goneIn) (.ref h_cof) (.ref h_out) (.int x_mm_outs) (.ref h_wri) (.int x_mm_writes) (.int x_mm_room)
  replace hP : va_P (dC, dI) cls [(h_mm, .inr (8, (mo115 vq1 (.int x_mm_instances) (.int x_mm_isProof)))), (h_wri, .inl (cy_wri, 1000, .inl f_wri)), (h_let, .inl (cy_let, 256, .inl f_let)), (h_nv, .inl (cy_nv, 8000, .inl f_nv)), (h_nn, .inl (cy_nn, 8000, .inr (.inl f_nn))), (h_na, .inl (cy_na, 8000, .inl f_na)), (h_nb, .inl (cy_nb, 8000, .inl f_nb)), (h_nc, .inl (cy_nc, 8000, .inl f_nc)), (h_bto, .inl (cy_bto, 256, .inl f_bto)), (h_bin, .inl (cy_bin, 256, .inl f_bin)), (h_cof, .inl (cy_cof, 31, .inl f_cof)), (h_isn, .inl (cy_isn, 192, .inl f_isn)), (h_tem, .inl (cy_tem, 192, .inl f_tem)), (h_out, .inl (cy_out, 1000, .inl f_out)), (h_mny, .inl (cy_mny, 32, .inl f_mny))] H := by rw [evq1]; exact hP
  replace hD : va_D A [(h_mm, .inr (8, (mo115 vq1 (.int x_mm_instances) (.int x_mm_isProof)))), (h_wri, .inl (cy_wri, 1000, .inl f_wri)), (h_let, .inl (cy_let, 256, .inl f_let)), (h_nv, .inl (cy_nv, 8000, .inl f_nv)), (h_nn, .inl (cy_nn, 8000, .inr (.inl f_nn))), (h_na, .inl (cy_na, 8000, .inl f_na)), (h_nb, .inl (cy_nb, 8000, .inl f_nb)), (h_nc, .inl (cy_nc, 8000, .inl f_nc)), (h_bto, .inl (cy_bto, 256, .inl f_bto)), (h_bin, .inl (cy_bin, 256, .inl f_bin)), (h_cof, .inl (cy_cof, 31, .inl f_cof)), (h_isn, .inl (cy_isn, 192, .inl f_isn)), (h_tem, .inl (cy_tem, 192, .inl f_tem)), (h_out, .inl (cy_out, 1000, .inl f_out)), (h_mny, .inl (cy_mny, 32, .inl f_mny))] := by rw [evq1]; exact hD
  have hPc := hP.sub (ws' := [(h_mm, .inr (8, (mo115 vq1 (.int x_mm_instances) (.int x_mm_isProof))))]) [0] rfl
  have hDc := hD.sub (ws' := [(h_mm, .inr (8, (mo115 vq1 (.int x_mm_instances) (.int x_mm_isProof))))]) [0] (by decide) rfl
  have hKc := hK.sub (tys' := []) [] rfl
  have hFc := va_free (wc := [(h_mm, .inr (8, (mo115 vq1 (.int x_mm_instances) (.int x_mm_isProof))))]) hD hS hA [0] rfl
  refine va_calli (va_runV (As := [.int p1]) (rest := []) ⟨hx, hb, hml, hown, hts⟩ (c_X11_isInstance l dC dI H.size h_mm vq1 x_mm_instances x_mm_isProof p1 (by first | exact hx_mm_instances | omega) (by first | exact hx_mm_isProof | omega)) (cwV 1 hts (gv hT w_m_X11_440 w_instanceMethod_X11_isInstance ws_sel_X11_isInstance w_ini_X11 w_code_X11_isInstance) rfl rfl rfl (by decide +kernel) ⟨(Nat.le_of_ble_eq_true rfl), (Nat.le_of_ble_eq_true rfl)⟩) ⟨pre_blind, va_recv hK hP (ci := 8) (q0 := 0) rfl rfl, pre_of hPc hKc hDc hN⟩ rfl rfl hl.1 rfl (lv_room (Nat.le_of_ble_eq_true rfl)) dX11_shown_7 ⟨(Nat.le_of_ble_eq_true rfl), (Nat.le_of_ble_eq_true rfl)⟩) hS (fun q _ h => hFc q h) hFc (fun r2 u t H locs ht hvm hq hB hz1 hk1 hS9 => ?_)
  obtain ⟨hP1, hD1⟩ := hB
  rw [ht] at hP1
  obtain ⟨hP9, hD9⟩ := va_join (wr := [(h_wri, .inl (cy_wri, 1000, .inl f_wri)), (h_let, .inl (cy_let, 256, .inl f_let)), (h_nv, .inl (cy_nv, 8000, .inl f_nv)), (h_nn, .inl (cy_nn, 8000, .inr (.inl f_nn))), (h_na, .inl (cy_na, 8000, .inl f_na)), (h_nb, .inl (cy_nb, 8000, .inl f_nb)), (h_nc, .inl (cy_nc, 8000, .inl f_nc)), (h_bto, .inl (cy_bto, 256, .inl f_bto)), (h_bin, .inl (cy_bin, 256, .inl f_bin)), (h_cof, .inl (cy_cof, 31, .inl f_cof)), (h_isn, .inl (cy_isn, 192, .inl f_isn)), (h_tem, .inl (cy_tem, 192, .inl f_tem)), (h_out, .inl (cy_out, 1000, .inl f_out)), (h_mny, .inl (cy_mny, 32, .inl f_mny))]) (w1 := [(h_mm, .inr (8, (mo115 vq1 (.int x_mm_instances) (.int x_mm_isProof))))]) hP hD [0] [1, 2, 3, 4, 5, 6, 7, 8, 9, 10, 11, 12, 13, 14] rfl rfl (by decide) (by decide) hk1 hFc hP1 hD1
  clear hP hD hS hPc hDc hKc hFc hP1 hD1 hk1 hz1 ht hvm
  have hP : va_P (dC, dI) cls [(h_wri, .inl (cy_wri, 1000, .inl f_wri)), (h_let, .inl (cy_let, 256, .inl f_let)), (h_nv, .inl (cy_nv, 8000, .inl f_nv)), (h_nn, .inl (cy_nn, 8000, .inr (.inl f_nn))), (h_na, .inl (cy_na, 8000, .inl f_na)), (h_nb, .inl (cy_nb, 8000, .inl f_nb)), (h_nc, .inl (cy_nc, 8000, .inl f_nc)), (h_bto, .inl (cy_bto, 256, .inl f_bto)), (h_bin, .inl (cy_bin, 256, .inl f_bin)), (h_cof, .inl (cy_cof, 31, .inl f_cof)), (h_isn, .inl (cy_isn, 192, .inl f_isn)), (h_tem, .inl (cy_tem, 192, .inl f_tem)), (h_out, .inl (cy_out, 1000, .inl f_out)), (h_mny, .inl (cy_mny, 32, .inl f_mny)), (h_mm, .inr (8, (mo115 vq1 (.int x_mm_instances) (.int x_mm_isProof))))] H := hP9
  have hD : va_D A [(h_wri, .inl (cy_wri, 1000, .inl f_wri)), (h_let, .inl (cy_let, 256, .inl f_let)), (h_nv, .inl (cy_nv, 8000, .inl f_nv)), (h_nn, .inl (cy_nn, 8000, .inr (.inl f_nn))), (h_na, .inl (cy_na, 8000, .inl f_na)), (h_nb, .inl (cy_nb, 8000, .inl f_nb)), (h_nc, .inl (cy_nc, 8000, .inl f_nc)), (h_bto, .inl (cy_bto, 256, .inl f_bto)), (h_bin, .inl (cy_bin, 256, .inl f_bin)), (h_cof, .inl (cy_cof, 31, .inl f_cof)), (h_isn, .inl (cy_isn, 192, .inl f_isn)), (h_tem, .inl (cy_tem, 192, .inl f_tem)), (h_out, .inl (cy_out, 1000, .inl f_out)), (h_mny, .inl (cy_mny, 32, .inl f_mny)), (h_mm, .inr (8, (mo115 vq1 (.int x_mm_instances) (.int x_mm_isProof))))] := hD9
  have hS := hS9
  clear hP9 hD9 hS9
  rw [evq1] at hP hD
  replace hP : va_P (dC, dI) cls [(h_wri, .inl (cy_wri, 1000, .inl f_wri)), (h_let, .inl (cy_let, 256, .inl f_let)), (h_nv, .inl (cy_nv, 8000, .inl f_nv)), (h_nn, .inl (cy_nn, 8000, .inr (.inl f_nn))), (h_na, .inl (cy_na, 8000, .inl f_na)), (h_nb, .inl (cy_nb, 8000, .inl f_nb)), (h_nc, .inl (cy_nc, 8000, .inl f_nc)), (h_bto, .inl (cy_bto, 256, .inl f_bto)), (h_bin, .inl (cy_bin, 256, .inl f_bin)), (h_cof, .inl (cy_cof, 31, .inl f_cof)), (h_isn, .inl (cy_isn, 192, .inl f_isn)), (h_tem, .inl (cy_tem, 192, .inl f_tem)), (h_out, .inl (cy_out, 1000, .inl f_out)), (h_mny, .inl (cy_mny, 32, .inl f_mny)), (h_mm, .inr (8, (mo163 v_mm (.int 0) (.ref h_nv) (.ref h_nn) (.ref h_na) (.ref h_nb) (.ref h_nc) (.int x_mm_clauses) (.ref h_mny) (.ref h_let) (.ref h_isn) (.ref h_tem) (.ref h_bto) (.ref h_bin) (.int x_mm_goneTo) (.int x_mm_goneIn) (.int x_mm_instances) (.ref h_cof) (.int x_mm_isProof) (.ref h_out) (.int x_mm_outs) (.ref h_wri) (.int x_mm_writes) (.int x_mm_room))))] H := hP
  replace hD : va_D A [(h_wri, .inl (cy_wri, 1000, .inl f_wri)), (h_let, .inl (cy_let, 256, .inl f_let)), (h_nv, .inl (cy_nv, 8000, .inl f_nv)), (h_nn, .inl (cy_nn, 8000, .inr (.inl f_nn))), (h_na, .inl (cy_na, 8000, .inl f_na)), (h_nb, .inl (cy_nb, 8000, .inl f_nb)), (h_nc, .inl (cy_nc, 8000, .inl f_nc)), (h_bto, .inl (cy_bto, 256, .inl f_bto)), (h_bin, .inl (cy_bin, 256, .inl f_bin)), (h_cof, .inl (cy_cof, 31, .inl f_cof)), (h_isn, .inl (cy_isn, 192, .inl f_isn)), (h_tem, .inl (cy_tem, 192, .inl f_tem)), (h_out, .inl (cy_out, 1000, .inl f_out)), (h_mny, .inl (cy_mny, 32, .inl f_mny)), (h_mm, .inr (8, (mo163 v_mm (.int 0) (.ref h_nv) (.ref h_nn) (.ref h_na) (.ref h_nb) (.ref h_nc) (.int x_mm_clauses) (.ref h_mny) (.ref h_let) (.ref h_isn) (.ref h_tem) (.ref h_bto) (.ref h_bin) (.int x_mm_goneTo) (.int x_mm_goneIn) (.int x_mm_instances) (.ref h_cof) (.int x_mm_isProof) (.ref h_out) (.int x_mm_outs) (.ref h_wri) (.int x_mm_writes) (.int x_mm_room))))] := hD
  clear evq1 
  rcases hq with ⟨rfl, hq⟩ | rfl
  · replace hq : (0 ≤ ((p1)).toInt) ∧ (((p1)).toInt < ((x_mm_instances)).toInt) ∧ (((x_mm_isProof)).toInt = 1) := hq
    refine lv_if_eq (tgt := 55) hx hb dX11_shown_10 (by decide) (fun c9 => absurd c9 (by decide)) (fun _ => ?_)
    refine lv_aload_n hx hb dX11_shown_13 rfl (lv_at hl 0 rfl) ?_
    refine lv_iload_n hx hb dX11_shown_14 rfl (lv_at hl 2 rfl) ?_
    refine lv_i2l hx hb dX11_shown_15 rfl ?_
    refine lv_topl (fun z3 ez3 => ?_)
    have tz3 : (z3).toInt = (p2).toInt := by rw [ez3]; exact Int32.toInt_toInt64 _
    have bz3 := i_bd p2
    refine lv_lconst (v := 0) hx hb dX11_shown_16 (by decide) ?_
    refine lv_aload_n hx hb dX11_shown_17 rfl (lv_at hl 0 rfl) ?_
    refine va_get (D := (dC, dI)) (ci := 8) (v := .ref h_mny) (C := RX11) (T := TX11) (N := 71) hx hb hw iwX11 hown hK hP 14 rfl rfl 8 (by decide) (hw _ w_f_X11_142) (fun _ h9 => h9) rfl dX11_shown_18 ?_
    refine lv_aload_n hx hb dX11_shown_21 rfl (lv_at hl 0 rfl) ?_
    refine va_get (D := (dC, dI)) (ci := 8) (v := .ref h_cof) (C := RX11) (T := TX11) (N := 71) hx hb hw iwX11 hown hK hP 14 rfl rfl 37 (by decide) (hw _ w_f_X11_204) (fun _ h9 => h9) rfl dX11_shown_22 ?_
    refine lv_iload_n hx hb dX11_shown_25 rfl (lv_at hl 1 rfl) ?_
    refine va_iald hx hb hK hP 9 9 rfl rfl (i := p1) (vp_in_iff.mpr (by omega)) dX11_shown_26 ?_
    refine lv_topi (fun z4 ez4 => ?_)
    have rz4 : 0 ≤ (z4).toInt ∧ (z4).toInt ≤ 15 := by rw [ez4]; exact hf_cof _
    refine va_iald hx hb hK hP 13 13 rfl rfl (i := z4) (vp_in_iff.mpr (by omega)) dX11_shown_27 ?_
    refine lv_topi (fun z5 ez5 => ?_)
    have rz5 : 0 ≤ (z5).toInt ∧ (z5).toInt ≤ 6 := by rw [ez5]; exact hf_mny _
    have cq9 : f_cof (p1).toInt.toNat = z4 := by rw [← clamp_nat (i := p1) (by omega), ← ez4]
    have mq9 : f_mny (f_cof (p1).toInt.toNat).toInt.toNat = z5 := by rw [cq9, ← clamp_nat (i := z4) (by omega), ← ez5]
    have mv9 : (f_mny (f_cof (p1).toInt.toNat).toInt.toNat).toInt = (z5).toInt := by rw [mq9]
    refine lv_i2l hx hb dX11_shown_28 rfl ?_
    refine lv_topl (fun z6 ez6 => ?_)
    have tz6 : (z6).toInt = (z5).toInt := by rw [ez6]; exact Int32.toInt_toInt64 _
    have bz6 := i_bd z5
    refine lv_lconst (v := 1) hx hb dX11_shown_29 (by decide) ?_
    refine lv_lsub hx hb dX11_shown_30 ?_
    refine lv_topl (fun z7 ez7 => ?_)
    have tz7 : (z7).toInt = (z6).toInt - 1 := by rw [ez7]; exact l_sub rfl (by decide) (by omega)
    have : (0 : Int64).toInt = 0 := by decide
    have hPc := hP.sub (ws' := []) [] rfl
    have hDc := hD.sub (ws' := []) [] (by decide) rfl
    have hKc := hK.sub (tys' := []) [] rfl
    have hFc := va_free (wc := []) hD hS hA [] rfl
    refine va_calli (va_runV (As := [.long z3, .long 0, .long z7]) (rest := []) ⟨hx, hb, hml, hown, hts⟩ (c_X11_isIn l dC dI H.size h_mm z3 0 z7) (cwV 3 hts (gv hT w_m_X11_49 w_instanceMethod_X11_isIn ws_sel_X11_isIn w_ini_X11 w_code_X11_isIn) rfl rfl rfl (by decide +kernel) ⟨(Nat.le_of_ble_eq_true rfl), (Nat.le_of_ble_eq_true rfl)⟩) ⟨pre_blind, va_recv hK hP (ci := 8) (q0 := 14) rfl rfl, pre_of hPc hKc hDc hN⟩ rfl rfl hl.1 rfl (lv_room (Nat.le_of_ble_eq_true rfl)) dX11_shown_31 ⟨(Nat.le_of_ble_eq_true rfl), (Nat.le_of_ble_eq_true rfl)⟩) hS (fun q _ h => hFc q h) hFc (fun r8 u t H locs ht hvm hq hB hz1 hk1 hS9 => ?_)
    obtain ⟨hP1, hD1⟩ := hB
    rw [ht] at hP1
    obtain ⟨hP9, hD9⟩ := va_join (wr := [(h_wri, .inl (cy_wri, 1000, .inl f_wri)), (h_let, .inl (cy_let, 256, .inl f_let)), (h_nv, .inl (cy_nv, 8000, .inl f_nv)), (h_nn, .inl (cy_nn, 8000, .inr (.inl f_nn))), (h_na, .inl (cy_na, 8000, .inl f_na)), (h_nb, .inl (cy_nb, 8000, .inl f_nb)), (h_nc, .inl (cy_nc, 8000, .inl f_nc)), (h_bto, .inl (cy_bto, 256, .inl f_bto)), (h_bin, .inl (cy_bin, 256, .inl f_bin)), (h_cof, .inl (cy_cof, 31, .inl f_cof)), (h_isn, .inl (cy_isn, 192, .inl f_isn)), (h_tem, .inl (cy_tem, 192, .inl f_tem)), (h_out, .inl (cy_out, 1000, .inl f_out)), (h_mny, .inl (cy_mny, 32, .inl f_mny)), (h_mm, .inr (8, (mo163 v_mm (.int 0) (.ref h_nv) (.ref h_nn) (.ref h_na) (.ref h_nb) (.ref h_nc) (.int x_mm_clauses) (.ref h_mny) (.ref h_let) (.ref h_isn) (.ref h_tem) (.ref h_bto) (.ref h_bin) (.int x_mm_goneTo) (.int x_mm_goneIn) (.int x_mm_instances) (.ref h_cof) (.int x_mm_isProof) (.ref h_out) (.int x_mm_outs) (.ref h_wri) (.int x_mm_writes) (.int x_mm_room))))]) (w1 := []) hP hD [] [0, 1, 2, 3, 4, 5, 6, 7, 8, 9, 10, 11, 12, 13, 14] rfl rfl (by decide) (by decide) hk1 hFc hP1 hD1
    clear hP hD hS hPc hDc hKc hFc hP1 hD1 hk1 hz1 ht hvm
    have hP : va_P (dC, dI) cls [(h_wri, .inl (cy_wri, 1000, .inl f_wri)), (h_let, .inl (cy_let, 256, .inl f_let)), (h_nv, .inl (cy_nv, 8000, .inl f_nv)), (h_nn, .inl (cy_nn, 8000, .inr (.inl f_nn))), (h_na, .inl (cy_na, 8000, .inl f_na)), (h_nb, .inl (cy_nb, 8000, .inl f_nb)), (h_nc, .inl (cy_nc, 8000, .inl f_nc)), (h_bto, .inl (cy_bto, 256, .inl f_bto)), (h_bin, .inl (cy_bin, 256, .inl f_bin)), (h_cof, .inl (cy_cof, 31, .inl f_cof)), (h_isn, .inl (cy_isn, 192, .inl f_isn)), (h_tem, .inl (cy_tem, 192, .inl f_tem)), (h_out, .inl (cy_out, 1000, .inl f_out)), (h_mny, .inl (cy_mny, 32, .inl f_mny)), (h_mm, .inr (8, (mo163 v_mm (.int 0) (.ref h_nv) (.ref h_nn) (.ref h_na) (.ref h_nb) (.ref h_nc) (.int x_mm_clauses) (.ref h_mny) (.ref h_let) (.ref h_isn) (.ref h_tem) (.ref h_bto) (.ref h_bin) (.int x_mm_goneTo) (.int x_mm_goneIn) (.int x_mm_instances) (.ref h_cof) (.int x_mm_isProof) (.ref h_out) (.int x_mm_outs) (.ref h_wri) (.int x_mm_writes) (.int x_mm_room))))] H := hP9
    have hD : va_D A [(h_wri, .inl (cy_wri, 1000, .inl f_wri)), (h_let, .inl (cy_let, 256, .inl f_let)), (h_nv, .inl (cy_nv, 8000, .inl f_nv)), (h_nn, .inl (cy_nn, 8000, .inr (.inl f_nn))), (h_na, .inl (cy_na, 8000, .inl f_na)), (h_nb, .inl (cy_nb, 8000, .inl f_nb)), (h_nc, .inl (cy_nc, 8000, .inl f_nc)), (h_bto, .inl (cy_bto, 256, .inl f_bto)), (h_bin, .inl (cy_bin, 256, .inl f_bin)), (h_cof, .inl (cy_cof, 31, .inl f_cof)), (h_isn, .inl (cy_isn, 192, .inl f_isn)), (h_tem, .inl (cy_tem, 192, .inl f_tem)), (h_out, .inl (cy_out, 1000, .inl f_out)), (h_mny, .inl (cy_mny, 32, .inl f_mny)), (h_mm, .inr (8, (mo163 v_mm (.int 0) (.ref h_nv) (.ref h_nn) (.ref h_na) (.ref h_nb) (.ref h_nc) (.int x_mm_clauses) (.ref h_mny) (.ref h_let) (.ref h_isn) (.ref h_tem) (.ref h_bto) (.ref h_bin) (.int x_mm_goneTo) (.int x_mm_goneIn) (.int x_mm_instances) (.ref h_cof) (.int x_mm_isProof) (.ref h_out) (.int x_mm_outs) (.ref h_wri) (.int x_mm_writes) (.int x_mm_room))))] := hD9
    have hS := hS9
    clear hP9 hD9 hS9
    rcases hq with ⟨rfl, hq⟩ | ⟨rfl, hq⟩
    · replace hq : (((0 : Int64)).toInt ≤ ((z3)).toInt) ∧ (((z3)).toInt ≤ ((z7)).toInt) := hq
      refine lv_if_eq (tgt := 55) hx hb dX11_shown_34 (by decide) (fun c9 => absurd c9 (by decide)) (fun _ => ?_)
      refine lv_aload_n hx hb dX11_shown_37 rfl (lv_at hl 0 rfl) ?_
      refine lv_aload_n hx hb dX11_shown_38 rfl (lv_at hl 0 rfl) ?_
      refine lv_iload_n hx hb dX11_shown_39 rfl (lv_at hl 1 rfl) ?_
      refine lv_iload_n hx hb dX11_shown_40 rfl (lv_at hl 2 rfl) ?_
      obtain ⟨vq9, evq9⟩ := mq163_139 v_mm (.int 0) (.ref h_nv) (.ref h_nn) (.ref h_na) (.ref h_nb) (.ref h_nc) (.int x_mm_clauses) (.ref h_mny) (.ref h_let) (.ref h_isn) (.ref h_tem) (.ref h_bto) (.ref h_bin) (.int x_mm_goneTo) (.int x_mm_goneIn) (.int x_mm_instances) (.int x_mm_isProof) (.ref h_out) (.int x_mm_outs) (.ref h_wri) (.int x_mm_writes) (.int x_mm_room)
      replace hP : va_P (dC, dI) cls [(h_wri, .inl (cy_wri, 1000, .inl f_wri)), (h_let, .inl (cy_let, 256, .inl f_let)), (h_nv, .inl (cy_nv, 8000, .inl f_nv)), (h_nn, .inl (cy_nn, 8000, .inr (.inl f_nn))), (h_na, .inl (cy_na, 8000, .inl f_na)), (h_nb, .inl (cy_nb, 8000, .inl f_nb)), (h_nc, .inl (cy_nc, 8000, .inl f_nc)), (h_bto, .inl (cy_bto, 256, .inl f_bto)), (h_bin, .inl (cy_bin, 256, .inl f_bin)), (h_cof, .inl (cy_cof, 31, .inl f_cof)), (h_isn, .inl (cy_isn, 192, .inl f_isn)), (h_tem, .inl (cy_tem, 192, .inl f_tem)), (h_out, .inl (cy_out, 1000, .inl f_out)), (h_mny, .inl (cy_mny, 32, .inl f_mny)), (h_mm, .inr (8, (mo139 vq9 (.ref h_cof))))] H := by rw [evq9]; exact hP
      replace hD : va_D A [(h_wri, .inl (cy_wri, 1000, .inl f_wri)), (h_let, .inl (cy_let, 256, .inl f_let)), (h_nv, .inl (cy_nv, 8000, .inl f_nv)), (h_nn, .inl (cy_nn, 8000, .inr (.inl f_nn))), (h_na, .inl (cy_na, 8000, .inl f_na)), (h_nb, .inl (cy_nb, 8000, .inl f_nb)), (h_nc, .inl (cy_nc, 8000, .inl f_nc)), (h_bto, .inl (cy_bto, 256, .inl f_bto)), (h_bin, .inl (cy_bin, 256, .inl f_bin)), (h_cof, .inl (cy_cof, 31, .inl f_cof)), (h_isn, .inl (cy_isn, 192, .inl f_isn)), (h_tem, .inl (cy_tem, 192, .inl f_tem)), (h_out, .inl (cy_out, 1000, .inl f_out)), (h_mny, .inl (cy_mny, 32, .inl f_mny)), (h_mm, .inr (8, (mo139 vq9 (.ref h_cof))))] := by rw [evq9]; exact hD
      have hPc := hP.sub (ws' := [(h_mm, .inr (8, (mo139 vq9 (.ref h_cof)))), (h_cof, .inl (cy_cof, 31, .inl f_cof))]) [14, 9] rfl
      have hDc := hD.sub (ws' := [(h_mm, .inr (8, (mo139 vq9 (.ref h_cof)))), (h_cof, .inl (cy_cof, 31, .inl f_cof))]) [14, 9] (by decide) rfl
      have hKc := hK.sub (tys' := [(cy_cof, .int)]) [9] rfl
      have hFc := va_free (wc := [(h_mm, .inr (8, (mo139 vq9 (.ref h_cof)))), (h_cof, .inl (cy_cof, 31, .inl f_cof))]) hD hS hA [14, 9] rfl
      refine va_calli (va_runV (As := [.int p1, .int p2]) (rest := [.ref h_mm]) ⟨hx, hb, hml, hown, hts⟩ (c_X11_litOf l dC dI H.size h_mm h_cof vq9 cy_cof f_cof p1 p2 hf_cof (by omega) (by omega)) (cwV 2 hts (gv hT w_m_X11_317 w_instanceMethod_X11_litOf ws_sel_X11_litOf w_ini_X11 w_code_X11_litOf) rfl rfl rfl (by decide +kernel) ⟨(Nat.le_of_ble_eq_true rfl), (Nat.le_of_ble_eq_true rfl)⟩) ⟨pre_blind, va_recv hK hP (ci := 8) (q0 := 14) rfl rfl, pre_of hPc hKc hDc hN⟩ rfl rfl hl.1 rfl (lv_room (Nat.le_of_ble_eq_true rfl)) dX11_shown_41 ⟨(Nat.le_of_ble_eq_true rfl), (Nat.le_of_ble_eq_true rfl)⟩) hS (fun q _ h => hFc q h) hFc (fun r10 u t H locs ht hvm hq hB hz1 hk1 hS9 => ?_)
      obtain ⟨hP1, hD1⟩ := hB
      rw [ht] at hP1
      obtain ⟨hP9, hD9⟩ := va_join (wr := [(h_wri, .inl (cy_wri, 1000, .inl f_wri)), (h_let, .inl (cy_let, 256, .inl f_let)), (h_nv, .inl (cy_nv, 8000, .inl f_nv)), (h_nn, .inl (cy_nn, 8000, .inr (.inl f_nn))), (h_na, .inl (cy_na, 8000, .inl f_na)), (h_nb, .inl (cy_nb, 8000, .inl f_nb)), (h_nc, .inl (cy_nc, 8000, .inl f_nc)), (h_bto, .inl (cy_bto, 256, .inl f_bto)), (h_bin, .inl (cy_bin, 256, .inl f_bin)), (h_isn, .inl (cy_isn, 192, .inl f_isn)), (h_tem, .inl (cy_tem, 192, .inl f_tem)), (h_out, .inl (cy_out, 1000, .inl f_out)), (h_mny, .inl (cy_mny, 32, .inl f_mny))]) (w1 := [(h_mm, .inr (8, (mo139 vq9 (.ref h_cof)))), (h_cof, .inl (cy_cof, 31, .inl f_cof))]) hP hD [14, 9] [0, 1, 2, 3, 4, 5, 6, 7, 8, 10, 11, 12, 13] rfl rfl (by decide) (by decide) hk1 hFc hP1 hD1
      clear hP hD hS hPc hDc hKc hFc hP1 hD1 hk1 hz1 ht hvm
      have hP : va_P (dC, dI) cls [(h_wri, .inl (cy_wri, 1000, .inl f_wri)), (h_let, .inl (cy_let, 256, .inl f_let)), (h_nv, .inl (cy_nv, 8000, .inl f_nv)), (h_nn, .inl (cy_nn, 8000, .inr (.inl f_nn))), (h_na, .inl (cy_na, 8000, .inl f_na)), (h_nb, .inl (cy_nb, 8000, .inl f_nb)), (h_nc, .inl (cy_nc, 8000, .inl f_nc)), (h_bto, .inl (cy_bto, 256, .inl f_bto)), (h_bin, .inl (cy_bin, 256, .inl f_bin)), (h_isn, .inl (cy_isn, 192, .inl f_isn)), (h_tem, .inl (cy_tem, 192, .inl f_tem)), (h_out, .inl (cy_out, 1000, .inl f_out)), (h_mny, .inl (cy_mny, 32, .inl f_mny)), (h_mm, .inr (8, (mo139 vq9 (.ref h_cof)))), (h_cof, .inl (cy_cof, 31, .inl f_cof))] H := hP9
      have hD : va_D A [(h_wri, .inl (cy_wri, 1000, .inl f_wri)), (h_let, .inl (cy_let, 256, .inl f_let)), (h_nv, .inl (cy_nv, 8000, .inl f_nv)), (h_nn, .inl (cy_nn, 8000, .inr (.inl f_nn))), (h_na, .inl (cy_na, 8000, .inl f_na)), (h_nb, .inl (cy_nb, 8000, .inl f_nb)), (h_nc, .inl (cy_nc, 8000, .inl f_nc)), (h_bto, .inl (cy_bto, 256, .inl f_bto)), (h_bin, .inl (cy_bin, 256, .inl f_bin)), (h_isn, .inl (cy_isn, 192, .inl f_isn)), (h_tem, .inl (cy_tem, 192, .inl f_tem)), (h_out, .inl (cy_out, 1000, .inl f_out)), (h_mny, .inl (cy_mny, 32, .inl f_mny)), (h_mm, .inr (8, (mo139 vq9 (.ref h_cof)))), (h_cof, .inl (cy_cof, 31, .inl f_cof))] := hD9
      have hS := hS9
      clear hP9 hD9 hS9
      rw [evq9] at hP hD
      replace hP : va_P (dC, dI) cls [(h_wri, .inl (cy_wri, 1000, .inl f_wri)), (h_let, .inl (cy_let, 256, .inl f_let)), (h_nv, .inl (cy_nv, 8000, .inl f_nv)), (h_nn, .inl (cy_nn, 8000, .inr (.inl f_nn))), (h_na, .inl (cy_na, 8000, .inl f_na)), (h_nb, .inl (cy_nb, 8000, .inl f_nb)), (h_nc, .inl (cy_nc, 8000, .inl f_nc)), (h_bto, .inl (cy_bto, 256, .inl f_bto)), (h_bin, .inl (cy_bin, 256, .inl f_bin)), (h_isn, .inl (cy_isn, 192, .inl f_isn)), (h_tem, .inl (cy_tem, 192, .inl f_tem)), (h_out, .inl (cy_out, 1000, .inl f_out)), (h_mny, .inl (cy_mny, 32, .inl f_mny)), (h_mm, .inr (8, (mo163 v_mm (.int 0) (.ref h_nv) (.ref h_nn) (.ref h_na) (.ref h_nb) (.ref h_nc) (.int x_mm_clauses) (.ref h_mny) (.ref h_let) (.ref h_isn) (.ref h_tem) (.ref h_bto) (.ref h_bin) (.int x_mm_goneTo) (.int x_mm_goneIn) (.int x_mm_instances) (.ref h_cof) (.int x_mm_isProof) (.ref h_out) (.int x_mm_outs) (.ref h_wri) (.int x_mm_writes) (.int x_mm_room)))), (h_cof, .inl (cy_cof, 31, .inl f_cof))] H := hP
      replace hD : va_D A [(h_wri, .inl (cy_wri, 1000, .inl f_wri)), (h_let, .inl (cy_let, 256, .inl f_let)), (h_nv, .inl (cy_nv, 8000, .inl f_nv)), (h_nn, .inl (cy_nn, 8000, .inr (.inl f_nn))), (h_na, .inl (cy_na, 8000, .inl f_na)), (h_nb, .inl (cy_nb, 8000, .inl f_nb)), (h_nc, .inl (cy_nc, 8000, .inl f_nc)), (h_bto, .inl (cy_bto, 256, .inl f_bto)), (h_bin, .inl (cy_bin, 256, .inl f_bin)), (h_isn, .inl (cy_isn, 192, .inl f_isn)), (h_tem, .inl (cy_tem, 192, .inl f_tem)), (h_out, .inl (cy_out, 1000, .inl f_out)), (h_mny, .inl (cy_mny, 32, .inl f_mny)), (h_mm, .inr (8, (mo163 v_mm (.int 0) (.ref h_nv) (.ref h_nn) (.ref h_na) (.ref h_nb) (.ref h_nc) (.int x_mm_clauses) (.ref h_mny) (.ref h_let) (.ref h_isn) (.ref h_tem) (.ref h_bto) (.ref h_bin) (.int x_mm_goneTo) (.int x_mm_goneIn) (.int x_mm_instances) (.ref h_cof) (.int x_mm_isProof) (.ref h_out) (.int x_mm_outs) (.ref h_wri) (.int x_mm_writes) (.int x_mm_room)))), (h_cof, .inl (cy_cof, 31, .inl f_cof))] := hD
      clear evq9 
      obtain ⟨k11, k12⟩ := hq
      replace k11 : 0 ≤ (r10).toInt ∧ (r10).toInt ≤ 95 := k11
      replace k12 : ((r10)).toInt = 6 * (f_cof ((p1)).toInt.toNat).toInt + ((p2)).toInt := k12
      refine lv_iload_n hx hb dX11_shown_44 rfl (lv_at hl 1 rfl) ?_
      refine lv_iconst (v := (-1)) hx hb dX11_shown_45 (by decide) ?_
      refine lv_sipush (v := 300) hx hb dX11_shown_46 (by decide) ?_
      have pf9 := (hn_prf).resolve_left (by omega)
      have in9 := pf9.2 (p1).toInt.toNat (by omega)
      have hc9 := hf_cof (p1).toInt.toNat
      have tg9 := tm_get (z := f_tem (r10).toInt.toNat) (c := f_cof (p1).toInt.toNat) (t := r10) (l := (p2).toInt) hn_tms (by omega) (by rw [clamp_nat (i := f_cof (p1).toInt.toNat) (by omega)]; omega) (by omega) (by rw [clamp_nat (i := r10) (by omega)])
      obtain ⟨vq13, evq13⟩ := mq163_159 v_mm (.int 0) (.int x_mm_clauses) (.ref h_mny) (.int x_mm_instances) (.int x_mm_isProof)
      replace hP : va_P (dC, dI) cls [(h_wri, .inl (cy_wri, 1000, .inl f_wri)), (h_let, .inl (cy_let, 256, .inl f_let)), (h_nv, .inl (cy_nv, 8000, .inl f_nv)), (h_nn, .inl (cy_nn, 8000, .inr (.inl f_nn))), (h_na, .inl (cy_na, 8000, .inl f_na)), (h_nb, .inl (cy_nb, 8000, .inl f_nb)), (h_nc, .inl (cy_nc, 8000, .inl f_nc)), (h_bto, .inl (cy_bto, 256, .inl f_bto)), (h_bin, .inl (cy_bin, 256, .inl f_bin)), (h_isn, .inl (cy_isn, 192, .inl f_isn)), (h_tem, .inl (cy_tem, 192, .inl f_tem)), (h_out, .inl (cy_out, 1000, .inl f_out)), (h_mny, .inl (cy_mny, 32, .inl f_mny)), (h_mm, .inr (8, (mo159 vq13 (.ref h_nv) (.ref h_nn) (.ref h_na) (.ref h_nb) (.ref h_nc) (.ref h_let) (.ref h_isn) (.ref h_tem) (.ref h_bto) (.ref h_bin) (.int x_mm_goneTo) (.int x_mm_goneIn) (.ref h_cof) (.ref h_out) (.int x_mm_outs) (.ref h_wri) (.int x_mm_writes) (.int x_mm_room)))), (h_cof, .inl (cy_cof, 31, .inl f_cof))] H := by rw [evq13]; exact hP
      replace hD : va_D A [(h_wri, .inl (cy_wri, 1000, .inl f_wri)), (h_let, .inl (cy_let, 256, .inl f_let)), (h_nv, .inl (cy_nv, 8000, .inl f_nv)), (h_nn, .inl (cy_nn, 8000, .inr (.inl f_nn))), (h_na, .inl (cy_na, 8000, .inl f_na)), (h_nb, .inl (cy_nb, 8000, .inl f_nb)), (h_nc, .inl (cy_nc, 8000, .inl f_nc)), (h_bto, .inl (cy_bto, 256, .inl f_bto)), (h_bin, .inl (cy_bin, 256, .inl f_bin)), (h_isn, .inl (cy_isn, 192, .inl f_isn)), (h_tem, .inl (cy_tem, 192, .inl f_tem)), (h_out, .inl (cy_out, 1000, .inl f_out)), (h_mny, .inl (cy_mny, 32, .inl f_mny)), (h_mm, .inr (8, (mo159 vq13 (.ref h_nv) (.ref h_nn) (.ref h_na) (.ref h_nb) (.ref h_nc) (.ref h_let) (.ref h_isn) (.ref h_tem) (.ref h_bto) (.ref h_bin) (.int x_mm_goneTo) (.int x_mm_goneIn) (.ref h_cof) (.ref h_out) (.int x_mm_outs) (.ref h_wri) (.int x_mm_writes) (.int x_mm_room)))), (h_cof, .inl (cy_cof, 31, .inl f_cof))] := by rw [evq13]; exact hD
      have cstm1 : ((-1) : Int32).toInt = -1 := by decide
      have cst300 : (300 : Int32).toInt = 300 := by decide
      have hPc := hP.sub (ws' := [(h_mm, .inr (8, (mo159 vq13 (.ref h_nv) (.ref h_nn) (.ref h_na) (.ref h_nb) (.ref h_nc) (.ref h_let) (.ref h_isn) (.ref h_tem) (.ref h_bto) (.ref h_bin) (.int x_mm_goneTo) (.int x_mm_goneIn) (.ref h_cof) (.ref h_out) (.int x_mm_outs) (.ref h_wri) (.int x_mm_writes) (.int x_mm_room)))), (h_wri, .inl (cy_wri, 1000, .inl f_wri)), (h_let, .inl (cy_let, 256, .inl f_let)), (h_nv, .inl (cy_nv, 8000, .inl f_nv)), (h_nn, .inl (cy_nn, 8000, .inr (.inl f_nn))), (h_na, .inl (cy_na, 8000, .inl f_na)), (h_nb, .inl (cy_nb, 8000, .inl f_nb)), (h_nc, .inl (cy_nc, 8000, .inl f_nc)), (h_bto, .inl (cy_bto, 256, .inl f_bto)), (h_bin, .inl (cy_bin, 256, .inl f_bin)), (h_cof, .inl (cy_cof, 31, .inl f_cof)), (h_isn, .inl (cy_isn, 192, .inl f_isn)), (h_tem, .inl (cy_tem, 192, .inl f_tem)), (h_out, .inl (cy_out, 1000, .inl f_out))]) [13, 0, 1, 2, 3, 4, 5, 6, 7, 8, 14, 9, 10, 11] rfl
      have hDc := hD.sub (ws' := [(h_mm, .inr (8, (mo159 vq13 (.ref h_nv) (.ref h_nn) (.ref h_na) (.ref h_nb) (.ref h_nc) (.ref h_let) (.ref h_isn) (.ref h_tem) (.ref h_bto) (.ref h_bin) (.int x_mm_goneTo) (.int x_mm_goneIn) (.ref h_cof) (.ref h_out) (.int x_mm_outs) (.ref h_wri) (.int x_mm_writes) (.int x_mm_room)))), (h_wri, .inl (cy_wri, 1000, .inl f_wri)), (h_let, .inl (cy_let, 256, .inl f_let)), (h_nv, .inl (cy_nv, 8000, .inl f_nv)), (h_nn, .inl (cy_nn, 8000, .inr (.inl f_nn))), (h_na, .inl (cy_na, 8000, .inl f_na)), (h_nb, .inl (cy_nb, 8000, .inl f_nb)), (h_nc, .inl (cy_nc, 8000, .inl f_nc)), (h_bto, .inl (cy_bto, 256, .inl f_bto)), (h_bin, .inl (cy_bin, 256, .inl f_bin)), (h_cof, .inl (cy_cof, 31, .inl f_cof)), (h_isn, .inl (cy_isn, 192, .inl f_isn)), (h_tem, .inl (cy_tem, 192, .inl f_tem)), (h_out, .inl (cy_out, 1000, .inl f_out))]) [13, 0, 1, 2, 3, 4, 5, 6, 7, 8, 14, 9, 10, 11] (by decide) rfl
      have hKc := hK.sub (tys' := [(cy_wri, .int), (cy_let, .int), (cy_nv, .int), (cy_nn, .long), (cy_na, .int), (cy_nb, .int), (cy_nc, .int), (cy_bto, .int), (cy_bin, .int), (cy_cof, .int), (cy_isn, .boolean), (cy_tem, .int), (cy_out, .int)]) [0, 1, 2, 3, 4, 5, 6, 7, 8, 9, 10, 11, 12] rfl
      have hFc := va_free (wc := [(h_mm, .inr (8, (mo159 vq13 (.ref h_nv) (.ref h_nn) (.ref h_na) (.ref h_nb) (.ref h_nc) (.ref h_let) (.ref h_isn) (.ref h_tem) (.ref h_bto) (.ref h_bin) (.int x_mm_goneTo) (.int x_mm_goneIn) (.ref h_cof) (.ref h_out) (.int x_mm_outs) (.ref h_wri) (.int x_mm_writes) (.int x_mm_room)))), (h_wri, .inl (cy_wri, 1000, .inl f_wri)), (h_let, .inl (cy_let, 256, .inl f_let)), (h_nv, .inl (cy_nv, 8000, .inl f_nv)), (h_nn, .inl (cy_nn, 8000, .inr (.inl f_nn))), (h_na, .inl (cy_na, 8000, .inl f_na)), (h_nb, .inl (cy_nb, 8000, .inl f_nb)), (h_nc, .inl (cy_nc, 8000, .inl f_nc)), (h_bto, .inl (cy_bto, 256, .inl f_bto)), (h_bin, .inl (cy_bin, 256, .inl f_bin)), (h_cof, .inl (cy_cof, 31, .inl f_cof)), (h_isn, .inl (cy_isn, 192, .inl f_isn)), (h_tem, .inl (cy_tem, 192, .inl f_tem)), (h_out, .inl (cy_out, 1000, .inl f_out))]) hD hS hA [13, 0, 1, 2, 3, 4, 5, 6, 7, 8, 14, 9, 10, 11] rfl
      refine va_calli (va_runV (As := [.int r10, .int p1, .int (-1), .int 300]) (rest := []) ⟨hx, hb, hml, hown, hts⟩ (c_X11_shows_1 l dC dI H.size h_mm h_wri h_let h_nv h_nn h_na h_nb h_nc h_bto h_bin h_cof h_isn h_tem h_out vq13 x_mm_goneTo x_mm_goneIn x_mm_outs x_mm_writes x_mm_room cy_wri f_wri cy_let f_let cy_nv f_nv cy_nn f_nn cy_na f_na cy_nb f_nb cy_nc f_nc cy_bto f_bto cy_bin f_bin cy_cof f_cof cy_isn f_isn cy_tem f_tem cy_out f_out r10 p1 0 29 N hz (by first | exact hx_mm_goneTo | omega) (by first | exact hx_mm_goneIn | omega) (by first | exact hx_mm_outs | omega) (by first | exact hx_mm_writes | omega) (by first | exact hx_mm_room | omega) hf_nv hf_na hf_nb hf_nc hf_bto hf_bin hf_cof hf_isn hf_tem (by omega) (by first | exact q0 | omega) (by omega) (by omega) (by first | exact q0 | omega) (by omega) (by omega) pf9.1) (cwV 4 hts (gv hT w_m_X11_465 w_instanceMethod_X11_shows ws_sel_X11_shows w_ini_X11 w_code_X11_shows) rfl rfl rfl (by decide +kernel) ⟨(Nat.le_of_ble_eq_true rfl), (Nat.le_of_ble_eq_true rfl)⟩) ⟨pre_blind, va_recv hK hP (ci := 8) (q0 := 13) rfl rfl, pre_of hPc hKc hDc hN⟩ rfl rfl hl.1 rfl (lv_room (Nat.le_of_ble_eq_true rfl)) dX11_shown_49 ⟨(Nat.le_of_ble_eq_true rfl), (Nat.le_of_ble_eq_true rfl)⟩) hS (fun q _ h => hFc q h) hFc (fun r14 u t H locs ht hvm hq hB hz1 hk1 hS9 => ?_)
      obtain ⟨z15, z16, z17, z18, z19, f20, f21⟩ := u
      obtain ⟨hP1, hD1⟩ := hB
      rw [ht] at hP1
      obtain ⟨hP9, hD9⟩ := va_join (wr := [(h_mny, .inl (cy_mny, 32, .inl f_mny))]) (w1 := [(h_mm, .inr (8, (mo159 vq13 (.ref h_nv) (.ref h_nn) (.ref h_na) (.ref h_nb) (.ref h_nc) (.ref h_let) (.ref h_isn) (.ref h_tem) (.ref h_bto) (.ref h_bin) (.int z15) (.int z16) (.ref h_cof) (.ref h_out) (.int z17) (.ref h_wri) (.int z18) (.int z19)))), (h_wri, .inl (cy_wri, 1000, .inl f20)), (h_let, .inl (cy_let, 256, .inl f_let)), (h_nv, .inl (cy_nv, 8000, .inl f_nv)), (h_nn, .inl (cy_nn, 8000, .inr (.inl f_nn))), (h_na, .inl (cy_na, 8000, .inl f_na)), (h_nb, .inl (cy_nb, 8000, .inl f_nb)), (h_nc, .inl (cy_nc, 8000, .inl f_nc)), (h_bto, .inl (cy_bto, 256, .inl f_bto)), (h_bin, .inl (cy_bin, 256, .inl f_bin)), (h_cof, .inl (cy_cof, 31, .inl f_cof)), (h_isn, .inl (cy_isn, 192, .inl f_isn)), (h_tem, .inl (cy_tem, 192, .inl f_tem)), (h_out, .inl (cy_out, 1000, .inl f21))]) hP hD [13, 0, 1, 2, 3, 4, 5, 6, 7, 8, 14, 9, 10, 11] [12] rfl rfl (by decide) (by decide) hk1 hFc hP1 hD1
      clear hP hD hS hPc hDc hKc hFc hP1 hD1 hk1 hz1 ht hvm
      have hP : va_P (dC, dI) cls [(h_mny, .inl (cy_mny, 32, .inl f_mny)), (h_mm, .inr (8, (mo159 vq13 (.ref h_nv) (.ref h_nn) (.ref h_na) (.ref h_nb) (.ref h_nc) (.ref h_let) (.ref h_isn) (.ref h_tem) (.ref h_bto) (.ref h_bin) (.int z15) (.int z16) (.ref h_cof) (.ref h_out) (.int z17) (.ref h_wri) (.int z18) (.int z19)))), (h_wri, .inl (cy_wri, 1000, .inl f20)), (h_let, .inl (cy_let, 256, .inl f_let)), (h_nv, .inl (cy_nv, 8000, .inl f_nv)), (h_nn, .inl (cy_nn, 8000, .inr (.inl f_nn))), (h_na, .inl (cy_na, 8000, .inl f_na)), (h_nb, .inl (cy_nb, 8000, .inl f_nb)), (h_nc, .inl (cy_nc, 8000, .inl f_nc)), (h_bto, .inl (cy_bto, 256, .inl f_bto)), (h_bin, .inl (cy_bin, 256, .inl f_bin)), (h_cof, .inl (cy_cof, 31, .inl f_cof)), (h_isn, .inl (cy_isn, 192, .inl f_isn)), (h_tem, .inl (cy_tem, 192, .inl f_tem)), (h_out, .inl (cy_out, 1000, .inl f21))] H := hP9
      have hD : va_D A [(h_mny, .inl (cy_mny, 32, .inl f_mny)), (h_mm, .inr (8, (mo159 vq13 (.ref h_nv) (.ref h_nn) (.ref h_na) (.ref h_nb) (.ref h_nc) (.ref h_let) (.ref h_isn) (.ref h_tem) (.ref h_bto) (.ref h_bin) (.int z15) (.int z16) (.ref h_cof) (.ref h_out) (.int z17) (.ref h_wri) (.int z18) (.int z19)))), (h_wri, .inl (cy_wri, 1000, .inl f20)), (h_let, .inl (cy_let, 256, .inl f_let)), (h_nv, .inl (cy_nv, 8000, .inl f_nv)), (h_nn, .inl (cy_nn, 8000, .inr (.inl f_nn))), (h_na, .inl (cy_na, 8000, .inl f_na)), (h_nb, .inl (cy_nb, 8000, .inl f_nb)), (h_nc, .inl (cy_nc, 8000, .inl f_nc)), (h_bto, .inl (cy_bto, 256, .inl f_bto)), (h_bin, .inl (cy_bin, 256, .inl f_bin)), (h_cof, .inl (cy_cof, 31, .inl f_cof)), (h_isn, .inl (cy_isn, 192, .inl f_isn)), (h_tem, .inl (cy_tem, 192, .inl f_tem)), (h_out, .inl (cy_out, 1000, .inl f21))] := hD9
      have hS := hS9
      clear hP9 hD9 hS9
      rw [evq13] at hP hD
      replace hP : va_P (dC, dI) cls [(h_mny, .inl (cy_mny, 32, .inl f_mny)), (h_mm, .inr (8, (mo163 v_mm (.int 0) (.ref h_nv) (.ref h_nn) (.ref h_na) (.ref h_nb) (.ref h_nc) (.int x_mm_clauses) (.ref h_mny) (.ref h_let) (.ref h_isn) (.ref h_tem) (.ref h_bto) (.ref h_bin) (.int z15) (.int z16) (.int x_mm_instances) (.ref h_cof) (.int x_mm_isProof) (.ref h_out) (.int z17) (.ref h_wri) (.int z18) (.int z19)))), (h_wri, .inl (cy_wri, 1000, .inl f20)), (h_let, .inl (cy_let, 256, .inl f_let)), (h_nv, .inl (cy_nv, 8000, .inl f_nv)), (h_nn, .inl (cy_nn, 8000, .inr (.inl f_nn))), (h_na, .inl (cy_na, 8000, .inl f_na)), (h_nb, .inl (cy_nb, 8000, .inl f_nb)), (h_nc, .inl (cy_nc, 8000, .inl f_nc)), (h_bto, .inl (cy_bto, 256, .inl f_bto)), (h_bin, .inl (cy_bin, 256, .inl f_bin)), (h_cof, .inl (cy_cof, 31, .inl f_cof)), (h_isn, .inl (cy_isn, 192, .inl f_isn)), (h_tem, .inl (cy_tem, 192, .inl f_tem)), (h_out, .inl (cy_out, 1000, .inl f21))] H := hP
      replace hD : va_D A [(h_mny, .inl (cy_mny, 32, .inl f_mny)), (h_mm, .inr (8, (mo163 v_mm (.int 0) (.ref h_nv) (.ref h_nn) (.ref h_na) (.ref h_nb) (.ref h_nc) (.int x_mm_clauses) (.ref h_mny) (.ref h_let) (.ref h_isn) (.ref h_tem) (.ref h_bto) (.ref h_bin) (.int z15) (.int z16) (.int x_mm_instances) (.ref h_cof) (.int x_mm_isProof) (.ref h_out) (.int z17) (.ref h_wri) (.int z18) (.int z19)))), (h_wri, .inl (cy_wri, 1000, .inl f20)), (h_let, .inl (cy_let, 256, .inl f_let)), (h_nv, .inl (cy_nv, 8000, .inl f_nv)), (h_nn, .inl (cy_nn, 8000, .inr (.inl f_nn))), (h_na, .inl (cy_na, 8000, .inl f_na)), (h_nb, .inl (cy_nb, 8000, .inl f_nb)), (h_nc, .inl (cy_nc, 8000, .inl f_nc)), (h_bto, .inl (cy_bto, 256, .inl f_bto)), (h_bin, .inl (cy_bin, 256, .inl f_bin)), (h_cof, .inl (cy_cof, 31, .inl f_cof)), (h_isn, .inl (cy_isn, 192, .inl f_isn)), (h_tem, .inl (cy_tem, 192, .inl f_tem)), (h_out, .inl (cy_out, 1000, .inl f21))] := hD
      clear evq13 
      obtain ⟨k22, k23, k24, k25, k26⟩ := hq
      replace k22 : 0 ≤ ((z15)).toInt ∧ ((z15)).toInt ≤ 7999 := k22
      replace k23 : 0 ≤ ((z16)).toInt ∧ ((z16)).toInt ≤ 31 := k23
      replace k24 : 0 ≤ ((z17)).toInt ∧ ((z17)).toInt ≤ 1000 := k24
      replace k25 : 0 ≤ ((z18)).toInt ∧ ((z18)).toInt ≤ 1000 := k25
      replace k26 : 0 ≤ ((z19)).toInt ∧ ((z19)).toInt ≤ 998 := k26
      refine lv_goto (tgt := 56) hx hb dX11_shown_52 (by decide) ?_
      replace hP : va_P (dC, dI) cls [(h_mm, .inr (8, (mo163 v_mm (.int 0) (.ref h_nv) (.ref h_nn) (.ref h_na) (.ref h_nb) (.ref h_nc) (.int x_mm_clauses) (.ref h_mny) (.ref h_let) (.ref h_isn) (.ref h_tem) (.ref h_bto) (.ref h_bin) (.int z15) (.int z16) (.int x_mm_instances) (.ref h_cof) (.int x_mm_isProof) (.ref h_out) (.int z17) (.ref h_wri) (.int z18) (.int z19)))), (h_wri, .inl (cy_wri, 1000, .inl f20)), (h_let, .inl (cy_let, 256, .inl f_let)), (h_nv, .inl (cy_nv, 8000, .inl f_nv)), (h_nn, .inl (cy_nn, 8000, .inr (.inl f_nn))), (h_na, .inl (cy_na, 8000, .inl f_na)), (h_nb, .inl (cy_nb, 8000, .inl f_nb)), (h_nc, .inl (cy_nc, 8000, .inl f_nc)), (h_bto, .inl (cy_bto, 256, .inl f_bto)), (h_bin, .inl (cy_bin, 256, .inl f_bin)), (h_cof, .inl (cy_cof, 31, .inl f_cof)), (h_isn, .inl (cy_isn, 192, .inl f_isn)), (h_tem, .inl (cy_tem, 192, .inl f_tem)), (h_out, .inl (cy_out, 1000, .inl f21)), (h_mny, .inl (cy_mny, 32, .inl f_mny))] H := hP.sub [1, 2, 3, 4, 5, 6, 7, 8, 9, 10, 11, 12, 13, 14, 0] rfl
      replace hD : va_D A [(h_mm, .inr (8, (mo163 v_mm (.int 0) (.ref h_nv) (.ref h_nn) (.ref h_na) (.ref h_nb) (.ref h_nc) (.int x_mm_clauses) (.ref h_mny) (.ref h_let) (.ref h_isn) (.ref h_tem) (.ref h_bto) (.ref h_bin) (.int z15) (.int z16) (.int x_mm_instances) (.ref h_cof) (.int x_mm_isProof) (.ref h_out) (.int z17) (.ref h_wri) (.int z18) (.int z19)))), (h_wri, .inl (cy_wri, 1000, .inl f20)), (h_let, .inl (cy_let, 256, .inl f_let)), (h_nv, .inl (cy_nv, 8000, .inl f_nv)), (h_nn, .inl (cy_nn, 8000, .inr (.inl f_nn))), (h_na, .inl (cy_na, 8000, .inl f_na)), (h_nb, .inl (cy_nb, 8000, .inl f_nb)), (h_nc, .inl (cy_nc, 8000, .inl f_nc)), (h_bto, .inl (cy_bto, 256, .inl f_bto)), (h_bin, .inl (cy_bin, 256, .inl f_bin)), (h_cof, .inl (cy_cof, 31, .inl f_cof)), (h_isn, .inl (cy_isn, 192, .inl f_isn)), (h_tem, .inl (cy_tem, 192, .inl f_tem)), (h_out, .inl (cy_out, 1000, .inl f21)), (h_mny, .inl (cy_mny, 32, .inl f_mny))] := hD.sub [1, 2, 3, 4, 5, 6, 7, 8, 9, 10, 11, 12, 13, 14, 0] (by decide) rfl
      refine W.widen (k := 0) (n := 0) (Nat.le_of_ble_eq_true rfl) (Nat.le_of_ble_eq_true rfl) ?_
      have cst0 : (0 : Int32).toInt = 0 := by decide
      have w27 : 0 ≤ ((z15)).toInt ∧ ((z15)).toInt ≤ 7999 := by first | exact k22 | omega
      have w28 : 0 ≤ ((z16)).toInt ∧ ((z16)).toInt ≤ 31 := by first | exact k23 | omega
      have w29 : 0 ≤ ((z17)).toInt ∧ ((z17)).toInt ≤ 1000 := by first | exact k24 | omega
      have w30 : 0 ≤ ((z18)).toInt ∧ ((z18)).toInt ≤ 1000 := by first | exact k25 | omega
      have w31 : 0 ≤ ((z19)).toInt ∧ ((z19)).toInt ≤ 998 := by first | exact k26 | omega
      exact W.iret (v := r14) hx hb hr (fun t ht hW => ⟨⟨r14, (0, z15, z16, z17, z18, z19, f20, f21), rfl, ⟨w27, w28, w29, w30, w31⟩, by rw [ht]; exact hP, hD⟩, hS.F ht⟩) hS.2.2 dX11_shown_56
    · replace hq : (((z3)).toInt < ((0 : Int64)).toInt ∨ ((z7)).toInt < ((z3)).toInt) := hq
      refine lv_if_eq (tgt := 55) hx hb dX11_shown_34 (by decide) (fun _ => ?_) (fun c9 => absurd c9 (by decide))
      refine lv_iconst (v := (-1)) hx hb dX11_shown_55 (by decide) ?_
      replace hP : va_P (dC, dI) cls [(h_mm, .inr (8, (mo163 v_mm (.int 0) (.ref h_nv) (.ref h_nn) (.ref h_na) (.ref h_nb) (.ref h_nc) (.int x_mm_clauses) (.ref h_mny) (.ref h_let) (.ref h_isn) (.ref h_tem) (.ref h_bto) (.ref h_bin) (.int x_mm_goneTo) (.int x_mm_goneIn) (.int x_mm_instances) (.ref h_cof) (.int x_mm_isProof) (.ref h_out) (.int x_mm_outs) (.ref h_wri) (.int x_mm_writes) (.int x_mm_room)))), (h_wri, .inl (cy_wri, 1000, .inl f_wri)), (h_let, .inl (cy_let, 256, .inl f_let)), (h_nv, .inl (cy_nv, 8000, .inl f_nv)), (h_nn, .inl (cy_nn, 8000, .inr (.inl f_nn))), (h_na, .inl (cy_na, 8000, .inl f_na)), (h_nb, .inl (cy_nb, 8000, .inl f_nb)), (h_nc, .inl (cy_nc, 8000, .inl f_nc)), (h_bto, .inl (cy_bto, 256, .inl f_bto)), (h_bin, .inl (cy_bin, 256, .inl f_bin)), (h_cof, .inl (cy_cof, 31, .inl f_cof)), (h_isn, .inl (cy_isn, 192, .inl f_isn)), (h_tem, .inl (cy_tem, 192, .inl f_tem)), (h_out, .inl (cy_out, 1000, .inl f_out)), (h_mny, .inl (cy_mny, 32, .inl f_mny))] H := hP.sub [14, 0, 1, 2, 3, 4, 5, 6, 7, 8, 9, 10, 11, 12, 13] rfl
      replace hD : va_D A [(h_mm, .inr (8, (mo163 v_mm (.int 0) (.ref h_nv) (.ref h_nn) (.ref h_na) (.ref h_nb) (.ref h_nc) (.int x_mm_clauses) (.ref h_mny) (.ref h_let) (.ref h_isn) (.ref h_tem) (.ref h_bto) (.ref h_bin) (.int x_mm_goneTo) (.int x_mm_goneIn) (.int x_mm_instances) (.ref h_cof) (.int x_mm_isProof) (.ref h_out) (.int x_mm_outs) (.ref h_wri) (.int x_mm_writes) (.int x_mm_room)))), (h_wri, .inl (cy_wri, 1000, .inl f_wri)), (h_let, .inl (cy_let, 256, .inl f_let)), (h_nv, .inl (cy_nv, 8000, .inl f_nv)), (h_nn, .inl (cy_nn, 8000, .inr (.inl f_nn))), (h_na, .inl (cy_na, 8000, .inl f_na)), (h_nb, .inl (cy_nb, 8000, .inl f_nb)), (h_nc, .inl (cy_nc, 8000, .inl f_nc)), (h_bto, .inl (cy_bto, 256, .inl f_bto)), (h_bin, .inl (cy_bin, 256, .inl f_bin)), (h_cof, .inl (cy_cof, 31, .inl f_cof)), (h_isn, .inl (cy_isn, 192, .inl f_isn)), (h_tem, .inl (cy_tem, 192, .inl f_tem)), (h_out, .inl (cy_out, 1000, .inl f_out)), (h_mny, .inl (cy_mny, 32, .inl f_mny))] := hD.sub [14, 0, 1, 2, 3, 4, 5, 6, 7, 8, 9, 10, 11, 12, 13] (by decide) rfl
      refine W.widen (k := 0) (n := 0) (Nat.le_of_ble_eq_true rfl) (Nat.le_of_ble_eq_true rfl) ?_
      have cstm1 : ((-1) : Int32).toInt = -1 := by decide
      have cst0 : (0 : Int32).toInt = 0 := by decide
      have w32 : 0 ≤ ((x_mm_goneTo)).toInt ∧ ((x_mm_goneTo)).toInt ≤ 7999 := by first | exact hx_mm_goneTo | omega
      have w33 : 0 ≤ ((x_mm_goneIn)).toInt ∧ ((x_mm_goneIn)).toInt ≤ 31 := by first | exact hx_mm_goneIn | omega
      have w34 : 0 ≤ ((x_mm_outs)).toInt ∧ ((x_mm_outs)).toInt ≤ 1000 := by first | exact hx_mm_outs | omega
      have w35 : 0 ≤ ((x_mm_writes)).toInt ∧ ((x_mm_writes)).toInt ≤ 1000 := by first | exact hx_mm_writes | omega
      have w36 : 0 ≤ ((x_mm_room)).toInt ∧ ((x_mm_room)).toInt ≤ 998 := by first | exact hx_mm_room | omega
      exact W.iret (v := (-1)) hx hb hr (fun t ht hW => ⟨⟨(-1), (0, x_mm_goneTo, x_mm_goneIn, x_mm_outs, x_mm_writes, x_mm_room, f_wri, f_out), rfl, ⟨w32, w33, w34, w35, w36⟩, by rw [ht]; exact hP, hD⟩, hS.F ht⟩) hS.2.2 dX11_shown_56
  · have hq : True := trivial
    refine lv_if_eq (tgt := 55) hx hb dX11_shown_10 (by decide) (fun _ => ?_) (fun c9 => absurd c9 (by decide))
    refine lv_iconst (v := (-1)) hx hb dX11_shown_55 (by decide) ?_
    replace hP : va_P (dC, dI) cls [(h_mm, .inr (8, (mo163 v_mm (.int 0) (.ref h_nv) (.ref h_nn) (.ref h_na) (.ref h_nb) (.ref h_nc) (.int x_mm_clauses) (.ref h_mny) (.ref h_let) (.ref h_isn) (.ref h_tem) (.ref h_bto) (.ref h_bin) (.int x_mm_goneTo) (.int x_mm_goneIn) (.int x_mm_instances) (.ref h_cof) (.int x_mm_isProof) (.ref h_out) (.int x_mm_outs) (.ref h_wri) (.int x_mm_writes) (.int x_mm_room)))), (h_wri, .inl (cy_wri, 1000, .inl f_wri)), (h_let, .inl (cy_let, 256, .inl f_let)), (h_nv, .inl (cy_nv, 8000, .inl f_nv)), (h_nn, .inl (cy_nn, 8000, .inr (.inl f_nn))), (h_na, .inl (cy_na, 8000, .inl f_na)), (h_nb, .inl (cy_nb, 8000, .inl f_nb)), (h_nc, .inl (cy_nc, 8000, .inl f_nc)), (h_bto, .inl (cy_bto, 256, .inl f_bto)), (h_bin, .inl (cy_bin, 256, .inl f_bin)), (h_cof, .inl (cy_cof, 31, .inl f_cof)), (h_isn, .inl (cy_isn, 192, .inl f_isn)), (h_tem, .inl (cy_tem, 192, .inl f_tem)), (h_out, .inl (cy_out, 1000, .inl f_out)), (h_mny, .inl (cy_mny, 32, .inl f_mny))] H := hP.sub [14, 0, 1, 2, 3, 4, 5, 6, 7, 8, 9, 10, 11, 12, 13] rfl
    replace hD : va_D A [(h_mm, .inr (8, (mo163 v_mm (.int 0) (.ref h_nv) (.ref h_nn) (.ref h_na) (.ref h_nb) (.ref h_nc) (.int x_mm_clauses) (.ref h_mny) (.ref h_let) (.ref h_isn) (.ref h_tem) (.ref h_bto) (.ref h_bin) (.int x_mm_goneTo) (.int x_mm_goneIn) (.int x_mm_instances) (.ref h_cof) (.int x_mm_isProof) (.ref h_out) (.int x_mm_outs) (.ref h_wri) (.int x_mm_writes) (.int x_mm_room)))), (h_wri, .inl (cy_wri, 1000, .inl f_wri)), (h_let, .inl (cy_let, 256, .inl f_let)), (h_nv, .inl (cy_nv, 8000, .inl f_nv)), (h_nn, .inl (cy_nn, 8000, .inr (.inl f_nn))), (h_na, .inl (cy_na, 8000, .inl f_na)), (h_nb, .inl (cy_nb, 8000, .inl f_nb)), (h_nc, .inl (cy_nc, 8000, .inl f_nc)), (h_bto, .inl (cy_bto, 256, .inl f_bto)), (h_bin, .inl (cy_bin, 256, .inl f_bin)), (h_cof, .inl (cy_cof, 31, .inl f_cof)), (h_isn, .inl (cy_isn, 192, .inl f_isn)), (h_tem, .inl (cy_tem, 192, .inl f_tem)), (h_out, .inl (cy_out, 1000, .inl f_out)), (h_mny, .inl (cy_mny, 32, .inl f_mny))] := hD.sub [14, 0, 1, 2, 3, 4, 5, 6, 7, 8, 9, 10, 11, 12, 13] (by decide) rfl
    refine W.widen (k := 0) (n := 0) (Nat.le_of_ble_eq_true rfl) (Nat.le_of_ble_eq_true rfl) ?_
    have cstm1 : ((-1) : Int32).toInt = -1 := by decide
    have cst0 : (0 : Int32).toInt = 0 := by decide
    have w37 : 0 ≤ ((x_mm_goneTo)).toInt ∧ ((x_mm_goneTo)).toInt ≤ 7999 := by first | exact hx_mm_goneTo | omega
    have w38 : 0 ≤ ((x_mm_goneIn)).toInt ∧ ((x_mm_goneIn)).toInt ≤ 31 := by first | exact hx_mm_goneIn | omega
    have w39 : 0 ≤ ((x_mm_outs)).toInt ∧ ((x_mm_outs)).toInt ≤ 1000 := by first | exact hx_mm_outs | omega
    have w40 : 0 ≤ ((x_mm_writes)).toInt ∧ ((x_mm_writes)).toInt ≤ 1000 := by first | exact hx_mm_writes | omega
    have w41 : 0 ≤ ((x_mm_room)).toInt ∧ ((x_mm_room)).toInt ≤ 998 := by first | exact hx_mm_room | omega
    exact W.iret (v := (-1)) hx hb hr (fun t ht hW => ⟨⟨(-1), (0, x_mm_goneTo, x_mm_goneIn, x_mm_outs, x_mm_writes, x_mm_room, f_wri, f_out), rfl, ⟨w37, w38, w39, w40, w41⟩, by rw [ht]; exact hP, hD⟩, hS.F ht⟩) hS.2.2 dX11_shown_56

