set_option maxHeartbeats 4000000 in
set_option maxRecDepth 100000 in
theorem c_X10_feed (l : Launch) (dC : Nat → ClassId) (dI : Nat → Nat → Nat) (sz : Nat) (h_xx : Nat) (h_rd : Nat) (h_by : Nat) (v_xx : Nat → Value) (v_rd : Nat → Value) (cy_by : ClassId) (f_by : Nat → Int32) (p1 : Int32) (p2 : Int32) (p3 : Int32) (p4 : Int32) (p5 : Int32) : Met l yX10_feed (Ws yX10_feed cX10_feed 6 (some .int)) ({ frames := 1, cells := 0, slots := 0, locals := 22 }) (PRE (dC, dI) cls [(cy_by, .int)] [(h_xx, .inr (7, [.ref h_rd, (v_xx 1), (v_xx 2), (v_xx 3), (v_xx 4), (v_xx 5), (v_xx 6), (v_xx 7)])), (h_rd, .inr (4, [.ref h_by, .int 0, .int 0, .int (-1), (v_rd 4), (v_rd 5), (v_rd 6), (v_rd 7), (v_rd 8), (v_rd 9), (v_rd 10)])), (h_by, .inl (cy_by, 600, .inl f_by))] sz [.ref h_xx, .int p1, .int p2, .int p3, .int p4, .int p5]) (va_Qi (fun (r : Int32) (_ : Unit) => r = 20) (fun (_ : Unit) (_ : State) => True) (va_A [(h_xx, .inr (7, [.ref h_rd, (v_xx 1), (v_xx 2), (v_xx 3), (v_xx 4), (v_xx 5), (v_xx 6), (v_xx 7)])), (h_rd, .inr (4, [.ref h_by, .int 0, .int 0, .int (-1), (v_rd 4), (v_rd 5), (v_rd 6), (v_rd 7), (v_rd 8), (v_rd 9), (v_rd 10)])), (h_by, .inl (cy_by, 600, .inl f_by))] sz)) 0 0 (va_A [(h_xx, .inr (7, [.ref h_rd, (v_xx 1), (v_xx 2), (v_xx 3), (v_xx 4), (v_xx 5), (v_xx 6), (v_xx 7)])), (h_rd, .inr (4, [.ref h_by, .int 0, .int 0, .int (-1), (v_rd 4), (v_rd 5), (v_rd 6), (v_rd 7), (v_rd 8), (v_rd 9), (v_rd 10)])), (h_by, .inl (cy_by, 600, .inl f_by))] sz) := by
  refine Met.ofW (cc := cX10_feed) (maxL := 6) (ret := (some .int)) (by decide) rfl ?_
  intro p e s m args below meth c s₁ B hml hv
  obtain ⟨rfl, hsz, hP, hK, hD0, hN⟩ := hv
  have hx := B.exec
  have hb := B.bytes
  have hr := B.returns
  have hts := atoms_spec (ws := Ws yX10_feed cX10_feed 6 (some .int)) B.pre
  have hT : ∀ w ∈ WALL, w ∈ Ws yX10_feed cX10_feed 6 (some .int) := fun w h => List.mem_cons_of_mem _ h
  have hw := fun w (h : w ∈ WALL) => hts w (hT w h)
  have hown : s.vm.findClass RX10 = some m.cls := findClass_of_methodNamed B.named
  have hlocks := B.notSynchronized
  subst hsz
  have hD := hD0.self (sz := s.heap.size)
  generalize hAe : va_A [(h_xx, .inr (7, [.ref h_rd, (v_xx 1), (v_xx 2), (v_xx 3), (v_xx 4), (v_xx 5), (v_xx 6), (v_xx 7)])), (h_rd, .inr (4, [.ref h_by, .int 0, .int 0, .int (-1), (v_rd 4), (v_rd 5), (v_rd 6), (v_rd 7), (v_rd 8), (v_rd 9), (v_rd 10)])), (h_by, .inl (cy_by, 600, .inl f_by))] s.heap.size = A at hD ⊢
  have hA : ∀ q : Nat, s.heap.size ≤ q → A q := fun q h => by rw [← hAe]; exact Or.inr h
  have hS : va_S A s.heap s.heap [] := va_S.rf
  have hl := lv_entry ([.ref h_xx, .int p1, .int p2, .int p3, .int p4, .int p5]) (n := 6) (Nat.le_of_ble_eq_true rfl)
  rw [lg_entry_eq]
  generalize (lg_sl ([.ref h_xx, .int p1, .int p2, .int p3, .int p4, .int p5]) ++ List.replicate (6 - (lg_sl ([.ref h_xx, .int p1, .int p2, .int p3, .int p4, .int p5])).length) Slot.unset).toArray = ls at hl ⊢
  have hl : lv_has ls 6 [(0, .ref h_xx), (1, .int p1), (2, .int p2), (3, .int p3), (4, .int p4), (5, .int p5)] := hl
  refine lv_aload_n hx hb dX10_feed_0 rfl (lv_at hl 0 rfl) ?_
  refine va_get (D := (dC, dI)) (ci := 7) (v := .ref h_rd) (C := RX10) (T := TX10) (N := 8) hx hb hw iwX10 hown hK hP 0 rfl rfl 0 (by decide) (hw _ w_f_X10_12) (fun _ h9 => h9) rfl dX10_feed_1 ?_
  refine va_getN (D := (dC, dI)) (ci := 4) (v := .int 0) (C := RX5) (T := TX5) (N := 11) (host := "OppositePairs") hx hb hw iwX5 hown hK hP 1 rfl rfl 1 (by decide) (hN.use n_f_X10_67 rfl) (fun _ h9 => h9) rfl dX10_feed_4 ?_
  refine lv_bipush (v := 20) hx hb dX10_feed_7 (by decide) ?_
  refine lv_iadd hx hb dX10_feed_9 ?_
  refine lv_topi (fun z1 ez1 => ?_)
  obtain rfl : z1 = 20 := ez1.trans (by decide)
  refine lv_sipush (v := 600) hx hb dX10_feed_10 (by decide) ?_
  refine lv_icmp_le (tgt := 18) hx hb dX10_feed_13 (by decide) (fun _ => ?_) (fun c9 => absurd c9 (by decide))
  refine lv_aload_n hx hb dX10_feed_18 rfl (lv_at hl 0 rfl) ?_
  refine va_get (D := (dC, dI)) (ci := 7) (v := .ref h_rd) (C := RX10) (T := TX10) (N := 8) hx hb hw iwX10 hown hK hP 0 rfl rfl 0 (by decide) (hw _ w_f_X10_12) (fun _ h9 => h9) rfl dX10_feed_19 ?_
  refine lv_iload_n hx hb dX10_feed_22 rfl (lv_at hl 1 rfl) ?_
  have hPc := hP.sub (ws' := [(h_rd, .inr (4, [.ref h_by, .int 0, .int 0, .int (-1), (v_rd 4), (v_rd 5), (v_rd 6), (v_rd 7), (v_rd 8), (v_rd 9), (v_rd 10)])), (h_by, .inl (cy_by, 600, .inl f_by))]) [1, 2] rfl
  have hDc := hD.sub (ws' := [(h_rd, .inr (4, [.ref h_by, .int 0, .int 0, .int (-1), (v_rd 4), (v_rd 5), (v_rd 6), (v_rd 7), (v_rd 8), (v_rd 9), (v_rd 10)])), (h_by, .inl (cy_by, 600, .inl f_by))]) [1, 2] (by decide) rfl
  have hKc := hK.sub (tys' := [(cy_by, .int)]) [0] rfl
  have hFc := va_free (wc := [(h_rd, .inr (4, [.ref h_by, .int 0, .int 0, .int (-1), (v_rd 4), (v_rd 5), (v_rd 6), (v_rd 7), (v_rd 8), (v_rd 9), (v_rd 10)])), (h_by, .inl (cy_by, 600, .inl f_by))]) hD hS hA [1, 2] rfl
  refine va_callv (va_runVN (As := [.int p1]) (rest := []) ⟨hx, hb, hml, hown, hts⟩ (c_X5_take_0 l dC dI s.heap.size h_rd h_by (fun k => List.getD [.ref h_by, .int 0, .int 0, .int (-1), (v_rd 4), (v_rd 5), (v_rd 6), (v_rd 7), (v_rd 8), (v_rd 9), (v_rd 10)] k .null) cy_by f_by p1) ⟨va_cnB (host := "OppositePairs") 1 hts (gd hT w_code_X5_take) rfl rfl rfl (hN _ n_m_X10_71) (hw _ w_ini_X5) (by decide +kernel) ⟨(Nat.le_of_ble_eq_true rfl), (Nat.le_of_ble_eq_true rfl)⟩, hw _ w_instanceMethod_X5_take, hw _ ws_sel_X5_take⟩ ⟨pre_blind, va_recv hK hP (ci := 4) (q0 := 1) rfl rfl, pre_of hPc hKc hDc hN⟩ rfl rfl hl.1 rfl (lv_room (Nat.le_of_ble_eq_true rfl)) dX10_feed_23 ⟨(Nat.le_of_ble_eq_true rfl), (Nat.le_of_ble_eq_true rfl)⟩) hS (fun q _ h => hFc q h) hFc (fun u t H locs ht hvm hq hB hz1 hk1 hS => ?_)
  obtain ⟨f3, rfl⟩ : ∃ z, z = u := ⟨_, rfl⟩
  obtain ⟨hP1, hK1, hD1⟩ := hB
  rw [ht] at hP1
  have hK1 := va_K.moved hvm.symm hK1
  obtain ⟨hP, hD⟩ := va_join (wr := [(h_xx, .inr (7, [.ref h_rd, (v_xx 1), (v_xx 2), (v_xx 3), (v_xx 4), (v_xx 5), (v_xx 6), (v_xx 7)]))]) (w1 := [(h_rd, .inr (4, [.ref h_by, .int 4, .int 0, .int (-1), (v_rd 4), (v_rd 5), (v_rd 6), (v_rd 7), (v_rd 8), (v_rd 9), (v_rd 10)])), (h_by, .inl (cy_by, 600, .inl f3))]) hP hD [1, 2] [0] rfl rfl (by decide) (by decide) hk1 hFc hP1 hD1
  have hP : va_P (dC, dI) cls [(h_xx, .inr (7, [.ref h_rd, (v_xx 1), (v_xx 2), (v_xx 3), (v_xx 4), (v_xx 5), (v_xx 6), (v_xx 7)])), (h_rd, .inr (4, [.ref h_by, .int 4, .int 0, .int (-1), (v_rd 4), (v_rd 5), (v_rd 6), (v_rd 7), (v_rd 8), (v_rd 9), (v_rd 10)])), (h_by, .inl (cy_by, 600, .inl f3))] H := hP
  have hD : va_D A [(h_xx, .inr (7, [.ref h_rd, (v_xx 1), (v_xx 2), (v_xx 3), (v_xx 4), (v_xx 5), (v_xx 6), (v_xx 7)])), (h_rd, .inr (4, [.ref h_by, .int 4, .int 0, .int (-1), (v_rd 4), (v_rd 5), (v_rd 6), (v_rd 7), (v_rd 8), (v_rd 9), (v_rd 10)])), (h_by, .inl (cy_by, 600, .inl f3))] := hD
  refine lv_aload_n hx hb dX10_feed_26 rfl (lv_at hl 0 rfl) ?_
  refine va_get (D := (dC, dI)) (ci := 7) (v := .ref h_rd) (C := RX10) (T := TX10) (N := 8) hx hb hw iwX10 hown hK hP 0 rfl rfl 0 (by decide) (hw _ w_f_X10_12) (fun _ h9 => h9) rfl dX10_feed_27 ?_
  refine lv_iload_n hx hb dX10_feed_30 rfl (lv_at hl 2 rfl) ?_
  have hPc := hP.sub (ws' := [(h_rd, .inr (4, [.ref h_by, .int 4, .int 0, .int (-1), (v_rd 4), (v_rd 5), (v_rd 6), (v_rd 7), (v_rd 8), (v_rd 9), (v_rd 10)])), (h_by, .inl (cy_by, 600, .inl f3))]) [1, 2] rfl
  have hDc := hD.sub (ws' := [(h_rd, .inr (4, [.ref h_by, .int 4, .int 0, .int (-1), (v_rd 4), (v_rd 5), (v_rd 6), (v_rd 7), (v_rd 8), (v_rd 9), (v_rd 10)])), (h_by, .inl (cy_by, 600, .inl f3))]) [1, 2] (by decide) rfl
  have hKc := hK.sub (tys' := [(cy_by, .int)]) [0] rfl
  have hFc := va_free (wc := [(h_rd, .inr (4, [.ref h_by, .int 4, .int 0, .int (-1), (v_rd 4), (v_rd 5), (v_rd 6), (v_rd 7), (v_rd 8), (v_rd 9), (v_rd 10)])), (h_by, .inl (cy_by, 600, .inl f3))]) hD hS hA [1, 2] rfl
  refine va_callv (va_runVN (As := [.int p2]) (rest := []) ⟨hx, hb, hml, hown, hts⟩ (c_X5_take_4 l dC dI H.size h_rd h_by (fun k => List.getD [.ref h_by, .int 4, .int 0, .int (-1), (v_rd 4), (v_rd 5), (v_rd 6), (v_rd 7), (v_rd 8), (v_rd 9), (v_rd 10)] k .null) cy_by f3 p2) ⟨va_cnB (host := "OppositePairs") 1 hts (gd hT w_code_X5_take) rfl rfl rfl (hN _ n_m_X10_71) (hw _ w_ini_X5) (by decide +kernel) ⟨(Nat.le_of_ble_eq_true rfl), (Nat.le_of_ble_eq_true rfl)⟩, hw _ w_instanceMethod_X5_take, hw _ ws_sel_X5_take⟩ ⟨pre_blind, va_recv hK hP (ci := 4) (q0 := 1) rfl rfl, pre_of hPc hKc hDc hN⟩ rfl rfl hl.1 rfl (lv_room (Nat.le_of_ble_eq_true rfl)) dX10_feed_31 ⟨(Nat.le_of_ble_eq_true rfl), (Nat.le_of_ble_eq_true rfl)⟩) hS (fun q _ h => hFc q h) hFc (fun u t H locs ht hvm hq hB hz1 hk1 hS => ?_)
  obtain ⟨f5, rfl⟩ : ∃ z, z = u := ⟨_, rfl⟩
  obtain ⟨hP1, hK1, hD1⟩ := hB
  rw [ht] at hP1
  have hK1 := va_K.moved hvm.symm hK1
  obtain ⟨hP, hD⟩ := va_join (wr := [(h_xx, .inr (7, [.ref h_rd, (v_xx 1), (v_xx 2), (v_xx 3), (v_xx 4), (v_xx 5), (v_xx 6), (v_xx 7)]))]) (w1 := [(h_rd, .inr (4, [.ref h_by, .int 8, .int 0, .int (-1), (v_rd 4), (v_rd 5), (v_rd 6), (v_rd 7), (v_rd 8), (v_rd 9), (v_rd 10)])), (h_by, .inl (cy_by, 600, .inl f5))]) hP hD [1, 2] [0] rfl rfl (by decide) (by decide) hk1 hFc hP1 hD1
  have hP : va_P (dC, dI) cls [(h_xx, .inr (7, [.ref h_rd, (v_xx 1), (v_xx 2), (v_xx 3), (v_xx 4), (v_xx 5), (v_xx 6), (v_xx 7)])), (h_rd, .inr (4, [.ref h_by, .int 8, .int 0, .int (-1), (v_rd 4), (v_rd 5), (v_rd 6), (v_rd 7), (v_rd 8), (v_rd 9), (v_rd 10)])), (h_by, .inl (cy_by, 600, .inl f5))] H := hP
  have hD : va_D A [(h_xx, .inr (7, [.ref h_rd, (v_xx 1), (v_xx 2), (v_xx 3), (v_xx 4), (v_xx 5), (v_xx 6), (v_xx 7)])), (h_rd, .inr (4, [.ref h_by, .int 8, .int 0, .int (-1), (v_rd 4), (v_rd 5), (v_rd 6), (v_rd 7), (v_rd 8), (v_rd 9), (v_rd 10)])), (h_by, .inl (cy_by, 600, .inl f5))] := hD
  refine lv_aload_n hx hb dX10_feed_34 rfl (lv_at hl 0 rfl) ?_
  refine va_get (D := (dC, dI)) (ci := 7) (v := .ref h_rd) (C := RX10) (T := TX10) (N := 8) hx hb hw iwX10 hown hK hP 0 rfl rfl 0 (by decide) (hw _ w_f_X10_12) (fun _ h9 => h9) rfl dX10_feed_35 ?_
  refine lv_iload_n hx hb dX10_feed_38 rfl (lv_at hl 3 rfl) ?_
  have hPc := hP.sub (ws' := [(h_rd, .inr (4, [.ref h_by, .int 8, .int 0, .int (-1), (v_rd 4), (v_rd 5), (v_rd 6), (v_rd 7), (v_rd 8), (v_rd 9), (v_rd 10)])), (h_by, .inl (cy_by, 600, .inl f5))]) [1, 2] rfl
  have hDc := hD.sub (ws' := [(h_rd, .inr (4, [.ref h_by, .int 8, .int 0, .int (-1), (v_rd 4), (v_rd 5), (v_rd 6), (v_rd 7), (v_rd 8), (v_rd 9), (v_rd 10)])), (h_by, .inl (cy_by, 600, .inl f5))]) [1, 2] (by decide) rfl
  have hKc := hK.sub (tys' := [(cy_by, .int)]) [0] rfl
  have hFc := va_free (wc := [(h_rd, .inr (4, [.ref h_by, .int 8, .int 0, .int (-1), (v_rd 4), (v_rd 5), (v_rd 6), (v_rd 7), (v_rd 8), (v_rd 9), (v_rd 10)])), (h_by, .inl (cy_by, 600, .inl f5))]) hD hS hA [1, 2] rfl
  refine va_callv (va_runVN (As := [.int p3]) (rest := []) ⟨hx, hb, hml, hown, hts⟩ (c_X5_take_8 l dC dI H.size h_rd h_by (fun k => List.getD [.ref h_by, .int 8, .int 0, .int (-1), (v_rd 4), (v_rd 5), (v_rd 6), (v_rd 7), (v_rd 8), (v_rd 9), (v_rd 10)] k .null) cy_by f5 p3) ⟨va_cnB (host := "OppositePairs") 1 hts (gd hT w_code_X5_take) rfl rfl rfl (hN _ n_m_X10_71) (hw _ w_ini_X5) (by decide +kernel) ⟨(Nat.le_of_ble_eq_true rfl), (Nat.le_of_ble_eq_true rfl)⟩, hw _ w_instanceMethod_X5_take, hw _ ws_sel_X5_take⟩ ⟨pre_blind, va_recv hK hP (ci := 4) (q0 := 1) rfl rfl, pre_of hPc hKc hDc hN⟩ rfl rfl hl.1 rfl (lv_room (Nat.le_of_ble_eq_true rfl)) dX10_feed_39 ⟨(Nat.le_of_ble_eq_true rfl), (Nat.le_of_ble_eq_true rfl)⟩) hS (fun q _ h => hFc q h) hFc (fun u t H locs ht hvm hq hB hz1 hk1 hS => ?_)
  obtain ⟨f7, rfl⟩ : ∃ z, z = u := ⟨_, rfl⟩
  obtain ⟨hP1, hK1, hD1⟩ := hB
  rw [ht] at hP1
  have hK1 := va_K.moved hvm.symm hK1
  obtain ⟨hP, hD⟩ := va_join (wr := [(h_xx, .inr (7, [.ref h_rd, (v_xx 1), (v_xx 2), (v_xx 3), (v_xx 4), (v_xx 5), (v_xx 6), (v_xx 7)]))]) (w1 := [(h_rd, .inr (4, [.ref h_by, .int 12, .int 0, .int (-1), (v_rd 4), (v_rd 5), (v_rd 6), (v_rd 7), (v_rd 8), (v_rd 9), (v_rd 10)])), (h_by, .inl (cy_by, 600, .inl f7))]) hP hD [1, 2] [0] rfl rfl (by decide) (by decide) hk1 hFc hP1 hD1
  have hP : va_P (dC, dI) cls [(h_xx, .inr (7, [.ref h_rd, (v_xx 1), (v_xx 2), (v_xx 3), (v_xx 4), (v_xx 5), (v_xx 6), (v_xx 7)])), (h_rd, .inr (4, [.ref h_by, .int 12, .int 0, .int (-1), (v_rd 4), (v_rd 5), (v_rd 6), (v_rd 7), (v_rd 8), (v_rd 9), (v_rd 10)])), (h_by, .inl (cy_by, 600, .inl f7))] H := hP
  have hD : va_D A [(h_xx, .inr (7, [.ref h_rd, (v_xx 1), (v_xx 2), (v_xx 3), (v_xx 4), (v_xx 5), (v_xx 6), (v_xx 7)])), (h_rd, .inr (4, [.ref h_by, .int 12, .int 0, .int (-1), (v_rd 4), (v_rd 5), (v_rd 6), (v_rd 7), (v_rd 8), (v_rd 9), (v_rd 10)])), (h_by, .inl (cy_by, 600, .inl f7))] := hD
  refine lv_aload_n hx hb dX10_feed_42 rfl (lv_at hl 0 rfl) ?_
  refine va_get (D := (dC, dI)) (ci := 7) (v := .ref h_rd) (C := RX10) (T := TX10) (N := 8) hx hb hw iwX10 hown hK hP 0 rfl rfl 0 (by decide) (hw _ w_f_X10_12) (fun _ h9 => h9) rfl dX10_feed_43 ?_
  refine lv_iload hx hb dX10_feed_46 (lv_at hl 4 rfl) ?_
  have hPc := hP.sub (ws' := [(h_rd, .inr (4, [.ref h_by, .int 12, .int 0, .int (-1), (v_rd 4), (v_rd 5), (v_rd 6), (v_rd 7), (v_rd 8), (v_rd 9), (v_rd 10)])), (h_by, .inl (cy_by, 600, .inl f7))]) [1, 2] rfl
  have hDc := hD.sub (ws' := [(h_rd, .inr (4, [.ref h_by, .int 12, .int 0, .int (-1), (v_rd 4), (v_rd 5), (v_rd 6), (v_rd 7), (v_rd 8), (v_rd 9), (v_rd 10)])), (h_by, .inl (cy_by, 600, .inl f7))]) [1, 2] (by decide) rfl
  have hKc := hK.sub (tys' := [(cy_by, .int)]) [0] rfl
  have hFc := va_free (wc := [(h_rd, .inr (4, [.ref h_by, .int 12, .int 0, .int (-1), (v_rd 4), (v_rd 5), (v_rd 6), (v_rd 7), (v_rd 8), (v_rd 9), (v_rd 10)])), (h_by, .inl (cy_by, 600, .inl f7))]) hD hS hA [1, 2] rfl
  refine va_callv (va_runVN (As := [.int p4]) (rest := []) ⟨hx, hb, hml, hown, hts⟩ (c_X5_take_12 l dC dI H.size h_rd h_by (fun k => List.getD [.ref h_by, .int 12, .int 0, .int (-1), (v_rd 4), (v_rd 5), (v_rd 6), (v_rd 7), (v_rd 8), (v_rd 9), (v_rd 10)] k .null) cy_by f7 p4) ⟨va_cnB (host := "OppositePairs") 1 hts (gd hT w_code_X5_take) rfl rfl rfl (hN _ n_m_X10_71) (hw _ w_ini_X5) (by decide +kernel) ⟨(Nat.le_of_ble_eq_true rfl), (Nat.le_of_ble_eq_true rfl)⟩, hw _ w_instanceMethod_X5_take, hw _ ws_sel_X5_take⟩ ⟨pre_blind, va_recv hK hP (ci := 4) (q0 := 1) rfl rfl, pre_of hPc hKc hDc hN⟩ rfl rfl hl.1 rfl (lv_room (Nat.le_of_ble_eq_true rfl)) dX10_feed_48 ⟨(Nat.le_of_ble_eq_true rfl), (Nat.le_of_ble_eq_true rfl)⟩) hS (fun q _ h => hFc q h) hFc (fun u t H locs ht hvm hq hB hz1 hk1 hS => ?_)
  obtain ⟨f9, rfl⟩ : ∃ z, z = u := ⟨_, rfl⟩
  obtain ⟨hP1, hK1, hD1⟩ := hB
  rw [ht] at hP1
  have hK1 := va_K.moved hvm.symm hK1
  obtain ⟨hP, hD⟩ := va_join (wr := [(h_xx, .inr (7, [.ref h_rd, (v_xx 1), (v_xx 2), (v_xx 3), (v_xx 4), (v_xx 5), (v_xx 6), (v_xx 7)]))]) (w1 := [(h_rd, .inr (4, [.ref h_by, .int 16, .int 0, .int (-1), (v_rd 4), (v_rd 5), (v_rd 6), (v_rd 7), (v_rd 8), (v_rd 9), (v_rd 10)])), (h_by, .inl (cy_by, 600, .inl f9))]) hP hD [1, 2] [0] rfl rfl (by decide) (by decide) hk1 hFc hP1 hD1
  have hP : va_P (dC, dI) cls [(h_xx, .inr (7, [.ref h_rd, (v_xx 1), (v_xx 2), (v_xx 3), (v_xx 4), (v_xx 5), (v_xx 6), (v_xx 7)])), (h_rd, .inr (4, [.ref h_by, .int 16, .int 0, .int (-1), (v_rd 4), (v_rd 5), (v_rd 6), (v_rd 7), (v_rd 8), (v_rd 9), (v_rd 10)])), (h_by, .inl (cy_by, 600, .inl f9))] H := hP
  have hD : va_D A [(h_xx, .inr (7, [.ref h_rd, (v_xx 1), (v_xx 2), (v_xx 3), (v_xx 4), (v_xx 5), (v_xx 6), (v_xx 7)])), (h_rd, .inr (4, [.ref h_by, .int 16, .int 0, .int (-1), (v_rd 4), (v_rd 5), (v_rd 6), (v_rd 7), (v_rd 8), (v_rd 9), (v_rd 10)])), (h_by, .inl (cy_by, 600, .inl f9))] := hD
  refine lv_aload_n hx hb dX10_feed_51 rfl (lv_at hl 0 rfl) ?_
  refine va_get (D := (dC, dI)) (ci := 7) (v := .ref h_rd) (C := RX10) (T := TX10) (N := 8) hx hb hw iwX10 hown hK hP 0 rfl rfl 0 (by decide) (hw _ w_f_X10_12) (fun _ h9 => h9) rfl dX10_feed_52 ?_
  refine lv_iload hx hb dX10_feed_55 (lv_at hl 5 rfl) ?_
  have hPc := hP.sub (ws' := [(h_rd, .inr (4, [.ref h_by, .int 16, .int 0, .int (-1), (v_rd 4), (v_rd 5), (v_rd 6), (v_rd 7), (v_rd 8), (v_rd 9), (v_rd 10)])), (h_by, .inl (cy_by, 600, .inl f9))]) [1, 2] rfl
  have hDc := hD.sub (ws' := [(h_rd, .inr (4, [.ref h_by, .int 16, .int 0, .int (-1), (v_rd 4), (v_rd 5), (v_rd 6), (v_rd 7), (v_rd 8), (v_rd 9), (v_rd 10)])), (h_by, .inl (cy_by, 600, .inl f9))]) [1, 2] (by decide) rfl
  have hKc := hK.sub (tys' := [(cy_by, .int)]) [0] rfl
  have hFc := va_free (wc := [(h_rd, .inr (4, [.ref h_by, .int 16, .int 0, .int (-1), (v_rd 4), (v_rd 5), (v_rd 6), (v_rd 7), (v_rd 8), (v_rd 9), (v_rd 10)])), (h_by, .inl (cy_by, 600, .inl f9))]) hD hS hA [1, 2] rfl
  refine va_callv (va_runVN (As := [.int p5]) (rest := []) ⟨hx, hb, hml, hown, hts⟩ (c_X5_take_16 l dC dI H.size h_rd h_by (fun k => List.getD [.ref h_by, .int 16, .int 0, .int (-1), (v_rd 4), (v_rd 5), (v_rd 6), (v_rd 7), (v_rd 8), (v_rd 9), (v_rd 10)] k .null) cy_by f9 p5) ⟨va_cnB (host := "OppositePairs") 1 hts (gd hT w_code_X5_take) rfl rfl rfl (hN _ n_m_X10_71) (hw _ w_ini_X5) (by decide +kernel) ⟨(Nat.le_of_ble_eq_true rfl), (Nat.le_of_ble_eq_true rfl)⟩, hw _ w_instanceMethod_X5_take, hw _ ws_sel_X5_take⟩ ⟨pre_blind, va_recv hK hP (ci := 4) (q0 := 1) rfl rfl, pre_of hPc hKc hDc hN⟩ rfl rfl hl.1 rfl (lv_room (Nat.le_of_ble_eq_true rfl)) dX10_feed_57 ⟨(Nat.le_of_ble_eq_true rfl), (Nat.le_of_ble_eq_true rfl)⟩) hS (fun q _ h => hFc q h) hFc (fun u t H locs ht hvm hq hB hz1 hk1 hS => ?_)
  obtain ⟨f11, rfl⟩ : ∃ z, z = u := ⟨_, rfl⟩
  obtain ⟨hP1, hK1, hD1⟩ := hB
  rw [ht] at hP1
  have hK1 := va_K.moved hvm.symm hK1
  obtain ⟨hP, hD⟩ := va_join (wr := [(h_xx, .inr (7, [.ref h_rd, (v_xx 1), (v_xx 2), (v_xx 3), (v_xx 4), (v_xx 5), (v_xx 6), (v_xx 7)]))]) (w1 := [(h_rd, .inr (4, [.ref h_by, .int 20, .int 0, .int (-1), (v_rd 4), (v_rd 5), (v_rd 6), (v_rd 7), (v_rd 8), (v_rd 9), (v_rd 10)])), (h_by, .inl (cy_by, 600, .inl f11))]) hP hD [1, 2] [0] rfl rfl (by decide) (by decide) hk1 hFc hP1 hD1
  have hP : va_P (dC, dI) cls [(h_xx, .inr (7, [.ref h_rd, (v_xx 1), (v_xx 2), (v_xx 3), (v_xx 4), (v_xx 5), (v_xx 6), (v_xx 7)])), (h_rd, .inr (4, [.ref h_by, .int 20, .int 0, .int (-1), (v_rd 4), (v_rd 5), (v_rd 6), (v_rd 7), (v_rd 8), (v_rd 9), (v_rd 10)])), (h_by, .inl (cy_by, 600, .inl f11))] H := hP
  have hD : va_D A [(h_xx, .inr (7, [.ref h_rd, (v_xx 1), (v_xx 2), (v_xx 3), (v_xx 4), (v_xx 5), (v_xx 6), (v_xx 7)])), (h_rd, .inr (4, [.ref h_by, .int 20, .int 0, .int (-1), (v_rd 4), (v_rd 5), (v_rd 6), (v_rd 7), (v_rd 8), (v_rd 9), (v_rd 10)])), (h_by, .inl (cy_by, 600, .inl f11))] := hD
  refine lv_aload_n hx hb dX10_feed_60 rfl (lv_at hl 0 rfl) ?_
  refine va_get (D := (dC, dI)) (ci := 7) (v := .ref h_rd) (C := RX10) (T := TX10) (N := 8) hx hb hw iwX10 hown hK hP 0 rfl rfl 0 (by decide) (hw _ w_f_X10_12) (fun _ h9 => h9) rfl dX10_feed_61 ?_
  refine va_getN (D := (dC, dI)) (ci := 4) (v := .int 20) (C := RX5) (T := TX5) (N := 11) (host := "OppositePairs") hx hb hw iwX5 hown hK hP 1 rfl rfl 1 (by decide) (hN.use n_f_X10_67 rfl) (fun _ h9 => h9) rfl dX10_feed_64 ?_
  refine W.widen (k := 0) (n := 0) (Nat.le_of_ble_eq_true rfl) (Nat.le_of_ble_eq_true rfl) ?_
  exact W.iret (v := 20) hx hb hr (fun t ht hW => ⟨⟨20, (), rfl, rfl, trivial⟩, hS.F ht⟩) hS.2.2 dX10_feed_67

set_option maxHeartbeats 4000000 in
set_option maxRecDepth 100000 in
theorem c_X10_end (l : Launch) (dC : Nat → ClassId) (dI : Nat → Nat → Nat) (sz : Nat) (h_xx : Nat) (h_rd : Nat) (v_xx : Nat → Value) (v_rd : Nat → Value) (p1 : Int32) : Met l yX10_end (Ws yX10_end cX10_end 2 (some .boolean)) ({ frames := 0, cells := 0, slots := 0, locals := 0 }) (PRE (dC, dI) cls [] [(h_xx, .inr (7, [.ref h_rd, (v_xx 1), (v_xx 2), (v_xx 3), (v_xx 4), (v_xx 5), (v_xx 6), (v_xx 7)])), (h_rd, .inr (4, [(v_rd 0), .int 0, .int 0, .int (-1), (v_rd 4), (v_rd 5), (v_rd 6), (v_rd 7), (v_rd 8), (v_rd 9), (v_rd 10)]))] sz [.ref h_xx, .int p1]) (va_Qi (fun (r : Int32) (_ : Unit) => r = an_end p1) (fun (_ : Unit) (_ : State) => True) (va_A [(h_xx, .inr (7, [.ref h_rd, (v_xx 1), (v_xx 2), (v_xx 3), (v_xx 4), (v_xx 5), (v_xx 6), (v_xx 7)])), (h_rd, .inr (4, [(v_rd 0), .int 0, .int 0, .int (-1), (v_rd 4), (v_rd 5), (v_rd 6), (v_rd 7), (v_rd 8), (v_rd 9), (v_rd 10)]))] sz)) 0 0 (va_A [(h_xx, .inr (7, [.ref h_rd, (v_xx 1), (v_xx 2), (v_xx 3), (v_xx 4), (v_xx 5), (v_xx 6), (v_xx 7)])), (h_rd, .inr (4, [(v_rd 0), .int 0, .int 0, .int (-1), (v_rd 4), (v_rd 5), (v_rd 6), (v_rd 7), (v_rd 8), (v_rd 9), (v_rd 10)]))] sz) := by
  refine Met.ofW (cc := cX10_end) (maxL := 2) (ret := (some .boolean)) (by decide) rfl ?_
  intro p e s m args below meth c s₁ B hml hv
  obtain ⟨rfl, hsz, hP, hK, hD0, hN⟩ := hv
  have hx := B.exec
  have hb := B.bytes
  have hr := B.returns
  have hts := atoms_spec (ws := Ws yX10_end cX10_end 2 (some .boolean)) B.pre
  have hT : ∀ w ∈ WALL, w ∈ Ws yX10_end cX10_end 2 (some .boolean) := fun w h => List.mem_cons_of_mem _ h
  have hw := fun w (h : w ∈ WALL) => hts w (hT w h)
  have hown : s.vm.findClass RX10 = some m.cls := findClass_of_methodNamed B.named
  have hlocks := B.notSynchronized
  subst hsz
  have hD := hD0.self (sz := s.heap.size)
  generalize hAe : va_A [(h_xx, .inr (7, [.ref h_rd, (v_xx 1), (v_xx 2), (v_xx 3), (v_xx 4), (v_xx 5), (v_xx 6), (v_xx 7)])), (h_rd, .inr (4, [(v_rd 0), .int 0, .int 0, .int (-1), (v_rd 4), (v_rd 5), (v_rd 6), (v_rd 7), (v_rd 8), (v_rd 9), (v_rd 10)]))] s.heap.size = A at hD ⊢
  have hA : ∀ q : Nat, s.heap.size ≤ q → A q := fun q h => by rw [← hAe]; exact Or.inr h
  have hS : va_S A s.heap s.heap [] := va_S.rf
  have hl := lv_entry ([.ref h_xx, .int p1]) (n := 2) (Nat.le_of_ble_eq_true rfl)
  rw [lg_entry_eq]
  generalize (lg_sl ([.ref h_xx, .int p1]) ++ List.replicate (2 - (lg_sl ([.ref h_xx, .int p1])).length) Slot.unset).toArray = ls at hl ⊢
  have hl : lv_has ls 2 [(0, .ref h_xx), (1, .int p1)] := hl
  refine lv_iload_n hx hb dX10_end_0 rfl (lv_at hl 1 rfl) ?_
  refine lv_if_lt (tgt := 15) hx hb dX10_end_1 (by decide) (fun c1 => ?_) (fun c1 => ?_)
  · have kc1 := (cv_lt (rfl : (p1).toInt = (p1).toInt) (by decide : (0 : Int32).toInt = 0)).mp c1
    refine lv_iconst (v := 0) hx hb dX10_end_15 (by decide) ?_
    refine W.widen (k := 0) (n := 0) (Nat.le_of_ble_eq_true rfl) (Nat.le_of_ble_eq_true rfl) ?_
    exact W.zret (v := 0) (ty := .boolean) hx hb hr (by decide) (fun t ht hW => ⟨⟨0, (), rfl, (by unfold an_end; split <;> first | rfl | (exfalso; omega)), trivial⟩, hS.F ht⟩) hS.2.2 dX10_end_16
  · have kc1 := (not_congr (cv_lt (rfl : (p1).toInt = (p1).toInt) (by decide : (0 : Int32).toInt = 0))).mp c1
    refine lv_iload_n hx hb dX10_end_4 rfl (lv_at hl 1 rfl) ?_
    refine lv_aload_n hx hb dX10_end_5 rfl (lv_at hl 0 rfl) ?_
    refine va_get (D := (dC, dI)) (ci := 7) (v := .ref h_rd) (C := RX10) (T := TX10) (N := 8) hx hb hw iwX10 hown hK hP 0 rfl rfl 0 (by decide) (hw _ w_f_X10_12) (fun _ h9 => h9) rfl dX10_end_6 ?_
    refine va_getN (D := (dC, dI)) (ci := 4) (v := .int 0) (C := RX5) (T := TX5) (N := 11) (host := "OppositePairs") hx hb hw iwX5 hown hK hP 1 rfl rfl 1 (by decide) (hN.use n_f_X10_67 rfl) (fun _ h9 => h9) rfl dX10_end_9 ?_
    refine lv_icmp_le (tgt := 17) hx hb dX10_end_12 (by decide) (fun c2 => ?_) (fun c2 => ?_)
    · have kc2 := (cv_le (rfl : (p1).toInt = (p1).toInt) (by decide : (0 : Int32).toInt = 0)).mp c2
      refine lv_aload_n hx hb dX10_end_17 rfl (lv_at hl 0 rfl) ?_
      refine va_get (D := (dC, dI)) (ci := 7) (v := .ref h_rd) (C := RX10) (T := TX10) (N := 8) hx hb hw iwX10 hown hK hP 0 rfl rfl 0 (by decide) (hw _ w_f_X10_12) (fun _ h9 => h9) rfl dX10_end_18 ?_
      refine lv_iload_n hx hb dX10_end_21 rfl (lv_at hl 1 rfl) ?_
      refine va_putN (D := (dC, dI)) (ci := 4) (v := .int p1) (ty := tyX5 1) (C := RX5) (T := TX5) (N := 11) (host := "OppositePairs") hx hb hw iwX5 tyX5 tyX5_ok nmX5 hown hK hP hD hS 1 rfl rfl 1 (by decide) (hN.use n_f_X10_67 rfl) (fun _ h9 => h9) rfl (tyX5_ok 1 (by decide)) rfl rfl (Nat.le_of_ble_eq_true rfl) dX10_end_22 (fun H locs hP hD hS => ?_)
      have hP : va_P (dC, dI) cls [(h_xx, .inr (7, [.ref h_rd, (v_xx 1), (v_xx 2), (v_xx 3), (v_xx 4), (v_xx 5), (v_xx 6), (v_xx 7)])), (h_rd, .inr (4, [(v_rd 0), .int p1, .int 0, .int (-1), (v_rd 4), (v_rd 5), (v_rd 6), (v_rd 7), (v_rd 8), (v_rd 9), (v_rd 10)]))] H := hP
      have hD : va_D A [(h_xx, .inr (7, [.ref h_rd, (v_xx 1), (v_xx 2), (v_xx 3), (v_xx 4), (v_xx 5), (v_xx 6), (v_xx 7)])), (h_rd, .inr (4, [(v_rd 0), .int p1, .int 0, .int (-1), (v_rd 4), (v_rd 5), (v_rd 6), (v_rd 7), (v_rd 8), (v_rd 9), (v_rd 10)]))] := hD
      refine lv_iconst (v := 1) hx hb dX10_end_25 (by decide) ?_
      refine W.widen (k := 0) (n := 0) (Nat.le_of_ble_eq_true rfl) (Nat.le_of_ble_eq_true rfl) ?_
      exact W.zret (v := 1) (ty := .boolean) hx hb hr (by decide) (fun t ht hW => ⟨⟨1, (), rfl, (by unfold an_end; split <;> first | rfl | (exfalso; omega)), trivial⟩, hS.F ht⟩) hS.2.2 dX10_end_26
    · have kc2 := (not_congr (cv_le (rfl : (p1).toInt = (p1).toInt) (by decide : (0 : Int32).toInt = 0))).mp c2
      refine lv_iconst (v := 0) hx hb dX10_end_15 (by decide) ?_
      refine W.widen (k := 0) (n := 0) (Nat.le_of_ble_eq_true rfl) (Nat.le_of_ble_eq_true rfl) ?_
      exact W.zret (v := 0) (ty := .boolean) hx hb hr (by decide) (fun t ht hW => ⟨⟨0, (), rfl, (by unfold an_end; split <;> first | rfl | (exfalso; omega)), trivial⟩, hS.F ht⟩) hS.2.2 dX10_end_16

set_option maxHeartbeats 4000000 in
set_option maxRecDepth 100000 in
theorem c_X10_clauses (l : Launch) (dC : Nat → ClassId) (dI : Nat → Nat → Nat) (sz : Nat) (h_xx : Nat) (h_rd : Nat) (h_td : Nat) (h_dr : Nat) (h_pv : Nat) (h_mx : Nat) (h_an : Nat) (v_xx : Nat → Value) (v_rd : Nat → Value) (v_td : Nat → Value) (v_dr : Nat → Value) (v_pv : Nat → Value) (v_mx : Nat → Value) (v_an : Nat → Value) : Met l yX10_clauses (Ws yX10_clauses cX10_clauses 2 (some .int)) ({ frames := 2, cells := 0, slots := 0, locals := 42 }) (PRE (dC, dI) cls [] [(h_xx, .inr (7, [.ref h_rd, .ref h_td, .ref h_dr, (v_xx 3), (v_xx 4), .ref h_pv, .ref h_mx, .ref h_an])), (h_rd, .inr (4, [(v_rd 0), .int 0, .int 0, .int (-1), (v_rd 4), (v_rd 5), (v_rd 6), (v_rd 7), (v_rd 8), (v_rd 9), (v_rd 10)])), (h_td, .inr (5, [(v_td 0), (v_td 1), (v_td 2), (v_td 3), (v_td 4), (v_td 5), (v_td 6), (v_td 7), (v_td 8), .int 0])), (h_dr, .inr (5, [(v_dr 0), (v_dr 1), (v_dr 2), (v_dr 3), (v_dr 4), (v_dr 5), (v_dr 6), (v_dr 7), (v_dr 8), (v_dr 9)])), (h_pv, .inr (3, [(v_pv 0), (v_pv 1), (v_pv 2), (v_pv 3), (v_pv 4), (v_pv 5), (v_pv 6), .int 0, (v_pv 8), .int 0, (v_pv 10), (v_pv 11), .int 0, .int 0, .int 0, .int 0, (v_pv 16), .int 0])), (h_mx, .inr (2, [(v_mx 0), (v_mx 1), (v_mx 2), (v_mx 3), (v_mx 4), (v_mx 5), (v_mx 6), (v_mx 7), (v_mx 8), (v_mx 9), (v_mx 10), (v_mx 11)])), (h_an, .inr (0, [(v_an 0), (v_an 1), (v_an 2), (v_an 3), .int 0, .int 0]))] sz [.ref h_xx]) (va_Qi (fun (r : Int32) (_ : Unit) => r = 0) (fun (_ : Unit) (_ : State) => True) (va_A [(h_xx, .inr (7, [.ref h_rd, .ref h_td, .ref h_dr, (v_xx 3), (v_xx 4), .ref h_pv, .ref h_mx, .ref h_an])), (h_rd, .inr (4, [(v_rd 0), .int 0, .int 0, .int (-1), (v_rd 4), (v_rd 5), (v_rd 6), (v_rd 7), (v_rd 8), (v_rd 9), (v_rd 10)])), (h_td, .inr (5, [(v_td 0), (v_td 1), (v_td 2), (v_td 3), (v_td 4), (v_td 5), (v_td 6), (v_td 7), (v_td 8), .int 0])), (h_dr, .inr (5, [(v_dr 0), (v_dr 1), (v_dr 2), (v_dr 3), (v_dr 4), (v_dr 5), (v_dr 6), (v_dr 7), (v_dr 8), (v_dr 9)])), (h_pv, .inr (3, [(v_pv 0), (v_pv 1), (v_pv 2), (v_pv 3), (v_pv 4), (v_pv 5), (v_pv 6), .int 0, (v_pv 8), .int 0, (v_pv 10), (v_pv 11), .int 0, .int 0, .int 0, .int 0, (v_pv 16), .int 0])), (h_mx, .inr (2, [(v_mx 0), (v_mx 1), (v_mx 2), (v_mx 3), (v_mx 4), (v_mx 5), (v_mx 6), (v_mx 7), (v_mx 8), (v_mx 9), (v_mx 10), (v_mx 11)])), (h_an, .inr (0, [(v_an 0), (v_an 1), (v_an 2), (v_an 3), .int 0, .int 0]))] sz)) 0 0 (va_A [(h_xx, .inr (7, [.ref h_rd, .ref h_td, .ref h_dr, (v_xx 3), (v_xx 4), .ref h_pv, .ref h_mx, .ref h_an])), (h_rd, .inr (4, [(v_rd 0), .int 0, .int 0, .int (-1), (v_rd 4), (v_rd 5), (v_rd 6), (v_rd 7), (v_rd 8), (v_rd 9), (v_rd 10)])), (h_td, .inr (5, [(v_td 0), (v_td 1), (v_td 2), (v_td 3), (v_td 4), (v_td 5), (v_td 6), (v_td 7), (v_td 8), .int 0])), (h_dr, .inr (5, [(v_dr 0), (v_dr 1), (v_dr 2), (v_dr 3), (v_dr 4), (v_dr 5), (v_dr 6), (v_dr 7), (v_dr 8), (v_dr 9)])), (h_pv, .inr (3, [(v_pv 0), (v_pv 1), (v_pv 2), (v_pv 3), (v_pv 4), (v_pv 5), (v_pv 6), .int 0, (v_pv 8), .int 0, (v_pv 10), (v_pv 11), .int 0, .int 0, .int 0, .int 0, (v_pv 16), .int 0])), (h_mx, .inr (2, [(v_mx 0), (v_mx 1), (v_mx 2), (v_mx 3), (v_mx 4), (v_mx 5), (v_mx 6), (v_mx 7), (v_mx 8), (v_mx 9), (v_mx 10), (v_mx 11)])), (h_an, .inr (0, [(v_an 0), (v_an 1), (v_an 2), (v_an 3), .int 0, .int 0]))] sz) := by
  refine Met.ofW (cc := cX10_clauses) (maxL := 2) (ret := (some .int)) (by decide) rfl ?_
  intro p e s m args below meth c s₁ B hml hv
  obtain ⟨rfl, hsz, hP, hK, hD0, hN⟩ := hv
  have hx := B.exec
  have hb := B.bytes
  have hr := B.returns
  have hts := atoms_spec (ws := Ws yX10_clauses cX10_clauses 2 (some .int)) B.pre
  have hT : ∀ w ∈ WALL, w ∈ Ws yX10_clauses cX10_clauses 2 (some .int) := fun w h => List.mem_cons_of_mem _ h
  have hw := fun w (h : w ∈ WALL) => hts w (hT w h)
  have hown : s.vm.findClass RX10 = some m.cls := findClass_of_methodNamed B.named
  have hlocks := B.notSynchronized
  subst hsz
  have hD := hD0.self (sz := s.heap.size)
  generalize hAe : va_A [(h_xx, .inr (7, [.ref h_rd, .ref h_td, .ref h_dr, (v_xx 3), (v_xx 4), .ref h_pv, .ref h_mx, .ref h_an])), (h_rd, .inr (4, [(v_rd 0), .int 0, .int 0, .int (-1), (v_rd 4), (v_rd 5), (v_rd 6), (v_rd 7), (v_rd 8), (v_rd 9), (v_rd 10)])), (h_td, .inr (5, [(v_td 0), (v_td 1), (v_td 2), (v_td 3), (v_td 4), (v_td 5), (v_td 6), (v_td 7), (v_td 8), .int 0])), (h_dr, .inr (5, [(v_dr 0), (v_dr 1), (v_dr 2), (v_dr 3), (v_dr 4), (v_dr 5), (v_dr 6), (v_dr 7), (v_dr 8), (v_dr 9)])), (h_pv, .inr (3, [(v_pv 0), (v_pv 1), (v_pv 2), (v_pv 3), (v_pv 4), (v_pv 5), (v_pv 6), .int 0, (v_pv 8), .int 0, (v_pv 10), (v_pv 11), .int 0, .int 0, .int 0, .int 0, (v_pv 16), .int 0])), (h_mx, .inr (2, [(v_mx 0), (v_mx 1), (v_mx 2), (v_mx 3), (v_mx 4), (v_mx 5), (v_mx 6), (v_mx 7), (v_mx 8), (v_mx 9), (v_mx 10), (v_mx 11)])), (h_an, .inr (0, [(v_an 0), (v_an 1), (v_an 2), (v_an 3), .int 0, .int 0]))] s.heap.size = A at hD ⊢
  have hA : ∀ q : Nat, s.heap.size ≤ q → A q := fun q h => by rw [← hAe]; exact Or.inr h
  have hS : va_S A s.heap s.heap [] := va_S.rf
  have hl := lv_entry ([.ref h_xx]) (n := 2) (Nat.le_of_ble_eq_true rfl)
  rw [lg_entry_eq]
  generalize (lg_sl ([.ref h_xx]) ++ List.replicate (2 - (lg_sl ([.ref h_xx])).length) Slot.unset).toArray = ls at hl ⊢
  have hl : lv_has ls 2 [(0, .ref h_xx)] := hl
  refine lv_aload_n hx hb dX10_clauses_0 rfl (lv_at hl 0 rfl) ?_
  refine va_get (D := (dC, dI)) (ci := 7) (v := .ref h_rd) (C := RX10) (T := TX10) (N := 8) hx hb hw iwX10 hown hK hP 0 rfl rfl 0 (by decide) (hw _ w_f_X10_12) (fun _ h9 => h9) rfl dX10_clauses_1 ?_
  refine lv_aload_n hx hb dX10_clauses_4 rfl (lv_at hl 0 rfl) ?_
  refine va_get (D := (dC, dI)) (ci := 7) (v := .ref h_dr) (C := RX10) (T := TX10) (N := 8) hx hb hw iwX10 hown hK hP 0 rfl rfl 2 (by decide) (hw _ w_f_X10_23) (fun _ h9 => h9) rfl dX10_clauses_5 ?_
  have hPc := hP.sub (ws' := [(h_rd, .inr (4, [(v_rd 0), .int 0, .int 0, .int (-1), (v_rd 4), (v_rd 5), (v_rd 6), (v_rd 7), (v_rd 8), (v_rd 9), (v_rd 10)])), (h_dr, .inr (5, [(v_dr 0), (v_dr 1), (v_dr 2), (v_dr 3), (v_dr 4), (v_dr 5), (v_dr 6), (v_dr 7), (v_dr 8), (v_dr 9)]))]) [1, 3] rfl
  have hDc := hD.sub (ws' := [(h_rd, .inr (4, [(v_rd 0), .int 0, .int 0, .int (-1), (v_rd 4), (v_rd 5), (v_rd 6), (v_rd 7), (v_rd 8), (v_rd 9), (v_rd 10)])), (h_dr, .inr (5, [(v_dr 0), (v_dr 1), (v_dr 2), (v_dr 3), (v_dr 4), (v_dr 5), (v_dr 6), (v_dr 7), (v_dr 8), (v_dr 9)]))]) [1, 3] (by decide) rfl
  have hKc := hK.sub (tys' := []) [] rfl
  have hFc := va_free (wc := [(h_rd, .inr (4, [(v_rd 0), .int 0, .int 0, .int (-1), (v_rd 4), (v_rd 5), (v_rd 6), (v_rd 7), (v_rd 8), (v_rd 9), (v_rd 10)])), (h_dr, .inr (5, [(v_dr 0), (v_dr 1), (v_dr 2), (v_dr 3), (v_dr 4), (v_dr 5), (v_dr 6), (v_dr 7), (v_dr 8), (v_dr 9)]))]) hD hS hA [1, 3] rfl
  refine va_callv (va_runVN (As := [.ref h_dr]) (rest := []) ⟨hx, hb, hml, hown, hts⟩ (c_X5_read l dC dI s.heap.size h_rd h_dr (fun k => List.getD [(v_rd 0), .int 0, .int 0, .int (-1), (v_rd 4), (v_rd 5), (v_rd 6), (v_rd 7), (v_rd 8), (v_rd 9), (v_rd 10)] k .null) v_dr) ⟨va_cnB (host := "OppositePairs") 1 hts (gd hT w_code_X5_read) rfl rfl rfl (hN _ n_m_X10_75) (hw _ w_ini_X5) (by decide +kernel) ⟨(Nat.le_of_ble_eq_true rfl), (Nat.le_of_ble_eq_true rfl)⟩, hw _ w_instanceMethod_X5_read, hw _ ws_sel_X5_read⟩ ⟨pre_blind, va_recv hK hP (ci := 4) (q0 := 1) rfl rfl, pre_of hPc hKc hDc hN⟩ rfl rfl hl.1 rfl (lv_room (Nat.le_of_ble_eq_true rfl)) dX10_clauses_8 ⟨(Nat.le_of_ble_eq_true rfl), (Nat.le_of_ble_eq_true rfl)⟩) hS (fun q _ h => hFc q h) hFc (fun u t H locs ht hvm hq hB hz1 hk1 hS => ?_)
  obtain ⟨hP1, hK1, hD1⟩ := hB
  rw [ht] at hP1
  have hK1 := va_K.moved hvm.symm hK1
  obtain ⟨hP, hD⟩ := va_join (wr := [(h_xx, .inr (7, [.ref h_rd, .ref h_td, .ref h_dr, (v_xx 3), (v_xx 4), .ref h_pv, .ref h_mx, .ref h_an])), (h_td, .inr (5, [(v_td 0), (v_td 1), (v_td 2), (v_td 3), (v_td 4), (v_td 5), (v_td 6), (v_td 7), (v_td 8), .int 0])), (h_pv, .inr (3, [(v_pv 0), (v_pv 1), (v_pv 2), (v_pv 3), (v_pv 4), (v_pv 5), (v_pv 6), .int 0, (v_pv 8), .int 0, (v_pv 10), (v_pv 11), .int 0, .int 0, .int 0, .int 0, (v_pv 16), .int 0])), (h_mx, .inr (2, [(v_mx 0), (v_mx 1), (v_mx 2), (v_mx 3), (v_mx 4), (v_mx 5), (v_mx 6), (v_mx 7), (v_mx 8), (v_mx 9), (v_mx 10), (v_mx 11)])), (h_an, .inr (0, [(v_an 0), (v_an 1), (v_an 2), (v_an 3), .int 0, .int 0]))]) (w1 := [(h_dr, .inr (5, [(v_dr 0), (v_dr 1), (v_dr 2), (v_dr 3), .int 0, (v_dr 5), (v_dr 6), (v_dr 7), (v_dr 8), .int 0])), (h_rd, .inr (4, [(v_rd 0), .int 0, .int 0, .int (-1), .ref h_dr, (v_rd 5), (v_rd 6), .int 0, .int 0, .int (-1), (v_rd 10)]))]) hP hD [1, 3] [0, 2, 4, 5, 6] rfl rfl (by decide) (by decide) hk1 hFc hP1 hD1
  have hP : va_P (dC, dI) cls [(h_xx, .inr (7, [.ref h_rd, .ref h_td, .ref h_dr, (v_xx 3), (v_xx 4), .ref h_pv, .ref h_mx, .ref h_an])), (h_td, .inr (5, [(v_td 0), (v_td 1), (v_td 2), (v_td 3), (v_td 4), (v_td 5), (v_td 6), (v_td 7), (v_td 8), .int 0])), (h_pv, .inr (3, [(v_pv 0), (v_pv 1), (v_pv 2), (v_pv 3), (v_pv 4), (v_pv 5), (v_pv 6), .int 0, (v_pv 8), .int 0, (v_pv 10), (v_pv 11), .int 0, .int 0, .int 0, .int 0, (v_pv 16), .int 0])), (h_mx, .inr (2, [(v_mx 0), (v_mx 1), (v_mx 2), (v_mx 3), (v_mx 4), (v_mx 5), (v_mx 6), (v_mx 7), (v_mx 8), (v_mx 9), (v_mx 10), (v_mx 11)])), (h_an, .inr (0, [(v_an 0), (v_an 1), (v_an 2), (v_an 3), .int 0, .int 0])), (h_dr, .inr (5, [(v_dr 0), (v_dr 1), (v_dr 2), (v_dr 3), .int 0, (v_dr 5), (v_dr 6), (v_dr 7), (v_dr 8), .int 0])), (h_rd, .inr (4, [(v_rd 0), .int 0, .int 0, .int (-1), .ref h_dr, (v_rd 5), (v_rd 6), .int 0, .int 0, .int (-1), (v_rd 10)]))] H := hP
  have hD : va_D A [(h_xx, .inr (7, [.ref h_rd, .ref h_td, .ref h_dr, (v_xx 3), (v_xx 4), .ref h_pv, .ref h_mx, .ref h_an])), (h_td, .inr (5, [(v_td 0), (v_td 1), (v_td 2), (v_td 3), (v_td 4), (v_td 5), (v_td 6), (v_td 7), (v_td 8), .int 0])), (h_pv, .inr (3, [(v_pv 0), (v_pv 1), (v_pv 2), (v_pv 3), (v_pv 4), (v_pv 5), (v_pv 6), .int 0, (v_pv 8), .int 0, (v_pv 10), (v_pv 11), .int 0, .int 0, .int 0, .int 0, (v_pv 16), .int 0])), (h_mx, .inr (2, [(v_mx 0), (v_mx 1), (v_mx 2), (v_mx 3), (v_mx 4), (v_mx 5), (v_mx 6), (v_mx 7), (v_mx 8), (v_mx 9), (v_mx 10), (v_mx 11)])), (h_an, .inr (0, [(v_an 0), (v_an 1), (v_an 2), (v_an 3), .int 0, .int 0])), (h_dr, .inr (5, [(v_dr 0), (v_dr 1), (v_dr 2), (v_dr 3), .int 0, (v_dr 5), (v_dr 6), (v_dr 7), (v_dr 8), .int 0])), (h_rd, .inr (4, [(v_rd 0), .int 0, .int 0, .int (-1), .ref h_dr, (v_rd 5), (v_rd 6), .int 0, .int 0, .int (-1), (v_rd 10)]))] := hD
  refine lv_aload_n hx hb dX10_clauses_11 rfl (lv_at hl 0 rfl) ?_
  refine va_get (D := (dC, dI)) (ci := 7) (v := .ref h_rd) (C := RX10) (T := TX10) (N := 8) hx hb hw iwX10 hown hK hP 0 rfl rfl 0 (by decide) (hw _ w_f_X10_12) (fun _ h9 => h9) rfl dX10_clauses_12 ?_
  refine va_getN (D := (dC, dI)) (ci := 4) (v := .int 0) (C := RX5) (T := TX5) (N := 11) (host := "OppositePairs") hx hb hw iwX5 hown hK hP 6 rfl rfl 2 (by decide) (hN.use n_f_X10_78 rfl) (fun _ h9 => h9) rfl dX10_clauses_15 ?_
  refine lv_if_ne (tgt := 25) hx hb dX10_clauses_18 (by decide) (fun c9 => absurd c9 (by decide)) (fun _ => ?_)
  refine lv_iconst (v := 1) hx hb dX10_clauses_21 (by decide) ?_
  refine lv_goto (tgt := 26) hx hb dX10_clauses_22 (by decide) ?_
  refine lv_istore_n (lv' := [(1, .int 1), (0, .ref h_xx)]) hx hb dX10_clauses_26 rfl hl (by decide) rfl (fun ls hl => ?_)
  refine lv_iload_n hx hb dX10_clauses_27 rfl (lv_at hl 0 rfl) ?_
  refine lv_if_eq (tgt := 46) hx hb dX10_clauses_28 (by decide) (fun c9 => absurd c9 (by decide)) (fun _ => ?_)
  refine lv_aload_n hx hb dX10_clauses_31 rfl (lv_at hl 1 rfl) ?_
  refine va_get (D := (dC, dI)) (ci := 7) (v := .ref h_rd) (C := RX10) (T := TX10) (N := 8) hx hb hw iwX10 hown hK hP 0 rfl rfl 0 (by decide) (hw _ w_f_X10_12) (fun _ h9 => h9) rfl dX10_clauses_32 ?_
  refine lv_aload_n hx hb dX10_clauses_35 rfl (lv_at hl 1 rfl) ?_
  refine va_get (D := (dC, dI)) (ci := 7) (v := .ref h_td) (C := RX10) (T := TX10) (N := 8) hx hb hw iwX10 hown hK hP 0 rfl rfl 1 (by decide) (hw _ w_f_X10_19) (fun _ h9 => h9) rfl dX10_clauses_36 ?_
  have hPc := hP.sub (ws' := [(h_rd, .inr (4, [(v_rd 0), .int 0, .int 0, .int (-1), .ref h_dr, (v_rd 5), (v_rd 6), .int 0, .int 0, .int (-1), (v_rd 10)])), (h_td, .inr (5, [(v_td 0), (v_td 1), (v_td 2), (v_td 3), (v_td 4), (v_td 5), (v_td 6), (v_td 7), (v_td 8), .int 0]))]) [6, 1] rfl
  have hDc := hD.sub (ws' := [(h_rd, .inr (4, [(v_rd 0), .int 0, .int 0, .int (-1), .ref h_dr, (v_rd 5), (v_rd 6), .int 0, .int 0, .int (-1), (v_rd 10)])), (h_td, .inr (5, [(v_td 0), (v_td 1), (v_td 2), (v_td 3), (v_td 4), (v_td 5), (v_td 6), (v_td 7), (v_td 8), .int 0]))]) [6, 1] (by decide) rfl
  have hKc := hK.sub (tys' := []) [] rfl
  have hFc := va_free (wc := [(h_rd, .inr (4, [(v_rd 0), .int 0, .int 0, .int (-1), .ref h_dr, (v_rd 5), (v_rd 6), .int 0, .int 0, .int (-1), (v_rd 10)])), (h_td, .inr (5, [(v_td 0), (v_td 1), (v_td 2), (v_td 3), (v_td 4), (v_td 5), (v_td 6), (v_td 7), (v_td 8), .int 0]))]) hD hS hA [6, 1] rfl
  refine va_callv (va_runVN (As := [.ref h_td]) (rest := []) ⟨hx, hb, hml, hown, hts⟩ (c_X5_read l dC dI H.size h_rd h_td (fun k => List.getD [(v_rd 0), .int 0, .int 0, .int (-1), .ref h_dr, (v_rd 5), (v_rd 6), .int 0, .int 0, .int (-1), (v_rd 10)] k .null) (fun k => List.getD [(v_td 0), (v_td 1), (v_td 2), (v_td 3), (v_td 4), (v_td 5), (v_td 6), (v_td 7), (v_td 8), .int 0] k .null)) ⟨va_cnB (host := "OppositePairs") 1 hts (gd hT w_code_X5_read) rfl rfl rfl (hN _ n_m_X10_75) (hw _ w_ini_X5) (by decide +kernel) ⟨(Nat.le_of_ble_eq_true rfl), (Nat.le_of_ble_eq_true rfl)⟩, hw _ w_instanceMethod_X5_read, hw _ ws_sel_X5_read⟩ ⟨pre_blind, va_recv hK hP (ci := 4) (q0 := 6) rfl rfl, pre_of hPc hKc hDc hN⟩ rfl rfl hl.1 rfl (lv_room (Nat.le_of_ble_eq_true rfl)) dX10_clauses_39 ⟨(Nat.le_of_ble_eq_true rfl), (Nat.le_of_ble_eq_true rfl)⟩) hS (fun q _ h => hFc q h) hFc (fun u t H locs ht hvm hq hB hz1 hk1 hS => ?_)
  obtain ⟨hP1, hK1, hD1⟩ := hB
  rw [ht] at hP1
  have hK1 := va_K.moved hvm.symm hK1
  obtain ⟨hP, hD⟩ := va_join (wr := [(h_xx, .inr (7, [.ref h_rd, .ref h_td, .ref h_dr, (v_xx 3), (v_xx 4), .ref h_pv, .ref h_mx, .ref h_an])), (h_pv, .inr (3, [(v_pv 0), (v_pv 1), (v_pv 2), (v_pv 3), (v_pv 4), (v_pv 5), (v_pv 6), .int 0, (v_pv 8), .int 0, (v_pv 10), (v_pv 11), .int 0, .int 0, .int 0, .int 0, (v_pv 16), .int 0])), (h_mx, .inr (2, [(v_mx 0), (v_mx 1), (v_mx 2), (v_mx 3), (v_mx 4), (v_mx 5), (v_mx 6), (v_mx 7), (v_mx 8), (v_mx 9), (v_mx 10), (v_mx 11)])), (h_an, .inr (0, [(v_an 0), (v_an 1), (v_an 2), (v_an 3), .int 0, .int 0])), (h_dr, .inr (5, [(v_dr 0), (v_dr 1), (v_dr 2), (v_dr 3), .int 0, (v_dr 5), (v_dr 6), (v_dr 7), (v_dr 8), .int 0]))]) (w1 := [(h_td, .inr (5, [(v_td 0), (v_td 1), (v_td 2), (v_td 3), .int 0, (v_td 5), (v_td 6), (v_td 7), (v_td 8), .int 0])), (h_rd, .inr (4, [(v_rd 0), .int 0, .int 0, .int (-1), .ref h_td, (v_rd 5), (v_rd 6), .int 0, .int 0, .int (-1), (v_rd 10)]))]) hP hD [6, 1] [0, 2, 3, 4, 5] rfl rfl (by decide) (by decide) hk1 hFc hP1 hD1
  have hP : va_P (dC, dI) cls [(h_xx, .inr (7, [.ref h_rd, .ref h_td, .ref h_dr, (v_xx 3), (v_xx 4), .ref h_pv, .ref h_mx, .ref h_an])), (h_pv, .inr (3, [(v_pv 0), (v_pv 1), (v_pv 2), (v_pv 3), (v_pv 4), (v_pv 5), (v_pv 6), .int 0, (v_pv 8), .int 0, (v_pv 10), (v_pv 11), .int 0, .int 0, .int 0, .int 0, (v_pv 16), .int 0])), (h_mx, .inr (2, [(v_mx 0), (v_mx 1), (v_mx 2), (v_mx 3), (v_mx 4), (v_mx 5), (v_mx 6), (v_mx 7), (v_mx 8), (v_mx 9), (v_mx 10), (v_mx 11)])), (h_an, .inr (0, [(v_an 0), (v_an 1), (v_an 2), (v_an 3), .int 0, .int 0])), (h_dr, .inr (5, [(v_dr 0), (v_dr 1), (v_dr 2), (v_dr 3), .int 0, (v_dr 5), (v_dr 6), (v_dr 7), (v_dr 8), .int 0])), (h_td, .inr (5, [(v_td 0), (v_td 1), (v_td 2), (v_td 3), .int 0, (v_td 5), (v_td 6), (v_td 7), (v_td 8), .int 0])), (h_rd, .inr (4, [(v_rd 0), .int 0, .int 0, .int (-1), .ref h_td, (v_rd 5), (v_rd 6), .int 0, .int 0, .int (-1), (v_rd 10)]))] H := hP
  have hD : va_D A [(h_xx, .inr (7, [.ref h_rd, .ref h_td, .ref h_dr, (v_xx 3), (v_xx 4), .ref h_pv, .ref h_mx, .ref h_an])), (h_pv, .inr (3, [(v_pv 0), (v_pv 1), (v_pv 2), (v_pv 3), (v_pv 4), (v_pv 5), (v_pv 6), .int 0, (v_pv 8), .int 0, (v_pv 10), (v_pv 11), .int 0, .int 0, .int 0, .int 0, (v_pv 16), .int 0])), (h_mx, .inr (2, [(v_mx 0), (v_mx 1), (v_mx 2), (v_mx 3), (v_mx 4), (v_mx 5), (v_mx 6), (v_mx 7), (v_mx 8), (v_mx 9), (v_mx 10), (v_mx 11)])), (h_an, .inr (0, [(v_an 0), (v_an 1), (v_an 2), (v_an 3), .int 0, .int 0])), (h_dr, .inr (5, [(v_dr 0), (v_dr 1), (v_dr 2), (v_dr 3), .int 0, (v_dr 5), (v_dr 6), (v_dr 7), (v_dr 8), .int 0])), (h_td, .inr (5, [(v_td 0), (v_td 1), (v_td 2), (v_td 3), .int 0, (v_td 5), (v_td 6), (v_td 7), (v_td 8), .int 0])), (h_rd, .inr (4, [(v_rd 0), .int 0, .int 0, .int (-1), .ref h_td, (v_rd 5), (v_rd 6), .int 0, .int 0, .int (-1), (v_rd 10)]))] := hD
  refine lv_aload_n hx hb dX10_clauses_42 rfl (lv_at hl 1 rfl) ?_
  have hPc := hP.sub (ws' := [(h_xx, .inr (7, [.ref h_rd, .ref h_td, .ref h_dr, (v_xx 3), (v_xx 4), .ref h_pv, .ref h_mx, .ref h_an])), (h_pv, .inr (3, [(v_pv 0), (v_pv 1), (v_pv 2), (v_pv 3), (v_pv 4), (v_pv 5), (v_pv 6), .int 0, (v_pv 8), .int 0, (v_pv 10), (v_pv 11), .int 0, .int 0, .int 0, .int 0, (v_pv 16), .int 0])), (h_mx, .inr (2, [(v_mx 0), (v_mx 1), (v_mx 2), (v_mx 3), (v_mx 4), (v_mx 5), (v_mx 6), (v_mx 7), (v_mx 8), (v_mx 9), (v_mx 10), (v_mx 11)])), (h_an, .inr (0, [(v_an 0), (v_an 1), (v_an 2), (v_an 3), .int 0, .int 0]))]) [0, 1, 2, 3] rfl
  have hDc := hD.sub (ws' := [(h_xx, .inr (7, [.ref h_rd, .ref h_td, .ref h_dr, (v_xx 3), (v_xx 4), .ref h_pv, .ref h_mx, .ref h_an])), (h_pv, .inr (3, [(v_pv 0), (v_pv 1), (v_pv 2), (v_pv 3), (v_pv 4), (v_pv 5), (v_pv 6), .int 0, (v_pv 8), .int 0, (v_pv 10), (v_pv 11), .int 0, .int 0, .int 0, .int 0, (v_pv 16), .int 0])), (h_mx, .inr (2, [(v_mx 0), (v_mx 1), (v_mx 2), (v_mx 3), (v_mx 4), (v_mx 5), (v_mx 6), (v_mx 7), (v_mx 8), (v_mx 9), (v_mx 10), (v_mx 11)])), (h_an, .inr (0, [(v_an 0), (v_an 1), (v_an 2), (v_an 3), .int 0, .int 0]))]) [0, 1, 2, 3] (by decide) rfl
  have hKc := hK.sub (tys' := []) [] rfl
  have hFc := va_free (wc := [(h_xx, .inr (7, [.ref h_rd, .ref h_td, .ref h_dr, (v_xx 3), (v_xx 4), .ref h_pv, .ref h_mx, .ref h_an])), (h_pv, .inr (3, [(v_pv 0), (v_pv 1), (v_pv 2), (v_pv 3), (v_pv 4), (v_pv 5), (v_pv 6), .int 0, (v_pv 8), .int 0, (v_pv 10), (v_pv 11), .int 0, .int 0, .int 0, .int 0, (v_pv 16), .int 0])), (h_mx, .inr (2, [(v_mx 0), (v_mx 1), (v_mx 2), (v_mx 3), (v_mx 4), (v_mx 5), (v_mx 6), (v_mx 7), (v_mx 8), (v_mx 9), (v_mx 10), (v_mx 11)])), (h_an, .inr (0, [(v_an 0), (v_an 1), (v_an 2), (v_an 3), .int 0, .int 0]))]) hD hS hA [0, 1, 2, 3] rfl
  refine va_callv (va_runV (As := []) (rest := []) ⟨hx, hb, hml, hown, hts⟩ (c_X10_forgetAll l dC dI H.size h_xx h_pv h_mx h_an (fun k => List.getD [.ref h_rd, .ref h_td, .ref h_dr, (v_xx 3), (v_xx 4), .ref h_pv, .ref h_mx, .ref h_an] k .null) (fun k => List.getD [(v_pv 0), (v_pv 1), (v_pv 2), (v_pv 3), (v_pv 4), (v_pv 5), (v_pv 6), .int 0, (v_pv 8), .int 0, (v_pv 10), (v_pv 11), .int 0, .int 0, .int 0, .int 0, (v_pv 16), .int 0] k .null) v_mx (fun k => List.getD [(v_an 0), (v_an 1), (v_an 2), (v_an 3), .int 0, .int 0] k .null)) (cwV 0 hts (gv hT w_m_X10_81 w_instanceMethod_X10_forgetAll ws_sel_X10_forgetAll w_ini_X10 w_code_X10_forgetAll) rfl rfl rfl (by decide +kernel) ⟨(Nat.le_of_ble_eq_true rfl), (Nat.le_of_ble_eq_true rfl)⟩) ⟨pre_blind, va_recv hK hP (ci := 7) (q0 := 0) rfl rfl, pre_of hPc hKc hDc hN⟩ rfl rfl hl.1 rfl (lv_room (Nat.le_of_ble_eq_true rfl)) dX10_clauses_43 ⟨(Nat.le_of_ble_eq_true rfl), (Nat.le_of_ble_eq_true rfl)⟩) hS (fun q _ h => hFc q h) hFc (fun u t H locs ht hvm hq hB hz1 hk1 hS => ?_)
  obtain ⟨hP1, hK1, hD1⟩ := hB
  rw [ht] at hP1
  have hK1 := va_K.moved hvm.symm hK1
  obtain ⟨hP, hD⟩ := va_join (wr := [(h_dr, .inr (5, [(v_dr 0), (v_dr 1), (v_dr 2), (v_dr 3), .int 0, (v_dr 5), (v_dr 6), (v_dr 7), (v_dr 8), .int 0])), (h_td, .inr (5, [(v_td 0), (v_td 1), (v_td 2), (v_td 3), .int 0, (v_td 5), (v_td 6), (v_td 7), (v_td 8), .int 0])), (h_rd, .inr (4, [(v_rd 0), .int 0, .int 0, .int (-1), .ref h_td, (v_rd 5), (v_rd 6), .int 0, .int 0, .int (-1), (v_rd 10)]))]) (w1 := [(h_xx, .inr (7, [.ref h_rd, .ref h_td, .ref h_dr, (v_xx 3), (v_xx 4), .ref h_pv, .ref h_mx, .ref h_an])), (h_pv, .inr (3, [(v_pv 0), (v_pv 1), (v_pv 2), (v_pv 3), (v_pv 4), (v_pv 5), (v_pv 6), .int 0, (v_pv 8), .int 0, (v_pv 10), (v_pv 11), .int 0, .int 0, .int 0, .int 0, (v_pv 16), .int 0])), (h_an, .inr (0, [(v_an 0), (v_an 1), (v_an 2), (v_an 3), .int 0, .int 0])), (h_mx, .inr (2, [(v_mx 0), (v_mx 1), (v_mx 2), (v_mx 3), .int 0, (v_mx 5), (v_mx 6), (v_mx 7), (v_mx 8), (v_mx 9), .int (-2), (v_mx 11)]))]) hP hD [0, 1, 2, 3] [4, 5, 6] rfl rfl (by decide) (by decide) hk1 hFc hP1 hD1
  have hP : va_P (dC, dI) cls [(h_dr, .inr (5, [(v_dr 0), (v_dr 1), (v_dr 2), (v_dr 3), .int 0, (v_dr 5), (v_dr 6), (v_dr 7), (v_dr 8), .int 0])), (h_td, .inr (5, [(v_td 0), (v_td 1), (v_td 2), (v_td 3), .int 0, (v_td 5), (v_td 6), (v_td 7), (v_td 8), .int 0])), (h_rd, .inr (4, [(v_rd 0), .int 0, .int 0, .int (-1), .ref h_td, (v_rd 5), (v_rd 6), .int 0, .int 0, .int (-1), (v_rd 10)])), (h_xx, .inr (7, [.ref h_rd, .ref h_td, .ref h_dr, (v_xx 3), (v_xx 4), .ref h_pv, .ref h_mx, .ref h_an])), (h_pv, .inr (3, [(v_pv 0), (v_pv 1), (v_pv 2), (v_pv 3), (v_pv 4), (v_pv 5), (v_pv 6), .int 0, (v_pv 8), .int 0, (v_pv 10), (v_pv 11), .int 0, .int 0, .int 0, .int 0, (v_pv 16), .int 0])), (h_an, .inr (0, [(v_an 0), (v_an 1), (v_an 2), (v_an 3), .int 0, .int 0])), (h_mx, .inr (2, [(v_mx 0), (v_mx 1), (v_mx 2), (v_mx 3), .int 0, (v_mx 5), (v_mx 6), (v_mx 7), (v_mx 8), (v_mx 9), .int (-2), (v_mx 11)]))] H := hP
  have hD : va_D A [(h_dr, .inr (5, [(v_dr 0), (v_dr 1), (v_dr 2), (v_dr 3), .int 0, (v_dr 5), (v_dr 6), (v_dr 7), (v_dr 8), .int 0])), (h_td, .inr (5, [(v_td 0), (v_td 1), (v_td 2), (v_td 3), .int 0, (v_td 5), (v_td 6), (v_td 7), (v_td 8), .int 0])), (h_rd, .inr (4, [(v_rd 0), .int 0, .int 0, .int (-1), .ref h_td, (v_rd 5), (v_rd 6), .int 0, .int 0, .int (-1), (v_rd 10)])), (h_xx, .inr (7, [.ref h_rd, .ref h_td, .ref h_dr, (v_xx 3), (v_xx 4), .ref h_pv, .ref h_mx, .ref h_an])), (h_pv, .inr (3, [(v_pv 0), (v_pv 1), (v_pv 2), (v_pv 3), (v_pv 4), (v_pv 5), (v_pv 6), .int 0, (v_pv 8), .int 0, (v_pv 10), (v_pv 11), .int 0, .int 0, .int 0, .int 0, (v_pv 16), .int 0])), (h_an, .inr (0, [(v_an 0), (v_an 1), (v_an 2), (v_an 3), .int 0, .int 0])), (h_mx, .inr (2, [(v_mx 0), (v_mx 1), (v_mx 2), (v_mx 3), .int 0, (v_mx 5), (v_mx 6), (v_mx 7), (v_mx 8), (v_mx 9), .int (-2), (v_mx 11)]))] := hD
  refine lv_aload_n hx hb dX10_clauses_46 rfl (lv_at hl 1 rfl) ?_
  refine va_get (D := (dC, dI)) (ci := 7) (v := .ref h_rd) (C := RX10) (T := TX10) (N := 8) hx hb hw iwX10 hown hK hP 3 rfl rfl 0 (by decide) (hw _ w_f_X10_12) (fun _ h9 => h9) rfl dX10_clauses_47 ?_
  refine lv_iconst (v := 0) hx hb dX10_clauses_50 (by decide) ?_
  refine va_putN (D := (dC, dI)) (ci := 4) (v := .int 0) (ty := tyX5 1) (C := RX5) (T := TX5) (N := 11) (host := "OppositePairs") hx hb hw iwX5 tyX5 tyX5_ok nmX5 hown hK hP hD hS 2 rfl rfl 1 (by decide) (hN.use n_f_X10_67 rfl) (fun _ h9 => h9) rfl (tyX5_ok 1 (by decide)) rfl rfl (Nat.le_of_ble_eq_true rfl) dX10_clauses_51 (fun H locs hP hD hS => ?_)
  have hP : va_P (dC, dI) cls [(h_dr, .inr (5, [(v_dr 0), (v_dr 1), (v_dr 2), (v_dr 3), .int 0, (v_dr 5), (v_dr 6), (v_dr 7), (v_dr 8), .int 0])), (h_td, .inr (5, [(v_td 0), (v_td 1), (v_td 2), (v_td 3), .int 0, (v_td 5), (v_td 6), (v_td 7), (v_td 8), .int 0])), (h_rd, .inr (4, [(v_rd 0), .int 0, .int 0, .int (-1), .ref h_td, (v_rd 5), (v_rd 6), .int 0, .int 0, .int (-1), (v_rd 10)])), (h_xx, .inr (7, [.ref h_rd, .ref h_td, .ref h_dr, (v_xx 3), (v_xx 4), .ref h_pv, .ref h_mx, .ref h_an])), (h_pv, .inr (3, [(v_pv 0), (v_pv 1), (v_pv 2), (v_pv 3), (v_pv 4), (v_pv 5), (v_pv 6), .int 0, (v_pv 8), .int 0, (v_pv 10), (v_pv 11), .int 0, .int 0, .int 0, .int 0, (v_pv 16), .int 0])), (h_an, .inr (0, [(v_an 0), (v_an 1), (v_an 2), (v_an 3), .int 0, .int 0])), (h_mx, .inr (2, [(v_mx 0), (v_mx 1), (v_mx 2), (v_mx 3), .int 0, (v_mx 5), (v_mx 6), (v_mx 7), (v_mx 8), (v_mx 9), .int (-2), (v_mx 11)]))] H := hP
  have hD : va_D A [(h_dr, .inr (5, [(v_dr 0), (v_dr 1), (v_dr 2), (v_dr 3), .int 0, (v_dr 5), (v_dr 6), (v_dr 7), (v_dr 8), .int 0])), (h_td, .inr (5, [(v_td 0), (v_td 1), (v_td 2), (v_td 3), .int 0, (v_td 5), (v_td 6), (v_td 7), (v_td 8), .int 0])), (h_rd, .inr (4, [(v_rd 0), .int 0, .int 0, .int (-1), .ref h_td, (v_rd 5), (v_rd 6), .int 0, .int 0, .int (-1), (v_rd 10)])), (h_xx, .inr (7, [.ref h_rd, .ref h_td, .ref h_dr, (v_xx 3), (v_xx 4), .ref h_pv, .ref h_mx, .ref h_an])), (h_pv, .inr (3, [(v_pv 0), (v_pv 1), (v_pv 2), (v_pv 3), (v_pv 4), (v_pv 5), (v_pv 6), .int 0, (v_pv 8), .int 0, (v_pv 10), (v_pv 11), .int 0, .int 0, .int 0, .int 0, (v_pv 16), .int 0])), (h_an, .inr (0, [(v_an 0), (v_an 1), (v_an 2), (v_an 3), .int 0, .int 0])), (h_mx, .inr (2, [(v_mx 0), (v_mx 1), (v_mx 2), (v_mx 3), .int 0, (v_mx 5), (v_mx 6), (v_mx 7), (v_mx 8), (v_mx 9), .int (-2), (v_mx 11)]))] := hD
  refine lv_iload_n hx hb dX10_clauses_54 rfl (lv_at hl 0 rfl) ?_
  refine lv_if_eq (tgt := 68) hx hb dX10_clauses_55 (by decide) (fun c9 => absurd c9 (by decide)) (fun _ => ?_)
  refine lv_aload_n hx hb dX10_clauses_58 rfl (lv_at hl 1 rfl) ?_
  refine va_get (D := (dC, dI)) (ci := 7) (v := .ref h_td) (C := RX10) (T := TX10) (N := 8) hx hb hw iwX10 hown hK hP 3 rfl rfl 1 (by decide) (hw _ w_f_X10_19) (fun _ h9 => h9) rfl dX10_clauses_59 ?_
  refine va_getN (D := (dC, dI)) (ci := 5) (v := .int 0) (C := RX8) (T := TX8) (N := 10) (host := "OppositePairs") hx hb hw iwX8 hown hK hP 1 rfl rfl 9 (by decide) (hN.use n_f_X10_84 rfl) (fun _ h9 => h9) rfl dX10_clauses_62 ?_
  refine lv_goto (tgt := 69) hx hb dX10_clauses_65 (by decide) ?_
  refine W.widen (k := 0) (n := 0) (Nat.le_of_ble_eq_true rfl) (Nat.le_of_ble_eq_true rfl) ?_
  exact W.iret (v := 0) hx hb hr (fun t ht hW => ⟨⟨0, (), rfl, rfl, trivial⟩, hS.F ht⟩) hS.2.2 dX10_clauses_69

set_option maxHeartbeats 4000000 in
set_option maxRecDepth 100000 in
theorem c_X10_fault (l : Launch) (dC : Nat → ClassId) (dI : Nat → Nat → Nat) (sz : Nat) (h_xx : Nat) (h_rd : Nat) (v_xx : Nat → Value) (v_rd : Nat → Value) (p1 : Int32) : Met l yX10_fault (Ws yX10_fault cX10_fault 2 (some .int)) ({ frames := 0, cells := 0, slots := 0, locals := 0 }) (PRE (dC, dI) cls [] [(h_xx, .inr (7, [.ref h_rd, (v_xx 1), (v_xx 2), (v_xx 3), (v_xx 4), (v_xx 5), (v_xx 6), (v_xx 7)])), (h_rd, .inr (4, [(v_rd 0), .int 0, .int 0, .int (-1), (v_rd 4), (v_rd 5), (v_rd 6), (v_rd 7), (v_rd 8), (v_rd 9), (v_rd 10)]))] sz [.ref h_xx, .int p1]) (va_Qi (fun (r : Int32) (_ : Unit) => r = an_fault p1) (fun (_ : Unit) (_ : State) => True) (va_A [(h_xx, .inr (7, [.ref h_rd, (v_xx 1), (v_xx 2), (v_xx 3), (v_xx 4), (v_xx 5), (v_xx 6), (v_xx 7)])), (h_rd, .inr (4, [(v_rd 0), .int 0, .int 0, .int (-1), (v_rd 4), (v_rd 5), (v_rd 6), (v_rd 7), (v_rd 8), (v_rd 9), (v_rd 10)]))] sz)) 0 0 (va_A [(h_xx, .inr (7, [.ref h_rd, (v_xx 1), (v_xx 2), (v_xx 3), (v_xx 4), (v_xx 5), (v_xx 6), (v_xx 7)])), (h_rd, .inr (4, [(v_rd 0), .int 0, .int 0, .int (-1), (v_rd 4), (v_rd 5), (v_rd 6), (v_rd 7), (v_rd 8), (v_rd 9), (v_rd 10)]))] sz) := by
  refine Met.ofW (cc := cX10_fault) (maxL := 2) (ret := (some .int)) (by decide) rfl ?_
  intro p e s m args below meth c s₁ B hml hv
  obtain ⟨rfl, hsz, hP, hK, hD0, hN⟩ := hv
  have hx := B.exec
  have hb := B.bytes
  have hr := B.returns
  have hts := atoms_spec (ws := Ws yX10_fault cX10_fault 2 (some .int)) B.pre
  have hT : ∀ w ∈ WALL, w ∈ Ws yX10_fault cX10_fault 2 (some .int) := fun w h => List.mem_cons_of_mem _ h
  have hw := fun w (h : w ∈ WALL) => hts w (hT w h)
  have hown : s.vm.findClass RX10 = some m.cls := findClass_of_methodNamed B.named
  have hlocks := B.notSynchronized
  subst hsz
  have hD := hD0.self (sz := s.heap.size)
  generalize hAe : va_A [(h_xx, .inr (7, [.ref h_rd, (v_xx 1), (v_xx 2), (v_xx 3), (v_xx 4), (v_xx 5), (v_xx 6), (v_xx 7)])), (h_rd, .inr (4, [(v_rd 0), .int 0, .int 0, .int (-1), (v_rd 4), (v_rd 5), (v_rd 6), (v_rd 7), (v_rd 8), (v_rd 9), (v_rd 10)]))] s.heap.size = A at hD ⊢
  have hA : ∀ q : Nat, s.heap.size ≤ q → A q := fun q h => by rw [← hAe]; exact Or.inr h
  have hS : va_S A s.heap s.heap [] := va_S.rf
  have hl := lv_entry ([.ref h_xx, .int p1]) (n := 2) (Nat.le_of_ble_eq_true rfl)
  rw [lg_entry_eq]
  generalize (lg_sl ([.ref h_xx, .int p1]) ++ List.replicate (2 - (lg_sl ([.ref h_xx, .int p1])).length) Slot.unset).toArray = ls at hl ⊢
  have hl : lv_has ls 2 [(0, .ref h_xx), (1, .int p1)] := hl
  refine lv_iload_n hx hb dX10_fault_0 rfl (lv_at hl 1 rfl) ?_
  have s1 : (p1).toInt = 0 ∨ (p1).toInt = 1 ∨ (¬ (p1).toInt = 0 ∧ ¬ (p1).toInt = 1) := by omega
  rcases s1 with s1 | s1 | s1
  · refine lv_lookup (off := 27) (tgt := 28) hx hb dX10_fault_1 (by decide) (by rw [s1]; rfl) (by decide) ?_
    refine lv_aload_n hx hb dX10_fault_28 rfl (lv_at hl 0 rfl) ?_
    refine va_get (D := (dC, dI)) (ci := 7) (v := .ref h_rd) (C := RX10) (T := TX10) (N := 8) hx hb hw iwX10 hown hK hP 0 rfl rfl 0 (by decide) (hw _ w_f_X10_12) (fun _ h9 => h9) rfl dX10_fault_29 ?_
    refine va_getN (D := (dC, dI)) (ci := 4) (v := .int 0) (C := RX5) (T := TX5) (N := 11) (host := "OppositePairs") hx hb hw iwX5 hown hK hP 1 rfl rfl 2 (by decide) (hN.use n_f_X10_78 rfl) (fun _ h9 => h9) rfl dX10_fault_32 ?_
    refine W.widen (k := 0) (n := 0) (Nat.le_of_ble_eq_true rfl) (Nat.le_of_ble_eq_true rfl) ?_
    exact W.iret (v := 0) hx hb hr (fun t ht hW => ⟨⟨0, (), rfl, (by unfold an_fault; split <;> first | rfl | (exfalso; omega)), trivial⟩, hS.F ht⟩) hS.2.2 dX10_fault_35
  · refine lv_lookup (off := 35) (tgt := 36) hx hb dX10_fault_1 (by decide) (by rw [s1]; rfl) (by decide) ?_
    refine lv_aload_n hx hb dX10_fault_36 rfl (lv_at hl 0 rfl) ?_
    refine va_get (D := (dC, dI)) (ci := 7) (v := .ref h_rd) (C := RX10) (T := TX10) (N := 8) hx hb hw iwX10 hown hK hP 0 rfl rfl 0 (by decide) (hw _ w_f_X10_12) (fun _ h9 => h9) rfl dX10_fault_37 ?_
    refine va_getN (D := (dC, dI)) (ci := 4) (v := .int (-1)) (C := RX5) (T := TX5) (N := 11) (host := "OppositePairs") hx hb hw iwX5 hown hK hP 1 rfl rfl 3 (by decide) (hN.use n_f_X10_87 rfl) (fun _ h9 => h9) rfl dX10_fault_40 ?_
    refine W.widen (k := 0) (n := 0) (Nat.le_of_ble_eq_true rfl) (Nat.le_of_ble_eq_true rfl) ?_
    exact W.iret (v := (-1)) hx hb hr (fun t ht hW => ⟨⟨(-1), (), rfl, (by unfold an_fault; split <;> first | rfl | (exfalso; omega)), trivial⟩, hS.F ht⟩) hS.2.2 dX10_fault_43
  · refine lv_lookup (off := 43) (tgt := 44) hx hb dX10_fault_1 (by decide) (by simp [Op.lookupswitch.offset, s1.1, s1.2] <;> omega) (by decide) ?_
    refine lv_iconst (v := (-1)) hx hb dX10_fault_44 (by decide) ?_
    refine W.widen (k := 0) (n := 0) (Nat.le_of_ble_eq_true rfl) (Nat.le_of_ble_eq_true rfl) ?_
    exact W.iret (v := (-1)) hx hb hr (fun t ht hW => ⟨⟨(-1), (), rfl, (by unfold an_fault; split <;> first | rfl | (exfalso; omega)), trivial⟩, hS.F ht⟩) hS.2.2 dX10_fault_45

set_option maxHeartbeats 4000000 in
set_option maxRecDepth 100000 in
theorem c_X10_drop (l : Launch) (dC : Nat → ClassId) (dI : Nat → Nat → Nat) (sz : Nat) (h_xx : Nat) (h_td : Nat) (v_xx : Nat → Value) (v_td : Nat → Value) (p1 : Int32) : Met l yX10_drop (Ws yX10_drop cX10_drop 2 (some .boolean)) ({ frames := 1, cells := 0, slots := 0, locals := 21 }) (PRE (dC, dI) cls [] [(h_xx, .inr (7, [(v_xx 0), .ref h_td, (v_xx 2), (v_xx 3), (v_xx 4), (v_xx 5), (v_xx 6), (v_xx 7)])), (h_td, .inr (5, [(v_td 0), (v_td 1), (v_td 2), (v_td 3), (v_td 4), (v_td 5), (v_td 6), (v_td 7), (v_td 8), .int 0]))] sz [.ref h_xx, .int p1]) (va_Qi (fun (r : Int32) (_ : Unit) => r = 0) (fun (_ : Unit) (_ : State) => True) (va_A [(h_xx, .inr (7, [(v_xx 0), .ref h_td, (v_xx 2), (v_xx 3), (v_xx 4), (v_xx 5), (v_xx 6), (v_xx 7)])), (h_td, .inr (5, [(v_td 0), (v_td 1), (v_td 2), (v_td 3), (v_td 4), (v_td 5), (v_td 6), (v_td 7), (v_td 8), .int 0]))] sz)) 0 0 (va_A [(h_xx, .inr (7, [(v_xx 0), .ref h_td, (v_xx 2), (v_xx 3), (v_xx 4), (v_xx 5), (v_xx 6), (v_xx 7)])), (h_td, .inr (5, [(v_td 0), (v_td 1), (v_td 2), (v_td 3), (v_td 4), (v_td 5), (v_td 6), (v_td 7), (v_td 8), .int 0]))] sz) := by
  refine Met.ofW (cc := cX10_drop) (maxL := 2) (ret := (some .boolean)) (by decide) rfl ?_
  intro p e s m args below meth c s₁ B hml hv
  obtain ⟨rfl, hsz, hP, hK, hD0, hN⟩ := hv
  have hx := B.exec
  have hb := B.bytes
  have hr := B.returns
  have hts := atoms_spec (ws := Ws yX10_drop cX10_drop 2 (some .boolean)) B.pre
  have hT : ∀ w ∈ WALL, w ∈ Ws yX10_drop cX10_drop 2 (some .boolean) := fun w h => List.mem_cons_of_mem _ h
  have hw := fun w (h : w ∈ WALL) => hts w (hT w h)
  have hown : s.vm.findClass RX10 = some m.cls := findClass_of_methodNamed B.named
  have hlocks := B.notSynchronized
  subst hsz
  have hD := hD0.self (sz := s.heap.size)
  generalize hAe : va_A [(h_xx, .inr (7, [(v_xx 0), .ref h_td, (v_xx 2), (v_xx 3), (v_xx 4), (v_xx 5), (v_xx 6), (v_xx 7)])), (h_td, .inr (5, [(v_td 0), (v_td 1), (v_td 2), (v_td 3), (v_td 4), (v_td 5), (v_td 6), (v_td 7), (v_td 8), .int 0]))] s.heap.size = A at hD ⊢
  have hA : ∀ q : Nat, s.heap.size ≤ q → A q := fun q h => by rw [← hAe]; exact Or.inr h
  have hS : va_S A s.heap s.heap [] := va_S.rf
  have hl := lv_entry ([.ref h_xx, .int p1]) (n := 2) (Nat.le_of_ble_eq_true rfl)
  rw [lg_entry_eq]
  generalize (lg_sl ([.ref h_xx, .int p1]) ++ List.replicate (2 - (lg_sl ([.ref h_xx, .int p1])).length) Slot.unset).toArray = ls at hl ⊢
  have hl : lv_has ls 2 [(0, .ref h_xx), (1, .int p1)] := hl
  refine lv_aload_n hx hb dX10_drop_0 rfl (lv_at hl 0 rfl) ?_
  refine va_get (D := (dC, dI)) (ci := 7) (v := .ref h_td) (C := RX10) (T := TX10) (N := 8) hx hb hw iwX10 hown hK hP 0 rfl rfl 1 (by decide) (hw _ w_f_X10_19) (fun _ h9 => h9) rfl dX10_drop_1 ?_
  refine lv_iload_n hx hb dX10_drop_4 rfl (lv_at hl 1 rfl) ?_
  have hPc := hP.sub (ws' := [(h_td, .inr (5, [(v_td 0), (v_td 1), (v_td 2), (v_td 3), (v_td 4), (v_td 5), (v_td 6), (v_td 7), (v_td 8), .int 0]))]) [1] rfl
  have hDc := hD.sub (ws' := [(h_td, .inr (5, [(v_td 0), (v_td 1), (v_td 2), (v_td 3), (v_td 4), (v_td 5), (v_td 6), (v_td 7), (v_td 8), .int 0]))]) [1] (by decide) rfl
  have hKc := hK.sub (tys' := []) [] rfl
  have hFc := va_free (wc := [(h_td, .inr (5, [(v_td 0), (v_td 1), (v_td 2), (v_td 3), (v_td 4), (v_td 5), (v_td 6), (v_td 7), (v_td 8), .int 0]))]) hD hS hA [1] rfl
  refine va_calli (va_runVN (As := [.int p1]) (rest := []) ⟨hx, hb, hml, hown, hts⟩ (c_X8_isClause l dC dI s.heap.size h_td v_td p1) ⟨va_cnB (host := "OppositePairs") 1 hts (gd hT w_code_X8_isClause) rfl rfl rfl (hN _ n_m_X10_90) (hw _ w_ini_X8) (by decide +kernel) ⟨(Nat.le_of_ble_eq_true rfl), (Nat.le_of_ble_eq_true rfl)⟩, hw _ w_instanceMethod_X8_isClause, hw _ ws_sel_X8_isClause⟩ ⟨pre_blind, va_recv hK hP (ci := 5) (q0 := 1) rfl rfl, pre_of hPc hKc hDc hN⟩ rfl rfl hl.1 rfl (lv_room (Nat.le_of_ble_eq_true rfl)) dX10_drop_5 ⟨(Nat.le_of_ble_eq_true rfl), (Nat.le_of_ble_eq_true rfl)⟩) hS (fun q _ h => hFc q h) hFc (fun r1 u t H locs ht hvm hq hB hz1 hk1 hS => ?_)
  obtain ⟨hP, hD⟩ := va_join (wr := [(h_xx, .inr (7, [(v_xx 0), .ref h_td, (v_xx 2), (v_xx 3), (v_xx 4), (v_xx 5), (v_xx 6), (v_xx 7)]))]) (w1 := []) hP hD [1] [0] rfl rfl (by decide) (by decide) hk1 hFc P_nil D_nil
  have hP : va_P (dC, dI) cls [(h_xx, .inr (7, [(v_xx 0), .ref h_td, (v_xx 2), (v_xx 3), (v_xx 4), (v_xx 5), (v_xx 6), (v_xx 7)]))] H := hP
  have hD : va_D A [(h_xx, .inr (7, [(v_xx 0), .ref h_td, (v_xx 2), (v_xx 3), (v_xx 4), (v_xx 5), (v_xx 6), (v_xx 7)]))] := hD
  obtain rfl : r1 = 0 := hq
  refine lv_if_ne (tgt := 13) hx hb dX10_drop_8 (by decide) (fun c9 => absurd c9 (by decide)) (fun _ => ?_)
  refine lv_iconst (v := 0) hx hb dX10_drop_11 (by decide) ?_
  refine W.widen (k := 0) (n := 0) (Nat.le_of_ble_eq_true rfl) (Nat.le_of_ble_eq_true rfl) ?_
  exact W.zret (v := 0) (ty := .boolean) hx hb hr (by decide) (fun t ht hW => ⟨⟨0, (), rfl, rfl, trivial⟩, hS.F ht⟩) hS.2.2 dX10_drop_12

set_option maxHeartbeats 4000000 in
set_option maxRecDepth 100000 in
theorem c_X10_clause (l : Launch) (dC : Nat → ClassId) (dI : Nat → Nat → Nat) (sz : Nat) (h_xx : Nat) (h_td : Nat) (v_xx : Nat → Value) (v_td : Nat → Value) (p1 : Int32) (p2 : Int32) : Met l yX10_clause (Ws yX10_clause cX10_clause 3 (some .int)) ({ frames := 1, cells := 0, slots := 0, locals := 21 }) (PRE (dC, dI) cls [] [(h_xx, .inr (7, [(v_xx 0), .ref h_td, (v_xx 2), (v_xx 3), (v_xx 4), (v_xx 5), (v_xx 6), (v_xx 7)])), (h_td, .inr (5, [(v_td 0), (v_td 1), (v_td 2), (v_td 3), (v_td 4), (v_td 5), (v_td 6), (v_td 7), (v_td 8), .int 0]))] sz [.ref h_xx, .int p1, .int p2]) (va_Qi (fun (r : Int32) (_ : Unit) => r = (-1)) (fun (_ : Unit) (_ : State) => True) (va_A [(h_xx, .inr (7, [(v_xx 0), .ref h_td, (v_xx 2), (v_xx 3), (v_xx 4), (v_xx 5), (v_xx 6), (v_xx 7)])), (h_td, .inr (5, [(v_td 0), (v_td 1), (v_td 2), (v_td 3), (v_td 4), (v_td 5), (v_td 6), (v_td 7), (v_td 8), .int 0]))] sz)) 0 0 (va_A [(h_xx, .inr (7, [(v_xx 0), .ref h_td, (v_xx 2), (v_xx 3), (v_xx 4), (v_xx 5), (v_xx 6), (v_xx 7)])), (h_td, .inr (5, [(v_td 0), (v_td 1), (v_td 2), (v_td 3), (v_td 4), (v_td 5), (v_td 6), (v_td 7), (v_td 8), .int 0]))] sz) := by
  refine Met.ofW (cc := cX10_clause) (maxL := 3) (ret := (some .int)) (by decide) rfl ?_
  intro p e s m args below meth c s₁ B hml hv
  obtain ⟨rfl, hsz, hP, hK, hD0, hN⟩ := hv
  have hx := B.exec
  have hb := B.bytes
  have hr := B.returns
  have hts := atoms_spec (ws := Ws yX10_clause cX10_clause 3 (some .int)) B.pre
  have hT : ∀ w ∈ WALL, w ∈ Ws yX10_clause cX10_clause 3 (some .int) := fun w h => List.mem_cons_of_mem _ h
  have hw := fun w (h : w ∈ WALL) => hts w (hT w h)
  have hown : s.vm.findClass RX10 = some m.cls := findClass_of_methodNamed B.named
  have hlocks := B.notSynchronized
  subst hsz
  have hD := hD0.self (sz := s.heap.size)
  generalize hAe : va_A [(h_xx, .inr (7, [(v_xx 0), .ref h_td, (v_xx 2), (v_xx 3), (v_xx 4), (v_xx 5), (v_xx 6), (v_xx 7)])), (h_td, .inr (5, [(v_td 0), (v_td 1), (v_td 2), (v_td 3), (v_td 4), (v_td 5), (v_td 6), (v_td 7), (v_td 8), .int 0]))] s.heap.size = A at hD ⊢
  have hA : ∀ q : Nat, s.heap.size ≤ q → A q := fun q h => by rw [← hAe]; exact Or.inr h
  have hS : va_S A s.heap s.heap [] := va_S.rf
  have hl := lv_entry ([.ref h_xx, .int p1, .int p2]) (n := 3) (Nat.le_of_ble_eq_true rfl)
  rw [lg_entry_eq]
  generalize (lg_sl ([.ref h_xx, .int p1, .int p2]) ++ List.replicate (3 - (lg_sl ([.ref h_xx, .int p1, .int p2])).length) Slot.unset).toArray = ls at hl ⊢
  have hl : lv_has ls 3 [(0, .ref h_xx), (1, .int p1), (2, .int p2)] := hl
  refine lv_aload_n hx hb dX10_clause_0 rfl (lv_at hl 0 rfl) ?_
  refine va_get (D := (dC, dI)) (ci := 7) (v := .ref h_td) (C := RX10) (T := TX10) (N := 8) hx hb hw iwX10 hown hK hP 0 rfl rfl 1 (by decide) (hw _ w_f_X10_19) (fun _ h9 => h9) rfl dX10_clause_1 ?_
  refine lv_iload_n hx hb dX10_clause_4 rfl (lv_at hl 1 rfl) ?_
  have hPc := hP.sub (ws' := [(h_td, .inr (5, [(v_td 0), (v_td 1), (v_td 2), (v_td 3), (v_td 4), (v_td 5), (v_td 6), (v_td 7), (v_td 8), .int 0]))]) [1] rfl
  have hDc := hD.sub (ws' := [(h_td, .inr (5, [(v_td 0), (v_td 1), (v_td 2), (v_td 3), (v_td 4), (v_td 5), (v_td 6), (v_td 7), (v_td 8), .int 0]))]) [1] (by decide) rfl
  have hKc := hK.sub (tys' := []) [] rfl
  have hFc := va_free (wc := [(h_td, .inr (5, [(v_td 0), (v_td 1), (v_td 2), (v_td 3), (v_td 4), (v_td 5), (v_td 6), (v_td 7), (v_td 8), .int 0]))]) hD hS hA [1] rfl
  refine va_calli (va_runVN (As := [.int p1]) (rest := []) ⟨hx, hb, hml, hown, hts⟩ (c_X8_isClause l dC dI s.heap.size h_td v_td p1) ⟨va_cnB (host := "OppositePairs") 1 hts (gd hT w_code_X8_isClause) rfl rfl rfl (hN _ n_m_X10_90) (hw _ w_ini_X8) (by decide +kernel) ⟨(Nat.le_of_ble_eq_true rfl), (Nat.le_of_ble_eq_true rfl)⟩, hw _ w_instanceMethod_X8_isClause, hw _ ws_sel_X8_isClause⟩ ⟨pre_blind, va_recv hK hP (ci := 5) (q0 := 1) rfl rfl, pre_of hPc hKc hDc hN⟩ rfl rfl hl.1 rfl (lv_room (Nat.le_of_ble_eq_true rfl)) dX10_clause_5 ⟨(Nat.le_of_ble_eq_true rfl), (Nat.le_of_ble_eq_true rfl)⟩) hS (fun q _ h => hFc q h) hFc (fun r1 u t H locs ht hvm hq hB hz1 hk1 hS => ?_)
  obtain ⟨hP, hD⟩ := va_join (wr := [(h_xx, .inr (7, [(v_xx 0), .ref h_td, (v_xx 2), (v_xx 3), (v_xx 4), (v_xx 5), (v_xx 6), (v_xx 7)]))]) (w1 := []) hP hD [1] [0] rfl rfl (by decide) (by decide) hk1 hFc P_nil D_nil
  have hP : va_P (dC, dI) cls [(h_xx, .inr (7, [(v_xx 0), .ref h_td, (v_xx 2), (v_xx 3), (v_xx 4), (v_xx 5), (v_xx 6), (v_xx 7)]))] H := hP
  have hD : va_D A [(h_xx, .inr (7, [(v_xx 0), .ref h_td, (v_xx 2), (v_xx 3), (v_xx 4), (v_xx 5), (v_xx 6), (v_xx 7)]))] := hD
  obtain rfl : r1 = 0 := hq
  refine lv_if_ne (tgt := 13) hx hb dX10_clause_8 (by decide) (fun c9 => absurd c9 (by decide)) (fun _ => ?_)
  refine lv_iconst (v := (-1)) hx hb dX10_clause_11 (by decide) ?_
  refine W.widen (k := 0) (n := 0) (Nat.le_of_ble_eq_true rfl) (Nat.le_of_ble_eq_true rfl) ?_
  exact W.iret (v := (-1)) hx hb hr (fun t ht hW => ⟨⟨(-1), (), rfl, rfl, trivial⟩, hS.F ht⟩) hS.2.2 dX10_clause_12

set_option maxHeartbeats 4000000 in
set_option maxRecDepth 100000 in
theorem c_X10_show (l : Launch) (dC : Nat → ClassId) (dI : Nat → Nat → Nat) (sz : Nat) (h_xx : Nat) (h_td : Nat) (v_xx : Nat → Value) (v_td : Nat → Value) (p1 : Int32) (p2 : Int32) : Met l yX10_show (Ws yX10_show cX10_show 3 (some .int)) ({ frames := 2, cells := 0, slots := 0, locals := 43 }) (PRE (dC, dI) cls [] [(h_xx, .inr (7, [(v_xx 0), .ref h_td, (v_xx 2), (v_xx 3), (v_xx 4), (v_xx 5), (v_xx 6), (v_xx 7)])), (h_td, .inr (5, [(v_td 0), (v_td 1), (v_td 2), (v_td 3), (v_td 4), (v_td 5), (v_td 6), (v_td 7), (v_td 8), .int 0]))] sz [.ref h_xx, .int p1, .int p2]) (va_Qi (fun (r : Int32) (_ : Unit) => r = (-1)) (fun (_ : Unit) (_ : State) => True) (va_A [(h_xx, .inr (7, [(v_xx 0), .ref h_td, (v_xx 2), (v_xx 3), (v_xx 4), (v_xx 5), (v_xx 6), (v_xx 7)])), (h_td, .inr (5, [(v_td 0), (v_td 1), (v_td 2), (v_td 3), (v_td 4), (v_td 5), (v_td 6), (v_td 7), (v_td 8), .int 0]))] sz)) 0 0 (va_A [(h_xx, .inr (7, [(v_xx 0), .ref h_td, (v_xx 2), (v_xx 3), (v_xx 4), (v_xx 5), (v_xx 6), (v_xx 7)])), (h_td, .inr (5, [(v_td 0), (v_td 1), (v_td 2), (v_td 3), (v_td 4), (v_td 5), (v_td 6), (v_td 7), (v_td 8), .int 0]))] sz) := by
  refine Met.ofW (cc := cX10_show) (maxL := 3) (ret := (some .int)) (by decide) rfl ?_
  intro p e s m args below meth c s₁ B hml hv
  obtain ⟨rfl, hsz, hP, hK, hD0, hN⟩ := hv
  have hx := B.exec
  have hb := B.bytes
  have hr := B.returns
  have hts := atoms_spec (ws := Ws yX10_show cX10_show 3 (some .int)) B.pre
  have hT : ∀ w ∈ WALL, w ∈ Ws yX10_show cX10_show 3 (some .int) := fun w h => List.mem_cons_of_mem _ h
  have hw := fun w (h : w ∈ WALL) => hts w (hT w h)
  have hown : s.vm.findClass RX10 = some m.cls := findClass_of_methodNamed B.named
  have hlocks := B.notSynchronized
  subst hsz
  have hD := hD0.self (sz := s.heap.size)
  generalize hAe : va_A [(h_xx, .inr (7, [(v_xx 0), .ref h_td, (v_xx 2), (v_xx 3), (v_xx 4), (v_xx 5), (v_xx 6), (v_xx 7)])), (h_td, .inr (5, [(v_td 0), (v_td 1), (v_td 2), (v_td 3), (v_td 4), (v_td 5), (v_td 6), (v_td 7), (v_td 8), .int 0]))] s.heap.size = A at hD ⊢
  have hA : ∀ q : Nat, s.heap.size ≤ q → A q := fun q h => by rw [← hAe]; exact Or.inr h
  have hS : va_S A s.heap s.heap [] := va_S.rf
  have hl := lv_entry ([.ref h_xx, .int p1, .int p2]) (n := 3) (Nat.le_of_ble_eq_true rfl)
  rw [lg_entry_eq]
  generalize (lg_sl ([.ref h_xx, .int p1, .int p2]) ++ List.replicate (3 - (lg_sl ([.ref h_xx, .int p1, .int p2])).length) Slot.unset).toArray = ls at hl ⊢
  have hl : lv_has ls 3 [(0, .ref h_xx), (1, .int p1), (2, .int p2)] := hl
  refine lv_aload_n hx hb dX10_show_0 rfl (lv_at hl 0 rfl) ?_
  refine va_get (D := (dC, dI)) (ci := 7) (v := .ref h_td) (C := RX10) (T := TX10) (N := 8) hx hb hw iwX10 hown hK hP 0 rfl rfl 1 (by decide) (hw _ w_f_X10_19) (fun _ h9 => h9) rfl dX10_show_1 ?_
  refine lv_iload_n hx hb dX10_show_4 rfl (lv_at hl 1 rfl) ?_
  refine lv_iload_n hx hb dX10_show_5 rfl (lv_at hl 2 rfl) ?_
  have hPc := hP.sub (ws' := [(h_td, .inr (5, [(v_td 0), (v_td 1), (v_td 2), (v_td 3), (v_td 4), (v_td 5), (v_td 6), (v_td 7), (v_td 8), .int 0]))]) [1] rfl
  have hDc := hD.sub (ws' := [(h_td, .inr (5, [(v_td 0), (v_td 1), (v_td 2), (v_td 3), (v_td 4), (v_td 5), (v_td 6), (v_td 7), (v_td 8), .int 0]))]) [1] (by decide) rfl
  have hKc := hK.sub (tys' := []) [] rfl
  have hFc := va_free (wc := [(h_td, .inr (5, [(v_td 0), (v_td 1), (v_td 2), (v_td 3), (v_td 4), (v_td 5), (v_td 6), (v_td 7), (v_td 8), .int 0]))]) hD hS hA [1] rfl
  refine va_calli (va_runVN (As := [.int p1, .int p2]) (rest := []) ⟨hx, hb, hml, hown, hts⟩ (c_X8_isLiteral l dC dI s.heap.size h_td v_td p1 p2) ⟨va_cnB (host := "OppositePairs") 2 hts (gd hT w_code_X8_isLiteral) rfl rfl rfl (hN _ n_m_X10_111) (hw _ w_ini_X8) (by decide +kernel) ⟨(Nat.le_of_ble_eq_true rfl), (Nat.le_of_ble_eq_true rfl)⟩, hw _ w_instanceMethod_X8_isLiteral, hw _ ws_sel_X8_isLiteral⟩ ⟨pre_blind, va_recv hK hP (ci := 5) (q0 := 1) rfl rfl, pre_of hPc hKc hDc hN⟩ rfl rfl hl.1 rfl (lv_room (Nat.le_of_ble_eq_true rfl)) dX10_show_6 ⟨(Nat.le_of_ble_eq_true rfl), (Nat.le_of_ble_eq_true rfl)⟩) hS (fun q _ h => hFc q h) hFc (fun r1 u t H locs ht hvm hq hB hz1 hk1 hS => ?_)
  obtain ⟨hP, hD⟩ := va_join (wr := [(h_xx, .inr (7, [(v_xx 0), .ref h_td, (v_xx 2), (v_xx 3), (v_xx 4), (v_xx 5), (v_xx 6), (v_xx 7)]))]) (w1 := []) hP hD [1] [0] rfl rfl (by decide) (by decide) hk1 hFc P_nil D_nil
  have hP : va_P (dC, dI) cls [(h_xx, .inr (7, [(v_xx 0), .ref h_td, (v_xx 2), (v_xx 3), (v_xx 4), (v_xx 5), (v_xx 6), (v_xx 7)]))] H := hP
  have hD : va_D A [(h_xx, .inr (7, [(v_xx 0), .ref h_td, (v_xx 2), (v_xx 3), (v_xx 4), (v_xx 5), (v_xx 6), (v_xx 7)]))] := hD
  obtain rfl : r1 = 0 := hq
  refine lv_if_ne (tgt := 14) hx hb dX10_show_9 (by decide) (fun c9 => absurd c9 (by decide)) (fun _ => ?_)
  refine lv_iconst (v := (-1)) hx hb dX10_show_12 (by decide) ?_
  refine W.widen (k := 0) (n := 0) (Nat.le_of_ble_eq_true rfl) (Nat.le_of_ble_eq_true rfl) ?_
  exact W.iret (v := (-1)) hx hb hr (fun t ht hW => ⟨⟨(-1), (), rfl, rfl, trivial⟩, hS.F ht⟩) hS.2.2 dX10_show_13

set_option maxHeartbeats 4000000 in
set_option maxRecDepth 100000 in
theorem c_X10_out (l : Launch) (dC : Nat → ClassId) (dI : Nat → Nat → Nat) (sz : Nat) (h_xx : Nat) (h_wr : Nat) (v_xx : Nat → Value) (v_wr : Nat → Value) (p1 : Int32) : Met l yX10_out (Ws yX10_out cX10_out 2 (some .int)) ({ frames := 0, cells := 0, slots := 0, locals := 0 }) (PRE (dC, dI) cls [] [(h_xx, .inr (7, [(v_xx 0), (v_xx 1), (v_xx 2), (v_xx 3), .ref h_wr, (v_xx 5), (v_xx 6), (v_xx 7)])), (h_wr, .inr (6, [(v_wr 0), (v_wr 1), (v_wr 2), .int 0, (v_wr 4), (v_wr 5), (v_wr 6), (v_wr 7)]))] sz [.ref h_xx, .int p1]) (va_Qi (fun (r : Int32) (_ : Unit) => r = (-1)) (fun (_ : Unit) (_ : State) => True) (va_A [(h_xx, .inr (7, [(v_xx 0), (v_xx 1), (v_xx 2), (v_xx 3), .ref h_wr, (v_xx 5), (v_xx 6), (v_xx 7)])), (h_wr, .inr (6, [(v_wr 0), (v_wr 1), (v_wr 2), .int 0, (v_wr 4), (v_wr 5), (v_wr 6), (v_wr 7)]))] sz)) 0 0 (va_A [(h_xx, .inr (7, [(v_xx 0), (v_xx 1), (v_xx 2), (v_xx 3), .ref h_wr, (v_xx 5), (v_xx 6), (v_xx 7)])), (h_wr, .inr (6, [(v_wr 0), (v_wr 1), (v_wr 2), .int 0, (v_wr 4), (v_wr 5), (v_wr 6), (v_wr 7)]))] sz) := by
  refine Met.ofW (cc := cX10_out) (maxL := 2) (ret := (some .int)) (by decide) rfl ?_
  intro p e s m args below meth c s₁ B hml hv
  obtain ⟨rfl, hsz, hP, hK, hD0, hN⟩ := hv
  have hx := B.exec
  have hb := B.bytes
  have hr := B.returns
  have hts := atoms_spec (ws := Ws yX10_out cX10_out 2 (some .int)) B.pre
  have hT : ∀ w ∈ WALL, w ∈ Ws yX10_out cX10_out 2 (some .int) := fun w h => List.mem_cons_of_mem _ h
  have hw := fun w (h : w ∈ WALL) => hts w (hT w h)
  have hown : s.vm.findClass RX10 = some m.cls := findClass_of_methodNamed B.named
  have hlocks := B.notSynchronized
  subst hsz
  have hD := hD0.self (sz := s.heap.size)
  generalize hAe : va_A [(h_xx, .inr (7, [(v_xx 0), (v_xx 1), (v_xx 2), (v_xx 3), .ref h_wr, (v_xx 5), (v_xx 6), (v_xx 7)])), (h_wr, .inr (6, [(v_wr 0), (v_wr 1), (v_wr 2), .int 0, (v_wr 4), (v_wr 5), (v_wr 6), (v_wr 7)]))] s.heap.size = A at hD ⊢
  have hA : ∀ q : Nat, s.heap.size ≤ q → A q := fun q h => by rw [← hAe]; exact Or.inr h
  have hS : va_S A s.heap s.heap [] := va_S.rf
  have hl := lv_entry ([.ref h_xx, .int p1]) (n := 2) (Nat.le_of_ble_eq_true rfl)
  rw [lg_entry_eq]
  generalize (lg_sl ([.ref h_xx, .int p1]) ++ List.replicate (2 - (lg_sl ([.ref h_xx, .int p1])).length) Slot.unset).toArray = ls at hl ⊢
  have hl : lv_has ls 2 [(0, .ref h_xx), (1, .int p1)] := hl
  refine lv_iload_n hx hb dX10_out_0 rfl (lv_at hl 1 rfl) ?_
  refine lv_if_lt (tgt := 15) hx hb dX10_out_1 (by decide) (fun c1 => ?_) (fun c1 => ?_)
  · have kc1 := (cv_lt (rfl : (p1).toInt = (p1).toInt) (by decide : (0 : Int32).toInt = 0)).mp c1
    refine lv_iconst (v := (-1)) hx hb dX10_out_15 (by decide) ?_
    refine W.widen (k := 0) (n := 0) (Nat.le_of_ble_eq_true rfl) (Nat.le_of_ble_eq_true rfl) ?_
    exact W.iret (v := (-1)) hx hb hr (fun t ht hW => ⟨⟨(-1), (), rfl, rfl, trivial⟩, hS.F ht⟩) hS.2.2 dX10_out_16
  · have kc1 := (not_congr (cv_lt (rfl : (p1).toInt = (p1).toInt) (by decide : (0 : Int32).toInt = 0))).mp c1
    refine lv_iload_n hx hb dX10_out_4 rfl (lv_at hl 1 rfl) ?_
    refine lv_aload_n hx hb dX10_out_5 rfl (lv_at hl 0 rfl) ?_
    refine va_get (D := (dC, dI)) (ci := 7) (v := .ref h_wr) (C := RX10) (T := TX10) (N := 8) hx hb hw iwX10 hown hK hP 0 rfl rfl 4 (by decide) (hw _ w_f_X10_40) (fun _ h9 => h9) rfl dX10_out_6 ?_
    refine va_getN (D := (dC, dI)) (ci := 6) (v := .int 0) (C := RX9) (T := TX9) (N := 8) (host := "OppositePairs") hx hb hw iwX9 hown hK hP 1 rfl rfl 3 (by decide) (hN.use n_f_X10_132 rfl) (fun _ h9 => h9) rfl dX10_out_9 ?_
    refine lv_icmp_lt (tgt := 17) hx hb dX10_out_12 (by decide) (fun c2 => False.elim (by have kc2 := (cv_lt (rfl : (p1).toInt = (p1).toInt) (by decide : (0 : Int32).toInt = 0)).mp c2; omega)) (fun _ => ?_)
    refine lv_iconst (v := (-1)) hx hb dX10_out_15 (by decide) ?_
    refine W.widen (k := 0) (n := 0) (Nat.le_of_ble_eq_true rfl) (Nat.le_of_ble_eq_true rfl) ?_
    exact W.iret (v := (-1)) hx hb hr (fun t ht hW => ⟨⟨(-1), (), rfl, rfl, trivial⟩, hS.F ht⟩) hS.2.2 dX10_out_16

set_option maxHeartbeats 4000000 in
set_option maxRecDepth 100000 in
theorem c_X10_meets (l : Launch) (dC : Nat → ClassId) (dI : Nat → Nat → Nat) (sz : Nat) (h_xx : Nat) (h_td : Nat) (v_xx : Nat → Value) (v_td : Nat → Value) (p1 : Int32) (p2 : Int32) (p3 : Int32) (p4 : Int32) : Met l yX10_meets (Ws yX10_meets cX10_meets 5 (some .int)) ({ frames := 2, cells := 0, slots := 0, locals := 43 }) (PRE (dC, dI) cls [] [(h_xx, .inr (7, [(v_xx 0), .ref h_td, (v_xx 2), (v_xx 3), (v_xx 4), (v_xx 5), (v_xx 6), (v_xx 7)])), (h_td, .inr (5, [(v_td 0), (v_td 1), (v_td 2), (v_td 3), (v_td 4), (v_td 5), (v_td 6), (v_td 7), (v_td 8), .int 0]))] sz [.ref h_xx, .int p1, .int p2, .int p3, .int p4]) (va_Qi (fun (r : Int32) (_ : Unit) => r = (-1)) (fun (_ : Unit) (_ : State) => True) (va_A [(h_xx, .inr (7, [(v_xx 0), .ref h_td, (v_xx 2), (v_xx 3), (v_xx 4), (v_xx 5), (v_xx 6), (v_xx 7)])), (h_td, .inr (5, [(v_td 0), (v_td 1), (v_td 2), (v_td 3), (v_td 4), (v_td 5), (v_td 6), (v_td 7), (v_td 8), .int 0]))] sz)) 0 0 (va_A [(h_xx, .inr (7, [(v_xx 0), .ref h_td, (v_xx 2), (v_xx 3), (v_xx 4), (v_xx 5), (v_xx 6), (v_xx 7)])), (h_td, .inr (5, [(v_td 0), (v_td 1), (v_td 2), (v_td 3), (v_td 4), (v_td 5), (v_td 6), (v_td 7), (v_td 8), .int 0]))] sz) := by
  refine Met.ofW (cc := cX10_meets) (maxL := 5) (ret := (some .int)) (by decide) rfl ?_
  intro p e s m args below meth c s₁ B hml hv
  obtain ⟨rfl, hsz, hP, hK, hD0, hN⟩ := hv
  have hx := B.exec
  have hb := B.bytes
  have hr := B.returns
  have hts := atoms_spec (ws := Ws yX10_meets cX10_meets 5 (some .int)) B.pre
  have hT : ∀ w ∈ WALL, w ∈ Ws yX10_meets cX10_meets 5 (some .int) := fun w h => List.mem_cons_of_mem _ h
  have hw := fun w (h : w ∈ WALL) => hts w (hT w h)
  have hown : s.vm.findClass RX10 = some m.cls := findClass_of_methodNamed B.named
  have hlocks := B.notSynchronized
  subst hsz
  have hD := hD0.self (sz := s.heap.size)
  generalize hAe : va_A [(h_xx, .inr (7, [(v_xx 0), .ref h_td, (v_xx 2), (v_xx 3), (v_xx 4), (v_xx 5), (v_xx 6), (v_xx 7)])), (h_td, .inr (5, [(v_td 0), (v_td 1), (v_td 2), (v_td 3), (v_td 4), (v_td 5), (v_td 6), (v_td 7), (v_td 8), .int 0]))] s.heap.size = A at hD ⊢
  have hA : ∀ q : Nat, s.heap.size ≤ q → A q := fun q h => by rw [← hAe]; exact Or.inr h
  have hS : va_S A s.heap s.heap [] := va_S.rf
  have hl := lv_entry ([.ref h_xx, .int p1, .int p2, .int p3, .int p4]) (n := 5) (Nat.le_of_ble_eq_true rfl)
  rw [lg_entry_eq]
  generalize (lg_sl ([.ref h_xx, .int p1, .int p2, .int p3, .int p4]) ++ List.replicate (5 - (lg_sl ([.ref h_xx, .int p1, .int p2, .int p3, .int p4])).length) Slot.unset).toArray = ls at hl ⊢
  have hl : lv_has ls 5 [(0, .ref h_xx), (1, .int p1), (2, .int p2), (3, .int p3), (4, .int p4)] := hl
  refine lv_aload_n hx hb dX10_meets_0 rfl (lv_at hl 0 rfl) ?_
  refine va_get (D := (dC, dI)) (ci := 7) (v := .ref h_td) (C := RX10) (T := TX10) (N := 8) hx hb hw iwX10 hown hK hP 0 rfl rfl 1 (by decide) (hw _ w_f_X10_19) (fun _ h9 => h9) rfl dX10_meets_1 ?_
  refine lv_iload_n hx hb dX10_meets_4 rfl (lv_at hl 1 rfl) ?_
  refine lv_iload_n hx hb dX10_meets_5 rfl (lv_at hl 2 rfl) ?_
  have hPc := hP.sub (ws' := [(h_td, .inr (5, [(v_td 0), (v_td 1), (v_td 2), (v_td 3), (v_td 4), (v_td 5), (v_td 6), (v_td 7), (v_td 8), .int 0]))]) [1] rfl
  have hDc := hD.sub (ws' := [(h_td, .inr (5, [(v_td 0), (v_td 1), (v_td 2), (v_td 3), (v_td 4), (v_td 5), (v_td 6), (v_td 7), (v_td 8), .int 0]))]) [1] (by decide) rfl
  have hKc := hK.sub (tys' := []) [] rfl
  have hFc := va_free (wc := [(h_td, .inr (5, [(v_td 0), (v_td 1), (v_td 2), (v_td 3), (v_td 4), (v_td 5), (v_td 6), (v_td 7), (v_td 8), .int 0]))]) hD hS hA [1] rfl
  refine va_calli (va_runVN (As := [.int p1, .int p2]) (rest := []) ⟨hx, hb, hml, hown, hts⟩ (c_X8_isLiteral l dC dI s.heap.size h_td v_td p1 p2) ⟨va_cnB (host := "OppositePairs") 2 hts (gd hT w_code_X8_isLiteral) rfl rfl rfl (hN _ n_m_X10_111) (hw _ w_ini_X8) (by decide +kernel) ⟨(Nat.le_of_ble_eq_true rfl), (Nat.le_of_ble_eq_true rfl)⟩, hw _ w_instanceMethod_X8_isLiteral, hw _ ws_sel_X8_isLiteral⟩ ⟨pre_blind, va_recv hK hP (ci := 5) (q0 := 1) rfl rfl, pre_of hPc hKc hDc hN⟩ rfl rfl hl.1 rfl (lv_room (Nat.le_of_ble_eq_true rfl)) dX10_meets_6 ⟨(Nat.le_of_ble_eq_true rfl), (Nat.le_of_ble_eq_true rfl)⟩) hS (fun q _ h => hFc q h) hFc (fun r1 u t H locs ht hvm hq hB hz1 hk1 hS => ?_)
  obtain ⟨hP, hD⟩ := va_join (wr := [(h_xx, .inr (7, [(v_xx 0), .ref h_td, (v_xx 2), (v_xx 3), (v_xx 4), (v_xx 5), (v_xx 6), (v_xx 7)]))]) (w1 := []) hP hD [1] [0] rfl rfl (by decide) (by decide) hk1 hFc P_nil D_nil
  have hP : va_P (dC, dI) cls [(h_xx, .inr (7, [(v_xx 0), .ref h_td, (v_xx 2), (v_xx 3), (v_xx 4), (v_xx 5), (v_xx 6), (v_xx 7)]))] H := hP
  have hD : va_D A [(h_xx, .inr (7, [(v_xx 0), .ref h_td, (v_xx 2), (v_xx 3), (v_xx 4), (v_xx 5), (v_xx 6), (v_xx 7)]))] := hD
  obtain rfl : r1 = 0 := hq
  refine lv_if_eq (tgt := 25) hx hb dX10_meets_9 (by decide) (fun _ => ?_) (fun c9 => absurd c9 (by decide))
  refine lv_iconst (v := (-1)) hx hb dX10_meets_25 (by decide) ?_
  refine W.widen (k := 0) (n := 0) (Nat.le_of_ble_eq_true rfl) (Nat.le_of_ble_eq_true rfl) ?_
  exact W.iret (v := (-1)) hx hb hr (fun t ht hW => ⟨⟨(-1), (), rfl, rfl, trivial⟩, hS.F ht⟩) hS.2.2 dX10_meets_26

set_option maxHeartbeats 4000000 in
set_option maxRecDepth 100000 in
theorem c_X10_partners (l : Launch) (dC : Nat → ClassId) (dI : Nat → Nat → Nat) (sz : Nat) (h_xx : Nat) (h_td : Nat) (v_xx : Nat → Value) (v_td : Nat → Value) (p1 : Int32) (p2 : Int32) : Met l yX10_partners (Ws yX10_partners cX10_partners 3 (some .int)) ({ frames := 2, cells := 0, slots := 0, locals := 43 }) (PRE (dC, dI) cls [] [(h_xx, .inr (7, [(v_xx 0), .ref h_td, (v_xx 2), (v_xx 3), (v_xx 4), (v_xx 5), (v_xx 6), (v_xx 7)])), (h_td, .inr (5, [(v_td 0), (v_td 1), (v_td 2), (v_td 3), (v_td 4), (v_td 5), (v_td 6), (v_td 7), (v_td 8), .int 0]))] sz [.ref h_xx, .int p1, .int p2]) (va_Qi (fun (r : Int32) (_ : Unit) => r = (-1)) (fun (_ : Unit) (_ : State) => True) (va_A [(h_xx, .inr (7, [(v_xx 0), .ref h_td, (v_xx 2), (v_xx 3), (v_xx 4), (v_xx 5), (v_xx 6), (v_xx 7)])), (h_td, .inr (5, [(v_td 0), (v_td 1), (v_td 2), (v_td 3), (v_td 4), (v_td 5), (v_td 6), (v_td 7), (v_td 8), .int 0]))] sz)) 0 0 (va_A [(h_xx, .inr (7, [(v_xx 0), .ref h_td, (v_xx 2), (v_xx 3), (v_xx 4), (v_xx 5), (v_xx 6), (v_xx 7)])), (h_td, .inr (5, [(v_td 0), (v_td 1), (v_td 2), (v_td 3), (v_td 4), (v_td 5), (v_td 6), (v_td 7), (v_td 8), .int 0]))] sz) := by
  refine Met.ofW (cc := cX10_partners) (maxL := 3) (ret := (some .int)) (by decide) rfl ?_
  intro p e s m args below meth c s₁ B hml hv
  obtain ⟨rfl, hsz, hP, hK, hD0, hN⟩ := hv
  have hx := B.exec
  have hb := B.bytes
  have hr := B.returns
  have hts := atoms_spec (ws := Ws yX10_partners cX10_partners 3 (some .int)) B.pre
  have hT : ∀ w ∈ WALL, w ∈ Ws yX10_partners cX10_partners 3 (some .int) := fun w h => List.mem_cons_of_mem _ h
  have hw := fun w (h : w ∈ WALL) => hts w (hT w h)
  have hown : s.vm.findClass RX10 = some m.cls := findClass_of_methodNamed B.named
  have hlocks := B.notSynchronized
  subst hsz
  have hD := hD0.self (sz := s.heap.size)
  generalize hAe : va_A [(h_xx, .inr (7, [(v_xx 0), .ref h_td, (v_xx 2), (v_xx 3), (v_xx 4), (v_xx 5), (v_xx 6), (v_xx 7)])), (h_td, .inr (5, [(v_td 0), (v_td 1), (v_td 2), (v_td 3), (v_td 4), (v_td 5), (v_td 6), (v_td 7), (v_td 8), .int 0]))] s.heap.size = A at hD ⊢
  have hA : ∀ q : Nat, s.heap.size ≤ q → A q := fun q h => by rw [← hAe]; exact Or.inr h
  have hS : va_S A s.heap s.heap [] := va_S.rf
  have hl := lv_entry ([.ref h_xx, .int p1, .int p2]) (n := 3) (Nat.le_of_ble_eq_true rfl)
  rw [lg_entry_eq]
  generalize (lg_sl ([.ref h_xx, .int p1, .int p2]) ++ List.replicate (3 - (lg_sl ([.ref h_xx, .int p1, .int p2])).length) Slot.unset).toArray = ls at hl ⊢
  have hl : lv_has ls 3 [(0, .ref h_xx), (1, .int p1), (2, .int p2)] := hl
  refine lv_aload_n hx hb dX10_partners_0 rfl (lv_at hl 0 rfl) ?_
  refine va_get (D := (dC, dI)) (ci := 7) (v := .ref h_td) (C := RX10) (T := TX10) (N := 8) hx hb hw iwX10 hown hK hP 0 rfl rfl 1 (by decide) (hw _ w_f_X10_19) (fun _ h9 => h9) rfl dX10_partners_1 ?_
  refine lv_iload_n hx hb dX10_partners_4 rfl (lv_at hl 1 rfl) ?_
  refine lv_iload_n hx hb dX10_partners_5 rfl (lv_at hl 2 rfl) ?_
  have hPc := hP.sub (ws' := [(h_td, .inr (5, [(v_td 0), (v_td 1), (v_td 2), (v_td 3), (v_td 4), (v_td 5), (v_td 6), (v_td 7), (v_td 8), .int 0]))]) [1] rfl
  have hDc := hD.sub (ws' := [(h_td, .inr (5, [(v_td 0), (v_td 1), (v_td 2), (v_td 3), (v_td 4), (v_td 5), (v_td 6), (v_td 7), (v_td 8), .int 0]))]) [1] (by decide) rfl
  have hKc := hK.sub (tys' := []) [] rfl
  have hFc := va_free (wc := [(h_td, .inr (5, [(v_td 0), (v_td 1), (v_td 2), (v_td 3), (v_td 4), (v_td 5), (v_td 6), (v_td 7), (v_td 8), .int 0]))]) hD hS hA [1] rfl
  refine va_calli (va_runVN (As := [.int p1, .int p2]) (rest := []) ⟨hx, hb, hml, hown, hts⟩ (c_X8_isLiteral l dC dI s.heap.size h_td v_td p1 p2) ⟨va_cnB (host := "OppositePairs") 2 hts (gd hT w_code_X8_isLiteral) rfl rfl rfl (hN _ n_m_X10_111) (hw _ w_ini_X8) (by decide +kernel) ⟨(Nat.le_of_ble_eq_true rfl), (Nat.le_of_ble_eq_true rfl)⟩, hw _ w_instanceMethod_X8_isLiteral, hw _ ws_sel_X8_isLiteral⟩ ⟨pre_blind, va_recv hK hP (ci := 5) (q0 := 1) rfl rfl, pre_of hPc hKc hDc hN⟩ rfl rfl hl.1 rfl (lv_room (Nat.le_of_ble_eq_true rfl)) dX10_partners_6 ⟨(Nat.le_of_ble_eq_true rfl), (Nat.le_of_ble_eq_true rfl)⟩) hS (fun q _ h => hFc q h) hFc (fun r1 u t H locs ht hvm hq hB hz1 hk1 hS => ?_)
  obtain ⟨hP, hD⟩ := va_join (wr := [(h_xx, .inr (7, [(v_xx 0), .ref h_td, (v_xx 2), (v_xx 3), (v_xx 4), (v_xx 5), (v_xx 6), (v_xx 7)]))]) (w1 := []) hP hD [1] [0] rfl rfl (by decide) (by decide) hk1 hFc P_nil D_nil
  have hP : va_P (dC, dI) cls [(h_xx, .inr (7, [(v_xx 0), .ref h_td, (v_xx 2), (v_xx 3), (v_xx 4), (v_xx 5), (v_xx 6), (v_xx 7)]))] H := hP
  have hD : va_D A [(h_xx, .inr (7, [(v_xx 0), .ref h_td, (v_xx 2), (v_xx 3), (v_xx 4), (v_xx 5), (v_xx 6), (v_xx 7)]))] := hD
  obtain rfl : r1 = 0 := hq
  refine lv_if_ne (tgt := 14) hx hb dX10_partners_9 (by decide) (fun c9 => absurd c9 (by decide)) (fun _ => ?_)
  refine lv_iconst (v := (-1)) hx hb dX10_partners_12 (by decide) ?_
  refine W.widen (k := 0) (n := 0) (Nat.le_of_ble_eq_true rfl) (Nat.le_of_ble_eq_true rfl) ?_
  exact W.iret (v := (-1)) hx hb hr (fun t ht hW => ⟨⟨(-1), (), rfl, rfl, trivial⟩, hS.F ht⟩) hS.2.2 dX10_partners_13

set_option maxHeartbeats 4000000 in
set_option maxRecDepth 100000 in
theorem c_X10_pure (l : Launch) (dC : Nat → ClassId) (dI : Nat → Nat → Nat) (sz : Nat) (h_xx : Nat) (h_td : Nat) (v_xx : Nat → Value) (v_td : Nat → Value) : Met l yX10_pure (Ws yX10_pure cX10_pure 5 (some .int)) ({ frames := 1, cells := 0, slots := 0, locals := 20 }) (PRE (dC, dI) cls [] [(h_xx, .inr (7, [(v_xx 0), .ref h_td, (v_xx 2), (v_xx 3), (v_xx 4), (v_xx 5), (v_xx 6), (v_xx 7)])), (h_td, .inr (5, [(v_td 0), (v_td 1), (v_td 2), (v_td 3), (v_td 4), (v_td 5), (v_td 6), (v_td 7), (v_td 8), .int 0]))] sz [.ref h_xx]) (va_Qi (fun (r : Int32) (_ : Unit) => r = 0) (fun (_ : Unit) (_ : State) => True) (va_A [(h_xx, .inr (7, [(v_xx 0), .ref h_td, (v_xx 2), (v_xx 3), (v_xx 4), (v_xx 5), (v_xx 6), (v_xx 7)])), (h_td, .inr (5, [(v_td 0), (v_td 1), (v_td 2), (v_td 3), (v_td 4), (v_td 5), (v_td 6), (v_td 7), (v_td 8), .int 0]))] sz)) 0 0 (va_A [(h_xx, .inr (7, [(v_xx 0), .ref h_td, (v_xx 2), (v_xx 3), (v_xx 4), (v_xx 5), (v_xx 6), (v_xx 7)])), (h_td, .inr (5, [(v_td 0), (v_td 1), (v_td 2), (v_td 3), (v_td 4), (v_td 5), (v_td 6), (v_td 7), (v_td 8), .int 0]))] sz) := by
  refine Met.ofW (cc := cX10_pure) (maxL := 5) (ret := (some .int)) (by decide) rfl ?_
  intro p e s m args below meth c s₁ B hml hv
  obtain ⟨rfl, hsz, hP, hK, hD0, hN⟩ := hv
  have hx := B.exec
  have hb := B.bytes
  have hr := B.returns
  have hts := atoms_spec (ws := Ws yX10_pure cX10_pure 5 (some .int)) B.pre
  have hT : ∀ w ∈ WALL, w ∈ Ws yX10_pure cX10_pure 5 (some .int) := fun w h => List.mem_cons_of_mem _ h
  have hw := fun w (h : w ∈ WALL) => hts w (hT w h)
  have hown : s.vm.findClass RX10 = some m.cls := findClass_of_methodNamed B.named
  have hlocks := B.notSynchronized
  subst hsz
  have hD := hD0.self (sz := s.heap.size)
  generalize hAe : va_A [(h_xx, .inr (7, [(v_xx 0), .ref h_td, (v_xx 2), (v_xx 3), (v_xx 4), (v_xx 5), (v_xx 6), (v_xx 7)])), (h_td, .inr (5, [(v_td 0), (v_td 1), (v_td 2), (v_td 3), (v_td 4), (v_td 5), (v_td 6), (v_td 7), (v_td 8), .int 0]))] s.heap.size = A at hD ⊢
  have hA : ∀ q : Nat, s.heap.size ≤ q → A q := fun q h => by rw [← hAe]; exact Or.inr h
  have hS : va_S A s.heap s.heap [] := va_S.rf
  have hl := lv_entry ([.ref h_xx]) (n := 5) (Nat.le_of_ble_eq_true rfl)
  rw [lg_entry_eq]
  generalize (lg_sl ([.ref h_xx]) ++ List.replicate (5 - (lg_sl ([.ref h_xx])).length) Slot.unset).toArray = ls at hl ⊢
  have hl : lv_has ls 5 [(0, .ref h_xx)] := hl
  refine lv_aload_n hx hb dX10_pure_0 rfl (lv_at hl 0 rfl) ?_
  refine va_get (D := (dC, dI)) (ci := 7) (v := .ref h_td) (C := RX10) (T := TX10) (N := 8) hx hb hw iwX10 hown hK hP 0 rfl rfl 1 (by decide) (hw _ w_f_X10_19) (fun _ h9 => h9) rfl dX10_pure_1 ?_
  have hPc := hP.sub (ws' := [(h_td, .inr (5, [(v_td 0), (v_td 1), (v_td 2), (v_td 3), (v_td 4), (v_td 5), (v_td 6), (v_td 7), (v_td 8), .int 0]))]) [1] rfl
  have hDc := hD.sub (ws' := [(h_td, .inr (5, [(v_td 0), (v_td 1), (v_td 2), (v_td 3), (v_td 4), (v_td 5), (v_td 6), (v_td 7), (v_td 8), .int 0]))]) [1] (by decide) rfl
  have hKc := hK.sub (tys' := []) [] rfl
  have hFc := va_free (wc := [(h_td, .inr (5, [(v_td 0), (v_td 1), (v_td 2), (v_td 3), (v_td 4), (v_td 5), (v_td 6), (v_td 7), (v_td 8), .int 0]))]) hD hS hA [1] rfl
  refine va_calli (va_runVN (As := []) (rest := []) ⟨hx, hb, hml, hown, hts⟩ (c_X8_all l dC dI s.heap.size h_td v_td) ⟨va_cnB (host := "OppositePairs") 0 hts (gd hT w_code_X8_all) rfl rfl rfl (hN _ n_m_X10_140) (hw _ w_ini_X8) (by decide +kernel) ⟨(Nat.le_of_ble_eq_true rfl), (Nat.le_of_ble_eq_true rfl)⟩, hw _ w_instanceMethod_X8_all, hw _ ws_sel_X8_all⟩ ⟨pre_blind, va_recv hK hP (ci := 5) (q0 := 1) rfl rfl, pre_of hPc hKc hDc hN⟩ rfl rfl hl.1 rfl (lv_room (Nat.le_of_ble_eq_true rfl)) dX10_pure_4 ⟨(Nat.le_of_ble_eq_true rfl), (Nat.le_of_ble_eq_true rfl)⟩) hS (fun q _ h => hFc q h) hFc (fun r1 u t H locs ht hvm hq hB hz1 hk1 hS => ?_)
  obtain ⟨hP1, hK1, hD1⟩ := hB
  rw [ht] at hP1
  have hK1 := va_K.moved hvm.symm hK1
  obtain ⟨hP, hD⟩ := va_join (wr := [(h_xx, .inr (7, [(v_xx 0), .ref h_td, (v_xx 2), (v_xx 3), (v_xx 4), (v_xx 5), (v_xx 6), (v_xx 7)]))]) (w1 := [(h_td, .inr (5, [(v_td 0), (v_td 1), (v_td 2), (v_td 3), (v_td 4), (v_td 5), (v_td 6), (v_td 7), (v_td 8), .int 0]))]) hP hD [1] [0] rfl rfl (by decide) (by decide) hk1 hFc hP1 hD1
  have hP : va_P (dC, dI) cls [(h_xx, .inr (7, [(v_xx 0), .ref h_td, (v_xx 2), (v_xx 3), (v_xx 4), (v_xx 5), (v_xx 6), (v_xx 7)])), (h_td, .inr (5, [(v_td 0), (v_td 1), (v_td 2), (v_td 3), (v_td 4), (v_td 5), (v_td 6), (v_td 7), (v_td 8), .int 0]))] H := hP
  have hD : va_D A [(h_xx, .inr (7, [(v_xx 0), .ref h_td, (v_xx 2), (v_xx 3), (v_xx 4), (v_xx 5), (v_xx 6), (v_xx 7)])), (h_td, .inr (5, [(v_td 0), (v_td 1), (v_td 2), (v_td 3), (v_td 4), (v_td 5), (v_td 6), (v_td 7), (v_td 8), .int 0]))] := hD
  obtain rfl : r1 = 0 := hq
  refine lv_istore_n (lv' := [(1, .int 0), (0, .ref h_xx)]) hx hb dX10_pure_7 rfl hl (by decide) rfl (fun ls hl => ?_)
  refine lv_iconst (v := 0) hx hb dX10_pure_8 (by decide) ?_
  refine lv_istore_n (lv' := [(2, .int 0), (1, .int 0), (0, .ref h_xx)]) hx hb dX10_pure_9 rfl hl (by decide) rfl (fun ls hl => ?_)
  refine lv_iload_n hx hb dX10_pure_10 rfl (lv_at hl 0 rfl) ?_
  refine lv_bipush (v := 16) hx hb dX10_pure_11 (by decide) ?_
  refine lv_icmp_ge (tgt := 85) hx hb dX10_pure_13 (by decide) (fun c9 => absurd c9 (by decide)) (fun _ => ?_)
  refine lv_iconst (v := 0) hx hb dX10_pure_16 (by decide) ?_
  refine lv_istore_n (lv' := [(3, .int 0), (2, .int 0), (1, .int 0), (0, .ref h_xx)]) hx hb dX10_pure_17 rfl hl (by decide) rfl (fun ls hl => ?_)
  refine lv_iconst (v := 0) hx hb dX10_pure_18 (by decide) ?_
  refine lv_istore (lv' := [(4, .int 0), (3, .int 0), (2, .int 0), (1, .int 0), (0, .ref h_xx)]) hx hb dX10_pure_19 hl (by decide) rfl (fun ls hl => ?_)
  refine lv_iload hx hb dX10_pure_21 (lv_at hl 0 rfl) ?_
  refine lv_aload_n hx hb dX10_pure_23 rfl (lv_at hl 4 rfl) ?_
  refine va_get (D := (dC, dI)) (ci := 7) (v := .ref h_td) (C := RX10) (T := TX10) (N := 8) hx hb hw iwX10 hown hK hP 0 rfl rfl 1 (by decide) (hw _ w_f_X10_19) (fun _ h9 => h9) rfl dX10_pure_24 ?_
  refine va_getN (D := (dC, dI)) (ci := 5) (v := .int 0) (C := RX8) (T := TX8) (N := 10) (host := "OppositePairs") hx hb hw iwX8 hown hK hP 1 rfl rfl 9 (by decide) (hN.use n_f_X10_84 rfl) (fun _ h9 => h9) rfl dX10_pure_27 ?_
  refine lv_icmp_ge (tgt := 66) hx hb dX10_pure_30 (by decide) (fun _ => ?_) (fun c9 => absurd c9 (by decide))
  refine lv_iload_n hx hb dX10_pure_66 rfl (lv_at hl 1 rfl) ?_
  refine lv_if_ne (tgt := 73) hx hb dX10_pure_67 (by decide) (fun c9 => absurd c9 (by decide)) (fun _ => ?_)
  refine lv_goto (tgt := 85) hx hb dX10_pure_70 (by decide) ?_
  refine lv_aload_n hx hb dX10_pure_85 rfl (lv_at hl 4 rfl) ?_
  refine va_get (D := (dC, dI)) (ci := 7) (v := .ref h_td) (C := RX10) (T := TX10) (N := 8) hx hb hw iwX10 hown hK hP 0 rfl rfl 1 (by decide) (hw _ w_f_X10_19) (fun _ h9 => h9) rfl dX10_pure_86 ?_
  have hPc := hP.sub (ws' := [(h_td, .inr (5, [(v_td 0), (v_td 1), (v_td 2), (v_td 3), (v_td 4), (v_td 5), (v_td 6), (v_td 7), (v_td 8), .int 0]))]) [1] rfl
  have hDc := hD.sub (ws' := [(h_td, .inr (5, [(v_td 0), (v_td 1), (v_td 2), (v_td 3), (v_td 4), (v_td 5), (v_td 6), (v_td 7), (v_td 8), .int 0]))]) [1] (by decide) rfl
  have hKc := hK.sub (tys' := []) [] rfl
  have hFc := va_free (wc := [(h_td, .inr (5, [(v_td 0), (v_td 1), (v_td 2), (v_td 3), (v_td 4), (v_td 5), (v_td 6), (v_td 7), (v_td 8), .int 0]))]) hD hS hA [1] rfl
  refine va_calli (va_runVN (As := []) (rest := []) ⟨hx, hb, hml, hown, hts⟩ (c_X8_all l dC dI H.size h_td v_td) ⟨va_cnB (host := "OppositePairs") 0 hts (gd hT w_code_X8_all) rfl rfl rfl (hN _ n_m_X10_140) (hw _ w_ini_X8) (by decide +kernel) ⟨(Nat.le_of_ble_eq_true rfl), (Nat.le_of_ble_eq_true rfl)⟩, hw _ w_instanceMethod_X8_all, hw _ ws_sel_X8_all⟩ ⟨pre_blind, va_recv hK hP (ci := 5) (q0 := 1) rfl rfl, pre_of hPc hKc hDc hN⟩ rfl rfl hl.1 rfl (lv_room (Nat.le_of_ble_eq_true rfl)) dX10_pure_89 ⟨(Nat.le_of_ble_eq_true rfl), (Nat.le_of_ble_eq_true rfl)⟩) hS (fun q _ h => hFc q h) hFc (fun r2 u t H locs ht hvm hq hB hz1 hk1 hS => ?_)
  obtain ⟨hP1, hK1, hD1⟩ := hB
  rw [ht] at hP1
  have hK1 := va_K.moved hvm.symm hK1
  obtain ⟨hP, hD⟩ := va_join (wr := [(h_xx, .inr (7, [(v_xx 0), .ref h_td, (v_xx 2), (v_xx 3), (v_xx 4), (v_xx 5), (v_xx 6), (v_xx 7)]))]) (w1 := [(h_td, .inr (5, [(v_td 0), (v_td 1), (v_td 2), (v_td 3), (v_td 4), (v_td 5), (v_td 6), (v_td 7), (v_td 8), .int 0]))]) hP hD [1] [0] rfl rfl (by decide) (by decide) hk1 hFc hP1 hD1
  have hP : va_P (dC, dI) cls [(h_xx, .inr (7, [(v_xx 0), .ref h_td, (v_xx 2), (v_xx 3), (v_xx 4), (v_xx 5), (v_xx 6), (v_xx 7)])), (h_td, .inr (5, [(v_td 0), (v_td 1), (v_td 2), (v_td 3), (v_td 4), (v_td 5), (v_td 6), (v_td 7), (v_td 8), .int 0]))] H := hP
  have hD : va_D A [(h_xx, .inr (7, [(v_xx 0), .ref h_td, (v_xx 2), (v_xx 3), (v_xx 4), (v_xx 5), (v_xx 6), (v_xx 7)])), (h_td, .inr (5, [(v_td 0), (v_td 1), (v_td 2), (v_td 3), (v_td 4), (v_td 5), (v_td 6), (v_td 7), (v_td 8), .int 0]))] := hD
  obtain rfl : r2 = 0 := hq
  refine lv_iload_n hx hb dX10_pure_92 rfl (lv_at hl 3 rfl) ?_
  refine lv_iconst (v := (-1)) hx hb dX10_pure_93 (by decide) ?_
  refine lv_ixor hx hb dX10_pure_94 ?_
  refine lv_topi (fun z3 ez3 => ?_)
  obtain rfl : z3 = (-1) := ez3.trans (by decide)
  refine lv_iand hx hb dX10_pure_95 ?_
  refine lv_topi (fun z4 ez4 => ?_)
  obtain rfl : z4 = 0 := ez4.trans (by decide)
  refine W.widen (k := 0) (n := 0) (Nat.le_of_ble_eq_true rfl) (Nat.le_of_ble_eq_true rfl) ?_
  exact W.iret (v := 0) hx hb hr (fun t ht hW => ⟨⟨0, (), rfl, rfl, trivial⟩, hS.F ht⟩) hS.2.2 dX10_pure_96

set_option maxHeartbeats 4000000 in
set_option maxRecDepth 100000 in
theorem c_X10_solve (l : Launch) (dC : Nat → ClassId) (dI : Nat → Nat → Nat) (sz : Nat) (h_xx : Nat) (h_td : Nat) (v_xx : Nat → Value) (v_td : Nat → Value) (p1 : Int32) (p2 : Int32) (p3 : Int32) : Met l yX10_solve (Ws yX10_solve cX10_solve 5 (some .int)) ({ frames := 1, cells := 0, slots := 0, locals := 21 }) (PRE (dC, dI) cls [] [(h_xx, .inr (7, [(v_xx 0), .ref h_td, (v_xx 2), (v_xx 3), (v_xx 4), (v_xx 5), (v_xx 6), (v_xx 7)])), (h_td, .inr (5, [(v_td 0), (v_td 1), (v_td 2), (v_td 3), (v_td 4), (v_td 5), (v_td 6), (v_td 7), (v_td 8), .int 0]))] sz [.ref h_xx, .int p1, .int p2, .int p3]) (va_Qi (fun (r : Int32) (_ : Unit) => r = (-1)) (fun (_ : Unit) (_ : State) => True) (va_A [(h_xx, .inr (7, [(v_xx 0), .ref h_td, (v_xx 2), (v_xx 3), (v_xx 4), (v_xx 5), (v_xx 6), (v_xx 7)])), (h_td, .inr (5, [(v_td 0), (v_td 1), (v_td 2), (v_td 3), (v_td 4), (v_td 5), (v_td 6), (v_td 7), (v_td 8), .int 0]))] sz)) 0 0 (va_A [(h_xx, .inr (7, [(v_xx 0), .ref h_td, (v_xx 2), (v_xx 3), (v_xx 4), (v_xx 5), (v_xx 6), (v_xx 7)])), (h_td, .inr (5, [(v_td 0), (v_td 1), (v_td 2), (v_td 3), (v_td 4), (v_td 5), (v_td 6), (v_td 7), (v_td 8), .int 0]))] sz) := by
  refine Met.ofW (cc := cX10_solve) (maxL := 5) (ret := (some .int)) (by decide) rfl ?_
  intro p e s m args below meth c s₁ B hml hv
  obtain ⟨rfl, hsz, hP, hK, hD0, hN⟩ := hv
  have hx := B.exec
  have hb := B.bytes
  have hr := B.returns
  have hts := atoms_spec (ws := Ws yX10_solve cX10_solve 5 (some .int)) B.pre
  have hT : ∀ w ∈ WALL, w ∈ Ws yX10_solve cX10_solve 5 (some .int) := fun w h => List.mem_cons_of_mem _ h
  have hw := fun w (h : w ∈ WALL) => hts w (hT w h)
  have hown : s.vm.findClass RX10 = some m.cls := findClass_of_methodNamed B.named
  have hlocks := B.notSynchronized
  subst hsz
  have hD := hD0.self (sz := s.heap.size)
  generalize hAe : va_A [(h_xx, .inr (7, [(v_xx 0), .ref h_td, (v_xx 2), (v_xx 3), (v_xx 4), (v_xx 5), (v_xx 6), (v_xx 7)])), (h_td, .inr (5, [(v_td 0), (v_td 1), (v_td 2), (v_td 3), (v_td 4), (v_td 5), (v_td 6), (v_td 7), (v_td 8), .int 0]))] s.heap.size = A at hD ⊢
  have hA : ∀ q : Nat, s.heap.size ≤ q → A q := fun q h => by rw [← hAe]; exact Or.inr h
  have hS : va_S A s.heap s.heap [] := va_S.rf
  have hl := lv_entry ([.ref h_xx, .int p1, .int p2, .int p3]) (n := 5) (Nat.le_of_ble_eq_true rfl)
  rw [lg_entry_eq]
  generalize (lg_sl ([.ref h_xx, .int p1, .int p2, .int p3]) ++ List.replicate (5 - (lg_sl ([.ref h_xx, .int p1, .int p2, .int p3])).length) Slot.unset).toArray = ls at hl ⊢
  have hl : lv_has ls 5 [(0, .ref h_xx), (1, .int p1), (2, .int p2), (3, .int p3)] := hl
  refine lv_aload_n hx hb dX10_solve_0 rfl (lv_at hl 0 rfl) ?_
  refine va_get (D := (dC, dI)) (ci := 7) (v := .ref h_td) (C := RX10) (T := TX10) (N := 8) hx hb hw iwX10 hown hK hP 0 rfl rfl 1 (by decide) (hw _ w_f_X10_19) (fun _ h9 => h9) rfl dX10_solve_1 ?_
  refine lv_iload_n hx hb dX10_solve_4 rfl (lv_at hl 1 rfl) ?_
  have hPc := hP.sub (ws' := [(h_td, .inr (5, [(v_td 0), (v_td 1), (v_td 2), (v_td 3), (v_td 4), (v_td 5), (v_td 6), (v_td 7), (v_td 8), .int 0]))]) [1] rfl
  have hDc := hD.sub (ws' := [(h_td, .inr (5, [(v_td 0), (v_td 1), (v_td 2), (v_td 3), (v_td 4), (v_td 5), (v_td 6), (v_td 7), (v_td 8), .int 0]))]) [1] (by decide) rfl
  have hKc := hK.sub (tys' := []) [] rfl
  have hFc := va_free (wc := [(h_td, .inr (5, [(v_td 0), (v_td 1), (v_td 2), (v_td 3), (v_td 4), (v_td 5), (v_td 6), (v_td 7), (v_td 8), .int 0]))]) hD hS hA [1] rfl
  refine va_calli (va_runVN (As := [.int p1]) (rest := []) ⟨hx, hb, hml, hown, hts⟩ (c_X8_isClause l dC dI s.heap.size h_td v_td p1) ⟨va_cnB (host := "OppositePairs") 1 hts (gd hT w_code_X8_isClause) rfl rfl rfl (hN _ n_m_X10_90) (hw _ w_ini_X8) (by decide +kernel) ⟨(Nat.le_of_ble_eq_true rfl), (Nat.le_of_ble_eq_true rfl)⟩, hw _ w_instanceMethod_X8_isClause, hw _ ws_sel_X8_isClause⟩ ⟨pre_blind, va_recv hK hP (ci := 5) (q0 := 1) rfl rfl, pre_of hPc hKc hDc hN⟩ rfl rfl hl.1 rfl (lv_room (Nat.le_of_ble_eq_true rfl)) dX10_solve_5 ⟨(Nat.le_of_ble_eq_true rfl), (Nat.le_of_ble_eq_true rfl)⟩) hS (fun q _ h => hFc q h) hFc (fun r1 u t H locs ht hvm hq hB hz1 hk1 hS => ?_)
  obtain ⟨hP, hD⟩ := va_join (wr := [(h_xx, .inr (7, [(v_xx 0), .ref h_td, (v_xx 2), (v_xx 3), (v_xx 4), (v_xx 5), (v_xx 6), (v_xx 7)]))]) (w1 := []) hP hD [1] [0] rfl rfl (by decide) (by decide) hk1 hFc P_nil D_nil
  have hP : va_P (dC, dI) cls [(h_xx, .inr (7, [(v_xx 0), .ref h_td, (v_xx 2), (v_xx 3), (v_xx 4), (v_xx 5), (v_xx 6), (v_xx 7)]))] H := hP
  have hD : va_D A [(h_xx, .inr (7, [(v_xx 0), .ref h_td, (v_xx 2), (v_xx 3), (v_xx 4), (v_xx 5), (v_xx 6), (v_xx 7)]))] := hD
  obtain rfl : r1 = 0 := hq
  refine lv_if_eq (tgt := 19) hx hb dX10_solve_8 (by decide) (fun _ => ?_) (fun c9 => absurd c9 (by decide))
  refine lv_iconst (v := (-1)) hx hb dX10_solve_19 (by decide) ?_
  refine W.widen (k := 0) (n := 0) (Nat.le_of_ble_eq_true rfl) (Nat.le_of_ble_eq_true rfl) ?_
  exact W.iret (v := (-1)) hx hb hr (fun t ht hW => ⟨⟨(-1), (), rfl, rfl, trivial⟩, hS.F ht⟩) hS.2.2 dX10_solve_20

set_option maxHeartbeats 4000000 in
set_option maxRecDepth 100000 in
theorem c_X10_deepen (l : Launch) (dC : Nat → ClassId) (dI : Nat → Nat → Nat) (sz : Nat) (h_xx : Nat) (h_td : Nat) (v_xx : Nat → Value) (v_td : Nat → Value) (p1 : Int32) (p2 : Int32) (p3 : Int32) : Met l yX10_deepen (Ws yX10_deepen cX10_deepen 6 (some .int)) ({ frames := 1, cells := 0, slots := 0, locals := 21 }) (PRE (dC, dI) cls [] [(h_xx, .inr (7, [(v_xx 0), .ref h_td, (v_xx 2), (v_xx 3), (v_xx 4), (v_xx 5), (v_xx 6), (v_xx 7)])), (h_td, .inr (5, [(v_td 0), (v_td 1), (v_td 2), (v_td 3), (v_td 4), (v_td 5), (v_td 6), (v_td 7), (v_td 8), .int 0]))] sz [.ref h_xx, .int p1, .int p2, .int p3]) (va_Qi (fun (r : Int32) (_ : Unit) => r = (-3)) (fun (_ : Unit) (_ : State) => True) (va_A [(h_xx, .inr (7, [(v_xx 0), .ref h_td, (v_xx 2), (v_xx 3), (v_xx 4), (v_xx 5), (v_xx 6), (v_xx 7)])), (h_td, .inr (5, [(v_td 0), (v_td 1), (v_td 2), (v_td 3), (v_td 4), (v_td 5), (v_td 6), (v_td 7), (v_td 8), .int 0]))] sz)) 0 0 (va_A [(h_xx, .inr (7, [(v_xx 0), .ref h_td, (v_xx 2), (v_xx 3), (v_xx 4), (v_xx 5), (v_xx 6), (v_xx 7)])), (h_td, .inr (5, [(v_td 0), (v_td 1), (v_td 2), (v_td 3), (v_td 4), (v_td 5), (v_td 6), (v_td 7), (v_td 8), .int 0]))] sz) := by
  refine Met.ofW (cc := cX10_deepen) (maxL := 6) (ret := (some .int)) (by decide) rfl ?_
  intro p e s m args below meth c s₁ B hml hv
  obtain ⟨rfl, hsz, hP, hK, hD0, hN⟩ := hv
  have hx := B.exec
  have hb := B.bytes
  have hr := B.returns
  have hts := atoms_spec (ws := Ws yX10_deepen cX10_deepen 6 (some .int)) B.pre
  have hT : ∀ w ∈ WALL, w ∈ Ws yX10_deepen cX10_deepen 6 (some .int) := fun w h => List.mem_cons_of_mem _ h
  have hw := fun w (h : w ∈ WALL) => hts w (hT w h)
  have hown : s.vm.findClass RX10 = some m.cls := findClass_of_methodNamed B.named
  have hlocks := B.notSynchronized
  subst hsz
  have hD := hD0.self (sz := s.heap.size)
  generalize hAe : va_A [(h_xx, .inr (7, [(v_xx 0), .ref h_td, (v_xx 2), (v_xx 3), (v_xx 4), (v_xx 5), (v_xx 6), (v_xx 7)])), (h_td, .inr (5, [(v_td 0), (v_td 1), (v_td 2), (v_td 3), (v_td 4), (v_td 5), (v_td 6), (v_td 7), (v_td 8), .int 0]))] s.heap.size = A at hD ⊢
  have hA : ∀ q : Nat, s.heap.size ≤ q → A q := fun q h => by rw [← hAe]; exact Or.inr h
  have hS : va_S A s.heap s.heap [] := va_S.rf
  have hl := lv_entry ([.ref h_xx, .int p1, .int p2, .int p3]) (n := 6) (Nat.le_of_ble_eq_true rfl)
  rw [lg_entry_eq]
  generalize (lg_sl ([.ref h_xx, .int p1, .int p2, .int p3]) ++ List.replicate (6 - (lg_sl ([.ref h_xx, .int p1, .int p2, .int p3])).length) Slot.unset).toArray = ls at hl ⊢
  have hl : lv_has ls 6 [(0, .ref h_xx), (1, .int p1), (2, .int p2), (3, .int p3)] := hl
  refine lv_aload_n hx hb dX10_deepen_0 rfl (lv_at hl 0 rfl) ?_
  refine va_get (D := (dC, dI)) (ci := 7) (v := .ref h_td) (C := RX10) (T := TX10) (N := 8) hx hb hw iwX10 hown hK hP 0 rfl rfl 1 (by decide) (hw _ w_f_X10_19) (fun _ h9 => h9) rfl dX10_deepen_1 ?_
  refine lv_iload_n hx hb dX10_deepen_4 rfl (lv_at hl 1 rfl) ?_
  have hPc := hP.sub (ws' := [(h_td, .inr (5, [(v_td 0), (v_td 1), (v_td 2), (v_td 3), (v_td 4), (v_td 5), (v_td 6), (v_td 7), (v_td 8), .int 0]))]) [1] rfl
  have hDc := hD.sub (ws' := [(h_td, .inr (5, [(v_td 0), (v_td 1), (v_td 2), (v_td 3), (v_td 4), (v_td 5), (v_td 6), (v_td 7), (v_td 8), .int 0]))]) [1] (by decide) rfl
  have hKc := hK.sub (tys' := []) [] rfl
  have hFc := va_free (wc := [(h_td, .inr (5, [(v_td 0), (v_td 1), (v_td 2), (v_td 3), (v_td 4), (v_td 5), (v_td 6), (v_td 7), (v_td 8), .int 0]))]) hD hS hA [1] rfl
  refine va_calli (va_runVN (As := [.int p1]) (rest := []) ⟨hx, hb, hml, hown, hts⟩ (c_X8_isClause l dC dI s.heap.size h_td v_td p1) ⟨va_cnB (host := "OppositePairs") 1 hts (gd hT w_code_X8_isClause) rfl rfl rfl (hN _ n_m_X10_90) (hw _ w_ini_X8) (by decide +kernel) ⟨(Nat.le_of_ble_eq_true rfl), (Nat.le_of_ble_eq_true rfl)⟩, hw _ w_instanceMethod_X8_isClause, hw _ ws_sel_X8_isClause⟩ ⟨pre_blind, va_recv hK hP (ci := 5) (q0 := 1) rfl rfl, pre_of hPc hKc hDc hN⟩ rfl rfl hl.1 rfl (lv_room (Nat.le_of_ble_eq_true rfl)) dX10_deepen_5 ⟨(Nat.le_of_ble_eq_true rfl), (Nat.le_of_ble_eq_true rfl)⟩) hS (fun q _ h => hFc q h) hFc (fun r1 u t H locs ht hvm hq hB hz1 hk1 hS => ?_)
  obtain ⟨hP, hD⟩ := va_join (wr := [(h_xx, .inr (7, [(v_xx 0), .ref h_td, (v_xx 2), (v_xx 3), (v_xx 4), (v_xx 5), (v_xx 6), (v_xx 7)]))]) (w1 := []) hP hD [1] [0] rfl rfl (by decide) (by decide) hk1 hFc P_nil D_nil
  have hP : va_P (dC, dI) cls [(h_xx, .inr (7, [(v_xx 0), .ref h_td, (v_xx 2), (v_xx 3), (v_xx 4), (v_xx 5), (v_xx 6), (v_xx 7)]))] H := hP
  have hD : va_D A [(h_xx, .inr (7, [(v_xx 0), .ref h_td, (v_xx 2), (v_xx 3), (v_xx 4), (v_xx 5), (v_xx 6), (v_xx 7)]))] := hD
  obtain rfl : r1 = 0 := hq
  refine lv_if_eq (tgt := 19) hx hb dX10_deepen_8 (by decide) (fun _ => ?_) (fun c9 => absurd c9 (by decide))
  refine lv_bipush (v := (-3)) hx hb dX10_deepen_19 (by decide) ?_
  refine W.widen (k := 0) (n := 0) (Nat.le_of_ble_eq_true rfl) (Nat.le_of_ble_eq_true rfl) ?_
  exact W.iret (v := (-3)) hx hb hr (fun t ht hW => ⟨⟨(-3), (), rfl, rfl, trivial⟩, hS.F ht⟩) hS.2.2 dX10_deepen_21

set_option maxHeartbeats 4000000 in
set_option maxRecDepth 100000 in
theorem c_X10_any (l : Launch) (dC : Nat → ClassId) (dI : Nat → Nat → Nat) (sz : Nat) (h_xx : Nat) (h_td : Nat) (h_pv : Nat) (h_mx : Nat) (v_xx : Nat → Value) (v_td : Nat → Value) (v_pv : Nat → Value) (v_mx : Nat → Value) (p1 : Int32) (p2 : Int32) : Met l yX10_any (Ws yX10_any cX10_any 5 (some .int)) ({ frames := 2, cells := 0, slots := 0, locals := 40 }) (PRE (dC, dI) cls [] [(h_xx, .inr (7, [(v_xx 0), .ref h_td, (v_xx 2), (v_xx 3), (v_xx 4), .ref h_pv, .ref h_mx, (v_xx 7)])), (h_td, .inr (5, [(v_td 0), (v_td 1), (v_td 2), (v_td 3), (v_td 4), (v_td 5), (v_td 6), (v_td 7), (v_td 8), .int 0])), (h_pv, .inr (3, [(v_pv 0), (v_pv 1), (v_pv 2), (v_pv 3), (v_pv 4), (v_pv 5), (v_pv 6), .int 0, (v_pv 8), .int 0, (v_pv 10), (v_pv 11), .int 0, .int 0, .int 0, .int 0, (v_pv 16), .int 0])), (h_mx, .inr (2, [(v_mx 0), (v_mx 1), (v_mx 2), (v_mx 3), (v_mx 4), (v_mx 5), (v_mx 6), (v_mx 7), (v_mx 8), (v_mx 9), (v_mx 10), (v_mx 11)]))] sz [.ref h_xx, .int p1, .int p2]) (va_Qi (fun (r : Int32) (_ : Unit) => r = an_any p1 p2) (fun (_ : Unit) (_ : State) => True) (va_A [(h_xx, .inr (7, [(v_xx 0), .ref h_td, (v_xx 2), (v_xx 3), (v_xx 4), .ref h_pv, .ref h_mx, (v_xx 7)])), (h_td, .inr (5, [(v_td 0), (v_td 1), (v_td 2), (v_td 3), (v_td 4), (v_td 5), (v_td 6), (v_td 7), (v_td 8), .int 0])), (h_pv, .inr (3, [(v_pv 0), (v_pv 1), (v_pv 2), (v_pv 3), (v_pv 4), (v_pv 5), (v_pv 6), .int 0, (v_pv 8), .int 0, (v_pv 10), (v_pv 11), .int 0, .int 0, .int 0, .int 0, (v_pv 16), .int 0])), (h_mx, .inr (2, [(v_mx 0), (v_mx 1), (v_mx 2), (v_mx 3), (v_mx 4), (v_mx 5), (v_mx 6), (v_mx 7), (v_mx 8), (v_mx 9), (v_mx 10), (v_mx 11)]))] sz)) 0 0 (va_A [(h_xx, .inr (7, [(v_xx 0), .ref h_td, (v_xx 2), (v_xx 3), (v_xx 4), .ref h_pv, .ref h_mx, (v_xx 7)])), (h_td, .inr (5, [(v_td 0), (v_td 1), (v_td 2), (v_td 3), (v_td 4), (v_td 5), (v_td 6), (v_td 7), (v_td 8), .int 0])), (h_pv, .inr (3, [(v_pv 0), (v_pv 1), (v_pv 2), (v_pv 3), (v_pv 4), (v_pv 5), (v_pv 6), .int 0, (v_pv 8), .int 0, (v_pv 10), (v_pv 11), .int 0, .int 0, .int 0, .int 0, (v_pv 16), .int 0])), (h_mx, .inr (2, [(v_mx 0), (v_mx 1), (v_mx 2), (v_mx 3), (v_mx 4), (v_mx 5), (v_mx 6), (v_mx 7), (v_mx 8), (v_mx 9), (v_mx 10), (v_mx 11)]))] sz) := by
  refine Met.ofW (cc := cX10_any) (maxL := 5) (ret := (some .int)) (by decide) rfl ?_
  intro p e s m args below meth c s₁ B hml hv
  obtain ⟨rfl, hsz, hP, hK, hD0, hN⟩ := hv
  have hx := B.exec
  have hb := B.bytes
  have hr := B.returns
  have hts := atoms_spec (ws := Ws yX10_any cX10_any 5 (some .int)) B.pre
  have hT : ∀ w ∈ WALL, w ∈ Ws yX10_any cX10_any 5 (some .int) := fun w h => List.mem_cons_of_mem _ h
  have hw := fun w (h : w ∈ WALL) => hts w (hT w h)
  have hown : s.vm.findClass RX10 = some m.cls := findClass_of_methodNamed B.named
  have hlocks := B.notSynchronized
  subst hsz
  have hD := hD0.self (sz := s.heap.size)
  generalize hAe : va_A [(h_xx, .inr (7, [(v_xx 0), .ref h_td, (v_xx 2), (v_xx 3), (v_xx 4), .ref h_pv, .ref h_mx, (v_xx 7)])), (h_td, .inr (5, [(v_td 0), (v_td 1), (v_td 2), (v_td 3), (v_td 4), (v_td 5), (v_td 6), (v_td 7), (v_td 8), .int 0])), (h_pv, .inr (3, [(v_pv 0), (v_pv 1), (v_pv 2), (v_pv 3), (v_pv 4), (v_pv 5), (v_pv 6), .int 0, (v_pv 8), .int 0, (v_pv 10), (v_pv 11), .int 0, .int 0, .int 0, .int 0, (v_pv 16), .int 0])), (h_mx, .inr (2, [(v_mx 0), (v_mx 1), (v_mx 2), (v_mx 3), (v_mx 4), (v_mx 5), (v_mx 6), (v_mx 7), (v_mx 8), (v_mx 9), (v_mx 10), (v_mx 11)]))] s.heap.size = A at hD ⊢
  have hA : ∀ q : Nat, s.heap.size ≤ q → A q := fun q h => by rw [← hAe]; exact Or.inr h
  have hS : va_S A s.heap s.heap [] := va_S.rf
  have hl := lv_entry ([.ref h_xx, .int p1, .int p2]) (n := 5) (Nat.le_of_ble_eq_true rfl)
  rw [lg_entry_eq]
  generalize (lg_sl ([.ref h_xx, .int p1, .int p2]) ++ List.replicate (5 - (lg_sl ([.ref h_xx, .int p1, .int p2])).length) Slot.unset).toArray = ls at hl ⊢
  have hl : lv_has ls 5 [(0, .ref h_xx), (1, .int p1), (2, .int p2)] := hl
  refine lv_iload_n hx hb dX10_any_0 rfl (lv_at hl 1 rfl) ?_
  refine lv_iload_n hx hb dX10_any_1 rfl (lv_at hl 2 rfl) ?_
  have hPc := hP.sub (ws' := []) [] rfl
  have hDc := hD.sub (ws' := []) [] (by decide) rfl
  have hKc := hK.sub (tys' := []) [] rfl
  have hFc := va_free (wc := []) hD hS hA [] rfl
  refine va_calli (va_runS (As := [.int p1, .int p2]) (rest := []) ⟨hx, hb, hml, hown, hts⟩ (c_X10_canBe l dC dI s.heap.size p1 p2) (cwS 2 hts (gs hT w_m_X10_150 w_static_X10_canBe w_ini_X10 w_code_X10_canBe) rfl rfl rfl (by decide +kernel) ⟨(Nat.le_of_ble_eq_true rfl), (Nat.le_of_ble_eq_true rfl)⟩) ⟨pre_blind, pre_of hPc hKc hDc hN⟩ rfl rfl hl.1 rfl (lv_room (Nat.le_of_ble_eq_true rfl)) dX10_any_2 ⟨(Nat.le_of_ble_eq_true rfl), (Nat.le_of_ble_eq_true rfl)⟩) hS (fun q _ h => hFc q h) hFc (fun r1 u t H locs ht hvm hq hB hz1 hk1 hS => ?_)
  obtain ⟨hP, hD⟩ := va_join (wr := [(h_xx, .inr (7, [(v_xx 0), .ref h_td, (v_xx 2), (v_xx 3), (v_xx 4), .ref h_pv, .ref h_mx, (v_xx 7)])), (h_td, .inr (5, [(v_td 0), (v_td 1), (v_td 2), (v_td 3), (v_td 4), (v_td 5), (v_td 6), (v_td 7), (v_td 8), .int 0])), (h_pv, .inr (3, [(v_pv 0), (v_pv 1), (v_pv 2), (v_pv 3), (v_pv 4), (v_pv 5), (v_pv 6), .int 0, (v_pv 8), .int 0, (v_pv 10), (v_pv 11), .int 0, .int 0, .int 0, .int 0, (v_pv 16), .int 0])), (h_mx, .inr (2, [(v_mx 0), (v_mx 1), (v_mx 2), (v_mx 3), (v_mx 4), (v_mx 5), (v_mx 6), (v_mx 7), (v_mx 8), (v_mx 9), (v_mx 10), (v_mx 11)]))]) (w1 := []) hP hD [] [0, 1, 2, 3] rfl rfl (by decide) (by decide) hk1 hFc P_nil D_nil
  have hP : va_P (dC, dI) cls [(h_xx, .inr (7, [(v_xx 0), .ref h_td, (v_xx 2), (v_xx 3), (v_xx 4), .ref h_pv, .ref h_mx, (v_xx 7)])), (h_td, .inr (5, [(v_td 0), (v_td 1), (v_td 2), (v_td 3), (v_td 4), (v_td 5), (v_td 6), (v_td 7), (v_td 8), .int 0])), (h_pv, .inr (3, [(v_pv 0), (v_pv 1), (v_pv 2), (v_pv 3), (v_pv 4), (v_pv 5), (v_pv 6), .int 0, (v_pv 8), .int 0, (v_pv 10), (v_pv 11), .int 0, .int 0, .int 0, .int 0, (v_pv 16), .int 0])), (h_mx, .inr (2, [(v_mx 0), (v_mx 1), (v_mx 2), (v_mx 3), (v_mx 4), (v_mx 5), (v_mx 6), (v_mx 7), (v_mx 8), (v_mx 9), (v_mx 10), (v_mx 11)]))] H := hP
  have hD : va_D A [(h_xx, .inr (7, [(v_xx 0), .ref h_td, (v_xx 2), (v_xx 3), (v_xx 4), .ref h_pv, .ref h_mx, (v_xx 7)])), (h_td, .inr (5, [(v_td 0), (v_td 1), (v_td 2), (v_td 3), (v_td 4), (v_td 5), (v_td 6), (v_td 7), (v_td 8), .int 0])), (h_pv, .inr (3, [(v_pv 0), (v_pv 1), (v_pv 2), (v_pv 3), (v_pv 4), (v_pv 5), (v_pv 6), .int 0, (v_pv 8), .int 0, (v_pv 10), (v_pv 11), .int 0, .int 0, .int 0, .int 0, (v_pv 16), .int 0])), (h_mx, .inr (2, [(v_mx 0), (v_mx 1), (v_mx 2), (v_mx 3), (v_mx 4), (v_mx 5), (v_mx 6), (v_mx 7), (v_mx 8), (v_mx 9), (v_mx 10), (v_mx 11)]))] := hD
  rcases hq with ⟨rfl, hq⟩ | ⟨rfl, hq⟩
  · have := hq
    refine lv_if_ne (tgt := 11) hx hb dX10_any_5 (by decide) (fun _ => ?_) (fun c9 => absurd c9 (by decide))
    refine lv_aload_n hx hb dX10_any_11 rfl (lv_at hl 0 rfl) ?_
    have hPc := hP.sub (ws' := [(h_xx, .inr (7, [(v_xx 0), .ref h_td, (v_xx 2), (v_xx 3), (v_xx 4), .ref h_pv, .ref h_mx, (v_xx 7)])), (h_pv, .inr (3, [(v_pv 0), (v_pv 1), (v_pv 2), (v_pv 3), (v_pv 4), (v_pv 5), (v_pv 6), .int 0, (v_pv 8), .int 0, (v_pv 10), (v_pv 11), .int 0, .int 0, .int 0, .int 0, (v_pv 16), .int 0])), (h_mx, .inr (2, [(v_mx 0), (v_mx 1), (v_mx 2), (v_mx 3), (v_mx 4), (v_mx 5), (v_mx 6), (v_mx 7), (v_mx 8), (v_mx 9), (v_mx 10), (v_mx 11)]))]) [0, 2, 3] rfl
    have hDc := hD.sub (ws' := [(h_xx, .inr (7, [(v_xx 0), .ref h_td, (v_xx 2), (v_xx 3), (v_xx 4), .ref h_pv, .ref h_mx, (v_xx 7)])), (h_pv, .inr (3, [(v_pv 0), (v_pv 1), (v_pv 2), (v_pv 3), (v_pv 4), (v_pv 5), (v_pv 6), .int 0, (v_pv 8), .int 0, (v_pv 10), (v_pv 11), .int 0, .int 0, .int 0, .int 0, (v_pv 16), .int 0])), (h_mx, .inr (2, [(v_mx 0), (v_mx 1), (v_mx 2), (v_mx 3), (v_mx 4), (v_mx 5), (v_mx 6), (v_mx 7), (v_mx 8), (v_mx 9), (v_mx 10), (v_mx 11)]))]) [0, 2, 3] (by decide) rfl
    have hKc := hK.sub (tys' := []) [] rfl
    have hFc := va_free (wc := [(h_xx, .inr (7, [(v_xx 0), .ref h_td, (v_xx 2), (v_xx 3), (v_xx 4), .ref h_pv, .ref h_mx, (v_xx 7)])), (h_pv, .inr (3, [(v_pv 0), (v_pv 1), (v_pv 2), (v_pv 3), (v_pv 4), (v_pv 5), (v_pv 6), .int 0, (v_pv 8), .int 0, (v_pv 10), (v_pv 11), .int 0, .int 0, .int 0, .int 0, (v_pv 16), .int 0])), (h_mx, .inr (2, [(v_mx 0), (v_mx 1), (v_mx 2), (v_mx 3), (v_mx 4), (v_mx 5), (v_mx 6), (v_mx 7), (v_mx 8), (v_mx 9), (v_mx 10), (v_mx 11)]))]) hD hS hA [0, 2, 3] rfl
    refine va_callv (va_runV (As := []) (rest := []) ⟨hx, hb, hml, hown, hts⟩ (c_X10_begin l dC dI H.size h_xx h_pv h_mx (fun k => List.getD [(v_xx 0), .ref h_td, (v_xx 2), (v_xx 3), (v_xx 4), .ref h_pv, .ref h_mx, (v_xx 7)] k .null) (fun k => List.getD [(v_pv 0), (v_pv 1), (v_pv 2), (v_pv 3), (v_pv 4), (v_pv 5), (v_pv 6), .int 0, (v_pv 8), .int 0, (v_pv 10), (v_pv 11), .int 0, .int 0, .int 0, .int 0, (v_pv 16), .int 0] k .null) v_mx) (cwV 0 hts (gv hT w_m_X10_153 w_instanceMethod_X10_begin ws_sel_X10_begin w_ini_X10 w_code_X10_begin) rfl rfl rfl (by decide +kernel) ⟨(Nat.le_of_ble_eq_true rfl), (Nat.le_of_ble_eq_true rfl)⟩) ⟨pre_blind, va_recv hK hP (ci := 7) (q0 := 0) rfl rfl, pre_of hPc hKc hDc hN⟩ rfl rfl hl.1 rfl (lv_room (Nat.le_of_ble_eq_true rfl)) dX10_any_12 ⟨(Nat.le_of_ble_eq_true rfl), (Nat.le_of_ble_eq_true rfl)⟩) hS (fun q _ h => hFc q h) hFc (fun u t H locs ht hvm hq hB hz1 hk1 hS => ?_)
    obtain ⟨hP1, hK1, hD1⟩ := hB
    rw [ht] at hP1
    have hK1 := va_K.moved hvm.symm hK1
    obtain ⟨hP, hD⟩ := va_join (wr := [(h_td, .inr (5, [(v_td 0), (v_td 1), (v_td 2), (v_td 3), (v_td 4), (v_td 5), (v_td 6), (v_td 7), (v_td 8), .int 0]))]) (w1 := [(h_xx, .inr (7, [(v_xx 0), .ref h_td, (v_xx 2), (v_xx 3), (v_xx 4), .ref h_pv, .ref h_mx, (v_xx 7)])), (h_mx, .inr (2, [(v_mx 0), (v_mx 1), (v_mx 2), (v_mx 3), .int 0, (v_mx 5), (v_mx 6), (v_mx 7), (v_mx 8), (v_mx 9), .int (-2), (v_mx 11)])), (h_pv, .inr (3, [(v_pv 0), (v_pv 1), (v_pv 2), (v_pv 3), (v_pv 4), (v_pv 5), (v_pv 6), .int 0, (v_pv 8), .int 0, (v_pv 10), (v_pv 11), .int 0, .int 0, .int 0, .int 0, (v_pv 16), .int 0]))]) hP hD [0, 2, 3] [1] rfl rfl (by decide) (by decide) hk1 hFc hP1 hD1
    have hP : va_P (dC, dI) cls [(h_td, .inr (5, [(v_td 0), (v_td 1), (v_td 2), (v_td 3), (v_td 4), (v_td 5), (v_td 6), (v_td 7), (v_td 8), .int 0])), (h_xx, .inr (7, [(v_xx 0), .ref h_td, (v_xx 2), (v_xx 3), (v_xx 4), .ref h_pv, .ref h_mx, (v_xx 7)])), (h_mx, .inr (2, [(v_mx 0), (v_mx 1), (v_mx 2), (v_mx 3), .int 0, (v_mx 5), (v_mx 6), (v_mx 7), (v_mx 8), (v_mx 9), .int (-2), (v_mx 11)])), (h_pv, .inr (3, [(v_pv 0), (v_pv 1), (v_pv 2), (v_pv 3), (v_pv 4), (v_pv 5), (v_pv 6), .int 0, (v_pv 8), .int 0, (v_pv 10), (v_pv 11), .int 0, .int 0, .int 0, .int 0, (v_pv 16), .int 0]))] H := hP
    have hD : va_D A [(h_td, .inr (5, [(v_td 0), (v_td 1), (v_td 2), (v_td 3), (v_td 4), (v_td 5), (v_td 6), (v_td 7), (v_td 8), .int 0])), (h_xx, .inr (7, [(v_xx 0), .ref h_td, (v_xx 2), (v_xx 3), (v_xx 4), .ref h_pv, .ref h_mx, (v_xx 7)])), (h_mx, .inr (2, [(v_mx 0), (v_mx 1), (v_mx 2), (v_mx 3), .int 0, (v_mx 5), (v_mx 6), (v_mx 7), (v_mx 8), (v_mx 9), .int (-2), (v_mx 11)])), (h_pv, .inr (3, [(v_pv 0), (v_pv 1), (v_pv 2), (v_pv 3), (v_pv 4), (v_pv 5), (v_pv 6), .int 0, (v_pv 8), .int 0, (v_pv 10), (v_pv 11), .int 0, .int 0, .int 0, .int 0, (v_pv 16), .int 0]))] := hD
    refine lv_iconst (v := 0) hx hb dX10_any_15 (by decide) ?_
    refine lv_istore_n (lv' := [(3, .int 0), (0, .ref h_xx), (1, .int p1), (2, .int p2)]) hx hb dX10_any_16 rfl hl (by decide) rfl (fun ls hl => ?_)
    refine lv_iload_n hx hb dX10_any_17 rfl (lv_at hl 0 rfl) ?_
    refine lv_aload_n hx hb dX10_any_18 rfl (lv_at hl 1 rfl) ?_
    refine va_get (D := (dC, dI)) (ci := 7) (v := .ref h_td) (C := RX10) (T := TX10) (N := 8) hx hb hw iwX10 hown hK hP 1 rfl rfl 1 (by decide) (hw _ w_f_X10_19) (fun _ h9 => h9) rfl dX10_any_19 ?_
    refine va_getN (D := (dC, dI)) (ci := 5) (v := .int 0) (C := RX8) (T := TX8) (N := 10) (host := "OppositePairs") hx hb hw iwX8 hown hK hP 0 rfl rfl 9 (by decide) (hN.use n_f_X10_84 rfl) (fun _ h9 => h9) rfl dX10_any_22 ?_
    refine lv_icmp_ge (tgt := 64) hx hb dX10_any_25 (by decide) (fun _ => ?_) (fun c9 => absurd c9 (by decide))
    refine lv_iconst (v := (-1)) hx hb dX10_any_64 (by decide) ?_
    refine W.widen (k := 0) (n := 0) (Nat.le_of_ble_eq_true rfl) (Nat.le_of_ble_eq_true rfl) ?_
    exact W.iret (v := (-1)) hx hb hr (fun t ht hW => ⟨⟨(-1), (), rfl, (by unfold an_any; split <;> first | rfl | (exfalso; omega)), trivial⟩, hS.F ht⟩) hS.2.2 dX10_any_65
  · have := hq
    refine lv_if_ne (tgt := 11) hx hb dX10_any_5 (by decide) (fun c9 => absurd c9 (by decide)) (fun _ => ?_)
    refine lv_bipush (v := (-3)) hx hb dX10_any_8 (by decide) ?_
    refine W.widen (k := 0) (n := 0) (Nat.le_of_ble_eq_true rfl) (Nat.le_of_ble_eq_true rfl) ?_
    exact W.iret (v := (-3)) hx hb hr (fun t ht hW => ⟨⟨(-3), (), rfl, (by unfold an_any; split <;> first | rfl | (exfalso; omega)), trivial⟩, hS.F ht⟩) hS.2.2 dX10_any_10

set_option maxHeartbeats 4000000 in
set_option maxRecDepth 100000 in
theorem c_X10_tried (l : Launch) (dC : Nat → ClassId) (dI : Nat → Nat → Nat) (sz : Nat) (h_xx : Nat) (h_pv : Nat) (v_xx : Nat → Value) (v_pv : Nat → Value) (p1 : Int32) : Met l yX10_tried (Ws yX10_tried cX10_tried 2 (some .int)) ({ frames := 0, cells := 0, slots := 0, locals := 0 }) (PRE (dC, dI) cls [] [(h_xx, .inr (7, [(v_xx 0), (v_xx 1), (v_xx 2), (v_xx 3), (v_xx 4), .ref h_pv, (v_xx 6), (v_xx 7)])), (h_pv, .inr (3, [(v_pv 0), (v_pv 1), (v_pv 2), (v_pv 3), (v_pv 4), (v_pv 5), (v_pv 6), .int 0, (v_pv 8), .int 0, (v_pv 10), (v_pv 11), .int 0, .int 0, .int 0, .int 0, (v_pv 16), .int 0]))] sz [.ref h_xx, .int p1]) (va_Qi (fun (r : Int32) (_ : Unit) => r = an_tried p1) (fun (_ : Unit) (_ : State) => True) (va_A [(h_xx, .inr (7, [(v_xx 0), (v_xx 1), (v_xx 2), (v_xx 3), (v_xx 4), .ref h_pv, (v_xx 6), (v_xx 7)])), (h_pv, .inr (3, [(v_pv 0), (v_pv 1), (v_pv 2), (v_pv 3), (v_pv 4), (v_pv 5), (v_pv 6), .int 0, (v_pv 8), .int 0, (v_pv 10), (v_pv 11), .int 0, .int 0, .int 0, .int 0, (v_pv 16), .int 0]))] sz)) 0 0 (va_A [(h_xx, .inr (7, [(v_xx 0), (v_xx 1), (v_xx 2), (v_xx 3), (v_xx 4), .ref h_pv, (v_xx 6), (v_xx 7)])), (h_pv, .inr (3, [(v_pv 0), (v_pv 1), (v_pv 2), (v_pv 3), (v_pv 4), (v_pv 5), (v_pv 6), .int 0, (v_pv 8), .int 0, (v_pv 10), (v_pv 11), .int 0, .int 0, .int 0, .int 0, (v_pv 16), .int 0]))] sz) := by
  refine Met.ofW (cc := cX10_tried) (maxL := 2) (ret := (some .int)) (by decide) rfl ?_
  intro p e s m args below meth c s₁ B hml hv
  obtain ⟨rfl, hsz, hP, hK, hD0, hN⟩ := hv
  have hx := B.exec
  have hb := B.bytes
  have hr := B.returns
  have hts := atoms_spec (ws := Ws yX10_tried cX10_tried 2 (some .int)) B.pre
  have hT : ∀ w ∈ WALL, w ∈ Ws yX10_tried cX10_tried 2 (some .int) := fun w h => List.mem_cons_of_mem _ h
  have hw := fun w (h : w ∈ WALL) => hts w (hT w h)
  have hown : s.vm.findClass RX10 = some m.cls := findClass_of_methodNamed B.named
  have hlocks := B.notSynchronized
  subst hsz
  have hD := hD0.self (sz := s.heap.size)
  generalize hAe : va_A [(h_xx, .inr (7, [(v_xx 0), (v_xx 1), (v_xx 2), (v_xx 3), (v_xx 4), .ref h_pv, (v_xx 6), (v_xx 7)])), (h_pv, .inr (3, [(v_pv 0), (v_pv 1), (v_pv 2), (v_pv 3), (v_pv 4), (v_pv 5), (v_pv 6), .int 0, (v_pv 8), .int 0, (v_pv 10), (v_pv 11), .int 0, .int 0, .int 0, .int 0, (v_pv 16), .int 0]))] s.heap.size = A at hD ⊢
  have hA : ∀ q : Nat, s.heap.size ≤ q → A q := fun q h => by rw [← hAe]; exact Or.inr h
  have hS : va_S A s.heap s.heap [] := va_S.rf
  have hl := lv_entry ([.ref h_xx, .int p1]) (n := 2) (Nat.le_of_ble_eq_true rfl)
  rw [lg_entry_eq]
  generalize (lg_sl ([.ref h_xx, .int p1]) ++ List.replicate (2 - (lg_sl ([.ref h_xx, .int p1])).length) Slot.unset).toArray = ls at hl ⊢
  have hl : lv_has ls 2 [(0, .ref h_xx), (1, .int p1)] := hl
  refine lv_iload_n hx hb dX10_tried_0 rfl (lv_at hl 1 rfl) ?_
  have s1 : (p1).toInt < 0 ∨ 3 < (p1).toInt ∨ (p1).toInt = 0 ∨ (p1).toInt = 1 ∨ (p1).toInt = 2 ∨ (p1).toInt = 3 := by omega
  rcases s1 with s1 | s1 | s1 | s1 | s1 | s1
  · refine lv_tableOut (tgt := 64) hx hb dX10_tried_1 (Or.inl s1) (by decide) ?_
    refine lv_iconst (v := (-1)) hx hb dX10_tried_64 (by decide) ?_
    refine W.widen (k := 0) (n := 0) (Nat.le_of_ble_eq_true rfl) (Nat.le_of_ble_eq_true rfl) ?_
    exact W.iret (v := (-1)) hx hb hr (fun t ht hW => ⟨⟨(-1), (), rfl, (by unfold an_tried; split <;> first | rfl | (exfalso; omega)), trivial⟩, hS.F ht⟩) hS.2.2 dX10_tried_65
  · refine lv_tableOut (tgt := 64) hx hb dX10_tried_1 (Or.inr s1) (by decide) ?_
    refine lv_iconst (v := (-1)) hx hb dX10_tried_64 (by decide) ?_
    refine W.widen (k := 0) (n := 0) (Nat.le_of_ble_eq_true rfl) (Nat.le_of_ble_eq_true rfl) ?_
    exact W.iret (v := (-1)) hx hb hr (fun t ht hW => ⟨⟨(-1), (), rfl, (by unfold an_tried; split <;> first | rfl | (exfalso; omega)), trivial⟩, hS.F ht⟩) hS.2.2 dX10_tried_65
  · refine lv_tableIn (off := 31) (tgt := 32) hx hb dX10_tried_1 (by omega) (by omega) (by rw [s1]; rfl) (by decide) ?_
    refine lv_aload_n hx hb dX10_tried_32 rfl (lv_at hl 0 rfl) ?_
    refine va_get (D := (dC, dI)) (ci := 7) (v := .ref h_pv) (C := RX10) (T := TX10) (N := 8) hx hb hw iwX10 hown hK hP 0 rfl rfl 5 (by decide) (hw _ w_f_X10_47) (fun _ h9 => h9) rfl dX10_tried_33 ?_
    refine va_getN (D := (dC, dI)) (ci := 3) (v := .int 0) (C := RX4) (T := TX4) (N := 18) (host := "OppositePairs") hx hb hw iwX4 hown hK hP 1 rfl rfl 12 (by decide) (hN.use n_f_X10_163 rfl) (fun _ h9 => h9) rfl dX10_tried_36 ?_
    refine W.widen (k := 0) (n := 0) (Nat.le_of_ble_eq_true rfl) (Nat.le_of_ble_eq_true rfl) ?_
    exact W.iret (v := 0) hx hb hr (fun t ht hW => ⟨⟨0, (), rfl, (by unfold an_tried; split <;> first | rfl | (exfalso; omega)), trivial⟩, hS.F ht⟩) hS.2.2 dX10_tried_39
  · refine lv_tableIn (off := 39) (tgt := 40) hx hb dX10_tried_1 (by omega) (by omega) (by rw [s1]; rfl) (by decide) ?_
    refine lv_aload_n hx hb dX10_tried_40 rfl (lv_at hl 0 rfl) ?_
    refine va_get (D := (dC, dI)) (ci := 7) (v := .ref h_pv) (C := RX10) (T := TX10) (N := 8) hx hb hw iwX10 hown hK hP 0 rfl rfl 5 (by decide) (hw _ w_f_X10_47) (fun _ h9 => h9) rfl dX10_tried_41 ?_
    refine va_getN (D := (dC, dI)) (ci := 3) (v := .int 0) (C := RX4) (T := TX4) (N := 18) (host := "OppositePairs") hx hb hw iwX4 hown hK hP 1 rfl rfl 13 (by decide) (hN.use n_f_X10_166 rfl) (fun _ h9 => h9) rfl dX10_tried_44 ?_
    refine W.widen (k := 0) (n := 0) (Nat.le_of_ble_eq_true rfl) (Nat.le_of_ble_eq_true rfl) ?_
    exact W.iret (v := 0) hx hb hr (fun t ht hW => ⟨⟨0, (), rfl, (by unfold an_tried; split <;> first | rfl | (exfalso; omega)), trivial⟩, hS.F ht⟩) hS.2.2 dX10_tried_47
  · refine lv_tableIn (off := 47) (tgt := 48) hx hb dX10_tried_1 (by omega) (by omega) (by rw [s1]; rfl) (by decide) ?_
    refine lv_aload_n hx hb dX10_tried_48 rfl (lv_at hl 0 rfl) ?_
    refine va_get (D := (dC, dI)) (ci := 7) (v := .ref h_pv) (C := RX10) (T := TX10) (N := 8) hx hb hw iwX10 hown hK hP 0 rfl rfl 5 (by decide) (hw _ w_f_X10_47) (fun _ h9 => h9) rfl dX10_tried_49 ?_
    refine va_getN (D := (dC, dI)) (ci := 3) (v := .int 0) (C := RX4) (T := TX4) (N := 18) (host := "OppositePairs") hx hb hw iwX4 hown hK hP 1 rfl rfl 14 (by decide) (hN.use n_f_X10_169 rfl) (fun _ h9 => h9) rfl dX10_tried_52 ?_
    refine W.widen (k := 0) (n := 0) (Nat.le_of_ble_eq_true rfl) (Nat.le_of_ble_eq_true rfl) ?_
    exact W.iret (v := 0) hx hb hr (fun t ht hW => ⟨⟨0, (), rfl, (by unfold an_tried; split <;> first | rfl | (exfalso; omega)), trivial⟩, hS.F ht⟩) hS.2.2 dX10_tried_55
  · refine lv_tableIn (off := 55) (tgt := 56) hx hb dX10_tried_1 (by omega) (by omega) (by rw [s1]; rfl) (by decide) ?_
    refine lv_aload_n hx hb dX10_tried_56 rfl (lv_at hl 0 rfl) ?_
    refine va_get (D := (dC, dI)) (ci := 7) (v := .ref h_pv) (C := RX10) (T := TX10) (N := 8) hx hb hw iwX10 hown hK hP 0 rfl rfl 5 (by decide) (hw _ w_f_X10_47) (fun _ h9 => h9) rfl dX10_tried_57 ?_
    refine va_getN (D := (dC, dI)) (ci := 3) (v := .int 0) (C := RX4) (T := TX4) (N := 18) (host := "OppositePairs") hx hb hw iwX4 hown hK hP 1 rfl rfl 15 (by decide) (hN.use n_f_X10_172 rfl) (fun _ h9 => h9) rfl dX10_tried_60 ?_
    refine W.widen (k := 0) (n := 0) (Nat.le_of_ble_eq_true rfl) (Nat.le_of_ble_eq_true rfl) ?_
    exact W.iret (v := 0) hx hb hr (fun t ht hW => ⟨⟨0, (), rfl, (by unfold an_tried; split <;> first | rfl | (exfalso; omega)), trivial⟩, hS.F ht⟩) hS.2.2 dX10_tried_63

set_option maxHeartbeats 4000000 in
set_option maxRecDepth 100000 in
theorem c_X10_step (l : Launch) (dC : Nat → ClassId) (dI : Nat → Nat → Nat) (sz : Nat) (h_xx : Nat) (h_pv : Nat) (v_xx : Nat → Value) (v_pv : Nat → Value) (p1 : Int32) (p2 : Int32) : Met l yX10_step (Ws yX10_step cX10_step 4 (some .int)) ({ frames := 0, cells := 0, slots := 0, locals := 0 }) (PRE (dC, dI) cls [] [(h_xx, .inr (7, [(v_xx 0), (v_xx 1), (v_xx 2), (v_xx 3), (v_xx 4), .ref h_pv, (v_xx 6), (v_xx 7)])), (h_pv, .inr (3, [(v_pv 0), (v_pv 1), (v_pv 2), (v_pv 3), (v_pv 4), (v_pv 5), (v_pv 6), .int 0, (v_pv 8), .int 0, (v_pv 10), (v_pv 11), .int 0, .int 0, .int 0, .int 0, (v_pv 16), .int 0]))] sz [.ref h_xx, .int p1, .int p2]) (va_Qi (fun (r : Int32) (_ : Unit) => r = (-1)) (fun (_ : Unit) (_ : State) => True) (va_A [(h_xx, .inr (7, [(v_xx 0), (v_xx 1), (v_xx 2), (v_xx 3), (v_xx 4), .ref h_pv, (v_xx 6), (v_xx 7)])), (h_pv, .inr (3, [(v_pv 0), (v_pv 1), (v_pv 2), (v_pv 3), (v_pv 4), (v_pv 5), (v_pv 6), .int 0, (v_pv 8), .int 0, (v_pv 10), (v_pv 11), .int 0, .int 0, .int 0, .int 0, (v_pv 16), .int 0]))] sz)) 0 0 (va_A [(h_xx, .inr (7, [(v_xx 0), (v_xx 1), (v_xx 2), (v_xx 3), (v_xx 4), .ref h_pv, (v_xx 6), (v_xx 7)])), (h_pv, .inr (3, [(v_pv 0), (v_pv 1), (v_pv 2), (v_pv 3), (v_pv 4), (v_pv 5), (v_pv 6), .int 0, (v_pv 8), .int 0, (v_pv 10), (v_pv 11), .int 0, .int 0, .int 0, .int 0, (v_pv 16), .int 0]))] sz) := by
  refine Met.ofW (cc := cX10_step) (maxL := 4) (ret := (some .int)) (by decide) rfl ?_
  intro p e s m args below meth c s₁ B hml hv
  obtain ⟨rfl, hsz, hP, hK, hD0, hN⟩ := hv
  have hx := B.exec
  have hb := B.bytes
  have hr := B.returns
  have hts := atoms_spec (ws := Ws yX10_step cX10_step 4 (some .int)) B.pre
  have hT : ∀ w ∈ WALL, w ∈ Ws yX10_step cX10_step 4 (some .int) := fun w h => List.mem_cons_of_mem _ h
  have hw := fun w (h : w ∈ WALL) => hts w (hT w h)
  have hown : s.vm.findClass RX10 = some m.cls := findClass_of_methodNamed B.named
  have hlocks := B.notSynchronized
  subst hsz
  have hD := hD0.self (sz := s.heap.size)
  generalize hAe : va_A [(h_xx, .inr (7, [(v_xx 0), (v_xx 1), (v_xx 2), (v_xx 3), (v_xx 4), .ref h_pv, (v_xx 6), (v_xx 7)])), (h_pv, .inr (3, [(v_pv 0), (v_pv 1), (v_pv 2), (v_pv 3), (v_pv 4), (v_pv 5), (v_pv 6), .int 0, (v_pv 8), .int 0, (v_pv 10), (v_pv 11), .int 0, .int 0, .int 0, .int 0, (v_pv 16), .int 0]))] s.heap.size = A at hD ⊢
  have hA : ∀ q : Nat, s.heap.size ≤ q → A q := fun q h => by rw [← hAe]; exact Or.inr h
  have hS : va_S A s.heap s.heap [] := va_S.rf
  have hl := lv_entry ([.ref h_xx, .int p1, .int p2]) (n := 4) (Nat.le_of_ble_eq_true rfl)
  rw [lg_entry_eq]
  generalize (lg_sl ([.ref h_xx, .int p1, .int p2]) ++ List.replicate (4 - (lg_sl ([.ref h_xx, .int p1, .int p2])).length) Slot.unset).toArray = ls at hl ⊢
  have hl : lv_has ls 4 [(0, .ref h_xx), (1, .int p1), (2, .int p2)] := hl
  refine lv_aload_n hx hb dX10_step_0 rfl (lv_at hl 0 rfl) ?_
  refine va_get (D := (dC, dI)) (ci := 7) (v := .ref h_pv) (C := RX10) (T := TX10) (N := 8) hx hb hw iwX10 hown hK hP 0 rfl rfl 5 (by decide) (hw _ w_f_X10_47) (fun _ h9 => h9) rfl dX10_step_1 ?_
  refine va_getN (D := (dC, dI)) (ci := 3) (v := .int 0) (C := RX4) (T := TX4) (N := 18) (host := "OppositePairs") hx hb hw iwX4 hown hK hP 1 rfl rfl 17 (by decide) (hN.use n_f_X10_175 rfl) (fun _ h9 => h9) rfl dX10_step_4 ?_
  refine lv_if_ne (tgt := 12) hx hb dX10_step_7 (by decide) (fun c9 => absurd c9 (by decide)) (fun _ => ?_)
  refine lv_iconst (v := (-1)) hx hb dX10_step_10 (by decide) ?_
  refine W.widen (k := 0) (n := 0) (Nat.le_of_ble_eq_true rfl) (Nat.le_of_ble_eq_true rfl) ?_
  exact W.iret (v := (-1)) hx hb hr (fun t ht hW => ⟨⟨(-1), (), rfl, rfl, trivial⟩, hS.F ht⟩) hS.2.2 dX10_step_11

set_option maxHeartbeats 4000000 in
set_option maxRecDepth 100000 in
theorem c_X10_instance (l : Launch) (dC : Nat → ClassId) (dI : Nat → Nat → Nat) (sz : Nat) (h_xx : Nat) (h_pv : Nat) (v_xx : Nat → Value) (v_pv : Nat → Value) (p1 : Int32) : Met l yX10_instance (Ws yX10_instance cX10_instance 2 (some .int)) ({ frames := 0, cells := 0, slots := 0, locals := 0 }) (PRE (dC, dI) cls [] [(h_xx, .inr (7, [(v_xx 0), (v_xx 1), (v_xx 2), (v_xx 3), (v_xx 4), .ref h_pv, (v_xx 6), (v_xx 7)])), (h_pv, .inr (3, [(v_pv 0), (v_pv 1), (v_pv 2), (v_pv 3), (v_pv 4), (v_pv 5), (v_pv 6), .int 0, (v_pv 8), .int 0, (v_pv 10), (v_pv 11), .int 0, .int 0, .int 0, .int 0, (v_pv 16), .int 0]))] sz [.ref h_xx, .int p1]) (va_Qi (fun (r : Int32) (_ : Unit) => r = (-1)) (fun (_ : Unit) (_ : State) => True) (va_A [(h_xx, .inr (7, [(v_xx 0), (v_xx 1), (v_xx 2), (v_xx 3), (v_xx 4), .ref h_pv, (v_xx 6), (v_xx 7)])), (h_pv, .inr (3, [(v_pv 0), (v_pv 1), (v_pv 2), (v_pv 3), (v_pv 4), (v_pv 5), (v_pv 6), .int 0, (v_pv 8), .int 0, (v_pv 10), (v_pv 11), .int 0, .int 0, .int 0, .int 0, (v_pv 16), .int 0]))] sz)) 0 0 (va_A [(h_xx, .inr (7, [(v_xx 0), (v_xx 1), (v_xx 2), (v_xx 3), (v_xx 4), .ref h_pv, (v_xx 6), (v_xx 7)])), (h_pv, .inr (3, [(v_pv 0), (v_pv 1), (v_pv 2), (v_pv 3), (v_pv 4), (v_pv 5), (v_pv 6), .int 0, (v_pv 8), .int 0, (v_pv 10), (v_pv 11), .int 0, .int 0, .int 0, .int 0, (v_pv 16), .int 0]))] sz) := by
  refine Met.ofW (cc := cX10_instance) (maxL := 2) (ret := (some .int)) (by decide) rfl ?_
  intro p e s m args below meth c s₁ B hml hv
  obtain ⟨rfl, hsz, hP, hK, hD0, hN⟩ := hv
  have hx := B.exec
  have hb := B.bytes
  have hr := B.returns
  have hts := atoms_spec (ws := Ws yX10_instance cX10_instance 2 (some .int)) B.pre
  have hT : ∀ w ∈ WALL, w ∈ Ws yX10_instance cX10_instance 2 (some .int) := fun w h => List.mem_cons_of_mem _ h
  have hw := fun w (h : w ∈ WALL) => hts w (hT w h)
  have hown : s.vm.findClass RX10 = some m.cls := findClass_of_methodNamed B.named
  have hlocks := B.notSynchronized
  subst hsz
  have hD := hD0.self (sz := s.heap.size)
  generalize hAe : va_A [(h_xx, .inr (7, [(v_xx 0), (v_xx 1), (v_xx 2), (v_xx 3), (v_xx 4), .ref h_pv, (v_xx 6), (v_xx 7)])), (h_pv, .inr (3, [(v_pv 0), (v_pv 1), (v_pv 2), (v_pv 3), (v_pv 4), (v_pv 5), (v_pv 6), .int 0, (v_pv 8), .int 0, (v_pv 10), (v_pv 11), .int 0, .int 0, .int 0, .int 0, (v_pv 16), .int 0]))] s.heap.size = A at hD ⊢
  have hA : ∀ q : Nat, s.heap.size ≤ q → A q := fun q h => by rw [← hAe]; exact Or.inr h
  have hS : va_S A s.heap s.heap [] := va_S.rf
  have hl := lv_entry ([.ref h_xx, .int p1]) (n := 2) (Nat.le_of_ble_eq_true rfl)
  rw [lg_entry_eq]
  generalize (lg_sl ([.ref h_xx, .int p1]) ++ List.replicate (2 - (lg_sl ([.ref h_xx, .int p1])).length) Slot.unset).toArray = ls at hl ⊢
  have hl : lv_has ls 2 [(0, .ref h_xx), (1, .int p1)] := hl
  refine lv_aload_n hx hb dX10_instance_0 rfl (lv_at hl 0 rfl) ?_
  refine va_get (D := (dC, dI)) (ci := 7) (v := .ref h_pv) (C := RX10) (T := TX10) (N := 8) hx hb hw iwX10 hown hK hP 0 rfl rfl 5 (by decide) (hw _ w_f_X10_47) (fun _ h9 => h9) rfl dX10_instance_1 ?_
  refine va_getN (D := (dC, dI)) (ci := 3) (v := .int 0) (C := RX4) (T := TX4) (N := 18) (host := "OppositePairs") hx hb hw iwX4 hown hK hP 1 rfl rfl 17 (by decide) (hN.use n_f_X10_175 rfl) (fun _ h9 => h9) rfl dX10_instance_4 ?_
  refine lv_if_ne (tgt := 12) hx hb dX10_instance_7 (by decide) (fun c9 => absurd c9 (by decide)) (fun _ => ?_)
  refine lv_iconst (v := (-1)) hx hb dX10_instance_10 (by decide) ?_
  refine W.widen (k := 0) (n := 0) (Nat.le_of_ble_eq_true rfl) (Nat.le_of_ble_eq_true rfl) ?_
  exact W.iret (v := (-1)) hx hb hr (fun t ht hW => ⟨⟨(-1), (), rfl, rfl, trivial⟩, hS.F ht⟩) hS.2.2 dX10_instance_11

set_option maxHeartbeats 4000000 in
set_option maxRecDepth 100000 in
theorem c_X10_shown (l : Launch) (dC : Nat → ClassId) (dI : Nat → Nat → Nat) (sz : Nat) (h_xx : Nat) (h_pv : Nat) (v_xx : Nat → Value) (v_pv : Nat → Value) (p1 : Int32) (p2 : Int32) : Met l yX10_shown (Ws yX10_shown cX10_shown 4 (some .int)) ({ frames := 1, cells := 0, slots := 0, locals := 21 }) (PRE (dC, dI) cls [] [(h_xx, .inr (7, [(v_xx 0), (v_xx 1), (v_xx 2), (v_xx 3), (v_xx 4), .ref h_pv, (v_xx 6), (v_xx 7)])), (h_pv, .inr (3, [(v_pv 0), (v_pv 1), (v_pv 2), (v_pv 3), (v_pv 4), (v_pv 5), (v_pv 6), .int 0, (v_pv 8), .int 0, (v_pv 10), (v_pv 11), .int 0, .int 0, .int 0, .int 0, (v_pv 16), .int 0]))] sz [.ref h_xx, .int p1, .int p2]) (va_Qi (fun (r : Int32) (_ : Unit) => r = (-1)) (fun (_ : Unit) (_ : State) => True) (va_A [(h_xx, .inr (7, [(v_xx 0), (v_xx 1), (v_xx 2), (v_xx 3), (v_xx 4), .ref h_pv, (v_xx 6), (v_xx 7)])), (h_pv, .inr (3, [(v_pv 0), (v_pv 1), (v_pv 2), (v_pv 3), (v_pv 4), (v_pv 5), (v_pv 6), .int 0, (v_pv 8), .int 0, (v_pv 10), (v_pv 11), .int 0, .int 0, .int 0, .int 0, (v_pv 16), .int 0]))] sz)) 0 0 (va_A [(h_xx, .inr (7, [(v_xx 0), (v_xx 1), (v_xx 2), (v_xx 3), (v_xx 4), .ref h_pv, (v_xx 6), (v_xx 7)])), (h_pv, .inr (3, [(v_pv 0), (v_pv 1), (v_pv 2), (v_pv 3), (v_pv 4), (v_pv 5), (v_pv 6), .int 0, (v_pv 8), .int 0, (v_pv 10), (v_pv 11), .int 0, .int 0, .int 0, .int 0, (v_pv 16), .int 0]))] sz) := by
  refine Met.ofW (cc := cX10_shown) (maxL := 4) (ret := (some .int)) (by decide) rfl ?_
  intro p e s m args below meth c s₁ B hml hv
  obtain ⟨rfl, hsz, hP, hK, hD0, hN⟩ := hv
  have hx := B.exec
  have hb := B.bytes
  have hr := B.returns
  have hts := atoms_spec (ws := Ws yX10_shown cX10_shown 4 (some .int)) B.pre
  have hT : ∀ w ∈ WALL, w ∈ Ws yX10_shown cX10_shown 4 (some .int) := fun w h => List.mem_cons_of_mem _ h
  have hw := fun w (h : w ∈ WALL) => hts w (hT w h)
  have hown : s.vm.findClass RX10 = some m.cls := findClass_of_methodNamed B.named
  have hlocks := B.notSynchronized
  subst hsz
  have hD := hD0.self (sz := s.heap.size)
  generalize hAe : va_A [(h_xx, .inr (7, [(v_xx 0), (v_xx 1), (v_xx 2), (v_xx 3), (v_xx 4), .ref h_pv, (v_xx 6), (v_xx 7)])), (h_pv, .inr (3, [(v_pv 0), (v_pv 1), (v_pv 2), (v_pv 3), (v_pv 4), (v_pv 5), (v_pv 6), .int 0, (v_pv 8), .int 0, (v_pv 10), (v_pv 11), .int 0, .int 0, .int 0, .int 0, (v_pv 16), .int 0]))] s.heap.size = A at hD ⊢
  have hA : ∀ q : Nat, s.heap.size ≤ q → A q := fun q h => by rw [← hAe]; exact Or.inr h
  have hS : va_S A s.heap s.heap [] := va_S.rf
  have hl := lv_entry ([.ref h_xx, .int p1, .int p2]) (n := 4) (Nat.le_of_ble_eq_true rfl)
  rw [lg_entry_eq]
  generalize (lg_sl ([.ref h_xx, .int p1, .int p2]) ++ List.replicate (4 - (lg_sl ([.ref h_xx, .int p1, .int p2])).length) Slot.unset).toArray = ls at hl ⊢
  have hl : lv_has ls 4 [(0, .ref h_xx), (1, .int p1), (2, .int p2)] := hl
  refine lv_aload_n hx hb dX10_shown_0 rfl (lv_at hl 0 rfl) ?_
  refine lv_iload_n hx hb dX10_shown_1 rfl (lv_at hl 1 rfl) ?_
  have hPc := hP.sub (ws' := [(h_xx, .inr (7, [(v_xx 0), (v_xx 1), (v_xx 2), (v_xx 3), (v_xx 4), .ref h_pv, (v_xx 6), (v_xx 7)])), (h_pv, .inr (3, [(v_pv 0), (v_pv 1), (v_pv 2), (v_pv 3), (v_pv 4), (v_pv 5), (v_pv 6), .int 0, (v_pv 8), .int 0, (v_pv 10), (v_pv 11), .int 0, .int 0, .int 0, .int 0, (v_pv 16), .int 0]))]) [0, 1] rfl
  have hDc := hD.sub (ws' := [(h_xx, .inr (7, [(v_xx 0), (v_xx 1), (v_xx 2), (v_xx 3), (v_xx 4), .ref h_pv, (v_xx 6), (v_xx 7)])), (h_pv, .inr (3, [(v_pv 0), (v_pv 1), (v_pv 2), (v_pv 3), (v_pv 4), (v_pv 5), (v_pv 6), .int 0, (v_pv 8), .int 0, (v_pv 10), (v_pv 11), .int 0, .int 0, .int 0, .int 0, (v_pv 16), .int 0]))]) [0, 1] (by decide) rfl
  have hKc := hK.sub (tys' := []) [] rfl
  have hFc := va_free (wc := [(h_xx, .inr (7, [(v_xx 0), (v_xx 1), (v_xx 2), (v_xx 3), (v_xx 4), .ref h_pv, (v_xx 6), (v_xx 7)])), (h_pv, .inr (3, [(v_pv 0), (v_pv 1), (v_pv 2), (v_pv 3), (v_pv 4), (v_pv 5), (v_pv 6), .int 0, (v_pv 8), .int 0, (v_pv 10), (v_pv 11), .int 0, .int 0, .int 0, .int 0, (v_pv 16), .int 0]))]) hD hS hA [0, 1] rfl
  refine va_calli (va_runV (As := [.int p1]) (rest := []) ⟨hx, hb, hml, hown, hts⟩ (c_X10_isInstance l dC dI s.heap.size h_xx h_pv v_xx v_pv p1) (cwV 1 hts (gv hT w_m_X10_220 w_instanceMethod_X10_isInstance ws_sel_X10_isInstance w_ini_X10 w_code_X10_isInstance) rfl rfl rfl (by decide +kernel) ⟨(Nat.le_of_ble_eq_true rfl), (Nat.le_of_ble_eq_true rfl)⟩) ⟨pre_blind, va_recv hK hP (ci := 7) (q0 := 0) rfl rfl, pre_of hPc hKc hDc hN⟩ rfl rfl hl.1 rfl (lv_room (Nat.le_of_ble_eq_true rfl)) dX10_shown_2 ⟨(Nat.le_of_ble_eq_true rfl), (Nat.le_of_ble_eq_true rfl)⟩) hS (fun q _ h => hFc q h) hFc (fun r1 u t H locs ht hvm hq hB hz1 hk1 hS => ?_)
  obtain ⟨hP, hD⟩ := va_join (wr := []) (w1 := []) hP hD [0, 1] [] rfl rfl (by decide) (by decide) hk1 hFc P_nil D_nil
  have hP : va_P (dC, dI) cls [] H := hP
  have hD : va_D A [] := hD
  obtain rfl : r1 = 0 := hq
  refine lv_if_ne (tgt := 10) hx hb dX10_shown_5 (by decide) (fun c9 => absurd c9 (by decide)) (fun _ => ?_)
  refine lv_iconst (v := (-1)) hx hb dX10_shown_8 (by decide) ?_
  refine W.widen (k := 0) (n := 0) (Nat.le_of_ble_eq_true rfl) (Nat.le_of_ble_eq_true rfl) ?_
  exact W.iret (v := (-1)) hx hb hr (fun t ht hW => ⟨⟨(-1), (), rfl, rfl, trivial⟩, hS.F ht⟩) hS.2.2 dX10_shown_9

set_option maxHeartbeats 4000000 in
set_option maxRecDepth 100000 in
theorem c_X10_closed (l : Launch) (dC : Nat → ClassId) (dI : Nat → Nat → Nat) (sz : Nat) (h_xx : Nat) (h_pv : Nat) (v_xx : Nat → Value) (v_pv : Nat → Value) (p1 : Int32) : Met l yX10_closed (Ws yX10_closed cX10_closed 2 (some .int)) ({ frames := 0, cells := 0, slots := 0, locals := 0 }) (PRE (dC, dI) cls [] [(h_xx, .inr (7, [(v_xx 0), (v_xx 1), (v_xx 2), (v_xx 3), (v_xx 4), .ref h_pv, (v_xx 6), (v_xx 7)])), (h_pv, .inr (3, [(v_pv 0), (v_pv 1), (v_pv 2), (v_pv 3), (v_pv 4), (v_pv 5), (v_pv 6), .int 0, (v_pv 8), .int 0, (v_pv 10), (v_pv 11), .int 0, .int 0, .int 0, .int 0, (v_pv 16), .int 0]))] sz [.ref h_xx, .int p1]) (va_Qi (fun (r : Int32) (_ : Unit) => r = (-1)) (fun (_ : Unit) (_ : State) => True) (va_A [(h_xx, .inr (7, [(v_xx 0), (v_xx 1), (v_xx 2), (v_xx 3), (v_xx 4), .ref h_pv, (v_xx 6), (v_xx 7)])), (h_pv, .inr (3, [(v_pv 0), (v_pv 1), (v_pv 2), (v_pv 3), (v_pv 4), (v_pv 5), (v_pv 6), .int 0, (v_pv 8), .int 0, (v_pv 10), (v_pv 11), .int 0, .int 0, .int 0, .int 0, (v_pv 16), .int 0]))] sz)) 0 0 (va_A [(h_xx, .inr (7, [(v_xx 0), (v_xx 1), (v_xx 2), (v_xx 3), (v_xx 4), .ref h_pv, (v_xx 6), (v_xx 7)])), (h_pv, .inr (3, [(v_pv 0), (v_pv 1), (v_pv 2), (v_pv 3), (v_pv 4), (v_pv 5), (v_pv 6), .int 0, (v_pv 8), .int 0, (v_pv 10), (v_pv 11), .int 0, .int 0, .int 0, .int 0, (v_pv 16), .int 0]))] sz) := by
  refine Met.ofW (cc := cX10_closed) (maxL := 2) (ret := (some .int)) (by decide) rfl ?_
  intro p e s m args below meth c s₁ B hml hv
  obtain ⟨rfl, hsz, hP, hK, hD0, hN⟩ := hv
  have hx := B.exec
  have hb := B.bytes
  have hr := B.returns
  have hts := atoms_spec (ws := Ws yX10_closed cX10_closed 2 (some .int)) B.pre
  have hT : ∀ w ∈ WALL, w ∈ Ws yX10_closed cX10_closed 2 (some .int) := fun w h => List.mem_cons_of_mem _ h
  have hw := fun w (h : w ∈ WALL) => hts w (hT w h)
  have hown : s.vm.findClass RX10 = some m.cls := findClass_of_methodNamed B.named
  have hlocks := B.notSynchronized
  subst hsz
  have hD := hD0.self (sz := s.heap.size)
  generalize hAe : va_A [(h_xx, .inr (7, [(v_xx 0), (v_xx 1), (v_xx 2), (v_xx 3), (v_xx 4), .ref h_pv, (v_xx 6), (v_xx 7)])), (h_pv, .inr (3, [(v_pv 0), (v_pv 1), (v_pv 2), (v_pv 3), (v_pv 4), (v_pv 5), (v_pv 6), .int 0, (v_pv 8), .int 0, (v_pv 10), (v_pv 11), .int 0, .int 0, .int 0, .int 0, (v_pv 16), .int 0]))] s.heap.size = A at hD ⊢
  have hA : ∀ q : Nat, s.heap.size ≤ q → A q := fun q h => by rw [← hAe]; exact Or.inr h
  have hS : va_S A s.heap s.heap [] := va_S.rf
  have hl := lv_entry ([.ref h_xx, .int p1]) (n := 2) (Nat.le_of_ble_eq_true rfl)
  rw [lg_entry_eq]
  generalize (lg_sl ([.ref h_xx, .int p1]) ++ List.replicate (2 - (lg_sl ([.ref h_xx, .int p1])).length) Slot.unset).toArray = ls at hl ⊢
  have hl : lv_has ls 2 [(0, .ref h_xx), (1, .int p1)] := hl
  refine lv_aload_n hx hb dX10_closed_0 rfl (lv_at hl 0 rfl) ?_
  refine va_get (D := (dC, dI)) (ci := 7) (v := .ref h_pv) (C := RX10) (T := TX10) (N := 8) hx hb hw iwX10 hown hK hP 0 rfl rfl 5 (by decide) (hw _ w_f_X10_47) (fun _ h9 => h9) rfl dX10_closed_1 ?_
  refine va_getN (D := (dC, dI)) (ci := 3) (v := .int 0) (C := RX4) (T := TX4) (N := 18) (host := "OppositePairs") hx hb hw iwX4 hown hK hP 1 rfl rfl 17 (by decide) (hN.use n_f_X10_175 rfl) (fun _ h9 => h9) rfl dX10_closed_4 ?_
  refine lv_if_eq (tgt := 23) hx hb dX10_closed_7 (by decide) (fun _ => ?_) (fun c9 => absurd c9 (by decide))
  refine lv_iconst (v := (-1)) hx hb dX10_closed_23 (by decide) ?_
  refine W.widen (k := 0) (n := 0) (Nat.le_of_ble_eq_true rfl) (Nat.le_of_ble_eq_true rfl) ?_
  exact W.iret (v := (-1)) hx hb hr (fun t ht hW => ⟨⟨(-1), (), rfl, rfl, trivial⟩, hS.F ht⟩) hS.2.2 dX10_closed_24

set_option maxHeartbeats 4000000 in
set_option maxRecDepth 100000 in
theorem c_X10_open (l : Launch) (dC : Nat → ClassId) (dI : Nat → Nat → Nat) (sz : Nat) (h_xx : Nat) (h_pv : Nat) (v_xx : Nat → Value) (v_pv : Nat → Value) (p1 : Int32) (p2 : Int32) : Met l yX10_open (Ws yX10_open cX10_open 3 (some .int)) ({ frames := 1, cells := 0, slots := 0, locals := 21 }) (PRE (dC, dI) cls [] [(h_xx, .inr (7, [(v_xx 0), (v_xx 1), (v_xx 2), (v_xx 3), (v_xx 4), .ref h_pv, (v_xx 6), (v_xx 7)])), (h_pv, .inr (3, [(v_pv 0), (v_pv 1), (v_pv 2), (v_pv 3), (v_pv 4), (v_pv 5), (v_pv 6), .int 0, (v_pv 8), .int 0, (v_pv 10), (v_pv 11), .int 0, .int 0, .int 0, .int 0, (v_pv 16), .int 0]))] sz [.ref h_xx, .int p1, .int p2]) (va_Qi (fun (r : Int32) (_ : Unit) => r = (-1)) (fun (_ : Unit) (_ : State) => True) (va_A [(h_xx, .inr (7, [(v_xx 0), (v_xx 1), (v_xx 2), (v_xx 3), (v_xx 4), .ref h_pv, (v_xx 6), (v_xx 7)])), (h_pv, .inr (3, [(v_pv 0), (v_pv 1), (v_pv 2), (v_pv 3), (v_pv 4), (v_pv 5), (v_pv 6), .int 0, (v_pv 8), .int 0, (v_pv 10), (v_pv 11), .int 0, .int 0, .int 0, .int 0, (v_pv 16), .int 0]))] sz)) 0 0 (va_A [(h_xx, .inr (7, [(v_xx 0), (v_xx 1), (v_xx 2), (v_xx 3), (v_xx 4), .ref h_pv, (v_xx 6), (v_xx 7)])), (h_pv, .inr (3, [(v_pv 0), (v_pv 1), (v_pv 2), (v_pv 3), (v_pv 4), (v_pv 5), (v_pv 6), .int 0, (v_pv 8), .int 0, (v_pv 10), (v_pv 11), .int 0, .int 0, .int 0, .int 0, (v_pv 16), .int 0]))] sz) := by
  refine Met.ofW (cc := cX10_open) (maxL := 3) (ret := (some .int)) (by decide) rfl ?_
  intro p e s m args below meth c s₁ B hml hv
  obtain ⟨rfl, hsz, hP, hK, hD0, hN⟩ := hv
  have hx := B.exec
  have hb := B.bytes
  have hr := B.returns
  have hts := atoms_spec (ws := Ws yX10_open cX10_open 3 (some .int)) B.pre
  have hT : ∀ w ∈ WALL, w ∈ Ws yX10_open cX10_open 3 (some .int) := fun w h => List.mem_cons_of_mem _ h
  have hw := fun w (h : w ∈ WALL) => hts w (hT w h)
  have hown : s.vm.findClass RX10 = some m.cls := findClass_of_methodNamed B.named
  have hlocks := B.notSynchronized
  subst hsz
  have hD := hD0.self (sz := s.heap.size)
  generalize hAe : va_A [(h_xx, .inr (7, [(v_xx 0), (v_xx 1), (v_xx 2), (v_xx 3), (v_xx 4), .ref h_pv, (v_xx 6), (v_xx 7)])), (h_pv, .inr (3, [(v_pv 0), (v_pv 1), (v_pv 2), (v_pv 3), (v_pv 4), (v_pv 5), (v_pv 6), .int 0, (v_pv 8), .int 0, (v_pv 10), (v_pv 11), .int 0, .int 0, .int 0, .int 0, (v_pv 16), .int 0]))] s.heap.size = A at hD ⊢
  have hA : ∀ q : Nat, s.heap.size ≤ q → A q := fun q h => by rw [← hAe]; exact Or.inr h
  have hS : va_S A s.heap s.heap [] := va_S.rf
  have hl := lv_entry ([.ref h_xx, .int p1, .int p2]) (n := 3) (Nat.le_of_ble_eq_true rfl)
  rw [lg_entry_eq]
  generalize (lg_sl ([.ref h_xx, .int p1, .int p2]) ++ List.replicate (3 - (lg_sl ([.ref h_xx, .int p1, .int p2])).length) Slot.unset).toArray = ls at hl ⊢
  have hl : lv_has ls 3 [(0, .ref h_xx), (1, .int p1), (2, .int p2)] := hl
  refine lv_aload_n hx hb dX10_open_0 rfl (lv_at hl 0 rfl) ?_
  refine lv_iload_n hx hb dX10_open_1 rfl (lv_at hl 1 rfl) ?_
  have hPc := hP.sub (ws' := [(h_xx, .inr (7, [(v_xx 0), (v_xx 1), (v_xx 2), (v_xx 3), (v_xx 4), .ref h_pv, (v_xx 6), (v_xx 7)])), (h_pv, .inr (3, [(v_pv 0), (v_pv 1), (v_pv 2), (v_pv 3), (v_pv 4), (v_pv 5), (v_pv 6), .int 0, (v_pv 8), .int 0, (v_pv 10), (v_pv 11), .int 0, .int 0, .int 0, .int 0, (v_pv 16), .int 0]))]) [0, 1] rfl
  have hDc := hD.sub (ws' := [(h_xx, .inr (7, [(v_xx 0), (v_xx 1), (v_xx 2), (v_xx 3), (v_xx 4), .ref h_pv, (v_xx 6), (v_xx 7)])), (h_pv, .inr (3, [(v_pv 0), (v_pv 1), (v_pv 2), (v_pv 3), (v_pv 4), (v_pv 5), (v_pv 6), .int 0, (v_pv 8), .int 0, (v_pv 10), (v_pv 11), .int 0, .int 0, .int 0, .int 0, (v_pv 16), .int 0]))]) [0, 1] (by decide) rfl
  have hKc := hK.sub (tys' := []) [] rfl
  have hFc := va_free (wc := [(h_xx, .inr (7, [(v_xx 0), (v_xx 1), (v_xx 2), (v_xx 3), (v_xx 4), .ref h_pv, (v_xx 6), (v_xx 7)])), (h_pv, .inr (3, [(v_pv 0), (v_pv 1), (v_pv 2), (v_pv 3), (v_pv 4), (v_pv 5), (v_pv 6), .int 0, (v_pv 8), .int 0, (v_pv 10), (v_pv 11), .int 0, .int 0, .int 0, .int 0, (v_pv 16), .int 0]))]) hD hS hA [0, 1] rfl
  refine va_calli (va_runV (As := [.int p1]) (rest := []) ⟨hx, hb, hml, hown, hts⟩ (c_X10_isInstance l dC dI s.heap.size h_xx h_pv v_xx v_pv p1) (cwV 1 hts (gv hT w_m_X10_220 w_instanceMethod_X10_isInstance ws_sel_X10_isInstance w_ini_X10 w_code_X10_isInstance) rfl rfl rfl (by decide +kernel) ⟨(Nat.le_of_ble_eq_true rfl), (Nat.le_of_ble_eq_true rfl)⟩) ⟨pre_blind, va_recv hK hP (ci := 7) (q0 := 0) rfl rfl, pre_of hPc hKc hDc hN⟩ rfl rfl hl.1 rfl (lv_room (Nat.le_of_ble_eq_true rfl)) dX10_open_2 ⟨(Nat.le_of_ble_eq_true rfl), (Nat.le_of_ble_eq_true rfl)⟩) hS (fun q _ h => hFc q h) hFc (fun r1 u t H locs ht hvm hq hB hz1 hk1 hS => ?_)
  obtain ⟨hP, hD⟩ := va_join (wr := []) (w1 := []) hP hD [0, 1] [] rfl rfl (by decide) (by decide) hk1 hFc P_nil D_nil
  have hP : va_P (dC, dI) cls [] H := hP
  have hD : va_D A [] := hD
  obtain rfl : r1 = 0 := hq
  refine lv_if_eq (tgt := 32) hx hb dX10_open_5 (by decide) (fun _ => ?_) (fun c9 => absurd c9 (by decide))
  refine lv_iconst (v := (-1)) hx hb dX10_open_32 (by decide) ?_
  refine W.widen (k := 0) (n := 0) (Nat.le_of_ble_eq_true rfl) (Nat.le_of_ble_eq_true rfl) ?_
  exact W.iret (v := (-1)) hx hb hr (fun t ht hW => ⟨⟨(-1), (), rfl, rfl, trivial⟩, hS.F ht⟩) hS.2.2 dX10_open_33

set_option maxHeartbeats 4000000 in
set_option maxRecDepth 100000 in
theorem c_X10_needed (l : Launch) (dC : Nat → ClassId) (dI : Nat → Nat → Nat) (sz : Nat) (h_xx : Nat) (h_pv : Nat) (v_xx : Nat → Value) (v_pv : Nat → Value) : Met l yX10_needed (Ws yX10_needed cX10_needed 3 (some .int)) ({ frames := 0, cells := 0, slots := 0, locals := 0 }) (PRE (dC, dI) cls [] [(h_xx, .inr (7, [(v_xx 0), (v_xx 1), (v_xx 2), (v_xx 3), (v_xx 4), .ref h_pv, (v_xx 6), (v_xx 7)])), (h_pv, .inr (3, [(v_pv 0), (v_pv 1), (v_pv 2), (v_pv 3), (v_pv 4), (v_pv 5), (v_pv 6), .int 0, (v_pv 8), .int 0, (v_pv 10), (v_pv 11), .int 0, .int 0, .int 0, .int 0, (v_pv 16), .int 0]))] sz [.ref h_xx]) (va_Qi (fun (r : Int32) (_ : Unit) => r = 0) (fun (_ : Unit) (_ : State) => True) (va_A [(h_xx, .inr (7, [(v_xx 0), (v_xx 1), (v_xx 2), (v_xx 3), (v_xx 4), .ref h_pv, (v_xx 6), (v_xx 7)])), (h_pv, .inr (3, [(v_pv 0), (v_pv 1), (v_pv 2), (v_pv 3), (v_pv 4), (v_pv 5), (v_pv 6), .int 0, (v_pv 8), .int 0, (v_pv 10), (v_pv 11), .int 0, .int 0, .int 0, .int 0, (v_pv 16), .int 0]))] sz)) 0 0 (va_A [(h_xx, .inr (7, [(v_xx 0), (v_xx 1), (v_xx 2), (v_xx 3), (v_xx 4), .ref h_pv, (v_xx 6), (v_xx 7)])), (h_pv, .inr (3, [(v_pv 0), (v_pv 1), (v_pv 2), (v_pv 3), (v_pv 4), (v_pv 5), (v_pv 6), .int 0, (v_pv 8), .int 0, (v_pv 10), (v_pv 11), .int 0, .int 0, .int 0, .int 0, (v_pv 16), .int 0]))] sz) := by
  refine Met.ofW (cc := cX10_needed) (maxL := 3) (ret := (some .int)) (by decide) rfl ?_
  intro p e s m args below meth c s₁ B hml hv
  obtain ⟨rfl, hsz, hP, hK, hD0, hN⟩ := hv
  have hx := B.exec
  have hb := B.bytes
  have hr := B.returns
  have hts := atoms_spec (ws := Ws yX10_needed cX10_needed 3 (some .int)) B.pre
  have hT : ∀ w ∈ WALL, w ∈ Ws yX10_needed cX10_needed 3 (some .int) := fun w h => List.mem_cons_of_mem _ h
  have hw := fun w (h : w ∈ WALL) => hts w (hT w h)
  have hown : s.vm.findClass RX10 = some m.cls := findClass_of_methodNamed B.named
  have hlocks := B.notSynchronized
  subst hsz
  have hD := hD0.self (sz := s.heap.size)
  generalize hAe : va_A [(h_xx, .inr (7, [(v_xx 0), (v_xx 1), (v_xx 2), (v_xx 3), (v_xx 4), .ref h_pv, (v_xx 6), (v_xx 7)])), (h_pv, .inr (3, [(v_pv 0), (v_pv 1), (v_pv 2), (v_pv 3), (v_pv 4), (v_pv 5), (v_pv 6), .int 0, (v_pv 8), .int 0, (v_pv 10), (v_pv 11), .int 0, .int 0, .int 0, .int 0, (v_pv 16), .int 0]))] s.heap.size = A at hD ⊢
  have hA : ∀ q : Nat, s.heap.size ≤ q → A q := fun q h => by rw [← hAe]; exact Or.inr h
  have hS : va_S A s.heap s.heap [] := va_S.rf
  have hl := lv_entry ([.ref h_xx]) (n := 3) (Nat.le_of_ble_eq_true rfl)
  rw [lg_entry_eq]
  generalize (lg_sl ([.ref h_xx]) ++ List.replicate (3 - (lg_sl ([.ref h_xx])).length) Slot.unset).toArray = ls at hl ⊢
  have hl : lv_has ls 3 [(0, .ref h_xx)] := hl
  refine lv_aload_n hx hb dX10_needed_0 rfl (lv_at hl 0 rfl) ?_
  refine va_get (D := (dC, dI)) (ci := 7) (v := .ref h_pv) (C := RX10) (T := TX10) (N := 8) hx hb hw iwX10 hown hK hP 0 rfl rfl 5 (by decide) (hw _ w_f_X10_47) (fun _ h9 => h9) rfl dX10_needed_1 ?_
  refine va_getN (D := (dC, dI)) (ci := 3) (v := .int 0) (C := RX4) (T := TX4) (N := 18) (host := "OppositePairs") hx hb hw iwX4 hown hK hP 1 rfl rfl 17 (by decide) (hN.use n_f_X10_175 rfl) (fun _ h9 => h9) rfl dX10_needed_4 ?_
  refine lv_if_ne (tgt := 12) hx hb dX10_needed_7 (by decide) (fun c9 => absurd c9 (by decide)) (fun _ => ?_)
  refine lv_iconst (v := 0) hx hb dX10_needed_10 (by decide) ?_
  refine W.widen (k := 0) (n := 0) (Nat.le_of_ble_eq_true rfl) (Nat.le_of_ble_eq_true rfl) ?_
  exact W.iret (v := 0) hx hb hr (fun t ht hW => ⟨⟨0, (), rfl, rfl, trivial⟩, hS.F ht⟩) hS.2.2 dX10_needed_11

set_option maxHeartbeats 4000000 in
set_option maxRecDepth 100000 in
theorem c_X10_answer (l : Launch) (dC : Nat → ClassId) (dI : Nat → Nat → Nat) (sz : Nat) (h_xx : Nat) (h_an : Nat) (v_xx : Nat → Value) (v_an : Nat → Value) (p1 : Int32) (p2 : Int32) : Met l yX10_answer (Ws yX10_answer cX10_answer 3 (some .int)) ({ frames := 0, cells := 0, slots := 0, locals := 0 }) (PRE (dC, dI) cls [] [(h_xx, .inr (7, [(v_xx 0), (v_xx 1), (v_xx 2), (v_xx 3), (v_xx 4), (v_xx 5), (v_xx 6), .ref h_an])), (h_an, .inr (0, [(v_an 0), (v_an 1), (v_an 2), (v_an 3), .int 0, .int 0]))] sz [.ref h_xx, .int p1, .int p2]) (va_Qi (fun (r : Int32) (_ : Unit) => r = an_answer p1) (fun (_ : Unit) (_ : State) => True) (va_A [(h_xx, .inr (7, [(v_xx 0), (v_xx 1), (v_xx 2), (v_xx 3), (v_xx 4), (v_xx 5), (v_xx 6), .ref h_an])), (h_an, .inr (0, [(v_an 0), (v_an 1), (v_an 2), (v_an 3), .int 0, .int 0]))] sz)) 0 0 (va_A [(h_xx, .inr (7, [(v_xx 0), (v_xx 1), (v_xx 2), (v_xx 3), (v_xx 4), (v_xx 5), (v_xx 6), .ref h_an])), (h_an, .inr (0, [(v_an 0), (v_an 1), (v_an 2), (v_an 3), .int 0, .int 0]))] sz) := by
  refine Met.ofW (cc := cX10_answer) (maxL := 3) (ret := (some .int)) (by decide) rfl ?_
  intro p e s m args below meth c s₁ B hml hv
  obtain ⟨rfl, hsz, hP, hK, hD0, hN⟩ := hv
  have hx := B.exec
  have hb := B.bytes
  have hr := B.returns
  have hts := atoms_spec (ws := Ws yX10_answer cX10_answer 3 (some .int)) B.pre
  have hT : ∀ w ∈ WALL, w ∈ Ws yX10_answer cX10_answer 3 (some .int) := fun w h => List.mem_cons_of_mem _ h
  have hw := fun w (h : w ∈ WALL) => hts w (hT w h)
  have hown : s.vm.findClass RX10 = some m.cls := findClass_of_methodNamed B.named
  have hlocks := B.notSynchronized
  subst hsz
  have hD := hD0.self (sz := s.heap.size)
  generalize hAe : va_A [(h_xx, .inr (7, [(v_xx 0), (v_xx 1), (v_xx 2), (v_xx 3), (v_xx 4), (v_xx 5), (v_xx 6), .ref h_an])), (h_an, .inr (0, [(v_an 0), (v_an 1), (v_an 2), (v_an 3), .int 0, .int 0]))] s.heap.size = A at hD ⊢
  have hA : ∀ q : Nat, s.heap.size ≤ q → A q := fun q h => by rw [← hAe]; exact Or.inr h
  have hS : va_S A s.heap s.heap [] := va_S.rf
  have hl := lv_entry ([.ref h_xx, .int p1, .int p2]) (n := 3) (Nat.le_of_ble_eq_true rfl)
  rw [lg_entry_eq]
  generalize (lg_sl ([.ref h_xx, .int p1, .int p2]) ++ List.replicate (3 - (lg_sl ([.ref h_xx, .int p1, .int p2])).length) Slot.unset).toArray = ls at hl ⊢
  have hl : lv_has ls 3 [(0, .ref h_xx), (1, .int p1), (2, .int p2)] := hl
  refine lv_iload_n hx hb dX10_answer_0 rfl (lv_at hl 1 rfl) ?_
  refine lv_iconst (v := (-1)) hx hb dX10_answer_1 (by decide) ?_
  refine lv_icmp_ne (tgt := 13) hx hb dX10_answer_2 (by decide) (fun c1 => ?_) (fun c1 => ?_)
  · have kc1 := (not_congr (cv_eq (rfl : (p1).toInt = (p1).toInt) (by decide : ((-1) : Int32).toInt = -1))).mp c1
    refine lv_iload_n hx hb dX10_answer_13 rfl (lv_at hl 1 rfl) ?_
    refine lv_if_lt (tgt := 28) hx hb dX10_answer_14 (by decide) (fun c2 => ?_) (fun c2 => ?_)
    · have kc2 := (cv_lt (rfl : (p1).toInt = (p1).toInt) (by decide : (0 : Int32).toInt = 0)).mp c2
      refine lv_iconst (v := (-1)) hx hb dX10_answer_28 (by decide) ?_
      refine W.widen (k := 0) (n := 0) (Nat.le_of_ble_eq_true rfl) (Nat.le_of_ble_eq_true rfl) ?_
      exact W.iret (v := (-1)) hx hb hr (fun t ht hW => ⟨⟨(-1), (), rfl, (by unfold an_answer; split <;> first | rfl | (exfalso; omega)), trivial⟩, hS.F ht⟩) hS.2.2 dX10_answer_29
    · have kc2 := (not_congr (cv_lt (rfl : (p1).toInt = (p1).toInt) (by decide : (0 : Int32).toInt = 0))).mp c2
      refine lv_iload_n hx hb dX10_answer_17 rfl (lv_at hl 1 rfl) ?_
      refine lv_aload_n hx hb dX10_answer_18 rfl (lv_at hl 0 rfl) ?_
      refine va_get (D := (dC, dI)) (ci := 7) (v := .ref h_an) (C := RX10) (T := TX10) (N := 8) hx hb hw iwX10 hown hK hP 0 rfl rfl 7 (by decide) (hw _ w_f_X10_63) (fun _ h9 => h9) rfl dX10_answer_19 ?_
      refine va_getN (D := (dC, dI)) (ci := 0) (v := .int 0) (C := RX0) (T := TX0) (N := 6) (host := "OppositePairs") hx hb hw iwX0 hown hK hP 1 rfl rfl 4 (by decide) (hN.use n_f_X10_232 rfl) (fun _ h9 => h9) rfl dX10_answer_22 ?_
      refine lv_icmp_lt (tgt := 30) hx hb dX10_answer_25 (by decide) (fun c3 => False.elim (by have kc3 := (cv_lt (rfl : (p1).toInt = (p1).toInt) (by decide : (0 : Int32).toInt = 0)).mp c3; omega)) (fun _ => ?_)
      refine lv_iconst (v := (-1)) hx hb dX10_answer_28 (by decide) ?_
      refine W.widen (k := 0) (n := 0) (Nat.le_of_ble_eq_true rfl) (Nat.le_of_ble_eq_true rfl) ?_
      exact W.iret (v := (-1)) hx hb hr (fun t ht hW => ⟨⟨(-1), (), rfl, (by unfold an_answer; split <;> first | rfl | (exfalso; omega)), trivial⟩, hS.F ht⟩) hS.2.2 dX10_answer_29
  · have kc1 := (cv_eq (rfl : (p1).toInt = (p1).toInt) (by decide : ((-1) : Int32).toInt = -1)).mp c1
    refine lv_aload_n hx hb dX10_answer_5 rfl (lv_at hl 0 rfl) ?_
    refine va_get (D := (dC, dI)) (ci := 7) (v := .ref h_an) (C := RX10) (T := TX10) (N := 8) hx hb hw iwX10 hown hK hP 0 rfl rfl 7 (by decide) (hw _ w_f_X10_63) (fun _ h9 => h9) rfl dX10_answer_6 ?_
    refine va_getN (D := (dC, dI)) (ci := 0) (v := .int 0) (C := RX0) (T := TX0) (N := 6) (host := "OppositePairs") hx hb hw iwX0 hown hK hP 1 rfl rfl 4 (by decide) (hN.use n_f_X10_232 rfl) (fun _ h9 => h9) rfl dX10_answer_9 ?_
    refine W.widen (k := 0) (n := 0) (Nat.le_of_ble_eq_true rfl) (Nat.le_of_ble_eq_true rfl) ?_
    exact W.iret (v := 0) hx hb hr (fun t ht hW => ⟨⟨0, (), rfl, (by unfold an_answer; split <;> first | rfl | (exfalso; omega)), trivial⟩, hS.F ht⟩) hS.2.2 dX10_answer_12

set_option maxHeartbeats 4000000 in
set_option maxRecDepth 100000 in
theorem c_X10_look (l : Launch) (dC : Nat → ClassId) (dI : Nat → Nat → Nat) (sz : Nat) (h_xx : Nat) (h_rd : Nat) (h_td : Nat) (h_pv : Nat) (h_an : Nat) (v_xx : Nat → Value) (v_rd : Nat → Value) (v_td : Nat → Value) (v_pv : Nat → Value) (v_an : Nat → Value) (p1 : Int32) : Met l yX10_look (Ws yX10_look cX10_look 2 (some .int)) ({ frames := 1, cells := 0, slots := 0, locals := 23 }) (PRE (dC, dI) cls [] [(h_xx, .inr (7, [.ref h_rd, .ref h_td, (v_xx 2), (v_xx 3), (v_xx 4), .ref h_pv, (v_xx 6), .ref h_an])), (h_rd, .inr (4, [(v_rd 0), .int 0, .int 0, .int (-1), (v_rd 4), (v_rd 5), (v_rd 6), (v_rd 7), (v_rd 8), (v_rd 9), (v_rd 10)])), (h_td, .inr (5, [(v_td 0), (v_td 1), (v_td 2), (v_td 3), (v_td 4), (v_td 5), (v_td 6), (v_td 7), (v_td 8), .int 0])), (h_pv, .inr (3, [(v_pv 0), (v_pv 1), (v_pv 2), (v_pv 3), (v_pv 4), (v_pv 5), (v_pv 6), .int 0, (v_pv 8), .int 0, (v_pv 10), (v_pv 11), .int 0, .int 0, .int 0, .int 0, (v_pv 16), .int 0])), (h_an, .inr (0, [(v_an 0), (v_an 1), (v_an 2), (v_an 3), .int 0, .int 0]))] sz [.ref h_xx, .int p1]) (va_Qi (fun (r : Int32) (_ : Unit) => r = an_look p1) (fun (_ : Unit) (_ : State) => True) (va_A [(h_xx, .inr (7, [.ref h_rd, .ref h_td, (v_xx 2), (v_xx 3), (v_xx 4), .ref h_pv, (v_xx 6), .ref h_an])), (h_rd, .inr (4, [(v_rd 0), .int 0, .int 0, .int (-1), (v_rd 4), (v_rd 5), (v_rd 6), (v_rd 7), (v_rd 8), (v_rd 9), (v_rd 10)])), (h_td, .inr (5, [(v_td 0), (v_td 1), (v_td 2), (v_td 3), (v_td 4), (v_td 5), (v_td 6), (v_td 7), (v_td 8), .int 0])), (h_pv, .inr (3, [(v_pv 0), (v_pv 1), (v_pv 2), (v_pv 3), (v_pv 4), (v_pv 5), (v_pv 6), .int 0, (v_pv 8), .int 0, (v_pv 10), (v_pv 11), .int 0, .int 0, .int 0, .int 0, (v_pv 16), .int 0])), (h_an, .inr (0, [(v_an 0), (v_an 1), (v_an 2), (v_an 3), .int 0, .int 0]))] sz)) 0 0 (va_A [(h_xx, .inr (7, [.ref h_rd, .ref h_td, (v_xx 2), (v_xx 3), (v_xx 4), .ref h_pv, (v_xx 6), .ref h_an])), (h_rd, .inr (4, [(v_rd 0), .int 0, .int 0, .int (-1), (v_rd 4), (v_rd 5), (v_rd 6), (v_rd 7), (v_rd 8), (v_rd 9), (v_rd 10)])), (h_td, .inr (5, [(v_td 0), (v_td 1), (v_td 2), (v_td 3), (v_td 4), (v_td 5), (v_td 6), (v_td 7), (v_td 8), .int 0])), (h_pv, .inr (3, [(v_pv 0), (v_pv 1), (v_pv 2), (v_pv 3), (v_pv 4), (v_pv 5), (v_pv 6), .int 0, (v_pv 8), .int 0, (v_pv 10), (v_pv 11), .int 0, .int 0, .int 0, .int 0, (v_pv 16), .int 0])), (h_an, .inr (0, [(v_an 0), (v_an 1), (v_an 2), (v_an 3), .int 0, .int 0]))] sz) := by
  refine Met.ofW (cc := cX10_look) (maxL := 2) (ret := (some .int)) (by decide) rfl ?_
  intro p e s m args below meth c s₁ B hml hv
  obtain ⟨rfl, hsz, hP, hK, hD0, hN⟩ := hv
  have hx := B.exec
  have hb := B.bytes
  have hr := B.returns
  have hts := atoms_spec (ws := Ws yX10_look cX10_look 2 (some .int)) B.pre
  have hT : ∀ w ∈ WALL, w ∈ Ws yX10_look cX10_look 2 (some .int) := fun w h => List.mem_cons_of_mem _ h
  have hw := fun w (h : w ∈ WALL) => hts w (hT w h)
  have hown : s.vm.findClass RX10 = some m.cls := findClass_of_methodNamed B.named
  have hlocks := B.notSynchronized
  subst hsz
  have hD := hD0.self (sz := s.heap.size)
  generalize hAe : va_A [(h_xx, .inr (7, [.ref h_rd, .ref h_td, (v_xx 2), (v_xx 3), (v_xx 4), .ref h_pv, (v_xx 6), .ref h_an])), (h_rd, .inr (4, [(v_rd 0), .int 0, .int 0, .int (-1), (v_rd 4), (v_rd 5), (v_rd 6), (v_rd 7), (v_rd 8), (v_rd 9), (v_rd 10)])), (h_td, .inr (5, [(v_td 0), (v_td 1), (v_td 2), (v_td 3), (v_td 4), (v_td 5), (v_td 6), (v_td 7), (v_td 8), .int 0])), (h_pv, .inr (3, [(v_pv 0), (v_pv 1), (v_pv 2), (v_pv 3), (v_pv 4), (v_pv 5), (v_pv 6), .int 0, (v_pv 8), .int 0, (v_pv 10), (v_pv 11), .int 0, .int 0, .int 0, .int 0, (v_pv 16), .int 0])), (h_an, .inr (0, [(v_an 0), (v_an 1), (v_an 2), (v_an 3), .int 0, .int 0]))] s.heap.size = A at hD ⊢
  have hA : ∀ q : Nat, s.heap.size ≤ q → A q := fun q h => by rw [← hAe]; exact Or.inr h
  have hS : va_S A s.heap s.heap [] := va_S.rf
  have hl := lv_entry ([.ref h_xx, .int p1]) (n := 2) (Nat.le_of_ble_eq_true rfl)
  rw [lg_entry_eq]
  generalize (lg_sl ([.ref h_xx, .int p1]) ++ List.replicate (2 - (lg_sl ([.ref h_xx, .int p1])).length) Slot.unset).toArray = ls at hl ⊢
  have hl : lv_has ls 2 [(0, .ref h_xx), (1, .int p1)] := hl
  refine lv_iload_n hx hb dX10_look_0 rfl (lv_at hl 1 rfl) ?_
  have s1 : (p1).toInt < 0 ∨ 8 < (p1).toInt ∨ (p1).toInt = 0 ∨ (p1).toInt = 1 ∨ (p1).toInt = 2 ∨ (p1).toInt = 3 ∨ (p1).toInt = 4 ∨ (p1).toInt = 5 ∨ (p1).toInt = 6 ∨ (p1).toInt = 7 ∨ (p1).toInt = 8 := by omega
  rcases s1 with s1 | s1 | s1 | s1 | s1 | s1 | s1 | s1 | s1 | s1 | s1
  · refine lv_tableOut (tgt := 135) hx hb dX10_look_1 (Or.inl s1) (by decide) ?_
    refine lv_iconst (v := (-1)) hx hb dX10_look_135 (by decide) ?_
    refine W.widen (k := 0) (n := 0) (Nat.le_of_ble_eq_true rfl) (Nat.le_of_ble_eq_true rfl) ?_
    exact W.iret (v := (-1)) hx hb hr (fun t ht hW => ⟨⟨(-1), (), rfl, (by unfold an_look; split <;> first | rfl | (exfalso; omega)), trivial⟩, hS.F ht⟩) hS.2.2 dX10_look_136
  · refine lv_tableOut (tgt := 135) hx hb dX10_look_1 (Or.inr s1) (by decide) ?_
    refine lv_iconst (v := (-1)) hx hb dX10_look_135 (by decide) ?_
    refine W.widen (k := 0) (n := 0) (Nat.le_of_ble_eq_true rfl) (Nat.le_of_ble_eq_true rfl) ?_
    exact W.iret (v := (-1)) hx hb hr (fun t ht hW => ⟨⟨(-1), (), rfl, (by unfold an_look; split <;> first | rfl | (exfalso; omega)), trivial⟩, hS.F ht⟩) hS.2.2 dX10_look_136
  · refine lv_tableIn (off := 51) (tgt := 52) hx hb dX10_look_1 (by omega) (by omega) (by rw [s1]; rfl) (by decide) ?_
    refine lv_aload_n hx hb dX10_look_52 rfl (lv_at hl 0 rfl) ?_
    refine va_get (D := (dC, dI)) (ci := 7) (v := .ref h_td) (C := RX10) (T := TX10) (N := 8) hx hb hw iwX10 hown hK hP 0 rfl rfl 1 (by decide) (hw _ w_f_X10_19) (fun _ h9 => h9) rfl dX10_look_53 ?_
    refine va_getN (D := (dC, dI)) (ci := 5) (v := .int 0) (C := RX8) (T := TX8) (N := 10) (host := "OppositePairs") hx hb hw iwX8 hown hK hP 2 rfl rfl 9 (by decide) (hN.use n_f_X10_84 rfl) (fun _ h9 => h9) rfl dX10_look_56 ?_
    refine W.widen (k := 0) (n := 0) (Nat.le_of_ble_eq_true rfl) (Nat.le_of_ble_eq_true rfl) ?_
    exact W.iret (v := 0) hx hb hr (fun t ht hW => ⟨⟨0, (), rfl, (by unfold an_look; split <;> first | rfl | (exfalso; omega)), trivial⟩, hS.F ht⟩) hS.2.2 dX10_look_59
  · refine lv_tableIn (off := 59) (tgt := 60) hx hb dX10_look_1 (by omega) (by omega) (by rw [s1]; rfl) (by decide) ?_
    refine lv_aload_n hx hb dX10_look_60 rfl (lv_at hl 0 rfl) ?_
    refine va_get (D := (dC, dI)) (ci := 7) (v := .ref h_td) (C := RX10) (T := TX10) (N := 8) hx hb hw iwX10 hown hK hP 0 rfl rfl 1 (by decide) (hw _ w_f_X10_19) (fun _ h9 => h9) rfl dX10_look_61 ?_
    have hPc := hP.sub (ws' := [(h_td, .inr (5, [(v_td 0), (v_td 1), (v_td 2), (v_td 3), (v_td 4), (v_td 5), (v_td 6), (v_td 7), (v_td 8), .int 0]))]) [2] rfl
    have hDc := hD.sub (ws' := [(h_td, .inr (5, [(v_td 0), (v_td 1), (v_td 2), (v_td 3), (v_td 4), (v_td 5), (v_td 6), (v_td 7), (v_td 8), .int 0]))]) [2] (by decide) rfl
    have hKc := hK.sub (tys' := []) [] rfl
    have hFc := va_free (wc := [(h_td, .inr (5, [(v_td 0), (v_td 1), (v_td 2), (v_td 3), (v_td 4), (v_td 5), (v_td 6), (v_td 7), (v_td 8), .int 0]))]) hD hS hA [2] rfl
    refine va_calli (va_runVN (As := []) (rest := []) ⟨hx, hb, hml, hown, hts⟩ (c_X8_countLiterals l dC dI s.heap.size h_td v_td) ⟨va_cnB (host := "OppositePairs") 0 hts (gd hT w_code_X8_countLiterals) rfl rfl rfl (hN _ n_m_X10_247) (hw _ w_ini_X8) (by decide +kernel) ⟨(Nat.le_of_ble_eq_true rfl), (Nat.le_of_ble_eq_true rfl)⟩, hw _ w_instanceMethod_X8_countLiterals, hw _ ws_sel_X8_countLiterals⟩ ⟨pre_blind, va_recv hK hP (ci := 5) (q0 := 2) rfl rfl, pre_of hPc hKc hDc hN⟩ rfl rfl hl.1 rfl (lv_room (Nat.le_of_ble_eq_true rfl)) dX10_look_64 ⟨(Nat.le_of_ble_eq_true rfl), (Nat.le_of_ble_eq_true rfl)⟩) hS (fun q _ h => hFc q h) hFc (fun r2 u t H locs ht hvm hq hB hz1 hk1 hS => ?_)
    obtain ⟨hP, hD⟩ := va_join (wr := [(h_xx, .inr (7, [.ref h_rd, .ref h_td, (v_xx 2), (v_xx 3), (v_xx 4), .ref h_pv, (v_xx 6), .ref h_an])), (h_rd, .inr (4, [(v_rd 0), .int 0, .int 0, .int (-1), (v_rd 4), (v_rd 5), (v_rd 6), (v_rd 7), (v_rd 8), (v_rd 9), (v_rd 10)])), (h_pv, .inr (3, [(v_pv 0), (v_pv 1), (v_pv 2), (v_pv 3), (v_pv 4), (v_pv 5), (v_pv 6), .int 0, (v_pv 8), .int 0, (v_pv 10), (v_pv 11), .int 0, .int 0, .int 0, .int 0, (v_pv 16), .int 0])), (h_an, .inr (0, [(v_an 0), (v_an 1), (v_an 2), (v_an 3), .int 0, .int 0]))]) (w1 := []) hP hD [2] [0, 1, 3, 4] rfl rfl (by decide) (by decide) hk1 hFc P_nil D_nil
    have hP : va_P (dC, dI) cls [(h_xx, .inr (7, [.ref h_rd, .ref h_td, (v_xx 2), (v_xx 3), (v_xx 4), .ref h_pv, (v_xx 6), .ref h_an])), (h_rd, .inr (4, [(v_rd 0), .int 0, .int 0, .int (-1), (v_rd 4), (v_rd 5), (v_rd 6), (v_rd 7), (v_rd 8), (v_rd 9), (v_rd 10)])), (h_pv, .inr (3, [(v_pv 0), (v_pv 1), (v_pv 2), (v_pv 3), (v_pv 4), (v_pv 5), (v_pv 6), .int 0, (v_pv 8), .int 0, (v_pv 10), (v_pv 11), .int 0, .int 0, .int 0, .int 0, (v_pv 16), .int 0])), (h_an, .inr (0, [(v_an 0), (v_an 1), (v_an 2), (v_an 3), .int 0, .int 0]))] H := hP
    have hD : va_D A [(h_xx, .inr (7, [.ref h_rd, .ref h_td, (v_xx 2), (v_xx 3), (v_xx 4), .ref h_pv, (v_xx 6), .ref h_an])), (h_rd, .inr (4, [(v_rd 0), .int 0, .int 0, .int (-1), (v_rd 4), (v_rd 5), (v_rd 6), (v_rd 7), (v_rd 8), (v_rd 9), (v_rd 10)])), (h_pv, .inr (3, [(v_pv 0), (v_pv 1), (v_pv 2), (v_pv 3), (v_pv 4), (v_pv 5), (v_pv 6), .int 0, (v_pv 8), .int 0, (v_pv 10), (v_pv 11), .int 0, .int 0, .int 0, .int 0, (v_pv 16), .int 0])), (h_an, .inr (0, [(v_an 0), (v_an 1), (v_an 2), (v_an 3), .int 0, .int 0]))] := hD
    obtain rfl : r2 = 0 := hq
    refine W.widen (k := 0) (n := 0) (Nat.le_of_ble_eq_true rfl) (Nat.le_of_ble_eq_true rfl) ?_
    exact W.iret (v := 0) hx hb hr (fun t ht hW => ⟨⟨0, (), rfl, (by unfold an_look; split <;> first | rfl | (exfalso; omega)), trivial⟩, hS.F ht⟩) hS.2.2 dX10_look_67
  · refine lv_tableIn (off := 67) (tgt := 68) hx hb dX10_look_1 (by omega) (by omega) (by rw [s1]; rfl) (by decide) ?_
    refine lv_aload_n hx hb dX10_look_68 rfl (lv_at hl 0 rfl) ?_
    refine va_get (D := (dC, dI)) (ci := 7) (v := .ref h_td) (C := RX10) (T := TX10) (N := 8) hx hb hw iwX10 hown hK hP 0 rfl rfl 1 (by decide) (hw _ w_f_X10_19) (fun _ h9 => h9) rfl dX10_look_69 ?_
    have hPc := hP.sub (ws' := [(h_td, .inr (5, [(v_td 0), (v_td 1), (v_td 2), (v_td 3), (v_td 4), (v_td 5), (v_td 6), (v_td 7), (v_td 8), .int 0]))]) [2] rfl
    have hDc := hD.sub (ws' := [(h_td, .inr (5, [(v_td 0), (v_td 1), (v_td 2), (v_td 3), (v_td 4), (v_td 5), (v_td 6), (v_td 7), (v_td 8), .int 0]))]) [2] (by decide) rfl
    have hKc := hK.sub (tys' := []) [] rfl
    have hFc := va_free (wc := [(h_td, .inr (5, [(v_td 0), (v_td 1), (v_td 2), (v_td 3), (v_td 4), (v_td 5), (v_td 6), (v_td 7), (v_td 8), .int 0]))]) hD hS hA [2] rfl
    refine va_calli (va_runVN (As := []) (rest := []) ⟨hx, hb, hml, hown, hts⟩ (c_X8_countNames l dC dI s.heap.size h_td v_td) ⟨va_cnB (host := "OppositePairs") 0 hts (gd hT w_code_X8_countNames) rfl rfl rfl (hN _ n_m_X10_250) (hw _ w_ini_X8) (by decide +kernel) ⟨(Nat.le_of_ble_eq_true rfl), (Nat.le_of_ble_eq_true rfl)⟩, hw _ w_instanceMethod_X8_countNames, hw _ ws_sel_X8_countNames⟩ ⟨pre_blind, va_recv hK hP (ci := 5) (q0 := 2) rfl rfl, pre_of hPc hKc hDc hN⟩ rfl rfl hl.1 rfl (lv_room (Nat.le_of_ble_eq_true rfl)) dX10_look_72 ⟨(Nat.le_of_ble_eq_true rfl), (Nat.le_of_ble_eq_true rfl)⟩) hS (fun q _ h => hFc q h) hFc (fun r3 u t H locs ht hvm hq hB hz1 hk1 hS => ?_)
    obtain ⟨hP, hD⟩ := va_join (wr := [(h_xx, .inr (7, [.ref h_rd, .ref h_td, (v_xx 2), (v_xx 3), (v_xx 4), .ref h_pv, (v_xx 6), .ref h_an])), (h_rd, .inr (4, [(v_rd 0), .int 0, .int 0, .int (-1), (v_rd 4), (v_rd 5), (v_rd 6), (v_rd 7), (v_rd 8), (v_rd 9), (v_rd 10)])), (h_pv, .inr (3, [(v_pv 0), (v_pv 1), (v_pv 2), (v_pv 3), (v_pv 4), (v_pv 5), (v_pv 6), .int 0, (v_pv 8), .int 0, (v_pv 10), (v_pv 11), .int 0, .int 0, .int 0, .int 0, (v_pv 16), .int 0])), (h_an, .inr (0, [(v_an 0), (v_an 1), (v_an 2), (v_an 3), .int 0, .int 0]))]) (w1 := []) hP hD [2] [0, 1, 3, 4] rfl rfl (by decide) (by decide) hk1 hFc P_nil D_nil
    have hP : va_P (dC, dI) cls [(h_xx, .inr (7, [.ref h_rd, .ref h_td, (v_xx 2), (v_xx 3), (v_xx 4), .ref h_pv, (v_xx 6), .ref h_an])), (h_rd, .inr (4, [(v_rd 0), .int 0, .int 0, .int (-1), (v_rd 4), (v_rd 5), (v_rd 6), (v_rd 7), (v_rd 8), (v_rd 9), (v_rd 10)])), (h_pv, .inr (3, [(v_pv 0), (v_pv 1), (v_pv 2), (v_pv 3), (v_pv 4), (v_pv 5), (v_pv 6), .int 0, (v_pv 8), .int 0, (v_pv 10), (v_pv 11), .int 0, .int 0, .int 0, .int 0, (v_pv 16), .int 0])), (h_an, .inr (0, [(v_an 0), (v_an 1), (v_an 2), (v_an 3), .int 0, .int 0]))] H := hP
    have hD : va_D A [(h_xx, .inr (7, [.ref h_rd, .ref h_td, (v_xx 2), (v_xx 3), (v_xx 4), .ref h_pv, (v_xx 6), .ref h_an])), (h_rd, .inr (4, [(v_rd 0), .int 0, .int 0, .int (-1), (v_rd 4), (v_rd 5), (v_rd 6), (v_rd 7), (v_rd 8), (v_rd 9), (v_rd 10)])), (h_pv, .inr (3, [(v_pv 0), (v_pv 1), (v_pv 2), (v_pv 3), (v_pv 4), (v_pv 5), (v_pv 6), .int 0, (v_pv 8), .int 0, (v_pv 10), (v_pv 11), .int 0, .int 0, .int 0, .int 0, (v_pv 16), .int 0])), (h_an, .inr (0, [(v_an 0), (v_an 1), (v_an 2), (v_an 3), .int 0, .int 0]))] := hD
    obtain rfl : r3 = 0 := hq
    refine W.widen (k := 0) (n := 0) (Nat.le_of_ble_eq_true rfl) (Nat.le_of_ble_eq_true rfl) ?_
    exact W.iret (v := 0) hx hb hr (fun t ht hW => ⟨⟨0, (), rfl, (by unfold an_look; split <;> first | rfl | (exfalso; omega)), trivial⟩, hS.F ht⟩) hS.2.2 dX10_look_75
  · refine lv_tableIn (off := 75) (tgt := 76) hx hb dX10_look_1 (by omega) (by omega) (by rw [s1]; rfl) (by decide) ?_
    refine lv_aload_n hx hb dX10_look_76 rfl (lv_at hl 0 rfl) ?_
    refine va_get (D := (dC, dI)) (ci := 7) (v := .ref h_rd) (C := RX10) (T := TX10) (N := 8) hx hb hw iwX10 hown hK hP 0 rfl rfl 0 (by decide) (hw _ w_f_X10_12) (fun _ h9 => h9) rfl dX10_look_77 ?_
    refine va_getN (D := (dC, dI)) (ci := 4) (v := .int 0) (C := RX5) (T := TX5) (N := 11) (host := "OppositePairs") hx hb hw iwX5 hown hK hP 1 rfl rfl 1 (by decide) (hN.use n_f_X10_67 rfl) (fun _ h9 => h9) rfl dX10_look_80 ?_
    refine W.widen (k := 0) (n := 0) (Nat.le_of_ble_eq_true rfl) (Nat.le_of_ble_eq_true rfl) ?_
    exact W.iret (v := 0) hx hb hr (fun t ht hW => ⟨⟨0, (), rfl, (by unfold an_look; split <;> first | rfl | (exfalso; omega)), trivial⟩, hS.F ht⟩) hS.2.2 dX10_look_83
  · refine lv_tableIn (off := 83) (tgt := 84) hx hb dX10_look_1 (by omega) (by omega) (by rw [s1]; rfl) (by decide) ?_
    refine lv_aload_n hx hb dX10_look_84 rfl (lv_at hl 0 rfl) ?_
    refine va_get (D := (dC, dI)) (ci := 7) (v := .ref h_pv) (C := RX10) (T := TX10) (N := 8) hx hb hw iwX10 hown hK hP 0 rfl rfl 5 (by decide) (hw _ w_f_X10_47) (fun _ h9 => h9) rfl dX10_look_85 ?_
    refine va_getN (D := (dC, dI)) (ci := 3) (v := .int 0) (C := RX4) (T := TX4) (N := 18) (host := "OppositePairs") hx hb hw iwX4 hown hK hP 3 rfl rfl 17 (by decide) (hN.use n_f_X10_175 rfl) (fun _ h9 => h9) rfl dX10_look_88 ?_
    refine lv_if_eq (tgt := 98) hx hb dX10_look_91 (by decide) (fun _ => ?_) (fun c9 => absurd c9 (by decide))
    refine lv_iconst (v := 0) hx hb dX10_look_98 (by decide) ?_
    refine W.widen (k := 0) (n := 0) (Nat.le_of_ble_eq_true rfl) (Nat.le_of_ble_eq_true rfl) ?_
    exact W.iret (v := 0) hx hb hr (fun t ht hW => ⟨⟨0, (), rfl, (by unfold an_look; split <;> first | rfl | (exfalso; omega)), trivial⟩, hS.F ht⟩) hS.2.2 dX10_look_99
  · refine lv_tableIn (off := 99) (tgt := 100) hx hb dX10_look_1 (by omega) (by omega) (by rw [s1]; rfl) (by decide) ?_
    refine lv_aload_n hx hb dX10_look_100 rfl (lv_at hl 0 rfl) ?_
    refine va_get (D := (dC, dI)) (ci := 7) (v := .ref h_pv) (C := RX10) (T := TX10) (N := 8) hx hb hw iwX10 hown hK hP 0 rfl rfl 5 (by decide) (hw _ w_f_X10_47) (fun _ h9 => h9) rfl dX10_look_101 ?_
    refine lv_iconst (v := 1) hx hb dX10_look_104 (by decide) ?_
    have hPc := hP.sub (ws' := [(h_pv, .inr (3, [(v_pv 0), (v_pv 1), (v_pv 2), (v_pv 3), (v_pv 4), (v_pv 5), (v_pv 6), .int 0, (v_pv 8), .int 0, (v_pv 10), (v_pv 11), .int 0, .int 0, .int 0, .int 0, (v_pv 16), .int 0]))]) [3] rfl
    have hDc := hD.sub (ws' := [(h_pv, .inr (3, [(v_pv 0), (v_pv 1), (v_pv 2), (v_pv 3), (v_pv 4), (v_pv 5), (v_pv 6), .int 0, (v_pv 8), .int 0, (v_pv 10), (v_pv 11), .int 0, .int 0, .int 0, .int 0, (v_pv 16), .int 0]))]) [3] (by decide) rfl
    have hKc := hK.sub (tys' := []) [] rfl
    have hFc := va_free (wc := [(h_pv, .inr (3, [(v_pv 0), (v_pv 1), (v_pv 2), (v_pv 3), (v_pv 4), (v_pv 5), (v_pv 6), .int 0, (v_pv 8), .int 0, (v_pv 10), (v_pv 11), .int 0, .int 0, .int 0, .int 0, (v_pv 16), .int 0]))]) hD hS hA [3] rfl
    refine va_calli (va_runVN (As := [.int 1]) (rest := []) ⟨hx, hb, hml, hown, hts⟩ (c_X4_countSteps l dC dI s.heap.size h_pv v_pv 1) ⟨va_cnB (host := "OppositePairs") 1 hts (gd hT w_code_X4_countSteps) rfl rfl rfl (hN _ n_m_X10_253) (hw _ w_ini_X4) (by decide +kernel) ⟨(Nat.le_of_ble_eq_true rfl), (Nat.le_of_ble_eq_true rfl)⟩, hw _ w_instanceMethod_X4_countSteps, hw _ ws_sel_X4_countSteps⟩ ⟨pre_blind, va_recv hK hP (ci := 3) (q0 := 3) rfl rfl, pre_of hPc hKc hDc hN⟩ rfl rfl hl.1 rfl (lv_room (Nat.le_of_ble_eq_true rfl)) dX10_look_105 ⟨(Nat.le_of_ble_eq_true rfl), (Nat.le_of_ble_eq_true rfl)⟩) hS (fun q _ h => hFc q h) hFc (fun r4 u t H locs ht hvm hq hB hz1 hk1 hS => ?_)
    obtain ⟨hP, hD⟩ := va_join (wr := [(h_xx, .inr (7, [.ref h_rd, .ref h_td, (v_xx 2), (v_xx 3), (v_xx 4), .ref h_pv, (v_xx 6), .ref h_an])), (h_rd, .inr (4, [(v_rd 0), .int 0, .int 0, .int (-1), (v_rd 4), (v_rd 5), (v_rd 6), (v_rd 7), (v_rd 8), (v_rd 9), (v_rd 10)])), (h_td, .inr (5, [(v_td 0), (v_td 1), (v_td 2), (v_td 3), (v_td 4), (v_td 5), (v_td 6), (v_td 7), (v_td 8), .int 0])), (h_an, .inr (0, [(v_an 0), (v_an 1), (v_an 2), (v_an 3), .int 0, .int 0]))]) (w1 := []) hP hD [3] [0, 1, 2, 4] rfl rfl (by decide) (by decide) hk1 hFc P_nil D_nil
    have hP : va_P (dC, dI) cls [(h_xx, .inr (7, [.ref h_rd, .ref h_td, (v_xx 2), (v_xx 3), (v_xx 4), .ref h_pv, (v_xx 6), .ref h_an])), (h_rd, .inr (4, [(v_rd 0), .int 0, .int 0, .int (-1), (v_rd 4), (v_rd 5), (v_rd 6), (v_rd 7), (v_rd 8), (v_rd 9), (v_rd 10)])), (h_td, .inr (5, [(v_td 0), (v_td 1), (v_td 2), (v_td 3), (v_td 4), (v_td 5), (v_td 6), (v_td 7), (v_td 8), .int 0])), (h_an, .inr (0, [(v_an 0), (v_an 1), (v_an 2), (v_an 3), .int 0, .int 0]))] H := hP
    have hD : va_D A [(h_xx, .inr (7, [.ref h_rd, .ref h_td, (v_xx 2), (v_xx 3), (v_xx 4), .ref h_pv, (v_xx 6), .ref h_an])), (h_rd, .inr (4, [(v_rd 0), .int 0, .int 0, .int (-1), (v_rd 4), (v_rd 5), (v_rd 6), (v_rd 7), (v_rd 8), (v_rd 9), (v_rd 10)])), (h_td, .inr (5, [(v_td 0), (v_td 1), (v_td 2), (v_td 3), (v_td 4), (v_td 5), (v_td 6), (v_td 7), (v_td 8), .int 0])), (h_an, .inr (0, [(v_an 0), (v_an 1), (v_an 2), (v_an 3), .int 0, .int 0]))] := hD
    obtain rfl : r4 = 0 := hq
    refine W.widen (k := 0) (n := 0) (Nat.le_of_ble_eq_true rfl) (Nat.le_of_ble_eq_true rfl) ?_
    exact W.iret (v := 0) hx hb hr (fun t ht hW => ⟨⟨0, (), rfl, (by unfold an_look; split <;> first | rfl | (exfalso; omega)), trivial⟩, hS.F ht⟩) hS.2.2 dX10_look_108
  · refine lv_tableIn (off := 108) (tgt := 109) hx hb dX10_look_1 (by omega) (by omega) (by rw [s1]; rfl) (by decide) ?_
    refine lv_aload_n hx hb dX10_look_109 rfl (lv_at hl 0 rfl) ?_
    refine va_get (D := (dC, dI)) (ci := 7) (v := .ref h_pv) (C := RX10) (T := TX10) (N := 8) hx hb hw iwX10 hown hK hP 0 rfl rfl 5 (by decide) (hw _ w_f_X10_47) (fun _ h9 => h9) rfl dX10_look_110 ?_
    refine lv_iconst (v := 2) hx hb dX10_look_113 (by decide) ?_
    have hPc := hP.sub (ws' := [(h_pv, .inr (3, [(v_pv 0), (v_pv 1), (v_pv 2), (v_pv 3), (v_pv 4), (v_pv 5), (v_pv 6), .int 0, (v_pv 8), .int 0, (v_pv 10), (v_pv 11), .int 0, .int 0, .int 0, .int 0, (v_pv 16), .int 0]))]) [3] rfl
    have hDc := hD.sub (ws' := [(h_pv, .inr (3, [(v_pv 0), (v_pv 1), (v_pv 2), (v_pv 3), (v_pv 4), (v_pv 5), (v_pv 6), .int 0, (v_pv 8), .int 0, (v_pv 10), (v_pv 11), .int 0, .int 0, .int 0, .int 0, (v_pv 16), .int 0]))]) [3] (by decide) rfl
    have hKc := hK.sub (tys' := []) [] rfl
    have hFc := va_free (wc := [(h_pv, .inr (3, [(v_pv 0), (v_pv 1), (v_pv 2), (v_pv 3), (v_pv 4), (v_pv 5), (v_pv 6), .int 0, (v_pv 8), .int 0, (v_pv 10), (v_pv 11), .int 0, .int 0, .int 0, .int 0, (v_pv 16), .int 0]))]) hD hS hA [3] rfl
    refine va_calli (va_runVN (As := [.int 2]) (rest := []) ⟨hx, hb, hml, hown, hts⟩ (c_X4_countSteps l dC dI s.heap.size h_pv v_pv 2) ⟨va_cnB (host := "OppositePairs") 1 hts (gd hT w_code_X4_countSteps) rfl rfl rfl (hN _ n_m_X10_253) (hw _ w_ini_X4) (by decide +kernel) ⟨(Nat.le_of_ble_eq_true rfl), (Nat.le_of_ble_eq_true rfl)⟩, hw _ w_instanceMethod_X4_countSteps, hw _ ws_sel_X4_countSteps⟩ ⟨pre_blind, va_recv hK hP (ci := 3) (q0 := 3) rfl rfl, pre_of hPc hKc hDc hN⟩ rfl rfl hl.1 rfl (lv_room (Nat.le_of_ble_eq_true rfl)) dX10_look_114 ⟨(Nat.le_of_ble_eq_true rfl), (Nat.le_of_ble_eq_true rfl)⟩) hS (fun q _ h => hFc q h) hFc (fun r5 u t H locs ht hvm hq hB hz1 hk1 hS => ?_)
    obtain ⟨hP, hD⟩ := va_join (wr := [(h_xx, .inr (7, [.ref h_rd, .ref h_td, (v_xx 2), (v_xx 3), (v_xx 4), .ref h_pv, (v_xx 6), .ref h_an])), (h_rd, .inr (4, [(v_rd 0), .int 0, .int 0, .int (-1), (v_rd 4), (v_rd 5), (v_rd 6), (v_rd 7), (v_rd 8), (v_rd 9), (v_rd 10)])), (h_td, .inr (5, [(v_td 0), (v_td 1), (v_td 2), (v_td 3), (v_td 4), (v_td 5), (v_td 6), (v_td 7), (v_td 8), .int 0])), (h_an, .inr (0, [(v_an 0), (v_an 1), (v_an 2), (v_an 3), .int 0, .int 0]))]) (w1 := []) hP hD [3] [0, 1, 2, 4] rfl rfl (by decide) (by decide) hk1 hFc P_nil D_nil
    have hP : va_P (dC, dI) cls [(h_xx, .inr (7, [.ref h_rd, .ref h_td, (v_xx 2), (v_xx 3), (v_xx 4), .ref h_pv, (v_xx 6), .ref h_an])), (h_rd, .inr (4, [(v_rd 0), .int 0, .int 0, .int (-1), (v_rd 4), (v_rd 5), (v_rd 6), (v_rd 7), (v_rd 8), (v_rd 9), (v_rd 10)])), (h_td, .inr (5, [(v_td 0), (v_td 1), (v_td 2), (v_td 3), (v_td 4), (v_td 5), (v_td 6), (v_td 7), (v_td 8), .int 0])), (h_an, .inr (0, [(v_an 0), (v_an 1), (v_an 2), (v_an 3), .int 0, .int 0]))] H := hP
    have hD : va_D A [(h_xx, .inr (7, [.ref h_rd, .ref h_td, (v_xx 2), (v_xx 3), (v_xx 4), .ref h_pv, (v_xx 6), .ref h_an])), (h_rd, .inr (4, [(v_rd 0), .int 0, .int 0, .int (-1), (v_rd 4), (v_rd 5), (v_rd 6), (v_rd 7), (v_rd 8), (v_rd 9), (v_rd 10)])), (h_td, .inr (5, [(v_td 0), (v_td 1), (v_td 2), (v_td 3), (v_td 4), (v_td 5), (v_td 6), (v_td 7), (v_td 8), .int 0])), (h_an, .inr (0, [(v_an 0), (v_an 1), (v_an 2), (v_an 3), .int 0, .int 0]))] := hD
    obtain rfl : r5 = 0 := hq
    refine W.widen (k := 0) (n := 0) (Nat.le_of_ble_eq_true rfl) (Nat.le_of_ble_eq_true rfl) ?_
    exact W.iret (v := 0) hx hb hr (fun t ht hW => ⟨⟨0, (), rfl, (by unfold an_look; split <;> first | rfl | (exfalso; omega)), trivial⟩, hS.F ht⟩) hS.2.2 dX10_look_117
  · refine lv_tableIn (off := 117) (tgt := 118) hx hb dX10_look_1 (by omega) (by omega) (by rw [s1]; rfl) (by decide) ?_
    refine lv_aload_n hx hb dX10_look_118 rfl (lv_at hl 0 rfl) ?_
    refine va_get (D := (dC, dI)) (ci := 7) (v := .ref h_pv) (C := RX10) (T := TX10) (N := 8) hx hb hw iwX10 hown hK hP 0 rfl rfl 5 (by decide) (hw _ w_f_X10_47) (fun _ h9 => h9) rfl dX10_look_119 ?_
    refine lv_iconst (v := 3) hx hb dX10_look_122 (by decide) ?_
    have hPc := hP.sub (ws' := [(h_pv, .inr (3, [(v_pv 0), (v_pv 1), (v_pv 2), (v_pv 3), (v_pv 4), (v_pv 5), (v_pv 6), .int 0, (v_pv 8), .int 0, (v_pv 10), (v_pv 11), .int 0, .int 0, .int 0, .int 0, (v_pv 16), .int 0]))]) [3] rfl
    have hDc := hD.sub (ws' := [(h_pv, .inr (3, [(v_pv 0), (v_pv 1), (v_pv 2), (v_pv 3), (v_pv 4), (v_pv 5), (v_pv 6), .int 0, (v_pv 8), .int 0, (v_pv 10), (v_pv 11), .int 0, .int 0, .int 0, .int 0, (v_pv 16), .int 0]))]) [3] (by decide) rfl
    have hKc := hK.sub (tys' := []) [] rfl
    have hFc := va_free (wc := [(h_pv, .inr (3, [(v_pv 0), (v_pv 1), (v_pv 2), (v_pv 3), (v_pv 4), (v_pv 5), (v_pv 6), .int 0, (v_pv 8), .int 0, (v_pv 10), (v_pv 11), .int 0, .int 0, .int 0, .int 0, (v_pv 16), .int 0]))]) hD hS hA [3] rfl
    refine va_calli (va_runVN (As := [.int 3]) (rest := []) ⟨hx, hb, hml, hown, hts⟩ (c_X4_countSteps l dC dI s.heap.size h_pv v_pv 3) ⟨va_cnB (host := "OppositePairs") 1 hts (gd hT w_code_X4_countSteps) rfl rfl rfl (hN _ n_m_X10_253) (hw _ w_ini_X4) (by decide +kernel) ⟨(Nat.le_of_ble_eq_true rfl), (Nat.le_of_ble_eq_true rfl)⟩, hw _ w_instanceMethod_X4_countSteps, hw _ ws_sel_X4_countSteps⟩ ⟨pre_blind, va_recv hK hP (ci := 3) (q0 := 3) rfl rfl, pre_of hPc hKc hDc hN⟩ rfl rfl hl.1 rfl (lv_room (Nat.le_of_ble_eq_true rfl)) dX10_look_123 ⟨(Nat.le_of_ble_eq_true rfl), (Nat.le_of_ble_eq_true rfl)⟩) hS (fun q _ h => hFc q h) hFc (fun r6 u t H locs ht hvm hq hB hz1 hk1 hS => ?_)
    obtain ⟨hP, hD⟩ := va_join (wr := [(h_xx, .inr (7, [.ref h_rd, .ref h_td, (v_xx 2), (v_xx 3), (v_xx 4), .ref h_pv, (v_xx 6), .ref h_an])), (h_rd, .inr (4, [(v_rd 0), .int 0, .int 0, .int (-1), (v_rd 4), (v_rd 5), (v_rd 6), (v_rd 7), (v_rd 8), (v_rd 9), (v_rd 10)])), (h_td, .inr (5, [(v_td 0), (v_td 1), (v_td 2), (v_td 3), (v_td 4), (v_td 5), (v_td 6), (v_td 7), (v_td 8), .int 0])), (h_an, .inr (0, [(v_an 0), (v_an 1), (v_an 2), (v_an 3), .int 0, .int 0]))]) (w1 := []) hP hD [3] [0, 1, 2, 4] rfl rfl (by decide) (by decide) hk1 hFc P_nil D_nil
    have hP : va_P (dC, dI) cls [(h_xx, .inr (7, [.ref h_rd, .ref h_td, (v_xx 2), (v_xx 3), (v_xx 4), .ref h_pv, (v_xx 6), .ref h_an])), (h_rd, .inr (4, [(v_rd 0), .int 0, .int 0, .int (-1), (v_rd 4), (v_rd 5), (v_rd 6), (v_rd 7), (v_rd 8), (v_rd 9), (v_rd 10)])), (h_td, .inr (5, [(v_td 0), (v_td 1), (v_td 2), (v_td 3), (v_td 4), (v_td 5), (v_td 6), (v_td 7), (v_td 8), .int 0])), (h_an, .inr (0, [(v_an 0), (v_an 1), (v_an 2), (v_an 3), .int 0, .int 0]))] H := hP
    have hD : va_D A [(h_xx, .inr (7, [.ref h_rd, .ref h_td, (v_xx 2), (v_xx 3), (v_xx 4), .ref h_pv, (v_xx 6), .ref h_an])), (h_rd, .inr (4, [(v_rd 0), .int 0, .int 0, .int (-1), (v_rd 4), (v_rd 5), (v_rd 6), (v_rd 7), (v_rd 8), (v_rd 9), (v_rd 10)])), (h_td, .inr (5, [(v_td 0), (v_td 1), (v_td 2), (v_td 3), (v_td 4), (v_td 5), (v_td 6), (v_td 7), (v_td 8), .int 0])), (h_an, .inr (0, [(v_an 0), (v_an 1), (v_an 2), (v_an 3), .int 0, .int 0]))] := hD
    obtain rfl : r6 = 0 := hq
    refine W.widen (k := 0) (n := 0) (Nat.le_of_ble_eq_true rfl) (Nat.le_of_ble_eq_true rfl) ?_
    exact W.iret (v := 0) hx hb hr (fun t ht hW => ⟨⟨0, (), rfl, (by unfold an_look; split <;> first | rfl | (exfalso; omega)), trivial⟩, hS.F ht⟩) hS.2.2 dX10_look_126
  · refine lv_tableIn (off := 126) (tgt := 127) hx hb dX10_look_1 (by omega) (by omega) (by rw [s1]; rfl) (by decide) ?_
    refine lv_aload_n hx hb dX10_look_127 rfl (lv_at hl 0 rfl) ?_
    refine va_get (D := (dC, dI)) (ci := 7) (v := .ref h_an) (C := RX10) (T := TX10) (N := 8) hx hb hw iwX10 hown hK hP 0 rfl rfl 7 (by decide) (hw _ w_f_X10_63) (fun _ h9 => h9) rfl dX10_look_128 ?_
    refine va_getN (D := (dC, dI)) (ci := 0) (v := .int 0) (C := RX0) (T := TX0) (N := 6) (host := "OppositePairs") hx hb hw iwX0 hown hK hP 4 rfl rfl 5 (by decide) (hN.use n_f_X10_256 rfl) (fun _ h9 => h9) rfl dX10_look_131 ?_
    refine W.widen (k := 0) (n := 0) (Nat.le_of_ble_eq_true rfl) (Nat.le_of_ble_eq_true rfl) ?_
    exact W.iret (v := 0) hx hb hr (fun t ht hW => ⟨⟨0, (), rfl, (by unfold an_look; split <;> first | rfl | (exfalso; omega)), trivial⟩, hS.F ht⟩) hS.2.2 dX10_look_134

