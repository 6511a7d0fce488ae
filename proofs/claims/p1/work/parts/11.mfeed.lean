set_option maxHeartbeats 4000000 in
set_option maxRecDepth 100000 in
theorem c_X11_feed (l : Launch) (dC : Nat → ClassId) (dI : Nat → Nat → Nat) (sz : Nat) (h_mm : Nat) (h_tp : Nat) (v_mm : Nat → Value) (cy_tp : ClassId) (f_tp : Nat → Int32) (p1 : Int32) (p2 : Int32) (p3 : Int32) (p4 : Int32) (p5 : Int32) : Met l yX11_feed (Ws yX11_feed cX11_feed 8 (some .int)) ({ frames := 0, cells := 0, slots := 0, locals := 0 }) (PRE (dC, dI) cls [(cy_tp, .byte)] [(h_mm, .inr (8, ((v_mm 0) :: (v_mm 1) :: (v_mm 2) :: (v_mm 3) :: (v_mm 4) :: (v_mm 5) :: .int 0 :: .int 0 :: (v_mm 8) :: (v_mm 9) :: (v_mm 10) :: (v_mm 11) :: (v_mm 12) :: .ref h_tp :: .int 0 :: (v_mm 15) :: (v_mm 16) :: (v_mm 17) :: (v_mm 18) :: (v_mm 19) :: .int 0 :: .int 0 :: .int (-1) :: (v_mm 23) :: (v_mm 24) :: (v_mm 25) :: (v_mm 26) :: (v_mm 27) :: (v_mm 28) :: (v_mm 29) :: (v_mm 30) :: (v_mm 31) :: (v_mm 32) :: (v_mm 33) :: (v_mm 34) :: (v_mm 35) :: (v_mm 36) :: (v_mm 37) :: (v_mm 38) :: (v_mm 39) :: (v_mm 40) :: (v_mm 41) :: (v_mm 42) :: [(v_mm 43), (v_mm 44), (v_mm 45), (v_mm 46), (v_mm 47), (v_mm 48), (v_mm 49), (v_mm 50), .int 0, .int 0, .int 0, .int 0, (v_mm 55), .int 0, (v_mm 57), .int 0, (v_mm 59), .int 0, .int 0, (v_mm 62), .int 0, (v_mm 64), (v_mm 65), (v_mm 66), (v_mm 67), (v_mm 68), (v_mm 69), (v_mm 70)]))), (h_tp, .inl (cy_tp, 600, .inl f_tp))] sz [.ref h_mm, .int p1, .int p2, .int p3, .int p4, .int p5]) (va_Qi (fun (r : Int32) (_ : Unit) => r = 20) (fun (_ : Unit) (_ : State) => True) (va_A [(h_mm, .inr (8, ((v_mm 0) :: (v_mm 1) :: (v_mm 2) :: (v_mm 3) :: (v_mm 4) :: (v_mm 5) :: .int 0 :: .int 0 :: (v_mm 8) :: (v_mm 9) :: (v_mm 10) :: (v_mm 11) :: (v_mm 12) :: .ref h_tp :: .int 0 :: (v_mm 15) :: (v_mm 16) :: (v_mm 17) :: (v_mm 18) :: (v_mm 19) :: .int 0 :: .int 0 :: .int (-1) :: (v_mm 23) :: (v_mm 24) :: (v_mm 25) :: (v_mm 26) :: (v_mm 27) :: (v_mm 28) :: (v_mm 29) :: (v_mm 30) :: (v_mm 31) :: (v_mm 32) :: (v_mm 33) :: (v_mm 34) :: (v_mm 35) :: (v_mm 36) :: (v_mm 37) :: (v_mm 38) :: (v_mm 39) :: (v_mm 40) :: (v_mm 41) :: (v_mm 42) :: [(v_mm 43), (v_mm 44), (v_mm 45), (v_mm 46), (v_mm 47), (v_mm 48), (v_mm 49), (v_mm 50), .int 0, .int 0, .int 0, .int 0, (v_mm 55), .int 0, (v_mm 57), .int 0, (v_mm 59), .int 0, .int 0, (v_mm 62), .int 0, (v_mm 64), (v_mm 65), (v_mm 66), (v_mm 67), (v_mm 68), (v_mm 69), (v_mm 70)]))), (h_tp, .inl (cy_tp, 600, .inl f_tp))] sz)) 0 0 (va_A [(h_mm, .inr (8, ((v_mm 0) :: (v_mm 1) :: (v_mm 2) :: (v_mm 3) :: (v_mm 4) :: (v_mm 5) :: .int 0 :: .int 0 :: (v_mm 8) :: (v_mm 9) :: (v_mm 10) :: (v_mm 11) :: (v_mm 12) :: .ref h_tp :: .int 0 :: (v_mm 15) :: (v_mm 16) :: (v_mm 17) :: (v_mm 18) :: (v_mm 19) :: .int 0 :: .int 0 :: .int (-1) :: (v_mm 23) :: (v_mm 24) :: (v_mm 25) :: (v_mm 26) :: (v_mm 27) :: (v_mm 28) :: (v_mm 29) :: (v_mm 30) :: (v_mm 31) :: (v_mm 32) :: (v_mm 33) :: (v_mm 34) :: (v_mm 35) :: (v_mm 36) :: (v_mm 37) :: (v_mm 38) :: (v_mm 39) :: (v_mm 40) :: (v_mm 41) :: (v_mm 42) :: [(v_mm 43), (v_mm 44), (v_mm 45), (v_mm 46), (v_mm 47), (v_mm 48), (v_mm 49), (v_mm 50), .int 0, .int 0, .int 0, .int 0, (v_mm 55), .int 0, (v_mm 57), .int 0, (v_mm 59), .int 0, .int 0, (v_mm 62), .int 0, (v_mm 64), (v_mm 65), (v_mm 66), (v_mm 67), (v_mm 68), (v_mm 69), (v_mm 70)]))), (h_tp, .inl (cy_tp, 600, .inl f_tp))] sz) := by
  refine Met.ofW (cc := cX11_feed) (maxL := 8) (ret := (some .int)) (by decide) rfl ?_
  intro p e s m args below meth c s₁ B hml hv
  obtain ⟨rfl, hsz, hP, hK, hD0, hN⟩ := hv
  have hx := B.exec
  have hb := B.bytes
  have hr := B.returns
  have hts := atoms_spec (ws := Ws yX11_feed cX11_feed 8 (some .int)) B.pre
  have hT : ∀ w ∈ WALL, w ∈ Ws yX11_feed cX11_feed 8 (some .int) := fun w h => List.mem_cons_of_mem _ h
  have hw := fun w (h : w ∈ WALL) => hts w (hT w h)
  have hown : s.vm.findClass RX11 = some m.cls := findClass_of_methodNamed B.named
  have hlocks := B.notSynchronized
  subst hsz
  have hD := hD0.self (sz := s.heap.size)
  generalize hAe : va_A [(h_mm, .inr (8, ((v_mm 0) :: (v_mm 1) :: (v_mm 2) :: (v_mm 3) :: (v_mm 4) :: (v_mm 5) :: .int 0 :: .int 0 :: (v_mm 8) :: (v_mm 9) :: (v_mm 10) :: (v_mm 11) :: (v_mm 12) :: .ref h_tp :: .int 0 :: (v_mm 15) :: (v_mm 16) :: (v_mm 17) :: (v_mm 18) :: (v_mm 19) :: .int 0 :: .int 0 :: .int (-1) :: (v_mm 23) :: (v_mm 24) :: (v_mm 25) :: (v_mm 26) :: (v_mm 27) :: (v_mm 28) :: (v_mm 29) :: (v_mm 30) :: (v_mm 31) :: (v_mm 32) :: (v_mm 33) :: (v_mm 34) :: (v_mm 35) :: (v_mm 36) :: (v_mm 37) :: (v_mm 38) :: (v_mm 39) :: (v_mm 40) :: (v_mm 41) :: (v_mm 42) :: [(v_mm 43), (v_mm 44), (v_mm 45), (v_mm 46), (v_mm 47), (v_mm 48), (v_mm 49), (v_mm 50), .int 0, .int 0, .int 0, .int 0, (v_mm 55), .int 0, (v_mm 57), .int 0, (v_mm 59), .int 0, .int 0, (v_mm 62), .int 0, (v_mm 64), (v_mm 65), (v_mm 66), (v_mm 67), (v_mm 68), (v_mm 69), (v_mm 70)]))), (h_tp, .inl (cy_tp, 600, .inl f_tp))] s.heap.size = A at hD ⊢
  have hA : ∀ q : Nat, s.heap.size ≤ q → A q := fun q h => by rw [← hAe]; exact Or.inr h
  have hS : va_S A s.heap s.heap [] := va_S.rf
  have hl := lv_entry ([.ref h_mm, .int p1, .int p2, .int p3, .int p4, .int p5]) (n := 8) (Nat.le_of_ble_eq_true rfl)
  rw [lg_entry_eq]
  generalize (lg_sl ([.ref h_mm, .int p1, .int p2, .int p3, .int p4, .int p5]) ++ List.replicate (8 - (lg_sl ([.ref h_mm, .int p1, .int p2, .int p3, .int p4, .int p5])).length) Slot.unset).toArray = ls at hl ⊢
  have hl : lv_has ls 8 [(0, .ref h_mm), (1, .int p1), (2, .int p2), (3, .int p3), (4, .int p4), (5, .int p5)] := hl
  refine lv_aload_n hx hb dX11_feed_0 rfl (lv_at hl 0 rfl) ?_
  refine lv_iconst (v := 0) hx hb dX11_feed_1 (by decide) ?_
  refine va_put (D := (dC, dI)) (ci := 8) (v := .int 0) (ty := tyX11 0) (C := RX11) (T := TX11) (N := 71) hx hb hw iwX11 tyX11 tyX11_ok nmX11 hown hK hP hD hS 0 rfl rfl 0 (by decide) (hw _ w_f_X11_1) (fun _ h9 => h9) rfl (tyX11_ok 0 (by decide)) rfl rfl (Nat.le_of_ble_eq_true rfl) dX11_feed_2 (fun H locs hP hD hS => ?_)
  have hP : va_P (dC, dI) cls [(h_mm, .inr (8, (.int 0 :: (v_mm 1) :: (v_mm 2) :: (v_mm 3) :: (v_mm 4) :: (v_mm 5) :: .int 0 :: .int 0 :: (v_mm 8) :: (v_mm 9) :: (v_mm 10) :: (v_mm 11) :: (v_mm 12) :: .ref h_tp :: .int 0 :: (v_mm 15) :: (v_mm 16) :: (v_mm 17) :: (v_mm 18) :: (v_mm 19) :: .int 0 :: .int 0 :: .int (-1) :: (v_mm 23) :: (v_mm 24) :: (v_mm 25) :: (v_mm 26) :: (v_mm 27) :: (v_mm 28) :: (v_mm 29) :: (v_mm 30) :: (v_mm 31) :: (v_mm 32) :: (v_mm 33) :: (v_mm 34) :: (v_mm 35) :: (v_mm 36) :: (v_mm 37) :: (v_mm 38) :: (v_mm 39) :: (v_mm 40) :: (v_mm 41) :: (v_mm 42) :: [(v_mm 43), (v_mm 44), (v_mm 45), (v_mm 46), (v_mm 47), (v_mm 48), (v_mm 49), (v_mm 50), .int 0, .int 0, .int 0, .int 0, (v_mm 55), .int 0, (v_mm 57), .int 0, (v_mm 59), .int 0, .int 0, (v_mm 62), .int 0, (v_mm 64), (v_mm 65), (v_mm 66), (v_mm 67), (v_mm 68), (v_mm 69), (v_mm 70)]))), (h_tp, .inl (cy_tp, 600, .inl f_tp))] H := hP
  have hD : va_D A [(h_mm, .inr (8, (.int 0 :: (v_mm 1) :: (v_mm 2) :: (v_mm 3) :: (v_mm 4) :: (v_mm 5) :: .int 0 :: .int 0 :: (v_mm 8) :: (v_mm 9) :: (v_mm 10) :: (v_mm 11) :: (v_mm 12) :: .ref h_tp :: .int 0 :: (v_mm 15) :: (v_mm 16) :: (v_mm 17) :: (v_mm 18) :: (v_mm 19) :: .int 0 :: .int 0 :: .int (-1) :: (v_mm 23) :: (v_mm 24) :: (v_mm 25) :: (v_mm 26) :: (v_mm 27) :: (v_mm 28) :: (v_mm 29) :: (v_mm 30) :: (v_mm 31) :: (v_mm 32) :: (v_mm 33) :: (v_mm 34) :: (v_mm 35) :: (v_mm 36) :: (v_mm 37) :: (v_mm 38) :: (v_mm 39) :: (v_mm 40) :: (v_mm 41) :: (v_mm 42) :: [(v_mm 43), (v_mm 44), (v_mm 45), (v_mm 46), (v_mm 47), (v_mm 48), (v_mm 49), (v_mm 50), .int 0, .int 0, .int 0, .int 0, (v_mm 55), .int 0, (v_mm 57), .int 0, (v_mm 59), .int 0, .int 0, (v_mm 62), .int 0, (v_mm 64), (v_mm 65), (v_mm 66), (v_mm 67), (v_mm 68), (v_mm 69), (v_mm 70)]))), (h_tp, .inl (cy_tp, 600, .inl f_tp))] := hD
  refine lv_aload_n hx hb dX11_feed_5 rfl (lv_at hl 0 rfl) ?_
  refine va_get (D := (dC, dI)) (ci := 8) (v := .int 0) (C := RX11) (T := TX11) (N := 71) hx hb hw iwX11 hown hK hP 0 rfl rfl 14 (by decide) (hw _ w_f_X11_38) (fun _ h9 => h9) rfl dX11_feed_6 ?_
  refine lv_bipush (v := 20) hx hb dX11_feed_9 (by decide) ?_
  refine lv_iadd hx hb dX11_feed_11 ?_
  refine lv_topi (fun z1 ez1 => ?_)
  obtain rfl : z1 = 20 := ez1.trans (by decide)
  refine lv_sipush (v := 600) hx hb dX11_feed_12 (by decide) ?_
  refine lv_icmp_le (tgt := 20) hx hb dX11_feed_15 (by decide) (fun _ => ?_) (fun c9 => absurd c9 (by decide))
  refine lv_iconst (v := 0) hx hb dX11_feed_20 (by decide) ?_
  refine lv_istore (lv' := [(6, .int 0), (0, .ref h_mm), (1, .int p1), (2, .int p2), (3, .int p3), (4, .int p4), (5, .int p5)]) hx hb dX11_feed_21 hl (by decide) rfl (fun ls hl => ?_)
  refine lv_iload hx hb dX11_feed_23 (lv_at hl 0 rfl) ?_
  refine lv_bipush (v := 20) hx hb dX11_feed_25 (by decide) ?_
  refine lv_icmp_ge (tgt := 117) hx hb dX11_feed_27 (by decide) (fun c9 => absurd c9 (by decide)) (fun _ => ?_)
  refine lv_iload hx hb dX11_feed_30 (lv_at hl 0 rfl) ?_
  refine lv_iconst (v := 4) hx hb dX11_feed_32 (by decide) ?_
  refine lv_icmp_ge (tgt := 40) hx hb dX11_feed_33 (by decide) (fun c9 => absurd c9 (by decide)) (fun _ => ?_)
  refine lv_iload_n hx hb dX11_feed_36 rfl (lv_at hl 2 rfl) ?_
  refine lv_goto (tgt := 76) hx hb dX11_feed_37 (by decide) ?_
  refine lv_istore (lv' := [(7, .int p1), (6, .int 0), (0, .ref h_mm), (1, .int p1), (2, .int p2), (3, .int p3), (4, .int p4), (5, .int p5)]) hx hb dX11_feed_76 hl (by decide) rfl (fun ls hl => ?_)
  refine lv_aload_n hx hb dX11_feed_78 rfl (lv_at hl 2 rfl) ?_
  refine va_get (D := (dC, dI)) (ci := 8) (v := .ref h_tp) (C := RX11) (T := TX11) (N := 71) hx hb hw iwX11 hown hK hP 0 rfl rfl 13 (by decide) (hw _ w_f_X11_41) (fun _ h9 => h9) rfl dX11_feed_79 ?_
  refine lv_aload_n hx hb dX11_feed_82 rfl (lv_at hl 2 rfl) ?_
  refine va_get (D := (dC, dI)) (ci := 8) (v := .int 0) (C := RX11) (T := TX11) (N := 71) hx hb hw iwX11 hown hK hP 0 rfl rfl 14 (by decide) (hw _ w_f_X11_38) (fun _ h9 => h9) rfl dX11_feed_83 ?_
  refine lv_iload hx hb dX11_feed_86 (lv_at hl 0 rfl) ?_
  refine lv_bipush (v := 24) hx hb dX11_feed_88 (by decide) ?_
  refine lv_bipush (v := 8) hx hb dX11_feed_90 (by decide) ?_
  refine lv_iload hx hb dX11_feed_92 (lv_at hl 1 rfl) ?_
  refine lv_iconst (v := 4) hx hb dX11_feed_94 (by decide) ?_
  refine lv_irem hx hb dX11_feed_95 (by decide) ?_
  refine lv_topi (fun z2 ez2 => ?_)
  obtain rfl : z2 = 0 := ez2.trans (by decide)
  refine lv_imul hx hb dX11_feed_96 ?_
  refine lv_topi (fun z3 ez3 => ?_)
  obtain rfl : z3 = 0 := ez3.trans (by decide)
  refine lv_isub hx hb dX11_feed_97 ?_
  refine lv_topi (fun z4 ez4 => ?_)
  obtain rfl : z4 = 24 := ez4.trans (by decide)
  refine lv_ishr hx hb dX11_feed_98 ?_
  refine lv_topi (fun z5 ez5 => ?_)
  refine lv_i2b (v := (z5).toInt8.toInt32) hx hb dX11_feed_99 rfl ?_
  refine va_bast hx hb hK hP hD hS 1 0 rfl rfl (i := 0) (x := (z5).toInt8.toInt32) (show ¬ _ from by decide) dX11_feed_100 (fun H locs hP hD hS => ?_)
  obtain ⟨f6, ef6⟩ : ∃ g : Nat → Int32, g = upd f_tp (Int32.toNatClampNeg 0) (vp_nar .byte (z5).toInt8.toInt32) := ⟨_, rfl⟩
  have hP : va_P (dC, dI) cls [(h_mm, .inr (8, (.int 0 :: (v_mm 1) :: (v_mm 2) :: (v_mm 3) :: (v_mm 4) :: (v_mm 5) :: .int 0 :: .int 0 :: (v_mm 8) :: (v_mm 9) :: (v_mm 10) :: (v_mm 11) :: (v_mm 12) :: .ref h_tp :: .int 0 :: (v_mm 15) :: (v_mm 16) :: (v_mm 17) :: (v_mm 18) :: (v_mm 19) :: .int 0 :: .int 0 :: .int (-1) :: (v_mm 23) :: (v_mm 24) :: (v_mm 25) :: (v_mm 26) :: (v_mm 27) :: (v_mm 28) :: (v_mm 29) :: (v_mm 30) :: (v_mm 31) :: (v_mm 32) :: (v_mm 33) :: (v_mm 34) :: (v_mm 35) :: (v_mm 36) :: (v_mm 37) :: (v_mm 38) :: (v_mm 39) :: (v_mm 40) :: (v_mm 41) :: (v_mm 42) :: [(v_mm 43), (v_mm 44), (v_mm 45), (v_mm 46), (v_mm 47), (v_mm 48), (v_mm 49), (v_mm 50), .int 0, .int 0, .int 0, .int 0, (v_mm 55), .int 0, (v_mm 57), .int 0, (v_mm 59), .int 0, .int 0, (v_mm 62), .int 0, (v_mm 64), (v_mm 65), (v_mm 66), (v_mm 67), (v_mm 68), (v_mm 69), (v_mm 70)]))), (h_tp, .inl (cy_tp, 600, .inl f6))] H := by rw [ef6]; exact hP
  have hD : va_D A [(h_mm, .inr (8, (.int 0 :: (v_mm 1) :: (v_mm 2) :: (v_mm 3) :: (v_mm 4) :: (v_mm 5) :: .int 0 :: .int 0 :: (v_mm 8) :: (v_mm 9) :: (v_mm 10) :: (v_mm 11) :: (v_mm 12) :: .ref h_tp :: .int 0 :: (v_mm 15) :: (v_mm 16) :: (v_mm 17) :: (v_mm 18) :: (v_mm 19) :: .int 0 :: .int 0 :: .int (-1) :: (v_mm 23) :: (v_mm 24) :: (v_mm 25) :: (v_mm 26) :: (v_mm 27) :: (v_mm 28) :: (v_mm 29) :: (v_mm 30) :: (v_mm 31) :: (v_mm 32) :: (v_mm 33) :: (v_mm 34) :: (v_mm 35) :: (v_mm 36) :: (v_mm 37) :: (v_mm 38) :: (v_mm 39) :: (v_mm 40) :: (v_mm 41) :: (v_mm 42) :: [(v_mm 43), (v_mm 44), (v_mm 45), (v_mm 46), (v_mm 47), (v_mm 48), (v_mm 49), (v_mm 50), .int 0, .int 0, .int 0, .int 0, (v_mm 55), .int 0, (v_mm 57), .int 0, (v_mm 59), .int 0, .int 0, (v_mm 62), .int 0, (v_mm 64), (v_mm 65), (v_mm 66), (v_mm 67), (v_mm 68), (v_mm 69), (v_mm 70)]))), (h_tp, .inl (cy_tp, 600, .inl f6))] := by rw [ef6]; exact hD
  clear ef6
  refine lv_aload_n hx hb dX11_feed_101 rfl (lv_at hl 2 rfl) ?_
  refine lv_aload_n hx hb dX11_feed_102 rfl (lv_at hl 2 rfl) ?_
  refine va_get (D := (dC, dI)) (ci := 8) (v := .int 0) (C := RX11) (T := TX11) (N := 71) hx hb hw iwX11 hown hK hP 0 rfl rfl 14 (by decide) (hw _ w_f_X11_38) (fun _ h9 => h9) rfl dX11_feed_103 ?_
  refine lv_iconst (v := 1) hx hb dX11_feed_106 (by decide) ?_
  refine lv_iadd hx hb dX11_feed_107 ?_
  refine lv_topi (fun z7 ez7 => ?_)
  obtain rfl : z7 = 1 := ez7.trans (by decide)
  refine va_put (D := (dC, dI)) (ci := 8) (v := .int 1) (ty := tyX11 14) (C := RX11) (T := TX11) (N := 71) hx hb hw iwX11 tyX11 tyX11_ok nmX11 hown hK hP hD hS 0 rfl rfl 14 (by decide) (hw _ w_f_X11_38) (fun _ h9 => h9) rfl (tyX11_ok 14 (by decide)) rfl rfl (Nat.le_of_ble_eq_true rfl) dX11_feed_108 (fun H locs hP hD hS => ?_)
  have hP : va_P (dC, dI) cls [(h_mm, .inr (8, (.int 0 :: (v_mm 1) :: (v_mm 2) :: (v_mm 3) :: (v_mm 4) :: (v_mm 5) :: .int 0 :: .int 0 :: (v_mm 8) :: (v_mm 9) :: (v_mm 10) :: (v_mm 11) :: (v_mm 12) :: .ref h_tp :: .int 1 :: (v_mm 15) :: (v_mm 16) :: (v_mm 17) :: (v_mm 18) :: (v_mm 19) :: .int 0 :: .int 0 :: .int (-1) :: (v_mm 23) :: (v_mm 24) :: (v_mm 25) :: (v_mm 26) :: (v_mm 27) :: (v_mm 28) :: (v_mm 29) :: (v_mm 30) :: (v_mm 31) :: (v_mm 32) :: (v_mm 33) :: (v_mm 34) :: (v_mm 35) :: (v_mm 36) :: (v_mm 37) :: (v_mm 38) :: (v_mm 39) :: (v_mm 40) :: (v_mm 41) :: (v_mm 42) :: [(v_mm 43), (v_mm 44), (v_mm 45), (v_mm 46), (v_mm 47), (v_mm 48), (v_mm 49), (v_mm 50), .int 0, .int 0, .int 0, .int 0, (v_mm 55), .int 0, (v_mm 57), .int 0, (v_mm 59), .int 0, .int 0, (v_mm 62), .int 0, (v_mm 64), (v_mm 65), (v_mm 66), (v_mm 67), (v_mm 68), (v_mm 69), (v_mm 70)]))), (h_tp, .inl (cy_tp, 600, .inl f6))] H := hP
  have hD : va_D A [(h_mm, .inr (8, (.int 0 :: (v_mm 1) :: (v_mm 2) :: (v_mm 3) :: (v_mm 4) :: (v_mm 5) :: .int 0 :: .int 0 :: (v_mm 8) :: (v_mm 9) :: (v_mm 10) :: (v_mm 11) :: (v_mm 12) :: .ref h_tp :: .int 1 :: (v_mm 15) :: (v_mm 16) :: (v_mm 17) :: (v_mm 18) :: (v_mm 19) :: .int 0 :: .int 0 :: .int (-1) :: (v_mm 23) :: (v_mm 24) :: (v_mm 25) :: (v_mm 26) :: (v_mm 27) :: (v_mm 28) :: (v_mm 29) :: (v_mm 30) :: (v_mm 31) :: (v_mm 32) :: (v_mm 33) :: (v_mm 34) :: (v_mm 35) :: (v_mm 36) :: (v_mm 37) :: (v_mm 38) :: (v_mm 39) :: (v_mm 40) :: (v_mm 41) :: (v_mm 42) :: [(v_mm 43), (v_mm 44), (v_mm 45), (v_mm 46), (v_mm 47), (v_mm 48), (v_mm 49), (v_mm 50), .int 0, .int 0, .int 0, .int 0, (v_mm 55), .int 0, (v_mm 57), .int 0, (v_mm 59), .int 0, .int 0, (v_mm 62), .int 0, (v_mm 64), (v_mm 65), (v_mm 66), (v_mm 67), (v_mm 68), (v_mm 69), (v_mm 70)]))), (h_tp, .inl (cy_tp, 600, .inl f6))] := hD
  refine lv_iinc (v := 1) (lv' := [(6, .int 1), (7, .int p1), (0, .ref h_mm), (1, .int p1), (2, .int p2), (3, .int p3), (4, .int p4), (5, .int p5)]) hx hb dX11_feed_111 hl (k := 1) rfl (by decide) (by decide) rfl (fun ls hl => ?_)
  refine lv_goto (tgt := 23) hx hb dX11_feed_114 (by decide) ?_
  refine lv_iload hx hb dX11_feed_23 (lv_at hl 0 rfl) ?_
  refine lv_bipush (v := 20) hx hb dX11_feed_25 (by decide) ?_
  refine lv_icmp_ge (tgt := 117) hx hb dX11_feed_27 (by decide) (fun c9 => absurd c9 (by decide)) (fun _ => ?_)
  refine lv_iload hx hb dX11_feed_30 (lv_at hl 0 rfl) ?_
  refine lv_iconst (v := 4) hx hb dX11_feed_32 (by decide) ?_
  refine lv_icmp_ge (tgt := 40) hx hb dX11_feed_33 (by decide) (fun c9 => absurd c9 (by decide)) (fun _ => ?_)
  refine lv_iload_n hx hb dX11_feed_36 rfl (lv_at hl 3 rfl) ?_
  refine lv_goto (tgt := 76) hx hb dX11_feed_37 (by decide) ?_
  refine lv_istore (lv' := [(7, .int p1), (6, .int 1), (0, .ref h_mm), (1, .int p1), (2, .int p2), (3, .int p3), (4, .int p4), (5, .int p5)]) hx hb dX11_feed_76 hl (by decide) rfl (fun ls hl => ?_)
  refine lv_aload_n hx hb dX11_feed_78 rfl (lv_at hl 2 rfl) ?_
  refine va_get (D := (dC, dI)) (ci := 8) (v := .ref h_tp) (C := RX11) (T := TX11) (N := 71) hx hb hw iwX11 hown hK hP 0 rfl rfl 13 (by decide) (hw _ w_f_X11_41) (fun _ h9 => h9) rfl dX11_feed_79 ?_
  refine lv_aload_n hx hb dX11_feed_82 rfl (lv_at hl 2 rfl) ?_
  refine va_get (D := (dC, dI)) (ci := 8) (v := .int 1) (C := RX11) (T := TX11) (N := 71) hx hb hw iwX11 hown hK hP 0 rfl rfl 14 (by decide) (hw _ w_f_X11_38) (fun _ h9 => h9) rfl dX11_feed_83 ?_
  refine lv_iload hx hb dX11_feed_86 (lv_at hl 0 rfl) ?_
  refine lv_bipush (v := 24) hx hb dX11_feed_88 (by decide) ?_
  refine lv_bipush (v := 8) hx hb dX11_feed_90 (by decide) ?_
  refine lv_iload hx hb dX11_feed_92 (lv_at hl 1 rfl) ?_
  refine lv_iconst (v := 4) hx hb dX11_feed_94 (by decide) ?_
  refine lv_irem hx hb dX11_feed_95 (by decide) ?_
  refine lv_topi (fun z8 ez8 => ?_)
  obtain rfl : z8 = 1 := ez8.trans (by decide)
  refine lv_imul hx hb dX11_feed_96 ?_
  refine lv_topi (fun z9 ez9 => ?_)
  obtain rfl : z9 = 8 := ez9.trans (by decide)
  refine lv_isub hx hb dX11_feed_97 ?_
  refine lv_topi (fun z10 ez10 => ?_)
  obtain rfl : z10 = 16 := ez10.trans (by decide)
  refine lv_ishr hx hb dX11_feed_98 ?_
  refine lv_topi (fun z11 ez11 => ?_)
  refine lv_i2b (v := (z11).toInt8.toInt32) hx hb dX11_feed_99 rfl ?_
  refine va_bast hx hb hK hP hD hS 1 0 rfl rfl (i := 1) (x := (z11).toInt8.toInt32) (show ¬ _ from by decide) dX11_feed_100 (fun H locs hP hD hS => ?_)
  obtain ⟨f12, ef12⟩ : ∃ g : Nat → Int32, g = upd f6 (Int32.toNatClampNeg 1) (vp_nar .byte (z11).toInt8.toInt32) := ⟨_, rfl⟩
  have hP : va_P (dC, dI) cls [(h_mm, .inr (8, (.int 0 :: (v_mm 1) :: (v_mm 2) :: (v_mm 3) :: (v_mm 4) :: (v_mm 5) :: .int 0 :: .int 0 :: (v_mm 8) :: (v_mm 9) :: (v_mm 10) :: (v_mm 11) :: (v_mm 12) :: .ref h_tp :: .int 1 :: (v_mm 15) :: (v_mm 16) :: (v_mm 17) :: (v_mm 18) :: (v_mm 19) :: .int 0 :: .int 0 :: .int (-1) :: (v_mm 23) :: (v_mm 24) :: (v_mm 25) :: (v_mm 26) :: (v_mm 27) :: (v_mm 28) :: (v_mm 29) :: (v_mm 30) :: (v_mm 31) :: (v_mm 32) :: (v_mm 33) :: (v_mm 34) :: (v_mm 35) :: (v_mm 36) :: (v_mm 37) :: (v_mm 38) :: (v_mm 39) :: (v_mm 40) :: (v_mm 41) :: (v_mm 42) :: [(v_mm 43), (v_mm 44), (v_mm 45), (v_mm 46), (v_mm 47), (v_mm 48), (v_mm 49), (v_mm 50), .int 0, .int 0, .int 0, .int 0, (v_mm 55), .int 0, (v_mm 57), .int 0, (v_mm 59), .int 0, .int 0, (v_mm 62), .int 0, (v_mm 64), (v_mm 65), (v_mm 66), (v_mm 67), (v_mm 68), (v_mm 69), (v_mm 70)]))), (h_tp, .inl (cy_tp, 600, .inl f12))] H := by rw [ef12]; exact hP
  have hD : va_D A [(h_mm, .inr (8, (.int 0 :: (v_mm 1) :: (v_mm 2) :: (v_mm 3) :: (v_mm 4) :: (v_mm 5) :: .int 0 :: .int 0 :: (v_mm 8) :: (v_mm 9) :: (v_mm 10) :: (v_mm 11) :: (v_mm 12) :: .ref h_tp :: .int 1 :: (v_mm 15) :: (v_mm 16) :: (v_mm 17) :: (v_mm 18) :: (v_mm 19) :: .int 0 :: .int 0 :: .int (-1) :: (v_mm 23) :: (v_mm 24) :: (v_mm 25) :: (v_mm 26) :: (v_mm 27) :: (v_mm 28) :: (v_mm 29) :: (v_mm 30) :: (v_mm 31) :: (v_mm 32) :: (v_mm 33) :: (v_mm 34) :: (v_mm 35) :: (v_mm 36) :: (v_mm 37) :: (v_mm 38) :: (v_mm 39) :: (v_mm 40) :: (v_mm 41) :: (v_mm 42) :: [(v_mm 43), (v_mm 44), (v_mm 45), (v_mm 46), (v_mm 47), (v_mm 48), (v_mm 49), (v_mm 50), .int 0, .int 0, .int 0, .int 0, (v_mm 55), .int 0, (v_mm 57), .int 0, (v_mm 59), .int 0, .int 0, (v_mm 62), .int 0, (v_mm 64), (v_mm 65), (v_mm 66), (v_mm 67), (v_mm 68), (v_mm 69), (v_mm 70)]))), (h_tp, .inl (cy_tp, 600, .inl f12))] := by rw [ef12]; exact hD
  clear ef12
  refine lv_aload_n hx hb dX11_feed_101 rfl (lv_at hl 2 rfl) ?_
  refine lv_aload_n hx hb dX11_feed_102 rfl (lv_at hl 2 rfl) ?_
  refine va_get (D := (dC, dI)) (ci := 8) (v := .int 1) (C := RX11) (T := TX11) (N := 71) hx hb hw iwX11 hown hK hP 0 rfl rfl 14 (by decide) (hw _ w_f_X11_38) (fun _ h9 => h9) rfl dX11_feed_103 ?_
  refine lv_iconst (v := 1) hx hb dX11_feed_106 (by decide) ?_
  refine lv_iadd hx hb dX11_feed_107 ?_
  refine lv_topi (fun z13 ez13 => ?_)
  obtain rfl : z13 = 2 := ez13.trans (by decide)
  refine va_put (D := (dC, dI)) (ci := 8) (v := .int 2) (ty := tyX11 14) (C := RX11) (T := TX11) (N := 71) hx hb hw iwX11 tyX11 tyX11_ok nmX11 hown hK hP hD hS 0 rfl rfl 14 (by decide) (hw _ w_f_X11_38) (fun _ h9 => h9) rfl (tyX11_ok 14 (by decide)) rfl rfl (Nat.le_of_ble_eq_true rfl) dX11_feed_108 (fun H locs hP hD hS => ?_)
  have hP : va_P (dC, dI) cls [(h_mm, .inr (8, (.int 0 :: (v_mm 1) :: (v_mm 2) :: (v_mm 3) :: (v_mm 4) :: (v_mm 5) :: .int 0 :: .int 0 :: (v_mm 8) :: (v_mm 9) :: (v_mm 10) :: (v_mm 11) :: (v_mm 12) :: .ref h_tp :: .int 2 :: (v_mm 15) :: (v_mm 16) :: (v_mm 17) :: (v_mm 18) :: (v_mm 19) :: .int 0 :: .int 0 :: .int (-1) :: (v_mm 23) :: (v_mm 24) :: (v_mm 25) :: (v_mm 26) :: (v_mm 27) :: (v_mm 28) :: (v_mm 29) :: (v_mm 30) :: (v_mm 31) :: (v_mm 32) :: (v_mm 33) :: (v_mm 34) :: (v_mm 35) :: (v_mm 36) :: (v_mm 37) :: (v_mm 38) :: (v_mm 39) :: (v_mm 40) :: (v_mm 41) :: (v_mm 42) :: [(v_mm 43), (v_mm 44), (v_mm 45), (v_mm 46), (v_mm 47), (v_mm 48), (v_mm 49), (v_mm 50), .int 0, .int 0, .int 0, .int 0, (v_mm 55), .int 0, (v_mm 57), .int 0, (v_mm 59), .int 0, .int 0, (v_mm 62), .int 0, (v_mm 64), (v_mm 65), (v_mm 66), (v_mm 67), (v_mm 68), (v_mm 69), (v_mm 70)]))), (h_tp, .inl (cy_tp, 600, .inl f12))] H := hP
  have hD : va_D A [(h_mm, .inr (8, (.int 0 :: (v_mm 1) :: (v_mm 2) :: (v_mm 3) :: (v_mm 4) :: (v_mm 5) :: .int 0 :: .int 0 :: (v_mm 8) :: (v_mm 9) :: (v_mm 10) :: (v_mm 11) :: (v_mm 12) :: .ref h_tp :: .int 2 :: (v_mm 15) :: (v_mm 16) :: (v_mm 17) :: (v_mm 18) :: (v_mm 19) :: .int 0 :: .int 0 :: .int (-1) :: (v_mm 23) :: (v_mm 24) :: (v_mm 25) :: (v_mm 26) :: (v_mm 27) :: (v_mm 28) :: (v_mm 29) :: (v_mm 30) :: (v_mm 31) :: (v_mm 32) :: (v_mm 33) :: (v_mm 34) :: (v_mm 35) :: (v_mm 36) :: (v_mm 37) :: (v_mm 38) :: (v_mm 39) :: (v_mm 40) :: (v_mm 41) :: (v_mm 42) :: [(v_mm 43), (v_mm 44), (v_mm 45), (v_mm 46), (v_mm 47), (v_mm 48), (v_mm 49), (v_mm 50), .int 0, .int 0, .int 0, .int 0, (v_mm 55), .int 0, (v_mm 57), .int 0, (v_mm 59), .int 0, .int 0, (v_mm 62), .int 0, (v_mm 64), (v_mm 65), (v_mm 66), (v_mm 67), (v_mm 68), (v_mm 69), (v_mm 70)]))), (h_tp, .inl (cy_tp, 600, .inl f12))] := hD
  refine lv_iinc (v := 2) (lv' := [(6, .int 2), (7, .int p1), (0, .ref h_mm), (1, .int p1), (2, .int p2), (3, .int p3), (4, .int p4), (5, .int p5)]) hx hb dX11_feed_111 hl (k := 1) rfl (by decide) (by decide) rfl (fun ls hl => ?_)
  refine lv_goto (tgt := 23) hx hb dX11_feed_114 (by decide) ?_
  refine lv_iload hx hb dX11_feed_23 (lv_at hl 0 rfl) ?_
  refine lv_bipush (v := 20) hx hb dX11_feed_25 (by decide) ?_
  refine lv_icmp_ge (tgt := 117) hx hb dX11_feed_27 (by decide) (fun c9 => absurd c9 (by decide)) (fun _ => ?_)
  refine lv_iload hx hb dX11_feed_30 (lv_at hl 0 rfl) ?_
  refine lv_iconst (v := 4) hx hb dX11_feed_32 (by decide) ?_
  refine lv_icmp_ge (tgt := 40) hx hb dX11_feed_33 (by decide) (fun c9 => absurd c9 (by decide)) (fun _ => ?_)
  refine lv_iload_n hx hb dX11_feed_36 rfl (lv_at hl 3 rfl) ?_
  refine lv_goto (tgt := 76) hx hb dX11_feed_37 (by decide) ?_
  refine lv_istore (lv' := [(7, .int p1), (6, .int 2), (0, .ref h_mm), (1, .int p1), (2, .int p2), (3, .int p3), (4, .int p4), (5, .int p5)]) hx hb dX11_feed_76 hl (by decide) rfl (fun ls hl => ?_)
  refine lv_aload_n hx hb dX11_feed_78 rfl (lv_at hl 2 rfl) ?_
  refine va_get (D := (dC, dI)) (ci := 8) (v := .ref h_tp) (C := RX11) (T := TX11) (N := 71) hx hb hw iwX11 hown hK hP 0 rfl rfl 13 (by decide) (hw _ w_f_X11_41) (fun _ h9 => h9) rfl dX11_feed_79 ?_
  refine lv_aload_n hx hb dX11_feed_82 rfl (lv_at hl 2 rfl) ?_
  refine va_get (D := (dC, dI)) (ci := 8) (v := .int 2) (C := RX11) (T := TX11) (N := 71) hx hb hw iwX11 hown hK hP 0 rfl rfl 14 (by decide) (hw _ w_f_X11_38) (fun _ h9 => h9) rfl dX11_feed_83 ?_
  refine lv_iload hx hb dX11_feed_86 (lv_at hl 0 rfl) ?_
  refine lv_bipush (v := 24) hx hb dX11_feed_88 (by decide) ?_
  refine lv_bipush (v := 8) hx hb dX11_feed_90 (by decide) ?_
  refine lv_iload hx hb dX11_feed_92 (lv_at hl 1 rfl) ?_
  refine lv_iconst (v := 4) hx hb dX11_feed_94 (by decide) ?_
  refine lv_irem hx hb dX11_feed_95 (by decide) ?_
  refine lv_topi (fun z14 ez14 => ?_)
  obtain rfl : z14 = 2 := ez14.trans (by decide)
  refine lv_imul hx hb dX11_feed_96 ?_
  refine lv_topi (fun z15 ez15 => ?_)
  obtain rfl : z15 = 16 := ez15.trans (by decide)
  refine lv_isub hx hb dX11_feed_97 ?_
  refine lv_topi (fun z16 ez16 => ?_)
  obtain rfl : z16 = 8 := ez16.trans (by decide)
  refine lv_ishr hx hb dX11_feed_98 ?_
  refine lv_topi (fun z17 ez17 => ?_)
  refine lv_i2b (v := (z17).toInt8.toInt32) hx hb dX11_feed_99 rfl ?_
  refine va_bast hx hb hK hP hD hS 1 0 rfl rfl (i := 2) (x := (z17).toInt8.toInt32) (show ¬ _ from by decide) dX11_feed_100 (fun H locs hP hD hS => ?_)
  obtain ⟨f18, ef18⟩ : ∃ g : Nat → Int32, g = upd f12 (Int32.toNatClampNeg 2) (vp_nar .byte (z17).toInt8.toInt32) := ⟨_, rfl⟩
  have hP : va_P (dC, dI) cls [(h_mm, .inr (8, (.int 0 :: (v_mm 1) :: (v_mm 2) :: (v_mm 3) :: (v_mm 4) :: (v_mm 5) :: .int 0 :: .int 0 :: (v_mm 8) :: (v_mm 9) :: (v_mm 10) :: (v_mm 11) :: (v_mm 12) :: .ref h_tp :: .int 2 :: (v_mm 15) :: (v_mm 16) :: (v_mm 17) :: (v_mm 18) :: (v_mm 19) :: .int 0 :: .int 0 :: .int (-1) :: (v_mm 23) :: (v_mm 24) :: (v_mm 25) :: (v_mm 26) :: (v_mm 27) :: (v_mm 28) :: (v_mm 29) :: (v_mm 30) :: (v_mm 31) :: (v_mm 32) :: (v_mm 33) :: (v_mm 34) :: (v_mm 35) :: (v_mm 36) :: (v_mm 37) :: (v_mm 38) :: (v_mm 39) :: (v_mm 40) :: (v_mm 41) :: (v_mm 42) :: [(v_mm 43), (v_mm 44), (v_mm 45), (v_mm 46), (v_mm 47), (v_mm 48), (v_mm 49), (v_mm 50), .int 0, .int 0, .int 0, .int 0, (v_mm 55), .int 0, (v_mm 57), .int 0, (v_mm 59), .int 0, .int 0, (v_mm 62), .int 0, (v_mm 64), (v_mm 65), (v_mm 66), (v_mm 67), (v_mm 68), (v_mm 69), (v_mm 70)]))), (h_tp, .inl (cy_tp, 600, .inl f18))] H := by rw [ef18]; exact hP
  have hD : va_D A [(h_mm, .inr (8, (.int 0 :: (v_mm 1) :: (v_mm 2) :: (v_mm 3) :: (v_mm 4) :: (v_mm 5) :: .int 0 :: .int 0 :: (v_mm 8) :: (v_mm 9) :: (v_mm 10) :: (v_mm 11) :: (v_mm 12) :: .ref h_tp :: .int 2 :: (v_mm 15) :: (v_mm 16) :: (v_mm 17) :: (v_mm 18) :: (v_mm 19) :: .int 0 :: .int 0 :: .int (-1) :: (v_mm 23) :: (v_mm 24) :: (v_mm 25) :: (v_mm 26) :: (v_mm 27) :: (v_mm 28) :: (v_mm 29) :: (v_mm 30) :: (v_mm 31) :: (v_mm 32) :: (v_mm 33) :: (v_mm 34) :: (v_mm 35) :: (v_mm 36) :: (v_mm 37) :: (v_mm 38) :: (v_mm 39) :: (v_mm 40) :: (v_mm 41) :: (v_mm 42) :: [(v_mm 43), (v_mm 44), (v_mm 45), (v_mm 46), (v_mm 47), (v_mm 48), (v_mm 49), (v_mm 50), .int 0, .int 0, .int 0, .int 0, (v_mm 55), .int 0, (v_mm 57), .int 0, (v_mm 59), .int 0, .int 0, (v_mm 62), .int 0, (v_mm 64), (v_mm 65), (v_mm 66), (v_mm 67), (v_mm 68), (v_mm 69), (v_mm 70)]))), (h_tp, .inl (cy_tp, 600, .inl f18))] := by rw [ef18]; exact hD
  clear ef18
  refine lv_aload_n hx hb dX11_feed_101 rfl (lv_at hl 2 rfl) ?_
  refine lv_aload_n hx hb dX11_feed_102 rfl (lv_at hl 2 rfl) ?_
  refine va_get (D := (dC, dI)) (ci := 8) (v := .int 2) (C := RX11) (T := TX11) (N := 71) hx hb hw iwX11 hown hK hP 0 rfl rfl 14 (by decide) (hw _ w_f_X11_38) (fun _ h9 => h9) rfl dX11_feed_103 ?_
  refine lv_iconst (v := 1) hx hb dX11_feed_106 (by decide) ?_
  refine lv_iadd hx hb dX11_feed_107 ?_
  refine lv_topi (fun z19 ez19 => ?_)
  obtain rfl : z19 = 3 := ez19.trans (by decide)
  refine va_put (D := (dC, dI)) (ci := 8) (v := .int 3) (ty := tyX11 14) (C := RX11) (T := TX11) (N := 71) hx hb hw iwX11 tyX11 tyX11_ok nmX11 hown hK hP hD hS 0 rfl rfl 14 (by decide) (hw _ w_f_X11_38) (fun _ h9 => h9) rfl (tyX11_ok 14 (by decide)) rfl rfl (Nat.le_of_ble_eq_true rfl) dX11_feed_108 (fun H locs hP hD hS => ?_)
  have hP : va_P (dC, dI) cls [(h_mm, .inr (8, (.int 0 :: (v_mm 1) :: (v_mm 2) :: (v_mm 3) :: (v_mm 4) :: (v_mm 5) :: .int 0 :: .int 0 :: (v_mm 8) :: (v_mm 9) :: (v_mm 10) :: (v_mm 11) :: (v_mm 12) :: .ref h_tp :: .int 3 :: (v_mm 15) :: (v_mm 16) :: (v_mm 17) :: (v_mm 18) :: (v_mm 19) :: .int 0 :: .int 0 :: .int (-1) :: (v_mm 23) :: (v_mm 24) :: (v_mm 25) :: (v_mm 26) :: (v_mm 27) :: (v_mm 28) :: (v_mm 29) :: (v_mm 30) :: (v_mm 31) :: (v_mm 32) :: (v_mm 33) :: (v_mm 34) :: (v_mm 35) :: (v_mm 36) :: (v_mm 37) :: (v_mm 38) :: (v_mm 39) :: (v_mm 40) :: (v_mm 41) :: (v_mm 42) :: [(v_mm 43), (v_mm 44), (v_mm 45), (v_mm 46), (v_mm 47), (v_mm 48), (v_mm 49), (v_mm 50), .int 0, .int 0, .int 0, .int 0, (v_mm 55), .int 0, (v_mm 57), .int 0, (v_mm 59), .int 0, .int 0, (v_mm 62), .int 0, (v_mm 64), (v_mm 65), (v_mm 66), (v_mm 67), (v_mm 68), (v_mm 69), (v_mm 70)]))), (h_tp, .inl (cy_tp, 600, .inl f18))] H := hP
  have hD : va_D A [(h_mm, .inr (8, (.int 0 :: (v_mm 1) :: (v_mm 2) :: (v_mm 3) :: (v_mm 4) :: (v_mm 5) :: .int 0 :: .int 0 :: (v_mm 8) :: (v_mm 9) :: (v_mm 10) :: (v_mm 11) :: (v_mm 12) :: .ref h_tp :: .int 3 :: (v_mm 15) :: (v_mm 16) :: (v_mm 17) :: (v_mm 18) :: (v_mm 19) :: .int 0 :: .int 0 :: .int (-1) :: (v_mm 23) :: (v_mm 24) :: (v_mm 25) :: (v_mm 26) :: (v_mm 27) :: (v_mm 28) :: (v_mm 29) :: (v_mm 30) :: (v_mm 31) :: (v_mm 32) :: (v_mm 33) :: (v_mm 34) :: (v_mm 35) :: (v_mm 36) :: (v_mm 37) :: (v_mm 38) :: (v_mm 39) :: (v_mm 40) :: (v_mm 41) :: (v_mm 42) :: [(v_mm 43), (v_mm 44), (v_mm 45), (v_mm 46), (v_mm 47), (v_mm 48), (v_mm 49), (v_mm 50), .int 0, .int 0, .int 0, .int 0, (v_mm 55), .int 0, (v_mm 57), .int 0, (v_mm 59), .int 0, .int 0, (v_mm 62), .int 0, (v_mm 64), (v_mm 65), (v_mm 66), (v_mm 67), (v_mm 68), (v_mm 69), (v_mm 70)]))), (h_tp, .inl (cy_tp, 600, .inl f18))] := hD
  refine lv_iinc (v := 3) (lv' := [(6, .int 3), (7, .int p1), (0, .ref h_mm), (1, .int p1), (2, .int p2), (3, .int p3), (4, .int p4), (5, .int p5)]) hx hb dX11_feed_111 hl (k := 1) rfl (by decide) (by decide) rfl (fun ls hl => ?_)
  refine lv_goto (tgt := 23) hx hb dX11_feed_114 (by decide) ?_
  refine lv_iload hx hb dX11_feed_23 (lv_at hl 0 rfl) ?_
  refine lv_bipush (v := 20) hx hb dX11_feed_25 (by decide) ?_
  refine lv_icmp_ge (tgt := 117) hx hb dX11_feed_27 (by decide) (fun c9 => absurd c9 (by decide)) (fun _ => ?_)
  refine lv_iload hx hb dX11_feed_30 (lv_at hl 0 rfl) ?_
  refine lv_iconst (v := 4) hx hb dX11_feed_32 (by decide) ?_
  refine lv_icmp_ge (tgt := 40) hx hb dX11_feed_33 (by decide) (fun c9 => absurd c9 (by decide)) (fun _ => ?_)
  refine lv_iload_n hx hb dX11_feed_36 rfl (lv_at hl 3 rfl) ?_
  refine lv_goto (tgt := 76) hx hb dX11_feed_37 (by decide) ?_
  refine lv_istore (lv' := [(7, .int p1), (6, .int 3), (0, .ref h_mm), (1, .int p1), (2, .int p2), (3, .int p3), (4, .int p4), (5, .int p5)]) hx hb dX11_feed_76 hl (by decide) rfl (fun ls hl => ?_)
  refine lv_aload_n hx hb dX11_feed_78 rfl (lv_at hl 2 rfl) ?_
  refine va_get (D := (dC, dI)) (ci := 8) (v := .ref h_tp) (C := RX11) (T := TX11) (N := 71) hx hb hw iwX11 hown hK hP 0 rfl rfl 13 (by decide) (hw _ w_f_X11_41) (fun _ h9 => h9) rfl dX11_feed_79 ?_
  refine lv_aload_n hx hb dX11_feed_82 rfl (lv_at hl 2 rfl) ?_
  refine va_get (D := (dC, dI)) (ci := 8) (v := .int 3) (C := RX11) (T := TX11) (N := 71) hx hb hw iwX11 hown hK hP 0 rfl rfl 14 (by decide) (hw _ w_f_X11_38) (fun _ h9 => h9) rfl dX11_feed_83 ?_
  refine lv_iload hx hb dX11_feed_86 (lv_at hl 0 rfl) ?_
  refine lv_bipush (v := 24) hx hb dX11_feed_88 (by decide) ?_
  refine lv_bipush (v := 8) hx hb dX11_feed_90 (by decide) ?_
  refine lv_iload hx hb dX11_feed_92 (lv_at hl 1 rfl) ?_
  refine lv_iconst (v := 4) hx hb dX11_feed_94 (by decide) ?_
  refine lv_irem hx hb dX11_feed_95 (by decide) ?_
  refine lv_topi (fun z20 ez20 => ?_)
  obtain rfl : z20 = 3 := ez20.trans (by decide)
  refine lv_imul hx hb dX11_feed_96 ?_
  refine lv_topi (fun z21 ez21 => ?_)
  obtain rfl : z21 = 24 := ez21.trans (by decide)
  refine lv_isub hx hb dX11_feed_97 ?_
  refine lv_topi (fun z22 ez22 => ?_)
  obtain rfl : z22 = 0 := ez22.trans (by decide)
  refine lv_ishr hx hb dX11_feed_98 ?_
  refine lv_topi (fun z23 ez23 => ?_)
  refine lv_i2b (v := (z23).toInt8.toInt32) hx hb dX11_feed_99 rfl ?_
  refine va_bast hx hb hK hP hD hS 1 0 rfl rfl (i := 3) (x := (z23).toInt8.toInt32) (show ¬ _ from by decide) dX11_feed_100 (fun H locs hP hD hS => ?_)
  obtain ⟨f24, ef24⟩ : ∃ g : Nat → Int32, g = upd f18 (Int32.toNatClampNeg 3) (vp_nar .byte (z23).toInt8.toInt32) := ⟨_, rfl⟩
  have hP : va_P (dC, dI) cls [(h_mm, .inr (8, (.int 0 :: (v_mm 1) :: (v_mm 2) :: (v_mm 3) :: (v_mm 4) :: (v_mm 5) :: .int 0 :: .int 0 :: (v_mm 8) :: (v_mm 9) :: (v_mm 10) :: (v_mm 11) :: (v_mm 12) :: .ref h_tp :: .int 3 :: (v_mm 15) :: (v_mm 16) :: (v_mm 17) :: (v_mm 18) :: (v_mm 19) :: .int 0 :: .int 0 :: .int (-1) :: (v_mm 23) :: (v_mm 24) :: (v_mm 25) :: (v_mm 26) :: (v_mm 27) :: (v_mm 28) :: (v_mm 29) :: (v_mm 30) :: (v_mm 31) :: (v_mm 32) :: (v_mm 33) :: (v_mm 34) :: (v_mm 35) :: (v_mm 36) :: (v_mm 37) :: (v_mm 38) :: (v_mm 39) :: (v_mm 40) :: (v_mm 41) :: (v_mm 42) :: [(v_mm 43), (v_mm 44), (v_mm 45), (v_mm 46), (v_mm 47), (v_mm 48), (v_mm 49), (v_mm 50), .int 0, .int 0, .int 0, .int 0, (v_mm 55), .int 0, (v_mm 57), .int 0, (v_mm 59), .int 0, .int 0, (v_mm 62), .int 0, (v_mm 64), (v_mm 65), (v_mm 66), (v_mm 67), (v_mm 68), (v_mm 69), (v_mm 70)]))), (h_tp, .inl (cy_tp, 600, .inl f24))] H := by rw [ef24]; exact hP
  have hD : va_D A [(h_mm, .inr (8, (.int 0 :: (v_mm 1) :: (v_mm 2) :: (v_mm 3) :: (v_mm 4) :: (v_mm 5) :: .int 0 :: .int 0 :: (v_mm 8) :: (v_mm 9) :: (v_mm 10) :: (v_mm 11) :: (v_mm 12) :: .ref h_tp :: .int 3 :: (v_mm 15) :: (v_mm 16) :: (v_mm 17) :: (v_mm 18) :: (v_mm 19) :: .int 0 :: .int 0 :: .int (-1) :: (v_mm 23) :: (v_mm 24) :: (v_mm 25) :: (v_mm 26) :: (v_mm 27) :: (v_mm 28) :: (v_mm 29) :: (v_mm 30) :: (v_mm 31) :: (v_mm 32) :: (v_mm 33) :: (v_mm 34) :: (v_mm 35) :: (v_mm 36) :: (v_mm 37) :: (v_mm 38) :: (v_mm 39) :: (v_mm 40) :: (v_mm 41) :: (v_mm 42) :: [(v_mm 43), (v_mm 44), (v_mm 45), (v_mm 46), (v_mm 47), (v_mm 48), (v_mm 49), (v_mm 50), .int 0, .int 0, .int 0, .int 0, (v_mm 55), .int 0, (v_mm 57), .int 0, (v_mm 59), .int 0, .int 0, (v_mm 62), .int 0, (v_mm 64), (v_mm 65), (v_mm 66), (v_mm 67), (v_mm 68), (v_mm 69), (v_mm 70)]))), (h_tp, .inl (cy_tp, 600, .inl f24))] := by rw [ef24]; exact hD
  clear ef24
  refine lv_aload_n hx hb dX11_feed_101 rfl (lv_at hl 2 rfl) ?_
  refine lv_aload_n hx hb dX11_feed_102 rfl (lv_at hl 2 rfl) ?_
  refine va_get (D := (dC, dI)) (ci := 8) (v := .int 3) (C := RX11) (T := TX11) (N := 71) hx hb hw iwX11 hown hK hP 0 rfl rfl 14 (by decide) (hw _ w_f_X11_38) (fun _ h9 => h9) rfl dX11_feed_103 ?_
  refine lv_iconst (v := 1) hx hb dX11_feed_106 (by decide) ?_
  refine lv_iadd hx hb dX11_feed_107 ?_
  refine lv_topi (fun z25 ez25 => ?_)
  obtain rfl : z25 = 4 := ez25.trans (by decide)
  refine va_put (D := (dC, dI)) (ci := 8) (v := .int 4) (ty := tyX11 14) (C := RX11) (T := TX11) (N := 71) hx hb hw iwX11 tyX11 tyX11_ok nmX11 hown hK hP hD hS 0 rfl rfl 14 (by decide) (hw _ w_f_X11_38) (fun _ h9 => h9) rfl (tyX11_ok 14 (by decide)) rfl rfl (Nat.le_of_ble_eq_true rfl) dX11_feed_108 (fun H locs hP hD hS => ?_)
  have hP : va_P (dC, dI) cls [(h_mm, .inr (8, (.int 0 :: (v_mm 1) :: (v_mm 2) :: (v_mm 3) :: (v_mm 4) :: (v_mm 5) :: .int 0 :: .int 0 :: (v_mm 8) :: (v_mm 9) :: (v_mm 10) :: (v_mm 11) :: (v_mm 12) :: .ref h_tp :: .int 4 :: (v_mm 15) :: (v_mm 16) :: (v_mm 17) :: (v_mm 18) :: (v_mm 19) :: .int 0 :: .int 0 :: .int (-1) :: (v_mm 23) :: (v_mm 24) :: (v_mm 25) :: (v_mm 26) :: (v_mm 27) :: (v_mm 28) :: (v_mm 29) :: (v_mm 30) :: (v_mm 31) :: (v_mm 32) :: (v_mm 33) :: (v_mm 34) :: (v_mm 35) :: (v_mm 36) :: (v_mm 37) :: (v_mm 38) :: (v_mm 39) :: (v_mm 40) :: (v_mm 41) :: (v_mm 42) :: [(v_mm 43), (v_mm 44), (v_mm 45), (v_mm 46), (v_mm 47), (v_mm 48), (v_mm 49), (v_mm 50), .int 0, .int 0, .int 0, .int 0, (v_mm 55), .int 0, (v_mm 57), .int 0, (v_mm 59), .int 0, .int 0, (v_mm 62), .int 0, (v_mm 64), (v_mm 65), (v_mm 66), (v_mm 67), (v_mm 68), (v_mm 69), (v_mm 70)]))), (h_tp, .inl (cy_tp, 600, .inl f24))] H := hP
  have hD : va_D A [(h_mm, .inr (8, (.int 0 :: (v_mm 1) :: (v_mm 2) :: (v_mm 3) :: (v_mm 4) :: (v_mm 5) :: .int 0 :: .int 0 :: (v_mm 8) :: (v_mm 9) :: (v_mm 10) :: (v_mm 11) :: (v_mm 12) :: .ref h_tp :: .int 4 :: (v_mm 15) :: (v_mm 16) :: (v_mm 17) :: (v_mm 18) :: (v_mm 19) :: .int 0 :: .int 0 :: .int (-1) :: (v_mm 23) :: (v_mm 24) :: (v_mm 25) :: (v_mm 26) :: (v_mm 27) :: (v_mm 28) :: (v_mm 29) :: (v_mm 30) :: (v_mm 31) :: (v_mm 32) :: (v_mm 33) :: (v_mm 34) :: (v_mm 35) :: (v_mm 36) :: (v_mm 37) :: (v_mm 38) :: (v_mm 39) :: (v_mm 40) :: (v_mm 41) :: (v_mm 42) :: [(v_mm 43), (v_mm 44), (v_mm 45), (v_mm 46), (v_mm 47), (v_mm 48), (v_mm 49), (v_mm 50), .int 0, .int 0, .int 0, .int 0, (v_mm 55), .int 0, (v_mm 57), .int 0, (v_mm 59), .int 0, .int 0, (v_mm 62), .int 0, (v_mm 64), (v_mm 65), (v_mm 66), (v_mm 67), (v_mm 68), (v_mm 69), (v_mm 70)]))), (h_tp, .inl (cy_tp, 600, .inl f24))] := hD
  refine lv_iinc (v := 4) (lv' := [(6, .int 4), (7, .int p1), (0, .ref h_mm), (1, .int p1), (2, .int p2), (3, .int p3), (4, .int p4), (5, .int p5)]) hx hb dX11_feed_111 hl (k := 1) rfl (by decide) (by decide) rfl (fun ls hl => ?_)
  refine lv_goto (tgt := 23) hx hb dX11_feed_114 (by decide) ?_
  refine lv_iload hx hb dX11_feed_23 (lv_at hl 0 rfl) ?_
  refine lv_bipush (v := 20) hx hb dX11_feed_25 (by decide) ?_
  refine lv_icmp_ge (tgt := 117) hx hb dX11_feed_27 (by decide) (fun c9 => absurd c9 (by decide)) (fun _ => ?_)
  refine lv_iload hx hb dX11_feed_30 (lv_at hl 0 rfl) ?_
  refine lv_iconst (v := 4) hx hb dX11_feed_32 (by decide) ?_
  refine lv_icmp_ge (tgt := 40) hx hb dX11_feed_33 (by decide) (fun _ => ?_) (fun c9 => absurd c9 (by decide))
  refine lv_iload hx hb dX11_feed_40 (lv_at hl 0 rfl) ?_
  refine lv_bipush (v := 8) hx hb dX11_feed_42 (by decide) ?_
  refine lv_icmp_ge (tgt := 51) hx hb dX11_feed_44 (by decide) (fun c9 => absurd c9 (by decide)) (fun _ => ?_)
  refine lv_iload_n hx hb dX11_feed_47 rfl (lv_at hl 4 rfl) ?_
  refine lv_goto (tgt := 76) hx hb dX11_feed_48 (by decide) ?_
  refine lv_istore (lv' := [(7, .int p2), (6, .int 4), (0, .ref h_mm), (1, .int p1), (2, .int p2), (3, .int p3), (4, .int p4), (5, .int p5)]) hx hb dX11_feed_76 hl (by decide) rfl (fun ls hl => ?_)
  refine lv_aload_n hx hb dX11_feed_78 rfl (lv_at hl 2 rfl) ?_
  refine va_get (D := (dC, dI)) (ci := 8) (v := .ref h_tp) (C := RX11) (T := TX11) (N := 71) hx hb hw iwX11 hown hK hP 0 rfl rfl 13 (by decide) (hw _ w_f_X11_41) (fun _ h9 => h9) rfl dX11_feed_79 ?_
  refine lv_aload_n hx hb dX11_feed_82 rfl (lv_at hl 2 rfl) ?_
  refine va_get (D := (dC, dI)) (ci := 8) (v := .int 4) (C := RX11) (T := TX11) (N := 71) hx hb hw iwX11 hown hK hP 0 rfl rfl 14 (by decide) (hw _ w_f_X11_38) (fun _ h9 => h9) rfl dX11_feed_83 ?_
  refine lv_iload hx hb dX11_feed_86 (lv_at hl 0 rfl) ?_
  refine lv_bipush (v := 24) hx hb dX11_feed_88 (by decide) ?_
  refine lv_bipush (v := 8) hx hb dX11_feed_90 (by decide) ?_
  refine lv_iload hx hb dX11_feed_92 (lv_at hl 1 rfl) ?_
  refine lv_iconst (v := 4) hx hb dX11_feed_94 (by decide) ?_
  refine lv_irem hx hb dX11_feed_95 (by decide) ?_
  refine lv_topi (fun z26 ez26 => ?_)
  obtain rfl : z26 = 0 := ez26.trans (by decide)
  refine lv_imul hx hb dX11_feed_96 ?_
  refine lv_topi (fun z27 ez27 => ?_)
  obtain rfl : z27 = 0 := ez27.trans (by decide)
  refine lv_isub hx hb dX11_feed_97 ?_
  refine lv_topi (fun z28 ez28 => ?_)
  obtain rfl : z28 = 24 := ez28.trans (by decide)
  refine lv_ishr hx hb dX11_feed_98 ?_
  refine lv_topi (fun z29 ez29 => ?_)
  refine lv_i2b (v := (z29).toInt8.toInt32) hx hb dX11_feed_99 rfl ?_
  refine va_bast hx hb hK hP hD hS 1 0 rfl rfl (i := 4) (x := (z29).toInt8.toInt32) (show ¬ _ from by decide) dX11_feed_100 (fun H locs hP hD hS => ?_)
  obtain ⟨f30, ef30⟩ : ∃ g : Nat → Int32, g = upd f24 (Int32.toNatClampNeg 4) (vp_nar .byte (z29).toInt8.toInt32) := ⟨_, rfl⟩
  have hP : va_P (dC, dI) cls [(h_mm, .inr (8, (.int 0 :: (v_mm 1) :: (v_mm 2) :: (v_mm 3) :: (v_mm 4) :: (v_mm 5) :: .int 0 :: .int 0 :: (v_mm 8) :: (v_mm 9) :: (v_mm 10) :: (v_mm 11) :: (v_mm 12) :: .ref h_tp :: .int 4 :: (v_mm 15) :: (v_mm 16) :: (v_mm 17) :: (v_mm 18) :: (v_mm 19) :: .int 0 :: .int 0 :: .int (-1) :: (v_mm 23) :: (v_mm 24) :: (v_mm 25) :: (v_mm 26) :: (v_mm 27) :: (v_mm 28) :: (v_mm 29) :: (v_mm 30) :: (v_mm 31) :: (v_mm 32) :: (v_mm 33) :: (v_mm 34) :: (v_mm 35) :: (v_mm 36) :: (v_mm 37) :: (v_mm 38) :: (v_mm 39) :: (v_mm 40) :: (v_mm 41) :: (v_mm 42) :: [(v_mm 43), (v_mm 44), (v_mm 45), (v_mm 46), (v_mm 47), (v_mm 48), (v_mm 49), (v_mm 50), .int 0, .int 0, .int 0, .int 0, (v_mm 55), .int 0, (v_mm 57), .int 0, (v_mm 59), .int 0, .int 0, (v_mm 62), .int 0, (v_mm 64), (v_mm 65), (v_mm 66), (v_mm 67), (v_mm 68), (v_mm 69), (v_mm 70)]))), (h_tp, .inl (cy_tp, 600, .inl f30))] H := by rw [ef30]; exact hP
  have hD : va_D A [(h_mm, .inr (8, (.int 0 :: (v_mm 1) :: (v_mm 2) :: (v_mm 3) :: (v_mm 4) :: (v_mm 5) :: .int 0 :: .int 0 :: (v_mm 8) :: (v_mm 9) :: (v_mm 10) :: (v_mm 11) :: (v_mm 12) :: .ref h_tp :: .int 4 :: (v_mm 15) :: (v_mm 16) :: (v_mm 17) :: (v_mm 18) :: (v_mm 19) :: .int 0 :: .int 0 :: .int (-1) :: (v_mm 23) :: (v_mm 24) :: (v_mm 25) :: (v_mm 26) :: (v_mm 27) :: (v_mm 28) :: (v_mm 29) :: (v_mm 30) :: (v_mm 31) :: (v_mm 32) :: (v_mm 33) :: (v_mm 34) :: (v_mm 35) :: (v_mm 36) :: (v_mm 37) :: (v_mm 38) :: (v_mm 39) :: (v_mm 40) :: (v_mm 41) :: (v_mm 42) :: [(v_mm 43), (v_mm 44), (v_mm 45), (v_mm 46), (v_mm 47), (v_mm 48), (v_mm 49), (v_mm 50), .int 0, .int 0, .int 0, .int 0, (v_mm 55), .int 0, (v_mm 57), .int 0, (v_mm 59), .int 0, .int 0, (v_mm 62), .int 0, (v_mm 64), (v_mm 65), (v_mm 66), (v_mm 67), (v_mm 68), (v_mm 69), (v_mm 70)]))), (h_tp, .inl (cy_tp, 600, .inl f30))] := by rw [ef30]; exact hD
  clear ef30
  refine lv_aload_n hx hb dX11_feed_101 rfl (lv_at hl 2 rfl) ?_
  refine lv_aload_n hx hb dX11_feed_102 rfl (lv_at hl 2 rfl) ?_
  refine va_get (D := (dC, dI)) (ci := 8) (v := .int 4) (C := RX11) (T := TX11) (N := 71) hx hb hw iwX11 hown hK hP 0 rfl rfl 14 (by decide) (hw _ w_f_X11_38) (fun _ h9 => h9) rfl dX11_feed_103 ?_
  refine lv_iconst (v := 1) hx hb dX11_feed_106 (by decide) ?_
  refine lv_iadd hx hb dX11_feed_107 ?_
  refine lv_topi (fun z31 ez31 => ?_)
  obtain rfl : z31 = 5 := ez31.trans (by decide)
  refine va_put (D := (dC, dI)) (ci := 8) (v := .int 5) (ty := tyX11 14) (C := RX11) (T := TX11) (N := 71) hx hb hw iwX11 tyX11 tyX11_ok nmX11 hown hK hP hD hS 0 rfl rfl 14 (by decide) (hw _ w_f_X11_38) (fun _ h9 => h9) rfl (tyX11_ok 14 (by decide)) rfl rfl (Nat.le_of_ble_eq_true rfl) dX11_feed_108 (fun H locs hP hD hS => ?_)
  have hP : va_P (dC, dI) cls [(h_mm, .inr (8, (.int 0 :: (v_mm 1) :: (v_mm 2) :: (v_mm 3) :: (v_mm 4) :: (v_mm 5) :: .int 0 :: .int 0 :: (v_mm 8) :: (v_mm 9) :: (v_mm 10) :: (v_mm 11) :: (v_mm 12) :: .ref h_tp :: .int 5 :: (v_mm 15) :: (v_mm 16) :: (v_mm 17) :: (v_mm 18) :: (v_mm 19) :: .int 0 :: .int 0 :: .int (-1) :: (v_mm 23) :: (v_mm 24) :: (v_mm 25) :: (v_mm 26) :: (v_mm 27) :: (v_mm 28) :: (v_mm 29) :: (v_mm 30) :: (v_mm 31) :: (v_mm 32) :: (v_mm 33) :: (v_mm 34) :: (v_mm 35) :: (v_mm 36) :: (v_mm 37) :: (v_mm 38) :: (v_mm 39) :: (v_mm 40) :: (v_mm 41) :: (v_mm 42) :: [(v_mm 43), (v_mm 44), (v_mm 45), (v_mm 46), (v_mm 47), (v_mm 48), (v_mm 49), (v_mm 50), .int 0, .int 0, .int 0, .int 0, (v_mm 55), .int 0, (v_mm 57), .int 0, (v_mm 59), .int 0, .int 0, (v_mm 62), .int 0, (v_mm 64), (v_mm 65), (v_mm 66), (v_mm 67), (v_mm 68), (v_mm 69), (v_mm 70)]))), (h_tp, .inl (cy_tp, 600, .inl f30))] H := hP
  have hD : va_D A [(h_mm, .inr (8, (.int 0 :: (v_mm 1) :: (v_mm 2) :: (v_mm 3) :: (v_mm 4) :: (v_mm 5) :: .int 0 :: .int 0 :: (v_mm 8) :: (v_mm 9) :: (v_mm 10) :: (v_mm 11) :: (v_mm 12) :: .ref h_tp :: .int 5 :: (v_mm 15) :: (v_mm 16) :: (v_mm 17) :: (v_mm 18) :: (v_mm 19) :: .int 0 :: .int 0 :: .int (-1) :: (v_mm 23) :: (v_mm 24) :: (v_mm 25) :: (v_mm 26) :: (v_mm 27) :: (v_mm 28) :: (v_mm 29) :: (v_mm 30) :: (v_mm 31) :: (v_mm 32) :: (v_mm 33) :: (v_mm 34) :: (v_mm 35) :: (v_mm 36) :: (v_mm 37) :: (v_mm 38) :: (v_mm 39) :: (v_mm 40) :: (v_mm 41) :: (v_mm 42) :: [(v_mm 43), (v_mm 44), (v_mm 45), (v_mm 46), (v_mm 47), (v_mm 48), (v_mm 49), (v_mm 50), .int 0, .int 0, .int 0, .int 0, (v_mm 55), .int 0, (v_mm 57), .int 0, (v_mm 59), .int 0, .int 0, (v_mm 62), .int 0, (v_mm 64), (v_mm 65), (v_mm 66), (v_mm 67), (v_mm 68), (v_mm 69), (v_mm 70)]))), (h_tp, .inl (cy_tp, 600, .inl f30))] := hD
  refine lv_iinc (v := 5) (lv' := [(6, .int 5), (7, .int p2), (0, .ref h_mm), (1, .int p1), (2, .int p2), (3, .int p3), (4, .int p4), (5, .int p5)]) hx hb dX11_feed_111 hl (k := 1) rfl (by decide) (by decide) rfl (fun ls hl => ?_)
  refine lv_goto (tgt := 23) hx hb dX11_feed_114 (by decide) ?_
  refine lv_iload hx hb dX11_feed_23 (lv_at hl 0 rfl) ?_
  refine lv_bipush (v := 20) hx hb dX11_feed_25 (by decide) ?_
  refine lv_icmp_ge (tgt := 117) hx hb dX11_feed_27 (by decide) (fun c9 => absurd c9 (by decide)) (fun _ => ?_)
  refine lv_iload hx hb dX11_feed_30 (lv_at hl 0 rfl) ?_
  refine lv_iconst (v := 4) hx hb dX11_feed_32 (by decide) ?_
  refine lv_icmp_ge (tgt := 40) hx hb dX11_feed_33 (by decide) (fun _ => ?_) (fun c9 => absurd c9 (by decide))
  refine lv_iload hx hb dX11_feed_40 (lv_at hl 0 rfl) ?_
  refine lv_bipush (v := 8) hx hb dX11_feed_42 (by decide) ?_
  refine lv_icmp_ge (tgt := 51) hx hb dX11_feed_44 (by decide) (fun c9 => absurd c9 (by decide)) (fun _ => ?_)
  refine lv_iload_n hx hb dX11_feed_47 rfl (lv_at hl 4 rfl) ?_
  refine lv_goto (tgt := 76) hx hb dX11_feed_48 (by decide) ?_
  refine lv_istore (lv' := [(7, .int p2), (6, .int 5), (0, .ref h_mm), (1, .int p1), (2, .int p2), (3, .int p3), (4, .int p4), (5, .int p5)]) hx hb dX11_feed_76 hl (by decide) rfl (fun ls hl => ?_)
  refine lv_aload_n hx hb dX11_feed_78 rfl (lv_at hl 2 rfl) ?_
  refine va_get (D := (dC, dI)) (ci := 8) (v := .ref h_tp) (C := RX11) (T := TX11) (N := 71) hx hb hw iwX11 hown hK hP 0 rfl rfl 13 (by decide) (hw _ w_f_X11_41) (fun _ h9 => h9) rfl dX11_feed_79 ?_
  refine lv_aload_n hx hb dX11_feed_82 rfl (lv_at hl 2 rfl) ?_
  refine va_get (D := (dC, dI)) (ci := 8) (v := .int 5) (C := RX11) (T := TX11) (N := 71) hx hb hw iwX11 hown hK hP 0 rfl rfl 14 (by decide) (hw _ w_f_X11_38) (fun _ h9 => h9) rfl dX11_feed_83 ?_
  refine lv_iload hx hb dX11_feed_86 (lv_at hl 0 rfl) ?_
  refine lv_bipush (v := 24) hx hb dX11_feed_88 (by decide) ?_
  refine lv_bipush (v := 8) hx hb dX11_feed_90 (by decide) ?_
  refine lv_iload hx hb dX11_feed_92 (lv_at hl 1 rfl) ?_
  refine lv_iconst (v := 4) hx hb dX11_feed_94 (by decide) ?_
  refine lv_irem hx hb dX11_feed_95 (by decide) ?_
  refine lv_topi (fun z32 ez32 => ?_)
  obtain rfl : z32 = 1 := ez32.trans (by decide)
  refine lv_imul hx hb dX11_feed_96 ?_
  refine lv_topi (fun z33 ez33 => ?_)
  obtain rfl : z33 = 8 := ez33.trans (by decide)
  refine lv_isub hx hb dX11_feed_97 ?_
  refine lv_topi (fun z34 ez34 => ?_)
  obtain rfl : z34 = 16 := ez34.trans (by decide)
  refine lv_ishr hx hb dX11_feed_98 ?_
  refine lv_topi (fun z35 ez35 => ?_)
  refine lv_i2b (v := (z35).toInt8.toInt32) hx hb dX11_feed_99 rfl ?_
  refine va_bast hx hb hK hP hD hS 1 0 rfl rfl (i := 5) (x := (z35).toInt8.toInt32) (show ¬ _ from by decide) dX11_feed_100 (fun H locs hP hD hS => ?_)
  obtain ⟨f36, ef36⟩ : ∃ g : Nat → Int32, g = upd f30 (Int32.toNatClampNeg 5) (vp_nar .byte (z35).toInt8.toInt32) := ⟨_, rfl⟩
  have hP : va_P (dC, dI) cls [(h_mm, .inr (8, (.int 0 :: (v_mm 1) :: (v_mm 2) :: (v_mm 3) :: (v_mm 4) :: (v_mm 5) :: .int 0 :: .int 0 :: (v_mm 8) :: (v_mm 9) :: (v_mm 10) :: (v_mm 11) :: (v_mm 12) :: .ref h_tp :: .int 5 :: (v_mm 15) :: (v_mm 16) :: (v_mm 17) :: (v_mm 18) :: (v_mm 19) :: .int 0 :: .int 0 :: .int (-1) :: (v_mm 23) :: (v_mm 24) :: (v_mm 25) :: (v_mm 26) :: (v_mm 27) :: (v_mm 28) :: (v_mm 29) :: (v_mm 30) :: (v_mm 31) :: (v_mm 32) :: (v_mm 33) :: (v_mm 34) :: (v_mm 35) :: (v_mm 36) :: (v_mm 37) :: (v_mm 38) :: (v_mm 39) :: (v_mm 40) :: (v_mm 41) :: (v_mm 42) :: [(v_mm 43), (v_mm 44), (v_mm 45), (v_mm 46), (v_mm 47), (v_mm 48), (v_mm 49), (v_mm 50), .int 0, .int 0, .int 0, .int 0, (v_mm 55), .int 0, (v_mm 57), .int 0, (v_mm 59), .int 0, .int 0, (v_mm 62), .int 0, (v_mm 64), (v_mm 65), (v_mm 66), (v_mm 67), (v_mm 68), (v_mm 69), (v_mm 70)]))), (h_tp, .inl (cy_tp, 600, .inl f36))] H := by rw [ef36]; exact hP
  have hD : va_D A [(h_mm, .inr (8, (.int 0 :: (v_mm 1) :: (v_mm 2) :: (v_mm 3) :: (v_mm 4) :: (v_mm 5) :: .int 0 :: .int 0 :: (v_mm 8) :: (v_mm 9) :: (v_mm 10) :: (v_mm 11) :: (v_mm 12) :: .ref h_tp :: .int 5 :: (v_mm 15) :: (v_mm 16) :: (v_mm 17) :: (v_mm 18) :: (v_mm 19) :: .int 0 :: .int 0 :: .int (-1) :: (v_mm 23) :: (v_mm 24) :: (v_mm 25) :: (v_mm 26) :: (v_mm 27) :: (v_mm 28) :: (v_mm 29) :: (v_mm 30) :: (v_mm 31) :: (v_mm 32) :: (v_mm 33) :: (v_mm 34) :: (v_mm 35) :: (v_mm 36) :: (v_mm 37) :: (v_mm 38) :: (v_mm 39) :: (v_mm 40) :: (v_mm 41) :: (v_mm 42) :: [(v_mm 43), (v_mm 44), (v_mm 45), (v_mm 46), (v_mm 47), (v_mm 48), (v_mm 49), (v_mm 50), .int 0, .int 0, .int 0, .int 0, (v_mm 55), .int 0, (v_mm 57), .int 0, (v_mm 59), .int 0, .int 0, (v_mm 62), .int 0, (v_mm 64), (v_mm 65), (v_mm 66), (v_mm 67), (v_mm 68), (v_mm 69), (v_mm 70)]))), (h_tp, .inl (cy_tp, 600, .inl f36))] := by rw [ef36]; exact hD
  clear ef36
  refine lv_aload_n hx hb dX11_feed_101 rfl (lv_at hl 2 rfl) ?_
  refine lv_aload_n hx hb dX11_feed_102 rfl (lv_at hl 2 rfl) ?_
  refine va_get (D := (dC, dI)) (ci := 8) (v := .int 5) (C := RX11) (T := TX11) (N := 71) hx hb hw iwX11 hown hK hP 0 rfl rfl 14 (by decide) (hw _ w_f_X11_38) (fun _ h9 => h9) rfl dX11_feed_103 ?_
  refine lv_iconst (v := 1) hx hb dX11_feed_106 (by decide) ?_
  refine lv_iadd hx hb dX11_feed_107 ?_
  refine lv_topi (fun z37 ez37 => ?_)
  obtain rfl : z37 = 6 := ez37.trans (by decide)
  refine va_put (D := (dC, dI)) (ci := 8) (v := .int 6) (ty := tyX11 14) (C := RX11) (T := TX11) (N := 71) hx hb hw iwX11 tyX11 tyX11_ok nmX11 hown hK hP hD hS 0 rfl rfl 14 (by decide) (hw _ w_f_X11_38) (fun _ h9 => h9) rfl (tyX11_ok 14 (by decide)) rfl rfl (Nat.le_of_ble_eq_true rfl) dX11_feed_108 (fun H locs hP hD hS => ?_)
  have hP : va_P (dC, dI) cls [(h_mm, .inr (8, (.int 0 :: (v_mm 1) :: (v_mm 2) :: (v_mm 3) :: (v_mm 4) :: (v_mm 5) :: .int 0 :: .int 0 :: (v_mm 8) :: (v_mm 9) :: (v_mm 10) :: (v_mm 11) :: (v_mm 12) :: .ref h_tp :: .int 6 :: (v_mm 15) :: (v_mm 16) :: (v_mm 17) :: (v_mm 18) :: (v_mm 19) :: .int 0 :: .int 0 :: .int (-1) :: (v_mm 23) :: (v_mm 24) :: (v_mm 25) :: (v_mm 26) :: (v_mm 27) :: (v_mm 28) :: (v_mm 29) :: (v_mm 30) :: (v_mm 31) :: (v_mm 32) :: (v_mm 33) :: (v_mm 34) :: (v_mm 35) :: (v_mm 36) :: (v_mm 37) :: (v_mm 38) :: (v_mm 39) :: (v_mm 40) :: (v_mm 41) :: (v_mm 42) :: [(v_mm 43), (v_mm 44), (v_mm 45), (v_mm 46), (v_mm 47), (v_mm 48), (v_mm 49), (v_mm 50), .int 0, .int 0, .int 0, .int 0, (v_mm 55), .int 0, (v_mm 57), .int 0, (v_mm 59), .int 0, .int 0, (v_mm 62), .int 0, (v_mm 64), (v_mm 65), (v_mm 66), (v_mm 67), (v_mm 68), (v_mm 69), (v_mm 70)]))), (h_tp, .inl (cy_tp, 600, .inl f36))] H := hP
  have hD : va_D A [(h_mm, .inr (8, (.int 0 :: (v_mm 1) :: (v_mm 2) :: (v_mm 3) :: (v_mm 4) :: (v_mm 5) :: .int 0 :: .int 0 :: (v_mm 8) :: (v_mm 9) :: (v_mm 10) :: (v_mm 11) :: (v_mm 12) :: .ref h_tp :: .int 6 :: (v_mm 15) :: (v_mm 16) :: (v_mm 17) :: (v_mm 18) :: (v_mm 19) :: .int 0 :: .int 0 :: .int (-1) :: (v_mm 23) :: (v_mm 24) :: (v_mm 25) :: (v_mm 26) :: (v_mm 27) :: (v_mm 28) :: (v_mm 29) :: (v_mm 30) :: (v_mm 31) :: (v_mm 32) :: (v_mm 33) :: (v_mm 34) :: (v_mm 35) :: (v_mm 36) :: (v_mm 37) :: (v_mm 38) :: (v_mm 39) :: (v_mm 40) :: (v_mm 41) :: (v_mm 42) :: [(v_mm 43), (v_mm 44), (v_mm 45), (v_mm 46), (v_mm 47), (v_mm 48), (v_mm 49), (v_mm 50), .int 0, .int 0, .int 0, .int 0, (v_mm 55), .int 0, (v_mm 57), .int 0, (v_mm 59), .int 0, .int 0, (v_mm 62), .int 0, (v_mm 64), (v_mm 65), (v_mm 66), (v_mm 67), (v_mm 68), (v_mm 69), (v_mm 70)]))), (h_tp, .inl (cy_tp, 600, .inl f36))] := hD
  refine lv_iinc (v := 6) (lv' := [(6, .int 6), (7, .int p2), (0, .ref h_mm), (1, .int p1), (2, .int p2), (3, .int p3), (4, .int p4), (5, .int p5)]) hx hb dX11_feed_111 hl (k := 1) rfl (by decide) (by decide) rfl (fun ls hl => ?_)
  refine lv_goto (tgt := 23) hx hb dX11_feed_114 (by decide) ?_
  refine lv_iload hx hb dX11_feed_23 (lv_at hl 0 rfl) ?_
  refine lv_bipush (v := 20) hx hb dX11_feed_25 (by decide) ?_
  refine lv_icmp_ge (tgt := 117) hx hb dX11_feed_27 (by decide) (fun c9 => absurd c9 (by decide)) (fun _ => ?_)
  refine lv_iload hx hb dX11_feed_30 (lv_at hl 0 rfl) ?_
  refine lv_iconst (v := 4) hx hb dX11_feed_32 (by decide) ?_
  refine lv_icmp_ge (tgt := 40) hx hb dX11_feed_33 (by decide) (fun _ => ?_) (fun c9 => absurd c9 (by decide))
  refine lv_iload hx hb dX11_feed_40 (lv_at hl 0 rfl) ?_
  refine lv_bipush (v := 8) hx hb dX11_feed_42 (by decide) ?_
  refine lv_icmp_ge (tgt := 51) hx hb dX11_feed_44 (by decide) (fun c9 => absurd c9 (by decide)) (fun _ => ?_)
  refine lv_iload_n hx hb dX11_feed_47 rfl (lv_at hl 4 rfl) ?_
  refine lv_goto (tgt := 76) hx hb dX11_feed_48 (by decide) ?_
  refine lv_istore (lv' := [(7, .int p2), (6, .int 6), (0, .ref h_mm), (1, .int p1), (2, .int p2), (3, .int p3), (4, .int p4), (5, .int p5)]) hx hb dX11_feed_76 hl (by decide) rfl (fun ls hl => ?_)
  refine lv_aload_n hx hb dX11_feed_78 rfl (lv_at hl 2 rfl) ?_
  refine va_get (D := (dC, dI)) (ci := 8) (v := .ref h_tp) (C := RX11) (T := TX11) (N := 71) hx hb hw iwX11 hown hK hP 0 rfl rfl 13 (by decide) (hw _ w_f_X11_41) (fun _ h9 => h9) rfl dX11_feed_79 ?_
  refine lv_aload_n hx hb dX11_feed_82 rfl (lv_at hl 2 rfl) ?_
  refine va_get (D := (dC, dI)) (ci := 8) (v := .int 6) (C := RX11) (T := TX11) (N := 71) hx hb hw iwX11 hown hK hP 0 rfl rfl 14 (by decide) (hw _ w_f_X11_38) (fun _ h9 => h9) rfl dX11_feed_83 ?_
  refine lv_iload hx hb dX11_feed_86 (lv_at hl 0 rfl) ?_
  refine lv_bipush (v := 24) hx hb dX11_feed_88 (by decide) ?_
  refine lv_bipush (v := 8) hx hb dX11_feed_90 (by decide) ?_
  refine lv_iload hx hb dX11_feed_92 (lv_at hl 1 rfl) ?_
  refine lv_iconst (v := 4) hx hb dX11_feed_94 (by decide) ?_
  refine lv_irem hx hb dX11_feed_95 (by decide) ?_
  refine lv_topi (fun z38 ez38 => ?_)
  obtain rfl : z38 = 2 := ez38.trans (by decide)
  refine lv_imul hx hb dX11_feed_96 ?_
  refine lv_topi (fun z39 ez39 => ?_)
  obtain rfl : z39 = 16 := ez39.trans (by decide)
  refine lv_isub hx hb dX11_feed_97 ?_
  refine lv_topi (fun z40 ez40 => ?_)
  obtain rfl : z40 = 8 := ez40.trans (by decide)
  refine lv_ishr hx hb dX11_feed_98 ?_
  refine lv_topi (fun z41 ez41 => ?_)
  refine lv_i2b (v := (z41).toInt8.toInt32) hx hb dX11_feed_99 rfl ?_
  refine va_bast hx hb hK hP hD hS 1 0 rfl rfl (i := 6) (x := (z41).toInt8.toInt32) (show ¬ _ from by decide) dX11_feed_100 (fun H locs hP hD hS => ?_)
  obtain ⟨f42, ef42⟩ : ∃ g : Nat → Int32, g = upd f36 (Int32.toNatClampNeg 6) (vp_nar .byte (z41).toInt8.toInt32) := ⟨_, rfl⟩
  have hP : va_P (dC, dI) cls [(h_mm, .inr (8, (.int 0 :: (v_mm 1) :: (v_mm 2) :: (v_mm 3) :: (v_mm 4) :: (v_mm 5) :: .int 0 :: .int 0 :: (v_mm 8) :: (v_mm 9) :: (v_mm 10) :: (v_mm 11) :: (v_mm 12) :: .ref h_tp :: .int 6 :: (v_mm 15) :: (v_mm 16) :: (v_mm 17) :: (v_mm 18) :: (v_mm 19) :: .int 0 :: .int 0 :: .int (-1) :: (v_mm 23) :: (v_mm 24) :: (v_mm 25) :: (v_mm 26) :: (v_mm 27) :: (v_mm 28) :: (v_mm 29) :: (v_mm 30) :: (v_mm 31) :: (v_mm 32) :: (v_mm 33) :: (v_mm 34) :: (v_mm 35) :: (v_mm 36) :: (v_mm 37) :: (v_mm 38) :: (v_mm 39) :: (v_mm 40) :: (v_mm 41) :: (v_mm 42) :: [(v_mm 43), (v_mm 44), (v_mm 45), (v_mm 46), (v_mm 47), (v_mm 48), (v_mm 49), (v_mm 50), .int 0, .int 0, .int 0, .int 0, (v_mm 55), .int 0, (v_mm 57), .int 0, (v_mm 59), .int 0, .int 0, (v_mm 62), .int 0, (v_mm 64), (v_mm 65), (v_mm 66), (v_mm 67), (v_mm 68), (v_mm 69), (v_mm 70)]))), (h_tp, .inl (cy_tp, 600, .inl f42))] H := by rw [ef42]; exact hP
  have hD : va_D A [(h_mm, .inr (8, (.int 0 :: (v_mm 1) :: (v_mm 2) :: (v_mm 3) :: (v_mm 4) :: (v_mm 5) :: .int 0 :: .int 0 :: (v_mm 8) :: (v_mm 9) :: (v_mm 10) :: (v_mm 11) :: (v_mm 12) :: .ref h_tp :: .int 6 :: (v_mm 15) :: (v_mm 16) :: (v_mm 17) :: (v_mm 18) :: (v_mm 19) :: .int 0 :: .int 0 :: .int (-1) :: (v_mm 23) :: (v_mm 24) :: (v_mm 25) :: (v_mm 26) :: (v_mm 27) :: (v_mm 28) :: (v_mm 29) :: (v_mm 30) :: (v_mm 31) :: (v_mm 32) :: (v_mm 33) :: (v_mm 34) :: (v_mm 35) :: (v_mm 36) :: (v_mm 37) :: (v_mm 38) :: (v_mm 39) :: (v_mm 40) :: (v_mm 41) :: (v_mm 42) :: [(v_mm 43), (v_mm 44), (v_mm 45), (v_mm 46), (v_mm 47), (v_mm 48), (v_mm 49), (v_mm 50), .int 0, .int 0, .int 0, .int 0, (v_mm 55), .int 0, (v_mm 57), .int 0, (v_mm 59), .int 0, .int 0, (v_mm 62), .int 0, (v_mm 64), (v_mm 65), (v_mm 66), (v_mm 67), (v_mm 68), (v_mm 69), (v_mm 70)]))), (h_tp, .inl (cy_tp, 600, .inl f42))] := by rw [ef42]; exact hD
  clear ef42
  refine lv_aload_n hx hb dX11_feed_101 rfl (lv_at hl 2 rfl) ?_
  refine lv_aload_n hx hb dX11_feed_102 rfl (lv_at hl 2 rfl) ?_
  refine va_get (D := (dC, dI)) (ci := 8) (v := .int 6) (C := RX11) (T := TX11) (N := 71) hx hb hw iwX11 hown hK hP 0 rfl rfl 14 (by decide) (hw _ w_f_X11_38) (fun _ h9 => h9) rfl dX11_feed_103 ?_
  refine lv_iconst (v := 1) hx hb dX11_feed_106 (by decide) ?_
  refine lv_iadd hx hb dX11_feed_107 ?_
  refine lv_topi (fun z43 ez43 => ?_)
  obtain rfl : z43 = 7 := ez43.trans (by decide)
  refine va_put (D := (dC, dI)) (ci := 8) (v := .int 7) (ty := tyX11 14) (C := RX11) (T := TX11) (N := 71) hx hb hw iwX11 tyX11 tyX11_ok nmX11 hown hK hP hD hS 0 rfl rfl 14 (by decide) (hw _ w_f_X11_38) (fun _ h9 => h9) rfl (tyX11_ok 14 (by decide)) rfl rfl (Nat.le_of_ble_eq_true rfl) dX11_feed_108 (fun H locs hP hD hS => ?_)
  have hP : va_P (dC, dI) cls [(h_mm, .inr (8, (.int 0 :: (v_mm 1) :: (v_mm 2) :: (v_mm 3) :: (v_mm 4) :: (v_mm 5) :: .int 0 :: .int 0 :: (v_mm 8) :: (v_mm 9) :: (v_mm 10) :: (v_mm 11) :: (v_mm 12) :: .ref h_tp :: .int 7 :: (v_mm 15) :: (v_mm 16) :: (v_mm 17) :: (v_mm 18) :: (v_mm 19) :: .int 0 :: .int 0 :: .int (-1) :: (v_mm 23) :: (v_mm 24) :: (v_mm 25) :: (v_mm 26) :: (v_mm 27) :: (v_mm 28) :: (v_mm 29) :: (v_mm 30) :: (v_mm 31) :: (v_mm 32) :: (v_mm 33) :: (v_mm 34) :: (v_mm 35) :: (v_mm 36) :: (v_mm 37) :: (v_mm 38) :: (v_mm 39) :: (v_mm 40) :: (v_mm 41) :: (v_mm 42) :: [(v_mm 43), (v_mm 44), (v_mm 45), (v_mm 46), (v_mm 47), (v_mm 48), (v_mm 49), (v_mm 50), .int 0, .int 0, .int 0, .int 0, (v_mm 55), .int 0, (v_mm 57), .int 0, (v_mm 59), .int 0, .int 0, (v_mm 62), .int 0, (v_mm 64), (v_mm 65), (v_mm 66), (v_mm 67), (v_mm 68), (v_mm 69), (v_mm 70)]))), (h_tp, .inl (cy_tp, 600, .inl f42))] H := hP
  have hD : va_D A [(h_mm, .inr (8, (.int 0 :: (v_mm 1) :: (v_mm 2) :: (v_mm 3) :: (v_mm 4) :: (v_mm 5) :: .int 0 :: .int 0 :: (v_mm 8) :: (v_mm 9) :: (v_mm 10) :: (v_mm 11) :: (v_mm 12) :: .ref h_tp :: .int 7 :: (v_mm 15) :: (v_mm 16) :: (v_mm 17) :: (v_mm 18) :: (v_mm 19) :: .int 0 :: .int 0 :: .int (-1) :: (v_mm 23) :: (v_mm 24) :: (v_mm 25) :: (v_mm 26) :: (v_mm 27) :: (v_mm 28) :: (v_mm 29) :: (v_mm 30) :: (v_mm 31) :: (v_mm 32) :: (v_mm 33) :: (v_mm 34) :: (v_mm 35) :: (v_mm 36) :: (v_mm 37) :: (v_mm 38) :: (v_mm 39) :: (v_mm 40) :: (v_mm 41) :: (v_mm 42) :: [(v_mm 43), (v_mm 44), (v_mm 45), (v_mm 46), (v_mm 47), (v_mm 48), (v_mm 49), (v_mm 50), .int 0, .int 0, .int 0, .int 0, (v_mm 55), .int 0, (v_mm 57), .int 0, (v_mm 59), .int 0, .int 0, (v_mm 62), .int 0, (v_mm 64), (v_mm 65), (v_mm 66), (v_mm 67), (v_mm 68), (v_mm 69), (v_mm 70)]))), (h_tp, .inl (cy_tp, 600, .inl f42))] := hD
  refine lv_iinc (v := 7) (lv' := [(6, .int 7), (7, .int p2), (0, .ref h_mm), (1, .int p1), (2, .int p2), (3, .int p3), (4, .int p4), (5, .int p5)]) hx hb dX11_feed_111 hl (k := 1) rfl (by decide) (by decide) rfl (fun ls hl => ?_)
  refine lv_goto (tgt := 23) hx hb dX11_feed_114 (by decide) ?_
  refine lv_iload hx hb dX11_feed_23 (lv_at hl 0 rfl) ?_
  refine lv_bipush (v := 20) hx hb dX11_feed_25 (by decide) ?_
  refine lv_icmp_ge (tgt := 117) hx hb dX11_feed_27 (by decide) (fun c9 => absurd c9 (by decide)) (fun _ => ?_)
  refine lv_iload hx hb dX11_feed_30 (lv_at hl 0 rfl) ?_
  refine lv_iconst (v := 4) hx hb dX11_feed_32 (by decide) ?_
  refine lv_icmp_ge (tgt := 40) hx hb dX11_feed_33 (by decide) (fun _ => ?_) (fun c9 => absurd c9 (by decide))
  refine lv_iload hx hb dX11_feed_40 (lv_at hl 0 rfl) ?_
  refine lv_bipush (v := 8) hx hb dX11_feed_42 (by decide) ?_
  refine lv_icmp_ge (tgt := 51) hx hb dX11_feed_44 (by decide) (fun c9 => absurd c9 (by decide)) (fun _ => ?_)
  refine lv_iload_n hx hb dX11_feed_47 rfl (lv_at hl 4 rfl) ?_
  refine lv_goto (tgt := 76) hx hb dX11_feed_48 (by decide) ?_
  refine lv_istore (lv' := [(7, .int p2), (6, .int 7), (0, .ref h_mm), (1, .int p1), (2, .int p2), (3, .int p3), (4, .int p4), (5, .int p5)]) hx hb dX11_feed_76 hl (by decide) rfl (fun ls hl => ?_)
  refine lv_aload_n hx hb dX11_feed_78 rfl (lv_at hl 2 rfl) ?_
  refine va_get (D := (dC, dI)) (ci := 8) (v := .ref h_tp) (C := RX11) (T := TX11) (N := 71) hx hb hw iwX11 hown hK hP 0 rfl rfl 13 (by decide) (hw _ w_f_X11_41) (fun _ h9 => h9) rfl dX11_feed_79 ?_
  refine lv_aload_n hx hb dX11_feed_82 rfl (lv_at hl 2 rfl) ?_
  refine va_get (D := (dC, dI)) (ci := 8) (v := .int 7) (C := RX11) (T := TX11) (N := 71) hx hb hw iwX11 hown hK hP 0 rfl rfl 14 (by decide) (hw _ w_f_X11_38) (fun _ h9 => h9) rfl dX11_feed_83 ?_
  refine lv_iload hx hb dX11_feed_86 (lv_at hl 0 rfl) ?_
  refine lv_bipush (v := 24) hx hb dX11_feed_88 (by decide) ?_
  refine lv_bipush (v := 8) hx hb dX11_feed_90 (by decide) ?_
  refine lv_iload hx hb dX11_feed_92 (lv_at hl 1 rfl) ?_
  refine lv_iconst (v := 4) hx hb dX11_feed_94 (by decide) ?_
  refine lv_irem hx hb dX11_feed_95 (by decide) ?_
  refine lv_topi (fun z44 ez44 => ?_)
  obtain rfl : z44 = 3 := ez44.trans (by decide)
  refine lv_imul hx hb dX11_feed_96 ?_
  refine lv_topi (fun z45 ez45 => ?_)
  obtain rfl : z45 = 24 := ez45.trans (by decide)
  refine lv_isub hx hb dX11_feed_97 ?_
  refine lv_topi (fun z46 ez46 => ?_)
  obtain rfl : z46 = 0 := ez46.trans (by decide)
  refine lv_ishr hx hb dX11_feed_98 ?_
  refine lv_topi (fun z47 ez47 => ?_)
  refine lv_i2b (v := (z47).toInt8.toInt32) hx hb dX11_feed_99 rfl ?_
  refine va_bast hx hb hK hP hD hS 1 0 rfl rfl (i := 7) (x := (z47).toInt8.toInt32) (show ¬ _ from by decide) dX11_feed_100 (fun H locs hP hD hS => ?_)
  obtain ⟨f48, ef48⟩ : ∃ g : Nat → Int32, g = upd f42 (Int32.toNatClampNeg 7) (vp_nar .byte (z47).toInt8.toInt32) := ⟨_, rfl⟩
  have hP : va_P (dC, dI) cls [(h_mm, .inr (8, (.int 0 :: (v_mm 1) :: (v_mm 2) :: (v_mm 3) :: (v_mm 4) :: (v_mm 5) :: .int 0 :: .int 0 :: (v_mm 8) :: (v_mm 9) :: (v_mm 10) :: (v_mm 11) :: (v_mm 12) :: .ref h_tp :: .int 7 :: (v_mm 15) :: (v_mm 16) :: (v_mm 17) :: (v_mm 18) :: (v_mm 19) :: .int 0 :: .int 0 :: .int (-1) :: (v_mm 23) :: (v_mm 24) :: (v_mm 25) :: (v_mm 26) :: (v_mm 27) :: (v_mm 28) :: (v_mm 29) :: (v_mm 30) :: (v_mm 31) :: (v_mm 32) :: (v_mm 33) :: (v_mm 34) :: (v_mm 35) :: (v_mm 36) :: (v_mm 37) :: (v_mm 38) :: (v_mm 39) :: (v_mm 40) :: (v_mm 41) :: (v_mm 42) :: [(v_mm 43), (v_mm 44), (v_mm 45), (v_mm 46), (v_mm 47), (v_mm 48), (v_mm 49), (v_mm 50), .int 0, .int 0, .int 0, .int 0, (v_mm 55), .int 0, (v_mm 57), .int 0, (v_mm 59), .int 0, .int 0, (v_mm 62), .int 0, (v_mm 64), (v_mm 65), (v_mm 66), (v_mm 67), (v_mm 68), (v_mm 69), (v_mm 70)]))), (h_tp, .inl (cy_tp, 600, .inl f48))] H := by rw [ef48]; exact hP
  have hD : va_D A [(h_mm, .inr (8, (.int 0 :: (v_mm 1) :: (v_mm 2) :: (v_mm 3) :: (v_mm 4) :: (v_mm 5) :: .int 0 :: .int 0 :: (v_mm 8) :: (v_mm 9) :: (v_mm 10) :: (v_mm 11) :: (v_mm 12) :: .ref h_tp :: .int 7 :: (v_mm 15) :: (v_mm 16) :: (v_mm 17) :: (v_mm 18) :: (v_mm 19) :: .int 0 :: .int 0 :: .int (-1) :: (v_mm 23) :: (v_mm 24) :: (v_mm 25) :: (v_mm 26) :: (v_mm 27) :: (v_mm 28) :: (v_mm 29) :: (v_mm 30) :: (v_mm 31) :: (v_mm 32) :: (v_mm 33) :: (v_mm 34) :: (v_mm 35) :: (v_mm 36) :: (v_mm 37) :: (v_mm 38) :: (v_mm 39) :: (v_mm 40) :: (v_mm 41) :: (v_mm 42) :: [(v_mm 43), (v_mm 44), (v_mm 45), (v_mm 46), (v_mm 47), (v_mm 48), (v_mm 49), (v_mm 50), .int 0, .int 0, .int 0, .int 0, (v_mm 55), .int 0, (v_mm 57), .int 0, (v_mm 59), .int 0, .int 0, (v_mm 62), .int 0, (v_mm 64), (v_mm 65), (v_mm 66), (v_mm 67), (v_mm 68), (v_mm 69), (v_mm 70)]))), (h_tp, .inl (cy_tp, 600, .inl f48))] := by rw [ef48]; exact hD
  clear ef48
  refine lv_aload_n hx hb dX11_feed_101 rfl (lv_at hl 2 rfl) ?_
  refine lv_aload_n hx hb dX11_feed_102 rfl (lv_at hl 2 rfl) ?_
  refine va_get (D := (dC, dI)) (ci := 8) (v := .int 7) (C := RX11) (T := TX11) (N := 71) hx hb hw iwX11 hown hK hP 0 rfl rfl 14 (by decide) (hw _ w_f_X11_38) (fun _ h9 => h9) rfl dX11_feed_103 ?_
  refine lv_iconst (v := 1) hx hb dX11_feed_106 (by decide) ?_
  refine lv_iadd hx hb dX11_feed_107 ?_
  refine lv_topi (fun z49 ez49 => ?_)
  obtain rfl : z49 = 8 := ez49.trans (by decide)
  refine va_put (D := (dC, dI)) (ci := 8) (v := .int 8) (ty := tyX11 14) (C := RX11) (T := TX11) (N := 71) hx hb hw iwX11 tyX11 tyX11_ok nmX11 hown hK hP hD hS 0 rfl rfl 14 (by decide) (hw _ w_f_X11_38) (fun _ h9 => h9) rfl (tyX11_ok 14 (by decide)) rfl rfl (Nat.le_of_ble_eq_true rfl) dX11_feed_108 (fun H locs hP hD hS => ?_)
  have hP : va_P (dC, dI) cls [(h_mm, .inr (8, (.int 0 :: (v_mm 1) :: (v_mm 2) :: (v_mm 3) :: (v_mm 4) :: (v_mm 5) :: .int 0 :: .int 0 :: (v_mm 8) :: (v_mm 9) :: (v_mm 10) :: (v_mm 11) :: (v_mm 12) :: .ref h_tp :: .int 8 :: (v_mm 15) :: (v_mm 16) :: (v_mm 17) :: (v_mm 18) :: (v_mm 19) :: .int 0 :: .int 0 :: .int (-1) :: (v_mm 23) :: (v_mm 24) :: (v_mm 25) :: (v_mm 26) :: (v_mm 27) :: (v_mm 28) :: (v_mm 29) :: (v_mm 30) :: (v_mm 31) :: (v_mm 32) :: (v_mm 33) :: (v_mm 34) :: (v_mm 35) :: (v_mm 36) :: (v_mm 37) :: (v_mm 38) :: (v_mm 39) :: (v_mm 40) :: (v_mm 41) :: (v_mm 42) :: [(v_mm 43), (v_mm 44), (v_mm 45), (v_mm 46), (v_mm 47), (v_mm 48), (v_mm 49), (v_mm 50), .int 0, .int 0, .int 0, .int 0, (v_mm 55), .int 0, (v_mm 57), .int 0, (v_mm 59), .int 0, .int 0, (v_mm 62), .int 0, (v_mm 64), (v_mm 65), (v_mm 66), (v_mm 67), (v_mm 68), (v_mm 69), (v_mm 70)]))), (h_tp, .inl (cy_tp, 600, .inl f48))] H := hP
  have hD : va_D A [(h_mm, .inr (8, (.int 0 :: (v_mm 1) :: (v_mm 2) :: (v_mm 3) :: (v_mm 4) :: (v_mm 5) :: .int 0 :: .int 0 :: (v_mm 8) :: (v_mm 9) :: (v_mm 10) :: (v_mm 11) :: (v_mm 12) :: .ref h_tp :: .int 8 :: (v_mm 15) :: (v_mm 16) :: (v_mm 17) :: (v_mm 18) :: (v_mm 19) :: .int 0 :: .int 0 :: .int (-1) :: (v_mm 23) :: (v_mm 24) :: (v_mm 25) :: (v_mm 26) :: (v_mm 27) :: (v_mm 28) :: (v_mm 29) :: (v_mm 30) :: (v_mm 31) :: (v_mm 32) :: (v_mm 33) :: (v_mm 34) :: (v_mm 35) :: (v_mm 36) :: (v_mm 37) :: (v_mm 38) :: (v_mm 39) :: (v_mm 40) :: (v_mm 41) :: (v_mm 42) :: [(v_mm 43), (v_mm 44), (v_mm 45), (v_mm 46), (v_mm 47), (v_mm 48), (v_mm 49), (v_mm 50), .int 0, .int 0, .int 0, .int 0, (v_mm 55), .int 0, (v_mm 57), .int 0, (v_mm 59), .int 0, .int 0, (v_mm 62), .int 0, (v_mm 64), (v_mm 65), (v_mm 66), (v_mm 67), (v_mm 68), (v_mm 69), (v_mm 70)]))), (h_tp, .inl (cy_tp, 600, .inl f48))] := hD
  refine lv_iinc (v := 8) (lv' := [(6, .int 8), (7, .int p2), (0, .ref h_mm), (1, .int p1), (2, .int p2), (3, .int p3), (4, .int p4), (5, .int p5)]) hx hb dX11_feed_111 hl (k := 1) rfl (by decide) (by decide) rfl (fun ls hl => ?_)
  refine lv_goto (tgt := 23) hx hb dX11_feed_114 (by decide) ?_
  refine lv_iload hx hb dX11_feed_23 (lv_at hl 0 rfl) ?_
  refine lv_bipush (v := 20) hx hb dX11_feed_25 (by decide) ?_
  refine lv_icmp_ge (tgt := 117) hx hb dX11_feed_27 (by decide) (fun c9 => absurd c9 (by decide)) (fun _ => ?_)
  refine lv_iload hx hb dX11_feed_30 (lv_at hl 0 rfl) ?_
  refine lv_iconst (v := 4) hx hb dX11_feed_32 (by decide) ?_
  refine lv_icmp_ge (tgt := 40) hx hb dX11_feed_33 (by decide) (fun _ => ?_) (fun c9 => absurd c9 (by decide))
  refine lv_iload hx hb dX11_feed_40 (lv_at hl 0 rfl) ?_
  refine lv_bipush (v := 8) hx hb dX11_feed_42 (by decide) ?_
  refine lv_icmp_ge (tgt := 51) hx hb dX11_feed_44 (by decide) (fun _ => ?_) (fun c9 => absurd c9 (by decide))
  refine lv_iload hx hb dX11_feed_51 (lv_at hl 0 rfl) ?_
  refine lv_bipush (v := 12) hx hb dX11_feed_53 (by decide) ?_
  refine lv_icmp_ge (tgt := 62) hx hb dX11_feed_55 (by decide) (fun c9 => absurd c9 (by decide)) (fun _ => ?_)
  refine lv_iload_n hx hb dX11_feed_58 rfl (lv_at hl 5 rfl) ?_
  refine lv_goto (tgt := 76) hx hb dX11_feed_59 (by decide) ?_
  refine lv_istore (lv' := [(7, .int p3), (6, .int 8), (0, .ref h_mm), (1, .int p1), (2, .int p2), (3, .int p3), (4, .int p4), (5, .int p5)]) hx hb dX11_feed_76 hl (by decide) rfl (fun ls hl => ?_)
  refine lv_aload_n hx hb dX11_feed_78 rfl (lv_at hl 2 rfl) ?_
  refine va_get (D := (dC, dI)) (ci := 8) (v := .ref h_tp) (C := RX11) (T := TX11) (N := 71) hx hb hw iwX11 hown hK hP 0 rfl rfl 13 (by decide) (hw _ w_f_X11_41) (fun _ h9 => h9) rfl dX11_feed_79 ?_
  refine lv_aload_n hx hb dX11_feed_82 rfl (lv_at hl 2 rfl) ?_
  refine va_get (D := (dC, dI)) (ci := 8) (v := .int 8) (C := RX11) (T := TX11) (N := 71) hx hb hw iwX11 hown hK hP 0 rfl rfl 14 (by decide) (hw _ w_f_X11_38) (fun _ h9 => h9) rfl dX11_feed_83 ?_
  refine lv_iload hx hb dX11_feed_86 (lv_at hl 0 rfl) ?_
  refine lv_bipush (v := 24) hx hb dX11_feed_88 (by decide) ?_
  refine lv_bipush (v := 8) hx hb dX11_feed_90 (by decide) ?_
  refine lv_iload hx hb dX11_feed_92 (lv_at hl 1 rfl) ?_
  refine lv_iconst (v := 4) hx hb dX11_feed_94 (by decide) ?_
  refine lv_irem hx hb dX11_feed_95 (by decide) ?_
  refine lv_topi (fun z50 ez50 => ?_)
  obtain rfl : z50 = 0 := ez50.trans (by decide)
  refine lv_imul hx hb dX11_feed_96 ?_
  refine lv_topi (fun z51 ez51 => ?_)
  obtain rfl : z51 = 0 := ez51.trans (by decide)
  refine lv_isub hx hb dX11_feed_97 ?_
  refine lv_topi (fun z52 ez52 => ?_)
  obtain rfl : z52 = 24 := ez52.trans (by decide)
  refine lv_ishr hx hb dX11_feed_98 ?_
  refine lv_topi (fun z53 ez53 => ?_)
  refine lv_i2b (v := (z53).toInt8.toInt32) hx hb dX11_feed_99 rfl ?_
  refine va_bast hx hb hK hP hD hS 1 0 rfl rfl (i := 8) (x := (z53).toInt8.toInt32) (show ¬ _ from by decide) dX11_feed_100 (fun H locs hP hD hS => ?_)
  obtain ⟨f54, ef54⟩ : ∃ g : Nat → Int32, g = upd f48 (Int32.toNatClampNeg 8) (vp_nar .byte (z53).toInt8.toInt32) := ⟨_, rfl⟩
  have hP : va_P (dC, dI) cls [(h_mm, .inr (8, (.int 0 :: (v_mm 1) :: (v_mm 2) :: (v_mm 3) :: (v_mm 4) :: (v_mm 5) :: .int 0 :: .int 0 :: (v_mm 8) :: (v_mm 9) :: (v_mm 10) :: (v_mm 11) :: (v_mm 12) :: .ref h_tp :: .int 8 :: (v_mm 15) :: (v_mm 16) :: (v_mm 17) :: (v_mm 18) :: (v_mm 19) :: .int 0 :: .int 0 :: .int (-1) :: (v_mm 23) :: (v_mm 24) :: (v_mm 25) :: (v_mm 26) :: (v_mm 27) :: (v_mm 28) :: (v_mm 29) :: (v_mm 30) :: (v_mm 31) :: (v_mm 32) :: (v_mm 33) :: (v_mm 34) :: (v_mm 35) :: (v_mm 36) :: (v_mm 37) :: (v_mm 38) :: (v_mm 39) :: (v_mm 40) :: (v_mm 41) :: (v_mm 42) :: [(v_mm 43), (v_mm 44), (v_mm 45), (v_mm 46), (v_mm 47), (v_mm 48), (v_mm 49), (v_mm 50), .int 0, .int 0, .int 0, .int 0, (v_mm 55), .int 0, (v_mm 57), .int 0, (v_mm 59), .int 0, .int 0, (v_mm 62), .int 0, (v_mm 64), (v_mm 65), (v_mm 66), (v_mm 67), (v_mm 68), (v_mm 69), (v_mm 70)]))), (h_tp, .inl (cy_tp, 600, .inl f54))] H := by rw [ef54]; exact hP
  have hD : va_D A [(h_mm, .inr (8, (.int 0 :: (v_mm 1) :: (v_mm 2) :: (v_mm 3) :: (v_mm 4) :: (v_mm 5) :: .int 0 :: .int 0 :: (v_mm 8) :: (v_mm 9) :: (v_mm 10) :: (v_mm 11) :: (v_mm 12) :: .ref h_tp :: .int 8 :: (v_mm 15) :: (v_mm 16) :: (v_mm 17) :: (v_mm 18) :: (v_mm 19) :: .int 0 :: .int 0 :: .int (-1) :: (v_mm 23) :: (v_mm 24) :: (v_mm 25) :: (v_mm 26) :: (v_mm 27) :: (v_mm 28) :: (v_mm 29) :: (v_mm 30) :: (v_mm 31) :: (v_mm 32) :: (v_mm 33) :: (v_mm 34) :: (v_mm 35) :: (v_mm 36) :: (v_mm 37) :: (v_mm 38) :: (v_mm 39) :: (v_mm 40) :: (v_mm 41) :: (v_mm 42) :: [(v_mm 43), (v_mm 44), (v_mm 45), (v_mm 46), (v_mm 47), (v_mm 48), (v_mm 49), (v_mm 50), .int 0, .int 0, .int 0, .int 0, (v_mm 55), .int 0, (v_mm 57), .int 0, (v_mm 59), .int 0, .int 0, (v_mm 62), .int 0, (v_mm 64), (v_mm 65), (v_mm 66), (v_mm 67), (v_mm 68), (v_mm 69), (v_mm 70)]))), (h_tp, .inl (cy_tp, 600, .inl f54))] := by rw [ef54]; exact hD
  clear ef54
  refine lv_aload_n hx hb dX11_feed_101 rfl (lv_at hl 2 rfl) ?_
  refine lv_aload_n hx hb dX11_feed_102 rfl (lv_at hl 2 rfl) ?_
  refine va_get (D := (dC, dI)) (ci := 8) (v := .int 8) (C := RX11) (T := TX11) (N := 71) hx hb hw iwX11 hown hK hP 0 rfl rfl 14 (by decide) (hw _ w_f_X11_38) (fun _ h9 => h9) rfl dX11_feed_103 ?_
  refine lv_iconst (v := 1) hx hb dX11_feed_106 (by decide) ?_
  refine lv_iadd hx hb dX11_feed_107 ?_
  refine lv_topi (fun z55 ez55 => ?_)
  obtain rfl : z55 = 9 := ez55.trans (by decide)
  refine va_put (D := (dC, dI)) (ci := 8) (v := .int 9) (ty := tyX11 14) (C := RX11) (T := TX11) (N := 71) hx hb hw iwX11 tyX11 tyX11_ok nmX11 hown hK hP hD hS 0 rfl rfl 14 (by decide) (hw _ w_f_X11_38) (fun _ h9 => h9) rfl (tyX11_ok 14 (by decide)) rfl rfl (Nat.le_of_ble_eq_true rfl) dX11_feed_108 (fun H locs hP hD hS => ?_)
  have hP : va_P (dC, dI) cls [(h_mm, .inr (8, (.int 0 :: (v_mm 1) :: (v_mm 2) :: (v_mm 3) :: (v_mm 4) :: (v_mm 5) :: .int 0 :: .int 0 :: (v_mm 8) :: (v_mm 9) :: (v_mm 10) :: (v_mm 11) :: (v_mm 12) :: .ref h_tp :: .int 9 :: (v_mm 15) :: (v_mm 16) :: (v_mm 17) :: (v_mm 18) :: (v_mm 19) :: .int 0 :: .int 0 :: .int (-1) :: (v_mm 23) :: (v_mm 24) :: (v_mm 25) :: (v_mm 26) :: (v_mm 27) :: (v_mm 28) :: (v_mm 29) :: (v_mm 30) :: (v_mm 31) :: (v_mm 32) :: (v_mm 33) :: (v_mm 34) :: (v_mm 35) :: (v_mm 36) :: (v_mm 37) :: (v_mm 38) :: (v_mm 39) :: (v_mm 40) :: (v_mm 41) :: (v_mm 42) :: [(v_mm 43), (v_mm 44), (v_mm 45), (v_mm 46), (v_mm 47), (v_mm 48), (v_mm 49), (v_mm 50), .int 0, .int 0, .int 0, .int 0, (v_mm 55), .int 0, (v_mm 57), .int 0, (v_mm 59), .int 0, .int 0, (v_mm 62), .int 0, (v_mm 64), (v_mm 65), (v_mm 66), (v_mm 67), (v_mm 68), (v_mm 69), (v_mm 70)]))), (h_tp, .inl (cy_tp, 600, .inl f54))] H := hP
  have hD : va_D A [(h_mm, .inr (8, (.int 0 :: (v_mm 1) :: (v_mm 2) :: (v_mm 3) :: (v_mm 4) :: (v_mm 5) :: .int 0 :: .int 0 :: (v_mm 8) :: (v_mm 9) :: (v_mm 10) :: (v_mm 11) :: (v_mm 12) :: .ref h_tp :: .int 9 :: (v_mm 15) :: (v_mm 16) :: (v_mm 17) :: (v_mm 18) :: (v_mm 19) :: .int 0 :: .int 0 :: .int (-1) :: (v_mm 23) :: (v_mm 24) :: (v_mm 25) :: (v_mm 26) :: (v_mm 27) :: (v_mm 28) :: (v_mm 29) :: (v_mm 30) :: (v_mm 31) :: (v_mm 32) :: (v_mm 33) :: (v_mm 34) :: (v_mm 35) :: (v_mm 36) :: (v_mm 37) :: (v_mm 38) :: (v_mm 39) :: (v_mm 40) :: (v_mm 41) :: (v_mm 42) :: [(v_mm 43), (v_mm 44), (v_mm 45), (v_mm 46), (v_mm 47), (v_mm 48), (v_mm 49), (v_mm 50), .int 0, .int 0, .int 0, .int 0, (v_mm 55), .int 0, (v_mm 57), .int 0, (v_mm 59), .int 0, .int 0, (v_mm 62), .int 0, (v_mm 64), (v_mm 65), (v_mm 66), (v_mm 67), (v_mm 68), (v_mm 69), (v_mm 70)]))), (h_tp, .inl (cy_tp, 600, .inl f54))] := hD
  refine lv_iinc (v := 9) (lv' := [(6, .int 9), (7, .int p3), (0, .ref h_mm), (1, .int p1), (2, .int p2), (3, .int p3), (4, .int p4), (5, .int p5)]) hx hb dX11_feed_111 hl (k := 1) rfl (by decide) (by decide) rfl (fun ls hl => ?_)
  refine lv_goto (tgt := 23) hx hb dX11_feed_114 (by decide) ?_
  refine lv_iload hx hb dX11_feed_23 (lv_at hl 0 rfl) ?_
  refine lv_bipush (v := 20) hx hb dX11_feed_25 (by decide) ?_
  refine lv_icmp_ge (tgt := 117) hx hb dX11_feed_27 (by decide) (fun c9 => absurd c9 (by decide)) (fun _ => ?_)
  refine lv_iload hx hb dX11_feed_30 (lv_at hl 0 rfl) ?_
  refine lv_iconst (v := 4) hx hb dX11_feed_32 (by decide) ?_
  refine lv_icmp_ge (tgt := 40) hx hb dX11_feed_33 (by decide) (fun _ => ?_) (fun c9 => absurd c9 (by decide))
  refine lv_iload hx hb dX11_feed_40 (lv_at hl 0 rfl) ?_
  refine lv_bipush (v := 8) hx hb dX11_feed_42 (by decide) ?_
  refine lv_icmp_ge (tgt := 51) hx hb dX11_feed_44 (by decide) (fun _ => ?_) (fun c9 => absurd c9 (by decide))
  refine lv_iload hx hb dX11_feed_51 (lv_at hl 0 rfl) ?_
  refine lv_bipush (v := 12) hx hb dX11_feed_53 (by decide) ?_
  refine lv_icmp_ge (tgt := 62) hx hb dX11_feed_55 (by decide) (fun c9 => absurd c9 (by decide)) (fun _ => ?_)
  refine lv_iload_n hx hb dX11_feed_58 rfl (lv_at hl 5 rfl) ?_
  refine lv_goto (tgt := 76) hx hb dX11_feed_59 (by decide) ?_
  refine lv_istore (lv' := [(7, .int p3), (6, .int 9), (0, .ref h_mm), (1, .int p1), (2, .int p2), (3, .int p3), (4, .int p4), (5, .int p5)]) hx hb dX11_feed_76 hl (by decide) rfl (fun ls hl => ?_)
  refine lv_aload_n hx hb dX11_feed_78 rfl (lv_at hl 2 rfl) ?_
  refine va_get (D := (dC, dI)) (ci := 8) (v := .ref h_tp) (C := RX11) (T := TX11) (N := 71) hx hb hw iwX11 hown hK hP 0 rfl rfl 13 (by decide) (hw _ w_f_X11_41) (fun _ h9 => h9) rfl dX11_feed_79 ?_
  refine lv_aload_n hx hb dX11_feed_82 rfl (lv_at hl 2 rfl) ?_
  refine va_get (D := (dC, dI)) (ci := 8) (v := .int 9) (C := RX11) (T := TX11) (N := 71) hx hb hw iwX11 hown hK hP 0 rfl rfl 14 (by decide) (hw _ w_f_X11_38) (fun _ h9 => h9) rfl dX11_feed_83 ?_
  refine lv_iload hx hb dX11_feed_86 (lv_at hl 0 rfl) ?_
  refine lv_bipush (v := 24) hx hb dX11_feed_88 (by decide) ?_
  refine lv_bipush (v := 8) hx hb dX11_feed_90 (by decide) ?_
  refine lv_iload hx hb dX11_feed_92 (lv_at hl 1 rfl) ?_
  refine lv_iconst (v := 4) hx hb dX11_feed_94 (by decide) ?_
  refine lv_irem hx hb dX11_feed_95 (by decide) ?_
  refine lv_topi (fun z56 ez56 => ?_)
  obtain rfl : z56 = 1 := ez56.trans (by decide)
  refine lv_imul hx hb dX11_feed_96 ?_
  refine lv_topi (fun z57 ez57 => ?_)
  obtain rfl : z57 = 8 := ez57.trans (by decide)
  refine lv_isub hx hb dX11_feed_97 ?_
  refine lv_topi (fun z58 ez58 => ?_)
  obtain rfl : z58 = 16 := ez58.trans (by decide)
  refine lv_ishr hx hb dX11_feed_98 ?_
  refine lv_topi (fun z59 ez59 => ?_)
  refine lv_i2b (v := (z59).toInt8.toInt32) hx hb dX11_feed_99 rfl ?_
  refine va_bast hx hb hK hP hD hS 1 0 rfl rfl (i := 9) (x := (z59).toInt8.toInt32) (show ¬ _ from by decide) dX11_feed_100 (fun H locs hP hD hS => ?_)
  obtain ⟨f60, ef60⟩ : ∃ g : Nat → Int32, g = upd f54 (Int32.toNatClampNeg 9) (vp_nar .byte (z59).toInt8.toInt32) := ⟨_, rfl⟩
  have hP : va_P (dC, dI) cls [(h_mm, .inr (8, (.int 0 :: (v_mm 1) :: (v_mm 2) :: (v_mm 3) :: (v_mm 4) :: (v_mm 5) :: .int 0 :: .int 0 :: (v_mm 8) :: (v_mm 9) :: (v_mm 10) :: (v_mm 11) :: (v_mm 12) :: .ref h_tp :: .int 9 :: (v_mm 15) :: (v_mm 16) :: (v_mm 17) :: (v_mm 18) :: (v_mm 19) :: .int 0 :: .int 0 :: .int (-1) :: (v_mm 23) :: (v_mm 24) :: (v_mm 25) :: (v_mm 26) :: (v_mm 27) :: (v_mm 28) :: (v_mm 29) :: (v_mm 30) :: (v_mm 31) :: (v_mm 32) :: (v_mm 33) :: (v_mm 34) :: (v_mm 35) :: (v_mm 36) :: (v_mm 37) :: (v_mm 38) :: (v_mm 39) :: (v_mm 40) :: (v_mm 41) :: (v_mm 42) :: [(v_mm 43), (v_mm 44), (v_mm 45), (v_mm 46), (v_mm 47), (v_mm 48), (v_mm 49), (v_mm 50), .int 0, .int 0, .int 0, .int 0, (v_mm 55), .int 0, (v_mm 57), .int 0, (v_mm 59), .int 0, .int 0, (v_mm 62), .int 0, (v_mm 64), (v_mm 65), (v_mm 66), (v_mm 67), (v_mm 68), (v_mm 69), (v_mm 70)]))), (h_tp, .inl (cy_tp, 600, .inl f60))] H := by rw [ef60]; exact hP
  have hD : va_D A [(h_mm, .inr (8, (.int 0 :: (v_mm 1) :: (v_mm 2) :: (v_mm 3) :: (v_mm 4) :: (v_mm 5) :: .int 0 :: .int 0 :: (v_mm 8) :: (v_mm 9) :: (v_mm 10) :: (v_mm 11) :: (v_mm 12) :: .ref h_tp :: .int 9 :: (v_mm 15) :: (v_mm 16) :: (v_mm 17) :: (v_mm 18) :: (v_mm 19) :: .int 0 :: .int 0 :: .int (-1) :: (v_mm 23) :: (v_mm 24) :: (v_mm 25) :: (v_mm 26) :: (v_mm 27) :: (v_mm 28) :: (v_mm 29) :: (v_mm 30) :: (v_mm 31) :: (v_mm 32) :: (v_mm 33) :: (v_mm 34) :: (v_mm 35) :: (v_mm 36) :: (v_mm 37) :: (v_mm 38) :: (v_mm 39) :: (v_mm 40) :: (v_mm 41) :: (v_mm 42) :: [(v_mm 43), (v_mm 44), (v_mm 45), (v_mm 46), (v_mm 47), (v_mm 48), (v_mm 49), (v_mm 50), .int 0, .int 0, .int 0, .int 0, (v_mm 55), .int 0, (v_mm 57), .int 0, (v_mm 59), .int 0, .int 0, (v_mm 62), .int 0, (v_mm 64), (v_mm 65), (v_mm 66), (v_mm 67), (v_mm 68), (v_mm 69), (v_mm 70)]))), (h_tp, .inl (cy_tp, 600, .inl f60))] := by rw [ef60]; exact hD
  clear ef60
  refine lv_aload_n hx hb dX11_feed_101 rfl (lv_at hl 2 rfl) ?_
  refine lv_aload_n hx hb dX11_feed_102 rfl (lv_at hl 2 rfl) ?_
  refine va_get (D := (dC, dI)) (ci := 8) (v := .int 9) (C := RX11) (T := TX11) (N := 71) hx hb hw iwX11 hown hK hP 0 rfl rfl 14 (by decide) (hw _ w_f_X11_38) (fun _ h9 => h9) rfl dX11_feed_103 ?_
  refine lv_iconst (v := 1) hx hb dX11_feed_106 (by decide) ?_
  refine lv_iadd hx hb dX11_feed_107 ?_
  refine lv_topi (fun z61 ez61 => ?_)
  obtain rfl : z61 = 10 := ez61.trans (by decide)
  refine va_put (D := (dC, dI)) (ci := 8) (v := .int 10) (ty := tyX11 14) (C := RX11) (T := TX11) (N := 71) hx hb hw iwX11 tyX11 tyX11_ok nmX11 hown hK hP hD hS 0 rfl rfl 14 (by decide) (hw _ w_f_X11_38) (fun _ h9 => h9) rfl (tyX11_ok 14 (by decide)) rfl rfl (Nat.le_of_ble_eq_true rfl) dX11_feed_108 (fun H locs hP hD hS => ?_)
  have hP : va_P (dC, dI) cls [(h_mm, .inr (8, (.int 0 :: (v_mm 1) :: (v_mm 2) :: (v_mm 3) :: (v_mm 4) :: (v_mm 5) :: .int 0 :: .int 0 :: (v_mm 8) :: (v_mm 9) :: (v_mm 10) :: (v_mm 11) :: (v_mm 12) :: .ref h_tp :: .int 10 :: (v_mm 15) :: (v_mm 16) :: (v_mm 17) :: (v_mm 18) :: (v_mm 19) :: .int 0 :: .int 0 :: .int (-1) :: (v_mm 23) :: (v_mm 24) :: (v_mm 25) :: (v_mm 26) :: (v_mm 27) :: (v_mm 28) :: (v_mm 29) :: (v_mm 30) :: (v_mm 31) :: (v_mm 32) :: (v_mm 33) :: (v_mm 34) :: (v_mm 35) :: (v_mm 36) :: (v_mm 37) :: (v_mm 38) :: (v_mm 39) :: (v_mm 40) :: (v_mm 41) :: (v_mm 42) :: [(v_mm 43), (v_mm 44), (v_mm 45), (v_mm 46), (v_mm 47), (v_mm 48), (v_mm 49), (v_mm 50), .int 0, .int 0, .int 0, .int 0, (v_mm 55), .int 0, (v_mm 57), .int 0, (v_mm 59), .int 0, .int 0, (v_mm 62), .int 0, (v_mm 64), (v_mm 65), (v_mm 66), (v_mm 67), (v_mm 68), (v_mm 69), (v_mm 70)]))), (h_tp, .inl (cy_tp, 600, .inl f60))] H := hP
  have hD : va_D A [(h_mm, .inr (8, (.int 0 :: (v_mm 1) :: (v_mm 2) :: (v_mm 3) :: (v_mm 4) :: (v_mm 5) :: .int 0 :: .int 0 :: (v_mm 8) :: (v_mm 9) :: (v_mm 10) :: (v_mm 11) :: (v_mm 12) :: .ref h_tp :: .int 10 :: (v_mm 15) :: (v_mm 16) :: (v_mm 17) :: (v_mm 18) :: (v_mm 19) :: .int 0 :: .int 0 :: .int (-1) :: (v_mm 23) :: (v_mm 24) :: (v_mm 25) :: (v_mm 26) :: (v_mm 27) :: (v_mm 28) :: (v_mm 29) :: (v_mm 30) :: (v_mm 31) :: (v_mm 32) :: (v_mm 33) :: (v_mm 34) :: (v_mm 35) :: (v_mm 36) :: (v_mm 37) :: (v_mm 38) :: (v_mm 39) :: (v_mm 40) :: (v_mm 41) :: (v_mm 42) :: [(v_mm 43), (v_mm 44), (v_mm 45), (v_mm 46), (v_mm 47), (v_mm 48), (v_mm 49), (v_mm 50), .int 0, .int 0, .int 0, .int 0, (v_mm 55), .int 0, (v_mm 57), .int 0, (v_mm 59), .int 0, .int 0, (v_mm 62), .int 0, (v_mm 64), (v_mm 65), (v_mm 66), (v_mm 67), (v_mm 68), (v_mm 69), (v_mm 70)]))), (h_tp, .inl (cy_tp, 600, .inl f60))] := hD
  refine lv_iinc (v := 10) (lv' := [(6, .int 10), (7, .int p3), (0, .ref h_mm), (1, .int p1), (2, .int p2), (3, .int p3), (4, .int p4), (5, .int p5)]) hx hb dX11_feed_111 hl (k := 1) rfl (by decide) (by decide) rfl (fun ls hl => ?_)
  refine lv_goto (tgt := 23) hx hb dX11_feed_114 (by decide) ?_
  refine lv_iload hx hb dX11_feed_23 (lv_at hl 0 rfl) ?_
  refine lv_bipush (v := 20) hx hb dX11_feed_25 (by decide) ?_
  refine lv_icmp_ge (tgt := 117) hx hb dX11_feed_27 (by decide) (fun c9 => absurd c9 (by decide)) (fun _ => ?_)
  refine lv_iload hx hb dX11_feed_30 (lv_at hl 0 rfl) ?_
  refine lv_iconst (v := 4) hx hb dX11_feed_32 (by decide) ?_
  refine lv_icmp_ge (tgt := 40) hx hb dX11_feed_33 (by decide) (fun _ => ?_) (fun c9 => absurd c9 (by decide))
  refine lv_iload hx hb dX11_feed_40 (lv_at hl 0 rfl) ?_
  refine lv_bipush (v := 8) hx hb dX11_feed_42 (by decide) ?_
  refine lv_icmp_ge (tgt := 51) hx hb dX11_feed_44 (by decide) (fun _ => ?_) (fun c9 => absurd c9 (by decide))
  refine lv_iload hx hb dX11_feed_51 (lv_at hl 0 rfl) ?_
  refine lv_bipush (v := 12) hx hb dX11_feed_53 (by decide) ?_
  refine lv_icmp_ge (tgt := 62) hx hb dX11_feed_55 (by decide) (fun c9 => absurd c9 (by decide)) (fun _ => ?_)
  refine lv_iload_n hx hb dX11_feed_58 rfl (lv_at hl 5 rfl) ?_
  refine lv_goto (tgt := 76) hx hb dX11_feed_59 (by decide) ?_
  refine lv_istore (lv' := [(7, .int p3), (6, .int 10), (0, .ref h_mm), (1, .int p1), (2, .int p2), (3, .int p3), (4, .int p4), (5, .int p5)]) hx hb dX11_feed_76 hl (by decide) rfl (fun ls hl => ?_)
  refine lv_aload_n hx hb dX11_feed_78 rfl (lv_at hl 2 rfl) ?_
  refine va_get (D := (dC, dI)) (ci := 8) (v := .ref h_tp) (C := RX11) (T := TX11) (N := 71) hx hb hw iwX11 hown hK hP 0 rfl rfl 13 (by decide) (hw _ w_f_X11_41) (fun _ h9 => h9) rfl dX11_feed_79 ?_
  refine lv_aload_n hx hb dX11_feed_82 rfl (lv_at hl 2 rfl) ?_
  refine va_get (D := (dC, dI)) (ci := 8) (v := .int 10) (C := RX11) (T := TX11) (N := 71) hx hb hw iwX11 hown hK hP 0 rfl rfl 14 (by decide) (hw _ w_f_X11_38) (fun _ h9 => h9) rfl dX11_feed_83 ?_
  refine lv_iload hx hb dX11_feed_86 (lv_at hl 0 rfl) ?_
  refine lv_bipush (v := 24) hx hb dX11_feed_88 (by decide) ?_
  refine lv_bipush (v := 8) hx hb dX11_feed_90 (by decide) ?_
  refine lv_iload hx hb dX11_feed_92 (lv_at hl 1 rfl) ?_
  refine lv_iconst (v := 4) hx hb dX11_feed_94 (by decide) ?_
  refine lv_irem hx hb dX11_feed_95 (by decide) ?_
  refine lv_topi (fun z62 ez62 => ?_)
  obtain rfl : z62 = 2 := ez62.trans (by decide)
  refine lv_imul hx hb dX11_feed_96 ?_
  refine lv_topi (fun z63 ez63 => ?_)
  obtain rfl : z63 = 16 := ez63.trans (by decide)
  refine lv_isub hx hb dX11_feed_97 ?_
  refine lv_topi (fun z64 ez64 => ?_)
  obtain rfl : z64 = 8 := ez64.trans (by decide)
  refine lv_ishr hx hb dX11_feed_98 ?_
  refine lv_topi (fun z65 ez65 => ?_)
  refine lv_i2b (v := (z65).toInt8.toInt32) hx hb dX11_feed_99 rfl ?_
  refine va_bast hx hb hK hP hD hS 1 0 rfl rfl (i := 10) (x := (z65).toInt8.toInt32) (show ¬ _ from by decide) dX11_feed_100 (fun H locs hP hD hS => ?_)
  obtain ⟨f66, ef66⟩ : ∃ g : Nat → Int32, g = upd f60 (Int32.toNatClampNeg 10) (vp_nar .byte (z65).toInt8.toInt32) := ⟨_, rfl⟩
  have hP : va_P (dC, dI) cls [(h_mm, .inr (8, (.int 0 :: (v_mm 1) :: (v_mm 2) :: (v_mm 3) :: (v_mm 4) :: (v_mm 5) :: .int 0 :: .int 0 :: (v_mm 8) :: (v_mm 9) :: (v_mm 10) :: (v_mm 11) :: (v_mm 12) :: .ref h_tp :: .int 10 :: (v_mm 15) :: (v_mm 16) :: (v_mm 17) :: (v_mm 18) :: (v_mm 19) :: .int 0 :: .int 0 :: .int (-1) :: (v_mm 23) :: (v_mm 24) :: (v_mm 25) :: (v_mm 26) :: (v_mm 27) :: (v_mm 28) :: (v_mm 29) :: (v_mm 30) :: (v_mm 31) :: (v_mm 32) :: (v_mm 33) :: (v_mm 34) :: (v_mm 35) :: (v_mm 36) :: (v_mm 37) :: (v_mm 38) :: (v_mm 39) :: (v_mm 40) :: (v_mm 41) :: (v_mm 42) :: [(v_mm 43), (v_mm 44), (v_mm 45), (v_mm 46), (v_mm 47), (v_mm 48), (v_mm 49), (v_mm 50), .int 0, .int 0, .int 0, .int 0, (v_mm 55), .int 0, (v_mm 57), .int 0, (v_mm 59), .int 0, .int 0, (v_mm 62), .int 0, (v_mm 64), (v_mm 65), (v_mm 66), (v_mm 67), (v_mm 68), (v_mm 69), (v_mm 70)]))), (h_tp, .inl (cy_tp, 600, .inl f66))] H := by rw [ef66]; exact hP
  have hD : va_D A [(h_mm, .inr (8, (.int 0 :: (v_mm 1) :: (v_mm 2) :: (v_mm 3) :: (v_mm 4) :: (v_mm 5) :: .int 0 :: .int 0 :: (v_mm 8) :: (v_mm 9) :: (v_mm 10) :: (v_mm 11) :: (v_mm 12) :: .ref h_tp :: .int 10 :: (v_mm 15) :: (v_mm 16) :: (v_mm 17) :: (v_mm 18) :: (v_mm 19) :: .int 0 :: .int 0 :: .int (-1) :: (v_mm 23) :: (v_mm 24) :: (v_mm 25) :: (v_mm 26) :: (v_mm 27) :: (v_mm 28) :: (v_mm 29) :: (v_mm 30) :: (v_mm 31) :: (v_mm 32) :: (v_mm 33) :: (v_mm 34) :: (v_mm 35) :: (v_mm 36) :: (v_mm 37) :: (v_mm 38) :: (v_mm 39) :: (v_mm 40) :: (v_mm 41) :: (v_mm 42) :: [(v_mm 43), (v_mm 44), (v_mm 45), (v_mm 46), (v_mm 47), (v_mm 48), (v_mm 49), (v_mm 50), .int 0, .int 0, .int 0, .int 0, (v_mm 55), .int 0, (v_mm 57), .int 0, (v_mm 59), .int 0, .int 0, (v_mm 62), .int 0, (v_mm 64), (v_mm 65), (v_mm 66), (v_mm 67), (v_mm 68), (v_mm 69), (v_mm 70)]))), (h_tp, .inl (cy_tp, 600, .inl f66))] := by rw [ef66]; exact hD
  clear ef66
  refine lv_aload_n hx hb dX11_feed_101 rfl (lv_at hl 2 rfl) ?_
  refine lv_aload_n hx hb dX11_feed_102 rfl (lv_at hl 2 rfl) ?_
  refine va_get (D := (dC, dI)) (ci := 8) (v := .int 10) (C := RX11) (T := TX11) (N := 71) hx hb hw iwX11 hown hK hP 0 rfl rfl 14 (by decide) (hw _ w_f_X11_38) (fun _ h9 => h9) rfl dX11_feed_103 ?_
  refine lv_iconst (v := 1) hx hb dX11_feed_106 (by decide) ?_
  refine lv_iadd hx hb dX11_feed_107 ?_
  refine lv_topi (fun z67 ez67 => ?_)
  obtain rfl : z67 = 11 := ez67.trans (by decide)
  refine va_put (D := (dC, dI)) (ci := 8) (v := .int 11) (ty := tyX11 14) (C := RX11) (T := TX11) (N := 71) hx hb hw iwX11 tyX11 tyX11_ok nmX11 hown hK hP hD hS 0 rfl rfl 14 (by decide) (hw _ w_f_X11_38) (fun _ h9 => h9) rfl (tyX11_ok 14 (by decide)) rfl rfl (Nat.le_of_ble_eq_true rfl) dX11_feed_108 (fun H locs hP hD hS => ?_)
  have hP : va_P (dC, dI) cls [(h_mm, .inr (8, (.int 0 :: (v_mm 1) :: (v_mm 2) :: (v_mm 3) :: (v_mm 4) :: (v_mm 5) :: .int 0 :: .int 0 :: (v_mm 8) :: (v_mm 9) :: (v_mm 10) :: (v_mm 11) :: (v_mm 12) :: .ref h_tp :: .int 11 :: (v_mm 15) :: (v_mm 16) :: (v_mm 17) :: (v_mm 18) :: (v_mm 19) :: .int 0 :: .int 0 :: .int (-1) :: (v_mm 23) :: (v_mm 24) :: (v_mm 25) :: (v_mm 26) :: (v_mm 27) :: (v_mm 28) :: (v_mm 29) :: (v_mm 30) :: (v_mm 31) :: (v_mm 32) :: (v_mm 33) :: (v_mm 34) :: (v_mm 35) :: (v_mm 36) :: (v_mm 37) :: (v_mm 38) :: (v_mm 39) :: (v_mm 40) :: (v_mm 41) :: (v_mm 42) :: [(v_mm 43), (v_mm 44), (v_mm 45), (v_mm 46), (v_mm 47), (v_mm 48), (v_mm 49), (v_mm 50), .int 0, .int 0, .int 0, .int 0, (v_mm 55), .int 0, (v_mm 57), .int 0, (v_mm 59), .int 0, .int 0, (v_mm 62), .int 0, (v_mm 64), (v_mm 65), (v_mm 66), (v_mm 67), (v_mm 68), (v_mm 69), (v_mm 70)]))), (h_tp, .inl (cy_tp, 600, .inl f66))] H := hP
  have hD : va_D A [(h_mm, .inr (8, (.int 0 :: (v_mm 1) :: (v_mm 2) :: (v_mm 3) :: (v_mm 4) :: (v_mm 5) :: .int 0 :: .int 0 :: (v_mm 8) :: (v_mm 9) :: (v_mm 10) :: (v_mm 11) :: (v_mm 12) :: .ref h_tp :: .int 11 :: (v_mm 15) :: (v_mm 16) :: (v_mm 17) :: (v_mm 18) :: (v_mm 19) :: .int 0 :: .int 0 :: .int (-1) :: (v_mm 23) :: (v_mm 24) :: (v_mm 25) :: (v_mm 26) :: (v_mm 27) :: (v_mm 28) :: (v_mm 29) :: (v_mm 30) :: (v_mm 31) :: (v_mm 32) :: (v_mm 33) :: (v_mm 34) :: (v_mm 35) :: (v_mm 36) :: (v_mm 37) :: (v_mm 38) :: (v_mm 39) :: (v_mm 40) :: (v_mm 41) :: (v_mm 42) :: [(v_mm 43), (v_mm 44), (v_mm 45), (v_mm 46), (v_mm 47), (v_mm 48), (v_mm 49), (v_mm 50), .int 0, .int 0, .int 0, .int 0, (v_mm 55), .int 0, (v_mm 57), .int 0, (v_mm 59), .int 0, .int 0, (v_mm 62), .int 0, (v_mm 64), (v_mm 65), (v_mm 66), (v_mm 67), (v_mm 68), (v_mm 69), (v_mm 70)]))), (h_tp, .inl (cy_tp, 600, .inl f66))] := hD
  refine lv_iinc (v := 11) (lv' := [(6, .int 11), (7, .int p3), (0, .ref h_mm), (1, .int p1), (2, .int p2), (3, .int p3), (4, .int p4), (5, .int p5)]) hx hb dX11_feed_111 hl (k := 1) rfl (by decide) (by decide) rfl (fun ls hl => ?_)
  refine lv_goto (tgt := 23) hx hb dX11_feed_114 (by decide) ?_
  refine lv_iload hx hb dX11_feed_23 (lv_at hl 0 rfl) ?_
  refine lv_bipush (v := 20) hx hb dX11_feed_25 (by decide) ?_
  refine lv_icmp_ge (tgt := 117) hx hb dX11_feed_27 (by decide) (fun c9 => absurd c9 (by decide)) (fun _ => ?_)
  refine lv_iload hx hb dX11_feed_30 (lv_at hl 0 rfl) ?_
  refine lv_iconst (v := 4) hx hb dX11_feed_32 (by decide) ?_
  refine lv_icmp_ge (tgt := 40) hx hb dX11_feed_33 (by decide) (fun _ => ?_) (fun c9 => absurd c9 (by decide))
  refine lv_iload hx hb dX11_feed_40 (lv_at hl 0 rfl) ?_
  refine lv_bipush (v := 8) hx hb dX11_feed_42 (by decide) ?_
  refine lv_icmp_ge (tgt := 51) hx hb dX11_feed_44 (by decide) (fun _ => ?_) (fun c9 => absurd c9 (by decide))
  refine lv_iload hx hb dX11_feed_51 (lv_at hl 0 rfl) ?_
  refine lv_bipush (v := 12) hx hb dX11_feed_53 (by decide) ?_
  refine lv_icmp_ge (tgt := 62) hx hb dX11_feed_55 (by decide) (fun c9 => absurd c9 (by decide)) (fun _ => ?_)
  refine lv_iload_n hx hb dX11_feed_58 rfl (lv_at hl 5 rfl) ?_
  refine lv_goto (tgt := 76) hx hb dX11_feed_59 (by decide) ?_
  refine lv_istore (lv' := [(7, .int p3), (6, .int 11), (0, .ref h_mm), (1, .int p1), (2, .int p2), (3, .int p3), (4, .int p4), (5, .int p5)]) hx hb dX11_feed_76 hl (by decide) rfl (fun ls hl => ?_)
  refine lv_aload_n hx hb dX11_feed_78 rfl (lv_at hl 2 rfl) ?_
  refine va_get (D := (dC, dI)) (ci := 8) (v := .ref h_tp) (C := RX11) (T := TX11) (N := 71) hx hb hw iwX11 hown hK hP 0 rfl rfl 13 (by decide) (hw _ w_f_X11_41) (fun _ h9 => h9) rfl dX11_feed_79 ?_
  refine lv_aload_n hx hb dX11_feed_82 rfl (lv_at hl 2 rfl) ?_
  refine va_get (D := (dC, dI)) (ci := 8) (v := .int 11) (C := RX11) (T := TX11) (N := 71) hx hb hw iwX11 hown hK hP 0 rfl rfl 14 (by decide) (hw _ w_f_X11_38) (fun _ h9 => h9) rfl dX11_feed_83 ?_
  refine lv_iload hx hb dX11_feed_86 (lv_at hl 0 rfl) ?_
  refine lv_bipush (v := 24) hx hb dX11_feed_88 (by decide) ?_
  refine lv_bipush (v := 8) hx hb dX11_feed_90 (by decide) ?_
  refine lv_iload hx hb dX11_feed_92 (lv_at hl 1 rfl) ?_
  refine lv_iconst (v := 4) hx hb dX11_feed_94 (by decide) ?_
  refine lv_irem hx hb dX11_feed_95 (by decide) ?_
  refine lv_topi (fun z68 ez68 => ?_)
  obtain rfl : z68 = 3 := ez68.trans (by decide)
  refine lv_imul hx hb dX11_feed_96 ?_
  refine lv_topi (fun z69 ez69 => ?_)
  obtain rfl : z69 = 24 := ez69.trans (by decide)
  refine lv_isub hx hb dX11_feed_97 ?_
  refine lv_topi (fun z70 ez70 => ?_)
  obtain rfl : z70 = 0 := ez70.trans (by decide)
  refine lv_ishr hx hb dX11_feed_98 ?_
  refine lv_topi (fun z71 ez71 => ?_)
  refine lv_i2b (v := (z71).toInt8.toInt32) hx hb dX11_feed_99 rfl ?_
  refine va_bast hx hb hK hP hD hS 1 0 rfl rfl (i := 11) (x := (z71).toInt8.toInt32) (show ¬ _ from by decide) dX11_feed_100 (fun H locs hP hD hS => ?_)
  obtain ⟨f72, ef72⟩ : ∃ g : Nat → Int32, g = upd f66 (Int32.toNatClampNeg 11) (vp_nar .byte (z71).toInt8.toInt32) := ⟨_, rfl⟩
  have hP : va_P (dC, dI) cls [(h_mm, .inr (8, (.int 0 :: (v_mm 1) :: (v_mm 2) :: (v_mm 3) :: (v_mm 4) :: (v_mm 5) :: .int 0 :: .int 0 :: (v_mm 8) :: (v_mm 9) :: (v_mm 10) :: (v_mm 11) :: (v_mm 12) :: .ref h_tp :: .int 11 :: (v_mm 15) :: (v_mm 16) :: (v_mm 17) :: (v_mm 18) :: (v_mm 19) :: .int 0 :: .int 0 :: .int (-1) :: (v_mm 23) :: (v_mm 24) :: (v_mm 25) :: (v_mm 26) :: (v_mm 27) :: (v_mm 28) :: (v_mm 29) :: (v_mm 30) :: (v_mm 31) :: (v_mm 32) :: (v_mm 33) :: (v_mm 34) :: (v_mm 35) :: (v_mm 36) :: (v_mm 37) :: (v_mm 38) :: (v_mm 39) :: (v_mm 40) :: (v_mm 41) :: (v_mm 42) :: [(v_mm 43), (v_mm 44), (v_mm 45), (v_mm 46), (v_mm 47), (v_mm 48), (v_mm 49), (v_mm 50), .int 0, .int 0, .int 0, .int 0, (v_mm 55), .int 0, (v_mm 57), .int 0, (v_mm 59), .int 0, .int 0, (v_mm 62), .int 0, (v_mm 64), (v_mm 65), (v_mm 66), (v_mm 67), (v_mm 68), (v_mm 69), (v_mm 70)]))), (h_tp, .inl (cy_tp, 600, .inl f72))] H := by rw [ef72]; exact hP
  have hD : va_D A [(h_mm, .inr (8, (.int 0 :: (v_mm 1) :: (v_mm 2) :: (v_mm 3) :: (v_mm 4) :: (v_mm 5) :: .int 0 :: .int 0 :: (v_mm 8) :: (v_mm 9) :: (v_mm 10) :: (v_mm 11) :: (v_mm 12) :: .ref h_tp :: .int 11 :: (v_mm 15) :: (v_mm 16) :: (v_mm 17) :: (v_mm 18) :: (v_mm 19) :: .int 0 :: .int 0 :: .int (-1) :: (v_mm 23) :: (v_mm 24) :: (v_mm 25) :: (v_mm 26) :: (v_mm 27) :: (v_mm 28) :: (v_mm 29) :: (v_mm 30) :: (v_mm 31) :: (v_mm 32) :: (v_mm 33) :: (v_mm 34) :: (v_mm 35) :: (v_mm 36) :: (v_mm 37) :: (v_mm 38) :: (v_mm 39) :: (v_mm 40) :: (v_mm 41) :: (v_mm 42) :: [(v_mm 43), (v_mm 44), (v_mm 45), (v_mm 46), (v_mm 47), (v_mm 48), (v_mm 49), (v_mm 50), .int 0, .int 0, .int 0, .int 0, (v_mm 55), .int 0, (v_mm 57), .int 0, (v_mm 59), .int 0, .int 0, (v_mm 62), .int 0, (v_mm 64), (v_mm 65), (v_mm 66), (v_mm 67), (v_mm 68), (v_mm 69), (v_mm 70)]))), (h_tp, .inl (cy_tp, 600, .inl f72))] := by rw [ef72]; exact hD
  clear ef72
  refine lv_aload_n hx hb dX11_feed_101 rfl (lv_at hl 2 rfl) ?_
  refine lv_aload_n hx hb dX11_feed_102 rfl (lv_at hl 2 rfl) ?_
  refine va_get (D := (dC, dI)) (ci := 8) (v := .int 11) (C := RX11) (T := TX11) (N := 71) hx hb hw iwX11 hown hK hP 0 rfl rfl 14 (by decide) (hw _ w_f_X11_38) (fun _ h9 => h9) rfl dX11_feed_103 ?_
  refine lv_iconst (v := 1) hx hb dX11_feed_106 (by decide) ?_
  refine lv_iadd hx hb dX11_feed_107 ?_
  refine lv_topi (fun z73 ez73 => ?_)
  obtain rfl : z73 = 12 := ez73.trans (by decide)
  refine va_put (D := (dC, dI)) (ci := 8) (v := .int 12) (ty := tyX11 14) (C := RX11) (T := TX11) (N := 71) hx hb hw iwX11 tyX11 tyX11_ok nmX11 hown hK hP hD hS 0 rfl rfl 14 (by decide) (hw _ w_f_X11_38) (fun _ h9 => h9) rfl (tyX11_ok 14 (by decide)) rfl rfl (Nat.le_of_ble_eq_true rfl) dX11_feed_108 (fun H locs hP hD hS => ?_)
  have hP : va_P (dC, dI) cls [(h_mm, .inr (8, (.int 0 :: (v_mm 1) :: (v_mm 2) :: (v_mm 3) :: (v_mm 4) :: (v_mm 5) :: .int 0 :: .int 0 :: (v_mm 8) :: (v_mm 9) :: (v_mm 10) :: (v_mm 11) :: (v_mm 12) :: .ref h_tp :: .int 12 :: (v_mm 15) :: (v_mm 16) :: (v_mm 17) :: (v_mm 18) :: (v_mm 19) :: .int 0 :: .int 0 :: .int (-1) :: (v_mm 23) :: (v_mm 24) :: (v_mm 25) :: (v_mm 26) :: (v_mm 27) :: (v_mm 28) :: (v_mm 29) :: (v_mm 30) :: (v_mm 31) :: (v_mm 32) :: (v_mm 33) :: (v_mm 34) :: (v_mm 35) :: (v_mm 36) :: (v_mm 37) :: (v_mm 38) :: (v_mm 39) :: (v_mm 40) :: (v_mm 41) :: (v_mm 42) :: [(v_mm 43), (v_mm 44), (v_mm 45), (v_mm 46), (v_mm 47), (v_mm 48), (v_mm 49), (v_mm 50), .int 0, .int 0, .int 0, .int 0, (v_mm 55), .int 0, (v_mm 57), .int 0, (v_mm 59), .int 0, .int 0, (v_mm 62), .int 0, (v_mm 64), (v_mm 65), (v_mm 66), (v_mm 67), (v_mm 68), (v_mm 69), (v_mm 70)]))), (h_tp, .inl (cy_tp, 600, .inl f72))] H := hP
  have hD : va_D A [(h_mm, .inr (8, (.int 0 :: (v_mm 1) :: (v_mm 2) :: (v_mm 3) :: (v_mm 4) :: (v_mm 5) :: .int 0 :: .int 0 :: (v_mm 8) :: (v_mm 9) :: (v_mm 10) :: (v_mm 11) :: (v_mm 12) :: .ref h_tp :: .int 12 :: (v_mm 15) :: (v_mm 16) :: (v_mm 17) :: (v_mm 18) :: (v_mm 19) :: .int 0 :: .int 0 :: .int (-1) :: (v_mm 23) :: (v_mm 24) :: (v_mm 25) :: (v_mm 26) :: (v_mm 27) :: (v_mm 28) :: (v_mm 29) :: (v_mm 30) :: (v_mm 31) :: (v_mm 32) :: (v_mm 33) :: (v_mm 34) :: (v_mm 35) :: (v_mm 36) :: (v_mm 37) :: (v_mm 38) :: (v_mm 39) :: (v_mm 40) :: (v_mm 41) :: (v_mm 42) :: [(v_mm 43), (v_mm 44), (v_mm 45), (v_mm 46), (v_mm 47), (v_mm 48), (v_mm 49), (v_mm 50), .int 0, .int 0, .int 0, .int 0, (v_mm 55), .int 0, (v_mm 57), .int 0, (v_mm 59), .int 0, .int 0, (v_mm 62), .int 0, (v_mm 64), (v_mm 65), (v_mm 66), (v_mm 67), (v_mm 68), (v_mm 69), (v_mm 70)]))), (h_tp, .inl (cy_tp, 600, .inl f72))] := hD
  refine lv_iinc (v := 12) (lv' := [(6, .int 12), (7, .int p3), (0, .ref h_mm), (1, .int p1), (2, .int p2), (3, .int p3), (4, .int p4), (5, .int p5)]) hx hb dX11_feed_111 hl (k := 1) rfl (by decide) (by decide) rfl (fun ls hl => ?_)
  refine lv_goto (tgt := 23) hx hb dX11_feed_114 (by decide) ?_
  refine lv_iload hx hb dX11_feed_23 (lv_at hl 0 rfl) ?_
  refine lv_bipush (v := 20) hx hb dX11_feed_25 (by decide) ?_
  refine lv_icmp_ge (tgt := 117) hx hb dX11_feed_27 (by decide) (fun c9 => absurd c9 (by decide)) (fun _ => ?_)
  refine lv_iload hx hb dX11_feed_30 (lv_at hl 0 rfl) ?_
  refine lv_iconst (v := 4) hx hb dX11_feed_32 (by decide) ?_
  refine lv_icmp_ge (tgt := 40) hx hb dX11_feed_33 (by decide) (fun _ => ?_) (fun c9 => absurd c9 (by decide))
  refine lv_iload hx hb dX11_feed_40 (lv_at hl 0 rfl) ?_
  refine lv_bipush (v := 8) hx hb dX11_feed_42 (by decide) ?_
  refine lv_icmp_ge (tgt := 51) hx hb dX11_feed_44 (by decide) (fun _ => ?_) (fun c9 => absurd c9 (by decide))
  refine lv_iload hx hb dX11_feed_51 (lv_at hl 0 rfl) ?_
  refine lv_bipush (v := 12) hx hb dX11_feed_53 (by decide) ?_
  refine lv_icmp_ge (tgt := 62) hx hb dX11_feed_55 (by decide) (fun _ => ?_) (fun c9 => absurd c9 (by decide))
  refine lv_iload hx hb dX11_feed_62 (lv_at hl 0 rfl) ?_
  refine lv_bipush (v := 16) hx hb dX11_feed_64 (by decide) ?_
  refine lv_icmp_ge (tgt := 74) hx hb dX11_feed_66 (by decide) (fun c9 => absurd c9 (by decide)) (fun _ => ?_)
  refine lv_iload hx hb dX11_feed_69 (lv_at hl 6 rfl) ?_
  refine lv_goto (tgt := 76) hx hb dX11_feed_71 (by decide) ?_
  refine lv_istore (lv' := [(7, .int p4), (6, .int 12), (0, .ref h_mm), (1, .int p1), (2, .int p2), (3, .int p3), (4, .int p4), (5, .int p5)]) hx hb dX11_feed_76 hl (by decide) rfl (fun ls hl => ?_)
  refine lv_aload_n hx hb dX11_feed_78 rfl (lv_at hl 2 rfl) ?_
  refine va_get (D := (dC, dI)) (ci := 8) (v := .ref h_tp) (C := RX11) (T := TX11) (N := 71) hx hb hw iwX11 hown hK hP 0 rfl rfl 13 (by decide) (hw _ w_f_X11_41) (fun _ h9 => h9) rfl dX11_feed_79 ?_
  refine lv_aload_n hx hb dX11_feed_82 rfl (lv_at hl 2 rfl) ?_
  refine va_get (D := (dC, dI)) (ci := 8) (v := .int 12) (C := RX11) (T := TX11) (N := 71) hx hb hw iwX11 hown hK hP 0 rfl rfl 14 (by decide) (hw _ w_f_X11_38) (fun _ h9 => h9) rfl dX11_feed_83 ?_
  refine lv_iload hx hb dX11_feed_86 (lv_at hl 0 rfl) ?_
  refine lv_bipush (v := 24) hx hb dX11_feed_88 (by decide) ?_
  refine lv_bipush (v := 8) hx hb dX11_feed_90 (by decide) ?_
  refine lv_iload hx hb dX11_feed_92 (lv_at hl 1 rfl) ?_
  refine lv_iconst (v := 4) hx hb dX11_feed_94 (by decide) ?_
  refine lv_irem hx hb dX11_feed_95 (by decide) ?_
  refine lv_topi (fun z74 ez74 => ?_)
  obtain rfl : z74 = 0 := ez74.trans (by decide)
  refine lv_imul hx hb dX11_feed_96 ?_
  refine lv_topi (fun z75 ez75 => ?_)
  obtain rfl : z75 = 0 := ez75.trans (by decide)
  refine lv_isub hx hb dX11_feed_97 ?_
  refine lv_topi (fun z76 ez76 => ?_)
  obtain rfl : z76 = 24 := ez76.trans (by decide)
  refine lv_ishr hx hb dX11_feed_98 ?_
  refine lv_topi (fun z77 ez77 => ?_)
  refine lv_i2b (v := (z77).toInt8.toInt32) hx hb dX11_feed_99 rfl ?_
  refine va_bast hx hb hK hP hD hS 1 0 rfl rfl (i := 12) (x := (z77).toInt8.toInt32) (show ¬ _ from by decide) dX11_feed_100 (fun H locs hP hD hS => ?_)
  obtain ⟨f78, ef78⟩ : ∃ g : Nat → Int32, g = upd f72 (Int32.toNatClampNeg 12) (vp_nar .byte (z77).toInt8.toInt32) := ⟨_, rfl⟩
  have hP : va_P (dC, dI) cls [(h_mm, .inr (8, (.int 0 :: (v_mm 1) :: (v_mm 2) :: (v_mm 3) :: (v_mm 4) :: (v_mm 5) :: .int 0 :: .int 0 :: (v_mm 8) :: (v_mm 9) :: (v_mm 10) :: (v_mm 11) :: (v_mm 12) :: .ref h_tp :: .int 12 :: (v_mm 15) :: (v_mm 16) :: (v_mm 17) :: (v_mm 18) :: (v_mm 19) :: .int 0 :: .int 0 :: .int (-1) :: (v_mm 23) :: (v_mm 24) :: (v_mm 25) :: (v_mm 26) :: (v_mm 27) :: (v_mm 28) :: (v_mm 29) :: (v_mm 30) :: (v_mm 31) :: (v_mm 32) :: (v_mm 33) :: (v_mm 34) :: (v_mm 35) :: (v_mm 36) :: (v_mm 37) :: (v_mm 38) :: (v_mm 39) :: (v_mm 40) :: (v_mm 41) :: (v_mm 42) :: [(v_mm 43), (v_mm 44), (v_mm 45), (v_mm 46), (v_mm 47), (v_mm 48), (v_mm 49), (v_mm 50), .int 0, .int 0, .int 0, .int 0, (v_mm 55), .int 0, (v_mm 57), .int 0, (v_mm 59), .int 0, .int 0, (v_mm 62), .int 0, (v_mm 64), (v_mm 65), (v_mm 66), (v_mm 67), (v_mm 68), (v_mm 69), (v_mm 70)]))), (h_tp, .inl (cy_tp, 600, .inl f78))] H := by rw [ef78]; exact hP
  have hD : va_D A [(h_mm, .inr (8, (.int 0 :: (v_mm 1) :: (v_mm 2) :: (v_mm 3) :: (v_mm 4) :: (v_mm 5) :: .int 0 :: .int 0 :: (v_mm 8) :: (v_mm 9) :: (v_mm 10) :: (v_mm 11) :: (v_mm 12) :: .ref h_tp :: .int 12 :: (v_mm 15) :: (v_mm 16) :: (v_mm 17) :: (v_mm 18) :: (v_mm 19) :: .int 0 :: .int 0 :: .int (-1) :: (v_mm 23) :: (v_mm 24) :: (v_mm 25) :: (v_mm 26) :: (v_mm 27) :: (v_mm 28) :: (v_mm 29) :: (v_mm 30) :: (v_mm 31) :: (v_mm 32) :: (v_mm 33) :: (v_mm 34) :: (v_mm 35) :: (v_mm 36) :: (v_mm 37) :: (v_mm 38) :: (v_mm 39) :: (v_mm 40) :: (v_mm 41) :: (v_mm 42) :: [(v_mm 43), (v_mm 44), (v_mm 45), (v_mm 46), (v_mm 47), (v_mm 48), (v_mm 49), (v_mm 50), .int 0, .int 0, .int 0, .int 0, (v_mm 55), .int 0, (v_mm 57), .int 0, (v_mm 59), .int 0, .int 0, (v_mm 62), .int 0, (v_mm 64), (v_mm 65), (v_mm 66), (v_mm 67), (v_mm 68), (v_mm 69), (v_mm 70)]))), (h_tp, .inl (cy_tp, 600, .inl f78))] := by rw [ef78]; exact hD
  clear ef78
  refine lv_aload_n hx hb dX11_feed_101 rfl (lv_at hl 2 rfl) ?_
  refine lv_aload_n hx hb dX11_feed_102 rfl (lv_at hl 2 rfl) ?_
  refine va_get (D := (dC, dI)) (ci := 8) (v := .int 12) (C := RX11) (T := TX11) (N := 71) hx hb hw iwX11 hown hK hP 0 rfl rfl 14 (by decide) (hw _ w_f_X11_38) (fun _ h9 => h9) rfl dX11_feed_103 ?_
  refine lv_iconst (v := 1) hx hb dX11_feed_106 (by decide) ?_
  refine lv_iadd hx hb dX11_feed_107 ?_
  refine lv_topi (fun z79 ez79 => ?_)
  obtain rfl : z79 = 13 := ez79.trans (by decide)
  refine va_put (D := (dC, dI)) (ci := 8) (v := .int 13) (ty := tyX11 14) (C := RX11) (T := TX11) (N := 71) hx hb hw iwX11 tyX11 tyX11_ok nmX11 hown hK hP hD hS 0 rfl rfl 14 (by decide) (hw _ w_f_X11_38) (fun _ h9 => h9) rfl (tyX11_ok 14 (by decide)) rfl rfl (Nat.le_of_ble_eq_true rfl) dX11_feed_108 (fun H locs hP hD hS => ?_)
  have hP : va_P (dC, dI) cls [(h_mm, .inr (8, (.int 0 :: (v_mm 1) :: (v_mm 2) :: (v_mm 3) :: (v_mm 4) :: (v_mm 5) :: .int 0 :: .int 0 :: (v_mm 8) :: (v_mm 9) :: (v_mm 10) :: (v_mm 11) :: (v_mm 12) :: .ref h_tp :: .int 13 :: (v_mm 15) :: (v_mm 16) :: (v_mm 17) :: (v_mm 18) :: (v_mm 19) :: .int 0 :: .int 0 :: .int (-1) :: (v_mm 23) :: (v_mm 24) :: (v_mm 25) :: (v_mm 26) :: (v_mm 27) :: (v_mm 28) :: (v_mm 29) :: (v_mm 30) :: (v_mm 31) :: (v_mm 32) :: (v_mm 33) :: (v_mm 34) :: (v_mm 35) :: (v_mm 36) :: (v_mm 37) :: (v_mm 38) :: (v_mm 39) :: (v_mm 40) :: (v_mm 41) :: (v_mm 42) :: [(v_mm 43), (v_mm 44), (v_mm 45), (v_mm 46), (v_mm 47), (v_mm 48), (v_mm 49), (v_mm 50), .int 0, .int 0, .int 0, .int 0, (v_mm 55), .int 0, (v_mm 57), .int 0, (v_mm 59), .int 0, .int 0, (v_mm 62), .int 0, (v_mm 64), (v_mm 65), (v_mm 66), (v_mm 67), (v_mm 68), (v_mm 69), (v_mm 70)]))), (h_tp, .inl (cy_tp, 600, .inl f78))] H := hP
  have hD : va_D A [(h_mm, .inr (8, (.int 0 :: (v_mm 1) :: (v_mm 2) :: (v_mm 3) :: (v_mm 4) :: (v_mm 5) :: .int 0 :: .int 0 :: (v_mm 8) :: (v_mm 9) :: (v_mm 10) :: (v_mm 11) :: (v_mm 12) :: .ref h_tp :: .int 13 :: (v_mm 15) :: (v_mm 16) :: (v_mm 17) :: (v_mm 18) :: (v_mm 19) :: .int 0 :: .int 0 :: .int (-1) :: (v_mm 23) :: (v_mm 24) :: (v_mm 25) :: (v_mm 26) :: (v_mm 27) :: (v_mm 28) :: (v_mm 29) :: (v_mm 30) :: (v_mm 31) :: (v_mm 32) :: (v_mm 33) :: (v_mm 34) :: (v_mm 35) :: (v_mm 36) :: (v_mm 37) :: (v_mm 38) :: (v_mm 39) :: (v_mm 40) :: (v_mm 41) :: (v_mm 42) :: [(v_mm 43), (v_mm 44), (v_mm 45), (v_mm 46), (v_mm 47), (v_mm 48), (v_mm 49), (v_mm 50), .int 0, .int 0, .int 0, .int 0, (v_mm 55), .int 0, (v_mm 57), .int 0, (v_mm 59), .int 0, .int 0, (v_mm 62), .int 0, (v_mm 64), (v_mm 65), (v_mm 66), (v_mm 67), (v_mm 68), (v_mm 69), (v_mm 70)]))), (h_tp, .inl (cy_tp, 600, .inl f78))] := hD
  refine lv_iinc (v := 13) (lv' := [(6, .int 13), (7, .int p4), (0, .ref h_mm), (1, .int p1), (2, .int p2), (3, .int p3), (4, .int p4), (5, .int p5)]) hx hb dX11_feed_111 hl (k := 1) rfl (by decide) (by decide) rfl (fun ls hl => ?_)
  refine lv_goto (tgt := 23) hx hb dX11_feed_114 (by decide) ?_
  refine lv_iload hx hb dX11_feed_23 (lv_at hl 0 rfl) ?_
  refine lv_bipush (v := 20) hx hb dX11_feed_25 (by decide) ?_
  refine lv_icmp_ge (tgt := 117) hx hb dX11_feed_27 (by decide) (fun c9 => absurd c9 (by decide)) (fun _ => ?_)
  refine lv_iload hx hb dX11_feed_30 (lv_at hl 0 rfl) ?_
  refine lv_iconst (v := 4) hx hb dX11_feed_32 (by decide) ?_
  refine lv_icmp_ge (tgt := 40) hx hb dX11_feed_33 (by decide) (fun _ => ?_) (fun c9 => absurd c9 (by decide))
  refine lv_iload hx hb dX11_feed_40 (lv_at hl 0 rfl) ?_
  refine lv_bipush (v := 8) hx hb dX11_feed_42 (by decide) ?_
  refine lv_icmp_ge (tgt := 51) hx hb dX11_feed_44 (by decide) (fun _ => ?_) (fun c9 => absurd c9 (by decide))
  refine lv_iload hx hb dX11_feed_51 (lv_at hl 0 rfl) ?_
  refine lv_bipush (v := 12) hx hb dX11_feed_53 (by decide) ?_
  refine lv_icmp_ge (tgt := 62) hx hb dX11_feed_55 (by decide) (fun _ => ?_) (fun c9 => absurd c9 (by decide))
  refine lv_iload hx hb dX11_feed_62 (lv_at hl 0 rfl) ?_
  refine lv_bipush (v := 16) hx hb dX11_feed_64 (by decide) ?_
  refine lv_icmp_ge (tgt := 74) hx hb dX11_feed_66 (by decide) (fun c9 => absurd c9 (by decide)) (fun _ => ?_)
  refine lv_iload hx hb dX11_feed_69 (lv_at hl 6 rfl) ?_
  refine lv_goto (tgt := 76) hx hb dX11_feed_71 (by decide) ?_
  refine lv_istore (lv' := [(7, .int p4), (6, .int 13), (0, .ref h_mm), (1, .int p1), (2, .int p2), (3, .int p3), (4, .int p4), (5, .int p5)]) hx hb dX11_feed_76 hl (by decide) rfl (fun ls hl => ?_)
  refine lv_aload_n hx hb dX11_feed_78 rfl (lv_at hl 2 rfl) ?_
  refine va_get (D := (dC, dI)) (ci := 8) (v := .ref h_tp) (C := RX11) (T := TX11) (N := 71) hx hb hw iwX11 hown hK hP 0 rfl rfl 13 (by decide) (hw _ w_f_X11_41) (fun _ h9 => h9) rfl dX11_feed_79 ?_
  refine lv_aload_n hx hb dX11_feed_82 rfl (lv_at hl 2 rfl) ?_
  refine va_get (D := (dC, dI)) (ci := 8) (v := .int 13) (C := RX11) (T := TX11) (N := 71) hx hb hw iwX11 hown hK hP 0 rfl rfl 14 (by decide) (hw _ w_f_X11_38) (fun _ h9 => h9) rfl dX11_feed_83 ?_
  refine lv_iload hx hb dX11_feed_86 (lv_at hl 0 rfl) ?_
  refine lv_bipush (v := 24) hx hb dX11_feed_88 (by decide) ?_
  refine lv_bipush (v := 8) hx hb dX11_feed_90 (by decide) ?_
  refine lv_iload hx hb dX11_feed_92 (lv_at hl 1 rfl) ?_
  refine lv_iconst (v := 4) hx hb dX11_feed_94 (by decide) ?_
  refine lv_irem hx hb dX11_feed_95 (by decide) ?_
  refine lv_topi (fun z80 ez80 => ?_)
  obtain rfl : z80 = 1 := ez80.trans (by decide)
  refine lv_imul hx hb dX11_feed_96 ?_
  refine lv_topi (fun z81 ez81 => ?_)
  obtain rfl : z81 = 8 := ez81.trans (by decide)
  refine lv_isub hx hb dX11_feed_97 ?_
  refine lv_topi (fun z82 ez82 => ?_)
  obtain rfl : z82 = 16 := ez82.trans (by decide)
  refine lv_ishr hx hb dX11_feed_98 ?_
  refine lv_topi (fun z83 ez83 => ?_)
  refine lv_i2b (v := (z83).toInt8.toInt32) hx hb dX11_feed_99 rfl ?_
  refine va_bast hx hb hK hP hD hS 1 0 rfl rfl (i := 13) (x := (z83).toInt8.toInt32) (show ¬ _ from by decide) dX11_feed_100 (fun H locs hP hD hS => ?_)
  obtain ⟨f84, ef84⟩ : ∃ g : Nat → Int32, g = upd f78 (Int32.toNatClampNeg 13) (vp_nar .byte (z83).toInt8.toInt32) := ⟨_, rfl⟩
  have hP : va_P (dC, dI) cls [(h_mm, .inr (8, (.int 0 :: (v_mm 1) :: (v_mm 2) :: (v_mm 3) :: (v_mm 4) :: (v_mm 5) :: .int 0 :: .int 0 :: (v_mm 8) :: (v_mm 9) :: (v_mm 10) :: (v_mm 11) :: (v_mm 12) :: .ref h_tp :: .int 13 :: (v_mm 15) :: (v_mm 16) :: (v_mm 17) :: (v_mm 18) :: (v_mm 19) :: .int 0 :: .int 0 :: .int (-1) :: (v_mm 23) :: (v_mm 24) :: (v_mm 25) :: (v_mm 26) :: (v_mm 27) :: (v_mm 28) :: (v_mm 29) :: (v_mm 30) :: (v_mm 31) :: (v_mm 32) :: (v_mm 33) :: (v_mm 34) :: (v_mm 35) :: (v_mm 36) :: (v_mm 37) :: (v_mm 38) :: (v_mm 39) :: (v_mm 40) :: (v_mm 41) :: (v_mm 42) :: [(v_mm 43), (v_mm 44), (v_mm 45), (v_mm 46), (v_mm 47), (v_mm 48), (v_mm 49), (v_mm 50), .int 0, .int 0, .int 0, .int 0, (v_mm 55), .int 0, (v_mm 57), .int 0, (v_mm 59), .int 0, .int 0, (v_mm 62), .int 0, (v_mm 64), (v_mm 65), (v_mm 66), (v_mm 67), (v_mm 68), (v_mm 69), (v_mm 70)]))), (h_tp, .inl (cy_tp, 600, .inl f84))] H := by rw [ef84]; exact hP
  have hD : va_D A [(h_mm, .inr (8, (.int 0 :: (v_mm 1) :: (v_mm 2) :: (v_mm 3) :: (v_mm 4) :: (v_mm 5) :: .int 0 :: .int 0 :: (v_mm 8) :: (v_mm 9) :: (v_mm 10) :: (v_mm 11) :: (v_mm 12) :: .ref h_tp :: .int 13 :: (v_mm 15) :: (v_mm 16) :: (v_mm 17) :: (v_mm 18) :: (v_mm 19) :: .int 0 :: .int 0 :: .int (-1) :: (v_mm 23) :: (v_mm 24) :: (v_mm 25) :: (v_mm 26) :: (v_mm 27) :: (v_mm 28) :: (v_mm 29) :: (v_mm 30) :: (v_mm 31) :: (v_mm 32) :: (v_mm 33) :: (v_mm 34) :: (v_mm 35) :: (v_mm 36) :: (v_mm 37) :: (v_mm 38) :: (v_mm 39) :: (v_mm 40) :: (v_mm 41) :: (v_mm 42) :: [(v_mm 43), (v_mm 44), (v_mm 45), (v_mm 46), (v_mm 47), (v_mm 48), (v_mm 49), (v_mm 50), .int 0, .int 0, .int 0, .int 0, (v_mm 55), .int 0, (v_mm 57), .int 0, (v_mm 59), .int 0, .int 0, (v_mm 62), .int 0, (v_mm 64), (v_mm 65), (v_mm 66), (v_mm 67), (v_mm 68), (v_mm 69), (v_mm 70)]))), (h_tp, .inl (cy_tp, 600, .inl f84))] := by rw [ef84]; exact hD
  clear ef84
  refine lv_aload_n hx hb dX11_feed_101 rfl (lv_at hl 2 rfl) ?_
  refine lv_aload_n hx hb dX11_feed_102 rfl (lv_at hl 2 rfl) ?_
  refine va_get (D := (dC, dI)) (ci := 8) (v := .int 13) (C := RX11) (T := TX11) (N := 71) hx hb hw iwX11 hown hK hP 0 rfl rfl 14 (by decide) (hw _ w_f_X11_38) (fun _ h9 => h9) rfl dX11_feed_103 ?_
  refine lv_iconst (v := 1) hx hb dX11_feed_106 (by decide) ?_
  refine lv_iadd hx hb dX11_feed_107 ?_
  refine lv_topi (fun z85 ez85 => ?_)
  obtain rfl : z85 = 14 := ez85.trans (by decide)
  refine va_put (D := (dC, dI)) (ci := 8) (v := .int 14) (ty := tyX11 14) (C := RX11) (T := TX11) (N := 71) hx hb hw iwX11 tyX11 tyX11_ok nmX11 hown hK hP hD hS 0 rfl rfl 14 (by decide) (hw _ w_f_X11_38) (fun _ h9 => h9) rfl (tyX11_ok 14 (by decide)) rfl rfl (Nat.le_of_ble_eq_true rfl) dX11_feed_108 (fun H locs hP hD hS => ?_)
  have hP : va_P (dC, dI) cls [(h_mm, .inr (8, (.int 0 :: (v_mm 1) :: (v_mm 2) :: (v_mm 3) :: (v_mm 4) :: (v_mm 5) :: .int 0 :: .int 0 :: (v_mm 8) :: (v_mm 9) :: (v_mm 10) :: (v_mm 11) :: (v_mm 12) :: .ref h_tp :: .int 14 :: (v_mm 15) :: (v_mm 16) :: (v_mm 17) :: (v_mm 18) :: (v_mm 19) :: .int 0 :: .int 0 :: .int (-1) :: (v_mm 23) :: (v_mm 24) :: (v_mm 25) :: (v_mm 26) :: (v_mm 27) :: (v_mm 28) :: (v_mm 29) :: (v_mm 30) :: (v_mm 31) :: (v_mm 32) :: (v_mm 33) :: (v_mm 34) :: (v_mm 35) :: (v_mm 36) :: (v_mm 37) :: (v_mm 38) :: (v_mm 39) :: (v_mm 40) :: (v_mm 41) :: (v_mm 42) :: [(v_mm 43), (v_mm 44), (v_mm 45), (v_mm 46), (v_mm 47), (v_mm 48), (v_mm 49), (v_mm 50), .int 0, .int 0, .int 0, .int 0, (v_mm 55), .int 0, (v_mm 57), .int 0, (v_mm 59), .int 0, .int 0, (v_mm 62), .int 0, (v_mm 64), (v_mm 65), (v_mm 66), (v_mm 67), (v_mm 68), (v_mm 69), (v_mm 70)]))), (h_tp, .inl (cy_tp, 600, .inl f84))] H := hP
  have hD : va_D A [(h_mm, .inr (8, (.int 0 :: (v_mm 1) :: (v_mm 2) :: (v_mm 3) :: (v_mm 4) :: (v_mm 5) :: .int 0 :: .int 0 :: (v_mm 8) :: (v_mm 9) :: (v_mm 10) :: (v_mm 11) :: (v_mm 12) :: .ref h_tp :: .int 14 :: (v_mm 15) :: (v_mm 16) :: (v_mm 17) :: (v_mm 18) :: (v_mm 19) :: .int 0 :: .int 0 :: .int (-1) :: (v_mm 23) :: (v_mm 24) :: (v_mm 25) :: (v_mm 26) :: (v_mm 27) :: (v_mm 28) :: (v_mm 29) :: (v_mm 30) :: (v_mm 31) :: (v_mm 32) :: (v_mm 33) :: (v_mm 34) :: (v_mm 35) :: (v_mm 36) :: (v_mm 37) :: (v_mm 38) :: (v_mm 39) :: (v_mm 40) :: (v_mm 41) :: (v_mm 42) :: [(v_mm 43), (v_mm 44), (v_mm 45), (v_mm 46), (v_mm 47), (v_mm 48), (v_mm 49), (v_mm 50), .int 0, .int 0, .int 0, .int 0, (v_mm 55), .int 0, (v_mm 57), .int 0, (v_mm 59), .int 0, .int 0, (v_mm 62), .int 0, (v_mm 64), (v_mm 65), (v_mm 66), (v_mm 67), (v_mm 68), (v_mm 69), (v_mm 70)]))), (h_tp, .inl (cy_tp, 600, .inl f84))] := hD
  refine lv_iinc (v := 14) (lv' := [(6, .int 14), (7, .int p4), (0, .ref h_mm), (1, .int p1), (2, .int p2), (3, .int p3), (4, .int p4), (5, .int p5)]) hx hb dX11_feed_111 hl (k := 1) rfl (by decide) (by decide) rfl (fun ls hl => ?_)
  refine lv_goto (tgt := 23) hx hb dX11_feed_114 (by decide) ?_
  refine lv_iload hx hb dX11_feed_23 (lv_at hl 0 rfl) ?_
  refine lv_bipush (v := 20) hx hb dX11_feed_25 (by decide) ?_
  refine lv_icmp_ge (tgt := 117) hx hb dX11_feed_27 (by decide) (fun c9 => absurd c9 (by decide)) (fun _ => ?_)
  refine lv_iload hx hb dX11_feed_30 (lv_at hl 0 rfl) ?_
  refine lv_iconst (v := 4) hx hb dX11_feed_32 (by decide) ?_
  refine lv_icmp_ge (tgt := 40) hx hb dX11_feed_33 (by decide) (fun _ => ?_) (fun c9 => absurd c9 (by decide))
  refine lv_iload hx hb dX11_feed_40 (lv_at hl 0 rfl) ?_
  refine lv_bipush (v := 8) hx hb dX11_feed_42 (by decide) ?_
  refine lv_icmp_ge (tgt := 51) hx hb dX11_feed_44 (by decide) (fun _ => ?_) (fun c9 => absurd c9 (by decide))
  refine lv_iload hx hb dX11_feed_51 (lv_at hl 0 rfl) ?_
  refine lv_bipush (v := 12) hx hb dX11_feed_53 (by decide) ?_
  refine lv_icmp_ge (tgt := 62) hx hb dX11_feed_55 (by decide) (fun _ => ?_) (fun c9 => absurd c9 (by decide))
  refine lv_iload hx hb dX11_feed_62 (lv_at hl 0 rfl) ?_
  refine lv_bipush (v := 16) hx hb dX11_feed_64 (by decide) ?_
  refine lv_icmp_ge (tgt := 74) hx hb dX11_feed_66 (by decide) (fun c9 => absurd c9 (by decide)) (fun _ => ?_)
  refine lv_iload hx hb dX11_feed_69 (lv_at hl 6 rfl) ?_
  refine lv_goto (tgt := 76) hx hb dX11_feed_71 (by decide) ?_
  refine lv_istore (lv' := [(7, .int p4), (6, .int 14), (0, .ref h_mm), (1, .int p1), (2, .int p2), (3, .int p3), (4, .int p4), (5, .int p5)]) hx hb dX11_feed_76 hl (by decide) rfl (fun ls hl => ?_)
  refine lv_aload_n hx hb dX11_feed_78 rfl (lv_at hl 2 rfl) ?_
  refine va_get (D := (dC, dI)) (ci := 8) (v := .ref h_tp) (C := RX11) (T := TX11) (N := 71) hx hb hw iwX11 hown hK hP 0 rfl rfl 13 (by decide) (hw _ w_f_X11_41) (fun _ h9 => h9) rfl dX11_feed_79 ?_
  refine lv_aload_n hx hb dX11_feed_82 rfl (lv_at hl 2 rfl) ?_
  refine va_get (D := (dC, dI)) (ci := 8) (v := .int 14) (C := RX11) (T := TX11) (N := 71) hx hb hw iwX11 hown hK hP 0 rfl rfl 14 (by decide) (hw _ w_f_X11_38) (fun _ h9 => h9) rfl dX11_feed_83 ?_
  refine lv_iload hx hb dX11_feed_86 (lv_at hl 0 rfl) ?_
  refine lv_bipush (v := 24) hx hb dX11_feed_88 (by decide) ?_
  refine lv_bipush (v := 8) hx hb dX11_feed_90 (by decide) ?_
  refine lv_iload hx hb dX11_feed_92 (lv_at hl 1 rfl) ?_
  refine lv_iconst (v := 4) hx hb dX11_feed_94 (by decide) ?_
  refine lv_irem hx hb dX11_feed_95 (by decide) ?_
  refine lv_topi (fun z86 ez86 => ?_)
  obtain rfl : z86 = 2 := ez86.trans (by decide)
  refine lv_imul hx hb dX11_feed_96 ?_
  refine lv_topi (fun z87 ez87 => ?_)
  obtain rfl : z87 = 16 := ez87.trans (by decide)
  refine lv_isub hx hb dX11_feed_97 ?_
  refine lv_topi (fun z88 ez88 => ?_)
  obtain rfl : z88 = 8 := ez88.trans (by decide)
  refine lv_ishr hx hb dX11_feed_98 ?_
  refine lv_topi (fun z89 ez89 => ?_)
  refine lv_i2b (v := (z89).toInt8.toInt32) hx hb dX11_feed_99 rfl ?_
  refine va_bast hx hb hK hP hD hS 1 0 rfl rfl (i := 14) (x := (z89).toInt8.toInt32) (show ¬ _ from by decide) dX11_feed_100 (fun H locs hP hD hS => ?_)
  obtain ⟨f90, ef90⟩ : ∃ g : Nat → Int32, g = upd f84 (Int32.toNatClampNeg 14) (vp_nar .byte (z89).toInt8.toInt32) := ⟨_, rfl⟩
  have hP : va_P (dC, dI) cls [(h_mm, .inr (8, (.int 0 :: (v_mm 1) :: (v_mm 2) :: (v_mm 3) :: (v_mm 4) :: (v_mm 5) :: .int 0 :: .int 0 :: (v_mm 8) :: (v_mm 9) :: (v_mm 10) :: (v_mm 11) :: (v_mm 12) :: .ref h_tp :: .int 14 :: (v_mm 15) :: (v_mm 16) :: (v_mm 17) :: (v_mm 18) :: (v_mm 19) :: .int 0 :: .int 0 :: .int (-1) :: (v_mm 23) :: (v_mm 24) :: (v_mm 25) :: (v_mm 26) :: (v_mm 27) :: (v_mm 28) :: (v_mm 29) :: (v_mm 30) :: (v_mm 31) :: (v_mm 32) :: (v_mm 33) :: (v_mm 34) :: (v_mm 35) :: (v_mm 36) :: (v_mm 37) :: (v_mm 38) :: (v_mm 39) :: (v_mm 40) :: (v_mm 41) :: (v_mm 42) :: [(v_mm 43), (v_mm 44), (v_mm 45), (v_mm 46), (v_mm 47), (v_mm 48), (v_mm 49), (v_mm 50), .int 0, .int 0, .int 0, .int 0, (v_mm 55), .int 0, (v_mm 57), .int 0, (v_mm 59), .int 0, .int 0, (v_mm 62), .int 0, (v_mm 64), (v_mm 65), (v_mm 66), (v_mm 67), (v_mm 68), (v_mm 69), (v_mm 70)]))), (h_tp, .inl (cy_tp, 600, .inl f90))] H := by rw [ef90]; exact hP
  have hD : va_D A [(h_mm, .inr (8, (.int 0 :: (v_mm 1) :: (v_mm 2) :: (v_mm 3) :: (v_mm 4) :: (v_mm 5) :: .int 0 :: .int 0 :: (v_mm 8) :: (v_mm 9) :: (v_mm 10) :: (v_mm 11) :: (v_mm 12) :: .ref h_tp :: .int 14 :: (v_mm 15) :: (v_mm 16) :: (v_mm 17) :: (v_mm 18) :: (v_mm 19) :: .int 0 :: .int 0 :: .int (-1) :: (v_mm 23) :: (v_mm 24) :: (v_mm 25) :: (v_mm 26) :: (v_mm 27) :: (v_mm 28) :: (v_mm 29) :: (v_mm 30) :: (v_mm 31) :: (v_mm 32) :: (v_mm 33) :: (v_mm 34) :: (v_mm 35) :: (v_mm 36) :: (v_mm 37) :: (v_mm 38) :: (v_mm 39) :: (v_mm 40) :: (v_mm 41) :: (v_mm 42) :: [(v_mm 43), (v_mm 44), (v_mm 45), (v_mm 46), (v_mm 47), (v_mm 48), (v_mm 49), (v_mm 50), .int 0, .int 0, .int 0, .int 0, (v_mm 55), .int 0, (v_mm 57), .int 0, (v_mm 59), .int 0, .int 0, (v_mm 62), .int 0, (v_mm 64), (v_mm 65), (v_mm 66), (v_mm 67), (v_mm 68), (v_mm 69), (v_mm 70)]))), (h_tp, .inl (cy_tp, 600, .inl f90))] := by rw [ef90]; exact hD
  clear ef90
  refine lv_aload_n hx hb dX11_feed_101 rfl (lv_at hl 2 rfl) ?_
  refine lv_aload_n hx hb dX11_feed_102 rfl (lv_at hl 2 rfl) ?_
  refine va_get (D := (dC, dI)) (ci := 8) (v := .int 14) (C := RX11) (T := TX11) (N := 71) hx hb hw iwX11 hown hK hP 0 rfl rfl 14 (by decide) (hw _ w_f_X11_38) (fun _ h9 => h9) rfl dX11_feed_103 ?_
  refine lv_iconst (v := 1) hx hb dX11_feed_106 (by decide) ?_
  refine lv_iadd hx hb dX11_feed_107 ?_
  refine lv_topi (fun z91 ez91 => ?_)
  obtain rfl : z91 = 15 := ez91.trans (by decide)
  refine va_put (D := (dC, dI)) (ci := 8) (v := .int 15) (ty := tyX11 14) (C := RX11) (T := TX11) (N := 71) hx hb hw iwX11 tyX11 tyX11_ok nmX11 hown hK hP hD hS 0 rfl rfl 14 (by decide) (hw _ w_f_X11_38) (fun _ h9 => h9) rfl (tyX11_ok 14 (by decide)) rfl rfl (Nat.le_of_ble_eq_true rfl) dX11_feed_108 (fun H locs hP hD hS => ?_)
  have hP : va_P (dC, dI) cls [(h_mm, .inr (8, (.int 0 :: (v_mm 1) :: (v_mm 2) :: (v_mm 3) :: (v_mm 4) :: (v_mm 5) :: .int 0 :: .int 0 :: (v_mm 8) :: (v_mm 9) :: (v_mm 10) :: (v_mm 11) :: (v_mm 12) :: .ref h_tp :: .int 15 :: (v_mm 15) :: (v_mm 16) :: (v_mm 17) :: (v_mm 18) :: (v_mm 19) :: .int 0 :: .int 0 :: .int (-1) :: (v_mm 23) :: (v_mm 24) :: (v_mm 25) :: (v_mm 26) :: (v_mm 27) :: (v_mm 28) :: (v_mm 29) :: (v_mm 30) :: (v_mm 31) :: (v_mm 32) :: (v_mm 33) :: (v_mm 34) :: (v_mm 35) :: (v_mm 36) :: (v_mm 37) :: (v_mm 38) :: (v_mm 39) :: (v_mm 40) :: (v_mm 41) :: (v_mm 42) :: [(v_mm 43), (v_mm 44), (v_mm 45), (v_mm 46), (v_mm 47), (v_mm 48), (v_mm 49), (v_mm 50), .int 0, .int 0, .int 0, .int 0, (v_mm 55), .int 0, (v_mm 57), .int 0, (v_mm 59), .int 0, .int 0, (v_mm 62), .int 0, (v_mm 64), (v_mm 65), (v_mm 66), (v_mm 67), (v_mm 68), (v_mm 69), (v_mm 70)]))), (h_tp, .inl (cy_tp, 600, .inl f90))] H := hP
  have hD : va_D A [(h_mm, .inr (8, (.int 0 :: (v_mm 1) :: (v_mm 2) :: (v_mm 3) :: (v_mm 4) :: (v_mm 5) :: .int 0 :: .int 0 :: (v_mm 8) :: (v_mm 9) :: (v_mm 10) :: (v_mm 11) :: (v_mm 12) :: .ref h_tp :: .int 15 :: (v_mm 15) :: (v_mm 16) :: (v_mm 17) :: (v_mm 18) :: (v_mm 19) :: .int 0 :: .int 0 :: .int (-1) :: (v_mm 23) :: (v_mm 24) :: (v_mm 25) :: (v_mm 26) :: (v_mm 27) :: (v_mm 28) :: (v_mm 29) :: (v_mm 30) :: (v_mm 31) :: (v_mm 32) :: (v_mm 33) :: (v_mm 34) :: (v_mm 35) :: (v_mm 36) :: (v_mm 37) :: (v_mm 38) :: (v_mm 39) :: (v_mm 40) :: (v_mm 41) :: (v_mm 42) :: [(v_mm 43), (v_mm 44), (v_mm 45), (v_mm 46), (v_mm 47), (v_mm 48), (v_mm 49), (v_mm 50), .int 0, .int 0, .int 0, .int 0, (v_mm 55), .int 0, (v_mm 57), .int 0, (v_mm 59), .int 0, .int 0, (v_mm 62), .int 0, (v_mm 64), (v_mm 65), (v_mm 66), (v_mm 67), (v_mm 68), (v_mm 69), (v_mm 70)]))), (h_tp, .inl (cy_tp, 600, .inl f90))] := hD
  refine lv_iinc (v := 15) (lv' := [(6, .int 15), (7, .int p4), (0, .ref h_mm), (1, .int p1), (2, .int p2), (3, .int p3), (4, .int p4), (5, .int p5)]) hx hb dX11_feed_111 hl (k := 1) rfl (by decide) (by decide) rfl (fun ls hl => ?_)
  refine lv_goto (tgt := 23) hx hb dX11_feed_114 (by decide) ?_
  refine lv_iload hx hb dX11_feed_23 (lv_at hl 0 rfl) ?_
  refine lv_bipush (v := 20) hx hb dX11_feed_25 (by decide) ?_
  refine lv_icmp_ge (tgt := 117) hx hb dX11_feed_27 (by decide) (fun c9 => absurd c9 (by decide)) (fun _ => ?_)
  refine lv_iload hx hb dX11_feed_30 (lv_at hl 0 rfl) ?_
  refine lv_iconst (v := 4) hx hb dX11_feed_32 (by decide) ?_
  refine lv_icmp_ge (tgt := 40) hx hb dX11_feed_33 (by decide) (fun _ => ?_) (fun c9 => absurd c9 (by decide))
  refine lv_iload hx hb dX11_feed_40 (lv_at hl 0 rfl) ?_
  refine lv_bipush (v := 8) hx hb dX11_feed_42 (by decide) ?_
  refine lv_icmp_ge (tgt := 51) hx hb dX11_feed_44 (by decide) (fun _ => ?_) (fun c9 => absurd c9 (by decide))
  refine lv_iload hx hb dX11_feed_51 (lv_at hl 0 rfl) ?_
  refine lv_bipush (v := 12) hx hb dX11_feed_53 (by decide) ?_
  refine lv_icmp_ge (tgt := 62) hx hb dX11_feed_55 (by decide) (fun _ => ?_) (fun c9 => absurd c9 (by decide))
  refine lv_iload hx hb dX11_feed_62 (lv_at hl 0 rfl) ?_
  refine lv_bipush (v := 16) hx hb dX11_feed_64 (by decide) ?_
  refine lv_icmp_ge (tgt := 74) hx hb dX11_feed_66 (by decide) (fun c9 => absurd c9 (by decide)) (fun _ => ?_)
  refine lv_iload hx hb dX11_feed_69 (lv_at hl 6 rfl) ?_
  refine lv_goto (tgt := 76) hx hb dX11_feed_71 (by decide) ?_
  refine lv_istore (lv' := [(7, .int p4), (6, .int 15), (0, .ref h_mm), (1, .int p1), (2, .int p2), (3, .int p3), (4, .int p4), (5, .int p5)]) hx hb dX11_feed_76 hl (by decide) rfl (fun ls hl => ?_)
  refine lv_aload_n hx hb dX11_feed_78 rfl (lv_at hl 2 rfl) ?_
  refine va_get (D := (dC, dI)) (ci := 8) (v := .ref h_tp) (C := RX11) (T := TX11) (N := 71) hx hb hw iwX11 hown hK hP 0 rfl rfl 13 (by decide) (hw _ w_f_X11_41) (fun _ h9 => h9) rfl dX11_feed_79 ?_
  refine lv_aload_n hx hb dX11_feed_82 rfl (lv_at hl 2 rfl) ?_
  refine va_get (D := (dC, dI)) (ci := 8) (v := .int 15) (C := RX11) (T := TX11) (N := 71) hx hb hw iwX11 hown hK hP 0 rfl rfl 14 (by decide) (hw _ w_f_X11_38) (fun _ h9 => h9) rfl dX11_feed_83 ?_
  refine lv_iload hx hb dX11_feed_86 (lv_at hl 0 rfl) ?_
  refine lv_bipush (v := 24) hx hb dX11_feed_88 (by decide) ?_
  refine lv_bipush (v := 8) hx hb dX11_feed_90 (by decide) ?_
  refine lv_iload hx hb dX11_feed_92 (lv_at hl 1 rfl) ?_
  refine lv_iconst (v := 4) hx hb dX11_feed_94 (by decide) ?_
  refine lv_irem hx hb dX11_feed_95 (by decide) ?_
  refine lv_topi (fun z92 ez92 => ?_)
  obtain rfl : z92 = 3 := ez92.trans (by decide)
  refine lv_imul hx hb dX11_feed_96 ?_
  refine lv_topi (fun z93 ez93 => ?_)
  obtain rfl : z93 = 24 := ez93.trans (by decide)
  refine lv_isub hx hb dX11_feed_97 ?_
  refine lv_topi (fun z94 ez94 => ?_)
  obtain rfl : z94 = 0 := ez94.trans (by decide)
  refine lv_ishr hx hb dX11_feed_98 ?_
  refine lv_topi (fun z95 ez95 => ?_)
  refine lv_i2b (v := (z95).toInt8.toInt32) hx hb dX11_feed_99 rfl ?_
  refine va_bast hx hb hK hP hD hS 1 0 rfl rfl (i := 15) (x := (z95).toInt8.toInt32) (show ¬ _ from by decide) dX11_feed_100 (fun H locs hP hD hS => ?_)
  obtain ⟨f96, ef96⟩ : ∃ g : Nat → Int32, g = upd f90 (Int32.toNatClampNeg 15) (vp_nar .byte (z95).toInt8.toInt32) := ⟨_, rfl⟩
  have hP : va_P (dC, dI) cls [(h_mm, .inr (8, (.int 0 :: (v_mm 1) :: (v_mm 2) :: (v_mm 3) :: (v_mm 4) :: (v_mm 5) :: .int 0 :: .int 0 :: (v_mm 8) :: (v_mm 9) :: (v_mm 10) :: (v_mm 11) :: (v_mm 12) :: .ref h_tp :: .int 15 :: (v_mm 15) :: (v_mm 16) :: (v_mm 17) :: (v_mm 18) :: (v_mm 19) :: .int 0 :: .int 0 :: .int (-1) :: (v_mm 23) :: (v_mm 24) :: (v_mm 25) :: (v_mm 26) :: (v_mm 27) :: (v_mm 28) :: (v_mm 29) :: (v_mm 30) :: (v_mm 31) :: (v_mm 32) :: (v_mm 33) :: (v_mm 34) :: (v_mm 35) :: (v_mm 36) :: (v_mm 37) :: (v_mm 38) :: (v_mm 39) :: (v_mm 40) :: (v_mm 41) :: (v_mm 42) :: [(v_mm 43), (v_mm 44), (v_mm 45), (v_mm 46), (v_mm 47), (v_mm 48), (v_mm 49), (v_mm 50), .int 0, .int 0, .int 0, .int 0, (v_mm 55), .int 0, (v_mm 57), .int 0, (v_mm 59), .int 0, .int 0, (v_mm 62), .int 0, (v_mm 64), (v_mm 65), (v_mm 66), (v_mm 67), (v_mm 68), (v_mm 69), (v_mm 70)]))), (h_tp, .inl (cy_tp, 600, .inl f96))] H := by rw [ef96]; exact hP
  have hD : va_D A [(h_mm, .inr (8, (.int 0 :: (v_mm 1) :: (v_mm 2) :: (v_mm 3) :: (v_mm 4) :: (v_mm 5) :: .int 0 :: .int 0 :: (v_mm 8) :: (v_mm 9) :: (v_mm 10) :: (v_mm 11) :: (v_mm 12) :: .ref h_tp :: .int 15 :: (v_mm 15) :: (v_mm 16) :: (v_mm 17) :: (v_mm 18) :: (v_mm 19) :: .int 0 :: .int 0 :: .int (-1) :: (v_mm 23) :: (v_mm 24) :: (v_mm 25) :: (v_mm 26) :: (v_mm 27) :: (v_mm 28) :: (v_mm 29) :: (v_mm 30) :: (v_mm 31) :: (v_mm 32) :: (v_mm 33) :: (v_mm 34) :: (v_mm 35) :: (v_mm 36) :: (v_mm 37) :: (v_mm 38) :: (v_mm 39) :: (v_mm 40) :: (v_mm 41) :: (v_mm 42) :: [(v_mm 43), (v_mm 44), (v_mm 45), (v_mm 46), (v_mm 47), (v_mm 48), (v_mm 49), (v_mm 50), .int 0, .int 0, .int 0, .int 0, (v_mm 55), .int 0, (v_mm 57), .int 0, (v_mm 59), .int 0, .int 0, (v_mm 62), .int 0, (v_mm 64), (v_mm 65), (v_mm 66), (v_mm 67), (v_mm 68), (v_mm 69), (v_mm 70)]))), (h_tp, .inl (cy_tp, 600, .inl f96))] := by rw [ef96]; exact hD
  clear ef96
  refine lv_aload_n hx hb dX11_feed_101 rfl (lv_at hl 2 rfl) ?_
  refine lv_aload_n hx hb dX11_feed_102 rfl (lv_at hl 2 rfl) ?_
  refine va_get (D := (dC, dI)) (ci := 8) (v := .int 15) (C := RX11) (T := TX11) (N := 71) hx hb hw iwX11 hown hK hP 0 rfl rfl 14 (by decide) (hw _ w_f_X11_38) (fun _ h9 => h9) rfl dX11_feed_103 ?_
  refine lv_iconst (v := 1) hx hb dX11_feed_106 (by decide) ?_
  refine lv_iadd hx hb dX11_feed_107 ?_
  refine lv_topi (fun z97 ez97 => ?_)
  obtain rfl : z97 = 16 := ez97.trans (by decide)
  refine va_put (D := (dC, dI)) (ci := 8) (v := .int 16) (ty := tyX11 14) (C := RX11) (T := TX11) (N := 71) hx hb hw iwX11 tyX11 tyX11_ok nmX11 hown hK hP hD hS 0 rfl rfl 14 (by decide) (hw _ w_f_X11_38) (fun _ h9 => h9) rfl (tyX11_ok 14 (by decide)) rfl rfl (Nat.le_of_ble_eq_true rfl) dX11_feed_108 (fun H locs hP hD hS => ?_)
  have hP : va_P (dC, dI) cls [(h_mm, .inr (8, (.int 0 :: (v_mm 1) :: (v_mm 2) :: (v_mm 3) :: (v_mm 4) :: (v_mm 5) :: .int 0 :: .int 0 :: (v_mm 8) :: (v_mm 9) :: (v_mm 10) :: (v_mm 11) :: (v_mm 12) :: .ref h_tp :: .int 16 :: (v_mm 15) :: (v_mm 16) :: (v_mm 17) :: (v_mm 18) :: (v_mm 19) :: .int 0 :: .int 0 :: .int (-1) :: (v_mm 23) :: (v_mm 24) :: (v_mm 25) :: (v_mm 26) :: (v_mm 27) :: (v_mm 28) :: (v_mm 29) :: (v_mm 30) :: (v_mm 31) :: (v_mm 32) :: (v_mm 33) :: (v_mm 34) :: (v_mm 35) :: (v_mm 36) :: (v_mm 37) :: (v_mm 38) :: (v_mm 39) :: (v_mm 40) :: (v_mm 41) :: (v_mm 42) :: [(v_mm 43), (v_mm 44), (v_mm 45), (v_mm 46), (v_mm 47), (v_mm 48), (v_mm 49), (v_mm 50), .int 0, .int 0, .int 0, .int 0, (v_mm 55), .int 0, (v_mm 57), .int 0, (v_mm 59), .int 0, .int 0, (v_mm 62), .int 0, (v_mm 64), (v_mm 65), (v_mm 66), (v_mm 67), (v_mm 68), (v_mm 69), (v_mm 70)]))), (h_tp, .inl (cy_tp, 600, .inl f96))] H := hP
  have hD : va_D A [(h_mm, .inr (8, (.int 0 :: (v_mm 1) :: (v_mm 2) :: (v_mm 3) :: (v_mm 4) :: (v_mm 5) :: .int 0 :: .int 0 :: (v_mm 8) :: (v_mm 9) :: (v_mm 10) :: (v_mm 11) :: (v_mm 12) :: .ref h_tp :: .int 16 :: (v_mm 15) :: (v_mm 16) :: (v_mm 17) :: (v_mm 18) :: (v_mm 19) :: .int 0 :: .int 0 :: .int (-1) :: (v_mm 23) :: (v_mm 24) :: (v_mm 25) :: (v_mm 26) :: (v_mm 27) :: (v_mm 28) :: (v_mm 29) :: (v_mm 30) :: (v_mm 31) :: (v_mm 32) :: (v_mm 33) :: (v_mm 34) :: (v_mm 35) :: (v_mm 36) :: (v_mm 37) :: (v_mm 38) :: (v_mm 39) :: (v_mm 40) :: (v_mm 41) :: (v_mm 42) :: [(v_mm 43), (v_mm 44), (v_mm 45), (v_mm 46), (v_mm 47), (v_mm 48), (v_mm 49), (v_mm 50), .int 0, .int 0, .int 0, .int 0, (v_mm 55), .int 0, (v_mm 57), .int 0, (v_mm 59), .int 0, .int 0, (v_mm 62), .int 0, (v_mm 64), (v_mm 65), (v_mm 66), (v_mm 67), (v_mm 68), (v_mm 69), (v_mm 70)]))), (h_tp, .inl (cy_tp, 600, .inl f96))] := hD
  refine lv_iinc (v := 16) (lv' := [(6, .int 16), (7, .int p4), (0, .ref h_mm), (1, .int p1), (2, .int p2), (3, .int p3), (4, .int p4), (5, .int p5)]) hx hb dX11_feed_111 hl (k := 1) rfl (by decide) (by decide) rfl (fun ls hl => ?_)
  refine lv_goto (tgt := 23) hx hb dX11_feed_114 (by decide) ?_
  refine lv_iload hx hb dX11_feed_23 (lv_at hl 0 rfl) ?_
  refine lv_bipush (v := 20) hx hb dX11_feed_25 (by decide) ?_
  refine lv_icmp_ge (tgt := 117) hx hb dX11_feed_27 (by decide) (fun c9 => absurd c9 (by decide)) (fun _ => ?_)
  refine lv_iload hx hb dX11_feed_30 (lv_at hl 0 rfl) ?_
  refine lv_iconst (v := 4) hx hb dX11_feed_32 (by decide) ?_
  refine lv_icmp_ge (tgt := 40) hx hb dX11_feed_33 (by decide) (fun _ => ?_) (fun c9 => absurd c9 (by decide))
  refine lv_iload hx hb dX11_feed_40 (lv_at hl 0 rfl) ?_
  refine lv_bipush (v := 8) hx hb dX11_feed_42 (by decide) ?_
  refine lv_icmp_ge (tgt := 51) hx hb dX11_feed_44 (by decide) (fun _ => ?_) (fun c9 => absurd c9 (by decide))
  refine lv_iload hx hb dX11_feed_51 (lv_at hl 0 rfl) ?_
  refine lv_bipush (v := 12) hx hb dX11_feed_53 (by decide) ?_
  refine lv_icmp_ge (tgt := 62) hx hb dX11_feed_55 (by decide) (fun _ => ?_) (fun c9 => absurd c9 (by decide))
  refine lv_iload hx hb dX11_feed_62 (lv_at hl 0 rfl) ?_
  refine lv_bipush (v := 16) hx hb dX11_feed_64 (by decide) ?_
  refine lv_icmp_ge (tgt := 74) hx hb dX11_feed_66 (by decide) (fun _ => ?_) (fun c9 => absurd c9 (by decide))
  refine lv_iload hx hb dX11_feed_74 (lv_at hl 7 rfl) ?_
  refine lv_istore (lv' := [(7, .int p5), (6, .int 16), (0, .ref h_mm), (1, .int p1), (2, .int p2), (3, .int p3), (4, .int p4), (5, .int p5)]) hx hb dX11_feed_76 hl (by decide) rfl (fun ls hl => ?_)
  refine lv_aload_n hx hb dX11_feed_78 rfl (lv_at hl 2 rfl) ?_
  refine va_get (D := (dC, dI)) (ci := 8) (v := .ref h_tp) (C := RX11) (T := TX11) (N := 71) hx hb hw iwX11 hown hK hP 0 rfl rfl 13 (by decide) (hw _ w_f_X11_41) (fun _ h9 => h9) rfl dX11_feed_79 ?_
  refine lv_aload_n hx hb dX11_feed_82 rfl (lv_at hl 2 rfl) ?_
  refine va_get (D := (dC, dI)) (ci := 8) (v := .int 16) (C := RX11) (T := TX11) (N := 71) hx hb hw iwX11 hown hK hP 0 rfl rfl 14 (by decide) (hw _ w_f_X11_38) (fun _ h9 => h9) rfl dX11_feed_83 ?_
  refine lv_iload hx hb dX11_feed_86 (lv_at hl 0 rfl) ?_
  refine lv_bipush (v := 24) hx hb dX11_feed_88 (by decide) ?_
  refine lv_bipush (v := 8) hx hb dX11_feed_90 (by decide) ?_
  refine lv_iload hx hb dX11_feed_92 (lv_at hl 1 rfl) ?_
  refine lv_iconst (v := 4) hx hb dX11_feed_94 (by decide) ?_
  refine lv_irem hx hb dX11_feed_95 (by decide) ?_
  refine lv_topi (fun z98 ez98 => ?_)
  obtain rfl : z98 = 0 := ez98.trans (by decide)
  refine lv_imul hx hb dX11_feed_96 ?_
  refine lv_topi (fun z99 ez99 => ?_)
  obtain rfl : z99 = 0 := ez99.trans (by decide)
  refine lv_isub hx hb dX11_feed_97 ?_
  refine lv_topi (fun z100 ez100 => ?_)
  obtain rfl : z100 = 24 := ez100.trans (by decide)
  refine lv_ishr hx hb dX11_feed_98 ?_
  refine lv_topi (fun z101 ez101 => ?_)
  refine lv_i2b (v := (z101).toInt8.toInt32) hx hb dX11_feed_99 rfl ?_
  refine va_bast hx hb hK hP hD hS 1 0 rfl rfl (i := 16) (x := (z101).toInt8.toInt32) (show ¬ _ from by decide) dX11_feed_100 (fun H locs hP hD hS => ?_)
  obtain ⟨f102, ef102⟩ : ∃ g : Nat → Int32, g = upd f96 (Int32.toNatClampNeg 16) (vp_nar .byte (z101).toInt8.toInt32) := ⟨_, rfl⟩
  have hP : va_P (dC, dI) cls [(h_mm, .inr (8, (.int 0 :: (v_mm 1) :: (v_mm 2) :: (v_mm 3) :: (v_mm 4) :: (v_mm 5) :: .int 0 :: .int 0 :: (v_mm 8) :: (v_mm 9) :: (v_mm 10) :: (v_mm 11) :: (v_mm 12) :: .ref h_tp :: .int 16 :: (v_mm 15) :: (v_mm 16) :: (v_mm 17) :: (v_mm 18) :: (v_mm 19) :: .int 0 :: .int 0 :: .int (-1) :: (v_mm 23) :: (v_mm 24) :: (v_mm 25) :: (v_mm 26) :: (v_mm 27) :: (v_mm 28) :: (v_mm 29) :: (v_mm 30) :: (v_mm 31) :: (v_mm 32) :: (v_mm 33) :: (v_mm 34) :: (v_mm 35) :: (v_mm 36) :: (v_mm 37) :: (v_mm 38) :: (v_mm 39) :: (v_mm 40) :: (v_mm 41) :: (v_mm 42) :: [(v_mm 43), (v_mm 44), (v_mm 45), (v_mm 46), (v_mm 47), (v_mm 48), (v_mm 49), (v_mm 50), .int 0, .int 0, .int 0, .int 0, (v_mm 55), .int 0, (v_mm 57), .int 0, (v_mm 59), .int 0, .int 0, (v_mm 62), .int 0, (v_mm 64), (v_mm 65), (v_mm 66), (v_mm 67), (v_mm 68), (v_mm 69), (v_mm 70)]))), (h_tp, .inl (cy_tp, 600, .inl f102))] H := by rw [ef102]; exact hP
  have hD : va_D A [(h_mm, .inr (8, (.int 0 :: (v_mm 1) :: (v_mm 2) :: (v_mm 3) :: (v_mm 4) :: (v_mm 5) :: .int 0 :: .int 0 :: (v_mm 8) :: (v_mm 9) :: (v_mm 10) :: (v_mm 11) :: (v_mm 12) :: .ref h_tp :: .int 16 :: (v_mm 15) :: (v_mm 16) :: (v_mm 17) :: (v_mm 18) :: (v_mm 19) :: .int 0 :: .int 0 :: .int (-1) :: (v_mm 23) :: (v_mm 24) :: (v_mm 25) :: (v_mm 26) :: (v_mm 27) :: (v_mm 28) :: (v_mm 29) :: (v_mm 30) :: (v_mm 31) :: (v_mm 32) :: (v_mm 33) :: (v_mm 34) :: (v_mm 35) :: (v_mm 36) :: (v_mm 37) :: (v_mm 38) :: (v_mm 39) :: (v_mm 40) :: (v_mm 41) :: (v_mm 42) :: [(v_mm 43), (v_mm 44), (v_mm 45), (v_mm 46), (v_mm 47), (v_mm 48), (v_mm 49), (v_mm 50), .int 0, .int 0, .int 0, .int 0, (v_mm 55), .int 0, (v_mm 57), .int 0, (v_mm 59), .int 0, .int 0, (v_mm 62), .int 0, (v_mm 64), (v_mm 65), (v_mm 66), (v_mm 67), (v_mm 68), (v_mm 69), (v_mm 70)]))), (h_tp, .inl (cy_tp, 600, .inl f102))] := by rw [ef102]; exact hD
  clear ef102
  refine lv_aload_n hx hb dX11_feed_101 rfl (lv_at hl 2 rfl) ?_
  refine lv_aload_n hx hb dX11_feed_102 rfl (lv_at hl 2 rfl) ?_
  refine va_get (D := (dC, dI)) (ci := 8) (v := .int 16) (C := RX11) (T := TX11) (N := 71) hx hb hw iwX11 hown hK hP 0 rfl rfl 14 (by decide) (hw _ w_f_X11_38) (fun _ h9 => h9) rfl dX11_feed_103 ?_
  refine lv_iconst (v := 1) hx hb dX11_feed_106 (by decide) ?_
  refine lv_iadd hx hb dX11_feed_107 ?_
  refine lv_topi (fun z103 ez103 => ?_)
  obtain rfl : z103 = 17 := ez103.trans (by decide)
  refine va_put (D := (dC, dI)) (ci := 8) (v := .int 17) (ty := tyX11 14) (C := RX11) (T := TX11) (N := 71) hx hb hw iwX11 tyX11 tyX11_ok nmX11 hown hK hP hD hS 0 rfl rfl 14 (by decide) (hw _ w_f_X11_38) (fun _ h9 => h9) rfl (tyX11_ok 14 (by decide)) rfl rfl (Nat.le_of_ble_eq_true rfl) dX11_feed_108 (fun H locs hP hD hS => ?_)
  have hP : va_P (dC, dI) cls [(h_mm, .inr (8, (.int 0 :: (v_mm 1) :: (v_mm 2) :: (v_mm 3) :: (v_mm 4) :: (v_mm 5) :: .int 0 :: .int 0 :: (v_mm 8) :: (v_mm 9) :: (v_mm 10) :: (v_mm 11) :: (v_mm 12) :: .ref h_tp :: .int 17 :: (v_mm 15) :: (v_mm 16) :: (v_mm 17) :: (v_mm 18) :: (v_mm 19) :: .int 0 :: .int 0 :: .int (-1) :: (v_mm 23) :: (v_mm 24) :: (v_mm 25) :: (v_mm 26) :: (v_mm 27) :: (v_mm 28) :: (v_mm 29) :: (v_mm 30) :: (v_mm 31) :: (v_mm 32) :: (v_mm 33) :: (v_mm 34) :: (v_mm 35) :: (v_mm 36) :: (v_mm 37) :: (v_mm 38) :: (v_mm 39) :: (v_mm 40) :: (v_mm 41) :: (v_mm 42) :: [(v_mm 43), (v_mm 44), (v_mm 45), (v_mm 46), (v_mm 47), (v_mm 48), (v_mm 49), (v_mm 50), .int 0, .int 0, .int 0, .int 0, (v_mm 55), .int 0, (v_mm 57), .int 0, (v_mm 59), .int 0, .int 0, (v_mm 62), .int 0, (v_mm 64), (v_mm 65), (v_mm 66), (v_mm 67), (v_mm 68), (v_mm 69), (v_mm 70)]))), (h_tp, .inl (cy_tp, 600, .inl f102))] H := hP
  have hD : va_D A [(h_mm, .inr (8, (.int 0 :: (v_mm 1) :: (v_mm 2) :: (v_mm 3) :: (v_mm 4) :: (v_mm 5) :: .int 0 :: .int 0 :: (v_mm 8) :: (v_mm 9) :: (v_mm 10) :: (v_mm 11) :: (v_mm 12) :: .ref h_tp :: .int 17 :: (v_mm 15) :: (v_mm 16) :: (v_mm 17) :: (v_mm 18) :: (v_mm 19) :: .int 0 :: .int 0 :: .int (-1) :: (v_mm 23) :: (v_mm 24) :: (v_mm 25) :: (v_mm 26) :: (v_mm 27) :: (v_mm 28) :: (v_mm 29) :: (v_mm 30) :: (v_mm 31) :: (v_mm 32) :: (v_mm 33) :: (v_mm 34) :: (v_mm 35) :: (v_mm 36) :: (v_mm 37) :: (v_mm 38) :: (v_mm 39) :: (v_mm 40) :: (v_mm 41) :: (v_mm 42) :: [(v_mm 43), (v_mm 44), (v_mm 45), (v_mm 46), (v_mm 47), (v_mm 48), (v_mm 49), (v_mm 50), .int 0, .int 0, .int 0, .int 0, (v_mm 55), .int 0, (v_mm 57), .int 0, (v_mm 59), .int 0, .int 0, (v_mm 62), .int 0, (v_mm 64), (v_mm 65), (v_mm 66), (v_mm 67), (v_mm 68), (v_mm 69), (v_mm 70)]))), (h_tp, .inl (cy_tp, 600, .inl f102))] := hD
  refine lv_iinc (v := 17) (lv' := [(6, .int 17), (7, .int p5), (0, .ref h_mm), (1, .int p1), (2, .int p2), (3, .int p3), (4, .int p4), (5, .int p5)]) hx hb dX11_feed_111 hl (k := 1) rfl (by decide) (by decide) rfl (fun ls hl => ?_)
  refine lv_goto (tgt := 23) hx hb dX11_feed_114 (by decide) ?_
  refine lv_iload hx hb dX11_feed_23 (lv_at hl 0 rfl) ?_
  refine lv_bipush (v := 20) hx hb dX11_feed_25 (by decide) ?_
  refine lv_icmp_ge (tgt := 117) hx hb dX11_feed_27 (by decide) (fun c9 => absurd c9 (by decide)) (fun _ => ?_)
  refine lv_iload hx hb dX11_feed_30 (lv_at hl 0 rfl) ?_
  refine lv_iconst (v := 4) hx hb dX11_feed_32 (by decide) ?_
  refine lv_icmp_ge (tgt := 40) hx hb dX11_feed_33 (by decide) (fun _ => ?_) (fun c9 => absurd c9 (by decide))
  refine lv_iload hx hb dX11_feed_40 (lv_at hl 0 rfl) ?_
  refine lv_bipush (v := 8) hx hb dX11_feed_42 (by decide) ?_
  refine lv_icmp_ge (tgt := 51) hx hb dX11_feed_44 (by decide) (fun _ => ?_) (fun c9 => absurd c9 (by decide))
  refine lv_iload hx hb dX11_feed_51 (lv_at hl 0 rfl) ?_
  refine lv_bipush (v := 12) hx hb dX11_feed_53 (by decide) ?_
  refine lv_icmp_ge (tgt := 62) hx hb dX11_feed_55 (by decide) (fun _ => ?_) (fun c9 => absurd c9 (by decide))
  refine lv_iload hx hb dX11_feed_62 (lv_at hl 0 rfl) ?_
  refine lv_bipush (v := 16) hx hb dX11_feed_64 (by decide) ?_
  refine lv_icmp_ge (tgt := 74) hx hb dX11_feed_66 (by decide) (fun _ => ?_) (fun c9 => absurd c9 (by decide))
  refine lv_iload hx hb dX11_feed_74 (lv_at hl 7 rfl) ?_
  refine lv_istore (lv' := [(7, .int p5), (6, .int 17), (0, .ref h_mm), (1, .int p1), (2, .int p2), (3, .int p3), (4, .int p4), (5, .int p5)]) hx hb dX11_feed_76 hl (by decide) rfl (fun ls hl => ?_)
  refine lv_aload_n hx hb dX11_feed_78 rfl (lv_at hl 2 rfl) ?_
  refine va_get (D := (dC, dI)) (ci := 8) (v := .ref h_tp) (C := RX11) (T := TX11) (N := 71) hx hb hw iwX11 hown hK hP 0 rfl rfl 13 (by decide) (hw _ w_f_X11_41) (fun _ h9 => h9) rfl dX11_feed_79 ?_
  refine lv_aload_n hx hb dX11_feed_82 rfl (lv_at hl 2 rfl) ?_
  refine va_get (D := (dC, dI)) (ci := 8) (v := .int 17) (C := RX11) (T := TX11) (N := 71) hx hb hw iwX11 hown hK hP 0 rfl rfl 14 (by decide) (hw _ w_f_X11_38) (fun _ h9 => h9) rfl dX11_feed_83 ?_
  refine lv_iload hx hb dX11_feed_86 (lv_at hl 0 rfl) ?_
  refine lv_bipush (v := 24) hx hb dX11_feed_88 (by decide) ?_
  refine lv_bipush (v := 8) hx hb dX11_feed_90 (by decide) ?_
  refine lv_iload hx hb dX11_feed_92 (lv_at hl 1 rfl) ?_
  refine lv_iconst (v := 4) hx hb dX11_feed_94 (by decide) ?_
  refine lv_irem hx hb dX11_feed_95 (by decide) ?_
  refine lv_topi (fun z104 ez104 => ?_)
  obtain rfl : z104 = 1 := ez104.trans (by decide)
  refine lv_imul hx hb dX11_feed_96 ?_
  refine lv_topi (fun z105 ez105 => ?_)
  obtain rfl : z105 = 8 := ez105.trans (by decide)
  refine lv_isub hx hb dX11_feed_97 ?_
  refine lv_topi (fun z106 ez106 => ?_)
  obtain rfl : z106 = 16 := ez106.trans (by decide)
  refine lv_ishr hx hb dX11_feed_98 ?_
  refine lv_topi (fun z107 ez107 => ?_)
  refine lv_i2b (v := (z107).toInt8.toInt32) hx hb dX11_feed_99 rfl ?_
  refine va_bast hx hb hK hP hD hS 1 0 rfl rfl (i := 17) (x := (z107).toInt8.toInt32) (show ¬ _ from by decide) dX11_feed_100 (fun H locs hP hD hS => ?_)
  obtain ⟨f108, ef108⟩ : ∃ g : Nat → Int32, g = upd f102 (Int32.toNatClampNeg 17) (vp_nar .byte (z107).toInt8.toInt32) := ⟨_, rfl⟩
  have hP : va_P (dC, dI) cls [(h_mm, .inr (8, (.int 0 :: (v_mm 1) :: (v_mm 2) :: (v_mm 3) :: (v_mm 4) :: (v_mm 5) :: .int 0 :: .int 0 :: (v_mm 8) :: (v_mm 9) :: (v_mm 10) :: (v_mm 11) :: (v_mm 12) :: .ref h_tp :: .int 17 :: (v_mm 15) :: (v_mm 16) :: (v_mm 17) :: (v_mm 18) :: (v_mm 19) :: .int 0 :: .int 0 :: .int (-1) :: (v_mm 23) :: (v_mm 24) :: (v_mm 25) :: (v_mm 26) :: (v_mm 27) :: (v_mm 28) :: (v_mm 29) :: (v_mm 30) :: (v_mm 31) :: (v_mm 32) :: (v_mm 33) :: (v_mm 34) :: (v_mm 35) :: (v_mm 36) :: (v_mm 37) :: (v_mm 38) :: (v_mm 39) :: (v_mm 40) :: (v_mm 41) :: (v_mm 42) :: [(v_mm 43), (v_mm 44), (v_mm 45), (v_mm 46), (v_mm 47), (v_mm 48), (v_mm 49), (v_mm 50), .int 0, .int 0, .int 0, .int 0, (v_mm 55), .int 0, (v_mm 57), .int 0, (v_mm 59), .int 0, .int 0, (v_mm 62), .int 0, (v_mm 64), (v_mm 65), (v_mm 66), (v_mm 67), (v_mm 68), (v_mm 69), (v_mm 70)]))), (h_tp, .inl (cy_tp, 600, .inl f108))] H := by rw [ef108]; exact hP
  have hD : va_D A [(h_mm, .inr (8, (.int 0 :: (v_mm 1) :: (v_mm 2) :: (v_mm 3) :: (v_mm 4) :: (v_mm 5) :: .int 0 :: .int 0 :: (v_mm 8) :: (v_mm 9) :: (v_mm 10) :: (v_mm 11) :: (v_mm 12) :: .ref h_tp :: .int 17 :: (v_mm 15) :: (v_mm 16) :: (v_mm 17) :: (v_mm 18) :: (v_mm 19) :: .int 0 :: .int 0 :: .int (-1) :: (v_mm 23) :: (v_mm 24) :: (v_mm 25) :: (v_mm 26) :: (v_mm 27) :: (v_mm 28) :: (v_mm 29) :: (v_mm 30) :: (v_mm 31) :: (v_mm 32) :: (v_mm 33) :: (v_mm 34) :: (v_mm 35) :: (v_mm 36) :: (v_mm 37) :: (v_mm 38) :: (v_mm 39) :: (v_mm 40) :: (v_mm 41) :: (v_mm 42) :: [(v_mm 43), (v_mm 44), (v_mm 45), (v_mm 46), (v_mm 47), (v_mm 48), (v_mm 49), (v_mm 50), .int 0, .int 0, .int 0, .int 0, (v_mm 55), .int 0, (v_mm 57), .int 0, (v_mm 59), .int 0, .int 0, (v_mm 62), .int 0, (v_mm 64), (v_mm 65), (v_mm 66), (v_mm 67), (v_mm 68), (v_mm 69), (v_mm 70)]))), (h_tp, .inl (cy_tp, 600, .inl f108))] := by rw [ef108]; exact hD
  clear ef108
  refine lv_aload_n hx hb dX11_feed_101 rfl (lv_at hl 2 rfl) ?_
  refine lv_aload_n hx hb dX11_feed_102 rfl (lv_at hl 2 rfl) ?_
  refine va_get (D := (dC, dI)) (ci := 8) (v := .int 17) (C := RX11) (T := TX11) (N := 71) hx hb hw iwX11 hown hK hP 0 rfl rfl 14 (by decide) (hw _ w_f_X11_38) (fun _ h9 => h9) rfl dX11_feed_103 ?_
  refine lv_iconst (v := 1) hx hb dX11_feed_106 (by decide) ?_
  refine lv_iadd hx hb dX11_feed_107 ?_
  refine lv_topi (fun z109 ez109 => ?_)
  obtain rfl : z109 = 18 := ez109.trans (by decide)
  refine va_put (D := (dC, dI)) (ci := 8) (v := .int 18) (ty := tyX11 14) (C := RX11) (T := TX11) (N := 71) hx hb hw iwX11 tyX11 tyX11_ok nmX11 hown hK hP hD hS 0 rfl rfl 14 (by decide) (hw _ w_f_X11_38) (fun _ h9 => h9) rfl (tyX11_ok 14 (by decide)) rfl rfl (Nat.le_of_ble_eq_true rfl) dX11_feed_108 (fun H locs hP hD hS => ?_)
  have hP : va_P (dC, dI) cls [(h_mm, .inr (8, (.int 0 :: (v_mm 1) :: (v_mm 2) :: (v_mm 3) :: (v_mm 4) :: (v_mm 5) :: .int 0 :: .int 0 :: (v_mm 8) :: (v_mm 9) :: (v_mm 10) :: (v_mm 11) :: (v_mm 12) :: .ref h_tp :: .int 18 :: (v_mm 15) :: (v_mm 16) :: (v_mm 17) :: (v_mm 18) :: (v_mm 19) :: .int 0 :: .int 0 :: .int (-1) :: (v_mm 23) :: (v_mm 24) :: (v_mm 25) :: (v_mm 26) :: (v_mm 27) :: (v_mm 28) :: (v_mm 29) :: (v_mm 30) :: (v_mm 31) :: (v_mm 32) :: (v_mm 33) :: (v_mm 34) :: (v_mm 35) :: (v_mm 36) :: (v_mm 37) :: (v_mm 38) :: (v_mm 39) :: (v_mm 40) :: (v_mm 41) :: (v_mm 42) :: [(v_mm 43), (v_mm 44), (v_mm 45), (v_mm 46), (v_mm 47), (v_mm 48), (v_mm 49), (v_mm 50), .int 0, .int 0, .int 0, .int 0, (v_mm 55), .int 0, (v_mm 57), .int 0, (v_mm 59), .int 0, .int 0, (v_mm 62), .int 0, (v_mm 64), (v_mm 65), (v_mm 66), (v_mm 67), (v_mm 68), (v_mm 69), (v_mm 70)]))), (h_tp, .inl (cy_tp, 600, .inl f108))] H := hP
  have hD : va_D A [(h_mm, .inr (8, (.int 0 :: (v_mm 1) :: (v_mm 2) :: (v_mm 3) :: (v_mm 4) :: (v_mm 5) :: .int 0 :: .int 0 :: (v_mm 8) :: (v_mm 9) :: (v_mm 10) :: (v_mm 11) :: (v_mm 12) :: .ref h_tp :: .int 18 :: (v_mm 15) :: (v_mm 16) :: (v_mm 17) :: (v_mm 18) :: (v_mm 19) :: .int 0 :: .int 0 :: .int (-1) :: (v_mm 23) :: (v_mm 24) :: (v_mm 25) :: (v_mm 26) :: (v_mm 27) :: (v_mm 28) :: (v_mm 29) :: (v_mm 30) :: (v_mm 31) :: (v_mm 32) :: (v_mm 33) :: (v_mm 34) :: (v_mm 35) :: (v_mm 36) :: (v_mm 37) :: (v_mm 38) :: (v_mm 39) :: (v_mm 40) :: (v_mm 41) :: (v_mm 42) :: [(v_mm 43), (v_mm 44), (v_mm 45), (v_mm 46), (v_mm 47), (v_mm 48), (v_mm 49), (v_mm 50), .int 0, .int 0, .int 0, .int 0, (v_mm 55), .int 0, (v_mm 57), .int 0, (v_mm 59), .int 0, .int 0, (v_mm 62), .int 0, (v_mm 64), (v_mm 65), (v_mm 66), (v_mm 67), (v_mm 68), (v_mm 69), (v_mm 70)]))), (h_tp, .inl (cy_tp, 600, .inl f108))] := hD
  refine lv_iinc (v := 18) (lv' := [(6, .int 18), (7, .int p5), (0, .ref h_mm), (1, .int p1), (2, .int p2), (3, .int p3), (4, .int p4), (5, .int p5)]) hx hb dX11_feed_111 hl (k := 1) rfl (by decide) (by decide) rfl (fun ls hl => ?_)
  refine lv_goto (tgt := 23) hx hb dX11_feed_114 (by decide) ?_
  refine lv_iload hx hb dX11_feed_23 (lv_at hl 0 rfl) ?_
  refine lv_bipush (v := 20) hx hb dX11_feed_25 (by decide) ?_
  refine lv_icmp_ge (tgt := 117) hx hb dX11_feed_27 (by decide) (fun c9 => absurd c9 (by decide)) (fun _ => ?_)
  refine lv_iload hx hb dX11_feed_30 (lv_at hl 0 rfl) ?_
  refine lv_iconst (v := 4) hx hb dX11_feed_32 (by decide) ?_
  refine lv_icmp_ge (tgt := 40) hx hb dX11_feed_33 (by decide) (fun _ => ?_) (fun c9 => absurd c9 (by decide))
  refine lv_iload hx hb dX11_feed_40 (lv_at hl 0 rfl) ?_
  refine lv_bipush (v := 8) hx hb dX11_feed_42 (by decide) ?_
  refine lv_icmp_ge (tgt := 51) hx hb dX11_feed_44 (by decide) (fun _ => ?_) (fun c9 => absurd c9 (by decide))
  refine lv_iload hx hb dX11_feed_51 (lv_at hl 0 rfl) ?_
  refine lv_bipush (v := 12) hx hb dX11_feed_53 (by decide) ?_
  refine lv_icmp_ge (tgt := 62) hx hb dX11_feed_55 (by decide) (fun _ => ?_) (fun c9 => absurd c9 (by decide))
  refine lv_iload hx hb dX11_feed_62 (lv_at hl 0 rfl) ?_
  refine lv_bipush (v := 16) hx hb dX11_feed_64 (by decide) ?_
  refine lv_icmp_ge (tgt := 74) hx hb dX11_feed_66 (by decide) (fun _ => ?_) (fun c9 => absurd c9 (by decide))
  refine lv_iload hx hb dX11_feed_74 (lv_at hl 7 rfl) ?_
  refine lv_istore (lv' := [(7, .int p5), (6, .int 18), (0, .ref h_mm), (1, .int p1), (2, .int p2), (3, .int p3), (4, .int p4), (5, .int p5)]) hx hb dX11_feed_76 hl (by decide) rfl (fun ls hl => ?_)
  refine lv_aload_n hx hb dX11_feed_78 rfl (lv_at hl 2 rfl) ?_
  refine va_get (D := (dC, dI)) (ci := 8) (v := .ref h_tp) (C := RX11) (T := TX11) (N := 71) hx hb hw iwX11 hown hK hP 0 rfl rfl 13 (by decide) (hw _ w_f_X11_41) (fun _ h9 => h9) rfl dX11_feed_79 ?_
  refine lv_aload_n hx hb dX11_feed_82 rfl (lv_at hl 2 rfl) ?_
  refine va_get (D := (dC, dI)) (ci := 8) (v := .int 18) (C := RX11) (T := TX11) (N := 71) hx hb hw iwX11 hown hK hP 0 rfl rfl 14 (by decide) (hw _ w_f_X11_38) (fun _ h9 => h9) rfl dX11_feed_83 ?_
  refine lv_iload hx hb dX11_feed_86 (lv_at hl 0 rfl) ?_
  refine lv_bipush (v := 24) hx hb dX11_feed_88 (by decide) ?_
  refine lv_bipush (v := 8) hx hb dX11_feed_90 (by decide) ?_
  refine lv_iload hx hb dX11_feed_92 (lv_at hl 1 rfl) ?_
  refine lv_iconst (v := 4) hx hb dX11_feed_94 (by decide) ?_
  refine lv_irem hx hb dX11_feed_95 (by decide) ?_
  refine lv_topi (fun z110 ez110 => ?_)
  obtain rfl : z110 = 2 := ez110.trans (by decide)
  refine lv_imul hx hb dX11_feed_96 ?_
  refine lv_topi (fun z111 ez111 => ?_)
  obtain rfl : z111 = 16 := ez111.trans (by decide)
  refine lv_isub hx hb dX11_feed_97 ?_
  refine lv_topi (fun z112 ez112 => ?_)
  obtain rfl : z112 = 8 := ez112.trans (by decide)
  refine lv_ishr hx hb dX11_feed_98 ?_
  refine lv_topi (fun z113 ez113 => ?_)
  refine lv_i2b (v := (z113).toInt8.toInt32) hx hb dX11_feed_99 rfl ?_
  refine va_bast hx hb hK hP hD hS 1 0 rfl rfl (i := 18) (x := (z113).toInt8.toInt32) (show ¬ _ from by decide) dX11_feed_100 (fun H locs hP hD hS => ?_)
  obtain ⟨f114, ef114⟩ : ∃ g : Nat → Int32, g = upd f108 (Int32.toNatClampNeg 18) (vp_nar .byte (z113).toInt8.toInt32) := ⟨_, rfl⟩
  have hP : va_P (dC, dI) cls [(h_mm, .inr (8, (.int 0 :: (v_mm 1) :: (v_mm 2) :: (v_mm 3) :: (v_mm 4) :: (v_mm 5) :: .int 0 :: .int 0 :: (v_mm 8) :: (v_mm 9) :: (v_mm 10) :: (v_mm 11) :: (v_mm 12) :: .ref h_tp :: .int 18 :: (v_mm 15) :: (v_mm 16) :: (v_mm 17) :: (v_mm 18) :: (v_mm 19) :: .int 0 :: .int 0 :: .int (-1) :: (v_mm 23) :: (v_mm 24) :: (v_mm 25) :: (v_mm 26) :: (v_mm 27) :: (v_mm 28) :: (v_mm 29) :: (v_mm 30) :: (v_mm 31) :: (v_mm 32) :: (v_mm 33) :: (v_mm 34) :: (v_mm 35) :: (v_mm 36) :: (v_mm 37) :: (v_mm 38) :: (v_mm 39) :: (v_mm 40) :: (v_mm 41) :: (v_mm 42) :: [(v_mm 43), (v_mm 44), (v_mm 45), (v_mm 46), (v_mm 47), (v_mm 48), (v_mm 49), (v_mm 50), .int 0, .int 0, .int 0, .int 0, (v_mm 55), .int 0, (v_mm 57), .int 0, (v_mm 59), .int 0, .int 0, (v_mm 62), .int 0, (v_mm 64), (v_mm 65), (v_mm 66), (v_mm 67), (v_mm 68), (v_mm 69), (v_mm 70)]))), (h_tp, .inl (cy_tp, 600, .inl f114))] H := by rw [ef114]; exact hP
  have hD : va_D A [(h_mm, .inr (8, (.int 0 :: (v_mm 1) :: (v_mm 2) :: (v_mm 3) :: (v_mm 4) :: (v_mm 5) :: .int 0 :: .int 0 :: (v_mm 8) :: (v_mm 9) :: (v_mm 10) :: (v_mm 11) :: (v_mm 12) :: .ref h_tp :: .int 18 :: (v_mm 15) :: (v_mm 16) :: (v_mm 17) :: (v_mm 18) :: (v_mm 19) :: .int 0 :: .int 0 :: .int (-1) :: (v_mm 23) :: (v_mm 24) :: (v_mm 25) :: (v_mm 26) :: (v_mm 27) :: (v_mm 28) :: (v_mm 29) :: (v_mm 30) :: (v_mm 31) :: (v_mm 32) :: (v_mm 33) :: (v_mm 34) :: (v_mm 35) :: (v_mm 36) :: (v_mm 37) :: (v_mm 38) :: (v_mm 39) :: (v_mm 40) :: (v_mm 41) :: (v_mm 42) :: [(v_mm 43), (v_mm 44), (v_mm 45), (v_mm 46), (v_mm 47), (v_mm 48), (v_mm 49), (v_mm 50), .int 0, .int 0, .int 0, .int 0, (v_mm 55), .int 0, (v_mm 57), .int 0, (v_mm 59), .int 0, .int 0, (v_mm 62), .int 0, (v_mm 64), (v_mm 65), (v_mm 66), (v_mm 67), (v_mm 68), (v_mm 69), (v_mm 70)]))), (h_tp, .inl (cy_tp, 600, .inl f114))] := by rw [ef114]; exact hD
  clear ef114
  refine lv_aload_n hx hb dX11_feed_101 rfl (lv_at hl 2 rfl) ?_
  refine lv_aload_n hx hb dX11_feed_102 rfl (lv_at hl 2 rfl) ?_
  refine va_get (D := (dC, dI)) (ci := 8) (v := .int 18) (C := RX11) (T := TX11) (N := 71) hx hb hw iwX11 hown hK hP 0 rfl rfl 14 (by decide) (hw _ w_f_X11_38) (fun _ h9 => h9) rfl dX11_feed_103 ?_
  refine lv_iconst (v := 1) hx hb dX11_feed_106 (by decide) ?_
  refine lv_iadd hx hb dX11_feed_107 ?_
  refine lv_topi (fun z115 ez115 => ?_)
  obtain rfl : z115 = 19 := ez115.trans (by decide)
  refine va_put (D := (dC, dI)) (ci := 8) (v := .int 19) (ty := tyX11 14) (C := RX11) (T := TX11) (N := 71) hx hb hw iwX11 tyX11 tyX11_ok nmX11 hown hK hP hD hS 0 rfl rfl 14 (by decide) (hw _ w_f_X11_38) (fun _ h9 => h9) rfl (tyX11_ok 14 (by decide)) rfl rfl (Nat.le_of_ble_eq_true rfl) dX11_feed_108 (fun H locs hP hD hS => ?_)
  have hP : va_P (dC, dI) cls [(h_mm, .inr (8, (.int 0 :: (v_mm 1) :: (v_mm 2) :: (v_mm 3) :: (v_mm 4) :: (v_mm 5) :: .int 0 :: .int 0 :: (v_mm 8) :: (v_mm 9) :: (v_mm 10) :: (v_mm 11) :: (v_mm 12) :: .ref h_tp :: .int 19 :: (v_mm 15) :: (v_mm 16) :: (v_mm 17) :: (v_mm 18) :: (v_mm 19) :: .int 0 :: .int 0 :: .int (-1) :: (v_mm 23) :: (v_mm 24) :: (v_mm 25) :: (v_mm 26) :: (v_mm 27) :: (v_mm 28) :: (v_mm 29) :: (v_mm 30) :: (v_mm 31) :: (v_mm 32) :: (v_mm 33) :: (v_mm 34) :: (v_mm 35) :: (v_mm 36) :: (v_mm 37) :: (v_mm 38) :: (v_mm 39) :: (v_mm 40) :: (v_mm 41) :: (v_mm 42) :: [(v_mm 43), (v_mm 44), (v_mm 45), (v_mm 46), (v_mm 47), (v_mm 48), (v_mm 49), (v_mm 50), .int 0, .int 0, .int 0, .int 0, (v_mm 55), .int 0, (v_mm 57), .int 0, (v_mm 59), .int 0, .int 0, (v_mm 62), .int 0, (v_mm 64), (v_mm 65), (v_mm 66), (v_mm 67), (v_mm 68), (v_mm 69), (v_mm 70)]))), (h_tp, .inl (cy_tp, 600, .inl f114))] H := hP
  have hD : va_D A [(h_mm, .inr (8, (.int 0 :: (v_mm 1) :: (v_mm 2) :: (v_mm 3) :: (v_mm 4) :: (v_mm 5) :: .int 0 :: .int 0 :: (v_mm 8) :: (v_mm 9) :: (v_mm 10) :: (v_mm 11) :: (v_mm 12) :: .ref h_tp :: .int 19 :: (v_mm 15) :: (v_mm 16) :: (v_mm 17) :: (v_mm 18) :: (v_mm 19) :: .int 0 :: .int 0 :: .int (-1) :: (v_mm 23) :: (v_mm 24) :: (v_mm 25) :: (v_mm 26) :: (v_mm 27) :: (v_mm 28) :: (v_mm 29) :: (v_mm 30) :: (v_mm 31) :: (v_mm 32) :: (v_mm 33) :: (v_mm 34) :: (v_mm 35) :: (v_mm 36) :: (v_mm 37) :: (v_mm 38) :: (v_mm 39) :: (v_mm 40) :: (v_mm 41) :: (v_mm 42) :: [(v_mm 43), (v_mm 44), (v_mm 45), (v_mm 46), (v_mm 47), (v_mm 48), (v_mm 49), (v_mm 50), .int 0, .int 0, .int 0, .int 0, (v_mm 55), .int 0, (v_mm 57), .int 0, (v_mm 59), .int 0, .int 0, (v_mm 62), .int 0, (v_mm 64), (v_mm 65), (v_mm 66), (v_mm 67), (v_mm 68), (v_mm 69), (v_mm 70)]))), (h_tp, .inl (cy_tp, 600, .inl f114))] := hD
  refine lv_iinc (v := 19) (lv' := [(6, .int 19), (7, .int p5), (0, .ref h_mm), (1, .int p1), (2, .int p2), (3, .int p3), (4, .int p4), (5, .int p5)]) hx hb dX11_feed_111 hl (k := 1) rfl (by decide) (by decide) rfl (fun ls hl => ?_)
  refine lv_goto (tgt := 23) hx hb dX11_feed_114 (by decide) ?_
  refine lv_iload hx hb dX11_feed_23 (lv_at hl 0 rfl) ?_
  refine lv_bipush (v := 20) hx hb dX11_feed_25 (by decide) ?_
  refine lv_icmp_ge (tgt := 117) hx hb dX11_feed_27 (by decide) (fun c9 => absurd c9 (by decide)) (fun _ => ?_)
  refine lv_iload hx hb dX11_feed_30 (lv_at hl 0 rfl) ?_
  refine lv_iconst (v := 4) hx hb dX11_feed_32 (by decide) ?_
  refine lv_icmp_ge (tgt := 40) hx hb dX11_feed_33 (by decide) (fun _ => ?_) (fun c9 => absurd c9 (by decide))
  refine lv_iload hx hb dX11_feed_40 (lv_at hl 0 rfl) ?_
  refine lv_bipush (v := 8) hx hb dX11_feed_42 (by decide) ?_
  refine lv_icmp_ge (tgt := 51) hx hb dX11_feed_44 (by decide) (fun _ => ?_) (fun c9 => absurd c9 (by decide))
  refine lv_iload hx hb dX11_feed_51 (lv_at hl 0 rfl) ?_
  refine lv_bipush (v := 12) hx hb dX11_feed_53 (by decide) ?_
  refine lv_icmp_ge (tgt := 62) hx hb dX11_feed_55 (by decide) (fun _ => ?_) (fun c9 => absurd c9 (by decide))
  refine lv_iload hx hb dX11_feed_62 (lv_at hl 0 rfl) ?_
  refine lv_bipush (v := 16) hx hb dX11_feed_64 (by decide) ?_
  refine lv_icmp_ge (tgt := 74) hx hb dX11_feed_66 (by decide) (fun _ => ?_) (fun c9 => absurd c9 (by decide))
  refine lv_iload hx hb dX11_feed_74 (lv_at hl 7 rfl) ?_
  refine lv_istore (lv' := [(7, .int p5), (6, .int 19), (0, .ref h_mm), (1, .int p1), (2, .int p2), (3, .int p3), (4, .int p4), (5, .int p5)]) hx hb dX11_feed_76 hl (by decide) rfl (fun ls hl => ?_)
  refine lv_aload_n hx hb dX11_feed_78 rfl (lv_at hl 2 rfl) ?_
  refine va_get (D := (dC, dI)) (ci := 8) (v := .ref h_tp) (C := RX11) (T := TX11) (N := 71) hx hb hw iwX11 hown hK hP 0 rfl rfl 13 (by decide) (hw _ w_f_X11_41) (fun _ h9 => h9) rfl dX11_feed_79 ?_
  refine lv_aload_n hx hb dX11_feed_82 rfl (lv_at hl 2 rfl) ?_
  refine va_get (D := (dC, dI)) (ci := 8) (v := .int 19) (C := RX11) (T := TX11) (N := 71) hx hb hw iwX11 hown hK hP 0 rfl rfl 14 (by decide) (hw _ w_f_X11_38) (fun _ h9 => h9) rfl dX11_feed_83 ?_
  refine lv_iload hx hb dX11_feed_86 (lv_at hl 0 rfl) ?_
  refine lv_bipush (v := 24) hx hb dX11_feed_88 (by decide) ?_
  refine lv_bipush (v := 8) hx hb dX11_feed_90 (by decide) ?_
  refine lv_iload hx hb dX11_feed_92 (lv_at hl 1 rfl) ?_
  refine lv_iconst (v := 4) hx hb dX11_feed_94 (by decide) ?_
  refine lv_irem hx hb dX11_feed_95 (by decide) ?_
  refine lv_topi (fun z116 ez116 => ?_)
  obtain rfl : z116 = 3 := ez116.trans (by decide)
  refine lv_imul hx hb dX11_feed_96 ?_
  refine lv_topi (fun z117 ez117 => ?_)
  obtain rfl : z117 = 24 := ez117.trans (by decide)
  refine lv_isub hx hb dX11_feed_97 ?_
  refine lv_topi (fun z118 ez118 => ?_)
  obtain rfl : z118 = 0 := ez118.trans (by decide)
  refine lv_ishr hx hb dX11_feed_98 ?_
  refine lv_topi (fun z119 ez119 => ?_)
  refine lv_i2b (v := (z119).toInt8.toInt32) hx hb dX11_feed_99 rfl ?_
  refine va_bast hx hb hK hP hD hS 1 0 rfl rfl (i := 19) (x := (z119).toInt8.toInt32) (show ¬ _ from by decide) dX11_feed_100 (fun H locs hP hD hS => ?_)
  obtain ⟨f120, ef120⟩ : ∃ g : Nat → Int32, g = upd f114 (Int32.toNatClampNeg 19) (vp_nar .byte (z119).toInt8.toInt32) := ⟨_, rfl⟩
  have hP : va_P (dC, dI) cls [(h_mm, .inr (8, (.int 0 :: (v_mm 1) :: (v_mm 2) :: (v_mm 3) :: (v_mm 4) :: (v_mm 5) :: .int 0 :: .int 0 :: (v_mm 8) :: (v_mm 9) :: (v_mm 10) :: (v_mm 11) :: (v_mm 12) :: .ref h_tp :: .int 19 :: (v_mm 15) :: (v_mm 16) :: (v_mm 17) :: (v_mm 18) :: (v_mm 19) :: .int 0 :: .int 0 :: .int (-1) :: (v_mm 23) :: (v_mm 24) :: (v_mm 25) :: (v_mm 26) :: (v_mm 27) :: (v_mm 28) :: (v_mm 29) :: (v_mm 30) :: (v_mm 31) :: (v_mm 32) :: (v_mm 33) :: (v_mm 34) :: (v_mm 35) :: (v_mm 36) :: (v_mm 37) :: (v_mm 38) :: (v_mm 39) :: (v_mm 40) :: (v_mm 41) :: (v_mm 42) :: [(v_mm 43), (v_mm 44), (v_mm 45), (v_mm 46), (v_mm 47), (v_mm 48), (v_mm 49), (v_mm 50), .int 0, .int 0, .int 0, .int 0, (v_mm 55), .int 0, (v_mm 57), .int 0, (v_mm 59), .int 0, .int 0, (v_mm 62), .int 0, (v_mm 64), (v_mm 65), (v_mm 66), (v_mm 67), (v_mm 68), (v_mm 69), (v_mm 70)]))), (h_tp, .inl (cy_tp, 600, .inl f120))] H := by rw [ef120]; exact hP
  have hD : va_D A [(h_mm, .inr (8, (.int 0 :: (v_mm 1) :: (v_mm 2) :: (v_mm 3) :: (v_mm 4) :: (v_mm 5) :: .int 0 :: .int 0 :: (v_mm 8) :: (v_mm 9) :: (v_mm 10) :: (v_mm 11) :: (v_mm 12) :: .ref h_tp :: .int 19 :: (v_mm 15) :: (v_mm 16) :: (v_mm 17) :: (v_mm 18) :: (v_mm 19) :: .int 0 :: .int 0 :: .int (-1) :: (v_mm 23) :: (v_mm 24) :: (v_mm 25) :: (v_mm 26) :: (v_mm 27) :: (v_mm 28) :: (v_mm 29) :: (v_mm 30) :: (v_mm 31) :: (v_mm 32) :: (v_mm 33) :: (v_mm 34) :: (v_mm 35) :: (v_mm 36) :: (v_mm 37) :: (v_mm 38) :: (v_mm 39) :: (v_mm 40) :: (v_mm 41) :: (v_mm 42) :: [(v_mm 43), (v_mm 44), (v_mm 45), (v_mm 46), (v_mm 47), (v_mm 48), (v_mm 49), (v_mm 50), .int 0, .int 0, .int 0, .int 0, (v_mm 55), .int 0, (v_mm 57), .int 0, (v_mm 59), .int 0, .int 0, (v_mm 62), .int 0, (v_mm 64), (v_mm 65), (v_mm 66), (v_mm 67), (v_mm 68), (v_mm 69), (v_mm 70)]))), (h_tp, .inl (cy_tp, 600, .inl f120))] := by rw [ef120]; exact hD
  clear ef120
  refine lv_aload_n hx hb dX11_feed_101 rfl (lv_at hl 2 rfl) ?_
  refine lv_aload_n hx hb dX11_feed_102 rfl (lv_at hl 2 rfl) ?_
  refine va_get (D := (dC, dI)) (ci := 8) (v := .int 19) (C := RX11) (T := TX11) (N := 71) hx hb hw iwX11 hown hK hP 0 rfl rfl 14 (by decide) (hw _ w_f_X11_38) (fun _ h9 => h9) rfl dX11_feed_103 ?_
  refine lv_iconst (v := 1) hx hb dX11_feed_106 (by decide) ?_
  refine lv_iadd hx hb dX11_feed_107 ?_
  refine lv_topi (fun z121 ez121 => ?_)
  obtain rfl : z121 = 20 := ez121.trans (by decide)
  refine va_put (D := (dC, dI)) (ci := 8) (v := .int 20) (ty := tyX11 14) (C := RX11) (T := TX11) (N := 71) hx hb hw iwX11 tyX11 tyX11_ok nmX11 hown hK hP hD hS 0 rfl rfl 14 (by decide) (hw _ w_f_X11_38) (fun _ h9 => h9) rfl (tyX11_ok 14 (by decide)) rfl rfl (Nat.le_of_ble_eq_true rfl) dX11_feed_108 (fun H locs hP hD hS => ?_)
  have hP : va_P (dC, dI) cls [(h_mm, .inr (8, (.int 0 :: (v_mm 1) :: (v_mm 2) :: (v_mm 3) :: (v_mm 4) :: (v_mm 5) :: .int 0 :: .int 0 :: (v_mm 8) :: (v_mm 9) :: (v_mm 10) :: (v_mm 11) :: (v_mm 12) :: .ref h_tp :: .int 20 :: (v_mm 15) :: (v_mm 16) :: (v_mm 17) :: (v_mm 18) :: (v_mm 19) :: .int 0 :: .int 0 :: .int (-1) :: (v_mm 23) :: (v_mm 24) :: (v_mm 25) :: (v_mm 26) :: (v_mm 27) :: (v_mm 28) :: (v_mm 29) :: (v_mm 30) :: (v_mm 31) :: (v_mm 32) :: (v_mm 33) :: (v_mm 34) :: (v_mm 35) :: (v_mm 36) :: (v_mm 37) :: (v_mm 38) :: (v_mm 39) :: (v_mm 40) :: (v_mm 41) :: (v_mm 42) :: [(v_mm 43), (v_mm 44), (v_mm 45), (v_mm 46), (v_mm 47), (v_mm 48), (v_mm 49), (v_mm 50), .int 0, .int 0, .int 0, .int 0, (v_mm 55), .int 0, (v_mm 57), .int 0, (v_mm 59), .int 0, .int 0, (v_mm 62), .int 0, (v_mm 64), (v_mm 65), (v_mm 66), (v_mm 67), (v_mm 68), (v_mm 69), (v_mm 70)]))), (h_tp, .inl (cy_tp, 600, .inl f120))] H := hP
  have hD : va_D A [(h_mm, .inr (8, (.int 0 :: (v_mm 1) :: (v_mm 2) :: (v_mm 3) :: (v_mm 4) :: (v_mm 5) :: .int 0 :: .int 0 :: (v_mm 8) :: (v_mm 9) :: (v_mm 10) :: (v_mm 11) :: (v_mm 12) :: .ref h_tp :: .int 20 :: (v_mm 15) :: (v_mm 16) :: (v_mm 17) :: (v_mm 18) :: (v_mm 19) :: .int 0 :: .int 0 :: .int (-1) :: (v_mm 23) :: (v_mm 24) :: (v_mm 25) :: (v_mm 26) :: (v_mm 27) :: (v_mm 28) :: (v_mm 29) :: (v_mm 30) :: (v_mm 31) :: (v_mm 32) :: (v_mm 33) :: (v_mm 34) :: (v_mm 35) :: (v_mm 36) :: (v_mm 37) :: (v_mm 38) :: (v_mm 39) :: (v_mm 40) :: (v_mm 41) :: (v_mm 42) :: [(v_mm 43), (v_mm 44), (v_mm 45), (v_mm 46), (v_mm 47), (v_mm 48), (v_mm 49), (v_mm 50), .int 0, .int 0, .int 0, .int 0, (v_mm 55), .int 0, (v_mm 57), .int 0, (v_mm 59), .int 0, .int 0, (v_mm 62), .int 0, (v_mm 64), (v_mm 65), (v_mm 66), (v_mm 67), (v_mm 68), (v_mm 69), (v_mm 70)]))), (h_tp, .inl (cy_tp, 600, .inl f120))] := hD
  refine lv_iinc (v := 20) (lv' := [(6, .int 20), (7, .int p5), (0, .ref h_mm), (1, .int p1), (2, .int p2), (3, .int p3), (4, .int p4), (5, .int p5)]) hx hb dX11_feed_111 hl (k := 1) rfl (by decide) (by decide) rfl (fun ls hl => ?_)
  refine lv_goto (tgt := 23) hx hb dX11_feed_114 (by decide) ?_
  refine lv_iload hx hb dX11_feed_23 (lv_at hl 0 rfl) ?_
  refine lv_bipush (v := 20) hx hb dX11_feed_25 (by decide) ?_
  refine lv_icmp_ge (tgt := 117) hx hb dX11_feed_27 (by decide) (fun _ => ?_) (fun c9 => absurd c9 (by decide))
  refine lv_aload_n hx hb dX11_feed_117 rfl (lv_at hl 2 rfl) ?_
  refine va_get (D := (dC, dI)) (ci := 8) (v := .int 20) (C := RX11) (T := TX11) (N := 71) hx hb hw iwX11 hown hK hP 0 rfl rfl 14 (by decide) (hw _ w_f_X11_38) (fun _ h9 => h9) rfl dX11_feed_118 ?_
  refine W.widen (k := 0) (n := 0) (Nat.le_of_ble_eq_true rfl) (Nat.le_of_ble_eq_true rfl) ?_
  exact W.iret (v := 20) hx hb hr (fun t ht hW => ⟨⟨20, (), rfl, rfl, trivial⟩, hS.F ht⟩) hS.2.2 dX11_feed_121

