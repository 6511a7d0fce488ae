set_option maxHeartbeats 8000000 in
set_option maxRecDepth 100000 in
theorem c_X11_readsParts (l : Launch) (fu : Nat) : K_X11_readsParts l fu := by
  refine Nat.strongRecOn (motive := fun fu => K_X11_readsParts l fu) fu ?_
  intro fu ihf
  intro dC dI sz h_mm h_tap h_nv h_nn h_na h_nb h_nc h_vrs h_let v_mm x_mm_nodes x_mm_taped x_mm_at x_mm_place x_mm_kind x_mm_sign x_mm_name x_mm_isFaulty x_mm_fault x_mm_faultPlace x_mm_opened x_mm_reading cy_tap f_tap cy_nv f_nv cy_nn f_nn cy_na f_na cy_nb f_nb cy_nc f_nc cy_vrs f_vrs cy_let f_let p1 lo hh za zb zc zv G nv vf dd hx_mm_nodes hx_mm_taped hx_mm_at hx_mm_place hx_mm_kind hx_mm_isFaulty hx_mm_opened hx_mm_reading hf_nv hf_na hf_nb hf_nc hf_vrs q0 q1 q2 q3 q4 q5 q6 q7 q8 q9 q10 q11 q12 q13 q14 q15 hn_nd0 hn_nd hn_tapq hn_nvq hn_vfm hn_nmk hn_trs
  refine Met.ofW (cc := cX11_readsParts) (maxL := 2) (ret := none) (by decide) rfl ?_
  intro p e s m args below meth c s₁ B hml hv
  obtain ⟨rfl, hsz, hP, hK, hD0, hN⟩ := hv
  have hx := B.exec
  have hb := B.bytes
  have hr := B.returns
  have hts := atoms_spec (ws := Ws yX11_readsParts cX11_readsParts 2 none) B.pre
  have hT : ∀ w ∈ WALL, w ∈ Ws yX11_readsParts cX11_readsParts 2 none := fun w h => List.mem_cons_of_mem _ h
  have hw := fun w (h : w ∈ WALL) => hts w (hT w h)
  have hown : s.vm.findClass RX11 = some m.cls := findClass_of_methodNamed B.named
  have hlocks := B.notSynchronized
  subst hsz
  have hD := hD0.self (sz := s.heap.size)
  generalize hAe : va_A [(h_mm, .inr (8, (mo126 v_mm (.ref h_nv) (.ref h_nn) (.ref h_na) (.ref h_nb) (.ref h_nc) (.int x_mm_nodes) (.ref h_vrs) (.ref h_let) (.ref h_tap) (.int x_mm_taped) (.int x_mm_at) (.int x_mm_place) (.int x_mm_kind) (.int x_mm_sign) (.long x_mm_name) (.int x_mm_isFaulty) (.int x_mm_fault) (.int x_mm_faultPlace) (.int x_mm_opened) (.int x_mm_reading)))), (h_tap, .inl (cy_tap, 600, .inl f_tap)), (h_nv, .inl (cy_nv, 8000, .inl f_nv)), (h_nn, .inl (cy_nn, 8000, .inr (.inl f_nn))), (h_na, .inl (cy_na, 8000, .inl f_na)), (h_nb, .inl (cy_nb, 8000, .inl f_nb)), (h_nc, .inl (cy_nc, 8000, .inl f_nc)), (h_vrs, .inl (cy_vrs, 32, .inl f_vrs)), (h_let, .inl (cy_let, 256, .inl f_let))] s.heap.size = A at hD ⊢
  have hA : ∀ q : Nat, s.heap.size ≤ q → A q := fun q h => by rw [← hAe]; exact Or.inr h
  have hS : va_S A s.heap s.heap [] := va_S.rf
  have hl := lv_entry ([.ref h_mm, .int p1]) (n := 2) (Nat.le_of_ble_eq_true rfl)
  rw [lg_entry_eq]
  generalize (lg_sl ([.ref h_mm, .int p1]) ++ List.replicate (2 - (lg_sl ([.ref h_mm, .int p1])).length) Slot.unset).toArray = ls at hl ⊢
  have hl : lv_has ls 2 [(0, .ref h_mm), (1, .int p1)] := hl
  have to9 := tk_or hn_tapq.1 (x_mm_taped).toInt (x_mm_place).toInt
  refine lv_aload_n hx hb dX11_readsParts_0 rfl (lv_at hl 0 rfl) ?_
  refine lv_bipush (v := 40) hx hb dX11_readsParts_1 (by decide) ?_
  obtain ⟨vq1, evq1⟩ := mq126_91 v_mm (.ref h_nv) (.ref h_nn) (.ref h_na) (.ref h_nb) (.ref h_nc) (.int x_mm_nodes) (.ref h_vrs) (.ref h_let) (.ref h_tap) (.int x_mm_taped) (.int x_mm_at) (.int x_mm_place) (.long x_mm_name) (.int x_mm_fault) (.int x_mm_faultPlace) (.int x_mm_opened) (.int x_mm_reading)
  replace hP : va_P (dC, dI) cls [(h_mm, .inr (8, (mo91 vq1 (.int x_mm_kind) (.int x_mm_sign) (.int x_mm_isFaulty)))), (h_tap, .inl (cy_tap, 600, .inl f_tap)), (h_nv, .inl (cy_nv, 8000, .inl f_nv)), (h_nn, .inl (cy_nn, 8000, .inr (.inl f_nn))), (h_na, .inl (cy_na, 8000, .inl f_na)), (h_nb, .inl (cy_nb, 8000, .inl f_nb)), (h_nc, .inl (cy_nc, 8000, .inl f_nc)), (h_vrs, .inl (cy_vrs, 32, .inl f_vrs)), (h_let, .inl (cy_let, 256, .inl f_let))] s.heap := by rw [evq1]; exact hP
  replace hD : va_D A [(h_mm, .inr (8, (mo91 vq1 (.int x_mm_kind) (.int x_mm_sign) (.int x_mm_isFaulty)))), (h_tap, .inl (cy_tap, 600, .inl f_tap)), (h_nv, .inl (cy_nv, 8000, .inl f_nv)), (h_nn, .inl (cy_nn, 8000, .inr (.inl f_nn))), (h_na, .inl (cy_na, 8000, .inl f_na)), (h_nb, .inl (cy_nb, 8000, .inl f_nb)), (h_nc, .inl (cy_nc, 8000, .inl f_nc)), (h_vrs, .inl (cy_vrs, 32, .inl f_vrs)), (h_let, .inl (cy_let, 256, .inl f_let))] := by rw [evq1]; exact hD
  have cst40 : (40 : Int32).toInt = 40 := by decide
  have hPc := hP.sub (ws' := [(h_mm, .inr (8, (mo91 vq1 (.int x_mm_kind) (.int x_mm_sign) (.int x_mm_isFaulty))))]) [0] rfl
  have hDc := hD.sub (ws' := [(h_mm, .inr (8, (mo91 vq1 (.int x_mm_kind) (.int x_mm_sign) (.int x_mm_isFaulty))))]) [0] (by decide) rfl
  have hKc := hK.sub (tys' := []) [] rfl
  have hFc := va_free (wc := [(h_mm, .inr (8, (mo91 vq1 (.int x_mm_kind) (.int x_mm_sign) (.int x_mm_isFaulty))))]) hD hS hA [0] rfl
  refine va_calli (va_runV (As := [.int 40]) (rest := []) ⟨hx, hb, hml, hown, hts⟩ (c_X11_isSign l dC dI s.heap.size h_mm vq1 x_mm_kind x_mm_sign x_mm_isFaulty 40 (by first | exact hx_mm_kind | omega) (by first | exact hx_mm_isFaulty | omega)) (cwV 1 hts (gv hT w_m_X11_95 w_instanceMethod_X11_isSign ws_sel_X11_isSign w_ini_X11 w_code_X11_isSign) rfl rfl rfl (by decide +kernel) ⟨(by dsimp only [headSpec]; omega), (by dsimp only [headSpec]; omega)⟩) ⟨pre_blind, va_recv hK hP (ci := 8) (q0 := 0) rfl rfl, pre_of hPc hKc hDc hN⟩ rfl rfl hl.1 rfl (lv_room (Nat.le_of_ble_eq_true rfl)) dX11_readsParts_3 ⟨(Nat.le_of_ble_eq_true rfl), (Nat.le_of_ble_eq_true rfl)⟩) hS (fun q _ h => hFc q h) hFc (fun r2 u t H locs ht hvm hq hB hz1 hk1 hS9 => ?_)
  obtain ⟨hP1, hD1⟩ := hB
  rw [ht] at hP1
  obtain ⟨hP9, hD9⟩ := va_join (wr := [(h_tap, .inl (cy_tap, 600, .inl f_tap)), (h_nv, .inl (cy_nv, 8000, .inl f_nv)), (h_nn, .inl (cy_nn, 8000, .inr (.inl f_nn))), (h_na, .inl (cy_na, 8000, .inl f_na)), (h_nb, .inl (cy_nb, 8000, .inl f_nb)), (h_nc, .inl (cy_nc, 8000, .inl f_nc)), (h_vrs, .inl (cy_vrs, 32, .inl f_vrs)), (h_let, .inl (cy_let, 256, .inl f_let))]) (w1 := [(h_mm, .inr (8, (mo91 vq1 (.int x_mm_kind) (.int x_mm_sign) (.int x_mm_isFaulty))))]) hP hD [0] [1, 2, 3, 4, 5, 6, 7, 8] rfl rfl (by decide) (by decide) hk1 hFc hP1 hD1
  clear hP hD hS hPc hDc hKc hFc hP1 hD1 hk1 hz1 ht hvm
  have hP : va_P (dC, dI) cls [(h_tap, .inl (cy_tap, 600, .inl f_tap)), (h_nv, .inl (cy_nv, 8000, .inl f_nv)), (h_nn, .inl (cy_nn, 8000, .inr (.inl f_nn))), (h_na, .inl (cy_na, 8000, .inl f_na)), (h_nb, .inl (cy_nb, 8000, .inl f_nb)), (h_nc, .inl (cy_nc, 8000, .inl f_nc)), (h_vrs, .inl (cy_vrs, 32, .inl f_vrs)), (h_let, .inl (cy_let, 256, .inl f_let)), (h_mm, .inr (8, (mo91 vq1 (.int x_mm_kind) (.int x_mm_sign) (.int x_mm_isFaulty))))] H := hP9
  have hD : va_D A [(h_tap, .inl (cy_tap, 600, .inl f_tap)), (h_nv, .inl (cy_nv, 8000, .inl f_nv)), (h_nn, .inl (cy_nn, 8000, .inr (.inl f_nn))), (h_na, .inl (cy_na, 8000, .inl f_na)), (h_nb, .inl (cy_nb, 8000, .inl f_nb)), (h_nc, .inl (cy_nc, 8000, .inl f_nc)), (h_vrs, .inl (cy_vrs, 32, .inl f_vrs)), (h_let, .inl (cy_let, 256, .inl f_let)), (h_mm, .inr (8, (mo91 vq1 (.int x_mm_kind) (.int x_mm_sign) (.int x_mm_isFaulty))))] := hD9
  have hS := hS9
  clear hP9 hD9 hS9
  rw [evq1] at hP hD
  replace hP : va_P (dC, dI) cls [(h_tap, .inl (cy_tap, 600, .inl f_tap)), (h_nv, .inl (cy_nv, 8000, .inl f_nv)), (h_nn, .inl (cy_nn, 8000, .inr (.inl f_nn))), (h_na, .inl (cy_na, 8000, .inl f_na)), (h_nb, .inl (cy_nb, 8000, .inl f_nb)), (h_nc, .inl (cy_nc, 8000, .inl f_nc)), (h_vrs, .inl (cy_vrs, 32, .inl f_vrs)), (h_let, .inl (cy_let, 256, .inl f_let)), (h_mm, .inr (8, (mo126 v_mm (.ref h_nv) (.ref h_nn) (.ref h_na) (.ref h_nb) (.ref h_nc) (.int x_mm_nodes) (.ref h_vrs) (.ref h_let) (.ref h_tap) (.int x_mm_taped) (.int x_mm_at) (.int x_mm_place) (.int x_mm_kind) (.int x_mm_sign) (.long x_mm_name) (.int x_mm_isFaulty) (.int x_mm_fault) (.int x_mm_faultPlace) (.int x_mm_opened) (.int x_mm_reading))))] H := hP
  replace hD : va_D A [(h_tap, .inl (cy_tap, 600, .inl f_tap)), (h_nv, .inl (cy_nv, 8000, .inl f_nv)), (h_nn, .inl (cy_nn, 8000, .inr (.inl f_nn))), (h_na, .inl (cy_na, 8000, .inl f_na)), (h_nb, .inl (cy_nb, 8000, .inl f_nb)), (h_nc, .inl (cy_nc, 8000, .inl f_nc)), (h_vrs, .inl (cy_vrs, 32, .inl f_vrs)), (h_let, .inl (cy_let, 256, .inl f_let)), (h_mm, .inr (8, (mo126 v_mm (.ref h_nv) (.ref h_nn) (.ref h_na) (.ref h_nb) (.ref h_nc) (.int x_mm_nodes) (.ref h_vrs) (.ref h_let) (.ref h_tap) (.int x_mm_taped) (.int x_mm_at) (.int x_mm_place) (.int x_mm_kind) (.int x_mm_sign) (.long x_mm_name) (.int x_mm_isFaulty) (.int x_mm_fault) (.int x_mm_faultPlace) (.int x_mm_opened) (.int x_mm_reading))))] := hD
  clear evq1 
  rcases hq with ⟨rfl, hq⟩ | ⟨rfl, hq⟩ | ⟨rfl, hq⟩
  · replace hq : (((x_mm_isFaulty)).toInt = 0) ∧ (((x_mm_kind)).toInt = 3) ∧ (((x_mm_sign)).toInt = ((40 : Int32)).toInt) := hq
    refine lv_if_ne (tgt := 10) hx hb dX11_readsParts_6 (by decide) (fun _ => ?_) (fun c9 => absurd c9 (by decide))
    have yt9 : tkT G (x_mm_taped).toInt (x_mm_place).toInt = 40 := by omega
    replace q2 : (x_mm_nodes).toInt ≤ lo + (x_mm_place).toInt := by omega
    refine lv_aload_n hx hb dX11_readsParts_10 rfl (lv_at hl 0 rfl) ?_
    refine va_get (D := (dC, dI)) (ci := 8) (v := .int x_mm_opened) (C := RX11) (T := TX11) (N := 71) hx hb hw iwX11 hown hK hP 8 rfl rfl 23 (by decide) (hw _ w_f_X11_130) (fun _ h9 => h9) rfl dX11_readsParts_11 ?_
    refine lv_bipush (v := 6) hx hb dX11_readsParts_14 (by decide) ?_
    refine lv_icmp_ne (tgt := 24) hx hb dX11_readsParts_16 (by decide) (fun c3 => ?_) (fun c3 => ?_)
    · have kc3 := (not_congr (cv_eq (rfl : (x_mm_opened).toInt = (x_mm_opened).toInt) (by decide : (6 : Int32).toInt = 6))).mp c3
      refine lv_aload_n hx hb dX11_readsParts_24 rfl (lv_at hl 0 rfl) ?_
      refine va_get (D := (dC, dI)) (ci := 8) (v := .int x_mm_isFaulty) (C := RX11) (T := TX11) (N := 71) hx hb hw iwX11 hown hK hP 8 rfl rfl 20 (by decide) (hw _ w_f_X11_61) (fun _ h9 => h9) rfl dX11_readsParts_25 ?_
      refine lv_if_eq (tgt := 32) hx hb dX11_readsParts_28 (by decide) (fun _ => ?_) (fun c4 => False.elim (by have kc4 := (not_congr (cv_eq (rfl : (x_mm_isFaulty).toInt = (x_mm_isFaulty).toInt) (by decide : (0 : Int32).toInt = 0))).mp c4; omega))
      obtain ⟨d9, hd9⟩ : ∃ y : Nat, dd = y + 1 := ⟨dd - 1, by omega⟩
      refine lv_aload_n hx hb dX11_readsParts_32 rfl (lv_at hl 0 rfl) ?_
      refine lv_aload_n hx hb dX11_readsParts_33 rfl (lv_at hl 0 rfl) ?_
      refine va_get (D := (dC, dI)) (ci := 8) (v := .int x_mm_opened) (C := RX11) (T := TX11) (N := 71) hx hb hw iwX11 hown hK hP 8 rfl rfl 23 (by decide) (hw _ w_f_X11_130) (fun _ h9 => h9) rfl dX11_readsParts_34 ?_
      refine lv_iconst (v := 1) hx hb dX11_readsParts_37 (by decide) ?_
      refine lv_iadd hx hb dX11_readsParts_38 ?_
      refine lv_topi (fun z5 ez5 => ?_)
      have tz5 : (z5).toInt = (x_mm_opened).toInt + 1 := by rw [ez5]; exact i_add rfl (by decide) (by omega)
      refine va_put (D := (dC, dI)) (ci := 8) (v := .int z5) (ty := tyX11 23) (C := RX11) (T := TX11) (N := 71) hx hb hw iwX11 tyX11 tyX11_ok nmX11 hown hK hP hD hS 8 rfl rfl 23 (by decide) (hw _ w_f_X11_130) (fun _ h9 => h9) rfl (tyX11_ok 23 (by decide)) rfl rfl (Nat.le_of_ble_eq_true rfl) dX11_readsParts_39 (fun H locs hP9 hD9 hS9 => ?_)
      clear hP hD hS
      have hP : va_P (dC, dI) cls [(h_tap, .inl (cy_tap, 600, .inl f_tap)), (h_nv, .inl (cy_nv, 8000, .inl f_nv)), (h_nn, .inl (cy_nn, 8000, .inr (.inl f_nn))), (h_na, .inl (cy_na, 8000, .inl f_na)), (h_nb, .inl (cy_nb, 8000, .inl f_nb)), (h_nc, .inl (cy_nc, 8000, .inl f_nc)), (h_vrs, .inl (cy_vrs, 32, .inl f_vrs)), (h_let, .inl (cy_let, 256, .inl f_let)), (h_mm, .inr (8, (mo126 v_mm (.ref h_nv) (.ref h_nn) (.ref h_na) (.ref h_nb) (.ref h_nc) (.int x_mm_nodes) (.ref h_vrs) (.ref h_let) (.ref h_tap) (.int x_mm_taped) (.int x_mm_at) (.int x_mm_place) (.int x_mm_kind) (.int x_mm_sign) (.long x_mm_name) (.int x_mm_isFaulty) (.int x_mm_fault) (.int x_mm_faultPlace) (.int z5) (.int x_mm_reading))))] H := hP9
      have hD : va_D A [(h_tap, .inl (cy_tap, 600, .inl f_tap)), (h_nv, .inl (cy_nv, 8000, .inl f_nv)), (h_nn, .inl (cy_nn, 8000, .inr (.inl f_nn))), (h_na, .inl (cy_na, 8000, .inl f_na)), (h_nb, .inl (cy_nb, 8000, .inl f_nb)), (h_nc, .inl (cy_nc, 8000, .inl f_nc)), (h_vrs, .inl (cy_vrs, 32, .inl f_vrs)), (h_let, .inl (cy_let, 256, .inl f_let)), (h_mm, .inr (8, (mo126 v_mm (.ref h_nv) (.ref h_nn) (.ref h_na) (.ref h_nb) (.ref h_nc) (.int x_mm_nodes) (.ref h_vrs) (.ref h_let) (.ref h_tap) (.int x_mm_taped) (.int x_mm_at) (.int x_mm_place) (.int x_mm_kind) (.int x_mm_sign) (.long x_mm_name) (.int x_mm_isFaulty) (.int x_mm_fault) (.int x_mm_faultPlace) (.int z5) (.int x_mm_reading))))] := hD9
      have hS := hS9
      clear hP9 hD9 hS9
      refine lv_aload_n hx hb dX11_readsParts_42 rfl (lv_at hl 0 rfl) ?_
      obtain ⟨vq6, evq6⟩ := mq126_89 v_mm (.ref h_nv) (.ref h_nn) (.ref h_na) (.ref h_nb) (.ref h_nc) (.int x_mm_nodes) (.ref h_vrs) (.ref h_let) (.int x_mm_isFaulty) (.int x_mm_fault) (.int x_mm_faultPlace) (.int z5) (.int x_mm_reading)
      replace hP : va_P (dC, dI) cls [(h_tap, .inl (cy_tap, 600, .inl f_tap)), (h_nv, .inl (cy_nv, 8000, .inl f_nv)), (h_nn, .inl (cy_nn, 8000, .inr (.inl f_nn))), (h_na, .inl (cy_na, 8000, .inl f_na)), (h_nb, .inl (cy_nb, 8000, .inl f_nb)), (h_nc, .inl (cy_nc, 8000, .inl f_nc)), (h_vrs, .inl (cy_vrs, 32, .inl f_vrs)), (h_let, .inl (cy_let, 256, .inl f_let)), (h_mm, .inr (8, (mo89 vq6 (.ref h_tap) (.int x_mm_taped) (.int x_mm_at) (.int x_mm_place) (.int x_mm_kind) (.int x_mm_sign) (.long x_mm_name))))] H := by rw [evq6]; exact hP
      replace hD : va_D A [(h_tap, .inl (cy_tap, 600, .inl f_tap)), (h_nv, .inl (cy_nv, 8000, .inl f_nv)), (h_nn, .inl (cy_nn, 8000, .inr (.inl f_nn))), (h_na, .inl (cy_na, 8000, .inl f_na)), (h_nb, .inl (cy_nb, 8000, .inl f_nb)), (h_nc, .inl (cy_nc, 8000, .inl f_nc)), (h_vrs, .inl (cy_vrs, 32, .inl f_vrs)), (h_let, .inl (cy_let, 256, .inl f_let)), (h_mm, .inr (8, (mo89 vq6 (.ref h_tap) (.int x_mm_taped) (.int x_mm_at) (.int x_mm_place) (.int x_mm_kind) (.int x_mm_sign) (.long x_mm_name))))] := by rw [evq6]; exact hD
      have hPc := hP.sub (ws' := [(h_mm, .inr (8, (mo89 vq6 (.ref h_tap) (.int x_mm_taped) (.int x_mm_at) (.int x_mm_place) (.int x_mm_kind) (.int x_mm_sign) (.long x_mm_name)))), (h_tap, .inl (cy_tap, 600, .inl f_tap))]) [8, 0] rfl
      have hDc := hD.sub (ws' := [(h_mm, .inr (8, (mo89 vq6 (.ref h_tap) (.int x_mm_taped) (.int x_mm_at) (.int x_mm_place) (.int x_mm_kind) (.int x_mm_sign) (.long x_mm_name)))), (h_tap, .inl (cy_tap, 600, .inl f_tap))]) [8, 0] (by decide) rfl
      have hKc := hK.sub (tys' := [(cy_tap, .byte)]) [0] rfl
      have hFc := va_free (wc := [(h_mm, .inr (8, (mo89 vq6 (.ref h_tap) (.int x_mm_taped) (.int x_mm_at) (.int x_mm_place) (.int x_mm_kind) (.int x_mm_sign) (.long x_mm_name)))), (h_tap, .inl (cy_tap, 600, .inl f_tap))]) hD hS hA [8, 0] rfl
      refine va_callv (va_runV (As := []) (rest := []) ⟨hx, hb, hml, hown, hts⟩ (c_X11_step l dC dI H.size h_mm h_tap vq6 x_mm_taped x_mm_at x_mm_place x_mm_kind x_mm_sign x_mm_name cy_tap f_tap G (by first | exact hx_mm_taped | omega) (by first | exact hx_mm_at | omega) (by first | exact hx_mm_place | omega) (by first | exact hx_mm_kind | omega) (by first | exact q10 | omega) hn_tapq) (cwV 0 hts (gv hT w_m_X11_98 w_instanceMethod_X11_step ws_sel_X11_step w_ini_X11 w_code_X11_step) rfl rfl rfl (by decide +kernel) ⟨(by dsimp only [headSpec]; omega), (by dsimp only [headSpec]; omega)⟩) ⟨pre_blind, va_recv hK hP (ci := 8) (q0 := 8) rfl rfl, pre_of hPc hKc hDc hN⟩ rfl rfl hl.1 rfl (lv_room (Nat.le_of_ble_eq_true rfl)) dX11_readsParts_43 ⟨(Nat.le_of_ble_eq_true rfl), (Nat.le_of_ble_eq_true rfl)⟩) hS (fun q _ h => hFc q h) hFc (fun u t H locs ht hvm hq hB hz1 hk1 hS9 => ?_)
      obtain ⟨z8, z9, z10, z11, z12⟩ := u
      obtain ⟨hP1, hD1⟩ := hB
      rw [ht] at hP1
      obtain ⟨hP9, hD9⟩ := va_join (wr := [(h_nv, .inl (cy_nv, 8000, .inl f_nv)), (h_nn, .inl (cy_nn, 8000, .inr (.inl f_nn))), (h_na, .inl (cy_na, 8000, .inl f_na)), (h_nb, .inl (cy_nb, 8000, .inl f_nb)), (h_nc, .inl (cy_nc, 8000, .inl f_nc)), (h_vrs, .inl (cy_vrs, 32, .inl f_vrs)), (h_let, .inl (cy_let, 256, .inl f_let))]) (w1 := [(h_mm, .inr (8, (mo89 vq6 (.ref h_tap) (.int x_mm_taped) (.int z8) (.int z9) (.int z10) (.int z11) (.long z12)))), (h_tap, .inl (cy_tap, 600, .inl f_tap))]) hP hD [8, 0] [1, 2, 3, 4, 5, 6, 7] rfl rfl (by decide) (by decide) hk1 hFc hP1 hD1
      clear hP hD hS hPc hDc hKc hFc hP1 hD1 hk1 hz1 ht hvm
      have hP : va_P (dC, dI) cls [(h_nv, .inl (cy_nv, 8000, .inl f_nv)), (h_nn, .inl (cy_nn, 8000, .inr (.inl f_nn))), (h_na, .inl (cy_na, 8000, .inl f_na)), (h_nb, .inl (cy_nb, 8000, .inl f_nb)), (h_nc, .inl (cy_nc, 8000, .inl f_nc)), (h_vrs, .inl (cy_vrs, 32, .inl f_vrs)), (h_let, .inl (cy_let, 256, .inl f_let)), (h_mm, .inr (8, (mo89 vq6 (.ref h_tap) (.int x_mm_taped) (.int z8) (.int z9) (.int z10) (.int z11) (.long z12)))), (h_tap, .inl (cy_tap, 600, .inl f_tap))] H := hP9
      have hD : va_D A [(h_nv, .inl (cy_nv, 8000, .inl f_nv)), (h_nn, .inl (cy_nn, 8000, .inr (.inl f_nn))), (h_na, .inl (cy_na, 8000, .inl f_na)), (h_nb, .inl (cy_nb, 8000, .inl f_nb)), (h_nc, .inl (cy_nc, 8000, .inl f_nc)), (h_vrs, .inl (cy_vrs, 32, .inl f_vrs)), (h_let, .inl (cy_let, 256, .inl f_let)), (h_mm, .inr (8, (mo89 vq6 (.ref h_tap) (.int x_mm_taped) (.int z8) (.int z9) (.int z10) (.int z11) (.long z12)))), (h_tap, .inl (cy_tap, 600, .inl f_tap))] := hD9
      have hS := hS9
      clear hP9 hD9 hS9
      rw [evq6] at hP hD
      replace hP : va_P (dC, dI) cls [(h_nv, .inl (cy_nv, 8000, .inl f_nv)), (h_nn, .inl (cy_nn, 8000, .inr (.inl f_nn))), (h_na, .inl (cy_na, 8000, .inl f_na)), (h_nb, .inl (cy_nb, 8000, .inl f_nb)), (h_nc, .inl (cy_nc, 8000, .inl f_nc)), (h_vrs, .inl (cy_vrs, 32, .inl f_vrs)), (h_let, .inl (cy_let, 256, .inl f_let)), (h_mm, .inr (8, (mo126 v_mm (.ref h_nv) (.ref h_nn) (.ref h_na) (.ref h_nb) (.ref h_nc) (.int x_mm_nodes) (.ref h_vrs) (.ref h_let) (.ref h_tap) (.int x_mm_taped) (.int z8) (.int z9) (.int z10) (.int z11) (.long z12) (.int x_mm_isFaulty) (.int x_mm_fault) (.int x_mm_faultPlace) (.int z5) (.int x_mm_reading)))), (h_tap, .inl (cy_tap, 600, .inl f_tap))] H := hP
      replace hD : va_D A [(h_nv, .inl (cy_nv, 8000, .inl f_nv)), (h_nn, .inl (cy_nn, 8000, .inr (.inl f_nn))), (h_na, .inl (cy_na, 8000, .inl f_na)), (h_nb, .inl (cy_nb, 8000, .inl f_nb)), (h_nc, .inl (cy_nc, 8000, .inl f_nc)), (h_vrs, .inl (cy_vrs, 32, .inl f_vrs)), (h_let, .inl (cy_let, 256, .inl f_let)), (h_mm, .inr (8, (mo126 v_mm (.ref h_nv) (.ref h_nn) (.ref h_na) (.ref h_nb) (.ref h_nc) (.int x_mm_nodes) (.ref h_vrs) (.ref h_let) (.ref h_tap) (.int x_mm_taped) (.int z8) (.int z9) (.int z10) (.int z11) (.long z12) (.int x_mm_isFaulty) (.int x_mm_fault) (.int x_mm_faultPlace) (.int z5) (.int x_mm_reading)))), (h_tap, .inl (cy_tap, 600, .inl f_tap))] := hD
      clear evq6 
      obtain ⟨k13, k14, k15, k16, k17, k18, k19, k20, k21, k22, k23⟩ := hq
      replace k13 : 0 ≤ ((z8)).toInt ∧ ((z8)).toInt ≤ 600 := k13
      replace k14 : 0 ≤ ((z9)).toInt ∧ ((z9)).toInt ≤ 600 := k14
      replace k15 : 0 ≤ ((z10)).toInt ∧ ((z10)).toInt ≤ 4 := k15
      replace k16 : ((x_mm_at)).toInt ≤ ((z9)).toInt := k16
      replace k17 : ((z9)).toInt ≤ ((z8)).toInt := k17
      replace k18 : ((z9)).toInt = tkS (G) ((x_mm_taped)).toInt ((x_mm_at)).toInt := k18
      replace k19 : ((z10)).toInt = kd (tkT (G) ((x_mm_taped)).toInt ((z9)).toInt) := k19
      replace k20 : ((z10)).toInt = 0 ∨ (((z8)).toInt = tkX (G) ((x_mm_taped)).toInt ((z9)).toInt ∧ ((z11)).toInt = (G) ((z9)).toInt ∧ ((z9)).toInt < ((x_mm_taped)).toInt ∧ ((z9)).toInt + 1 ≤ ((z8)).toInt) := k20
      replace k21 : ((z8)).toInt ≤ ((x_mm_taped)).toInt := k21
      replace k22 : ((z9)).toInt ≤ ((x_mm_taped)).toInt := k22
      replace k23 : NMK ((z10)).toInt ((z12)).toInt (NMI 27 (G) ((x_mm_taped)).toInt ((z9)).toInt) := k23
      have tn24x : (x_mm_at).toInt = tkX G (x_mm_taped).toInt (x_mm_place).toInt := by omega
      have tn24 : (z9).toInt = tkN G (x_mm_taped).toInt (x_mm_place).toInt := by rw [k18, tn24x]; rfl
      clear q9
      have lo0 : pLo G (x_mm_taped).toInt (pPs G (x_mm_taped).toInt d9) 3 (x_mm_place).toInt nv vf = (pPs G (x_mm_taped).toInt dd (x_mm_place).toInt nv vf) := (pPs_open2 hd9 yt9).symm
      refine lv_aload_n hx hb dX11_readsParts_46 rfl (lv_at hl 0 rfl) ?_
      refine va_get (D := (dC, dI)) (ci := 8) (v := .ref h_na) (C := RX11) (T := TX11) (N := 71) hx hb hw iwX11 hown hK hP 7 rfl rfl 3 (by decide) (hw _ w_f_X11_7) (fun _ h9 => h9) rfl dX11_readsParts_47 ?_
      refine lv_iload_n hx hb dX11_readsParts_50 rfl (lv_at hl 1 rfl) ?_
      refine lv_aload_n hx hb dX11_readsParts_51 rfl (lv_at hl 0 rfl) ?_
      have hPc := hP.sub (ws' := [(h_mm, .inr (8, (mo126 v_mm (.ref h_nv) (.ref h_nn) (.ref h_na) (.ref h_nb) (.ref h_nc) (.int x_mm_nodes) (.ref h_vrs) (.ref h_let) (.ref h_tap) (.int x_mm_taped) (.int z8) (.int z9) (.int z10) (.int z11) (.long z12) (.int x_mm_isFaulty) (.int x_mm_fault) (.int x_mm_faultPlace) (.int z5) (.int x_mm_reading)))), (h_tap, .inl (cy_tap, 600, .inl f_tap)), (h_nv, .inl (cy_nv, 8000, .inl f_nv)), (h_nn, .inl (cy_nn, 8000, .inr (.inl f_nn))), (h_na, .inl (cy_na, 8000, .inl f_na)), (h_nb, .inl (cy_nb, 8000, .inl f_nb)), (h_nc, .inl (cy_nc, 8000, .inl f_nc)), (h_vrs, .inl (cy_vrs, 32, .inl f_vrs)), (h_let, .inl (cy_let, 256, .inl f_let))]) [7, 8, 0, 1, 2, 3, 4, 5, 6] rfl
      have hDc := hD.sub (ws' := [(h_mm, .inr (8, (mo126 v_mm (.ref h_nv) (.ref h_nn) (.ref h_na) (.ref h_nb) (.ref h_nc) (.int x_mm_nodes) (.ref h_vrs) (.ref h_let) (.ref h_tap) (.int x_mm_taped) (.int z8) (.int z9) (.int z10) (.int z11) (.long z12) (.int x_mm_isFaulty) (.int x_mm_fault) (.int x_mm_faultPlace) (.int z5) (.int x_mm_reading)))), (h_tap, .inl (cy_tap, 600, .inl f_tap)), (h_nv, .inl (cy_nv, 8000, .inl f_nv)), (h_nn, .inl (cy_nn, 8000, .inr (.inl f_nn))), (h_na, .inl (cy_na, 8000, .inl f_na)), (h_nb, .inl (cy_nb, 8000, .inl f_nb)), (h_nc, .inl (cy_nc, 8000, .inl f_nc)), (h_vrs, .inl (cy_vrs, 32, .inl f_vrs)), (h_let, .inl (cy_let, 256, .inl f_let))]) [7, 8, 0, 1, 2, 3, 4, 5, 6] (by decide) rfl
      have hKc := hK.sub (tys' := [(cy_tap, .byte), (cy_nv, .int), (cy_nn, .long), (cy_na, .int), (cy_nb, .int), (cy_nc, .int), (cy_vrs, .int), (cy_let, .int)]) [0, 1, 2, 3, 4, 5, 6, 7] rfl
      have hFc := va_free (wc := [(h_mm, .inr (8, (mo126 v_mm (.ref h_nv) (.ref h_nn) (.ref h_na) (.ref h_nb) (.ref h_nc) (.int x_mm_nodes) (.ref h_vrs) (.ref h_let) (.ref h_tap) (.int x_mm_taped) (.int z8) (.int z9) (.int z10) (.int z11) (.long z12) (.int x_mm_isFaulty) (.int x_mm_fault) (.int x_mm_faultPlace) (.int z5) (.int x_mm_reading)))), (h_tap, .inl (cy_tap, 600, .inl f_tap)), (h_nv, .inl (cy_nv, 8000, .inl f_nv)), (h_nn, .inl (cy_nn, 8000, .inr (.inl f_nn))), (h_na, .inl (cy_na, 8000, .inl f_na)), (h_nb, .inl (cy_nb, 8000, .inl f_nb)), (h_nc, .inl (cy_nc, 8000, .inl f_nc)), (h_vrs, .inl (cy_vrs, 32, .inl f_vrs)), (h_let, .inl (cy_let, 256, .inl f_let))]) hD hS hA [7, 8, 0, 1, 2, 3, 4, 5, 6] rfl
      refine va_calli (va_runV (As := []) (rest := [.int p1, .ref h_na]) ⟨hx, hb, hml, hown, hts⟩ (c_X11_readsTerm l dC dI H.size h_mm h_tap h_nv h_nn h_na h_nb h_nc h_vrs h_let v_mm x_mm_nodes x_mm_taped z8 z9 z10 z11 z12 x_mm_isFaulty x_mm_fault x_mm_faultPlace z5 x_mm_reading cy_tap f_tap cy_nv f_nv cy_nn f_nn cy_na f_na cy_nb f_nb cy_nc f_nc cy_vrs f_vrs cy_let f_let (fu - 2) lo hh za zb zc zv G nv vf d9 (by first | exact hx_mm_nodes | omega) (by first | exact hx_mm_taped | omega) (by first | exact k13 | omega) (by first | exact k14 | omega) (by first | exact k15 | omega) (by first | exact hx_mm_isFaulty | omega) (by omega) (by first | exact hx_mm_reading | omega) hf_nv hf_na hf_nb hf_nc hf_vrs (ihf (fu - 2) (by omega)) (by first | exact k17 | omega) (by omega) (by omega) (by first | exact q3 | omega) (by first | exact k19 | omega) (by first | exact k20 | omega) (by first | exact k21 | omega) (by first | exact k22 | omega) (by first | exact q12 | omega) (by first | exact q13 | omega) (by omega) (by omega) hn_nd0 (nd_cast hn_nd (by omega)) hn_tapq hn_nvq hn_vfm k23) (cwV 0 hts (gv hT w_m_X11_133 w_instanceMethod_X11_readsTerm ws_sel_X11_readsTerm w_ini_X11 w_code_X11_readsTerm) rfl rfl rfl (by decide +kernel) ⟨(by dsimp only [headSpec]; omega), (by dsimp only [headSpec]; omega)⟩) ⟨pre_blind, va_recv hK hP (ci := 8) (q0 := 7) rfl rfl, pre_of hPc hKc hDc hN⟩ rfl rfl hl.1 rfl (lv_room (Nat.le_of_ble_eq_true rfl)) dX11_readsParts_52 ⟨(Nat.le_of_ble_eq_true rfl), (Nat.le_of_ble_eq_true rfl)⟩) hS (fun q _ h => hFc q h) hFc (fun r25 u t H locs ht hvm hq hB hz1 hk1 hS9 => ?_)
      obtain ⟨z26, z27, z28, z29, z30, z31, z32, z33, z34, f35, f36, f37, f38, f39, f40, f41, gh42⟩ := u
      obtain ⟨hP1, hD1⟩ := hB
      rw [ht] at hP1
      obtain ⟨hP9, hD9⟩ := va_join (wr := []) (w1 := [(h_mm, .inr (8, (mo126 v_mm (.ref h_nv) (.ref h_nn) (.ref h_na) (.ref h_nb) (.ref h_nc) (.int z26) (.ref h_vrs) (.ref h_let) (.ref h_tap) (.int x_mm_taped) (.int z27) (.int z28) (.int z29) (.int z30) (.long z31) (.int z32) (.int z33) (.int z34) (.int z5) (.int x_mm_reading)))), (h_tap, .inl (cy_tap, 600, .inl f_tap)), (h_nv, .inl (cy_nv, 8000, .inl f35)), (h_nn, .inl (cy_nn, 8000, .inr (.inl f36))), (h_na, .inl (cy_na, 8000, .inl f37)), (h_nb, .inl (cy_nb, 8000, .inl f38)), (h_nc, .inl (cy_nc, 8000, .inl f39)), (h_vrs, .inl (cy_vrs, 32, .inl f40)), (h_let, .inl (cy_let, 256, .inl f41))]) hP hD [7, 8, 0, 1, 2, 3, 4, 5, 6] [] rfl rfl (by decide) (by decide) hk1 hFc hP1 hD1
      clear hP hD hS hPc hDc hKc hFc hP1 hD1 hk1 hz1 ht hvm
      have hP : va_P (dC, dI) cls [(h_mm, .inr (8, (mo126 v_mm (.ref h_nv) (.ref h_nn) (.ref h_na) (.ref h_nb) (.ref h_nc) (.int z26) (.ref h_vrs) (.ref h_let) (.ref h_tap) (.int x_mm_taped) (.int z27) (.int z28) (.int z29) (.int z30) (.long z31) (.int z32) (.int z33) (.int z34) (.int z5) (.int x_mm_reading)))), (h_tap, .inl (cy_tap, 600, .inl f_tap)), (h_nv, .inl (cy_nv, 8000, .inl f35)), (h_nn, .inl (cy_nn, 8000, .inr (.inl f36))), (h_na, .inl (cy_na, 8000, .inl f37)), (h_nb, .inl (cy_nb, 8000, .inl f38)), (h_nc, .inl (cy_nc, 8000, .inl f39)), (h_vrs, .inl (cy_vrs, 32, .inl f40)), (h_let, .inl (cy_let, 256, .inl f41))] H := hP9
      have hD : va_D A [(h_mm, .inr (8, (mo126 v_mm (.ref h_nv) (.ref h_nn) (.ref h_na) (.ref h_nb) (.ref h_nc) (.int z26) (.ref h_vrs) (.ref h_let) (.ref h_tap) (.int x_mm_taped) (.int z27) (.int z28) (.int z29) (.int z30) (.long z31) (.int z32) (.int z33) (.int z34) (.int z5) (.int x_mm_reading)))), (h_tap, .inl (cy_tap, 600, .inl f_tap)), (h_nv, .inl (cy_nv, 8000, .inl f35)), (h_nn, .inl (cy_nn, 8000, .inr (.inl f36))), (h_na, .inl (cy_na, 8000, .inl f37)), (h_nb, .inl (cy_nb, 8000, .inl f38)), (h_nc, .inl (cy_nc, 8000, .inl f39)), (h_vrs, .inl (cy_vrs, 32, .inl f40)), (h_let, .inl (cy_let, 256, .inl f41))] := hD9
      have hS := hS9
      clear hP9 hD9 hS9
      obtain ⟨k43, k44, k45, k46, k47, hf35, hf37, hf38, hf39, hf40, k48, k49, k50, k51, k52, k53, k54, k55, k56, k57, k58, k59, k60, k61, k62, k63, k64, k65, k66, k67, k68, k69, k70, k71⟩ := hq
      replace k43 : 0 ≤ ((z26)).toInt ∧ ((z26)).toInt ≤ 1200 := k43
      replace k44 : 0 ≤ ((z27)).toInt ∧ ((z27)).toInt ≤ 600 := k44
      replace k45 : 0 ≤ ((z28)).toInt ∧ ((z28)).toInt ≤ 600 := k45
      replace k46 : 0 ≤ ((z29)).toInt ∧ ((z29)).toInt ≤ 4 := k46
      replace k47 : 0 ≤ ((z32)).toInt ∧ ((z32)).toInt ≤ 1 := k47
      replace hf35 : Rg (-1) 7 (f35) := hf35
      replace hf37 : Rg (-1) 7999 (f37) := hf37
      replace hf38 : Rg (-1) 7999 (f38) := hf38
      replace hf39 : Rg (-1) 7999 (f39) := hf39
      replace hf40 : Rg 0 8 (f40) := hf40
      replace k48 : -1 ≤ (r25).toInt ∧ (r25).toInt ≤ 1199 := k48
      replace k49 : ((z28)).toInt ≤ ((z27)).toInt := k49
      replace k50 : ((z32)).toInt = 1 ∨ ((z26)).toInt ≤ (lo) + ((z28)).toInt := k50
      replace k51 : ((x_mm_nodes)).toInt ≤ ((z26)).toInt := k51
      replace k52 : ((z9)).toInt ≤ ((z28)).toInt := k52
      replace k53 : ((x_mm_isFaulty)).toInt ≤ ((z32)).toInt := k53
      replace k54 : ((r25)).toInt = -1 ∨ ((lo) ≤ ((r25)).toInt ∧ ((r25)).toInt < ((z26)).toInt ∧ ((gh42) ((r25)).toInt.toNat : Int) = 7 - ((z5)).toInt) := k54
      replace k55 : ((z32)).toInt = 1 ∨ 0 ≤ ((r25)).toInt := k55
      replace k56 : (((z32)).toInt = 0 ∧ ((pTm (G) ((x_mm_taped)).toInt (pPs (G) ((x_mm_taped)).toInt (d9)) ((z9)).toInt (nv) (vf))).1 = 0 ∧ ((z33)).toInt = ((x_mm_fault)).toInt ∧ ((z34)).toInt = ((x_mm_faultPlace)).toInt) ∨ (((z32)).toInt = 1 ∧ ¬ ((pTm (G) ((x_mm_taped)).toInt (pPs (G) ((x_mm_taped)).toInt (d9)) ((z9)).toInt (nv) (vf))).1 = 0 ∧ ((z33)).toInt = ((pTm (G) ((x_mm_taped)).toInt (pPs (G) ((x_mm_taped)).toInt (d9)) ((z9)).toInt (nv) (vf))).1 ∧ ((z34)).toInt = ((pTm (G) ((x_mm_taped)).toInt (pPs (G) ((x_mm_taped)).toInt (d9)) ((z9)).toInt (nv) (vf))).2.1) := k56
      replace k57 : ((z28)).toInt = ((pTm (G) ((x_mm_taped)).toInt (pPs (G) ((x_mm_taped)).toInt (d9)) ((z9)).toInt (nv) (vf))).2.1 := k57
      replace k58 : 0 ≤ ((pTm (G) ((x_mm_taped)).toInt (pPs (G) ((x_mm_taped)).toInt (d9)) ((z9)).toInt (nv) (vf))).2.2.1 ∧ ((pTm (G) ((x_mm_taped)).toInt (pPs (G) ((x_mm_taped)).toInt (d9)) ((z9)).toInt (nv) (vf))).2.2.1 ≤ 8 := k58
      replace k59 : ((z29)).toInt = kd (tkT (G) ((x_mm_taped)).toInt ((z28)).toInt) := k59
      replace k60 : ((z29)).toInt = 0 ∨ (((z27)).toInt = tkX (G) ((x_mm_taped)).toInt ((z28)).toInt ∧ ((z30)).toInt = (G) ((z28)).toInt ∧ ((z28)).toInt < ((x_mm_taped)).toInt ∧ ((z28)).toInt + 1 ≤ ((z27)).toInt) := k60
      replace k61 : ((z27)).toInt ≤ ((x_mm_taped)).toInt := k61
      replace k62 : ((z28)).toInt ≤ ((x_mm_taped)).toInt := k62
      replace k63 : EQ0 (lo) (za) (zb) (zc) (zv) (f37) (f38) (f39) (f35) := k63
      replace k64 : ND (lo) ((z26)).toInt (gh42) (f37) (f38) (f39) := k64
      replace k65 : ∀ y : Nat, (y : Int) < ((x_mm_nodes)).toInt → (gh42) y = (hh) y := k65
      replace k66 : VRF ((x_mm_reading)).toInt f_vrs (f40) := k66
      replace k67 : ((f40) (Int32.toNatClampNeg (x_mm_reading))).toInt = ((pTm (G) ((x_mm_taped)).toInt (pPs (G) ((x_mm_taped)).toInt (d9)) ((z9)).toInt (nv) (vf))).2.2.1 := k67
      replace k68 : VFM ((pTm (G) ((x_mm_taped)).toInt (pPs (G) ((x_mm_taped)).toInt (d9)) ((z9)).toInt (nv) (vf))).2.2.1 ((pTm (G) ((x_mm_taped)).toInt (pPs (G) ((x_mm_taped)).toInt (d9)) ((z9)).toInt (nv) (vf))).2.2.2 (f41) ((x_mm_reading)).toInt := k68
      replace k69 : NMK ((z29)).toInt ((z31)).toInt (NMI 27 (G) ((x_mm_taped)).toInt ((z28)).toInt) := k69
      replace k70 : IFZ ((z32)).toInt (∃ L B : Nat, (L : Int) = ((x_mm_nodes)).toInt ∧ (B : Int) = ((z26)).toInt ∧ SPX (G) ((x_mm_taped)).toInt 27 (RVW (f35) (f36) (f37) (f38) (f39)) ((pTm (G) ((x_mm_taped)).toInt (pPs (G) ((x_mm_taped)).toInt (d9)) ((z9)).toInt (nv) (vf))).2.2.1 ((pTm (G) ((x_mm_taped)).toInt (pPs (G) ((x_mm_taped)).toInt (d9)) ((z9)).toInt (nv) (vf))).2.2.2 k0 L B ((d9) + 1) (Int32.toNatClampNeg (r25)) ((z9)).toInt ((z28)).toInt) := k70
      replace k71 : AGN ((x_mm_nodes)).toInt (-1) f_nv (f35) f_nn (f36) f_na (f37) f_nb (f38) f_nc (f39) := k71
      obtain ⟨rh72, erh72⟩ : ∃ x : PR, x = (pTm (G) ((x_mm_taped)).toInt (pPs (G) ((x_mm_taped)).toInt (d9)) ((z9)).toInt (nv) (vf)) := ⟨_, rfl⟩
      rw [← erh72] at k56 k57 k58 k67 k68 k70
      rw [tn24] at erh72
      have := k65 (p1).toInt.toNat (by omega)
      clear k20
      rw [tn24, ← hd9] at k70
      have an73 : AGN (x_mm_nodes).toInt (p1).toInt f_nv f35 f_nn f36 f_na f37 f_nb f38 f_nc f39 := agn_tr agn_rf k71 (by omega) (Or.inl (by decide))
      have ts74 := trs_agn hn_trs k71 (by omega) (by omega)
      have vr75 := vrf_tr vrf_rf k66 (Int.le_refl _)
      rcases k56 with ⟨fq76a, fq76b, fq76c, fq76d⟩ | ⟨fq76a, fq76b, fq76c, fq76d⟩
      · replace k50 : (z26).toInt ≤ lo + (z28).toInt := by rcases k50 with j9 | j9; (exact absurd j9 (by omega)); exact j9
        refine va_iast hx hb hK hP hD hS 4 3 rfl rfl (i := p1) (x := r25) (vp_in_iff.mpr (by omega)) dX11_readsParts_55 (fun H locs hP9 hD9 hS9 => ?_)
        obtain ⟨f77, ef77⟩ : ∃ g : Nat → Int32, g = upd f37 (Int32.toNatClampNeg p1) r25 := ⟨_, rfl⟩
        clear hP hD hS
        have hP : va_P (dC, dI) cls [(h_mm, .inr (8, (mo126 v_mm (.ref h_nv) (.ref h_nn) (.ref h_na) (.ref h_nb) (.ref h_nc) (.int z26) (.ref h_vrs) (.ref h_let) (.ref h_tap) (.int x_mm_taped) (.int z27) (.int z28) (.int z29) (.int z30) (.long z31) (.int z32) (.int z33) (.int z34) (.int z5) (.int x_mm_reading)))), (h_tap, .inl (cy_tap, 600, .inl f_tap)), (h_nv, .inl (cy_nv, 8000, .inl f35)), (h_nn, .inl (cy_nn, 8000, .inr (.inl f36))), (h_na, .inl (cy_na, 8000, .inl f77)), (h_nb, .inl (cy_nb, 8000, .inl f38)), (h_nc, .inl (cy_nc, 8000, .inl f39)), (h_vrs, .inl (cy_vrs, 32, .inl f40)), (h_let, .inl (cy_let, 256, .inl f41))] H := by rw [ef77]; exact hP9
        have hD : va_D A [(h_mm, .inr (8, (mo126 v_mm (.ref h_nv) (.ref h_nn) (.ref h_na) (.ref h_nb) (.ref h_nc) (.int z26) (.ref h_vrs) (.ref h_let) (.ref h_tap) (.int x_mm_taped) (.int z27) (.int z28) (.int z29) (.int z30) (.long z31) (.int z32) (.int z33) (.int z34) (.int z5) (.int x_mm_reading)))), (h_tap, .inl (cy_tap, 600, .inl f_tap)), (h_nv, .inl (cy_nv, 8000, .inl f35)), (h_nn, .inl (cy_nn, 8000, .inr (.inl f36))), (h_na, .inl (cy_na, 8000, .inl f77)), (h_nb, .inl (cy_nb, 8000, .inl f38)), (h_nc, .inl (cy_nc, 8000, .inl f39)), (h_vrs, .inl (cy_vrs, 32, .inl f40)), (h_let, .inl (cy_let, 256, .inl f41))] := by rw [ef77]; exact hD9
        have hS := hS9
        clear hP9 hD9 hS9
        have hf77 : Rg (-1) 7999 f77 := by rw [ef77]; exact rg_upd hf37 (by omega)
        have nd78 : ND lo (z26).toInt gh42 f77 f38 f39 := by rw [ef77]; exact nd_setA (n := (z26).toInt) (nd_cast k64 (by omega)) (by omega) (by unfold NDk; omega)
        have nd79 : EQ0 lo za zb zc zv f77 f38 f39 f35 := by rw [ef77]; exact eq0_A k63 (by omega) (by omega)
        have an80 : AGN (x_mm_nodes).toInt (p1).toInt f_nv f35 f_nn f36 f_na f77 f_nb f38 f_nc f39 := agn_A an73 ef77 (by omega)
        clear k54
        refine lv_aload_n hx hb dX11_readsParts_56 rfl (lv_at hl 0 rfl) ?_
        refine lv_bipush (v := 44) hx hb dX11_readsParts_57 (by decide) ?_
        obtain ⟨vq81, evq81⟩ := mq126_92 v_mm (.ref h_nv) (.ref h_nn) (.ref h_na) (.ref h_nb) (.ref h_nc) (.int z26) (.ref h_vrs) (.ref h_let) (.int z33) (.int z34) (.int z5) (.int x_mm_reading)
        replace hP : va_P (dC, dI) cls [(h_mm, .inr (8, (mo92 vq81 (.ref h_tap) (.int x_mm_taped) (.int z27) (.int z28) (.int z29) (.int z30) (.long z31) (.int z32)))), (h_tap, .inl (cy_tap, 600, .inl f_tap)), (h_nv, .inl (cy_nv, 8000, .inl f35)), (h_nn, .inl (cy_nn, 8000, .inr (.inl f36))), (h_na, .inl (cy_na, 8000, .inl f77)), (h_nb, .inl (cy_nb, 8000, .inl f38)), (h_nc, .inl (cy_nc, 8000, .inl f39)), (h_vrs, .inl (cy_vrs, 32, .inl f40)), (h_let, .inl (cy_let, 256, .inl f41))] H := by rw [evq81]; exact hP
        replace hD : va_D A [(h_mm, .inr (8, (mo92 vq81 (.ref h_tap) (.int x_mm_taped) (.int z27) (.int z28) (.int z29) (.int z30) (.long z31) (.int z32)))), (h_tap, .inl (cy_tap, 600, .inl f_tap)), (h_nv, .inl (cy_nv, 8000, .inl f35)), (h_nn, .inl (cy_nn, 8000, .inr (.inl f36))), (h_na, .inl (cy_na, 8000, .inl f77)), (h_nb, .inl (cy_nb, 8000, .inl f38)), (h_nc, .inl (cy_nc, 8000, .inl f39)), (h_vrs, .inl (cy_vrs, 32, .inl f40)), (h_let, .inl (cy_let, 256, .inl f41))] := by rw [evq81]; exact hD
        have cst44 : (44 : Int32).toInt = 44 := by decide
        have hPc := hP.sub (ws' := [(h_mm, .inr (8, (mo92 vq81 (.ref h_tap) (.int x_mm_taped) (.int z27) (.int z28) (.int z29) (.int z30) (.long z31) (.int z32)))), (h_tap, .inl (cy_tap, 600, .inl f_tap))]) [0, 1] rfl
        have hDc := hD.sub (ws' := [(h_mm, .inr (8, (mo92 vq81 (.ref h_tap) (.int x_mm_taped) (.int z27) (.int z28) (.int z29) (.int z30) (.long z31) (.int z32)))), (h_tap, .inl (cy_tap, 600, .inl f_tap))]) [0, 1] (by decide) rfl
        have hKc := hK.sub (tys' := [(cy_tap, .byte)]) [0] rfl
        have hFc := va_free (wc := [(h_mm, .inr (8, (mo92 vq81 (.ref h_tap) (.int x_mm_taped) (.int z27) (.int z28) (.int z29) (.int z30) (.long z31) (.int z32)))), (h_tap, .inl (cy_tap, 600, .inl f_tap))]) hD hS hA [0, 1] rfl
        refine va_calli (va_runV (As := [.int 44]) (rest := []) ⟨hx, hb, hml, hown, hts⟩ (c_X11_passes l dC dI H.size h_mm h_tap vq81 x_mm_taped z27 z28 z29 z30 z31 z32 cy_tap f_tap 44 G (by first | exact hx_mm_taped | omega) (by first | exact k44 | omega) (by first | exact k45 | omega) (by first | exact k46 | omega) (by first | exact k47 | omega) (by first | exact k49 | omega) (by omega) (by omega) (by first | exact k59 | omega) (by first | exact k60 | omega) (by first | exact k61 | omega) (by first | exact k62 | omega) hn_tapq k69) (cwV 1 hts (gv hT w_m_X11_136 w_instanceMethod_X11_passes ws_sel_X11_passes w_ini_X11 w_code_X11_passes) rfl rfl rfl (by decide +kernel) ⟨(by dsimp only [headSpec]; omega), (by dsimp only [headSpec]; omega)⟩) ⟨pre_blind, va_recv hK hP (ci := 8) (q0 := 0) rfl rfl, pre_of hPc hKc hDc hN⟩ rfl rfl hl.1 rfl (lv_room (Nat.le_of_ble_eq_true rfl)) dX11_readsParts_59 ⟨(Nat.le_of_ble_eq_true rfl), (Nat.le_of_ble_eq_true rfl)⟩) hS (fun q _ h => hFc q h) hFc (fun r82 u t H locs ht hvm hq hB hz1 hk1 hS9 => ?_)
        obtain ⟨z83, z84, z85, z86, z87⟩ := u
        obtain ⟨hP1, hD1⟩ := hB
        rw [ht] at hP1
        obtain ⟨hP9, hD9⟩ := va_join (wr := [(h_nv, .inl (cy_nv, 8000, .inl f35)), (h_nn, .inl (cy_nn, 8000, .inr (.inl f36))), (h_na, .inl (cy_na, 8000, .inl f77)), (h_nb, .inl (cy_nb, 8000, .inl f38)), (h_nc, .inl (cy_nc, 8000, .inl f39)), (h_vrs, .inl (cy_vrs, 32, .inl f40)), (h_let, .inl (cy_let, 256, .inl f41))]) (w1 := [(h_mm, .inr (8, (mo92 vq81 (.ref h_tap) (.int x_mm_taped) (.int z83) (.int z84) (.int z85) (.int z86) (.long z87) (.int z32)))), (h_tap, .inl (cy_tap, 600, .inl f_tap))]) hP hD [0, 1] [2, 3, 4, 5, 6, 7, 8] rfl rfl (by decide) (by decide) hk1 hFc hP1 hD1
        clear hP hD hS hPc hDc hKc hFc hP1 hD1 hk1 hz1 ht hvm
        have hP : va_P (dC, dI) cls [(h_nv, .inl (cy_nv, 8000, .inl f35)), (h_nn, .inl (cy_nn, 8000, .inr (.inl f36))), (h_na, .inl (cy_na, 8000, .inl f77)), (h_nb, .inl (cy_nb, 8000, .inl f38)), (h_nc, .inl (cy_nc, 8000, .inl f39)), (h_vrs, .inl (cy_vrs, 32, .inl f40)), (h_let, .inl (cy_let, 256, .inl f41)), (h_mm, .inr (8, (mo92 vq81 (.ref h_tap) (.int x_mm_taped) (.int z83) (.int z84) (.int z85) (.int z86) (.long z87) (.int z32)))), (h_tap, .inl (cy_tap, 600, .inl f_tap))] H := hP9
        have hD : va_D A [(h_nv, .inl (cy_nv, 8000, .inl f35)), (h_nn, .inl (cy_nn, 8000, .inr (.inl f36))), (h_na, .inl (cy_na, 8000, .inl f77)), (h_nb, .inl (cy_nb, 8000, .inl f38)), (h_nc, .inl (cy_nc, 8000, .inl f39)), (h_vrs, .inl (cy_vrs, 32, .inl f40)), (h_let, .inl (cy_let, 256, .inl f41)), (h_mm, .inr (8, (mo92 vq81 (.ref h_tap) (.int x_mm_taped) (.int z83) (.int z84) (.int z85) (.int z86) (.long z87) (.int z32)))), (h_tap, .inl (cy_tap, 600, .inl f_tap))] := hD9
        have hS := hS9
        clear hP9 hD9 hS9
        rw [evq81] at hP hD
        replace hP : va_P (dC, dI) cls [(h_nv, .inl (cy_nv, 8000, .inl f35)), (h_nn, .inl (cy_nn, 8000, .inr (.inl f36))), (h_na, .inl (cy_na, 8000, .inl f77)), (h_nb, .inl (cy_nb, 8000, .inl f38)), (h_nc, .inl (cy_nc, 8000, .inl f39)), (h_vrs, .inl (cy_vrs, 32, .inl f40)), (h_let, .inl (cy_let, 256, .inl f41)), (h_mm, .inr (8, (mo126 v_mm (.ref h_nv) (.ref h_nn) (.ref h_na) (.ref h_nb) (.ref h_nc) (.int z26) (.ref h_vrs) (.ref h_let) (.ref h_tap) (.int x_mm_taped) (.int z83) (.int z84) (.int z85) (.int z86) (.long z87) (.int z32) (.int z33) (.int z34) (.int z5) (.int x_mm_reading)))), (h_tap, .inl (cy_tap, 600, .inl f_tap))] H := hP
        replace hD : va_D A [(h_nv, .inl (cy_nv, 8000, .inl f35)), (h_nn, .inl (cy_nn, 8000, .inr (.inl f36))), (h_na, .inl (cy_na, 8000, .inl f77)), (h_nb, .inl (cy_nb, 8000, .inl f38)), (h_nc, .inl (cy_nc, 8000, .inl f39)), (h_vrs, .inl (cy_vrs, 32, .inl f40)), (h_let, .inl (cy_let, 256, .inl f41)), (h_mm, .inr (8, (mo126 v_mm (.ref h_nv) (.ref h_nn) (.ref h_na) (.ref h_nb) (.ref h_nc) (.int z26) (.ref h_vrs) (.ref h_let) (.ref h_tap) (.int x_mm_taped) (.int z83) (.int z84) (.int z85) (.int z86) (.long z87) (.int z32) (.int z33) (.int z34) (.int z5) (.int x_mm_reading)))), (h_tap, .inl (cy_tap, 600, .inl f_tap))] := hD
        clear evq81 
        obtain ⟨k88, k89, k90, k91, k92, k93, k94, k95, k96, hq⟩ := hq
        replace k88 : 0 ≤ ((z83)).toInt ∧ ((z83)).toInt ≤ 600 := k88
        replace k89 : 0 ≤ ((z84)).toInt ∧ ((z84)).toInt ≤ 600 := k89
        replace k90 : 0 ≤ ((z85)).toInt ∧ ((z85)).toInt ≤ 4 := k90
        replace k91 : ((z84)).toInt ≤ ((z83)).toInt := k91
        replace k92 : ((z85)).toInt = kd (tkT (G) ((x_mm_taped)).toInt ((z84)).toInt) := k92
        replace k93 : ((z85)).toInt = 0 ∨ (((z83)).toInt = tkX (G) ((x_mm_taped)).toInt ((z84)).toInt ∧ ((z86)).toInt = (G) ((z84)).toInt ∧ ((z84)).toInt < ((x_mm_taped)).toInt ∧ ((z84)).toInt + 1 ≤ ((z83)).toInt) := k93
        replace k94 : ((z83)).toInt ≤ ((x_mm_taped)).toInt := k94
        replace k95 : ((z84)).toInt ≤ ((x_mm_taped)).toInt := k95
        replace k96 : NMK ((z85)).toInt ((z87)).toInt (NMI 27 (G) ((x_mm_taped)).toInt ((z84)).toInt) := k96
        rcases hq with ⟨rfl, hq⟩ | ⟨rfl, hq⟩ | ⟨rfl, hq⟩
        · replace hq : (((z32)).toInt = 0) ∧ (tkT (G) ((x_mm_taped)).toInt ((z28)).toInt = ((44 : Int32)).toInt) ∧ (((z84)).toInt = tkN (G) ((x_mm_taped)).toInt ((z28)).toInt) ∧ (((z27)).toInt ≤ ((z84)).toInt) ∧ (((z28)).toInt + 1 ≤ ((z84)).toInt) := hq
          clear k60
          obtain ⟨hq1, hq2, hq3, hq4, hq5⟩ := hq
          have cst44 : (44 : Int32).toInt = 44 := by decide
          have on9 := pLo_on (G := G) (n := (x_mm_taped).toInt) (P := (pPs G (x_mm_taped).toInt d9)) (r := 2) (q := (x_mm_place).toInt) (nv := nv) (vf := vf) (by rw [← erh72]; omega) (by rw [← erh72, ← k57]; omega)
          rw [← erh72, ← k57] at on9
          have lo97 := on9.symm.trans lo0
          clear on9
          have tn98 := hq3
          have tc99 : tkT G (x_mm_taped).toInt (z28).toInt = 44 := by omega
          have xt9 : XT nv vf (rh72).2.2.1 (rh72).2.2.2 := by rw [erh72]; exact (pTm_xi (pPs_xi _) _ _ _).1
          have pn100 : PRN G (x_mm_taped).toInt (RVW f35 f36 f77 f38 f39) (rh72).2.2.1 (rh72).2.2.2 (z26).toInt dd p1 1 (x_mm_place).toInt (z28).toInt := prn_A (P0 := (x_mm_nodes).toInt) (Q := (x_mm_nodes).toInt) (q1 := (x_mm_place).toInt) (prn_zero (by omega) rfl) k71 (by omega) xt9 (by omega) (by omega) (by omega) trivial (k70 (by omega)) ef77
          have ts101 := trs_A ts74 ef77 (by omega)
          refine lv_if_eq (tgt := 119) hx hb dX11_readsParts_62 (by decide) (fun c9 => absurd c9 (by decide)) (fun _ => ?_)
          refine lv_aload_n hx hb dX11_readsParts_65 rfl (lv_at hl 0 rfl) ?_
          refine va_get (D := (dC, dI)) (ci := 8) (v := .ref h_nb) (C := RX11) (T := TX11) (N := 71) hx hb hw iwX11 hown hK hP 7 rfl rfl 4 (by decide) (hw _ w_f_X11_11) (fun _ h9 => h9) rfl dX11_readsParts_66 ?_
          refine lv_iload_n hx hb dX11_readsParts_69 rfl (lv_at hl 1 rfl) ?_
          refine lv_aload_n hx hb dX11_readsParts_70 rfl (lv_at hl 0 rfl) ?_
          have hPc := hP.sub (ws' := [(h_mm, .inr (8, (mo126 v_mm (.ref h_nv) (.ref h_nn) (.ref h_na) (.ref h_nb) (.ref h_nc) (.int z26) (.ref h_vrs) (.ref h_let) (.ref h_tap) (.int x_mm_taped) (.int z83) (.int z84) (.int z85) (.int z86) (.long z87) (.int z32) (.int z33) (.int z34) (.int z5) (.int x_mm_reading)))), (h_tap, .inl (cy_tap, 600, .inl f_tap)), (h_nv, .inl (cy_nv, 8000, .inl f35)), (h_nn, .inl (cy_nn, 8000, .inr (.inl f36))), (h_na, .inl (cy_na, 8000, .inl f77)), (h_nb, .inl (cy_nb, 8000, .inl f38)), (h_nc, .inl (cy_nc, 8000, .inl f39)), (h_vrs, .inl (cy_vrs, 32, .inl f40)), (h_let, .inl (cy_let, 256, .inl f41))]) [7, 8, 0, 1, 2, 3, 4, 5, 6] rfl
          have hDc := hD.sub (ws' := [(h_mm, .inr (8, (mo126 v_mm (.ref h_nv) (.ref h_nn) (.ref h_na) (.ref h_nb) (.ref h_nc) (.int z26) (.ref h_vrs) (.ref h_let) (.ref h_tap) (.int x_mm_taped) (.int z83) (.int z84) (.int z85) (.int z86) (.long z87) (.int z32) (.int z33) (.int z34) (.int z5) (.int x_mm_reading)))), (h_tap, .inl (cy_tap, 600, .inl f_tap)), (h_nv, .inl (cy_nv, 8000, .inl f35)), (h_nn, .inl (cy_nn, 8000, .inr (.inl f36))), (h_na, .inl (cy_na, 8000, .inl f77)), (h_nb, .inl (cy_nb, 8000, .inl f38)), (h_nc, .inl (cy_nc, 8000, .inl f39)), (h_vrs, .inl (cy_vrs, 32, .inl f40)), (h_let, .inl (cy_let, 256, .inl f41))]) [7, 8, 0, 1, 2, 3, 4, 5, 6] (by decide) rfl
          have hKc := hK.sub (tys' := [(cy_tap, .byte), (cy_nv, .int), (cy_nn, .long), (cy_na, .int), (cy_nb, .int), (cy_nc, .int), (cy_vrs, .int), (cy_let, .int)]) [0, 1, 2, 3, 4, 5, 6, 7] rfl
          have hFc := va_free (wc := [(h_mm, .inr (8, (mo126 v_mm (.ref h_nv) (.ref h_nn) (.ref h_na) (.ref h_nb) (.ref h_nc) (.int z26) (.ref h_vrs) (.ref h_let) (.ref h_tap) (.int x_mm_taped) (.int z83) (.int z84) (.int z85) (.int z86) (.long z87) (.int z32) (.int z33) (.int z34) (.int z5) (.int x_mm_reading)))), (h_tap, .inl (cy_tap, 600, .inl f_tap)), (h_nv, .inl (cy_nv, 8000, .inl f35)), (h_nn, .inl (cy_nn, 8000, .inr (.inl f36))), (h_na, .inl (cy_na, 8000, .inl f77)), (h_nb, .inl (cy_nb, 8000, .inl f38)), (h_nc, .inl (cy_nc, 8000, .inl f39)), (h_vrs, .inl (cy_vrs, 32, .inl f40)), (h_let, .inl (cy_let, 256, .inl f41))]) hD hS hA [7, 8, 0, 1, 2, 3, 4, 5, 6] rfl
          refine va_calli (va_runV (As := []) (rest := [.int p1, .ref h_nb]) ⟨hx, hb, hml, hown, hts⟩ (c_X11_readsTerm l dC dI H.size h_mm h_tap h_nv h_nn h_na h_nb h_nc h_vrs h_let v_mm z26 x_mm_taped z83 z84 z85 z86 z87 z32 z33 z34 z5 x_mm_reading cy_tap f_tap cy_nv f35 cy_nn f36 cy_na f77 cy_nb f38 cy_nc f39 cy_vrs f40 cy_let f41 (fu - 2) lo gh42 za zb zc zv G (rh72).2.2.1 (rh72).2.2.2 d9 (by first | exact k43 | omega) (by first | exact hx_mm_taped | omega) (by first | exact k88 | omega) (by first | exact k89 | omega) (by first | exact k90 | omega) (by first | exact k47 | omega) (by omega) (by first | exact hx_mm_reading | omega) hf35 hf77 hf38 hf39 hf40 (ihf (fu - 2) (by omega)) (by first | exact k91 | omega) (by omega) (by omega) (by omega) (by first | exact k92 | omega) (by first | exact k93 | omega) (by first | exact k94 | omega) (by first | exact k95 | omega) (by omega) (by omega) (by omega) (by omega) nd79 (nd_cast nd78 (by omega)) hn_tapq k67 k68 k96) (cwV 0 hts (gv hT w_m_X11_133 w_instanceMethod_X11_readsTerm ws_sel_X11_readsTerm w_ini_X11 w_code_X11_readsTerm) rfl rfl rfl (by decide +kernel) ⟨(by dsimp only [headSpec]; omega), (by dsimp only [headSpec]; omega)⟩) ⟨pre_blind, va_recv hK hP (ci := 8) (q0 := 7) rfl rfl, pre_of hPc hKc hDc hN⟩ rfl rfl hl.1 rfl (lv_room (Nat.le_of_ble_eq_true rfl)) dX11_readsParts_71 ⟨(Nat.le_of_ble_eq_true rfl), (Nat.le_of_ble_eq_true rfl)⟩) hS (fun q _ h => hFc q h) hFc (fun r102 u t H locs ht hvm hq hB hz1 hk1 hS9 => ?_)
          obtain ⟨z103, z104, z105, z106, z107, z108, z109, z110, z111, f112, f113, f114, f115, f116, f117, f118, gh119⟩ := u
          obtain ⟨hP1, hD1⟩ := hB
          rw [ht] at hP1
          obtain ⟨hP9, hD9⟩ := va_join (wr := []) (w1 := [(h_mm, .inr (8, (mo126 v_mm (.ref h_nv) (.ref h_nn) (.ref h_na) (.ref h_nb) (.ref h_nc) (.int z103) (.ref h_vrs) (.ref h_let) (.ref h_tap) (.int x_mm_taped) (.int z104) (.int z105) (.int z106) (.int z107) (.long z108) (.int z109) (.int z110) (.int z111) (.int z5) (.int x_mm_reading)))), (h_tap, .inl (cy_tap, 600, .inl f_tap)), (h_nv, .inl (cy_nv, 8000, .inl f112)), (h_nn, .inl (cy_nn, 8000, .inr (.inl f113))), (h_na, .inl (cy_na, 8000, .inl f114)), (h_nb, .inl (cy_nb, 8000, .inl f115)), (h_nc, .inl (cy_nc, 8000, .inl f116)), (h_vrs, .inl (cy_vrs, 32, .inl f117)), (h_let, .inl (cy_let, 256, .inl f118))]) hP hD [7, 8, 0, 1, 2, 3, 4, 5, 6] [] rfl rfl (by decide) (by decide) hk1 hFc hP1 hD1
          clear hP hD hS hPc hDc hKc hFc hP1 hD1 hk1 hz1 ht hvm
          have hP : va_P (dC, dI) cls [(h_mm, .inr (8, (mo126 v_mm (.ref h_nv) (.ref h_nn) (.ref h_na) (.ref h_nb) (.ref h_nc) (.int z103) (.ref h_vrs) (.ref h_let) (.ref h_tap) (.int x_mm_taped) (.int z104) (.int z105) (.int z106) (.int z107) (.long z108) (.int z109) (.int z110) (.int z111) (.int z5) (.int x_mm_reading)))), (h_tap, .inl (cy_tap, 600, .inl f_tap)), (h_nv, .inl (cy_nv, 8000, .inl f112)), (h_nn, .inl (cy_nn, 8000, .inr (.inl f113))), (h_na, .inl (cy_na, 8000, .inl f114)), (h_nb, .inl (cy_nb, 8000, .inl f115)), (h_nc, .inl (cy_nc, 8000, .inl f116)), (h_vrs, .inl (cy_vrs, 32, .inl f117)), (h_let, .inl (cy_let, 256, .inl f118))] H := hP9
          have hD : va_D A [(h_mm, .inr (8, (mo126 v_mm (.ref h_nv) (.ref h_nn) (.ref h_na) (.ref h_nb) (.ref h_nc) (.int z103) (.ref h_vrs) (.ref h_let) (.ref h_tap) (.int x_mm_taped) (.int z104) (.int z105) (.int z106) (.int z107) (.long z108) (.int z109) (.int z110) (.int z111) (.int z5) (.int x_mm_reading)))), (h_tap, .inl (cy_tap, 600, .inl f_tap)), (h_nv, .inl (cy_nv, 8000, .inl f112)), (h_nn, .inl (cy_nn, 8000, .inr (.inl f113))), (h_na, .inl (cy_na, 8000, .inl f114)), (h_nb, .inl (cy_nb, 8000, .inl f115)), (h_nc, .inl (cy_nc, 8000, .inl f116)), (h_vrs, .inl (cy_vrs, 32, .inl f117)), (h_let, .inl (cy_let, 256, .inl f118))] := hD9
          have hS := hS9
          clear hP9 hD9 hS9
          obtain ⟨k120, k121, k122, k123, k124, hf112, hf114, hf115, hf116, hf117, k125, k126, k127, k128, k129, k130, k131, k132, k133, k134, k135, k136, k137, k138, k139, k140, k141, k142, k143, k144, k145, k146, k147, k148⟩ := hq
          replace k120 : 0 ≤ ((z103)).toInt ∧ ((z103)).toInt ≤ 1200 := k120
          replace k121 : 0 ≤ ((z104)).toInt ∧ ((z104)).toInt ≤ 600 := k121
          replace k122 : 0 ≤ ((z105)).toInt ∧ ((z105)).toInt ≤ 600 := k122
          replace k123 : 0 ≤ ((z106)).toInt ∧ ((z106)).toInt ≤ 4 := k123
          replace k124 : 0 ≤ ((z109)).toInt ∧ ((z109)).toInt ≤ 1 := k124
          replace hf112 : Rg (-1) 7 (f112) := hf112
          replace hf114 : Rg (-1) 7999 (f114) := hf114
          replace hf115 : Rg (-1) 7999 (f115) := hf115
          replace hf116 : Rg (-1) 7999 (f116) := hf116
          replace hf117 : Rg 0 8 (f117) := hf117
          replace k125 : -1 ≤ (r102).toInt ∧ (r102).toInt ≤ 1199 := k125
          replace k126 : ((z105)).toInt ≤ ((z104)).toInt := k126
          replace k127 : ((z109)).toInt = 1 ∨ ((z103)).toInt ≤ (lo) + ((z105)).toInt := k127
          replace k128 : ((z26)).toInt ≤ ((z103)).toInt := k128
          replace k129 : ((z84)).toInt ≤ ((z105)).toInt := k129
          replace k130 : ((z32)).toInt ≤ ((z109)).toInt := k130
          replace k131 : ((r102)).toInt = -1 ∨ ((lo) ≤ ((r102)).toInt ∧ ((r102)).toInt < ((z103)).toInt ∧ ((gh119) ((r102)).toInt.toNat : Int) = 7 - ((z5)).toInt) := k131
          replace k132 : ((z109)).toInt = 1 ∨ 0 ≤ ((r102)).toInt := k132
          replace k133 : (((z109)).toInt = 0 ∧ ((pTm (G) ((x_mm_taped)).toInt (pPs (G) ((x_mm_taped)).toInt (d9)) ((z84)).toInt ((rh72).2.2.1) ((rh72).2.2.2))).1 = 0 ∧ ((z110)).toInt = ((z33)).toInt ∧ ((z111)).toInt = ((z34)).toInt) ∨ (((z109)).toInt = 1 ∧ ¬ ((pTm (G) ((x_mm_taped)).toInt (pPs (G) ((x_mm_taped)).toInt (d9)) ((z84)).toInt ((rh72).2.2.1) ((rh72).2.2.2))).1 = 0 ∧ ((z110)).toInt = ((pTm (G) ((x_mm_taped)).toInt (pPs (G) ((x_mm_taped)).toInt (d9)) ((z84)).toInt ((rh72).2.2.1) ((rh72).2.2.2))).1 ∧ ((z111)).toInt = ((pTm (G) ((x_mm_taped)).toInt (pPs (G) ((x_mm_taped)).toInt (d9)) ((z84)).toInt ((rh72).2.2.1) ((rh72).2.2.2))).2.1) := k133
          replace k134 : ((z105)).toInt = ((pTm (G) ((x_mm_taped)).toInt (pPs (G) ((x_mm_taped)).toInt (d9)) ((z84)).toInt ((rh72).2.2.1) ((rh72).2.2.2))).2.1 := k134
          replace k135 : 0 ≤ ((pTm (G) ((x_mm_taped)).toInt (pPs (G) ((x_mm_taped)).toInt (d9)) ((z84)).toInt ((rh72).2.2.1) ((rh72).2.2.2))).2.2.1 ∧ ((pTm (G) ((x_mm_taped)).toInt (pPs (G) ((x_mm_taped)).toInt (d9)) ((z84)).toInt ((rh72).2.2.1) ((rh72).2.2.2))).2.2.1 ≤ 8 := k135
          replace k136 : ((z106)).toInt = kd (tkT (G) ((x_mm_taped)).toInt ((z105)).toInt) := k136
          replace k137 : ((z106)).toInt = 0 ∨ (((z104)).toInt = tkX (G) ((x_mm_taped)).toInt ((z105)).toInt ∧ ((z107)).toInt = (G) ((z105)).toInt ∧ ((z105)).toInt < ((x_mm_taped)).toInt ∧ ((z105)).toInt + 1 ≤ ((z104)).toInt) := k137
          replace k138 : ((z104)).toInt ≤ ((x_mm_taped)).toInt := k138
          replace k139 : ((z105)).toInt ≤ ((x_mm_taped)).toInt := k139
          replace k140 : EQ0 (lo) (za) (zb) (zc) (zv) (f114) (f115) (f116) (f112) := k140
          replace k141 : ND (lo) ((z103)).toInt (gh119) (f114) (f115) (f116) := k141
          replace k142 : ∀ y : Nat, (y : Int) < ((z26)).toInt → (gh119) y = (gh42) y := k142
          replace k143 : VRF ((x_mm_reading)).toInt (f40) (f117) := k143
          replace k144 : ((f117) (Int32.toNatClampNeg (x_mm_reading))).toInt = ((pTm (G) ((x_mm_taped)).toInt (pPs (G) ((x_mm_taped)).toInt (d9)) ((z84)).toInt ((rh72).2.2.1) ((rh72).2.2.2))).2.2.1 := k144
          replace k145 : VFM ((pTm (G) ((x_mm_taped)).toInt (pPs (G) ((x_mm_taped)).toInt (d9)) ((z84)).toInt ((rh72).2.2.1) ((rh72).2.2.2))).2.2.1 ((pTm (G) ((x_mm_taped)).toInt (pPs (G) ((x_mm_taped)).toInt (d9)) ((z84)).toInt ((rh72).2.2.1) ((rh72).2.2.2))).2.2.2 (f118) ((x_mm_reading)).toInt := k145
          replace k146 : NMK ((z106)).toInt ((z108)).toInt (NMI 27 (G) ((x_mm_taped)).toInt ((z105)).toInt) := k146
          replace k147 : IFZ ((z109)).toInt (∃ L B : Nat, (L : Int) = ((z26)).toInt ∧ (B : Int) = ((z103)).toInt ∧ SPX (G) ((x_mm_taped)).toInt 27 (RVW (f112) (f113) (f114) (f115) (f116)) ((pTm (G) ((x_mm_taped)).toInt (pPs (G) ((x_mm_taped)).toInt (d9)) ((z84)).toInt ((rh72).2.2.1) ((rh72).2.2.2))).2.2.1 ((pTm (G) ((x_mm_taped)).toInt (pPs (G) ((x_mm_taped)).toInt (d9)) ((z84)).toInt ((rh72).2.2.1) ((rh72).2.2.2))).2.2.2 k0 L B ((d9) + 1) (Int32.toNatClampNeg (r102)) ((z84)).toInt ((z105)).toInt) := k147
          replace k148 : AGN ((z26)).toInt (-1) (f35) (f112) (f36) (f113) (f77) (f114) (f38) (f115) (f39) (f116) := k148
          obtain ⟨rh149, erh149⟩ : ∃ x : PR, x = (pTm (G) ((x_mm_taped)).toInt (pPs (G) ((x_mm_taped)).toInt (d9)) ((z84)).toInt ((rh72).2.2.1) ((rh72).2.2.2)) := ⟨_, rfl⟩
          rw [← erh149] at k133 k134 k135 k144 k145 k147
          rw [tn98] at erh149
          have := k142 (p1).toInt.toNat (by omega)
          clear k93
          rw [tn98, ← hd9] at k147
          have an150 : AGN (x_mm_nodes).toInt (p1).toInt f_nv f112 f_nn f113 f_na f114 f_nb f115 f_nc f116 := agn_tr an80 k148 (by omega) (Or.inl (by decide))
          have ts151 := trs_agn ts101 k148 (by omega) (by omega)
          have vr152 := vrf_tr vr75 k143 (Int.le_refl _)
          rcases k133 with ⟨fq153a, fq153b, fq153c, fq153d⟩ | ⟨fq153a, fq153b, fq153c, fq153d⟩
          · replace k127 : (z103).toInt ≤ lo + (z105).toInt := by rcases k127 with j9 | j9; (exact absurd j9 (by omega)); exact j9
            refine va_iast hx hb hK hP hD hS 5 4 rfl rfl (i := p1) (x := r102) (vp_in_iff.mpr (by omega)) dX11_readsParts_74 (fun H locs hP9 hD9 hS9 => ?_)
            obtain ⟨f154, ef154⟩ : ∃ g : Nat → Int32, g = upd f115 (Int32.toNatClampNeg p1) r102 := ⟨_, rfl⟩
            clear hP hD hS
            have hP : va_P (dC, dI) cls [(h_mm, .inr (8, (mo126 v_mm (.ref h_nv) (.ref h_nn) (.ref h_na) (.ref h_nb) (.ref h_nc) (.int z103) (.ref h_vrs) (.ref h_let) (.ref h_tap) (.int x_mm_taped) (.int z104) (.int z105) (.int z106) (.int z107) (.long z108) (.int z109) (.int z110) (.int z111) (.int z5) (.int x_mm_reading)))), (h_tap, .inl (cy_tap, 600, .inl f_tap)), (h_nv, .inl (cy_nv, 8000, .inl f112)), (h_nn, .inl (cy_nn, 8000, .inr (.inl f113))), (h_na, .inl (cy_na, 8000, .inl f114)), (h_nb, .inl (cy_nb, 8000, .inl f154)), (h_nc, .inl (cy_nc, 8000, .inl f116)), (h_vrs, .inl (cy_vrs, 32, .inl f117)), (h_let, .inl (cy_let, 256, .inl f118))] H := by rw [ef154]; exact hP9
            have hD : va_D A [(h_mm, .inr (8, (mo126 v_mm (.ref h_nv) (.ref h_nn) (.ref h_na) (.ref h_nb) (.ref h_nc) (.int z103) (.ref h_vrs) (.ref h_let) (.ref h_tap) (.int x_mm_taped) (.int z104) (.int z105) (.int z106) (.int z107) (.long z108) (.int z109) (.int z110) (.int z111) (.int z5) (.int x_mm_reading)))), (h_tap, .inl (cy_tap, 600, .inl f_tap)), (h_nv, .inl (cy_nv, 8000, .inl f112)), (h_nn, .inl (cy_nn, 8000, .inr (.inl f113))), (h_na, .inl (cy_na, 8000, .inl f114)), (h_nb, .inl (cy_nb, 8000, .inl f154)), (h_nc, .inl (cy_nc, 8000, .inl f116)), (h_vrs, .inl (cy_vrs, 32, .inl f117)), (h_let, .inl (cy_let, 256, .inl f118))] := by rw [ef154]; exact hD9
            have hS := hS9
            clear hP9 hD9 hS9
            have hf154 : Rg (-1) 7999 f154 := by rw [ef154]; exact rg_upd hf115 (by omega)
            have nd155 : ND lo (z103).toInt gh119 f114 f154 f116 := by rw [ef154]; exact nd_setB (n := (z103).toInt) (nd_cast k141 (by omega)) (by omega) (by unfold NDk; omega)
            have nd156 : EQ0 lo za zb zc zv f114 f154 f116 f112 := by rw [ef154]; exact eq0_B k140 (by omega) (by omega)
            have an157 : AGN (x_mm_nodes).toInt (p1).toInt f_nv f112 f_nn f113 f_na f114 f_nb f154 f_nc f116 := agn_B an150 ef154 (by omega)
            clear k131
            refine lv_aload_n hx hb dX11_readsParts_75 rfl (lv_at hl 0 rfl) ?_
            refine lv_bipush (v := 44) hx hb dX11_readsParts_76 (by decide) ?_
            obtain ⟨vq158, evq158⟩ := mq126_92 v_mm (.ref h_nv) (.ref h_nn) (.ref h_na) (.ref h_nb) (.ref h_nc) (.int z103) (.ref h_vrs) (.ref h_let) (.int z110) (.int z111) (.int z5) (.int x_mm_reading)
            replace hP : va_P (dC, dI) cls [(h_mm, .inr (8, (mo92 vq158 (.ref h_tap) (.int x_mm_taped) (.int z104) (.int z105) (.int z106) (.int z107) (.long z108) (.int z109)))), (h_tap, .inl (cy_tap, 600, .inl f_tap)), (h_nv, .inl (cy_nv, 8000, .inl f112)), (h_nn, .inl (cy_nn, 8000, .inr (.inl f113))), (h_na, .inl (cy_na, 8000, .inl f114)), (h_nb, .inl (cy_nb, 8000, .inl f154)), (h_nc, .inl (cy_nc, 8000, .inl f116)), (h_vrs, .inl (cy_vrs, 32, .inl f117)), (h_let, .inl (cy_let, 256, .inl f118))] H := by rw [evq158]; exact hP
            replace hD : va_D A [(h_mm, .inr (8, (mo92 vq158 (.ref h_tap) (.int x_mm_taped) (.int z104) (.int z105) (.int z106) (.int z107) (.long z108) (.int z109)))), (h_tap, .inl (cy_tap, 600, .inl f_tap)), (h_nv, .inl (cy_nv, 8000, .inl f112)), (h_nn, .inl (cy_nn, 8000, .inr (.inl f113))), (h_na, .inl (cy_na, 8000, .inl f114)), (h_nb, .inl (cy_nb, 8000, .inl f154)), (h_nc, .inl (cy_nc, 8000, .inl f116)), (h_vrs, .inl (cy_vrs, 32, .inl f117)), (h_let, .inl (cy_let, 256, .inl f118))] := by rw [evq158]; exact hD
            have cst44 : (44 : Int32).toInt = 44 := by decide
            have hPc := hP.sub (ws' := [(h_mm, .inr (8, (mo92 vq158 (.ref h_tap) (.int x_mm_taped) (.int z104) (.int z105) (.int z106) (.int z107) (.long z108) (.int z109)))), (h_tap, .inl (cy_tap, 600, .inl f_tap))]) [0, 1] rfl
            have hDc := hD.sub (ws' := [(h_mm, .inr (8, (mo92 vq158 (.ref h_tap) (.int x_mm_taped) (.int z104) (.int z105) (.int z106) (.int z107) (.long z108) (.int z109)))), (h_tap, .inl (cy_tap, 600, .inl f_tap))]) [0, 1] (by decide) rfl
            have hKc := hK.sub (tys' := [(cy_tap, .byte)]) [0] rfl
            have hFc := va_free (wc := [(h_mm, .inr (8, (mo92 vq158 (.ref h_tap) (.int x_mm_taped) (.int z104) (.int z105) (.int z106) (.int z107) (.long z108) (.int z109)))), (h_tap, .inl (cy_tap, 600, .inl f_tap))]) hD hS hA [0, 1] rfl
            refine va_calli (va_runV (As := [.int 44]) (rest := []) ⟨hx, hb, hml, hown, hts⟩ (c_X11_passes l dC dI H.size h_mm h_tap vq158 x_mm_taped z104 z105 z106 z107 z108 z109 cy_tap f_tap 44 G (by first | exact hx_mm_taped | omega) (by first | exact k121 | omega) (by first | exact k122 | omega) (by first | exact k123 | omega) (by first | exact k124 | omega) (by first | exact k126 | omega) (by omega) (by omega) (by first | exact k136 | omega) (by first | exact k137 | omega) (by first | exact k138 | omega) (by first | exact k139 | omega) hn_tapq k146) (cwV 1 hts (gv hT w_m_X11_136 w_instanceMethod_X11_passes ws_sel_X11_passes w_ini_X11 w_code_X11_passes) rfl rfl rfl (by decide +kernel) ⟨(by dsimp only [headSpec]; omega), (by dsimp only [headSpec]; omega)⟩) ⟨pre_blind, va_recv hK hP (ci := 8) (q0 := 0) rfl rfl, pre_of hPc hKc hDc hN⟩ rfl rfl hl.1 rfl (lv_room (Nat.le_of_ble_eq_true rfl)) dX11_readsParts_78 ⟨(Nat.le_of_ble_eq_true rfl), (Nat.le_of_ble_eq_true rfl)⟩) hS (fun q _ h => hFc q h) hFc (fun r159 u t H locs ht hvm hq hB hz1 hk1 hS9 => ?_)
            obtain ⟨z160, z161, z162, z163, z164⟩ := u
            obtain ⟨hP1, hD1⟩ := hB
            rw [ht] at hP1
            obtain ⟨hP9, hD9⟩ := va_join (wr := [(h_nv, .inl (cy_nv, 8000, .inl f112)), (h_nn, .inl (cy_nn, 8000, .inr (.inl f113))), (h_na, .inl (cy_na, 8000, .inl f114)), (h_nb, .inl (cy_nb, 8000, .inl f154)), (h_nc, .inl (cy_nc, 8000, .inl f116)), (h_vrs, .inl (cy_vrs, 32, .inl f117)), (h_let, .inl (cy_let, 256, .inl f118))]) (w1 := [(h_mm, .inr (8, (mo92 vq158 (.ref h_tap) (.int x_mm_taped) (.int z160) (.int z161) (.int z162) (.int z163) (.long z164) (.int z109)))), (h_tap, .inl (cy_tap, 600, .inl f_tap))]) hP hD [0, 1] [2, 3, 4, 5, 6, 7, 8] rfl rfl (by decide) (by decide) hk1 hFc hP1 hD1
            clear hP hD hS hPc hDc hKc hFc hP1 hD1 hk1 hz1 ht hvm
            have hP : va_P (dC, dI) cls [(h_nv, .inl (cy_nv, 8000, .inl f112)), (h_nn, .inl (cy_nn, 8000, .inr (.inl f113))), (h_na, .inl (cy_na, 8000, .inl f114)), (h_nb, .inl (cy_nb, 8000, .inl f154)), (h_nc, .inl (cy_nc, 8000, .inl f116)), (h_vrs, .inl (cy_vrs, 32, .inl f117)), (h_let, .inl (cy_let, 256, .inl f118)), (h_mm, .inr (8, (mo92 vq158 (.ref h_tap) (.int x_mm_taped) (.int z160) (.int z161) (.int z162) (.int z163) (.long z164) (.int z109)))), (h_tap, .inl (cy_tap, 600, .inl f_tap))] H := hP9
            have hD : va_D A [(h_nv, .inl (cy_nv, 8000, .inl f112)), (h_nn, .inl (cy_nn, 8000, .inr (.inl f113))), (h_na, .inl (cy_na, 8000, .inl f114)), (h_nb, .inl (cy_nb, 8000, .inl f154)), (h_nc, .inl (cy_nc, 8000, .inl f116)), (h_vrs, .inl (cy_vrs, 32, .inl f117)), (h_let, .inl (cy_let, 256, .inl f118)), (h_mm, .inr (8, (mo92 vq158 (.ref h_tap) (.int x_mm_taped) (.int z160) (.int z161) (.int z162) (.int z163) (.long z164) (.int z109)))), (h_tap, .inl (cy_tap, 600, .inl f_tap))] := hD9
            have hS := hS9
            clear hP9 hD9 hS9
            rw [evq158] at hP hD
            replace hP : va_P (dC, dI) cls [(h_nv, .inl (cy_nv, 8000, .inl f112)), (h_nn, .inl (cy_nn, 8000, .inr (.inl f113))), (h_na, .inl (cy_na, 8000, .inl f114)), (h_nb, .inl (cy_nb, 8000, .inl f154)), (h_nc, .inl (cy_nc, 8000, .inl f116)), (h_vrs, .inl (cy_vrs, 32, .inl f117)), (h_let, .inl (cy_let, 256, .inl f118)), (h_mm, .inr (8, (mo126 v_mm (.ref h_nv) (.ref h_nn) (.ref h_na) (.ref h_nb) (.ref h_nc) (.int z103) (.ref h_vrs) (.ref h_let) (.ref h_tap) (.int x_mm_taped) (.int z160) (.int z161) (.int z162) (.int z163) (.long z164) (.int z109) (.int z110) (.int z111) (.int z5) (.int x_mm_reading)))), (h_tap, .inl (cy_tap, 600, .inl f_tap))] H := hP
            replace hD : va_D A [(h_nv, .inl (cy_nv, 8000, .inl f112)), (h_nn, .inl (cy_nn, 8000, .inr (.inl f113))), (h_na, .inl (cy_na, 8000, .inl f114)), (h_nb, .inl (cy_nb, 8000, .inl f154)), (h_nc, .inl (cy_nc, 8000, .inl f116)), (h_vrs, .inl (cy_vrs, 32, .inl f117)), (h_let, .inl (cy_let, 256, .inl f118)), (h_mm, .inr (8, (mo126 v_mm (.ref h_nv) (.ref h_nn) (.ref h_na) (.ref h_nb) (.ref h_nc) (.int z103) (.ref h_vrs) (.ref h_let) (.ref h_tap) (.int x_mm_taped) (.int z160) (.int z161) (.int z162) (.int z163) (.long z164) (.int z109) (.int z110) (.int z111) (.int z5) (.int x_mm_reading)))), (h_tap, .inl (cy_tap, 600, .inl f_tap))] := hD
            clear evq158 
            obtain ⟨k165, k166, k167, k168, k169, k170, k171, k172, k173, hq⟩ := hq
            replace k165 : 0 ≤ ((z160)).toInt ∧ ((z160)).toInt ≤ 600 := k165
            replace k166 : 0 ≤ ((z161)).toInt ∧ ((z161)).toInt ≤ 600 := k166
            replace k167 : 0 ≤ ((z162)).toInt ∧ ((z162)).toInt ≤ 4 := k167
            replace k168 : ((z161)).toInt ≤ ((z160)).toInt := k168
            replace k169 : ((z162)).toInt = kd (tkT (G) ((x_mm_taped)).toInt ((z161)).toInt) := k169
            replace k170 : ((z162)).toInt = 0 ∨ (((z160)).toInt = tkX (G) ((x_mm_taped)).toInt ((z161)).toInt ∧ ((z163)).toInt = (G) ((z161)).toInt ∧ ((z161)).toInt < ((x_mm_taped)).toInt ∧ ((z161)).toInt + 1 ≤ ((z160)).toInt) := k170
            replace k171 : ((z160)).toInt ≤ ((x_mm_taped)).toInt := k171
            replace k172 : ((z161)).toInt ≤ ((x_mm_taped)).toInt := k172
            replace k173 : NMK ((z162)).toInt ((z164)).toInt (NMI 27 (G) ((x_mm_taped)).toInt ((z161)).toInt) := k173
            rcases hq with ⟨rfl, hq⟩ | ⟨rfl, hq⟩ | ⟨rfl, hq⟩
            · replace hq : (((z109)).toInt = 0) ∧ (tkT (G) ((x_mm_taped)).toInt ((z105)).toInt = ((44 : Int32)).toInt) ∧ (((z161)).toInt = tkN (G) ((x_mm_taped)).toInt ((z105)).toInt) ∧ (((z104)).toInt ≤ ((z161)).toInt) ∧ (((z105)).toInt + 1 ≤ ((z161)).toInt) := hq
              clear k137
              obtain ⟨hq1, hq2, hq3, hq4, hq5⟩ := hq
              have cst44 : (44 : Int32).toInt = 44 := by decide
              have on9 := pLo_on (G := G) (n := (x_mm_taped).toInt) (P := (pPs G (x_mm_taped).toInt d9)) (r := 1) (q := (z28).toInt) (nv := (rh72).2.2.1) (vf := (rh72).2.2.2) (by rw [← erh149]; omega) (by rw [← erh149, ← k134]; omega)
              rw [← erh149, ← k134] at on9
              have lo174 := on9.symm.trans lo97
              clear on9
              have tn175 := hq3
              have tc176 : tkT G (x_mm_taped).toInt (z105).toInt = 44 := by omega
              have xt9 : XT (rh72).2.2.1 (rh72).2.2.2 (rh149).2.2.1 (rh149).2.2.2 := by rw [erh149]; exact (pTm_xi (pPs_xi _) _ _ _).1
              have pn177 : PRN G (x_mm_taped).toInt (RVW f112 f113 f114 f154 f116) (rh149).2.2.1 (rh149).2.2.2 (z103).toInt dd p1 2 (x_mm_place).toInt (z105).toInt := prn_B (P0 := (z26).toInt) (Q := (z26).toInt) (q1 := (z28).toInt) pn100 k148 (by omega) xt9 (by omega) (by omega) (by omega) tc99 (k147 (by omega)) ef154
              have ts178 := trs_B ts151 ef154 (by omega)
              refine lv_if_eq (tgt := 119) hx hb dX11_readsParts_81 (by decide) (fun c9 => absurd c9 (by decide)) (fun _ => ?_)
              refine lv_aload_n hx hb dX11_readsParts_84 rfl (lv_at hl 0 rfl) ?_
              refine va_get (D := (dC, dI)) (ci := 8) (v := .ref h_nc) (C := RX11) (T := TX11) (N := 71) hx hb hw iwX11 hown hK hP 7 rfl rfl 5 (by decide) (hw _ w_f_X11_14) (fun _ h9 => h9) rfl dX11_readsParts_85 ?_
              refine lv_iload_n hx hb dX11_readsParts_88 rfl (lv_at hl 1 rfl) ?_
              refine lv_aload_n hx hb dX11_readsParts_89 rfl (lv_at hl 0 rfl) ?_
              have hPc := hP.sub (ws' := [(h_mm, .inr (8, (mo126 v_mm (.ref h_nv) (.ref h_nn) (.ref h_na) (.ref h_nb) (.ref h_nc) (.int z103) (.ref h_vrs) (.ref h_let) (.ref h_tap) (.int x_mm_taped) (.int z160) (.int z161) (.int z162) (.int z163) (.long z164) (.int z109) (.int z110) (.int z111) (.int z5) (.int x_mm_reading)))), (h_tap, .inl (cy_tap, 600, .inl f_tap)), (h_nv, .inl (cy_nv, 8000, .inl f112)), (h_nn, .inl (cy_nn, 8000, .inr (.inl f113))), (h_na, .inl (cy_na, 8000, .inl f114)), (h_nb, .inl (cy_nb, 8000, .inl f154)), (h_nc, .inl (cy_nc, 8000, .inl f116)), (h_vrs, .inl (cy_vrs, 32, .inl f117)), (h_let, .inl (cy_let, 256, .inl f118))]) [7, 8, 0, 1, 2, 3, 4, 5, 6] rfl
              have hDc := hD.sub (ws' := [(h_mm, .inr (8, (mo126 v_mm (.ref h_nv) (.ref h_nn) (.ref h_na) (.ref h_nb) (.ref h_nc) (.int z103) (.ref h_vrs) (.ref h_let) (.ref h_tap) (.int x_mm_taped) (.int z160) (.int z161) (.int z162) (.int z163) (.long z164) (.int z109) (.int z110) (.int z111) (.int z5) (.int x_mm_reading)))), (h_tap, .inl (cy_tap, 600, .inl f_tap)), (h_nv, .inl (cy_nv, 8000, .inl f112)), (h_nn, .inl (cy_nn, 8000, .inr (.inl f113))), (h_na, .inl (cy_na, 8000, .inl f114)), (h_nb, .inl (cy_nb, 8000, .inl f154)), (h_nc, .inl (cy_nc, 8000, .inl f116)), (h_vrs, .inl (cy_vrs, 32, .inl f117)), (h_let, .inl (cy_let, 256, .inl f118))]) [7, 8, 0, 1, 2, 3, 4, 5, 6] (by decide) rfl
              have hKc := hK.sub (tys' := [(cy_tap, .byte), (cy_nv, .int), (cy_nn, .long), (cy_na, .int), (cy_nb, .int), (cy_nc, .int), (cy_vrs, .int), (cy_let, .int)]) [0, 1, 2, 3, 4, 5, 6, 7] rfl
              have hFc := va_free (wc := [(h_mm, .inr (8, (mo126 v_mm (.ref h_nv) (.ref h_nn) (.ref h_na) (.ref h_nb) (.ref h_nc) (.int z103) (.ref h_vrs) (.ref h_let) (.ref h_tap) (.int x_mm_taped) (.int z160) (.int z161) (.int z162) (.int z163) (.long z164) (.int z109) (.int z110) (.int z111) (.int z5) (.int x_mm_reading)))), (h_tap, .inl (cy_tap, 600, .inl f_tap)), (h_nv, .inl (cy_nv, 8000, .inl f112)), (h_nn, .inl (cy_nn, 8000, .inr (.inl f113))), (h_na, .inl (cy_na, 8000, .inl f114)), (h_nb, .inl (cy_nb, 8000, .inl f154)), (h_nc, .inl (cy_nc, 8000, .inl f116)), (h_vrs, .inl (cy_vrs, 32, .inl f117)), (h_let, .inl (cy_let, 256, .inl f118))]) hD hS hA [7, 8, 0, 1, 2, 3, 4, 5, 6] rfl
              refine va_calli (va_runV (As := []) (rest := [.int p1, .ref h_nc]) ⟨hx, hb, hml, hown, hts⟩ (c_X11_readsTerm l dC dI H.size h_mm h_tap h_nv h_nn h_na h_nb h_nc h_vrs h_let v_mm z103 x_mm_taped z160 z161 z162 z163 z164 z109 z110 z111 z5 x_mm_reading cy_tap f_tap cy_nv f112 cy_nn f113 cy_na f114 cy_nb f154 cy_nc f116 cy_vrs f117 cy_let f118 (fu - 2) lo gh119 za zb zc zv G (rh149).2.2.1 (rh149).2.2.2 d9 (by first | exact k120 | omega) (by first | exact hx_mm_taped | omega) (by first | exact k165 | omega) (by first | exact k166 | omega) (by first | exact k167 | omega) (by first | exact k124 | omega) (by omega) (by first | exact hx_mm_reading | omega) hf112 hf114 hf154 hf116 hf117 (ihf (fu - 2) (by omega)) (by first | exact k168 | omega) (by omega) (by omega) (by omega) (by first | exact k169 | omega) (by first | exact k170 | omega) (by first | exact k171 | omega) (by first | exact k172 | omega) (by omega) (by omega) (by omega) (by omega) nd156 (nd_cast nd155 (by omega)) hn_tapq k144 k145 k173) (cwV 0 hts (gv hT w_m_X11_133 w_instanceMethod_X11_readsTerm ws_sel_X11_readsTerm w_ini_X11 w_code_X11_readsTerm) rfl rfl rfl (by decide +kernel) ⟨(by dsimp only [headSpec]; omega), (by dsimp only [headSpec]; omega)⟩) ⟨pre_blind, va_recv hK hP (ci := 8) (q0 := 7) rfl rfl, pre_of hPc hKc hDc hN⟩ rfl rfl hl.1 rfl (lv_room (Nat.le_of_ble_eq_true rfl)) dX11_readsParts_90 ⟨(Nat.le_of_ble_eq_true rfl), (Nat.le_of_ble_eq_true rfl)⟩) hS (fun q _ h => hFc q h) hFc (fun r179 u t H locs ht hvm hq hB hz1 hk1 hS9 => ?_)
              obtain ⟨z180, z181, z182, z183, z184, z185, z186, z187, z188, f189, f190, f191, f192, f193, f194, f195, gh196⟩ := u
              obtain ⟨hP1, hD1⟩ := hB
              rw [ht] at hP1
              obtain ⟨hP9, hD9⟩ := va_join (wr := []) (w1 := [(h_mm, .inr (8, (mo126 v_mm (.ref h_nv) (.ref h_nn) (.ref h_na) (.ref h_nb) (.ref h_nc) (.int z180) (.ref h_vrs) (.ref h_let) (.ref h_tap) (.int x_mm_taped) (.int z181) (.int z182) (.int z183) (.int z184) (.long z185) (.int z186) (.int z187) (.int z188) (.int z5) (.int x_mm_reading)))), (h_tap, .inl (cy_tap, 600, .inl f_tap)), (h_nv, .inl (cy_nv, 8000, .inl f189)), (h_nn, .inl (cy_nn, 8000, .inr (.inl f190))), (h_na, .inl (cy_na, 8000, .inl f191)), (h_nb, .inl (cy_nb, 8000, .inl f192)), (h_nc, .inl (cy_nc, 8000, .inl f193)), (h_vrs, .inl (cy_vrs, 32, .inl f194)), (h_let, .inl (cy_let, 256, .inl f195))]) hP hD [7, 8, 0, 1, 2, 3, 4, 5, 6] [] rfl rfl (by decide) (by decide) hk1 hFc hP1 hD1
              clear hP hD hS hPc hDc hKc hFc hP1 hD1 hk1 hz1 ht hvm
              have hP : va_P (dC, dI) cls [(h_mm, .inr (8, (mo126 v_mm (.ref h_nv) (.ref h_nn) (.ref h_na) (.ref h_nb) (.ref h_nc) (.int z180) (.ref h_vrs) (.ref h_let) (.ref h_tap) (.int x_mm_taped) (.int z181) (.int z182) (.int z183) (.int z184) (.long z185) (.int z186) (.int z187) (.int z188) (.int z5) (.int x_mm_reading)))), (h_tap, .inl (cy_tap, 600, .inl f_tap)), (h_nv, .inl (cy_nv, 8000, .inl f189)), (h_nn, .inl (cy_nn, 8000, .inr (.inl f190))), (h_na, .inl (cy_na, 8000, .inl f191)), (h_nb, .inl (cy_nb, 8000, .inl f192)), (h_nc, .inl (cy_nc, 8000, .inl f193)), (h_vrs, .inl (cy_vrs, 32, .inl f194)), (h_let, .inl (cy_let, 256, .inl f195))] H := hP9
              have hD : va_D A [(h_mm, .inr (8, (mo126 v_mm (.ref h_nv) (.ref h_nn) (.ref h_na) (.ref h_nb) (.ref h_nc) (.int z180) (.ref h_vrs) (.ref h_let) (.ref h_tap) (.int x_mm_taped) (.int z181) (.int z182) (.int z183) (.int z184) (.long z185) (.int z186) (.int z187) (.int z188) (.int z5) (.int x_mm_reading)))), (h_tap, .inl (cy_tap, 600, .inl f_tap)), (h_nv, .inl (cy_nv, 8000, .inl f189)), (h_nn, .inl (cy_nn, 8000, .inr (.inl f190))), (h_na, .inl (cy_na, 8000, .inl f191)), (h_nb, .inl (cy_nb, 8000, .inl f192)), (h_nc, .inl (cy_nc, 8000, .inl f193)), (h_vrs, .inl (cy_vrs, 32, .inl f194)), (h_let, .inl (cy_let, 256, .inl f195))] := hD9
              have hS := hS9
              clear hP9 hD9 hS9
              obtain ⟨k197, k198, k199, k200, k201, hf189, hf191, hf192, hf193, hf194, k202, k203, k204, k205, k206, k207, k208, k209, k210, k211, k212, k213, k214, k215, k216, k217, k218, k219, k220, k221, k222, k223, k224, k225⟩ := hq
              replace k197 : 0 ≤ ((z180)).toInt ∧ ((z180)).toInt ≤ 1200 := k197
              replace k198 : 0 ≤ ((z181)).toInt ∧ ((z181)).toInt ≤ 600 := k198
              replace k199 : 0 ≤ ((z182)).toInt ∧ ((z182)).toInt ≤ 600 := k199
              replace k200 : 0 ≤ ((z183)).toInt ∧ ((z183)).toInt ≤ 4 := k200
              replace k201 : 0 ≤ ((z186)).toInt ∧ ((z186)).toInt ≤ 1 := k201
              replace hf189 : Rg (-1) 7 (f189) := hf189
              replace hf191 : Rg (-1) 7999 (f191) := hf191
              replace hf192 : Rg (-1) 7999 (f192) := hf192
              replace hf193 : Rg (-1) 7999 (f193) := hf193
              replace hf194 : Rg 0 8 (f194) := hf194
              replace k202 : -1 ≤ (r179).toInt ∧ (r179).toInt ≤ 1199 := k202
              replace k203 : ((z182)).toInt ≤ ((z181)).toInt := k203
              replace k204 : ((z186)).toInt = 1 ∨ ((z180)).toInt ≤ (lo) + ((z182)).toInt := k204
              replace k205 : ((z103)).toInt ≤ ((z180)).toInt := k205
              replace k206 : ((z161)).toInt ≤ ((z182)).toInt := k206
              replace k207 : ((z109)).toInt ≤ ((z186)).toInt := k207
              replace k208 : ((r179)).toInt = -1 ∨ ((lo) ≤ ((r179)).toInt ∧ ((r179)).toInt < ((z180)).toInt ∧ ((gh196) ((r179)).toInt.toNat : Int) = 7 - ((z5)).toInt) := k208
              replace k209 : ((z186)).toInt = 1 ∨ 0 ≤ ((r179)).toInt := k209
              replace k210 : (((z186)).toInt = 0 ∧ ((pTm (G) ((x_mm_taped)).toInt (pPs (G) ((x_mm_taped)).toInt (d9)) ((z161)).toInt ((rh149).2.2.1) ((rh149).2.2.2))).1 = 0 ∧ ((z187)).toInt = ((z110)).toInt ∧ ((z188)).toInt = ((z111)).toInt) ∨ (((z186)).toInt = 1 ∧ ¬ ((pTm (G) ((x_mm_taped)).toInt (pPs (G) ((x_mm_taped)).toInt (d9)) ((z161)).toInt ((rh149).2.2.1) ((rh149).2.2.2))).1 = 0 ∧ ((z187)).toInt = ((pTm (G) ((x_mm_taped)).toInt (pPs (G) ((x_mm_taped)).toInt (d9)) ((z161)).toInt ((rh149).2.2.1) ((rh149).2.2.2))).1 ∧ ((z188)).toInt = ((pTm (G) ((x_mm_taped)).toInt (pPs (G) ((x_mm_taped)).toInt (d9)) ((z161)).toInt ((rh149).2.2.1) ((rh149).2.2.2))).2.1) := k210
              replace k211 : ((z182)).toInt = ((pTm (G) ((x_mm_taped)).toInt (pPs (G) ((x_mm_taped)).toInt (d9)) ((z161)).toInt ((rh149).2.2.1) ((rh149).2.2.2))).2.1 := k211
              replace k212 : 0 ≤ ((pTm (G) ((x_mm_taped)).toInt (pPs (G) ((x_mm_taped)).toInt (d9)) ((z161)).toInt ((rh149).2.2.1) ((rh149).2.2.2))).2.2.1 ∧ ((pTm (G) ((x_mm_taped)).toInt (pPs (G) ((x_mm_taped)).toInt (d9)) ((z161)).toInt ((rh149).2.2.1) ((rh149).2.2.2))).2.2.1 ≤ 8 := k212
              replace k213 : ((z183)).toInt = kd (tkT (G) ((x_mm_taped)).toInt ((z182)).toInt) := k213
              replace k214 : ((z183)).toInt = 0 ∨ (((z181)).toInt = tkX (G) ((x_mm_taped)).toInt ((z182)).toInt ∧ ((z184)).toInt = (G) ((z182)).toInt ∧ ((z182)).toInt < ((x_mm_taped)).toInt ∧ ((z182)).toInt + 1 ≤ ((z181)).toInt) := k214
              replace k215 : ((z181)).toInt ≤ ((x_mm_taped)).toInt := k215
              replace k216 : ((z182)).toInt ≤ ((x_mm_taped)).toInt := k216
              replace k217 : EQ0 (lo) (za) (zb) (zc) (zv) (f191) (f192) (f193) (f189) := k217
              replace k218 : ND (lo) ((z180)).toInt (gh196) (f191) (f192) (f193) := k218
              replace k219 : ∀ y : Nat, (y : Int) < ((z103)).toInt → (gh196) y = (gh119) y := k219
              replace k220 : VRF ((x_mm_reading)).toInt (f117) (f194) := k220
              replace k221 : ((f194) (Int32.toNatClampNeg (x_mm_reading))).toInt = ((pTm (G) ((x_mm_taped)).toInt (pPs (G) ((x_mm_taped)).toInt (d9)) ((z161)).toInt ((rh149).2.2.1) ((rh149).2.2.2))).2.2.1 := k221
              replace k222 : VFM ((pTm (G) ((x_mm_taped)).toInt (pPs (G) ((x_mm_taped)).toInt (d9)) ((z161)).toInt ((rh149).2.2.1) ((rh149).2.2.2))).2.2.1 ((pTm (G) ((x_mm_taped)).toInt (pPs (G) ((x_mm_taped)).toInt (d9)) ((z161)).toInt ((rh149).2.2.1) ((rh149).2.2.2))).2.2.2 (f195) ((x_mm_reading)).toInt := k222
              replace k223 : NMK ((z183)).toInt ((z185)).toInt (NMI 27 (G) ((x_mm_taped)).toInt ((z182)).toInt) := k223
              replace k224 : IFZ ((z186)).toInt (∃ L B : Nat, (L : Int) = ((z103)).toInt ∧ (B : Int) = ((z180)).toInt ∧ SPX (G) ((x_mm_taped)).toInt 27 (RVW (f189) (f190) (f191) (f192) (f193)) ((pTm (G) ((x_mm_taped)).toInt (pPs (G) ((x_mm_taped)).toInt (d9)) ((z161)).toInt ((rh149).2.2.1) ((rh149).2.2.2))).2.2.1 ((pTm (G) ((x_mm_taped)).toInt (pPs (G) ((x_mm_taped)).toInt (d9)) ((z161)).toInt ((rh149).2.2.1) ((rh149).2.2.2))).2.2.2 k0 L B ((d9) + 1) (Int32.toNatClampNeg (r179)) ((z161)).toInt ((z182)).toInt) := k224
              replace k225 : AGN ((z103)).toInt (-1) (f112) (f189) (f113) (f190) (f114) (f191) (f154) (f192) (f116) (f193) := k225
              obtain ⟨rh226, erh226⟩ : ∃ x : PR, x = (pTm (G) ((x_mm_taped)).toInt (pPs (G) ((x_mm_taped)).toInt (d9)) ((z161)).toInt ((rh149).2.2.1) ((rh149).2.2.2)) := ⟨_, rfl⟩
              rw [← erh226] at k210 k211 k212 k221 k222 k224
              rw [tn175] at erh226
              have := k219 (p1).toInt.toNat (by omega)
              clear k170
              rw [tn175, ← hd9] at k224
              have an227 : AGN (x_mm_nodes).toInt (p1).toInt f_nv f189 f_nn f190 f_na f191 f_nb f192 f_nc f193 := agn_tr an157 k225 (by omega) (Or.inl (by decide))
              have ts228 := trs_agn ts178 k225 (by omega) (by omega)
              have vr229 := vrf_tr vr152 k220 (Int.le_refl _)
              rcases k210 with ⟨fq230a, fq230b, fq230c, fq230d⟩ | ⟨fq230a, fq230b, fq230c, fq230d⟩
              · replace k204 : (z180).toInt ≤ lo + (z182).toInt := by rcases k204 with j9 | j9; (exact absurd j9 (by omega)); exact j9
                refine va_iast hx hb hK hP hD hS 6 5 rfl rfl (i := p1) (x := r179) (vp_in_iff.mpr (by omega)) dX11_readsParts_93 (fun H locs hP9 hD9 hS9 => ?_)
                obtain ⟨f231, ef231⟩ : ∃ g : Nat → Int32, g = upd f193 (Int32.toNatClampNeg p1) r179 := ⟨_, rfl⟩
                clear hP hD hS
                have hP : va_P (dC, dI) cls [(h_mm, .inr (8, (mo126 v_mm (.ref h_nv) (.ref h_nn) (.ref h_na) (.ref h_nb) (.ref h_nc) (.int z180) (.ref h_vrs) (.ref h_let) (.ref h_tap) (.int x_mm_taped) (.int z181) (.int z182) (.int z183) (.int z184) (.long z185) (.int z186) (.int z187) (.int z188) (.int z5) (.int x_mm_reading)))), (h_tap, .inl (cy_tap, 600, .inl f_tap)), (h_nv, .inl (cy_nv, 8000, .inl f189)), (h_nn, .inl (cy_nn, 8000, .inr (.inl f190))), (h_na, .inl (cy_na, 8000, .inl f191)), (h_nb, .inl (cy_nb, 8000, .inl f192)), (h_nc, .inl (cy_nc, 8000, .inl f231)), (h_vrs, .inl (cy_vrs, 32, .inl f194)), (h_let, .inl (cy_let, 256, .inl f195))] H := by rw [ef231]; exact hP9
                have hD : va_D A [(h_mm, .inr (8, (mo126 v_mm (.ref h_nv) (.ref h_nn) (.ref h_na) (.ref h_nb) (.ref h_nc) (.int z180) (.ref h_vrs) (.ref h_let) (.ref h_tap) (.int x_mm_taped) (.int z181) (.int z182) (.int z183) (.int z184) (.long z185) (.int z186) (.int z187) (.int z188) (.int z5) (.int x_mm_reading)))), (h_tap, .inl (cy_tap, 600, .inl f_tap)), (h_nv, .inl (cy_nv, 8000, .inl f189)), (h_nn, .inl (cy_nn, 8000, .inr (.inl f190))), (h_na, .inl (cy_na, 8000, .inl f191)), (h_nb, .inl (cy_nb, 8000, .inl f192)), (h_nc, .inl (cy_nc, 8000, .inl f231)), (h_vrs, .inl (cy_vrs, 32, .inl f194)), (h_let, .inl (cy_let, 256, .inl f195))] := by rw [ef231]; exact hD9
                have hS := hS9
                clear hP9 hD9 hS9
                have hf231 : Rg (-1) 7999 f231 := by rw [ef231]; exact rg_upd hf193 (by omega)
                have nd232 : ND lo (z180).toInt gh196 f191 f192 f231 := by rw [ef231]; exact nd_setC (n := (z180).toInt) (nd_cast k218 (by omega)) (by omega) (by unfold NDk; omega)
                have nd233 : EQ0 lo za zb zc zv f191 f192 f231 f189 := by rw [ef231]; exact eq0_C k217 (by omega) (by omega)
                have an234 : AGN (x_mm_nodes).toInt (p1).toInt f_nv f189 f_nn f190 f_na f191 f_nb f192 f_nc f231 := agn_C an227 ef231 (by omega)
                clear k208
                refine lv_aload_n hx hb dX11_readsParts_94 rfl (lv_at hl 0 rfl) ?_
                refine lv_bipush (v := 44) hx hb dX11_readsParts_95 (by decide) ?_
                obtain ⟨vq235, evq235⟩ := mq126_92 v_mm (.ref h_nv) (.ref h_nn) (.ref h_na) (.ref h_nb) (.ref h_nc) (.int z180) (.ref h_vrs) (.ref h_let) (.int z187) (.int z188) (.int z5) (.int x_mm_reading)
                replace hP : va_P (dC, dI) cls [(h_mm, .inr (8, (mo92 vq235 (.ref h_tap) (.int x_mm_taped) (.int z181) (.int z182) (.int z183) (.int z184) (.long z185) (.int z186)))), (h_tap, .inl (cy_tap, 600, .inl f_tap)), (h_nv, .inl (cy_nv, 8000, .inl f189)), (h_nn, .inl (cy_nn, 8000, .inr (.inl f190))), (h_na, .inl (cy_na, 8000, .inl f191)), (h_nb, .inl (cy_nb, 8000, .inl f192)), (h_nc, .inl (cy_nc, 8000, .inl f231)), (h_vrs, .inl (cy_vrs, 32, .inl f194)), (h_let, .inl (cy_let, 256, .inl f195))] H := by rw [evq235]; exact hP
                replace hD : va_D A [(h_mm, .inr (8, (mo92 vq235 (.ref h_tap) (.int x_mm_taped) (.int z181) (.int z182) (.int z183) (.int z184) (.long z185) (.int z186)))), (h_tap, .inl (cy_tap, 600, .inl f_tap)), (h_nv, .inl (cy_nv, 8000, .inl f189)), (h_nn, .inl (cy_nn, 8000, .inr (.inl f190))), (h_na, .inl (cy_na, 8000, .inl f191)), (h_nb, .inl (cy_nb, 8000, .inl f192)), (h_nc, .inl (cy_nc, 8000, .inl f231)), (h_vrs, .inl (cy_vrs, 32, .inl f194)), (h_let, .inl (cy_let, 256, .inl f195))] := by rw [evq235]; exact hD
                have cst44 : (44 : Int32).toInt = 44 := by decide
                have hPc := hP.sub (ws' := [(h_mm, .inr (8, (mo92 vq235 (.ref h_tap) (.int x_mm_taped) (.int z181) (.int z182) (.int z183) (.int z184) (.long z185) (.int z186)))), (h_tap, .inl (cy_tap, 600, .inl f_tap))]) [0, 1] rfl
                have hDc := hD.sub (ws' := [(h_mm, .inr (8, (mo92 vq235 (.ref h_tap) (.int x_mm_taped) (.int z181) (.int z182) (.int z183) (.int z184) (.long z185) (.int z186)))), (h_tap, .inl (cy_tap, 600, .inl f_tap))]) [0, 1] (by decide) rfl
                have hKc := hK.sub (tys' := [(cy_tap, .byte)]) [0] rfl
                have hFc := va_free (wc := [(h_mm, .inr (8, (mo92 vq235 (.ref h_tap) (.int x_mm_taped) (.int z181) (.int z182) (.int z183) (.int z184) (.long z185) (.int z186)))), (h_tap, .inl (cy_tap, 600, .inl f_tap))]) hD hS hA [0, 1] rfl
                refine va_calli (va_runV (As := [.int 44]) (rest := []) ⟨hx, hb, hml, hown, hts⟩ (c_X11_passes l dC dI H.size h_mm h_tap vq235 x_mm_taped z181 z182 z183 z184 z185 z186 cy_tap f_tap 44 G (by first | exact hx_mm_taped | omega) (by first | exact k198 | omega) (by first | exact k199 | omega) (by first | exact k200 | omega) (by first | exact k201 | omega) (by first | exact k203 | omega) (by omega) (by omega) (by first | exact k213 | omega) (by first | exact k214 | omega) (by first | exact k215 | omega) (by first | exact k216 | omega) hn_tapq k223) (cwV 1 hts (gv hT w_m_X11_136 w_instanceMethod_X11_passes ws_sel_X11_passes w_ini_X11 w_code_X11_passes) rfl rfl rfl (by decide +kernel) ⟨(by dsimp only [headSpec]; omega), (by dsimp only [headSpec]; omega)⟩) ⟨pre_blind, va_recv hK hP (ci := 8) (q0 := 0) rfl rfl, pre_of hPc hKc hDc hN⟩ rfl rfl hl.1 rfl (lv_room (Nat.le_of_ble_eq_true rfl)) dX11_readsParts_97 ⟨(Nat.le_of_ble_eq_true rfl), (Nat.le_of_ble_eq_true rfl)⟩) hS (fun q _ h => hFc q h) hFc (fun r236 u t H locs ht hvm hq hB hz1 hk1 hS9 => ?_)
                obtain ⟨z237, z238, z239, z240, z241⟩ := u
                obtain ⟨hP1, hD1⟩ := hB
                rw [ht] at hP1
                obtain ⟨hP9, hD9⟩ := va_join (wr := [(h_nv, .inl (cy_nv, 8000, .inl f189)), (h_nn, .inl (cy_nn, 8000, .inr (.inl f190))), (h_na, .inl (cy_na, 8000, .inl f191)), (h_nb, .inl (cy_nb, 8000, .inl f192)), (h_nc, .inl (cy_nc, 8000, .inl f231)), (h_vrs, .inl (cy_vrs, 32, .inl f194)), (h_let, .inl (cy_let, 256, .inl f195))]) (w1 := [(h_mm, .inr (8, (mo92 vq235 (.ref h_tap) (.int x_mm_taped) (.int z237) (.int z238) (.int z239) (.int z240) (.long z241) (.int z186)))), (h_tap, .inl (cy_tap, 600, .inl f_tap))]) hP hD [0, 1] [2, 3, 4, 5, 6, 7, 8] rfl rfl (by decide) (by decide) hk1 hFc hP1 hD1
                clear hP hD hS hPc hDc hKc hFc hP1 hD1 hk1 hz1 ht hvm
                have hP : va_P (dC, dI) cls [(h_nv, .inl (cy_nv, 8000, .inl f189)), (h_nn, .inl (cy_nn, 8000, .inr (.inl f190))), (h_na, .inl (cy_na, 8000, .inl f191)), (h_nb, .inl (cy_nb, 8000, .inl f192)), (h_nc, .inl (cy_nc, 8000, .inl f231)), (h_vrs, .inl (cy_vrs, 32, .inl f194)), (h_let, .inl (cy_let, 256, .inl f195)), (h_mm, .inr (8, (mo92 vq235 (.ref h_tap) (.int x_mm_taped) (.int z237) (.int z238) (.int z239) (.int z240) (.long z241) (.int z186)))), (h_tap, .inl (cy_tap, 600, .inl f_tap))] H := hP9
                have hD : va_D A [(h_nv, .inl (cy_nv, 8000, .inl f189)), (h_nn, .inl (cy_nn, 8000, .inr (.inl f190))), (h_na, .inl (cy_na, 8000, .inl f191)), (h_nb, .inl (cy_nb, 8000, .inl f192)), (h_nc, .inl (cy_nc, 8000, .inl f231)), (h_vrs, .inl (cy_vrs, 32, .inl f194)), (h_let, .inl (cy_let, 256, .inl f195)), (h_mm, .inr (8, (mo92 vq235 (.ref h_tap) (.int x_mm_taped) (.int z237) (.int z238) (.int z239) (.int z240) (.long z241) (.int z186)))), (h_tap, .inl (cy_tap, 600, .inl f_tap))] := hD9
                have hS := hS9
                clear hP9 hD9 hS9
                rw [evq235] at hP hD
                replace hP : va_P (dC, dI) cls [(h_nv, .inl (cy_nv, 8000, .inl f189)), (h_nn, .inl (cy_nn, 8000, .inr (.inl f190))), (h_na, .inl (cy_na, 8000, .inl f191)), (h_nb, .inl (cy_nb, 8000, .inl f192)), (h_nc, .inl (cy_nc, 8000, .inl f231)), (h_vrs, .inl (cy_vrs, 32, .inl f194)), (h_let, .inl (cy_let, 256, .inl f195)), (h_mm, .inr (8, (mo126 v_mm (.ref h_nv) (.ref h_nn) (.ref h_na) (.ref h_nb) (.ref h_nc) (.int z180) (.ref h_vrs) (.ref h_let) (.ref h_tap) (.int x_mm_taped) (.int z237) (.int z238) (.int z239) (.int z240) (.long z241) (.int z186) (.int z187) (.int z188) (.int z5) (.int x_mm_reading)))), (h_tap, .inl (cy_tap, 600, .inl f_tap))] H := hP
                replace hD : va_D A [(h_nv, .inl (cy_nv, 8000, .inl f189)), (h_nn, .inl (cy_nn, 8000, .inr (.inl f190))), (h_na, .inl (cy_na, 8000, .inl f191)), (h_nb, .inl (cy_nb, 8000, .inl f192)), (h_nc, .inl (cy_nc, 8000, .inl f231)), (h_vrs, .inl (cy_vrs, 32, .inl f194)), (h_let, .inl (cy_let, 256, .inl f195)), (h_mm, .inr (8, (mo126 v_mm (.ref h_nv) (.ref h_nn) (.ref h_na) (.ref h_nb) (.ref h_nc) (.int z180) (.ref h_vrs) (.ref h_let) (.ref h_tap) (.int x_mm_taped) (.int z237) (.int z238) (.int z239) (.int z240) (.long z241) (.int z186) (.int z187) (.int z188) (.int z5) (.int x_mm_reading)))), (h_tap, .inl (cy_tap, 600, .inl f_tap))] := hD
                clear evq235 
                obtain ⟨k242, k243, k244, k245, k246, k247, k248, k249, k250, hq⟩ := hq
                replace k242 : 0 ≤ ((z237)).toInt ∧ ((z237)).toInt ≤ 600 := k242
                replace k243 : 0 ≤ ((z238)).toInt ∧ ((z238)).toInt ≤ 600 := k243
                replace k244 : 0 ≤ ((z239)).toInt ∧ ((z239)).toInt ≤ 4 := k244
                replace k245 : ((z238)).toInt ≤ ((z237)).toInt := k245
                replace k246 : ((z239)).toInt = kd (tkT (G) ((x_mm_taped)).toInt ((z238)).toInt) := k246
                replace k247 : ((z239)).toInt = 0 ∨ (((z237)).toInt = tkX (G) ((x_mm_taped)).toInt ((z238)).toInt ∧ ((z240)).toInt = (G) ((z238)).toInt ∧ ((z238)).toInt < ((x_mm_taped)).toInt ∧ ((z238)).toInt + 1 ≤ ((z237)).toInt) := k247
                replace k248 : ((z237)).toInt ≤ ((x_mm_taped)).toInt := k248
                replace k249 : ((z238)).toInt ≤ ((x_mm_taped)).toInt := k249
                replace k250 : NMK ((z239)).toInt ((z241)).toInt (NMI 27 (G) ((x_mm_taped)).toInt ((z238)).toInt) := k250
                rcases hq with ⟨rfl, hq⟩ | ⟨rfl, hq⟩ | ⟨rfl, hq⟩
                · replace hq : (((z186)).toInt = 0) ∧ (tkT (G) ((x_mm_taped)).toInt ((z182)).toInt = ((44 : Int32)).toInt) ∧ (((z238)).toInt = tkN (G) ((x_mm_taped)).toInt ((z182)).toInt) ∧ (((z181)).toInt ≤ ((z238)).toInt) ∧ (((z182)).toInt + 1 ≤ ((z238)).toInt) := hq
                  clear k214
                  obtain ⟨hq1, hq2, hq3, hq4, hq5⟩ := hq
                  have cst44 : (44 : Int32).toInt = 44 := by decide
                  have on9 := pLo_on (G := G) (n := (x_mm_taped).toInt) (P := (pPs G (x_mm_taped).toInt d9)) (r := 0) (q := (z105).toInt) (nv := (rh149).2.2.1) (vf := (rh149).2.2.2) (by rw [← erh226]; omega) (by rw [← erh226, ← k211]; omega)
                  rw [← erh226, ← k211] at on9
                  have lo251 := on9.symm.trans lo174
                  clear on9
                  have tn252 := hq3
                  have tc253 : tkT G (x_mm_taped).toInt (z182).toInt = 44 := by omega
                  have xt9 : XT (rh149).2.2.1 (rh149).2.2.2 (rh226).2.2.1 (rh226).2.2.2 := by rw [erh226]; exact (pTm_xi (pPs_xi _) _ _ _).1
                  have pn254 : PRN G (x_mm_taped).toInt (RVW f189 f190 f191 f192 f231) (rh226).2.2.1 (rh226).2.2.2 (z180).toInt dd p1 3 (x_mm_place).toInt (z182).toInt := prn_C (P0 := (z103).toInt) (Q := (z103).toInt) (q1 := (z105).toInt) pn177 k225 (by omega) xt9 (by omega) (by omega) (by omega) tc176 (k224 (by omega)) ef231
                  have ts255 := trs_C ts228 ef231 (by omega)
                  refine lv_if_eq (tgt := 119) hx hb dX11_readsParts_100 (by decide) (fun c9 => absurd c9 (by decide)) (fun _ => ?_)
                  refine lv_aload_n hx hb dX11_readsParts_103 rfl (lv_at hl 0 rfl) ?_
                  refine lv_aload_n hx hb dX11_readsParts_104 rfl (lv_at hl 0 rfl) ?_
                  obtain ⟨vq256, evq256⟩ := mq126_93 v_mm (.ref h_nv) (.ref h_nn) (.ref h_na) (.ref h_nb) (.ref h_nc) (.int z180) (.ref h_vrs) (.ref h_let) (.ref h_tap) (.int z237) (.int z240) (.long z241) (.int z187) (.int z188) (.int z5) (.int x_mm_reading)
                  replace hP : va_P (dC, dI) cls [(h_nv, .inl (cy_nv, 8000, .inl f189)), (h_nn, .inl (cy_nn, 8000, .inr (.inl f190))), (h_na, .inl (cy_na, 8000, .inl f191)), (h_nb, .inl (cy_nb, 8000, .inl f192)), (h_nc, .inl (cy_nc, 8000, .inl f231)), (h_vrs, .inl (cy_vrs, 32, .inl f194)), (h_let, .inl (cy_let, 256, .inl f195)), (h_mm, .inr (8, (mo93 vq256 (.int x_mm_taped) (.int z238) (.int z239) (.int z186)))), (h_tap, .inl (cy_tap, 600, .inl f_tap))] H := by rw [evq256]; exact hP
                  replace hD : va_D A [(h_nv, .inl (cy_nv, 8000, .inl f189)), (h_nn, .inl (cy_nn, 8000, .inr (.inl f190))), (h_na, .inl (cy_na, 8000, .inl f191)), (h_nb, .inl (cy_nb, 8000, .inl f192)), (h_nc, .inl (cy_nc, 8000, .inl f231)), (h_vrs, .inl (cy_vrs, 32, .inl f194)), (h_let, .inl (cy_let, 256, .inl f195)), (h_mm, .inr (8, (mo93 vq256 (.int x_mm_taped) (.int z238) (.int z239) (.int z186)))), (h_tap, .inl (cy_tap, 600, .inl f_tap))] := by rw [evq256]; exact hD
                  have hPc := hP.sub (ws' := [(h_mm, .inr (8, (mo93 vq256 (.int x_mm_taped) (.int z238) (.int z239) (.int z186))))]) [7] rfl
                  have hDc := hD.sub (ws' := [(h_mm, .inr (8, (mo93 vq256 (.int x_mm_taped) (.int z238) (.int z239) (.int z186))))]) [7] (by decide) rfl
                  have hKc := hK.sub (tys' := []) [] rfl
                  have hFc := va_free (wc := [(h_mm, .inr (8, (mo93 vq256 (.int x_mm_taped) (.int z238) (.int z239) (.int z186))))]) hD hS hA [7] rfl
                  refine va_calli (va_runV (As := []) (rest := [.ref h_mm]) ⟨hx, hb, hml, hown, hts⟩ (c_X11_isTermHere l dC dI H.size h_mm vq256 x_mm_taped z238 z239 z186 G (by first | exact hx_mm_taped | omega) (by first | exact k243 | omega) (by first | exact k244 | omega) (by first | exact k201 | omega) (by first | exact k246 | omega)) (cwV 0 hts (gv hT w_m_X11_115 w_instanceMethod_X11_isTermHere ws_sel_X11_isTermHere w_ini_X11 w_code_X11_isTermHere) rfl rfl rfl (by decide +kernel) ⟨(by dsimp only [headSpec]; omega), (by dsimp only [headSpec]; omega)⟩) ⟨pre_blind, va_recv hK hP (ci := 8) (q0 := 7) rfl rfl, pre_of hPc hKc hDc hN⟩ rfl rfl hl.1 rfl (lv_room (Nat.le_of_ble_eq_true rfl)) dX11_readsParts_105 ⟨(Nat.le_of_ble_eq_true rfl), (Nat.le_of_ble_eq_true rfl)⟩) hS (fun q _ h => hFc q h) hFc (fun r257 u t H locs ht hvm hq hB hz1 hk1 hS9 => ?_)
                  obtain ⟨hP1, hD1⟩ := hB
                  rw [ht] at hP1
                  obtain ⟨hP9, hD9⟩ := va_join (wr := [(h_nv, .inl (cy_nv, 8000, .inl f189)), (h_nn, .inl (cy_nn, 8000, .inr (.inl f190))), (h_na, .inl (cy_na, 8000, .inl f191)), (h_nb, .inl (cy_nb, 8000, .inl f192)), (h_nc, .inl (cy_nc, 8000, .inl f231)), (h_vrs, .inl (cy_vrs, 32, .inl f194)), (h_let, .inl (cy_let, 256, .inl f195)), (h_tap, .inl (cy_tap, 600, .inl f_tap))]) (w1 := [(h_mm, .inr (8, (mo93 vq256 (.int x_mm_taped) (.int z238) (.int z239) (.int z186))))]) hP hD [7] [0, 1, 2, 3, 4, 5, 6, 8] rfl rfl (by decide) (by decide) hk1 hFc hP1 hD1
                  clear hP hD hS hPc hDc hKc hFc hP1 hD1 hk1 hz1 ht hvm
                  have hP : va_P (dC, dI) cls [(h_nv, .inl (cy_nv, 8000, .inl f189)), (h_nn, .inl (cy_nn, 8000, .inr (.inl f190))), (h_na, .inl (cy_na, 8000, .inl f191)), (h_nb, .inl (cy_nb, 8000, .inl f192)), (h_nc, .inl (cy_nc, 8000, .inl f231)), (h_vrs, .inl (cy_vrs, 32, .inl f194)), (h_let, .inl (cy_let, 256, .inl f195)), (h_tap, .inl (cy_tap, 600, .inl f_tap)), (h_mm, .inr (8, (mo93 vq256 (.int x_mm_taped) (.int z238) (.int z239) (.int z186))))] H := hP9
                  have hD : va_D A [(h_nv, .inl (cy_nv, 8000, .inl f189)), (h_nn, .inl (cy_nn, 8000, .inr (.inl f190))), (h_na, .inl (cy_na, 8000, .inl f191)), (h_nb, .inl (cy_nb, 8000, .inl f192)), (h_nc, .inl (cy_nc, 8000, .inl f231)), (h_vrs, .inl (cy_vrs, 32, .inl f194)), (h_let, .inl (cy_let, 256, .inl f195)), (h_tap, .inl (cy_tap, 600, .inl f_tap)), (h_mm, .inr (8, (mo93 vq256 (.int x_mm_taped) (.int z238) (.int z239) (.int z186))))] := hD9
                  have hS := hS9
                  clear hP9 hD9 hS9
                  rw [evq256] at hP hD
                  replace hP : va_P (dC, dI) cls [(h_nv, .inl (cy_nv, 8000, .inl f189)), (h_nn, .inl (cy_nn, 8000, .inr (.inl f190))), (h_na, .inl (cy_na, 8000, .inl f191)), (h_nb, .inl (cy_nb, 8000, .inl f192)), (h_nc, .inl (cy_nc, 8000, .inl f231)), (h_vrs, .inl (cy_vrs, 32, .inl f194)), (h_let, .inl (cy_let, 256, .inl f195)), (h_tap, .inl (cy_tap, 600, .inl f_tap)), (h_mm, .inr (8, (mo126 v_mm (.ref h_nv) (.ref h_nn) (.ref h_na) (.ref h_nb) (.ref h_nc) (.int z180) (.ref h_vrs) (.ref h_let) (.ref h_tap) (.int x_mm_taped) (.int z237) (.int z238) (.int z239) (.int z240) (.long z241) (.int z186) (.int z187) (.int z188) (.int z5) (.int x_mm_reading))))] H := hP
                  replace hD : va_D A [(h_nv, .inl (cy_nv, 8000, .inl f189)), (h_nn, .inl (cy_nn, 8000, .inr (.inl f190))), (h_na, .inl (cy_na, 8000, .inl f191)), (h_nb, .inl (cy_nb, 8000, .inl f192)), (h_nc, .inl (cy_nc, 8000, .inl f231)), (h_vrs, .inl (cy_vrs, 32, .inl f194)), (h_let, .inl (cy_let, 256, .inl f195)), (h_tap, .inl (cy_tap, 600, .inl f_tap)), (h_mm, .inr (8, (mo126 v_mm (.ref h_nv) (.ref h_nn) (.ref h_na) (.ref h_nb) (.ref h_nc) (.int z180) (.ref h_vrs) (.ref h_let) (.ref h_tap) (.int x_mm_taped) (.int z237) (.int z238) (.int z239) (.int z240) (.long z241) (.int z186) (.int z187) (.int z188) (.int z5) (.int x_mm_reading))))] := hD
                  clear evq256 
                  rcases hq with ⟨rfl, hq⟩ | ⟨rfl, hq⟩ | ⟨rfl, hq⟩
                  · replace hq : (((z186)).toInt = 0) ∧ (tkT (G) ((x_mm_taped)).toInt ((z238)).toInt = 256 ∨ tkT (G) ((x_mm_taped)).toInt ((z238)).toInt = 257) := hq
                    refine lv_if_eq (tgt := 115) hx hb dX11_readsParts_108 (by decide) (fun c9 => absurd c9 (by decide)) (fun _ => ?_)
                    have tt9 : tkT G (x_mm_taped).toInt (tkN G (x_mm_taped).toInt (z182).toInt) = tkT G (x_mm_taped).toInt (z238).toInt := by rw [← tn252]
                    have pv9 : (pPs G (x_mm_taped).toInt dd (x_mm_place).toInt nv vf) = (2, tkN G (x_mm_taped).toInt (z182).toInt, (rh226).2.2.1, (rh226).2.2.2) := lo251.symm.trans (pLo_many (by omega))
                    have pq2581 : ((pPs G (x_mm_taped).toInt dd (x_mm_place).toInt nv vf)).1 = 2 := by rw [pv9]
                    have pq2582 : ((pPs G (x_mm_taped).toInt dd (x_mm_place).toInt nv vf)).2.1 = tkN G (x_mm_taped).toInt (z182).toInt := by rw [pv9]
                    have pq2583 : ((pPs G (x_mm_taped).toInt dd (x_mm_place).toInt nv vf)).2.2.1 = (rh226).2.2.1 := by rw [pv9]
                    have pq2584 : ((pPs G (x_mm_taped).toInt dd (x_mm_place).toInt nv vf)).2.2.2 = (rh226).2.2.2 := by rw [pv9]
                    refine lv_iconst (v := 2) hx hb dX11_readsParts_111 (by decide) ?_
                    refine lv_goto (tgt := 116) hx hb dX11_readsParts_112 (by decide) ?_
                    obtain ⟨vq259, evq259⟩ := mq126_90 v_mm (.ref h_nv) (.ref h_nn) (.ref h_na) (.ref h_nb) (.ref h_nc) (.int z180) (.ref h_vrs) (.ref h_let) (.ref h_tap) (.int x_mm_taped) (.int z237) (.int z239) (.int z240) (.long z241) (.int z5) (.int x_mm_reading)
                    replace hP : va_P (dC, dI) cls [(h_nv, .inl (cy_nv, 8000, .inl f189)), (h_nn, .inl (cy_nn, 8000, .inr (.inl f190))), (h_na, .inl (cy_na, 8000, .inl f191)), (h_nb, .inl (cy_nb, 8000, .inl f192)), (h_nc, .inl (cy_nc, 8000, .inl f231)), (h_vrs, .inl (cy_vrs, 32, .inl f194)), (h_let, .inl (cy_let, 256, .inl f195)), (h_tap, .inl (cy_tap, 600, .inl f_tap)), (h_mm, .inr (8, (mo90 vq259 (.int z238) (.int z186) (.int z187) (.int z188))))] H := by rw [evq259]; exact hP
                    replace hD : va_D A [(h_nv, .inl (cy_nv, 8000, .inl f189)), (h_nn, .inl (cy_nn, 8000, .inr (.inl f190))), (h_na, .inl (cy_na, 8000, .inl f191)), (h_nb, .inl (cy_nb, 8000, .inl f192)), (h_nc, .inl (cy_nc, 8000, .inl f231)), (h_vrs, .inl (cy_vrs, 32, .inl f194)), (h_let, .inl (cy_let, 256, .inl f195)), (h_tap, .inl (cy_tap, 600, .inl f_tap)), (h_mm, .inr (8, (mo90 vq259 (.int z238) (.int z186) (.int z187) (.int z188))))] := by rw [evq259]; exact hD
                    have cst2 : (2 : Int32).toInt = 2 := by decide
                    have hPc := hP.sub (ws' := [(h_mm, .inr (8, (mo90 vq259 (.int z238) (.int z186) (.int z187) (.int z188))))]) [8] rfl
                    have hDc := hD.sub (ws' := [(h_mm, .inr (8, (mo90 vq259 (.int z238) (.int z186) (.int z187) (.int z188))))]) [8] (by decide) rfl
                    have hKc := hK.sub (tys' := []) [] rfl
                    have hFc := va_free (wc := [(h_mm, .inr (8, (mo90 vq259 (.int z238) (.int z186) (.int z187) (.int z188))))]) hD hS hA [8] rfl
                    refine va_callv (va_runV (As := [.int 2]) (rest := []) ⟨hx, hb, hml, hown, hts⟩ (c_X11_faulty l dC dI H.size h_mm vq259 z238 z186 z187 z188 2 (by first | exact k243 | omega) (by first | exact k201 | omega)) (cwV 1 hts (gv hT w_m_X11_111 w_instanceMethod_X11_faulty ws_sel_X11_faulty w_ini_X11 w_code_X11_faulty) rfl rfl rfl (by decide +kernel) ⟨(by dsimp only [headSpec]; omega), (by dsimp only [headSpec]; omega)⟩) ⟨pre_blind, va_recv hK hP (ci := 8) (q0 := 8) rfl rfl, pre_of hPc hKc hDc hN⟩ rfl rfl hl.1 rfl (lv_room (Nat.le_of_ble_eq_true rfl)) dX11_readsParts_116 ⟨(Nat.le_of_ble_eq_true rfl), (Nat.le_of_ble_eq_true rfl)⟩) hS (fun q _ h => hFc q h) hFc (fun u t H locs ht hvm hq hB hz1 hk1 hS9 => ?_)
                    obtain ⟨z261, z262, z263⟩ := u
                    obtain ⟨hP1, hD1⟩ := hB
                    rw [ht] at hP1
                    obtain ⟨hP9, hD9⟩ := va_join (wr := [(h_nv, .inl (cy_nv, 8000, .inl f189)), (h_nn, .inl (cy_nn, 8000, .inr (.inl f190))), (h_na, .inl (cy_na, 8000, .inl f191)), (h_nb, .inl (cy_nb, 8000, .inl f192)), (h_nc, .inl (cy_nc, 8000, .inl f231)), (h_vrs, .inl (cy_vrs, 32, .inl f194)), (h_let, .inl (cy_let, 256, .inl f195)), (h_tap, .inl (cy_tap, 600, .inl f_tap))]) (w1 := [(h_mm, .inr (8, (mo90 vq259 (.int z238) (.int z261) (.int z262) (.int z263))))]) hP hD [8] [0, 1, 2, 3, 4, 5, 6, 7] rfl rfl (by decide) (by decide) hk1 hFc hP1 hD1
                    clear hP hD hS hPc hDc hKc hFc hP1 hD1 hk1 hz1 ht hvm
                    have hP : va_P (dC, dI) cls [(h_nv, .inl (cy_nv, 8000, .inl f189)), (h_nn, .inl (cy_nn, 8000, .inr (.inl f190))), (h_na, .inl (cy_na, 8000, .inl f191)), (h_nb, .inl (cy_nb, 8000, .inl f192)), (h_nc, .inl (cy_nc, 8000, .inl f231)), (h_vrs, .inl (cy_vrs, 32, .inl f194)), (h_let, .inl (cy_let, 256, .inl f195)), (h_tap, .inl (cy_tap, 600, .inl f_tap)), (h_mm, .inr (8, (mo90 vq259 (.int z238) (.int z261) (.int z262) (.int z263))))] H := hP9
                    have hD : va_D A [(h_nv, .inl (cy_nv, 8000, .inl f189)), (h_nn, .inl (cy_nn, 8000, .inr (.inl f190))), (h_na, .inl (cy_na, 8000, .inl f191)), (h_nb, .inl (cy_nb, 8000, .inl f192)), (h_nc, .inl (cy_nc, 8000, .inl f231)), (h_vrs, .inl (cy_vrs, 32, .inl f194)), (h_let, .inl (cy_let, 256, .inl f195)), (h_tap, .inl (cy_tap, 600, .inl f_tap)), (h_mm, .inr (8, (mo90 vq259 (.int z238) (.int z261) (.int z262) (.int z263))))] := hD9
                    have hS := hS9
                    clear hP9 hD9 hS9
                    rw [evq259] at hP hD
                    replace hP : va_P (dC, dI) cls [(h_nv, .inl (cy_nv, 8000, .inl f189)), (h_nn, .inl (cy_nn, 8000, .inr (.inl f190))), (h_na, .inl (cy_na, 8000, .inl f191)), (h_nb, .inl (cy_nb, 8000, .inl f192)), (h_nc, .inl (cy_nc, 8000, .inl f231)), (h_vrs, .inl (cy_vrs, 32, .inl f194)), (h_let, .inl (cy_let, 256, .inl f195)), (h_tap, .inl (cy_tap, 600, .inl f_tap)), (h_mm, .inr (8, (mo126 v_mm (.ref h_nv) (.ref h_nn) (.ref h_na) (.ref h_nb) (.ref h_nc) (.int z180) (.ref h_vrs) (.ref h_let) (.ref h_tap) (.int x_mm_taped) (.int z237) (.int z238) (.int z239) (.int z240) (.long z241) (.int z261) (.int z262) (.int z263) (.int z5) (.int x_mm_reading))))] H := hP
                    replace hD : va_D A [(h_nv, .inl (cy_nv, 8000, .inl f189)), (h_nn, .inl (cy_nn, 8000, .inr (.inl f190))), (h_na, .inl (cy_na, 8000, .inl f191)), (h_nb, .inl (cy_nb, 8000, .inl f192)), (h_nc, .inl (cy_nc, 8000, .inl f231)), (h_vrs, .inl (cy_vrs, 32, .inl f194)), (h_let, .inl (cy_let, 256, .inl f195)), (h_tap, .inl (cy_tap, 600, .inl f_tap)), (h_mm, .inr (8, (mo126 v_mm (.ref h_nv) (.ref h_nn) (.ref h_na) (.ref h_nb) (.ref h_nc) (.int z180) (.ref h_vrs) (.ref h_let) (.ref h_tap) (.int x_mm_taped) (.int z237) (.int z238) (.int z239) (.int z240) (.long z241) (.int z261) (.int z262) (.int z263) (.int z5) (.int x_mm_reading))))] := hD
                    clear evq259 
                    obtain ⟨k264, k265, k266⟩ := hq
                    replace k264 : 0 ≤ ((z261)).toInt ∧ ((z261)).toInt ≤ 1 := k264
                    replace k265 : ((z261)).toInt = 1 := k265
                    replace k266 : (((z186)).toInt = 1 ∧ ((z262)).toInt = ((z187)).toInt ∧ ((z263)).toInt = ((z188)).toInt) ∨ (((z186)).toInt = 0 ∧ ((z262)).toInt = ((2 : Int32)).toInt ∧ ((z263)).toInt = ((z238)).toInt) := k266
                    refine lv_aload_n hx hb dX11_readsParts_119 rfl (lv_at hl 0 rfl) ?_
                    refine lv_bipush (v := 41) hx hb dX11_readsParts_120 (by decide) ?_
                    obtain ⟨vq267, evq267⟩ := mq126_92 v_mm (.ref h_nv) (.ref h_nn) (.ref h_na) (.ref h_nb) (.ref h_nc) (.int z180) (.ref h_vrs) (.ref h_let) (.int z262) (.int z263) (.int z5) (.int x_mm_reading)
                    replace hP : va_P (dC, dI) cls [(h_nv, .inl (cy_nv, 8000, .inl f189)), (h_nn, .inl (cy_nn, 8000, .inr (.inl f190))), (h_na, .inl (cy_na, 8000, .inl f191)), (h_nb, .inl (cy_nb, 8000, .inl f192)), (h_nc, .inl (cy_nc, 8000, .inl f231)), (h_vrs, .inl (cy_vrs, 32, .inl f194)), (h_let, .inl (cy_let, 256, .inl f195)), (h_tap, .inl (cy_tap, 600, .inl f_tap)), (h_mm, .inr (8, (mo92 vq267 (.ref h_tap) (.int x_mm_taped) (.int z237) (.int z238) (.int z239) (.int z240) (.long z241) (.int z261))))] H := by rw [evq267]; exact hP
                    replace hD : va_D A [(h_nv, .inl (cy_nv, 8000, .inl f189)), (h_nn, .inl (cy_nn, 8000, .inr (.inl f190))), (h_na, .inl (cy_na, 8000, .inl f191)), (h_nb, .inl (cy_nb, 8000, .inl f192)), (h_nc, .inl (cy_nc, 8000, .inl f231)), (h_vrs, .inl (cy_vrs, 32, .inl f194)), (h_let, .inl (cy_let, 256, .inl f195)), (h_tap, .inl (cy_tap, 600, .inl f_tap)), (h_mm, .inr (8, (mo92 vq267 (.ref h_tap) (.int x_mm_taped) (.int z237) (.int z238) (.int z239) (.int z240) (.long z241) (.int z261))))] := by rw [evq267]; exact hD
                    have cst41 : (41 : Int32).toInt = 41 := by decide
                    have hPc := hP.sub (ws' := [(h_mm, .inr (8, (mo92 vq267 (.ref h_tap) (.int x_mm_taped) (.int z237) (.int z238) (.int z239) (.int z240) (.long z241) (.int z261)))), (h_tap, .inl (cy_tap, 600, .inl f_tap))]) [8, 7] rfl
                    have hDc := hD.sub (ws' := [(h_mm, .inr (8, (mo92 vq267 (.ref h_tap) (.int x_mm_taped) (.int z237) (.int z238) (.int z239) (.int z240) (.long z241) (.int z261)))), (h_tap, .inl (cy_tap, 600, .inl f_tap))]) [8, 7] (by decide) rfl
                    have hKc := hK.sub (tys' := [(cy_tap, .byte)]) [0] rfl
                    have hFc := va_free (wc := [(h_mm, .inr (8, (mo92 vq267 (.ref h_tap) (.int x_mm_taped) (.int z237) (.int z238) (.int z239) (.int z240) (.long z241) (.int z261)))), (h_tap, .inl (cy_tap, 600, .inl f_tap))]) hD hS hA [8, 7] rfl
                    refine va_calli (va_runV (As := [.int 41]) (rest := []) ⟨hx, hb, hml, hown, hts⟩ (c_X11_passes l dC dI H.size h_mm h_tap vq267 x_mm_taped z237 z238 z239 z240 z241 z261 cy_tap f_tap 41 G (by first | exact hx_mm_taped | omega) (by first | exact k242 | omega) (by first | exact k243 | omega) (by first | exact k244 | omega) (by first | exact k264 | omega) (by first | exact k245 | omega) (by omega) (by omega) (by first | exact k246 | omega) (by first | exact k247 | omega) (by first | exact k248 | omega) (by first | exact k249 | omega) hn_tapq k250) (cwV 1 hts (gv hT w_m_X11_136 w_instanceMethod_X11_passes ws_sel_X11_passes w_ini_X11 w_code_X11_passes) rfl rfl rfl (by decide +kernel) ⟨(by dsimp only [headSpec]; omega), (by dsimp only [headSpec]; omega)⟩) ⟨pre_blind, va_recv hK hP (ci := 8) (q0 := 8) rfl rfl, pre_of hPc hKc hDc hN⟩ rfl rfl hl.1 rfl (lv_room (Nat.le_of_ble_eq_true rfl)) dX11_readsParts_122 ⟨(Nat.le_of_ble_eq_true rfl), (Nat.le_of_ble_eq_true rfl)⟩) hS (fun q _ h => hFc q h) hFc (fun r268 u t H locs ht hvm hq hB hz1 hk1 hS9 => ?_)
                    obtain ⟨z269, z270, z271, z272, z273⟩ := u
                    obtain ⟨hP1, hD1⟩ := hB
                    rw [ht] at hP1
                    obtain ⟨hP9, hD9⟩ := va_join (wr := [(h_nv, .inl (cy_nv, 8000, .inl f189)), (h_nn, .inl (cy_nn, 8000, .inr (.inl f190))), (h_na, .inl (cy_na, 8000, .inl f191)), (h_nb, .inl (cy_nb, 8000, .inl f192)), (h_nc, .inl (cy_nc, 8000, .inl f231)), (h_vrs, .inl (cy_vrs, 32, .inl f194)), (h_let, .inl (cy_let, 256, .inl f195))]) (w1 := [(h_mm, .inr (8, (mo92 vq267 (.ref h_tap) (.int x_mm_taped) (.int z269) (.int z270) (.int z271) (.int z272) (.long z273) (.int z261)))), (h_tap, .inl (cy_tap, 600, .inl f_tap))]) hP hD [8, 7] [0, 1, 2, 3, 4, 5, 6] rfl rfl (by decide) (by decide) hk1 hFc hP1 hD1
                    clear hP hD hS hPc hDc hKc hFc hP1 hD1 hk1 hz1 ht hvm
                    have hP : va_P (dC, dI) cls [(h_nv, .inl (cy_nv, 8000, .inl f189)), (h_nn, .inl (cy_nn, 8000, .inr (.inl f190))), (h_na, .inl (cy_na, 8000, .inl f191)), (h_nb, .inl (cy_nb, 8000, .inl f192)), (h_nc, .inl (cy_nc, 8000, .inl f231)), (h_vrs, .inl (cy_vrs, 32, .inl f194)), (h_let, .inl (cy_let, 256, .inl f195)), (h_mm, .inr (8, (mo92 vq267 (.ref h_tap) (.int x_mm_taped) (.int z269) (.int z270) (.int z271) (.int z272) (.long z273) (.int z261)))), (h_tap, .inl (cy_tap, 600, .inl f_tap))] H := hP9
                    have hD : va_D A [(h_nv, .inl (cy_nv, 8000, .inl f189)), (h_nn, .inl (cy_nn, 8000, .inr (.inl f190))), (h_na, .inl (cy_na, 8000, .inl f191)), (h_nb, .inl (cy_nb, 8000, .inl f192)), (h_nc, .inl (cy_nc, 8000, .inl f231)), (h_vrs, .inl (cy_vrs, 32, .inl f194)), (h_let, .inl (cy_let, 256, .inl f195)), (h_mm, .inr (8, (mo92 vq267 (.ref h_tap) (.int x_mm_taped) (.int z269) (.int z270) (.int z271) (.int z272) (.long z273) (.int z261)))), (h_tap, .inl (cy_tap, 600, .inl f_tap))] := hD9
                    have hS := hS9
                    clear hP9 hD9 hS9
                    rw [evq267] at hP hD
                    replace hP : va_P (dC, dI) cls [(h_nv, .inl (cy_nv, 8000, .inl f189)), (h_nn, .inl (cy_nn, 8000, .inr (.inl f190))), (h_na, .inl (cy_na, 8000, .inl f191)), (h_nb, .inl (cy_nb, 8000, .inl f192)), (h_nc, .inl (cy_nc, 8000, .inl f231)), (h_vrs, .inl (cy_vrs, 32, .inl f194)), (h_let, .inl (cy_let, 256, .inl f195)), (h_mm, .inr (8, (mo126 v_mm (.ref h_nv) (.ref h_nn) (.ref h_na) (.ref h_nb) (.ref h_nc) (.int z180) (.ref h_vrs) (.ref h_let) (.ref h_tap) (.int x_mm_taped) (.int z269) (.int z270) (.int z271) (.int z272) (.long z273) (.int z261) (.int z262) (.int z263) (.int z5) (.int x_mm_reading)))), (h_tap, .inl (cy_tap, 600, .inl f_tap))] H := hP
                    replace hD : va_D A [(h_nv, .inl (cy_nv, 8000, .inl f189)), (h_nn, .inl (cy_nn, 8000, .inr (.inl f190))), (h_na, .inl (cy_na, 8000, .inl f191)), (h_nb, .inl (cy_nb, 8000, .inl f192)), (h_nc, .inl (cy_nc, 8000, .inl f231)), (h_vrs, .inl (cy_vrs, 32, .inl f194)), (h_let, .inl (cy_let, 256, .inl f195)), (h_mm, .inr (8, (mo126 v_mm (.ref h_nv) (.ref h_nn) (.ref h_na) (.ref h_nb) (.ref h_nc) (.int z180) (.ref h_vrs) (.ref h_let) (.ref h_tap) (.int x_mm_taped) (.int z269) (.int z270) (.int z271) (.int z272) (.long z273) (.int z261) (.int z262) (.int z263) (.int z5) (.int x_mm_reading)))), (h_tap, .inl (cy_tap, 600, .inl f_tap))] := hD
                    clear evq267 
                    obtain ⟨k274, k275, k276, k277, k278, k279, k280, k281, k282, hq⟩ := hq
                    replace k274 : 0 ≤ ((z269)).toInt ∧ ((z269)).toInt ≤ 600 := k274
                    replace k275 : 0 ≤ ((z270)).toInt ∧ ((z270)).toInt ≤ 600 := k275
                    replace k276 : 0 ≤ ((z271)).toInt ∧ ((z271)).toInt ≤ 4 := k276
                    replace k277 : ((z270)).toInt ≤ ((z269)).toInt := k277
                    replace k278 : ((z271)).toInt = kd (tkT (G) ((x_mm_taped)).toInt ((z270)).toInt) := k278
                    replace k279 : ((z271)).toInt = 0 ∨ (((z269)).toInt = tkX (G) ((x_mm_taped)).toInt ((z270)).toInt ∧ ((z272)).toInt = (G) ((z270)).toInt ∧ ((z270)).toInt < ((x_mm_taped)).toInt ∧ ((z270)).toInt + 1 ≤ ((z269)).toInt) := k279
                    replace k280 : ((z269)).toInt ≤ ((x_mm_taped)).toInt := k280
                    replace k281 : ((z270)).toInt ≤ ((x_mm_taped)).toInt := k281
                    replace k282 : NMK ((z271)).toInt ((z273)).toInt (NMI 27 (G) ((x_mm_taped)).toInt ((z270)).toInt) := k282
                    rcases hq with ⟨rfl, hq⟩ | ⟨rfl, hq⟩ | ⟨rfl, hq⟩
                    · replace hq : (((z261)).toInt = 0) ∧ (tkT (G) ((x_mm_taped)).toInt ((z238)).toInt = ((41 : Int32)).toInt) ∧ (((z270)).toInt = tkN (G) ((x_mm_taped)).toInt ((z238)).toInt) ∧ (((z237)).toInt ≤ ((z270)).toInt) ∧ (((z238)).toInt + 1 ≤ ((z270)).toInt) := hq
                      refine lv_if_ne (tgt := 133) hx hb dX11_readsParts_125 (by decide) (fun _ => ?_) (fun c9 => absurd c9 (by decide))
                      refine lv_aload_n hx hb dX11_readsParts_133 rfl (lv_at hl 0 rfl) ?_
                      refine lv_aload_n hx hb dX11_readsParts_134 rfl (lv_at hl 0 rfl) ?_
                      refine va_get (D := (dC, dI)) (ci := 8) (v := .int z5) (C := RX11) (T := TX11) (N := 71) hx hb hw iwX11 hown hK hP 7 rfl rfl 23 (by decide) (hw _ w_f_X11_130) (fun _ h9 => h9) rfl dX11_readsParts_135 ?_
                      refine lv_iconst (v := 1) hx hb dX11_readsParts_138 (by decide) ?_
                      refine lv_isub hx hb dX11_readsParts_139 ?_
                      refine lv_topi (fun z283 ez283 => ?_)
                      have tz283 : (z283).toInt = (z5).toInt - 1 := by rw [ez283]; exact i_sub rfl (by decide) (by omega)
                      refine va_put (D := (dC, dI)) (ci := 8) (v := .int z283) (ty := tyX11 23) (C := RX11) (T := TX11) (N := 71) hx hb hw iwX11 tyX11 tyX11_ok nmX11 hown hK hP hD hS 7 rfl rfl 23 (by decide) (hw _ w_f_X11_130) (fun _ h9 => h9) rfl (tyX11_ok 23 (by decide)) rfl rfl (Nat.le_of_ble_eq_true rfl) dX11_readsParts_140 (fun H locs hP9 hD9 hS9 => ?_)
                      clear hP hD hS
                      have hP : va_P (dC, dI) cls [(h_nv, .inl (cy_nv, 8000, .inl f189)), (h_nn, .inl (cy_nn, 8000, .inr (.inl f190))), (h_na, .inl (cy_na, 8000, .inl f191)), (h_nb, .inl (cy_nb, 8000, .inl f192)), (h_nc, .inl (cy_nc, 8000, .inl f231)), (h_vrs, .inl (cy_vrs, 32, .inl f194)), (h_let, .inl (cy_let, 256, .inl f195)), (h_mm, .inr (8, (mo126 v_mm (.ref h_nv) (.ref h_nn) (.ref h_na) (.ref h_nb) (.ref h_nc) (.int z180) (.ref h_vrs) (.ref h_let) (.ref h_tap) (.int x_mm_taped) (.int z269) (.int z270) (.int z271) (.int z272) (.long z273) (.int z261) (.int z262) (.int z263) (.int z283) (.int x_mm_reading)))), (h_tap, .inl (cy_tap, 600, .inl f_tap))] H := hP9
                      have hD : va_D A [(h_nv, .inl (cy_nv, 8000, .inl f189)), (h_nn, .inl (cy_nn, 8000, .inr (.inl f190))), (h_na, .inl (cy_na, 8000, .inl f191)), (h_nb, .inl (cy_nb, 8000, .inl f192)), (h_nc, .inl (cy_nc, 8000, .inl f231)), (h_vrs, .inl (cy_vrs, 32, .inl f194)), (h_let, .inl (cy_let, 256, .inl f195)), (h_mm, .inr (8, (mo126 v_mm (.ref h_nv) (.ref h_nn) (.ref h_na) (.ref h_nb) (.ref h_nc) (.int z180) (.ref h_vrs) (.ref h_let) (.ref h_tap) (.int x_mm_taped) (.int z269) (.int z270) (.int z271) (.int z272) (.long z273) (.int z261) (.int z262) (.int z263) (.int z283) (.int x_mm_reading)))), (h_tap, .inl (cy_tap, 600, .inl f_tap))] := hD9
                      have hS := hS9
                      clear hP9 hD9 hS9
                      have oz9 : x_mm_opened = z283 := Int32.toInt_inj.mp (by omega)
                      subst oz9
                      replace hP : va_P (dC, dI) cls [(h_mm, .inr (8, (mo126 v_mm (.ref h_nv) (.ref h_nn) (.ref h_na) (.ref h_nb) (.ref h_nc) (.int z180) (.ref h_vrs) (.ref h_let) (.ref h_tap) (.int x_mm_taped) (.int z269) (.int z270) (.int z271) (.int z272) (.long z273) (.int z261) (.int z262) (.int z263) (.int x_mm_opened) (.int x_mm_reading)))), (h_tap, .inl (cy_tap, 600, .inl f_tap)), (h_nv, .inl (cy_nv, 8000, .inl f189)), (h_nn, .inl (cy_nn, 8000, .inr (.inl f190))), (h_na, .inl (cy_na, 8000, .inl f191)), (h_nb, .inl (cy_nb, 8000, .inl f192)), (h_nc, .inl (cy_nc, 8000, .inl f231)), (h_vrs, .inl (cy_vrs, 32, .inl f194)), (h_let, .inl (cy_let, 256, .inl f195))] H := hP.sub [7, 8, 0, 1, 2, 3, 4, 5, 6] rfl
                      replace hD : va_D A [(h_mm, .inr (8, (mo126 v_mm (.ref h_nv) (.ref h_nn) (.ref h_na) (.ref h_nb) (.ref h_nc) (.int z180) (.ref h_vrs) (.ref h_let) (.ref h_tap) (.int x_mm_taped) (.int z269) (.int z270) (.int z271) (.int z272) (.long z273) (.int z261) (.int z262) (.int z263) (.int x_mm_opened) (.int x_mm_reading)))), (h_tap, .inl (cy_tap, 600, .inl f_tap)), (h_nv, .inl (cy_nv, 8000, .inl f189)), (h_nn, .inl (cy_nn, 8000, .inr (.inl f190))), (h_na, .inl (cy_na, 8000, .inl f191)), (h_nb, .inl (cy_nb, 8000, .inl f192)), (h_nc, .inl (cy_nc, 8000, .inl f231)), (h_vrs, .inl (cy_vrs, 32, .inl f194)), (h_let, .inl (cy_let, 256, .inl f195))] := hD.sub [7, 8, 0, 1, 2, 3, 4, 5, 6] (by decide) rfl
                      refine W.widen (k := 0) (n := 0) (Nat.le_of_ble_eq_true rfl) (Nat.le_of_ble_eq_true rfl) ?_
                      have w284 : 0 ≤ ((z180)).toInt ∧ ((z180)).toInt ≤ 1200 := by first | exact k197 | omega
                      have w285 : 0 ≤ ((z269)).toInt ∧ ((z269)).toInt ≤ 600 := by first | exact k274 | omega
                      have w286 : 0 ≤ ((z270)).toInt ∧ ((z270)).toInt ≤ 600 := by first | exact k275 | omega
                      have w287 : 0 ≤ ((z271)).toInt ∧ ((z271)).toInt ≤ 4 := by first | exact k276 | omega
                      have w288 : 0 ≤ ((z261)).toInt ∧ ((z261)).toInt ≤ 1 := by first | exact k264 | omega
                      have w289 : ((z270)).toInt ≤ ((z269)).toInt := by first | exact k277 | omega
                      have w290 : ((z261)).toInt = 1 ∨ ((z180)).toInt ≤ lo + ((z270)).toInt := by omega
                      have w291 : (x_mm_nodes).toInt ≤ ((z180)).toInt := by omega
                      have w292 : (x_mm_place).toInt ≤ ((z270)).toInt := by omega
                      have w293 : (x_mm_isFaulty).toInt ≤ ((z261)).toInt := by omega
                      have w294 : (((z261)).toInt = 0 ∧ ((pPs G (x_mm_taped).toInt dd (x_mm_place).toInt nv vf)).1 = 0 ∧ ((z262)).toInt = (x_mm_fault).toInt ∧ ((z263)).toInt = (x_mm_faultPlace).toInt) ∨ (((z261)).toInt = 1 ∧ ¬ ((pPs G (x_mm_taped).toInt dd (x_mm_place).toInt nv vf)).1 = 0 ∧ ((z262)).toInt = ((pPs G (x_mm_taped).toInt dd (x_mm_place).toInt nv vf)).1 ∧ ((z263)).toInt = ((pPs G (x_mm_taped).toInt dd (x_mm_place).toInt nv vf)).2.1) := by omega
                      have w295 : ((z270)).toInt = ((pPs G (x_mm_taped).toInt dd (x_mm_place).toInt nv vf)).2.1 := by omega
                      have w296 : 0 ≤ ((pPs G (x_mm_taped).toInt dd (x_mm_place).toInt nv vf)).2.2.1 ∧ ((pPs G (x_mm_taped).toInt dd (x_mm_place).toInt nv vf)).2.2.1 ≤ 8 := by omega
                      have w297 : ((z271)).toInt = kd (tkT G (x_mm_taped).toInt ((z270)).toInt) := by first | exact k278 | omega
                      have w298 : ((z271)).toInt = 0 ∨ (((z269)).toInt = tkX G (x_mm_taped).toInt ((z270)).toInt ∧ ((z272)).toInt = G ((z270)).toInt ∧ ((z270)).toInt < (x_mm_taped).toInt ∧ ((z270)).toInt + 1 ≤ ((z269)).toInt) := by first | exact k279 | omega
                      have w299 : ((z269)).toInt ≤ (x_mm_taped).toInt := by first | exact k280 | omega
                      have w300 : ((z270)).toInt ≤ (x_mm_taped).toInt := by first | exact k281 | omega
                      have w301 : EQ0 lo za zb zc zv (f191) (f192) (f231) (f189) := nd233
                      have w302 : ND lo ((z180)).toInt (gh196) (f191) (f192) (f231) := (nd_cast nd232 (by omega))
                      have w303 : ∀ y : Nat, (y : Int) < (x_mm_nodes).toInt → (gh196) y = hh y := (fun y hy => (k219 y (by omega)).trans ((k142 y (by omega)).trans ((k65 y (by omega)).trans (rfl))))
                      have w304 : VRF (x_mm_reading).toInt f_vrs (f194) := vr229
                      have w305 : ((f194) (Int32.toNatClampNeg x_mm_reading)).toInt = ((pPs G (x_mm_taped).toInt dd (x_mm_place).toInt nv vf)).2.2.1 := (k221.trans pq2583.symm)
                      have w306 : VFM ((pPs G (x_mm_taped).toInt dd (x_mm_place).toInt nv vf)).2.2.1 ((pPs G (x_mm_taped).toInt dd (x_mm_place).toInt nv vf)).2.2.2 (f195) (x_mm_reading).toInt := (by rw [pq2583, pq2584]; exact k222)
                      have w307 : NMK ((z271)).toInt ((z273)).toInt (NMI 27 G (x_mm_taped).toInt ((z270)).toInt) := k282
                      have w308 : IFZ ((z261)).toInt (∃ L B : Nat, (L : Int) = (x_mm_nodes).toInt ∧ (B : Int) = ((z180)).toInt ∧ NMX G (x_mm_taped).toInt (RVW (f189) (f190) (f191) (f192) (f231)) (SPX G (x_mm_taped).toInt 27 (RVW (f189) (f190) (f191) (f192) (f231)) ((pPs G (x_mm_taped).toInt dd (x_mm_place).toInt nv vf)).2.2.1 ((pPs G (x_mm_taped).toInt dd (x_mm_place).toInt nv vf)).2.2.2 k0 L B dd) (Int32.toNatClampNeg p1) (x_mm_place).toInt ((z270)).toInt) := (ifz_no (by omega))
                      have w309 : AGN (x_mm_nodes).toInt (p1).toInt f_nv (f189) f_nn (f190) f_na (f191) f_nb (f192) f_nc (f231) := an234
                      exact W.vret hx hb hr (fun t ht hW => ⟨⟨(z180, z269, z270, z271, z272, z273, z261, z262, z263, f189, f190, f191, f192, f231, f194, f195, gh196), rfl, ⟨w284, w285, w286, w287, w288, hf189, hf191, hf192, hf231, hf194, w289, w290, w291, w292, w293, w294, w295, w296, w297, w298, w299, w300, w301, w302, w303, w304, w305, w306, w307, w308, w309⟩, by rw [ht]; exact hP, hD⟩, hS.F ht⟩) hS.2.2 dX11_readsParts_143
                    · replace hq : (((z270)).toInt = ((z238)).toInt) ∧ (((z269)).toInt = ((z237)).toInt) ∧ (((z271)).toInt = ((z239)).toInt) ∧ (((z261)).toInt = 1) := hq
                      refine lv_if_ne (tgt := 133) hx hb dX11_readsParts_125 (by decide) (fun c9 => absurd c9 (by decide)) (fun _ => ?_)
                      refine lv_aload_n hx hb dX11_readsParts_128 rfl (lv_at hl 0 rfl) ?_
                      refine lv_iconst (v := 1) hx hb dX11_readsParts_129 (by decide) ?_
                      obtain ⟨vq310, evq310⟩ := mq126_90 v_mm (.ref h_nv) (.ref h_nn) (.ref h_na) (.ref h_nb) (.ref h_nc) (.int z180) (.ref h_vrs) (.ref h_let) (.ref h_tap) (.int x_mm_taped) (.int z269) (.int z271) (.int z272) (.long z273) (.int z5) (.int x_mm_reading)
                      replace hP : va_P (dC, dI) cls [(h_nv, .inl (cy_nv, 8000, .inl f189)), (h_nn, .inl (cy_nn, 8000, .inr (.inl f190))), (h_na, .inl (cy_na, 8000, .inl f191)), (h_nb, .inl (cy_nb, 8000, .inl f192)), (h_nc, .inl (cy_nc, 8000, .inl f231)), (h_vrs, .inl (cy_vrs, 32, .inl f194)), (h_let, .inl (cy_let, 256, .inl f195)), (h_mm, .inr (8, (mo90 vq310 (.int z270) (.int z261) (.int z262) (.int z263)))), (h_tap, .inl (cy_tap, 600, .inl f_tap))] H := by rw [evq310]; exact hP
                      replace hD : va_D A [(h_nv, .inl (cy_nv, 8000, .inl f189)), (h_nn, .inl (cy_nn, 8000, .inr (.inl f190))), (h_na, .inl (cy_na, 8000, .inl f191)), (h_nb, .inl (cy_nb, 8000, .inl f192)), (h_nc, .inl (cy_nc, 8000, .inl f231)), (h_vrs, .inl (cy_vrs, 32, .inl f194)), (h_let, .inl (cy_let, 256, .inl f195)), (h_mm, .inr (8, (mo90 vq310 (.int z270) (.int z261) (.int z262) (.int z263)))), (h_tap, .inl (cy_tap, 600, .inl f_tap))] := by rw [evq310]; exact hD
                      have cst1 : (1 : Int32).toInt = 1 := by decide
                      have hPc := hP.sub (ws' := [(h_mm, .inr (8, (mo90 vq310 (.int z270) (.int z261) (.int z262) (.int z263))))]) [7] rfl
                      have hDc := hD.sub (ws' := [(h_mm, .inr (8, (mo90 vq310 (.int z270) (.int z261) (.int z262) (.int z263))))]) [7] (by decide) rfl
                      have hKc := hK.sub (tys' := []) [] rfl
                      have hFc := va_free (wc := [(h_mm, .inr (8, (mo90 vq310 (.int z270) (.int z261) (.int z262) (.int z263))))]) hD hS hA [7] rfl
                      refine va_callv (va_runV (As := [.int 1]) (rest := []) ⟨hx, hb, hml, hown, hts⟩ (c_X11_faulty l dC dI H.size h_mm vq310 z270 z261 z262 z263 1 (by first | exact k275 | omega) (by first | exact k264 | omega)) (cwV 1 hts (gv hT w_m_X11_111 w_instanceMethod_X11_faulty ws_sel_X11_faulty w_ini_X11 w_code_X11_faulty) rfl rfl rfl (by decide +kernel) ⟨(by dsimp only [headSpec]; omega), (by dsimp only [headSpec]; omega)⟩) ⟨pre_blind, va_recv hK hP (ci := 8) (q0 := 7) rfl rfl, pre_of hPc hKc hDc hN⟩ rfl rfl hl.1 rfl (lv_room (Nat.le_of_ble_eq_true rfl)) dX11_readsParts_130 ⟨(Nat.le_of_ble_eq_true rfl), (Nat.le_of_ble_eq_true rfl)⟩) hS (fun q _ h => hFc q h) hFc (fun u t H locs ht hvm hq hB hz1 hk1 hS9 => ?_)
                      obtain ⟨z312, z313, z314⟩ := u
                      obtain ⟨hP1, hD1⟩ := hB
                      rw [ht] at hP1
                      obtain ⟨hP9, hD9⟩ := va_join (wr := [(h_nv, .inl (cy_nv, 8000, .inl f189)), (h_nn, .inl (cy_nn, 8000, .inr (.inl f190))), (h_na, .inl (cy_na, 8000, .inl f191)), (h_nb, .inl (cy_nb, 8000, .inl f192)), (h_nc, .inl (cy_nc, 8000, .inl f231)), (h_vrs, .inl (cy_vrs, 32, .inl f194)), (h_let, .inl (cy_let, 256, .inl f195)), (h_tap, .inl (cy_tap, 600, .inl f_tap))]) (w1 := [(h_mm, .inr (8, (mo90 vq310 (.int z270) (.int z312) (.int z313) (.int z314))))]) hP hD [7] [0, 1, 2, 3, 4, 5, 6, 8] rfl rfl (by decide) (by decide) hk1 hFc hP1 hD1
                      clear hP hD hS hPc hDc hKc hFc hP1 hD1 hk1 hz1 ht hvm
                      have hP : va_P (dC, dI) cls [(h_nv, .inl (cy_nv, 8000, .inl f189)), (h_nn, .inl (cy_nn, 8000, .inr (.inl f190))), (h_na, .inl (cy_na, 8000, .inl f191)), (h_nb, .inl (cy_nb, 8000, .inl f192)), (h_nc, .inl (cy_nc, 8000, .inl f231)), (h_vrs, .inl (cy_vrs, 32, .inl f194)), (h_let, .inl (cy_let, 256, .inl f195)), (h_tap, .inl (cy_tap, 600, .inl f_tap)), (h_mm, .inr (8, (mo90 vq310 (.int z270) (.int z312) (.int z313) (.int z314))))] H := hP9
                      have hD : va_D A [(h_nv, .inl (cy_nv, 8000, .inl f189)), (h_nn, .inl (cy_nn, 8000, .inr (.inl f190))), (h_na, .inl (cy_na, 8000, .inl f191)), (h_nb, .inl (cy_nb, 8000, .inl f192)), (h_nc, .inl (cy_nc, 8000, .inl f231)), (h_vrs, .inl (cy_vrs, 32, .inl f194)), (h_let, .inl (cy_let, 256, .inl f195)), (h_tap, .inl (cy_tap, 600, .inl f_tap)), (h_mm, .inr (8, (mo90 vq310 (.int z270) (.int z312) (.int z313) (.int z314))))] := hD9
                      have hS := hS9
                      clear hP9 hD9 hS9
                      rw [evq310] at hP hD
                      replace hP : va_P (dC, dI) cls [(h_nv, .inl (cy_nv, 8000, .inl f189)), (h_nn, .inl (cy_nn, 8000, .inr (.inl f190))), (h_na, .inl (cy_na, 8000, .inl f191)), (h_nb, .inl (cy_nb, 8000, .inl f192)), (h_nc, .inl (cy_nc, 8000, .inl f231)), (h_vrs, .inl (cy_vrs, 32, .inl f194)), (h_let, .inl (cy_let, 256, .inl f195)), (h_tap, .inl (cy_tap, 600, .inl f_tap)), (h_mm, .inr (8, (mo126 v_mm (.ref h_nv) (.ref h_nn) (.ref h_na) (.ref h_nb) (.ref h_nc) (.int z180) (.ref h_vrs) (.ref h_let) (.ref h_tap) (.int x_mm_taped) (.int z269) (.int z270) (.int z271) (.int z272) (.long z273) (.int z312) (.int z313) (.int z314) (.int z5) (.int x_mm_reading))))] H := hP
                      replace hD : va_D A [(h_nv, .inl (cy_nv, 8000, .inl f189)), (h_nn, .inl (cy_nn, 8000, .inr (.inl f190))), (h_na, .inl (cy_na, 8000, .inl f191)), (h_nb, .inl (cy_nb, 8000, .inl f192)), (h_nc, .inl (cy_nc, 8000, .inl f231)), (h_vrs, .inl (cy_vrs, 32, .inl f194)), (h_let, .inl (cy_let, 256, .inl f195)), (h_tap, .inl (cy_tap, 600, .inl f_tap)), (h_mm, .inr (8, (mo126 v_mm (.ref h_nv) (.ref h_nn) (.ref h_na) (.ref h_nb) (.ref h_nc) (.int z180) (.ref h_vrs) (.ref h_let) (.ref h_tap) (.int x_mm_taped) (.int z269) (.int z270) (.int z271) (.int z272) (.long z273) (.int z312) (.int z313) (.int z314) (.int z5) (.int x_mm_reading))))] := hD
                      clear evq310 
                      obtain ⟨k315, k316, k317⟩ := hq
                      replace k315 : 0 ≤ ((z312)).toInt ∧ ((z312)).toInt ≤ 1 := k315
                      replace k316 : ((z312)).toInt = 1 := k316
                      replace k317 : (((z261)).toInt = 1 ∧ ((z313)).toInt = ((z262)).toInt ∧ ((z314)).toInt = ((z263)).toInt) ∨ (((z261)).toInt = 0 ∧ ((z313)).toInt = ((1 : Int32)).toInt ∧ ((z314)).toInt = ((z270)).toInt) := k317
                      refine lv_aload_n hx hb dX11_readsParts_133 rfl (lv_at hl 0 rfl) ?_
                      refine lv_aload_n hx hb dX11_readsParts_134 rfl (lv_at hl 0 rfl) ?_
                      refine va_get (D := (dC, dI)) (ci := 8) (v := .int z5) (C := RX11) (T := TX11) (N := 71) hx hb hw iwX11 hown hK hP 8 rfl rfl 23 (by decide) (hw _ w_f_X11_130) (fun _ h9 => h9) rfl dX11_readsParts_135 ?_
                      refine lv_iconst (v := 1) hx hb dX11_readsParts_138 (by decide) ?_
                      refine lv_isub hx hb dX11_readsParts_139 ?_
                      refine lv_topi (fun z318 ez318 => ?_)
                      have tz318 : (z318).toInt = (z5).toInt - 1 := by rw [ez318]; exact i_sub rfl (by decide) (by omega)
                      refine va_put (D := (dC, dI)) (ci := 8) (v := .int z318) (ty := tyX11 23) (C := RX11) (T := TX11) (N := 71) hx hb hw iwX11 tyX11 tyX11_ok nmX11 hown hK hP hD hS 8 rfl rfl 23 (by decide) (hw _ w_f_X11_130) (fun _ h9 => h9) rfl (tyX11_ok 23 (by decide)) rfl rfl (Nat.le_of_ble_eq_true rfl) dX11_readsParts_140 (fun H locs hP9 hD9 hS9 => ?_)
                      clear hP hD hS
                      have hP : va_P (dC, dI) cls [(h_nv, .inl (cy_nv, 8000, .inl f189)), (h_nn, .inl (cy_nn, 8000, .inr (.inl f190))), (h_na, .inl (cy_na, 8000, .inl f191)), (h_nb, .inl (cy_nb, 8000, .inl f192)), (h_nc, .inl (cy_nc, 8000, .inl f231)), (h_vrs, .inl (cy_vrs, 32, .inl f194)), (h_let, .inl (cy_let, 256, .inl f195)), (h_tap, .inl (cy_tap, 600, .inl f_tap)), (h_mm, .inr (8, (mo126 v_mm (.ref h_nv) (.ref h_nn) (.ref h_na) (.ref h_nb) (.ref h_nc) (.int z180) (.ref h_vrs) (.ref h_let) (.ref h_tap) (.int x_mm_taped) (.int z269) (.int z270) (.int z271) (.int z272) (.long z273) (.int z312) (.int z313) (.int z314) (.int z318) (.int x_mm_reading))))] H := hP9
                      have hD : va_D A [(h_nv, .inl (cy_nv, 8000, .inl f189)), (h_nn, .inl (cy_nn, 8000, .inr (.inl f190))), (h_na, .inl (cy_na, 8000, .inl f191)), (h_nb, .inl (cy_nb, 8000, .inl f192)), (h_nc, .inl (cy_nc, 8000, .inl f231)), (h_vrs, .inl (cy_vrs, 32, .inl f194)), (h_let, .inl (cy_let, 256, .inl f195)), (h_tap, .inl (cy_tap, 600, .inl f_tap)), (h_mm, .inr (8, (mo126 v_mm (.ref h_nv) (.ref h_nn) (.ref h_na) (.ref h_nb) (.ref h_nc) (.int z180) (.ref h_vrs) (.ref h_let) (.ref h_tap) (.int x_mm_taped) (.int z269) (.int z270) (.int z271) (.int z272) (.long z273) (.int z312) (.int z313) (.int z314) (.int z318) (.int x_mm_reading))))] := hD9
                      have hS := hS9
                      clear hP9 hD9 hS9
                      have oz9 : x_mm_opened = z318 := Int32.toInt_inj.mp (by omega)
                      subst oz9
                      replace hP : va_P (dC, dI) cls [(h_mm, .inr (8, (mo126 v_mm (.ref h_nv) (.ref h_nn) (.ref h_na) (.ref h_nb) (.ref h_nc) (.int z180) (.ref h_vrs) (.ref h_let) (.ref h_tap) (.int x_mm_taped) (.int z269) (.int z270) (.int z271) (.int z272) (.long z273) (.int z312) (.int z313) (.int z314) (.int x_mm_opened) (.int x_mm_reading)))), (h_tap, .inl (cy_tap, 600, .inl f_tap)), (h_nv, .inl (cy_nv, 8000, .inl f189)), (h_nn, .inl (cy_nn, 8000, .inr (.inl f190))), (h_na, .inl (cy_na, 8000, .inl f191)), (h_nb, .inl (cy_nb, 8000, .inl f192)), (h_nc, .inl (cy_nc, 8000, .inl f231)), (h_vrs, .inl (cy_vrs, 32, .inl f194)), (h_let, .inl (cy_let, 256, .inl f195))] H := hP.sub [8, 7, 0, 1, 2, 3, 4, 5, 6] rfl
                      replace hD : va_D A [(h_mm, .inr (8, (mo126 v_mm (.ref h_nv) (.ref h_nn) (.ref h_na) (.ref h_nb) (.ref h_nc) (.int z180) (.ref h_vrs) (.ref h_let) (.ref h_tap) (.int x_mm_taped) (.int z269) (.int z270) (.int z271) (.int z272) (.long z273) (.int z312) (.int z313) (.int z314) (.int x_mm_opened) (.int x_mm_reading)))), (h_tap, .inl (cy_tap, 600, .inl f_tap)), (h_nv, .inl (cy_nv, 8000, .inl f189)), (h_nn, .inl (cy_nn, 8000, .inr (.inl f190))), (h_na, .inl (cy_na, 8000, .inl f191)), (h_nb, .inl (cy_nb, 8000, .inl f192)), (h_nc, .inl (cy_nc, 8000, .inl f231)), (h_vrs, .inl (cy_vrs, 32, .inl f194)), (h_let, .inl (cy_let, 256, .inl f195))] := hD.sub [8, 7, 0, 1, 2, 3, 4, 5, 6] (by decide) rfl
                      refine W.widen (k := 0) (n := 0) (Nat.le_of_ble_eq_true rfl) (Nat.le_of_ble_eq_true rfl) ?_
                      have w319 : 0 ≤ ((z180)).toInt ∧ ((z180)).toInt ≤ 1200 := by first | exact k197 | omega
                      have w320 : 0 ≤ ((z269)).toInt ∧ ((z269)).toInt ≤ 600 := by first | exact k274 | omega
                      have w321 : 0 ≤ ((z270)).toInt ∧ ((z270)).toInt ≤ 600 := by first | exact k275 | omega
                      have w322 : 0 ≤ ((z271)).toInt ∧ ((z271)).toInt ≤ 4 := by first | exact k276 | omega
                      have w323 : 0 ≤ ((z312)).toInt ∧ ((z312)).toInt ≤ 1 := by first | exact k315 | omega
                      have w324 : ((z270)).toInt ≤ ((z269)).toInt := by first | exact k277 | omega
                      have w325 : ((z312)).toInt = 1 ∨ ((z180)).toInt ≤ lo + ((z270)).toInt := by omega
                      have w326 : (x_mm_nodes).toInt ≤ ((z180)).toInt := by omega
                      have w327 : (x_mm_place).toInt ≤ ((z270)).toInt := by omega
                      have w328 : (x_mm_isFaulty).toInt ≤ ((z312)).toInt := by omega
                      have w329 : (((z312)).toInt = 0 ∧ ((pPs G (x_mm_taped).toInt dd (x_mm_place).toInt nv vf)).1 = 0 ∧ ((z313)).toInt = (x_mm_fault).toInt ∧ ((z314)).toInt = (x_mm_faultPlace).toInt) ∨ (((z312)).toInt = 1 ∧ ¬ ((pPs G (x_mm_taped).toInt dd (x_mm_place).toInt nv vf)).1 = 0 ∧ ((z313)).toInt = ((pPs G (x_mm_taped).toInt dd (x_mm_place).toInt nv vf)).1 ∧ ((z314)).toInt = ((pPs G (x_mm_taped).toInt dd (x_mm_place).toInt nv vf)).2.1) := by omega
                      have w330 : ((z270)).toInt = ((pPs G (x_mm_taped).toInt dd (x_mm_place).toInt nv vf)).2.1 := by omega
                      have w331 : 0 ≤ ((pPs G (x_mm_taped).toInt dd (x_mm_place).toInt nv vf)).2.2.1 ∧ ((pPs G (x_mm_taped).toInt dd (x_mm_place).toInt nv vf)).2.2.1 ≤ 8 := by omega
                      have w332 : ((z271)).toInt = kd (tkT G (x_mm_taped).toInt ((z270)).toInt) := by first | exact k278 | omega
                      have w333 : ((z271)).toInt = 0 ∨ (((z269)).toInt = tkX G (x_mm_taped).toInt ((z270)).toInt ∧ ((z272)).toInt = G ((z270)).toInt ∧ ((z270)).toInt < (x_mm_taped).toInt ∧ ((z270)).toInt + 1 ≤ ((z269)).toInt) := by first | exact k279 | omega
                      have w334 : ((z269)).toInt ≤ (x_mm_taped).toInt := by first | exact k280 | omega
                      have w335 : ((z270)).toInt ≤ (x_mm_taped).toInt := by first | exact k281 | omega
                      have w336 : EQ0 lo za zb zc zv (f191) (f192) (f231) (f189) := nd233
                      have w337 : ND lo ((z180)).toInt (gh196) (f191) (f192) (f231) := (nd_cast nd232 (by omega))
                      have w338 : ∀ y : Nat, (y : Int) < (x_mm_nodes).toInt → (gh196) y = hh y := (fun y hy => (k219 y (by omega)).trans ((k142 y (by omega)).trans ((k65 y (by omega)).trans (rfl))))
                      have w339 : VRF (x_mm_reading).toInt f_vrs (f194) := vr229
                      have w340 : ((f194) (Int32.toNatClampNeg x_mm_reading)).toInt = ((pPs G (x_mm_taped).toInt dd (x_mm_place).toInt nv vf)).2.2.1 := (k221.trans pq2583.symm)
                      have w341 : VFM ((pPs G (x_mm_taped).toInt dd (x_mm_place).toInt nv vf)).2.2.1 ((pPs G (x_mm_taped).toInt dd (x_mm_place).toInt nv vf)).2.2.2 (f195) (x_mm_reading).toInt := (by rw [pq2583, pq2584]; exact k222)
                      have w342 : NMK ((z271)).toInt ((z273)).toInt (NMI 27 G (x_mm_taped).toInt ((z270)).toInt) := k282
                      have w343 : IFZ ((z312)).toInt (∃ L B : Nat, (L : Int) = (x_mm_nodes).toInt ∧ (B : Int) = ((z180)).toInt ∧ NMX G (x_mm_taped).toInt (RVW (f189) (f190) (f191) (f192) (f231)) (SPX G (x_mm_taped).toInt 27 (RVW (f189) (f190) (f191) (f192) (f231)) ((pPs G (x_mm_taped).toInt dd (x_mm_place).toInt nv vf)).2.2.1 ((pPs G (x_mm_taped).toInt dd (x_mm_place).toInt nv vf)).2.2.2 k0 L B dd) (Int32.toNatClampNeg p1) (x_mm_place).toInt ((z270)).toInt) := (ifz_no (by omega))
                      have w344 : AGN (x_mm_nodes).toInt (p1).toInt f_nv (f189) f_nn (f190) f_na (f191) f_nb (f192) f_nc (f231) := an234
                      exact W.vret hx hb hr (fun t ht hW => ⟨⟨(z180, z269, z270, z271, z272, z273, z312, z313, z314, f189, f190, f191, f192, f231, f194, f195, gh196), rfl, ⟨w319, w320, w321, w322, w323, hf189, hf191, hf192, hf231, hf194, w324, w325, w326, w327, w328, w329, w330, w331, w332, w333, w334, w335, w336, w337, w338, w339, w340, w341, w342, w343, w344⟩, by rw [ht]; exact hP, hD⟩, hS.F ht⟩) hS.2.2 dX11_readsParts_143
                    · replace hq : (((z270)).toInt = ((z238)).toInt) ∧ (((z269)).toInt = ((z237)).toInt) ∧ (((z271)).toInt = ((z239)).toInt) ∧ (((z261)).toInt = 0) ∧ (¬ tkT (G) ((x_mm_taped)).toInt ((z238)).toInt = ((41 : Int32)).toInt) := hq
                      refine lv_if_ne (tgt := 133) hx hb dX11_readsParts_125 (by decide) (fun c9 => absurd c9 (by decide)) (fun _ => ?_)
                      refine lv_aload_n hx hb dX11_readsParts_128 rfl (lv_at hl 0 rfl) ?_
                      refine lv_iconst (v := 1) hx hb dX11_readsParts_129 (by decide) ?_
                      obtain ⟨vq345, evq345⟩ := mq126_90 v_mm (.ref h_nv) (.ref h_nn) (.ref h_na) (.ref h_nb) (.ref h_nc) (.int z180) (.ref h_vrs) (.ref h_let) (.ref h_tap) (.int x_mm_taped) (.int z269) (.int z271) (.int z272) (.long z273) (.int z5) (.int x_mm_reading)
                      replace hP : va_P (dC, dI) cls [(h_nv, .inl (cy_nv, 8000, .inl f189)), (h_nn, .inl (cy_nn, 8000, .inr (.inl f190))), (h_na, .inl (cy_na, 8000, .inl f191)), (h_nb, .inl (cy_nb, 8000, .inl f192)), (h_nc, .inl (cy_nc, 8000, .inl f231)), (h_vrs, .inl (cy_vrs, 32, .inl f194)), (h_let, .inl (cy_let, 256, .inl f195)), (h_mm, .inr (8, (mo90 vq345 (.int z270) (.int z261) (.int z262) (.int z263)))), (h_tap, .inl (cy_tap, 600, .inl f_tap))] H := by rw [evq345]; exact hP
                      replace hD : va_D A [(h_nv, .inl (cy_nv, 8000, .inl f189)), (h_nn, .inl (cy_nn, 8000, .inr (.inl f190))), (h_na, .inl (cy_na, 8000, .inl f191)), (h_nb, .inl (cy_nb, 8000, .inl f192)), (h_nc, .inl (cy_nc, 8000, .inl f231)), (h_vrs, .inl (cy_vrs, 32, .inl f194)), (h_let, .inl (cy_let, 256, .inl f195)), (h_mm, .inr (8, (mo90 vq345 (.int z270) (.int z261) (.int z262) (.int z263)))), (h_tap, .inl (cy_tap, 600, .inl f_tap))] := by rw [evq345]; exact hD
                      have cst1 : (1 : Int32).toInt = 1 := by decide
                      have hPc := hP.sub (ws' := [(h_mm, .inr (8, (mo90 vq345 (.int z270) (.int z261) (.int z262) (.int z263))))]) [7] rfl
                      have hDc := hD.sub (ws' := [(h_mm, .inr (8, (mo90 vq345 (.int z270) (.int z261) (.int z262) (.int z263))))]) [7] (by decide) rfl
                      have hKc := hK.sub (tys' := []) [] rfl
                      have hFc := va_free (wc := [(h_mm, .inr (8, (mo90 vq345 (.int z270) (.int z261) (.int z262) (.int z263))))]) hD hS hA [7] rfl
                      refine va_callv (va_runV (As := [.int 1]) (rest := []) ⟨hx, hb, hml, hown, hts⟩ (c_X11_faulty l dC dI H.size h_mm vq345 z270 z261 z262 z263 1 (by first | exact k275 | omega) (by first | exact k264 | omega)) (cwV 1 hts (gv hT w_m_X11_111 w_instanceMethod_X11_faulty ws_sel_X11_faulty w_ini_X11 w_code_X11_faulty) rfl rfl rfl (by decide +kernel) ⟨(by dsimp only [headSpec]; omega), (by dsimp only [headSpec]; omega)⟩) ⟨pre_blind, va_recv hK hP (ci := 8) (q0 := 7) rfl rfl, pre_of hPc hKc hDc hN⟩ rfl rfl hl.1 rfl (lv_room (Nat.le_of_ble_eq_true rfl)) dX11_readsParts_130 ⟨(Nat.le_of_ble_eq_true rfl), (Nat.le_of_ble_eq_true rfl)⟩) hS (fun q _ h => hFc q h) hFc (fun u t H locs ht hvm hq hB hz1 hk1 hS9 => ?_)
                      obtain ⟨z347, z348, z349⟩ := u
                      obtain ⟨hP1, hD1⟩ := hB
                      rw [ht] at hP1
                      obtain ⟨hP9, hD9⟩ := va_join (wr := [(h_nv, .inl (cy_nv, 8000, .inl f189)), (h_nn, .inl (cy_nn, 8000, .inr (.inl f190))), (h_na, .inl (cy_na, 8000, .inl f191)), (h_nb, .inl (cy_nb, 8000, .inl f192)), (h_nc, .inl (cy_nc, 8000, .inl f231)), (h_vrs, .inl (cy_vrs, 32, .inl f194)), (h_let, .inl (cy_let, 256, .inl f195)), (h_tap, .inl (cy_tap, 600, .inl f_tap))]) (w1 := [(h_mm, .inr (8, (mo90 vq345 (.int z270) (.int z347) (.int z348) (.int z349))))]) hP hD [7] [0, 1, 2, 3, 4, 5, 6, 8] rfl rfl (by decide) (by decide) hk1 hFc hP1 hD1
                      clear hP hD hS hPc hDc hKc hFc hP1 hD1 hk1 hz1 ht hvm
                      have hP : va_P (dC, dI) cls [(h_nv, .inl (cy_nv, 8000, .inl f189)), (h_nn, .inl (cy_nn, 8000, .inr (.inl f190))), (h_na, .inl (cy_na, 8000, .inl f191)), (h_nb, .inl (cy_nb, 8000, .inl f192)), (h_nc, .inl (cy_nc, 8000, .inl f231)), (h_vrs, .inl (cy_vrs, 32, .inl f194)), (h_let, .inl (cy_let, 256, .inl f195)), (h_tap, .inl (cy_tap, 600, .inl f_tap)), (h_mm, .inr (8, (mo90 vq345 (.int z270) (.int z347) (.int z348) (.int z349))))] H := hP9
                      have hD : va_D A [(h_nv, .inl (cy_nv, 8000, .inl f189)), (h_nn, .inl (cy_nn, 8000, .inr (.inl f190))), (h_na, .inl (cy_na, 8000, .inl f191)), (h_nb, .inl (cy_nb, 8000, .inl f192)), (h_nc, .inl (cy_nc, 8000, .inl f231)), (h_vrs, .inl (cy_vrs, 32, .inl f194)), (h_let, .inl (cy_let, 256, .inl f195)), (h_tap, .inl (cy_tap, 600, .inl f_tap)), (h_mm, .inr (8, (mo90 vq345 (.int z270) (.int z347) (.int z348) (.int z349))))] := hD9
                      have hS := hS9
                      clear hP9 hD9 hS9
                      rw [evq345] at hP hD
                      replace hP : va_P (dC, dI) cls [(h_nv, .inl (cy_nv, 8000, .inl f189)), (h_nn, .inl (cy_nn, 8000, .inr (.inl f190))), (h_na, .inl (cy_na, 8000, .inl f191)), (h_nb, .inl (cy_nb, 8000, .inl f192)), (h_nc, .inl (cy_nc, 8000, .inl f231)), (h_vrs, .inl (cy_vrs, 32, .inl f194)), (h_let, .inl (cy_let, 256, .inl f195)), (h_tap, .inl (cy_tap, 600, .inl f_tap)), (h_mm, .inr (8, (mo126 v_mm (.ref h_nv) (.ref h_nn) (.ref h_na) (.ref h_nb) (.ref h_nc) (.int z180) (.ref h_vrs) (.ref h_let) (.ref h_tap) (.int x_mm_taped) (.int z269) (.int z270) (.int z271) (.int z272) (.long z273) (.int z347) (.int z348) (.int z349) (.int z5) (.int x_mm_reading))))] H := hP
                      replace hD : va_D A [(h_nv, .inl (cy_nv, 8000, .inl f189)), (h_nn, .inl (cy_nn, 8000, .inr (.inl f190))), (h_na, .inl (cy_na, 8000, .inl f191)), (h_nb, .inl (cy_nb, 8000, .inl f192)), (h_nc, .inl (cy_nc, 8000, .inl f231)), (h_vrs, .inl (cy_vrs, 32, .inl f194)), (h_let, .inl (cy_let, 256, .inl f195)), (h_tap, .inl (cy_tap, 600, .inl f_tap)), (h_mm, .inr (8, (mo126 v_mm (.ref h_nv) (.ref h_nn) (.ref h_na) (.ref h_nb) (.ref h_nc) (.int z180) (.ref h_vrs) (.ref h_let) (.ref h_tap) (.int x_mm_taped) (.int z269) (.int z270) (.int z271) (.int z272) (.long z273) (.int z347) (.int z348) (.int z349) (.int z5) (.int x_mm_reading))))] := hD
                      clear evq345 
                      obtain ⟨k350, k351, k352⟩ := hq
                      replace k350 : 0 ≤ ((z347)).toInt ∧ ((z347)).toInt ≤ 1 := k350
                      replace k351 : ((z347)).toInt = 1 := k351
                      replace k352 : (((z261)).toInt = 1 ∧ ((z348)).toInt = ((z262)).toInt ∧ ((z349)).toInt = ((z263)).toInt) ∨ (((z261)).toInt = 0 ∧ ((z348)).toInt = ((1 : Int32)).toInt ∧ ((z349)).toInt = ((z270)).toInt) := k352
                      refine lv_aload_n hx hb dX11_readsParts_133 rfl (lv_at hl 0 rfl) ?_
                      refine lv_aload_n hx hb dX11_readsParts_134 rfl (lv_at hl 0 rfl) ?_
                      refine va_get (D := (dC, dI)) (ci := 8) (v := .int z5) (C := RX11) (T := TX11) (N := 71) hx hb hw iwX11 hown hK hP 8 rfl rfl 23 (by decide) (hw _ w_f_X11_130) (fun _ h9 => h9) rfl dX11_readsParts_135 ?_
                      refine lv_iconst (v := 1) hx hb dX11_readsParts_138 (by decide) ?_
                      refine lv_isub hx hb dX11_readsParts_139 ?_
                      refine lv_topi (fun z353 ez353 => ?_)
                      have tz353 : (z353).toInt = (z5).toInt - 1 := by rw [ez353]; exact i_sub rfl (by decide) (by omega)
                      refine va_put (D := (dC, dI)) (ci := 8) (v := .int z353) (ty := tyX11 23) (C := RX11) (T := TX11) (N := 71) hx hb hw iwX11 tyX11 tyX11_ok nmX11 hown hK hP hD hS 8 rfl rfl 23 (by decide) (hw _ w_f_X11_130) (fun _ h9 => h9) rfl (tyX11_ok 23 (by decide)) rfl rfl (Nat.le_of_ble_eq_true rfl) dX11_readsParts_140 (fun H locs hP9 hD9 hS9 => ?_)
                      clear hP hD hS
                      have hP : va_P (dC, dI) cls [(h_nv, .inl (cy_nv, 8000, .inl f189)), (h_nn, .inl (cy_nn, 8000, .inr (.inl f190))), (h_na, .inl (cy_na, 8000, .inl f191)), (h_nb, .inl (cy_nb, 8000, .inl f192)), (h_nc, .inl (cy_nc, 8000, .inl f231)), (h_vrs, .inl (cy_vrs, 32, .inl f194)), (h_let, .inl (cy_let, 256, .inl f195)), (h_tap, .inl (cy_tap, 600, .inl f_tap)), (h_mm, .inr (8, (mo126 v_mm (.ref h_nv) (.ref h_nn) (.ref h_na) (.ref h_nb) (.ref h_nc) (.int z180) (.ref h_vrs) (.ref h_let) (.ref h_tap) (.int x_mm_taped) (.int z269) (.int z270) (.int z271) (.int z272) (.long z273) (.int z347) (.int z348) (.int z349) (.int z353) (.int x_mm_reading))))] H := hP9
                      have hD : va_D A [(h_nv, .inl (cy_nv, 8000, .inl f189)), (h_nn, .inl (cy_nn, 8000, .inr (.inl f190))), (h_na, .inl (cy_na, 8000, .inl f191)), (h_nb, .inl (cy_nb, 8000, .inl f192)), (h_nc, .inl (cy_nc, 8000, .inl f231)), (h_vrs, .inl (cy_vrs, 32, .inl f194)), (h_let, .inl (cy_let, 256, .inl f195)), (h_tap, .inl (cy_tap, 600, .inl f_tap)), (h_mm, .inr (8, (mo126 v_mm (.ref h_nv) (.ref h_nn) (.ref h_na) (.ref h_nb) (.ref h_nc) (.int z180) (.ref h_vrs) (.ref h_let) (.ref h_tap) (.int x_mm_taped) (.int z269) (.int z270) (.int z271) (.int z272) (.long z273) (.int z347) (.int z348) (.int z349) (.int z353) (.int x_mm_reading))))] := hD9
                      have hS := hS9
                      clear hP9 hD9 hS9
                      have oz9 : x_mm_opened = z353 := Int32.toInt_inj.mp (by omega)
                      subst oz9
                      replace hP : va_P (dC, dI) cls [(h_mm, .inr (8, (mo126 v_mm (.ref h_nv) (.ref h_nn) (.ref h_na) (.ref h_nb) (.ref h_nc) (.int z180) (.ref h_vrs) (.ref h_let) (.ref h_tap) (.int x_mm_taped) (.int z269) (.int z270) (.int z271) (.int z272) (.long z273) (.int z347) (.int z348) (.int z349) (.int x_mm_opened) (.int x_mm_reading)))), (h_tap, .inl (cy_tap, 600, .inl f_tap)), (h_nv, .inl (cy_nv, 8000, .inl f189)), (h_nn, .inl (cy_nn, 8000, .inr (.inl f190))), (h_na, .inl (cy_na, 8000, .inl f191)), (h_nb, .inl (cy_nb, 8000, .inl f192)), (h_nc, .inl (cy_nc, 8000, .inl f231)), (h_vrs, .inl (cy_vrs, 32, .inl f194)), (h_let, .inl (cy_let, 256, .inl f195))] H := hP.sub [8, 7, 0, 1, 2, 3, 4, 5, 6] rfl
                      replace hD : va_D A [(h_mm, .inr (8, (mo126 v_mm (.ref h_nv) (.ref h_nn) (.ref h_na) (.ref h_nb) (.ref h_nc) (.int z180) (.ref h_vrs) (.ref h_let) (.ref h_tap) (.int x_mm_taped) (.int z269) (.int z270) (.int z271) (.int z272) (.long z273) (.int z347) (.int z348) (.int z349) (.int x_mm_opened) (.int x_mm_reading)))), (h_tap, .inl (cy_tap, 600, .inl f_tap)), (h_nv, .inl (cy_nv, 8000, .inl f189)), (h_nn, .inl (cy_nn, 8000, .inr (.inl f190))), (h_na, .inl (cy_na, 8000, .inl f191)), (h_nb, .inl (cy_nb, 8000, .inl f192)), (h_nc, .inl (cy_nc, 8000, .inl f231)), (h_vrs, .inl (cy_vrs, 32, .inl f194)), (h_let, .inl (cy_let, 256, .inl f195))] := hD.sub [8, 7, 0, 1, 2, 3, 4, 5, 6] (by decide) rfl
                      refine W.widen (k := 0) (n := 0) (Nat.le_of_ble_eq_true rfl) (Nat.le_of_ble_eq_true rfl) ?_
                      have w354 : 0 ≤ ((z180)).toInt ∧ ((z180)).toInt ≤ 1200 := by first | exact k197 | omega
                      have w355 : 0 ≤ ((z269)).toInt ∧ ((z269)).toInt ≤ 600 := by first | exact k274 | omega
                      have w356 : 0 ≤ ((z270)).toInt ∧ ((z270)).toInt ≤ 600 := by first | exact k275 | omega
                      have w357 : 0 ≤ ((z271)).toInt ∧ ((z271)).toInt ≤ 4 := by first | exact k276 | omega
                      have w358 : 0 ≤ ((z347)).toInt ∧ ((z347)).toInt ≤ 1 := by first | exact k350 | omega
                      have w359 : ((z270)).toInt ≤ ((z269)).toInt := by first | exact k277 | omega
                      have w360 : ((z347)).toInt = 1 ∨ ((z180)).toInt ≤ lo + ((z270)).toInt := by omega
                      have w361 : (x_mm_nodes).toInt ≤ ((z180)).toInt := by omega
                      have w362 : (x_mm_place).toInt ≤ ((z270)).toInt := by omega
                      have w363 : (x_mm_isFaulty).toInt ≤ ((z347)).toInt := by omega
                      have w364 : (((z347)).toInt = 0 ∧ ((pPs G (x_mm_taped).toInt dd (x_mm_place).toInt nv vf)).1 = 0 ∧ ((z348)).toInt = (x_mm_fault).toInt ∧ ((z349)).toInt = (x_mm_faultPlace).toInt) ∨ (((z347)).toInt = 1 ∧ ¬ ((pPs G (x_mm_taped).toInt dd (x_mm_place).toInt nv vf)).1 = 0 ∧ ((z348)).toInt = ((pPs G (x_mm_taped).toInt dd (x_mm_place).toInt nv vf)).1 ∧ ((z349)).toInt = ((pPs G (x_mm_taped).toInt dd (x_mm_place).toInt nv vf)).2.1) := by omega
                      have w365 : ((z270)).toInt = ((pPs G (x_mm_taped).toInt dd (x_mm_place).toInt nv vf)).2.1 := by omega
                      have w366 : 0 ≤ ((pPs G (x_mm_taped).toInt dd (x_mm_place).toInt nv vf)).2.2.1 ∧ ((pPs G (x_mm_taped).toInt dd (x_mm_place).toInt nv vf)).2.2.1 ≤ 8 := by omega
                      have w367 : ((z271)).toInt = kd (tkT G (x_mm_taped).toInt ((z270)).toInt) := by first | exact k278 | omega
                      have w368 : ((z271)).toInt = 0 ∨ (((z269)).toInt = tkX G (x_mm_taped).toInt ((z270)).toInt ∧ ((z272)).toInt = G ((z270)).toInt ∧ ((z270)).toInt < (x_mm_taped).toInt ∧ ((z270)).toInt + 1 ≤ ((z269)).toInt) := by first | exact k279 | omega
                      have w369 : ((z269)).toInt ≤ (x_mm_taped).toInt := by first | exact k280 | omega
                      have w370 : ((z270)).toInt ≤ (x_mm_taped).toInt := by first | exact k281 | omega
                      have w371 : EQ0 lo za zb zc zv (f191) (f192) (f231) (f189) := nd233
                      have w372 : ND lo ((z180)).toInt (gh196) (f191) (f192) (f231) := (nd_cast nd232 (by omega))
                      have w373 : ∀ y : Nat, (y : Int) < (x_mm_nodes).toInt → (gh196) y = hh y := (fun y hy => (k219 y (by omega)).trans ((k142 y (by omega)).trans ((k65 y (by omega)).trans (rfl))))
                      have w374 : VRF (x_mm_reading).toInt f_vrs (f194) := vr229
                      have w375 : ((f194) (Int32.toNatClampNeg x_mm_reading)).toInt = ((pPs G (x_mm_taped).toInt dd (x_mm_place).toInt nv vf)).2.2.1 := (k221.trans pq2583.symm)
                      have w376 : VFM ((pPs G (x_mm_taped).toInt dd (x_mm_place).toInt nv vf)).2.2.1 ((pPs G (x_mm_taped).toInt dd (x_mm_place).toInt nv vf)).2.2.2 (f195) (x_mm_reading).toInt := (by rw [pq2583, pq2584]; exact k222)
                      have w377 : NMK ((z271)).toInt ((z273)).toInt (NMI 27 G (x_mm_taped).toInt ((z270)).toInt) := k282
                      have w378 : IFZ ((z347)).toInt (∃ L B : Nat, (L : Int) = (x_mm_nodes).toInt ∧ (B : Int) = ((z180)).toInt ∧ NMX G (x_mm_taped).toInt (RVW (f189) (f190) (f191) (f192) (f231)) (SPX G (x_mm_taped).toInt 27 (RVW (f189) (f190) (f191) (f192) (f231)) ((pPs G (x_mm_taped).toInt dd (x_mm_place).toInt nv vf)).2.2.1 ((pPs G (x_mm_taped).toInt dd (x_mm_place).toInt nv vf)).2.2.2 k0 L B dd) (Int32.toNatClampNeg p1) (x_mm_place).toInt ((z270)).toInt) := (ifz_no (by omega))
                      have w379 : AGN (x_mm_nodes).toInt (p1).toInt f_nv (f189) f_nn (f190) f_na (f191) f_nb (f192) f_nc (f231) := an234
                      exact W.vret hx hb hr (fun t ht hW => ⟨⟨(z180, z269, z270, z271, z272, z273, z347, z348, z349, f189, f190, f191, f192, f231, f194, f195, gh196), rfl, ⟨w354, w355, w356, w357, w358, hf189, hf191, hf192, hf231, hf194, w359, w360, w361, w362, w363, w364, w365, w366, w367, w368, w369, w370, w371, w372, w373, w374, w375, w376, w377, w378, w379⟩, by rw [ht]; exact hP, hD⟩, hS.F ht⟩) hS.2.2 dX11_readsParts_143
                  · replace hq : (((z186)).toInt = 1) := hq
                    exact False.elim (by omega)
                  · replace hq : (((z186)).toInt = 0) ∧ (¬ tkT (G) ((x_mm_taped)).toInt ((z238)).toInt = 256 ∧ ¬ tkT (G) ((x_mm_taped)).toInt ((z238)).toInt = 257) := hq
                    refine lv_if_eq (tgt := 115) hx hb dX11_readsParts_108 (by decide) (fun _ => ?_) (fun c9 => absurd c9 (by decide))
                    have tt9 : tkT G (x_mm_taped).toInt (tkN G (x_mm_taped).toInt (z182).toInt) = tkT G (x_mm_taped).toInt (z238).toInt := by rw [← tn252]
                    have pv9 : (pPs G (x_mm_taped).toInt dd (x_mm_place).toInt nv vf) = (1, tkN G (x_mm_taped).toInt (z182).toInt, (rh226).2.2.1, (rh226).2.2.2) := lo251.symm.trans (pLo_bad (by omega) (by omega))
                    have pq3801 : ((pPs G (x_mm_taped).toInt dd (x_mm_place).toInt nv vf)).1 = 1 := by rw [pv9]
                    have pq3802 : ((pPs G (x_mm_taped).toInt dd (x_mm_place).toInt nv vf)).2.1 = tkN G (x_mm_taped).toInt (z182).toInt := by rw [pv9]
                    have pq3803 : ((pPs G (x_mm_taped).toInt dd (x_mm_place).toInt nv vf)).2.2.1 = (rh226).2.2.1 := by rw [pv9]
                    have pq3804 : ((pPs G (x_mm_taped).toInt dd (x_mm_place).toInt nv vf)).2.2.2 = (rh226).2.2.2 := by rw [pv9]
                    refine lv_iconst (v := 1) hx hb dX11_readsParts_115 (by decide) ?_
                    obtain ⟨vq381, evq381⟩ := mq126_90 v_mm (.ref h_nv) (.ref h_nn) (.ref h_na) (.ref h_nb) (.ref h_nc) (.int z180) (.ref h_vrs) (.ref h_let) (.ref h_tap) (.int x_mm_taped) (.int z237) (.int z239) (.int z240) (.long z241) (.int z5) (.int x_mm_reading)
                    replace hP : va_P (dC, dI) cls [(h_nv, .inl (cy_nv, 8000, .inl f189)), (h_nn, .inl (cy_nn, 8000, .inr (.inl f190))), (h_na, .inl (cy_na, 8000, .inl f191)), (h_nb, .inl (cy_nb, 8000, .inl f192)), (h_nc, .inl (cy_nc, 8000, .inl f231)), (h_vrs, .inl (cy_vrs, 32, .inl f194)), (h_let, .inl (cy_let, 256, .inl f195)), (h_tap, .inl (cy_tap, 600, .inl f_tap)), (h_mm, .inr (8, (mo90 vq381 (.int z238) (.int z186) (.int z187) (.int z188))))] H := by rw [evq381]; exact hP
                    replace hD : va_D A [(h_nv, .inl (cy_nv, 8000, .inl f189)), (h_nn, .inl (cy_nn, 8000, .inr (.inl f190))), (h_na, .inl (cy_na, 8000, .inl f191)), (h_nb, .inl (cy_nb, 8000, .inl f192)), (h_nc, .inl (cy_nc, 8000, .inl f231)), (h_vrs, .inl (cy_vrs, 32, .inl f194)), (h_let, .inl (cy_let, 256, .inl f195)), (h_tap, .inl (cy_tap, 600, .inl f_tap)), (h_mm, .inr (8, (mo90 vq381 (.int z238) (.int z186) (.int z187) (.int z188))))] := by rw [evq381]; exact hD
                    have cst1 : (1 : Int32).toInt = 1 := by decide
                    have hPc := hP.sub (ws' := [(h_mm, .inr (8, (mo90 vq381 (.int z238) (.int z186) (.int z187) (.int z188))))]) [8] rfl
                    have hDc := hD.sub (ws' := [(h_mm, .inr (8, (mo90 vq381 (.int z238) (.int z186) (.int z187) (.int z188))))]) [8] (by decide) rfl
                    have hKc := hK.sub (tys' := []) [] rfl
                    have hFc := va_free (wc := [(h_mm, .inr (8, (mo90 vq381 (.int z238) (.int z186) (.int z187) (.int z188))))]) hD hS hA [8] rfl
                    refine va_callv (va_runV (As := [.int 1]) (rest := []) ⟨hx, hb, hml, hown, hts⟩ (c_X11_faulty l dC dI H.size h_mm vq381 z238 z186 z187 z188 1 (by first | exact k243 | omega) (by first | exact k201 | omega)) (cwV 1 hts (gv hT w_m_X11_111 w_instanceMethod_X11_faulty ws_sel_X11_faulty w_ini_X11 w_code_X11_faulty) rfl rfl rfl (by decide +kernel) ⟨(by dsimp only [headSpec]; omega), (by dsimp only [headSpec]; omega)⟩) ⟨pre_blind, va_recv hK hP (ci := 8) (q0 := 8) rfl rfl, pre_of hPc hKc hDc hN⟩ rfl rfl hl.1 rfl (lv_room (Nat.le_of_ble_eq_true rfl)) dX11_readsParts_116 ⟨(Nat.le_of_ble_eq_true rfl), (Nat.le_of_ble_eq_true rfl)⟩) hS (fun q _ h => hFc q h) hFc (fun u t H locs ht hvm hq hB hz1 hk1 hS9 => ?_)
                    obtain ⟨z383, z384, z385⟩ := u
                    obtain ⟨hP1, hD1⟩ := hB
                    rw [ht] at hP1
                    obtain ⟨hP9, hD9⟩ := va_join (wr := [(h_nv, .inl (cy_nv, 8000, .inl f189)), (h_nn, .inl (cy_nn, 8000, .inr (.inl f190))), (h_na, .inl (cy_na, 8000, .inl f191)), (h_nb, .inl (cy_nb, 8000, .inl f192)), (h_nc, .inl (cy_nc, 8000, .inl f231)), (h_vrs, .inl (cy_vrs, 32, .inl f194)), (h_let, .inl (cy_let, 256, .inl f195)), (h_tap, .inl (cy_tap, 600, .inl f_tap))]) (w1 := [(h_mm, .inr (8, (mo90 vq381 (.int z238) (.int z383) (.int z384) (.int z385))))]) hP hD [8] [0, 1, 2, 3, 4, 5, 6, 7] rfl rfl (by decide) (by decide) hk1 hFc hP1 hD1
                    clear hP hD hS hPc hDc hKc hFc hP1 hD1 hk1 hz1 ht hvm
                    have hP : va_P (dC, dI) cls [(h_nv, .inl (cy_nv, 8000, .inl f189)), (h_nn, .inl (cy_nn, 8000, .inr (.inl f190))), (h_na, .inl (cy_na, 8000, .inl f191)), (h_nb, .inl (cy_nb, 8000, .inl f192)), (h_nc, .inl (cy_nc, 8000, .inl f231)), (h_vrs, .inl (cy_vrs, 32, .inl f194)), (h_let, .inl (cy_let, 256, .inl f195)), (h_tap, .inl (cy_tap, 600, .inl f_tap)), (h_mm, .inr (8, (mo90 vq381 (.int z238) (.int z383) (.int z384) (.int z385))))] H := hP9
                    have hD : va_D A [(h_nv, .inl (cy_nv, 8000, .inl f189)), (h_nn, .inl (cy_nn, 8000, .inr (.inl f190))), (h_na, .inl (cy_na, 8000, .inl f191)), (h_nb, .inl (cy_nb, 8000, .inl f192)), (h_nc, .inl (cy_nc, 8000, .inl f231)), (h_vrs, .inl (cy_vrs, 32, .inl f194)), (h_let, .inl (cy_let, 256, .inl f195)), (h_tap, .inl (cy_tap, 600, .inl f_tap)), (h_mm, .inr (8, (mo90 vq381 (.int z238) (.int z383) (.int z384) (.int z385))))] := hD9
                    have hS := hS9
                    clear hP9 hD9 hS9
                    rw [evq381] at hP hD
                    replace hP : va_P (dC, dI) cls [(h_nv, .inl (cy_nv, 8000, .inl f189)), (h_nn, .inl (cy_nn, 8000, .inr (.inl f190))), (h_na, .inl (cy_na, 8000, .inl f191)), (h_nb, .inl (cy_nb, 8000, .inl f192)), (h_nc, .inl (cy_nc, 8000, .inl f231)), (h_vrs, .inl (cy_vrs, 32, .inl f194)), (h_let, .inl (cy_let, 256, .inl f195)), (h_tap, .inl (cy_tap, 600, .inl f_tap)), (h_mm, .inr (8, (mo126 v_mm (.ref h_nv) (.ref h_nn) (.ref h_na) (.ref h_nb) (.ref h_nc) (.int z180) (.ref h_vrs) (.ref h_let) (.ref h_tap) (.int x_mm_taped) (.int z237) (.int z238) (.int z239) (.int z240) (.long z241) (.int z383) (.int z384) (.int z385) (.int z5) (.int x_mm_reading))))] H := hP
                    replace hD : va_D A [(h_nv, .inl (cy_nv, 8000, .inl f189)), (h_nn, .inl (cy_nn, 8000, .inr (.inl f190))), (h_na, .inl (cy_na, 8000, .inl f191)), (h_nb, .inl (cy_nb, 8000, .inl f192)), (h_nc, .inl (cy_nc, 8000, .inl f231)), (h_vrs, .inl (cy_vrs, 32, .inl f194)), (h_let, .inl (cy_let, 256, .inl f195)), (h_tap, .inl (cy_tap, 600, .inl f_tap)), (h_mm, .inr (8, (mo126 v_mm (.ref h_nv) (.ref h_nn) (.ref h_na) (.ref h_nb) (.ref h_nc) (.int z180) (.ref h_vrs) (.ref h_let) (.ref h_tap) (.int x_mm_taped) (.int z237) (.int z238) (.int z239) (.int z240) (.long z241) (.int z383) (.int z384) (.int z385) (.int z5) (.int x_mm_reading))))] := hD
                    clear evq381 
                    obtain ⟨k386, k387, k388⟩ := hq
                    replace k386 : 0 ≤ ((z383)).toInt ∧ ((z383)).toInt ≤ 1 := k386
                    replace k387 : ((z383)).toInt = 1 := k387
                    replace k388 : (((z186)).toInt = 1 ∧ ((z384)).toInt = ((z187)).toInt ∧ ((z385)).toInt = ((z188)).toInt) ∨ (((z186)).toInt = 0 ∧ ((z384)).toInt = ((1 : Int32)).toInt ∧ ((z385)).toInt = ((z238)).toInt) := k388
                    refine lv_aload_n hx hb dX11_readsParts_119 rfl (lv_at hl 0 rfl) ?_
                    refine lv_bipush (v := 41) hx hb dX11_readsParts_120 (by decide) ?_
                    obtain ⟨vq389, evq389⟩ := mq126_92 v_mm (.ref h_nv) (.ref h_nn) (.ref h_na) (.ref h_nb) (.ref h_nc) (.int z180) (.ref h_vrs) (.ref h_let) (.int z384) (.int z385) (.int z5) (.int x_mm_reading)
                    replace hP : va_P (dC, dI) cls [(h_nv, .inl (cy_nv, 8000, .inl f189)), (h_nn, .inl (cy_nn, 8000, .inr (.inl f190))), (h_na, .inl (cy_na, 8000, .inl f191)), (h_nb, .inl (cy_nb, 8000, .inl f192)), (h_nc, .inl (cy_nc, 8000, .inl f231)), (h_vrs, .inl (cy_vrs, 32, .inl f194)), (h_let, .inl (cy_let, 256, .inl f195)), (h_tap, .inl (cy_tap, 600, .inl f_tap)), (h_mm, .inr (8, (mo92 vq389 (.ref h_tap) (.int x_mm_taped) (.int z237) (.int z238) (.int z239) (.int z240) (.long z241) (.int z383))))] H := by rw [evq389]; exact hP
                    replace hD : va_D A [(h_nv, .inl (cy_nv, 8000, .inl f189)), (h_nn, .inl (cy_nn, 8000, .inr (.inl f190))), (h_na, .inl (cy_na, 8000, .inl f191)), (h_nb, .inl (cy_nb, 8000, .inl f192)), (h_nc, .inl (cy_nc, 8000, .inl f231)), (h_vrs, .inl (cy_vrs, 32, .inl f194)), (h_let, .inl (cy_let, 256, .inl f195)), (h_tap, .inl (cy_tap, 600, .inl f_tap)), (h_mm, .inr (8, (mo92 vq389 (.ref h_tap) (.int x_mm_taped) (.int z237) (.int z238) (.int z239) (.int z240) (.long z241) (.int z383))))] := by rw [evq389]; exact hD
                    have cst41 : (41 : Int32).toInt = 41 := by decide
                    have hPc := hP.sub (ws' := [(h_mm, .inr (8, (mo92 vq389 (.ref h_tap) (.int x_mm_taped) (.int z237) (.int z238) (.int z239) (.int z240) (.long z241) (.int z383)))), (h_tap, .inl (cy_tap, 600, .inl f_tap))]) [8, 7] rfl
                    have hDc := hD.sub (ws' := [(h_mm, .inr (8, (mo92 vq389 (.ref h_tap) (.int x_mm_taped) (.int z237) (.int z238) (.int z239) (.int z240) (.long z241) (.int z383)))), (h_tap, .inl (cy_tap, 600, .inl f_tap))]) [8, 7] (by decide) rfl
                    have hKc := hK.sub (tys' := [(cy_tap, .byte)]) [0] rfl
                    have hFc := va_free (wc := [(h_mm, .inr (8, (mo92 vq389 (.ref h_tap) (.int x_mm_taped) (.int z237) (.int z238) (.int z239) (.int z240) (.long z241) (.int z383)))), (h_tap, .inl (cy_tap, 600, .inl f_tap))]) hD hS hA [8, 7] rfl
                    refine va_calli (va_runV (As := [.int 41]) (rest := []) ⟨hx, hb, hml, hown, hts⟩ (c_X11_passes l dC dI H.size h_mm h_tap vq389 x_mm_taped z237 z238 z239 z240 z241 z383 cy_tap f_tap 41 G (by first | exact hx_mm_taped | omega) (by first | exact k242 | omega) (by first | exact k243 | omega) (by first | exact k244 | omega) (by first | exact k386 | omega) (by first | exact k245 | omega) (by omega) (by omega) (by first | exact k246 | omega) (by first | exact k247 | omega) (by first | exact k248 | omega) (by first | exact k249 | omega) hn_tapq k250) (cwV 1 hts (gv hT w_m_X11_136 w_instanceMethod_X11_passes ws_sel_X11_passes w_ini_X11 w_code_X11_passes) rfl rfl rfl (by decide +kernel) ⟨(by dsimp only [headSpec]; omega), (by dsimp only [headSpec]; omega)⟩) ⟨pre_blind, va_recv hK hP (ci := 8) (q0 := 8) rfl rfl, pre_of hPc hKc hDc hN⟩ rfl rfl hl.1 rfl (lv_room (Nat.le_of_ble_eq_true rfl)) dX11_readsParts_122 ⟨(Nat.le_of_ble_eq_true rfl), (Nat.le_of_ble_eq_true rfl)⟩) hS (fun q _ h => hFc q h) hFc (fun r390 u t H locs ht hvm hq hB hz1 hk1 hS9 => ?_)
                    obtain ⟨z391, z392, z393, z394, z395⟩ := u
                    obtain ⟨hP1, hD1⟩ := hB
                    rw [ht] at hP1
                    obtain ⟨hP9, hD9⟩ := va_join (wr := [(h_nv, .inl (cy_nv, 8000, .inl f189)), (h_nn, .inl (cy_nn, 8000, .inr (.inl f190))), (h_na, .inl (cy_na, 8000, .inl f191)), (h_nb, .inl (cy_nb, 8000, .inl f192)), (h_nc, .inl (cy_nc, 8000, .inl f231)), (h_vrs, .inl (cy_vrs, 32, .inl f194)), (h_let, .inl (cy_let, 256, .inl f195))]) (w1 := [(h_mm, .inr (8, (mo92 vq389 (.ref h_tap) (.int x_mm_taped) (.int z391) (.int z392) (.int z393) (.int z394) (.long z395) (.int z383)))), (h_tap, .inl (cy_tap, 600, .inl f_tap))]) hP hD [8, 7] [0, 1, 2, 3, 4, 5, 6] rfl rfl (by decide) (by decide) hk1 hFc hP1 hD1
                    clear hP hD hS hPc hDc hKc hFc hP1 hD1 hk1 hz1 ht hvm
                    have hP : va_P (dC, dI) cls [(h_nv, .inl (cy_nv, 8000, .inl f189)), (h_nn, .inl (cy_nn, 8000, .inr (.inl f190))), (h_na, .inl (cy_na, 8000, .inl f191)), (h_nb, .inl (cy_nb, 8000, .inl f192)), (h_nc, .inl (cy_nc, 8000, .inl f231)), (h_vrs, .inl (cy_vrs, 32, .inl f194)), (h_let, .inl (cy_let, 256, .inl f195)), (h_mm, .inr (8, (mo92 vq389 (.ref h_tap) (.int x_mm_taped) (.int z391) (.int z392) (.int z393) (.int z394) (.long z395) (.int z383)))), (h_tap, .inl (cy_tap, 600, .inl f_tap))] H := hP9
                    have hD : va_D A [(h_nv, .inl (cy_nv, 8000, .inl f189)), (h_nn, .inl (cy_nn, 8000, .inr (.inl f190))), (h_na, .inl (cy_na, 8000, .inl f191)), (h_nb, .inl (cy_nb, 8000, .inl f192)), (h_nc, .inl (cy_nc, 8000, .inl f231)), (h_vrs, .inl (cy_vrs, 32, .inl f194)), (h_let, .inl (cy_let, 256, .inl f195)), (h_mm, .inr (8, (mo92 vq389 (.ref h_tap) (.int x_mm_taped) (.int z391) (.int z392) (.int z393) (.int z394) (.long z395) (.int z383)))), (h_tap, .inl (cy_tap, 600, .inl f_tap))] := hD9
                    have hS := hS9
                    clear hP9 hD9 hS9
                    rw [evq389] at hP hD
                    replace hP : va_P (dC, dI) cls [(h_nv, .inl (cy_nv, 8000, .inl f189)), (h_nn, .inl (cy_nn, 8000, .inr (.inl f190))), (h_na, .inl (cy_na, 8000, .inl f191)), (h_nb, .inl (cy_nb, 8000, .inl f192)), (h_nc, .inl (cy_nc, 8000, .inl f231)), (h_vrs, .inl (cy_vrs, 32, .inl f194)), (h_let, .inl (cy_let, 256, .inl f195)), (h_mm, .inr (8, (mo126 v_mm (.ref h_nv) (.ref h_nn) (.ref h_na) (.ref h_nb) (.ref h_nc) (.int z180) (.ref h_vrs) (.ref h_let) (.ref h_tap) (.int x_mm_taped) (.int z391) (.int z392) (.int z393) (.int z394) (.long z395) (.int z383) (.int z384) (.int z385) (.int z5) (.int x_mm_reading)))), (h_tap, .inl (cy_tap, 600, .inl f_tap))] H := hP
                    replace hD : va_D A [(h_nv, .inl (cy_nv, 8000, .inl f189)), (h_nn, .inl (cy_nn, 8000, .inr (.inl f190))), (h_na, .inl (cy_na, 8000, .inl f191)), (h_nb, .inl (cy_nb, 8000, .inl f192)), (h_nc, .inl (cy_nc, 8000, .inl f231)), (h_vrs, .inl (cy_vrs, 32, .inl f194)), (h_let, .inl (cy_let, 256, .inl f195)), (h_mm, .inr (8, (mo126 v_mm (.ref h_nv) (.ref h_nn) (.ref h_na) (.ref h_nb) (.ref h_nc) (.int z180) (.ref h_vrs) (.ref h_let) (.ref h_tap) (.int x_mm_taped) (.int z391) (.int z392) (.int z393) (.int z394) (.long z395) (.int z383) (.int z384) (.int z385) (.int z5) (.int x_mm_reading)))), (h_tap, .inl (cy_tap, 600, .inl f_tap))] := hD
                    clear evq389 
                    obtain ⟨k396, k397, k398, k399, k400, k401, k402, k403, k404, hq⟩ := hq
                    replace k396 : 0 ≤ ((z391)).toInt ∧ ((z391)).toInt ≤ 600 := k396
                    replace k397 : 0 ≤ ((z392)).toInt ∧ ((z392)).toInt ≤ 600 := k397
                    replace k398 : 0 ≤ ((z393)).toInt ∧ ((z393)).toInt ≤ 4 := k398
                    replace k399 : ((z392)).toInt ≤ ((z391)).toInt := k399
                    replace k400 : ((z393)).toInt = kd (tkT (G) ((x_mm_taped)).toInt ((z392)).toInt) := k400
                    replace k401 : ((z393)).toInt = 0 ∨ (((z391)).toInt = tkX (G) ((x_mm_taped)).toInt ((z392)).toInt ∧ ((z394)).toInt = (G) ((z392)).toInt ∧ ((z392)).toInt < ((x_mm_taped)).toInt ∧ ((z392)).toInt + 1 ≤ ((z391)).toInt) := k401
                    replace k402 : ((z391)).toInt ≤ ((x_mm_taped)).toInt := k402
                    replace k403 : ((z392)).toInt ≤ ((x_mm_taped)).toInt := k403
                    replace k404 : NMK ((z393)).toInt ((z395)).toInt (NMI 27 (G) ((x_mm_taped)).toInt ((z392)).toInt) := k404
                    rcases hq with ⟨rfl, hq⟩ | ⟨rfl, hq⟩ | ⟨rfl, hq⟩
                    · replace hq : (((z383)).toInt = 0) ∧ (tkT (G) ((x_mm_taped)).toInt ((z238)).toInt = ((41 : Int32)).toInt) ∧ (((z392)).toInt = tkN (G) ((x_mm_taped)).toInt ((z238)).toInt) ∧ (((z237)).toInt ≤ ((z392)).toInt) ∧ (((z238)).toInt + 1 ≤ ((z392)).toInt) := hq
                      refine lv_if_ne (tgt := 133) hx hb dX11_readsParts_125 (by decide) (fun _ => ?_) (fun c9 => absurd c9 (by decide))
                      refine lv_aload_n hx hb dX11_readsParts_133 rfl (lv_at hl 0 rfl) ?_
                      refine lv_aload_n hx hb dX11_readsParts_134 rfl (lv_at hl 0 rfl) ?_
                      refine va_get (D := (dC, dI)) (ci := 8) (v := .int z5) (C := RX11) (T := TX11) (N := 71) hx hb hw iwX11 hown hK hP 7 rfl rfl 23 (by decide) (hw _ w_f_X11_130) (fun _ h9 => h9) rfl dX11_readsParts_135 ?_
                      refine lv_iconst (v := 1) hx hb dX11_readsParts_138 (by decide) ?_
                      refine lv_isub hx hb dX11_readsParts_139 ?_
                      refine lv_topi (fun z405 ez405 => ?_)
                      have tz405 : (z405).toInt = (z5).toInt - 1 := by rw [ez405]; exact i_sub rfl (by decide) (by omega)
                      refine va_put (D := (dC, dI)) (ci := 8) (v := .int z405) (ty := tyX11 23) (C := RX11) (T := TX11) (N := 71) hx hb hw iwX11 tyX11 tyX11_ok nmX11 hown hK hP hD hS 7 rfl rfl 23 (by decide) (hw _ w_f_X11_130) (fun _ h9 => h9) rfl (tyX11_ok 23 (by decide)) rfl rfl (Nat.le_of_ble_eq_true rfl) dX11_readsParts_140 (fun H locs hP9 hD9 hS9 => ?_)
                      clear hP hD hS
                      have hP : va_P (dC, dI) cls [(h_nv, .inl (cy_nv, 8000, .inl f189)), (h_nn, .inl (cy_nn, 8000, .inr (.inl f190))), (h_na, .inl (cy_na, 8000, .inl f191)), (h_nb, .inl (cy_nb, 8000, .inl f192)), (h_nc, .inl (cy_nc, 8000, .inl f231)), (h_vrs, .inl (cy_vrs, 32, .inl f194)), (h_let, .inl (cy_let, 256, .inl f195)), (h_mm, .inr (8, (mo126 v_mm (.ref h_nv) (.ref h_nn) (.ref h_na) (.ref h_nb) (.ref h_nc) (.int z180) (.ref h_vrs) (.ref h_let) (.ref h_tap) (.int x_mm_taped) (.int z391) (.int z392) (.int z393) (.int z394) (.long z395) (.int z383) (.int z384) (.int z385) (.int z405) (.int x_mm_reading)))), (h_tap, .inl (cy_tap, 600, .inl f_tap))] H := hP9
                      have hD : va_D A [(h_nv, .inl (cy_nv, 8000, .inl f189)), (h_nn, .inl (cy_nn, 8000, .inr (.inl f190))), (h_na, .inl (cy_na, 8000, .inl f191)), (h_nb, .inl (cy_nb, 8000, .inl f192)), (h_nc, .inl (cy_nc, 8000, .inl f231)), (h_vrs, .inl (cy_vrs, 32, .inl f194)), (h_let, .inl (cy_let, 256, .inl f195)), (h_mm, .inr (8, (mo126 v_mm (.ref h_nv) (.ref h_nn) (.ref h_na) (.ref h_nb) (.ref h_nc) (.int z180) (.ref h_vrs) (.ref h_let) (.ref h_tap) (.int x_mm_taped) (.int z391) (.int z392) (.int z393) (.int z394) (.long z395) (.int z383) (.int z384) (.int z385) (.int z405) (.int x_mm_reading)))), (h_tap, .inl (cy_tap, 600, .inl f_tap))] := hD9
                      have hS := hS9
                      clear hP9 hD9 hS9
                      have oz9 : x_mm_opened = z405 := Int32.toInt_inj.mp (by omega)
                      subst oz9
                      replace hP : va_P (dC, dI) cls [(h_mm, .inr (8, (mo126 v_mm (.ref h_nv) (.ref h_nn) (.ref h_na) (.ref h_nb) (.ref h_nc) (.int z180) (.ref h_vrs) (.ref h_let) (.ref h_tap) (.int x_mm_taped) (.int z391) (.int z392) (.int z393) (.int z394) (.long z395) (.int z383) (.int z384) (.int z385) (.int x_mm_opened) (.int x_mm_reading)))), (h_tap, .inl (cy_tap, 600, .inl f_tap)), (h_nv, .inl (cy_nv, 8000, .inl f189)), (h_nn, .inl (cy_nn, 8000, .inr (.inl f190))), (h_na, .inl (cy_na, 8000, .inl f191)), (h_nb, .inl (cy_nb, 8000, .inl f192)), (h_nc, .inl (cy_nc, 8000, .inl f231)), (h_vrs, .inl (cy_vrs, 32, .inl f194)), (h_let, .inl (cy_let, 256, .inl f195))] H := hP.sub [7, 8, 0, 1, 2, 3, 4, 5, 6] rfl
                      replace hD : va_D A [(h_mm, .inr (8, (mo126 v_mm (.ref h_nv) (.ref h_nn) (.ref h_na) (.ref h_nb) (.ref h_nc) (.int z180) (.ref h_vrs) (.ref h_let) (.ref h_tap) (.int x_mm_taped) (.int z391) (.int z392) (.int z393) (.int z394) (.long z395) (.int z383) (.int z384) (.int z385) (.int x_mm_opened) (.int x_mm_reading)))), (h_tap, .inl (cy_tap, 600, .inl f_tap)), (h_nv, .inl (cy_nv, 8000, .inl f189)), (h_nn, .inl (cy_nn, 8000, .inr (.inl f190))), (h_na, .inl (cy_na, 8000, .inl f191)), (h_nb, .inl (cy_nb, 8000, .inl f192)), (h_nc, .inl (cy_nc, 8000, .inl f231)), (h_vrs, .inl (cy_vrs, 32, .inl f194)), (h_let, .inl (cy_let, 256, .inl f195))] := hD.sub [7, 8, 0, 1, 2, 3, 4, 5, 6] (by decide) rfl
                      refine W.widen (k := 0) (n := 0) (Nat.le_of_ble_eq_true rfl) (Nat.le_of_ble_eq_true rfl) ?_
                      have w406 : 0 ≤ ((z180)).toInt ∧ ((z180)).toInt ≤ 1200 := by first | exact k197 | omega
                      have w407 : 0 ≤ ((z391)).toInt ∧ ((z391)).toInt ≤ 600 := by first | exact k396 | omega
                      have w408 : 0 ≤ ((z392)).toInt ∧ ((z392)).toInt ≤ 600 := by first | exact k397 | omega
                      have w409 : 0 ≤ ((z393)).toInt ∧ ((z393)).toInt ≤ 4 := by first | exact k398 | omega
                      have w410 : 0 ≤ ((z383)).toInt ∧ ((z383)).toInt ≤ 1 := by first | exact k386 | omega
                      have w411 : ((z392)).toInt ≤ ((z391)).toInt := by first | exact k399 | omega
                      have w412 : ((z383)).toInt = 1 ∨ ((z180)).toInt ≤ lo + ((z392)).toInt := by omega
                      have w413 : (x_mm_nodes).toInt ≤ ((z180)).toInt := by omega
                      have w414 : (x_mm_place).toInt ≤ ((z392)).toInt := by omega
                      have w415 : (x_mm_isFaulty).toInt ≤ ((z383)).toInt := by omega
                      have w416 : (((z383)).toInt = 0 ∧ ((pPs G (x_mm_taped).toInt dd (x_mm_place).toInt nv vf)).1 = 0 ∧ ((z384)).toInt = (x_mm_fault).toInt ∧ ((z385)).toInt = (x_mm_faultPlace).toInt) ∨ (((z383)).toInt = 1 ∧ ¬ ((pPs G (x_mm_taped).toInt dd (x_mm_place).toInt nv vf)).1 = 0 ∧ ((z384)).toInt = ((pPs G (x_mm_taped).toInt dd (x_mm_place).toInt nv vf)).1 ∧ ((z385)).toInt = ((pPs G (x_mm_taped).toInt dd (x_mm_place).toInt nv vf)).2.1) := by omega
                      have w417 : ((z392)).toInt = ((pPs G (x_mm_taped).toInt dd (x_mm_place).toInt nv vf)).2.1 := by omega
                      have w418 : 0 ≤ ((pPs G (x_mm_taped).toInt dd (x_mm_place).toInt nv vf)).2.2.1 ∧ ((pPs G (x_mm_taped).toInt dd (x_mm_place).toInt nv vf)).2.2.1 ≤ 8 := by omega
                      have w419 : ((z393)).toInt = kd (tkT G (x_mm_taped).toInt ((z392)).toInt) := by first | exact k400 | omega
                      have w420 : ((z393)).toInt = 0 ∨ (((z391)).toInt = tkX G (x_mm_taped).toInt ((z392)).toInt ∧ ((z394)).toInt = G ((z392)).toInt ∧ ((z392)).toInt < (x_mm_taped).toInt ∧ ((z392)).toInt + 1 ≤ ((z391)).toInt) := by first | exact k401 | omega
                      have w421 : ((z391)).toInt ≤ (x_mm_taped).toInt := by first | exact k402 | omega
                      have w422 : ((z392)).toInt ≤ (x_mm_taped).toInt := by first | exact k403 | omega
                      have w423 : EQ0 lo za zb zc zv (f191) (f192) (f231) (f189) := nd233
                      have w424 : ND lo ((z180)).toInt (gh196) (f191) (f192) (f231) := (nd_cast nd232 (by omega))
                      have w425 : ∀ y : Nat, (y : Int) < (x_mm_nodes).toInt → (gh196) y = hh y := (fun y hy => (k219 y (by omega)).trans ((k142 y (by omega)).trans ((k65 y (by omega)).trans (rfl))))
                      have w426 : VRF (x_mm_reading).toInt f_vrs (f194) := vr229
                      have w427 : ((f194) (Int32.toNatClampNeg x_mm_reading)).toInt = ((pPs G (x_mm_taped).toInt dd (x_mm_place).toInt nv vf)).2.2.1 := (k221.trans pq3803.symm)
                      have w428 : VFM ((pPs G (x_mm_taped).toInt dd (x_mm_place).toInt nv vf)).2.2.1 ((pPs G (x_mm_taped).toInt dd (x_mm_place).toInt nv vf)).2.2.2 (f195) (x_mm_reading).toInt := (by rw [pq3803, pq3804]; exact k222)
                      have w429 : NMK ((z393)).toInt ((z395)).toInt (NMI 27 G (x_mm_taped).toInt ((z392)).toInt) := k404
                      have w430 : IFZ ((z383)).toInt (∃ L B : Nat, (L : Int) = (x_mm_nodes).toInt ∧ (B : Int) = ((z180)).toInt ∧ NMX G (x_mm_taped).toInt (RVW (f189) (f190) (f191) (f192) (f231)) (SPX G (x_mm_taped).toInt 27 (RVW (f189) (f190) (f191) (f192) (f231)) ((pPs G (x_mm_taped).toInt dd (x_mm_place).toInt nv vf)).2.2.1 ((pPs G (x_mm_taped).toInt dd (x_mm_place).toInt nv vf)).2.2.2 k0 L B dd) (Int32.toNatClampNeg p1) (x_mm_place).toInt ((z392)).toInt) := (ifz_no (by omega))
                      have w431 : AGN (x_mm_nodes).toInt (p1).toInt f_nv (f189) f_nn (f190) f_na (f191) f_nb (f192) f_nc (f231) := an234
                      exact W.vret hx hb hr (fun t ht hW => ⟨⟨(z180, z391, z392, z393, z394, z395, z383, z384, z385, f189, f190, f191, f192, f231, f194, f195, gh196), rfl, ⟨w406, w407, w408, w409, w410, hf189, hf191, hf192, hf231, hf194, w411, w412, w413, w414, w415, w416, w417, w418, w419, w420, w421, w422, w423, w424, w425, w426, w427, w428, w429, w430, w431⟩, by rw [ht]; exact hP, hD⟩, hS.F ht⟩) hS.2.2 dX11_readsParts_143
                    · replace hq : (((z392)).toInt = ((z238)).toInt) ∧ (((z391)).toInt = ((z237)).toInt) ∧ (((z393)).toInt = ((z239)).toInt) ∧ (((z383)).toInt = 1) := hq
                      refine lv_if_ne (tgt := 133) hx hb dX11_readsParts_125 (by decide) (fun c9 => absurd c9 (by decide)) (fun _ => ?_)
                      refine lv_aload_n hx hb dX11_readsParts_128 rfl (lv_at hl 0 rfl) ?_
                      refine lv_iconst (v := 1) hx hb dX11_readsParts_129 (by decide) ?_
                      obtain ⟨vq432, evq432⟩ := mq126_90 v_mm (.ref h_nv) (.ref h_nn) (.ref h_na) (.ref h_nb) (.ref h_nc) (.int z180) (.ref h_vrs) (.ref h_let) (.ref h_tap) (.int x_mm_taped) (.int z391) (.int z393) (.int z394) (.long z395) (.int z5) (.int x_mm_reading)
                      replace hP : va_P (dC, dI) cls [(h_nv, .inl (cy_nv, 8000, .inl f189)), (h_nn, .inl (cy_nn, 8000, .inr (.inl f190))), (h_na, .inl (cy_na, 8000, .inl f191)), (h_nb, .inl (cy_nb, 8000, .inl f192)), (h_nc, .inl (cy_nc, 8000, .inl f231)), (h_vrs, .inl (cy_vrs, 32, .inl f194)), (h_let, .inl (cy_let, 256, .inl f195)), (h_mm, .inr (8, (mo90 vq432 (.int z392) (.int z383) (.int z384) (.int z385)))), (h_tap, .inl (cy_tap, 600, .inl f_tap))] H := by rw [evq432]; exact hP
                      replace hD : va_D A [(h_nv, .inl (cy_nv, 8000, .inl f189)), (h_nn, .inl (cy_nn, 8000, .inr (.inl f190))), (h_na, .inl (cy_na, 8000, .inl f191)), (h_nb, .inl (cy_nb, 8000, .inl f192)), (h_nc, .inl (cy_nc, 8000, .inl f231)), (h_vrs, .inl (cy_vrs, 32, .inl f194)), (h_let, .inl (cy_let, 256, .inl f195)), (h_mm, .inr (8, (mo90 vq432 (.int z392) (.int z383) (.int z384) (.int z385)))), (h_tap, .inl (cy_tap, 600, .inl f_tap))] := by rw [evq432]; exact hD
                      have cst1 : (1 : Int32).toInt = 1 := by decide
                      have hPc := hP.sub (ws' := [(h_mm, .inr (8, (mo90 vq432 (.int z392) (.int z383) (.int z384) (.int z385))))]) [7] rfl
                      have hDc := hD.sub (ws' := [(h_mm, .inr (8, (mo90 vq432 (.int z392) (.int z383) (.int z384) (.int z385))))]) [7] (by decide) rfl
                      have hKc := hK.sub (tys' := []) [] rfl
                      have hFc := va_free (wc := [(h_mm, .inr (8, (mo90 vq432 (.int z392) (.int z383) (.int z384) (.int z385))))]) hD hS hA [7] rfl
                      refine va_callv (va_runV (As := [.int 1]) (rest := []) ⟨hx, hb, hml, hown, hts⟩ (c_X11_faulty l dC dI H.size h_mm vq432 z392 z383 z384 z385 1 (by first | exact k397 | omega) (by first | exact k386 | omega)) (cwV 1 hts (gv hT w_m_X11_111 w_instanceMethod_X11_faulty ws_sel_X11_faulty w_ini_X11 w_code_X11_faulty) rfl rfl rfl (by decide +kernel) ⟨(by dsimp only [headSpec]; omega), (by dsimp only [headSpec]; omega)⟩) ⟨pre_blind, va_recv hK hP (ci := 8) (q0 := 7) rfl rfl, pre_of hPc hKc hDc hN⟩ rfl rfl hl.1 rfl (lv_room (Nat.le_of_ble_eq_true rfl)) dX11_readsParts_130 ⟨(Nat.le_of_ble_eq_true rfl), (Nat.le_of_ble_eq_true rfl)⟩) hS (fun q _ h => hFc q h) hFc (fun u t H locs ht hvm hq hB hz1 hk1 hS9 => ?_)
                      obtain ⟨z434, z435, z436⟩ := u
                      obtain ⟨hP1, hD1⟩ := hB
                      rw [ht] at hP1
                      obtain ⟨hP9, hD9⟩ := va_join (wr := [(h_nv, .inl (cy_nv, 8000, .inl f189)), (h_nn, .inl (cy_nn, 8000, .inr (.inl f190))), (h_na, .inl (cy_na, 8000, .inl f191)), (h_nb, .inl (cy_nb, 8000, .inl f192)), (h_nc, .inl (cy_nc, 8000, .inl f231)), (h_vrs, .inl (cy_vrs, 32, .inl f194)), (h_let, .inl (cy_let, 256, .inl f195)), (h_tap, .inl (cy_tap, 600, .inl f_tap))]) (w1 := [(h_mm, .inr (8, (mo90 vq432 (.int z392) (.int z434) (.int z435) (.int z436))))]) hP hD [7] [0, 1, 2, 3, 4, 5, 6, 8] rfl rfl (by decide) (by decide) hk1 hFc hP1 hD1
                      clear hP hD hS hPc hDc hKc hFc hP1 hD1 hk1 hz1 ht hvm
                      have hP : va_P (dC, dI) cls [(h_nv, .inl (cy_nv, 8000, .inl f189)), (h_nn, .inl (cy_nn, 8000, .inr (.inl f190))), (h_na, .inl (cy_na, 8000, .inl f191)), (h_nb, .inl (cy_nb, 8000, .inl f192)), (h_nc, .inl (cy_nc, 8000, .inl f231)), (h_vrs, .inl (cy_vrs, 32, .inl f194)), (h_let, .inl (cy_let, 256, .inl f195)), (h_tap, .inl (cy_tap, 600, .inl f_tap)), (h_mm, .inr (8, (mo90 vq432 (.int z392) (.int z434) (.int z435) (.int z436))))] H := hP9
                      have hD : va_D A [(h_nv, .inl (cy_nv, 8000, .inl f189)), (h_nn, .inl (cy_nn, 8000, .inr (.inl f190))), (h_na, .inl (cy_na, 8000, .inl f191)), (h_nb, .inl (cy_nb, 8000, .inl f192)), (h_nc, .inl (cy_nc, 8000, .inl f231)), (h_vrs, .inl (cy_vrs, 32, .inl f194)), (h_let, .inl (cy_let, 256, .inl f195)), (h_tap, .inl (cy_tap, 600, .inl f_tap)), (h_mm, .inr (8, (mo90 vq432 (.int z392) (.int z434) (.int z435) (.int z436))))] := hD9
                      have hS := hS9
                      clear hP9 hD9 hS9
                      rw [evq432] at hP hD
                      replace hP : va_P (dC, dI) cls [(h_nv, .inl (cy_nv, 8000, .inl f189)), (h_nn, .inl (cy_nn, 8000, .inr (.inl f190))), (h_na, .inl (cy_na, 8000, .inl f191)), (h_nb, .inl (cy_nb, 8000, .inl f192)), (h_nc, .inl (cy_nc, 8000, .inl f231)), (h_vrs, .inl (cy_vrs, 32, .inl f194)), (h_let, .inl (cy_let, 256, .inl f195)), (h_tap, .inl (cy_tap, 600, .inl f_tap)), (h_mm, .inr (8, (mo126 v_mm (.ref h_nv) (.ref h_nn) (.ref h_na) (.ref h_nb) (.ref h_nc) (.int z180) (.ref h_vrs) (.ref h_let) (.ref h_tap) (.int x_mm_taped) (.int z391) (.int z392) (.int z393) (.int z394) (.long z395) (.int z434) (.int z435) (.int z436) (.int z5) (.int x_mm_reading))))] H := hP
                      replace hD : va_D A [(h_nv, .inl (cy_nv, 8000, .inl f189)), (h_nn, .inl (cy_nn, 8000, .inr (.inl f190))), (h_na, .inl (cy_na, 8000, .inl f191)), (h_nb, .inl (cy_nb, 8000, .inl f192)), (h_nc, .inl (cy_nc, 8000, .inl f231)), (h_vrs, .inl (cy_vrs, 32, .inl f194)), (h_let, .inl (cy_let, 256, .inl f195)), (h_tap, .inl (cy_tap, 600, .inl f_tap)), (h_mm, .inr (8, (mo126 v_mm (.ref h_nv) (.ref h_nn) (.ref h_na) (.ref h_nb) (.ref h_nc) (.int z180) (.ref h_vrs) (.ref h_let) (.ref h_tap) (.int x_mm_taped) (.int z391) (.int z392) (.int z393) (.int z394) (.long z395) (.int z434) (.int z435) (.int z436) (.int z5) (.int x_mm_reading))))] := hD
                      clear evq432 
                      obtain ⟨k437, k438, k439⟩ := hq
                      replace k437 : 0 ≤ ((z434)).toInt ∧ ((z434)).toInt ≤ 1 := k437
                      replace k438 : ((z434)).toInt = 1 := k438
                      replace k439 : (((z383)).toInt = 1 ∧ ((z435)).toInt = ((z384)).toInt ∧ ((z436)).toInt = ((z385)).toInt) ∨ (((z383)).toInt = 0 ∧ ((z435)).toInt = ((1 : Int32)).toInt ∧ ((z436)).toInt = ((z392)).toInt) := k439
                      refine lv_aload_n hx hb dX11_readsParts_133 rfl (lv_at hl 0 rfl) ?_
                      refine lv_aload_n hx hb dX11_readsParts_134 rfl (lv_at hl 0 rfl) ?_
                      refine va_get (D := (dC, dI)) (ci := 8) (v := .int z5) (C := RX11) (T := TX11) (N := 71) hx hb hw iwX11 hown hK hP 8 rfl rfl 23 (by decide) (hw _ w_f_X11_130) (fun _ h9 => h9) rfl dX11_readsParts_135 ?_
                      refine lv_iconst (v := 1) hx hb dX11_readsParts_138 (by decide) ?_
                      refine lv_isub hx hb dX11_readsParts_139 ?_
                      refine lv_topi (fun z440 ez440 => ?_)
                      have tz440 : (z440).toInt = (z5).toInt - 1 := by rw [ez440]; exact i_sub rfl (by decide) (by omega)
                      refine va_put (D := (dC, dI)) (ci := 8) (v := .int z440) (ty := tyX11 23) (C := RX11) (T := TX11) (N := 71) hx hb hw iwX11 tyX11 tyX11_ok nmX11 hown hK hP hD hS 8 rfl rfl 23 (by decide) (hw _ w_f_X11_130) (fun _ h9 => h9) rfl (tyX11_ok 23 (by decide)) rfl rfl (Nat.le_of_ble_eq_true rfl) dX11_readsParts_140 (fun H locs hP9 hD9 hS9 => ?_)
                      clear hP hD hS
                      have hP : va_P (dC, dI) cls [(h_nv, .inl (cy_nv, 8000, .inl f189)), (h_nn, .inl (cy_nn, 8000, .inr (.inl f190))), (h_na, .inl (cy_na, 8000, .inl f191)), (h_nb, .inl (cy_nb, 8000, .inl f192)), (h_nc, .inl (cy_nc, 8000, .inl f231)), (h_vrs, .inl (cy_vrs, 32, .inl f194)), (h_let, .inl (cy_let, 256, .inl f195)), (h_tap, .inl (cy_tap, 600, .inl f_tap)), (h_mm, .inr (8, (mo126 v_mm (.ref h_nv) (.ref h_nn) (.ref h_na) (.ref h_nb) (.ref h_nc) (.int z180) (.ref h_vrs) (.ref h_let) (.ref h_tap) (.int x_mm_taped) (.int z391) (.int z392) (.int z393) (.int z394) (.long z395) (.int z434) (.int z435) (.int z436) (.int z440) (.int x_mm_reading))))] H := hP9
                      have hD : va_D A [(h_nv, .inl (cy_nv, 8000, .inl f189)), (h_nn, .inl (cy_nn, 8000, .inr (.inl f190))), (h_na, .inl (cy_na, 8000, .inl f191)), (h_nb, .inl (cy_nb, 8000, .inl f192)), (h_nc, .inl (cy_nc, 8000, .inl f231)), (h_vrs, .inl (cy_vrs, 32, .inl f194)), (h_let, .inl (cy_let, 256, .inl f195)), (h_tap, .inl (cy_tap, 600, .inl f_tap)), (h_mm, .inr (8, (mo126 v_mm (.ref h_nv) (.ref h_nn) (.ref h_na) (.ref h_nb) (.ref h_nc) (.int z180) (.ref h_vrs) (.ref h_let) (.ref h_tap) (.int x_mm_taped) (.int z391) (.int z392) (.int z393) (.int z394) (.long z395) (.int z434) (.int z435) (.int z436) (.int z440) (.int x_mm_reading))))] := hD9
                      have hS := hS9
                      clear hP9 hD9 hS9
                      have oz9 : x_mm_opened = z440 := Int32.toInt_inj.mp (by omega)
                      subst oz9
                      replace hP : va_P (dC, dI) cls [(h_mm, .inr (8, (mo126 v_mm (.ref h_nv) (.ref h_nn) (.ref h_na) (.ref h_nb) (.ref h_nc) (.int z180) (.ref h_vrs) (.ref h_let) (.ref h_tap) (.int x_mm_taped) (.int z391) (.int z392) (.int z393) (.int z394) (.long z395) (.int z434) (.int z435) (.int z436) (.int x_mm_opened) (.int x_mm_reading)))), (h_tap, .inl (cy_tap, 600, .inl f_tap)), (h_nv, .inl (cy_nv, 8000, .inl f189)), (h_nn, .inl (cy_nn, 8000, .inr (.inl f190))), (h_na, .inl (cy_na, 8000, .inl f191)), (h_nb, .inl (cy_nb, 8000, .inl f192)), (h_nc, .inl (cy_nc, 8000, .inl f231)), (h_vrs, .inl (cy_vrs, 32, .inl f194)), (h_let, .inl (cy_let, 256, .inl f195))] H := hP.sub [8, 7, 0, 1, 2, 3, 4, 5, 6] rfl
                      replace hD : va_D A [(h_mm, .inr (8, (mo126 v_mm (.ref h_nv) (.ref h_nn) (.ref h_na) (.ref h_nb) (.ref h_nc) (.int z180) (.ref h_vrs) (.ref h_let) (.ref h_tap) (.int x_mm_taped) (.int z391) (.int z392) (.int z393) (.int z394) (.long z395) (.int z434) (.int z435) (.int z436) (.int x_mm_opened) (.int x_mm_reading)))), (h_tap, .inl (cy_tap, 600, .inl f_tap)), (h_nv, .inl (cy_nv, 8000, .inl f189)), (h_nn, .inl (cy_nn, 8000, .inr (.inl f190))), (h_na, .inl (cy_na, 8000, .inl f191)), (h_nb, .inl (cy_nb, 8000, .inl f192)), (h_nc, .inl (cy_nc, 8000, .inl f231)), (h_vrs, .inl (cy_vrs, 32, .inl f194)), (h_let, .inl (cy_let, 256, .inl f195))] := hD.sub [8, 7, 0, 1, 2, 3, 4, 5, 6] (by decide) rfl
                      refine W.widen (k := 0) (n := 0) (Nat.le_of_ble_eq_true rfl) (Nat.le_of_ble_eq_true rfl) ?_
                      have w441 : 0 ≤ ((z180)).toInt ∧ ((z180)).toInt ≤ 1200 := by first | exact k197 | omega
                      have w442 : 0 ≤ ((z391)).toInt ∧ ((z391)).toInt ≤ 600 := by first | exact k396 | omega
                      have w443 : 0 ≤ ((z392)).toInt ∧ ((z392)).toInt ≤ 600 := by first | exact k397 | omega
                      have w444 : 0 ≤ ((z393)).toInt ∧ ((z393)).toInt ≤ 4 := by first | exact k398 | omega
                      have w445 : 0 ≤ ((z434)).toInt ∧ ((z434)).toInt ≤ 1 := by first | exact k437 | omega
                      have w446 : ((z392)).toInt ≤ ((z391)).toInt := by first | exact k399 | omega
                      have w447 : ((z434)).toInt = 1 ∨ ((z180)).toInt ≤ lo + ((z392)).toInt := by omega
                      have w448 : (x_mm_nodes).toInt ≤ ((z180)).toInt := by omega
                      have w449 : (x_mm_place).toInt ≤ ((z392)).toInt := by omega
                      have w450 : (x_mm_isFaulty).toInt ≤ ((z434)).toInt := by omega
                      have w451 : (((z434)).toInt = 0 ∧ ((pPs G (x_mm_taped).toInt dd (x_mm_place).toInt nv vf)).1 = 0 ∧ ((z435)).toInt = (x_mm_fault).toInt ∧ ((z436)).toInt = (x_mm_faultPlace).toInt) ∨ (((z434)).toInt = 1 ∧ ¬ ((pPs G (x_mm_taped).toInt dd (x_mm_place).toInt nv vf)).1 = 0 ∧ ((z435)).toInt = ((pPs G (x_mm_taped).toInt dd (x_mm_place).toInt nv vf)).1 ∧ ((z436)).toInt = ((pPs G (x_mm_taped).toInt dd (x_mm_place).toInt nv vf)).2.1) := by omega
                      have w452 : ((z392)).toInt = ((pPs G (x_mm_taped).toInt dd (x_mm_place).toInt nv vf)).2.1 := by omega
                      have w453 : 0 ≤ ((pPs G (x_mm_taped).toInt dd (x_mm_place).toInt nv vf)).2.2.1 ∧ ((pPs G (x_mm_taped).toInt dd (x_mm_place).toInt nv vf)).2.2.1 ≤ 8 := by omega
                      have w454 : ((z393)).toInt = kd (tkT G (x_mm_taped).toInt ((z392)).toInt) := by first | exact k400 | omega
                      have w455 : ((z393)).toInt = 0 ∨ (((z391)).toInt = tkX G (x_mm_taped).toInt ((z392)).toInt ∧ ((z394)).toInt = G ((z392)).toInt ∧ ((z392)).toInt < (x_mm_taped).toInt ∧ ((z392)).toInt + 1 ≤ ((z391)).toInt) := by first | exact k401 | omega
                      have w456 : ((z391)).toInt ≤ (x_mm_taped).toInt := by first | exact k402 | omega
                      have w457 : ((z392)).toInt ≤ (x_mm_taped).toInt := by first | exact k403 | omega
                      have w458 : EQ0 lo za zb zc zv (f191) (f192) (f231) (f189) := nd233
                      have w459 : ND lo ((z180)).toInt (gh196) (f191) (f192) (f231) := (nd_cast nd232 (by omega))
                      have w460 : ∀ y : Nat, (y : Int) < (x_mm_nodes).toInt → (gh196) y = hh y := (fun y hy => (k219 y (by omega)).trans ((k142 y (by omega)).trans ((k65 y (by omega)).trans (rfl))))
                      have w461 : VRF (x_mm_reading).toInt f_vrs (f194) := vr229
                      have w462 : ((f194) (Int32.toNatClampNeg x_mm_reading)).toInt = ((pPs G (x_mm_taped).toInt dd (x_mm_place).toInt nv vf)).2.2.1 := (k221.trans pq3803.symm)
                      have w463 : VFM ((pPs G (x_mm_taped).toInt dd (x_mm_place).toInt nv vf)).2.2.1 ((pPs G (x_mm_taped).toInt dd (x_mm_place).toInt nv vf)).2.2.2 (f195) (x_mm_reading).toInt := (by rw [pq3803, pq3804]; exact k222)
                      have w464 : NMK ((z393)).toInt ((z395)).toInt (NMI 27 G (x_mm_taped).toInt ((z392)).toInt) := k404
                      have w465 : IFZ ((z434)).toInt (∃ L B : Nat, (L : Int) = (x_mm_nodes).toInt ∧ (B : Int) = ((z180)).toInt ∧ NMX G (x_mm_taped).toInt (RVW (f189) (f190) (f191) (f192) (f231)) (SPX G (x_mm_taped).toInt 27 (RVW (f189) (f190) (f191) (f192) (f231)) ((pPs G (x_mm_taped).toInt dd (x_mm_place).toInt nv vf)).2.2.1 ((pPs G (x_mm_taped).toInt dd (x_mm_place).toInt nv vf)).2.2.2 k0 L B dd) (Int32.toNatClampNeg p1) (x_mm_place).toInt ((z392)).toInt) := (ifz_no (by omega))
                      have w466 : AGN (x_mm_nodes).toInt (p1).toInt f_nv (f189) f_nn (f190) f_na (f191) f_nb (f192) f_nc (f231) := an234
                      exact W.vret hx hb hr (fun t ht hW => ⟨⟨(z180, z391, z392, z393, z394, z395, z434, z435, z436, f189, f190, f191, f192, f231, f194, f195, gh196), rfl, ⟨w441, w442, w443, w444, w445, hf189, hf191, hf192, hf231, hf194, w446, w447, w448, w449, w450, w451, w452, w453, w454, w455, w456, w457, w458, w459, w460, w461, w462, w463, w464, w465, w466⟩, by rw [ht]; exact hP, hD⟩, hS.F ht⟩) hS.2.2 dX11_readsParts_143
                    · replace hq : (((z392)).toInt = ((z238)).toInt) ∧ (((z391)).toInt = ((z237)).toInt) ∧ (((z393)).toInt = ((z239)).toInt) ∧ (((z383)).toInt = 0) ∧ (¬ tkT (G) ((x_mm_taped)).toInt ((z238)).toInt = ((41 : Int32)).toInt) := hq
                      refine lv_if_ne (tgt := 133) hx hb dX11_readsParts_125 (by decide) (fun c9 => absurd c9 (by decide)) (fun _ => ?_)
                      refine lv_aload_n hx hb dX11_readsParts_128 rfl (lv_at hl 0 rfl) ?_
                      refine lv_iconst (v := 1) hx hb dX11_readsParts_129 (by decide) ?_
                      obtain ⟨vq467, evq467⟩ := mq126_90 v_mm (.ref h_nv) (.ref h_nn) (.ref h_na) (.ref h_nb) (.ref h_nc) (.int z180) (.ref h_vrs) (.ref h_let) (.ref h_tap) (.int x_mm_taped) (.int z391) (.int z393) (.int z394) (.long z395) (.int z5) (.int x_mm_reading)
                      replace hP : va_P (dC, dI) cls [(h_nv, .inl (cy_nv, 8000, .inl f189)), (h_nn, .inl (cy_nn, 8000, .inr (.inl f190))), (h_na, .inl (cy_na, 8000, .inl f191)), (h_nb, .inl (cy_nb, 8000, .inl f192)), (h_nc, .inl (cy_nc, 8000, .inl f231)), (h_vrs, .inl (cy_vrs, 32, .inl f194)), (h_let, .inl (cy_let, 256, .inl f195)), (h_mm, .inr (8, (mo90 vq467 (.int z392) (.int z383) (.int z384) (.int z385)))), (h_tap, .inl (cy_tap, 600, .inl f_tap))] H := by rw [evq467]; exact hP
                      replace hD : va_D A [(h_nv, .inl (cy_nv, 8000, .inl f189)), (h_nn, .inl (cy_nn, 8000, .inr (.inl f190))), (h_na, .inl (cy_na, 8000, .inl f191)), (h_nb, .inl (cy_nb, 8000, .inl f192)), (h_nc, .inl (cy_nc, 8000, .inl f231)), (h_vrs, .inl (cy_vrs, 32, .inl f194)), (h_let, .inl (cy_let, 256, .inl f195)), (h_mm, .inr (8, (mo90 vq467 (.int z392) (.int z383) (.int z384) (.int z385)))), (h_tap, .inl (cy_tap, 600, .inl f_tap))] := by rw [evq467]; exact hD
                      have cst1 : (1 : Int32).toInt = 1 := by decide
                      have hPc := hP.sub (ws' := [(h_mm, .inr (8, (mo90 vq467 (.int z392) (.int z383) (.int z384) (.int z385))))]) [7] rfl
                      have hDc := hD.sub (ws' := [(h_mm, .inr (8, (mo90 vq467 (.int z392) (.int z383) (.int z384) (.int z385))))]) [7] (by decide) rfl
                      have hKc := hK.sub (tys' := []) [] rfl
                      have hFc := va_free (wc := [(h_mm, .inr (8, (mo90 vq467 (.int z392) (.int z383) (.int z384) (.int z385))))]) hD hS hA [7] rfl
                      refine va_callv (va_runV (As := [.int 1]) (rest := []) ⟨hx, hb, hml, hown, hts⟩ (c_X11_faulty l dC dI H.size h_mm vq467 z392 z383 z384 z385 1 (by first | exact k397 | omega) (by first | exact k386 | omega)) (cwV 1 hts (gv hT w_m_X11_111 w_instanceMethod_X11_faulty ws_sel_X11_faulty w_ini_X11 w_code_X11_faulty) rfl rfl rfl (by decide +kernel) ⟨(by dsimp only [headSpec]; omega), (by dsimp only [headSpec]; omega)⟩) ⟨pre_blind, va_recv hK hP (ci := 8) (q0 := 7) rfl rfl, pre_of hPc hKc hDc hN⟩ rfl rfl hl.1 rfl (lv_room (Nat.le_of_ble_eq_true rfl)) dX11_readsParts_130 ⟨(Nat.le_of_ble_eq_true rfl), (Nat.le_of_ble_eq_true rfl)⟩) hS (fun q _ h => hFc q h) hFc (fun u t H locs ht hvm hq hB hz1 hk1 hS9 => ?_)
                      obtain ⟨z469, z470, z471⟩ := u
                      obtain ⟨hP1, hD1⟩ := hB
                      rw [ht] at hP1
                      obtain ⟨hP9, hD9⟩ := va_join (wr := [(h_nv, .inl (cy_nv, 8000, .inl f189)), (h_nn, .inl (cy_nn, 8000, .inr (.inl f190))), (h_na, .inl (cy_na, 8000, .inl f191)), (h_nb, .inl (cy_nb, 8000, .inl f192)), (h_nc, .inl (cy_nc, 8000, .inl f231)), (h_vrs, .inl (cy_vrs, 32, .inl f194)), (h_let, .inl (cy_let, 256, .inl f195)), (h_tap, .inl (cy_tap, 600, .inl f_tap))]) (w1 := [(h_mm, .inr (8, (mo90 vq467 (.int z392) (.int z469) (.int z470) (.int z471))))]) hP hD [7] [0, 1, 2, 3, 4, 5, 6, 8] rfl rfl (by decide) (by decide) hk1 hFc hP1 hD1
                      clear hP hD hS hPc hDc hKc hFc hP1 hD1 hk1 hz1 ht hvm
                      have hP : va_P (dC, dI) cls [(h_nv, .inl (cy_nv, 8000, .inl f189)), (h_nn, .inl (cy_nn, 8000, .inr (.inl f190))), (h_na, .inl (cy_na, 8000, .inl f191)), (h_nb, .inl (cy_nb, 8000, .inl f192)), (h_nc, .inl (cy_nc, 8000, .inl f231)), (h_vrs, .inl (cy_vrs, 32, .inl f194)), (h_let, .inl (cy_let, 256, .inl f195)), (h_tap, .inl (cy_tap, 600, .inl f_tap)), (h_mm, .inr (8, (mo90 vq467 (.int z392) (.int z469) (.int z470) (.int z471))))] H := hP9
                      have hD : va_D A [(h_nv, .inl (cy_nv, 8000, .inl f189)), (h_nn, .inl (cy_nn, 8000, .inr (.inl f190))), (h_na, .inl (cy_na, 8000, .inl f191)), (h_nb, .inl (cy_nb, 8000, .inl f192)), (h_nc, .inl (cy_nc, 8000, .inl f231)), (h_vrs, .inl (cy_vrs, 32, .inl f194)), (h_let, .inl (cy_let, 256, .inl f195)), (h_tap, .inl (cy_tap, 600, .inl f_tap)), (h_mm, .inr (8, (mo90 vq467 (.int z392) (.int z469) (.int z470) (.int z471))))] := hD9
                      have hS := hS9
                      clear hP9 hD9 hS9
                      rw [evq467] at hP hD
                      replace hP : va_P (dC, dI) cls [(h_nv, .inl (cy_nv, 8000, .inl f189)), (h_nn, .inl (cy_nn, 8000, .inr (.inl f190))), (h_na, .inl (cy_na, 8000, .inl f191)), (h_nb, .inl (cy_nb, 8000, .inl f192)), (h_nc, .inl (cy_nc, 8000, .inl f231)), (h_vrs, .inl (cy_vrs, 32, .inl f194)), (h_let, .inl (cy_let, 256, .inl f195)), (h_tap, .inl (cy_tap, 600, .inl f_tap)), (h_mm, .inr (8, (mo126 v_mm (.ref h_nv) (.ref h_nn) (.ref h_na) (.ref h_nb) (.ref h_nc) (.int z180) (.ref h_vrs) (.ref h_let) (.ref h_tap) (.int x_mm_taped) (.int z391) (.int z392) (.int z393) (.int z394) (.long z395) (.int z469) (.int z470) (.int z471) (.int z5) (.int x_mm_reading))))] H := hP
                      replace hD : va_D A [(h_nv, .inl (cy_nv, 8000, .inl f189)), (h_nn, .inl (cy_nn, 8000, .inr (.inl f190))), (h_na, .inl (cy_na, 8000, .inl f191)), (h_nb, .inl (cy_nb, 8000, .inl f192)), (h_nc, .inl (cy_nc, 8000, .inl f231)), (h_vrs, .inl (cy_vrs, 32, .inl f194)), (h_let, .inl (cy_let, 256, .inl f195)), (h_tap, .inl (cy_tap, 600, .inl f_tap)), (h_mm, .inr (8, (mo126 v_mm (.ref h_nv) (.ref h_nn) (.ref h_na) (.ref h_nb) (.ref h_nc) (.int z180) (.ref h_vrs) (.ref h_let) (.ref h_tap) (.int x_mm_taped) (.int z391) (.int z392) (.int z393) (.int z394) (.long z395) (.int z469) (.int z470) (.int z471) (.int z5) (.int x_mm_reading))))] := hD
                      clear evq467 
                      obtain ⟨k472, k473, k474⟩ := hq
                      replace k472 : 0 ≤ ((z469)).toInt ∧ ((z469)).toInt ≤ 1 := k472
                      replace k473 : ((z469)).toInt = 1 := k473
                      replace k474 : (((z383)).toInt = 1 ∧ ((z470)).toInt = ((z384)).toInt ∧ ((z471)).toInt = ((z385)).toInt) ∨ (((z383)).toInt = 0 ∧ ((z470)).toInt = ((1 : Int32)).toInt ∧ ((z471)).toInt = ((z392)).toInt) := k474
                      refine lv_aload_n hx hb dX11_readsParts_133 rfl (lv_at hl 0 rfl) ?_
                      refine lv_aload_n hx hb dX11_readsParts_134 rfl (lv_at hl 0 rfl) ?_
                      refine va_get (D := (dC, dI)) (ci := 8) (v := .int z5) (C := RX11) (T := TX11) (N := 71) hx hb hw iwX11 hown hK hP 8 rfl rfl 23 (by decide) (hw _ w_f_X11_130) (fun _ h9 => h9) rfl dX11_readsParts_135 ?_
                      refine lv_iconst (v := 1) hx hb dX11_readsParts_138 (by decide) ?_
                      refine lv_isub hx hb dX11_readsParts_139 ?_
                      refine lv_topi (fun z475 ez475 => ?_)
                      have tz475 : (z475).toInt = (z5).toInt - 1 := by rw [ez475]; exact i_sub rfl (by decide) (by omega)
                      refine va_put (D := (dC, dI)) (ci := 8) (v := .int z475) (ty := tyX11 23) (C := RX11) (T := TX11) (N := 71) hx hb hw iwX11 tyX11 tyX11_ok nmX11 hown hK hP hD hS 8 rfl rfl 23 (by decide) (hw _ w_f_X11_130) (fun _ h9 => h9) rfl (tyX11_ok 23 (by decide)) rfl rfl (Nat.le_of_ble_eq_true rfl) dX11_readsParts_140 (fun H locs hP9 hD9 hS9 => ?_)
                      clear hP hD hS
                      have hP : va_P (dC, dI) cls [(h_nv, .inl (cy_nv, 8000, .inl f189)), (h_nn, .inl (cy_nn, 8000, .inr (.inl f190))), (h_na, .inl (cy_na, 8000, .inl f191)), (h_nb, .inl (cy_nb, 8000, .inl f192)), (h_nc, .inl (cy_nc, 8000, .inl f231)), (h_vrs, .inl (cy_vrs, 32, .inl f194)), (h_let, .inl (cy_let, 256, .inl f195)), (h_tap, .inl (cy_tap, 600, .inl f_tap)), (h_mm, .inr (8, (mo126 v_mm (.ref h_nv) (.ref h_nn) (.ref h_na) (.ref h_nb) (.ref h_nc) (.int z180) (.ref h_vrs) (.ref h_let) (.ref h_tap) (.int x_mm_taped) (.int z391) (.int z392) (.int z393) (.int z394) (.long z395) (.int z469) (.int z470) (.int z471) (.int z475) (.int x_mm_reading))))] H := hP9
                      have hD : va_D A [(h_nv, .inl (cy_nv, 8000, .inl f189)), (h_nn, .inl (cy_nn, 8000, .inr (.inl f190))), (h_na, .inl (cy_na, 8000, .inl f191)), (h_nb, .inl (cy_nb, 8000, .inl f192)), (h_nc, .inl (cy_nc, 8000, .inl f231)), (h_vrs, .inl (cy_vrs, 32, .inl f194)), (h_let, .inl (cy_let, 256, .inl f195)), (h_tap, .inl (cy_tap, 600, .inl f_tap)), (h_mm, .inr (8, (mo126 v_mm (.ref h_nv) (.ref h_nn) (.ref h_na) (.ref h_nb) (.ref h_nc) (.int z180) (.ref h_vrs) (.ref h_let) (.ref h_tap) (.int x_mm_taped) (.int z391) (.int z392) (.int z393) (.int z394) (.long z395) (.int z469) (.int z470) (.int z471) (.int z475) (.int x_mm_reading))))] := hD9
                      have hS := hS9
                      clear hP9 hD9 hS9
                      have oz9 : x_mm_opened = z475 := Int32.toInt_inj.mp (by omega)
                      subst oz9
                      replace hP : va_P (dC, dI) cls [(h_mm, .inr (8, (mo126 v_mm (.ref h_nv) (.ref h_nn) (.ref h_na) (.ref h_nb) (.ref h_nc) (.int z180) (.ref h_vrs) (.ref h_let) (.ref h_tap) (.int x_mm_taped) (.int z391) (.int z392) (.int z393) (.int z394) (.long z395) (.int z469) (.int z470) (.int z471) (.int x_mm_opened) (.int x_mm_reading)))), (h_tap, .inl (cy_tap, 600, .inl f_tap)), (h_nv, .inl (cy_nv, 8000, .inl f189)), (h_nn, .inl (cy_nn, 8000, .inr (.inl f190))), (h_na, .inl (cy_na, 8000, .inl f191)), (h_nb, .inl (cy_nb, 8000, .inl f192)), (h_nc, .inl (cy_nc, 8000, .inl f231)), (h_vrs, .inl (cy_vrs, 32, .inl f194)), (h_let, .inl (cy_let, 256, .inl f195))] H := hP.sub [8, 7, 0, 1, 2, 3, 4, 5, 6] rfl
                      replace hD : va_D A [(h_mm, .inr (8, (mo126 v_mm (.ref h_nv) (.ref h_nn) (.ref h_na) (.ref h_nb) (.ref h_nc) (.int z180) (.ref h_vrs) (.ref h_let) (.ref h_tap) (.int x_mm_taped) (.int z391) (.int z392) (.int z393) (.int z394) (.long z395) (.int z469) (.int z470) (.int z471) (.int x_mm_opened) (.int x_mm_reading)))), (h_tap, .inl (cy_tap, 600, .inl f_tap)), (h_nv, .inl (cy_nv, 8000, .inl f189)), (h_nn, .inl (cy_nn, 8000, .inr (.inl f190))), (h_na, .inl (cy_na, 8000, .inl f191)), (h_nb, .inl (cy_nb, 8000, .inl f192)), (h_nc, .inl (cy_nc, 8000, .inl f231)), (h_vrs, .inl (cy_vrs, 32, .inl f194)), (h_let, .inl (cy_let, 256, .inl f195))] := hD.sub [8, 7, 0, 1, 2, 3, 4, 5, 6] (by decide) rfl
                      refine W.widen (k := 0) (n := 0) (Nat.le_of_ble_eq_true rfl) (Nat.le_of_ble_eq_true rfl) ?_
                      have w476 : 0 ≤ ((z180)).toInt ∧ ((z180)).toInt ≤ 1200 := by first | exact k197 | omega
                      have w477 : 0 ≤ ((z391)).toInt ∧ ((z391)).toInt ≤ 600 := by first | exact k396 | omega
                      have w478 : 0 ≤ ((z392)).toInt ∧ ((z392)).toInt ≤ 600 := by first | exact k397 | omega
                      have w479 : 0 ≤ ((z393)).toInt ∧ ((z393)).toInt ≤ 4 := by first | exact k398 | omega
                      have w480 : 0 ≤ ((z469)).toInt ∧ ((z469)).toInt ≤ 1 := by first | exact k472 | omega
                      have w481 : ((z392)).toInt ≤ ((z391)).toInt := by first | exact k399 | omega
                      have w482 : ((z469)).toInt = 1 ∨ ((z180)).toInt ≤ lo + ((z392)).toInt := by omega
                      have w483 : (x_mm_nodes).toInt ≤ ((z180)).toInt := by omega
                      have w484 : (x_mm_place).toInt ≤ ((z392)).toInt := by omega
                      have w485 : (x_mm_isFaulty).toInt ≤ ((z469)).toInt := by omega
                      have w486 : (((z469)).toInt = 0 ∧ ((pPs G (x_mm_taped).toInt dd (x_mm_place).toInt nv vf)).1 = 0 ∧ ((z470)).toInt = (x_mm_fault).toInt ∧ ((z471)).toInt = (x_mm_faultPlace).toInt) ∨ (((z469)).toInt = 1 ∧ ¬ ((pPs G (x_mm_taped).toInt dd (x_mm_place).toInt nv vf)).1 = 0 ∧ ((z470)).toInt = ((pPs G (x_mm_taped).toInt dd (x_mm_place).toInt nv vf)).1 ∧ ((z471)).toInt = ((pPs G (x_mm_taped).toInt dd (x_mm_place).toInt nv vf)).2.1) := by omega
                      have w487 : ((z392)).toInt = ((pPs G (x_mm_taped).toInt dd (x_mm_place).toInt nv vf)).2.1 := by omega
                      have w488 : 0 ≤ ((pPs G (x_mm_taped).toInt dd (x_mm_place).toInt nv vf)).2.2.1 ∧ ((pPs G (x_mm_taped).toInt dd (x_mm_place).toInt nv vf)).2.2.1 ≤ 8 := by omega
                      have w489 : ((z393)).toInt = kd (tkT G (x_mm_taped).toInt ((z392)).toInt) := by first | exact k400 | omega
                      have w490 : ((z393)).toInt = 0 ∨ (((z391)).toInt = tkX G (x_mm_taped).toInt ((z392)).toInt ∧ ((z394)).toInt = G ((z392)).toInt ∧ ((z392)).toInt < (x_mm_taped).toInt ∧ ((z392)).toInt + 1 ≤ ((z391)).toInt) := by first | exact k401 | omega
                      have w491 : ((z391)).toInt ≤ (x_mm_taped).toInt := by first | exact k402 | omega
                      have w492 : ((z392)).toInt ≤ (x_mm_taped).toInt := by first | exact k403 | omega
                      have w493 : EQ0 lo za zb zc zv (f191) (f192) (f231) (f189) := nd233
                      have w494 : ND lo ((z180)).toInt (gh196) (f191) (f192) (f231) := (nd_cast nd232 (by omega))
                      have w495 : ∀ y : Nat, (y : Int) < (x_mm_nodes).toInt → (gh196) y = hh y := (fun y hy => (k219 y (by omega)).trans ((k142 y (by omega)).trans ((k65 y (by omega)).trans (rfl))))
                      have w496 : VRF (x_mm_reading).toInt f_vrs (f194) := vr229
                      have w497 : ((f194) (Int32.toNatClampNeg x_mm_reading)).toInt = ((pPs G (x_mm_taped).toInt dd (x_mm_place).toInt nv vf)).2.2.1 := (k221.trans pq3803.symm)
                      have w498 : VFM ((pPs G (x_mm_taped).toInt dd (x_mm_place).toInt nv vf)).2.2.1 ((pPs G (x_mm_taped).toInt dd (x_mm_place).toInt nv vf)).2.2.2 (f195) (x_mm_reading).toInt := (by rw [pq3803, pq3804]; exact k222)
                      have w499 : NMK ((z393)).toInt ((z395)).toInt (NMI 27 G (x_mm_taped).toInt ((z392)).toInt) := k404
                      have w500 : IFZ ((z469)).toInt (∃ L B : Nat, (L : Int) = (x_mm_nodes).toInt ∧ (B : Int) = ((z180)).toInt ∧ NMX G (x_mm_taped).toInt (RVW (f189) (f190) (f191) (f192) (f231)) (SPX G (x_mm_taped).toInt 27 (RVW (f189) (f190) (f191) (f192) (f231)) ((pPs G (x_mm_taped).toInt dd (x_mm_place).toInt nv vf)).2.2.1 ((pPs G (x_mm_taped).toInt dd (x_mm_place).toInt nv vf)).2.2.2 k0 L B dd) (Int32.toNatClampNeg p1) (x_mm_place).toInt ((z392)).toInt) := (ifz_no (by omega))
                      have w501 : AGN (x_mm_nodes).toInt (p1).toInt f_nv (f189) f_nn (f190) f_na (f191) f_nb (f192) f_nc (f231) := an234
                      exact W.vret hx hb hr (fun t ht hW => ⟨⟨(z180, z391, z392, z393, z394, z395, z469, z470, z471, f189, f190, f191, f192, f231, f194, f195, gh196), rfl, ⟨w476, w477, w478, w479, w480, hf189, hf191, hf192, hf231, hf194, w481, w482, w483, w484, w485, w486, w487, w488, w489, w490, w491, w492, w493, w494, w495, w496, w497, w498, w499, w500, w501⟩, by rw [ht]; exact hP, hD⟩, hS.F ht⟩) hS.2.2 dX11_readsParts_143
                · replace hq : (((z238)).toInt = ((z182)).toInt) ∧ (((z237)).toInt = ((z181)).toInt) ∧ (((z239)).toInt = ((z183)).toInt) ∧ (((z186)).toInt = 1) := hq
                  exact False.elim (by omega)
                · replace hq : (((z238)).toInt = ((z182)).toInt) ∧ (((z237)).toInt = ((z181)).toInt) ∧ (((z239)).toInt = ((z183)).toInt) ∧ (((z186)).toInt = 0) ∧ (¬ tkT (G) ((x_mm_taped)).toInt ((z182)).toInt = ((44 : Int32)).toInt) := hq
                  clear k214
                  have cst44 : (44 : Int32).toInt = 44 := by decide
                  have on9 := pLo_off (G := G) (n := (x_mm_taped).toInt) (P := (pPs G (x_mm_taped).toInt d9)) (r := 0) (q := (z105).toInt) (nv := (rh149).2.2.1) (vf := (rh149).2.2.2) (by rw [← erh226]; omega) (by rw [← erh226, ← k211]; omega)
                  rw [← erh226, ← k211] at on9
                  have cl9 := on9.symm.trans lo174
                  have xt9 : XT (rh149).2.2.1 (rh149).2.2.2 (rh226).2.2.1 (rh226).2.2.2 := by rw [erh226]; exact (pTm_xi (pPs_xi _) _ _ _).1
                  have pn502 : PRN G (x_mm_taped).toInt (RVW f189 f190 f191 f192 f231) (rh226).2.2.1 (rh226).2.2.2 (z180).toInt dd p1 3 (x_mm_place).toInt (z182).toInt := prn_C (P0 := (z103).toInt) (Q := (z103).toInt) (q1 := (z105).toInt) pn177 k225 (by omega) xt9 (by omega) (by omega) (by omega) tc176 (k224 (by omega)) ef231
                  have ts503 := trs_C ts228 ef231 (by omega)
                  have pe9 : tkT G (x_mm_taped).toInt (z238).toInt = tkT G (x_mm_taped).toInt (z182).toInt := congrArg (tkT G (x_mm_taped).toInt) hq.1
                  have pn9 : tkN G (x_mm_taped).toInt (z238).toInt = tkN G (x_mm_taped).toInt (z182).toInt := congrArg (tkN G (x_mm_taped).toInt) hq.1
                  refine lv_if_eq (tgt := 119) hx hb dX11_readsParts_100 (by decide) (fun _ => ?_) (fun c9 => absurd c9 (by decide))
                  refine lv_aload_n hx hb dX11_readsParts_119 rfl (lv_at hl 0 rfl) ?_
                  refine lv_bipush (v := 41) hx hb dX11_readsParts_120 (by decide) ?_
                  obtain ⟨vq504, evq504⟩ := mq126_92 v_mm (.ref h_nv) (.ref h_nn) (.ref h_na) (.ref h_nb) (.ref h_nc) (.int z180) (.ref h_vrs) (.ref h_let) (.int z187) (.int z188) (.int z5) (.int x_mm_reading)
                  replace hP : va_P (dC, dI) cls [(h_nv, .inl (cy_nv, 8000, .inl f189)), (h_nn, .inl (cy_nn, 8000, .inr (.inl f190))), (h_na, .inl (cy_na, 8000, .inl f191)), (h_nb, .inl (cy_nb, 8000, .inl f192)), (h_nc, .inl (cy_nc, 8000, .inl f231)), (h_vrs, .inl (cy_vrs, 32, .inl f194)), (h_let, .inl (cy_let, 256, .inl f195)), (h_mm, .inr (8, (mo92 vq504 (.ref h_tap) (.int x_mm_taped) (.int z237) (.int z238) (.int z239) (.int z240) (.long z241) (.int z186)))), (h_tap, .inl (cy_tap, 600, .inl f_tap))] H := by rw [evq504]; exact hP
                  replace hD : va_D A [(h_nv, .inl (cy_nv, 8000, .inl f189)), (h_nn, .inl (cy_nn, 8000, .inr (.inl f190))), (h_na, .inl (cy_na, 8000, .inl f191)), (h_nb, .inl (cy_nb, 8000, .inl f192)), (h_nc, .inl (cy_nc, 8000, .inl f231)), (h_vrs, .inl (cy_vrs, 32, .inl f194)), (h_let, .inl (cy_let, 256, .inl f195)), (h_mm, .inr (8, (mo92 vq504 (.ref h_tap) (.int x_mm_taped) (.int z237) (.int z238) (.int z239) (.int z240) (.long z241) (.int z186)))), (h_tap, .inl (cy_tap, 600, .inl f_tap))] := by rw [evq504]; exact hD
                  have cst41 : (41 : Int32).toInt = 41 := by decide
                  have hPc := hP.sub (ws' := [(h_mm, .inr (8, (mo92 vq504 (.ref h_tap) (.int x_mm_taped) (.int z237) (.int z238) (.int z239) (.int z240) (.long z241) (.int z186)))), (h_tap, .inl (cy_tap, 600, .inl f_tap))]) [7, 8] rfl
                  have hDc := hD.sub (ws' := [(h_mm, .inr (8, (mo92 vq504 (.ref h_tap) (.int x_mm_taped) (.int z237) (.int z238) (.int z239) (.int z240) (.long z241) (.int z186)))), (h_tap, .inl (cy_tap, 600, .inl f_tap))]) [7, 8] (by decide) rfl
                  have hKc := hK.sub (tys' := [(cy_tap, .byte)]) [0] rfl
                  have hFc := va_free (wc := [(h_mm, .inr (8, (mo92 vq504 (.ref h_tap) (.int x_mm_taped) (.int z237) (.int z238) (.int z239) (.int z240) (.long z241) (.int z186)))), (h_tap, .inl (cy_tap, 600, .inl f_tap))]) hD hS hA [7, 8] rfl
                  refine va_calli (va_runV (As := [.int 41]) (rest := []) ⟨hx, hb, hml, hown, hts⟩ (c_X11_passes l dC dI H.size h_mm h_tap vq504 x_mm_taped z237 z238 z239 z240 z241 z186 cy_tap f_tap 41 G (by first | exact hx_mm_taped | omega) (by first | exact k242 | omega) (by first | exact k243 | omega) (by first | exact k244 | omega) (by first | exact k201 | omega) (by first | exact k245 | omega) (by omega) (by omega) (by first | exact k246 | omega) (by first | exact k247 | omega) (by first | exact k248 | omega) (by first | exact k249 | omega) hn_tapq k250) (cwV 1 hts (gv hT w_m_X11_136 w_instanceMethod_X11_passes ws_sel_X11_passes w_ini_X11 w_code_X11_passes) rfl rfl rfl (by decide +kernel) ⟨(by dsimp only [headSpec]; omega), (by dsimp only [headSpec]; omega)⟩) ⟨pre_blind, va_recv hK hP (ci := 8) (q0 := 7) rfl rfl, pre_of hPc hKc hDc hN⟩ rfl rfl hl.1 rfl (lv_room (Nat.le_of_ble_eq_true rfl)) dX11_readsParts_122 ⟨(Nat.le_of_ble_eq_true rfl), (Nat.le_of_ble_eq_true rfl)⟩) hS (fun q _ h => hFc q h) hFc (fun r505 u t H locs ht hvm hq hB hz1 hk1 hS9 => ?_)
                  obtain ⟨z506, z507, z508, z509, z510⟩ := u
                  obtain ⟨hP1, hD1⟩ := hB
                  rw [ht] at hP1
                  obtain ⟨hP9, hD9⟩ := va_join (wr := [(h_nv, .inl (cy_nv, 8000, .inl f189)), (h_nn, .inl (cy_nn, 8000, .inr (.inl f190))), (h_na, .inl (cy_na, 8000, .inl f191)), (h_nb, .inl (cy_nb, 8000, .inl f192)), (h_nc, .inl (cy_nc, 8000, .inl f231)), (h_vrs, .inl (cy_vrs, 32, .inl f194)), (h_let, .inl (cy_let, 256, .inl f195))]) (w1 := [(h_mm, .inr (8, (mo92 vq504 (.ref h_tap) (.int x_mm_taped) (.int z506) (.int z507) (.int z508) (.int z509) (.long z510) (.int z186)))), (h_tap, .inl (cy_tap, 600, .inl f_tap))]) hP hD [7, 8] [0, 1, 2, 3, 4, 5, 6] rfl rfl (by decide) (by decide) hk1 hFc hP1 hD1
                  clear hP hD hS hPc hDc hKc hFc hP1 hD1 hk1 hz1 ht hvm
                  have hP : va_P (dC, dI) cls [(h_nv, .inl (cy_nv, 8000, .inl f189)), (h_nn, .inl (cy_nn, 8000, .inr (.inl f190))), (h_na, .inl (cy_na, 8000, .inl f191)), (h_nb, .inl (cy_nb, 8000, .inl f192)), (h_nc, .inl (cy_nc, 8000, .inl f231)), (h_vrs, .inl (cy_vrs, 32, .inl f194)), (h_let, .inl (cy_let, 256, .inl f195)), (h_mm, .inr (8, (mo92 vq504 (.ref h_tap) (.int x_mm_taped) (.int z506) (.int z507) (.int z508) (.int z509) (.long z510) (.int z186)))), (h_tap, .inl (cy_tap, 600, .inl f_tap))] H := hP9
                  have hD : va_D A [(h_nv, .inl (cy_nv, 8000, .inl f189)), (h_nn, .inl (cy_nn, 8000, .inr (.inl f190))), (h_na, .inl (cy_na, 8000, .inl f191)), (h_nb, .inl (cy_nb, 8000, .inl f192)), (h_nc, .inl (cy_nc, 8000, .inl f231)), (h_vrs, .inl (cy_vrs, 32, .inl f194)), (h_let, .inl (cy_let, 256, .inl f195)), (h_mm, .inr (8, (mo92 vq504 (.ref h_tap) (.int x_mm_taped) (.int z506) (.int z507) (.int z508) (.int z509) (.long z510) (.int z186)))), (h_tap, .inl (cy_tap, 600, .inl f_tap))] := hD9
                  have hS := hS9
                  clear hP9 hD9 hS9
                  rw [evq504] at hP hD
                  replace hP : va_P (dC, dI) cls [(h_nv, .inl (cy_nv, 8000, .inl f189)), (h_nn, .inl (cy_nn, 8000, .inr (.inl f190))), (h_na, .inl (cy_na, 8000, .inl f191)), (h_nb, .inl (cy_nb, 8000, .inl f192)), (h_nc, .inl (cy_nc, 8000, .inl f231)), (h_vrs, .inl (cy_vrs, 32, .inl f194)), (h_let, .inl (cy_let, 256, .inl f195)), (h_mm, .inr (8, (mo126 v_mm (.ref h_nv) (.ref h_nn) (.ref h_na) (.ref h_nb) (.ref h_nc) (.int z180) (.ref h_vrs) (.ref h_let) (.ref h_tap) (.int x_mm_taped) (.int z506) (.int z507) (.int z508) (.int z509) (.long z510) (.int z186) (.int z187) (.int z188) (.int z5) (.int x_mm_reading)))), (h_tap, .inl (cy_tap, 600, .inl f_tap))] H := hP
                  replace hD : va_D A [(h_nv, .inl (cy_nv, 8000, .inl f189)), (h_nn, .inl (cy_nn, 8000, .inr (.inl f190))), (h_na, .inl (cy_na, 8000, .inl f191)), (h_nb, .inl (cy_nb, 8000, .inl f192)), (h_nc, .inl (cy_nc, 8000, .inl f231)), (h_vrs, .inl (cy_vrs, 32, .inl f194)), (h_let, .inl (cy_let, 256, .inl f195)), (h_mm, .inr (8, (mo126 v_mm (.ref h_nv) (.ref h_nn) (.ref h_na) (.ref h_nb) (.ref h_nc) (.int z180) (.ref h_vrs) (.ref h_let) (.ref h_tap) (.int x_mm_taped) (.int z506) (.int z507) (.int z508) (.int z509) (.long z510) (.int z186) (.int z187) (.int z188) (.int z5) (.int x_mm_reading)))), (h_tap, .inl (cy_tap, 600, .inl f_tap))] := hD
                  clear evq504 
                  obtain ⟨k511, k512, k513, k514, k515, k516, k517, k518, k519, hq⟩ := hq
                  replace k511 : 0 ≤ ((z506)).toInt ∧ ((z506)).toInt ≤ 600 := k511
                  replace k512 : 0 ≤ ((z507)).toInt ∧ ((z507)).toInt ≤ 600 := k512
                  replace k513 : 0 ≤ ((z508)).toInt ∧ ((z508)).toInt ≤ 4 := k513
                  replace k514 : ((z507)).toInt ≤ ((z506)).toInt := k514
                  replace k515 : ((z508)).toInt = kd (tkT (G) ((x_mm_taped)).toInt ((z507)).toInt) := k515
                  replace k516 : ((z508)).toInt = 0 ∨ (((z506)).toInt = tkX (G) ((x_mm_taped)).toInt ((z507)).toInt ∧ ((z509)).toInt = (G) ((z507)).toInt ∧ ((z507)).toInt < ((x_mm_taped)).toInt ∧ ((z507)).toInt + 1 ≤ ((z506)).toInt) := k516
                  replace k517 : ((z506)).toInt ≤ ((x_mm_taped)).toInt := k517
                  replace k518 : ((z507)).toInt ≤ ((x_mm_taped)).toInt := k518
                  replace k519 : NMK ((z508)).toInt ((z510)).toInt (NMI 27 (G) ((x_mm_taped)).toInt ((z507)).toInt) := k519
                  rcases hq with ⟨rfl, hq⟩ | ⟨rfl, hq⟩ | ⟨rfl, hq⟩
                  · replace hq : (((z186)).toInt = 0) ∧ (tkT (G) ((x_mm_taped)).toInt ((z238)).toInt = ((41 : Int32)).toInt) ∧ (((z507)).toInt = tkN (G) ((x_mm_taped)).toInt ((z238)).toInt) ∧ (((z237)).toInt ≤ ((z507)).toInt) ∧ (((z238)).toInt + 1 ≤ ((z507)).toInt) := hq
                    have cst41 : (41 : Int32).toInt = 41 := by decide
                    have pv9 : (pPs G (x_mm_taped).toInt dd (x_mm_place).toInt nv vf) = (0, tkN G (x_mm_taped).toInt (z182).toInt, (rh226).2.2.1, (rh226).2.2.2) := cl9.symm.trans (pCl_yes (by omega))
                    have pq5201 : ((pPs G (x_mm_taped).toInt dd (x_mm_place).toInt nv vf)).1 = 0 := by rw [pv9]
                    have pq5202 : ((pPs G (x_mm_taped).toInt dd (x_mm_place).toInt nv vf)).2.1 = tkN G (x_mm_taped).toInt (z182).toInt := by rw [pv9]
                    have pq5203 : ((pPs G (x_mm_taped).toInt dd (x_mm_place).toInt nv vf)).2.2.1 = (rh226).2.2.1 := by rw [pv9]
                    have pq5204 : ((pPs G (x_mm_taped).toInt dd (x_mm_place).toInt nv vf)).2.2.2 = (rh226).2.2.2 := by rw [pv9]
                    have tz9 : tkT G (x_mm_taped).toInt (z182).toInt = 41 := by omega
                    refine lv_if_ne (tgt := 133) hx hb dX11_readsParts_125 (by decide) (fun _ => ?_) (fun c9 => absurd c9 (by decide))
                    refine lv_aload_n hx hb dX11_readsParts_133 rfl (lv_at hl 0 rfl) ?_
                    refine lv_aload_n hx hb dX11_readsParts_134 rfl (lv_at hl 0 rfl) ?_
                    refine va_get (D := (dC, dI)) (ci := 8) (v := .int z5) (C := RX11) (T := TX11) (N := 71) hx hb hw iwX11 hown hK hP 7 rfl rfl 23 (by decide) (hw _ w_f_X11_130) (fun _ h9 => h9) rfl dX11_readsParts_135 ?_
                    refine lv_iconst (v := 1) hx hb dX11_readsParts_138 (by decide) ?_
                    refine lv_isub hx hb dX11_readsParts_139 ?_
                    refine lv_topi (fun z521 ez521 => ?_)
                    have tz521 : (z521).toInt = (z5).toInt - 1 := by rw [ez521]; exact i_sub rfl (by decide) (by omega)
                    refine va_put (D := (dC, dI)) (ci := 8) (v := .int z521) (ty := tyX11 23) (C := RX11) (T := TX11) (N := 71) hx hb hw iwX11 tyX11 tyX11_ok nmX11 hown hK hP hD hS 7 rfl rfl 23 (by decide) (hw _ w_f_X11_130) (fun _ h9 => h9) rfl (tyX11_ok 23 (by decide)) rfl rfl (Nat.le_of_ble_eq_true rfl) dX11_readsParts_140 (fun H locs hP9 hD9 hS9 => ?_)
                    clear hP hD hS
                    have hP : va_P (dC, dI) cls [(h_nv, .inl (cy_nv, 8000, .inl f189)), (h_nn, .inl (cy_nn, 8000, .inr (.inl f190))), (h_na, .inl (cy_na, 8000, .inl f191)), (h_nb, .inl (cy_nb, 8000, .inl f192)), (h_nc, .inl (cy_nc, 8000, .inl f231)), (h_vrs, .inl (cy_vrs, 32, .inl f194)), (h_let, .inl (cy_let, 256, .inl f195)), (h_mm, .inr (8, (mo126 v_mm (.ref h_nv) (.ref h_nn) (.ref h_na) (.ref h_nb) (.ref h_nc) (.int z180) (.ref h_vrs) (.ref h_let) (.ref h_tap) (.int x_mm_taped) (.int z506) (.int z507) (.int z508) (.int z509) (.long z510) (.int z186) (.int z187) (.int z188) (.int z521) (.int x_mm_reading)))), (h_tap, .inl (cy_tap, 600, .inl f_tap))] H := hP9
                    have hD : va_D A [(h_nv, .inl (cy_nv, 8000, .inl f189)), (h_nn, .inl (cy_nn, 8000, .inr (.inl f190))), (h_na, .inl (cy_na, 8000, .inl f191)), (h_nb, .inl (cy_nb, 8000, .inl f192)), (h_nc, .inl (cy_nc, 8000, .inl f231)), (h_vrs, .inl (cy_vrs, 32, .inl f194)), (h_let, .inl (cy_let, 256, .inl f195)), (h_mm, .inr (8, (mo126 v_mm (.ref h_nv) (.ref h_nn) (.ref h_na) (.ref h_nb) (.ref h_nc) (.int z180) (.ref h_vrs) (.ref h_let) (.ref h_tap) (.int x_mm_taped) (.int z506) (.int z507) (.int z508) (.int z509) (.long z510) (.int z186) (.int z187) (.int z188) (.int z521) (.int x_mm_reading)))), (h_tap, .inl (cy_tap, 600, .inl f_tap))] := hD9
                    have hS := hS9
                    clear hP9 hD9 hS9
                    have oz9 : x_mm_opened = z521 := Int32.toInt_inj.mp (by omega)
                    subst oz9
                    replace hP : va_P (dC, dI) cls [(h_mm, .inr (8, (mo126 v_mm (.ref h_nv) (.ref h_nn) (.ref h_na) (.ref h_nb) (.ref h_nc) (.int z180) (.ref h_vrs) (.ref h_let) (.ref h_tap) (.int x_mm_taped) (.int z506) (.int z507) (.int z508) (.int z509) (.long z510) (.int z186) (.int z187) (.int z188) (.int x_mm_opened) (.int x_mm_reading)))), (h_tap, .inl (cy_tap, 600, .inl f_tap)), (h_nv, .inl (cy_nv, 8000, .inl f189)), (h_nn, .inl (cy_nn, 8000, .inr (.inl f190))), (h_na, .inl (cy_na, 8000, .inl f191)), (h_nb, .inl (cy_nb, 8000, .inl f192)), (h_nc, .inl (cy_nc, 8000, .inl f231)), (h_vrs, .inl (cy_vrs, 32, .inl f194)), (h_let, .inl (cy_let, 256, .inl f195))] H := hP.sub [7, 8, 0, 1, 2, 3, 4, 5, 6] rfl
                    replace hD : va_D A [(h_mm, .inr (8, (mo126 v_mm (.ref h_nv) (.ref h_nn) (.ref h_na) (.ref h_nb) (.ref h_nc) (.int z180) (.ref h_vrs) (.ref h_let) (.ref h_tap) (.int x_mm_taped) (.int z506) (.int z507) (.int z508) (.int z509) (.long z510) (.int z186) (.int z187) (.int z188) (.int x_mm_opened) (.int x_mm_reading)))), (h_tap, .inl (cy_tap, 600, .inl f_tap)), (h_nv, .inl (cy_nv, 8000, .inl f189)), (h_nn, .inl (cy_nn, 8000, .inr (.inl f190))), (h_na, .inl (cy_na, 8000, .inl f191)), (h_nb, .inl (cy_nb, 8000, .inl f192)), (h_nc, .inl (cy_nc, 8000, .inl f231)), (h_vrs, .inl (cy_vrs, 32, .inl f194)), (h_let, .inl (cy_let, 256, .inl f195))] := hD.sub [7, 8, 0, 1, 2, 3, 4, 5, 6] (by decide) rfl
                    refine W.widen (k := 0) (n := 0) (Nat.le_of_ble_eq_true rfl) (Nat.le_of_ble_eq_true rfl) ?_
                    have w522 : 0 ≤ ((z180)).toInt ∧ ((z180)).toInt ≤ 1200 := by first | exact k197 | omega
                    have w523 : 0 ≤ ((z506)).toInt ∧ ((z506)).toInt ≤ 600 := by first | exact k511 | omega
                    have w524 : 0 ≤ ((z507)).toInt ∧ ((z507)).toInt ≤ 600 := by first | exact k512 | omega
                    have w525 : 0 ≤ ((z508)).toInt ∧ ((z508)).toInt ≤ 4 := by first | exact k513 | omega
                    have w526 : 0 ≤ ((z186)).toInt ∧ ((z186)).toInt ≤ 1 := by first | exact k201 | omega
                    have w527 : ((z507)).toInt ≤ ((z506)).toInt := by first | exact k514 | omega
                    have w528 : ((z186)).toInt = 1 ∨ ((z180)).toInt ≤ lo + ((z507)).toInt := by omega
                    have w529 : (x_mm_nodes).toInt ≤ ((z180)).toInt := by omega
                    have w530 : (x_mm_place).toInt ≤ ((z507)).toInt := by omega
                    have w531 : (x_mm_isFaulty).toInt ≤ ((z186)).toInt := by omega
                    have w532 : (((z186)).toInt = 0 ∧ ((pPs G (x_mm_taped).toInt dd (x_mm_place).toInt nv vf)).1 = 0 ∧ ((z187)).toInt = (x_mm_fault).toInt ∧ ((z188)).toInt = (x_mm_faultPlace).toInt) ∨ (((z186)).toInt = 1 ∧ ¬ ((pPs G (x_mm_taped).toInt dd (x_mm_place).toInt nv vf)).1 = 0 ∧ ((z187)).toInt = ((pPs G (x_mm_taped).toInt dd (x_mm_place).toInt nv vf)).1 ∧ ((z188)).toInt = ((pPs G (x_mm_taped).toInt dd (x_mm_place).toInt nv vf)).2.1) := by omega
                    have w533 : ((z507)).toInt = ((pPs G (x_mm_taped).toInt dd (x_mm_place).toInt nv vf)).2.1 := by omega
                    have w534 : 0 ≤ ((pPs G (x_mm_taped).toInt dd (x_mm_place).toInt nv vf)).2.2.1 ∧ ((pPs G (x_mm_taped).toInt dd (x_mm_place).toInt nv vf)).2.2.1 ≤ 8 := by omega
                    have w535 : ((z508)).toInt = kd (tkT G (x_mm_taped).toInt ((z507)).toInt) := by first | exact k515 | omega
                    have w536 : ((z508)).toInt = 0 ∨ (((z506)).toInt = tkX G (x_mm_taped).toInt ((z507)).toInt ∧ ((z509)).toInt = G ((z507)).toInt ∧ ((z507)).toInt < (x_mm_taped).toInt ∧ ((z507)).toInt + 1 ≤ ((z506)).toInt) := by first | exact k516 | omega
                    have w537 : ((z506)).toInt ≤ (x_mm_taped).toInt := by first | exact k517 | omega
                    have w538 : ((z507)).toInt ≤ (x_mm_taped).toInt := by first | exact k518 | omega
                    have w539 : EQ0 lo za zb zc zv (f191) (f192) (f231) (f189) := nd233
                    have w540 : ND lo ((z180)).toInt (gh196) (f191) (f192) (f231) := (nd_cast nd232 (by omega))
                    have w541 : ∀ y : Nat, (y : Int) < (x_mm_nodes).toInt → (gh196) y = hh y := (fun y hy => (k219 y (by omega)).trans ((k142 y (by omega)).trans ((k65 y (by omega)).trans (rfl))))
                    have w542 : VRF (x_mm_reading).toInt f_vrs (f194) := vr229
                    have w543 : ((f194) (Int32.toNatClampNeg x_mm_reading)).toInt = ((pPs G (x_mm_taped).toInt dd (x_mm_place).toInt nv vf)).2.2.1 := (k221.trans pq5203.symm)
                    have w544 : VFM ((pPs G (x_mm_taped).toInt dd (x_mm_place).toInt nv vf)).2.2.1 ((pPs G (x_mm_taped).toInt dd (x_mm_place).toInt nv vf)).2.2.2 (f195) (x_mm_reading).toInt := (by rw [pq5203, pq5204]; exact k222)
                    have w545 : NMK ((z508)).toInt ((z510)).toInt (NMI 27 G (x_mm_taped).toInt ((z507)).toInt) := k519
                    have w546 : IFZ ((z186)).toInt (∃ L B : Nat, (L : Int) = (x_mm_nodes).toInt ∧ (B : Int) = ((z180)).toInt ∧ NMX G (x_mm_taped).toInt (RVW (f189) (f190) (f191) (f192) (f231)) (SPX G (x_mm_taped).toInt 27 (RVW (f189) (f190) (f191) (f192) (f231)) ((pPs G (x_mm_taped).toInt dd (x_mm_place).toInt nv vf)).2.2.1 ((pPs G (x_mm_taped).toInt dd (x_mm_place).toInt nv vf)).2.2.2 k0 L B dd) (Int32.toNatClampNeg p1) (x_mm_place).toInt ((z507)).toInt) := (ifz_yes ⟨(x_mm_nodes).toInt.toNat, (z180).toInt.toNat, by omega, by omega, by rw [pq5203, pq5204]; exact nmx_yes pn502 ts503 (by omega) (by omega) (by rw [clamp_nat (i := p1) (by omega)]; omega) yt9 tz9 (by omega)⟩)
                    have w547 : AGN (x_mm_nodes).toInt (p1).toInt f_nv (f189) f_nn (f190) f_na (f191) f_nb (f192) f_nc (f231) := an234
                    exact W.vret hx hb hr (fun t ht hW => ⟨⟨(z180, z506, z507, z508, z509, z510, z186, z187, z188, f189, f190, f191, f192, f231, f194, f195, gh196), rfl, ⟨w522, w523, w524, w525, w526, hf189, hf191, hf192, hf231, hf194, w527, w528, w529, w530, w531, w532, w533, w534, w535, w536, w537, w538, w539, w540, w541, w542, w543, w544, w545, w546, w547⟩, by rw [ht]; exact hP, hD⟩, hS.F ht⟩) hS.2.2 dX11_readsParts_143
                  · replace hq : (((z507)).toInt = ((z238)).toInt) ∧ (((z506)).toInt = ((z237)).toInt) ∧ (((z508)).toInt = ((z239)).toInt) ∧ (((z186)).toInt = 1) := hq
                    exact False.elim (by omega)
                  · replace hq : (((z507)).toInt = ((z238)).toInt) ∧ (((z506)).toInt = ((z237)).toInt) ∧ (((z508)).toInt = ((z239)).toInt) ∧ (((z186)).toInt = 0) ∧ (¬ tkT (G) ((x_mm_taped)).toInt ((z238)).toInt = ((41 : Int32)).toInt) := hq
                    have cst41 : (41 : Int32).toInt = 41 := by decide
                    have pv9 : (pPs G (x_mm_taped).toInt dd (x_mm_place).toInt nv vf) = (1, (z182).toInt, (rh226).2.2.1, (rh226).2.2.2) := cl9.symm.trans (pCl_no (by omega))
                    have pq5481 : ((pPs G (x_mm_taped).toInt dd (x_mm_place).toInt nv vf)).1 = 1 := by rw [pv9]
                    have pq5482 : ((pPs G (x_mm_taped).toInt dd (x_mm_place).toInt nv vf)).2.1 = (z182).toInt := by rw [pv9]
                    have pq5483 : ((pPs G (x_mm_taped).toInt dd (x_mm_place).toInt nv vf)).2.2.1 = (rh226).2.2.1 := by rw [pv9]
                    have pq5484 : ((pPs G (x_mm_taped).toInt dd (x_mm_place).toInt nv vf)).2.2.2 = (rh226).2.2.2 := by rw [pv9]
                    refine lv_if_ne (tgt := 133) hx hb dX11_readsParts_125 (by decide) (fun c9 => absurd c9 (by decide)) (fun _ => ?_)
                    refine lv_aload_n hx hb dX11_readsParts_128 rfl (lv_at hl 0 rfl) ?_
                    refine lv_iconst (v := 1) hx hb dX11_readsParts_129 (by decide) ?_
                    obtain ⟨vq549, evq549⟩ := mq126_90 v_mm (.ref h_nv) (.ref h_nn) (.ref h_na) (.ref h_nb) (.ref h_nc) (.int z180) (.ref h_vrs) (.ref h_let) (.ref h_tap) (.int x_mm_taped) (.int z506) (.int z508) (.int z509) (.long z510) (.int z5) (.int x_mm_reading)
                    replace hP : va_P (dC, dI) cls [(h_nv, .inl (cy_nv, 8000, .inl f189)), (h_nn, .inl (cy_nn, 8000, .inr (.inl f190))), (h_na, .inl (cy_na, 8000, .inl f191)), (h_nb, .inl (cy_nb, 8000, .inl f192)), (h_nc, .inl (cy_nc, 8000, .inl f231)), (h_vrs, .inl (cy_vrs, 32, .inl f194)), (h_let, .inl (cy_let, 256, .inl f195)), (h_mm, .inr (8, (mo90 vq549 (.int z507) (.int z186) (.int z187) (.int z188)))), (h_tap, .inl (cy_tap, 600, .inl f_tap))] H := by rw [evq549]; exact hP
                    replace hD : va_D A [(h_nv, .inl (cy_nv, 8000, .inl f189)), (h_nn, .inl (cy_nn, 8000, .inr (.inl f190))), (h_na, .inl (cy_na, 8000, .inl f191)), (h_nb, .inl (cy_nb, 8000, .inl f192)), (h_nc, .inl (cy_nc, 8000, .inl f231)), (h_vrs, .inl (cy_vrs, 32, .inl f194)), (h_let, .inl (cy_let, 256, .inl f195)), (h_mm, .inr (8, (mo90 vq549 (.int z507) (.int z186) (.int z187) (.int z188)))), (h_tap, .inl (cy_tap, 600, .inl f_tap))] := by rw [evq549]; exact hD
                    have cst1 : (1 : Int32).toInt = 1 := by decide
                    have hPc := hP.sub (ws' := [(h_mm, .inr (8, (mo90 vq549 (.int z507) (.int z186) (.int z187) (.int z188))))]) [7] rfl
                    have hDc := hD.sub (ws' := [(h_mm, .inr (8, (mo90 vq549 (.int z507) (.int z186) (.int z187) (.int z188))))]) [7] (by decide) rfl
                    have hKc := hK.sub (tys' := []) [] rfl
                    have hFc := va_free (wc := [(h_mm, .inr (8, (mo90 vq549 (.int z507) (.int z186) (.int z187) (.int z188))))]) hD hS hA [7] rfl
                    refine va_callv (va_runV (As := [.int 1]) (rest := []) ⟨hx, hb, hml, hown, hts⟩ (c_X11_faulty l dC dI H.size h_mm vq549 z507 z186 z187 z188 1 (by first | exact k512 | omega) (by first | exact k201 | omega)) (cwV 1 hts (gv hT w_m_X11_111 w_instanceMethod_X11_faulty ws_sel_X11_faulty w_ini_X11 w_code_X11_faulty) rfl rfl rfl (by decide +kernel) ⟨(by dsimp only [headSpec]; omega), (by dsimp only [headSpec]; omega)⟩) ⟨pre_blind, va_recv hK hP (ci := 8) (q0 := 7) rfl rfl, pre_of hPc hKc hDc hN⟩ rfl rfl hl.1 rfl (lv_room (Nat.le_of_ble_eq_true rfl)) dX11_readsParts_130 ⟨(Nat.le_of_ble_eq_true rfl), (Nat.le_of_ble_eq_true rfl)⟩) hS (fun q _ h => hFc q h) hFc (fun u t H locs ht hvm hq hB hz1 hk1 hS9 => ?_)
                    obtain ⟨z551, z552, z553⟩ := u
                    obtain ⟨hP1, hD1⟩ := hB
                    rw [ht] at hP1
                    obtain ⟨hP9, hD9⟩ := va_join (wr := [(h_nv, .inl (cy_nv, 8000, .inl f189)), (h_nn, .inl (cy_nn, 8000, .inr (.inl f190))), (h_na, .inl (cy_na, 8000, .inl f191)), (h_nb, .inl (cy_nb, 8000, .inl f192)), (h_nc, .inl (cy_nc, 8000, .inl f231)), (h_vrs, .inl (cy_vrs, 32, .inl f194)), (h_let, .inl (cy_let, 256, .inl f195)), (h_tap, .inl (cy_tap, 600, .inl f_tap))]) (w1 := [(h_mm, .inr (8, (mo90 vq549 (.int z507) (.int z551) (.int z552) (.int z553))))]) hP hD [7] [0, 1, 2, 3, 4, 5, 6, 8] rfl rfl (by decide) (by decide) hk1 hFc hP1 hD1
                    clear hP hD hS hPc hDc hKc hFc hP1 hD1 hk1 hz1 ht hvm
                    have hP : va_P (dC, dI) cls [(h_nv, .inl (cy_nv, 8000, .inl f189)), (h_nn, .inl (cy_nn, 8000, .inr (.inl f190))), (h_na, .inl (cy_na, 8000, .inl f191)), (h_nb, .inl (cy_nb, 8000, .inl f192)), (h_nc, .inl (cy_nc, 8000, .inl f231)), (h_vrs, .inl (cy_vrs, 32, .inl f194)), (h_let, .inl (cy_let, 256, .inl f195)), (h_tap, .inl (cy_tap, 600, .inl f_tap)), (h_mm, .inr (8, (mo90 vq549 (.int z507) (.int z551) (.int z552) (.int z553))))] H := hP9
                    have hD : va_D A [(h_nv, .inl (cy_nv, 8000, .inl f189)), (h_nn, .inl (cy_nn, 8000, .inr (.inl f190))), (h_na, .inl (cy_na, 8000, .inl f191)), (h_nb, .inl (cy_nb, 8000, .inl f192)), (h_nc, .inl (cy_nc, 8000, .inl f231)), (h_vrs, .inl (cy_vrs, 32, .inl f194)), (h_let, .inl (cy_let, 256, .inl f195)), (h_tap, .inl (cy_tap, 600, .inl f_tap)), (h_mm, .inr (8, (mo90 vq549 (.int z507) (.int z551) (.int z552) (.int z553))))] := hD9
                    have hS := hS9
                    clear hP9 hD9 hS9
                    rw [evq549] at hP hD
                    replace hP : va_P (dC, dI) cls [(h_nv, .inl (cy_nv, 8000, .inl f189)), (h_nn, .inl (cy_nn, 8000, .inr (.inl f190))), (h_na, .inl (cy_na, 8000, .inl f191)), (h_nb, .inl (cy_nb, 8000, .inl f192)), (h_nc, .inl (cy_nc, 8000, .inl f231)), (h_vrs, .inl (cy_vrs, 32, .inl f194)), (h_let, .inl (cy_let, 256, .inl f195)), (h_tap, .inl (cy_tap, 600, .inl f_tap)), (h_mm, .inr (8, (mo126 v_mm (.ref h_nv) (.ref h_nn) (.ref h_na) (.ref h_nb) (.ref h_nc) (.int z180) (.ref h_vrs) (.ref h_let) (.ref h_tap) (.int x_mm_taped) (.int z506) (.int z507) (.int z508) (.int z509) (.long z510) (.int z551) (.int z552) (.int z553) (.int z5) (.int x_mm_reading))))] H := hP
                    replace hD : va_D A [(h_nv, .inl (cy_nv, 8000, .inl f189)), (h_nn, .inl (cy_nn, 8000, .inr (.inl f190))), (h_na, .inl (cy_na, 8000, .inl f191)), (h_nb, .inl (cy_nb, 8000, .inl f192)), (h_nc, .inl (cy_nc, 8000, .inl f231)), (h_vrs, .inl (cy_vrs, 32, .inl f194)), (h_let, .inl (cy_let, 256, .inl f195)), (h_tap, .inl (cy_tap, 600, .inl f_tap)), (h_mm, .inr (8, (mo126 v_mm (.ref h_nv) (.ref h_nn) (.ref h_na) (.ref h_nb) (.ref h_nc) (.int z180) (.ref h_vrs) (.ref h_let) (.ref h_tap) (.int x_mm_taped) (.int z506) (.int z507) (.int z508) (.int z509) (.long z510) (.int z551) (.int z552) (.int z553) (.int z5) (.int x_mm_reading))))] := hD
                    clear evq549 
                    obtain ⟨k554, k555, k556⟩ := hq
                    replace k554 : 0 ≤ ((z551)).toInt ∧ ((z551)).toInt ≤ 1 := k554
                    replace k555 : ((z551)).toInt = 1 := k555
                    replace k556 : (((z186)).toInt = 1 ∧ ((z552)).toInt = ((z187)).toInt ∧ ((z553)).toInt = ((z188)).toInt) ∨ (((z186)).toInt = 0 ∧ ((z552)).toInt = ((1 : Int32)).toInt ∧ ((z553)).toInt = ((z507)).toInt) := k556
                    refine lv_aload_n hx hb dX11_readsParts_133 rfl (lv_at hl 0 rfl) ?_
                    refine lv_aload_n hx hb dX11_readsParts_134 rfl (lv_at hl 0 rfl) ?_
                    refine va_get (D := (dC, dI)) (ci := 8) (v := .int z5) (C := RX11) (T := TX11) (N := 71) hx hb hw iwX11 hown hK hP 8 rfl rfl 23 (by decide) (hw _ w_f_X11_130) (fun _ h9 => h9) rfl dX11_readsParts_135 ?_
                    refine lv_iconst (v := 1) hx hb dX11_readsParts_138 (by decide) ?_
                    refine lv_isub hx hb dX11_readsParts_139 ?_
                    refine lv_topi (fun z557 ez557 => ?_)
                    have tz557 : (z557).toInt = (z5).toInt - 1 := by rw [ez557]; exact i_sub rfl (by decide) (by omega)
                    refine va_put (D := (dC, dI)) (ci := 8) (v := .int z557) (ty := tyX11 23) (C := RX11) (T := TX11) (N := 71) hx hb hw iwX11 tyX11 tyX11_ok nmX11 hown hK hP hD hS 8 rfl rfl 23 (by decide) (hw _ w_f_X11_130) (fun _ h9 => h9) rfl (tyX11_ok 23 (by decide)) rfl rfl (Nat.le_of_ble_eq_true rfl) dX11_readsParts_140 (fun H locs hP9 hD9 hS9 => ?_)
                    clear hP hD hS
                    have hP : va_P (dC, dI) cls [(h_nv, .inl (cy_nv, 8000, .inl f189)), (h_nn, .inl (cy_nn, 8000, .inr (.inl f190))), (h_na, .inl (cy_na, 8000, .inl f191)), (h_nb, .inl (cy_nb, 8000, .inl f192)), (h_nc, .inl (cy_nc, 8000, .inl f231)), (h_vrs, .inl (cy_vrs, 32, .inl f194)), (h_let, .inl (cy_let, 256, .inl f195)), (h_tap, .inl (cy_tap, 600, .inl f_tap)), (h_mm, .inr (8, (mo126 v_mm (.ref h_nv) (.ref h_nn) (.ref h_na) (.ref h_nb) (.ref h_nc) (.int z180) (.ref h_vrs) (.ref h_let) (.ref h_tap) (.int x_mm_taped) (.int z506) (.int z507) (.int z508) (.int z509) (.long z510) (.int z551) (.int z552) (.int z553) (.int z557) (.int x_mm_reading))))] H := hP9
                    have hD : va_D A [(h_nv, .inl (cy_nv, 8000, .inl f189)), (h_nn, .inl (cy_nn, 8000, .inr (.inl f190))), (h_na, .inl (cy_na, 8000, .inl f191)), (h_nb, .inl (cy_nb, 8000, .inl f192)), (h_nc, .inl (cy_nc, 8000, .inl f231)), (h_vrs, .inl (cy_vrs, 32, .inl f194)), (h_let, .inl (cy_let, 256, .inl f195)), (h_tap, .inl (cy_tap, 600, .inl f_tap)), (h_mm, .inr (8, (mo126 v_mm (.ref h_nv) (.ref h_nn) (.ref h_na) (.ref h_nb) (.ref h_nc) (.int z180) (.ref h_vrs) (.ref h_let) (.ref h_tap) (.int x_mm_taped) (.int z506) (.int z507) (.int z508) (.int z509) (.long z510) (.int z551) (.int z552) (.int z553) (.int z557) (.int x_mm_reading))))] := hD9
                    have hS := hS9
                    clear hP9 hD9 hS9
                    have oz9 : x_mm_opened = z557 := Int32.toInt_inj.mp (by omega)
                    subst oz9
                    replace hP : va_P (dC, dI) cls [(h_mm, .inr (8, (mo126 v_mm (.ref h_nv) (.ref h_nn) (.ref h_na) (.ref h_nb) (.ref h_nc) (.int z180) (.ref h_vrs) (.ref h_let) (.ref h_tap) (.int x_mm_taped) (.int z506) (.int z507) (.int z508) (.int z509) (.long z510) (.int z551) (.int z552) (.int z553) (.int x_mm_opened) (.int x_mm_reading)))), (h_tap, .inl (cy_tap, 600, .inl f_tap)), (h_nv, .inl (cy_nv, 8000, .inl f189)), (h_nn, .inl (cy_nn, 8000, .inr (.inl f190))), (h_na, .inl (cy_na, 8000, .inl f191)), (h_nb, .inl (cy_nb, 8000, .inl f192)), (h_nc, .inl (cy_nc, 8000, .inl f231)), (h_vrs, .inl (cy_vrs, 32, .inl f194)), (h_let, .inl (cy_let, 256, .inl f195))] H := hP.sub [8, 7, 0, 1, 2, 3, 4, 5, 6] rfl
                    replace hD : va_D A [(h_mm, .inr (8, (mo126 v_mm (.ref h_nv) (.ref h_nn) (.ref h_na) (.ref h_nb) (.ref h_nc) (.int z180) (.ref h_vrs) (.ref h_let) (.ref h_tap) (.int x_mm_taped) (.int z506) (.int z507) (.int z508) (.int z509) (.long z510) (.int z551) (.int z552) (.int z553) (.int x_mm_opened) (.int x_mm_reading)))), (h_tap, .inl (cy_tap, 600, .inl f_tap)), (h_nv, .inl (cy_nv, 8000, .inl f189)), (h_nn, .inl (cy_nn, 8000, .inr (.inl f190))), (h_na, .inl (cy_na, 8000, .inl f191)), (h_nb, .inl (cy_nb, 8000, .inl f192)), (h_nc, .inl (cy_nc, 8000, .inl f231)), (h_vrs, .inl (cy_vrs, 32, .inl f194)), (h_let, .inl (cy_let, 256, .inl f195))] := hD.sub [8, 7, 0, 1, 2, 3, 4, 5, 6] (by decide) rfl
                    refine W.widen (k := 0) (n := 0) (Nat.le_of_ble_eq_true rfl) (Nat.le_of_ble_eq_true rfl) ?_
                    have w558 : 0 ≤ ((z180)).toInt ∧ ((z180)).toInt ≤ 1200 := by first | exact k197 | omega
                    have w559 : 0 ≤ ((z506)).toInt ∧ ((z506)).toInt ≤ 600 := by first | exact k511 | omega
                    have w560 : 0 ≤ ((z507)).toInt ∧ ((z507)).toInt ≤ 600 := by first | exact k512 | omega
                    have w561 : 0 ≤ ((z508)).toInt ∧ ((z508)).toInt ≤ 4 := by first | exact k513 | omega
                    have w562 : 0 ≤ ((z551)).toInt ∧ ((z551)).toInt ≤ 1 := by first | exact k554 | omega
                    have w563 : ((z507)).toInt ≤ ((z506)).toInt := by first | exact k514 | omega
                    have w564 : ((z551)).toInt = 1 ∨ ((z180)).toInt ≤ lo + ((z507)).toInt := by omega
                    have w565 : (x_mm_nodes).toInt ≤ ((z180)).toInt := by omega
                    have w566 : (x_mm_place).toInt ≤ ((z507)).toInt := by omega
                    have w567 : (x_mm_isFaulty).toInt ≤ ((z551)).toInt := by omega
                    have w568 : (((z551)).toInt = 0 ∧ ((pPs G (x_mm_taped).toInt dd (x_mm_place).toInt nv vf)).1 = 0 ∧ ((z552)).toInt = (x_mm_fault).toInt ∧ ((z553)).toInt = (x_mm_faultPlace).toInt) ∨ (((z551)).toInt = 1 ∧ ¬ ((pPs G (x_mm_taped).toInt dd (x_mm_place).toInt nv vf)).1 = 0 ∧ ((z552)).toInt = ((pPs G (x_mm_taped).toInt dd (x_mm_place).toInt nv vf)).1 ∧ ((z553)).toInt = ((pPs G (x_mm_taped).toInt dd (x_mm_place).toInt nv vf)).2.1) := by omega
                    have w569 : ((z507)).toInt = ((pPs G (x_mm_taped).toInt dd (x_mm_place).toInt nv vf)).2.1 := by omega
                    have w570 : 0 ≤ ((pPs G (x_mm_taped).toInt dd (x_mm_place).toInt nv vf)).2.2.1 ∧ ((pPs G (x_mm_taped).toInt dd (x_mm_place).toInt nv vf)).2.2.1 ≤ 8 := by omega
                    have w571 : ((z508)).toInt = kd (tkT G (x_mm_taped).toInt ((z507)).toInt) := by first | exact k515 | omega
                    have w572 : ((z508)).toInt = 0 ∨ (((z506)).toInt = tkX G (x_mm_taped).toInt ((z507)).toInt ∧ ((z509)).toInt = G ((z507)).toInt ∧ ((z507)).toInt < (x_mm_taped).toInt ∧ ((z507)).toInt + 1 ≤ ((z506)).toInt) := by first | exact k516 | omega
                    have w573 : ((z506)).toInt ≤ (x_mm_taped).toInt := by first | exact k517 | omega
                    have w574 : ((z507)).toInt ≤ (x_mm_taped).toInt := by first | exact k518 | omega
                    have w575 : EQ0 lo za zb zc zv (f191) (f192) (f231) (f189) := nd233
                    have w576 : ND lo ((z180)).toInt (gh196) (f191) (f192) (f231) := (nd_cast nd232 (by omega))
                    have w577 : ∀ y : Nat, (y : Int) < (x_mm_nodes).toInt → (gh196) y = hh y := (fun y hy => (k219 y (by omega)).trans ((k142 y (by omega)).trans ((k65 y (by omega)).trans (rfl))))
                    have w578 : VRF (x_mm_reading).toInt f_vrs (f194) := vr229
                    have w579 : ((f194) (Int32.toNatClampNeg x_mm_reading)).toInt = ((pPs G (x_mm_taped).toInt dd (x_mm_place).toInt nv vf)).2.2.1 := (k221.trans pq5483.symm)
                    have w580 : VFM ((pPs G (x_mm_taped).toInt dd (x_mm_place).toInt nv vf)).2.2.1 ((pPs G (x_mm_taped).toInt dd (x_mm_place).toInt nv vf)).2.2.2 (f195) (x_mm_reading).toInt := (by rw [pq5483, pq5484]; exact k222)
                    have w581 : NMK ((z508)).toInt ((z510)).toInt (NMI 27 G (x_mm_taped).toInt ((z507)).toInt) := k519
                    have w582 : IFZ ((z551)).toInt (∃ L B : Nat, (L : Int) = (x_mm_nodes).toInt ∧ (B : Int) = ((z180)).toInt ∧ NMX G (x_mm_taped).toInt (RVW (f189) (f190) (f191) (f192) (f231)) (SPX G (x_mm_taped).toInt 27 (RVW (f189) (f190) (f191) (f192) (f231)) ((pPs G (x_mm_taped).toInt dd (x_mm_place).toInt nv vf)).2.2.1 ((pPs G (x_mm_taped).toInt dd (x_mm_place).toInt nv vf)).2.2.2 k0 L B dd) (Int32.toNatClampNeg p1) (x_mm_place).toInt ((z507)).toInt) := (ifz_no (by omega))
                    have w583 : AGN (x_mm_nodes).toInt (p1).toInt f_nv (f189) f_nn (f190) f_na (f191) f_nb (f192) f_nc (f231) := an234
                    exact W.vret hx hb hr (fun t ht hW => ⟨⟨(z180, z506, z507, z508, z509, z510, z551, z552, z553, f189, f190, f191, f192, f231, f194, f195, gh196), rfl, ⟨w558, w559, w560, w561, w562, hf189, hf191, hf192, hf231, hf194, w563, w564, w565, w566, w567, w568, w569, w570, w571, w572, w573, w574, w575, w576, w577, w578, w579, w580, w581, w582, w583⟩, by rw [ht]; exact hP, hD⟩, hS.F ht⟩) hS.2.2 dX11_readsParts_143
              · clear k204
                refine va_iast hx hb hK hP hD hS 6 5 rfl rfl (i := p1) (x := r179) (vp_in_iff.mpr (by omega)) dX11_readsParts_93 (fun H locs hP9 hD9 hS9 => ?_)
                obtain ⟨f584, ef584⟩ : ∃ g : Nat → Int32, g = upd f193 (Int32.toNatClampNeg p1) r179 := ⟨_, rfl⟩
                clear hP hD hS
                have hP : va_P (dC, dI) cls [(h_mm, .inr (8, (mo126 v_mm (.ref h_nv) (.ref h_nn) (.ref h_na) (.ref h_nb) (.ref h_nc) (.int z180) (.ref h_vrs) (.ref h_let) (.ref h_tap) (.int x_mm_taped) (.int z181) (.int z182) (.int z183) (.int z184) (.long z185) (.int z186) (.int z187) (.int z188) (.int z5) (.int x_mm_reading)))), (h_tap, .inl (cy_tap, 600, .inl f_tap)), (h_nv, .inl (cy_nv, 8000, .inl f189)), (h_nn, .inl (cy_nn, 8000, .inr (.inl f190))), (h_na, .inl (cy_na, 8000, .inl f191)), (h_nb, .inl (cy_nb, 8000, .inl f192)), (h_nc, .inl (cy_nc, 8000, .inl f584)), (h_vrs, .inl (cy_vrs, 32, .inl f194)), (h_let, .inl (cy_let, 256, .inl f195))] H := by rw [ef584]; exact hP9
                have hD : va_D A [(h_mm, .inr (8, (mo126 v_mm (.ref h_nv) (.ref h_nn) (.ref h_na) (.ref h_nb) (.ref h_nc) (.int z180) (.ref h_vrs) (.ref h_let) (.ref h_tap) (.int x_mm_taped) (.int z181) (.int z182) (.int z183) (.int z184) (.long z185) (.int z186) (.int z187) (.int z188) (.int z5) (.int x_mm_reading)))), (h_tap, .inl (cy_tap, 600, .inl f_tap)), (h_nv, .inl (cy_nv, 8000, .inl f189)), (h_nn, .inl (cy_nn, 8000, .inr (.inl f190))), (h_na, .inl (cy_na, 8000, .inl f191)), (h_nb, .inl (cy_nb, 8000, .inl f192)), (h_nc, .inl (cy_nc, 8000, .inl f584)), (h_vrs, .inl (cy_vrs, 32, .inl f194)), (h_let, .inl (cy_let, 256, .inl f195))] := by rw [ef584]; exact hD9
                have hS := hS9
                clear hP9 hD9 hS9
                have hf584 : Rg (-1) 7999 f584 := by rw [ef584]; exact rg_upd hf193 (by omega)
                have nd585 : ND lo (z180).toInt gh196 f191 f192 f584 := by rw [ef584]; exact nd_setC (n := (z180).toInt) (nd_cast k218 (by omega)) (by omega) (by unfold NDk; omega)
                have nd586 : EQ0 lo za zb zc zv f191 f192 f584 f189 := by rw [ef584]; exact eq0_C k217 (by omega) (by omega)
                have an587 : AGN (x_mm_nodes).toInt (p1).toInt f_nv f189 f_nn f190 f_na f191 f_nb f192 f_nc f584 := agn_C an227 ef584 (by omega)
                clear k208
                refine lv_aload_n hx hb dX11_readsParts_94 rfl (lv_at hl 0 rfl) ?_
                refine lv_bipush (v := 44) hx hb dX11_readsParts_95 (by decide) ?_
                obtain ⟨vq588, evq588⟩ := mq126_92 v_mm (.ref h_nv) (.ref h_nn) (.ref h_na) (.ref h_nb) (.ref h_nc) (.int z180) (.ref h_vrs) (.ref h_let) (.int z187) (.int z188) (.int z5) (.int x_mm_reading)
                replace hP : va_P (dC, dI) cls [(h_mm, .inr (8, (mo92 vq588 (.ref h_tap) (.int x_mm_taped) (.int z181) (.int z182) (.int z183) (.int z184) (.long z185) (.int z186)))), (h_tap, .inl (cy_tap, 600, .inl f_tap)), (h_nv, .inl (cy_nv, 8000, .inl f189)), (h_nn, .inl (cy_nn, 8000, .inr (.inl f190))), (h_na, .inl (cy_na, 8000, .inl f191)), (h_nb, .inl (cy_nb, 8000, .inl f192)), (h_nc, .inl (cy_nc, 8000, .inl f584)), (h_vrs, .inl (cy_vrs, 32, .inl f194)), (h_let, .inl (cy_let, 256, .inl f195))] H := by rw [evq588]; exact hP
                replace hD : va_D A [(h_mm, .inr (8, (mo92 vq588 (.ref h_tap) (.int x_mm_taped) (.int z181) (.int z182) (.int z183) (.int z184) (.long z185) (.int z186)))), (h_tap, .inl (cy_tap, 600, .inl f_tap)), (h_nv, .inl (cy_nv, 8000, .inl f189)), (h_nn, .inl (cy_nn, 8000, .inr (.inl f190))), (h_na, .inl (cy_na, 8000, .inl f191)), (h_nb, .inl (cy_nb, 8000, .inl f192)), (h_nc, .inl (cy_nc, 8000, .inl f584)), (h_vrs, .inl (cy_vrs, 32, .inl f194)), (h_let, .inl (cy_let, 256, .inl f195))] := by rw [evq588]; exact hD
                have cst44 : (44 : Int32).toInt = 44 := by decide
                have hPc := hP.sub (ws' := [(h_mm, .inr (8, (mo92 vq588 (.ref h_tap) (.int x_mm_taped) (.int z181) (.int z182) (.int z183) (.int z184) (.long z185) (.int z186)))), (h_tap, .inl (cy_tap, 600, .inl f_tap))]) [0, 1] rfl
                have hDc := hD.sub (ws' := [(h_mm, .inr (8, (mo92 vq588 (.ref h_tap) (.int x_mm_taped) (.int z181) (.int z182) (.int z183) (.int z184) (.long z185) (.int z186)))), (h_tap, .inl (cy_tap, 600, .inl f_tap))]) [0, 1] (by decide) rfl
                have hKc := hK.sub (tys' := [(cy_tap, .byte)]) [0] rfl
                have hFc := va_free (wc := [(h_mm, .inr (8, (mo92 vq588 (.ref h_tap) (.int x_mm_taped) (.int z181) (.int z182) (.int z183) (.int z184) (.long z185) (.int z186)))), (h_tap, .inl (cy_tap, 600, .inl f_tap))]) hD hS hA [0, 1] rfl
                refine va_calli (va_runV (As := [.int 44]) (rest := []) ⟨hx, hb, hml, hown, hts⟩ (c_X11_passes l dC dI H.size h_mm h_tap vq588 x_mm_taped z181 z182 z183 z184 z185 z186 cy_tap f_tap 44 G (by first | exact hx_mm_taped | omega) (by first | exact k198 | omega) (by first | exact k199 | omega) (by first | exact k200 | omega) (by first | exact k201 | omega) (by first | exact k203 | omega) (by omega) (by omega) (by first | exact k213 | omega) (by first | exact k214 | omega) (by first | exact k215 | omega) (by first | exact k216 | omega) hn_tapq k223) (cwV 1 hts (gv hT w_m_X11_136 w_instanceMethod_X11_passes ws_sel_X11_passes w_ini_X11 w_code_X11_passes) rfl rfl rfl (by decide +kernel) ⟨(by dsimp only [headSpec]; omega), (by dsimp only [headSpec]; omega)⟩) ⟨pre_blind, va_recv hK hP (ci := 8) (q0 := 0) rfl rfl, pre_of hPc hKc hDc hN⟩ rfl rfl hl.1 rfl (lv_room (Nat.le_of_ble_eq_true rfl)) dX11_readsParts_97 ⟨(Nat.le_of_ble_eq_true rfl), (Nat.le_of_ble_eq_true rfl)⟩) hS (fun q _ h => hFc q h) hFc (fun r589 u t H locs ht hvm hq hB hz1 hk1 hS9 => ?_)
                obtain ⟨z590, z591, z592, z593, z594⟩ := u
                obtain ⟨hP1, hD1⟩ := hB
                rw [ht] at hP1
                obtain ⟨hP9, hD9⟩ := va_join (wr := [(h_nv, .inl (cy_nv, 8000, .inl f189)), (h_nn, .inl (cy_nn, 8000, .inr (.inl f190))), (h_na, .inl (cy_na, 8000, .inl f191)), (h_nb, .inl (cy_nb, 8000, .inl f192)), (h_nc, .inl (cy_nc, 8000, .inl f584)), (h_vrs, .inl (cy_vrs, 32, .inl f194)), (h_let, .inl (cy_let, 256, .inl f195))]) (w1 := [(h_mm, .inr (8, (mo92 vq588 (.ref h_tap) (.int x_mm_taped) (.int z590) (.int z591) (.int z592) (.int z593) (.long z594) (.int z186)))), (h_tap, .inl (cy_tap, 600, .inl f_tap))]) hP hD [0, 1] [2, 3, 4, 5, 6, 7, 8] rfl rfl (by decide) (by decide) hk1 hFc hP1 hD1
                clear hP hD hS hPc hDc hKc hFc hP1 hD1 hk1 hz1 ht hvm
                have hP : va_P (dC, dI) cls [(h_nv, .inl (cy_nv, 8000, .inl f189)), (h_nn, .inl (cy_nn, 8000, .inr (.inl f190))), (h_na, .inl (cy_na, 8000, .inl f191)), (h_nb, .inl (cy_nb, 8000, .inl f192)), (h_nc, .inl (cy_nc, 8000, .inl f584)), (h_vrs, .inl (cy_vrs, 32, .inl f194)), (h_let, .inl (cy_let, 256, .inl f195)), (h_mm, .inr (8, (mo92 vq588 (.ref h_tap) (.int x_mm_taped) (.int z590) (.int z591) (.int z592) (.int z593) (.long z594) (.int z186)))), (h_tap, .inl (cy_tap, 600, .inl f_tap))] H := hP9
                have hD : va_D A [(h_nv, .inl (cy_nv, 8000, .inl f189)), (h_nn, .inl (cy_nn, 8000, .inr (.inl f190))), (h_na, .inl (cy_na, 8000, .inl f191)), (h_nb, .inl (cy_nb, 8000, .inl f192)), (h_nc, .inl (cy_nc, 8000, .inl f584)), (h_vrs, .inl (cy_vrs, 32, .inl f194)), (h_let, .inl (cy_let, 256, .inl f195)), (h_mm, .inr (8, (mo92 vq588 (.ref h_tap) (.int x_mm_taped) (.int z590) (.int z591) (.int z592) (.int z593) (.long z594) (.int z186)))), (h_tap, .inl (cy_tap, 600, .inl f_tap))] := hD9
                have hS := hS9
                clear hP9 hD9 hS9
                rw [evq588] at hP hD
                replace hP : va_P (dC, dI) cls [(h_nv, .inl (cy_nv, 8000, .inl f189)), (h_nn, .inl (cy_nn, 8000, .inr (.inl f190))), (h_na, .inl (cy_na, 8000, .inl f191)), (h_nb, .inl (cy_nb, 8000, .inl f192)), (h_nc, .inl (cy_nc, 8000, .inl f584)), (h_vrs, .inl (cy_vrs, 32, .inl f194)), (h_let, .inl (cy_let, 256, .inl f195)), (h_mm, .inr (8, (mo126 v_mm (.ref h_nv) (.ref h_nn) (.ref h_na) (.ref h_nb) (.ref h_nc) (.int z180) (.ref h_vrs) (.ref h_let) (.ref h_tap) (.int x_mm_taped) (.int z590) (.int z591) (.int z592) (.int z593) (.long z594) (.int z186) (.int z187) (.int z188) (.int z5) (.int x_mm_reading)))), (h_tap, .inl (cy_tap, 600, .inl f_tap))] H := hP
                replace hD : va_D A [(h_nv, .inl (cy_nv, 8000, .inl f189)), (h_nn, .inl (cy_nn, 8000, .inr (.inl f190))), (h_na, .inl (cy_na, 8000, .inl f191)), (h_nb, .inl (cy_nb, 8000, .inl f192)), (h_nc, .inl (cy_nc, 8000, .inl f584)), (h_vrs, .inl (cy_vrs, 32, .inl f194)), (h_let, .inl (cy_let, 256, .inl f195)), (h_mm, .inr (8, (mo126 v_mm (.ref h_nv) (.ref h_nn) (.ref h_na) (.ref h_nb) (.ref h_nc) (.int z180) (.ref h_vrs) (.ref h_let) (.ref h_tap) (.int x_mm_taped) (.int z590) (.int z591) (.int z592) (.int z593) (.long z594) (.int z186) (.int z187) (.int z188) (.int z5) (.int x_mm_reading)))), (h_tap, .inl (cy_tap, 600, .inl f_tap))] := hD
                clear evq588 
                obtain ⟨k595, k596, k597, k598, k599, k600, k601, k602, k603, hq⟩ := hq
                replace k595 : 0 ≤ ((z590)).toInt ∧ ((z590)).toInt ≤ 600 := k595
                replace k596 : 0 ≤ ((z591)).toInt ∧ ((z591)).toInt ≤ 600 := k596
                replace k597 : 0 ≤ ((z592)).toInt ∧ ((z592)).toInt ≤ 4 := k597
                replace k598 : ((z591)).toInt ≤ ((z590)).toInt := k598
                replace k599 : ((z592)).toInt = kd (tkT (G) ((x_mm_taped)).toInt ((z591)).toInt) := k599
                replace k600 : ((z592)).toInt = 0 ∨ (((z590)).toInt = tkX (G) ((x_mm_taped)).toInt ((z591)).toInt ∧ ((z593)).toInt = (G) ((z591)).toInt ∧ ((z591)).toInt < ((x_mm_taped)).toInt ∧ ((z591)).toInt + 1 ≤ ((z590)).toInt) := k600
                replace k601 : ((z590)).toInt ≤ ((x_mm_taped)).toInt := k601
                replace k602 : ((z591)).toInt ≤ ((x_mm_taped)).toInt := k602
                replace k603 : NMK ((z592)).toInt ((z594)).toInt (NMI 27 (G) ((x_mm_taped)).toInt ((z591)).toInt) := k603
                rcases hq with ⟨rfl, hq⟩ | ⟨rfl, hq⟩ | ⟨rfl, hq⟩
                · replace hq : (((z186)).toInt = 0) ∧ (tkT (G) ((x_mm_taped)).toInt ((z182)).toInt = ((44 : Int32)).toInt) ∧ (((z591)).toInt = tkN (G) ((x_mm_taped)).toInt ((z182)).toInt) ∧ (((z181)).toInt ≤ ((z591)).toInt) ∧ (((z182)).toInt + 1 ≤ ((z591)).toInt) := hq
                  exact False.elim (by omega)
                · replace hq : (((z591)).toInt = ((z182)).toInt) ∧ (((z590)).toInt = ((z181)).toInt) ∧ (((z592)).toInt = ((z183)).toInt) ∧ (((z186)).toInt = 1) := hq
                  clear k214
                  have no9 := pLo_no (G := G) (n := (x_mm_taped).toInt) (P := (pPs G (x_mm_taped).toInt d9)) (r := 0) (q := (z105).toInt) (nv := (rh149).2.2.1) (vf := (rh149).2.2.2) (by rw [← erh226]; omega)
                  rw [← erh226] at no9
                  have rq9 : (pPs G (x_mm_taped).toInt dd (x_mm_place).toInt nv vf) = rh226 := lo174.symm.trans no9
                  have pq6041 : ((pPs G (x_mm_taped).toInt dd (x_mm_place).toInt nv vf)).1 = (rh226).1 := by rw [rq9]
                  have pq6042 : ((pPs G (x_mm_taped).toInt dd (x_mm_place).toInt nv vf)).2.1 = (rh226).2.1 := by rw [rq9]
                  have pq6043 : ((pPs G (x_mm_taped).toInt dd (x_mm_place).toInt nv vf)).2.2.1 = (rh226).2.2.1 := by rw [rq9]
                  have pq6044 : ((pPs G (x_mm_taped).toInt dd (x_mm_place).toInt nv vf)).2.2.2 = (rh226).2.2.2 := by rw [rq9]
                  refine lv_if_eq (tgt := 119) hx hb dX11_readsParts_100 (by decide) (fun _ => ?_) (fun c9 => absurd c9 (by decide))
                  refine lv_aload_n hx hb dX11_readsParts_119 rfl (lv_at hl 0 rfl) ?_
                  refine lv_bipush (v := 41) hx hb dX11_readsParts_120 (by decide) ?_
                  obtain ⟨vq605, evq605⟩ := mq126_92 v_mm (.ref h_nv) (.ref h_nn) (.ref h_na) (.ref h_nb) (.ref h_nc) (.int z180) (.ref h_vrs) (.ref h_let) (.int z187) (.int z188) (.int z5) (.int x_mm_reading)
                  replace hP : va_P (dC, dI) cls [(h_nv, .inl (cy_nv, 8000, .inl f189)), (h_nn, .inl (cy_nn, 8000, .inr (.inl f190))), (h_na, .inl (cy_na, 8000, .inl f191)), (h_nb, .inl (cy_nb, 8000, .inl f192)), (h_nc, .inl (cy_nc, 8000, .inl f584)), (h_vrs, .inl (cy_vrs, 32, .inl f194)), (h_let, .inl (cy_let, 256, .inl f195)), (h_mm, .inr (8, (mo92 vq605 (.ref h_tap) (.int x_mm_taped) (.int z590) (.int z591) (.int z592) (.int z593) (.long z594) (.int z186)))), (h_tap, .inl (cy_tap, 600, .inl f_tap))] H := by rw [evq605]; exact hP
                  replace hD : va_D A [(h_nv, .inl (cy_nv, 8000, .inl f189)), (h_nn, .inl (cy_nn, 8000, .inr (.inl f190))), (h_na, .inl (cy_na, 8000, .inl f191)), (h_nb, .inl (cy_nb, 8000, .inl f192)), (h_nc, .inl (cy_nc, 8000, .inl f584)), (h_vrs, .inl (cy_vrs, 32, .inl f194)), (h_let, .inl (cy_let, 256, .inl f195)), (h_mm, .inr (8, (mo92 vq605 (.ref h_tap) (.int x_mm_taped) (.int z590) (.int z591) (.int z592) (.int z593) (.long z594) (.int z186)))), (h_tap, .inl (cy_tap, 600, .inl f_tap))] := by rw [evq605]; exact hD
                  have cst41 : (41 : Int32).toInt = 41 := by decide
                  have hPc := hP.sub (ws' := [(h_mm, .inr (8, (mo92 vq605 (.ref h_tap) (.int x_mm_taped) (.int z590) (.int z591) (.int z592) (.int z593) (.long z594) (.int z186)))), (h_tap, .inl (cy_tap, 600, .inl f_tap))]) [7, 8] rfl
                  have hDc := hD.sub (ws' := [(h_mm, .inr (8, (mo92 vq605 (.ref h_tap) (.int x_mm_taped) (.int z590) (.int z591) (.int z592) (.int z593) (.long z594) (.int z186)))), (h_tap, .inl (cy_tap, 600, .inl f_tap))]) [7, 8] (by decide) rfl
                  have hKc := hK.sub (tys' := [(cy_tap, .byte)]) [0] rfl
                  have hFc := va_free (wc := [(h_mm, .inr (8, (mo92 vq605 (.ref h_tap) (.int x_mm_taped) (.int z590) (.int z591) (.int z592) (.int z593) (.long z594) (.int z186)))), (h_tap, .inl (cy_tap, 600, .inl f_tap))]) hD hS hA [7, 8] rfl
                  refine va_calli (va_runV (As := [.int 41]) (rest := []) ⟨hx, hb, hml, hown, hts⟩ (c_X11_passes l dC dI H.size h_mm h_tap vq605 x_mm_taped z590 z591 z592 z593 z594 z186 cy_tap f_tap 41 G (by first | exact hx_mm_taped | omega) (by first | exact k595 | omega) (by first | exact k596 | omega) (by first | exact k597 | omega) (by first | exact k201 | omega) (by first | exact k598 | omega) (by omega) (by omega) (by first | exact k599 | omega) (by first | exact k600 | omega) (by first | exact k601 | omega) (by first | exact k602 | omega) hn_tapq k603) (cwV 1 hts (gv hT w_m_X11_136 w_instanceMethod_X11_passes ws_sel_X11_passes w_ini_X11 w_code_X11_passes) rfl rfl rfl (by decide +kernel) ⟨(by dsimp only [headSpec]; omega), (by dsimp only [headSpec]; omega)⟩) ⟨pre_blind, va_recv hK hP (ci := 8) (q0 := 7) rfl rfl, pre_of hPc hKc hDc hN⟩ rfl rfl hl.1 rfl (lv_room (Nat.le_of_ble_eq_true rfl)) dX11_readsParts_122 ⟨(Nat.le_of_ble_eq_true rfl), (Nat.le_of_ble_eq_true rfl)⟩) hS (fun q _ h => hFc q h) hFc (fun r606 u t H locs ht hvm hq hB hz1 hk1 hS9 => ?_)
                  obtain ⟨z607, z608, z609, z610, z611⟩ := u
                  obtain ⟨hP1, hD1⟩ := hB
                  rw [ht] at hP1
                  obtain ⟨hP9, hD9⟩ := va_join (wr := [(h_nv, .inl (cy_nv, 8000, .inl f189)), (h_nn, .inl (cy_nn, 8000, .inr (.inl f190))), (h_na, .inl (cy_na, 8000, .inl f191)), (h_nb, .inl (cy_nb, 8000, .inl f192)), (h_nc, .inl (cy_nc, 8000, .inl f584)), (h_vrs, .inl (cy_vrs, 32, .inl f194)), (h_let, .inl (cy_let, 256, .inl f195))]) (w1 := [(h_mm, .inr (8, (mo92 vq605 (.ref h_tap) (.int x_mm_taped) (.int z607) (.int z608) (.int z609) (.int z610) (.long z611) (.int z186)))), (h_tap, .inl (cy_tap, 600, .inl f_tap))]) hP hD [7, 8] [0, 1, 2, 3, 4, 5, 6] rfl rfl (by decide) (by decide) hk1 hFc hP1 hD1
                  clear hP hD hS hPc hDc hKc hFc hP1 hD1 hk1 hz1 ht hvm
                  have hP : va_P (dC, dI) cls [(h_nv, .inl (cy_nv, 8000, .inl f189)), (h_nn, .inl (cy_nn, 8000, .inr (.inl f190))), (h_na, .inl (cy_na, 8000, .inl f191)), (h_nb, .inl (cy_nb, 8000, .inl f192)), (h_nc, .inl (cy_nc, 8000, .inl f584)), (h_vrs, .inl (cy_vrs, 32, .inl f194)), (h_let, .inl (cy_let, 256, .inl f195)), (h_mm, .inr (8, (mo92 vq605 (.ref h_tap) (.int x_mm_taped) (.int z607) (.int z608) (.int z609) (.int z610) (.long z611) (.int z186)))), (h_tap, .inl (cy_tap, 600, .inl f_tap))] H := hP9
                  have hD : va_D A [(h_nv, .inl (cy_nv, 8000, .inl f189)), (h_nn, .inl (cy_nn, 8000, .inr (.inl f190))), (h_na, .inl (cy_na, 8000, .inl f191)), (h_nb, .inl (cy_nb, 8000, .inl f192)), (h_nc, .inl (cy_nc, 8000, .inl f584)), (h_vrs, .inl (cy_vrs, 32, .inl f194)), (h_let, .inl (cy_let, 256, .inl f195)), (h_mm, .inr (8, (mo92 vq605 (.ref h_tap) (.int x_mm_taped) (.int z607) (.int z608) (.int z609) (.int z610) (.long z611) (.int z186)))), (h_tap, .inl (cy_tap, 600, .inl f_tap))] := hD9
                  have hS := hS9
                  clear hP9 hD9 hS9
                  rw [evq605] at hP hD
                  replace hP : va_P (dC, dI) cls [(h_nv, .inl (cy_nv, 8000, .inl f189)), (h_nn, .inl (cy_nn, 8000, .inr (.inl f190))), (h_na, .inl (cy_na, 8000, .inl f191)), (h_nb, .inl (cy_nb, 8000, .inl f192)), (h_nc, .inl (cy_nc, 8000, .inl f584)), (h_vrs, .inl (cy_vrs, 32, .inl f194)), (h_let, .inl (cy_let, 256, .inl f195)), (h_mm, .inr (8, (mo126 v_mm (.ref h_nv) (.ref h_nn) (.ref h_na) (.ref h_nb) (.ref h_nc) (.int z180) (.ref h_vrs) (.ref h_let) (.ref h_tap) (.int x_mm_taped) (.int z607) (.int z608) (.int z609) (.int z610) (.long z611) (.int z186) (.int z187) (.int z188) (.int z5) (.int x_mm_reading)))), (h_tap, .inl (cy_tap, 600, .inl f_tap))] H := hP
                  replace hD : va_D A [(h_nv, .inl (cy_nv, 8000, .inl f189)), (h_nn, .inl (cy_nn, 8000, .inr (.inl f190))), (h_na, .inl (cy_na, 8000, .inl f191)), (h_nb, .inl (cy_nb, 8000, .inl f192)), (h_nc, .inl (cy_nc, 8000, .inl f584)), (h_vrs, .inl (cy_vrs, 32, .inl f194)), (h_let, .inl (cy_let, 256, .inl f195)), (h_mm, .inr (8, (mo126 v_mm (.ref h_nv) (.ref h_nn) (.ref h_na) (.ref h_nb) (.ref h_nc) (.int z180) (.ref h_vrs) (.ref h_let) (.ref h_tap) (.int x_mm_taped) (.int z607) (.int z608) (.int z609) (.int z610) (.long z611) (.int z186) (.int z187) (.int z188) (.int z5) (.int x_mm_reading)))), (h_tap, .inl (cy_tap, 600, .inl f_tap))] := hD
                  clear evq605 
                  obtain ⟨k612, k613, k614, k615, k616, k617, k618, k619, k620, hq⟩ := hq
                  replace k612 : 0 ≤ ((z607)).toInt ∧ ((z607)).toInt ≤ 600 := k612
                  replace k613 : 0 ≤ ((z608)).toInt ∧ ((z608)).toInt ≤ 600 := k613
                  replace k614 : 0 ≤ ((z609)).toInt ∧ ((z609)).toInt ≤ 4 := k614
                  replace k615 : ((z608)).toInt ≤ ((z607)).toInt := k615
                  replace k616 : ((z609)).toInt = kd (tkT (G) ((x_mm_taped)).toInt ((z608)).toInt) := k616
                  replace k617 : ((z609)).toInt = 0 ∨ (((z607)).toInt = tkX (G) ((x_mm_taped)).toInt ((z608)).toInt ∧ ((z610)).toInt = (G) ((z608)).toInt ∧ ((z608)).toInt < ((x_mm_taped)).toInt ∧ ((z608)).toInt + 1 ≤ ((z607)).toInt) := k617
                  replace k618 : ((z607)).toInt ≤ ((x_mm_taped)).toInt := k618
                  replace k619 : ((z608)).toInt ≤ ((x_mm_taped)).toInt := k619
                  replace k620 : NMK ((z609)).toInt ((z611)).toInt (NMI 27 (G) ((x_mm_taped)).toInt ((z608)).toInt) := k620
                  rcases hq with ⟨rfl, hq⟩ | ⟨rfl, hq⟩ | ⟨rfl, hq⟩
                  · replace hq : (((z186)).toInt = 0) ∧ (tkT (G) ((x_mm_taped)).toInt ((z591)).toInt = ((41 : Int32)).toInt) ∧ (((z608)).toInt = tkN (G) ((x_mm_taped)).toInt ((z591)).toInt) ∧ (((z590)).toInt ≤ ((z608)).toInt) ∧ (((z591)).toInt + 1 ≤ ((z608)).toInt) := hq
                    exact False.elim (by omega)
                  · replace hq : (((z608)).toInt = ((z591)).toInt) ∧ (((z607)).toInt = ((z590)).toInt) ∧ (((z609)).toInt = ((z592)).toInt) ∧ (((z186)).toInt = 1) := hq
                    refine lv_if_ne (tgt := 133) hx hb dX11_readsParts_125 (by decide) (fun c9 => absurd c9 (by decide)) (fun _ => ?_)
                    refine lv_aload_n hx hb dX11_readsParts_128 rfl (lv_at hl 0 rfl) ?_
                    refine lv_iconst (v := 1) hx hb dX11_readsParts_129 (by decide) ?_
                    obtain ⟨vq621, evq621⟩ := mq126_90 v_mm (.ref h_nv) (.ref h_nn) (.ref h_na) (.ref h_nb) (.ref h_nc) (.int z180) (.ref h_vrs) (.ref h_let) (.ref h_tap) (.int x_mm_taped) (.int z607) (.int z609) (.int z610) (.long z611) (.int z5) (.int x_mm_reading)
                    replace hP : va_P (dC, dI) cls [(h_nv, .inl (cy_nv, 8000, .inl f189)), (h_nn, .inl (cy_nn, 8000, .inr (.inl f190))), (h_na, .inl (cy_na, 8000, .inl f191)), (h_nb, .inl (cy_nb, 8000, .inl f192)), (h_nc, .inl (cy_nc, 8000, .inl f584)), (h_vrs, .inl (cy_vrs, 32, .inl f194)), (h_let, .inl (cy_let, 256, .inl f195)), (h_mm, .inr (8, (mo90 vq621 (.int z608) (.int z186) (.int z187) (.int z188)))), (h_tap, .inl (cy_tap, 600, .inl f_tap))] H := by rw [evq621]; exact hP
                    replace hD : va_D A [(h_nv, .inl (cy_nv, 8000, .inl f189)), (h_nn, .inl (cy_nn, 8000, .inr (.inl f190))), (h_na, .inl (cy_na, 8000, .inl f191)), (h_nb, .inl (cy_nb, 8000, .inl f192)), (h_nc, .inl (cy_nc, 8000, .inl f584)), (h_vrs, .inl (cy_vrs, 32, .inl f194)), (h_let, .inl (cy_let, 256, .inl f195)), (h_mm, .inr (8, (mo90 vq621 (.int z608) (.int z186) (.int z187) (.int z188)))), (h_tap, .inl (cy_tap, 600, .inl f_tap))] := by rw [evq621]; exact hD
                    have cst1 : (1 : Int32).toInt = 1 := by decide
                    have hPc := hP.sub (ws' := [(h_mm, .inr (8, (mo90 vq621 (.int z608) (.int z186) (.int z187) (.int z188))))]) [7] rfl
                    have hDc := hD.sub (ws' := [(h_mm, .inr (8, (mo90 vq621 (.int z608) (.int z186) (.int z187) (.int z188))))]) [7] (by decide) rfl
                    have hKc := hK.sub (tys' := []) [] rfl
                    have hFc := va_free (wc := [(h_mm, .inr (8, (mo90 vq621 (.int z608) (.int z186) (.int z187) (.int z188))))]) hD hS hA [7] rfl
                    refine va_callv (va_runV (As := [.int 1]) (rest := []) ⟨hx, hb, hml, hown, hts⟩ (c_X11_faulty l dC dI H.size h_mm vq621 z608 z186 z187 z188 1 (by first | exact k613 | omega) (by first | exact k201 | omega)) (cwV 1 hts (gv hT w_m_X11_111 w_instanceMethod_X11_faulty ws_sel_X11_faulty w_ini_X11 w_code_X11_faulty) rfl rfl rfl (by decide +kernel) ⟨(by dsimp only [headSpec]; omega), (by dsimp only [headSpec]; omega)⟩) ⟨pre_blind, va_recv hK hP (ci := 8) (q0 := 7) rfl rfl, pre_of hPc hKc hDc hN⟩ rfl rfl hl.1 rfl (lv_room (Nat.le_of_ble_eq_true rfl)) dX11_readsParts_130 ⟨(Nat.le_of_ble_eq_true rfl), (Nat.le_of_ble_eq_true rfl)⟩) hS (fun q _ h => hFc q h) hFc (fun u t H locs ht hvm hq hB hz1 hk1 hS9 => ?_)
                    obtain ⟨z623, z624, z625⟩ := u
                    obtain ⟨hP1, hD1⟩ := hB
                    rw [ht] at hP1
                    obtain ⟨hP9, hD9⟩ := va_join (wr := [(h_nv, .inl (cy_nv, 8000, .inl f189)), (h_nn, .inl (cy_nn, 8000, .inr (.inl f190))), (h_na, .inl (cy_na, 8000, .inl f191)), (h_nb, .inl (cy_nb, 8000, .inl f192)), (h_nc, .inl (cy_nc, 8000, .inl f584)), (h_vrs, .inl (cy_vrs, 32, .inl f194)), (h_let, .inl (cy_let, 256, .inl f195)), (h_tap, .inl (cy_tap, 600, .inl f_tap))]) (w1 := [(h_mm, .inr (8, (mo90 vq621 (.int z608) (.int z623) (.int z624) (.int z625))))]) hP hD [7] [0, 1, 2, 3, 4, 5, 6, 8] rfl rfl (by decide) (by decide) hk1 hFc hP1 hD1
                    clear hP hD hS hPc hDc hKc hFc hP1 hD1 hk1 hz1 ht hvm
                    have hP : va_P (dC, dI) cls [(h_nv, .inl (cy_nv, 8000, .inl f189)), (h_nn, .inl (cy_nn, 8000, .inr (.inl f190))), (h_na, .inl (cy_na, 8000, .inl f191)), (h_nb, .inl (cy_nb, 8000, .inl f192)), (h_nc, .inl (cy_nc, 8000, .inl f584)), (h_vrs, .inl (cy_vrs, 32, .inl f194)), (h_let, .inl (cy_let, 256, .inl f195)), (h_tap, .inl (cy_tap, 600, .inl f_tap)), (h_mm, .inr (8, (mo90 vq621 (.int z608) (.int z623) (.int z624) (.int z625))))] H := hP9
                    have hD : va_D A [(h_nv, .inl (cy_nv, 8000, .inl f189)), (h_nn, .inl (cy_nn, 8000, .inr (.inl f190))), (h_na, .inl (cy_na, 8000, .inl f191)), (h_nb, .inl (cy_nb, 8000, .inl f192)), (h_nc, .inl (cy_nc, 8000, .inl f584)), (h_vrs, .inl (cy_vrs, 32, .inl f194)), (h_let, .inl (cy_let, 256, .inl f195)), (h_tap, .inl (cy_tap, 600, .inl f_tap)), (h_mm, .inr (8, (mo90 vq621 (.int z608) (.int z623) (.int z624) (.int z625))))] := hD9
                    have hS := hS9
                    clear hP9 hD9 hS9
                    rw [evq621] at hP hD
                    replace hP : va_P (dC, dI) cls [(h_nv, .inl (cy_nv, 8000, .inl f189)), (h_nn, .inl (cy_nn, 8000, .inr (.inl f190))), (h_na, .inl (cy_na, 8000, .inl f191)), (h_nb, .inl (cy_nb, 8000, .inl f192)), (h_nc, .inl (cy_nc, 8000, .inl f584)), (h_vrs, .inl (cy_vrs, 32, .inl f194)), (h_let, .inl (cy_let, 256, .inl f195)), (h_tap, .inl (cy_tap, 600, .inl f_tap)), (h_mm, .inr (8, (mo126 v_mm (.ref h_nv) (.ref h_nn) (.ref h_na) (.ref h_nb) (.ref h_nc) (.int z180) (.ref h_vrs) (.ref h_let) (.ref h_tap) (.int x_mm_taped) (.int z607) (.int z608) (.int z609) (.int z610) (.long z611) (.int z623) (.int z624) (.int z625) (.int z5) (.int x_mm_reading))))] H := hP
                    replace hD : va_D A [(h_nv, .inl (cy_nv, 8000, .inl f189)), (h_nn, .inl (cy_nn, 8000, .inr (.inl f190))), (h_na, .inl (cy_na, 8000, .inl f191)), (h_nb, .inl (cy_nb, 8000, .inl f192)), (h_nc, .inl (cy_nc, 8000, .inl f584)), (h_vrs, .inl (cy_vrs, 32, .inl f194)), (h_let, .inl (cy_let, 256, .inl f195)), (h_tap, .inl (cy_tap, 600, .inl f_tap)), (h_mm, .inr (8, (mo126 v_mm (.ref h_nv) (.ref h_nn) (.ref h_na) (.ref h_nb) (.ref h_nc) (.int z180) (.ref h_vrs) (.ref h_let) (.ref h_tap) (.int x_mm_taped) (.int z607) (.int z608) (.int z609) (.int z610) (.long z611) (.int z623) (.int z624) (.int z625) (.int z5) (.int x_mm_reading))))] := hD
                    clear evq621 
                    obtain ⟨k626, k627, k628⟩ := hq
                    replace k626 : 0 ≤ ((z623)).toInt ∧ ((z623)).toInt ≤ 1 := k626
                    replace k627 : ((z623)).toInt = 1 := k627
                    replace k628 : (((z186)).toInt = 1 ∧ ((z624)).toInt = ((z187)).toInt ∧ ((z625)).toInt = ((z188)).toInt) ∨ (((z186)).toInt = 0 ∧ ((z624)).toInt = ((1 : Int32)).toInt ∧ ((z625)).toInt = ((z608)).toInt) := k628
                    refine lv_aload_n hx hb dX11_readsParts_133 rfl (lv_at hl 0 rfl) ?_
                    refine lv_aload_n hx hb dX11_readsParts_134 rfl (lv_at hl 0 rfl) ?_
                    refine va_get (D := (dC, dI)) (ci := 8) (v := .int z5) (C := RX11) (T := TX11) (N := 71) hx hb hw iwX11 hown hK hP 8 rfl rfl 23 (by decide) (hw _ w_f_X11_130) (fun _ h9 => h9) rfl dX11_readsParts_135 ?_
                    refine lv_iconst (v := 1) hx hb dX11_readsParts_138 (by decide) ?_
                    refine lv_isub hx hb dX11_readsParts_139 ?_
                    refine lv_topi (fun z629 ez629 => ?_)
                    have tz629 : (z629).toInt = (z5).toInt - 1 := by rw [ez629]; exact i_sub rfl (by decide) (by omega)
                    refine va_put (D := (dC, dI)) (ci := 8) (v := .int z629) (ty := tyX11 23) (C := RX11) (T := TX11) (N := 71) hx hb hw iwX11 tyX11 tyX11_ok nmX11 hown hK hP hD hS 8 rfl rfl 23 (by decide) (hw _ w_f_X11_130) (fun _ h9 => h9) rfl (tyX11_ok 23 (by decide)) rfl rfl (Nat.le_of_ble_eq_true rfl) dX11_readsParts_140 (fun H locs hP9 hD9 hS9 => ?_)
                    clear hP hD hS
                    have hP : va_P (dC, dI) cls [(h_nv, .inl (cy_nv, 8000, .inl f189)), (h_nn, .inl (cy_nn, 8000, .inr (.inl f190))), (h_na, .inl (cy_na, 8000, .inl f191)), (h_nb, .inl (cy_nb, 8000, .inl f192)), (h_nc, .inl (cy_nc, 8000, .inl f584)), (h_vrs, .inl (cy_vrs, 32, .inl f194)), (h_let, .inl (cy_let, 256, .inl f195)), (h_tap, .inl (cy_tap, 600, .inl f_tap)), (h_mm, .inr (8, (mo126 v_mm (.ref h_nv) (.ref h_nn) (.ref h_na) (.ref h_nb) (.ref h_nc) (.int z180) (.ref h_vrs) (.ref h_let) (.ref h_tap) (.int x_mm_taped) (.int z607) (.int z608) (.int z609) (.int z610) (.long z611) (.int z623) (.int z624) (.int z625) (.int z629) (.int x_mm_reading))))] H := hP9
                    have hD : va_D A [(h_nv, .inl (cy_nv, 8000, .inl f189)), (h_nn, .inl (cy_nn, 8000, .inr (.inl f190))), (h_na, .inl (cy_na, 8000, .inl f191)), (h_nb, .inl (cy_nb, 8000, .inl f192)), (h_nc, .inl (cy_nc, 8000, .inl f584)), (h_vrs, .inl (cy_vrs, 32, .inl f194)), (h_let, .inl (cy_let, 256, .inl f195)), (h_tap, .inl (cy_tap, 600, .inl f_tap)), (h_mm, .inr (8, (mo126 v_mm (.ref h_nv) (.ref h_nn) (.ref h_na) (.ref h_nb) (.ref h_nc) (.int z180) (.ref h_vrs) (.ref h_let) (.ref h_tap) (.int x_mm_taped) (.int z607) (.int z608) (.int z609) (.int z610) (.long z611) (.int z623) (.int z624) (.int z625) (.int z629) (.int x_mm_reading))))] := hD9
                    have hS := hS9
                    clear hP9 hD9 hS9
                    have oz9 : x_mm_opened = z629 := Int32.toInt_inj.mp (by omega)
                    subst oz9
                    replace hP : va_P (dC, dI) cls [(h_mm, .inr (8, (mo126 v_mm (.ref h_nv) (.ref h_nn) (.ref h_na) (.ref h_nb) (.ref h_nc) (.int z180) (.ref h_vrs) (.ref h_let) (.ref h_tap) (.int x_mm_taped) (.int z607) (.int z608) (.int z609) (.int z610) (.long z611) (.int z623) (.int z624) (.int z625) (.int x_mm_opened) (.int x_mm_reading)))), (h_tap, .inl (cy_tap, 600, .inl f_tap)), (h_nv, .inl (cy_nv, 8000, .inl f189)), (h_nn, .inl (cy_nn, 8000, .inr (.inl f190))), (h_na, .inl (cy_na, 8000, .inl f191)), (h_nb, .inl (cy_nb, 8000, .inl f192)), (h_nc, .inl (cy_nc, 8000, .inl f584)), (h_vrs, .inl (cy_vrs, 32, .inl f194)), (h_let, .inl (cy_let, 256, .inl f195))] H := hP.sub [8, 7, 0, 1, 2, 3, 4, 5, 6] rfl
                    replace hD : va_D A [(h_mm, .inr (8, (mo126 v_mm (.ref h_nv) (.ref h_nn) (.ref h_na) (.ref h_nb) (.ref h_nc) (.int z180) (.ref h_vrs) (.ref h_let) (.ref h_tap) (.int x_mm_taped) (.int z607) (.int z608) (.int z609) (.int z610) (.long z611) (.int z623) (.int z624) (.int z625) (.int x_mm_opened) (.int x_mm_reading)))), (h_tap, .inl (cy_tap, 600, .inl f_tap)), (h_nv, .inl (cy_nv, 8000, .inl f189)), (h_nn, .inl (cy_nn, 8000, .inr (.inl f190))), (h_na, .inl (cy_na, 8000, .inl f191)), (h_nb, .inl (cy_nb, 8000, .inl f192)), (h_nc, .inl (cy_nc, 8000, .inl f584)), (h_vrs, .inl (cy_vrs, 32, .inl f194)), (h_let, .inl (cy_let, 256, .inl f195))] := hD.sub [8, 7, 0, 1, 2, 3, 4, 5, 6] (by decide) rfl
                    refine W.widen (k := 0) (n := 0) (Nat.le_of_ble_eq_true rfl) (Nat.le_of_ble_eq_true rfl) ?_
                    have w630 : 0 ≤ ((z180)).toInt ∧ ((z180)).toInt ≤ 1200 := by first | exact k197 | omega
                    have w631 : 0 ≤ ((z607)).toInt ∧ ((z607)).toInt ≤ 600 := by first | exact k612 | omega
                    have w632 : 0 ≤ ((z608)).toInt ∧ ((z608)).toInt ≤ 600 := by first | exact k613 | omega
                    have w633 : 0 ≤ ((z609)).toInt ∧ ((z609)).toInt ≤ 4 := by first | exact k614 | omega
                    have w634 : 0 ≤ ((z623)).toInt ∧ ((z623)).toInt ≤ 1 := by first | exact k626 | omega
                    have w635 : ((z608)).toInt ≤ ((z607)).toInt := by first | exact k615 | omega
                    have w636 : ((z623)).toInt = 1 ∨ ((z180)).toInt ≤ lo + ((z608)).toInt := by omega
                    have w637 : (x_mm_nodes).toInt ≤ ((z180)).toInt := by omega
                    have w638 : (x_mm_place).toInt ≤ ((z608)).toInt := by omega
                    have w639 : (x_mm_isFaulty).toInt ≤ ((z623)).toInt := by omega
                    have w640 : (((z623)).toInt = 0 ∧ ((pPs G (x_mm_taped).toInt dd (x_mm_place).toInt nv vf)).1 = 0 ∧ ((z624)).toInt = (x_mm_fault).toInt ∧ ((z625)).toInt = (x_mm_faultPlace).toInt) ∨ (((z623)).toInt = 1 ∧ ¬ ((pPs G (x_mm_taped).toInt dd (x_mm_place).toInt nv vf)).1 = 0 ∧ ((z624)).toInt = ((pPs G (x_mm_taped).toInt dd (x_mm_place).toInt nv vf)).1 ∧ ((z625)).toInt = ((pPs G (x_mm_taped).toInt dd (x_mm_place).toInt nv vf)).2.1) := by omega
                    have w641 : ((z608)).toInt = ((pPs G (x_mm_taped).toInt dd (x_mm_place).toInt nv vf)).2.1 := by omega
                    have w642 : 0 ≤ ((pPs G (x_mm_taped).toInt dd (x_mm_place).toInt nv vf)).2.2.1 ∧ ((pPs G (x_mm_taped).toInt dd (x_mm_place).toInt nv vf)).2.2.1 ≤ 8 := by omega
                    have w643 : ((z609)).toInt = kd (tkT G (x_mm_taped).toInt ((z608)).toInt) := by first | exact k616 | omega
                    have w644 : ((z609)).toInt = 0 ∨ (((z607)).toInt = tkX G (x_mm_taped).toInt ((z608)).toInt ∧ ((z610)).toInt = G ((z608)).toInt ∧ ((z608)).toInt < (x_mm_taped).toInt ∧ ((z608)).toInt + 1 ≤ ((z607)).toInt) := by first | exact k617 | omega
                    have w645 : ((z607)).toInt ≤ (x_mm_taped).toInt := by first | exact k618 | omega
                    have w646 : ((z608)).toInt ≤ (x_mm_taped).toInt := by first | exact k619 | omega
                    have w647 : EQ0 lo za zb zc zv (f191) (f192) (f584) (f189) := nd586
                    have w648 : ND lo ((z180)).toInt (gh196) (f191) (f192) (f584) := (nd_cast nd585 (by omega))
                    have w649 : ∀ y : Nat, (y : Int) < (x_mm_nodes).toInt → (gh196) y = hh y := (fun y hy => (k219 y (by omega)).trans ((k142 y (by omega)).trans ((k65 y (by omega)).trans (rfl))))
                    have w650 : VRF (x_mm_reading).toInt f_vrs (f194) := vr229
                    have w651 : ((f194) (Int32.toNatClampNeg x_mm_reading)).toInt = ((pPs G (x_mm_taped).toInt dd (x_mm_place).toInt nv vf)).2.2.1 := (k221.trans pq6043.symm)
                    have w652 : VFM ((pPs G (x_mm_taped).toInt dd (x_mm_place).toInt nv vf)).2.2.1 ((pPs G (x_mm_taped).toInt dd (x_mm_place).toInt nv vf)).2.2.2 (f195) (x_mm_reading).toInt := (by rw [pq6043, pq6044]; exact k222)
                    have w653 : NMK ((z609)).toInt ((z611)).toInt (NMI 27 G (x_mm_taped).toInt ((z608)).toInt) := k620
                    have w654 : IFZ ((z623)).toInt (∃ L B : Nat, (L : Int) = (x_mm_nodes).toInt ∧ (B : Int) = ((z180)).toInt ∧ NMX G (x_mm_taped).toInt (RVW (f189) (f190) (f191) (f192) (f584)) (SPX G (x_mm_taped).toInt 27 (RVW (f189) (f190) (f191) (f192) (f584)) ((pPs G (x_mm_taped).toInt dd (x_mm_place).toInt nv vf)).2.2.1 ((pPs G (x_mm_taped).toInt dd (x_mm_place).toInt nv vf)).2.2.2 k0 L B dd) (Int32.toNatClampNeg p1) (x_mm_place).toInt ((z608)).toInt) := (ifz_no (by omega))
                    have w655 : AGN (x_mm_nodes).toInt (p1).toInt f_nv (f189) f_nn (f190) f_na (f191) f_nb (f192) f_nc (f584) := an587
                    exact W.vret hx hb hr (fun t ht hW => ⟨⟨(z180, z607, z608, z609, z610, z611, z623, z624, z625, f189, f190, f191, f192, f584, f194, f195, gh196), rfl, ⟨w630, w631, w632, w633, w634, hf189, hf191, hf192, hf584, hf194, w635, w636, w637, w638, w639, w640, w641, w642, w643, w644, w645, w646, w647, w648, w649, w650, w651, w652, w653, w654, w655⟩, by rw [ht]; exact hP, hD⟩, hS.F ht⟩) hS.2.2 dX11_readsParts_143
                  · replace hq : (((z608)).toInt = ((z591)).toInt) ∧ (((z607)).toInt = ((z590)).toInt) ∧ (((z609)).toInt = ((z592)).toInt) ∧ (((z186)).toInt = 0) ∧ (¬ tkT (G) ((x_mm_taped)).toInt ((z591)).toInt = ((41 : Int32)).toInt) := hq
                    exact False.elim (by omega)
                · replace hq : (((z591)).toInt = ((z182)).toInt) ∧ (((z590)).toInt = ((z181)).toInt) ∧ (((z592)).toInt = ((z183)).toInt) ∧ (((z186)).toInt = 0) ∧ (¬ tkT (G) ((x_mm_taped)).toInt ((z182)).toInt = ((44 : Int32)).toInt) := hq
                  exact False.elim (by omega)
            · replace hq : (((z161)).toInt = ((z105)).toInt) ∧ (((z160)).toInt = ((z104)).toInt) ∧ (((z162)).toInt = ((z106)).toInt) ∧ (((z109)).toInt = 1) := hq
              exact False.elim (by omega)
            · replace hq : (((z161)).toInt = ((z105)).toInt) ∧ (((z160)).toInt = ((z104)).toInt) ∧ (((z162)).toInt = ((z106)).toInt) ∧ (((z109)).toInt = 0) ∧ (¬ tkT (G) ((x_mm_taped)).toInt ((z105)).toInt = ((44 : Int32)).toInt) := hq
              clear k137
              have cst44 : (44 : Int32).toInt = 44 := by decide
              have on9 := pLo_off (G := G) (n := (x_mm_taped).toInt) (P := (pPs G (x_mm_taped).toInt d9)) (r := 1) (q := (z28).toInt) (nv := (rh72).2.2.1) (vf := (rh72).2.2.2) (by rw [← erh149]; omega) (by rw [← erh149, ← k134]; omega)
              rw [← erh149, ← k134] at on9
              have cl9 := on9.symm.trans lo97
              have xt9 : XT (rh72).2.2.1 (rh72).2.2.2 (rh149).2.2.1 (rh149).2.2.2 := by rw [erh149]; exact (pTm_xi (pPs_xi _) _ _ _).1
              have pn656 : PRN G (x_mm_taped).toInt (RVW f112 f113 f114 f154 f116) (rh149).2.2.1 (rh149).2.2.2 (z103).toInt dd p1 2 (x_mm_place).toInt (z105).toInt := prn_B (P0 := (z26).toInt) (Q := (z26).toInt) (q1 := (z28).toInt) pn100 k148 (by omega) xt9 (by omega) (by omega) (by omega) tc99 (k147 (by omega)) ef154
              have ts657 := trs_B ts151 ef154 (by omega)
              have pe9 : tkT G (x_mm_taped).toInt (z161).toInt = tkT G (x_mm_taped).toInt (z105).toInt := congrArg (tkT G (x_mm_taped).toInt) hq.1
              have pn9 : tkN G (x_mm_taped).toInt (z161).toInt = tkN G (x_mm_taped).toInt (z105).toInt := congrArg (tkN G (x_mm_taped).toInt) hq.1
              refine lv_if_eq (tgt := 119) hx hb dX11_readsParts_81 (by decide) (fun _ => ?_) (fun c9 => absurd c9 (by decide))
              refine lv_aload_n hx hb dX11_readsParts_119 rfl (lv_at hl 0 rfl) ?_
              refine lv_bipush (v := 41) hx hb dX11_readsParts_120 (by decide) ?_
              obtain ⟨vq658, evq658⟩ := mq126_92 v_mm (.ref h_nv) (.ref h_nn) (.ref h_na) (.ref h_nb) (.ref h_nc) (.int z103) (.ref h_vrs) (.ref h_let) (.int z110) (.int z111) (.int z5) (.int x_mm_reading)
              replace hP : va_P (dC, dI) cls [(h_nv, .inl (cy_nv, 8000, .inl f112)), (h_nn, .inl (cy_nn, 8000, .inr (.inl f113))), (h_na, .inl (cy_na, 8000, .inl f114)), (h_nb, .inl (cy_nb, 8000, .inl f154)), (h_nc, .inl (cy_nc, 8000, .inl f116)), (h_vrs, .inl (cy_vrs, 32, .inl f117)), (h_let, .inl (cy_let, 256, .inl f118)), (h_mm, .inr (8, (mo92 vq658 (.ref h_tap) (.int x_mm_taped) (.int z160) (.int z161) (.int z162) (.int z163) (.long z164) (.int z109)))), (h_tap, .inl (cy_tap, 600, .inl f_tap))] H := by rw [evq658]; exact hP
              replace hD : va_D A [(h_nv, .inl (cy_nv, 8000, .inl f112)), (h_nn, .inl (cy_nn, 8000, .inr (.inl f113))), (h_na, .inl (cy_na, 8000, .inl f114)), (h_nb, .inl (cy_nb, 8000, .inl f154)), (h_nc, .inl (cy_nc, 8000, .inl f116)), (h_vrs, .inl (cy_vrs, 32, .inl f117)), (h_let, .inl (cy_let, 256, .inl f118)), (h_mm, .inr (8, (mo92 vq658 (.ref h_tap) (.int x_mm_taped) (.int z160) (.int z161) (.int z162) (.int z163) (.long z164) (.int z109)))), (h_tap, .inl (cy_tap, 600, .inl f_tap))] := by rw [evq658]; exact hD
              have cst41 : (41 : Int32).toInt = 41 := by decide
              have hPc := hP.sub (ws' := [(h_mm, .inr (8, (mo92 vq658 (.ref h_tap) (.int x_mm_taped) (.int z160) (.int z161) (.int z162) (.int z163) (.long z164) (.int z109)))), (h_tap, .inl (cy_tap, 600, .inl f_tap))]) [7, 8] rfl
              have hDc := hD.sub (ws' := [(h_mm, .inr (8, (mo92 vq658 (.ref h_tap) (.int x_mm_taped) (.int z160) (.int z161) (.int z162) (.int z163) (.long z164) (.int z109)))), (h_tap, .inl (cy_tap, 600, .inl f_tap))]) [7, 8] (by decide) rfl
              have hKc := hK.sub (tys' := [(cy_tap, .byte)]) [0] rfl
              have hFc := va_free (wc := [(h_mm, .inr (8, (mo92 vq658 (.ref h_tap) (.int x_mm_taped) (.int z160) (.int z161) (.int z162) (.int z163) (.long z164) (.int z109)))), (h_tap, .inl (cy_tap, 600, .inl f_tap))]) hD hS hA [7, 8] rfl
              refine va_calli (va_runV (As := [.int 41]) (rest := []) ⟨hx, hb, hml, hown, hts⟩ (c_X11_passes l dC dI H.size h_mm h_tap vq658 x_mm_taped z160 z161 z162 z163 z164 z109 cy_tap f_tap 41 G (by first | exact hx_mm_taped | omega) (by first | exact k165 | omega) (by first | exact k166 | omega) (by first | exact k167 | omega) (by first | exact k124 | omega) (by first | exact k168 | omega) (by omega) (by omega) (by first | exact k169 | omega) (by first | exact k170 | omega) (by first | exact k171 | omega) (by first | exact k172 | omega) hn_tapq k173) (cwV 1 hts (gv hT w_m_X11_136 w_instanceMethod_X11_passes ws_sel_X11_passes w_ini_X11 w_code_X11_passes) rfl rfl rfl (by decide +kernel) ⟨(by dsimp only [headSpec]; omega), (by dsimp only [headSpec]; omega)⟩) ⟨pre_blind, va_recv hK hP (ci := 8) (q0 := 7) rfl rfl, pre_of hPc hKc hDc hN⟩ rfl rfl hl.1 rfl (lv_room (Nat.le_of_ble_eq_true rfl)) dX11_readsParts_122 ⟨(Nat.le_of_ble_eq_true rfl), (Nat.le_of_ble_eq_true rfl)⟩) hS (fun q _ h => hFc q h) hFc (fun r659 u t H locs ht hvm hq hB hz1 hk1 hS9 => ?_)
              obtain ⟨z660, z661, z662, z663, z664⟩ := u
              obtain ⟨hP1, hD1⟩ := hB
              rw [ht] at hP1
              obtain ⟨hP9, hD9⟩ := va_join (wr := [(h_nv, .inl (cy_nv, 8000, .inl f112)), (h_nn, .inl (cy_nn, 8000, .inr (.inl f113))), (h_na, .inl (cy_na, 8000, .inl f114)), (h_nb, .inl (cy_nb, 8000, .inl f154)), (h_nc, .inl (cy_nc, 8000, .inl f116)), (h_vrs, .inl (cy_vrs, 32, .inl f117)), (h_let, .inl (cy_let, 256, .inl f118))]) (w1 := [(h_mm, .inr (8, (mo92 vq658 (.ref h_tap) (.int x_mm_taped) (.int z660) (.int z661) (.int z662) (.int z663) (.long z664) (.int z109)))), (h_tap, .inl (cy_tap, 600, .inl f_tap))]) hP hD [7, 8] [0, 1, 2, 3, 4, 5, 6] rfl rfl (by decide) (by decide) hk1 hFc hP1 hD1
              clear hP hD hS hPc hDc hKc hFc hP1 hD1 hk1 hz1 ht hvm
              have hP : va_P (dC, dI) cls [(h_nv, .inl (cy_nv, 8000, .inl f112)), (h_nn, .inl (cy_nn, 8000, .inr (.inl f113))), (h_na, .inl (cy_na, 8000, .inl f114)), (h_nb, .inl (cy_nb, 8000, .inl f154)), (h_nc, .inl (cy_nc, 8000, .inl f116)), (h_vrs, .inl (cy_vrs, 32, .inl f117)), (h_let, .inl (cy_let, 256, .inl f118)), (h_mm, .inr (8, (mo92 vq658 (.ref h_tap) (.int x_mm_taped) (.int z660) (.int z661) (.int z662) (.int z663) (.long z664) (.int z109)))), (h_tap, .inl (cy_tap, 600, .inl f_tap))] H := hP9
              have hD : va_D A [(h_nv, .inl (cy_nv, 8000, .inl f112)), (h_nn, .inl (cy_nn, 8000, .inr (.inl f113))), (h_na, .inl (cy_na, 8000, .inl f114)), (h_nb, .inl (cy_nb, 8000, .inl f154)), (h_nc, .inl (cy_nc, 8000, .inl f116)), (h_vrs, .inl (cy_vrs, 32, .inl f117)), (h_let, .inl (cy_let, 256, .inl f118)), (h_mm, .inr (8, (mo92 vq658 (.ref h_tap) (.int x_mm_taped) (.int z660) (.int z661) (.int z662) (.int z663) (.long z664) (.int z109)))), (h_tap, .inl (cy_tap, 600, .inl f_tap))] := hD9
              have hS := hS9
              clear hP9 hD9 hS9
              rw [evq658] at hP hD
              replace hP : va_P (dC, dI) cls [(h_nv, .inl (cy_nv, 8000, .inl f112)), (h_nn, .inl (cy_nn, 8000, .inr (.inl f113))), (h_na, .inl (cy_na, 8000, .inl f114)), (h_nb, .inl (cy_nb, 8000, .inl f154)), (h_nc, .inl (cy_nc, 8000, .inl f116)), (h_vrs, .inl (cy_vrs, 32, .inl f117)), (h_let, .inl (cy_let, 256, .inl f118)), (h_mm, .inr (8, (mo126 v_mm (.ref h_nv) (.ref h_nn) (.ref h_na) (.ref h_nb) (.ref h_nc) (.int z103) (.ref h_vrs) (.ref h_let) (.ref h_tap) (.int x_mm_taped) (.int z660) (.int z661) (.int z662) (.int z663) (.long z664) (.int z109) (.int z110) (.int z111) (.int z5) (.int x_mm_reading)))), (h_tap, .inl (cy_tap, 600, .inl f_tap))] H := hP
              replace hD : va_D A [(h_nv, .inl (cy_nv, 8000, .inl f112)), (h_nn, .inl (cy_nn, 8000, .inr (.inl f113))), (h_na, .inl (cy_na, 8000, .inl f114)), (h_nb, .inl (cy_nb, 8000, .inl f154)), (h_nc, .inl (cy_nc, 8000, .inl f116)), (h_vrs, .inl (cy_vrs, 32, .inl f117)), (h_let, .inl (cy_let, 256, .inl f118)), (h_mm, .inr (8, (mo126 v_mm (.ref h_nv) (.ref h_nn) (.ref h_na) (.ref h_nb) (.ref h_nc) (.int z103) (.ref h_vrs) (.ref h_let) (.ref h_tap) (.int x_mm_taped) (.int z660) (.int z661) (.int z662) (.int z663) (.long z664) (.int z109) (.int z110) (.int z111) (.int z5) (.int x_mm_reading)))), (h_tap, .inl (cy_tap, 600, .inl f_tap))] := hD
              clear evq658 
              obtain ⟨k665, k666, k667, k668, k669, k670, k671, k672, k673, hq⟩ := hq
              replace k665 : 0 ≤ ((z660)).toInt ∧ ((z660)).toInt ≤ 600 := k665
              replace k666 : 0 ≤ ((z661)).toInt ∧ ((z661)).toInt ≤ 600 := k666
              replace k667 : 0 ≤ ((z662)).toInt ∧ ((z662)).toInt ≤ 4 := k667
              replace k668 : ((z661)).toInt ≤ ((z660)).toInt := k668
              replace k669 : ((z662)).toInt = kd (tkT (G) ((x_mm_taped)).toInt ((z661)).toInt) := k669
              replace k670 : ((z662)).toInt = 0 ∨ (((z660)).toInt = tkX (G) ((x_mm_taped)).toInt ((z661)).toInt ∧ ((z663)).toInt = (G) ((z661)).toInt ∧ ((z661)).toInt < ((x_mm_taped)).toInt ∧ ((z661)).toInt + 1 ≤ ((z660)).toInt) := k670
              replace k671 : ((z660)).toInt ≤ ((x_mm_taped)).toInt := k671
              replace k672 : ((z661)).toInt ≤ ((x_mm_taped)).toInt := k672
              replace k673 : NMK ((z662)).toInt ((z664)).toInt (NMI 27 (G) ((x_mm_taped)).toInt ((z661)).toInt) := k673
              rcases hq with ⟨rfl, hq⟩ | ⟨rfl, hq⟩ | ⟨rfl, hq⟩
              · replace hq : (((z109)).toInt = 0) ∧ (tkT (G) ((x_mm_taped)).toInt ((z161)).toInt = ((41 : Int32)).toInt) ∧ (((z661)).toInt = tkN (G) ((x_mm_taped)).toInt ((z161)).toInt) ∧ (((z160)).toInt ≤ ((z661)).toInt) ∧ (((z161)).toInt + 1 ≤ ((z661)).toInt) := hq
                have cst41 : (41 : Int32).toInt = 41 := by decide
                have pv9 : (pPs G (x_mm_taped).toInt dd (x_mm_place).toInt nv vf) = (0, tkN G (x_mm_taped).toInt (z105).toInt, (rh149).2.2.1, (rh149).2.2.2) := cl9.symm.trans (pCl_yes (by omega))
                have pq6741 : ((pPs G (x_mm_taped).toInt dd (x_mm_place).toInt nv vf)).1 = 0 := by rw [pv9]
                have pq6742 : ((pPs G (x_mm_taped).toInt dd (x_mm_place).toInt nv vf)).2.1 = tkN G (x_mm_taped).toInt (z105).toInt := by rw [pv9]
                have pq6743 : ((pPs G (x_mm_taped).toInt dd (x_mm_place).toInt nv vf)).2.2.1 = (rh149).2.2.1 := by rw [pv9]
                have pq6744 : ((pPs G (x_mm_taped).toInt dd (x_mm_place).toInt nv vf)).2.2.2 = (rh149).2.2.2 := by rw [pv9]
                have tz9 : tkT G (x_mm_taped).toInt (z105).toInt = 41 := by omega
                refine lv_if_ne (tgt := 133) hx hb dX11_readsParts_125 (by decide) (fun _ => ?_) (fun c9 => absurd c9 (by decide))
                refine lv_aload_n hx hb dX11_readsParts_133 rfl (lv_at hl 0 rfl) ?_
                refine lv_aload_n hx hb dX11_readsParts_134 rfl (lv_at hl 0 rfl) ?_
                refine va_get (D := (dC, dI)) (ci := 8) (v := .int z5) (C := RX11) (T := TX11) (N := 71) hx hb hw iwX11 hown hK hP 7 rfl rfl 23 (by decide) (hw _ w_f_X11_130) (fun _ h9 => h9) rfl dX11_readsParts_135 ?_
                refine lv_iconst (v := 1) hx hb dX11_readsParts_138 (by decide) ?_
                refine lv_isub hx hb dX11_readsParts_139 ?_
                refine lv_topi (fun z675 ez675 => ?_)
                have tz675 : (z675).toInt = (z5).toInt - 1 := by rw [ez675]; exact i_sub rfl (by decide) (by omega)
                refine va_put (D := (dC, dI)) (ci := 8) (v := .int z675) (ty := tyX11 23) (C := RX11) (T := TX11) (N := 71) hx hb hw iwX11 tyX11 tyX11_ok nmX11 hown hK hP hD hS 7 rfl rfl 23 (by decide) (hw _ w_f_X11_130) (fun _ h9 => h9) rfl (tyX11_ok 23 (by decide)) rfl rfl (Nat.le_of_ble_eq_true rfl) dX11_readsParts_140 (fun H locs hP9 hD9 hS9 => ?_)
                clear hP hD hS
                have hP : va_P (dC, dI) cls [(h_nv, .inl (cy_nv, 8000, .inl f112)), (h_nn, .inl (cy_nn, 8000, .inr (.inl f113))), (h_na, .inl (cy_na, 8000, .inl f114)), (h_nb, .inl (cy_nb, 8000, .inl f154)), (h_nc, .inl (cy_nc, 8000, .inl f116)), (h_vrs, .inl (cy_vrs, 32, .inl f117)), (h_let, .inl (cy_let, 256, .inl f118)), (h_mm, .inr (8, (mo126 v_mm (.ref h_nv) (.ref h_nn) (.ref h_na) (.ref h_nb) (.ref h_nc) (.int z103) (.ref h_vrs) (.ref h_let) (.ref h_tap) (.int x_mm_taped) (.int z660) (.int z661) (.int z662) (.int z663) (.long z664) (.int z109) (.int z110) (.int z111) (.int z675) (.int x_mm_reading)))), (h_tap, .inl (cy_tap, 600, .inl f_tap))] H := hP9
                have hD : va_D A [(h_nv, .inl (cy_nv, 8000, .inl f112)), (h_nn, .inl (cy_nn, 8000, .inr (.inl f113))), (h_na, .inl (cy_na, 8000, .inl f114)), (h_nb, .inl (cy_nb, 8000, .inl f154)), (h_nc, .inl (cy_nc, 8000, .inl f116)), (h_vrs, .inl (cy_vrs, 32, .inl f117)), (h_let, .inl (cy_let, 256, .inl f118)), (h_mm, .inr (8, (mo126 v_mm (.ref h_nv) (.ref h_nn) (.ref h_na) (.ref h_nb) (.ref h_nc) (.int z103) (.ref h_vrs) (.ref h_let) (.ref h_tap) (.int x_mm_taped) (.int z660) (.int z661) (.int z662) (.int z663) (.long z664) (.int z109) (.int z110) (.int z111) (.int z675) (.int x_mm_reading)))), (h_tap, .inl (cy_tap, 600, .inl f_tap))] := hD9
                have hS := hS9
                clear hP9 hD9 hS9
                have oz9 : x_mm_opened = z675 := Int32.toInt_inj.mp (by omega)
                subst oz9
                replace hP : va_P (dC, dI) cls [(h_mm, .inr (8, (mo126 v_mm (.ref h_nv) (.ref h_nn) (.ref h_na) (.ref h_nb) (.ref h_nc) (.int z103) (.ref h_vrs) (.ref h_let) (.ref h_tap) (.int x_mm_taped) (.int z660) (.int z661) (.int z662) (.int z663) (.long z664) (.int z109) (.int z110) (.int z111) (.int x_mm_opened) (.int x_mm_reading)))), (h_tap, .inl (cy_tap, 600, .inl f_tap)), (h_nv, .inl (cy_nv, 8000, .inl f112)), (h_nn, .inl (cy_nn, 8000, .inr (.inl f113))), (h_na, .inl (cy_na, 8000, .inl f114)), (h_nb, .inl (cy_nb, 8000, .inl f154)), (h_nc, .inl (cy_nc, 8000, .inl f116)), (h_vrs, .inl (cy_vrs, 32, .inl f117)), (h_let, .inl (cy_let, 256, .inl f118))] H := hP.sub [7, 8, 0, 1, 2, 3, 4, 5, 6] rfl
                replace hD : va_D A [(h_mm, .inr (8, (mo126 v_mm (.ref h_nv) (.ref h_nn) (.ref h_na) (.ref h_nb) (.ref h_nc) (.int z103) (.ref h_vrs) (.ref h_let) (.ref h_tap) (.int x_mm_taped) (.int z660) (.int z661) (.int z662) (.int z663) (.long z664) (.int z109) (.int z110) (.int z111) (.int x_mm_opened) (.int x_mm_reading)))), (h_tap, .inl (cy_tap, 600, .inl f_tap)), (h_nv, .inl (cy_nv, 8000, .inl f112)), (h_nn, .inl (cy_nn, 8000, .inr (.inl f113))), (h_na, .inl (cy_na, 8000, .inl f114)), (h_nb, .inl (cy_nb, 8000, .inl f154)), (h_nc, .inl (cy_nc, 8000, .inl f116)), (h_vrs, .inl (cy_vrs, 32, .inl f117)), (h_let, .inl (cy_let, 256, .inl f118))] := hD.sub [7, 8, 0, 1, 2, 3, 4, 5, 6] (by decide) rfl
                refine W.widen (k := 0) (n := 0) (Nat.le_of_ble_eq_true rfl) (Nat.le_of_ble_eq_true rfl) ?_
                have w676 : 0 ≤ ((z103)).toInt ∧ ((z103)).toInt ≤ 1200 := by first | exact k120 | omega
                have w677 : 0 ≤ ((z660)).toInt ∧ ((z660)).toInt ≤ 600 := by first | exact k665 | omega
                have w678 : 0 ≤ ((z661)).toInt ∧ ((z661)).toInt ≤ 600 := by first | exact k666 | omega
                have w679 : 0 ≤ ((z662)).toInt ∧ ((z662)).toInt ≤ 4 := by first | exact k667 | omega
                have w680 : 0 ≤ ((z109)).toInt ∧ ((z109)).toInt ≤ 1 := by first | exact k124 | omega
                have w681 : ((z661)).toInt ≤ ((z660)).toInt := by first | exact k668 | omega
                have w682 : ((z109)).toInt = 1 ∨ ((z103)).toInt ≤ lo + ((z661)).toInt := by omega
                have w683 : (x_mm_nodes).toInt ≤ ((z103)).toInt := by omega
                have w684 : (x_mm_place).toInt ≤ ((z661)).toInt := by omega
                have w685 : (x_mm_isFaulty).toInt ≤ ((z109)).toInt := by omega
                have w686 : (((z109)).toInt = 0 ∧ ((pPs G (x_mm_taped).toInt dd (x_mm_place).toInt nv vf)).1 = 0 ∧ ((z110)).toInt = (x_mm_fault).toInt ∧ ((z111)).toInt = (x_mm_faultPlace).toInt) ∨ (((z109)).toInt = 1 ∧ ¬ ((pPs G (x_mm_taped).toInt dd (x_mm_place).toInt nv vf)).1 = 0 ∧ ((z110)).toInt = ((pPs G (x_mm_taped).toInt dd (x_mm_place).toInt nv vf)).1 ∧ ((z111)).toInt = ((pPs G (x_mm_taped).toInt dd (x_mm_place).toInt nv vf)).2.1) := by omega
                have w687 : ((z661)).toInt = ((pPs G (x_mm_taped).toInt dd (x_mm_place).toInt nv vf)).2.1 := by omega
                have w688 : 0 ≤ ((pPs G (x_mm_taped).toInt dd (x_mm_place).toInt nv vf)).2.2.1 ∧ ((pPs G (x_mm_taped).toInt dd (x_mm_place).toInt nv vf)).2.2.1 ≤ 8 := by omega
                have w689 : ((z662)).toInt = kd (tkT G (x_mm_taped).toInt ((z661)).toInt) := by first | exact k669 | omega
                have w690 : ((z662)).toInt = 0 ∨ (((z660)).toInt = tkX G (x_mm_taped).toInt ((z661)).toInt ∧ ((z663)).toInt = G ((z661)).toInt ∧ ((z661)).toInt < (x_mm_taped).toInt ∧ ((z661)).toInt + 1 ≤ ((z660)).toInt) := by first | exact k670 | omega
                have w691 : ((z660)).toInt ≤ (x_mm_taped).toInt := by first | exact k671 | omega
                have w692 : ((z661)).toInt ≤ (x_mm_taped).toInt := by first | exact k672 | omega
                have w693 : EQ0 lo za zb zc zv (f114) (f154) (f116) (f112) := nd156
                have w694 : ND lo ((z103)).toInt (gh119) (f114) (f154) (f116) := (nd_cast nd155 (by omega))
                have w695 : ∀ y : Nat, (y : Int) < (x_mm_nodes).toInt → (gh119) y = hh y := (fun y hy => (k142 y (by omega)).trans ((k65 y (by omega)).trans (rfl)))
                have w696 : VRF (x_mm_reading).toInt f_vrs (f117) := vr152
                have w697 : ((f117) (Int32.toNatClampNeg x_mm_reading)).toInt = ((pPs G (x_mm_taped).toInt dd (x_mm_place).toInt nv vf)).2.2.1 := (k144.trans pq6743.symm)
                have w698 : VFM ((pPs G (x_mm_taped).toInt dd (x_mm_place).toInt nv vf)).2.2.1 ((pPs G (x_mm_taped).toInt dd (x_mm_place).toInt nv vf)).2.2.2 (f118) (x_mm_reading).toInt := (by rw [pq6743, pq6744]; exact k145)
                have w699 : NMK ((z662)).toInt ((z664)).toInt (NMI 27 G (x_mm_taped).toInt ((z661)).toInt) := k673
                have w700 : IFZ ((z109)).toInt (∃ L B : Nat, (L : Int) = (x_mm_nodes).toInt ∧ (B : Int) = ((z103)).toInt ∧ NMX G (x_mm_taped).toInt (RVW (f112) (f113) (f114) (f154) (f116)) (SPX G (x_mm_taped).toInt 27 (RVW (f112) (f113) (f114) (f154) (f116)) ((pPs G (x_mm_taped).toInt dd (x_mm_place).toInt nv vf)).2.2.1 ((pPs G (x_mm_taped).toInt dd (x_mm_place).toInt nv vf)).2.2.2 k0 L B dd) (Int32.toNatClampNeg p1) (x_mm_place).toInt ((z661)).toInt) := (ifz_yes ⟨(x_mm_nodes).toInt.toNat, (z103).toInt.toNat, by omega, by omega, by rw [pq6743, pq6744]; exact nmx_yes pn656 ts657 (by omega) (by omega) (by rw [clamp_nat (i := p1) (by omega)]; omega) yt9 tz9 (by omega)⟩)
                have w701 : AGN (x_mm_nodes).toInt (p1).toInt f_nv (f112) f_nn (f113) f_na (f114) f_nb (f154) f_nc (f116) := an157
                exact W.vret hx hb hr (fun t ht hW => ⟨⟨(z103, z660, z661, z662, z663, z664, z109, z110, z111, f112, f113, f114, f154, f116, f117, f118, gh119), rfl, ⟨w676, w677, w678, w679, w680, hf112, hf114, hf154, hf116, hf117, w681, w682, w683, w684, w685, w686, w687, w688, w689, w690, w691, w692, w693, w694, w695, w696, w697, w698, w699, w700, w701⟩, by rw [ht]; exact hP, hD⟩, hS.F ht⟩) hS.2.2 dX11_readsParts_143
              · replace hq : (((z661)).toInt = ((z161)).toInt) ∧ (((z660)).toInt = ((z160)).toInt) ∧ (((z662)).toInt = ((z162)).toInt) ∧ (((z109)).toInt = 1) := hq
                exact False.elim (by omega)
              · replace hq : (((z661)).toInt = ((z161)).toInt) ∧ (((z660)).toInt = ((z160)).toInt) ∧ (((z662)).toInt = ((z162)).toInt) ∧ (((z109)).toInt = 0) ∧ (¬ tkT (G) ((x_mm_taped)).toInt ((z161)).toInt = ((41 : Int32)).toInt) := hq
                have cst41 : (41 : Int32).toInt = 41 := by decide
                have pv9 : (pPs G (x_mm_taped).toInt dd (x_mm_place).toInt nv vf) = (1, (z105).toInt, (rh149).2.2.1, (rh149).2.2.2) := cl9.symm.trans (pCl_no (by omega))
                have pq7021 : ((pPs G (x_mm_taped).toInt dd (x_mm_place).toInt nv vf)).1 = 1 := by rw [pv9]
                have pq7022 : ((pPs G (x_mm_taped).toInt dd (x_mm_place).toInt nv vf)).2.1 = (z105).toInt := by rw [pv9]
                have pq7023 : ((pPs G (x_mm_taped).toInt dd (x_mm_place).toInt nv vf)).2.2.1 = (rh149).2.2.1 := by rw [pv9]
                have pq7024 : ((pPs G (x_mm_taped).toInt dd (x_mm_place).toInt nv vf)).2.2.2 = (rh149).2.2.2 := by rw [pv9]
                refine lv_if_ne (tgt := 133) hx hb dX11_readsParts_125 (by decide) (fun c9 => absurd c9 (by decide)) (fun _ => ?_)
                refine lv_aload_n hx hb dX11_readsParts_128 rfl (lv_at hl 0 rfl) ?_
                refine lv_iconst (v := 1) hx hb dX11_readsParts_129 (by decide) ?_
                obtain ⟨vq703, evq703⟩ := mq126_90 v_mm (.ref h_nv) (.ref h_nn) (.ref h_na) (.ref h_nb) (.ref h_nc) (.int z103) (.ref h_vrs) (.ref h_let) (.ref h_tap) (.int x_mm_taped) (.int z660) (.int z662) (.int z663) (.long z664) (.int z5) (.int x_mm_reading)
                replace hP : va_P (dC, dI) cls [(h_nv, .inl (cy_nv, 8000, .inl f112)), (h_nn, .inl (cy_nn, 8000, .inr (.inl f113))), (h_na, .inl (cy_na, 8000, .inl f114)), (h_nb, .inl (cy_nb, 8000, .inl f154)), (h_nc, .inl (cy_nc, 8000, .inl f116)), (h_vrs, .inl (cy_vrs, 32, .inl f117)), (h_let, .inl (cy_let, 256, .inl f118)), (h_mm, .inr (8, (mo90 vq703 (.int z661) (.int z109) (.int z110) (.int z111)))), (h_tap, .inl (cy_tap, 600, .inl f_tap))] H := by rw [evq703]; exact hP
                replace hD : va_D A [(h_nv, .inl (cy_nv, 8000, .inl f112)), (h_nn, .inl (cy_nn, 8000, .inr (.inl f113))), (h_na, .inl (cy_na, 8000, .inl f114)), (h_nb, .inl (cy_nb, 8000, .inl f154)), (h_nc, .inl (cy_nc, 8000, .inl f116)), (h_vrs, .inl (cy_vrs, 32, .inl f117)), (h_let, .inl (cy_let, 256, .inl f118)), (h_mm, .inr (8, (mo90 vq703 (.int z661) (.int z109) (.int z110) (.int z111)))), (h_tap, .inl (cy_tap, 600, .inl f_tap))] := by rw [evq703]; exact hD
                have cst1 : (1 : Int32).toInt = 1 := by decide
                have hPc := hP.sub (ws' := [(h_mm, .inr (8, (mo90 vq703 (.int z661) (.int z109) (.int z110) (.int z111))))]) [7] rfl
                have hDc := hD.sub (ws' := [(h_mm, .inr (8, (mo90 vq703 (.int z661) (.int z109) (.int z110) (.int z111))))]) [7] (by decide) rfl
                have hKc := hK.sub (tys' := []) [] rfl
                have hFc := va_free (wc := [(h_mm, .inr (8, (mo90 vq703 (.int z661) (.int z109) (.int z110) (.int z111))))]) hD hS hA [7] rfl
                refine va_callv (va_runV (As := [.int 1]) (rest := []) ⟨hx, hb, hml, hown, hts⟩ (c_X11_faulty l dC dI H.size h_mm vq703 z661 z109 z110 z111 1 (by first | exact k666 | omega) (by first | exact k124 | omega)) (cwV 1 hts (gv hT w_m_X11_111 w_instanceMethod_X11_faulty ws_sel_X11_faulty w_ini_X11 w_code_X11_faulty) rfl rfl rfl (by decide +kernel) ⟨(by dsimp only [headSpec]; omega), (by dsimp only [headSpec]; omega)⟩) ⟨pre_blind, va_recv hK hP (ci := 8) (q0 := 7) rfl rfl, pre_of hPc hKc hDc hN⟩ rfl rfl hl.1 rfl (lv_room (Nat.le_of_ble_eq_true rfl)) dX11_readsParts_130 ⟨(Nat.le_of_ble_eq_true rfl), (Nat.le_of_ble_eq_true rfl)⟩) hS (fun q _ h => hFc q h) hFc (fun u t H locs ht hvm hq hB hz1 hk1 hS9 => ?_)
                obtain ⟨z705, z706, z707⟩ := u
                obtain ⟨hP1, hD1⟩ := hB
                rw [ht] at hP1
                obtain ⟨hP9, hD9⟩ := va_join (wr := [(h_nv, .inl (cy_nv, 8000, .inl f112)), (h_nn, .inl (cy_nn, 8000, .inr (.inl f113))), (h_na, .inl (cy_na, 8000, .inl f114)), (h_nb, .inl (cy_nb, 8000, .inl f154)), (h_nc, .inl (cy_nc, 8000, .inl f116)), (h_vrs, .inl (cy_vrs, 32, .inl f117)), (h_let, .inl (cy_let, 256, .inl f118)), (h_tap, .inl (cy_tap, 600, .inl f_tap))]) (w1 := [(h_mm, .inr (8, (mo90 vq703 (.int z661) (.int z705) (.int z706) (.int z707))))]) hP hD [7] [0, 1, 2, 3, 4, 5, 6, 8] rfl rfl (by decide) (by decide) hk1 hFc hP1 hD1
                clear hP hD hS hPc hDc hKc hFc hP1 hD1 hk1 hz1 ht hvm
                have hP : va_P (dC, dI) cls [(h_nv, .inl (cy_nv, 8000, .inl f112)), (h_nn, .inl (cy_nn, 8000, .inr (.inl f113))), (h_na, .inl (cy_na, 8000, .inl f114)), (h_nb, .inl (cy_nb, 8000, .inl f154)), (h_nc, .inl (cy_nc, 8000, .inl f116)), (h_vrs, .inl (cy_vrs, 32, .inl f117)), (h_let, .inl (cy_let, 256, .inl f118)), (h_tap, .inl (cy_tap, 600, .inl f_tap)), (h_mm, .inr (8, (mo90 vq703 (.int z661) (.int z705) (.int z706) (.int z707))))] H := hP9
                have hD : va_D A [(h_nv, .inl (cy_nv, 8000, .inl f112)), (h_nn, .inl (cy_nn, 8000, .inr (.inl f113))), (h_na, .inl (cy_na, 8000, .inl f114)), (h_nb, .inl (cy_nb, 8000, .inl f154)), (h_nc, .inl (cy_nc, 8000, .inl f116)), (h_vrs, .inl (cy_vrs, 32, .inl f117)), (h_let, .inl (cy_let, 256, .inl f118)), (h_tap, .inl (cy_tap, 600, .inl f_tap)), (h_mm, .inr (8, (mo90 vq703 (.int z661) (.int z705) (.int z706) (.int z707))))] := hD9
                have hS := hS9
                clear hP9 hD9 hS9
                rw [evq703] at hP hD
                replace hP : va_P (dC, dI) cls [(h_nv, .inl (cy_nv, 8000, .inl f112)), (h_nn, .inl (cy_nn, 8000, .inr (.inl f113))), (h_na, .inl (cy_na, 8000, .inl f114)), (h_nb, .inl (cy_nb, 8000, .inl f154)), (h_nc, .inl (cy_nc, 8000, .inl f116)), (h_vrs, .inl (cy_vrs, 32, .inl f117)), (h_let, .inl (cy_let, 256, .inl f118)), (h_tap, .inl (cy_tap, 600, .inl f_tap)), (h_mm, .inr (8, (mo126 v_mm (.ref h_nv) (.ref h_nn) (.ref h_na) (.ref h_nb) (.ref h_nc) (.int z103) (.ref h_vrs) (.ref h_let) (.ref h_tap) (.int x_mm_taped) (.int z660) (.int z661) (.int z662) (.int z663) (.long z664) (.int z705) (.int z706) (.int z707) (.int z5) (.int x_mm_reading))))] H := hP
                replace hD : va_D A [(h_nv, .inl (cy_nv, 8000, .inl f112)), (h_nn, .inl (cy_nn, 8000, .inr (.inl f113))), (h_na, .inl (cy_na, 8000, .inl f114)), (h_nb, .inl (cy_nb, 8000, .inl f154)), (h_nc, .inl (cy_nc, 8000, .inl f116)), (h_vrs, .inl (cy_vrs, 32, .inl f117)), (h_let, .inl (cy_let, 256, .inl f118)), (h_tap, .inl (cy_tap, 600, .inl f_tap)), (h_mm, .inr (8, (mo126 v_mm (.ref h_nv) (.ref h_nn) (.ref h_na) (.ref h_nb) (.ref h_nc) (.int z103) (.ref h_vrs) (.ref h_let) (.ref h_tap) (.int x_mm_taped) (.int z660) (.int z661) (.int z662) (.int z663) (.long z664) (.int z705) (.int z706) (.int z707) (.int z5) (.int x_mm_reading))))] := hD
                clear evq703 
                obtain ⟨k708, k709, k710⟩ := hq
                replace k708 : 0 ≤ ((z705)).toInt ∧ ((z705)).toInt ≤ 1 := k708
                replace k709 : ((z705)).toInt = 1 := k709
                replace k710 : (((z109)).toInt = 1 ∧ ((z706)).toInt = ((z110)).toInt ∧ ((z707)).toInt = ((z111)).toInt) ∨ (((z109)).toInt = 0 ∧ ((z706)).toInt = ((1 : Int32)).toInt ∧ ((z707)).toInt = ((z661)).toInt) := k710
                refine lv_aload_n hx hb dX11_readsParts_133 rfl (lv_at hl 0 rfl) ?_
                refine lv_aload_n hx hb dX11_readsParts_134 rfl (lv_at hl 0 rfl) ?_
                refine va_get (D := (dC, dI)) (ci := 8) (v := .int z5) (C := RX11) (T := TX11) (N := 71) hx hb hw iwX11 hown hK hP 8 rfl rfl 23 (by decide) (hw _ w_f_X11_130) (fun _ h9 => h9) rfl dX11_readsParts_135 ?_
                refine lv_iconst (v := 1) hx hb dX11_readsParts_138 (by decide) ?_
                refine lv_isub hx hb dX11_readsParts_139 ?_
                refine lv_topi (fun z711 ez711 => ?_)
                have tz711 : (z711).toInt = (z5).toInt - 1 := by rw [ez711]; exact i_sub rfl (by decide) (by omega)
                refine va_put (D := (dC, dI)) (ci := 8) (v := .int z711) (ty := tyX11 23) (C := RX11) (T := TX11) (N := 71) hx hb hw iwX11 tyX11 tyX11_ok nmX11 hown hK hP hD hS 8 rfl rfl 23 (by decide) (hw _ w_f_X11_130) (fun _ h9 => h9) rfl (tyX11_ok 23 (by decide)) rfl rfl (Nat.le_of_ble_eq_true rfl) dX11_readsParts_140 (fun H locs hP9 hD9 hS9 => ?_)
                clear hP hD hS
                have hP : va_P (dC, dI) cls [(h_nv, .inl (cy_nv, 8000, .inl f112)), (h_nn, .inl (cy_nn, 8000, .inr (.inl f113))), (h_na, .inl (cy_na, 8000, .inl f114)), (h_nb, .inl (cy_nb, 8000, .inl f154)), (h_nc, .inl (cy_nc, 8000, .inl f116)), (h_vrs, .inl (cy_vrs, 32, .inl f117)), (h_let, .inl (cy_let, 256, .inl f118)), (h_tap, .inl (cy_tap, 600, .inl f_tap)), (h_mm, .inr (8, (mo126 v_mm (.ref h_nv) (.ref h_nn) (.ref h_na) (.ref h_nb) (.ref h_nc) (.int z103) (.ref h_vrs) (.ref h_let) (.ref h_tap) (.int x_mm_taped) (.int z660) (.int z661) (.int z662) (.int z663) (.long z664) (.int z705) (.int z706) (.int z707) (.int z711) (.int x_mm_reading))))] H := hP9
                have hD : va_D A [(h_nv, .inl (cy_nv, 8000, .inl f112)), (h_nn, .inl (cy_nn, 8000, .inr (.inl f113))), (h_na, .inl (cy_na, 8000, .inl f114)), (h_nb, .inl (cy_nb, 8000, .inl f154)), (h_nc, .inl (cy_nc, 8000, .inl f116)), (h_vrs, .inl (cy_vrs, 32, .inl f117)), (h_let, .inl (cy_let, 256, .inl f118)), (h_tap, .inl (cy_tap, 600, .inl f_tap)), (h_mm, .inr (8, (mo126 v_mm (.ref h_nv) (.ref h_nn) (.ref h_na) (.ref h_nb) (.ref h_nc) (.int z103) (.ref h_vrs) (.ref h_let) (.ref h_tap) (.int x_mm_taped) (.int z660) (.int z661) (.int z662) (.int z663) (.long z664) (.int z705) (.int z706) (.int z707) (.int z711) (.int x_mm_reading))))] := hD9
                have hS := hS9
                clear hP9 hD9 hS9
                have oz9 : x_mm_opened = z711 := Int32.toInt_inj.mp (by omega)
                subst oz9
                replace hP : va_P (dC, dI) cls [(h_mm, .inr (8, (mo126 v_mm (.ref h_nv) (.ref h_nn) (.ref h_na) (.ref h_nb) (.ref h_nc) (.int z103) (.ref h_vrs) (.ref h_let) (.ref h_tap) (.int x_mm_taped) (.int z660) (.int z661) (.int z662) (.int z663) (.long z664) (.int z705) (.int z706) (.int z707) (.int x_mm_opened) (.int x_mm_reading)))), (h_tap, .inl (cy_tap, 600, .inl f_tap)), (h_nv, .inl (cy_nv, 8000, .inl f112)), (h_nn, .inl (cy_nn, 8000, .inr (.inl f113))), (h_na, .inl (cy_na, 8000, .inl f114)), (h_nb, .inl (cy_nb, 8000, .inl f154)), (h_nc, .inl (cy_nc, 8000, .inl f116)), (h_vrs, .inl (cy_vrs, 32, .inl f117)), (h_let, .inl (cy_let, 256, .inl f118))] H := hP.sub [8, 7, 0, 1, 2, 3, 4, 5, 6] rfl
                replace hD : va_D A [(h_mm, .inr (8, (mo126 v_mm (.ref h_nv) (.ref h_nn) (.ref h_na) (.ref h_nb) (.ref h_nc) (.int z103) (.ref h_vrs) (.ref h_let) (.ref h_tap) (.int x_mm_taped) (.int z660) (.int z661) (.int z662) (.int z663) (.long z664) (.int z705) (.int z706) (.int z707) (.int x_mm_opened) (.int x_mm_reading)))), (h_tap, .inl (cy_tap, 600, .inl f_tap)), (h_nv, .inl (cy_nv, 8000, .inl f112)), (h_nn, .inl (cy_nn, 8000, .inr (.inl f113))), (h_na, .inl (cy_na, 8000, .inl f114)), (h_nb, .inl (cy_nb, 8000, .inl f154)), (h_nc, .inl (cy_nc, 8000, .inl f116)), (h_vrs, .inl (cy_vrs, 32, .inl f117)), (h_let, .inl (cy_let, 256, .inl f118))] := hD.sub [8, 7, 0, 1, 2, 3, 4, 5, 6] (by decide) rfl
                refine W.widen (k := 0) (n := 0) (Nat.le_of_ble_eq_true rfl) (Nat.le_of_ble_eq_true rfl) ?_
                have w712 : 0 ≤ ((z103)).toInt ∧ ((z103)).toInt ≤ 1200 := by first | exact k120 | omega
                have w713 : 0 ≤ ((z660)).toInt ∧ ((z660)).toInt ≤ 600 := by first | exact k665 | omega
                have w714 : 0 ≤ ((z661)).toInt ∧ ((z661)).toInt ≤ 600 := by first | exact k666 | omega
                have w715 : 0 ≤ ((z662)).toInt ∧ ((z662)).toInt ≤ 4 := by first | exact k667 | omega
                have w716 : 0 ≤ ((z705)).toInt ∧ ((z705)).toInt ≤ 1 := by first | exact k708 | omega
                have w717 : ((z661)).toInt ≤ ((z660)).toInt := by first | exact k668 | omega
                have w718 : ((z705)).toInt = 1 ∨ ((z103)).toInt ≤ lo + ((z661)).toInt := by omega
                have w719 : (x_mm_nodes).toInt ≤ ((z103)).toInt := by omega
                have w720 : (x_mm_place).toInt ≤ ((z661)).toInt := by omega
                have w721 : (x_mm_isFaulty).toInt ≤ ((z705)).toInt := by omega
                have w722 : (((z705)).toInt = 0 ∧ ((pPs G (x_mm_taped).toInt dd (x_mm_place).toInt nv vf)).1 = 0 ∧ ((z706)).toInt = (x_mm_fault).toInt ∧ ((z707)).toInt = (x_mm_faultPlace).toInt) ∨ (((z705)).toInt = 1 ∧ ¬ ((pPs G (x_mm_taped).toInt dd (x_mm_place).toInt nv vf)).1 = 0 ∧ ((z706)).toInt = ((pPs G (x_mm_taped).toInt dd (x_mm_place).toInt nv vf)).1 ∧ ((z707)).toInt = ((pPs G (x_mm_taped).toInt dd (x_mm_place).toInt nv vf)).2.1) := by omega
                have w723 : ((z661)).toInt = ((pPs G (x_mm_taped).toInt dd (x_mm_place).toInt nv vf)).2.1 := by omega
                have w724 : 0 ≤ ((pPs G (x_mm_taped).toInt dd (x_mm_place).toInt nv vf)).2.2.1 ∧ ((pPs G (x_mm_taped).toInt dd (x_mm_place).toInt nv vf)).2.2.1 ≤ 8 := by omega
                have w725 : ((z662)).toInt = kd (tkT G (x_mm_taped).toInt ((z661)).toInt) := by first | exact k669 | omega
                have w726 : ((z662)).toInt = 0 ∨ (((z660)).toInt = tkX G (x_mm_taped).toInt ((z661)).toInt ∧ ((z663)).toInt = G ((z661)).toInt ∧ ((z661)).toInt < (x_mm_taped).toInt ∧ ((z661)).toInt + 1 ≤ ((z660)).toInt) := by first | exact k670 | omega
                have w727 : ((z660)).toInt ≤ (x_mm_taped).toInt := by first | exact k671 | omega
                have w728 : ((z661)).toInt ≤ (x_mm_taped).toInt := by first | exact k672 | omega
                have w729 : EQ0 lo za zb zc zv (f114) (f154) (f116) (f112) := nd156
                have w730 : ND lo ((z103)).toInt (gh119) (f114) (f154) (f116) := (nd_cast nd155 (by omega))
                have w731 : ∀ y : Nat, (y : Int) < (x_mm_nodes).toInt → (gh119) y = hh y := (fun y hy => (k142 y (by omega)).trans ((k65 y (by omega)).trans (rfl)))
                have w732 : VRF (x_mm_reading).toInt f_vrs (f117) := vr152
                have w733 : ((f117) (Int32.toNatClampNeg x_mm_reading)).toInt = ((pPs G (x_mm_taped).toInt dd (x_mm_place).toInt nv vf)).2.2.1 := (k144.trans pq7023.symm)
                have w734 : VFM ((pPs G (x_mm_taped).toInt dd (x_mm_place).toInt nv vf)).2.2.1 ((pPs G (x_mm_taped).toInt dd (x_mm_place).toInt nv vf)).2.2.2 (f118) (x_mm_reading).toInt := (by rw [pq7023, pq7024]; exact k145)
                have w735 : NMK ((z662)).toInt ((z664)).toInt (NMI 27 G (x_mm_taped).toInt ((z661)).toInt) := k673
                have w736 : IFZ ((z705)).toInt (∃ L B : Nat, (L : Int) = (x_mm_nodes).toInt ∧ (B : Int) = ((z103)).toInt ∧ NMX G (x_mm_taped).toInt (RVW (f112) (f113) (f114) (f154) (f116)) (SPX G (x_mm_taped).toInt 27 (RVW (f112) (f113) (f114) (f154) (f116)) ((pPs G (x_mm_taped).toInt dd (x_mm_place).toInt nv vf)).2.2.1 ((pPs G (x_mm_taped).toInt dd (x_mm_place).toInt nv vf)).2.2.2 k0 L B dd) (Int32.toNatClampNeg p1) (x_mm_place).toInt ((z661)).toInt) := (ifz_no (by omega))
                have w737 : AGN (x_mm_nodes).toInt (p1).toInt f_nv (f112) f_nn (f113) f_na (f114) f_nb (f154) f_nc (f116) := an157
                exact W.vret hx hb hr (fun t ht hW => ⟨⟨(z103, z660, z661, z662, z663, z664, z705, z706, z707, f112, f113, f114, f154, f116, f117, f118, gh119), rfl, ⟨w712, w713, w714, w715, w716, hf112, hf114, hf154, hf116, hf117, w717, w718, w719, w720, w721, w722, w723, w724, w725, w726, w727, w728, w729, w730, w731, w732, w733, w734, w735, w736, w737⟩, by rw [ht]; exact hP, hD⟩, hS.F ht⟩) hS.2.2 dX11_readsParts_143
          · clear k127
            refine va_iast hx hb hK hP hD hS 5 4 rfl rfl (i := p1) (x := r102) (vp_in_iff.mpr (by omega)) dX11_readsParts_74 (fun H locs hP9 hD9 hS9 => ?_)
            obtain ⟨f738, ef738⟩ : ∃ g : Nat → Int32, g = upd f115 (Int32.toNatClampNeg p1) r102 := ⟨_, rfl⟩
            clear hP hD hS
            have hP : va_P (dC, dI) cls [(h_mm, .inr (8, (mo126 v_mm (.ref h_nv) (.ref h_nn) (.ref h_na) (.ref h_nb) (.ref h_nc) (.int z103) (.ref h_vrs) (.ref h_let) (.ref h_tap) (.int x_mm_taped) (.int z104) (.int z105) (.int z106) (.int z107) (.long z108) (.int z109) (.int z110) (.int z111) (.int z5) (.int x_mm_reading)))), (h_tap, .inl (cy_tap, 600, .inl f_tap)), (h_nv, .inl (cy_nv, 8000, .inl f112)), (h_nn, .inl (cy_nn, 8000, .inr (.inl f113))), (h_na, .inl (cy_na, 8000, .inl f114)), (h_nb, .inl (cy_nb, 8000, .inl f738)), (h_nc, .inl (cy_nc, 8000, .inl f116)), (h_vrs, .inl (cy_vrs, 32, .inl f117)), (h_let, .inl (cy_let, 256, .inl f118))] H := by rw [ef738]; exact hP9
            have hD : va_D A [(h_mm, .inr (8, (mo126 v_mm (.ref h_nv) (.ref h_nn) (.ref h_na) (.ref h_nb) (.ref h_nc) (.int z103) (.ref h_vrs) (.ref h_let) (.ref h_tap) (.int x_mm_taped) (.int z104) (.int z105) (.int z106) (.int z107) (.long z108) (.int z109) (.int z110) (.int z111) (.int z5) (.int x_mm_reading)))), (h_tap, .inl (cy_tap, 600, .inl f_tap)), (h_nv, .inl (cy_nv, 8000, .inl f112)), (h_nn, .inl (cy_nn, 8000, .inr (.inl f113))), (h_na, .inl (cy_na, 8000, .inl f114)), (h_nb, .inl (cy_nb, 8000, .inl f738)), (h_nc, .inl (cy_nc, 8000, .inl f116)), (h_vrs, .inl (cy_vrs, 32, .inl f117)), (h_let, .inl (cy_let, 256, .inl f118))] := by rw [ef738]; exact hD9
            have hS := hS9
            clear hP9 hD9 hS9
            have hf738 : Rg (-1) 7999 f738 := by rw [ef738]; exact rg_upd hf115 (by omega)
            have nd739 : ND lo (z103).toInt gh119 f114 f738 f116 := by rw [ef738]; exact nd_setB (n := (z103).toInt) (nd_cast k141 (by omega)) (by omega) (by unfold NDk; omega)
            have nd740 : EQ0 lo za zb zc zv f114 f738 f116 f112 := by rw [ef738]; exact eq0_B k140 (by omega) (by omega)
            have an741 : AGN (x_mm_nodes).toInt (p1).toInt f_nv f112 f_nn f113 f_na f114 f_nb f738 f_nc f116 := agn_B an150 ef738 (by omega)
            clear k131
            refine lv_aload_n hx hb dX11_readsParts_75 rfl (lv_at hl 0 rfl) ?_
            refine lv_bipush (v := 44) hx hb dX11_readsParts_76 (by decide) ?_
            obtain ⟨vq742, evq742⟩ := mq126_92 v_mm (.ref h_nv) (.ref h_nn) (.ref h_na) (.ref h_nb) (.ref h_nc) (.int z103) (.ref h_vrs) (.ref h_let) (.int z110) (.int z111) (.int z5) (.int x_mm_reading)
            replace hP : va_P (dC, dI) cls [(h_mm, .inr (8, (mo92 vq742 (.ref h_tap) (.int x_mm_taped) (.int z104) (.int z105) (.int z106) (.int z107) (.long z108) (.int z109)))), (h_tap, .inl (cy_tap, 600, .inl f_tap)), (h_nv, .inl (cy_nv, 8000, .inl f112)), (h_nn, .inl (cy_nn, 8000, .inr (.inl f113))), (h_na, .inl (cy_na, 8000, .inl f114)), (h_nb, .inl (cy_nb, 8000, .inl f738)), (h_nc, .inl (cy_nc, 8000, .inl f116)), (h_vrs, .inl (cy_vrs, 32, .inl f117)), (h_let, .inl (cy_let, 256, .inl f118))] H := by rw [evq742]; exact hP
            replace hD : va_D A [(h_mm, .inr (8, (mo92 vq742 (.ref h_tap) (.int x_mm_taped) (.int z104) (.int z105) (.int z106) (.int z107) (.long z108) (.int z109)))), (h_tap, .inl (cy_tap, 600, .inl f_tap)), (h_nv, .inl (cy_nv, 8000, .inl f112)), (h_nn, .inl (cy_nn, 8000, .inr (.inl f113))), (h_na, .inl (cy_na, 8000, .inl f114)), (h_nb, .inl (cy_nb, 8000, .inl f738)), (h_nc, .inl (cy_nc, 8000, .inl f116)), (h_vrs, .inl (cy_vrs, 32, .inl f117)), (h_let, .inl (cy_let, 256, .inl f118))] := by rw [evq742]; exact hD
            have cst44 : (44 : Int32).toInt = 44 := by decide
            have hPc := hP.sub (ws' := [(h_mm, .inr (8, (mo92 vq742 (.ref h_tap) (.int x_mm_taped) (.int z104) (.int z105) (.int z106) (.int z107) (.long z108) (.int z109)))), (h_tap, .inl (cy_tap, 600, .inl f_tap))]) [0, 1] rfl
            have hDc := hD.sub (ws' := [(h_mm, .inr (8, (mo92 vq742 (.ref h_tap) (.int x_mm_taped) (.int z104) (.int z105) (.int z106) (.int z107) (.long z108) (.int z109)))), (h_tap, .inl (cy_tap, 600, .inl f_tap))]) [0, 1] (by decide) rfl
            have hKc := hK.sub (tys' := [(cy_tap, .byte)]) [0] rfl
            have hFc := va_free (wc := [(h_mm, .inr (8, (mo92 vq742 (.ref h_tap) (.int x_mm_taped) (.int z104) (.int z105) (.int z106) (.int z107) (.long z108) (.int z109)))), (h_tap, .inl (cy_tap, 600, .inl f_tap))]) hD hS hA [0, 1] rfl
            refine va_calli (va_runV (As := [.int 44]) (rest := []) ⟨hx, hb, hml, hown, hts⟩ (c_X11_passes l dC dI H.size h_mm h_tap vq742 x_mm_taped z104 z105 z106 z107 z108 z109 cy_tap f_tap 44 G (by first | exact hx_mm_taped | omega) (by first | exact k121 | omega) (by first | exact k122 | omega) (by first | exact k123 | omega) (by first | exact k124 | omega) (by first | exact k126 | omega) (by omega) (by omega) (by first | exact k136 | omega) (by first | exact k137 | omega) (by first | exact k138 | omega) (by first | exact k139 | omega) hn_tapq k146) (cwV 1 hts (gv hT w_m_X11_136 w_instanceMethod_X11_passes ws_sel_X11_passes w_ini_X11 w_code_X11_passes) rfl rfl rfl (by decide +kernel) ⟨(by dsimp only [headSpec]; omega), (by dsimp only [headSpec]; omega)⟩) ⟨pre_blind, va_recv hK hP (ci := 8) (q0 := 0) rfl rfl, pre_of hPc hKc hDc hN⟩ rfl rfl hl.1 rfl (lv_room (Nat.le_of_ble_eq_true rfl)) dX11_readsParts_78 ⟨(Nat.le_of_ble_eq_true rfl), (Nat.le_of_ble_eq_true rfl)⟩) hS (fun q _ h => hFc q h) hFc (fun r743 u t H locs ht hvm hq hB hz1 hk1 hS9 => ?_)
            obtain ⟨z744, z745, z746, z747, z748⟩ := u
            obtain ⟨hP1, hD1⟩ := hB
            rw [ht] at hP1
            obtain ⟨hP9, hD9⟩ := va_join (wr := [(h_nv, .inl (cy_nv, 8000, .inl f112)), (h_nn, .inl (cy_nn, 8000, .inr (.inl f113))), (h_na, .inl (cy_na, 8000, .inl f114)), (h_nb, .inl (cy_nb, 8000, .inl f738)), (h_nc, .inl (cy_nc, 8000, .inl f116)), (h_vrs, .inl (cy_vrs, 32, .inl f117)), (h_let, .inl (cy_let, 256, .inl f118))]) (w1 := [(h_mm, .inr (8, (mo92 vq742 (.ref h_tap) (.int x_mm_taped) (.int z744) (.int z745) (.int z746) (.int z747) (.long z748) (.int z109)))), (h_tap, .inl (cy_tap, 600, .inl f_tap))]) hP hD [0, 1] [2, 3, 4, 5, 6, 7, 8] rfl rfl (by decide) (by decide) hk1 hFc hP1 hD1
            clear hP hD hS hPc hDc hKc hFc hP1 hD1 hk1 hz1 ht hvm
            have hP : va_P (dC, dI) cls [(h_nv, .inl (cy_nv, 8000, .inl f112)), (h_nn, .inl (cy_nn, 8000, .inr (.inl f113))), (h_na, .inl (cy_na, 8000, .inl f114)), (h_nb, .inl (cy_nb, 8000, .inl f738)), (h_nc, .inl (cy_nc, 8000, .inl f116)), (h_vrs, .inl (cy_vrs, 32, .inl f117)), (h_let, .inl (cy_let, 256, .inl f118)), (h_mm, .inr (8, (mo92 vq742 (.ref h_tap) (.int x_mm_taped) (.int z744) (.int z745) (.int z746) (.int z747) (.long z748) (.int z109)))), (h_tap, .inl (cy_tap, 600, .inl f_tap))] H := hP9
            have hD : va_D A [(h_nv, .inl (cy_nv, 8000, .inl f112)), (h_nn, .inl (cy_nn, 8000, .inr (.inl f113))), (h_na, .inl (cy_na, 8000, .inl f114)), (h_nb, .inl (cy_nb, 8000, .inl f738)), (h_nc, .inl (cy_nc, 8000, .inl f116)), (h_vrs, .inl (cy_vrs, 32, .inl f117)), (h_let, .inl (cy_let, 256, .inl f118)), (h_mm, .inr (8, (mo92 vq742 (.ref h_tap) (.int x_mm_taped) (.int z744) (.int z745) (.int z746) (.int z747) (.long z748) (.int z109)))), (h_tap, .inl (cy_tap, 600, .inl f_tap))] := hD9
            have hS := hS9
            clear hP9 hD9 hS9
            rw [evq742] at hP hD
            replace hP : va_P (dC, dI) cls [(h_nv, .inl (cy_nv, 8000, .inl f112)), (h_nn, .inl (cy_nn, 8000, .inr (.inl f113))), (h_na, .inl (cy_na, 8000, .inl f114)), (h_nb, .inl (cy_nb, 8000, .inl f738)), (h_nc, .inl (cy_nc, 8000, .inl f116)), (h_vrs, .inl (cy_vrs, 32, .inl f117)), (h_let, .inl (cy_let, 256, .inl f118)), (h_mm, .inr (8, (mo126 v_mm (.ref h_nv) (.ref h_nn) (.ref h_na) (.ref h_nb) (.ref h_nc) (.int z103) (.ref h_vrs) (.ref h_let) (.ref h_tap) (.int x_mm_taped) (.int z744) (.int z745) (.int z746) (.int z747) (.long z748) (.int z109) (.int z110) (.int z111) (.int z5) (.int x_mm_reading)))), (h_tap, .inl (cy_tap, 600, .inl f_tap))] H := hP
            replace hD : va_D A [(h_nv, .inl (cy_nv, 8000, .inl f112)), (h_nn, .inl (cy_nn, 8000, .inr (.inl f113))), (h_na, .inl (cy_na, 8000, .inl f114)), (h_nb, .inl (cy_nb, 8000, .inl f738)), (h_nc, .inl (cy_nc, 8000, .inl f116)), (h_vrs, .inl (cy_vrs, 32, .inl f117)), (h_let, .inl (cy_let, 256, .inl f118)), (h_mm, .inr (8, (mo126 v_mm (.ref h_nv) (.ref h_nn) (.ref h_na) (.ref h_nb) (.ref h_nc) (.int z103) (.ref h_vrs) (.ref h_let) (.ref h_tap) (.int x_mm_taped) (.int z744) (.int z745) (.int z746) (.int z747) (.long z748) (.int z109) (.int z110) (.int z111) (.int z5) (.int x_mm_reading)))), (h_tap, .inl (cy_tap, 600, .inl f_tap))] := hD
            clear evq742 
            obtain ⟨k749, k750, k751, k752, k753, k754, k755, k756, k757, hq⟩ := hq
            replace k749 : 0 ≤ ((z744)).toInt ∧ ((z744)).toInt ≤ 600 := k749
            replace k750 : 0 ≤ ((z745)).toInt ∧ ((z745)).toInt ≤ 600 := k750
            replace k751 : 0 ≤ ((z746)).toInt ∧ ((z746)).toInt ≤ 4 := k751
            replace k752 : ((z745)).toInt ≤ ((z744)).toInt := k752
            replace k753 : ((z746)).toInt = kd (tkT (G) ((x_mm_taped)).toInt ((z745)).toInt) := k753
            replace k754 : ((z746)).toInt = 0 ∨ (((z744)).toInt = tkX (G) ((x_mm_taped)).toInt ((z745)).toInt ∧ ((z747)).toInt = (G) ((z745)).toInt ∧ ((z745)).toInt < ((x_mm_taped)).toInt ∧ ((z745)).toInt + 1 ≤ ((z744)).toInt) := k754
            replace k755 : ((z744)).toInt ≤ ((x_mm_taped)).toInt := k755
            replace k756 : ((z745)).toInt ≤ ((x_mm_taped)).toInt := k756
            replace k757 : NMK ((z746)).toInt ((z748)).toInt (NMI 27 (G) ((x_mm_taped)).toInt ((z745)).toInt) := k757
            rcases hq with ⟨rfl, hq⟩ | ⟨rfl, hq⟩ | ⟨rfl, hq⟩
            · replace hq : (((z109)).toInt = 0) ∧ (tkT (G) ((x_mm_taped)).toInt ((z105)).toInt = ((44 : Int32)).toInt) ∧ (((z745)).toInt = tkN (G) ((x_mm_taped)).toInt ((z105)).toInt) ∧ (((z104)).toInt ≤ ((z745)).toInt) ∧ (((z105)).toInt + 1 ≤ ((z745)).toInt) := hq
              exact False.elim (by omega)
            · replace hq : (((z745)).toInt = ((z105)).toInt) ∧ (((z744)).toInt = ((z104)).toInt) ∧ (((z746)).toInt = ((z106)).toInt) ∧ (((z109)).toInt = 1) := hq
              clear k137
              have no9 := pLo_no (G := G) (n := (x_mm_taped).toInt) (P := (pPs G (x_mm_taped).toInt d9)) (r := 1) (q := (z28).toInt) (nv := (rh72).2.2.1) (vf := (rh72).2.2.2) (by rw [← erh149]; omega)
              rw [← erh149] at no9
              have rq9 : (pPs G (x_mm_taped).toInt dd (x_mm_place).toInt nv vf) = rh149 := lo97.symm.trans no9
              have pq7581 : ((pPs G (x_mm_taped).toInt dd (x_mm_place).toInt nv vf)).1 = (rh149).1 := by rw [rq9]
              have pq7582 : ((pPs G (x_mm_taped).toInt dd (x_mm_place).toInt nv vf)).2.1 = (rh149).2.1 := by rw [rq9]
              have pq7583 : ((pPs G (x_mm_taped).toInt dd (x_mm_place).toInt nv vf)).2.2.1 = (rh149).2.2.1 := by rw [rq9]
              have pq7584 : ((pPs G (x_mm_taped).toInt dd (x_mm_place).toInt nv vf)).2.2.2 = (rh149).2.2.2 := by rw [rq9]
              refine lv_if_eq (tgt := 119) hx hb dX11_readsParts_81 (by decide) (fun _ => ?_) (fun c9 => absurd c9 (by decide))
              refine lv_aload_n hx hb dX11_readsParts_119 rfl (lv_at hl 0 rfl) ?_
              refine lv_bipush (v := 41) hx hb dX11_readsParts_120 (by decide) ?_
              obtain ⟨vq759, evq759⟩ := mq126_92 v_mm (.ref h_nv) (.ref h_nn) (.ref h_na) (.ref h_nb) (.ref h_nc) (.int z103) (.ref h_vrs) (.ref h_let) (.int z110) (.int z111) (.int z5) (.int x_mm_reading)
              replace hP : va_P (dC, dI) cls [(h_nv, .inl (cy_nv, 8000, .inl f112)), (h_nn, .inl (cy_nn, 8000, .inr (.inl f113))), (h_na, .inl (cy_na, 8000, .inl f114)), (h_nb, .inl (cy_nb, 8000, .inl f738)), (h_nc, .inl (cy_nc, 8000, .inl f116)), (h_vrs, .inl (cy_vrs, 32, .inl f117)), (h_let, .inl (cy_let, 256, .inl f118)), (h_mm, .inr (8, (mo92 vq759 (.ref h_tap) (.int x_mm_taped) (.int z744) (.int z745) (.int z746) (.int z747) (.long z748) (.int z109)))), (h_tap, .inl (cy_tap, 600, .inl f_tap))] H := by rw [evq759]; exact hP
              replace hD : va_D A [(h_nv, .inl (cy_nv, 8000, .inl f112)), (h_nn, .inl (cy_nn, 8000, .inr (.inl f113))), (h_na, .inl (cy_na, 8000, .inl f114)), (h_nb, .inl (cy_nb, 8000, .inl f738)), (h_nc, .inl (cy_nc, 8000, .inl f116)), (h_vrs, .inl (cy_vrs, 32, .inl f117)), (h_let, .inl (cy_let, 256, .inl f118)), (h_mm, .inr (8, (mo92 vq759 (.ref h_tap) (.int x_mm_taped) (.int z744) (.int z745) (.int z746) (.int z747) (.long z748) (.int z109)))), (h_tap, .inl (cy_tap, 600, .inl f_tap))] := by rw [evq759]; exact hD
              have cst41 : (41 : Int32).toInt = 41 := by decide
              have hPc := hP.sub (ws' := [(h_mm, .inr (8, (mo92 vq759 (.ref h_tap) (.int x_mm_taped) (.int z744) (.int z745) (.int z746) (.int z747) (.long z748) (.int z109)))), (h_tap, .inl (cy_tap, 600, .inl f_tap))]) [7, 8] rfl
              have hDc := hD.sub (ws' := [(h_mm, .inr (8, (mo92 vq759 (.ref h_tap) (.int x_mm_taped) (.int z744) (.int z745) (.int z746) (.int z747) (.long z748) (.int z109)))), (h_tap, .inl (cy_tap, 600, .inl f_tap))]) [7, 8] (by decide) rfl
              have hKc := hK.sub (tys' := [(cy_tap, .byte)]) [0] rfl
              have hFc := va_free (wc := [(h_mm, .inr (8, (mo92 vq759 (.ref h_tap) (.int x_mm_taped) (.int z744) (.int z745) (.int z746) (.int z747) (.long z748) (.int z109)))), (h_tap, .inl (cy_tap, 600, .inl f_tap))]) hD hS hA [7, 8] rfl
              refine va_calli (va_runV (As := [.int 41]) (rest := []) ⟨hx, hb, hml, hown, hts⟩ (c_X11_passes l dC dI H.size h_mm h_tap vq759 x_mm_taped z744 z745 z746 z747 z748 z109 cy_tap f_tap 41 G (by first | exact hx_mm_taped | omega) (by first | exact k749 | omega) (by first | exact k750 | omega) (by first | exact k751 | omega) (by first | exact k124 | omega) (by first | exact k752 | omega) (by omega) (by omega) (by first | exact k753 | omega) (by first | exact k754 | omega) (by first | exact k755 | omega) (by first | exact k756 | omega) hn_tapq k757) (cwV 1 hts (gv hT w_m_X11_136 w_instanceMethod_X11_passes ws_sel_X11_passes w_ini_X11 w_code_X11_passes) rfl rfl rfl (by decide +kernel) ⟨(by dsimp only [headSpec]; omega), (by dsimp only [headSpec]; omega)⟩) ⟨pre_blind, va_recv hK hP (ci := 8) (q0 := 7) rfl rfl, pre_of hPc hKc hDc hN⟩ rfl rfl hl.1 rfl (lv_room (Nat.le_of_ble_eq_true rfl)) dX11_readsParts_122 ⟨(Nat.le_of_ble_eq_true rfl), (Nat.le_of_ble_eq_true rfl)⟩) hS (fun q _ h => hFc q h) hFc (fun r760 u t H locs ht hvm hq hB hz1 hk1 hS9 => ?_)
              obtain ⟨z761, z762, z763, z764, z765⟩ := u
              obtain ⟨hP1, hD1⟩ := hB
              rw [ht] at hP1
              obtain ⟨hP9, hD9⟩ := va_join (wr := [(h_nv, .inl (cy_nv, 8000, .inl f112)), (h_nn, .inl (cy_nn, 8000, .inr (.inl f113))), (h_na, .inl (cy_na, 8000, .inl f114)), (h_nb, .inl (cy_nb, 8000, .inl f738)), (h_nc, .inl (cy_nc, 8000, .inl f116)), (h_vrs, .inl (cy_vrs, 32, .inl f117)), (h_let, .inl (cy_let, 256, .inl f118))]) (w1 := [(h_mm, .inr (8, (mo92 vq759 (.ref h_tap) (.int x_mm_taped) (.int z761) (.int z762) (.int z763) (.int z764) (.long z765) (.int z109)))), (h_tap, .inl (cy_tap, 600, .inl f_tap))]) hP hD [7, 8] [0, 1, 2, 3, 4, 5, 6] rfl rfl (by decide) (by decide) hk1 hFc hP1 hD1
              clear hP hD hS hPc hDc hKc hFc hP1 hD1 hk1 hz1 ht hvm
              have hP : va_P (dC, dI) cls [(h_nv, .inl (cy_nv, 8000, .inl f112)), (h_nn, .inl (cy_nn, 8000, .inr (.inl f113))), (h_na, .inl (cy_na, 8000, .inl f114)), (h_nb, .inl (cy_nb, 8000, .inl f738)), (h_nc, .inl (cy_nc, 8000, .inl f116)), (h_vrs, .inl (cy_vrs, 32, .inl f117)), (h_let, .inl (cy_let, 256, .inl f118)), (h_mm, .inr (8, (mo92 vq759 (.ref h_tap) (.int x_mm_taped) (.int z761) (.int z762) (.int z763) (.int z764) (.long z765) (.int z109)))), (h_tap, .inl (cy_tap, 600, .inl f_tap))] H := hP9
              have hD : va_D A [(h_nv, .inl (cy_nv, 8000, .inl f112)), (h_nn, .inl (cy_nn, 8000, .inr (.inl f113))), (h_na, .inl (cy_na, 8000, .inl f114)), (h_nb, .inl (cy_nb, 8000, .inl f738)), (h_nc, .inl (cy_nc, 8000, .inl f116)), (h_vrs, .inl (cy_vrs, 32, .inl f117)), (h_let, .inl (cy_let, 256, .inl f118)), (h_mm, .inr (8, (mo92 vq759 (.ref h_tap) (.int x_mm_taped) (.int z761) (.int z762) (.int z763) (.int z764) (.long z765) (.int z109)))), (h_tap, .inl (cy_tap, 600, .inl f_tap))] := hD9
              have hS := hS9
              clear hP9 hD9 hS9
              rw [evq759] at hP hD
              replace hP : va_P (dC, dI) cls [(h_nv, .inl (cy_nv, 8000, .inl f112)), (h_nn, .inl (cy_nn, 8000, .inr (.inl f113))), (h_na, .inl (cy_na, 8000, .inl f114)), (h_nb, .inl (cy_nb, 8000, .inl f738)), (h_nc, .inl (cy_nc, 8000, .inl f116)), (h_vrs, .inl (cy_vrs, 32, .inl f117)), (h_let, .inl (cy_let, 256, .inl f118)), (h_mm, .inr (8, (mo126 v_mm (.ref h_nv) (.ref h_nn) (.ref h_na) (.ref h_nb) (.ref h_nc) (.int z103) (.ref h_vrs) (.ref h_let) (.ref h_tap) (.int x_mm_taped) (.int z761) (.int z762) (.int z763) (.int z764) (.long z765) (.int z109) (.int z110) (.int z111) (.int z5) (.int x_mm_reading)))), (h_tap, .inl (cy_tap, 600, .inl f_tap))] H := hP
              replace hD : va_D A [(h_nv, .inl (cy_nv, 8000, .inl f112)), (h_nn, .inl (cy_nn, 8000, .inr (.inl f113))), (h_na, .inl (cy_na, 8000, .inl f114)), (h_nb, .inl (cy_nb, 8000, .inl f738)), (h_nc, .inl (cy_nc, 8000, .inl f116)), (h_vrs, .inl (cy_vrs, 32, .inl f117)), (h_let, .inl (cy_let, 256, .inl f118)), (h_mm, .inr (8, (mo126 v_mm (.ref h_nv) (.ref h_nn) (.ref h_na) (.ref h_nb) (.ref h_nc) (.int z103) (.ref h_vrs) (.ref h_let) (.ref h_tap) (.int x_mm_taped) (.int z761) (.int z762) (.int z763) (.int z764) (.long z765) (.int z109) (.int z110) (.int z111) (.int z5) (.int x_mm_reading)))), (h_tap, .inl (cy_tap, 600, .inl f_tap))] := hD
              clear evq759 
              obtain ⟨k766, k767, k768, k769, k770, k771, k772, k773, k774, hq⟩ := hq
              replace k766 : 0 ≤ ((z761)).toInt ∧ ((z761)).toInt ≤ 600 := k766
              replace k767 : 0 ≤ ((z762)).toInt ∧ ((z762)).toInt ≤ 600 := k767
              replace k768 : 0 ≤ ((z763)).toInt ∧ ((z763)).toInt ≤ 4 := k768
              replace k769 : ((z762)).toInt ≤ ((z761)).toInt := k769
              replace k770 : ((z763)).toInt = kd (tkT (G) ((x_mm_taped)).toInt ((z762)).toInt) := k770
              replace k771 : ((z763)).toInt = 0 ∨ (((z761)).toInt = tkX (G) ((x_mm_taped)).toInt ((z762)).toInt ∧ ((z764)).toInt = (G) ((z762)).toInt ∧ ((z762)).toInt < ((x_mm_taped)).toInt ∧ ((z762)).toInt + 1 ≤ ((z761)).toInt) := k771
              replace k772 : ((z761)).toInt ≤ ((x_mm_taped)).toInt := k772
              replace k773 : ((z762)).toInt ≤ ((x_mm_taped)).toInt := k773
              replace k774 : NMK ((z763)).toInt ((z765)).toInt (NMI 27 (G) ((x_mm_taped)).toInt ((z762)).toInt) := k774
              rcases hq with ⟨rfl, hq⟩ | ⟨rfl, hq⟩ | ⟨rfl, hq⟩
              · replace hq : (((z109)).toInt = 0) ∧ (tkT (G) ((x_mm_taped)).toInt ((z745)).toInt = ((41 : Int32)).toInt) ∧ (((z762)).toInt = tkN (G) ((x_mm_taped)).toInt ((z745)).toInt) ∧ (((z744)).toInt ≤ ((z762)).toInt) ∧ (((z745)).toInt + 1 ≤ ((z762)).toInt) := hq
                exact False.elim (by omega)
              · replace hq : (((z762)).toInt = ((z745)).toInt) ∧ (((z761)).toInt = ((z744)).toInt) ∧ (((z763)).toInt = ((z746)).toInt) ∧ (((z109)).toInt = 1) := hq
                refine lv_if_ne (tgt := 133) hx hb dX11_readsParts_125 (by decide) (fun c9 => absurd c9 (by decide)) (fun _ => ?_)
                refine lv_aload_n hx hb dX11_readsParts_128 rfl (lv_at hl 0 rfl) ?_
                refine lv_iconst (v := 1) hx hb dX11_readsParts_129 (by decide) ?_
                obtain ⟨vq775, evq775⟩ := mq126_90 v_mm (.ref h_nv) (.ref h_nn) (.ref h_na) (.ref h_nb) (.ref h_nc) (.int z103) (.ref h_vrs) (.ref h_let) (.ref h_tap) (.int x_mm_taped) (.int z761) (.int z763) (.int z764) (.long z765) (.int z5) (.int x_mm_reading)
                replace hP : va_P (dC, dI) cls [(h_nv, .inl (cy_nv, 8000, .inl f112)), (h_nn, .inl (cy_nn, 8000, .inr (.inl f113))), (h_na, .inl (cy_na, 8000, .inl f114)), (h_nb, .inl (cy_nb, 8000, .inl f738)), (h_nc, .inl (cy_nc, 8000, .inl f116)), (h_vrs, .inl (cy_vrs, 32, .inl f117)), (h_let, .inl (cy_let, 256, .inl f118)), (h_mm, .inr (8, (mo90 vq775 (.int z762) (.int z109) (.int z110) (.int z111)))), (h_tap, .inl (cy_tap, 600, .inl f_tap))] H := by rw [evq775]; exact hP
                replace hD : va_D A [(h_nv, .inl (cy_nv, 8000, .inl f112)), (h_nn, .inl (cy_nn, 8000, .inr (.inl f113))), (h_na, .inl (cy_na, 8000, .inl f114)), (h_nb, .inl (cy_nb, 8000, .inl f738)), (h_nc, .inl (cy_nc, 8000, .inl f116)), (h_vrs, .inl (cy_vrs, 32, .inl f117)), (h_let, .inl (cy_let, 256, .inl f118)), (h_mm, .inr (8, (mo90 vq775 (.int z762) (.int z109) (.int z110) (.int z111)))), (h_tap, .inl (cy_tap, 600, .inl f_tap))] := by rw [evq775]; exact hD
                have cst1 : (1 : Int32).toInt = 1 := by decide
                have hPc := hP.sub (ws' := [(h_mm, .inr (8, (mo90 vq775 (.int z762) (.int z109) (.int z110) (.int z111))))]) [7] rfl
                have hDc := hD.sub (ws' := [(h_mm, .inr (8, (mo90 vq775 (.int z762) (.int z109) (.int z110) (.int z111))))]) [7] (by decide) rfl
                have hKc := hK.sub (tys' := []) [] rfl
                have hFc := va_free (wc := [(h_mm, .inr (8, (mo90 vq775 (.int z762) (.int z109) (.int z110) (.int z111))))]) hD hS hA [7] rfl
                refine va_callv (va_runV (As := [.int 1]) (rest := []) ⟨hx, hb, hml, hown, hts⟩ (c_X11_faulty l dC dI H.size h_mm vq775 z762 z109 z110 z111 1 (by first | exact k767 | omega) (by first | exact k124 | omega)) (cwV 1 hts (gv hT w_m_X11_111 w_instanceMethod_X11_faulty ws_sel_X11_faulty w_ini_X11 w_code_X11_faulty) rfl rfl rfl (by decide +kernel) ⟨(by dsimp only [headSpec]; omega), (by dsimp only [headSpec]; omega)⟩) ⟨pre_blind, va_recv hK hP (ci := 8) (q0 := 7) rfl rfl, pre_of hPc hKc hDc hN⟩ rfl rfl hl.1 rfl (lv_room (Nat.le_of_ble_eq_true rfl)) dX11_readsParts_130 ⟨(Nat.le_of_ble_eq_true rfl), (Nat.le_of_ble_eq_true rfl)⟩) hS (fun q _ h => hFc q h) hFc (fun u t H locs ht hvm hq hB hz1 hk1 hS9 => ?_)
                obtain ⟨z777, z778, z779⟩ := u
                obtain ⟨hP1, hD1⟩ := hB
                rw [ht] at hP1
                obtain ⟨hP9, hD9⟩ := va_join (wr := [(h_nv, .inl (cy_nv, 8000, .inl f112)), (h_nn, .inl (cy_nn, 8000, .inr (.inl f113))), (h_na, .inl (cy_na, 8000, .inl f114)), (h_nb, .inl (cy_nb, 8000, .inl f738)), (h_nc, .inl (cy_nc, 8000, .inl f116)), (h_vrs, .inl (cy_vrs, 32, .inl f117)), (h_let, .inl (cy_let, 256, .inl f118)), (h_tap, .inl (cy_tap, 600, .inl f_tap))]) (w1 := [(h_mm, .inr (8, (mo90 vq775 (.int z762) (.int z777) (.int z778) (.int z779))))]) hP hD [7] [0, 1, 2, 3, 4, 5, 6, 8] rfl rfl (by decide) (by decide) hk1 hFc hP1 hD1
                clear hP hD hS hPc hDc hKc hFc hP1 hD1 hk1 hz1 ht hvm
                have hP : va_P (dC, dI) cls [(h_nv, .inl (cy_nv, 8000, .inl f112)), (h_nn, .inl (cy_nn, 8000, .inr (.inl f113))), (h_na, .inl (cy_na, 8000, .inl f114)), (h_nb, .inl (cy_nb, 8000, .inl f738)), (h_nc, .inl (cy_nc, 8000, .inl f116)), (h_vrs, .inl (cy_vrs, 32, .inl f117)), (h_let, .inl (cy_let, 256, .inl f118)), (h_tap, .inl (cy_tap, 600, .inl f_tap)), (h_mm, .inr (8, (mo90 vq775 (.int z762) (.int z777) (.int z778) (.int z779))))] H := hP9
                have hD : va_D A [(h_nv, .inl (cy_nv, 8000, .inl f112)), (h_nn, .inl (cy_nn, 8000, .inr (.inl f113))), (h_na, .inl (cy_na, 8000, .inl f114)), (h_nb, .inl (cy_nb, 8000, .inl f738)), (h_nc, .inl (cy_nc, 8000, .inl f116)), (h_vrs, .inl (cy_vrs, 32, .inl f117)), (h_let, .inl (cy_let, 256, .inl f118)), (h_tap, .inl (cy_tap, 600, .inl f_tap)), (h_mm, .inr (8, (mo90 vq775 (.int z762) (.int z777) (.int z778) (.int z779))))] := hD9
                have hS := hS9
                clear hP9 hD9 hS9
                rw [evq775] at hP hD
                replace hP : va_P (dC, dI) cls [(h_nv, .inl (cy_nv, 8000, .inl f112)), (h_nn, .inl (cy_nn, 8000, .inr (.inl f113))), (h_na, .inl (cy_na, 8000, .inl f114)), (h_nb, .inl (cy_nb, 8000, .inl f738)), (h_nc, .inl (cy_nc, 8000, .inl f116)), (h_vrs, .inl (cy_vrs, 32, .inl f117)), (h_let, .inl (cy_let, 256, .inl f118)), (h_tap, .inl (cy_tap, 600, .inl f_tap)), (h_mm, .inr (8, (mo126 v_mm (.ref h_nv) (.ref h_nn) (.ref h_na) (.ref h_nb) (.ref h_nc) (.int z103) (.ref h_vrs) (.ref h_let) (.ref h_tap) (.int x_mm_taped) (.int z761) (.int z762) (.int z763) (.int z764) (.long z765) (.int z777) (.int z778) (.int z779) (.int z5) (.int x_mm_reading))))] H := hP
                replace hD : va_D A [(h_nv, .inl (cy_nv, 8000, .inl f112)), (h_nn, .inl (cy_nn, 8000, .inr (.inl f113))), (h_na, .inl (cy_na, 8000, .inl f114)), (h_nb, .inl (cy_nb, 8000, .inl f738)), (h_nc, .inl (cy_nc, 8000, .inl f116)), (h_vrs, .inl (cy_vrs, 32, .inl f117)), (h_let, .inl (cy_let, 256, .inl f118)), (h_tap, .inl (cy_tap, 600, .inl f_tap)), (h_mm, .inr (8, (mo126 v_mm (.ref h_nv) (.ref h_nn) (.ref h_na) (.ref h_nb) (.ref h_nc) (.int z103) (.ref h_vrs) (.ref h_let) (.ref h_tap) (.int x_mm_taped) (.int z761) (.int z762) (.int z763) (.int z764) (.long z765) (.int z777) (.int z778) (.int z779) (.int z5) (.int x_mm_reading))))] := hD
                clear evq775 
                obtain ⟨k780, k781, k782⟩ := hq
                replace k780 : 0 ≤ ((z777)).toInt ∧ ((z777)).toInt ≤ 1 := k780
                replace k781 : ((z777)).toInt = 1 := k781
                replace k782 : (((z109)).toInt = 1 ∧ ((z778)).toInt = ((z110)).toInt ∧ ((z779)).toInt = ((z111)).toInt) ∨ (((z109)).toInt = 0 ∧ ((z778)).toInt = ((1 : Int32)).toInt ∧ ((z779)).toInt = ((z762)).toInt) := k782
                refine lv_aload_n hx hb dX11_readsParts_133 rfl (lv_at hl 0 rfl) ?_
                refine lv_aload_n hx hb dX11_readsParts_134 rfl (lv_at hl 0 rfl) ?_
                refine va_get (D := (dC, dI)) (ci := 8) (v := .int z5) (C := RX11) (T := TX11) (N := 71) hx hb hw iwX11 hown hK hP 8 rfl rfl 23 (by decide) (hw _ w_f_X11_130) (fun _ h9 => h9) rfl dX11_readsParts_135 ?_
                refine lv_iconst (v := 1) hx hb dX11_readsParts_138 (by decide) ?_
                refine lv_isub hx hb dX11_readsParts_139 ?_
                refine lv_topi (fun z783 ez783 => ?_)
                have tz783 : (z783).toInt = (z5).toInt - 1 := by rw [ez783]; exact i_sub rfl (by decide) (by omega)
                refine va_put (D := (dC, dI)) (ci := 8) (v := .int z783) (ty := tyX11 23) (C := RX11) (T := TX11) (N := 71) hx hb hw iwX11 tyX11 tyX11_ok nmX11 hown hK hP hD hS 8 rfl rfl 23 (by decide) (hw _ w_f_X11_130) (fun _ h9 => h9) rfl (tyX11_ok 23 (by decide)) rfl rfl (Nat.le_of_ble_eq_true rfl) dX11_readsParts_140 (fun H locs hP9 hD9 hS9 => ?_)
                clear hP hD hS
                have hP : va_P (dC, dI) cls [(h_nv, .inl (cy_nv, 8000, .inl f112)), (h_nn, .inl (cy_nn, 8000, .inr (.inl f113))), (h_na, .inl (cy_na, 8000, .inl f114)), (h_nb, .inl (cy_nb, 8000, .inl f738)), (h_nc, .inl (cy_nc, 8000, .inl f116)), (h_vrs, .inl (cy_vrs, 32, .inl f117)), (h_let, .inl (cy_let, 256, .inl f118)), (h_tap, .inl (cy_tap, 600, .inl f_tap)), (h_mm, .inr (8, (mo126 v_mm (.ref h_nv) (.ref h_nn) (.ref h_na) (.ref h_nb) (.ref h_nc) (.int z103) (.ref h_vrs) (.ref h_let) (.ref h_tap) (.int x_mm_taped) (.int z761) (.int z762) (.int z763) (.int z764) (.long z765) (.int z777) (.int z778) (.int z779) (.int z783) (.int x_mm_reading))))] H := hP9
                have hD : va_D A [(h_nv, .inl (cy_nv, 8000, .inl f112)), (h_nn, .inl (cy_nn, 8000, .inr (.inl f113))), (h_na, .inl (cy_na, 8000, .inl f114)), (h_nb, .inl (cy_nb, 8000, .inl f738)), (h_nc, .inl (cy_nc, 8000, .inl f116)), (h_vrs, .inl (cy_vrs, 32, .inl f117)), (h_let, .inl (cy_let, 256, .inl f118)), (h_tap, .inl (cy_tap, 600, .inl f_tap)), (h_mm, .inr (8, (mo126 v_mm (.ref h_nv) (.ref h_nn) (.ref h_na) (.ref h_nb) (.ref h_nc) (.int z103) (.ref h_vrs) (.ref h_let) (.ref h_tap) (.int x_mm_taped) (.int z761) (.int z762) (.int z763) (.int z764) (.long z765) (.int z777) (.int z778) (.int z779) (.int z783) (.int x_mm_reading))))] := hD9
                have hS := hS9
                clear hP9 hD9 hS9
                have oz9 : x_mm_opened = z783 := Int32.toInt_inj.mp (by omega)
                subst oz9
                replace hP : va_P (dC, dI) cls [(h_mm, .inr (8, (mo126 v_mm (.ref h_nv) (.ref h_nn) (.ref h_na) (.ref h_nb) (.ref h_nc) (.int z103) (.ref h_vrs) (.ref h_let) (.ref h_tap) (.int x_mm_taped) (.int z761) (.int z762) (.int z763) (.int z764) (.long z765) (.int z777) (.int z778) (.int z779) (.int x_mm_opened) (.int x_mm_reading)))), (h_tap, .inl (cy_tap, 600, .inl f_tap)), (h_nv, .inl (cy_nv, 8000, .inl f112)), (h_nn, .inl (cy_nn, 8000, .inr (.inl f113))), (h_na, .inl (cy_na, 8000, .inl f114)), (h_nb, .inl (cy_nb, 8000, .inl f738)), (h_nc, .inl (cy_nc, 8000, .inl f116)), (h_vrs, .inl (cy_vrs, 32, .inl f117)), (h_let, .inl (cy_let, 256, .inl f118))] H := hP.sub [8, 7, 0, 1, 2, 3, 4, 5, 6] rfl
                replace hD : va_D A [(h_mm, .inr (8, (mo126 v_mm (.ref h_nv) (.ref h_nn) (.ref h_na) (.ref h_nb) (.ref h_nc) (.int z103) (.ref h_vrs) (.ref h_let) (.ref h_tap) (.int x_mm_taped) (.int z761) (.int z762) (.int z763) (.int z764) (.long z765) (.int z777) (.int z778) (.int z779) (.int x_mm_opened) (.int x_mm_reading)))), (h_tap, .inl (cy_tap, 600, .inl f_tap)), (h_nv, .inl (cy_nv, 8000, .inl f112)), (h_nn, .inl (cy_nn, 8000, .inr (.inl f113))), (h_na, .inl (cy_na, 8000, .inl f114)), (h_nb, .inl (cy_nb, 8000, .inl f738)), (h_nc, .inl (cy_nc, 8000, .inl f116)), (h_vrs, .inl (cy_vrs, 32, .inl f117)), (h_let, .inl (cy_let, 256, .inl f118))] := hD.sub [8, 7, 0, 1, 2, 3, 4, 5, 6] (by decide) rfl
                refine W.widen (k := 0) (n := 0) (Nat.le_of_ble_eq_true rfl) (Nat.le_of_ble_eq_true rfl) ?_
                have w784 : 0 ≤ ((z103)).toInt ∧ ((z103)).toInt ≤ 1200 := by first | exact k120 | omega
                have w785 : 0 ≤ ((z761)).toInt ∧ ((z761)).toInt ≤ 600 := by first | exact k766 | omega
                have w786 : 0 ≤ ((z762)).toInt ∧ ((z762)).toInt ≤ 600 := by first | exact k767 | omega
                have w787 : 0 ≤ ((z763)).toInt ∧ ((z763)).toInt ≤ 4 := by first | exact k768 | omega
                have w788 : 0 ≤ ((z777)).toInt ∧ ((z777)).toInt ≤ 1 := by first | exact k780 | omega
                have w789 : ((z762)).toInt ≤ ((z761)).toInt := by first | exact k769 | omega
                have w790 : ((z777)).toInt = 1 ∨ ((z103)).toInt ≤ lo + ((z762)).toInt := by omega
                have w791 : (x_mm_nodes).toInt ≤ ((z103)).toInt := by omega
                have w792 : (x_mm_place).toInt ≤ ((z762)).toInt := by omega
                have w793 : (x_mm_isFaulty).toInt ≤ ((z777)).toInt := by omega
                have w794 : (((z777)).toInt = 0 ∧ ((pPs G (x_mm_taped).toInt dd (x_mm_place).toInt nv vf)).1 = 0 ∧ ((z778)).toInt = (x_mm_fault).toInt ∧ ((z779)).toInt = (x_mm_faultPlace).toInt) ∨ (((z777)).toInt = 1 ∧ ¬ ((pPs G (x_mm_taped).toInt dd (x_mm_place).toInt nv vf)).1 = 0 ∧ ((z778)).toInt = ((pPs G (x_mm_taped).toInt dd (x_mm_place).toInt nv vf)).1 ∧ ((z779)).toInt = ((pPs G (x_mm_taped).toInt dd (x_mm_place).toInt nv vf)).2.1) := by omega
                have w795 : ((z762)).toInt = ((pPs G (x_mm_taped).toInt dd (x_mm_place).toInt nv vf)).2.1 := by omega
                have w796 : 0 ≤ ((pPs G (x_mm_taped).toInt dd (x_mm_place).toInt nv vf)).2.2.1 ∧ ((pPs G (x_mm_taped).toInt dd (x_mm_place).toInt nv vf)).2.2.1 ≤ 8 := by omega
                have w797 : ((z763)).toInt = kd (tkT G (x_mm_taped).toInt ((z762)).toInt) := by first | exact k770 | omega
                have w798 : ((z763)).toInt = 0 ∨ (((z761)).toInt = tkX G (x_mm_taped).toInt ((z762)).toInt ∧ ((z764)).toInt = G ((z762)).toInt ∧ ((z762)).toInt < (x_mm_taped).toInt ∧ ((z762)).toInt + 1 ≤ ((z761)).toInt) := by first | exact k771 | omega
                have w799 : ((z761)).toInt ≤ (x_mm_taped).toInt := by first | exact k772 | omega
                have w800 : ((z762)).toInt ≤ (x_mm_taped).toInt := by first | exact k773 | omega
                have w801 : EQ0 lo za zb zc zv (f114) (f738) (f116) (f112) := nd740
                have w802 : ND lo ((z103)).toInt (gh119) (f114) (f738) (f116) := (nd_cast nd739 (by omega))
                have w803 : ∀ y : Nat, (y : Int) < (x_mm_nodes).toInt → (gh119) y = hh y := (fun y hy => (k142 y (by omega)).trans ((k65 y (by omega)).trans (rfl)))
                have w804 : VRF (x_mm_reading).toInt f_vrs (f117) := vr152
                have w805 : ((f117) (Int32.toNatClampNeg x_mm_reading)).toInt = ((pPs G (x_mm_taped).toInt dd (x_mm_place).toInt nv vf)).2.2.1 := (k144.trans pq7583.symm)
                have w806 : VFM ((pPs G (x_mm_taped).toInt dd (x_mm_place).toInt nv vf)).2.2.1 ((pPs G (x_mm_taped).toInt dd (x_mm_place).toInt nv vf)).2.2.2 (f118) (x_mm_reading).toInt := (by rw [pq7583, pq7584]; exact k145)
                have w807 : NMK ((z763)).toInt ((z765)).toInt (NMI 27 G (x_mm_taped).toInt ((z762)).toInt) := k774
                have w808 : IFZ ((z777)).toInt (∃ L B : Nat, (L : Int) = (x_mm_nodes).toInt ∧ (B : Int) = ((z103)).toInt ∧ NMX G (x_mm_taped).toInt (RVW (f112) (f113) (f114) (f738) (f116)) (SPX G (x_mm_taped).toInt 27 (RVW (f112) (f113) (f114) (f738) (f116)) ((pPs G (x_mm_taped).toInt dd (x_mm_place).toInt nv vf)).2.2.1 ((pPs G (x_mm_taped).toInt dd (x_mm_place).toInt nv vf)).2.2.2 k0 L B dd) (Int32.toNatClampNeg p1) (x_mm_place).toInt ((z762)).toInt) := (ifz_no (by omega))
                have w809 : AGN (x_mm_nodes).toInt (p1).toInt f_nv (f112) f_nn (f113) f_na (f114) f_nb (f738) f_nc (f116) := an741
                exact W.vret hx hb hr (fun t ht hW => ⟨⟨(z103, z761, z762, z763, z764, z765, z777, z778, z779, f112, f113, f114, f738, f116, f117, f118, gh119), rfl, ⟨w784, w785, w786, w787, w788, hf112, hf114, hf738, hf116, hf117, w789, w790, w791, w792, w793, w794, w795, w796, w797, w798, w799, w800, w801, w802, w803, w804, w805, w806, w807, w808, w809⟩, by rw [ht]; exact hP, hD⟩, hS.F ht⟩) hS.2.2 dX11_readsParts_143
              · replace hq : (((z762)).toInt = ((z745)).toInt) ∧ (((z761)).toInt = ((z744)).toInt) ∧ (((z763)).toInt = ((z746)).toInt) ∧ (((z109)).toInt = 0) ∧ (¬ tkT (G) ((x_mm_taped)).toInt ((z745)).toInt = ((41 : Int32)).toInt) := hq
                exact False.elim (by omega)
            · replace hq : (((z745)).toInt = ((z105)).toInt) ∧ (((z744)).toInt = ((z104)).toInt) ∧ (((z746)).toInt = ((z106)).toInt) ∧ (((z109)).toInt = 0) ∧ (¬ tkT (G) ((x_mm_taped)).toInt ((z105)).toInt = ((44 : Int32)).toInt) := hq
              exact False.elim (by omega)
        · replace hq : (((z84)).toInt = ((z28)).toInt) ∧ (((z83)).toInt = ((z27)).toInt) ∧ (((z85)).toInt = ((z29)).toInt) ∧ (((z32)).toInt = 1) := hq
          exact False.elim (by omega)
        · replace hq : (((z84)).toInt = ((z28)).toInt) ∧ (((z83)).toInt = ((z27)).toInt) ∧ (((z85)).toInt = ((z29)).toInt) ∧ (((z32)).toInt = 0) ∧ (¬ tkT (G) ((x_mm_taped)).toInt ((z28)).toInt = ((44 : Int32)).toInt) := hq
          clear k60
          have cst44 : (44 : Int32).toInt = 44 := by decide
          have on9 := pLo_off (G := G) (n := (x_mm_taped).toInt) (P := (pPs G (x_mm_taped).toInt d9)) (r := 2) (q := (x_mm_place).toInt) (nv := nv) (vf := vf) (by rw [← erh72]; omega) (by rw [← erh72, ← k57]; omega)
          rw [← erh72, ← k57] at on9
          have cl9 := on9.symm.trans lo0
          have xt9 : XT nv vf (rh72).2.2.1 (rh72).2.2.2 := by rw [erh72]; exact (pTm_xi (pPs_xi _) _ _ _).1
          have pn810 : PRN G (x_mm_taped).toInt (RVW f35 f36 f77 f38 f39) (rh72).2.2.1 (rh72).2.2.2 (z26).toInt dd p1 1 (x_mm_place).toInt (z28).toInt := prn_A (P0 := (x_mm_nodes).toInt) (Q := (x_mm_nodes).toInt) (q1 := (x_mm_place).toInt) (prn_zero (by omega) rfl) k71 (by omega) xt9 (by omega) (by omega) (by omega) trivial (k70 (by omega)) ef77
          have ts811 := trs_A ts74 ef77 (by omega)
          have pe9 : tkT G (x_mm_taped).toInt (z84).toInt = tkT G (x_mm_taped).toInt (z28).toInt := congrArg (tkT G (x_mm_taped).toInt) hq.1
          have pn9 : tkN G (x_mm_taped).toInt (z84).toInt = tkN G (x_mm_taped).toInt (z28).toInt := congrArg (tkN G (x_mm_taped).toInt) hq.1
          refine lv_if_eq (tgt := 119) hx hb dX11_readsParts_62 (by decide) (fun _ => ?_) (fun c9 => absurd c9 (by decide))
          refine lv_aload_n hx hb dX11_readsParts_119 rfl (lv_at hl 0 rfl) ?_
          refine lv_bipush (v := 41) hx hb dX11_readsParts_120 (by decide) ?_
          obtain ⟨vq812, evq812⟩ := mq126_92 v_mm (.ref h_nv) (.ref h_nn) (.ref h_na) (.ref h_nb) (.ref h_nc) (.int z26) (.ref h_vrs) (.ref h_let) (.int z33) (.int z34) (.int z5) (.int x_mm_reading)
          replace hP : va_P (dC, dI) cls [(h_nv, .inl (cy_nv, 8000, .inl f35)), (h_nn, .inl (cy_nn, 8000, .inr (.inl f36))), (h_na, .inl (cy_na, 8000, .inl f77)), (h_nb, .inl (cy_nb, 8000, .inl f38)), (h_nc, .inl (cy_nc, 8000, .inl f39)), (h_vrs, .inl (cy_vrs, 32, .inl f40)), (h_let, .inl (cy_let, 256, .inl f41)), (h_mm, .inr (8, (mo92 vq812 (.ref h_tap) (.int x_mm_taped) (.int z83) (.int z84) (.int z85) (.int z86) (.long z87) (.int z32)))), (h_tap, .inl (cy_tap, 600, .inl f_tap))] H := by rw [evq812]; exact hP
          replace hD : va_D A [(h_nv, .inl (cy_nv, 8000, .inl f35)), (h_nn, .inl (cy_nn, 8000, .inr (.inl f36))), (h_na, .inl (cy_na, 8000, .inl f77)), (h_nb, .inl (cy_nb, 8000, .inl f38)), (h_nc, .inl (cy_nc, 8000, .inl f39)), (h_vrs, .inl (cy_vrs, 32, .inl f40)), (h_let, .inl (cy_let, 256, .inl f41)), (h_mm, .inr (8, (mo92 vq812 (.ref h_tap) (.int x_mm_taped) (.int z83) (.int z84) (.int z85) (.int z86) (.long z87) (.int z32)))), (h_tap, .inl (cy_tap, 600, .inl f_tap))] := by rw [evq812]; exact hD
          have cst41 : (41 : Int32).toInt = 41 := by decide
          have hPc := hP.sub (ws' := [(h_mm, .inr (8, (mo92 vq812 (.ref h_tap) (.int x_mm_taped) (.int z83) (.int z84) (.int z85) (.int z86) (.long z87) (.int z32)))), (h_tap, .inl (cy_tap, 600, .inl f_tap))]) [7, 8] rfl
          have hDc := hD.sub (ws' := [(h_mm, .inr (8, (mo92 vq812 (.ref h_tap) (.int x_mm_taped) (.int z83) (.int z84) (.int z85) (.int z86) (.long z87) (.int z32)))), (h_tap, .inl (cy_tap, 600, .inl f_tap))]) [7, 8] (by decide) rfl
          have hKc := hK.sub (tys' := [(cy_tap, .byte)]) [0] rfl
          have hFc := va_free (wc := [(h_mm, .inr (8, (mo92 vq812 (.ref h_tap) (.int x_mm_taped) (.int z83) (.int z84) (.int z85) (.int z86) (.long z87) (.int z32)))), (h_tap, .inl (cy_tap, 600, .inl f_tap))]) hD hS hA [7, 8] rfl
          refine va_calli (va_runV (As := [.int 41]) (rest := []) ⟨hx, hb, hml, hown, hts⟩ (c_X11_passes l dC dI H.size h_mm h_tap vq812 x_mm_taped z83 z84 z85 z86 z87 z32 cy_tap f_tap 41 G (by first | exact hx_mm_taped | omega) (by first | exact k88 | omega) (by first | exact k89 | omega) (by first | exact k90 | omega) (by first | exact k47 | omega) (by first | exact k91 | omega) (by omega) (by omega) (by first | exact k92 | omega) (by first | exact k93 | omega) (by first | exact k94 | omega) (by first | exact k95 | omega) hn_tapq k96) (cwV 1 hts (gv hT w_m_X11_136 w_instanceMethod_X11_passes ws_sel_X11_passes w_ini_X11 w_code_X11_passes) rfl rfl rfl (by decide +kernel) ⟨(by dsimp only [headSpec]; omega), (by dsimp only [headSpec]; omega)⟩) ⟨pre_blind, va_recv hK hP (ci := 8) (q0 := 7) rfl rfl, pre_of hPc hKc hDc hN⟩ rfl rfl hl.1 rfl (lv_room (Nat.le_of_ble_eq_true rfl)) dX11_readsParts_122 ⟨(Nat.le_of_ble_eq_true rfl), (Nat.le_of_ble_eq_true rfl)⟩) hS (fun q _ h => hFc q h) hFc (fun r813 u t H locs ht hvm hq hB hz1 hk1 hS9 => ?_)
          obtain ⟨z814, z815, z816, z817, z818⟩ := u
          obtain ⟨hP1, hD1⟩ := hB
          rw [ht] at hP1
          obtain ⟨hP9, hD9⟩ := va_join (wr := [(h_nv, .inl (cy_nv, 8000, .inl f35)), (h_nn, .inl (cy_nn, 8000, .inr (.inl f36))), (h_na, .inl (cy_na, 8000, .inl f77)), (h_nb, .inl (cy_nb, 8000, .inl f38)), (h_nc, .inl (cy_nc, 8000, .inl f39)), (h_vrs, .inl (cy_vrs, 32, .inl f40)), (h_let, .inl (cy_let, 256, .inl f41))]) (w1 := [(h_mm, .inr (8, (mo92 vq812 (.ref h_tap) (.int x_mm_taped) (.int z814) (.int z815) (.int z816) (.int z817) (.long z818) (.int z32)))), (h_tap, .inl (cy_tap, 600, .inl f_tap))]) hP hD [7, 8] [0, 1, 2, 3, 4, 5, 6] rfl rfl (by decide) (by decide) hk1 hFc hP1 hD1
          clear hP hD hS hPc hDc hKc hFc hP1 hD1 hk1 hz1 ht hvm
          have hP : va_P (dC, dI) cls [(h_nv, .inl (cy_nv, 8000, .inl f35)), (h_nn, .inl (cy_nn, 8000, .inr (.inl f36))), (h_na, .inl (cy_na, 8000, .inl f77)), (h_nb, .inl (cy_nb, 8000, .inl f38)), (h_nc, .inl (cy_nc, 8000, .inl f39)), (h_vrs, .inl (cy_vrs, 32, .inl f40)), (h_let, .inl (cy_let, 256, .inl f41)), (h_mm, .inr (8, (mo92 vq812 (.ref h_tap) (.int x_mm_taped) (.int z814) (.int z815) (.int z816) (.int z817) (.long z818) (.int z32)))), (h_tap, .inl (cy_tap, 600, .inl f_tap))] H := hP9
          have hD : va_D A [(h_nv, .inl (cy_nv, 8000, .inl f35)), (h_nn, .inl (cy_nn, 8000, .inr (.inl f36))), (h_na, .inl (cy_na, 8000, .inl f77)), (h_nb, .inl (cy_nb, 8000, .inl f38)), (h_nc, .inl (cy_nc, 8000, .inl f39)), (h_vrs, .inl (cy_vrs, 32, .inl f40)), (h_let, .inl (cy_let, 256, .inl f41)), (h_mm, .inr (8, (mo92 vq812 (.ref h_tap) (.int x_mm_taped) (.int z814) (.int z815) (.int z816) (.int z817) (.long z818) (.int z32)))), (h_tap, .inl (cy_tap, 600, .inl f_tap))] := hD9
          have hS := hS9
          clear hP9 hD9 hS9
          rw [evq812] at hP hD
          replace hP : va_P (dC, dI) cls [(h_nv, .inl (cy_nv, 8000, .inl f35)), (h_nn, .inl (cy_nn, 8000, .inr (.inl f36))), (h_na, .inl (cy_na, 8000, .inl f77)), (h_nb, .inl (cy_nb, 8000, .inl f38)), (h_nc, .inl (cy_nc, 8000, .inl f39)), (h_vrs, .inl (cy_vrs, 32, .inl f40)), (h_let, .inl (cy_let, 256, .inl f41)), (h_mm, .inr (8, (mo126 v_mm (.ref h_nv) (.ref h_nn) (.ref h_na) (.ref h_nb) (.ref h_nc) (.int z26) (.ref h_vrs) (.ref h_let) (.ref h_tap) (.int x_mm_taped) (.int z814) (.int z815) (.int z816) (.int z817) (.long z818) (.int z32) (.int z33) (.int z34) (.int z5) (.int x_mm_reading)))), (h_tap, .inl (cy_tap, 600, .inl f_tap))] H := hP
          replace hD : va_D A [(h_nv, .inl (cy_nv, 8000, .inl f35)), (h_nn, .inl (cy_nn, 8000, .inr (.inl f36))), (h_na, .inl (cy_na, 8000, .inl f77)), (h_nb, .inl (cy_nb, 8000, .inl f38)), (h_nc, .inl (cy_nc, 8000, .inl f39)), (h_vrs, .inl (cy_vrs, 32, .inl f40)), (h_let, .inl (cy_let, 256, .inl f41)), (h_mm, .inr (8, (mo126 v_mm (.ref h_nv) (.ref h_nn) (.ref h_na) (.ref h_nb) (.ref h_nc) (.int z26) (.ref h_vrs) (.ref h_let) (.ref h_tap) (.int x_mm_taped) (.int z814) (.int z815) (.int z816) (.int z817) (.long z818) (.int z32) (.int z33) (.int z34) (.int z5) (.int x_mm_reading)))), (h_tap, .inl (cy_tap, 600, .inl f_tap))] := hD
          clear evq812 
          obtain ⟨k819, k820, k821, k822, k823, k824, k825, k826, k827, hq⟩ := hq
          replace k819 : 0 ≤ ((z814)).toInt ∧ ((z814)).toInt ≤ 600 := k819
          replace k820 : 0 ≤ ((z815)).toInt ∧ ((z815)).toInt ≤ 600 := k820
          replace k821 : 0 ≤ ((z816)).toInt ∧ ((z816)).toInt ≤ 4 := k821
          replace k822 : ((z815)).toInt ≤ ((z814)).toInt := k822
          replace k823 : ((z816)).toInt = kd (tkT (G) ((x_mm_taped)).toInt ((z815)).toInt) := k823
          replace k824 : ((z816)).toInt = 0 ∨ (((z814)).toInt = tkX (G) ((x_mm_taped)).toInt ((z815)).toInt ∧ ((z817)).toInt = (G) ((z815)).toInt ∧ ((z815)).toInt < ((x_mm_taped)).toInt ∧ ((z815)).toInt + 1 ≤ ((z814)).toInt) := k824
          replace k825 : ((z814)).toInt ≤ ((x_mm_taped)).toInt := k825
          replace k826 : ((z815)).toInt ≤ ((x_mm_taped)).toInt := k826
          replace k827 : NMK ((z816)).toInt ((z818)).toInt (NMI 27 (G) ((x_mm_taped)).toInt ((z815)).toInt) := k827
          rcases hq with ⟨rfl, hq⟩ | ⟨rfl, hq⟩ | ⟨rfl, hq⟩
          · replace hq : (((z32)).toInt = 0) ∧ (tkT (G) ((x_mm_taped)).toInt ((z84)).toInt = ((41 : Int32)).toInt) ∧ (((z815)).toInt = tkN (G) ((x_mm_taped)).toInt ((z84)).toInt) ∧ (((z83)).toInt ≤ ((z815)).toInt) ∧ (((z84)).toInt + 1 ≤ ((z815)).toInt) := hq
            have cst41 : (41 : Int32).toInt = 41 := by decide
            have pv9 : (pPs G (x_mm_taped).toInt dd (x_mm_place).toInt nv vf) = (0, tkN G (x_mm_taped).toInt (z28).toInt, (rh72).2.2.1, (rh72).2.2.2) := cl9.symm.trans (pCl_yes (by omega))
            have pq8281 : ((pPs G (x_mm_taped).toInt dd (x_mm_place).toInt nv vf)).1 = 0 := by rw [pv9]
            have pq8282 : ((pPs G (x_mm_taped).toInt dd (x_mm_place).toInt nv vf)).2.1 = tkN G (x_mm_taped).toInt (z28).toInt := by rw [pv9]
            have pq8283 : ((pPs G (x_mm_taped).toInt dd (x_mm_place).toInt nv vf)).2.2.1 = (rh72).2.2.1 := by rw [pv9]
            have pq8284 : ((pPs G (x_mm_taped).toInt dd (x_mm_place).toInt nv vf)).2.2.2 = (rh72).2.2.2 := by rw [pv9]
            have tz9 : tkT G (x_mm_taped).toInt (z28).toInt = 41 := by omega
            refine lv_if_ne (tgt := 133) hx hb dX11_readsParts_125 (by decide) (fun _ => ?_) (fun c9 => absurd c9 (by decide))
            refine lv_aload_n hx hb dX11_readsParts_133 rfl (lv_at hl 0 rfl) ?_
            refine lv_aload_n hx hb dX11_readsParts_134 rfl (lv_at hl 0 rfl) ?_
            refine va_get (D := (dC, dI)) (ci := 8) (v := .int z5) (C := RX11) (T := TX11) (N := 71) hx hb hw iwX11 hown hK hP 7 rfl rfl 23 (by decide) (hw _ w_f_X11_130) (fun _ h9 => h9) rfl dX11_readsParts_135 ?_
            refine lv_iconst (v := 1) hx hb dX11_readsParts_138 (by decide) ?_
            refine lv_isub hx hb dX11_readsParts_139 ?_
            refine lv_topi (fun z829 ez829 => ?_)
            have tz829 : (z829).toInt = (z5).toInt - 1 := by rw [ez829]; exact i_sub rfl (by decide) (by omega)
            refine va_put (D := (dC, dI)) (ci := 8) (v := .int z829) (ty := tyX11 23) (C := RX11) (T := TX11) (N := 71) hx hb hw iwX11 tyX11 tyX11_ok nmX11 hown hK hP hD hS 7 rfl rfl 23 (by decide) (hw _ w_f_X11_130) (fun _ h9 => h9) rfl (tyX11_ok 23 (by decide)) rfl rfl (Nat.le_of_ble_eq_true rfl) dX11_readsParts_140 (fun H locs hP9 hD9 hS9 => ?_)
            clear hP hD hS
            have hP : va_P (dC, dI) cls [(h_nv, .inl (cy_nv, 8000, .inl f35)), (h_nn, .inl (cy_nn, 8000, .inr (.inl f36))), (h_na, .inl (cy_na, 8000, .inl f77)), (h_nb, .inl (cy_nb, 8000, .inl f38)), (h_nc, .inl (cy_nc, 8000, .inl f39)), (h_vrs, .inl (cy_vrs, 32, .inl f40)), (h_let, .inl (cy_let, 256, .inl f41)), (h_mm, .inr (8, (mo126 v_mm (.ref h_nv) (.ref h_nn) (.ref h_na) (.ref h_nb) (.ref h_nc) (.int z26) (.ref h_vrs) (.ref h_let) (.ref h_tap) (.int x_mm_taped) (.int z814) (.int z815) (.int z816) (.int z817) (.long z818) (.int z32) (.int z33) (.int z34) (.int z829) (.int x_mm_reading)))), (h_tap, .inl (cy_tap, 600, .inl f_tap))] H := hP9
            have hD : va_D A [(h_nv, .inl (cy_nv, 8000, .inl f35)), (h_nn, .inl (cy_nn, 8000, .inr (.inl f36))), (h_na, .inl (cy_na, 8000, .inl f77)), (h_nb, .inl (cy_nb, 8000, .inl f38)), (h_nc, .inl (cy_nc, 8000, .inl f39)), (h_vrs, .inl (cy_vrs, 32, .inl f40)), (h_let, .inl (cy_let, 256, .inl f41)), (h_mm, .inr (8, (mo126 v_mm (.ref h_nv) (.ref h_nn) (.ref h_na) (.ref h_nb) (.ref h_nc) (.int z26) (.ref h_vrs) (.ref h_let) (.ref h_tap) (.int x_mm_taped) (.int z814) (.int z815) (.int z816) (.int z817) (.long z818) (.int z32) (.int z33) (.int z34) (.int z829) (.int x_mm_reading)))), (h_tap, .inl (cy_tap, 600, .inl f_tap))] := hD9
            have hS := hS9
            clear hP9 hD9 hS9
            have oz9 : x_mm_opened = z829 := Int32.toInt_inj.mp (by omega)
            subst oz9
            replace hP : va_P (dC, dI) cls [(h_mm, .inr (8, (mo126 v_mm (.ref h_nv) (.ref h_nn) (.ref h_na) (.ref h_nb) (.ref h_nc) (.int z26) (.ref h_vrs) (.ref h_let) (.ref h_tap) (.int x_mm_taped) (.int z814) (.int z815) (.int z816) (.int z817) (.long z818) (.int z32) (.int z33) (.int z34) (.int x_mm_opened) (.int x_mm_reading)))), (h_tap, .inl (cy_tap, 600, .inl f_tap)), (h_nv, .inl (cy_nv, 8000, .inl f35)), (h_nn, .inl (cy_nn, 8000, .inr (.inl f36))), (h_na, .inl (cy_na, 8000, .inl f77)), (h_nb, .inl (cy_nb, 8000, .inl f38)), (h_nc, .inl (cy_nc, 8000, .inl f39)), (h_vrs, .inl (cy_vrs, 32, .inl f40)), (h_let, .inl (cy_let, 256, .inl f41))] H := hP.sub [7, 8, 0, 1, 2, 3, 4, 5, 6] rfl
            replace hD : va_D A [(h_mm, .inr (8, (mo126 v_mm (.ref h_nv) (.ref h_nn) (.ref h_na) (.ref h_nb) (.ref h_nc) (.int z26) (.ref h_vrs) (.ref h_let) (.ref h_tap) (.int x_mm_taped) (.int z814) (.int z815) (.int z816) (.int z817) (.long z818) (.int z32) (.int z33) (.int z34) (.int x_mm_opened) (.int x_mm_reading)))), (h_tap, .inl (cy_tap, 600, .inl f_tap)), (h_nv, .inl (cy_nv, 8000, .inl f35)), (h_nn, .inl (cy_nn, 8000, .inr (.inl f36))), (h_na, .inl (cy_na, 8000, .inl f77)), (h_nb, .inl (cy_nb, 8000, .inl f38)), (h_nc, .inl (cy_nc, 8000, .inl f39)), (h_vrs, .inl (cy_vrs, 32, .inl f40)), (h_let, .inl (cy_let, 256, .inl f41))] := hD.sub [7, 8, 0, 1, 2, 3, 4, 5, 6] (by decide) rfl
            refine W.widen (k := 0) (n := 0) (Nat.le_of_ble_eq_true rfl) (Nat.le_of_ble_eq_true rfl) ?_
            have w830 : 0 ≤ ((z26)).toInt ∧ ((z26)).toInt ≤ 1200 := by first | exact k43 | omega
            have w831 : 0 ≤ ((z814)).toInt ∧ ((z814)).toInt ≤ 600 := by first | exact k819 | omega
            have w832 : 0 ≤ ((z815)).toInt ∧ ((z815)).toInt ≤ 600 := by first | exact k820 | omega
            have w833 : 0 ≤ ((z816)).toInt ∧ ((z816)).toInt ≤ 4 := by first | exact k821 | omega
            have w834 : 0 ≤ ((z32)).toInt ∧ ((z32)).toInt ≤ 1 := by first | exact k47 | omega
            have w835 : ((z815)).toInt ≤ ((z814)).toInt := by first | exact k822 | omega
            have w836 : ((z32)).toInt = 1 ∨ ((z26)).toInt ≤ lo + ((z815)).toInt := by omega
            have w837 : (x_mm_nodes).toInt ≤ ((z26)).toInt := by first | exact k51 | omega
            have w838 : (x_mm_place).toInt ≤ ((z815)).toInt := by omega
            have w839 : (x_mm_isFaulty).toInt ≤ ((z32)).toInt := by first | exact k53 | omega
            have w840 : (((z32)).toInt = 0 ∧ ((pPs G (x_mm_taped).toInt dd (x_mm_place).toInt nv vf)).1 = 0 ∧ ((z33)).toInt = (x_mm_fault).toInt ∧ ((z34)).toInt = (x_mm_faultPlace).toInt) ∨ (((z32)).toInt = 1 ∧ ¬ ((pPs G (x_mm_taped).toInt dd (x_mm_place).toInt nv vf)).1 = 0 ∧ ((z33)).toInt = ((pPs G (x_mm_taped).toInt dd (x_mm_place).toInt nv vf)).1 ∧ ((z34)).toInt = ((pPs G (x_mm_taped).toInt dd (x_mm_place).toInt nv vf)).2.1) := by omega
            have w841 : ((z815)).toInt = ((pPs G (x_mm_taped).toInt dd (x_mm_place).toInt nv vf)).2.1 := by omega
            have w842 : 0 ≤ ((pPs G (x_mm_taped).toInt dd (x_mm_place).toInt nv vf)).2.2.1 ∧ ((pPs G (x_mm_taped).toInt dd (x_mm_place).toInt nv vf)).2.2.1 ≤ 8 := by omega
            have w843 : ((z816)).toInt = kd (tkT G (x_mm_taped).toInt ((z815)).toInt) := by first | exact k823 | omega
            have w844 : ((z816)).toInt = 0 ∨ (((z814)).toInt = tkX G (x_mm_taped).toInt ((z815)).toInt ∧ ((z817)).toInt = G ((z815)).toInt ∧ ((z815)).toInt < (x_mm_taped).toInt ∧ ((z815)).toInt + 1 ≤ ((z814)).toInt) := by first | exact k824 | omega
            have w845 : ((z814)).toInt ≤ (x_mm_taped).toInt := by first | exact k825 | omega
            have w846 : ((z815)).toInt ≤ (x_mm_taped).toInt := by first | exact k826 | omega
            have w847 : EQ0 lo za zb zc zv (f77) (f38) (f39) (f35) := nd79
            have w848 : ND lo ((z26)).toInt (gh42) (f77) (f38) (f39) := (nd_cast nd78 (by omega))
            have w849 : ∀ y : Nat, (y : Int) < (x_mm_nodes).toInt → (gh42) y = hh y := (fun y hy => (k65 y (by omega)).trans (rfl))
            have w850 : VRF (x_mm_reading).toInt f_vrs (f40) := vr75
            have w851 : ((f40) (Int32.toNatClampNeg x_mm_reading)).toInt = ((pPs G (x_mm_taped).toInt dd (x_mm_place).toInt nv vf)).2.2.1 := (k67.trans pq8283.symm)
            have w852 : VFM ((pPs G (x_mm_taped).toInt dd (x_mm_place).toInt nv vf)).2.2.1 ((pPs G (x_mm_taped).toInt dd (x_mm_place).toInt nv vf)).2.2.2 (f41) (x_mm_reading).toInt := (by rw [pq8283, pq8284]; exact k68)
            have w853 : NMK ((z816)).toInt ((z818)).toInt (NMI 27 G (x_mm_taped).toInt ((z815)).toInt) := k827
            have w854 : IFZ ((z32)).toInt (∃ L B : Nat, (L : Int) = (x_mm_nodes).toInt ∧ (B : Int) = ((z26)).toInt ∧ NMX G (x_mm_taped).toInt (RVW (f35) (f36) (f77) (f38) (f39)) (SPX G (x_mm_taped).toInt 27 (RVW (f35) (f36) (f77) (f38) (f39)) ((pPs G (x_mm_taped).toInt dd (x_mm_place).toInt nv vf)).2.2.1 ((pPs G (x_mm_taped).toInt dd (x_mm_place).toInt nv vf)).2.2.2 k0 L B dd) (Int32.toNatClampNeg p1) (x_mm_place).toInt ((z815)).toInt) := (ifz_yes ⟨(x_mm_nodes).toInt.toNat, (z26).toInt.toNat, by omega, by omega, by rw [pq8283, pq8284]; exact nmx_yes pn810 ts811 (by omega) (by omega) (by rw [clamp_nat (i := p1) (by omega)]; omega) yt9 tz9 (by omega)⟩)
            have w855 : AGN (x_mm_nodes).toInt (p1).toInt f_nv (f35) f_nn (f36) f_na (f77) f_nb (f38) f_nc (f39) := an80
            exact W.vret hx hb hr (fun t ht hW => ⟨⟨(z26, z814, z815, z816, z817, z818, z32, z33, z34, f35, f36, f77, f38, f39, f40, f41, gh42), rfl, ⟨w830, w831, w832, w833, w834, hf35, hf77, hf38, hf39, hf40, w835, w836, w837, w838, w839, w840, w841, w842, w843, w844, w845, w846, w847, w848, w849, w850, w851, w852, w853, w854, w855⟩, by rw [ht]; exact hP, hD⟩, hS.F ht⟩) hS.2.2 dX11_readsParts_143
          · replace hq : (((z815)).toInt = ((z84)).toInt) ∧ (((z814)).toInt = ((z83)).toInt) ∧ (((z816)).toInt = ((z85)).toInt) ∧ (((z32)).toInt = 1) := hq
            exact False.elim (by omega)
          · replace hq : (((z815)).toInt = ((z84)).toInt) ∧ (((z814)).toInt = ((z83)).toInt) ∧ (((z816)).toInt = ((z85)).toInt) ∧ (((z32)).toInt = 0) ∧ (¬ tkT (G) ((x_mm_taped)).toInt ((z84)).toInt = ((41 : Int32)).toInt) := hq
            have cst41 : (41 : Int32).toInt = 41 := by decide
            have pv9 : (pPs G (x_mm_taped).toInt dd (x_mm_place).toInt nv vf) = (1, (z28).toInt, (rh72).2.2.1, (rh72).2.2.2) := cl9.symm.trans (pCl_no (by omega))
            have pq8561 : ((pPs G (x_mm_taped).toInt dd (x_mm_place).toInt nv vf)).1 = 1 := by rw [pv9]
            have pq8562 : ((pPs G (x_mm_taped).toInt dd (x_mm_place).toInt nv vf)).2.1 = (z28).toInt := by rw [pv9]
            have pq8563 : ((pPs G (x_mm_taped).toInt dd (x_mm_place).toInt nv vf)).2.2.1 = (rh72).2.2.1 := by rw [pv9]
            have pq8564 : ((pPs G (x_mm_taped).toInt dd (x_mm_place).toInt nv vf)).2.2.2 = (rh72).2.2.2 := by rw [pv9]
            refine lv_if_ne (tgt := 133) hx hb dX11_readsParts_125 (by decide) (fun c9 => absurd c9 (by decide)) (fun _ => ?_)
            refine lv_aload_n hx hb dX11_readsParts_128 rfl (lv_at hl 0 rfl) ?_
            refine lv_iconst (v := 1) hx hb dX11_readsParts_129 (by decide) ?_
            obtain ⟨vq857, evq857⟩ := mq126_90 v_mm (.ref h_nv) (.ref h_nn) (.ref h_na) (.ref h_nb) (.ref h_nc) (.int z26) (.ref h_vrs) (.ref h_let) (.ref h_tap) (.int x_mm_taped) (.int z814) (.int z816) (.int z817) (.long z818) (.int z5) (.int x_mm_reading)
            replace hP : va_P (dC, dI) cls [(h_nv, .inl (cy_nv, 8000, .inl f35)), (h_nn, .inl (cy_nn, 8000, .inr (.inl f36))), (h_na, .inl (cy_na, 8000, .inl f77)), (h_nb, .inl (cy_nb, 8000, .inl f38)), (h_nc, .inl (cy_nc, 8000, .inl f39)), (h_vrs, .inl (cy_vrs, 32, .inl f40)), (h_let, .inl (cy_let, 256, .inl f41)), (h_mm, .inr (8, (mo90 vq857 (.int z815) (.int z32) (.int z33) (.int z34)))), (h_tap, .inl (cy_tap, 600, .inl f_tap))] H := by rw [evq857]; exact hP
            replace hD : va_D A [(h_nv, .inl (cy_nv, 8000, .inl f35)), (h_nn, .inl (cy_nn, 8000, .inr (.inl f36))), (h_na, .inl (cy_na, 8000, .inl f77)), (h_nb, .inl (cy_nb, 8000, .inl f38)), (h_nc, .inl (cy_nc, 8000, .inl f39)), (h_vrs, .inl (cy_vrs, 32, .inl f40)), (h_let, .inl (cy_let, 256, .inl f41)), (h_mm, .inr (8, (mo90 vq857 (.int z815) (.int z32) (.int z33) (.int z34)))), (h_tap, .inl (cy_tap, 600, .inl f_tap))] := by rw [evq857]; exact hD
            have cst1 : (1 : Int32).toInt = 1 := by decide
            have hPc := hP.sub (ws' := [(h_mm, .inr (8, (mo90 vq857 (.int z815) (.int z32) (.int z33) (.int z34))))]) [7] rfl
            have hDc := hD.sub (ws' := [(h_mm, .inr (8, (mo90 vq857 (.int z815) (.int z32) (.int z33) (.int z34))))]) [7] (by decide) rfl
            have hKc := hK.sub (tys' := []) [] rfl
            have hFc := va_free (wc := [(h_mm, .inr (8, (mo90 vq857 (.int z815) (.int z32) (.int z33) (.int z34))))]) hD hS hA [7] rfl
            refine va_callv (va_runV (As := [.int 1]) (rest := []) ⟨hx, hb, hml, hown, hts⟩ (c_X11_faulty l dC dI H.size h_mm vq857 z815 z32 z33 z34 1 (by first | exact k820 | omega) (by first | exact k47 | omega)) (cwV 1 hts (gv hT w_m_X11_111 w_instanceMethod_X11_faulty ws_sel_X11_faulty w_ini_X11 w_code_X11_faulty) rfl rfl rfl (by decide +kernel) ⟨(by dsimp only [headSpec]; omega), (by dsimp only [headSpec]; omega)⟩) ⟨pre_blind, va_recv hK hP (ci := 8) (q0 := 7) rfl rfl, pre_of hPc hKc hDc hN⟩ rfl rfl hl.1 rfl (lv_room (Nat.le_of_ble_eq_true rfl)) dX11_readsParts_130 ⟨(Nat.le_of_ble_eq_true rfl), (Nat.le_of_ble_eq_true rfl)⟩) hS (fun q _ h => hFc q h) hFc (fun u t H locs ht hvm hq hB hz1 hk1 hS9 => ?_)
            obtain ⟨z859, z860, z861⟩ := u
            obtain ⟨hP1, hD1⟩ := hB
            rw [ht] at hP1
            obtain ⟨hP9, hD9⟩ := va_join (wr := [(h_nv, .inl (cy_nv, 8000, .inl f35)), (h_nn, .inl (cy_nn, 8000, .inr (.inl f36))), (h_na, .inl (cy_na, 8000, .inl f77)), (h_nb, .inl (cy_nb, 8000, .inl f38)), (h_nc, .inl (cy_nc, 8000, .inl f39)), (h_vrs, .inl (cy_vrs, 32, .inl f40)), (h_let, .inl (cy_let, 256, .inl f41)), (h_tap, .inl (cy_tap, 600, .inl f_tap))]) (w1 := [(h_mm, .inr (8, (mo90 vq857 (.int z815) (.int z859) (.int z860) (.int z861))))]) hP hD [7] [0, 1, 2, 3, 4, 5, 6, 8] rfl rfl (by decide) (by decide) hk1 hFc hP1 hD1
            clear hP hD hS hPc hDc hKc hFc hP1 hD1 hk1 hz1 ht hvm
            have hP : va_P (dC, dI) cls [(h_nv, .inl (cy_nv, 8000, .inl f35)), (h_nn, .inl (cy_nn, 8000, .inr (.inl f36))), (h_na, .inl (cy_na, 8000, .inl f77)), (h_nb, .inl (cy_nb, 8000, .inl f38)), (h_nc, .inl (cy_nc, 8000, .inl f39)), (h_vrs, .inl (cy_vrs, 32, .inl f40)), (h_let, .inl (cy_let, 256, .inl f41)), (h_tap, .inl (cy_tap, 600, .inl f_tap)), (h_mm, .inr (8, (mo90 vq857 (.int z815) (.int z859) (.int z860) (.int z861))))] H := hP9
            have hD : va_D A [(h_nv, .inl (cy_nv, 8000, .inl f35)), (h_nn, .inl (cy_nn, 8000, .inr (.inl f36))), (h_na, .inl (cy_na, 8000, .inl f77)), (h_nb, .inl (cy_nb, 8000, .inl f38)), (h_nc, .inl (cy_nc, 8000, .inl f39)), (h_vrs, .inl (cy_vrs, 32, .inl f40)), (h_let, .inl (cy_let, 256, .inl f41)), (h_tap, .inl (cy_tap, 600, .inl f_tap)), (h_mm, .inr (8, (mo90 vq857 (.int z815) (.int z859) (.int z860) (.int z861))))] := hD9
            have hS := hS9
            clear hP9 hD9 hS9
            rw [evq857] at hP hD
            replace hP : va_P (dC, dI) cls [(h_nv, .inl (cy_nv, 8000, .inl f35)), (h_nn, .inl (cy_nn, 8000, .inr (.inl f36))), (h_na, .inl (cy_na, 8000, .inl f77)), (h_nb, .inl (cy_nb, 8000, .inl f38)), (h_nc, .inl (cy_nc, 8000, .inl f39)), (h_vrs, .inl (cy_vrs, 32, .inl f40)), (h_let, .inl (cy_let, 256, .inl f41)), (h_tap, .inl (cy_tap, 600, .inl f_tap)), (h_mm, .inr (8, (mo126 v_mm (.ref h_nv) (.ref h_nn) (.ref h_na) (.ref h_nb) (.ref h_nc) (.int z26) (.ref h_vrs) (.ref h_let) (.ref h_tap) (.int x_mm_taped) (.int z814) (.int z815) (.int z816) (.int z817) (.long z818) (.int z859) (.int z860) (.int z861) (.int z5) (.int x_mm_reading))))] H := hP
            replace hD : va_D A [(h_nv, .inl (cy_nv, 8000, .inl f35)), (h_nn, .inl (cy_nn, 8000, .inr (.inl f36))), (h_na, .inl (cy_na, 8000, .inl f77)), (h_nb, .inl (cy_nb, 8000, .inl f38)), (h_nc, .inl (cy_nc, 8000, .inl f39)), (h_vrs, .inl (cy_vrs, 32, .inl f40)), (h_let, .inl (cy_let, 256, .inl f41)), (h_tap, .inl (cy_tap, 600, .inl f_tap)), (h_mm, .inr (8, (mo126 v_mm (.ref h_nv) (.ref h_nn) (.ref h_na) (.ref h_nb) (.ref h_nc) (.int z26) (.ref h_vrs) (.ref h_let) (.ref h_tap) (.int x_mm_taped) (.int z814) (.int z815) (.int z816) (.int z817) (.long z818) (.int z859) (.int z860) (.int z861) (.int z5) (.int x_mm_reading))))] := hD
            clear evq857 
            obtain ⟨k862, k863, k864⟩ := hq
            replace k862 : 0 ≤ ((z859)).toInt ∧ ((z859)).toInt ≤ 1 := k862
            replace k863 : ((z859)).toInt = 1 := k863
            replace k864 : (((z32)).toInt = 1 ∧ ((z860)).toInt = ((z33)).toInt ∧ ((z861)).toInt = ((z34)).toInt) ∨ (((z32)).toInt = 0 ∧ ((z860)).toInt = ((1 : Int32)).toInt ∧ ((z861)).toInt = ((z815)).toInt) := k864
            refine lv_aload_n hx hb dX11_readsParts_133 rfl (lv_at hl 0 rfl) ?_
            refine lv_aload_n hx hb dX11_readsParts_134 rfl (lv_at hl 0 rfl) ?_
            refine va_get (D := (dC, dI)) (ci := 8) (v := .int z5) (C := RX11) (T := TX11) (N := 71) hx hb hw iwX11 hown hK hP 8 rfl rfl 23 (by decide) (hw _ w_f_X11_130) (fun _ h9 => h9) rfl dX11_readsParts_135 ?_
            refine lv_iconst (v := 1) hx hb dX11_readsParts_138 (by decide) ?_
            refine lv_isub hx hb dX11_readsParts_139 ?_
            refine lv_topi (fun z865 ez865 => ?_)
            have tz865 : (z865).toInt = (z5).toInt - 1 := by rw [ez865]; exact i_sub rfl (by decide) (by omega)
            refine va_put (D := (dC, dI)) (ci := 8) (v := .int z865) (ty := tyX11 23) (C := RX11) (T := TX11) (N := 71) hx hb hw iwX11 tyX11 tyX11_ok nmX11 hown hK hP hD hS 8 rfl rfl 23 (by decide) (hw _ w_f_X11_130) (fun _ h9 => h9) rfl (tyX11_ok 23 (by decide)) rfl rfl (Nat.le_of_ble_eq_true rfl) dX11_readsParts_140 (fun H locs hP9 hD9 hS9 => ?_)
            clear hP hD hS
            have hP : va_P (dC, dI) cls [(h_nv, .inl (cy_nv, 8000, .inl f35)), (h_nn, .inl (cy_nn, 8000, .inr (.inl f36))), (h_na, .inl (cy_na, 8000, .inl f77)), (h_nb, .inl (cy_nb, 8000, .inl f38)), (h_nc, .inl (cy_nc, 8000, .inl f39)), (h_vrs, .inl (cy_vrs, 32, .inl f40)), (h_let, .inl (cy_let, 256, .inl f41)), (h_tap, .inl (cy_tap, 600, .inl f_tap)), (h_mm, .inr (8, (mo126 v_mm (.ref h_nv) (.ref h_nn) (.ref h_na) (.ref h_nb) (.ref h_nc) (.int z26) (.ref h_vrs) (.ref h_let) (.ref h_tap) (.int x_mm_taped) (.int z814) (.int z815) (.int z816) (.int z817) (.long z818) (.int z859) (.int z860) (.int z861) (.int z865) (.int x_mm_reading))))] H := hP9
            have hD : va_D A [(h_nv, .inl (cy_nv, 8000, .inl f35)), (h_nn, .inl (cy_nn, 8000, .inr (.inl f36))), (h_na, .inl (cy_na, 8000, .inl f77)), (h_nb, .inl (cy_nb, 8000, .inl f38)), (h_nc, .inl (cy_nc, 8000, .inl f39)), (h_vrs, .inl (cy_vrs, 32, .inl f40)), (h_let, .inl (cy_let, 256, .inl f41)), (h_tap, .inl (cy_tap, 600, .inl f_tap)), (h_mm, .inr (8, (mo126 v_mm (.ref h_nv) (.ref h_nn) (.ref h_na) (.ref h_nb) (.ref h_nc) (.int z26) (.ref h_vrs) (.ref h_let) (.ref h_tap) (.int x_mm_taped) (.int z814) (.int z815) (.int z816) (.int z817) (.long z818) (.int z859) (.int z860) (.int z861) (.int z865) (.int x_mm_reading))))] := hD9
            have hS := hS9
            clear hP9 hD9 hS9
            have oz9 : x_mm_opened = z865 := Int32.toInt_inj.mp (by omega)
            subst oz9
            replace hP : va_P (dC, dI) cls [(h_mm, .inr (8, (mo126 v_mm (.ref h_nv) (.ref h_nn) (.ref h_na) (.ref h_nb) (.ref h_nc) (.int z26) (.ref h_vrs) (.ref h_let) (.ref h_tap) (.int x_mm_taped) (.int z814) (.int z815) (.int z816) (.int z817) (.long z818) (.int z859) (.int z860) (.int z861) (.int x_mm_opened) (.int x_mm_reading)))), (h_tap, .inl (cy_tap, 600, .inl f_tap)), (h_nv, .inl (cy_nv, 8000, .inl f35)), (h_nn, .inl (cy_nn, 8000, .inr (.inl f36))), (h_na, .inl (cy_na, 8000, .inl f77)), (h_nb, .inl (cy_nb, 8000, .inl f38)), (h_nc, .inl (cy_nc, 8000, .inl f39)), (h_vrs, .inl (cy_vrs, 32, .inl f40)), (h_let, .inl (cy_let, 256, .inl f41))] H := hP.sub [8, 7, 0, 1, 2, 3, 4, 5, 6] rfl
            replace hD : va_D A [(h_mm, .inr (8, (mo126 v_mm (.ref h_nv) (.ref h_nn) (.ref h_na) (.ref h_nb) (.ref h_nc) (.int z26) (.ref h_vrs) (.ref h_let) (.ref h_tap) (.int x_mm_taped) (.int z814) (.int z815) (.int z816) (.int z817) (.long z818) (.int z859) (.int z860) (.int z861) (.int x_mm_opened) (.int x_mm_reading)))), (h_tap, .inl (cy_tap, 600, .inl f_tap)), (h_nv, .inl (cy_nv, 8000, .inl f35)), (h_nn, .inl (cy_nn, 8000, .inr (.inl f36))), (h_na, .inl (cy_na, 8000, .inl f77)), (h_nb, .inl (cy_nb, 8000, .inl f38)), (h_nc, .inl (cy_nc, 8000, .inl f39)), (h_vrs, .inl (cy_vrs, 32, .inl f40)), (h_let, .inl (cy_let, 256, .inl f41))] := hD.sub [8, 7, 0, 1, 2, 3, 4, 5, 6] (by decide) rfl
            refine W.widen (k := 0) (n := 0) (Nat.le_of_ble_eq_true rfl) (Nat.le_of_ble_eq_true rfl) ?_
            have w866 : 0 ≤ ((z26)).toInt ∧ ((z26)).toInt ≤ 1200 := by first | exact k43 | omega
            have w867 : 0 ≤ ((z814)).toInt ∧ ((z814)).toInt ≤ 600 := by first | exact k819 | omega
            have w868 : 0 ≤ ((z815)).toInt ∧ ((z815)).toInt ≤ 600 := by first | exact k820 | omega
            have w869 : 0 ≤ ((z816)).toInt ∧ ((z816)).toInt ≤ 4 := by first | exact k821 | omega
            have w870 : 0 ≤ ((z859)).toInt ∧ ((z859)).toInt ≤ 1 := by first | exact k862 | omega
            have w871 : ((z815)).toInt ≤ ((z814)).toInt := by first | exact k822 | omega
            have w872 : ((z859)).toInt = 1 ∨ ((z26)).toInt ≤ lo + ((z815)).toInt := by omega
            have w873 : (x_mm_nodes).toInt ≤ ((z26)).toInt := by first | exact k51 | omega
            have w874 : (x_mm_place).toInt ≤ ((z815)).toInt := by omega
            have w875 : (x_mm_isFaulty).toInt ≤ ((z859)).toInt := by omega
            have w876 : (((z859)).toInt = 0 ∧ ((pPs G (x_mm_taped).toInt dd (x_mm_place).toInt nv vf)).1 = 0 ∧ ((z860)).toInt = (x_mm_fault).toInt ∧ ((z861)).toInt = (x_mm_faultPlace).toInt) ∨ (((z859)).toInt = 1 ∧ ¬ ((pPs G (x_mm_taped).toInt dd (x_mm_place).toInt nv vf)).1 = 0 ∧ ((z860)).toInt = ((pPs G (x_mm_taped).toInt dd (x_mm_place).toInt nv vf)).1 ∧ ((z861)).toInt = ((pPs G (x_mm_taped).toInt dd (x_mm_place).toInt nv vf)).2.1) := by omega
            have w877 : ((z815)).toInt = ((pPs G (x_mm_taped).toInt dd (x_mm_place).toInt nv vf)).2.1 := by omega
            have w878 : 0 ≤ ((pPs G (x_mm_taped).toInt dd (x_mm_place).toInt nv vf)).2.2.1 ∧ ((pPs G (x_mm_taped).toInt dd (x_mm_place).toInt nv vf)).2.2.1 ≤ 8 := by omega
            have w879 : ((z816)).toInt = kd (tkT G (x_mm_taped).toInt ((z815)).toInt) := by first | exact k823 | omega
            have w880 : ((z816)).toInt = 0 ∨ (((z814)).toInt = tkX G (x_mm_taped).toInt ((z815)).toInt ∧ ((z817)).toInt = G ((z815)).toInt ∧ ((z815)).toInt < (x_mm_taped).toInt ∧ ((z815)).toInt + 1 ≤ ((z814)).toInt) := by first | exact k824 | omega
            have w881 : ((z814)).toInt ≤ (x_mm_taped).toInt := by first | exact k825 | omega
            have w882 : ((z815)).toInt ≤ (x_mm_taped).toInt := by first | exact k826 | omega
            have w883 : EQ0 lo za zb zc zv (f77) (f38) (f39) (f35) := nd79
            have w884 : ND lo ((z26)).toInt (gh42) (f77) (f38) (f39) := (nd_cast nd78 (by omega))
            have w885 : ∀ y : Nat, (y : Int) < (x_mm_nodes).toInt → (gh42) y = hh y := (fun y hy => (k65 y (by omega)).trans (rfl))
            have w886 : VRF (x_mm_reading).toInt f_vrs (f40) := vr75
            have w887 : ((f40) (Int32.toNatClampNeg x_mm_reading)).toInt = ((pPs G (x_mm_taped).toInt dd (x_mm_place).toInt nv vf)).2.2.1 := (k67.trans pq8563.symm)
            have w888 : VFM ((pPs G (x_mm_taped).toInt dd (x_mm_place).toInt nv vf)).2.2.1 ((pPs G (x_mm_taped).toInt dd (x_mm_place).toInt nv vf)).2.2.2 (f41) (x_mm_reading).toInt := (by rw [pq8563, pq8564]; exact k68)
            have w889 : NMK ((z816)).toInt ((z818)).toInt (NMI 27 G (x_mm_taped).toInt ((z815)).toInt) := k827
            have w890 : IFZ ((z859)).toInt (∃ L B : Nat, (L : Int) = (x_mm_nodes).toInt ∧ (B : Int) = ((z26)).toInt ∧ NMX G (x_mm_taped).toInt (RVW (f35) (f36) (f77) (f38) (f39)) (SPX G (x_mm_taped).toInt 27 (RVW (f35) (f36) (f77) (f38) (f39)) ((pPs G (x_mm_taped).toInt dd (x_mm_place).toInt nv vf)).2.2.1 ((pPs G (x_mm_taped).toInt dd (x_mm_place).toInt nv vf)).2.2.2 k0 L B dd) (Int32.toNatClampNeg p1) (x_mm_place).toInt ((z815)).toInt) := (ifz_no (by omega))
            have w891 : AGN (x_mm_nodes).toInt (p1).toInt f_nv (f35) f_nn (f36) f_na (f77) f_nb (f38) f_nc (f39) := an80
            exact W.vret hx hb hr (fun t ht hW => ⟨⟨(z26, z814, z815, z816, z817, z818, z859, z860, z861, f35, f36, f77, f38, f39, f40, f41, gh42), rfl, ⟨w866, w867, w868, w869, w870, hf35, hf77, hf38, hf39, hf40, w871, w872, w873, w874, w875, w876, w877, w878, w879, w880, w881, w882, w883, w884, w885, w886, w887, w888, w889, w890, w891⟩, by rw [ht]; exact hP, hD⟩, hS.F ht⟩) hS.2.2 dX11_readsParts_143
      · clear k50
        refine va_iast hx hb hK hP hD hS 4 3 rfl rfl (i := p1) (x := r25) (vp_in_iff.mpr (by omega)) dX11_readsParts_55 (fun H locs hP9 hD9 hS9 => ?_)
        obtain ⟨f892, ef892⟩ : ∃ g : Nat → Int32, g = upd f37 (Int32.toNatClampNeg p1) r25 := ⟨_, rfl⟩
        clear hP hD hS
        have hP : va_P (dC, dI) cls [(h_mm, .inr (8, (mo126 v_mm (.ref h_nv) (.ref h_nn) (.ref h_na) (.ref h_nb) (.ref h_nc) (.int z26) (.ref h_vrs) (.ref h_let) (.ref h_tap) (.int x_mm_taped) (.int z27) (.int z28) (.int z29) (.int z30) (.long z31) (.int z32) (.int z33) (.int z34) (.int z5) (.int x_mm_reading)))), (h_tap, .inl (cy_tap, 600, .inl f_tap)), (h_nv, .inl (cy_nv, 8000, .inl f35)), (h_nn, .inl (cy_nn, 8000, .inr (.inl f36))), (h_na, .inl (cy_na, 8000, .inl f892)), (h_nb, .inl (cy_nb, 8000, .inl f38)), (h_nc, .inl (cy_nc, 8000, .inl f39)), (h_vrs, .inl (cy_vrs, 32, .inl f40)), (h_let, .inl (cy_let, 256, .inl f41))] H := by rw [ef892]; exact hP9
        have hD : va_D A [(h_mm, .inr (8, (mo126 v_mm (.ref h_nv) (.ref h_nn) (.ref h_na) (.ref h_nb) (.ref h_nc) (.int z26) (.ref h_vrs) (.ref h_let) (.ref h_tap) (.int x_mm_taped) (.int z27) (.int z28) (.int z29) (.int z30) (.long z31) (.int z32) (.int z33) (.int z34) (.int z5) (.int x_mm_reading)))), (h_tap, .inl (cy_tap, 600, .inl f_tap)), (h_nv, .inl (cy_nv, 8000, .inl f35)), (h_nn, .inl (cy_nn, 8000, .inr (.inl f36))), (h_na, .inl (cy_na, 8000, .inl f892)), (h_nb, .inl (cy_nb, 8000, .inl f38)), (h_nc, .inl (cy_nc, 8000, .inl f39)), (h_vrs, .inl (cy_vrs, 32, .inl f40)), (h_let, .inl (cy_let, 256, .inl f41))] := by rw [ef892]; exact hD9
        have hS := hS9
        clear hP9 hD9 hS9
        have hf892 : Rg (-1) 7999 f892 := by rw [ef892]; exact rg_upd hf37 (by omega)
        have nd893 : ND lo (z26).toInt gh42 f892 f38 f39 := by rw [ef892]; exact nd_setA (n := (z26).toInt) (nd_cast k64 (by omega)) (by omega) (by unfold NDk; omega)
        have nd894 : EQ0 lo za zb zc zv f892 f38 f39 f35 := by rw [ef892]; exact eq0_A k63 (by omega) (by omega)
        have an895 : AGN (x_mm_nodes).toInt (p1).toInt f_nv f35 f_nn f36 f_na f892 f_nb f38 f_nc f39 := agn_A an73 ef892 (by omega)
        clear k54
        refine lv_aload_n hx hb dX11_readsParts_56 rfl (lv_at hl 0 rfl) ?_
        refine lv_bipush (v := 44) hx hb dX11_readsParts_57 (by decide) ?_
        obtain ⟨vq896, evq896⟩ := mq126_92 v_mm (.ref h_nv) (.ref h_nn) (.ref h_na) (.ref h_nb) (.ref h_nc) (.int z26) (.ref h_vrs) (.ref h_let) (.int z33) (.int z34) (.int z5) (.int x_mm_reading)
        replace hP : va_P (dC, dI) cls [(h_mm, .inr (8, (mo92 vq896 (.ref h_tap) (.int x_mm_taped) (.int z27) (.int z28) (.int z29) (.int z30) (.long z31) (.int z32)))), (h_tap, .inl (cy_tap, 600, .inl f_tap)), (h_nv, .inl (cy_nv, 8000, .inl f35)), (h_nn, .inl (cy_nn, 8000, .inr (.inl f36))), (h_na, .inl (cy_na, 8000, .inl f892)), (h_nb, .inl (cy_nb, 8000, .inl f38)), (h_nc, .inl (cy_nc, 8000, .inl f39)), (h_vrs, .inl (cy_vrs, 32, .inl f40)), (h_let, .inl (cy_let, 256, .inl f41))] H := by rw [evq896]; exact hP
        replace hD : va_D A [(h_mm, .inr (8, (mo92 vq896 (.ref h_tap) (.int x_mm_taped) (.int z27) (.int z28) (.int z29) (.int z30) (.long z31) (.int z32)))), (h_tap, .inl (cy_tap, 600, .inl f_tap)), (h_nv, .inl (cy_nv, 8000, .inl f35)), (h_nn, .inl (cy_nn, 8000, .inr (.inl f36))), (h_na, .inl (cy_na, 8000, .inl f892)), (h_nb, .inl (cy_nb, 8000, .inl f38)), (h_nc, .inl (cy_nc, 8000, .inl f39)), (h_vrs, .inl (cy_vrs, 32, .inl f40)), (h_let, .inl (cy_let, 256, .inl f41))] := by rw [evq896]; exact hD
        have cst44 : (44 : Int32).toInt = 44 := by decide
        have hPc := hP.sub (ws' := [(h_mm, .inr (8, (mo92 vq896 (.ref h_tap) (.int x_mm_taped) (.int z27) (.int z28) (.int z29) (.int z30) (.long z31) (.int z32)))), (h_tap, .inl (cy_tap, 600, .inl f_tap))]) [0, 1] rfl
        have hDc := hD.sub (ws' := [(h_mm, .inr (8, (mo92 vq896 (.ref h_tap) (.int x_mm_taped) (.int z27) (.int z28) (.int z29) (.int z30) (.long z31) (.int z32)))), (h_tap, .inl (cy_tap, 600, .inl f_tap))]) [0, 1] (by decide) rfl
        have hKc := hK.sub (tys' := [(cy_tap, .byte)]) [0] rfl
        have hFc := va_free (wc := [(h_mm, .inr (8, (mo92 vq896 (.ref h_tap) (.int x_mm_taped) (.int z27) (.int z28) (.int z29) (.int z30) (.long z31) (.int z32)))), (h_tap, .inl (cy_tap, 600, .inl f_tap))]) hD hS hA [0, 1] rfl
        refine va_calli (va_runV (As := [.int 44]) (rest := []) ⟨hx, hb, hml, hown, hts⟩ (c_X11_passes l dC dI H.size h_mm h_tap vq896 x_mm_taped z27 z28 z29 z30 z31 z32 cy_tap f_tap 44 G (by first | exact hx_mm_taped | omega) (by first | exact k44 | omega) (by first | exact k45 | omega) (by first | exact k46 | omega) (by first | exact k47 | omega) (by first | exact k49 | omega) (by omega) (by omega) (by first | exact k59 | omega) (by first | exact k60 | omega) (by first | exact k61 | omega) (by first | exact k62 | omega) hn_tapq k69) (cwV 1 hts (gv hT w_m_X11_136 w_instanceMethod_X11_passes ws_sel_X11_passes w_ini_X11 w_code_X11_passes) rfl rfl rfl (by decide +kernel) ⟨(by dsimp only [headSpec]; omega), (by dsimp only [headSpec]; omega)⟩) ⟨pre_blind, va_recv hK hP (ci := 8) (q0 := 0) rfl rfl, pre_of hPc hKc hDc hN⟩ rfl rfl hl.1 rfl (lv_room (Nat.le_of_ble_eq_true rfl)) dX11_readsParts_59 ⟨(Nat.le_of_ble_eq_true rfl), (Nat.le_of_ble_eq_true rfl)⟩) hS (fun q _ h => hFc q h) hFc (fun r897 u t H locs ht hvm hq hB hz1 hk1 hS9 => ?_)
        obtain ⟨z898, z899, z900, z901, z902⟩ := u
        obtain ⟨hP1, hD1⟩ := hB
        rw [ht] at hP1
        obtain ⟨hP9, hD9⟩ := va_join (wr := [(h_nv, .inl (cy_nv, 8000, .inl f35)), (h_nn, .inl (cy_nn, 8000, .inr (.inl f36))), (h_na, .inl (cy_na, 8000, .inl f892)), (h_nb, .inl (cy_nb, 8000, .inl f38)), (h_nc, .inl (cy_nc, 8000, .inl f39)), (h_vrs, .inl (cy_vrs, 32, .inl f40)), (h_let, .inl (cy_let, 256, .inl f41))]) (w1 := [(h_mm, .inr (8, (mo92 vq896 (.ref h_tap) (.int x_mm_taped) (.int z898) (.int z899) (.int z900) (.int z901) (.long z902) (.int z32)))), (h_tap, .inl (cy_tap, 600, .inl f_tap))]) hP hD [0, 1] [2, 3, 4, 5, 6, 7, 8] rfl rfl (by decide) (by decide) hk1 hFc hP1 hD1
        clear hP hD hS hPc hDc hKc hFc hP1 hD1 hk1 hz1 ht hvm
        have hP : va_P (dC, dI) cls [(h_nv, .inl (cy_nv, 8000, .inl f35)), (h_nn, .inl (cy_nn, 8000, .inr (.inl f36))), (h_na, .inl (cy_na, 8000, .inl f892)), (h_nb, .inl (cy_nb, 8000, .inl f38)), (h_nc, .inl (cy_nc, 8000, .inl f39)), (h_vrs, .inl (cy_vrs, 32, .inl f40)), (h_let, .inl (cy_let, 256, .inl f41)), (h_mm, .inr (8, (mo92 vq896 (.ref h_tap) (.int x_mm_taped) (.int z898) (.int z899) (.int z900) (.int z901) (.long z902) (.int z32)))), (h_tap, .inl (cy_tap, 600, .inl f_tap))] H := hP9
        have hD : va_D A [(h_nv, .inl (cy_nv, 8000, .inl f35)), (h_nn, .inl (cy_nn, 8000, .inr (.inl f36))), (h_na, .inl (cy_na, 8000, .inl f892)), (h_nb, .inl (cy_nb, 8000, .inl f38)), (h_nc, .inl (cy_nc, 8000, .inl f39)), (h_vrs, .inl (cy_vrs, 32, .inl f40)), (h_let, .inl (cy_let, 256, .inl f41)), (h_mm, .inr (8, (mo92 vq896 (.ref h_tap) (.int x_mm_taped) (.int z898) (.int z899) (.int z900) (.int z901) (.long z902) (.int z32)))), (h_tap, .inl (cy_tap, 600, .inl f_tap))] := hD9
        have hS := hS9
        clear hP9 hD9 hS9
        rw [evq896] at hP hD
        replace hP : va_P (dC, dI) cls [(h_nv, .inl (cy_nv, 8000, .inl f35)), (h_nn, .inl (cy_nn, 8000, .inr (.inl f36))), (h_na, .inl (cy_na, 8000, .inl f892)), (h_nb, .inl (cy_nb, 8000, .inl f38)), (h_nc, .inl (cy_nc, 8000, .inl f39)), (h_vrs, .inl (cy_vrs, 32, .inl f40)), (h_let, .inl (cy_let, 256, .inl f41)), (h_mm, .inr (8, (mo126 v_mm (.ref h_nv) (.ref h_nn) (.ref h_na) (.ref h_nb) (.ref h_nc) (.int z26) (.ref h_vrs) (.ref h_let) (.ref h_tap) (.int x_mm_taped) (.int z898) (.int z899) (.int z900) (.int z901) (.long z902) (.int z32) (.int z33) (.int z34) (.int z5) (.int x_mm_reading)))), (h_tap, .inl (cy_tap, 600, .inl f_tap))] H := hP
        replace hD : va_D A [(h_nv, .inl (cy_nv, 8000, .inl f35)), (h_nn, .inl (cy_nn, 8000, .inr (.inl f36))), (h_na, .inl (cy_na, 8000, .inl f892)), (h_nb, .inl (cy_nb, 8000, .inl f38)), (h_nc, .inl (cy_nc, 8000, .inl f39)), (h_vrs, .inl (cy_vrs, 32, .inl f40)), (h_let, .inl (cy_let, 256, .inl f41)), (h_mm, .inr (8, (mo126 v_mm (.ref h_nv) (.ref h_nn) (.ref h_na) (.ref h_nb) (.ref h_nc) (.int z26) (.ref h_vrs) (.ref h_let) (.ref h_tap) (.int x_mm_taped) (.int z898) (.int z899) (.int z900) (.int z901) (.long z902) (.int z32) (.int z33) (.int z34) (.int z5) (.int x_mm_reading)))), (h_tap, .inl (cy_tap, 600, .inl f_tap))] := hD
        clear evq896 
        obtain ⟨k903, k904, k905, k906, k907, k908, k909, k910, k911, hq⟩ := hq
        replace k903 : 0 ≤ ((z898)).toInt ∧ ((z898)).toInt ≤ 600 := k903
        replace k904 : 0 ≤ ((z899)).toInt ∧ ((z899)).toInt ≤ 600 := k904
        replace k905 : 0 ≤ ((z900)).toInt ∧ ((z900)).toInt ≤ 4 := k905
        replace k906 : ((z899)).toInt ≤ ((z898)).toInt := k906
        replace k907 : ((z900)).toInt = kd (tkT (G) ((x_mm_taped)).toInt ((z899)).toInt) := k907
        replace k908 : ((z900)).toInt = 0 ∨ (((z898)).toInt = tkX (G) ((x_mm_taped)).toInt ((z899)).toInt ∧ ((z901)).toInt = (G) ((z899)).toInt ∧ ((z899)).toInt < ((x_mm_taped)).toInt ∧ ((z899)).toInt + 1 ≤ ((z898)).toInt) := k908
        replace k909 : ((z898)).toInt ≤ ((x_mm_taped)).toInt := k909
        replace k910 : ((z899)).toInt ≤ ((x_mm_taped)).toInt := k910
        replace k911 : NMK ((z900)).toInt ((z902)).toInt (NMI 27 (G) ((x_mm_taped)).toInt ((z899)).toInt) := k911
        rcases hq with ⟨rfl, hq⟩ | ⟨rfl, hq⟩ | ⟨rfl, hq⟩
        · replace hq : (((z32)).toInt = 0) ∧ (tkT (G) ((x_mm_taped)).toInt ((z28)).toInt = ((44 : Int32)).toInt) ∧ (((z899)).toInt = tkN (G) ((x_mm_taped)).toInt ((z28)).toInt) ∧ (((z27)).toInt ≤ ((z899)).toInt) ∧ (((z28)).toInt + 1 ≤ ((z899)).toInt) := hq
          exact False.elim (by omega)
        · replace hq : (((z899)).toInt = ((z28)).toInt) ∧ (((z898)).toInt = ((z27)).toInt) ∧ (((z900)).toInt = ((z29)).toInt) ∧ (((z32)).toInt = 1) := hq
          clear k60
          have no9 := pLo_no (G := G) (n := (x_mm_taped).toInt) (P := (pPs G (x_mm_taped).toInt d9)) (r := 2) (q := (x_mm_place).toInt) (nv := nv) (vf := vf) (by rw [← erh72]; omega)
          rw [← erh72] at no9
          have rq9 : (pPs G (x_mm_taped).toInt dd (x_mm_place).toInt nv vf) = rh72 := lo0.symm.trans no9
          have pq9121 : ((pPs G (x_mm_taped).toInt dd (x_mm_place).toInt nv vf)).1 = (rh72).1 := by rw [rq9]
          have pq9122 : ((pPs G (x_mm_taped).toInt dd (x_mm_place).toInt nv vf)).2.1 = (rh72).2.1 := by rw [rq9]
          have pq9123 : ((pPs G (x_mm_taped).toInt dd (x_mm_place).toInt nv vf)).2.2.1 = (rh72).2.2.1 := by rw [rq9]
          have pq9124 : ((pPs G (x_mm_taped).toInt dd (x_mm_place).toInt nv vf)).2.2.2 = (rh72).2.2.2 := by rw [rq9]
          refine lv_if_eq (tgt := 119) hx hb dX11_readsParts_62 (by decide) (fun _ => ?_) (fun c9 => absurd c9 (by decide))
          refine lv_aload_n hx hb dX11_readsParts_119 rfl (lv_at hl 0 rfl) ?_
          refine lv_bipush (v := 41) hx hb dX11_readsParts_120 (by decide) ?_
          obtain ⟨vq913, evq913⟩ := mq126_92 v_mm (.ref h_nv) (.ref h_nn) (.ref h_na) (.ref h_nb) (.ref h_nc) (.int z26) (.ref h_vrs) (.ref h_let) (.int z33) (.int z34) (.int z5) (.int x_mm_reading)
          replace hP : va_P (dC, dI) cls [(h_nv, .inl (cy_nv, 8000, .inl f35)), (h_nn, .inl (cy_nn, 8000, .inr (.inl f36))), (h_na, .inl (cy_na, 8000, .inl f892)), (h_nb, .inl (cy_nb, 8000, .inl f38)), (h_nc, .inl (cy_nc, 8000, .inl f39)), (h_vrs, .inl (cy_vrs, 32, .inl f40)), (h_let, .inl (cy_let, 256, .inl f41)), (h_mm, .inr (8, (mo92 vq913 (.ref h_tap) (.int x_mm_taped) (.int z898) (.int z899) (.int z900) (.int z901) (.long z902) (.int z32)))), (h_tap, .inl (cy_tap, 600, .inl f_tap))] H := by rw [evq913]; exact hP
          replace hD : va_D A [(h_nv, .inl (cy_nv, 8000, .inl f35)), (h_nn, .inl (cy_nn, 8000, .inr (.inl f36))), (h_na, .inl (cy_na, 8000, .inl f892)), (h_nb, .inl (cy_nb, 8000, .inl f38)), (h_nc, .inl (cy_nc, 8000, .inl f39)), (h_vrs, .inl (cy_vrs, 32, .inl f40)), (h_let, .inl (cy_let, 256, .inl f41)), (h_mm, .inr (8, (mo92 vq913 (.ref h_tap) (.int x_mm_taped) (.int z898) (.int z899) (.int z900) (.int z901) (.long z902) (.int z32)))), (h_tap, .inl (cy_tap, 600, .inl f_tap))] := by rw [evq913]; exact hD
          have cst41 : (41 : Int32).toInt = 41 := by decide
          have hPc := hP.sub (ws' := [(h_mm, .inr (8, (mo92 vq913 (.ref h_tap) (.int x_mm_taped) (.int z898) (.int z899) (.int z900) (.int z901) (.long z902) (.int z32)))), (h_tap, .inl (cy_tap, 600, .inl f_tap))]) [7, 8] rfl
          have hDc := hD.sub (ws' := [(h_mm, .inr (8, (mo92 vq913 (.ref h_tap) (.int x_mm_taped) (.int z898) (.int z899) (.int z900) (.int z901) (.long z902) (.int z32)))), (h_tap, .inl (cy_tap, 600, .inl f_tap))]) [7, 8] (by decide) rfl
          have hKc := hK.sub (tys' := [(cy_tap, .byte)]) [0] rfl
          have hFc := va_free (wc := [(h_mm, .inr (8, (mo92 vq913 (.ref h_tap) (.int x_mm_taped) (.int z898) (.int z899) (.int z900) (.int z901) (.long z902) (.int z32)))), (h_tap, .inl (cy_tap, 600, .inl f_tap))]) hD hS hA [7, 8] rfl
          refine va_calli (va_runV (As := [.int 41]) (rest := []) ⟨hx, hb, hml, hown, hts⟩ (c_X11_passes l dC dI H.size h_mm h_tap vq913 x_mm_taped z898 z899 z900 z901 z902 z32 cy_tap f_tap 41 G (by first | exact hx_mm_taped | omega) (by first | exact k903 | omega) (by first | exact k904 | omega) (by first | exact k905 | omega) (by first | exact k47 | omega) (by first | exact k906 | omega) (by omega) (by omega) (by first | exact k907 | omega) (by first | exact k908 | omega) (by first | exact k909 | omega) (by first | exact k910 | omega) hn_tapq k911) (cwV 1 hts (gv hT w_m_X11_136 w_instanceMethod_X11_passes ws_sel_X11_passes w_ini_X11 w_code_X11_passes) rfl rfl rfl (by decide +kernel) ⟨(by dsimp only [headSpec]; omega), (by dsimp only [headSpec]; omega)⟩) ⟨pre_blind, va_recv hK hP (ci := 8) (q0 := 7) rfl rfl, pre_of hPc hKc hDc hN⟩ rfl rfl hl.1 rfl (lv_room (Nat.le_of_ble_eq_true rfl)) dX11_readsParts_122 ⟨(Nat.le_of_ble_eq_true rfl), (Nat.le_of_ble_eq_true rfl)⟩) hS (fun q _ h => hFc q h) hFc (fun r914 u t H locs ht hvm hq hB hz1 hk1 hS9 => ?_)
          obtain ⟨z915, z916, z917, z918, z919⟩ := u
          obtain ⟨hP1, hD1⟩ := hB
          rw [ht] at hP1
          obtain ⟨hP9, hD9⟩ := va_join (wr := [(h_nv, .inl (cy_nv, 8000, .inl f35)), (h_nn, .inl (cy_nn, 8000, .inr (.inl f36))), (h_na, .inl (cy_na, 8000, .inl f892)), (h_nb, .inl (cy_nb, 8000, .inl f38)), (h_nc, .inl (cy_nc, 8000, .inl f39)), (h_vrs, .inl (cy_vrs, 32, .inl f40)), (h_let, .inl (cy_let, 256, .inl f41))]) (w1 := [(h_mm, .inr (8, (mo92 vq913 (.ref h_tap) (.int x_mm_taped) (.int z915) (.int z916) (.int z917) (.int z918) (.long z919) (.int z32)))), (h_tap, .inl (cy_tap, 600, .inl f_tap))]) hP hD [7, 8] [0, 1, 2, 3, 4, 5, 6] rfl rfl (by decide) (by decide) hk1 hFc hP1 hD1
          clear hP hD hS hPc hDc hKc hFc hP1 hD1 hk1 hz1 ht hvm
          have hP : va_P (dC, dI) cls [(h_nv, .inl (cy_nv, 8000, .inl f35)), (h_nn, .inl (cy_nn, 8000, .inr (.inl f36))), (h_na, .inl (cy_na, 8000, .inl f892)), (h_nb, .inl (cy_nb, 8000, .inl f38)), (h_nc, .inl (cy_nc, 8000, .inl f39)), (h_vrs, .inl (cy_vrs, 32, .inl f40)), (h_let, .inl (cy_let, 256, .inl f41)), (h_mm, .inr (8, (mo92 vq913 (.ref h_tap) (.int x_mm_taped) (.int z915) (.int z916) (.int z917) (.int z918) (.long z919) (.int z32)))), (h_tap, .inl (cy_tap, 600, .inl f_tap))] H := hP9
          have hD : va_D A [(h_nv, .inl (cy_nv, 8000, .inl f35)), (h_nn, .inl (cy_nn, 8000, .inr (.inl f36))), (h_na, .inl (cy_na, 8000, .inl f892)), (h_nb, .inl (cy_nb, 8000, .inl f38)), (h_nc, .inl (cy_nc, 8000, .inl f39)), (h_vrs, .inl (cy_vrs, 32, .inl f40)), (h_let, .inl (cy_let, 256, .inl f41)), (h_mm, .inr (8, (mo92 vq913 (.ref h_tap) (.int x_mm_taped) (.int z915) (.int z916) (.int z917) (.int z918) (.long z919) (.int z32)))), (h_tap, .inl (cy_tap, 600, .inl f_tap))] := hD9
          have hS := hS9
          clear hP9 hD9 hS9
          rw [evq913] at hP hD
          replace hP : va_P (dC, dI) cls [(h_nv, .inl (cy_nv, 8000, .inl f35)), (h_nn, .inl (cy_nn, 8000, .inr (.inl f36))), (h_na, .inl (cy_na, 8000, .inl f892)), (h_nb, .inl (cy_nb, 8000, .inl f38)), (h_nc, .inl (cy_nc, 8000, .inl f39)), (h_vrs, .inl (cy_vrs, 32, .inl f40)), (h_let, .inl (cy_let, 256, .inl f41)), (h_mm, .inr (8, (mo126 v_mm (.ref h_nv) (.ref h_nn) (.ref h_na) (.ref h_nb) (.ref h_nc) (.int z26) (.ref h_vrs) (.ref h_let) (.ref h_tap) (.int x_mm_taped) (.int z915) (.int z916) (.int z917) (.int z918) (.long z919) (.int z32) (.int z33) (.int z34) (.int z5) (.int x_mm_reading)))), (h_tap, .inl (cy_tap, 600, .inl f_tap))] H := hP
          replace hD : va_D A [(h_nv, .inl (cy_nv, 8000, .inl f35)), (h_nn, .inl (cy_nn, 8000, .inr (.inl f36))), (h_na, .inl (cy_na, 8000, .inl f892)), (h_nb, .inl (cy_nb, 8000, .inl f38)), (h_nc, .inl (cy_nc, 8000, .inl f39)), (h_vrs, .inl (cy_vrs, 32, .inl f40)), (h_let, .inl (cy_let, 256, .inl f41)), (h_mm, .inr (8, (mo126 v_mm (.ref h_nv) (.ref h_nn) (.ref h_na) (.ref h_nb) (.ref h_nc) (.int z26) (.ref h_vrs) (.ref h_let) (.ref h_tap) (.int x_mm_taped) (.int z915) (.int z916) (.int z917) (.int z918) (.long z919) (.int z32) (.int z33) (.int z34) (.int z5) (.int x_mm_reading)))), (h_tap, .inl (cy_tap, 600, .inl f_tap))] := hD
          clear evq913 
          obtain ⟨k920, k921, k922, k923, k924, k925, k926, k927, k928, hq⟩ := hq
          replace k920 : 0 ≤ ((z915)).toInt ∧ ((z915)).toInt ≤ 600 := k920
          replace k921 : 0 ≤ ((z916)).toInt ∧ ((z916)).toInt ≤ 600 := k921
          replace k922 : 0 ≤ ((z917)).toInt ∧ ((z917)).toInt ≤ 4 := k922
          replace k923 : ((z916)).toInt ≤ ((z915)).toInt := k923
          replace k924 : ((z917)).toInt = kd (tkT (G) ((x_mm_taped)).toInt ((z916)).toInt) := k924
          replace k925 : ((z917)).toInt = 0 ∨ (((z915)).toInt = tkX (G) ((x_mm_taped)).toInt ((z916)).toInt ∧ ((z918)).toInt = (G) ((z916)).toInt ∧ ((z916)).toInt < ((x_mm_taped)).toInt ∧ ((z916)).toInt + 1 ≤ ((z915)).toInt) := k925
          replace k926 : ((z915)).toInt ≤ ((x_mm_taped)).toInt := k926
          replace k927 : ((z916)).toInt ≤ ((x_mm_taped)).toInt := k927
          replace k928 : NMK ((z917)).toInt ((z919)).toInt (NMI 27 (G) ((x_mm_taped)).toInt ((z916)).toInt) := k928
          rcases hq with ⟨rfl, hq⟩ | ⟨rfl, hq⟩ | ⟨rfl, hq⟩
          · replace hq : (((z32)).toInt = 0) ∧ (tkT (G) ((x_mm_taped)).toInt ((z899)).toInt = ((41 : Int32)).toInt) ∧ (((z916)).toInt = tkN (G) ((x_mm_taped)).toInt ((z899)).toInt) ∧ (((z898)).toInt ≤ ((z916)).toInt) ∧ (((z899)).toInt + 1 ≤ ((z916)).toInt) := hq
            exact False.elim (by omega)
          · replace hq : (((z916)).toInt = ((z899)).toInt) ∧ (((z915)).toInt = ((z898)).toInt) ∧ (((z917)).toInt = ((z900)).toInt) ∧ (((z32)).toInt = 1) := hq
            refine lv_if_ne (tgt := 133) hx hb dX11_readsParts_125 (by decide) (fun c9 => absurd c9 (by decide)) (fun _ => ?_)
            refine lv_aload_n hx hb dX11_readsParts_128 rfl (lv_at hl 0 rfl) ?_
            refine lv_iconst (v := 1) hx hb dX11_readsParts_129 (by decide) ?_
            obtain ⟨vq929, evq929⟩ := mq126_90 v_mm (.ref h_nv) (.ref h_nn) (.ref h_na) (.ref h_nb) (.ref h_nc) (.int z26) (.ref h_vrs) (.ref h_let) (.ref h_tap) (.int x_mm_taped) (.int z915) (.int z917) (.int z918) (.long z919) (.int z5) (.int x_mm_reading)
            replace hP : va_P (dC, dI) cls [(h_nv, .inl (cy_nv, 8000, .inl f35)), (h_nn, .inl (cy_nn, 8000, .inr (.inl f36))), (h_na, .inl (cy_na, 8000, .inl f892)), (h_nb, .inl (cy_nb, 8000, .inl f38)), (h_nc, .inl (cy_nc, 8000, .inl f39)), (h_vrs, .inl (cy_vrs, 32, .inl f40)), (h_let, .inl (cy_let, 256, .inl f41)), (h_mm, .inr (8, (mo90 vq929 (.int z916) (.int z32) (.int z33) (.int z34)))), (h_tap, .inl (cy_tap, 600, .inl f_tap))] H := by rw [evq929]; exact hP
            replace hD : va_D A [(h_nv, .inl (cy_nv, 8000, .inl f35)), (h_nn, .inl (cy_nn, 8000, .inr (.inl f36))), (h_na, .inl (cy_na, 8000, .inl f892)), (h_nb, .inl (cy_nb, 8000, .inl f38)), (h_nc, .inl (cy_nc, 8000, .inl f39)), (h_vrs, .inl (cy_vrs, 32, .inl f40)), (h_let, .inl (cy_let, 256, .inl f41)), (h_mm, .inr (8, (mo90 vq929 (.int z916) (.int z32) (.int z33) (.int z34)))), (h_tap, .inl (cy_tap, 600, .inl f_tap))] := by rw [evq929]; exact hD
            have cst1 : (1 : Int32).toInt = 1 := by decide
            have hPc := hP.sub (ws' := [(h_mm, .inr (8, (mo90 vq929 (.int z916) (.int z32) (.int z33) (.int z34))))]) [7] rfl
            have hDc := hD.sub (ws' := [(h_mm, .inr (8, (mo90 vq929 (.int z916) (.int z32) (.int z33) (.int z34))))]) [7] (by decide) rfl
            have hKc := hK.sub (tys' := []) [] rfl
            have hFc := va_free (wc := [(h_mm, .inr (8, (mo90 vq929 (.int z916) (.int z32) (.int z33) (.int z34))))]) hD hS hA [7] rfl
            refine va_callv (va_runV (As := [.int 1]) (rest := []) ⟨hx, hb, hml, hown, hts⟩ (c_X11_faulty l dC dI H.size h_mm vq929 z916 z32 z33 z34 1 (by first | exact k921 | omega) (by first | exact k47 | omega)) (cwV 1 hts (gv hT w_m_X11_111 w_instanceMethod_X11_faulty ws_sel_X11_faulty w_ini_X11 w_code_X11_faulty) rfl rfl rfl (by decide +kernel) ⟨(by dsimp only [headSpec]; omega), (by dsimp only [headSpec]; omega)⟩) ⟨pre_blind, va_recv hK hP (ci := 8) (q0 := 7) rfl rfl, pre_of hPc hKc hDc hN⟩ rfl rfl hl.1 rfl (lv_room (Nat.le_of_ble_eq_true rfl)) dX11_readsParts_130 ⟨(Nat.le_of_ble_eq_true rfl), (Nat.le_of_ble_eq_true rfl)⟩) hS (fun q _ h => hFc q h) hFc (fun u t H locs ht hvm hq hB hz1 hk1 hS9 => ?_)
            obtain ⟨z931, z932, z933⟩ := u
            obtain ⟨hP1, hD1⟩ := hB
            rw [ht] at hP1
            obtain ⟨hP9, hD9⟩ := va_join (wr := [(h_nv, .inl (cy_nv, 8000, .inl f35)), (h_nn, .inl (cy_nn, 8000, .inr (.inl f36))), (h_na, .inl (cy_na, 8000, .inl f892)), (h_nb, .inl (cy_nb, 8000, .inl f38)), (h_nc, .inl (cy_nc, 8000, .inl f39)), (h_vrs, .inl (cy_vrs, 32, .inl f40)), (h_let, .inl (cy_let, 256, .inl f41)), (h_tap, .inl (cy_tap, 600, .inl f_tap))]) (w1 := [(h_mm, .inr (8, (mo90 vq929 (.int z916) (.int z931) (.int z932) (.int z933))))]) hP hD [7] [0, 1, 2, 3, 4, 5, 6, 8] rfl rfl (by decide) (by decide) hk1 hFc hP1 hD1
            clear hP hD hS hPc hDc hKc hFc hP1 hD1 hk1 hz1 ht hvm
            have hP : va_P (dC, dI) cls [(h_nv, .inl (cy_nv, 8000, .inl f35)), (h_nn, .inl (cy_nn, 8000, .inr (.inl f36))), (h_na, .inl (cy_na, 8000, .inl f892)), (h_nb, .inl (cy_nb, 8000, .inl f38)), (h_nc, .inl (cy_nc, 8000, .inl f39)), (h_vrs, .inl (cy_vrs, 32, .inl f40)), (h_let, .inl (cy_let, 256, .inl f41)), (h_tap, .inl (cy_tap, 600, .inl f_tap)), (h_mm, .inr (8, (mo90 vq929 (.int z916) (.int z931) (.int z932) (.int z933))))] H := hP9
            have hD : va_D A [(h_nv, .inl (cy_nv, 8000, .inl f35)), (h_nn, .inl (cy_nn, 8000, .inr (.inl f36))), (h_na, .inl (cy_na, 8000, .inl f892)), (h_nb, .inl (cy_nb, 8000, .inl f38)), (h_nc, .inl (cy_nc, 8000, .inl f39)), (h_vrs, .inl (cy_vrs, 32, .inl f40)), (h_let, .inl (cy_let, 256, .inl f41)), (h_tap, .inl (cy_tap, 600, .inl f_tap)), (h_mm, .inr (8, (mo90 vq929 (.int z916) (.int z931) (.int z932) (.int z933))))] := hD9
            have hS := hS9
            clear hP9 hD9 hS9
            rw [evq929] at hP hD
            replace hP : va_P (dC, dI) cls [(h_nv, .inl (cy_nv, 8000, .inl f35)), (h_nn, .inl (cy_nn, 8000, .inr (.inl f36))), (h_na, .inl (cy_na, 8000, .inl f892)), (h_nb, .inl (cy_nb, 8000, .inl f38)), (h_nc, .inl (cy_nc, 8000, .inl f39)), (h_vrs, .inl (cy_vrs, 32, .inl f40)), (h_let, .inl (cy_let, 256, .inl f41)), (h_tap, .inl (cy_tap, 600, .inl f_tap)), (h_mm, .inr (8, (mo126 v_mm (.ref h_nv) (.ref h_nn) (.ref h_na) (.ref h_nb) (.ref h_nc) (.int z26) (.ref h_vrs) (.ref h_let) (.ref h_tap) (.int x_mm_taped) (.int z915) (.int z916) (.int z917) (.int z918) (.long z919) (.int z931) (.int z932) (.int z933) (.int z5) (.int x_mm_reading))))] H := hP
            replace hD : va_D A [(h_nv, .inl (cy_nv, 8000, .inl f35)), (h_nn, .inl (cy_nn, 8000, .inr (.inl f36))), (h_na, .inl (cy_na, 8000, .inl f892)), (h_nb, .inl (cy_nb, 8000, .inl f38)), (h_nc, .inl (cy_nc, 8000, .inl f39)), (h_vrs, .inl (cy_vrs, 32, .inl f40)), (h_let, .inl (cy_let, 256, .inl f41)), (h_tap, .inl (cy_tap, 600, .inl f_tap)), (h_mm, .inr (8, (mo126 v_mm (.ref h_nv) (.ref h_nn) (.ref h_na) (.ref h_nb) (.ref h_nc) (.int z26) (.ref h_vrs) (.ref h_let) (.ref h_tap) (.int x_mm_taped) (.int z915) (.int z916) (.int z917) (.int z918) (.long z919) (.int z931) (.int z932) (.int z933) (.int z5) (.int x_mm_reading))))] := hD
            clear evq929 
            obtain ⟨k934, k935, k936⟩ := hq
            replace k934 : 0 ≤ ((z931)).toInt ∧ ((z931)).toInt ≤ 1 := k934
            replace k935 : ((z931)).toInt = 1 := k935
            replace k936 : (((z32)).toInt = 1 ∧ ((z932)).toInt = ((z33)).toInt ∧ ((z933)).toInt = ((z34)).toInt) ∨ (((z32)).toInt = 0 ∧ ((z932)).toInt = ((1 : Int32)).toInt ∧ ((z933)).toInt = ((z916)).toInt) := k936
            refine lv_aload_n hx hb dX11_readsParts_133 rfl (lv_at hl 0 rfl) ?_
            refine lv_aload_n hx hb dX11_readsParts_134 rfl (lv_at hl 0 rfl) ?_
            refine va_get (D := (dC, dI)) (ci := 8) (v := .int z5) (C := RX11) (T := TX11) (N := 71) hx hb hw iwX11 hown hK hP 8 rfl rfl 23 (by decide) (hw _ w_f_X11_130) (fun _ h9 => h9) rfl dX11_readsParts_135 ?_
            refine lv_iconst (v := 1) hx hb dX11_readsParts_138 (by decide) ?_
            refine lv_isub hx hb dX11_readsParts_139 ?_
            refine lv_topi (fun z937 ez937 => ?_)
            have tz937 : (z937).toInt = (z5).toInt - 1 := by rw [ez937]; exact i_sub rfl (by decide) (by omega)
            refine va_put (D := (dC, dI)) (ci := 8) (v := .int z937) (ty := tyX11 23) (C := RX11) (T := TX11) (N := 71) hx hb hw iwX11 tyX11 tyX11_ok nmX11 hown hK hP hD hS 8 rfl rfl 23 (by decide) (hw _ w_f_X11_130) (fun _ h9 => h9) rfl (tyX11_ok 23 (by decide)) rfl rfl (Nat.le_of_ble_eq_true rfl) dX11_readsParts_140 (fun H locs hP9 hD9 hS9 => ?_)
            clear hP hD hS
            have hP : va_P (dC, dI) cls [(h_nv, .inl (cy_nv, 8000, .inl f35)), (h_nn, .inl (cy_nn, 8000, .inr (.inl f36))), (h_na, .inl (cy_na, 8000, .inl f892)), (h_nb, .inl (cy_nb, 8000, .inl f38)), (h_nc, .inl (cy_nc, 8000, .inl f39)), (h_vrs, .inl (cy_vrs, 32, .inl f40)), (h_let, .inl (cy_let, 256, .inl f41)), (h_tap, .inl (cy_tap, 600, .inl f_tap)), (h_mm, .inr (8, (mo126 v_mm (.ref h_nv) (.ref h_nn) (.ref h_na) (.ref h_nb) (.ref h_nc) (.int z26) (.ref h_vrs) (.ref h_let) (.ref h_tap) (.int x_mm_taped) (.int z915) (.int z916) (.int z917) (.int z918) (.long z919) (.int z931) (.int z932) (.int z933) (.int z937) (.int x_mm_reading))))] H := hP9
            have hD : va_D A [(h_nv, .inl (cy_nv, 8000, .inl f35)), (h_nn, .inl (cy_nn, 8000, .inr (.inl f36))), (h_na, .inl (cy_na, 8000, .inl f892)), (h_nb, .inl (cy_nb, 8000, .inl f38)), (h_nc, .inl (cy_nc, 8000, .inl f39)), (h_vrs, .inl (cy_vrs, 32, .inl f40)), (h_let, .inl (cy_let, 256, .inl f41)), (h_tap, .inl (cy_tap, 600, .inl f_tap)), (h_mm, .inr (8, (mo126 v_mm (.ref h_nv) (.ref h_nn) (.ref h_na) (.ref h_nb) (.ref h_nc) (.int z26) (.ref h_vrs) (.ref h_let) (.ref h_tap) (.int x_mm_taped) (.int z915) (.int z916) (.int z917) (.int z918) (.long z919) (.int z931) (.int z932) (.int z933) (.int z937) (.int x_mm_reading))))] := hD9
            have hS := hS9
            clear hP9 hD9 hS9
            have oz9 : x_mm_opened = z937 := Int32.toInt_inj.mp (by omega)
            subst oz9
            replace hP : va_P (dC, dI) cls [(h_mm, .inr (8, (mo126 v_mm (.ref h_nv) (.ref h_nn) (.ref h_na) (.ref h_nb) (.ref h_nc) (.int z26) (.ref h_vrs) (.ref h_let) (.ref h_tap) (.int x_mm_taped) (.int z915) (.int z916) (.int z917) (.int z918) (.long z919) (.int z931) (.int z932) (.int z933) (.int x_mm_opened) (.int x_mm_reading)))), (h_tap, .inl (cy_tap, 600, .inl f_tap)), (h_nv, .inl (cy_nv, 8000, .inl f35)), (h_nn, .inl (cy_nn, 8000, .inr (.inl f36))), (h_na, .inl (cy_na, 8000, .inl f892)), (h_nb, .inl (cy_nb, 8000, .inl f38)), (h_nc, .inl (cy_nc, 8000, .inl f39)), (h_vrs, .inl (cy_vrs, 32, .inl f40)), (h_let, .inl (cy_let, 256, .inl f41))] H := hP.sub [8, 7, 0, 1, 2, 3, 4, 5, 6] rfl
            replace hD : va_D A [(h_mm, .inr (8, (mo126 v_mm (.ref h_nv) (.ref h_nn) (.ref h_na) (.ref h_nb) (.ref h_nc) (.int z26) (.ref h_vrs) (.ref h_let) (.ref h_tap) (.int x_mm_taped) (.int z915) (.int z916) (.int z917) (.int z918) (.long z919) (.int z931) (.int z932) (.int z933) (.int x_mm_opened) (.int x_mm_reading)))), (h_tap, .inl (cy_tap, 600, .inl f_tap)), (h_nv, .inl (cy_nv, 8000, .inl f35)), (h_nn, .inl (cy_nn, 8000, .inr (.inl f36))), (h_na, .inl (cy_na, 8000, .inl f892)), (h_nb, .inl (cy_nb, 8000, .inl f38)), (h_nc, .inl (cy_nc, 8000, .inl f39)), (h_vrs, .inl (cy_vrs, 32, .inl f40)), (h_let, .inl (cy_let, 256, .inl f41))] := hD.sub [8, 7, 0, 1, 2, 3, 4, 5, 6] (by decide) rfl
            refine W.widen (k := 0) (n := 0) (Nat.le_of_ble_eq_true rfl) (Nat.le_of_ble_eq_true rfl) ?_
            have w938 : 0 ≤ ((z26)).toInt ∧ ((z26)).toInt ≤ 1200 := by first | exact k43 | omega
            have w939 : 0 ≤ ((z915)).toInt ∧ ((z915)).toInt ≤ 600 := by first | exact k920 | omega
            have w940 : 0 ≤ ((z916)).toInt ∧ ((z916)).toInt ≤ 600 := by first | exact k921 | omega
            have w941 : 0 ≤ ((z917)).toInt ∧ ((z917)).toInt ≤ 4 := by first | exact k922 | omega
            have w942 : 0 ≤ ((z931)).toInt ∧ ((z931)).toInt ≤ 1 := by first | exact k934 | omega
            have w943 : ((z916)).toInt ≤ ((z915)).toInt := by first | exact k923 | omega
            have w944 : ((z931)).toInt = 1 ∨ ((z26)).toInt ≤ lo + ((z916)).toInt := by omega
            have w945 : (x_mm_nodes).toInt ≤ ((z26)).toInt := by first | exact k51 | omega
            have w946 : (x_mm_place).toInt ≤ ((z916)).toInt := by omega
            have w947 : (x_mm_isFaulty).toInt ≤ ((z931)).toInt := by omega
            have w948 : (((z931)).toInt = 0 ∧ ((pPs G (x_mm_taped).toInt dd (x_mm_place).toInt nv vf)).1 = 0 ∧ ((z932)).toInt = (x_mm_fault).toInt ∧ ((z933)).toInt = (x_mm_faultPlace).toInt) ∨ (((z931)).toInt = 1 ∧ ¬ ((pPs G (x_mm_taped).toInt dd (x_mm_place).toInt nv vf)).1 = 0 ∧ ((z932)).toInt = ((pPs G (x_mm_taped).toInt dd (x_mm_place).toInt nv vf)).1 ∧ ((z933)).toInt = ((pPs G (x_mm_taped).toInt dd (x_mm_place).toInt nv vf)).2.1) := by omega
            have w949 : ((z916)).toInt = ((pPs G (x_mm_taped).toInt dd (x_mm_place).toInt nv vf)).2.1 := by omega
            have w950 : 0 ≤ ((pPs G (x_mm_taped).toInt dd (x_mm_place).toInt nv vf)).2.2.1 ∧ ((pPs G (x_mm_taped).toInt dd (x_mm_place).toInt nv vf)).2.2.1 ≤ 8 := by omega
            have w951 : ((z917)).toInt = kd (tkT G (x_mm_taped).toInt ((z916)).toInt) := by first | exact k924 | omega
            have w952 : ((z917)).toInt = 0 ∨ (((z915)).toInt = tkX G (x_mm_taped).toInt ((z916)).toInt ∧ ((z918)).toInt = G ((z916)).toInt ∧ ((z916)).toInt < (x_mm_taped).toInt ∧ ((z916)).toInt + 1 ≤ ((z915)).toInt) := by first | exact k925 | omega
            have w953 : ((z915)).toInt ≤ (x_mm_taped).toInt := by first | exact k926 | omega
            have w954 : ((z916)).toInt ≤ (x_mm_taped).toInt := by first | exact k927 | omega
            have w955 : EQ0 lo za zb zc zv (f892) (f38) (f39) (f35) := nd894
            have w956 : ND lo ((z26)).toInt (gh42) (f892) (f38) (f39) := (nd_cast nd893 (by omega))
            have w957 : ∀ y : Nat, (y : Int) < (x_mm_nodes).toInt → (gh42) y = hh y := (fun y hy => (k65 y (by omega)).trans (rfl))
            have w958 : VRF (x_mm_reading).toInt f_vrs (f40) := vr75
            have w959 : ((f40) (Int32.toNatClampNeg x_mm_reading)).toInt = ((pPs G (x_mm_taped).toInt dd (x_mm_place).toInt nv vf)).2.2.1 := (k67.trans pq9123.symm)
            have w960 : VFM ((pPs G (x_mm_taped).toInt dd (x_mm_place).toInt nv vf)).2.2.1 ((pPs G (x_mm_taped).toInt dd (x_mm_place).toInt nv vf)).2.2.2 (f41) (x_mm_reading).toInt := (by rw [pq9123, pq9124]; exact k68)
            have w961 : NMK ((z917)).toInt ((z919)).toInt (NMI 27 G (x_mm_taped).toInt ((z916)).toInt) := k928
            have w962 : IFZ ((z931)).toInt (∃ L B : Nat, (L : Int) = (x_mm_nodes).toInt ∧ (B : Int) = ((z26)).toInt ∧ NMX G (x_mm_taped).toInt (RVW (f35) (f36) (f892) (f38) (f39)) (SPX G (x_mm_taped).toInt 27 (RVW (f35) (f36) (f892) (f38) (f39)) ((pPs G (x_mm_taped).toInt dd (x_mm_place).toInt nv vf)).2.2.1 ((pPs G (x_mm_taped).toInt dd (x_mm_place).toInt nv vf)).2.2.2 k0 L B dd) (Int32.toNatClampNeg p1) (x_mm_place).toInt ((z916)).toInt) := (ifz_no (by omega))
            have w963 : AGN (x_mm_nodes).toInt (p1).toInt f_nv (f35) f_nn (f36) f_na (f892) f_nb (f38) f_nc (f39) := an895
            exact W.vret hx hb hr (fun t ht hW => ⟨⟨(z26, z915, z916, z917, z918, z919, z931, z932, z933, f35, f36, f892, f38, f39, f40, f41, gh42), rfl, ⟨w938, w939, w940, w941, w942, hf35, hf892, hf38, hf39, hf40, w943, w944, w945, w946, w947, w948, w949, w950, w951, w952, w953, w954, w955, w956, w957, w958, w959, w960, w961, w962, w963⟩, by rw [ht]; exact hP, hD⟩, hS.F ht⟩) hS.2.2 dX11_readsParts_143
          · replace hq : (((z916)).toInt = ((z899)).toInt) ∧ (((z915)).toInt = ((z898)).toInt) ∧ (((z917)).toInt = ((z900)).toInt) ∧ (((z32)).toInt = 0) ∧ (¬ tkT (G) ((x_mm_taped)).toInt ((z899)).toInt = ((41 : Int32)).toInt) := hq
            exact False.elim (by omega)
        · replace hq : (((z899)).toInt = ((z28)).toInt) ∧ (((z898)).toInt = ((z27)).toInt) ∧ (((z900)).toInt = ((z29)).toInt) ∧ (((z32)).toInt = 0) ∧ (¬ tkT (G) ((x_mm_taped)).toInt ((z28)).toInt = ((44 : Int32)).toInt) := hq
          exact False.elim (by omega)
    · have kc3 := (cv_eq (rfl : (x_mm_opened).toInt = (x_mm_opened).toInt) (by decide : (6 : Int32).toInt = 6)).mp c3
      have pv9 : (pPs G (x_mm_taped).toInt dd (x_mm_place).toInt nv vf) = (2, (x_mm_place).toInt, nv, vf) := pPs_deep2 (by omega) yt9
      have pq9641 : ((pPs G (x_mm_taped).toInt dd (x_mm_place).toInt nv vf)).1 = 2 := by rw [pv9]
      have pq9642 : ((pPs G (x_mm_taped).toInt dd (x_mm_place).toInt nv vf)).2.1 = (x_mm_place).toInt := by rw [pv9]
      have pq9643 : ((pPs G (x_mm_taped).toInt dd (x_mm_place).toInt nv vf)).2.2.1 = nv := by rw [pv9]
      have pq9644 : ((pPs G (x_mm_taped).toInt dd (x_mm_place).toInt nv vf)).2.2.2 = vf := by rw [pv9]
      refine lv_aload_n hx hb dX11_readsParts_19 rfl (lv_at hl 0 rfl) ?_
      refine lv_iconst (v := 2) hx hb dX11_readsParts_20 (by decide) ?_
      obtain ⟨vq965, evq965⟩ := mq126_90 v_mm (.ref h_nv) (.ref h_nn) (.ref h_na) (.ref h_nb) (.ref h_nc) (.int x_mm_nodes) (.ref h_vrs) (.ref h_let) (.ref h_tap) (.int x_mm_taped) (.int x_mm_at) (.int x_mm_kind) (.int x_mm_sign) (.long x_mm_name) (.int x_mm_opened) (.int x_mm_reading)
      replace hP : va_P (dC, dI) cls [(h_tap, .inl (cy_tap, 600, .inl f_tap)), (h_nv, .inl (cy_nv, 8000, .inl f_nv)), (h_nn, .inl (cy_nn, 8000, .inr (.inl f_nn))), (h_na, .inl (cy_na, 8000, .inl f_na)), (h_nb, .inl (cy_nb, 8000, .inl f_nb)), (h_nc, .inl (cy_nc, 8000, .inl f_nc)), (h_vrs, .inl (cy_vrs, 32, .inl f_vrs)), (h_let, .inl (cy_let, 256, .inl f_let)), (h_mm, .inr (8, (mo90 vq965 (.int x_mm_place) (.int x_mm_isFaulty) (.int x_mm_fault) (.int x_mm_faultPlace))))] H := by rw [evq965]; exact hP
      replace hD : va_D A [(h_tap, .inl (cy_tap, 600, .inl f_tap)), (h_nv, .inl (cy_nv, 8000, .inl f_nv)), (h_nn, .inl (cy_nn, 8000, .inr (.inl f_nn))), (h_na, .inl (cy_na, 8000, .inl f_na)), (h_nb, .inl (cy_nb, 8000, .inl f_nb)), (h_nc, .inl (cy_nc, 8000, .inl f_nc)), (h_vrs, .inl (cy_vrs, 32, .inl f_vrs)), (h_let, .inl (cy_let, 256, .inl f_let)), (h_mm, .inr (8, (mo90 vq965 (.int x_mm_place) (.int x_mm_isFaulty) (.int x_mm_fault) (.int x_mm_faultPlace))))] := by rw [evq965]; exact hD
      have cst2 : (2 : Int32).toInt = 2 := by decide
      have hPc := hP.sub (ws' := [(h_mm, .inr (8, (mo90 vq965 (.int x_mm_place) (.int x_mm_isFaulty) (.int x_mm_fault) (.int x_mm_faultPlace))))]) [8] rfl
      have hDc := hD.sub (ws' := [(h_mm, .inr (8, (mo90 vq965 (.int x_mm_place) (.int x_mm_isFaulty) (.int x_mm_fault) (.int x_mm_faultPlace))))]) [8] (by decide) rfl
      have hKc := hK.sub (tys' := []) [] rfl
      have hFc := va_free (wc := [(h_mm, .inr (8, (mo90 vq965 (.int x_mm_place) (.int x_mm_isFaulty) (.int x_mm_fault) (.int x_mm_faultPlace))))]) hD hS hA [8] rfl
      refine va_callv (va_runV (As := [.int 2]) (rest := []) ⟨hx, hb, hml, hown, hts⟩ (c_X11_faulty l dC dI H.size h_mm vq965 x_mm_place x_mm_isFaulty x_mm_fault x_mm_faultPlace 2 (by first | exact hx_mm_place | omega) (by first | exact hx_mm_isFaulty | omega)) (cwV 1 hts (gv hT w_m_X11_111 w_instanceMethod_X11_faulty ws_sel_X11_faulty w_ini_X11 w_code_X11_faulty) rfl rfl rfl (by decide +kernel) ⟨(by dsimp only [headSpec]; omega), (by dsimp only [headSpec]; omega)⟩) ⟨pre_blind, va_recv hK hP (ci := 8) (q0 := 8) rfl rfl, pre_of hPc hKc hDc hN⟩ rfl rfl hl.1 rfl (lv_room (Nat.le_of_ble_eq_true rfl)) dX11_readsParts_21 ⟨(Nat.le_of_ble_eq_true rfl), (Nat.le_of_ble_eq_true rfl)⟩) hS (fun q _ h => hFc q h) hFc (fun u t H locs ht hvm hq hB hz1 hk1 hS9 => ?_)
      obtain ⟨z967, z968, z969⟩ := u
      obtain ⟨hP1, hD1⟩ := hB
      rw [ht] at hP1
      obtain ⟨hP9, hD9⟩ := va_join (wr := [(h_tap, .inl (cy_tap, 600, .inl f_tap)), (h_nv, .inl (cy_nv, 8000, .inl f_nv)), (h_nn, .inl (cy_nn, 8000, .inr (.inl f_nn))), (h_na, .inl (cy_na, 8000, .inl f_na)), (h_nb, .inl (cy_nb, 8000, .inl f_nb)), (h_nc, .inl (cy_nc, 8000, .inl f_nc)), (h_vrs, .inl (cy_vrs, 32, .inl f_vrs)), (h_let, .inl (cy_let, 256, .inl f_let))]) (w1 := [(h_mm, .inr (8, (mo90 vq965 (.int x_mm_place) (.int z967) (.int z968) (.int z969))))]) hP hD [8] [0, 1, 2, 3, 4, 5, 6, 7] rfl rfl (by decide) (by decide) hk1 hFc hP1 hD1
      clear hP hD hS hPc hDc hKc hFc hP1 hD1 hk1 hz1 ht hvm
      have hP : va_P (dC, dI) cls [(h_tap, .inl (cy_tap, 600, .inl f_tap)), (h_nv, .inl (cy_nv, 8000, .inl f_nv)), (h_nn, .inl (cy_nn, 8000, .inr (.inl f_nn))), (h_na, .inl (cy_na, 8000, .inl f_na)), (h_nb, .inl (cy_nb, 8000, .inl f_nb)), (h_nc, .inl (cy_nc, 8000, .inl f_nc)), (h_vrs, .inl (cy_vrs, 32, .inl f_vrs)), (h_let, .inl (cy_let, 256, .inl f_let)), (h_mm, .inr (8, (mo90 vq965 (.int x_mm_place) (.int z967) (.int z968) (.int z969))))] H := hP9
      have hD : va_D A [(h_tap, .inl (cy_tap, 600, .inl f_tap)), (h_nv, .inl (cy_nv, 8000, .inl f_nv)), (h_nn, .inl (cy_nn, 8000, .inr (.inl f_nn))), (h_na, .inl (cy_na, 8000, .inl f_na)), (h_nb, .inl (cy_nb, 8000, .inl f_nb)), (h_nc, .inl (cy_nc, 8000, .inl f_nc)), (h_vrs, .inl (cy_vrs, 32, .inl f_vrs)), (h_let, .inl (cy_let, 256, .inl f_let)), (h_mm, .inr (8, (mo90 vq965 (.int x_mm_place) (.int z967) (.int z968) (.int z969))))] := hD9
      have hS := hS9
      clear hP9 hD9 hS9
      rw [evq965] at hP hD
      replace hP : va_P (dC, dI) cls [(h_tap, .inl (cy_tap, 600, .inl f_tap)), (h_nv, .inl (cy_nv, 8000, .inl f_nv)), (h_nn, .inl (cy_nn, 8000, .inr (.inl f_nn))), (h_na, .inl (cy_na, 8000, .inl f_na)), (h_nb, .inl (cy_nb, 8000, .inl f_nb)), (h_nc, .inl (cy_nc, 8000, .inl f_nc)), (h_vrs, .inl (cy_vrs, 32, .inl f_vrs)), (h_let, .inl (cy_let, 256, .inl f_let)), (h_mm, .inr (8, (mo126 v_mm (.ref h_nv) (.ref h_nn) (.ref h_na) (.ref h_nb) (.ref h_nc) (.int x_mm_nodes) (.ref h_vrs) (.ref h_let) (.ref h_tap) (.int x_mm_taped) (.int x_mm_at) (.int x_mm_place) (.int x_mm_kind) (.int x_mm_sign) (.long x_mm_name) (.int z967) (.int z968) (.int z969) (.int x_mm_opened) (.int x_mm_reading))))] H := hP
      replace hD : va_D A [(h_tap, .inl (cy_tap, 600, .inl f_tap)), (h_nv, .inl (cy_nv, 8000, .inl f_nv)), (h_nn, .inl (cy_nn, 8000, .inr (.inl f_nn))), (h_na, .inl (cy_na, 8000, .inl f_na)), (h_nb, .inl (cy_nb, 8000, .inl f_nb)), (h_nc, .inl (cy_nc, 8000, .inl f_nc)), (h_vrs, .inl (cy_vrs, 32, .inl f_vrs)), (h_let, .inl (cy_let, 256, .inl f_let)), (h_mm, .inr (8, (mo126 v_mm (.ref h_nv) (.ref h_nn) (.ref h_na) (.ref h_nb) (.ref h_nc) (.int x_mm_nodes) (.ref h_vrs) (.ref h_let) (.ref h_tap) (.int x_mm_taped) (.int x_mm_at) (.int x_mm_place) (.int x_mm_kind) (.int x_mm_sign) (.long x_mm_name) (.int z967) (.int z968) (.int z969) (.int x_mm_opened) (.int x_mm_reading))))] := hD
      clear evq965 
      obtain ⟨k970, k971, k972⟩ := hq
      replace k970 : 0 ≤ ((z967)).toInt ∧ ((z967)).toInt ≤ 1 := k970
      replace k971 : ((z967)).toInt = 1 := k971
      replace k972 : (((x_mm_isFaulty)).toInt = 1 ∧ ((z968)).toInt = ((x_mm_fault)).toInt ∧ ((z969)).toInt = ((x_mm_faultPlace)).toInt) ∨ (((x_mm_isFaulty)).toInt = 0 ∧ ((z968)).toInt = ((2 : Int32)).toInt ∧ ((z969)).toInt = ((x_mm_place)).toInt) := k972
      refine lv_aload_n hx hb dX11_readsParts_24 rfl (lv_at hl 0 rfl) ?_
      refine va_get (D := (dC, dI)) (ci := 8) (v := .int z967) (C := RX11) (T := TX11) (N := 71) hx hb hw iwX11 hown hK hP 8 rfl rfl 20 (by decide) (hw _ w_f_X11_61) (fun _ h9 => h9) rfl dX11_readsParts_25 ?_
      refine lv_if_eq (tgt := 32) hx hb dX11_readsParts_28 (by decide) (fun c973 => False.elim (by have kc973 := (cv_eq (rfl : (z967).toInt = (z967).toInt) (by decide : (0 : Int32).toInt = 0)).mp c973; omega)) (fun _ => ?_)
      replace hP : va_P (dC, dI) cls [(h_mm, .inr (8, (mo126 v_mm (.ref h_nv) (.ref h_nn) (.ref h_na) (.ref h_nb) (.ref h_nc) (.int x_mm_nodes) (.ref h_vrs) (.ref h_let) (.ref h_tap) (.int x_mm_taped) (.int x_mm_at) (.int x_mm_place) (.int x_mm_kind) (.int x_mm_sign) (.long x_mm_name) (.int z967) (.int z968) (.int z969) (.int x_mm_opened) (.int x_mm_reading)))), (h_tap, .inl (cy_tap, 600, .inl f_tap)), (h_nv, .inl (cy_nv, 8000, .inl f_nv)), (h_nn, .inl (cy_nn, 8000, .inr (.inl f_nn))), (h_na, .inl (cy_na, 8000, .inl f_na)), (h_nb, .inl (cy_nb, 8000, .inl f_nb)), (h_nc, .inl (cy_nc, 8000, .inl f_nc)), (h_vrs, .inl (cy_vrs, 32, .inl f_vrs)), (h_let, .inl (cy_let, 256, .inl f_let))] H := hP.sub [8, 0, 1, 2, 3, 4, 5, 6, 7] rfl
      replace hD : va_D A [(h_mm, .inr (8, (mo126 v_mm (.ref h_nv) (.ref h_nn) (.ref h_na) (.ref h_nb) (.ref h_nc) (.int x_mm_nodes) (.ref h_vrs) (.ref h_let) (.ref h_tap) (.int x_mm_taped) (.int x_mm_at) (.int x_mm_place) (.int x_mm_kind) (.int x_mm_sign) (.long x_mm_name) (.int z967) (.int z968) (.int z969) (.int x_mm_opened) (.int x_mm_reading)))), (h_tap, .inl (cy_tap, 600, .inl f_tap)), (h_nv, .inl (cy_nv, 8000, .inl f_nv)), (h_nn, .inl (cy_nn, 8000, .inr (.inl f_nn))), (h_na, .inl (cy_na, 8000, .inl f_na)), (h_nb, .inl (cy_nb, 8000, .inl f_nb)), (h_nc, .inl (cy_nc, 8000, .inl f_nc)), (h_vrs, .inl (cy_vrs, 32, .inl f_vrs)), (h_let, .inl (cy_let, 256, .inl f_let))] := hD.sub [8, 0, 1, 2, 3, 4, 5, 6, 7] (by decide) rfl
      refine W.widen (k := 0) (n := 0) (Nat.le_of_ble_eq_true rfl) (Nat.le_of_ble_eq_true rfl) ?_
      have w974 : 0 ≤ ((x_mm_nodes)).toInt ∧ ((x_mm_nodes)).toInt ≤ 1200 := by first | exact hx_mm_nodes | omega
      have w975 : 0 ≤ ((x_mm_at)).toInt ∧ ((x_mm_at)).toInt ≤ 600 := by first | exact hx_mm_at | omega
      have w976 : 0 ≤ ((x_mm_place)).toInt ∧ ((x_mm_place)).toInt ≤ 600 := by first | exact hx_mm_place | omega
      have w977 : 0 ≤ ((x_mm_kind)).toInt ∧ ((x_mm_kind)).toInt ≤ 4 := by first | exact hx_mm_kind | omega
      have w978 : 0 ≤ ((z967)).toInt ∧ ((z967)).toInt ≤ 1 := by first | exact k970 | omega
      have w979 : ((x_mm_place)).toInt ≤ ((x_mm_at)).toInt := by first | exact q0 | omega
      have w980 : ((z967)).toInt = 1 ∨ ((x_mm_nodes)).toInt ≤ lo + ((x_mm_place)).toInt := by omega
      have w981 : (x_mm_nodes).toInt ≤ ((x_mm_nodes)).toInt := by omega
      have w982 : (x_mm_place).toInt ≤ ((x_mm_place)).toInt := by omega
      have w983 : (x_mm_isFaulty).toInt ≤ ((z967)).toInt := by omega
      have w984 : (((z967)).toInt = 0 ∧ ((pPs G (x_mm_taped).toInt dd (x_mm_place).toInt nv vf)).1 = 0 ∧ ((z968)).toInt = (x_mm_fault).toInt ∧ ((z969)).toInt = (x_mm_faultPlace).toInt) ∨ (((z967)).toInt = 1 ∧ ¬ ((pPs G (x_mm_taped).toInt dd (x_mm_place).toInt nv vf)).1 = 0 ∧ ((z968)).toInt = ((pPs G (x_mm_taped).toInt dd (x_mm_place).toInt nv vf)).1 ∧ ((z969)).toInt = ((pPs G (x_mm_taped).toInt dd (x_mm_place).toInt nv vf)).2.1) := by omega
      have w985 : ((x_mm_place)).toInt = ((pPs G (x_mm_taped).toInt dd (x_mm_place).toInt nv vf)).2.1 := by omega
      have w986 : 0 ≤ ((pPs G (x_mm_taped).toInt dd (x_mm_place).toInt nv vf)).2.2.1 ∧ ((pPs G (x_mm_taped).toInt dd (x_mm_place).toInt nv vf)).2.2.1 ≤ 8 := by omega
      have w987 : ((x_mm_kind)).toInt = kd (tkT G (x_mm_taped).toInt ((x_mm_place)).toInt) := by first | exact q8 | omega
      have w988 : ((x_mm_kind)).toInt = 0 ∨ (((x_mm_at)).toInt = tkX G (x_mm_taped).toInt ((x_mm_place)).toInt ∧ ((x_mm_sign)).toInt = G ((x_mm_place)).toInt ∧ ((x_mm_place)).toInt < (x_mm_taped).toInt ∧ ((x_mm_place)).toInt + 1 ≤ ((x_mm_at)).toInt) := by first | exact q9 | omega
      have w989 : ((x_mm_at)).toInt ≤ (x_mm_taped).toInt := by first | exact q10 | omega
      have w990 : ((x_mm_place)).toInt ≤ (x_mm_taped).toInt := by first | exact q11 | omega
      have w991 : EQ0 lo za zb zc zv (f_na) (f_nb) (f_nc) (f_nv) := hn_nd0
      have w992 : ND lo ((x_mm_nodes)).toInt (hh) (f_na) (f_nb) (f_nc) := (nd_cast hn_nd (by omega))
      have w993 : ∀ y : Nat, (y : Int) < (x_mm_nodes).toInt → (hh) y = hh y := (fun y hy => rfl)
      have w994 : VRF (x_mm_reading).toInt f_vrs (f_vrs) := vrf_rf
      have w995 : ((f_vrs) (Int32.toNatClampNeg x_mm_reading)).toInt = ((pPs G (x_mm_taped).toInt dd (x_mm_place).toInt nv vf)).2.2.1 := (hn_nvq.trans pq9643.symm)
      have w996 : VFM ((pPs G (x_mm_taped).toInt dd (x_mm_place).toInt nv vf)).2.2.1 ((pPs G (x_mm_taped).toInt dd (x_mm_place).toInt nv vf)).2.2.2 (f_let) (x_mm_reading).toInt := (by rw [pq9643, pq9644]; exact hn_vfm)
      have w997 : NMK ((x_mm_kind)).toInt ((x_mm_name)).toInt (NMI 27 G (x_mm_taped).toInt ((x_mm_place)).toInt) := hn_nmk
      have w998 : IFZ ((z967)).toInt (∃ L B : Nat, (L : Int) = (x_mm_nodes).toInt ∧ (B : Int) = ((x_mm_nodes)).toInt ∧ NMX G (x_mm_taped).toInt (RVW (f_nv) (f_nn) (f_na) (f_nb) (f_nc)) (SPX G (x_mm_taped).toInt 27 (RVW (f_nv) (f_nn) (f_na) (f_nb) (f_nc)) ((pPs G (x_mm_taped).toInt dd (x_mm_place).toInt nv vf)).2.2.1 ((pPs G (x_mm_taped).toInt dd (x_mm_place).toInt nv vf)).2.2.2 k0 L B dd) (Int32.toNatClampNeg p1) (x_mm_place).toInt ((x_mm_place)).toInt) := (ifz_no (by omega))
      have w999 : AGN (x_mm_nodes).toInt (p1).toInt f_nv (f_nv) f_nn (f_nn) f_na (f_na) f_nb (f_nb) f_nc (f_nc) := agn_rf
      exact W.vret hx hb hr (fun t ht hW => ⟨⟨(x_mm_nodes, x_mm_at, x_mm_place, x_mm_kind, x_mm_sign, x_mm_name, z967, z968, z969, f_nv, f_nn, f_na, f_nb, f_nc, f_vrs, f_let, hh), rfl, ⟨w974, w975, w976, w977, w978, hf_nv, hf_na, hf_nb, hf_nc, hf_vrs, w979, w980, w981, w982, w983, w984, w985, w986, w987, w988, w989, w990, w991, w992, w993, w994, w995, w996, w997, w998, w999⟩, by rw [ht]; exact hP, hD⟩, hS.F ht⟩) hS.2.2 dX11_readsParts_31
  · replace hq : (((x_mm_isFaulty)).toInt = 1) := hq
    exact False.elim (by omega)
  · replace hq : (((x_mm_isFaulty)).toInt = 0) ∧ (¬ ((x_mm_kind)).toInt = 3 ∨ ¬ ((x_mm_sign)).toInt = ((40 : Int32)).toInt) := hq
    refine lv_if_ne (tgt := 10) hx hb dX11_readsParts_6 (by decide) (fun c9 => absurd c9 (by decide)) (fun _ => ?_)
    have nt9 : ¬ tkT G (x_mm_taped).toInt (x_mm_place).toInt = 40 := by omega
    have pv9 : (pPs G (x_mm_taped).toInt dd (x_mm_place).toInt nv vf) = (0, (x_mm_place).toInt, nv, vf) := pPs_none nt9
    have pq10001 : ((pPs G (x_mm_taped).toInt dd (x_mm_place).toInt nv vf)).1 = 0 := by rw [pv9]
    have pq10002 : ((pPs G (x_mm_taped).toInt dd (x_mm_place).toInt nv vf)).2.1 = (x_mm_place).toInt := by rw [pv9]
    have pq10003 : ((pPs G (x_mm_taped).toInt dd (x_mm_place).toInt nv vf)).2.2.1 = nv := by rw [pv9]
    have pq10004 : ((pPs G (x_mm_taped).toInt dd (x_mm_place).toInt nv vf)).2.2.2 = vf := by rw [pv9]
    replace hP : va_P (dC, dI) cls [(h_mm, .inr (8, (mo126 v_mm (.ref h_nv) (.ref h_nn) (.ref h_na) (.ref h_nb) (.ref h_nc) (.int x_mm_nodes) (.ref h_vrs) (.ref h_let) (.ref h_tap) (.int x_mm_taped) (.int x_mm_at) (.int x_mm_place) (.int x_mm_kind) (.int x_mm_sign) (.long x_mm_name) (.int x_mm_isFaulty) (.int x_mm_fault) (.int x_mm_faultPlace) (.int x_mm_opened) (.int x_mm_reading)))), (h_tap, .inl (cy_tap, 600, .inl f_tap)), (h_nv, .inl (cy_nv, 8000, .inl f_nv)), (h_nn, .inl (cy_nn, 8000, .inr (.inl f_nn))), (h_na, .inl (cy_na, 8000, .inl f_na)), (h_nb, .inl (cy_nb, 8000, .inl f_nb)), (h_nc, .inl (cy_nc, 8000, .inl f_nc)), (h_vrs, .inl (cy_vrs, 32, .inl f_vrs)), (h_let, .inl (cy_let, 256, .inl f_let))] H := hP.sub [8, 0, 1, 2, 3, 4, 5, 6, 7] rfl
    replace hD : va_D A [(h_mm, .inr (8, (mo126 v_mm (.ref h_nv) (.ref h_nn) (.ref h_na) (.ref h_nb) (.ref h_nc) (.int x_mm_nodes) (.ref h_vrs) (.ref h_let) (.ref h_tap) (.int x_mm_taped) (.int x_mm_at) (.int x_mm_place) (.int x_mm_kind) (.int x_mm_sign) (.long x_mm_name) (.int x_mm_isFaulty) (.int x_mm_fault) (.int x_mm_faultPlace) (.int x_mm_opened) (.int x_mm_reading)))), (h_tap, .inl (cy_tap, 600, .inl f_tap)), (h_nv, .inl (cy_nv, 8000, .inl f_nv)), (h_nn, .inl (cy_nn, 8000, .inr (.inl f_nn))), (h_na, .inl (cy_na, 8000, .inl f_na)), (h_nb, .inl (cy_nb, 8000, .inl f_nb)), (h_nc, .inl (cy_nc, 8000, .inl f_nc)), (h_vrs, .inl (cy_vrs, 32, .inl f_vrs)), (h_let, .inl (cy_let, 256, .inl f_let))] := hD.sub [8, 0, 1, 2, 3, 4, 5, 6, 7] (by decide) rfl
    refine W.widen (k := 0) (n := 0) (Nat.le_of_ble_eq_true rfl) (Nat.le_of_ble_eq_true rfl) ?_
    have w1001 : 0 ≤ ((x_mm_nodes)).toInt ∧ ((x_mm_nodes)).toInt ≤ 1200 := by first | exact hx_mm_nodes | omega
    have w1002 : 0 ≤ ((x_mm_at)).toInt ∧ ((x_mm_at)).toInt ≤ 600 := by first | exact hx_mm_at | omega
    have w1003 : 0 ≤ ((x_mm_place)).toInt ∧ ((x_mm_place)).toInt ≤ 600 := by first | exact hx_mm_place | omega
    have w1004 : 0 ≤ ((x_mm_kind)).toInt ∧ ((x_mm_kind)).toInt ≤ 4 := by first | exact hx_mm_kind | omega
    have w1005 : 0 ≤ ((x_mm_isFaulty)).toInt ∧ ((x_mm_isFaulty)).toInt ≤ 1 := by first | exact hx_mm_isFaulty | omega
    have w1006 : ((x_mm_place)).toInt ≤ ((x_mm_at)).toInt := by first | exact q0 | omega
    have w1007 : ((x_mm_isFaulty)).toInt = 1 ∨ ((x_mm_nodes)).toInt ≤ lo + ((x_mm_place)).toInt := by first | exact q2 | omega
    have w1008 : (x_mm_nodes).toInt ≤ ((x_mm_nodes)).toInt := by omega
    have w1009 : (x_mm_place).toInt ≤ ((x_mm_place)).toInt := by omega
    have w1010 : (x_mm_isFaulty).toInt ≤ ((x_mm_isFaulty)).toInt := by omega
    have w1011 : (((x_mm_isFaulty)).toInt = 0 ∧ ((pPs G (x_mm_taped).toInt dd (x_mm_place).toInt nv vf)).1 = 0 ∧ ((x_mm_fault)).toInt = (x_mm_fault).toInt ∧ ((x_mm_faultPlace)).toInt = (x_mm_faultPlace).toInt) ∨ (((x_mm_isFaulty)).toInt = 1 ∧ ¬ ((pPs G (x_mm_taped).toInt dd (x_mm_place).toInt nv vf)).1 = 0 ∧ ((x_mm_fault)).toInt = ((pPs G (x_mm_taped).toInt dd (x_mm_place).toInt nv vf)).1 ∧ ((x_mm_faultPlace)).toInt = ((pPs G (x_mm_taped).toInt dd (x_mm_place).toInt nv vf)).2.1) := by omega
    have w1012 : ((x_mm_place)).toInt = ((pPs G (x_mm_taped).toInt dd (x_mm_place).toInt nv vf)).2.1 := by omega
    have w1013 : 0 ≤ ((pPs G (x_mm_taped).toInt dd (x_mm_place).toInt nv vf)).2.2.1 ∧ ((pPs G (x_mm_taped).toInt dd (x_mm_place).toInt nv vf)).2.2.1 ≤ 8 := by omega
    have w1014 : ((x_mm_kind)).toInt = kd (tkT G (x_mm_taped).toInt ((x_mm_place)).toInt) := by first | exact q8 | omega
    have w1015 : ((x_mm_kind)).toInt = 0 ∨ (((x_mm_at)).toInt = tkX G (x_mm_taped).toInt ((x_mm_place)).toInt ∧ ((x_mm_sign)).toInt = G ((x_mm_place)).toInt ∧ ((x_mm_place)).toInt < (x_mm_taped).toInt ∧ ((x_mm_place)).toInt + 1 ≤ ((x_mm_at)).toInt) := by first | exact q9 | omega
    have w1016 : ((x_mm_at)).toInt ≤ (x_mm_taped).toInt := by first | exact q10 | omega
    have w1017 : ((x_mm_place)).toInt ≤ (x_mm_taped).toInt := by first | exact q11 | omega
    have w1018 : EQ0 lo za zb zc zv (f_na) (f_nb) (f_nc) (f_nv) := hn_nd0
    have w1019 : ND lo ((x_mm_nodes)).toInt (hh) (f_na) (f_nb) (f_nc) := (nd_cast hn_nd (by omega))
    have w1020 : ∀ y : Nat, (y : Int) < (x_mm_nodes).toInt → (hh) y = hh y := (fun y hy => rfl)
    have w1021 : VRF (x_mm_reading).toInt f_vrs (f_vrs) := vrf_rf
    have w1022 : ((f_vrs) (Int32.toNatClampNeg x_mm_reading)).toInt = ((pPs G (x_mm_taped).toInt dd (x_mm_place).toInt nv vf)).2.2.1 := (hn_nvq.trans pq10003.symm)
    have w1023 : VFM ((pPs G (x_mm_taped).toInt dd (x_mm_place).toInt nv vf)).2.2.1 ((pPs G (x_mm_taped).toInt dd (x_mm_place).toInt nv vf)).2.2.2 (f_let) (x_mm_reading).toInt := (by rw [pq10003, pq10004]; exact hn_vfm)
    have w1024 : NMK ((x_mm_kind)).toInt ((x_mm_name)).toInt (NMI 27 G (x_mm_taped).toInt ((x_mm_place)).toInt) := hn_nmk
    have w1025 : IFZ ((x_mm_isFaulty)).toInt (∃ L B : Nat, (L : Int) = (x_mm_nodes).toInt ∧ (B : Int) = ((x_mm_nodes)).toInt ∧ NMX G (x_mm_taped).toInt (RVW (f_nv) (f_nn) (f_na) (f_nb) (f_nc)) (SPX G (x_mm_taped).toInt 27 (RVW (f_nv) (f_nn) (f_na) (f_nb) (f_nc)) ((pPs G (x_mm_taped).toInt dd (x_mm_place).toInt nv vf)).2.2.1 ((pPs G (x_mm_taped).toInt dd (x_mm_place).toInt nv vf)).2.2.2 k0 L B dd) (Int32.toNatClampNeg p1) (x_mm_place).toInt ((x_mm_place)).toInt) := (ifz_yes ⟨(x_mm_nodes).toInt.toNat, (x_mm_nodes).toInt.toNat, by omega, by omega, nmx_no hn_trs nt9 rfl⟩)
    have w1026 : AGN (x_mm_nodes).toInt (p1).toInt f_nv (f_nv) f_nn (f_nn) f_na (f_na) f_nb (f_nb) f_nc (f_nc) := agn_rf
    exact W.vret hx hb hr (fun t ht hW => ⟨⟨(x_mm_nodes, x_mm_at, x_mm_place, x_mm_kind, x_mm_sign, x_mm_name, x_mm_isFaulty, x_mm_fault, x_mm_faultPlace, f_nv, f_nn, f_na, f_nb, f_nc, f_vrs, f_let, hh), rfl, ⟨w1001, w1002, w1003, w1004, w1005, hf_nv, hf_na, hf_nb, hf_nc, hf_vrs, w1006, w1007, w1008, w1009, w1010, w1011, w1012, w1013, w1014, w1015, w1016, w1017, w1018, w1019, w1020, w1021, w1022, w1023, w1024, w1025, w1026⟩, by rw [ht]; exact hP, hD⟩, hS.F ht⟩) hS.2.2 dX11_readsParts_9

