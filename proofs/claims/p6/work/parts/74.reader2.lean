set_option maxHeartbeats 8000000 in
set_option maxRecDepth 100000 in
theorem c_X5_readPart_6 (l : Launch) (dC : Nat → ClassId) (dI : Nat → Nat → Nat) (sz : Nat) (h_rd : Nat) (h_by : Nat) (h_kn : Nat) (h_td : Nat) (h_nam : Nat) (h_var : Nat) (h_trm : Nat) (h_ter : Nat) (x_rd_length : Int32) (x_rd_fault : Int32) (x_rd_place : Int32) (x_rd_variables : Int32) (x_rd_at : Int32) (x_rd_behind : Int32) (x_rd_token : Int32) (x_rd_letters : Int64) (cy_by : ClassId) (f_by : Nat → Int32) (cy_kn : ClassId) (f_kn : Nat → Int32) (v_td : Nat → Value) (x_td_parts : Int32) (cy_nam : ClassId) (f_nam : Nat → Int64) (cy_var : ClassId) (f_var : Nat → Int32) (cy_trm : ClassId) (f_trm : Nat → Int32) (cy_ter : ClassId) (f_ter : Nat → Int32) (G : Int → Int) (vf : Int → Int) (hx_rd_length : 0 ≤ (x_rd_length).toInt ∧ (x_rd_length).toInt ≤ 600) (hx_rd_variables : 0 ≤ (x_rd_variables).toInt ∧ (x_rd_variables).toInt ≤ 8) (hx_rd_at : 0 ≤ (x_rd_at).toInt ∧ (x_rd_at).toInt ≤ 600) (hx_rd_behind : 0 ≤ (x_rd_behind).toInt ∧ (x_rd_behind).toInt ≤ 600) (hf_by : Rg 0 255 f_by) (hf_kn : Rg 0 299 f_kn) (hx_td_parts : 0 ≤ (x_td_parts).toInt ∧ (x_td_parts).toInt ≤ 300) (hf_var : Rg (-1) 7 f_var) (hf_trm : Rg 0 3 f_trm) (hf_ter : Rg 0 299 f_ter) (q0 : (x_rd_token).toInt = tkT G (x_rd_length).toInt (x_rd_at).toInt) (q1 : (x_rd_token).toInt = 256 ∨ (x_rd_token).toInt = 257) (q2 : (x_rd_behind).toInt = tkX G (x_rd_length).toInt (x_rd_at).toInt) (q3 : ¬ (x_rd_token).toInt = 257 ∨ (x_rd_letters).toInt = G (x_rd_at).toInt) (q4 : 0 ≤ (x_rd_fault).toInt ∧ (x_rd_fault).toInt ≤ 0) (q5 : 2 * (x_td_parts).toInt ≤ (x_rd_at).toInt) (q6 : (x_rd_at).toInt < (x_rd_length).toInt) (q7 : (x_rd_behind).toInt ≤ (x_rd_length).toInt) (hn_byt : BYT G (x_rd_length).toInt f_by) (hn_vfc : VFC (x_rd_variables).toInt vf f_kn f_nam (x_td_parts).toInt) : Met l yX5_readPart (Ws yX5_readPart cX5_readPart 5 (some .int)) (({ frames := 3, cells := 0, slots := 0, locals := 125 } : Room)) (PRE (dC, dI) cls [(cy_by, .int), (cy_kn, .int), (cy_nam, .long), (cy_var, .int), (cy_trm, .int), (cy_ter, .int)] [(h_rd, .inr (4, (mo31 (.ref h_by) (.int x_rd_length) (.int x_rd_fault) (.int x_rd_place) (.ref h_td) (.ref h_kn) (.int x_rd_variables) (.int x_rd_at) (.int x_rd_behind) (.int x_rd_token) (.long x_rd_letters)))), (h_by, .inl (cy_by, 600, .inl f_by)), (h_kn, .inl (cy_kn, 8, .inl f_kn)), (h_td, .inr (5, (mo32 v_td (.ref h_nam) (.ref h_var) (.ref h_trm) (.ref h_ter) (.int x_td_parts)))), (h_nam, .inl (cy_nam, 300, .inr (.inl f_nam))), (h_var, .inl (cy_var, 300, .inl f_var)), (h_trm, .inl (cy_trm, 300, .inl f_trm)), (h_ter, .inl (cy_ter, 900, .inl f_ter))] sz [.ref h_rd, .int 6]) (va_Qi (fun (r : Int32) (u : (Int32) × (Int32) × (Int32) × (Int32) × (Int32) × (Int32) × (Int64) × (Nat → Int32) × (Int32) × (Nat → Int64) × (Nat → Int32) × (Nat → Int32) × (Nat → Int32)) => (0 ≤ (u.2.2.1).toInt ∧ (u.2.2.1).toInt ≤ 8) ∧ (0 ≤ (u.2.2.2.1).toInt ∧ (u.2.2.2.1).toInt ≤ 600) ∧ (0 ≤ (u.2.2.2.2.1).toInt ∧ (u.2.2.2.2.1).toInt ≤ 600) ∧ (Rg 0 299 u.2.2.2.2.2.2.2.1) ∧ (0 ≤ (u.2.2.2.2.2.2.2.2.1).toInt ∧ (u.2.2.2.2.2.2.2.2.1).toInt ≤ 300) ∧ (Rg (-1) 7 u.2.2.2.2.2.2.2.2.2.2.1) ∧ (Rg 0 3 u.2.2.2.2.2.2.2.2.2.2.2.1) ∧ (Rg 0 299 u.2.2.2.2.2.2.2.2.2.2.2.2) ∧ (0 ≤ r.toInt ∧ r.toInt ≤ 299) ∧ ((u.1).toInt = ((pTm G (x_rd_length).toInt (pPs G (x_rd_length).toInt 0) (x_rd_at).toInt (x_rd_variables).toInt vf)).1) ∧ ((u.2.2.2.1).toInt = ((pTm G (x_rd_length).toInt (pPs G (x_rd_length).toInt 0) (x_rd_at).toInt (x_rd_variables).toInt vf)).2.1) ∧ ((u.2.2.1).toInt = ((pTm G (x_rd_length).toInt (pPs G (x_rd_length).toInt 0) (x_rd_at).toInt (x_rd_variables).toInt vf)).2.2.1) ∧ (((u.1).toInt = 0 ∧ (u.2.1).toInt = (x_rd_place).toInt) ∨ (¬ (u.1).toInt = 0 ∧ (u.2.1).toInt = (u.2.2.2.1).toInt)) ∧ (2 * (u.2.2.2.2.2.2.2.2.1).toInt ≤ (u.2.2.2.1).toInt + 1) ∧ ((u.2.2.2.2.2.1).toInt < 256 ∨ 2 * (u.2.2.2.2.2.2.2.2.1).toInt ≤ (u.2.2.2.1).toInt) ∧ ((x_rd_at).toInt ≤ (u.2.2.2.1).toInt) ∧ ((u.2.2.2.2.2.1).toInt = tkT G (x_rd_length).toInt (u.2.2.2.1).toInt) ∧ ((u.2.2.2.2.2.1).toInt = -1 ∨ (u.2.2.2.2.1).toInt = tkX G (x_rd_length).toInt (u.2.2.2.1).toInt) ∧ (¬ (u.2.2.2.2.2.1).toInt = 257 ∨ (u.2.2.2.2.2.2.1).toInt = G (u.2.2.2.1).toInt) ∧ (-1 ≤ (u.2.2.2.2.2.1).toInt ∧ (u.2.2.2.2.2.1).toInt ≤ 258) ∧ ((u.2.2.2.2.1).toInt ≤ (x_rd_length).toInt) ∧ ((u.2.2.2.2.2.1).toInt = -1 ∨ (u.2.2.2.1).toInt < (x_rd_length).toInt) ∧ ((u.2.2.2.1).toInt ≤ (x_rd_length).toInt) ∧ (VFC (u.2.2.1).toInt ((pTm G (x_rd_length).toInt (pPs G (x_rd_length).toInt 0) (x_rd_at).toInt (x_rd_variables).toInt vf)).2.2.2 u.2.2.2.2.2.2.2.1 u.2.2.2.2.2.2.2.2.2.1 (u.2.2.2.2.2.2.2.2.1).toInt)) (fun (u : (Int32) × (Int32) × (Int32) × (Int32) × (Int32) × (Int32) × (Int64) × (Nat → Int32) × (Int32) × (Nat → Int64) × (Nat → Int32) × (Nat → Int32) × (Nat → Int32)) (t : State) => va_P (dC, dI) cls [(h_rd, .inr (4, (mo31 (.ref h_by) (.int x_rd_length) (.int u.1) (.int u.2.1) (.ref h_td) (.ref h_kn) (.int u.2.2.1) (.int u.2.2.2.1) (.int u.2.2.2.2.1) (.int u.2.2.2.2.2.1) (.long u.2.2.2.2.2.2.1)))), (h_by, .inl (cy_by, 600, .inl f_by)), (h_kn, .inl (cy_kn, 8, .inl u.2.2.2.2.2.2.2.1)), (h_td, .inr (5, (mo32 v_td (.ref h_nam) (.ref h_var) (.ref h_trm) (.ref h_ter) (.int u.2.2.2.2.2.2.2.2.1)))), (h_nam, .inl (cy_nam, 300, .inr (.inl u.2.2.2.2.2.2.2.2.2.1))), (h_var, .inl (cy_var, 300, .inl u.2.2.2.2.2.2.2.2.2.2.1)), (h_trm, .inl (cy_trm, 300, .inl u.2.2.2.2.2.2.2.2.2.2.2.1)), (h_ter, .inl (cy_ter, 900, .inl u.2.2.2.2.2.2.2.2.2.2.2.2))] t.heap ∧ va_D (va_A [(h_rd, .inr (4, (mo31 (.ref h_by) (.int x_rd_length) (.int x_rd_fault) (.int x_rd_place) (.ref h_td) (.ref h_kn) (.int x_rd_variables) (.int x_rd_at) (.int x_rd_behind) (.int x_rd_token) (.long x_rd_letters)))), (h_by, .inl (cy_by, 600, .inl f_by)), (h_kn, .inl (cy_kn, 8, .inl f_kn)), (h_td, .inr (5, (mo32 v_td (.ref h_nam) (.ref h_var) (.ref h_trm) (.ref h_ter) (.int x_td_parts)))), (h_nam, .inl (cy_nam, 300, .inr (.inl f_nam))), (h_var, .inl (cy_var, 300, .inl f_var)), (h_trm, .inl (cy_trm, 300, .inl f_trm)), (h_ter, .inl (cy_ter, 900, .inl f_ter))] sz) [(h_rd, .inr (4, (mo31 (.ref h_by) (.int x_rd_length) (.int u.1) (.int u.2.1) (.ref h_td) (.ref h_kn) (.int u.2.2.1) (.int u.2.2.2.1) (.int u.2.2.2.2.1) (.int u.2.2.2.2.2.1) (.long u.2.2.2.2.2.2.1)))), (h_by, .inl (cy_by, 600, .inl f_by)), (h_kn, .inl (cy_kn, 8, .inl u.2.2.2.2.2.2.2.1)), (h_td, .inr (5, (mo32 v_td (.ref h_nam) (.ref h_var) (.ref h_trm) (.ref h_ter) (.int u.2.2.2.2.2.2.2.2.1)))), (h_nam, .inl (cy_nam, 300, .inr (.inl u.2.2.2.2.2.2.2.2.2.1))), (h_var, .inl (cy_var, 300, .inl u.2.2.2.2.2.2.2.2.2.2.1)), (h_trm, .inl (cy_trm, 300, .inl u.2.2.2.2.2.2.2.2.2.2.2.1)), (h_ter, .inl (cy_ter, 900, .inl u.2.2.2.2.2.2.2.2.2.2.2.2))]) (va_A [(h_rd, .inr (4, (mo31 (.ref h_by) (.int x_rd_length) (.int x_rd_fault) (.int x_rd_place) (.ref h_td) (.ref h_kn) (.int x_rd_variables) (.int x_rd_at) (.int x_rd_behind) (.int x_rd_token) (.long x_rd_letters)))), (h_by, .inl (cy_by, 600, .inl f_by)), (h_kn, .inl (cy_kn, 8, .inl f_kn)), (h_td, .inr (5, (mo32 v_td (.ref h_nam) (.ref h_var) (.ref h_trm) (.ref h_ter) (.int x_td_parts)))), (h_nam, .inl (cy_nam, 300, .inr (.inl f_nam))), (h_var, .inl (cy_var, 300, .inl f_var)), (h_trm, .inl (cy_trm, 300, .inl f_trm)), (h_ter, .inl (cy_ter, 900, .inl f_ter))] sz)) 0 0 (va_A [(h_rd, .inr (4, (mo31 (.ref h_by) (.int x_rd_length) (.int x_rd_fault) (.int x_rd_place) (.ref h_td) (.ref h_kn) (.int x_rd_variables) (.int x_rd_at) (.int x_rd_behind) (.int x_rd_token) (.long x_rd_letters)))), (h_by, .inl (cy_by, 600, .inl f_by)), (h_kn, .inl (cy_kn, 8, .inl f_kn)), (h_td, .inr (5, (mo32 v_td (.ref h_nam) (.ref h_var) (.ref h_trm) (.ref h_ter) (.int x_td_parts)))), (h_nam, .inl (cy_nam, 300, .inr (.inl f_nam))), (h_var, .inl (cy_var, 300, .inl f_var)), (h_trm, .inl (cy_trm, 300, .inl f_trm)), (h_ter, .inl (cy_ter, 900, .inl f_ter))] sz) := by
  refine Met.ofW (cc := cX5_readPart) (maxL := 5) (ret := (some .int)) (by decide) rfl ?_
  intro p e s m args below meth c s₁ B hml hv
  obtain ⟨rfl, hsz, hP, hK, hD0, hN⟩ := hv
  have hx := B.exec
  have hb := B.bytes
  have hr := B.returns
  have hts := atoms_spec (ws := Ws yX5_readPart cX5_readPart 5 (some .int)) B.pre
  have hT : ∀ w ∈ WALL, w ∈ Ws yX5_readPart cX5_readPart 5 (some .int) := fun w h => List.mem_cons_of_mem _ h
  have hw := fun w (h : w ∈ WALL) => hts w (hT w h)
  have hown : s.vm.findClass RX5 = some m.cls := findClass_of_methodNamed B.named
  have hlocks := B.notSynchronized
  subst hsz
  have hD := hD0.self (sz := s.heap.size)
  generalize hAe : va_A [(h_rd, .inr (4, (mo31 (.ref h_by) (.int x_rd_length) (.int x_rd_fault) (.int x_rd_place) (.ref h_td) (.ref h_kn) (.int x_rd_variables) (.int x_rd_at) (.int x_rd_behind) (.int x_rd_token) (.long x_rd_letters)))), (h_by, .inl (cy_by, 600, .inl f_by)), (h_kn, .inl (cy_kn, 8, .inl f_kn)), (h_td, .inr (5, (mo32 v_td (.ref h_nam) (.ref h_var) (.ref h_trm) (.ref h_ter) (.int x_td_parts)))), (h_nam, .inl (cy_nam, 300, .inr (.inl f_nam))), (h_var, .inl (cy_var, 300, .inl f_var)), (h_trm, .inl (cy_trm, 300, .inl f_trm)), (h_ter, .inl (cy_ter, 900, .inl f_ter))] s.heap.size = A at hD ⊢
  have hA : ∀ q : Nat, s.heap.size ≤ q → A q := fun q h => by rw [← hAe]; exact Or.inr h
  have hS : va_S A s.heap s.heap [] := va_S.rf
  have hl := lv_entry ([.ref h_rd, .int 6]) (n := 5) (Nat.le_of_ble_eq_true rfl)
  rw [lg_entry_eq]
  generalize (lg_sl ([.ref h_rd, .int 6]) ++ List.replicate (5 - (lg_sl ([.ref h_rd, .int 6])).length) Slot.unset).toArray = ls at hl ⊢
  have hl : lv_has ls 5 [(0, .ref h_rd), (1, .int 6)] := hl
  refine lv_aload_n hx hb dX5_readPart_0 rfl (lv_at hl 0 rfl) ?_
  refine va_get (D := (dC, dI)) (ci := 4) (v := .int x_rd_token) (C := RX5) (T := TX5) (N := 11) hx hb hw iwX5 hown hK hP 0 rfl rfl 9 (by decide) (hw _ w_f_X5_43) (fun _ h9 => h9) rfl dX5_readPart_1 ?_
  refine lv_sipush (v := 256) hx hb dX5_readPart_4 (by decide) ?_
  refine lv_icmp_ne (tgt := 14) hx hb dX5_readPart_7 (by decide) (fun c1 => ?_) (fun c1 => ?_)
  · have kc1 := (not_congr (cv_eq (rfl : (x_rd_token).toInt = (x_rd_token).toInt) (by decide : (256 : Int32).toInt = 256))).mp c1
    refine lv_iconst (v := 0) hx hb dX5_readPart_14 (by decide) ?_
    refine lv_istore_n (lv' := [(2, .int 0), (0, .ref h_rd), (1, .int 6)]) hx hb dX5_readPart_15 rfl hl (by decide) rfl (fun ls hl => ?_)
    refine lv_iload_n hx hb dX5_readPart_16 rfl (lv_at hl 0 rfl) ?_
    refine lv_if_eq (tgt := 35) hx hb dX5_readPart_17 (by decide) (fun _ => ?_) (fun c9 => absurd c9 (by decide))
    refine lv_aload_n hx hb dX5_readPart_35 rfl (lv_at hl 1 rfl) ?_
    obtain ⟨vq2, evq2⟩ := mq31_30 (.ref h_by) (.int x_rd_behind) (.int x_rd_token)
    replace hP : va_P (dC, dI) cls [(h_rd, .inr (4, (mo30 vq2 (.int x_rd_length) (.int x_rd_fault) (.int x_rd_place) (.ref h_td) (.ref h_kn) (.int x_rd_variables) (.int x_rd_at) (.long x_rd_letters)))), (h_by, .inl (cy_by, 600, .inl f_by)), (h_kn, .inl (cy_kn, 8, .inl f_kn)), (h_td, .inr (5, (mo32 v_td (.ref h_nam) (.ref h_var) (.ref h_trm) (.ref h_ter) (.int x_td_parts)))), (h_nam, .inl (cy_nam, 300, .inr (.inl f_nam))), (h_var, .inl (cy_var, 300, .inl f_var)), (h_trm, .inl (cy_trm, 300, .inl f_trm)), (h_ter, .inl (cy_ter, 900, .inl f_ter))] s.heap := by rw [evq2]; exact hP
    replace hD : va_D A [(h_rd, .inr (4, (mo30 vq2 (.int x_rd_length) (.int x_rd_fault) (.int x_rd_place) (.ref h_td) (.ref h_kn) (.int x_rd_variables) (.int x_rd_at) (.long x_rd_letters)))), (h_by, .inl (cy_by, 600, .inl f_by)), (h_kn, .inl (cy_kn, 8, .inl f_kn)), (h_td, .inr (5, (mo32 v_td (.ref h_nam) (.ref h_var) (.ref h_trm) (.ref h_ter) (.int x_td_parts)))), (h_nam, .inl (cy_nam, 300, .inr (.inl f_nam))), (h_var, .inl (cy_var, 300, .inl f_var)), (h_trm, .inl (cy_trm, 300, .inl f_trm)), (h_ter, .inl (cy_ter, 900, .inl f_ter))] := by rw [evq2]; exact hD
    obtain ⟨vq3, evq3⟩ := mq32_24 v_td (.ref h_ter)
    replace hP : va_P (dC, dI) cls [(h_rd, .inr (4, (mo30 vq2 (.int x_rd_length) (.int x_rd_fault) (.int x_rd_place) (.ref h_td) (.ref h_kn) (.int x_rd_variables) (.int x_rd_at) (.long x_rd_letters)))), (h_by, .inl (cy_by, 600, .inl f_by)), (h_kn, .inl (cy_kn, 8, .inl f_kn)), (h_td, .inr (5, (mo24 vq3 (.ref h_nam) (.ref h_var) (.ref h_trm) (.int x_td_parts)))), (h_nam, .inl (cy_nam, 300, .inr (.inl f_nam))), (h_var, .inl (cy_var, 300, .inl f_var)), (h_trm, .inl (cy_trm, 300, .inl f_trm)), (h_ter, .inl (cy_ter, 900, .inl f_ter))] s.heap := by rw [evq3]; exact hP
    replace hD : va_D A [(h_rd, .inr (4, (mo30 vq2 (.int x_rd_length) (.int x_rd_fault) (.int x_rd_place) (.ref h_td) (.ref h_kn) (.int x_rd_variables) (.int x_rd_at) (.long x_rd_letters)))), (h_by, .inl (cy_by, 600, .inl f_by)), (h_kn, .inl (cy_kn, 8, .inl f_kn)), (h_td, .inr (5, (mo24 vq3 (.ref h_nam) (.ref h_var) (.ref h_trm) (.int x_td_parts)))), (h_nam, .inl (cy_nam, 300, .inr (.inl f_nam))), (h_var, .inl (cy_var, 300, .inl f_var)), (h_trm, .inl (cy_trm, 300, .inl f_trm)), (h_ter, .inl (cy_ter, 900, .inl f_ter))] := by rw [evq3]; exact hD
    have hPc := hP.sub (ws' := [(h_rd, .inr (4, (mo30 vq2 (.int x_rd_length) (.int x_rd_fault) (.int x_rd_place) (.ref h_td) (.ref h_kn) (.int x_rd_variables) (.int x_rd_at) (.long x_rd_letters)))), (h_kn, .inl (cy_kn, 8, .inl f_kn)), (h_td, .inr (5, (mo24 vq3 (.ref h_nam) (.ref h_var) (.ref h_trm) (.int x_td_parts)))), (h_nam, .inl (cy_nam, 300, .inr (.inl f_nam))), (h_var, .inl (cy_var, 300, .inl f_var)), (h_trm, .inl (cy_trm, 300, .inl f_trm))]) [0, 2, 3, 4, 5, 6] rfl
    have hDc := hD.sub (ws' := [(h_rd, .inr (4, (mo30 vq2 (.int x_rd_length) (.int x_rd_fault) (.int x_rd_place) (.ref h_td) (.ref h_kn) (.int x_rd_variables) (.int x_rd_at) (.long x_rd_letters)))), (h_kn, .inl (cy_kn, 8, .inl f_kn)), (h_td, .inr (5, (mo24 vq3 (.ref h_nam) (.ref h_var) (.ref h_trm) (.int x_td_parts)))), (h_nam, .inl (cy_nam, 300, .inr (.inl f_nam))), (h_var, .inl (cy_var, 300, .inl f_var)), (h_trm, .inl (cy_trm, 300, .inl f_trm))]) [0, 2, 3, 4, 5, 6] (by decide) rfl
    have hKc := hK.sub (tys' := [(cy_kn, .int), (cy_nam, .long), (cy_var, .int), (cy_trm, .int)]) [1, 2, 3, 4] rfl
    have hFc := va_free (wc := [(h_rd, .inr (4, (mo30 vq2 (.int x_rd_length) (.int x_rd_fault) (.int x_rd_place) (.ref h_td) (.ref h_kn) (.int x_rd_variables) (.int x_rd_at) (.long x_rd_letters)))), (h_kn, .inl (cy_kn, 8, .inl f_kn)), (h_td, .inr (5, (mo24 vq3 (.ref h_nam) (.ref h_var) (.ref h_trm) (.int x_td_parts)))), (h_nam, .inl (cy_nam, 300, .inr (.inl f_nam))), (h_var, .inl (cy_var, 300, .inl f_var)), (h_trm, .inl (cy_trm, 300, .inl f_trm))]) hD hS hA [0, 2, 3, 4, 5, 6] rfl
    refine va_calli (va_runV (As := []) (rest := []) ⟨hx, hb, hml, hown, hts⟩ (c_X5_variablePart l dC dI s.heap.size h_rd h_kn h_td h_nam h_var h_trm vq2 x_rd_length x_rd_fault x_rd_place x_rd_variables x_rd_at x_rd_letters cy_kn f_kn vq3 x_td_parts cy_nam f_nam cy_var f_var cy_trm f_trm G vf (by first | exact hx_rd_length | omega) (by first | exact hx_rd_variables | omega) (by first | exact hx_rd_at | omega) hf_kn (by first | exact hx_td_parts | omega) hf_var hf_trm (by omega) (by first | exact q5 | omega) (by omega) (by first | exact q4 | omega) hn_vfc) (cwV 0 hts (gv hT w_m_X5_93 w_instanceMethod_X5_variablePart ws_sel_X5_variablePart w_ini_X5 w_code_X5_variablePart) rfl rfl rfl (by decide +kernel) ⟨(Nat.le_of_ble_eq_true rfl), (Nat.le_of_ble_eq_true rfl)⟩) ⟨pre_blind, va_recv hK hP (ci := 4) (q0 := 0) rfl rfl, pre_of hPc hKc hDc hN⟩ rfl rfl hl.1 rfl (lv_room (Nat.le_of_ble_eq_true rfl)) dX5_readPart_36 ⟨(Nat.le_of_ble_eq_true rfl), (Nat.le_of_ble_eq_true rfl)⟩) hS (fun q _ h => hFc q h) hFc (fun r4 u t H locs ht hvm hq hB hz1 hk1 hS9 => ?_)
    obtain ⟨z5, z6, z7, f8, z9, f10, f11, f12⟩ := u
    obtain ⟨hP1, hD1⟩ := hB
    rw [ht] at hP1
    obtain ⟨hP9, hD9⟩ := va_join (wr := [(h_by, .inl (cy_by, 600, .inl f_by)), (h_ter, .inl (cy_ter, 900, .inl f_ter))]) (w1 := [(h_rd, .inr (4, (mo30 vq2 (.int x_rd_length) (.int z5) (.int z6) (.ref h_td) (.ref h_kn) (.int z7) (.int x_rd_at) (.long x_rd_letters)))), (h_kn, .inl (cy_kn, 8, .inl f8)), (h_td, .inr (5, (mo24 vq3 (.ref h_nam) (.ref h_var) (.ref h_trm) (.int z9)))), (h_nam, .inl (cy_nam, 300, .inr (.inl f10))), (h_var, .inl (cy_var, 300, .inl f11)), (h_trm, .inl (cy_trm, 300, .inl f12))]) hP hD [0, 2, 3, 4, 5, 6] [1, 7] rfl rfl (by decide) (by decide) hk1 hFc hP1 hD1
    clear hP hD hS hPc hDc hKc hFc hP1 hD1 hk1 hz1 ht hvm
    have hP : va_P (dC, dI) cls [(h_by, .inl (cy_by, 600, .inl f_by)), (h_ter, .inl (cy_ter, 900, .inl f_ter)), (h_rd, .inr (4, (mo30 vq2 (.int x_rd_length) (.int z5) (.int z6) (.ref h_td) (.ref h_kn) (.int z7) (.int x_rd_at) (.long x_rd_letters)))), (h_kn, .inl (cy_kn, 8, .inl f8)), (h_td, .inr (5, (mo24 vq3 (.ref h_nam) (.ref h_var) (.ref h_trm) (.int z9)))), (h_nam, .inl (cy_nam, 300, .inr (.inl f10))), (h_var, .inl (cy_var, 300, .inl f11)), (h_trm, .inl (cy_trm, 300, .inl f12))] H := hP9
    have hD : va_D A [(h_by, .inl (cy_by, 600, .inl f_by)), (h_ter, .inl (cy_ter, 900, .inl f_ter)), (h_rd, .inr (4, (mo30 vq2 (.int x_rd_length) (.int z5) (.int z6) (.ref h_td) (.ref h_kn) (.int z7) (.int x_rd_at) (.long x_rd_letters)))), (h_kn, .inl (cy_kn, 8, .inl f8)), (h_td, .inr (5, (mo24 vq3 (.ref h_nam) (.ref h_var) (.ref h_trm) (.int z9)))), (h_nam, .inl (cy_nam, 300, .inr (.inl f10))), (h_var, .inl (cy_var, 300, .inl f11)), (h_trm, .inl (cy_trm, 300, .inl f12))] := hD9
    have hS := hS9
    clear hP9 hD9 hS9
    rw [evq2] at hP hD
    replace hP : va_P (dC, dI) cls [(h_by, .inl (cy_by, 600, .inl f_by)), (h_ter, .inl (cy_ter, 900, .inl f_ter)), (h_rd, .inr (4, (mo31 (.ref h_by) (.int x_rd_length) (.int z5) (.int z6) (.ref h_td) (.ref h_kn) (.int z7) (.int x_rd_at) (.int x_rd_behind) (.int x_rd_token) (.long x_rd_letters)))), (h_kn, .inl (cy_kn, 8, .inl f8)), (h_td, .inr (5, (mo24 vq3 (.ref h_nam) (.ref h_var) (.ref h_trm) (.int z9)))), (h_nam, .inl (cy_nam, 300, .inr (.inl f10))), (h_var, .inl (cy_var, 300, .inl f11)), (h_trm, .inl (cy_trm, 300, .inl f12))] H := hP
    replace hD : va_D A [(h_by, .inl (cy_by, 600, .inl f_by)), (h_ter, .inl (cy_ter, 900, .inl f_ter)), (h_rd, .inr (4, (mo31 (.ref h_by) (.int x_rd_length) (.int z5) (.int z6) (.ref h_td) (.ref h_kn) (.int z7) (.int x_rd_at) (.int x_rd_behind) (.int x_rd_token) (.long x_rd_letters)))), (h_kn, .inl (cy_kn, 8, .inl f8)), (h_td, .inr (5, (mo24 vq3 (.ref h_nam) (.ref h_var) (.ref h_trm) (.int z9)))), (h_nam, .inl (cy_nam, 300, .inr (.inl f10))), (h_var, .inl (cy_var, 300, .inl f11)), (h_trm, .inl (cy_trm, 300, .inl f12))] := hD
    clear evq2 
    rw [evq3] at hP hD
    replace hP : va_P (dC, dI) cls [(h_by, .inl (cy_by, 600, .inl f_by)), (h_ter, .inl (cy_ter, 900, .inl f_ter)), (h_rd, .inr (4, (mo31 (.ref h_by) (.int x_rd_length) (.int z5) (.int z6) (.ref h_td) (.ref h_kn) (.int z7) (.int x_rd_at) (.int x_rd_behind) (.int x_rd_token) (.long x_rd_letters)))), (h_kn, .inl (cy_kn, 8, .inl f8)), (h_td, .inr (5, (mo32 v_td (.ref h_nam) (.ref h_var) (.ref h_trm) (.ref h_ter) (.int z9)))), (h_nam, .inl (cy_nam, 300, .inr (.inl f10))), (h_var, .inl (cy_var, 300, .inl f11)), (h_trm, .inl (cy_trm, 300, .inl f12))] H := hP
    replace hD : va_D A [(h_by, .inl (cy_by, 600, .inl f_by)), (h_ter, .inl (cy_ter, 900, .inl f_ter)), (h_rd, .inr (4, (mo31 (.ref h_by) (.int x_rd_length) (.int z5) (.int z6) (.ref h_td) (.ref h_kn) (.int z7) (.int x_rd_at) (.int x_rd_behind) (.int x_rd_token) (.long x_rd_letters)))), (h_kn, .inl (cy_kn, 8, .inl f8)), (h_td, .inr (5, (mo32 v_td (.ref h_nam) (.ref h_var) (.ref h_trm) (.ref h_ter) (.int z9)))), (h_nam, .inl (cy_nam, 300, .inr (.inl f10))), (h_var, .inl (cy_var, 300, .inl f11)), (h_trm, .inl (cy_trm, 300, .inl f12))] := hD
    clear evq3 
    obtain ⟨k13, hf8, k14, hf11, hf12, k15, k16, k17, k18, k19, k20⟩ := hq
    replace k13 : 0 ≤ ((z7)).toInt ∧ ((z7)).toInt ≤ 8 := k13
    replace hf8 : Rg 0 299 (f8) := hf8
    replace k14 : 0 ≤ ((z9)).toInt ∧ ((z9)).toInt ≤ 300 := k14
    replace hf11 : Rg (-1) 7 (f11) := hf11
    replace hf12 : Rg 0 3 (f12) := hf12
    replace k15 : 0 ≤ (r4).toInt ∧ (r4).toInt ≤ 299 := k15
    replace k16 : ((z5)).toInt = ((pVar (G) ((x_rd_length)).toInt ((x_rd_at)).toInt ((x_rd_variables)).toInt (vf))).1 := k16
    replace k17 : (((z5)).toInt = 0 ∧ ((z6)).toInt = ((x_rd_place)).toInt ∧ ((pVar (G) ((x_rd_length)).toInt ((x_rd_at)).toInt ((x_rd_variables)).toInt (vf))).2.1 = tkN (G) ((x_rd_length)).toInt ((x_rd_at)).toInt) ∨ (((z5)).toInt = 2 ∧ ((z6)).toInt = ((x_rd_at)).toInt ∧ ((pVar (G) ((x_rd_length)).toInt ((x_rd_at)).toInt ((x_rd_variables)).toInt (vf))).2.1 = ((x_rd_at)).toInt ∧ ((z9)).toInt = ((x_td_parts)).toInt) := k17
    replace k18 : ((z7)).toInt = ((pVar (G) ((x_rd_length)).toInt ((x_rd_at)).toInt ((x_rd_variables)).toInt (vf))).2.2.1 := k18
    replace k19 : ((x_td_parts)).toInt ≤ ((z9)).toInt ∧ ((z9)).toInt ≤ ((x_td_parts)).toInt + 1 := k19
    replace k20 : VFC ((z7)).toInt ((pVar (G) ((x_rd_length)).toInt ((x_rd_at)).toInt ((x_rd_variables)).toInt (vf))).2.2.2 (f8) (f10) ((z9)).toInt := k20
    have rq9 : (pTm G (x_rd_length).toInt (pPs G (x_rd_length).toInt 0) (x_rd_at).toInt (x_rd_variables).toInt vf) = (pVar G (x_rd_length).toInt (x_rd_at).toInt (x_rd_variables).toInt vf) := pTm_var (by omega)
    have pq211 : ((pTm G (x_rd_length).toInt (pPs G (x_rd_length).toInt 0) (x_rd_at).toInt (x_rd_variables).toInt vf)).1 = ((pVar G (x_rd_length).toInt (x_rd_at).toInt (x_rd_variables).toInt vf)).1 := by rw [rq9]
    have pq212 : ((pTm G (x_rd_length).toInt (pPs G (x_rd_length).toInt 0) (x_rd_at).toInt (x_rd_variables).toInt vf)).2.1 = ((pVar G (x_rd_length).toInt (x_rd_at).toInt (x_rd_variables).toInt vf)).2.1 := by rw [rq9]
    have pq213 : ((pTm G (x_rd_length).toInt (pPs G (x_rd_length).toInt 0) (x_rd_at).toInt (x_rd_variables).toInt vf)).2.2.1 = ((pVar G (x_rd_length).toInt (x_rd_at).toInt (x_rd_variables).toInt vf)).2.2.1 := by rw [rq9]
    have pq214 : ((pTm G (x_rd_length).toInt (pPs G (x_rd_length).toInt 0) (x_rd_at).toInt (x_rd_variables).toInt vf)).2.2.2 = ((pVar G (x_rd_length).toInt (x_rd_at).toInt (x_rd_variables).toInt vf)).2.2.2 := by rw [rq9]
    refine lv_istore_n (lv' := [(3, .int r4), (2, .int 0), (0, .ref h_rd), (1, .int 6)]) hx hb dX5_readPart_39 rfl hl (by decide) rfl (fun ls hl => ?_)
    refine lv_aload_n hx hb dX5_readPart_40 rfl (lv_at hl 2 rfl) ?_
    refine va_get (D := (dC, dI)) (ci := 4) (v := .int z5) (C := RX5) (T := TX5) (N := 11) hx hb hw iwX5 hown hK hP 2 rfl rfl 2 (by decide) (hw _ w_f_X5_34) (fun _ h9 => h9) rfl dX5_readPart_41 ?_
    refine lv_if_eq (tgt := 49) hx hb dX5_readPart_44 (by decide) (fun c22 => ?_) (fun c22 => ?_)
    · have kc22 := (cv_eq (rfl : (z5).toInt = (z5).toInt) (by decide : (0 : Int32).toInt = 0)).mp c22
      refine lv_aload_n hx hb dX5_readPart_49 rfl (lv_at hl 2 rfl) ?_
      obtain ⟨vq23, evq23⟩ := mq31_29 (.int z5) (.int z6) (.ref h_td) (.ref h_kn) (.int z7)
      replace hP : va_P (dC, dI) cls [(h_by, .inl (cy_by, 600, .inl f_by)), (h_ter, .inl (cy_ter, 900, .inl f_ter)), (h_rd, .inr (4, (mo29 vq23 (.ref h_by) (.int x_rd_length) (.int x_rd_at) (.int x_rd_behind) (.int x_rd_token) (.long x_rd_letters)))), (h_kn, .inl (cy_kn, 8, .inl f8)), (h_td, .inr (5, (mo32 v_td (.ref h_nam) (.ref h_var) (.ref h_trm) (.ref h_ter) (.int z9)))), (h_nam, .inl (cy_nam, 300, .inr (.inl f10))), (h_var, .inl (cy_var, 300, .inl f11)), (h_trm, .inl (cy_trm, 300, .inl f12))] H := by rw [evq23]; exact hP
      replace hD : va_D A [(h_by, .inl (cy_by, 600, .inl f_by)), (h_ter, .inl (cy_ter, 900, .inl f_ter)), (h_rd, .inr (4, (mo29 vq23 (.ref h_by) (.int x_rd_length) (.int x_rd_at) (.int x_rd_behind) (.int x_rd_token) (.long x_rd_letters)))), (h_kn, .inl (cy_kn, 8, .inl f8)), (h_td, .inr (5, (mo32 v_td (.ref h_nam) (.ref h_var) (.ref h_trm) (.ref h_ter) (.int z9)))), (h_nam, .inl (cy_nam, 300, .inr (.inl f10))), (h_var, .inl (cy_var, 300, .inl f11)), (h_trm, .inl (cy_trm, 300, .inl f12))] := by rw [evq23]; exact hD
      have hPc := hP.sub (ws' := [(h_rd, .inr (4, (mo29 vq23 (.ref h_by) (.int x_rd_length) (.int x_rd_at) (.int x_rd_behind) (.int x_rd_token) (.long x_rd_letters)))), (h_by, .inl (cy_by, 600, .inl f_by))]) [2, 0] rfl
      have hDc := hD.sub (ws' := [(h_rd, .inr (4, (mo29 vq23 (.ref h_by) (.int x_rd_length) (.int x_rd_at) (.int x_rd_behind) (.int x_rd_token) (.long x_rd_letters)))), (h_by, .inl (cy_by, 600, .inl f_by))]) [2, 0] (by decide) rfl
      have hKc := hK.sub (tys' := [(cy_by, .int)]) [0] rfl
      have hFc := va_free (wc := [(h_rd, .inr (4, (mo29 vq23 (.ref h_by) (.int x_rd_length) (.int x_rd_at) (.int x_rd_behind) (.int x_rd_token) (.long x_rd_letters)))), (h_by, .inl (cy_by, 600, .inl f_by))]) hD hS hA [2, 0] rfl
      refine va_callv (va_runV (As := []) (rest := []) ⟨hx, hb, hml, hown, hts⟩ (c_X5_nextToken l dC dI H.size h_rd h_by vq23 x_rd_length x_rd_at x_rd_behind x_rd_token x_rd_letters cy_by f_by G (by first | exact hx_rd_length | omega) (by first | exact hx_rd_at | omega) (by first | exact hx_rd_behind | omega) hf_by (by first | exact q7 | omega) hn_byt) (cwV 0 hts (gv hT w_m_X5_40 w_instanceMethod_X5_nextToken ws_sel_X5_nextToken w_ini_X5 w_code_X5_nextToken) rfl rfl rfl (by decide +kernel) ⟨(Nat.le_of_ble_eq_true rfl), (Nat.le_of_ble_eq_true rfl)⟩) ⟨pre_blind, va_recv hK hP (ci := 4) (q0 := 2) rfl rfl, pre_of hPc hKc hDc hN⟩ rfl rfl hl.1 rfl (lv_room (Nat.le_of_ble_eq_true rfl)) dX5_readPart_50 ⟨(Nat.le_of_ble_eq_true rfl), (Nat.le_of_ble_eq_true rfl)⟩) hS (fun q _ h => hFc q h) hFc (fun u t H locs ht hvm hq hB hz1 hk1 hS9 => ?_)
      obtain ⟨z25, z26, z27, z28⟩ := u
      obtain ⟨hP1, hD1⟩ := hB
      rw [ht] at hP1
      obtain ⟨hP9, hD9⟩ := va_join (wr := [(h_ter, .inl (cy_ter, 900, .inl f_ter)), (h_kn, .inl (cy_kn, 8, .inl f8)), (h_td, .inr (5, (mo32 v_td (.ref h_nam) (.ref h_var) (.ref h_trm) (.ref h_ter) (.int z9)))), (h_nam, .inl (cy_nam, 300, .inr (.inl f10))), (h_var, .inl (cy_var, 300, .inl f11)), (h_trm, .inl (cy_trm, 300, .inl f12))]) (w1 := [(h_rd, .inr (4, (mo29 vq23 (.ref h_by) (.int x_rd_length) (.int z25) (.int z26) (.int z27) (.long z28)))), (h_by, .inl (cy_by, 600, .inl f_by))]) hP hD [2, 0] [1, 3, 4, 5, 6, 7] rfl rfl (by decide) (by decide) hk1 hFc hP1 hD1
      clear hP hD hS hPc hDc hKc hFc hP1 hD1 hk1 hz1 ht hvm
      have hP : va_P (dC, dI) cls [(h_ter, .inl (cy_ter, 900, .inl f_ter)), (h_kn, .inl (cy_kn, 8, .inl f8)), (h_td, .inr (5, (mo32 v_td (.ref h_nam) (.ref h_var) (.ref h_trm) (.ref h_ter) (.int z9)))), (h_nam, .inl (cy_nam, 300, .inr (.inl f10))), (h_var, .inl (cy_var, 300, .inl f11)), (h_trm, .inl (cy_trm, 300, .inl f12)), (h_rd, .inr (4, (mo29 vq23 (.ref h_by) (.int x_rd_length) (.int z25) (.int z26) (.int z27) (.long z28)))), (h_by, .inl (cy_by, 600, .inl f_by))] H := hP9
      have hD : va_D A [(h_ter, .inl (cy_ter, 900, .inl f_ter)), (h_kn, .inl (cy_kn, 8, .inl f8)), (h_td, .inr (5, (mo32 v_td (.ref h_nam) (.ref h_var) (.ref h_trm) (.ref h_ter) (.int z9)))), (h_nam, .inl (cy_nam, 300, .inr (.inl f10))), (h_var, .inl (cy_var, 300, .inl f11)), (h_trm, .inl (cy_trm, 300, .inl f12)), (h_rd, .inr (4, (mo29 vq23 (.ref h_by) (.int x_rd_length) (.int z25) (.int z26) (.int z27) (.long z28)))), (h_by, .inl (cy_by, 600, .inl f_by))] := hD9
      have hS := hS9
      clear hP9 hD9 hS9
      rw [evq23] at hP hD
      replace hP : va_P (dC, dI) cls [(h_ter, .inl (cy_ter, 900, .inl f_ter)), (h_kn, .inl (cy_kn, 8, .inl f8)), (h_td, .inr (5, (mo32 v_td (.ref h_nam) (.ref h_var) (.ref h_trm) (.ref h_ter) (.int z9)))), (h_nam, .inl (cy_nam, 300, .inr (.inl f10))), (h_var, .inl (cy_var, 300, .inl f11)), (h_trm, .inl (cy_trm, 300, .inl f12)), (h_rd, .inr (4, (mo31 (.ref h_by) (.int x_rd_length) (.int z5) (.int z6) (.ref h_td) (.ref h_kn) (.int z7) (.int z25) (.int z26) (.int z27) (.long z28)))), (h_by, .inl (cy_by, 600, .inl f_by))] H := hP
      replace hD : va_D A [(h_ter, .inl (cy_ter, 900, .inl f_ter)), (h_kn, .inl (cy_kn, 8, .inl f8)), (h_td, .inr (5, (mo32 v_td (.ref h_nam) (.ref h_var) (.ref h_trm) (.ref h_ter) (.int z9)))), (h_nam, .inl (cy_nam, 300, .inr (.inl f10))), (h_var, .inl (cy_var, 300, .inl f11)), (h_trm, .inl (cy_trm, 300, .inl f12)), (h_rd, .inr (4, (mo31 (.ref h_by) (.int x_rd_length) (.int z5) (.int z6) (.ref h_td) (.ref h_kn) (.int z7) (.int z25) (.int z26) (.int z27) (.long z28)))), (h_by, .inl (cy_by, 600, .inl f_by))] := hD
      clear evq23 
      obtain ⟨k29, k30, k31, k32, k33, k34, k35, k36, k37, k38, k39⟩ := hq
      replace k29 : 0 ≤ ((z25)).toInt ∧ ((z25)).toInt ≤ 600 := k29
      replace k30 : 0 ≤ ((z26)).toInt ∧ ((z26)).toInt ≤ 600 := k30
      replace k31 : ((z25)).toInt = tkS (G) ((x_rd_length)).toInt ((x_rd_behind)).toInt := k31
      replace k32 : ((x_rd_behind)).toInt ≤ ((z25)).toInt := k32
      replace k33 : ((z27)).toInt = tkT (G) ((x_rd_length)).toInt ((z25)).toInt := k33
      replace k34 : ((z27)).toInt = -1 ∨ ((z26)).toInt = tkX (G) ((x_rd_length)).toInt ((z25)).toInt := k34
      replace k35 : ¬ ((z27)).toInt = 257 ∨ ((z28)).toInt = (G) ((z25)).toInt := k35
      replace k36 : -1 ≤ ((z27)).toInt ∧ ((z27)).toInt ≤ 258 := k36
      replace k37 : ((z26)).toInt ≤ ((x_rd_length)).toInt := k37
      replace k38 : ((z27)).toInt = -1 ∨ ((z25)).toInt < ((x_rd_length)).toInt := k38
      replace k39 : ((z25)).toInt ≤ ((x_rd_length)).toInt := k39
      have tn40b : (x_rd_behind).toInt = tkX G (x_rd_length).toInt (x_rd_at).toInt := by omega
      have tn40 : (z25).toInt = tkN G (x_rd_length).toInt (x_rd_at).toInt := by rw [k31, tn40b]; rfl
      have tn40t : (z27).toInt = tkT G (x_rd_length).toInt (tkN G (x_rd_length).toInt (x_rd_at).toInt) := by rw [← tn40]; exact k33
      have tn40g := tkN_gt (G := G) (n := (x_rd_length).toInt) (a := (x_rd_at).toInt) (by omega) (by omega) (by omega)
      have tw9 := nx_two (G := G) (n := (x_rd_length).toInt) hn_byt.1 (by omega) (by omega) q0 (by omega) tn40 k33
      refine lv_iload_n hx hb dX5_readPart_53 rfl (lv_at hl 1 rfl) ?_
      refine lv_if_eq (tgt := 66) hx hb dX5_readPart_54 (by decide) (fun _ => ?_) (fun c9 => absurd c9 (by decide))
      refine lv_iload_n hx hb dX5_readPart_66 rfl (lv_at hl 0 rfl) ?_
      replace hP : va_P (dC, dI) cls [(h_rd, .inr (4, (mo31 (.ref h_by) (.int x_rd_length) (.int z5) (.int z6) (.ref h_td) (.ref h_kn) (.int z7) (.int z25) (.int z26) (.int z27) (.long z28)))), (h_by, .inl (cy_by, 600, .inl f_by)), (h_kn, .inl (cy_kn, 8, .inl f8)), (h_td, .inr (5, (mo32 v_td (.ref h_nam) (.ref h_var) (.ref h_trm) (.ref h_ter) (.int z9)))), (h_nam, .inl (cy_nam, 300, .inr (.inl f10))), (h_var, .inl (cy_var, 300, .inl f11)), (h_trm, .inl (cy_trm, 300, .inl f12)), (h_ter, .inl (cy_ter, 900, .inl f_ter))] H := hP.sub [6, 7, 1, 2, 3, 4, 5, 0] rfl
      replace hD : va_D A [(h_rd, .inr (4, (mo31 (.ref h_by) (.int x_rd_length) (.int z5) (.int z6) (.ref h_td) (.ref h_kn) (.int z7) (.int z25) (.int z26) (.int z27) (.long z28)))), (h_by, .inl (cy_by, 600, .inl f_by)), (h_kn, .inl (cy_kn, 8, .inl f8)), (h_td, .inr (5, (mo32 v_td (.ref h_nam) (.ref h_var) (.ref h_trm) (.ref h_ter) (.int z9)))), (h_nam, .inl (cy_nam, 300, .inr (.inl f10))), (h_var, .inl (cy_var, 300, .inl f11)), (h_trm, .inl (cy_trm, 300, .inl f12)), (h_ter, .inl (cy_ter, 900, .inl f_ter))] := hD.sub [6, 7, 1, 2, 3, 4, 5, 0] (by decide) rfl
      refine W.widen (k := 0) (n := 0) (Nat.le_of_ble_eq_true rfl) (Nat.le_of_ble_eq_true rfl) ?_
      have w41 : 0 ≤ ((z7)).toInt ∧ ((z7)).toInt ≤ 8 := by first | exact k13 | omega
      have w42 : 0 ≤ ((z25)).toInt ∧ ((z25)).toInt ≤ 600 := by first | exact k29 | omega
      have w43 : 0 ≤ ((z26)).toInt ∧ ((z26)).toInt ≤ 600 := by first | exact k30 | omega
      have w44 : 0 ≤ ((z9)).toInt ∧ ((z9)).toInt ≤ 300 := by first | exact k14 | omega
      have w45 : 0 ≤ (r4 : Int32).toInt ∧ (r4 : Int32).toInt ≤ 299 := by first | exact k15 | omega
      have w46 : ((z5)).toInt = ((pTm G (x_rd_length).toInt (pPs G (x_rd_length).toInt 0) (x_rd_at).toInt (x_rd_variables).toInt vf)).1 := by omega
      have w47 : ((z25)).toInt = ((pTm G (x_rd_length).toInt (pPs G (x_rd_length).toInt 0) (x_rd_at).toInt (x_rd_variables).toInt vf)).2.1 := by omega
      have w48 : ((z7)).toInt = ((pTm G (x_rd_length).toInt (pPs G (x_rd_length).toInt 0) (x_rd_at).toInt (x_rd_variables).toInt vf)).2.2.1 := by omega
      have w49 : (((z5)).toInt = 0 ∧ ((z6)).toInt = (x_rd_place).toInt) ∨ (¬ ((z5)).toInt = 0 ∧ ((z6)).toInt = ((z25)).toInt) := by omega
      have w50 : 2 * ((z9)).toInt ≤ ((z25)).toInt + 1 := by omega
      have w51 : ((z27)).toInt < 256 ∨ 2 * ((z9)).toInt ≤ ((z25)).toInt := by omega
      have w52 : (x_rd_at).toInt ≤ ((z25)).toInt := by omega
      have w53 : ((z27)).toInt = tkT G (x_rd_length).toInt ((z25)).toInt := by first | exact k33 | omega
      have w54 : ((z27)).toInt = -1 ∨ ((z26)).toInt = tkX G (x_rd_length).toInt ((z25)).toInt := by first | exact k34 | omega
      have w55 : ¬ ((z27)).toInt = 257 ∨ ((z28)).toInt = G ((z25)).toInt := by first | exact k35 | omega
      have w56 : -1 ≤ ((z27)).toInt ∧ ((z27)).toInt ≤ 258 := by first | exact k36 | omega
      have w57 : ((z26)).toInt ≤ (x_rd_length).toInt := by first | exact k37 | omega
      have w58 : ((z27)).toInt = -1 ∨ ((z25)).toInt < (x_rd_length).toInt := by first | exact k38 | omega
      have w59 : ((z25)).toInt ≤ (x_rd_length).toInt := by first | exact k39 | omega
      have w60 : VFC ((z7)).toInt ((pTm G (x_rd_length).toInt (pPs G (x_rd_length).toInt 0) (x_rd_at).toInt (x_rd_variables).toInt vf)).2.2.2 (f8) (f10) ((z9)).toInt := (by rw [pq214]; exact k20)
      exact W.iret (v := r4) hx hb hr (fun t ht hW => ⟨⟨r4, (z5, z6, z7, z25, z26, z27, z28, f8, z9, f10, f11, f12, f_ter), rfl, ⟨w41, w42, w43, hf8, w44, hf11, hf12, hf_ter, w45, w46, w47, w48, w49, w50, w51, w52, w53, w54, w55, w56, w57, w58, w59, w60⟩, by rw [ht]; exact hP, hD⟩, hS.F ht⟩) hS.2.2 dX5_readPart_67
    · have kc22 := (not_congr (cv_eq (rfl : (z5).toInt = (z5).toInt) (by decide : (0 : Int32).toInt = 0))).mp c22
      refine lv_iload_n hx hb dX5_readPart_47 rfl (lv_at hl 0 rfl) ?_
      replace hP : va_P (dC, dI) cls [(h_rd, .inr (4, (mo31 (.ref h_by) (.int x_rd_length) (.int z5) (.int z6) (.ref h_td) (.ref h_kn) (.int z7) (.int x_rd_at) (.int x_rd_behind) (.int x_rd_token) (.long x_rd_letters)))), (h_by, .inl (cy_by, 600, .inl f_by)), (h_kn, .inl (cy_kn, 8, .inl f8)), (h_td, .inr (5, (mo32 v_td (.ref h_nam) (.ref h_var) (.ref h_trm) (.ref h_ter) (.int z9)))), (h_nam, .inl (cy_nam, 300, .inr (.inl f10))), (h_var, .inl (cy_var, 300, .inl f11)), (h_trm, .inl (cy_trm, 300, .inl f12)), (h_ter, .inl (cy_ter, 900, .inl f_ter))] H := hP.sub [2, 0, 3, 4, 5, 6, 7, 1] rfl
      replace hD : va_D A [(h_rd, .inr (4, (mo31 (.ref h_by) (.int x_rd_length) (.int z5) (.int z6) (.ref h_td) (.ref h_kn) (.int z7) (.int x_rd_at) (.int x_rd_behind) (.int x_rd_token) (.long x_rd_letters)))), (h_by, .inl (cy_by, 600, .inl f_by)), (h_kn, .inl (cy_kn, 8, .inl f8)), (h_td, .inr (5, (mo32 v_td (.ref h_nam) (.ref h_var) (.ref h_trm) (.ref h_ter) (.int z9)))), (h_nam, .inl (cy_nam, 300, .inr (.inl f10))), (h_var, .inl (cy_var, 300, .inl f11)), (h_trm, .inl (cy_trm, 300, .inl f12)), (h_ter, .inl (cy_ter, 900, .inl f_ter))] := hD.sub [2, 0, 3, 4, 5, 6, 7, 1] (by decide) rfl
      refine W.widen (k := 0) (n := 0) (Nat.le_of_ble_eq_true rfl) (Nat.le_of_ble_eq_true rfl) ?_
      have w61 : 0 ≤ ((z7)).toInt ∧ ((z7)).toInt ≤ 8 := by first | exact k13 | omega
      have w62 : 0 ≤ ((x_rd_at)).toInt ∧ ((x_rd_at)).toInt ≤ 600 := by first | exact hx_rd_at | omega
      have w63 : 0 ≤ ((x_rd_behind)).toInt ∧ ((x_rd_behind)).toInt ≤ 600 := by first | exact hx_rd_behind | omega
      have w64 : 0 ≤ ((z9)).toInt ∧ ((z9)).toInt ≤ 300 := by first | exact k14 | omega
      have w65 : 0 ≤ (r4 : Int32).toInt ∧ (r4 : Int32).toInt ≤ 299 := by first | exact k15 | omega
      have w66 : ((z5)).toInt = ((pTm G (x_rd_length).toInt (pPs G (x_rd_length).toInt 0) (x_rd_at).toInt (x_rd_variables).toInt vf)).1 := by omega
      have w67 : ((x_rd_at)).toInt = ((pTm G (x_rd_length).toInt (pPs G (x_rd_length).toInt 0) (x_rd_at).toInt (x_rd_variables).toInt vf)).2.1 := by omega
      have w68 : ((z7)).toInt = ((pTm G (x_rd_length).toInt (pPs G (x_rd_length).toInt 0) (x_rd_at).toInt (x_rd_variables).toInt vf)).2.2.1 := by omega
      have w69 : (((z5)).toInt = 0 ∧ ((z6)).toInt = (x_rd_place).toInt) ∨ (¬ ((z5)).toInt = 0 ∧ ((z6)).toInt = ((x_rd_at)).toInt) := by omega
      have w70 : 2 * ((z9)).toInt ≤ ((x_rd_at)).toInt + 1 := by omega
      have w71 : ((x_rd_token)).toInt < 256 ∨ 2 * ((z9)).toInt ≤ ((x_rd_at)).toInt := by omega
      have w72 : (x_rd_at).toInt ≤ ((x_rd_at)).toInt := by omega
      have w73 : ((x_rd_token)).toInt = tkT G (x_rd_length).toInt ((x_rd_at)).toInt := by first | exact q0 | omega
      have w74 : ((x_rd_token)).toInt = -1 ∨ ((x_rd_behind)).toInt = tkX G (x_rd_length).toInt ((x_rd_at)).toInt := by omega
      have w75 : ¬ ((x_rd_token)).toInt = 257 ∨ ((x_rd_letters)).toInt = G ((x_rd_at)).toInt := by first | exact q3 | omega
      have w76 : -1 ≤ ((x_rd_token)).toInt ∧ ((x_rd_token)).toInt ≤ 258 := by omega
      have w77 : ((x_rd_behind)).toInt ≤ (x_rd_length).toInt := by first | exact q7 | omega
      have w78 : ((x_rd_token)).toInt = -1 ∨ ((x_rd_at)).toInt < (x_rd_length).toInt := by omega
      have w79 : ((x_rd_at)).toInt ≤ (x_rd_length).toInt := by omega
      have w80 : VFC ((z7)).toInt ((pTm G (x_rd_length).toInt (pPs G (x_rd_length).toInt 0) (x_rd_at).toInt (x_rd_variables).toInt vf)).2.2.2 (f8) (f10) ((z9)).toInt := (by rw [pq214]; exact k20)
      exact W.iret (v := r4) hx hb hr (fun t ht hW => ⟨⟨r4, (z5, z6, z7, x_rd_at, x_rd_behind, x_rd_token, x_rd_letters, f8, z9, f10, f11, f12, f_ter), rfl, ⟨w61, w62, w63, hf8, w64, hf11, hf12, hf_ter, w65, w66, w67, w68, w69, w70, w71, w72, w73, w74, w75, w76, w77, w78, w79, w80⟩, by rw [ht]; exact hP, hD⟩, hS.F ht⟩) hS.2.2 dX5_readPart_48
  · have kc1 := (cv_eq (rfl : (x_rd_token).toInt = (x_rd_token).toInt) (by decide : (256 : Int32).toInt = 256)).mp c1
    refine lv_iconst (v := 1) hx hb dX5_readPart_10 (by decide) ?_
    refine lv_goto (tgt := 15) hx hb dX5_readPart_11 (by decide) ?_
    refine lv_istore_n (lv' := [(2, .int 1), (0, .ref h_rd), (1, .int 6)]) hx hb dX5_readPart_15 rfl hl (by decide) rfl (fun ls hl => ?_)
    refine lv_iload_n hx hb dX5_readPart_16 rfl (lv_at hl 0 rfl) ?_
    refine lv_if_eq (tgt := 35) hx hb dX5_readPart_17 (by decide) (fun c9 => absurd c9 (by decide)) (fun _ => ?_)
    refine lv_aload_n hx hb dX5_readPart_20 rfl (lv_at hl 1 rfl) ?_
    refine va_get (D := (dC, dI)) (ci := 4) (v := .ref h_td) (C := RX5) (T := TX5) (N := 11) hx hb hw iwX5 hown hK hP 0 rfl rfl 4 (by decide) (hw _ w_f_X5_25) (fun _ h9 => h9) rfl dX5_readPart_21 ?_
    refine lv_aload_n hx hb dX5_readPart_24 rfl (lv_at hl 1 rfl) ?_
    refine va_get (D := (dC, dI)) (ci := 4) (v := .long x_rd_letters) (C := RX5) (T := TX5) (N := 11) hx hb hw iwX5 hown hK hP 0 rfl rfl 10 (by decide) (hw _ w_f_X5_85) (fun _ h9 => h9) rfl dX5_readPart_25 ?_
    refine lv_iconst (v := (-1)) hx hb dX5_readPart_28 (by decide) ?_
    obtain ⟨vq81, evq81⟩ := mq32_24 v_td (.ref h_ter)
    replace hP : va_P (dC, dI) cls [(h_rd, .inr (4, (mo31 (.ref h_by) (.int x_rd_length) (.int x_rd_fault) (.int x_rd_place) (.ref h_td) (.ref h_kn) (.int x_rd_variables) (.int x_rd_at) (.int x_rd_behind) (.int x_rd_token) (.long x_rd_letters)))), (h_by, .inl (cy_by, 600, .inl f_by)), (h_kn, .inl (cy_kn, 8, .inl f_kn)), (h_td, .inr (5, (mo24 vq81 (.ref h_nam) (.ref h_var) (.ref h_trm) (.int x_td_parts)))), (h_nam, .inl (cy_nam, 300, .inr (.inl f_nam))), (h_var, .inl (cy_var, 300, .inl f_var)), (h_trm, .inl (cy_trm, 300, .inl f_trm)), (h_ter, .inl (cy_ter, 900, .inl f_ter))] s.heap := by rw [evq81]; exact hP
    replace hD : va_D A [(h_rd, .inr (4, (mo31 (.ref h_by) (.int x_rd_length) (.int x_rd_fault) (.int x_rd_place) (.ref h_td) (.ref h_kn) (.int x_rd_variables) (.int x_rd_at) (.int x_rd_behind) (.int x_rd_token) (.long x_rd_letters)))), (h_by, .inl (cy_by, 600, .inl f_by)), (h_kn, .inl (cy_kn, 8, .inl f_kn)), (h_td, .inr (5, (mo24 vq81 (.ref h_nam) (.ref h_var) (.ref h_trm) (.int x_td_parts)))), (h_nam, .inl (cy_nam, 300, .inr (.inl f_nam))), (h_var, .inl (cy_var, 300, .inl f_var)), (h_trm, .inl (cy_trm, 300, .inl f_trm)), (h_ter, .inl (cy_ter, 900, .inl f_ter))] := by rw [evq81]; exact hD
    have cstm1 : ((-1) : Int32).toInt = -1 := by decide
    have hPc := hP.sub (ws' := [(h_td, .inr (5, (mo24 vq81 (.ref h_nam) (.ref h_var) (.ref h_trm) (.int x_td_parts)))), (h_nam, .inl (cy_nam, 300, .inr (.inl f_nam))), (h_var, .inl (cy_var, 300, .inl f_var)), (h_trm, .inl (cy_trm, 300, .inl f_trm))]) [3, 4, 5, 6] rfl
    have hDc := hD.sub (ws' := [(h_td, .inr (5, (mo24 vq81 (.ref h_nam) (.ref h_var) (.ref h_trm) (.int x_td_parts)))), (h_nam, .inl (cy_nam, 300, .inr (.inl f_nam))), (h_var, .inl (cy_var, 300, .inl f_var)), (h_trm, .inl (cy_trm, 300, .inl f_trm))]) [3, 4, 5, 6] (by decide) rfl
    have hKc := hK.sub (tys' := [(cy_nam, .long), (cy_var, .int), (cy_trm, .int)]) [2, 3, 4] rfl
    have hFc := va_free (wc := [(h_td, .inr (5, (mo24 vq81 (.ref h_nam) (.ref h_var) (.ref h_trm) (.int x_td_parts)))), (h_nam, .inl (cy_nam, 300, .inr (.inl f_nam))), (h_var, .inl (cy_var, 300, .inl f_var)), (h_trm, .inl (cy_trm, 300, .inl f_trm))]) hD hS hA [3, 4, 5, 6] rfl
    refine va_calli (va_runVN (As := [.long x_rd_letters, .int (-1)]) (rest := []) ⟨hx, hb, hml, hown, hts⟩ (c_X8_add l dC dI s.heap.size h_td h_nam h_var h_trm vq81 x_td_parts cy_nam f_nam cy_var f_var cy_trm f_trm x_rd_letters (-1) (by first | exact hx_td_parts | omega) hf_var hf_trm (by omega) (by omega)) ⟨va_cnB (host := "OppositePairs") 2 hts (gd hT w_code_X8_add) rfl rfl rfl (hN _ n_m_X5_89) (hw _ w_ini_X8) (by decide +kernel) ⟨(Nat.le_of_ble_eq_true rfl), (Nat.le_of_ble_eq_true rfl)⟩, hw _ w_instanceMethod_X8_add, hw _ ws_sel_X8_add⟩ ⟨pre_blind, va_recv hK hP (ci := 5) (q0 := 3) rfl rfl, pre_of hPc hKc hDc hN⟩ rfl rfl hl.1 rfl (lv_room (Nat.le_of_ble_eq_true rfl)) dX5_readPart_29 ⟨(Nat.le_of_ble_eq_true rfl), (Nat.le_of_ble_eq_true rfl)⟩) hS (fun q _ h => hFc q h) hFc (fun r82 u t H locs ht hvm hq hB hz1 hk1 hS9 => ?_)
    obtain ⟨z83, f84, f85, f86⟩ := u
    obtain ⟨hP1, hD1⟩ := hB
    rw [ht] at hP1
    obtain ⟨hP9, hD9⟩ := va_join (wr := [(h_rd, .inr (4, (mo31 (.ref h_by) (.int x_rd_length) (.int x_rd_fault) (.int x_rd_place) (.ref h_td) (.ref h_kn) (.int x_rd_variables) (.int x_rd_at) (.int x_rd_behind) (.int x_rd_token) (.long x_rd_letters)))), (h_by, .inl (cy_by, 600, .inl f_by)), (h_kn, .inl (cy_kn, 8, .inl f_kn)), (h_ter, .inl (cy_ter, 900, .inl f_ter))]) (w1 := [(h_td, .inr (5, (mo24 vq81 (.ref h_nam) (.ref h_var) (.ref h_trm) (.int z83)))), (h_nam, .inl (cy_nam, 300, .inr (.inl f84))), (h_var, .inl (cy_var, 300, .inl f85)), (h_trm, .inl (cy_trm, 300, .inl f86))]) hP hD [3, 4, 5, 6] [0, 1, 2, 7] rfl rfl (by decide) (by decide) hk1 hFc hP1 hD1
    clear hP hD hS hPc hDc hKc hFc hP1 hD1 hk1 hz1 ht hvm
    have hP : va_P (dC, dI) cls [(h_rd, .inr (4, (mo31 (.ref h_by) (.int x_rd_length) (.int x_rd_fault) (.int x_rd_place) (.ref h_td) (.ref h_kn) (.int x_rd_variables) (.int x_rd_at) (.int x_rd_behind) (.int x_rd_token) (.long x_rd_letters)))), (h_by, .inl (cy_by, 600, .inl f_by)), (h_kn, .inl (cy_kn, 8, .inl f_kn)), (h_ter, .inl (cy_ter, 900, .inl f_ter)), (h_td, .inr (5, (mo24 vq81 (.ref h_nam) (.ref h_var) (.ref h_trm) (.int z83)))), (h_nam, .inl (cy_nam, 300, .inr (.inl f84))), (h_var, .inl (cy_var, 300, .inl f85)), (h_trm, .inl (cy_trm, 300, .inl f86))] H := hP9
    have hD : va_D A [(h_rd, .inr (4, (mo31 (.ref h_by) (.int x_rd_length) (.int x_rd_fault) (.int x_rd_place) (.ref h_td) (.ref h_kn) (.int x_rd_variables) (.int x_rd_at) (.int x_rd_behind) (.int x_rd_token) (.long x_rd_letters)))), (h_by, .inl (cy_by, 600, .inl f_by)), (h_kn, .inl (cy_kn, 8, .inl f_kn)), (h_ter, .inl (cy_ter, 900, .inl f_ter)), (h_td, .inr (5, (mo24 vq81 (.ref h_nam) (.ref h_var) (.ref h_trm) (.int z83)))), (h_nam, .inl (cy_nam, 300, .inr (.inl f84))), (h_var, .inl (cy_var, 300, .inl f85)), (h_trm, .inl (cy_trm, 300, .inl f86))] := hD9
    have hS := hS9
    clear hP9 hD9 hS9
    rw [evq81] at hP hD
    replace hP : va_P (dC, dI) cls [(h_rd, .inr (4, (mo31 (.ref h_by) (.int x_rd_length) (.int x_rd_fault) (.int x_rd_place) (.ref h_td) (.ref h_kn) (.int x_rd_variables) (.int x_rd_at) (.int x_rd_behind) (.int x_rd_token) (.long x_rd_letters)))), (h_by, .inl (cy_by, 600, .inl f_by)), (h_kn, .inl (cy_kn, 8, .inl f_kn)), (h_ter, .inl (cy_ter, 900, .inl f_ter)), (h_td, .inr (5, (mo32 v_td (.ref h_nam) (.ref h_var) (.ref h_trm) (.ref h_ter) (.int z83)))), (h_nam, .inl (cy_nam, 300, .inr (.inl f84))), (h_var, .inl (cy_var, 300, .inl f85)), (h_trm, .inl (cy_trm, 300, .inl f86))] H := hP
    replace hD : va_D A [(h_rd, .inr (4, (mo31 (.ref h_by) (.int x_rd_length) (.int x_rd_fault) (.int x_rd_place) (.ref h_td) (.ref h_kn) (.int x_rd_variables) (.int x_rd_at) (.int x_rd_behind) (.int x_rd_token) (.long x_rd_letters)))), (h_by, .inl (cy_by, 600, .inl f_by)), (h_kn, .inl (cy_kn, 8, .inl f_kn)), (h_ter, .inl (cy_ter, 900, .inl f_ter)), (h_td, .inr (5, (mo32 v_td (.ref h_nam) (.ref h_var) (.ref h_trm) (.ref h_ter) (.int z83)))), (h_nam, .inl (cy_nam, 300, .inr (.inl f84))), (h_var, .inl (cy_var, 300, .inl f85)), (h_trm, .inl (cy_trm, 300, .inl f86))] := hD
    clear evq81 
    obtain ⟨k87, hf85, hf86, k88, k89, k90, k91⟩ := hq
    replace k87 : 0 ≤ ((z83)).toInt ∧ ((z83)).toInt ≤ 300 := k87
    replace hf85 : Rg (-1) 7 (f85) := hf85
    replace hf86 : Rg 0 3 (f86) := hf86
    replace k88 : 0 ≤ (r82).toInt ∧ (r82).toInt ≤ 299 := k88
    replace k89 : ((r82)).toInt = ((x_td_parts)).toInt := k89
    replace k90 : ((z83)).toInt = ((x_td_parts)).toInt + 1 := k90
    replace k91 : (f84) = vp_updL f_nam (Int32.toNatClampNeg (r82)) (x_rd_letters) := k91
    have vf92 : VFC (x_rd_variables).toInt vf f_kn f84 (z83).toInt := vfc_nam hn_vfc (by omega) (by omega) k91 (by omega) rfl
    refine lv_goto (tgt := 39) hx hb dX5_readPart_32 (by decide) ?_
    refine lv_istore_n (lv' := [(3, .int r82), (2, .int 1), (0, .ref h_rd), (1, .int 6)]) hx hb dX5_readPart_39 rfl hl (by decide) rfl (fun ls hl => ?_)
    refine lv_aload_n hx hb dX5_readPart_40 rfl (lv_at hl 2 rfl) ?_
    refine va_get (D := (dC, dI)) (ci := 4) (v := .int x_rd_fault) (C := RX5) (T := TX5) (N := 11) hx hb hw iwX5 hown hK hP 0 rfl rfl 2 (by decide) (hw _ w_f_X5_34) (fun _ h9 => h9) rfl dX5_readPart_41 ?_
    refine lv_if_eq (tgt := 49) hx hb dX5_readPart_44 (by decide) (fun _ => ?_) (fun c93 => False.elim (by have kc93 := (not_congr (cv_eq (rfl : (x_rd_fault).toInt = (x_rd_fault).toInt) (by decide : (0 : Int32).toInt = 0))).mp c93; omega))
    refine lv_aload_n hx hb dX5_readPart_49 rfl (lv_at hl 2 rfl) ?_
    obtain ⟨vq94, evq94⟩ := mq31_29 (.int x_rd_fault) (.int x_rd_place) (.ref h_td) (.ref h_kn) (.int x_rd_variables)
    replace hP : va_P (dC, dI) cls [(h_rd, .inr (4, (mo29 vq94 (.ref h_by) (.int x_rd_length) (.int x_rd_at) (.int x_rd_behind) (.int x_rd_token) (.long x_rd_letters)))), (h_by, .inl (cy_by, 600, .inl f_by)), (h_kn, .inl (cy_kn, 8, .inl f_kn)), (h_ter, .inl (cy_ter, 900, .inl f_ter)), (h_td, .inr (5, (mo32 v_td (.ref h_nam) (.ref h_var) (.ref h_trm) (.ref h_ter) (.int z83)))), (h_nam, .inl (cy_nam, 300, .inr (.inl f84))), (h_var, .inl (cy_var, 300, .inl f85)), (h_trm, .inl (cy_trm, 300, .inl f86))] H := by rw [evq94]; exact hP
    replace hD : va_D A [(h_rd, .inr (4, (mo29 vq94 (.ref h_by) (.int x_rd_length) (.int x_rd_at) (.int x_rd_behind) (.int x_rd_token) (.long x_rd_letters)))), (h_by, .inl (cy_by, 600, .inl f_by)), (h_kn, .inl (cy_kn, 8, .inl f_kn)), (h_ter, .inl (cy_ter, 900, .inl f_ter)), (h_td, .inr (5, (mo32 v_td (.ref h_nam) (.ref h_var) (.ref h_trm) (.ref h_ter) (.int z83)))), (h_nam, .inl (cy_nam, 300, .inr (.inl f84))), (h_var, .inl (cy_var, 300, .inl f85)), (h_trm, .inl (cy_trm, 300, .inl f86))] := by rw [evq94]; exact hD
    have hPc := hP.sub (ws' := [(h_rd, .inr (4, (mo29 vq94 (.ref h_by) (.int x_rd_length) (.int x_rd_at) (.int x_rd_behind) (.int x_rd_token) (.long x_rd_letters)))), (h_by, .inl (cy_by, 600, .inl f_by))]) [0, 1] rfl
    have hDc := hD.sub (ws' := [(h_rd, .inr (4, (mo29 vq94 (.ref h_by) (.int x_rd_length) (.int x_rd_at) (.int x_rd_behind) (.int x_rd_token) (.long x_rd_letters)))), (h_by, .inl (cy_by, 600, .inl f_by))]) [0, 1] (by decide) rfl
    have hKc := hK.sub (tys' := [(cy_by, .int)]) [0] rfl
    have hFc := va_free (wc := [(h_rd, .inr (4, (mo29 vq94 (.ref h_by) (.int x_rd_length) (.int x_rd_at) (.int x_rd_behind) (.int x_rd_token) (.long x_rd_letters)))), (h_by, .inl (cy_by, 600, .inl f_by))]) hD hS hA [0, 1] rfl
    refine va_callv (va_runV (As := []) (rest := []) ⟨hx, hb, hml, hown, hts⟩ (c_X5_nextToken l dC dI H.size h_rd h_by vq94 x_rd_length x_rd_at x_rd_behind x_rd_token x_rd_letters cy_by f_by G (by first | exact hx_rd_length | omega) (by first | exact hx_rd_at | omega) (by first | exact hx_rd_behind | omega) hf_by (by first | exact q7 | omega) hn_byt) (cwV 0 hts (gv hT w_m_X5_40 w_instanceMethod_X5_nextToken ws_sel_X5_nextToken w_ini_X5 w_code_X5_nextToken) rfl rfl rfl (by decide +kernel) ⟨(Nat.le_of_ble_eq_true rfl), (Nat.le_of_ble_eq_true rfl)⟩) ⟨pre_blind, va_recv hK hP (ci := 4) (q0 := 0) rfl rfl, pre_of hPc hKc hDc hN⟩ rfl rfl hl.1 rfl (lv_room (Nat.le_of_ble_eq_true rfl)) dX5_readPart_50 ⟨(Nat.le_of_ble_eq_true rfl), (Nat.le_of_ble_eq_true rfl)⟩) hS (fun q _ h => hFc q h) hFc (fun u t H locs ht hvm hq hB hz1 hk1 hS9 => ?_)
    obtain ⟨z96, z97, z98, z99⟩ := u
    obtain ⟨hP1, hD1⟩ := hB
    rw [ht] at hP1
    obtain ⟨hP9, hD9⟩ := va_join (wr := [(h_kn, .inl (cy_kn, 8, .inl f_kn)), (h_ter, .inl (cy_ter, 900, .inl f_ter)), (h_td, .inr (5, (mo32 v_td (.ref h_nam) (.ref h_var) (.ref h_trm) (.ref h_ter) (.int z83)))), (h_nam, .inl (cy_nam, 300, .inr (.inl f84))), (h_var, .inl (cy_var, 300, .inl f85)), (h_trm, .inl (cy_trm, 300, .inl f86))]) (w1 := [(h_rd, .inr (4, (mo29 vq94 (.ref h_by) (.int x_rd_length) (.int z96) (.int z97) (.int z98) (.long z99)))), (h_by, .inl (cy_by, 600, .inl f_by))]) hP hD [0, 1] [2, 3, 4, 5, 6, 7] rfl rfl (by decide) (by decide) hk1 hFc hP1 hD1
    clear hP hD hS hPc hDc hKc hFc hP1 hD1 hk1 hz1 ht hvm
    have hP : va_P (dC, dI) cls [(h_kn, .inl (cy_kn, 8, .inl f_kn)), (h_ter, .inl (cy_ter, 900, .inl f_ter)), (h_td, .inr (5, (mo32 v_td (.ref h_nam) (.ref h_var) (.ref h_trm) (.ref h_ter) (.int z83)))), (h_nam, .inl (cy_nam, 300, .inr (.inl f84))), (h_var, .inl (cy_var, 300, .inl f85)), (h_trm, .inl (cy_trm, 300, .inl f86)), (h_rd, .inr (4, (mo29 vq94 (.ref h_by) (.int x_rd_length) (.int z96) (.int z97) (.int z98) (.long z99)))), (h_by, .inl (cy_by, 600, .inl f_by))] H := hP9
    have hD : va_D A [(h_kn, .inl (cy_kn, 8, .inl f_kn)), (h_ter, .inl (cy_ter, 900, .inl f_ter)), (h_td, .inr (5, (mo32 v_td (.ref h_nam) (.ref h_var) (.ref h_trm) (.ref h_ter) (.int z83)))), (h_nam, .inl (cy_nam, 300, .inr (.inl f84))), (h_var, .inl (cy_var, 300, .inl f85)), (h_trm, .inl (cy_trm, 300, .inl f86)), (h_rd, .inr (4, (mo29 vq94 (.ref h_by) (.int x_rd_length) (.int z96) (.int z97) (.int z98) (.long z99)))), (h_by, .inl (cy_by, 600, .inl f_by))] := hD9
    have hS := hS9
    clear hP9 hD9 hS9
    rw [evq94] at hP hD
    replace hP : va_P (dC, dI) cls [(h_kn, .inl (cy_kn, 8, .inl f_kn)), (h_ter, .inl (cy_ter, 900, .inl f_ter)), (h_td, .inr (5, (mo32 v_td (.ref h_nam) (.ref h_var) (.ref h_trm) (.ref h_ter) (.int z83)))), (h_nam, .inl (cy_nam, 300, .inr (.inl f84))), (h_var, .inl (cy_var, 300, .inl f85)), (h_trm, .inl (cy_trm, 300, .inl f86)), (h_rd, .inr (4, (mo31 (.ref h_by) (.int x_rd_length) (.int x_rd_fault) (.int x_rd_place) (.ref h_td) (.ref h_kn) (.int x_rd_variables) (.int z96) (.int z97) (.int z98) (.long z99)))), (h_by, .inl (cy_by, 600, .inl f_by))] H := hP
    replace hD : va_D A [(h_kn, .inl (cy_kn, 8, .inl f_kn)), (h_ter, .inl (cy_ter, 900, .inl f_ter)), (h_td, .inr (5, (mo32 v_td (.ref h_nam) (.ref h_var) (.ref h_trm) (.ref h_ter) (.int z83)))), (h_nam, .inl (cy_nam, 300, .inr (.inl f84))), (h_var, .inl (cy_var, 300, .inl f85)), (h_trm, .inl (cy_trm, 300, .inl f86)), (h_rd, .inr (4, (mo31 (.ref h_by) (.int x_rd_length) (.int x_rd_fault) (.int x_rd_place) (.ref h_td) (.ref h_kn) (.int x_rd_variables) (.int z96) (.int z97) (.int z98) (.long z99)))), (h_by, .inl (cy_by, 600, .inl f_by))] := hD
    clear evq94 
    obtain ⟨k100, k101, k102, k103, k104, k105, k106, k107, k108, k109, k110⟩ := hq
    replace k100 : 0 ≤ ((z96)).toInt ∧ ((z96)).toInt ≤ 600 := k100
    replace k101 : 0 ≤ ((z97)).toInt ∧ ((z97)).toInt ≤ 600 := k101
    replace k102 : ((z96)).toInt = tkS (G) ((x_rd_length)).toInt ((x_rd_behind)).toInt := k102
    replace k103 : ((x_rd_behind)).toInt ≤ ((z96)).toInt := k103
    replace k104 : ((z98)).toInt = tkT (G) ((x_rd_length)).toInt ((z96)).toInt := k104
    replace k105 : ((z98)).toInt = -1 ∨ ((z97)).toInt = tkX (G) ((x_rd_length)).toInt ((z96)).toInt := k105
    replace k106 : ¬ ((z98)).toInt = 257 ∨ ((z99)).toInt = (G) ((z96)).toInt := k106
    replace k107 : -1 ≤ ((z98)).toInt ∧ ((z98)).toInt ≤ 258 := k107
    replace k108 : ((z97)).toInt ≤ ((x_rd_length)).toInt := k108
    replace k109 : ((z98)).toInt = -1 ∨ ((z96)).toInt < ((x_rd_length)).toInt := k109
    replace k110 : ((z96)).toInt ≤ ((x_rd_length)).toInt := k110
    have tn111b : (x_rd_behind).toInt = tkX G (x_rd_length).toInt (x_rd_at).toInt := by omega
    have tn111 : (z96).toInt = tkN G (x_rd_length).toInt (x_rd_at).toInt := by rw [k102, tn111b]; rfl
    have tn111t : (z98).toInt = tkT G (x_rd_length).toInt (tkN G (x_rd_length).toInt (x_rd_at).toInt) := by rw [← tn111]; exact k104
    have tn111g := tkN_gt (G := G) (n := (x_rd_length).toInt) (a := (x_rd_at).toInt) (by omega) (by omega) (by omega)
    have tw9 := nx_two (G := G) (n := (x_rd_length).toInt) hn_byt.1 (by omega) (by omega) q0 (by omega) tn111 k104
    refine lv_iload_n hx hb dX5_readPart_53 rfl (lv_at hl 1 rfl) ?_
    refine lv_if_eq (tgt := 66) hx hb dX5_readPart_54 (by decide) (fun c9 => absurd c9 (by decide)) (fun _ => ?_)
    refine lv_aload_n hx hb dX5_readPart_57 rfl (lv_at hl 2 rfl) ?_
    refine va_get (D := (dC, dI)) (ci := 4) (v := .int z98) (C := RX5) (T := TX5) (N := 11) hx hb hw iwX5 hown hK hP 6 rfl rfl 9 (by decide) (hw _ w_f_X5_43) (fun _ h9 => h9) rfl dX5_readPart_58 ?_
    refine lv_bipush (v := 40) hx hb dX5_readPart_61 (by decide) ?_
    refine lv_icmp_eq (tgt := 68) hx hb dX5_readPart_63 (by decide) (fun c112 => ?_) (fun c112 => ?_)
    · have kc112 := (cv_eq (rfl : (z98).toInt = (z98).toInt) (by decide : (40 : Int32).toInt = 40)).mp c112
      refine lv_iload_n hx hb dX5_readPart_68 rfl (lv_at hl 3 rfl) ?_
      refine lv_bipush (v := 6) hx hb dX5_readPart_69 (by decide) ?_
      refine lv_icmp_lt (tgt := 81) hx hb dX5_readPart_71 (by decide) (fun c9 => absurd c9 (by decide)) (fun _ => ?_)
      have pv9 : (pTm G (x_rd_length).toInt (pPs G (x_rd_length).toInt 0) (x_rd_at).toInt (x_rd_variables).toInt vf) = (2, tkN G (x_rd_length).toInt (x_rd_at).toInt, (x_rd_variables).toInt, vf) := (pTm_name (by omega)).trans (pPs_deep (by omega))
      have pq1131 : ((pTm G (x_rd_length).toInt (pPs G (x_rd_length).toInt 0) (x_rd_at).toInt (x_rd_variables).toInt vf)).1 = 2 := by rw [pv9]
      have pq1132 : ((pTm G (x_rd_length).toInt (pPs G (x_rd_length).toInt 0) (x_rd_at).toInt (x_rd_variables).toInt vf)).2.1 = tkN G (x_rd_length).toInt (x_rd_at).toInt := by rw [pv9]
      have pq1133 : ((pTm G (x_rd_length).toInt (pPs G (x_rd_length).toInt 0) (x_rd_at).toInt (x_rd_variables).toInt vf)).2.2.1 = (x_rd_variables).toInt := by rw [pv9]
      have pq1134 : ((pTm G (x_rd_length).toInt (pPs G (x_rd_length).toInt 0) (x_rd_at).toInt (x_rd_variables).toInt vf)).2.2.2 = vf := by rw [pv9]
      refine lv_aload_n hx hb dX5_readPart_74 rfl (lv_at hl 2 rfl) ?_
      refine lv_iconst (v := 2) hx hb dX5_readPart_75 (by decide) ?_
      obtain ⟨vq114, evq114⟩ := mq31_27 (.ref h_by) (.int x_rd_length) (.ref h_td) (.ref h_kn) (.int x_rd_variables) (.int z97) (.int z98) (.long z99)
      replace hP : va_P (dC, dI) cls [(h_kn, .inl (cy_kn, 8, .inl f_kn)), (h_ter, .inl (cy_ter, 900, .inl f_ter)), (h_td, .inr (5, (mo32 v_td (.ref h_nam) (.ref h_var) (.ref h_trm) (.ref h_ter) (.int z83)))), (h_nam, .inl (cy_nam, 300, .inr (.inl f84))), (h_var, .inl (cy_var, 300, .inl f85)), (h_trm, .inl (cy_trm, 300, .inl f86)), (h_rd, .inr (4, (mo27 vq114 (.int x_rd_fault) (.int x_rd_place) (.int z96)))), (h_by, .inl (cy_by, 600, .inl f_by))] H := by rw [evq114]; exact hP
      replace hD : va_D A [(h_kn, .inl (cy_kn, 8, .inl f_kn)), (h_ter, .inl (cy_ter, 900, .inl f_ter)), (h_td, .inr (5, (mo32 v_td (.ref h_nam) (.ref h_var) (.ref h_trm) (.ref h_ter) (.int z83)))), (h_nam, .inl (cy_nam, 300, .inr (.inl f84))), (h_var, .inl (cy_var, 300, .inl f85)), (h_trm, .inl (cy_trm, 300, .inl f86)), (h_rd, .inr (4, (mo27 vq114 (.int x_rd_fault) (.int x_rd_place) (.int z96)))), (h_by, .inl (cy_by, 600, .inl f_by))] := by rw [evq114]; exact hD
      have cst2 : (2 : Int32).toInt = 2 := by decide
      have hPc := hP.sub (ws' := [(h_rd, .inr (4, (mo27 vq114 (.int x_rd_fault) (.int x_rd_place) (.int z96))))]) [6] rfl
      have hDc := hD.sub (ws' := [(h_rd, .inr (4, (mo27 vq114 (.int x_rd_fault) (.int x_rd_place) (.int z96))))]) [6] (by decide) rfl
      have hKc := hK.sub (tys' := []) [] rfl
      have hFc := va_free (wc := [(h_rd, .inr (4, (mo27 vq114 (.int x_rd_fault) (.int x_rd_place) (.int z96))))]) hD hS hA [6] rfl
      refine va_callv (va_runV (As := [.int 2]) (rest := []) ⟨hx, hb, hml, hown, hts⟩ (c_X5_blame l dC dI H.size h_rd vq114 x_rd_fault x_rd_place z96 2 (by first | exact k100 | omega)) (cwV 1 hts (gv hT w_m_X5_56 w_instanceMethod_X5_blame ws_sel_X5_blame w_ini_X5 w_code_X5_blame) rfl rfl rfl (by decide +kernel) ⟨(Nat.le_of_ble_eq_true rfl), (Nat.le_of_ble_eq_true rfl)⟩) ⟨pre_blind, va_recv hK hP (ci := 4) (q0 := 6) rfl rfl, pre_of hPc hKc hDc hN⟩ rfl rfl hl.1 rfl (lv_room (Nat.le_of_ble_eq_true rfl)) dX5_readPart_76 ⟨(Nat.le_of_ble_eq_true rfl), (Nat.le_of_ble_eq_true rfl)⟩) hS (fun q _ h => hFc q h) hFc (fun u t H locs ht hvm hq hB hz1 hk1 hS9 => ?_)
      obtain ⟨z116, z117⟩ := u
      obtain ⟨hP1, hD1⟩ := hB
      rw [ht] at hP1
      obtain ⟨hP9, hD9⟩ := va_join (wr := [(h_kn, .inl (cy_kn, 8, .inl f_kn)), (h_ter, .inl (cy_ter, 900, .inl f_ter)), (h_td, .inr (5, (mo32 v_td (.ref h_nam) (.ref h_var) (.ref h_trm) (.ref h_ter) (.int z83)))), (h_nam, .inl (cy_nam, 300, .inr (.inl f84))), (h_var, .inl (cy_var, 300, .inl f85)), (h_trm, .inl (cy_trm, 300, .inl f86)), (h_by, .inl (cy_by, 600, .inl f_by))]) (w1 := [(h_rd, .inr (4, (mo27 vq114 (.int z116) (.int z117) (.int z96))))]) hP hD [6] [0, 1, 2, 3, 4, 5, 7] rfl rfl (by decide) (by decide) hk1 hFc hP1 hD1
      clear hP hD hS hPc hDc hKc hFc hP1 hD1 hk1 hz1 ht hvm
      have hP : va_P (dC, dI) cls [(h_kn, .inl (cy_kn, 8, .inl f_kn)), (h_ter, .inl (cy_ter, 900, .inl f_ter)), (h_td, .inr (5, (mo32 v_td (.ref h_nam) (.ref h_var) (.ref h_trm) (.ref h_ter) (.int z83)))), (h_nam, .inl (cy_nam, 300, .inr (.inl f84))), (h_var, .inl (cy_var, 300, .inl f85)), (h_trm, .inl (cy_trm, 300, .inl f86)), (h_by, .inl (cy_by, 600, .inl f_by)), (h_rd, .inr (4, (mo27 vq114 (.int z116) (.int z117) (.int z96))))] H := hP9
      have hD : va_D A [(h_kn, .inl (cy_kn, 8, .inl f_kn)), (h_ter, .inl (cy_ter, 900, .inl f_ter)), (h_td, .inr (5, (mo32 v_td (.ref h_nam) (.ref h_var) (.ref h_trm) (.ref h_ter) (.int z83)))), (h_nam, .inl (cy_nam, 300, .inr (.inl f84))), (h_var, .inl (cy_var, 300, .inl f85)), (h_trm, .inl (cy_trm, 300, .inl f86)), (h_by, .inl (cy_by, 600, .inl f_by)), (h_rd, .inr (4, (mo27 vq114 (.int z116) (.int z117) (.int z96))))] := hD9
      have hS := hS9
      clear hP9 hD9 hS9
      rw [evq114] at hP hD
      replace hP : va_P (dC, dI) cls [(h_kn, .inl (cy_kn, 8, .inl f_kn)), (h_ter, .inl (cy_ter, 900, .inl f_ter)), (h_td, .inr (5, (mo32 v_td (.ref h_nam) (.ref h_var) (.ref h_trm) (.ref h_ter) (.int z83)))), (h_nam, .inl (cy_nam, 300, .inr (.inl f84))), (h_var, .inl (cy_var, 300, .inl f85)), (h_trm, .inl (cy_trm, 300, .inl f86)), (h_by, .inl (cy_by, 600, .inl f_by)), (h_rd, .inr (4, (mo31 (.ref h_by) (.int x_rd_length) (.int z116) (.int z117) (.ref h_td) (.ref h_kn) (.int x_rd_variables) (.int z96) (.int z97) (.int z98) (.long z99))))] H := hP
      replace hD : va_D A [(h_kn, .inl (cy_kn, 8, .inl f_kn)), (h_ter, .inl (cy_ter, 900, .inl f_ter)), (h_td, .inr (5, (mo32 v_td (.ref h_nam) (.ref h_var) (.ref h_trm) (.ref h_ter) (.int z83)))), (h_nam, .inl (cy_nam, 300, .inr (.inl f84))), (h_var, .inl (cy_var, 300, .inl f85)), (h_trm, .inl (cy_trm, 300, .inl f86)), (h_by, .inl (cy_by, 600, .inl f_by)), (h_rd, .inr (4, (mo31 (.ref h_by) (.int x_rd_length) (.int z116) (.int z117) (.ref h_td) (.ref h_kn) (.int x_rd_variables) (.int z96) (.int z97) (.int z98) (.long z99))))] := hD
      clear evq114 
      obtain ⟨k118, k119⟩ := hq
      replace k118 : ((z116)).toInt = ((2 : Int32)).toInt := k118
      replace k119 : ((z117)).toInt = ((z96)).toInt := k119
      refine lv_iload_n hx hb dX5_readPart_79 rfl (lv_at hl 0 rfl) ?_
      replace hP : va_P (dC, dI) cls [(h_rd, .inr (4, (mo31 (.ref h_by) (.int x_rd_length) (.int z116) (.int z117) (.ref h_td) (.ref h_kn) (.int x_rd_variables) (.int z96) (.int z97) (.int z98) (.long z99)))), (h_by, .inl (cy_by, 600, .inl f_by)), (h_kn, .inl (cy_kn, 8, .inl f_kn)), (h_td, .inr (5, (mo32 v_td (.ref h_nam) (.ref h_var) (.ref h_trm) (.ref h_ter) (.int z83)))), (h_nam, .inl (cy_nam, 300, .inr (.inl f84))), (h_var, .inl (cy_var, 300, .inl f85)), (h_trm, .inl (cy_trm, 300, .inl f86)), (h_ter, .inl (cy_ter, 900, .inl f_ter))] H := hP.sub [7, 6, 0, 2, 3, 4, 5, 1] rfl
      replace hD : va_D A [(h_rd, .inr (4, (mo31 (.ref h_by) (.int x_rd_length) (.int z116) (.int z117) (.ref h_td) (.ref h_kn) (.int x_rd_variables) (.int z96) (.int z97) (.int z98) (.long z99)))), (h_by, .inl (cy_by, 600, .inl f_by)), (h_kn, .inl (cy_kn, 8, .inl f_kn)), (h_td, .inr (5, (mo32 v_td (.ref h_nam) (.ref h_var) (.ref h_trm) (.ref h_ter) (.int z83)))), (h_nam, .inl (cy_nam, 300, .inr (.inl f84))), (h_var, .inl (cy_var, 300, .inl f85)), (h_trm, .inl (cy_trm, 300, .inl f86)), (h_ter, .inl (cy_ter, 900, .inl f_ter))] := hD.sub [7, 6, 0, 2, 3, 4, 5, 1] (by decide) rfl
      refine W.widen (k := 0) (n := 0) (Nat.le_of_ble_eq_true rfl) (Nat.le_of_ble_eq_true rfl) ?_
      have w120 : 0 ≤ ((x_rd_variables)).toInt ∧ ((x_rd_variables)).toInt ≤ 8 := by first | exact hx_rd_variables | omega
      have w121 : 0 ≤ ((z96)).toInt ∧ ((z96)).toInt ≤ 600 := by first | exact k100 | omega
      have w122 : 0 ≤ ((z97)).toInt ∧ ((z97)).toInt ≤ 600 := by first | exact k101 | omega
      have w123 : 0 ≤ ((z83)).toInt ∧ ((z83)).toInt ≤ 300 := by first | exact k87 | omega
      have w124 : 0 ≤ (r82 : Int32).toInt ∧ (r82 : Int32).toInt ≤ 299 := by first | exact k88 | omega
      have w125 : ((z116)).toInt = ((pTm G (x_rd_length).toInt (pPs G (x_rd_length).toInt 0) (x_rd_at).toInt (x_rd_variables).toInt vf)).1 := by omega
      have w126 : ((z96)).toInt = ((pTm G (x_rd_length).toInt (pPs G (x_rd_length).toInt 0) (x_rd_at).toInt (x_rd_variables).toInt vf)).2.1 := by omega
      have w127 : ((x_rd_variables)).toInt = ((pTm G (x_rd_length).toInt (pPs G (x_rd_length).toInt 0) (x_rd_at).toInt (x_rd_variables).toInt vf)).2.2.1 := by omega
      have w128 : (((z116)).toInt = 0 ∧ ((z117)).toInt = (x_rd_place).toInt) ∨ (¬ ((z116)).toInt = 0 ∧ ((z117)).toInt = ((z96)).toInt) := by omega
      have w129 : 2 * ((z83)).toInt ≤ ((z96)).toInt + 1 := by omega
      have w130 : ((z98)).toInt < 256 ∨ 2 * ((z83)).toInt ≤ ((z96)).toInt := by omega
      have w131 : (x_rd_at).toInt ≤ ((z96)).toInt := by omega
      have w132 : ((z98)).toInt = tkT G (x_rd_length).toInt ((z96)).toInt := by first | exact k104 | omega
      have w133 : ((z98)).toInt = -1 ∨ ((z97)).toInt = tkX G (x_rd_length).toInt ((z96)).toInt := by first | exact k105 | omega
      have w134 : ¬ ((z98)).toInt = 257 ∨ ((z99)).toInt = G ((z96)).toInt := by first | exact k106 | omega
      have w135 : -1 ≤ ((z98)).toInt ∧ ((z98)).toInt ≤ 258 := by first | exact k107 | omega
      have w136 : ((z97)).toInt ≤ (x_rd_length).toInt := by first | exact k108 | omega
      have w137 : ((z98)).toInt = -1 ∨ ((z96)).toInt < (x_rd_length).toInt := by first | exact k109 | omega
      have w138 : ((z96)).toInt ≤ (x_rd_length).toInt := by first | exact k110 | omega
      have w139 : VFC ((x_rd_variables)).toInt ((pTm G (x_rd_length).toInt (pPs G (x_rd_length).toInt 0) (x_rd_at).toInt (x_rd_variables).toInt vf)).2.2.2 (f_kn) (f84) ((z83)).toInt := (by rw [pq1134]; exact vf92)
      exact W.iret (v := r82) hx hb hr (fun t ht hW => ⟨⟨r82, (z116, z117, x_rd_variables, z96, z97, z98, z99, f_kn, z83, f84, f85, f86, f_ter), rfl, ⟨w120, w121, w122, hf_kn, w123, hf85, hf86, hf_ter, w124, w125, w126, w127, w128, w129, w130, w131, w132, w133, w134, w135, w136, w137, w138, w139⟩, by rw [ht]; exact hP, hD⟩, hS.F ht⟩) hS.2.2 dX5_readPart_80
    · have kc112 := (not_congr (cv_eq (rfl : (z98).toInt = (z98).toInt) (by decide : (40 : Int32).toInt = 40))).mp c112
      have pv9 : (pTm G (x_rd_length).toInt (pPs G (x_rd_length).toInt 0) (x_rd_at).toInt (x_rd_variables).toInt vf) = (0, tkN G (x_rd_length).toInt (x_rd_at).toInt, (x_rd_variables).toInt, vf) := (pTm_name (by omega)).trans (pPs_none (by omega))
      have pq1401 : ((pTm G (x_rd_length).toInt (pPs G (x_rd_length).toInt 0) (x_rd_at).toInt (x_rd_variables).toInt vf)).1 = 0 := by rw [pv9]
      have pq1402 : ((pTm G (x_rd_length).toInt (pPs G (x_rd_length).toInt 0) (x_rd_at).toInt (x_rd_variables).toInt vf)).2.1 = tkN G (x_rd_length).toInt (x_rd_at).toInt := by rw [pv9]
      have pq1403 : ((pTm G (x_rd_length).toInt (pPs G (x_rd_length).toInt 0) (x_rd_at).toInt (x_rd_variables).toInt vf)).2.2.1 = (x_rd_variables).toInt := by rw [pv9]
      have pq1404 : ((pTm G (x_rd_length).toInt (pPs G (x_rd_length).toInt 0) (x_rd_at).toInt (x_rd_variables).toInt vf)).2.2.2 = vf := by rw [pv9]
      refine lv_iload_n hx hb dX5_readPart_66 rfl (lv_at hl 0 rfl) ?_
      replace hP : va_P (dC, dI) cls [(h_rd, .inr (4, (mo31 (.ref h_by) (.int x_rd_length) (.int x_rd_fault) (.int x_rd_place) (.ref h_td) (.ref h_kn) (.int x_rd_variables) (.int z96) (.int z97) (.int z98) (.long z99)))), (h_by, .inl (cy_by, 600, .inl f_by)), (h_kn, .inl (cy_kn, 8, .inl f_kn)), (h_td, .inr (5, (mo32 v_td (.ref h_nam) (.ref h_var) (.ref h_trm) (.ref h_ter) (.int z83)))), (h_nam, .inl (cy_nam, 300, .inr (.inl f84))), (h_var, .inl (cy_var, 300, .inl f85)), (h_trm, .inl (cy_trm, 300, .inl f86)), (h_ter, .inl (cy_ter, 900, .inl f_ter))] H := hP.sub [6, 7, 0, 2, 3, 4, 5, 1] rfl
      replace hD : va_D A [(h_rd, .inr (4, (mo31 (.ref h_by) (.int x_rd_length) (.int x_rd_fault) (.int x_rd_place) (.ref h_td) (.ref h_kn) (.int x_rd_variables) (.int z96) (.int z97) (.int z98) (.long z99)))), (h_by, .inl (cy_by, 600, .inl f_by)), (h_kn, .inl (cy_kn, 8, .inl f_kn)), (h_td, .inr (5, (mo32 v_td (.ref h_nam) (.ref h_var) (.ref h_trm) (.ref h_ter) (.int z83)))), (h_nam, .inl (cy_nam, 300, .inr (.inl f84))), (h_var, .inl (cy_var, 300, .inl f85)), (h_trm, .inl (cy_trm, 300, .inl f86)), (h_ter, .inl (cy_ter, 900, .inl f_ter))] := hD.sub [6, 7, 0, 2, 3, 4, 5, 1] (by decide) rfl
      refine W.widen (k := 0) (n := 0) (Nat.le_of_ble_eq_true rfl) (Nat.le_of_ble_eq_true rfl) ?_
      have w141 : 0 ≤ ((x_rd_variables)).toInt ∧ ((x_rd_variables)).toInt ≤ 8 := by first | exact hx_rd_variables | omega
      have w142 : 0 ≤ ((z96)).toInt ∧ ((z96)).toInt ≤ 600 := by first | exact k100 | omega
      have w143 : 0 ≤ ((z97)).toInt ∧ ((z97)).toInt ≤ 600 := by first | exact k101 | omega
      have w144 : 0 ≤ ((z83)).toInt ∧ ((z83)).toInt ≤ 300 := by first | exact k87 | omega
      have w145 : 0 ≤ (r82 : Int32).toInt ∧ (r82 : Int32).toInt ≤ 299 := by first | exact k88 | omega
      have w146 : ((x_rd_fault)).toInt = ((pTm G (x_rd_length).toInt (pPs G (x_rd_length).toInt 0) (x_rd_at).toInt (x_rd_variables).toInt vf)).1 := by omega
      have w147 : ((z96)).toInt = ((pTm G (x_rd_length).toInt (pPs G (x_rd_length).toInt 0) (x_rd_at).toInt (x_rd_variables).toInt vf)).2.1 := by omega
      have w148 : ((x_rd_variables)).toInt = ((pTm G (x_rd_length).toInt (pPs G (x_rd_length).toInt 0) (x_rd_at).toInt (x_rd_variables).toInt vf)).2.2.1 := by omega
      have w149 : (((x_rd_fault)).toInt = 0 ∧ ((x_rd_place)).toInt = (x_rd_place).toInt) ∨ (¬ ((x_rd_fault)).toInt = 0 ∧ ((x_rd_place)).toInt = ((z96)).toInt) := by omega
      have w150 : 2 * ((z83)).toInt ≤ ((z96)).toInt + 1 := by omega
      have w151 : ((z98)).toInt < 256 ∨ 2 * ((z83)).toInt ≤ ((z96)).toInt := by omega
      have w152 : (x_rd_at).toInt ≤ ((z96)).toInt := by omega
      have w153 : ((z98)).toInt = tkT G (x_rd_length).toInt ((z96)).toInt := by first | exact k104 | omega
      have w154 : ((z98)).toInt = -1 ∨ ((z97)).toInt = tkX G (x_rd_length).toInt ((z96)).toInt := by first | exact k105 | omega
      have w155 : ¬ ((z98)).toInt = 257 ∨ ((z99)).toInt = G ((z96)).toInt := by first | exact k106 | omega
      have w156 : -1 ≤ ((z98)).toInt ∧ ((z98)).toInt ≤ 258 := by first | exact k107 | omega
      have w157 : ((z97)).toInt ≤ (x_rd_length).toInt := by first | exact k108 | omega
      have w158 : ((z98)).toInt = -1 ∨ ((z96)).toInt < (x_rd_length).toInt := by first | exact k109 | omega
      have w159 : ((z96)).toInt ≤ (x_rd_length).toInt := by first | exact k110 | omega
      have w160 : VFC ((x_rd_variables)).toInt ((pTm G (x_rd_length).toInt (pPs G (x_rd_length).toInt 0) (x_rd_at).toInt (x_rd_variables).toInt vf)).2.2.2 (f_kn) (f84) ((z83)).toInt := (by rw [pq1404]; exact vf92)
      exact W.iret (v := r82) hx hb hr (fun t ht hW => ⟨⟨r82, (x_rd_fault, x_rd_place, x_rd_variables, z96, z97, z98, z99, f_kn, z83, f84, f85, f86, f_ter), rfl, ⟨w141, w142, w143, hf_kn, w144, hf85, hf86, hf_ter, w145, w146, w147, w148, w149, w150, w151, w152, w153, w154, w155, w156, w157, w158, w159, w160⟩, by rw [ht]; exact hP, hD⟩, hS.F ht⟩) hS.2.2 dX5_readPart_67

set_option maxHeartbeats 8000000 in
set_option maxRecDepth 100000 in
theorem c_X5_readPart_5 (l : Launch) (dC : Nat → ClassId) (dI : Nat → Nat → Nat) (sz : Nat) (h_rd : Nat) (h_by : Nat) (h_kn : Nat) (h_td : Nat) (h_nam : Nat) (h_var : Nat) (h_trm : Nat) (h_ter : Nat) (x_rd_length : Int32) (x_rd_fault : Int32) (x_rd_place : Int32) (x_rd_variables : Int32) (x_rd_at : Int32) (x_rd_behind : Int32) (x_rd_token : Int32) (x_rd_letters : Int64) (cy_by : ClassId) (f_by : Nat → Int32) (cy_kn : ClassId) (f_kn : Nat → Int32) (v_td : Nat → Value) (x_td_parts : Int32) (cy_nam : ClassId) (f_nam : Nat → Int64) (cy_var : ClassId) (f_var : Nat → Int32) (cy_trm : ClassId) (f_trm : Nat → Int32) (cy_ter : ClassId) (f_ter : Nat → Int32) (G : Int → Int) (vf : Int → Int) (hx_rd_length : 0 ≤ (x_rd_length).toInt ∧ (x_rd_length).toInt ≤ 600) (hx_rd_variables : 0 ≤ (x_rd_variables).toInt ∧ (x_rd_variables).toInt ≤ 8) (hx_rd_at : 0 ≤ (x_rd_at).toInt ∧ (x_rd_at).toInt ≤ 600) (hx_rd_behind : 0 ≤ (x_rd_behind).toInt ∧ (x_rd_behind).toInt ≤ 600) (hf_by : Rg 0 255 f_by) (hf_kn : Rg 0 299 f_kn) (hx_td_parts : 0 ≤ (x_td_parts).toInt ∧ (x_td_parts).toInt ≤ 300) (hf_var : Rg (-1) 7 f_var) (hf_trm : Rg 0 3 f_trm) (hf_ter : Rg 0 299 f_ter) (q0 : (x_rd_token).toInt = tkT G (x_rd_length).toInt (x_rd_at).toInt) (q1 : (x_rd_token).toInt = 256 ∨ (x_rd_token).toInt = 257) (q2 : (x_rd_behind).toInt = tkX G (x_rd_length).toInt (x_rd_at).toInt) (q3 : ¬ (x_rd_token).toInt = 257 ∨ (x_rd_letters).toInt = G (x_rd_at).toInt) (q4 : 0 ≤ (x_rd_fault).toInt ∧ (x_rd_fault).toInt ≤ 0) (q5 : 2 * (x_td_parts).toInt ≤ (x_rd_at).toInt) (q6 : (x_rd_at).toInt < (x_rd_length).toInt) (q7 : (x_rd_behind).toInt ≤ (x_rd_length).toInt) (hn_byt : BYT G (x_rd_length).toInt f_by) (hn_vfc : VFC (x_rd_variables).toInt vf f_kn f_nam (x_td_parts).toInt) : Met l yX5_readPart (Ws yX5_readPart cX5_readPart 5 (some .int)) (({ frames := 4, cells := 0, slots := 0, locals := 149 } : Room)) (PRE (dC, dI) cls [(cy_by, .int), (cy_kn, .int), (cy_nam, .long), (cy_var, .int), (cy_trm, .int), (cy_ter, .int)] [(h_rd, .inr (4, (mo31 (.ref h_by) (.int x_rd_length) (.int x_rd_fault) (.int x_rd_place) (.ref h_td) (.ref h_kn) (.int x_rd_variables) (.int x_rd_at) (.int x_rd_behind) (.int x_rd_token) (.long x_rd_letters)))), (h_by, .inl (cy_by, 600, .inl f_by)), (h_kn, .inl (cy_kn, 8, .inl f_kn)), (h_td, .inr (5, (mo32 v_td (.ref h_nam) (.ref h_var) (.ref h_trm) (.ref h_ter) (.int x_td_parts)))), (h_nam, .inl (cy_nam, 300, .inr (.inl f_nam))), (h_var, .inl (cy_var, 300, .inl f_var)), (h_trm, .inl (cy_trm, 300, .inl f_trm)), (h_ter, .inl (cy_ter, 900, .inl f_ter))] sz [.ref h_rd, .int 5]) (va_Qi (fun (r : Int32) (u : (Int32) × (Int32) × (Int32) × (Int32) × (Int32) × (Int32) × (Int64) × (Nat → Int32) × (Int32) × (Nat → Int64) × (Nat → Int32) × (Nat → Int32) × (Nat → Int32)) => (0 ≤ (u.2.2.1).toInt ∧ (u.2.2.1).toInt ≤ 8) ∧ (0 ≤ (u.2.2.2.1).toInt ∧ (u.2.2.2.1).toInt ≤ 600) ∧ (0 ≤ (u.2.2.2.2.1).toInt ∧ (u.2.2.2.2.1).toInt ≤ 600) ∧ (Rg 0 299 u.2.2.2.2.2.2.2.1) ∧ (0 ≤ (u.2.2.2.2.2.2.2.2.1).toInt ∧ (u.2.2.2.2.2.2.2.2.1).toInt ≤ 300) ∧ (Rg (-1) 7 u.2.2.2.2.2.2.2.2.2.2.1) ∧ (Rg 0 3 u.2.2.2.2.2.2.2.2.2.2.2.1) ∧ (Rg 0 299 u.2.2.2.2.2.2.2.2.2.2.2.2) ∧ (0 ≤ r.toInt ∧ r.toInt ≤ 299) ∧ ((u.1).toInt = ((pTm G (x_rd_length).toInt (pPs G (x_rd_length).toInt 1) (x_rd_at).toInt (x_rd_variables).toInt vf)).1) ∧ ((u.2.2.2.1).toInt = ((pTm G (x_rd_length).toInt (pPs G (x_rd_length).toInt 1) (x_rd_at).toInt (x_rd_variables).toInt vf)).2.1) ∧ ((u.2.2.1).toInt = ((pTm G (x_rd_length).toInt (pPs G (x_rd_length).toInt 1) (x_rd_at).toInt (x_rd_variables).toInt vf)).2.2.1) ∧ (((u.1).toInt = 0 ∧ (u.2.1).toInt = (x_rd_place).toInt) ∨ (¬ (u.1).toInt = 0 ∧ (u.2.1).toInt = (u.2.2.2.1).toInt)) ∧ (2 * (u.2.2.2.2.2.2.2.2.1).toInt ≤ (u.2.2.2.1).toInt + 1) ∧ ((u.2.2.2.2.2.1).toInt < 256 ∨ 2 * (u.2.2.2.2.2.2.2.2.1).toInt ≤ (u.2.2.2.1).toInt) ∧ ((x_rd_at).toInt ≤ (u.2.2.2.1).toInt) ∧ ((u.2.2.2.2.2.1).toInt = tkT G (x_rd_length).toInt (u.2.2.2.1).toInt) ∧ ((u.2.2.2.2.2.1).toInt = -1 ∨ (u.2.2.2.2.1).toInt = tkX G (x_rd_length).toInt (u.2.2.2.1).toInt) ∧ (¬ (u.2.2.2.2.2.1).toInt = 257 ∨ (u.2.2.2.2.2.2.1).toInt = G (u.2.2.2.1).toInt) ∧ (-1 ≤ (u.2.2.2.2.2.1).toInt ∧ (u.2.2.2.2.2.1).toInt ≤ 258) ∧ ((u.2.2.2.2.1).toInt ≤ (x_rd_length).toInt) ∧ ((u.2.2.2.2.2.1).toInt = -1 ∨ (u.2.2.2.1).toInt < (x_rd_length).toInt) ∧ ((u.2.2.2.1).toInt ≤ (x_rd_length).toInt) ∧ (VFC (u.2.2.1).toInt ((pTm G (x_rd_length).toInt (pPs G (x_rd_length).toInt 1) (x_rd_at).toInt (x_rd_variables).toInt vf)).2.2.2 u.2.2.2.2.2.2.2.1 u.2.2.2.2.2.2.2.2.2.1 (u.2.2.2.2.2.2.2.2.1).toInt)) (fun (u : (Int32) × (Int32) × (Int32) × (Int32) × (Int32) × (Int32) × (Int64) × (Nat → Int32) × (Int32) × (Nat → Int64) × (Nat → Int32) × (Nat → Int32) × (Nat → Int32)) (t : State) => va_P (dC, dI) cls [(h_rd, .inr (4, (mo31 (.ref h_by) (.int x_rd_length) (.int u.1) (.int u.2.1) (.ref h_td) (.ref h_kn) (.int u.2.2.1) (.int u.2.2.2.1) (.int u.2.2.2.2.1) (.int u.2.2.2.2.2.1) (.long u.2.2.2.2.2.2.1)))), (h_by, .inl (cy_by, 600, .inl f_by)), (h_kn, .inl (cy_kn, 8, .inl u.2.2.2.2.2.2.2.1)), (h_td, .inr (5, (mo32 v_td (.ref h_nam) (.ref h_var) (.ref h_trm) (.ref h_ter) (.int u.2.2.2.2.2.2.2.2.1)))), (h_nam, .inl (cy_nam, 300, .inr (.inl u.2.2.2.2.2.2.2.2.2.1))), (h_var, .inl (cy_var, 300, .inl u.2.2.2.2.2.2.2.2.2.2.1)), (h_trm, .inl (cy_trm, 300, .inl u.2.2.2.2.2.2.2.2.2.2.2.1)), (h_ter, .inl (cy_ter, 900, .inl u.2.2.2.2.2.2.2.2.2.2.2.2))] t.heap ∧ va_D (va_A [(h_rd, .inr (4, (mo31 (.ref h_by) (.int x_rd_length) (.int x_rd_fault) (.int x_rd_place) (.ref h_td) (.ref h_kn) (.int x_rd_variables) (.int x_rd_at) (.int x_rd_behind) (.int x_rd_token) (.long x_rd_letters)))), (h_by, .inl (cy_by, 600, .inl f_by)), (h_kn, .inl (cy_kn, 8, .inl f_kn)), (h_td, .inr (5, (mo32 v_td (.ref h_nam) (.ref h_var) (.ref h_trm) (.ref h_ter) (.int x_td_parts)))), (h_nam, .inl (cy_nam, 300, .inr (.inl f_nam))), (h_var, .inl (cy_var, 300, .inl f_var)), (h_trm, .inl (cy_trm, 300, .inl f_trm)), (h_ter, .inl (cy_ter, 900, .inl f_ter))] sz) [(h_rd, .inr (4, (mo31 (.ref h_by) (.int x_rd_length) (.int u.1) (.int u.2.1) (.ref h_td) (.ref h_kn) (.int u.2.2.1) (.int u.2.2.2.1) (.int u.2.2.2.2.1) (.int u.2.2.2.2.2.1) (.long u.2.2.2.2.2.2.1)))), (h_by, .inl (cy_by, 600, .inl f_by)), (h_kn, .inl (cy_kn, 8, .inl u.2.2.2.2.2.2.2.1)), (h_td, .inr (5, (mo32 v_td (.ref h_nam) (.ref h_var) (.ref h_trm) (.ref h_ter) (.int u.2.2.2.2.2.2.2.2.1)))), (h_nam, .inl (cy_nam, 300, .inr (.inl u.2.2.2.2.2.2.2.2.2.1))), (h_var, .inl (cy_var, 300, .inl u.2.2.2.2.2.2.2.2.2.2.1)), (h_trm, .inl (cy_trm, 300, .inl u.2.2.2.2.2.2.2.2.2.2.2.1)), (h_ter, .inl (cy_ter, 900, .inl u.2.2.2.2.2.2.2.2.2.2.2.2))]) (va_A [(h_rd, .inr (4, (mo31 (.ref h_by) (.int x_rd_length) (.int x_rd_fault) (.int x_rd_place) (.ref h_td) (.ref h_kn) (.int x_rd_variables) (.int x_rd_at) (.int x_rd_behind) (.int x_rd_token) (.long x_rd_letters)))), (h_by, .inl (cy_by, 600, .inl f_by)), (h_kn, .inl (cy_kn, 8, .inl f_kn)), (h_td, .inr (5, (mo32 v_td (.ref h_nam) (.ref h_var) (.ref h_trm) (.ref h_ter) (.int x_td_parts)))), (h_nam, .inl (cy_nam, 300, .inr (.inl f_nam))), (h_var, .inl (cy_var, 300, .inl f_var)), (h_trm, .inl (cy_trm, 300, .inl f_trm)), (h_ter, .inl (cy_ter, 900, .inl f_ter))] sz)) 0 0 (va_A [(h_rd, .inr (4, (mo31 (.ref h_by) (.int x_rd_length) (.int x_rd_fault) (.int x_rd_place) (.ref h_td) (.ref h_kn) (.int x_rd_variables) (.int x_rd_at) (.int x_rd_behind) (.int x_rd_token) (.long x_rd_letters)))), (h_by, .inl (cy_by, 600, .inl f_by)), (h_kn, .inl (cy_kn, 8, .inl f_kn)), (h_td, .inr (5, (mo32 v_td (.ref h_nam) (.ref h_var) (.ref h_trm) (.ref h_ter) (.int x_td_parts)))), (h_nam, .inl (cy_nam, 300, .inr (.inl f_nam))), (h_var, .inl (cy_var, 300, .inl f_var)), (h_trm, .inl (cy_trm, 300, .inl f_trm)), (h_ter, .inl (cy_ter, 900, .inl f_ter))] sz) := by
  refine Met.ofW (cc := cX5_readPart) (maxL := 5) (ret := (some .int)) (by decide) rfl ?_
  intro p e s m args below meth c s₁ B hml hv
  obtain ⟨rfl, hsz, hP, hK, hD0, hN⟩ := hv
  have hx := B.exec
  have hb := B.bytes
  have hr := B.returns
  have hts := atoms_spec (ws := Ws yX5_readPart cX5_readPart 5 (some .int)) B.pre
  have hT : ∀ w ∈ WALL, w ∈ Ws yX5_readPart cX5_readPart 5 (some .int) := fun w h => List.mem_cons_of_mem _ h
  have hw := fun w (h : w ∈ WALL) => hts w (hT w h)
  have hown : s.vm.findClass RX5 = some m.cls := findClass_of_methodNamed B.named
  have hlocks := B.notSynchronized
  subst hsz
  have hD := hD0.self (sz := s.heap.size)
  generalize hAe : va_A [(h_rd, .inr (4, (mo31 (.ref h_by) (.int x_rd_length) (.int x_rd_fault) (.int x_rd_place) (.ref h_td) (.ref h_kn) (.int x_rd_variables) (.int x_rd_at) (.int x_rd_behind) (.int x_rd_token) (.long x_rd_letters)))), (h_by, .inl (cy_by, 600, .inl f_by)), (h_kn, .inl (cy_kn, 8, .inl f_kn)), (h_td, .inr (5, (mo32 v_td (.ref h_nam) (.ref h_var) (.ref h_trm) (.ref h_ter) (.int x_td_parts)))), (h_nam, .inl (cy_nam, 300, .inr (.inl f_nam))), (h_var, .inl (cy_var, 300, .inl f_var)), (h_trm, .inl (cy_trm, 300, .inl f_trm)), (h_ter, .inl (cy_ter, 900, .inl f_ter))] s.heap.size = A at hD ⊢
  have hA : ∀ q : Nat, s.heap.size ≤ q → A q := fun q h => by rw [← hAe]; exact Or.inr h
  have hS : va_S A s.heap s.heap [] := va_S.rf
  have hl := lv_entry ([.ref h_rd, .int 5]) (n := 5) (Nat.le_of_ble_eq_true rfl)
  rw [lg_entry_eq]
  generalize (lg_sl ([.ref h_rd, .int 5]) ++ List.replicate (5 - (lg_sl ([.ref h_rd, .int 5])).length) Slot.unset).toArray = ls at hl ⊢
  have hl : lv_has ls 5 [(0, .ref h_rd), (1, .int 5)] := hl
  refine lv_aload_n hx hb dX5_readPart_0 rfl (lv_at hl 0 rfl) ?_
  refine va_get (D := (dC, dI)) (ci := 4) (v := .int x_rd_token) (C := RX5) (T := TX5) (N := 11) hx hb hw iwX5 hown hK hP 0 rfl rfl 9 (by decide) (hw _ w_f_X5_43) (fun _ h9 => h9) rfl dX5_readPart_1 ?_
  refine lv_sipush (v := 256) hx hb dX5_readPart_4 (by decide) ?_
  refine lv_icmp_ne (tgt := 14) hx hb dX5_readPart_7 (by decide) (fun c1 => ?_) (fun c1 => ?_)
  · have kc1 := (not_congr (cv_eq (rfl : (x_rd_token).toInt = (x_rd_token).toInt) (by decide : (256 : Int32).toInt = 256))).mp c1
    refine lv_iconst (v := 0) hx hb dX5_readPart_14 (by decide) ?_
    refine lv_istore_n (lv' := [(2, .int 0), (0, .ref h_rd), (1, .int 5)]) hx hb dX5_readPart_15 rfl hl (by decide) rfl (fun ls hl => ?_)
    refine lv_iload_n hx hb dX5_readPart_16 rfl (lv_at hl 0 rfl) ?_
    refine lv_if_eq (tgt := 35) hx hb dX5_readPart_17 (by decide) (fun _ => ?_) (fun c9 => absurd c9 (by decide))
    refine lv_aload_n hx hb dX5_readPart_35 rfl (lv_at hl 1 rfl) ?_
    obtain ⟨vq2, evq2⟩ := mq31_30 (.ref h_by) (.int x_rd_behind) (.int x_rd_token)
    replace hP : va_P (dC, dI) cls [(h_rd, .inr (4, (mo30 vq2 (.int x_rd_length) (.int x_rd_fault) (.int x_rd_place) (.ref h_td) (.ref h_kn) (.int x_rd_variables) (.int x_rd_at) (.long x_rd_letters)))), (h_by, .inl (cy_by, 600, .inl f_by)), (h_kn, .inl (cy_kn, 8, .inl f_kn)), (h_td, .inr (5, (mo32 v_td (.ref h_nam) (.ref h_var) (.ref h_trm) (.ref h_ter) (.int x_td_parts)))), (h_nam, .inl (cy_nam, 300, .inr (.inl f_nam))), (h_var, .inl (cy_var, 300, .inl f_var)), (h_trm, .inl (cy_trm, 300, .inl f_trm)), (h_ter, .inl (cy_ter, 900, .inl f_ter))] s.heap := by rw [evq2]; exact hP
    replace hD : va_D A [(h_rd, .inr (4, (mo30 vq2 (.int x_rd_length) (.int x_rd_fault) (.int x_rd_place) (.ref h_td) (.ref h_kn) (.int x_rd_variables) (.int x_rd_at) (.long x_rd_letters)))), (h_by, .inl (cy_by, 600, .inl f_by)), (h_kn, .inl (cy_kn, 8, .inl f_kn)), (h_td, .inr (5, (mo32 v_td (.ref h_nam) (.ref h_var) (.ref h_trm) (.ref h_ter) (.int x_td_parts)))), (h_nam, .inl (cy_nam, 300, .inr (.inl f_nam))), (h_var, .inl (cy_var, 300, .inl f_var)), (h_trm, .inl (cy_trm, 300, .inl f_trm)), (h_ter, .inl (cy_ter, 900, .inl f_ter))] := by rw [evq2]; exact hD
    obtain ⟨vq3, evq3⟩ := mq32_24 v_td (.ref h_ter)
    replace hP : va_P (dC, dI) cls [(h_rd, .inr (4, (mo30 vq2 (.int x_rd_length) (.int x_rd_fault) (.int x_rd_place) (.ref h_td) (.ref h_kn) (.int x_rd_variables) (.int x_rd_at) (.long x_rd_letters)))), (h_by, .inl (cy_by, 600, .inl f_by)), (h_kn, .inl (cy_kn, 8, .inl f_kn)), (h_td, .inr (5, (mo24 vq3 (.ref h_nam) (.ref h_var) (.ref h_trm) (.int x_td_parts)))), (h_nam, .inl (cy_nam, 300, .inr (.inl f_nam))), (h_var, .inl (cy_var, 300, .inl f_var)), (h_trm, .inl (cy_trm, 300, .inl f_trm)), (h_ter, .inl (cy_ter, 900, .inl f_ter))] s.heap := by rw [evq3]; exact hP
    replace hD : va_D A [(h_rd, .inr (4, (mo30 vq2 (.int x_rd_length) (.int x_rd_fault) (.int x_rd_place) (.ref h_td) (.ref h_kn) (.int x_rd_variables) (.int x_rd_at) (.long x_rd_letters)))), (h_by, .inl (cy_by, 600, .inl f_by)), (h_kn, .inl (cy_kn, 8, .inl f_kn)), (h_td, .inr (5, (mo24 vq3 (.ref h_nam) (.ref h_var) (.ref h_trm) (.int x_td_parts)))), (h_nam, .inl (cy_nam, 300, .inr (.inl f_nam))), (h_var, .inl (cy_var, 300, .inl f_var)), (h_trm, .inl (cy_trm, 300, .inl f_trm)), (h_ter, .inl (cy_ter, 900, .inl f_ter))] := by rw [evq3]; exact hD
    have hPc := hP.sub (ws' := [(h_rd, .inr (4, (mo30 vq2 (.int x_rd_length) (.int x_rd_fault) (.int x_rd_place) (.ref h_td) (.ref h_kn) (.int x_rd_variables) (.int x_rd_at) (.long x_rd_letters)))), (h_kn, .inl (cy_kn, 8, .inl f_kn)), (h_td, .inr (5, (mo24 vq3 (.ref h_nam) (.ref h_var) (.ref h_trm) (.int x_td_parts)))), (h_nam, .inl (cy_nam, 300, .inr (.inl f_nam))), (h_var, .inl (cy_var, 300, .inl f_var)), (h_trm, .inl (cy_trm, 300, .inl f_trm))]) [0, 2, 3, 4, 5, 6] rfl
    have hDc := hD.sub (ws' := [(h_rd, .inr (4, (mo30 vq2 (.int x_rd_length) (.int x_rd_fault) (.int x_rd_place) (.ref h_td) (.ref h_kn) (.int x_rd_variables) (.int x_rd_at) (.long x_rd_letters)))), (h_kn, .inl (cy_kn, 8, .inl f_kn)), (h_td, .inr (5, (mo24 vq3 (.ref h_nam) (.ref h_var) (.ref h_trm) (.int x_td_parts)))), (h_nam, .inl (cy_nam, 300, .inr (.inl f_nam))), (h_var, .inl (cy_var, 300, .inl f_var)), (h_trm, .inl (cy_trm, 300, .inl f_trm))]) [0, 2, 3, 4, 5, 6] (by decide) rfl
    have hKc := hK.sub (tys' := [(cy_kn, .int), (cy_nam, .long), (cy_var, .int), (cy_trm, .int)]) [1, 2, 3, 4] rfl
    have hFc := va_free (wc := [(h_rd, .inr (4, (mo30 vq2 (.int x_rd_length) (.int x_rd_fault) (.int x_rd_place) (.ref h_td) (.ref h_kn) (.int x_rd_variables) (.int x_rd_at) (.long x_rd_letters)))), (h_kn, .inl (cy_kn, 8, .inl f_kn)), (h_td, .inr (5, (mo24 vq3 (.ref h_nam) (.ref h_var) (.ref h_trm) (.int x_td_parts)))), (h_nam, .inl (cy_nam, 300, .inr (.inl f_nam))), (h_var, .inl (cy_var, 300, .inl f_var)), (h_trm, .inl (cy_trm, 300, .inl f_trm))]) hD hS hA [0, 2, 3, 4, 5, 6] rfl
    refine va_calli (va_runV (As := []) (rest := []) ⟨hx, hb, hml, hown, hts⟩ (c_X5_variablePart l dC dI s.heap.size h_rd h_kn h_td h_nam h_var h_trm vq2 x_rd_length x_rd_fault x_rd_place x_rd_variables x_rd_at x_rd_letters cy_kn f_kn vq3 x_td_parts cy_nam f_nam cy_var f_var cy_trm f_trm G vf (by first | exact hx_rd_length | omega) (by first | exact hx_rd_variables | omega) (by first | exact hx_rd_at | omega) hf_kn (by first | exact hx_td_parts | omega) hf_var hf_trm (by omega) (by first | exact q5 | omega) (by omega) (by first | exact q4 | omega) hn_vfc) (cwV 0 hts (gv hT w_m_X5_93 w_instanceMethod_X5_variablePart ws_sel_X5_variablePart w_ini_X5 w_code_X5_variablePart) rfl rfl rfl (by decide +kernel) ⟨(Nat.le_of_ble_eq_true rfl), (Nat.le_of_ble_eq_true rfl)⟩) ⟨pre_blind, va_recv hK hP (ci := 4) (q0 := 0) rfl rfl, pre_of hPc hKc hDc hN⟩ rfl rfl hl.1 rfl (lv_room (Nat.le_of_ble_eq_true rfl)) dX5_readPart_36 ⟨(Nat.le_of_ble_eq_true rfl), (Nat.le_of_ble_eq_true rfl)⟩) hS (fun q _ h => hFc q h) hFc (fun r4 u t H locs ht hvm hq hB hz1 hk1 hS9 => ?_)
    obtain ⟨z5, z6, z7, f8, z9, f10, f11, f12⟩ := u
    obtain ⟨hP1, hD1⟩ := hB
    rw [ht] at hP1
    obtain ⟨hP9, hD9⟩ := va_join (wr := [(h_by, .inl (cy_by, 600, .inl f_by)), (h_ter, .inl (cy_ter, 900, .inl f_ter))]) (w1 := [(h_rd, .inr (4, (mo30 vq2 (.int x_rd_length) (.int z5) (.int z6) (.ref h_td) (.ref h_kn) (.int z7) (.int x_rd_at) (.long x_rd_letters)))), (h_kn, .inl (cy_kn, 8, .inl f8)), (h_td, .inr (5, (mo24 vq3 (.ref h_nam) (.ref h_var) (.ref h_trm) (.int z9)))), (h_nam, .inl (cy_nam, 300, .inr (.inl f10))), (h_var, .inl (cy_var, 300, .inl f11)), (h_trm, .inl (cy_trm, 300, .inl f12))]) hP hD [0, 2, 3, 4, 5, 6] [1, 7] rfl rfl (by decide) (by decide) hk1 hFc hP1 hD1
    clear hP hD hS hPc hDc hKc hFc hP1 hD1 hk1 hz1 ht hvm
    have hP : va_P (dC, dI) cls [(h_by, .inl (cy_by, 600, .inl f_by)), (h_ter, .inl (cy_ter, 900, .inl f_ter)), (h_rd, .inr (4, (mo30 vq2 (.int x_rd_length) (.int z5) (.int z6) (.ref h_td) (.ref h_kn) (.int z7) (.int x_rd_at) (.long x_rd_letters)))), (h_kn, .inl (cy_kn, 8, .inl f8)), (h_td, .inr (5, (mo24 vq3 (.ref h_nam) (.ref h_var) (.ref h_trm) (.int z9)))), (h_nam, .inl (cy_nam, 300, .inr (.inl f10))), (h_var, .inl (cy_var, 300, .inl f11)), (h_trm, .inl (cy_trm, 300, .inl f12))] H := hP9
    have hD : va_D A [(h_by, .inl (cy_by, 600, .inl f_by)), (h_ter, .inl (cy_ter, 900, .inl f_ter)), (h_rd, .inr (4, (mo30 vq2 (.int x_rd_length) (.int z5) (.int z6) (.ref h_td) (.ref h_kn) (.int z7) (.int x_rd_at) (.long x_rd_letters)))), (h_kn, .inl (cy_kn, 8, .inl f8)), (h_td, .inr (5, (mo24 vq3 (.ref h_nam) (.ref h_var) (.ref h_trm) (.int z9)))), (h_nam, .inl (cy_nam, 300, .inr (.inl f10))), (h_var, .inl (cy_var, 300, .inl f11)), (h_trm, .inl (cy_trm, 300, .inl f12))] := hD9
    have hS := hS9
    clear hP9 hD9 hS9
    rw [evq2] at hP hD
    replace hP : va_P (dC, dI) cls [(h_by, .inl (cy_by, 600, .inl f_by)), (h_ter, .inl (cy_ter, 900, .inl f_ter)), (h_rd, .inr (4, (mo31 (.ref h_by) (.int x_rd_length) (.int z5) (.int z6) (.ref h_td) (.ref h_kn) (.int z7) (.int x_rd_at) (.int x_rd_behind) (.int x_rd_token) (.long x_rd_letters)))), (h_kn, .inl (cy_kn, 8, .inl f8)), (h_td, .inr (5, (mo24 vq3 (.ref h_nam) (.ref h_var) (.ref h_trm) (.int z9)))), (h_nam, .inl (cy_nam, 300, .inr (.inl f10))), (h_var, .inl (cy_var, 300, .inl f11)), (h_trm, .inl (cy_trm, 300, .inl f12))] H := hP
    replace hD : va_D A [(h_by, .inl (cy_by, 600, .inl f_by)), (h_ter, .inl (cy_ter, 900, .inl f_ter)), (h_rd, .inr (4, (mo31 (.ref h_by) (.int x_rd_length) (.int z5) (.int z6) (.ref h_td) (.ref h_kn) (.int z7) (.int x_rd_at) (.int x_rd_behind) (.int x_rd_token) (.long x_rd_letters)))), (h_kn, .inl (cy_kn, 8, .inl f8)), (h_td, .inr (5, (mo24 vq3 (.ref h_nam) (.ref h_var) (.ref h_trm) (.int z9)))), (h_nam, .inl (cy_nam, 300, .inr (.inl f10))), (h_var, .inl (cy_var, 300, .inl f11)), (h_trm, .inl (cy_trm, 300, .inl f12))] := hD
    clear evq2 
    rw [evq3] at hP hD
    replace hP : va_P (dC, dI) cls [(h_by, .inl (cy_by, 600, .inl f_by)), (h_ter, .inl (cy_ter, 900, .inl f_ter)), (h_rd, .inr (4, (mo31 (.ref h_by) (.int x_rd_length) (.int z5) (.int z6) (.ref h_td) (.ref h_kn) (.int z7) (.int x_rd_at) (.int x_rd_behind) (.int x_rd_token) (.long x_rd_letters)))), (h_kn, .inl (cy_kn, 8, .inl f8)), (h_td, .inr (5, (mo32 v_td (.ref h_nam) (.ref h_var) (.ref h_trm) (.ref h_ter) (.int z9)))), (h_nam, .inl (cy_nam, 300, .inr (.inl f10))), (h_var, .inl (cy_var, 300, .inl f11)), (h_trm, .inl (cy_trm, 300, .inl f12))] H := hP
    replace hD : va_D A [(h_by, .inl (cy_by, 600, .inl f_by)), (h_ter, .inl (cy_ter, 900, .inl f_ter)), (h_rd, .inr (4, (mo31 (.ref h_by) (.int x_rd_length) (.int z5) (.int z6) (.ref h_td) (.ref h_kn) (.int z7) (.int x_rd_at) (.int x_rd_behind) (.int x_rd_token) (.long x_rd_letters)))), (h_kn, .inl (cy_kn, 8, .inl f8)), (h_td, .inr (5, (mo32 v_td (.ref h_nam) (.ref h_var) (.ref h_trm) (.ref h_ter) (.int z9)))), (h_nam, .inl (cy_nam, 300, .inr (.inl f10))), (h_var, .inl (cy_var, 300, .inl f11)), (h_trm, .inl (cy_trm, 300, .inl f12))] := hD
    clear evq3 
    obtain ⟨k13, hf8, k14, hf11, hf12, k15, k16, k17, k18, k19, k20⟩ := hq
    replace k13 : 0 ≤ ((z7)).toInt ∧ ((z7)).toInt ≤ 8 := k13
    replace hf8 : Rg 0 299 (f8) := hf8
    replace k14 : 0 ≤ ((z9)).toInt ∧ ((z9)).toInt ≤ 300 := k14
    replace hf11 : Rg (-1) 7 (f11) := hf11
    replace hf12 : Rg 0 3 (f12) := hf12
    replace k15 : 0 ≤ (r4).toInt ∧ (r4).toInt ≤ 299 := k15
    replace k16 : ((z5)).toInt = ((pVar (G) ((x_rd_length)).toInt ((x_rd_at)).toInt ((x_rd_variables)).toInt (vf))).1 := k16
    replace k17 : (((z5)).toInt = 0 ∧ ((z6)).toInt = ((x_rd_place)).toInt ∧ ((pVar (G) ((x_rd_length)).toInt ((x_rd_at)).toInt ((x_rd_variables)).toInt (vf))).2.1 = tkN (G) ((x_rd_length)).toInt ((x_rd_at)).toInt) ∨ (((z5)).toInt = 2 ∧ ((z6)).toInt = ((x_rd_at)).toInt ∧ ((pVar (G) ((x_rd_length)).toInt ((x_rd_at)).toInt ((x_rd_variables)).toInt (vf))).2.1 = ((x_rd_at)).toInt ∧ ((z9)).toInt = ((x_td_parts)).toInt) := k17
    replace k18 : ((z7)).toInt = ((pVar (G) ((x_rd_length)).toInt ((x_rd_at)).toInt ((x_rd_variables)).toInt (vf))).2.2.1 := k18
    replace k19 : ((x_td_parts)).toInt ≤ ((z9)).toInt ∧ ((z9)).toInt ≤ ((x_td_parts)).toInt + 1 := k19
    replace k20 : VFC ((z7)).toInt ((pVar (G) ((x_rd_length)).toInt ((x_rd_at)).toInt ((x_rd_variables)).toInt (vf))).2.2.2 (f8) (f10) ((z9)).toInt := k20
    have rq9 : (pTm G (x_rd_length).toInt (pPs G (x_rd_length).toInt 1) (x_rd_at).toInt (x_rd_variables).toInt vf) = (pVar G (x_rd_length).toInt (x_rd_at).toInt (x_rd_variables).toInt vf) := pTm_var (by omega)
    have pq211 : ((pTm G (x_rd_length).toInt (pPs G (x_rd_length).toInt 1) (x_rd_at).toInt (x_rd_variables).toInt vf)).1 = ((pVar G (x_rd_length).toInt (x_rd_at).toInt (x_rd_variables).toInt vf)).1 := by rw [rq9]
    have pq212 : ((pTm G (x_rd_length).toInt (pPs G (x_rd_length).toInt 1) (x_rd_at).toInt (x_rd_variables).toInt vf)).2.1 = ((pVar G (x_rd_length).toInt (x_rd_at).toInt (x_rd_variables).toInt vf)).2.1 := by rw [rq9]
    have pq213 : ((pTm G (x_rd_length).toInt (pPs G (x_rd_length).toInt 1) (x_rd_at).toInt (x_rd_variables).toInt vf)).2.2.1 = ((pVar G (x_rd_length).toInt (x_rd_at).toInt (x_rd_variables).toInt vf)).2.2.1 := by rw [rq9]
    have pq214 : ((pTm G (x_rd_length).toInt (pPs G (x_rd_length).toInt 1) (x_rd_at).toInt (x_rd_variables).toInt vf)).2.2.2 = ((pVar G (x_rd_length).toInt (x_rd_at).toInt (x_rd_variables).toInt vf)).2.2.2 := by rw [rq9]
    refine lv_istore_n (lv' := [(3, .int r4), (2, .int 0), (0, .ref h_rd), (1, .int 5)]) hx hb dX5_readPart_39 rfl hl (by decide) rfl (fun ls hl => ?_)
    refine lv_aload_n hx hb dX5_readPart_40 rfl (lv_at hl 2 rfl) ?_
    refine va_get (D := (dC, dI)) (ci := 4) (v := .int z5) (C := RX5) (T := TX5) (N := 11) hx hb hw iwX5 hown hK hP 2 rfl rfl 2 (by decide) (hw _ w_f_X5_34) (fun _ h9 => h9) rfl dX5_readPart_41 ?_
    refine lv_if_eq (tgt := 49) hx hb dX5_readPart_44 (by decide) (fun c22 => ?_) (fun c22 => ?_)
    · have kc22 := (cv_eq (rfl : (z5).toInt = (z5).toInt) (by decide : (0 : Int32).toInt = 0)).mp c22
      refine lv_aload_n hx hb dX5_readPart_49 rfl (lv_at hl 2 rfl) ?_
      obtain ⟨vq23, evq23⟩ := mq31_29 (.int z5) (.int z6) (.ref h_td) (.ref h_kn) (.int z7)
      replace hP : va_P (dC, dI) cls [(h_by, .inl (cy_by, 600, .inl f_by)), (h_ter, .inl (cy_ter, 900, .inl f_ter)), (h_rd, .inr (4, (mo29 vq23 (.ref h_by) (.int x_rd_length) (.int x_rd_at) (.int x_rd_behind) (.int x_rd_token) (.long x_rd_letters)))), (h_kn, .inl (cy_kn, 8, .inl f8)), (h_td, .inr (5, (mo32 v_td (.ref h_nam) (.ref h_var) (.ref h_trm) (.ref h_ter) (.int z9)))), (h_nam, .inl (cy_nam, 300, .inr (.inl f10))), (h_var, .inl (cy_var, 300, .inl f11)), (h_trm, .inl (cy_trm, 300, .inl f12))] H := by rw [evq23]; exact hP
      replace hD : va_D A [(h_by, .inl (cy_by, 600, .inl f_by)), (h_ter, .inl (cy_ter, 900, .inl f_ter)), (h_rd, .inr (4, (mo29 vq23 (.ref h_by) (.int x_rd_length) (.int x_rd_at) (.int x_rd_behind) (.int x_rd_token) (.long x_rd_letters)))), (h_kn, .inl (cy_kn, 8, .inl f8)), (h_td, .inr (5, (mo32 v_td (.ref h_nam) (.ref h_var) (.ref h_trm) (.ref h_ter) (.int z9)))), (h_nam, .inl (cy_nam, 300, .inr (.inl f10))), (h_var, .inl (cy_var, 300, .inl f11)), (h_trm, .inl (cy_trm, 300, .inl f12))] := by rw [evq23]; exact hD
      have hPc := hP.sub (ws' := [(h_rd, .inr (4, (mo29 vq23 (.ref h_by) (.int x_rd_length) (.int x_rd_at) (.int x_rd_behind) (.int x_rd_token) (.long x_rd_letters)))), (h_by, .inl (cy_by, 600, .inl f_by))]) [2, 0] rfl
      have hDc := hD.sub (ws' := [(h_rd, .inr (4, (mo29 vq23 (.ref h_by) (.int x_rd_length) (.int x_rd_at) (.int x_rd_behind) (.int x_rd_token) (.long x_rd_letters)))), (h_by, .inl (cy_by, 600, .inl f_by))]) [2, 0] (by decide) rfl
      have hKc := hK.sub (tys' := [(cy_by, .int)]) [0] rfl
      have hFc := va_free (wc := [(h_rd, .inr (4, (mo29 vq23 (.ref h_by) (.int x_rd_length) (.int x_rd_at) (.int x_rd_behind) (.int x_rd_token) (.long x_rd_letters)))), (h_by, .inl (cy_by, 600, .inl f_by))]) hD hS hA [2, 0] rfl
      refine va_callv (va_runV (As := []) (rest := []) ⟨hx, hb, hml, hown, hts⟩ (c_X5_nextToken l dC dI H.size h_rd h_by vq23 x_rd_length x_rd_at x_rd_behind x_rd_token x_rd_letters cy_by f_by G (by first | exact hx_rd_length | omega) (by first | exact hx_rd_at | omega) (by first | exact hx_rd_behind | omega) hf_by (by first | exact q7 | omega) hn_byt) (cwV 0 hts (gv hT w_m_X5_40 w_instanceMethod_X5_nextToken ws_sel_X5_nextToken w_ini_X5 w_code_X5_nextToken) rfl rfl rfl (by decide +kernel) ⟨(Nat.le_of_ble_eq_true rfl), (Nat.le_of_ble_eq_true rfl)⟩) ⟨pre_blind, va_recv hK hP (ci := 4) (q0 := 2) rfl rfl, pre_of hPc hKc hDc hN⟩ rfl rfl hl.1 rfl (lv_room (Nat.le_of_ble_eq_true rfl)) dX5_readPart_50 ⟨(Nat.le_of_ble_eq_true rfl), (Nat.le_of_ble_eq_true rfl)⟩) hS (fun q _ h => hFc q h) hFc (fun u t H locs ht hvm hq hB hz1 hk1 hS9 => ?_)
      obtain ⟨z25, z26, z27, z28⟩ := u
      obtain ⟨hP1, hD1⟩ := hB
      rw [ht] at hP1
      obtain ⟨hP9, hD9⟩ := va_join (wr := [(h_ter, .inl (cy_ter, 900, .inl f_ter)), (h_kn, .inl (cy_kn, 8, .inl f8)), (h_td, .inr (5, (mo32 v_td (.ref h_nam) (.ref h_var) (.ref h_trm) (.ref h_ter) (.int z9)))), (h_nam, .inl (cy_nam, 300, .inr (.inl f10))), (h_var, .inl (cy_var, 300, .inl f11)), (h_trm, .inl (cy_trm, 300, .inl f12))]) (w1 := [(h_rd, .inr (4, (mo29 vq23 (.ref h_by) (.int x_rd_length) (.int z25) (.int z26) (.int z27) (.long z28)))), (h_by, .inl (cy_by, 600, .inl f_by))]) hP hD [2, 0] [1, 3, 4, 5, 6, 7] rfl rfl (by decide) (by decide) hk1 hFc hP1 hD1
      clear hP hD hS hPc hDc hKc hFc hP1 hD1 hk1 hz1 ht hvm
      have hP : va_P (dC, dI) cls [(h_ter, .inl (cy_ter, 900, .inl f_ter)), (h_kn, .inl (cy_kn, 8, .inl f8)), (h_td, .inr (5, (mo32 v_td (.ref h_nam) (.ref h_var) (.ref h_trm) (.ref h_ter) (.int z9)))), (h_nam, .inl (cy_nam, 300, .inr (.inl f10))), (h_var, .inl (cy_var, 300, .inl f11)), (h_trm, .inl (cy_trm, 300, .inl f12)), (h_rd, .inr (4, (mo29 vq23 (.ref h_by) (.int x_rd_length) (.int z25) (.int z26) (.int z27) (.long z28)))), (h_by, .inl (cy_by, 600, .inl f_by))] H := hP9
      have hD : va_D A [(h_ter, .inl (cy_ter, 900, .inl f_ter)), (h_kn, .inl (cy_kn, 8, .inl f8)), (h_td, .inr (5, (mo32 v_td (.ref h_nam) (.ref h_var) (.ref h_trm) (.ref h_ter) (.int z9)))), (h_nam, .inl (cy_nam, 300, .inr (.inl f10))), (h_var, .inl (cy_var, 300, .inl f11)), (h_trm, .inl (cy_trm, 300, .inl f12)), (h_rd, .inr (4, (mo29 vq23 (.ref h_by) (.int x_rd_length) (.int z25) (.int z26) (.int z27) (.long z28)))), (h_by, .inl (cy_by, 600, .inl f_by))] := hD9
      have hS := hS9
      clear hP9 hD9 hS9
      rw [evq23] at hP hD
      replace hP : va_P (dC, dI) cls [(h_ter, .inl (cy_ter, 900, .inl f_ter)), (h_kn, .inl (cy_kn, 8, .inl f8)), (h_td, .inr (5, (mo32 v_td (.ref h_nam) (.ref h_var) (.ref h_trm) (.ref h_ter) (.int z9)))), (h_nam, .inl (cy_nam, 300, .inr (.inl f10))), (h_var, .inl (cy_var, 300, .inl f11)), (h_trm, .inl (cy_trm, 300, .inl f12)), (h_rd, .inr (4, (mo31 (.ref h_by) (.int x_rd_length) (.int z5) (.int z6) (.ref h_td) (.ref h_kn) (.int z7) (.int z25) (.int z26) (.int z27) (.long z28)))), (h_by, .inl (cy_by, 600, .inl f_by))] H := hP
      replace hD : va_D A [(h_ter, .inl (cy_ter, 900, .inl f_ter)), (h_kn, .inl (cy_kn, 8, .inl f8)), (h_td, .inr (5, (mo32 v_td (.ref h_nam) (.ref h_var) (.ref h_trm) (.ref h_ter) (.int z9)))), (h_nam, .inl (cy_nam, 300, .inr (.inl f10))), (h_var, .inl (cy_var, 300, .inl f11)), (h_trm, .inl (cy_trm, 300, .inl f12)), (h_rd, .inr (4, (mo31 (.ref h_by) (.int x_rd_length) (.int z5) (.int z6) (.ref h_td) (.ref h_kn) (.int z7) (.int z25) (.int z26) (.int z27) (.long z28)))), (h_by, .inl (cy_by, 600, .inl f_by))] := hD
      clear evq23 
      obtain ⟨k29, k30, k31, k32, k33, k34, k35, k36, k37, k38, k39⟩ := hq
      replace k29 : 0 ≤ ((z25)).toInt ∧ ((z25)).toInt ≤ 600 := k29
      replace k30 : 0 ≤ ((z26)).toInt ∧ ((z26)).toInt ≤ 600 := k30
      replace k31 : ((z25)).toInt = tkS (G) ((x_rd_length)).toInt ((x_rd_behind)).toInt := k31
      replace k32 : ((x_rd_behind)).toInt ≤ ((z25)).toInt := k32
      replace k33 : ((z27)).toInt = tkT (G) ((x_rd_length)).toInt ((z25)).toInt := k33
      replace k34 : ((z27)).toInt = -1 ∨ ((z26)).toInt = tkX (G) ((x_rd_length)).toInt ((z25)).toInt := k34
      replace k35 : ¬ ((z27)).toInt = 257 ∨ ((z28)).toInt = (G) ((z25)).toInt := k35
      replace k36 : -1 ≤ ((z27)).toInt ∧ ((z27)).toInt ≤ 258 := k36
      replace k37 : ((z26)).toInt ≤ ((x_rd_length)).toInt := k37
      replace k38 : ((z27)).toInt = -1 ∨ ((z25)).toInt < ((x_rd_length)).toInt := k38
      replace k39 : ((z25)).toInt ≤ ((x_rd_length)).toInt := k39
      have tn40b : (x_rd_behind).toInt = tkX G (x_rd_length).toInt (x_rd_at).toInt := by omega
      have tn40 : (z25).toInt = tkN G (x_rd_length).toInt (x_rd_at).toInt := by rw [k31, tn40b]; rfl
      have tn40t : (z27).toInt = tkT G (x_rd_length).toInt (tkN G (x_rd_length).toInt (x_rd_at).toInt) := by rw [← tn40]; exact k33
      have tn40g := tkN_gt (G := G) (n := (x_rd_length).toInt) (a := (x_rd_at).toInt) (by omega) (by omega) (by omega)
      have tw9 := nx_two (G := G) (n := (x_rd_length).toInt) hn_byt.1 (by omega) (by omega) q0 (by omega) tn40 k33
      refine lv_iload_n hx hb dX5_readPart_53 rfl (lv_at hl 1 rfl) ?_
      refine lv_if_eq (tgt := 66) hx hb dX5_readPart_54 (by decide) (fun _ => ?_) (fun c9 => absurd c9 (by decide))
      refine lv_iload_n hx hb dX5_readPart_66 rfl (lv_at hl 0 rfl) ?_
      replace hP : va_P (dC, dI) cls [(h_rd, .inr (4, (mo31 (.ref h_by) (.int x_rd_length) (.int z5) (.int z6) (.ref h_td) (.ref h_kn) (.int z7) (.int z25) (.int z26) (.int z27) (.long z28)))), (h_by, .inl (cy_by, 600, .inl f_by)), (h_kn, .inl (cy_kn, 8, .inl f8)), (h_td, .inr (5, (mo32 v_td (.ref h_nam) (.ref h_var) (.ref h_trm) (.ref h_ter) (.int z9)))), (h_nam, .inl (cy_nam, 300, .inr (.inl f10))), (h_var, .inl (cy_var, 300, .inl f11)), (h_trm, .inl (cy_trm, 300, .inl f12)), (h_ter, .inl (cy_ter, 900, .inl f_ter))] H := hP.sub [6, 7, 1, 2, 3, 4, 5, 0] rfl
      replace hD : va_D A [(h_rd, .inr (4, (mo31 (.ref h_by) (.int x_rd_length) (.int z5) (.int z6) (.ref h_td) (.ref h_kn) (.int z7) (.int z25) (.int z26) (.int z27) (.long z28)))), (h_by, .inl (cy_by, 600, .inl f_by)), (h_kn, .inl (cy_kn, 8, .inl f8)), (h_td, .inr (5, (mo32 v_td (.ref h_nam) (.ref h_var) (.ref h_trm) (.ref h_ter) (.int z9)))), (h_nam, .inl (cy_nam, 300, .inr (.inl f10))), (h_var, .inl (cy_var, 300, .inl f11)), (h_trm, .inl (cy_trm, 300, .inl f12)), (h_ter, .inl (cy_ter, 900, .inl f_ter))] := hD.sub [6, 7, 1, 2, 3, 4, 5, 0] (by decide) rfl
      refine W.widen (k := 0) (n := 0) (Nat.le_of_ble_eq_true rfl) (Nat.le_of_ble_eq_true rfl) ?_
      have w41 : 0 ≤ ((z7)).toInt ∧ ((z7)).toInt ≤ 8 := by first | exact k13 | omega
      have w42 : 0 ≤ ((z25)).toInt ∧ ((z25)).toInt ≤ 600 := by first | exact k29 | omega
      have w43 : 0 ≤ ((z26)).toInt ∧ ((z26)).toInt ≤ 600 := by first | exact k30 | omega
      have w44 : 0 ≤ ((z9)).toInt ∧ ((z9)).toInt ≤ 300 := by first | exact k14 | omega
      have w45 : 0 ≤ (r4 : Int32).toInt ∧ (r4 : Int32).toInt ≤ 299 := by first | exact k15 | omega
      have w46 : ((z5)).toInt = ((pTm G (x_rd_length).toInt (pPs G (x_rd_length).toInt 1) (x_rd_at).toInt (x_rd_variables).toInt vf)).1 := by omega
      have w47 : ((z25)).toInt = ((pTm G (x_rd_length).toInt (pPs G (x_rd_length).toInt 1) (x_rd_at).toInt (x_rd_variables).toInt vf)).2.1 := by omega
      have w48 : ((z7)).toInt = ((pTm G (x_rd_length).toInt (pPs G (x_rd_length).toInt 1) (x_rd_at).toInt (x_rd_variables).toInt vf)).2.2.1 := by omega
      have w49 : (((z5)).toInt = 0 ∧ ((z6)).toInt = (x_rd_place).toInt) ∨ (¬ ((z5)).toInt = 0 ∧ ((z6)).toInt = ((z25)).toInt) := by omega
      have w50 : 2 * ((z9)).toInt ≤ ((z25)).toInt + 1 := by omega
      have w51 : ((z27)).toInt < 256 ∨ 2 * ((z9)).toInt ≤ ((z25)).toInt := by omega
      have w52 : (x_rd_at).toInt ≤ ((z25)).toInt := by omega
      have w53 : ((z27)).toInt = tkT G (x_rd_length).toInt ((z25)).toInt := by first | exact k33 | omega
      have w54 : ((z27)).toInt = -1 ∨ ((z26)).toInt = tkX G (x_rd_length).toInt ((z25)).toInt := by first | exact k34 | omega
      have w55 : ¬ ((z27)).toInt = 257 ∨ ((z28)).toInt = G ((z25)).toInt := by first | exact k35 | omega
      have w56 : -1 ≤ ((z27)).toInt ∧ ((z27)).toInt ≤ 258 := by first | exact k36 | omega
      have w57 : ((z26)).toInt ≤ (x_rd_length).toInt := by first | exact k37 | omega
      have w58 : ((z27)).toInt = -1 ∨ ((z25)).toInt < (x_rd_length).toInt := by first | exact k38 | omega
      have w59 : ((z25)).toInt ≤ (x_rd_length).toInt := by first | exact k39 | omega
      have w60 : VFC ((z7)).toInt ((pTm G (x_rd_length).toInt (pPs G (x_rd_length).toInt 1) (x_rd_at).toInt (x_rd_variables).toInt vf)).2.2.2 (f8) (f10) ((z9)).toInt := (by rw [pq214]; exact k20)
      exact W.iret (v := r4) hx hb hr (fun t ht hW => ⟨⟨r4, (z5, z6, z7, z25, z26, z27, z28, f8, z9, f10, f11, f12, f_ter), rfl, ⟨w41, w42, w43, hf8, w44, hf11, hf12, hf_ter, w45, w46, w47, w48, w49, w50, w51, w52, w53, w54, w55, w56, w57, w58, w59, w60⟩, by rw [ht]; exact hP, hD⟩, hS.F ht⟩) hS.2.2 dX5_readPart_67
    · have kc22 := (not_congr (cv_eq (rfl : (z5).toInt = (z5).toInt) (by decide : (0 : Int32).toInt = 0))).mp c22
      refine lv_iload_n hx hb dX5_readPart_47 rfl (lv_at hl 0 rfl) ?_
      replace hP : va_P (dC, dI) cls [(h_rd, .inr (4, (mo31 (.ref h_by) (.int x_rd_length) (.int z5) (.int z6) (.ref h_td) (.ref h_kn) (.int z7) (.int x_rd_at) (.int x_rd_behind) (.int x_rd_token) (.long x_rd_letters)))), (h_by, .inl (cy_by, 600, .inl f_by)), (h_kn, .inl (cy_kn, 8, .inl f8)), (h_td, .inr (5, (mo32 v_td (.ref h_nam) (.ref h_var) (.ref h_trm) (.ref h_ter) (.int z9)))), (h_nam, .inl (cy_nam, 300, .inr (.inl f10))), (h_var, .inl (cy_var, 300, .inl f11)), (h_trm, .inl (cy_trm, 300, .inl f12)), (h_ter, .inl (cy_ter, 900, .inl f_ter))] H := hP.sub [2, 0, 3, 4, 5, 6, 7, 1] rfl
      replace hD : va_D A [(h_rd, .inr (4, (mo31 (.ref h_by) (.int x_rd_length) (.int z5) (.int z6) (.ref h_td) (.ref h_kn) (.int z7) (.int x_rd_at) (.int x_rd_behind) (.int x_rd_token) (.long x_rd_letters)))), (h_by, .inl (cy_by, 600, .inl f_by)), (h_kn, .inl (cy_kn, 8, .inl f8)), (h_td, .inr (5, (mo32 v_td (.ref h_nam) (.ref h_var) (.ref h_trm) (.ref h_ter) (.int z9)))), (h_nam, .inl (cy_nam, 300, .inr (.inl f10))), (h_var, .inl (cy_var, 300, .inl f11)), (h_trm, .inl (cy_trm, 300, .inl f12)), (h_ter, .inl (cy_ter, 900, .inl f_ter))] := hD.sub [2, 0, 3, 4, 5, 6, 7, 1] (by decide) rfl
      refine W.widen (k := 0) (n := 0) (Nat.le_of_ble_eq_true rfl) (Nat.le_of_ble_eq_true rfl) ?_
      have w61 : 0 ≤ ((z7)).toInt ∧ ((z7)).toInt ≤ 8 := by first | exact k13 | omega
      have w62 : 0 ≤ ((x_rd_at)).toInt ∧ ((x_rd_at)).toInt ≤ 600 := by first | exact hx_rd_at | omega
      have w63 : 0 ≤ ((x_rd_behind)).toInt ∧ ((x_rd_behind)).toInt ≤ 600 := by first | exact hx_rd_behind | omega
      have w64 : 0 ≤ ((z9)).toInt ∧ ((z9)).toInt ≤ 300 := by first | exact k14 | omega
      have w65 : 0 ≤ (r4 : Int32).toInt ∧ (r4 : Int32).toInt ≤ 299 := by first | exact k15 | omega
      have w66 : ((z5)).toInt = ((pTm G (x_rd_length).toInt (pPs G (x_rd_length).toInt 1) (x_rd_at).toInt (x_rd_variables).toInt vf)).1 := by omega
      have w67 : ((x_rd_at)).toInt = ((pTm G (x_rd_length).toInt (pPs G (x_rd_length).toInt 1) (x_rd_at).toInt (x_rd_variables).toInt vf)).2.1 := by omega
      have w68 : ((z7)).toInt = ((pTm G (x_rd_length).toInt (pPs G (x_rd_length).toInt 1) (x_rd_at).toInt (x_rd_variables).toInt vf)).2.2.1 := by omega
      have w69 : (((z5)).toInt = 0 ∧ ((z6)).toInt = (x_rd_place).toInt) ∨ (¬ ((z5)).toInt = 0 ∧ ((z6)).toInt = ((x_rd_at)).toInt) := by omega
      have w70 : 2 * ((z9)).toInt ≤ ((x_rd_at)).toInt + 1 := by omega
      have w71 : ((x_rd_token)).toInt < 256 ∨ 2 * ((z9)).toInt ≤ ((x_rd_at)).toInt := by omega
      have w72 : (x_rd_at).toInt ≤ ((x_rd_at)).toInt := by omega
      have w73 : ((x_rd_token)).toInt = tkT G (x_rd_length).toInt ((x_rd_at)).toInt := by first | exact q0 | omega
      have w74 : ((x_rd_token)).toInt = -1 ∨ ((x_rd_behind)).toInt = tkX G (x_rd_length).toInt ((x_rd_at)).toInt := by omega
      have w75 : ¬ ((x_rd_token)).toInt = 257 ∨ ((x_rd_letters)).toInt = G ((x_rd_at)).toInt := by first | exact q3 | omega
      have w76 : -1 ≤ ((x_rd_token)).toInt ∧ ((x_rd_token)).toInt ≤ 258 := by omega
      have w77 : ((x_rd_behind)).toInt ≤ (x_rd_length).toInt := by first | exact q7 | omega
      have w78 : ((x_rd_token)).toInt = -1 ∨ ((x_rd_at)).toInt < (x_rd_length).toInt := by omega
      have w79 : ((x_rd_at)).toInt ≤ (x_rd_length).toInt := by omega
      have w80 : VFC ((z7)).toInt ((pTm G (x_rd_length).toInt (pPs G (x_rd_length).toInt 1) (x_rd_at).toInt (x_rd_variables).toInt vf)).2.2.2 (f8) (f10) ((z9)).toInt := (by rw [pq214]; exact k20)
      exact W.iret (v := r4) hx hb hr (fun t ht hW => ⟨⟨r4, (z5, z6, z7, x_rd_at, x_rd_behind, x_rd_token, x_rd_letters, f8, z9, f10, f11, f12, f_ter), rfl, ⟨w61, w62, w63, hf8, w64, hf11, hf12, hf_ter, w65, w66, w67, w68, w69, w70, w71, w72, w73, w74, w75, w76, w77, w78, w79, w80⟩, by rw [ht]; exact hP, hD⟩, hS.F ht⟩) hS.2.2 dX5_readPart_48
  · have kc1 := (cv_eq (rfl : (x_rd_token).toInt = (x_rd_token).toInt) (by decide : (256 : Int32).toInt = 256)).mp c1
    refine lv_iconst (v := 1) hx hb dX5_readPart_10 (by decide) ?_
    refine lv_goto (tgt := 15) hx hb dX5_readPart_11 (by decide) ?_
    refine lv_istore_n (lv' := [(2, .int 1), (0, .ref h_rd), (1, .int 5)]) hx hb dX5_readPart_15 rfl hl (by decide) rfl (fun ls hl => ?_)
    refine lv_iload_n hx hb dX5_readPart_16 rfl (lv_at hl 0 rfl) ?_
    refine lv_if_eq (tgt := 35) hx hb dX5_readPart_17 (by decide) (fun c9 => absurd c9 (by decide)) (fun _ => ?_)
    refine lv_aload_n hx hb dX5_readPart_20 rfl (lv_at hl 1 rfl) ?_
    refine va_get (D := (dC, dI)) (ci := 4) (v := .ref h_td) (C := RX5) (T := TX5) (N := 11) hx hb hw iwX5 hown hK hP 0 rfl rfl 4 (by decide) (hw _ w_f_X5_25) (fun _ h9 => h9) rfl dX5_readPart_21 ?_
    refine lv_aload_n hx hb dX5_readPart_24 rfl (lv_at hl 1 rfl) ?_
    refine va_get (D := (dC, dI)) (ci := 4) (v := .long x_rd_letters) (C := RX5) (T := TX5) (N := 11) hx hb hw iwX5 hown hK hP 0 rfl rfl 10 (by decide) (hw _ w_f_X5_85) (fun _ h9 => h9) rfl dX5_readPart_25 ?_
    refine lv_iconst (v := (-1)) hx hb dX5_readPart_28 (by decide) ?_
    obtain ⟨vq81, evq81⟩ := mq32_24 v_td (.ref h_ter)
    replace hP : va_P (dC, dI) cls [(h_rd, .inr (4, (mo31 (.ref h_by) (.int x_rd_length) (.int x_rd_fault) (.int x_rd_place) (.ref h_td) (.ref h_kn) (.int x_rd_variables) (.int x_rd_at) (.int x_rd_behind) (.int x_rd_token) (.long x_rd_letters)))), (h_by, .inl (cy_by, 600, .inl f_by)), (h_kn, .inl (cy_kn, 8, .inl f_kn)), (h_td, .inr (5, (mo24 vq81 (.ref h_nam) (.ref h_var) (.ref h_trm) (.int x_td_parts)))), (h_nam, .inl (cy_nam, 300, .inr (.inl f_nam))), (h_var, .inl (cy_var, 300, .inl f_var)), (h_trm, .inl (cy_trm, 300, .inl f_trm)), (h_ter, .inl (cy_ter, 900, .inl f_ter))] s.heap := by rw [evq81]; exact hP
    replace hD : va_D A [(h_rd, .inr (4, (mo31 (.ref h_by) (.int x_rd_length) (.int x_rd_fault) (.int x_rd_place) (.ref h_td) (.ref h_kn) (.int x_rd_variables) (.int x_rd_at) (.int x_rd_behind) (.int x_rd_token) (.long x_rd_letters)))), (h_by, .inl (cy_by, 600, .inl f_by)), (h_kn, .inl (cy_kn, 8, .inl f_kn)), (h_td, .inr (5, (mo24 vq81 (.ref h_nam) (.ref h_var) (.ref h_trm) (.int x_td_parts)))), (h_nam, .inl (cy_nam, 300, .inr (.inl f_nam))), (h_var, .inl (cy_var, 300, .inl f_var)), (h_trm, .inl (cy_trm, 300, .inl f_trm)), (h_ter, .inl (cy_ter, 900, .inl f_ter))] := by rw [evq81]; exact hD
    have cstm1 : ((-1) : Int32).toInt = -1 := by decide
    have hPc := hP.sub (ws' := [(h_td, .inr (5, (mo24 vq81 (.ref h_nam) (.ref h_var) (.ref h_trm) (.int x_td_parts)))), (h_nam, .inl (cy_nam, 300, .inr (.inl f_nam))), (h_var, .inl (cy_var, 300, .inl f_var)), (h_trm, .inl (cy_trm, 300, .inl f_trm))]) [3, 4, 5, 6] rfl
    have hDc := hD.sub (ws' := [(h_td, .inr (5, (mo24 vq81 (.ref h_nam) (.ref h_var) (.ref h_trm) (.int x_td_parts)))), (h_nam, .inl (cy_nam, 300, .inr (.inl f_nam))), (h_var, .inl (cy_var, 300, .inl f_var)), (h_trm, .inl (cy_trm, 300, .inl f_trm))]) [3, 4, 5, 6] (by decide) rfl
    have hKc := hK.sub (tys' := [(cy_nam, .long), (cy_var, .int), (cy_trm, .int)]) [2, 3, 4] rfl
    have hFc := va_free (wc := [(h_td, .inr (5, (mo24 vq81 (.ref h_nam) (.ref h_var) (.ref h_trm) (.int x_td_parts)))), (h_nam, .inl (cy_nam, 300, .inr (.inl f_nam))), (h_var, .inl (cy_var, 300, .inl f_var)), (h_trm, .inl (cy_trm, 300, .inl f_trm))]) hD hS hA [3, 4, 5, 6] rfl
    refine va_calli (va_runVN (As := [.long x_rd_letters, .int (-1)]) (rest := []) ⟨hx, hb, hml, hown, hts⟩ (c_X8_add l dC dI s.heap.size h_td h_nam h_var h_trm vq81 x_td_parts cy_nam f_nam cy_var f_var cy_trm f_trm x_rd_letters (-1) (by first | exact hx_td_parts | omega) hf_var hf_trm (by omega) (by omega)) ⟨va_cnB (host := "OppositePairs") 2 hts (gd hT w_code_X8_add) rfl rfl rfl (hN _ n_m_X5_89) (hw _ w_ini_X8) (by decide +kernel) ⟨(Nat.le_of_ble_eq_true rfl), (Nat.le_of_ble_eq_true rfl)⟩, hw _ w_instanceMethod_X8_add, hw _ ws_sel_X8_add⟩ ⟨pre_blind, va_recv hK hP (ci := 5) (q0 := 3) rfl rfl, pre_of hPc hKc hDc hN⟩ rfl rfl hl.1 rfl (lv_room (Nat.le_of_ble_eq_true rfl)) dX5_readPart_29 ⟨(Nat.le_of_ble_eq_true rfl), (Nat.le_of_ble_eq_true rfl)⟩) hS (fun q _ h => hFc q h) hFc (fun r82 u t H locs ht hvm hq hB hz1 hk1 hS9 => ?_)
    obtain ⟨z83, f84, f85, f86⟩ := u
    obtain ⟨hP1, hD1⟩ := hB
    rw [ht] at hP1
    obtain ⟨hP9, hD9⟩ := va_join (wr := [(h_rd, .inr (4, (mo31 (.ref h_by) (.int x_rd_length) (.int x_rd_fault) (.int x_rd_place) (.ref h_td) (.ref h_kn) (.int x_rd_variables) (.int x_rd_at) (.int x_rd_behind) (.int x_rd_token) (.long x_rd_letters)))), (h_by, .inl (cy_by, 600, .inl f_by)), (h_kn, .inl (cy_kn, 8, .inl f_kn)), (h_ter, .inl (cy_ter, 900, .inl f_ter))]) (w1 := [(h_td, .inr (5, (mo24 vq81 (.ref h_nam) (.ref h_var) (.ref h_trm) (.int z83)))), (h_nam, .inl (cy_nam, 300, .inr (.inl f84))), (h_var, .inl (cy_var, 300, .inl f85)), (h_trm, .inl (cy_trm, 300, .inl f86))]) hP hD [3, 4, 5, 6] [0, 1, 2, 7] rfl rfl (by decide) (by decide) hk1 hFc hP1 hD1
    clear hP hD hS hPc hDc hKc hFc hP1 hD1 hk1 hz1 ht hvm
    have hP : va_P (dC, dI) cls [(h_rd, .inr (4, (mo31 (.ref h_by) (.int x_rd_length) (.int x_rd_fault) (.int x_rd_place) (.ref h_td) (.ref h_kn) (.int x_rd_variables) (.int x_rd_at) (.int x_rd_behind) (.int x_rd_token) (.long x_rd_letters)))), (h_by, .inl (cy_by, 600, .inl f_by)), (h_kn, .inl (cy_kn, 8, .inl f_kn)), (h_ter, .inl (cy_ter, 900, .inl f_ter)), (h_td, .inr (5, (mo24 vq81 (.ref h_nam) (.ref h_var) (.ref h_trm) (.int z83)))), (h_nam, .inl (cy_nam, 300, .inr (.inl f84))), (h_var, .inl (cy_var, 300, .inl f85)), (h_trm, .inl (cy_trm, 300, .inl f86))] H := hP9
    have hD : va_D A [(h_rd, .inr (4, (mo31 (.ref h_by) (.int x_rd_length) (.int x_rd_fault) (.int x_rd_place) (.ref h_td) (.ref h_kn) (.int x_rd_variables) (.int x_rd_at) (.int x_rd_behind) (.int x_rd_token) (.long x_rd_letters)))), (h_by, .inl (cy_by, 600, .inl f_by)), (h_kn, .inl (cy_kn, 8, .inl f_kn)), (h_ter, .inl (cy_ter, 900, .inl f_ter)), (h_td, .inr (5, (mo24 vq81 (.ref h_nam) (.ref h_var) (.ref h_trm) (.int z83)))), (h_nam, .inl (cy_nam, 300, .inr (.inl f84))), (h_var, .inl (cy_var, 300, .inl f85)), (h_trm, .inl (cy_trm, 300, .inl f86))] := hD9
    have hS := hS9
    clear hP9 hD9 hS9
    rw [evq81] at hP hD
    replace hP : va_P (dC, dI) cls [(h_rd, .inr (4, (mo31 (.ref h_by) (.int x_rd_length) (.int x_rd_fault) (.int x_rd_place) (.ref h_td) (.ref h_kn) (.int x_rd_variables) (.int x_rd_at) (.int x_rd_behind) (.int x_rd_token) (.long x_rd_letters)))), (h_by, .inl (cy_by, 600, .inl f_by)), (h_kn, .inl (cy_kn, 8, .inl f_kn)), (h_ter, .inl (cy_ter, 900, .inl f_ter)), (h_td, .inr (5, (mo32 v_td (.ref h_nam) (.ref h_var) (.ref h_trm) (.ref h_ter) (.int z83)))), (h_nam, .inl (cy_nam, 300, .inr (.inl f84))), (h_var, .inl (cy_var, 300, .inl f85)), (h_trm, .inl (cy_trm, 300, .inl f86))] H := hP
    replace hD : va_D A [(h_rd, .inr (4, (mo31 (.ref h_by) (.int x_rd_length) (.int x_rd_fault) (.int x_rd_place) (.ref h_td) (.ref h_kn) (.int x_rd_variables) (.int x_rd_at) (.int x_rd_behind) (.int x_rd_token) (.long x_rd_letters)))), (h_by, .inl (cy_by, 600, .inl f_by)), (h_kn, .inl (cy_kn, 8, .inl f_kn)), (h_ter, .inl (cy_ter, 900, .inl f_ter)), (h_td, .inr (5, (mo32 v_td (.ref h_nam) (.ref h_var) (.ref h_trm) (.ref h_ter) (.int z83)))), (h_nam, .inl (cy_nam, 300, .inr (.inl f84))), (h_var, .inl (cy_var, 300, .inl f85)), (h_trm, .inl (cy_trm, 300, .inl f86))] := hD
    clear evq81 
    obtain ⟨k87, hf85, hf86, k88, k89, k90, k91⟩ := hq
    replace k87 : 0 ≤ ((z83)).toInt ∧ ((z83)).toInt ≤ 300 := k87
    replace hf85 : Rg (-1) 7 (f85) := hf85
    replace hf86 : Rg 0 3 (f86) := hf86
    replace k88 : 0 ≤ (r82).toInt ∧ (r82).toInt ≤ 299 := k88
    replace k89 : ((r82)).toInt = ((x_td_parts)).toInt := k89
    replace k90 : ((z83)).toInt = ((x_td_parts)).toInt + 1 := k90
    replace k91 : (f84) = vp_updL f_nam (Int32.toNatClampNeg (r82)) (x_rd_letters) := k91
    have vf92 : VFC (x_rd_variables).toInt vf f_kn f84 (z83).toInt := vfc_nam hn_vfc (by omega) (by omega) k91 (by omega) rfl
    refine lv_goto (tgt := 39) hx hb dX5_readPart_32 (by decide) ?_
    refine lv_istore_n (lv' := [(3, .int r82), (2, .int 1), (0, .ref h_rd), (1, .int 5)]) hx hb dX5_readPart_39 rfl hl (by decide) rfl (fun ls hl => ?_)
    refine lv_aload_n hx hb dX5_readPart_40 rfl (lv_at hl 2 rfl) ?_
    refine va_get (D := (dC, dI)) (ci := 4) (v := .int x_rd_fault) (C := RX5) (T := TX5) (N := 11) hx hb hw iwX5 hown hK hP 0 rfl rfl 2 (by decide) (hw _ w_f_X5_34) (fun _ h9 => h9) rfl dX5_readPart_41 ?_
    refine lv_if_eq (tgt := 49) hx hb dX5_readPart_44 (by decide) (fun _ => ?_) (fun c93 => False.elim (by have kc93 := (not_congr (cv_eq (rfl : (x_rd_fault).toInt = (x_rd_fault).toInt) (by decide : (0 : Int32).toInt = 0))).mp c93; omega))
    refine lv_aload_n hx hb dX5_readPart_49 rfl (lv_at hl 2 rfl) ?_
    obtain ⟨vq94, evq94⟩ := mq31_29 (.int x_rd_fault) (.int x_rd_place) (.ref h_td) (.ref h_kn) (.int x_rd_variables)
    replace hP : va_P (dC, dI) cls [(h_rd, .inr (4, (mo29 vq94 (.ref h_by) (.int x_rd_length) (.int x_rd_at) (.int x_rd_behind) (.int x_rd_token) (.long x_rd_letters)))), (h_by, .inl (cy_by, 600, .inl f_by)), (h_kn, .inl (cy_kn, 8, .inl f_kn)), (h_ter, .inl (cy_ter, 900, .inl f_ter)), (h_td, .inr (5, (mo32 v_td (.ref h_nam) (.ref h_var) (.ref h_trm) (.ref h_ter) (.int z83)))), (h_nam, .inl (cy_nam, 300, .inr (.inl f84))), (h_var, .inl (cy_var, 300, .inl f85)), (h_trm, .inl (cy_trm, 300, .inl f86))] H := by rw [evq94]; exact hP
    replace hD : va_D A [(h_rd, .inr (4, (mo29 vq94 (.ref h_by) (.int x_rd_length) (.int x_rd_at) (.int x_rd_behind) (.int x_rd_token) (.long x_rd_letters)))), (h_by, .inl (cy_by, 600, .inl f_by)), (h_kn, .inl (cy_kn, 8, .inl f_kn)), (h_ter, .inl (cy_ter, 900, .inl f_ter)), (h_td, .inr (5, (mo32 v_td (.ref h_nam) (.ref h_var) (.ref h_trm) (.ref h_ter) (.int z83)))), (h_nam, .inl (cy_nam, 300, .inr (.inl f84))), (h_var, .inl (cy_var, 300, .inl f85)), (h_trm, .inl (cy_trm, 300, .inl f86))] := by rw [evq94]; exact hD
    have hPc := hP.sub (ws' := [(h_rd, .inr (4, (mo29 vq94 (.ref h_by) (.int x_rd_length) (.int x_rd_at) (.int x_rd_behind) (.int x_rd_token) (.long x_rd_letters)))), (h_by, .inl (cy_by, 600, .inl f_by))]) [0, 1] rfl
    have hDc := hD.sub (ws' := [(h_rd, .inr (4, (mo29 vq94 (.ref h_by) (.int x_rd_length) (.int x_rd_at) (.int x_rd_behind) (.int x_rd_token) (.long x_rd_letters)))), (h_by, .inl (cy_by, 600, .inl f_by))]) [0, 1] (by decide) rfl
    have hKc := hK.sub (tys' := [(cy_by, .int)]) [0] rfl
    have hFc := va_free (wc := [(h_rd, .inr (4, (mo29 vq94 (.ref h_by) (.int x_rd_length) (.int x_rd_at) (.int x_rd_behind) (.int x_rd_token) (.long x_rd_letters)))), (h_by, .inl (cy_by, 600, .inl f_by))]) hD hS hA [0, 1] rfl
    refine va_callv (va_runV (As := []) (rest := []) ⟨hx, hb, hml, hown, hts⟩ (c_X5_nextToken l dC dI H.size h_rd h_by vq94 x_rd_length x_rd_at x_rd_behind x_rd_token x_rd_letters cy_by f_by G (by first | exact hx_rd_length | omega) (by first | exact hx_rd_at | omega) (by first | exact hx_rd_behind | omega) hf_by (by first | exact q7 | omega) hn_byt) (cwV 0 hts (gv hT w_m_X5_40 w_instanceMethod_X5_nextToken ws_sel_X5_nextToken w_ini_X5 w_code_X5_nextToken) rfl rfl rfl (by decide +kernel) ⟨(Nat.le_of_ble_eq_true rfl), (Nat.le_of_ble_eq_true rfl)⟩) ⟨pre_blind, va_recv hK hP (ci := 4) (q0 := 0) rfl rfl, pre_of hPc hKc hDc hN⟩ rfl rfl hl.1 rfl (lv_room (Nat.le_of_ble_eq_true rfl)) dX5_readPart_50 ⟨(Nat.le_of_ble_eq_true rfl), (Nat.le_of_ble_eq_true rfl)⟩) hS (fun q _ h => hFc q h) hFc (fun u t H locs ht hvm hq hB hz1 hk1 hS9 => ?_)
    obtain ⟨z96, z97, z98, z99⟩ := u
    obtain ⟨hP1, hD1⟩ := hB
    rw [ht] at hP1
    obtain ⟨hP9, hD9⟩ := va_join (wr := [(h_kn, .inl (cy_kn, 8, .inl f_kn)), (h_ter, .inl (cy_ter, 900, .inl f_ter)), (h_td, .inr (5, (mo32 v_td (.ref h_nam) (.ref h_var) (.ref h_trm) (.ref h_ter) (.int z83)))), (h_nam, .inl (cy_nam, 300, .inr (.inl f84))), (h_var, .inl (cy_var, 300, .inl f85)), (h_trm, .inl (cy_trm, 300, .inl f86))]) (w1 := [(h_rd, .inr (4, (mo29 vq94 (.ref h_by) (.int x_rd_length) (.int z96) (.int z97) (.int z98) (.long z99)))), (h_by, .inl (cy_by, 600, .inl f_by))]) hP hD [0, 1] [2, 3, 4, 5, 6, 7] rfl rfl (by decide) (by decide) hk1 hFc hP1 hD1
    clear hP hD hS hPc hDc hKc hFc hP1 hD1 hk1 hz1 ht hvm
    have hP : va_P (dC, dI) cls [(h_kn, .inl (cy_kn, 8, .inl f_kn)), (h_ter, .inl (cy_ter, 900, .inl f_ter)), (h_td, .inr (5, (mo32 v_td (.ref h_nam) (.ref h_var) (.ref h_trm) (.ref h_ter) (.int z83)))), (h_nam, .inl (cy_nam, 300, .inr (.inl f84))), (h_var, .inl (cy_var, 300, .inl f85)), (h_trm, .inl (cy_trm, 300, .inl f86)), (h_rd, .inr (4, (mo29 vq94 (.ref h_by) (.int x_rd_length) (.int z96) (.int z97) (.int z98) (.long z99)))), (h_by, .inl (cy_by, 600, .inl f_by))] H := hP9
    have hD : va_D A [(h_kn, .inl (cy_kn, 8, .inl f_kn)), (h_ter, .inl (cy_ter, 900, .inl f_ter)), (h_td, .inr (5, (mo32 v_td (.ref h_nam) (.ref h_var) (.ref h_trm) (.ref h_ter) (.int z83)))), (h_nam, .inl (cy_nam, 300, .inr (.inl f84))), (h_var, .inl (cy_var, 300, .inl f85)), (h_trm, .inl (cy_trm, 300, .inl f86)), (h_rd, .inr (4, (mo29 vq94 (.ref h_by) (.int x_rd_length) (.int z96) (.int z97) (.int z98) (.long z99)))), (h_by, .inl (cy_by, 600, .inl f_by))] := hD9
    have hS := hS9
    clear hP9 hD9 hS9
    rw [evq94] at hP hD
    replace hP : va_P (dC, dI) cls [(h_kn, .inl (cy_kn, 8, .inl f_kn)), (h_ter, .inl (cy_ter, 900, .inl f_ter)), (h_td, .inr (5, (mo32 v_td (.ref h_nam) (.ref h_var) (.ref h_trm) (.ref h_ter) (.int z83)))), (h_nam, .inl (cy_nam, 300, .inr (.inl f84))), (h_var, .inl (cy_var, 300, .inl f85)), (h_trm, .inl (cy_trm, 300, .inl f86)), (h_rd, .inr (4, (mo31 (.ref h_by) (.int x_rd_length) (.int x_rd_fault) (.int x_rd_place) (.ref h_td) (.ref h_kn) (.int x_rd_variables) (.int z96) (.int z97) (.int z98) (.long z99)))), (h_by, .inl (cy_by, 600, .inl f_by))] H := hP
    replace hD : va_D A [(h_kn, .inl (cy_kn, 8, .inl f_kn)), (h_ter, .inl (cy_ter, 900, .inl f_ter)), (h_td, .inr (5, (mo32 v_td (.ref h_nam) (.ref h_var) (.ref h_trm) (.ref h_ter) (.int z83)))), (h_nam, .inl (cy_nam, 300, .inr (.inl f84))), (h_var, .inl (cy_var, 300, .inl f85)), (h_trm, .inl (cy_trm, 300, .inl f86)), (h_rd, .inr (4, (mo31 (.ref h_by) (.int x_rd_length) (.int x_rd_fault) (.int x_rd_place) (.ref h_td) (.ref h_kn) (.int x_rd_variables) (.int z96) (.int z97) (.int z98) (.long z99)))), (h_by, .inl (cy_by, 600, .inl f_by))] := hD
    clear evq94 
    obtain ⟨k100, k101, k102, k103, k104, k105, k106, k107, k108, k109, k110⟩ := hq
    replace k100 : 0 ≤ ((z96)).toInt ∧ ((z96)).toInt ≤ 600 := k100
    replace k101 : 0 ≤ ((z97)).toInt ∧ ((z97)).toInt ≤ 600 := k101
    replace k102 : ((z96)).toInt = tkS (G) ((x_rd_length)).toInt ((x_rd_behind)).toInt := k102
    replace k103 : ((x_rd_behind)).toInt ≤ ((z96)).toInt := k103
    replace k104 : ((z98)).toInt = tkT (G) ((x_rd_length)).toInt ((z96)).toInt := k104
    replace k105 : ((z98)).toInt = -1 ∨ ((z97)).toInt = tkX (G) ((x_rd_length)).toInt ((z96)).toInt := k105
    replace k106 : ¬ ((z98)).toInt = 257 ∨ ((z99)).toInt = (G) ((z96)).toInt := k106
    replace k107 : -1 ≤ ((z98)).toInt ∧ ((z98)).toInt ≤ 258 := k107
    replace k108 : ((z97)).toInt ≤ ((x_rd_length)).toInt := k108
    replace k109 : ((z98)).toInt = -1 ∨ ((z96)).toInt < ((x_rd_length)).toInt := k109
    replace k110 : ((z96)).toInt ≤ ((x_rd_length)).toInt := k110
    have tn111b : (x_rd_behind).toInt = tkX G (x_rd_length).toInt (x_rd_at).toInt := by omega
    have tn111 : (z96).toInt = tkN G (x_rd_length).toInt (x_rd_at).toInt := by rw [k102, tn111b]; rfl
    have tn111t : (z98).toInt = tkT G (x_rd_length).toInt (tkN G (x_rd_length).toInt (x_rd_at).toInt) := by rw [← tn111]; exact k104
    have tn111g := tkN_gt (G := G) (n := (x_rd_length).toInt) (a := (x_rd_at).toInt) (by omega) (by omega) (by omega)
    have tw9 := nx_two (G := G) (n := (x_rd_length).toInt) hn_byt.1 (by omega) (by omega) q0 (by omega) tn111 k104
    refine lv_iload_n hx hb dX5_readPart_53 rfl (lv_at hl 1 rfl) ?_
    refine lv_if_eq (tgt := 66) hx hb dX5_readPart_54 (by decide) (fun c9 => absurd c9 (by decide)) (fun _ => ?_)
    refine lv_aload_n hx hb dX5_readPart_57 rfl (lv_at hl 2 rfl) ?_
    refine va_get (D := (dC, dI)) (ci := 4) (v := .int z98) (C := RX5) (T := TX5) (N := 11) hx hb hw iwX5 hown hK hP 6 rfl rfl 9 (by decide) (hw _ w_f_X5_43) (fun _ h9 => h9) rfl dX5_readPart_58 ?_
    refine lv_bipush (v := 40) hx hb dX5_readPart_61 (by decide) ?_
    refine lv_icmp_eq (tgt := 68) hx hb dX5_readPart_63 (by decide) (fun c112 => ?_) (fun c112 => ?_)
    · have kc112 := (cv_eq (rfl : (z98).toInt = (z98).toInt) (by decide : (40 : Int32).toInt = 40)).mp c112
      refine lv_iload_n hx hb dX5_readPart_68 rfl (lv_at hl 3 rfl) ?_
      refine lv_bipush (v := 6) hx hb dX5_readPart_69 (by decide) ?_
      refine lv_icmp_lt (tgt := 81) hx hb dX5_readPart_71 (by decide) (fun _ => ?_) (fun c9 => absurd c9 (by decide))
      have lo0 : pLo G (x_rd_length).toInt (pPs G (x_rd_length).toInt 0) 3 (z96).toInt (x_rd_variables).toInt vf = (pTm G (x_rd_length).toInt (pPs G (x_rd_length).toInt 1) (x_rd_at).toInt (x_rd_variables).toInt vf) := by rw [tn111]; exact ((pTm_name (by omega)).trans (pPs_open (by omega))).symm
      refine lv_iconst (v := 0) hx hb dX5_readPart_81 (by decide) ?_
      refine lv_istore (lv' := [(4, .int 0), (3, .int r82), (2, .int 1), (0, .ref h_rd), (1, .int 5)]) hx hb dX5_readPart_82 hl (by decide) rfl (fun ls hl => ?_)
      have lp129 : ∀ (n : Nat) (x113 : Int32) (f114 : Nat → Int32) (f115 : Nat → Int32) (x116 : Int32) (f117 : Nat → Int64) (f118 : Nat → Int32) (f119 : Nat → Int32) (x120 : Int32) (x121 : Int32) (x122 : Int32) (x123 : Int32) (x124 : Int32) (x125 : Int32) (x126 : Int64) (gh127 : Nat) (gh128 : Int → Int) (H : Heap) (locs : List Loc) (ls : Array Slot), (0 ≤ (x113).toInt ∧ (x113).toInt ≤ 3) → (Rg 0 299 f114) → (Rg 0 299 f115) → (0 ≤ (x116).toInt ∧ (x116).toInt ≤ 300) → (Rg (-1) 7 f118) → (Rg 0 3 f119) → (0 ≤ (x122).toInt ∧ (x122).toInt ≤ 8) → (0 ≤ (x123).toInt ∧ (x123).toInt ≤ 600) → (0 ≤ (x124).toInt ∧ (x124).toInt ≤ 600) → ((x125).toInt = tkT G (x_rd_length).toInt (x123).toInt) → ((x124).toInt = tkX G (x_rd_length).toInt (x123).toInt) → ((x125).toInt = 40 ∨ (x125).toInt = 44) → (2 * (x116).toInt ≤ (x123).toInt + 1) → ((x123).toInt < (x_rd_length).toInt) → ((x124).toInt ≤ (x_rd_length).toInt) → ((x_rd_at).toInt ≤ (x123).toInt) → ((x120).toInt = 0) → ((x121).toInt = (x_rd_place).toInt) → ((gh127 : Int) = 3 - (x113).toInt) → (pLo G (x_rd_length).toInt (pPs G (x_rd_length).toInt 0) gh127 (x123).toInt (x122).toInt gh128 = (pTm G (x_rd_length).toInt (pPs G (x_rd_length).toInt 1) (x_rd_at).toInt (x_rd_variables).toInt vf)) → (VFC (x122).toInt gh128 f114 f117 (x116).toInt) → (4 - (x113).toInt).toNat + 1 ≤ n → va_P (dC, dI) cls [(h_kn, .inl (cy_kn, 8, .inl f114)), (h_ter, .inl (cy_ter, 900, .inl f115)), (h_td, .inr (5, (mo32 v_td (.ref h_nam) (.ref h_var) (.ref h_trm) (.ref h_ter) (.int x116)))), (h_nam, .inl (cy_nam, 300, .inr (.inl f117))), (h_var, .inl (cy_var, 300, .inl f118)), (h_trm, .inl (cy_trm, 300, .inl f119)), (h_rd, .inr (4, (mo31 (.ref h_by) (.int x_rd_length) (.int x120) (.int x121) (.ref h_td) (.ref h_kn) (.int x122) (.int x123) (.int x124) (.int x125) (.long x126)))), (h_by, .inl (cy_by, 600, .inl f_by))] H → va_D A [(h_kn, .inl (cy_kn, 8, .inl f114)), (h_ter, .inl (cy_ter, 900, .inl f115)), (h_td, .inr (5, (mo32 v_td (.ref h_nam) (.ref h_var) (.ref h_trm) (.ref h_ter) (.int x116)))), (h_nam, .inl (cy_nam, 300, .inr (.inl f117))), (h_var, .inl (cy_var, 300, .inl f118)), (h_trm, .inl (cy_trm, 300, .inl f119)), (h_rd, .inr (4, (mo31 (.ref h_by) (.int x_rd_length) (.int x120) (.int x121) (.ref h_td) (.ref h_kn) (.int x122) (.int x123) (.int x124) (.int x125) (.long x126)))), (h_by, .inl (cy_by, 600, .inl f_by))] → va_S A s.heap H locs → lv_has ls 5 [(0, .ref h_rd), (1, .int 5), (2, .int 1), (3, .int r82), (4, .int x113)] → W p l e ({ frames := 4, cells := 0, slots := 0, locals := 149 } : Room) s m ([.ref h_rd, .int 5] : List Value).toArray below meth c H locs 0 0 (MQ below (va_Qi (fun (r : Int32) (u : (Int32) × (Int32) × (Int32) × (Int32) × (Int32) × (Int32) × (Int64) × (Nat → Int32) × (Int32) × (Nat → Int64) × (Nat → Int32) × (Nat → Int32) × (Nat → Int32)) => (0 ≤ (u.2.2.1).toInt ∧ (u.2.2.1).toInt ≤ 8) ∧ (0 ≤ (u.2.2.2.1).toInt ∧ (u.2.2.2.1).toInt ≤ 600) ∧ (0 ≤ (u.2.2.2.2.1).toInt ∧ (u.2.2.2.2.1).toInt ≤ 600) ∧ (Rg 0 299 u.2.2.2.2.2.2.2.1) ∧ (0 ≤ (u.2.2.2.2.2.2.2.2.1).toInt ∧ (u.2.2.2.2.2.2.2.2.1).toInt ≤ 300) ∧ (Rg (-1) 7 u.2.2.2.2.2.2.2.2.2.2.1) ∧ (Rg 0 3 u.2.2.2.2.2.2.2.2.2.2.2.1) ∧ (Rg 0 299 u.2.2.2.2.2.2.2.2.2.2.2.2) ∧ (0 ≤ r.toInt ∧ r.toInt ≤ 299) ∧ ((u.1).toInt = ((pTm G (x_rd_length).toInt (pPs G (x_rd_length).toInt 1) (x_rd_at).toInt (x_rd_variables).toInt vf)).1) ∧ ((u.2.2.2.1).toInt = ((pTm G (x_rd_length).toInt (pPs G (x_rd_length).toInt 1) (x_rd_at).toInt (x_rd_variables).toInt vf)).2.1) ∧ ((u.2.2.1).toInt = ((pTm G (x_rd_length).toInt (pPs G (x_rd_length).toInt 1) (x_rd_at).toInt (x_rd_variables).toInt vf)).2.2.1) ∧ (((u.1).toInt = 0 ∧ (u.2.1).toInt = (x_rd_place).toInt) ∨ (¬ (u.1).toInt = 0 ∧ (u.2.1).toInt = (u.2.2.2.1).toInt)) ∧ (2 * (u.2.2.2.2.2.2.2.2.1).toInt ≤ (u.2.2.2.1).toInt + 1) ∧ ((u.2.2.2.2.2.1).toInt < 256 ∨ 2 * (u.2.2.2.2.2.2.2.2.1).toInt ≤ (u.2.2.2.1).toInt) ∧ ((x_rd_at).toInt ≤ (u.2.2.2.1).toInt) ∧ ((u.2.2.2.2.2.1).toInt = tkT G (x_rd_length).toInt (u.2.2.2.1).toInt) ∧ ((u.2.2.2.2.2.1).toInt = -1 ∨ (u.2.2.2.2.1).toInt = tkX G (x_rd_length).toInt (u.2.2.2.1).toInt) ∧ (¬ (u.2.2.2.2.2.1).toInt = 257 ∨ (u.2.2.2.2.2.2.1).toInt = G (u.2.2.2.1).toInt) ∧ (-1 ≤ (u.2.2.2.2.2.1).toInt ∧ (u.2.2.2.2.2.1).toInt ≤ 258) ∧ ((u.2.2.2.2.1).toInt ≤ (x_rd_length).toInt) ∧ ((u.2.2.2.2.2.1).toInt = -1 ∨ (u.2.2.2.1).toInt < (x_rd_length).toInt) ∧ ((u.2.2.2.1).toInt ≤ (x_rd_length).toInt) ∧ (VFC (u.2.2.1).toInt ((pTm G (x_rd_length).toInt (pPs G (x_rd_length).toInt 1) (x_rd_at).toInt (x_rd_variables).toInt vf)).2.2.2 u.2.2.2.2.2.2.2.1 u.2.2.2.2.2.2.2.2.2.1 (u.2.2.2.2.2.2.2.2.1).toInt)) (fun (u : (Int32) × (Int32) × (Int32) × (Int32) × (Int32) × (Int32) × (Int64) × (Nat → Int32) × (Int32) × (Nat → Int64) × (Nat → Int32) × (Nat → Int32) × (Nat → Int32)) (t : State) => va_P (dC, dI) cls [(h_rd, .inr (4, (mo31 (.ref h_by) (.int x_rd_length) (.int u.1) (.int u.2.1) (.ref h_td) (.ref h_kn) (.int u.2.2.1) (.int u.2.2.2.1) (.int u.2.2.2.2.1) (.int u.2.2.2.2.2.1) (.long u.2.2.2.2.2.2.1)))), (h_by, .inl (cy_by, 600, .inl f_by)), (h_kn, .inl (cy_kn, 8, .inl u.2.2.2.2.2.2.2.1)), (h_td, .inr (5, (mo32 v_td (.ref h_nam) (.ref h_var) (.ref h_trm) (.ref h_ter) (.int u.2.2.2.2.2.2.2.2.1)))), (h_nam, .inl (cy_nam, 300, .inr (.inl u.2.2.2.2.2.2.2.2.2.1))), (h_var, .inl (cy_var, 300, .inl u.2.2.2.2.2.2.2.2.2.2.1)), (h_trm, .inl (cy_trm, 300, .inl u.2.2.2.2.2.2.2.2.2.2.2.1)), (h_ter, .inl (cy_ter, 900, .inl u.2.2.2.2.2.2.2.2.2.2.2.2))] t.heap ∧ va_D A [(h_rd, .inr (4, (mo31 (.ref h_by) (.int x_rd_length) (.int u.1) (.int u.2.1) (.ref h_td) (.ref h_kn) (.int u.2.2.1) (.int u.2.2.2.1) (.int u.2.2.2.2.1) (.int u.2.2.2.2.2.1) (.long u.2.2.2.2.2.2.1)))), (h_by, .inl (cy_by, 600, .inl f_by)), (h_kn, .inl (cy_kn, 8, .inl u.2.2.2.2.2.2.2.1)), (h_td, .inr (5, (mo32 v_td (.ref h_nam) (.ref h_var) (.ref h_trm) (.ref h_ter) (.int u.2.2.2.2.2.2.2.2.1)))), (h_nam, .inl (cy_nam, 300, .inr (.inl u.2.2.2.2.2.2.2.2.2.1))), (h_var, .inl (cy_var, 300, .inl u.2.2.2.2.2.2.2.2.2.2.1)), (h_trm, .inl (cy_trm, 300, .inl u.2.2.2.2.2.2.2.2.2.2.2.1)), (h_ter, .inl (cy_ter, 900, .inl u.2.2.2.2.2.2.2.2.2.2.2.2))]) A) ([.ref h_rd, .int 5] : List Value).toArray s 0 0 A) (F0 m 84 ls []) := by
        clear hP hD hS hl
        intro n
        induction n with
        | zero => intro x113 f114 f115 x116 f117 f118 f119 x120 x121 x122 x123 x124 x125 x126 gh127 gh128 H locs ls klp129_0 hf114 hf115 klp129_3 hf118 hf119 klp129_6 klp129_7 klp129_8 klp129_9 klp129_10 klp129_11 klp129_12 klp129_13 klp129_14 klp129_15 klp129_16 klp129_17 klp129_18 klp129_19 klp129_20 hm hP hD hS hl; exact False.elim (by omega)
        | succ n ih => 
          intro x113 f114 f115 x116 f117 f118 f119 x120 x121 x122 x123 x124 x125 x126 gh127 gh128 H locs ls klp129_0 hf114 hf115 klp129_3 hf118 hf119 klp129_6 klp129_7 klp129_8 klp129_9 klp129_10 klp129_11 klp129_12 klp129_13 klp129_14 klp129_15 klp129_16 klp129_17 klp129_18 klp129_19 klp129_20 hm hP hD hS hl
          have ih130 := ih
          clear ih
          refine lv_iload hx hb dX5_readPart_84 (lv_at hl 4 rfl) ?_
          refine lv_iconst (v := 3) hx hb dX5_readPart_86 (by decide) ?_
          refine lv_icmp_gt (tgt := 197) hx hb dX5_readPart_87 (by decide) (fun c131 => False.elim (by have kc131 := (cv_lt (by decide : (3 : Int32).toInt = 3) (rfl : (x113).toInt = (x113).toInt)).mp c131; omega)) (fun _ => ?_)
          refine lv_aload_n hx hb dX5_readPart_90 rfl (lv_at hl 0 rfl) ?_
          obtain ⟨vq132, evq132⟩ := mq31_29 (.int x120) (.int x121) (.ref h_td) (.ref h_kn) (.int x122)
          replace hP : va_P (dC, dI) cls [(h_kn, .inl (cy_kn, 8, .inl f114)), (h_ter, .inl (cy_ter, 900, .inl f115)), (h_td, .inr (5, (mo32 v_td (.ref h_nam) (.ref h_var) (.ref h_trm) (.ref h_ter) (.int x116)))), (h_nam, .inl (cy_nam, 300, .inr (.inl f117))), (h_var, .inl (cy_var, 300, .inl f118)), (h_trm, .inl (cy_trm, 300, .inl f119)), (h_rd, .inr (4, (mo29 vq132 (.ref h_by) (.int x_rd_length) (.int x123) (.int x124) (.int x125) (.long x126)))), (h_by, .inl (cy_by, 600, .inl f_by))] H := by rw [evq132]; exact hP
          replace hD : va_D A [(h_kn, .inl (cy_kn, 8, .inl f114)), (h_ter, .inl (cy_ter, 900, .inl f115)), (h_td, .inr (5, (mo32 v_td (.ref h_nam) (.ref h_var) (.ref h_trm) (.ref h_ter) (.int x116)))), (h_nam, .inl (cy_nam, 300, .inr (.inl f117))), (h_var, .inl (cy_var, 300, .inl f118)), (h_trm, .inl (cy_trm, 300, .inl f119)), (h_rd, .inr (4, (mo29 vq132 (.ref h_by) (.int x_rd_length) (.int x123) (.int x124) (.int x125) (.long x126)))), (h_by, .inl (cy_by, 600, .inl f_by))] := by rw [evq132]; exact hD
          have hPc := hP.sub (ws' := [(h_rd, .inr (4, (mo29 vq132 (.ref h_by) (.int x_rd_length) (.int x123) (.int x124) (.int x125) (.long x126)))), (h_by, .inl (cy_by, 600, .inl f_by))]) [6, 7] rfl
          have hDc := hD.sub (ws' := [(h_rd, .inr (4, (mo29 vq132 (.ref h_by) (.int x_rd_length) (.int x123) (.int x124) (.int x125) (.long x126)))), (h_by, .inl (cy_by, 600, .inl f_by))]) [6, 7] (by decide) rfl
          have hKc := hK.sub (tys' := [(cy_by, .int)]) [0] rfl
          have hFc := va_free (wc := [(h_rd, .inr (4, (mo29 vq132 (.ref h_by) (.int x_rd_length) (.int x123) (.int x124) (.int x125) (.long x126)))), (h_by, .inl (cy_by, 600, .inl f_by))]) hD hS hA [6, 7] rfl
          refine va_callv (va_runV (As := []) (rest := []) ⟨hx, hb, hml, hown, hts⟩ (c_X5_nextToken l dC dI H.size h_rd h_by vq132 x_rd_length x123 x124 x125 x126 cy_by f_by G (by first | exact hx_rd_length | omega) (by first | exact klp129_7 | omega) (by first | exact klp129_8 | omega) hf_by (by first | exact klp129_14 | omega) hn_byt) (cwV 0 hts (gv hT w_m_X5_40 w_instanceMethod_X5_nextToken ws_sel_X5_nextToken w_ini_X5 w_code_X5_nextToken) rfl rfl rfl (by decide +kernel) ⟨(Nat.le_of_ble_eq_true rfl), (Nat.le_of_ble_eq_true rfl)⟩) ⟨pre_blind, va_recv hK hP (ci := 4) (q0 := 6) rfl rfl, pre_of hPc hKc hDc hN⟩ rfl rfl hl.1 rfl (lv_room (Nat.le_of_ble_eq_true rfl)) dX5_readPart_91 ⟨(Nat.le_of_ble_eq_true rfl), (Nat.le_of_ble_eq_true rfl)⟩) hS (fun q _ h => hFc q h) hFc (fun u t H locs ht hvm hq hB hz1 hk1 hS9 => ?_)
          obtain ⟨z134, z135, z136, z137⟩ := u
          obtain ⟨hP1, hD1⟩ := hB
          rw [ht] at hP1
          obtain ⟨hP9, hD9⟩ := va_join (wr := [(h_kn, .inl (cy_kn, 8, .inl f114)), (h_ter, .inl (cy_ter, 900, .inl f115)), (h_td, .inr (5, (mo32 v_td (.ref h_nam) (.ref h_var) (.ref h_trm) (.ref h_ter) (.int x116)))), (h_nam, .inl (cy_nam, 300, .inr (.inl f117))), (h_var, .inl (cy_var, 300, .inl f118)), (h_trm, .inl (cy_trm, 300, .inl f119))]) (w1 := [(h_rd, .inr (4, (mo29 vq132 (.ref h_by) (.int x_rd_length) (.int z134) (.int z135) (.int z136) (.long z137)))), (h_by, .inl (cy_by, 600, .inl f_by))]) hP hD [6, 7] [0, 1, 2, 3, 4, 5] rfl rfl (by decide) (by decide) hk1 hFc hP1 hD1
          clear hP hD hS hPc hDc hKc hFc hP1 hD1 hk1 hz1 ht hvm
          have hP : va_P (dC, dI) cls [(h_kn, .inl (cy_kn, 8, .inl f114)), (h_ter, .inl (cy_ter, 900, .inl f115)), (h_td, .inr (5, (mo32 v_td (.ref h_nam) (.ref h_var) (.ref h_trm) (.ref h_ter) (.int x116)))), (h_nam, .inl (cy_nam, 300, .inr (.inl f117))), (h_var, .inl (cy_var, 300, .inl f118)), (h_trm, .inl (cy_trm, 300, .inl f119)), (h_rd, .inr (4, (mo29 vq132 (.ref h_by) (.int x_rd_length) (.int z134) (.int z135) (.int z136) (.long z137)))), (h_by, .inl (cy_by, 600, .inl f_by))] H := hP9
          have hD : va_D A [(h_kn, .inl (cy_kn, 8, .inl f114)), (h_ter, .inl (cy_ter, 900, .inl f115)), (h_td, .inr (5, (mo32 v_td (.ref h_nam) (.ref h_var) (.ref h_trm) (.ref h_ter) (.int x116)))), (h_nam, .inl (cy_nam, 300, .inr (.inl f117))), (h_var, .inl (cy_var, 300, .inl f118)), (h_trm, .inl (cy_trm, 300, .inl f119)), (h_rd, .inr (4, (mo29 vq132 (.ref h_by) (.int x_rd_length) (.int z134) (.int z135) (.int z136) (.long z137)))), (h_by, .inl (cy_by, 600, .inl f_by))] := hD9
          have hS := hS9
          clear hP9 hD9 hS9
          rw [evq132] at hP hD
          replace hP : va_P (dC, dI) cls [(h_kn, .inl (cy_kn, 8, .inl f114)), (h_ter, .inl (cy_ter, 900, .inl f115)), (h_td, .inr (5, (mo32 v_td (.ref h_nam) (.ref h_var) (.ref h_trm) (.ref h_ter) (.int x116)))), (h_nam, .inl (cy_nam, 300, .inr (.inl f117))), (h_var, .inl (cy_var, 300, .inl f118)), (h_trm, .inl (cy_trm, 300, .inl f119)), (h_rd, .inr (4, (mo31 (.ref h_by) (.int x_rd_length) (.int x120) (.int x121) (.ref h_td) (.ref h_kn) (.int x122) (.int z134) (.int z135) (.int z136) (.long z137)))), (h_by, .inl (cy_by, 600, .inl f_by))] H := hP
          replace hD : va_D A [(h_kn, .inl (cy_kn, 8, .inl f114)), (h_ter, .inl (cy_ter, 900, .inl f115)), (h_td, .inr (5, (mo32 v_td (.ref h_nam) (.ref h_var) (.ref h_trm) (.ref h_ter) (.int x116)))), (h_nam, .inl (cy_nam, 300, .inr (.inl f117))), (h_var, .inl (cy_var, 300, .inl f118)), (h_trm, .inl (cy_trm, 300, .inl f119)), (h_rd, .inr (4, (mo31 (.ref h_by) (.int x_rd_length) (.int x120) (.int x121) (.ref h_td) (.ref h_kn) (.int x122) (.int z134) (.int z135) (.int z136) (.long z137)))), (h_by, .inl (cy_by, 600, .inl f_by))] := hD
          clear evq132 
          obtain ⟨k138, k139, k140, k141, k142, k143, k144, k145, k146, k147, k148⟩ := hq
          replace k138 : 0 ≤ ((z134)).toInt ∧ ((z134)).toInt ≤ 600 := k138
          replace k139 : 0 ≤ ((z135)).toInt ∧ ((z135)).toInt ≤ 600 := k139
          replace k140 : ((z134)).toInt = tkS (G) ((x_rd_length)).toInt ((x124)).toInt := k140
          replace k141 : ((x124)).toInt ≤ ((z134)).toInt := k141
          replace k142 : ((z136)).toInt = tkT (G) ((x_rd_length)).toInt ((z134)).toInt := k142
          replace k143 : ((z136)).toInt = -1 ∨ ((z135)).toInt = tkX (G) ((x_rd_length)).toInt ((z134)).toInt := k143
          replace k144 : ¬ ((z136)).toInt = 257 ∨ ((z137)).toInt = (G) ((z134)).toInt := k144
          replace k145 : -1 ≤ ((z136)).toInt ∧ ((z136)).toInt ≤ 258 := k145
          replace k146 : ((z135)).toInt ≤ ((x_rd_length)).toInt := k146
          replace k147 : ((z136)).toInt = -1 ∨ ((z134)).toInt < ((x_rd_length)).toInt := k147
          replace k148 : ((z134)).toInt ≤ ((x_rd_length)).toInt := k148
          have tn149b : (x124).toInt = tkX G (x_rd_length).toInt (x123).toInt := by omega
          have tn149 : (z134).toInt = tkN G (x_rd_length).toInt (x123).toInt := by rw [k140, tn149b]; rfl
          have tn149t : (z136).toInt = tkT G (x_rd_length).toInt (tkN G (x_rd_length).toInt (x123).toInt) := by rw [← tn149]; exact k142
          have tn149g := tkN_gt (G := G) (n := (x_rd_length).toInt) (a := (x123).toInt) (by omega) (by omega) (by omega)
          refine lv_aload_n hx hb dX5_readPart_94 rfl (lv_at hl 0 rfl) ?_
          refine va_get (D := (dC, dI)) (ci := 4) (v := .int z136) (C := RX5) (T := TX5) (N := 11) hx hb hw iwX5 hown hK hP 6 rfl rfl 9 (by decide) (hw _ w_f_X5_43) (fun _ h9 => h9) rfl dX5_readPart_95 ?_
          refine lv_sipush (v := 256) hx hb dX5_readPart_98 (by decide) ?_
          refine lv_icmp_eq (tgt := 122) hx hb dX5_readPart_101 (by decide) (fun c150 => ?_) (fun c150 => ?_)
          · have kc150 := (cv_eq (rfl : (z136).toInt = (z136).toInt) (by decide : (256 : Int32).toInt = 256)).mp c150
            refine lv_iload hx hb dX5_readPart_122 (lv_at hl 4 rfl) ?_
            refine lv_iconst (v := 3) hx hb dX5_readPart_124 (by decide) ?_
            refine lv_icmp_ne (tgt := 136) hx hb dX5_readPart_125 (by decide) (fun c151 => ?_) (fun c151 => ?_)
            · have kc151 := (not_congr (cv_eq (rfl : (x113).toInt = (x113).toInt) (by decide : (3 : Int32).toInt = 3))).mp c151
              obtain ⟨rr152, rfl⟩ : ∃ y : Nat, gh127 = y + 1 := ⟨gh127 - 1, by omega⟩
              refine lv_aload_n hx hb dX5_readPart_136 rfl (lv_at hl 0 rfl) ?_
              refine va_get (D := (dC, dI)) (ci := 4) (v := .ref h_td) (C := RX5) (T := TX5) (N := 11) hx hb hw iwX5 hown hK hP 6 rfl rfl 4 (by decide) (hw _ w_f_X5_25) (fun _ h9 => h9) rfl dX5_readPart_137 ?_
              refine va_getN (D := (dC, dI)) (ci := 5) (v := .ref h_ter) (C := RX8) (T := TX8) (N := 10) (host := "OppositePairs") hx hb hw iwX8 hown hK hP 2 rfl rfl 3 (by decide) (hN.use n_f_X5_97 rfl) (fun _ h9 => h9) rfl dX5_readPart_140 ?_
              refine lv_iload_n hx hb dX5_readPart_143 rfl (lv_at hl 3 rfl) ?_
              refine lv_iconst (v := 3) hx hb dX5_readPart_144 (by decide) ?_
              refine lv_imul hx hb dX5_readPart_145 ?_
              refine lv_topi (fun z153 ez153 => ?_)
              have tz153 : (z153).toInt = (r82).toInt * 3 := by rw [ez153]; exact i_mul rfl (by decide) (by omega)
              refine lv_iload hx hb dX5_readPart_146 (lv_at hl 4 rfl) ?_
              refine lv_iadd hx hb dX5_readPart_148 ?_
              refine lv_topi (fun z154 ez154 => ?_)
              have tz154 : (z154).toInt = (z153).toInt + (x113).toInt := by rw [ez154]; exact i_add rfl rfl (by omega)
              refine lv_aload_n hx hb dX5_readPart_149 rfl (lv_at hl 0 rfl) ?_
              refine lv_iload_n hx hb dX5_readPart_150 rfl (lv_at hl 1 rfl) ?_
              refine lv_iconst (v := 1) hx hb dX5_readPart_151 (by decide) ?_
              refine lv_iadd hx hb dX5_readPart_152 ?_
              refine lv_topi (fun z155 ez155 => ?_)
              obtain rfl : z155 = 6 := ez155.trans (by decide)
              have cst6 : (6 : Int32).toInt = 6 := by decide
              have hPc := hP.sub (ws' := [(h_rd, .inr (4, (mo31 (.ref h_by) (.int x_rd_length) (.int x120) (.int x121) (.ref h_td) (.ref h_kn) (.int x122) (.int z134) (.int z135) (.int z136) (.long z137)))), (h_by, .inl (cy_by, 600, .inl f_by)), (h_kn, .inl (cy_kn, 8, .inl f114)), (h_td, .inr (5, (mo32 v_td (.ref h_nam) (.ref h_var) (.ref h_trm) (.ref h_ter) (.int x116)))), (h_nam, .inl (cy_nam, 300, .inr (.inl f117))), (h_var, .inl (cy_var, 300, .inl f118)), (h_trm, .inl (cy_trm, 300, .inl f119)), (h_ter, .inl (cy_ter, 900, .inl f115))]) [6, 7, 0, 2, 3, 4, 5, 1] rfl
              have hDc := hD.sub (ws' := [(h_rd, .inr (4, (mo31 (.ref h_by) (.int x_rd_length) (.int x120) (.int x121) (.ref h_td) (.ref h_kn) (.int x122) (.int z134) (.int z135) (.int z136) (.long z137)))), (h_by, .inl (cy_by, 600, .inl f_by)), (h_kn, .inl (cy_kn, 8, .inl f114)), (h_td, .inr (5, (mo32 v_td (.ref h_nam) (.ref h_var) (.ref h_trm) (.ref h_ter) (.int x116)))), (h_nam, .inl (cy_nam, 300, .inr (.inl f117))), (h_var, .inl (cy_var, 300, .inl f118)), (h_trm, .inl (cy_trm, 300, .inl f119)), (h_ter, .inl (cy_ter, 900, .inl f115))]) [6, 7, 0, 2, 3, 4, 5, 1] (by decide) rfl
              have hKc := hK.sub (tys' := [(cy_by, .int), (cy_kn, .int), (cy_nam, .long), (cy_var, .int), (cy_trm, .int), (cy_ter, .int)]) [0, 1, 2, 3, 4, 5] rfl
              have hFc := va_free (wc := [(h_rd, .inr (4, (mo31 (.ref h_by) (.int x_rd_length) (.int x120) (.int x121) (.ref h_td) (.ref h_kn) (.int x122) (.int z134) (.int z135) (.int z136) (.long z137)))), (h_by, .inl (cy_by, 600, .inl f_by)), (h_kn, .inl (cy_kn, 8, .inl f114)), (h_td, .inr (5, (mo32 v_td (.ref h_nam) (.ref h_var) (.ref h_trm) (.ref h_ter) (.int x116)))), (h_nam, .inl (cy_nam, 300, .inr (.inl f117))), (h_var, .inl (cy_var, 300, .inl f118)), (h_trm, .inl (cy_trm, 300, .inl f119)), (h_ter, .inl (cy_ter, 900, .inl f115))]) hD hS hA [6, 7, 0, 2, 3, 4, 5, 1] rfl
              refine va_calli (va_runV (As := [.int 6]) (rest := [.int z154, .ref h_ter]) ⟨hx, hb, hml, hown, hts⟩ (c_X5_readPart_6 l dC dI H.size h_rd h_by h_kn h_td h_nam h_var h_trm h_ter x_rd_length x120 x121 x122 z134 z135 z136 z137 cy_by f_by cy_kn f114 v_td x116 cy_nam f117 cy_var f118 cy_trm f119 cy_ter f115 G gh128 (by first | exact hx_rd_length | omega) (by first | exact klp129_6 | omega) (by first | exact k138 | omega) (by first | exact k139 | omega) hf_by hf114 (by first | exact klp129_3 | omega) hf118 hf119 hf115 (by first | exact k142 | omega) (by omega) (by omega) (by first | exact k144 | omega) (by omega) (by omega) (by omega) (by first | exact k146 | omega) hn_byt klp129_20) (cwV 1 hts (gv hT w_m_X5_81 w_instanceMethod_X5_readPart ws_sel_X5_readPart w_ini_X5 w_code_X5_readPart) rfl rfl rfl (by decide +kernel) ⟨(Nat.le_of_ble_eq_true rfl), (Nat.le_of_ble_eq_true rfl)⟩) ⟨pre_blind, va_recv hK hP (ci := 4) (q0 := 6) rfl rfl, pre_of hPc hKc hDc hN⟩ rfl rfl hl.1 rfl (lv_room (Nat.le_of_ble_eq_true rfl)) dX5_readPart_153 ⟨(Nat.le_of_ble_eq_true rfl), (Nat.le_of_ble_eq_true rfl)⟩) hS (fun q _ h => hFc q h) hFc (fun r156 u t H locs ht hvm hq hB hz1 hk1 hS9 => ?_)
              obtain ⟨z157, z158, z159, z160, z161, z162, z163, f164, z165, f166, f167, f168, f169⟩ := u
              obtain ⟨hP1, hD1⟩ := hB
              rw [ht] at hP1
              obtain ⟨hP9, hD9⟩ := va_join (wr := []) (w1 := [(h_rd, .inr (4, (mo31 (.ref h_by) (.int x_rd_length) (.int z157) (.int z158) (.ref h_td) (.ref h_kn) (.int z159) (.int z160) (.int z161) (.int z162) (.long z163)))), (h_by, .inl (cy_by, 600, .inl f_by)), (h_kn, .inl (cy_kn, 8, .inl f164)), (h_td, .inr (5, (mo32 v_td (.ref h_nam) (.ref h_var) (.ref h_trm) (.ref h_ter) (.int z165)))), (h_nam, .inl (cy_nam, 300, .inr (.inl f166))), (h_var, .inl (cy_var, 300, .inl f167)), (h_trm, .inl (cy_trm, 300, .inl f168)), (h_ter, .inl (cy_ter, 900, .inl f169))]) hP hD [6, 7, 0, 2, 3, 4, 5, 1] [] rfl rfl (by decide) (by decide) hk1 hFc hP1 hD1
              clear hP hD hS hPc hDc hKc hFc hP1 hD1 hk1 hz1 ht hvm
              have hP : va_P (dC, dI) cls [(h_rd, .inr (4, (mo31 (.ref h_by) (.int x_rd_length) (.int z157) (.int z158) (.ref h_td) (.ref h_kn) (.int z159) (.int z160) (.int z161) (.int z162) (.long z163)))), (h_by, .inl (cy_by, 600, .inl f_by)), (h_kn, .inl (cy_kn, 8, .inl f164)), (h_td, .inr (5, (mo32 v_td (.ref h_nam) (.ref h_var) (.ref h_trm) (.ref h_ter) (.int z165)))), (h_nam, .inl (cy_nam, 300, .inr (.inl f166))), (h_var, .inl (cy_var, 300, .inl f167)), (h_trm, .inl (cy_trm, 300, .inl f168)), (h_ter, .inl (cy_ter, 900, .inl f169))] H := hP9
              have hD : va_D A [(h_rd, .inr (4, (mo31 (.ref h_by) (.int x_rd_length) (.int z157) (.int z158) (.ref h_td) (.ref h_kn) (.int z159) (.int z160) (.int z161) (.int z162) (.long z163)))), (h_by, .inl (cy_by, 600, .inl f_by)), (h_kn, .inl (cy_kn, 8, .inl f164)), (h_td, .inr (5, (mo32 v_td (.ref h_nam) (.ref h_var) (.ref h_trm) (.ref h_ter) (.int z165)))), (h_nam, .inl (cy_nam, 300, .inr (.inl f166))), (h_var, .inl (cy_var, 300, .inl f167)), (h_trm, .inl (cy_trm, 300, .inl f168)), (h_ter, .inl (cy_ter, 900, .inl f169))] := hD9
              have hS := hS9
              clear hP9 hD9 hS9
              obtain ⟨k170, k171, k172, hf164, k173, hf167, hf168, hf169, k174, k175, k176, k177, k178, k179, k180, k181, k182, k183, k184, k185, k186, k187, k188, k189⟩ := hq
              replace k170 : 0 ≤ ((z159)).toInt ∧ ((z159)).toInt ≤ 8 := k170
              replace k171 : 0 ≤ ((z160)).toInt ∧ ((z160)).toInt ≤ 600 := k171
              replace k172 : 0 ≤ ((z161)).toInt ∧ ((z161)).toInt ≤ 600 := k172
              replace hf164 : Rg 0 299 (f164) := hf164
              replace k173 : 0 ≤ ((z165)).toInt ∧ ((z165)).toInt ≤ 300 := k173
              replace hf167 : Rg (-1) 7 (f167) := hf167
              replace hf168 : Rg 0 3 (f168) := hf168
              replace hf169 : Rg 0 299 (f169) := hf169
              replace k174 : 0 ≤ (r156).toInt ∧ (r156).toInt ≤ 299 := k174
              replace k175 : ((z157)).toInt = ((pTm (G) ((x_rd_length)).toInt (pPs (G) ((x_rd_length)).toInt 0) ((z134)).toInt ((x122)).toInt (gh128))).1 := k175
              replace k176 : ((z160)).toInt = ((pTm (G) ((x_rd_length)).toInt (pPs (G) ((x_rd_length)).toInt 0) ((z134)).toInt ((x122)).toInt (gh128))).2.1 := k176
              replace k177 : ((z159)).toInt = ((pTm (G) ((x_rd_length)).toInt (pPs (G) ((x_rd_length)).toInt 0) ((z134)).toInt ((x122)).toInt (gh128))).2.2.1 := k177
              replace k178 : (((z157)).toInt = 0 ∧ ((z158)).toInt = ((x121)).toInt) ∨ (¬ ((z157)).toInt = 0 ∧ ((z158)).toInt = ((z160)).toInt) := k178
              replace k179 : 2 * ((z165)).toInt ≤ ((z160)).toInt + 1 := k179
              replace k180 : ((z162)).toInt < 256 ∨ 2 * ((z165)).toInt ≤ ((z160)).toInt := k180
              replace k181 : ((z134)).toInt ≤ ((z160)).toInt := k181
              replace k182 : ((z162)).toInt = tkT (G) ((x_rd_length)).toInt ((z160)).toInt := k182
              replace k183 : ((z162)).toInt = -1 ∨ ((z161)).toInt = tkX (G) ((x_rd_length)).toInt ((z160)).toInt := k183
              replace k184 : ¬ ((z162)).toInt = 257 ∨ ((z163)).toInt = (G) ((z160)).toInt := k184
              replace k185 : -1 ≤ ((z162)).toInt ∧ ((z162)).toInt ≤ 258 := k185
              replace k186 : ((z161)).toInt ≤ ((x_rd_length)).toInt := k186
              replace k187 : ((z162)).toInt = -1 ∨ ((z160)).toInt < ((x_rd_length)).toInt := k187
              replace k188 : ((z160)).toInt ≤ ((x_rd_length)).toInt := k188
              replace k189 : VFC ((z159)).toInt ((pTm (G) ((x_rd_length)).toInt (pPs (G) ((x_rd_length)).toInt 0) ((z134)).toInt ((x122)).toInt (gh128))).2.2.2 (f164) (f166) ((z165)).toInt := k189
              obtain ⟨rh190, erh190⟩ : ∃ x : PR, x = (pTm (G) ((x_rd_length)).toInt (pPs (G) ((x_rd_length)).toInt 0) ((z134)).toInt ((x122)).toInt (gh128)) := ⟨_, rfl⟩
              rw [← erh190] at k175 k176 k177 k189
              rw [tn149] at erh190
              refine va_iast hx hb hK hP hD hS 7 5 rfl rfl (i := z154) (x := r156) (vp_in_iff.mpr (by omega)) dX5_readPart_156 (fun H locs hP9 hD9 hS9 => ?_)
              obtain ⟨f191, ef191⟩ : ∃ g : Nat → Int32, g = upd f169 (Int32.toNatClampNeg z154) r156 := ⟨_, rfl⟩
              clear hP hD hS
              have hP : va_P (dC, dI) cls [(h_rd, .inr (4, (mo31 (.ref h_by) (.int x_rd_length) (.int z157) (.int z158) (.ref h_td) (.ref h_kn) (.int z159) (.int z160) (.int z161) (.int z162) (.long z163)))), (h_by, .inl (cy_by, 600, .inl f_by)), (h_kn, .inl (cy_kn, 8, .inl f164)), (h_td, .inr (5, (mo32 v_td (.ref h_nam) (.ref h_var) (.ref h_trm) (.ref h_ter) (.int z165)))), (h_nam, .inl (cy_nam, 300, .inr (.inl f166))), (h_var, .inl (cy_var, 300, .inl f167)), (h_trm, .inl (cy_trm, 300, .inl f168)), (h_ter, .inl (cy_ter, 900, .inl f191))] H := by rw [ef191]; exact hP9
              have hD : va_D A [(h_rd, .inr (4, (mo31 (.ref h_by) (.int x_rd_length) (.int z157) (.int z158) (.ref h_td) (.ref h_kn) (.int z159) (.int z160) (.int z161) (.int z162) (.long z163)))), (h_by, .inl (cy_by, 600, .inl f_by)), (h_kn, .inl (cy_kn, 8, .inl f164)), (h_td, .inr (5, (mo32 v_td (.ref h_nam) (.ref h_var) (.ref h_trm) (.ref h_ter) (.int z165)))), (h_nam, .inl (cy_nam, 300, .inr (.inl f166))), (h_var, .inl (cy_var, 300, .inl f167)), (h_trm, .inl (cy_trm, 300, .inl f168)), (h_ter, .inl (cy_ter, 900, .inl f191))] := by rw [ef191]; exact hD9
              have hS := hS9
              clear hP9 hD9 hS9
              have hf191 : Rg 0 299 f191 := by rw [ef191]; exact rg_upd hf169 (by omega)
              clear ef191
              refine lv_aload_n hx hb dX5_readPart_157 rfl (lv_at hl 0 rfl) ?_
              refine va_get (D := (dC, dI)) (ci := 4) (v := .ref h_td) (C := RX5) (T := TX5) (N := 11) hx hb hw iwX5 hown hK hP 0 rfl rfl 4 (by decide) (hw _ w_f_X5_25) (fun _ h9 => h9) rfl dX5_readPart_158 ?_
              refine va_getN (D := (dC, dI)) (ci := 5) (v := .ref h_trm) (C := RX8) (T := TX8) (N := 10) (host := "OppositePairs") hx hb hw iwX8 hown hK hP 3 rfl rfl 2 (by decide) (hN.use n_f_X5_100 rfl) (fun _ h9 => h9) rfl dX5_readPart_161 ?_
              refine lv_iload_n hx hb dX5_readPart_164 rfl (lv_at hl 3 rfl) ?_
              refine lv_iload hx hb dX5_readPart_165 (lv_at hl 4 rfl) ?_
              refine lv_iconst (v := 1) hx hb dX5_readPart_167 (by decide) ?_
              refine lv_iadd hx hb dX5_readPart_168 ?_
              refine lv_topi (fun z192 ez192 => ?_)
              have tz192 : (z192).toInt = (x113).toInt + 1 := by rw [ez192]; exact i_add rfl (by decide) (by omega)
              refine va_iast hx hb hK hP hD hS 6 4 rfl rfl (i := r82) (x := z192) (vp_in_iff.mpr (by omega)) dX5_readPart_169 (fun H locs hP9 hD9 hS9 => ?_)
              obtain ⟨f193, ef193⟩ : ∃ g : Nat → Int32, g = upd f168 (Int32.toNatClampNeg r82) z192 := ⟨_, rfl⟩
              clear hP hD hS
              have hP : va_P (dC, dI) cls [(h_rd, .inr (4, (mo31 (.ref h_by) (.int x_rd_length) (.int z157) (.int z158) (.ref h_td) (.ref h_kn) (.int z159) (.int z160) (.int z161) (.int z162) (.long z163)))), (h_by, .inl (cy_by, 600, .inl f_by)), (h_kn, .inl (cy_kn, 8, .inl f164)), (h_td, .inr (5, (mo32 v_td (.ref h_nam) (.ref h_var) (.ref h_trm) (.ref h_ter) (.int z165)))), (h_nam, .inl (cy_nam, 300, .inr (.inl f166))), (h_var, .inl (cy_var, 300, .inl f167)), (h_trm, .inl (cy_trm, 300, .inl f193)), (h_ter, .inl (cy_ter, 900, .inl f191))] H := by rw [ef193]; exact hP9
              have hD : va_D A [(h_rd, .inr (4, (mo31 (.ref h_by) (.int x_rd_length) (.int z157) (.int z158) (.ref h_td) (.ref h_kn) (.int z159) (.int z160) (.int z161) (.int z162) (.long z163)))), (h_by, .inl (cy_by, 600, .inl f_by)), (h_kn, .inl (cy_kn, 8, .inl f164)), (h_td, .inr (5, (mo32 v_td (.ref h_nam) (.ref h_var) (.ref h_trm) (.ref h_ter) (.int z165)))), (h_nam, .inl (cy_nam, 300, .inr (.inl f166))), (h_var, .inl (cy_var, 300, .inl f167)), (h_trm, .inl (cy_trm, 300, .inl f193)), (h_ter, .inl (cy_ter, 900, .inl f191))] := by rw [ef193]; exact hD9
              have hS := hS9
              clear hP9 hD9 hS9
              have hf193 : Rg 0 3 f193 := by rw [ef193]; exact rg_upd hf168 (by omega)
              clear ef193
              refine lv_aload_n hx hb dX5_readPart_170 rfl (lv_at hl 0 rfl) ?_
              refine va_get (D := (dC, dI)) (ci := 4) (v := .int z157) (C := RX5) (T := TX5) (N := 11) hx hb hw iwX5 hown hK hP 0 rfl rfl 2 (by decide) (hw _ w_f_X5_34) (fun _ h9 => h9) rfl dX5_readPart_171 ?_
              refine lv_if_eq (tgt := 179) hx hb dX5_readPart_174 (by decide) (fun c194 => ?_) (fun c194 => ?_)
              · have kc194 := (cv_eq (rfl : (z157).toInt = (z157).toInt) (by decide : (0 : Int32).toInt = 0)).mp c194
                refine lv_aload_n hx hb dX5_readPart_179 rfl (lv_at hl 0 rfl) ?_
                refine va_get (D := (dC, dI)) (ci := 4) (v := .int z162) (C := RX5) (T := TX5) (N := 11) hx hb hw iwX5 hown hK hP 0 rfl rfl 9 (by decide) (hw _ w_f_X5_43) (fun _ h9 => h9) rfl dX5_readPart_180 ?_
                refine lv_bipush (v := 44) hx hb dX5_readPart_183 (by decide) ?_
                refine lv_icmp_eq (tgt := 191) hx hb dX5_readPart_185 (by decide) (fun c195 => ?_) (fun c195 => ?_)
                · have kc195 := (cv_eq (rfl : (z162).toInt = (z162).toInt) (by decide : (44 : Int32).toInt = 44)).mp c195
                  have on9 := pLo_on (G := G) (n := (x_rd_length).toInt) (P := (pPs G (x_rd_length).toInt 0)) (r := rr152) (q := (x123).toInt) (nv := (x122).toInt) (vf := gh128) (by rw [← erh190]; omega) (by rw [← erh190, ← k176]; omega)
                  rw [← erh190, ← k176, ← k177] at on9
                  have lo196 := on9.symm.trans klp129_19
                  obtain ⟨z197, ez197⟩ : ∃ y : Int32, y = x113 + 1 := ⟨_, rfl⟩
                  have tz197 : (z197).toInt = (x113).toInt + 1 := by rw [ez197]; exact i_add rfl (by decide) (by omega)
                  refine lv_iinc (v := z197) (lv' := [(4, .int z197), (0, .ref h_rd), (1, .int 5), (2, .int 1), (3, .int r82)]) hx hb dX5_readPart_191 hl (k := 4) rfl (by rw [ez197]; rfl) (by decide) rfl (fun ls hl => ?_)
                  refine lv_goto (tgt := 84) hx hb dX5_readPart_194 (by decide) ?_
                  replace hP : va_P (dC, dI) cls [(h_kn, .inl (cy_kn, 8, .inl f164)), (h_ter, .inl (cy_ter, 900, .inl f191)), (h_td, .inr (5, (mo32 v_td (.ref h_nam) (.ref h_var) (.ref h_trm) (.ref h_ter) (.int z165)))), (h_nam, .inl (cy_nam, 300, .inr (.inl f166))), (h_var, .inl (cy_var, 300, .inl f167)), (h_trm, .inl (cy_trm, 300, .inl f193)), (h_rd, .inr (4, (mo31 (.ref h_by) (.int x_rd_length) (.int z157) (.int z158) (.ref h_td) (.ref h_kn) (.int z159) (.int z160) (.int z161) (.int z162) (.long z163)))), (h_by, .inl (cy_by, 600, .inl f_by))] H := hP.sub [2, 7, 3, 4, 5, 6, 0, 1] rfl
                  replace hD : va_D A [(h_kn, .inl (cy_kn, 8, .inl f164)), (h_ter, .inl (cy_ter, 900, .inl f191)), (h_td, .inr (5, (mo32 v_td (.ref h_nam) (.ref h_var) (.ref h_trm) (.ref h_ter) (.int z165)))), (h_nam, .inl (cy_nam, 300, .inr (.inl f166))), (h_var, .inl (cy_var, 300, .inl f167)), (h_trm, .inl (cy_trm, 300, .inl f193)), (h_rd, .inr (4, (mo31 (.ref h_by) (.int x_rd_length) (.int z157) (.int z158) (.ref h_td) (.ref h_kn) (.int z159) (.int z160) (.int z161) (.int z162) (.long z163)))), (h_by, .inl (cy_by, 600, .inl f_by))] := hD.sub [2, 7, 3, 4, 5, 6, 0, 1] (by decide) rfl
                  exact ih130 (z197) (f164) (f191) (z165) (f166) (f167) (f193) (z157) (z158) (z159) (z160) (z161) (z162) (z163) (rr152) ((rh190).2.2.2) _ _ _ (by omega) hf164 hf191 (by first | exact k173 | omega) hf167 hf193 (by first | exact k170 | omega) (by first | exact k171 | omega) (by first | exact k172 | omega) (by first | exact k182 | omega) (by omega) (by omega) (by first | exact k179 | omega) (by omega) (by first | exact k186 | omega) (by omega) (by omega) (by omega) (by omega) lo196 k189 (by omega) hP hD hS (lv_sub hl [1, 2, 3, 4, 0] rfl)
                · have kc195 := (not_congr (cv_eq (rfl : (z162).toInt = (z162).toInt) (by decide : (44 : Int32).toInt = 44))).mp c195
                  refine lv_goto (tgt := 197) hx hb dX5_readPart_188 (by decide) ?_
                  have on9 := pLo_off (G := G) (n := (x_rd_length).toInt) (P := (pPs G (x_rd_length).toInt 0)) (r := rr152) (q := (x123).toInt) (nv := (x122).toInt) (vf := gh128) (by rw [← erh190]; omega) (by rw [← erh190, ← k176]; omega)
                  rw [← erh190, ← k176, ← k177] at on9
                  have cl9 := on9.symm.trans klp129_19
                  refine lv_aload_n hx hb dX5_readPart_197 rfl (lv_at hl 0 rfl) ?_
                  refine va_get (D := (dC, dI)) (ci := 4) (v := .int z162) (C := RX5) (T := TX5) (N := 11) hx hb hw iwX5 hown hK hP 0 rfl rfl 9 (by decide) (hw _ w_f_X5_43) (fun _ h9 => h9) rfl dX5_readPart_198 ?_
                  refine lv_bipush (v := 41) hx hb dX5_readPart_201 (by decide) ?_
                  refine lv_icmp_ne (tgt := 213) hx hb dX5_readPart_203 (by decide) (fun c198 => ?_) (fun c198 => ?_)
                  · have kc198 := (not_congr (cv_eq (rfl : (z162).toInt = (z162).toInt) (by decide : (41 : Int32).toInt = 41))).mp c198
                    have pv9 : (pTm G (x_rd_length).toInt (pPs G (x_rd_length).toInt 1) (x_rd_at).toInt (x_rd_variables).toInt vf) = (1, (z160).toInt, (z159).toInt, (rh190).2.2.2) := cl9.symm.trans (pCl_no (by omega))
                    have pq1991 : ((pTm G (x_rd_length).toInt (pPs G (x_rd_length).toInt 1) (x_rd_at).toInt (x_rd_variables).toInt vf)).1 = 1 := by rw [pv9]
                    have pq1992 : ((pTm G (x_rd_length).toInt (pPs G (x_rd_length).toInt 1) (x_rd_at).toInt (x_rd_variables).toInt vf)).2.1 = (z160).toInt := by rw [pv9]
                    have pq1993 : ((pTm G (x_rd_length).toInt (pPs G (x_rd_length).toInt 1) (x_rd_at).toInt (x_rd_variables).toInt vf)).2.2.1 = (z159).toInt := by rw [pv9]
                    have pq1994 : ((pTm G (x_rd_length).toInt (pPs G (x_rd_length).toInt 1) (x_rd_at).toInt (x_rd_variables).toInt vf)).2.2.2 = (rh190).2.2.2 := by rw [pv9]
                    refine lv_aload_n hx hb dX5_readPart_213 rfl (lv_at hl 0 rfl) ?_
                    refine lv_iconst (v := 1) hx hb dX5_readPart_214 (by decide) ?_
                    obtain ⟨vq200, evq200⟩ := mq31_27 (.ref h_by) (.int x_rd_length) (.ref h_td) (.ref h_kn) (.int z159) (.int z161) (.int z162) (.long z163)
                    replace hP : va_P (dC, dI) cls [(h_rd, .inr (4, (mo27 vq200 (.int z157) (.int z158) (.int z160)))), (h_by, .inl (cy_by, 600, .inl f_by)), (h_kn, .inl (cy_kn, 8, .inl f164)), (h_td, .inr (5, (mo32 v_td (.ref h_nam) (.ref h_var) (.ref h_trm) (.ref h_ter) (.int z165)))), (h_nam, .inl (cy_nam, 300, .inr (.inl f166))), (h_var, .inl (cy_var, 300, .inl f167)), (h_trm, .inl (cy_trm, 300, .inl f193)), (h_ter, .inl (cy_ter, 900, .inl f191))] H := by rw [evq200]; exact hP
                    replace hD : va_D A [(h_rd, .inr (4, (mo27 vq200 (.int z157) (.int z158) (.int z160)))), (h_by, .inl (cy_by, 600, .inl f_by)), (h_kn, .inl (cy_kn, 8, .inl f164)), (h_td, .inr (5, (mo32 v_td (.ref h_nam) (.ref h_var) (.ref h_trm) (.ref h_ter) (.int z165)))), (h_nam, .inl (cy_nam, 300, .inr (.inl f166))), (h_var, .inl (cy_var, 300, .inl f167)), (h_trm, .inl (cy_trm, 300, .inl f193)), (h_ter, .inl (cy_ter, 900, .inl f191))] := by rw [evq200]; exact hD
                    have cst1 : (1 : Int32).toInt = 1 := by decide
                    have hPc := hP.sub (ws' := [(h_rd, .inr (4, (mo27 vq200 (.int z157) (.int z158) (.int z160))))]) [0] rfl
                    have hDc := hD.sub (ws' := [(h_rd, .inr (4, (mo27 vq200 (.int z157) (.int z158) (.int z160))))]) [0] (by decide) rfl
                    have hKc := hK.sub (tys' := []) [] rfl
                    have hFc := va_free (wc := [(h_rd, .inr (4, (mo27 vq200 (.int z157) (.int z158) (.int z160))))]) hD hS hA [0] rfl
                    refine va_callv (va_runV (As := [.int 1]) (rest := []) ⟨hx, hb, hml, hown, hts⟩ (c_X5_blame l dC dI H.size h_rd vq200 z157 z158 z160 1 (by first | exact k171 | omega)) (cwV 1 hts (gv hT w_m_X5_56 w_instanceMethod_X5_blame ws_sel_X5_blame w_ini_X5 w_code_X5_blame) rfl rfl rfl (by decide +kernel) ⟨(Nat.le_of_ble_eq_true rfl), (Nat.le_of_ble_eq_true rfl)⟩) ⟨pre_blind, va_recv hK hP (ci := 4) (q0 := 0) rfl rfl, pre_of hPc hKc hDc hN⟩ rfl rfl hl.1 rfl (lv_room (Nat.le_of_ble_eq_true rfl)) dX5_readPart_215 ⟨(Nat.le_of_ble_eq_true rfl), (Nat.le_of_ble_eq_true rfl)⟩) hS (fun q _ h => hFc q h) hFc (fun u t H locs ht hvm hq hB hz1 hk1 hS9 => ?_)
                    obtain ⟨z202, z203⟩ := u
                    obtain ⟨hP1, hD1⟩ := hB
                    rw [ht] at hP1
                    obtain ⟨hP9, hD9⟩ := va_join (wr := [(h_by, .inl (cy_by, 600, .inl f_by)), (h_kn, .inl (cy_kn, 8, .inl f164)), (h_td, .inr (5, (mo32 v_td (.ref h_nam) (.ref h_var) (.ref h_trm) (.ref h_ter) (.int z165)))), (h_nam, .inl (cy_nam, 300, .inr (.inl f166))), (h_var, .inl (cy_var, 300, .inl f167)), (h_trm, .inl (cy_trm, 300, .inl f193)), (h_ter, .inl (cy_ter, 900, .inl f191))]) (w1 := [(h_rd, .inr (4, (mo27 vq200 (.int z202) (.int z203) (.int z160))))]) hP hD [0] [1, 2, 3, 4, 5, 6, 7] rfl rfl (by decide) (by decide) hk1 hFc hP1 hD1
                    clear hP hD hS hPc hDc hKc hFc hP1 hD1 hk1 hz1 ht hvm
                    have hP : va_P (dC, dI) cls [(h_by, .inl (cy_by, 600, .inl f_by)), (h_kn, .inl (cy_kn, 8, .inl f164)), (h_td, .inr (5, (mo32 v_td (.ref h_nam) (.ref h_var) (.ref h_trm) (.ref h_ter) (.int z165)))), (h_nam, .inl (cy_nam, 300, .inr (.inl f166))), (h_var, .inl (cy_var, 300, .inl f167)), (h_trm, .inl (cy_trm, 300, .inl f193)), (h_ter, .inl (cy_ter, 900, .inl f191)), (h_rd, .inr (4, (mo27 vq200 (.int z202) (.int z203) (.int z160))))] H := hP9
                    have hD : va_D A [(h_by, .inl (cy_by, 600, .inl f_by)), (h_kn, .inl (cy_kn, 8, .inl f164)), (h_td, .inr (5, (mo32 v_td (.ref h_nam) (.ref h_var) (.ref h_trm) (.ref h_ter) (.int z165)))), (h_nam, .inl (cy_nam, 300, .inr (.inl f166))), (h_var, .inl (cy_var, 300, .inl f167)), (h_trm, .inl (cy_trm, 300, .inl f193)), (h_ter, .inl (cy_ter, 900, .inl f191)), (h_rd, .inr (4, (mo27 vq200 (.int z202) (.int z203) (.int z160))))] := hD9
                    have hS := hS9
                    clear hP9 hD9 hS9
                    rw [evq200] at hP hD
                    replace hP : va_P (dC, dI) cls [(h_by, .inl (cy_by, 600, .inl f_by)), (h_kn, .inl (cy_kn, 8, .inl f164)), (h_td, .inr (5, (mo32 v_td (.ref h_nam) (.ref h_var) (.ref h_trm) (.ref h_ter) (.int z165)))), (h_nam, .inl (cy_nam, 300, .inr (.inl f166))), (h_var, .inl (cy_var, 300, .inl f167)), (h_trm, .inl (cy_trm, 300, .inl f193)), (h_ter, .inl (cy_ter, 900, .inl f191)), (h_rd, .inr (4, (mo31 (.ref h_by) (.int x_rd_length) (.int z202) (.int z203) (.ref h_td) (.ref h_kn) (.int z159) (.int z160) (.int z161) (.int z162) (.long z163))))] H := hP
                    replace hD : va_D A [(h_by, .inl (cy_by, 600, .inl f_by)), (h_kn, .inl (cy_kn, 8, .inl f164)), (h_td, .inr (5, (mo32 v_td (.ref h_nam) (.ref h_var) (.ref h_trm) (.ref h_ter) (.int z165)))), (h_nam, .inl (cy_nam, 300, .inr (.inl f166))), (h_var, .inl (cy_var, 300, .inl f167)), (h_trm, .inl (cy_trm, 300, .inl f193)), (h_ter, .inl (cy_ter, 900, .inl f191)), (h_rd, .inr (4, (mo31 (.ref h_by) (.int x_rd_length) (.int z202) (.int z203) (.ref h_td) (.ref h_kn) (.int z159) (.int z160) (.int z161) (.int z162) (.long z163))))] := hD
                    clear evq200 
                    obtain ⟨k204, k205⟩ := hq
                    replace k204 : ((z202)).toInt = ((1 : Int32)).toInt := k204
                    replace k205 : ((z203)).toInt = ((z160)).toInt := k205
                    refine lv_iload_n hx hb dX5_readPart_218 rfl (lv_at hl 3 rfl) ?_
                    replace hP : va_P (dC, dI) cls [(h_rd, .inr (4, (mo31 (.ref h_by) (.int x_rd_length) (.int z202) (.int z203) (.ref h_td) (.ref h_kn) (.int z159) (.int z160) (.int z161) (.int z162) (.long z163)))), (h_by, .inl (cy_by, 600, .inl f_by)), (h_kn, .inl (cy_kn, 8, .inl f164)), (h_td, .inr (5, (mo32 v_td (.ref h_nam) (.ref h_var) (.ref h_trm) (.ref h_ter) (.int z165)))), (h_nam, .inl (cy_nam, 300, .inr (.inl f166))), (h_var, .inl (cy_var, 300, .inl f167)), (h_trm, .inl (cy_trm, 300, .inl f193)), (h_ter, .inl (cy_ter, 900, .inl f191))] H := hP.sub [7, 0, 1, 2, 3, 4, 5, 6] rfl
                    replace hD : va_D A [(h_rd, .inr (4, (mo31 (.ref h_by) (.int x_rd_length) (.int z202) (.int z203) (.ref h_td) (.ref h_kn) (.int z159) (.int z160) (.int z161) (.int z162) (.long z163)))), (h_by, .inl (cy_by, 600, .inl f_by)), (h_kn, .inl (cy_kn, 8, .inl f164)), (h_td, .inr (5, (mo32 v_td (.ref h_nam) (.ref h_var) (.ref h_trm) (.ref h_ter) (.int z165)))), (h_nam, .inl (cy_nam, 300, .inr (.inl f166))), (h_var, .inl (cy_var, 300, .inl f167)), (h_trm, .inl (cy_trm, 300, .inl f193)), (h_ter, .inl (cy_ter, 900, .inl f191))] := hD.sub [7, 0, 1, 2, 3, 4, 5, 6] (by decide) rfl
                    refine W.widen (k := 0) (n := 0) (Nat.le_of_ble_eq_true rfl) (Nat.le_of_ble_eq_true rfl) ?_
                    have w206 : 0 ≤ ((z159)).toInt ∧ ((z159)).toInt ≤ 8 := by first | exact k170 | omega
                    have w207 : 0 ≤ ((z160)).toInt ∧ ((z160)).toInt ≤ 600 := by first | exact k171 | omega
                    have w208 : 0 ≤ ((z161)).toInt ∧ ((z161)).toInt ≤ 600 := by first | exact k172 | omega
                    have w209 : 0 ≤ ((z165)).toInt ∧ ((z165)).toInt ≤ 300 := by first | exact k173 | omega
                    have w210 : 0 ≤ (r82 : Int32).toInt ∧ (r82 : Int32).toInt ≤ 299 := by first | exact k88 | omega
                    have w211 : ((z202)).toInt = ((pTm G (x_rd_length).toInt (pPs G (x_rd_length).toInt 1) (x_rd_at).toInt (x_rd_variables).toInt vf)).1 := by omega
                    have w212 : ((z160)).toInt = ((pTm G (x_rd_length).toInt (pPs G (x_rd_length).toInt 1) (x_rd_at).toInt (x_rd_variables).toInt vf)).2.1 := by omega
                    have w213 : ((z159)).toInt = ((pTm G (x_rd_length).toInt (pPs G (x_rd_length).toInt 1) (x_rd_at).toInt (x_rd_variables).toInt vf)).2.2.1 := by omega
                    have w214 : (((z202)).toInt = 0 ∧ ((z203)).toInt = (x_rd_place).toInt) ∨ (¬ ((z202)).toInt = 0 ∧ ((z203)).toInt = ((z160)).toInt) := by omega
                    have w215 : 2 * ((z165)).toInt ≤ ((z160)).toInt + 1 := by first | exact k179 | omega
                    have w216 : ((z162)).toInt < 256 ∨ 2 * ((z165)).toInt ≤ ((z160)).toInt := by first | exact k180 | omega
                    have w217 : (x_rd_at).toInt ≤ ((z160)).toInt := by omega
                    have w218 : ((z162)).toInt = tkT G (x_rd_length).toInt ((z160)).toInt := by first | exact k182 | omega
                    have w219 : ((z162)).toInt = -1 ∨ ((z161)).toInt = tkX G (x_rd_length).toInt ((z160)).toInt := by first | exact k183 | omega
                    have w220 : ¬ ((z162)).toInt = 257 ∨ ((z163)).toInt = G ((z160)).toInt := by first | exact k184 | omega
                    have w221 : -1 ≤ ((z162)).toInt ∧ ((z162)).toInt ≤ 258 := by first | exact k185 | omega
                    have w222 : ((z161)).toInt ≤ (x_rd_length).toInt := by first | exact k186 | omega
                    have w223 : ((z162)).toInt = -1 ∨ ((z160)).toInt < (x_rd_length).toInt := by first | exact k187 | omega
                    have w224 : ((z160)).toInt ≤ (x_rd_length).toInt := by first | exact k188 | omega
                    have w225 : VFC ((z159)).toInt ((pTm G (x_rd_length).toInt (pPs G (x_rd_length).toInt 1) (x_rd_at).toInt (x_rd_variables).toInt vf)).2.2.2 (f164) (f166) ((z165)).toInt := (by rw [pq1994]; exact k189)
                    exact W.iret (v := r82) hx hb hr (fun t ht hW => ⟨⟨r82, (z202, z203, z159, z160, z161, z162, z163, f164, z165, f166, f167, f193, f191), rfl, ⟨w206, w207, w208, hf164, w209, hf167, hf193, hf191, w210, w211, w212, w213, w214, w215, w216, w217, w218, w219, w220, w221, w222, w223, w224, w225⟩, by rw [ht]; exact hP, hD⟩, hS.F ht⟩) hS.2.2 dX5_readPart_219
                  · have kc198 := (cv_eq (rfl : (z162).toInt = (z162).toInt) (by decide : (41 : Int32).toInt = 41)).mp c198
                    have pv9 : (pTm G (x_rd_length).toInt (pPs G (x_rd_length).toInt 1) (x_rd_at).toInt (x_rd_variables).toInt vf) = (0, tkN G (x_rd_length).toInt (z160).toInt, (z159).toInt, (rh190).2.2.2) := cl9.symm.trans (pCl_yes (by omega))
                    have pq2261 : ((pTm G (x_rd_length).toInt (pPs G (x_rd_length).toInt 1) (x_rd_at).toInt (x_rd_variables).toInt vf)).1 = 0 := by rw [pv9]
                    have pq2262 : ((pTm G (x_rd_length).toInt (pPs G (x_rd_length).toInt 1) (x_rd_at).toInt (x_rd_variables).toInt vf)).2.1 = tkN G (x_rd_length).toInt (z160).toInt := by rw [pv9]
                    have pq2263 : ((pTm G (x_rd_length).toInt (pPs G (x_rd_length).toInt 1) (x_rd_at).toInt (x_rd_variables).toInt vf)).2.2.1 = (z159).toInt := by rw [pv9]
                    have pq2264 : ((pTm G (x_rd_length).toInt (pPs G (x_rd_length).toInt 1) (x_rd_at).toInt (x_rd_variables).toInt vf)).2.2.2 = (rh190).2.2.2 := by rw [pv9]
                    refine lv_aload_n hx hb dX5_readPart_206 rfl (lv_at hl 0 rfl) ?_
                    obtain ⟨vq227, evq227⟩ := mq31_29 (.int z157) (.int z158) (.ref h_td) (.ref h_kn) (.int z159)
                    replace hP : va_P (dC, dI) cls [(h_rd, .inr (4, (mo29 vq227 (.ref h_by) (.int x_rd_length) (.int z160) (.int z161) (.int z162) (.long z163)))), (h_by, .inl (cy_by, 600, .inl f_by)), (h_kn, .inl (cy_kn, 8, .inl f164)), (h_td, .inr (5, (mo32 v_td (.ref h_nam) (.ref h_var) (.ref h_trm) (.ref h_ter) (.int z165)))), (h_nam, .inl (cy_nam, 300, .inr (.inl f166))), (h_var, .inl (cy_var, 300, .inl f167)), (h_trm, .inl (cy_trm, 300, .inl f193)), (h_ter, .inl (cy_ter, 900, .inl f191))] H := by rw [evq227]; exact hP
                    replace hD : va_D A [(h_rd, .inr (4, (mo29 vq227 (.ref h_by) (.int x_rd_length) (.int z160) (.int z161) (.int z162) (.long z163)))), (h_by, .inl (cy_by, 600, .inl f_by)), (h_kn, .inl (cy_kn, 8, .inl f164)), (h_td, .inr (5, (mo32 v_td (.ref h_nam) (.ref h_var) (.ref h_trm) (.ref h_ter) (.int z165)))), (h_nam, .inl (cy_nam, 300, .inr (.inl f166))), (h_var, .inl (cy_var, 300, .inl f167)), (h_trm, .inl (cy_trm, 300, .inl f193)), (h_ter, .inl (cy_ter, 900, .inl f191))] := by rw [evq227]; exact hD
                    have hPc := hP.sub (ws' := [(h_rd, .inr (4, (mo29 vq227 (.ref h_by) (.int x_rd_length) (.int z160) (.int z161) (.int z162) (.long z163)))), (h_by, .inl (cy_by, 600, .inl f_by))]) [0, 1] rfl
                    have hDc := hD.sub (ws' := [(h_rd, .inr (4, (mo29 vq227 (.ref h_by) (.int x_rd_length) (.int z160) (.int z161) (.int z162) (.long z163)))), (h_by, .inl (cy_by, 600, .inl f_by))]) [0, 1] (by decide) rfl
                    have hKc := hK.sub (tys' := [(cy_by, .int)]) [0] rfl
                    have hFc := va_free (wc := [(h_rd, .inr (4, (mo29 vq227 (.ref h_by) (.int x_rd_length) (.int z160) (.int z161) (.int z162) (.long z163)))), (h_by, .inl (cy_by, 600, .inl f_by))]) hD hS hA [0, 1] rfl
                    refine va_callv (va_runV (As := []) (rest := []) ⟨hx, hb, hml, hown, hts⟩ (c_X5_nextToken l dC dI H.size h_rd h_by vq227 x_rd_length z160 z161 z162 z163 cy_by f_by G (by first | exact hx_rd_length | omega) (by first | exact k171 | omega) (by first | exact k172 | omega) hf_by (by first | exact k186 | omega) hn_byt) (cwV 0 hts (gv hT w_m_X5_40 w_instanceMethod_X5_nextToken ws_sel_X5_nextToken w_ini_X5 w_code_X5_nextToken) rfl rfl rfl (by decide +kernel) ⟨(Nat.le_of_ble_eq_true rfl), (Nat.le_of_ble_eq_true rfl)⟩) ⟨pre_blind, va_recv hK hP (ci := 4) (q0 := 0) rfl rfl, pre_of hPc hKc hDc hN⟩ rfl rfl hl.1 rfl (lv_room (Nat.le_of_ble_eq_true rfl)) dX5_readPart_207 ⟨(Nat.le_of_ble_eq_true rfl), (Nat.le_of_ble_eq_true rfl)⟩) hS (fun q _ h => hFc q h) hFc (fun u t H locs ht hvm hq hB hz1 hk1 hS9 => ?_)
                    obtain ⟨z229, z230, z231, z232⟩ := u
                    obtain ⟨hP1, hD1⟩ := hB
                    rw [ht] at hP1
                    obtain ⟨hP9, hD9⟩ := va_join (wr := [(h_kn, .inl (cy_kn, 8, .inl f164)), (h_td, .inr (5, (mo32 v_td (.ref h_nam) (.ref h_var) (.ref h_trm) (.ref h_ter) (.int z165)))), (h_nam, .inl (cy_nam, 300, .inr (.inl f166))), (h_var, .inl (cy_var, 300, .inl f167)), (h_trm, .inl (cy_trm, 300, .inl f193)), (h_ter, .inl (cy_ter, 900, .inl f191))]) (w1 := [(h_rd, .inr (4, (mo29 vq227 (.ref h_by) (.int x_rd_length) (.int z229) (.int z230) (.int z231) (.long z232)))), (h_by, .inl (cy_by, 600, .inl f_by))]) hP hD [0, 1] [2, 3, 4, 5, 6, 7] rfl rfl (by decide) (by decide) hk1 hFc hP1 hD1
                    clear hP hD hS hPc hDc hKc hFc hP1 hD1 hk1 hz1 ht hvm
                    have hP : va_P (dC, dI) cls [(h_kn, .inl (cy_kn, 8, .inl f164)), (h_td, .inr (5, (mo32 v_td (.ref h_nam) (.ref h_var) (.ref h_trm) (.ref h_ter) (.int z165)))), (h_nam, .inl (cy_nam, 300, .inr (.inl f166))), (h_var, .inl (cy_var, 300, .inl f167)), (h_trm, .inl (cy_trm, 300, .inl f193)), (h_ter, .inl (cy_ter, 900, .inl f191)), (h_rd, .inr (4, (mo29 vq227 (.ref h_by) (.int x_rd_length) (.int z229) (.int z230) (.int z231) (.long z232)))), (h_by, .inl (cy_by, 600, .inl f_by))] H := hP9
                    have hD : va_D A [(h_kn, .inl (cy_kn, 8, .inl f164)), (h_td, .inr (5, (mo32 v_td (.ref h_nam) (.ref h_var) (.ref h_trm) (.ref h_ter) (.int z165)))), (h_nam, .inl (cy_nam, 300, .inr (.inl f166))), (h_var, .inl (cy_var, 300, .inl f167)), (h_trm, .inl (cy_trm, 300, .inl f193)), (h_ter, .inl (cy_ter, 900, .inl f191)), (h_rd, .inr (4, (mo29 vq227 (.ref h_by) (.int x_rd_length) (.int z229) (.int z230) (.int z231) (.long z232)))), (h_by, .inl (cy_by, 600, .inl f_by))] := hD9
                    have hS := hS9
                    clear hP9 hD9 hS9
                    rw [evq227] at hP hD
                    replace hP : va_P (dC, dI) cls [(h_kn, .inl (cy_kn, 8, .inl f164)), (h_td, .inr (5, (mo32 v_td (.ref h_nam) (.ref h_var) (.ref h_trm) (.ref h_ter) (.int z165)))), (h_nam, .inl (cy_nam, 300, .inr (.inl f166))), (h_var, .inl (cy_var, 300, .inl f167)), (h_trm, .inl (cy_trm, 300, .inl f193)), (h_ter, .inl (cy_ter, 900, .inl f191)), (h_rd, .inr (4, (mo31 (.ref h_by) (.int x_rd_length) (.int z157) (.int z158) (.ref h_td) (.ref h_kn) (.int z159) (.int z229) (.int z230) (.int z231) (.long z232)))), (h_by, .inl (cy_by, 600, .inl f_by))] H := hP
                    replace hD : va_D A [(h_kn, .inl (cy_kn, 8, .inl f164)), (h_td, .inr (5, (mo32 v_td (.ref h_nam) (.ref h_var) (.ref h_trm) (.ref h_ter) (.int z165)))), (h_nam, .inl (cy_nam, 300, .inr (.inl f166))), (h_var, .inl (cy_var, 300, .inl f167)), (h_trm, .inl (cy_trm, 300, .inl f193)), (h_ter, .inl (cy_ter, 900, .inl f191)), (h_rd, .inr (4, (mo31 (.ref h_by) (.int x_rd_length) (.int z157) (.int z158) (.ref h_td) (.ref h_kn) (.int z159) (.int z229) (.int z230) (.int z231) (.long z232)))), (h_by, .inl (cy_by, 600, .inl f_by))] := hD
                    clear evq227 
                    obtain ⟨k233, k234, k235, k236, k237, k238, k239, k240, k241, k242, k243⟩ := hq
                    replace k233 : 0 ≤ ((z229)).toInt ∧ ((z229)).toInt ≤ 600 := k233
                    replace k234 : 0 ≤ ((z230)).toInt ∧ ((z230)).toInt ≤ 600 := k234
                    replace k235 : ((z229)).toInt = tkS (G) ((x_rd_length)).toInt ((z161)).toInt := k235
                    replace k236 : ((z161)).toInt ≤ ((z229)).toInt := k236
                    replace k237 : ((z231)).toInt = tkT (G) ((x_rd_length)).toInt ((z229)).toInt := k237
                    replace k238 : ((z231)).toInt = -1 ∨ ((z230)).toInt = tkX (G) ((x_rd_length)).toInt ((z229)).toInt := k238
                    replace k239 : ¬ ((z231)).toInt = 257 ∨ ((z232)).toInt = (G) ((z229)).toInt := k239
                    replace k240 : -1 ≤ ((z231)).toInt ∧ ((z231)).toInt ≤ 258 := k240
                    replace k241 : ((z230)).toInt ≤ ((x_rd_length)).toInt := k241
                    replace k242 : ((z231)).toInt = -1 ∨ ((z229)).toInt < ((x_rd_length)).toInt := k242
                    replace k243 : ((z229)).toInt ≤ ((x_rd_length)).toInt := k243
                    have tn244b : (z161).toInt = tkX G (x_rd_length).toInt (z160).toInt := by omega
                    have tn244 : (z229).toInt = tkN G (x_rd_length).toInt (z160).toInt := by rw [k235, tn244b]; rfl
                    have tn244t : (z231).toInt = tkT G (x_rd_length).toInt (tkN G (x_rd_length).toInt (z160).toInt) := by rw [← tn244]; exact k237
                    have tn244g := tkN_gt (G := G) (n := (x_rd_length).toInt) (a := (z160).toInt) (by omega) (by omega) (by omega)
                    refine lv_goto (tgt := 218) hx hb dX5_readPart_210 (by decide) ?_
                    refine lv_iload_n hx hb dX5_readPart_218 rfl (lv_at hl 3 rfl) ?_
                    replace hP : va_P (dC, dI) cls [(h_rd, .inr (4, (mo31 (.ref h_by) (.int x_rd_length) (.int z157) (.int z158) (.ref h_td) (.ref h_kn) (.int z159) (.int z229) (.int z230) (.int z231) (.long z232)))), (h_by, .inl (cy_by, 600, .inl f_by)), (h_kn, .inl (cy_kn, 8, .inl f164)), (h_td, .inr (5, (mo32 v_td (.ref h_nam) (.ref h_var) (.ref h_trm) (.ref h_ter) (.int z165)))), (h_nam, .inl (cy_nam, 300, .inr (.inl f166))), (h_var, .inl (cy_var, 300, .inl f167)), (h_trm, .inl (cy_trm, 300, .inl f193)), (h_ter, .inl (cy_ter, 900, .inl f191))] H := hP.sub [6, 7, 0, 1, 2, 3, 4, 5] rfl
                    replace hD : va_D A [(h_rd, .inr (4, (mo31 (.ref h_by) (.int x_rd_length) (.int z157) (.int z158) (.ref h_td) (.ref h_kn) (.int z159) (.int z229) (.int z230) (.int z231) (.long z232)))), (h_by, .inl (cy_by, 600, .inl f_by)), (h_kn, .inl (cy_kn, 8, .inl f164)), (h_td, .inr (5, (mo32 v_td (.ref h_nam) (.ref h_var) (.ref h_trm) (.ref h_ter) (.int z165)))), (h_nam, .inl (cy_nam, 300, .inr (.inl f166))), (h_var, .inl (cy_var, 300, .inl f167)), (h_trm, .inl (cy_trm, 300, .inl f193)), (h_ter, .inl (cy_ter, 900, .inl f191))] := hD.sub [6, 7, 0, 1, 2, 3, 4, 5] (by decide) rfl
                    refine W.widen (k := 0) (n := 0) (Nat.le_of_ble_eq_true rfl) (Nat.le_of_ble_eq_true rfl) ?_
                    have w245 : 0 ≤ ((z159)).toInt ∧ ((z159)).toInt ≤ 8 := by first | exact k170 | omega
                    have w246 : 0 ≤ ((z229)).toInt ∧ ((z229)).toInt ≤ 600 := by first | exact k233 | omega
                    have w247 : 0 ≤ ((z230)).toInt ∧ ((z230)).toInt ≤ 600 := by first | exact k234 | omega
                    have w248 : 0 ≤ ((z165)).toInt ∧ ((z165)).toInt ≤ 300 := by first | exact k173 | omega
                    have w249 : 0 ≤ (r82 : Int32).toInt ∧ (r82 : Int32).toInt ≤ 299 := by first | exact k88 | omega
                    have w250 : ((z157)).toInt = ((pTm G (x_rd_length).toInt (pPs G (x_rd_length).toInt 1) (x_rd_at).toInt (x_rd_variables).toInt vf)).1 := by omega
                    have w251 : ((z229)).toInt = ((pTm G (x_rd_length).toInt (pPs G (x_rd_length).toInt 1) (x_rd_at).toInt (x_rd_variables).toInt vf)).2.1 := by omega
                    have w252 : ((z159)).toInt = ((pTm G (x_rd_length).toInt (pPs G (x_rd_length).toInt 1) (x_rd_at).toInt (x_rd_variables).toInt vf)).2.2.1 := by omega
                    have w253 : (((z157)).toInt = 0 ∧ ((z158)).toInt = (x_rd_place).toInt) ∨ (¬ ((z157)).toInt = 0 ∧ ((z158)).toInt = ((z229)).toInt) := by omega
                    have w254 : 2 * ((z165)).toInt ≤ ((z229)).toInt + 1 := by omega
                    have w255 : ((z231)).toInt < 256 ∨ 2 * ((z165)).toInt ≤ ((z229)).toInt := by omega
                    have w256 : (x_rd_at).toInt ≤ ((z229)).toInt := by omega
                    have w257 : ((z231)).toInt = tkT G (x_rd_length).toInt ((z229)).toInt := by first | exact k237 | omega
                    have w258 : ((z231)).toInt = -1 ∨ ((z230)).toInt = tkX G (x_rd_length).toInt ((z229)).toInt := by first | exact k238 | omega
                    have w259 : ¬ ((z231)).toInt = 257 ∨ ((z232)).toInt = G ((z229)).toInt := by first | exact k239 | omega
                    have w260 : -1 ≤ ((z231)).toInt ∧ ((z231)).toInt ≤ 258 := by first | exact k240 | omega
                    have w261 : ((z230)).toInt ≤ (x_rd_length).toInt := by first | exact k241 | omega
                    have w262 : ((z231)).toInt = -1 ∨ ((z229)).toInt < (x_rd_length).toInt := by first | exact k242 | omega
                    have w263 : ((z229)).toInt ≤ (x_rd_length).toInt := by first | exact k243 | omega
                    have w264 : VFC ((z159)).toInt ((pTm G (x_rd_length).toInt (pPs G (x_rd_length).toInt 1) (x_rd_at).toInt (x_rd_variables).toInt vf)).2.2.2 (f164) (f166) ((z165)).toInt := (by rw [pq2264]; exact k189)
                    exact W.iret (v := r82) hx hb hr (fun t ht hW => ⟨⟨r82, (z157, z158, z159, z229, z230, z231, z232, f164, z165, f166, f167, f193, f191), rfl, ⟨w245, w246, w247, hf164, w248, hf167, hf193, hf191, w249, w250, w251, w252, w253, w254, w255, w256, w257, w258, w259, w260, w261, w262, w263, w264⟩, by rw [ht]; exact hP, hD⟩, hS.F ht⟩) hS.2.2 dX5_readPart_219
              · have kc194 := (not_congr (cv_eq (rfl : (z157).toInt = (z157).toInt) (by decide : (0 : Int32).toInt = 0))).mp c194
                have no9 := pLo_no (G := G) (n := (x_rd_length).toInt) (P := (pPs G (x_rd_length).toInt 0)) (r := rr152) (q := (x123).toInt) (nv := (x122).toInt) (vf := gh128) (by rw [← erh190]; omega)
                rw [← erh190] at no9
                have rq9 : (pTm G (x_rd_length).toInt (pPs G (x_rd_length).toInt 1) (x_rd_at).toInt (x_rd_variables).toInt vf) = rh190 := klp129_19.symm.trans no9
                have pq2651 : ((pTm G (x_rd_length).toInt (pPs G (x_rd_length).toInt 1) (x_rd_at).toInt (x_rd_variables).toInt vf)).1 = (rh190).1 := by rw [rq9]
                have pq2652 : ((pTm G (x_rd_length).toInt (pPs G (x_rd_length).toInt 1) (x_rd_at).toInt (x_rd_variables).toInt vf)).2.1 = (rh190).2.1 := by rw [rq9]
                have pq2653 : ((pTm G (x_rd_length).toInt (pPs G (x_rd_length).toInt 1) (x_rd_at).toInt (x_rd_variables).toInt vf)).2.2.1 = (rh190).2.2.1 := by rw [rq9]
                have pq2654 : ((pTm G (x_rd_length).toInt (pPs G (x_rd_length).toInt 1) (x_rd_at).toInt (x_rd_variables).toInt vf)).2.2.2 = (rh190).2.2.2 := by rw [rq9]
                refine lv_iload_n hx hb dX5_readPart_177 rfl (lv_at hl 3 rfl) ?_
                refine W.widen (k := 0) (n := 0) (Nat.le_of_ble_eq_true rfl) (Nat.le_of_ble_eq_true rfl) ?_
                have w266 : 0 ≤ ((z159)).toInt ∧ ((z159)).toInt ≤ 8 := by first | exact k170 | omega
                have w267 : 0 ≤ ((z160)).toInt ∧ ((z160)).toInt ≤ 600 := by first | exact k171 | omega
                have w268 : 0 ≤ ((z161)).toInt ∧ ((z161)).toInt ≤ 600 := by first | exact k172 | omega
                have w269 : 0 ≤ ((z165)).toInt ∧ ((z165)).toInt ≤ 300 := by first | exact k173 | omega
                have w270 : 0 ≤ (r82 : Int32).toInt ∧ (r82 : Int32).toInt ≤ 299 := by first | exact k88 | omega
                have w271 : ((z157)).toInt = ((pTm G (x_rd_length).toInt (pPs G (x_rd_length).toInt 1) (x_rd_at).toInt (x_rd_variables).toInt vf)).1 := by omega
                have w272 : ((z160)).toInt = ((pTm G (x_rd_length).toInt (pPs G (x_rd_length).toInt 1) (x_rd_at).toInt (x_rd_variables).toInt vf)).2.1 := by omega
                have w273 : ((z159)).toInt = ((pTm G (x_rd_length).toInt (pPs G (x_rd_length).toInt 1) (x_rd_at).toInt (x_rd_variables).toInt vf)).2.2.1 := by omega
                have w274 : (((z157)).toInt = 0 ∧ ((z158)).toInt = (x_rd_place).toInt) ∨ (¬ ((z157)).toInt = 0 ∧ ((z158)).toInt = ((z160)).toInt) := by omega
                have w275 : 2 * ((z165)).toInt ≤ ((z160)).toInt + 1 := by first | exact k179 | omega
                have w276 : ((z162)).toInt < 256 ∨ 2 * ((z165)).toInt ≤ ((z160)).toInt := by first | exact k180 | omega
                have w277 : (x_rd_at).toInt ≤ ((z160)).toInt := by omega
                have w278 : ((z162)).toInt = tkT G (x_rd_length).toInt ((z160)).toInt := by first | exact k182 | omega
                have w279 : ((z162)).toInt = -1 ∨ ((z161)).toInt = tkX G (x_rd_length).toInt ((z160)).toInt := by first | exact k183 | omega
                have w280 : ¬ ((z162)).toInt = 257 ∨ ((z163)).toInt = G ((z160)).toInt := by first | exact k184 | omega
                have w281 : -1 ≤ ((z162)).toInt ∧ ((z162)).toInt ≤ 258 := by first | exact k185 | omega
                have w282 : ((z161)).toInt ≤ (x_rd_length).toInt := by first | exact k186 | omega
                have w283 : ((z162)).toInt = -1 ∨ ((z160)).toInt < (x_rd_length).toInt := by first | exact k187 | omega
                have w284 : ((z160)).toInt ≤ (x_rd_length).toInt := by first | exact k188 | omega
                have w285 : VFC ((z159)).toInt ((pTm G (x_rd_length).toInt (pPs G (x_rd_length).toInt 1) (x_rd_at).toInt (x_rd_variables).toInt vf)).2.2.2 (f164) (f166) ((z165)).toInt := (by rw [pq2654]; exact k189)
                exact W.iret (v := r82) hx hb hr (fun t ht hW => ⟨⟨r82, (z157, z158, z159, z160, z161, z162, z163, f164, z165, f166, f167, f193, f191), rfl, ⟨w266, w267, w268, hf164, w269, hf167, hf193, hf191, w270, w271, w272, w273, w274, w275, w276, w277, w278, w279, w280, w281, w282, w283, w284, w285⟩, by rw [ht]; exact hP, hD⟩, hS.F ht⟩) hS.2.2 dX5_readPart_178
            · have kc151 := (cv_eq (rfl : (x113).toInt = (x113).toInt) (by decide : (3 : Int32).toInt = 3)).mp c151
              obtain rfl : gh127 = 0 := by omega
              have pv9 : (pTm G (x_rd_length).toInt (pPs G (x_rd_length).toInt 1) (x_rd_at).toInt (x_rd_variables).toInt vf) = (2, tkN G (x_rd_length).toInt (x123).toInt, (x122).toInt, gh128) := klp129_19.symm.trans (pLo_many (by omega))
              have pq2861 : ((pTm G (x_rd_length).toInt (pPs G (x_rd_length).toInt 1) (x_rd_at).toInt (x_rd_variables).toInt vf)).1 = 2 := by rw [pv9]
              have pq2862 : ((pTm G (x_rd_length).toInt (pPs G (x_rd_length).toInt 1) (x_rd_at).toInt (x_rd_variables).toInt vf)).2.1 = tkN G (x_rd_length).toInt (x123).toInt := by rw [pv9]
              have pq2863 : ((pTm G (x_rd_length).toInt (pPs G (x_rd_length).toInt 1) (x_rd_at).toInt (x_rd_variables).toInt vf)).2.2.1 = (x122).toInt := by rw [pv9]
              have pq2864 : ((pTm G (x_rd_length).toInt (pPs G (x_rd_length).toInt 1) (x_rd_at).toInt (x_rd_variables).toInt vf)).2.2.2 = gh128 := by rw [pv9]
              refine lv_aload_n hx hb dX5_readPart_128 rfl (lv_at hl 0 rfl) ?_
              refine lv_iconst (v := 2) hx hb dX5_readPart_129 (by decide) ?_
              obtain ⟨vq287, evq287⟩ := mq31_27 (.ref h_by) (.int x_rd_length) (.ref h_td) (.ref h_kn) (.int x122) (.int z135) (.int z136) (.long z137)
              replace hP : va_P (dC, dI) cls [(h_kn, .inl (cy_kn, 8, .inl f114)), (h_ter, .inl (cy_ter, 900, .inl f115)), (h_td, .inr (5, (mo32 v_td (.ref h_nam) (.ref h_var) (.ref h_trm) (.ref h_ter) (.int x116)))), (h_nam, .inl (cy_nam, 300, .inr (.inl f117))), (h_var, .inl (cy_var, 300, .inl f118)), (h_trm, .inl (cy_trm, 300, .inl f119)), (h_rd, .inr (4, (mo27 vq287 (.int x120) (.int x121) (.int z134)))), (h_by, .inl (cy_by, 600, .inl f_by))] H := by rw [evq287]; exact hP
              replace hD : va_D A [(h_kn, .inl (cy_kn, 8, .inl f114)), (h_ter, .inl (cy_ter, 900, .inl f115)), (h_td, .inr (5, (mo32 v_td (.ref h_nam) (.ref h_var) (.ref h_trm) (.ref h_ter) (.int x116)))), (h_nam, .inl (cy_nam, 300, .inr (.inl f117))), (h_var, .inl (cy_var, 300, .inl f118)), (h_trm, .inl (cy_trm, 300, .inl f119)), (h_rd, .inr (4, (mo27 vq287 (.int x120) (.int x121) (.int z134)))), (h_by, .inl (cy_by, 600, .inl f_by))] := by rw [evq287]; exact hD
              have cst2 : (2 : Int32).toInt = 2 := by decide
              have hPc := hP.sub (ws' := [(h_rd, .inr (4, (mo27 vq287 (.int x120) (.int x121) (.int z134))))]) [6] rfl
              have hDc := hD.sub (ws' := [(h_rd, .inr (4, (mo27 vq287 (.int x120) (.int x121) (.int z134))))]) [6] (by decide) rfl
              have hKc := hK.sub (tys' := []) [] rfl
              have hFc := va_free (wc := [(h_rd, .inr (4, (mo27 vq287 (.int x120) (.int x121) (.int z134))))]) hD hS hA [6] rfl
              refine va_callv (va_runV (As := [.int 2]) (rest := []) ⟨hx, hb, hml, hown, hts⟩ (c_X5_blame l dC dI H.size h_rd vq287 x120 x121 z134 2 (by first | exact k138 | omega)) (cwV 1 hts (gv hT w_m_X5_56 w_instanceMethod_X5_blame ws_sel_X5_blame w_ini_X5 w_code_X5_blame) rfl rfl rfl (by decide +kernel) ⟨(Nat.le_of_ble_eq_true rfl), (Nat.le_of_ble_eq_true rfl)⟩) ⟨pre_blind, va_recv hK hP (ci := 4) (q0 := 6) rfl rfl, pre_of hPc hKc hDc hN⟩ rfl rfl hl.1 rfl (lv_room (Nat.le_of_ble_eq_true rfl)) dX5_readPart_130 ⟨(Nat.le_of_ble_eq_true rfl), (Nat.le_of_ble_eq_true rfl)⟩) hS (fun q _ h => hFc q h) hFc (fun u t H locs ht hvm hq hB hz1 hk1 hS9 => ?_)
              obtain ⟨z289, z290⟩ := u
              obtain ⟨hP1, hD1⟩ := hB
              rw [ht] at hP1
              obtain ⟨hP9, hD9⟩ := va_join (wr := [(h_kn, .inl (cy_kn, 8, .inl f114)), (h_ter, .inl (cy_ter, 900, .inl f115)), (h_td, .inr (5, (mo32 v_td (.ref h_nam) (.ref h_var) (.ref h_trm) (.ref h_ter) (.int x116)))), (h_nam, .inl (cy_nam, 300, .inr (.inl f117))), (h_var, .inl (cy_var, 300, .inl f118)), (h_trm, .inl (cy_trm, 300, .inl f119)), (h_by, .inl (cy_by, 600, .inl f_by))]) (w1 := [(h_rd, .inr (4, (mo27 vq287 (.int z289) (.int z290) (.int z134))))]) hP hD [6] [0, 1, 2, 3, 4, 5, 7] rfl rfl (by decide) (by decide) hk1 hFc hP1 hD1
              clear hP hD hS hPc hDc hKc hFc hP1 hD1 hk1 hz1 ht hvm
              have hP : va_P (dC, dI) cls [(h_kn, .inl (cy_kn, 8, .inl f114)), (h_ter, .inl (cy_ter, 900, .inl f115)), (h_td, .inr (5, (mo32 v_td (.ref h_nam) (.ref h_var) (.ref h_trm) (.ref h_ter) (.int x116)))), (h_nam, .inl (cy_nam, 300, .inr (.inl f117))), (h_var, .inl (cy_var, 300, .inl f118)), (h_trm, .inl (cy_trm, 300, .inl f119)), (h_by, .inl (cy_by, 600, .inl f_by)), (h_rd, .inr (4, (mo27 vq287 (.int z289) (.int z290) (.int z134))))] H := hP9
              have hD : va_D A [(h_kn, .inl (cy_kn, 8, .inl f114)), (h_ter, .inl (cy_ter, 900, .inl f115)), (h_td, .inr (5, (mo32 v_td (.ref h_nam) (.ref h_var) (.ref h_trm) (.ref h_ter) (.int x116)))), (h_nam, .inl (cy_nam, 300, .inr (.inl f117))), (h_var, .inl (cy_var, 300, .inl f118)), (h_trm, .inl (cy_trm, 300, .inl f119)), (h_by, .inl (cy_by, 600, .inl f_by)), (h_rd, .inr (4, (mo27 vq287 (.int z289) (.int z290) (.int z134))))] := hD9
              have hS := hS9
              clear hP9 hD9 hS9
              rw [evq287] at hP hD
              replace hP : va_P (dC, dI) cls [(h_kn, .inl (cy_kn, 8, .inl f114)), (h_ter, .inl (cy_ter, 900, .inl f115)), (h_td, .inr (5, (mo32 v_td (.ref h_nam) (.ref h_var) (.ref h_trm) (.ref h_ter) (.int x116)))), (h_nam, .inl (cy_nam, 300, .inr (.inl f117))), (h_var, .inl (cy_var, 300, .inl f118)), (h_trm, .inl (cy_trm, 300, .inl f119)), (h_by, .inl (cy_by, 600, .inl f_by)), (h_rd, .inr (4, (mo31 (.ref h_by) (.int x_rd_length) (.int z289) (.int z290) (.ref h_td) (.ref h_kn) (.int x122) (.int z134) (.int z135) (.int z136) (.long z137))))] H := hP
              replace hD : va_D A [(h_kn, .inl (cy_kn, 8, .inl f114)), (h_ter, .inl (cy_ter, 900, .inl f115)), (h_td, .inr (5, (mo32 v_td (.ref h_nam) (.ref h_var) (.ref h_trm) (.ref h_ter) (.int x116)))), (h_nam, .inl (cy_nam, 300, .inr (.inl f117))), (h_var, .inl (cy_var, 300, .inl f118)), (h_trm, .inl (cy_trm, 300, .inl f119)), (h_by, .inl (cy_by, 600, .inl f_by)), (h_rd, .inr (4, (mo31 (.ref h_by) (.int x_rd_length) (.int z289) (.int z290) (.ref h_td) (.ref h_kn) (.int x122) (.int z134) (.int z135) (.int z136) (.long z137))))] := hD
              clear evq287 
              obtain ⟨k291, k292⟩ := hq
              replace k291 : ((z289)).toInt = ((2 : Int32)).toInt := k291
              replace k292 : ((z290)).toInt = ((z134)).toInt := k292
              refine lv_goto (tgt := 170) hx hb dX5_readPart_133 (by decide) ?_
              refine lv_aload_n hx hb dX5_readPart_170 rfl (lv_at hl 0 rfl) ?_
              refine va_get (D := (dC, dI)) (ci := 4) (v := .int z289) (C := RX5) (T := TX5) (N := 11) hx hb hw iwX5 hown hK hP 7 rfl rfl 2 (by decide) (hw _ w_f_X5_34) (fun _ h9 => h9) rfl dX5_readPart_171 ?_
              refine lv_if_eq (tgt := 179) hx hb dX5_readPart_174 (by decide) (fun c293 => False.elim (by have kc293 := (cv_eq (rfl : (z289).toInt = (z289).toInt) (by decide : (0 : Int32).toInt = 0)).mp c293; omega)) (fun _ => ?_)
              refine lv_iload_n hx hb dX5_readPart_177 rfl (lv_at hl 3 rfl) ?_
              replace hP : va_P (dC, dI) cls [(h_rd, .inr (4, (mo31 (.ref h_by) (.int x_rd_length) (.int z289) (.int z290) (.ref h_td) (.ref h_kn) (.int x122) (.int z134) (.int z135) (.int z136) (.long z137)))), (h_by, .inl (cy_by, 600, .inl f_by)), (h_kn, .inl (cy_kn, 8, .inl f114)), (h_td, .inr (5, (mo32 v_td (.ref h_nam) (.ref h_var) (.ref h_trm) (.ref h_ter) (.int x116)))), (h_nam, .inl (cy_nam, 300, .inr (.inl f117))), (h_var, .inl (cy_var, 300, .inl f118)), (h_trm, .inl (cy_trm, 300, .inl f119)), (h_ter, .inl (cy_ter, 900, .inl f115))] H := hP.sub [7, 6, 0, 2, 3, 4, 5, 1] rfl
              replace hD : va_D A [(h_rd, .inr (4, (mo31 (.ref h_by) (.int x_rd_length) (.int z289) (.int z290) (.ref h_td) (.ref h_kn) (.int x122) (.int z134) (.int z135) (.int z136) (.long z137)))), (h_by, .inl (cy_by, 600, .inl f_by)), (h_kn, .inl (cy_kn, 8, .inl f114)), (h_td, .inr (5, (mo32 v_td (.ref h_nam) (.ref h_var) (.ref h_trm) (.ref h_ter) (.int x116)))), (h_nam, .inl (cy_nam, 300, .inr (.inl f117))), (h_var, .inl (cy_var, 300, .inl f118)), (h_trm, .inl (cy_trm, 300, .inl f119)), (h_ter, .inl (cy_ter, 900, .inl f115))] := hD.sub [7, 6, 0, 2, 3, 4, 5, 1] (by decide) rfl
              refine W.widen (k := 0) (n := 0) (Nat.le_of_ble_eq_true rfl) (Nat.le_of_ble_eq_true rfl) ?_
              have w294 : 0 ≤ ((x122)).toInt ∧ ((x122)).toInt ≤ 8 := by first | exact klp129_6 | omega
              have w295 : 0 ≤ ((z134)).toInt ∧ ((z134)).toInt ≤ 600 := by first | exact k138 | omega
              have w296 : 0 ≤ ((z135)).toInt ∧ ((z135)).toInt ≤ 600 := by first | exact k139 | omega
              have w297 : 0 ≤ ((x116)).toInt ∧ ((x116)).toInt ≤ 300 := by first | exact klp129_3 | omega
              have w298 : 0 ≤ (r82 : Int32).toInt ∧ (r82 : Int32).toInt ≤ 299 := by first | exact k88 | omega
              have w299 : ((z289)).toInt = ((pTm G (x_rd_length).toInt (pPs G (x_rd_length).toInt 1) (x_rd_at).toInt (x_rd_variables).toInt vf)).1 := by omega
              have w300 : ((z134)).toInt = ((pTm G (x_rd_length).toInt (pPs G (x_rd_length).toInt 1) (x_rd_at).toInt (x_rd_variables).toInt vf)).2.1 := by omega
              have w301 : ((x122)).toInt = ((pTm G (x_rd_length).toInt (pPs G (x_rd_length).toInt 1) (x_rd_at).toInt (x_rd_variables).toInt vf)).2.2.1 := by omega
              have w302 : (((z289)).toInt = 0 ∧ ((z290)).toInt = (x_rd_place).toInt) ∨ (¬ ((z289)).toInt = 0 ∧ ((z290)).toInt = ((z134)).toInt) := by omega
              have w303 : 2 * ((x116)).toInt ≤ ((z134)).toInt + 1 := by omega
              have w304 : ((z136)).toInt < 256 ∨ 2 * ((x116)).toInt ≤ ((z134)).toInt := by omega
              have w305 : (x_rd_at).toInt ≤ ((z134)).toInt := by omega
              have w306 : ((z136)).toInt = tkT G (x_rd_length).toInt ((z134)).toInt := by first | exact k142 | omega
              have w307 : ((z136)).toInt = -1 ∨ ((z135)).toInt = tkX G (x_rd_length).toInt ((z134)).toInt := by first | exact k143 | omega
              have w308 : ¬ ((z136)).toInt = 257 ∨ ((z137)).toInt = G ((z134)).toInt := by first | exact k144 | omega
              have w309 : -1 ≤ ((z136)).toInt ∧ ((z136)).toInt ≤ 258 := by first | exact k145 | omega
              have w310 : ((z135)).toInt ≤ (x_rd_length).toInt := by first | exact k146 | omega
              have w311 : ((z136)).toInt = -1 ∨ ((z134)).toInt < (x_rd_length).toInt := by first | exact k147 | omega
              have w312 : ((z134)).toInt ≤ (x_rd_length).toInt := by first | exact k148 | omega
              have w313 : VFC ((x122)).toInt ((pTm G (x_rd_length).toInt (pPs G (x_rd_length).toInt 1) (x_rd_at).toInt (x_rd_variables).toInt vf)).2.2.2 (f114) (f117) ((x116)).toInt := (by rw [pq2864]; exact klp129_20)
              exact W.iret (v := r82) hx hb hr (fun t ht hW => ⟨⟨r82, (z289, z290, x122, z134, z135, z136, z137, f114, x116, f117, f118, f119, f115), rfl, ⟨w294, w295, w296, hf114, w297, hf118, hf119, hf115, w298, w299, w300, w301, w302, w303, w304, w305, w306, w307, w308, w309, w310, w311, w312, w313⟩, by rw [ht]; exact hP, hD⟩, hS.F ht⟩) hS.2.2 dX5_readPart_178
          · have kc150 := (not_congr (cv_eq (rfl : (z136).toInt = (z136).toInt) (by decide : (256 : Int32).toInt = 256))).mp c150
            refine lv_aload_n hx hb dX5_readPart_104 rfl (lv_at hl 0 rfl) ?_
            refine va_get (D := (dC, dI)) (ci := 4) (v := .int z136) (C := RX5) (T := TX5) (N := 11) hx hb hw iwX5 hown hK hP 6 rfl rfl 9 (by decide) (hw _ w_f_X5_43) (fun _ h9 => h9) rfl dX5_readPart_105 ?_
            refine lv_sipush (v := 257) hx hb dX5_readPart_108 (by decide) ?_
            refine lv_icmp_eq (tgt := 122) hx hb dX5_readPart_111 (by decide) (fun c314 => ?_) (fun c314 => ?_)
            · have kc314 := (cv_eq (rfl : (z136).toInt = (z136).toInt) (by decide : (257 : Int32).toInt = 257)).mp c314
              refine lv_iload hx hb dX5_readPart_122 (lv_at hl 4 rfl) ?_
              refine lv_iconst (v := 3) hx hb dX5_readPart_124 (by decide) ?_
              refine lv_icmp_ne (tgt := 136) hx hb dX5_readPart_125 (by decide) (fun c315 => ?_) (fun c315 => ?_)
              · have kc315 := (not_congr (cv_eq (rfl : (x113).toInt = (x113).toInt) (by decide : (3 : Int32).toInt = 3))).mp c315
                obtain ⟨rr316, rfl⟩ : ∃ y : Nat, gh127 = y + 1 := ⟨gh127 - 1, by omega⟩
                refine lv_aload_n hx hb dX5_readPart_136 rfl (lv_at hl 0 rfl) ?_
                refine va_get (D := (dC, dI)) (ci := 4) (v := .ref h_td) (C := RX5) (T := TX5) (N := 11) hx hb hw iwX5 hown hK hP 6 rfl rfl 4 (by decide) (hw _ w_f_X5_25) (fun _ h9 => h9) rfl dX5_readPart_137 ?_
                refine va_getN (D := (dC, dI)) (ci := 5) (v := .ref h_ter) (C := RX8) (T := TX8) (N := 10) (host := "OppositePairs") hx hb hw iwX8 hown hK hP 2 rfl rfl 3 (by decide) (hN.use n_f_X5_97 rfl) (fun _ h9 => h9) rfl dX5_readPart_140 ?_
                refine lv_iload_n hx hb dX5_readPart_143 rfl (lv_at hl 3 rfl) ?_
                refine lv_iconst (v := 3) hx hb dX5_readPart_144 (by decide) ?_
                refine lv_imul hx hb dX5_readPart_145 ?_
                refine lv_topi (fun z317 ez317 => ?_)
                have tz317 : (z317).toInt = (r82).toInt * 3 := by rw [ez317]; exact i_mul rfl (by decide) (by omega)
                refine lv_iload hx hb dX5_readPart_146 (lv_at hl 4 rfl) ?_
                refine lv_iadd hx hb dX5_readPart_148 ?_
                refine lv_topi (fun z318 ez318 => ?_)
                have tz318 : (z318).toInt = (z317).toInt + (x113).toInt := by rw [ez318]; exact i_add rfl rfl (by omega)
                refine lv_aload_n hx hb dX5_readPart_149 rfl (lv_at hl 0 rfl) ?_
                refine lv_iload_n hx hb dX5_readPart_150 rfl (lv_at hl 1 rfl) ?_
                refine lv_iconst (v := 1) hx hb dX5_readPart_151 (by decide) ?_
                refine lv_iadd hx hb dX5_readPart_152 ?_
                refine lv_topi (fun z319 ez319 => ?_)
                obtain rfl : z319 = 6 := ez319.trans (by decide)
                have cst6 : (6 : Int32).toInt = 6 := by decide
                have hPc := hP.sub (ws' := [(h_rd, .inr (4, (mo31 (.ref h_by) (.int x_rd_length) (.int x120) (.int x121) (.ref h_td) (.ref h_kn) (.int x122) (.int z134) (.int z135) (.int z136) (.long z137)))), (h_by, .inl (cy_by, 600, .inl f_by)), (h_kn, .inl (cy_kn, 8, .inl f114)), (h_td, .inr (5, (mo32 v_td (.ref h_nam) (.ref h_var) (.ref h_trm) (.ref h_ter) (.int x116)))), (h_nam, .inl (cy_nam, 300, .inr (.inl f117))), (h_var, .inl (cy_var, 300, .inl f118)), (h_trm, .inl (cy_trm, 300, .inl f119)), (h_ter, .inl (cy_ter, 900, .inl f115))]) [6, 7, 0, 2, 3, 4, 5, 1] rfl
                have hDc := hD.sub (ws' := [(h_rd, .inr (4, (mo31 (.ref h_by) (.int x_rd_length) (.int x120) (.int x121) (.ref h_td) (.ref h_kn) (.int x122) (.int z134) (.int z135) (.int z136) (.long z137)))), (h_by, .inl (cy_by, 600, .inl f_by)), (h_kn, .inl (cy_kn, 8, .inl f114)), (h_td, .inr (5, (mo32 v_td (.ref h_nam) (.ref h_var) (.ref h_trm) (.ref h_ter) (.int x116)))), (h_nam, .inl (cy_nam, 300, .inr (.inl f117))), (h_var, .inl (cy_var, 300, .inl f118)), (h_trm, .inl (cy_trm, 300, .inl f119)), (h_ter, .inl (cy_ter, 900, .inl f115))]) [6, 7, 0, 2, 3, 4, 5, 1] (by decide) rfl
                have hKc := hK.sub (tys' := [(cy_by, .int), (cy_kn, .int), (cy_nam, .long), (cy_var, .int), (cy_trm, .int), (cy_ter, .int)]) [0, 1, 2, 3, 4, 5] rfl
                have hFc := va_free (wc := [(h_rd, .inr (4, (mo31 (.ref h_by) (.int x_rd_length) (.int x120) (.int x121) (.ref h_td) (.ref h_kn) (.int x122) (.int z134) (.int z135) (.int z136) (.long z137)))), (h_by, .inl (cy_by, 600, .inl f_by)), (h_kn, .inl (cy_kn, 8, .inl f114)), (h_td, .inr (5, (mo32 v_td (.ref h_nam) (.ref h_var) (.ref h_trm) (.ref h_ter) (.int x116)))), (h_nam, .inl (cy_nam, 300, .inr (.inl f117))), (h_var, .inl (cy_var, 300, .inl f118)), (h_trm, .inl (cy_trm, 300, .inl f119)), (h_ter, .inl (cy_ter, 900, .inl f115))]) hD hS hA [6, 7, 0, 2, 3, 4, 5, 1] rfl
                refine va_calli (va_runV (As := [.int 6]) (rest := [.int z318, .ref h_ter]) ⟨hx, hb, hml, hown, hts⟩ (c_X5_readPart_6 l dC dI H.size h_rd h_by h_kn h_td h_nam h_var h_trm h_ter x_rd_length x120 x121 x122 z134 z135 z136 z137 cy_by f_by cy_kn f114 v_td x116 cy_nam f117 cy_var f118 cy_trm f119 cy_ter f115 G gh128 (by first | exact hx_rd_length | omega) (by first | exact klp129_6 | omega) (by first | exact k138 | omega) (by first | exact k139 | omega) hf_by hf114 (by first | exact klp129_3 | omega) hf118 hf119 hf115 (by first | exact k142 | omega) (by omega) (by omega) (by first | exact k144 | omega) (by omega) (by omega) (by omega) (by first | exact k146 | omega) hn_byt klp129_20) (cwV 1 hts (gv hT w_m_X5_81 w_instanceMethod_X5_readPart ws_sel_X5_readPart w_ini_X5 w_code_X5_readPart) rfl rfl rfl (by decide +kernel) ⟨(Nat.le_of_ble_eq_true rfl), (Nat.le_of_ble_eq_true rfl)⟩) ⟨pre_blind, va_recv hK hP (ci := 4) (q0 := 6) rfl rfl, pre_of hPc hKc hDc hN⟩ rfl rfl hl.1 rfl (lv_room (Nat.le_of_ble_eq_true rfl)) dX5_readPart_153 ⟨(Nat.le_of_ble_eq_true rfl), (Nat.le_of_ble_eq_true rfl)⟩) hS (fun q _ h => hFc q h) hFc (fun r320 u t H locs ht hvm hq hB hz1 hk1 hS9 => ?_)
                obtain ⟨z321, z322, z323, z324, z325, z326, z327, f328, z329, f330, f331, f332, f333⟩ := u
                obtain ⟨hP1, hD1⟩ := hB
                rw [ht] at hP1
                obtain ⟨hP9, hD9⟩ := va_join (wr := []) (w1 := [(h_rd, .inr (4, (mo31 (.ref h_by) (.int x_rd_length) (.int z321) (.int z322) (.ref h_td) (.ref h_kn) (.int z323) (.int z324) (.int z325) (.int z326) (.long z327)))), (h_by, .inl (cy_by, 600, .inl f_by)), (h_kn, .inl (cy_kn, 8, .inl f328)), (h_td, .inr (5, (mo32 v_td (.ref h_nam) (.ref h_var) (.ref h_trm) (.ref h_ter) (.int z329)))), (h_nam, .inl (cy_nam, 300, .inr (.inl f330))), (h_var, .inl (cy_var, 300, .inl f331)), (h_trm, .inl (cy_trm, 300, .inl f332)), (h_ter, .inl (cy_ter, 900, .inl f333))]) hP hD [6, 7, 0, 2, 3, 4, 5, 1] [] rfl rfl (by decide) (by decide) hk1 hFc hP1 hD1
                clear hP hD hS hPc hDc hKc hFc hP1 hD1 hk1 hz1 ht hvm
                have hP : va_P (dC, dI) cls [(h_rd, .inr (4, (mo31 (.ref h_by) (.int x_rd_length) (.int z321) (.int z322) (.ref h_td) (.ref h_kn) (.int z323) (.int z324) (.int z325) (.int z326) (.long z327)))), (h_by, .inl (cy_by, 600, .inl f_by)), (h_kn, .inl (cy_kn, 8, .inl f328)), (h_td, .inr (5, (mo32 v_td (.ref h_nam) (.ref h_var) (.ref h_trm) (.ref h_ter) (.int z329)))), (h_nam, .inl (cy_nam, 300, .inr (.inl f330))), (h_var, .inl (cy_var, 300, .inl f331)), (h_trm, .inl (cy_trm, 300, .inl f332)), (h_ter, .inl (cy_ter, 900, .inl f333))] H := hP9
                have hD : va_D A [(h_rd, .inr (4, (mo31 (.ref h_by) (.int x_rd_length) (.int z321) (.int z322) (.ref h_td) (.ref h_kn) (.int z323) (.int z324) (.int z325) (.int z326) (.long z327)))), (h_by, .inl (cy_by, 600, .inl f_by)), (h_kn, .inl (cy_kn, 8, .inl f328)), (h_td, .inr (5, (mo32 v_td (.ref h_nam) (.ref h_var) (.ref h_trm) (.ref h_ter) (.int z329)))), (h_nam, .inl (cy_nam, 300, .inr (.inl f330))), (h_var, .inl (cy_var, 300, .inl f331)), (h_trm, .inl (cy_trm, 300, .inl f332)), (h_ter, .inl (cy_ter, 900, .inl f333))] := hD9
                have hS := hS9
                clear hP9 hD9 hS9
                obtain ⟨k334, k335, k336, hf328, k337, hf331, hf332, hf333, k338, k339, k340, k341, k342, k343, k344, k345, k346, k347, k348, k349, k350, k351, k352, k353⟩ := hq
                replace k334 : 0 ≤ ((z323)).toInt ∧ ((z323)).toInt ≤ 8 := k334
                replace k335 : 0 ≤ ((z324)).toInt ∧ ((z324)).toInt ≤ 600 := k335
                replace k336 : 0 ≤ ((z325)).toInt ∧ ((z325)).toInt ≤ 600 := k336
                replace hf328 : Rg 0 299 (f328) := hf328
                replace k337 : 0 ≤ ((z329)).toInt ∧ ((z329)).toInt ≤ 300 := k337
                replace hf331 : Rg (-1) 7 (f331) := hf331
                replace hf332 : Rg 0 3 (f332) := hf332
                replace hf333 : Rg 0 299 (f333) := hf333
                replace k338 : 0 ≤ (r320).toInt ∧ (r320).toInt ≤ 299 := k338
                replace k339 : ((z321)).toInt = ((pTm (G) ((x_rd_length)).toInt (pPs (G) ((x_rd_length)).toInt 0) ((z134)).toInt ((x122)).toInt (gh128))).1 := k339
                replace k340 : ((z324)).toInt = ((pTm (G) ((x_rd_length)).toInt (pPs (G) ((x_rd_length)).toInt 0) ((z134)).toInt ((x122)).toInt (gh128))).2.1 := k340
                replace k341 : ((z323)).toInt = ((pTm (G) ((x_rd_length)).toInt (pPs (G) ((x_rd_length)).toInt 0) ((z134)).toInt ((x122)).toInt (gh128))).2.2.1 := k341
                replace k342 : (((z321)).toInt = 0 ∧ ((z322)).toInt = ((x121)).toInt) ∨ (¬ ((z321)).toInt = 0 ∧ ((z322)).toInt = ((z324)).toInt) := k342
                replace k343 : 2 * ((z329)).toInt ≤ ((z324)).toInt + 1 := k343
                replace k344 : ((z326)).toInt < 256 ∨ 2 * ((z329)).toInt ≤ ((z324)).toInt := k344
                replace k345 : ((z134)).toInt ≤ ((z324)).toInt := k345
                replace k346 : ((z326)).toInt = tkT (G) ((x_rd_length)).toInt ((z324)).toInt := k346
                replace k347 : ((z326)).toInt = -1 ∨ ((z325)).toInt = tkX (G) ((x_rd_length)).toInt ((z324)).toInt := k347
                replace k348 : ¬ ((z326)).toInt = 257 ∨ ((z327)).toInt = (G) ((z324)).toInt := k348
                replace k349 : -1 ≤ ((z326)).toInt ∧ ((z326)).toInt ≤ 258 := k349
                replace k350 : ((z325)).toInt ≤ ((x_rd_length)).toInt := k350
                replace k351 : ((z326)).toInt = -1 ∨ ((z324)).toInt < ((x_rd_length)).toInt := k351
                replace k352 : ((z324)).toInt ≤ ((x_rd_length)).toInt := k352
                replace k353 : VFC ((z323)).toInt ((pTm (G) ((x_rd_length)).toInt (pPs (G) ((x_rd_length)).toInt 0) ((z134)).toInt ((x122)).toInt (gh128))).2.2.2 (f328) (f330) ((z329)).toInt := k353
                obtain ⟨rh354, erh354⟩ : ∃ x : PR, x = (pTm (G) ((x_rd_length)).toInt (pPs (G) ((x_rd_length)).toInt 0) ((z134)).toInt ((x122)).toInt (gh128)) := ⟨_, rfl⟩
                rw [← erh354] at k339 k340 k341 k353
                rw [tn149] at erh354
                refine va_iast hx hb hK hP hD hS 7 5 rfl rfl (i := z318) (x := r320) (vp_in_iff.mpr (by omega)) dX5_readPart_156 (fun H locs hP9 hD9 hS9 => ?_)
                obtain ⟨f355, ef355⟩ : ∃ g : Nat → Int32, g = upd f333 (Int32.toNatClampNeg z318) r320 := ⟨_, rfl⟩
                clear hP hD hS
                have hP : va_P (dC, dI) cls [(h_rd, .inr (4, (mo31 (.ref h_by) (.int x_rd_length) (.int z321) (.int z322) (.ref h_td) (.ref h_kn) (.int z323) (.int z324) (.int z325) (.int z326) (.long z327)))), (h_by, .inl (cy_by, 600, .inl f_by)), (h_kn, .inl (cy_kn, 8, .inl f328)), (h_td, .inr (5, (mo32 v_td (.ref h_nam) (.ref h_var) (.ref h_trm) (.ref h_ter) (.int z329)))), (h_nam, .inl (cy_nam, 300, .inr (.inl f330))), (h_var, .inl (cy_var, 300, .inl f331)), (h_trm, .inl (cy_trm, 300, .inl f332)), (h_ter, .inl (cy_ter, 900, .inl f355))] H := by rw [ef355]; exact hP9
                have hD : va_D A [(h_rd, .inr (4, (mo31 (.ref h_by) (.int x_rd_length) (.int z321) (.int z322) (.ref h_td) (.ref h_kn) (.int z323) (.int z324) (.int z325) (.int z326) (.long z327)))), (h_by, .inl (cy_by, 600, .inl f_by)), (h_kn, .inl (cy_kn, 8, .inl f328)), (h_td, .inr (5, (mo32 v_td (.ref h_nam) (.ref h_var) (.ref h_trm) (.ref h_ter) (.int z329)))), (h_nam, .inl (cy_nam, 300, .inr (.inl f330))), (h_var, .inl (cy_var, 300, .inl f331)), (h_trm, .inl (cy_trm, 300, .inl f332)), (h_ter, .inl (cy_ter, 900, .inl f355))] := by rw [ef355]; exact hD9
                have hS := hS9
                clear hP9 hD9 hS9
                have hf355 : Rg 0 299 f355 := by rw [ef355]; exact rg_upd hf333 (by omega)
                clear ef355
                refine lv_aload_n hx hb dX5_readPart_157 rfl (lv_at hl 0 rfl) ?_
                refine va_get (D := (dC, dI)) (ci := 4) (v := .ref h_td) (C := RX5) (T := TX5) (N := 11) hx hb hw iwX5 hown hK hP 0 rfl rfl 4 (by decide) (hw _ w_f_X5_25) (fun _ h9 => h9) rfl dX5_readPart_158 ?_
                refine va_getN (D := (dC, dI)) (ci := 5) (v := .ref h_trm) (C := RX8) (T := TX8) (N := 10) (host := "OppositePairs") hx hb hw iwX8 hown hK hP 3 rfl rfl 2 (by decide) (hN.use n_f_X5_100 rfl) (fun _ h9 => h9) rfl dX5_readPart_161 ?_
                refine lv_iload_n hx hb dX5_readPart_164 rfl (lv_at hl 3 rfl) ?_
                refine lv_iload hx hb dX5_readPart_165 (lv_at hl 4 rfl) ?_
                refine lv_iconst (v := 1) hx hb dX5_readPart_167 (by decide) ?_
                refine lv_iadd hx hb dX5_readPart_168 ?_
                refine lv_topi (fun z356 ez356 => ?_)
                have tz356 : (z356).toInt = (x113).toInt + 1 := by rw [ez356]; exact i_add rfl (by decide) (by omega)
                refine va_iast hx hb hK hP hD hS 6 4 rfl rfl (i := r82) (x := z356) (vp_in_iff.mpr (by omega)) dX5_readPart_169 (fun H locs hP9 hD9 hS9 => ?_)
                obtain ⟨f357, ef357⟩ : ∃ g : Nat → Int32, g = upd f332 (Int32.toNatClampNeg r82) z356 := ⟨_, rfl⟩
                clear hP hD hS
                have hP : va_P (dC, dI) cls [(h_rd, .inr (4, (mo31 (.ref h_by) (.int x_rd_length) (.int z321) (.int z322) (.ref h_td) (.ref h_kn) (.int z323) (.int z324) (.int z325) (.int z326) (.long z327)))), (h_by, .inl (cy_by, 600, .inl f_by)), (h_kn, .inl (cy_kn, 8, .inl f328)), (h_td, .inr (5, (mo32 v_td (.ref h_nam) (.ref h_var) (.ref h_trm) (.ref h_ter) (.int z329)))), (h_nam, .inl (cy_nam, 300, .inr (.inl f330))), (h_var, .inl (cy_var, 300, .inl f331)), (h_trm, .inl (cy_trm, 300, .inl f357)), (h_ter, .inl (cy_ter, 900, .inl f355))] H := by rw [ef357]; exact hP9
                have hD : va_D A [(h_rd, .inr (4, (mo31 (.ref h_by) (.int x_rd_length) (.int z321) (.int z322) (.ref h_td) (.ref h_kn) (.int z323) (.int z324) (.int z325) (.int z326) (.long z327)))), (h_by, .inl (cy_by, 600, .inl f_by)), (h_kn, .inl (cy_kn, 8, .inl f328)), (h_td, .inr (5, (mo32 v_td (.ref h_nam) (.ref h_var) (.ref h_trm) (.ref h_ter) (.int z329)))), (h_nam, .inl (cy_nam, 300, .inr (.inl f330))), (h_var, .inl (cy_var, 300, .inl f331)), (h_trm, .inl (cy_trm, 300, .inl f357)), (h_ter, .inl (cy_ter, 900, .inl f355))] := by rw [ef357]; exact hD9
                have hS := hS9
                clear hP9 hD9 hS9
                have hf357 : Rg 0 3 f357 := by rw [ef357]; exact rg_upd hf332 (by omega)
                clear ef357
                refine lv_aload_n hx hb dX5_readPart_170 rfl (lv_at hl 0 rfl) ?_
                refine va_get (D := (dC, dI)) (ci := 4) (v := .int z321) (C := RX5) (T := TX5) (N := 11) hx hb hw iwX5 hown hK hP 0 rfl rfl 2 (by decide) (hw _ w_f_X5_34) (fun _ h9 => h9) rfl dX5_readPart_171 ?_
                refine lv_if_eq (tgt := 179) hx hb dX5_readPart_174 (by decide) (fun c358 => ?_) (fun c358 => ?_)
                · have kc358 := (cv_eq (rfl : (z321).toInt = (z321).toInt) (by decide : (0 : Int32).toInt = 0)).mp c358
                  refine lv_aload_n hx hb dX5_readPart_179 rfl (lv_at hl 0 rfl) ?_
                  refine va_get (D := (dC, dI)) (ci := 4) (v := .int z326) (C := RX5) (T := TX5) (N := 11) hx hb hw iwX5 hown hK hP 0 rfl rfl 9 (by decide) (hw _ w_f_X5_43) (fun _ h9 => h9) rfl dX5_readPart_180 ?_
                  refine lv_bipush (v := 44) hx hb dX5_readPart_183 (by decide) ?_
                  refine lv_icmp_eq (tgt := 191) hx hb dX5_readPart_185 (by decide) (fun c359 => ?_) (fun c359 => ?_)
                  · have kc359 := (cv_eq (rfl : (z326).toInt = (z326).toInt) (by decide : (44 : Int32).toInt = 44)).mp c359
                    have on9 := pLo_on (G := G) (n := (x_rd_length).toInt) (P := (pPs G (x_rd_length).toInt 0)) (r := rr316) (q := (x123).toInt) (nv := (x122).toInt) (vf := gh128) (by rw [← erh354]; omega) (by rw [← erh354, ← k340]; omega)
                    rw [← erh354, ← k340, ← k341] at on9
                    have lo360 := on9.symm.trans klp129_19
                    obtain ⟨z361, ez361⟩ : ∃ y : Int32, y = x113 + 1 := ⟨_, rfl⟩
                    have tz361 : (z361).toInt = (x113).toInt + 1 := by rw [ez361]; exact i_add rfl (by decide) (by omega)
                    refine lv_iinc (v := z361) (lv' := [(4, .int z361), (0, .ref h_rd), (1, .int 5), (2, .int 1), (3, .int r82)]) hx hb dX5_readPart_191 hl (k := 4) rfl (by rw [ez361]; rfl) (by decide) rfl (fun ls hl => ?_)
                    refine lv_goto (tgt := 84) hx hb dX5_readPart_194 (by decide) ?_
                    replace hP : va_P (dC, dI) cls [(h_kn, .inl (cy_kn, 8, .inl f328)), (h_ter, .inl (cy_ter, 900, .inl f355)), (h_td, .inr (5, (mo32 v_td (.ref h_nam) (.ref h_var) (.ref h_trm) (.ref h_ter) (.int z329)))), (h_nam, .inl (cy_nam, 300, .inr (.inl f330))), (h_var, .inl (cy_var, 300, .inl f331)), (h_trm, .inl (cy_trm, 300, .inl f357)), (h_rd, .inr (4, (mo31 (.ref h_by) (.int x_rd_length) (.int z321) (.int z322) (.ref h_td) (.ref h_kn) (.int z323) (.int z324) (.int z325) (.int z326) (.long z327)))), (h_by, .inl (cy_by, 600, .inl f_by))] H := hP.sub [2, 7, 3, 4, 5, 6, 0, 1] rfl
                    replace hD : va_D A [(h_kn, .inl (cy_kn, 8, .inl f328)), (h_ter, .inl (cy_ter, 900, .inl f355)), (h_td, .inr (5, (mo32 v_td (.ref h_nam) (.ref h_var) (.ref h_trm) (.ref h_ter) (.int z329)))), (h_nam, .inl (cy_nam, 300, .inr (.inl f330))), (h_var, .inl (cy_var, 300, .inl f331)), (h_trm, .inl (cy_trm, 300, .inl f357)), (h_rd, .inr (4, (mo31 (.ref h_by) (.int x_rd_length) (.int z321) (.int z322) (.ref h_td) (.ref h_kn) (.int z323) (.int z324) (.int z325) (.int z326) (.long z327)))), (h_by, .inl (cy_by, 600, .inl f_by))] := hD.sub [2, 7, 3, 4, 5, 6, 0, 1] (by decide) rfl
                    exact ih130 (z361) (f328) (f355) (z329) (f330) (f331) (f357) (z321) (z322) (z323) (z324) (z325) (z326) (z327) (rr316) ((rh354).2.2.2) _ _ _ (by omega) hf328 hf355 (by first | exact k337 | omega) hf331 hf357 (by first | exact k334 | omega) (by first | exact k335 | omega) (by first | exact k336 | omega) (by first | exact k346 | omega) (by omega) (by omega) (by first | exact k343 | omega) (by omega) (by first | exact k350 | omega) (by omega) (by omega) (by omega) (by omega) lo360 k353 (by omega) hP hD hS (lv_sub hl [1, 2, 3, 4, 0] rfl)
                  · have kc359 := (not_congr (cv_eq (rfl : (z326).toInt = (z326).toInt) (by decide : (44 : Int32).toInt = 44))).mp c359
                    refine lv_goto (tgt := 197) hx hb dX5_readPart_188 (by decide) ?_
                    have on9 := pLo_off (G := G) (n := (x_rd_length).toInt) (P := (pPs G (x_rd_length).toInt 0)) (r := rr316) (q := (x123).toInt) (nv := (x122).toInt) (vf := gh128) (by rw [← erh354]; omega) (by rw [← erh354, ← k340]; omega)
                    rw [← erh354, ← k340, ← k341] at on9
                    have cl9 := on9.symm.trans klp129_19
                    refine lv_aload_n hx hb dX5_readPart_197 rfl (lv_at hl 0 rfl) ?_
                    refine va_get (D := (dC, dI)) (ci := 4) (v := .int z326) (C := RX5) (T := TX5) (N := 11) hx hb hw iwX5 hown hK hP 0 rfl rfl 9 (by decide) (hw _ w_f_X5_43) (fun _ h9 => h9) rfl dX5_readPart_198 ?_
                    refine lv_bipush (v := 41) hx hb dX5_readPart_201 (by decide) ?_
                    refine lv_icmp_ne (tgt := 213) hx hb dX5_readPart_203 (by decide) (fun c362 => ?_) (fun c362 => ?_)
                    · have kc362 := (not_congr (cv_eq (rfl : (z326).toInt = (z326).toInt) (by decide : (41 : Int32).toInt = 41))).mp c362
                      have pv9 : (pTm G (x_rd_length).toInt (pPs G (x_rd_length).toInt 1) (x_rd_at).toInt (x_rd_variables).toInt vf) = (1, (z324).toInt, (z323).toInt, (rh354).2.2.2) := cl9.symm.trans (pCl_no (by omega))
                      have pq3631 : ((pTm G (x_rd_length).toInt (pPs G (x_rd_length).toInt 1) (x_rd_at).toInt (x_rd_variables).toInt vf)).1 = 1 := by rw [pv9]
                      have pq3632 : ((pTm G (x_rd_length).toInt (pPs G (x_rd_length).toInt 1) (x_rd_at).toInt (x_rd_variables).toInt vf)).2.1 = (z324).toInt := by rw [pv9]
                      have pq3633 : ((pTm G (x_rd_length).toInt (pPs G (x_rd_length).toInt 1) (x_rd_at).toInt (x_rd_variables).toInt vf)).2.2.1 = (z323).toInt := by rw [pv9]
                      have pq3634 : ((pTm G (x_rd_length).toInt (pPs G (x_rd_length).toInt 1) (x_rd_at).toInt (x_rd_variables).toInt vf)).2.2.2 = (rh354).2.2.2 := by rw [pv9]
                      refine lv_aload_n hx hb dX5_readPart_213 rfl (lv_at hl 0 rfl) ?_
                      refine lv_iconst (v := 1) hx hb dX5_readPart_214 (by decide) ?_
                      obtain ⟨vq364, evq364⟩ := mq31_27 (.ref h_by) (.int x_rd_length) (.ref h_td) (.ref h_kn) (.int z323) (.int z325) (.int z326) (.long z327)
                      replace hP : va_P (dC, dI) cls [(h_rd, .inr (4, (mo27 vq364 (.int z321) (.int z322) (.int z324)))), (h_by, .inl (cy_by, 600, .inl f_by)), (h_kn, .inl (cy_kn, 8, .inl f328)), (h_td, .inr (5, (mo32 v_td (.ref h_nam) (.ref h_var) (.ref h_trm) (.ref h_ter) (.int z329)))), (h_nam, .inl (cy_nam, 300, .inr (.inl f330))), (h_var, .inl (cy_var, 300, .inl f331)), (h_trm, .inl (cy_trm, 300, .inl f357)), (h_ter, .inl (cy_ter, 900, .inl f355))] H := by rw [evq364]; exact hP
                      replace hD : va_D A [(h_rd, .inr (4, (mo27 vq364 (.int z321) (.int z322) (.int z324)))), (h_by, .inl (cy_by, 600, .inl f_by)), (h_kn, .inl (cy_kn, 8, .inl f328)), (h_td, .inr (5, (mo32 v_td (.ref h_nam) (.ref h_var) (.ref h_trm) (.ref h_ter) (.int z329)))), (h_nam, .inl (cy_nam, 300, .inr (.inl f330))), (h_var, .inl (cy_var, 300, .inl f331)), (h_trm, .inl (cy_trm, 300, .inl f357)), (h_ter, .inl (cy_ter, 900, .inl f355))] := by rw [evq364]; exact hD
                      have cst1 : (1 : Int32).toInt = 1 := by decide
                      have hPc := hP.sub (ws' := [(h_rd, .inr (4, (mo27 vq364 (.int z321) (.int z322) (.int z324))))]) [0] rfl
                      have hDc := hD.sub (ws' := [(h_rd, .inr (4, (mo27 vq364 (.int z321) (.int z322) (.int z324))))]) [0] (by decide) rfl
                      have hKc := hK.sub (tys' := []) [] rfl
                      have hFc := va_free (wc := [(h_rd, .inr (4, (mo27 vq364 (.int z321) (.int z322) (.int z324))))]) hD hS hA [0] rfl
                      refine va_callv (va_runV (As := [.int 1]) (rest := []) ⟨hx, hb, hml, hown, hts⟩ (c_X5_blame l dC dI H.size h_rd vq364 z321 z322 z324 1 (by first | exact k335 | omega)) (cwV 1 hts (gv hT w_m_X5_56 w_instanceMethod_X5_blame ws_sel_X5_blame w_ini_X5 w_code_X5_blame) rfl rfl rfl (by decide +kernel) ⟨(Nat.le_of_ble_eq_true rfl), (Nat.le_of_ble_eq_true rfl)⟩) ⟨pre_blind, va_recv hK hP (ci := 4) (q0 := 0) rfl rfl, pre_of hPc hKc hDc hN⟩ rfl rfl hl.1 rfl (lv_room (Nat.le_of_ble_eq_true rfl)) dX5_readPart_215 ⟨(Nat.le_of_ble_eq_true rfl), (Nat.le_of_ble_eq_true rfl)⟩) hS (fun q _ h => hFc q h) hFc (fun u t H locs ht hvm hq hB hz1 hk1 hS9 => ?_)
                      obtain ⟨z366, z367⟩ := u
                      obtain ⟨hP1, hD1⟩ := hB
                      rw [ht] at hP1
                      obtain ⟨hP9, hD9⟩ := va_join (wr := [(h_by, .inl (cy_by, 600, .inl f_by)), (h_kn, .inl (cy_kn, 8, .inl f328)), (h_td, .inr (5, (mo32 v_td (.ref h_nam) (.ref h_var) (.ref h_trm) (.ref h_ter) (.int z329)))), (h_nam, .inl (cy_nam, 300, .inr (.inl f330))), (h_var, .inl (cy_var, 300, .inl f331)), (h_trm, .inl (cy_trm, 300, .inl f357)), (h_ter, .inl (cy_ter, 900, .inl f355))]) (w1 := [(h_rd, .inr (4, (mo27 vq364 (.int z366) (.int z367) (.int z324))))]) hP hD [0] [1, 2, 3, 4, 5, 6, 7] rfl rfl (by decide) (by decide) hk1 hFc hP1 hD1
                      clear hP hD hS hPc hDc hKc hFc hP1 hD1 hk1 hz1 ht hvm
                      have hP : va_P (dC, dI) cls [(h_by, .inl (cy_by, 600, .inl f_by)), (h_kn, .inl (cy_kn, 8, .inl f328)), (h_td, .inr (5, (mo32 v_td (.ref h_nam) (.ref h_var) (.ref h_trm) (.ref h_ter) (.int z329)))), (h_nam, .inl (cy_nam, 300, .inr (.inl f330))), (h_var, .inl (cy_var, 300, .inl f331)), (h_trm, .inl (cy_trm, 300, .inl f357)), (h_ter, .inl (cy_ter, 900, .inl f355)), (h_rd, .inr (4, (mo27 vq364 (.int z366) (.int z367) (.int z324))))] H := hP9
                      have hD : va_D A [(h_by, .inl (cy_by, 600, .inl f_by)), (h_kn, .inl (cy_kn, 8, .inl f328)), (h_td, .inr (5, (mo32 v_td (.ref h_nam) (.ref h_var) (.ref h_trm) (.ref h_ter) (.int z329)))), (h_nam, .inl (cy_nam, 300, .inr (.inl f330))), (h_var, .inl (cy_var, 300, .inl f331)), (h_trm, .inl (cy_trm, 300, .inl f357)), (h_ter, .inl (cy_ter, 900, .inl f355)), (h_rd, .inr (4, (mo27 vq364 (.int z366) (.int z367) (.int z324))))] := hD9
                      have hS := hS9
                      clear hP9 hD9 hS9
                      rw [evq364] at hP hD
                      replace hP : va_P (dC, dI) cls [(h_by, .inl (cy_by, 600, .inl f_by)), (h_kn, .inl (cy_kn, 8, .inl f328)), (h_td, .inr (5, (mo32 v_td (.ref h_nam) (.ref h_var) (.ref h_trm) (.ref h_ter) (.int z329)))), (h_nam, .inl (cy_nam, 300, .inr (.inl f330))), (h_var, .inl (cy_var, 300, .inl f331)), (h_trm, .inl (cy_trm, 300, .inl f357)), (h_ter, .inl (cy_ter, 900, .inl f355)), (h_rd, .inr (4, (mo31 (.ref h_by) (.int x_rd_length) (.int z366) (.int z367) (.ref h_td) (.ref h_kn) (.int z323) (.int z324) (.int z325) (.int z326) (.long z327))))] H := hP
                      replace hD : va_D A [(h_by, .inl (cy_by, 600, .inl f_by)), (h_kn, .inl (cy_kn, 8, .inl f328)), (h_td, .inr (5, (mo32 v_td (.ref h_nam) (.ref h_var) (.ref h_trm) (.ref h_ter) (.int z329)))), (h_nam, .inl (cy_nam, 300, .inr (.inl f330))), (h_var, .inl (cy_var, 300, .inl f331)), (h_trm, .inl (cy_trm, 300, .inl f357)), (h_ter, .inl (cy_ter, 900, .inl f355)), (h_rd, .inr (4, (mo31 (.ref h_by) (.int x_rd_length) (.int z366) (.int z367) (.ref h_td) (.ref h_kn) (.int z323) (.int z324) (.int z325) (.int z326) (.long z327))))] := hD
                      clear evq364 
                      obtain ⟨k368, k369⟩ := hq
                      replace k368 : ((z366)).toInt = ((1 : Int32)).toInt := k368
                      replace k369 : ((z367)).toInt = ((z324)).toInt := k369
                      refine lv_iload_n hx hb dX5_readPart_218 rfl (lv_at hl 3 rfl) ?_
                      replace hP : va_P (dC, dI) cls [(h_rd, .inr (4, (mo31 (.ref h_by) (.int x_rd_length) (.int z366) (.int z367) (.ref h_td) (.ref h_kn) (.int z323) (.int z324) (.int z325) (.int z326) (.long z327)))), (h_by, .inl (cy_by, 600, .inl f_by)), (h_kn, .inl (cy_kn, 8, .inl f328)), (h_td, .inr (5, (mo32 v_td (.ref h_nam) (.ref h_var) (.ref h_trm) (.ref h_ter) (.int z329)))), (h_nam, .inl (cy_nam, 300, .inr (.inl f330))), (h_var, .inl (cy_var, 300, .inl f331)), (h_trm, .inl (cy_trm, 300, .inl f357)), (h_ter, .inl (cy_ter, 900, .inl f355))] H := hP.sub [7, 0, 1, 2, 3, 4, 5, 6] rfl
                      replace hD : va_D A [(h_rd, .inr (4, (mo31 (.ref h_by) (.int x_rd_length) (.int z366) (.int z367) (.ref h_td) (.ref h_kn) (.int z323) (.int z324) (.int z325) (.int z326) (.long z327)))), (h_by, .inl (cy_by, 600, .inl f_by)), (h_kn, .inl (cy_kn, 8, .inl f328)), (h_td, .inr (5, (mo32 v_td (.ref h_nam) (.ref h_var) (.ref h_trm) (.ref h_ter) (.int z329)))), (h_nam, .inl (cy_nam, 300, .inr (.inl f330))), (h_var, .inl (cy_var, 300, .inl f331)), (h_trm, .inl (cy_trm, 300, .inl f357)), (h_ter, .inl (cy_ter, 900, .inl f355))] := hD.sub [7, 0, 1, 2, 3, 4, 5, 6] (by decide) rfl
                      refine W.widen (k := 0) (n := 0) (Nat.le_of_ble_eq_true rfl) (Nat.le_of_ble_eq_true rfl) ?_
                      have w370 : 0 ≤ ((z323)).toInt ∧ ((z323)).toInt ≤ 8 := by first | exact k334 | omega
                      have w371 : 0 ≤ ((z324)).toInt ∧ ((z324)).toInt ≤ 600 := by first | exact k335 | omega
                      have w372 : 0 ≤ ((z325)).toInt ∧ ((z325)).toInt ≤ 600 := by first | exact k336 | omega
                      have w373 : 0 ≤ ((z329)).toInt ∧ ((z329)).toInt ≤ 300 := by first | exact k337 | omega
                      have w374 : 0 ≤ (r82 : Int32).toInt ∧ (r82 : Int32).toInt ≤ 299 := by first | exact k88 | omega
                      have w375 : ((z366)).toInt = ((pTm G (x_rd_length).toInt (pPs G (x_rd_length).toInt 1) (x_rd_at).toInt (x_rd_variables).toInt vf)).1 := by omega
                      have w376 : ((z324)).toInt = ((pTm G (x_rd_length).toInt (pPs G (x_rd_length).toInt 1) (x_rd_at).toInt (x_rd_variables).toInt vf)).2.1 := by omega
                      have w377 : ((z323)).toInt = ((pTm G (x_rd_length).toInt (pPs G (x_rd_length).toInt 1) (x_rd_at).toInt (x_rd_variables).toInt vf)).2.2.1 := by omega
                      have w378 : (((z366)).toInt = 0 ∧ ((z367)).toInt = (x_rd_place).toInt) ∨ (¬ ((z366)).toInt = 0 ∧ ((z367)).toInt = ((z324)).toInt) := by omega
                      have w379 : 2 * ((z329)).toInt ≤ ((z324)).toInt + 1 := by first | exact k343 | omega
                      have w380 : ((z326)).toInt < 256 ∨ 2 * ((z329)).toInt ≤ ((z324)).toInt := by first | exact k344 | omega
                      have w381 : (x_rd_at).toInt ≤ ((z324)).toInt := by omega
                      have w382 : ((z326)).toInt = tkT G (x_rd_length).toInt ((z324)).toInt := by first | exact k346 | omega
                      have w383 : ((z326)).toInt = -1 ∨ ((z325)).toInt = tkX G (x_rd_length).toInt ((z324)).toInt := by first | exact k347 | omega
                      have w384 : ¬ ((z326)).toInt = 257 ∨ ((z327)).toInt = G ((z324)).toInt := by first | exact k348 | omega
                      have w385 : -1 ≤ ((z326)).toInt ∧ ((z326)).toInt ≤ 258 := by first | exact k349 | omega
                      have w386 : ((z325)).toInt ≤ (x_rd_length).toInt := by first | exact k350 | omega
                      have w387 : ((z326)).toInt = -1 ∨ ((z324)).toInt < (x_rd_length).toInt := by first | exact k351 | omega
                      have w388 : ((z324)).toInt ≤ (x_rd_length).toInt := by first | exact k352 | omega
                      have w389 : VFC ((z323)).toInt ((pTm G (x_rd_length).toInt (pPs G (x_rd_length).toInt 1) (x_rd_at).toInt (x_rd_variables).toInt vf)).2.2.2 (f328) (f330) ((z329)).toInt := (by rw [pq3634]; exact k353)
                      exact W.iret (v := r82) hx hb hr (fun t ht hW => ⟨⟨r82, (z366, z367, z323, z324, z325, z326, z327, f328, z329, f330, f331, f357, f355), rfl, ⟨w370, w371, w372, hf328, w373, hf331, hf357, hf355, w374, w375, w376, w377, w378, w379, w380, w381, w382, w383, w384, w385, w386, w387, w388, w389⟩, by rw [ht]; exact hP, hD⟩, hS.F ht⟩) hS.2.2 dX5_readPart_219
                    · have kc362 := (cv_eq (rfl : (z326).toInt = (z326).toInt) (by decide : (41 : Int32).toInt = 41)).mp c362
                      have pv9 : (pTm G (x_rd_length).toInt (pPs G (x_rd_length).toInt 1) (x_rd_at).toInt (x_rd_variables).toInt vf) = (0, tkN G (x_rd_length).toInt (z324).toInt, (z323).toInt, (rh354).2.2.2) := cl9.symm.trans (pCl_yes (by omega))
                      have pq3901 : ((pTm G (x_rd_length).toInt (pPs G (x_rd_length).toInt 1) (x_rd_at).toInt (x_rd_variables).toInt vf)).1 = 0 := by rw [pv9]
                      have pq3902 : ((pTm G (x_rd_length).toInt (pPs G (x_rd_length).toInt 1) (x_rd_at).toInt (x_rd_variables).toInt vf)).2.1 = tkN G (x_rd_length).toInt (z324).toInt := by rw [pv9]
                      have pq3903 : ((pTm G (x_rd_length).toInt (pPs G (x_rd_length).toInt 1) (x_rd_at).toInt (x_rd_variables).toInt vf)).2.2.1 = (z323).toInt := by rw [pv9]
                      have pq3904 : ((pTm G (x_rd_length).toInt (pPs G (x_rd_length).toInt 1) (x_rd_at).toInt (x_rd_variables).toInt vf)).2.2.2 = (rh354).2.2.2 := by rw [pv9]
                      refine lv_aload_n hx hb dX5_readPart_206 rfl (lv_at hl 0 rfl) ?_
                      obtain ⟨vq391, evq391⟩ := mq31_29 (.int z321) (.int z322) (.ref h_td) (.ref h_kn) (.int z323)
                      replace hP : va_P (dC, dI) cls [(h_rd, .inr (4, (mo29 vq391 (.ref h_by) (.int x_rd_length) (.int z324) (.int z325) (.int z326) (.long z327)))), (h_by, .inl (cy_by, 600, .inl f_by)), (h_kn, .inl (cy_kn, 8, .inl f328)), (h_td, .inr (5, (mo32 v_td (.ref h_nam) (.ref h_var) (.ref h_trm) (.ref h_ter) (.int z329)))), (h_nam, .inl (cy_nam, 300, .inr (.inl f330))), (h_var, .inl (cy_var, 300, .inl f331)), (h_trm, .inl (cy_trm, 300, .inl f357)), (h_ter, .inl (cy_ter, 900, .inl f355))] H := by rw [evq391]; exact hP
                      replace hD : va_D A [(h_rd, .inr (4, (mo29 vq391 (.ref h_by) (.int x_rd_length) (.int z324) (.int z325) (.int z326) (.long z327)))), (h_by, .inl (cy_by, 600, .inl f_by)), (h_kn, .inl (cy_kn, 8, .inl f328)), (h_td, .inr (5, (mo32 v_td (.ref h_nam) (.ref h_var) (.ref h_trm) (.ref h_ter) (.int z329)))), (h_nam, .inl (cy_nam, 300, .inr (.inl f330))), (h_var, .inl (cy_var, 300, .inl f331)), (h_trm, .inl (cy_trm, 300, .inl f357)), (h_ter, .inl (cy_ter, 900, .inl f355))] := by rw [evq391]; exact hD
                      have hPc := hP.sub (ws' := [(h_rd, .inr (4, (mo29 vq391 (.ref h_by) (.int x_rd_length) (.int z324) (.int z325) (.int z326) (.long z327)))), (h_by, .inl (cy_by, 600, .inl f_by))]) [0, 1] rfl
                      have hDc := hD.sub (ws' := [(h_rd, .inr (4, (mo29 vq391 (.ref h_by) (.int x_rd_length) (.int z324) (.int z325) (.int z326) (.long z327)))), (h_by, .inl (cy_by, 600, .inl f_by))]) [0, 1] (by decide) rfl
                      have hKc := hK.sub (tys' := [(cy_by, .int)]) [0] rfl
                      have hFc := va_free (wc := [(h_rd, .inr (4, (mo29 vq391 (.ref h_by) (.int x_rd_length) (.int z324) (.int z325) (.int z326) (.long z327)))), (h_by, .inl (cy_by, 600, .inl f_by))]) hD hS hA [0, 1] rfl
                      refine va_callv (va_runV (As := []) (rest := []) ⟨hx, hb, hml, hown, hts⟩ (c_X5_nextToken l dC dI H.size h_rd h_by vq391 x_rd_length z324 z325 z326 z327 cy_by f_by G (by first | exact hx_rd_length | omega) (by first | exact k335 | omega) (by first | exact k336 | omega) hf_by (by first | exact k350 | omega) hn_byt) (cwV 0 hts (gv hT w_m_X5_40 w_instanceMethod_X5_nextToken ws_sel_X5_nextToken w_ini_X5 w_code_X5_nextToken) rfl rfl rfl (by decide +kernel) ⟨(Nat.le_of_ble_eq_true rfl), (Nat.le_of_ble_eq_true rfl)⟩) ⟨pre_blind, va_recv hK hP (ci := 4) (q0 := 0) rfl rfl, pre_of hPc hKc hDc hN⟩ rfl rfl hl.1 rfl (lv_room (Nat.le_of_ble_eq_true rfl)) dX5_readPart_207 ⟨(Nat.le_of_ble_eq_true rfl), (Nat.le_of_ble_eq_true rfl)⟩) hS (fun q _ h => hFc q h) hFc (fun u t H locs ht hvm hq hB hz1 hk1 hS9 => ?_)
                      obtain ⟨z393, z394, z395, z396⟩ := u
                      obtain ⟨hP1, hD1⟩ := hB
                      rw [ht] at hP1
                      obtain ⟨hP9, hD9⟩ := va_join (wr := [(h_kn, .inl (cy_kn, 8, .inl f328)), (h_td, .inr (5, (mo32 v_td (.ref h_nam) (.ref h_var) (.ref h_trm) (.ref h_ter) (.int z329)))), (h_nam, .inl (cy_nam, 300, .inr (.inl f330))), (h_var, .inl (cy_var, 300, .inl f331)), (h_trm, .inl (cy_trm, 300, .inl f357)), (h_ter, .inl (cy_ter, 900, .inl f355))]) (w1 := [(h_rd, .inr (4, (mo29 vq391 (.ref h_by) (.int x_rd_length) (.int z393) (.int z394) (.int z395) (.long z396)))), (h_by, .inl (cy_by, 600, .inl f_by))]) hP hD [0, 1] [2, 3, 4, 5, 6, 7] rfl rfl (by decide) (by decide) hk1 hFc hP1 hD1
                      clear hP hD hS hPc hDc hKc hFc hP1 hD1 hk1 hz1 ht hvm
                      have hP : va_P (dC, dI) cls [(h_kn, .inl (cy_kn, 8, .inl f328)), (h_td, .inr (5, (mo32 v_td (.ref h_nam) (.ref h_var) (.ref h_trm) (.ref h_ter) (.int z329)))), (h_nam, .inl (cy_nam, 300, .inr (.inl f330))), (h_var, .inl (cy_var, 300, .inl f331)), (h_trm, .inl (cy_trm, 300, .inl f357)), (h_ter, .inl (cy_ter, 900, .inl f355)), (h_rd, .inr (4, (mo29 vq391 (.ref h_by) (.int x_rd_length) (.int z393) (.int z394) (.int z395) (.long z396)))), (h_by, .inl (cy_by, 600, .inl f_by))] H := hP9
                      have hD : va_D A [(h_kn, .inl (cy_kn, 8, .inl f328)), (h_td, .inr (5, (mo32 v_td (.ref h_nam) (.ref h_var) (.ref h_trm) (.ref h_ter) (.int z329)))), (h_nam, .inl (cy_nam, 300, .inr (.inl f330))), (h_var, .inl (cy_var, 300, .inl f331)), (h_trm, .inl (cy_trm, 300, .inl f357)), (h_ter, .inl (cy_ter, 900, .inl f355)), (h_rd, .inr (4, (mo29 vq391 (.ref h_by) (.int x_rd_length) (.int z393) (.int z394) (.int z395) (.long z396)))), (h_by, .inl (cy_by, 600, .inl f_by))] := hD9
                      have hS := hS9
                      clear hP9 hD9 hS9
                      rw [evq391] at hP hD
                      replace hP : va_P (dC, dI) cls [(h_kn, .inl (cy_kn, 8, .inl f328)), (h_td, .inr (5, (mo32 v_td (.ref h_nam) (.ref h_var) (.ref h_trm) (.ref h_ter) (.int z329)))), (h_nam, .inl (cy_nam, 300, .inr (.inl f330))), (h_var, .inl (cy_var, 300, .inl f331)), (h_trm, .inl (cy_trm, 300, .inl f357)), (h_ter, .inl (cy_ter, 900, .inl f355)), (h_rd, .inr (4, (mo31 (.ref h_by) (.int x_rd_length) (.int z321) (.int z322) (.ref h_td) (.ref h_kn) (.int z323) (.int z393) (.int z394) (.int z395) (.long z396)))), (h_by, .inl (cy_by, 600, .inl f_by))] H := hP
                      replace hD : va_D A [(h_kn, .inl (cy_kn, 8, .inl f328)), (h_td, .inr (5, (mo32 v_td (.ref h_nam) (.ref h_var) (.ref h_trm) (.ref h_ter) (.int z329)))), (h_nam, .inl (cy_nam, 300, .inr (.inl f330))), (h_var, .inl (cy_var, 300, .inl f331)), (h_trm, .inl (cy_trm, 300, .inl f357)), (h_ter, .inl (cy_ter, 900, .inl f355)), (h_rd, .inr (4, (mo31 (.ref h_by) (.int x_rd_length) (.int z321) (.int z322) (.ref h_td) (.ref h_kn) (.int z323) (.int z393) (.int z394) (.int z395) (.long z396)))), (h_by, .inl (cy_by, 600, .inl f_by))] := hD
                      clear evq391 
                      obtain ⟨k397, k398, k399, k400, k401, k402, k403, k404, k405, k406, k407⟩ := hq
                      replace k397 : 0 ≤ ((z393)).toInt ∧ ((z393)).toInt ≤ 600 := k397
                      replace k398 : 0 ≤ ((z394)).toInt ∧ ((z394)).toInt ≤ 600 := k398
                      replace k399 : ((z393)).toInt = tkS (G) ((x_rd_length)).toInt ((z325)).toInt := k399
                      replace k400 : ((z325)).toInt ≤ ((z393)).toInt := k400
                      replace k401 : ((z395)).toInt = tkT (G) ((x_rd_length)).toInt ((z393)).toInt := k401
                      replace k402 : ((z395)).toInt = -1 ∨ ((z394)).toInt = tkX (G) ((x_rd_length)).toInt ((z393)).toInt := k402
                      replace k403 : ¬ ((z395)).toInt = 257 ∨ ((z396)).toInt = (G) ((z393)).toInt := k403
                      replace k404 : -1 ≤ ((z395)).toInt ∧ ((z395)).toInt ≤ 258 := k404
                      replace k405 : ((z394)).toInt ≤ ((x_rd_length)).toInt := k405
                      replace k406 : ((z395)).toInt = -1 ∨ ((z393)).toInt < ((x_rd_length)).toInt := k406
                      replace k407 : ((z393)).toInt ≤ ((x_rd_length)).toInt := k407
                      have tn408b : (z325).toInt = tkX G (x_rd_length).toInt (z324).toInt := by omega
                      have tn408 : (z393).toInt = tkN G (x_rd_length).toInt (z324).toInt := by rw [k399, tn408b]; rfl
                      have tn408t : (z395).toInt = tkT G (x_rd_length).toInt (tkN G (x_rd_length).toInt (z324).toInt) := by rw [← tn408]; exact k401
                      have tn408g := tkN_gt (G := G) (n := (x_rd_length).toInt) (a := (z324).toInt) (by omega) (by omega) (by omega)
                      refine lv_goto (tgt := 218) hx hb dX5_readPart_210 (by decide) ?_
                      refine lv_iload_n hx hb dX5_readPart_218 rfl (lv_at hl 3 rfl) ?_
                      replace hP : va_P (dC, dI) cls [(h_rd, .inr (4, (mo31 (.ref h_by) (.int x_rd_length) (.int z321) (.int z322) (.ref h_td) (.ref h_kn) (.int z323) (.int z393) (.int z394) (.int z395) (.long z396)))), (h_by, .inl (cy_by, 600, .inl f_by)), (h_kn, .inl (cy_kn, 8, .inl f328)), (h_td, .inr (5, (mo32 v_td (.ref h_nam) (.ref h_var) (.ref h_trm) (.ref h_ter) (.int z329)))), (h_nam, .inl (cy_nam, 300, .inr (.inl f330))), (h_var, .inl (cy_var, 300, .inl f331)), (h_trm, .inl (cy_trm, 300, .inl f357)), (h_ter, .inl (cy_ter, 900, .inl f355))] H := hP.sub [6, 7, 0, 1, 2, 3, 4, 5] rfl
                      replace hD : va_D A [(h_rd, .inr (4, (mo31 (.ref h_by) (.int x_rd_length) (.int z321) (.int z322) (.ref h_td) (.ref h_kn) (.int z323) (.int z393) (.int z394) (.int z395) (.long z396)))), (h_by, .inl (cy_by, 600, .inl f_by)), (h_kn, .inl (cy_kn, 8, .inl f328)), (h_td, .inr (5, (mo32 v_td (.ref h_nam) (.ref h_var) (.ref h_trm) (.ref h_ter) (.int z329)))), (h_nam, .inl (cy_nam, 300, .inr (.inl f330))), (h_var, .inl (cy_var, 300, .inl f331)), (h_trm, .inl (cy_trm, 300, .inl f357)), (h_ter, .inl (cy_ter, 900, .inl f355))] := hD.sub [6, 7, 0, 1, 2, 3, 4, 5] (by decide) rfl
                      refine W.widen (k := 0) (n := 0) (Nat.le_of_ble_eq_true rfl) (Nat.le_of_ble_eq_true rfl) ?_
                      have w409 : 0 ≤ ((z323)).toInt ∧ ((z323)).toInt ≤ 8 := by first | exact k334 | omega
                      have w410 : 0 ≤ ((z393)).toInt ∧ ((z393)).toInt ≤ 600 := by first | exact k397 | omega
                      have w411 : 0 ≤ ((z394)).toInt ∧ ((z394)).toInt ≤ 600 := by first | exact k398 | omega
                      have w412 : 0 ≤ ((z329)).toInt ∧ ((z329)).toInt ≤ 300 := by first | exact k337 | omega
                      have w413 : 0 ≤ (r82 : Int32).toInt ∧ (r82 : Int32).toInt ≤ 299 := by first | exact k88 | omega
                      have w414 : ((z321)).toInt = ((pTm G (x_rd_length).toInt (pPs G (x_rd_length).toInt 1) (x_rd_at).toInt (x_rd_variables).toInt vf)).1 := by omega
                      have w415 : ((z393)).toInt = ((pTm G (x_rd_length).toInt (pPs G (x_rd_length).toInt 1) (x_rd_at).toInt (x_rd_variables).toInt vf)).2.1 := by omega
                      have w416 : ((z323)).toInt = ((pTm G (x_rd_length).toInt (pPs G (x_rd_length).toInt 1) (x_rd_at).toInt (x_rd_variables).toInt vf)).2.2.1 := by omega
                      have w417 : (((z321)).toInt = 0 ∧ ((z322)).toInt = (x_rd_place).toInt) ∨ (¬ ((z321)).toInt = 0 ∧ ((z322)).toInt = ((z393)).toInt) := by omega
                      have w418 : 2 * ((z329)).toInt ≤ ((z393)).toInt + 1 := by omega
                      have w419 : ((z395)).toInt < 256 ∨ 2 * ((z329)).toInt ≤ ((z393)).toInt := by omega
                      have w420 : (x_rd_at).toInt ≤ ((z393)).toInt := by omega
                      have w421 : ((z395)).toInt = tkT G (x_rd_length).toInt ((z393)).toInt := by first | exact k401 | omega
                      have w422 : ((z395)).toInt = -1 ∨ ((z394)).toInt = tkX G (x_rd_length).toInt ((z393)).toInt := by first | exact k402 | omega
                      have w423 : ¬ ((z395)).toInt = 257 ∨ ((z396)).toInt = G ((z393)).toInt := by first | exact k403 | omega
                      have w424 : -1 ≤ ((z395)).toInt ∧ ((z395)).toInt ≤ 258 := by first | exact k404 | omega
                      have w425 : ((z394)).toInt ≤ (x_rd_length).toInt := by first | exact k405 | omega
                      have w426 : ((z395)).toInt = -1 ∨ ((z393)).toInt < (x_rd_length).toInt := by first | exact k406 | omega
                      have w427 : ((z393)).toInt ≤ (x_rd_length).toInt := by first | exact k407 | omega
                      have w428 : VFC ((z323)).toInt ((pTm G (x_rd_length).toInt (pPs G (x_rd_length).toInt 1) (x_rd_at).toInt (x_rd_variables).toInt vf)).2.2.2 (f328) (f330) ((z329)).toInt := (by rw [pq3904]; exact k353)
                      exact W.iret (v := r82) hx hb hr (fun t ht hW => ⟨⟨r82, (z321, z322, z323, z393, z394, z395, z396, f328, z329, f330, f331, f357, f355), rfl, ⟨w409, w410, w411, hf328, w412, hf331, hf357, hf355, w413, w414, w415, w416, w417, w418, w419, w420, w421, w422, w423, w424, w425, w426, w427, w428⟩, by rw [ht]; exact hP, hD⟩, hS.F ht⟩) hS.2.2 dX5_readPart_219
                · have kc358 := (not_congr (cv_eq (rfl : (z321).toInt = (z321).toInt) (by decide : (0 : Int32).toInt = 0))).mp c358
                  have no9 := pLo_no (G := G) (n := (x_rd_length).toInt) (P := (pPs G (x_rd_length).toInt 0)) (r := rr316) (q := (x123).toInt) (nv := (x122).toInt) (vf := gh128) (by rw [← erh354]; omega)
                  rw [← erh354] at no9
                  have rq9 : (pTm G (x_rd_length).toInt (pPs G (x_rd_length).toInt 1) (x_rd_at).toInt (x_rd_variables).toInt vf) = rh354 := klp129_19.symm.trans no9
                  have pq4291 : ((pTm G (x_rd_length).toInt (pPs G (x_rd_length).toInt 1) (x_rd_at).toInt (x_rd_variables).toInt vf)).1 = (rh354).1 := by rw [rq9]
                  have pq4292 : ((pTm G (x_rd_length).toInt (pPs G (x_rd_length).toInt 1) (x_rd_at).toInt (x_rd_variables).toInt vf)).2.1 = (rh354).2.1 := by rw [rq9]
                  have pq4293 : ((pTm G (x_rd_length).toInt (pPs G (x_rd_length).toInt 1) (x_rd_at).toInt (x_rd_variables).toInt vf)).2.2.1 = (rh354).2.2.1 := by rw [rq9]
                  have pq4294 : ((pTm G (x_rd_length).toInt (pPs G (x_rd_length).toInt 1) (x_rd_at).toInt (x_rd_variables).toInt vf)).2.2.2 = (rh354).2.2.2 := by rw [rq9]
                  refine lv_iload_n hx hb dX5_readPart_177 rfl (lv_at hl 3 rfl) ?_
                  refine W.widen (k := 0) (n := 0) (Nat.le_of_ble_eq_true rfl) (Nat.le_of_ble_eq_true rfl) ?_
                  have w430 : 0 ≤ ((z323)).toInt ∧ ((z323)).toInt ≤ 8 := by first | exact k334 | omega
                  have w431 : 0 ≤ ((z324)).toInt ∧ ((z324)).toInt ≤ 600 := by first | exact k335 | omega
                  have w432 : 0 ≤ ((z325)).toInt ∧ ((z325)).toInt ≤ 600 := by first | exact k336 | omega
                  have w433 : 0 ≤ ((z329)).toInt ∧ ((z329)).toInt ≤ 300 := by first | exact k337 | omega
                  have w434 : 0 ≤ (r82 : Int32).toInt ∧ (r82 : Int32).toInt ≤ 299 := by first | exact k88 | omega
                  have w435 : ((z321)).toInt = ((pTm G (x_rd_length).toInt (pPs G (x_rd_length).toInt 1) (x_rd_at).toInt (x_rd_variables).toInt vf)).1 := by omega
                  have w436 : ((z324)).toInt = ((pTm G (x_rd_length).toInt (pPs G (x_rd_length).toInt 1) (x_rd_at).toInt (x_rd_variables).toInt vf)).2.1 := by omega
                  have w437 : ((z323)).toInt = ((pTm G (x_rd_length).toInt (pPs G (x_rd_length).toInt 1) (x_rd_at).toInt (x_rd_variables).toInt vf)).2.2.1 := by omega
                  have w438 : (((z321)).toInt = 0 ∧ ((z322)).toInt = (x_rd_place).toInt) ∨ (¬ ((z321)).toInt = 0 ∧ ((z322)).toInt = ((z324)).toInt) := by omega
                  have w439 : 2 * ((z329)).toInt ≤ ((z324)).toInt + 1 := by first | exact k343 | omega
                  have w440 : ((z326)).toInt < 256 ∨ 2 * ((z329)).toInt ≤ ((z324)).toInt := by first | exact k344 | omega
                  have w441 : (x_rd_at).toInt ≤ ((z324)).toInt := by omega
                  have w442 : ((z326)).toInt = tkT G (x_rd_length).toInt ((z324)).toInt := by first | exact k346 | omega
                  have w443 : ((z326)).toInt = -1 ∨ ((z325)).toInt = tkX G (x_rd_length).toInt ((z324)).toInt := by first | exact k347 | omega
                  have w444 : ¬ ((z326)).toInt = 257 ∨ ((z327)).toInt = G ((z324)).toInt := by first | exact k348 | omega
                  have w445 : -1 ≤ ((z326)).toInt ∧ ((z326)).toInt ≤ 258 := by first | exact k349 | omega
                  have w446 : ((z325)).toInt ≤ (x_rd_length).toInt := by first | exact k350 | omega
                  have w447 : ((z326)).toInt = -1 ∨ ((z324)).toInt < (x_rd_length).toInt := by first | exact k351 | omega
                  have w448 : ((z324)).toInt ≤ (x_rd_length).toInt := by first | exact k352 | omega
                  have w449 : VFC ((z323)).toInt ((pTm G (x_rd_length).toInt (pPs G (x_rd_length).toInt 1) (x_rd_at).toInt (x_rd_variables).toInt vf)).2.2.2 (f328) (f330) ((z329)).toInt := (by rw [pq4294]; exact k353)
                  exact W.iret (v := r82) hx hb hr (fun t ht hW => ⟨⟨r82, (z321, z322, z323, z324, z325, z326, z327, f328, z329, f330, f331, f357, f355), rfl, ⟨w430, w431, w432, hf328, w433, hf331, hf357, hf355, w434, w435, w436, w437, w438, w439, w440, w441, w442, w443, w444, w445, w446, w447, w448, w449⟩, by rw [ht]; exact hP, hD⟩, hS.F ht⟩) hS.2.2 dX5_readPart_178
              · have kc315 := (cv_eq (rfl : (x113).toInt = (x113).toInt) (by decide : (3 : Int32).toInt = 3)).mp c315
                obtain rfl : gh127 = 0 := by omega
                have pv9 : (pTm G (x_rd_length).toInt (pPs G (x_rd_length).toInt 1) (x_rd_at).toInt (x_rd_variables).toInt vf) = (2, tkN G (x_rd_length).toInt (x123).toInt, (x122).toInt, gh128) := klp129_19.symm.trans (pLo_many (by omega))
                have pq4501 : ((pTm G (x_rd_length).toInt (pPs G (x_rd_length).toInt 1) (x_rd_at).toInt (x_rd_variables).toInt vf)).1 = 2 := by rw [pv9]
                have pq4502 : ((pTm G (x_rd_length).toInt (pPs G (x_rd_length).toInt 1) (x_rd_at).toInt (x_rd_variables).toInt vf)).2.1 = tkN G (x_rd_length).toInt (x123).toInt := by rw [pv9]
                have pq4503 : ((pTm G (x_rd_length).toInt (pPs G (x_rd_length).toInt 1) (x_rd_at).toInt (x_rd_variables).toInt vf)).2.2.1 = (x122).toInt := by rw [pv9]
                have pq4504 : ((pTm G (x_rd_length).toInt (pPs G (x_rd_length).toInt 1) (x_rd_at).toInt (x_rd_variables).toInt vf)).2.2.2 = gh128 := by rw [pv9]
                refine lv_aload_n hx hb dX5_readPart_128 rfl (lv_at hl 0 rfl) ?_
                refine lv_iconst (v := 2) hx hb dX5_readPart_129 (by decide) ?_
                obtain ⟨vq451, evq451⟩ := mq31_27 (.ref h_by) (.int x_rd_length) (.ref h_td) (.ref h_kn) (.int x122) (.int z135) (.int z136) (.long z137)
                replace hP : va_P (dC, dI) cls [(h_kn, .inl (cy_kn, 8, .inl f114)), (h_ter, .inl (cy_ter, 900, .inl f115)), (h_td, .inr (5, (mo32 v_td (.ref h_nam) (.ref h_var) (.ref h_trm) (.ref h_ter) (.int x116)))), (h_nam, .inl (cy_nam, 300, .inr (.inl f117))), (h_var, .inl (cy_var, 300, .inl f118)), (h_trm, .inl (cy_trm, 300, .inl f119)), (h_rd, .inr (4, (mo27 vq451 (.int x120) (.int x121) (.int z134)))), (h_by, .inl (cy_by, 600, .inl f_by))] H := by rw [evq451]; exact hP
                replace hD : va_D A [(h_kn, .inl (cy_kn, 8, .inl f114)), (h_ter, .inl (cy_ter, 900, .inl f115)), (h_td, .inr (5, (mo32 v_td (.ref h_nam) (.ref h_var) (.ref h_trm) (.ref h_ter) (.int x116)))), (h_nam, .inl (cy_nam, 300, .inr (.inl f117))), (h_var, .inl (cy_var, 300, .inl f118)), (h_trm, .inl (cy_trm, 300, .inl f119)), (h_rd, .inr (4, (mo27 vq451 (.int x120) (.int x121) (.int z134)))), (h_by, .inl (cy_by, 600, .inl f_by))] := by rw [evq451]; exact hD
                have cst2 : (2 : Int32).toInt = 2 := by decide
                have hPc := hP.sub (ws' := [(h_rd, .inr (4, (mo27 vq451 (.int x120) (.int x121) (.int z134))))]) [6] rfl
                have hDc := hD.sub (ws' := [(h_rd, .inr (4, (mo27 vq451 (.int x120) (.int x121) (.int z134))))]) [6] (by decide) rfl
                have hKc := hK.sub (tys' := []) [] rfl
                have hFc := va_free (wc := [(h_rd, .inr (4, (mo27 vq451 (.int x120) (.int x121) (.int z134))))]) hD hS hA [6] rfl
                refine va_callv (va_runV (As := [.int 2]) (rest := []) ⟨hx, hb, hml, hown, hts⟩ (c_X5_blame l dC dI H.size h_rd vq451 x120 x121 z134 2 (by first | exact k138 | omega)) (cwV 1 hts (gv hT w_m_X5_56 w_instanceMethod_X5_blame ws_sel_X5_blame w_ini_X5 w_code_X5_blame) rfl rfl rfl (by decide +kernel) ⟨(Nat.le_of_ble_eq_true rfl), (Nat.le_of_ble_eq_true rfl)⟩) ⟨pre_blind, va_recv hK hP (ci := 4) (q0 := 6) rfl rfl, pre_of hPc hKc hDc hN⟩ rfl rfl hl.1 rfl (lv_room (Nat.le_of_ble_eq_true rfl)) dX5_readPart_130 ⟨(Nat.le_of_ble_eq_true rfl), (Nat.le_of_ble_eq_true rfl)⟩) hS (fun q _ h => hFc q h) hFc (fun u t H locs ht hvm hq hB hz1 hk1 hS9 => ?_)
                obtain ⟨z453, z454⟩ := u
                obtain ⟨hP1, hD1⟩ := hB
                rw [ht] at hP1
                obtain ⟨hP9, hD9⟩ := va_join (wr := [(h_kn, .inl (cy_kn, 8, .inl f114)), (h_ter, .inl (cy_ter, 900, .inl f115)), (h_td, .inr (5, (mo32 v_td (.ref h_nam) (.ref h_var) (.ref h_trm) (.ref h_ter) (.int x116)))), (h_nam, .inl (cy_nam, 300, .inr (.inl f117))), (h_var, .inl (cy_var, 300, .inl f118)), (h_trm, .inl (cy_trm, 300, .inl f119)), (h_by, .inl (cy_by, 600, .inl f_by))]) (w1 := [(h_rd, .inr (4, (mo27 vq451 (.int z453) (.int z454) (.int z134))))]) hP hD [6] [0, 1, 2, 3, 4, 5, 7] rfl rfl (by decide) (by decide) hk1 hFc hP1 hD1
                clear hP hD hS hPc hDc hKc hFc hP1 hD1 hk1 hz1 ht hvm
                have hP : va_P (dC, dI) cls [(h_kn, .inl (cy_kn, 8, .inl f114)), (h_ter, .inl (cy_ter, 900, .inl f115)), (h_td, .inr (5, (mo32 v_td (.ref h_nam) (.ref h_var) (.ref h_trm) (.ref h_ter) (.int x116)))), (h_nam, .inl (cy_nam, 300, .inr (.inl f117))), (h_var, .inl (cy_var, 300, .inl f118)), (h_trm, .inl (cy_trm, 300, .inl f119)), (h_by, .inl (cy_by, 600, .inl f_by)), (h_rd, .inr (4, (mo27 vq451 (.int z453) (.int z454) (.int z134))))] H := hP9
                have hD : va_D A [(h_kn, .inl (cy_kn, 8, .inl f114)), (h_ter, .inl (cy_ter, 900, .inl f115)), (h_td, .inr (5, (mo32 v_td (.ref h_nam) (.ref h_var) (.ref h_trm) (.ref h_ter) (.int x116)))), (h_nam, .inl (cy_nam, 300, .inr (.inl f117))), (h_var, .inl (cy_var, 300, .inl f118)), (h_trm, .inl (cy_trm, 300, .inl f119)), (h_by, .inl (cy_by, 600, .inl f_by)), (h_rd, .inr (4, (mo27 vq451 (.int z453) (.int z454) (.int z134))))] := hD9
                have hS := hS9
                clear hP9 hD9 hS9
                rw [evq451] at hP hD
                replace hP : va_P (dC, dI) cls [(h_kn, .inl (cy_kn, 8, .inl f114)), (h_ter, .inl (cy_ter, 900, .inl f115)), (h_td, .inr (5, (mo32 v_td (.ref h_nam) (.ref h_var) (.ref h_trm) (.ref h_ter) (.int x116)))), (h_nam, .inl (cy_nam, 300, .inr (.inl f117))), (h_var, .inl (cy_var, 300, .inl f118)), (h_trm, .inl (cy_trm, 300, .inl f119)), (h_by, .inl (cy_by, 600, .inl f_by)), (h_rd, .inr (4, (mo31 (.ref h_by) (.int x_rd_length) (.int z453) (.int z454) (.ref h_td) (.ref h_kn) (.int x122) (.int z134) (.int z135) (.int z136) (.long z137))))] H := hP
                replace hD : va_D A [(h_kn, .inl (cy_kn, 8, .inl f114)), (h_ter, .inl (cy_ter, 900, .inl f115)), (h_td, .inr (5, (mo32 v_td (.ref h_nam) (.ref h_var) (.ref h_trm) (.ref h_ter) (.int x116)))), (h_nam, .inl (cy_nam, 300, .inr (.inl f117))), (h_var, .inl (cy_var, 300, .inl f118)), (h_trm, .inl (cy_trm, 300, .inl f119)), (h_by, .inl (cy_by, 600, .inl f_by)), (h_rd, .inr (4, (mo31 (.ref h_by) (.int x_rd_length) (.int z453) (.int z454) (.ref h_td) (.ref h_kn) (.int x122) (.int z134) (.int z135) (.int z136) (.long z137))))] := hD
                clear evq451 
                obtain ⟨k455, k456⟩ := hq
                replace k455 : ((z453)).toInt = ((2 : Int32)).toInt := k455
                replace k456 : ((z454)).toInt = ((z134)).toInt := k456
                refine lv_goto (tgt := 170) hx hb dX5_readPart_133 (by decide) ?_
                refine lv_aload_n hx hb dX5_readPart_170 rfl (lv_at hl 0 rfl) ?_
                refine va_get (D := (dC, dI)) (ci := 4) (v := .int z453) (C := RX5) (T := TX5) (N := 11) hx hb hw iwX5 hown hK hP 7 rfl rfl 2 (by decide) (hw _ w_f_X5_34) (fun _ h9 => h9) rfl dX5_readPart_171 ?_
                refine lv_if_eq (tgt := 179) hx hb dX5_readPart_174 (by decide) (fun c457 => False.elim (by have kc457 := (cv_eq (rfl : (z453).toInt = (z453).toInt) (by decide : (0 : Int32).toInt = 0)).mp c457; omega)) (fun _ => ?_)
                refine lv_iload_n hx hb dX5_readPart_177 rfl (lv_at hl 3 rfl) ?_
                replace hP : va_P (dC, dI) cls [(h_rd, .inr (4, (mo31 (.ref h_by) (.int x_rd_length) (.int z453) (.int z454) (.ref h_td) (.ref h_kn) (.int x122) (.int z134) (.int z135) (.int z136) (.long z137)))), (h_by, .inl (cy_by, 600, .inl f_by)), (h_kn, .inl (cy_kn, 8, .inl f114)), (h_td, .inr (5, (mo32 v_td (.ref h_nam) (.ref h_var) (.ref h_trm) (.ref h_ter) (.int x116)))), (h_nam, .inl (cy_nam, 300, .inr (.inl f117))), (h_var, .inl (cy_var, 300, .inl f118)), (h_trm, .inl (cy_trm, 300, .inl f119)), (h_ter, .inl (cy_ter, 900, .inl f115))] H := hP.sub [7, 6, 0, 2, 3, 4, 5, 1] rfl
                replace hD : va_D A [(h_rd, .inr (4, (mo31 (.ref h_by) (.int x_rd_length) (.int z453) (.int z454) (.ref h_td) (.ref h_kn) (.int x122) (.int z134) (.int z135) (.int z136) (.long z137)))), (h_by, .inl (cy_by, 600, .inl f_by)), (h_kn, .inl (cy_kn, 8, .inl f114)), (h_td, .inr (5, (mo32 v_td (.ref h_nam) (.ref h_var) (.ref h_trm) (.ref h_ter) (.int x116)))), (h_nam, .inl (cy_nam, 300, .inr (.inl f117))), (h_var, .inl (cy_var, 300, .inl f118)), (h_trm, .inl (cy_trm, 300, .inl f119)), (h_ter, .inl (cy_ter, 900, .inl f115))] := hD.sub [7, 6, 0, 2, 3, 4, 5, 1] (by decide) rfl
                refine W.widen (k := 0) (n := 0) (Nat.le_of_ble_eq_true rfl) (Nat.le_of_ble_eq_true rfl) ?_
                have w458 : 0 ≤ ((x122)).toInt ∧ ((x122)).toInt ≤ 8 := by first | exact klp129_6 | omega
                have w459 : 0 ≤ ((z134)).toInt ∧ ((z134)).toInt ≤ 600 := by first | exact k138 | omega
                have w460 : 0 ≤ ((z135)).toInt ∧ ((z135)).toInt ≤ 600 := by first | exact k139 | omega
                have w461 : 0 ≤ ((x116)).toInt ∧ ((x116)).toInt ≤ 300 := by first | exact klp129_3 | omega
                have w462 : 0 ≤ (r82 : Int32).toInt ∧ (r82 : Int32).toInt ≤ 299 := by first | exact k88 | omega
                have w463 : ((z453)).toInt = ((pTm G (x_rd_length).toInt (pPs G (x_rd_length).toInt 1) (x_rd_at).toInt (x_rd_variables).toInt vf)).1 := by omega
                have w464 : ((z134)).toInt = ((pTm G (x_rd_length).toInt (pPs G (x_rd_length).toInt 1) (x_rd_at).toInt (x_rd_variables).toInt vf)).2.1 := by omega
                have w465 : ((x122)).toInt = ((pTm G (x_rd_length).toInt (pPs G (x_rd_length).toInt 1) (x_rd_at).toInt (x_rd_variables).toInt vf)).2.2.1 := by omega
                have w466 : (((z453)).toInt = 0 ∧ ((z454)).toInt = (x_rd_place).toInt) ∨ (¬ ((z453)).toInt = 0 ∧ ((z454)).toInt = ((z134)).toInt) := by omega
                have w467 : 2 * ((x116)).toInt ≤ ((z134)).toInt + 1 := by omega
                have w468 : ((z136)).toInt < 256 ∨ 2 * ((x116)).toInt ≤ ((z134)).toInt := by omega
                have w469 : (x_rd_at).toInt ≤ ((z134)).toInt := by omega
                have w470 : ((z136)).toInt = tkT G (x_rd_length).toInt ((z134)).toInt := by first | exact k142 | omega
                have w471 : ((z136)).toInt = -1 ∨ ((z135)).toInt = tkX G (x_rd_length).toInt ((z134)).toInt := by first | exact k143 | omega
                have w472 : ¬ ((z136)).toInt = 257 ∨ ((z137)).toInt = G ((z134)).toInt := by first | exact k144 | omega
                have w473 : -1 ≤ ((z136)).toInt ∧ ((z136)).toInt ≤ 258 := by first | exact k145 | omega
                have w474 : ((z135)).toInt ≤ (x_rd_length).toInt := by first | exact k146 | omega
                have w475 : ((z136)).toInt = -1 ∨ ((z134)).toInt < (x_rd_length).toInt := by first | exact k147 | omega
                have w476 : ((z134)).toInt ≤ (x_rd_length).toInt := by first | exact k148 | omega
                have w477 : VFC ((x122)).toInt ((pTm G (x_rd_length).toInt (pPs G (x_rd_length).toInt 1) (x_rd_at).toInt (x_rd_variables).toInt vf)).2.2.2 (f114) (f117) ((x116)).toInt := (by rw [pq4504]; exact klp129_20)
                exact W.iret (v := r82) hx hb hr (fun t ht hW => ⟨⟨r82, (z453, z454, x122, z134, z135, z136, z137, f114, x116, f117, f118, f119, f115), rfl, ⟨w458, w459, w460, hf114, w461, hf118, hf119, hf115, w462, w463, w464, w465, w466, w467, w468, w469, w470, w471, w472, w473, w474, w475, w476, w477⟩, by rw [ht]; exact hP, hD⟩, hS.F ht⟩) hS.2.2 dX5_readPart_178
            · have kc314 := (not_congr (cv_eq (rfl : (z136).toInt = (z136).toInt) (by decide : (257 : Int32).toInt = 257))).mp c314
              have pv9 : (pTm G (x_rd_length).toInt (pPs G (x_rd_length).toInt 1) (x_rd_at).toInt (x_rd_variables).toInt vf) = (1, tkN G (x_rd_length).toInt (x123).toInt, (x122).toInt, gh128) := klp129_19.symm.trans (pLo_bad (by omega) (by omega))
              have pq4781 : ((pTm G (x_rd_length).toInt (pPs G (x_rd_length).toInt 1) (x_rd_at).toInt (x_rd_variables).toInt vf)).1 = 1 := by rw [pv9]
              have pq4782 : ((pTm G (x_rd_length).toInt (pPs G (x_rd_length).toInt 1) (x_rd_at).toInt (x_rd_variables).toInt vf)).2.1 = tkN G (x_rd_length).toInt (x123).toInt := by rw [pv9]
              have pq4783 : ((pTm G (x_rd_length).toInt (pPs G (x_rd_length).toInt 1) (x_rd_at).toInt (x_rd_variables).toInt vf)).2.2.1 = (x122).toInt := by rw [pv9]
              have pq4784 : ((pTm G (x_rd_length).toInt (pPs G (x_rd_length).toInt 1) (x_rd_at).toInt (x_rd_variables).toInt vf)).2.2.2 = gh128 := by rw [pv9]
              refine lv_aload_n hx hb dX5_readPart_114 rfl (lv_at hl 0 rfl) ?_
              refine lv_iconst (v := 1) hx hb dX5_readPart_115 (by decide) ?_
              obtain ⟨vq479, evq479⟩ := mq31_27 (.ref h_by) (.int x_rd_length) (.ref h_td) (.ref h_kn) (.int x122) (.int z135) (.int z136) (.long z137)
              replace hP : va_P (dC, dI) cls [(h_kn, .inl (cy_kn, 8, .inl f114)), (h_ter, .inl (cy_ter, 900, .inl f115)), (h_td, .inr (5, (mo32 v_td (.ref h_nam) (.ref h_var) (.ref h_trm) (.ref h_ter) (.int x116)))), (h_nam, .inl (cy_nam, 300, .inr (.inl f117))), (h_var, .inl (cy_var, 300, .inl f118)), (h_trm, .inl (cy_trm, 300, .inl f119)), (h_rd, .inr (4, (mo27 vq479 (.int x120) (.int x121) (.int z134)))), (h_by, .inl (cy_by, 600, .inl f_by))] H := by rw [evq479]; exact hP
              replace hD : va_D A [(h_kn, .inl (cy_kn, 8, .inl f114)), (h_ter, .inl (cy_ter, 900, .inl f115)), (h_td, .inr (5, (mo32 v_td (.ref h_nam) (.ref h_var) (.ref h_trm) (.ref h_ter) (.int x116)))), (h_nam, .inl (cy_nam, 300, .inr (.inl f117))), (h_var, .inl (cy_var, 300, .inl f118)), (h_trm, .inl (cy_trm, 300, .inl f119)), (h_rd, .inr (4, (mo27 vq479 (.int x120) (.int x121) (.int z134)))), (h_by, .inl (cy_by, 600, .inl f_by))] := by rw [evq479]; exact hD
              have cst1 : (1 : Int32).toInt = 1 := by decide
              have hPc := hP.sub (ws' := [(h_rd, .inr (4, (mo27 vq479 (.int x120) (.int x121) (.int z134))))]) [6] rfl
              have hDc := hD.sub (ws' := [(h_rd, .inr (4, (mo27 vq479 (.int x120) (.int x121) (.int z134))))]) [6] (by decide) rfl
              have hKc := hK.sub (tys' := []) [] rfl
              have hFc := va_free (wc := [(h_rd, .inr (4, (mo27 vq479 (.int x120) (.int x121) (.int z134))))]) hD hS hA [6] rfl
              refine va_callv (va_runV (As := [.int 1]) (rest := []) ⟨hx, hb, hml, hown, hts⟩ (c_X5_blame l dC dI H.size h_rd vq479 x120 x121 z134 1 (by first | exact k138 | omega)) (cwV 1 hts (gv hT w_m_X5_56 w_instanceMethod_X5_blame ws_sel_X5_blame w_ini_X5 w_code_X5_blame) rfl rfl rfl (by decide +kernel) ⟨(Nat.le_of_ble_eq_true rfl), (Nat.le_of_ble_eq_true rfl)⟩) ⟨pre_blind, va_recv hK hP (ci := 4) (q0 := 6) rfl rfl, pre_of hPc hKc hDc hN⟩ rfl rfl hl.1 rfl (lv_room (Nat.le_of_ble_eq_true rfl)) dX5_readPart_116 ⟨(Nat.le_of_ble_eq_true rfl), (Nat.le_of_ble_eq_true rfl)⟩) hS (fun q _ h => hFc q h) hFc (fun u t H locs ht hvm hq hB hz1 hk1 hS9 => ?_)
              obtain ⟨z481, z482⟩ := u
              obtain ⟨hP1, hD1⟩ := hB
              rw [ht] at hP1
              obtain ⟨hP9, hD9⟩ := va_join (wr := [(h_kn, .inl (cy_kn, 8, .inl f114)), (h_ter, .inl (cy_ter, 900, .inl f115)), (h_td, .inr (5, (mo32 v_td (.ref h_nam) (.ref h_var) (.ref h_trm) (.ref h_ter) (.int x116)))), (h_nam, .inl (cy_nam, 300, .inr (.inl f117))), (h_var, .inl (cy_var, 300, .inl f118)), (h_trm, .inl (cy_trm, 300, .inl f119)), (h_by, .inl (cy_by, 600, .inl f_by))]) (w1 := [(h_rd, .inr (4, (mo27 vq479 (.int z481) (.int z482) (.int z134))))]) hP hD [6] [0, 1, 2, 3, 4, 5, 7] rfl rfl (by decide) (by decide) hk1 hFc hP1 hD1
              clear hP hD hS hPc hDc hKc hFc hP1 hD1 hk1 hz1 ht hvm
              have hP : va_P (dC, dI) cls [(h_kn, .inl (cy_kn, 8, .inl f114)), (h_ter, .inl (cy_ter, 900, .inl f115)), (h_td, .inr (5, (mo32 v_td (.ref h_nam) (.ref h_var) (.ref h_trm) (.ref h_ter) (.int x116)))), (h_nam, .inl (cy_nam, 300, .inr (.inl f117))), (h_var, .inl (cy_var, 300, .inl f118)), (h_trm, .inl (cy_trm, 300, .inl f119)), (h_by, .inl (cy_by, 600, .inl f_by)), (h_rd, .inr (4, (mo27 vq479 (.int z481) (.int z482) (.int z134))))] H := hP9
              have hD : va_D A [(h_kn, .inl (cy_kn, 8, .inl f114)), (h_ter, .inl (cy_ter, 900, .inl f115)), (h_td, .inr (5, (mo32 v_td (.ref h_nam) (.ref h_var) (.ref h_trm) (.ref h_ter) (.int x116)))), (h_nam, .inl (cy_nam, 300, .inr (.inl f117))), (h_var, .inl (cy_var, 300, .inl f118)), (h_trm, .inl (cy_trm, 300, .inl f119)), (h_by, .inl (cy_by, 600, .inl f_by)), (h_rd, .inr (4, (mo27 vq479 (.int z481) (.int z482) (.int z134))))] := hD9
              have hS := hS9
              clear hP9 hD9 hS9
              rw [evq479] at hP hD
              replace hP : va_P (dC, dI) cls [(h_kn, .inl (cy_kn, 8, .inl f114)), (h_ter, .inl (cy_ter, 900, .inl f115)), (h_td, .inr (5, (mo32 v_td (.ref h_nam) (.ref h_var) (.ref h_trm) (.ref h_ter) (.int x116)))), (h_nam, .inl (cy_nam, 300, .inr (.inl f117))), (h_var, .inl (cy_var, 300, .inl f118)), (h_trm, .inl (cy_trm, 300, .inl f119)), (h_by, .inl (cy_by, 600, .inl f_by)), (h_rd, .inr (4, (mo31 (.ref h_by) (.int x_rd_length) (.int z481) (.int z482) (.ref h_td) (.ref h_kn) (.int x122) (.int z134) (.int z135) (.int z136) (.long z137))))] H := hP
              replace hD : va_D A [(h_kn, .inl (cy_kn, 8, .inl f114)), (h_ter, .inl (cy_ter, 900, .inl f115)), (h_td, .inr (5, (mo32 v_td (.ref h_nam) (.ref h_var) (.ref h_trm) (.ref h_ter) (.int x116)))), (h_nam, .inl (cy_nam, 300, .inr (.inl f117))), (h_var, .inl (cy_var, 300, .inl f118)), (h_trm, .inl (cy_trm, 300, .inl f119)), (h_by, .inl (cy_by, 600, .inl f_by)), (h_rd, .inr (4, (mo31 (.ref h_by) (.int x_rd_length) (.int z481) (.int z482) (.ref h_td) (.ref h_kn) (.int x122) (.int z134) (.int z135) (.int z136) (.long z137))))] := hD
              clear evq479 
              obtain ⟨k483, k484⟩ := hq
              replace k483 : ((z481)).toInt = ((1 : Int32)).toInt := k483
              replace k484 : ((z482)).toInt = ((z134)).toInt := k484
              refine lv_goto (tgt := 170) hx hb dX5_readPart_119 (by decide) ?_
              refine lv_aload_n hx hb dX5_readPart_170 rfl (lv_at hl 0 rfl) ?_
              refine va_get (D := (dC, dI)) (ci := 4) (v := .int z481) (C := RX5) (T := TX5) (N := 11) hx hb hw iwX5 hown hK hP 7 rfl rfl 2 (by decide) (hw _ w_f_X5_34) (fun _ h9 => h9) rfl dX5_readPart_171 ?_
              refine lv_if_eq (tgt := 179) hx hb dX5_readPart_174 (by decide) (fun c485 => False.elim (by have kc485 := (cv_eq (rfl : (z481).toInt = (z481).toInt) (by decide : (0 : Int32).toInt = 0)).mp c485; omega)) (fun _ => ?_)
              refine lv_iload_n hx hb dX5_readPart_177 rfl (lv_at hl 3 rfl) ?_
              replace hP : va_P (dC, dI) cls [(h_rd, .inr (4, (mo31 (.ref h_by) (.int x_rd_length) (.int z481) (.int z482) (.ref h_td) (.ref h_kn) (.int x122) (.int z134) (.int z135) (.int z136) (.long z137)))), (h_by, .inl (cy_by, 600, .inl f_by)), (h_kn, .inl (cy_kn, 8, .inl f114)), (h_td, .inr (5, (mo32 v_td (.ref h_nam) (.ref h_var) (.ref h_trm) (.ref h_ter) (.int x116)))), (h_nam, .inl (cy_nam, 300, .inr (.inl f117))), (h_var, .inl (cy_var, 300, .inl f118)), (h_trm, .inl (cy_trm, 300, .inl f119)), (h_ter, .inl (cy_ter, 900, .inl f115))] H := hP.sub [7, 6, 0, 2, 3, 4, 5, 1] rfl
              replace hD : va_D A [(h_rd, .inr (4, (mo31 (.ref h_by) (.int x_rd_length) (.int z481) (.int z482) (.ref h_td) (.ref h_kn) (.int x122) (.int z134) (.int z135) (.int z136) (.long z137)))), (h_by, .inl (cy_by, 600, .inl f_by)), (h_kn, .inl (cy_kn, 8, .inl f114)), (h_td, .inr (5, (mo32 v_td (.ref h_nam) (.ref h_var) (.ref h_trm) (.ref h_ter) (.int x116)))), (h_nam, .inl (cy_nam, 300, .inr (.inl f117))), (h_var, .inl (cy_var, 300, .inl f118)), (h_trm, .inl (cy_trm, 300, .inl f119)), (h_ter, .inl (cy_ter, 900, .inl f115))] := hD.sub [7, 6, 0, 2, 3, 4, 5, 1] (by decide) rfl
              refine W.widen (k := 0) (n := 0) (Nat.le_of_ble_eq_true rfl) (Nat.le_of_ble_eq_true rfl) ?_
              have w486 : 0 ≤ ((x122)).toInt ∧ ((x122)).toInt ≤ 8 := by first | exact klp129_6 | omega
              have w487 : 0 ≤ ((z134)).toInt ∧ ((z134)).toInt ≤ 600 := by first | exact k138 | omega
              have w488 : 0 ≤ ((z135)).toInt ∧ ((z135)).toInt ≤ 600 := by first | exact k139 | omega
              have w489 : 0 ≤ ((x116)).toInt ∧ ((x116)).toInt ≤ 300 := by first | exact klp129_3 | omega
              have w490 : 0 ≤ (r82 : Int32).toInt ∧ (r82 : Int32).toInt ≤ 299 := by first | exact k88 | omega
              have w491 : ((z481)).toInt = ((pTm G (x_rd_length).toInt (pPs G (x_rd_length).toInt 1) (x_rd_at).toInt (x_rd_variables).toInt vf)).1 := by omega
              have w492 : ((z134)).toInt = ((pTm G (x_rd_length).toInt (pPs G (x_rd_length).toInt 1) (x_rd_at).toInt (x_rd_variables).toInt vf)).2.1 := by omega
              have w493 : ((x122)).toInt = ((pTm G (x_rd_length).toInt (pPs G (x_rd_length).toInt 1) (x_rd_at).toInt (x_rd_variables).toInt vf)).2.2.1 := by omega
              have w494 : (((z481)).toInt = 0 ∧ ((z482)).toInt = (x_rd_place).toInt) ∨ (¬ ((z481)).toInt = 0 ∧ ((z482)).toInt = ((z134)).toInt) := by omega
              have w495 : 2 * ((x116)).toInt ≤ ((z134)).toInt + 1 := by omega
              have w496 : ((z136)).toInt < 256 ∨ 2 * ((x116)).toInt ≤ ((z134)).toInt := by omega
              have w497 : (x_rd_at).toInt ≤ ((z134)).toInt := by omega
              have w498 : ((z136)).toInt = tkT G (x_rd_length).toInt ((z134)).toInt := by first | exact k142 | omega
              have w499 : ((z136)).toInt = -1 ∨ ((z135)).toInt = tkX G (x_rd_length).toInt ((z134)).toInt := by first | exact k143 | omega
              have w500 : ¬ ((z136)).toInt = 257 ∨ ((z137)).toInt = G ((z134)).toInt := by first | exact k144 | omega
              have w501 : -1 ≤ ((z136)).toInt ∧ ((z136)).toInt ≤ 258 := by first | exact k145 | omega
              have w502 : ((z135)).toInt ≤ (x_rd_length).toInt := by first | exact k146 | omega
              have w503 : ((z136)).toInt = -1 ∨ ((z134)).toInt < (x_rd_length).toInt := by first | exact k147 | omega
              have w504 : ((z134)).toInt ≤ (x_rd_length).toInt := by first | exact k148 | omega
              have w505 : VFC ((x122)).toInt ((pTm G (x_rd_length).toInt (pPs G (x_rd_length).toInt 1) (x_rd_at).toInt (x_rd_variables).toInt vf)).2.2.2 (f114) (f117) ((x116)).toInt := (by rw [pq4784]; exact klp129_20)
              exact W.iret (v := r82) hx hb hr (fun t ht hW => ⟨⟨r82, (z481, z482, x122, z134, z135, z136, z137, f114, x116, f117, f118, f119, f115), rfl, ⟨w486, w487, w488, hf114, w489, hf118, hf119, hf115, w490, w491, w492, w493, w494, w495, w496, w497, w498, w499, w500, w501, w502, w503, w504, w505⟩, by rw [ht]; exact hP, hD⟩, hS.F ht⟩) hS.2.2 dX5_readPart_178
      have cst0 : (0 : Int32).toInt = 0 := by decide
      have cst3 : (3 : Int32).toInt = 3 := by decide
      exact lp129 _ (0) (f_kn) (f_ter) (z83) (f84) (f85) (f86) (x_rd_fault) (x_rd_place) (x_rd_variables) (z96) (z97) (z98) (z99) (3) (vf) _ _ _ (by decide) hf_kn hf_ter (by first | exact k87 | omega) hf85 hf86 (by first | exact hx_rd_variables | omega) (by first | exact k100 | omega) (by first | exact k101 | omega) (by first | exact k104 | omega) (by omega) (by omega) (by omega) (by omega) (by first | exact k108 | omega) (by omega) (by omega) (by omega) (by omega) lo0 vf92 (Nat.le_refl _) hP hD hS (lv_sub hl [3, 4, 2, 1, 0] rfl)
    · have kc112 := (not_congr (cv_eq (rfl : (z98).toInt = (z98).toInt) (by decide : (40 : Int32).toInt = 40))).mp c112
      have pv9 : (pTm G (x_rd_length).toInt (pPs G (x_rd_length).toInt 1) (x_rd_at).toInt (x_rd_variables).toInt vf) = (0, tkN G (x_rd_length).toInt (x_rd_at).toInt, (x_rd_variables).toInt, vf) := (pTm_name (by omega)).trans (pPs_none (by omega))
      have pq5061 : ((pTm G (x_rd_length).toInt (pPs G (x_rd_length).toInt 1) (x_rd_at).toInt (x_rd_variables).toInt vf)).1 = 0 := by rw [pv9]
      have pq5062 : ((pTm G (x_rd_length).toInt (pPs G (x_rd_length).toInt 1) (x_rd_at).toInt (x_rd_variables).toInt vf)).2.1 = tkN G (x_rd_length).toInt (x_rd_at).toInt := by rw [pv9]
      have pq5063 : ((pTm G (x_rd_length).toInt (pPs G (x_rd_length).toInt 1) (x_rd_at).toInt (x_rd_variables).toInt vf)).2.2.1 = (x_rd_variables).toInt := by rw [pv9]
      have pq5064 : ((pTm G (x_rd_length).toInt (pPs G (x_rd_length).toInt 1) (x_rd_at).toInt (x_rd_variables).toInt vf)).2.2.2 = vf := by rw [pv9]
      refine lv_iload_n hx hb dX5_readPart_66 rfl (lv_at hl 0 rfl) ?_
      replace hP : va_P (dC, dI) cls [(h_rd, .inr (4, (mo31 (.ref h_by) (.int x_rd_length) (.int x_rd_fault) (.int x_rd_place) (.ref h_td) (.ref h_kn) (.int x_rd_variables) (.int z96) (.int z97) (.int z98) (.long z99)))), (h_by, .inl (cy_by, 600, .inl f_by)), (h_kn, .inl (cy_kn, 8, .inl f_kn)), (h_td, .inr (5, (mo32 v_td (.ref h_nam) (.ref h_var) (.ref h_trm) (.ref h_ter) (.int z83)))), (h_nam, .inl (cy_nam, 300, .inr (.inl f84))), (h_var, .inl (cy_var, 300, .inl f85)), (h_trm, .inl (cy_trm, 300, .inl f86)), (h_ter, .inl (cy_ter, 900, .inl f_ter))] H := hP.sub [6, 7, 0, 2, 3, 4, 5, 1] rfl
      replace hD : va_D A [(h_rd, .inr (4, (mo31 (.ref h_by) (.int x_rd_length) (.int x_rd_fault) (.int x_rd_place) (.ref h_td) (.ref h_kn) (.int x_rd_variables) (.int z96) (.int z97) (.int z98) (.long z99)))), (h_by, .inl (cy_by, 600, .inl f_by)), (h_kn, .inl (cy_kn, 8, .inl f_kn)), (h_td, .inr (5, (mo32 v_td (.ref h_nam) (.ref h_var) (.ref h_trm) (.ref h_ter) (.int z83)))), (h_nam, .inl (cy_nam, 300, .inr (.inl f84))), (h_var, .inl (cy_var, 300, .inl f85)), (h_trm, .inl (cy_trm, 300, .inl f86)), (h_ter, .inl (cy_ter, 900, .inl f_ter))] := hD.sub [6, 7, 0, 2, 3, 4, 5, 1] (by decide) rfl
      refine W.widen (k := 0) (n := 0) (Nat.le_of_ble_eq_true rfl) (Nat.le_of_ble_eq_true rfl) ?_
      have w507 : 0 ≤ ((x_rd_variables)).toInt ∧ ((x_rd_variables)).toInt ≤ 8 := by first | exact hx_rd_variables | omega
      have w508 : 0 ≤ ((z96)).toInt ∧ ((z96)).toInt ≤ 600 := by first | exact k100 | omega
      have w509 : 0 ≤ ((z97)).toInt ∧ ((z97)).toInt ≤ 600 := by first | exact k101 | omega
      have w510 : 0 ≤ ((z83)).toInt ∧ ((z83)).toInt ≤ 300 := by first | exact k87 | omega
      have w511 : 0 ≤ (r82 : Int32).toInt ∧ (r82 : Int32).toInt ≤ 299 := by first | exact k88 | omega
      have w512 : ((x_rd_fault)).toInt = ((pTm G (x_rd_length).toInt (pPs G (x_rd_length).toInt 1) (x_rd_at).toInt (x_rd_variables).toInt vf)).1 := by omega
      have w513 : ((z96)).toInt = ((pTm G (x_rd_length).toInt (pPs G (x_rd_length).toInt 1) (x_rd_at).toInt (x_rd_variables).toInt vf)).2.1 := by omega
      have w514 : ((x_rd_variables)).toInt = ((pTm G (x_rd_length).toInt (pPs G (x_rd_length).toInt 1) (x_rd_at).toInt (x_rd_variables).toInt vf)).2.2.1 := by omega
      have w515 : (((x_rd_fault)).toInt = 0 ∧ ((x_rd_place)).toInt = (x_rd_place).toInt) ∨ (¬ ((x_rd_fault)).toInt = 0 ∧ ((x_rd_place)).toInt = ((z96)).toInt) := by omega
      have w516 : 2 * ((z83)).toInt ≤ ((z96)).toInt + 1 := by omega
      have w517 : ((z98)).toInt < 256 ∨ 2 * ((z83)).toInt ≤ ((z96)).toInt := by omega
      have w518 : (x_rd_at).toInt ≤ ((z96)).toInt := by omega
      have w519 : ((z98)).toInt = tkT G (x_rd_length).toInt ((z96)).toInt := by first | exact k104 | omega
      have w520 : ((z98)).toInt = -1 ∨ ((z97)).toInt = tkX G (x_rd_length).toInt ((z96)).toInt := by first | exact k105 | omega
      have w521 : ¬ ((z98)).toInt = 257 ∨ ((z99)).toInt = G ((z96)).toInt := by first | exact k106 | omega
      have w522 : -1 ≤ ((z98)).toInt ∧ ((z98)).toInt ≤ 258 := by first | exact k107 | omega
      have w523 : ((z97)).toInt ≤ (x_rd_length).toInt := by first | exact k108 | omega
      have w524 : ((z98)).toInt = -1 ∨ ((z96)).toInt < (x_rd_length).toInt := by first | exact k109 | omega
      have w525 : ((z96)).toInt ≤ (x_rd_length).toInt := by first | exact k110 | omega
      have w526 : VFC ((x_rd_variables)).toInt ((pTm G (x_rd_length).toInt (pPs G (x_rd_length).toInt 1) (x_rd_at).toInt (x_rd_variables).toInt vf)).2.2.2 (f_kn) (f84) ((z83)).toInt := (by rw [pq5064]; exact vf92)
      exact W.iret (v := r82) hx hb hr (fun t ht hW => ⟨⟨r82, (x_rd_fault, x_rd_place, x_rd_variables, z96, z97, z98, z99, f_kn, z83, f84, f85, f86, f_ter), rfl, ⟨w507, w508, w509, hf_kn, w510, hf85, hf86, hf_ter, w511, w512, w513, w514, w515, w516, w517, w518, w519, w520, w521, w522, w523, w524, w525, w526⟩, by rw [ht]; exact hP, hD⟩, hS.F ht⟩) hS.2.2 dX5_readPart_67

set_option maxHeartbeats 8000000 in
set_option maxRecDepth 100000 in
theorem c_X5_readPart_4 (l : Launch) (dC : Nat → ClassId) (dI : Nat → Nat → Nat) (sz : Nat) (h_rd : Nat) (h_by : Nat) (h_kn : Nat) (h_td : Nat) (h_nam : Nat) (h_var : Nat) (h_trm : Nat) (h_ter : Nat) (x_rd_length : Int32) (x_rd_fault : Int32) (x_rd_place : Int32) (x_rd_variables : Int32) (x_rd_at : Int32) (x_rd_behind : Int32) (x_rd_token : Int32) (x_rd_letters : Int64) (cy_by : ClassId) (f_by : Nat → Int32) (cy_kn : ClassId) (f_kn : Nat → Int32) (v_td : Nat → Value) (x_td_parts : Int32) (cy_nam : ClassId) (f_nam : Nat → Int64) (cy_var : ClassId) (f_var : Nat → Int32) (cy_trm : ClassId) (f_trm : Nat → Int32) (cy_ter : ClassId) (f_ter : Nat → Int32) (G : Int → Int) (vf : Int → Int) (hx_rd_length : 0 ≤ (x_rd_length).toInt ∧ (x_rd_length).toInt ≤ 600) (hx_rd_variables : 0 ≤ (x_rd_variables).toInt ∧ (x_rd_variables).toInt ≤ 8) (hx_rd_at : 0 ≤ (x_rd_at).toInt ∧ (x_rd_at).toInt ≤ 600) (hx_rd_behind : 0 ≤ (x_rd_behind).toInt ∧ (x_rd_behind).toInt ≤ 600) (hf_by : Rg 0 255 f_by) (hf_kn : Rg 0 299 f_kn) (hx_td_parts : 0 ≤ (x_td_parts).toInt ∧ (x_td_parts).toInt ≤ 300) (hf_var : Rg (-1) 7 f_var) (hf_trm : Rg 0 3 f_trm) (hf_ter : Rg 0 299 f_ter) (q0 : (x_rd_token).toInt = tkT G (x_rd_length).toInt (x_rd_at).toInt) (q1 : (x_rd_token).toInt = 256 ∨ (x_rd_token).toInt = 257) (q2 : (x_rd_behind).toInt = tkX G (x_rd_length).toInt (x_rd_at).toInt) (q3 : ¬ (x_rd_token).toInt = 257 ∨ (x_rd_letters).toInt = G (x_rd_at).toInt) (q4 : 0 ≤ (x_rd_fault).toInt ∧ (x_rd_fault).toInt ≤ 0) (q5 : 2 * (x_td_parts).toInt ≤ (x_rd_at).toInt) (q6 : (x_rd_at).toInt < (x_rd_length).toInt) (q7 : (x_rd_behind).toInt ≤ (x_rd_length).toInt) (hn_byt : BYT G (x_rd_length).toInt f_by) (hn_vfc : VFC (x_rd_variables).toInt vf f_kn f_nam (x_td_parts).toInt) : Met l yX5_readPart (Ws yX5_readPart cX5_readPart 5 (some .int)) (({ frames := 5, cells := 0, slots := 0, locals := 173 } : Room)) (PRE (dC, dI) cls [(cy_by, .int), (cy_kn, .int), (cy_nam, .long), (cy_var, .int), (cy_trm, .int), (cy_ter, .int)] [(h_rd, .inr (4, (mo31 (.ref h_by) (.int x_rd_length) (.int x_rd_fault) (.int x_rd_place) (.ref h_td) (.ref h_kn) (.int x_rd_variables) (.int x_rd_at) (.int x_rd_behind) (.int x_rd_token) (.long x_rd_letters)))), (h_by, .inl (cy_by, 600, .inl f_by)), (h_kn, .inl (cy_kn, 8, .inl f_kn)), (h_td, .inr (5, (mo32 v_td (.ref h_nam) (.ref h_var) (.ref h_trm) (.ref h_ter) (.int x_td_parts)))), (h_nam, .inl (cy_nam, 300, .inr (.inl f_nam))), (h_var, .inl (cy_var, 300, .inl f_var)), (h_trm, .inl (cy_trm, 300, .inl f_trm)), (h_ter, .inl (cy_ter, 900, .inl f_ter))] sz [.ref h_rd, .int 4]) (va_Qi (fun (r : Int32) (u : (Int32) × (Int32) × (Int32) × (Int32) × (Int32) × (Int32) × (Int64) × (Nat → Int32) × (Int32) × (Nat → Int64) × (Nat → Int32) × (Nat → Int32) × (Nat → Int32)) => (0 ≤ (u.2.2.1).toInt ∧ (u.2.2.1).toInt ≤ 8) ∧ (0 ≤ (u.2.2.2.1).toInt ∧ (u.2.2.2.1).toInt ≤ 600) ∧ (0 ≤ (u.2.2.2.2.1).toInt ∧ (u.2.2.2.2.1).toInt ≤ 600) ∧ (Rg 0 299 u.2.2.2.2.2.2.2.1) ∧ (0 ≤ (u.2.2.2.2.2.2.2.2.1).toInt ∧ (u.2.2.2.2.2.2.2.2.1).toInt ≤ 300) ∧ (Rg (-1) 7 u.2.2.2.2.2.2.2.2.2.2.1) ∧ (Rg 0 3 u.2.2.2.2.2.2.2.2.2.2.2.1) ∧ (Rg 0 299 u.2.2.2.2.2.2.2.2.2.2.2.2) ∧ (0 ≤ r.toInt ∧ r.toInt ≤ 299) ∧ ((u.1).toInt = ((pTm G (x_rd_length).toInt (pPs G (x_rd_length).toInt 2) (x_rd_at).toInt (x_rd_variables).toInt vf)).1) ∧ ((u.2.2.2.1).toInt = ((pTm G (x_rd_length).toInt (pPs G (x_rd_length).toInt 2) (x_rd_at).toInt (x_rd_variables).toInt vf)).2.1) ∧ ((u.2.2.1).toInt = ((pTm G (x_rd_length).toInt (pPs G (x_rd_length).toInt 2) (x_rd_at).toInt (x_rd_variables).toInt vf)).2.2.1) ∧ (((u.1).toInt = 0 ∧ (u.2.1).toInt = (x_rd_place).toInt) ∨ (¬ (u.1).toInt = 0 ∧ (u.2.1).toInt = (u.2.2.2.1).toInt)) ∧ (2 * (u.2.2.2.2.2.2.2.2.1).toInt ≤ (u.2.2.2.1).toInt + 1) ∧ ((u.2.2.2.2.2.1).toInt < 256 ∨ 2 * (u.2.2.2.2.2.2.2.2.1).toInt ≤ (u.2.2.2.1).toInt) ∧ ((x_rd_at).toInt ≤ (u.2.2.2.1).toInt) ∧ ((u.2.2.2.2.2.1).toInt = tkT G (x_rd_length).toInt (u.2.2.2.1).toInt) ∧ ((u.2.2.2.2.2.1).toInt = -1 ∨ (u.2.2.2.2.1).toInt = tkX G (x_rd_length).toInt (u.2.2.2.1).toInt) ∧ (¬ (u.2.2.2.2.2.1).toInt = 257 ∨ (u.2.2.2.2.2.2.1).toInt = G (u.2.2.2.1).toInt) ∧ (-1 ≤ (u.2.2.2.2.2.1).toInt ∧ (u.2.2.2.2.2.1).toInt ≤ 258) ∧ ((u.2.2.2.2.1).toInt ≤ (x_rd_length).toInt) ∧ ((u.2.2.2.2.2.1).toInt = -1 ∨ (u.2.2.2.1).toInt < (x_rd_length).toInt) ∧ ((u.2.2.2.1).toInt ≤ (x_rd_length).toInt) ∧ (VFC (u.2.2.1).toInt ((pTm G (x_rd_length).toInt (pPs G (x_rd_length).toInt 2) (x_rd_at).toInt (x_rd_variables).toInt vf)).2.2.2 u.2.2.2.2.2.2.2.1 u.2.2.2.2.2.2.2.2.2.1 (u.2.2.2.2.2.2.2.2.1).toInt)) (fun (u : (Int32) × (Int32) × (Int32) × (Int32) × (Int32) × (Int32) × (Int64) × (Nat → Int32) × (Int32) × (Nat → Int64) × (Nat → Int32) × (Nat → Int32) × (Nat → Int32)) (t : State) => va_P (dC, dI) cls [(h_rd, .inr (4, (mo31 (.ref h_by) (.int x_rd_length) (.int u.1) (.int u.2.1) (.ref h_td) (.ref h_kn) (.int u.2.2.1) (.int u.2.2.2.1) (.int u.2.2.2.2.1) (.int u.2.2.2.2.2.1) (.long u.2.2.2.2.2.2.1)))), (h_by, .inl (cy_by, 600, .inl f_by)), (h_kn, .inl (cy_kn, 8, .inl u.2.2.2.2.2.2.2.1)), (h_td, .inr (5, (mo32 v_td (.ref h_nam) (.ref h_var) (.ref h_trm) (.ref h_ter) (.int u.2.2.2.2.2.2.2.2.1)))), (h_nam, .inl (cy_nam, 300, .inr (.inl u.2.2.2.2.2.2.2.2.2.1))), (h_var, .inl (cy_var, 300, .inl u.2.2.2.2.2.2.2.2.2.2.1)), (h_trm, .inl (cy_trm, 300, .inl u.2.2.2.2.2.2.2.2.2.2.2.1)), (h_ter, .inl (cy_ter, 900, .inl u.2.2.2.2.2.2.2.2.2.2.2.2))] t.heap ∧ va_D (va_A [(h_rd, .inr (4, (mo31 (.ref h_by) (.int x_rd_length) (.int x_rd_fault) (.int x_rd_place) (.ref h_td) (.ref h_kn) (.int x_rd_variables) (.int x_rd_at) (.int x_rd_behind) (.int x_rd_token) (.long x_rd_letters)))), (h_by, .inl (cy_by, 600, .inl f_by)), (h_kn, .inl (cy_kn, 8, .inl f_kn)), (h_td, .inr (5, (mo32 v_td (.ref h_nam) (.ref h_var) (.ref h_trm) (.ref h_ter) (.int x_td_parts)))), (h_nam, .inl (cy_nam, 300, .inr (.inl f_nam))), (h_var, .inl (cy_var, 300, .inl f_var)), (h_trm, .inl (cy_trm, 300, .inl f_trm)), (h_ter, .inl (cy_ter, 900, .inl f_ter))] sz) [(h_rd, .inr (4, (mo31 (.ref h_by) (.int x_rd_length) (.int u.1) (.int u.2.1) (.ref h_td) (.ref h_kn) (.int u.2.2.1) (.int u.2.2.2.1) (.int u.2.2.2.2.1) (.int u.2.2.2.2.2.1) (.long u.2.2.2.2.2.2.1)))), (h_by, .inl (cy_by, 600, .inl f_by)), (h_kn, .inl (cy_kn, 8, .inl u.2.2.2.2.2.2.2.1)), (h_td, .inr (5, (mo32 v_td (.ref h_nam) (.ref h_var) (.ref h_trm) (.ref h_ter) (.int u.2.2.2.2.2.2.2.2.1)))), (h_nam, .inl (cy_nam, 300, .inr (.inl u.2.2.2.2.2.2.2.2.2.1))), (h_var, .inl (cy_var, 300, .inl u.2.2.2.2.2.2.2.2.2.2.1)), (h_trm, .inl (cy_trm, 300, .inl u.2.2.2.2.2.2.2.2.2.2.2.1)), (h_ter, .inl (cy_ter, 900, .inl u.2.2.2.2.2.2.2.2.2.2.2.2))]) (va_A [(h_rd, .inr (4, (mo31 (.ref h_by) (.int x_rd_length) (.int x_rd_fault) (.int x_rd_place) (.ref h_td) (.ref h_kn) (.int x_rd_variables) (.int x_rd_at) (.int x_rd_behind) (.int x_rd_token) (.long x_rd_letters)))), (h_by, .inl (cy_by, 600, .inl f_by)), (h_kn, .inl (cy_kn, 8, .inl f_kn)), (h_td, .inr (5, (mo32 v_td (.ref h_nam) (.ref h_var) (.ref h_trm) (.ref h_ter) (.int x_td_parts)))), (h_nam, .inl (cy_nam, 300, .inr (.inl f_nam))), (h_var, .inl (cy_var, 300, .inl f_var)), (h_trm, .inl (cy_trm, 300, .inl f_trm)), (h_ter, .inl (cy_ter, 900, .inl f_ter))] sz)) 0 0 (va_A [(h_rd, .inr (4, (mo31 (.ref h_by) (.int x_rd_length) (.int x_rd_fault) (.int x_rd_place) (.ref h_td) (.ref h_kn) (.int x_rd_variables) (.int x_rd_at) (.int x_rd_behind) (.int x_rd_token) (.long x_rd_letters)))), (h_by, .inl (cy_by, 600, .inl f_by)), (h_kn, .inl (cy_kn, 8, .inl f_kn)), (h_td, .inr (5, (mo32 v_td (.ref h_nam) (.ref h_var) (.ref h_trm) (.ref h_ter) (.int x_td_parts)))), (h_nam, .inl (cy_nam, 300, .inr (.inl f_nam))), (h_var, .inl (cy_var, 300, .inl f_var)), (h_trm, .inl (cy_trm, 300, .inl f_trm)), (h_ter, .inl (cy_ter, 900, .inl f_ter))] sz) := by
  refine Met.ofW (cc := cX5_readPart) (maxL := 5) (ret := (some .int)) (by decide) rfl ?_
  intro p e s m args below meth c s₁ B hml hv
  obtain ⟨rfl, hsz, hP, hK, hD0, hN⟩ := hv
  have hx := B.exec
  have hb := B.bytes
  have hr := B.returns
  have hts := atoms_spec (ws := Ws yX5_readPart cX5_readPart 5 (some .int)) B.pre
  have hT : ∀ w ∈ WALL, w ∈ Ws yX5_readPart cX5_readPart 5 (some .int) := fun w h => List.mem_cons_of_mem _ h
  have hw := fun w (h : w ∈ WALL) => hts w (hT w h)
  have hown : s.vm.findClass RX5 = some m.cls := findClass_of_methodNamed B.named
  have hlocks := B.notSynchronized
  subst hsz
  have hD := hD0.self (sz := s.heap.size)
  generalize hAe : va_A [(h_rd, .inr (4, (mo31 (.ref h_by) (.int x_rd_length) (.int x_rd_fault) (.int x_rd_place) (.ref h_td) (.ref h_kn) (.int x_rd_variables) (.int x_rd_at) (.int x_rd_behind) (.int x_rd_token) (.long x_rd_letters)))), (h_by, .inl (cy_by, 600, .inl f_by)), (h_kn, .inl (cy_kn, 8, .inl f_kn)), (h_td, .inr (5, (mo32 v_td (.ref h_nam) (.ref h_var) (.ref h_trm) (.ref h_ter) (.int x_td_parts)))), (h_nam, .inl (cy_nam, 300, .inr (.inl f_nam))), (h_var, .inl (cy_var, 300, .inl f_var)), (h_trm, .inl (cy_trm, 300, .inl f_trm)), (h_ter, .inl (cy_ter, 900, .inl f_ter))] s.heap.size = A at hD ⊢
  have hA : ∀ q : Nat, s.heap.size ≤ q → A q := fun q h => by rw [← hAe]; exact Or.inr h
  have hS : va_S A s.heap s.heap [] := va_S.rf
  have hl := lv_entry ([.ref h_rd, .int 4]) (n := 5) (Nat.le_of_ble_eq_true rfl)
  rw [lg_entry_eq]
  generalize (lg_sl ([.ref h_rd, .int 4]) ++ List.replicate (5 - (lg_sl ([.ref h_rd, .int 4])).length) Slot.unset).toArray = ls at hl ⊢
  have hl : lv_has ls 5 [(0, .ref h_rd), (1, .int 4)] := hl
  refine lv_aload_n hx hb dX5_readPart_0 rfl (lv_at hl 0 rfl) ?_
  refine va_get (D := (dC, dI)) (ci := 4) (v := .int x_rd_token) (C := RX5) (T := TX5) (N := 11) hx hb hw iwX5 hown hK hP 0 rfl rfl 9 (by decide) (hw _ w_f_X5_43) (fun _ h9 => h9) rfl dX5_readPart_1 ?_
  refine lv_sipush (v := 256) hx hb dX5_readPart_4 (by decide) ?_
  refine lv_icmp_ne (tgt := 14) hx hb dX5_readPart_7 (by decide) (fun c1 => ?_) (fun c1 => ?_)
  · have kc1 := (not_congr (cv_eq (rfl : (x_rd_token).toInt = (x_rd_token).toInt) (by decide : (256 : Int32).toInt = 256))).mp c1
    refine lv_iconst (v := 0) hx hb dX5_readPart_14 (by decide) ?_
    refine lv_istore_n (lv' := [(2, .int 0), (0, .ref h_rd), (1, .int 4)]) hx hb dX5_readPart_15 rfl hl (by decide) rfl (fun ls hl => ?_)
    refine lv_iload_n hx hb dX5_readPart_16 rfl (lv_at hl 0 rfl) ?_
    refine lv_if_eq (tgt := 35) hx hb dX5_readPart_17 (by decide) (fun _ => ?_) (fun c9 => absurd c9 (by decide))
    refine lv_aload_n hx hb dX5_readPart_35 rfl (lv_at hl 1 rfl) ?_
    obtain ⟨vq2, evq2⟩ := mq31_30 (.ref h_by) (.int x_rd_behind) (.int x_rd_token)
    replace hP : va_P (dC, dI) cls [(h_rd, .inr (4, (mo30 vq2 (.int x_rd_length) (.int x_rd_fault) (.int x_rd_place) (.ref h_td) (.ref h_kn) (.int x_rd_variables) (.int x_rd_at) (.long x_rd_letters)))), (h_by, .inl (cy_by, 600, .inl f_by)), (h_kn, .inl (cy_kn, 8, .inl f_kn)), (h_td, .inr (5, (mo32 v_td (.ref h_nam) (.ref h_var) (.ref h_trm) (.ref h_ter) (.int x_td_parts)))), (h_nam, .inl (cy_nam, 300, .inr (.inl f_nam))), (h_var, .inl (cy_var, 300, .inl f_var)), (h_trm, .inl (cy_trm, 300, .inl f_trm)), (h_ter, .inl (cy_ter, 900, .inl f_ter))] s.heap := by rw [evq2]; exact hP
    replace hD : va_D A [(h_rd, .inr (4, (mo30 vq2 (.int x_rd_length) (.int x_rd_fault) (.int x_rd_place) (.ref h_td) (.ref h_kn) (.int x_rd_variables) (.int x_rd_at) (.long x_rd_letters)))), (h_by, .inl (cy_by, 600, .inl f_by)), (h_kn, .inl (cy_kn, 8, .inl f_kn)), (h_td, .inr (5, (mo32 v_td (.ref h_nam) (.ref h_var) (.ref h_trm) (.ref h_ter) (.int x_td_parts)))), (h_nam, .inl (cy_nam, 300, .inr (.inl f_nam))), (h_var, .inl (cy_var, 300, .inl f_var)), (h_trm, .inl (cy_trm, 300, .inl f_trm)), (h_ter, .inl (cy_ter, 900, .inl f_ter))] := by rw [evq2]; exact hD
    obtain ⟨vq3, evq3⟩ := mq32_24 v_td (.ref h_ter)
    replace hP : va_P (dC, dI) cls [(h_rd, .inr (4, (mo30 vq2 (.int x_rd_length) (.int x_rd_fault) (.int x_rd_place) (.ref h_td) (.ref h_kn) (.int x_rd_variables) (.int x_rd_at) (.long x_rd_letters)))), (h_by, .inl (cy_by, 600, .inl f_by)), (h_kn, .inl (cy_kn, 8, .inl f_kn)), (h_td, .inr (5, (mo24 vq3 (.ref h_nam) (.ref h_var) (.ref h_trm) (.int x_td_parts)))), (h_nam, .inl (cy_nam, 300, .inr (.inl f_nam))), (h_var, .inl (cy_var, 300, .inl f_var)), (h_trm, .inl (cy_trm, 300, .inl f_trm)), (h_ter, .inl (cy_ter, 900, .inl f_ter))] s.heap := by rw [evq3]; exact hP
    replace hD : va_D A [(h_rd, .inr (4, (mo30 vq2 (.int x_rd_length) (.int x_rd_fault) (.int x_rd_place) (.ref h_td) (.ref h_kn) (.int x_rd_variables) (.int x_rd_at) (.long x_rd_letters)))), (h_by, .inl (cy_by, 600, .inl f_by)), (h_kn, .inl (cy_kn, 8, .inl f_kn)), (h_td, .inr (5, (mo24 vq3 (.ref h_nam) (.ref h_var) (.ref h_trm) (.int x_td_parts)))), (h_nam, .inl (cy_nam, 300, .inr (.inl f_nam))), (h_var, .inl (cy_var, 300, .inl f_var)), (h_trm, .inl (cy_trm, 300, .inl f_trm)), (h_ter, .inl (cy_ter, 900, .inl f_ter))] := by rw [evq3]; exact hD
    have hPc := hP.sub (ws' := [(h_rd, .inr (4, (mo30 vq2 (.int x_rd_length) (.int x_rd_fault) (.int x_rd_place) (.ref h_td) (.ref h_kn) (.int x_rd_variables) (.int x_rd_at) (.long x_rd_letters)))), (h_kn, .inl (cy_kn, 8, .inl f_kn)), (h_td, .inr (5, (mo24 vq3 (.ref h_nam) (.ref h_var) (.ref h_trm) (.int x_td_parts)))), (h_nam, .inl (cy_nam, 300, .inr (.inl f_nam))), (h_var, .inl (cy_var, 300, .inl f_var)), (h_trm, .inl (cy_trm, 300, .inl f_trm))]) [0, 2, 3, 4, 5, 6] rfl
    have hDc := hD.sub (ws' := [(h_rd, .inr (4, (mo30 vq2 (.int x_rd_length) (.int x_rd_fault) (.int x_rd_place) (.ref h_td) (.ref h_kn) (.int x_rd_variables) (.int x_rd_at) (.long x_rd_letters)))), (h_kn, .inl (cy_kn, 8, .inl f_kn)), (h_td, .inr (5, (mo24 vq3 (.ref h_nam) (.ref h_var) (.ref h_trm) (.int x_td_parts)))), (h_nam, .inl (cy_nam, 300, .inr (.inl f_nam))), (h_var, .inl (cy_var, 300, .inl f_var)), (h_trm, .inl (cy_trm, 300, .inl f_trm))]) [0, 2, 3, 4, 5, 6] (by decide) rfl
    have hKc := hK.sub (tys' := [(cy_kn, .int), (cy_nam, .long), (cy_var, .int), (cy_trm, .int)]) [1, 2, 3, 4] rfl
    have hFc := va_free (wc := [(h_rd, .inr (4, (mo30 vq2 (.int x_rd_length) (.int x_rd_fault) (.int x_rd_place) (.ref h_td) (.ref h_kn) (.int x_rd_variables) (.int x_rd_at) (.long x_rd_letters)))), (h_kn, .inl (cy_kn, 8, .inl f_kn)), (h_td, .inr (5, (mo24 vq3 (.ref h_nam) (.ref h_var) (.ref h_trm) (.int x_td_parts)))), (h_nam, .inl (cy_nam, 300, .inr (.inl f_nam))), (h_var, .inl (cy_var, 300, .inl f_var)), (h_trm, .inl (cy_trm, 300, .inl f_trm))]) hD hS hA [0, 2, 3, 4, 5, 6] rfl
    refine va_calli (va_runV (As := []) (rest := []) ⟨hx, hb, hml, hown, hts⟩ (c_X5_variablePart l dC dI s.heap.size h_rd h_kn h_td h_nam h_var h_trm vq2 x_rd_length x_rd_fault x_rd_place x_rd_variables x_rd_at x_rd_letters cy_kn f_kn vq3 x_td_parts cy_nam f_nam cy_var f_var cy_trm f_trm G vf (by first | exact hx_rd_length | omega) (by first | exact hx_rd_variables | omega) (by first | exact hx_rd_at | omega) hf_kn (by first | exact hx_td_parts | omega) hf_var hf_trm (by omega) (by first | exact q5 | omega) (by omega) (by first | exact q4 | omega) hn_vfc) (cwV 0 hts (gv hT w_m_X5_93 w_instanceMethod_X5_variablePart ws_sel_X5_variablePart w_ini_X5 w_code_X5_variablePart) rfl rfl rfl (by decide +kernel) ⟨(Nat.le_of_ble_eq_true rfl), (Nat.le_of_ble_eq_true rfl)⟩) ⟨pre_blind, va_recv hK hP (ci := 4) (q0 := 0) rfl rfl, pre_of hPc hKc hDc hN⟩ rfl rfl hl.1 rfl (lv_room (Nat.le_of_ble_eq_true rfl)) dX5_readPart_36 ⟨(Nat.le_of_ble_eq_true rfl), (Nat.le_of_ble_eq_true rfl)⟩) hS (fun q _ h => hFc q h) hFc (fun r4 u t H locs ht hvm hq hB hz1 hk1 hS9 => ?_)
    obtain ⟨z5, z6, z7, f8, z9, f10, f11, f12⟩ := u
    obtain ⟨hP1, hD1⟩ := hB
    rw [ht] at hP1
    obtain ⟨hP9, hD9⟩ := va_join (wr := [(h_by, .inl (cy_by, 600, .inl f_by)), (h_ter, .inl (cy_ter, 900, .inl f_ter))]) (w1 := [(h_rd, .inr (4, (mo30 vq2 (.int x_rd_length) (.int z5) (.int z6) (.ref h_td) (.ref h_kn) (.int z7) (.int x_rd_at) (.long x_rd_letters)))), (h_kn, .inl (cy_kn, 8, .inl f8)), (h_td, .inr (5, (mo24 vq3 (.ref h_nam) (.ref h_var) (.ref h_trm) (.int z9)))), (h_nam, .inl (cy_nam, 300, .inr (.inl f10))), (h_var, .inl (cy_var, 300, .inl f11)), (h_trm, .inl (cy_trm, 300, .inl f12))]) hP hD [0, 2, 3, 4, 5, 6] [1, 7] rfl rfl (by decide) (by decide) hk1 hFc hP1 hD1
    clear hP hD hS hPc hDc hKc hFc hP1 hD1 hk1 hz1 ht hvm
    have hP : va_P (dC, dI) cls [(h_by, .inl (cy_by, 600, .inl f_by)), (h_ter, .inl (cy_ter, 900, .inl f_ter)), (h_rd, .inr (4, (mo30 vq2 (.int x_rd_length) (.int z5) (.int z6) (.ref h_td) (.ref h_kn) (.int z7) (.int x_rd_at) (.long x_rd_letters)))), (h_kn, .inl (cy_kn, 8, .inl f8)), (h_td, .inr (5, (mo24 vq3 (.ref h_nam) (.ref h_var) (.ref h_trm) (.int z9)))), (h_nam, .inl (cy_nam, 300, .inr (.inl f10))), (h_var, .inl (cy_var, 300, .inl f11)), (h_trm, .inl (cy_trm, 300, .inl f12))] H := hP9
    have hD : va_D A [(h_by, .inl (cy_by, 600, .inl f_by)), (h_ter, .inl (cy_ter, 900, .inl f_ter)), (h_rd, .inr (4, (mo30 vq2 (.int x_rd_length) (.int z5) (.int z6) (.ref h_td) (.ref h_kn) (.int z7) (.int x_rd_at) (.long x_rd_letters)))), (h_kn, .inl (cy_kn, 8, .inl f8)), (h_td, .inr (5, (mo24 vq3 (.ref h_nam) (.ref h_var) (.ref h_trm) (.int z9)))), (h_nam, .inl (cy_nam, 300, .inr (.inl f10))), (h_var, .inl (cy_var, 300, .inl f11)), (h_trm, .inl (cy_trm, 300, .inl f12))] := hD9
    have hS := hS9
    clear hP9 hD9 hS9
    rw [evq2] at hP hD
    replace hP : va_P (dC, dI) cls [(h_by, .inl (cy_by, 600, .inl f_by)), (h_ter, .inl (cy_ter, 900, .inl f_ter)), (h_rd, .inr (4, (mo31 (.ref h_by) (.int x_rd_length) (.int z5) (.int z6) (.ref h_td) (.ref h_kn) (.int z7) (.int x_rd_at) (.int x_rd_behind) (.int x_rd_token) (.long x_rd_letters)))), (h_kn, .inl (cy_kn, 8, .inl f8)), (h_td, .inr (5, (mo24 vq3 (.ref h_nam) (.ref h_var) (.ref h_trm) (.int z9)))), (h_nam, .inl (cy_nam, 300, .inr (.inl f10))), (h_var, .inl (cy_var, 300, .inl f11)), (h_trm, .inl (cy_trm, 300, .inl f12))] H := hP
    replace hD : va_D A [(h_by, .inl (cy_by, 600, .inl f_by)), (h_ter, .inl (cy_ter, 900, .inl f_ter)), (h_rd, .inr (4, (mo31 (.ref h_by) (.int x_rd_length) (.int z5) (.int z6) (.ref h_td) (.ref h_kn) (.int z7) (.int x_rd_at) (.int x_rd_behind) (.int x_rd_token) (.long x_rd_letters)))), (h_kn, .inl (cy_kn, 8, .inl f8)), (h_td, .inr (5, (mo24 vq3 (.ref h_nam) (.ref h_var) (.ref h_trm) (.int z9)))), (h_nam, .inl (cy_nam, 300, .inr (.inl f10))), (h_var, .inl (cy_var, 300, .inl f11)), (h_trm, .inl (cy_trm, 300, .inl f12))] := hD
    clear evq2 
    rw [evq3] at hP hD
    replace hP : va_P (dC, dI) cls [(h_by, .inl (cy_by, 600, .inl f_by)), (h_ter, .inl (cy_ter, 900, .inl f_ter)), (h_rd, .inr (4, (mo31 (.ref h_by) (.int x_rd_length) (.int z5) (.int z6) (.ref h_td) (.ref h_kn) (.int z7) (.int x_rd_at) (.int x_rd_behind) (.int x_rd_token) (.long x_rd_letters)))), (h_kn, .inl (cy_kn, 8, .inl f8)), (h_td, .inr (5, (mo32 v_td (.ref h_nam) (.ref h_var) (.ref h_trm) (.ref h_ter) (.int z9)))), (h_nam, .inl (cy_nam, 300, .inr (.inl f10))), (h_var, .inl (cy_var, 300, .inl f11)), (h_trm, .inl (cy_trm, 300, .inl f12))] H := hP
    replace hD : va_D A [(h_by, .inl (cy_by, 600, .inl f_by)), (h_ter, .inl (cy_ter, 900, .inl f_ter)), (h_rd, .inr (4, (mo31 (.ref h_by) (.int x_rd_length) (.int z5) (.int z6) (.ref h_td) (.ref h_kn) (.int z7) (.int x_rd_at) (.int x_rd_behind) (.int x_rd_token) (.long x_rd_letters)))), (h_kn, .inl (cy_kn, 8, .inl f8)), (h_td, .inr (5, (mo32 v_td (.ref h_nam) (.ref h_var) (.ref h_trm) (.ref h_ter) (.int z9)))), (h_nam, .inl (cy_nam, 300, .inr (.inl f10))), (h_var, .inl (cy_var, 300, .inl f11)), (h_trm, .inl (cy_trm, 300, .inl f12))] := hD
    clear evq3 
    obtain ⟨k13, hf8, k14, hf11, hf12, k15, k16, k17, k18, k19, k20⟩ := hq
    replace k13 : 0 ≤ ((z7)).toInt ∧ ((z7)).toInt ≤ 8 := k13
    replace hf8 : Rg 0 299 (f8) := hf8
    replace k14 : 0 ≤ ((z9)).toInt ∧ ((z9)).toInt ≤ 300 := k14
    replace hf11 : Rg (-1) 7 (f11) := hf11
    replace hf12 : Rg 0 3 (f12) := hf12
    replace k15 : 0 ≤ (r4).toInt ∧ (r4).toInt ≤ 299 := k15
    replace k16 : ((z5)).toInt = ((pVar (G) ((x_rd_length)).toInt ((x_rd_at)).toInt ((x_rd_variables)).toInt (vf))).1 := k16
    replace k17 : (((z5)).toInt = 0 ∧ ((z6)).toInt = ((x_rd_place)).toInt ∧ ((pVar (G) ((x_rd_length)).toInt ((x_rd_at)).toInt ((x_rd_variables)).toInt (vf))).2.1 = tkN (G) ((x_rd_length)).toInt ((x_rd_at)).toInt) ∨ (((z5)).toInt = 2 ∧ ((z6)).toInt = ((x_rd_at)).toInt ∧ ((pVar (G) ((x_rd_length)).toInt ((x_rd_at)).toInt ((x_rd_variables)).toInt (vf))).2.1 = ((x_rd_at)).toInt ∧ ((z9)).toInt = ((x_td_parts)).toInt) := k17
    replace k18 : ((z7)).toInt = ((pVar (G) ((x_rd_length)).toInt ((x_rd_at)).toInt ((x_rd_variables)).toInt (vf))).2.2.1 := k18
    replace k19 : ((x_td_parts)).toInt ≤ ((z9)).toInt ∧ ((z9)).toInt ≤ ((x_td_parts)).toInt + 1 := k19
    replace k20 : VFC ((z7)).toInt ((pVar (G) ((x_rd_length)).toInt ((x_rd_at)).toInt ((x_rd_variables)).toInt (vf))).2.2.2 (f8) (f10) ((z9)).toInt := k20
    have rq9 : (pTm G (x_rd_length).toInt (pPs G (x_rd_length).toInt 2) (x_rd_at).toInt (x_rd_variables).toInt vf) = (pVar G (x_rd_length).toInt (x_rd_at).toInt (x_rd_variables).toInt vf) := pTm_var (by omega)
    have pq211 : ((pTm G (x_rd_length).toInt (pPs G (x_rd_length).toInt 2) (x_rd_at).toInt (x_rd_variables).toInt vf)).1 = ((pVar G (x_rd_length).toInt (x_rd_at).toInt (x_rd_variables).toInt vf)).1 := by rw [rq9]
    have pq212 : ((pTm G (x_rd_length).toInt (pPs G (x_rd_length).toInt 2) (x_rd_at).toInt (x_rd_variables).toInt vf)).2.1 = ((pVar G (x_rd_length).toInt (x_rd_at).toInt (x_rd_variables).toInt vf)).2.1 := by rw [rq9]
    have pq213 : ((pTm G (x_rd_length).toInt (pPs G (x_rd_length).toInt 2) (x_rd_at).toInt (x_rd_variables).toInt vf)).2.2.1 = ((pVar G (x_rd_length).toInt (x_rd_at).toInt (x_rd_variables).toInt vf)).2.2.1 := by rw [rq9]
    have pq214 : ((pTm G (x_rd_length).toInt (pPs G (x_rd_length).toInt 2) (x_rd_at).toInt (x_rd_variables).toInt vf)).2.2.2 = ((pVar G (x_rd_length).toInt (x_rd_at).toInt (x_rd_variables).toInt vf)).2.2.2 := by rw [rq9]
    refine lv_istore_n (lv' := [(3, .int r4), (2, .int 0), (0, .ref h_rd), (1, .int 4)]) hx hb dX5_readPart_39 rfl hl (by decide) rfl (fun ls hl => ?_)
    refine lv_aload_n hx hb dX5_readPart_40 rfl (lv_at hl 2 rfl) ?_
    refine va_get (D := (dC, dI)) (ci := 4) (v := .int z5) (C := RX5) (T := TX5) (N := 11) hx hb hw iwX5 hown hK hP 2 rfl rfl 2 (by decide) (hw _ w_f_X5_34) (fun _ h9 => h9) rfl dX5_readPart_41 ?_
    refine lv_if_eq (tgt := 49) hx hb dX5_readPart_44 (by decide) (fun c22 => ?_) (fun c22 => ?_)
    · have kc22 := (cv_eq (rfl : (z5).toInt = (z5).toInt) (by decide : (0 : Int32).toInt = 0)).mp c22
      refine lv_aload_n hx hb dX5_readPart_49 rfl (lv_at hl 2 rfl) ?_
      obtain ⟨vq23, evq23⟩ := mq31_29 (.int z5) (.int z6) (.ref h_td) (.ref h_kn) (.int z7)
      replace hP : va_P (dC, dI) cls [(h_by, .inl (cy_by, 600, .inl f_by)), (h_ter, .inl (cy_ter, 900, .inl f_ter)), (h_rd, .inr (4, (mo29 vq23 (.ref h_by) (.int x_rd_length) (.int x_rd_at) (.int x_rd_behind) (.int x_rd_token) (.long x_rd_letters)))), (h_kn, .inl (cy_kn, 8, .inl f8)), (h_td, .inr (5, (mo32 v_td (.ref h_nam) (.ref h_var) (.ref h_trm) (.ref h_ter) (.int z9)))), (h_nam, .inl (cy_nam, 300, .inr (.inl f10))), (h_var, .inl (cy_var, 300, .inl f11)), (h_trm, .inl (cy_trm, 300, .inl f12))] H := by rw [evq23]; exact hP
      replace hD : va_D A [(h_by, .inl (cy_by, 600, .inl f_by)), (h_ter, .inl (cy_ter, 900, .inl f_ter)), (h_rd, .inr (4, (mo29 vq23 (.ref h_by) (.int x_rd_length) (.int x_rd_at) (.int x_rd_behind) (.int x_rd_token) (.long x_rd_letters)))), (h_kn, .inl (cy_kn, 8, .inl f8)), (h_td, .inr (5, (mo32 v_td (.ref h_nam) (.ref h_var) (.ref h_trm) (.ref h_ter) (.int z9)))), (h_nam, .inl (cy_nam, 300, .inr (.inl f10))), (h_var, .inl (cy_var, 300, .inl f11)), (h_trm, .inl (cy_trm, 300, .inl f12))] := by rw [evq23]; exact hD
      have hPc := hP.sub (ws' := [(h_rd, .inr (4, (mo29 vq23 (.ref h_by) (.int x_rd_length) (.int x_rd_at) (.int x_rd_behind) (.int x_rd_token) (.long x_rd_letters)))), (h_by, .inl (cy_by, 600, .inl f_by))]) [2, 0] rfl
      have hDc := hD.sub (ws' := [(h_rd, .inr (4, (mo29 vq23 (.ref h_by) (.int x_rd_length) (.int x_rd_at) (.int x_rd_behind) (.int x_rd_token) (.long x_rd_letters)))), (h_by, .inl (cy_by, 600, .inl f_by))]) [2, 0] (by decide) rfl
      have hKc := hK.sub (tys' := [(cy_by, .int)]) [0] rfl
      have hFc := va_free (wc := [(h_rd, .inr (4, (mo29 vq23 (.ref h_by) (.int x_rd_length) (.int x_rd_at) (.int x_rd_behind) (.int x_rd_token) (.long x_rd_letters)))), (h_by, .inl (cy_by, 600, .inl f_by))]) hD hS hA [2, 0] rfl
      refine va_callv (va_runV (As := []) (rest := []) ⟨hx, hb, hml, hown, hts⟩ (c_X5_nextToken l dC dI H.size h_rd h_by vq23 x_rd_length x_rd_at x_rd_behind x_rd_token x_rd_letters cy_by f_by G (by first | exact hx_rd_length | omega) (by first | exact hx_rd_at | omega) (by first | exact hx_rd_behind | omega) hf_by (by first | exact q7 | omega) hn_byt) (cwV 0 hts (gv hT w_m_X5_40 w_instanceMethod_X5_nextToken ws_sel_X5_nextToken w_ini_X5 w_code_X5_nextToken) rfl rfl rfl (by decide +kernel) ⟨(Nat.le_of_ble_eq_true rfl), (Nat.le_of_ble_eq_true rfl)⟩) ⟨pre_blind, va_recv hK hP (ci := 4) (q0 := 2) rfl rfl, pre_of hPc hKc hDc hN⟩ rfl rfl hl.1 rfl (lv_room (Nat.le_of_ble_eq_true rfl)) dX5_readPart_50 ⟨(Nat.le_of_ble_eq_true rfl), (Nat.le_of_ble_eq_true rfl)⟩) hS (fun q _ h => hFc q h) hFc (fun u t H locs ht hvm hq hB hz1 hk1 hS9 => ?_)
      obtain ⟨z25, z26, z27, z28⟩ := u
      obtain ⟨hP1, hD1⟩ := hB
      rw [ht] at hP1
      obtain ⟨hP9, hD9⟩ := va_join (wr := [(h_ter, .inl (cy_ter, 900, .inl f_ter)), (h_kn, .inl (cy_kn, 8, .inl f8)), (h_td, .inr (5, (mo32 v_td (.ref h_nam) (.ref h_var) (.ref h_trm) (.ref h_ter) (.int z9)))), (h_nam, .inl (cy_nam, 300, .inr (.inl f10))), (h_var, .inl (cy_var, 300, .inl f11)), (h_trm, .inl (cy_trm, 300, .inl f12))]) (w1 := [(h_rd, .inr (4, (mo29 vq23 (.ref h_by) (.int x_rd_length) (.int z25) (.int z26) (.int z27) (.long z28)))), (h_by, .inl (cy_by, 600, .inl f_by))]) hP hD [2, 0] [1, 3, 4, 5, 6, 7] rfl rfl (by decide) (by decide) hk1 hFc hP1 hD1
      clear hP hD hS hPc hDc hKc hFc hP1 hD1 hk1 hz1 ht hvm
      have hP : va_P (dC, dI) cls [(h_ter, .inl (cy_ter, 900, .inl f_ter)), (h_kn, .inl (cy_kn, 8, .inl f8)), (h_td, .inr (5, (mo32 v_td (.ref h_nam) (.ref h_var) (.ref h_trm) (.ref h_ter) (.int z9)))), (h_nam, .inl (cy_nam, 300, .inr (.inl f10))), (h_var, .inl (cy_var, 300, .inl f11)), (h_trm, .inl (cy_trm, 300, .inl f12)), (h_rd, .inr (4, (mo29 vq23 (.ref h_by) (.int x_rd_length) (.int z25) (.int z26) (.int z27) (.long z28)))), (h_by, .inl (cy_by, 600, .inl f_by))] H := hP9
      have hD : va_D A [(h_ter, .inl (cy_ter, 900, .inl f_ter)), (h_kn, .inl (cy_kn, 8, .inl f8)), (h_td, .inr (5, (mo32 v_td (.ref h_nam) (.ref h_var) (.ref h_trm) (.ref h_ter) (.int z9)))), (h_nam, .inl (cy_nam, 300, .inr (.inl f10))), (h_var, .inl (cy_var, 300, .inl f11)), (h_trm, .inl (cy_trm, 300, .inl f12)), (h_rd, .inr (4, (mo29 vq23 (.ref h_by) (.int x_rd_length) (.int z25) (.int z26) (.int z27) (.long z28)))), (h_by, .inl (cy_by, 600, .inl f_by))] := hD9
      have hS := hS9
      clear hP9 hD9 hS9
      rw [evq23] at hP hD
      replace hP : va_P (dC, dI) cls [(h_ter, .inl (cy_ter, 900, .inl f_ter)), (h_kn, .inl (cy_kn, 8, .inl f8)), (h_td, .inr (5, (mo32 v_td (.ref h_nam) (.ref h_var) (.ref h_trm) (.ref h_ter) (.int z9)))), (h_nam, .inl (cy_nam, 300, .inr (.inl f10))), (h_var, .inl (cy_var, 300, .inl f11)), (h_trm, .inl (cy_trm, 300, .inl f12)), (h_rd, .inr (4, (mo31 (.ref h_by) (.int x_rd_length) (.int z5) (.int z6) (.ref h_td) (.ref h_kn) (.int z7) (.int z25) (.int z26) (.int z27) (.long z28)))), (h_by, .inl (cy_by, 600, .inl f_by))] H := hP
      replace hD : va_D A [(h_ter, .inl (cy_ter, 900, .inl f_ter)), (h_kn, .inl (cy_kn, 8, .inl f8)), (h_td, .inr (5, (mo32 v_td (.ref h_nam) (.ref h_var) (.ref h_trm) (.ref h_ter) (.int z9)))), (h_nam, .inl (cy_nam, 300, .inr (.inl f10))), (h_var, .inl (cy_var, 300, .inl f11)), (h_trm, .inl (cy_trm, 300, .inl f12)), (h_rd, .inr (4, (mo31 (.ref h_by) (.int x_rd_length) (.int z5) (.int z6) (.ref h_td) (.ref h_kn) (.int z7) (.int z25) (.int z26) (.int z27) (.long z28)))), (h_by, .inl (cy_by, 600, .inl f_by))] := hD
      clear evq23 
      obtain ⟨k29, k30, k31, k32, k33, k34, k35, k36, k37, k38, k39⟩ := hq
      replace k29 : 0 ≤ ((z25)).toInt ∧ ((z25)).toInt ≤ 600 := k29
      replace k30 : 0 ≤ ((z26)).toInt ∧ ((z26)).toInt ≤ 600 := k30
      replace k31 : ((z25)).toInt = tkS (G) ((x_rd_length)).toInt ((x_rd_behind)).toInt := k31
      replace k32 : ((x_rd_behind)).toInt ≤ ((z25)).toInt := k32
      replace k33 : ((z27)).toInt = tkT (G) ((x_rd_length)).toInt ((z25)).toInt := k33
      replace k34 : ((z27)).toInt = -1 ∨ ((z26)).toInt = tkX (G) ((x_rd_length)).toInt ((z25)).toInt := k34
      replace k35 : ¬ ((z27)).toInt = 257 ∨ ((z28)).toInt = (G) ((z25)).toInt := k35
      replace k36 : -1 ≤ ((z27)).toInt ∧ ((z27)).toInt ≤ 258 := k36
      replace k37 : ((z26)).toInt ≤ ((x_rd_length)).toInt := k37
      replace k38 : ((z27)).toInt = -1 ∨ ((z25)).toInt < ((x_rd_length)).toInt := k38
      replace k39 : ((z25)).toInt ≤ ((x_rd_length)).toInt := k39
      have tn40b : (x_rd_behind).toInt = tkX G (x_rd_length).toInt (x_rd_at).toInt := by omega
      have tn40 : (z25).toInt = tkN G (x_rd_length).toInt (x_rd_at).toInt := by rw [k31, tn40b]; rfl
      have tn40t : (z27).toInt = tkT G (x_rd_length).toInt (tkN G (x_rd_length).toInt (x_rd_at).toInt) := by rw [← tn40]; exact k33
      have tn40g := tkN_gt (G := G) (n := (x_rd_length).toInt) (a := (x_rd_at).toInt) (by omega) (by omega) (by omega)
      have tw9 := nx_two (G := G) (n := (x_rd_length).toInt) hn_byt.1 (by omega) (by omega) q0 (by omega) tn40 k33
      refine lv_iload_n hx hb dX5_readPart_53 rfl (lv_at hl 1 rfl) ?_
      refine lv_if_eq (tgt := 66) hx hb dX5_readPart_54 (by decide) (fun _ => ?_) (fun c9 => absurd c9 (by decide))
      refine lv_iload_n hx hb dX5_readPart_66 rfl (lv_at hl 0 rfl) ?_
      replace hP : va_P (dC, dI) cls [(h_rd, .inr (4, (mo31 (.ref h_by) (.int x_rd_length) (.int z5) (.int z6) (.ref h_td) (.ref h_kn) (.int z7) (.int z25) (.int z26) (.int z27) (.long z28)))), (h_by, .inl (cy_by, 600, .inl f_by)), (h_kn, .inl (cy_kn, 8, .inl f8)), (h_td, .inr (5, (mo32 v_td (.ref h_nam) (.ref h_var) (.ref h_trm) (.ref h_ter) (.int z9)))), (h_nam, .inl (cy_nam, 300, .inr (.inl f10))), (h_var, .inl (cy_var, 300, .inl f11)), (h_trm, .inl (cy_trm, 300, .inl f12)), (h_ter, .inl (cy_ter, 900, .inl f_ter))] H := hP.sub [6, 7, 1, 2, 3, 4, 5, 0] rfl
      replace hD : va_D A [(h_rd, .inr (4, (mo31 (.ref h_by) (.int x_rd_length) (.int z5) (.int z6) (.ref h_td) (.ref h_kn) (.int z7) (.int z25) (.int z26) (.int z27) (.long z28)))), (h_by, .inl (cy_by, 600, .inl f_by)), (h_kn, .inl (cy_kn, 8, .inl f8)), (h_td, .inr (5, (mo32 v_td (.ref h_nam) (.ref h_var) (.ref h_trm) (.ref h_ter) (.int z9)))), (h_nam, .inl (cy_nam, 300, .inr (.inl f10))), (h_var, .inl (cy_var, 300, .inl f11)), (h_trm, .inl (cy_trm, 300, .inl f12)), (h_ter, .inl (cy_ter, 900, .inl f_ter))] := hD.sub [6, 7, 1, 2, 3, 4, 5, 0] (by decide) rfl
      refine W.widen (k := 0) (n := 0) (Nat.le_of_ble_eq_true rfl) (Nat.le_of_ble_eq_true rfl) ?_
      have w41 : 0 ≤ ((z7)).toInt ∧ ((z7)).toInt ≤ 8 := by first | exact k13 | omega
      have w42 : 0 ≤ ((z25)).toInt ∧ ((z25)).toInt ≤ 600 := by first | exact k29 | omega
      have w43 : 0 ≤ ((z26)).toInt ∧ ((z26)).toInt ≤ 600 := by first | exact k30 | omega
      have w44 : 0 ≤ ((z9)).toInt ∧ ((z9)).toInt ≤ 300 := by first | exact k14 | omega
      have w45 : 0 ≤ (r4 : Int32).toInt ∧ (r4 : Int32).toInt ≤ 299 := by first | exact k15 | omega
      have w46 : ((z5)).toInt = ((pTm G (x_rd_length).toInt (pPs G (x_rd_length).toInt 2) (x_rd_at).toInt (x_rd_variables).toInt vf)).1 := by omega
      have w47 : ((z25)).toInt = ((pTm G (x_rd_length).toInt (pPs G (x_rd_length).toInt 2) (x_rd_at).toInt (x_rd_variables).toInt vf)).2.1 := by omega
      have w48 : ((z7)).toInt = ((pTm G (x_rd_length).toInt (pPs G (x_rd_length).toInt 2) (x_rd_at).toInt (x_rd_variables).toInt vf)).2.2.1 := by omega
      have w49 : (((z5)).toInt = 0 ∧ ((z6)).toInt = (x_rd_place).toInt) ∨ (¬ ((z5)).toInt = 0 ∧ ((z6)).toInt = ((z25)).toInt) := by omega
      have w50 : 2 * ((z9)).toInt ≤ ((z25)).toInt + 1 := by omega
      have w51 : ((z27)).toInt < 256 ∨ 2 * ((z9)).toInt ≤ ((z25)).toInt := by omega
      have w52 : (x_rd_at).toInt ≤ ((z25)).toInt := by omega
      have w53 : ((z27)).toInt = tkT G (x_rd_length).toInt ((z25)).toInt := by first | exact k33 | omega
      have w54 : ((z27)).toInt = -1 ∨ ((z26)).toInt = tkX G (x_rd_length).toInt ((z25)).toInt := by first | exact k34 | omega
      have w55 : ¬ ((z27)).toInt = 257 ∨ ((z28)).toInt = G ((z25)).toInt := by first | exact k35 | omega
      have w56 : -1 ≤ ((z27)).toInt ∧ ((z27)).toInt ≤ 258 := by first | exact k36 | omega
      have w57 : ((z26)).toInt ≤ (x_rd_length).toInt := by first | exact k37 | omega
      have w58 : ((z27)).toInt = -1 ∨ ((z25)).toInt < (x_rd_length).toInt := by first | exact k38 | omega
      have w59 : ((z25)).toInt ≤ (x_rd_length).toInt := by first | exact k39 | omega
      have w60 : VFC ((z7)).toInt ((pTm G (x_rd_length).toInt (pPs G (x_rd_length).toInt 2) (x_rd_at).toInt (x_rd_variables).toInt vf)).2.2.2 (f8) (f10) ((z9)).toInt := (by rw [pq214]; exact k20)
      exact W.iret (v := r4) hx hb hr (fun t ht hW => ⟨⟨r4, (z5, z6, z7, z25, z26, z27, z28, f8, z9, f10, f11, f12, f_ter), rfl, ⟨w41, w42, w43, hf8, w44, hf11, hf12, hf_ter, w45, w46, w47, w48, w49, w50, w51, w52, w53, w54, w55, w56, w57, w58, w59, w60⟩, by rw [ht]; exact hP, hD⟩, hS.F ht⟩) hS.2.2 dX5_readPart_67
    · have kc22 := (not_congr (cv_eq (rfl : (z5).toInt = (z5).toInt) (by decide : (0 : Int32).toInt = 0))).mp c22
      refine lv_iload_n hx hb dX5_readPart_47 rfl (lv_at hl 0 rfl) ?_
      replace hP : va_P (dC, dI) cls [(h_rd, .inr (4, (mo31 (.ref h_by) (.int x_rd_length) (.int z5) (.int z6) (.ref h_td) (.ref h_kn) (.int z7) (.int x_rd_at) (.int x_rd_behind) (.int x_rd_token) (.long x_rd_letters)))), (h_by, .inl (cy_by, 600, .inl f_by)), (h_kn, .inl (cy_kn, 8, .inl f8)), (h_td, .inr (5, (mo32 v_td (.ref h_nam) (.ref h_var) (.ref h_trm) (.ref h_ter) (.int z9)))), (h_nam, .inl (cy_nam, 300, .inr (.inl f10))), (h_var, .inl (cy_var, 300, .inl f11)), (h_trm, .inl (cy_trm, 300, .inl f12)), (h_ter, .inl (cy_ter, 900, .inl f_ter))] H := hP.sub [2, 0, 3, 4, 5, 6, 7, 1] rfl
      replace hD : va_D A [(h_rd, .inr (4, (mo31 (.ref h_by) (.int x_rd_length) (.int z5) (.int z6) (.ref h_td) (.ref h_kn) (.int z7) (.int x_rd_at) (.int x_rd_behind) (.int x_rd_token) (.long x_rd_letters)))), (h_by, .inl (cy_by, 600, .inl f_by)), (h_kn, .inl (cy_kn, 8, .inl f8)), (h_td, .inr (5, (mo32 v_td (.ref h_nam) (.ref h_var) (.ref h_trm) (.ref h_ter) (.int z9)))), (h_nam, .inl (cy_nam, 300, .inr (.inl f10))), (h_var, .inl (cy_var, 300, .inl f11)), (h_trm, .inl (cy_trm, 300, .inl f12)), (h_ter, .inl (cy_ter, 900, .inl f_ter))] := hD.sub [2, 0, 3, 4, 5, 6, 7, 1] (by decide) rfl
      refine W.widen (k := 0) (n := 0) (Nat.le_of_ble_eq_true rfl) (Nat.le_of_ble_eq_true rfl) ?_
      have w61 : 0 ≤ ((z7)).toInt ∧ ((z7)).toInt ≤ 8 := by first | exact k13 | omega
      have w62 : 0 ≤ ((x_rd_at)).toInt ∧ ((x_rd_at)).toInt ≤ 600 := by first | exact hx_rd_at | omega
      have w63 : 0 ≤ ((x_rd_behind)).toInt ∧ ((x_rd_behind)).toInt ≤ 600 := by first | exact hx_rd_behind | omega
      have w64 : 0 ≤ ((z9)).toInt ∧ ((z9)).toInt ≤ 300 := by first | exact k14 | omega
      have w65 : 0 ≤ (r4 : Int32).toInt ∧ (r4 : Int32).toInt ≤ 299 := by first | exact k15 | omega
      have w66 : ((z5)).toInt = ((pTm G (x_rd_length).toInt (pPs G (x_rd_length).toInt 2) (x_rd_at).toInt (x_rd_variables).toInt vf)).1 := by omega
      have w67 : ((x_rd_at)).toInt = ((pTm G (x_rd_length).toInt (pPs G (x_rd_length).toInt 2) (x_rd_at).toInt (x_rd_variables).toInt vf)).2.1 := by omega
      have w68 : ((z7)).toInt = ((pTm G (x_rd_length).toInt (pPs G (x_rd_length).toInt 2) (x_rd_at).toInt (x_rd_variables).toInt vf)).2.2.1 := by omega
      have w69 : (((z5)).toInt = 0 ∧ ((z6)).toInt = (x_rd_place).toInt) ∨ (¬ ((z5)).toInt = 0 ∧ ((z6)).toInt = ((x_rd_at)).toInt) := by omega
      have w70 : 2 * ((z9)).toInt ≤ ((x_rd_at)).toInt + 1 := by omega
      have w71 : ((x_rd_token)).toInt < 256 ∨ 2 * ((z9)).toInt ≤ ((x_rd_at)).toInt := by omega
      have w72 : (x_rd_at).toInt ≤ ((x_rd_at)).toInt := by omega
      have w73 : ((x_rd_token)).toInt = tkT G (x_rd_length).toInt ((x_rd_at)).toInt := by first | exact q0 | omega
      have w74 : ((x_rd_token)).toInt = -1 ∨ ((x_rd_behind)).toInt = tkX G (x_rd_length).toInt ((x_rd_at)).toInt := by omega
      have w75 : ¬ ((x_rd_token)).toInt = 257 ∨ ((x_rd_letters)).toInt = G ((x_rd_at)).toInt := by first | exact q3 | omega
      have w76 : -1 ≤ ((x_rd_token)).toInt ∧ ((x_rd_token)).toInt ≤ 258 := by omega
      have w77 : ((x_rd_behind)).toInt ≤ (x_rd_length).toInt := by first | exact q7 | omega
      have w78 : ((x_rd_token)).toInt = -1 ∨ ((x_rd_at)).toInt < (x_rd_length).toInt := by omega
      have w79 : ((x_rd_at)).toInt ≤ (x_rd_length).toInt := by omega
      have w80 : VFC ((z7)).toInt ((pTm G (x_rd_length).toInt (pPs G (x_rd_length).toInt 2) (x_rd_at).toInt (x_rd_variables).toInt vf)).2.2.2 (f8) (f10) ((z9)).toInt := (by rw [pq214]; exact k20)
      exact W.iret (v := r4) hx hb hr (fun t ht hW => ⟨⟨r4, (z5, z6, z7, x_rd_at, x_rd_behind, x_rd_token, x_rd_letters, f8, z9, f10, f11, f12, f_ter), rfl, ⟨w61, w62, w63, hf8, w64, hf11, hf12, hf_ter, w65, w66, w67, w68, w69, w70, w71, w72, w73, w74, w75, w76, w77, w78, w79, w80⟩, by rw [ht]; exact hP, hD⟩, hS.F ht⟩) hS.2.2 dX5_readPart_48
  · have kc1 := (cv_eq (rfl : (x_rd_token).toInt = (x_rd_token).toInt) (by decide : (256 : Int32).toInt = 256)).mp c1
    refine lv_iconst (v := 1) hx hb dX5_readPart_10 (by decide) ?_
    refine lv_goto (tgt := 15) hx hb dX5_readPart_11 (by decide) ?_
    refine lv_istore_n (lv' := [(2, .int 1), (0, .ref h_rd), (1, .int 4)]) hx hb dX5_readPart_15 rfl hl (by decide) rfl (fun ls hl => ?_)
    refine lv_iload_n hx hb dX5_readPart_16 rfl (lv_at hl 0 rfl) ?_
    refine lv_if_eq (tgt := 35) hx hb dX5_readPart_17 (by decide) (fun c9 => absurd c9 (by decide)) (fun _ => ?_)
    refine lv_aload_n hx hb dX5_readPart_20 rfl (lv_at hl 1 rfl) ?_
    refine va_get (D := (dC, dI)) (ci := 4) (v := .ref h_td) (C := RX5) (T := TX5) (N := 11) hx hb hw iwX5 hown hK hP 0 rfl rfl 4 (by decide) (hw _ w_f_X5_25) (fun _ h9 => h9) rfl dX5_readPart_21 ?_
    refine lv_aload_n hx hb dX5_readPart_24 rfl (lv_at hl 1 rfl) ?_
    refine va_get (D := (dC, dI)) (ci := 4) (v := .long x_rd_letters) (C := RX5) (T := TX5) (N := 11) hx hb hw iwX5 hown hK hP 0 rfl rfl 10 (by decide) (hw _ w_f_X5_85) (fun _ h9 => h9) rfl dX5_readPart_25 ?_
    refine lv_iconst (v := (-1)) hx hb dX5_readPart_28 (by decide) ?_
    obtain ⟨vq81, evq81⟩ := mq32_24 v_td (.ref h_ter)
    replace hP : va_P (dC, dI) cls [(h_rd, .inr (4, (mo31 (.ref h_by) (.int x_rd_length) (.int x_rd_fault) (.int x_rd_place) (.ref h_td) (.ref h_kn) (.int x_rd_variables) (.int x_rd_at) (.int x_rd_behind) (.int x_rd_token) (.long x_rd_letters)))), (h_by, .inl (cy_by, 600, .inl f_by)), (h_kn, .inl (cy_kn, 8, .inl f_kn)), (h_td, .inr (5, (mo24 vq81 (.ref h_nam) (.ref h_var) (.ref h_trm) (.int x_td_parts)))), (h_nam, .inl (cy_nam, 300, .inr (.inl f_nam))), (h_var, .inl (cy_var, 300, .inl f_var)), (h_trm, .inl (cy_trm, 300, .inl f_trm)), (h_ter, .inl (cy_ter, 900, .inl f_ter))] s.heap := by rw [evq81]; exact hP
    replace hD : va_D A [(h_rd, .inr (4, (mo31 (.ref h_by) (.int x_rd_length) (.int x_rd_fault) (.int x_rd_place) (.ref h_td) (.ref h_kn) (.int x_rd_variables) (.int x_rd_at) (.int x_rd_behind) (.int x_rd_token) (.long x_rd_letters)))), (h_by, .inl (cy_by, 600, .inl f_by)), (h_kn, .inl (cy_kn, 8, .inl f_kn)), (h_td, .inr (5, (mo24 vq81 (.ref h_nam) (.ref h_var) (.ref h_trm) (.int x_td_parts)))), (h_nam, .inl (cy_nam, 300, .inr (.inl f_nam))), (h_var, .inl (cy_var, 300, .inl f_var)), (h_trm, .inl (cy_trm, 300, .inl f_trm)), (h_ter, .inl (cy_ter, 900, .inl f_ter))] := by rw [evq81]; exact hD
    have cstm1 : ((-1) : Int32).toInt = -1 := by decide
    have hPc := hP.sub (ws' := [(h_td, .inr (5, (mo24 vq81 (.ref h_nam) (.ref h_var) (.ref h_trm) (.int x_td_parts)))), (h_nam, .inl (cy_nam, 300, .inr (.inl f_nam))), (h_var, .inl (cy_var, 300, .inl f_var)), (h_trm, .inl (cy_trm, 300, .inl f_trm))]) [3, 4, 5, 6] rfl
    have hDc := hD.sub (ws' := [(h_td, .inr (5, (mo24 vq81 (.ref h_nam) (.ref h_var) (.ref h_trm) (.int x_td_parts)))), (h_nam, .inl (cy_nam, 300, .inr (.inl f_nam))), (h_var, .inl (cy_var, 300, .inl f_var)), (h_trm, .inl (cy_trm, 300, .inl f_trm))]) [3, 4, 5, 6] (by decide) rfl
    have hKc := hK.sub (tys' := [(cy_nam, .long), (cy_var, .int), (cy_trm, .int)]) [2, 3, 4] rfl
    have hFc := va_free (wc := [(h_td, .inr (5, (mo24 vq81 (.ref h_nam) (.ref h_var) (.ref h_trm) (.int x_td_parts)))), (h_nam, .inl (cy_nam, 300, .inr (.inl f_nam))), (h_var, .inl (cy_var, 300, .inl f_var)), (h_trm, .inl (cy_trm, 300, .inl f_trm))]) hD hS hA [3, 4, 5, 6] rfl
    refine va_calli (va_runVN (As := [.long x_rd_letters, .int (-1)]) (rest := []) ⟨hx, hb, hml, hown, hts⟩ (c_X8_add l dC dI s.heap.size h_td h_nam h_var h_trm vq81 x_td_parts cy_nam f_nam cy_var f_var cy_trm f_trm x_rd_letters (-1) (by first | exact hx_td_parts | omega) hf_var hf_trm (by omega) (by omega)) ⟨va_cnB (host := "OppositePairs") 2 hts (gd hT w_code_X8_add) rfl rfl rfl (hN _ n_m_X5_89) (hw _ w_ini_X8) (by decide +kernel) ⟨(Nat.le_of_ble_eq_true rfl), (Nat.le_of_ble_eq_true rfl)⟩, hw _ w_instanceMethod_X8_add, hw _ ws_sel_X8_add⟩ ⟨pre_blind, va_recv hK hP (ci := 5) (q0 := 3) rfl rfl, pre_of hPc hKc hDc hN⟩ rfl rfl hl.1 rfl (lv_room (Nat.le_of_ble_eq_true rfl)) dX5_readPart_29 ⟨(Nat.le_of_ble_eq_true rfl), (Nat.le_of_ble_eq_true rfl)⟩) hS (fun q _ h => hFc q h) hFc (fun r82 u t H locs ht hvm hq hB hz1 hk1 hS9 => ?_)
    obtain ⟨z83, f84, f85, f86⟩ := u
    obtain ⟨hP1, hD1⟩ := hB
    rw [ht] at hP1
    obtain ⟨hP9, hD9⟩ := va_join (wr := [(h_rd, .inr (4, (mo31 (.ref h_by) (.int x_rd_length) (.int x_rd_fault) (.int x_rd_place) (.ref h_td) (.ref h_kn) (.int x_rd_variables) (.int x_rd_at) (.int x_rd_behind) (.int x_rd_token) (.long x_rd_letters)))), (h_by, .inl (cy_by, 600, .inl f_by)), (h_kn, .inl (cy_kn, 8, .inl f_kn)), (h_ter, .inl (cy_ter, 900, .inl f_ter))]) (w1 := [(h_td, .inr (5, (mo24 vq81 (.ref h_nam) (.ref h_var) (.ref h_trm) (.int z83)))), (h_nam, .inl (cy_nam, 300, .inr (.inl f84))), (h_var, .inl (cy_var, 300, .inl f85)), (h_trm, .inl (cy_trm, 300, .inl f86))]) hP hD [3, 4, 5, 6] [0, 1, 2, 7] rfl rfl (by decide) (by decide) hk1 hFc hP1 hD1
    clear hP hD hS hPc hDc hKc hFc hP1 hD1 hk1 hz1 ht hvm
    have hP : va_P (dC, dI) cls [(h_rd, .inr (4, (mo31 (.ref h_by) (.int x_rd_length) (.int x_rd_fault) (.int x_rd_place) (.ref h_td) (.ref h_kn) (.int x_rd_variables) (.int x_rd_at) (.int x_rd_behind) (.int x_rd_token) (.long x_rd_letters)))), (h_by, .inl (cy_by, 600, .inl f_by)), (h_kn, .inl (cy_kn, 8, .inl f_kn)), (h_ter, .inl (cy_ter, 900, .inl f_ter)), (h_td, .inr (5, (mo24 vq81 (.ref h_nam) (.ref h_var) (.ref h_trm) (.int z83)))), (h_nam, .inl (cy_nam, 300, .inr (.inl f84))), (h_var, .inl (cy_var, 300, .inl f85)), (h_trm, .inl (cy_trm, 300, .inl f86))] H := hP9
    have hD : va_D A [(h_rd, .inr (4, (mo31 (.ref h_by) (.int x_rd_length) (.int x_rd_fault) (.int x_rd_place) (.ref h_td) (.ref h_kn) (.int x_rd_variables) (.int x_rd_at) (.int x_rd_behind) (.int x_rd_token) (.long x_rd_letters)))), (h_by, .inl (cy_by, 600, .inl f_by)), (h_kn, .inl (cy_kn, 8, .inl f_kn)), (h_ter, .inl (cy_ter, 900, .inl f_ter)), (h_td, .inr (5, (mo24 vq81 (.ref h_nam) (.ref h_var) (.ref h_trm) (.int z83)))), (h_nam, .inl (cy_nam, 300, .inr (.inl f84))), (h_var, .inl (cy_var, 300, .inl f85)), (h_trm, .inl (cy_trm, 300, .inl f86))] := hD9
    have hS := hS9
    clear hP9 hD9 hS9
    rw [evq81] at hP hD
    replace hP : va_P (dC, dI) cls [(h_rd, .inr (4, (mo31 (.ref h_by) (.int x_rd_length) (.int x_rd_fault) (.int x_rd_place) (.ref h_td) (.ref h_kn) (.int x_rd_variables) (.int x_rd_at) (.int x_rd_behind) (.int x_rd_token) (.long x_rd_letters)))), (h_by, .inl (cy_by, 600, .inl f_by)), (h_kn, .inl (cy_kn, 8, .inl f_kn)), (h_ter, .inl (cy_ter, 900, .inl f_ter)), (h_td, .inr (5, (mo32 v_td (.ref h_nam) (.ref h_var) (.ref h_trm) (.ref h_ter) (.int z83)))), (h_nam, .inl (cy_nam, 300, .inr (.inl f84))), (h_var, .inl (cy_var, 300, .inl f85)), (h_trm, .inl (cy_trm, 300, .inl f86))] H := hP
    replace hD : va_D A [(h_rd, .inr (4, (mo31 (.ref h_by) (.int x_rd_length) (.int x_rd_fault) (.int x_rd_place) (.ref h_td) (.ref h_kn) (.int x_rd_variables) (.int x_rd_at) (.int x_rd_behind) (.int x_rd_token) (.long x_rd_letters)))), (h_by, .inl (cy_by, 600, .inl f_by)), (h_kn, .inl (cy_kn, 8, .inl f_kn)), (h_ter, .inl (cy_ter, 900, .inl f_ter)), (h_td, .inr (5, (mo32 v_td (.ref h_nam) (.ref h_var) (.ref h_trm) (.ref h_ter) (.int z83)))), (h_nam, .inl (cy_nam, 300, .inr (.inl f84))), (h_var, .inl (cy_var, 300, .inl f85)), (h_trm, .inl (cy_trm, 300, .inl f86))] := hD
    clear evq81 
    obtain ⟨k87, hf85, hf86, k88, k89, k90, k91⟩ := hq
    replace k87 : 0 ≤ ((z83)).toInt ∧ ((z83)).toInt ≤ 300 := k87
    replace hf85 : Rg (-1) 7 (f85) := hf85
    replace hf86 : Rg 0 3 (f86) := hf86
    replace k88 : 0 ≤ (r82).toInt ∧ (r82).toInt ≤ 299 := k88
    replace k89 : ((r82)).toInt = ((x_td_parts)).toInt := k89
    replace k90 : ((z83)).toInt = ((x_td_parts)).toInt + 1 := k90
    replace k91 : (f84) = vp_updL f_nam (Int32.toNatClampNeg (r82)) (x_rd_letters) := k91
    have vf92 : VFC (x_rd_variables).toInt vf f_kn f84 (z83).toInt := vfc_nam hn_vfc (by omega) (by omega) k91 (by omega) rfl
    refine lv_goto (tgt := 39) hx hb dX5_readPart_32 (by decide) ?_
    refine lv_istore_n (lv' := [(3, .int r82), (2, .int 1), (0, .ref h_rd), (1, .int 4)]) hx hb dX5_readPart_39 rfl hl (by decide) rfl (fun ls hl => ?_)
    refine lv_aload_n hx hb dX5_readPart_40 rfl (lv_at hl 2 rfl) ?_
    refine va_get (D := (dC, dI)) (ci := 4) (v := .int x_rd_fault) (C := RX5) (T := TX5) (N := 11) hx hb hw iwX5 hown hK hP 0 rfl rfl 2 (by decide) (hw _ w_f_X5_34) (fun _ h9 => h9) rfl dX5_readPart_41 ?_
    refine lv_if_eq (tgt := 49) hx hb dX5_readPart_44 (by decide) (fun _ => ?_) (fun c93 => False.elim (by have kc93 := (not_congr (cv_eq (rfl : (x_rd_fault).toInt = (x_rd_fault).toInt) (by decide : (0 : Int32).toInt = 0))).mp c93; omega))
    refine lv_aload_n hx hb dX5_readPart_49 rfl (lv_at hl 2 rfl) ?_
    obtain ⟨vq94, evq94⟩ := mq31_29 (.int x_rd_fault) (.int x_rd_place) (.ref h_td) (.ref h_kn) (.int x_rd_variables)
    replace hP : va_P (dC, dI) cls [(h_rd, .inr (4, (mo29 vq94 (.ref h_by) (.int x_rd_length) (.int x_rd_at) (.int x_rd_behind) (.int x_rd_token) (.long x_rd_letters)))), (h_by, .inl (cy_by, 600, .inl f_by)), (h_kn, .inl (cy_kn, 8, .inl f_kn)), (h_ter, .inl (cy_ter, 900, .inl f_ter)), (h_td, .inr (5, (mo32 v_td (.ref h_nam) (.ref h_var) (.ref h_trm) (.ref h_ter) (.int z83)))), (h_nam, .inl (cy_nam, 300, .inr (.inl f84))), (h_var, .inl (cy_var, 300, .inl f85)), (h_trm, .inl (cy_trm, 300, .inl f86))] H := by rw [evq94]; exact hP
    replace hD : va_D A [(h_rd, .inr (4, (mo29 vq94 (.ref h_by) (.int x_rd_length) (.int x_rd_at) (.int x_rd_behind) (.int x_rd_token) (.long x_rd_letters)))), (h_by, .inl (cy_by, 600, .inl f_by)), (h_kn, .inl (cy_kn, 8, .inl f_kn)), (h_ter, .inl (cy_ter, 900, .inl f_ter)), (h_td, .inr (5, (mo32 v_td (.ref h_nam) (.ref h_var) (.ref h_trm) (.ref h_ter) (.int z83)))), (h_nam, .inl (cy_nam, 300, .inr (.inl f84))), (h_var, .inl (cy_var, 300, .inl f85)), (h_trm, .inl (cy_trm, 300, .inl f86))] := by rw [evq94]; exact hD
    have hPc := hP.sub (ws' := [(h_rd, .inr (4, (mo29 vq94 (.ref h_by) (.int x_rd_length) (.int x_rd_at) (.int x_rd_behind) (.int x_rd_token) (.long x_rd_letters)))), (h_by, .inl (cy_by, 600, .inl f_by))]) [0, 1] rfl
    have hDc := hD.sub (ws' := [(h_rd, .inr (4, (mo29 vq94 (.ref h_by) (.int x_rd_length) (.int x_rd_at) (.int x_rd_behind) (.int x_rd_token) (.long x_rd_letters)))), (h_by, .inl (cy_by, 600, .inl f_by))]) [0, 1] (by decide) rfl
    have hKc := hK.sub (tys' := [(cy_by, .int)]) [0] rfl
    have hFc := va_free (wc := [(h_rd, .inr (4, (mo29 vq94 (.ref h_by) (.int x_rd_length) (.int x_rd_at) (.int x_rd_behind) (.int x_rd_token) (.long x_rd_letters)))), (h_by, .inl (cy_by, 600, .inl f_by))]) hD hS hA [0, 1] rfl
    refine va_callv (va_runV (As := []) (rest := []) ⟨hx, hb, hml, hown, hts⟩ (c_X5_nextToken l dC dI H.size h_rd h_by vq94 x_rd_length x_rd_at x_rd_behind x_rd_token x_rd_letters cy_by f_by G (by first | exact hx_rd_length | omega) (by first | exact hx_rd_at | omega) (by first | exact hx_rd_behind | omega) hf_by (by first | exact q7 | omega) hn_byt) (cwV 0 hts (gv hT w_m_X5_40 w_instanceMethod_X5_nextToken ws_sel_X5_nextToken w_ini_X5 w_code_X5_nextToken) rfl rfl rfl (by decide +kernel) ⟨(Nat.le_of_ble_eq_true rfl), (Nat.le_of_ble_eq_true rfl)⟩) ⟨pre_blind, va_recv hK hP (ci := 4) (q0 := 0) rfl rfl, pre_of hPc hKc hDc hN⟩ rfl rfl hl.1 rfl (lv_room (Nat.le_of_ble_eq_true rfl)) dX5_readPart_50 ⟨(Nat.le_of_ble_eq_true rfl), (Nat.le_of_ble_eq_true rfl)⟩) hS (fun q _ h => hFc q h) hFc (fun u t H locs ht hvm hq hB hz1 hk1 hS9 => ?_)
    obtain ⟨z96, z97, z98, z99⟩ := u
    obtain ⟨hP1, hD1⟩ := hB
    rw [ht] at hP1
    obtain ⟨hP9, hD9⟩ := va_join (wr := [(h_kn, .inl (cy_kn, 8, .inl f_kn)), (h_ter, .inl (cy_ter, 900, .inl f_ter)), (h_td, .inr (5, (mo32 v_td (.ref h_nam) (.ref h_var) (.ref h_trm) (.ref h_ter) (.int z83)))), (h_nam, .inl (cy_nam, 300, .inr (.inl f84))), (h_var, .inl (cy_var, 300, .inl f85)), (h_trm, .inl (cy_trm, 300, .inl f86))]) (w1 := [(h_rd, .inr (4, (mo29 vq94 (.ref h_by) (.int x_rd_length) (.int z96) (.int z97) (.int z98) (.long z99)))), (h_by, .inl (cy_by, 600, .inl f_by))]) hP hD [0, 1] [2, 3, 4, 5, 6, 7] rfl rfl (by decide) (by decide) hk1 hFc hP1 hD1
    clear hP hD hS hPc hDc hKc hFc hP1 hD1 hk1 hz1 ht hvm
    have hP : va_P (dC, dI) cls [(h_kn, .inl (cy_kn, 8, .inl f_kn)), (h_ter, .inl (cy_ter, 900, .inl f_ter)), (h_td, .inr (5, (mo32 v_td (.ref h_nam) (.ref h_var) (.ref h_trm) (.ref h_ter) (.int z83)))), (h_nam, .inl (cy_nam, 300, .inr (.inl f84))), (h_var, .inl (cy_var, 300, .inl f85)), (h_trm, .inl (cy_trm, 300, .inl f86)), (h_rd, .inr (4, (mo29 vq94 (.ref h_by) (.int x_rd_length) (.int z96) (.int z97) (.int z98) (.long z99)))), (h_by, .inl (cy_by, 600, .inl f_by))] H := hP9
    have hD : va_D A [(h_kn, .inl (cy_kn, 8, .inl f_kn)), (h_ter, .inl (cy_ter, 900, .inl f_ter)), (h_td, .inr (5, (mo32 v_td (.ref h_nam) (.ref h_var) (.ref h_trm) (.ref h_ter) (.int z83)))), (h_nam, .inl (cy_nam, 300, .inr (.inl f84))), (h_var, .inl (cy_var, 300, .inl f85)), (h_trm, .inl (cy_trm, 300, .inl f86)), (h_rd, .inr (4, (mo29 vq94 (.ref h_by) (.int x_rd_length) (.int z96) (.int z97) (.int z98) (.long z99)))), (h_by, .inl (cy_by, 600, .inl f_by))] := hD9
    have hS := hS9
    clear hP9 hD9 hS9
    rw [evq94] at hP hD
    replace hP : va_P (dC, dI) cls [(h_kn, .inl (cy_kn, 8, .inl f_kn)), (h_ter, .inl (cy_ter, 900, .inl f_ter)), (h_td, .inr (5, (mo32 v_td (.ref h_nam) (.ref h_var) (.ref h_trm) (.ref h_ter) (.int z83)))), (h_nam, .inl (cy_nam, 300, .inr (.inl f84))), (h_var, .inl (cy_var, 300, .inl f85)), (h_trm, .inl (cy_trm, 300, .inl f86)), (h_rd, .inr (4, (mo31 (.ref h_by) (.int x_rd_length) (.int x_rd_fault) (.int x_rd_place) (.ref h_td) (.ref h_kn) (.int x_rd_variables) (.int z96) (.int z97) (.int z98) (.long z99)))), (h_by, .inl (cy_by, 600, .inl f_by))] H := hP
    replace hD : va_D A [(h_kn, .inl (cy_kn, 8, .inl f_kn)), (h_ter, .inl (cy_ter, 900, .inl f_ter)), (h_td, .inr (5, (mo32 v_td (.ref h_nam) (.ref h_var) (.ref h_trm) (.ref h_ter) (.int z83)))), (h_nam, .inl (cy_nam, 300, .inr (.inl f84))), (h_var, .inl (cy_var, 300, .inl f85)), (h_trm, .inl (cy_trm, 300, .inl f86)), (h_rd, .inr (4, (mo31 (.ref h_by) (.int x_rd_length) (.int x_rd_fault) (.int x_rd_place) (.ref h_td) (.ref h_kn) (.int x_rd_variables) (.int z96) (.int z97) (.int z98) (.long z99)))), (h_by, .inl (cy_by, 600, .inl f_by))] := hD
    clear evq94 
    obtain ⟨k100, k101, k102, k103, k104, k105, k106, k107, k108, k109, k110⟩ := hq
    replace k100 : 0 ≤ ((z96)).toInt ∧ ((z96)).toInt ≤ 600 := k100
    replace k101 : 0 ≤ ((z97)).toInt ∧ ((z97)).toInt ≤ 600 := k101
    replace k102 : ((z96)).toInt = tkS (G) ((x_rd_length)).toInt ((x_rd_behind)).toInt := k102
    replace k103 : ((x_rd_behind)).toInt ≤ ((z96)).toInt := k103
    replace k104 : ((z98)).toInt = tkT (G) ((x_rd_length)).toInt ((z96)).toInt := k104
    replace k105 : ((z98)).toInt = -1 ∨ ((z97)).toInt = tkX (G) ((x_rd_length)).toInt ((z96)).toInt := k105
    replace k106 : ¬ ((z98)).toInt = 257 ∨ ((z99)).toInt = (G) ((z96)).toInt := k106
    replace k107 : -1 ≤ ((z98)).toInt ∧ ((z98)).toInt ≤ 258 := k107
    replace k108 : ((z97)).toInt ≤ ((x_rd_length)).toInt := k108
    replace k109 : ((z98)).toInt = -1 ∨ ((z96)).toInt < ((x_rd_length)).toInt := k109
    replace k110 : ((z96)).toInt ≤ ((x_rd_length)).toInt := k110
    have tn111b : (x_rd_behind).toInt = tkX G (x_rd_length).toInt (x_rd_at).toInt := by omega
    have tn111 : (z96).toInt = tkN G (x_rd_length).toInt (x_rd_at).toInt := by rw [k102, tn111b]; rfl
    have tn111t : (z98).toInt = tkT G (x_rd_length).toInt (tkN G (x_rd_length).toInt (x_rd_at).toInt) := by rw [← tn111]; exact k104
    have tn111g := tkN_gt (G := G) (n := (x_rd_length).toInt) (a := (x_rd_at).toInt) (by omega) (by omega) (by omega)
    have tw9 := nx_two (G := G) (n := (x_rd_length).toInt) hn_byt.1 (by omega) (by omega) q0 (by omega) tn111 k104
    refine lv_iload_n hx hb dX5_readPart_53 rfl (lv_at hl 1 rfl) ?_
    refine lv_if_eq (tgt := 66) hx hb dX5_readPart_54 (by decide) (fun c9 => absurd c9 (by decide)) (fun _ => ?_)
    refine lv_aload_n hx hb dX5_readPart_57 rfl (lv_at hl 2 rfl) ?_
    refine va_get (D := (dC, dI)) (ci := 4) (v := .int z98) (C := RX5) (T := TX5) (N := 11) hx hb hw iwX5 hown hK hP 6 rfl rfl 9 (by decide) (hw _ w_f_X5_43) (fun _ h9 => h9) rfl dX5_readPart_58 ?_
    refine lv_bipush (v := 40) hx hb dX5_readPart_61 (by decide) ?_
    refine lv_icmp_eq (tgt := 68) hx hb dX5_readPart_63 (by decide) (fun c112 => ?_) (fun c112 => ?_)
    · have kc112 := (cv_eq (rfl : (z98).toInt = (z98).toInt) (by decide : (40 : Int32).toInt = 40)).mp c112
      refine lv_iload_n hx hb dX5_readPart_68 rfl (lv_at hl 3 rfl) ?_
      refine lv_bipush (v := 6) hx hb dX5_readPart_69 (by decide) ?_
      refine lv_icmp_lt (tgt := 81) hx hb dX5_readPart_71 (by decide) (fun _ => ?_) (fun c9 => absurd c9 (by decide))
      have lo0 : pLo G (x_rd_length).toInt (pPs G (x_rd_length).toInt 1) 3 (z96).toInt (x_rd_variables).toInt vf = (pTm G (x_rd_length).toInt (pPs G (x_rd_length).toInt 2) (x_rd_at).toInt (x_rd_variables).toInt vf) := by rw [tn111]; exact ((pTm_name (by omega)).trans (pPs_open (by omega))).symm
      refine lv_iconst (v := 0) hx hb dX5_readPart_81 (by decide) ?_
      refine lv_istore (lv' := [(4, .int 0), (3, .int r82), (2, .int 1), (0, .ref h_rd), (1, .int 4)]) hx hb dX5_readPart_82 hl (by decide) rfl (fun ls hl => ?_)
      have lp129 : ∀ (n : Nat) (x113 : Int32) (f114 : Nat → Int32) (f115 : Nat → Int32) (x116 : Int32) (f117 : Nat → Int64) (f118 : Nat → Int32) (f119 : Nat → Int32) (x120 : Int32) (x121 : Int32) (x122 : Int32) (x123 : Int32) (x124 : Int32) (x125 : Int32) (x126 : Int64) (gh127 : Nat) (gh128 : Int → Int) (H : Heap) (locs : List Loc) (ls : Array Slot), (0 ≤ (x113).toInt ∧ (x113).toInt ≤ 3) → (Rg 0 299 f114) → (Rg 0 299 f115) → (0 ≤ (x116).toInt ∧ (x116).toInt ≤ 300) → (Rg (-1) 7 f118) → (Rg 0 3 f119) → (0 ≤ (x122).toInt ∧ (x122).toInt ≤ 8) → (0 ≤ (x123).toInt ∧ (x123).toInt ≤ 600) → (0 ≤ (x124).toInt ∧ (x124).toInt ≤ 600) → ((x125).toInt = tkT G (x_rd_length).toInt (x123).toInt) → ((x124).toInt = tkX G (x_rd_length).toInt (x123).toInt) → ((x125).toInt = 40 ∨ (x125).toInt = 44) → (2 * (x116).toInt ≤ (x123).toInt + 1) → ((x123).toInt < (x_rd_length).toInt) → ((x124).toInt ≤ (x_rd_length).toInt) → ((x_rd_at).toInt ≤ (x123).toInt) → ((x120).toInt = 0) → ((x121).toInt = (x_rd_place).toInt) → ((gh127 : Int) = 3 - (x113).toInt) → (pLo G (x_rd_length).toInt (pPs G (x_rd_length).toInt 1) gh127 (x123).toInt (x122).toInt gh128 = (pTm G (x_rd_length).toInt (pPs G (x_rd_length).toInt 2) (x_rd_at).toInt (x_rd_variables).toInt vf)) → (VFC (x122).toInt gh128 f114 f117 (x116).toInt) → (4 - (x113).toInt).toNat + 1 ≤ n → va_P (dC, dI) cls [(h_kn, .inl (cy_kn, 8, .inl f114)), (h_ter, .inl (cy_ter, 900, .inl f115)), (h_td, .inr (5, (mo32 v_td (.ref h_nam) (.ref h_var) (.ref h_trm) (.ref h_ter) (.int x116)))), (h_nam, .inl (cy_nam, 300, .inr (.inl f117))), (h_var, .inl (cy_var, 300, .inl f118)), (h_trm, .inl (cy_trm, 300, .inl f119)), (h_rd, .inr (4, (mo31 (.ref h_by) (.int x_rd_length) (.int x120) (.int x121) (.ref h_td) (.ref h_kn) (.int x122) (.int x123) (.int x124) (.int x125) (.long x126)))), (h_by, .inl (cy_by, 600, .inl f_by))] H → va_D A [(h_kn, .inl (cy_kn, 8, .inl f114)), (h_ter, .inl (cy_ter, 900, .inl f115)), (h_td, .inr (5, (mo32 v_td (.ref h_nam) (.ref h_var) (.ref h_trm) (.ref h_ter) (.int x116)))), (h_nam, .inl (cy_nam, 300, .inr (.inl f117))), (h_var, .inl (cy_var, 300, .inl f118)), (h_trm, .inl (cy_trm, 300, .inl f119)), (h_rd, .inr (4, (mo31 (.ref h_by) (.int x_rd_length) (.int x120) (.int x121) (.ref h_td) (.ref h_kn) (.int x122) (.int x123) (.int x124) (.int x125) (.long x126)))), (h_by, .inl (cy_by, 600, .inl f_by))] → va_S A s.heap H locs → lv_has ls 5 [(0, .ref h_rd), (1, .int 4), (2, .int 1), (3, .int r82), (4, .int x113)] → W p l e ({ frames := 5, cells := 0, slots := 0, locals := 173 } : Room) s m ([.ref h_rd, .int 4] : List Value).toArray below meth c H locs 0 0 (MQ below (va_Qi (fun (r : Int32) (u : (Int32) × (Int32) × (Int32) × (Int32) × (Int32) × (Int32) × (Int64) × (Nat → Int32) × (Int32) × (Nat → Int64) × (Nat → Int32) × (Nat → Int32) × (Nat → Int32)) => (0 ≤ (u.2.2.1).toInt ∧ (u.2.2.1).toInt ≤ 8) ∧ (0 ≤ (u.2.2.2.1).toInt ∧ (u.2.2.2.1).toInt ≤ 600) ∧ (0 ≤ (u.2.2.2.2.1).toInt ∧ (u.2.2.2.2.1).toInt ≤ 600) ∧ (Rg 0 299 u.2.2.2.2.2.2.2.1) ∧ (0 ≤ (u.2.2.2.2.2.2.2.2.1).toInt ∧ (u.2.2.2.2.2.2.2.2.1).toInt ≤ 300) ∧ (Rg (-1) 7 u.2.2.2.2.2.2.2.2.2.2.1) ∧ (Rg 0 3 u.2.2.2.2.2.2.2.2.2.2.2.1) ∧ (Rg 0 299 u.2.2.2.2.2.2.2.2.2.2.2.2) ∧ (0 ≤ r.toInt ∧ r.toInt ≤ 299) ∧ ((u.1).toInt = ((pTm G (x_rd_length).toInt (pPs G (x_rd_length).toInt 2) (x_rd_at).toInt (x_rd_variables).toInt vf)).1) ∧ ((u.2.2.2.1).toInt = ((pTm G (x_rd_length).toInt (pPs G (x_rd_length).toInt 2) (x_rd_at).toInt (x_rd_variables).toInt vf)).2.1) ∧ ((u.2.2.1).toInt = ((pTm G (x_rd_length).toInt (pPs G (x_rd_length).toInt 2) (x_rd_at).toInt (x_rd_variables).toInt vf)).2.2.1) ∧ (((u.1).toInt = 0 ∧ (u.2.1).toInt = (x_rd_place).toInt) ∨ (¬ (u.1).toInt = 0 ∧ (u.2.1).toInt = (u.2.2.2.1).toInt)) ∧ (2 * (u.2.2.2.2.2.2.2.2.1).toInt ≤ (u.2.2.2.1).toInt + 1) ∧ ((u.2.2.2.2.2.1).toInt < 256 ∨ 2 * (u.2.2.2.2.2.2.2.2.1).toInt ≤ (u.2.2.2.1).toInt) ∧ ((x_rd_at).toInt ≤ (u.2.2.2.1).toInt) ∧ ((u.2.2.2.2.2.1).toInt = tkT G (x_rd_length).toInt (u.2.2.2.1).toInt) ∧ ((u.2.2.2.2.2.1).toInt = -1 ∨ (u.2.2.2.2.1).toInt = tkX G (x_rd_length).toInt (u.2.2.2.1).toInt) ∧ (¬ (u.2.2.2.2.2.1).toInt = 257 ∨ (u.2.2.2.2.2.2.1).toInt = G (u.2.2.2.1).toInt) ∧ (-1 ≤ (u.2.2.2.2.2.1).toInt ∧ (u.2.2.2.2.2.1).toInt ≤ 258) ∧ ((u.2.2.2.2.1).toInt ≤ (x_rd_length).toInt) ∧ ((u.2.2.2.2.2.1).toInt = -1 ∨ (u.2.2.2.1).toInt < (x_rd_length).toInt) ∧ ((u.2.2.2.1).toInt ≤ (x_rd_length).toInt) ∧ (VFC (u.2.2.1).toInt ((pTm G (x_rd_length).toInt (pPs G (x_rd_length).toInt 2) (x_rd_at).toInt (x_rd_variables).toInt vf)).2.2.2 u.2.2.2.2.2.2.2.1 u.2.2.2.2.2.2.2.2.2.1 (u.2.2.2.2.2.2.2.2.1).toInt)) (fun (u : (Int32) × (Int32) × (Int32) × (Int32) × (Int32) × (Int32) × (Int64) × (Nat → Int32) × (Int32) × (Nat → Int64) × (Nat → Int32) × (Nat → Int32) × (Nat → Int32)) (t : State) => va_P (dC, dI) cls [(h_rd, .inr (4, (mo31 (.ref h_by) (.int x_rd_length) (.int u.1) (.int u.2.1) (.ref h_td) (.ref h_kn) (.int u.2.2.1) (.int u.2.2.2.1) (.int u.2.2.2.2.1) (.int u.2.2.2.2.2.1) (.long u.2.2.2.2.2.2.1)))), (h_by, .inl (cy_by, 600, .inl f_by)), (h_kn, .inl (cy_kn, 8, .inl u.2.2.2.2.2.2.2.1)), (h_td, .inr (5, (mo32 v_td (.ref h_nam) (.ref h_var) (.ref h_trm) (.ref h_ter) (.int u.2.2.2.2.2.2.2.2.1)))), (h_nam, .inl (cy_nam, 300, .inr (.inl u.2.2.2.2.2.2.2.2.2.1))), (h_var, .inl (cy_var, 300, .inl u.2.2.2.2.2.2.2.2.2.2.1)), (h_trm, .inl (cy_trm, 300, .inl u.2.2.2.2.2.2.2.2.2.2.2.1)), (h_ter, .inl (cy_ter, 900, .inl u.2.2.2.2.2.2.2.2.2.2.2.2))] t.heap ∧ va_D A [(h_rd, .inr (4, (mo31 (.ref h_by) (.int x_rd_length) (.int u.1) (.int u.2.1) (.ref h_td) (.ref h_kn) (.int u.2.2.1) (.int u.2.2.2.1) (.int u.2.2.2.2.1) (.int u.2.2.2.2.2.1) (.long u.2.2.2.2.2.2.1)))), (h_by, .inl (cy_by, 600, .inl f_by)), (h_kn, .inl (cy_kn, 8, .inl u.2.2.2.2.2.2.2.1)), (h_td, .inr (5, (mo32 v_td (.ref h_nam) (.ref h_var) (.ref h_trm) (.ref h_ter) (.int u.2.2.2.2.2.2.2.2.1)))), (h_nam, .inl (cy_nam, 300, .inr (.inl u.2.2.2.2.2.2.2.2.2.1))), (h_var, .inl (cy_var, 300, .inl u.2.2.2.2.2.2.2.2.2.2.1)), (h_trm, .inl (cy_trm, 300, .inl u.2.2.2.2.2.2.2.2.2.2.2.1)), (h_ter, .inl (cy_ter, 900, .inl u.2.2.2.2.2.2.2.2.2.2.2.2))]) A) ([.ref h_rd, .int 4] : List Value).toArray s 0 0 A) (F0 m 84 ls []) := by
        clear hP hD hS hl
        intro n
        induction n with
        | zero => intro x113 f114 f115 x116 f117 f118 f119 x120 x121 x122 x123 x124 x125 x126 gh127 gh128 H locs ls klp129_0 hf114 hf115 klp129_3 hf118 hf119 klp129_6 klp129_7 klp129_8 klp129_9 klp129_10 klp129_11 klp129_12 klp129_13 klp129_14 klp129_15 klp129_16 klp129_17 klp129_18 klp129_19 klp129_20 hm hP hD hS hl; exact False.elim (by omega)
        | succ n ih => 
          intro x113 f114 f115 x116 f117 f118 f119 x120 x121 x122 x123 x124 x125 x126 gh127 gh128 H locs ls klp129_0 hf114 hf115 klp129_3 hf118 hf119 klp129_6 klp129_7 klp129_8 klp129_9 klp129_10 klp129_11 klp129_12 klp129_13 klp129_14 klp129_15 klp129_16 klp129_17 klp129_18 klp129_19 klp129_20 hm hP hD hS hl
          have ih130 := ih
          clear ih
          refine lv_iload hx hb dX5_readPart_84 (lv_at hl 4 rfl) ?_
          refine lv_iconst (v := 3) hx hb dX5_readPart_86 (by decide) ?_
          refine lv_icmp_gt (tgt := 197) hx hb dX5_readPart_87 (by decide) (fun c131 => False.elim (by have kc131 := (cv_lt (by decide : (3 : Int32).toInt = 3) (rfl : (x113).toInt = (x113).toInt)).mp c131; omega)) (fun _ => ?_)
          refine lv_aload_n hx hb dX5_readPart_90 rfl (lv_at hl 0 rfl) ?_
          obtain ⟨vq132, evq132⟩ := mq31_29 (.int x120) (.int x121) (.ref h_td) (.ref h_kn) (.int x122)
          replace hP : va_P (dC, dI) cls [(h_kn, .inl (cy_kn, 8, .inl f114)), (h_ter, .inl (cy_ter, 900, .inl f115)), (h_td, .inr (5, (mo32 v_td (.ref h_nam) (.ref h_var) (.ref h_trm) (.ref h_ter) (.int x116)))), (h_nam, .inl (cy_nam, 300, .inr (.inl f117))), (h_var, .inl (cy_var, 300, .inl f118)), (h_trm, .inl (cy_trm, 300, .inl f119)), (h_rd, .inr (4, (mo29 vq132 (.ref h_by) (.int x_rd_length) (.int x123) (.int x124) (.int x125) (.long x126)))), (h_by, .inl (cy_by, 600, .inl f_by))] H := by rw [evq132]; exact hP
          replace hD : va_D A [(h_kn, .inl (cy_kn, 8, .inl f114)), (h_ter, .inl (cy_ter, 900, .inl f115)), (h_td, .inr (5, (mo32 v_td (.ref h_nam) (.ref h_var) (.ref h_trm) (.ref h_ter) (.int x116)))), (h_nam, .inl (cy_nam, 300, .inr (.inl f117))), (h_var, .inl (cy_var, 300, .inl f118)), (h_trm, .inl (cy_trm, 300, .inl f119)), (h_rd, .inr (4, (mo29 vq132 (.ref h_by) (.int x_rd_length) (.int x123) (.int x124) (.int x125) (.long x126)))), (h_by, .inl (cy_by, 600, .inl f_by))] := by rw [evq132]; exact hD
          have hPc := hP.sub (ws' := [(h_rd, .inr (4, (mo29 vq132 (.ref h_by) (.int x_rd_length) (.int x123) (.int x124) (.int x125) (.long x126)))), (h_by, .inl (cy_by, 600, .inl f_by))]) [6, 7] rfl
          have hDc := hD.sub (ws' := [(h_rd, .inr (4, (mo29 vq132 (.ref h_by) (.int x_rd_length) (.int x123) (.int x124) (.int x125) (.long x126)))), (h_by, .inl (cy_by, 600, .inl f_by))]) [6, 7] (by decide) rfl
          have hKc := hK.sub (tys' := [(cy_by, .int)]) [0] rfl
          have hFc := va_free (wc := [(h_rd, .inr (4, (mo29 vq132 (.ref h_by) (.int x_rd_length) (.int x123) (.int x124) (.int x125) (.long x126)))), (h_by, .inl (cy_by, 600, .inl f_by))]) hD hS hA [6, 7] rfl
          refine va_callv (va_runV (As := []) (rest := []) ⟨hx, hb, hml, hown, hts⟩ (c_X5_nextToken l dC dI H.size h_rd h_by vq132 x_rd_length x123 x124 x125 x126 cy_by f_by G (by first | exact hx_rd_length | omega) (by first | exact klp129_7 | omega) (by first | exact klp129_8 | omega) hf_by (by first | exact klp129_14 | omega) hn_byt) (cwV 0 hts (gv hT w_m_X5_40 w_instanceMethod_X5_nextToken ws_sel_X5_nextToken w_ini_X5 w_code_X5_nextToken) rfl rfl rfl (by decide +kernel) ⟨(Nat.le_of_ble_eq_true rfl), (Nat.le_of_ble_eq_true rfl)⟩) ⟨pre_blind, va_recv hK hP (ci := 4) (q0 := 6) rfl rfl, pre_of hPc hKc hDc hN⟩ rfl rfl hl.1 rfl (lv_room (Nat.le_of_ble_eq_true rfl)) dX5_readPart_91 ⟨(Nat.le_of_ble_eq_true rfl), (Nat.le_of_ble_eq_true rfl)⟩) hS (fun q _ h => hFc q h) hFc (fun u t H locs ht hvm hq hB hz1 hk1 hS9 => ?_)
          obtain ⟨z134, z135, z136, z137⟩ := u
          obtain ⟨hP1, hD1⟩ := hB
          rw [ht] at hP1
          obtain ⟨hP9, hD9⟩ := va_join (wr := [(h_kn, .inl (cy_kn, 8, .inl f114)), (h_ter, .inl (cy_ter, 900, .inl f115)), (h_td, .inr (5, (mo32 v_td (.ref h_nam) (.ref h_var) (.ref h_trm) (.ref h_ter) (.int x116)))), (h_nam, .inl (cy_nam, 300, .inr (.inl f117))), (h_var, .inl (cy_var, 300, .inl f118)), (h_trm, .inl (cy_trm, 300, .inl f119))]) (w1 := [(h_rd, .inr (4, (mo29 vq132 (.ref h_by) (.int x_rd_length) (.int z134) (.int z135) (.int z136) (.long z137)))), (h_by, .inl (cy_by, 600, .inl f_by))]) hP hD [6, 7] [0, 1, 2, 3, 4, 5] rfl rfl (by decide) (by decide) hk1 hFc hP1 hD1
          clear hP hD hS hPc hDc hKc hFc hP1 hD1 hk1 hz1 ht hvm
          have hP : va_P (dC, dI) cls [(h_kn, .inl (cy_kn, 8, .inl f114)), (h_ter, .inl (cy_ter, 900, .inl f115)), (h_td, .inr (5, (mo32 v_td (.ref h_nam) (.ref h_var) (.ref h_trm) (.ref h_ter) (.int x116)))), (h_nam, .inl (cy_nam, 300, .inr (.inl f117))), (h_var, .inl (cy_var, 300, .inl f118)), (h_trm, .inl (cy_trm, 300, .inl f119)), (h_rd, .inr (4, (mo29 vq132 (.ref h_by) (.int x_rd_length) (.int z134) (.int z135) (.int z136) (.long z137)))), (h_by, .inl (cy_by, 600, .inl f_by))] H := hP9
          have hD : va_D A [(h_kn, .inl (cy_kn, 8, .inl f114)), (h_ter, .inl (cy_ter, 900, .inl f115)), (h_td, .inr (5, (mo32 v_td (.ref h_nam) (.ref h_var) (.ref h_trm) (.ref h_ter) (.int x116)))), (h_nam, .inl (cy_nam, 300, .inr (.inl f117))), (h_var, .inl (cy_var, 300, .inl f118)), (h_trm, .inl (cy_trm, 300, .inl f119)), (h_rd, .inr (4, (mo29 vq132 (.ref h_by) (.int x_rd_length) (.int z134) (.int z135) (.int z136) (.long z137)))), (h_by, .inl (cy_by, 600, .inl f_by))] := hD9
          have hS := hS9
          clear hP9 hD9 hS9
          rw [evq132] at hP hD
          replace hP : va_P (dC, dI) cls [(h_kn, .inl (cy_kn, 8, .inl f114)), (h_ter, .inl (cy_ter, 900, .inl f115)), (h_td, .inr (5, (mo32 v_td (.ref h_nam) (.ref h_var) (.ref h_trm) (.ref h_ter) (.int x116)))), (h_nam, .inl (cy_nam, 300, .inr (.inl f117))), (h_var, .inl (cy_var, 300, .inl f118)), (h_trm, .inl (cy_trm, 300, .inl f119)), (h_rd, .inr (4, (mo31 (.ref h_by) (.int x_rd_length) (.int x120) (.int x121) (.ref h_td) (.ref h_kn) (.int x122) (.int z134) (.int z135) (.int z136) (.long z137)))), (h_by, .inl (cy_by, 600, .inl f_by))] H := hP
          replace hD : va_D A [(h_kn, .inl (cy_kn, 8, .inl f114)), (h_ter, .inl (cy_ter, 900, .inl f115)), (h_td, .inr (5, (mo32 v_td (.ref h_nam) (.ref h_var) (.ref h_trm) (.ref h_ter) (.int x116)))), (h_nam, .inl (cy_nam, 300, .inr (.inl f117))), (h_var, .inl (cy_var, 300, .inl f118)), (h_trm, .inl (cy_trm, 300, .inl f119)), (h_rd, .inr (4, (mo31 (.ref h_by) (.int x_rd_length) (.int x120) (.int x121) (.ref h_td) (.ref h_kn) (.int x122) (.int z134) (.int z135) (.int z136) (.long z137)))), (h_by, .inl (cy_by, 600, .inl f_by))] := hD
          clear evq132 
          obtain ⟨k138, k139, k140, k141, k142, k143, k144, k145, k146, k147, k148⟩ := hq
          replace k138 : 0 ≤ ((z134)).toInt ∧ ((z134)).toInt ≤ 600 := k138
          replace k139 : 0 ≤ ((z135)).toInt ∧ ((z135)).toInt ≤ 600 := k139
          replace k140 : ((z134)).toInt = tkS (G) ((x_rd_length)).toInt ((x124)).toInt := k140
          replace k141 : ((x124)).toInt ≤ ((z134)).toInt := k141
          replace k142 : ((z136)).toInt = tkT (G) ((x_rd_length)).toInt ((z134)).toInt := k142
          replace k143 : ((z136)).toInt = -1 ∨ ((z135)).toInt = tkX (G) ((x_rd_length)).toInt ((z134)).toInt := k143
          replace k144 : ¬ ((z136)).toInt = 257 ∨ ((z137)).toInt = (G) ((z134)).toInt := k144
          replace k145 : -1 ≤ ((z136)).toInt ∧ ((z136)).toInt ≤ 258 := k145
          replace k146 : ((z135)).toInt ≤ ((x_rd_length)).toInt := k146
          replace k147 : ((z136)).toInt = -1 ∨ ((z134)).toInt < ((x_rd_length)).toInt := k147
          replace k148 : ((z134)).toInt ≤ ((x_rd_length)).toInt := k148
          have tn149b : (x124).toInt = tkX G (x_rd_length).toInt (x123).toInt := by omega
          have tn149 : (z134).toInt = tkN G (x_rd_length).toInt (x123).toInt := by rw [k140, tn149b]; rfl
          have tn149t : (z136).toInt = tkT G (x_rd_length).toInt (tkN G (x_rd_length).toInt (x123).toInt) := by rw [← tn149]; exact k142
          have tn149g := tkN_gt (G := G) (n := (x_rd_length).toInt) (a := (x123).toInt) (by omega) (by omega) (by omega)
          refine lv_aload_n hx hb dX5_readPart_94 rfl (lv_at hl 0 rfl) ?_
          refine va_get (D := (dC, dI)) (ci := 4) (v := .int z136) (C := RX5) (T := TX5) (N := 11) hx hb hw iwX5 hown hK hP 6 rfl rfl 9 (by decide) (hw _ w_f_X5_43) (fun _ h9 => h9) rfl dX5_readPart_95 ?_
          refine lv_sipush (v := 256) hx hb dX5_readPart_98 (by decide) ?_
          refine lv_icmp_eq (tgt := 122) hx hb dX5_readPart_101 (by decide) (fun c150 => ?_) (fun c150 => ?_)
          · have kc150 := (cv_eq (rfl : (z136).toInt = (z136).toInt) (by decide : (256 : Int32).toInt = 256)).mp c150
            refine lv_iload hx hb dX5_readPart_122 (lv_at hl 4 rfl) ?_
            refine lv_iconst (v := 3) hx hb dX5_readPart_124 (by decide) ?_
            refine lv_icmp_ne (tgt := 136) hx hb dX5_readPart_125 (by decide) (fun c151 => ?_) (fun c151 => ?_)
            · have kc151 := (not_congr (cv_eq (rfl : (x113).toInt = (x113).toInt) (by decide : (3 : Int32).toInt = 3))).mp c151
              obtain ⟨rr152, rfl⟩ : ∃ y : Nat, gh127 = y + 1 := ⟨gh127 - 1, by omega⟩
              refine lv_aload_n hx hb dX5_readPart_136 rfl (lv_at hl 0 rfl) ?_
              refine va_get (D := (dC, dI)) (ci := 4) (v := .ref h_td) (C := RX5) (T := TX5) (N := 11) hx hb hw iwX5 hown hK hP 6 rfl rfl 4 (by decide) (hw _ w_f_X5_25) (fun _ h9 => h9) rfl dX5_readPart_137 ?_
              refine va_getN (D := (dC, dI)) (ci := 5) (v := .ref h_ter) (C := RX8) (T := TX8) (N := 10) (host := "OppositePairs") hx hb hw iwX8 hown hK hP 2 rfl rfl 3 (by decide) (hN.use n_f_X5_97 rfl) (fun _ h9 => h9) rfl dX5_readPart_140 ?_
              refine lv_iload_n hx hb dX5_readPart_143 rfl (lv_at hl 3 rfl) ?_
              refine lv_iconst (v := 3) hx hb dX5_readPart_144 (by decide) ?_
              refine lv_imul hx hb dX5_readPart_145 ?_
              refine lv_topi (fun z153 ez153 => ?_)
              have tz153 : (z153).toInt = (r82).toInt * 3 := by rw [ez153]; exact i_mul rfl (by decide) (by omega)
              refine lv_iload hx hb dX5_readPart_146 (lv_at hl 4 rfl) ?_
              refine lv_iadd hx hb dX5_readPart_148 ?_
              refine lv_topi (fun z154 ez154 => ?_)
              have tz154 : (z154).toInt = (z153).toInt + (x113).toInt := by rw [ez154]; exact i_add rfl rfl (by omega)
              refine lv_aload_n hx hb dX5_readPart_149 rfl (lv_at hl 0 rfl) ?_
              refine lv_iload_n hx hb dX5_readPart_150 rfl (lv_at hl 1 rfl) ?_
              refine lv_iconst (v := 1) hx hb dX5_readPart_151 (by decide) ?_
              refine lv_iadd hx hb dX5_readPart_152 ?_
              refine lv_topi (fun z155 ez155 => ?_)
              obtain rfl : z155 = 5 := ez155.trans (by decide)
              have cst5 : (5 : Int32).toInt = 5 := by decide
              have hPc := hP.sub (ws' := [(h_rd, .inr (4, (mo31 (.ref h_by) (.int x_rd_length) (.int x120) (.int x121) (.ref h_td) (.ref h_kn) (.int x122) (.int z134) (.int z135) (.int z136) (.long z137)))), (h_by, .inl (cy_by, 600, .inl f_by)), (h_kn, .inl (cy_kn, 8, .inl f114)), (h_td, .inr (5, (mo32 v_td (.ref h_nam) (.ref h_var) (.ref h_trm) (.ref h_ter) (.int x116)))), (h_nam, .inl (cy_nam, 300, .inr (.inl f117))), (h_var, .inl (cy_var, 300, .inl f118)), (h_trm, .inl (cy_trm, 300, .inl f119)), (h_ter, .inl (cy_ter, 900, .inl f115))]) [6, 7, 0, 2, 3, 4, 5, 1] rfl
              have hDc := hD.sub (ws' := [(h_rd, .inr (4, (mo31 (.ref h_by) (.int x_rd_length) (.int x120) (.int x121) (.ref h_td) (.ref h_kn) (.int x122) (.int z134) (.int z135) (.int z136) (.long z137)))), (h_by, .inl (cy_by, 600, .inl f_by)), (h_kn, .inl (cy_kn, 8, .inl f114)), (h_td, .inr (5, (mo32 v_td (.ref h_nam) (.ref h_var) (.ref h_trm) (.ref h_ter) (.int x116)))), (h_nam, .inl (cy_nam, 300, .inr (.inl f117))), (h_var, .inl (cy_var, 300, .inl f118)), (h_trm, .inl (cy_trm, 300, .inl f119)), (h_ter, .inl (cy_ter, 900, .inl f115))]) [6, 7, 0, 2, 3, 4, 5, 1] (by decide) rfl
              have hKc := hK.sub (tys' := [(cy_by, .int), (cy_kn, .int), (cy_nam, .long), (cy_var, .int), (cy_trm, .int), (cy_ter, .int)]) [0, 1, 2, 3, 4, 5] rfl
              have hFc := va_free (wc := [(h_rd, .inr (4, (mo31 (.ref h_by) (.int x_rd_length) (.int x120) (.int x121) (.ref h_td) (.ref h_kn) (.int x122) (.int z134) (.int z135) (.int z136) (.long z137)))), (h_by, .inl (cy_by, 600, .inl f_by)), (h_kn, .inl (cy_kn, 8, .inl f114)), (h_td, .inr (5, (mo32 v_td (.ref h_nam) (.ref h_var) (.ref h_trm) (.ref h_ter) (.int x116)))), (h_nam, .inl (cy_nam, 300, .inr (.inl f117))), (h_var, .inl (cy_var, 300, .inl f118)), (h_trm, .inl (cy_trm, 300, .inl f119)), (h_ter, .inl (cy_ter, 900, .inl f115))]) hD hS hA [6, 7, 0, 2, 3, 4, 5, 1] rfl
              refine va_calli (va_runV (As := [.int 5]) (rest := [.int z154, .ref h_ter]) ⟨hx, hb, hml, hown, hts⟩ (c_X5_readPart_5 l dC dI H.size h_rd h_by h_kn h_td h_nam h_var h_trm h_ter x_rd_length x120 x121 x122 z134 z135 z136 z137 cy_by f_by cy_kn f114 v_td x116 cy_nam f117 cy_var f118 cy_trm f119 cy_ter f115 G gh128 (by first | exact hx_rd_length | omega) (by first | exact klp129_6 | omega) (by first | exact k138 | omega) (by first | exact k139 | omega) hf_by hf114 (by first | exact klp129_3 | omega) hf118 hf119 hf115 (by first | exact k142 | omega) (by omega) (by omega) (by first | exact k144 | omega) (by omega) (by omega) (by omega) (by first | exact k146 | omega) hn_byt klp129_20) (cwV 1 hts (gv hT w_m_X5_81 w_instanceMethod_X5_readPart ws_sel_X5_readPart w_ini_X5 w_code_X5_readPart) rfl rfl rfl (by decide +kernel) ⟨(Nat.le_of_ble_eq_true rfl), (Nat.le_of_ble_eq_true rfl)⟩) ⟨pre_blind, va_recv hK hP (ci := 4) (q0 := 6) rfl rfl, pre_of hPc hKc hDc hN⟩ rfl rfl hl.1 rfl (lv_room (Nat.le_of_ble_eq_true rfl)) dX5_readPart_153 ⟨(Nat.le_of_ble_eq_true rfl), (Nat.le_of_ble_eq_true rfl)⟩) hS (fun q _ h => hFc q h) hFc (fun r156 u t H locs ht hvm hq hB hz1 hk1 hS9 => ?_)
              obtain ⟨z157, z158, z159, z160, z161, z162, z163, f164, z165, f166, f167, f168, f169⟩ := u
              obtain ⟨hP1, hD1⟩ := hB
              rw [ht] at hP1
              obtain ⟨hP9, hD9⟩ := va_join (wr := []) (w1 := [(h_rd, .inr (4, (mo31 (.ref h_by) (.int x_rd_length) (.int z157) (.int z158) (.ref h_td) (.ref h_kn) (.int z159) (.int z160) (.int z161) (.int z162) (.long z163)))), (h_by, .inl (cy_by, 600, .inl f_by)), (h_kn, .inl (cy_kn, 8, .inl f164)), (h_td, .inr (5, (mo32 v_td (.ref h_nam) (.ref h_var) (.ref h_trm) (.ref h_ter) (.int z165)))), (h_nam, .inl (cy_nam, 300, .inr (.inl f166))), (h_var, .inl (cy_var, 300, .inl f167)), (h_trm, .inl (cy_trm, 300, .inl f168)), (h_ter, .inl (cy_ter, 900, .inl f169))]) hP hD [6, 7, 0, 2, 3, 4, 5, 1] [] rfl rfl (by decide) (by decide) hk1 hFc hP1 hD1
              clear hP hD hS hPc hDc hKc hFc hP1 hD1 hk1 hz1 ht hvm
              have hP : va_P (dC, dI) cls [(h_rd, .inr (4, (mo31 (.ref h_by) (.int x_rd_length) (.int z157) (.int z158) (.ref h_td) (.ref h_kn) (.int z159) (.int z160) (.int z161) (.int z162) (.long z163)))), (h_by, .inl (cy_by, 600, .inl f_by)), (h_kn, .inl (cy_kn, 8, .inl f164)), (h_td, .inr (5, (mo32 v_td (.ref h_nam) (.ref h_var) (.ref h_trm) (.ref h_ter) (.int z165)))), (h_nam, .inl (cy_nam, 300, .inr (.inl f166))), (h_var, .inl (cy_var, 300, .inl f167)), (h_trm, .inl (cy_trm, 300, .inl f168)), (h_ter, .inl (cy_ter, 900, .inl f169))] H := hP9
              have hD : va_D A [(h_rd, .inr (4, (mo31 (.ref h_by) (.int x_rd_length) (.int z157) (.int z158) (.ref h_td) (.ref h_kn) (.int z159) (.int z160) (.int z161) (.int z162) (.long z163)))), (h_by, .inl (cy_by, 600, .inl f_by)), (h_kn, .inl (cy_kn, 8, .inl f164)), (h_td, .inr (5, (mo32 v_td (.ref h_nam) (.ref h_var) (.ref h_trm) (.ref h_ter) (.int z165)))), (h_nam, .inl (cy_nam, 300, .inr (.inl f166))), (h_var, .inl (cy_var, 300, .inl f167)), (h_trm, .inl (cy_trm, 300, .inl f168)), (h_ter, .inl (cy_ter, 900, .inl f169))] := hD9
              have hS := hS9
              clear hP9 hD9 hS9
              obtain ⟨k170, k171, k172, hf164, k173, hf167, hf168, hf169, k174, k175, k176, k177, k178, k179, k180, k181, k182, k183, k184, k185, k186, k187, k188, k189⟩ := hq
              replace k170 : 0 ≤ ((z159)).toInt ∧ ((z159)).toInt ≤ 8 := k170
              replace k171 : 0 ≤ ((z160)).toInt ∧ ((z160)).toInt ≤ 600 := k171
              replace k172 : 0 ≤ ((z161)).toInt ∧ ((z161)).toInt ≤ 600 := k172
              replace hf164 : Rg 0 299 (f164) := hf164
              replace k173 : 0 ≤ ((z165)).toInt ∧ ((z165)).toInt ≤ 300 := k173
              replace hf167 : Rg (-1) 7 (f167) := hf167
              replace hf168 : Rg 0 3 (f168) := hf168
              replace hf169 : Rg 0 299 (f169) := hf169
              replace k174 : 0 ≤ (r156).toInt ∧ (r156).toInt ≤ 299 := k174
              replace k175 : ((z157)).toInt = ((pTm (G) ((x_rd_length)).toInt (pPs (G) ((x_rd_length)).toInt 1) ((z134)).toInt ((x122)).toInt (gh128))).1 := k175
              replace k176 : ((z160)).toInt = ((pTm (G) ((x_rd_length)).toInt (pPs (G) ((x_rd_length)).toInt 1) ((z134)).toInt ((x122)).toInt (gh128))).2.1 := k176
              replace k177 : ((z159)).toInt = ((pTm (G) ((x_rd_length)).toInt (pPs (G) ((x_rd_length)).toInt 1) ((z134)).toInt ((x122)).toInt (gh128))).2.2.1 := k177
              replace k178 : (((z157)).toInt = 0 ∧ ((z158)).toInt = ((x121)).toInt) ∨ (¬ ((z157)).toInt = 0 ∧ ((z158)).toInt = ((z160)).toInt) := k178
              replace k179 : 2 * ((z165)).toInt ≤ ((z160)).toInt + 1 := k179
              replace k180 : ((z162)).toInt < 256 ∨ 2 * ((z165)).toInt ≤ ((z160)).toInt := k180
              replace k181 : ((z134)).toInt ≤ ((z160)).toInt := k181
              replace k182 : ((z162)).toInt = tkT (G) ((x_rd_length)).toInt ((z160)).toInt := k182
              replace k183 : ((z162)).toInt = -1 ∨ ((z161)).toInt = tkX (G) ((x_rd_length)).toInt ((z160)).toInt := k183
              replace k184 : ¬ ((z162)).toInt = 257 ∨ ((z163)).toInt = (G) ((z160)).toInt := k184
              replace k185 : -1 ≤ ((z162)).toInt ∧ ((z162)).toInt ≤ 258 := k185
              replace k186 : ((z161)).toInt ≤ ((x_rd_length)).toInt := k186
              replace k187 : ((z162)).toInt = -1 ∨ ((z160)).toInt < ((x_rd_length)).toInt := k187
              replace k188 : ((z160)).toInt ≤ ((x_rd_length)).toInt := k188
              replace k189 : VFC ((z159)).toInt ((pTm (G) ((x_rd_length)).toInt (pPs (G) ((x_rd_length)).toInt 1) ((z134)).toInt ((x122)).toInt (gh128))).2.2.2 (f164) (f166) ((z165)).toInt := k189
              obtain ⟨rh190, erh190⟩ : ∃ x : PR, x = (pTm (G) ((x_rd_length)).toInt (pPs (G) ((x_rd_length)).toInt 1) ((z134)).toInt ((x122)).toInt (gh128)) := ⟨_, rfl⟩
              rw [← erh190] at k175 k176 k177 k189
              rw [tn149] at erh190
              refine va_iast hx hb hK hP hD hS 7 5 rfl rfl (i := z154) (x := r156) (vp_in_iff.mpr (by omega)) dX5_readPart_156 (fun H locs hP9 hD9 hS9 => ?_)
              obtain ⟨f191, ef191⟩ : ∃ g : Nat → Int32, g = upd f169 (Int32.toNatClampNeg z154) r156 := ⟨_, rfl⟩
              clear hP hD hS
              have hP : va_P (dC, dI) cls [(h_rd, .inr (4, (mo31 (.ref h_by) (.int x_rd_length) (.int z157) (.int z158) (.ref h_td) (.ref h_kn) (.int z159) (.int z160) (.int z161) (.int z162) (.long z163)))), (h_by, .inl (cy_by, 600, .inl f_by)), (h_kn, .inl (cy_kn, 8, .inl f164)), (h_td, .inr (5, (mo32 v_td (.ref h_nam) (.ref h_var) (.ref h_trm) (.ref h_ter) (.int z165)))), (h_nam, .inl (cy_nam, 300, .inr (.inl f166))), (h_var, .inl (cy_var, 300, .inl f167)), (h_trm, .inl (cy_trm, 300, .inl f168)), (h_ter, .inl (cy_ter, 900, .inl f191))] H := by rw [ef191]; exact hP9
              have hD : va_D A [(h_rd, .inr (4, (mo31 (.ref h_by) (.int x_rd_length) (.int z157) (.int z158) (.ref h_td) (.ref h_kn) (.int z159) (.int z160) (.int z161) (.int z162) (.long z163)))), (h_by, .inl (cy_by, 600, .inl f_by)), (h_kn, .inl (cy_kn, 8, .inl f164)), (h_td, .inr (5, (mo32 v_td (.ref h_nam) (.ref h_var) (.ref h_trm) (.ref h_ter) (.int z165)))), (h_nam, .inl (cy_nam, 300, .inr (.inl f166))), (h_var, .inl (cy_var, 300, .inl f167)), (h_trm, .inl (cy_trm, 300, .inl f168)), (h_ter, .inl (cy_ter, 900, .inl f191))] := by rw [ef191]; exact hD9
              have hS := hS9
              clear hP9 hD9 hS9
              have hf191 : Rg 0 299 f191 := by rw [ef191]; exact rg_upd hf169 (by omega)
              clear ef191
              refine lv_aload_n hx hb dX5_readPart_157 rfl (lv_at hl 0 rfl) ?_
              refine va_get (D := (dC, dI)) (ci := 4) (v := .ref h_td) (C := RX5) (T := TX5) (N := 11) hx hb hw iwX5 hown hK hP 0 rfl rfl 4 (by decide) (hw _ w_f_X5_25) (fun _ h9 => h9) rfl dX5_readPart_158 ?_
              refine va_getN (D := (dC, dI)) (ci := 5) (v := .ref h_trm) (C := RX8) (T := TX8) (N := 10) (host := "OppositePairs") hx hb hw iwX8 hown hK hP 3 rfl rfl 2 (by decide) (hN.use n_f_X5_100 rfl) (fun _ h9 => h9) rfl dX5_readPart_161 ?_
              refine lv_iload_n hx hb dX5_readPart_164 rfl (lv_at hl 3 rfl) ?_
              refine lv_iload hx hb dX5_readPart_165 (lv_at hl 4 rfl) ?_
              refine lv_iconst (v := 1) hx hb dX5_readPart_167 (by decide) ?_
              refine lv_iadd hx hb dX5_readPart_168 ?_
              refine lv_topi (fun z192 ez192 => ?_)
              have tz192 : (z192).toInt = (x113).toInt + 1 := by rw [ez192]; exact i_add rfl (by decide) (by omega)
              refine va_iast hx hb hK hP hD hS 6 4 rfl rfl (i := r82) (x := z192) (vp_in_iff.mpr (by omega)) dX5_readPart_169 (fun H locs hP9 hD9 hS9 => ?_)
              obtain ⟨f193, ef193⟩ : ∃ g : Nat → Int32, g = upd f168 (Int32.toNatClampNeg r82) z192 := ⟨_, rfl⟩
              clear hP hD hS
              have hP : va_P (dC, dI) cls [(h_rd, .inr (4, (mo31 (.ref h_by) (.int x_rd_length) (.int z157) (.int z158) (.ref h_td) (.ref h_kn) (.int z159) (.int z160) (.int z161) (.int z162) (.long z163)))), (h_by, .inl (cy_by, 600, .inl f_by)), (h_kn, .inl (cy_kn, 8, .inl f164)), (h_td, .inr (5, (mo32 v_td (.ref h_nam) (.ref h_var) (.ref h_trm) (.ref h_ter) (.int z165)))), (h_nam, .inl (cy_nam, 300, .inr (.inl f166))), (h_var, .inl (cy_var, 300, .inl f167)), (h_trm, .inl (cy_trm, 300, .inl f193)), (h_ter, .inl (cy_ter, 900, .inl f191))] H := by rw [ef193]; exact hP9
              have hD : va_D A [(h_rd, .inr (4, (mo31 (.ref h_by) (.int x_rd_length) (.int z157) (.int z158) (.ref h_td) (.ref h_kn) (.int z159) (.int z160) (.int z161) (.int z162) (.long z163)))), (h_by, .inl (cy_by, 600, .inl f_by)), (h_kn, .inl (cy_kn, 8, .inl f164)), (h_td, .inr (5, (mo32 v_td (.ref h_nam) (.ref h_var) (.ref h_trm) (.ref h_ter) (.int z165)))), (h_nam, .inl (cy_nam, 300, .inr (.inl f166))), (h_var, .inl (cy_var, 300, .inl f167)), (h_trm, .inl (cy_trm, 300, .inl f193)), (h_ter, .inl (cy_ter, 900, .inl f191))] := by rw [ef193]; exact hD9
              have hS := hS9
              clear hP9 hD9 hS9
              have hf193 : Rg 0 3 f193 := by rw [ef193]; exact rg_upd hf168 (by omega)
              clear ef193
              refine lv_aload_n hx hb dX5_readPart_170 rfl (lv_at hl 0 rfl) ?_
              refine va_get (D := (dC, dI)) (ci := 4) (v := .int z157) (C := RX5) (T := TX5) (N := 11) hx hb hw iwX5 hown hK hP 0 rfl rfl 2 (by decide) (hw _ w_f_X5_34) (fun _ h9 => h9) rfl dX5_readPart_171 ?_
              refine lv_if_eq (tgt := 179) hx hb dX5_readPart_174 (by decide) (fun c194 => ?_) (fun c194 => ?_)
              · have kc194 := (cv_eq (rfl : (z157).toInt = (z157).toInt) (by decide : (0 : Int32).toInt = 0)).mp c194
                refine lv_aload_n hx hb dX5_readPart_179 rfl (lv_at hl 0 rfl) ?_
                refine va_get (D := (dC, dI)) (ci := 4) (v := .int z162) (C := RX5) (T := TX5) (N := 11) hx hb hw iwX5 hown hK hP 0 rfl rfl 9 (by decide) (hw _ w_f_X5_43) (fun _ h9 => h9) rfl dX5_readPart_180 ?_
                refine lv_bipush (v := 44) hx hb dX5_readPart_183 (by decide) ?_
                refine lv_icmp_eq (tgt := 191) hx hb dX5_readPart_185 (by decide) (fun c195 => ?_) (fun c195 => ?_)
                · have kc195 := (cv_eq (rfl : (z162).toInt = (z162).toInt) (by decide : (44 : Int32).toInt = 44)).mp c195
                  have on9 := pLo_on (G := G) (n := (x_rd_length).toInt) (P := (pPs G (x_rd_length).toInt 1)) (r := rr152) (q := (x123).toInt) (nv := (x122).toInt) (vf := gh128) (by rw [← erh190]; omega) (by rw [← erh190, ← k176]; omega)
                  rw [← erh190, ← k176, ← k177] at on9
                  have lo196 := on9.symm.trans klp129_19
                  obtain ⟨z197, ez197⟩ : ∃ y : Int32, y = x113 + 1 := ⟨_, rfl⟩
                  have tz197 : (z197).toInt = (x113).toInt + 1 := by rw [ez197]; exact i_add rfl (by decide) (by omega)
                  refine lv_iinc (v := z197) (lv' := [(4, .int z197), (0, .ref h_rd), (1, .int 4), (2, .int 1), (3, .int r82)]) hx hb dX5_readPart_191 hl (k := 4) rfl (by rw [ez197]; rfl) (by decide) rfl (fun ls hl => ?_)
                  refine lv_goto (tgt := 84) hx hb dX5_readPart_194 (by decide) ?_
                  replace hP : va_P (dC, dI) cls [(h_kn, .inl (cy_kn, 8, .inl f164)), (h_ter, .inl (cy_ter, 900, .inl f191)), (h_td, .inr (5, (mo32 v_td (.ref h_nam) (.ref h_var) (.ref h_trm) (.ref h_ter) (.int z165)))), (h_nam, .inl (cy_nam, 300, .inr (.inl f166))), (h_var, .inl (cy_var, 300, .inl f167)), (h_trm, .inl (cy_trm, 300, .inl f193)), (h_rd, .inr (4, (mo31 (.ref h_by) (.int x_rd_length) (.int z157) (.int z158) (.ref h_td) (.ref h_kn) (.int z159) (.int z160) (.int z161) (.int z162) (.long z163)))), (h_by, .inl (cy_by, 600, .inl f_by))] H := hP.sub [2, 7, 3, 4, 5, 6, 0, 1] rfl
                  replace hD : va_D A [(h_kn, .inl (cy_kn, 8, .inl f164)), (h_ter, .inl (cy_ter, 900, .inl f191)), (h_td, .inr (5, (mo32 v_td (.ref h_nam) (.ref h_var) (.ref h_trm) (.ref h_ter) (.int z165)))), (h_nam, .inl (cy_nam, 300, .inr (.inl f166))), (h_var, .inl (cy_var, 300, .inl f167)), (h_trm, .inl (cy_trm, 300, .inl f193)), (h_rd, .inr (4, (mo31 (.ref h_by) (.int x_rd_length) (.int z157) (.int z158) (.ref h_td) (.ref h_kn) (.int z159) (.int z160) (.int z161) (.int z162) (.long z163)))), (h_by, .inl (cy_by, 600, .inl f_by))] := hD.sub [2, 7, 3, 4, 5, 6, 0, 1] (by decide) rfl
                  exact ih130 (z197) (f164) (f191) (z165) (f166) (f167) (f193) (z157) (z158) (z159) (z160) (z161) (z162) (z163) (rr152) ((rh190).2.2.2) _ _ _ (by omega) hf164 hf191 (by first | exact k173 | omega) hf167 hf193 (by first | exact k170 | omega) (by first | exact k171 | omega) (by first | exact k172 | omega) (by first | exact k182 | omega) (by omega) (by omega) (by first | exact k179 | omega) (by omega) (by first | exact k186 | omega) (by omega) (by omega) (by omega) (by omega) lo196 k189 (by omega) hP hD hS (lv_sub hl [1, 2, 3, 4, 0] rfl)
                · have kc195 := (not_congr (cv_eq (rfl : (z162).toInt = (z162).toInt) (by decide : (44 : Int32).toInt = 44))).mp c195
                  refine lv_goto (tgt := 197) hx hb dX5_readPart_188 (by decide) ?_
                  have on9 := pLo_off (G := G) (n := (x_rd_length).toInt) (P := (pPs G (x_rd_length).toInt 1)) (r := rr152) (q := (x123).toInt) (nv := (x122).toInt) (vf := gh128) (by rw [← erh190]; omega) (by rw [← erh190, ← k176]; omega)
                  rw [← erh190, ← k176, ← k177] at on9
                  have cl9 := on9.symm.trans klp129_19
                  refine lv_aload_n hx hb dX5_readPart_197 rfl (lv_at hl 0 rfl) ?_
                  refine va_get (D := (dC, dI)) (ci := 4) (v := .int z162) (C := RX5) (T := TX5) (N := 11) hx hb hw iwX5 hown hK hP 0 rfl rfl 9 (by decide) (hw _ w_f_X5_43) (fun _ h9 => h9) rfl dX5_readPart_198 ?_
                  refine lv_bipush (v := 41) hx hb dX5_readPart_201 (by decide) ?_
                  refine lv_icmp_ne (tgt := 213) hx hb dX5_readPart_203 (by decide) (fun c198 => ?_) (fun c198 => ?_)
                  · have kc198 := (not_congr (cv_eq (rfl : (z162).toInt = (z162).toInt) (by decide : (41 : Int32).toInt = 41))).mp c198
                    have pv9 : (pTm G (x_rd_length).toInt (pPs G (x_rd_length).toInt 2) (x_rd_at).toInt (x_rd_variables).toInt vf) = (1, (z160).toInt, (z159).toInt, (rh190).2.2.2) := cl9.symm.trans (pCl_no (by omega))
                    have pq1991 : ((pTm G (x_rd_length).toInt (pPs G (x_rd_length).toInt 2) (x_rd_at).toInt (x_rd_variables).toInt vf)).1 = 1 := by rw [pv9]
                    have pq1992 : ((pTm G (x_rd_length).toInt (pPs G (x_rd_length).toInt 2) (x_rd_at).toInt (x_rd_variables).toInt vf)).2.1 = (z160).toInt := by rw [pv9]
                    have pq1993 : ((pTm G (x_rd_length).toInt (pPs G (x_rd_length).toInt 2) (x_rd_at).toInt (x_rd_variables).toInt vf)).2.2.1 = (z159).toInt := by rw [pv9]
                    have pq1994 : ((pTm G (x_rd_length).toInt (pPs G (x_rd_length).toInt 2) (x_rd_at).toInt (x_rd_variables).toInt vf)).2.2.2 = (rh190).2.2.2 := by rw [pv9]
                    refine lv_aload_n hx hb dX5_readPart_213 rfl (lv_at hl 0 rfl) ?_
                    refine lv_iconst (v := 1) hx hb dX5_readPart_214 (by decide) ?_
                    obtain ⟨vq200, evq200⟩ := mq31_27 (.ref h_by) (.int x_rd_length) (.ref h_td) (.ref h_kn) (.int z159) (.int z161) (.int z162) (.long z163)
                    replace hP : va_P (dC, dI) cls [(h_rd, .inr (4, (mo27 vq200 (.int z157) (.int z158) (.int z160)))), (h_by, .inl (cy_by, 600, .inl f_by)), (h_kn, .inl (cy_kn, 8, .inl f164)), (h_td, .inr (5, (mo32 v_td (.ref h_nam) (.ref h_var) (.ref h_trm) (.ref h_ter) (.int z165)))), (h_nam, .inl (cy_nam, 300, .inr (.inl f166))), (h_var, .inl (cy_var, 300, .inl f167)), (h_trm, .inl (cy_trm, 300, .inl f193)), (h_ter, .inl (cy_ter, 900, .inl f191))] H := by rw [evq200]; exact hP
                    replace hD : va_D A [(h_rd, .inr (4, (mo27 vq200 (.int z157) (.int z158) (.int z160)))), (h_by, .inl (cy_by, 600, .inl f_by)), (h_kn, .inl (cy_kn, 8, .inl f164)), (h_td, .inr (5, (mo32 v_td (.ref h_nam) (.ref h_var) (.ref h_trm) (.ref h_ter) (.int z165)))), (h_nam, .inl (cy_nam, 300, .inr (.inl f166))), (h_var, .inl (cy_var, 300, .inl f167)), (h_trm, .inl (cy_trm, 300, .inl f193)), (h_ter, .inl (cy_ter, 900, .inl f191))] := by rw [evq200]; exact hD
                    have cst1 : (1 : Int32).toInt = 1 := by decide
                    have hPc := hP.sub (ws' := [(h_rd, .inr (4, (mo27 vq200 (.int z157) (.int z158) (.int z160))))]) [0] rfl
                    have hDc := hD.sub (ws' := [(h_rd, .inr (4, (mo27 vq200 (.int z157) (.int z158) (.int z160))))]) [0] (by decide) rfl
                    have hKc := hK.sub (tys' := []) [] rfl
                    have hFc := va_free (wc := [(h_rd, .inr (4, (mo27 vq200 (.int z157) (.int z158) (.int z160))))]) hD hS hA [0] rfl
                    refine va_callv (va_runV (As := [.int 1]) (rest := []) ⟨hx, hb, hml, hown, hts⟩ (c_X5_blame l dC dI H.size h_rd vq200 z157 z158 z160 1 (by first | exact k171 | omega)) (cwV 1 hts (gv hT w_m_X5_56 w_instanceMethod_X5_blame ws_sel_X5_blame w_ini_X5 w_code_X5_blame) rfl rfl rfl (by decide +kernel) ⟨(Nat.le_of_ble_eq_true rfl), (Nat.le_of_ble_eq_true rfl)⟩) ⟨pre_blind, va_recv hK hP (ci := 4) (q0 := 0) rfl rfl, pre_of hPc hKc hDc hN⟩ rfl rfl hl.1 rfl (lv_room (Nat.le_of_ble_eq_true rfl)) dX5_readPart_215 ⟨(Nat.le_of_ble_eq_true rfl), (Nat.le_of_ble_eq_true rfl)⟩) hS (fun q _ h => hFc q h) hFc (fun u t H locs ht hvm hq hB hz1 hk1 hS9 => ?_)
                    obtain ⟨z202, z203⟩ := u
                    obtain ⟨hP1, hD1⟩ := hB
                    rw [ht] at hP1
                    obtain ⟨hP9, hD9⟩ := va_join (wr := [(h_by, .inl (cy_by, 600, .inl f_by)), (h_kn, .inl (cy_kn, 8, .inl f164)), (h_td, .inr (5, (mo32 v_td (.ref h_nam) (.ref h_var) (.ref h_trm) (.ref h_ter) (.int z165)))), (h_nam, .inl (cy_nam, 300, .inr (.inl f166))), (h_var, .inl (cy_var, 300, .inl f167)), (h_trm, .inl (cy_trm, 300, .inl f193)), (h_ter, .inl (cy_ter, 900, .inl f191))]) (w1 := [(h_rd, .inr (4, (mo27 vq200 (.int z202) (.int z203) (.int z160))))]) hP hD [0] [1, 2, 3, 4, 5, 6, 7] rfl rfl (by decide) (by decide) hk1 hFc hP1 hD1
                    clear hP hD hS hPc hDc hKc hFc hP1 hD1 hk1 hz1 ht hvm
                    have hP : va_P (dC, dI) cls [(h_by, .inl (cy_by, 600, .inl f_by)), (h_kn, .inl (cy_kn, 8, .inl f164)), (h_td, .inr (5, (mo32 v_td (.ref h_nam) (.ref h_var) (.ref h_trm) (.ref h_ter) (.int z165)))), (h_nam, .inl (cy_nam, 300, .inr (.inl f166))), (h_var, .inl (cy_var, 300, .inl f167)), (h_trm, .inl (cy_trm, 300, .inl f193)), (h_ter, .inl (cy_ter, 900, .inl f191)), (h_rd, .inr (4, (mo27 vq200 (.int z202) (.int z203) (.int z160))))] H := hP9
                    have hD : va_D A [(h_by, .inl (cy_by, 600, .inl f_by)), (h_kn, .inl (cy_kn, 8, .inl f164)), (h_td, .inr (5, (mo32 v_td (.ref h_nam) (.ref h_var) (.ref h_trm) (.ref h_ter) (.int z165)))), (h_nam, .inl (cy_nam, 300, .inr (.inl f166))), (h_var, .inl (cy_var, 300, .inl f167)), (h_trm, .inl (cy_trm, 300, .inl f193)), (h_ter, .inl (cy_ter, 900, .inl f191)), (h_rd, .inr (4, (mo27 vq200 (.int z202) (.int z203) (.int z160))))] := hD9
                    have hS := hS9
                    clear hP9 hD9 hS9
                    rw [evq200] at hP hD
                    replace hP : va_P (dC, dI) cls [(h_by, .inl (cy_by, 600, .inl f_by)), (h_kn, .inl (cy_kn, 8, .inl f164)), (h_td, .inr (5, (mo32 v_td (.ref h_nam) (.ref h_var) (.ref h_trm) (.ref h_ter) (.int z165)))), (h_nam, .inl (cy_nam, 300, .inr (.inl f166))), (h_var, .inl (cy_var, 300, .inl f167)), (h_trm, .inl (cy_trm, 300, .inl f193)), (h_ter, .inl (cy_ter, 900, .inl f191)), (h_rd, .inr (4, (mo31 (.ref h_by) (.int x_rd_length) (.int z202) (.int z203) (.ref h_td) (.ref h_kn) (.int z159) (.int z160) (.int z161) (.int z162) (.long z163))))] H := hP
                    replace hD : va_D A [(h_by, .inl (cy_by, 600, .inl f_by)), (h_kn, .inl (cy_kn, 8, .inl f164)), (h_td, .inr (5, (mo32 v_td (.ref h_nam) (.ref h_var) (.ref h_trm) (.ref h_ter) (.int z165)))), (h_nam, .inl (cy_nam, 300, .inr (.inl f166))), (h_var, .inl (cy_var, 300, .inl f167)), (h_trm, .inl (cy_trm, 300, .inl f193)), (h_ter, .inl (cy_ter, 900, .inl f191)), (h_rd, .inr (4, (mo31 (.ref h_by) (.int x_rd_length) (.int z202) (.int z203) (.ref h_td) (.ref h_kn) (.int z159) (.int z160) (.int z161) (.int z162) (.long z163))))] := hD
                    clear evq200 
                    obtain ⟨k204, k205⟩ := hq
                    replace k204 : ((z202)).toInt = ((1 : Int32)).toInt := k204
                    replace k205 : ((z203)).toInt = ((z160)).toInt := k205
                    refine lv_iload_n hx hb dX5_readPart_218 rfl (lv_at hl 3 rfl) ?_
                    replace hP : va_P (dC, dI) cls [(h_rd, .inr (4, (mo31 (.ref h_by) (.int x_rd_length) (.int z202) (.int z203) (.ref h_td) (.ref h_kn) (.int z159) (.int z160) (.int z161) (.int z162) (.long z163)))), (h_by, .inl (cy_by, 600, .inl f_by)), (h_kn, .inl (cy_kn, 8, .inl f164)), (h_td, .inr (5, (mo32 v_td (.ref h_nam) (.ref h_var) (.ref h_trm) (.ref h_ter) (.int z165)))), (h_nam, .inl (cy_nam, 300, .inr (.inl f166))), (h_var, .inl (cy_var, 300, .inl f167)), (h_trm, .inl (cy_trm, 300, .inl f193)), (h_ter, .inl (cy_ter, 900, .inl f191))] H := hP.sub [7, 0, 1, 2, 3, 4, 5, 6] rfl
                    replace hD : va_D A [(h_rd, .inr (4, (mo31 (.ref h_by) (.int x_rd_length) (.int z202) (.int z203) (.ref h_td) (.ref h_kn) (.int z159) (.int z160) (.int z161) (.int z162) (.long z163)))), (h_by, .inl (cy_by, 600, .inl f_by)), (h_kn, .inl (cy_kn, 8, .inl f164)), (h_td, .inr (5, (mo32 v_td (.ref h_nam) (.ref h_var) (.ref h_trm) (.ref h_ter) (.int z165)))), (h_nam, .inl (cy_nam, 300, .inr (.inl f166))), (h_var, .inl (cy_var, 300, .inl f167)), (h_trm, .inl (cy_trm, 300, .inl f193)), (h_ter, .inl (cy_ter, 900, .inl f191))] := hD.sub [7, 0, 1, 2, 3, 4, 5, 6] (by decide) rfl
                    refine W.widen (k := 0) (n := 0) (Nat.le_of_ble_eq_true rfl) (Nat.le_of_ble_eq_true rfl) ?_
                    have w206 : 0 ≤ ((z159)).toInt ∧ ((z159)).toInt ≤ 8 := by first | exact k170 | omega
                    have w207 : 0 ≤ ((z160)).toInt ∧ ((z160)).toInt ≤ 600 := by first | exact k171 | omega
                    have w208 : 0 ≤ ((z161)).toInt ∧ ((z161)).toInt ≤ 600 := by first | exact k172 | omega
                    have w209 : 0 ≤ ((z165)).toInt ∧ ((z165)).toInt ≤ 300 := by first | exact k173 | omega
                    have w210 : 0 ≤ (r82 : Int32).toInt ∧ (r82 : Int32).toInt ≤ 299 := by first | exact k88 | omega
                    have w211 : ((z202)).toInt = ((pTm G (x_rd_length).toInt (pPs G (x_rd_length).toInt 2) (x_rd_at).toInt (x_rd_variables).toInt vf)).1 := by omega
                    have w212 : ((z160)).toInt = ((pTm G (x_rd_length).toInt (pPs G (x_rd_length).toInt 2) (x_rd_at).toInt (x_rd_variables).toInt vf)).2.1 := by omega
                    have w213 : ((z159)).toInt = ((pTm G (x_rd_length).toInt (pPs G (x_rd_length).toInt 2) (x_rd_at).toInt (x_rd_variables).toInt vf)).2.2.1 := by omega
                    have w214 : (((z202)).toInt = 0 ∧ ((z203)).toInt = (x_rd_place).toInt) ∨ (¬ ((z202)).toInt = 0 ∧ ((z203)).toInt = ((z160)).toInt) := by omega
                    have w215 : 2 * ((z165)).toInt ≤ ((z160)).toInt + 1 := by first | exact k179 | omega
                    have w216 : ((z162)).toInt < 256 ∨ 2 * ((z165)).toInt ≤ ((z160)).toInt := by first | exact k180 | omega
                    have w217 : (x_rd_at).toInt ≤ ((z160)).toInt := by omega
                    have w218 : ((z162)).toInt = tkT G (x_rd_length).toInt ((z160)).toInt := by first | exact k182 | omega
                    have w219 : ((z162)).toInt = -1 ∨ ((z161)).toInt = tkX G (x_rd_length).toInt ((z160)).toInt := by first | exact k183 | omega
                    have w220 : ¬ ((z162)).toInt = 257 ∨ ((z163)).toInt = G ((z160)).toInt := by first | exact k184 | omega
                    have w221 : -1 ≤ ((z162)).toInt ∧ ((z162)).toInt ≤ 258 := by first | exact k185 | omega
                    have w222 : ((z161)).toInt ≤ (x_rd_length).toInt := by first | exact k186 | omega
                    have w223 : ((z162)).toInt = -1 ∨ ((z160)).toInt < (x_rd_length).toInt := by first | exact k187 | omega
                    have w224 : ((z160)).toInt ≤ (x_rd_length).toInt := by first | exact k188 | omega
                    have w225 : VFC ((z159)).toInt ((pTm G (x_rd_length).toInt (pPs G (x_rd_length).toInt 2) (x_rd_at).toInt (x_rd_variables).toInt vf)).2.2.2 (f164) (f166) ((z165)).toInt := (by rw [pq1994]; exact k189)
                    exact W.iret (v := r82) hx hb hr (fun t ht hW => ⟨⟨r82, (z202, z203, z159, z160, z161, z162, z163, f164, z165, f166, f167, f193, f191), rfl, ⟨w206, w207, w208, hf164, w209, hf167, hf193, hf191, w210, w211, w212, w213, w214, w215, w216, w217, w218, w219, w220, w221, w222, w223, w224, w225⟩, by rw [ht]; exact hP, hD⟩, hS.F ht⟩) hS.2.2 dX5_readPart_219
                  · have kc198 := (cv_eq (rfl : (z162).toInt = (z162).toInt) (by decide : (41 : Int32).toInt = 41)).mp c198
                    have pv9 : (pTm G (x_rd_length).toInt (pPs G (x_rd_length).toInt 2) (x_rd_at).toInt (x_rd_variables).toInt vf) = (0, tkN G (x_rd_length).toInt (z160).toInt, (z159).toInt, (rh190).2.2.2) := cl9.symm.trans (pCl_yes (by omega))
                    have pq2261 : ((pTm G (x_rd_length).toInt (pPs G (x_rd_length).toInt 2) (x_rd_at).toInt (x_rd_variables).toInt vf)).1 = 0 := by rw [pv9]
                    have pq2262 : ((pTm G (x_rd_length).toInt (pPs G (x_rd_length).toInt 2) (x_rd_at).toInt (x_rd_variables).toInt vf)).2.1 = tkN G (x_rd_length).toInt (z160).toInt := by rw [pv9]
                    have pq2263 : ((pTm G (x_rd_length).toInt (pPs G (x_rd_length).toInt 2) (x_rd_at).toInt (x_rd_variables).toInt vf)).2.2.1 = (z159).toInt := by rw [pv9]
                    have pq2264 : ((pTm G (x_rd_length).toInt (pPs G (x_rd_length).toInt 2) (x_rd_at).toInt (x_rd_variables).toInt vf)).2.2.2 = (rh190).2.2.2 := by rw [pv9]
                    refine lv_aload_n hx hb dX5_readPart_206 rfl (lv_at hl 0 rfl) ?_
                    obtain ⟨vq227, evq227⟩ := mq31_29 (.int z157) (.int z158) (.ref h_td) (.ref h_kn) (.int z159)
                    replace hP : va_P (dC, dI) cls [(h_rd, .inr (4, (mo29 vq227 (.ref h_by) (.int x_rd_length) (.int z160) (.int z161) (.int z162) (.long z163)))), (h_by, .inl (cy_by, 600, .inl f_by)), (h_kn, .inl (cy_kn, 8, .inl f164)), (h_td, .inr (5, (mo32 v_td (.ref h_nam) (.ref h_var) (.ref h_trm) (.ref h_ter) (.int z165)))), (h_nam, .inl (cy_nam, 300, .inr (.inl f166))), (h_var, .inl (cy_var, 300, .inl f167)), (h_trm, .inl (cy_trm, 300, .inl f193)), (h_ter, .inl (cy_ter, 900, .inl f191))] H := by rw [evq227]; exact hP
                    replace hD : va_D A [(h_rd, .inr (4, (mo29 vq227 (.ref h_by) (.int x_rd_length) (.int z160) (.int z161) (.int z162) (.long z163)))), (h_by, .inl (cy_by, 600, .inl f_by)), (h_kn, .inl (cy_kn, 8, .inl f164)), (h_td, .inr (5, (mo32 v_td (.ref h_nam) (.ref h_var) (.ref h_trm) (.ref h_ter) (.int z165)))), (h_nam, .inl (cy_nam, 300, .inr (.inl f166))), (h_var, .inl (cy_var, 300, .inl f167)), (h_trm, .inl (cy_trm, 300, .inl f193)), (h_ter, .inl (cy_ter, 900, .inl f191))] := by rw [evq227]; exact hD
                    have hPc := hP.sub (ws' := [(h_rd, .inr (4, (mo29 vq227 (.ref h_by) (.int x_rd_length) (.int z160) (.int z161) (.int z162) (.long z163)))), (h_by, .inl (cy_by, 600, .inl f_by))]) [0, 1] rfl
                    have hDc := hD.sub (ws' := [(h_rd, .inr (4, (mo29 vq227 (.ref h_by) (.int x_rd_length) (.int z160) (.int z161) (.int z162) (.long z163)))), (h_by, .inl (cy_by, 600, .inl f_by))]) [0, 1] (by decide) rfl
                    have hKc := hK.sub (tys' := [(cy_by, .int)]) [0] rfl
                    have hFc := va_free (wc := [(h_rd, .inr (4, (mo29 vq227 (.ref h_by) (.int x_rd_length) (.int z160) (.int z161) (.int z162) (.long z163)))), (h_by, .inl (cy_by, 600, .inl f_by))]) hD hS hA [0, 1] rfl
                    refine va_callv (va_runV (As := []) (rest := []) ⟨hx, hb, hml, hown, hts⟩ (c_X5_nextToken l dC dI H.size h_rd h_by vq227 x_rd_length z160 z161 z162 z163 cy_by f_by G (by first | exact hx_rd_length | omega) (by first | exact k171 | omega) (by first | exact k172 | omega) hf_by (by first | exact k186 | omega) hn_byt) (cwV 0 hts (gv hT w_m_X5_40 w_instanceMethod_X5_nextToken ws_sel_X5_nextToken w_ini_X5 w_code_X5_nextToken) rfl rfl rfl (by decide +kernel) ⟨(Nat.le_of_ble_eq_true rfl), (Nat.le_of_ble_eq_true rfl)⟩) ⟨pre_blind, va_recv hK hP (ci := 4) (q0 := 0) rfl rfl, pre_of hPc hKc hDc hN⟩ rfl rfl hl.1 rfl (lv_room (Nat.le_of_ble_eq_true rfl)) dX5_readPart_207 ⟨(Nat.le_of_ble_eq_true rfl), (Nat.le_of_ble_eq_true rfl)⟩) hS (fun q _ h => hFc q h) hFc (fun u t H locs ht hvm hq hB hz1 hk1 hS9 => ?_)
                    obtain ⟨z229, z230, z231, z232⟩ := u
                    obtain ⟨hP1, hD1⟩ := hB
                    rw [ht] at hP1
                    obtain ⟨hP9, hD9⟩ := va_join (wr := [(h_kn, .inl (cy_kn, 8, .inl f164)), (h_td, .inr (5, (mo32 v_td (.ref h_nam) (.ref h_var) (.ref h_trm) (.ref h_ter) (.int z165)))), (h_nam, .inl (cy_nam, 300, .inr (.inl f166))), (h_var, .inl (cy_var, 300, .inl f167)), (h_trm, .inl (cy_trm, 300, .inl f193)), (h_ter, .inl (cy_ter, 900, .inl f191))]) (w1 := [(h_rd, .inr (4, (mo29 vq227 (.ref h_by) (.int x_rd_length) (.int z229) (.int z230) (.int z231) (.long z232)))), (h_by, .inl (cy_by, 600, .inl f_by))]) hP hD [0, 1] [2, 3, 4, 5, 6, 7] rfl rfl (by decide) (by decide) hk1 hFc hP1 hD1
                    clear hP hD hS hPc hDc hKc hFc hP1 hD1 hk1 hz1 ht hvm
                    have hP : va_P (dC, dI) cls [(h_kn, .inl (cy_kn, 8, .inl f164)), (h_td, .inr (5, (mo32 v_td (.ref h_nam) (.ref h_var) (.ref h_trm) (.ref h_ter) (.int z165)))), (h_nam, .inl (cy_nam, 300, .inr (.inl f166))), (h_var, .inl (cy_var, 300, .inl f167)), (h_trm, .inl (cy_trm, 300, .inl f193)), (h_ter, .inl (cy_ter, 900, .inl f191)), (h_rd, .inr (4, (mo29 vq227 (.ref h_by) (.int x_rd_length) (.int z229) (.int z230) (.int z231) (.long z232)))), (h_by, .inl (cy_by, 600, .inl f_by))] H := hP9
                    have hD : va_D A [(h_kn, .inl (cy_kn, 8, .inl f164)), (h_td, .inr (5, (mo32 v_td (.ref h_nam) (.ref h_var) (.ref h_trm) (.ref h_ter) (.int z165)))), (h_nam, .inl (cy_nam, 300, .inr (.inl f166))), (h_var, .inl (cy_var, 300, .inl f167)), (h_trm, .inl (cy_trm, 300, .inl f193)), (h_ter, .inl (cy_ter, 900, .inl f191)), (h_rd, .inr (4, (mo29 vq227 (.ref h_by) (.int x_rd_length) (.int z229) (.int z230) (.int z231) (.long z232)))), (h_by, .inl (cy_by, 600, .inl f_by))] := hD9
                    have hS := hS9
                    clear hP9 hD9 hS9
                    rw [evq227] at hP hD
                    replace hP : va_P (dC, dI) cls [(h_kn, .inl (cy_kn, 8, .inl f164)), (h_td, .inr (5, (mo32 v_td (.ref h_nam) (.ref h_var) (.ref h_trm) (.ref h_ter) (.int z165)))), (h_nam, .inl (cy_nam, 300, .inr (.inl f166))), (h_var, .inl (cy_var, 300, .inl f167)), (h_trm, .inl (cy_trm, 300, .inl f193)), (h_ter, .inl (cy_ter, 900, .inl f191)), (h_rd, .inr (4, (mo31 (.ref h_by) (.int x_rd_length) (.int z157) (.int z158) (.ref h_td) (.ref h_kn) (.int z159) (.int z229) (.int z230) (.int z231) (.long z232)))), (h_by, .inl (cy_by, 600, .inl f_by))] H := hP
                    replace hD : va_D A [(h_kn, .inl (cy_kn, 8, .inl f164)), (h_td, .inr (5, (mo32 v_td (.ref h_nam) (.ref h_var) (.ref h_trm) (.ref h_ter) (.int z165)))), (h_nam, .inl (cy_nam, 300, .inr (.inl f166))), (h_var, .inl (cy_var, 300, .inl f167)), (h_trm, .inl (cy_trm, 300, .inl f193)), (h_ter, .inl (cy_ter, 900, .inl f191)), (h_rd, .inr (4, (mo31 (.ref h_by) (.int x_rd_length) (.int z157) (.int z158) (.ref h_td) (.ref h_kn) (.int z159) (.int z229) (.int z230) (.int z231) (.long z232)))), (h_by, .inl (cy_by, 600, .inl f_by))] := hD
                    clear evq227 
                    obtain ⟨k233, k234, k235, k236, k237, k238, k239, k240, k241, k242, k243⟩ := hq
                    replace k233 : 0 ≤ ((z229)).toInt ∧ ((z229)).toInt ≤ 600 := k233
                    replace k234 : 0 ≤ ((z230)).toInt ∧ ((z230)).toInt ≤ 600 := k234
                    replace k235 : ((z229)).toInt = tkS (G) ((x_rd_length)).toInt ((z161)).toInt := k235
                    replace k236 : ((z161)).toInt ≤ ((z229)).toInt := k236
                    replace k237 : ((z231)).toInt = tkT (G) ((x_rd_length)).toInt ((z229)).toInt := k237
                    replace k238 : ((z231)).toInt = -1 ∨ ((z230)).toInt = tkX (G) ((x_rd_length)).toInt ((z229)).toInt := k238
                    replace k239 : ¬ ((z231)).toInt = 257 ∨ ((z232)).toInt = (G) ((z229)).toInt := k239
                    replace k240 : -1 ≤ ((z231)).toInt ∧ ((z231)).toInt ≤ 258 := k240
                    replace k241 : ((z230)).toInt ≤ ((x_rd_length)).toInt := k241
                    replace k242 : ((z231)).toInt = -1 ∨ ((z229)).toInt < ((x_rd_length)).toInt := k242
                    replace k243 : ((z229)).toInt ≤ ((x_rd_length)).toInt := k243
                    have tn244b : (z161).toInt = tkX G (x_rd_length).toInt (z160).toInt := by omega
                    have tn244 : (z229).toInt = tkN G (x_rd_length).toInt (z160).toInt := by rw [k235, tn244b]; rfl
                    have tn244t : (z231).toInt = tkT G (x_rd_length).toInt (tkN G (x_rd_length).toInt (z160).toInt) := by rw [← tn244]; exact k237
                    have tn244g := tkN_gt (G := G) (n := (x_rd_length).toInt) (a := (z160).toInt) (by omega) (by omega) (by omega)
                    refine lv_goto (tgt := 218) hx hb dX5_readPart_210 (by decide) ?_
                    refine lv_iload_n hx hb dX5_readPart_218 rfl (lv_at hl 3 rfl) ?_
                    replace hP : va_P (dC, dI) cls [(h_rd, .inr (4, (mo31 (.ref h_by) (.int x_rd_length) (.int z157) (.int z158) (.ref h_td) (.ref h_kn) (.int z159) (.int z229) (.int z230) (.int z231) (.long z232)))), (h_by, .inl (cy_by, 600, .inl f_by)), (h_kn, .inl (cy_kn, 8, .inl f164)), (h_td, .inr (5, (mo32 v_td (.ref h_nam) (.ref h_var) (.ref h_trm) (.ref h_ter) (.int z165)))), (h_nam, .inl (cy_nam, 300, .inr (.inl f166))), (h_var, .inl (cy_var, 300, .inl f167)), (h_trm, .inl (cy_trm, 300, .inl f193)), (h_ter, .inl (cy_ter, 900, .inl f191))] H := hP.sub [6, 7, 0, 1, 2, 3, 4, 5] rfl
                    replace hD : va_D A [(h_rd, .inr (4, (mo31 (.ref h_by) (.int x_rd_length) (.int z157) (.int z158) (.ref h_td) (.ref h_kn) (.int z159) (.int z229) (.int z230) (.int z231) (.long z232)))), (h_by, .inl (cy_by, 600, .inl f_by)), (h_kn, .inl (cy_kn, 8, .inl f164)), (h_td, .inr (5, (mo32 v_td (.ref h_nam) (.ref h_var) (.ref h_trm) (.ref h_ter) (.int z165)))), (h_nam, .inl (cy_nam, 300, .inr (.inl f166))), (h_var, .inl (cy_var, 300, .inl f167)), (h_trm, .inl (cy_trm, 300, .inl f193)), (h_ter, .inl (cy_ter, 900, .inl f191))] := hD.sub [6, 7, 0, 1, 2, 3, 4, 5] (by decide) rfl
                    refine W.widen (k := 0) (n := 0) (Nat.le_of_ble_eq_true rfl) (Nat.le_of_ble_eq_true rfl) ?_
                    have w245 : 0 ≤ ((z159)).toInt ∧ ((z159)).toInt ≤ 8 := by first | exact k170 | omega
                    have w246 : 0 ≤ ((z229)).toInt ∧ ((z229)).toInt ≤ 600 := by first | exact k233 | omega
                    have w247 : 0 ≤ ((z230)).toInt ∧ ((z230)).toInt ≤ 600 := by first | exact k234 | omega
                    have w248 : 0 ≤ ((z165)).toInt ∧ ((z165)).toInt ≤ 300 := by first | exact k173 | omega
                    have w249 : 0 ≤ (r82 : Int32).toInt ∧ (r82 : Int32).toInt ≤ 299 := by first | exact k88 | omega
                    have w250 : ((z157)).toInt = ((pTm G (x_rd_length).toInt (pPs G (x_rd_length).toInt 2) (x_rd_at).toInt (x_rd_variables).toInt vf)).1 := by omega
                    have w251 : ((z229)).toInt = ((pTm G (x_rd_length).toInt (pPs G (x_rd_length).toInt 2) (x_rd_at).toInt (x_rd_variables).toInt vf)).2.1 := by omega
                    have w252 : ((z159)).toInt = ((pTm G (x_rd_length).toInt (pPs G (x_rd_length).toInt 2) (x_rd_at).toInt (x_rd_variables).toInt vf)).2.2.1 := by omega
                    have w253 : (((z157)).toInt = 0 ∧ ((z158)).toInt = (x_rd_place).toInt) ∨ (¬ ((z157)).toInt = 0 ∧ ((z158)).toInt = ((z229)).toInt) := by omega
                    have w254 : 2 * ((z165)).toInt ≤ ((z229)).toInt + 1 := by omega
                    have w255 : ((z231)).toInt < 256 ∨ 2 * ((z165)).toInt ≤ ((z229)).toInt := by omega
                    have w256 : (x_rd_at).toInt ≤ ((z229)).toInt := by omega
                    have w257 : ((z231)).toInt = tkT G (x_rd_length).toInt ((z229)).toInt := by first | exact k237 | omega
                    have w258 : ((z231)).toInt = -1 ∨ ((z230)).toInt = tkX G (x_rd_length).toInt ((z229)).toInt := by first | exact k238 | omega
                    have w259 : ¬ ((z231)).toInt = 257 ∨ ((z232)).toInt = G ((z229)).toInt := by first | exact k239 | omega
                    have w260 : -1 ≤ ((z231)).toInt ∧ ((z231)).toInt ≤ 258 := by first | exact k240 | omega
                    have w261 : ((z230)).toInt ≤ (x_rd_length).toInt := by first | exact k241 | omega
                    have w262 : ((z231)).toInt = -1 ∨ ((z229)).toInt < (x_rd_length).toInt := by first | exact k242 | omega
                    have w263 : ((z229)).toInt ≤ (x_rd_length).toInt := by first | exact k243 | omega
                    have w264 : VFC ((z159)).toInt ((pTm G (x_rd_length).toInt (pPs G (x_rd_length).toInt 2) (x_rd_at).toInt (x_rd_variables).toInt vf)).2.2.2 (f164) (f166) ((z165)).toInt := (by rw [pq2264]; exact k189)
                    exact W.iret (v := r82) hx hb hr (fun t ht hW => ⟨⟨r82, (z157, z158, z159, z229, z230, z231, z232, f164, z165, f166, f167, f193, f191), rfl, ⟨w245, w246, w247, hf164, w248, hf167, hf193, hf191, w249, w250, w251, w252, w253, w254, w255, w256, w257, w258, w259, w260, w261, w262, w263, w264⟩, by rw [ht]; exact hP, hD⟩, hS.F ht⟩) hS.2.2 dX5_readPart_219
              · have kc194 := (not_congr (cv_eq (rfl : (z157).toInt = (z157).toInt) (by decide : (0 : Int32).toInt = 0))).mp c194
                have no9 := pLo_no (G := G) (n := (x_rd_length).toInt) (P := (pPs G (x_rd_length).toInt 1)) (r := rr152) (q := (x123).toInt) (nv := (x122).toInt) (vf := gh128) (by rw [← erh190]; omega)
                rw [← erh190] at no9
                have rq9 : (pTm G (x_rd_length).toInt (pPs G (x_rd_length).toInt 2) (x_rd_at).toInt (x_rd_variables).toInt vf) = rh190 := klp129_19.symm.trans no9
                have pq2651 : ((pTm G (x_rd_length).toInt (pPs G (x_rd_length).toInt 2) (x_rd_at).toInt (x_rd_variables).toInt vf)).1 = (rh190).1 := by rw [rq9]
                have pq2652 : ((pTm G (x_rd_length).toInt (pPs G (x_rd_length).toInt 2) (x_rd_at).toInt (x_rd_variables).toInt vf)).2.1 = (rh190).2.1 := by rw [rq9]
                have pq2653 : ((pTm G (x_rd_length).toInt (pPs G (x_rd_length).toInt 2) (x_rd_at).toInt (x_rd_variables).toInt vf)).2.2.1 = (rh190).2.2.1 := by rw [rq9]
                have pq2654 : ((pTm G (x_rd_length).toInt (pPs G (x_rd_length).toInt 2) (x_rd_at).toInt (x_rd_variables).toInt vf)).2.2.2 = (rh190).2.2.2 := by rw [rq9]
                refine lv_iload_n hx hb dX5_readPart_177 rfl (lv_at hl 3 rfl) ?_
                refine W.widen (k := 0) (n := 0) (Nat.le_of_ble_eq_true rfl) (Nat.le_of_ble_eq_true rfl) ?_
                have w266 : 0 ≤ ((z159)).toInt ∧ ((z159)).toInt ≤ 8 := by first | exact k170 | omega
                have w267 : 0 ≤ ((z160)).toInt ∧ ((z160)).toInt ≤ 600 := by first | exact k171 | omega
                have w268 : 0 ≤ ((z161)).toInt ∧ ((z161)).toInt ≤ 600 := by first | exact k172 | omega
                have w269 : 0 ≤ ((z165)).toInt ∧ ((z165)).toInt ≤ 300 := by first | exact k173 | omega
                have w270 : 0 ≤ (r82 : Int32).toInt ∧ (r82 : Int32).toInt ≤ 299 := by first | exact k88 | omega
                have w271 : ((z157)).toInt = ((pTm G (x_rd_length).toInt (pPs G (x_rd_length).toInt 2) (x_rd_at).toInt (x_rd_variables).toInt vf)).1 := by omega
                have w272 : ((z160)).toInt = ((pTm G (x_rd_length).toInt (pPs G (x_rd_length).toInt 2) (x_rd_at).toInt (x_rd_variables).toInt vf)).2.1 := by omega
                have w273 : ((z159)).toInt = ((pTm G (x_rd_length).toInt (pPs G (x_rd_length).toInt 2) (x_rd_at).toInt (x_rd_variables).toInt vf)).2.2.1 := by omega
                have w274 : (((z157)).toInt = 0 ∧ ((z158)).toInt = (x_rd_place).toInt) ∨ (¬ ((z157)).toInt = 0 ∧ ((z158)).toInt = ((z160)).toInt) := by omega
                have w275 : 2 * ((z165)).toInt ≤ ((z160)).toInt + 1 := by first | exact k179 | omega
                have w276 : ((z162)).toInt < 256 ∨ 2 * ((z165)).toInt ≤ ((z160)).toInt := by first | exact k180 | omega
                have w277 : (x_rd_at).toInt ≤ ((z160)).toInt := by omega
                have w278 : ((z162)).toInt = tkT G (x_rd_length).toInt ((z160)).toInt := by first | exact k182 | omega
                have w279 : ((z162)).toInt = -1 ∨ ((z161)).toInt = tkX G (x_rd_length).toInt ((z160)).toInt := by first | exact k183 | omega
                have w280 : ¬ ((z162)).toInt = 257 ∨ ((z163)).toInt = G ((z160)).toInt := by first | exact k184 | omega
                have w281 : -1 ≤ ((z162)).toInt ∧ ((z162)).toInt ≤ 258 := by first | exact k185 | omega
                have w282 : ((z161)).toInt ≤ (x_rd_length).toInt := by first | exact k186 | omega
                have w283 : ((z162)).toInt = -1 ∨ ((z160)).toInt < (x_rd_length).toInt := by first | exact k187 | omega
                have w284 : ((z160)).toInt ≤ (x_rd_length).toInt := by first | exact k188 | omega
                have w285 : VFC ((z159)).toInt ((pTm G (x_rd_length).toInt (pPs G (x_rd_length).toInt 2) (x_rd_at).toInt (x_rd_variables).toInt vf)).2.2.2 (f164) (f166) ((z165)).toInt := (by rw [pq2654]; exact k189)
                exact W.iret (v := r82) hx hb hr (fun t ht hW => ⟨⟨r82, (z157, z158, z159, z160, z161, z162, z163, f164, z165, f166, f167, f193, f191), rfl, ⟨w266, w267, w268, hf164, w269, hf167, hf193, hf191, w270, w271, w272, w273, w274, w275, w276, w277, w278, w279, w280, w281, w282, w283, w284, w285⟩, by rw [ht]; exact hP, hD⟩, hS.F ht⟩) hS.2.2 dX5_readPart_178
            · have kc151 := (cv_eq (rfl : (x113).toInt = (x113).toInt) (by decide : (3 : Int32).toInt = 3)).mp c151
              obtain rfl : gh127 = 0 := by omega
              have pv9 : (pTm G (x_rd_length).toInt (pPs G (x_rd_length).toInt 2) (x_rd_at).toInt (x_rd_variables).toInt vf) = (2, tkN G (x_rd_length).toInt (x123).toInt, (x122).toInt, gh128) := klp129_19.symm.trans (pLo_many (by omega))
              have pq2861 : ((pTm G (x_rd_length).toInt (pPs G (x_rd_length).toInt 2) (x_rd_at).toInt (x_rd_variables).toInt vf)).1 = 2 := by rw [pv9]
              have pq2862 : ((pTm G (x_rd_length).toInt (pPs G (x_rd_length).toInt 2) (x_rd_at).toInt (x_rd_variables).toInt vf)).2.1 = tkN G (x_rd_length).toInt (x123).toInt := by rw [pv9]
              have pq2863 : ((pTm G (x_rd_length).toInt (pPs G (x_rd_length).toInt 2) (x_rd_at).toInt (x_rd_variables).toInt vf)).2.2.1 = (x122).toInt := by rw [pv9]
              have pq2864 : ((pTm G (x_rd_length).toInt (pPs G (x_rd_length).toInt 2) (x_rd_at).toInt (x_rd_variables).toInt vf)).2.2.2 = gh128 := by rw [pv9]
              refine lv_aload_n hx hb dX5_readPart_128 rfl (lv_at hl 0 rfl) ?_
              refine lv_iconst (v := 2) hx hb dX5_readPart_129 (by decide) ?_
              obtain ⟨vq287, evq287⟩ := mq31_27 (.ref h_by) (.int x_rd_length) (.ref h_td) (.ref h_kn) (.int x122) (.int z135) (.int z136) (.long z137)
              replace hP : va_P (dC, dI) cls [(h_kn, .inl (cy_kn, 8, .inl f114)), (h_ter, .inl (cy_ter, 900, .inl f115)), (h_td, .inr (5, (mo32 v_td (.ref h_nam) (.ref h_var) (.ref h_trm) (.ref h_ter) (.int x116)))), (h_nam, .inl (cy_nam, 300, .inr (.inl f117))), (h_var, .inl (cy_var, 300, .inl f118)), (h_trm, .inl (cy_trm, 300, .inl f119)), (h_rd, .inr (4, (mo27 vq287 (.int x120) (.int x121) (.int z134)))), (h_by, .inl (cy_by, 600, .inl f_by))] H := by rw [evq287]; exact hP
              replace hD : va_D A [(h_kn, .inl (cy_kn, 8, .inl f114)), (h_ter, .inl (cy_ter, 900, .inl f115)), (h_td, .inr (5, (mo32 v_td (.ref h_nam) (.ref h_var) (.ref h_trm) (.ref h_ter) (.int x116)))), (h_nam, .inl (cy_nam, 300, .inr (.inl f117))), (h_var, .inl (cy_var, 300, .inl f118)), (h_trm, .inl (cy_trm, 300, .inl f119)), (h_rd, .inr (4, (mo27 vq287 (.int x120) (.int x121) (.int z134)))), (h_by, .inl (cy_by, 600, .inl f_by))] := by rw [evq287]; exact hD
              have cst2 : (2 : Int32).toInt = 2 := by decide
              have hPc := hP.sub (ws' := [(h_rd, .inr (4, (mo27 vq287 (.int x120) (.int x121) (.int z134))))]) [6] rfl
              have hDc := hD.sub (ws' := [(h_rd, .inr (4, (mo27 vq287 (.int x120) (.int x121) (.int z134))))]) [6] (by decide) rfl
              have hKc := hK.sub (tys' := []) [] rfl
              have hFc := va_free (wc := [(h_rd, .inr (4, (mo27 vq287 (.int x120) (.int x121) (.int z134))))]) hD hS hA [6] rfl
              refine va_callv (va_runV (As := [.int 2]) (rest := []) ⟨hx, hb, hml, hown, hts⟩ (c_X5_blame l dC dI H.size h_rd vq287 x120 x121 z134 2 (by first | exact k138 | omega)) (cwV 1 hts (gv hT w_m_X5_56 w_instanceMethod_X5_blame ws_sel_X5_blame w_ini_X5 w_code_X5_blame) rfl rfl rfl (by decide +kernel) ⟨(Nat.le_of_ble_eq_true rfl), (Nat.le_of_ble_eq_true rfl)⟩) ⟨pre_blind, va_recv hK hP (ci := 4) (q0 := 6) rfl rfl, pre_of hPc hKc hDc hN⟩ rfl rfl hl.1 rfl (lv_room (Nat.le_of_ble_eq_true rfl)) dX5_readPart_130 ⟨(Nat.le_of_ble_eq_true rfl), (Nat.le_of_ble_eq_true rfl)⟩) hS (fun q _ h => hFc q h) hFc (fun u t H locs ht hvm hq hB hz1 hk1 hS9 => ?_)
              obtain ⟨z289, z290⟩ := u
              obtain ⟨hP1, hD1⟩ := hB
              rw [ht] at hP1
              obtain ⟨hP9, hD9⟩ := va_join (wr := [(h_kn, .inl (cy_kn, 8, .inl f114)), (h_ter, .inl (cy_ter, 900, .inl f115)), (h_td, .inr (5, (mo32 v_td (.ref h_nam) (.ref h_var) (.ref h_trm) (.ref h_ter) (.int x116)))), (h_nam, .inl (cy_nam, 300, .inr (.inl f117))), (h_var, .inl (cy_var, 300, .inl f118)), (h_trm, .inl (cy_trm, 300, .inl f119)), (h_by, .inl (cy_by, 600, .inl f_by))]) (w1 := [(h_rd, .inr (4, (mo27 vq287 (.int z289) (.int z290) (.int z134))))]) hP hD [6] [0, 1, 2, 3, 4, 5, 7] rfl rfl (by decide) (by decide) hk1 hFc hP1 hD1
              clear hP hD hS hPc hDc hKc hFc hP1 hD1 hk1 hz1 ht hvm
              have hP : va_P (dC, dI) cls [(h_kn, .inl (cy_kn, 8, .inl f114)), (h_ter, .inl (cy_ter, 900, .inl f115)), (h_td, .inr (5, (mo32 v_td (.ref h_nam) (.ref h_var) (.ref h_trm) (.ref h_ter) (.int x116)))), (h_nam, .inl (cy_nam, 300, .inr (.inl f117))), (h_var, .inl (cy_var, 300, .inl f118)), (h_trm, .inl (cy_trm, 300, .inl f119)), (h_by, .inl (cy_by, 600, .inl f_by)), (h_rd, .inr (4, (mo27 vq287 (.int z289) (.int z290) (.int z134))))] H := hP9
              have hD : va_D A [(h_kn, .inl (cy_kn, 8, .inl f114)), (h_ter, .inl (cy_ter, 900, .inl f115)), (h_td, .inr (5, (mo32 v_td (.ref h_nam) (.ref h_var) (.ref h_trm) (.ref h_ter) (.int x116)))), (h_nam, .inl (cy_nam, 300, .inr (.inl f117))), (h_var, .inl (cy_var, 300, .inl f118)), (h_trm, .inl (cy_trm, 300, .inl f119)), (h_by, .inl (cy_by, 600, .inl f_by)), (h_rd, .inr (4, (mo27 vq287 (.int z289) (.int z290) (.int z134))))] := hD9
              have hS := hS9
              clear hP9 hD9 hS9
              rw [evq287] at hP hD
              replace hP : va_P (dC, dI) cls [(h_kn, .inl (cy_kn, 8, .inl f114)), (h_ter, .inl (cy_ter, 900, .inl f115)), (h_td, .inr (5, (mo32 v_td (.ref h_nam) (.ref h_var) (.ref h_trm) (.ref h_ter) (.int x116)))), (h_nam, .inl (cy_nam, 300, .inr (.inl f117))), (h_var, .inl (cy_var, 300, .inl f118)), (h_trm, .inl (cy_trm, 300, .inl f119)), (h_by, .inl (cy_by, 600, .inl f_by)), (h_rd, .inr (4, (mo31 (.ref h_by) (.int x_rd_length) (.int z289) (.int z290) (.ref h_td) (.ref h_kn) (.int x122) (.int z134) (.int z135) (.int z136) (.long z137))))] H := hP
              replace hD : va_D A [(h_kn, .inl (cy_kn, 8, .inl f114)), (h_ter, .inl (cy_ter, 900, .inl f115)), (h_td, .inr (5, (mo32 v_td (.ref h_nam) (.ref h_var) (.ref h_trm) (.ref h_ter) (.int x116)))), (h_nam, .inl (cy_nam, 300, .inr (.inl f117))), (h_var, .inl (cy_var, 300, .inl f118)), (h_trm, .inl (cy_trm, 300, .inl f119)), (h_by, .inl (cy_by, 600, .inl f_by)), (h_rd, .inr (4, (mo31 (.ref h_by) (.int x_rd_length) (.int z289) (.int z290) (.ref h_td) (.ref h_kn) (.int x122) (.int z134) (.int z135) (.int z136) (.long z137))))] := hD
              clear evq287 
              obtain ⟨k291, k292⟩ := hq
              replace k291 : ((z289)).toInt = ((2 : Int32)).toInt := k291
              replace k292 : ((z290)).toInt = ((z134)).toInt := k292
              refine lv_goto (tgt := 170) hx hb dX5_readPart_133 (by decide) ?_
              refine lv_aload_n hx hb dX5_readPart_170 rfl (lv_at hl 0 rfl) ?_
              refine va_get (D := (dC, dI)) (ci := 4) (v := .int z289) (C := RX5) (T := TX5) (N := 11) hx hb hw iwX5 hown hK hP 7 rfl rfl 2 (by decide) (hw _ w_f_X5_34) (fun _ h9 => h9) rfl dX5_readPart_171 ?_
              refine lv_if_eq (tgt := 179) hx hb dX5_readPart_174 (by decide) (fun c293 => False.elim (by have kc293 := (cv_eq (rfl : (z289).toInt = (z289).toInt) (by decide : (0 : Int32).toInt = 0)).mp c293; omega)) (fun _ => ?_)
              refine lv_iload_n hx hb dX5_readPart_177 rfl (lv_at hl 3 rfl) ?_
              replace hP : va_P (dC, dI) cls [(h_rd, .inr (4, (mo31 (.ref h_by) (.int x_rd_length) (.int z289) (.int z290) (.ref h_td) (.ref h_kn) (.int x122) (.int z134) (.int z135) (.int z136) (.long z137)))), (h_by, .inl (cy_by, 600, .inl f_by)), (h_kn, .inl (cy_kn, 8, .inl f114)), (h_td, .inr (5, (mo32 v_td (.ref h_nam) (.ref h_var) (.ref h_trm) (.ref h_ter) (.int x116)))), (h_nam, .inl (cy_nam, 300, .inr (.inl f117))), (h_var, .inl (cy_var, 300, .inl f118)), (h_trm, .inl (cy_trm, 300, .inl f119)), (h_ter, .inl (cy_ter, 900, .inl f115))] H := hP.sub [7, 6, 0, 2, 3, 4, 5, 1] rfl
              replace hD : va_D A [(h_rd, .inr (4, (mo31 (.ref h_by) (.int x_rd_length) (.int z289) (.int z290) (.ref h_td) (.ref h_kn) (.int x122) (.int z134) (.int z135) (.int z136) (.long z137)))), (h_by, .inl (cy_by, 600, .inl f_by)), (h_kn, .inl (cy_kn, 8, .inl f114)), (h_td, .inr (5, (mo32 v_td (.ref h_nam) (.ref h_var) (.ref h_trm) (.ref h_ter) (.int x116)))), (h_nam, .inl (cy_nam, 300, .inr (.inl f117))), (h_var, .inl (cy_var, 300, .inl f118)), (h_trm, .inl (cy_trm, 300, .inl f119)), (h_ter, .inl (cy_ter, 900, .inl f115))] := hD.sub [7, 6, 0, 2, 3, 4, 5, 1] (by decide) rfl
              refine W.widen (k := 0) (n := 0) (Nat.le_of_ble_eq_true rfl) (Nat.le_of_ble_eq_true rfl) ?_
              have w294 : 0 ≤ ((x122)).toInt ∧ ((x122)).toInt ≤ 8 := by first | exact klp129_6 | omega
              have w295 : 0 ≤ ((z134)).toInt ∧ ((z134)).toInt ≤ 600 := by first | exact k138 | omega
              have w296 : 0 ≤ ((z135)).toInt ∧ ((z135)).toInt ≤ 600 := by first | exact k139 | omega
              have w297 : 0 ≤ ((x116)).toInt ∧ ((x116)).toInt ≤ 300 := by first | exact klp129_3 | omega
              have w298 : 0 ≤ (r82 : Int32).toInt ∧ (r82 : Int32).toInt ≤ 299 := by first | exact k88 | omega
              have w299 : ((z289)).toInt = ((pTm G (x_rd_length).toInt (pPs G (x_rd_length).toInt 2) (x_rd_at).toInt (x_rd_variables).toInt vf)).1 := by omega
              have w300 : ((z134)).toInt = ((pTm G (x_rd_length).toInt (pPs G (x_rd_length).toInt 2) (x_rd_at).toInt (x_rd_variables).toInt vf)).2.1 := by omega
              have w301 : ((x122)).toInt = ((pTm G (x_rd_length).toInt (pPs G (x_rd_length).toInt 2) (x_rd_at).toInt (x_rd_variables).toInt vf)).2.2.1 := by omega
              have w302 : (((z289)).toInt = 0 ∧ ((z290)).toInt = (x_rd_place).toInt) ∨ (¬ ((z289)).toInt = 0 ∧ ((z290)).toInt = ((z134)).toInt) := by omega
              have w303 : 2 * ((x116)).toInt ≤ ((z134)).toInt + 1 := by omega
              have w304 : ((z136)).toInt < 256 ∨ 2 * ((x116)).toInt ≤ ((z134)).toInt := by omega
              have w305 : (x_rd_at).toInt ≤ ((z134)).toInt := by omega
              have w306 : ((z136)).toInt = tkT G (x_rd_length).toInt ((z134)).toInt := by first | exact k142 | omega
              have w307 : ((z136)).toInt = -1 ∨ ((z135)).toInt = tkX G (x_rd_length).toInt ((z134)).toInt := by first | exact k143 | omega
              have w308 : ¬ ((z136)).toInt = 257 ∨ ((z137)).toInt = G ((z134)).toInt := by first | exact k144 | omega
              have w309 : -1 ≤ ((z136)).toInt ∧ ((z136)).toInt ≤ 258 := by first | exact k145 | omega
              have w310 : ((z135)).toInt ≤ (x_rd_length).toInt := by first | exact k146 | omega
              have w311 : ((z136)).toInt = -1 ∨ ((z134)).toInt < (x_rd_length).toInt := by first | exact k147 | omega
              have w312 : ((z134)).toInt ≤ (x_rd_length).toInt := by first | exact k148 | omega
              have w313 : VFC ((x122)).toInt ((pTm G (x_rd_length).toInt (pPs G (x_rd_length).toInt 2) (x_rd_at).toInt (x_rd_variables).toInt vf)).2.2.2 (f114) (f117) ((x116)).toInt := (by rw [pq2864]; exact klp129_20)
              exact W.iret (v := r82) hx hb hr (fun t ht hW => ⟨⟨r82, (z289, z290, x122, z134, z135, z136, z137, f114, x116, f117, f118, f119, f115), rfl, ⟨w294, w295, w296, hf114, w297, hf118, hf119, hf115, w298, w299, w300, w301, w302, w303, w304, w305, w306, w307, w308, w309, w310, w311, w312, w313⟩, by rw [ht]; exact hP, hD⟩, hS.F ht⟩) hS.2.2 dX5_readPart_178
          · have kc150 := (not_congr (cv_eq (rfl : (z136).toInt = (z136).toInt) (by decide : (256 : Int32).toInt = 256))).mp c150
            refine lv_aload_n hx hb dX5_readPart_104 rfl (lv_at hl 0 rfl) ?_
            refine va_get (D := (dC, dI)) (ci := 4) (v := .int z136) (C := RX5) (T := TX5) (N := 11) hx hb hw iwX5 hown hK hP 6 rfl rfl 9 (by decide) (hw _ w_f_X5_43) (fun _ h9 => h9) rfl dX5_readPart_105 ?_
            refine lv_sipush (v := 257) hx hb dX5_readPart_108 (by decide) ?_
            refine lv_icmp_eq (tgt := 122) hx hb dX5_readPart_111 (by decide) (fun c314 => ?_) (fun c314 => ?_)
            · have kc314 := (cv_eq (rfl : (z136).toInt = (z136).toInt) (by decide : (257 : Int32).toInt = 257)).mp c314
              refine lv_iload hx hb dX5_readPart_122 (lv_at hl 4 rfl) ?_
              refine lv_iconst (v := 3) hx hb dX5_readPart_124 (by decide) ?_
              refine lv_icmp_ne (tgt := 136) hx hb dX5_readPart_125 (by decide) (fun c315 => ?_) (fun c315 => ?_)
              · have kc315 := (not_congr (cv_eq (rfl : (x113).toInt = (x113).toInt) (by decide : (3 : Int32).toInt = 3))).mp c315
                obtain ⟨rr316, rfl⟩ : ∃ y : Nat, gh127 = y + 1 := ⟨gh127 - 1, by omega⟩
                refine lv_aload_n hx hb dX5_readPart_136 rfl (lv_at hl 0 rfl) ?_
                refine va_get (D := (dC, dI)) (ci := 4) (v := .ref h_td) (C := RX5) (T := TX5) (N := 11) hx hb hw iwX5 hown hK hP 6 rfl rfl 4 (by decide) (hw _ w_f_X5_25) (fun _ h9 => h9) rfl dX5_readPart_137 ?_
                refine va_getN (D := (dC, dI)) (ci := 5) (v := .ref h_ter) (C := RX8) (T := TX8) (N := 10) (host := "OppositePairs") hx hb hw iwX8 hown hK hP 2 rfl rfl 3 (by decide) (hN.use n_f_X5_97 rfl) (fun _ h9 => h9) rfl dX5_readPart_140 ?_
                refine lv_iload_n hx hb dX5_readPart_143 rfl (lv_at hl 3 rfl) ?_
                refine lv_iconst (v := 3) hx hb dX5_readPart_144 (by decide) ?_
                refine lv_imul hx hb dX5_readPart_145 ?_
                refine lv_topi (fun z317 ez317 => ?_)
                have tz317 : (z317).toInt = (r82).toInt * 3 := by rw [ez317]; exact i_mul rfl (by decide) (by omega)
                refine lv_iload hx hb dX5_readPart_146 (lv_at hl 4 rfl) ?_
                refine lv_iadd hx hb dX5_readPart_148 ?_
                refine lv_topi (fun z318 ez318 => ?_)
                have tz318 : (z318).toInt = (z317).toInt + (x113).toInt := by rw [ez318]; exact i_add rfl rfl (by omega)
                refine lv_aload_n hx hb dX5_readPart_149 rfl (lv_at hl 0 rfl) ?_
                refine lv_iload_n hx hb dX5_readPart_150 rfl (lv_at hl 1 rfl) ?_
                refine lv_iconst (v := 1) hx hb dX5_readPart_151 (by decide) ?_
                refine lv_iadd hx hb dX5_readPart_152 ?_
                refine lv_topi (fun z319 ez319 => ?_)
                obtain rfl : z319 = 5 := ez319.trans (by decide)
                have cst5 : (5 : Int32).toInt = 5 := by decide
                have hPc := hP.sub (ws' := [(h_rd, .inr (4, (mo31 (.ref h_by) (.int x_rd_length) (.int x120) (.int x121) (.ref h_td) (.ref h_kn) (.int x122) (.int z134) (.int z135) (.int z136) (.long z137)))), (h_by, .inl (cy_by, 600, .inl f_by)), (h_kn, .inl (cy_kn, 8, .inl f114)), (h_td, .inr (5, (mo32 v_td (.ref h_nam) (.ref h_var) (.ref h_trm) (.ref h_ter) (.int x116)))), (h_nam, .inl (cy_nam, 300, .inr (.inl f117))), (h_var, .inl (cy_var, 300, .inl f118)), (h_trm, .inl (cy_trm, 300, .inl f119)), (h_ter, .inl (cy_ter, 900, .inl f115))]) [6, 7, 0, 2, 3, 4, 5, 1] rfl
                have hDc := hD.sub (ws' := [(h_rd, .inr (4, (mo31 (.ref h_by) (.int x_rd_length) (.int x120) (.int x121) (.ref h_td) (.ref h_kn) (.int x122) (.int z134) (.int z135) (.int z136) (.long z137)))), (h_by, .inl (cy_by, 600, .inl f_by)), (h_kn, .inl (cy_kn, 8, .inl f114)), (h_td, .inr (5, (mo32 v_td (.ref h_nam) (.ref h_var) (.ref h_trm) (.ref h_ter) (.int x116)))), (h_nam, .inl (cy_nam, 300, .inr (.inl f117))), (h_var, .inl (cy_var, 300, .inl f118)), (h_trm, .inl (cy_trm, 300, .inl f119)), (h_ter, .inl (cy_ter, 900, .inl f115))]) [6, 7, 0, 2, 3, 4, 5, 1] (by decide) rfl
                have hKc := hK.sub (tys' := [(cy_by, .int), (cy_kn, .int), (cy_nam, .long), (cy_var, .int), (cy_trm, .int), (cy_ter, .int)]) [0, 1, 2, 3, 4, 5] rfl
                have hFc := va_free (wc := [(h_rd, .inr (4, (mo31 (.ref h_by) (.int x_rd_length) (.int x120) (.int x121) (.ref h_td) (.ref h_kn) (.int x122) (.int z134) (.int z135) (.int z136) (.long z137)))), (h_by, .inl (cy_by, 600, .inl f_by)), (h_kn, .inl (cy_kn, 8, .inl f114)), (h_td, .inr (5, (mo32 v_td (.ref h_nam) (.ref h_var) (.ref h_trm) (.ref h_ter) (.int x116)))), (h_nam, .inl (cy_nam, 300, .inr (.inl f117))), (h_var, .inl (cy_var, 300, .inl f118)), (h_trm, .inl (cy_trm, 300, .inl f119)), (h_ter, .inl (cy_ter, 900, .inl f115))]) hD hS hA [6, 7, 0, 2, 3, 4, 5, 1] rfl
                refine va_calli (va_runV (As := [.int 5]) (rest := [.int z318, .ref h_ter]) ⟨hx, hb, hml, hown, hts⟩ (c_X5_readPart_5 l dC dI H.size h_rd h_by h_kn h_td h_nam h_var h_trm h_ter x_rd_length x120 x121 x122 z134 z135 z136 z137 cy_by f_by cy_kn f114 v_td x116 cy_nam f117 cy_var f118 cy_trm f119 cy_ter f115 G gh128 (by first | exact hx_rd_length | omega) (by first | exact klp129_6 | omega) (by first | exact k138 | omega) (by first | exact k139 | omega) hf_by hf114 (by first | exact klp129_3 | omega) hf118 hf119 hf115 (by first | exact k142 | omega) (by omega) (by omega) (by first | exact k144 | omega) (by omega) (by omega) (by omega) (by first | exact k146 | omega) hn_byt klp129_20) (cwV 1 hts (gv hT w_m_X5_81 w_instanceMethod_X5_readPart ws_sel_X5_readPart w_ini_X5 w_code_X5_readPart) rfl rfl rfl (by decide +kernel) ⟨(Nat.le_of_ble_eq_true rfl), (Nat.le_of_ble_eq_true rfl)⟩) ⟨pre_blind, va_recv hK hP (ci := 4) (q0 := 6) rfl rfl, pre_of hPc hKc hDc hN⟩ rfl rfl hl.1 rfl (lv_room (Nat.le_of_ble_eq_true rfl)) dX5_readPart_153 ⟨(Nat.le_of_ble_eq_true rfl), (Nat.le_of_ble_eq_true rfl)⟩) hS (fun q _ h => hFc q h) hFc (fun r320 u t H locs ht hvm hq hB hz1 hk1 hS9 => ?_)
                obtain ⟨z321, z322, z323, z324, z325, z326, z327, f328, z329, f330, f331, f332, f333⟩ := u
                obtain ⟨hP1, hD1⟩ := hB
                rw [ht] at hP1
                obtain ⟨hP9, hD9⟩ := va_join (wr := []) (w1 := [(h_rd, .inr (4, (mo31 (.ref h_by) (.int x_rd_length) (.int z321) (.int z322) (.ref h_td) (.ref h_kn) (.int z323) (.int z324) (.int z325) (.int z326) (.long z327)))), (h_by, .inl (cy_by, 600, .inl f_by)), (h_kn, .inl (cy_kn, 8, .inl f328)), (h_td, .inr (5, (mo32 v_td (.ref h_nam) (.ref h_var) (.ref h_trm) (.ref h_ter) (.int z329)))), (h_nam, .inl (cy_nam, 300, .inr (.inl f330))), (h_var, .inl (cy_var, 300, .inl f331)), (h_trm, .inl (cy_trm, 300, .inl f332)), (h_ter, .inl (cy_ter, 900, .inl f333))]) hP hD [6, 7, 0, 2, 3, 4, 5, 1] [] rfl rfl (by decide) (by decide) hk1 hFc hP1 hD1
                clear hP hD hS hPc hDc hKc hFc hP1 hD1 hk1 hz1 ht hvm
                have hP : va_P (dC, dI) cls [(h_rd, .inr (4, (mo31 (.ref h_by) (.int x_rd_length) (.int z321) (.int z322) (.ref h_td) (.ref h_kn) (.int z323) (.int z324) (.int z325) (.int z326) (.long z327)))), (h_by, .inl (cy_by, 600, .inl f_by)), (h_kn, .inl (cy_kn, 8, .inl f328)), (h_td, .inr (5, (mo32 v_td (.ref h_nam) (.ref h_var) (.ref h_trm) (.ref h_ter) (.int z329)))), (h_nam, .inl (cy_nam, 300, .inr (.inl f330))), (h_var, .inl (cy_var, 300, .inl f331)), (h_trm, .inl (cy_trm, 300, .inl f332)), (h_ter, .inl (cy_ter, 900, .inl f333))] H := hP9
                have hD : va_D A [(h_rd, .inr (4, (mo31 (.ref h_by) (.int x_rd_length) (.int z321) (.int z322) (.ref h_td) (.ref h_kn) (.int z323) (.int z324) (.int z325) (.int z326) (.long z327)))), (h_by, .inl (cy_by, 600, .inl f_by)), (h_kn, .inl (cy_kn, 8, .inl f328)), (h_td, .inr (5, (mo32 v_td (.ref h_nam) (.ref h_var) (.ref h_trm) (.ref h_ter) (.int z329)))), (h_nam, .inl (cy_nam, 300, .inr (.inl f330))), (h_var, .inl (cy_var, 300, .inl f331)), (h_trm, .inl (cy_trm, 300, .inl f332)), (h_ter, .inl (cy_ter, 900, .inl f333))] := hD9
                have hS := hS9
                clear hP9 hD9 hS9
                obtain ⟨k334, k335, k336, hf328, k337, hf331, hf332, hf333, k338, k339, k340, k341, k342, k343, k344, k345, k346, k347, k348, k349, k350, k351, k352, k353⟩ := hq
                replace k334 : 0 ≤ ((z323)).toInt ∧ ((z323)).toInt ≤ 8 := k334
                replace k335 : 0 ≤ ((z324)).toInt ∧ ((z324)).toInt ≤ 600 := k335
                replace k336 : 0 ≤ ((z325)).toInt ∧ ((z325)).toInt ≤ 600 := k336
                replace hf328 : Rg 0 299 (f328) := hf328
                replace k337 : 0 ≤ ((z329)).toInt ∧ ((z329)).toInt ≤ 300 := k337
                replace hf331 : Rg (-1) 7 (f331) := hf331
                replace hf332 : Rg 0 3 (f332) := hf332
                replace hf333 : Rg 0 299 (f333) := hf333
                replace k338 : 0 ≤ (r320).toInt ∧ (r320).toInt ≤ 299 := k338
                replace k339 : ((z321)).toInt = ((pTm (G) ((x_rd_length)).toInt (pPs (G) ((x_rd_length)).toInt 1) ((z134)).toInt ((x122)).toInt (gh128))).1 := k339
                replace k340 : ((z324)).toInt = ((pTm (G) ((x_rd_length)).toInt (pPs (G) ((x_rd_length)).toInt 1) ((z134)).toInt ((x122)).toInt (gh128))).2.1 := k340
                replace k341 : ((z323)).toInt = ((pTm (G) ((x_rd_length)).toInt (pPs (G) ((x_rd_length)).toInt 1) ((z134)).toInt ((x122)).toInt (gh128))).2.2.1 := k341
                replace k342 : (((z321)).toInt = 0 ∧ ((z322)).toInt = ((x121)).toInt) ∨ (¬ ((z321)).toInt = 0 ∧ ((z322)).toInt = ((z324)).toInt) := k342
                replace k343 : 2 * ((z329)).toInt ≤ ((z324)).toInt + 1 := k343
                replace k344 : ((z326)).toInt < 256 ∨ 2 * ((z329)).toInt ≤ ((z324)).toInt := k344
                replace k345 : ((z134)).toInt ≤ ((z324)).toInt := k345
                replace k346 : ((z326)).toInt = tkT (G) ((x_rd_length)).toInt ((z324)).toInt := k346
                replace k347 : ((z326)).toInt = -1 ∨ ((z325)).toInt = tkX (G) ((x_rd_length)).toInt ((z324)).toInt := k347
                replace k348 : ¬ ((z326)).toInt = 257 ∨ ((z327)).toInt = (G) ((z324)).toInt := k348
                replace k349 : -1 ≤ ((z326)).toInt ∧ ((z326)).toInt ≤ 258 := k349
                replace k350 : ((z325)).toInt ≤ ((x_rd_length)).toInt := k350
                replace k351 : ((z326)).toInt = -1 ∨ ((z324)).toInt < ((x_rd_length)).toInt := k351
                replace k352 : ((z324)).toInt ≤ ((x_rd_length)).toInt := k352
                replace k353 : VFC ((z323)).toInt ((pTm (G) ((x_rd_length)).toInt (pPs (G) ((x_rd_length)).toInt 1) ((z134)).toInt ((x122)).toInt (gh128))).2.2.2 (f328) (f330) ((z329)).toInt := k353
                obtain ⟨rh354, erh354⟩ : ∃ x : PR, x = (pTm (G) ((x_rd_length)).toInt (pPs (G) ((x_rd_length)).toInt 1) ((z134)).toInt ((x122)).toInt (gh128)) := ⟨_, rfl⟩
                rw [← erh354] at k339 k340 k341 k353
                rw [tn149] at erh354
                refine va_iast hx hb hK hP hD hS 7 5 rfl rfl (i := z318) (x := r320) (vp_in_iff.mpr (by omega)) dX5_readPart_156 (fun H locs hP9 hD9 hS9 => ?_)
                obtain ⟨f355, ef355⟩ : ∃ g : Nat → Int32, g = upd f333 (Int32.toNatClampNeg z318) r320 := ⟨_, rfl⟩
                clear hP hD hS
                have hP : va_P (dC, dI) cls [(h_rd, .inr (4, (mo31 (.ref h_by) (.int x_rd_length) (.int z321) (.int z322) (.ref h_td) (.ref h_kn) (.int z323) (.int z324) (.int z325) (.int z326) (.long z327)))), (h_by, .inl (cy_by, 600, .inl f_by)), (h_kn, .inl (cy_kn, 8, .inl f328)), (h_td, .inr (5, (mo32 v_td (.ref h_nam) (.ref h_var) (.ref h_trm) (.ref h_ter) (.int z329)))), (h_nam, .inl (cy_nam, 300, .inr (.inl f330))), (h_var, .inl (cy_var, 300, .inl f331)), (h_trm, .inl (cy_trm, 300, .inl f332)), (h_ter, .inl (cy_ter, 900, .inl f355))] H := by rw [ef355]; exact hP9
                have hD : va_D A [(h_rd, .inr (4, (mo31 (.ref h_by) (.int x_rd_length) (.int z321) (.int z322) (.ref h_td) (.ref h_kn) (.int z323) (.int z324) (.int z325) (.int z326) (.long z327)))), (h_by, .inl (cy_by, 600, .inl f_by)), (h_kn, .inl (cy_kn, 8, .inl f328)), (h_td, .inr (5, (mo32 v_td (.ref h_nam) (.ref h_var) (.ref h_trm) (.ref h_ter) (.int z329)))), (h_nam, .inl (cy_nam, 300, .inr (.inl f330))), (h_var, .inl (cy_var, 300, .inl f331)), (h_trm, .inl (cy_trm, 300, .inl f332)), (h_ter, .inl (cy_ter, 900, .inl f355))] := by rw [ef355]; exact hD9
                have hS := hS9
                clear hP9 hD9 hS9
                have hf355 : Rg 0 299 f355 := by rw [ef355]; exact rg_upd hf333 (by omega)
                clear ef355
                refine lv_aload_n hx hb dX5_readPart_157 rfl (lv_at hl 0 rfl) ?_
                refine va_get (D := (dC, dI)) (ci := 4) (v := .ref h_td) (C := RX5) (T := TX5) (N := 11) hx hb hw iwX5 hown hK hP 0 rfl rfl 4 (by decide) (hw _ w_f_X5_25) (fun _ h9 => h9) rfl dX5_readPart_158 ?_
                refine va_getN (D := (dC, dI)) (ci := 5) (v := .ref h_trm) (C := RX8) (T := TX8) (N := 10) (host := "OppositePairs") hx hb hw iwX8 hown hK hP 3 rfl rfl 2 (by decide) (hN.use n_f_X5_100 rfl) (fun _ h9 => h9) rfl dX5_readPart_161 ?_
                refine lv_iload_n hx hb dX5_readPart_164 rfl (lv_at hl 3 rfl) ?_
                refine lv_iload hx hb dX5_readPart_165 (lv_at hl 4 rfl) ?_
                refine lv_iconst (v := 1) hx hb dX5_readPart_167 (by decide) ?_
                refine lv_iadd hx hb dX5_readPart_168 ?_
                refine lv_topi (fun z356 ez356 => ?_)
                have tz356 : (z356).toInt = (x113).toInt + 1 := by rw [ez356]; exact i_add rfl (by decide) (by omega)
                refine va_iast hx hb hK hP hD hS 6 4 rfl rfl (i := r82) (x := z356) (vp_in_iff.mpr (by omega)) dX5_readPart_169 (fun H locs hP9 hD9 hS9 => ?_)
                obtain ⟨f357, ef357⟩ : ∃ g : Nat → Int32, g = upd f332 (Int32.toNatClampNeg r82) z356 := ⟨_, rfl⟩
                clear hP hD hS
                have hP : va_P (dC, dI) cls [(h_rd, .inr (4, (mo31 (.ref h_by) (.int x_rd_length) (.int z321) (.int z322) (.ref h_td) (.ref h_kn) (.int z323) (.int z324) (.int z325) (.int z326) (.long z327)))), (h_by, .inl (cy_by, 600, .inl f_by)), (h_kn, .inl (cy_kn, 8, .inl f328)), (h_td, .inr (5, (mo32 v_td (.ref h_nam) (.ref h_var) (.ref h_trm) (.ref h_ter) (.int z329)))), (h_nam, .inl (cy_nam, 300, .inr (.inl f330))), (h_var, .inl (cy_var, 300, .inl f331)), (h_trm, .inl (cy_trm, 300, .inl f357)), (h_ter, .inl (cy_ter, 900, .inl f355))] H := by rw [ef357]; exact hP9
                have hD : va_D A [(h_rd, .inr (4, (mo31 (.ref h_by) (.int x_rd_length) (.int z321) (.int z322) (.ref h_td) (.ref h_kn) (.int z323) (.int z324) (.int z325) (.int z326) (.long z327)))), (h_by, .inl (cy_by, 600, .inl f_by)), (h_kn, .inl (cy_kn, 8, .inl f328)), (h_td, .inr (5, (mo32 v_td (.ref h_nam) (.ref h_var) (.ref h_trm) (.ref h_ter) (.int z329)))), (h_nam, .inl (cy_nam, 300, .inr (.inl f330))), (h_var, .inl (cy_var, 300, .inl f331)), (h_trm, .inl (cy_trm, 300, .inl f357)), (h_ter, .inl (cy_ter, 900, .inl f355))] := by rw [ef357]; exact hD9
                have hS := hS9
                clear hP9 hD9 hS9
                have hf357 : Rg 0 3 f357 := by rw [ef357]; exact rg_upd hf332 (by omega)
                clear ef357
                refine lv_aload_n hx hb dX5_readPart_170 rfl (lv_at hl 0 rfl) ?_
                refine va_get (D := (dC, dI)) (ci := 4) (v := .int z321) (C := RX5) (T := TX5) (N := 11) hx hb hw iwX5 hown hK hP 0 rfl rfl 2 (by decide) (hw _ w_f_X5_34) (fun _ h9 => h9) rfl dX5_readPart_171 ?_
                refine lv_if_eq (tgt := 179) hx hb dX5_readPart_174 (by decide) (fun c358 => ?_) (fun c358 => ?_)
                · have kc358 := (cv_eq (rfl : (z321).toInt = (z321).toInt) (by decide : (0 : Int32).toInt = 0)).mp c358
                  refine lv_aload_n hx hb dX5_readPart_179 rfl (lv_at hl 0 rfl) ?_
                  refine va_get (D := (dC, dI)) (ci := 4) (v := .int z326) (C := RX5) (T := TX5) (N := 11) hx hb hw iwX5 hown hK hP 0 rfl rfl 9 (by decide) (hw _ w_f_X5_43) (fun _ h9 => h9) rfl dX5_readPart_180 ?_
                  refine lv_bipush (v := 44) hx hb dX5_readPart_183 (by decide) ?_
                  refine lv_icmp_eq (tgt := 191) hx hb dX5_readPart_185 (by decide) (fun c359 => ?_) (fun c359 => ?_)
                  · have kc359 := (cv_eq (rfl : (z326).toInt = (z326).toInt) (by decide : (44 : Int32).toInt = 44)).mp c359
                    have on9 := pLo_on (G := G) (n := (x_rd_length).toInt) (P := (pPs G (x_rd_length).toInt 1)) (r := rr316) (q := (x123).toInt) (nv := (x122).toInt) (vf := gh128) (by rw [← erh354]; omega) (by rw [← erh354, ← k340]; omega)
                    rw [← erh354, ← k340, ← k341] at on9
                    have lo360 := on9.symm.trans klp129_19
                    obtain ⟨z361, ez361⟩ : ∃ y : Int32, y = x113 + 1 := ⟨_, rfl⟩
                    have tz361 : (z361).toInt = (x113).toInt + 1 := by rw [ez361]; exact i_add rfl (by decide) (by omega)
                    refine lv_iinc (v := z361) (lv' := [(4, .int z361), (0, .ref h_rd), (1, .int 4), (2, .int 1), (3, .int r82)]) hx hb dX5_readPart_191 hl (k := 4) rfl (by rw [ez361]; rfl) (by decide) rfl (fun ls hl => ?_)
                    refine lv_goto (tgt := 84) hx hb dX5_readPart_194 (by decide) ?_
                    replace hP : va_P (dC, dI) cls [(h_kn, .inl (cy_kn, 8, .inl f328)), (h_ter, .inl (cy_ter, 900, .inl f355)), (h_td, .inr (5, (mo32 v_td (.ref h_nam) (.ref h_var) (.ref h_trm) (.ref h_ter) (.int z329)))), (h_nam, .inl (cy_nam, 300, .inr (.inl f330))), (h_var, .inl (cy_var, 300, .inl f331)), (h_trm, .inl (cy_trm, 300, .inl f357)), (h_rd, .inr (4, (mo31 (.ref h_by) (.int x_rd_length) (.int z321) (.int z322) (.ref h_td) (.ref h_kn) (.int z323) (.int z324) (.int z325) (.int z326) (.long z327)))), (h_by, .inl (cy_by, 600, .inl f_by))] H := hP.sub [2, 7, 3, 4, 5, 6, 0, 1] rfl
                    replace hD : va_D A [(h_kn, .inl (cy_kn, 8, .inl f328)), (h_ter, .inl (cy_ter, 900, .inl f355)), (h_td, .inr (5, (mo32 v_td (.ref h_nam) (.ref h_var) (.ref h_trm) (.ref h_ter) (.int z329)))), (h_nam, .inl (cy_nam, 300, .inr (.inl f330))), (h_var, .inl (cy_var, 300, .inl f331)), (h_trm, .inl (cy_trm, 300, .inl f357)), (h_rd, .inr (4, (mo31 (.ref h_by) (.int x_rd_length) (.int z321) (.int z322) (.ref h_td) (.ref h_kn) (.int z323) (.int z324) (.int z325) (.int z326) (.long z327)))), (h_by, .inl (cy_by, 600, .inl f_by))] := hD.sub [2, 7, 3, 4, 5, 6, 0, 1] (by decide) rfl
                    exact ih130 (z361) (f328) (f355) (z329) (f330) (f331) (f357) (z321) (z322) (z323) (z324) (z325) (z326) (z327) (rr316) ((rh354).2.2.2) _ _ _ (by omega) hf328 hf355 (by first | exact k337 | omega) hf331 hf357 (by first | exact k334 | omega) (by first | exact k335 | omega) (by first | exact k336 | omega) (by first | exact k346 | omega) (by omega) (by omega) (by first | exact k343 | omega) (by omega) (by first | exact k350 | omega) (by omega) (by omega) (by omega) (by omega) lo360 k353 (by omega) hP hD hS (lv_sub hl [1, 2, 3, 4, 0] rfl)
                  · have kc359 := (not_congr (cv_eq (rfl : (z326).toInt = (z326).toInt) (by decide : (44 : Int32).toInt = 44))).mp c359
                    refine lv_goto (tgt := 197) hx hb dX5_readPart_188 (by decide) ?_
                    have on9 := pLo_off (G := G) (n := (x_rd_length).toInt) (P := (pPs G (x_rd_length).toInt 1)) (r := rr316) (q := (x123).toInt) (nv := (x122).toInt) (vf := gh128) (by rw [← erh354]; omega) (by rw [← erh354, ← k340]; omega)
                    rw [← erh354, ← k340, ← k341] at on9
                    have cl9 := on9.symm.trans klp129_19
                    refine lv_aload_n hx hb dX5_readPart_197 rfl (lv_at hl 0 rfl) ?_
                    refine va_get (D := (dC, dI)) (ci := 4) (v := .int z326) (C := RX5) (T := TX5) (N := 11) hx hb hw iwX5 hown hK hP 0 rfl rfl 9 (by decide) (hw _ w_f_X5_43) (fun _ h9 => h9) rfl dX5_readPart_198 ?_
                    refine lv_bipush (v := 41) hx hb dX5_readPart_201 (by decide) ?_
                    refine lv_icmp_ne (tgt := 213) hx hb dX5_readPart_203 (by decide) (fun c362 => ?_) (fun c362 => ?_)
                    · have kc362 := (not_congr (cv_eq (rfl : (z326).toInt = (z326).toInt) (by decide : (41 : Int32).toInt = 41))).mp c362
                      have pv9 : (pTm G (x_rd_length).toInt (pPs G (x_rd_length).toInt 2) (x_rd_at).toInt (x_rd_variables).toInt vf) = (1, (z324).toInt, (z323).toInt, (rh354).2.2.2) := cl9.symm.trans (pCl_no (by omega))
                      have pq3631 : ((pTm G (x_rd_length).toInt (pPs G (x_rd_length).toInt 2) (x_rd_at).toInt (x_rd_variables).toInt vf)).1 = 1 := by rw [pv9]
                      have pq3632 : ((pTm G (x_rd_length).toInt (pPs G (x_rd_length).toInt 2) (x_rd_at).toInt (x_rd_variables).toInt vf)).2.1 = (z324).toInt := by rw [pv9]
                      have pq3633 : ((pTm G (x_rd_length).toInt (pPs G (x_rd_length).toInt 2) (x_rd_at).toInt (x_rd_variables).toInt vf)).2.2.1 = (z323).toInt := by rw [pv9]
                      have pq3634 : ((pTm G (x_rd_length).toInt (pPs G (x_rd_length).toInt 2) (x_rd_at).toInt (x_rd_variables).toInt vf)).2.2.2 = (rh354).2.2.2 := by rw [pv9]
                      refine lv_aload_n hx hb dX5_readPart_213 rfl (lv_at hl 0 rfl) ?_
                      refine lv_iconst (v := 1) hx hb dX5_readPart_214 (by decide) ?_
                      obtain ⟨vq364, evq364⟩ := mq31_27 (.ref h_by) (.int x_rd_length) (.ref h_td) (.ref h_kn) (.int z323) (.int z325) (.int z326) (.long z327)
                      replace hP : va_P (dC, dI) cls [(h_rd, .inr (4, (mo27 vq364 (.int z321) (.int z322) (.int z324)))), (h_by, .inl (cy_by, 600, .inl f_by)), (h_kn, .inl (cy_kn, 8, .inl f328)), (h_td, .inr (5, (mo32 v_td (.ref h_nam) (.ref h_var) (.ref h_trm) (.ref h_ter) (.int z329)))), (h_nam, .inl (cy_nam, 300, .inr (.inl f330))), (h_var, .inl (cy_var, 300, .inl f331)), (h_trm, .inl (cy_trm, 300, .inl f357)), (h_ter, .inl (cy_ter, 900, .inl f355))] H := by rw [evq364]; exact hP
                      replace hD : va_D A [(h_rd, .inr (4, (mo27 vq364 (.int z321) (.int z322) (.int z324)))), (h_by, .inl (cy_by, 600, .inl f_by)), (h_kn, .inl (cy_kn, 8, .inl f328)), (h_td, .inr (5, (mo32 v_td (.ref h_nam) (.ref h_var) (.ref h_trm) (.ref h_ter) (.int z329)))), (h_nam, .inl (cy_nam, 300, .inr (.inl f330))), (h_var, .inl (cy_var, 300, .inl f331)), (h_trm, .inl (cy_trm, 300, .inl f357)), (h_ter, .inl (cy_ter, 900, .inl f355))] := by rw [evq364]; exact hD
                      have cst1 : (1 : Int32).toInt = 1 := by decide
                      have hPc := hP.sub (ws' := [(h_rd, .inr (4, (mo27 vq364 (.int z321) (.int z322) (.int z324))))]) [0] rfl
                      have hDc := hD.sub (ws' := [(h_rd, .inr (4, (mo27 vq364 (.int z321) (.int z322) (.int z324))))]) [0] (by decide) rfl
                      have hKc := hK.sub (tys' := []) [] rfl
                      have hFc := va_free (wc := [(h_rd, .inr (4, (mo27 vq364 (.int z321) (.int z322) (.int z324))))]) hD hS hA [0] rfl
                      refine va_callv (va_runV (As := [.int 1]) (rest := []) ⟨hx, hb, hml, hown, hts⟩ (c_X5_blame l dC dI H.size h_rd vq364 z321 z322 z324 1 (by first | exact k335 | omega)) (cwV 1 hts (gv hT w_m_X5_56 w_instanceMethod_X5_blame ws_sel_X5_blame w_ini_X5 w_code_X5_blame) rfl rfl rfl (by decide +kernel) ⟨(Nat.le_of_ble_eq_true rfl), (Nat.le_of_ble_eq_true rfl)⟩) ⟨pre_blind, va_recv hK hP (ci := 4) (q0 := 0) rfl rfl, pre_of hPc hKc hDc hN⟩ rfl rfl hl.1 rfl (lv_room (Nat.le_of_ble_eq_true rfl)) dX5_readPart_215 ⟨(Nat.le_of_ble_eq_true rfl), (Nat.le_of_ble_eq_true rfl)⟩) hS (fun q _ h => hFc q h) hFc (fun u t H locs ht hvm hq hB hz1 hk1 hS9 => ?_)
                      obtain ⟨z366, z367⟩ := u
                      obtain ⟨hP1, hD1⟩ := hB
                      rw [ht] at hP1
                      obtain ⟨hP9, hD9⟩ := va_join (wr := [(h_by, .inl (cy_by, 600, .inl f_by)), (h_kn, .inl (cy_kn, 8, .inl f328)), (h_td, .inr (5, (mo32 v_td (.ref h_nam) (.ref h_var) (.ref h_trm) (.ref h_ter) (.int z329)))), (h_nam, .inl (cy_nam, 300, .inr (.inl f330))), (h_var, .inl (cy_var, 300, .inl f331)), (h_trm, .inl (cy_trm, 300, .inl f357)), (h_ter, .inl (cy_ter, 900, .inl f355))]) (w1 := [(h_rd, .inr (4, (mo27 vq364 (.int z366) (.int z367) (.int z324))))]) hP hD [0] [1, 2, 3, 4, 5, 6, 7] rfl rfl (by decide) (by decide) hk1 hFc hP1 hD1
                      clear hP hD hS hPc hDc hKc hFc hP1 hD1 hk1 hz1 ht hvm
                      have hP : va_P (dC, dI) cls [(h_by, .inl (cy_by, 600, .inl f_by)), (h_kn, .inl (cy_kn, 8, .inl f328)), (h_td, .inr (5, (mo32 v_td (.ref h_nam) (.ref h_var) (.ref h_trm) (.ref h_ter) (.int z329)))), (h_nam, .inl (cy_nam, 300, .inr (.inl f330))), (h_var, .inl (cy_var, 300, .inl f331)), (h_trm, .inl (cy_trm, 300, .inl f357)), (h_ter, .inl (cy_ter, 900, .inl f355)), (h_rd, .inr (4, (mo27 vq364 (.int z366) (.int z367) (.int z324))))] H := hP9
                      have hD : va_D A [(h_by, .inl (cy_by, 600, .inl f_by)), (h_kn, .inl (cy_kn, 8, .inl f328)), (h_td, .inr (5, (mo32 v_td (.ref h_nam) (.ref h_var) (.ref h_trm) (.ref h_ter) (.int z329)))), (h_nam, .inl (cy_nam, 300, .inr (.inl f330))), (h_var, .inl (cy_var, 300, .inl f331)), (h_trm, .inl (cy_trm, 300, .inl f357)), (h_ter, .inl (cy_ter, 900, .inl f355)), (h_rd, .inr (4, (mo27 vq364 (.int z366) (.int z367) (.int z324))))] := hD9
                      have hS := hS9
                      clear hP9 hD9 hS9
                      rw [evq364] at hP hD
                      replace hP : va_P (dC, dI) cls [(h_by, .inl (cy_by, 600, .inl f_by)), (h_kn, .inl (cy_kn, 8, .inl f328)), (h_td, .inr (5, (mo32 v_td (.ref h_nam) (.ref h_var) (.ref h_trm) (.ref h_ter) (.int z329)))), (h_nam, .inl (cy_nam, 300, .inr (.inl f330))), (h_var, .inl (cy_var, 300, .inl f331)), (h_trm, .inl (cy_trm, 300, .inl f357)), (h_ter, .inl (cy_ter, 900, .inl f355)), (h_rd, .inr (4, (mo31 (.ref h_by) (.int x_rd_length) (.int z366) (.int z367) (.ref h_td) (.ref h_kn) (.int z323) (.int z324) (.int z325) (.int z326) (.long z327))))] H := hP
                      replace hD : va_D A [(h_by, .inl (cy_by, 600, .inl f_by)), (h_kn, .inl (cy_kn, 8, .inl f328)), (h_td, .inr (5, (mo32 v_td (.ref h_nam) (.ref h_var) (.ref h_trm) (.ref h_ter) (.int z329)))), (h_nam, .inl (cy_nam, 300, .inr (.inl f330))), (h_var, .inl (cy_var, 300, .inl f331)), (h_trm, .inl (cy_trm, 300, .inl f357)), (h_ter, .inl (cy_ter, 900, .inl f355)), (h_rd, .inr (4, (mo31 (.ref h_by) (.int x_rd_length) (.int z366) (.int z367) (.ref h_td) (.ref h_kn) (.int z323) (.int z324) (.int z325) (.int z326) (.long z327))))] := hD
                      clear evq364 
                      obtain ⟨k368, k369⟩ := hq
                      replace k368 : ((z366)).toInt = ((1 : Int32)).toInt := k368
                      replace k369 : ((z367)).toInt = ((z324)).toInt := k369
                      refine lv_iload_n hx hb dX5_readPart_218 rfl (lv_at hl 3 rfl) ?_
                      replace hP : va_P (dC, dI) cls [(h_rd, .inr (4, (mo31 (.ref h_by) (.int x_rd_length) (.int z366) (.int z367) (.ref h_td) (.ref h_kn) (.int z323) (.int z324) (.int z325) (.int z326) (.long z327)))), (h_by, .inl (cy_by, 600, .inl f_by)), (h_kn, .inl (cy_kn, 8, .inl f328)), (h_td, .inr (5, (mo32 v_td (.ref h_nam) (.ref h_var) (.ref h_trm) (.ref h_ter) (.int z329)))), (h_nam, .inl (cy_nam, 300, .inr (.inl f330))), (h_var, .inl (cy_var, 300, .inl f331)), (h_trm, .inl (cy_trm, 300, .inl f357)), (h_ter, .inl (cy_ter, 900, .inl f355))] H := hP.sub [7, 0, 1, 2, 3, 4, 5, 6] rfl
                      replace hD : va_D A [(h_rd, .inr (4, (mo31 (.ref h_by) (.int x_rd_length) (.int z366) (.int z367) (.ref h_td) (.ref h_kn) (.int z323) (.int z324) (.int z325) (.int z326) (.long z327)))), (h_by, .inl (cy_by, 600, .inl f_by)), (h_kn, .inl (cy_kn, 8, .inl f328)), (h_td, .inr (5, (mo32 v_td (.ref h_nam) (.ref h_var) (.ref h_trm) (.ref h_ter) (.int z329)))), (h_nam, .inl (cy_nam, 300, .inr (.inl f330))), (h_var, .inl (cy_var, 300, .inl f331)), (h_trm, .inl (cy_trm, 300, .inl f357)), (h_ter, .inl (cy_ter, 900, .inl f355))] := hD.sub [7, 0, 1, 2, 3, 4, 5, 6] (by decide) rfl
                      refine W.widen (k := 0) (n := 0) (Nat.le_of_ble_eq_true rfl) (Nat.le_of_ble_eq_true rfl) ?_
                      have w370 : 0 ≤ ((z323)).toInt ∧ ((z323)).toInt ≤ 8 := by first | exact k334 | omega
                      have w371 : 0 ≤ ((z324)).toInt ∧ ((z324)).toInt ≤ 600 := by first | exact k335 | omega
                      have w372 : 0 ≤ ((z325)).toInt ∧ ((z325)).toInt ≤ 600 := by first | exact k336 | omega
                      have w373 : 0 ≤ ((z329)).toInt ∧ ((z329)).toInt ≤ 300 := by first | exact k337 | omega
                      have w374 : 0 ≤ (r82 : Int32).toInt ∧ (r82 : Int32).toInt ≤ 299 := by first | exact k88 | omega
                      have w375 : ((z366)).toInt = ((pTm G (x_rd_length).toInt (pPs G (x_rd_length).toInt 2) (x_rd_at).toInt (x_rd_variables).toInt vf)).1 := by omega
                      have w376 : ((z324)).toInt = ((pTm G (x_rd_length).toInt (pPs G (x_rd_length).toInt 2) (x_rd_at).toInt (x_rd_variables).toInt vf)).2.1 := by omega
                      have w377 : ((z323)).toInt = ((pTm G (x_rd_length).toInt (pPs G (x_rd_length).toInt 2) (x_rd_at).toInt (x_rd_variables).toInt vf)).2.2.1 := by omega
                      have w378 : (((z366)).toInt = 0 ∧ ((z367)).toInt = (x_rd_place).toInt) ∨ (¬ ((z366)).toInt = 0 ∧ ((z367)).toInt = ((z324)).toInt) := by omega
                      have w379 : 2 * ((z329)).toInt ≤ ((z324)).toInt + 1 := by first | exact k343 | omega
                      have w380 : ((z326)).toInt < 256 ∨ 2 * ((z329)).toInt ≤ ((z324)).toInt := by first | exact k344 | omega
                      have w381 : (x_rd_at).toInt ≤ ((z324)).toInt := by omega
                      have w382 : ((z326)).toInt = tkT G (x_rd_length).toInt ((z324)).toInt := by first | exact k346 | omega
                      have w383 : ((z326)).toInt = -1 ∨ ((z325)).toInt = tkX G (x_rd_length).toInt ((z324)).toInt := by first | exact k347 | omega
                      have w384 : ¬ ((z326)).toInt = 257 ∨ ((z327)).toInt = G ((z324)).toInt := by first | exact k348 | omega
                      have w385 : -1 ≤ ((z326)).toInt ∧ ((z326)).toInt ≤ 258 := by first | exact k349 | omega
                      have w386 : ((z325)).toInt ≤ (x_rd_length).toInt := by first | exact k350 | omega
                      have w387 : ((z326)).toInt = -1 ∨ ((z324)).toInt < (x_rd_length).toInt := by first | exact k351 | omega
                      have w388 : ((z324)).toInt ≤ (x_rd_length).toInt := by first | exact k352 | omega
                      have w389 : VFC ((z323)).toInt ((pTm G (x_rd_length).toInt (pPs G (x_rd_length).toInt 2) (x_rd_at).toInt (x_rd_variables).toInt vf)).2.2.2 (f328) (f330) ((z329)).toInt := (by rw [pq3634]; exact k353)
                      exact W.iret (v := r82) hx hb hr (fun t ht hW => ⟨⟨r82, (z366, z367, z323, z324, z325, z326, z327, f328, z329, f330, f331, f357, f355), rfl, ⟨w370, w371, w372, hf328, w373, hf331, hf357, hf355, w374, w375, w376, w377, w378, w379, w380, w381, w382, w383, w384, w385, w386, w387, w388, w389⟩, by rw [ht]; exact hP, hD⟩, hS.F ht⟩) hS.2.2 dX5_readPart_219
                    · have kc362 := (cv_eq (rfl : (z326).toInt = (z326).toInt) (by decide : (41 : Int32).toInt = 41)).mp c362
                      have pv9 : (pTm G (x_rd_length).toInt (pPs G (x_rd_length).toInt 2) (x_rd_at).toInt (x_rd_variables).toInt vf) = (0, tkN G (x_rd_length).toInt (z324).toInt, (z323).toInt, (rh354).2.2.2) := cl9.symm.trans (pCl_yes (by omega))
                      have pq3901 : ((pTm G (x_rd_length).toInt (pPs G (x_rd_length).toInt 2) (x_rd_at).toInt (x_rd_variables).toInt vf)).1 = 0 := by rw [pv9]
                      have pq3902 : ((pTm G (x_rd_length).toInt (pPs G (x_rd_length).toInt 2) (x_rd_at).toInt (x_rd_variables).toInt vf)).2.1 = tkN G (x_rd_length).toInt (z324).toInt := by rw [pv9]
                      have pq3903 : ((pTm G (x_rd_length).toInt (pPs G (x_rd_length).toInt 2) (x_rd_at).toInt (x_rd_variables).toInt vf)).2.2.1 = (z323).toInt := by rw [pv9]
                      have pq3904 : ((pTm G (x_rd_length).toInt (pPs G (x_rd_length).toInt 2) (x_rd_at).toInt (x_rd_variables).toInt vf)).2.2.2 = (rh354).2.2.2 := by rw [pv9]
                      refine lv_aload_n hx hb dX5_readPart_206 rfl (lv_at hl 0 rfl) ?_
                      obtain ⟨vq391, evq391⟩ := mq31_29 (.int z321) (.int z322) (.ref h_td) (.ref h_kn) (.int z323)
                      replace hP : va_P (dC, dI) cls [(h_rd, .inr (4, (mo29 vq391 (.ref h_by) (.int x_rd_length) (.int z324) (.int z325) (.int z326) (.long z327)))), (h_by, .inl (cy_by, 600, .inl f_by)), (h_kn, .inl (cy_kn, 8, .inl f328)), (h_td, .inr (5, (mo32 v_td (.ref h_nam) (.ref h_var) (.ref h_trm) (.ref h_ter) (.int z329)))), (h_nam, .inl (cy_nam, 300, .inr (.inl f330))), (h_var, .inl (cy_var, 300, .inl f331)), (h_trm, .inl (cy_trm, 300, .inl f357)), (h_ter, .inl (cy_ter, 900, .inl f355))] H := by rw [evq391]; exact hP
                      replace hD : va_D A [(h_rd, .inr (4, (mo29 vq391 (.ref h_by) (.int x_rd_length) (.int z324) (.int z325) (.int z326) (.long z327)))), (h_by, .inl (cy_by, 600, .inl f_by)), (h_kn, .inl (cy_kn, 8, .inl f328)), (h_td, .inr (5, (mo32 v_td (.ref h_nam) (.ref h_var) (.ref h_trm) (.ref h_ter) (.int z329)))), (h_nam, .inl (cy_nam, 300, .inr (.inl f330))), (h_var, .inl (cy_var, 300, .inl f331)), (h_trm, .inl (cy_trm, 300, .inl f357)), (h_ter, .inl (cy_ter, 900, .inl f355))] := by rw [evq391]; exact hD
                      have hPc := hP.sub (ws' := [(h_rd, .inr (4, (mo29 vq391 (.ref h_by) (.int x_rd_length) (.int z324) (.int z325) (.int z326) (.long z327)))), (h_by, .inl (cy_by, 600, .inl f_by))]) [0, 1] rfl
                      have hDc := hD.sub (ws' := [(h_rd, .inr (4, (mo29 vq391 (.ref h_by) (.int x_rd_length) (.int z324) (.int z325) (.int z326) (.long z327)))), (h_by, .inl (cy_by, 600, .inl f_by))]) [0, 1] (by decide) rfl
                      have hKc := hK.sub (tys' := [(cy_by, .int)]) [0] rfl
                      have hFc := va_free (wc := [(h_rd, .inr (4, (mo29 vq391 (.ref h_by) (.int x_rd_length) (.int z324) (.int z325) (.int z326) (.long z327)))), (h_by, .inl (cy_by, 600, .inl f_by))]) hD hS hA [0, 1] rfl
                      refine va_callv (va_runV (As := []) (rest := []) ⟨hx, hb, hml, hown, hts⟩ (c_X5_nextToken l dC dI H.size h_rd h_by vq391 x_rd_length z324 z325 z326 z327 cy_by f_by G (by first | exact hx_rd_length | omega) (by first | exact k335 | omega) (by first | exact k336 | omega) hf_by (by first | exact k350 | omega) hn_byt) (cwV 0 hts (gv hT w_m_X5_40 w_instanceMethod_X5_nextToken ws_sel_X5_nextToken w_ini_X5 w_code_X5_nextToken) rfl rfl rfl (by decide +kernel) ⟨(Nat.le_of_ble_eq_true rfl), (Nat.le_of_ble_eq_true rfl)⟩) ⟨pre_blind, va_recv hK hP (ci := 4) (q0 := 0) rfl rfl, pre_of hPc hKc hDc hN⟩ rfl rfl hl.1 rfl (lv_room (Nat.le_of_ble_eq_true rfl)) dX5_readPart_207 ⟨(Nat.le_of_ble_eq_true rfl), (Nat.le_of_ble_eq_true rfl)⟩) hS (fun q _ h => hFc q h) hFc (fun u t H locs ht hvm hq hB hz1 hk1 hS9 => ?_)
                      obtain ⟨z393, z394, z395, z396⟩ := u
                      obtain ⟨hP1, hD1⟩ := hB
                      rw [ht] at hP1
                      obtain ⟨hP9, hD9⟩ := va_join (wr := [(h_kn, .inl (cy_kn, 8, .inl f328)), (h_td, .inr (5, (mo32 v_td (.ref h_nam) (.ref h_var) (.ref h_trm) (.ref h_ter) (.int z329)))), (h_nam, .inl (cy_nam, 300, .inr (.inl f330))), (h_var, .inl (cy_var, 300, .inl f331)), (h_trm, .inl (cy_trm, 300, .inl f357)), (h_ter, .inl (cy_ter, 900, .inl f355))]) (w1 := [(h_rd, .inr (4, (mo29 vq391 (.ref h_by) (.int x_rd_length) (.int z393) (.int z394) (.int z395) (.long z396)))), (h_by, .inl (cy_by, 600, .inl f_by))]) hP hD [0, 1] [2, 3, 4, 5, 6, 7] rfl rfl (by decide) (by decide) hk1 hFc hP1 hD1
                      clear hP hD hS hPc hDc hKc hFc hP1 hD1 hk1 hz1 ht hvm
                      have hP : va_P (dC, dI) cls [(h_kn, .inl (cy_kn, 8, .inl f328)), (h_td, .inr (5, (mo32 v_td (.ref h_nam) (.ref h_var) (.ref h_trm) (.ref h_ter) (.int z329)))), (h_nam, .inl (cy_nam, 300, .inr (.inl f330))), (h_var, .inl (cy_var, 300, .inl f331)), (h_trm, .inl (cy_trm, 300, .inl f357)), (h_ter, .inl (cy_ter, 900, .inl f355)), (h_rd, .inr (4, (mo29 vq391 (.ref h_by) (.int x_rd_length) (.int z393) (.int z394) (.int z395) (.long z396)))), (h_by, .inl (cy_by, 600, .inl f_by))] H := hP9
                      have hD : va_D A [(h_kn, .inl (cy_kn, 8, .inl f328)), (h_td, .inr (5, (mo32 v_td (.ref h_nam) (.ref h_var) (.ref h_trm) (.ref h_ter) (.int z329)))), (h_nam, .inl (cy_nam, 300, .inr (.inl f330))), (h_var, .inl (cy_var, 300, .inl f331)), (h_trm, .inl (cy_trm, 300, .inl f357)), (h_ter, .inl (cy_ter, 900, .inl f355)), (h_rd, .inr (4, (mo29 vq391 (.ref h_by) (.int x_rd_length) (.int z393) (.int z394) (.int z395) (.long z396)))), (h_by, .inl (cy_by, 600, .inl f_by))] := hD9
                      have hS := hS9
                      clear hP9 hD9 hS9
                      rw [evq391] at hP hD
                      replace hP : va_P (dC, dI) cls [(h_kn, .inl (cy_kn, 8, .inl f328)), (h_td, .inr (5, (mo32 v_td (.ref h_nam) (.ref h_var) (.ref h_trm) (.ref h_ter) (.int z329)))), (h_nam, .inl (cy_nam, 300, .inr (.inl f330))), (h_var, .inl (cy_var, 300, .inl f331)), (h_trm, .inl (cy_trm, 300, .inl f357)), (h_ter, .inl (cy_ter, 900, .inl f355)), (h_rd, .inr (4, (mo31 (.ref h_by) (.int x_rd_length) (.int z321) (.int z322) (.ref h_td) (.ref h_kn) (.int z323) (.int z393) (.int z394) (.int z395) (.long z396)))), (h_by, .inl (cy_by, 600, .inl f_by))] H := hP
                      replace hD : va_D A [(h_kn, .inl (cy_kn, 8, .inl f328)), (h_td, .inr (5, (mo32 v_td (.ref h_nam) (.ref h_var) (.ref h_trm) (.ref h_ter) (.int z329)))), (h_nam, .inl (cy_nam, 300, .inr (.inl f330))), (h_var, .inl (cy_var, 300, .inl f331)), (h_trm, .inl (cy_trm, 300, .inl f357)), (h_ter, .inl (cy_ter, 900, .inl f355)), (h_rd, .inr (4, (mo31 (.ref h_by) (.int x_rd_length) (.int z321) (.int z322) (.ref h_td) (.ref h_kn) (.int z323) (.int z393) (.int z394) (.int z395) (.long z396)))), (h_by, .inl (cy_by, 600, .inl f_by))] := hD
                      clear evq391 
                      obtain ⟨k397, k398, k399, k400, k401, k402, k403, k404, k405, k406, k407⟩ := hq
                      replace k397 : 0 ≤ ((z393)).toInt ∧ ((z393)).toInt ≤ 600 := k397
                      replace k398 : 0 ≤ ((z394)).toInt ∧ ((z394)).toInt ≤ 600 := k398
                      replace k399 : ((z393)).toInt = tkS (G) ((x_rd_length)).toInt ((z325)).toInt := k399
                      replace k400 : ((z325)).toInt ≤ ((z393)).toInt := k400
                      replace k401 : ((z395)).toInt = tkT (G) ((x_rd_length)).toInt ((z393)).toInt := k401
                      replace k402 : ((z395)).toInt = -1 ∨ ((z394)).toInt = tkX (G) ((x_rd_length)).toInt ((z393)).toInt := k402
                      replace k403 : ¬ ((z395)).toInt = 257 ∨ ((z396)).toInt = (G) ((z393)).toInt := k403
                      replace k404 : -1 ≤ ((z395)).toInt ∧ ((z395)).toInt ≤ 258 := k404
                      replace k405 : ((z394)).toInt ≤ ((x_rd_length)).toInt := k405
                      replace k406 : ((z395)).toInt = -1 ∨ ((z393)).toInt < ((x_rd_length)).toInt := k406
                      replace k407 : ((z393)).toInt ≤ ((x_rd_length)).toInt := k407
                      have tn408b : (z325).toInt = tkX G (x_rd_length).toInt (z324).toInt := by omega
                      have tn408 : (z393).toInt = tkN G (x_rd_length).toInt (z324).toInt := by rw [k399, tn408b]; rfl
                      have tn408t : (z395).toInt = tkT G (x_rd_length).toInt (tkN G (x_rd_length).toInt (z324).toInt) := by rw [← tn408]; exact k401
                      have tn408g := tkN_gt (G := G) (n := (x_rd_length).toInt) (a := (z324).toInt) (by omega) (by omega) (by omega)
                      refine lv_goto (tgt := 218) hx hb dX5_readPart_210 (by decide) ?_
                      refine lv_iload_n hx hb dX5_readPart_218 rfl (lv_at hl 3 rfl) ?_
                      replace hP : va_P (dC, dI) cls [(h_rd, .inr (4, (mo31 (.ref h_by) (.int x_rd_length) (.int z321) (.int z322) (.ref h_td) (.ref h_kn) (.int z323) (.int z393) (.int z394) (.int z395) (.long z396)))), (h_by, .inl (cy_by, 600, .inl f_by)), (h_kn, .inl (cy_kn, 8, .inl f328)), (h_td, .inr (5, (mo32 v_td (.ref h_nam) (.ref h_var) (.ref h_trm) (.ref h_ter) (.int z329)))), (h_nam, .inl (cy_nam, 300, .inr (.inl f330))), (h_var, .inl (cy_var, 300, .inl f331)), (h_trm, .inl (cy_trm, 300, .inl f357)), (h_ter, .inl (cy_ter, 900, .inl f355))] H := hP.sub [6, 7, 0, 1, 2, 3, 4, 5] rfl
                      replace hD : va_D A [(h_rd, .inr (4, (mo31 (.ref h_by) (.int x_rd_length) (.int z321) (.int z322) (.ref h_td) (.ref h_kn) (.int z323) (.int z393) (.int z394) (.int z395) (.long z396)))), (h_by, .inl (cy_by, 600, .inl f_by)), (h_kn, .inl (cy_kn, 8, .inl f328)), (h_td, .inr (5, (mo32 v_td (.ref h_nam) (.ref h_var) (.ref h_trm) (.ref h_ter) (.int z329)))), (h_nam, .inl (cy_nam, 300, .inr (.inl f330))), (h_var, .inl (cy_var, 300, .inl f331)), (h_trm, .inl (cy_trm, 300, .inl f357)), (h_ter, .inl (cy_ter, 900, .inl f355))] := hD.sub [6, 7, 0, 1, 2, 3, 4, 5] (by decide) rfl
                      refine W.widen (k := 0) (n := 0) (Nat.le_of_ble_eq_true rfl) (Nat.le_of_ble_eq_true rfl) ?_
                      have w409 : 0 ≤ ((z323)).toInt ∧ ((z323)).toInt ≤ 8 := by first | exact k334 | omega
                      have w410 : 0 ≤ ((z393)).toInt ∧ ((z393)).toInt ≤ 600 := by first | exact k397 | omega
                      have w411 : 0 ≤ ((z394)).toInt ∧ ((z394)).toInt ≤ 600 := by first | exact k398 | omega
                      have w412 : 0 ≤ ((z329)).toInt ∧ ((z329)).toInt ≤ 300 := by first | exact k337 | omega
                      have w413 : 0 ≤ (r82 : Int32).toInt ∧ (r82 : Int32).toInt ≤ 299 := by first | exact k88 | omega
                      have w414 : ((z321)).toInt = ((pTm G (x_rd_length).toInt (pPs G (x_rd_length).toInt 2) (x_rd_at).toInt (x_rd_variables).toInt vf)).1 := by omega
                      have w415 : ((z393)).toInt = ((pTm G (x_rd_length).toInt (pPs G (x_rd_length).toInt 2) (x_rd_at).toInt (x_rd_variables).toInt vf)).2.1 := by omega
                      have w416 : ((z323)).toInt = ((pTm G (x_rd_length).toInt (pPs G (x_rd_length).toInt 2) (x_rd_at).toInt (x_rd_variables).toInt vf)).2.2.1 := by omega
                      have w417 : (((z321)).toInt = 0 ∧ ((z322)).toInt = (x_rd_place).toInt) ∨ (¬ ((z321)).toInt = 0 ∧ ((z322)).toInt = ((z393)).toInt) := by omega
                      have w418 : 2 * ((z329)).toInt ≤ ((z393)).toInt + 1 := by omega
                      have w419 : ((z395)).toInt < 256 ∨ 2 * ((z329)).toInt ≤ ((z393)).toInt := by omega
                      have w420 : (x_rd_at).toInt ≤ ((z393)).toInt := by omega
                      have w421 : ((z395)).toInt = tkT G (x_rd_length).toInt ((z393)).toInt := by first | exact k401 | omega
                      have w422 : ((z395)).toInt = -1 ∨ ((z394)).toInt = tkX G (x_rd_length).toInt ((z393)).toInt := by first | exact k402 | omega
                      have w423 : ¬ ((z395)).toInt = 257 ∨ ((z396)).toInt = G ((z393)).toInt := by first | exact k403 | omega
                      have w424 : -1 ≤ ((z395)).toInt ∧ ((z395)).toInt ≤ 258 := by first | exact k404 | omega
                      have w425 : ((z394)).toInt ≤ (x_rd_length).toInt := by first | exact k405 | omega
                      have w426 : ((z395)).toInt = -1 ∨ ((z393)).toInt < (x_rd_length).toInt := by first | exact k406 | omega
                      have w427 : ((z393)).toInt ≤ (x_rd_length).toInt := by first | exact k407 | omega
                      have w428 : VFC ((z323)).toInt ((pTm G (x_rd_length).toInt (pPs G (x_rd_length).toInt 2) (x_rd_at).toInt (x_rd_variables).toInt vf)).2.2.2 (f328) (f330) ((z329)).toInt := (by rw [pq3904]; exact k353)
                      exact W.iret (v := r82) hx hb hr (fun t ht hW => ⟨⟨r82, (z321, z322, z323, z393, z394, z395, z396, f328, z329, f330, f331, f357, f355), rfl, ⟨w409, w410, w411, hf328, w412, hf331, hf357, hf355, w413, w414, w415, w416, w417, w418, w419, w420, w421, w422, w423, w424, w425, w426, w427, w428⟩, by rw [ht]; exact hP, hD⟩, hS.F ht⟩) hS.2.2 dX5_readPart_219
                · have kc358 := (not_congr (cv_eq (rfl : (z321).toInt = (z321).toInt) (by decide : (0 : Int32).toInt = 0))).mp c358
                  have no9 := pLo_no (G := G) (n := (x_rd_length).toInt) (P := (pPs G (x_rd_length).toInt 1)) (r := rr316) (q := (x123).toInt) (nv := (x122).toInt) (vf := gh128) (by rw [← erh354]; omega)
                  rw [← erh354] at no9
                  have rq9 : (pTm G (x_rd_length).toInt (pPs G (x_rd_length).toInt 2) (x_rd_at).toInt (x_rd_variables).toInt vf) = rh354 := klp129_19.symm.trans no9
                  have pq4291 : ((pTm G (x_rd_length).toInt (pPs G (x_rd_length).toInt 2) (x_rd_at).toInt (x_rd_variables).toInt vf)).1 = (rh354).1 := by rw [rq9]
                  have pq4292 : ((pTm G (x_rd_length).toInt (pPs G (x_rd_length).toInt 2) (x_rd_at).toInt (x_rd_variables).toInt vf)).2.1 = (rh354).2.1 := by rw [rq9]
                  have pq4293 : ((pTm G (x_rd_length).toInt (pPs G (x_rd_length).toInt 2) (x_rd_at).toInt (x_rd_variables).toInt vf)).2.2.1 = (rh354).2.2.1 := by rw [rq9]
                  have pq4294 : ((pTm G (x_rd_length).toInt (pPs G (x_rd_length).toInt 2) (x_rd_at).toInt (x_rd_variables).toInt vf)).2.2.2 = (rh354).2.2.2 := by rw [rq9]
                  refine lv_iload_n hx hb dX5_readPart_177 rfl (lv_at hl 3 rfl) ?_
                  refine W.widen (k := 0) (n := 0) (Nat.le_of_ble_eq_true rfl) (Nat.le_of_ble_eq_true rfl) ?_
                  have w430 : 0 ≤ ((z323)).toInt ∧ ((z323)).toInt ≤ 8 := by first | exact k334 | omega
                  have w431 : 0 ≤ ((z324)).toInt ∧ ((z324)).toInt ≤ 600 := by first | exact k335 | omega
                  have w432 : 0 ≤ ((z325)).toInt ∧ ((z325)).toInt ≤ 600 := by first | exact k336 | omega
                  have w433 : 0 ≤ ((z329)).toInt ∧ ((z329)).toInt ≤ 300 := by first | exact k337 | omega
                  have w434 : 0 ≤ (r82 : Int32).toInt ∧ (r82 : Int32).toInt ≤ 299 := by first | exact k88 | omega
                  have w435 : ((z321)).toInt = ((pTm G (x_rd_length).toInt (pPs G (x_rd_length).toInt 2) (x_rd_at).toInt (x_rd_variables).toInt vf)).1 := by omega
                  have w436 : ((z324)).toInt = ((pTm G (x_rd_length).toInt (pPs G (x_rd_length).toInt 2) (x_rd_at).toInt (x_rd_variables).toInt vf)).2.1 := by omega
                  have w437 : ((z323)).toInt = ((pTm G (x_rd_length).toInt (pPs G (x_rd_length).toInt 2) (x_rd_at).toInt (x_rd_variables).toInt vf)).2.2.1 := by omega
                  have w438 : (((z321)).toInt = 0 ∧ ((z322)).toInt = (x_rd_place).toInt) ∨ (¬ ((z321)).toInt = 0 ∧ ((z322)).toInt = ((z324)).toInt) := by omega
                  have w439 : 2 * ((z329)).toInt ≤ ((z324)).toInt + 1 := by first | exact k343 | omega
                  have w440 : ((z326)).toInt < 256 ∨ 2 * ((z329)).toInt ≤ ((z324)).toInt := by first | exact k344 | omega
                  have w441 : (x_rd_at).toInt ≤ ((z324)).toInt := by omega
                  have w442 : ((z326)).toInt = tkT G (x_rd_length).toInt ((z324)).toInt := by first | exact k346 | omega
                  have w443 : ((z326)).toInt = -1 ∨ ((z325)).toInt = tkX G (x_rd_length).toInt ((z324)).toInt := by first | exact k347 | omega
                  have w444 : ¬ ((z326)).toInt = 257 ∨ ((z327)).toInt = G ((z324)).toInt := by first | exact k348 | omega
                  have w445 : -1 ≤ ((z326)).toInt ∧ ((z326)).toInt ≤ 258 := by first | exact k349 | omega
                  have w446 : ((z325)).toInt ≤ (x_rd_length).toInt := by first | exact k350 | omega
                  have w447 : ((z326)).toInt = -1 ∨ ((z324)).toInt < (x_rd_length).toInt := by first | exact k351 | omega
                  have w448 : ((z324)).toInt ≤ (x_rd_length).toInt := by first | exact k352 | omega
                  have w449 : VFC ((z323)).toInt ((pTm G (x_rd_length).toInt (pPs G (x_rd_length).toInt 2) (x_rd_at).toInt (x_rd_variables).toInt vf)).2.2.2 (f328) (f330) ((z329)).toInt := (by rw [pq4294]; exact k353)
                  exact W.iret (v := r82) hx hb hr (fun t ht hW => ⟨⟨r82, (z321, z322, z323, z324, z325, z326, z327, f328, z329, f330, f331, f357, f355), rfl, ⟨w430, w431, w432, hf328, w433, hf331, hf357, hf355, w434, w435, w436, w437, w438, w439, w440, w441, w442, w443, w444, w445, w446, w447, w448, w449⟩, by rw [ht]; exact hP, hD⟩, hS.F ht⟩) hS.2.2 dX5_readPart_178
              · have kc315 := (cv_eq (rfl : (x113).toInt = (x113).toInt) (by decide : (3 : Int32).toInt = 3)).mp c315
                obtain rfl : gh127 = 0 := by omega
                have pv9 : (pTm G (x_rd_length).toInt (pPs G (x_rd_length).toInt 2) (x_rd_at).toInt (x_rd_variables).toInt vf) = (2, tkN G (x_rd_length).toInt (x123).toInt, (x122).toInt, gh128) := klp129_19.symm.trans (pLo_many (by omega))
                have pq4501 : ((pTm G (x_rd_length).toInt (pPs G (x_rd_length).toInt 2) (x_rd_at).toInt (x_rd_variables).toInt vf)).1 = 2 := by rw [pv9]
                have pq4502 : ((pTm G (x_rd_length).toInt (pPs G (x_rd_length).toInt 2) (x_rd_at).toInt (x_rd_variables).toInt vf)).2.1 = tkN G (x_rd_length).toInt (x123).toInt := by rw [pv9]
                have pq4503 : ((pTm G (x_rd_length).toInt (pPs G (x_rd_length).toInt 2) (x_rd_at).toInt (x_rd_variables).toInt vf)).2.2.1 = (x122).toInt := by rw [pv9]
                have pq4504 : ((pTm G (x_rd_length).toInt (pPs G (x_rd_length).toInt 2) (x_rd_at).toInt (x_rd_variables).toInt vf)).2.2.2 = gh128 := by rw [pv9]
                refine lv_aload_n hx hb dX5_readPart_128 rfl (lv_at hl 0 rfl) ?_
                refine lv_iconst (v := 2) hx hb dX5_readPart_129 (by decide) ?_
                obtain ⟨vq451, evq451⟩ := mq31_27 (.ref h_by) (.int x_rd_length) (.ref h_td) (.ref h_kn) (.int x122) (.int z135) (.int z136) (.long z137)
                replace hP : va_P (dC, dI) cls [(h_kn, .inl (cy_kn, 8, .inl f114)), (h_ter, .inl (cy_ter, 900, .inl f115)), (h_td, .inr (5, (mo32 v_td (.ref h_nam) (.ref h_var) (.ref h_trm) (.ref h_ter) (.int x116)))), (h_nam, .inl (cy_nam, 300, .inr (.inl f117))), (h_var, .inl (cy_var, 300, .inl f118)), (h_trm, .inl (cy_trm, 300, .inl f119)), (h_rd, .inr (4, (mo27 vq451 (.int x120) (.int x121) (.int z134)))), (h_by, .inl (cy_by, 600, .inl f_by))] H := by rw [evq451]; exact hP
                replace hD : va_D A [(h_kn, .inl (cy_kn, 8, .inl f114)), (h_ter, .inl (cy_ter, 900, .inl f115)), (h_td, .inr (5, (mo32 v_td (.ref h_nam) (.ref h_var) (.ref h_trm) (.ref h_ter) (.int x116)))), (h_nam, .inl (cy_nam, 300, .inr (.inl f117))), (h_var, .inl (cy_var, 300, .inl f118)), (h_trm, .inl (cy_trm, 300, .inl f119)), (h_rd, .inr (4, (mo27 vq451 (.int x120) (.int x121) (.int z134)))), (h_by, .inl (cy_by, 600, .inl f_by))] := by rw [evq451]; exact hD
                have cst2 : (2 : Int32).toInt = 2 := by decide
                have hPc := hP.sub (ws' := [(h_rd, .inr (4, (mo27 vq451 (.int x120) (.int x121) (.int z134))))]) [6] rfl
                have hDc := hD.sub (ws' := [(h_rd, .inr (4, (mo27 vq451 (.int x120) (.int x121) (.int z134))))]) [6] (by decide) rfl
                have hKc := hK.sub (tys' := []) [] rfl
                have hFc := va_free (wc := [(h_rd, .inr (4, (mo27 vq451 (.int x120) (.int x121) (.int z134))))]) hD hS hA [6] rfl
                refine va_callv (va_runV (As := [.int 2]) (rest := []) ⟨hx, hb, hml, hown, hts⟩ (c_X5_blame l dC dI H.size h_rd vq451 x120 x121 z134 2 (by first | exact k138 | omega)) (cwV 1 hts (gv hT w_m_X5_56 w_instanceMethod_X5_blame ws_sel_X5_blame w_ini_X5 w_code_X5_blame) rfl rfl rfl (by decide +kernel) ⟨(Nat.le_of_ble_eq_true rfl), (Nat.le_of_ble_eq_true rfl)⟩) ⟨pre_blind, va_recv hK hP (ci := 4) (q0 := 6) rfl rfl, pre_of hPc hKc hDc hN⟩ rfl rfl hl.1 rfl (lv_room (Nat.le_of_ble_eq_true rfl)) dX5_readPart_130 ⟨(Nat.le_of_ble_eq_true rfl), (Nat.le_of_ble_eq_true rfl)⟩) hS (fun q _ h => hFc q h) hFc (fun u t H locs ht hvm hq hB hz1 hk1 hS9 => ?_)
                obtain ⟨z453, z454⟩ := u
                obtain ⟨hP1, hD1⟩ := hB
                rw [ht] at hP1
                obtain ⟨hP9, hD9⟩ := va_join (wr := [(h_kn, .inl (cy_kn, 8, .inl f114)), (h_ter, .inl (cy_ter, 900, .inl f115)), (h_td, .inr (5, (mo32 v_td (.ref h_nam) (.ref h_var) (.ref h_trm) (.ref h_ter) (.int x116)))), (h_nam, .inl (cy_nam, 300, .inr (.inl f117))), (h_var, .inl (cy_var, 300, .inl f118)), (h_trm, .inl (cy_trm, 300, .inl f119)), (h_by, .inl (cy_by, 600, .inl f_by))]) (w1 := [(h_rd, .inr (4, (mo27 vq451 (.int z453) (.int z454) (.int z134))))]) hP hD [6] [0, 1, 2, 3, 4, 5, 7] rfl rfl (by decide) (by decide) hk1 hFc hP1 hD1
                clear hP hD hS hPc hDc hKc hFc hP1 hD1 hk1 hz1 ht hvm
                have hP : va_P (dC, dI) cls [(h_kn, .inl (cy_kn, 8, .inl f114)), (h_ter, .inl (cy_ter, 900, .inl f115)), (h_td, .inr (5, (mo32 v_td (.ref h_nam) (.ref h_var) (.ref h_trm) (.ref h_ter) (.int x116)))), (h_nam, .inl (cy_nam, 300, .inr (.inl f117))), (h_var, .inl (cy_var, 300, .inl f118)), (h_trm, .inl (cy_trm, 300, .inl f119)), (h_by, .inl (cy_by, 600, .inl f_by)), (h_rd, .inr (4, (mo27 vq451 (.int z453) (.int z454) (.int z134))))] H := hP9
                have hD : va_D A [(h_kn, .inl (cy_kn, 8, .inl f114)), (h_ter, .inl (cy_ter, 900, .inl f115)), (h_td, .inr (5, (mo32 v_td (.ref h_nam) (.ref h_var) (.ref h_trm) (.ref h_ter) (.int x116)))), (h_nam, .inl (cy_nam, 300, .inr (.inl f117))), (h_var, .inl (cy_var, 300, .inl f118)), (h_trm, .inl (cy_trm, 300, .inl f119)), (h_by, .inl (cy_by, 600, .inl f_by)), (h_rd, .inr (4, (mo27 vq451 (.int z453) (.int z454) (.int z134))))] := hD9
                have hS := hS9
                clear hP9 hD9 hS9
                rw [evq451] at hP hD
                replace hP : va_P (dC, dI) cls [(h_kn, .inl (cy_kn, 8, .inl f114)), (h_ter, .inl (cy_ter, 900, .inl f115)), (h_td, .inr (5, (mo32 v_td (.ref h_nam) (.ref h_var) (.ref h_trm) (.ref h_ter) (.int x116)))), (h_nam, .inl (cy_nam, 300, .inr (.inl f117))), (h_var, .inl (cy_var, 300, .inl f118)), (h_trm, .inl (cy_trm, 300, .inl f119)), (h_by, .inl (cy_by, 600, .inl f_by)), (h_rd, .inr (4, (mo31 (.ref h_by) (.int x_rd_length) (.int z453) (.int z454) (.ref h_td) (.ref h_kn) (.int x122) (.int z134) (.int z135) (.int z136) (.long z137))))] H := hP
                replace hD : va_D A [(h_kn, .inl (cy_kn, 8, .inl f114)), (h_ter, .inl (cy_ter, 900, .inl f115)), (h_td, .inr (5, (mo32 v_td (.ref h_nam) (.ref h_var) (.ref h_trm) (.ref h_ter) (.int x116)))), (h_nam, .inl (cy_nam, 300, .inr (.inl f117))), (h_var, .inl (cy_var, 300, .inl f118)), (h_trm, .inl (cy_trm, 300, .inl f119)), (h_by, .inl (cy_by, 600, .inl f_by)), (h_rd, .inr (4, (mo31 (.ref h_by) (.int x_rd_length) (.int z453) (.int z454) (.ref h_td) (.ref h_kn) (.int x122) (.int z134) (.int z135) (.int z136) (.long z137))))] := hD
                clear evq451 
                obtain ⟨k455, k456⟩ := hq
                replace k455 : ((z453)).toInt = ((2 : Int32)).toInt := k455
                replace k456 : ((z454)).toInt = ((z134)).toInt := k456
                refine lv_goto (tgt := 170) hx hb dX5_readPart_133 (by decide) ?_
                refine lv_aload_n hx hb dX5_readPart_170 rfl (lv_at hl 0 rfl) ?_
                refine va_get (D := (dC, dI)) (ci := 4) (v := .int z453) (C := RX5) (T := TX5) (N := 11) hx hb hw iwX5 hown hK hP 7 rfl rfl 2 (by decide) (hw _ w_f_X5_34) (fun _ h9 => h9) rfl dX5_readPart_171 ?_
                refine lv_if_eq (tgt := 179) hx hb dX5_readPart_174 (by decide) (fun c457 => False.elim (by have kc457 := (cv_eq (rfl : (z453).toInt = (z453).toInt) (by decide : (0 : Int32).toInt = 0)).mp c457; omega)) (fun _ => ?_)
                refine lv_iload_n hx hb dX5_readPart_177 rfl (lv_at hl 3 rfl) ?_
                replace hP : va_P (dC, dI) cls [(h_rd, .inr (4, (mo31 (.ref h_by) (.int x_rd_length) (.int z453) (.int z454) (.ref h_td) (.ref h_kn) (.int x122) (.int z134) (.int z135) (.int z136) (.long z137)))), (h_by, .inl (cy_by, 600, .inl f_by)), (h_kn, .inl (cy_kn, 8, .inl f114)), (h_td, .inr (5, (mo32 v_td (.ref h_nam) (.ref h_var) (.ref h_trm) (.ref h_ter) (.int x116)))), (h_nam, .inl (cy_nam, 300, .inr (.inl f117))), (h_var, .inl (cy_var, 300, .inl f118)), (h_trm, .inl (cy_trm, 300, .inl f119)), (h_ter, .inl (cy_ter, 900, .inl f115))] H := hP.sub [7, 6, 0, 2, 3, 4, 5, 1] rfl
                replace hD : va_D A [(h_rd, .inr (4, (mo31 (.ref h_by) (.int x_rd_length) (.int z453) (.int z454) (.ref h_td) (.ref h_kn) (.int x122) (.int z134) (.int z135) (.int z136) (.long z137)))), (h_by, .inl (cy_by, 600, .inl f_by)), (h_kn, .inl (cy_kn, 8, .inl f114)), (h_td, .inr (5, (mo32 v_td (.ref h_nam) (.ref h_var) (.ref h_trm) (.ref h_ter) (.int x116)))), (h_nam, .inl (cy_nam, 300, .inr (.inl f117))), (h_var, .inl (cy_var, 300, .inl f118)), (h_trm, .inl (cy_trm, 300, .inl f119)), (h_ter, .inl (cy_ter, 900, .inl f115))] := hD.sub [7, 6, 0, 2, 3, 4, 5, 1] (by decide) rfl
                refine W.widen (k := 0) (n := 0) (Nat.le_of_ble_eq_true rfl) (Nat.le_of_ble_eq_true rfl) ?_
                have w458 : 0 ≤ ((x122)).toInt ∧ ((x122)).toInt ≤ 8 := by first | exact klp129_6 | omega
                have w459 : 0 ≤ ((z134)).toInt ∧ ((z134)).toInt ≤ 600 := by first | exact k138 | omega
                have w460 : 0 ≤ ((z135)).toInt ∧ ((z135)).toInt ≤ 600 := by first | exact k139 | omega
                have w461 : 0 ≤ ((x116)).toInt ∧ ((x116)).toInt ≤ 300 := by first | exact klp129_3 | omega
                have w462 : 0 ≤ (r82 : Int32).toInt ∧ (r82 : Int32).toInt ≤ 299 := by first | exact k88 | omega
                have w463 : ((z453)).toInt = ((pTm G (x_rd_length).toInt (pPs G (x_rd_length).toInt 2) (x_rd_at).toInt (x_rd_variables).toInt vf)).1 := by omega
                have w464 : ((z134)).toInt = ((pTm G (x_rd_length).toInt (pPs G (x_rd_length).toInt 2) (x_rd_at).toInt (x_rd_variables).toInt vf)).2.1 := by omega
                have w465 : ((x122)).toInt = ((pTm G (x_rd_length).toInt (pPs G (x_rd_length).toInt 2) (x_rd_at).toInt (x_rd_variables).toInt vf)).2.2.1 := by omega
                have w466 : (((z453)).toInt = 0 ∧ ((z454)).toInt = (x_rd_place).toInt) ∨ (¬ ((z453)).toInt = 0 ∧ ((z454)).toInt = ((z134)).toInt) := by omega
                have w467 : 2 * ((x116)).toInt ≤ ((z134)).toInt + 1 := by omega
                have w468 : ((z136)).toInt < 256 ∨ 2 * ((x116)).toInt ≤ ((z134)).toInt := by omega
                have w469 : (x_rd_at).toInt ≤ ((z134)).toInt := by omega
                have w470 : ((z136)).toInt = tkT G (x_rd_length).toInt ((z134)).toInt := by first | exact k142 | omega
                have w471 : ((z136)).toInt = -1 ∨ ((z135)).toInt = tkX G (x_rd_length).toInt ((z134)).toInt := by first | exact k143 | omega
                have w472 : ¬ ((z136)).toInt = 257 ∨ ((z137)).toInt = G ((z134)).toInt := by first | exact k144 | omega
                have w473 : -1 ≤ ((z136)).toInt ∧ ((z136)).toInt ≤ 258 := by first | exact k145 | omega
                have w474 : ((z135)).toInt ≤ (x_rd_length).toInt := by first | exact k146 | omega
                have w475 : ((z136)).toInt = -1 ∨ ((z134)).toInt < (x_rd_length).toInt := by first | exact k147 | omega
                have w476 : ((z134)).toInt ≤ (x_rd_length).toInt := by first | exact k148 | omega
                have w477 : VFC ((x122)).toInt ((pTm G (x_rd_length).toInt (pPs G (x_rd_length).toInt 2) (x_rd_at).toInt (x_rd_variables).toInt vf)).2.2.2 (f114) (f117) ((x116)).toInt := (by rw [pq4504]; exact klp129_20)
                exact W.iret (v := r82) hx hb hr (fun t ht hW => ⟨⟨r82, (z453, z454, x122, z134, z135, z136, z137, f114, x116, f117, f118, f119, f115), rfl, ⟨w458, w459, w460, hf114, w461, hf118, hf119, hf115, w462, w463, w464, w465, w466, w467, w468, w469, w470, w471, w472, w473, w474, w475, w476, w477⟩, by rw [ht]; exact hP, hD⟩, hS.F ht⟩) hS.2.2 dX5_readPart_178
            · have kc314 := (not_congr (cv_eq (rfl : (z136).toInt = (z136).toInt) (by decide : (257 : Int32).toInt = 257))).mp c314
              have pv9 : (pTm G (x_rd_length).toInt (pPs G (x_rd_length).toInt 2) (x_rd_at).toInt (x_rd_variables).toInt vf) = (1, tkN G (x_rd_length).toInt (x123).toInt, (x122).toInt, gh128) := klp129_19.symm.trans (pLo_bad (by omega) (by omega))
              have pq4781 : ((pTm G (x_rd_length).toInt (pPs G (x_rd_length).toInt 2) (x_rd_at).toInt (x_rd_variables).toInt vf)).1 = 1 := by rw [pv9]
              have pq4782 : ((pTm G (x_rd_length).toInt (pPs G (x_rd_length).toInt 2) (x_rd_at).toInt (x_rd_variables).toInt vf)).2.1 = tkN G (x_rd_length).toInt (x123).toInt := by rw [pv9]
              have pq4783 : ((pTm G (x_rd_length).toInt (pPs G (x_rd_length).toInt 2) (x_rd_at).toInt (x_rd_variables).toInt vf)).2.2.1 = (x122).toInt := by rw [pv9]
              have pq4784 : ((pTm G (x_rd_length).toInt (pPs G (x_rd_length).toInt 2) (x_rd_at).toInt (x_rd_variables).toInt vf)).2.2.2 = gh128 := by rw [pv9]
              refine lv_aload_n hx hb dX5_readPart_114 rfl (lv_at hl 0 rfl) ?_
              refine lv_iconst (v := 1) hx hb dX5_readPart_115 (by decide) ?_
              obtain ⟨vq479, evq479⟩ := mq31_27 (.ref h_by) (.int x_rd_length) (.ref h_td) (.ref h_kn) (.int x122) (.int z135) (.int z136) (.long z137)
              replace hP : va_P (dC, dI) cls [(h_kn, .inl (cy_kn, 8, .inl f114)), (h_ter, .inl (cy_ter, 900, .inl f115)), (h_td, .inr (5, (mo32 v_td (.ref h_nam) (.ref h_var) (.ref h_trm) (.ref h_ter) (.int x116)))), (h_nam, .inl (cy_nam, 300, .inr (.inl f117))), (h_var, .inl (cy_var, 300, .inl f118)), (h_trm, .inl (cy_trm, 300, .inl f119)), (h_rd, .inr (4, (mo27 vq479 (.int x120) (.int x121) (.int z134)))), (h_by, .inl (cy_by, 600, .inl f_by))] H := by rw [evq479]; exact hP
              replace hD : va_D A [(h_kn, .inl (cy_kn, 8, .inl f114)), (h_ter, .inl (cy_ter, 900, .inl f115)), (h_td, .inr (5, (mo32 v_td (.ref h_nam) (.ref h_var) (.ref h_trm) (.ref h_ter) (.int x116)))), (h_nam, .inl (cy_nam, 300, .inr (.inl f117))), (h_var, .inl (cy_var, 300, .inl f118)), (h_trm, .inl (cy_trm, 300, .inl f119)), (h_rd, .inr (4, (mo27 vq479 (.int x120) (.int x121) (.int z134)))), (h_by, .inl (cy_by, 600, .inl f_by))] := by rw [evq479]; exact hD
              have cst1 : (1 : Int32).toInt = 1 := by decide
              have hPc := hP.sub (ws' := [(h_rd, .inr (4, (mo27 vq479 (.int x120) (.int x121) (.int z134))))]) [6] rfl
              have hDc := hD.sub (ws' := [(h_rd, .inr (4, (mo27 vq479 (.int x120) (.int x121) (.int z134))))]) [6] (by decide) rfl
              have hKc := hK.sub (tys' := []) [] rfl
              have hFc := va_free (wc := [(h_rd, .inr (4, (mo27 vq479 (.int x120) (.int x121) (.int z134))))]) hD hS hA [6] rfl
              refine va_callv (va_runV (As := [.int 1]) (rest := []) ⟨hx, hb, hml, hown, hts⟩ (c_X5_blame l dC dI H.size h_rd vq479 x120 x121 z134 1 (by first | exact k138 | omega)) (cwV 1 hts (gv hT w_m_X5_56 w_instanceMethod_X5_blame ws_sel_X5_blame w_ini_X5 w_code_X5_blame) rfl rfl rfl (by decide +kernel) ⟨(Nat.le_of_ble_eq_true rfl), (Nat.le_of_ble_eq_true rfl)⟩) ⟨pre_blind, va_recv hK hP (ci := 4) (q0 := 6) rfl rfl, pre_of hPc hKc hDc hN⟩ rfl rfl hl.1 rfl (lv_room (Nat.le_of_ble_eq_true rfl)) dX5_readPart_116 ⟨(Nat.le_of_ble_eq_true rfl), (Nat.le_of_ble_eq_true rfl)⟩) hS (fun q _ h => hFc q h) hFc (fun u t H locs ht hvm hq hB hz1 hk1 hS9 => ?_)
              obtain ⟨z481, z482⟩ := u
              obtain ⟨hP1, hD1⟩ := hB
              rw [ht] at hP1
              obtain ⟨hP9, hD9⟩ := va_join (wr := [(h_kn, .inl (cy_kn, 8, .inl f114)), (h_ter, .inl (cy_ter, 900, .inl f115)), (h_td, .inr (5, (mo32 v_td (.ref h_nam) (.ref h_var) (.ref h_trm) (.ref h_ter) (.int x116)))), (h_nam, .inl (cy_nam, 300, .inr (.inl f117))), (h_var, .inl (cy_var, 300, .inl f118)), (h_trm, .inl (cy_trm, 300, .inl f119)), (h_by, .inl (cy_by, 600, .inl f_by))]) (w1 := [(h_rd, .inr (4, (mo27 vq479 (.int z481) (.int z482) (.int z134))))]) hP hD [6] [0, 1, 2, 3, 4, 5, 7] rfl rfl (by decide) (by decide) hk1 hFc hP1 hD1
              clear hP hD hS hPc hDc hKc hFc hP1 hD1 hk1 hz1 ht hvm
              have hP : va_P (dC, dI) cls [(h_kn, .inl (cy_kn, 8, .inl f114)), (h_ter, .inl (cy_ter, 900, .inl f115)), (h_td, .inr (5, (mo32 v_td (.ref h_nam) (.ref h_var) (.ref h_trm) (.ref h_ter) (.int x116)))), (h_nam, .inl (cy_nam, 300, .inr (.inl f117))), (h_var, .inl (cy_var, 300, .inl f118)), (h_trm, .inl (cy_trm, 300, .inl f119)), (h_by, .inl (cy_by, 600, .inl f_by)), (h_rd, .inr (4, (mo27 vq479 (.int z481) (.int z482) (.int z134))))] H := hP9
              have hD : va_D A [(h_kn, .inl (cy_kn, 8, .inl f114)), (h_ter, .inl (cy_ter, 900, .inl f115)), (h_td, .inr (5, (mo32 v_td (.ref h_nam) (.ref h_var) (.ref h_trm) (.ref h_ter) (.int x116)))), (h_nam, .inl (cy_nam, 300, .inr (.inl f117))), (h_var, .inl (cy_var, 300, .inl f118)), (h_trm, .inl (cy_trm, 300, .inl f119)), (h_by, .inl (cy_by, 600, .inl f_by)), (h_rd, .inr (4, (mo27 vq479 (.int z481) (.int z482) (.int z134))))] := hD9
              have hS := hS9
              clear hP9 hD9 hS9
              rw [evq479] at hP hD
              replace hP : va_P (dC, dI) cls [(h_kn, .inl (cy_kn, 8, .inl f114)), (h_ter, .inl (cy_ter, 900, .inl f115)), (h_td, .inr (5, (mo32 v_td (.ref h_nam) (.ref h_var) (.ref h_trm) (.ref h_ter) (.int x116)))), (h_nam, .inl (cy_nam, 300, .inr (.inl f117))), (h_var, .inl (cy_var, 300, .inl f118)), (h_trm, .inl (cy_trm, 300, .inl f119)), (h_by, .inl (cy_by, 600, .inl f_by)), (h_rd, .inr (4, (mo31 (.ref h_by) (.int x_rd_length) (.int z481) (.int z482) (.ref h_td) (.ref h_kn) (.int x122) (.int z134) (.int z135) (.int z136) (.long z137))))] H := hP
              replace hD : va_D A [(h_kn, .inl (cy_kn, 8, .inl f114)), (h_ter, .inl (cy_ter, 900, .inl f115)), (h_td, .inr (5, (mo32 v_td (.ref h_nam) (.ref h_var) (.ref h_trm) (.ref h_ter) (.int x116)))), (h_nam, .inl (cy_nam, 300, .inr (.inl f117))), (h_var, .inl (cy_var, 300, .inl f118)), (h_trm, .inl (cy_trm, 300, .inl f119)), (h_by, .inl (cy_by, 600, .inl f_by)), (h_rd, .inr (4, (mo31 (.ref h_by) (.int x_rd_length) (.int z481) (.int z482) (.ref h_td) (.ref h_kn) (.int x122) (.int z134) (.int z135) (.int z136) (.long z137))))] := hD
              clear evq479 
              obtain ⟨k483, k484⟩ := hq
              replace k483 : ((z481)).toInt = ((1 : Int32)).toInt := k483
              replace k484 : ((z482)).toInt = ((z134)).toInt := k484
              refine lv_goto (tgt := 170) hx hb dX5_readPart_119 (by decide) ?_
              refine lv_aload_n hx hb dX5_readPart_170 rfl (lv_at hl 0 rfl) ?_
              refine va_get (D := (dC, dI)) (ci := 4) (v := .int z481) (C := RX5) (T := TX5) (N := 11) hx hb hw iwX5 hown hK hP 7 rfl rfl 2 (by decide) (hw _ w_f_X5_34) (fun _ h9 => h9) rfl dX5_readPart_171 ?_
              refine lv_if_eq (tgt := 179) hx hb dX5_readPart_174 (by decide) (fun c485 => False.elim (by have kc485 := (cv_eq (rfl : (z481).toInt = (z481).toInt) (by decide : (0 : Int32).toInt = 0)).mp c485; omega)) (fun _ => ?_)
              refine lv_iload_n hx hb dX5_readPart_177 rfl (lv_at hl 3 rfl) ?_
              replace hP : va_P (dC, dI) cls [(h_rd, .inr (4, (mo31 (.ref h_by) (.int x_rd_length) (.int z481) (.int z482) (.ref h_td) (.ref h_kn) (.int x122) (.int z134) (.int z135) (.int z136) (.long z137)))), (h_by, .inl (cy_by, 600, .inl f_by)), (h_kn, .inl (cy_kn, 8, .inl f114)), (h_td, .inr (5, (mo32 v_td (.ref h_nam) (.ref h_var) (.ref h_trm) (.ref h_ter) (.int x116)))), (h_nam, .inl (cy_nam, 300, .inr (.inl f117))), (h_var, .inl (cy_var, 300, .inl f118)), (h_trm, .inl (cy_trm, 300, .inl f119)), (h_ter, .inl (cy_ter, 900, .inl f115))] H := hP.sub [7, 6, 0, 2, 3, 4, 5, 1] rfl
              replace hD : va_D A [(h_rd, .inr (4, (mo31 (.ref h_by) (.int x_rd_length) (.int z481) (.int z482) (.ref h_td) (.ref h_kn) (.int x122) (.int z134) (.int z135) (.int z136) (.long z137)))), (h_by, .inl (cy_by, 600, .inl f_by)), (h_kn, .inl (cy_kn, 8, .inl f114)), (h_td, .inr (5, (mo32 v_td (.ref h_nam) (.ref h_var) (.ref h_trm) (.ref h_ter) (.int x116)))), (h_nam, .inl (cy_nam, 300, .inr (.inl f117))), (h_var, .inl (cy_var, 300, .inl f118)), (h_trm, .inl (cy_trm, 300, .inl f119)), (h_ter, .inl (cy_ter, 900, .inl f115))] := hD.sub [7, 6, 0, 2, 3, 4, 5, 1] (by decide) rfl
              refine W.widen (k := 0) (n := 0) (Nat.le_of_ble_eq_true rfl) (Nat.le_of_ble_eq_true rfl) ?_
              have w486 : 0 ≤ ((x122)).toInt ∧ ((x122)).toInt ≤ 8 := by first | exact klp129_6 | omega
              have w487 : 0 ≤ ((z134)).toInt ∧ ((z134)).toInt ≤ 600 := by first | exact k138 | omega
              have w488 : 0 ≤ ((z135)).toInt ∧ ((z135)).toInt ≤ 600 := by first | exact k139 | omega
              have w489 : 0 ≤ ((x116)).toInt ∧ ((x116)).toInt ≤ 300 := by first | exact klp129_3 | omega
              have w490 : 0 ≤ (r82 : Int32).toInt ∧ (r82 : Int32).toInt ≤ 299 := by first | exact k88 | omega
              have w491 : ((z481)).toInt = ((pTm G (x_rd_length).toInt (pPs G (x_rd_length).toInt 2) (x_rd_at).toInt (x_rd_variables).toInt vf)).1 := by omega
              have w492 : ((z134)).toInt = ((pTm G (x_rd_length).toInt (pPs G (x_rd_length).toInt 2) (x_rd_at).toInt (x_rd_variables).toInt vf)).2.1 := by omega
              have w493 : ((x122)).toInt = ((pTm G (x_rd_length).toInt (pPs G (x_rd_length).toInt 2) (x_rd_at).toInt (x_rd_variables).toInt vf)).2.2.1 := by omega
              have w494 : (((z481)).toInt = 0 ∧ ((z482)).toInt = (x_rd_place).toInt) ∨ (¬ ((z481)).toInt = 0 ∧ ((z482)).toInt = ((z134)).toInt) := by omega
              have w495 : 2 * ((x116)).toInt ≤ ((z134)).toInt + 1 := by omega
              have w496 : ((z136)).toInt < 256 ∨ 2 * ((x116)).toInt ≤ ((z134)).toInt := by omega
              have w497 : (x_rd_at).toInt ≤ ((z134)).toInt := by omega
              have w498 : ((z136)).toInt = tkT G (x_rd_length).toInt ((z134)).toInt := by first | exact k142 | omega
              have w499 : ((z136)).toInt = -1 ∨ ((z135)).toInt = tkX G (x_rd_length).toInt ((z134)).toInt := by first | exact k143 | omega
              have w500 : ¬ ((z136)).toInt = 257 ∨ ((z137)).toInt = G ((z134)).toInt := by first | exact k144 | omega
              have w501 : -1 ≤ ((z136)).toInt ∧ ((z136)).toInt ≤ 258 := by first | exact k145 | omega
              have w502 : ((z135)).toInt ≤ (x_rd_length).toInt := by first | exact k146 | omega
              have w503 : ((z136)).toInt = -1 ∨ ((z134)).toInt < (x_rd_length).toInt := by first | exact k147 | omega
              have w504 : ((z134)).toInt ≤ (x_rd_length).toInt := by first | exact k148 | omega
              have w505 : VFC ((x122)).toInt ((pTm G (x_rd_length).toInt (pPs G (x_rd_length).toInt 2) (x_rd_at).toInt (x_rd_variables).toInt vf)).2.2.2 (f114) (f117) ((x116)).toInt := (by rw [pq4784]; exact klp129_20)
              exact W.iret (v := r82) hx hb hr (fun t ht hW => ⟨⟨r82, (z481, z482, x122, z134, z135, z136, z137, f114, x116, f117, f118, f119, f115), rfl, ⟨w486, w487, w488, hf114, w489, hf118, hf119, hf115, w490, w491, w492, w493, w494, w495, w496, w497, w498, w499, w500, w501, w502, w503, w504, w505⟩, by rw [ht]; exact hP, hD⟩, hS.F ht⟩) hS.2.2 dX5_readPart_178
      have cst0 : (0 : Int32).toInt = 0 := by decide
      have cst3 : (3 : Int32).toInt = 3 := by decide
      exact lp129 _ (0) (f_kn) (f_ter) (z83) (f84) (f85) (f86) (x_rd_fault) (x_rd_place) (x_rd_variables) (z96) (z97) (z98) (z99) (3) (vf) _ _ _ (by decide) hf_kn hf_ter (by first | exact k87 | omega) hf85 hf86 (by first | exact hx_rd_variables | omega) (by first | exact k100 | omega) (by first | exact k101 | omega) (by first | exact k104 | omega) (by omega) (by omega) (by omega) (by omega) (by first | exact k108 | omega) (by omega) (by omega) (by omega) (by omega) lo0 vf92 (Nat.le_refl _) hP hD hS (lv_sub hl [3, 4, 2, 1, 0] rfl)
    · have kc112 := (not_congr (cv_eq (rfl : (z98).toInt = (z98).toInt) (by decide : (40 : Int32).toInt = 40))).mp c112
      have pv9 : (pTm G (x_rd_length).toInt (pPs G (x_rd_length).toInt 2) (x_rd_at).toInt (x_rd_variables).toInt vf) = (0, tkN G (x_rd_length).toInt (x_rd_at).toInt, (x_rd_variables).toInt, vf) := (pTm_name (by omega)).trans (pPs_none (by omega))
      have pq5061 : ((pTm G (x_rd_length).toInt (pPs G (x_rd_length).toInt 2) (x_rd_at).toInt (x_rd_variables).toInt vf)).1 = 0 := by rw [pv9]
      have pq5062 : ((pTm G (x_rd_length).toInt (pPs G (x_rd_length).toInt 2) (x_rd_at).toInt (x_rd_variables).toInt vf)).2.1 = tkN G (x_rd_length).toInt (x_rd_at).toInt := by rw [pv9]
      have pq5063 : ((pTm G (x_rd_length).toInt (pPs G (x_rd_length).toInt 2) (x_rd_at).toInt (x_rd_variables).toInt vf)).2.2.1 = (x_rd_variables).toInt := by rw [pv9]
      have pq5064 : ((pTm G (x_rd_length).toInt (pPs G (x_rd_length).toInt 2) (x_rd_at).toInt (x_rd_variables).toInt vf)).2.2.2 = vf := by rw [pv9]
      refine lv_iload_n hx hb dX5_readPart_66 rfl (lv_at hl 0 rfl) ?_
      replace hP : va_P (dC, dI) cls [(h_rd, .inr (4, (mo31 (.ref h_by) (.int x_rd_length) (.int x_rd_fault) (.int x_rd_place) (.ref h_td) (.ref h_kn) (.int x_rd_variables) (.int z96) (.int z97) (.int z98) (.long z99)))), (h_by, .inl (cy_by, 600, .inl f_by)), (h_kn, .inl (cy_kn, 8, .inl f_kn)), (h_td, .inr (5, (mo32 v_td (.ref h_nam) (.ref h_var) (.ref h_trm) (.ref h_ter) (.int z83)))), (h_nam, .inl (cy_nam, 300, .inr (.inl f84))), (h_var, .inl (cy_var, 300, .inl f85)), (h_trm, .inl (cy_trm, 300, .inl f86)), (h_ter, .inl (cy_ter, 900, .inl f_ter))] H := hP.sub [6, 7, 0, 2, 3, 4, 5, 1] rfl
      replace hD : va_D A [(h_rd, .inr (4, (mo31 (.ref h_by) (.int x_rd_length) (.int x_rd_fault) (.int x_rd_place) (.ref h_td) (.ref h_kn) (.int x_rd_variables) (.int z96) (.int z97) (.int z98) (.long z99)))), (h_by, .inl (cy_by, 600, .inl f_by)), (h_kn, .inl (cy_kn, 8, .inl f_kn)), (h_td, .inr (5, (mo32 v_td (.ref h_nam) (.ref h_var) (.ref h_trm) (.ref h_ter) (.int z83)))), (h_nam, .inl (cy_nam, 300, .inr (.inl f84))), (h_var, .inl (cy_var, 300, .inl f85)), (h_trm, .inl (cy_trm, 300, .inl f86)), (h_ter, .inl (cy_ter, 900, .inl f_ter))] := hD.sub [6, 7, 0, 2, 3, 4, 5, 1] (by decide) rfl
      refine W.widen (k := 0) (n := 0) (Nat.le_of_ble_eq_true rfl) (Nat.le_of_ble_eq_true rfl) ?_
      have w507 : 0 ≤ ((x_rd_variables)).toInt ∧ ((x_rd_variables)).toInt ≤ 8 := by first | exact hx_rd_variables | omega
      have w508 : 0 ≤ ((z96)).toInt ∧ ((z96)).toInt ≤ 600 := by first | exact k100 | omega
      have w509 : 0 ≤ ((z97)).toInt ∧ ((z97)).toInt ≤ 600 := by first | exact k101 | omega
      have w510 : 0 ≤ ((z83)).toInt ∧ ((z83)).toInt ≤ 300 := by first | exact k87 | omega
      have w511 : 0 ≤ (r82 : Int32).toInt ∧ (r82 : Int32).toInt ≤ 299 := by first | exact k88 | omega
      have w512 : ((x_rd_fault)).toInt = ((pTm G (x_rd_length).toInt (pPs G (x_rd_length).toInt 2) (x_rd_at).toInt (x_rd_variables).toInt vf)).1 := by omega
      have w513 : ((z96)).toInt = ((pTm G (x_rd_length).toInt (pPs G (x_rd_length).toInt 2) (x_rd_at).toInt (x_rd_variables).toInt vf)).2.1 := by omega
      have w514 : ((x_rd_variables)).toInt = ((pTm G (x_rd_length).toInt (pPs G (x_rd_length).toInt 2) (x_rd_at).toInt (x_rd_variables).toInt vf)).2.2.1 := by omega
      have w515 : (((x_rd_fault)).toInt = 0 ∧ ((x_rd_place)).toInt = (x_rd_place).toInt) ∨ (¬ ((x_rd_fault)).toInt = 0 ∧ ((x_rd_place)).toInt = ((z96)).toInt) := by omega
      have w516 : 2 * ((z83)).toInt ≤ ((z96)).toInt + 1 := by omega
      have w517 : ((z98)).toInt < 256 ∨ 2 * ((z83)).toInt ≤ ((z96)).toInt := by omega
      have w518 : (x_rd_at).toInt ≤ ((z96)).toInt := by omega
      have w519 : ((z98)).toInt = tkT G (x_rd_length).toInt ((z96)).toInt := by first | exact k104 | omega
      have w520 : ((z98)).toInt = -1 ∨ ((z97)).toInt = tkX G (x_rd_length).toInt ((z96)).toInt := by first | exact k105 | omega
      have w521 : ¬ ((z98)).toInt = 257 ∨ ((z99)).toInt = G ((z96)).toInt := by first | exact k106 | omega
      have w522 : -1 ≤ ((z98)).toInt ∧ ((z98)).toInt ≤ 258 := by first | exact k107 | omega
      have w523 : ((z97)).toInt ≤ (x_rd_length).toInt := by first | exact k108 | omega
      have w524 : ((z98)).toInt = -1 ∨ ((z96)).toInt < (x_rd_length).toInt := by first | exact k109 | omega
      have w525 : ((z96)).toInt ≤ (x_rd_length).toInt := by first | exact k110 | omega
      have w526 : VFC ((x_rd_variables)).toInt ((pTm G (x_rd_length).toInt (pPs G (x_rd_length).toInt 2) (x_rd_at).toInt (x_rd_variables).toInt vf)).2.2.2 (f_kn) (f84) ((z83)).toInt := (by rw [pq5064]; exact vf92)
      exact W.iret (v := r82) hx hb hr (fun t ht hW => ⟨⟨r82, (x_rd_fault, x_rd_place, x_rd_variables, z96, z97, z98, z99, f_kn, z83, f84, f85, f86, f_ter), rfl, ⟨w507, w508, w509, hf_kn, w510, hf85, hf86, hf_ter, w511, w512, w513, w514, w515, w516, w517, w518, w519, w520, w521, w522, w523, w524, w525, w526⟩, by rw [ht]; exact hP, hD⟩, hS.F ht⟩) hS.2.2 dX5_readPart_67

set_option maxHeartbeats 8000000 in
set_option maxRecDepth 100000 in
theorem c_X5_readPart_3 (l : Launch) (dC : Nat → ClassId) (dI : Nat → Nat → Nat) (sz : Nat) (h_rd : Nat) (h_by : Nat) (h_kn : Nat) (h_td : Nat) (h_nam : Nat) (h_var : Nat) (h_trm : Nat) (h_ter : Nat) (x_rd_length : Int32) (x_rd_fault : Int32) (x_rd_place : Int32) (x_rd_variables : Int32) (x_rd_at : Int32) (x_rd_behind : Int32) (x_rd_token : Int32) (x_rd_letters : Int64) (cy_by : ClassId) (f_by : Nat → Int32) (cy_kn : ClassId) (f_kn : Nat → Int32) (v_td : Nat → Value) (x_td_parts : Int32) (cy_nam : ClassId) (f_nam : Nat → Int64) (cy_var : ClassId) (f_var : Nat → Int32) (cy_trm : ClassId) (f_trm : Nat → Int32) (cy_ter : ClassId) (f_ter : Nat → Int32) (G : Int → Int) (vf : Int → Int) (hx_rd_length : 0 ≤ (x_rd_length).toInt ∧ (x_rd_length).toInt ≤ 600) (hx_rd_variables : 0 ≤ (x_rd_variables).toInt ∧ (x_rd_variables).toInt ≤ 8) (hx_rd_at : 0 ≤ (x_rd_at).toInt ∧ (x_rd_at).toInt ≤ 600) (hx_rd_behind : 0 ≤ (x_rd_behind).toInt ∧ (x_rd_behind).toInt ≤ 600) (hf_by : Rg 0 255 f_by) (hf_kn : Rg 0 299 f_kn) (hx_td_parts : 0 ≤ (x_td_parts).toInt ∧ (x_td_parts).toInt ≤ 300) (hf_var : Rg (-1) 7 f_var) (hf_trm : Rg 0 3 f_trm) (hf_ter : Rg 0 299 f_ter) (q0 : (x_rd_token).toInt = tkT G (x_rd_length).toInt (x_rd_at).toInt) (q1 : (x_rd_token).toInt = 256 ∨ (x_rd_token).toInt = 257) (q2 : (x_rd_behind).toInt = tkX G (x_rd_length).toInt (x_rd_at).toInt) (q3 : ¬ (x_rd_token).toInt = 257 ∨ (x_rd_letters).toInt = G (x_rd_at).toInt) (q4 : 0 ≤ (x_rd_fault).toInt ∧ (x_rd_fault).toInt ≤ 0) (q5 : 2 * (x_td_parts).toInt ≤ (x_rd_at).toInt) (q6 : (x_rd_at).toInt < (x_rd_length).toInt) (q7 : (x_rd_behind).toInt ≤ (x_rd_length).toInt) (hn_byt : BYT G (x_rd_length).toInt f_by) (hn_vfc : VFC (x_rd_variables).toInt vf f_kn f_nam (x_td_parts).toInt) : Met l yX5_readPart (Ws yX5_readPart cX5_readPart 5 (some .int)) (({ frames := 6, cells := 0, slots := 0, locals := 197 } : Room)) (PRE (dC, dI) cls [(cy_by, .int), (cy_kn, .int), (cy_nam, .long), (cy_var, .int), (cy_trm, .int), (cy_ter, .int)] [(h_rd, .inr (4, (mo31 (.ref h_by) (.int x_rd_length) (.int x_rd_fault) (.int x_rd_place) (.ref h_td) (.ref h_kn) (.int x_rd_variables) (.int x_rd_at) (.int x_rd_behind) (.int x_rd_token) (.long x_rd_letters)))), (h_by, .inl (cy_by, 600, .inl f_by)), (h_kn, .inl (cy_kn, 8, .inl f_kn)), (h_td, .inr (5, (mo32 v_td (.ref h_nam) (.ref h_var) (.ref h_trm) (.ref h_ter) (.int x_td_parts)))), (h_nam, .inl (cy_nam, 300, .inr (.inl f_nam))), (h_var, .inl (cy_var, 300, .inl f_var)), (h_trm, .inl (cy_trm, 300, .inl f_trm)), (h_ter, .inl (cy_ter, 900, .inl f_ter))] sz [.ref h_rd, .int 3]) (va_Qi (fun (r : Int32) (u : (Int32) × (Int32) × (Int32) × (Int32) × (Int32) × (Int32) × (Int64) × (Nat → Int32) × (Int32) × (Nat → Int64) × (Nat → Int32) × (Nat → Int32) × (Nat → Int32)) => (0 ≤ (u.2.2.1).toInt ∧ (u.2.2.1).toInt ≤ 8) ∧ (0 ≤ (u.2.2.2.1).toInt ∧ (u.2.2.2.1).toInt ≤ 600) ∧ (0 ≤ (u.2.2.2.2.1).toInt ∧ (u.2.2.2.2.1).toInt ≤ 600) ∧ (Rg 0 299 u.2.2.2.2.2.2.2.1) ∧ (0 ≤ (u.2.2.2.2.2.2.2.2.1).toInt ∧ (u.2.2.2.2.2.2.2.2.1).toInt ≤ 300) ∧ (Rg (-1) 7 u.2.2.2.2.2.2.2.2.2.2.1) ∧ (Rg 0 3 u.2.2.2.2.2.2.2.2.2.2.2.1) ∧ (Rg 0 299 u.2.2.2.2.2.2.2.2.2.2.2.2) ∧ (0 ≤ r.toInt ∧ r.toInt ≤ 299) ∧ ((u.1).toInt = ((pTm G (x_rd_length).toInt (pPs G (x_rd_length).toInt 3) (x_rd_at).toInt (x_rd_variables).toInt vf)).1) ∧ ((u.2.2.2.1).toInt = ((pTm G (x_rd_length).toInt (pPs G (x_rd_length).toInt 3) (x_rd_at).toInt (x_rd_variables).toInt vf)).2.1) ∧ ((u.2.2.1).toInt = ((pTm G (x_rd_length).toInt (pPs G (x_rd_length).toInt 3) (x_rd_at).toInt (x_rd_variables).toInt vf)).2.2.1) ∧ (((u.1).toInt = 0 ∧ (u.2.1).toInt = (x_rd_place).toInt) ∨ (¬ (u.1).toInt = 0 ∧ (u.2.1).toInt = (u.2.2.2.1).toInt)) ∧ (2 * (u.2.2.2.2.2.2.2.2.1).toInt ≤ (u.2.2.2.1).toInt + 1) ∧ ((u.2.2.2.2.2.1).toInt < 256 ∨ 2 * (u.2.2.2.2.2.2.2.2.1).toInt ≤ (u.2.2.2.1).toInt) ∧ ((x_rd_at).toInt ≤ (u.2.2.2.1).toInt) ∧ ((u.2.2.2.2.2.1).toInt = tkT G (x_rd_length).toInt (u.2.2.2.1).toInt) ∧ ((u.2.2.2.2.2.1).toInt = -1 ∨ (u.2.2.2.2.1).toInt = tkX G (x_rd_length).toInt (u.2.2.2.1).toInt) ∧ (¬ (u.2.2.2.2.2.1).toInt = 257 ∨ (u.2.2.2.2.2.2.1).toInt = G (u.2.2.2.1).toInt) ∧ (-1 ≤ (u.2.2.2.2.2.1).toInt ∧ (u.2.2.2.2.2.1).toInt ≤ 258) ∧ ((u.2.2.2.2.1).toInt ≤ (x_rd_length).toInt) ∧ ((u.2.2.2.2.2.1).toInt = -1 ∨ (u.2.2.2.1).toInt < (x_rd_length).toInt) ∧ ((u.2.2.2.1).toInt ≤ (x_rd_length).toInt) ∧ (VFC (u.2.2.1).toInt ((pTm G (x_rd_length).toInt (pPs G (x_rd_length).toInt 3) (x_rd_at).toInt (x_rd_variables).toInt vf)).2.2.2 u.2.2.2.2.2.2.2.1 u.2.2.2.2.2.2.2.2.2.1 (u.2.2.2.2.2.2.2.2.1).toInt)) (fun (u : (Int32) × (Int32) × (Int32) × (Int32) × (Int32) × (Int32) × (Int64) × (Nat → Int32) × (Int32) × (Nat → Int64) × (Nat → Int32) × (Nat → Int32) × (Nat → Int32)) (t : State) => va_P (dC, dI) cls [(h_rd, .inr (4, (mo31 (.ref h_by) (.int x_rd_length) (.int u.1) (.int u.2.1) (.ref h_td) (.ref h_kn) (.int u.2.2.1) (.int u.2.2.2.1) (.int u.2.2.2.2.1) (.int u.2.2.2.2.2.1) (.long u.2.2.2.2.2.2.1)))), (h_by, .inl (cy_by, 600, .inl f_by)), (h_kn, .inl (cy_kn, 8, .inl u.2.2.2.2.2.2.2.1)), (h_td, .inr (5, (mo32 v_td (.ref h_nam) (.ref h_var) (.ref h_trm) (.ref h_ter) (.int u.2.2.2.2.2.2.2.2.1)))), (h_nam, .inl (cy_nam, 300, .inr (.inl u.2.2.2.2.2.2.2.2.2.1))), (h_var, .inl (cy_var, 300, .inl u.2.2.2.2.2.2.2.2.2.2.1)), (h_trm, .inl (cy_trm, 300, .inl u.2.2.2.2.2.2.2.2.2.2.2.1)), (h_ter, .inl (cy_ter, 900, .inl u.2.2.2.2.2.2.2.2.2.2.2.2))] t.heap ∧ va_D (va_A [(h_rd, .inr (4, (mo31 (.ref h_by) (.int x_rd_length) (.int x_rd_fault) (.int x_rd_place) (.ref h_td) (.ref h_kn) (.int x_rd_variables) (.int x_rd_at) (.int x_rd_behind) (.int x_rd_token) (.long x_rd_letters)))), (h_by, .inl (cy_by, 600, .inl f_by)), (h_kn, .inl (cy_kn, 8, .inl f_kn)), (h_td, .inr (5, (mo32 v_td (.ref h_nam) (.ref h_var) (.ref h_trm) (.ref h_ter) (.int x_td_parts)))), (h_nam, .inl (cy_nam, 300, .inr (.inl f_nam))), (h_var, .inl (cy_var, 300, .inl f_var)), (h_trm, .inl (cy_trm, 300, .inl f_trm)), (h_ter, .inl (cy_ter, 900, .inl f_ter))] sz) [(h_rd, .inr (4, (mo31 (.ref h_by) (.int x_rd_length) (.int u.1) (.int u.2.1) (.ref h_td) (.ref h_kn) (.int u.2.2.1) (.int u.2.2.2.1) (.int u.2.2.2.2.1) (.int u.2.2.2.2.2.1) (.long u.2.2.2.2.2.2.1)))), (h_by, .inl (cy_by, 600, .inl f_by)), (h_kn, .inl (cy_kn, 8, .inl u.2.2.2.2.2.2.2.1)), (h_td, .inr (5, (mo32 v_td (.ref h_nam) (.ref h_var) (.ref h_trm) (.ref h_ter) (.int u.2.2.2.2.2.2.2.2.1)))), (h_nam, .inl (cy_nam, 300, .inr (.inl u.2.2.2.2.2.2.2.2.2.1))), (h_var, .inl (cy_var, 300, .inl u.2.2.2.2.2.2.2.2.2.2.1)), (h_trm, .inl (cy_trm, 300, .inl u.2.2.2.2.2.2.2.2.2.2.2.1)), (h_ter, .inl (cy_ter, 900, .inl u.2.2.2.2.2.2.2.2.2.2.2.2))]) (va_A [(h_rd, .inr (4, (mo31 (.ref h_by) (.int x_rd_length) (.int x_rd_fault) (.int x_rd_place) (.ref h_td) (.ref h_kn) (.int x_rd_variables) (.int x_rd_at) (.int x_rd_behind) (.int x_rd_token) (.long x_rd_letters)))), (h_by, .inl (cy_by, 600, .inl f_by)), (h_kn, .inl (cy_kn, 8, .inl f_kn)), (h_td, .inr (5, (mo32 v_td (.ref h_nam) (.ref h_var) (.ref h_trm) (.ref h_ter) (.int x_td_parts)))), (h_nam, .inl (cy_nam, 300, .inr (.inl f_nam))), (h_var, .inl (cy_var, 300, .inl f_var)), (h_trm, .inl (cy_trm, 300, .inl f_trm)), (h_ter, .inl (cy_ter, 900, .inl f_ter))] sz)) 0 0 (va_A [(h_rd, .inr (4, (mo31 (.ref h_by) (.int x_rd_length) (.int x_rd_fault) (.int x_rd_place) (.ref h_td) (.ref h_kn) (.int x_rd_variables) (.int x_rd_at) (.int x_rd_behind) (.int x_rd_token) (.long x_rd_letters)))), (h_by, .inl (cy_by, 600, .inl f_by)), (h_kn, .inl (cy_kn, 8, .inl f_kn)), (h_td, .inr (5, (mo32 v_td (.ref h_nam) (.ref h_var) (.ref h_trm) (.ref h_ter) (.int x_td_parts)))), (h_nam, .inl (cy_nam, 300, .inr (.inl f_nam))), (h_var, .inl (cy_var, 300, .inl f_var)), (h_trm, .inl (cy_trm, 300, .inl f_trm)), (h_ter, .inl (cy_ter, 900, .inl f_ter))] sz) := by
  refine Met.ofW (cc := cX5_readPart) (maxL := 5) (ret := (some .int)) (by decide) rfl ?_
  intro p e s m args below meth c s₁ B hml hv
  obtain ⟨rfl, hsz, hP, hK, hD0, hN⟩ := hv
  have hx := B.exec
  have hb := B.bytes
  have hr := B.returns
  have hts := atoms_spec (ws := Ws yX5_readPart cX5_readPart 5 (some .int)) B.pre
  have hT : ∀ w ∈ WALL, w ∈ Ws yX5_readPart cX5_readPart 5 (some .int) := fun w h => List.mem_cons_of_mem _ h
  have hw := fun w (h : w ∈ WALL) => hts w (hT w h)
  have hown : s.vm.findClass RX5 = some m.cls := findClass_of_methodNamed B.named
  have hlocks := B.notSynchronized
  subst hsz
  have hD := hD0.self (sz := s.heap.size)
  generalize hAe : va_A [(h_rd, .inr (4, (mo31 (.ref h_by) (.int x_rd_length) (.int x_rd_fault) (.int x_rd_place) (.ref h_td) (.ref h_kn) (.int x_rd_variables) (.int x_rd_at) (.int x_rd_behind) (.int x_rd_token) (.long x_rd_letters)))), (h_by, .inl (cy_by, 600, .inl f_by)), (h_kn, .inl (cy_kn, 8, .inl f_kn)), (h_td, .inr (5, (mo32 v_td (.ref h_nam) (.ref h_var) (.ref h_trm) (.ref h_ter) (.int x_td_parts)))), (h_nam, .inl (cy_nam, 300, .inr (.inl f_nam))), (h_var, .inl (cy_var, 300, .inl f_var)), (h_trm, .inl (cy_trm, 300, .inl f_trm)), (h_ter, .inl (cy_ter, 900, .inl f_ter))] s.heap.size = A at hD ⊢
  have hA : ∀ q : Nat, s.heap.size ≤ q → A q := fun q h => by rw [← hAe]; exact Or.inr h
  have hS : va_S A s.heap s.heap [] := va_S.rf
  have hl := lv_entry ([.ref h_rd, .int 3]) (n := 5) (Nat.le_of_ble_eq_true rfl)
  rw [lg_entry_eq]
  generalize (lg_sl ([.ref h_rd, .int 3]) ++ List.replicate (5 - (lg_sl ([.ref h_rd, .int 3])).length) Slot.unset).toArray = ls at hl ⊢
  have hl : lv_has ls 5 [(0, .ref h_rd), (1, .int 3)] := hl
  refine lv_aload_n hx hb dX5_readPart_0 rfl (lv_at hl 0 rfl) ?_
  refine va_get (D := (dC, dI)) (ci := 4) (v := .int x_rd_token) (C := RX5) (T := TX5) (N := 11) hx hb hw iwX5 hown hK hP 0 rfl rfl 9 (by decide) (hw _ w_f_X5_43) (fun _ h9 => h9) rfl dX5_readPart_1 ?_
  refine lv_sipush (v := 256) hx hb dX5_readPart_4 (by decide) ?_
  refine lv_icmp_ne (tgt := 14) hx hb dX5_readPart_7 (by decide) (fun c1 => ?_) (fun c1 => ?_)
  · have kc1 := (not_congr (cv_eq (rfl : (x_rd_token).toInt = (x_rd_token).toInt) (by decide : (256 : Int32).toInt = 256))).mp c1
    refine lv_iconst (v := 0) hx hb dX5_readPart_14 (by decide) ?_
    refine lv_istore_n (lv' := [(2, .int 0), (0, .ref h_rd), (1, .int 3)]) hx hb dX5_readPart_15 rfl hl (by decide) rfl (fun ls hl => ?_)
    refine lv_iload_n hx hb dX5_readPart_16 rfl (lv_at hl 0 rfl) ?_
    refine lv_if_eq (tgt := 35) hx hb dX5_readPart_17 (by decide) (fun _ => ?_) (fun c9 => absurd c9 (by decide))
    refine lv_aload_n hx hb dX5_readPart_35 rfl (lv_at hl 1 rfl) ?_
    obtain ⟨vq2, evq2⟩ := mq31_30 (.ref h_by) (.int x_rd_behind) (.int x_rd_token)
    replace hP : va_P (dC, dI) cls [(h_rd, .inr (4, (mo30 vq2 (.int x_rd_length) (.int x_rd_fault) (.int x_rd_place) (.ref h_td) (.ref h_kn) (.int x_rd_variables) (.int x_rd_at) (.long x_rd_letters)))), (h_by, .inl (cy_by, 600, .inl f_by)), (h_kn, .inl (cy_kn, 8, .inl f_kn)), (h_td, .inr (5, (mo32 v_td (.ref h_nam) (.ref h_var) (.ref h_trm) (.ref h_ter) (.int x_td_parts)))), (h_nam, .inl (cy_nam, 300, .inr (.inl f_nam))), (h_var, .inl (cy_var, 300, .inl f_var)), (h_trm, .inl (cy_trm, 300, .inl f_trm)), (h_ter, .inl (cy_ter, 900, .inl f_ter))] s.heap := by rw [evq2]; exact hP
    replace hD : va_D A [(h_rd, .inr (4, (mo30 vq2 (.int x_rd_length) (.int x_rd_fault) (.int x_rd_place) (.ref h_td) (.ref h_kn) (.int x_rd_variables) (.int x_rd_at) (.long x_rd_letters)))), (h_by, .inl (cy_by, 600, .inl f_by)), (h_kn, .inl (cy_kn, 8, .inl f_kn)), (h_td, .inr (5, (mo32 v_td (.ref h_nam) (.ref h_var) (.ref h_trm) (.ref h_ter) (.int x_td_parts)))), (h_nam, .inl (cy_nam, 300, .inr (.inl f_nam))), (h_var, .inl (cy_var, 300, .inl f_var)), (h_trm, .inl (cy_trm, 300, .inl f_trm)), (h_ter, .inl (cy_ter, 900, .inl f_ter))] := by rw [evq2]; exact hD
    obtain ⟨vq3, evq3⟩ := mq32_24 v_td (.ref h_ter)
    replace hP : va_P (dC, dI) cls [(h_rd, .inr (4, (mo30 vq2 (.int x_rd_length) (.int x_rd_fault) (.int x_rd_place) (.ref h_td) (.ref h_kn) (.int x_rd_variables) (.int x_rd_at) (.long x_rd_letters)))), (h_by, .inl (cy_by, 600, .inl f_by)), (h_kn, .inl (cy_kn, 8, .inl f_kn)), (h_td, .inr (5, (mo24 vq3 (.ref h_nam) (.ref h_var) (.ref h_trm) (.int x_td_parts)))), (h_nam, .inl (cy_nam, 300, .inr (.inl f_nam))), (h_var, .inl (cy_var, 300, .inl f_var)), (h_trm, .inl (cy_trm, 300, .inl f_trm)), (h_ter, .inl (cy_ter, 900, .inl f_ter))] s.heap := by rw [evq3]; exact hP
    replace hD : va_D A [(h_rd, .inr (4, (mo30 vq2 (.int x_rd_length) (.int x_rd_fault) (.int x_rd_place) (.ref h_td) (.ref h_kn) (.int x_rd_variables) (.int x_rd_at) (.long x_rd_letters)))), (h_by, .inl (cy_by, 600, .inl f_by)), (h_kn, .inl (cy_kn, 8, .inl f_kn)), (h_td, .inr (5, (mo24 vq3 (.ref h_nam) (.ref h_var) (.ref h_trm) (.int x_td_parts)))), (h_nam, .inl (cy_nam, 300, .inr (.inl f_nam))), (h_var, .inl (cy_var, 300, .inl f_var)), (h_trm, .inl (cy_trm, 300, .inl f_trm)), (h_ter, .inl (cy_ter, 900, .inl f_ter))] := by rw [evq3]; exact hD
    have hPc := hP.sub (ws' := [(h_rd, .inr (4, (mo30 vq2 (.int x_rd_length) (.int x_rd_fault) (.int x_rd_place) (.ref h_td) (.ref h_kn) (.int x_rd_variables) (.int x_rd_at) (.long x_rd_letters)))), (h_kn, .inl (cy_kn, 8, .inl f_kn)), (h_td, .inr (5, (mo24 vq3 (.ref h_nam) (.ref h_var) (.ref h_trm) (.int x_td_parts)))), (h_nam, .inl (cy_nam, 300, .inr (.inl f_nam))), (h_var, .inl (cy_var, 300, .inl f_var)), (h_trm, .inl (cy_trm, 300, .inl f_trm))]) [0, 2, 3, 4, 5, 6] rfl
    have hDc := hD.sub (ws' := [(h_rd, .inr (4, (mo30 vq2 (.int x_rd_length) (.int x_rd_fault) (.int x_rd_place) (.ref h_td) (.ref h_kn) (.int x_rd_variables) (.int x_rd_at) (.long x_rd_letters)))), (h_kn, .inl (cy_kn, 8, .inl f_kn)), (h_td, .inr (5, (mo24 vq3 (.ref h_nam) (.ref h_var) (.ref h_trm) (.int x_td_parts)))), (h_nam, .inl (cy_nam, 300, .inr (.inl f_nam))), (h_var, .inl (cy_var, 300, .inl f_var)), (h_trm, .inl (cy_trm, 300, .inl f_trm))]) [0, 2, 3, 4, 5, 6] (by decide) rfl
    have hKc := hK.sub (tys' := [(cy_kn, .int), (cy_nam, .long), (cy_var, .int), (cy_trm, .int)]) [1, 2, 3, 4] rfl
    have hFc := va_free (wc := [(h_rd, .inr (4, (mo30 vq2 (.int x_rd_length) (.int x_rd_fault) (.int x_rd_place) (.ref h_td) (.ref h_kn) (.int x_rd_variables) (.int x_rd_at) (.long x_rd_letters)))), (h_kn, .inl (cy_kn, 8, .inl f_kn)), (h_td, .inr (5, (mo24 vq3 (.ref h_nam) (.ref h_var) (.ref h_trm) (.int x_td_parts)))), (h_nam, .inl (cy_nam, 300, .inr (.inl f_nam))), (h_var, .inl (cy_var, 300, .inl f_var)), (h_trm, .inl (cy_trm, 300, .inl f_trm))]) hD hS hA [0, 2, 3, 4, 5, 6] rfl
    refine va_calli (va_runV (As := []) (rest := []) ⟨hx, hb, hml, hown, hts⟩ (c_X5_variablePart l dC dI s.heap.size h_rd h_kn h_td h_nam h_var h_trm vq2 x_rd_length x_rd_fault x_rd_place x_rd_variables x_rd_at x_rd_letters cy_kn f_kn vq3 x_td_parts cy_nam f_nam cy_var f_var cy_trm f_trm G vf (by first | exact hx_rd_length | omega) (by first | exact hx_rd_variables | omega) (by first | exact hx_rd_at | omega) hf_kn (by first | exact hx_td_parts | omega) hf_var hf_trm (by omega) (by first | exact q5 | omega) (by omega) (by first | exact q4 | omega) hn_vfc) (cwV 0 hts (gv hT w_m_X5_93 w_instanceMethod_X5_variablePart ws_sel_X5_variablePart w_ini_X5 w_code_X5_variablePart) rfl rfl rfl (by decide +kernel) ⟨(Nat.le_of_ble_eq_true rfl), (Nat.le_of_ble_eq_true rfl)⟩) ⟨pre_blind, va_recv hK hP (ci := 4) (q0 := 0) rfl rfl, pre_of hPc hKc hDc hN⟩ rfl rfl hl.1 rfl (lv_room (Nat.le_of_ble_eq_true rfl)) dX5_readPart_36 ⟨(Nat.le_of_ble_eq_true rfl), (Nat.le_of_ble_eq_true rfl)⟩) hS (fun q _ h => hFc q h) hFc (fun r4 u t H locs ht hvm hq hB hz1 hk1 hS9 => ?_)
    obtain ⟨z5, z6, z7, f8, z9, f10, f11, f12⟩ := u
    obtain ⟨hP1, hD1⟩ := hB
    rw [ht] at hP1
    obtain ⟨hP9, hD9⟩ := va_join (wr := [(h_by, .inl (cy_by, 600, .inl f_by)), (h_ter, .inl (cy_ter, 900, .inl f_ter))]) (w1 := [(h_rd, .inr (4, (mo30 vq2 (.int x_rd_length) (.int z5) (.int z6) (.ref h_td) (.ref h_kn) (.int z7) (.int x_rd_at) (.long x_rd_letters)))), (h_kn, .inl (cy_kn, 8, .inl f8)), (h_td, .inr (5, (mo24 vq3 (.ref h_nam) (.ref h_var) (.ref h_trm) (.int z9)))), (h_nam, .inl (cy_nam, 300, .inr (.inl f10))), (h_var, .inl (cy_var, 300, .inl f11)), (h_trm, .inl (cy_trm, 300, .inl f12))]) hP hD [0, 2, 3, 4, 5, 6] [1, 7] rfl rfl (by decide) (by decide) hk1 hFc hP1 hD1
    clear hP hD hS hPc hDc hKc hFc hP1 hD1 hk1 hz1 ht hvm
    have hP : va_P (dC, dI) cls [(h_by, .inl (cy_by, 600, .inl f_by)), (h_ter, .inl (cy_ter, 900, .inl f_ter)), (h_rd, .inr (4, (mo30 vq2 (.int x_rd_length) (.int z5) (.int z6) (.ref h_td) (.ref h_kn) (.int z7) (.int x_rd_at) (.long x_rd_letters)))), (h_kn, .inl (cy_kn, 8, .inl f8)), (h_td, .inr (5, (mo24 vq3 (.ref h_nam) (.ref h_var) (.ref h_trm) (.int z9)))), (h_nam, .inl (cy_nam, 300, .inr (.inl f10))), (h_var, .inl (cy_var, 300, .inl f11)), (h_trm, .inl (cy_trm, 300, .inl f12))] H := hP9
    have hD : va_D A [(h_by, .inl (cy_by, 600, .inl f_by)), (h_ter, .inl (cy_ter, 900, .inl f_ter)), (h_rd, .inr (4, (mo30 vq2 (.int x_rd_length) (.int z5) (.int z6) (.ref h_td) (.ref h_kn) (.int z7) (.int x_rd_at) (.long x_rd_letters)))), (h_kn, .inl (cy_kn, 8, .inl f8)), (h_td, .inr (5, (mo24 vq3 (.ref h_nam) (.ref h_var) (.ref h_trm) (.int z9)))), (h_nam, .inl (cy_nam, 300, .inr (.inl f10))), (h_var, .inl (cy_var, 300, .inl f11)), (h_trm, .inl (cy_trm, 300, .inl f12))] := hD9
    have hS := hS9
    clear hP9 hD9 hS9
    rw [evq2] at hP hD
    replace hP : va_P (dC, dI) cls [(h_by, .inl (cy_by, 600, .inl f_by)), (h_ter, .inl (cy_ter, 900, .inl f_ter)), (h_rd, .inr (4, (mo31 (.ref h_by) (.int x_rd_length) (.int z5) (.int z6) (.ref h_td) (.ref h_kn) (.int z7) (.int x_rd_at) (.int x_rd_behind) (.int x_rd_token) (.long x_rd_letters)))), (h_kn, .inl (cy_kn, 8, .inl f8)), (h_td, .inr (5, (mo24 vq3 (.ref h_nam) (.ref h_var) (.ref h_trm) (.int z9)))), (h_nam, .inl (cy_nam, 300, .inr (.inl f10))), (h_var, .inl (cy_var, 300, .inl f11)), (h_trm, .inl (cy_trm, 300, .inl f12))] H := hP
    replace hD : va_D A [(h_by, .inl (cy_by, 600, .inl f_by)), (h_ter, .inl (cy_ter, 900, .inl f_ter)), (h_rd, .inr (4, (mo31 (.ref h_by) (.int x_rd_length) (.int z5) (.int z6) (.ref h_td) (.ref h_kn) (.int z7) (.int x_rd_at) (.int x_rd_behind) (.int x_rd_token) (.long x_rd_letters)))), (h_kn, .inl (cy_kn, 8, .inl f8)), (h_td, .inr (5, (mo24 vq3 (.ref h_nam) (.ref h_var) (.ref h_trm) (.int z9)))), (h_nam, .inl (cy_nam, 300, .inr (.inl f10))), (h_var, .inl (cy_var, 300, .inl f11)), (h_trm, .inl (cy_trm, 300, .inl f12))] := hD
    clear evq2 
    rw [evq3] at hP hD
    replace hP : va_P (dC, dI) cls [(h_by, .inl (cy_by, 600, .inl f_by)), (h_ter, .inl (cy_ter, 900, .inl f_ter)), (h_rd, .inr (4, (mo31 (.ref h_by) (.int x_rd_length) (.int z5) (.int z6) (.ref h_td) (.ref h_kn) (.int z7) (.int x_rd_at) (.int x_rd_behind) (.int x_rd_token) (.long x_rd_letters)))), (h_kn, .inl (cy_kn, 8, .inl f8)), (h_td, .inr (5, (mo32 v_td (.ref h_nam) (.ref h_var) (.ref h_trm) (.ref h_ter) (.int z9)))), (h_nam, .inl (cy_nam, 300, .inr (.inl f10))), (h_var, .inl (cy_var, 300, .inl f11)), (h_trm, .inl (cy_trm, 300, .inl f12))] H := hP
    replace hD : va_D A [(h_by, .inl (cy_by, 600, .inl f_by)), (h_ter, .inl (cy_ter, 900, .inl f_ter)), (h_rd, .inr (4, (mo31 (.ref h_by) (.int x_rd_length) (.int z5) (.int z6) (.ref h_td) (.ref h_kn) (.int z7) (.int x_rd_at) (.int x_rd_behind) (.int x_rd_token) (.long x_rd_letters)))), (h_kn, .inl (cy_kn, 8, .inl f8)), (h_td, .inr (5, (mo32 v_td (.ref h_nam) (.ref h_var) (.ref h_trm) (.ref h_ter) (.int z9)))), (h_nam, .inl (cy_nam, 300, .inr (.inl f10))), (h_var, .inl (cy_var, 300, .inl f11)), (h_trm, .inl (cy_trm, 300, .inl f12))] := hD
    clear evq3 
    obtain ⟨k13, hf8, k14, hf11, hf12, k15, k16, k17, k18, k19, k20⟩ := hq
    replace k13 : 0 ≤ ((z7)).toInt ∧ ((z7)).toInt ≤ 8 := k13
    replace hf8 : Rg 0 299 (f8) := hf8
    replace k14 : 0 ≤ ((z9)).toInt ∧ ((z9)).toInt ≤ 300 := k14
    replace hf11 : Rg (-1) 7 (f11) := hf11
    replace hf12 : Rg 0 3 (f12) := hf12
    replace k15 : 0 ≤ (r4).toInt ∧ (r4).toInt ≤ 299 := k15
    replace k16 : ((z5)).toInt = ((pVar (G) ((x_rd_length)).toInt ((x_rd_at)).toInt ((x_rd_variables)).toInt (vf))).1 := k16
    replace k17 : (((z5)).toInt = 0 ∧ ((z6)).toInt = ((x_rd_place)).toInt ∧ ((pVar (G) ((x_rd_length)).toInt ((x_rd_at)).toInt ((x_rd_variables)).toInt (vf))).2.1 = tkN (G) ((x_rd_length)).toInt ((x_rd_at)).toInt) ∨ (((z5)).toInt = 2 ∧ ((z6)).toInt = ((x_rd_at)).toInt ∧ ((pVar (G) ((x_rd_length)).toInt ((x_rd_at)).toInt ((x_rd_variables)).toInt (vf))).2.1 = ((x_rd_at)).toInt ∧ ((z9)).toInt = ((x_td_parts)).toInt) := k17
    replace k18 : ((z7)).toInt = ((pVar (G) ((x_rd_length)).toInt ((x_rd_at)).toInt ((x_rd_variables)).toInt (vf))).2.2.1 := k18
    replace k19 : ((x_td_parts)).toInt ≤ ((z9)).toInt ∧ ((z9)).toInt ≤ ((x_td_parts)).toInt + 1 := k19
    replace k20 : VFC ((z7)).toInt ((pVar (G) ((x_rd_length)).toInt ((x_rd_at)).toInt ((x_rd_variables)).toInt (vf))).2.2.2 (f8) (f10) ((z9)).toInt := k20
    have rq9 : (pTm G (x_rd_length).toInt (pPs G (x_rd_length).toInt 3) (x_rd_at).toInt (x_rd_variables).toInt vf) = (pVar G (x_rd_length).toInt (x_rd_at).toInt (x_rd_variables).toInt vf) := pTm_var (by omega)
    have pq211 : ((pTm G (x_rd_length).toInt (pPs G (x_rd_length).toInt 3) (x_rd_at).toInt (x_rd_variables).toInt vf)).1 = ((pVar G (x_rd_length).toInt (x_rd_at).toInt (x_rd_variables).toInt vf)).1 := by rw [rq9]
    have pq212 : ((pTm G (x_rd_length).toInt (pPs G (x_rd_length).toInt 3) (x_rd_at).toInt (x_rd_variables).toInt vf)).2.1 = ((pVar G (x_rd_length).toInt (x_rd_at).toInt (x_rd_variables).toInt vf)).2.1 := by rw [rq9]
    have pq213 : ((pTm G (x_rd_length).toInt (pPs G (x_rd_length).toInt 3) (x_rd_at).toInt (x_rd_variables).toInt vf)).2.2.1 = ((pVar G (x_rd_length).toInt (x_rd_at).toInt (x_rd_variables).toInt vf)).2.2.1 := by rw [rq9]
    have pq214 : ((pTm G (x_rd_length).toInt (pPs G (x_rd_length).toInt 3) (x_rd_at).toInt (x_rd_variables).toInt vf)).2.2.2 = ((pVar G (x_rd_length).toInt (x_rd_at).toInt (x_rd_variables).toInt vf)).2.2.2 := by rw [rq9]
    refine lv_istore_n (lv' := [(3, .int r4), (2, .int 0), (0, .ref h_rd), (1, .int 3)]) hx hb dX5_readPart_39 rfl hl (by decide) rfl (fun ls hl => ?_)
    refine lv_aload_n hx hb dX5_readPart_40 rfl (lv_at hl 2 rfl) ?_
    refine va_get (D := (dC, dI)) (ci := 4) (v := .int z5) (C := RX5) (T := TX5) (N := 11) hx hb hw iwX5 hown hK hP 2 rfl rfl 2 (by decide) (hw _ w_f_X5_34) (fun _ h9 => h9) rfl dX5_readPart_41 ?_
    refine lv_if_eq (tgt := 49) hx hb dX5_readPart_44 (by decide) (fun c22 => ?_) (fun c22 => ?_)
    · have kc22 := (cv_eq (rfl : (z5).toInt = (z5).toInt) (by decide : (0 : Int32).toInt = 0)).mp c22
      refine lv_aload_n hx hb dX5_readPart_49 rfl (lv_at hl 2 rfl) ?_
      obtain ⟨vq23, evq23⟩ := mq31_29 (.int z5) (.int z6) (.ref h_td) (.ref h_kn) (.int z7)
      replace hP : va_P (dC, dI) cls [(h_by, .inl (cy_by, 600, .inl f_by)), (h_ter, .inl (cy_ter, 900, .inl f_ter)), (h_rd, .inr (4, (mo29 vq23 (.ref h_by) (.int x_rd_length) (.int x_rd_at) (.int x_rd_behind) (.int x_rd_token) (.long x_rd_letters)))), (h_kn, .inl (cy_kn, 8, .inl f8)), (h_td, .inr (5, (mo32 v_td (.ref h_nam) (.ref h_var) (.ref h_trm) (.ref h_ter) (.int z9)))), (h_nam, .inl (cy_nam, 300, .inr (.inl f10))), (h_var, .inl (cy_var, 300, .inl f11)), (h_trm, .inl (cy_trm, 300, .inl f12))] H := by rw [evq23]; exact hP
      replace hD : va_D A [(h_by, .inl (cy_by, 600, .inl f_by)), (h_ter, .inl (cy_ter, 900, .inl f_ter)), (h_rd, .inr (4, (mo29 vq23 (.ref h_by) (.int x_rd_length) (.int x_rd_at) (.int x_rd_behind) (.int x_rd_token) (.long x_rd_letters)))), (h_kn, .inl (cy_kn, 8, .inl f8)), (h_td, .inr (5, (mo32 v_td (.ref h_nam) (.ref h_var) (.ref h_trm) (.ref h_ter) (.int z9)))), (h_nam, .inl (cy_nam, 300, .inr (.inl f10))), (h_var, .inl (cy_var, 300, .inl f11)), (h_trm, .inl (cy_trm, 300, .inl f12))] := by rw [evq23]; exact hD
      have hPc := hP.sub (ws' := [(h_rd, .inr (4, (mo29 vq23 (.ref h_by) (.int x_rd_length) (.int x_rd_at) (.int x_rd_behind) (.int x_rd_token) (.long x_rd_letters)))), (h_by, .inl (cy_by, 600, .inl f_by))]) [2, 0] rfl
      have hDc := hD.sub (ws' := [(h_rd, .inr (4, (mo29 vq23 (.ref h_by) (.int x_rd_length) (.int x_rd_at) (.int x_rd_behind) (.int x_rd_token) (.long x_rd_letters)))), (h_by, .inl (cy_by, 600, .inl f_by))]) [2, 0] (by decide) rfl
      have hKc := hK.sub (tys' := [(cy_by, .int)]) [0] rfl
      have hFc := va_free (wc := [(h_rd, .inr (4, (mo29 vq23 (.ref h_by) (.int x_rd_length) (.int x_rd_at) (.int x_rd_behind) (.int x_rd_token) (.long x_rd_letters)))), (h_by, .inl (cy_by, 600, .inl f_by))]) hD hS hA [2, 0] rfl
      refine va_callv (va_runV (As := []) (rest := []) ⟨hx, hb, hml, hown, hts⟩ (c_X5_nextToken l dC dI H.size h_rd h_by vq23 x_rd_length x_rd_at x_rd_behind x_rd_token x_rd_letters cy_by f_by G (by first | exact hx_rd_length | omega) (by first | exact hx_rd_at | omega) (by first | exact hx_rd_behind | omega) hf_by (by first | exact q7 | omega) hn_byt) (cwV 0 hts (gv hT w_m_X5_40 w_instanceMethod_X5_nextToken ws_sel_X5_nextToken w_ini_X5 w_code_X5_nextToken) rfl rfl rfl (by decide +kernel) ⟨(Nat.le_of_ble_eq_true rfl), (Nat.le_of_ble_eq_true rfl)⟩) ⟨pre_blind, va_recv hK hP (ci := 4) (q0 := 2) rfl rfl, pre_of hPc hKc hDc hN⟩ rfl rfl hl.1 rfl (lv_room (Nat.le_of_ble_eq_true rfl)) dX5_readPart_50 ⟨(Nat.le_of_ble_eq_true rfl), (Nat.le_of_ble_eq_true rfl)⟩) hS (fun q _ h => hFc q h) hFc (fun u t H locs ht hvm hq hB hz1 hk1 hS9 => ?_)
      obtain ⟨z25, z26, z27, z28⟩ := u
      obtain ⟨hP1, hD1⟩ := hB
      rw [ht] at hP1
      obtain ⟨hP9, hD9⟩ := va_join (wr := [(h_ter, .inl (cy_ter, 900, .inl f_ter)), (h_kn, .inl (cy_kn, 8, .inl f8)), (h_td, .inr (5, (mo32 v_td (.ref h_nam) (.ref h_var) (.ref h_trm) (.ref h_ter) (.int z9)))), (h_nam, .inl (cy_nam, 300, .inr (.inl f10))), (h_var, .inl (cy_var, 300, .inl f11)), (h_trm, .inl (cy_trm, 300, .inl f12))]) (w1 := [(h_rd, .inr (4, (mo29 vq23 (.ref h_by) (.int x_rd_length) (.int z25) (.int z26) (.int z27) (.long z28)))), (h_by, .inl (cy_by, 600, .inl f_by))]) hP hD [2, 0] [1, 3, 4, 5, 6, 7] rfl rfl (by decide) (by decide) hk1 hFc hP1 hD1
      clear hP hD hS hPc hDc hKc hFc hP1 hD1 hk1 hz1 ht hvm
      have hP : va_P (dC, dI) cls [(h_ter, .inl (cy_ter, 900, .inl f_ter)), (h_kn, .inl (cy_kn, 8, .inl f8)), (h_td, .inr (5, (mo32 v_td (.ref h_nam) (.ref h_var) (.ref h_trm) (.ref h_ter) (.int z9)))), (h_nam, .inl (cy_nam, 300, .inr (.inl f10))), (h_var, .inl (cy_var, 300, .inl f11)), (h_trm, .inl (cy_trm, 300, .inl f12)), (h_rd, .inr (4, (mo29 vq23 (.ref h_by) (.int x_rd_length) (.int z25) (.int z26) (.int z27) (.long z28)))), (h_by, .inl (cy_by, 600, .inl f_by))] H := hP9
      have hD : va_D A [(h_ter, .inl (cy_ter, 900, .inl f_ter)), (h_kn, .inl (cy_kn, 8, .inl f8)), (h_td, .inr (5, (mo32 v_td (.ref h_nam) (.ref h_var) (.ref h_trm) (.ref h_ter) (.int z9)))), (h_nam, .inl (cy_nam, 300, .inr (.inl f10))), (h_var, .inl (cy_var, 300, .inl f11)), (h_trm, .inl (cy_trm, 300, .inl f12)), (h_rd, .inr (4, (mo29 vq23 (.ref h_by) (.int x_rd_length) (.int z25) (.int z26) (.int z27) (.long z28)))), (h_by, .inl (cy_by, 600, .inl f_by))] := hD9
      have hS := hS9
      clear hP9 hD9 hS9
      rw [evq23] at hP hD
      replace hP : va_P (dC, dI) cls [(h_ter, .inl (cy_ter, 900, .inl f_ter)), (h_kn, .inl (cy_kn, 8, .inl f8)), (h_td, .inr (5, (mo32 v_td (.ref h_nam) (.ref h_var) (.ref h_trm) (.ref h_ter) (.int z9)))), (h_nam, .inl (cy_nam, 300, .inr (.inl f10))), (h_var, .inl (cy_var, 300, .inl f11)), (h_trm, .inl (cy_trm, 300, .inl f12)), (h_rd, .inr (4, (mo31 (.ref h_by) (.int x_rd_length) (.int z5) (.int z6) (.ref h_td) (.ref h_kn) (.int z7) (.int z25) (.int z26) (.int z27) (.long z28)))), (h_by, .inl (cy_by, 600, .inl f_by))] H := hP
      replace hD : va_D A [(h_ter, .inl (cy_ter, 900, .inl f_ter)), (h_kn, .inl (cy_kn, 8, .inl f8)), (h_td, .inr (5, (mo32 v_td (.ref h_nam) (.ref h_var) (.ref h_trm) (.ref h_ter) (.int z9)))), (h_nam, .inl (cy_nam, 300, .inr (.inl f10))), (h_var, .inl (cy_var, 300, .inl f11)), (h_trm, .inl (cy_trm, 300, .inl f12)), (h_rd, .inr (4, (mo31 (.ref h_by) (.int x_rd_length) (.int z5) (.int z6) (.ref h_td) (.ref h_kn) (.int z7) (.int z25) (.int z26) (.int z27) (.long z28)))), (h_by, .inl (cy_by, 600, .inl f_by))] := hD
      clear evq23 
      obtain ⟨k29, k30, k31, k32, k33, k34, k35, k36, k37, k38, k39⟩ := hq
      replace k29 : 0 ≤ ((z25)).toInt ∧ ((z25)).toInt ≤ 600 := k29
      replace k30 : 0 ≤ ((z26)).toInt ∧ ((z26)).toInt ≤ 600 := k30
      replace k31 : ((z25)).toInt = tkS (G) ((x_rd_length)).toInt ((x_rd_behind)).toInt := k31
      replace k32 : ((x_rd_behind)).toInt ≤ ((z25)).toInt := k32
      replace k33 : ((z27)).toInt = tkT (G) ((x_rd_length)).toInt ((z25)).toInt := k33
      replace k34 : ((z27)).toInt = -1 ∨ ((z26)).toInt = tkX (G) ((x_rd_length)).toInt ((z25)).toInt := k34
      replace k35 : ¬ ((z27)).toInt = 257 ∨ ((z28)).toInt = (G) ((z25)).toInt := k35
      replace k36 : -1 ≤ ((z27)).toInt ∧ ((z27)).toInt ≤ 258 := k36
      replace k37 : ((z26)).toInt ≤ ((x_rd_length)).toInt := k37
      replace k38 : ((z27)).toInt = -1 ∨ ((z25)).toInt < ((x_rd_length)).toInt := k38
      replace k39 : ((z25)).toInt ≤ ((x_rd_length)).toInt := k39
      have tn40b : (x_rd_behind).toInt = tkX G (x_rd_length).toInt (x_rd_at).toInt := by omega
      have tn40 : (z25).toInt = tkN G (x_rd_length).toInt (x_rd_at).toInt := by rw [k31, tn40b]; rfl
      have tn40t : (z27).toInt = tkT G (x_rd_length).toInt (tkN G (x_rd_length).toInt (x_rd_at).toInt) := by rw [← tn40]; exact k33
      have tn40g := tkN_gt (G := G) (n := (x_rd_length).toInt) (a := (x_rd_at).toInt) (by omega) (by omega) (by omega)
      have tw9 := nx_two (G := G) (n := (x_rd_length).toInt) hn_byt.1 (by omega) (by omega) q0 (by omega) tn40 k33
      refine lv_iload_n hx hb dX5_readPart_53 rfl (lv_at hl 1 rfl) ?_
      refine lv_if_eq (tgt := 66) hx hb dX5_readPart_54 (by decide) (fun _ => ?_) (fun c9 => absurd c9 (by decide))
      refine lv_iload_n hx hb dX5_readPart_66 rfl (lv_at hl 0 rfl) ?_
      replace hP : va_P (dC, dI) cls [(h_rd, .inr (4, (mo31 (.ref h_by) (.int x_rd_length) (.int z5) (.int z6) (.ref h_td) (.ref h_kn) (.int z7) (.int z25) (.int z26) (.int z27) (.long z28)))), (h_by, .inl (cy_by, 600, .inl f_by)), (h_kn, .inl (cy_kn, 8, .inl f8)), (h_td, .inr (5, (mo32 v_td (.ref h_nam) (.ref h_var) (.ref h_trm) (.ref h_ter) (.int z9)))), (h_nam, .inl (cy_nam, 300, .inr (.inl f10))), (h_var, .inl (cy_var, 300, .inl f11)), (h_trm, .inl (cy_trm, 300, .inl f12)), (h_ter, .inl (cy_ter, 900, .inl f_ter))] H := hP.sub [6, 7, 1, 2, 3, 4, 5, 0] rfl
      replace hD : va_D A [(h_rd, .inr (4, (mo31 (.ref h_by) (.int x_rd_length) (.int z5) (.int z6) (.ref h_td) (.ref h_kn) (.int z7) (.int z25) (.int z26) (.int z27) (.long z28)))), (h_by, .inl (cy_by, 600, .inl f_by)), (h_kn, .inl (cy_kn, 8, .inl f8)), (h_td, .inr (5, (mo32 v_td (.ref h_nam) (.ref h_var) (.ref h_trm) (.ref h_ter) (.int z9)))), (h_nam, .inl (cy_nam, 300, .inr (.inl f10))), (h_var, .inl (cy_var, 300, .inl f11)), (h_trm, .inl (cy_trm, 300, .inl f12)), (h_ter, .inl (cy_ter, 900, .inl f_ter))] := hD.sub [6, 7, 1, 2, 3, 4, 5, 0] (by decide) rfl
      refine W.widen (k := 0) (n := 0) (Nat.le_of_ble_eq_true rfl) (Nat.le_of_ble_eq_true rfl) ?_
      have w41 : 0 ≤ ((z7)).toInt ∧ ((z7)).toInt ≤ 8 := by first | exact k13 | omega
      have w42 : 0 ≤ ((z25)).toInt ∧ ((z25)).toInt ≤ 600 := by first | exact k29 | omega
      have w43 : 0 ≤ ((z26)).toInt ∧ ((z26)).toInt ≤ 600 := by first | exact k30 | omega
      have w44 : 0 ≤ ((z9)).toInt ∧ ((z9)).toInt ≤ 300 := by first | exact k14 | omega
      have w45 : 0 ≤ (r4 : Int32).toInt ∧ (r4 : Int32).toInt ≤ 299 := by first | exact k15 | omega
      have w46 : ((z5)).toInt = ((pTm G (x_rd_length).toInt (pPs G (x_rd_length).toInt 3) (x_rd_at).toInt (x_rd_variables).toInt vf)).1 := by omega
      have w47 : ((z25)).toInt = ((pTm G (x_rd_length).toInt (pPs G (x_rd_length).toInt 3) (x_rd_at).toInt (x_rd_variables).toInt vf)).2.1 := by omega
      have w48 : ((z7)).toInt = ((pTm G (x_rd_length).toInt (pPs G (x_rd_length).toInt 3) (x_rd_at).toInt (x_rd_variables).toInt vf)).2.2.1 := by omega
      have w49 : (((z5)).toInt = 0 ∧ ((z6)).toInt = (x_rd_place).toInt) ∨ (¬ ((z5)).toInt = 0 ∧ ((z6)).toInt = ((z25)).toInt) := by omega
      have w50 : 2 * ((z9)).toInt ≤ ((z25)).toInt + 1 := by omega
      have w51 : ((z27)).toInt < 256 ∨ 2 * ((z9)).toInt ≤ ((z25)).toInt := by omega
      have w52 : (x_rd_at).toInt ≤ ((z25)).toInt := by omega
      have w53 : ((z27)).toInt = tkT G (x_rd_length).toInt ((z25)).toInt := by first | exact k33 | omega
      have w54 : ((z27)).toInt = -1 ∨ ((z26)).toInt = tkX G (x_rd_length).toInt ((z25)).toInt := by first | exact k34 | omega
      have w55 : ¬ ((z27)).toInt = 257 ∨ ((z28)).toInt = G ((z25)).toInt := by first | exact k35 | omega
      have w56 : -1 ≤ ((z27)).toInt ∧ ((z27)).toInt ≤ 258 := by first | exact k36 | omega
      have w57 : ((z26)).toInt ≤ (x_rd_length).toInt := by first | exact k37 | omega
      have w58 : ((z27)).toInt = -1 ∨ ((z25)).toInt < (x_rd_length).toInt := by first | exact k38 | omega
      have w59 : ((z25)).toInt ≤ (x_rd_length).toInt := by first | exact k39 | omega
      have w60 : VFC ((z7)).toInt ((pTm G (x_rd_length).toInt (pPs G (x_rd_length).toInt 3) (x_rd_at).toInt (x_rd_variables).toInt vf)).2.2.2 (f8) (f10) ((z9)).toInt := (by rw [pq214]; exact k20)
      exact W.iret (v := r4) hx hb hr (fun t ht hW => ⟨⟨r4, (z5, z6, z7, z25, z26, z27, z28, f8, z9, f10, f11, f12, f_ter), rfl, ⟨w41, w42, w43, hf8, w44, hf11, hf12, hf_ter, w45, w46, w47, w48, w49, w50, w51, w52, w53, w54, w55, w56, w57, w58, w59, w60⟩, by rw [ht]; exact hP, hD⟩, hS.F ht⟩) hS.2.2 dX5_readPart_67
    · have kc22 := (not_congr (cv_eq (rfl : (z5).toInt = (z5).toInt) (by decide : (0 : Int32).toInt = 0))).mp c22
      refine lv_iload_n hx hb dX5_readPart_47 rfl (lv_at hl 0 rfl) ?_
      replace hP : va_P (dC, dI) cls [(h_rd, .inr (4, (mo31 (.ref h_by) (.int x_rd_length) (.int z5) (.int z6) (.ref h_td) (.ref h_kn) (.int z7) (.int x_rd_at) (.int x_rd_behind) (.int x_rd_token) (.long x_rd_letters)))), (h_by, .inl (cy_by, 600, .inl f_by)), (h_kn, .inl (cy_kn, 8, .inl f8)), (h_td, .inr (5, (mo32 v_td (.ref h_nam) (.ref h_var) (.ref h_trm) (.ref h_ter) (.int z9)))), (h_nam, .inl (cy_nam, 300, .inr (.inl f10))), (h_var, .inl (cy_var, 300, .inl f11)), (h_trm, .inl (cy_trm, 300, .inl f12)), (h_ter, .inl (cy_ter, 900, .inl f_ter))] H := hP.sub [2, 0, 3, 4, 5, 6, 7, 1] rfl
      replace hD : va_D A [(h_rd, .inr (4, (mo31 (.ref h_by) (.int x_rd_length) (.int z5) (.int z6) (.ref h_td) (.ref h_kn) (.int z7) (.int x_rd_at) (.int x_rd_behind) (.int x_rd_token) (.long x_rd_letters)))), (h_by, .inl (cy_by, 600, .inl f_by)), (h_kn, .inl (cy_kn, 8, .inl f8)), (h_td, .inr (5, (mo32 v_td (.ref h_nam) (.ref h_var) (.ref h_trm) (.ref h_ter) (.int z9)))), (h_nam, .inl (cy_nam, 300, .inr (.inl f10))), (h_var, .inl (cy_var, 300, .inl f11)), (h_trm, .inl (cy_trm, 300, .inl f12)), (h_ter, .inl (cy_ter, 900, .inl f_ter))] := hD.sub [2, 0, 3, 4, 5, 6, 7, 1] (by decide) rfl
      refine W.widen (k := 0) (n := 0) (Nat.le_of_ble_eq_true rfl) (Nat.le_of_ble_eq_true rfl) ?_
      have w61 : 0 ≤ ((z7)).toInt ∧ ((z7)).toInt ≤ 8 := by first | exact k13 | omega
      have w62 : 0 ≤ ((x_rd_at)).toInt ∧ ((x_rd_at)).toInt ≤ 600 := by first | exact hx_rd_at | omega
      have w63 : 0 ≤ ((x_rd_behind)).toInt ∧ ((x_rd_behind)).toInt ≤ 600 := by first | exact hx_rd_behind | omega
      have w64 : 0 ≤ ((z9)).toInt ∧ ((z9)).toInt ≤ 300 := by first | exact k14 | omega
      have w65 : 0 ≤ (r4 : Int32).toInt ∧ (r4 : Int32).toInt ≤ 299 := by first | exact k15 | omega
      have w66 : ((z5)).toInt = ((pTm G (x_rd_length).toInt (pPs G (x_rd_length).toInt 3) (x_rd_at).toInt (x_rd_variables).toInt vf)).1 := by omega
      have w67 : ((x_rd_at)).toInt = ((pTm G (x_rd_length).toInt (pPs G (x_rd_length).toInt 3) (x_rd_at).toInt (x_rd_variables).toInt vf)).2.1 := by omega
      have w68 : ((z7)).toInt = ((pTm G (x_rd_length).toInt (pPs G (x_rd_length).toInt 3) (x_rd_at).toInt (x_rd_variables).toInt vf)).2.2.1 := by omega
      have w69 : (((z5)).toInt = 0 ∧ ((z6)).toInt = (x_rd_place).toInt) ∨ (¬ ((z5)).toInt = 0 ∧ ((z6)).toInt = ((x_rd_at)).toInt) := by omega
      have w70 : 2 * ((z9)).toInt ≤ ((x_rd_at)).toInt + 1 := by omega
      have w71 : ((x_rd_token)).toInt < 256 ∨ 2 * ((z9)).toInt ≤ ((x_rd_at)).toInt := by omega
      have w72 : (x_rd_at).toInt ≤ ((x_rd_at)).toInt := by omega
      have w73 : ((x_rd_token)).toInt = tkT G (x_rd_length).toInt ((x_rd_at)).toInt := by first | exact q0 | omega
      have w74 : ((x_rd_token)).toInt = -1 ∨ ((x_rd_behind)).toInt = tkX G (x_rd_length).toInt ((x_rd_at)).toInt := by omega
      have w75 : ¬ ((x_rd_token)).toInt = 257 ∨ ((x_rd_letters)).toInt = G ((x_rd_at)).toInt := by first | exact q3 | omega
      have w76 : -1 ≤ ((x_rd_token)).toInt ∧ ((x_rd_token)).toInt ≤ 258 := by omega
      have w77 : ((x_rd_behind)).toInt ≤ (x_rd_length).toInt := by first | exact q7 | omega
      have w78 : ((x_rd_token)).toInt = -1 ∨ ((x_rd_at)).toInt < (x_rd_length).toInt := by omega
      have w79 : ((x_rd_at)).toInt ≤ (x_rd_length).toInt := by omega
      have w80 : VFC ((z7)).toInt ((pTm G (x_rd_length).toInt (pPs G (x_rd_length).toInt 3) (x_rd_at).toInt (x_rd_variables).toInt vf)).2.2.2 (f8) (f10) ((z9)).toInt := (by rw [pq214]; exact k20)
      exact W.iret (v := r4) hx hb hr (fun t ht hW => ⟨⟨r4, (z5, z6, z7, x_rd_at, x_rd_behind, x_rd_token, x_rd_letters, f8, z9, f10, f11, f12, f_ter), rfl, ⟨w61, w62, w63, hf8, w64, hf11, hf12, hf_ter, w65, w66, w67, w68, w69, w70, w71, w72, w73, w74, w75, w76, w77, w78, w79, w80⟩, by rw [ht]; exact hP, hD⟩, hS.F ht⟩) hS.2.2 dX5_readPart_48
  · have kc1 := (cv_eq (rfl : (x_rd_token).toInt = (x_rd_token).toInt) (by decide : (256 : Int32).toInt = 256)).mp c1
    refine lv_iconst (v := 1) hx hb dX5_readPart_10 (by decide) ?_
    refine lv_goto (tgt := 15) hx hb dX5_readPart_11 (by decide) ?_
    refine lv_istore_n (lv' := [(2, .int 1), (0, .ref h_rd), (1, .int 3)]) hx hb dX5_readPart_15 rfl hl (by decide) rfl (fun ls hl => ?_)
    refine lv_iload_n hx hb dX5_readPart_16 rfl (lv_at hl 0 rfl) ?_
    refine lv_if_eq (tgt := 35) hx hb dX5_readPart_17 (by decide) (fun c9 => absurd c9 (by decide)) (fun _ => ?_)
    refine lv_aload_n hx hb dX5_readPart_20 rfl (lv_at hl 1 rfl) ?_
    refine va_get (D := (dC, dI)) (ci := 4) (v := .ref h_td) (C := RX5) (T := TX5) (N := 11) hx hb hw iwX5 hown hK hP 0 rfl rfl 4 (by decide) (hw _ w_f_X5_25) (fun _ h9 => h9) rfl dX5_readPart_21 ?_
    refine lv_aload_n hx hb dX5_readPart_24 rfl (lv_at hl 1 rfl) ?_
    refine va_get (D := (dC, dI)) (ci := 4) (v := .long x_rd_letters) (C := RX5) (T := TX5) (N := 11) hx hb hw iwX5 hown hK hP 0 rfl rfl 10 (by decide) (hw _ w_f_X5_85) (fun _ h9 => h9) rfl dX5_readPart_25 ?_
    refine lv_iconst (v := (-1)) hx hb dX5_readPart_28 (by decide) ?_
    obtain ⟨vq81, evq81⟩ := mq32_24 v_td (.ref h_ter)
    replace hP : va_P (dC, dI) cls [(h_rd, .inr (4, (mo31 (.ref h_by) (.int x_rd_length) (.int x_rd_fault) (.int x_rd_place) (.ref h_td) (.ref h_kn) (.int x_rd_variables) (.int x_rd_at) (.int x_rd_behind) (.int x_rd_token) (.long x_rd_letters)))), (h_by, .inl (cy_by, 600, .inl f_by)), (h_kn, .inl (cy_kn, 8, .inl f_kn)), (h_td, .inr (5, (mo24 vq81 (.ref h_nam) (.ref h_var) (.ref h_trm) (.int x_td_parts)))), (h_nam, .inl (cy_nam, 300, .inr (.inl f_nam))), (h_var, .inl (cy_var, 300, .inl f_var)), (h_trm, .inl (cy_trm, 300, .inl f_trm)), (h_ter, .inl (cy_ter, 900, .inl f_ter))] s.heap := by rw [evq81]; exact hP
    replace hD : va_D A [(h_rd, .inr (4, (mo31 (.ref h_by) (.int x_rd_length) (.int x_rd_fault) (.int x_rd_place) (.ref h_td) (.ref h_kn) (.int x_rd_variables) (.int x_rd_at) (.int x_rd_behind) (.int x_rd_token) (.long x_rd_letters)))), (h_by, .inl (cy_by, 600, .inl f_by)), (h_kn, .inl (cy_kn, 8, .inl f_kn)), (h_td, .inr (5, (mo24 vq81 (.ref h_nam) (.ref h_var) (.ref h_trm) (.int x_td_parts)))), (h_nam, .inl (cy_nam, 300, .inr (.inl f_nam))), (h_var, .inl (cy_var, 300, .inl f_var)), (h_trm, .inl (cy_trm, 300, .inl f_trm)), (h_ter, .inl (cy_ter, 900, .inl f_ter))] := by rw [evq81]; exact hD
    have cstm1 : ((-1) : Int32).toInt = -1 := by decide
    have hPc := hP.sub (ws' := [(h_td, .inr (5, (mo24 vq81 (.ref h_nam) (.ref h_var) (.ref h_trm) (.int x_td_parts)))), (h_nam, .inl (cy_nam, 300, .inr (.inl f_nam))), (h_var, .inl (cy_var, 300, .inl f_var)), (h_trm, .inl (cy_trm, 300, .inl f_trm))]) [3, 4, 5, 6] rfl
    have hDc := hD.sub (ws' := [(h_td, .inr (5, (mo24 vq81 (.ref h_nam) (.ref h_var) (.ref h_trm) (.int x_td_parts)))), (h_nam, .inl (cy_nam, 300, .inr (.inl f_nam))), (h_var, .inl (cy_var, 300, .inl f_var)), (h_trm, .inl (cy_trm, 300, .inl f_trm))]) [3, 4, 5, 6] (by decide) rfl
    have hKc := hK.sub (tys' := [(cy_nam, .long), (cy_var, .int), (cy_trm, .int)]) [2, 3, 4] rfl
    have hFc := va_free (wc := [(h_td, .inr (5, (mo24 vq81 (.ref h_nam) (.ref h_var) (.ref h_trm) (.int x_td_parts)))), (h_nam, .inl (cy_nam, 300, .inr (.inl f_nam))), (h_var, .inl (cy_var, 300, .inl f_var)), (h_trm, .inl (cy_trm, 300, .inl f_trm))]) hD hS hA [3, 4, 5, 6] rfl
    refine va_calli (va_runVN (As := [.long x_rd_letters, .int (-1)]) (rest := []) ⟨hx, hb, hml, hown, hts⟩ (c_X8_add l dC dI s.heap.size h_td h_nam h_var h_trm vq81 x_td_parts cy_nam f_nam cy_var f_var cy_trm f_trm x_rd_letters (-1) (by first | exact hx_td_parts | omega) hf_var hf_trm (by omega) (by omega)) ⟨va_cnB (host := "OppositePairs") 2 hts (gd hT w_code_X8_add) rfl rfl rfl (hN _ n_m_X5_89) (hw _ w_ini_X8) (by decide +kernel) ⟨(Nat.le_of_ble_eq_true rfl), (Nat.le_of_ble_eq_true rfl)⟩, hw _ w_instanceMethod_X8_add, hw _ ws_sel_X8_add⟩ ⟨pre_blind, va_recv hK hP (ci := 5) (q0 := 3) rfl rfl, pre_of hPc hKc hDc hN⟩ rfl rfl hl.1 rfl (lv_room (Nat.le_of_ble_eq_true rfl)) dX5_readPart_29 ⟨(Nat.le_of_ble_eq_true rfl), (Nat.le_of_ble_eq_true rfl)⟩) hS (fun q _ h => hFc q h) hFc (fun r82 u t H locs ht hvm hq hB hz1 hk1 hS9 => ?_)
    obtain ⟨z83, f84, f85, f86⟩ := u
    obtain ⟨hP1, hD1⟩ := hB
    rw [ht] at hP1
    obtain ⟨hP9, hD9⟩ := va_join (wr := [(h_rd, .inr (4, (mo31 (.ref h_by) (.int x_rd_length) (.int x_rd_fault) (.int x_rd_place) (.ref h_td) (.ref h_kn) (.int x_rd_variables) (.int x_rd_at) (.int x_rd_behind) (.int x_rd_token) (.long x_rd_letters)))), (h_by, .inl (cy_by, 600, .inl f_by)), (h_kn, .inl (cy_kn, 8, .inl f_kn)), (h_ter, .inl (cy_ter, 900, .inl f_ter))]) (w1 := [(h_td, .inr (5, (mo24 vq81 (.ref h_nam) (.ref h_var) (.ref h_trm) (.int z83)))), (h_nam, .inl (cy_nam, 300, .inr (.inl f84))), (h_var, .inl (cy_var, 300, .inl f85)), (h_trm, .inl (cy_trm, 300, .inl f86))]) hP hD [3, 4, 5, 6] [0, 1, 2, 7] rfl rfl (by decide) (by decide) hk1 hFc hP1 hD1
    clear hP hD hS hPc hDc hKc hFc hP1 hD1 hk1 hz1 ht hvm
    have hP : va_P (dC, dI) cls [(h_rd, .inr (4, (mo31 (.ref h_by) (.int x_rd_length) (.int x_rd_fault) (.int x_rd_place) (.ref h_td) (.ref h_kn) (.int x_rd_variables) (.int x_rd_at) (.int x_rd_behind) (.int x_rd_token) (.long x_rd_letters)))), (h_by, .inl (cy_by, 600, .inl f_by)), (h_kn, .inl (cy_kn, 8, .inl f_kn)), (h_ter, .inl (cy_ter, 900, .inl f_ter)), (h_td, .inr (5, (mo24 vq81 (.ref h_nam) (.ref h_var) (.ref h_trm) (.int z83)))), (h_nam, .inl (cy_nam, 300, .inr (.inl f84))), (h_var, .inl (cy_var, 300, .inl f85)), (h_trm, .inl (cy_trm, 300, .inl f86))] H := hP9
    have hD : va_D A [(h_rd, .inr (4, (mo31 (.ref h_by) (.int x_rd_length) (.int x_rd_fault) (.int x_rd_place) (.ref h_td) (.ref h_kn) (.int x_rd_variables) (.int x_rd_at) (.int x_rd_behind) (.int x_rd_token) (.long x_rd_letters)))), (h_by, .inl (cy_by, 600, .inl f_by)), (h_kn, .inl (cy_kn, 8, .inl f_kn)), (h_ter, .inl (cy_ter, 900, .inl f_ter)), (h_td, .inr (5, (mo24 vq81 (.ref h_nam) (.ref h_var) (.ref h_trm) (.int z83)))), (h_nam, .inl (cy_nam, 300, .inr (.inl f84))), (h_var, .inl (cy_var, 300, .inl f85)), (h_trm, .inl (cy_trm, 300, .inl f86))] := hD9
    have hS := hS9
    clear hP9 hD9 hS9
    rw [evq81] at hP hD
    replace hP : va_P (dC, dI) cls [(h_rd, .inr (4, (mo31 (.ref h_by) (.int x_rd_length) (.int x_rd_fault) (.int x_rd_place) (.ref h_td) (.ref h_kn) (.int x_rd_variables) (.int x_rd_at) (.int x_rd_behind) (.int x_rd_token) (.long x_rd_letters)))), (h_by, .inl (cy_by, 600, .inl f_by)), (h_kn, .inl (cy_kn, 8, .inl f_kn)), (h_ter, .inl (cy_ter, 900, .inl f_ter)), (h_td, .inr (5, (mo32 v_td (.ref h_nam) (.ref h_var) (.ref h_trm) (.ref h_ter) (.int z83)))), (h_nam, .inl (cy_nam, 300, .inr (.inl f84))), (h_var, .inl (cy_var, 300, .inl f85)), (h_trm, .inl (cy_trm, 300, .inl f86))] H := hP
    replace hD : va_D A [(h_rd, .inr (4, (mo31 (.ref h_by) (.int x_rd_length) (.int x_rd_fault) (.int x_rd_place) (.ref h_td) (.ref h_kn) (.int x_rd_variables) (.int x_rd_at) (.int x_rd_behind) (.int x_rd_token) (.long x_rd_letters)))), (h_by, .inl (cy_by, 600, .inl f_by)), (h_kn, .inl (cy_kn, 8, .inl f_kn)), (h_ter, .inl (cy_ter, 900, .inl f_ter)), (h_td, .inr (5, (mo32 v_td (.ref h_nam) (.ref h_var) (.ref h_trm) (.ref h_ter) (.int z83)))), (h_nam, .inl (cy_nam, 300, .inr (.inl f84))), (h_var, .inl (cy_var, 300, .inl f85)), (h_trm, .inl (cy_trm, 300, .inl f86))] := hD
    clear evq81 
    obtain ⟨k87, hf85, hf86, k88, k89, k90, k91⟩ := hq
    replace k87 : 0 ≤ ((z83)).toInt ∧ ((z83)).toInt ≤ 300 := k87
    replace hf85 : Rg (-1) 7 (f85) := hf85
    replace hf86 : Rg 0 3 (f86) := hf86
    replace k88 : 0 ≤ (r82).toInt ∧ (r82).toInt ≤ 299 := k88
    replace k89 : ((r82)).toInt = ((x_td_parts)).toInt := k89
    replace k90 : ((z83)).toInt = ((x_td_parts)).toInt + 1 := k90
    replace k91 : (f84) = vp_updL f_nam (Int32.toNatClampNeg (r82)) (x_rd_letters) := k91
    have vf92 : VFC (x_rd_variables).toInt vf f_kn f84 (z83).toInt := vfc_nam hn_vfc (by omega) (by omega) k91 (by omega) rfl
    refine lv_goto (tgt := 39) hx hb dX5_readPart_32 (by decide) ?_
    refine lv_istore_n (lv' := [(3, .int r82), (2, .int 1), (0, .ref h_rd), (1, .int 3)]) hx hb dX5_readPart_39 rfl hl (by decide) rfl (fun ls hl => ?_)
    refine lv_aload_n hx hb dX5_readPart_40 rfl (lv_at hl 2 rfl) ?_
    refine va_get (D := (dC, dI)) (ci := 4) (v := .int x_rd_fault) (C := RX5) (T := TX5) (N := 11) hx hb hw iwX5 hown hK hP 0 rfl rfl 2 (by decide) (hw _ w_f_X5_34) (fun _ h9 => h9) rfl dX5_readPart_41 ?_
    refine lv_if_eq (tgt := 49) hx hb dX5_readPart_44 (by decide) (fun _ => ?_) (fun c93 => False.elim (by have kc93 := (not_congr (cv_eq (rfl : (x_rd_fault).toInt = (x_rd_fault).toInt) (by decide : (0 : Int32).toInt = 0))).mp c93; omega))
    refine lv_aload_n hx hb dX5_readPart_49 rfl (lv_at hl 2 rfl) ?_
    obtain ⟨vq94, evq94⟩ := mq31_29 (.int x_rd_fault) (.int x_rd_place) (.ref h_td) (.ref h_kn) (.int x_rd_variables)
    replace hP : va_P (dC, dI) cls [(h_rd, .inr (4, (mo29 vq94 (.ref h_by) (.int x_rd_length) (.int x_rd_at) (.int x_rd_behind) (.int x_rd_token) (.long x_rd_letters)))), (h_by, .inl (cy_by, 600, .inl f_by)), (h_kn, .inl (cy_kn, 8, .inl f_kn)), (h_ter, .inl (cy_ter, 900, .inl f_ter)), (h_td, .inr (5, (mo32 v_td (.ref h_nam) (.ref h_var) (.ref h_trm) (.ref h_ter) (.int z83)))), (h_nam, .inl (cy_nam, 300, .inr (.inl f84))), (h_var, .inl (cy_var, 300, .inl f85)), (h_trm, .inl (cy_trm, 300, .inl f86))] H := by rw [evq94]; exact hP
    replace hD : va_D A [(h_rd, .inr (4, (mo29 vq94 (.ref h_by) (.int x_rd_length) (.int x_rd_at) (.int x_rd_behind) (.int x_rd_token) (.long x_rd_letters)))), (h_by, .inl (cy_by, 600, .inl f_by)), (h_kn, .inl (cy_kn, 8, .inl f_kn)), (h_ter, .inl (cy_ter, 900, .inl f_ter)), (h_td, .inr (5, (mo32 v_td (.ref h_nam) (.ref h_var) (.ref h_trm) (.ref h_ter) (.int z83)))), (h_nam, .inl (cy_nam, 300, .inr (.inl f84))), (h_var, .inl (cy_var, 300, .inl f85)), (h_trm, .inl (cy_trm, 300, .inl f86))] := by rw [evq94]; exact hD
    have hPc := hP.sub (ws' := [(h_rd, .inr (4, (mo29 vq94 (.ref h_by) (.int x_rd_length) (.int x_rd_at) (.int x_rd_behind) (.int x_rd_token) (.long x_rd_letters)))), (h_by, .inl (cy_by, 600, .inl f_by))]) [0, 1] rfl
    have hDc := hD.sub (ws' := [(h_rd, .inr (4, (mo29 vq94 (.ref h_by) (.int x_rd_length) (.int x_rd_at) (.int x_rd_behind) (.int x_rd_token) (.long x_rd_letters)))), (h_by, .inl (cy_by, 600, .inl f_by))]) [0, 1] (by decide) rfl
    have hKc := hK.sub (tys' := [(cy_by, .int)]) [0] rfl
    have hFc := va_free (wc := [(h_rd, .inr (4, (mo29 vq94 (.ref h_by) (.int x_rd_length) (.int x_rd_at) (.int x_rd_behind) (.int x_rd_token) (.long x_rd_letters)))), (h_by, .inl (cy_by, 600, .inl f_by))]) hD hS hA [0, 1] rfl
    refine va_callv (va_runV (As := []) (rest := []) ⟨hx, hb, hml, hown, hts⟩ (c_X5_nextToken l dC dI H.size h_rd h_by vq94 x_rd_length x_rd_at x_rd_behind x_rd_token x_rd_letters cy_by f_by G (by first | exact hx_rd_length | omega) (by first | exact hx_rd_at | omega) (by first | exact hx_rd_behind | omega) hf_by (by first | exact q7 | omega) hn_byt) (cwV 0 hts (gv hT w_m_X5_40 w_instanceMethod_X5_nextToken ws_sel_X5_nextToken w_ini_X5 w_code_X5_nextToken) rfl rfl rfl (by decide +kernel) ⟨(Nat.le_of_ble_eq_true rfl), (Nat.le_of_ble_eq_true rfl)⟩) ⟨pre_blind, va_recv hK hP (ci := 4) (q0 := 0) rfl rfl, pre_of hPc hKc hDc hN⟩ rfl rfl hl.1 rfl (lv_room (Nat.le_of_ble_eq_true rfl)) dX5_readPart_50 ⟨(Nat.le_of_ble_eq_true rfl), (Nat.le_of_ble_eq_true rfl)⟩) hS (fun q _ h => hFc q h) hFc (fun u t H locs ht hvm hq hB hz1 hk1 hS9 => ?_)
    obtain ⟨z96, z97, z98, z99⟩ := u
    obtain ⟨hP1, hD1⟩ := hB
    rw [ht] at hP1
    obtain ⟨hP9, hD9⟩ := va_join (wr := [(h_kn, .inl (cy_kn, 8, .inl f_kn)), (h_ter, .inl (cy_ter, 900, .inl f_ter)), (h_td, .inr (5, (mo32 v_td (.ref h_nam) (.ref h_var) (.ref h_trm) (.ref h_ter) (.int z83)))), (h_nam, .inl (cy_nam, 300, .inr (.inl f84))), (h_var, .inl (cy_var, 300, .inl f85)), (h_trm, .inl (cy_trm, 300, .inl f86))]) (w1 := [(h_rd, .inr (4, (mo29 vq94 (.ref h_by) (.int x_rd_length) (.int z96) (.int z97) (.int z98) (.long z99)))), (h_by, .inl (cy_by, 600, .inl f_by))]) hP hD [0, 1] [2, 3, 4, 5, 6, 7] rfl rfl (by decide) (by decide) hk1 hFc hP1 hD1
    clear hP hD hS hPc hDc hKc hFc hP1 hD1 hk1 hz1 ht hvm
    have hP : va_P (dC, dI) cls [(h_kn, .inl (cy_kn, 8, .inl f_kn)), (h_ter, .inl (cy_ter, 900, .inl f_ter)), (h_td, .inr (5, (mo32 v_td (.ref h_nam) (.ref h_var) (.ref h_trm) (.ref h_ter) (.int z83)))), (h_nam, .inl (cy_nam, 300, .inr (.inl f84))), (h_var, .inl (cy_var, 300, .inl f85)), (h_trm, .inl (cy_trm, 300, .inl f86)), (h_rd, .inr (4, (mo29 vq94 (.ref h_by) (.int x_rd_length) (.int z96) (.int z97) (.int z98) (.long z99)))), (h_by, .inl (cy_by, 600, .inl f_by))] H := hP9
    have hD : va_D A [(h_kn, .inl (cy_kn, 8, .inl f_kn)), (h_ter, .inl (cy_ter, 900, .inl f_ter)), (h_td, .inr (5, (mo32 v_td (.ref h_nam) (.ref h_var) (.ref h_trm) (.ref h_ter) (.int z83)))), (h_nam, .inl (cy_nam, 300, .inr (.inl f84))), (h_var, .inl (cy_var, 300, .inl f85)), (h_trm, .inl (cy_trm, 300, .inl f86)), (h_rd, .inr (4, (mo29 vq94 (.ref h_by) (.int x_rd_length) (.int z96) (.int z97) (.int z98) (.long z99)))), (h_by, .inl (cy_by, 600, .inl f_by))] := hD9
    have hS := hS9
    clear hP9 hD9 hS9
    rw [evq94] at hP hD
    replace hP : va_P (dC, dI) cls [(h_kn, .inl (cy_kn, 8, .inl f_kn)), (h_ter, .inl (cy_ter, 900, .inl f_ter)), (h_td, .inr (5, (mo32 v_td (.ref h_nam) (.ref h_var) (.ref h_trm) (.ref h_ter) (.int z83)))), (h_nam, .inl (cy_nam, 300, .inr (.inl f84))), (h_var, .inl (cy_var, 300, .inl f85)), (h_trm, .inl (cy_trm, 300, .inl f86)), (h_rd, .inr (4, (mo31 (.ref h_by) (.int x_rd_length) (.int x_rd_fault) (.int x_rd_place) (.ref h_td) (.ref h_kn) (.int x_rd_variables) (.int z96) (.int z97) (.int z98) (.long z99)))), (h_by, .inl (cy_by, 600, .inl f_by))] H := hP
    replace hD : va_D A [(h_kn, .inl (cy_kn, 8, .inl f_kn)), (h_ter, .inl (cy_ter, 900, .inl f_ter)), (h_td, .inr (5, (mo32 v_td (.ref h_nam) (.ref h_var) (.ref h_trm) (.ref h_ter) (.int z83)))), (h_nam, .inl (cy_nam, 300, .inr (.inl f84))), (h_var, .inl (cy_var, 300, .inl f85)), (h_trm, .inl (cy_trm, 300, .inl f86)), (h_rd, .inr (4, (mo31 (.ref h_by) (.int x_rd_length) (.int x_rd_fault) (.int x_rd_place) (.ref h_td) (.ref h_kn) (.int x_rd_variables) (.int z96) (.int z97) (.int z98) (.long z99)))), (h_by, .inl (cy_by, 600, .inl f_by))] := hD
    clear evq94 
    obtain ⟨k100, k101, k102, k103, k104, k105, k106, k107, k108, k109, k110⟩ := hq
    replace k100 : 0 ≤ ((z96)).toInt ∧ ((z96)).toInt ≤ 600 := k100
    replace k101 : 0 ≤ ((z97)).toInt ∧ ((z97)).toInt ≤ 600 := k101
    replace k102 : ((z96)).toInt = tkS (G) ((x_rd_length)).toInt ((x_rd_behind)).toInt := k102
    replace k103 : ((x_rd_behind)).toInt ≤ ((z96)).toInt := k103
    replace k104 : ((z98)).toInt = tkT (G) ((x_rd_length)).toInt ((z96)).toInt := k104
    replace k105 : ((z98)).toInt = -1 ∨ ((z97)).toInt = tkX (G) ((x_rd_length)).toInt ((z96)).toInt := k105
    replace k106 : ¬ ((z98)).toInt = 257 ∨ ((z99)).toInt = (G) ((z96)).toInt := k106
    replace k107 : -1 ≤ ((z98)).toInt ∧ ((z98)).toInt ≤ 258 := k107
    replace k108 : ((z97)).toInt ≤ ((x_rd_length)).toInt := k108
    replace k109 : ((z98)).toInt = -1 ∨ ((z96)).toInt < ((x_rd_length)).toInt := k109
    replace k110 : ((z96)).toInt ≤ ((x_rd_length)).toInt := k110
    have tn111b : (x_rd_behind).toInt = tkX G (x_rd_length).toInt (x_rd_at).toInt := by omega
    have tn111 : (z96).toInt = tkN G (x_rd_length).toInt (x_rd_at).toInt := by rw [k102, tn111b]; rfl
    have tn111t : (z98).toInt = tkT G (x_rd_length).toInt (tkN G (x_rd_length).toInt (x_rd_at).toInt) := by rw [← tn111]; exact k104
    have tn111g := tkN_gt (G := G) (n := (x_rd_length).toInt) (a := (x_rd_at).toInt) (by omega) (by omega) (by omega)
    have tw9 := nx_two (G := G) (n := (x_rd_length).toInt) hn_byt.1 (by omega) (by omega) q0 (by omega) tn111 k104
    refine lv_iload_n hx hb dX5_readPart_53 rfl (lv_at hl 1 rfl) ?_
    refine lv_if_eq (tgt := 66) hx hb dX5_readPart_54 (by decide) (fun c9 => absurd c9 (by decide)) (fun _ => ?_)
    refine lv_aload_n hx hb dX5_readPart_57 rfl (lv_at hl 2 rfl) ?_
    refine va_get (D := (dC, dI)) (ci := 4) (v := .int z98) (C := RX5) (T := TX5) (N := 11) hx hb hw iwX5 hown hK hP 6 rfl rfl 9 (by decide) (hw _ w_f_X5_43) (fun _ h9 => h9) rfl dX5_readPart_58 ?_
    refine lv_bipush (v := 40) hx hb dX5_readPart_61 (by decide) ?_
    refine lv_icmp_eq (tgt := 68) hx hb dX5_readPart_63 (by decide) (fun c112 => ?_) (fun c112 => ?_)
    · have kc112 := (cv_eq (rfl : (z98).toInt = (z98).toInt) (by decide : (40 : Int32).toInt = 40)).mp c112
      refine lv_iload_n hx hb dX5_readPart_68 rfl (lv_at hl 3 rfl) ?_
      refine lv_bipush (v := 6) hx hb dX5_readPart_69 (by decide) ?_
      refine lv_icmp_lt (tgt := 81) hx hb dX5_readPart_71 (by decide) (fun _ => ?_) (fun c9 => absurd c9 (by decide))
      have lo0 : pLo G (x_rd_length).toInt (pPs G (x_rd_length).toInt 2) 3 (z96).toInt (x_rd_variables).toInt vf = (pTm G (x_rd_length).toInt (pPs G (x_rd_length).toInt 3) (x_rd_at).toInt (x_rd_variables).toInt vf) := by rw [tn111]; exact ((pTm_name (by omega)).trans (pPs_open (by omega))).symm
      refine lv_iconst (v := 0) hx hb dX5_readPart_81 (by decide) ?_
      refine lv_istore (lv' := [(4, .int 0), (3, .int r82), (2, .int 1), (0, .ref h_rd), (1, .int 3)]) hx hb dX5_readPart_82 hl (by decide) rfl (fun ls hl => ?_)
      have lp129 : ∀ (n : Nat) (x113 : Int32) (f114 : Nat → Int32) (f115 : Nat → Int32) (x116 : Int32) (f117 : Nat → Int64) (f118 : Nat → Int32) (f119 : Nat → Int32) (x120 : Int32) (x121 : Int32) (x122 : Int32) (x123 : Int32) (x124 : Int32) (x125 : Int32) (x126 : Int64) (gh127 : Nat) (gh128 : Int → Int) (H : Heap) (locs : List Loc) (ls : Array Slot), (0 ≤ (x113).toInt ∧ (x113).toInt ≤ 3) → (Rg 0 299 f114) → (Rg 0 299 f115) → (0 ≤ (x116).toInt ∧ (x116).toInt ≤ 300) → (Rg (-1) 7 f118) → (Rg 0 3 f119) → (0 ≤ (x122).toInt ∧ (x122).toInt ≤ 8) → (0 ≤ (x123).toInt ∧ (x123).toInt ≤ 600) → (0 ≤ (x124).toInt ∧ (x124).toInt ≤ 600) → ((x125).toInt = tkT G (x_rd_length).toInt (x123).toInt) → ((x124).toInt = tkX G (x_rd_length).toInt (x123).toInt) → ((x125).toInt = 40 ∨ (x125).toInt = 44) → (2 * (x116).toInt ≤ (x123).toInt + 1) → ((x123).toInt < (x_rd_length).toInt) → ((x124).toInt ≤ (x_rd_length).toInt) → ((x_rd_at).toInt ≤ (x123).toInt) → ((x120).toInt = 0) → ((x121).toInt = (x_rd_place).toInt) → ((gh127 : Int) = 3 - (x113).toInt) → (pLo G (x_rd_length).toInt (pPs G (x_rd_length).toInt 2) gh127 (x123).toInt (x122).toInt gh128 = (pTm G (x_rd_length).toInt (pPs G (x_rd_length).toInt 3) (x_rd_at).toInt (x_rd_variables).toInt vf)) → (VFC (x122).toInt gh128 f114 f117 (x116).toInt) → (4 - (x113).toInt).toNat + 1 ≤ n → va_P (dC, dI) cls [(h_kn, .inl (cy_kn, 8, .inl f114)), (h_ter, .inl (cy_ter, 900, .inl f115)), (h_td, .inr (5, (mo32 v_td (.ref h_nam) (.ref h_var) (.ref h_trm) (.ref h_ter) (.int x116)))), (h_nam, .inl (cy_nam, 300, .inr (.inl f117))), (h_var, .inl (cy_var, 300, .inl f118)), (h_trm, .inl (cy_trm, 300, .inl f119)), (h_rd, .inr (4, (mo31 (.ref h_by) (.int x_rd_length) (.int x120) (.int x121) (.ref h_td) (.ref h_kn) (.int x122) (.int x123) (.int x124) (.int x125) (.long x126)))), (h_by, .inl (cy_by, 600, .inl f_by))] H → va_D A [(h_kn, .inl (cy_kn, 8, .inl f114)), (h_ter, .inl (cy_ter, 900, .inl f115)), (h_td, .inr (5, (mo32 v_td (.ref h_nam) (.ref h_var) (.ref h_trm) (.ref h_ter) (.int x116)))), (h_nam, .inl (cy_nam, 300, .inr (.inl f117))), (h_var, .inl (cy_var, 300, .inl f118)), (h_trm, .inl (cy_trm, 300, .inl f119)), (h_rd, .inr (4, (mo31 (.ref h_by) (.int x_rd_length) (.int x120) (.int x121) (.ref h_td) (.ref h_kn) (.int x122) (.int x123) (.int x124) (.int x125) (.long x126)))), (h_by, .inl (cy_by, 600, .inl f_by))] → va_S A s.heap H locs → lv_has ls 5 [(0, .ref h_rd), (1, .int 3), (2, .int 1), (3, .int r82), (4, .int x113)] → W p l e ({ frames := 6, cells := 0, slots := 0, locals := 197 } : Room) s m ([.ref h_rd, .int 3] : List Value).toArray below meth c H locs 0 0 (MQ below (va_Qi (fun (r : Int32) (u : (Int32) × (Int32) × (Int32) × (Int32) × (Int32) × (Int32) × (Int64) × (Nat → Int32) × (Int32) × (Nat → Int64) × (Nat → Int32) × (Nat → Int32) × (Nat → Int32)) => (0 ≤ (u.2.2.1).toInt ∧ (u.2.2.1).toInt ≤ 8) ∧ (0 ≤ (u.2.2.2.1).toInt ∧ (u.2.2.2.1).toInt ≤ 600) ∧ (0 ≤ (u.2.2.2.2.1).toInt ∧ (u.2.2.2.2.1).toInt ≤ 600) ∧ (Rg 0 299 u.2.2.2.2.2.2.2.1) ∧ (0 ≤ (u.2.2.2.2.2.2.2.2.1).toInt ∧ (u.2.2.2.2.2.2.2.2.1).toInt ≤ 300) ∧ (Rg (-1) 7 u.2.2.2.2.2.2.2.2.2.2.1) ∧ (Rg 0 3 u.2.2.2.2.2.2.2.2.2.2.2.1) ∧ (Rg 0 299 u.2.2.2.2.2.2.2.2.2.2.2.2) ∧ (0 ≤ r.toInt ∧ r.toInt ≤ 299) ∧ ((u.1).toInt = ((pTm G (x_rd_length).toInt (pPs G (x_rd_length).toInt 3) (x_rd_at).toInt (x_rd_variables).toInt vf)).1) ∧ ((u.2.2.2.1).toInt = ((pTm G (x_rd_length).toInt (pPs G (x_rd_length).toInt 3) (x_rd_at).toInt (x_rd_variables).toInt vf)).2.1) ∧ ((u.2.2.1).toInt = ((pTm G (x_rd_length).toInt (pPs G (x_rd_length).toInt 3) (x_rd_at).toInt (x_rd_variables).toInt vf)).2.2.1) ∧ (((u.1).toInt = 0 ∧ (u.2.1).toInt = (x_rd_place).toInt) ∨ (¬ (u.1).toInt = 0 ∧ (u.2.1).toInt = (u.2.2.2.1).toInt)) ∧ (2 * (u.2.2.2.2.2.2.2.2.1).toInt ≤ (u.2.2.2.1).toInt + 1) ∧ ((u.2.2.2.2.2.1).toInt < 256 ∨ 2 * (u.2.2.2.2.2.2.2.2.1).toInt ≤ (u.2.2.2.1).toInt) ∧ ((x_rd_at).toInt ≤ (u.2.2.2.1).toInt) ∧ ((u.2.2.2.2.2.1).toInt = tkT G (x_rd_length).toInt (u.2.2.2.1).toInt) ∧ ((u.2.2.2.2.2.1).toInt = -1 ∨ (u.2.2.2.2.1).toInt = tkX G (x_rd_length).toInt (u.2.2.2.1).toInt) ∧ (¬ (u.2.2.2.2.2.1).toInt = 257 ∨ (u.2.2.2.2.2.2.1).toInt = G (u.2.2.2.1).toInt) ∧ (-1 ≤ (u.2.2.2.2.2.1).toInt ∧ (u.2.2.2.2.2.1).toInt ≤ 258) ∧ ((u.2.2.2.2.1).toInt ≤ (x_rd_length).toInt) ∧ ((u.2.2.2.2.2.1).toInt = -1 ∨ (u.2.2.2.1).toInt < (x_rd_length).toInt) ∧ ((u.2.2.2.1).toInt ≤ (x_rd_length).toInt) ∧ (VFC (u.2.2.1).toInt ((pTm G (x_rd_length).toInt (pPs G (x_rd_length).toInt 3) (x_rd_at).toInt (x_rd_variables).toInt vf)).2.2.2 u.2.2.2.2.2.2.2.1 u.2.2.2.2.2.2.2.2.2.1 (u.2.2.2.2.2.2.2.2.1).toInt)) (fun (u : (Int32) × (Int32) × (Int32) × (Int32) × (Int32) × (Int32) × (Int64) × (Nat → Int32) × (Int32) × (Nat → Int64) × (Nat → Int32) × (Nat → Int32) × (Nat → Int32)) (t : State) => va_P (dC, dI) cls [(h_rd, .inr (4, (mo31 (.ref h_by) (.int x_rd_length) (.int u.1) (.int u.2.1) (.ref h_td) (.ref h_kn) (.int u.2.2.1) (.int u.2.2.2.1) (.int u.2.2.2.2.1) (.int u.2.2.2.2.2.1) (.long u.2.2.2.2.2.2.1)))), (h_by, .inl (cy_by, 600, .inl f_by)), (h_kn, .inl (cy_kn, 8, .inl u.2.2.2.2.2.2.2.1)), (h_td, .inr (5, (mo32 v_td (.ref h_nam) (.ref h_var) (.ref h_trm) (.ref h_ter) (.int u.2.2.2.2.2.2.2.2.1)))), (h_nam, .inl (cy_nam, 300, .inr (.inl u.2.2.2.2.2.2.2.2.2.1))), (h_var, .inl (cy_var, 300, .inl u.2.2.2.2.2.2.2.2.2.2.1)), (h_trm, .inl (cy_trm, 300, .inl u.2.2.2.2.2.2.2.2.2.2.2.1)), (h_ter, .inl (cy_ter, 900, .inl u.2.2.2.2.2.2.2.2.2.2.2.2))] t.heap ∧ va_D A [(h_rd, .inr (4, (mo31 (.ref h_by) (.int x_rd_length) (.int u.1) (.int u.2.1) (.ref h_td) (.ref h_kn) (.int u.2.2.1) (.int u.2.2.2.1) (.int u.2.2.2.2.1) (.int u.2.2.2.2.2.1) (.long u.2.2.2.2.2.2.1)))), (h_by, .inl (cy_by, 600, .inl f_by)), (h_kn, .inl (cy_kn, 8, .inl u.2.2.2.2.2.2.2.1)), (h_td, .inr (5, (mo32 v_td (.ref h_nam) (.ref h_var) (.ref h_trm) (.ref h_ter) (.int u.2.2.2.2.2.2.2.2.1)))), (h_nam, .inl (cy_nam, 300, .inr (.inl u.2.2.2.2.2.2.2.2.2.1))), (h_var, .inl (cy_var, 300, .inl u.2.2.2.2.2.2.2.2.2.2.1)), (h_trm, .inl (cy_trm, 300, .inl u.2.2.2.2.2.2.2.2.2.2.2.1)), (h_ter, .inl (cy_ter, 900, .inl u.2.2.2.2.2.2.2.2.2.2.2.2))]) A) ([.ref h_rd, .int 3] : List Value).toArray s 0 0 A) (F0 m 84 ls []) := by
        clear hP hD hS hl
        intro n
        induction n with
        | zero => intro x113 f114 f115 x116 f117 f118 f119 x120 x121 x122 x123 x124 x125 x126 gh127 gh128 H locs ls klp129_0 hf114 hf115 klp129_3 hf118 hf119 klp129_6 klp129_7 klp129_8 klp129_9 klp129_10 klp129_11 klp129_12 klp129_13 klp129_14 klp129_15 klp129_16 klp129_17 klp129_18 klp129_19 klp129_20 hm hP hD hS hl; exact False.elim (by omega)
        | succ n ih => 
          intro x113 f114 f115 x116 f117 f118 f119 x120 x121 x122 x123 x124 x125 x126 gh127 gh128 H locs ls klp129_0 hf114 hf115 klp129_3 hf118 hf119 klp129_6 klp129_7 klp129_8 klp129_9 klp129_10 klp129_11 klp129_12 klp129_13 klp129_14 klp129_15 klp129_16 klp129_17 klp129_18 klp129_19 klp129_20 hm hP hD hS hl
          have ih130 := ih
          clear ih
          refine lv_iload hx hb dX5_readPart_84 (lv_at hl 4 rfl) ?_
          refine lv_iconst (v := 3) hx hb dX5_readPart_86 (by decide) ?_
          refine lv_icmp_gt (tgt := 197) hx hb dX5_readPart_87 (by decide) (fun c131 => False.elim (by have kc131 := (cv_lt (by decide : (3 : Int32).toInt = 3) (rfl : (x113).toInt = (x113).toInt)).mp c131; omega)) (fun _ => ?_)
          refine lv_aload_n hx hb dX5_readPart_90 rfl (lv_at hl 0 rfl) ?_
          obtain ⟨vq132, evq132⟩ := mq31_29 (.int x120) (.int x121) (.ref h_td) (.ref h_kn) (.int x122)
          replace hP : va_P (dC, dI) cls [(h_kn, .inl (cy_kn, 8, .inl f114)), (h_ter, .inl (cy_ter, 900, .inl f115)), (h_td, .inr (5, (mo32 v_td (.ref h_nam) (.ref h_var) (.ref h_trm) (.ref h_ter) (.int x116)))), (h_nam, .inl (cy_nam, 300, .inr (.inl f117))), (h_var, .inl (cy_var, 300, .inl f118)), (h_trm, .inl (cy_trm, 300, .inl f119)), (h_rd, .inr (4, (mo29 vq132 (.ref h_by) (.int x_rd_length) (.int x123) (.int x124) (.int x125) (.long x126)))), (h_by, .inl (cy_by, 600, .inl f_by))] H := by rw [evq132]; exact hP
          replace hD : va_D A [(h_kn, .inl (cy_kn, 8, .inl f114)), (h_ter, .inl (cy_ter, 900, .inl f115)), (h_td, .inr (5, (mo32 v_td (.ref h_nam) (.ref h_var) (.ref h_trm) (.ref h_ter) (.int x116)))), (h_nam, .inl (cy_nam, 300, .inr (.inl f117))), (h_var, .inl (cy_var, 300, .inl f118)), (h_trm, .inl (cy_trm, 300, .inl f119)), (h_rd, .inr (4, (mo29 vq132 (.ref h_by) (.int x_rd_length) (.int x123) (.int x124) (.int x125) (.long x126)))), (h_by, .inl (cy_by, 600, .inl f_by))] := by rw [evq132]; exact hD
          have hPc := hP.sub (ws' := [(h_rd, .inr (4, (mo29 vq132 (.ref h_by) (.int x_rd_length) (.int x123) (.int x124) (.int x125) (.long x126)))), (h_by, .inl (cy_by, 600, .inl f_by))]) [6, 7] rfl
          have hDc := hD.sub (ws' := [(h_rd, .inr (4, (mo29 vq132 (.ref h_by) (.int x_rd_length) (.int x123) (.int x124) (.int x125) (.long x126)))), (h_by, .inl (cy_by, 600, .inl f_by))]) [6, 7] (by decide) rfl
          have hKc := hK.sub (tys' := [(cy_by, .int)]) [0] rfl
          have hFc := va_free (wc := [(h_rd, .inr (4, (mo29 vq132 (.ref h_by) (.int x_rd_length) (.int x123) (.int x124) (.int x125) (.long x126)))), (h_by, .inl (cy_by, 600, .inl f_by))]) hD hS hA [6, 7] rfl
          refine va_callv (va_runV (As := []) (rest := []) ⟨hx, hb, hml, hown, hts⟩ (c_X5_nextToken l dC dI H.size h_rd h_by vq132 x_rd_length x123 x124 x125 x126 cy_by f_by G (by first | exact hx_rd_length | omega) (by first | exact klp129_7 | omega) (by first | exact klp129_8 | omega) hf_by (by first | exact klp129_14 | omega) hn_byt) (cwV 0 hts (gv hT w_m_X5_40 w_instanceMethod_X5_nextToken ws_sel_X5_nextToken w_ini_X5 w_code_X5_nextToken) rfl rfl rfl (by decide +kernel) ⟨(Nat.le_of_ble_eq_true rfl), (Nat.le_of_ble_eq_true rfl)⟩) ⟨pre_blind, va_recv hK hP (ci := 4) (q0 := 6) rfl rfl, pre_of hPc hKc hDc hN⟩ rfl rfl hl.1 rfl (lv_room (Nat.le_of_ble_eq_true rfl)) dX5_readPart_91 ⟨(Nat.le_of_ble_eq_true rfl), (Nat.le_of_ble_eq_true rfl)⟩) hS (fun q _ h => hFc q h) hFc (fun u t H locs ht hvm hq hB hz1 hk1 hS9 => ?_)
          obtain ⟨z134, z135, z136, z137⟩ := u
          obtain ⟨hP1, hD1⟩ := hB
          rw [ht] at hP1
          obtain ⟨hP9, hD9⟩ := va_join (wr := [(h_kn, .inl (cy_kn, 8, .inl f114)), (h_ter, .inl (cy_ter, 900, .inl f115)), (h_td, .inr (5, (mo32 v_td (.ref h_nam) (.ref h_var) (.ref h_trm) (.ref h_ter) (.int x116)))), (h_nam, .inl (cy_nam, 300, .inr (.inl f117))), (h_var, .inl (cy_var, 300, .inl f118)), (h_trm, .inl (cy_trm, 300, .inl f119))]) (w1 := [(h_rd, .inr (4, (mo29 vq132 (.ref h_by) (.int x_rd_length) (.int z134) (.int z135) (.int z136) (.long z137)))), (h_by, .inl (cy_by, 600, .inl f_by))]) hP hD [6, 7] [0, 1, 2, 3, 4, 5] rfl rfl (by decide) (by decide) hk1 hFc hP1 hD1
          clear hP hD hS hPc hDc hKc hFc hP1 hD1 hk1 hz1 ht hvm
          have hP : va_P (dC, dI) cls [(h_kn, .inl (cy_kn, 8, .inl f114)), (h_ter, .inl (cy_ter, 900, .inl f115)), (h_td, .inr (5, (mo32 v_td (.ref h_nam) (.ref h_var) (.ref h_trm) (.ref h_ter) (.int x116)))), (h_nam, .inl (cy_nam, 300, .inr (.inl f117))), (h_var, .inl (cy_var, 300, .inl f118)), (h_trm, .inl (cy_trm, 300, .inl f119)), (h_rd, .inr (4, (mo29 vq132 (.ref h_by) (.int x_rd_length) (.int z134) (.int z135) (.int z136) (.long z137)))), (h_by, .inl (cy_by, 600, .inl f_by))] H := hP9
          have hD : va_D A [(h_kn, .inl (cy_kn, 8, .inl f114)), (h_ter, .inl (cy_ter, 900, .inl f115)), (h_td, .inr (5, (mo32 v_td (.ref h_nam) (.ref h_var) (.ref h_trm) (.ref h_ter) (.int x116)))), (h_nam, .inl (cy_nam, 300, .inr (.inl f117))), (h_var, .inl (cy_var, 300, .inl f118)), (h_trm, .inl (cy_trm, 300, .inl f119)), (h_rd, .inr (4, (mo29 vq132 (.ref h_by) (.int x_rd_length) (.int z134) (.int z135) (.int z136) (.long z137)))), (h_by, .inl (cy_by, 600, .inl f_by))] := hD9
          have hS := hS9
          clear hP9 hD9 hS9
          rw [evq132] at hP hD
          replace hP : va_P (dC, dI) cls [(h_kn, .inl (cy_kn, 8, .inl f114)), (h_ter, .inl (cy_ter, 900, .inl f115)), (h_td, .inr (5, (mo32 v_td (.ref h_nam) (.ref h_var) (.ref h_trm) (.ref h_ter) (.int x116)))), (h_nam, .inl (cy_nam, 300, .inr (.inl f117))), (h_var, .inl (cy_var, 300, .inl f118)), (h_trm, .inl (cy_trm, 300, .inl f119)), (h_rd, .inr (4, (mo31 (.ref h_by) (.int x_rd_length) (.int x120) (.int x121) (.ref h_td) (.ref h_kn) (.int x122) (.int z134) (.int z135) (.int z136) (.long z137)))), (h_by, .inl (cy_by, 600, .inl f_by))] H := hP
          replace hD : va_D A [(h_kn, .inl (cy_kn, 8, .inl f114)), (h_ter, .inl (cy_ter, 900, .inl f115)), (h_td, .inr (5, (mo32 v_td (.ref h_nam) (.ref h_var) (.ref h_trm) (.ref h_ter) (.int x116)))), (h_nam, .inl (cy_nam, 300, .inr (.inl f117))), (h_var, .inl (cy_var, 300, .inl f118)), (h_trm, .inl (cy_trm, 300, .inl f119)), (h_rd, .inr (4, (mo31 (.ref h_by) (.int x_rd_length) (.int x120) (.int x121) (.ref h_td) (.ref h_kn) (.int x122) (.int z134) (.int z135) (.int z136) (.long z137)))), (h_by, .inl (cy_by, 600, .inl f_by))] := hD
          clear evq132 
          obtain ⟨k138, k139, k140, k141, k142, k143, k144, k145, k146, k147, k148⟩ := hq
          replace k138 : 0 ≤ ((z134)).toInt ∧ ((z134)).toInt ≤ 600 := k138
          replace k139 : 0 ≤ ((z135)).toInt ∧ ((z135)).toInt ≤ 600 := k139
          replace k140 : ((z134)).toInt = tkS (G) ((x_rd_length)).toInt ((x124)).toInt := k140
          replace k141 : ((x124)).toInt ≤ ((z134)).toInt := k141
          replace k142 : ((z136)).toInt = tkT (G) ((x_rd_length)).toInt ((z134)).toInt := k142
          replace k143 : ((z136)).toInt = -1 ∨ ((z135)).toInt = tkX (G) ((x_rd_length)).toInt ((z134)).toInt := k143
          replace k144 : ¬ ((z136)).toInt = 257 ∨ ((z137)).toInt = (G) ((z134)).toInt := k144
          replace k145 : -1 ≤ ((z136)).toInt ∧ ((z136)).toInt ≤ 258 := k145
          replace k146 : ((z135)).toInt ≤ ((x_rd_length)).toInt := k146
          replace k147 : ((z136)).toInt = -1 ∨ ((z134)).toInt < ((x_rd_length)).toInt := k147
          replace k148 : ((z134)).toInt ≤ ((x_rd_length)).toInt := k148
          have tn149b : (x124).toInt = tkX G (x_rd_length).toInt (x123).toInt := by omega
          have tn149 : (z134).toInt = tkN G (x_rd_length).toInt (x123).toInt := by rw [k140, tn149b]; rfl
          have tn149t : (z136).toInt = tkT G (x_rd_length).toInt (tkN G (x_rd_length).toInt (x123).toInt) := by rw [← tn149]; exact k142
          have tn149g := tkN_gt (G := G) (n := (x_rd_length).toInt) (a := (x123).toInt) (by omega) (by omega) (by omega)
          refine lv_aload_n hx hb dX5_readPart_94 rfl (lv_at hl 0 rfl) ?_
          refine va_get (D := (dC, dI)) (ci := 4) (v := .int z136) (C := RX5) (T := TX5) (N := 11) hx hb hw iwX5 hown hK hP 6 rfl rfl 9 (by decide) (hw _ w_f_X5_43) (fun _ h9 => h9) rfl dX5_readPart_95 ?_
          refine lv_sipush (v := 256) hx hb dX5_readPart_98 (by decide) ?_
          refine lv_icmp_eq (tgt := 122) hx hb dX5_readPart_101 (by decide) (fun c150 => ?_) (fun c150 => ?_)
          · have kc150 := (cv_eq (rfl : (z136).toInt = (z136).toInt) (by decide : (256 : Int32).toInt = 256)).mp c150
            refine lv_iload hx hb dX5_readPart_122 (lv_at hl 4 rfl) ?_
            refine lv_iconst (v := 3) hx hb dX5_readPart_124 (by decide) ?_
            refine lv_icmp_ne (tgt := 136) hx hb dX5_readPart_125 (by decide) (fun c151 => ?_) (fun c151 => ?_)
            · have kc151 := (not_congr (cv_eq (rfl : (x113).toInt = (x113).toInt) (by decide : (3 : Int32).toInt = 3))).mp c151
              obtain ⟨rr152, rfl⟩ : ∃ y : Nat, gh127 = y + 1 := ⟨gh127 - 1, by omega⟩
              refine lv_aload_n hx hb dX5_readPart_136 rfl (lv_at hl 0 rfl) ?_
              refine va_get (D := (dC, dI)) (ci := 4) (v := .ref h_td) (C := RX5) (T := TX5) (N := 11) hx hb hw iwX5 hown hK hP 6 rfl rfl 4 (by decide) (hw _ w_f_X5_25) (fun _ h9 => h9) rfl dX5_readPart_137 ?_
              refine va_getN (D := (dC, dI)) (ci := 5) (v := .ref h_ter) (C := RX8) (T := TX8) (N := 10) (host := "OppositePairs") hx hb hw iwX8 hown hK hP 2 rfl rfl 3 (by decide) (hN.use n_f_X5_97 rfl) (fun _ h9 => h9) rfl dX5_readPart_140 ?_
              refine lv_iload_n hx hb dX5_readPart_143 rfl (lv_at hl 3 rfl) ?_
              refine lv_iconst (v := 3) hx hb dX5_readPart_144 (by decide) ?_
              refine lv_imul hx hb dX5_readPart_145 ?_
              refine lv_topi (fun z153 ez153 => ?_)
              have tz153 : (z153).toInt = (r82).toInt * 3 := by rw [ez153]; exact i_mul rfl (by decide) (by omega)
              refine lv_iload hx hb dX5_readPart_146 (lv_at hl 4 rfl) ?_
              refine lv_iadd hx hb dX5_readPart_148 ?_
              refine lv_topi (fun z154 ez154 => ?_)
              have tz154 : (z154).toInt = (z153).toInt + (x113).toInt := by rw [ez154]; exact i_add rfl rfl (by omega)
              refine lv_aload_n hx hb dX5_readPart_149 rfl (lv_at hl 0 rfl) ?_
              refine lv_iload_n hx hb dX5_readPart_150 rfl (lv_at hl 1 rfl) ?_
              refine lv_iconst (v := 1) hx hb dX5_readPart_151 (by decide) ?_
              refine lv_iadd hx hb dX5_readPart_152 ?_
              refine lv_topi (fun z155 ez155 => ?_)
              obtain rfl : z155 = 4 := ez155.trans (by decide)
              have cst4 : (4 : Int32).toInt = 4 := by decide
              have hPc := hP.sub (ws' := [(h_rd, .inr (4, (mo31 (.ref h_by) (.int x_rd_length) (.int x120) (.int x121) (.ref h_td) (.ref h_kn) (.int x122) (.int z134) (.int z135) (.int z136) (.long z137)))), (h_by, .inl (cy_by, 600, .inl f_by)), (h_kn, .inl (cy_kn, 8, .inl f114)), (h_td, .inr (5, (mo32 v_td (.ref h_nam) (.ref h_var) (.ref h_trm) (.ref h_ter) (.int x116)))), (h_nam, .inl (cy_nam, 300, .inr (.inl f117))), (h_var, .inl (cy_var, 300, .inl f118)), (h_trm, .inl (cy_trm, 300, .inl f119)), (h_ter, .inl (cy_ter, 900, .inl f115))]) [6, 7, 0, 2, 3, 4, 5, 1] rfl
              have hDc := hD.sub (ws' := [(h_rd, .inr (4, (mo31 (.ref h_by) (.int x_rd_length) (.int x120) (.int x121) (.ref h_td) (.ref h_kn) (.int x122) (.int z134) (.int z135) (.int z136) (.long z137)))), (h_by, .inl (cy_by, 600, .inl f_by)), (h_kn, .inl (cy_kn, 8, .inl f114)), (h_td, .inr (5, (mo32 v_td (.ref h_nam) (.ref h_var) (.ref h_trm) (.ref h_ter) (.int x116)))), (h_nam, .inl (cy_nam, 300, .inr (.inl f117))), (h_var, .inl (cy_var, 300, .inl f118)), (h_trm, .inl (cy_trm, 300, .inl f119)), (h_ter, .inl (cy_ter, 900, .inl f115))]) [6, 7, 0, 2, 3, 4, 5, 1] (by decide) rfl
              have hKc := hK.sub (tys' := [(cy_by, .int), (cy_kn, .int), (cy_nam, .long), (cy_var, .int), (cy_trm, .int), (cy_ter, .int)]) [0, 1, 2, 3, 4, 5] rfl
              have hFc := va_free (wc := [(h_rd, .inr (4, (mo31 (.ref h_by) (.int x_rd_length) (.int x120) (.int x121) (.ref h_td) (.ref h_kn) (.int x122) (.int z134) (.int z135) (.int z136) (.long z137)))), (h_by, .inl (cy_by, 600, .inl f_by)), (h_kn, .inl (cy_kn, 8, .inl f114)), (h_td, .inr (5, (mo32 v_td (.ref h_nam) (.ref h_var) (.ref h_trm) (.ref h_ter) (.int x116)))), (h_nam, .inl (cy_nam, 300, .inr (.inl f117))), (h_var, .inl (cy_var, 300, .inl f118)), (h_trm, .inl (cy_trm, 300, .inl f119)), (h_ter, .inl (cy_ter, 900, .inl f115))]) hD hS hA [6, 7, 0, 2, 3, 4, 5, 1] rfl
              refine va_calli (va_runV (As := [.int 4]) (rest := [.int z154, .ref h_ter]) ⟨hx, hb, hml, hown, hts⟩ (c_X5_readPart_4 l dC dI H.size h_rd h_by h_kn h_td h_nam h_var h_trm h_ter x_rd_length x120 x121 x122 z134 z135 z136 z137 cy_by f_by cy_kn f114 v_td x116 cy_nam f117 cy_var f118 cy_trm f119 cy_ter f115 G gh128 (by first | exact hx_rd_length | omega) (by first | exact klp129_6 | omega) (by first | exact k138 | omega) (by first | exact k139 | omega) hf_by hf114 (by first | exact klp129_3 | omega) hf118 hf119 hf115 (by first | exact k142 | omega) (by omega) (by omega) (by first | exact k144 | omega) (by omega) (by omega) (by omega) (by first | exact k146 | omega) hn_byt klp129_20) (cwV 1 hts (gv hT w_m_X5_81 w_instanceMethod_X5_readPart ws_sel_X5_readPart w_ini_X5 w_code_X5_readPart) rfl rfl rfl (by decide +kernel) ⟨(Nat.le_of_ble_eq_true rfl), (Nat.le_of_ble_eq_true rfl)⟩) ⟨pre_blind, va_recv hK hP (ci := 4) (q0 := 6) rfl rfl, pre_of hPc hKc hDc hN⟩ rfl rfl hl.1 rfl (lv_room (Nat.le_of_ble_eq_true rfl)) dX5_readPart_153 ⟨(Nat.le_of_ble_eq_true rfl), (Nat.le_of_ble_eq_true rfl)⟩) hS (fun q _ h => hFc q h) hFc (fun r156 u t H locs ht hvm hq hB hz1 hk1 hS9 => ?_)
              obtain ⟨z157, z158, z159, z160, z161, z162, z163, f164, z165, f166, f167, f168, f169⟩ := u
              obtain ⟨hP1, hD1⟩ := hB
              rw [ht] at hP1
              obtain ⟨hP9, hD9⟩ := va_join (wr := []) (w1 := [(h_rd, .inr (4, (mo31 (.ref h_by) (.int x_rd_length) (.int z157) (.int z158) (.ref h_td) (.ref h_kn) (.int z159) (.int z160) (.int z161) (.int z162) (.long z163)))), (h_by, .inl (cy_by, 600, .inl f_by)), (h_kn, .inl (cy_kn, 8, .inl f164)), (h_td, .inr (5, (mo32 v_td (.ref h_nam) (.ref h_var) (.ref h_trm) (.ref h_ter) (.int z165)))), (h_nam, .inl (cy_nam, 300, .inr (.inl f166))), (h_var, .inl (cy_var, 300, .inl f167)), (h_trm, .inl (cy_trm, 300, .inl f168)), (h_ter, .inl (cy_ter, 900, .inl f169))]) hP hD [6, 7, 0, 2, 3, 4, 5, 1] [] rfl rfl (by decide) (by decide) hk1 hFc hP1 hD1
              clear hP hD hS hPc hDc hKc hFc hP1 hD1 hk1 hz1 ht hvm
              have hP : va_P (dC, dI) cls [(h_rd, .inr (4, (mo31 (.ref h_by) (.int x_rd_length) (.int z157) (.int z158) (.ref h_td) (.ref h_kn) (.int z159) (.int z160) (.int z161) (.int z162) (.long z163)))), (h_by, .inl (cy_by, 600, .inl f_by)), (h_kn, .inl (cy_kn, 8, .inl f164)), (h_td, .inr (5, (mo32 v_td (.ref h_nam) (.ref h_var) (.ref h_trm) (.ref h_ter) (.int z165)))), (h_nam, .inl (cy_nam, 300, .inr (.inl f166))), (h_var, .inl (cy_var, 300, .inl f167)), (h_trm, .inl (cy_trm, 300, .inl f168)), (h_ter, .inl (cy_ter, 900, .inl f169))] H := hP9
              have hD : va_D A [(h_rd, .inr (4, (mo31 (.ref h_by) (.int x_rd_length) (.int z157) (.int z158) (.ref h_td) (.ref h_kn) (.int z159) (.int z160) (.int z161) (.int z162) (.long z163)))), (h_by, .inl (cy_by, 600, .inl f_by)), (h_kn, .inl (cy_kn, 8, .inl f164)), (h_td, .inr (5, (mo32 v_td (.ref h_nam) (.ref h_var) (.ref h_trm) (.ref h_ter) (.int z165)))), (h_nam, .inl (cy_nam, 300, .inr (.inl f166))), (h_var, .inl (cy_var, 300, .inl f167)), (h_trm, .inl (cy_trm, 300, .inl f168)), (h_ter, .inl (cy_ter, 900, .inl f169))] := hD9
              have hS := hS9
              clear hP9 hD9 hS9
              obtain ⟨k170, k171, k172, hf164, k173, hf167, hf168, hf169, k174, k175, k176, k177, k178, k179, k180, k181, k182, k183, k184, k185, k186, k187, k188, k189⟩ := hq
              replace k170 : 0 ≤ ((z159)).toInt ∧ ((z159)).toInt ≤ 8 := k170
              replace k171 : 0 ≤ ((z160)).toInt ∧ ((z160)).toInt ≤ 600 := k171
              replace k172 : 0 ≤ ((z161)).toInt ∧ ((z161)).toInt ≤ 600 := k172
              replace hf164 : Rg 0 299 (f164) := hf164
              replace k173 : 0 ≤ ((z165)).toInt ∧ ((z165)).toInt ≤ 300 := k173
              replace hf167 : Rg (-1) 7 (f167) := hf167
              replace hf168 : Rg 0 3 (f168) := hf168
              replace hf169 : Rg 0 299 (f169) := hf169
              replace k174 : 0 ≤ (r156).toInt ∧ (r156).toInt ≤ 299 := k174
              replace k175 : ((z157)).toInt = ((pTm (G) ((x_rd_length)).toInt (pPs (G) ((x_rd_length)).toInt 2) ((z134)).toInt ((x122)).toInt (gh128))).1 := k175
              replace k176 : ((z160)).toInt = ((pTm (G) ((x_rd_length)).toInt (pPs (G) ((x_rd_length)).toInt 2) ((z134)).toInt ((x122)).toInt (gh128))).2.1 := k176
              replace k177 : ((z159)).toInt = ((pTm (G) ((x_rd_length)).toInt (pPs (G) ((x_rd_length)).toInt 2) ((z134)).toInt ((x122)).toInt (gh128))).2.2.1 := k177
              replace k178 : (((z157)).toInt = 0 ∧ ((z158)).toInt = ((x121)).toInt) ∨ (¬ ((z157)).toInt = 0 ∧ ((z158)).toInt = ((z160)).toInt) := k178
              replace k179 : 2 * ((z165)).toInt ≤ ((z160)).toInt + 1 := k179
              replace k180 : ((z162)).toInt < 256 ∨ 2 * ((z165)).toInt ≤ ((z160)).toInt := k180
              replace k181 : ((z134)).toInt ≤ ((z160)).toInt := k181
              replace k182 : ((z162)).toInt = tkT (G) ((x_rd_length)).toInt ((z160)).toInt := k182
              replace k183 : ((z162)).toInt = -1 ∨ ((z161)).toInt = tkX (G) ((x_rd_length)).toInt ((z160)).toInt := k183
              replace k184 : ¬ ((z162)).toInt = 257 ∨ ((z163)).toInt = (G) ((z160)).toInt := k184
              replace k185 : -1 ≤ ((z162)).toInt ∧ ((z162)).toInt ≤ 258 := k185
              replace k186 : ((z161)).toInt ≤ ((x_rd_length)).toInt := k186
              replace k187 : ((z162)).toInt = -1 ∨ ((z160)).toInt < ((x_rd_length)).toInt := k187
              replace k188 : ((z160)).toInt ≤ ((x_rd_length)).toInt := k188
              replace k189 : VFC ((z159)).toInt ((pTm (G) ((x_rd_length)).toInt (pPs (G) ((x_rd_length)).toInt 2) ((z134)).toInt ((x122)).toInt (gh128))).2.2.2 (f164) (f166) ((z165)).toInt := k189
              obtain ⟨rh190, erh190⟩ : ∃ x : PR, x = (pTm (G) ((x_rd_length)).toInt (pPs (G) ((x_rd_length)).toInt 2) ((z134)).toInt ((x122)).toInt (gh128)) := ⟨_, rfl⟩
              rw [← erh190] at k175 k176 k177 k189
              rw [tn149] at erh190
              refine va_iast hx hb hK hP hD hS 7 5 rfl rfl (i := z154) (x := r156) (vp_in_iff.mpr (by omega)) dX5_readPart_156 (fun H locs hP9 hD9 hS9 => ?_)
              obtain ⟨f191, ef191⟩ : ∃ g : Nat → Int32, g = upd f169 (Int32.toNatClampNeg z154) r156 := ⟨_, rfl⟩
              clear hP hD hS
              have hP : va_P (dC, dI) cls [(h_rd, .inr (4, (mo31 (.ref h_by) (.int x_rd_length) (.int z157) (.int z158) (.ref h_td) (.ref h_kn) (.int z159) (.int z160) (.int z161) (.int z162) (.long z163)))), (h_by, .inl (cy_by, 600, .inl f_by)), (h_kn, .inl (cy_kn, 8, .inl f164)), (h_td, .inr (5, (mo32 v_td (.ref h_nam) (.ref h_var) (.ref h_trm) (.ref h_ter) (.int z165)))), (h_nam, .inl (cy_nam, 300, .inr (.inl f166))), (h_var, .inl (cy_var, 300, .inl f167)), (h_trm, .inl (cy_trm, 300, .inl f168)), (h_ter, .inl (cy_ter, 900, .inl f191))] H := by rw [ef191]; exact hP9
              have hD : va_D A [(h_rd, .inr (4, (mo31 (.ref h_by) (.int x_rd_length) (.int z157) (.int z158) (.ref h_td) (.ref h_kn) (.int z159) (.int z160) (.int z161) (.int z162) (.long z163)))), (h_by, .inl (cy_by, 600, .inl f_by)), (h_kn, .inl (cy_kn, 8, .inl f164)), (h_td, .inr (5, (mo32 v_td (.ref h_nam) (.ref h_var) (.ref h_trm) (.ref h_ter) (.int z165)))), (h_nam, .inl (cy_nam, 300, .inr (.inl f166))), (h_var, .inl (cy_var, 300, .inl f167)), (h_trm, .inl (cy_trm, 300, .inl f168)), (h_ter, .inl (cy_ter, 900, .inl f191))] := by rw [ef191]; exact hD9
              have hS := hS9
              clear hP9 hD9 hS9
              have hf191 : Rg 0 299 f191 := by rw [ef191]; exact rg_upd hf169 (by omega)
              clear ef191
              refine lv_aload_n hx hb dX5_readPart_157 rfl (lv_at hl 0 rfl) ?_
              refine va_get (D := (dC, dI)) (ci := 4) (v := .ref h_td) (C := RX5) (T := TX5) (N := 11) hx hb hw iwX5 hown hK hP 0 rfl rfl 4 (by decide) (hw _ w_f_X5_25) (fun _ h9 => h9) rfl dX5_readPart_158 ?_
              refine va_getN (D := (dC, dI)) (ci := 5) (v := .ref h_trm) (C := RX8) (T := TX8) (N := 10) (host := "OppositePairs") hx hb hw iwX8 hown hK hP 3 rfl rfl 2 (by decide) (hN.use n_f_X5_100 rfl) (fun _ h9 => h9) rfl dX5_readPart_161 ?_
              refine lv_iload_n hx hb dX5_readPart_164 rfl (lv_at hl 3 rfl) ?_
              refine lv_iload hx hb dX5_readPart_165 (lv_at hl 4 rfl) ?_
              refine lv_iconst (v := 1) hx hb dX5_readPart_167 (by decide) ?_
              refine lv_iadd hx hb dX5_readPart_168 ?_
              refine lv_topi (fun z192 ez192 => ?_)
              have tz192 : (z192).toInt = (x113).toInt + 1 := by rw [ez192]; exact i_add rfl (by decide) (by omega)
              refine va_iast hx hb hK hP hD hS 6 4 rfl rfl (i := r82) (x := z192) (vp_in_iff.mpr (by omega)) dX5_readPart_169 (fun H locs hP9 hD9 hS9 => ?_)
              obtain ⟨f193, ef193⟩ : ∃ g : Nat → Int32, g = upd f168 (Int32.toNatClampNeg r82) z192 := ⟨_, rfl⟩
              clear hP hD hS
              have hP : va_P (dC, dI) cls [(h_rd, .inr (4, (mo31 (.ref h_by) (.int x_rd_length) (.int z157) (.int z158) (.ref h_td) (.ref h_kn) (.int z159) (.int z160) (.int z161) (.int z162) (.long z163)))), (h_by, .inl (cy_by, 600, .inl f_by)), (h_kn, .inl (cy_kn, 8, .inl f164)), (h_td, .inr (5, (mo32 v_td (.ref h_nam) (.ref h_var) (.ref h_trm) (.ref h_ter) (.int z165)))), (h_nam, .inl (cy_nam, 300, .inr (.inl f166))), (h_var, .inl (cy_var, 300, .inl f167)), (h_trm, .inl (cy_trm, 300, .inl f193)), (h_ter, .inl (cy_ter, 900, .inl f191))] H := by rw [ef193]; exact hP9
              have hD : va_D A [(h_rd, .inr (4, (mo31 (.ref h_by) (.int x_rd_length) (.int z157) (.int z158) (.ref h_td) (.ref h_kn) (.int z159) (.int z160) (.int z161) (.int z162) (.long z163)))), (h_by, .inl (cy_by, 600, .inl f_by)), (h_kn, .inl (cy_kn, 8, .inl f164)), (h_td, .inr (5, (mo32 v_td (.ref h_nam) (.ref h_var) (.ref h_trm) (.ref h_ter) (.int z165)))), (h_nam, .inl (cy_nam, 300, .inr (.inl f166))), (h_var, .inl (cy_var, 300, .inl f167)), (h_trm, .inl (cy_trm, 300, .inl f193)), (h_ter, .inl (cy_ter, 900, .inl f191))] := by rw [ef193]; exact hD9
              have hS := hS9
              clear hP9 hD9 hS9
              have hf193 : Rg 0 3 f193 := by rw [ef193]; exact rg_upd hf168 (by omega)
              clear ef193
              refine lv_aload_n hx hb dX5_readPart_170 rfl (lv_at hl 0 rfl) ?_
              refine va_get (D := (dC, dI)) (ci := 4) (v := .int z157) (C := RX5) (T := TX5) (N := 11) hx hb hw iwX5 hown hK hP 0 rfl rfl 2 (by decide) (hw _ w_f_X5_34) (fun _ h9 => h9) rfl dX5_readPart_171 ?_
              refine lv_if_eq (tgt := 179) hx hb dX5_readPart_174 (by decide) (fun c194 => ?_) (fun c194 => ?_)
              · have kc194 := (cv_eq (rfl : (z157).toInt = (z157).toInt) (by decide : (0 : Int32).toInt = 0)).mp c194
                refine lv_aload_n hx hb dX5_readPart_179 rfl (lv_at hl 0 rfl) ?_
                refine va_get (D := (dC, dI)) (ci := 4) (v := .int z162) (C := RX5) (T := TX5) (N := 11) hx hb hw iwX5 hown hK hP 0 rfl rfl 9 (by decide) (hw _ w_f_X5_43) (fun _ h9 => h9) rfl dX5_readPart_180 ?_
                refine lv_bipush (v := 44) hx hb dX5_readPart_183 (by decide) ?_
                refine lv_icmp_eq (tgt := 191) hx hb dX5_readPart_185 (by decide) (fun c195 => ?_) (fun c195 => ?_)
                · have kc195 := (cv_eq (rfl : (z162).toInt = (z162).toInt) (by decide : (44 : Int32).toInt = 44)).mp c195
                  have on9 := pLo_on (G := G) (n := (x_rd_length).toInt) (P := (pPs G (x_rd_length).toInt 2)) (r := rr152) (q := (x123).toInt) (nv := (x122).toInt) (vf := gh128) (by rw [← erh190]; omega) (by rw [← erh190, ← k176]; omega)
                  rw [← erh190, ← k176, ← k177] at on9
                  have lo196 := on9.symm.trans klp129_19
                  obtain ⟨z197, ez197⟩ : ∃ y : Int32, y = x113 + 1 := ⟨_, rfl⟩
                  have tz197 : (z197).toInt = (x113).toInt + 1 := by rw [ez197]; exact i_add rfl (by decide) (by omega)
                  refine lv_iinc (v := z197) (lv' := [(4, .int z197), (0, .ref h_rd), (1, .int 3), (2, .int 1), (3, .int r82)]) hx hb dX5_readPart_191 hl (k := 4) rfl (by rw [ez197]; rfl) (by decide) rfl (fun ls hl => ?_)
                  refine lv_goto (tgt := 84) hx hb dX5_readPart_194 (by decide) ?_
                  replace hP : va_P (dC, dI) cls [(h_kn, .inl (cy_kn, 8, .inl f164)), (h_ter, .inl (cy_ter, 900, .inl f191)), (h_td, .inr (5, (mo32 v_td (.ref h_nam) (.ref h_var) (.ref h_trm) (.ref h_ter) (.int z165)))), (h_nam, .inl (cy_nam, 300, .inr (.inl f166))), (h_var, .inl (cy_var, 300, .inl f167)), (h_trm, .inl (cy_trm, 300, .inl f193)), (h_rd, .inr (4, (mo31 (.ref h_by) (.int x_rd_length) (.int z157) (.int z158) (.ref h_td) (.ref h_kn) (.int z159) (.int z160) (.int z161) (.int z162) (.long z163)))), (h_by, .inl (cy_by, 600, .inl f_by))] H := hP.sub [2, 7, 3, 4, 5, 6, 0, 1] rfl
                  replace hD : va_D A [(h_kn, .inl (cy_kn, 8, .inl f164)), (h_ter, .inl (cy_ter, 900, .inl f191)), (h_td, .inr (5, (mo32 v_td (.ref h_nam) (.ref h_var) (.ref h_trm) (.ref h_ter) (.int z165)))), (h_nam, .inl (cy_nam, 300, .inr (.inl f166))), (h_var, .inl (cy_var, 300, .inl f167)), (h_trm, .inl (cy_trm, 300, .inl f193)), (h_rd, .inr (4, (mo31 (.ref h_by) (.int x_rd_length) (.int z157) (.int z158) (.ref h_td) (.ref h_kn) (.int z159) (.int z160) (.int z161) (.int z162) (.long z163)))), (h_by, .inl (cy_by, 600, .inl f_by))] := hD.sub [2, 7, 3, 4, 5, 6, 0, 1] (by decide) rfl
                  exact ih130 (z197) (f164) (f191) (z165) (f166) (f167) (f193) (z157) (z158) (z159) (z160) (z161) (z162) (z163) (rr152) ((rh190).2.2.2) _ _ _ (by omega) hf164 hf191 (by first | exact k173 | omega) hf167 hf193 (by first | exact k170 | omega) (by first | exact k171 | omega) (by first | exact k172 | omega) (by first | exact k182 | omega) (by omega) (by omega) (by first | exact k179 | omega) (by omega) (by first | exact k186 | omega) (by omega) (by omega) (by omega) (by omega) lo196 k189 (by omega) hP hD hS (lv_sub hl [1, 2, 3, 4, 0] rfl)
                · have kc195 := (not_congr (cv_eq (rfl : (z162).toInt = (z162).toInt) (by decide : (44 : Int32).toInt = 44))).mp c195
                  refine lv_goto (tgt := 197) hx hb dX5_readPart_188 (by decide) ?_
                  have on9 := pLo_off (G := G) (n := (x_rd_length).toInt) (P := (pPs G (x_rd_length).toInt 2)) (r := rr152) (q := (x123).toInt) (nv := (x122).toInt) (vf := gh128) (by rw [← erh190]; omega) (by rw [← erh190, ← k176]; omega)
                  rw [← erh190, ← k176, ← k177] at on9
                  have cl9 := on9.symm.trans klp129_19
                  refine lv_aload_n hx hb dX5_readPart_197 rfl (lv_at hl 0 rfl) ?_
                  refine va_get (D := (dC, dI)) (ci := 4) (v := .int z162) (C := RX5) (T := TX5) (N := 11) hx hb hw iwX5 hown hK hP 0 rfl rfl 9 (by decide) (hw _ w_f_X5_43) (fun _ h9 => h9) rfl dX5_readPart_198 ?_
                  refine lv_bipush (v := 41) hx hb dX5_readPart_201 (by decide) ?_
                  refine lv_icmp_ne (tgt := 213) hx hb dX5_readPart_203 (by decide) (fun c198 => ?_) (fun c198 => ?_)
                  · have kc198 := (not_congr (cv_eq (rfl : (z162).toInt = (z162).toInt) (by decide : (41 : Int32).toInt = 41))).mp c198
                    have pv9 : (pTm G (x_rd_length).toInt (pPs G (x_rd_length).toInt 3) (x_rd_at).toInt (x_rd_variables).toInt vf) = (1, (z160).toInt, (z159).toInt, (rh190).2.2.2) := cl9.symm.trans (pCl_no (by omega))
                    have pq1991 : ((pTm G (x_rd_length).toInt (pPs G (x_rd_length).toInt 3) (x_rd_at).toInt (x_rd_variables).toInt vf)).1 = 1 := by rw [pv9]
                    have pq1992 : ((pTm G (x_rd_length).toInt (pPs G (x_rd_length).toInt 3) (x_rd_at).toInt (x_rd_variables).toInt vf)).2.1 = (z160).toInt := by rw [pv9]
                    have pq1993 : ((pTm G (x_rd_length).toInt (pPs G (x_rd_length).toInt 3) (x_rd_at).toInt (x_rd_variables).toInt vf)).2.2.1 = (z159).toInt := by rw [pv9]
                    have pq1994 : ((pTm G (x_rd_length).toInt (pPs G (x_rd_length).toInt 3) (x_rd_at).toInt (x_rd_variables).toInt vf)).2.2.2 = (rh190).2.2.2 := by rw [pv9]
                    refine lv_aload_n hx hb dX5_readPart_213 rfl (lv_at hl 0 rfl) ?_
                    refine lv_iconst (v := 1) hx hb dX5_readPart_214 (by decide) ?_
                    obtain ⟨vq200, evq200⟩ := mq31_27 (.ref h_by) (.int x_rd_length) (.ref h_td) (.ref h_kn) (.int z159) (.int z161) (.int z162) (.long z163)
                    replace hP : va_P (dC, dI) cls [(h_rd, .inr (4, (mo27 vq200 (.int z157) (.int z158) (.int z160)))), (h_by, .inl (cy_by, 600, .inl f_by)), (h_kn, .inl (cy_kn, 8, .inl f164)), (h_td, .inr (5, (mo32 v_td (.ref h_nam) (.ref h_var) (.ref h_trm) (.ref h_ter) (.int z165)))), (h_nam, .inl (cy_nam, 300, .inr (.inl f166))), (h_var, .inl (cy_var, 300, .inl f167)), (h_trm, .inl (cy_trm, 300, .inl f193)), (h_ter, .inl (cy_ter, 900, .inl f191))] H := by rw [evq200]; exact hP
                    replace hD : va_D A [(h_rd, .inr (4, (mo27 vq200 (.int z157) (.int z158) (.int z160)))), (h_by, .inl (cy_by, 600, .inl f_by)), (h_kn, .inl (cy_kn, 8, .inl f164)), (h_td, .inr (5, (mo32 v_td (.ref h_nam) (.ref h_var) (.ref h_trm) (.ref h_ter) (.int z165)))), (h_nam, .inl (cy_nam, 300, .inr (.inl f166))), (h_var, .inl (cy_var, 300, .inl f167)), (h_trm, .inl (cy_trm, 300, .inl f193)), (h_ter, .inl (cy_ter, 900, .inl f191))] := by rw [evq200]; exact hD
                    have cst1 : (1 : Int32).toInt = 1 := by decide
                    have hPc := hP.sub (ws' := [(h_rd, .inr (4, (mo27 vq200 (.int z157) (.int z158) (.int z160))))]) [0] rfl
                    have hDc := hD.sub (ws' := [(h_rd, .inr (4, (mo27 vq200 (.int z157) (.int z158) (.int z160))))]) [0] (by decide) rfl
                    have hKc := hK.sub (tys' := []) [] rfl
                    have hFc := va_free (wc := [(h_rd, .inr (4, (mo27 vq200 (.int z157) (.int z158) (.int z160))))]) hD hS hA [0] rfl
                    refine va_callv (va_runV (As := [.int 1]) (rest := []) ⟨hx, hb, hml, hown, hts⟩ (c_X5_blame l dC dI H.size h_rd vq200 z157 z158 z160 1 (by first | exact k171 | omega)) (cwV 1 hts (gv hT w_m_X5_56 w_instanceMethod_X5_blame ws_sel_X5_blame w_ini_X5 w_code_X5_blame) rfl rfl rfl (by decide +kernel) ⟨(Nat.le_of_ble_eq_true rfl), (Nat.le_of_ble_eq_true rfl)⟩) ⟨pre_blind, va_recv hK hP (ci := 4) (q0 := 0) rfl rfl, pre_of hPc hKc hDc hN⟩ rfl rfl hl.1 rfl (lv_room (Nat.le_of_ble_eq_true rfl)) dX5_readPart_215 ⟨(Nat.le_of_ble_eq_true rfl), (Nat.le_of_ble_eq_true rfl)⟩) hS (fun q _ h => hFc q h) hFc (fun u t H locs ht hvm hq hB hz1 hk1 hS9 => ?_)
                    obtain ⟨z202, z203⟩ := u
                    obtain ⟨hP1, hD1⟩ := hB
                    rw [ht] at hP1
                    obtain ⟨hP9, hD9⟩ := va_join (wr := [(h_by, .inl (cy_by, 600, .inl f_by)), (h_kn, .inl (cy_kn, 8, .inl f164)), (h_td, .inr (5, (mo32 v_td (.ref h_nam) (.ref h_var) (.ref h_trm) (.ref h_ter) (.int z165)))), (h_nam, .inl (cy_nam, 300, .inr (.inl f166))), (h_var, .inl (cy_var, 300, .inl f167)), (h_trm, .inl (cy_trm, 300, .inl f193)), (h_ter, .inl (cy_ter, 900, .inl f191))]) (w1 := [(h_rd, .inr (4, (mo27 vq200 (.int z202) (.int z203) (.int z160))))]) hP hD [0] [1, 2, 3, 4, 5, 6, 7] rfl rfl (by decide) (by decide) hk1 hFc hP1 hD1
                    clear hP hD hS hPc hDc hKc hFc hP1 hD1 hk1 hz1 ht hvm
                    have hP : va_P (dC, dI) cls [(h_by, .inl (cy_by, 600, .inl f_by)), (h_kn, .inl (cy_kn, 8, .inl f164)), (h_td, .inr (5, (mo32 v_td (.ref h_nam) (.ref h_var) (.ref h_trm) (.ref h_ter) (.int z165)))), (h_nam, .inl (cy_nam, 300, .inr (.inl f166))), (h_var, .inl (cy_var, 300, .inl f167)), (h_trm, .inl (cy_trm, 300, .inl f193)), (h_ter, .inl (cy_ter, 900, .inl f191)), (h_rd, .inr (4, (mo27 vq200 (.int z202) (.int z203) (.int z160))))] H := hP9
                    have hD : va_D A [(h_by, .inl (cy_by, 600, .inl f_by)), (h_kn, .inl (cy_kn, 8, .inl f164)), (h_td, .inr (5, (mo32 v_td (.ref h_nam) (.ref h_var) (.ref h_trm) (.ref h_ter) (.int z165)))), (h_nam, .inl (cy_nam, 300, .inr (.inl f166))), (h_var, .inl (cy_var, 300, .inl f167)), (h_trm, .inl (cy_trm, 300, .inl f193)), (h_ter, .inl (cy_ter, 900, .inl f191)), (h_rd, .inr (4, (mo27 vq200 (.int z202) (.int z203) (.int z160))))] := hD9
                    have hS := hS9
                    clear hP9 hD9 hS9
                    rw [evq200] at hP hD
                    replace hP : va_P (dC, dI) cls [(h_by, .inl (cy_by, 600, .inl f_by)), (h_kn, .inl (cy_kn, 8, .inl f164)), (h_td, .inr (5, (mo32 v_td (.ref h_nam) (.ref h_var) (.ref h_trm) (.ref h_ter) (.int z165)))), (h_nam, .inl (cy_nam, 300, .inr (.inl f166))), (h_var, .inl (cy_var, 300, .inl f167)), (h_trm, .inl (cy_trm, 300, .inl f193)), (h_ter, .inl (cy_ter, 900, .inl f191)), (h_rd, .inr (4, (mo31 (.ref h_by) (.int x_rd_length) (.int z202) (.int z203) (.ref h_td) (.ref h_kn) (.int z159) (.int z160) (.int z161) (.int z162) (.long z163))))] H := hP
                    replace hD : va_D A [(h_by, .inl (cy_by, 600, .inl f_by)), (h_kn, .inl (cy_kn, 8, .inl f164)), (h_td, .inr (5, (mo32 v_td (.ref h_nam) (.ref h_var) (.ref h_trm) (.ref h_ter) (.int z165)))), (h_nam, .inl (cy_nam, 300, .inr (.inl f166))), (h_var, .inl (cy_var, 300, .inl f167)), (h_trm, .inl (cy_trm, 300, .inl f193)), (h_ter, .inl (cy_ter, 900, .inl f191)), (h_rd, .inr (4, (mo31 (.ref h_by) (.int x_rd_length) (.int z202) (.int z203) (.ref h_td) (.ref h_kn) (.int z159) (.int z160) (.int z161) (.int z162) (.long z163))))] := hD
                    clear evq200 
                    obtain ⟨k204, k205⟩ := hq
                    replace k204 : ((z202)).toInt = ((1 : Int32)).toInt := k204
                    replace k205 : ((z203)).toInt = ((z160)).toInt := k205
                    refine lv_iload_n hx hb dX5_readPart_218 rfl (lv_at hl 3 rfl) ?_
                    replace hP : va_P (dC, dI) cls [(h_rd, .inr (4, (mo31 (.ref h_by) (.int x_rd_length) (.int z202) (.int z203) (.ref h_td) (.ref h_kn) (.int z159) (.int z160) (.int z161) (.int z162) (.long z163)))), (h_by, .inl (cy_by, 600, .inl f_by)), (h_kn, .inl (cy_kn, 8, .inl f164)), (h_td, .inr (5, (mo32 v_td (.ref h_nam) (.ref h_var) (.ref h_trm) (.ref h_ter) (.int z165)))), (h_nam, .inl (cy_nam, 300, .inr (.inl f166))), (h_var, .inl (cy_var, 300, .inl f167)), (h_trm, .inl (cy_trm, 300, .inl f193)), (h_ter, .inl (cy_ter, 900, .inl f191))] H := hP.sub [7, 0, 1, 2, 3, 4, 5, 6] rfl
                    replace hD : va_D A [(h_rd, .inr (4, (mo31 (.ref h_by) (.int x_rd_length) (.int z202) (.int z203) (.ref h_td) (.ref h_kn) (.int z159) (.int z160) (.int z161) (.int z162) (.long z163)))), (h_by, .inl (cy_by, 600, .inl f_by)), (h_kn, .inl (cy_kn, 8, .inl f164)), (h_td, .inr (5, (mo32 v_td (.ref h_nam) (.ref h_var) (.ref h_trm) (.ref h_ter) (.int z165)))), (h_nam, .inl (cy_nam, 300, .inr (.inl f166))), (h_var, .inl (cy_var, 300, .inl f167)), (h_trm, .inl (cy_trm, 300, .inl f193)), (h_ter, .inl (cy_ter, 900, .inl f191))] := hD.sub [7, 0, 1, 2, 3, 4, 5, 6] (by decide) rfl
                    refine W.widen (k := 0) (n := 0) (Nat.le_of_ble_eq_true rfl) (Nat.le_of_ble_eq_true rfl) ?_
                    have w206 : 0 ≤ ((z159)).toInt ∧ ((z159)).toInt ≤ 8 := by first | exact k170 | omega
                    have w207 : 0 ≤ ((z160)).toInt ∧ ((z160)).toInt ≤ 600 := by first | exact k171 | omega
                    have w208 : 0 ≤ ((z161)).toInt ∧ ((z161)).toInt ≤ 600 := by first | exact k172 | omega
                    have w209 : 0 ≤ ((z165)).toInt ∧ ((z165)).toInt ≤ 300 := by first | exact k173 | omega
                    have w210 : 0 ≤ (r82 : Int32).toInt ∧ (r82 : Int32).toInt ≤ 299 := by first | exact k88 | omega
                    have w211 : ((z202)).toInt = ((pTm G (x_rd_length).toInt (pPs G (x_rd_length).toInt 3) (x_rd_at).toInt (x_rd_variables).toInt vf)).1 := by omega
                    have w212 : ((z160)).toInt = ((pTm G (x_rd_length).toInt (pPs G (x_rd_length).toInt 3) (x_rd_at).toInt (x_rd_variables).toInt vf)).2.1 := by omega
                    have w213 : ((z159)).toInt = ((pTm G (x_rd_length).toInt (pPs G (x_rd_length).toInt 3) (x_rd_at).toInt (x_rd_variables).toInt vf)).2.2.1 := by omega
                    have w214 : (((z202)).toInt = 0 ∧ ((z203)).toInt = (x_rd_place).toInt) ∨ (¬ ((z202)).toInt = 0 ∧ ((z203)).toInt = ((z160)).toInt) := by omega
                    have w215 : 2 * ((z165)).toInt ≤ ((z160)).toInt + 1 := by first | exact k179 | omega
                    have w216 : ((z162)).toInt < 256 ∨ 2 * ((z165)).toInt ≤ ((z160)).toInt := by first | exact k180 | omega
                    have w217 : (x_rd_at).toInt ≤ ((z160)).toInt := by omega
                    have w218 : ((z162)).toInt = tkT G (x_rd_length).toInt ((z160)).toInt := by first | exact k182 | omega
                    have w219 : ((z162)).toInt = -1 ∨ ((z161)).toInt = tkX G (x_rd_length).toInt ((z160)).toInt := by first | exact k183 | omega
                    have w220 : ¬ ((z162)).toInt = 257 ∨ ((z163)).toInt = G ((z160)).toInt := by first | exact k184 | omega
                    have w221 : -1 ≤ ((z162)).toInt ∧ ((z162)).toInt ≤ 258 := by first | exact k185 | omega
                    have w222 : ((z161)).toInt ≤ (x_rd_length).toInt := by first | exact k186 | omega
                    have w223 : ((z162)).toInt = -1 ∨ ((z160)).toInt < (x_rd_length).toInt := by first | exact k187 | omega
                    have w224 : ((z160)).toInt ≤ (x_rd_length).toInt := by first | exact k188 | omega
                    have w225 : VFC ((z159)).toInt ((pTm G (x_rd_length).toInt (pPs G (x_rd_length).toInt 3) (x_rd_at).toInt (x_rd_variables).toInt vf)).2.2.2 (f164) (f166) ((z165)).toInt := (by rw [pq1994]; exact k189)
                    exact W.iret (v := r82) hx hb hr (fun t ht hW => ⟨⟨r82, (z202, z203, z159, z160, z161, z162, z163, f164, z165, f166, f167, f193, f191), rfl, ⟨w206, w207, w208, hf164, w209, hf167, hf193, hf191, w210, w211, w212, w213, w214, w215, w216, w217, w218, w219, w220, w221, w222, w223, w224, w225⟩, by rw [ht]; exact hP, hD⟩, hS.F ht⟩) hS.2.2 dX5_readPart_219
                  · have kc198 := (cv_eq (rfl : (z162).toInt = (z162).toInt) (by decide : (41 : Int32).toInt = 41)).mp c198
                    have pv9 : (pTm G (x_rd_length).toInt (pPs G (x_rd_length).toInt 3) (x_rd_at).toInt (x_rd_variables).toInt vf) = (0, tkN G (x_rd_length).toInt (z160).toInt, (z159).toInt, (rh190).2.2.2) := cl9.symm.trans (pCl_yes (by omega))
                    have pq2261 : ((pTm G (x_rd_length).toInt (pPs G (x_rd_length).toInt 3) (x_rd_at).toInt (x_rd_variables).toInt vf)).1 = 0 := by rw [pv9]
                    have pq2262 : ((pTm G (x_rd_length).toInt (pPs G (x_rd_length).toInt 3) (x_rd_at).toInt (x_rd_variables).toInt vf)).2.1 = tkN G (x_rd_length).toInt (z160).toInt := by rw [pv9]
                    have pq2263 : ((pTm G (x_rd_length).toInt (pPs G (x_rd_length).toInt 3) (x_rd_at).toInt (x_rd_variables).toInt vf)).2.2.1 = (z159).toInt := by rw [pv9]
                    have pq2264 : ((pTm G (x_rd_length).toInt (pPs G (x_rd_length).toInt 3) (x_rd_at).toInt (x_rd_variables).toInt vf)).2.2.2 = (rh190).2.2.2 := by rw [pv9]
                    refine lv_aload_n hx hb dX5_readPart_206 rfl (lv_at hl 0 rfl) ?_
                    obtain ⟨vq227, evq227⟩ := mq31_29 (.int z157) (.int z158) (.ref h_td) (.ref h_kn) (.int z159)
                    replace hP : va_P (dC, dI) cls [(h_rd, .inr (4, (mo29 vq227 (.ref h_by) (.int x_rd_length) (.int z160) (.int z161) (.int z162) (.long z163)))), (h_by, .inl (cy_by, 600, .inl f_by)), (h_kn, .inl (cy_kn, 8, .inl f164)), (h_td, .inr (5, (mo32 v_td (.ref h_nam) (.ref h_var) (.ref h_trm) (.ref h_ter) (.int z165)))), (h_nam, .inl (cy_nam, 300, .inr (.inl f166))), (h_var, .inl (cy_var, 300, .inl f167)), (h_trm, .inl (cy_trm, 300, .inl f193)), (h_ter, .inl (cy_ter, 900, .inl f191))] H := by rw [evq227]; exact hP
                    replace hD : va_D A [(h_rd, .inr (4, (mo29 vq227 (.ref h_by) (.int x_rd_length) (.int z160) (.int z161) (.int z162) (.long z163)))), (h_by, .inl (cy_by, 600, .inl f_by)), (h_kn, .inl (cy_kn, 8, .inl f164)), (h_td, .inr (5, (mo32 v_td (.ref h_nam) (.ref h_var) (.ref h_trm) (.ref h_ter) (.int z165)))), (h_nam, .inl (cy_nam, 300, .inr (.inl f166))), (h_var, .inl (cy_var, 300, .inl f167)), (h_trm, .inl (cy_trm, 300, .inl f193)), (h_ter, .inl (cy_ter, 900, .inl f191))] := by rw [evq227]; exact hD
                    have hPc := hP.sub (ws' := [(h_rd, .inr (4, (mo29 vq227 (.ref h_by) (.int x_rd_length) (.int z160) (.int z161) (.int z162) (.long z163)))), (h_by, .inl (cy_by, 600, .inl f_by))]) [0, 1] rfl
                    have hDc := hD.sub (ws' := [(h_rd, .inr (4, (mo29 vq227 (.ref h_by) (.int x_rd_length) (.int z160) (.int z161) (.int z162) (.long z163)))), (h_by, .inl (cy_by, 600, .inl f_by))]) [0, 1] (by decide) rfl
                    have hKc := hK.sub (tys' := [(cy_by, .int)]) [0] rfl
                    have hFc := va_free (wc := [(h_rd, .inr (4, (mo29 vq227 (.ref h_by) (.int x_rd_length) (.int z160) (.int z161) (.int z162) (.long z163)))), (h_by, .inl (cy_by, 600, .inl f_by))]) hD hS hA [0, 1] rfl
                    refine va_callv (va_runV (As := []) (rest := []) ⟨hx, hb, hml, hown, hts⟩ (c_X5_nextToken l dC dI H.size h_rd h_by vq227 x_rd_length z160 z161 z162 z163 cy_by f_by G (by first | exact hx_rd_length | omega) (by first | exact k171 | omega) (by first | exact k172 | omega) hf_by (by first | exact k186 | omega) hn_byt) (cwV 0 hts (gv hT w_m_X5_40 w_instanceMethod_X5_nextToken ws_sel_X5_nextToken w_ini_X5 w_code_X5_nextToken) rfl rfl rfl (by decide +kernel) ⟨(Nat.le_of_ble_eq_true rfl), (Nat.le_of_ble_eq_true rfl)⟩) ⟨pre_blind, va_recv hK hP (ci := 4) (q0 := 0) rfl rfl, pre_of hPc hKc hDc hN⟩ rfl rfl hl.1 rfl (lv_room (Nat.le_of_ble_eq_true rfl)) dX5_readPart_207 ⟨(Nat.le_of_ble_eq_true rfl), (Nat.le_of_ble_eq_true rfl)⟩) hS (fun q _ h => hFc q h) hFc (fun u t H locs ht hvm hq hB hz1 hk1 hS9 => ?_)
                    obtain ⟨z229, z230, z231, z232⟩ := u
                    obtain ⟨hP1, hD1⟩ := hB
                    rw [ht] at hP1
                    obtain ⟨hP9, hD9⟩ := va_join (wr := [(h_kn, .inl (cy_kn, 8, .inl f164)), (h_td, .inr (5, (mo32 v_td (.ref h_nam) (.ref h_var) (.ref h_trm) (.ref h_ter) (.int z165)))), (h_nam, .inl (cy_nam, 300, .inr (.inl f166))), (h_var, .inl (cy_var, 300, .inl f167)), (h_trm, .inl (cy_trm, 300, .inl f193)), (h_ter, .inl (cy_ter, 900, .inl f191))]) (w1 := [(h_rd, .inr (4, (mo29 vq227 (.ref h_by) (.int x_rd_length) (.int z229) (.int z230) (.int z231) (.long z232)))), (h_by, .inl (cy_by, 600, .inl f_by))]) hP hD [0, 1] [2, 3, 4, 5, 6, 7] rfl rfl (by decide) (by decide) hk1 hFc hP1 hD1
                    clear hP hD hS hPc hDc hKc hFc hP1 hD1 hk1 hz1 ht hvm
                    have hP : va_P (dC, dI) cls [(h_kn, .inl (cy_kn, 8, .inl f164)), (h_td, .inr (5, (mo32 v_td (.ref h_nam) (.ref h_var) (.ref h_trm) (.ref h_ter) (.int z165)))), (h_nam, .inl (cy_nam, 300, .inr (.inl f166))), (h_var, .inl (cy_var, 300, .inl f167)), (h_trm, .inl (cy_trm, 300, .inl f193)), (h_ter, .inl (cy_ter, 900, .inl f191)), (h_rd, .inr (4, (mo29 vq227 (.ref h_by) (.int x_rd_length) (.int z229) (.int z230) (.int z231) (.long z232)))), (h_by, .inl (cy_by, 600, .inl f_by))] H := hP9
                    have hD : va_D A [(h_kn, .inl (cy_kn, 8, .inl f164)), (h_td, .inr (5, (mo32 v_td (.ref h_nam) (.ref h_var) (.ref h_trm) (.ref h_ter) (.int z165)))), (h_nam, .inl (cy_nam, 300, .inr (.inl f166))), (h_var, .inl (cy_var, 300, .inl f167)), (h_trm, .inl (cy_trm, 300, .inl f193)), (h_ter, .inl (cy_ter, 900, .inl f191)), (h_rd, .inr (4, (mo29 vq227 (.ref h_by) (.int x_rd_length) (.int z229) (.int z230) (.int z231) (.long z232)))), (h_by, .inl (cy_by, 600, .inl f_by))] := hD9
                    have hS := hS9
                    clear hP9 hD9 hS9
                    rw [evq227] at hP hD
                    replace hP : va_P (dC, dI) cls [(h_kn, .inl (cy_kn, 8, .inl f164)), (h_td, .inr (5, (mo32 v_td (.ref h_nam) (.ref h_var) (.ref h_trm) (.ref h_ter) (.int z165)))), (h_nam, .inl (cy_nam, 300, .inr (.inl f166))), (h_var, .inl (cy_var, 300, .inl f167)), (h_trm, .inl (cy_trm, 300, .inl f193)), (h_ter, .inl (cy_ter, 900, .inl f191)), (h_rd, .inr (4, (mo31 (.ref h_by) (.int x_rd_length) (.int z157) (.int z158) (.ref h_td) (.ref h_kn) (.int z159) (.int z229) (.int z230) (.int z231) (.long z232)))), (h_by, .inl (cy_by, 600, .inl f_by))] H := hP
                    replace hD : va_D A [(h_kn, .inl (cy_kn, 8, .inl f164)), (h_td, .inr (5, (mo32 v_td (.ref h_nam) (.ref h_var) (.ref h_trm) (.ref h_ter) (.int z165)))), (h_nam, .inl (cy_nam, 300, .inr (.inl f166))), (h_var, .inl (cy_var, 300, .inl f167)), (h_trm, .inl (cy_trm, 300, .inl f193)), (h_ter, .inl (cy_ter, 900, .inl f191)), (h_rd, .inr (4, (mo31 (.ref h_by) (.int x_rd_length) (.int z157) (.int z158) (.ref h_td) (.ref h_kn) (.int z159) (.int z229) (.int z230) (.int z231) (.long z232)))), (h_by, .inl (cy_by, 600, .inl f_by))] := hD
                    clear evq227 
                    obtain ⟨k233, k234, k235, k236, k237, k238, k239, k240, k241, k242, k243⟩ := hq
                    replace k233 : 0 ≤ ((z229)).toInt ∧ ((z229)).toInt ≤ 600 := k233
                    replace k234 : 0 ≤ ((z230)).toInt ∧ ((z230)).toInt ≤ 600 := k234
                    replace k235 : ((z229)).toInt = tkS (G) ((x_rd_length)).toInt ((z161)).toInt := k235
                    replace k236 : ((z161)).toInt ≤ ((z229)).toInt := k236
                    replace k237 : ((z231)).toInt = tkT (G) ((x_rd_length)).toInt ((z229)).toInt := k237
                    replace k238 : ((z231)).toInt = -1 ∨ ((z230)).toInt = tkX (G) ((x_rd_length)).toInt ((z229)).toInt := k238
                    replace k239 : ¬ ((z231)).toInt = 257 ∨ ((z232)).toInt = (G) ((z229)).toInt := k239
                    replace k240 : -1 ≤ ((z231)).toInt ∧ ((z231)).toInt ≤ 258 := k240
                    replace k241 : ((z230)).toInt ≤ ((x_rd_length)).toInt := k241
                    replace k242 : ((z231)).toInt = -1 ∨ ((z229)).toInt < ((x_rd_length)).toInt := k242
                    replace k243 : ((z229)).toInt ≤ ((x_rd_length)).toInt := k243
                    have tn244b : (z161).toInt = tkX G (x_rd_length).toInt (z160).toInt := by omega
                    have tn244 : (z229).toInt = tkN G (x_rd_length).toInt (z160).toInt := by rw [k235, tn244b]; rfl
                    have tn244t : (z231).toInt = tkT G (x_rd_length).toInt (tkN G (x_rd_length).toInt (z160).toInt) := by rw [← tn244]; exact k237
                    have tn244g := tkN_gt (G := G) (n := (x_rd_length).toInt) (a := (z160).toInt) (by omega) (by omega) (by omega)
                    refine lv_goto (tgt := 218) hx hb dX5_readPart_210 (by decide) ?_
                    refine lv_iload_n hx hb dX5_readPart_218 rfl (lv_at hl 3 rfl) ?_
                    replace hP : va_P (dC, dI) cls [(h_rd, .inr (4, (mo31 (.ref h_by) (.int x_rd_length) (.int z157) (.int z158) (.ref h_td) (.ref h_kn) (.int z159) (.int z229) (.int z230) (.int z231) (.long z232)))), (h_by, .inl (cy_by, 600, .inl f_by)), (h_kn, .inl (cy_kn, 8, .inl f164)), (h_td, .inr (5, (mo32 v_td (.ref h_nam) (.ref h_var) (.ref h_trm) (.ref h_ter) (.int z165)))), (h_nam, .inl (cy_nam, 300, .inr (.inl f166))), (h_var, .inl (cy_var, 300, .inl f167)), (h_trm, .inl (cy_trm, 300, .inl f193)), (h_ter, .inl (cy_ter, 900, .inl f191))] H := hP.sub [6, 7, 0, 1, 2, 3, 4, 5] rfl
                    replace hD : va_D A [(h_rd, .inr (4, (mo31 (.ref h_by) (.int x_rd_length) (.int z157) (.int z158) (.ref h_td) (.ref h_kn) (.int z159) (.int z229) (.int z230) (.int z231) (.long z232)))), (h_by, .inl (cy_by, 600, .inl f_by)), (h_kn, .inl (cy_kn, 8, .inl f164)), (h_td, .inr (5, (mo32 v_td (.ref h_nam) (.ref h_var) (.ref h_trm) (.ref h_ter) (.int z165)))), (h_nam, .inl (cy_nam, 300, .inr (.inl f166))), (h_var, .inl (cy_var, 300, .inl f167)), (h_trm, .inl (cy_trm, 300, .inl f193)), (h_ter, .inl (cy_ter, 900, .inl f191))] := hD.sub [6, 7, 0, 1, 2, 3, 4, 5] (by decide) rfl
                    refine W.widen (k := 0) (n := 0) (Nat.le_of_ble_eq_true rfl) (Nat.le_of_ble_eq_true rfl) ?_
                    have w245 : 0 ≤ ((z159)).toInt ∧ ((z159)).toInt ≤ 8 := by first | exact k170 | omega
                    have w246 : 0 ≤ ((z229)).toInt ∧ ((z229)).toInt ≤ 600 := by first | exact k233 | omega
                    have w247 : 0 ≤ ((z230)).toInt ∧ ((z230)).toInt ≤ 600 := by first | exact k234 | omega
                    have w248 : 0 ≤ ((z165)).toInt ∧ ((z165)).toInt ≤ 300 := by first | exact k173 | omega
                    have w249 : 0 ≤ (r82 : Int32).toInt ∧ (r82 : Int32).toInt ≤ 299 := by first | exact k88 | omega
                    have w250 : ((z157)).toInt = ((pTm G (x_rd_length).toInt (pPs G (x_rd_length).toInt 3) (x_rd_at).toInt (x_rd_variables).toInt vf)).1 := by omega
                    have w251 : ((z229)).toInt = ((pTm G (x_rd_length).toInt (pPs G (x_rd_length).toInt 3) (x_rd_at).toInt (x_rd_variables).toInt vf)).2.1 := by omega
                    have w252 : ((z159)).toInt = ((pTm G (x_rd_length).toInt (pPs G (x_rd_length).toInt 3) (x_rd_at).toInt (x_rd_variables).toInt vf)).2.2.1 := by omega
                    have w253 : (((z157)).toInt = 0 ∧ ((z158)).toInt = (x_rd_place).toInt) ∨ (¬ ((z157)).toInt = 0 ∧ ((z158)).toInt = ((z229)).toInt) := by omega
                    have w254 : 2 * ((z165)).toInt ≤ ((z229)).toInt + 1 := by omega
                    have w255 : ((z231)).toInt < 256 ∨ 2 * ((z165)).toInt ≤ ((z229)).toInt := by omega
                    have w256 : (x_rd_at).toInt ≤ ((z229)).toInt := by omega
                    have w257 : ((z231)).toInt = tkT G (x_rd_length).toInt ((z229)).toInt := by first | exact k237 | omega
                    have w258 : ((z231)).toInt = -1 ∨ ((z230)).toInt = tkX G (x_rd_length).toInt ((z229)).toInt := by first | exact k238 | omega
                    have w259 : ¬ ((z231)).toInt = 257 ∨ ((z232)).toInt = G ((z229)).toInt := by first | exact k239 | omega
                    have w260 : -1 ≤ ((z231)).toInt ∧ ((z231)).toInt ≤ 258 := by first | exact k240 | omega
                    have w261 : ((z230)).toInt ≤ (x_rd_length).toInt := by first | exact k241 | omega
                    have w262 : ((z231)).toInt = -1 ∨ ((z229)).toInt < (x_rd_length).toInt := by first | exact k242 | omega
                    have w263 : ((z229)).toInt ≤ (x_rd_length).toInt := by first | exact k243 | omega
                    have w264 : VFC ((z159)).toInt ((pTm G (x_rd_length).toInt (pPs G (x_rd_length).toInt 3) (x_rd_at).toInt (x_rd_variables).toInt vf)).2.2.2 (f164) (f166) ((z165)).toInt := (by rw [pq2264]; exact k189)
                    exact W.iret (v := r82) hx hb hr (fun t ht hW => ⟨⟨r82, (z157, z158, z159, z229, z230, z231, z232, f164, z165, f166, f167, f193, f191), rfl, ⟨w245, w246, w247, hf164, w248, hf167, hf193, hf191, w249, w250, w251, w252, w253, w254, w255, w256, w257, w258, w259, w260, w261, w262, w263, w264⟩, by rw [ht]; exact hP, hD⟩, hS.F ht⟩) hS.2.2 dX5_readPart_219
              · have kc194 := (not_congr (cv_eq (rfl : (z157).toInt = (z157).toInt) (by decide : (0 : Int32).toInt = 0))).mp c194
                have no9 := pLo_no (G := G) (n := (x_rd_length).toInt) (P := (pPs G (x_rd_length).toInt 2)) (r := rr152) (q := (x123).toInt) (nv := (x122).toInt) (vf := gh128) (by rw [← erh190]; omega)
                rw [← erh190] at no9
                have rq9 : (pTm G (x_rd_length).toInt (pPs G (x_rd_length).toInt 3) (x_rd_at).toInt (x_rd_variables).toInt vf) = rh190 := klp129_19.symm.trans no9
                have pq2651 : ((pTm G (x_rd_length).toInt (pPs G (x_rd_length).toInt 3) (x_rd_at).toInt (x_rd_variables).toInt vf)).1 = (rh190).1 := by rw [rq9]
                have pq2652 : ((pTm G (x_rd_length).toInt (pPs G (x_rd_length).toInt 3) (x_rd_at).toInt (x_rd_variables).toInt vf)).2.1 = (rh190).2.1 := by rw [rq9]
                have pq2653 : ((pTm G (x_rd_length).toInt (pPs G (x_rd_length).toInt 3) (x_rd_at).toInt (x_rd_variables).toInt vf)).2.2.1 = (rh190).2.2.1 := by rw [rq9]
                have pq2654 : ((pTm G (x_rd_length).toInt (pPs G (x_rd_length).toInt 3) (x_rd_at).toInt (x_rd_variables).toInt vf)).2.2.2 = (rh190).2.2.2 := by rw [rq9]
                refine lv_iload_n hx hb dX5_readPart_177 rfl (lv_at hl 3 rfl) ?_
                refine W.widen (k := 0) (n := 0) (Nat.le_of_ble_eq_true rfl) (Nat.le_of_ble_eq_true rfl) ?_
                have w266 : 0 ≤ ((z159)).toInt ∧ ((z159)).toInt ≤ 8 := by first | exact k170 | omega
                have w267 : 0 ≤ ((z160)).toInt ∧ ((z160)).toInt ≤ 600 := by first | exact k171 | omega
                have w268 : 0 ≤ ((z161)).toInt ∧ ((z161)).toInt ≤ 600 := by first | exact k172 | omega
                have w269 : 0 ≤ ((z165)).toInt ∧ ((z165)).toInt ≤ 300 := by first | exact k173 | omega
                have w270 : 0 ≤ (r82 : Int32).toInt ∧ (r82 : Int32).toInt ≤ 299 := by first | exact k88 | omega
                have w271 : ((z157)).toInt = ((pTm G (x_rd_length).toInt (pPs G (x_rd_length).toInt 3) (x_rd_at).toInt (x_rd_variables).toInt vf)).1 := by omega
                have w272 : ((z160)).toInt = ((pTm G (x_rd_length).toInt (pPs G (x_rd_length).toInt 3) (x_rd_at).toInt (x_rd_variables).toInt vf)).2.1 := by omega
                have w273 : ((z159)).toInt = ((pTm G (x_rd_length).toInt (pPs G (x_rd_length).toInt 3) (x_rd_at).toInt (x_rd_variables).toInt vf)).2.2.1 := by omega
                have w274 : (((z157)).toInt = 0 ∧ ((z158)).toInt = (x_rd_place).toInt) ∨ (¬ ((z157)).toInt = 0 ∧ ((z158)).toInt = ((z160)).toInt) := by omega
                have w275 : 2 * ((z165)).toInt ≤ ((z160)).toInt + 1 := by first | exact k179 | omega
                have w276 : ((z162)).toInt < 256 ∨ 2 * ((z165)).toInt ≤ ((z160)).toInt := by first | exact k180 | omega
                have w277 : (x_rd_at).toInt ≤ ((z160)).toInt := by omega
                have w278 : ((z162)).toInt = tkT G (x_rd_length).toInt ((z160)).toInt := by first | exact k182 | omega
                have w279 : ((z162)).toInt = -1 ∨ ((z161)).toInt = tkX G (x_rd_length).toInt ((z160)).toInt := by first | exact k183 | omega
                have w280 : ¬ ((z162)).toInt = 257 ∨ ((z163)).toInt = G ((z160)).toInt := by first | exact k184 | omega
                have w281 : -1 ≤ ((z162)).toInt ∧ ((z162)).toInt ≤ 258 := by first | exact k185 | omega
                have w282 : ((z161)).toInt ≤ (x_rd_length).toInt := by first | exact k186 | omega
                have w283 : ((z162)).toInt = -1 ∨ ((z160)).toInt < (x_rd_length).toInt := by first | exact k187 | omega
                have w284 : ((z160)).toInt ≤ (x_rd_length).toInt := by first | exact k188 | omega
                have w285 : VFC ((z159)).toInt ((pTm G (x_rd_length).toInt (pPs G (x_rd_length).toInt 3) (x_rd_at).toInt (x_rd_variables).toInt vf)).2.2.2 (f164) (f166) ((z165)).toInt := (by rw [pq2654]; exact k189)
                exact W.iret (v := r82) hx hb hr (fun t ht hW => ⟨⟨r82, (z157, z158, z159, z160, z161, z162, z163, f164, z165, f166, f167, f193, f191), rfl, ⟨w266, w267, w268, hf164, w269, hf167, hf193, hf191, w270, w271, w272, w273, w274, w275, w276, w277, w278, w279, w280, w281, w282, w283, w284, w285⟩, by rw [ht]; exact hP, hD⟩, hS.F ht⟩) hS.2.2 dX5_readPart_178
            · have kc151 := (cv_eq (rfl : (x113).toInt = (x113).toInt) (by decide : (3 : Int32).toInt = 3)).mp c151
              obtain rfl : gh127 = 0 := by omega
              have pv9 : (pTm G (x_rd_length).toInt (pPs G (x_rd_length).toInt 3) (x_rd_at).toInt (x_rd_variables).toInt vf) = (2, tkN G (x_rd_length).toInt (x123).toInt, (x122).toInt, gh128) := klp129_19.symm.trans (pLo_many (by omega))
              have pq2861 : ((pTm G (x_rd_length).toInt (pPs G (x_rd_length).toInt 3) (x_rd_at).toInt (x_rd_variables).toInt vf)).1 = 2 := by rw [pv9]
              have pq2862 : ((pTm G (x_rd_length).toInt (pPs G (x_rd_length).toInt 3) (x_rd_at).toInt (x_rd_variables).toInt vf)).2.1 = tkN G (x_rd_length).toInt (x123).toInt := by rw [pv9]
              have pq2863 : ((pTm G (x_rd_length).toInt (pPs G (x_rd_length).toInt 3) (x_rd_at).toInt (x_rd_variables).toInt vf)).2.2.1 = (x122).toInt := by rw [pv9]
              have pq2864 : ((pTm G (x_rd_length).toInt (pPs G (x_rd_length).toInt 3) (x_rd_at).toInt (x_rd_variables).toInt vf)).2.2.2 = gh128 := by rw [pv9]
              refine lv_aload_n hx hb dX5_readPart_128 rfl (lv_at hl 0 rfl) ?_
              refine lv_iconst (v := 2) hx hb dX5_readPart_129 (by decide) ?_
              obtain ⟨vq287, evq287⟩ := mq31_27 (.ref h_by) (.int x_rd_length) (.ref h_td) (.ref h_kn) (.int x122) (.int z135) (.int z136) (.long z137)
              replace hP : va_P (dC, dI) cls [(h_kn, .inl (cy_kn, 8, .inl f114)), (h_ter, .inl (cy_ter, 900, .inl f115)), (h_td, .inr (5, (mo32 v_td (.ref h_nam) (.ref h_var) (.ref h_trm) (.ref h_ter) (.int x116)))), (h_nam, .inl (cy_nam, 300, .inr (.inl f117))), (h_var, .inl (cy_var, 300, .inl f118)), (h_trm, .inl (cy_trm, 300, .inl f119)), (h_rd, .inr (4, (mo27 vq287 (.int x120) (.int x121) (.int z134)))), (h_by, .inl (cy_by, 600, .inl f_by))] H := by rw [evq287]; exact hP
              replace hD : va_D A [(h_kn, .inl (cy_kn, 8, .inl f114)), (h_ter, .inl (cy_ter, 900, .inl f115)), (h_td, .inr (5, (mo32 v_td (.ref h_nam) (.ref h_var) (.ref h_trm) (.ref h_ter) (.int x116)))), (h_nam, .inl (cy_nam, 300, .inr (.inl f117))), (h_var, .inl (cy_var, 300, .inl f118)), (h_trm, .inl (cy_trm, 300, .inl f119)), (h_rd, .inr (4, (mo27 vq287 (.int x120) (.int x121) (.int z134)))), (h_by, .inl (cy_by, 600, .inl f_by))] := by rw [evq287]; exact hD
              have cst2 : (2 : Int32).toInt = 2 := by decide
              have hPc := hP.sub (ws' := [(h_rd, .inr (4, (mo27 vq287 (.int x120) (.int x121) (.int z134))))]) [6] rfl
              have hDc := hD.sub (ws' := [(h_rd, .inr (4, (mo27 vq287 (.int x120) (.int x121) (.int z134))))]) [6] (by decide) rfl
              have hKc := hK.sub (tys' := []) [] rfl
              have hFc := va_free (wc := [(h_rd, .inr (4, (mo27 vq287 (.int x120) (.int x121) (.int z134))))]) hD hS hA [6] rfl
              refine va_callv (va_runV (As := [.int 2]) (rest := []) ⟨hx, hb, hml, hown, hts⟩ (c_X5_blame l dC dI H.size h_rd vq287 x120 x121 z134 2 (by first | exact k138 | omega)) (cwV 1 hts (gv hT w_m_X5_56 w_instanceMethod_X5_blame ws_sel_X5_blame w_ini_X5 w_code_X5_blame) rfl rfl rfl (by decide +kernel) ⟨(Nat.le_of_ble_eq_true rfl), (Nat.le_of_ble_eq_true rfl)⟩) ⟨pre_blind, va_recv hK hP (ci := 4) (q0 := 6) rfl rfl, pre_of hPc hKc hDc hN⟩ rfl rfl hl.1 rfl (lv_room (Nat.le_of_ble_eq_true rfl)) dX5_readPart_130 ⟨(Nat.le_of_ble_eq_true rfl), (Nat.le_of_ble_eq_true rfl)⟩) hS (fun q _ h => hFc q h) hFc (fun u t H locs ht hvm hq hB hz1 hk1 hS9 => ?_)
              obtain ⟨z289, z290⟩ := u
              obtain ⟨hP1, hD1⟩ := hB
              rw [ht] at hP1
              obtain ⟨hP9, hD9⟩ := va_join (wr := [(h_kn, .inl (cy_kn, 8, .inl f114)), (h_ter, .inl (cy_ter, 900, .inl f115)), (h_td, .inr (5, (mo32 v_td (.ref h_nam) (.ref h_var) (.ref h_trm) (.ref h_ter) (.int x116)))), (h_nam, .inl (cy_nam, 300, .inr (.inl f117))), (h_var, .inl (cy_var, 300, .inl f118)), (h_trm, .inl (cy_trm, 300, .inl f119)), (h_by, .inl (cy_by, 600, .inl f_by))]) (w1 := [(h_rd, .inr (4, (mo27 vq287 (.int z289) (.int z290) (.int z134))))]) hP hD [6] [0, 1, 2, 3, 4, 5, 7] rfl rfl (by decide) (by decide) hk1 hFc hP1 hD1
              clear hP hD hS hPc hDc hKc hFc hP1 hD1 hk1 hz1 ht hvm
              have hP : va_P (dC, dI) cls [(h_kn, .inl (cy_kn, 8, .inl f114)), (h_ter, .inl (cy_ter, 900, .inl f115)), (h_td, .inr (5, (mo32 v_td (.ref h_nam) (.ref h_var) (.ref h_trm) (.ref h_ter) (.int x116)))), (h_nam, .inl (cy_nam, 300, .inr (.inl f117))), (h_var, .inl (cy_var, 300, .inl f118)), (h_trm, .inl (cy_trm, 300, .inl f119)), (h_by, .inl (cy_by, 600, .inl f_by)), (h_rd, .inr (4, (mo27 vq287 (.int z289) (.int z290) (.int z134))))] H := hP9
              have hD : va_D A [(h_kn, .inl (cy_kn, 8, .inl f114)), (h_ter, .inl (cy_ter, 900, .inl f115)), (h_td, .inr (5, (mo32 v_td (.ref h_nam) (.ref h_var) (.ref h_trm) (.ref h_ter) (.int x116)))), (h_nam, .inl (cy_nam, 300, .inr (.inl f117))), (h_var, .inl (cy_var, 300, .inl f118)), (h_trm, .inl (cy_trm, 300, .inl f119)), (h_by, .inl (cy_by, 600, .inl f_by)), (h_rd, .inr (4, (mo27 vq287 (.int z289) (.int z290) (.int z134))))] := hD9
              have hS := hS9
              clear hP9 hD9 hS9
              rw [evq287] at hP hD
              replace hP : va_P (dC, dI) cls [(h_kn, .inl (cy_kn, 8, .inl f114)), (h_ter, .inl (cy_ter, 900, .inl f115)), (h_td, .inr (5, (mo32 v_td (.ref h_nam) (.ref h_var) (.ref h_trm) (.ref h_ter) (.int x116)))), (h_nam, .inl (cy_nam, 300, .inr (.inl f117))), (h_var, .inl (cy_var, 300, .inl f118)), (h_trm, .inl (cy_trm, 300, .inl f119)), (h_by, .inl (cy_by, 600, .inl f_by)), (h_rd, .inr (4, (mo31 (.ref h_by) (.int x_rd_length) (.int z289) (.int z290) (.ref h_td) (.ref h_kn) (.int x122) (.int z134) (.int z135) (.int z136) (.long z137))))] H := hP
              replace hD : va_D A [(h_kn, .inl (cy_kn, 8, .inl f114)), (h_ter, .inl (cy_ter, 900, .inl f115)), (h_td, .inr (5, (mo32 v_td (.ref h_nam) (.ref h_var) (.ref h_trm) (.ref h_ter) (.int x116)))), (h_nam, .inl (cy_nam, 300, .inr (.inl f117))), (h_var, .inl (cy_var, 300, .inl f118)), (h_trm, .inl (cy_trm, 300, .inl f119)), (h_by, .inl (cy_by, 600, .inl f_by)), (h_rd, .inr (4, (mo31 (.ref h_by) (.int x_rd_length) (.int z289) (.int z290) (.ref h_td) (.ref h_kn) (.int x122) (.int z134) (.int z135) (.int z136) (.long z137))))] := hD
              clear evq287 
              obtain ⟨k291, k292⟩ := hq
              replace k291 : ((z289)).toInt = ((2 : Int32)).toInt := k291
              replace k292 : ((z290)).toInt = ((z134)).toInt := k292
              refine lv_goto (tgt := 170) hx hb dX5_readPart_133 (by decide) ?_
              refine lv_aload_n hx hb dX5_readPart_170 rfl (lv_at hl 0 rfl) ?_
              refine va_get (D := (dC, dI)) (ci := 4) (v := .int z289) (C := RX5) (T := TX5) (N := 11) hx hb hw iwX5 hown hK hP 7 rfl rfl 2 (by decide) (hw _ w_f_X5_34) (fun _ h9 => h9) rfl dX5_readPart_171 ?_
              refine lv_if_eq (tgt := 179) hx hb dX5_readPart_174 (by decide) (fun c293 => False.elim (by have kc293 := (cv_eq (rfl : (z289).toInt = (z289).toInt) (by decide : (0 : Int32).toInt = 0)).mp c293; omega)) (fun _ => ?_)
              refine lv_iload_n hx hb dX5_readPart_177 rfl (lv_at hl 3 rfl) ?_
              replace hP : va_P (dC, dI) cls [(h_rd, .inr (4, (mo31 (.ref h_by) (.int x_rd_length) (.int z289) (.int z290) (.ref h_td) (.ref h_kn) (.int x122) (.int z134) (.int z135) (.int z136) (.long z137)))), (h_by, .inl (cy_by, 600, .inl f_by)), (h_kn, .inl (cy_kn, 8, .inl f114)), (h_td, .inr (5, (mo32 v_td (.ref h_nam) (.ref h_var) (.ref h_trm) (.ref h_ter) (.int x116)))), (h_nam, .inl (cy_nam, 300, .inr (.inl f117))), (h_var, .inl (cy_var, 300, .inl f118)), (h_trm, .inl (cy_trm, 300, .inl f119)), (h_ter, .inl (cy_ter, 900, .inl f115))] H := hP.sub [7, 6, 0, 2, 3, 4, 5, 1] rfl
              replace hD : va_D A [(h_rd, .inr (4, (mo31 (.ref h_by) (.int x_rd_length) (.int z289) (.int z290) (.ref h_td) (.ref h_kn) (.int x122) (.int z134) (.int z135) (.int z136) (.long z137)))), (h_by, .inl (cy_by, 600, .inl f_by)), (h_kn, .inl (cy_kn, 8, .inl f114)), (h_td, .inr (5, (mo32 v_td (.ref h_nam) (.ref h_var) (.ref h_trm) (.ref h_ter) (.int x116)))), (h_nam, .inl (cy_nam, 300, .inr (.inl f117))), (h_var, .inl (cy_var, 300, .inl f118)), (h_trm, .inl (cy_trm, 300, .inl f119)), (h_ter, .inl (cy_ter, 900, .inl f115))] := hD.sub [7, 6, 0, 2, 3, 4, 5, 1] (by decide) rfl
              refine W.widen (k := 0) (n := 0) (Nat.le_of_ble_eq_true rfl) (Nat.le_of_ble_eq_true rfl) ?_
              have w294 : 0 ≤ ((x122)).toInt ∧ ((x122)).toInt ≤ 8 := by first | exact klp129_6 | omega
              have w295 : 0 ≤ ((z134)).toInt ∧ ((z134)).toInt ≤ 600 := by first | exact k138 | omega
              have w296 : 0 ≤ ((z135)).toInt ∧ ((z135)).toInt ≤ 600 := by first | exact k139 | omega
              have w297 : 0 ≤ ((x116)).toInt ∧ ((x116)).toInt ≤ 300 := by first | exact klp129_3 | omega
              have w298 : 0 ≤ (r82 : Int32).toInt ∧ (r82 : Int32).toInt ≤ 299 := by first | exact k88 | omega
              have w299 : ((z289)).toInt = ((pTm G (x_rd_length).toInt (pPs G (x_rd_length).toInt 3) (x_rd_at).toInt (x_rd_variables).toInt vf)).1 := by omega
              have w300 : ((z134)).toInt = ((pTm G (x_rd_length).toInt (pPs G (x_rd_length).toInt 3) (x_rd_at).toInt (x_rd_variables).toInt vf)).2.1 := by omega
              have w301 : ((x122)).toInt = ((pTm G (x_rd_length).toInt (pPs G (x_rd_length).toInt 3) (x_rd_at).toInt (x_rd_variables).toInt vf)).2.2.1 := by omega
              have w302 : (((z289)).toInt = 0 ∧ ((z290)).toInt = (x_rd_place).toInt) ∨ (¬ ((z289)).toInt = 0 ∧ ((z290)).toInt = ((z134)).toInt) := by omega
              have w303 : 2 * ((x116)).toInt ≤ ((z134)).toInt + 1 := by omega
              have w304 : ((z136)).toInt < 256 ∨ 2 * ((x116)).toInt ≤ ((z134)).toInt := by omega
              have w305 : (x_rd_at).toInt ≤ ((z134)).toInt := by omega
              have w306 : ((z136)).toInt = tkT G (x_rd_length).toInt ((z134)).toInt := by first | exact k142 | omega
              have w307 : ((z136)).toInt = -1 ∨ ((z135)).toInt = tkX G (x_rd_length).toInt ((z134)).toInt := by first | exact k143 | omega
              have w308 : ¬ ((z136)).toInt = 257 ∨ ((z137)).toInt = G ((z134)).toInt := by first | exact k144 | omega
              have w309 : -1 ≤ ((z136)).toInt ∧ ((z136)).toInt ≤ 258 := by first | exact k145 | omega
              have w310 : ((z135)).toInt ≤ (x_rd_length).toInt := by first | exact k146 | omega
              have w311 : ((z136)).toInt = -1 ∨ ((z134)).toInt < (x_rd_length).toInt := by first | exact k147 | omega
              have w312 : ((z134)).toInt ≤ (x_rd_length).toInt := by first | exact k148 | omega
              have w313 : VFC ((x122)).toInt ((pTm G (x_rd_length).toInt (pPs G (x_rd_length).toInt 3) (x_rd_at).toInt (x_rd_variables).toInt vf)).2.2.2 (f114) (f117) ((x116)).toInt := (by rw [pq2864]; exact klp129_20)
              exact W.iret (v := r82) hx hb hr (fun t ht hW => ⟨⟨r82, (z289, z290, x122, z134, z135, z136, z137, f114, x116, f117, f118, f119, f115), rfl, ⟨w294, w295, w296, hf114, w297, hf118, hf119, hf115, w298, w299, w300, w301, w302, w303, w304, w305, w306, w307, w308, w309, w310, w311, w312, w313⟩, by rw [ht]; exact hP, hD⟩, hS.F ht⟩) hS.2.2 dX5_readPart_178
          · have kc150 := (not_congr (cv_eq (rfl : (z136).toInt = (z136).toInt) (by decide : (256 : Int32).toInt = 256))).mp c150
            refine lv_aload_n hx hb dX5_readPart_104 rfl (lv_at hl 0 rfl) ?_
            refine va_get (D := (dC, dI)) (ci := 4) (v := .int z136) (C := RX5) (T := TX5) (N := 11) hx hb hw iwX5 hown hK hP 6 rfl rfl 9 (by decide) (hw _ w_f_X5_43) (fun _ h9 => h9) rfl dX5_readPart_105 ?_
            refine lv_sipush (v := 257) hx hb dX5_readPart_108 (by decide) ?_
            refine lv_icmp_eq (tgt := 122) hx hb dX5_readPart_111 (by decide) (fun c314 => ?_) (fun c314 => ?_)
            · have kc314 := (cv_eq (rfl : (z136).toInt = (z136).toInt) (by decide : (257 : Int32).toInt = 257)).mp c314
              refine lv_iload hx hb dX5_readPart_122 (lv_at hl 4 rfl) ?_
              refine lv_iconst (v := 3) hx hb dX5_readPart_124 (by decide) ?_
              refine lv_icmp_ne (tgt := 136) hx hb dX5_readPart_125 (by decide) (fun c315 => ?_) (fun c315 => ?_)
              · have kc315 := (not_congr (cv_eq (rfl : (x113).toInt = (x113).toInt) (by decide : (3 : Int32).toInt = 3))).mp c315
                obtain ⟨rr316, rfl⟩ : ∃ y : Nat, gh127 = y + 1 := ⟨gh127 - 1, by omega⟩
                refine lv_aload_n hx hb dX5_readPart_136 rfl (lv_at hl 0 rfl) ?_
                refine va_get (D := (dC, dI)) (ci := 4) (v := .ref h_td) (C := RX5) (T := TX5) (N := 11) hx hb hw iwX5 hown hK hP 6 rfl rfl 4 (by decide) (hw _ w_f_X5_25) (fun _ h9 => h9) rfl dX5_readPart_137 ?_
                refine va_getN (D := (dC, dI)) (ci := 5) (v := .ref h_ter) (C := RX8) (T := TX8) (N := 10) (host := "OppositePairs") hx hb hw iwX8 hown hK hP 2 rfl rfl 3 (by decide) (hN.use n_f_X5_97 rfl) (fun _ h9 => h9) rfl dX5_readPart_140 ?_
                refine lv_iload_n hx hb dX5_readPart_143 rfl (lv_at hl 3 rfl) ?_
                refine lv_iconst (v := 3) hx hb dX5_readPart_144 (by decide) ?_
                refine lv_imul hx hb dX5_readPart_145 ?_
                refine lv_topi (fun z317 ez317 => ?_)
                have tz317 : (z317).toInt = (r82).toInt * 3 := by rw [ez317]; exact i_mul rfl (by decide) (by omega)
                refine lv_iload hx hb dX5_readPart_146 (lv_at hl 4 rfl) ?_
                refine lv_iadd hx hb dX5_readPart_148 ?_
                refine lv_topi (fun z318 ez318 => ?_)
                have tz318 : (z318).toInt = (z317).toInt + (x113).toInt := by rw [ez318]; exact i_add rfl rfl (by omega)
                refine lv_aload_n hx hb dX5_readPart_149 rfl (lv_at hl 0 rfl) ?_
                refine lv_iload_n hx hb dX5_readPart_150 rfl (lv_at hl 1 rfl) ?_
                refine lv_iconst (v := 1) hx hb dX5_readPart_151 (by decide) ?_
                refine lv_iadd hx hb dX5_readPart_152 ?_
                refine lv_topi (fun z319 ez319 => ?_)
                obtain rfl : z319 = 4 := ez319.trans (by decide)
                have cst4 : (4 : Int32).toInt = 4 := by decide
                have hPc := hP.sub (ws' := [(h_rd, .inr (4, (mo31 (.ref h_by) (.int x_rd_length) (.int x120) (.int x121) (.ref h_td) (.ref h_kn) (.int x122) (.int z134) (.int z135) (.int z136) (.long z137)))), (h_by, .inl (cy_by, 600, .inl f_by)), (h_kn, .inl (cy_kn, 8, .inl f114)), (h_td, .inr (5, (mo32 v_td (.ref h_nam) (.ref h_var) (.ref h_trm) (.ref h_ter) (.int x116)))), (h_nam, .inl (cy_nam, 300, .inr (.inl f117))), (h_var, .inl (cy_var, 300, .inl f118)), (h_trm, .inl (cy_trm, 300, .inl f119)), (h_ter, .inl (cy_ter, 900, .inl f115))]) [6, 7, 0, 2, 3, 4, 5, 1] rfl
                have hDc := hD.sub (ws' := [(h_rd, .inr (4, (mo31 (.ref h_by) (.int x_rd_length) (.int x120) (.int x121) (.ref h_td) (.ref h_kn) (.int x122) (.int z134) (.int z135) (.int z136) (.long z137)))), (h_by, .inl (cy_by, 600, .inl f_by)), (h_kn, .inl (cy_kn, 8, .inl f114)), (h_td, .inr (5, (mo32 v_td (.ref h_nam) (.ref h_var) (.ref h_trm) (.ref h_ter) (.int x116)))), (h_nam, .inl (cy_nam, 300, .inr (.inl f117))), (h_var, .inl (cy_var, 300, .inl f118)), (h_trm, .inl (cy_trm, 300, .inl f119)), (h_ter, .inl (cy_ter, 900, .inl f115))]) [6, 7, 0, 2, 3, 4, 5, 1] (by decide) rfl
                have hKc := hK.sub (tys' := [(cy_by, .int), (cy_kn, .int), (cy_nam, .long), (cy_var, .int), (cy_trm, .int), (cy_ter, .int)]) [0, 1, 2, 3, 4, 5] rfl
                have hFc := va_free (wc := [(h_rd, .inr (4, (mo31 (.ref h_by) (.int x_rd_length) (.int x120) (.int x121) (.ref h_td) (.ref h_kn) (.int x122) (.int z134) (.int z135) (.int z136) (.long z137)))), (h_by, .inl (cy_by, 600, .inl f_by)), (h_kn, .inl (cy_kn, 8, .inl f114)), (h_td, .inr (5, (mo32 v_td (.ref h_nam) (.ref h_var) (.ref h_trm) (.ref h_ter) (.int x116)))), (h_nam, .inl (cy_nam, 300, .inr (.inl f117))), (h_var, .inl (cy_var, 300, .inl f118)), (h_trm, .inl (cy_trm, 300, .inl f119)), (h_ter, .inl (cy_ter, 900, .inl f115))]) hD hS hA [6, 7, 0, 2, 3, 4, 5, 1] rfl
                refine va_calli (va_runV (As := [.int 4]) (rest := [.int z318, .ref h_ter]) ⟨hx, hb, hml, hown, hts⟩ (c_X5_readPart_4 l dC dI H.size h_rd h_by h_kn h_td h_nam h_var h_trm h_ter x_rd_length x120 x121 x122 z134 z135 z136 z137 cy_by f_by cy_kn f114 v_td x116 cy_nam f117 cy_var f118 cy_trm f119 cy_ter f115 G gh128 (by first | exact hx_rd_length | omega) (by first | exact klp129_6 | omega) (by first | exact k138 | omega) (by first | exact k139 | omega) hf_by hf114 (by first | exact klp129_3 | omega) hf118 hf119 hf115 (by first | exact k142 | omega) (by omega) (by omega) (by first | exact k144 | omega) (by omega) (by omega) (by omega) (by first | exact k146 | omega) hn_byt klp129_20) (cwV 1 hts (gv hT w_m_X5_81 w_instanceMethod_X5_readPart ws_sel_X5_readPart w_ini_X5 w_code_X5_readPart) rfl rfl rfl (by decide +kernel) ⟨(Nat.le_of_ble_eq_true rfl), (Nat.le_of_ble_eq_true rfl)⟩) ⟨pre_blind, va_recv hK hP (ci := 4) (q0 := 6) rfl rfl, pre_of hPc hKc hDc hN⟩ rfl rfl hl.1 rfl (lv_room (Nat.le_of_ble_eq_true rfl)) dX5_readPart_153 ⟨(Nat.le_of_ble_eq_true rfl), (Nat.le_of_ble_eq_true rfl)⟩) hS (fun q _ h => hFc q h) hFc (fun r320 u t H locs ht hvm hq hB hz1 hk1 hS9 => ?_)
                obtain ⟨z321, z322, z323, z324, z325, z326, z327, f328, z329, f330, f331, f332, f333⟩ := u
                obtain ⟨hP1, hD1⟩ := hB
                rw [ht] at hP1
                obtain ⟨hP9, hD9⟩ := va_join (wr := []) (w1 := [(h_rd, .inr (4, (mo31 (.ref h_by) (.int x_rd_length) (.int z321) (.int z322) (.ref h_td) (.ref h_kn) (.int z323) (.int z324) (.int z325) (.int z326) (.long z327)))), (h_by, .inl (cy_by, 600, .inl f_by)), (h_kn, .inl (cy_kn, 8, .inl f328)), (h_td, .inr (5, (mo32 v_td (.ref h_nam) (.ref h_var) (.ref h_trm) (.ref h_ter) (.int z329)))), (h_nam, .inl (cy_nam, 300, .inr (.inl f330))), (h_var, .inl (cy_var, 300, .inl f331)), (h_trm, .inl (cy_trm, 300, .inl f332)), (h_ter, .inl (cy_ter, 900, .inl f333))]) hP hD [6, 7, 0, 2, 3, 4, 5, 1] [] rfl rfl (by decide) (by decide) hk1 hFc hP1 hD1
                clear hP hD hS hPc hDc hKc hFc hP1 hD1 hk1 hz1 ht hvm
                have hP : va_P (dC, dI) cls [(h_rd, .inr (4, (mo31 (.ref h_by) (.int x_rd_length) (.int z321) (.int z322) (.ref h_td) (.ref h_kn) (.int z323) (.int z324) (.int z325) (.int z326) (.long z327)))), (h_by, .inl (cy_by, 600, .inl f_by)), (h_kn, .inl (cy_kn, 8, .inl f328)), (h_td, .inr (5, (mo32 v_td (.ref h_nam) (.ref h_var) (.ref h_trm) (.ref h_ter) (.int z329)))), (h_nam, .inl (cy_nam, 300, .inr (.inl f330))), (h_var, .inl (cy_var, 300, .inl f331)), (h_trm, .inl (cy_trm, 300, .inl f332)), (h_ter, .inl (cy_ter, 900, .inl f333))] H := hP9
                have hD : va_D A [(h_rd, .inr (4, (mo31 (.ref h_by) (.int x_rd_length) (.int z321) (.int z322) (.ref h_td) (.ref h_kn) (.int z323) (.int z324) (.int z325) (.int z326) (.long z327)))), (h_by, .inl (cy_by, 600, .inl f_by)), (h_kn, .inl (cy_kn, 8, .inl f328)), (h_td, .inr (5, (mo32 v_td (.ref h_nam) (.ref h_var) (.ref h_trm) (.ref h_ter) (.int z329)))), (h_nam, .inl (cy_nam, 300, .inr (.inl f330))), (h_var, .inl (cy_var, 300, .inl f331)), (h_trm, .inl (cy_trm, 300, .inl f332)), (h_ter, .inl (cy_ter, 900, .inl f333))] := hD9
                have hS := hS9
                clear hP9 hD9 hS9
                obtain ⟨k334, k335, k336, hf328, k337, hf331, hf332, hf333, k338, k339, k340, k341, k342, k343, k344, k345, k346, k347, k348, k349, k350, k351, k352, k353⟩ := hq
                replace k334 : 0 ≤ ((z323)).toInt ∧ ((z323)).toInt ≤ 8 := k334
                replace k335 : 0 ≤ ((z324)).toInt ∧ ((z324)).toInt ≤ 600 := k335
                replace k336 : 0 ≤ ((z325)).toInt ∧ ((z325)).toInt ≤ 600 := k336
                replace hf328 : Rg 0 299 (f328) := hf328
                replace k337 : 0 ≤ ((z329)).toInt ∧ ((z329)).toInt ≤ 300 := k337
                replace hf331 : Rg (-1) 7 (f331) := hf331
                replace hf332 : Rg 0 3 (f332) := hf332
                replace hf333 : Rg 0 299 (f333) := hf333
                replace k338 : 0 ≤ (r320).toInt ∧ (r320).toInt ≤ 299 := k338
                replace k339 : ((z321)).toInt = ((pTm (G) ((x_rd_length)).toInt (pPs (G) ((x_rd_length)).toInt 2) ((z134)).toInt ((x122)).toInt (gh128))).1 := k339
                replace k340 : ((z324)).toInt = ((pTm (G) ((x_rd_length)).toInt (pPs (G) ((x_rd_length)).toInt 2) ((z134)).toInt ((x122)).toInt (gh128))).2.1 := k340
                replace k341 : ((z323)).toInt = ((pTm (G) ((x_rd_length)).toInt (pPs (G) ((x_rd_length)).toInt 2) ((z134)).toInt ((x122)).toInt (gh128))).2.2.1 := k341
                replace k342 : (((z321)).toInt = 0 ∧ ((z322)).toInt = ((x121)).toInt) ∨ (¬ ((z321)).toInt = 0 ∧ ((z322)).toInt = ((z324)).toInt) := k342
                replace k343 : 2 * ((z329)).toInt ≤ ((z324)).toInt + 1 := k343
                replace k344 : ((z326)).toInt < 256 ∨ 2 * ((z329)).toInt ≤ ((z324)).toInt := k344
                replace k345 : ((z134)).toInt ≤ ((z324)).toInt := k345
                replace k346 : ((z326)).toInt = tkT (G) ((x_rd_length)).toInt ((z324)).toInt := k346
                replace k347 : ((z326)).toInt = -1 ∨ ((z325)).toInt = tkX (G) ((x_rd_length)).toInt ((z324)).toInt := k347
                replace k348 : ¬ ((z326)).toInt = 257 ∨ ((z327)).toInt = (G) ((z324)).toInt := k348
                replace k349 : -1 ≤ ((z326)).toInt ∧ ((z326)).toInt ≤ 258 := k349
                replace k350 : ((z325)).toInt ≤ ((x_rd_length)).toInt := k350
                replace k351 : ((z326)).toInt = -1 ∨ ((z324)).toInt < ((x_rd_length)).toInt := k351
                replace k352 : ((z324)).toInt ≤ ((x_rd_length)).toInt := k352
                replace k353 : VFC ((z323)).toInt ((pTm (G) ((x_rd_length)).toInt (pPs (G) ((x_rd_length)).toInt 2) ((z134)).toInt ((x122)).toInt (gh128))).2.2.2 (f328) (f330) ((z329)).toInt := k353
                obtain ⟨rh354, erh354⟩ : ∃ x : PR, x = (pTm (G) ((x_rd_length)).toInt (pPs (G) ((x_rd_length)).toInt 2) ((z134)).toInt ((x122)).toInt (gh128)) := ⟨_, rfl⟩
                rw [← erh354] at k339 k340 k341 k353
                rw [tn149] at erh354
                refine va_iast hx hb hK hP hD hS 7 5 rfl rfl (i := z318) (x := r320) (vp_in_iff.mpr (by omega)) dX5_readPart_156 (fun H locs hP9 hD9 hS9 => ?_)
                obtain ⟨f355, ef355⟩ : ∃ g : Nat → Int32, g = upd f333 (Int32.toNatClampNeg z318) r320 := ⟨_, rfl⟩
                clear hP hD hS
                have hP : va_P (dC, dI) cls [(h_rd, .inr (4, (mo31 (.ref h_by) (.int x_rd_length) (.int z321) (.int z322) (.ref h_td) (.ref h_kn) (.int z323) (.int z324) (.int z325) (.int z326) (.long z327)))), (h_by, .inl (cy_by, 600, .inl f_by)), (h_kn, .inl (cy_kn, 8, .inl f328)), (h_td, .inr (5, (mo32 v_td (.ref h_nam) (.ref h_var) (.ref h_trm) (.ref h_ter) (.int z329)))), (h_nam, .inl (cy_nam, 300, .inr (.inl f330))), (h_var, .inl (cy_var, 300, .inl f331)), (h_trm, .inl (cy_trm, 300, .inl f332)), (h_ter, .inl (cy_ter, 900, .inl f355))] H := by rw [ef355]; exact hP9
                have hD : va_D A [(h_rd, .inr (4, (mo31 (.ref h_by) (.int x_rd_length) (.int z321) (.int z322) (.ref h_td) (.ref h_kn) (.int z323) (.int z324) (.int z325) (.int z326) (.long z327)))), (h_by, .inl (cy_by, 600, .inl f_by)), (h_kn, .inl (cy_kn, 8, .inl f328)), (h_td, .inr (5, (mo32 v_td (.ref h_nam) (.ref h_var) (.ref h_trm) (.ref h_ter) (.int z329)))), (h_nam, .inl (cy_nam, 300, .inr (.inl f330))), (h_var, .inl (cy_var, 300, .inl f331)), (h_trm, .inl (cy_trm, 300, .inl f332)), (h_ter, .inl (cy_ter, 900, .inl f355))] := by rw [ef355]; exact hD9
                have hS := hS9
                clear hP9 hD9 hS9
                have hf355 : Rg 0 299 f355 := by rw [ef355]; exact rg_upd hf333 (by omega)
                clear ef355
                refine lv_aload_n hx hb dX5_readPart_157 rfl (lv_at hl 0 rfl) ?_
                refine va_get (D := (dC, dI)) (ci := 4) (v := .ref h_td) (C := RX5) (T := TX5) (N := 11) hx hb hw iwX5 hown hK hP 0 rfl rfl 4 (by decide) (hw _ w_f_X5_25) (fun _ h9 => h9) rfl dX5_readPart_158 ?_
                refine va_getN (D := (dC, dI)) (ci := 5) (v := .ref h_trm) (C := RX8) (T := TX8) (N := 10) (host := "OppositePairs") hx hb hw iwX8 hown hK hP 3 rfl rfl 2 (by decide) (hN.use n_f_X5_100 rfl) (fun _ h9 => h9) rfl dX5_readPart_161 ?_
                refine lv_iload_n hx hb dX5_readPart_164 rfl (lv_at hl 3 rfl) ?_
                refine lv_iload hx hb dX5_readPart_165 (lv_at hl 4 rfl) ?_
                refine lv_iconst (v := 1) hx hb dX5_readPart_167 (by decide) ?_
                refine lv_iadd hx hb dX5_readPart_168 ?_
                refine lv_topi (fun z356 ez356 => ?_)
                have tz356 : (z356).toInt = (x113).toInt + 1 := by rw [ez356]; exact i_add rfl (by decide) (by omega)
                refine va_iast hx hb hK hP hD hS 6 4 rfl rfl (i := r82) (x := z356) (vp_in_iff.mpr (by omega)) dX5_readPart_169 (fun H locs hP9 hD9 hS9 => ?_)
                obtain ⟨f357, ef357⟩ : ∃ g : Nat → Int32, g = upd f332 (Int32.toNatClampNeg r82) z356 := ⟨_, rfl⟩
                clear hP hD hS
                have hP : va_P (dC, dI) cls [(h_rd, .inr (4, (mo31 (.ref h_by) (.int x_rd_length) (.int z321) (.int z322) (.ref h_td) (.ref h_kn) (.int z323) (.int z324) (.int z325) (.int z326) (.long z327)))), (h_by, .inl (cy_by, 600, .inl f_by)), (h_kn, .inl (cy_kn, 8, .inl f328)), (h_td, .inr (5, (mo32 v_td (.ref h_nam) (.ref h_var) (.ref h_trm) (.ref h_ter) (.int z329)))), (h_nam, .inl (cy_nam, 300, .inr (.inl f330))), (h_var, .inl (cy_var, 300, .inl f331)), (h_trm, .inl (cy_trm, 300, .inl f357)), (h_ter, .inl (cy_ter, 900, .inl f355))] H := by rw [ef357]; exact hP9
                have hD : va_D A [(h_rd, .inr (4, (mo31 (.ref h_by) (.int x_rd_length) (.int z321) (.int z322) (.ref h_td) (.ref h_kn) (.int z323) (.int z324) (.int z325) (.int z326) (.long z327)))), (h_by, .inl (cy_by, 600, .inl f_by)), (h_kn, .inl (cy_kn, 8, .inl f328)), (h_td, .inr (5, (mo32 v_td (.ref h_nam) (.ref h_var) (.ref h_trm) (.ref h_ter) (.int z329)))), (h_nam, .inl (cy_nam, 300, .inr (.inl f330))), (h_var, .inl (cy_var, 300, .inl f331)), (h_trm, .inl (cy_trm, 300, .inl f357)), (h_ter, .inl (cy_ter, 900, .inl f355))] := by rw [ef357]; exact hD9
                have hS := hS9
                clear hP9 hD9 hS9
                have hf357 : Rg 0 3 f357 := by rw [ef357]; exact rg_upd hf332 (by omega)
                clear ef357
                refine lv_aload_n hx hb dX5_readPart_170 rfl (lv_at hl 0 rfl) ?_
                refine va_get (D := (dC, dI)) (ci := 4) (v := .int z321) (C := RX5) (T := TX5) (N := 11) hx hb hw iwX5 hown hK hP 0 rfl rfl 2 (by decide) (hw _ w_f_X5_34) (fun _ h9 => h9) rfl dX5_readPart_171 ?_
                refine lv_if_eq (tgt := 179) hx hb dX5_readPart_174 (by decide) (fun c358 => ?_) (fun c358 => ?_)
                · have kc358 := (cv_eq (rfl : (z321).toInt = (z321).toInt) (by decide : (0 : Int32).toInt = 0)).mp c358
                  refine lv_aload_n hx hb dX5_readPart_179 rfl (lv_at hl 0 rfl) ?_
                  refine va_get (D := (dC, dI)) (ci := 4) (v := .int z326) (C := RX5) (T := TX5) (N := 11) hx hb hw iwX5 hown hK hP 0 rfl rfl 9 (by decide) (hw _ w_f_X5_43) (fun _ h9 => h9) rfl dX5_readPart_180 ?_
                  refine lv_bipush (v := 44) hx hb dX5_readPart_183 (by decide) ?_
                  refine lv_icmp_eq (tgt := 191) hx hb dX5_readPart_185 (by decide) (fun c359 => ?_) (fun c359 => ?_)
                  · have kc359 := (cv_eq (rfl : (z326).toInt = (z326).toInt) (by decide : (44 : Int32).toInt = 44)).mp c359
                    have on9 := pLo_on (G := G) (n := (x_rd_length).toInt) (P := (pPs G (x_rd_length).toInt 2)) (r := rr316) (q := (x123).toInt) (nv := (x122).toInt) (vf := gh128) (by rw [← erh354]; omega) (by rw [← erh354, ← k340]; omega)
                    rw [← erh354, ← k340, ← k341] at on9
                    have lo360 := on9.symm.trans klp129_19
                    obtain ⟨z361, ez361⟩ : ∃ y : Int32, y = x113 + 1 := ⟨_, rfl⟩
                    have tz361 : (z361).toInt = (x113).toInt + 1 := by rw [ez361]; exact i_add rfl (by decide) (by omega)
                    refine lv_iinc (v := z361) (lv' := [(4, .int z361), (0, .ref h_rd), (1, .int 3), (2, .int 1), (3, .int r82)]) hx hb dX5_readPart_191 hl (k := 4) rfl (by rw [ez361]; rfl) (by decide) rfl (fun ls hl => ?_)
                    refine lv_goto (tgt := 84) hx hb dX5_readPart_194 (by decide) ?_
                    replace hP : va_P (dC, dI) cls [(h_kn, .inl (cy_kn, 8, .inl f328)), (h_ter, .inl (cy_ter, 900, .inl f355)), (h_td, .inr (5, (mo32 v_td (.ref h_nam) (.ref h_var) (.ref h_trm) (.ref h_ter) (.int z329)))), (h_nam, .inl (cy_nam, 300, .inr (.inl f330))), (h_var, .inl (cy_var, 300, .inl f331)), (h_trm, .inl (cy_trm, 300, .inl f357)), (h_rd, .inr (4, (mo31 (.ref h_by) (.int x_rd_length) (.int z321) (.int z322) (.ref h_td) (.ref h_kn) (.int z323) (.int z324) (.int z325) (.int z326) (.long z327)))), (h_by, .inl (cy_by, 600, .inl f_by))] H := hP.sub [2, 7, 3, 4, 5, 6, 0, 1] rfl
                    replace hD : va_D A [(h_kn, .inl (cy_kn, 8, .inl f328)), (h_ter, .inl (cy_ter, 900, .inl f355)), (h_td, .inr (5, (mo32 v_td (.ref h_nam) (.ref h_var) (.ref h_trm) (.ref h_ter) (.int z329)))), (h_nam, .inl (cy_nam, 300, .inr (.inl f330))), (h_var, .inl (cy_var, 300, .inl f331)), (h_trm, .inl (cy_trm, 300, .inl f357)), (h_rd, .inr (4, (mo31 (.ref h_by) (.int x_rd_length) (.int z321) (.int z322) (.ref h_td) (.ref h_kn) (.int z323) (.int z324) (.int z325) (.int z326) (.long z327)))), (h_by, .inl (cy_by, 600, .inl f_by))] := hD.sub [2, 7, 3, 4, 5, 6, 0, 1] (by decide) rfl
                    exact ih130 (z361) (f328) (f355) (z329) (f330) (f331) (f357) (z321) (z322) (z323) (z324) (z325) (z326) (z327) (rr316) ((rh354).2.2.2) _ _ _ (by omega) hf328 hf355 (by first | exact k337 | omega) hf331 hf357 (by first | exact k334 | omega) (by first | exact k335 | omega) (by first | exact k336 | omega) (by first | exact k346 | omega) (by omega) (by omega) (by first | exact k343 | omega) (by omega) (by first | exact k350 | omega) (by omega) (by omega) (by omega) (by omega) lo360 k353 (by omega) hP hD hS (lv_sub hl [1, 2, 3, 4, 0] rfl)
                  · have kc359 := (not_congr (cv_eq (rfl : (z326).toInt = (z326).toInt) (by decide : (44 : Int32).toInt = 44))).mp c359
                    refine lv_goto (tgt := 197) hx hb dX5_readPart_188 (by decide) ?_
                    have on9 := pLo_off (G := G) (n := (x_rd_length).toInt) (P := (pPs G (x_rd_length).toInt 2)) (r := rr316) (q := (x123).toInt) (nv := (x122).toInt) (vf := gh128) (by rw [← erh354]; omega) (by rw [← erh354, ← k340]; omega)
                    rw [← erh354, ← k340, ← k341] at on9
                    have cl9 := on9.symm.trans klp129_19
                    refine lv_aload_n hx hb dX5_readPart_197 rfl (lv_at hl 0 rfl) ?_
                    refine va_get (D := (dC, dI)) (ci := 4) (v := .int z326) (C := RX5) (T := TX5) (N := 11) hx hb hw iwX5 hown hK hP 0 rfl rfl 9 (by decide) (hw _ w_f_X5_43) (fun _ h9 => h9) rfl dX5_readPart_198 ?_
                    refine lv_bipush (v := 41) hx hb dX5_readPart_201 (by decide) ?_
                    refine lv_icmp_ne (tgt := 213) hx hb dX5_readPart_203 (by decide) (fun c362 => ?_) (fun c362 => ?_)
                    · have kc362 := (not_congr (cv_eq (rfl : (z326).toInt = (z326).toInt) (by decide : (41 : Int32).toInt = 41))).mp c362
                      have pv9 : (pTm G (x_rd_length).toInt (pPs G (x_rd_length).toInt 3) (x_rd_at).toInt (x_rd_variables).toInt vf) = (1, (z324).toInt, (z323).toInt, (rh354).2.2.2) := cl9.symm.trans (pCl_no (by omega))
                      have pq3631 : ((pTm G (x_rd_length).toInt (pPs G (x_rd_length).toInt 3) (x_rd_at).toInt (x_rd_variables).toInt vf)).1 = 1 := by rw [pv9]
                      have pq3632 : ((pTm G (x_rd_length).toInt (pPs G (x_rd_length).toInt 3) (x_rd_at).toInt (x_rd_variables).toInt vf)).2.1 = (z324).toInt := by rw [pv9]
                      have pq3633 : ((pTm G (x_rd_length).toInt (pPs G (x_rd_length).toInt 3) (x_rd_at).toInt (x_rd_variables).toInt vf)).2.2.1 = (z323).toInt := by rw [pv9]
                      have pq3634 : ((pTm G (x_rd_length).toInt (pPs G (x_rd_length).toInt 3) (x_rd_at).toInt (x_rd_variables).toInt vf)).2.2.2 = (rh354).2.2.2 := by rw [pv9]
                      refine lv_aload_n hx hb dX5_readPart_213 rfl (lv_at hl 0 rfl) ?_
                      refine lv_iconst (v := 1) hx hb dX5_readPart_214 (by decide) ?_
                      obtain ⟨vq364, evq364⟩ := mq31_27 (.ref h_by) (.int x_rd_length) (.ref h_td) (.ref h_kn) (.int z323) (.int z325) (.int z326) (.long z327)
                      replace hP : va_P (dC, dI) cls [(h_rd, .inr (4, (mo27 vq364 (.int z321) (.int z322) (.int z324)))), (h_by, .inl (cy_by, 600, .inl f_by)), (h_kn, .inl (cy_kn, 8, .inl f328)), (h_td, .inr (5, (mo32 v_td (.ref h_nam) (.ref h_var) (.ref h_trm) (.ref h_ter) (.int z329)))), (h_nam, .inl (cy_nam, 300, .inr (.inl f330))), (h_var, .inl (cy_var, 300, .inl f331)), (h_trm, .inl (cy_trm, 300, .inl f357)), (h_ter, .inl (cy_ter, 900, .inl f355))] H := by rw [evq364]; exact hP
                      replace hD : va_D A [(h_rd, .inr (4, (mo27 vq364 (.int z321) (.int z322) (.int z324)))), (h_by, .inl (cy_by, 600, .inl f_by)), (h_kn, .inl (cy_kn, 8, .inl f328)), (h_td, .inr (5, (mo32 v_td (.ref h_nam) (.ref h_var) (.ref h_trm) (.ref h_ter) (.int z329)))), (h_nam, .inl (cy_nam, 300, .inr (.inl f330))), (h_var, .inl (cy_var, 300, .inl f331)), (h_trm, .inl (cy_trm, 300, .inl f357)), (h_ter, .inl (cy_ter, 900, .inl f355))] := by rw [evq364]; exact hD
                      have cst1 : (1 : Int32).toInt = 1 := by decide
                      have hPc := hP.sub (ws' := [(h_rd, .inr (4, (mo27 vq364 (.int z321) (.int z322) (.int z324))))]) [0] rfl
                      have hDc := hD.sub (ws' := [(h_rd, .inr (4, (mo27 vq364 (.int z321) (.int z322) (.int z324))))]) [0] (by decide) rfl
                      have hKc := hK.sub (tys' := []) [] rfl
                      have hFc := va_free (wc := [(h_rd, .inr (4, (mo27 vq364 (.int z321) (.int z322) (.int z324))))]) hD hS hA [0] rfl
                      refine va_callv (va_runV (As := [.int 1]) (rest := []) ⟨hx, hb, hml, hown, hts⟩ (c_X5_blame l dC dI H.size h_rd vq364 z321 z322 z324 1 (by first | exact k335 | omega)) (cwV 1 hts (gv hT w_m_X5_56 w_instanceMethod_X5_blame ws_sel_X5_blame w_ini_X5 w_code_X5_blame) rfl rfl rfl (by decide +kernel) ⟨(Nat.le_of_ble_eq_true rfl), (Nat.le_of_ble_eq_true rfl)⟩) ⟨pre_blind, va_recv hK hP (ci := 4) (q0 := 0) rfl rfl, pre_of hPc hKc hDc hN⟩ rfl rfl hl.1 rfl (lv_room (Nat.le_of_ble_eq_true rfl)) dX5_readPart_215 ⟨(Nat.le_of_ble_eq_true rfl), (Nat.le_of_ble_eq_true rfl)⟩) hS (fun q _ h => hFc q h) hFc (fun u t H locs ht hvm hq hB hz1 hk1 hS9 => ?_)
                      obtain ⟨z366, z367⟩ := u
                      obtain ⟨hP1, hD1⟩ := hB
                      rw [ht] at hP1
                      obtain ⟨hP9, hD9⟩ := va_join (wr := [(h_by, .inl (cy_by, 600, .inl f_by)), (h_kn, .inl (cy_kn, 8, .inl f328)), (h_td, .inr (5, (mo32 v_td (.ref h_nam) (.ref h_var) (.ref h_trm) (.ref h_ter) (.int z329)))), (h_nam, .inl (cy_nam, 300, .inr (.inl f330))), (h_var, .inl (cy_var, 300, .inl f331)), (h_trm, .inl (cy_trm, 300, .inl f357)), (h_ter, .inl (cy_ter, 900, .inl f355))]) (w1 := [(h_rd, .inr (4, (mo27 vq364 (.int z366) (.int z367) (.int z324))))]) hP hD [0] [1, 2, 3, 4, 5, 6, 7] rfl rfl (by decide) (by decide) hk1 hFc hP1 hD1
                      clear hP hD hS hPc hDc hKc hFc hP1 hD1 hk1 hz1 ht hvm
                      have hP : va_P (dC, dI) cls [(h_by, .inl (cy_by, 600, .inl f_by)), (h_kn, .inl (cy_kn, 8, .inl f328)), (h_td, .inr (5, (mo32 v_td (.ref h_nam) (.ref h_var) (.ref h_trm) (.ref h_ter) (.int z329)))), (h_nam, .inl (cy_nam, 300, .inr (.inl f330))), (h_var, .inl (cy_var, 300, .inl f331)), (h_trm, .inl (cy_trm, 300, .inl f357)), (h_ter, .inl (cy_ter, 900, .inl f355)), (h_rd, .inr (4, (mo27 vq364 (.int z366) (.int z367) (.int z324))))] H := hP9
                      have hD : va_D A [(h_by, .inl (cy_by, 600, .inl f_by)), (h_kn, .inl (cy_kn, 8, .inl f328)), (h_td, .inr (5, (mo32 v_td (.ref h_nam) (.ref h_var) (.ref h_trm) (.ref h_ter) (.int z329)))), (h_nam, .inl (cy_nam, 300, .inr (.inl f330))), (h_var, .inl (cy_var, 300, .inl f331)), (h_trm, .inl (cy_trm, 300, .inl f357)), (h_ter, .inl (cy_ter, 900, .inl f355)), (h_rd, .inr (4, (mo27 vq364 (.int z366) (.int z367) (.int z324))))] := hD9
                      have hS := hS9
                      clear hP9 hD9 hS9
                      rw [evq364] at hP hD
                      replace hP : va_P (dC, dI) cls [(h_by, .inl (cy_by, 600, .inl f_by)), (h_kn, .inl (cy_kn, 8, .inl f328)), (h_td, .inr (5, (mo32 v_td (.ref h_nam) (.ref h_var) (.ref h_trm) (.ref h_ter) (.int z329)))), (h_nam, .inl (cy_nam, 300, .inr (.inl f330))), (h_var, .inl (cy_var, 300, .inl f331)), (h_trm, .inl (cy_trm, 300, .inl f357)), (h_ter, .inl (cy_ter, 900, .inl f355)), (h_rd, .inr (4, (mo31 (.ref h_by) (.int x_rd_length) (.int z366) (.int z367) (.ref h_td) (.ref h_kn) (.int z323) (.int z324) (.int z325) (.int z326) (.long z327))))] H := hP
                      replace hD : va_D A [(h_by, .inl (cy_by, 600, .inl f_by)), (h_kn, .inl (cy_kn, 8, .inl f328)), (h_td, .inr (5, (mo32 v_td (.ref h_nam) (.ref h_var) (.ref h_trm) (.ref h_ter) (.int z329)))), (h_nam, .inl (cy_nam, 300, .inr (.inl f330))), (h_var, .inl (cy_var, 300, .inl f331)), (h_trm, .inl (cy_trm, 300, .inl f357)), (h_ter, .inl (cy_ter, 900, .inl f355)), (h_rd, .inr (4, (mo31 (.ref h_by) (.int x_rd_length) (.int z366) (.int z367) (.ref h_td) (.ref h_kn) (.int z323) (.int z324) (.int z325) (.int z326) (.long z327))))] := hD
                      clear evq364 
                      obtain ⟨k368, k369⟩ := hq
                      replace k368 : ((z366)).toInt = ((1 : Int32)).toInt := k368
                      replace k369 : ((z367)).toInt = ((z324)).toInt := k369
                      refine lv_iload_n hx hb dX5_readPart_218 rfl (lv_at hl 3 rfl) ?_
                      replace hP : va_P (dC, dI) cls [(h_rd, .inr (4, (mo31 (.ref h_by) (.int x_rd_length) (.int z366) (.int z367) (.ref h_td) (.ref h_kn) (.int z323) (.int z324) (.int z325) (.int z326) (.long z327)))), (h_by, .inl (cy_by, 600, .inl f_by)), (h_kn, .inl (cy_kn, 8, .inl f328)), (h_td, .inr (5, (mo32 v_td (.ref h_nam) (.ref h_var) (.ref h_trm) (.ref h_ter) (.int z329)))), (h_nam, .inl (cy_nam, 300, .inr (.inl f330))), (h_var, .inl (cy_var, 300, .inl f331)), (h_trm, .inl (cy_trm, 300, .inl f357)), (h_ter, .inl (cy_ter, 900, .inl f355))] H := hP.sub [7, 0, 1, 2, 3, 4, 5, 6] rfl
                      replace hD : va_D A [(h_rd, .inr (4, (mo31 (.ref h_by) (.int x_rd_length) (.int z366) (.int z367) (.ref h_td) (.ref h_kn) (.int z323) (.int z324) (.int z325) (.int z326) (.long z327)))), (h_by, .inl (cy_by, 600, .inl f_by)), (h_kn, .inl (cy_kn, 8, .inl f328)), (h_td, .inr (5, (mo32 v_td (.ref h_nam) (.ref h_var) (.ref h_trm) (.ref h_ter) (.int z329)))), (h_nam, .inl (cy_nam, 300, .inr (.inl f330))), (h_var, .inl (cy_var, 300, .inl f331)), (h_trm, .inl (cy_trm, 300, .inl f357)), (h_ter, .inl (cy_ter, 900, .inl f355))] := hD.sub [7, 0, 1, 2, 3, 4, 5, 6] (by decide) rfl
                      refine W.widen (k := 0) (n := 0) (Nat.le_of_ble_eq_true rfl) (Nat.le_of_ble_eq_true rfl) ?_
                      have w370 : 0 ≤ ((z323)).toInt ∧ ((z323)).toInt ≤ 8 := by first | exact k334 | omega
                      have w371 : 0 ≤ ((z324)).toInt ∧ ((z324)).toInt ≤ 600 := by first | exact k335 | omega
                      have w372 : 0 ≤ ((z325)).toInt ∧ ((z325)).toInt ≤ 600 := by first | exact k336 | omega
                      have w373 : 0 ≤ ((z329)).toInt ∧ ((z329)).toInt ≤ 300 := by first | exact k337 | omega
                      have w374 : 0 ≤ (r82 : Int32).toInt ∧ (r82 : Int32).toInt ≤ 299 := by first | exact k88 | omega
                      have w375 : ((z366)).toInt = ((pTm G (x_rd_length).toInt (pPs G (x_rd_length).toInt 3) (x_rd_at).toInt (x_rd_variables).toInt vf)).1 := by omega
                      have w376 : ((z324)).toInt = ((pTm G (x_rd_length).toInt (pPs G (x_rd_length).toInt 3) (x_rd_at).toInt (x_rd_variables).toInt vf)).2.1 := by omega
                      have w377 : ((z323)).toInt = ((pTm G (x_rd_length).toInt (pPs G (x_rd_length).toInt 3) (x_rd_at).toInt (x_rd_variables).toInt vf)).2.2.1 := by omega
                      have w378 : (((z366)).toInt = 0 ∧ ((z367)).toInt = (x_rd_place).toInt) ∨ (¬ ((z366)).toInt = 0 ∧ ((z367)).toInt = ((z324)).toInt) := by omega
                      have w379 : 2 * ((z329)).toInt ≤ ((z324)).toInt + 1 := by first | exact k343 | omega
                      have w380 : ((z326)).toInt < 256 ∨ 2 * ((z329)).toInt ≤ ((z324)).toInt := by first | exact k344 | omega
                      have w381 : (x_rd_at).toInt ≤ ((z324)).toInt := by omega
                      have w382 : ((z326)).toInt = tkT G (x_rd_length).toInt ((z324)).toInt := by first | exact k346 | omega
                      have w383 : ((z326)).toInt = -1 ∨ ((z325)).toInt = tkX G (x_rd_length).toInt ((z324)).toInt := by first | exact k347 | omega
                      have w384 : ¬ ((z326)).toInt = 257 ∨ ((z327)).toInt = G ((z324)).toInt := by first | exact k348 | omega
                      have w385 : -1 ≤ ((z326)).toInt ∧ ((z326)).toInt ≤ 258 := by first | exact k349 | omega
                      have w386 : ((z325)).toInt ≤ (x_rd_length).toInt := by first | exact k350 | omega
                      have w387 : ((z326)).toInt = -1 ∨ ((z324)).toInt < (x_rd_length).toInt := by first | exact k351 | omega
                      have w388 : ((z324)).toInt ≤ (x_rd_length).toInt := by first | exact k352 | omega
                      have w389 : VFC ((z323)).toInt ((pTm G (x_rd_length).toInt (pPs G (x_rd_length).toInt 3) (x_rd_at).toInt (x_rd_variables).toInt vf)).2.2.2 (f328) (f330) ((z329)).toInt := (by rw [pq3634]; exact k353)
                      exact W.iret (v := r82) hx hb hr (fun t ht hW => ⟨⟨r82, (z366, z367, z323, z324, z325, z326, z327, f328, z329, f330, f331, f357, f355), rfl, ⟨w370, w371, w372, hf328, w373, hf331, hf357, hf355, w374, w375, w376, w377, w378, w379, w380, w381, w382, w383, w384, w385, w386, w387, w388, w389⟩, by rw [ht]; exact hP, hD⟩, hS.F ht⟩) hS.2.2 dX5_readPart_219
                    · have kc362 := (cv_eq (rfl : (z326).toInt = (z326).toInt) (by decide : (41 : Int32).toInt = 41)).mp c362
                      have pv9 : (pTm G (x_rd_length).toInt (pPs G (x_rd_length).toInt 3) (x_rd_at).toInt (x_rd_variables).toInt vf) = (0, tkN G (x_rd_length).toInt (z324).toInt, (z323).toInt, (rh354).2.2.2) := cl9.symm.trans (pCl_yes (by omega))
                      have pq3901 : ((pTm G (x_rd_length).toInt (pPs G (x_rd_length).toInt 3) (x_rd_at).toInt (x_rd_variables).toInt vf)).1 = 0 := by rw [pv9]
                      have pq3902 : ((pTm G (x_rd_length).toInt (pPs G (x_rd_length).toInt 3) (x_rd_at).toInt (x_rd_variables).toInt vf)).2.1 = tkN G (x_rd_length).toInt (z324).toInt := by rw [pv9]
                      have pq3903 : ((pTm G (x_rd_length).toInt (pPs G (x_rd_length).toInt 3) (x_rd_at).toInt (x_rd_variables).toInt vf)).2.2.1 = (z323).toInt := by rw [pv9]
                      have pq3904 : ((pTm G (x_rd_length).toInt (pPs G (x_rd_length).toInt 3) (x_rd_at).toInt (x_rd_variables).toInt vf)).2.2.2 = (rh354).2.2.2 := by rw [pv9]
                      refine lv_aload_n hx hb dX5_readPart_206 rfl (lv_at hl 0 rfl) ?_
                      obtain ⟨vq391, evq391⟩ := mq31_29 (.int z321) (.int z322) (.ref h_td) (.ref h_kn) (.int z323)
                      replace hP : va_P (dC, dI) cls [(h_rd, .inr (4, (mo29 vq391 (.ref h_by) (.int x_rd_length) (.int z324) (.int z325) (.int z326) (.long z327)))), (h_by, .inl (cy_by, 600, .inl f_by)), (h_kn, .inl (cy_kn, 8, .inl f328)), (h_td, .inr (5, (mo32 v_td (.ref h_nam) (.ref h_var) (.ref h_trm) (.ref h_ter) (.int z329)))), (h_nam, .inl (cy_nam, 300, .inr (.inl f330))), (h_var, .inl (cy_var, 300, .inl f331)), (h_trm, .inl (cy_trm, 300, .inl f357)), (h_ter, .inl (cy_ter, 900, .inl f355))] H := by rw [evq391]; exact hP
                      replace hD : va_D A [(h_rd, .inr (4, (mo29 vq391 (.ref h_by) (.int x_rd_length) (.int z324) (.int z325) (.int z326) (.long z327)))), (h_by, .inl (cy_by, 600, .inl f_by)), (h_kn, .inl (cy_kn, 8, .inl f328)), (h_td, .inr (5, (mo32 v_td (.ref h_nam) (.ref h_var) (.ref h_trm) (.ref h_ter) (.int z329)))), (h_nam, .inl (cy_nam, 300, .inr (.inl f330))), (h_var, .inl (cy_var, 300, .inl f331)), (h_trm, .inl (cy_trm, 300, .inl f357)), (h_ter, .inl (cy_ter, 900, .inl f355))] := by rw [evq391]; exact hD
                      have hPc := hP.sub (ws' := [(h_rd, .inr (4, (mo29 vq391 (.ref h_by) (.int x_rd_length) (.int z324) (.int z325) (.int z326) (.long z327)))), (h_by, .inl (cy_by, 600, .inl f_by))]) [0, 1] rfl
                      have hDc := hD.sub (ws' := [(h_rd, .inr (4, (mo29 vq391 (.ref h_by) (.int x_rd_length) (.int z324) (.int z325) (.int z326) (.long z327)))), (h_by, .inl (cy_by, 600, .inl f_by))]) [0, 1] (by decide) rfl
                      have hKc := hK.sub (tys' := [(cy_by, .int)]) [0] rfl
                      have hFc := va_free (wc := [(h_rd, .inr (4, (mo29 vq391 (.ref h_by) (.int x_rd_length) (.int z324) (.int z325) (.int z326) (.long z327)))), (h_by, .inl (cy_by, 600, .inl f_by))]) hD hS hA [0, 1] rfl
                      refine va_callv (va_runV (As := []) (rest := []) ⟨hx, hb, hml, hown, hts⟩ (c_X5_nextToken l dC dI H.size h_rd h_by vq391 x_rd_length z324 z325 z326 z327 cy_by f_by G (by first | exact hx_rd_length | omega) (by first | exact k335 | omega) (by first | exact k336 | omega) hf_by (by first | exact k350 | omega) hn_byt) (cwV 0 hts (gv hT w_m_X5_40 w_instanceMethod_X5_nextToken ws_sel_X5_nextToken w_ini_X5 w_code_X5_nextToken) rfl rfl rfl (by decide +kernel) ⟨(Nat.le_of_ble_eq_true rfl), (Nat.le_of_ble_eq_true rfl)⟩) ⟨pre_blind, va_recv hK hP (ci := 4) (q0 := 0) rfl rfl, pre_of hPc hKc hDc hN⟩ rfl rfl hl.1 rfl (lv_room (Nat.le_of_ble_eq_true rfl)) dX5_readPart_207 ⟨(Nat.le_of_ble_eq_true rfl), (Nat.le_of_ble_eq_true rfl)⟩) hS (fun q _ h => hFc q h) hFc (fun u t H locs ht hvm hq hB hz1 hk1 hS9 => ?_)
                      obtain ⟨z393, z394, z395, z396⟩ := u
                      obtain ⟨hP1, hD1⟩ := hB
                      rw [ht] at hP1
                      obtain ⟨hP9, hD9⟩ := va_join (wr := [(h_kn, .inl (cy_kn, 8, .inl f328)), (h_td, .inr (5, (mo32 v_td (.ref h_nam) (.ref h_var) (.ref h_trm) (.ref h_ter) (.int z329)))), (h_nam, .inl (cy_nam, 300, .inr (.inl f330))), (h_var, .inl (cy_var, 300, .inl f331)), (h_trm, .inl (cy_trm, 300, .inl f357)), (h_ter, .inl (cy_ter, 900, .inl f355))]) (w1 := [(h_rd, .inr (4, (mo29 vq391 (.ref h_by) (.int x_rd_length) (.int z393) (.int z394) (.int z395) (.long z396)))), (h_by, .inl (cy_by, 600, .inl f_by))]) hP hD [0, 1] [2, 3, 4, 5, 6, 7] rfl rfl (by decide) (by decide) hk1 hFc hP1 hD1
                      clear hP hD hS hPc hDc hKc hFc hP1 hD1 hk1 hz1 ht hvm
                      have hP : va_P (dC, dI) cls [(h_kn, .inl (cy_kn, 8, .inl f328)), (h_td, .inr (5, (mo32 v_td (.ref h_nam) (.ref h_var) (.ref h_trm) (.ref h_ter) (.int z329)))), (h_nam, .inl (cy_nam, 300, .inr (.inl f330))), (h_var, .inl (cy_var, 300, .inl f331)), (h_trm, .inl (cy_trm, 300, .inl f357)), (h_ter, .inl (cy_ter, 900, .inl f355)), (h_rd, .inr (4, (mo29 vq391 (.ref h_by) (.int x_rd_length) (.int z393) (.int z394) (.int z395) (.long z396)))), (h_by, .inl (cy_by, 600, .inl f_by))] H := hP9
                      have hD : va_D A [(h_kn, .inl (cy_kn, 8, .inl f328)), (h_td, .inr (5, (mo32 v_td (.ref h_nam) (.ref h_var) (.ref h_trm) (.ref h_ter) (.int z329)))), (h_nam, .inl (cy_nam, 300, .inr (.inl f330))), (h_var, .inl (cy_var, 300, .inl f331)), (h_trm, .inl (cy_trm, 300, .inl f357)), (h_ter, .inl (cy_ter, 900, .inl f355)), (h_rd, .inr (4, (mo29 vq391 (.ref h_by) (.int x_rd_length) (.int z393) (.int z394) (.int z395) (.long z396)))), (h_by, .inl (cy_by, 600, .inl f_by))] := hD9
                      have hS := hS9
                      clear hP9 hD9 hS9
                      rw [evq391] at hP hD
                      replace hP : va_P (dC, dI) cls [(h_kn, .inl (cy_kn, 8, .inl f328)), (h_td, .inr (5, (mo32 v_td (.ref h_nam) (.ref h_var) (.ref h_trm) (.ref h_ter) (.int z329)))), (h_nam, .inl (cy_nam, 300, .inr (.inl f330))), (h_var, .inl (cy_var, 300, .inl f331)), (h_trm, .inl (cy_trm, 300, .inl f357)), (h_ter, .inl (cy_ter, 900, .inl f355)), (h_rd, .inr (4, (mo31 (.ref h_by) (.int x_rd_length) (.int z321) (.int z322) (.ref h_td) (.ref h_kn) (.int z323) (.int z393) (.int z394) (.int z395) (.long z396)))), (h_by, .inl (cy_by, 600, .inl f_by))] H := hP
                      replace hD : va_D A [(h_kn, .inl (cy_kn, 8, .inl f328)), (h_td, .inr (5, (mo32 v_td (.ref h_nam) (.ref h_var) (.ref h_trm) (.ref h_ter) (.int z329)))), (h_nam, .inl (cy_nam, 300, .inr (.inl f330))), (h_var, .inl (cy_var, 300, .inl f331)), (h_trm, .inl (cy_trm, 300, .inl f357)), (h_ter, .inl (cy_ter, 900, .inl f355)), (h_rd, .inr (4, (mo31 (.ref h_by) (.int x_rd_length) (.int z321) (.int z322) (.ref h_td) (.ref h_kn) (.int z323) (.int z393) (.int z394) (.int z395) (.long z396)))), (h_by, .inl (cy_by, 600, .inl f_by))] := hD
                      clear evq391 
                      obtain ⟨k397, k398, k399, k400, k401, k402, k403, k404, k405, k406, k407⟩ := hq
                      replace k397 : 0 ≤ ((z393)).toInt ∧ ((z393)).toInt ≤ 600 := k397
                      replace k398 : 0 ≤ ((z394)).toInt ∧ ((z394)).toInt ≤ 600 := k398
                      replace k399 : ((z393)).toInt = tkS (G) ((x_rd_length)).toInt ((z325)).toInt := k399
                      replace k400 : ((z325)).toInt ≤ ((z393)).toInt := k400
                      replace k401 : ((z395)).toInt = tkT (G) ((x_rd_length)).toInt ((z393)).toInt := k401
                      replace k402 : ((z395)).toInt = -1 ∨ ((z394)).toInt = tkX (G) ((x_rd_length)).toInt ((z393)).toInt := k402
                      replace k403 : ¬ ((z395)).toInt = 257 ∨ ((z396)).toInt = (G) ((z393)).toInt := k403
                      replace k404 : -1 ≤ ((z395)).toInt ∧ ((z395)).toInt ≤ 258 := k404
                      replace k405 : ((z394)).toInt ≤ ((x_rd_length)).toInt := k405
                      replace k406 : ((z395)).toInt = -1 ∨ ((z393)).toInt < ((x_rd_length)).toInt := k406
                      replace k407 : ((z393)).toInt ≤ ((x_rd_length)).toInt := k407
                      have tn408b : (z325).toInt = tkX G (x_rd_length).toInt (z324).toInt := by omega
                      have tn408 : (z393).toInt = tkN G (x_rd_length).toInt (z324).toInt := by rw [k399, tn408b]; rfl
                      have tn408t : (z395).toInt = tkT G (x_rd_length).toInt (tkN G (x_rd_length).toInt (z324).toInt) := by rw [← tn408]; exact k401
                      have tn408g := tkN_gt (G := G) (n := (x_rd_length).toInt) (a := (z324).toInt) (by omega) (by omega) (by omega)
                      refine lv_goto (tgt := 218) hx hb dX5_readPart_210 (by decide) ?_
                      refine lv_iload_n hx hb dX5_readPart_218 rfl (lv_at hl 3 rfl) ?_
                      replace hP : va_P (dC, dI) cls [(h_rd, .inr (4, (mo31 (.ref h_by) (.int x_rd_length) (.int z321) (.int z322) (.ref h_td) (.ref h_kn) (.int z323) (.int z393) (.int z394) (.int z395) (.long z396)))), (h_by, .inl (cy_by, 600, .inl f_by)), (h_kn, .inl (cy_kn, 8, .inl f328)), (h_td, .inr (5, (mo32 v_td (.ref h_nam) (.ref h_var) (.ref h_trm) (.ref h_ter) (.int z329)))), (h_nam, .inl (cy_nam, 300, .inr (.inl f330))), (h_var, .inl (cy_var, 300, .inl f331)), (h_trm, .inl (cy_trm, 300, .inl f357)), (h_ter, .inl (cy_ter, 900, .inl f355))] H := hP.sub [6, 7, 0, 1, 2, 3, 4, 5] rfl
                      replace hD : va_D A [(h_rd, .inr (4, (mo31 (.ref h_by) (.int x_rd_length) (.int z321) (.int z322) (.ref h_td) (.ref h_kn) (.int z323) (.int z393) (.int z394) (.int z395) (.long z396)))), (h_by, .inl (cy_by, 600, .inl f_by)), (h_kn, .inl (cy_kn, 8, .inl f328)), (h_td, .inr (5, (mo32 v_td (.ref h_nam) (.ref h_var) (.ref h_trm) (.ref h_ter) (.int z329)))), (h_nam, .inl (cy_nam, 300, .inr (.inl f330))), (h_var, .inl (cy_var, 300, .inl f331)), (h_trm, .inl (cy_trm, 300, .inl f357)), (h_ter, .inl (cy_ter, 900, .inl f355))] := hD.sub [6, 7, 0, 1, 2, 3, 4, 5] (by decide) rfl
                      refine W.widen (k := 0) (n := 0) (Nat.le_of_ble_eq_true rfl) (Nat.le_of_ble_eq_true rfl) ?_
                      have w409 : 0 ≤ ((z323)).toInt ∧ ((z323)).toInt ≤ 8 := by first | exact k334 | omega
                      have w410 : 0 ≤ ((z393)).toInt ∧ ((z393)).toInt ≤ 600 := by first | exact k397 | omega
                      have w411 : 0 ≤ ((z394)).toInt ∧ ((z394)).toInt ≤ 600 := by first | exact k398 | omega
                      have w412 : 0 ≤ ((z329)).toInt ∧ ((z329)).toInt ≤ 300 := by first | exact k337 | omega
                      have w413 : 0 ≤ (r82 : Int32).toInt ∧ (r82 : Int32).toInt ≤ 299 := by first | exact k88 | omega
                      have w414 : ((z321)).toInt = ((pTm G (x_rd_length).toInt (pPs G (x_rd_length).toInt 3) (x_rd_at).toInt (x_rd_variables).toInt vf)).1 := by omega
                      have w415 : ((z393)).toInt = ((pTm G (x_rd_length).toInt (pPs G (x_rd_length).toInt 3) (x_rd_at).toInt (x_rd_variables).toInt vf)).2.1 := by omega
                      have w416 : ((z323)).toInt = ((pTm G (x_rd_length).toInt (pPs G (x_rd_length).toInt 3) (x_rd_at).toInt (x_rd_variables).toInt vf)).2.2.1 := by omega
                      have w417 : (((z321)).toInt = 0 ∧ ((z322)).toInt = (x_rd_place).toInt) ∨ (¬ ((z321)).toInt = 0 ∧ ((z322)).toInt = ((z393)).toInt) := by omega
                      have w418 : 2 * ((z329)).toInt ≤ ((z393)).toInt + 1 := by omega
                      have w419 : ((z395)).toInt < 256 ∨ 2 * ((z329)).toInt ≤ ((z393)).toInt := by omega
                      have w420 : (x_rd_at).toInt ≤ ((z393)).toInt := by omega
                      have w421 : ((z395)).toInt = tkT G (x_rd_length).toInt ((z393)).toInt := by first | exact k401 | omega
                      have w422 : ((z395)).toInt = -1 ∨ ((z394)).toInt = tkX G (x_rd_length).toInt ((z393)).toInt := by first | exact k402 | omega
                      have w423 : ¬ ((z395)).toInt = 257 ∨ ((z396)).toInt = G ((z393)).toInt := by first | exact k403 | omega
                      have w424 : -1 ≤ ((z395)).toInt ∧ ((z395)).toInt ≤ 258 := by first | exact k404 | omega
                      have w425 : ((z394)).toInt ≤ (x_rd_length).toInt := by first | exact k405 | omega
                      have w426 : ((z395)).toInt = -1 ∨ ((z393)).toInt < (x_rd_length).toInt := by first | exact k406 | omega
                      have w427 : ((z393)).toInt ≤ (x_rd_length).toInt := by first | exact k407 | omega
                      have w428 : VFC ((z323)).toInt ((pTm G (x_rd_length).toInt (pPs G (x_rd_length).toInt 3) (x_rd_at).toInt (x_rd_variables).toInt vf)).2.2.2 (f328) (f330) ((z329)).toInt := (by rw [pq3904]; exact k353)
                      exact W.iret (v := r82) hx hb hr (fun t ht hW => ⟨⟨r82, (z321, z322, z323, z393, z394, z395, z396, f328, z329, f330, f331, f357, f355), rfl, ⟨w409, w410, w411, hf328, w412, hf331, hf357, hf355, w413, w414, w415, w416, w417, w418, w419, w420, w421, w422, w423, w424, w425, w426, w427, w428⟩, by rw [ht]; exact hP, hD⟩, hS.F ht⟩) hS.2.2 dX5_readPart_219
                · have kc358 := (not_congr (cv_eq (rfl : (z321).toInt = (z321).toInt) (by decide : (0 : Int32).toInt = 0))).mp c358
                  have no9 := pLo_no (G := G) (n := (x_rd_length).toInt) (P := (pPs G (x_rd_length).toInt 2)) (r := rr316) (q := (x123).toInt) (nv := (x122).toInt) (vf := gh128) (by rw [← erh354]; omega)
                  rw [← erh354] at no9
                  have rq9 : (pTm G (x_rd_length).toInt (pPs G (x_rd_length).toInt 3) (x_rd_at).toInt (x_rd_variables).toInt vf) = rh354 := klp129_19.symm.trans no9
                  have pq4291 : ((pTm G (x_rd_length).toInt (pPs G (x_rd_length).toInt 3) (x_rd_at).toInt (x_rd_variables).toInt vf)).1 = (rh354).1 := by rw [rq9]
                  have pq4292 : ((pTm G (x_rd_length).toInt (pPs G (x_rd_length).toInt 3) (x_rd_at).toInt (x_rd_variables).toInt vf)).2.1 = (rh354).2.1 := by rw [rq9]
                  have pq4293 : ((pTm G (x_rd_length).toInt (pPs G (x_rd_length).toInt 3) (x_rd_at).toInt (x_rd_variables).toInt vf)).2.2.1 = (rh354).2.2.1 := by rw [rq9]
                  have pq4294 : ((pTm G (x_rd_length).toInt (pPs G (x_rd_length).toInt 3) (x_rd_at).toInt (x_rd_variables).toInt vf)).2.2.2 = (rh354).2.2.2 := by rw [rq9]
                  refine lv_iload_n hx hb dX5_readPart_177 rfl (lv_at hl 3 rfl) ?_
                  refine W.widen (k := 0) (n := 0) (Nat.le_of_ble_eq_true rfl) (Nat.le_of_ble_eq_true rfl) ?_
                  have w430 : 0 ≤ ((z323)).toInt ∧ ((z323)).toInt ≤ 8 := by first | exact k334 | omega
                  have w431 : 0 ≤ ((z324)).toInt ∧ ((z324)).toInt ≤ 600 := by first | exact k335 | omega
                  have w432 : 0 ≤ ((z325)).toInt ∧ ((z325)).toInt ≤ 600 := by first | exact k336 | omega
                  have w433 : 0 ≤ ((z329)).toInt ∧ ((z329)).toInt ≤ 300 := by first | exact k337 | omega
                  have w434 : 0 ≤ (r82 : Int32).toInt ∧ (r82 : Int32).toInt ≤ 299 := by first | exact k88 | omega
                  have w435 : ((z321)).toInt = ((pTm G (x_rd_length).toInt (pPs G (x_rd_length).toInt 3) (x_rd_at).toInt (x_rd_variables).toInt vf)).1 := by omega
                  have w436 : ((z324)).toInt = ((pTm G (x_rd_length).toInt (pPs G (x_rd_length).toInt 3) (x_rd_at).toInt (x_rd_variables).toInt vf)).2.1 := by omega
                  have w437 : ((z323)).toInt = ((pTm G (x_rd_length).toInt (pPs G (x_rd_length).toInt 3) (x_rd_at).toInt (x_rd_variables).toInt vf)).2.2.1 := by omega
                  have w438 : (((z321)).toInt = 0 ∧ ((z322)).toInt = (x_rd_place).toInt) ∨ (¬ ((z321)).toInt = 0 ∧ ((z322)).toInt = ((z324)).toInt) := by omega
                  have w439 : 2 * ((z329)).toInt ≤ ((z324)).toInt + 1 := by first | exact k343 | omega
                  have w440 : ((z326)).toInt < 256 ∨ 2 * ((z329)).toInt ≤ ((z324)).toInt := by first | exact k344 | omega
                  have w441 : (x_rd_at).toInt ≤ ((z324)).toInt := by omega
                  have w442 : ((z326)).toInt = tkT G (x_rd_length).toInt ((z324)).toInt := by first | exact k346 | omega
                  have w443 : ((z326)).toInt = -1 ∨ ((z325)).toInt = tkX G (x_rd_length).toInt ((z324)).toInt := by first | exact k347 | omega
                  have w444 : ¬ ((z326)).toInt = 257 ∨ ((z327)).toInt = G ((z324)).toInt := by first | exact k348 | omega
                  have w445 : -1 ≤ ((z326)).toInt ∧ ((z326)).toInt ≤ 258 := by first | exact k349 | omega
                  have w446 : ((z325)).toInt ≤ (x_rd_length).toInt := by first | exact k350 | omega
                  have w447 : ((z326)).toInt = -1 ∨ ((z324)).toInt < (x_rd_length).toInt := by first | exact k351 | omega
                  have w448 : ((z324)).toInt ≤ (x_rd_length).toInt := by first | exact k352 | omega
                  have w449 : VFC ((z323)).toInt ((pTm G (x_rd_length).toInt (pPs G (x_rd_length).toInt 3) (x_rd_at).toInt (x_rd_variables).toInt vf)).2.2.2 (f328) (f330) ((z329)).toInt := (by rw [pq4294]; exact k353)
                  exact W.iret (v := r82) hx hb hr (fun t ht hW => ⟨⟨r82, (z321, z322, z323, z324, z325, z326, z327, f328, z329, f330, f331, f357, f355), rfl, ⟨w430, w431, w432, hf328, w433, hf331, hf357, hf355, w434, w435, w436, w437, w438, w439, w440, w441, w442, w443, w444, w445, w446, w447, w448, w449⟩, by rw [ht]; exact hP, hD⟩, hS.F ht⟩) hS.2.2 dX5_readPart_178
              · have kc315 := (cv_eq (rfl : (x113).toInt = (x113).toInt) (by decide : (3 : Int32).toInt = 3)).mp c315
                obtain rfl : gh127 = 0 := by omega
                have pv9 : (pTm G (x_rd_length).toInt (pPs G (x_rd_length).toInt 3) (x_rd_at).toInt (x_rd_variables).toInt vf) = (2, tkN G (x_rd_length).toInt (x123).toInt, (x122).toInt, gh128) := klp129_19.symm.trans (pLo_many (by omega))
                have pq4501 : ((pTm G (x_rd_length).toInt (pPs G (x_rd_length).toInt 3) (x_rd_at).toInt (x_rd_variables).toInt vf)).1 = 2 := by rw [pv9]
                have pq4502 : ((pTm G (x_rd_length).toInt (pPs G (x_rd_length).toInt 3) (x_rd_at).toInt (x_rd_variables).toInt vf)).2.1 = tkN G (x_rd_length).toInt (x123).toInt := by rw [pv9]
                have pq4503 : ((pTm G (x_rd_length).toInt (pPs G (x_rd_length).toInt 3) (x_rd_at).toInt (x_rd_variables).toInt vf)).2.2.1 = (x122).toInt := by rw [pv9]
                have pq4504 : ((pTm G (x_rd_length).toInt (pPs G (x_rd_length).toInt 3) (x_rd_at).toInt (x_rd_variables).toInt vf)).2.2.2 = gh128 := by rw [pv9]
                refine lv_aload_n hx hb dX5_readPart_128 rfl (lv_at hl 0 rfl) ?_
                refine lv_iconst (v := 2) hx hb dX5_readPart_129 (by decide) ?_
                obtain ⟨vq451, evq451⟩ := mq31_27 (.ref h_by) (.int x_rd_length) (.ref h_td) (.ref h_kn) (.int x122) (.int z135) (.int z136) (.long z137)
                replace hP : va_P (dC, dI) cls [(h_kn, .inl (cy_kn, 8, .inl f114)), (h_ter, .inl (cy_ter, 900, .inl f115)), (h_td, .inr (5, (mo32 v_td (.ref h_nam) (.ref h_var) (.ref h_trm) (.ref h_ter) (.int x116)))), (h_nam, .inl (cy_nam, 300, .inr (.inl f117))), (h_var, .inl (cy_var, 300, .inl f118)), (h_trm, .inl (cy_trm, 300, .inl f119)), (h_rd, .inr (4, (mo27 vq451 (.int x120) (.int x121) (.int z134)))), (h_by, .inl (cy_by, 600, .inl f_by))] H := by rw [evq451]; exact hP
                replace hD : va_D A [(h_kn, .inl (cy_kn, 8, .inl f114)), (h_ter, .inl (cy_ter, 900, .inl f115)), (h_td, .inr (5, (mo32 v_td (.ref h_nam) (.ref h_var) (.ref h_trm) (.ref h_ter) (.int x116)))), (h_nam, .inl (cy_nam, 300, .inr (.inl f117))), (h_var, .inl (cy_var, 300, .inl f118)), (h_trm, .inl (cy_trm, 300, .inl f119)), (h_rd, .inr (4, (mo27 vq451 (.int x120) (.int x121) (.int z134)))), (h_by, .inl (cy_by, 600, .inl f_by))] := by rw [evq451]; exact hD
                have cst2 : (2 : Int32).toInt = 2 := by decide
                have hPc := hP.sub (ws' := [(h_rd, .inr (4, (mo27 vq451 (.int x120) (.int x121) (.int z134))))]) [6] rfl
                have hDc := hD.sub (ws' := [(h_rd, .inr (4, (mo27 vq451 (.int x120) (.int x121) (.int z134))))]) [6] (by decide) rfl
                have hKc := hK.sub (tys' := []) [] rfl
                have hFc := va_free (wc := [(h_rd, .inr (4, (mo27 vq451 (.int x120) (.int x121) (.int z134))))]) hD hS hA [6] rfl
                refine va_callv (va_runV (As := [.int 2]) (rest := []) ⟨hx, hb, hml, hown, hts⟩ (c_X5_blame l dC dI H.size h_rd vq451 x120 x121 z134 2 (by first | exact k138 | omega)) (cwV 1 hts (gv hT w_m_X5_56 w_instanceMethod_X5_blame ws_sel_X5_blame w_ini_X5 w_code_X5_blame) rfl rfl rfl (by decide +kernel) ⟨(Nat.le_of_ble_eq_true rfl), (Nat.le_of_ble_eq_true rfl)⟩) ⟨pre_blind, va_recv hK hP (ci := 4) (q0 := 6) rfl rfl, pre_of hPc hKc hDc hN⟩ rfl rfl hl.1 rfl (lv_room (Nat.le_of_ble_eq_true rfl)) dX5_readPart_130 ⟨(Nat.le_of_ble_eq_true rfl), (Nat.le_of_ble_eq_true rfl)⟩) hS (fun q _ h => hFc q h) hFc (fun u t H locs ht hvm hq hB hz1 hk1 hS9 => ?_)
                obtain ⟨z453, z454⟩ := u
                obtain ⟨hP1, hD1⟩ := hB
                rw [ht] at hP1
                obtain ⟨hP9, hD9⟩ := va_join (wr := [(h_kn, .inl (cy_kn, 8, .inl f114)), (h_ter, .inl (cy_ter, 900, .inl f115)), (h_td, .inr (5, (mo32 v_td (.ref h_nam) (.ref h_var) (.ref h_trm) (.ref h_ter) (.int x116)))), (h_nam, .inl (cy_nam, 300, .inr (.inl f117))), (h_var, .inl (cy_var, 300, .inl f118)), (h_trm, .inl (cy_trm, 300, .inl f119)), (h_by, .inl (cy_by, 600, .inl f_by))]) (w1 := [(h_rd, .inr (4, (mo27 vq451 (.int z453) (.int z454) (.int z134))))]) hP hD [6] [0, 1, 2, 3, 4, 5, 7] rfl rfl (by decide) (by decide) hk1 hFc hP1 hD1
                clear hP hD hS hPc hDc hKc hFc hP1 hD1 hk1 hz1 ht hvm
                have hP : va_P (dC, dI) cls [(h_kn, .inl (cy_kn, 8, .inl f114)), (h_ter, .inl (cy_ter, 900, .inl f115)), (h_td, .inr (5, (mo32 v_td (.ref h_nam) (.ref h_var) (.ref h_trm) (.ref h_ter) (.int x116)))), (h_nam, .inl (cy_nam, 300, .inr (.inl f117))), (h_var, .inl (cy_var, 300, .inl f118)), (h_trm, .inl (cy_trm, 300, .inl f119)), (h_by, .inl (cy_by, 600, .inl f_by)), (h_rd, .inr (4, (mo27 vq451 (.int z453) (.int z454) (.int z134))))] H := hP9
                have hD : va_D A [(h_kn, .inl (cy_kn, 8, .inl f114)), (h_ter, .inl (cy_ter, 900, .inl f115)), (h_td, .inr (5, (mo32 v_td (.ref h_nam) (.ref h_var) (.ref h_trm) (.ref h_ter) (.int x116)))), (h_nam, .inl (cy_nam, 300, .inr (.inl f117))), (h_var, .inl (cy_var, 300, .inl f118)), (h_trm, .inl (cy_trm, 300, .inl f119)), (h_by, .inl (cy_by, 600, .inl f_by)), (h_rd, .inr (4, (mo27 vq451 (.int z453) (.int z454) (.int z134))))] := hD9
                have hS := hS9
                clear hP9 hD9 hS9
                rw [evq451] at hP hD
                replace hP : va_P (dC, dI) cls [(h_kn, .inl (cy_kn, 8, .inl f114)), (h_ter, .inl (cy_ter, 900, .inl f115)), (h_td, .inr (5, (mo32 v_td (.ref h_nam) (.ref h_var) (.ref h_trm) (.ref h_ter) (.int x116)))), (h_nam, .inl (cy_nam, 300, .inr (.inl f117))), (h_var, .inl (cy_var, 300, .inl f118)), (h_trm, .inl (cy_trm, 300, .inl f119)), (h_by, .inl (cy_by, 600, .inl f_by)), (h_rd, .inr (4, (mo31 (.ref h_by) (.int x_rd_length) (.int z453) (.int z454) (.ref h_td) (.ref h_kn) (.int x122) (.int z134) (.int z135) (.int z136) (.long z137))))] H := hP
                replace hD : va_D A [(h_kn, .inl (cy_kn, 8, .inl f114)), (h_ter, .inl (cy_ter, 900, .inl f115)), (h_td, .inr (5, (mo32 v_td (.ref h_nam) (.ref h_var) (.ref h_trm) (.ref h_ter) (.int x116)))), (h_nam, .inl (cy_nam, 300, .inr (.inl f117))), (h_var, .inl (cy_var, 300, .inl f118)), (h_trm, .inl (cy_trm, 300, .inl f119)), (h_by, .inl (cy_by, 600, .inl f_by)), (h_rd, .inr (4, (mo31 (.ref h_by) (.int x_rd_length) (.int z453) (.int z454) (.ref h_td) (.ref h_kn) (.int x122) (.int z134) (.int z135) (.int z136) (.long z137))))] := hD
                clear evq451 
                obtain ⟨k455, k456⟩ := hq
                replace k455 : ((z453)).toInt = ((2 : Int32)).toInt := k455
                replace k456 : ((z454)).toInt = ((z134)).toInt := k456
                refine lv_goto (tgt := 170) hx hb dX5_readPart_133 (by decide) ?_
                refine lv_aload_n hx hb dX5_readPart_170 rfl (lv_at hl 0 rfl) ?_
                refine va_get (D := (dC, dI)) (ci := 4) (v := .int z453) (C := RX5) (T := TX5) (N := 11) hx hb hw iwX5 hown hK hP 7 rfl rfl 2 (by decide) (hw _ w_f_X5_34) (fun _ h9 => h9) rfl dX5_readPart_171 ?_
                refine lv_if_eq (tgt := 179) hx hb dX5_readPart_174 (by decide) (fun c457 => False.elim (by have kc457 := (cv_eq (rfl : (z453).toInt = (z453).toInt) (by decide : (0 : Int32).toInt = 0)).mp c457; omega)) (fun _ => ?_)
                refine lv_iload_n hx hb dX5_readPart_177 rfl (lv_at hl 3 rfl) ?_
                replace hP : va_P (dC, dI) cls [(h_rd, .inr (4, (mo31 (.ref h_by) (.int x_rd_length) (.int z453) (.int z454) (.ref h_td) (.ref h_kn) (.int x122) (.int z134) (.int z135) (.int z136) (.long z137)))), (h_by, .inl (cy_by, 600, .inl f_by)), (h_kn, .inl (cy_kn, 8, .inl f114)), (h_td, .inr (5, (mo32 v_td (.ref h_nam) (.ref h_var) (.ref h_trm) (.ref h_ter) (.int x116)))), (h_nam, .inl (cy_nam, 300, .inr (.inl f117))), (h_var, .inl (cy_var, 300, .inl f118)), (h_trm, .inl (cy_trm, 300, .inl f119)), (h_ter, .inl (cy_ter, 900, .inl f115))] H := hP.sub [7, 6, 0, 2, 3, 4, 5, 1] rfl
                replace hD : va_D A [(h_rd, .inr (4, (mo31 (.ref h_by) (.int x_rd_length) (.int z453) (.int z454) (.ref h_td) (.ref h_kn) (.int x122) (.int z134) (.int z135) (.int z136) (.long z137)))), (h_by, .inl (cy_by, 600, .inl f_by)), (h_kn, .inl (cy_kn, 8, .inl f114)), (h_td, .inr (5, (mo32 v_td (.ref h_nam) (.ref h_var) (.ref h_trm) (.ref h_ter) (.int x116)))), (h_nam, .inl (cy_nam, 300, .inr (.inl f117))), (h_var, .inl (cy_var, 300, .inl f118)), (h_trm, .inl (cy_trm, 300, .inl f119)), (h_ter, .inl (cy_ter, 900, .inl f115))] := hD.sub [7, 6, 0, 2, 3, 4, 5, 1] (by decide) rfl
                refine W.widen (k := 0) (n := 0) (Nat.le_of_ble_eq_true rfl) (Nat.le_of_ble_eq_true rfl) ?_
                have w458 : 0 ≤ ((x122)).toInt ∧ ((x122)).toInt ≤ 8 := by first | exact klp129_6 | omega
                have w459 : 0 ≤ ((z134)).toInt ∧ ((z134)).toInt ≤ 600 := by first | exact k138 | omega
                have w460 : 0 ≤ ((z135)).toInt ∧ ((z135)).toInt ≤ 600 := by first | exact k139 | omega
                have w461 : 0 ≤ ((x116)).toInt ∧ ((x116)).toInt ≤ 300 := by first | exact klp129_3 | omega
                have w462 : 0 ≤ (r82 : Int32).toInt ∧ (r82 : Int32).toInt ≤ 299 := by first | exact k88 | omega
                have w463 : ((z453)).toInt = ((pTm G (x_rd_length).toInt (pPs G (x_rd_length).toInt 3) (x_rd_at).toInt (x_rd_variables).toInt vf)).1 := by omega
                have w464 : ((z134)).toInt = ((pTm G (x_rd_length).toInt (pPs G (x_rd_length).toInt 3) (x_rd_at).toInt (x_rd_variables).toInt vf)).2.1 := by omega
                have w465 : ((x122)).toInt = ((pTm G (x_rd_length).toInt (pPs G (x_rd_length).toInt 3) (x_rd_at).toInt (x_rd_variables).toInt vf)).2.2.1 := by omega
                have w466 : (((z453)).toInt = 0 ∧ ((z454)).toInt = (x_rd_place).toInt) ∨ (¬ ((z453)).toInt = 0 ∧ ((z454)).toInt = ((z134)).toInt) := by omega
                have w467 : 2 * ((x116)).toInt ≤ ((z134)).toInt + 1 := by omega
                have w468 : ((z136)).toInt < 256 ∨ 2 * ((x116)).toInt ≤ ((z134)).toInt := by omega
                have w469 : (x_rd_at).toInt ≤ ((z134)).toInt := by omega
                have w470 : ((z136)).toInt = tkT G (x_rd_length).toInt ((z134)).toInt := by first | exact k142 | omega
                have w471 : ((z136)).toInt = -1 ∨ ((z135)).toInt = tkX G (x_rd_length).toInt ((z134)).toInt := by first | exact k143 | omega
                have w472 : ¬ ((z136)).toInt = 257 ∨ ((z137)).toInt = G ((z134)).toInt := by first | exact k144 | omega
                have w473 : -1 ≤ ((z136)).toInt ∧ ((z136)).toInt ≤ 258 := by first | exact k145 | omega
                have w474 : ((z135)).toInt ≤ (x_rd_length).toInt := by first | exact k146 | omega
                have w475 : ((z136)).toInt = -1 ∨ ((z134)).toInt < (x_rd_length).toInt := by first | exact k147 | omega
                have w476 : ((z134)).toInt ≤ (x_rd_length).toInt := by first | exact k148 | omega
                have w477 : VFC ((x122)).toInt ((pTm G (x_rd_length).toInt (pPs G (x_rd_length).toInt 3) (x_rd_at).toInt (x_rd_variables).toInt vf)).2.2.2 (f114) (f117) ((x116)).toInt := (by rw [pq4504]; exact klp129_20)
                exact W.iret (v := r82) hx hb hr (fun t ht hW => ⟨⟨r82, (z453, z454, x122, z134, z135, z136, z137, f114, x116, f117, f118, f119, f115), rfl, ⟨w458, w459, w460, hf114, w461, hf118, hf119, hf115, w462, w463, w464, w465, w466, w467, w468, w469, w470, w471, w472, w473, w474, w475, w476, w477⟩, by rw [ht]; exact hP, hD⟩, hS.F ht⟩) hS.2.2 dX5_readPart_178
            · have kc314 := (not_congr (cv_eq (rfl : (z136).toInt = (z136).toInt) (by decide : (257 : Int32).toInt = 257))).mp c314
              have pv9 : (pTm G (x_rd_length).toInt (pPs G (x_rd_length).toInt 3) (x_rd_at).toInt (x_rd_variables).toInt vf) = (1, tkN G (x_rd_length).toInt (x123).toInt, (x122).toInt, gh128) := klp129_19.symm.trans (pLo_bad (by omega) (by omega))
              have pq4781 : ((pTm G (x_rd_length).toInt (pPs G (x_rd_length).toInt 3) (x_rd_at).toInt (x_rd_variables).toInt vf)).1 = 1 := by rw [pv9]
              have pq4782 : ((pTm G (x_rd_length).toInt (pPs G (x_rd_length).toInt 3) (x_rd_at).toInt (x_rd_variables).toInt vf)).2.1 = tkN G (x_rd_length).toInt (x123).toInt := by rw [pv9]
              have pq4783 : ((pTm G (x_rd_length).toInt (pPs G (x_rd_length).toInt 3) (x_rd_at).toInt (x_rd_variables).toInt vf)).2.2.1 = (x122).toInt := by rw [pv9]
              have pq4784 : ((pTm G (x_rd_length).toInt (pPs G (x_rd_length).toInt 3) (x_rd_at).toInt (x_rd_variables).toInt vf)).2.2.2 = gh128 := by rw [pv9]
              refine lv_aload_n hx hb dX5_readPart_114 rfl (lv_at hl 0 rfl) ?_
              refine lv_iconst (v := 1) hx hb dX5_readPart_115 (by decide) ?_
              obtain ⟨vq479, evq479⟩ := mq31_27 (.ref h_by) (.int x_rd_length) (.ref h_td) (.ref h_kn) (.int x122) (.int z135) (.int z136) (.long z137)
              replace hP : va_P (dC, dI) cls [(h_kn, .inl (cy_kn, 8, .inl f114)), (h_ter, .inl (cy_ter, 900, .inl f115)), (h_td, .inr (5, (mo32 v_td (.ref h_nam) (.ref h_var) (.ref h_trm) (.ref h_ter) (.int x116)))), (h_nam, .inl (cy_nam, 300, .inr (.inl f117))), (h_var, .inl (cy_var, 300, .inl f118)), (h_trm, .inl (cy_trm, 300, .inl f119)), (h_rd, .inr (4, (mo27 vq479 (.int x120) (.int x121) (.int z134)))), (h_by, .inl (cy_by, 600, .inl f_by))] H := by rw [evq479]; exact hP
              replace hD : va_D A [(h_kn, .inl (cy_kn, 8, .inl f114)), (h_ter, .inl (cy_ter, 900, .inl f115)), (h_td, .inr (5, (mo32 v_td (.ref h_nam) (.ref h_var) (.ref h_trm) (.ref h_ter) (.int x116)))), (h_nam, .inl (cy_nam, 300, .inr (.inl f117))), (h_var, .inl (cy_var, 300, .inl f118)), (h_trm, .inl (cy_trm, 300, .inl f119)), (h_rd, .inr (4, (mo27 vq479 (.int x120) (.int x121) (.int z134)))), (h_by, .inl (cy_by, 600, .inl f_by))] := by rw [evq479]; exact hD
              have cst1 : (1 : Int32).toInt = 1 := by decide
              have hPc := hP.sub (ws' := [(h_rd, .inr (4, (mo27 vq479 (.int x120) (.int x121) (.int z134))))]) [6] rfl
              have hDc := hD.sub (ws' := [(h_rd, .inr (4, (mo27 vq479 (.int x120) (.int x121) (.int z134))))]) [6] (by decide) rfl
              have hKc := hK.sub (tys' := []) [] rfl
              have hFc := va_free (wc := [(h_rd, .inr (4, (mo27 vq479 (.int x120) (.int x121) (.int z134))))]) hD hS hA [6] rfl
              refine va_callv (va_runV (As := [.int 1]) (rest := []) ⟨hx, hb, hml, hown, hts⟩ (c_X5_blame l dC dI H.size h_rd vq479 x120 x121 z134 1 (by first | exact k138 | omega)) (cwV 1 hts (gv hT w_m_X5_56 w_instanceMethod_X5_blame ws_sel_X5_blame w_ini_X5 w_code_X5_blame) rfl rfl rfl (by decide +kernel) ⟨(Nat.le_of_ble_eq_true rfl), (Nat.le_of_ble_eq_true rfl)⟩) ⟨pre_blind, va_recv hK hP (ci := 4) (q0 := 6) rfl rfl, pre_of hPc hKc hDc hN⟩ rfl rfl hl.1 rfl (lv_room (Nat.le_of_ble_eq_true rfl)) dX5_readPart_116 ⟨(Nat.le_of_ble_eq_true rfl), (Nat.le_of_ble_eq_true rfl)⟩) hS (fun q _ h => hFc q h) hFc (fun u t H locs ht hvm hq hB hz1 hk1 hS9 => ?_)
              obtain ⟨z481, z482⟩ := u
              obtain ⟨hP1, hD1⟩ := hB
              rw [ht] at hP1
              obtain ⟨hP9, hD9⟩ := va_join (wr := [(h_kn, .inl (cy_kn, 8, .inl f114)), (h_ter, .inl (cy_ter, 900, .inl f115)), (h_td, .inr (5, (mo32 v_td (.ref h_nam) (.ref h_var) (.ref h_trm) (.ref h_ter) (.int x116)))), (h_nam, .inl (cy_nam, 300, .inr (.inl f117))), (h_var, .inl (cy_var, 300, .inl f118)), (h_trm, .inl (cy_trm, 300, .inl f119)), (h_by, .inl (cy_by, 600, .inl f_by))]) (w1 := [(h_rd, .inr (4, (mo27 vq479 (.int z481) (.int z482) (.int z134))))]) hP hD [6] [0, 1, 2, 3, 4, 5, 7] rfl rfl (by decide) (by decide) hk1 hFc hP1 hD1
              clear hP hD hS hPc hDc hKc hFc hP1 hD1 hk1 hz1 ht hvm
              have hP : va_P (dC, dI) cls [(h_kn, .inl (cy_kn, 8, .inl f114)), (h_ter, .inl (cy_ter, 900, .inl f115)), (h_td, .inr (5, (mo32 v_td (.ref h_nam) (.ref h_var) (.ref h_trm) (.ref h_ter) (.int x116)))), (h_nam, .inl (cy_nam, 300, .inr (.inl f117))), (h_var, .inl (cy_var, 300, .inl f118)), (h_trm, .inl (cy_trm, 300, .inl f119)), (h_by, .inl (cy_by, 600, .inl f_by)), (h_rd, .inr (4, (mo27 vq479 (.int z481) (.int z482) (.int z134))))] H := hP9
              have hD : va_D A [(h_kn, .inl (cy_kn, 8, .inl f114)), (h_ter, .inl (cy_ter, 900, .inl f115)), (h_td, .inr (5, (mo32 v_td (.ref h_nam) (.ref h_var) (.ref h_trm) (.ref h_ter) (.int x116)))), (h_nam, .inl (cy_nam, 300, .inr (.inl f117))), (h_var, .inl (cy_var, 300, .inl f118)), (h_trm, .inl (cy_trm, 300, .inl f119)), (h_by, .inl (cy_by, 600, .inl f_by)), (h_rd, .inr (4, (mo27 vq479 (.int z481) (.int z482) (.int z134))))] := hD9
              have hS := hS9
              clear hP9 hD9 hS9
              rw [evq479] at hP hD
              replace hP : va_P (dC, dI) cls [(h_kn, .inl (cy_kn, 8, .inl f114)), (h_ter, .inl (cy_ter, 900, .inl f115)), (h_td, .inr (5, (mo32 v_td (.ref h_nam) (.ref h_var) (.ref h_trm) (.ref h_ter) (.int x116)))), (h_nam, .inl (cy_nam, 300, .inr (.inl f117))), (h_var, .inl (cy_var, 300, .inl f118)), (h_trm, .inl (cy_trm, 300, .inl f119)), (h_by, .inl (cy_by, 600, .inl f_by)), (h_rd, .inr (4, (mo31 (.ref h_by) (.int x_rd_length) (.int z481) (.int z482) (.ref h_td) (.ref h_kn) (.int x122) (.int z134) (.int z135) (.int z136) (.long z137))))] H := hP
              replace hD : va_D A [(h_kn, .inl (cy_kn, 8, .inl f114)), (h_ter, .inl (cy_ter, 900, .inl f115)), (h_td, .inr (5, (mo32 v_td (.ref h_nam) (.ref h_var) (.ref h_trm) (.ref h_ter) (.int x116)))), (h_nam, .inl (cy_nam, 300, .inr (.inl f117))), (h_var, .inl (cy_var, 300, .inl f118)), (h_trm, .inl (cy_trm, 300, .inl f119)), (h_by, .inl (cy_by, 600, .inl f_by)), (h_rd, .inr (4, (mo31 (.ref h_by) (.int x_rd_length) (.int z481) (.int z482) (.ref h_td) (.ref h_kn) (.int x122) (.int z134) (.int z135) (.int z136) (.long z137))))] := hD
              clear evq479 
              obtain ⟨k483, k484⟩ := hq
              replace k483 : ((z481)).toInt = ((1 : Int32)).toInt := k483
              replace k484 : ((z482)).toInt = ((z134)).toInt := k484
              refine lv_goto (tgt := 170) hx hb dX5_readPart_119 (by decide) ?_
              refine lv_aload_n hx hb dX5_readPart_170 rfl (lv_at hl 0 rfl) ?_
              refine va_get (D := (dC, dI)) (ci := 4) (v := .int z481) (C := RX5) (T := TX5) (N := 11) hx hb hw iwX5 hown hK hP 7 rfl rfl 2 (by decide) (hw _ w_f_X5_34) (fun _ h9 => h9) rfl dX5_readPart_171 ?_
              refine lv_if_eq (tgt := 179) hx hb dX5_readPart_174 (by decide) (fun c485 => False.elim (by have kc485 := (cv_eq (rfl : (z481).toInt = (z481).toInt) (by decide : (0 : Int32).toInt = 0)).mp c485; omega)) (fun _ => ?_)
              refine lv_iload_n hx hb dX5_readPart_177 rfl (lv_at hl 3 rfl) ?_
              replace hP : va_P (dC, dI) cls [(h_rd, .inr (4, (mo31 (.ref h_by) (.int x_rd_length) (.int z481) (.int z482) (.ref h_td) (.ref h_kn) (.int x122) (.int z134) (.int z135) (.int z136) (.long z137)))), (h_by, .inl (cy_by, 600, .inl f_by)), (h_kn, .inl (cy_kn, 8, .inl f114)), (h_td, .inr (5, (mo32 v_td (.ref h_nam) (.ref h_var) (.ref h_trm) (.ref h_ter) (.int x116)))), (h_nam, .inl (cy_nam, 300, .inr (.inl f117))), (h_var, .inl (cy_var, 300, .inl f118)), (h_trm, .inl (cy_trm, 300, .inl f119)), (h_ter, .inl (cy_ter, 900, .inl f115))] H := hP.sub [7, 6, 0, 2, 3, 4, 5, 1] rfl
              replace hD : va_D A [(h_rd, .inr (4, (mo31 (.ref h_by) (.int x_rd_length) (.int z481) (.int z482) (.ref h_td) (.ref h_kn) (.int x122) (.int z134) (.int z135) (.int z136) (.long z137)))), (h_by, .inl (cy_by, 600, .inl f_by)), (h_kn, .inl (cy_kn, 8, .inl f114)), (h_td, .inr (5, (mo32 v_td (.ref h_nam) (.ref h_var) (.ref h_trm) (.ref h_ter) (.int x116)))), (h_nam, .inl (cy_nam, 300, .inr (.inl f117))), (h_var, .inl (cy_var, 300, .inl f118)), (h_trm, .inl (cy_trm, 300, .inl f119)), (h_ter, .inl (cy_ter, 900, .inl f115))] := hD.sub [7, 6, 0, 2, 3, 4, 5, 1] (by decide) rfl
              refine W.widen (k := 0) (n := 0) (Nat.le_of_ble_eq_true rfl) (Nat.le_of_ble_eq_true rfl) ?_
              have w486 : 0 ≤ ((x122)).toInt ∧ ((x122)).toInt ≤ 8 := by first | exact klp129_6 | omega
              have w487 : 0 ≤ ((z134)).toInt ∧ ((z134)).toInt ≤ 600 := by first | exact k138 | omega
              have w488 : 0 ≤ ((z135)).toInt ∧ ((z135)).toInt ≤ 600 := by first | exact k139 | omega
              have w489 : 0 ≤ ((x116)).toInt ∧ ((x116)).toInt ≤ 300 := by first | exact klp129_3 | omega
              have w490 : 0 ≤ (r82 : Int32).toInt ∧ (r82 : Int32).toInt ≤ 299 := by first | exact k88 | omega
              have w491 : ((z481)).toInt = ((pTm G (x_rd_length).toInt (pPs G (x_rd_length).toInt 3) (x_rd_at).toInt (x_rd_variables).toInt vf)).1 := by omega
              have w492 : ((z134)).toInt = ((pTm G (x_rd_length).toInt (pPs G (x_rd_length).toInt 3) (x_rd_at).toInt (x_rd_variables).toInt vf)).2.1 := by omega
              have w493 : ((x122)).toInt = ((pTm G (x_rd_length).toInt (pPs G (x_rd_length).toInt 3) (x_rd_at).toInt (x_rd_variables).toInt vf)).2.2.1 := by omega
              have w494 : (((z481)).toInt = 0 ∧ ((z482)).toInt = (x_rd_place).toInt) ∨ (¬ ((z481)).toInt = 0 ∧ ((z482)).toInt = ((z134)).toInt) := by omega
              have w495 : 2 * ((x116)).toInt ≤ ((z134)).toInt + 1 := by omega
              have w496 : ((z136)).toInt < 256 ∨ 2 * ((x116)).toInt ≤ ((z134)).toInt := by omega
              have w497 : (x_rd_at).toInt ≤ ((z134)).toInt := by omega
              have w498 : ((z136)).toInt = tkT G (x_rd_length).toInt ((z134)).toInt := by first | exact k142 | omega
              have w499 : ((z136)).toInt = -1 ∨ ((z135)).toInt = tkX G (x_rd_length).toInt ((z134)).toInt := by first | exact k143 | omega
              have w500 : ¬ ((z136)).toInt = 257 ∨ ((z137)).toInt = G ((z134)).toInt := by first | exact k144 | omega
              have w501 : -1 ≤ ((z136)).toInt ∧ ((z136)).toInt ≤ 258 := by first | exact k145 | omega
              have w502 : ((z135)).toInt ≤ (x_rd_length).toInt := by first | exact k146 | omega
              have w503 : ((z136)).toInt = -1 ∨ ((z134)).toInt < (x_rd_length).toInt := by first | exact k147 | omega
              have w504 : ((z134)).toInt ≤ (x_rd_length).toInt := by first | exact k148 | omega
              have w505 : VFC ((x122)).toInt ((pTm G (x_rd_length).toInt (pPs G (x_rd_length).toInt 3) (x_rd_at).toInt (x_rd_variables).toInt vf)).2.2.2 (f114) (f117) ((x116)).toInt := (by rw [pq4784]; exact klp129_20)
              exact W.iret (v := r82) hx hb hr (fun t ht hW => ⟨⟨r82, (z481, z482, x122, z134, z135, z136, z137, f114, x116, f117, f118, f119, f115), rfl, ⟨w486, w487, w488, hf114, w489, hf118, hf119, hf115, w490, w491, w492, w493, w494, w495, w496, w497, w498, w499, w500, w501, w502, w503, w504, w505⟩, by rw [ht]; exact hP, hD⟩, hS.F ht⟩) hS.2.2 dX5_readPart_178
      have cst0 : (0 : Int32).toInt = 0 := by decide
      have cst3 : (3 : Int32).toInt = 3 := by decide
      exact lp129 _ (0) (f_kn) (f_ter) (z83) (f84) (f85) (f86) (x_rd_fault) (x_rd_place) (x_rd_variables) (z96) (z97) (z98) (z99) (3) (vf) _ _ _ (by decide) hf_kn hf_ter (by first | exact k87 | omega) hf85 hf86 (by first | exact hx_rd_variables | omega) (by first | exact k100 | omega) (by first | exact k101 | omega) (by first | exact k104 | omega) (by omega) (by omega) (by omega) (by omega) (by first | exact k108 | omega) (by omega) (by omega) (by omega) (by omega) lo0 vf92 (Nat.le_refl _) hP hD hS (lv_sub hl [3, 4, 2, 1, 0] rfl)
    · have kc112 := (not_congr (cv_eq (rfl : (z98).toInt = (z98).toInt) (by decide : (40 : Int32).toInt = 40))).mp c112
      have pv9 : (pTm G (x_rd_length).toInt (pPs G (x_rd_length).toInt 3) (x_rd_at).toInt (x_rd_variables).toInt vf) = (0, tkN G (x_rd_length).toInt (x_rd_at).toInt, (x_rd_variables).toInt, vf) := (pTm_name (by omega)).trans (pPs_none (by omega))
      have pq5061 : ((pTm G (x_rd_length).toInt (pPs G (x_rd_length).toInt 3) (x_rd_at).toInt (x_rd_variables).toInt vf)).1 = 0 := by rw [pv9]
      have pq5062 : ((pTm G (x_rd_length).toInt (pPs G (x_rd_length).toInt 3) (x_rd_at).toInt (x_rd_variables).toInt vf)).2.1 = tkN G (x_rd_length).toInt (x_rd_at).toInt := by rw [pv9]
      have pq5063 : ((pTm G (x_rd_length).toInt (pPs G (x_rd_length).toInt 3) (x_rd_at).toInt (x_rd_variables).toInt vf)).2.2.1 = (x_rd_variables).toInt := by rw [pv9]
      have pq5064 : ((pTm G (x_rd_length).toInt (pPs G (x_rd_length).toInt 3) (x_rd_at).toInt (x_rd_variables).toInt vf)).2.2.2 = vf := by rw [pv9]
      refine lv_iload_n hx hb dX5_readPart_66 rfl (lv_at hl 0 rfl) ?_
      replace hP : va_P (dC, dI) cls [(h_rd, .inr (4, (mo31 (.ref h_by) (.int x_rd_length) (.int x_rd_fault) (.int x_rd_place) (.ref h_td) (.ref h_kn) (.int x_rd_variables) (.int z96) (.int z97) (.int z98) (.long z99)))), (h_by, .inl (cy_by, 600, .inl f_by)), (h_kn, .inl (cy_kn, 8, .inl f_kn)), (h_td, .inr (5, (mo32 v_td (.ref h_nam) (.ref h_var) (.ref h_trm) (.ref h_ter) (.int z83)))), (h_nam, .inl (cy_nam, 300, .inr (.inl f84))), (h_var, .inl (cy_var, 300, .inl f85)), (h_trm, .inl (cy_trm, 300, .inl f86)), (h_ter, .inl (cy_ter, 900, .inl f_ter))] H := hP.sub [6, 7, 0, 2, 3, 4, 5, 1] rfl
      replace hD : va_D A [(h_rd, .inr (4, (mo31 (.ref h_by) (.int x_rd_length) (.int x_rd_fault) (.int x_rd_place) (.ref h_td) (.ref h_kn) (.int x_rd_variables) (.int z96) (.int z97) (.int z98) (.long z99)))), (h_by, .inl (cy_by, 600, .inl f_by)), (h_kn, .inl (cy_kn, 8, .inl f_kn)), (h_td, .inr (5, (mo32 v_td (.ref h_nam) (.ref h_var) (.ref h_trm) (.ref h_ter) (.int z83)))), (h_nam, .inl (cy_nam, 300, .inr (.inl f84))), (h_var, .inl (cy_var, 300, .inl f85)), (h_trm, .inl (cy_trm, 300, .inl f86)), (h_ter, .inl (cy_ter, 900, .inl f_ter))] := hD.sub [6, 7, 0, 2, 3, 4, 5, 1] (by decide) rfl
      refine W.widen (k := 0) (n := 0) (Nat.le_of_ble_eq_true rfl) (Nat.le_of_ble_eq_true rfl) ?_
      have w507 : 0 ≤ ((x_rd_variables)).toInt ∧ ((x_rd_variables)).toInt ≤ 8 := by first | exact hx_rd_variables | omega
      have w508 : 0 ≤ ((z96)).toInt ∧ ((z96)).toInt ≤ 600 := by first | exact k100 | omega
      have w509 : 0 ≤ ((z97)).toInt ∧ ((z97)).toInt ≤ 600 := by first | exact k101 | omega
      have w510 : 0 ≤ ((z83)).toInt ∧ ((z83)).toInt ≤ 300 := by first | exact k87 | omega
      have w511 : 0 ≤ (r82 : Int32).toInt ∧ (r82 : Int32).toInt ≤ 299 := by first | exact k88 | omega
      have w512 : ((x_rd_fault)).toInt = ((pTm G (x_rd_length).toInt (pPs G (x_rd_length).toInt 3) (x_rd_at).toInt (x_rd_variables).toInt vf)).1 := by omega
      have w513 : ((z96)).toInt = ((pTm G (x_rd_length).toInt (pPs G (x_rd_length).toInt 3) (x_rd_at).toInt (x_rd_variables).toInt vf)).2.1 := by omega
      have w514 : ((x_rd_variables)).toInt = ((pTm G (x_rd_length).toInt (pPs G (x_rd_length).toInt 3) (x_rd_at).toInt (x_rd_variables).toInt vf)).2.2.1 := by omega
      have w515 : (((x_rd_fault)).toInt = 0 ∧ ((x_rd_place)).toInt = (x_rd_place).toInt) ∨ (¬ ((x_rd_fault)).toInt = 0 ∧ ((x_rd_place)).toInt = ((z96)).toInt) := by omega
      have w516 : 2 * ((z83)).toInt ≤ ((z96)).toInt + 1 := by omega
      have w517 : ((z98)).toInt < 256 ∨ 2 * ((z83)).toInt ≤ ((z96)).toInt := by omega
      have w518 : (x_rd_at).toInt ≤ ((z96)).toInt := by omega
      have w519 : ((z98)).toInt = tkT G (x_rd_length).toInt ((z96)).toInt := by first | exact k104 | omega
      have w520 : ((z98)).toInt = -1 ∨ ((z97)).toInt = tkX G (x_rd_length).toInt ((z96)).toInt := by first | exact k105 | omega
      have w521 : ¬ ((z98)).toInt = 257 ∨ ((z99)).toInt = G ((z96)).toInt := by first | exact k106 | omega
      have w522 : -1 ≤ ((z98)).toInt ∧ ((z98)).toInt ≤ 258 := by first | exact k107 | omega
      have w523 : ((z97)).toInt ≤ (x_rd_length).toInt := by first | exact k108 | omega
      have w524 : ((z98)).toInt = -1 ∨ ((z96)).toInt < (x_rd_length).toInt := by first | exact k109 | omega
      have w525 : ((z96)).toInt ≤ (x_rd_length).toInt := by first | exact k110 | omega
      have w526 : VFC ((x_rd_variables)).toInt ((pTm G (x_rd_length).toInt (pPs G (x_rd_length).toInt 3) (x_rd_at).toInt (x_rd_variables).toInt vf)).2.2.2 (f_kn) (f84) ((z83)).toInt := (by rw [pq5064]; exact vf92)
      exact W.iret (v := r82) hx hb hr (fun t ht hW => ⟨⟨r82, (x_rd_fault, x_rd_place, x_rd_variables, z96, z97, z98, z99, f_kn, z83, f84, f85, f86, f_ter), rfl, ⟨w507, w508, w509, hf_kn, w510, hf85, hf86, hf_ter, w511, w512, w513, w514, w515, w516, w517, w518, w519, w520, w521, w522, w523, w524, w525, w526⟩, by rw [ht]; exact hP, hD⟩, hS.F ht⟩) hS.2.2 dX5_readPart_67

