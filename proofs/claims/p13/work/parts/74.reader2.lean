def K_X5_readPart (l : Launch) (fu : Nat) : Prop := ∀ (dC : Nat → ClassId) (dI : Nat → Nat → Nat) (sz : Nat) (h_rd : Nat) (h_by : Nat) (h_kn : Nat) (h_td : Nat) (h_nam : Nat) (h_var : Nat) (h_trm : Nat) (h_ter : Nat) (x_rd_length : Int32) (x_rd_fault : Int32) (x_rd_place : Int32) (x_rd_variables : Int32) (x_rd_at : Int32) (x_rd_behind : Int32) (x_rd_token : Int32) (x_rd_letters : Int64) (cy_by : ClassId) (f_by : Nat → Int32) (cy_kn : ClassId) (f_kn : Nat → Int32) (v_td : Nat → Value) (x_td_parts : Int32) (cy_nam : ClassId) (f_nam : Nat → Int64) (cy_var : ClassId) (f_var : Nat → Int32) (cy_trm : ClassId) (f_trm : Nat → Int32) (cy_ter : ClassId) (f_ter : Nat → Int32) (p1 : Int32) (G : Int → Int) (vf : Int → Int) (dd : Nat) (hx_rd_length : 0 ≤ (x_rd_length).toInt ∧ (x_rd_length).toInt ≤ 600) (hx_rd_variables : 0 ≤ (x_rd_variables).toInt ∧ (x_rd_variables).toInt ≤ 8) (hx_rd_at : 0 ≤ (x_rd_at).toInt ∧ (x_rd_at).toInt ≤ 600) (hx_rd_behind : 0 ≤ (x_rd_behind).toInt ∧ (x_rd_behind).toInt ≤ 600) (hf_by : Rg 0 255 f_by) (hf_kn : Rg 0 299 f_kn) (hx_td_parts : 0 ≤ (x_td_parts).toInt ∧ (x_td_parts).toInt ≤ 300) (hf_var : Rg (-1) 7 f_var) (hf_trm : Rg 0 3 f_trm) (hf_ter : Rg 0 299 f_ter) (q0 : (x_rd_token).toInt = tkT G (x_rd_length).toInt (x_rd_at).toInt) (q1 : (x_rd_token).toInt = 256 ∨ (x_rd_token).toInt = 257) (q2 : (x_rd_behind).toInt = tkX G (x_rd_length).toInt (x_rd_at).toInt) (q3 : ¬ (x_rd_token).toInt = 257 ∨ (x_rd_letters).toInt = G (x_rd_at).toInt) (q4 : 0 ≤ (x_rd_fault).toInt ∧ (x_rd_fault).toInt ≤ 0) (q5 : 2 * (x_td_parts).toInt ≤ (x_rd_at).toInt) (q6 : (x_rd_at).toInt < (x_rd_length).toInt) (q7 : (x_rd_behind).toInt ≤ (x_rd_length).toInt) (q8 : 0 ≤ (p1).toInt ∧ (p1).toInt ≤ 6) (q9 : (dd : Int) = 6 - (p1).toInt) (q10 : dd + 1 ≤ fu) (hn_byt : BYT G (x_rd_length).toInt f_by) (hn_vfc : VFC (x_rd_variables).toInt vf f_kn f_nam (x_td_parts).toInt) (hn_vfv : VFV (x_rd_variables).toInt f_kn f_var (x_td_parts).toInt) (hn_tz : TZG f_var f_trm) (hn_nmt : NMT (x_rd_token).toInt (x_rd_letters).toInt (NMI 32 G (x_rd_length).toInt (x_rd_at).toInt)), Met l yX5_readPart (Ws yX5_readPart cX5_readPart 5 (some .int)) (({ frames := fu + 3, cells := 0, slots := 0, locals := 24 * fu + 125 } : Room)) (PRE (dC, dI) cls [(cy_by, .int), (cy_kn, .int), (cy_nam, .long), (cy_var, .int), (cy_trm, .int), (cy_ter, .int)] [(h_rd, .inr (4, (mo31 (.ref h_by) (.int x_rd_length) (.int x_rd_fault) (.int x_rd_place) (.ref h_td) (.ref h_kn) (.int x_rd_variables) (.int x_rd_at) (.int x_rd_behind) (.int x_rd_token) (.long x_rd_letters)))), (h_by, .inl (cy_by, 600, .inl f_by)), (h_kn, .inl (cy_kn, 8, .inl f_kn)), (h_td, .inr (5, (mo32 v_td (.ref h_nam) (.ref h_var) (.ref h_trm) (.ref h_ter) (.int x_td_parts)))), (h_nam, .inl (cy_nam, 300, .inr (.inl f_nam))), (h_var, .inl (cy_var, 300, .inl f_var)), (h_trm, .inl (cy_trm, 300, .inl f_trm)), (h_ter, .inl (cy_ter, 900, .inl f_ter))] sz [.ref h_rd, .int p1]) (va_Qi (fun (r : Int32) (u : (Int32) × (Int32) × (Int32) × (Int32) × (Int32) × (Int32) × (Int64) × (Nat → Int32) × (Int32) × (Nat → Int64) × (Nat → Int32) × (Nat → Int32) × (Nat → Int32)) => (0 ≤ (u.2.2.1).toInt ∧ (u.2.2.1).toInt ≤ 8) ∧ (0 ≤ (u.2.2.2.1).toInt ∧ (u.2.2.2.1).toInt ≤ 600) ∧ (0 ≤ (u.2.2.2.2.1).toInt ∧ (u.2.2.2.2.1).toInt ≤ 600) ∧ (Rg 0 299 u.2.2.2.2.2.2.2.1) ∧ (0 ≤ (u.2.2.2.2.2.2.2.2.1).toInt ∧ (u.2.2.2.2.2.2.2.2.1).toInt ≤ 300) ∧ (Rg (-1) 7 u.2.2.2.2.2.2.2.2.2.2.1) ∧ (Rg 0 3 u.2.2.2.2.2.2.2.2.2.2.2.1) ∧ (Rg 0 299 u.2.2.2.2.2.2.2.2.2.2.2.2) ∧ (0 ≤ r.toInt ∧ r.toInt ≤ 299) ∧ ((u.1).toInt = ((pTm G (x_rd_length).toInt (pPs G (x_rd_length).toInt dd) (x_rd_at).toInt (x_rd_variables).toInt vf)).1) ∧ ((u.2.2.2.1).toInt = ((pTm G (x_rd_length).toInt (pPs G (x_rd_length).toInt dd) (x_rd_at).toInt (x_rd_variables).toInt vf)).2.1) ∧ ((u.2.2.1).toInt = ((pTm G (x_rd_length).toInt (pPs G (x_rd_length).toInt dd) (x_rd_at).toInt (x_rd_variables).toInt vf)).2.2.1) ∧ (((u.1).toInt = 0 ∧ (u.2.1).toInt = (x_rd_place).toInt) ∨ (¬ (u.1).toInt = 0 ∧ (u.2.1).toInt = (u.2.2.2.1).toInt)) ∧ (2 * (u.2.2.2.2.2.2.2.2.1).toInt ≤ (u.2.2.2.1).toInt + 1) ∧ ((u.2.2.2.2.2.1).toInt < 256 ∨ 2 * (u.2.2.2.2.2.2.2.2.1).toInt ≤ (u.2.2.2.1).toInt) ∧ ((x_rd_at).toInt ≤ (u.2.2.2.1).toInt) ∧ ((x_rd_variables).toInt ≤ (u.2.2.1).toInt) ∧ ((x_td_parts).toInt ≤ (u.2.2.2.2.2.2.2.2.1).toInt) ∧ ((u.2.2.2.2.2.1).toInt = tkT G (x_rd_length).toInt (u.2.2.2.1).toInt) ∧ ((u.2.2.2.2.2.1).toInt = -1 ∨ (u.2.2.2.2.1).toInt = tkX G (x_rd_length).toInt (u.2.2.2.1).toInt) ∧ (¬ (u.2.2.2.2.2.1).toInt = 257 ∨ (u.2.2.2.2.2.2.1).toInt = G (u.2.2.2.1).toInt) ∧ (-1 ≤ (u.2.2.2.2.2.1).toInt ∧ (u.2.2.2.2.2.1).toInt ≤ 258) ∧ ((u.2.2.2.2.1).toInt ≤ (x_rd_length).toInt) ∧ ((u.2.2.2.2.2.1).toInt = -1 ∨ (u.2.2.2.1).toInt < (x_rd_length).toInt) ∧ ((u.2.2.2.1).toInt ≤ (x_rd_length).toInt) ∧ (VFC (u.2.2.1).toInt ((pTm G (x_rd_length).toInt (pPs G (x_rd_length).toInt dd) (x_rd_at).toInt (x_rd_variables).toInt vf)).2.2.2 u.2.2.2.2.2.2.2.1 u.2.2.2.2.2.2.2.2.2.1 (u.2.2.2.2.2.2.2.2.1).toInt) ∧ (VFV (u.2.2.1).toInt u.2.2.2.2.2.2.2.1 u.2.2.2.2.2.2.2.2.2.2.1 (u.2.2.2.2.2.2.2.2.1).toInt) ∧ (NMT (u.2.2.2.2.2.1).toInt (u.2.2.2.2.2.2.1).toInt (NMI 32 G (x_rd_length).toInt (u.2.2.2.1).toInt)) ∧ (AGX (x_td_parts).toInt f_nam u.2.2.2.2.2.2.2.2.2.1 f_var u.2.2.2.2.2.2.2.2.2.2.1 f_trm u.2.2.2.2.2.2.2.2.2.2.2.1 f_ter u.2.2.2.2.2.2.2.2.2.2.2.2) ∧ (KX (x_rd_variables).toInt (kfn f_kn) (kfn u.2.2.2.2.2.2.2.1)) ∧ (TZG u.2.2.2.2.2.2.2.2.2.2.1 u.2.2.2.2.2.2.2.2.2.2.2.1) ∧ (IFZ (u.1).toInt (∃ L B : Nat, (L : Int) = (x_td_parts).toInt ∧ (B : Int) = (u.2.2.2.2.2.2.2.2.1).toInt ∧ SPX G (x_rd_length).toInt 32 (CVW u.2.2.2.2.2.2.2.2.2.1 u.2.2.2.2.2.2.2.2.2.2.1 u.2.2.2.2.2.2.2.2.2.2.2.1 u.2.2.2.2.2.2.2.2.2.2.2.2) (u.2.2.1).toInt ((pTm G (x_rd_length).toInt (pPs G (x_rd_length).toInt dd) (x_rd_at).toInt (x_rd_variables).toInt vf)).2.2.2 (kfn u.2.2.2.2.2.2.2.1) L B (dd + 1) (Int32.toNatClampNeg r) (x_rd_at).toInt (u.2.2.2.1).toInt))) (fun (u : (Int32) × (Int32) × (Int32) × (Int32) × (Int32) × (Int32) × (Int64) × (Nat → Int32) × (Int32) × (Nat → Int64) × (Nat → Int32) × (Nat → Int32) × (Nat → Int32)) (t : State) => va_P (dC, dI) cls [(h_rd, .inr (4, (mo31 (.ref h_by) (.int x_rd_length) (.int u.1) (.int u.2.1) (.ref h_td) (.ref h_kn) (.int u.2.2.1) (.int u.2.2.2.1) (.int u.2.2.2.2.1) (.int u.2.2.2.2.2.1) (.long u.2.2.2.2.2.2.1)))), (h_by, .inl (cy_by, 600, .inl f_by)), (h_kn, .inl (cy_kn, 8, .inl u.2.2.2.2.2.2.2.1)), (h_td, .inr (5, (mo32 v_td (.ref h_nam) (.ref h_var) (.ref h_trm) (.ref h_ter) (.int u.2.2.2.2.2.2.2.2.1)))), (h_nam, .inl (cy_nam, 300, .inr (.inl u.2.2.2.2.2.2.2.2.2.1))), (h_var, .inl (cy_var, 300, .inl u.2.2.2.2.2.2.2.2.2.2.1)), (h_trm, .inl (cy_trm, 300, .inl u.2.2.2.2.2.2.2.2.2.2.2.1)), (h_ter, .inl (cy_ter, 900, .inl u.2.2.2.2.2.2.2.2.2.2.2.2))] t.heap ∧ va_D (va_A [(h_rd, .inr (4, (mo31 (.ref h_by) (.int x_rd_length) (.int x_rd_fault) (.int x_rd_place) (.ref h_td) (.ref h_kn) (.int x_rd_variables) (.int x_rd_at) (.int x_rd_behind) (.int x_rd_token) (.long x_rd_letters)))), (h_by, .inl (cy_by, 600, .inl f_by)), (h_kn, .inl (cy_kn, 8, .inl f_kn)), (h_td, .inr (5, (mo32 v_td (.ref h_nam) (.ref h_var) (.ref h_trm) (.ref h_ter) (.int x_td_parts)))), (h_nam, .inl (cy_nam, 300, .inr (.inl f_nam))), (h_var, .inl (cy_var, 300, .inl f_var)), (h_trm, .inl (cy_trm, 300, .inl f_trm)), (h_ter, .inl (cy_ter, 900, .inl f_ter))] sz) [(h_rd, .inr (4, (mo31 (.ref h_by) (.int x_rd_length) (.int u.1) (.int u.2.1) (.ref h_td) (.ref h_kn) (.int u.2.2.1) (.int u.2.2.2.1) (.int u.2.2.2.2.1) (.int u.2.2.2.2.2.1) (.long u.2.2.2.2.2.2.1)))), (h_by, .inl (cy_by, 600, .inl f_by)), (h_kn, .inl (cy_kn, 8, .inl u.2.2.2.2.2.2.2.1)), (h_td, .inr (5, (mo32 v_td (.ref h_nam) (.ref h_var) (.ref h_trm) (.ref h_ter) (.int u.2.2.2.2.2.2.2.2.1)))), (h_nam, .inl (cy_nam, 300, .inr (.inl u.2.2.2.2.2.2.2.2.2.1))), (h_var, .inl (cy_var, 300, .inl u.2.2.2.2.2.2.2.2.2.2.1)), (h_trm, .inl (cy_trm, 300, .inl u.2.2.2.2.2.2.2.2.2.2.2.1)), (h_ter, .inl (cy_ter, 900, .inl u.2.2.2.2.2.2.2.2.2.2.2.2))]) (va_A [(h_rd, .inr (4, (mo31 (.ref h_by) (.int x_rd_length) (.int x_rd_fault) (.int x_rd_place) (.ref h_td) (.ref h_kn) (.int x_rd_variables) (.int x_rd_at) (.int x_rd_behind) (.int x_rd_token) (.long x_rd_letters)))), (h_by, .inl (cy_by, 600, .inl f_by)), (h_kn, .inl (cy_kn, 8, .inl f_kn)), (h_td, .inr (5, (mo32 v_td (.ref h_nam) (.ref h_var) (.ref h_trm) (.ref h_ter) (.int x_td_parts)))), (h_nam, .inl (cy_nam, 300, .inr (.inl f_nam))), (h_var, .inl (cy_var, 300, .inl f_var)), (h_trm, .inl (cy_trm, 300, .inl f_trm)), (h_ter, .inl (cy_ter, 900, .inl f_ter))] sz)) 0 0 (va_A [(h_rd, .inr (4, (mo31 (.ref h_by) (.int x_rd_length) (.int x_rd_fault) (.int x_rd_place) (.ref h_td) (.ref h_kn) (.int x_rd_variables) (.int x_rd_at) (.int x_rd_behind) (.int x_rd_token) (.long x_rd_letters)))), (h_by, .inl (cy_by, 600, .inl f_by)), (h_kn, .inl (cy_kn, 8, .inl f_kn)), (h_td, .inr (5, (mo32 v_td (.ref h_nam) (.ref h_var) (.ref h_trm) (.ref h_ter) (.int x_td_parts)))), (h_nam, .inl (cy_nam, 300, .inr (.inl f_nam))), (h_var, .inl (cy_var, 300, .inl f_var)), (h_trm, .inl (cy_trm, 300, .inl f_trm)), (h_ter, .inl (cy_ter, 900, .inl f_ter))] sz)
set_option maxHeartbeats 8000000 in
set_option maxRecDepth 100000 in
theorem c_X5_readPart (l : Launch) (fu : Nat) : K_X5_readPart l fu := by
  refine Nat.rec (motive := fun fu => K_X5_readPart l fu) ?_ ?_ fu
  · intro dC dI sz h_rd h_by h_kn h_td h_nam h_var h_trm h_ter x_rd_length x_rd_fault x_rd_place x_rd_variables x_rd_at x_rd_behind x_rd_token x_rd_letters cy_by f_by cy_kn f_kn v_td x_td_parts cy_nam f_nam cy_var f_var cy_trm f_trm cy_ter f_ter p1 G vf dd hx_rd_length hx_rd_variables hx_rd_at hx_rd_behind hf_by hf_kn hx_td_parts hf_var hf_trm hf_ter q0 q1 q2 q3 q4 q5 q6 q7 q8 q9 q10 hn_byt hn_vfc hn_vfv hn_tz hn_nmt
    have h09 : Nat.zero = 0 := rfl
    exact False.elim (by omega)
  intro fu ihf
  intro dC dI sz h_rd h_by h_kn h_td h_nam h_var h_trm h_ter x_rd_length x_rd_fault x_rd_place x_rd_variables x_rd_at x_rd_behind x_rd_token x_rd_letters cy_by f_by cy_kn f_kn v_td x_td_parts cy_nam f_nam cy_var f_var cy_trm f_trm cy_ter f_ter p1 G vf dd hx_rd_length hx_rd_variables hx_rd_at hx_rd_behind hf_by hf_kn hx_td_parts hf_var hf_trm hf_ter q0 q1 q2 q3 q4 q5 q6 q7 q8 q9 q10 hn_byt hn_vfc hn_vfv hn_tz hn_nmt
  refine Met.ofW (cc := cX5_readPart) (maxL := 5) (ret := (some .int)) (by decide) rfl ?_
  intro p e s m args below meth c s₁ B hml hv
  obtain ⟨rfl, hsz, hP, hK, hD0, hN⟩ := hv
  have hx := B.exec
  have hb := B.bytes
  have hr := B.returns
  have hts := atoms_spec (ws := Ws yX5_readPart cX5_readPart 5 (some .int)) B.pre
  have hT : ∀ w ∈ WALL, w ∈ Ws yX5_readPart cX5_readPart 5 (some .int) := fun w h => List.mem_cons_of_mem _ h
  have hw := fun w (h : w ∈ WALL) => hts w (hT w h)
  have hown : s.vm.findClass RX5 = some m.cls := findClass_of_methodNamed B.named
  have hlocks := B.notSynchronized
  subst hsz
  have hD := hD0.self (sz := s.heap.size)
  generalize hAe : va_A [(h_rd, .inr (4, (mo31 (.ref h_by) (.int x_rd_length) (.int x_rd_fault) (.int x_rd_place) (.ref h_td) (.ref h_kn) (.int x_rd_variables) (.int x_rd_at) (.int x_rd_behind) (.int x_rd_token) (.long x_rd_letters)))), (h_by, .inl (cy_by, 600, .inl f_by)), (h_kn, .inl (cy_kn, 8, .inl f_kn)), (h_td, .inr (5, (mo32 v_td (.ref h_nam) (.ref h_var) (.ref h_trm) (.ref h_ter) (.int x_td_parts)))), (h_nam, .inl (cy_nam, 300, .inr (.inl f_nam))), (h_var, .inl (cy_var, 300, .inl f_var)), (h_trm, .inl (cy_trm, 300, .inl f_trm)), (h_ter, .inl (cy_ter, 900, .inl f_ter))] s.heap.size = A at hD ⊢
  have hA : ∀ q : Nat, s.heap.size ≤ q → A q := fun q h => by rw [← hAe]; exact Or.inr h
  have hS : va_S A s.heap s.heap [] := va_S.rf
  have hl := lv_entry ([.ref h_rd, .int p1]) (n := 5) (Nat.le_of_ble_eq_true rfl)
  rw [lg_entry_eq]
  generalize (lg_sl ([.ref h_rd, .int p1]) ++ List.replicate (5 - (lg_sl ([.ref h_rd, .int p1])).length) Slot.unset).toArray = ls at hl ⊢
  have hl : lv_has ls 5 [(0, .ref h_rd), (1, .int p1)] := hl
  refine lv_aload_n hx hb dX5_readPart_0 rfl (lv_at hl 0 rfl) ?_
  refine va_get (D := (dC, dI)) (ci := 4) (v := .int x_rd_token) (C := RX5) (T := TX5) (N := 11) hx hb hw iwX5 hown hK hP 0 rfl rfl 9 (by decide) (hw _ w_f_X5_43) (fun _ h9 => h9) rfl dX5_readPart_1 ?_
  refine lv_sipush (v := 256) hx hb dX5_readPart_4 (by decide) ?_
  refine lv_icmp_ne (tgt := 14) hx hb dX5_readPart_7 (by decide) (fun c1 => ?_) (fun c1 => ?_)
  · have kc1 := (not_congr (cv_eq (rfl : (x_rd_token).toInt = (x_rd_token).toInt) (by decide : (256 : Int32).toInt = 256))).mp c1
    refine lv_iconst (v := 0) hx hb dX5_readPart_14 (by decide) ?_
    refine lv_istore_n (lv' := [(2, .int 0), (0, .ref h_rd), (1, .int p1)]) hx hb dX5_readPart_15 rfl hl (by decide) rfl (fun ls hl => ?_)
    refine lv_iload_n hx hb dX5_readPart_16 rfl (lv_at hl 0 rfl) ?_
    refine lv_if_eq (tgt := 35) hx hb dX5_readPart_17 (by decide) (fun _ => ?_) (fun c9 => absurd c9 (by decide))
    refine lv_aload_n hx hb dX5_readPart_35 rfl (lv_at hl 1 rfl) ?_
    obtain ⟨vq2, evq2⟩ := mq31_30 (.ref h_by) (.int x_rd_behind) (.int x_rd_token)
    replace hP : va_P (dC, dI) cls [(h_rd, .inr (4, (mo30 vq2 (.int x_rd_length) (.int x_rd_fault) (.int x_rd_place) (.ref h_td) (.ref h_kn) (.int x_rd_variables) (.int x_rd_at) (.long x_rd_letters)))), (h_by, .inl (cy_by, 600, .inl f_by)), (h_kn, .inl (cy_kn, 8, .inl f_kn)), (h_td, .inr (5, (mo32 v_td (.ref h_nam) (.ref h_var) (.ref h_trm) (.ref h_ter) (.int x_td_parts)))), (h_nam, .inl (cy_nam, 300, .inr (.inl f_nam))), (h_var, .inl (cy_var, 300, .inl f_var)), (h_trm, .inl (cy_trm, 300, .inl f_trm)), (h_ter, .inl (cy_ter, 900, .inl f_ter))] s.heap := by rw [evq2]; exact hP
    replace hD : va_D A [(h_rd, .inr (4, (mo30 vq2 (.int x_rd_length) (.int x_rd_fault) (.int x_rd_place) (.ref h_td) (.ref h_kn) (.int x_rd_variables) (.int x_rd_at) (.long x_rd_letters)))), (h_by, .inl (cy_by, 600, .inl f_by)), (h_kn, .inl (cy_kn, 8, .inl f_kn)), (h_td, .inr (5, (mo32 v_td (.ref h_nam) (.ref h_var) (.ref h_trm) (.ref h_ter) (.int x_td_parts)))), (h_nam, .inl (cy_nam, 300, .inr (.inl f_nam))), (h_var, .inl (cy_var, 300, .inl f_var)), (h_trm, .inl (cy_trm, 300, .inl f_trm)), (h_ter, .inl (cy_ter, 900, .inl f_ter))] := by rw [evq2]; exact hD
    obtain ⟨vq3, evq3⟩ := mq32_24 v_td (.ref h_ter)
    replace hP : va_P (dC, dI) cls [(h_rd, .inr (4, (mo30 vq2 (.int x_rd_length) (.int x_rd_fault) (.int x_rd_place) (.ref h_td) (.ref h_kn) (.int x_rd_variables) (.int x_rd_at) (.long x_rd_letters)))), (h_by, .inl (cy_by, 600, .inl f_by)), (h_kn, .inl (cy_kn, 8, .inl f_kn)), (h_td, .inr (5, (mo24 vq3 (.ref h_nam) (.ref h_var) (.ref h_trm) (.int x_td_parts)))), (h_nam, .inl (cy_nam, 300, .inr (.inl f_nam))), (h_var, .inl (cy_var, 300, .inl f_var)), (h_trm, .inl (cy_trm, 300, .inl f_trm)), (h_ter, .inl (cy_ter, 900, .inl f_ter))] s.heap := by rw [evq3]; exact hP
    replace hD : va_D A [(h_rd, .inr (4, (mo30 vq2 (.int x_rd_length) (.int x_rd_fault) (.int x_rd_place) (.ref h_td) (.ref h_kn) (.int x_rd_variables) (.int x_rd_at) (.long x_rd_letters)))), (h_by, .inl (cy_by, 600, .inl f_by)), (h_kn, .inl (cy_kn, 8, .inl f_kn)), (h_td, .inr (5, (mo24 vq3 (.ref h_nam) (.ref h_var) (.ref h_trm) (.int x_td_parts)))), (h_nam, .inl (cy_nam, 300, .inr (.inl f_nam))), (h_var, .inl (cy_var, 300, .inl f_var)), (h_trm, .inl (cy_trm, 300, .inl f_trm)), (h_ter, .inl (cy_ter, 900, .inl f_ter))] := by rw [evq3]; exact hD
    have hPc := hP.sub (ws' := [(h_rd, .inr (4, (mo30 vq2 (.int x_rd_length) (.int x_rd_fault) (.int x_rd_place) (.ref h_td) (.ref h_kn) (.int x_rd_variables) (.int x_rd_at) (.long x_rd_letters)))), (h_kn, .inl (cy_kn, 8, .inl f_kn)), (h_td, .inr (5, (mo24 vq3 (.ref h_nam) (.ref h_var) (.ref h_trm) (.int x_td_parts)))), (h_nam, .inl (cy_nam, 300, .inr (.inl f_nam))), (h_var, .inl (cy_var, 300, .inl f_var)), (h_trm, .inl (cy_trm, 300, .inl f_trm))]) [0, 2, 3, 4, 5, 6] rfl
    have hDc := hD.sub (ws' := [(h_rd, .inr (4, (mo30 vq2 (.int x_rd_length) (.int x_rd_fault) (.int x_rd_place) (.ref h_td) (.ref h_kn) (.int x_rd_variables) (.int x_rd_at) (.long x_rd_letters)))), (h_kn, .inl (cy_kn, 8, .inl f_kn)), (h_td, .inr (5, (mo24 vq3 (.ref h_nam) (.ref h_var) (.ref h_trm) (.int x_td_parts)))), (h_nam, .inl (cy_nam, 300, .inr (.inl f_nam))), (h_var, .inl (cy_var, 300, .inl f_var)), (h_trm, .inl (cy_trm, 300, .inl f_trm))]) [0, 2, 3, 4, 5, 6] (by decide) rfl
    have hKc := hK.sub (tys' := [(cy_kn, .int), (cy_nam, .long), (cy_var, .int), (cy_trm, .int)]) [1, 2, 3, 4] rfl
    have hFc := va_free (wc := [(h_rd, .inr (4, (mo30 vq2 (.int x_rd_length) (.int x_rd_fault) (.int x_rd_place) (.ref h_td) (.ref h_kn) (.int x_rd_variables) (.int x_rd_at) (.long x_rd_letters)))), (h_kn, .inl (cy_kn, 8, .inl f_kn)), (h_td, .inr (5, (mo24 vq3 (.ref h_nam) (.ref h_var) (.ref h_trm) (.int x_td_parts)))), (h_nam, .inl (cy_nam, 300, .inr (.inl f_nam))), (h_var, .inl (cy_var, 300, .inl f_var)), (h_trm, .inl (cy_trm, 300, .inl f_trm))]) hD hS hA [0, 2, 3, 4, 5, 6] rfl
    refine va_calli (va_runV (As := []) (rest := []) ⟨hx, hb, hml, hown, hts⟩ (c_X5_variablePart l dC dI s.heap.size h_rd h_kn h_td h_nam h_var h_trm vq2 x_rd_length x_rd_fault x_rd_place x_rd_variables x_rd_at x_rd_letters cy_kn f_kn vq3 x_td_parts cy_nam f_nam cy_var f_var cy_trm f_trm G vf (by first | exact hx_rd_length | omega) (by first | exact hx_rd_variables | omega) (by first | exact hx_rd_at | omega) hf_kn (by first | exact hx_td_parts | omega) hf_var hf_trm (by omega) (by first | exact q5 | omega) (by omega) (by first | exact q4 | omega) hn_vfc hn_vfv hn_tz) (cwV 0 hts (gv hT w_m_X5_93 w_instanceMethod_X5_variablePart ws_sel_X5_variablePart w_ini_X5 w_code_X5_variablePart) rfl rfl rfl (by decide +kernel) ⟨(by dsimp only [headSpec]; omega), (by dsimp only [headSpec]; omega)⟩) ⟨pre_blind, va_recv hK hP (ci := 4) (q0 := 0) rfl rfl, pre_of hPc hKc hDc hN⟩ rfl rfl hl.1 rfl (lv_room (Nat.le_of_ble_eq_true rfl)) dX5_readPart_36 ⟨(Nat.le_of_ble_eq_true rfl), (Nat.le_of_ble_eq_true rfl)⟩) hS (fun q _ h => hFc q h) hFc (fun r4 u t H locs ht hvm hq hB hz1 hk1 hS9 => ?_)
    obtain ⟨z5, z6, z7, f8, z9, f10, f11, f12⟩ := u
    obtain ⟨hP1, hD1⟩ := hB
    rw [ht] at hP1
    obtain ⟨hP9, hD9⟩ := va_join (wr := [(h_by, .inl (cy_by, 600, .inl f_by)), (h_ter, .inl (cy_ter, 900, .inl f_ter))]) (w1 := [(h_rd, .inr (4, (mo30 vq2 (.int x_rd_length) (.int z5) (.int z6) (.ref h_td) (.ref h_kn) (.int z7) (.int x_rd_at) (.long x_rd_letters)))), (h_kn, .inl (cy_kn, 8, .inl f8)), (h_td, .inr (5, (mo24 vq3 (.ref h_nam) (.ref h_var) (.ref h_trm) (.int z9)))), (h_nam, .inl (cy_nam, 300, .inr (.inl f10))), (h_var, .inl (cy_var, 300, .inl f11)), (h_trm, .inl (cy_trm, 300, .inl f12))]) hP hD [0, 2, 3, 4, 5, 6] [1, 7] rfl rfl (by decide) (by decide) hk1 hFc hP1 hD1
    clear hP hD hS hPc hDc hKc hFc hP1 hD1 hk1 hz1 ht hvm
    have hP : va_P (dC, dI) cls [(h_by, .inl (cy_by, 600, .inl f_by)), (h_ter, .inl (cy_ter, 900, .inl f_ter)), (h_rd, .inr (4, (mo30 vq2 (.int x_rd_length) (.int z5) (.int z6) (.ref h_td) (.ref h_kn) (.int z7) (.int x_rd_at) (.long x_rd_letters)))), (h_kn, .inl (cy_kn, 8, .inl f8)), (h_td, .inr (5, (mo24 vq3 (.ref h_nam) (.ref h_var) (.ref h_trm) (.int z9)))), (h_nam, .inl (cy_nam, 300, .inr (.inl f10))), (h_var, .inl (cy_var, 300, .inl f11)), (h_trm, .inl (cy_trm, 300, .inl f12))] H := hP9
    have hD : va_D A [(h_by, .inl (cy_by, 600, .inl f_by)), (h_ter, .inl (cy_ter, 900, .inl f_ter)), (h_rd, .inr (4, (mo30 vq2 (.int x_rd_length) (.int z5) (.int z6) (.ref h_td) (.ref h_kn) (.int z7) (.int x_rd_at) (.long x_rd_letters)))), (h_kn, .inl (cy_kn, 8, .inl f8)), (h_td, .inr (5, (mo24 vq3 (.ref h_nam) (.ref h_var) (.ref h_trm) (.int z9)))), (h_nam, .inl (cy_nam, 300, .inr (.inl f10))), (h_var, .inl (cy_var, 300, .inl f11)), (h_trm, .inl (cy_trm, 300, .inl f12))] := hD9
    have hS := hS9
    clear hP9 hD9 hS9
    rw [evq2] at hP hD
    replace hP : va_P (dC, dI) cls [(h_by, .inl (cy_by, 600, .inl f_by)), (h_ter, .inl (cy_ter, 900, .inl f_ter)), (h_rd, .inr (4, (mo31 (.ref h_by) (.int x_rd_length) (.int z5) (.int z6) (.ref h_td) (.ref h_kn) (.int z7) (.int x_rd_at) (.int x_rd_behind) (.int x_rd_token) (.long x_rd_letters)))), (h_kn, .inl (cy_kn, 8, .inl f8)), (h_td, .inr (5, (mo24 vq3 (.ref h_nam) (.ref h_var) (.ref h_trm) (.int z9)))), (h_nam, .inl (cy_nam, 300, .inr (.inl f10))), (h_var, .inl (cy_var, 300, .inl f11)), (h_trm, .inl (cy_trm, 300, .inl f12))] H := hP
    replace hD : va_D A [(h_by, .inl (cy_by, 600, .inl f_by)), (h_ter, .inl (cy_ter, 900, .inl f_ter)), (h_rd, .inr (4, (mo31 (.ref h_by) (.int x_rd_length) (.int z5) (.int z6) (.ref h_td) (.ref h_kn) (.int z7) (.int x_rd_at) (.int x_rd_behind) (.int x_rd_token) (.long x_rd_letters)))), (h_kn, .inl (cy_kn, 8, .inl f8)), (h_td, .inr (5, (mo24 vq3 (.ref h_nam) (.ref h_var) (.ref h_trm) (.int z9)))), (h_nam, .inl (cy_nam, 300, .inr (.inl f10))), (h_var, .inl (cy_var, 300, .inl f11)), (h_trm, .inl (cy_trm, 300, .inl f12))] := hD
    clear evq2 
    rw [evq3] at hP hD
    replace hP : va_P (dC, dI) cls [(h_by, .inl (cy_by, 600, .inl f_by)), (h_ter, .inl (cy_ter, 900, .inl f_ter)), (h_rd, .inr (4, (mo31 (.ref h_by) (.int x_rd_length) (.int z5) (.int z6) (.ref h_td) (.ref h_kn) (.int z7) (.int x_rd_at) (.int x_rd_behind) (.int x_rd_token) (.long x_rd_letters)))), (h_kn, .inl (cy_kn, 8, .inl f8)), (h_td, .inr (5, (mo32 v_td (.ref h_nam) (.ref h_var) (.ref h_trm) (.ref h_ter) (.int z9)))), (h_nam, .inl (cy_nam, 300, .inr (.inl f10))), (h_var, .inl (cy_var, 300, .inl f11)), (h_trm, .inl (cy_trm, 300, .inl f12))] H := hP
    replace hD : va_D A [(h_by, .inl (cy_by, 600, .inl f_by)), (h_ter, .inl (cy_ter, 900, .inl f_ter)), (h_rd, .inr (4, (mo31 (.ref h_by) (.int x_rd_length) (.int z5) (.int z6) (.ref h_td) (.ref h_kn) (.int z7) (.int x_rd_at) (.int x_rd_behind) (.int x_rd_token) (.long x_rd_letters)))), (h_kn, .inl (cy_kn, 8, .inl f8)), (h_td, .inr (5, (mo32 v_td (.ref h_nam) (.ref h_var) (.ref h_trm) (.ref h_ter) (.int z9)))), (h_nam, .inl (cy_nam, 300, .inr (.inl f10))), (h_var, .inl (cy_var, 300, .inl f11)), (h_trm, .inl (cy_trm, 300, .inl f12))] := hD
    clear evq3 
    obtain ⟨k13, hf8, k14, hf11, hf12, k15, k16, k17, k18, k19, k20, k21, k22, k23, k24, k25, k26⟩ := hq
    replace k13 : 0 ≤ ((z7)).toInt ∧ ((z7)).toInt ≤ 8 := k13
    replace hf8 : Rg 0 299 (f8) := hf8
    replace k14 : 0 ≤ ((z9)).toInt ∧ ((z9)).toInt ≤ 300 := k14
    replace hf11 : Rg (-1) 7 (f11) := hf11
    replace hf12 : Rg 0 3 (f12) := hf12
    replace k15 : 0 ≤ (r4).toInt ∧ (r4).toInt ≤ 299 := k15
    replace k16 : ((z5)).toInt = ((pVar (G) ((x_rd_length)).toInt ((x_rd_at)).toInt ((x_rd_variables)).toInt (vf))).1 := k16
    replace k17 : (((z5)).toInt = 0 ∧ ((z6)).toInt = ((x_rd_place)).toInt ∧ ((pVar (G) ((x_rd_length)).toInt ((x_rd_at)).toInt ((x_rd_variables)).toInt (vf))).2.1 = tkN (G) ((x_rd_length)).toInt ((x_rd_at)).toInt) ∨ (((z5)).toInt = 2 ∧ ((z6)).toInt = ((x_rd_at)).toInt ∧ ((pVar (G) ((x_rd_length)).toInt ((x_rd_at)).toInt ((x_rd_variables)).toInt (vf))).2.1 = ((x_rd_at)).toInt ∧ ((z9)).toInt = ((x_td_parts)).toInt) := k17
    replace k18 : ((z7)).toInt = ((pVar (G) ((x_rd_length)).toInt ((x_rd_at)).toInt ((x_rd_variables)).toInt (vf))).2.2.1 := k18
    replace k19 : ((x_td_parts)).toInt ≤ ((z9)).toInt ∧ ((z9)).toInt ≤ ((x_td_parts)).toInt + 1 := k19
    replace k20 : ((x_rd_variables)).toInt ≤ ((z7)).toInt := k20
    replace k21 : VFC ((z7)).toInt ((pVar (G) ((x_rd_length)).toInt ((x_rd_at)).toInt ((x_rd_variables)).toInt (vf))).2.2.2 (f8) (f10) ((z9)).toInt := k21
    replace k22 : VFV ((z7)).toInt (f8) (f11) ((z9)).toInt := k22
    replace k23 : IFZ ((z5)).toInt (VPX (G) ((x_rd_at)).toInt ((z7)).toInt ((pVar (G) ((x_rd_length)).toInt ((x_rd_at)).toInt ((x_rd_variables)).toInt (vf))).2.2.2 (kfn (f8)) (f11) ((z9)).toInt (r4)) := k23
    replace k24 : KX ((x_rd_variables)).toInt (kfn f_kn) (kfn (f8)) := k24
    replace k25 : AG3 ((x_td_parts)).toInt f_nam (f10) f_var (f11) f_trm (f12) := k25
    replace k26 : TZG (f11) (f12) := k26
    have rq9 : (pTm G (x_rd_length).toInt (pPs G (x_rd_length).toInt dd) (x_rd_at).toInt (x_rd_variables).toInt vf) = (pVar G (x_rd_length).toInt (x_rd_at).toInt (x_rd_variables).toInt vf) := pTm_var (by omega)
    have pq271 : ((pTm G (x_rd_length).toInt (pPs G (x_rd_length).toInt dd) (x_rd_at).toInt (x_rd_variables).toInt vf)).1 = ((pVar G (x_rd_length).toInt (x_rd_at).toInt (x_rd_variables).toInt vf)).1 := by rw [rq9]
    have pq272 : ((pTm G (x_rd_length).toInt (pPs G (x_rd_length).toInt dd) (x_rd_at).toInt (x_rd_variables).toInt vf)).2.1 = ((pVar G (x_rd_length).toInt (x_rd_at).toInt (x_rd_variables).toInt vf)).2.1 := by rw [rq9]
    have pq273 : ((pTm G (x_rd_length).toInt (pPs G (x_rd_length).toInt dd) (x_rd_at).toInt (x_rd_variables).toInt vf)).2.2.1 = ((pVar G (x_rd_length).toInt (x_rd_at).toInt (x_rd_variables).toInt vf)).2.2.1 := by rw [rq9]
    have pq274 : ((pTm G (x_rd_length).toInt (pPs G (x_rd_length).toInt dd) (x_rd_at).toInt (x_rd_variables).toInt vf)).2.2.2 = ((pVar G (x_rd_length).toInt (x_rd_at).toInt (x_rd_variables).toInt vf)).2.2.2 := by rw [rq9]
    refine lv_istore_n (lv' := [(3, .int r4), (2, .int 0), (0, .ref h_rd), (1, .int p1)]) hx hb dX5_readPart_39 rfl hl (by decide) rfl (fun ls hl => ?_)
    refine lv_aload_n hx hb dX5_readPart_40 rfl (lv_at hl 2 rfl) ?_
    refine va_get (D := (dC, dI)) (ci := 4) (v := .int z5) (C := RX5) (T := TX5) (N := 11) hx hb hw iwX5 hown hK hP 2 rfl rfl 2 (by decide) (hw _ w_f_X5_34) (fun _ h9 => h9) rfl dX5_readPart_41 ?_
    refine lv_if_eq (tgt := 49) hx hb dX5_readPart_44 (by decide) (fun c28 => ?_) (fun c28 => ?_)
    · have kc28 := (cv_eq (rfl : (z5).toInt = (z5).toInt) (by decide : (0 : Int32).toInt = 0)).mp c28
      replace k17 := (Or.resolve_right k17 (fun h9 => by have h8 := h9.1; omega)).2
      refine lv_aload_n hx hb dX5_readPart_49 rfl (lv_at hl 2 rfl) ?_
      obtain ⟨vq29, evq29⟩ := mq31_29 (.int z5) (.int z6) (.ref h_td) (.ref h_kn) (.int z7)
      replace hP : va_P (dC, dI) cls [(h_by, .inl (cy_by, 600, .inl f_by)), (h_ter, .inl (cy_ter, 900, .inl f_ter)), (h_rd, .inr (4, (mo29 vq29 (.ref h_by) (.int x_rd_length) (.int x_rd_at) (.int x_rd_behind) (.int x_rd_token) (.long x_rd_letters)))), (h_kn, .inl (cy_kn, 8, .inl f8)), (h_td, .inr (5, (mo32 v_td (.ref h_nam) (.ref h_var) (.ref h_trm) (.ref h_ter) (.int z9)))), (h_nam, .inl (cy_nam, 300, .inr (.inl f10))), (h_var, .inl (cy_var, 300, .inl f11)), (h_trm, .inl (cy_trm, 300, .inl f12))] H := by rw [evq29]; exact hP
      replace hD : va_D A [(h_by, .inl (cy_by, 600, .inl f_by)), (h_ter, .inl (cy_ter, 900, .inl f_ter)), (h_rd, .inr (4, (mo29 vq29 (.ref h_by) (.int x_rd_length) (.int x_rd_at) (.int x_rd_behind) (.int x_rd_token) (.long x_rd_letters)))), (h_kn, .inl (cy_kn, 8, .inl f8)), (h_td, .inr (5, (mo32 v_td (.ref h_nam) (.ref h_var) (.ref h_trm) (.ref h_ter) (.int z9)))), (h_nam, .inl (cy_nam, 300, .inr (.inl f10))), (h_var, .inl (cy_var, 300, .inl f11)), (h_trm, .inl (cy_trm, 300, .inl f12))] := by rw [evq29]; exact hD
      have hPc := hP.sub (ws' := [(h_rd, .inr (4, (mo29 vq29 (.ref h_by) (.int x_rd_length) (.int x_rd_at) (.int x_rd_behind) (.int x_rd_token) (.long x_rd_letters)))), (h_by, .inl (cy_by, 600, .inl f_by))]) [2, 0] rfl
      have hDc := hD.sub (ws' := [(h_rd, .inr (4, (mo29 vq29 (.ref h_by) (.int x_rd_length) (.int x_rd_at) (.int x_rd_behind) (.int x_rd_token) (.long x_rd_letters)))), (h_by, .inl (cy_by, 600, .inl f_by))]) [2, 0] (by decide) rfl
      have hKc := hK.sub (tys' := [(cy_by, .int)]) [0] rfl
      have hFc := va_free (wc := [(h_rd, .inr (4, (mo29 vq29 (.ref h_by) (.int x_rd_length) (.int x_rd_at) (.int x_rd_behind) (.int x_rd_token) (.long x_rd_letters)))), (h_by, .inl (cy_by, 600, .inl f_by))]) hD hS hA [2, 0] rfl
      refine va_callv (va_runV (As := []) (rest := []) ⟨hx, hb, hml, hown, hts⟩ (c_X5_nextToken l dC dI H.size h_rd h_by vq29 x_rd_length x_rd_at x_rd_behind x_rd_token x_rd_letters cy_by f_by G (by first | exact hx_rd_length | omega) (by first | exact hx_rd_at | omega) (by first | exact hx_rd_behind | omega) hf_by (by first | exact q7 | omega) hn_byt) (cwV 0 hts (gv hT w_m_X5_40 w_instanceMethod_X5_nextToken ws_sel_X5_nextToken w_ini_X5 w_code_X5_nextToken) rfl rfl rfl (by decide +kernel) ⟨(by dsimp only [headSpec]; omega), (by dsimp only [headSpec]; omega)⟩) ⟨pre_blind, va_recv hK hP (ci := 4) (q0 := 2) rfl rfl, pre_of hPc hKc hDc hN⟩ rfl rfl hl.1 rfl (lv_room (Nat.le_of_ble_eq_true rfl)) dX5_readPart_50 ⟨(Nat.le_of_ble_eq_true rfl), (Nat.le_of_ble_eq_true rfl)⟩) hS (fun q _ h => hFc q h) hFc (fun u t H locs ht hvm hq hB hz1 hk1 hS9 => ?_)
      obtain ⟨z31, z32, z33, z34⟩ := u
      obtain ⟨hP1, hD1⟩ := hB
      rw [ht] at hP1
      obtain ⟨hP9, hD9⟩ := va_join (wr := [(h_ter, .inl (cy_ter, 900, .inl f_ter)), (h_kn, .inl (cy_kn, 8, .inl f8)), (h_td, .inr (5, (mo32 v_td (.ref h_nam) (.ref h_var) (.ref h_trm) (.ref h_ter) (.int z9)))), (h_nam, .inl (cy_nam, 300, .inr (.inl f10))), (h_var, .inl (cy_var, 300, .inl f11)), (h_trm, .inl (cy_trm, 300, .inl f12))]) (w1 := [(h_rd, .inr (4, (mo29 vq29 (.ref h_by) (.int x_rd_length) (.int z31) (.int z32) (.int z33) (.long z34)))), (h_by, .inl (cy_by, 600, .inl f_by))]) hP hD [2, 0] [1, 3, 4, 5, 6, 7] rfl rfl (by decide) (by decide) hk1 hFc hP1 hD1
      clear hP hD hS hPc hDc hKc hFc hP1 hD1 hk1 hz1 ht hvm
      have hP : va_P (dC, dI) cls [(h_ter, .inl (cy_ter, 900, .inl f_ter)), (h_kn, .inl (cy_kn, 8, .inl f8)), (h_td, .inr (5, (mo32 v_td (.ref h_nam) (.ref h_var) (.ref h_trm) (.ref h_ter) (.int z9)))), (h_nam, .inl (cy_nam, 300, .inr (.inl f10))), (h_var, .inl (cy_var, 300, .inl f11)), (h_trm, .inl (cy_trm, 300, .inl f12)), (h_rd, .inr (4, (mo29 vq29 (.ref h_by) (.int x_rd_length) (.int z31) (.int z32) (.int z33) (.long z34)))), (h_by, .inl (cy_by, 600, .inl f_by))] H := hP9
      have hD : va_D A [(h_ter, .inl (cy_ter, 900, .inl f_ter)), (h_kn, .inl (cy_kn, 8, .inl f8)), (h_td, .inr (5, (mo32 v_td (.ref h_nam) (.ref h_var) (.ref h_trm) (.ref h_ter) (.int z9)))), (h_nam, .inl (cy_nam, 300, .inr (.inl f10))), (h_var, .inl (cy_var, 300, .inl f11)), (h_trm, .inl (cy_trm, 300, .inl f12)), (h_rd, .inr (4, (mo29 vq29 (.ref h_by) (.int x_rd_length) (.int z31) (.int z32) (.int z33) (.long z34)))), (h_by, .inl (cy_by, 600, .inl f_by))] := hD9
      have hS := hS9
      clear hP9 hD9 hS9
      rw [evq29] at hP hD
      replace hP : va_P (dC, dI) cls [(h_ter, .inl (cy_ter, 900, .inl f_ter)), (h_kn, .inl (cy_kn, 8, .inl f8)), (h_td, .inr (5, (mo32 v_td (.ref h_nam) (.ref h_var) (.ref h_trm) (.ref h_ter) (.int z9)))), (h_nam, .inl (cy_nam, 300, .inr (.inl f10))), (h_var, .inl (cy_var, 300, .inl f11)), (h_trm, .inl (cy_trm, 300, .inl f12)), (h_rd, .inr (4, (mo31 (.ref h_by) (.int x_rd_length) (.int z5) (.int z6) (.ref h_td) (.ref h_kn) (.int z7) (.int z31) (.int z32) (.int z33) (.long z34)))), (h_by, .inl (cy_by, 600, .inl f_by))] H := hP
      replace hD : va_D A [(h_ter, .inl (cy_ter, 900, .inl f_ter)), (h_kn, .inl (cy_kn, 8, .inl f8)), (h_td, .inr (5, (mo32 v_td (.ref h_nam) (.ref h_var) (.ref h_trm) (.ref h_ter) (.int z9)))), (h_nam, .inl (cy_nam, 300, .inr (.inl f10))), (h_var, .inl (cy_var, 300, .inl f11)), (h_trm, .inl (cy_trm, 300, .inl f12)), (h_rd, .inr (4, (mo31 (.ref h_by) (.int x_rd_length) (.int z5) (.int z6) (.ref h_td) (.ref h_kn) (.int z7) (.int z31) (.int z32) (.int z33) (.long z34)))), (h_by, .inl (cy_by, 600, .inl f_by))] := hD
      clear evq29 
      obtain ⟨k35, k36, k37, k38, k39, k40, k41, k42, k43, k44, k45, k46⟩ := hq
      replace k35 : 0 ≤ ((z31)).toInt ∧ ((z31)).toInt ≤ 600 := k35
      replace k36 : 0 ≤ ((z32)).toInt ∧ ((z32)).toInt ≤ 600 := k36
      replace k37 : ((z31)).toInt = tkS (G) ((x_rd_length)).toInt ((x_rd_behind)).toInt := k37
      replace k38 : ((x_rd_behind)).toInt ≤ ((z31)).toInt := k38
      replace k39 : ((z33)).toInt = tkT (G) ((x_rd_length)).toInt ((z31)).toInt := k39
      replace k40 : ((z33)).toInt = -1 ∨ ((z32)).toInt = tkX (G) ((x_rd_length)).toInt ((z31)).toInt := k40
      replace k41 : ¬ ((z33)).toInt = 257 ∨ ((z34)).toInt = (G) ((z31)).toInt := k41
      replace k42 : -1 ≤ ((z33)).toInt ∧ ((z33)).toInt ≤ 258 := k42
      replace k43 : ((z32)).toInt ≤ ((x_rd_length)).toInt := k43
      replace k44 : ((z33)).toInt = -1 ∨ ((z31)).toInt < ((x_rd_length)).toInt := k44
      replace k45 : ((z31)).toInt ≤ ((x_rd_length)).toInt := k45
      replace k46 : NMT ((z33)).toInt ((z34)).toInt (NMI 32 (G) ((x_rd_length)).toInt ((z31)).toInt) := k46
      have tn47b : (x_rd_behind).toInt = tkX G (x_rd_length).toInt (x_rd_at).toInt := by omega
      have tn47 : (z31).toInt = tkN G (x_rd_length).toInt (x_rd_at).toInt := by rw [k37, tn47b]; rfl
      have tn47t : (z33).toInt = tkT G (x_rd_length).toInt (tkN G (x_rd_length).toInt (x_rd_at).toInt) := by rw [← tn47]; exact k39
      have tn47g := tkN_gt (G := G) (n := (x_rd_length).toInt) (a := (x_rd_at).toInt) (by omega) (by omega) (by omega)
      have tw9 := nx_two (G := G) (n := (x_rd_length).toInt) hn_byt.1 (by omega) (by omega) q0 (by omega) tn47 k39
      refine lv_iload_n hx hb dX5_readPart_53 rfl (lv_at hl 1 rfl) ?_
      refine lv_if_eq (tgt := 66) hx hb dX5_readPart_54 (by decide) (fun _ => ?_) (fun c9 => absurd c9 (by decide))
      refine lv_iload_n hx hb dX5_readPart_66 rfl (lv_at hl 0 rfl) ?_
      replace hP : va_P (dC, dI) cls [(h_rd, .inr (4, (mo31 (.ref h_by) (.int x_rd_length) (.int z5) (.int z6) (.ref h_td) (.ref h_kn) (.int z7) (.int z31) (.int z32) (.int z33) (.long z34)))), (h_by, .inl (cy_by, 600, .inl f_by)), (h_kn, .inl (cy_kn, 8, .inl f8)), (h_td, .inr (5, (mo32 v_td (.ref h_nam) (.ref h_var) (.ref h_trm) (.ref h_ter) (.int z9)))), (h_nam, .inl (cy_nam, 300, .inr (.inl f10))), (h_var, .inl (cy_var, 300, .inl f11)), (h_trm, .inl (cy_trm, 300, .inl f12)), (h_ter, .inl (cy_ter, 900, .inl f_ter))] H := hP.sub [6, 7, 1, 2, 3, 4, 5, 0] rfl
      replace hD : va_D A [(h_rd, .inr (4, (mo31 (.ref h_by) (.int x_rd_length) (.int z5) (.int z6) (.ref h_td) (.ref h_kn) (.int z7) (.int z31) (.int z32) (.int z33) (.long z34)))), (h_by, .inl (cy_by, 600, .inl f_by)), (h_kn, .inl (cy_kn, 8, .inl f8)), (h_td, .inr (5, (mo32 v_td (.ref h_nam) (.ref h_var) (.ref h_trm) (.ref h_ter) (.int z9)))), (h_nam, .inl (cy_nam, 300, .inr (.inl f10))), (h_var, .inl (cy_var, 300, .inl f11)), (h_trm, .inl (cy_trm, 300, .inl f12)), (h_ter, .inl (cy_ter, 900, .inl f_ter))] := hD.sub [6, 7, 1, 2, 3, 4, 5, 0] (by decide) rfl
      refine W.widen (k := 0) (n := 0) (Nat.le_of_ble_eq_true rfl) (Nat.le_of_ble_eq_true rfl) ?_
      have w48 : 0 ≤ ((z7)).toInt ∧ ((z7)).toInt ≤ 8 := by first | exact k13 | omega
      have w49 : 0 ≤ ((z31)).toInt ∧ ((z31)).toInt ≤ 600 := by first | exact k35 | omega
      have w50 : 0 ≤ ((z32)).toInt ∧ ((z32)).toInt ≤ 600 := by first | exact k36 | omega
      have w51 : 0 ≤ ((z9)).toInt ∧ ((z9)).toInt ≤ 300 := by first | exact k14 | omega
      have w52 : 0 ≤ (r4 : Int32).toInt ∧ (r4 : Int32).toInt ≤ 299 := by first | exact k15 | omega
      have w53 : ((z5)).toInt = ((pTm G (x_rd_length).toInt (pPs G (x_rd_length).toInt dd) (x_rd_at).toInt (x_rd_variables).toInt vf)).1 := by omega
      have w54 : ((z31)).toInt = ((pTm G (x_rd_length).toInt (pPs G (x_rd_length).toInt dd) (x_rd_at).toInt (x_rd_variables).toInt vf)).2.1 := by omega
      have w55 : ((z7)).toInt = ((pTm G (x_rd_length).toInt (pPs G (x_rd_length).toInt dd) (x_rd_at).toInt (x_rd_variables).toInt vf)).2.2.1 := by omega
      have w56 : (((z5)).toInt = 0 ∧ ((z6)).toInt = (x_rd_place).toInt) ∨ (¬ ((z5)).toInt = 0 ∧ ((z6)).toInt = ((z31)).toInt) := by omega
      have w57 : 2 * ((z9)).toInt ≤ ((z31)).toInt + 1 := by omega
      have w58 : ((z33)).toInt < 256 ∨ 2 * ((z9)).toInt ≤ ((z31)).toInt := by omega
      have w59 : (x_rd_at).toInt ≤ ((z31)).toInt := by omega
      have w60 : (x_rd_variables).toInt ≤ ((z7)).toInt := by first | exact k20 | omega
      have w61 : (x_td_parts).toInt ≤ ((z9)).toInt := by omega
      have w62 : ((z33)).toInt = tkT G (x_rd_length).toInt ((z31)).toInt := by first | exact k39 | omega
      have w63 : ((z33)).toInt = -1 ∨ ((z32)).toInt = tkX G (x_rd_length).toInt ((z31)).toInt := by first | exact k40 | omega
      have w64 : ¬ ((z33)).toInt = 257 ∨ ((z34)).toInt = G ((z31)).toInt := by first | exact k41 | omega
      have w65 : -1 ≤ ((z33)).toInt ∧ ((z33)).toInt ≤ 258 := by first | exact k42 | omega
      have w66 : ((z32)).toInt ≤ (x_rd_length).toInt := by first | exact k43 | omega
      have w67 : ((z33)).toInt = -1 ∨ ((z31)).toInt < (x_rd_length).toInt := by first | exact k44 | omega
      have w68 : ((z31)).toInt ≤ (x_rd_length).toInt := by first | exact k45 | omega
      have w69 : VFC ((z7)).toInt ((pTm G (x_rd_length).toInt (pPs G (x_rd_length).toInt dd) (x_rd_at).toInt (x_rd_variables).toInt vf)).2.2.2 (f8) (f10) ((z9)).toInt := (by rw [pq274]; exact k21)
      have w70 : VFV ((z7)).toInt (f8) (f11) ((z9)).toInt := k22
      have w71 : NMT ((z33)).toInt ((z34)).toInt (NMI 32 G (x_rd_length).toInt ((z31)).toInt) := k46
      have w72 : AGX (x_td_parts).toInt f_nam (f10) f_var (f11) f_trm (f12) f_ter (f_ter) := (agc_of3 k25)
      have w73 : KX (x_rd_variables).toInt (kfn f_kn) (kfn (f8)) := k24
      have w74 : TZG (f11) (f12) := k26
      have w75 : IFZ ((z5)).toInt (∃ L B : Nat, (L : Int) = (x_td_parts).toInt ∧ (B : Int) = ((z9)).toInt ∧ SPX G (x_rd_length).toInt 32 (CVW (f10) (f11) (f12) (f_ter)) ((z7)).toInt ((pTm G (x_rd_length).toInt (pPs G (x_rd_length).toInt dd) (x_rd_at).toInt (x_rd_variables).toInt vf)).2.2.2 (kfn (f8)) L B (dd + 1) (Int32.toNatClampNeg (r4 : Int32)) (x_rd_at).toInt ((z31)).toInt) := (ifz_yes (by rw [pq274]; exact ⟨(x_td_parts).toInt.toNat, (z9).toInt.toNat, by omega, by omega, spx_var (by omega) (by omega) (k23 (by omega)) (by omega) (by omega)⟩))
      exact W.iret (v := r4) hx hb hr (fun t ht hW => ⟨⟨r4, (z5, z6, z7, z31, z32, z33, z34, f8, z9, f10, f11, f12, f_ter), rfl, ⟨w48, w49, w50, hf8, w51, hf11, hf12, hf_ter, w52, w53, w54, w55, w56, w57, w58, w59, w60, w61, w62, w63, w64, w65, w66, w67, w68, w69, w70, w71, w72, w73, w74, w75⟩, by rw [ht]; exact hP, hD⟩, hS.F ht⟩) hS.2.2 dX5_readPart_67
    · have kc28 := (not_congr (cv_eq (rfl : (z5).toInt = (z5).toInt) (by decide : (0 : Int32).toInt = 0))).mp c28
      refine lv_iload_n hx hb dX5_readPart_47 rfl (lv_at hl 0 rfl) ?_
      replace hP : va_P (dC, dI) cls [(h_rd, .inr (4, (mo31 (.ref h_by) (.int x_rd_length) (.int z5) (.int z6) (.ref h_td) (.ref h_kn) (.int z7) (.int x_rd_at) (.int x_rd_behind) (.int x_rd_token) (.long x_rd_letters)))), (h_by, .inl (cy_by, 600, .inl f_by)), (h_kn, .inl (cy_kn, 8, .inl f8)), (h_td, .inr (5, (mo32 v_td (.ref h_nam) (.ref h_var) (.ref h_trm) (.ref h_ter) (.int z9)))), (h_nam, .inl (cy_nam, 300, .inr (.inl f10))), (h_var, .inl (cy_var, 300, .inl f11)), (h_trm, .inl (cy_trm, 300, .inl f12)), (h_ter, .inl (cy_ter, 900, .inl f_ter))] H := hP.sub [2, 0, 3, 4, 5, 6, 7, 1] rfl
      replace hD : va_D A [(h_rd, .inr (4, (mo31 (.ref h_by) (.int x_rd_length) (.int z5) (.int z6) (.ref h_td) (.ref h_kn) (.int z7) (.int x_rd_at) (.int x_rd_behind) (.int x_rd_token) (.long x_rd_letters)))), (h_by, .inl (cy_by, 600, .inl f_by)), (h_kn, .inl (cy_kn, 8, .inl f8)), (h_td, .inr (5, (mo32 v_td (.ref h_nam) (.ref h_var) (.ref h_trm) (.ref h_ter) (.int z9)))), (h_nam, .inl (cy_nam, 300, .inr (.inl f10))), (h_var, .inl (cy_var, 300, .inl f11)), (h_trm, .inl (cy_trm, 300, .inl f12)), (h_ter, .inl (cy_ter, 900, .inl f_ter))] := hD.sub [2, 0, 3, 4, 5, 6, 7, 1] (by decide) rfl
      refine W.widen (k := 0) (n := 0) (Nat.le_of_ble_eq_true rfl) (Nat.le_of_ble_eq_true rfl) ?_
      have w76 : 0 ≤ ((z7)).toInt ∧ ((z7)).toInt ≤ 8 := by first | exact k13 | omega
      have w77 : 0 ≤ ((x_rd_at)).toInt ∧ ((x_rd_at)).toInt ≤ 600 := by first | exact hx_rd_at | omega
      have w78 : 0 ≤ ((x_rd_behind)).toInt ∧ ((x_rd_behind)).toInt ≤ 600 := by first | exact hx_rd_behind | omega
      have w79 : 0 ≤ ((z9)).toInt ∧ ((z9)).toInt ≤ 300 := by first | exact k14 | omega
      have w80 : 0 ≤ (r4 : Int32).toInt ∧ (r4 : Int32).toInt ≤ 299 := by first | exact k15 | omega
      have w81 : ((z5)).toInt = ((pTm G (x_rd_length).toInt (pPs G (x_rd_length).toInt dd) (x_rd_at).toInt (x_rd_variables).toInt vf)).1 := by omega
      have w82 : ((x_rd_at)).toInt = ((pTm G (x_rd_length).toInt (pPs G (x_rd_length).toInt dd) (x_rd_at).toInt (x_rd_variables).toInt vf)).2.1 := by omega
      have w83 : ((z7)).toInt = ((pTm G (x_rd_length).toInt (pPs G (x_rd_length).toInt dd) (x_rd_at).toInt (x_rd_variables).toInt vf)).2.2.1 := by omega
      have w84 : (((z5)).toInt = 0 ∧ ((z6)).toInt = (x_rd_place).toInt) ∨ (¬ ((z5)).toInt = 0 ∧ ((z6)).toInt = ((x_rd_at)).toInt) := by omega
      have w85 : 2 * ((z9)).toInt ≤ ((x_rd_at)).toInt + 1 := by omega
      have w86 : ((x_rd_token)).toInt < 256 ∨ 2 * ((z9)).toInt ≤ ((x_rd_at)).toInt := by omega
      have w87 : (x_rd_at).toInt ≤ ((x_rd_at)).toInt := by omega
      have w88 : (x_rd_variables).toInt ≤ ((z7)).toInt := by first | exact k20 | omega
      have w89 : (x_td_parts).toInt ≤ ((z9)).toInt := by omega
      have w90 : ((x_rd_token)).toInt = tkT G (x_rd_length).toInt ((x_rd_at)).toInt := by first | exact q0 | omega
      have w91 : ((x_rd_token)).toInt = -1 ∨ ((x_rd_behind)).toInt = tkX G (x_rd_length).toInt ((x_rd_at)).toInt := by omega
      have w92 : ¬ ((x_rd_token)).toInt = 257 ∨ ((x_rd_letters)).toInt = G ((x_rd_at)).toInt := by first | exact q3 | omega
      have w93 : -1 ≤ ((x_rd_token)).toInt ∧ ((x_rd_token)).toInt ≤ 258 := by omega
      have w94 : ((x_rd_behind)).toInt ≤ (x_rd_length).toInt := by first | exact q7 | omega
      have w95 : ((x_rd_token)).toInt = -1 ∨ ((x_rd_at)).toInt < (x_rd_length).toInt := by omega
      have w96 : ((x_rd_at)).toInt ≤ (x_rd_length).toInt := by omega
      have w97 : VFC ((z7)).toInt ((pTm G (x_rd_length).toInt (pPs G (x_rd_length).toInt dd) (x_rd_at).toInt (x_rd_variables).toInt vf)).2.2.2 (f8) (f10) ((z9)).toInt := (by rw [pq274]; exact k21)
      have w98 : VFV ((z7)).toInt (f8) (f11) ((z9)).toInt := k22
      have w99 : NMT ((x_rd_token)).toInt ((x_rd_letters)).toInt (NMI 32 G (x_rd_length).toInt ((x_rd_at)).toInt) := hn_nmt
      have w100 : AGX (x_td_parts).toInt f_nam (f10) f_var (f11) f_trm (f12) f_ter (f_ter) := (agc_of3 k25)
      have w101 : KX (x_rd_variables).toInt (kfn f_kn) (kfn (f8)) := k24
      have w102 : TZG (f11) (f12) := k26
      have w103 : IFZ ((z5)).toInt (∃ L B : Nat, (L : Int) = (x_td_parts).toInt ∧ (B : Int) = ((z9)).toInt ∧ SPX G (x_rd_length).toInt 32 (CVW (f10) (f11) (f12) (f_ter)) ((z7)).toInt ((pTm G (x_rd_length).toInt (pPs G (x_rd_length).toInt dd) (x_rd_at).toInt (x_rd_variables).toInt vf)).2.2.2 (kfn (f8)) L B (dd + 1) (Int32.toNatClampNeg (r4 : Int32)) (x_rd_at).toInt ((x_rd_at)).toInt) := (ifz_no (by omega))
      exact W.iret (v := r4) hx hb hr (fun t ht hW => ⟨⟨r4, (z5, z6, z7, x_rd_at, x_rd_behind, x_rd_token, x_rd_letters, f8, z9, f10, f11, f12, f_ter), rfl, ⟨w76, w77, w78, hf8, w79, hf11, hf12, hf_ter, w80, w81, w82, w83, w84, w85, w86, w87, w88, w89, w90, w91, w92, w93, w94, w95, w96, w97, w98, w99, w100, w101, w102, w103⟩, by rw [ht]; exact hP, hD⟩, hS.F ht⟩) hS.2.2 dX5_readPart_48
  · have kc1 := (cv_eq (rfl : (x_rd_token).toInt = (x_rd_token).toInt) (by decide : (256 : Int32).toInt = 256)).mp c1
    clear q1
    clear q3
    refine lv_iconst (v := 1) hx hb dX5_readPart_10 (by decide) ?_
    refine lv_goto (tgt := 15) hx hb dX5_readPart_11 (by decide) ?_
    refine lv_istore_n (lv' := [(2, .int 1), (0, .ref h_rd), (1, .int p1)]) hx hb dX5_readPart_15 rfl hl (by decide) rfl (fun ls hl => ?_)
    refine lv_iload_n hx hb dX5_readPart_16 rfl (lv_at hl 0 rfl) ?_
    refine lv_if_eq (tgt := 35) hx hb dX5_readPart_17 (by decide) (fun c9 => absurd c9 (by decide)) (fun _ => ?_)
    refine lv_aload_n hx hb dX5_readPart_20 rfl (lv_at hl 1 rfl) ?_
    refine va_get (D := (dC, dI)) (ci := 4) (v := .ref h_td) (C := RX5) (T := TX5) (N := 11) hx hb hw iwX5 hown hK hP 0 rfl rfl 4 (by decide) (hw _ w_f_X5_25) (fun _ h9 => h9) rfl dX5_readPart_21 ?_
    refine lv_aload_n hx hb dX5_readPart_24 rfl (lv_at hl 1 rfl) ?_
    refine va_get (D := (dC, dI)) (ci := 4) (v := .long x_rd_letters) (C := RX5) (T := TX5) (N := 11) hx hb hw iwX5 hown hK hP 0 rfl rfl 10 (by decide) (hw _ w_f_X5_85) (fun _ h9 => h9) rfl dX5_readPart_25 ?_
    refine lv_iconst (v := (-1)) hx hb dX5_readPart_28 (by decide) ?_
    obtain ⟨vq104, evq104⟩ := mq32_24 v_td (.ref h_ter)
    replace hP : va_P (dC, dI) cls [(h_rd, .inr (4, (mo31 (.ref h_by) (.int x_rd_length) (.int x_rd_fault) (.int x_rd_place) (.ref h_td) (.ref h_kn) (.int x_rd_variables) (.int x_rd_at) (.int x_rd_behind) (.int x_rd_token) (.long x_rd_letters)))), (h_by, .inl (cy_by, 600, .inl f_by)), (h_kn, .inl (cy_kn, 8, .inl f_kn)), (h_td, .inr (5, (mo24 vq104 (.ref h_nam) (.ref h_var) (.ref h_trm) (.int x_td_parts)))), (h_nam, .inl (cy_nam, 300, .inr (.inl f_nam))), (h_var, .inl (cy_var, 300, .inl f_var)), (h_trm, .inl (cy_trm, 300, .inl f_trm)), (h_ter, .inl (cy_ter, 900, .inl f_ter))] s.heap := by rw [evq104]; exact hP
    replace hD : va_D A [(h_rd, .inr (4, (mo31 (.ref h_by) (.int x_rd_length) (.int x_rd_fault) (.int x_rd_place) (.ref h_td) (.ref h_kn) (.int x_rd_variables) (.int x_rd_at) (.int x_rd_behind) (.int x_rd_token) (.long x_rd_letters)))), (h_by, .inl (cy_by, 600, .inl f_by)), (h_kn, .inl (cy_kn, 8, .inl f_kn)), (h_td, .inr (5, (mo24 vq104 (.ref h_nam) (.ref h_var) (.ref h_trm) (.int x_td_parts)))), (h_nam, .inl (cy_nam, 300, .inr (.inl f_nam))), (h_var, .inl (cy_var, 300, .inl f_var)), (h_trm, .inl (cy_trm, 300, .inl f_trm)), (h_ter, .inl (cy_ter, 900, .inl f_ter))] := by rw [evq104]; exact hD
    have cstm1 : ((-1) : Int32).toInt = -1 := by decide
    have hPc := hP.sub (ws' := [(h_td, .inr (5, (mo24 vq104 (.ref h_nam) (.ref h_var) (.ref h_trm) (.int x_td_parts)))), (h_nam, .inl (cy_nam, 300, .inr (.inl f_nam))), (h_var, .inl (cy_var, 300, .inl f_var)), (h_trm, .inl (cy_trm, 300, .inl f_trm))]) [3, 4, 5, 6] rfl
    have hDc := hD.sub (ws' := [(h_td, .inr (5, (mo24 vq104 (.ref h_nam) (.ref h_var) (.ref h_trm) (.int x_td_parts)))), (h_nam, .inl (cy_nam, 300, .inr (.inl f_nam))), (h_var, .inl (cy_var, 300, .inl f_var)), (h_trm, .inl (cy_trm, 300, .inl f_trm))]) [3, 4, 5, 6] (by decide) rfl
    have hKc := hK.sub (tys' := [(cy_nam, .long), (cy_var, .int), (cy_trm, .int)]) [2, 3, 4] rfl
    have hFc := va_free (wc := [(h_td, .inr (5, (mo24 vq104 (.ref h_nam) (.ref h_var) (.ref h_trm) (.int x_td_parts)))), (h_nam, .inl (cy_nam, 300, .inr (.inl f_nam))), (h_var, .inl (cy_var, 300, .inl f_var)), (h_trm, .inl (cy_trm, 300, .inl f_trm))]) hD hS hA [3, 4, 5, 6] rfl
    refine va_calli (va_runVN (As := [.long x_rd_letters, .int (-1)]) (rest := []) ⟨hx, hb, hml, hown, hts⟩ (c_X8_add l dC dI s.heap.size h_td h_nam h_var h_trm vq104 x_td_parts cy_nam f_nam cy_var f_var cy_trm f_trm x_rd_letters (-1) (by first | exact hx_td_parts | omega) hf_var hf_trm (by omega) (by omega)) ⟨va_cnB (host := "OppositePairs") 2 hts (gd hT w_code_X8_add) rfl rfl rfl (hN _ n_m_X5_89) (hw _ w_ini_X8) (by decide +kernel) ⟨(by dsimp only [headSpec]; omega), (by dsimp only [headSpec]; omega)⟩, hw _ w_instanceMethod_X8_add, hw _ ws_sel_X8_add⟩ ⟨pre_blind, va_recv hK hP (ci := 5) (q0 := 3) rfl rfl, pre_of hPc hKc hDc hN⟩ rfl rfl hl.1 rfl (lv_room (Nat.le_of_ble_eq_true rfl)) dX5_readPart_29 ⟨(Nat.le_of_ble_eq_true rfl), (Nat.le_of_ble_eq_true rfl)⟩) hS (fun q _ h => hFc q h) hFc (fun r105 u t H locs ht hvm hq hB hz1 hk1 hS9 => ?_)
    obtain ⟨z106, f107, f108, f109⟩ := u
    obtain ⟨hP1, hD1⟩ := hB
    rw [ht] at hP1
    obtain ⟨hP9, hD9⟩ := va_join (wr := [(h_rd, .inr (4, (mo31 (.ref h_by) (.int x_rd_length) (.int x_rd_fault) (.int x_rd_place) (.ref h_td) (.ref h_kn) (.int x_rd_variables) (.int x_rd_at) (.int x_rd_behind) (.int x_rd_token) (.long x_rd_letters)))), (h_by, .inl (cy_by, 600, .inl f_by)), (h_kn, .inl (cy_kn, 8, .inl f_kn)), (h_ter, .inl (cy_ter, 900, .inl f_ter))]) (w1 := [(h_td, .inr (5, (mo24 vq104 (.ref h_nam) (.ref h_var) (.ref h_trm) (.int z106)))), (h_nam, .inl (cy_nam, 300, .inr (.inl f107))), (h_var, .inl (cy_var, 300, .inl f108)), (h_trm, .inl (cy_trm, 300, .inl f109))]) hP hD [3, 4, 5, 6] [0, 1, 2, 7] rfl rfl (by decide) (by decide) hk1 hFc hP1 hD1
    clear hP hD hS hPc hDc hKc hFc hP1 hD1 hk1 hz1 ht hvm
    have hP : va_P (dC, dI) cls [(h_rd, .inr (4, (mo31 (.ref h_by) (.int x_rd_length) (.int x_rd_fault) (.int x_rd_place) (.ref h_td) (.ref h_kn) (.int x_rd_variables) (.int x_rd_at) (.int x_rd_behind) (.int x_rd_token) (.long x_rd_letters)))), (h_by, .inl (cy_by, 600, .inl f_by)), (h_kn, .inl (cy_kn, 8, .inl f_kn)), (h_ter, .inl (cy_ter, 900, .inl f_ter)), (h_td, .inr (5, (mo24 vq104 (.ref h_nam) (.ref h_var) (.ref h_trm) (.int z106)))), (h_nam, .inl (cy_nam, 300, .inr (.inl f107))), (h_var, .inl (cy_var, 300, .inl f108)), (h_trm, .inl (cy_trm, 300, .inl f109))] H := hP9
    have hD : va_D A [(h_rd, .inr (4, (mo31 (.ref h_by) (.int x_rd_length) (.int x_rd_fault) (.int x_rd_place) (.ref h_td) (.ref h_kn) (.int x_rd_variables) (.int x_rd_at) (.int x_rd_behind) (.int x_rd_token) (.long x_rd_letters)))), (h_by, .inl (cy_by, 600, .inl f_by)), (h_kn, .inl (cy_kn, 8, .inl f_kn)), (h_ter, .inl (cy_ter, 900, .inl f_ter)), (h_td, .inr (5, (mo24 vq104 (.ref h_nam) (.ref h_var) (.ref h_trm) (.int z106)))), (h_nam, .inl (cy_nam, 300, .inr (.inl f107))), (h_var, .inl (cy_var, 300, .inl f108)), (h_trm, .inl (cy_trm, 300, .inl f109))] := hD9
    have hS := hS9
    clear hP9 hD9 hS9
    rw [evq104] at hP hD
    replace hP : va_P (dC, dI) cls [(h_rd, .inr (4, (mo31 (.ref h_by) (.int x_rd_length) (.int x_rd_fault) (.int x_rd_place) (.ref h_td) (.ref h_kn) (.int x_rd_variables) (.int x_rd_at) (.int x_rd_behind) (.int x_rd_token) (.long x_rd_letters)))), (h_by, .inl (cy_by, 600, .inl f_by)), (h_kn, .inl (cy_kn, 8, .inl f_kn)), (h_ter, .inl (cy_ter, 900, .inl f_ter)), (h_td, .inr (5, (mo32 v_td (.ref h_nam) (.ref h_var) (.ref h_trm) (.ref h_ter) (.int z106)))), (h_nam, .inl (cy_nam, 300, .inr (.inl f107))), (h_var, .inl (cy_var, 300, .inl f108)), (h_trm, .inl (cy_trm, 300, .inl f109))] H := hP
    replace hD : va_D A [(h_rd, .inr (4, (mo31 (.ref h_by) (.int x_rd_length) (.int x_rd_fault) (.int x_rd_place) (.ref h_td) (.ref h_kn) (.int x_rd_variables) (.int x_rd_at) (.int x_rd_behind) (.int x_rd_token) (.long x_rd_letters)))), (h_by, .inl (cy_by, 600, .inl f_by)), (h_kn, .inl (cy_kn, 8, .inl f_kn)), (h_ter, .inl (cy_ter, 900, .inl f_ter)), (h_td, .inr (5, (mo32 v_td (.ref h_nam) (.ref h_var) (.ref h_trm) (.ref h_ter) (.int z106)))), (h_nam, .inl (cy_nam, 300, .inr (.inl f107))), (h_var, .inl (cy_var, 300, .inl f108)), (h_trm, .inl (cy_trm, 300, .inl f109))] := hD
    clear evq104 
    obtain ⟨k110, hf108, hf109, k111, k112, k113, k114, k115, k116⟩ := hq
    replace k110 : 0 ≤ ((z106)).toInt ∧ ((z106)).toInt ≤ 300 := k110
    replace hf108 : Rg (-1) 7 (f108) := hf108
    replace hf109 : Rg 0 3 (f109) := hf109
    replace k111 : 0 ≤ (r105).toInt ∧ (r105).toInt ≤ 299 := k111
    replace k112 : ((r105)).toInt = ((x_td_parts)).toInt := k112
    replace k113 : ((z106)).toInt = ((x_td_parts)).toInt + 1 := k113
    replace k114 : (f107) = vp_updL f_nam (Int32.toNatClampNeg (r105)) (x_rd_letters) := k114
    replace k115 : (f108) = upd f_var (Int32.toNatClampNeg (r105)) ((-1) : Int32) := k115
    replace k116 : (f109) = upd f_trm (Int32.toNatClampNeg (r105)) 0 := k116
    have vf117 : VFC (x_rd_variables).toInt vf f_kn f107 (z106).toInt := vfc_nam hn_vfc (by omega) (by omega) k114 (by omega) rfl
    have ac118 : AGX (x_td_parts).toInt f_nam f107 f_var f108 f_trm f109 f_ter f_ter := agc_add k114 k115 k116 (by omega)
    have ow119 : OWN G (x_rd_length).toInt (x_rd_at).toInt f107 f108 f109 r105 0 := own_new k114 k115 k116 (hn_nmt (by omega)) (by decide) (by decide)
    have vv120 : VFV (x_rd_variables).toInt f_kn f108 (z106).toInt := vfv_agc hn_vfv ac118 (by omega) (by omega) rfl
    refine lv_goto (tgt := 39) hx hb dX5_readPart_32 (by decide) ?_
    refine lv_istore_n (lv' := [(3, .int r105), (2, .int 1), (0, .ref h_rd), (1, .int p1)]) hx hb dX5_readPart_39 rfl hl (by decide) rfl (fun ls hl => ?_)
    refine lv_aload_n hx hb dX5_readPart_40 rfl (lv_at hl 2 rfl) ?_
    refine va_get (D := (dC, dI)) (ci := 4) (v := .int x_rd_fault) (C := RX5) (T := TX5) (N := 11) hx hb hw iwX5 hown hK hP 0 rfl rfl 2 (by decide) (hw _ w_f_X5_34) (fun _ h9 => h9) rfl dX5_readPart_41 ?_
    refine lv_if_eq (tgt := 49) hx hb dX5_readPart_44 (by decide) (fun _ => ?_) (fun c121 => False.elim (by have kc121 := (not_congr (cv_eq (rfl : (x_rd_fault).toInt = (x_rd_fault).toInt) (by decide : (0 : Int32).toInt = 0))).mp c121; omega))
    refine lv_aload_n hx hb dX5_readPart_49 rfl (lv_at hl 2 rfl) ?_
    obtain ⟨vq122, evq122⟩ := mq31_29 (.int x_rd_fault) (.int x_rd_place) (.ref h_td) (.ref h_kn) (.int x_rd_variables)
    replace hP : va_P (dC, dI) cls [(h_rd, .inr (4, (mo29 vq122 (.ref h_by) (.int x_rd_length) (.int x_rd_at) (.int x_rd_behind) (.int x_rd_token) (.long x_rd_letters)))), (h_by, .inl (cy_by, 600, .inl f_by)), (h_kn, .inl (cy_kn, 8, .inl f_kn)), (h_ter, .inl (cy_ter, 900, .inl f_ter)), (h_td, .inr (5, (mo32 v_td (.ref h_nam) (.ref h_var) (.ref h_trm) (.ref h_ter) (.int z106)))), (h_nam, .inl (cy_nam, 300, .inr (.inl f107))), (h_var, .inl (cy_var, 300, .inl f108)), (h_trm, .inl (cy_trm, 300, .inl f109))] H := by rw [evq122]; exact hP
    replace hD : va_D A [(h_rd, .inr (4, (mo29 vq122 (.ref h_by) (.int x_rd_length) (.int x_rd_at) (.int x_rd_behind) (.int x_rd_token) (.long x_rd_letters)))), (h_by, .inl (cy_by, 600, .inl f_by)), (h_kn, .inl (cy_kn, 8, .inl f_kn)), (h_ter, .inl (cy_ter, 900, .inl f_ter)), (h_td, .inr (5, (mo32 v_td (.ref h_nam) (.ref h_var) (.ref h_trm) (.ref h_ter) (.int z106)))), (h_nam, .inl (cy_nam, 300, .inr (.inl f107))), (h_var, .inl (cy_var, 300, .inl f108)), (h_trm, .inl (cy_trm, 300, .inl f109))] := by rw [evq122]; exact hD
    have hPc := hP.sub (ws' := [(h_rd, .inr (4, (mo29 vq122 (.ref h_by) (.int x_rd_length) (.int x_rd_at) (.int x_rd_behind) (.int x_rd_token) (.long x_rd_letters)))), (h_by, .inl (cy_by, 600, .inl f_by))]) [0, 1] rfl
    have hDc := hD.sub (ws' := [(h_rd, .inr (4, (mo29 vq122 (.ref h_by) (.int x_rd_length) (.int x_rd_at) (.int x_rd_behind) (.int x_rd_token) (.long x_rd_letters)))), (h_by, .inl (cy_by, 600, .inl f_by))]) [0, 1] (by decide) rfl
    have hKc := hK.sub (tys' := [(cy_by, .int)]) [0] rfl
    have hFc := va_free (wc := [(h_rd, .inr (4, (mo29 vq122 (.ref h_by) (.int x_rd_length) (.int x_rd_at) (.int x_rd_behind) (.int x_rd_token) (.long x_rd_letters)))), (h_by, .inl (cy_by, 600, .inl f_by))]) hD hS hA [0, 1] rfl
    refine va_callv (va_runV (As := []) (rest := []) ⟨hx, hb, hml, hown, hts⟩ (c_X5_nextToken l dC dI H.size h_rd h_by vq122 x_rd_length x_rd_at x_rd_behind x_rd_token x_rd_letters cy_by f_by G (by first | exact hx_rd_length | omega) (by first | exact hx_rd_at | omega) (by first | exact hx_rd_behind | omega) hf_by (by first | exact q7 | omega) hn_byt) (cwV 0 hts (gv hT w_m_X5_40 w_instanceMethod_X5_nextToken ws_sel_X5_nextToken w_ini_X5 w_code_X5_nextToken) rfl rfl rfl (by decide +kernel) ⟨(by dsimp only [headSpec]; omega), (by dsimp only [headSpec]; omega)⟩) ⟨pre_blind, va_recv hK hP (ci := 4) (q0 := 0) rfl rfl, pre_of hPc hKc hDc hN⟩ rfl rfl hl.1 rfl (lv_room (Nat.le_of_ble_eq_true rfl)) dX5_readPart_50 ⟨(Nat.le_of_ble_eq_true rfl), (Nat.le_of_ble_eq_true rfl)⟩) hS (fun q _ h => hFc q h) hFc (fun u t H locs ht hvm hq hB hz1 hk1 hS9 => ?_)
    obtain ⟨z124, z125, z126, z127⟩ := u
    obtain ⟨hP1, hD1⟩ := hB
    rw [ht] at hP1
    obtain ⟨hP9, hD9⟩ := va_join (wr := [(h_kn, .inl (cy_kn, 8, .inl f_kn)), (h_ter, .inl (cy_ter, 900, .inl f_ter)), (h_td, .inr (5, (mo32 v_td (.ref h_nam) (.ref h_var) (.ref h_trm) (.ref h_ter) (.int z106)))), (h_nam, .inl (cy_nam, 300, .inr (.inl f107))), (h_var, .inl (cy_var, 300, .inl f108)), (h_trm, .inl (cy_trm, 300, .inl f109))]) (w1 := [(h_rd, .inr (4, (mo29 vq122 (.ref h_by) (.int x_rd_length) (.int z124) (.int z125) (.int z126) (.long z127)))), (h_by, .inl (cy_by, 600, .inl f_by))]) hP hD [0, 1] [2, 3, 4, 5, 6, 7] rfl rfl (by decide) (by decide) hk1 hFc hP1 hD1
    clear hP hD hS hPc hDc hKc hFc hP1 hD1 hk1 hz1 ht hvm
    have hP : va_P (dC, dI) cls [(h_kn, .inl (cy_kn, 8, .inl f_kn)), (h_ter, .inl (cy_ter, 900, .inl f_ter)), (h_td, .inr (5, (mo32 v_td (.ref h_nam) (.ref h_var) (.ref h_trm) (.ref h_ter) (.int z106)))), (h_nam, .inl (cy_nam, 300, .inr (.inl f107))), (h_var, .inl (cy_var, 300, .inl f108)), (h_trm, .inl (cy_trm, 300, .inl f109)), (h_rd, .inr (4, (mo29 vq122 (.ref h_by) (.int x_rd_length) (.int z124) (.int z125) (.int z126) (.long z127)))), (h_by, .inl (cy_by, 600, .inl f_by))] H := hP9
    have hD : va_D A [(h_kn, .inl (cy_kn, 8, .inl f_kn)), (h_ter, .inl (cy_ter, 900, .inl f_ter)), (h_td, .inr (5, (mo32 v_td (.ref h_nam) (.ref h_var) (.ref h_trm) (.ref h_ter) (.int z106)))), (h_nam, .inl (cy_nam, 300, .inr (.inl f107))), (h_var, .inl (cy_var, 300, .inl f108)), (h_trm, .inl (cy_trm, 300, .inl f109)), (h_rd, .inr (4, (mo29 vq122 (.ref h_by) (.int x_rd_length) (.int z124) (.int z125) (.int z126) (.long z127)))), (h_by, .inl (cy_by, 600, .inl f_by))] := hD9
    have hS := hS9
    clear hP9 hD9 hS9
    rw [evq122] at hP hD
    replace hP : va_P (dC, dI) cls [(h_kn, .inl (cy_kn, 8, .inl f_kn)), (h_ter, .inl (cy_ter, 900, .inl f_ter)), (h_td, .inr (5, (mo32 v_td (.ref h_nam) (.ref h_var) (.ref h_trm) (.ref h_ter) (.int z106)))), (h_nam, .inl (cy_nam, 300, .inr (.inl f107))), (h_var, .inl (cy_var, 300, .inl f108)), (h_trm, .inl (cy_trm, 300, .inl f109)), (h_rd, .inr (4, (mo31 (.ref h_by) (.int x_rd_length) (.int x_rd_fault) (.int x_rd_place) (.ref h_td) (.ref h_kn) (.int x_rd_variables) (.int z124) (.int z125) (.int z126) (.long z127)))), (h_by, .inl (cy_by, 600, .inl f_by))] H := hP
    replace hD : va_D A [(h_kn, .inl (cy_kn, 8, .inl f_kn)), (h_ter, .inl (cy_ter, 900, .inl f_ter)), (h_td, .inr (5, (mo32 v_td (.ref h_nam) (.ref h_var) (.ref h_trm) (.ref h_ter) (.int z106)))), (h_nam, .inl (cy_nam, 300, .inr (.inl f107))), (h_var, .inl (cy_var, 300, .inl f108)), (h_trm, .inl (cy_trm, 300, .inl f109)), (h_rd, .inr (4, (mo31 (.ref h_by) (.int x_rd_length) (.int x_rd_fault) (.int x_rd_place) (.ref h_td) (.ref h_kn) (.int x_rd_variables) (.int z124) (.int z125) (.int z126) (.long z127)))), (h_by, .inl (cy_by, 600, .inl f_by))] := hD
    clear evq122 
    obtain ⟨k128, k129, k130, k131, k132, k133, k134, k135, k136, k137, k138, k139⟩ := hq
    replace k128 : 0 ≤ ((z124)).toInt ∧ ((z124)).toInt ≤ 600 := k128
    replace k129 : 0 ≤ ((z125)).toInt ∧ ((z125)).toInt ≤ 600 := k129
    replace k130 : ((z124)).toInt = tkS (G) ((x_rd_length)).toInt ((x_rd_behind)).toInt := k130
    replace k131 : ((x_rd_behind)).toInt ≤ ((z124)).toInt := k131
    replace k132 : ((z126)).toInt = tkT (G) ((x_rd_length)).toInt ((z124)).toInt := k132
    replace k133 : ((z126)).toInt = -1 ∨ ((z125)).toInt = tkX (G) ((x_rd_length)).toInt ((z124)).toInt := k133
    replace k134 : ¬ ((z126)).toInt = 257 ∨ ((z127)).toInt = (G) ((z124)).toInt := k134
    replace k135 : -1 ≤ ((z126)).toInt ∧ ((z126)).toInt ≤ 258 := k135
    replace k136 : ((z125)).toInt ≤ ((x_rd_length)).toInt := k136
    replace k137 : ((z126)).toInt = -1 ∨ ((z124)).toInt < ((x_rd_length)).toInt := k137
    replace k138 : ((z124)).toInt ≤ ((x_rd_length)).toInt := k138
    replace k139 : NMT ((z126)).toInt ((z127)).toInt (NMI 32 (G) ((x_rd_length)).toInt ((z124)).toInt) := k139
    have tn140b : (x_rd_behind).toInt = tkX G (x_rd_length).toInt (x_rd_at).toInt := by omega
    have tn140 : (z124).toInt = tkN G (x_rd_length).toInt (x_rd_at).toInt := by rw [k130, tn140b]; rfl
    have tn140t : (z126).toInt = tkT G (x_rd_length).toInt (tkN G (x_rd_length).toInt (x_rd_at).toInt) := by rw [← tn140]; exact k132
    have tn140g := tkN_gt (G := G) (n := (x_rd_length).toInt) (a := (x_rd_at).toInt) (by omega) (by omega) (by omega)
    have tw9 := nx_two (G := G) (n := (x_rd_length).toInt) hn_byt.1 (by omega) (by omega) q0 (by omega) tn140 k132
    refine lv_iload_n hx hb dX5_readPart_53 rfl (lv_at hl 1 rfl) ?_
    refine lv_if_eq (tgt := 66) hx hb dX5_readPart_54 (by decide) (fun c9 => absurd c9 (by decide)) (fun _ => ?_)
    refine lv_aload_n hx hb dX5_readPart_57 rfl (lv_at hl 2 rfl) ?_
    refine va_get (D := (dC, dI)) (ci := 4) (v := .int z126) (C := RX5) (T := TX5) (N := 11) hx hb hw iwX5 hown hK hP 6 rfl rfl 9 (by decide) (hw _ w_f_X5_43) (fun _ h9 => h9) rfl dX5_readPart_58 ?_
    refine lv_bipush (v := 40) hx hb dX5_readPart_61 (by decide) ?_
    refine lv_icmp_eq (tgt := 68) hx hb dX5_readPart_63 (by decide) (fun c141 => ?_) (fun c141 => ?_)
    · have kc141 := (cv_eq (rfl : (z126).toInt = (z126).toInt) (by decide : (40 : Int32).toInt = 40)).mp c141
      replace k133 := Or.resolve_left k133 (by omega)
      clear k134
      replace k137 := Or.resolve_left k137 (by omega)
      refine lv_iload_n hx hb dX5_readPart_68 rfl (lv_at hl 3 rfl) ?_
      refine lv_bipush (v := 6) hx hb dX5_readPart_69 (by decide) ?_
      refine lv_icmp_lt (tgt := 81) hx hb dX5_readPart_71 (by decide) (fun c142 => ?_) (fun c142 => ?_)
      · have kc142 := (cv_lt (rfl : (p1).toInt = (p1).toInt) (by decide : (6 : Int32).toInt = 6)).mp c142
        obtain ⟨d9, hd9⟩ : ∃ y : Nat, dd = y + 1 := ⟨dd - 1, by omega⟩
        have lo0 : pLo G (x_rd_length).toInt (pPs G (x_rd_length).toInt d9) 3 (z124).toInt (x_rd_variables).toInt vf = (pTm G (x_rd_length).toInt (pPs G (x_rd_length).toInt dd) (x_rd_at).toInt (x_rd_variables).toInt vf) := by rw [tn140]; exact ((pTm_name (by omega)).trans (pPs_open2 hd9 (by omega))).symm
        refine lv_iconst (v := 0) hx hb dX5_readPart_81 (by decide) ?_
        refine lv_istore (lv' := [(4, .int 0), (3, .int r105), (2, .int 1), (0, .ref h_rd), (1, .int p1)]) hx hb dX5_readPart_82 hl (by decide) rfl (fun ls hl => ?_)
        have lp159 : ∀ (n : Nat) (x143 : Int32) (f144 : Nat → Int32) (f145 : Nat → Int32) (x146 : Int32) (f147 : Nat → Int64) (f148 : Nat → Int32) (f149 : Nat → Int32) (x150 : Int32) (x151 : Int32) (x152 : Int32) (x153 : Int32) (x154 : Int32) (x155 : Int32) (x156 : Int64) (gh157 : Nat) (gh158 : Int → Int) (H : Heap) (locs : List Loc) (ls : Array Slot), (0 ≤ (x143).toInt ∧ (x143).toInt ≤ 3) → (Rg 0 299 f144) → (Rg 0 299 f145) → (0 ≤ (x146).toInt ∧ (x146).toInt ≤ 300) → (Rg (-1) 7 f148) → (Rg 0 3 f149) → (0 ≤ (x152).toInt ∧ (x152).toInt ≤ 8) → (0 ≤ (x153).toInt ∧ (x153).toInt ≤ 600) → (0 ≤ (x154).toInt ∧ (x154).toInt ≤ 600) → ((x155).toInt = tkT G (x_rd_length).toInt (x153).toInt) → ((x154).toInt = tkX G (x_rd_length).toInt (x153).toInt) → (((x155).toInt = 40 ∧ (x143).toInt = 0) ∨ (x155).toInt = 44) → (2 * (x146).toInt ≤ (x153).toInt + 1) → ((x153).toInt < (x_rd_length).toInt) → ((x154).toInt ≤ (x_rd_length).toInt) → ((x_rd_at).toInt ≤ (x153).toInt) → ((x150).toInt = 0) → ((x151).toInt = (x_rd_place).toInt) → ((x_rd_variables).toInt ≤ (x152).toInt) → ((x_td_parts).toInt + 1 ≤ (x146).toInt) → ((gh157 : Int) = 3 - (x143).toInt) → (pLo G (x_rd_length).toInt (pPs G (x_rd_length).toInt d9) gh157 (x153).toInt (x152).toInt gh158 = (pTm G (x_rd_length).toInt (pPs G (x_rd_length).toInt dd) (x_rd_at).toInt (x_rd_variables).toInt vf)) → (VFC (x152).toInt gh158 f144 f147 (x146).toInt) → (VFV (x152).toInt f144 f148 (x146).toInt) → (NMT (x155).toInt (x156).toInt (NMI 32 G (x_rd_length).toInt (x153).toInt)) → (AGX (x_td_parts).toInt f_nam f147 f_var f148 f_trm f149 f_ter f145) → (OWN G (x_rd_length).toInt (x_rd_at).toInt f147 f148 f149 r105 (x143).toInt) → (KX (x_rd_variables).toInt (kfn f_kn) (kfn f144)) → (TZG f148 f149) → (PRC G (x_rd_length).toInt f147 f148 f149 f145 (x152).toInt gh158 (kfn f144) (x146).toInt dd r105 (x143).toInt (tkN G (x_rd_length).toInt (x_rd_at).toInt) (x153).toInt) → (4 - (x143).toInt).toNat + 1 ≤ n → va_P (dC, dI) cls [(h_kn, .inl (cy_kn, 8, .inl f144)), (h_ter, .inl (cy_ter, 900, .inl f145)), (h_td, .inr (5, (mo32 v_td (.ref h_nam) (.ref h_var) (.ref h_trm) (.ref h_ter) (.int x146)))), (h_nam, .inl (cy_nam, 300, .inr (.inl f147))), (h_var, .inl (cy_var, 300, .inl f148)), (h_trm, .inl (cy_trm, 300, .inl f149)), (h_rd, .inr (4, (mo31 (.ref h_by) (.int x_rd_length) (.int x150) (.int x151) (.ref h_td) (.ref h_kn) (.int x152) (.int x153) (.int x154) (.int x155) (.long x156)))), (h_by, .inl (cy_by, 600, .inl f_by))] H → va_D A [(h_kn, .inl (cy_kn, 8, .inl f144)), (h_ter, .inl (cy_ter, 900, .inl f145)), (h_td, .inr (5, (mo32 v_td (.ref h_nam) (.ref h_var) (.ref h_trm) (.ref h_ter) (.int x146)))), (h_nam, .inl (cy_nam, 300, .inr (.inl f147))), (h_var, .inl (cy_var, 300, .inl f148)), (h_trm, .inl (cy_trm, 300, .inl f149)), (h_rd, .inr (4, (mo31 (.ref h_by) (.int x_rd_length) (.int x150) (.int x151) (.ref h_td) (.ref h_kn) (.int x152) (.int x153) (.int x154) (.int x155) (.long x156)))), (h_by, .inl (cy_by, 600, .inl f_by))] → va_S A s.heap H locs → lv_has ls 5 [(0, .ref h_rd), (1, .int p1), (2, .int 1), (3, .int r105), (4, .int x143)] → W p l e ({ frames := (fu + 1) + 3, cells := 0, slots := 0, locals := 24 * (fu + 1) + 125 } : Room) s m ([.ref h_rd, .int p1] : List Value).toArray below meth c H locs 0 0 (MQ below (va_Qi (fun (r : Int32) (u : (Int32) × (Int32) × (Int32) × (Int32) × (Int32) × (Int32) × (Int64) × (Nat → Int32) × (Int32) × (Nat → Int64) × (Nat → Int32) × (Nat → Int32) × (Nat → Int32)) => (0 ≤ (u.2.2.1).toInt ∧ (u.2.2.1).toInt ≤ 8) ∧ (0 ≤ (u.2.2.2.1).toInt ∧ (u.2.2.2.1).toInt ≤ 600) ∧ (0 ≤ (u.2.2.2.2.1).toInt ∧ (u.2.2.2.2.1).toInt ≤ 600) ∧ (Rg 0 299 u.2.2.2.2.2.2.2.1) ∧ (0 ≤ (u.2.2.2.2.2.2.2.2.1).toInt ∧ (u.2.2.2.2.2.2.2.2.1).toInt ≤ 300) ∧ (Rg (-1) 7 u.2.2.2.2.2.2.2.2.2.2.1) ∧ (Rg 0 3 u.2.2.2.2.2.2.2.2.2.2.2.1) ∧ (Rg 0 299 u.2.2.2.2.2.2.2.2.2.2.2.2) ∧ (0 ≤ r.toInt ∧ r.toInt ≤ 299) ∧ ((u.1).toInt = ((pTm G (x_rd_length).toInt (pPs G (x_rd_length).toInt dd) (x_rd_at).toInt (x_rd_variables).toInt vf)).1) ∧ ((u.2.2.2.1).toInt = ((pTm G (x_rd_length).toInt (pPs G (x_rd_length).toInt dd) (x_rd_at).toInt (x_rd_variables).toInt vf)).2.1) ∧ ((u.2.2.1).toInt = ((pTm G (x_rd_length).toInt (pPs G (x_rd_length).toInt dd) (x_rd_at).toInt (x_rd_variables).toInt vf)).2.2.1) ∧ (((u.1).toInt = 0 ∧ (u.2.1).toInt = (x_rd_place).toInt) ∨ (¬ (u.1).toInt = 0 ∧ (u.2.1).toInt = (u.2.2.2.1).toInt)) ∧ (2 * (u.2.2.2.2.2.2.2.2.1).toInt ≤ (u.2.2.2.1).toInt + 1) ∧ ((u.2.2.2.2.2.1).toInt < 256 ∨ 2 * (u.2.2.2.2.2.2.2.2.1).toInt ≤ (u.2.2.2.1).toInt) ∧ ((x_rd_at).toInt ≤ (u.2.2.2.1).toInt) ∧ ((x_rd_variables).toInt ≤ (u.2.2.1).toInt) ∧ ((x_td_parts).toInt ≤ (u.2.2.2.2.2.2.2.2.1).toInt) ∧ ((u.2.2.2.2.2.1).toInt = tkT G (x_rd_length).toInt (u.2.2.2.1).toInt) ∧ ((u.2.2.2.2.2.1).toInt = -1 ∨ (u.2.2.2.2.1).toInt = tkX G (x_rd_length).toInt (u.2.2.2.1).toInt) ∧ (¬ (u.2.2.2.2.2.1).toInt = 257 ∨ (u.2.2.2.2.2.2.1).toInt = G (u.2.2.2.1).toInt) ∧ (-1 ≤ (u.2.2.2.2.2.1).toInt ∧ (u.2.2.2.2.2.1).toInt ≤ 258) ∧ ((u.2.2.2.2.1).toInt ≤ (x_rd_length).toInt) ∧ ((u.2.2.2.2.2.1).toInt = -1 ∨ (u.2.2.2.1).toInt < (x_rd_length).toInt) ∧ ((u.2.2.2.1).toInt ≤ (x_rd_length).toInt) ∧ (VFC (u.2.2.1).toInt ((pTm G (x_rd_length).toInt (pPs G (x_rd_length).toInt dd) (x_rd_at).toInt (x_rd_variables).toInt vf)).2.2.2 u.2.2.2.2.2.2.2.1 u.2.2.2.2.2.2.2.2.2.1 (u.2.2.2.2.2.2.2.2.1).toInt) ∧ (VFV (u.2.2.1).toInt u.2.2.2.2.2.2.2.1 u.2.2.2.2.2.2.2.2.2.2.1 (u.2.2.2.2.2.2.2.2.1).toInt) ∧ (NMT (u.2.2.2.2.2.1).toInt (u.2.2.2.2.2.2.1).toInt (NMI 32 G (x_rd_length).toInt (u.2.2.2.1).toInt)) ∧ (AGX (x_td_parts).toInt f_nam u.2.2.2.2.2.2.2.2.2.1 f_var u.2.2.2.2.2.2.2.2.2.2.1 f_trm u.2.2.2.2.2.2.2.2.2.2.2.1 f_ter u.2.2.2.2.2.2.2.2.2.2.2.2) ∧ (KX (x_rd_variables).toInt (kfn f_kn) (kfn u.2.2.2.2.2.2.2.1)) ∧ (TZG u.2.2.2.2.2.2.2.2.2.2.1 u.2.2.2.2.2.2.2.2.2.2.2.1) ∧ (IFZ (u.1).toInt (∃ L B : Nat, (L : Int) = (x_td_parts).toInt ∧ (B : Int) = (u.2.2.2.2.2.2.2.2.1).toInt ∧ SPX G (x_rd_length).toInt 32 (CVW u.2.2.2.2.2.2.2.2.2.1 u.2.2.2.2.2.2.2.2.2.2.1 u.2.2.2.2.2.2.2.2.2.2.2.1 u.2.2.2.2.2.2.2.2.2.2.2.2) (u.2.2.1).toInt ((pTm G (x_rd_length).toInt (pPs G (x_rd_length).toInt dd) (x_rd_at).toInt (x_rd_variables).toInt vf)).2.2.2 (kfn u.2.2.2.2.2.2.2.1) L B (dd + 1) (Int32.toNatClampNeg r) (x_rd_at).toInt (u.2.2.2.1).toInt))) (fun (u : (Int32) × (Int32) × (Int32) × (Int32) × (Int32) × (Int32) × (Int64) × (Nat → Int32) × (Int32) × (Nat → Int64) × (Nat → Int32) × (Nat → Int32) × (Nat → Int32)) (t : State) => va_P (dC, dI) cls [(h_rd, .inr (4, (mo31 (.ref h_by) (.int x_rd_length) (.int u.1) (.int u.2.1) (.ref h_td) (.ref h_kn) (.int u.2.2.1) (.int u.2.2.2.1) (.int u.2.2.2.2.1) (.int u.2.2.2.2.2.1) (.long u.2.2.2.2.2.2.1)))), (h_by, .inl (cy_by, 600, .inl f_by)), (h_kn, .inl (cy_kn, 8, .inl u.2.2.2.2.2.2.2.1)), (h_td, .inr (5, (mo32 v_td (.ref h_nam) (.ref h_var) (.ref h_trm) (.ref h_ter) (.int u.2.2.2.2.2.2.2.2.1)))), (h_nam, .inl (cy_nam, 300, .inr (.inl u.2.2.2.2.2.2.2.2.2.1))), (h_var, .inl (cy_var, 300, .inl u.2.2.2.2.2.2.2.2.2.2.1)), (h_trm, .inl (cy_trm, 300, .inl u.2.2.2.2.2.2.2.2.2.2.2.1)), (h_ter, .inl (cy_ter, 900, .inl u.2.2.2.2.2.2.2.2.2.2.2.2))] t.heap ∧ va_D A [(h_rd, .inr (4, (mo31 (.ref h_by) (.int x_rd_length) (.int u.1) (.int u.2.1) (.ref h_td) (.ref h_kn) (.int u.2.2.1) (.int u.2.2.2.1) (.int u.2.2.2.2.1) (.int u.2.2.2.2.2.1) (.long u.2.2.2.2.2.2.1)))), (h_by, .inl (cy_by, 600, .inl f_by)), (h_kn, .inl (cy_kn, 8, .inl u.2.2.2.2.2.2.2.1)), (h_td, .inr (5, (mo32 v_td (.ref h_nam) (.ref h_var) (.ref h_trm) (.ref h_ter) (.int u.2.2.2.2.2.2.2.2.1)))), (h_nam, .inl (cy_nam, 300, .inr (.inl u.2.2.2.2.2.2.2.2.2.1))), (h_var, .inl (cy_var, 300, .inl u.2.2.2.2.2.2.2.2.2.2.1)), (h_trm, .inl (cy_trm, 300, .inl u.2.2.2.2.2.2.2.2.2.2.2.1)), (h_ter, .inl (cy_ter, 900, .inl u.2.2.2.2.2.2.2.2.2.2.2.2))]) A) ([.ref h_rd, .int p1] : List Value).toArray s 0 0 A) (F0 m 84 ls []) := by
          clear hP hD hS hl
          intro n
          induction n with
          | zero => intro x143 f144 f145 x146 f147 f148 f149 x150 x151 x152 x153 x154 x155 x156 gh157 gh158 H locs ls klp159_0 hf144 hf145 klp159_3 hf148 hf149 klp159_6 klp159_7 klp159_8 klp159_9 klp159_10 klp159_11 klp159_12 klp159_13 klp159_14 klp159_15 klp159_16 klp159_17 klp159_18 klp159_19 klp159_20 klp159_21 klp159_22 klp159_23 klp159_24 klp159_25 klp159_26 klp159_27 klp159_28 klp159_29 hm hP hD hS hl; exact False.elim (by omega)
          | succ n ih => 
            intro x143 f144 f145 x146 f147 f148 f149 x150 x151 x152 x153 x154 x155 x156 gh157 gh158 H locs ls klp159_0 hf144 hf145 klp159_3 hf148 hf149 klp159_6 klp159_7 klp159_8 klp159_9 klp159_10 klp159_11 klp159_12 klp159_13 klp159_14 klp159_15 klp159_16 klp159_17 klp159_18 klp159_19 klp159_20 klp159_21 klp159_22 klp159_23 klp159_24 klp159_25 klp159_26 klp159_27 klp159_28 klp159_29 hm hP hD hS hl
            have ih160 := ih
            clear ih
            refine lv_iload hx hb dX5_readPart_84 (lv_at hl 4 rfl) ?_
            refine lv_iconst (v := 3) hx hb dX5_readPart_86 (by decide) ?_
            refine lv_icmp_gt (tgt := 197) hx hb dX5_readPart_87 (by decide) (fun c161 => False.elim (by have kc161 := (cv_lt (by decide : (3 : Int32).toInt = 3) (rfl : (x143).toInt = (x143).toInt)).mp c161; omega)) (fun _ => ?_)
            refine lv_aload_n hx hb dX5_readPart_90 rfl (lv_at hl 0 rfl) ?_
            obtain ⟨vq162, evq162⟩ := mq31_29 (.int x150) (.int x151) (.ref h_td) (.ref h_kn) (.int x152)
            replace hP : va_P (dC, dI) cls [(h_kn, .inl (cy_kn, 8, .inl f144)), (h_ter, .inl (cy_ter, 900, .inl f145)), (h_td, .inr (5, (mo32 v_td (.ref h_nam) (.ref h_var) (.ref h_trm) (.ref h_ter) (.int x146)))), (h_nam, .inl (cy_nam, 300, .inr (.inl f147))), (h_var, .inl (cy_var, 300, .inl f148)), (h_trm, .inl (cy_trm, 300, .inl f149)), (h_rd, .inr (4, (mo29 vq162 (.ref h_by) (.int x_rd_length) (.int x153) (.int x154) (.int x155) (.long x156)))), (h_by, .inl (cy_by, 600, .inl f_by))] H := by rw [evq162]; exact hP
            replace hD : va_D A [(h_kn, .inl (cy_kn, 8, .inl f144)), (h_ter, .inl (cy_ter, 900, .inl f145)), (h_td, .inr (5, (mo32 v_td (.ref h_nam) (.ref h_var) (.ref h_trm) (.ref h_ter) (.int x146)))), (h_nam, .inl (cy_nam, 300, .inr (.inl f147))), (h_var, .inl (cy_var, 300, .inl f148)), (h_trm, .inl (cy_trm, 300, .inl f149)), (h_rd, .inr (4, (mo29 vq162 (.ref h_by) (.int x_rd_length) (.int x153) (.int x154) (.int x155) (.long x156)))), (h_by, .inl (cy_by, 600, .inl f_by))] := by rw [evq162]; exact hD
            have hPc := hP.sub (ws' := [(h_rd, .inr (4, (mo29 vq162 (.ref h_by) (.int x_rd_length) (.int x153) (.int x154) (.int x155) (.long x156)))), (h_by, .inl (cy_by, 600, .inl f_by))]) [6, 7] rfl
            have hDc := hD.sub (ws' := [(h_rd, .inr (4, (mo29 vq162 (.ref h_by) (.int x_rd_length) (.int x153) (.int x154) (.int x155) (.long x156)))), (h_by, .inl (cy_by, 600, .inl f_by))]) [6, 7] (by decide) rfl
            have hKc := hK.sub (tys' := [(cy_by, .int)]) [0] rfl
            have hFc := va_free (wc := [(h_rd, .inr (4, (mo29 vq162 (.ref h_by) (.int x_rd_length) (.int x153) (.int x154) (.int x155) (.long x156)))), (h_by, .inl (cy_by, 600, .inl f_by))]) hD hS hA [6, 7] rfl
            refine va_callv (va_runV (As := []) (rest := []) ⟨hx, hb, hml, hown, hts⟩ (c_X5_nextToken l dC dI H.size h_rd h_by vq162 x_rd_length x153 x154 x155 x156 cy_by f_by G (by first | exact hx_rd_length | omega) (by first | exact klp159_7 | omega) (by first | exact klp159_8 | omega) hf_by (by first | exact klp159_14 | omega) hn_byt) (cwV 0 hts (gv hT w_m_X5_40 w_instanceMethod_X5_nextToken ws_sel_X5_nextToken w_ini_X5 w_code_X5_nextToken) rfl rfl rfl (by decide +kernel) ⟨(by dsimp only [headSpec]; omega), (by dsimp only [headSpec]; omega)⟩) ⟨pre_blind, va_recv hK hP (ci := 4) (q0 := 6) rfl rfl, pre_of hPc hKc hDc hN⟩ rfl rfl hl.1 rfl (lv_room (Nat.le_of_ble_eq_true rfl)) dX5_readPart_91 ⟨(Nat.le_of_ble_eq_true rfl), (Nat.le_of_ble_eq_true rfl)⟩) hS (fun q _ h => hFc q h) hFc (fun u t H locs ht hvm hq hB hz1 hk1 hS9 => ?_)
            obtain ⟨z164, z165, z166, z167⟩ := u
            obtain ⟨hP1, hD1⟩ := hB
            rw [ht] at hP1
            obtain ⟨hP9, hD9⟩ := va_join (wr := [(h_kn, .inl (cy_kn, 8, .inl f144)), (h_ter, .inl (cy_ter, 900, .inl f145)), (h_td, .inr (5, (mo32 v_td (.ref h_nam) (.ref h_var) (.ref h_trm) (.ref h_ter) (.int x146)))), (h_nam, .inl (cy_nam, 300, .inr (.inl f147))), (h_var, .inl (cy_var, 300, .inl f148)), (h_trm, .inl (cy_trm, 300, .inl f149))]) (w1 := [(h_rd, .inr (4, (mo29 vq162 (.ref h_by) (.int x_rd_length) (.int z164) (.int z165) (.int z166) (.long z167)))), (h_by, .inl (cy_by, 600, .inl f_by))]) hP hD [6, 7] [0, 1, 2, 3, 4, 5] rfl rfl (by decide) (by decide) hk1 hFc hP1 hD1
            clear hP hD hS hPc hDc hKc hFc hP1 hD1 hk1 hz1 ht hvm
            have hP : va_P (dC, dI) cls [(h_kn, .inl (cy_kn, 8, .inl f144)), (h_ter, .inl (cy_ter, 900, .inl f145)), (h_td, .inr (5, (mo32 v_td (.ref h_nam) (.ref h_var) (.ref h_trm) (.ref h_ter) (.int x146)))), (h_nam, .inl (cy_nam, 300, .inr (.inl f147))), (h_var, .inl (cy_var, 300, .inl f148)), (h_trm, .inl (cy_trm, 300, .inl f149)), (h_rd, .inr (4, (mo29 vq162 (.ref h_by) (.int x_rd_length) (.int z164) (.int z165) (.int z166) (.long z167)))), (h_by, .inl (cy_by, 600, .inl f_by))] H := hP9
            have hD : va_D A [(h_kn, .inl (cy_kn, 8, .inl f144)), (h_ter, .inl (cy_ter, 900, .inl f145)), (h_td, .inr (5, (mo32 v_td (.ref h_nam) (.ref h_var) (.ref h_trm) (.ref h_ter) (.int x146)))), (h_nam, .inl (cy_nam, 300, .inr (.inl f147))), (h_var, .inl (cy_var, 300, .inl f148)), (h_trm, .inl (cy_trm, 300, .inl f149)), (h_rd, .inr (4, (mo29 vq162 (.ref h_by) (.int x_rd_length) (.int z164) (.int z165) (.int z166) (.long z167)))), (h_by, .inl (cy_by, 600, .inl f_by))] := hD9
            have hS := hS9
            clear hP9 hD9 hS9
            rw [evq162] at hP hD
            replace hP : va_P (dC, dI) cls [(h_kn, .inl (cy_kn, 8, .inl f144)), (h_ter, .inl (cy_ter, 900, .inl f145)), (h_td, .inr (5, (mo32 v_td (.ref h_nam) (.ref h_var) (.ref h_trm) (.ref h_ter) (.int x146)))), (h_nam, .inl (cy_nam, 300, .inr (.inl f147))), (h_var, .inl (cy_var, 300, .inl f148)), (h_trm, .inl (cy_trm, 300, .inl f149)), (h_rd, .inr (4, (mo31 (.ref h_by) (.int x_rd_length) (.int x150) (.int x151) (.ref h_td) (.ref h_kn) (.int x152) (.int z164) (.int z165) (.int z166) (.long z167)))), (h_by, .inl (cy_by, 600, .inl f_by))] H := hP
            replace hD : va_D A [(h_kn, .inl (cy_kn, 8, .inl f144)), (h_ter, .inl (cy_ter, 900, .inl f145)), (h_td, .inr (5, (mo32 v_td (.ref h_nam) (.ref h_var) (.ref h_trm) (.ref h_ter) (.int x146)))), (h_nam, .inl (cy_nam, 300, .inr (.inl f147))), (h_var, .inl (cy_var, 300, .inl f148)), (h_trm, .inl (cy_trm, 300, .inl f149)), (h_rd, .inr (4, (mo31 (.ref h_by) (.int x_rd_length) (.int x150) (.int x151) (.ref h_td) (.ref h_kn) (.int x152) (.int z164) (.int z165) (.int z166) (.long z167)))), (h_by, .inl (cy_by, 600, .inl f_by))] := hD
            clear evq162 
            obtain ⟨k168, k169, k170, k171, k172, k173, k174, k175, k176, k177, k178, k179⟩ := hq
            replace k168 : 0 ≤ ((z164)).toInt ∧ ((z164)).toInt ≤ 600 := k168
            replace k169 : 0 ≤ ((z165)).toInt ∧ ((z165)).toInt ≤ 600 := k169
            replace k170 : ((z164)).toInt = tkS (G) ((x_rd_length)).toInt ((x154)).toInt := k170
            replace k171 : ((x154)).toInt ≤ ((z164)).toInt := k171
            replace k172 : ((z166)).toInt = tkT (G) ((x_rd_length)).toInt ((z164)).toInt := k172
            replace k173 : ((z166)).toInt = -1 ∨ ((z165)).toInt = tkX (G) ((x_rd_length)).toInt ((z164)).toInt := k173
            replace k174 : ¬ ((z166)).toInt = 257 ∨ ((z167)).toInt = (G) ((z164)).toInt := k174
            replace k175 : -1 ≤ ((z166)).toInt ∧ ((z166)).toInt ≤ 258 := k175
            replace k176 : ((z165)).toInt ≤ ((x_rd_length)).toInt := k176
            replace k177 : ((z166)).toInt = -1 ∨ ((z164)).toInt < ((x_rd_length)).toInt := k177
            replace k178 : ((z164)).toInt ≤ ((x_rd_length)).toInt := k178
            replace k179 : NMT ((z166)).toInt ((z167)).toInt (NMI 32 (G) ((x_rd_length)).toInt ((z164)).toInt) := k179
            have tn180b : (x154).toInt = tkX G (x_rd_length).toInt (x153).toInt := by omega
            have tn180 : (z164).toInt = tkN G (x_rd_length).toInt (x153).toInt := by rw [k170, tn180b]; rfl
            have tn180t : (z166).toInt = tkT G (x_rd_length).toInt (tkN G (x_rd_length).toInt (x153).toInt) := by rw [← tn180]; exact k172
            have tn180g := tkN_gt (G := G) (n := (x_rd_length).toInt) (a := (x153).toInt) (by omega) (by omega) (by omega)
            refine lv_aload_n hx hb dX5_readPart_94 rfl (lv_at hl 0 rfl) ?_
            refine va_get (D := (dC, dI)) (ci := 4) (v := .int z166) (C := RX5) (T := TX5) (N := 11) hx hb hw iwX5 hown hK hP 6 rfl rfl 9 (by decide) (hw _ w_f_X5_43) (fun _ h9 => h9) rfl dX5_readPart_95 ?_
            refine lv_sipush (v := 256) hx hb dX5_readPart_98 (by decide) ?_
            refine lv_icmp_eq (tgt := 122) hx hb dX5_readPart_101 (by decide) (fun c181 => ?_) (fun c181 => ?_)
            · have kc181 := (cv_eq (rfl : (z166).toInt = (z166).toInt) (by decide : (256 : Int32).toInt = 256)).mp c181
              replace k173 := Or.resolve_left k173 (by omega)
              clear k174
              replace k177 := Or.resolve_left k177 (by omega)
              refine lv_iload hx hb dX5_readPart_122 (lv_at hl 4 rfl) ?_
              refine lv_iconst (v := 3) hx hb dX5_readPart_124 (by decide) ?_
              refine lv_icmp_ne (tgt := 136) hx hb dX5_readPart_125 (by decide) (fun c182 => ?_) (fun c182 => ?_)
              · have kc182 := (not_congr (cv_eq (rfl : (x143).toInt = (x143).toInt) (by decide : (3 : Int32).toInt = 3))).mp c182
                obtain ⟨rr183, rfl⟩ : ∃ y : Nat, gh157 = y + 1 := ⟨gh157 - 1, by omega⟩
                refine lv_aload_n hx hb dX5_readPart_136 rfl (lv_at hl 0 rfl) ?_
                refine va_get (D := (dC, dI)) (ci := 4) (v := .ref h_td) (C := RX5) (T := TX5) (N := 11) hx hb hw iwX5 hown hK hP 6 rfl rfl 4 (by decide) (hw _ w_f_X5_25) (fun _ h9 => h9) rfl dX5_readPart_137 ?_
                refine va_getN (D := (dC, dI)) (ci := 5) (v := .ref h_ter) (C := RX8) (T := TX8) (N := 10) (host := "OppositePairs") hx hb hw iwX8 hown hK hP 2 rfl rfl 3 (by decide) (hN.use n_f_X5_97 rfl) (fun _ h9 => h9) rfl dX5_readPart_140 ?_
                refine lv_iload_n hx hb dX5_readPart_143 rfl (lv_at hl 3 rfl) ?_
                refine lv_iconst (v := 3) hx hb dX5_readPart_144 (by decide) ?_
                refine lv_imul hx hb dX5_readPart_145 ?_
                refine lv_topi (fun z184 ez184 => ?_)
                have tz184 : (z184).toInt = (r105).toInt * 3 := by rw [ez184]; exact i_mul rfl (by decide) (by omega)
                refine lv_iload hx hb dX5_readPart_146 (lv_at hl 4 rfl) ?_
                refine lv_iadd hx hb dX5_readPart_148 ?_
                refine lv_topi (fun z185 ez185 => ?_)
                have tz185 : (z185).toInt = (z184).toInt + (x143).toInt := by rw [ez185]; exact i_add rfl rfl (by omega)
                refine lv_aload_n hx hb dX5_readPart_149 rfl (lv_at hl 0 rfl) ?_
                refine lv_iload_n hx hb dX5_readPart_150 rfl (lv_at hl 1 rfl) ?_
                refine lv_iconst (v := 1) hx hb dX5_readPart_151 (by decide) ?_
                refine lv_iadd hx hb dX5_readPart_152 ?_
                refine lv_topi (fun z186 ez186 => ?_)
                have tz186 : (z186).toInt = (p1).toInt + 1 := by rw [ez186]; exact i_add rfl (by decide) (by omega)
                have hPc := hP.sub (ws' := [(h_rd, .inr (4, (mo31 (.ref h_by) (.int x_rd_length) (.int x150) (.int x151) (.ref h_td) (.ref h_kn) (.int x152) (.int z164) (.int z165) (.int z166) (.long z167)))), (h_by, .inl (cy_by, 600, .inl f_by)), (h_kn, .inl (cy_kn, 8, .inl f144)), (h_td, .inr (5, (mo32 v_td (.ref h_nam) (.ref h_var) (.ref h_trm) (.ref h_ter) (.int x146)))), (h_nam, .inl (cy_nam, 300, .inr (.inl f147))), (h_var, .inl (cy_var, 300, .inl f148)), (h_trm, .inl (cy_trm, 300, .inl f149)), (h_ter, .inl (cy_ter, 900, .inl f145))]) [6, 7, 0, 2, 3, 4, 5, 1] rfl
                have hDc := hD.sub (ws' := [(h_rd, .inr (4, (mo31 (.ref h_by) (.int x_rd_length) (.int x150) (.int x151) (.ref h_td) (.ref h_kn) (.int x152) (.int z164) (.int z165) (.int z166) (.long z167)))), (h_by, .inl (cy_by, 600, .inl f_by)), (h_kn, .inl (cy_kn, 8, .inl f144)), (h_td, .inr (5, (mo32 v_td (.ref h_nam) (.ref h_var) (.ref h_trm) (.ref h_ter) (.int x146)))), (h_nam, .inl (cy_nam, 300, .inr (.inl f147))), (h_var, .inl (cy_var, 300, .inl f148)), (h_trm, .inl (cy_trm, 300, .inl f149)), (h_ter, .inl (cy_ter, 900, .inl f145))]) [6, 7, 0, 2, 3, 4, 5, 1] (by decide) rfl
                have hKc := hK.sub (tys' := [(cy_by, .int), (cy_kn, .int), (cy_nam, .long), (cy_var, .int), (cy_trm, .int), (cy_ter, .int)]) [0, 1, 2, 3, 4, 5] rfl
                have hFc := va_free (wc := [(h_rd, .inr (4, (mo31 (.ref h_by) (.int x_rd_length) (.int x150) (.int x151) (.ref h_td) (.ref h_kn) (.int x152) (.int z164) (.int z165) (.int z166) (.long z167)))), (h_by, .inl (cy_by, 600, .inl f_by)), (h_kn, .inl (cy_kn, 8, .inl f144)), (h_td, .inr (5, (mo32 v_td (.ref h_nam) (.ref h_var) (.ref h_trm) (.ref h_ter) (.int x146)))), (h_nam, .inl (cy_nam, 300, .inr (.inl f147))), (h_var, .inl (cy_var, 300, .inl f148)), (h_trm, .inl (cy_trm, 300, .inl f149)), (h_ter, .inl (cy_ter, 900, .inl f145))]) hD hS hA [6, 7, 0, 2, 3, 4, 5, 1] rfl
                refine va_calli (va_runV (As := [.int z186]) (rest := [.int z185, .ref h_ter]) ⟨hx, hb, hml, hown, hts⟩ (ihf dC dI H.size h_rd h_by h_kn h_td h_nam h_var h_trm h_ter x_rd_length x150 x151 x152 z164 z165 z166 z167 cy_by f_by cy_kn f144 v_td x146 cy_nam f147 cy_var f148 cy_trm f149 cy_ter f145 z186 G gh158 d9 (by first | exact hx_rd_length | omega) (by first | exact klp159_6 | omega) (by first | exact k168 | omega) (by first | exact k169 | omega) hf_by hf144 (by first | exact klp159_3 | omega) hf148 hf149 hf145 (by first | exact k172 | omega) (by omega) (by omega) (by omega) (by omega) (by omega) (by omega) (by first | exact k176 | omega) (by omega) (by omega) (by omega) hn_byt klp159_22 klp159_23 klp159_28 k179) (cwV 1 hts (gv hT w_m_X5_81 w_instanceMethod_X5_readPart ws_sel_X5_readPart w_ini_X5 w_code_X5_readPart) rfl rfl rfl (by decide +kernel) ⟨(by dsimp only [headSpec]; omega), (by dsimp only [headSpec]; omega)⟩) ⟨pre_blind, va_recv hK hP (ci := 4) (q0 := 6) rfl rfl, pre_of hPc hKc hDc hN⟩ rfl rfl hl.1 rfl (lv_room (Nat.le_of_ble_eq_true rfl)) dX5_readPart_153 ⟨(Nat.le_of_ble_eq_true rfl), (Nat.le_of_ble_eq_true rfl)⟩) hS (fun q _ h => hFc q h) hFc (fun r187 u t H locs ht hvm hq hB hz1 hk1 hS9 => ?_)
                obtain ⟨z188, z189, z190, z191, z192, z193, z194, f195, z196, f197, f198, f199, f200⟩ := u
                obtain ⟨hP1, hD1⟩ := hB
                rw [ht] at hP1
                obtain ⟨hP9, hD9⟩ := va_join (wr := []) (w1 := [(h_rd, .inr (4, (mo31 (.ref h_by) (.int x_rd_length) (.int z188) (.int z189) (.ref h_td) (.ref h_kn) (.int z190) (.int z191) (.int z192) (.int z193) (.long z194)))), (h_by, .inl (cy_by, 600, .inl f_by)), (h_kn, .inl (cy_kn, 8, .inl f195)), (h_td, .inr (5, (mo32 v_td (.ref h_nam) (.ref h_var) (.ref h_trm) (.ref h_ter) (.int z196)))), (h_nam, .inl (cy_nam, 300, .inr (.inl f197))), (h_var, .inl (cy_var, 300, .inl f198)), (h_trm, .inl (cy_trm, 300, .inl f199)), (h_ter, .inl (cy_ter, 900, .inl f200))]) hP hD [6, 7, 0, 2, 3, 4, 5, 1] [] rfl rfl (by decide) (by decide) hk1 hFc hP1 hD1
                clear hP hD hS hPc hDc hKc hFc hP1 hD1 hk1 hz1 ht hvm
                have hP : va_P (dC, dI) cls [(h_rd, .inr (4, (mo31 (.ref h_by) (.int x_rd_length) (.int z188) (.int z189) (.ref h_td) (.ref h_kn) (.int z190) (.int z191) (.int z192) (.int z193) (.long z194)))), (h_by, .inl (cy_by, 600, .inl f_by)), (h_kn, .inl (cy_kn, 8, .inl f195)), (h_td, .inr (5, (mo32 v_td (.ref h_nam) (.ref h_var) (.ref h_trm) (.ref h_ter) (.int z196)))), (h_nam, .inl (cy_nam, 300, .inr (.inl f197))), (h_var, .inl (cy_var, 300, .inl f198)), (h_trm, .inl (cy_trm, 300, .inl f199)), (h_ter, .inl (cy_ter, 900, .inl f200))] H := hP9
                have hD : va_D A [(h_rd, .inr (4, (mo31 (.ref h_by) (.int x_rd_length) (.int z188) (.int z189) (.ref h_td) (.ref h_kn) (.int z190) (.int z191) (.int z192) (.int z193) (.long z194)))), (h_by, .inl (cy_by, 600, .inl f_by)), (h_kn, .inl (cy_kn, 8, .inl f195)), (h_td, .inr (5, (mo32 v_td (.ref h_nam) (.ref h_var) (.ref h_trm) (.ref h_ter) (.int z196)))), (h_nam, .inl (cy_nam, 300, .inr (.inl f197))), (h_var, .inl (cy_var, 300, .inl f198)), (h_trm, .inl (cy_trm, 300, .inl f199)), (h_ter, .inl (cy_ter, 900, .inl f200))] := hD9
                have hS := hS9
                clear hP9 hD9 hS9
                obtain ⟨k201, k202, k203, hf195, k204, hf198, hf199, hf200, k205, k206, k207, k208, k209, k210, k211, k212, k213, k214, k215, k216, k217, k218, k219, k220, k221, k222, k223, k224, k225, k226, k227, k228⟩ := hq
                replace k201 : 0 ≤ ((z190)).toInt ∧ ((z190)).toInt ≤ 8 := k201
                replace k202 : 0 ≤ ((z191)).toInt ∧ ((z191)).toInt ≤ 600 := k202
                replace k203 : 0 ≤ ((z192)).toInt ∧ ((z192)).toInt ≤ 600 := k203
                replace hf195 : Rg 0 299 (f195) := hf195
                replace k204 : 0 ≤ ((z196)).toInt ∧ ((z196)).toInt ≤ 300 := k204
                replace hf198 : Rg (-1) 7 (f198) := hf198
                replace hf199 : Rg 0 3 (f199) := hf199
                replace hf200 : Rg 0 299 (f200) := hf200
                replace k205 : 0 ≤ (r187).toInt ∧ (r187).toInt ≤ 299 := k205
                replace k206 : ((z188)).toInt = ((pTm (G) ((x_rd_length)).toInt (pPs (G) ((x_rd_length)).toInt (d9)) ((z164)).toInt ((x152)).toInt (gh158))).1 := k206
                replace k207 : ((z191)).toInt = ((pTm (G) ((x_rd_length)).toInt (pPs (G) ((x_rd_length)).toInt (d9)) ((z164)).toInt ((x152)).toInt (gh158))).2.1 := k207
                replace k208 : ((z190)).toInt = ((pTm (G) ((x_rd_length)).toInt (pPs (G) ((x_rd_length)).toInt (d9)) ((z164)).toInt ((x152)).toInt (gh158))).2.2.1 := k208
                replace k209 : (((z188)).toInt = 0 ∧ ((z189)).toInt = ((x151)).toInt) ∨ (¬ ((z188)).toInt = 0 ∧ ((z189)).toInt = ((z191)).toInt) := k209
                replace k210 : 2 * ((z196)).toInt ≤ ((z191)).toInt + 1 := k210
                replace k211 : ((z193)).toInt < 256 ∨ 2 * ((z196)).toInt ≤ ((z191)).toInt := k211
                replace k212 : ((z164)).toInt ≤ ((z191)).toInt := k212
                replace k213 : ((x152)).toInt ≤ ((z190)).toInt := k213
                replace k214 : ((x146)).toInt ≤ ((z196)).toInt := k214
                replace k215 : ((z193)).toInt = tkT (G) ((x_rd_length)).toInt ((z191)).toInt := k215
                replace k216 : ((z193)).toInt = -1 ∨ ((z192)).toInt = tkX (G) ((x_rd_length)).toInt ((z191)).toInt := k216
                replace k217 : ¬ ((z193)).toInt = 257 ∨ ((z194)).toInt = (G) ((z191)).toInt := k217
                replace k218 : -1 ≤ ((z193)).toInt ∧ ((z193)).toInt ≤ 258 := k218
                replace k219 : ((z192)).toInt ≤ ((x_rd_length)).toInt := k219
                replace k220 : ((z193)).toInt = -1 ∨ ((z191)).toInt < ((x_rd_length)).toInt := k220
                replace k221 : ((z191)).toInt ≤ ((x_rd_length)).toInt := k221
                replace k222 : VFC ((z190)).toInt ((pTm (G) ((x_rd_length)).toInt (pPs (G) ((x_rd_length)).toInt (d9)) ((z164)).toInt ((x152)).toInt (gh158))).2.2.2 (f195) (f197) ((z196)).toInt := k222
                replace k223 : VFV ((z190)).toInt (f195) (f198) ((z196)).toInt := k223
                replace k224 : NMT ((z193)).toInt ((z194)).toInt (NMI 32 (G) ((x_rd_length)).toInt ((z191)).toInt) := k224
                replace k225 : AGX ((x146)).toInt (f147) (f197) (f148) (f198) (f149) (f199) (f145) (f200) := k225
                replace k226 : KX ((x152)).toInt (kfn (f144)) (kfn (f195)) := k226
                replace k227 : TZG (f198) (f199) := k227
                replace k228 : IFZ ((z188)).toInt (∃ L B : Nat, (L : Int) = ((x146)).toInt ∧ (B : Int) = ((z196)).toInt ∧ SPX (G) ((x_rd_length)).toInt 32 (CVW (f197) (f198) (f199) (f200)) ((z190)).toInt ((pTm (G) ((x_rd_length)).toInt (pPs (G) ((x_rd_length)).toInt (d9)) ((z164)).toInt ((x152)).toInt (gh158))).2.2.2 (kfn (f195)) L B ((d9) + 1) (Int32.toNatClampNeg (r187)) ((z164)).toInt ((z191)).toInt) := k228
                obtain ⟨rh229, erh229⟩ : ∃ x : PR, x = (pTm (G) ((x_rd_length)).toInt (pPs (G) ((x_rd_length)).toInt (d9)) ((z164)).toInt ((x152)).toInt (gh158)) := ⟨_, rfl⟩
                rw [← erh229] at k206 k207 k208 k222 k228
                rw [tn180] at erh229
                rw [tn180, ← hd9] at k228
                have ac230 : AGX (x_td_parts).toInt f_nam f197 f_var f198 f_trm f199 f_ter f200 := agc_tr klp159_25 k225 (by omega)
                have ow231 := own_agc klp159_26 k225 (by omega) (by omega)
                have kk232 : KX (x_rd_variables).toInt (kfn f_kn) (kfn f195) := kx_tr klp159_27 k226 (by omega)
                refine va_iast hx hb hK hP hD hS 7 5 rfl rfl (i := z185) (x := r187) (vp_in_iff.mpr (by omega)) dX5_readPart_156 (fun H locs hP9 hD9 hS9 => ?_)
                obtain ⟨f233, ef233⟩ : ∃ g : Nat → Int32, g = upd f200 (Int32.toNatClampNeg z185) r187 := ⟨_, rfl⟩
                clear hP hD hS
                have hP : va_P (dC, dI) cls [(h_rd, .inr (4, (mo31 (.ref h_by) (.int x_rd_length) (.int z188) (.int z189) (.ref h_td) (.ref h_kn) (.int z190) (.int z191) (.int z192) (.int z193) (.long z194)))), (h_by, .inl (cy_by, 600, .inl f_by)), (h_kn, .inl (cy_kn, 8, .inl f195)), (h_td, .inr (5, (mo32 v_td (.ref h_nam) (.ref h_var) (.ref h_trm) (.ref h_ter) (.int z196)))), (h_nam, .inl (cy_nam, 300, .inr (.inl f197))), (h_var, .inl (cy_var, 300, .inl f198)), (h_trm, .inl (cy_trm, 300, .inl f199)), (h_ter, .inl (cy_ter, 900, .inl f233))] H := by rw [ef233]; exact hP9
                have hD : va_D A [(h_rd, .inr (4, (mo31 (.ref h_by) (.int x_rd_length) (.int z188) (.int z189) (.ref h_td) (.ref h_kn) (.int z190) (.int z191) (.int z192) (.int z193) (.long z194)))), (h_by, .inl (cy_by, 600, .inl f_by)), (h_kn, .inl (cy_kn, 8, .inl f195)), (h_td, .inr (5, (mo32 v_td (.ref h_nam) (.ref h_var) (.ref h_trm) (.ref h_ter) (.int z196)))), (h_nam, .inl (cy_nam, 300, .inr (.inl f197))), (h_var, .inl (cy_var, 300, .inl f198)), (h_trm, .inl (cy_trm, 300, .inl f199)), (h_ter, .inl (cy_ter, 900, .inl f233))] := by rw [ef233]; exact hD9
                have hS := hS9
                clear hP9 hD9 hS9
                have hf233 : Rg 0 299 f233 := by rw [ef233]; exact rg_upd hf200 (by omega)
                have ac234 : AGX (x_td_parts).toInt f_nam f197 f_var f198 f_trm f199 f_ter f233 := agc_ter ac230 ef233 (r := r105) (k := (x143).toInt) (by omega) (by omega) (by omega) (by omega)
                refine lv_aload_n hx hb dX5_readPart_157 rfl (lv_at hl 0 rfl) ?_
                refine va_get (D := (dC, dI)) (ci := 4) (v := .ref h_td) (C := RX5) (T := TX5) (N := 11) hx hb hw iwX5 hown hK hP 0 rfl rfl 4 (by decide) (hw _ w_f_X5_25) (fun _ h9 => h9) rfl dX5_readPart_158 ?_
                refine va_getN (D := (dC, dI)) (ci := 5) (v := .ref h_trm) (C := RX8) (T := TX8) (N := 10) (host := "OppositePairs") hx hb hw iwX8 hown hK hP 3 rfl rfl 2 (by decide) (hN.use n_f_X5_100 rfl) (fun _ h9 => h9) rfl dX5_readPart_161 ?_
                refine lv_iload_n hx hb dX5_readPart_164 rfl (lv_at hl 3 rfl) ?_
                refine lv_iload hx hb dX5_readPart_165 (lv_at hl 4 rfl) ?_
                refine lv_iconst (v := 1) hx hb dX5_readPart_167 (by decide) ?_
                refine lv_iadd hx hb dX5_readPart_168 ?_
                refine lv_topi (fun z235 ez235 => ?_)
                have tz235 : (z235).toInt = (x143).toInt + 1 := by rw [ez235]; exact i_add rfl (by decide) (by omega)
                refine va_iast hx hb hK hP hD hS 6 4 rfl rfl (i := r105) (x := z235) (vp_in_iff.mpr (by omega)) dX5_readPart_169 (fun H locs hP9 hD9 hS9 => ?_)
                obtain ⟨f236, ef236⟩ : ∃ g : Nat → Int32, g = upd f199 (Int32.toNatClampNeg r105) z235 := ⟨_, rfl⟩
                clear hP hD hS
                have hP : va_P (dC, dI) cls [(h_rd, .inr (4, (mo31 (.ref h_by) (.int x_rd_length) (.int z188) (.int z189) (.ref h_td) (.ref h_kn) (.int z190) (.int z191) (.int z192) (.int z193) (.long z194)))), (h_by, .inl (cy_by, 600, .inl f_by)), (h_kn, .inl (cy_kn, 8, .inl f195)), (h_td, .inr (5, (mo32 v_td (.ref h_nam) (.ref h_var) (.ref h_trm) (.ref h_ter) (.int z196)))), (h_nam, .inl (cy_nam, 300, .inr (.inl f197))), (h_var, .inl (cy_var, 300, .inl f198)), (h_trm, .inl (cy_trm, 300, .inl f236)), (h_ter, .inl (cy_ter, 900, .inl f233))] H := by rw [ef236]; exact hP9
                have hD : va_D A [(h_rd, .inr (4, (mo31 (.ref h_by) (.int x_rd_length) (.int z188) (.int z189) (.ref h_td) (.ref h_kn) (.int z190) (.int z191) (.int z192) (.int z193) (.long z194)))), (h_by, .inl (cy_by, 600, .inl f_by)), (h_kn, .inl (cy_kn, 8, .inl f195)), (h_td, .inr (5, (mo32 v_td (.ref h_nam) (.ref h_var) (.ref h_trm) (.ref h_ter) (.int z196)))), (h_nam, .inl (cy_nam, 300, .inr (.inl f197))), (h_var, .inl (cy_var, 300, .inl f198)), (h_trm, .inl (cy_trm, 300, .inl f236)), (h_ter, .inl (cy_ter, 900, .inl f233))] := by rw [ef236]; exact hD9
                have hS := hS9
                clear hP9 hD9 hS9
                have hf236 : Rg 0 3 f236 := by rw [ef236]; exact rg_upd hf199 (by omega)
                have ac237 : AGX (x_td_parts).toInt f_nam f197 f_var f198 f_trm f236 f_ter f233 := agc_trm ac234 ef236 (by omega)
                have ow238 := own_trm ow231 ef236 (rfl : (z235).toInt = (z235).toInt)
                refine lv_aload_n hx hb dX5_readPart_170 rfl (lv_at hl 0 rfl) ?_
                refine va_get (D := (dC, dI)) (ci := 4) (v := .int z188) (C := RX5) (T := TX5) (N := 11) hx hb hw iwX5 hown hK hP 0 rfl rfl 2 (by decide) (hw _ w_f_X5_34) (fun _ h9 => h9) rfl dX5_readPart_171 ?_
                refine lv_if_eq (tgt := 179) hx hb dX5_readPart_174 (by decide) (fun c239 => ?_) (fun c239 => ?_)
                · have kc239 := (cv_eq (rfl : (z188).toInt = (z188).toInt) (by decide : (0 : Int32).toInt = 0)).mp c239
                  replace k209 := (Or.resolve_right k209 (fun h9 => h9.1 (by omega))).2
                  have xt9 : XT (x152).toInt gh158 (z190).toInt (rh229).2.2.2 := by rw [k208, erh229]; exact (pTm_xi (pPs_xi _) _ _ _).1
                  have pr240 : PRC G (x_rd_length).toInt f197 f198 f236 f233 (z190).toInt (rh229).2.2.2 (kfn f195) (z196).toInt dd r105 (z235).toInt (tkN G (x_rd_length).toInt (x_rd_at).toInt) (z191).toInt := prc_step (Q := (x146).toInt) (z := z185) (x := r187) klp159_29 k225 (by omega) xt9 k226 (by omega) (by omega) (by omega) (by omega) (by omega) (k228 (by omega)) rfl (by omega) ef233 ef236 (by omega)
                  refine lv_aload_n hx hb dX5_readPart_179 rfl (lv_at hl 0 rfl) ?_
                  refine va_get (D := (dC, dI)) (ci := 4) (v := .int z193) (C := RX5) (T := TX5) (N := 11) hx hb hw iwX5 hown hK hP 0 rfl rfl 9 (by decide) (hw _ w_f_X5_43) (fun _ h9 => h9) rfl dX5_readPart_180 ?_
                  refine lv_bipush (v := 44) hx hb dX5_readPart_183 (by decide) ?_
                  refine lv_icmp_eq (tgt := 191) hx hb dX5_readPart_185 (by decide) (fun c241 => ?_) (fun c241 => ?_)
                  · have kc241 := (cv_eq (rfl : (z193).toInt = (z193).toInt) (by decide : (44 : Int32).toInt = 44)).mp c241
                    clear k211
                    replace k216 := Or.resolve_left k216 (by omega)
                    clear k217
                    replace k220 := Or.resolve_left k220 (by omega)
                    have on9 := pLo_on (G := G) (n := (x_rd_length).toInt) (P := (pPs G (x_rd_length).toInt d9)) (r := rr183) (q := (x153).toInt) (nv := (x152).toInt) (vf := gh158) (by rw [← erh229]; omega) (by rw [← erh229, ← k207]; omega)
                    rw [← erh229, ← k207, ← k208] at on9
                    have lo242 := on9.symm.trans klp159_21
                    obtain ⟨z243, ez243⟩ : ∃ y : Int32, y = x143 + 1 := ⟨_, rfl⟩
                    have tz243 : (z243).toInt = (x143).toInt + 1 := by rw [ez243]; exact i_add rfl (by decide) (by omega)
                    refine lv_iinc (v := z243) (lv' := [(4, .int z243), (0, .ref h_rd), (1, .int p1), (2, .int 1), (3, .int r105)]) hx hb dX5_readPart_191 hl (k := 4) rfl (by rw [ez243]; rfl) (by decide) rfl (fun ls hl => ?_)
                    refine lv_goto (tgt := 84) hx hb dX5_readPart_194 (by decide) ?_
                    replace hP : va_P (dC, dI) cls [(h_kn, .inl (cy_kn, 8, .inl f195)), (h_ter, .inl (cy_ter, 900, .inl f233)), (h_td, .inr (5, (mo32 v_td (.ref h_nam) (.ref h_var) (.ref h_trm) (.ref h_ter) (.int z196)))), (h_nam, .inl (cy_nam, 300, .inr (.inl f197))), (h_var, .inl (cy_var, 300, .inl f198)), (h_trm, .inl (cy_trm, 300, .inl f236)), (h_rd, .inr (4, (mo31 (.ref h_by) (.int x_rd_length) (.int z188) (.int z189) (.ref h_td) (.ref h_kn) (.int z190) (.int z191) (.int z192) (.int z193) (.long z194)))), (h_by, .inl (cy_by, 600, .inl f_by))] H := hP.sub [2, 7, 3, 4, 5, 6, 0, 1] rfl
                    replace hD : va_D A [(h_kn, .inl (cy_kn, 8, .inl f195)), (h_ter, .inl (cy_ter, 900, .inl f233)), (h_td, .inr (5, (mo32 v_td (.ref h_nam) (.ref h_var) (.ref h_trm) (.ref h_ter) (.int z196)))), (h_nam, .inl (cy_nam, 300, .inr (.inl f197))), (h_var, .inl (cy_var, 300, .inl f198)), (h_trm, .inl (cy_trm, 300, .inl f236)), (h_rd, .inr (4, (mo31 (.ref h_by) (.int x_rd_length) (.int z188) (.int z189) (.ref h_td) (.ref h_kn) (.int z190) (.int z191) (.int z192) (.int z193) (.long z194)))), (h_by, .inl (cy_by, 600, .inl f_by))] := hD.sub [2, 7, 3, 4, 5, 6, 0, 1] (by decide) rfl
                    exact ih160 (z243) (f195) (f233) (z196) (f197) (f198) (f236) (z188) (z189) (z190) (z191) (z192) (z193) (z194) (rr183) ((rh229).2.2.2) _ _ _ (by omega) hf195 hf233 (by first | exact k204 | omega) hf198 hf236 (by first | exact k201 | omega) (by first | exact k202 | omega) (by first | exact k203 | omega) (by first | exact k215 | omega) (by omega) (by omega) (by first | exact k210 | omega) (by omega) (by first | exact k219 | omega) (by omega) (by omega) (by omega) (by omega) (by omega) (by omega) lo242 k222 k223 k224 ac237 (own_cast ow238 (by omega)) kk232 (tz_trm k227 ef236 ow231.1) (prc_cast pr240 (by omega)) (by omega) hP hD hS (lv_sub hl [1, 2, 3, 4, 0] rfl)
                  · have kc241 := (not_congr (cv_eq (rfl : (z193).toInt = (z193).toInt) (by decide : (44 : Int32).toInt = 44))).mp c241
                    refine lv_goto (tgt := 197) hx hb dX5_readPart_188 (by decide) ?_
                    have on9 := pLo_off (G := G) (n := (x_rd_length).toInt) (P := (pPs G (x_rd_length).toInt d9)) (r := rr183) (q := (x153).toInt) (nv := (x152).toInt) (vf := gh158) (by rw [← erh229]; omega) (by rw [← erh229, ← k207]; omega)
                    rw [← erh229, ← k207, ← k208] at on9
                    have cl9 := on9.symm.trans klp159_21
                    refine lv_aload_n hx hb dX5_readPart_197 rfl (lv_at hl 0 rfl) ?_
                    refine va_get (D := (dC, dI)) (ci := 4) (v := .int z193) (C := RX5) (T := TX5) (N := 11) hx hb hw iwX5 hown hK hP 0 rfl rfl 9 (by decide) (hw _ w_f_X5_43) (fun _ h9 => h9) rfl dX5_readPart_198 ?_
                    refine lv_bipush (v := 41) hx hb dX5_readPart_201 (by decide) ?_
                    refine lv_icmp_ne (tgt := 213) hx hb dX5_readPart_203 (by decide) (fun c244 => ?_) (fun c244 => ?_)
                    · have kc244 := (not_congr (cv_eq (rfl : (z193).toInt = (z193).toInt) (by decide : (41 : Int32).toInt = 41))).mp c244
                      have pv9 : (pTm G (x_rd_length).toInt (pPs G (x_rd_length).toInt dd) (x_rd_at).toInt (x_rd_variables).toInt vf) = (1, (z191).toInt, (z190).toInt, (rh229).2.2.2) := cl9.symm.trans (pCl_no (by omega))
                      have pq2451 : ((pTm G (x_rd_length).toInt (pPs G (x_rd_length).toInt dd) (x_rd_at).toInt (x_rd_variables).toInt vf)).1 = 1 := by rw [pv9]
                      have pq2452 : ((pTm G (x_rd_length).toInt (pPs G (x_rd_length).toInt dd) (x_rd_at).toInt (x_rd_variables).toInt vf)).2.1 = (z191).toInt := by rw [pv9]
                      have pq2453 : ((pTm G (x_rd_length).toInt (pPs G (x_rd_length).toInt dd) (x_rd_at).toInt (x_rd_variables).toInt vf)).2.2.1 = (z190).toInt := by rw [pv9]
                      have pq2454 : ((pTm G (x_rd_length).toInt (pPs G (x_rd_length).toInt dd) (x_rd_at).toInt (x_rd_variables).toInt vf)).2.2.2 = (rh229).2.2.2 := by rw [pv9]
                      refine lv_aload_n hx hb dX5_readPart_213 rfl (lv_at hl 0 rfl) ?_
                      refine lv_iconst (v := 1) hx hb dX5_readPart_214 (by decide) ?_
                      obtain ⟨vq246, evq246⟩ := mq31_27 (.ref h_by) (.int x_rd_length) (.ref h_td) (.ref h_kn) (.int z190) (.int z192) (.int z193) (.long z194)
                      replace hP : va_P (dC, dI) cls [(h_rd, .inr (4, (mo27 vq246 (.int z188) (.int z189) (.int z191)))), (h_by, .inl (cy_by, 600, .inl f_by)), (h_kn, .inl (cy_kn, 8, .inl f195)), (h_td, .inr (5, (mo32 v_td (.ref h_nam) (.ref h_var) (.ref h_trm) (.ref h_ter) (.int z196)))), (h_nam, .inl (cy_nam, 300, .inr (.inl f197))), (h_var, .inl (cy_var, 300, .inl f198)), (h_trm, .inl (cy_trm, 300, .inl f236)), (h_ter, .inl (cy_ter, 900, .inl f233))] H := by rw [evq246]; exact hP
                      replace hD : va_D A [(h_rd, .inr (4, (mo27 vq246 (.int z188) (.int z189) (.int z191)))), (h_by, .inl (cy_by, 600, .inl f_by)), (h_kn, .inl (cy_kn, 8, .inl f195)), (h_td, .inr (5, (mo32 v_td (.ref h_nam) (.ref h_var) (.ref h_trm) (.ref h_ter) (.int z196)))), (h_nam, .inl (cy_nam, 300, .inr (.inl f197))), (h_var, .inl (cy_var, 300, .inl f198)), (h_trm, .inl (cy_trm, 300, .inl f236)), (h_ter, .inl (cy_ter, 900, .inl f233))] := by rw [evq246]; exact hD
                      have cst1 : (1 : Int32).toInt = 1 := by decide
                      have hPc := hP.sub (ws' := [(h_rd, .inr (4, (mo27 vq246 (.int z188) (.int z189) (.int z191))))]) [0] rfl
                      have hDc := hD.sub (ws' := [(h_rd, .inr (4, (mo27 vq246 (.int z188) (.int z189) (.int z191))))]) [0] (by decide) rfl
                      have hKc := hK.sub (tys' := []) [] rfl
                      have hFc := va_free (wc := [(h_rd, .inr (4, (mo27 vq246 (.int z188) (.int z189) (.int z191))))]) hD hS hA [0] rfl
                      refine va_callv (va_runV (As := [.int 1]) (rest := []) ⟨hx, hb, hml, hown, hts⟩ (c_X5_blame l dC dI H.size h_rd vq246 z188 z189 z191 1 (by first | exact k202 | omega)) (cwV 1 hts (gv hT w_m_X5_56 w_instanceMethod_X5_blame ws_sel_X5_blame w_ini_X5 w_code_X5_blame) rfl rfl rfl (by decide +kernel) ⟨(by dsimp only [headSpec]; omega), (by dsimp only [headSpec]; omega)⟩) ⟨pre_blind, va_recv hK hP (ci := 4) (q0 := 0) rfl rfl, pre_of hPc hKc hDc hN⟩ rfl rfl hl.1 rfl (lv_room (Nat.le_of_ble_eq_true rfl)) dX5_readPart_215 ⟨(Nat.le_of_ble_eq_true rfl), (Nat.le_of_ble_eq_true rfl)⟩) hS (fun q _ h => hFc q h) hFc (fun u t H locs ht hvm hq hB hz1 hk1 hS9 => ?_)
                      obtain ⟨z248, z249⟩ := u
                      obtain ⟨hP1, hD1⟩ := hB
                      rw [ht] at hP1
                      obtain ⟨hP9, hD9⟩ := va_join (wr := [(h_by, .inl (cy_by, 600, .inl f_by)), (h_kn, .inl (cy_kn, 8, .inl f195)), (h_td, .inr (5, (mo32 v_td (.ref h_nam) (.ref h_var) (.ref h_trm) (.ref h_ter) (.int z196)))), (h_nam, .inl (cy_nam, 300, .inr (.inl f197))), (h_var, .inl (cy_var, 300, .inl f198)), (h_trm, .inl (cy_trm, 300, .inl f236)), (h_ter, .inl (cy_ter, 900, .inl f233))]) (w1 := [(h_rd, .inr (4, (mo27 vq246 (.int z248) (.int z249) (.int z191))))]) hP hD [0] [1, 2, 3, 4, 5, 6, 7] rfl rfl (by decide) (by decide) hk1 hFc hP1 hD1
                      clear hP hD hS hPc hDc hKc hFc hP1 hD1 hk1 hz1 ht hvm
                      have hP : va_P (dC, dI) cls [(h_by, .inl (cy_by, 600, .inl f_by)), (h_kn, .inl (cy_kn, 8, .inl f195)), (h_td, .inr (5, (mo32 v_td (.ref h_nam) (.ref h_var) (.ref h_trm) (.ref h_ter) (.int z196)))), (h_nam, .inl (cy_nam, 300, .inr (.inl f197))), (h_var, .inl (cy_var, 300, .inl f198)), (h_trm, .inl (cy_trm, 300, .inl f236)), (h_ter, .inl (cy_ter, 900, .inl f233)), (h_rd, .inr (4, (mo27 vq246 (.int z248) (.int z249) (.int z191))))] H := hP9
                      have hD : va_D A [(h_by, .inl (cy_by, 600, .inl f_by)), (h_kn, .inl (cy_kn, 8, .inl f195)), (h_td, .inr (5, (mo32 v_td (.ref h_nam) (.ref h_var) (.ref h_trm) (.ref h_ter) (.int z196)))), (h_nam, .inl (cy_nam, 300, .inr (.inl f197))), (h_var, .inl (cy_var, 300, .inl f198)), (h_trm, .inl (cy_trm, 300, .inl f236)), (h_ter, .inl (cy_ter, 900, .inl f233)), (h_rd, .inr (4, (mo27 vq246 (.int z248) (.int z249) (.int z191))))] := hD9
                      have hS := hS9
                      clear hP9 hD9 hS9
                      rw [evq246] at hP hD
                      replace hP : va_P (dC, dI) cls [(h_by, .inl (cy_by, 600, .inl f_by)), (h_kn, .inl (cy_kn, 8, .inl f195)), (h_td, .inr (5, (mo32 v_td (.ref h_nam) (.ref h_var) (.ref h_trm) (.ref h_ter) (.int z196)))), (h_nam, .inl (cy_nam, 300, .inr (.inl f197))), (h_var, .inl (cy_var, 300, .inl f198)), (h_trm, .inl (cy_trm, 300, .inl f236)), (h_ter, .inl (cy_ter, 900, .inl f233)), (h_rd, .inr (4, (mo31 (.ref h_by) (.int x_rd_length) (.int z248) (.int z249) (.ref h_td) (.ref h_kn) (.int z190) (.int z191) (.int z192) (.int z193) (.long z194))))] H := hP
                      replace hD : va_D A [(h_by, .inl (cy_by, 600, .inl f_by)), (h_kn, .inl (cy_kn, 8, .inl f195)), (h_td, .inr (5, (mo32 v_td (.ref h_nam) (.ref h_var) (.ref h_trm) (.ref h_ter) (.int z196)))), (h_nam, .inl (cy_nam, 300, .inr (.inl f197))), (h_var, .inl (cy_var, 300, .inl f198)), (h_trm, .inl (cy_trm, 300, .inl f236)), (h_ter, .inl (cy_ter, 900, .inl f233)), (h_rd, .inr (4, (mo31 (.ref h_by) (.int x_rd_length) (.int z248) (.int z249) (.ref h_td) (.ref h_kn) (.int z190) (.int z191) (.int z192) (.int z193) (.long z194))))] := hD
                      clear evq246 
                      obtain ⟨k250, k251⟩ := hq
                      replace k250 : ((z248)).toInt = ((1 : Int32)).toInt := k250
                      replace k251 : ((z249)).toInt = ((z191)).toInt := k251
                      refine lv_iload_n hx hb dX5_readPart_218 rfl (lv_at hl 3 rfl) ?_
                      replace hP : va_P (dC, dI) cls [(h_rd, .inr (4, (mo31 (.ref h_by) (.int x_rd_length) (.int z248) (.int z249) (.ref h_td) (.ref h_kn) (.int z190) (.int z191) (.int z192) (.int z193) (.long z194)))), (h_by, .inl (cy_by, 600, .inl f_by)), (h_kn, .inl (cy_kn, 8, .inl f195)), (h_td, .inr (5, (mo32 v_td (.ref h_nam) (.ref h_var) (.ref h_trm) (.ref h_ter) (.int z196)))), (h_nam, .inl (cy_nam, 300, .inr (.inl f197))), (h_var, .inl (cy_var, 300, .inl f198)), (h_trm, .inl (cy_trm, 300, .inl f236)), (h_ter, .inl (cy_ter, 900, .inl f233))] H := hP.sub [7, 0, 1, 2, 3, 4, 5, 6] rfl
                      replace hD : va_D A [(h_rd, .inr (4, (mo31 (.ref h_by) (.int x_rd_length) (.int z248) (.int z249) (.ref h_td) (.ref h_kn) (.int z190) (.int z191) (.int z192) (.int z193) (.long z194)))), (h_by, .inl (cy_by, 600, .inl f_by)), (h_kn, .inl (cy_kn, 8, .inl f195)), (h_td, .inr (5, (mo32 v_td (.ref h_nam) (.ref h_var) (.ref h_trm) (.ref h_ter) (.int z196)))), (h_nam, .inl (cy_nam, 300, .inr (.inl f197))), (h_var, .inl (cy_var, 300, .inl f198)), (h_trm, .inl (cy_trm, 300, .inl f236)), (h_ter, .inl (cy_ter, 900, .inl f233))] := hD.sub [7, 0, 1, 2, 3, 4, 5, 6] (by decide) rfl
                      refine W.widen (k := 0) (n := 0) (Nat.le_of_ble_eq_true rfl) (Nat.le_of_ble_eq_true rfl) ?_
                      have w252 : 0 ≤ ((z190)).toInt ∧ ((z190)).toInt ≤ 8 := by first | exact k201 | omega
                      have w253 : 0 ≤ ((z191)).toInt ∧ ((z191)).toInt ≤ 600 := by first | exact k202 | omega
                      have w254 : 0 ≤ ((z192)).toInt ∧ ((z192)).toInt ≤ 600 := by first | exact k203 | omega
                      have w255 : 0 ≤ ((z196)).toInt ∧ ((z196)).toInt ≤ 300 := by first | exact k204 | omega
                      have w256 : 0 ≤ (r105 : Int32).toInt ∧ (r105 : Int32).toInt ≤ 299 := by first | exact k111 | omega
                      have w257 : ((z248)).toInt = ((pTm G (x_rd_length).toInt (pPs G (x_rd_length).toInt dd) (x_rd_at).toInt (x_rd_variables).toInt vf)).1 := by omega
                      have w258 : ((z191)).toInt = ((pTm G (x_rd_length).toInt (pPs G (x_rd_length).toInt dd) (x_rd_at).toInt (x_rd_variables).toInt vf)).2.1 := by omega
                      have w259 : ((z190)).toInt = ((pTm G (x_rd_length).toInt (pPs G (x_rd_length).toInt dd) (x_rd_at).toInt (x_rd_variables).toInt vf)).2.2.1 := by omega
                      have w260 : (((z248)).toInt = 0 ∧ ((z249)).toInt = (x_rd_place).toInt) ∨ (¬ ((z248)).toInt = 0 ∧ ((z249)).toInt = ((z191)).toInt) := by omega
                      have w261 : 2 * ((z196)).toInt ≤ ((z191)).toInt + 1 := by first | exact k210 | omega
                      have w262 : ((z193)).toInt < 256 ∨ 2 * ((z196)).toInt ≤ ((z191)).toInt := by first | exact k211 | omega
                      have w263 : (x_rd_at).toInt ≤ ((z191)).toInt := by omega
                      have w264 : (x_rd_variables).toInt ≤ ((z190)).toInt := by omega
                      have w265 : (x_td_parts).toInt ≤ ((z196)).toInt := by omega
                      have w266 : ((z193)).toInt = tkT G (x_rd_length).toInt ((z191)).toInt := by first | exact k215 | omega
                      have w267 : ((z193)).toInt = -1 ∨ ((z192)).toInt = tkX G (x_rd_length).toInt ((z191)).toInt := by first | exact k216 | omega
                      have w268 : ¬ ((z193)).toInt = 257 ∨ ((z194)).toInt = G ((z191)).toInt := by first | exact k217 | omega
                      have w269 : -1 ≤ ((z193)).toInt ∧ ((z193)).toInt ≤ 258 := by first | exact k218 | omega
                      have w270 : ((z192)).toInt ≤ (x_rd_length).toInt := by first | exact k219 | omega
                      have w271 : ((z193)).toInt = -1 ∨ ((z191)).toInt < (x_rd_length).toInt := by first | exact k220 | omega
                      have w272 : ((z191)).toInt ≤ (x_rd_length).toInt := by first | exact k221 | omega
                      have w273 : VFC ((z190)).toInt ((pTm G (x_rd_length).toInt (pPs G (x_rd_length).toInt dd) (x_rd_at).toInt (x_rd_variables).toInt vf)).2.2.2 (f195) (f197) ((z196)).toInt := (by rw [pq2454]; exact k222)
                      have w274 : VFV ((z190)).toInt (f195) (f198) ((z196)).toInt := k223
                      have w275 : NMT ((z193)).toInt ((z194)).toInt (NMI 32 G (x_rd_length).toInt ((z191)).toInt) := k224
                      have w276 : AGX (x_td_parts).toInt f_nam (f197) f_var (f198) f_trm (f236) f_ter (f233) := ac237
                      have w277 : KX (x_rd_variables).toInt (kfn f_kn) (kfn (f195)) := kk232
                      have w278 : TZG (f198) (f236) := (tz_trm k227 ef236 ow231.1)
                      have w279 : IFZ ((z248)).toInt (∃ L B : Nat, (L : Int) = (x_td_parts).toInt ∧ (B : Int) = ((z196)).toInt ∧ SPX G (x_rd_length).toInt 32 (CVW (f197) (f198) (f236) (f233)) ((z190)).toInt ((pTm G (x_rd_length).toInt (pPs G (x_rd_length).toInt dd) (x_rd_at).toInt (x_rd_variables).toInt vf)).2.2.2 (kfn (f195)) L B (dd + 1) (Int32.toNatClampNeg (r105 : Int32)) (x_rd_at).toInt ((z191)).toInt) := (ifz_no (by omega))
                      exact W.iret (v := r105) hx hb hr (fun t ht hW => ⟨⟨r105, (z248, z249, z190, z191, z192, z193, z194, f195, z196, f197, f198, f236, f233), rfl, ⟨w252, w253, w254, hf195, w255, hf198, hf236, hf233, w256, w257, w258, w259, w260, w261, w262, w263, w264, w265, w266, w267, w268, w269, w270, w271, w272, w273, w274, w275, w276, w277, w278, w279⟩, by rw [ht]; exact hP, hD⟩, hS.F ht⟩) hS.2.2 dX5_readPart_219
                    · have kc244 := (cv_eq (rfl : (z193).toInt = (z193).toInt) (by decide : (41 : Int32).toInt = 41)).mp c244
                      clear k211
                      replace k216 := Or.resolve_left k216 (by omega)
                      clear k217
                      replace k220 := Or.resolve_left k220 (by omega)
                      have pv9 : (pTm G (x_rd_length).toInt (pPs G (x_rd_length).toInt dd) (x_rd_at).toInt (x_rd_variables).toInt vf) = (0, tkN G (x_rd_length).toInt (z191).toInt, (z190).toInt, (rh229).2.2.2) := cl9.symm.trans (pCl_yes (by omega))
                      have pq2801 : ((pTm G (x_rd_length).toInt (pPs G (x_rd_length).toInt dd) (x_rd_at).toInt (x_rd_variables).toInt vf)).1 = 0 := by rw [pv9]
                      have pq2802 : ((pTm G (x_rd_length).toInt (pPs G (x_rd_length).toInt dd) (x_rd_at).toInt (x_rd_variables).toInt vf)).2.1 = tkN G (x_rd_length).toInt (z191).toInt := by rw [pv9]
                      have pq2803 : ((pTm G (x_rd_length).toInt (pPs G (x_rd_length).toInt dd) (x_rd_at).toInt (x_rd_variables).toInt vf)).2.2.1 = (z190).toInt := by rw [pv9]
                      have pq2804 : ((pTm G (x_rd_length).toInt (pPs G (x_rd_length).toInt dd) (x_rd_at).toInt (x_rd_variables).toInt vf)).2.2.2 = (rh229).2.2.2 := by rw [pv9]
                      refine lv_aload_n hx hb dX5_readPart_206 rfl (lv_at hl 0 rfl) ?_
                      obtain ⟨vq281, evq281⟩ := mq31_29 (.int z188) (.int z189) (.ref h_td) (.ref h_kn) (.int z190)
                      replace hP : va_P (dC, dI) cls [(h_rd, .inr (4, (mo29 vq281 (.ref h_by) (.int x_rd_length) (.int z191) (.int z192) (.int z193) (.long z194)))), (h_by, .inl (cy_by, 600, .inl f_by)), (h_kn, .inl (cy_kn, 8, .inl f195)), (h_td, .inr (5, (mo32 v_td (.ref h_nam) (.ref h_var) (.ref h_trm) (.ref h_ter) (.int z196)))), (h_nam, .inl (cy_nam, 300, .inr (.inl f197))), (h_var, .inl (cy_var, 300, .inl f198)), (h_trm, .inl (cy_trm, 300, .inl f236)), (h_ter, .inl (cy_ter, 900, .inl f233))] H := by rw [evq281]; exact hP
                      replace hD : va_D A [(h_rd, .inr (4, (mo29 vq281 (.ref h_by) (.int x_rd_length) (.int z191) (.int z192) (.int z193) (.long z194)))), (h_by, .inl (cy_by, 600, .inl f_by)), (h_kn, .inl (cy_kn, 8, .inl f195)), (h_td, .inr (5, (mo32 v_td (.ref h_nam) (.ref h_var) (.ref h_trm) (.ref h_ter) (.int z196)))), (h_nam, .inl (cy_nam, 300, .inr (.inl f197))), (h_var, .inl (cy_var, 300, .inl f198)), (h_trm, .inl (cy_trm, 300, .inl f236)), (h_ter, .inl (cy_ter, 900, .inl f233))] := by rw [evq281]; exact hD
                      have hPc := hP.sub (ws' := [(h_rd, .inr (4, (mo29 vq281 (.ref h_by) (.int x_rd_length) (.int z191) (.int z192) (.int z193) (.long z194)))), (h_by, .inl (cy_by, 600, .inl f_by))]) [0, 1] rfl
                      have hDc := hD.sub (ws' := [(h_rd, .inr (4, (mo29 vq281 (.ref h_by) (.int x_rd_length) (.int z191) (.int z192) (.int z193) (.long z194)))), (h_by, .inl (cy_by, 600, .inl f_by))]) [0, 1] (by decide) rfl
                      have hKc := hK.sub (tys' := [(cy_by, .int)]) [0] rfl
                      have hFc := va_free (wc := [(h_rd, .inr (4, (mo29 vq281 (.ref h_by) (.int x_rd_length) (.int z191) (.int z192) (.int z193) (.long z194)))), (h_by, .inl (cy_by, 600, .inl f_by))]) hD hS hA [0, 1] rfl
                      refine va_callv (va_runV (As := []) (rest := []) ⟨hx, hb, hml, hown, hts⟩ (c_X5_nextToken l dC dI H.size h_rd h_by vq281 x_rd_length z191 z192 z193 z194 cy_by f_by G (by first | exact hx_rd_length | omega) (by first | exact k202 | omega) (by first | exact k203 | omega) hf_by (by first | exact k219 | omega) hn_byt) (cwV 0 hts (gv hT w_m_X5_40 w_instanceMethod_X5_nextToken ws_sel_X5_nextToken w_ini_X5 w_code_X5_nextToken) rfl rfl rfl (by decide +kernel) ⟨(by dsimp only [headSpec]; omega), (by dsimp only [headSpec]; omega)⟩) ⟨pre_blind, va_recv hK hP (ci := 4) (q0 := 0) rfl rfl, pre_of hPc hKc hDc hN⟩ rfl rfl hl.1 rfl (lv_room (Nat.le_of_ble_eq_true rfl)) dX5_readPart_207 ⟨(Nat.le_of_ble_eq_true rfl), (Nat.le_of_ble_eq_true rfl)⟩) hS (fun q _ h => hFc q h) hFc (fun u t H locs ht hvm hq hB hz1 hk1 hS9 => ?_)
                      obtain ⟨z283, z284, z285, z286⟩ := u
                      obtain ⟨hP1, hD1⟩ := hB
                      rw [ht] at hP1
                      obtain ⟨hP9, hD9⟩ := va_join (wr := [(h_kn, .inl (cy_kn, 8, .inl f195)), (h_td, .inr (5, (mo32 v_td (.ref h_nam) (.ref h_var) (.ref h_trm) (.ref h_ter) (.int z196)))), (h_nam, .inl (cy_nam, 300, .inr (.inl f197))), (h_var, .inl (cy_var, 300, .inl f198)), (h_trm, .inl (cy_trm, 300, .inl f236)), (h_ter, .inl (cy_ter, 900, .inl f233))]) (w1 := [(h_rd, .inr (4, (mo29 vq281 (.ref h_by) (.int x_rd_length) (.int z283) (.int z284) (.int z285) (.long z286)))), (h_by, .inl (cy_by, 600, .inl f_by))]) hP hD [0, 1] [2, 3, 4, 5, 6, 7] rfl rfl (by decide) (by decide) hk1 hFc hP1 hD1
                      clear hP hD hS hPc hDc hKc hFc hP1 hD1 hk1 hz1 ht hvm
                      have hP : va_P (dC, dI) cls [(h_kn, .inl (cy_kn, 8, .inl f195)), (h_td, .inr (5, (mo32 v_td (.ref h_nam) (.ref h_var) (.ref h_trm) (.ref h_ter) (.int z196)))), (h_nam, .inl (cy_nam, 300, .inr (.inl f197))), (h_var, .inl (cy_var, 300, .inl f198)), (h_trm, .inl (cy_trm, 300, .inl f236)), (h_ter, .inl (cy_ter, 900, .inl f233)), (h_rd, .inr (4, (mo29 vq281 (.ref h_by) (.int x_rd_length) (.int z283) (.int z284) (.int z285) (.long z286)))), (h_by, .inl (cy_by, 600, .inl f_by))] H := hP9
                      have hD : va_D A [(h_kn, .inl (cy_kn, 8, .inl f195)), (h_td, .inr (5, (mo32 v_td (.ref h_nam) (.ref h_var) (.ref h_trm) (.ref h_ter) (.int z196)))), (h_nam, .inl (cy_nam, 300, .inr (.inl f197))), (h_var, .inl (cy_var, 300, .inl f198)), (h_trm, .inl (cy_trm, 300, .inl f236)), (h_ter, .inl (cy_ter, 900, .inl f233)), (h_rd, .inr (4, (mo29 vq281 (.ref h_by) (.int x_rd_length) (.int z283) (.int z284) (.int z285) (.long z286)))), (h_by, .inl (cy_by, 600, .inl f_by))] := hD9
                      have hS := hS9
                      clear hP9 hD9 hS9
                      rw [evq281] at hP hD
                      replace hP : va_P (dC, dI) cls [(h_kn, .inl (cy_kn, 8, .inl f195)), (h_td, .inr (5, (mo32 v_td (.ref h_nam) (.ref h_var) (.ref h_trm) (.ref h_ter) (.int z196)))), (h_nam, .inl (cy_nam, 300, .inr (.inl f197))), (h_var, .inl (cy_var, 300, .inl f198)), (h_trm, .inl (cy_trm, 300, .inl f236)), (h_ter, .inl (cy_ter, 900, .inl f233)), (h_rd, .inr (4, (mo31 (.ref h_by) (.int x_rd_length) (.int z188) (.int z189) (.ref h_td) (.ref h_kn) (.int z190) (.int z283) (.int z284) (.int z285) (.long z286)))), (h_by, .inl (cy_by, 600, .inl f_by))] H := hP
                      replace hD : va_D A [(h_kn, .inl (cy_kn, 8, .inl f195)), (h_td, .inr (5, (mo32 v_td (.ref h_nam) (.ref h_var) (.ref h_trm) (.ref h_ter) (.int z196)))), (h_nam, .inl (cy_nam, 300, .inr (.inl f197))), (h_var, .inl (cy_var, 300, .inl f198)), (h_trm, .inl (cy_trm, 300, .inl f236)), (h_ter, .inl (cy_ter, 900, .inl f233)), (h_rd, .inr (4, (mo31 (.ref h_by) (.int x_rd_length) (.int z188) (.int z189) (.ref h_td) (.ref h_kn) (.int z190) (.int z283) (.int z284) (.int z285) (.long z286)))), (h_by, .inl (cy_by, 600, .inl f_by))] := hD
                      clear evq281 
                      obtain ⟨k287, k288, k289, k290, k291, k292, k293, k294, k295, k296, k297, k298⟩ := hq
                      replace k287 : 0 ≤ ((z283)).toInt ∧ ((z283)).toInt ≤ 600 := k287
                      replace k288 : 0 ≤ ((z284)).toInt ∧ ((z284)).toInt ≤ 600 := k288
                      replace k289 : ((z283)).toInt = tkS (G) ((x_rd_length)).toInt ((z192)).toInt := k289
                      replace k290 : ((z192)).toInt ≤ ((z283)).toInt := k290
                      replace k291 : ((z285)).toInt = tkT (G) ((x_rd_length)).toInt ((z283)).toInt := k291
                      replace k292 : ((z285)).toInt = -1 ∨ ((z284)).toInt = tkX (G) ((x_rd_length)).toInt ((z283)).toInt := k292
                      replace k293 : ¬ ((z285)).toInt = 257 ∨ ((z286)).toInt = (G) ((z283)).toInt := k293
                      replace k294 : -1 ≤ ((z285)).toInt ∧ ((z285)).toInt ≤ 258 := k294
                      replace k295 : ((z284)).toInt ≤ ((x_rd_length)).toInt := k295
                      replace k296 : ((z285)).toInt = -1 ∨ ((z283)).toInt < ((x_rd_length)).toInt := k296
                      replace k297 : ((z283)).toInt ≤ ((x_rd_length)).toInt := k297
                      replace k298 : NMT ((z285)).toInt ((z286)).toInt (NMI 32 (G) ((x_rd_length)).toInt ((z283)).toInt) := k298
                      have tn299b : (z192).toInt = tkX G (x_rd_length).toInt (z191).toInt := by omega
                      have tn299 : (z283).toInt = tkN G (x_rd_length).toInt (z191).toInt := by rw [k289, tn299b]; rfl
                      have tn299t : (z285).toInt = tkT G (x_rd_length).toInt (tkN G (x_rd_length).toInt (z191).toInt) := by rw [← tn299]; exact k291
                      have tn299g := tkN_gt (G := G) (n := (x_rd_length).toInt) (a := (z191).toInt) (by omega) (by omega) (by omega)
                      refine lv_goto (tgt := 218) hx hb dX5_readPart_210 (by decide) ?_
                      refine lv_iload_n hx hb dX5_readPart_218 rfl (lv_at hl 3 rfl) ?_
                      replace hP : va_P (dC, dI) cls [(h_rd, .inr (4, (mo31 (.ref h_by) (.int x_rd_length) (.int z188) (.int z189) (.ref h_td) (.ref h_kn) (.int z190) (.int z283) (.int z284) (.int z285) (.long z286)))), (h_by, .inl (cy_by, 600, .inl f_by)), (h_kn, .inl (cy_kn, 8, .inl f195)), (h_td, .inr (5, (mo32 v_td (.ref h_nam) (.ref h_var) (.ref h_trm) (.ref h_ter) (.int z196)))), (h_nam, .inl (cy_nam, 300, .inr (.inl f197))), (h_var, .inl (cy_var, 300, .inl f198)), (h_trm, .inl (cy_trm, 300, .inl f236)), (h_ter, .inl (cy_ter, 900, .inl f233))] H := hP.sub [6, 7, 0, 1, 2, 3, 4, 5] rfl
                      replace hD : va_D A [(h_rd, .inr (4, (mo31 (.ref h_by) (.int x_rd_length) (.int z188) (.int z189) (.ref h_td) (.ref h_kn) (.int z190) (.int z283) (.int z284) (.int z285) (.long z286)))), (h_by, .inl (cy_by, 600, .inl f_by)), (h_kn, .inl (cy_kn, 8, .inl f195)), (h_td, .inr (5, (mo32 v_td (.ref h_nam) (.ref h_var) (.ref h_trm) (.ref h_ter) (.int z196)))), (h_nam, .inl (cy_nam, 300, .inr (.inl f197))), (h_var, .inl (cy_var, 300, .inl f198)), (h_trm, .inl (cy_trm, 300, .inl f236)), (h_ter, .inl (cy_ter, 900, .inl f233))] := hD.sub [6, 7, 0, 1, 2, 3, 4, 5] (by decide) rfl
                      refine W.widen (k := 0) (n := 0) (Nat.le_of_ble_eq_true rfl) (Nat.le_of_ble_eq_true rfl) ?_
                      have w300 : 0 ≤ ((z190)).toInt ∧ ((z190)).toInt ≤ 8 := by first | exact k201 | omega
                      have w301 : 0 ≤ ((z283)).toInt ∧ ((z283)).toInt ≤ 600 := by first | exact k287 | omega
                      have w302 : 0 ≤ ((z284)).toInt ∧ ((z284)).toInt ≤ 600 := by first | exact k288 | omega
                      have w303 : 0 ≤ ((z196)).toInt ∧ ((z196)).toInt ≤ 300 := by first | exact k204 | omega
                      have w304 : 0 ≤ (r105 : Int32).toInt ∧ (r105 : Int32).toInt ≤ 299 := by first | exact k111 | omega
                      have w305 : ((z188)).toInt = ((pTm G (x_rd_length).toInt (pPs G (x_rd_length).toInt dd) (x_rd_at).toInt (x_rd_variables).toInt vf)).1 := by omega
                      have w306 : ((z283)).toInt = ((pTm G (x_rd_length).toInt (pPs G (x_rd_length).toInt dd) (x_rd_at).toInt (x_rd_variables).toInt vf)).2.1 := by omega
                      have w307 : ((z190)).toInt = ((pTm G (x_rd_length).toInt (pPs G (x_rd_length).toInt dd) (x_rd_at).toInt (x_rd_variables).toInt vf)).2.2.1 := by omega
                      have w308 : (((z188)).toInt = 0 ∧ ((z189)).toInt = (x_rd_place).toInt) ∨ (¬ ((z188)).toInt = 0 ∧ ((z189)).toInt = ((z283)).toInt) := by omega
                      have w309 : 2 * ((z196)).toInt ≤ ((z283)).toInt + 1 := by omega
                      have w310 : ((z285)).toInt < 256 ∨ 2 * ((z196)).toInt ≤ ((z283)).toInt := by omega
                      have w311 : (x_rd_at).toInt ≤ ((z283)).toInt := by omega
                      have w312 : (x_rd_variables).toInt ≤ ((z190)).toInt := by omega
                      have w313 : (x_td_parts).toInt ≤ ((z196)).toInt := by omega
                      have w314 : ((z285)).toInt = tkT G (x_rd_length).toInt ((z283)).toInt := by first | exact k291 | omega
                      have w315 : ((z285)).toInt = -1 ∨ ((z284)).toInt = tkX G (x_rd_length).toInt ((z283)).toInt := by first | exact k292 | omega
                      have w316 : ¬ ((z285)).toInt = 257 ∨ ((z286)).toInt = G ((z283)).toInt := by first | exact k293 | omega
                      have w317 : -1 ≤ ((z285)).toInt ∧ ((z285)).toInt ≤ 258 := by first | exact k294 | omega
                      have w318 : ((z284)).toInt ≤ (x_rd_length).toInt := by first | exact k295 | omega
                      have w319 : ((z285)).toInt = -1 ∨ ((z283)).toInt < (x_rd_length).toInt := by first | exact k296 | omega
                      have w320 : ((z283)).toInt ≤ (x_rd_length).toInt := by first | exact k297 | omega
                      have w321 : VFC ((z190)).toInt ((pTm G (x_rd_length).toInt (pPs G (x_rd_length).toInt dd) (x_rd_at).toInt (x_rd_variables).toInt vf)).2.2.2 (f195) (f197) ((z196)).toInt := (by rw [pq2804]; exact k222)
                      have w322 : VFV ((z190)).toInt (f195) (f198) ((z196)).toInt := k223
                      have w323 : NMT ((z285)).toInt ((z286)).toInt (NMI 32 G (x_rd_length).toInt ((z283)).toInt) := k298
                      have w324 : AGX (x_td_parts).toInt f_nam (f197) f_var (f198) f_trm (f236) f_ter (f233) := ac237
                      have w325 : KX (x_rd_variables).toInt (kfn f_kn) (kfn (f195)) := kk232
                      have w326 : TZG (f198) (f236) := (tz_trm k227 ef236 ow231.1)
                      have w327 : IFZ ((z188)).toInt (∃ L B : Nat, (L : Int) = (x_td_parts).toInt ∧ (B : Int) = ((z196)).toInt ∧ SPX G (x_rd_length).toInt 32 (CVW (f197) (f198) (f236) (f233)) ((z190)).toInt ((pTm G (x_rd_length).toInt (pPs G (x_rd_length).toInt dd) (x_rd_at).toInt (x_rd_variables).toInt vf)).2.2.2 (kfn (f195)) L B (dd + 1) (Int32.toNatClampNeg (r105 : Int32)) (x_rd_at).toInt ((z283)).toInt) := (ifz_yes (by rw [pq2804]; exact ⟨(x_td_parts).toInt.toNat, (z196).toInt.toNat, by omega, by omega, spx_terms (by omega) (by omega) (P0 := (z196).toInt) (by omega) (by omega) ow238 (by omega) pr240 (by omega) (by omega) (by omega) (by omega)⟩))
                      exact W.iret (v := r105) hx hb hr (fun t ht hW => ⟨⟨r105, (z188, z189, z190, z283, z284, z285, z286, f195, z196, f197, f198, f236, f233), rfl, ⟨w300, w301, w302, hf195, w303, hf198, hf236, hf233, w304, w305, w306, w307, w308, w309, w310, w311, w312, w313, w314, w315, w316, w317, w318, w319, w320, w321, w322, w323, w324, w325, w326, w327⟩, by rw [ht]; exact hP, hD⟩, hS.F ht⟩) hS.2.2 dX5_readPart_219
                · have kc239 := (not_congr (cv_eq (rfl : (z188).toInt = (z188).toInt) (by decide : (0 : Int32).toInt = 0))).mp c239
                  have no9 := pLo_no (G := G) (n := (x_rd_length).toInt) (P := (pPs G (x_rd_length).toInt d9)) (r := rr183) (q := (x153).toInt) (nv := (x152).toInt) (vf := gh158) (by rw [← erh229]; omega)
                  rw [← erh229] at no9
                  have rq9 : (pTm G (x_rd_length).toInt (pPs G (x_rd_length).toInt dd) (x_rd_at).toInt (x_rd_variables).toInt vf) = rh229 := klp159_21.symm.trans no9
                  have pq3281 : ((pTm G (x_rd_length).toInt (pPs G (x_rd_length).toInt dd) (x_rd_at).toInt (x_rd_variables).toInt vf)).1 = (rh229).1 := by rw [rq9]
                  have pq3282 : ((pTm G (x_rd_length).toInt (pPs G (x_rd_length).toInt dd) (x_rd_at).toInt (x_rd_variables).toInt vf)).2.1 = (rh229).2.1 := by rw [rq9]
                  have pq3283 : ((pTm G (x_rd_length).toInt (pPs G (x_rd_length).toInt dd) (x_rd_at).toInt (x_rd_variables).toInt vf)).2.2.1 = (rh229).2.2.1 := by rw [rq9]
                  have pq3284 : ((pTm G (x_rd_length).toInt (pPs G (x_rd_length).toInt dd) (x_rd_at).toInt (x_rd_variables).toInt vf)).2.2.2 = (rh229).2.2.2 := by rw [rq9]
                  refine lv_iload_n hx hb dX5_readPart_177 rfl (lv_at hl 3 rfl) ?_
                  refine W.widen (k := 0) (n := 0) (Nat.le_of_ble_eq_true rfl) (Nat.le_of_ble_eq_true rfl) ?_
                  have w329 : 0 ≤ ((z190)).toInt ∧ ((z190)).toInt ≤ 8 := by first | exact k201 | omega
                  have w330 : 0 ≤ ((z191)).toInt ∧ ((z191)).toInt ≤ 600 := by first | exact k202 | omega
                  have w331 : 0 ≤ ((z192)).toInt ∧ ((z192)).toInt ≤ 600 := by first | exact k203 | omega
                  have w332 : 0 ≤ ((z196)).toInt ∧ ((z196)).toInt ≤ 300 := by first | exact k204 | omega
                  have w333 : 0 ≤ (r105 : Int32).toInt ∧ (r105 : Int32).toInt ≤ 299 := by first | exact k111 | omega
                  have w334 : ((z188)).toInt = ((pTm G (x_rd_length).toInt (pPs G (x_rd_length).toInt dd) (x_rd_at).toInt (x_rd_variables).toInt vf)).1 := by omega
                  have w335 : ((z191)).toInt = ((pTm G (x_rd_length).toInt (pPs G (x_rd_length).toInt dd) (x_rd_at).toInt (x_rd_variables).toInt vf)).2.1 := by omega
                  have w336 : ((z190)).toInt = ((pTm G (x_rd_length).toInt (pPs G (x_rd_length).toInt dd) (x_rd_at).toInt (x_rd_variables).toInt vf)).2.2.1 := by omega
                  have w337 : (((z188)).toInt = 0 ∧ ((z189)).toInt = (x_rd_place).toInt) ∨ (¬ ((z188)).toInt = 0 ∧ ((z189)).toInt = ((z191)).toInt) := by omega
                  have w338 : 2 * ((z196)).toInt ≤ ((z191)).toInt + 1 := by first | exact k210 | omega
                  have w339 : ((z193)).toInt < 256 ∨ 2 * ((z196)).toInt ≤ ((z191)).toInt := by first | exact k211 | omega
                  have w340 : (x_rd_at).toInt ≤ ((z191)).toInt := by omega
                  have w341 : (x_rd_variables).toInt ≤ ((z190)).toInt := by omega
                  have w342 : (x_td_parts).toInt ≤ ((z196)).toInt := by omega
                  have w343 : ((z193)).toInt = tkT G (x_rd_length).toInt ((z191)).toInt := by first | exact k215 | omega
                  have w344 : ((z193)).toInt = -1 ∨ ((z192)).toInt = tkX G (x_rd_length).toInt ((z191)).toInt := by first | exact k216 | omega
                  have w345 : ¬ ((z193)).toInt = 257 ∨ ((z194)).toInt = G ((z191)).toInt := by first | exact k217 | omega
                  have w346 : -1 ≤ ((z193)).toInt ∧ ((z193)).toInt ≤ 258 := by first | exact k218 | omega
                  have w347 : ((z192)).toInt ≤ (x_rd_length).toInt := by first | exact k219 | omega
                  have w348 : ((z193)).toInt = -1 ∨ ((z191)).toInt < (x_rd_length).toInt := by first | exact k220 | omega
                  have w349 : ((z191)).toInt ≤ (x_rd_length).toInt := by first | exact k221 | omega
                  have w350 : VFC ((z190)).toInt ((pTm G (x_rd_length).toInt (pPs G (x_rd_length).toInt dd) (x_rd_at).toInt (x_rd_variables).toInt vf)).2.2.2 (f195) (f197) ((z196)).toInt := (by rw [pq3284]; exact k222)
                  have w351 : VFV ((z190)).toInt (f195) (f198) ((z196)).toInt := k223
                  have w352 : NMT ((z193)).toInt ((z194)).toInt (NMI 32 G (x_rd_length).toInt ((z191)).toInt) := k224
                  have w353 : AGX (x_td_parts).toInt f_nam (f197) f_var (f198) f_trm (f236) f_ter (f233) := ac237
                  have w354 : KX (x_rd_variables).toInt (kfn f_kn) (kfn (f195)) := kk232
                  have w355 : TZG (f198) (f236) := (tz_trm k227 ef236 ow231.1)
                  have w356 : IFZ ((z188)).toInt (∃ L B : Nat, (L : Int) = (x_td_parts).toInt ∧ (B : Int) = ((z196)).toInt ∧ SPX G (x_rd_length).toInt 32 (CVW (f197) (f198) (f236) (f233)) ((z190)).toInt ((pTm G (x_rd_length).toInt (pPs G (x_rd_length).toInt dd) (x_rd_at).toInt (x_rd_variables).toInt vf)).2.2.2 (kfn (f195)) L B (dd + 1) (Int32.toNatClampNeg (r105 : Int32)) (x_rd_at).toInt ((z191)).toInt) := (ifz_no (by omega))
                  exact W.iret (v := r105) hx hb hr (fun t ht hW => ⟨⟨r105, (z188, z189, z190, z191, z192, z193, z194, f195, z196, f197, f198, f236, f233), rfl, ⟨w329, w330, w331, hf195, w332, hf198, hf236, hf233, w333, w334, w335, w336, w337, w338, w339, w340, w341, w342, w343, w344, w345, w346, w347, w348, w349, w350, w351, w352, w353, w354, w355, w356⟩, by rw [ht]; exact hP, hD⟩, hS.F ht⟩) hS.2.2 dX5_readPart_178
              · have kc182 := (cv_eq (rfl : (x143).toInt = (x143).toInt) (by decide : (3 : Int32).toInt = 3)).mp c182
                obtain rfl : gh157 = 0 := by omega
                have pv9 : (pTm G (x_rd_length).toInt (pPs G (x_rd_length).toInt dd) (x_rd_at).toInt (x_rd_variables).toInt vf) = (2, tkN G (x_rd_length).toInt (x153).toInt, (x152).toInt, gh158) := klp159_21.symm.trans (pLo_many (by omega))
                have pq3571 : ((pTm G (x_rd_length).toInt (pPs G (x_rd_length).toInt dd) (x_rd_at).toInt (x_rd_variables).toInt vf)).1 = 2 := by rw [pv9]
                have pq3572 : ((pTm G (x_rd_length).toInt (pPs G (x_rd_length).toInt dd) (x_rd_at).toInt (x_rd_variables).toInt vf)).2.1 = tkN G (x_rd_length).toInt (x153).toInt := by rw [pv9]
                have pq3573 : ((pTm G (x_rd_length).toInt (pPs G (x_rd_length).toInt dd) (x_rd_at).toInt (x_rd_variables).toInt vf)).2.2.1 = (x152).toInt := by rw [pv9]
                have pq3574 : ((pTm G (x_rd_length).toInt (pPs G (x_rd_length).toInt dd) (x_rd_at).toInt (x_rd_variables).toInt vf)).2.2.2 = gh158 := by rw [pv9]
                refine lv_aload_n hx hb dX5_readPart_128 rfl (lv_at hl 0 rfl) ?_
                refine lv_iconst (v := 2) hx hb dX5_readPart_129 (by decide) ?_
                obtain ⟨vq358, evq358⟩ := mq31_27 (.ref h_by) (.int x_rd_length) (.ref h_td) (.ref h_kn) (.int x152) (.int z165) (.int z166) (.long z167)
                replace hP : va_P (dC, dI) cls [(h_kn, .inl (cy_kn, 8, .inl f144)), (h_ter, .inl (cy_ter, 900, .inl f145)), (h_td, .inr (5, (mo32 v_td (.ref h_nam) (.ref h_var) (.ref h_trm) (.ref h_ter) (.int x146)))), (h_nam, .inl (cy_nam, 300, .inr (.inl f147))), (h_var, .inl (cy_var, 300, .inl f148)), (h_trm, .inl (cy_trm, 300, .inl f149)), (h_rd, .inr (4, (mo27 vq358 (.int x150) (.int x151) (.int z164)))), (h_by, .inl (cy_by, 600, .inl f_by))] H := by rw [evq358]; exact hP
                replace hD : va_D A [(h_kn, .inl (cy_kn, 8, .inl f144)), (h_ter, .inl (cy_ter, 900, .inl f145)), (h_td, .inr (5, (mo32 v_td (.ref h_nam) (.ref h_var) (.ref h_trm) (.ref h_ter) (.int x146)))), (h_nam, .inl (cy_nam, 300, .inr (.inl f147))), (h_var, .inl (cy_var, 300, .inl f148)), (h_trm, .inl (cy_trm, 300, .inl f149)), (h_rd, .inr (4, (mo27 vq358 (.int x150) (.int x151) (.int z164)))), (h_by, .inl (cy_by, 600, .inl f_by))] := by rw [evq358]; exact hD
                have cst2 : (2 : Int32).toInt = 2 := by decide
                have hPc := hP.sub (ws' := [(h_rd, .inr (4, (mo27 vq358 (.int x150) (.int x151) (.int z164))))]) [6] rfl
                have hDc := hD.sub (ws' := [(h_rd, .inr (4, (mo27 vq358 (.int x150) (.int x151) (.int z164))))]) [6] (by decide) rfl
                have hKc := hK.sub (tys' := []) [] rfl
                have hFc := va_free (wc := [(h_rd, .inr (4, (mo27 vq358 (.int x150) (.int x151) (.int z164))))]) hD hS hA [6] rfl
                refine va_callv (va_runV (As := [.int 2]) (rest := []) ⟨hx, hb, hml, hown, hts⟩ (c_X5_blame l dC dI H.size h_rd vq358 x150 x151 z164 2 (by first | exact k168 | omega)) (cwV 1 hts (gv hT w_m_X5_56 w_instanceMethod_X5_blame ws_sel_X5_blame w_ini_X5 w_code_X5_blame) rfl rfl rfl (by decide +kernel) ⟨(by dsimp only [headSpec]; omega), (by dsimp only [headSpec]; omega)⟩) ⟨pre_blind, va_recv hK hP (ci := 4) (q0 := 6) rfl rfl, pre_of hPc hKc hDc hN⟩ rfl rfl hl.1 rfl (lv_room (Nat.le_of_ble_eq_true rfl)) dX5_readPart_130 ⟨(Nat.le_of_ble_eq_true rfl), (Nat.le_of_ble_eq_true rfl)⟩) hS (fun q _ h => hFc q h) hFc (fun u t H locs ht hvm hq hB hz1 hk1 hS9 => ?_)
                obtain ⟨z360, z361⟩ := u
                obtain ⟨hP1, hD1⟩ := hB
                rw [ht] at hP1
                obtain ⟨hP9, hD9⟩ := va_join (wr := [(h_kn, .inl (cy_kn, 8, .inl f144)), (h_ter, .inl (cy_ter, 900, .inl f145)), (h_td, .inr (5, (mo32 v_td (.ref h_nam) (.ref h_var) (.ref h_trm) (.ref h_ter) (.int x146)))), (h_nam, .inl (cy_nam, 300, .inr (.inl f147))), (h_var, .inl (cy_var, 300, .inl f148)), (h_trm, .inl (cy_trm, 300, .inl f149)), (h_by, .inl (cy_by, 600, .inl f_by))]) (w1 := [(h_rd, .inr (4, (mo27 vq358 (.int z360) (.int z361) (.int z164))))]) hP hD [6] [0, 1, 2, 3, 4, 5, 7] rfl rfl (by decide) (by decide) hk1 hFc hP1 hD1
                clear hP hD hS hPc hDc hKc hFc hP1 hD1 hk1 hz1 ht hvm
                have hP : va_P (dC, dI) cls [(h_kn, .inl (cy_kn, 8, .inl f144)), (h_ter, .inl (cy_ter, 900, .inl f145)), (h_td, .inr (5, (mo32 v_td (.ref h_nam) (.ref h_var) (.ref h_trm) (.ref h_ter) (.int x146)))), (h_nam, .inl (cy_nam, 300, .inr (.inl f147))), (h_var, .inl (cy_var, 300, .inl f148)), (h_trm, .inl (cy_trm, 300, .inl f149)), (h_by, .inl (cy_by, 600, .inl f_by)), (h_rd, .inr (4, (mo27 vq358 (.int z360) (.int z361) (.int z164))))] H := hP9
                have hD : va_D A [(h_kn, .inl (cy_kn, 8, .inl f144)), (h_ter, .inl (cy_ter, 900, .inl f145)), (h_td, .inr (5, (mo32 v_td (.ref h_nam) (.ref h_var) (.ref h_trm) (.ref h_ter) (.int x146)))), (h_nam, .inl (cy_nam, 300, .inr (.inl f147))), (h_var, .inl (cy_var, 300, .inl f148)), (h_trm, .inl (cy_trm, 300, .inl f149)), (h_by, .inl (cy_by, 600, .inl f_by)), (h_rd, .inr (4, (mo27 vq358 (.int z360) (.int z361) (.int z164))))] := hD9
                have hS := hS9
                clear hP9 hD9 hS9
                rw [evq358] at hP hD
                replace hP : va_P (dC, dI) cls [(h_kn, .inl (cy_kn, 8, .inl f144)), (h_ter, .inl (cy_ter, 900, .inl f145)), (h_td, .inr (5, (mo32 v_td (.ref h_nam) (.ref h_var) (.ref h_trm) (.ref h_ter) (.int x146)))), (h_nam, .inl (cy_nam, 300, .inr (.inl f147))), (h_var, .inl (cy_var, 300, .inl f148)), (h_trm, .inl (cy_trm, 300, .inl f149)), (h_by, .inl (cy_by, 600, .inl f_by)), (h_rd, .inr (4, (mo31 (.ref h_by) (.int x_rd_length) (.int z360) (.int z361) (.ref h_td) (.ref h_kn) (.int x152) (.int z164) (.int z165) (.int z166) (.long z167))))] H := hP
                replace hD : va_D A [(h_kn, .inl (cy_kn, 8, .inl f144)), (h_ter, .inl (cy_ter, 900, .inl f145)), (h_td, .inr (5, (mo32 v_td (.ref h_nam) (.ref h_var) (.ref h_trm) (.ref h_ter) (.int x146)))), (h_nam, .inl (cy_nam, 300, .inr (.inl f147))), (h_var, .inl (cy_var, 300, .inl f148)), (h_trm, .inl (cy_trm, 300, .inl f149)), (h_by, .inl (cy_by, 600, .inl f_by)), (h_rd, .inr (4, (mo31 (.ref h_by) (.int x_rd_length) (.int z360) (.int z361) (.ref h_td) (.ref h_kn) (.int x152) (.int z164) (.int z165) (.int z166) (.long z167))))] := hD
                clear evq358 
                obtain ⟨k362, k363⟩ := hq
                replace k362 : ((z360)).toInt = ((2 : Int32)).toInt := k362
                replace k363 : ((z361)).toInt = ((z164)).toInt := k363
                refine lv_goto (tgt := 170) hx hb dX5_readPart_133 (by decide) ?_
                refine lv_aload_n hx hb dX5_readPart_170 rfl (lv_at hl 0 rfl) ?_
                refine va_get (D := (dC, dI)) (ci := 4) (v := .int z360) (C := RX5) (T := TX5) (N := 11) hx hb hw iwX5 hown hK hP 7 rfl rfl 2 (by decide) (hw _ w_f_X5_34) (fun _ h9 => h9) rfl dX5_readPart_171 ?_
                refine lv_if_eq (tgt := 179) hx hb dX5_readPart_174 (by decide) (fun c364 => False.elim (by have kc364 := (cv_eq (rfl : (z360).toInt = (z360).toInt) (by decide : (0 : Int32).toInt = 0)).mp c364; omega)) (fun _ => ?_)
                refine lv_iload_n hx hb dX5_readPart_177 rfl (lv_at hl 3 rfl) ?_
                replace hP : va_P (dC, dI) cls [(h_rd, .inr (4, (mo31 (.ref h_by) (.int x_rd_length) (.int z360) (.int z361) (.ref h_td) (.ref h_kn) (.int x152) (.int z164) (.int z165) (.int z166) (.long z167)))), (h_by, .inl (cy_by, 600, .inl f_by)), (h_kn, .inl (cy_kn, 8, .inl f144)), (h_td, .inr (5, (mo32 v_td (.ref h_nam) (.ref h_var) (.ref h_trm) (.ref h_ter) (.int x146)))), (h_nam, .inl (cy_nam, 300, .inr (.inl f147))), (h_var, .inl (cy_var, 300, .inl f148)), (h_trm, .inl (cy_trm, 300, .inl f149)), (h_ter, .inl (cy_ter, 900, .inl f145))] H := hP.sub [7, 6, 0, 2, 3, 4, 5, 1] rfl
                replace hD : va_D A [(h_rd, .inr (4, (mo31 (.ref h_by) (.int x_rd_length) (.int z360) (.int z361) (.ref h_td) (.ref h_kn) (.int x152) (.int z164) (.int z165) (.int z166) (.long z167)))), (h_by, .inl (cy_by, 600, .inl f_by)), (h_kn, .inl (cy_kn, 8, .inl f144)), (h_td, .inr (5, (mo32 v_td (.ref h_nam) (.ref h_var) (.ref h_trm) (.ref h_ter) (.int x146)))), (h_nam, .inl (cy_nam, 300, .inr (.inl f147))), (h_var, .inl (cy_var, 300, .inl f148)), (h_trm, .inl (cy_trm, 300, .inl f149)), (h_ter, .inl (cy_ter, 900, .inl f145))] := hD.sub [7, 6, 0, 2, 3, 4, 5, 1] (by decide) rfl
                refine W.widen (k := 0) (n := 0) (Nat.le_of_ble_eq_true rfl) (Nat.le_of_ble_eq_true rfl) ?_
                have w365 : 0 ≤ ((x152)).toInt ∧ ((x152)).toInt ≤ 8 := by first | exact klp159_6 | omega
                have w366 : 0 ≤ ((z164)).toInt ∧ ((z164)).toInt ≤ 600 := by first | exact k168 | omega
                have w367 : 0 ≤ ((z165)).toInt ∧ ((z165)).toInt ≤ 600 := by first | exact k169 | omega
                have w368 : 0 ≤ ((x146)).toInt ∧ ((x146)).toInt ≤ 300 := by first | exact klp159_3 | omega
                have w369 : 0 ≤ (r105 : Int32).toInt ∧ (r105 : Int32).toInt ≤ 299 := by first | exact k111 | omega
                have w370 : ((z360)).toInt = ((pTm G (x_rd_length).toInt (pPs G (x_rd_length).toInt dd) (x_rd_at).toInt (x_rd_variables).toInt vf)).1 := by omega
                have w371 : ((z164)).toInt = ((pTm G (x_rd_length).toInt (pPs G (x_rd_length).toInt dd) (x_rd_at).toInt (x_rd_variables).toInt vf)).2.1 := by omega
                have w372 : ((x152)).toInt = ((pTm G (x_rd_length).toInt (pPs G (x_rd_length).toInt dd) (x_rd_at).toInt (x_rd_variables).toInt vf)).2.2.1 := by omega
                have w373 : (((z360)).toInt = 0 ∧ ((z361)).toInt = (x_rd_place).toInt) ∨ (¬ ((z360)).toInt = 0 ∧ ((z361)).toInt = ((z164)).toInt) := by omega
                have w374 : 2 * ((x146)).toInt ≤ ((z164)).toInt + 1 := by omega
                have w375 : ((z166)).toInt < 256 ∨ 2 * ((x146)).toInt ≤ ((z164)).toInt := by omega
                have w376 : (x_rd_at).toInt ≤ ((z164)).toInt := by omega
                have w377 : (x_rd_variables).toInt ≤ ((x152)).toInt := by first | exact klp159_18 | omega
                have w378 : (x_td_parts).toInt ≤ ((x146)).toInt := by omega
                have w379 : ((z166)).toInt = tkT G (x_rd_length).toInt ((z164)).toInt := by first | exact k172 | omega
                have w380 : ((z166)).toInt = -1 ∨ ((z165)).toInt = tkX G (x_rd_length).toInt ((z164)).toInt := by omega
                have w381 : ¬ ((z166)).toInt = 257 ∨ ((z167)).toInt = G ((z164)).toInt := by omega
                have w382 : -1 ≤ ((z166)).toInt ∧ ((z166)).toInt ≤ 258 := by first | exact k175 | omega
                have w383 : ((z165)).toInt ≤ (x_rd_length).toInt := by first | exact k176 | omega
                have w384 : ((z166)).toInt = -1 ∨ ((z164)).toInt < (x_rd_length).toInt := by omega
                have w385 : ((z164)).toInt ≤ (x_rd_length).toInt := by first | exact k178 | omega
                have w386 : VFC ((x152)).toInt ((pTm G (x_rd_length).toInt (pPs G (x_rd_length).toInt dd) (x_rd_at).toInt (x_rd_variables).toInt vf)).2.2.2 (f144) (f147) ((x146)).toInt := (by rw [pq3574]; exact klp159_22)
                have w387 : VFV ((x152)).toInt (f144) (f148) ((x146)).toInt := klp159_23
                have w388 : NMT ((z166)).toInt ((z167)).toInt (NMI 32 G (x_rd_length).toInt ((z164)).toInt) := k179
                have w389 : AGX (x_td_parts).toInt f_nam (f147) f_var (f148) f_trm (f149) f_ter (f145) := klp159_25
                have w390 : KX (x_rd_variables).toInt (kfn f_kn) (kfn (f144)) := klp159_27
                have w391 : TZG (f148) (f149) := klp159_28
                have w392 : IFZ ((z360)).toInt (∃ L B : Nat, (L : Int) = (x_td_parts).toInt ∧ (B : Int) = ((x146)).toInt ∧ SPX G (x_rd_length).toInt 32 (CVW (f147) (f148) (f149) (f145)) ((x152)).toInt ((pTm G (x_rd_length).toInt (pPs G (x_rd_length).toInt dd) (x_rd_at).toInt (x_rd_variables).toInt vf)).2.2.2 (kfn (f144)) L B (dd + 1) (Int32.toNatClampNeg (r105 : Int32)) (x_rd_at).toInt ((z164)).toInt) := (ifz_no (by omega))
                exact W.iret (v := r105) hx hb hr (fun t ht hW => ⟨⟨r105, (z360, z361, x152, z164, z165, z166, z167, f144, x146, f147, f148, f149, f145), rfl, ⟨w365, w366, w367, hf144, w368, hf148, hf149, hf145, w369, w370, w371, w372, w373, w374, w375, w376, w377, w378, w379, w380, w381, w382, w383, w384, w385, w386, w387, w388, w389, w390, w391, w392⟩, by rw [ht]; exact hP, hD⟩, hS.F ht⟩) hS.2.2 dX5_readPart_178
            · have kc181 := (not_congr (cv_eq (rfl : (z166).toInt = (z166).toInt) (by decide : (256 : Int32).toInt = 256))).mp c181
              refine lv_aload_n hx hb dX5_readPart_104 rfl (lv_at hl 0 rfl) ?_
              refine va_get (D := (dC, dI)) (ci := 4) (v := .int z166) (C := RX5) (T := TX5) (N := 11) hx hb hw iwX5 hown hK hP 6 rfl rfl 9 (by decide) (hw _ w_f_X5_43) (fun _ h9 => h9) rfl dX5_readPart_105 ?_
              refine lv_sipush (v := 257) hx hb dX5_readPart_108 (by decide) ?_
              refine lv_icmp_eq (tgt := 122) hx hb dX5_readPart_111 (by decide) (fun c393 => ?_) (fun c393 => ?_)
              · have kc393 := (cv_eq (rfl : (z166).toInt = (z166).toInt) (by decide : (257 : Int32).toInt = 257)).mp c393
                replace k173 := Or.resolve_left k173 (by omega)
                replace k174 := Or.resolve_left k174 (fun h9 => h9 (by omega))
                replace k177 := Or.resolve_left k177 (by omega)
                refine lv_iload hx hb dX5_readPart_122 (lv_at hl 4 rfl) ?_
                refine lv_iconst (v := 3) hx hb dX5_readPart_124 (by decide) ?_
                refine lv_icmp_ne (tgt := 136) hx hb dX5_readPart_125 (by decide) (fun c394 => ?_) (fun c394 => ?_)
                · have kc394 := (not_congr (cv_eq (rfl : (x143).toInt = (x143).toInt) (by decide : (3 : Int32).toInt = 3))).mp c394
                  obtain ⟨rr395, rfl⟩ : ∃ y : Nat, gh157 = y + 1 := ⟨gh157 - 1, by omega⟩
                  refine lv_aload_n hx hb dX5_readPart_136 rfl (lv_at hl 0 rfl) ?_
                  refine va_get (D := (dC, dI)) (ci := 4) (v := .ref h_td) (C := RX5) (T := TX5) (N := 11) hx hb hw iwX5 hown hK hP 6 rfl rfl 4 (by decide) (hw _ w_f_X5_25) (fun _ h9 => h9) rfl dX5_readPart_137 ?_
                  refine va_getN (D := (dC, dI)) (ci := 5) (v := .ref h_ter) (C := RX8) (T := TX8) (N := 10) (host := "OppositePairs") hx hb hw iwX8 hown hK hP 2 rfl rfl 3 (by decide) (hN.use n_f_X5_97 rfl) (fun _ h9 => h9) rfl dX5_readPart_140 ?_
                  refine lv_iload_n hx hb dX5_readPart_143 rfl (lv_at hl 3 rfl) ?_
                  refine lv_iconst (v := 3) hx hb dX5_readPart_144 (by decide) ?_
                  refine lv_imul hx hb dX5_readPart_145 ?_
                  refine lv_topi (fun z396 ez396 => ?_)
                  have tz396 : (z396).toInt = (r105).toInt * 3 := by rw [ez396]; exact i_mul rfl (by decide) (by omega)
                  refine lv_iload hx hb dX5_readPart_146 (lv_at hl 4 rfl) ?_
                  refine lv_iadd hx hb dX5_readPart_148 ?_
                  refine lv_topi (fun z397 ez397 => ?_)
                  have tz397 : (z397).toInt = (z396).toInt + (x143).toInt := by rw [ez397]; exact i_add rfl rfl (by omega)
                  refine lv_aload_n hx hb dX5_readPart_149 rfl (lv_at hl 0 rfl) ?_
                  refine lv_iload_n hx hb dX5_readPart_150 rfl (lv_at hl 1 rfl) ?_
                  refine lv_iconst (v := 1) hx hb dX5_readPart_151 (by decide) ?_
                  refine lv_iadd hx hb dX5_readPart_152 ?_
                  refine lv_topi (fun z398 ez398 => ?_)
                  have tz398 : (z398).toInt = (p1).toInt + 1 := by rw [ez398]; exact i_add rfl (by decide) (by omega)
                  have hPc := hP.sub (ws' := [(h_rd, .inr (4, (mo31 (.ref h_by) (.int x_rd_length) (.int x150) (.int x151) (.ref h_td) (.ref h_kn) (.int x152) (.int z164) (.int z165) (.int z166) (.long z167)))), (h_by, .inl (cy_by, 600, .inl f_by)), (h_kn, .inl (cy_kn, 8, .inl f144)), (h_td, .inr (5, (mo32 v_td (.ref h_nam) (.ref h_var) (.ref h_trm) (.ref h_ter) (.int x146)))), (h_nam, .inl (cy_nam, 300, .inr (.inl f147))), (h_var, .inl (cy_var, 300, .inl f148)), (h_trm, .inl (cy_trm, 300, .inl f149)), (h_ter, .inl (cy_ter, 900, .inl f145))]) [6, 7, 0, 2, 3, 4, 5, 1] rfl
                  have hDc := hD.sub (ws' := [(h_rd, .inr (4, (mo31 (.ref h_by) (.int x_rd_length) (.int x150) (.int x151) (.ref h_td) (.ref h_kn) (.int x152) (.int z164) (.int z165) (.int z166) (.long z167)))), (h_by, .inl (cy_by, 600, .inl f_by)), (h_kn, .inl (cy_kn, 8, .inl f144)), (h_td, .inr (5, (mo32 v_td (.ref h_nam) (.ref h_var) (.ref h_trm) (.ref h_ter) (.int x146)))), (h_nam, .inl (cy_nam, 300, .inr (.inl f147))), (h_var, .inl (cy_var, 300, .inl f148)), (h_trm, .inl (cy_trm, 300, .inl f149)), (h_ter, .inl (cy_ter, 900, .inl f145))]) [6, 7, 0, 2, 3, 4, 5, 1] (by decide) rfl
                  have hKc := hK.sub (tys' := [(cy_by, .int), (cy_kn, .int), (cy_nam, .long), (cy_var, .int), (cy_trm, .int), (cy_ter, .int)]) [0, 1, 2, 3, 4, 5] rfl
                  have hFc := va_free (wc := [(h_rd, .inr (4, (mo31 (.ref h_by) (.int x_rd_length) (.int x150) (.int x151) (.ref h_td) (.ref h_kn) (.int x152) (.int z164) (.int z165) (.int z166) (.long z167)))), (h_by, .inl (cy_by, 600, .inl f_by)), (h_kn, .inl (cy_kn, 8, .inl f144)), (h_td, .inr (5, (mo32 v_td (.ref h_nam) (.ref h_var) (.ref h_trm) (.ref h_ter) (.int x146)))), (h_nam, .inl (cy_nam, 300, .inr (.inl f147))), (h_var, .inl (cy_var, 300, .inl f148)), (h_trm, .inl (cy_trm, 300, .inl f149)), (h_ter, .inl (cy_ter, 900, .inl f145))]) hD hS hA [6, 7, 0, 2, 3, 4, 5, 1] rfl
                  refine va_calli (va_runV (As := [.int z398]) (rest := [.int z397, .ref h_ter]) ⟨hx, hb, hml, hown, hts⟩ (ihf dC dI H.size h_rd h_by h_kn h_td h_nam h_var h_trm h_ter x_rd_length x150 x151 x152 z164 z165 z166 z167 cy_by f_by cy_kn f144 v_td x146 cy_nam f147 cy_var f148 cy_trm f149 cy_ter f145 z398 G gh158 d9 (by first | exact hx_rd_length | omega) (by first | exact klp159_6 | omega) (by first | exact k168 | omega) (by first | exact k169 | omega) hf_by hf144 (by first | exact klp159_3 | omega) hf148 hf149 hf145 (by first | exact k172 | omega) (by omega) (by omega) (by omega) (by omega) (by omega) (by omega) (by first | exact k176 | omega) (by omega) (by omega) (by omega) hn_byt klp159_22 klp159_23 klp159_28 k179) (cwV 1 hts (gv hT w_m_X5_81 w_instanceMethod_X5_readPart ws_sel_X5_readPart w_ini_X5 w_code_X5_readPart) rfl rfl rfl (by decide +kernel) ⟨(by dsimp only [headSpec]; omega), (by dsimp only [headSpec]; omega)⟩) ⟨pre_blind, va_recv hK hP (ci := 4) (q0 := 6) rfl rfl, pre_of hPc hKc hDc hN⟩ rfl rfl hl.1 rfl (lv_room (Nat.le_of_ble_eq_true rfl)) dX5_readPart_153 ⟨(Nat.le_of_ble_eq_true rfl), (Nat.le_of_ble_eq_true rfl)⟩) hS (fun q _ h => hFc q h) hFc (fun r399 u t H locs ht hvm hq hB hz1 hk1 hS9 => ?_)
                  obtain ⟨z400, z401, z402, z403, z404, z405, z406, f407, z408, f409, f410, f411, f412⟩ := u
                  obtain ⟨hP1, hD1⟩ := hB
                  rw [ht] at hP1
                  obtain ⟨hP9, hD9⟩ := va_join (wr := []) (w1 := [(h_rd, .inr (4, (mo31 (.ref h_by) (.int x_rd_length) (.int z400) (.int z401) (.ref h_td) (.ref h_kn) (.int z402) (.int z403) (.int z404) (.int z405) (.long z406)))), (h_by, .inl (cy_by, 600, .inl f_by)), (h_kn, .inl (cy_kn, 8, .inl f407)), (h_td, .inr (5, (mo32 v_td (.ref h_nam) (.ref h_var) (.ref h_trm) (.ref h_ter) (.int z408)))), (h_nam, .inl (cy_nam, 300, .inr (.inl f409))), (h_var, .inl (cy_var, 300, .inl f410)), (h_trm, .inl (cy_trm, 300, .inl f411)), (h_ter, .inl (cy_ter, 900, .inl f412))]) hP hD [6, 7, 0, 2, 3, 4, 5, 1] [] rfl rfl (by decide) (by decide) hk1 hFc hP1 hD1
                  clear hP hD hS hPc hDc hKc hFc hP1 hD1 hk1 hz1 ht hvm
                  have hP : va_P (dC, dI) cls [(h_rd, .inr (4, (mo31 (.ref h_by) (.int x_rd_length) (.int z400) (.int z401) (.ref h_td) (.ref h_kn) (.int z402) (.int z403) (.int z404) (.int z405) (.long z406)))), (h_by, .inl (cy_by, 600, .inl f_by)), (h_kn, .inl (cy_kn, 8, .inl f407)), (h_td, .inr (5, (mo32 v_td (.ref h_nam) (.ref h_var) (.ref h_trm) (.ref h_ter) (.int z408)))), (h_nam, .inl (cy_nam, 300, .inr (.inl f409))), (h_var, .inl (cy_var, 300, .inl f410)), (h_trm, .inl (cy_trm, 300, .inl f411)), (h_ter, .inl (cy_ter, 900, .inl f412))] H := hP9
                  have hD : va_D A [(h_rd, .inr (4, (mo31 (.ref h_by) (.int x_rd_length) (.int z400) (.int z401) (.ref h_td) (.ref h_kn) (.int z402) (.int z403) (.int z404) (.int z405) (.long z406)))), (h_by, .inl (cy_by, 600, .inl f_by)), (h_kn, .inl (cy_kn, 8, .inl f407)), (h_td, .inr (5, (mo32 v_td (.ref h_nam) (.ref h_var) (.ref h_trm) (.ref h_ter) (.int z408)))), (h_nam, .inl (cy_nam, 300, .inr (.inl f409))), (h_var, .inl (cy_var, 300, .inl f410)), (h_trm, .inl (cy_trm, 300, .inl f411)), (h_ter, .inl (cy_ter, 900, .inl f412))] := hD9
                  have hS := hS9
                  clear hP9 hD9 hS9
                  obtain ⟨k413, k414, k415, hf407, k416, hf410, hf411, hf412, k417, k418, k419, k420, k421, k422, k423, k424, k425, k426, k427, k428, k429, k430, k431, k432, k433, k434, k435, k436, k437, k438, k439, k440⟩ := hq
                  replace k413 : 0 ≤ ((z402)).toInt ∧ ((z402)).toInt ≤ 8 := k413
                  replace k414 : 0 ≤ ((z403)).toInt ∧ ((z403)).toInt ≤ 600 := k414
                  replace k415 : 0 ≤ ((z404)).toInt ∧ ((z404)).toInt ≤ 600 := k415
                  replace hf407 : Rg 0 299 (f407) := hf407
                  replace k416 : 0 ≤ ((z408)).toInt ∧ ((z408)).toInt ≤ 300 := k416
                  replace hf410 : Rg (-1) 7 (f410) := hf410
                  replace hf411 : Rg 0 3 (f411) := hf411
                  replace hf412 : Rg 0 299 (f412) := hf412
                  replace k417 : 0 ≤ (r399).toInt ∧ (r399).toInt ≤ 299 := k417
                  replace k418 : ((z400)).toInt = ((pTm (G) ((x_rd_length)).toInt (pPs (G) ((x_rd_length)).toInt (d9)) ((z164)).toInt ((x152)).toInt (gh158))).1 := k418
                  replace k419 : ((z403)).toInt = ((pTm (G) ((x_rd_length)).toInt (pPs (G) ((x_rd_length)).toInt (d9)) ((z164)).toInt ((x152)).toInt (gh158))).2.1 := k419
                  replace k420 : ((z402)).toInt = ((pTm (G) ((x_rd_length)).toInt (pPs (G) ((x_rd_length)).toInt (d9)) ((z164)).toInt ((x152)).toInt (gh158))).2.2.1 := k420
                  replace k421 : (((z400)).toInt = 0 ∧ ((z401)).toInt = ((x151)).toInt) ∨ (¬ ((z400)).toInt = 0 ∧ ((z401)).toInt = ((z403)).toInt) := k421
                  replace k422 : 2 * ((z408)).toInt ≤ ((z403)).toInt + 1 := k422
                  replace k423 : ((z405)).toInt < 256 ∨ 2 * ((z408)).toInt ≤ ((z403)).toInt := k423
                  replace k424 : ((z164)).toInt ≤ ((z403)).toInt := k424
                  replace k425 : ((x152)).toInt ≤ ((z402)).toInt := k425
                  replace k426 : ((x146)).toInt ≤ ((z408)).toInt := k426
                  replace k427 : ((z405)).toInt = tkT (G) ((x_rd_length)).toInt ((z403)).toInt := k427
                  replace k428 : ((z405)).toInt = -1 ∨ ((z404)).toInt = tkX (G) ((x_rd_length)).toInt ((z403)).toInt := k428
                  replace k429 : ¬ ((z405)).toInt = 257 ∨ ((z406)).toInt = (G) ((z403)).toInt := k429
                  replace k430 : -1 ≤ ((z405)).toInt ∧ ((z405)).toInt ≤ 258 := k430
                  replace k431 : ((z404)).toInt ≤ ((x_rd_length)).toInt := k431
                  replace k432 : ((z405)).toInt = -1 ∨ ((z403)).toInt < ((x_rd_length)).toInt := k432
                  replace k433 : ((z403)).toInt ≤ ((x_rd_length)).toInt := k433
                  replace k434 : VFC ((z402)).toInt ((pTm (G) ((x_rd_length)).toInt (pPs (G) ((x_rd_length)).toInt (d9)) ((z164)).toInt ((x152)).toInt (gh158))).2.2.2 (f407) (f409) ((z408)).toInt := k434
                  replace k435 : VFV ((z402)).toInt (f407) (f410) ((z408)).toInt := k435
                  replace k436 : NMT ((z405)).toInt ((z406)).toInt (NMI 32 (G) ((x_rd_length)).toInt ((z403)).toInt) := k436
                  replace k437 : AGX ((x146)).toInt (f147) (f409) (f148) (f410) (f149) (f411) (f145) (f412) := k437
                  replace k438 : KX ((x152)).toInt (kfn (f144)) (kfn (f407)) := k438
                  replace k439 : TZG (f410) (f411) := k439
                  replace k440 : IFZ ((z400)).toInt (∃ L B : Nat, (L : Int) = ((x146)).toInt ∧ (B : Int) = ((z408)).toInt ∧ SPX (G) ((x_rd_length)).toInt 32 (CVW (f409) (f410) (f411) (f412)) ((z402)).toInt ((pTm (G) ((x_rd_length)).toInt (pPs (G) ((x_rd_length)).toInt (d9)) ((z164)).toInt ((x152)).toInt (gh158))).2.2.2 (kfn (f407)) L B ((d9) + 1) (Int32.toNatClampNeg (r399)) ((z164)).toInt ((z403)).toInt) := k440
                  obtain ⟨rh441, erh441⟩ : ∃ x : PR, x = (pTm (G) ((x_rd_length)).toInt (pPs (G) ((x_rd_length)).toInt (d9)) ((z164)).toInt ((x152)).toInt (gh158)) := ⟨_, rfl⟩
                  rw [← erh441] at k418 k419 k420 k434 k440
                  rw [tn180] at erh441
                  rw [tn180, ← hd9] at k440
                  have ac442 : AGX (x_td_parts).toInt f_nam f409 f_var f410 f_trm f411 f_ter f412 := agc_tr klp159_25 k437 (by omega)
                  have ow443 := own_agc klp159_26 k437 (by omega) (by omega)
                  have kk444 : KX (x_rd_variables).toInt (kfn f_kn) (kfn f407) := kx_tr klp159_27 k438 (by omega)
                  refine va_iast hx hb hK hP hD hS 7 5 rfl rfl (i := z397) (x := r399) (vp_in_iff.mpr (by omega)) dX5_readPart_156 (fun H locs hP9 hD9 hS9 => ?_)
                  obtain ⟨f445, ef445⟩ : ∃ g : Nat → Int32, g = upd f412 (Int32.toNatClampNeg z397) r399 := ⟨_, rfl⟩
                  clear hP hD hS
                  have hP : va_P (dC, dI) cls [(h_rd, .inr (4, (mo31 (.ref h_by) (.int x_rd_length) (.int z400) (.int z401) (.ref h_td) (.ref h_kn) (.int z402) (.int z403) (.int z404) (.int z405) (.long z406)))), (h_by, .inl (cy_by, 600, .inl f_by)), (h_kn, .inl (cy_kn, 8, .inl f407)), (h_td, .inr (5, (mo32 v_td (.ref h_nam) (.ref h_var) (.ref h_trm) (.ref h_ter) (.int z408)))), (h_nam, .inl (cy_nam, 300, .inr (.inl f409))), (h_var, .inl (cy_var, 300, .inl f410)), (h_trm, .inl (cy_trm, 300, .inl f411)), (h_ter, .inl (cy_ter, 900, .inl f445))] H := by rw [ef445]; exact hP9
                  have hD : va_D A [(h_rd, .inr (4, (mo31 (.ref h_by) (.int x_rd_length) (.int z400) (.int z401) (.ref h_td) (.ref h_kn) (.int z402) (.int z403) (.int z404) (.int z405) (.long z406)))), (h_by, .inl (cy_by, 600, .inl f_by)), (h_kn, .inl (cy_kn, 8, .inl f407)), (h_td, .inr (5, (mo32 v_td (.ref h_nam) (.ref h_var) (.ref h_trm) (.ref h_ter) (.int z408)))), (h_nam, .inl (cy_nam, 300, .inr (.inl f409))), (h_var, .inl (cy_var, 300, .inl f410)), (h_trm, .inl (cy_trm, 300, .inl f411)), (h_ter, .inl (cy_ter, 900, .inl f445))] := by rw [ef445]; exact hD9
                  have hS := hS9
                  clear hP9 hD9 hS9
                  have hf445 : Rg 0 299 f445 := by rw [ef445]; exact rg_upd hf412 (by omega)
                  have ac446 : AGX (x_td_parts).toInt f_nam f409 f_var f410 f_trm f411 f_ter f445 := agc_ter ac442 ef445 (r := r105) (k := (x143).toInt) (by omega) (by omega) (by omega) (by omega)
                  refine lv_aload_n hx hb dX5_readPart_157 rfl (lv_at hl 0 rfl) ?_
                  refine va_get (D := (dC, dI)) (ci := 4) (v := .ref h_td) (C := RX5) (T := TX5) (N := 11) hx hb hw iwX5 hown hK hP 0 rfl rfl 4 (by decide) (hw _ w_f_X5_25) (fun _ h9 => h9) rfl dX5_readPart_158 ?_
                  refine va_getN (D := (dC, dI)) (ci := 5) (v := .ref h_trm) (C := RX8) (T := TX8) (N := 10) (host := "OppositePairs") hx hb hw iwX8 hown hK hP 3 rfl rfl 2 (by decide) (hN.use n_f_X5_100 rfl) (fun _ h9 => h9) rfl dX5_readPart_161 ?_
                  refine lv_iload_n hx hb dX5_readPart_164 rfl (lv_at hl 3 rfl) ?_
                  refine lv_iload hx hb dX5_readPart_165 (lv_at hl 4 rfl) ?_
                  refine lv_iconst (v := 1) hx hb dX5_readPart_167 (by decide) ?_
                  refine lv_iadd hx hb dX5_readPart_168 ?_
                  refine lv_topi (fun z447 ez447 => ?_)
                  have tz447 : (z447).toInt = (x143).toInt + 1 := by rw [ez447]; exact i_add rfl (by decide) (by omega)
                  refine va_iast hx hb hK hP hD hS 6 4 rfl rfl (i := r105) (x := z447) (vp_in_iff.mpr (by omega)) dX5_readPart_169 (fun H locs hP9 hD9 hS9 => ?_)
                  obtain ⟨f448, ef448⟩ : ∃ g : Nat → Int32, g = upd f411 (Int32.toNatClampNeg r105) z447 := ⟨_, rfl⟩
                  clear hP hD hS
                  have hP : va_P (dC, dI) cls [(h_rd, .inr (4, (mo31 (.ref h_by) (.int x_rd_length) (.int z400) (.int z401) (.ref h_td) (.ref h_kn) (.int z402) (.int z403) (.int z404) (.int z405) (.long z406)))), (h_by, .inl (cy_by, 600, .inl f_by)), (h_kn, .inl (cy_kn, 8, .inl f407)), (h_td, .inr (5, (mo32 v_td (.ref h_nam) (.ref h_var) (.ref h_trm) (.ref h_ter) (.int z408)))), (h_nam, .inl (cy_nam, 300, .inr (.inl f409))), (h_var, .inl (cy_var, 300, .inl f410)), (h_trm, .inl (cy_trm, 300, .inl f448)), (h_ter, .inl (cy_ter, 900, .inl f445))] H := by rw [ef448]; exact hP9
                  have hD : va_D A [(h_rd, .inr (4, (mo31 (.ref h_by) (.int x_rd_length) (.int z400) (.int z401) (.ref h_td) (.ref h_kn) (.int z402) (.int z403) (.int z404) (.int z405) (.long z406)))), (h_by, .inl (cy_by, 600, .inl f_by)), (h_kn, .inl (cy_kn, 8, .inl f407)), (h_td, .inr (5, (mo32 v_td (.ref h_nam) (.ref h_var) (.ref h_trm) (.ref h_ter) (.int z408)))), (h_nam, .inl (cy_nam, 300, .inr (.inl f409))), (h_var, .inl (cy_var, 300, .inl f410)), (h_trm, .inl (cy_trm, 300, .inl f448)), (h_ter, .inl (cy_ter, 900, .inl f445))] := by rw [ef448]; exact hD9
                  have hS := hS9
                  clear hP9 hD9 hS9
                  have hf448 : Rg 0 3 f448 := by rw [ef448]; exact rg_upd hf411 (by omega)
                  have ac449 : AGX (x_td_parts).toInt f_nam f409 f_var f410 f_trm f448 f_ter f445 := agc_trm ac446 ef448 (by omega)
                  have ow450 := own_trm ow443 ef448 (rfl : (z447).toInt = (z447).toInt)
                  refine lv_aload_n hx hb dX5_readPart_170 rfl (lv_at hl 0 rfl) ?_
                  refine va_get (D := (dC, dI)) (ci := 4) (v := .int z400) (C := RX5) (T := TX5) (N := 11) hx hb hw iwX5 hown hK hP 0 rfl rfl 2 (by decide) (hw _ w_f_X5_34) (fun _ h9 => h9) rfl dX5_readPart_171 ?_
                  refine lv_if_eq (tgt := 179) hx hb dX5_readPart_174 (by decide) (fun c451 => ?_) (fun c451 => ?_)
                  · have kc451 := (cv_eq (rfl : (z400).toInt = (z400).toInt) (by decide : (0 : Int32).toInt = 0)).mp c451
                    replace k421 := (Or.resolve_right k421 (fun h9 => h9.1 (by omega))).2
                    have xt9 : XT (x152).toInt gh158 (z402).toInt (rh441).2.2.2 := by rw [k420, erh441]; exact (pTm_xi (pPs_xi _) _ _ _).1
                    have pr452 : PRC G (x_rd_length).toInt f409 f410 f448 f445 (z402).toInt (rh441).2.2.2 (kfn f407) (z408).toInt dd r105 (z447).toInt (tkN G (x_rd_length).toInt (x_rd_at).toInt) (z403).toInt := prc_step (Q := (x146).toInt) (z := z397) (x := r399) klp159_29 k437 (by omega) xt9 k438 (by omega) (by omega) (by omega) (by omega) (by omega) (k440 (by omega)) rfl (by omega) ef445 ef448 (by omega)
                    refine lv_aload_n hx hb dX5_readPart_179 rfl (lv_at hl 0 rfl) ?_
                    refine va_get (D := (dC, dI)) (ci := 4) (v := .int z405) (C := RX5) (T := TX5) (N := 11) hx hb hw iwX5 hown hK hP 0 rfl rfl 9 (by decide) (hw _ w_f_X5_43) (fun _ h9 => h9) rfl dX5_readPart_180 ?_
                    refine lv_bipush (v := 44) hx hb dX5_readPart_183 (by decide) ?_
                    refine lv_icmp_eq (tgt := 191) hx hb dX5_readPart_185 (by decide) (fun c453 => ?_) (fun c453 => ?_)
                    · have kc453 := (cv_eq (rfl : (z405).toInt = (z405).toInt) (by decide : (44 : Int32).toInt = 44)).mp c453
                      clear k423
                      replace k428 := Or.resolve_left k428 (by omega)
                      clear k429
                      replace k432 := Or.resolve_left k432 (by omega)
                      have on9 := pLo_on (G := G) (n := (x_rd_length).toInt) (P := (pPs G (x_rd_length).toInt d9)) (r := rr395) (q := (x153).toInt) (nv := (x152).toInt) (vf := gh158) (by rw [← erh441]; omega) (by rw [← erh441, ← k419]; omega)
                      rw [← erh441, ← k419, ← k420] at on9
                      have lo454 := on9.symm.trans klp159_21
                      obtain ⟨z455, ez455⟩ : ∃ y : Int32, y = x143 + 1 := ⟨_, rfl⟩
                      have tz455 : (z455).toInt = (x143).toInt + 1 := by rw [ez455]; exact i_add rfl (by decide) (by omega)
                      refine lv_iinc (v := z455) (lv' := [(4, .int z455), (0, .ref h_rd), (1, .int p1), (2, .int 1), (3, .int r105)]) hx hb dX5_readPart_191 hl (k := 4) rfl (by rw [ez455]; rfl) (by decide) rfl (fun ls hl => ?_)
                      refine lv_goto (tgt := 84) hx hb dX5_readPart_194 (by decide) ?_
                      replace hP : va_P (dC, dI) cls [(h_kn, .inl (cy_kn, 8, .inl f407)), (h_ter, .inl (cy_ter, 900, .inl f445)), (h_td, .inr (5, (mo32 v_td (.ref h_nam) (.ref h_var) (.ref h_trm) (.ref h_ter) (.int z408)))), (h_nam, .inl (cy_nam, 300, .inr (.inl f409))), (h_var, .inl (cy_var, 300, .inl f410)), (h_trm, .inl (cy_trm, 300, .inl f448)), (h_rd, .inr (4, (mo31 (.ref h_by) (.int x_rd_length) (.int z400) (.int z401) (.ref h_td) (.ref h_kn) (.int z402) (.int z403) (.int z404) (.int z405) (.long z406)))), (h_by, .inl (cy_by, 600, .inl f_by))] H := hP.sub [2, 7, 3, 4, 5, 6, 0, 1] rfl
                      replace hD : va_D A [(h_kn, .inl (cy_kn, 8, .inl f407)), (h_ter, .inl (cy_ter, 900, .inl f445)), (h_td, .inr (5, (mo32 v_td (.ref h_nam) (.ref h_var) (.ref h_trm) (.ref h_ter) (.int z408)))), (h_nam, .inl (cy_nam, 300, .inr (.inl f409))), (h_var, .inl (cy_var, 300, .inl f410)), (h_trm, .inl (cy_trm, 300, .inl f448)), (h_rd, .inr (4, (mo31 (.ref h_by) (.int x_rd_length) (.int z400) (.int z401) (.ref h_td) (.ref h_kn) (.int z402) (.int z403) (.int z404) (.int z405) (.long z406)))), (h_by, .inl (cy_by, 600, .inl f_by))] := hD.sub [2, 7, 3, 4, 5, 6, 0, 1] (by decide) rfl
                      exact ih160 (z455) (f407) (f445) (z408) (f409) (f410) (f448) (z400) (z401) (z402) (z403) (z404) (z405) (z406) (rr395) ((rh441).2.2.2) _ _ _ (by omega) hf407 hf445 (by first | exact k416 | omega) hf410 hf448 (by first | exact k413 | omega) (by first | exact k414 | omega) (by first | exact k415 | omega) (by first | exact k427 | omega) (by omega) (by omega) (by first | exact k422 | omega) (by omega) (by first | exact k431 | omega) (by omega) (by omega) (by omega) (by omega) (by omega) (by omega) lo454 k434 k435 k436 ac449 (own_cast ow450 (by omega)) kk444 (tz_trm k439 ef448 ow443.1) (prc_cast pr452 (by omega)) (by omega) hP hD hS (lv_sub hl [1, 2, 3, 4, 0] rfl)
                    · have kc453 := (not_congr (cv_eq (rfl : (z405).toInt = (z405).toInt) (by decide : (44 : Int32).toInt = 44))).mp c453
                      refine lv_goto (tgt := 197) hx hb dX5_readPart_188 (by decide) ?_
                      have on9 := pLo_off (G := G) (n := (x_rd_length).toInt) (P := (pPs G (x_rd_length).toInt d9)) (r := rr395) (q := (x153).toInt) (nv := (x152).toInt) (vf := gh158) (by rw [← erh441]; omega) (by rw [← erh441, ← k419]; omega)
                      rw [← erh441, ← k419, ← k420] at on9
                      have cl9 := on9.symm.trans klp159_21
                      refine lv_aload_n hx hb dX5_readPart_197 rfl (lv_at hl 0 rfl) ?_
                      refine va_get (D := (dC, dI)) (ci := 4) (v := .int z405) (C := RX5) (T := TX5) (N := 11) hx hb hw iwX5 hown hK hP 0 rfl rfl 9 (by decide) (hw _ w_f_X5_43) (fun _ h9 => h9) rfl dX5_readPart_198 ?_
                      refine lv_bipush (v := 41) hx hb dX5_readPart_201 (by decide) ?_
                      refine lv_icmp_ne (tgt := 213) hx hb dX5_readPart_203 (by decide) (fun c456 => ?_) (fun c456 => ?_)
                      · have kc456 := (not_congr (cv_eq (rfl : (z405).toInt = (z405).toInt) (by decide : (41 : Int32).toInt = 41))).mp c456
                        have pv9 : (pTm G (x_rd_length).toInt (pPs G (x_rd_length).toInt dd) (x_rd_at).toInt (x_rd_variables).toInt vf) = (1, (z403).toInt, (z402).toInt, (rh441).2.2.2) := cl9.symm.trans (pCl_no (by omega))
                        have pq4571 : ((pTm G (x_rd_length).toInt (pPs G (x_rd_length).toInt dd) (x_rd_at).toInt (x_rd_variables).toInt vf)).1 = 1 := by rw [pv9]
                        have pq4572 : ((pTm G (x_rd_length).toInt (pPs G (x_rd_length).toInt dd) (x_rd_at).toInt (x_rd_variables).toInt vf)).2.1 = (z403).toInt := by rw [pv9]
                        have pq4573 : ((pTm G (x_rd_length).toInt (pPs G (x_rd_length).toInt dd) (x_rd_at).toInt (x_rd_variables).toInt vf)).2.2.1 = (z402).toInt := by rw [pv9]
                        have pq4574 : ((pTm G (x_rd_length).toInt (pPs G (x_rd_length).toInt dd) (x_rd_at).toInt (x_rd_variables).toInt vf)).2.2.2 = (rh441).2.2.2 := by rw [pv9]
                        refine lv_aload_n hx hb dX5_readPart_213 rfl (lv_at hl 0 rfl) ?_
                        refine lv_iconst (v := 1) hx hb dX5_readPart_214 (by decide) ?_
                        obtain ⟨vq458, evq458⟩ := mq31_27 (.ref h_by) (.int x_rd_length) (.ref h_td) (.ref h_kn) (.int z402) (.int z404) (.int z405) (.long z406)
                        replace hP : va_P (dC, dI) cls [(h_rd, .inr (4, (mo27 vq458 (.int z400) (.int z401) (.int z403)))), (h_by, .inl (cy_by, 600, .inl f_by)), (h_kn, .inl (cy_kn, 8, .inl f407)), (h_td, .inr (5, (mo32 v_td (.ref h_nam) (.ref h_var) (.ref h_trm) (.ref h_ter) (.int z408)))), (h_nam, .inl (cy_nam, 300, .inr (.inl f409))), (h_var, .inl (cy_var, 300, .inl f410)), (h_trm, .inl (cy_trm, 300, .inl f448)), (h_ter, .inl (cy_ter, 900, .inl f445))] H := by rw [evq458]; exact hP
                        replace hD : va_D A [(h_rd, .inr (4, (mo27 vq458 (.int z400) (.int z401) (.int z403)))), (h_by, .inl (cy_by, 600, .inl f_by)), (h_kn, .inl (cy_kn, 8, .inl f407)), (h_td, .inr (5, (mo32 v_td (.ref h_nam) (.ref h_var) (.ref h_trm) (.ref h_ter) (.int z408)))), (h_nam, .inl (cy_nam, 300, .inr (.inl f409))), (h_var, .inl (cy_var, 300, .inl f410)), (h_trm, .inl (cy_trm, 300, .inl f448)), (h_ter, .inl (cy_ter, 900, .inl f445))] := by rw [evq458]; exact hD
                        have cst1 : (1 : Int32).toInt = 1 := by decide
                        have hPc := hP.sub (ws' := [(h_rd, .inr (4, (mo27 vq458 (.int z400) (.int z401) (.int z403))))]) [0] rfl
                        have hDc := hD.sub (ws' := [(h_rd, .inr (4, (mo27 vq458 (.int z400) (.int z401) (.int z403))))]) [0] (by decide) rfl
                        have hKc := hK.sub (tys' := []) [] rfl
                        have hFc := va_free (wc := [(h_rd, .inr (4, (mo27 vq458 (.int z400) (.int z401) (.int z403))))]) hD hS hA [0] rfl
                        refine va_callv (va_runV (As := [.int 1]) (rest := []) ⟨hx, hb, hml, hown, hts⟩ (c_X5_blame l dC dI H.size h_rd vq458 z400 z401 z403 1 (by first | exact k414 | omega)) (cwV 1 hts (gv hT w_m_X5_56 w_instanceMethod_X5_blame ws_sel_X5_blame w_ini_X5 w_code_X5_blame) rfl rfl rfl (by decide +kernel) ⟨(by dsimp only [headSpec]; omega), (by dsimp only [headSpec]; omega)⟩) ⟨pre_blind, va_recv hK hP (ci := 4) (q0 := 0) rfl rfl, pre_of hPc hKc hDc hN⟩ rfl rfl hl.1 rfl (lv_room (Nat.le_of_ble_eq_true rfl)) dX5_readPart_215 ⟨(Nat.le_of_ble_eq_true rfl), (Nat.le_of_ble_eq_true rfl)⟩) hS (fun q _ h => hFc q h) hFc (fun u t H locs ht hvm hq hB hz1 hk1 hS9 => ?_)
                        obtain ⟨z460, z461⟩ := u
                        obtain ⟨hP1, hD1⟩ := hB
                        rw [ht] at hP1
                        obtain ⟨hP9, hD9⟩ := va_join (wr := [(h_by, .inl (cy_by, 600, .inl f_by)), (h_kn, .inl (cy_kn, 8, .inl f407)), (h_td, .inr (5, (mo32 v_td (.ref h_nam) (.ref h_var) (.ref h_trm) (.ref h_ter) (.int z408)))), (h_nam, .inl (cy_nam, 300, .inr (.inl f409))), (h_var, .inl (cy_var, 300, .inl f410)), (h_trm, .inl (cy_trm, 300, .inl f448)), (h_ter, .inl (cy_ter, 900, .inl f445))]) (w1 := [(h_rd, .inr (4, (mo27 vq458 (.int z460) (.int z461) (.int z403))))]) hP hD [0] [1, 2, 3, 4, 5, 6, 7] rfl rfl (by decide) (by decide) hk1 hFc hP1 hD1
                        clear hP hD hS hPc hDc hKc hFc hP1 hD1 hk1 hz1 ht hvm
                        have hP : va_P (dC, dI) cls [(h_by, .inl (cy_by, 600, .inl f_by)), (h_kn, .inl (cy_kn, 8, .inl f407)), (h_td, .inr (5, (mo32 v_td (.ref h_nam) (.ref h_var) (.ref h_trm) (.ref h_ter) (.int z408)))), (h_nam, .inl (cy_nam, 300, .inr (.inl f409))), (h_var, .inl (cy_var, 300, .inl f410)), (h_trm, .inl (cy_trm, 300, .inl f448)), (h_ter, .inl (cy_ter, 900, .inl f445)), (h_rd, .inr (4, (mo27 vq458 (.int z460) (.int z461) (.int z403))))] H := hP9
                        have hD : va_D A [(h_by, .inl (cy_by, 600, .inl f_by)), (h_kn, .inl (cy_kn, 8, .inl f407)), (h_td, .inr (5, (mo32 v_td (.ref h_nam) (.ref h_var) (.ref h_trm) (.ref h_ter) (.int z408)))), (h_nam, .inl (cy_nam, 300, .inr (.inl f409))), (h_var, .inl (cy_var, 300, .inl f410)), (h_trm, .inl (cy_trm, 300, .inl f448)), (h_ter, .inl (cy_ter, 900, .inl f445)), (h_rd, .inr (4, (mo27 vq458 (.int z460) (.int z461) (.int z403))))] := hD9
                        have hS := hS9
                        clear hP9 hD9 hS9
                        rw [evq458] at hP hD
                        replace hP : va_P (dC, dI) cls [(h_by, .inl (cy_by, 600, .inl f_by)), (h_kn, .inl (cy_kn, 8, .inl f407)), (h_td, .inr (5, (mo32 v_td (.ref h_nam) (.ref h_var) (.ref h_trm) (.ref h_ter) (.int z408)))), (h_nam, .inl (cy_nam, 300, .inr (.inl f409))), (h_var, .inl (cy_var, 300, .inl f410)), (h_trm, .inl (cy_trm, 300, .inl f448)), (h_ter, .inl (cy_ter, 900, .inl f445)), (h_rd, .inr (4, (mo31 (.ref h_by) (.int x_rd_length) (.int z460) (.int z461) (.ref h_td) (.ref h_kn) (.int z402) (.int z403) (.int z404) (.int z405) (.long z406))))] H := hP
                        replace hD : va_D A [(h_by, .inl (cy_by, 600, .inl f_by)), (h_kn, .inl (cy_kn, 8, .inl f407)), (h_td, .inr (5, (mo32 v_td (.ref h_nam) (.ref h_var) (.ref h_trm) (.ref h_ter) (.int z408)))), (h_nam, .inl (cy_nam, 300, .inr (.inl f409))), (h_var, .inl (cy_var, 300, .inl f410)), (h_trm, .inl (cy_trm, 300, .inl f448)), (h_ter, .inl (cy_ter, 900, .inl f445)), (h_rd, .inr (4, (mo31 (.ref h_by) (.int x_rd_length) (.int z460) (.int z461) (.ref h_td) (.ref h_kn) (.int z402) (.int z403) (.int z404) (.int z405) (.long z406))))] := hD
                        clear evq458 
                        obtain ⟨k462, k463⟩ := hq
                        replace k462 : ((z460)).toInt = ((1 : Int32)).toInt := k462
                        replace k463 : ((z461)).toInt = ((z403)).toInt := k463
                        refine lv_iload_n hx hb dX5_readPart_218 rfl (lv_at hl 3 rfl) ?_
                        replace hP : va_P (dC, dI) cls [(h_rd, .inr (4, (mo31 (.ref h_by) (.int x_rd_length) (.int z460) (.int z461) (.ref h_td) (.ref h_kn) (.int z402) (.int z403) (.int z404) (.int z405) (.long z406)))), (h_by, .inl (cy_by, 600, .inl f_by)), (h_kn, .inl (cy_kn, 8, .inl f407)), (h_td, .inr (5, (mo32 v_td (.ref h_nam) (.ref h_var) (.ref h_trm) (.ref h_ter) (.int z408)))), (h_nam, .inl (cy_nam, 300, .inr (.inl f409))), (h_var, .inl (cy_var, 300, .inl f410)), (h_trm, .inl (cy_trm, 300, .inl f448)), (h_ter, .inl (cy_ter, 900, .inl f445))] H := hP.sub [7, 0, 1, 2, 3, 4, 5, 6] rfl
                        replace hD : va_D A [(h_rd, .inr (4, (mo31 (.ref h_by) (.int x_rd_length) (.int z460) (.int z461) (.ref h_td) (.ref h_kn) (.int z402) (.int z403) (.int z404) (.int z405) (.long z406)))), (h_by, .inl (cy_by, 600, .inl f_by)), (h_kn, .inl (cy_kn, 8, .inl f407)), (h_td, .inr (5, (mo32 v_td (.ref h_nam) (.ref h_var) (.ref h_trm) (.ref h_ter) (.int z408)))), (h_nam, .inl (cy_nam, 300, .inr (.inl f409))), (h_var, .inl (cy_var, 300, .inl f410)), (h_trm, .inl (cy_trm, 300, .inl f448)), (h_ter, .inl (cy_ter, 900, .inl f445))] := hD.sub [7, 0, 1, 2, 3, 4, 5, 6] (by decide) rfl
                        refine W.widen (k := 0) (n := 0) (Nat.le_of_ble_eq_true rfl) (Nat.le_of_ble_eq_true rfl) ?_
                        have w464 : 0 ≤ ((z402)).toInt ∧ ((z402)).toInt ≤ 8 := by first | exact k413 | omega
                        have w465 : 0 ≤ ((z403)).toInt ∧ ((z403)).toInt ≤ 600 := by first | exact k414 | omega
                        have w466 : 0 ≤ ((z404)).toInt ∧ ((z404)).toInt ≤ 600 := by first | exact k415 | omega
                        have w467 : 0 ≤ ((z408)).toInt ∧ ((z408)).toInt ≤ 300 := by first | exact k416 | omega
                        have w468 : 0 ≤ (r105 : Int32).toInt ∧ (r105 : Int32).toInt ≤ 299 := by first | exact k111 | omega
                        have w469 : ((z460)).toInt = ((pTm G (x_rd_length).toInt (pPs G (x_rd_length).toInt dd) (x_rd_at).toInt (x_rd_variables).toInt vf)).1 := by omega
                        have w470 : ((z403)).toInt = ((pTm G (x_rd_length).toInt (pPs G (x_rd_length).toInt dd) (x_rd_at).toInt (x_rd_variables).toInt vf)).2.1 := by omega
                        have w471 : ((z402)).toInt = ((pTm G (x_rd_length).toInt (pPs G (x_rd_length).toInt dd) (x_rd_at).toInt (x_rd_variables).toInt vf)).2.2.1 := by omega
                        have w472 : (((z460)).toInt = 0 ∧ ((z461)).toInt = (x_rd_place).toInt) ∨ (¬ ((z460)).toInt = 0 ∧ ((z461)).toInt = ((z403)).toInt) := by omega
                        have w473 : 2 * ((z408)).toInt ≤ ((z403)).toInt + 1 := by first | exact k422 | omega
                        have w474 : ((z405)).toInt < 256 ∨ 2 * ((z408)).toInt ≤ ((z403)).toInt := by first | exact k423 | omega
                        have w475 : (x_rd_at).toInt ≤ ((z403)).toInt := by omega
                        have w476 : (x_rd_variables).toInt ≤ ((z402)).toInt := by omega
                        have w477 : (x_td_parts).toInt ≤ ((z408)).toInt := by omega
                        have w478 : ((z405)).toInt = tkT G (x_rd_length).toInt ((z403)).toInt := by first | exact k427 | omega
                        have w479 : ((z405)).toInt = -1 ∨ ((z404)).toInt = tkX G (x_rd_length).toInt ((z403)).toInt := by first | exact k428 | omega
                        have w480 : ¬ ((z405)).toInt = 257 ∨ ((z406)).toInt = G ((z403)).toInt := by first | exact k429 | omega
                        have w481 : -1 ≤ ((z405)).toInt ∧ ((z405)).toInt ≤ 258 := by first | exact k430 | omega
                        have w482 : ((z404)).toInt ≤ (x_rd_length).toInt := by first | exact k431 | omega
                        have w483 : ((z405)).toInt = -1 ∨ ((z403)).toInt < (x_rd_length).toInt := by first | exact k432 | omega
                        have w484 : ((z403)).toInt ≤ (x_rd_length).toInt := by first | exact k433 | omega
                        have w485 : VFC ((z402)).toInt ((pTm G (x_rd_length).toInt (pPs G (x_rd_length).toInt dd) (x_rd_at).toInt (x_rd_variables).toInt vf)).2.2.2 (f407) (f409) ((z408)).toInt := (by rw [pq4574]; exact k434)
                        have w486 : VFV ((z402)).toInt (f407) (f410) ((z408)).toInt := k435
                        have w487 : NMT ((z405)).toInt ((z406)).toInt (NMI 32 G (x_rd_length).toInt ((z403)).toInt) := k436
                        have w488 : AGX (x_td_parts).toInt f_nam (f409) f_var (f410) f_trm (f448) f_ter (f445) := ac449
                        have w489 : KX (x_rd_variables).toInt (kfn f_kn) (kfn (f407)) := kk444
                        have w490 : TZG (f410) (f448) := (tz_trm k439 ef448 ow443.1)
                        have w491 : IFZ ((z460)).toInt (∃ L B : Nat, (L : Int) = (x_td_parts).toInt ∧ (B : Int) = ((z408)).toInt ∧ SPX G (x_rd_length).toInt 32 (CVW (f409) (f410) (f448) (f445)) ((z402)).toInt ((pTm G (x_rd_length).toInt (pPs G (x_rd_length).toInt dd) (x_rd_at).toInt (x_rd_variables).toInt vf)).2.2.2 (kfn (f407)) L B (dd + 1) (Int32.toNatClampNeg (r105 : Int32)) (x_rd_at).toInt ((z403)).toInt) := (ifz_no (by omega))
                        exact W.iret (v := r105) hx hb hr (fun t ht hW => ⟨⟨r105, (z460, z461, z402, z403, z404, z405, z406, f407, z408, f409, f410, f448, f445), rfl, ⟨w464, w465, w466, hf407, w467, hf410, hf448, hf445, w468, w469, w470, w471, w472, w473, w474, w475, w476, w477, w478, w479, w480, w481, w482, w483, w484, w485, w486, w487, w488, w489, w490, w491⟩, by rw [ht]; exact hP, hD⟩, hS.F ht⟩) hS.2.2 dX5_readPart_219
                      · have kc456 := (cv_eq (rfl : (z405).toInt = (z405).toInt) (by decide : (41 : Int32).toInt = 41)).mp c456
                        clear k423
                        replace k428 := Or.resolve_left k428 (by omega)
                        clear k429
                        replace k432 := Or.resolve_left k432 (by omega)
                        have pv9 : (pTm G (x_rd_length).toInt (pPs G (x_rd_length).toInt dd) (x_rd_at).toInt (x_rd_variables).toInt vf) = (0, tkN G (x_rd_length).toInt (z403).toInt, (z402).toInt, (rh441).2.2.2) := cl9.symm.trans (pCl_yes (by omega))
                        have pq4921 : ((pTm G (x_rd_length).toInt (pPs G (x_rd_length).toInt dd) (x_rd_at).toInt (x_rd_variables).toInt vf)).1 = 0 := by rw [pv9]
                        have pq4922 : ((pTm G (x_rd_length).toInt (pPs G (x_rd_length).toInt dd) (x_rd_at).toInt (x_rd_variables).toInt vf)).2.1 = tkN G (x_rd_length).toInt (z403).toInt := by rw [pv9]
                        have pq4923 : ((pTm G (x_rd_length).toInt (pPs G (x_rd_length).toInt dd) (x_rd_at).toInt (x_rd_variables).toInt vf)).2.2.1 = (z402).toInt := by rw [pv9]
                        have pq4924 : ((pTm G (x_rd_length).toInt (pPs G (x_rd_length).toInt dd) (x_rd_at).toInt (x_rd_variables).toInt vf)).2.2.2 = (rh441).2.2.2 := by rw [pv9]
                        refine lv_aload_n hx hb dX5_readPart_206 rfl (lv_at hl 0 rfl) ?_
                        obtain ⟨vq493, evq493⟩ := mq31_29 (.int z400) (.int z401) (.ref h_td) (.ref h_kn) (.int z402)
                        replace hP : va_P (dC, dI) cls [(h_rd, .inr (4, (mo29 vq493 (.ref h_by) (.int x_rd_length) (.int z403) (.int z404) (.int z405) (.long z406)))), (h_by, .inl (cy_by, 600, .inl f_by)), (h_kn, .inl (cy_kn, 8, .inl f407)), (h_td, .inr (5, (mo32 v_td (.ref h_nam) (.ref h_var) (.ref h_trm) (.ref h_ter) (.int z408)))), (h_nam, .inl (cy_nam, 300, .inr (.inl f409))), (h_var, .inl (cy_var, 300, .inl f410)), (h_trm, .inl (cy_trm, 300, .inl f448)), (h_ter, .inl (cy_ter, 900, .inl f445))] H := by rw [evq493]; exact hP
                        replace hD : va_D A [(h_rd, .inr (4, (mo29 vq493 (.ref h_by) (.int x_rd_length) (.int z403) (.int z404) (.int z405) (.long z406)))), (h_by, .inl (cy_by, 600, .inl f_by)), (h_kn, .inl (cy_kn, 8, .inl f407)), (h_td, .inr (5, (mo32 v_td (.ref h_nam) (.ref h_var) (.ref h_trm) (.ref h_ter) (.int z408)))), (h_nam, .inl (cy_nam, 300, .inr (.inl f409))), (h_var, .inl (cy_var, 300, .inl f410)), (h_trm, .inl (cy_trm, 300, .inl f448)), (h_ter, .inl (cy_ter, 900, .inl f445))] := by rw [evq493]; exact hD
                        have hPc := hP.sub (ws' := [(h_rd, .inr (4, (mo29 vq493 (.ref h_by) (.int x_rd_length) (.int z403) (.int z404) (.int z405) (.long z406)))), (h_by, .inl (cy_by, 600, .inl f_by))]) [0, 1] rfl
                        have hDc := hD.sub (ws' := [(h_rd, .inr (4, (mo29 vq493 (.ref h_by) (.int x_rd_length) (.int z403) (.int z404) (.int z405) (.long z406)))), (h_by, .inl (cy_by, 600, .inl f_by))]) [0, 1] (by decide) rfl
                        have hKc := hK.sub (tys' := [(cy_by, .int)]) [0] rfl
                        have hFc := va_free (wc := [(h_rd, .inr (4, (mo29 vq493 (.ref h_by) (.int x_rd_length) (.int z403) (.int z404) (.int z405) (.long z406)))), (h_by, .inl (cy_by, 600, .inl f_by))]) hD hS hA [0, 1] rfl
                        refine va_callv (va_runV (As := []) (rest := []) ⟨hx, hb, hml, hown, hts⟩ (c_X5_nextToken l dC dI H.size h_rd h_by vq493 x_rd_length z403 z404 z405 z406 cy_by f_by G (by first | exact hx_rd_length | omega) (by first | exact k414 | omega) (by first | exact k415 | omega) hf_by (by first | exact k431 | omega) hn_byt) (cwV 0 hts (gv hT w_m_X5_40 w_instanceMethod_X5_nextToken ws_sel_X5_nextToken w_ini_X5 w_code_X5_nextToken) rfl rfl rfl (by decide +kernel) ⟨(by dsimp only [headSpec]; omega), (by dsimp only [headSpec]; omega)⟩) ⟨pre_blind, va_recv hK hP (ci := 4) (q0 := 0) rfl rfl, pre_of hPc hKc hDc hN⟩ rfl rfl hl.1 rfl (lv_room (Nat.le_of_ble_eq_true rfl)) dX5_readPart_207 ⟨(Nat.le_of_ble_eq_true rfl), (Nat.le_of_ble_eq_true rfl)⟩) hS (fun q _ h => hFc q h) hFc (fun u t H locs ht hvm hq hB hz1 hk1 hS9 => ?_)
                        obtain ⟨z495, z496, z497, z498⟩ := u
                        obtain ⟨hP1, hD1⟩ := hB
                        rw [ht] at hP1
                        obtain ⟨hP9, hD9⟩ := va_join (wr := [(h_kn, .inl (cy_kn, 8, .inl f407)), (h_td, .inr (5, (mo32 v_td (.ref h_nam) (.ref h_var) (.ref h_trm) (.ref h_ter) (.int z408)))), (h_nam, .inl (cy_nam, 300, .inr (.inl f409))), (h_var, .inl (cy_var, 300, .inl f410)), (h_trm, .inl (cy_trm, 300, .inl f448)), (h_ter, .inl (cy_ter, 900, .inl f445))]) (w1 := [(h_rd, .inr (4, (mo29 vq493 (.ref h_by) (.int x_rd_length) (.int z495) (.int z496) (.int z497) (.long z498)))), (h_by, .inl (cy_by, 600, .inl f_by))]) hP hD [0, 1] [2, 3, 4, 5, 6, 7] rfl rfl (by decide) (by decide) hk1 hFc hP1 hD1
                        clear hP hD hS hPc hDc hKc hFc hP1 hD1 hk1 hz1 ht hvm
                        have hP : va_P (dC, dI) cls [(h_kn, .inl (cy_kn, 8, .inl f407)), (h_td, .inr (5, (mo32 v_td (.ref h_nam) (.ref h_var) (.ref h_trm) (.ref h_ter) (.int z408)))), (h_nam, .inl (cy_nam, 300, .inr (.inl f409))), (h_var, .inl (cy_var, 300, .inl f410)), (h_trm, .inl (cy_trm, 300, .inl f448)), (h_ter, .inl (cy_ter, 900, .inl f445)), (h_rd, .inr (4, (mo29 vq493 (.ref h_by) (.int x_rd_length) (.int z495) (.int z496) (.int z497) (.long z498)))), (h_by, .inl (cy_by, 600, .inl f_by))] H := hP9
                        have hD : va_D A [(h_kn, .inl (cy_kn, 8, .inl f407)), (h_td, .inr (5, (mo32 v_td (.ref h_nam) (.ref h_var) (.ref h_trm) (.ref h_ter) (.int z408)))), (h_nam, .inl (cy_nam, 300, .inr (.inl f409))), (h_var, .inl (cy_var, 300, .inl f410)), (h_trm, .inl (cy_trm, 300, .inl f448)), (h_ter, .inl (cy_ter, 900, .inl f445)), (h_rd, .inr (4, (mo29 vq493 (.ref h_by) (.int x_rd_length) (.int z495) (.int z496) (.int z497) (.long z498)))), (h_by, .inl (cy_by, 600, .inl f_by))] := hD9
                        have hS := hS9
                        clear hP9 hD9 hS9
                        rw [evq493] at hP hD
                        replace hP : va_P (dC, dI) cls [(h_kn, .inl (cy_kn, 8, .inl f407)), (h_td, .inr (5, (mo32 v_td (.ref h_nam) (.ref h_var) (.ref h_trm) (.ref h_ter) (.int z408)))), (h_nam, .inl (cy_nam, 300, .inr (.inl f409))), (h_var, .inl (cy_var, 300, .inl f410)), (h_trm, .inl (cy_trm, 300, .inl f448)), (h_ter, .inl (cy_ter, 900, .inl f445)), (h_rd, .inr (4, (mo31 (.ref h_by) (.int x_rd_length) (.int z400) (.int z401) (.ref h_td) (.ref h_kn) (.int z402) (.int z495) (.int z496) (.int z497) (.long z498)))), (h_by, .inl (cy_by, 600, .inl f_by))] H := hP
                        replace hD : va_D A [(h_kn, .inl (cy_kn, 8, .inl f407)), (h_td, .inr (5, (mo32 v_td (.ref h_nam) (.ref h_var) (.ref h_trm) (.ref h_ter) (.int z408)))), (h_nam, .inl (cy_nam, 300, .inr (.inl f409))), (h_var, .inl (cy_var, 300, .inl f410)), (h_trm, .inl (cy_trm, 300, .inl f448)), (h_ter, .inl (cy_ter, 900, .inl f445)), (h_rd, .inr (4, (mo31 (.ref h_by) (.int x_rd_length) (.int z400) (.int z401) (.ref h_td) (.ref h_kn) (.int z402) (.int z495) (.int z496) (.int z497) (.long z498)))), (h_by, .inl (cy_by, 600, .inl f_by))] := hD
                        clear evq493 
                        obtain ⟨k499, k500, k501, k502, k503, k504, k505, k506, k507, k508, k509, k510⟩ := hq
                        replace k499 : 0 ≤ ((z495)).toInt ∧ ((z495)).toInt ≤ 600 := k499
                        replace k500 : 0 ≤ ((z496)).toInt ∧ ((z496)).toInt ≤ 600 := k500
                        replace k501 : ((z495)).toInt = tkS (G) ((x_rd_length)).toInt ((z404)).toInt := k501
                        replace k502 : ((z404)).toInt ≤ ((z495)).toInt := k502
                        replace k503 : ((z497)).toInt = tkT (G) ((x_rd_length)).toInt ((z495)).toInt := k503
                        replace k504 : ((z497)).toInt = -1 ∨ ((z496)).toInt = tkX (G) ((x_rd_length)).toInt ((z495)).toInt := k504
                        replace k505 : ¬ ((z497)).toInt = 257 ∨ ((z498)).toInt = (G) ((z495)).toInt := k505
                        replace k506 : -1 ≤ ((z497)).toInt ∧ ((z497)).toInt ≤ 258 := k506
                        replace k507 : ((z496)).toInt ≤ ((x_rd_length)).toInt := k507
                        replace k508 : ((z497)).toInt = -1 ∨ ((z495)).toInt < ((x_rd_length)).toInt := k508
                        replace k509 : ((z495)).toInt ≤ ((x_rd_length)).toInt := k509
                        replace k510 : NMT ((z497)).toInt ((z498)).toInt (NMI 32 (G) ((x_rd_length)).toInt ((z495)).toInt) := k510
                        have tn511b : (z404).toInt = tkX G (x_rd_length).toInt (z403).toInt := by omega
                        have tn511 : (z495).toInt = tkN G (x_rd_length).toInt (z403).toInt := by rw [k501, tn511b]; rfl
                        have tn511t : (z497).toInt = tkT G (x_rd_length).toInt (tkN G (x_rd_length).toInt (z403).toInt) := by rw [← tn511]; exact k503
                        have tn511g := tkN_gt (G := G) (n := (x_rd_length).toInt) (a := (z403).toInt) (by omega) (by omega) (by omega)
                        refine lv_goto (tgt := 218) hx hb dX5_readPart_210 (by decide) ?_
                        refine lv_iload_n hx hb dX5_readPart_218 rfl (lv_at hl 3 rfl) ?_
                        replace hP : va_P (dC, dI) cls [(h_rd, .inr (4, (mo31 (.ref h_by) (.int x_rd_length) (.int z400) (.int z401) (.ref h_td) (.ref h_kn) (.int z402) (.int z495) (.int z496) (.int z497) (.long z498)))), (h_by, .inl (cy_by, 600, .inl f_by)), (h_kn, .inl (cy_kn, 8, .inl f407)), (h_td, .inr (5, (mo32 v_td (.ref h_nam) (.ref h_var) (.ref h_trm) (.ref h_ter) (.int z408)))), (h_nam, .inl (cy_nam, 300, .inr (.inl f409))), (h_var, .inl (cy_var, 300, .inl f410)), (h_trm, .inl (cy_trm, 300, .inl f448)), (h_ter, .inl (cy_ter, 900, .inl f445))] H := hP.sub [6, 7, 0, 1, 2, 3, 4, 5] rfl
                        replace hD : va_D A [(h_rd, .inr (4, (mo31 (.ref h_by) (.int x_rd_length) (.int z400) (.int z401) (.ref h_td) (.ref h_kn) (.int z402) (.int z495) (.int z496) (.int z497) (.long z498)))), (h_by, .inl (cy_by, 600, .inl f_by)), (h_kn, .inl (cy_kn, 8, .inl f407)), (h_td, .inr (5, (mo32 v_td (.ref h_nam) (.ref h_var) (.ref h_trm) (.ref h_ter) (.int z408)))), (h_nam, .inl (cy_nam, 300, .inr (.inl f409))), (h_var, .inl (cy_var, 300, .inl f410)), (h_trm, .inl (cy_trm, 300, .inl f448)), (h_ter, .inl (cy_ter, 900, .inl f445))] := hD.sub [6, 7, 0, 1, 2, 3, 4, 5] (by decide) rfl
                        refine W.widen (k := 0) (n := 0) (Nat.le_of_ble_eq_true rfl) (Nat.le_of_ble_eq_true rfl) ?_
                        have w512 : 0 ≤ ((z402)).toInt ∧ ((z402)).toInt ≤ 8 := by first | exact k413 | omega
                        have w513 : 0 ≤ ((z495)).toInt ∧ ((z495)).toInt ≤ 600 := by first | exact k499 | omega
                        have w514 : 0 ≤ ((z496)).toInt ∧ ((z496)).toInt ≤ 600 := by first | exact k500 | omega
                        have w515 : 0 ≤ ((z408)).toInt ∧ ((z408)).toInt ≤ 300 := by first | exact k416 | omega
                        have w516 : 0 ≤ (r105 : Int32).toInt ∧ (r105 : Int32).toInt ≤ 299 := by first | exact k111 | omega
                        have w517 : ((z400)).toInt = ((pTm G (x_rd_length).toInt (pPs G (x_rd_length).toInt dd) (x_rd_at).toInt (x_rd_variables).toInt vf)).1 := by omega
                        have w518 : ((z495)).toInt = ((pTm G (x_rd_length).toInt (pPs G (x_rd_length).toInt dd) (x_rd_at).toInt (x_rd_variables).toInt vf)).2.1 := by omega
                        have w519 : ((z402)).toInt = ((pTm G (x_rd_length).toInt (pPs G (x_rd_length).toInt dd) (x_rd_at).toInt (x_rd_variables).toInt vf)).2.2.1 := by omega
                        have w520 : (((z400)).toInt = 0 ∧ ((z401)).toInt = (x_rd_place).toInt) ∨ (¬ ((z400)).toInt = 0 ∧ ((z401)).toInt = ((z495)).toInt) := by omega
                        have w521 : 2 * ((z408)).toInt ≤ ((z495)).toInt + 1 := by omega
                        have w522 : ((z497)).toInt < 256 ∨ 2 * ((z408)).toInt ≤ ((z495)).toInt := by omega
                        have w523 : (x_rd_at).toInt ≤ ((z495)).toInt := by omega
                        have w524 : (x_rd_variables).toInt ≤ ((z402)).toInt := by omega
                        have w525 : (x_td_parts).toInt ≤ ((z408)).toInt := by omega
                        have w526 : ((z497)).toInt = tkT G (x_rd_length).toInt ((z495)).toInt := by first | exact k503 | omega
                        have w527 : ((z497)).toInt = -1 ∨ ((z496)).toInt = tkX G (x_rd_length).toInt ((z495)).toInt := by first | exact k504 | omega
                        have w528 : ¬ ((z497)).toInt = 257 ∨ ((z498)).toInt = G ((z495)).toInt := by first | exact k505 | omega
                        have w529 : -1 ≤ ((z497)).toInt ∧ ((z497)).toInt ≤ 258 := by first | exact k506 | omega
                        have w530 : ((z496)).toInt ≤ (x_rd_length).toInt := by first | exact k507 | omega
                        have w531 : ((z497)).toInt = -1 ∨ ((z495)).toInt < (x_rd_length).toInt := by first | exact k508 | omega
                        have w532 : ((z495)).toInt ≤ (x_rd_length).toInt := by first | exact k509 | omega
                        have w533 : VFC ((z402)).toInt ((pTm G (x_rd_length).toInt (pPs G (x_rd_length).toInt dd) (x_rd_at).toInt (x_rd_variables).toInt vf)).2.2.2 (f407) (f409) ((z408)).toInt := (by rw [pq4924]; exact k434)
                        have w534 : VFV ((z402)).toInt (f407) (f410) ((z408)).toInt := k435
                        have w535 : NMT ((z497)).toInt ((z498)).toInt (NMI 32 G (x_rd_length).toInt ((z495)).toInt) := k510
                        have w536 : AGX (x_td_parts).toInt f_nam (f409) f_var (f410) f_trm (f448) f_ter (f445) := ac449
                        have w537 : KX (x_rd_variables).toInt (kfn f_kn) (kfn (f407)) := kk444
                        have w538 : TZG (f410) (f448) := (tz_trm k439 ef448 ow443.1)
                        have w539 : IFZ ((z400)).toInt (∃ L B : Nat, (L : Int) = (x_td_parts).toInt ∧ (B : Int) = ((z408)).toInt ∧ SPX G (x_rd_length).toInt 32 (CVW (f409) (f410) (f448) (f445)) ((z402)).toInt ((pTm G (x_rd_length).toInt (pPs G (x_rd_length).toInt dd) (x_rd_at).toInt (x_rd_variables).toInt vf)).2.2.2 (kfn (f407)) L B (dd + 1) (Int32.toNatClampNeg (r105 : Int32)) (x_rd_at).toInt ((z495)).toInt) := (ifz_yes (by rw [pq4924]; exact ⟨(x_td_parts).toInt.toNat, (z408).toInt.toNat, by omega, by omega, spx_terms (by omega) (by omega) (P0 := (z408).toInt) (by omega) (by omega) ow450 (by omega) pr452 (by omega) (by omega) (by omega) (by omega)⟩))
                        exact W.iret (v := r105) hx hb hr (fun t ht hW => ⟨⟨r105, (z400, z401, z402, z495, z496, z497, z498, f407, z408, f409, f410, f448, f445), rfl, ⟨w512, w513, w514, hf407, w515, hf410, hf448, hf445, w516, w517, w518, w519, w520, w521, w522, w523, w524, w525, w526, w527, w528, w529, w530, w531, w532, w533, w534, w535, w536, w537, w538, w539⟩, by rw [ht]; exact hP, hD⟩, hS.F ht⟩) hS.2.2 dX5_readPart_219
                  · have kc451 := (not_congr (cv_eq (rfl : (z400).toInt = (z400).toInt) (by decide : (0 : Int32).toInt = 0))).mp c451
                    have no9 := pLo_no (G := G) (n := (x_rd_length).toInt) (P := (pPs G (x_rd_length).toInt d9)) (r := rr395) (q := (x153).toInt) (nv := (x152).toInt) (vf := gh158) (by rw [← erh441]; omega)
                    rw [← erh441] at no9
                    have rq9 : (pTm G (x_rd_length).toInt (pPs G (x_rd_length).toInt dd) (x_rd_at).toInt (x_rd_variables).toInt vf) = rh441 := klp159_21.symm.trans no9
                    have pq5401 : ((pTm G (x_rd_length).toInt (pPs G (x_rd_length).toInt dd) (x_rd_at).toInt (x_rd_variables).toInt vf)).1 = (rh441).1 := by rw [rq9]
                    have pq5402 : ((pTm G (x_rd_length).toInt (pPs G (x_rd_length).toInt dd) (x_rd_at).toInt (x_rd_variables).toInt vf)).2.1 = (rh441).2.1 := by rw [rq9]
                    have pq5403 : ((pTm G (x_rd_length).toInt (pPs G (x_rd_length).toInt dd) (x_rd_at).toInt (x_rd_variables).toInt vf)).2.2.1 = (rh441).2.2.1 := by rw [rq9]
                    have pq5404 : ((pTm G (x_rd_length).toInt (pPs G (x_rd_length).toInt dd) (x_rd_at).toInt (x_rd_variables).toInt vf)).2.2.2 = (rh441).2.2.2 := by rw [rq9]
                    refine lv_iload_n hx hb dX5_readPart_177 rfl (lv_at hl 3 rfl) ?_
                    refine W.widen (k := 0) (n := 0) (Nat.le_of_ble_eq_true rfl) (Nat.le_of_ble_eq_true rfl) ?_
                    have w541 : 0 ≤ ((z402)).toInt ∧ ((z402)).toInt ≤ 8 := by first | exact k413 | omega
                    have w542 : 0 ≤ ((z403)).toInt ∧ ((z403)).toInt ≤ 600 := by first | exact k414 | omega
                    have w543 : 0 ≤ ((z404)).toInt ∧ ((z404)).toInt ≤ 600 := by first | exact k415 | omega
                    have w544 : 0 ≤ ((z408)).toInt ∧ ((z408)).toInt ≤ 300 := by first | exact k416 | omega
                    have w545 : 0 ≤ (r105 : Int32).toInt ∧ (r105 : Int32).toInt ≤ 299 := by first | exact k111 | omega
                    have w546 : ((z400)).toInt = ((pTm G (x_rd_length).toInt (pPs G (x_rd_length).toInt dd) (x_rd_at).toInt (x_rd_variables).toInt vf)).1 := by omega
                    have w547 : ((z403)).toInt = ((pTm G (x_rd_length).toInt (pPs G (x_rd_length).toInt dd) (x_rd_at).toInt (x_rd_variables).toInt vf)).2.1 := by omega
                    have w548 : ((z402)).toInt = ((pTm G (x_rd_length).toInt (pPs G (x_rd_length).toInt dd) (x_rd_at).toInt (x_rd_variables).toInt vf)).2.2.1 := by omega
                    have w549 : (((z400)).toInt = 0 ∧ ((z401)).toInt = (x_rd_place).toInt) ∨ (¬ ((z400)).toInt = 0 ∧ ((z401)).toInt = ((z403)).toInt) := by omega
                    have w550 : 2 * ((z408)).toInt ≤ ((z403)).toInt + 1 := by first | exact k422 | omega
                    have w551 : ((z405)).toInt < 256 ∨ 2 * ((z408)).toInt ≤ ((z403)).toInt := by first | exact k423 | omega
                    have w552 : (x_rd_at).toInt ≤ ((z403)).toInt := by omega
                    have w553 : (x_rd_variables).toInt ≤ ((z402)).toInt := by omega
                    have w554 : (x_td_parts).toInt ≤ ((z408)).toInt := by omega
                    have w555 : ((z405)).toInt = tkT G (x_rd_length).toInt ((z403)).toInt := by first | exact k427 | omega
                    have w556 : ((z405)).toInt = -1 ∨ ((z404)).toInt = tkX G (x_rd_length).toInt ((z403)).toInt := by first | exact k428 | omega
                    have w557 : ¬ ((z405)).toInt = 257 ∨ ((z406)).toInt = G ((z403)).toInt := by first | exact k429 | omega
                    have w558 : -1 ≤ ((z405)).toInt ∧ ((z405)).toInt ≤ 258 := by first | exact k430 | omega
                    have w559 : ((z404)).toInt ≤ (x_rd_length).toInt := by first | exact k431 | omega
                    have w560 : ((z405)).toInt = -1 ∨ ((z403)).toInt < (x_rd_length).toInt := by first | exact k432 | omega
                    have w561 : ((z403)).toInt ≤ (x_rd_length).toInt := by first | exact k433 | omega
                    have w562 : VFC ((z402)).toInt ((pTm G (x_rd_length).toInt (pPs G (x_rd_length).toInt dd) (x_rd_at).toInt (x_rd_variables).toInt vf)).2.2.2 (f407) (f409) ((z408)).toInt := (by rw [pq5404]; exact k434)
                    have w563 : VFV ((z402)).toInt (f407) (f410) ((z408)).toInt := k435
                    have w564 : NMT ((z405)).toInt ((z406)).toInt (NMI 32 G (x_rd_length).toInt ((z403)).toInt) := k436
                    have w565 : AGX (x_td_parts).toInt f_nam (f409) f_var (f410) f_trm (f448) f_ter (f445) := ac449
                    have w566 : KX (x_rd_variables).toInt (kfn f_kn) (kfn (f407)) := kk444
                    have w567 : TZG (f410) (f448) := (tz_trm k439 ef448 ow443.1)
                    have w568 : IFZ ((z400)).toInt (∃ L B : Nat, (L : Int) = (x_td_parts).toInt ∧ (B : Int) = ((z408)).toInt ∧ SPX G (x_rd_length).toInt 32 (CVW (f409) (f410) (f448) (f445)) ((z402)).toInt ((pTm G (x_rd_length).toInt (pPs G (x_rd_length).toInt dd) (x_rd_at).toInt (x_rd_variables).toInt vf)).2.2.2 (kfn (f407)) L B (dd + 1) (Int32.toNatClampNeg (r105 : Int32)) (x_rd_at).toInt ((z403)).toInt) := (ifz_no (by omega))
                    exact W.iret (v := r105) hx hb hr (fun t ht hW => ⟨⟨r105, (z400, z401, z402, z403, z404, z405, z406, f407, z408, f409, f410, f448, f445), rfl, ⟨w541, w542, w543, hf407, w544, hf410, hf448, hf445, w545, w546, w547, w548, w549, w550, w551, w552, w553, w554, w555, w556, w557, w558, w559, w560, w561, w562, w563, w564, w565, w566, w567, w568⟩, by rw [ht]; exact hP, hD⟩, hS.F ht⟩) hS.2.2 dX5_readPart_178
                · have kc394 := (cv_eq (rfl : (x143).toInt = (x143).toInt) (by decide : (3 : Int32).toInt = 3)).mp c394
                  obtain rfl : gh157 = 0 := by omega
                  have pv9 : (pTm G (x_rd_length).toInt (pPs G (x_rd_length).toInt dd) (x_rd_at).toInt (x_rd_variables).toInt vf) = (2, tkN G (x_rd_length).toInt (x153).toInt, (x152).toInt, gh158) := klp159_21.symm.trans (pLo_many (by omega))
                  have pq5691 : ((pTm G (x_rd_length).toInt (pPs G (x_rd_length).toInt dd) (x_rd_at).toInt (x_rd_variables).toInt vf)).1 = 2 := by rw [pv9]
                  have pq5692 : ((pTm G (x_rd_length).toInt (pPs G (x_rd_length).toInt dd) (x_rd_at).toInt (x_rd_variables).toInt vf)).2.1 = tkN G (x_rd_length).toInt (x153).toInt := by rw [pv9]
                  have pq5693 : ((pTm G (x_rd_length).toInt (pPs G (x_rd_length).toInt dd) (x_rd_at).toInt (x_rd_variables).toInt vf)).2.2.1 = (x152).toInt := by rw [pv9]
                  have pq5694 : ((pTm G (x_rd_length).toInt (pPs G (x_rd_length).toInt dd) (x_rd_at).toInt (x_rd_variables).toInt vf)).2.2.2 = gh158 := by rw [pv9]
                  refine lv_aload_n hx hb dX5_readPart_128 rfl (lv_at hl 0 rfl) ?_
                  refine lv_iconst (v := 2) hx hb dX5_readPart_129 (by decide) ?_
                  obtain ⟨vq570, evq570⟩ := mq31_27 (.ref h_by) (.int x_rd_length) (.ref h_td) (.ref h_kn) (.int x152) (.int z165) (.int z166) (.long z167)
                  replace hP : va_P (dC, dI) cls [(h_kn, .inl (cy_kn, 8, .inl f144)), (h_ter, .inl (cy_ter, 900, .inl f145)), (h_td, .inr (5, (mo32 v_td (.ref h_nam) (.ref h_var) (.ref h_trm) (.ref h_ter) (.int x146)))), (h_nam, .inl (cy_nam, 300, .inr (.inl f147))), (h_var, .inl (cy_var, 300, .inl f148)), (h_trm, .inl (cy_trm, 300, .inl f149)), (h_rd, .inr (4, (mo27 vq570 (.int x150) (.int x151) (.int z164)))), (h_by, .inl (cy_by, 600, .inl f_by))] H := by rw [evq570]; exact hP
                  replace hD : va_D A [(h_kn, .inl (cy_kn, 8, .inl f144)), (h_ter, .inl (cy_ter, 900, .inl f145)), (h_td, .inr (5, (mo32 v_td (.ref h_nam) (.ref h_var) (.ref h_trm) (.ref h_ter) (.int x146)))), (h_nam, .inl (cy_nam, 300, .inr (.inl f147))), (h_var, .inl (cy_var, 300, .inl f148)), (h_trm, .inl (cy_trm, 300, .inl f149)), (h_rd, .inr (4, (mo27 vq570 (.int x150) (.int x151) (.int z164)))), (h_by, .inl (cy_by, 600, .inl f_by))] := by rw [evq570]; exact hD
                  have cst2 : (2 : Int32).toInt = 2 := by decide
                  have hPc := hP.sub (ws' := [(h_rd, .inr (4, (mo27 vq570 (.int x150) (.int x151) (.int z164))))]) [6] rfl
                  have hDc := hD.sub (ws' := [(h_rd, .inr (4, (mo27 vq570 (.int x150) (.int x151) (.int z164))))]) [6] (by decide) rfl
                  have hKc := hK.sub (tys' := []) [] rfl
                  have hFc := va_free (wc := [(h_rd, .inr (4, (mo27 vq570 (.int x150) (.int x151) (.int z164))))]) hD hS hA [6] rfl
                  refine va_callv (va_runV (As := [.int 2]) (rest := []) ⟨hx, hb, hml, hown, hts⟩ (c_X5_blame l dC dI H.size h_rd vq570 x150 x151 z164 2 (by first | exact k168 | omega)) (cwV 1 hts (gv hT w_m_X5_56 w_instanceMethod_X5_blame ws_sel_X5_blame w_ini_X5 w_code_X5_blame) rfl rfl rfl (by decide +kernel) ⟨(by dsimp only [headSpec]; omega), (by dsimp only [headSpec]; omega)⟩) ⟨pre_blind, va_recv hK hP (ci := 4) (q0 := 6) rfl rfl, pre_of hPc hKc hDc hN⟩ rfl rfl hl.1 rfl (lv_room (Nat.le_of_ble_eq_true rfl)) dX5_readPart_130 ⟨(Nat.le_of_ble_eq_true rfl), (Nat.le_of_ble_eq_true rfl)⟩) hS (fun q _ h => hFc q h) hFc (fun u t H locs ht hvm hq hB hz1 hk1 hS9 => ?_)
                  obtain ⟨z572, z573⟩ := u
                  obtain ⟨hP1, hD1⟩ := hB
                  rw [ht] at hP1
                  obtain ⟨hP9, hD9⟩ := va_join (wr := [(h_kn, .inl (cy_kn, 8, .inl f144)), (h_ter, .inl (cy_ter, 900, .inl f145)), (h_td, .inr (5, (mo32 v_td (.ref h_nam) (.ref h_var) (.ref h_trm) (.ref h_ter) (.int x146)))), (h_nam, .inl (cy_nam, 300, .inr (.inl f147))), (h_var, .inl (cy_var, 300, .inl f148)), (h_trm, .inl (cy_trm, 300, .inl f149)), (h_by, .inl (cy_by, 600, .inl f_by))]) (w1 := [(h_rd, .inr (4, (mo27 vq570 (.int z572) (.int z573) (.int z164))))]) hP hD [6] [0, 1, 2, 3, 4, 5, 7] rfl rfl (by decide) (by decide) hk1 hFc hP1 hD1
                  clear hP hD hS hPc hDc hKc hFc hP1 hD1 hk1 hz1 ht hvm
                  have hP : va_P (dC, dI) cls [(h_kn, .inl (cy_kn, 8, .inl f144)), (h_ter, .inl (cy_ter, 900, .inl f145)), (h_td, .inr (5, (mo32 v_td (.ref h_nam) (.ref h_var) (.ref h_trm) (.ref h_ter) (.int x146)))), (h_nam, .inl (cy_nam, 300, .inr (.inl f147))), (h_var, .inl (cy_var, 300, .inl f148)), (h_trm, .inl (cy_trm, 300, .inl f149)), (h_by, .inl (cy_by, 600, .inl f_by)), (h_rd, .inr (4, (mo27 vq570 (.int z572) (.int z573) (.int z164))))] H := hP9
                  have hD : va_D A [(h_kn, .inl (cy_kn, 8, .inl f144)), (h_ter, .inl (cy_ter, 900, .inl f145)), (h_td, .inr (5, (mo32 v_td (.ref h_nam) (.ref h_var) (.ref h_trm) (.ref h_ter) (.int x146)))), (h_nam, .inl (cy_nam, 300, .inr (.inl f147))), (h_var, .inl (cy_var, 300, .inl f148)), (h_trm, .inl (cy_trm, 300, .inl f149)), (h_by, .inl (cy_by, 600, .inl f_by)), (h_rd, .inr (4, (mo27 vq570 (.int z572) (.int z573) (.int z164))))] := hD9
                  have hS := hS9
                  clear hP9 hD9 hS9
                  rw [evq570] at hP hD
                  replace hP : va_P (dC, dI) cls [(h_kn, .inl (cy_kn, 8, .inl f144)), (h_ter, .inl (cy_ter, 900, .inl f145)), (h_td, .inr (5, (mo32 v_td (.ref h_nam) (.ref h_var) (.ref h_trm) (.ref h_ter) (.int x146)))), (h_nam, .inl (cy_nam, 300, .inr (.inl f147))), (h_var, .inl (cy_var, 300, .inl f148)), (h_trm, .inl (cy_trm, 300, .inl f149)), (h_by, .inl (cy_by, 600, .inl f_by)), (h_rd, .inr (4, (mo31 (.ref h_by) (.int x_rd_length) (.int z572) (.int z573) (.ref h_td) (.ref h_kn) (.int x152) (.int z164) (.int z165) (.int z166) (.long z167))))] H := hP
                  replace hD : va_D A [(h_kn, .inl (cy_kn, 8, .inl f144)), (h_ter, .inl (cy_ter, 900, .inl f145)), (h_td, .inr (5, (mo32 v_td (.ref h_nam) (.ref h_var) (.ref h_trm) (.ref h_ter) (.int x146)))), (h_nam, .inl (cy_nam, 300, .inr (.inl f147))), (h_var, .inl (cy_var, 300, .inl f148)), (h_trm, .inl (cy_trm, 300, .inl f149)), (h_by, .inl (cy_by, 600, .inl f_by)), (h_rd, .inr (4, (mo31 (.ref h_by) (.int x_rd_length) (.int z572) (.int z573) (.ref h_td) (.ref h_kn) (.int x152) (.int z164) (.int z165) (.int z166) (.long z167))))] := hD
                  clear evq570 
                  obtain ⟨k574, k575⟩ := hq
                  replace k574 : ((z572)).toInt = ((2 : Int32)).toInt := k574
                  replace k575 : ((z573)).toInt = ((z164)).toInt := k575
                  refine lv_goto (tgt := 170) hx hb dX5_readPart_133 (by decide) ?_
                  refine lv_aload_n hx hb dX5_readPart_170 rfl (lv_at hl 0 rfl) ?_
                  refine va_get (D := (dC, dI)) (ci := 4) (v := .int z572) (C := RX5) (T := TX5) (N := 11) hx hb hw iwX5 hown hK hP 7 rfl rfl 2 (by decide) (hw _ w_f_X5_34) (fun _ h9 => h9) rfl dX5_readPart_171 ?_
                  refine lv_if_eq (tgt := 179) hx hb dX5_readPart_174 (by decide) (fun c576 => False.elim (by have kc576 := (cv_eq (rfl : (z572).toInt = (z572).toInt) (by decide : (0 : Int32).toInt = 0)).mp c576; omega)) (fun _ => ?_)
                  refine lv_iload_n hx hb dX5_readPart_177 rfl (lv_at hl 3 rfl) ?_
                  replace hP : va_P (dC, dI) cls [(h_rd, .inr (4, (mo31 (.ref h_by) (.int x_rd_length) (.int z572) (.int z573) (.ref h_td) (.ref h_kn) (.int x152) (.int z164) (.int z165) (.int z166) (.long z167)))), (h_by, .inl (cy_by, 600, .inl f_by)), (h_kn, .inl (cy_kn, 8, .inl f144)), (h_td, .inr (5, (mo32 v_td (.ref h_nam) (.ref h_var) (.ref h_trm) (.ref h_ter) (.int x146)))), (h_nam, .inl (cy_nam, 300, .inr (.inl f147))), (h_var, .inl (cy_var, 300, .inl f148)), (h_trm, .inl (cy_trm, 300, .inl f149)), (h_ter, .inl (cy_ter, 900, .inl f145))] H := hP.sub [7, 6, 0, 2, 3, 4, 5, 1] rfl
                  replace hD : va_D A [(h_rd, .inr (4, (mo31 (.ref h_by) (.int x_rd_length) (.int z572) (.int z573) (.ref h_td) (.ref h_kn) (.int x152) (.int z164) (.int z165) (.int z166) (.long z167)))), (h_by, .inl (cy_by, 600, .inl f_by)), (h_kn, .inl (cy_kn, 8, .inl f144)), (h_td, .inr (5, (mo32 v_td (.ref h_nam) (.ref h_var) (.ref h_trm) (.ref h_ter) (.int x146)))), (h_nam, .inl (cy_nam, 300, .inr (.inl f147))), (h_var, .inl (cy_var, 300, .inl f148)), (h_trm, .inl (cy_trm, 300, .inl f149)), (h_ter, .inl (cy_ter, 900, .inl f145))] := hD.sub [7, 6, 0, 2, 3, 4, 5, 1] (by decide) rfl
                  refine W.widen (k := 0) (n := 0) (Nat.le_of_ble_eq_true rfl) (Nat.le_of_ble_eq_true rfl) ?_
                  have w577 : 0 ≤ ((x152)).toInt ∧ ((x152)).toInt ≤ 8 := by first | exact klp159_6 | omega
                  have w578 : 0 ≤ ((z164)).toInt ∧ ((z164)).toInt ≤ 600 := by first | exact k168 | omega
                  have w579 : 0 ≤ ((z165)).toInt ∧ ((z165)).toInt ≤ 600 := by first | exact k169 | omega
                  have w580 : 0 ≤ ((x146)).toInt ∧ ((x146)).toInt ≤ 300 := by first | exact klp159_3 | omega
                  have w581 : 0 ≤ (r105 : Int32).toInt ∧ (r105 : Int32).toInt ≤ 299 := by first | exact k111 | omega
                  have w582 : ((z572)).toInt = ((pTm G (x_rd_length).toInt (pPs G (x_rd_length).toInt dd) (x_rd_at).toInt (x_rd_variables).toInt vf)).1 := by omega
                  have w583 : ((z164)).toInt = ((pTm G (x_rd_length).toInt (pPs G (x_rd_length).toInt dd) (x_rd_at).toInt (x_rd_variables).toInt vf)).2.1 := by omega
                  have w584 : ((x152)).toInt = ((pTm G (x_rd_length).toInt (pPs G (x_rd_length).toInt dd) (x_rd_at).toInt (x_rd_variables).toInt vf)).2.2.1 := by omega
                  have w585 : (((z572)).toInt = 0 ∧ ((z573)).toInt = (x_rd_place).toInt) ∨ (¬ ((z572)).toInt = 0 ∧ ((z573)).toInt = ((z164)).toInt) := by omega
                  have w586 : 2 * ((x146)).toInt ≤ ((z164)).toInt + 1 := by omega
                  have w587 : ((z166)).toInt < 256 ∨ 2 * ((x146)).toInt ≤ ((z164)).toInt := by omega
                  have w588 : (x_rd_at).toInt ≤ ((z164)).toInt := by omega
                  have w589 : (x_rd_variables).toInt ≤ ((x152)).toInt := by first | exact klp159_18 | omega
                  have w590 : (x_td_parts).toInt ≤ ((x146)).toInt := by omega
                  have w591 : ((z166)).toInt = tkT G (x_rd_length).toInt ((z164)).toInt := by first | exact k172 | omega
                  have w592 : ((z166)).toInt = -1 ∨ ((z165)).toInt = tkX G (x_rd_length).toInt ((z164)).toInt := by omega
                  have w593 : ¬ ((z166)).toInt = 257 ∨ ((z167)).toInt = G ((z164)).toInt := by omega
                  have w594 : -1 ≤ ((z166)).toInt ∧ ((z166)).toInt ≤ 258 := by first | exact k175 | omega
                  have w595 : ((z165)).toInt ≤ (x_rd_length).toInt := by first | exact k176 | omega
                  have w596 : ((z166)).toInt = -1 ∨ ((z164)).toInt < (x_rd_length).toInt := by omega
                  have w597 : ((z164)).toInt ≤ (x_rd_length).toInt := by first | exact k178 | omega
                  have w598 : VFC ((x152)).toInt ((pTm G (x_rd_length).toInt (pPs G (x_rd_length).toInt dd) (x_rd_at).toInt (x_rd_variables).toInt vf)).2.2.2 (f144) (f147) ((x146)).toInt := (by rw [pq5694]; exact klp159_22)
                  have w599 : VFV ((x152)).toInt (f144) (f148) ((x146)).toInt := klp159_23
                  have w600 : NMT ((z166)).toInt ((z167)).toInt (NMI 32 G (x_rd_length).toInt ((z164)).toInt) := k179
                  have w601 : AGX (x_td_parts).toInt f_nam (f147) f_var (f148) f_trm (f149) f_ter (f145) := klp159_25
                  have w602 : KX (x_rd_variables).toInt (kfn f_kn) (kfn (f144)) := klp159_27
                  have w603 : TZG (f148) (f149) := klp159_28
                  have w604 : IFZ ((z572)).toInt (∃ L B : Nat, (L : Int) = (x_td_parts).toInt ∧ (B : Int) = ((x146)).toInt ∧ SPX G (x_rd_length).toInt 32 (CVW (f147) (f148) (f149) (f145)) ((x152)).toInt ((pTm G (x_rd_length).toInt (pPs G (x_rd_length).toInt dd) (x_rd_at).toInt (x_rd_variables).toInt vf)).2.2.2 (kfn (f144)) L B (dd + 1) (Int32.toNatClampNeg (r105 : Int32)) (x_rd_at).toInt ((z164)).toInt) := (ifz_no (by omega))
                  exact W.iret (v := r105) hx hb hr (fun t ht hW => ⟨⟨r105, (z572, z573, x152, z164, z165, z166, z167, f144, x146, f147, f148, f149, f145), rfl, ⟨w577, w578, w579, hf144, w580, hf148, hf149, hf145, w581, w582, w583, w584, w585, w586, w587, w588, w589, w590, w591, w592, w593, w594, w595, w596, w597, w598, w599, w600, w601, w602, w603, w604⟩, by rw [ht]; exact hP, hD⟩, hS.F ht⟩) hS.2.2 dX5_readPart_178
              · have kc393 := (not_congr (cv_eq (rfl : (z166).toInt = (z166).toInt) (by decide : (257 : Int32).toInt = 257))).mp c393
                have pv9 : (pTm G (x_rd_length).toInt (pPs G (x_rd_length).toInt dd) (x_rd_at).toInt (x_rd_variables).toInt vf) = (1, tkN G (x_rd_length).toInt (x153).toInt, (x152).toInt, gh158) := klp159_21.symm.trans (pLo_bad (by omega) (by omega))
                have pq6051 : ((pTm G (x_rd_length).toInt (pPs G (x_rd_length).toInt dd) (x_rd_at).toInt (x_rd_variables).toInt vf)).1 = 1 := by rw [pv9]
                have pq6052 : ((pTm G (x_rd_length).toInt (pPs G (x_rd_length).toInt dd) (x_rd_at).toInt (x_rd_variables).toInt vf)).2.1 = tkN G (x_rd_length).toInt (x153).toInt := by rw [pv9]
                have pq6053 : ((pTm G (x_rd_length).toInt (pPs G (x_rd_length).toInt dd) (x_rd_at).toInt (x_rd_variables).toInt vf)).2.2.1 = (x152).toInt := by rw [pv9]
                have pq6054 : ((pTm G (x_rd_length).toInt (pPs G (x_rd_length).toInt dd) (x_rd_at).toInt (x_rd_variables).toInt vf)).2.2.2 = gh158 := by rw [pv9]
                refine lv_aload_n hx hb dX5_readPart_114 rfl (lv_at hl 0 rfl) ?_
                refine lv_iconst (v := 1) hx hb dX5_readPart_115 (by decide) ?_
                obtain ⟨vq606, evq606⟩ := mq31_27 (.ref h_by) (.int x_rd_length) (.ref h_td) (.ref h_kn) (.int x152) (.int z165) (.int z166) (.long z167)
                replace hP : va_P (dC, dI) cls [(h_kn, .inl (cy_kn, 8, .inl f144)), (h_ter, .inl (cy_ter, 900, .inl f145)), (h_td, .inr (5, (mo32 v_td (.ref h_nam) (.ref h_var) (.ref h_trm) (.ref h_ter) (.int x146)))), (h_nam, .inl (cy_nam, 300, .inr (.inl f147))), (h_var, .inl (cy_var, 300, .inl f148)), (h_trm, .inl (cy_trm, 300, .inl f149)), (h_rd, .inr (4, (mo27 vq606 (.int x150) (.int x151) (.int z164)))), (h_by, .inl (cy_by, 600, .inl f_by))] H := by rw [evq606]; exact hP
                replace hD : va_D A [(h_kn, .inl (cy_kn, 8, .inl f144)), (h_ter, .inl (cy_ter, 900, .inl f145)), (h_td, .inr (5, (mo32 v_td (.ref h_nam) (.ref h_var) (.ref h_trm) (.ref h_ter) (.int x146)))), (h_nam, .inl (cy_nam, 300, .inr (.inl f147))), (h_var, .inl (cy_var, 300, .inl f148)), (h_trm, .inl (cy_trm, 300, .inl f149)), (h_rd, .inr (4, (mo27 vq606 (.int x150) (.int x151) (.int z164)))), (h_by, .inl (cy_by, 600, .inl f_by))] := by rw [evq606]; exact hD
                have cst1 : (1 : Int32).toInt = 1 := by decide
                have hPc := hP.sub (ws' := [(h_rd, .inr (4, (mo27 vq606 (.int x150) (.int x151) (.int z164))))]) [6] rfl
                have hDc := hD.sub (ws' := [(h_rd, .inr (4, (mo27 vq606 (.int x150) (.int x151) (.int z164))))]) [6] (by decide) rfl
                have hKc := hK.sub (tys' := []) [] rfl
                have hFc := va_free (wc := [(h_rd, .inr (4, (mo27 vq606 (.int x150) (.int x151) (.int z164))))]) hD hS hA [6] rfl
                refine va_callv (va_runV (As := [.int 1]) (rest := []) ⟨hx, hb, hml, hown, hts⟩ (c_X5_blame l dC dI H.size h_rd vq606 x150 x151 z164 1 (by first | exact k168 | omega)) (cwV 1 hts (gv hT w_m_X5_56 w_instanceMethod_X5_blame ws_sel_X5_blame w_ini_X5 w_code_X5_blame) rfl rfl rfl (by decide +kernel) ⟨(by dsimp only [headSpec]; omega), (by dsimp only [headSpec]; omega)⟩) ⟨pre_blind, va_recv hK hP (ci := 4) (q0 := 6) rfl rfl, pre_of hPc hKc hDc hN⟩ rfl rfl hl.1 rfl (lv_room (Nat.le_of_ble_eq_true rfl)) dX5_readPart_116 ⟨(Nat.le_of_ble_eq_true rfl), (Nat.le_of_ble_eq_true rfl)⟩) hS (fun q _ h => hFc q h) hFc (fun u t H locs ht hvm hq hB hz1 hk1 hS9 => ?_)
                obtain ⟨z608, z609⟩ := u
                obtain ⟨hP1, hD1⟩ := hB
                rw [ht] at hP1
                obtain ⟨hP9, hD9⟩ := va_join (wr := [(h_kn, .inl (cy_kn, 8, .inl f144)), (h_ter, .inl (cy_ter, 900, .inl f145)), (h_td, .inr (5, (mo32 v_td (.ref h_nam) (.ref h_var) (.ref h_trm) (.ref h_ter) (.int x146)))), (h_nam, .inl (cy_nam, 300, .inr (.inl f147))), (h_var, .inl (cy_var, 300, .inl f148)), (h_trm, .inl (cy_trm, 300, .inl f149)), (h_by, .inl (cy_by, 600, .inl f_by))]) (w1 := [(h_rd, .inr (4, (mo27 vq606 (.int z608) (.int z609) (.int z164))))]) hP hD [6] [0, 1, 2, 3, 4, 5, 7] rfl rfl (by decide) (by decide) hk1 hFc hP1 hD1
                clear hP hD hS hPc hDc hKc hFc hP1 hD1 hk1 hz1 ht hvm
                have hP : va_P (dC, dI) cls [(h_kn, .inl (cy_kn, 8, .inl f144)), (h_ter, .inl (cy_ter, 900, .inl f145)), (h_td, .inr (5, (mo32 v_td (.ref h_nam) (.ref h_var) (.ref h_trm) (.ref h_ter) (.int x146)))), (h_nam, .inl (cy_nam, 300, .inr (.inl f147))), (h_var, .inl (cy_var, 300, .inl f148)), (h_trm, .inl (cy_trm, 300, .inl f149)), (h_by, .inl (cy_by, 600, .inl f_by)), (h_rd, .inr (4, (mo27 vq606 (.int z608) (.int z609) (.int z164))))] H := hP9
                have hD : va_D A [(h_kn, .inl (cy_kn, 8, .inl f144)), (h_ter, .inl (cy_ter, 900, .inl f145)), (h_td, .inr (5, (mo32 v_td (.ref h_nam) (.ref h_var) (.ref h_trm) (.ref h_ter) (.int x146)))), (h_nam, .inl (cy_nam, 300, .inr (.inl f147))), (h_var, .inl (cy_var, 300, .inl f148)), (h_trm, .inl (cy_trm, 300, .inl f149)), (h_by, .inl (cy_by, 600, .inl f_by)), (h_rd, .inr (4, (mo27 vq606 (.int z608) (.int z609) (.int z164))))] := hD9
                have hS := hS9
                clear hP9 hD9 hS9
                rw [evq606] at hP hD
                replace hP : va_P (dC, dI) cls [(h_kn, .inl (cy_kn, 8, .inl f144)), (h_ter, .inl (cy_ter, 900, .inl f145)), (h_td, .inr (5, (mo32 v_td (.ref h_nam) (.ref h_var) (.ref h_trm) (.ref h_ter) (.int x146)))), (h_nam, .inl (cy_nam, 300, .inr (.inl f147))), (h_var, .inl (cy_var, 300, .inl f148)), (h_trm, .inl (cy_trm, 300, .inl f149)), (h_by, .inl (cy_by, 600, .inl f_by)), (h_rd, .inr (4, (mo31 (.ref h_by) (.int x_rd_length) (.int z608) (.int z609) (.ref h_td) (.ref h_kn) (.int x152) (.int z164) (.int z165) (.int z166) (.long z167))))] H := hP
                replace hD : va_D A [(h_kn, .inl (cy_kn, 8, .inl f144)), (h_ter, .inl (cy_ter, 900, .inl f145)), (h_td, .inr (5, (mo32 v_td (.ref h_nam) (.ref h_var) (.ref h_trm) (.ref h_ter) (.int x146)))), (h_nam, .inl (cy_nam, 300, .inr (.inl f147))), (h_var, .inl (cy_var, 300, .inl f148)), (h_trm, .inl (cy_trm, 300, .inl f149)), (h_by, .inl (cy_by, 600, .inl f_by)), (h_rd, .inr (4, (mo31 (.ref h_by) (.int x_rd_length) (.int z608) (.int z609) (.ref h_td) (.ref h_kn) (.int x152) (.int z164) (.int z165) (.int z166) (.long z167))))] := hD
                clear evq606 
                obtain ⟨k610, k611⟩ := hq
                replace k610 : ((z608)).toInt = ((1 : Int32)).toInt := k610
                replace k611 : ((z609)).toInt = ((z164)).toInt := k611
                refine lv_goto (tgt := 170) hx hb dX5_readPart_119 (by decide) ?_
                refine lv_aload_n hx hb dX5_readPart_170 rfl (lv_at hl 0 rfl) ?_
                refine va_get (D := (dC, dI)) (ci := 4) (v := .int z608) (C := RX5) (T := TX5) (N := 11) hx hb hw iwX5 hown hK hP 7 rfl rfl 2 (by decide) (hw _ w_f_X5_34) (fun _ h9 => h9) rfl dX5_readPart_171 ?_
                refine lv_if_eq (tgt := 179) hx hb dX5_readPart_174 (by decide) (fun c612 => False.elim (by have kc612 := (cv_eq (rfl : (z608).toInt = (z608).toInt) (by decide : (0 : Int32).toInt = 0)).mp c612; omega)) (fun _ => ?_)
                refine lv_iload_n hx hb dX5_readPart_177 rfl (lv_at hl 3 rfl) ?_
                replace hP : va_P (dC, dI) cls [(h_rd, .inr (4, (mo31 (.ref h_by) (.int x_rd_length) (.int z608) (.int z609) (.ref h_td) (.ref h_kn) (.int x152) (.int z164) (.int z165) (.int z166) (.long z167)))), (h_by, .inl (cy_by, 600, .inl f_by)), (h_kn, .inl (cy_kn, 8, .inl f144)), (h_td, .inr (5, (mo32 v_td (.ref h_nam) (.ref h_var) (.ref h_trm) (.ref h_ter) (.int x146)))), (h_nam, .inl (cy_nam, 300, .inr (.inl f147))), (h_var, .inl (cy_var, 300, .inl f148)), (h_trm, .inl (cy_trm, 300, .inl f149)), (h_ter, .inl (cy_ter, 900, .inl f145))] H := hP.sub [7, 6, 0, 2, 3, 4, 5, 1] rfl
                replace hD : va_D A [(h_rd, .inr (4, (mo31 (.ref h_by) (.int x_rd_length) (.int z608) (.int z609) (.ref h_td) (.ref h_kn) (.int x152) (.int z164) (.int z165) (.int z166) (.long z167)))), (h_by, .inl (cy_by, 600, .inl f_by)), (h_kn, .inl (cy_kn, 8, .inl f144)), (h_td, .inr (5, (mo32 v_td (.ref h_nam) (.ref h_var) (.ref h_trm) (.ref h_ter) (.int x146)))), (h_nam, .inl (cy_nam, 300, .inr (.inl f147))), (h_var, .inl (cy_var, 300, .inl f148)), (h_trm, .inl (cy_trm, 300, .inl f149)), (h_ter, .inl (cy_ter, 900, .inl f145))] := hD.sub [7, 6, 0, 2, 3, 4, 5, 1] (by decide) rfl
                refine W.widen (k := 0) (n := 0) (Nat.le_of_ble_eq_true rfl) (Nat.le_of_ble_eq_true rfl) ?_
                have w613 : 0 ≤ ((x152)).toInt ∧ ((x152)).toInt ≤ 8 := by first | exact klp159_6 | omega
                have w614 : 0 ≤ ((z164)).toInt ∧ ((z164)).toInt ≤ 600 := by first | exact k168 | omega
                have w615 : 0 ≤ ((z165)).toInt ∧ ((z165)).toInt ≤ 600 := by first | exact k169 | omega
                have w616 : 0 ≤ ((x146)).toInt ∧ ((x146)).toInt ≤ 300 := by first | exact klp159_3 | omega
                have w617 : 0 ≤ (r105 : Int32).toInt ∧ (r105 : Int32).toInt ≤ 299 := by first | exact k111 | omega
                have w618 : ((z608)).toInt = ((pTm G (x_rd_length).toInt (pPs G (x_rd_length).toInt dd) (x_rd_at).toInt (x_rd_variables).toInt vf)).1 := by omega
                have w619 : ((z164)).toInt = ((pTm G (x_rd_length).toInt (pPs G (x_rd_length).toInt dd) (x_rd_at).toInt (x_rd_variables).toInt vf)).2.1 := by omega
                have w620 : ((x152)).toInt = ((pTm G (x_rd_length).toInt (pPs G (x_rd_length).toInt dd) (x_rd_at).toInt (x_rd_variables).toInt vf)).2.2.1 := by omega
                have w621 : (((z608)).toInt = 0 ∧ ((z609)).toInt = (x_rd_place).toInt) ∨ (¬ ((z608)).toInt = 0 ∧ ((z609)).toInt = ((z164)).toInt) := by omega
                have w622 : 2 * ((x146)).toInt ≤ ((z164)).toInt + 1 := by omega
                have w623 : ((z166)).toInt < 256 ∨ 2 * ((x146)).toInt ≤ ((z164)).toInt := by omega
                have w624 : (x_rd_at).toInt ≤ ((z164)).toInt := by omega
                have w625 : (x_rd_variables).toInt ≤ ((x152)).toInt := by first | exact klp159_18 | omega
                have w626 : (x_td_parts).toInt ≤ ((x146)).toInt := by omega
                have w627 : ((z166)).toInt = tkT G (x_rd_length).toInt ((z164)).toInt := by first | exact k172 | omega
                have w628 : ((z166)).toInt = -1 ∨ ((z165)).toInt = tkX G (x_rd_length).toInt ((z164)).toInt := by first | exact k173 | omega
                have w629 : ¬ ((z166)).toInt = 257 ∨ ((z167)).toInt = G ((z164)).toInt := by first | exact k174 | omega
                have w630 : -1 ≤ ((z166)).toInt ∧ ((z166)).toInt ≤ 258 := by first | exact k175 | omega
                have w631 : ((z165)).toInt ≤ (x_rd_length).toInt := by first | exact k176 | omega
                have w632 : ((z166)).toInt = -1 ∨ ((z164)).toInt < (x_rd_length).toInt := by first | exact k177 | omega
                have w633 : ((z164)).toInt ≤ (x_rd_length).toInt := by first | exact k178 | omega
                have w634 : VFC ((x152)).toInt ((pTm G (x_rd_length).toInt (pPs G (x_rd_length).toInt dd) (x_rd_at).toInt (x_rd_variables).toInt vf)).2.2.2 (f144) (f147) ((x146)).toInt := (by rw [pq6054]; exact klp159_22)
                have w635 : VFV ((x152)).toInt (f144) (f148) ((x146)).toInt := klp159_23
                have w636 : NMT ((z166)).toInt ((z167)).toInt (NMI 32 G (x_rd_length).toInt ((z164)).toInt) := k179
                have w637 : AGX (x_td_parts).toInt f_nam (f147) f_var (f148) f_trm (f149) f_ter (f145) := klp159_25
                have w638 : KX (x_rd_variables).toInt (kfn f_kn) (kfn (f144)) := klp159_27
                have w639 : TZG (f148) (f149) := klp159_28
                have w640 : IFZ ((z608)).toInt (∃ L B : Nat, (L : Int) = (x_td_parts).toInt ∧ (B : Int) = ((x146)).toInt ∧ SPX G (x_rd_length).toInt 32 (CVW (f147) (f148) (f149) (f145)) ((x152)).toInt ((pTm G (x_rd_length).toInt (pPs G (x_rd_length).toInt dd) (x_rd_at).toInt (x_rd_variables).toInt vf)).2.2.2 (kfn (f144)) L B (dd + 1) (Int32.toNatClampNeg (r105 : Int32)) (x_rd_at).toInt ((z164)).toInt) := (ifz_no (by omega))
                exact W.iret (v := r105) hx hb hr (fun t ht hW => ⟨⟨r105, (z608, z609, x152, z164, z165, z166, z167, f144, x146, f147, f148, f149, f145), rfl, ⟨w613, w614, w615, hf144, w616, hf148, hf149, hf145, w617, w618, w619, w620, w621, w622, w623, w624, w625, w626, w627, w628, w629, w630, w631, w632, w633, w634, w635, w636, w637, w638, w639, w640⟩, by rw [ht]; exact hP, hD⟩, hS.F ht⟩) hS.2.2 dX5_readPart_178
        have cst0 : (0 : Int32).toInt = 0 := by decide
        have cst3 : (3 : Int32).toInt = 3 := by decide
        exact lp159 _ (0) (f_kn) (f_ter) (z106) (f107) (f108) (f109) (x_rd_fault) (x_rd_place) (x_rd_variables) (z124) (z125) (z126) (z127) (3) (vf) _ _ _ (by decide) hf_kn hf_ter (by first | exact k110 | omega) hf108 hf109 (by first | exact hx_rd_variables | omega) (by first | exact k128 | omega) (by first | exact k129 | omega) (by first | exact k132 | omega) (by omega) (by omega) (by omega) (by omega) (by first | exact k136 | omega) (by omega) (by omega) (by omega) (by omega) (by omega) (by omega) lo0 vf117 vv120 k139 ac118 (own_cast ow119 (by omega)) kx_rf (tz_add hn_tz k115 k116) (prc_cast (prc_zero (k := 0) (by omega) rfl (by omega)) (by omega)) (Nat.le_refl _) hP hD hS (lv_sub hl [3, 4, 2, 1, 0] rfl)
      · have kc142 := (not_congr (cv_lt (rfl : (p1).toInt = (p1).toInt) (by decide : (6 : Int32).toInt = 6))).mp c142
        have pv9 : (pTm G (x_rd_length).toInt (pPs G (x_rd_length).toInt dd) (x_rd_at).toInt (x_rd_variables).toInt vf) = (2, tkN G (x_rd_length).toInt (x_rd_at).toInt, (x_rd_variables).toInt, vf) := (pTm_name (by omega)).trans (pPs_deep2 (by omega) (by omega))
        have pq6411 : ((pTm G (x_rd_length).toInt (pPs G (x_rd_length).toInt dd) (x_rd_at).toInt (x_rd_variables).toInt vf)).1 = 2 := by rw [pv9]
        have pq6412 : ((pTm G (x_rd_length).toInt (pPs G (x_rd_length).toInt dd) (x_rd_at).toInt (x_rd_variables).toInt vf)).2.1 = tkN G (x_rd_length).toInt (x_rd_at).toInt := by rw [pv9]
        have pq6413 : ((pTm G (x_rd_length).toInt (pPs G (x_rd_length).toInt dd) (x_rd_at).toInt (x_rd_variables).toInt vf)).2.2.1 = (x_rd_variables).toInt := by rw [pv9]
        have pq6414 : ((pTm G (x_rd_length).toInt (pPs G (x_rd_length).toInt dd) (x_rd_at).toInt (x_rd_variables).toInt vf)).2.2.2 = vf := by rw [pv9]
        refine lv_aload_n hx hb dX5_readPart_74 rfl (lv_at hl 2 rfl) ?_
        refine lv_iconst (v := 2) hx hb dX5_readPart_75 (by decide) ?_
        obtain ⟨vq642, evq642⟩ := mq31_27 (.ref h_by) (.int x_rd_length) (.ref h_td) (.ref h_kn) (.int x_rd_variables) (.int z125) (.int z126) (.long z127)
        replace hP : va_P (dC, dI) cls [(h_kn, .inl (cy_kn, 8, .inl f_kn)), (h_ter, .inl (cy_ter, 900, .inl f_ter)), (h_td, .inr (5, (mo32 v_td (.ref h_nam) (.ref h_var) (.ref h_trm) (.ref h_ter) (.int z106)))), (h_nam, .inl (cy_nam, 300, .inr (.inl f107))), (h_var, .inl (cy_var, 300, .inl f108)), (h_trm, .inl (cy_trm, 300, .inl f109)), (h_rd, .inr (4, (mo27 vq642 (.int x_rd_fault) (.int x_rd_place) (.int z124)))), (h_by, .inl (cy_by, 600, .inl f_by))] H := by rw [evq642]; exact hP
        replace hD : va_D A [(h_kn, .inl (cy_kn, 8, .inl f_kn)), (h_ter, .inl (cy_ter, 900, .inl f_ter)), (h_td, .inr (5, (mo32 v_td (.ref h_nam) (.ref h_var) (.ref h_trm) (.ref h_ter) (.int z106)))), (h_nam, .inl (cy_nam, 300, .inr (.inl f107))), (h_var, .inl (cy_var, 300, .inl f108)), (h_trm, .inl (cy_trm, 300, .inl f109)), (h_rd, .inr (4, (mo27 vq642 (.int x_rd_fault) (.int x_rd_place) (.int z124)))), (h_by, .inl (cy_by, 600, .inl f_by))] := by rw [evq642]; exact hD
        have cst2 : (2 : Int32).toInt = 2 := by decide
        have hPc := hP.sub (ws' := [(h_rd, .inr (4, (mo27 vq642 (.int x_rd_fault) (.int x_rd_place) (.int z124))))]) [6] rfl
        have hDc := hD.sub (ws' := [(h_rd, .inr (4, (mo27 vq642 (.int x_rd_fault) (.int x_rd_place) (.int z124))))]) [6] (by decide) rfl
        have hKc := hK.sub (tys' := []) [] rfl
        have hFc := va_free (wc := [(h_rd, .inr (4, (mo27 vq642 (.int x_rd_fault) (.int x_rd_place) (.int z124))))]) hD hS hA [6] rfl
        refine va_callv (va_runV (As := [.int 2]) (rest := []) ⟨hx, hb, hml, hown, hts⟩ (c_X5_blame l dC dI H.size h_rd vq642 x_rd_fault x_rd_place z124 2 (by first | exact k128 | omega)) (cwV 1 hts (gv hT w_m_X5_56 w_instanceMethod_X5_blame ws_sel_X5_blame w_ini_X5 w_code_X5_blame) rfl rfl rfl (by decide +kernel) ⟨(by dsimp only [headSpec]; omega), (by dsimp only [headSpec]; omega)⟩) ⟨pre_blind, va_recv hK hP (ci := 4) (q0 := 6) rfl rfl, pre_of hPc hKc hDc hN⟩ rfl rfl hl.1 rfl (lv_room (Nat.le_of_ble_eq_true rfl)) dX5_readPart_76 ⟨(Nat.le_of_ble_eq_true rfl), (Nat.le_of_ble_eq_true rfl)⟩) hS (fun q _ h => hFc q h) hFc (fun u t H locs ht hvm hq hB hz1 hk1 hS9 => ?_)
        obtain ⟨z644, z645⟩ := u
        obtain ⟨hP1, hD1⟩ := hB
        rw [ht] at hP1
        obtain ⟨hP9, hD9⟩ := va_join (wr := [(h_kn, .inl (cy_kn, 8, .inl f_kn)), (h_ter, .inl (cy_ter, 900, .inl f_ter)), (h_td, .inr (5, (mo32 v_td (.ref h_nam) (.ref h_var) (.ref h_trm) (.ref h_ter) (.int z106)))), (h_nam, .inl (cy_nam, 300, .inr (.inl f107))), (h_var, .inl (cy_var, 300, .inl f108)), (h_trm, .inl (cy_trm, 300, .inl f109)), (h_by, .inl (cy_by, 600, .inl f_by))]) (w1 := [(h_rd, .inr (4, (mo27 vq642 (.int z644) (.int z645) (.int z124))))]) hP hD [6] [0, 1, 2, 3, 4, 5, 7] rfl rfl (by decide) (by decide) hk1 hFc hP1 hD1
        clear hP hD hS hPc hDc hKc hFc hP1 hD1 hk1 hz1 ht hvm
        have hP : va_P (dC, dI) cls [(h_kn, .inl (cy_kn, 8, .inl f_kn)), (h_ter, .inl (cy_ter, 900, .inl f_ter)), (h_td, .inr (5, (mo32 v_td (.ref h_nam) (.ref h_var) (.ref h_trm) (.ref h_ter) (.int z106)))), (h_nam, .inl (cy_nam, 300, .inr (.inl f107))), (h_var, .inl (cy_var, 300, .inl f108)), (h_trm, .inl (cy_trm, 300, .inl f109)), (h_by, .inl (cy_by, 600, .inl f_by)), (h_rd, .inr (4, (mo27 vq642 (.int z644) (.int z645) (.int z124))))] H := hP9
        have hD : va_D A [(h_kn, .inl (cy_kn, 8, .inl f_kn)), (h_ter, .inl (cy_ter, 900, .inl f_ter)), (h_td, .inr (5, (mo32 v_td (.ref h_nam) (.ref h_var) (.ref h_trm) (.ref h_ter) (.int z106)))), (h_nam, .inl (cy_nam, 300, .inr (.inl f107))), (h_var, .inl (cy_var, 300, .inl f108)), (h_trm, .inl (cy_trm, 300, .inl f109)), (h_by, .inl (cy_by, 600, .inl f_by)), (h_rd, .inr (4, (mo27 vq642 (.int z644) (.int z645) (.int z124))))] := hD9
        have hS := hS9
        clear hP9 hD9 hS9
        rw [evq642] at hP hD
        replace hP : va_P (dC, dI) cls [(h_kn, .inl (cy_kn, 8, .inl f_kn)), (h_ter, .inl (cy_ter, 900, .inl f_ter)), (h_td, .inr (5, (mo32 v_td (.ref h_nam) (.ref h_var) (.ref h_trm) (.ref h_ter) (.int z106)))), (h_nam, .inl (cy_nam, 300, .inr (.inl f107))), (h_var, .inl (cy_var, 300, .inl f108)), (h_trm, .inl (cy_trm, 300, .inl f109)), (h_by, .inl (cy_by, 600, .inl f_by)), (h_rd, .inr (4, (mo31 (.ref h_by) (.int x_rd_length) (.int z644) (.int z645) (.ref h_td) (.ref h_kn) (.int x_rd_variables) (.int z124) (.int z125) (.int z126) (.long z127))))] H := hP
        replace hD : va_D A [(h_kn, .inl (cy_kn, 8, .inl f_kn)), (h_ter, .inl (cy_ter, 900, .inl f_ter)), (h_td, .inr (5, (mo32 v_td (.ref h_nam) (.ref h_var) (.ref h_trm) (.ref h_ter) (.int z106)))), (h_nam, .inl (cy_nam, 300, .inr (.inl f107))), (h_var, .inl (cy_var, 300, .inl f108)), (h_trm, .inl (cy_trm, 300, .inl f109)), (h_by, .inl (cy_by, 600, .inl f_by)), (h_rd, .inr (4, (mo31 (.ref h_by) (.int x_rd_length) (.int z644) (.int z645) (.ref h_td) (.ref h_kn) (.int x_rd_variables) (.int z124) (.int z125) (.int z126) (.long z127))))] := hD
        clear evq642 
        obtain ⟨k646, k647⟩ := hq
        replace k646 : ((z644)).toInt = ((2 : Int32)).toInt := k646
        replace k647 : ((z645)).toInt = ((z124)).toInt := k647
        refine lv_iload_n hx hb dX5_readPart_79 rfl (lv_at hl 0 rfl) ?_
        replace hP : va_P (dC, dI) cls [(h_rd, .inr (4, (mo31 (.ref h_by) (.int x_rd_length) (.int z644) (.int z645) (.ref h_td) (.ref h_kn) (.int x_rd_variables) (.int z124) (.int z125) (.int z126) (.long z127)))), (h_by, .inl (cy_by, 600, .inl f_by)), (h_kn, .inl (cy_kn, 8, .inl f_kn)), (h_td, .inr (5, (mo32 v_td (.ref h_nam) (.ref h_var) (.ref h_trm) (.ref h_ter) (.int z106)))), (h_nam, .inl (cy_nam, 300, .inr (.inl f107))), (h_var, .inl (cy_var, 300, .inl f108)), (h_trm, .inl (cy_trm, 300, .inl f109)), (h_ter, .inl (cy_ter, 900, .inl f_ter))] H := hP.sub [7, 6, 0, 2, 3, 4, 5, 1] rfl
        replace hD : va_D A [(h_rd, .inr (4, (mo31 (.ref h_by) (.int x_rd_length) (.int z644) (.int z645) (.ref h_td) (.ref h_kn) (.int x_rd_variables) (.int z124) (.int z125) (.int z126) (.long z127)))), (h_by, .inl (cy_by, 600, .inl f_by)), (h_kn, .inl (cy_kn, 8, .inl f_kn)), (h_td, .inr (5, (mo32 v_td (.ref h_nam) (.ref h_var) (.ref h_trm) (.ref h_ter) (.int z106)))), (h_nam, .inl (cy_nam, 300, .inr (.inl f107))), (h_var, .inl (cy_var, 300, .inl f108)), (h_trm, .inl (cy_trm, 300, .inl f109)), (h_ter, .inl (cy_ter, 900, .inl f_ter))] := hD.sub [7, 6, 0, 2, 3, 4, 5, 1] (by decide) rfl
        refine W.widen (k := 0) (n := 0) (Nat.le_of_ble_eq_true rfl) (Nat.le_of_ble_eq_true rfl) ?_
        have w648 : 0 ≤ ((x_rd_variables)).toInt ∧ ((x_rd_variables)).toInt ≤ 8 := by first | exact hx_rd_variables | omega
        have w649 : 0 ≤ ((z124)).toInt ∧ ((z124)).toInt ≤ 600 := by first | exact k128 | omega
        have w650 : 0 ≤ ((z125)).toInt ∧ ((z125)).toInt ≤ 600 := by first | exact k129 | omega
        have w651 : 0 ≤ ((z106)).toInt ∧ ((z106)).toInt ≤ 300 := by first | exact k110 | omega
        have w652 : 0 ≤ (r105 : Int32).toInt ∧ (r105 : Int32).toInt ≤ 299 := by first | exact k111 | omega
        have w653 : ((z644)).toInt = ((pTm G (x_rd_length).toInt (pPs G (x_rd_length).toInt dd) (x_rd_at).toInt (x_rd_variables).toInt vf)).1 := by omega
        have w654 : ((z124)).toInt = ((pTm G (x_rd_length).toInt (pPs G (x_rd_length).toInt dd) (x_rd_at).toInt (x_rd_variables).toInt vf)).2.1 := by omega
        have w655 : ((x_rd_variables)).toInt = ((pTm G (x_rd_length).toInt (pPs G (x_rd_length).toInt dd) (x_rd_at).toInt (x_rd_variables).toInt vf)).2.2.1 := by omega
        have w656 : (((z644)).toInt = 0 ∧ ((z645)).toInt = (x_rd_place).toInt) ∨ (¬ ((z644)).toInt = 0 ∧ ((z645)).toInt = ((z124)).toInt) := by omega
        have w657 : 2 * ((z106)).toInt ≤ ((z124)).toInt + 1 := by omega
        have w658 : ((z126)).toInt < 256 ∨ 2 * ((z106)).toInt ≤ ((z124)).toInt := by omega
        have w659 : (x_rd_at).toInt ≤ ((z124)).toInt := by omega
        have w660 : (x_rd_variables).toInt ≤ ((x_rd_variables)).toInt := by omega
        have w661 : (x_td_parts).toInt ≤ ((z106)).toInt := by omega
        have w662 : ((z126)).toInt = tkT G (x_rd_length).toInt ((z124)).toInt := by first | exact k132 | omega
        have w663 : ((z126)).toInt = -1 ∨ ((z125)).toInt = tkX G (x_rd_length).toInt ((z124)).toInt := by omega
        have w664 : ¬ ((z126)).toInt = 257 ∨ ((z127)).toInt = G ((z124)).toInt := by omega
        have w665 : -1 ≤ ((z126)).toInt ∧ ((z126)).toInt ≤ 258 := by first | exact k135 | omega
        have w666 : ((z125)).toInt ≤ (x_rd_length).toInt := by first | exact k136 | omega
        have w667 : ((z126)).toInt = -1 ∨ ((z124)).toInt < (x_rd_length).toInt := by omega
        have w668 : ((z124)).toInt ≤ (x_rd_length).toInt := by first | exact k138 | omega
        have w669 : VFC ((x_rd_variables)).toInt ((pTm G (x_rd_length).toInt (pPs G (x_rd_length).toInt dd) (x_rd_at).toInt (x_rd_variables).toInt vf)).2.2.2 (f_kn) (f107) ((z106)).toInt := (by rw [pq6414]; exact vf117)
        have w670 : VFV ((x_rd_variables)).toInt (f_kn) (f108) ((z106)).toInt := vv120
        have w671 : NMT ((z126)).toInt ((z127)).toInt (NMI 32 G (x_rd_length).toInt ((z124)).toInt) := k139
        have w672 : AGX (x_td_parts).toInt f_nam (f107) f_var (f108) f_trm (f109) f_ter (f_ter) := ac118
        have w673 : KX (x_rd_variables).toInt (kfn f_kn) (kfn (f_kn)) := kx_rf
        have w674 : TZG (f108) (f109) := (tz_add hn_tz k115 k116)
        have w675 : IFZ ((z644)).toInt (∃ L B : Nat, (L : Int) = (x_td_parts).toInt ∧ (B : Int) = ((z106)).toInt ∧ SPX G (x_rd_length).toInt 32 (CVW (f107) (f108) (f109) (f_ter)) ((x_rd_variables)).toInt ((pTm G (x_rd_length).toInt (pPs G (x_rd_length).toInt dd) (x_rd_at).toInt (x_rd_variables).toInt vf)).2.2.2 (kfn (f_kn)) L B (dd + 1) (Int32.toNatClampNeg (r105 : Int32)) (x_rd_at).toInt ((z124)).toInt) := (ifz_no (by omega))
        exact W.iret (v := r105) hx hb hr (fun t ht hW => ⟨⟨r105, (z644, z645, x_rd_variables, z124, z125, z126, z127, f_kn, z106, f107, f108, f109, f_ter), rfl, ⟨w648, w649, w650, hf_kn, w651, hf108, hf109, hf_ter, w652, w653, w654, w655, w656, w657, w658, w659, w660, w661, w662, w663, w664, w665, w666, w667, w668, w669, w670, w671, w672, w673, w674, w675⟩, by rw [ht]; exact hP, hD⟩, hS.F ht⟩) hS.2.2 dX5_readPart_80
    · have kc141 := (not_congr (cv_eq (rfl : (z126).toInt = (z126).toInt) (by decide : (40 : Int32).toInt = 40))).mp c141
      have pv9 : (pTm G (x_rd_length).toInt (pPs G (x_rd_length).toInt dd) (x_rd_at).toInt (x_rd_variables).toInt vf) = (0, tkN G (x_rd_length).toInt (x_rd_at).toInt, (x_rd_variables).toInt, vf) := (pTm_name (by omega)).trans (pPs_none (by omega))
      have pq6761 : ((pTm G (x_rd_length).toInt (pPs G (x_rd_length).toInt dd) (x_rd_at).toInt (x_rd_variables).toInt vf)).1 = 0 := by rw [pv9]
      have pq6762 : ((pTm G (x_rd_length).toInt (pPs G (x_rd_length).toInt dd) (x_rd_at).toInt (x_rd_variables).toInt vf)).2.1 = tkN G (x_rd_length).toInt (x_rd_at).toInt := by rw [pv9]
      have pq6763 : ((pTm G (x_rd_length).toInt (pPs G (x_rd_length).toInt dd) (x_rd_at).toInt (x_rd_variables).toInt vf)).2.2.1 = (x_rd_variables).toInt := by rw [pv9]
      have pq6764 : ((pTm G (x_rd_length).toInt (pPs G (x_rd_length).toInt dd) (x_rd_at).toInt (x_rd_variables).toInt vf)).2.2.2 = vf := by rw [pv9]
      refine lv_iload_n hx hb dX5_readPart_66 rfl (lv_at hl 0 rfl) ?_
      replace hP : va_P (dC, dI) cls [(h_rd, .inr (4, (mo31 (.ref h_by) (.int x_rd_length) (.int x_rd_fault) (.int x_rd_place) (.ref h_td) (.ref h_kn) (.int x_rd_variables) (.int z124) (.int z125) (.int z126) (.long z127)))), (h_by, .inl (cy_by, 600, .inl f_by)), (h_kn, .inl (cy_kn, 8, .inl f_kn)), (h_td, .inr (5, (mo32 v_td (.ref h_nam) (.ref h_var) (.ref h_trm) (.ref h_ter) (.int z106)))), (h_nam, .inl (cy_nam, 300, .inr (.inl f107))), (h_var, .inl (cy_var, 300, .inl f108)), (h_trm, .inl (cy_trm, 300, .inl f109)), (h_ter, .inl (cy_ter, 900, .inl f_ter))] H := hP.sub [6, 7, 0, 2, 3, 4, 5, 1] rfl
      replace hD : va_D A [(h_rd, .inr (4, (mo31 (.ref h_by) (.int x_rd_length) (.int x_rd_fault) (.int x_rd_place) (.ref h_td) (.ref h_kn) (.int x_rd_variables) (.int z124) (.int z125) (.int z126) (.long z127)))), (h_by, .inl (cy_by, 600, .inl f_by)), (h_kn, .inl (cy_kn, 8, .inl f_kn)), (h_td, .inr (5, (mo32 v_td (.ref h_nam) (.ref h_var) (.ref h_trm) (.ref h_ter) (.int z106)))), (h_nam, .inl (cy_nam, 300, .inr (.inl f107))), (h_var, .inl (cy_var, 300, .inl f108)), (h_trm, .inl (cy_trm, 300, .inl f109)), (h_ter, .inl (cy_ter, 900, .inl f_ter))] := hD.sub [6, 7, 0, 2, 3, 4, 5, 1] (by decide) rfl
      refine W.widen (k := 0) (n := 0) (Nat.le_of_ble_eq_true rfl) (Nat.le_of_ble_eq_true rfl) ?_
      have w677 : 0 ≤ ((x_rd_variables)).toInt ∧ ((x_rd_variables)).toInt ≤ 8 := by first | exact hx_rd_variables | omega
      have w678 : 0 ≤ ((z124)).toInt ∧ ((z124)).toInt ≤ 600 := by first | exact k128 | omega
      have w679 : 0 ≤ ((z125)).toInt ∧ ((z125)).toInt ≤ 600 := by first | exact k129 | omega
      have w680 : 0 ≤ ((z106)).toInt ∧ ((z106)).toInt ≤ 300 := by first | exact k110 | omega
      have w681 : 0 ≤ (r105 : Int32).toInt ∧ (r105 : Int32).toInt ≤ 299 := by first | exact k111 | omega
      have w682 : ((x_rd_fault)).toInt = ((pTm G (x_rd_length).toInt (pPs G (x_rd_length).toInt dd) (x_rd_at).toInt (x_rd_variables).toInt vf)).1 := by omega
      have w683 : ((z124)).toInt = ((pTm G (x_rd_length).toInt (pPs G (x_rd_length).toInt dd) (x_rd_at).toInt (x_rd_variables).toInt vf)).2.1 := by omega
      have w684 : ((x_rd_variables)).toInt = ((pTm G (x_rd_length).toInt (pPs G (x_rd_length).toInt dd) (x_rd_at).toInt (x_rd_variables).toInt vf)).2.2.1 := by omega
      have w685 : (((x_rd_fault)).toInt = 0 ∧ ((x_rd_place)).toInt = (x_rd_place).toInt) ∨ (¬ ((x_rd_fault)).toInt = 0 ∧ ((x_rd_place)).toInt = ((z124)).toInt) := by omega
      have w686 : 2 * ((z106)).toInt ≤ ((z124)).toInt + 1 := by omega
      have w687 : ((z126)).toInt < 256 ∨ 2 * ((z106)).toInt ≤ ((z124)).toInt := by omega
      have w688 : (x_rd_at).toInt ≤ ((z124)).toInt := by omega
      have w689 : (x_rd_variables).toInt ≤ ((x_rd_variables)).toInt := by omega
      have w690 : (x_td_parts).toInt ≤ ((z106)).toInt := by omega
      have w691 : ((z126)).toInt = tkT G (x_rd_length).toInt ((z124)).toInt := by first | exact k132 | omega
      have w692 : ((z126)).toInt = -1 ∨ ((z125)).toInt = tkX G (x_rd_length).toInt ((z124)).toInt := by first | exact k133 | omega
      have w693 : ¬ ((z126)).toInt = 257 ∨ ((z127)).toInt = G ((z124)).toInt := by first | exact k134 | omega
      have w694 : -1 ≤ ((z126)).toInt ∧ ((z126)).toInt ≤ 258 := by first | exact k135 | omega
      have w695 : ((z125)).toInt ≤ (x_rd_length).toInt := by first | exact k136 | omega
      have w696 : ((z126)).toInt = -1 ∨ ((z124)).toInt < (x_rd_length).toInt := by first | exact k137 | omega
      have w697 : ((z124)).toInt ≤ (x_rd_length).toInt := by first | exact k138 | omega
      have w698 : VFC ((x_rd_variables)).toInt ((pTm G (x_rd_length).toInt (pPs G (x_rd_length).toInt dd) (x_rd_at).toInt (x_rd_variables).toInt vf)).2.2.2 (f_kn) (f107) ((z106)).toInt := (by rw [pq6764]; exact vf117)
      have w699 : VFV ((x_rd_variables)).toInt (f_kn) (f108) ((z106)).toInt := vv120
      have w700 : NMT ((z126)).toInt ((z127)).toInt (NMI 32 G (x_rd_length).toInt ((z124)).toInt) := k139
      have w701 : AGX (x_td_parts).toInt f_nam (f107) f_var (f108) f_trm (f109) f_ter (f_ter) := ac118
      have w702 : KX (x_rd_variables).toInt (kfn f_kn) (kfn (f_kn)) := kx_rf
      have w703 : TZG (f108) (f109) := (tz_add hn_tz k115 k116)
      have w704 : IFZ ((x_rd_fault)).toInt (∃ L B : Nat, (L : Int) = (x_td_parts).toInt ∧ (B : Int) = ((z106)).toInt ∧ SPX G (x_rd_length).toInt 32 (CVW (f107) (f108) (f109) (f_ter)) ((x_rd_variables)).toInt ((pTm G (x_rd_length).toInt (pPs G (x_rd_length).toInt dd) (x_rd_at).toInt (x_rd_variables).toInt vf)).2.2.2 (kfn (f_kn)) L B (dd + 1) (Int32.toNatClampNeg (r105 : Int32)) (x_rd_at).toInt ((z124)).toInt) := (ifz_yes (by rw [pq6764]; exact ⟨(x_td_parts).toInt.toNat, (z106).toInt.toNat, by omega, by omega, spx_name (by omega) (by omega) (P0 := (z106).toInt) (by omega) (by omega) ow119 (by omega) (by omega) (by omega)⟩))
      exact W.iret (v := r105) hx hb hr (fun t ht hW => ⟨⟨r105, (x_rd_fault, x_rd_place, x_rd_variables, z124, z125, z126, z127, f_kn, z106, f107, f108, f109, f_ter), rfl, ⟨w677, w678, w679, hf_kn, w680, hf108, hf109, hf_ter, w681, w682, w683, w684, w685, w686, w687, w688, w689, w690, w691, w692, w693, w694, w695, w696, w697, w698, w699, w700, w701, w702, w703, w704⟩, by rw [ht]; exact hP, hD⟩, hS.F ht⟩) hS.2.2 dX5_readPart_67

