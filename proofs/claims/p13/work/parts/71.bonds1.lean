set_option maxHeartbeats 8000000 in
set_option maxRecDepth 100000 in
theorem c_X1_pushTerms_1 (l : Launch) (dC : Nat → ClassId) (dI : Nat → Nat → Nat) (sz : Nat) (h_bd : Nat) (h_lef : Nat) (h_rig : Nat) (h_td : Nat) (h_trm : Nat) (h_ter : Nat) (v_bd : Nat → Value) (x_bd_top : Int32) (cy_lef : ClassId) (f_lef : Nat → Int32) (cy_rig : ClassId) (f_rig : Nat → Int32) (v_td : Nat → Value) (cy_trm : ClassId) (f_trm : Nat → Int32) (cy_ter : ClassId) (f_ter : Nat → Int32) (p1 : Int32) (p2 : Int32) (Lo : Int) (Hi : Int) (hx_bd_top : 0 ≤ (x_bd_top).toInt ∧ (x_bd_top).toInt ≤ 2048) (hf_lef : Rg (-9600) 9599 f_lef) (hf_rig : Rg 0 9599 f_rig) (hf_trm : Rg 0 3 f_trm) (hf_ter : Rg 0 299 f_ter) (q0 : 0 ≤ (p1).toInt ∧ (p1).toInt ≤ 9599) (q1 : 0 ≤ (p2).toInt ∧ (p2).toInt ≤ 9599) (q2 : 0 ≤ Lo ∧ Lo < Hi ∧ Hi ≤ 32) (q3 : 300 * Lo ≤ (p1).toInt ∧ (p1).toInt < 300 * Hi) (q4 : 300 * Lo ≤ (p2).toInt ∧ (p2).toInt < 300 * Hi) (hn_stl : STL Lo Hi (x_bd_top).toInt f_lef) (hn_str : STR Lo Hi (x_bd_top).toInt f_rig) : Met l yX1_pushTerms (Ws yX1_pushTerms cX1_pushTerms 8 (some .boolean)) (({ frames := 0, cells := 0, slots := 0, locals := 0 } : Room)) (PRE (dC, dI) cls [(cy_lef, .int), (cy_rig, .int), (cy_trm, .int), (cy_ter, .int)] [(h_bd, .inr (1, (mo15 v_bd (.ref h_td) (.ref h_lef) (.ref h_rig) (.int x_bd_top)))), (h_lef, .inl (cy_lef, 2048, .inl f_lef)), (h_rig, .inl (cy_rig, 2048, .inl f_rig)), (h_td, .inr (5, (mo16 v_td (.ref h_trm) (.ref h_ter)))), (h_trm, .inl (cy_trm, 300, .inl f_trm)), (h_ter, .inl (cy_ter, 900, .inl f_ter))] sz [.ref h_bd, .int p1, .int p2, .int 1]) (va_Qi (fun (r : Int32) (u : (Int32) × (Nat → Int32) × (Nat → Int32)) => (0 ≤ (u.1).toInt ∧ (u.1).toInt ≤ 2048) ∧ (Rg (-9600) 9599 u.2.1) ∧ (Rg 0 9599 u.2.2) ∧ (0 ≤ r.toInt ∧ r.toInt ≤ 1) ∧ (STL Lo Hi (u.1).toInt u.2.1) ∧ (STR Lo Hi (u.1).toInt u.2.2)) (fun (u : (Int32) × (Nat → Int32) × (Nat → Int32)) (t : State) => va_P (dC, dI) cls [(h_bd, .inr (1, (mo15 v_bd (.ref h_td) (.ref h_lef) (.ref h_rig) (.int u.1)))), (h_lef, .inl (cy_lef, 2048, .inl u.2.1)), (h_rig, .inl (cy_rig, 2048, .inl u.2.2)), (h_td, .inr (5, (mo16 v_td (.ref h_trm) (.ref h_ter)))), (h_trm, .inl (cy_trm, 300, .inl f_trm)), (h_ter, .inl (cy_ter, 900, .inl f_ter))] t.heap ∧ va_D (va_A [(h_bd, .inr (1, (mo15 v_bd (.ref h_td) (.ref h_lef) (.ref h_rig) (.int x_bd_top)))), (h_lef, .inl (cy_lef, 2048, .inl f_lef)), (h_rig, .inl (cy_rig, 2048, .inl f_rig)), (h_td, .inr (5, (mo16 v_td (.ref h_trm) (.ref h_ter)))), (h_trm, .inl (cy_trm, 300, .inl f_trm)), (h_ter, .inl (cy_ter, 900, .inl f_ter))] sz) [(h_bd, .inr (1, (mo15 v_bd (.ref h_td) (.ref h_lef) (.ref h_rig) (.int u.1)))), (h_lef, .inl (cy_lef, 2048, .inl u.2.1)), (h_rig, .inl (cy_rig, 2048, .inl u.2.2)), (h_td, .inr (5, (mo16 v_td (.ref h_trm) (.ref h_ter)))), (h_trm, .inl (cy_trm, 300, .inl f_trm)), (h_ter, .inl (cy_ter, 900, .inl f_ter))]) (va_A [(h_bd, .inr (1, (mo15 v_bd (.ref h_td) (.ref h_lef) (.ref h_rig) (.int x_bd_top)))), (h_lef, .inl (cy_lef, 2048, .inl f_lef)), (h_rig, .inl (cy_rig, 2048, .inl f_rig)), (h_td, .inr (5, (mo16 v_td (.ref h_trm) (.ref h_ter)))), (h_trm, .inl (cy_trm, 300, .inl f_trm)), (h_ter, .inl (cy_ter, 900, .inl f_ter))] sz)) 0 0 (va_A [(h_bd, .inr (1, (mo15 v_bd (.ref h_td) (.ref h_lef) (.ref h_rig) (.int x_bd_top)))), (h_lef, .inl (cy_lef, 2048, .inl f_lef)), (h_rig, .inl (cy_rig, 2048, .inl f_rig)), (h_td, .inr (5, (mo16 v_td (.ref h_trm) (.ref h_ter)))), (h_trm, .inl (cy_trm, 300, .inl f_trm)), (h_ter, .inl (cy_ter, 900, .inl f_ter))] sz) := by
  refine Met.ofW (cc := cX1_pushTerms) (maxL := 8) (ret := (some .boolean)) (by decide) rfl ?_
  intro p e s m args below meth c s₁ B hml hv
  obtain ⟨rfl, hsz, hP, hK, hD0, hN⟩ := hv
  have hx := B.exec
  have hb := B.bytes
  have hr := B.returns
  have hts := atoms_spec (ws := Ws yX1_pushTerms cX1_pushTerms 8 (some .boolean)) B.pre
  have hT : ∀ w ∈ WALL, w ∈ Ws yX1_pushTerms cX1_pushTerms 8 (some .boolean) := fun w h => List.mem_cons_of_mem _ h
  have hw := fun w (h : w ∈ WALL) => hts w (hT w h)
  have hown : s.vm.findClass RX1 = some m.cls := findClass_of_methodNamed B.named
  have hlocks := B.notSynchronized
  subst hsz
  have hD := hD0.self (sz := s.heap.size)
  generalize hAe : va_A [(h_bd, .inr (1, (mo15 v_bd (.ref h_td) (.ref h_lef) (.ref h_rig) (.int x_bd_top)))), (h_lef, .inl (cy_lef, 2048, .inl f_lef)), (h_rig, .inl (cy_rig, 2048, .inl f_rig)), (h_td, .inr (5, (mo16 v_td (.ref h_trm) (.ref h_ter)))), (h_trm, .inl (cy_trm, 300, .inl f_trm)), (h_ter, .inl (cy_ter, 900, .inl f_ter))] s.heap.size = A at hD ⊢
  have hA : ∀ q : Nat, s.heap.size ≤ q → A q := fun q h => by rw [← hAe]; exact Or.inr h
  have hS : va_S A s.heap s.heap [] := va_S.rf
  have hl := lv_entry ([.ref h_bd, .int p1, .int p2, .int 1]) (n := 8) (Nat.le_of_ble_eq_true rfl)
  rw [lg_entry_eq]
  generalize (lg_sl ([.ref h_bd, .int p1, .int p2, .int 1]) ++ List.replicate (8 - (lg_sl ([.ref h_bd, .int p1, .int p2, .int 1])).length) Slot.unset).toArray = ls at hl ⊢
  have hl : lv_has ls 8 [(0, .ref h_bd), (1, .int p1), (2, .int p2), (3, .int 1)] := hl
  refine lv_iload_n hx hb dX1_pushTerms_0 rfl (lv_at hl 1 rfl) ?_
  refine lv_sipush (v := 300) hx hb dX1_pushTerms_1 (by decide) ?_
  refine lv_irem hx hb dX1_pushTerms_4 (by decide) ?_
  refine lv_topi (fun z1 ez1 => ?_)
  have tz1 : (z1).toInt = (p1).toInt % 300 := by rw [ez1]; exact i_rem rfl (by decide) (by omega)
  refine lv_istore (lv' := [(4, .int z1), (0, .ref h_bd), (1, .int p1), (2, .int p2), (3, .int 1)]) hx hb dX1_pushTerms_5 hl (by decide) rfl (fun ls hl => ?_)
  refine lv_iload_n hx hb dX1_pushTerms_7 rfl (lv_at hl 3 rfl) ?_
  refine lv_sipush (v := 300) hx hb dX1_pushTerms_8 (by decide) ?_
  refine lv_irem hx hb dX1_pushTerms_11 (by decide) ?_
  refine lv_topi (fun z2 ez2 => ?_)
  have tz2 : (z2).toInt = (p2).toInt % 300 := by rw [ez2]; exact i_rem rfl (by decide) (by omega)
  refine lv_istore (lv' := [(5, .int z2), (4, .int z1), (0, .ref h_bd), (1, .int p1), (2, .int p2), (3, .int 1)]) hx hb dX1_pushTerms_12 hl (by decide) rfl (fun ls hl => ?_)
  refine lv_aload_n hx hb dX1_pushTerms_14 rfl (lv_at hl 2 rfl) ?_
  refine va_get (D := (dC, dI)) (ci := 1) (v := .ref h_td) (C := RX1) (T := TX1) (N := 13) hx hb hw iwX1 hown hK hP 0 rfl rfl 0 (by decide) (hw _ w_f_X1_36) (fun _ h9 => h9) rfl dX1_pushTerms_15 ?_
  refine va_getN (D := (dC, dI)) (ci := 5) (v := .ref h_trm) (C := RX8) (T := TX8) (N := 10) (host := "OppositePairs") hx hb hw iwX8 hown hK hP 3 rfl rfl 2 (by decide) (hN.use n_f_X1_88 rfl) (fun _ h9 => h9) rfl dX1_pushTerms_18 ?_
  refine lv_iload hx hb dX1_pushTerms_21 (lv_at hl 1 rfl) ?_
  refine va_iald hx hb hK hP 4 2 rfl rfl (i := z1) (vp_in_iff.mpr (by omega)) dX1_pushTerms_23 ?_
  refine lv_topi (fun z3 ez3 => ?_)
  have rz3 : 0 ≤ (z3).toInt ∧ (z3).toInt ≤ 3 := by rw [ez3]; exact hf_trm _
  refine lv_istore (lv' := [(6, .int z3), (5, .int z2), (4, .int z1), (0, .ref h_bd), (1, .int p1), (2, .int p2), (3, .int 1)]) hx hb dX1_pushTerms_24 hl (by decide) rfl (fun ls hl => ?_)
  refine lv_aload_n hx hb dX1_pushTerms_26 rfl (lv_at hl 3 rfl) ?_
  refine va_get (D := (dC, dI)) (ci := 1) (v := .int x_bd_top) (C := RX1) (T := TX1) (N := 13) hx hb hw iwX1 hown hK hP 0 rfl rfl 9 (by decide) (hw _ w_f_X1_49) (fun _ h9 => h9) rfl dX1_pushTerms_27 ?_
  refine lv_iload hx hb dX1_pushTerms_30 (lv_at hl 0 rfl) ?_
  refine lv_iadd hx hb dX1_pushTerms_32 ?_
  refine lv_topi (fun z4 ez4 => ?_)
  have tz4 : (z4).toInt = (x_bd_top).toInt + (z3).toInt := by rw [ez4]; exact i_add rfl rfl (by omega)
  refine lv_iconst (v := 1) hx hb dX1_pushTerms_33 (by decide) ?_
  refine lv_iadd hx hb dX1_pushTerms_34 ?_
  refine lv_topi (fun z5 ez5 => ?_)
  have tz5 : (z5).toInt = (z4).toInt + 1 := by rw [ez5]; exact i_add rfl (by decide) (by omega)
  refine lv_sipush (v := 2048) hx hb dX1_pushTerms_35 (by decide) ?_
  refine lv_icmp_le (tgt := 43) hx hb dX1_pushTerms_38 (by decide) (fun c6 => ?_) (fun c6 => ?_)
  · have kc6 := (cv_le (rfl : (z5).toInt = (z5).toInt) (by decide : (2048 : Int32).toInt = 2048)).mp c6
    refine lv_iload_n hx hb dX1_pushTerms_43 rfl (lv_at hl 6 rfl) ?_
    refine lv_if_eq (tgt := 81) hx hb dX1_pushTerms_44 (by decide) (fun c9 => absurd c9 (by decide)) (fun _ => ?_)
    refine lv_iload hx hb dX1_pushTerms_47 (lv_at hl 0 rfl) ?_
    refine lv_if_le (tgt := 81) hx hb dX1_pushTerms_49 (by decide) (fun c7 => ?_) (fun c7 => ?_)
    · have kc7 := (cv_le (rfl : (z3).toInt = (z3).toInt) (by decide : (0 : Int32).toInt = 0)).mp c7
      refine lv_iload hx hb dX1_pushTerms_81 (lv_at hl 0 rfl) ?_
      refine lv_iconst (v := 1) hx hb dX1_pushTerms_83 (by decide) ?_
      refine lv_isub hx hb dX1_pushTerms_84 ?_
      refine lv_topi (fun z8 ez8 => ?_)
      have tz8 : (z8).toInt = (z3).toInt - 1 := by rw [ez8]; exact i_sub rfl (by decide) (by omega)
      refine lv_istore (lv' := [(7, .int z8), (6, .int z3), (5, .int z2), (4, .int z1), (0, .ref h_bd), (1, .int p1), (2, .int p2), (3, .int 1)]) hx hb dX1_pushTerms_85 hl (by decide) rfl (fun ls hl => ?_)
      have lp13 : ∀ (n : Nat) (x9 : Int32) (x10 : Int32) (f11 : Nat → Int32) (f12 : Nat → Int32) (H : Heap) (locs : List Loc) (ls : Array Slot), (-1 ≤ (x9).toInt ∧ (x9).toInt ≤ 2) → (0 ≤ (x10).toInt ∧ (x10).toInt ≤ 2048) → (Rg (-9600) 9599 f11) → (Rg 0 9599 f12) → ((x10).toInt + (x9).toInt + 1 ≤ 2048) → (STL Lo Hi (x10).toInt f11) → (STR Lo Hi (x10).toInt f12) → ((x9).toInt + 1).toNat + 1 ≤ n → va_P (dC, dI) cls [(h_bd, .inr (1, (mo15 v_bd (.ref h_td) (.ref h_lef) (.ref h_rig) (.int x10)))), (h_lef, .inl (cy_lef, 2048, .inl f11)), (h_rig, .inl (cy_rig, 2048, .inl f12)), (h_td, .inr (5, (mo16 v_td (.ref h_trm) (.ref h_ter)))), (h_trm, .inl (cy_trm, 300, .inl f_trm)), (h_ter, .inl (cy_ter, 900, .inl f_ter))] H → va_D A [(h_bd, .inr (1, (mo15 v_bd (.ref h_td) (.ref h_lef) (.ref h_rig) (.int x10)))), (h_lef, .inl (cy_lef, 2048, .inl f11)), (h_rig, .inl (cy_rig, 2048, .inl f12)), (h_td, .inr (5, (mo16 v_td (.ref h_trm) (.ref h_ter)))), (h_trm, .inl (cy_trm, 300, .inl f_trm)), (h_ter, .inl (cy_ter, 900, .inl f_ter))] → va_S A s.heap H locs → lv_has ls 8 [(0, .ref h_bd), (1, .int p1), (2, .int p2), (3, .int 1), (4, .int z1), (5, .int z2), (6, .int z3), (7, .int x9)] → W p l e ({ frames := 0, cells := 0, slots := 0, locals := 0 } : Room) s m ([.ref h_bd, .int p1, .int p2, .int 1] : List Value).toArray below meth c H locs 0 0 (MQ below (va_Qi (fun (r : Int32) (u : (Int32) × (Nat → Int32) × (Nat → Int32)) => (0 ≤ (u.1).toInt ∧ (u.1).toInt ≤ 2048) ∧ (Rg (-9600) 9599 u.2.1) ∧ (Rg 0 9599 u.2.2) ∧ (0 ≤ r.toInt ∧ r.toInt ≤ 1) ∧ (STL Lo Hi (u.1).toInt u.2.1) ∧ (STR Lo Hi (u.1).toInt u.2.2)) (fun (u : (Int32) × (Nat → Int32) × (Nat → Int32)) (t : State) => va_P (dC, dI) cls [(h_bd, .inr (1, (mo15 v_bd (.ref h_td) (.ref h_lef) (.ref h_rig) (.int u.1)))), (h_lef, .inl (cy_lef, 2048, .inl u.2.1)), (h_rig, .inl (cy_rig, 2048, .inl u.2.2)), (h_td, .inr (5, (mo16 v_td (.ref h_trm) (.ref h_ter)))), (h_trm, .inl (cy_trm, 300, .inl f_trm)), (h_ter, .inl (cy_ter, 900, .inl f_ter))] t.heap ∧ va_D A [(h_bd, .inr (1, (mo15 v_bd (.ref h_td) (.ref h_lef) (.ref h_rig) (.int u.1)))), (h_lef, .inl (cy_lef, 2048, .inl u.2.1)), (h_rig, .inl (cy_rig, 2048, .inl u.2.2)), (h_td, .inr (5, (mo16 v_td (.ref h_trm) (.ref h_ter)))), (h_trm, .inl (cy_trm, 300, .inl f_trm)), (h_ter, .inl (cy_ter, 900, .inl f_ter))]) A) ([.ref h_bd, .int p1, .int p2, .int 1] : List Value).toArray s 0 0 A) (F0 m 87 ls []) := by
        clear hP hD hS hl
        intro n
        induction n with
        | zero => intro x9 x10 f11 f12 H locs ls klp13_0 klp13_1 hf11 hf12 klp13_4 klp13_5 klp13_6 hm hP hD hS hl; exact False.elim (by omega)
        | succ n ih => 
          intro x9 x10 f11 f12 H locs ls klp13_0 klp13_1 hf11 hf12 klp13_4 klp13_5 klp13_6 hm hP hD hS hl
          have ih14 := ih
          clear ih
          refine lv_iload hx hb dX1_pushTerms_87 (lv_at hl 7 rfl) ?_
          refine lv_if_lt (tgt := 163) hx hb dX1_pushTerms_89 (by decide) (fun c15 => ?_) (fun c15 => ?_)
          · have kc15 := (cv_lt (rfl : (x9).toInt = (x9).toInt) (by decide : (0 : Int32).toInt = 0)).mp c15
            refine lv_iconst (v := 1) hx hb dX1_pushTerms_163 (by decide) ?_
            refine W.widen (k := 0) (n := 0) (Nat.le_of_ble_eq_true rfl) (Nat.le_of_ble_eq_true rfl) ?_
            have cst1 : (1 : Int32).toInt = 1 := by decide
            have w16 : 0 ≤ ((x10)).toInt ∧ ((x10)).toInt ≤ 2048 := by first | exact klp13_1 | omega
            have w17 : 0 ≤ (1 : Int32).toInt ∧ (1 : Int32).toInt ≤ 1 := by omega
            have w18 : STL Lo Hi ((x10)).toInt (f11) := (stl_le klp13_5 (by omega))
            have w19 : STR Lo Hi ((x10)).toInt (f12) := (str_le klp13_6 (by omega))
            exact W.zret (v := 1) (ty := .boolean) hx hb hr (by decide) (fun t ht hW => ⟨⟨1, (x10, f11, f12), rfl, ⟨w16, hf11, hf12, w17, w18, w19⟩, by rw [ht]; exact hP, hD⟩, hS.F ht⟩) hS.2.2 dX1_pushTerms_164
          · have kc15 := (not_congr (cv_lt (rfl : (x9).toInt = (x9).toInt) (by decide : (0 : Int32).toInt = 0))).mp c15
            refine lv_aload_n hx hb dX1_pushTerms_92 rfl (lv_at hl 0 rfl) ?_
            refine va_get (D := (dC, dI)) (ci := 1) (v := .ref h_lef) (C := RX1) (T := TX1) (N := 13) hx hb hw iwX1 hown hK hP 0 rfl rfl 7 (by decide) (hw _ w_f_X1_24) (fun _ h9 => h9) rfl dX1_pushTerms_93 ?_
            refine lv_aload_n hx hb dX1_pushTerms_96 rfl (lv_at hl 0 rfl) ?_
            refine va_get (D := (dC, dI)) (ci := 1) (v := .int x10) (C := RX1) (T := TX1) (N := 13) hx hb hw iwX1 hown hK hP 0 rfl rfl 9 (by decide) (hw _ w_f_X1_49) (fun _ h9 => h9) rfl dX1_pushTerms_97 ?_
            refine lv_iload_n hx hb dX1_pushTerms_100 rfl (lv_at hl 1 rfl) ?_
            refine lv_iload hx hb dX1_pushTerms_101 (lv_at hl 4 rfl) ?_
            refine lv_isub hx hb dX1_pushTerms_103 ?_
            refine lv_topi (fun z20 ez20 => ?_)
            have tz20 : (z20).toInt = (p1).toInt - (z1).toInt := by rw [ez20]; exact i_sub rfl rfl (by omega)
            have sz20 : 0 ≤ (z20).toInt ∧ (z20).toInt ≤ 9300 := by omega
            refine lv_aload_n hx hb dX1_pushTerms_104 rfl (lv_at hl 0 rfl) ?_
            refine va_get (D := (dC, dI)) (ci := 1) (v := .ref h_td) (C := RX1) (T := TX1) (N := 13) hx hb hw iwX1 hown hK hP 0 rfl rfl 0 (by decide) (hw _ w_f_X1_36) (fun _ h9 => h9) rfl dX1_pushTerms_105 ?_
            refine va_getN (D := (dC, dI)) (ci := 5) (v := .ref h_ter) (C := RX8) (T := TX8) (N := 10) (host := "OppositePairs") hx hb hw iwX8 hown hK hP 3 rfl rfl 3 (by decide) (hN.use n_f_X1_91 rfl) (fun _ h9 => h9) rfl dX1_pushTerms_108 ?_
            refine lv_iload hx hb dX1_pushTerms_111 (lv_at hl 4 rfl) ?_
            refine lv_iconst (v := 3) hx hb dX1_pushTerms_113 (by decide) ?_
            refine lv_imul hx hb dX1_pushTerms_114 ?_
            refine lv_topi (fun z21 ez21 => ?_)
            have tz21 : (z21).toInt = (z1).toInt * 3 := by rw [ez21]; exact i_mul rfl (by decide) (by omega)
            refine lv_iload hx hb dX1_pushTerms_115 (lv_at hl 7 rfl) ?_
            refine lv_iadd hx hb dX1_pushTerms_117 ?_
            refine lv_topi (fun z22 ez22 => ?_)
            have tz22 : (z22).toInt = (z21).toInt + (x9).toInt := by rw [ez22]; exact i_add rfl rfl (by omega)
            refine va_iald hx hb hK hP 5 3 rfl rfl (i := z22) (vp_in_iff.mpr (by omega)) dX1_pushTerms_118 ?_
            refine lv_topi (fun z23 ez23 => ?_)
            have rz23 : 0 ≤ (z23).toInt ∧ (z23).toInt ≤ 299 := by rw [ez23]; exact hf_ter _
            refine lv_iadd hx hb dX1_pushTerms_119 ?_
            refine lv_topi (fun z24 ez24 => ?_)
            have tz24 : (z24).toInt = (z20).toInt + (z23).toInt := by rw [ez24]; exact i_add rfl rfl (by omega)
            refine va_iast hx hb hK hP hD hS 1 0 rfl rfl (i := x10) (x := z24) (vp_in_iff.mpr (by omega)) dX1_pushTerms_120 (fun H locs hP9 hD9 hS9 => ?_)
            obtain ⟨f25, ef25⟩ : ∃ g : Nat → Int32, g = upd f11 (Int32.toNatClampNeg x10) z24 := ⟨_, rfl⟩
            clear hP hD hS
            have hP : va_P (dC, dI) cls [(h_bd, .inr (1, (mo15 v_bd (.ref h_td) (.ref h_lef) (.ref h_rig) (.int x10)))), (h_lef, .inl (cy_lef, 2048, .inl f25)), (h_rig, .inl (cy_rig, 2048, .inl f12)), (h_td, .inr (5, (mo16 v_td (.ref h_trm) (.ref h_ter)))), (h_trm, .inl (cy_trm, 300, .inl f_trm)), (h_ter, .inl (cy_ter, 900, .inl f_ter))] H := by rw [ef25]; exact hP9
            have hD : va_D A [(h_bd, .inr (1, (mo15 v_bd (.ref h_td) (.ref h_lef) (.ref h_rig) (.int x10)))), (h_lef, .inl (cy_lef, 2048, .inl f25)), (h_rig, .inl (cy_rig, 2048, .inl f12)), (h_td, .inr (5, (mo16 v_td (.ref h_trm) (.ref h_ter)))), (h_trm, .inl (cy_trm, 300, .inl f_trm)), (h_ter, .inl (cy_ter, 900, .inl f_ter))] := by rw [ef25]; exact hD9
            have hS := hS9
            clear hP9 hD9 hS9
            have hf25 : Rg (-9600) 9599 f25 := by rw [ef25]; exact rg_upd hf11 (by omega)
            have stl26 := stl_upd (u := (x10).toInt) klp13_5 rfl (by omega) (by omega) ef25 (by omega)
            refine lv_aload_n hx hb dX1_pushTerms_121 rfl (lv_at hl 0 rfl) ?_
            refine va_get (D := (dC, dI)) (ci := 1) (v := .ref h_rig) (C := RX1) (T := TX1) (N := 13) hx hb hw iwX1 hown hK hP 0 rfl rfl 8 (by decide) (hw _ w_f_X1_27) (fun _ h9 => h9) rfl dX1_pushTerms_122 ?_
            refine lv_aload_n hx hb dX1_pushTerms_125 rfl (lv_at hl 0 rfl) ?_
            refine lv_dup hx hb dX1_pushTerms_126 rfl ?_
            refine va_get (D := (dC, dI)) (ci := 1) (v := .int x10) (C := RX1) (T := TX1) (N := 13) hx hb hw iwX1 hown hK hP 0 rfl rfl 9 (by decide) (hw _ w_f_X1_49) (fun _ h9 => h9) rfl dX1_pushTerms_127 ?_
            refine lv_dup_x1 hx hb dX1_pushTerms_130 rfl rfl ?_
            refine lv_iconst (v := 1) hx hb dX1_pushTerms_131 (by decide) ?_
            refine lv_iadd hx hb dX1_pushTerms_132 ?_
            refine lv_topi (fun z27 ez27 => ?_)
            have tz27 : (z27).toInt = (x10).toInt + 1 := by rw [ez27]; exact i_add rfl (by decide) (by omega)
            refine va_put (D := (dC, dI)) (ci := 1) (v := .int z27) (ty := tyX1 9) (C := RX1) (T := TX1) (N := 13) hx hb hw iwX1 tyX1 tyX1_ok nmX1 hown hK hP hD hS 0 rfl rfl 9 (by decide) (hw _ w_f_X1_49) (fun _ h9 => h9) rfl (tyX1_ok 9 (by decide)) rfl rfl (Nat.le_of_ble_eq_true rfl) dX1_pushTerms_133 (fun H locs hP9 hD9 hS9 => ?_)
            clear hP hD hS
            have hP : va_P (dC, dI) cls [(h_bd, .inr (1, (mo15 v_bd (.ref h_td) (.ref h_lef) (.ref h_rig) (.int z27)))), (h_lef, .inl (cy_lef, 2048, .inl f25)), (h_rig, .inl (cy_rig, 2048, .inl f12)), (h_td, .inr (5, (mo16 v_td (.ref h_trm) (.ref h_ter)))), (h_trm, .inl (cy_trm, 300, .inl f_trm)), (h_ter, .inl (cy_ter, 900, .inl f_ter))] H := hP9
            have hD : va_D A [(h_bd, .inr (1, (mo15 v_bd (.ref h_td) (.ref h_lef) (.ref h_rig) (.int z27)))), (h_lef, .inl (cy_lef, 2048, .inl f25)), (h_rig, .inl (cy_rig, 2048, .inl f12)), (h_td, .inr (5, (mo16 v_td (.ref h_trm) (.ref h_ter)))), (h_trm, .inl (cy_trm, 300, .inl f_trm)), (h_ter, .inl (cy_ter, 900, .inl f_ter))] := hD9
            have hS := hS9
            clear hP9 hD9 hS9
            refine lv_iload_n hx hb dX1_pushTerms_136 rfl (lv_at hl 2 rfl) ?_
            refine lv_iload hx hb dX1_pushTerms_137 (lv_at hl 5 rfl) ?_
            refine lv_isub hx hb dX1_pushTerms_139 ?_
            refine lv_topi (fun z28 ez28 => ?_)
            have tz28 : (z28).toInt = (p2).toInt - (z2).toInt := by rw [ez28]; exact i_sub rfl rfl (by omega)
            have sz28 : 0 ≤ (z28).toInt ∧ (z28).toInt ≤ 9300 := by omega
            refine lv_aload_n hx hb dX1_pushTerms_140 rfl (lv_at hl 0 rfl) ?_
            refine va_get (D := (dC, dI)) (ci := 1) (v := .ref h_td) (C := RX1) (T := TX1) (N := 13) hx hb hw iwX1 hown hK hP 0 rfl rfl 0 (by decide) (hw _ w_f_X1_36) (fun _ h9 => h9) rfl dX1_pushTerms_141 ?_
            refine va_getN (D := (dC, dI)) (ci := 5) (v := .ref h_ter) (C := RX8) (T := TX8) (N := 10) (host := "OppositePairs") hx hb hw iwX8 hown hK hP 3 rfl rfl 3 (by decide) (hN.use n_f_X1_91 rfl) (fun _ h9 => h9) rfl dX1_pushTerms_144 ?_
            refine lv_iload hx hb dX1_pushTerms_147 (lv_at hl 5 rfl) ?_
            refine lv_iconst (v := 3) hx hb dX1_pushTerms_149 (by decide) ?_
            refine lv_imul hx hb dX1_pushTerms_150 ?_
            refine lv_topi (fun z29 ez29 => ?_)
            have tz29 : (z29).toInt = (z2).toInt * 3 := by rw [ez29]; exact i_mul rfl (by decide) (by omega)
            refine lv_iload hx hb dX1_pushTerms_151 (lv_at hl 7 rfl) ?_
            refine lv_iadd hx hb dX1_pushTerms_153 ?_
            refine lv_topi (fun z30 ez30 => ?_)
            have tz30 : (z30).toInt = (z29).toInt + (x9).toInt := by rw [ez30]; exact i_add rfl rfl (by omega)
            refine va_iald hx hb hK hP 5 3 rfl rfl (i := z30) (vp_in_iff.mpr (by omega)) dX1_pushTerms_154 ?_
            refine lv_topi (fun z31 ez31 => ?_)
            have rz31 : 0 ≤ (z31).toInt ∧ (z31).toInt ≤ 299 := by rw [ez31]; exact hf_ter _
            refine lv_iadd hx hb dX1_pushTerms_155 ?_
            refine lv_topi (fun z32 ez32 => ?_)
            have tz32 : (z32).toInt = (z28).toInt + (z31).toInt := by rw [ez32]; exact i_add rfl rfl (by omega)
            refine va_iast hx hb hK hP hD hS 2 1 rfl rfl (i := x10) (x := z32) (vp_in_iff.mpr (by omega)) dX1_pushTerms_156 (fun H locs hP9 hD9 hS9 => ?_)
            obtain ⟨f33, ef33⟩ : ∃ g : Nat → Int32, g = upd f12 (Int32.toNatClampNeg x10) z32 := ⟨_, rfl⟩
            clear hP hD hS
            have hP : va_P (dC, dI) cls [(h_bd, .inr (1, (mo15 v_bd (.ref h_td) (.ref h_lef) (.ref h_rig) (.int z27)))), (h_lef, .inl (cy_lef, 2048, .inl f25)), (h_rig, .inl (cy_rig, 2048, .inl f33)), (h_td, .inr (5, (mo16 v_td (.ref h_trm) (.ref h_ter)))), (h_trm, .inl (cy_trm, 300, .inl f_trm)), (h_ter, .inl (cy_ter, 900, .inl f_ter))] H := by rw [ef33]; exact hP9
            have hD : va_D A [(h_bd, .inr (1, (mo15 v_bd (.ref h_td) (.ref h_lef) (.ref h_rig) (.int z27)))), (h_lef, .inl (cy_lef, 2048, .inl f25)), (h_rig, .inl (cy_rig, 2048, .inl f33)), (h_td, .inr (5, (mo16 v_td (.ref h_trm) (.ref h_ter)))), (h_trm, .inl (cy_trm, 300, .inl f_trm)), (h_ter, .inl (cy_ter, 900, .inl f_ter))] := by rw [ef33]; exact hD9
            have hS := hS9
            clear hP9 hD9 hS9
            have hf33 : Rg 0 9599 f33 := by rw [ef33]; exact rg_upd hf12 (by omega)
            have str34 := str_upd (u := (x10).toInt) klp13_6 rfl (by omega) (by omega) ef33 (by omega)
            obtain ⟨z35, ez35⟩ : ∃ y : Int32, y = x9 + (-1) := ⟨_, rfl⟩
            have tz35 : (z35).toInt = (x9).toInt + -1 := by rw [ez35]; exact i_add rfl (by decide) (by omega)
            refine lv_iinc (v := z35) (lv' := [(7, .int z35), (0, .ref h_bd), (1, .int p1), (2, .int p2), (3, .int 1), (4, .int z1), (5, .int z2), (6, .int z3)]) hx hb dX1_pushTerms_157 hl (k := 7) rfl (by rw [ez35]; rfl) (by decide) rfl (fun ls hl => ?_)
            refine lv_goto (tgt := 87) hx hb dX1_pushTerms_160 (by decide) ?_
            exact ih14 (z35) (z27) (f25) (f33) _ _ _ (by omega) (by omega) hf25 hf33 (by omega) (stl_le stl26 (by omega)) (str_le str34 (by omega)) (by omega) hP hD hS (lv_sub hl [1, 2, 3, 4, 5, 6, 7, 0] rfl)
      exact lp13 _ (z8) (x_bd_top) (f_lef) (f_rig) _ _ _ (by omega) (by first | exact hx_bd_top | omega) hf_lef hf_rig (by omega) (stl_le hn_stl (by omega)) (str_le hn_str (by omega)) (Nat.le_refl _) hP hD hS (lv_sub hl [4, 5, 6, 7, 3, 2, 1, 0] rfl)
    · have kc7 := (not_congr (cv_le (rfl : (z3).toInt = (z3).toInt) (by decide : (0 : Int32).toInt = 0))).mp c7
      refine lv_aload_n hx hb dX1_pushTerms_52 rfl (lv_at hl 3 rfl) ?_
      refine va_get (D := (dC, dI)) (ci := 1) (v := .ref h_lef) (C := RX1) (T := TX1) (N := 13) hx hb hw iwX1 hown hK hP 0 rfl rfl 7 (by decide) (hw _ w_f_X1_24) (fun _ h9 => h9) rfl dX1_pushTerms_53 ?_
      refine lv_aload_n hx hb dX1_pushTerms_56 rfl (lv_at hl 3 rfl) ?_
      refine va_get (D := (dC, dI)) (ci := 1) (v := .int x_bd_top) (C := RX1) (T := TX1) (N := 13) hx hb hw iwX1 hown hK hP 0 rfl rfl 9 (by decide) (hw _ w_f_X1_49) (fun _ h9 => h9) rfl dX1_pushTerms_57 ?_
      refine lv_iconst (v := (-1)) hx hb dX1_pushTerms_60 (by decide) ?_
      refine lv_iload_n hx hb dX1_pushTerms_61 rfl (lv_at hl 4 rfl) ?_
      refine lv_isub hx hb dX1_pushTerms_62 ?_
      refine lv_topi (fun z36 ez36 => ?_)
      have tz36 : (z36).toInt = -1 - (p1).toInt := by rw [ez36]; exact i_sub (by decide) rfl (by omega)
      refine va_iast hx hb hK hP hD hS 1 0 rfl rfl (i := x_bd_top) (x := z36) (vp_in_iff.mpr (by omega)) dX1_pushTerms_63 (fun H locs hP9 hD9 hS9 => ?_)
      obtain ⟨f37, ef37⟩ : ∃ g : Nat → Int32, g = upd f_lef (Int32.toNatClampNeg x_bd_top) z36 := ⟨_, rfl⟩
      clear hP hD hS
      have hP : va_P (dC, dI) cls [(h_bd, .inr (1, (mo15 v_bd (.ref h_td) (.ref h_lef) (.ref h_rig) (.int x_bd_top)))), (h_lef, .inl (cy_lef, 2048, .inl f37)), (h_rig, .inl (cy_rig, 2048, .inl f_rig)), (h_td, .inr (5, (mo16 v_td (.ref h_trm) (.ref h_ter)))), (h_trm, .inl (cy_trm, 300, .inl f_trm)), (h_ter, .inl (cy_ter, 900, .inl f_ter))] H := by rw [ef37]; exact hP9
      have hD : va_D A [(h_bd, .inr (1, (mo15 v_bd (.ref h_td) (.ref h_lef) (.ref h_rig) (.int x_bd_top)))), (h_lef, .inl (cy_lef, 2048, .inl f37)), (h_rig, .inl (cy_rig, 2048, .inl f_rig)), (h_td, .inr (5, (mo16 v_td (.ref h_trm) (.ref h_ter)))), (h_trm, .inl (cy_trm, 300, .inl f_trm)), (h_ter, .inl (cy_ter, 900, .inl f_ter))] := by rw [ef37]; exact hD9
      have hS := hS9
      clear hP9 hD9 hS9
      have hf37 : Rg (-9600) 9599 f37 := by rw [ef37]; exact rg_upd hf_lef (by omega)
      have stl38 := stl_upd (u := (x_bd_top).toInt) hn_stl rfl (by omega) (by omega) ef37 (by omega)
      refine lv_aload_n hx hb dX1_pushTerms_64 rfl (lv_at hl 3 rfl) ?_
      refine va_get (D := (dC, dI)) (ci := 1) (v := .ref h_rig) (C := RX1) (T := TX1) (N := 13) hx hb hw iwX1 hown hK hP 0 rfl rfl 8 (by decide) (hw _ w_f_X1_27) (fun _ h9 => h9) rfl dX1_pushTerms_65 ?_
      refine lv_aload_n hx hb dX1_pushTerms_68 rfl (lv_at hl 3 rfl) ?_
      refine lv_dup hx hb dX1_pushTerms_69 rfl ?_
      refine va_get (D := (dC, dI)) (ci := 1) (v := .int x_bd_top) (C := RX1) (T := TX1) (N := 13) hx hb hw iwX1 hown hK hP 0 rfl rfl 9 (by decide) (hw _ w_f_X1_49) (fun _ h9 => h9) rfl dX1_pushTerms_70 ?_
      refine lv_dup_x1 hx hb dX1_pushTerms_73 rfl rfl ?_
      refine lv_iconst (v := 1) hx hb dX1_pushTerms_74 (by decide) ?_
      refine lv_iadd hx hb dX1_pushTerms_75 ?_
      refine lv_topi (fun z39 ez39 => ?_)
      have tz39 : (z39).toInt = (x_bd_top).toInt + 1 := by rw [ez39]; exact i_add rfl (by decide) (by omega)
      refine va_put (D := (dC, dI)) (ci := 1) (v := .int z39) (ty := tyX1 9) (C := RX1) (T := TX1) (N := 13) hx hb hw iwX1 tyX1 tyX1_ok nmX1 hown hK hP hD hS 0 rfl rfl 9 (by decide) (hw _ w_f_X1_49) (fun _ h9 => h9) rfl (tyX1_ok 9 (by decide)) rfl rfl (Nat.le_of_ble_eq_true rfl) dX1_pushTerms_76 (fun H locs hP9 hD9 hS9 => ?_)
      clear hP hD hS
      have hP : va_P (dC, dI) cls [(h_bd, .inr (1, (mo15 v_bd (.ref h_td) (.ref h_lef) (.ref h_rig) (.int z39)))), (h_lef, .inl (cy_lef, 2048, .inl f37)), (h_rig, .inl (cy_rig, 2048, .inl f_rig)), (h_td, .inr (5, (mo16 v_td (.ref h_trm) (.ref h_ter)))), (h_trm, .inl (cy_trm, 300, .inl f_trm)), (h_ter, .inl (cy_ter, 900, .inl f_ter))] H := hP9
      have hD : va_D A [(h_bd, .inr (1, (mo15 v_bd (.ref h_td) (.ref h_lef) (.ref h_rig) (.int z39)))), (h_lef, .inl (cy_lef, 2048, .inl f37)), (h_rig, .inl (cy_rig, 2048, .inl f_rig)), (h_td, .inr (5, (mo16 v_td (.ref h_trm) (.ref h_ter)))), (h_trm, .inl (cy_trm, 300, .inl f_trm)), (h_ter, .inl (cy_ter, 900, .inl f_ter))] := hD9
      have hS := hS9
      clear hP9 hD9 hS9
      refine lv_iload_n hx hb dX1_pushTerms_79 rfl (lv_at hl 5 rfl) ?_
      refine va_iast hx hb hK hP hD hS 2 1 rfl rfl (i := x_bd_top) (x := p2) (vp_in_iff.mpr (by omega)) dX1_pushTerms_80 (fun H locs hP9 hD9 hS9 => ?_)
      obtain ⟨f40, ef40⟩ : ∃ g : Nat → Int32, g = upd f_rig (Int32.toNatClampNeg x_bd_top) p2 := ⟨_, rfl⟩
      clear hP hD hS
      have hP : va_P (dC, dI) cls [(h_bd, .inr (1, (mo15 v_bd (.ref h_td) (.ref h_lef) (.ref h_rig) (.int z39)))), (h_lef, .inl (cy_lef, 2048, .inl f37)), (h_rig, .inl (cy_rig, 2048, .inl f40)), (h_td, .inr (5, (mo16 v_td (.ref h_trm) (.ref h_ter)))), (h_trm, .inl (cy_trm, 300, .inl f_trm)), (h_ter, .inl (cy_ter, 900, .inl f_ter))] H := by rw [ef40]; exact hP9
      have hD : va_D A [(h_bd, .inr (1, (mo15 v_bd (.ref h_td) (.ref h_lef) (.ref h_rig) (.int z39)))), (h_lef, .inl (cy_lef, 2048, .inl f37)), (h_rig, .inl (cy_rig, 2048, .inl f40)), (h_td, .inr (5, (mo16 v_td (.ref h_trm) (.ref h_ter)))), (h_trm, .inl (cy_trm, 300, .inl f_trm)), (h_ter, .inl (cy_ter, 900, .inl f_ter))] := by rw [ef40]; exact hD9
      have hS := hS9
      clear hP9 hD9 hS9
      have hf40 : Rg 0 9599 f40 := by rw [ef40]; exact rg_upd hf_rig (by omega)
      have str41 := str_upd (u := (x_bd_top).toInt) hn_str rfl (by omega) (by omega) ef40 (by omega)
      refine lv_iload hx hb dX1_pushTerms_81 (lv_at hl 0 rfl) ?_
      refine lv_iconst (v := 1) hx hb dX1_pushTerms_83 (by decide) ?_
      refine lv_isub hx hb dX1_pushTerms_84 ?_
      refine lv_topi (fun z42 ez42 => ?_)
      have tz42 : (z42).toInt = (z3).toInt - 1 := by rw [ez42]; exact i_sub rfl (by decide) (by omega)
      refine lv_istore (lv' := [(7, .int z42), (6, .int z3), (5, .int z2), (4, .int z1), (0, .ref h_bd), (1, .int p1), (2, .int p2), (3, .int 1)]) hx hb dX1_pushTerms_85 hl (by decide) rfl (fun ls hl => ?_)
      have lp47 : ∀ (n : Nat) (x43 : Int32) (x44 : Int32) (f45 : Nat → Int32) (f46 : Nat → Int32) (H : Heap) (locs : List Loc) (ls : Array Slot), (-1 ≤ (x43).toInt ∧ (x43).toInt ≤ 2) → (0 ≤ (x44).toInt ∧ (x44).toInt ≤ 2048) → (Rg (-9600) 9599 f45) → (Rg 0 9599 f46) → ((x44).toInt + (x43).toInt + 1 ≤ 2048) → (STL Lo Hi (x44).toInt f45) → (STR Lo Hi (x44).toInt f46) → ((x43).toInt + 1).toNat + 1 ≤ n → va_P (dC, dI) cls [(h_bd, .inr (1, (mo15 v_bd (.ref h_td) (.ref h_lef) (.ref h_rig) (.int x44)))), (h_lef, .inl (cy_lef, 2048, .inl f45)), (h_rig, .inl (cy_rig, 2048, .inl f46)), (h_td, .inr (5, (mo16 v_td (.ref h_trm) (.ref h_ter)))), (h_trm, .inl (cy_trm, 300, .inl f_trm)), (h_ter, .inl (cy_ter, 900, .inl f_ter))] H → va_D A [(h_bd, .inr (1, (mo15 v_bd (.ref h_td) (.ref h_lef) (.ref h_rig) (.int x44)))), (h_lef, .inl (cy_lef, 2048, .inl f45)), (h_rig, .inl (cy_rig, 2048, .inl f46)), (h_td, .inr (5, (mo16 v_td (.ref h_trm) (.ref h_ter)))), (h_trm, .inl (cy_trm, 300, .inl f_trm)), (h_ter, .inl (cy_ter, 900, .inl f_ter))] → va_S A s.heap H locs → lv_has ls 8 [(0, .ref h_bd), (1, .int p1), (2, .int p2), (3, .int 1), (4, .int z1), (5, .int z2), (6, .int z3), (7, .int x43)] → W p l e ({ frames := 0, cells := 0, slots := 0, locals := 0 } : Room) s m ([.ref h_bd, .int p1, .int p2, .int 1] : List Value).toArray below meth c H locs 0 0 (MQ below (va_Qi (fun (r : Int32) (u : (Int32) × (Nat → Int32) × (Nat → Int32)) => (0 ≤ (u.1).toInt ∧ (u.1).toInt ≤ 2048) ∧ (Rg (-9600) 9599 u.2.1) ∧ (Rg 0 9599 u.2.2) ∧ (0 ≤ r.toInt ∧ r.toInt ≤ 1) ∧ (STL Lo Hi (u.1).toInt u.2.1) ∧ (STR Lo Hi (u.1).toInt u.2.2)) (fun (u : (Int32) × (Nat → Int32) × (Nat → Int32)) (t : State) => va_P (dC, dI) cls [(h_bd, .inr (1, (mo15 v_bd (.ref h_td) (.ref h_lef) (.ref h_rig) (.int u.1)))), (h_lef, .inl (cy_lef, 2048, .inl u.2.1)), (h_rig, .inl (cy_rig, 2048, .inl u.2.2)), (h_td, .inr (5, (mo16 v_td (.ref h_trm) (.ref h_ter)))), (h_trm, .inl (cy_trm, 300, .inl f_trm)), (h_ter, .inl (cy_ter, 900, .inl f_ter))] t.heap ∧ va_D A [(h_bd, .inr (1, (mo15 v_bd (.ref h_td) (.ref h_lef) (.ref h_rig) (.int u.1)))), (h_lef, .inl (cy_lef, 2048, .inl u.2.1)), (h_rig, .inl (cy_rig, 2048, .inl u.2.2)), (h_td, .inr (5, (mo16 v_td (.ref h_trm) (.ref h_ter)))), (h_trm, .inl (cy_trm, 300, .inl f_trm)), (h_ter, .inl (cy_ter, 900, .inl f_ter))]) A) ([.ref h_bd, .int p1, .int p2, .int 1] : List Value).toArray s 0 0 A) (F0 m 87 ls []) := by
        clear hP hD hS hl
        intro n
        induction n with
        | zero => intro x43 x44 f45 f46 H locs ls klp47_0 klp47_1 hf45 hf46 klp47_4 klp47_5 klp47_6 hm hP hD hS hl; exact False.elim (by omega)
        | succ n ih => 
          intro x43 x44 f45 f46 H locs ls klp47_0 klp47_1 hf45 hf46 klp47_4 klp47_5 klp47_6 hm hP hD hS hl
          have ih48 := ih
          clear ih
          refine lv_iload hx hb dX1_pushTerms_87 (lv_at hl 7 rfl) ?_
          refine lv_if_lt (tgt := 163) hx hb dX1_pushTerms_89 (by decide) (fun c49 => ?_) (fun c49 => ?_)
          · have kc49 := (cv_lt (rfl : (x43).toInt = (x43).toInt) (by decide : (0 : Int32).toInt = 0)).mp c49
            refine lv_iconst (v := 1) hx hb dX1_pushTerms_163 (by decide) ?_
            refine W.widen (k := 0) (n := 0) (Nat.le_of_ble_eq_true rfl) (Nat.le_of_ble_eq_true rfl) ?_
            have cst1 : (1 : Int32).toInt = 1 := by decide
            have w50 : 0 ≤ ((x44)).toInt ∧ ((x44)).toInt ≤ 2048 := by first | exact klp47_1 | omega
            have w51 : 0 ≤ (1 : Int32).toInt ∧ (1 : Int32).toInt ≤ 1 := by omega
            have w52 : STL Lo Hi ((x44)).toInt (f45) := (stl_le klp47_5 (by omega))
            have w53 : STR Lo Hi ((x44)).toInt (f46) := (str_le klp47_6 (by omega))
            exact W.zret (v := 1) (ty := .boolean) hx hb hr (by decide) (fun t ht hW => ⟨⟨1, (x44, f45, f46), rfl, ⟨w50, hf45, hf46, w51, w52, w53⟩, by rw [ht]; exact hP, hD⟩, hS.F ht⟩) hS.2.2 dX1_pushTerms_164
          · have kc49 := (not_congr (cv_lt (rfl : (x43).toInt = (x43).toInt) (by decide : (0 : Int32).toInt = 0))).mp c49
            refine lv_aload_n hx hb dX1_pushTerms_92 rfl (lv_at hl 0 rfl) ?_
            refine va_get (D := (dC, dI)) (ci := 1) (v := .ref h_lef) (C := RX1) (T := TX1) (N := 13) hx hb hw iwX1 hown hK hP 0 rfl rfl 7 (by decide) (hw _ w_f_X1_24) (fun _ h9 => h9) rfl dX1_pushTerms_93 ?_
            refine lv_aload_n hx hb dX1_pushTerms_96 rfl (lv_at hl 0 rfl) ?_
            refine va_get (D := (dC, dI)) (ci := 1) (v := .int x44) (C := RX1) (T := TX1) (N := 13) hx hb hw iwX1 hown hK hP 0 rfl rfl 9 (by decide) (hw _ w_f_X1_49) (fun _ h9 => h9) rfl dX1_pushTerms_97 ?_
            refine lv_iload_n hx hb dX1_pushTerms_100 rfl (lv_at hl 1 rfl) ?_
            refine lv_iload hx hb dX1_pushTerms_101 (lv_at hl 4 rfl) ?_
            refine lv_isub hx hb dX1_pushTerms_103 ?_
            refine lv_topi (fun z54 ez54 => ?_)
            have tz54 : (z54).toInt = (p1).toInt - (z1).toInt := by rw [ez54]; exact i_sub rfl rfl (by omega)
            have sz54 : 0 ≤ (z54).toInt ∧ (z54).toInt ≤ 9300 := by omega
            refine lv_aload_n hx hb dX1_pushTerms_104 rfl (lv_at hl 0 rfl) ?_
            refine va_get (D := (dC, dI)) (ci := 1) (v := .ref h_td) (C := RX1) (T := TX1) (N := 13) hx hb hw iwX1 hown hK hP 0 rfl rfl 0 (by decide) (hw _ w_f_X1_36) (fun _ h9 => h9) rfl dX1_pushTerms_105 ?_
            refine va_getN (D := (dC, dI)) (ci := 5) (v := .ref h_ter) (C := RX8) (T := TX8) (N := 10) (host := "OppositePairs") hx hb hw iwX8 hown hK hP 3 rfl rfl 3 (by decide) (hN.use n_f_X1_91 rfl) (fun _ h9 => h9) rfl dX1_pushTerms_108 ?_
            refine lv_iload hx hb dX1_pushTerms_111 (lv_at hl 4 rfl) ?_
            refine lv_iconst (v := 3) hx hb dX1_pushTerms_113 (by decide) ?_
            refine lv_imul hx hb dX1_pushTerms_114 ?_
            refine lv_topi (fun z55 ez55 => ?_)
            have tz55 : (z55).toInt = (z1).toInt * 3 := by rw [ez55]; exact i_mul rfl (by decide) (by omega)
            refine lv_iload hx hb dX1_pushTerms_115 (lv_at hl 7 rfl) ?_
            refine lv_iadd hx hb dX1_pushTerms_117 ?_
            refine lv_topi (fun z56 ez56 => ?_)
            have tz56 : (z56).toInt = (z55).toInt + (x43).toInt := by rw [ez56]; exact i_add rfl rfl (by omega)
            refine va_iald hx hb hK hP 5 3 rfl rfl (i := z56) (vp_in_iff.mpr (by omega)) dX1_pushTerms_118 ?_
            refine lv_topi (fun z57 ez57 => ?_)
            have rz57 : 0 ≤ (z57).toInt ∧ (z57).toInt ≤ 299 := by rw [ez57]; exact hf_ter _
            refine lv_iadd hx hb dX1_pushTerms_119 ?_
            refine lv_topi (fun z58 ez58 => ?_)
            have tz58 : (z58).toInt = (z54).toInt + (z57).toInt := by rw [ez58]; exact i_add rfl rfl (by omega)
            refine va_iast hx hb hK hP hD hS 1 0 rfl rfl (i := x44) (x := z58) (vp_in_iff.mpr (by omega)) dX1_pushTerms_120 (fun H locs hP9 hD9 hS9 => ?_)
            obtain ⟨f59, ef59⟩ : ∃ g : Nat → Int32, g = upd f45 (Int32.toNatClampNeg x44) z58 := ⟨_, rfl⟩
            clear hP hD hS
            have hP : va_P (dC, dI) cls [(h_bd, .inr (1, (mo15 v_bd (.ref h_td) (.ref h_lef) (.ref h_rig) (.int x44)))), (h_lef, .inl (cy_lef, 2048, .inl f59)), (h_rig, .inl (cy_rig, 2048, .inl f46)), (h_td, .inr (5, (mo16 v_td (.ref h_trm) (.ref h_ter)))), (h_trm, .inl (cy_trm, 300, .inl f_trm)), (h_ter, .inl (cy_ter, 900, .inl f_ter))] H := by rw [ef59]; exact hP9
            have hD : va_D A [(h_bd, .inr (1, (mo15 v_bd (.ref h_td) (.ref h_lef) (.ref h_rig) (.int x44)))), (h_lef, .inl (cy_lef, 2048, .inl f59)), (h_rig, .inl (cy_rig, 2048, .inl f46)), (h_td, .inr (5, (mo16 v_td (.ref h_trm) (.ref h_ter)))), (h_trm, .inl (cy_trm, 300, .inl f_trm)), (h_ter, .inl (cy_ter, 900, .inl f_ter))] := by rw [ef59]; exact hD9
            have hS := hS9
            clear hP9 hD9 hS9
            have hf59 : Rg (-9600) 9599 f59 := by rw [ef59]; exact rg_upd hf45 (by omega)
            have stl60 := stl_upd (u := (x44).toInt) klp47_5 rfl (by omega) (by omega) ef59 (by omega)
            refine lv_aload_n hx hb dX1_pushTerms_121 rfl (lv_at hl 0 rfl) ?_
            refine va_get (D := (dC, dI)) (ci := 1) (v := .ref h_rig) (C := RX1) (T := TX1) (N := 13) hx hb hw iwX1 hown hK hP 0 rfl rfl 8 (by decide) (hw _ w_f_X1_27) (fun _ h9 => h9) rfl dX1_pushTerms_122 ?_
            refine lv_aload_n hx hb dX1_pushTerms_125 rfl (lv_at hl 0 rfl) ?_
            refine lv_dup hx hb dX1_pushTerms_126 rfl ?_
            refine va_get (D := (dC, dI)) (ci := 1) (v := .int x44) (C := RX1) (T := TX1) (N := 13) hx hb hw iwX1 hown hK hP 0 rfl rfl 9 (by decide) (hw _ w_f_X1_49) (fun _ h9 => h9) rfl dX1_pushTerms_127 ?_
            refine lv_dup_x1 hx hb dX1_pushTerms_130 rfl rfl ?_
            refine lv_iconst (v := 1) hx hb dX1_pushTerms_131 (by decide) ?_
            refine lv_iadd hx hb dX1_pushTerms_132 ?_
            refine lv_topi (fun z61 ez61 => ?_)
            have tz61 : (z61).toInt = (x44).toInt + 1 := by rw [ez61]; exact i_add rfl (by decide) (by omega)
            refine va_put (D := (dC, dI)) (ci := 1) (v := .int z61) (ty := tyX1 9) (C := RX1) (T := TX1) (N := 13) hx hb hw iwX1 tyX1 tyX1_ok nmX1 hown hK hP hD hS 0 rfl rfl 9 (by decide) (hw _ w_f_X1_49) (fun _ h9 => h9) rfl (tyX1_ok 9 (by decide)) rfl rfl (Nat.le_of_ble_eq_true rfl) dX1_pushTerms_133 (fun H locs hP9 hD9 hS9 => ?_)
            clear hP hD hS
            have hP : va_P (dC, dI) cls [(h_bd, .inr (1, (mo15 v_bd (.ref h_td) (.ref h_lef) (.ref h_rig) (.int z61)))), (h_lef, .inl (cy_lef, 2048, .inl f59)), (h_rig, .inl (cy_rig, 2048, .inl f46)), (h_td, .inr (5, (mo16 v_td (.ref h_trm) (.ref h_ter)))), (h_trm, .inl (cy_trm, 300, .inl f_trm)), (h_ter, .inl (cy_ter, 900, .inl f_ter))] H := hP9
            have hD : va_D A [(h_bd, .inr (1, (mo15 v_bd (.ref h_td) (.ref h_lef) (.ref h_rig) (.int z61)))), (h_lef, .inl (cy_lef, 2048, .inl f59)), (h_rig, .inl (cy_rig, 2048, .inl f46)), (h_td, .inr (5, (mo16 v_td (.ref h_trm) (.ref h_ter)))), (h_trm, .inl (cy_trm, 300, .inl f_trm)), (h_ter, .inl (cy_ter, 900, .inl f_ter))] := hD9
            have hS := hS9
            clear hP9 hD9 hS9
            refine lv_iload_n hx hb dX1_pushTerms_136 rfl (lv_at hl 2 rfl) ?_
            refine lv_iload hx hb dX1_pushTerms_137 (lv_at hl 5 rfl) ?_
            refine lv_isub hx hb dX1_pushTerms_139 ?_
            refine lv_topi (fun z62 ez62 => ?_)
            have tz62 : (z62).toInt = (p2).toInt - (z2).toInt := by rw [ez62]; exact i_sub rfl rfl (by omega)
            have sz62 : 0 ≤ (z62).toInt ∧ (z62).toInt ≤ 9300 := by omega
            refine lv_aload_n hx hb dX1_pushTerms_140 rfl (lv_at hl 0 rfl) ?_
            refine va_get (D := (dC, dI)) (ci := 1) (v := .ref h_td) (C := RX1) (T := TX1) (N := 13) hx hb hw iwX1 hown hK hP 0 rfl rfl 0 (by decide) (hw _ w_f_X1_36) (fun _ h9 => h9) rfl dX1_pushTerms_141 ?_
            refine va_getN (D := (dC, dI)) (ci := 5) (v := .ref h_ter) (C := RX8) (T := TX8) (N := 10) (host := "OppositePairs") hx hb hw iwX8 hown hK hP 3 rfl rfl 3 (by decide) (hN.use n_f_X1_91 rfl) (fun _ h9 => h9) rfl dX1_pushTerms_144 ?_
            refine lv_iload hx hb dX1_pushTerms_147 (lv_at hl 5 rfl) ?_
            refine lv_iconst (v := 3) hx hb dX1_pushTerms_149 (by decide) ?_
            refine lv_imul hx hb dX1_pushTerms_150 ?_
            refine lv_topi (fun z63 ez63 => ?_)
            have tz63 : (z63).toInt = (z2).toInt * 3 := by rw [ez63]; exact i_mul rfl (by decide) (by omega)
            refine lv_iload hx hb dX1_pushTerms_151 (lv_at hl 7 rfl) ?_
            refine lv_iadd hx hb dX1_pushTerms_153 ?_
            refine lv_topi (fun z64 ez64 => ?_)
            have tz64 : (z64).toInt = (z63).toInt + (x43).toInt := by rw [ez64]; exact i_add rfl rfl (by omega)
            refine va_iald hx hb hK hP 5 3 rfl rfl (i := z64) (vp_in_iff.mpr (by omega)) dX1_pushTerms_154 ?_
            refine lv_topi (fun z65 ez65 => ?_)
            have rz65 : 0 ≤ (z65).toInt ∧ (z65).toInt ≤ 299 := by rw [ez65]; exact hf_ter _
            refine lv_iadd hx hb dX1_pushTerms_155 ?_
            refine lv_topi (fun z66 ez66 => ?_)
            have tz66 : (z66).toInt = (z62).toInt + (z65).toInt := by rw [ez66]; exact i_add rfl rfl (by omega)
            refine va_iast hx hb hK hP hD hS 2 1 rfl rfl (i := x44) (x := z66) (vp_in_iff.mpr (by omega)) dX1_pushTerms_156 (fun H locs hP9 hD9 hS9 => ?_)
            obtain ⟨f67, ef67⟩ : ∃ g : Nat → Int32, g = upd f46 (Int32.toNatClampNeg x44) z66 := ⟨_, rfl⟩
            clear hP hD hS
            have hP : va_P (dC, dI) cls [(h_bd, .inr (1, (mo15 v_bd (.ref h_td) (.ref h_lef) (.ref h_rig) (.int z61)))), (h_lef, .inl (cy_lef, 2048, .inl f59)), (h_rig, .inl (cy_rig, 2048, .inl f67)), (h_td, .inr (5, (mo16 v_td (.ref h_trm) (.ref h_ter)))), (h_trm, .inl (cy_trm, 300, .inl f_trm)), (h_ter, .inl (cy_ter, 900, .inl f_ter))] H := by rw [ef67]; exact hP9
            have hD : va_D A [(h_bd, .inr (1, (mo15 v_bd (.ref h_td) (.ref h_lef) (.ref h_rig) (.int z61)))), (h_lef, .inl (cy_lef, 2048, .inl f59)), (h_rig, .inl (cy_rig, 2048, .inl f67)), (h_td, .inr (5, (mo16 v_td (.ref h_trm) (.ref h_ter)))), (h_trm, .inl (cy_trm, 300, .inl f_trm)), (h_ter, .inl (cy_ter, 900, .inl f_ter))] := by rw [ef67]; exact hD9
            have hS := hS9
            clear hP9 hD9 hS9
            have hf67 : Rg 0 9599 f67 := by rw [ef67]; exact rg_upd hf46 (by omega)
            have str68 := str_upd (u := (x44).toInt) klp47_6 rfl (by omega) (by omega) ef67 (by omega)
            obtain ⟨z69, ez69⟩ : ∃ y : Int32, y = x43 + (-1) := ⟨_, rfl⟩
            have tz69 : (z69).toInt = (x43).toInt + -1 := by rw [ez69]; exact i_add rfl (by decide) (by omega)
            refine lv_iinc (v := z69) (lv' := [(7, .int z69), (0, .ref h_bd), (1, .int p1), (2, .int p2), (3, .int 1), (4, .int z1), (5, .int z2), (6, .int z3)]) hx hb dX1_pushTerms_157 hl (k := 7) rfl (by rw [ez69]; rfl) (by decide) rfl (fun ls hl => ?_)
            refine lv_goto (tgt := 87) hx hb dX1_pushTerms_160 (by decide) ?_
            exact ih48 (z69) (z61) (f59) (f67) _ _ _ (by omega) (by omega) hf59 hf67 (by omega) (stl_le stl60 (by omega)) (str_le str68 (by omega)) (by omega) hP hD hS (lv_sub hl [1, 2, 3, 4, 5, 6, 7, 0] rfl)
      exact lp47 _ (z42) (z39) (f37) (f40) _ _ _ (by omega) (by omega) hf37 hf40 (by omega) (stl_le stl38 (by omega)) (str_le str41 (by omega)) (Nat.le_refl _) hP hD hS (lv_sub hl [4, 5, 6, 7, 3, 2, 1, 0] rfl)
  · have kc6 := (not_congr (cv_le (rfl : (z5).toInt = (z5).toInt) (by decide : (2048 : Int32).toInt = 2048))).mp c6
    refine lv_iconst (v := 0) hx hb dX1_pushTerms_41 (by decide) ?_
    refine W.widen (k := 0) (n := 0) (Nat.le_of_ble_eq_true rfl) (Nat.le_of_ble_eq_true rfl) ?_
    have cst0 : (0 : Int32).toInt = 0 := by decide
    have w70 : 0 ≤ ((x_bd_top)).toInt ∧ ((x_bd_top)).toInt ≤ 2048 := by first | exact hx_bd_top | omega
    have w71 : 0 ≤ (0 : Int32).toInt ∧ (0 : Int32).toInt ≤ 1 := by omega
    have w72 : STL Lo Hi ((x_bd_top)).toInt (f_lef) := (stl_le hn_stl (by omega))
    have w73 : STR Lo Hi ((x_bd_top)).toInt (f_rig) := (str_le hn_str (by omega))
    exact W.zret (v := 0) (ty := .boolean) hx hb hr (by decide) (fun t ht hW => ⟨⟨0, (x_bd_top, f_lef, f_rig), rfl, ⟨w70, hf_lef, hf_rig, w71, w72, w73⟩, by rw [ht]; exact hP, hD⟩, hS.F ht⟩) hS.2.2 dX1_pushTerms_42

set_option maxHeartbeats 8000000 in
set_option maxRecDepth 100000 in
theorem c_X1_pushTerms_0 (l : Launch) (dC : Nat → ClassId) (dI : Nat → Nat → Nat) (sz : Nat) (h_bd : Nat) (h_lef : Nat) (h_rig : Nat) (h_td : Nat) (h_trm : Nat) (h_ter : Nat) (v_bd : Nat → Value) (x_bd_top : Int32) (cy_lef : ClassId) (f_lef : Nat → Int32) (cy_rig : ClassId) (f_rig : Nat → Int32) (v_td : Nat → Value) (cy_trm : ClassId) (f_trm : Nat → Int32) (cy_ter : ClassId) (f_ter : Nat → Int32) (p1 : Int32) (p2 : Int32) (hx_bd_top : 0 ≤ (x_bd_top).toInt ∧ (x_bd_top).toInt ≤ 2048) (hf_lef : Rg (-9600) 9599 f_lef) (hf_rig : Rg 0 9599 f_rig) (hf_trm : Rg 0 3 f_trm) (hf_ter : Rg 0 299 f_ter) (q0 : 0 ≤ (p1).toInt ∧ (p1).toInt ≤ 9599) (q1 : 0 ≤ (p2).toInt ∧ (p2).toInt ≤ 9599) (hn_pre0 : Pre0 (x_bd_top).toInt f_lef) : Met l yX1_pushTerms (Ws yX1_pushTerms cX1_pushTerms 8 (some .boolean)) (({ frames := 0, cells := 0, slots := 0, locals := 0 } : Room)) (PRE (dC, dI) cls [(cy_lef, .int), (cy_rig, .int), (cy_trm, .int), (cy_ter, .int)] [(h_bd, .inr (1, (mo15 v_bd (.ref h_td) (.ref h_lef) (.ref h_rig) (.int x_bd_top)))), (h_lef, .inl (cy_lef, 2048, .inl f_lef)), (h_rig, .inl (cy_rig, 2048, .inl f_rig)), (h_td, .inr (5, (mo16 v_td (.ref h_trm) (.ref h_ter)))), (h_trm, .inl (cy_trm, 300, .inl f_trm)), (h_ter, .inl (cy_ter, 900, .inl f_ter))] sz [.ref h_bd, .int p1, .int p2, .int 0]) (va_Qi (fun (r : Int32) (u : (Int32) × (Nat → Int32) × (Nat → Int32)) => (0 ≤ (u.1).toInt ∧ (u.1).toInt ≤ 2048) ∧ (Rg (-9600) 9599 u.2.1) ∧ (Rg 0 9599 u.2.2) ∧ (0 ≤ r.toInt ∧ r.toInt ≤ 1) ∧ (Pre0 (u.1).toInt u.2.1)) (fun (u : (Int32) × (Nat → Int32) × (Nat → Int32)) (t : State) => va_P (dC, dI) cls [(h_bd, .inr (1, (mo15 v_bd (.ref h_td) (.ref h_lef) (.ref h_rig) (.int u.1)))), (h_lef, .inl (cy_lef, 2048, .inl u.2.1)), (h_rig, .inl (cy_rig, 2048, .inl u.2.2)), (h_td, .inr (5, (mo16 v_td (.ref h_trm) (.ref h_ter)))), (h_trm, .inl (cy_trm, 300, .inl f_trm)), (h_ter, .inl (cy_ter, 900, .inl f_ter))] t.heap ∧ va_D (va_A [(h_bd, .inr (1, (mo15 v_bd (.ref h_td) (.ref h_lef) (.ref h_rig) (.int x_bd_top)))), (h_lef, .inl (cy_lef, 2048, .inl f_lef)), (h_rig, .inl (cy_rig, 2048, .inl f_rig)), (h_td, .inr (5, (mo16 v_td (.ref h_trm) (.ref h_ter)))), (h_trm, .inl (cy_trm, 300, .inl f_trm)), (h_ter, .inl (cy_ter, 900, .inl f_ter))] sz) [(h_bd, .inr (1, (mo15 v_bd (.ref h_td) (.ref h_lef) (.ref h_rig) (.int u.1)))), (h_lef, .inl (cy_lef, 2048, .inl u.2.1)), (h_rig, .inl (cy_rig, 2048, .inl u.2.2)), (h_td, .inr (5, (mo16 v_td (.ref h_trm) (.ref h_ter)))), (h_trm, .inl (cy_trm, 300, .inl f_trm)), (h_ter, .inl (cy_ter, 900, .inl f_ter))]) (va_A [(h_bd, .inr (1, (mo15 v_bd (.ref h_td) (.ref h_lef) (.ref h_rig) (.int x_bd_top)))), (h_lef, .inl (cy_lef, 2048, .inl f_lef)), (h_rig, .inl (cy_rig, 2048, .inl f_rig)), (h_td, .inr (5, (mo16 v_td (.ref h_trm) (.ref h_ter)))), (h_trm, .inl (cy_trm, 300, .inl f_trm)), (h_ter, .inl (cy_ter, 900, .inl f_ter))] sz)) 0 0 (va_A [(h_bd, .inr (1, (mo15 v_bd (.ref h_td) (.ref h_lef) (.ref h_rig) (.int x_bd_top)))), (h_lef, .inl (cy_lef, 2048, .inl f_lef)), (h_rig, .inl (cy_rig, 2048, .inl f_rig)), (h_td, .inr (5, (mo16 v_td (.ref h_trm) (.ref h_ter)))), (h_trm, .inl (cy_trm, 300, .inl f_trm)), (h_ter, .inl (cy_ter, 900, .inl f_ter))] sz) := by
  refine Met.ofW (cc := cX1_pushTerms) (maxL := 8) (ret := (some .boolean)) (by decide) rfl ?_
  intro p e s m args below meth c s₁ B hml hv
  obtain ⟨rfl, hsz, hP, hK, hD0, hN⟩ := hv
  have hx := B.exec
  have hb := B.bytes
  have hr := B.returns
  have hts := atoms_spec (ws := Ws yX1_pushTerms cX1_pushTerms 8 (some .boolean)) B.pre
  have hT : ∀ w ∈ WALL, w ∈ Ws yX1_pushTerms cX1_pushTerms 8 (some .boolean) := fun w h => List.mem_cons_of_mem _ h
  have hw := fun w (h : w ∈ WALL) => hts w (hT w h)
  have hown : s.vm.findClass RX1 = some m.cls := findClass_of_methodNamed B.named
  have hlocks := B.notSynchronized
  subst hsz
  have hD := hD0.self (sz := s.heap.size)
  generalize hAe : va_A [(h_bd, .inr (1, (mo15 v_bd (.ref h_td) (.ref h_lef) (.ref h_rig) (.int x_bd_top)))), (h_lef, .inl (cy_lef, 2048, .inl f_lef)), (h_rig, .inl (cy_rig, 2048, .inl f_rig)), (h_td, .inr (5, (mo16 v_td (.ref h_trm) (.ref h_ter)))), (h_trm, .inl (cy_trm, 300, .inl f_trm)), (h_ter, .inl (cy_ter, 900, .inl f_ter))] s.heap.size = A at hD ⊢
  have hA : ∀ q : Nat, s.heap.size ≤ q → A q := fun q h => by rw [← hAe]; exact Or.inr h
  have hS : va_S A s.heap s.heap [] := va_S.rf
  have hl := lv_entry ([.ref h_bd, .int p1, .int p2, .int 0]) (n := 8) (Nat.le_of_ble_eq_true rfl)
  rw [lg_entry_eq]
  generalize (lg_sl ([.ref h_bd, .int p1, .int p2, .int 0]) ++ List.replicate (8 - (lg_sl ([.ref h_bd, .int p1, .int p2, .int 0])).length) Slot.unset).toArray = ls at hl ⊢
  have hl : lv_has ls 8 [(0, .ref h_bd), (1, .int p1), (2, .int p2), (3, .int 0)] := hl
  refine lv_iload_n hx hb dX1_pushTerms_0 rfl (lv_at hl 1 rfl) ?_
  refine lv_sipush (v := 300) hx hb dX1_pushTerms_1 (by decide) ?_
  refine lv_irem hx hb dX1_pushTerms_4 (by decide) ?_
  refine lv_topi (fun z1 ez1 => ?_)
  have tz1 : (z1).toInt = (p1).toInt % 300 := by rw [ez1]; exact i_rem rfl (by decide) (by omega)
  refine lv_istore (lv' := [(4, .int z1), (0, .ref h_bd), (1, .int p1), (2, .int p2), (3, .int 0)]) hx hb dX1_pushTerms_5 hl (by decide) rfl (fun ls hl => ?_)
  refine lv_iload_n hx hb dX1_pushTerms_7 rfl (lv_at hl 3 rfl) ?_
  refine lv_sipush (v := 300) hx hb dX1_pushTerms_8 (by decide) ?_
  refine lv_irem hx hb dX1_pushTerms_11 (by decide) ?_
  refine lv_topi (fun z2 ez2 => ?_)
  have tz2 : (z2).toInt = (p2).toInt % 300 := by rw [ez2]; exact i_rem rfl (by decide) (by omega)
  refine lv_istore (lv' := [(5, .int z2), (4, .int z1), (0, .ref h_bd), (1, .int p1), (2, .int p2), (3, .int 0)]) hx hb dX1_pushTerms_12 hl (by decide) rfl (fun ls hl => ?_)
  refine lv_aload_n hx hb dX1_pushTerms_14 rfl (lv_at hl 2 rfl) ?_
  refine va_get (D := (dC, dI)) (ci := 1) (v := .ref h_td) (C := RX1) (T := TX1) (N := 13) hx hb hw iwX1 hown hK hP 0 rfl rfl 0 (by decide) (hw _ w_f_X1_36) (fun _ h9 => h9) rfl dX1_pushTerms_15 ?_
  refine va_getN (D := (dC, dI)) (ci := 5) (v := .ref h_trm) (C := RX8) (T := TX8) (N := 10) (host := "OppositePairs") hx hb hw iwX8 hown hK hP 3 rfl rfl 2 (by decide) (hN.use n_f_X1_88 rfl) (fun _ h9 => h9) rfl dX1_pushTerms_18 ?_
  refine lv_iload hx hb dX1_pushTerms_21 (lv_at hl 1 rfl) ?_
  refine va_iald hx hb hK hP 4 2 rfl rfl (i := z1) (vp_in_iff.mpr (by omega)) dX1_pushTerms_23 ?_
  refine lv_topi (fun z3 ez3 => ?_)
  have rz3 : 0 ≤ (z3).toInt ∧ (z3).toInt ≤ 3 := by rw [ez3]; exact hf_trm _
  refine lv_istore (lv' := [(6, .int z3), (5, .int z2), (4, .int z1), (0, .ref h_bd), (1, .int p1), (2, .int p2), (3, .int 0)]) hx hb dX1_pushTerms_24 hl (by decide) rfl (fun ls hl => ?_)
  refine lv_aload_n hx hb dX1_pushTerms_26 rfl (lv_at hl 3 rfl) ?_
  refine va_get (D := (dC, dI)) (ci := 1) (v := .int x_bd_top) (C := RX1) (T := TX1) (N := 13) hx hb hw iwX1 hown hK hP 0 rfl rfl 9 (by decide) (hw _ w_f_X1_49) (fun _ h9 => h9) rfl dX1_pushTerms_27 ?_
  refine lv_iload hx hb dX1_pushTerms_30 (lv_at hl 0 rfl) ?_
  refine lv_iadd hx hb dX1_pushTerms_32 ?_
  refine lv_topi (fun z4 ez4 => ?_)
  have tz4 : (z4).toInt = (x_bd_top).toInt + (z3).toInt := by rw [ez4]; exact i_add rfl rfl (by omega)
  refine lv_iconst (v := 1) hx hb dX1_pushTerms_33 (by decide) ?_
  refine lv_iadd hx hb dX1_pushTerms_34 ?_
  refine lv_topi (fun z5 ez5 => ?_)
  have tz5 : (z5).toInt = (z4).toInt + 1 := by rw [ez5]; exact i_add rfl (by decide) (by omega)
  refine lv_sipush (v := 2048) hx hb dX1_pushTerms_35 (by decide) ?_
  refine lv_icmp_le (tgt := 43) hx hb dX1_pushTerms_38 (by decide) (fun c6 => ?_) (fun c6 => ?_)
  · have kc6 := (cv_le (rfl : (z5).toInt = (z5).toInt) (by decide : (2048 : Int32).toInt = 2048)).mp c6
    refine lv_iload_n hx hb dX1_pushTerms_43 rfl (lv_at hl 6 rfl) ?_
    refine lv_if_eq (tgt := 81) hx hb dX1_pushTerms_44 (by decide) (fun _ => ?_) (fun c9 => absurd c9 (by decide))
    refine lv_iload hx hb dX1_pushTerms_81 (lv_at hl 0 rfl) ?_
    refine lv_iconst (v := 1) hx hb dX1_pushTerms_83 (by decide) ?_
    refine lv_isub hx hb dX1_pushTerms_84 ?_
    refine lv_topi (fun z7 ez7 => ?_)
    have tz7 : (z7).toInt = (z3).toInt - 1 := by rw [ez7]; exact i_sub rfl (by decide) (by omega)
    refine lv_istore (lv' := [(7, .int z7), (6, .int z3), (5, .int z2), (4, .int z1), (0, .ref h_bd), (1, .int p1), (2, .int p2), (3, .int 0)]) hx hb dX1_pushTerms_85 hl (by decide) rfl (fun ls hl => ?_)
    have lp12 : ∀ (n : Nat) (x8 : Int32) (x9 : Int32) (f10 : Nat → Int32) (f11 : Nat → Int32) (H : Heap) (locs : List Loc) (ls : Array Slot), (-1 ≤ (x8).toInt ∧ (x8).toInt ≤ 2) → (0 ≤ (x9).toInt ∧ (x9).toInt ≤ 2048) → (Rg (-9600) 9599 f10) → (Rg 0 9599 f11) → ((x9).toInt + (x8).toInt + 1 ≤ 2048) → (Pre0 (x9).toInt f10) → ((x8).toInt + 1).toNat + 1 ≤ n → va_P (dC, dI) cls [(h_bd, .inr (1, (mo15 v_bd (.ref h_td) (.ref h_lef) (.ref h_rig) (.int x9)))), (h_lef, .inl (cy_lef, 2048, .inl f10)), (h_rig, .inl (cy_rig, 2048, .inl f11)), (h_td, .inr (5, (mo16 v_td (.ref h_trm) (.ref h_ter)))), (h_trm, .inl (cy_trm, 300, .inl f_trm)), (h_ter, .inl (cy_ter, 900, .inl f_ter))] H → va_D A [(h_bd, .inr (1, (mo15 v_bd (.ref h_td) (.ref h_lef) (.ref h_rig) (.int x9)))), (h_lef, .inl (cy_lef, 2048, .inl f10)), (h_rig, .inl (cy_rig, 2048, .inl f11)), (h_td, .inr (5, (mo16 v_td (.ref h_trm) (.ref h_ter)))), (h_trm, .inl (cy_trm, 300, .inl f_trm)), (h_ter, .inl (cy_ter, 900, .inl f_ter))] → va_S A s.heap H locs → lv_has ls 8 [(0, .ref h_bd), (1, .int p1), (2, .int p2), (3, .int 0), (4, .int z1), (5, .int z2), (6, .int z3), (7, .int x8)] → W p l e ({ frames := 0, cells := 0, slots := 0, locals := 0 } : Room) s m ([.ref h_bd, .int p1, .int p2, .int 0] : List Value).toArray below meth c H locs 0 0 (MQ below (va_Qi (fun (r : Int32) (u : (Int32) × (Nat → Int32) × (Nat → Int32)) => (0 ≤ (u.1).toInt ∧ (u.1).toInt ≤ 2048) ∧ (Rg (-9600) 9599 u.2.1) ∧ (Rg 0 9599 u.2.2) ∧ (0 ≤ r.toInt ∧ r.toInt ≤ 1) ∧ (Pre0 (u.1).toInt u.2.1)) (fun (u : (Int32) × (Nat → Int32) × (Nat → Int32)) (t : State) => va_P (dC, dI) cls [(h_bd, .inr (1, (mo15 v_bd (.ref h_td) (.ref h_lef) (.ref h_rig) (.int u.1)))), (h_lef, .inl (cy_lef, 2048, .inl u.2.1)), (h_rig, .inl (cy_rig, 2048, .inl u.2.2)), (h_td, .inr (5, (mo16 v_td (.ref h_trm) (.ref h_ter)))), (h_trm, .inl (cy_trm, 300, .inl f_trm)), (h_ter, .inl (cy_ter, 900, .inl f_ter))] t.heap ∧ va_D A [(h_bd, .inr (1, (mo15 v_bd (.ref h_td) (.ref h_lef) (.ref h_rig) (.int u.1)))), (h_lef, .inl (cy_lef, 2048, .inl u.2.1)), (h_rig, .inl (cy_rig, 2048, .inl u.2.2)), (h_td, .inr (5, (mo16 v_td (.ref h_trm) (.ref h_ter)))), (h_trm, .inl (cy_trm, 300, .inl f_trm)), (h_ter, .inl (cy_ter, 900, .inl f_ter))]) A) ([.ref h_bd, .int p1, .int p2, .int 0] : List Value).toArray s 0 0 A) (F0 m 87 ls []) := by
      clear hP hD hS hl
      intro n
      induction n with
      | zero => intro x8 x9 f10 f11 H locs ls klp12_0 klp12_1 hf10 hf11 klp12_4 klp12_5 hm hP hD hS hl; exact False.elim (by omega)
      | succ n ih => 
        intro x8 x9 f10 f11 H locs ls klp12_0 klp12_1 hf10 hf11 klp12_4 klp12_5 hm hP hD hS hl
        have ih13 := ih
        clear ih
        refine lv_iload hx hb dX1_pushTerms_87 (lv_at hl 7 rfl) ?_
        refine lv_if_lt (tgt := 163) hx hb dX1_pushTerms_89 (by decide) (fun c14 => ?_) (fun c14 => ?_)
        · have kc14 := (cv_lt (rfl : (x8).toInt = (x8).toInt) (by decide : (0 : Int32).toInt = 0)).mp c14
          refine lv_iconst (v := 1) hx hb dX1_pushTerms_163 (by decide) ?_
          refine W.widen (k := 0) (n := 0) (Nat.le_of_ble_eq_true rfl) (Nat.le_of_ble_eq_true rfl) ?_
          have cst1 : (1 : Int32).toInt = 1 := by decide
          have w15 : 0 ≤ ((x9)).toInt ∧ ((x9)).toInt ≤ 2048 := by first | exact klp12_1 | omega
          have w16 : 0 ≤ (1 : Int32).toInt ∧ (1 : Int32).toInt ≤ 1 := by omega
          have w17 : Pre0 ((x9)).toInt (f10) := (pre0_mono klp12_5 (by omega))
          exact W.zret (v := 1) (ty := .boolean) hx hb hr (by decide) (fun t ht hW => ⟨⟨1, (x9, f10, f11), rfl, ⟨w15, hf10, hf11, w16, w17⟩, by rw [ht]; exact hP, hD⟩, hS.F ht⟩) hS.2.2 dX1_pushTerms_164
        · have kc14 := (not_congr (cv_lt (rfl : (x8).toInt = (x8).toInt) (by decide : (0 : Int32).toInt = 0))).mp c14
          refine lv_aload_n hx hb dX1_pushTerms_92 rfl (lv_at hl 0 rfl) ?_
          refine va_get (D := (dC, dI)) (ci := 1) (v := .ref h_lef) (C := RX1) (T := TX1) (N := 13) hx hb hw iwX1 hown hK hP 0 rfl rfl 7 (by decide) (hw _ w_f_X1_24) (fun _ h9 => h9) rfl dX1_pushTerms_93 ?_
          refine lv_aload_n hx hb dX1_pushTerms_96 rfl (lv_at hl 0 rfl) ?_
          refine va_get (D := (dC, dI)) (ci := 1) (v := .int x9) (C := RX1) (T := TX1) (N := 13) hx hb hw iwX1 hown hK hP 0 rfl rfl 9 (by decide) (hw _ w_f_X1_49) (fun _ h9 => h9) rfl dX1_pushTerms_97 ?_
          refine lv_iload_n hx hb dX1_pushTerms_100 rfl (lv_at hl 1 rfl) ?_
          refine lv_iload hx hb dX1_pushTerms_101 (lv_at hl 4 rfl) ?_
          refine lv_isub hx hb dX1_pushTerms_103 ?_
          refine lv_topi (fun z18 ez18 => ?_)
          have tz18 : (z18).toInt = (p1).toInt - (z1).toInt := by rw [ez18]; exact i_sub rfl rfl (by omega)
          have sz18 : 0 ≤ (z18).toInt ∧ (z18).toInt ≤ 9300 := by omega
          refine lv_aload_n hx hb dX1_pushTerms_104 rfl (lv_at hl 0 rfl) ?_
          refine va_get (D := (dC, dI)) (ci := 1) (v := .ref h_td) (C := RX1) (T := TX1) (N := 13) hx hb hw iwX1 hown hK hP 0 rfl rfl 0 (by decide) (hw _ w_f_X1_36) (fun _ h9 => h9) rfl dX1_pushTerms_105 ?_
          refine va_getN (D := (dC, dI)) (ci := 5) (v := .ref h_ter) (C := RX8) (T := TX8) (N := 10) (host := "OppositePairs") hx hb hw iwX8 hown hK hP 3 rfl rfl 3 (by decide) (hN.use n_f_X1_91 rfl) (fun _ h9 => h9) rfl dX1_pushTerms_108 ?_
          refine lv_iload hx hb dX1_pushTerms_111 (lv_at hl 4 rfl) ?_
          refine lv_iconst (v := 3) hx hb dX1_pushTerms_113 (by decide) ?_
          refine lv_imul hx hb dX1_pushTerms_114 ?_
          refine lv_topi (fun z19 ez19 => ?_)
          have tz19 : (z19).toInt = (z1).toInt * 3 := by rw [ez19]; exact i_mul rfl (by decide) (by omega)
          refine lv_iload hx hb dX1_pushTerms_115 (lv_at hl 7 rfl) ?_
          refine lv_iadd hx hb dX1_pushTerms_117 ?_
          refine lv_topi (fun z20 ez20 => ?_)
          have tz20 : (z20).toInt = (z19).toInt + (x8).toInt := by rw [ez20]; exact i_add rfl rfl (by omega)
          refine va_iald hx hb hK hP 5 3 rfl rfl (i := z20) (vp_in_iff.mpr (by omega)) dX1_pushTerms_118 ?_
          refine lv_topi (fun z21 ez21 => ?_)
          have rz21 : 0 ≤ (z21).toInt ∧ (z21).toInt ≤ 299 := by rw [ez21]; exact hf_ter _
          refine lv_iadd hx hb dX1_pushTerms_119 ?_
          refine lv_topi (fun z22 ez22 => ?_)
          have tz22 : (z22).toInt = (z18).toInt + (z21).toInt := by rw [ez22]; exact i_add rfl rfl (by omega)
          refine va_iast hx hb hK hP hD hS 1 0 rfl rfl (i := x9) (x := z22) (vp_in_iff.mpr (by omega)) dX1_pushTerms_120 (fun H locs hP9 hD9 hS9 => ?_)
          obtain ⟨f23, ef23⟩ : ∃ g : Nat → Int32, g = upd f10 (Int32.toNatClampNeg x9) z22 := ⟨_, rfl⟩
          clear hP hD hS
          have hP : va_P (dC, dI) cls [(h_bd, .inr (1, (mo15 v_bd (.ref h_td) (.ref h_lef) (.ref h_rig) (.int x9)))), (h_lef, .inl (cy_lef, 2048, .inl f23)), (h_rig, .inl (cy_rig, 2048, .inl f11)), (h_td, .inr (5, (mo16 v_td (.ref h_trm) (.ref h_ter)))), (h_trm, .inl (cy_trm, 300, .inl f_trm)), (h_ter, .inl (cy_ter, 900, .inl f_ter))] H := by rw [ef23]; exact hP9
          have hD : va_D A [(h_bd, .inr (1, (mo15 v_bd (.ref h_td) (.ref h_lef) (.ref h_rig) (.int x9)))), (h_lef, .inl (cy_lef, 2048, .inl f23)), (h_rig, .inl (cy_rig, 2048, .inl f11)), (h_td, .inr (5, (mo16 v_td (.ref h_trm) (.ref h_ter)))), (h_trm, .inl (cy_trm, 300, .inl f_trm)), (h_ter, .inl (cy_ter, 900, .inl f_ter))] := by rw [ef23]; exact hD9
          have hS := hS9
          clear hP9 hD9 hS9
          have hf23 : Rg (-9600) 9599 f23 := by rw [ef23]; exact rg_upd hf10 (by omega)
          have np24 : Pre0 ((x9).toInt + 1) f23 := by rw [ef23]; exact pre0_upd (pre0_mono klp12_5 (by omega)) rfl (by omega) (by omega) rfl
          clear ef23
          refine lv_aload_n hx hb dX1_pushTerms_121 rfl (lv_at hl 0 rfl) ?_
          refine va_get (D := (dC, dI)) (ci := 1) (v := .ref h_rig) (C := RX1) (T := TX1) (N := 13) hx hb hw iwX1 hown hK hP 0 rfl rfl 8 (by decide) (hw _ w_f_X1_27) (fun _ h9 => h9) rfl dX1_pushTerms_122 ?_
          refine lv_aload_n hx hb dX1_pushTerms_125 rfl (lv_at hl 0 rfl) ?_
          refine lv_dup hx hb dX1_pushTerms_126 rfl ?_
          refine va_get (D := (dC, dI)) (ci := 1) (v := .int x9) (C := RX1) (T := TX1) (N := 13) hx hb hw iwX1 hown hK hP 0 rfl rfl 9 (by decide) (hw _ w_f_X1_49) (fun _ h9 => h9) rfl dX1_pushTerms_127 ?_
          refine lv_dup_x1 hx hb dX1_pushTerms_130 rfl rfl ?_
          refine lv_iconst (v := 1) hx hb dX1_pushTerms_131 (by decide) ?_
          refine lv_iadd hx hb dX1_pushTerms_132 ?_
          refine lv_topi (fun z25 ez25 => ?_)
          have tz25 : (z25).toInt = (x9).toInt + 1 := by rw [ez25]; exact i_add rfl (by decide) (by omega)
          refine va_put (D := (dC, dI)) (ci := 1) (v := .int z25) (ty := tyX1 9) (C := RX1) (T := TX1) (N := 13) hx hb hw iwX1 tyX1 tyX1_ok nmX1 hown hK hP hD hS 0 rfl rfl 9 (by decide) (hw _ w_f_X1_49) (fun _ h9 => h9) rfl (tyX1_ok 9 (by decide)) rfl rfl (Nat.le_of_ble_eq_true rfl) dX1_pushTerms_133 (fun H locs hP9 hD9 hS9 => ?_)
          clear hP hD hS
          have hP : va_P (dC, dI) cls [(h_bd, .inr (1, (mo15 v_bd (.ref h_td) (.ref h_lef) (.ref h_rig) (.int z25)))), (h_lef, .inl (cy_lef, 2048, .inl f23)), (h_rig, .inl (cy_rig, 2048, .inl f11)), (h_td, .inr (5, (mo16 v_td (.ref h_trm) (.ref h_ter)))), (h_trm, .inl (cy_trm, 300, .inl f_trm)), (h_ter, .inl (cy_ter, 900, .inl f_ter))] H := hP9
          have hD : va_D A [(h_bd, .inr (1, (mo15 v_bd (.ref h_td) (.ref h_lef) (.ref h_rig) (.int z25)))), (h_lef, .inl (cy_lef, 2048, .inl f23)), (h_rig, .inl (cy_rig, 2048, .inl f11)), (h_td, .inr (5, (mo16 v_td (.ref h_trm) (.ref h_ter)))), (h_trm, .inl (cy_trm, 300, .inl f_trm)), (h_ter, .inl (cy_ter, 900, .inl f_ter))] := hD9
          have hS := hS9
          clear hP9 hD9 hS9
          refine lv_iload_n hx hb dX1_pushTerms_136 rfl (lv_at hl 2 rfl) ?_
          refine lv_iload hx hb dX1_pushTerms_137 (lv_at hl 5 rfl) ?_
          refine lv_isub hx hb dX1_pushTerms_139 ?_
          refine lv_topi (fun z26 ez26 => ?_)
          have tz26 : (z26).toInt = (p2).toInt - (z2).toInt := by rw [ez26]; exact i_sub rfl rfl (by omega)
          have sz26 : 0 ≤ (z26).toInt ∧ (z26).toInt ≤ 9300 := by omega
          refine lv_aload_n hx hb dX1_pushTerms_140 rfl (lv_at hl 0 rfl) ?_
          refine va_get (D := (dC, dI)) (ci := 1) (v := .ref h_td) (C := RX1) (T := TX1) (N := 13) hx hb hw iwX1 hown hK hP 0 rfl rfl 0 (by decide) (hw _ w_f_X1_36) (fun _ h9 => h9) rfl dX1_pushTerms_141 ?_
          refine va_getN (D := (dC, dI)) (ci := 5) (v := .ref h_ter) (C := RX8) (T := TX8) (N := 10) (host := "OppositePairs") hx hb hw iwX8 hown hK hP 3 rfl rfl 3 (by decide) (hN.use n_f_X1_91 rfl) (fun _ h9 => h9) rfl dX1_pushTerms_144 ?_
          refine lv_iload hx hb dX1_pushTerms_147 (lv_at hl 5 rfl) ?_
          refine lv_iconst (v := 3) hx hb dX1_pushTerms_149 (by decide) ?_
          refine lv_imul hx hb dX1_pushTerms_150 ?_
          refine lv_topi (fun z27 ez27 => ?_)
          have tz27 : (z27).toInt = (z2).toInt * 3 := by rw [ez27]; exact i_mul rfl (by decide) (by omega)
          refine lv_iload hx hb dX1_pushTerms_151 (lv_at hl 7 rfl) ?_
          refine lv_iadd hx hb dX1_pushTerms_153 ?_
          refine lv_topi (fun z28 ez28 => ?_)
          have tz28 : (z28).toInt = (z27).toInt + (x8).toInt := by rw [ez28]; exact i_add rfl rfl (by omega)
          refine va_iald hx hb hK hP 5 3 rfl rfl (i := z28) (vp_in_iff.mpr (by omega)) dX1_pushTerms_154 ?_
          refine lv_topi (fun z29 ez29 => ?_)
          have rz29 : 0 ≤ (z29).toInt ∧ (z29).toInt ≤ 299 := by rw [ez29]; exact hf_ter _
          refine lv_iadd hx hb dX1_pushTerms_155 ?_
          refine lv_topi (fun z30 ez30 => ?_)
          have tz30 : (z30).toInt = (z26).toInt + (z29).toInt := by rw [ez30]; exact i_add rfl rfl (by omega)
          refine va_iast hx hb hK hP hD hS 2 1 rfl rfl (i := x9) (x := z30) (vp_in_iff.mpr (by omega)) dX1_pushTerms_156 (fun H locs hP9 hD9 hS9 => ?_)
          obtain ⟨f31, ef31⟩ : ∃ g : Nat → Int32, g = upd f11 (Int32.toNatClampNeg x9) z30 := ⟨_, rfl⟩
          clear hP hD hS
          have hP : va_P (dC, dI) cls [(h_bd, .inr (1, (mo15 v_bd (.ref h_td) (.ref h_lef) (.ref h_rig) (.int z25)))), (h_lef, .inl (cy_lef, 2048, .inl f23)), (h_rig, .inl (cy_rig, 2048, .inl f31)), (h_td, .inr (5, (mo16 v_td (.ref h_trm) (.ref h_ter)))), (h_trm, .inl (cy_trm, 300, .inl f_trm)), (h_ter, .inl (cy_ter, 900, .inl f_ter))] H := by rw [ef31]; exact hP9
          have hD : va_D A [(h_bd, .inr (1, (mo15 v_bd (.ref h_td) (.ref h_lef) (.ref h_rig) (.int z25)))), (h_lef, .inl (cy_lef, 2048, .inl f23)), (h_rig, .inl (cy_rig, 2048, .inl f31)), (h_td, .inr (5, (mo16 v_td (.ref h_trm) (.ref h_ter)))), (h_trm, .inl (cy_trm, 300, .inl f_trm)), (h_ter, .inl (cy_ter, 900, .inl f_ter))] := by rw [ef31]; exact hD9
          have hS := hS9
          clear hP9 hD9 hS9
          have hf31 : Rg 0 9599 f31 := by rw [ef31]; exact rg_upd hf11 (by omega)
          clear ef31
          obtain ⟨z32, ez32⟩ : ∃ y : Int32, y = x8 + (-1) := ⟨_, rfl⟩
          have tz32 : (z32).toInt = (x8).toInt + -1 := by rw [ez32]; exact i_add rfl (by decide) (by omega)
          refine lv_iinc (v := z32) (lv' := [(7, .int z32), (0, .ref h_bd), (1, .int p1), (2, .int p2), (3, .int 0), (4, .int z1), (5, .int z2), (6, .int z3)]) hx hb dX1_pushTerms_157 hl (k := 7) rfl (by rw [ez32]; rfl) (by decide) rfl (fun ls hl => ?_)
          refine lv_goto (tgt := 87) hx hb dX1_pushTerms_160 (by decide) ?_
          exact ih13 (z32) (z25) (f23) (f31) _ _ _ (by omega) (by omega) hf23 hf31 (by omega) (pre0_mono np24 (by omega)) (by omega) hP hD hS (lv_sub hl [1, 2, 3, 4, 5, 6, 7, 0] rfl)
    exact lp12 _ (z7) (x_bd_top) (f_lef) (f_rig) _ _ _ (by omega) (by first | exact hx_bd_top | omega) hf_lef hf_rig (by omega) (pre0_mono hn_pre0 (by omega)) (Nat.le_refl _) hP hD hS (lv_sub hl [4, 5, 6, 7, 3, 2, 1, 0] rfl)
  · have kc6 := (not_congr (cv_le (rfl : (z5).toInt = (z5).toInt) (by decide : (2048 : Int32).toInt = 2048))).mp c6
    refine lv_iconst (v := 0) hx hb dX1_pushTerms_41 (by decide) ?_
    refine W.widen (k := 0) (n := 0) (Nat.le_of_ble_eq_true rfl) (Nat.le_of_ble_eq_true rfl) ?_
    have cst0 : (0 : Int32).toInt = 0 := by decide
    have w33 : 0 ≤ ((x_bd_top)).toInt ∧ ((x_bd_top)).toInt ≤ 2048 := by first | exact hx_bd_top | omega
    have w34 : 0 ≤ (0 : Int32).toInt ∧ (0 : Int32).toInt ≤ 1 := by omega
    have w35 : Pre0 ((x_bd_top)).toInt (f_lef) := (pre0_mono hn_pre0 (by omega))
    exact W.zret (v := 0) (ty := .boolean) hx hb hr (by decide) (fun t ht hW => ⟨⟨0, (x_bd_top, f_lef, f_rig), rfl, ⟨w33, hf_lef, hf_rig, w34, w35⟩, by rw [ht]; exact hP, hD⟩, hS.F ht⟩) hS.2.2 dX1_pushTerms_42

set_option maxHeartbeats 8000000 in
set_option maxRecDepth 100000 in
theorem c_X1_has (l : Launch) (dC : Nat → ClassId) (dI : Nat → Nat → Nat) (sz : Nat) (h_bd : Nat) (h_bnd : Nat) (h_hol : Nat) (h_see : Nat) (h_td : Nat) (h_var : Nat) (h_trm : Nat) (h_ter : Nat) (v_bd : Nat → Value) (x_bd_searches : Int32) (cy_bnd : ClassId) (f_bnd : Nat → Int32) (cy_hol : ClassId) (f_hol : Nat → Int32) (cy_see : ClassId) (f_see : Nat → Int32) (v_td : Nat → Value) (cy_var : ClassId) (f_var : Nat → Int32) (cy_trm : ClassId) (f_trm : Nat → Int32) (cy_ter : ClassId) (f_ter : Nat → Int32) (p1 : Int32) (p2 : Int32) (hf_bnd : Rg 0 9600 f_bnd) (hf_hol : Rg 0 9599 f_hol) (hf_var : Rg (-1) 7 f_var) (hf_trm : Rg 0 3 f_trm) (hf_ter : Rg 0 299 f_ter) (q0 : 0 ≤ (p1).toInt ∧ (p1).toInt ≤ 9599) : Met l yX1_has (Ws yX1_has cX1_has 9 (some .boolean)) (({ frames := 0, cells := 0, slots := 0, locals := 0 } : Room)) (PRE (dC, dI) cls [(cy_bnd, .int), (cy_hol, .int), (cy_see, .int), (cy_var, .int), (cy_trm, .int), (cy_ter, .int)] [(h_bd, .inr (1, (mo17 v_bd (.ref h_td) (.ref h_bnd) (.ref h_hol) (.ref h_see) (.int x_bd_searches)))), (h_bnd, .inl (cy_bnd, 256, .inl f_bnd)), (h_hol, .inl (cy_hol, 2048, .inl f_hol)), (h_see, .inl (cy_see, 256, .inl f_see)), (h_td, .inr (5, (mo18 v_td (.ref h_var) (.ref h_trm) (.ref h_ter)))), (h_var, .inl (cy_var, 300, .inl f_var)), (h_trm, .inl (cy_trm, 300, .inl f_trm)), (h_ter, .inl (cy_ter, 900, .inl f_ter))] sz [.ref h_bd, .int p1, .int p2]) (va_Qi (fun (r : Int32) (u : (Int32) × (Nat → Int32) × (Nat → Int32)) => (Rg 0 9599 u.2.1) ∧ (0 ≤ r.toInt ∧ r.toInt ≤ 1)) (fun (u : (Int32) × (Nat → Int32) × (Nat → Int32)) (t : State) => va_P (dC, dI) cls [(h_bd, .inr (1, (mo17 v_bd (.ref h_td) (.ref h_bnd) (.ref h_hol) (.ref h_see) (.int u.1)))), (h_bnd, .inl (cy_bnd, 256, .inl f_bnd)), (h_hol, .inl (cy_hol, 2048, .inl u.2.1)), (h_see, .inl (cy_see, 256, .inl u.2.2)), (h_td, .inr (5, (mo18 v_td (.ref h_var) (.ref h_trm) (.ref h_ter)))), (h_var, .inl (cy_var, 300, .inl f_var)), (h_trm, .inl (cy_trm, 300, .inl f_trm)), (h_ter, .inl (cy_ter, 900, .inl f_ter))] t.heap ∧ va_D (va_A [(h_bd, .inr (1, (mo17 v_bd (.ref h_td) (.ref h_bnd) (.ref h_hol) (.ref h_see) (.int x_bd_searches)))), (h_bnd, .inl (cy_bnd, 256, .inl f_bnd)), (h_hol, .inl (cy_hol, 2048, .inl f_hol)), (h_see, .inl (cy_see, 256, .inl f_see)), (h_td, .inr (5, (mo18 v_td (.ref h_var) (.ref h_trm) (.ref h_ter)))), (h_var, .inl (cy_var, 300, .inl f_var)), (h_trm, .inl (cy_trm, 300, .inl f_trm)), (h_ter, .inl (cy_ter, 900, .inl f_ter))] sz) [(h_bd, .inr (1, (mo17 v_bd (.ref h_td) (.ref h_bnd) (.ref h_hol) (.ref h_see) (.int u.1)))), (h_bnd, .inl (cy_bnd, 256, .inl f_bnd)), (h_hol, .inl (cy_hol, 2048, .inl u.2.1)), (h_see, .inl (cy_see, 256, .inl u.2.2)), (h_td, .inr (5, (mo18 v_td (.ref h_var) (.ref h_trm) (.ref h_ter)))), (h_var, .inl (cy_var, 300, .inl f_var)), (h_trm, .inl (cy_trm, 300, .inl f_trm)), (h_ter, .inl (cy_ter, 900, .inl f_ter))]) (va_A [(h_bd, .inr (1, (mo17 v_bd (.ref h_td) (.ref h_bnd) (.ref h_hol) (.ref h_see) (.int x_bd_searches)))), (h_bnd, .inl (cy_bnd, 256, .inl f_bnd)), (h_hol, .inl (cy_hol, 2048, .inl f_hol)), (h_see, .inl (cy_see, 256, .inl f_see)), (h_td, .inr (5, (mo18 v_td (.ref h_var) (.ref h_trm) (.ref h_ter)))), (h_var, .inl (cy_var, 300, .inl f_var)), (h_trm, .inl (cy_trm, 300, .inl f_trm)), (h_ter, .inl (cy_ter, 900, .inl f_ter))] sz)) 0 0 (va_A [(h_bd, .inr (1, (mo17 v_bd (.ref h_td) (.ref h_bnd) (.ref h_hol) (.ref h_see) (.int x_bd_searches)))), (h_bnd, .inl (cy_bnd, 256, .inl f_bnd)), (h_hol, .inl (cy_hol, 2048, .inl f_hol)), (h_see, .inl (cy_see, 256, .inl f_see)), (h_td, .inr (5, (mo18 v_td (.ref h_var) (.ref h_trm) (.ref h_ter)))), (h_var, .inl (cy_var, 300, .inl f_var)), (h_trm, .inl (cy_trm, 300, .inl f_trm)), (h_ter, .inl (cy_ter, 900, .inl f_ter))] sz) := by
  refine Met.ofW (cc := cX1_has) (maxL := 9) (ret := (some .boolean)) (by decide) rfl ?_
  intro p e s m args below meth c s₁ B hml hv
  obtain ⟨rfl, hsz, hP, hK, hD0, hN⟩ := hv
  have hx := B.exec
  have hb := B.bytes
  have hr := B.returns
  have hts := atoms_spec (ws := Ws yX1_has cX1_has 9 (some .boolean)) B.pre
  have hT : ∀ w ∈ WALL, w ∈ Ws yX1_has cX1_has 9 (some .boolean) := fun w h => List.mem_cons_of_mem _ h
  have hw := fun w (h : w ∈ WALL) => hts w (hT w h)
  have hown : s.vm.findClass RX1 = some m.cls := findClass_of_methodNamed B.named
  have hlocks := B.notSynchronized
  subst hsz
  have hD := hD0.self (sz := s.heap.size)
  generalize hAe : va_A [(h_bd, .inr (1, (mo17 v_bd (.ref h_td) (.ref h_bnd) (.ref h_hol) (.ref h_see) (.int x_bd_searches)))), (h_bnd, .inl (cy_bnd, 256, .inl f_bnd)), (h_hol, .inl (cy_hol, 2048, .inl f_hol)), (h_see, .inl (cy_see, 256, .inl f_see)), (h_td, .inr (5, (mo18 v_td (.ref h_var) (.ref h_trm) (.ref h_ter)))), (h_var, .inl (cy_var, 300, .inl f_var)), (h_trm, .inl (cy_trm, 300, .inl f_trm)), (h_ter, .inl (cy_ter, 900, .inl f_ter))] s.heap.size = A at hD ⊢
  have hA : ∀ q : Nat, s.heap.size ≤ q → A q := fun q h => by rw [← hAe]; exact Or.inr h
  have hS : va_S A s.heap s.heap [] := va_S.rf
  have hl := lv_entry ([.ref h_bd, .int p1, .int p2]) (n := 9) (Nat.le_of_ble_eq_true rfl)
  rw [lg_entry_eq]
  generalize (lg_sl ([.ref h_bd, .int p1, .int p2]) ++ List.replicate (9 - (lg_sl ([.ref h_bd, .int p1, .int p2])).length) Slot.unset).toArray = ls at hl ⊢
  have hl : lv_has ls 9 [(0, .ref h_bd), (1, .int p1), (2, .int p2)] := hl
  refine lv_aload_n hx hb dX1_has_0 rfl (lv_at hl 0 rfl) ?_
  refine lv_dup hx hb dX1_has_1 rfl ?_
  refine va_get (D := (dC, dI)) (ci := 1) (v := .int x_bd_searches) (C := RX1) (T := TX1) (N := 13) hx hb hw iwX1 hown hK hP 0 rfl rfl 12 (by decide) (hw _ w_f_X1_94) (fun _ h9 => h9) rfl dX1_has_2 ?_
  refine lv_iconst (v := 1) hx hb dX1_has_5 (by decide) ?_
  refine lv_iadd hx hb dX1_has_6 ?_
  refine lv_topi (fun z1 ez1 => ?_)
  refine va_put (D := (dC, dI)) (ci := 1) (v := .int z1) (ty := tyX1 12) (C := RX1) (T := TX1) (N := 13) hx hb hw iwX1 tyX1 tyX1_ok nmX1 hown hK hP hD hS 0 rfl rfl 12 (by decide) (hw _ w_f_X1_94) (fun _ h9 => h9) rfl (tyX1_ok 12 (by decide)) rfl rfl (Nat.le_of_ble_eq_true rfl) dX1_has_7 (fun H locs hP9 hD9 hS9 => ?_)
  clear hP hD hS
  have hP : va_P (dC, dI) cls [(h_bd, .inr (1, (mo17 v_bd (.ref h_td) (.ref h_bnd) (.ref h_hol) (.ref h_see) (.int z1)))), (h_bnd, .inl (cy_bnd, 256, .inl f_bnd)), (h_hol, .inl (cy_hol, 2048, .inl f_hol)), (h_see, .inl (cy_see, 256, .inl f_see)), (h_td, .inr (5, (mo18 v_td (.ref h_var) (.ref h_trm) (.ref h_ter)))), (h_var, .inl (cy_var, 300, .inl f_var)), (h_trm, .inl (cy_trm, 300, .inl f_trm)), (h_ter, .inl (cy_ter, 900, .inl f_ter))] H := hP9
  have hD : va_D A [(h_bd, .inr (1, (mo17 v_bd (.ref h_td) (.ref h_bnd) (.ref h_hol) (.ref h_see) (.int z1)))), (h_bnd, .inl (cy_bnd, 256, .inl f_bnd)), (h_hol, .inl (cy_hol, 2048, .inl f_hol)), (h_see, .inl (cy_see, 256, .inl f_see)), (h_td, .inr (5, (mo18 v_td (.ref h_var) (.ref h_trm) (.ref h_ter)))), (h_var, .inl (cy_var, 300, .inl f_var)), (h_trm, .inl (cy_trm, 300, .inl f_trm)), (h_ter, .inl (cy_ter, 900, .inl f_ter))] := hD9
  have hS := hS9
  clear hP9 hD9 hS9
  refine lv_iconst (v := 1) hx hb dX1_has_10 (by decide) ?_
  refine lv_istore_n (lv' := [(3, .int 1), (0, .ref h_bd), (1, .int p1), (2, .int p2)]) hx hb dX1_has_11 rfl hl (by decide) rfl (fun ls hl => ?_)
  refine lv_aload_n hx hb dX1_has_12 rfl (lv_at hl 1 rfl) ?_
  refine va_get (D := (dC, dI)) (ci := 1) (v := .ref h_hol) (C := RX1) (T := TX1) (N := 13) hx hb hw iwX1 hown hK hP 0 rfl rfl 10 (by decide) (hw _ w_f_X1_30) (fun _ h9 => h9) rfl dX1_has_13 ?_
  refine lv_iconst (v := 0) hx hb dX1_has_16 (by decide) ?_
  refine lv_iload_n hx hb dX1_has_17 rfl (lv_at hl 2 rfl) ?_
  refine va_iast hx hb hK hP hD hS 2 1 rfl rfl (i := 0) (x := p1) (show ¬ _ from by decide) dX1_has_18 (fun H locs hP9 hD9 hS9 => ?_)
  obtain ⟨f2, ef2⟩ : ∃ g : Nat → Int32, g = upd f_hol (Int32.toNatClampNeg 0) p1 := ⟨_, rfl⟩
  clear hP hD hS
  have hP : va_P (dC, dI) cls [(h_bd, .inr (1, (mo17 v_bd (.ref h_td) (.ref h_bnd) (.ref h_hol) (.ref h_see) (.int z1)))), (h_bnd, .inl (cy_bnd, 256, .inl f_bnd)), (h_hol, .inl (cy_hol, 2048, .inl f2)), (h_see, .inl (cy_see, 256, .inl f_see)), (h_td, .inr (5, (mo18 v_td (.ref h_var) (.ref h_trm) (.ref h_ter)))), (h_var, .inl (cy_var, 300, .inl f_var)), (h_trm, .inl (cy_trm, 300, .inl f_trm)), (h_ter, .inl (cy_ter, 900, .inl f_ter))] H := by rw [ef2]; exact hP9
  have hD : va_D A [(h_bd, .inr (1, (mo17 v_bd (.ref h_td) (.ref h_bnd) (.ref h_hol) (.ref h_see) (.int z1)))), (h_bnd, .inl (cy_bnd, 256, .inl f_bnd)), (h_hol, .inl (cy_hol, 2048, .inl f2)), (h_see, .inl (cy_see, 256, .inl f_see)), (h_td, .inr (5, (mo18 v_td (.ref h_var) (.ref h_trm) (.ref h_ter)))), (h_var, .inl (cy_var, 300, .inl f_var)), (h_trm, .inl (cy_trm, 300, .inl f_trm)), (h_ter, .inl (cy_ter, 900, .inl f_ter))] := by rw [ef2]; exact hD9
  have hS := hS9
  clear hP9 hD9 hS9
  have hf2 : Rg 0 9599 f2 := by rw [ef2]; exact rg_upd hf_hol (by omega)
  clear ef2
  refine lv_iconst (v := 0) hx hb dX1_has_19 (by decide) ?_
  refine lv_istore (lv' := [(4, .int 0), (3, .int 1), (0, .ref h_bd), (1, .int p1), (2, .int p2)]) hx hb dX1_has_20 hl (by decide) rfl (fun ls hl => ?_)
  have lp7 : ∀ (n : Nat) (x3 : Int32) (x4 : Int32) (f5 : Nat → Int32) (f6 : Nat → Int32) (H : Heap) (locs : List Loc) (ls : Array Slot), (0 ≤ (x3).toInt ∧ (x3).toInt ≤ 2048) → (0 ≤ (x4).toInt ∧ (x4).toInt ≤ 1000000) → (Rg 0 9599 f5) → (1000000 - (x4).toInt).toNat + 1 ≤ n → va_P (dC, dI) cls [(h_bd, .inr (1, (mo17 v_bd (.ref h_td) (.ref h_bnd) (.ref h_hol) (.ref h_see) (.int z1)))), (h_bnd, .inl (cy_bnd, 256, .inl f_bnd)), (h_hol, .inl (cy_hol, 2048, .inl f5)), (h_see, .inl (cy_see, 256, .inl f6)), (h_td, .inr (5, (mo18 v_td (.ref h_var) (.ref h_trm) (.ref h_ter)))), (h_var, .inl (cy_var, 300, .inl f_var)), (h_trm, .inl (cy_trm, 300, .inl f_trm)), (h_ter, .inl (cy_ter, 900, .inl f_ter))] H → va_D A [(h_bd, .inr (1, (mo17 v_bd (.ref h_td) (.ref h_bnd) (.ref h_hol) (.ref h_see) (.int z1)))), (h_bnd, .inl (cy_bnd, 256, .inl f_bnd)), (h_hol, .inl (cy_hol, 2048, .inl f5)), (h_see, .inl (cy_see, 256, .inl f6)), (h_td, .inr (5, (mo18 v_td (.ref h_var) (.ref h_trm) (.ref h_ter)))), (h_var, .inl (cy_var, 300, .inl f_var)), (h_trm, .inl (cy_trm, 300, .inl f_trm)), (h_ter, .inl (cy_ter, 900, .inl f_ter))] → va_S A s.heap H locs → lv_has ls 9 [(0, .ref h_bd), (1, .int p1), (2, .int p2), (3, .int x3), (4, .int x4)] → W p l e ({ frames := 0, cells := 0, slots := 0, locals := 0 } : Room) s m ([.ref h_bd, .int p1, .int p2] : List Value).toArray below meth c H locs 0 0 (MQ below (va_Qi (fun (r : Int32) (u : (Int32) × (Nat → Int32) × (Nat → Int32)) => (Rg 0 9599 u.2.1) ∧ (0 ≤ r.toInt ∧ r.toInt ≤ 1)) (fun (u : (Int32) × (Nat → Int32) × (Nat → Int32)) (t : State) => va_P (dC, dI) cls [(h_bd, .inr (1, (mo17 v_bd (.ref h_td) (.ref h_bnd) (.ref h_hol) (.ref h_see) (.int u.1)))), (h_bnd, .inl (cy_bnd, 256, .inl f_bnd)), (h_hol, .inl (cy_hol, 2048, .inl u.2.1)), (h_see, .inl (cy_see, 256, .inl u.2.2)), (h_td, .inr (5, (mo18 v_td (.ref h_var) (.ref h_trm) (.ref h_ter)))), (h_var, .inl (cy_var, 300, .inl f_var)), (h_trm, .inl (cy_trm, 300, .inl f_trm)), (h_ter, .inl (cy_ter, 900, .inl f_ter))] t.heap ∧ va_D A [(h_bd, .inr (1, (mo17 v_bd (.ref h_td) (.ref h_bnd) (.ref h_hol) (.ref h_see) (.int u.1)))), (h_bnd, .inl (cy_bnd, 256, .inl f_bnd)), (h_hol, .inl (cy_hol, 2048, .inl u.2.1)), (h_see, .inl (cy_see, 256, .inl u.2.2)), (h_td, .inr (5, (mo18 v_td (.ref h_var) (.ref h_trm) (.ref h_ter)))), (h_var, .inl (cy_var, 300, .inl f_var)), (h_trm, .inl (cy_trm, 300, .inl f_trm)), (h_ter, .inl (cy_ter, 900, .inl f_ter))]) A) ([.ref h_bd, .int p1, .int p2] : List Value).toArray s 0 0 A) (F0 m 22 ls []) := by
    clear hP hD hS hl
    intro n
    induction n with
    | zero => intro x3 x4 f5 f6 H locs ls klp7_0 klp7_1 hf5 hm hP hD hS hl; exact False.elim (by omega)
    | succ n ih => 
      intro x3 x4 f5 f6 H locs ls klp7_0 klp7_1 hf5 hm hP hD hS hl
      have ih8 := ih
      clear ih
      refine lv_iload hx hb dX1_has_22 (lv_at hl 4 rfl) ?_
      refine lv_ldc (v := 1000000) hx hb hown (hw _ w_k_X1_55) dX1_has_24 ?_
      refine lv_icmp_ge (tgt := 223) hx hb dX1_has_26 (by decide) (fun c9 => ?_) (fun c9 => ?_)
      · have kc9 := (cv_le (by decide : (1000000 : Int32).toInt = 1000000) (rfl : (x4).toInt = (x4).toInt)).mp c9
        refine lv_iload_n hx hb dX1_has_223 rfl (lv_at hl 3 rfl) ?_
        refine lv_if_le (tgt := 231) hx hb dX1_has_224 (by decide) (fun c10 => ?_) (fun c10 => ?_)
        · have kc10 := (cv_le (rfl : (x3).toInt = (x3).toInt) (by decide : (0 : Int32).toInt = 0)).mp c10
          refine lv_iconst (v := 0) hx hb dX1_has_231 (by decide) ?_
          refine W.widen (k := 0) (n := 0) (Nat.le_of_ble_eq_true rfl) (Nat.le_of_ble_eq_true rfl) ?_
          have cst0 : (0 : Int32).toInt = 0 := by decide
          have w11 : 0 ≤ (0 : Int32).toInt ∧ (0 : Int32).toInt ≤ 1 := by omega
          exact W.zret (v := 0) (ty := .boolean) hx hb hr (by decide) (fun t ht hW => ⟨⟨0, (z1, f5, f6), rfl, ⟨hf5, w11⟩, by rw [ht]; exact hP, hD⟩, hS.F ht⟩) hS.2.2 dX1_has_232
        · have kc10 := (not_congr (cv_le (rfl : (x3).toInt = (x3).toInt) (by decide : (0 : Int32).toInt = 0))).mp c10
          refine lv_iconst (v := 1) hx hb dX1_has_227 (by decide) ?_
          refine lv_goto (tgt := 232) hx hb dX1_has_228 (by decide) ?_
          refine W.widen (k := 0) (n := 0) (Nat.le_of_ble_eq_true rfl) (Nat.le_of_ble_eq_true rfl) ?_
          have cst1 : (1 : Int32).toInt = 1 := by decide
          have w12 : 0 ≤ (1 : Int32).toInt ∧ (1 : Int32).toInt ≤ 1 := by omega
          exact W.zret (v := 1) (ty := .boolean) hx hb hr (by decide) (fun t ht hW => ⟨⟨1, (z1, f5, f6), rfl, ⟨hf5, w12⟩, by rw [ht]; exact hP, hD⟩, hS.F ht⟩) hS.2.2 dX1_has_232
      · have kc9 := (not_congr (cv_le (by decide : (1000000 : Int32).toInt = 1000000) (rfl : (x4).toInt = (x4).toInt))).mp c9
        refine lv_iload_n hx hb dX1_has_29 rfl (lv_at hl 3 rfl) ?_
        refine lv_if_le (tgt := 223) hx hb dX1_has_30 (by decide) (fun c13 => ?_) (fun c13 => ?_)
        · have kc13 := (cv_le (rfl : (x3).toInt = (x3).toInt) (by decide : (0 : Int32).toInt = 0)).mp c13
          refine lv_iload_n hx hb dX1_has_223 rfl (lv_at hl 3 rfl) ?_
          refine lv_if_le (tgt := 231) hx hb dX1_has_224 (by decide) (fun _ => ?_) (fun c14 => False.elim (by have kc14 := (not_congr (cv_le (rfl : (x3).toInt = (x3).toInt) (by decide : (0 : Int32).toInt = 0))).mp c14; omega))
          refine lv_iconst (v := 0) hx hb dX1_has_231 (by decide) ?_
          refine W.widen (k := 0) (n := 0) (Nat.le_of_ble_eq_true rfl) (Nat.le_of_ble_eq_true rfl) ?_
          have cst0 : (0 : Int32).toInt = 0 := by decide
          have w15 : 0 ≤ (0 : Int32).toInt ∧ (0 : Int32).toInt ≤ 1 := by omega
          exact W.zret (v := 0) (ty := .boolean) hx hb hr (by decide) (fun t ht hW => ⟨⟨0, (z1, f5, f6), rfl, ⟨hf5, w15⟩, by rw [ht]; exact hP, hD⟩, hS.F ht⟩) hS.2.2 dX1_has_232
        · have kc13 := (not_congr (cv_le (rfl : (x3).toInt = (x3).toInt) (by decide : (0 : Int32).toInt = 0))).mp c13
          obtain ⟨z16, ez16⟩ : ∃ y : Int32, y = x3 + (-1) := ⟨_, rfl⟩
          have tz16 : (z16).toInt = (x3).toInt + -1 := by rw [ez16]; exact i_add rfl (by decide) (by omega)
          refine lv_iinc (v := z16) (lv' := [(3, .int z16), (0, .ref h_bd), (1, .int p1), (2, .int p2), (4, .int x4)]) hx hb dX1_has_33 hl (k := 3) rfl (by rw [ez16]; rfl) (by decide) rfl (fun ls hl => ?_)
          refine lv_aload_n hx hb dX1_has_36 rfl (lv_at hl 1 rfl) ?_
          refine va_get (D := (dC, dI)) (ci := 1) (v := .ref h_hol) (C := RX1) (T := TX1) (N := 13) hx hb hw iwX1 hown hK hP 0 rfl rfl 10 (by decide) (hw _ w_f_X1_30) (fun _ h9 => h9) rfl dX1_has_37 ?_
          refine lv_iload_n hx hb dX1_has_40 rfl (lv_at hl 0 rfl) ?_
          refine va_iald hx hb hK hP 2 1 rfl rfl (i := z16) (vp_in_iff.mpr (by omega)) dX1_has_41 ?_
          refine lv_topi (fun z17 ez17 => ?_)
          have rz17 : 0 ≤ (z17).toInt ∧ (z17).toInt ≤ 9599 := by rw [ez17]; exact hf5 _
          refine lv_sipush (v := 300) hx hb dX1_has_42 (by decide) ?_
          refine lv_irem hx hb dX1_has_45 (by decide) ?_
          refine lv_topi (fun z18 ez18 => ?_)
          have tz18 : (z18).toInt = (z17).toInt % 300 := by rw [ez18]; exact i_rem rfl (by decide) (by omega)
          refine lv_istore (lv' := [(5, .int z18), (3, .int z16), (0, .ref h_bd), (1, .int p1), (2, .int p2), (4, .int x4)]) hx hb dX1_has_46 hl (by decide) rfl (fun ls hl => ?_)
          refine lv_aload_n hx hb dX1_has_48 rfl (lv_at hl 2 rfl) ?_
          refine va_get (D := (dC, dI)) (ci := 1) (v := .ref h_hol) (C := RX1) (T := TX1) (N := 13) hx hb hw iwX1 hown hK hP 0 rfl rfl 10 (by decide) (hw _ w_f_X1_30) (fun _ h9 => h9) rfl dX1_has_49 ?_
          refine lv_iload_n hx hb dX1_has_52 rfl (lv_at hl 1 rfl) ?_
          refine va_iald hx hb hK hP 2 1 rfl rfl (i := z16) (vp_in_iff.mpr (by omega)) dX1_has_53 ?_
          refine lv_topi (fun z19 ez19 => ?_)
          have qz19 : (z19).toInt = (z17).toInt := by rw [ez19, ez17]
          have rz19 : 0 ≤ (z19).toInt ∧ (z19).toInt ≤ 9599 := by rw [ez19]; exact hf5 _
          refine lv_iload hx hb dX1_has_54 (lv_at hl 0 rfl) ?_
          refine lv_isub hx hb dX1_has_56 ?_
          refine lv_topi (fun z20 ez20 => ?_)
          have tz20 : (z20).toInt = (z19).toInt - (z18).toInt := by rw [ez20]; exact i_sub rfl rfl (by omega)
          have sz20 : 0 ≤ (z20).toInt ∧ (z20).toInt ≤ 9300 := by omega
          refine lv_istore (lv' := [(6, .int z20), (5, .int z18), (3, .int z16), (0, .ref h_bd), (1, .int p1), (2, .int p2), (4, .int x4)]) hx hb dX1_has_57 hl (by decide) rfl (fun ls hl => ?_)
          refine lv_aload_n hx hb dX1_has_59 rfl (lv_at hl 3 rfl) ?_
          refine va_get (D := (dC, dI)) (ci := 1) (v := .ref h_td) (C := RX1) (T := TX1) (N := 13) hx hb hw iwX1 hown hK hP 0 rfl rfl 0 (by decide) (hw _ w_f_X1_36) (fun _ h9 => h9) rfl dX1_has_60 ?_
          refine va_getN (D := (dC, dI)) (ci := 5) (v := .ref h_var) (C := RX8) (T := TX8) (N := 10) (host := "OppositePairs") hx hb hw iwX8 hown hK hP 4 rfl rfl 1 (by decide) (hN.use n_f_X1_44 rfl) (fun _ h9 => h9) rfl dX1_has_63 ?_
          refine lv_iload hx hb dX1_has_66 (lv_at hl 1 rfl) ?_
          refine va_iald hx hb hK hP 5 3 rfl rfl (i := z18) (vp_in_iff.mpr (by omega)) dX1_has_68 ?_
          refine lv_topi (fun z21 ez21 => ?_)
          have rz21 : -1 ≤ (z21).toInt ∧ (z21).toInt ≤ 7 := by rw [ez21]; exact hf_var _
          refine lv_istore (lv' := [(7, .int z21), (6, .int z20), (5, .int z18), (3, .int z16), (0, .ref h_bd), (1, .int p1), (2, .int p2), (4, .int x4)]) hx hb dX1_has_69 hl (by decide) rfl (fun ls hl => ?_)
          refine lv_iload_n hx hb dX1_has_71 rfl (lv_at hl 3 rfl) ?_
          refine lv_iconst (v := 3) hx hb dX1_has_72 (by decide) ?_
          refine lv_iadd hx hb dX1_has_73 ?_
          refine lv_topi (fun z22 ez22 => ?_)
          have tz22 : (z22).toInt = (z16).toInt + 3 := by rw [ez22]; exact i_add rfl (by decide) (by omega)
          refine lv_sipush (v := 2048) hx hb dX1_has_74 (by decide) ?_
          refine lv_icmp_le (tgt := 82) hx hb dX1_has_77 (by decide) (fun c23 => ?_) (fun c23 => ?_)
          · have kc23 := (cv_le (rfl : (z22).toInt = (z22).toInt) (by decide : (2048 : Int32).toInt = 2048)).mp c23
            refine lv_iload hx hb dX1_has_82 (lv_at hl 0 rfl) ?_
            refine lv_iconst (v := (-1)) hx hb dX1_has_84 (by decide) ?_
            refine lv_icmp_ne (tgt := 142) hx hb dX1_has_85 (by decide) (fun c24 => ?_) (fun c24 => ?_)
            · have kc24 := (not_congr (cv_eq (rfl : (z21).toInt = (z21).toInt) (by decide : ((-1) : Int32).toInt = -1))).mp c24
              refine lv_iload hx hb dX1_has_142 (lv_at hl 1 rfl) ?_
              refine lv_sipush (v := 300) hx hb dX1_has_144 (by decide) ?_
              refine lv_idiv hx hb dX1_has_147 (by decide) ?_
              refine lv_topi (fun z25 ez25 => ?_)
              have tz25 : (z25).toInt = (z20).toInt / 300 := by rw [ez25]; exact i_div rfl (by decide) (by omega)
              refine lv_bipush (v := 8) hx hb dX1_has_148 (by decide) ?_
              refine lv_imul hx hb dX1_has_150 ?_
              refine lv_topi (fun z26 ez26 => ?_)
              have tz26 : (z26).toInt = (z25).toInt * 8 := by rw [ez26]; exact i_mul rfl (by decide) (by omega)
              refine lv_iload hx hb dX1_has_151 (lv_at hl 0 rfl) ?_
              refine lv_iadd hx hb dX1_has_153 ?_
              refine lv_topi (fun z27 ez27 => ?_)
              have tz27 : (z27).toInt = (z26).toInt + (z21).toInt := by rw [ez27]; exact i_add rfl rfl (by omega)
              refine lv_istore (lv' := [(8, .int z27), (7, .int z21), (6, .int z20), (5, .int z18), (3, .int z16), (0, .ref h_bd), (1, .int p1), (2, .int p2), (4, .int x4)]) hx hb dX1_has_154 hl (by decide) rfl (fun ls hl => ?_)
              refine lv_iload hx hb dX1_has_156 (lv_at hl 0 rfl) ?_
              refine lv_iload_n hx hb dX1_has_158 rfl (lv_at hl 7 rfl) ?_
              refine lv_icmp_ne (tgt := 164) hx hb dX1_has_159 (by decide) (fun c28 => ?_) (fun c28 => ?_)
              · have kc28 := (not_congr (cv_eq (rfl : (z27).toInt = (z27).toInt) (rfl : (p2).toInt = (p2).toInt))).mp c28
                refine lv_aload_n hx hb dX1_has_164 rfl (lv_at hl 5 rfl) ?_
                refine va_get (D := (dC, dI)) (ci := 1) (v := .ref h_bnd) (C := RX1) (T := TX1) (N := 13) hx hb hw iwX1 hown hK hP 0 rfl rfl 1 (by decide) (hw _ w_f_X1_9) (fun _ h9 => h9) rfl dX1_has_165 ?_
                refine lv_iload hx hb dX1_has_168 (lv_at hl 0 rfl) ?_
                refine va_iald hx hb hK hP 1 0 rfl rfl (i := z27) (vp_in_iff.mpr (by omega)) dX1_has_170 ?_
                refine lv_topi (fun z29 ez29 => ?_)
                have rz29 : 0 ≤ (z29).toInt ∧ (z29).toInt ≤ 9600 := by rw [ez29]; exact hf_bnd _
                refine lv_if_eq (tgt := 217) hx hb dX1_has_171 (by decide) (fun c30 => ?_) (fun c30 => ?_)
                · have kc30 := (cv_eq (rfl : (z29).toInt = (z29).toInt) (by decide : (0 : Int32).toInt = 0)).mp c30
                  obtain ⟨z31, ez31⟩ : ∃ y : Int32, y = x4 + 1 := ⟨_, rfl⟩
                  have tz31 : (z31).toInt = (x4).toInt + 1 := by rw [ez31]; exact i_add rfl (by decide) (by omega)
                  refine lv_iinc (v := z31) (lv' := [(4, .int z31), (8, .int z27), (7, .int z21), (6, .int z20), (5, .int z18), (3, .int z16), (0, .ref h_bd), (1, .int p1), (2, .int p2)]) hx hb dX1_has_217 hl (k := 8) rfl (by rw [ez31]; rfl) (by decide) rfl (fun ls hl => ?_)
                  refine lv_goto (tgt := 22) hx hb dX1_has_220 (by decide) ?_
                  exact ih8 (z16) (z31) (f5) (f6) _ _ _ (by omega) (by omega) hf5 (by omega) hP hD hS (lv_sub hl [6, 7, 8, 5, 0] rfl)
                · have kc30 := (not_congr (cv_eq (rfl : (z29).toInt = (z29).toInt) (by decide : (0 : Int32).toInt = 0))).mp c30
                  refine lv_aload_n hx hb dX1_has_174 rfl (lv_at hl 5 rfl) ?_
                  refine va_get (D := (dC, dI)) (ci := 1) (v := .ref h_see) (C := RX1) (T := TX1) (N := 13) hx hb hw iwX1 hown hK hP 0 rfl rfl 11 (by decide) (hw _ w_f_X1_33) (fun _ h9 => h9) rfl dX1_has_175 ?_
                  refine lv_iload hx hb dX1_has_178 (lv_at hl 0 rfl) ?_
                  refine va_iald hx hb hK hP 3 2 rfl rfl (i := z27) (vp_in_iff.mpr (by omega)) dX1_has_180 ?_
                  refine lv_topi (fun z32 ez32 => ?_)
                  refine lv_aload_n hx hb dX1_has_181 rfl (lv_at hl 5 rfl) ?_
                  refine va_get (D := (dC, dI)) (ci := 1) (v := .int z1) (C := RX1) (T := TX1) (N := 13) hx hb hw iwX1 hown hK hP 0 rfl rfl 12 (by decide) (hw _ w_f_X1_94) (fun _ h9 => h9) rfl dX1_has_182 ?_
                  refine lv_icmp_eq (tgt := 217) hx hb dX1_has_185 (by decide) (fun c33 => ?_) (fun c33 => ?_)
                  · have kc33 := (cv_eq (rfl : (z32).toInt = (z32).toInt) (rfl : (z1).toInt = (z1).toInt)).mp c33
                    obtain ⟨z34, ez34⟩ : ∃ y : Int32, y = x4 + 1 := ⟨_, rfl⟩
                    have tz34 : (z34).toInt = (x4).toInt + 1 := by rw [ez34]; exact i_add rfl (by decide) (by omega)
                    refine lv_iinc (v := z34) (lv' := [(4, .int z34), (8, .int z27), (7, .int z21), (6, .int z20), (5, .int z18), (3, .int z16), (0, .ref h_bd), (1, .int p1), (2, .int p2)]) hx hb dX1_has_217 hl (k := 8) rfl (by rw [ez34]; rfl) (by decide) rfl (fun ls hl => ?_)
                    refine lv_goto (tgt := 22) hx hb dX1_has_220 (by decide) ?_
                    exact ih8 (z16) (z34) (f5) (f6) _ _ _ (by omega) (by omega) hf5 (by omega) hP hD hS (lv_sub hl [6, 7, 8, 5, 0] rfl)
                  · have kc33 := (not_congr (cv_eq (rfl : (z32).toInt = (z32).toInt) (rfl : (z1).toInt = (z1).toInt))).mp c33
                    refine lv_aload_n hx hb dX1_has_188 rfl (lv_at hl 5 rfl) ?_
                    refine va_get (D := (dC, dI)) (ci := 1) (v := .ref h_see) (C := RX1) (T := TX1) (N := 13) hx hb hw iwX1 hown hK hP 0 rfl rfl 11 (by decide) (hw _ w_f_X1_33) (fun _ h9 => h9) rfl dX1_has_189 ?_
                    refine lv_iload hx hb dX1_has_192 (lv_at hl 0 rfl) ?_
                    refine lv_aload_n hx hb dX1_has_194 rfl (lv_at hl 5 rfl) ?_
                    refine va_get (D := (dC, dI)) (ci := 1) (v := .int z1) (C := RX1) (T := TX1) (N := 13) hx hb hw iwX1 hown hK hP 0 rfl rfl 12 (by decide) (hw _ w_f_X1_94) (fun _ h9 => h9) rfl dX1_has_195 ?_
                    refine va_iast hx hb hK hP hD hS 3 2 rfl rfl (i := z27) (x := z1) (vp_in_iff.mpr (by omega)) dX1_has_198 (fun H locs hP9 hD9 hS9 => ?_)
                    obtain ⟨f35, ef35⟩ : ∃ g : Nat → Int32, g = upd f6 (Int32.toNatClampNeg z27) z1 := ⟨_, rfl⟩
                    clear hP hD hS
                    have hP : va_P (dC, dI) cls [(h_bd, .inr (1, (mo17 v_bd (.ref h_td) (.ref h_bnd) (.ref h_hol) (.ref h_see) (.int z1)))), (h_bnd, .inl (cy_bnd, 256, .inl f_bnd)), (h_hol, .inl (cy_hol, 2048, .inl f5)), (h_see, .inl (cy_see, 256, .inl f35)), (h_td, .inr (5, (mo18 v_td (.ref h_var) (.ref h_trm) (.ref h_ter)))), (h_var, .inl (cy_var, 300, .inl f_var)), (h_trm, .inl (cy_trm, 300, .inl f_trm)), (h_ter, .inl (cy_ter, 900, .inl f_ter))] H := by rw [ef35]; exact hP9
                    have hD : va_D A [(h_bd, .inr (1, (mo17 v_bd (.ref h_td) (.ref h_bnd) (.ref h_hol) (.ref h_see) (.int z1)))), (h_bnd, .inl (cy_bnd, 256, .inl f_bnd)), (h_hol, .inl (cy_hol, 2048, .inl f5)), (h_see, .inl (cy_see, 256, .inl f35)), (h_td, .inr (5, (mo18 v_td (.ref h_var) (.ref h_trm) (.ref h_ter)))), (h_var, .inl (cy_var, 300, .inl f_var)), (h_trm, .inl (cy_trm, 300, .inl f_trm)), (h_ter, .inl (cy_ter, 900, .inl f_ter))] := by rw [ef35]; exact hD9
                    have hS := hS9
                    clear hP9 hD9 hS9
                    clear ef35
                    refine lv_aload_n hx hb dX1_has_199 rfl (lv_at hl 5 rfl) ?_
                    refine va_get (D := (dC, dI)) (ci := 1) (v := .ref h_hol) (C := RX1) (T := TX1) (N := 13) hx hb hw iwX1 hown hK hP 0 rfl rfl 10 (by decide) (hw _ w_f_X1_30) (fun _ h9 => h9) rfl dX1_has_200 ?_
                    refine lv_iload_n hx hb dX1_has_203 rfl (lv_at hl 4 rfl) ?_
                    obtain ⟨z36, ez36⟩ : ∃ y : Int32, y = z16 + 1 := ⟨_, rfl⟩
                    have tz36 : (z36).toInt = (z16).toInt + 1 := by rw [ez36]; exact i_add rfl (by decide) (by omega)
                    refine lv_iinc (v := z36) (lv' := [(3, .int z36), (8, .int z27), (7, .int z21), (6, .int z20), (5, .int z18), (0, .ref h_bd), (1, .int p1), (2, .int p2), (4, .int x4)]) hx hb dX1_has_204 hl (k := 4) rfl (by rw [ez36]; rfl) (by decide) rfl (fun ls hl => ?_)
                    refine lv_aload_n hx hb dX1_has_207 rfl (lv_at hl 5 rfl) ?_
                    refine va_get (D := (dC, dI)) (ci := 1) (v := .ref h_bnd) (C := RX1) (T := TX1) (N := 13) hx hb hw iwX1 hown hK hP 0 rfl rfl 1 (by decide) (hw _ w_f_X1_9) (fun _ h9 => h9) rfl dX1_has_208 ?_
                    refine lv_iload hx hb dX1_has_211 (lv_at hl 1 rfl) ?_
                    refine va_iald hx hb hK hP 1 0 rfl rfl (i := z27) (vp_in_iff.mpr (by omega)) dX1_has_213 ?_
                    refine lv_topi (fun z37 ez37 => ?_)
                    have qz37 : (z37).toInt = (z29).toInt := by rw [ez37, ez29]
                    have rz37 : 0 ≤ (z37).toInt ∧ (z37).toInt ≤ 9600 := by rw [ez37]; exact hf_bnd _
                    refine lv_iconst (v := 1) hx hb dX1_has_214 (by decide) ?_
                    refine lv_isub hx hb dX1_has_215 ?_
                    refine lv_topi (fun z38 ez38 => ?_)
                    have tz38 : (z38).toInt = (z37).toInt - 1 := by rw [ez38]; exact i_sub rfl (by decide) (by omega)
                    refine va_iast hx hb hK hP hD hS 2 1 rfl rfl (i := z16) (x := z38) (vp_in_iff.mpr (by omega)) dX1_has_216 (fun H locs hP9 hD9 hS9 => ?_)
                    obtain ⟨f39, ef39⟩ : ∃ g : Nat → Int32, g = upd f5 (Int32.toNatClampNeg z16) z38 := ⟨_, rfl⟩
                    clear hP hD hS
                    have hP : va_P (dC, dI) cls [(h_bd, .inr (1, (mo17 v_bd (.ref h_td) (.ref h_bnd) (.ref h_hol) (.ref h_see) (.int z1)))), (h_bnd, .inl (cy_bnd, 256, .inl f_bnd)), (h_hol, .inl (cy_hol, 2048, .inl f39)), (h_see, .inl (cy_see, 256, .inl f35)), (h_td, .inr (5, (mo18 v_td (.ref h_var) (.ref h_trm) (.ref h_ter)))), (h_var, .inl (cy_var, 300, .inl f_var)), (h_trm, .inl (cy_trm, 300, .inl f_trm)), (h_ter, .inl (cy_ter, 900, .inl f_ter))] H := by rw [ef39]; exact hP9
                    have hD : va_D A [(h_bd, .inr (1, (mo17 v_bd (.ref h_td) (.ref h_bnd) (.ref h_hol) (.ref h_see) (.int z1)))), (h_bnd, .inl (cy_bnd, 256, .inl f_bnd)), (h_hol, .inl (cy_hol, 2048, .inl f39)), (h_see, .inl (cy_see, 256, .inl f35)), (h_td, .inr (5, (mo18 v_td (.ref h_var) (.ref h_trm) (.ref h_ter)))), (h_var, .inl (cy_var, 300, .inl f_var)), (h_trm, .inl (cy_trm, 300, .inl f_trm)), (h_ter, .inl (cy_ter, 900, .inl f_ter))] := by rw [ef39]; exact hD9
                    have hS := hS9
                    clear hP9 hD9 hS9
                    have hf39 : Rg 0 9599 f39 := by rw [ef39]; exact rg_upd hf5 (by omega)
                    clear ef39
                    obtain ⟨z40, ez40⟩ : ∃ y : Int32, y = x4 + 1 := ⟨_, rfl⟩
                    have tz40 : (z40).toInt = (x4).toInt + 1 := by rw [ez40]; exact i_add rfl (by decide) (by omega)
                    refine lv_iinc (v := z40) (lv' := [(4, .int z40), (3, .int z36), (8, .int z27), (7, .int z21), (6, .int z20), (5, .int z18), (0, .ref h_bd), (1, .int p1), (2, .int p2)]) hx hb dX1_has_217 hl (k := 8) rfl (by rw [ez40]; rfl) (by decide) rfl (fun ls hl => ?_)
                    refine lv_goto (tgt := 22) hx hb dX1_has_220 (by decide) ?_
                    exact ih8 (z36) (z40) (f39) (f35) _ _ _ (by omega) (by omega) hf39 (by omega) hP hD hS (lv_sub hl [6, 7, 8, 1, 0] rfl)
              · have kc28 := (cv_eq (rfl : (z27).toInt = (z27).toInt) (rfl : (p2).toInt = (p2).toInt)).mp c28
                refine lv_iconst (v := 1) hx hb dX1_has_162 (by decide) ?_
                refine W.widen (k := 0) (n := 0) (Nat.le_of_ble_eq_true rfl) (Nat.le_of_ble_eq_true rfl) ?_
                have cst1 : (1 : Int32).toInt = 1 := by decide
                have w41 : 0 ≤ (1 : Int32).toInt ∧ (1 : Int32).toInt ≤ 1 := by omega
                exact W.zret (v := 1) (ty := .boolean) hx hb hr (by decide) (fun t ht hW => ⟨⟨1, (z1, f5, f6), rfl, ⟨hf5, w41⟩, by rw [ht]; exact hP, hD⟩, hS.F ht⟩) hS.2.2 dX1_has_163
            · have kc24 := (cv_eq (rfl : (z21).toInt = (z21).toInt) (by decide : ((-1) : Int32).toInt = -1)).mp c24
              refine lv_iconst (v := 0) hx hb dX1_has_88 (by decide) ?_
              refine lv_istore (lv' := [(8, .int 0), (7, .int z21), (6, .int z20), (5, .int z18), (3, .int z16), (0, .ref h_bd), (1, .int p1), (2, .int p2), (4, .int x4)]) hx hb dX1_has_89 hl (by decide) rfl (fun ls hl => ?_)
              have lp45 : ∀ (n : Nat) (x42 : Int32) (x43 : Int32) (f44 : Nat → Int32) (H : Heap) (locs : List Loc) (ls : Array Slot), (0 ≤ (x42).toInt ∧ (x42).toInt ≤ 2048) → (0 ≤ (x43).toInt ∧ (x43).toInt ≤ 3) → (Rg 0 9599 f44) → ((x42).toInt ≤ 2045 + (x43).toInt) → (3 - (x43).toInt).toNat + 1 ≤ n → va_P (dC, dI) cls [(h_bd, .inr (1, (mo17 v_bd (.ref h_td) (.ref h_bnd) (.ref h_hol) (.ref h_see) (.int z1)))), (h_bnd, .inl (cy_bnd, 256, .inl f_bnd)), (h_hol, .inl (cy_hol, 2048, .inl f44)), (h_see, .inl (cy_see, 256, .inl f6)), (h_td, .inr (5, (mo18 v_td (.ref h_var) (.ref h_trm) (.ref h_ter)))), (h_var, .inl (cy_var, 300, .inl f_var)), (h_trm, .inl (cy_trm, 300, .inl f_trm)), (h_ter, .inl (cy_ter, 900, .inl f_ter))] H → va_D A [(h_bd, .inr (1, (mo17 v_bd (.ref h_td) (.ref h_bnd) (.ref h_hol) (.ref h_see) (.int z1)))), (h_bnd, .inl (cy_bnd, 256, .inl f_bnd)), (h_hol, .inl (cy_hol, 2048, .inl f44)), (h_see, .inl (cy_see, 256, .inl f6)), (h_td, .inr (5, (mo18 v_td (.ref h_var) (.ref h_trm) (.ref h_ter)))), (h_var, .inl (cy_var, 300, .inl f_var)), (h_trm, .inl (cy_trm, 300, .inl f_trm)), (h_ter, .inl (cy_ter, 900, .inl f_ter))] → va_S A s.heap H locs → lv_has ls 9 [(0, .ref h_bd), (1, .int p1), (2, .int p2), (3, .int x42), (4, .int x4), (5, .int z18), (6, .int z20), (7, .int z21), (8, .int x43)] → W p l e ({ frames := 0, cells := 0, slots := 0, locals := 0 } : Room) s m ([.ref h_bd, .int p1, .int p2] : List Value).toArray below meth c H locs 0 0 (MQ below (va_Qi (fun (r : Int32) (u : (Int32) × (Nat → Int32) × (Nat → Int32)) => (Rg 0 9599 u.2.1) ∧ (0 ≤ r.toInt ∧ r.toInt ≤ 1)) (fun (u : (Int32) × (Nat → Int32) × (Nat → Int32)) (t : State) => va_P (dC, dI) cls [(h_bd, .inr (1, (mo17 v_bd (.ref h_td) (.ref h_bnd) (.ref h_hol) (.ref h_see) (.int u.1)))), (h_bnd, .inl (cy_bnd, 256, .inl f_bnd)), (h_hol, .inl (cy_hol, 2048, .inl u.2.1)), (h_see, .inl (cy_see, 256, .inl u.2.2)), (h_td, .inr (5, (mo18 v_td (.ref h_var) (.ref h_trm) (.ref h_ter)))), (h_var, .inl (cy_var, 300, .inl f_var)), (h_trm, .inl (cy_trm, 300, .inl f_trm)), (h_ter, .inl (cy_ter, 900, .inl f_ter))] t.heap ∧ va_D A [(h_bd, .inr (1, (mo17 v_bd (.ref h_td) (.ref h_bnd) (.ref h_hol) (.ref h_see) (.int u.1)))), (h_bnd, .inl (cy_bnd, 256, .inl f_bnd)), (h_hol, .inl (cy_hol, 2048, .inl u.2.1)), (h_see, .inl (cy_see, 256, .inl u.2.2)), (h_td, .inr (5, (mo18 v_td (.ref h_var) (.ref h_trm) (.ref h_ter)))), (h_var, .inl (cy_var, 300, .inl f_var)), (h_trm, .inl (cy_trm, 300, .inl f_trm)), (h_ter, .inl (cy_ter, 900, .inl f_ter))]) A) ([.ref h_bd, .int p1, .int p2] : List Value).toArray s 0 0 A) (F0 m 91 ls []) := by
                clear hP hD hS hl
                intro n
                induction n with
                | zero => intro x42 x43 f44 H locs ls klp45_0 klp45_1 hf44 klp45_3 hm hP hD hS hl; exact False.elim (by omega)
                | succ n ih => 
                  intro x42 x43 f44 H locs ls klp45_0 klp45_1 hf44 klp45_3 hm hP hD hS hl
                  have ih46 := ih
                  clear ih
                  refine lv_iload hx hb dX1_has_91 (lv_at hl 8 rfl) ?_
                  refine lv_aload_n hx hb dX1_has_93 rfl (lv_at hl 0 rfl) ?_
                  refine va_get (D := (dC, dI)) (ci := 1) (v := .ref h_td) (C := RX1) (T := TX1) (N := 13) hx hb hw iwX1 hown hK hP 0 rfl rfl 0 (by decide) (hw _ w_f_X1_36) (fun _ h9 => h9) rfl dX1_has_94 ?_
                  refine va_getN (D := (dC, dI)) (ci := 5) (v := .ref h_trm) (C := RX8) (T := TX8) (N := 10) (host := "OppositePairs") hx hb hw iwX8 hown hK hP 4 rfl rfl 2 (by decide) (hN.use n_f_X1_88 rfl) (fun _ h9 => h9) rfl dX1_has_97 ?_
                  refine lv_iload hx hb dX1_has_100 (lv_at hl 5 rfl) ?_
                  refine va_iald hx hb hK hP 6 4 rfl rfl (i := z18) (vp_in_iff.mpr (by omega)) dX1_has_102 ?_
                  refine lv_topi (fun z47 ez47 => ?_)
                  have rz47 : 0 ≤ (z47).toInt ∧ (z47).toInt ≤ 3 := by rw [ez47]; exact hf_trm _
                  refine lv_icmp_ge (tgt := 139) hx hb dX1_has_103 (by decide) (fun c48 => ?_) (fun c48 => ?_)
                  · have kc48 := (cv_le (rfl : (z47).toInt = (z47).toInt) (rfl : (x43).toInt = (x43).toInt)).mp c48
                    refine lv_goto (tgt := 217) hx hb dX1_has_139 (by decide) ?_
                    obtain ⟨z49, ez49⟩ : ∃ y : Int32, y = x4 + 1 := ⟨_, rfl⟩
                    have tz49 : (z49).toInt = (x4).toInt + 1 := by rw [ez49]; exact i_add rfl (by decide) (by omega)
                    refine lv_iinc (v := z49) (lv' := [(4, .int z49), (0, .ref h_bd), (1, .int p1), (2, .int p2), (3, .int x42), (5, .int z18), (6, .int z20), (7, .int z21), (8, .int x43)]) hx hb dX1_has_217 hl (k := 4) rfl (by rw [ez49]; rfl) (by decide) rfl (fun ls hl => ?_)
                    refine lv_goto (tgt := 22) hx hb dX1_has_220 (by decide) ?_
                    exact ih8 (x42) (z49) (f44) (f6) _ _ _ (by first | exact klp45_0 | omega) (by omega) hf44 (by omega) hP hD hS (lv_sub hl [1, 2, 3, 4, 0] rfl)
                  · have kc48 := (not_congr (cv_le (rfl : (z47).toInt = (z47).toInt) (rfl : (x43).toInt = (x43).toInt))).mp c48
                    refine lv_aload_n hx hb dX1_has_106 rfl (lv_at hl 0 rfl) ?_
                    refine va_get (D := (dC, dI)) (ci := 1) (v := .ref h_hol) (C := RX1) (T := TX1) (N := 13) hx hb hw iwX1 hown hK hP 0 rfl rfl 10 (by decide) (hw _ w_f_X1_30) (fun _ h9 => h9) rfl dX1_has_107 ?_
                    refine lv_iload_n hx hb dX1_has_110 rfl (lv_at hl 3 rfl) ?_
                    obtain ⟨z50, ez50⟩ : ∃ y : Int32, y = x42 + 1 := ⟨_, rfl⟩
                    have tz50 : (z50).toInt = (x42).toInt + 1 := by rw [ez50]; exact i_add rfl (by decide) (by omega)
                    refine lv_iinc (v := z50) (lv' := [(3, .int z50), (0, .ref h_bd), (1, .int p1), (2, .int p2), (4, .int x4), (5, .int z18), (6, .int z20), (7, .int z21), (8, .int x43)]) hx hb dX1_has_111 hl (k := 3) rfl (by rw [ez50]; rfl) (by decide) rfl (fun ls hl => ?_)
                    refine lv_iload hx hb dX1_has_114 (lv_at hl 6 rfl) ?_
                    refine lv_aload_n hx hb dX1_has_116 rfl (lv_at hl 1 rfl) ?_
                    refine va_get (D := (dC, dI)) (ci := 1) (v := .ref h_td) (C := RX1) (T := TX1) (N := 13) hx hb hw iwX1 hown hK hP 0 rfl rfl 0 (by decide) (hw _ w_f_X1_36) (fun _ h9 => h9) rfl dX1_has_117 ?_
                    refine va_getN (D := (dC, dI)) (ci := 5) (v := .ref h_ter) (C := RX8) (T := TX8) (N := 10) (host := "OppositePairs") hx hb hw iwX8 hown hK hP 4 rfl rfl 3 (by decide) (hN.use n_f_X1_91 rfl) (fun _ h9 => h9) rfl dX1_has_120 ?_
                    refine lv_iload hx hb dX1_has_123 (lv_at hl 5 rfl) ?_
                    refine lv_iconst (v := 3) hx hb dX1_has_125 (by decide) ?_
                    refine lv_imul hx hb dX1_has_126 ?_
                    refine lv_topi (fun z51 ez51 => ?_)
                    have tz51 : (z51).toInt = (z18).toInt * 3 := by rw [ez51]; exact i_mul rfl (by decide) (by omega)
                    refine lv_iload hx hb dX1_has_127 (lv_at hl 8 rfl) ?_
                    refine lv_iadd hx hb dX1_has_129 ?_
                    refine lv_topi (fun z52 ez52 => ?_)
                    have tz52 : (z52).toInt = (z51).toInt + (x43).toInt := by rw [ez52]; exact i_add rfl rfl (by omega)
                    refine va_iald hx hb hK hP 7 5 rfl rfl (i := z52) (vp_in_iff.mpr (by omega)) dX1_has_130 ?_
                    refine lv_topi (fun z53 ez53 => ?_)
                    have rz53 : 0 ≤ (z53).toInt ∧ (z53).toInt ≤ 299 := by rw [ez53]; exact hf_ter _
                    refine lv_iadd hx hb dX1_has_131 ?_
                    refine lv_topi (fun z54 ez54 => ?_)
                    have tz54 : (z54).toInt = (z20).toInt + (z53).toInt := by rw [ez54]; exact i_add rfl rfl (by omega)
                    refine va_iast hx hb hK hP hD hS 2 1 rfl rfl (i := x42) (x := z54) (vp_in_iff.mpr (by omega)) dX1_has_132 (fun H locs hP9 hD9 hS9 => ?_)
                    obtain ⟨f55, ef55⟩ : ∃ g : Nat → Int32, g = upd f44 (Int32.toNatClampNeg x42) z54 := ⟨_, rfl⟩
                    clear hP hD hS
                    have hP : va_P (dC, dI) cls [(h_bd, .inr (1, (mo17 v_bd (.ref h_td) (.ref h_bnd) (.ref h_hol) (.ref h_see) (.int z1)))), (h_bnd, .inl (cy_bnd, 256, .inl f_bnd)), (h_hol, .inl (cy_hol, 2048, .inl f55)), (h_see, .inl (cy_see, 256, .inl f6)), (h_td, .inr (5, (mo18 v_td (.ref h_var) (.ref h_trm) (.ref h_ter)))), (h_var, .inl (cy_var, 300, .inl f_var)), (h_trm, .inl (cy_trm, 300, .inl f_trm)), (h_ter, .inl (cy_ter, 900, .inl f_ter))] H := by rw [ef55]; exact hP9
                    have hD : va_D A [(h_bd, .inr (1, (mo17 v_bd (.ref h_td) (.ref h_bnd) (.ref h_hol) (.ref h_see) (.int z1)))), (h_bnd, .inl (cy_bnd, 256, .inl f_bnd)), (h_hol, .inl (cy_hol, 2048, .inl f55)), (h_see, .inl (cy_see, 256, .inl f6)), (h_td, .inr (5, (mo18 v_td (.ref h_var) (.ref h_trm) (.ref h_ter)))), (h_var, .inl (cy_var, 300, .inl f_var)), (h_trm, .inl (cy_trm, 300, .inl f_trm)), (h_ter, .inl (cy_ter, 900, .inl f_ter))] := by rw [ef55]; exact hD9
                    have hS := hS9
                    clear hP9 hD9 hS9
                    have hf55 : Rg 0 9599 f55 := by rw [ef55]; exact rg_upd hf44 (by omega)
                    clear ef55
                    obtain ⟨z56, ez56⟩ : ∃ y : Int32, y = x43 + 1 := ⟨_, rfl⟩
                    have tz56 : (z56).toInt = (x43).toInt + 1 := by rw [ez56]; exact i_add rfl (by decide) (by omega)
                    refine lv_iinc (v := z56) (lv' := [(8, .int z56), (3, .int z50), (0, .ref h_bd), (1, .int p1), (2, .int p2), (4, .int x4), (5, .int z18), (6, .int z20), (7, .int z21)]) hx hb dX1_has_133 hl (k := 8) rfl (by rw [ez56]; rfl) (by decide) rfl (fun ls hl => ?_)
                    refine lv_goto (tgt := 91) hx hb dX1_has_136 (by decide) ?_
                    exact ih46 (z50) (z56) (f55) _ _ _ (by omega) (by omega) hf55 (by omega) (by omega) hP hD hS (lv_sub hl [2, 3, 4, 1, 5, 6, 7, 8, 0] rfl)
              have cst0 : (0 : Int32).toInt = 0 := by decide
              exact lp45 _ (z16) (0) (f5) _ _ _ (by omega) (by decide) hf5 (by omega) (Nat.le_refl _) hP hD hS (lv_sub hl [5, 6, 7, 4, 8, 3, 2, 1, 0] rfl)
          · have kc23 := (not_congr (cv_le (rfl : (z22).toInt = (z22).toInt) (by decide : (2048 : Int32).toInt = 2048))).mp c23
            refine lv_iconst (v := 1) hx hb dX1_has_80 (by decide) ?_
            refine W.widen (k := 0) (n := 0) (Nat.le_of_ble_eq_true rfl) (Nat.le_of_ble_eq_true rfl) ?_
            have cst1 : (1 : Int32).toInt = 1 := by decide
            have w57 : 0 ≤ (1 : Int32).toInt ∧ (1 : Int32).toInt ≤ 1 := by omega
            exact W.zret (v := 1) (ty := .boolean) hx hb hr (by decide) (fun t ht hW => ⟨⟨1, (z1, f5, f6), rfl, ⟨hf5, w57⟩, by rw [ht]; exact hP, hD⟩, hS.F ht⟩) hS.2.2 dX1_has_81
  have cst0 : (0 : Int32).toInt = 0 := by decide
  have cst1 : (1 : Int32).toInt = 1 := by decide
  exact lp7 _ (1) (0) (f2) (f_see) _ _ _ (by decide) (by decide) hf2 (Nat.le_refl _) hP hD hS (lv_sub hl [2, 3, 4, 1, 0] rfl)

set_option maxHeartbeats 8000000 in
set_option maxRecDepth 100000 in
theorem c_X1_parts (l : Launch) (dC : Nat → ClassId) (dI : Nat → Nat → Nat) (sz : Nat) (h_bd : Nat) (h_bnd : Nat) (h_hol : Nat) (h_td : Nat) (h_var : Nat) (h_trm : Nat) (h_ter : Nat) (v_bd : Nat → Value) (cy_bnd : ClassId) (f_bnd : Nat → Int32) (cy_hol : ClassId) (f_hol : Nat → Int32) (v_td : Nat → Value) (cy_var : ClassId) (f_var : Nat → Int32) (cy_trm : ClassId) (f_trm : Nat → Int32) (cy_ter : ClassId) (f_ter : Nat → Int32) (p1 : Int32) (p2 : Int32) (hf_bnd : Rg 0 9600 f_bnd) (hf_hol : Rg 0 9599 f_hol) (hf_var : Rg (-1) 7 f_var) (hf_trm : Rg 0 3 f_trm) (hf_ter : Rg 0 299 f_ter) (q0 : 0 ≤ (p1).toInt ∧ (p1).toInt ≤ 9599) : Met l yX1_parts (Ws yX1_parts cX1_parts 9 (some .int)) (({ frames := 1, cells := 0, slots := 0, locals := 25 } : Room)) (PRE (dC, dI) cls [(cy_bnd, .int), (cy_hol, .int), (cy_var, .int), (cy_trm, .int), (cy_ter, .int)] [(h_bd, .inr (1, (mo19 v_bd (.ref h_td) (.ref h_bnd) (.ref h_hol)))), (h_bnd, .inl (cy_bnd, 256, .inl f_bnd)), (h_hol, .inl (cy_hol, 2048, .inl f_hol)), (h_td, .inr (5, (mo18 v_td (.ref h_var) (.ref h_trm) (.ref h_ter)))), (h_var, .inl (cy_var, 300, .inl f_var)), (h_trm, .inl (cy_trm, 300, .inl f_trm)), (h_ter, .inl (cy_ter, 900, .inl f_ter))] sz [.ref h_bd, .int p1, .int p2]) (va_Qi (fun (r : Int32) (u : (Nat → Int32)) => (Rg 0 9599 u)) (fun (u : (Nat → Int32)) (t : State) => va_P (dC, dI) cls [(h_bd, .inr (1, (mo19 v_bd (.ref h_td) (.ref h_bnd) (.ref h_hol)))), (h_bnd, .inl (cy_bnd, 256, .inl f_bnd)), (h_hol, .inl (cy_hol, 2048, .inl u)), (h_td, .inr (5, (mo18 v_td (.ref h_var) (.ref h_trm) (.ref h_ter)))), (h_var, .inl (cy_var, 300, .inl f_var)), (h_trm, .inl (cy_trm, 300, .inl f_trm)), (h_ter, .inl (cy_ter, 900, .inl f_ter))] t.heap ∧ va_D (va_A [(h_bd, .inr (1, (mo19 v_bd (.ref h_td) (.ref h_bnd) (.ref h_hol)))), (h_bnd, .inl (cy_bnd, 256, .inl f_bnd)), (h_hol, .inl (cy_hol, 2048, .inl f_hol)), (h_td, .inr (5, (mo18 v_td (.ref h_var) (.ref h_trm) (.ref h_ter)))), (h_var, .inl (cy_var, 300, .inl f_var)), (h_trm, .inl (cy_trm, 300, .inl f_trm)), (h_ter, .inl (cy_ter, 900, .inl f_ter))] sz) [(h_bd, .inr (1, (mo19 v_bd (.ref h_td) (.ref h_bnd) (.ref h_hol)))), (h_bnd, .inl (cy_bnd, 256, .inl f_bnd)), (h_hol, .inl (cy_hol, 2048, .inl u)), (h_td, .inr (5, (mo18 v_td (.ref h_var) (.ref h_trm) (.ref h_ter)))), (h_var, .inl (cy_var, 300, .inl f_var)), (h_trm, .inl (cy_trm, 300, .inl f_trm)), (h_ter, .inl (cy_ter, 900, .inl f_ter))]) (va_A [(h_bd, .inr (1, (mo19 v_bd (.ref h_td) (.ref h_bnd) (.ref h_hol)))), (h_bnd, .inl (cy_bnd, 256, .inl f_bnd)), (h_hol, .inl (cy_hol, 2048, .inl f_hol)), (h_td, .inr (5, (mo18 v_td (.ref h_var) (.ref h_trm) (.ref h_ter)))), (h_var, .inl (cy_var, 300, .inl f_var)), (h_trm, .inl (cy_trm, 300, .inl f_trm)), (h_ter, .inl (cy_ter, 900, .inl f_ter))] sz)) 0 0 (va_A [(h_bd, .inr (1, (mo19 v_bd (.ref h_td) (.ref h_bnd) (.ref h_hol)))), (h_bnd, .inl (cy_bnd, 256, .inl f_bnd)), (h_hol, .inl (cy_hol, 2048, .inl f_hol)), (h_td, .inr (5, (mo18 v_td (.ref h_var) (.ref h_trm) (.ref h_ter)))), (h_var, .inl (cy_var, 300, .inl f_var)), (h_trm, .inl (cy_trm, 300, .inl f_trm)), (h_ter, .inl (cy_ter, 900, .inl f_ter))] sz) := by
  refine Met.ofW (cc := cX1_parts) (maxL := 9) (ret := (some .int)) (by decide) rfl ?_
  intro p e s m args below meth c s₁ B hml hv
  obtain ⟨rfl, hsz, hP, hK, hD0, hN⟩ := hv
  have hx := B.exec
  have hb := B.bytes
  have hr := B.returns
  have hts := atoms_spec (ws := Ws yX1_parts cX1_parts 9 (some .int)) B.pre
  have hT : ∀ w ∈ WALL, w ∈ Ws yX1_parts cX1_parts 9 (some .int) := fun w h => List.mem_cons_of_mem _ h
  have hw := fun w (h : w ∈ WALL) => hts w (hT w h)
  have hown : s.vm.findClass RX1 = some m.cls := findClass_of_methodNamed B.named
  have hlocks := B.notSynchronized
  subst hsz
  have hD := hD0.self (sz := s.heap.size)
  generalize hAe : va_A [(h_bd, .inr (1, (mo19 v_bd (.ref h_td) (.ref h_bnd) (.ref h_hol)))), (h_bnd, .inl (cy_bnd, 256, .inl f_bnd)), (h_hol, .inl (cy_hol, 2048, .inl f_hol)), (h_td, .inr (5, (mo18 v_td (.ref h_var) (.ref h_trm) (.ref h_ter)))), (h_var, .inl (cy_var, 300, .inl f_var)), (h_trm, .inl (cy_trm, 300, .inl f_trm)), (h_ter, .inl (cy_ter, 900, .inl f_ter))] s.heap.size = A at hD ⊢
  have hA : ∀ q : Nat, s.heap.size ≤ q → A q := fun q h => by rw [← hAe]; exact Or.inr h
  have hS : va_S A s.heap s.heap [] := va_S.rf
  have hl := lv_entry ([.ref h_bd, .int p1, .int p2]) (n := 9) (Nat.le_of_ble_eq_true rfl)
  rw [lg_entry_eq]
  generalize (lg_sl ([.ref h_bd, .int p1, .int p2]) ++ List.replicate (9 - (lg_sl ([.ref h_bd, .int p1, .int p2])).length) Slot.unset).toArray = ls at hl ⊢
  have hl : lv_has ls 9 [(0, .ref h_bd), (1, .int p1), (2, .int p2)] := hl
  refine lv_iconst (v := 0) hx hb dX1_parts_0 (by decide) ?_
  refine lv_istore_n (lv' := [(3, .int 0), (0, .ref h_bd), (1, .int p1), (2, .int p2)]) hx hb dX1_parts_1 rfl hl (by decide) rfl (fun ls hl => ?_)
  refine lv_iconst (v := 1) hx hb dX1_parts_2 (by decide) ?_
  refine lv_istore (lv' := [(4, .int 1), (3, .int 0), (0, .ref h_bd), (1, .int p1), (2, .int p2)]) hx hb dX1_parts_3 hl (by decide) rfl (fun ls hl => ?_)
  refine lv_aload_n hx hb dX1_parts_5 rfl (lv_at hl 2 rfl) ?_
  refine va_get (D := (dC, dI)) (ci := 1) (v := .ref h_hol) (C := RX1) (T := TX1) (N := 13) hx hb hw iwX1 hown hK hP 0 rfl rfl 10 (by decide) (hw _ w_f_X1_30) (fun _ h9 => h9) rfl dX1_parts_6 ?_
  refine lv_iconst (v := 0) hx hb dX1_parts_9 (by decide) ?_
  refine lv_iload_n hx hb dX1_parts_10 rfl (lv_at hl 3 rfl) ?_
  refine va_iast hx hb hK hP hD hS 2 1 rfl rfl (i := 0) (x := p1) (show ¬ _ from by decide) dX1_parts_11 (fun H locs hP9 hD9 hS9 => ?_)
  obtain ⟨f1, ef1⟩ : ∃ g : Nat → Int32, g = upd f_hol (Int32.toNatClampNeg 0) p1 := ⟨_, rfl⟩
  clear hP hD hS
  have hP : va_P (dC, dI) cls [(h_bd, .inr (1, (mo19 v_bd (.ref h_td) (.ref h_bnd) (.ref h_hol)))), (h_bnd, .inl (cy_bnd, 256, .inl f_bnd)), (h_hol, .inl (cy_hol, 2048, .inl f1)), (h_td, .inr (5, (mo18 v_td (.ref h_var) (.ref h_trm) (.ref h_ter)))), (h_var, .inl (cy_var, 300, .inl f_var)), (h_trm, .inl (cy_trm, 300, .inl f_trm)), (h_ter, .inl (cy_ter, 900, .inl f_ter))] H := by rw [ef1]; exact hP9
  have hD : va_D A [(h_bd, .inr (1, (mo19 v_bd (.ref h_td) (.ref h_bnd) (.ref h_hol)))), (h_bnd, .inl (cy_bnd, 256, .inl f_bnd)), (h_hol, .inl (cy_hol, 2048, .inl f1)), (h_td, .inr (5, (mo18 v_td (.ref h_var) (.ref h_trm) (.ref h_ter)))), (h_var, .inl (cy_var, 300, .inl f_var)), (h_trm, .inl (cy_trm, 300, .inl f_trm)), (h_ter, .inl (cy_ter, 900, .inl f_ter))] := by rw [ef1]; exact hD9
  have hS := hS9
  clear hP9 hD9 hS9
  have hf1 : Rg 0 9599 f1 := by rw [ef1]; exact rg_upd hf_hol (by omega)
  clear ef1
  refine lv_iconst (v := 0) hx hb dX1_parts_12 (by decide) ?_
  refine lv_istore (lv' := [(5, .int 0), (4, .int 1), (3, .int 0), (0, .ref h_bd), (1, .int p1), (2, .int p2)]) hx hb dX1_parts_13 hl (by decide) rfl (fun ls hl => ?_)
  have lp6 : ∀ (n : Nat) (x2 : Int32) (x3 : Int32) (x4 : Int32) (f5 : Nat → Int32) (H : Heap) (locs : List Loc) (ls : Array Slot), (0 ≤ (x3).toInt ∧ (x3).toInt ≤ 2048) → (0 ≤ (x4).toInt ∧ (x4).toInt ≤ 1000000) → (Rg 0 9599 f5) → (1000000 - (x4).toInt).toNat + 1 ≤ n → va_P (dC, dI) cls [(h_bd, .inr (1, (mo19 v_bd (.ref h_td) (.ref h_bnd) (.ref h_hol)))), (h_bnd, .inl (cy_bnd, 256, .inl f_bnd)), (h_hol, .inl (cy_hol, 2048, .inl f5)), (h_td, .inr (5, (mo18 v_td (.ref h_var) (.ref h_trm) (.ref h_ter)))), (h_var, .inl (cy_var, 300, .inl f_var)), (h_trm, .inl (cy_trm, 300, .inl f_trm)), (h_ter, .inl (cy_ter, 900, .inl f_ter))] H → va_D A [(h_bd, .inr (1, (mo19 v_bd (.ref h_td) (.ref h_bnd) (.ref h_hol)))), (h_bnd, .inl (cy_bnd, 256, .inl f_bnd)), (h_hol, .inl (cy_hol, 2048, .inl f5)), (h_td, .inr (5, (mo18 v_td (.ref h_var) (.ref h_trm) (.ref h_ter)))), (h_var, .inl (cy_var, 300, .inl f_var)), (h_trm, .inl (cy_trm, 300, .inl f_trm)), (h_ter, .inl (cy_ter, 900, .inl f_ter))] → va_S A s.heap H locs → lv_has ls 9 [(0, .ref h_bd), (1, .int p1), (2, .int p2), (3, .int x2), (4, .int x3), (5, .int x4)] → W p l e ({ frames := 1, cells := 0, slots := 0, locals := 25 } : Room) s m ([.ref h_bd, .int p1, .int p2] : List Value).toArray below meth c H locs 0 0 (MQ below (va_Qi (fun (r : Int32) (u : (Nat → Int32)) => (Rg 0 9599 u)) (fun (u : (Nat → Int32)) (t : State) => va_P (dC, dI) cls [(h_bd, .inr (1, (mo19 v_bd (.ref h_td) (.ref h_bnd) (.ref h_hol)))), (h_bnd, .inl (cy_bnd, 256, .inl f_bnd)), (h_hol, .inl (cy_hol, 2048, .inl u)), (h_td, .inr (5, (mo18 v_td (.ref h_var) (.ref h_trm) (.ref h_ter)))), (h_var, .inl (cy_var, 300, .inl f_var)), (h_trm, .inl (cy_trm, 300, .inl f_trm)), (h_ter, .inl (cy_ter, 900, .inl f_ter))] t.heap ∧ va_D A [(h_bd, .inr (1, (mo19 v_bd (.ref h_td) (.ref h_bnd) (.ref h_hol)))), (h_bnd, .inl (cy_bnd, 256, .inl f_bnd)), (h_hol, .inl (cy_hol, 2048, .inl u)), (h_td, .inr (5, (mo18 v_td (.ref h_var) (.ref h_trm) (.ref h_ter)))), (h_var, .inl (cy_var, 300, .inl f_var)), (h_trm, .inl (cy_trm, 300, .inl f_trm)), (h_ter, .inl (cy_ter, 900, .inl f_ter))]) A) ([.ref h_bd, .int p1, .int p2] : List Value).toArray s 0 0 A) (F0 m 15 ls []) := by
    clear hP hD hS hl
    intro n
    induction n with
    | zero => intro x2 x3 x4 f5 H locs ls klp6_0 klp6_1 hf5 hm hP hD hS hl; exact False.elim (by omega)
    | succ n ih => 
      intro x2 x3 x4 f5 H locs ls klp6_0 klp6_1 hf5 hm hP hD hS hl
      have ih7 := ih
      clear ih
      refine lv_iload hx hb dX1_parts_15 (lv_at hl 5 rfl) ?_
      refine lv_ldc (v := 1000000) hx hb hown (hw _ w_k_X1_55) dX1_parts_17 ?_
      refine lv_icmp_ge (tgt := 137) hx hb dX1_parts_19 (by decide) (fun c8 => ?_) (fun c8 => ?_)
      · have kc8 := (cv_le (by decide : (1000000 : Int32).toInt = 1000000) (rfl : (x4).toInt = (x4).toInt)).mp c8
        refine lv_iload_n hx hb dX1_parts_137 rfl (lv_at hl 3 rfl) ?_
        refine W.widen (k := 0) (n := 0) (Nat.le_of_ble_eq_true rfl) (Nat.le_of_ble_eq_true rfl) ?_
        exact W.iret (v := x2) hx hb hr (fun t ht hW => ⟨⟨x2, f5, rfl, hf5, by rw [ht]; exact hP, hD⟩, hS.F ht⟩) hS.2.2 dX1_parts_138
      · have kc8 := (not_congr (cv_le (by decide : (1000000 : Int32).toInt = 1000000) (rfl : (x4).toInt = (x4).toInt))).mp c8
        refine lv_iload hx hb dX1_parts_22 (lv_at hl 4 rfl) ?_
        refine lv_if_le (tgt := 137) hx hb dX1_parts_24 (by decide) (fun c9 => ?_) (fun c9 => ?_)
        · have kc9 := (cv_le (rfl : (x3).toInt = (x3).toInt) (by decide : (0 : Int32).toInt = 0)).mp c9
          refine lv_iload_n hx hb dX1_parts_137 rfl (lv_at hl 3 rfl) ?_
          refine W.widen (k := 0) (n := 0) (Nat.le_of_ble_eq_true rfl) (Nat.le_of_ble_eq_true rfl) ?_
          exact W.iret (v := x2) hx hb hr (fun t ht hW => ⟨⟨x2, f5, rfl, hf5, by rw [ht]; exact hP, hD⟩, hS.F ht⟩) hS.2.2 dX1_parts_138
        · have kc9 := (not_congr (cv_le (rfl : (x3).toInt = (x3).toInt) (by decide : (0 : Int32).toInt = 0))).mp c9
          refine lv_iload_n hx hb dX1_parts_27 rfl (lv_at hl 3 rfl) ?_
          refine lv_iload hx hb dX1_parts_28 (lv_at hl 4 rfl) ?_
          refine lv_iadd hx hb dX1_parts_30 ?_
          refine lv_topi (fun z10 ez10 => ?_)
          refine lv_iload_n hx hb dX1_parts_31 rfl (lv_at hl 2 rfl) ?_
          refine lv_icmp_gt (tgt := 45) hx hb dX1_parts_32 (by decide) (fun c11 => ?_) (fun c11 => ?_)
          · have kc11 := (cv_lt (rfl : (p2).toInt = (p2).toInt) (rfl : (z10).toInt = (z10).toInt)).mp c11
            refine lv_iload_n hx hb dX1_parts_45 rfl (lv_at hl 2 rfl) ?_
            refine lv_iconst (v := 1) hx hb dX1_parts_46 (by decide) ?_
            refine lv_iadd hx hb dX1_parts_47 ?_
            refine lv_topi (fun z12 ez12 => ?_)
            refine W.widen (k := 0) (n := 0) (Nat.le_of_ble_eq_true rfl) (Nat.le_of_ble_eq_true rfl) ?_
            exact W.iret (v := z12) hx hb hr (fun t ht hW => ⟨⟨z12, f5, rfl, hf5, by rw [ht]; exact hP, hD⟩, hS.F ht⟩) hS.2.2 dX1_parts_48
          · have kc11 := (not_congr (cv_lt (rfl : (p2).toInt = (p2).toInt) (rfl : (z10).toInt = (z10).toInt))).mp c11
            refine lv_iload hx hb dX1_parts_35 (lv_at hl 4 rfl) ?_
            refine lv_iconst (v := 3) hx hb dX1_parts_37 (by decide) ?_
            refine lv_iadd hx hb dX1_parts_38 ?_
            refine lv_topi (fun z13 ez13 => ?_)
            have tz13 : (z13).toInt = (x3).toInt + 3 := by rw [ez13]; exact i_add rfl (by decide) (by omega)
            refine lv_sipush (v := 2048) hx hb dX1_parts_39 (by decide) ?_
            refine lv_icmp_le (tgt := 49) hx hb dX1_parts_42 (by decide) (fun c14 => ?_) (fun c14 => ?_)
            · have kc14 := (cv_le (rfl : (z13).toInt = (z13).toInt) (by decide : (2048 : Int32).toInt = 2048)).mp c14
              obtain ⟨z15, ez15⟩ : ∃ y : Int32, y = x3 + (-1) := ⟨_, rfl⟩
              have tz15 : (z15).toInt = (x3).toInt + -1 := by rw [ez15]; exact i_add rfl (by decide) (by omega)
              refine lv_iinc (v := z15) (lv' := [(4, .int z15), (0, .ref h_bd), (1, .int p1), (2, .int p2), (3, .int x2), (5, .int x4)]) hx hb dX1_parts_49 hl (k := 4) rfl (by rw [ez15]; rfl) (by decide) rfl (fun ls hl => ?_)
              obtain ⟨z16, ez16⟩ : ∃ y : Int32, y = x2 + 1 := ⟨_, rfl⟩
              refine lv_iinc (v := z16) (lv' := [(3, .int z16), (4, .int z15), (0, .ref h_bd), (1, .int p1), (2, .int p2), (5, .int x4)]) hx hb dX1_parts_52 hl (k := 4) rfl (by rw [ez16]; rfl) (by decide) rfl (fun ls hl => ?_)
              refine lv_aload_n hx hb dX1_parts_55 rfl (lv_at hl 2 rfl) ?_
              refine lv_aload_n hx hb dX1_parts_56 rfl (lv_at hl 2 rfl) ?_
              refine va_get (D := (dC, dI)) (ci := 1) (v := .ref h_hol) (C := RX1) (T := TX1) (N := 13) hx hb hw iwX1 hown hK hP 0 rfl rfl 10 (by decide) (hw _ w_f_X1_30) (fun _ h9 => h9) rfl dX1_parts_57 ?_
              refine lv_iload hx hb dX1_parts_60 (lv_at hl 1 rfl) ?_
              refine va_iald hx hb hK hP 2 1 rfl rfl (i := z15) (vp_in_iff.mpr (by omega)) dX1_parts_62 ?_
              refine lv_topi (fun z17 ez17 => ?_)
              have rz17 : 0 ≤ (z17).toInt ∧ (z17).toInt ≤ 9599 := by rw [ez17]; exact hf5 _
              obtain ⟨vq18, evq18⟩ := mq19_9 v_bd (.ref h_hol)
              replace hP : va_P (dC, dI) cls [(h_bd, .inr (1, (mo9 vq18 (.ref h_td) (.ref h_bnd)))), (h_bnd, .inl (cy_bnd, 256, .inl f_bnd)), (h_hol, .inl (cy_hol, 2048, .inl f5)), (h_td, .inr (5, (mo18 v_td (.ref h_var) (.ref h_trm) (.ref h_ter)))), (h_var, .inl (cy_var, 300, .inl f_var)), (h_trm, .inl (cy_trm, 300, .inl f_trm)), (h_ter, .inl (cy_ter, 900, .inl f_ter))] H := by rw [evq18]; exact hP
              replace hD : va_D A [(h_bd, .inr (1, (mo9 vq18 (.ref h_td) (.ref h_bnd)))), (h_bnd, .inl (cy_bnd, 256, .inl f_bnd)), (h_hol, .inl (cy_hol, 2048, .inl f5)), (h_td, .inr (5, (mo18 v_td (.ref h_var) (.ref h_trm) (.ref h_ter)))), (h_var, .inl (cy_var, 300, .inl f_var)), (h_trm, .inl (cy_trm, 300, .inl f_trm)), (h_ter, .inl (cy_ter, 900, .inl f_ter))] := by rw [evq18]; exact hD
              obtain ⟨vq19, evq19⟩ := mq18_8 v_td (.ref h_trm) (.ref h_ter)
              replace hP : va_P (dC, dI) cls [(h_bd, .inr (1, (mo9 vq18 (.ref h_td) (.ref h_bnd)))), (h_bnd, .inl (cy_bnd, 256, .inl f_bnd)), (h_hol, .inl (cy_hol, 2048, .inl f5)), (h_td, .inr (5, (mo8 vq19 (.ref h_var)))), (h_var, .inl (cy_var, 300, .inl f_var)), (h_trm, .inl (cy_trm, 300, .inl f_trm)), (h_ter, .inl (cy_ter, 900, .inl f_ter))] H := by rw [evq19]; exact hP
              replace hD : va_D A [(h_bd, .inr (1, (mo9 vq18 (.ref h_td) (.ref h_bnd)))), (h_bnd, .inl (cy_bnd, 256, .inl f_bnd)), (h_hol, .inl (cy_hol, 2048, .inl f5)), (h_td, .inr (5, (mo8 vq19 (.ref h_var)))), (h_var, .inl (cy_var, 300, .inl f_var)), (h_trm, .inl (cy_trm, 300, .inl f_trm)), (h_ter, .inl (cy_ter, 900, .inl f_ter))] := by rw [evq19]; exact hD
              have hPc := hP.sub (ws' := [(h_bd, .inr (1, (mo9 vq18 (.ref h_td) (.ref h_bnd)))), (h_bnd, .inl (cy_bnd, 256, .inl f_bnd)), (h_td, .inr (5, (mo8 vq19 (.ref h_var)))), (h_var, .inl (cy_var, 300, .inl f_var))]) [0, 1, 3, 4] rfl
              have hDc := hD.sub (ws' := [(h_bd, .inr (1, (mo9 vq18 (.ref h_td) (.ref h_bnd)))), (h_bnd, .inl (cy_bnd, 256, .inl f_bnd)), (h_td, .inr (5, (mo8 vq19 (.ref h_var)))), (h_var, .inl (cy_var, 300, .inl f_var))]) [0, 1, 3, 4] (by decide) rfl
              have hKc := hK.sub (tys' := [(cy_bnd, .int), (cy_var, .int)]) [0, 2] rfl
              have hFc := va_free (wc := [(h_bd, .inr (1, (mo9 vq18 (.ref h_td) (.ref h_bnd)))), (h_bnd, .inl (cy_bnd, 256, .inl f_bnd)), (h_td, .inr (5, (mo8 vq19 (.ref h_var)))), (h_var, .inl (cy_var, 300, .inl f_var))]) hD hS hA [0, 1, 3, 4] rfl
              refine va_calli (va_runV (As := [.int z17]) (rest := []) ⟨hx, hb, hml, hown, hts⟩ (c_X1_bare l dC dI H.size h_bd h_bnd h_td h_var vq18 cy_bnd f_bnd vq19 cy_var f_var z17 hf_bnd hf_var (by omega)) (cwV 1 hts (gv hT w_m_X1_60 w_instanceMethod_X1_bare ws_sel_X1_bare w_ini_X1 w_code_X1_bare) rfl rfl rfl (by decide +kernel) ⟨(Nat.le_of_ble_eq_true rfl), (Nat.le_of_ble_eq_true rfl)⟩) ⟨pre_blind, va_recv hK hP (ci := 1) (q0 := 0) rfl rfl, pre_of hPc hKc hDc hN⟩ rfl rfl hl.1 rfl (lv_room (Nat.le_of_ble_eq_true rfl)) dX1_parts_63 ⟨(Nat.le_of_ble_eq_true rfl), (Nat.le_of_ble_eq_true rfl)⟩) hS (fun q _ h => hFc q h) hFc (fun r20 u t H locs ht hvm hq hB hz1 hk1 hS9 => ?_)
              obtain ⟨hP1, hD1⟩ := hB
              rw [ht] at hP1
              obtain ⟨hP9, hD9⟩ := va_join (wr := [(h_hol, .inl (cy_hol, 2048, .inl f5)), (h_trm, .inl (cy_trm, 300, .inl f_trm)), (h_ter, .inl (cy_ter, 900, .inl f_ter))]) (w1 := [(h_bd, .inr (1, (mo9 vq18 (.ref h_td) (.ref h_bnd)))), (h_bnd, .inl (cy_bnd, 256, .inl f_bnd)), (h_td, .inr (5, (mo8 vq19 (.ref h_var)))), (h_var, .inl (cy_var, 300, .inl f_var))]) hP hD [0, 1, 3, 4] [2, 5, 6] rfl rfl (by decide) (by decide) hk1 hFc hP1 hD1
              clear hP hD hS hPc hDc hKc hFc hP1 hD1 hk1 hz1 ht hvm
              have hP : va_P (dC, dI) cls [(h_hol, .inl (cy_hol, 2048, .inl f5)), (h_trm, .inl (cy_trm, 300, .inl f_trm)), (h_ter, .inl (cy_ter, 900, .inl f_ter)), (h_bd, .inr (1, (mo9 vq18 (.ref h_td) (.ref h_bnd)))), (h_bnd, .inl (cy_bnd, 256, .inl f_bnd)), (h_td, .inr (5, (mo8 vq19 (.ref h_var)))), (h_var, .inl (cy_var, 300, .inl f_var))] H := hP9
              have hD : va_D A [(h_hol, .inl (cy_hol, 2048, .inl f5)), (h_trm, .inl (cy_trm, 300, .inl f_trm)), (h_ter, .inl (cy_ter, 900, .inl f_ter)), (h_bd, .inr (1, (mo9 vq18 (.ref h_td) (.ref h_bnd)))), (h_bnd, .inl (cy_bnd, 256, .inl f_bnd)), (h_td, .inr (5, (mo8 vq19 (.ref h_var)))), (h_var, .inl (cy_var, 300, .inl f_var))] := hD9
              have hS := hS9
              clear hP9 hD9 hS9
              rw [evq18] at hP hD
              replace hP : va_P (dC, dI) cls [(h_hol, .inl (cy_hol, 2048, .inl f5)), (h_trm, .inl (cy_trm, 300, .inl f_trm)), (h_ter, .inl (cy_ter, 900, .inl f_ter)), (h_bd, .inr (1, (mo19 v_bd (.ref h_td) (.ref h_bnd) (.ref h_hol)))), (h_bnd, .inl (cy_bnd, 256, .inl f_bnd)), (h_td, .inr (5, (mo8 vq19 (.ref h_var)))), (h_var, .inl (cy_var, 300, .inl f_var))] H := hP
              replace hD : va_D A [(h_hol, .inl (cy_hol, 2048, .inl f5)), (h_trm, .inl (cy_trm, 300, .inl f_trm)), (h_ter, .inl (cy_ter, 900, .inl f_ter)), (h_bd, .inr (1, (mo19 v_bd (.ref h_td) (.ref h_bnd) (.ref h_hol)))), (h_bnd, .inl (cy_bnd, 256, .inl f_bnd)), (h_td, .inr (5, (mo8 vq19 (.ref h_var)))), (h_var, .inl (cy_var, 300, .inl f_var))] := hD
              clear evq18 
              rw [evq19] at hP hD
              replace hP : va_P (dC, dI) cls [(h_hol, .inl (cy_hol, 2048, .inl f5)), (h_trm, .inl (cy_trm, 300, .inl f_trm)), (h_ter, .inl (cy_ter, 900, .inl f_ter)), (h_bd, .inr (1, (mo19 v_bd (.ref h_td) (.ref h_bnd) (.ref h_hol)))), (h_bnd, .inl (cy_bnd, 256, .inl f_bnd)), (h_td, .inr (5, (mo18 v_td (.ref h_var) (.ref h_trm) (.ref h_ter)))), (h_var, .inl (cy_var, 300, .inl f_var))] H := hP
              replace hD : va_D A [(h_hol, .inl (cy_hol, 2048, .inl f5)), (h_trm, .inl (cy_trm, 300, .inl f_trm)), (h_ter, .inl (cy_ter, 900, .inl f_ter)), (h_bd, .inr (1, (mo19 v_bd (.ref h_td) (.ref h_bnd) (.ref h_hol)))), (h_bnd, .inl (cy_bnd, 256, .inl f_bnd)), (h_td, .inr (5, (mo18 v_td (.ref h_var) (.ref h_trm) (.ref h_ter)))), (h_var, .inl (cy_var, 300, .inl f_var))] := hD
              clear evq19 
              have k21 : 0 ≤ (r20).toInt ∧ (r20).toInt ≤ 9599 := hq
              clear hq
              refine lv_istore (lv' := [(6, .int r20), (3, .int z16), (4, .int z15), (0, .ref h_bd), (1, .int p1), (2, .int p2), (5, .int x4)]) hx hb dX1_parts_66 hl (by decide) rfl (fun ls hl => ?_)
              refine lv_iload hx hb dX1_parts_68 (lv_at hl 0 rfl) ?_
              refine lv_sipush (v := 300) hx hb dX1_parts_70 (by decide) ?_
              refine lv_irem hx hb dX1_parts_73 (by decide) ?_
              refine lv_topi (fun z22 ez22 => ?_)
              have tz22 : (z22).toInt = (r20).toInt % 300 := by rw [ez22]; exact i_rem rfl (by decide) (by omega)
              refine lv_istore (lv' := [(7, .int z22), (6, .int r20), (3, .int z16), (4, .int z15), (0, .ref h_bd), (1, .int p1), (2, .int p2), (5, .int x4)]) hx hb dX1_parts_74 hl (by decide) rfl (fun ls hl => ?_)
              refine lv_iconst (v := 0) hx hb dX1_parts_76 (by decide) ?_
              refine lv_istore (lv' := [(8, .int 0), (7, .int z22), (6, .int r20), (3, .int z16), (4, .int z15), (0, .ref h_bd), (1, .int p1), (2, .int p2), (5, .int x4)]) hx hb dX1_parts_77 hl (by decide) rfl (fun ls hl => ?_)
              have lp26 : ∀ (n : Nat) (x23 : Int32) (x24 : Int32) (f25 : Nat → Int32) (H : Heap) (locs : List Loc) (ls : Array Slot), (0 ≤ (x23).toInt ∧ (x23).toInt ≤ 2048) → (0 ≤ (x24).toInt ∧ (x24).toInt ≤ 3) → (Rg 0 9599 f25) → ((x23).toInt ≤ 2044 + (x24).toInt) → (3 - (x24).toInt).toNat + 1 ≤ n → va_P (dC, dI) cls [(h_hol, .inl (cy_hol, 2048, .inl f25)), (h_trm, .inl (cy_trm, 300, .inl f_trm)), (h_ter, .inl (cy_ter, 900, .inl f_ter)), (h_bd, .inr (1, (mo19 v_bd (.ref h_td) (.ref h_bnd) (.ref h_hol)))), (h_bnd, .inl (cy_bnd, 256, .inl f_bnd)), (h_td, .inr (5, (mo18 v_td (.ref h_var) (.ref h_trm) (.ref h_ter)))), (h_var, .inl (cy_var, 300, .inl f_var))] H → va_D A [(h_hol, .inl (cy_hol, 2048, .inl f25)), (h_trm, .inl (cy_trm, 300, .inl f_trm)), (h_ter, .inl (cy_ter, 900, .inl f_ter)), (h_bd, .inr (1, (mo19 v_bd (.ref h_td) (.ref h_bnd) (.ref h_hol)))), (h_bnd, .inl (cy_bnd, 256, .inl f_bnd)), (h_td, .inr (5, (mo18 v_td (.ref h_var) (.ref h_trm) (.ref h_ter)))), (h_var, .inl (cy_var, 300, .inl f_var))] → va_S A s.heap H locs → lv_has ls 9 [(0, .ref h_bd), (1, .int p1), (2, .int p2), (3, .int z16), (4, .int x23), (5, .int x4), (6, .int r20), (7, .int z22), (8, .int x24)] → W p l e ({ frames := 1, cells := 0, slots := 0, locals := 25 } : Room) s m ([.ref h_bd, .int p1, .int p2] : List Value).toArray below meth c H locs 0 0 (MQ below (va_Qi (fun (r : Int32) (u : (Nat → Int32)) => (Rg 0 9599 u)) (fun (u : (Nat → Int32)) (t : State) => va_P (dC, dI) cls [(h_bd, .inr (1, (mo19 v_bd (.ref h_td) (.ref h_bnd) (.ref h_hol)))), (h_bnd, .inl (cy_bnd, 256, .inl f_bnd)), (h_hol, .inl (cy_hol, 2048, .inl u)), (h_td, .inr (5, (mo18 v_td (.ref h_var) (.ref h_trm) (.ref h_ter)))), (h_var, .inl (cy_var, 300, .inl f_var)), (h_trm, .inl (cy_trm, 300, .inl f_trm)), (h_ter, .inl (cy_ter, 900, .inl f_ter))] t.heap ∧ va_D A [(h_bd, .inr (1, (mo19 v_bd (.ref h_td) (.ref h_bnd) (.ref h_hol)))), (h_bnd, .inl (cy_bnd, 256, .inl f_bnd)), (h_hol, .inl (cy_hol, 2048, .inl u)), (h_td, .inr (5, (mo18 v_td (.ref h_var) (.ref h_trm) (.ref h_ter)))), (h_var, .inl (cy_var, 300, .inl f_var)), (h_trm, .inl (cy_trm, 300, .inl f_trm)), (h_ter, .inl (cy_ter, 900, .inl f_ter))]) A) ([.ref h_bd, .int p1, .int p2] : List Value).toArray s 0 0 A) (F0 m 79 ls []) := by
                clear hP hD hS hl
                intro n
                induction n with
                | zero => intro x23 x24 f25 H locs ls klp26_0 klp26_1 hf25 klp26_3 hm hP hD hS hl; exact False.elim (by omega)
                | succ n ih => 
                  intro x23 x24 f25 H locs ls klp26_0 klp26_1 hf25 klp26_3 hm hP hD hS hl
                  have ih27 := ih
                  clear ih
                  refine lv_iload hx hb dX1_parts_79 (lv_at hl 8 rfl) ?_
                  refine lv_aload_n hx hb dX1_parts_81 rfl (lv_at hl 0 rfl) ?_
                  refine va_get (D := (dC, dI)) (ci := 1) (v := .ref h_td) (C := RX1) (T := TX1) (N := 13) hx hb hw iwX1 hown hK hP 3 rfl rfl 0 (by decide) (hw _ w_f_X1_36) (fun _ h9 => h9) rfl dX1_parts_82 ?_
                  refine va_getN (D := (dC, dI)) (ci := 5) (v := .ref h_trm) (C := RX8) (T := TX8) (N := 10) (host := "OppositePairs") hx hb hw iwX8 hown hK hP 5 rfl rfl 2 (by decide) (hN.use n_f_X1_88 rfl) (fun _ h9 => h9) rfl dX1_parts_85 ?_
                  refine lv_iload hx hb dX1_parts_88 (lv_at hl 7 rfl) ?_
                  refine va_iald hx hb hK hP 1 3 rfl rfl (i := z22) (vp_in_iff.mpr (by omega)) dX1_parts_90 ?_
                  refine lv_topi (fun z28 ez28 => ?_)
                  have rz28 : 0 ≤ (z28).toInt ∧ (z28).toInt ≤ 3 := by rw [ez28]; exact hf_trm _
                  refine lv_icmp_ge (tgt := 131) hx hb dX1_parts_91 (by decide) (fun c29 => ?_) (fun c29 => ?_)
                  · have kc29 := (cv_le (rfl : (z28).toInt = (z28).toInt) (rfl : (x24).toInt = (x24).toInt)).mp c29
                    obtain ⟨z30, ez30⟩ : ∃ y : Int32, y = x4 + 1 := ⟨_, rfl⟩
                    have tz30 : (z30).toInt = (x4).toInt + 1 := by rw [ez30]; exact i_add rfl (by decide) (by omega)
                    refine lv_iinc (v := z30) (lv' := [(5, .int z30), (0, .ref h_bd), (1, .int p1), (2, .int p2), (3, .int z16), (4, .int x23), (6, .int r20), (7, .int z22), (8, .int x24)]) hx hb dX1_parts_131 hl (k := 5) rfl (by rw [ez30]; rfl) (by decide) rfl (fun ls hl => ?_)
                    refine lv_goto (tgt := 15) hx hb dX1_parts_134 (by decide) ?_
                    replace hP : va_P (dC, dI) cls [(h_bd, .inr (1, (mo19 v_bd (.ref h_td) (.ref h_bnd) (.ref h_hol)))), (h_bnd, .inl (cy_bnd, 256, .inl f_bnd)), (h_hol, .inl (cy_hol, 2048, .inl f25)), (h_td, .inr (5, (mo18 v_td (.ref h_var) (.ref h_trm) (.ref h_ter)))), (h_var, .inl (cy_var, 300, .inl f_var)), (h_trm, .inl (cy_trm, 300, .inl f_trm)), (h_ter, .inl (cy_ter, 900, .inl f_ter))] H := hP.sub [3, 4, 0, 5, 6, 1, 2] rfl
                    replace hD : va_D A [(h_bd, .inr (1, (mo19 v_bd (.ref h_td) (.ref h_bnd) (.ref h_hol)))), (h_bnd, .inl (cy_bnd, 256, .inl f_bnd)), (h_hol, .inl (cy_hol, 2048, .inl f25)), (h_td, .inr (5, (mo18 v_td (.ref h_var) (.ref h_trm) (.ref h_ter)))), (h_var, .inl (cy_var, 300, .inl f_var)), (h_trm, .inl (cy_trm, 300, .inl f_trm)), (h_ter, .inl (cy_ter, 900, .inl f_ter))] := hD.sub [3, 4, 0, 5, 6, 1, 2] (by decide) rfl
                    exact ih7 (z16) (x23) (z30) (f25) _ _ _ (by first | exact klp26_0 | omega) (by omega) hf25 (by omega) hP hD hS (lv_sub hl [1, 2, 3, 4, 5, 0] rfl)
                  · have kc29 := (not_congr (cv_le (rfl : (z28).toInt = (z28).toInt) (rfl : (x24).toInt = (x24).toInt))).mp c29
                    refine lv_aload_n hx hb dX1_parts_94 rfl (lv_at hl 0 rfl) ?_
                    refine va_get (D := (dC, dI)) (ci := 1) (v := .ref h_hol) (C := RX1) (T := TX1) (N := 13) hx hb hw iwX1 hown hK hP 3 rfl rfl 10 (by decide) (hw _ w_f_X1_30) (fun _ h9 => h9) rfl dX1_parts_95 ?_
                    refine lv_iload hx hb dX1_parts_98 (lv_at hl 4 rfl) ?_
                    obtain ⟨z31, ez31⟩ : ∃ y : Int32, y = x23 + 1 := ⟨_, rfl⟩
                    have tz31 : (z31).toInt = (x23).toInt + 1 := by rw [ez31]; exact i_add rfl (by decide) (by omega)
                    refine lv_iinc (v := z31) (lv' := [(4, .int z31), (0, .ref h_bd), (1, .int p1), (2, .int p2), (3, .int z16), (5, .int x4), (6, .int r20), (7, .int z22), (8, .int x24)]) hx hb dX1_parts_100 hl (k := 4) rfl (by rw [ez31]; rfl) (by decide) rfl (fun ls hl => ?_)
                    refine lv_iload hx hb dX1_parts_103 (lv_at hl 6 rfl) ?_
                    refine lv_iload hx hb dX1_parts_105 (lv_at hl 7 rfl) ?_
                    refine lv_isub hx hb dX1_parts_107 ?_
                    refine lv_topi (fun z32 ez32 => ?_)
                    have tz32 : (z32).toInt = (r20).toInt - (z22).toInt := by rw [ez32]; exact i_sub rfl rfl (by omega)
                    have sz32 : 0 ≤ (z32).toInt ∧ (z32).toInt ≤ 9300 := by omega
                    refine lv_aload_n hx hb dX1_parts_108 rfl (lv_at hl 1 rfl) ?_
                    refine va_get (D := (dC, dI)) (ci := 1) (v := .ref h_td) (C := RX1) (T := TX1) (N := 13) hx hb hw iwX1 hown hK hP 3 rfl rfl 0 (by decide) (hw _ w_f_X1_36) (fun _ h9 => h9) rfl dX1_parts_109 ?_
                    refine va_getN (D := (dC, dI)) (ci := 5) (v := .ref h_ter) (C := RX8) (T := TX8) (N := 10) (host := "OppositePairs") hx hb hw iwX8 hown hK hP 5 rfl rfl 3 (by decide) (hN.use n_f_X1_91 rfl) (fun _ h9 => h9) rfl dX1_parts_112 ?_
                    refine lv_iload hx hb dX1_parts_115 (lv_at hl 7 rfl) ?_
                    refine lv_iconst (v := 3) hx hb dX1_parts_117 (by decide) ?_
                    refine lv_imul hx hb dX1_parts_118 ?_
                    refine lv_topi (fun z33 ez33 => ?_)
                    have tz33 : (z33).toInt = (z22).toInt * 3 := by rw [ez33]; exact i_mul rfl (by decide) (by omega)
                    refine lv_iload hx hb dX1_parts_119 (lv_at hl 8 rfl) ?_
                    refine lv_iadd hx hb dX1_parts_121 ?_
                    refine lv_topi (fun z34 ez34 => ?_)
                    have tz34 : (z34).toInt = (z33).toInt + (x24).toInt := by rw [ez34]; exact i_add rfl rfl (by omega)
                    refine va_iald hx hb hK hP 2 4 rfl rfl (i := z34) (vp_in_iff.mpr (by omega)) dX1_parts_122 ?_
                    refine lv_topi (fun z35 ez35 => ?_)
                    have rz35 : 0 ≤ (z35).toInt ∧ (z35).toInt ≤ 299 := by rw [ez35]; exact hf_ter _
                    refine lv_iadd hx hb dX1_parts_123 ?_
                    refine lv_topi (fun z36 ez36 => ?_)
                    have tz36 : (z36).toInt = (z32).toInt + (z35).toInt := by rw [ez36]; exact i_add rfl rfl (by omega)
                    refine va_iast hx hb hK hP hD hS 0 1 rfl rfl (i := x23) (x := z36) (vp_in_iff.mpr (by omega)) dX1_parts_124 (fun H locs hP9 hD9 hS9 => ?_)
                    obtain ⟨f37, ef37⟩ : ∃ g : Nat → Int32, g = upd f25 (Int32.toNatClampNeg x23) z36 := ⟨_, rfl⟩
                    clear hP hD hS
                    have hP : va_P (dC, dI) cls [(h_hol, .inl (cy_hol, 2048, .inl f37)), (h_trm, .inl (cy_trm, 300, .inl f_trm)), (h_ter, .inl (cy_ter, 900, .inl f_ter)), (h_bd, .inr (1, (mo19 v_bd (.ref h_td) (.ref h_bnd) (.ref h_hol)))), (h_bnd, .inl (cy_bnd, 256, .inl f_bnd)), (h_td, .inr (5, (mo18 v_td (.ref h_var) (.ref h_trm) (.ref h_ter)))), (h_var, .inl (cy_var, 300, .inl f_var))] H := by rw [ef37]; exact hP9
                    have hD : va_D A [(h_hol, .inl (cy_hol, 2048, .inl f37)), (h_trm, .inl (cy_trm, 300, .inl f_trm)), (h_ter, .inl (cy_ter, 900, .inl f_ter)), (h_bd, .inr (1, (mo19 v_bd (.ref h_td) (.ref h_bnd) (.ref h_hol)))), (h_bnd, .inl (cy_bnd, 256, .inl f_bnd)), (h_td, .inr (5, (mo18 v_td (.ref h_var) (.ref h_trm) (.ref h_ter)))), (h_var, .inl (cy_var, 300, .inl f_var))] := by rw [ef37]; exact hD9
                    have hS := hS9
                    clear hP9 hD9 hS9
                    have hf37 : Rg 0 9599 f37 := by rw [ef37]; exact rg_upd hf25 (by omega)
                    clear ef37
                    obtain ⟨z38, ez38⟩ : ∃ y : Int32, y = x24 + 1 := ⟨_, rfl⟩
                    have tz38 : (z38).toInt = (x24).toInt + 1 := by rw [ez38]; exact i_add rfl (by decide) (by omega)
                    refine lv_iinc (v := z38) (lv' := [(8, .int z38), (4, .int z31), (0, .ref h_bd), (1, .int p1), (2, .int p2), (3, .int z16), (5, .int x4), (6, .int r20), (7, .int z22)]) hx hb dX1_parts_125 hl (k := 8) rfl (by rw [ez38]; rfl) (by decide) rfl (fun ls hl => ?_)
                    refine lv_goto (tgt := 79) hx hb dX1_parts_128 (by decide) ?_
                    exact ih27 (z31) (z38) (f37) _ _ _ (by omega) (by omega) hf37 (by omega) (by omega) hP hD hS (lv_sub hl [2, 3, 4, 5, 1, 6, 7, 8, 0] rfl)
              have cst0 : (0 : Int32).toInt = 0 := by decide
              exact lp26 _ (z15) (0) (f5) _ _ _ (by omega) (by decide) hf5 (by omega) (Nat.le_refl _) hP hD hS (lv_sub hl [5, 6, 7, 3, 4, 8, 2, 1, 0] rfl)
            · have kc14 := (not_congr (cv_le (rfl : (z13).toInt = (z13).toInt) (by decide : (2048 : Int32).toInt = 2048))).mp c14
              refine lv_iload_n hx hb dX1_parts_45 rfl (lv_at hl 2 rfl) ?_
              refine lv_iconst (v := 1) hx hb dX1_parts_46 (by decide) ?_
              refine lv_iadd hx hb dX1_parts_47 ?_
              refine lv_topi (fun z39 ez39 => ?_)
              refine W.widen (k := 0) (n := 0) (Nat.le_of_ble_eq_true rfl) (Nat.le_of_ble_eq_true rfl) ?_
              exact W.iret (v := z39) hx hb hr (fun t ht hW => ⟨⟨z39, f5, rfl, hf5, by rw [ht]; exact hP, hD⟩, hS.F ht⟩) hS.2.2 dX1_parts_48
  have cst0 : (0 : Int32).toInt = 0 := by decide
  have cst1 : (1 : Int32).toInt = 1 := by decide
  exact lp6 _ (0) (1) (0) (f1) _ _ _ (by decide) (by decide) hf1 (Nat.le_refl _) hP hD hS (lv_sub hl [3, 4, 5, 2, 1, 0] rfl)

set_option maxHeartbeats 8000000 in
set_option maxRecDepth 100000 in
theorem c_X1_bare_a (l : Launch) (dC : Nat → ClassId) (dI : Nat → Nat → Nat) (sz : Nat) (h_bd : Nat) (h_bnd : Nat) (h_td : Nat) (h_var : Nat) (v_bd : Nat → Value) (cy_bnd : ClassId) (f_bnd : Nat → Int32) (v_td : Nat → Value) (cy_var : ClassId) (f_var : Nat → Int32) (p1 : Int32) (hf_bnd : Rg 0 9600 f_bnd) (hf_var : Rg (-1) 7 f_var) (q0 : 0 ≤ (p1).toInt ∧ (p1).toInt ≤ 9599) (q1 : 9000 ≤ (p1).toInt) (hn_bhz : BHZ f_bnd) : Met l yX1_bare (Ws yX1_bare cX1_bare 6 (some .int)) (({ frames := 0, cells := 0, slots := 0, locals := 0 } : Room)) (PRE (dC, dI) cls [(cy_bnd, .int), (cy_var, .int)] [(h_bd, .inr (1, (mo9 v_bd (.ref h_td) (.ref h_bnd)))), (h_bnd, .inl (cy_bnd, 256, .inl f_bnd)), (h_td, .inr (5, (mo8 v_td (.ref h_var)))), (h_var, .inl (cy_var, 300, .inl f_var))] sz [.ref h_bd, .int p1]) (va_Qi (fun (r : Int32) (_ : Unit) => (0 ≤ r.toInt ∧ r.toInt ≤ 9599) ∧ ((r).toInt = (p1).toInt)) (fun (_ : Unit) (t : State) => va_P (dC, dI) cls [(h_bd, .inr (1, (mo9 v_bd (.ref h_td) (.ref h_bnd)))), (h_bnd, .inl (cy_bnd, 256, .inl f_bnd)), (h_td, .inr (5, (mo8 v_td (.ref h_var)))), (h_var, .inl (cy_var, 300, .inl f_var))] t.heap ∧ va_D (va_A [(h_bd, .inr (1, (mo9 v_bd (.ref h_td) (.ref h_bnd)))), (h_bnd, .inl (cy_bnd, 256, .inl f_bnd)), (h_td, .inr (5, (mo8 v_td (.ref h_var)))), (h_var, .inl (cy_var, 300, .inl f_var))] sz) [(h_bd, .inr (1, (mo9 v_bd (.ref h_td) (.ref h_bnd)))), (h_bnd, .inl (cy_bnd, 256, .inl f_bnd)), (h_td, .inr (5, (mo8 v_td (.ref h_var)))), (h_var, .inl (cy_var, 300, .inl f_var))]) (va_A [(h_bd, .inr (1, (mo9 v_bd (.ref h_td) (.ref h_bnd)))), (h_bnd, .inl (cy_bnd, 256, .inl f_bnd)), (h_td, .inr (5, (mo8 v_td (.ref h_var)))), (h_var, .inl (cy_var, 300, .inl f_var))] sz)) 0 0 (va_A [(h_bd, .inr (1, (mo9 v_bd (.ref h_td) (.ref h_bnd)))), (h_bnd, .inl (cy_bnd, 256, .inl f_bnd)), (h_td, .inr (5, (mo8 v_td (.ref h_var)))), (h_var, .inl (cy_var, 300, .inl f_var))] sz) := by
  refine Met.ofW (cc := cX1_bare) (maxL := 6) (ret := (some .int)) (by decide) rfl ?_
  intro p e s m args below meth c s₁ B hml hv
  obtain ⟨rfl, hsz, hP, hK, hD0, hN⟩ := hv
  have hx := B.exec
  have hb := B.bytes
  have hr := B.returns
  have hts := atoms_spec (ws := Ws yX1_bare cX1_bare 6 (some .int)) B.pre
  have hT : ∀ w ∈ WALL, w ∈ Ws yX1_bare cX1_bare 6 (some .int) := fun w h => List.mem_cons_of_mem _ h
  have hw := fun w (h : w ∈ WALL) => hts w (hT w h)
  have hown : s.vm.findClass RX1 = some m.cls := findClass_of_methodNamed B.named
  have hlocks := B.notSynchronized
  subst hsz
  have hD := hD0.self (sz := s.heap.size)
  generalize hAe : va_A [(h_bd, .inr (1, (mo9 v_bd (.ref h_td) (.ref h_bnd)))), (h_bnd, .inl (cy_bnd, 256, .inl f_bnd)), (h_td, .inr (5, (mo8 v_td (.ref h_var)))), (h_var, .inl (cy_var, 300, .inl f_var))] s.heap.size = A at hD ⊢
  have hA : ∀ q : Nat, s.heap.size ≤ q → A q := fun q h => by rw [← hAe]; exact Or.inr h
  have hS : va_S A s.heap s.heap [] := va_S.rf
  have hl := lv_entry ([.ref h_bd, .int p1]) (n := 6) (Nat.le_of_ble_eq_true rfl)
  rw [lg_entry_eq]
  generalize (lg_sl ([.ref h_bd, .int p1]) ++ List.replicate (6 - (lg_sl ([.ref h_bd, .int p1])).length) Slot.unset).toArray = ls at hl ⊢
  have hl : lv_has ls 6 [(0, .ref h_bd), (1, .int p1)] := hl
  refine lv_iload_n hx hb dX1_bare_0 rfl (lv_at hl 1 rfl) ?_
  refine lv_istore_n (lv' := [(2, .int p1), (0, .ref h_bd), (1, .int p1)]) hx hb dX1_bare_1 rfl hl (by decide) rfl (fun ls hl => ?_)
  refine lv_iconst (v := 0) hx hb dX1_bare_2 (by decide) ?_
  refine lv_istore_n (lv' := [(3, .int 0), (2, .int p1), (0, .ref h_bd), (1, .int p1)]) hx hb dX1_bare_3 rfl hl (by decide) rfl (fun ls hl => ?_)
  have lp3 : ∀ (n : Nat) (x1 : Int32) (x2 : Int32) (H : Heap) (locs : List Loc) (ls : Array Slot), (0 ≤ (x1).toInt ∧ (x1).toInt ≤ 9599) → (0 ≤ (x2).toInt ∧ (x2).toInt ≤ 256) → ((x1).toInt = (p1).toInt) → (256 - (x2).toInt).toNat + 1 ≤ n → va_P (dC, dI) cls [(h_bd, .inr (1, (mo9 v_bd (.ref h_td) (.ref h_bnd)))), (h_bnd, .inl (cy_bnd, 256, .inl f_bnd)), (h_td, .inr (5, (mo8 v_td (.ref h_var)))), (h_var, .inl (cy_var, 300, .inl f_var))] H → va_D A [(h_bd, .inr (1, (mo9 v_bd (.ref h_td) (.ref h_bnd)))), (h_bnd, .inl (cy_bnd, 256, .inl f_bnd)), (h_td, .inr (5, (mo8 v_td (.ref h_var)))), (h_var, .inl (cy_var, 300, .inl f_var))] → va_S A s.heap H locs → lv_has ls 6 [(0, .ref h_bd), (1, .int p1), (2, .int x1), (3, .int x2)] → W p l e ({ frames := 0, cells := 0, slots := 0, locals := 0 } : Room) s m ([.ref h_bd, .int p1] : List Value).toArray below meth c H locs 0 0 (MQ below (va_Qi (fun (r : Int32) (_ : Unit) => (0 ≤ r.toInt ∧ r.toInt ≤ 9599) ∧ ((r).toInt = (p1).toInt)) (fun (_ : Unit) (t : State) => va_P (dC, dI) cls [(h_bd, .inr (1, (mo9 v_bd (.ref h_td) (.ref h_bnd)))), (h_bnd, .inl (cy_bnd, 256, .inl f_bnd)), (h_td, .inr (5, (mo8 v_td (.ref h_var)))), (h_var, .inl (cy_var, 300, .inl f_var))] t.heap ∧ va_D A [(h_bd, .inr (1, (mo9 v_bd (.ref h_td) (.ref h_bnd)))), (h_bnd, .inl (cy_bnd, 256, .inl f_bnd)), (h_td, .inr (5, (mo8 v_td (.ref h_var)))), (h_var, .inl (cy_var, 300, .inl f_var))]) A) ([.ref h_bd, .int p1] : List Value).toArray s 0 0 A) (F0 m 4 ls []) := by
    clear hP hD hS hl
    intro n
    induction n with
    | zero => intro x1 x2 H locs ls klp3_0 klp3_1 klp3_2 hm hP hD hS hl; exact False.elim (by omega)
    | succ n ih => 
      intro x1 x2 H locs ls klp3_0 klp3_1 klp3_2 hm hP hD hS hl
      have ih4 := ih
      clear ih
      refine lv_iload_n hx hb dX1_bare_4 rfl (lv_at hl 3 rfl) ?_
      refine lv_sipush (v := 256) hx hb dX1_bare_5 (by decide) ?_
      refine lv_icmp_ge (tgt := 70) hx hb dX1_bare_8 (by decide) (fun c5 => ?_) (fun c5 => ?_)
      · have kc5 := (cv_le (by decide : (256 : Int32).toInt = 256) (rfl : (x2).toInt = (x2).toInt)).mp c5
        refine lv_iload_n hx hb dX1_bare_70 rfl (lv_at hl 2 rfl) ?_
        refine W.widen (k := 0) (n := 0) (Nat.le_of_ble_eq_true rfl) (Nat.le_of_ble_eq_true rfl) ?_
        have w6 : 0 ≤ (x1 : Int32).toInt ∧ (x1 : Int32).toInt ≤ 9599 := by first | exact klp3_0 | omega
        have w7 : ((x1 : Int32)).toInt = (p1).toInt := by first | exact klp3_2 | omega
        exact W.iret (v := x1) hx hb hr (fun t ht hW => ⟨⟨x1, (), rfl, ⟨w6, w7⟩, by rw [ht]; exact hP, hD⟩, hS.F ht⟩) hS.2.2 dX1_bare_71
      · have kc5 := (not_congr (cv_le (by decide : (256 : Int32).toInt = 256) (rfl : (x2).toInt = (x2).toInt))).mp c5
        refine lv_aload_n hx hb dX1_bare_11 rfl (lv_at hl 0 rfl) ?_
        refine va_get (D := (dC, dI)) (ci := 1) (v := .ref h_td) (C := RX1) (T := TX1) (N := 13) hx hb hw iwX1 hown hK hP 0 rfl rfl 0 (by decide) (hw _ w_f_X1_36) (fun _ h9 => h9) rfl dX1_bare_12 ?_
        refine va_getN (D := (dC, dI)) (ci := 5) (v := .ref h_var) (C := RX8) (T := TX8) (N := 10) (host := "OppositePairs") hx hb hw iwX8 hown hK hP 2 rfl rfl 1 (by decide) (hN.use n_f_X1_44 rfl) (fun _ h9 => h9) rfl dX1_bare_15 ?_
        refine lv_iload_n hx hb dX1_bare_18 rfl (lv_at hl 2 rfl) ?_
        refine lv_sipush (v := 300) hx hb dX1_bare_19 (by decide) ?_
        refine lv_irem hx hb dX1_bare_22 (by decide) ?_
        refine lv_topi (fun z8 ez8 => ?_)
        have tz8 : (z8).toInt = (x1).toInt % 300 := by rw [ez8]; exact i_rem rfl (by decide) (by omega)
        refine va_iald hx hb hK hP 3 1 rfl rfl (i := z8) (vp_in_iff.mpr (by omega)) dX1_bare_23 ?_
        refine lv_topi (fun z9 ez9 => ?_)
        have rz9 : -1 ≤ (z9).toInt ∧ (z9).toInt ≤ 7 := by rw [ez9]; exact hf_var _
        refine lv_istore (lv' := [(4, .int z9), (0, .ref h_bd), (1, .int p1), (2, .int x1), (3, .int x2)]) hx hb dX1_bare_24 hl (by decide) rfl (fun ls hl => ?_)
        refine lv_iload hx hb dX1_bare_26 (lv_at hl 0 rfl) ?_
        refine lv_iconst (v := (-1)) hx hb dX1_bare_28 (by decide) ?_
        refine lv_icmp_ne (tgt := 34) hx hb dX1_bare_29 (by decide) (fun c10 => ?_) (fun c10 => ?_)
        · have kc10 := (not_congr (cv_eq (rfl : (z9).toInt = (z9).toInt) (by decide : ((-1) : Int32).toInt = -1))).mp c10
          refine lv_aload_n hx hb dX1_bare_34 rfl (lv_at hl 1 rfl) ?_
          refine va_get (D := (dC, dI)) (ci := 1) (v := .ref h_bnd) (C := RX1) (T := TX1) (N := 13) hx hb hw iwX1 hown hK hP 0 rfl rfl 1 (by decide) (hw _ w_f_X1_9) (fun _ h9 => h9) rfl dX1_bare_35 ?_
          refine lv_iload_n hx hb dX1_bare_38 rfl (lv_at hl 3 rfl) ?_
          refine lv_sipush (v := 300) hx hb dX1_bare_39 (by decide) ?_
          refine lv_idiv hx hb dX1_bare_42 (by decide) ?_
          refine lv_topi (fun z11 ez11 => ?_)
          have tz11 : (z11).toInt = (x1).toInt / 300 := by rw [ez11]; exact i_div rfl (by decide) (by omega)
          refine lv_bipush (v := 8) hx hb dX1_bare_43 (by decide) ?_
          refine lv_imul hx hb dX1_bare_45 ?_
          refine lv_topi (fun z12 ez12 => ?_)
          have tz12 : (z12).toInt = (z11).toInt * 8 := by rw [ez12]; exact i_mul rfl (by decide) (by omega)
          refine lv_iload hx hb dX1_bare_46 (lv_at hl 0 rfl) ?_
          refine lv_iadd hx hb dX1_bare_48 ?_
          refine lv_topi (fun z13 ez13 => ?_)
          have tz13 : (z13).toInt = (z12).toInt + (z9).toInt := by rw [ez13]; exact i_add rfl rfl (by omega)
          refine va_iald hx hb hK hP 1 0 rfl rfl (i := z13) (vp_in_iff.mpr (by omega)) dX1_bare_49 ?_
          refine lv_topi (fun z14 ez14 => ?_)
          have rz14 : 0 ≤ (z14).toInt ∧ (z14).toInt ≤ 9600 := by rw [ez14]; exact hf_bnd _
          have bzz14 : (z14).toInt = 0 := by rw [ez14]; exact bhz_at hn_bhz (by omega)
          refine lv_istore (lv' := [(5, .int z14), (4, .int z9), (0, .ref h_bd), (1, .int p1), (2, .int x1), (3, .int x2)]) hx hb dX1_bare_50 hl (by decide) rfl (fun ls hl => ?_)
          refine lv_iload hx hb dX1_bare_52 (lv_at hl 0 rfl) ?_
          refine lv_if_ne (tgt := 59) hx hb dX1_bare_54 (by decide) (fun c15 => False.elim (by have kc15 := (not_congr (cv_eq (rfl : (z14).toInt = (z14).toInt) (by decide : (0 : Int32).toInt = 0))).mp c15; omega)) (fun _ => ?_)
          refine lv_iload_n hx hb dX1_bare_57 rfl (lv_at hl 4 rfl) ?_
          refine W.widen (k := 0) (n := 0) (Nat.le_of_ble_eq_true rfl) (Nat.le_of_ble_eq_true rfl) ?_
          have w16 : 0 ≤ (x1 : Int32).toInt ∧ (x1 : Int32).toInt ≤ 9599 := by first | exact klp3_0 | omega
          have w17 : ((x1 : Int32)).toInt = (p1).toInt := by first | exact klp3_2 | omega
          exact W.iret (v := x1) hx hb hr (fun t ht hW => ⟨⟨x1, (), rfl, ⟨w16, w17⟩, by rw [ht]; exact hP, hD⟩, hS.F ht⟩) hS.2.2 dX1_bare_58
        · have kc10 := (cv_eq (rfl : (z9).toInt = (z9).toInt) (by decide : ((-1) : Int32).toInt = -1)).mp c10
          refine lv_iload_n hx hb dX1_bare_32 rfl (lv_at hl 3 rfl) ?_
          refine W.widen (k := 0) (n := 0) (Nat.le_of_ble_eq_true rfl) (Nat.le_of_ble_eq_true rfl) ?_
          have w18 : 0 ≤ (x1 : Int32).toInt ∧ (x1 : Int32).toInt ≤ 9599 := by first | exact klp3_0 | omega
          have w19 : ((x1 : Int32)).toInt = (p1).toInt := by first | exact klp3_2 | omega
          exact W.iret (v := x1) hx hb hr (fun t ht hW => ⟨⟨x1, (), rfl, ⟨w18, w19⟩, by rw [ht]; exact hP, hD⟩, hS.F ht⟩) hS.2.2 dX1_bare_33
  have cst0 : (0 : Int32).toInt = 0 := by decide
  exact lp3 _ (p1) (0) _ _ _ (by first | exact q0 | omega) (by decide) (by omega) (Nat.le_refl _) hP hD hS (lv_sub hl [2, 3, 1, 0] rfl)

set_option maxHeartbeats 8000000 in
set_option maxRecDepth 100000 in
theorem c_X1_parts_a (l : Launch) (dC : Nat → ClassId) (dI : Nat → Nat → Nat) (sz : Nat) (h_bd : Nat) (h_bnd : Nat) (h_hol : Nat) (h_td : Nat) (h_var : Nat) (h_trm : Nat) (h_ter : Nat) (v_bd : Nat → Value) (cy_bnd : ClassId) (f_bnd : Nat → Int32) (cy_hol : ClassId) (f_hol : Nat → Int32) (v_td : Nat → Value) (cy_var : ClassId) (f_var : Nat → Int32) (cy_trm : ClassId) (f_trm : Nat → Int32) (cy_ter : ClassId) (f_ter : Nat → Int32) (p1 : Int32) (nmx : Nat → Int64) (hf_bnd : Rg 0 9600 f_bnd) (hf_hol : Rg 0 9599 f_hol) (hf_var : Rg (-1) 7 f_var) (hf_trm : Rg 0 3 f_trm) (hf_ter : Rg 0 299 f_ter) (q0 : 9000 ≤ (p1).toInt ∧ (p1).toInt ≤ 9299) (q1 : szX (CVW nmx f_var f_trm f_ter) 7 ((p1).toInt - 9000).toNat ≤ 300) (hn_bhz : BHZ f_bnd) (hn_tz : TZG f_var f_trm) (hn_wfx : WFX (CVW nmx f_var f_trm f_ter) 7 ((p1).toInt - 9000).toNat) : Met l yX1_parts (Ws yX1_parts cX1_parts 9 (some .int)) (({ frames := 1, cells := 0, slots := 0, locals := 25 } : Room)) (PRE (dC, dI) cls [(cy_bnd, .int), (cy_hol, .int), (cy_var, .int), (cy_trm, .int), (cy_ter, .int)] [(h_bd, .inr (1, (mo19 v_bd (.ref h_td) (.ref h_bnd) (.ref h_hol)))), (h_bnd, .inl (cy_bnd, 256, .inl f_bnd)), (h_hol, .inl (cy_hol, 2048, .inl f_hol)), (h_td, .inr (5, (mo18 v_td (.ref h_var) (.ref h_trm) (.ref h_ter)))), (h_var, .inl (cy_var, 300, .inl f_var)), (h_trm, .inl (cy_trm, 300, .inl f_trm)), (h_ter, .inl (cy_ter, 900, .inl f_ter))] sz [.ref h_bd, .int p1, .int 300]) (va_Qi (fun (r : Int32) (u : (Nat → Int32)) => (Rg 0 9599 u) ∧ (0 ≤ r.toInt ∧ r.toInt ≤ 300) ∧ ((r).toInt = szX (CVW nmx f_var f_trm f_ter) 7 ((p1).toInt - 9000).toNat)) (fun (u : (Nat → Int32)) (t : State) => va_P (dC, dI) cls [(h_bd, .inr (1, (mo19 v_bd (.ref h_td) (.ref h_bnd) (.ref h_hol)))), (h_bnd, .inl (cy_bnd, 256, .inl f_bnd)), (h_hol, .inl (cy_hol, 2048, .inl u)), (h_td, .inr (5, (mo18 v_td (.ref h_var) (.ref h_trm) (.ref h_ter)))), (h_var, .inl (cy_var, 300, .inl f_var)), (h_trm, .inl (cy_trm, 300, .inl f_trm)), (h_ter, .inl (cy_ter, 900, .inl f_ter))] t.heap ∧ va_D (va_A [(h_bd, .inr (1, (mo19 v_bd (.ref h_td) (.ref h_bnd) (.ref h_hol)))), (h_bnd, .inl (cy_bnd, 256, .inl f_bnd)), (h_hol, .inl (cy_hol, 2048, .inl f_hol)), (h_td, .inr (5, (mo18 v_td (.ref h_var) (.ref h_trm) (.ref h_ter)))), (h_var, .inl (cy_var, 300, .inl f_var)), (h_trm, .inl (cy_trm, 300, .inl f_trm)), (h_ter, .inl (cy_ter, 900, .inl f_ter))] sz) [(h_bd, .inr (1, (mo19 v_bd (.ref h_td) (.ref h_bnd) (.ref h_hol)))), (h_bnd, .inl (cy_bnd, 256, .inl f_bnd)), (h_hol, .inl (cy_hol, 2048, .inl u)), (h_td, .inr (5, (mo18 v_td (.ref h_var) (.ref h_trm) (.ref h_ter)))), (h_var, .inl (cy_var, 300, .inl f_var)), (h_trm, .inl (cy_trm, 300, .inl f_trm)), (h_ter, .inl (cy_ter, 900, .inl f_ter))]) (va_A [(h_bd, .inr (1, (mo19 v_bd (.ref h_td) (.ref h_bnd) (.ref h_hol)))), (h_bnd, .inl (cy_bnd, 256, .inl f_bnd)), (h_hol, .inl (cy_hol, 2048, .inl f_hol)), (h_td, .inr (5, (mo18 v_td (.ref h_var) (.ref h_trm) (.ref h_ter)))), (h_var, .inl (cy_var, 300, .inl f_var)), (h_trm, .inl (cy_trm, 300, .inl f_trm)), (h_ter, .inl (cy_ter, 900, .inl f_ter))] sz)) 0 0 (va_A [(h_bd, .inr (1, (mo19 v_bd (.ref h_td) (.ref h_bnd) (.ref h_hol)))), (h_bnd, .inl (cy_bnd, 256, .inl f_bnd)), (h_hol, .inl (cy_hol, 2048, .inl f_hol)), (h_td, .inr (5, (mo18 v_td (.ref h_var) (.ref h_trm) (.ref h_ter)))), (h_var, .inl (cy_var, 300, .inl f_var)), (h_trm, .inl (cy_trm, 300, .inl f_trm)), (h_ter, .inl (cy_ter, 900, .inl f_ter))] sz) := by
  refine Met.ofW (cc := cX1_parts) (maxL := 9) (ret := (some .int)) (by decide) rfl ?_
  intro p e s m args below meth c s₁ B hml hv
  obtain ⟨rfl, hsz, hP, hK, hD0, hN⟩ := hv
  have hx := B.exec
  have hb := B.bytes
  have hr := B.returns
  have hts := atoms_spec (ws := Ws yX1_parts cX1_parts 9 (some .int)) B.pre
  have hT : ∀ w ∈ WALL, w ∈ Ws yX1_parts cX1_parts 9 (some .int) := fun w h => List.mem_cons_of_mem _ h
  have hw := fun w (h : w ∈ WALL) => hts w (hT w h)
  have hown : s.vm.findClass RX1 = some m.cls := findClass_of_methodNamed B.named
  have hlocks := B.notSynchronized
  subst hsz
  have hD := hD0.self (sz := s.heap.size)
  generalize hAe : va_A [(h_bd, .inr (1, (mo19 v_bd (.ref h_td) (.ref h_bnd) (.ref h_hol)))), (h_bnd, .inl (cy_bnd, 256, .inl f_bnd)), (h_hol, .inl (cy_hol, 2048, .inl f_hol)), (h_td, .inr (5, (mo18 v_td (.ref h_var) (.ref h_trm) (.ref h_ter)))), (h_var, .inl (cy_var, 300, .inl f_var)), (h_trm, .inl (cy_trm, 300, .inl f_trm)), (h_ter, .inl (cy_ter, 900, .inl f_ter))] s.heap.size = A at hD ⊢
  have hA : ∀ q : Nat, s.heap.size ≤ q → A q := fun q h => by rw [← hAe]; exact Or.inr h
  have hS : va_S A s.heap s.heap [] := va_S.rf
  have hl := lv_entry ([.ref h_bd, .int p1, .int 300]) (n := 9) (Nat.le_of_ble_eq_true rfl)
  rw [lg_entry_eq]
  generalize (lg_sl ([.ref h_bd, .int p1, .int 300]) ++ List.replicate (9 - (lg_sl ([.ref h_bd, .int p1, .int 300])).length) Slot.unset).toArray = ls at hl ⊢
  have hl : lv_has ls 9 [(0, .ref h_bd), (1, .int p1), (2, .int 300)] := hl
  refine lv_iconst (v := 0) hx hb dX1_parts_0 (by decide) ?_
  refine lv_istore_n (lv' := [(3, .int 0), (0, .ref h_bd), (1, .int p1), (2, .int 300)]) hx hb dX1_parts_1 rfl hl (by decide) rfl (fun ls hl => ?_)
  refine lv_iconst (v := 1) hx hb dX1_parts_2 (by decide) ?_
  refine lv_istore (lv' := [(4, .int 1), (3, .int 0), (0, .ref h_bd), (1, .int p1), (2, .int 300)]) hx hb dX1_parts_3 hl (by decide) rfl (fun ls hl => ?_)
  refine lv_aload_n hx hb dX1_parts_5 rfl (lv_at hl 2 rfl) ?_
  refine va_get (D := (dC, dI)) (ci := 1) (v := .ref h_hol) (C := RX1) (T := TX1) (N := 13) hx hb hw iwX1 hown hK hP 0 rfl rfl 10 (by decide) (hw _ w_f_X1_30) (fun _ h9 => h9) rfl dX1_parts_6 ?_
  refine lv_iconst (v := 0) hx hb dX1_parts_9 (by decide) ?_
  refine lv_iload_n hx hb dX1_parts_10 rfl (lv_at hl 3 rfl) ?_
  refine va_iast hx hb hK hP hD hS 2 1 rfl rfl (i := 0) (x := p1) (show ¬ _ from by decide) dX1_parts_11 (fun H locs hP9 hD9 hS9 => ?_)
  obtain ⟨f1, ef1⟩ : ∃ g : Nat → Int32, g = upd f_hol (Int32.toNatClampNeg 0) p1 := ⟨_, rfl⟩
  clear hP hD hS
  have hP : va_P (dC, dI) cls [(h_bd, .inr (1, (mo19 v_bd (.ref h_td) (.ref h_bnd) (.ref h_hol)))), (h_bnd, .inl (cy_bnd, 256, .inl f_bnd)), (h_hol, .inl (cy_hol, 2048, .inl f1)), (h_td, .inr (5, (mo18 v_td (.ref h_var) (.ref h_trm) (.ref h_ter)))), (h_var, .inl (cy_var, 300, .inl f_var)), (h_trm, .inl (cy_trm, 300, .inl f_trm)), (h_ter, .inl (cy_ter, 900, .inl f_ter))] H := by rw [ef1]; exact hP9
  have hD : va_D A [(h_bd, .inr (1, (mo19 v_bd (.ref h_td) (.ref h_bnd) (.ref h_hol)))), (h_bnd, .inl (cy_bnd, 256, .inl f_bnd)), (h_hol, .inl (cy_hol, 2048, .inl f1)), (h_td, .inr (5, (mo18 v_td (.ref h_var) (.ref h_trm) (.ref h_ter)))), (h_var, .inl (cy_var, 300, .inl f_var)), (h_trm, .inl (cy_trm, 300, .inl f_trm)), (h_ter, .inl (cy_ter, 900, .inl f_ter))] := by rw [ef1]; exact hD9
  have hS := hS9
  clear hP9 hD9 hS9
  have hf1 : Rg 0 9599 f1 := by rw [ef1]; exact rg_upd hf_hol (by omega)
  have ok0 : OKX (CVW nmx f_var f_trm f_ter) 9000 (fun _ => 7) f1 1 := okx_one (by decide) ef1 (by omega) hn_wfx
  have sm0 : smX (CVW nmx f_var f_trm f_ter) 9000 (fun _ => 7) f1 (Int.toNat ((1 : Int32)).toInt) = szX (CVW nmx f_var f_trm f_ter) 7 ((p1).toInt - 9000).toNat := by rw [show ((1 : Int32)).toInt = 1 by decide]; exact smx_one (by decide) (by decide) ef1
  have sg0 := szX_ge (V := (CVW nmx f_var f_trm f_ter)) 7 ((p1).toInt - 9000).toNat
  refine lv_iconst (v := 0) hx hb dX1_parts_12 (by decide) ?_
  refine lv_istore (lv' := [(5, .int 0), (4, .int 1), (3, .int 0), (0, .ref h_bd), (1, .int p1), (2, .int 300)]) hx hb dX1_parts_13 hl (by decide) rfl (fun ls hl => ?_)
  have lp7 : ∀ (n : Nat) (x2 : Int32) (x3 : Int32) (x4 : Int32) (f5 : Nat → Int32) (gh6 : Nat → Nat) (H : Heap) (locs : List Loc) (ls : Array Slot), (0 ≤ (x2).toInt ∧ (x2).toInt ≤ 300) → (0 ≤ (x3).toInt ∧ (x3).toInt ≤ 2048) → (0 ≤ (x4).toInt ∧ (x4).toInt ≤ 1000000) → (Rg 0 9599 f5) → ((x2).toInt + smX (CVW nmx f_var f_trm f_ter) 9000 gh6 f5 (Int.toNat ((x3).toInt)) = szX (CVW nmx f_var f_trm f_ter) 7 ((p1).toInt - 9000).toNat) → ((x4).toInt = (x2).toInt) → (OKX (CVW nmx f_var f_trm f_ter) 9000 gh6 f5 (x3).toInt) → (1000000 - (x4).toInt).toNat + 1 ≤ n → va_P (dC, dI) cls [(h_bd, .inr (1, (mo19 v_bd (.ref h_td) (.ref h_bnd) (.ref h_hol)))), (h_bnd, .inl (cy_bnd, 256, .inl f_bnd)), (h_hol, .inl (cy_hol, 2048, .inl f5)), (h_td, .inr (5, (mo18 v_td (.ref h_var) (.ref h_trm) (.ref h_ter)))), (h_var, .inl (cy_var, 300, .inl f_var)), (h_trm, .inl (cy_trm, 300, .inl f_trm)), (h_ter, .inl (cy_ter, 900, .inl f_ter))] H → va_D A [(h_bd, .inr (1, (mo19 v_bd (.ref h_td) (.ref h_bnd) (.ref h_hol)))), (h_bnd, .inl (cy_bnd, 256, .inl f_bnd)), (h_hol, .inl (cy_hol, 2048, .inl f5)), (h_td, .inr (5, (mo18 v_td (.ref h_var) (.ref h_trm) (.ref h_ter)))), (h_var, .inl (cy_var, 300, .inl f_var)), (h_trm, .inl (cy_trm, 300, .inl f_trm)), (h_ter, .inl (cy_ter, 900, .inl f_ter))] → va_S A s.heap H locs → lv_has ls 9 [(0, .ref h_bd), (1, .int p1), (2, .int 300), (3, .int x2), (4, .int x3), (5, .int x4)] → W p l e ({ frames := 1, cells := 0, slots := 0, locals := 25 } : Room) s m ([.ref h_bd, .int p1, .int 300] : List Value).toArray below meth c H locs 0 0 (MQ below (va_Qi (fun (r : Int32) (u : (Nat → Int32)) => (Rg 0 9599 u) ∧ (0 ≤ r.toInt ∧ r.toInt ≤ 300) ∧ ((r).toInt = szX (CVW nmx f_var f_trm f_ter) 7 ((p1).toInt - 9000).toNat)) (fun (u : (Nat → Int32)) (t : State) => va_P (dC, dI) cls [(h_bd, .inr (1, (mo19 v_bd (.ref h_td) (.ref h_bnd) (.ref h_hol)))), (h_bnd, .inl (cy_bnd, 256, .inl f_bnd)), (h_hol, .inl (cy_hol, 2048, .inl u)), (h_td, .inr (5, (mo18 v_td (.ref h_var) (.ref h_trm) (.ref h_ter)))), (h_var, .inl (cy_var, 300, .inl f_var)), (h_trm, .inl (cy_trm, 300, .inl f_trm)), (h_ter, .inl (cy_ter, 900, .inl f_ter))] t.heap ∧ va_D A [(h_bd, .inr (1, (mo19 v_bd (.ref h_td) (.ref h_bnd) (.ref h_hol)))), (h_bnd, .inl (cy_bnd, 256, .inl f_bnd)), (h_hol, .inl (cy_hol, 2048, .inl u)), (h_td, .inr (5, (mo18 v_td (.ref h_var) (.ref h_trm) (.ref h_ter)))), (h_var, .inl (cy_var, 300, .inl f_var)), (h_trm, .inl (cy_trm, 300, .inl f_trm)), (h_ter, .inl (cy_ter, 900, .inl f_ter))]) A) ([.ref h_bd, .int p1, .int 300] : List Value).toArray s 0 0 A) (F0 m 15 ls []) := by
    clear hP hD hS hl
    intro n
    induction n with
    | zero => intro x2 x3 x4 f5 gh6 H locs ls klp7_0 klp7_1 klp7_2 hf5 klp7_4 klp7_5 klp7_6 hm hP hD hS hl; exact False.elim (by omega)
    | succ n ih => 
      intro x2 x3 x4 f5 gh6 H locs ls klp7_0 klp7_1 klp7_2 hf5 klp7_4 klp7_5 klp7_6 hm hP hD hS hl
      have ih8 := ih
      clear ih
      refine lv_iload hx hb dX1_parts_15 (lv_at hl 5 rfl) ?_
      refine lv_ldc (v := 1000000) hx hb hown (hw _ w_k_X1_55) dX1_parts_17 ?_
      refine lv_icmp_ge (tgt := 137) hx hb dX1_parts_19 (by decide) (fun c9 => ?_) (fun c9 => ?_)
      · have kc9 := (cv_le (by decide : (1000000 : Int32).toInt = 1000000) (rfl : (x4).toInt = (x4).toInt)).mp c9
        have ez9 : smX (CVW nmx f_var f_trm f_ter) 9000 gh6 f5 (Int.toNat (x3).toInt) = 0 := by rw [show Int.toNat (x3).toInt = 0 by omega]; rfl
        refine lv_iload_n hx hb dX1_parts_137 rfl (lv_at hl 3 rfl) ?_
        refine W.widen (k := 0) (n := 0) (Nat.le_of_ble_eq_true rfl) (Nat.le_of_ble_eq_true rfl) ?_
        have w10 : 0 ≤ (x2 : Int32).toInt ∧ (x2 : Int32).toInt ≤ 300 := by first | exact klp7_0 | omega
        have w11 : ((x2 : Int32)).toInt = szX (CVW nmx f_var f_trm f_ter) 7 ((p1).toInt - 9000).toNat := by omega
        exact W.iret (v := x2) hx hb hr (fun t ht hW => ⟨⟨x2, f5, rfl, ⟨hf5, w10, w11⟩, by rw [ht]; exact hP, hD⟩, hS.F ht⟩) hS.2.2 dX1_parts_138
      · have kc9 := (not_congr (cv_le (by decide : (1000000 : Int32).toInt = 1000000) (rfl : (x4).toInt = (x4).toInt))).mp c9
        have sg9 := smX_ge (Int.toNat (x3).toInt) (okx_le klp7_6 (by omega))
        refine lv_iload hx hb dX1_parts_22 (lv_at hl 4 rfl) ?_
        refine lv_if_le (tgt := 137) hx hb dX1_parts_24 (by decide) (fun c12 => ?_) (fun c12 => ?_)
        · have kc12 := (cv_le (rfl : (x3).toInt = (x3).toInt) (by decide : (0 : Int32).toInt = 0)).mp c12
          have ez9 : smX (CVW nmx f_var f_trm f_ter) 9000 gh6 f5 (Int.toNat (x3).toInt) = 0 := by rw [show Int.toNat (x3).toInt = 0 by omega]; rfl
          refine lv_iload_n hx hb dX1_parts_137 rfl (lv_at hl 3 rfl) ?_
          refine W.widen (k := 0) (n := 0) (Nat.le_of_ble_eq_true rfl) (Nat.le_of_ble_eq_true rfl) ?_
          have w13 : 0 ≤ (x2 : Int32).toInt ∧ (x2 : Int32).toInt ≤ 300 := by first | exact klp7_0 | omega
          have w14 : ((x2 : Int32)).toInt = szX (CVW nmx f_var f_trm f_ter) 7 ((p1).toInt - 9000).toNat := by omega
          exact W.iret (v := x2) hx hb hr (fun t ht hW => ⟨⟨x2, f5, rfl, ⟨hf5, w13, w14⟩, by rw [ht]; exact hP, hD⟩, hS.F ht⟩) hS.2.2 dX1_parts_138
        · have kc12 := (not_congr (cv_le (rfl : (x3).toInt = (x3).toInt) (by decide : (0 : Int32).toInt = 0))).mp c12
          refine lv_iload_n hx hb dX1_parts_27 rfl (lv_at hl 3 rfl) ?_
          refine lv_iload hx hb dX1_parts_28 (lv_at hl 4 rfl) ?_
          refine lv_iadd hx hb dX1_parts_30 ?_
          refine lv_topi (fun z15 ez15 => ?_)
          have tz15 : (z15).toInt = (x2).toInt + (x3).toInt := by rw [ez15]; exact i_add rfl rfl (by omega)
          refine lv_iload_n hx hb dX1_parts_31 rfl (lv_at hl 2 rfl) ?_
          refine lv_icmp_gt (tgt := 45) hx hb dX1_parts_32 (by decide) (fun c16 => False.elim (by have kc16 := (cv_lt (by decide : (300 : Int32).toInt = 300) (rfl : (z15).toInt = (z15).toInt)).mp c16; omega)) (fun _ => ?_)
          refine lv_iload hx hb dX1_parts_35 (lv_at hl 4 rfl) ?_
          refine lv_iconst (v := 3) hx hb dX1_parts_37 (by decide) ?_
          refine lv_iadd hx hb dX1_parts_38 ?_
          refine lv_topi (fun z17 ez17 => ?_)
          have tz17 : (z17).toInt = (x3).toInt + 3 := by rw [ez17]; exact i_add rfl (by decide) (by omega)
          refine lv_sipush (v := 2048) hx hb dX1_parts_39 (by decide) ?_
          refine lv_icmp_le (tgt := 49) hx hb dX1_parts_42 (by decide) (fun _ => ?_) (fun c18 => False.elim (by have kc18 := (not_congr (cv_le (rfl : (z17).toInt = (z17).toInt) (by decide : (2048 : Int32).toInt = 2048))).mp c18; omega))
          obtain ⟨z19, ez19⟩ : ∃ y : Int32, y = x3 + (-1) := ⟨_, rfl⟩
          have tz19 : (z19).toInt = (x3).toInt + -1 := by rw [ez19]; exact i_add rfl (by decide) (by omega)
          refine lv_iinc (v := z19) (lv' := [(4, .int z19), (0, .ref h_bd), (1, .int p1), (2, .int 300), (3, .int x2), (5, .int x4)]) hx hb dX1_parts_49 hl (k := 4) rfl (by rw [ez19]; rfl) (by decide) rfl (fun ls hl => ?_)
          obtain ⟨z20, ez20⟩ : ∃ y : Int32, y = x2 + 1 := ⟨_, rfl⟩
          have tz20 : (z20).toInt = (x2).toInt + 1 := by rw [ez20]; exact i_add rfl (by decide) (by omega)
          refine lv_iinc (v := z20) (lv' := [(3, .int z20), (4, .int z19), (0, .ref h_bd), (1, .int p1), (2, .int 300), (5, .int x4)]) hx hb dX1_parts_52 hl (k := 4) rfl (by rw [ez20]; rfl) (by decide) rfl (fun ls hl => ?_)
          refine lv_aload_n hx hb dX1_parts_55 rfl (lv_at hl 2 rfl) ?_
          refine lv_aload_n hx hb dX1_parts_56 rfl (lv_at hl 2 rfl) ?_
          refine va_get (D := (dC, dI)) (ci := 1) (v := .ref h_hol) (C := RX1) (T := TX1) (N := 13) hx hb hw iwX1 hown hK hP 0 rfl rfl 10 (by decide) (hw _ w_f_X1_30) (fun _ h9 => h9) rfl dX1_parts_57 ?_
          refine lv_iload hx hb dX1_parts_60 (lv_at hl 1 rfl) ?_
          refine va_iald hx hb hK hP 2 1 rfl rfl (i := z19) (vp_in_iff.mpr (by omega)) dX1_parts_62 ?_
          refine lv_topi (fun z21 ez21 => ?_)
          have rz21 : 0 ≤ (z21).toInt ∧ (z21).toInt ≤ 9599 := by rw [ez21]; exact hf5 _
          obtain ⟨kb1, kb2, kb3⟩ := okx_at (i := z19) klp7_6 (by omega) (by omega) ez21
          obtain ⟨d9, ed9⟩ := wfx_suc kb3
          have sp9 := smx_pop (V := (CVW nmx f_var f_trm f_ter)) (b := 9000) (n := (x3).toInt) (ds := gh6) (i := z19) (by omega) (by omega) ez21
          rw [ed9] at sp9 kb3
          obtain ⟨vq22, evq22⟩ := mq19_9 v_bd (.ref h_hol)
          replace hP : va_P (dC, dI) cls [(h_bd, .inr (1, (mo9 vq22 (.ref h_td) (.ref h_bnd)))), (h_bnd, .inl (cy_bnd, 256, .inl f_bnd)), (h_hol, .inl (cy_hol, 2048, .inl f5)), (h_td, .inr (5, (mo18 v_td (.ref h_var) (.ref h_trm) (.ref h_ter)))), (h_var, .inl (cy_var, 300, .inl f_var)), (h_trm, .inl (cy_trm, 300, .inl f_trm)), (h_ter, .inl (cy_ter, 900, .inl f_ter))] H := by rw [evq22]; exact hP
          replace hD : va_D A [(h_bd, .inr (1, (mo9 vq22 (.ref h_td) (.ref h_bnd)))), (h_bnd, .inl (cy_bnd, 256, .inl f_bnd)), (h_hol, .inl (cy_hol, 2048, .inl f5)), (h_td, .inr (5, (mo18 v_td (.ref h_var) (.ref h_trm) (.ref h_ter)))), (h_var, .inl (cy_var, 300, .inl f_var)), (h_trm, .inl (cy_trm, 300, .inl f_trm)), (h_ter, .inl (cy_ter, 900, .inl f_ter))] := by rw [evq22]; exact hD
          obtain ⟨vq23, evq23⟩ := mq18_8 v_td (.ref h_trm) (.ref h_ter)
          replace hP : va_P (dC, dI) cls [(h_bd, .inr (1, (mo9 vq22 (.ref h_td) (.ref h_bnd)))), (h_bnd, .inl (cy_bnd, 256, .inl f_bnd)), (h_hol, .inl (cy_hol, 2048, .inl f5)), (h_td, .inr (5, (mo8 vq23 (.ref h_var)))), (h_var, .inl (cy_var, 300, .inl f_var)), (h_trm, .inl (cy_trm, 300, .inl f_trm)), (h_ter, .inl (cy_ter, 900, .inl f_ter))] H := by rw [evq23]; exact hP
          replace hD : va_D A [(h_bd, .inr (1, (mo9 vq22 (.ref h_td) (.ref h_bnd)))), (h_bnd, .inl (cy_bnd, 256, .inl f_bnd)), (h_hol, .inl (cy_hol, 2048, .inl f5)), (h_td, .inr (5, (mo8 vq23 (.ref h_var)))), (h_var, .inl (cy_var, 300, .inl f_var)), (h_trm, .inl (cy_trm, 300, .inl f_trm)), (h_ter, .inl (cy_ter, 900, .inl f_ter))] := by rw [evq23]; exact hD
          have hPc := hP.sub (ws' := [(h_bd, .inr (1, (mo9 vq22 (.ref h_td) (.ref h_bnd)))), (h_bnd, .inl (cy_bnd, 256, .inl f_bnd)), (h_td, .inr (5, (mo8 vq23 (.ref h_var)))), (h_var, .inl (cy_var, 300, .inl f_var))]) [0, 1, 3, 4] rfl
          have hDc := hD.sub (ws' := [(h_bd, .inr (1, (mo9 vq22 (.ref h_td) (.ref h_bnd)))), (h_bnd, .inl (cy_bnd, 256, .inl f_bnd)), (h_td, .inr (5, (mo8 vq23 (.ref h_var)))), (h_var, .inl (cy_var, 300, .inl f_var))]) [0, 1, 3, 4] (by decide) rfl
          have hKc := hK.sub (tys' := [(cy_bnd, .int), (cy_var, .int)]) [0, 2] rfl
          have hFc := va_free (wc := [(h_bd, .inr (1, (mo9 vq22 (.ref h_td) (.ref h_bnd)))), (h_bnd, .inl (cy_bnd, 256, .inl f_bnd)), (h_td, .inr (5, (mo8 vq23 (.ref h_var)))), (h_var, .inl (cy_var, 300, .inl f_var))]) hD hS hA [0, 1, 3, 4] rfl
          refine va_calli (va_runV (As := [.int z21]) (rest := []) ⟨hx, hb, hml, hown, hts⟩ (c_X1_bare_a l dC dI H.size h_bd h_bnd h_td h_var vq22 cy_bnd f_bnd vq23 cy_var f_var z21 hf_bnd hf_var (by omega) (by omega) hn_bhz) (cwV 1 hts (gv hT w_m_X1_60 w_instanceMethod_X1_bare ws_sel_X1_bare w_ini_X1 w_code_X1_bare) rfl rfl rfl (by decide +kernel) ⟨(Nat.le_of_ble_eq_true rfl), (Nat.le_of_ble_eq_true rfl)⟩) ⟨pre_blind, va_recv hK hP (ci := 1) (q0 := 0) rfl rfl, pre_of hPc hKc hDc hN⟩ rfl rfl hl.1 rfl (lv_room (Nat.le_of_ble_eq_true rfl)) dX1_parts_63 ⟨(Nat.le_of_ble_eq_true rfl), (Nat.le_of_ble_eq_true rfl)⟩) hS (fun q _ h => hFc q h) hFc (fun r24 u t H locs ht hvm hq hB hz1 hk1 hS9 => ?_)
          obtain ⟨hP1, hD1⟩ := hB
          rw [ht] at hP1
          obtain ⟨hP9, hD9⟩ := va_join (wr := [(h_hol, .inl (cy_hol, 2048, .inl f5)), (h_trm, .inl (cy_trm, 300, .inl f_trm)), (h_ter, .inl (cy_ter, 900, .inl f_ter))]) (w1 := [(h_bd, .inr (1, (mo9 vq22 (.ref h_td) (.ref h_bnd)))), (h_bnd, .inl (cy_bnd, 256, .inl f_bnd)), (h_td, .inr (5, (mo8 vq23 (.ref h_var)))), (h_var, .inl (cy_var, 300, .inl f_var))]) hP hD [0, 1, 3, 4] [2, 5, 6] rfl rfl (by decide) (by decide) hk1 hFc hP1 hD1
          clear hP hD hS hPc hDc hKc hFc hP1 hD1 hk1 hz1 ht hvm
          have hP : va_P (dC, dI) cls [(h_hol, .inl (cy_hol, 2048, .inl f5)), (h_trm, .inl (cy_trm, 300, .inl f_trm)), (h_ter, .inl (cy_ter, 900, .inl f_ter)), (h_bd, .inr (1, (mo9 vq22 (.ref h_td) (.ref h_bnd)))), (h_bnd, .inl (cy_bnd, 256, .inl f_bnd)), (h_td, .inr (5, (mo8 vq23 (.ref h_var)))), (h_var, .inl (cy_var, 300, .inl f_var))] H := hP9
          have hD : va_D A [(h_hol, .inl (cy_hol, 2048, .inl f5)), (h_trm, .inl (cy_trm, 300, .inl f_trm)), (h_ter, .inl (cy_ter, 900, .inl f_ter)), (h_bd, .inr (1, (mo9 vq22 (.ref h_td) (.ref h_bnd)))), (h_bnd, .inl (cy_bnd, 256, .inl f_bnd)), (h_td, .inr (5, (mo8 vq23 (.ref h_var)))), (h_var, .inl (cy_var, 300, .inl f_var))] := hD9
          have hS := hS9
          clear hP9 hD9 hS9
          rw [evq22] at hP hD
          replace hP : va_P (dC, dI) cls [(h_hol, .inl (cy_hol, 2048, .inl f5)), (h_trm, .inl (cy_trm, 300, .inl f_trm)), (h_ter, .inl (cy_ter, 900, .inl f_ter)), (h_bd, .inr (1, (mo19 v_bd (.ref h_td) (.ref h_bnd) (.ref h_hol)))), (h_bnd, .inl (cy_bnd, 256, .inl f_bnd)), (h_td, .inr (5, (mo8 vq23 (.ref h_var)))), (h_var, .inl (cy_var, 300, .inl f_var))] H := hP
          replace hD : va_D A [(h_hol, .inl (cy_hol, 2048, .inl f5)), (h_trm, .inl (cy_trm, 300, .inl f_trm)), (h_ter, .inl (cy_ter, 900, .inl f_ter)), (h_bd, .inr (1, (mo19 v_bd (.ref h_td) (.ref h_bnd) (.ref h_hol)))), (h_bnd, .inl (cy_bnd, 256, .inl f_bnd)), (h_td, .inr (5, (mo8 vq23 (.ref h_var)))), (h_var, .inl (cy_var, 300, .inl f_var))] := hD
          clear evq22 
          rw [evq23] at hP hD
          replace hP : va_P (dC, dI) cls [(h_hol, .inl (cy_hol, 2048, .inl f5)), (h_trm, .inl (cy_trm, 300, .inl f_trm)), (h_ter, .inl (cy_ter, 900, .inl f_ter)), (h_bd, .inr (1, (mo19 v_bd (.ref h_td) (.ref h_bnd) (.ref h_hol)))), (h_bnd, .inl (cy_bnd, 256, .inl f_bnd)), (h_td, .inr (5, (mo18 v_td (.ref h_var) (.ref h_trm) (.ref h_ter)))), (h_var, .inl (cy_var, 300, .inl f_var))] H := hP
          replace hD : va_D A [(h_hol, .inl (cy_hol, 2048, .inl f5)), (h_trm, .inl (cy_trm, 300, .inl f_trm)), (h_ter, .inl (cy_ter, 900, .inl f_ter)), (h_bd, .inr (1, (mo19 v_bd (.ref h_td) (.ref h_bnd) (.ref h_hol)))), (h_bnd, .inl (cy_bnd, 256, .inl f_bnd)), (h_td, .inr (5, (mo18 v_td (.ref h_var) (.ref h_trm) (.ref h_ter)))), (h_var, .inl (cy_var, 300, .inl f_var))] := hD
          clear evq23 
          obtain ⟨k25, k26⟩ := hq
          replace k25 : 0 ≤ (r24).toInt ∧ (r24).toInt ≤ 9599 := k25
          replace k26 : ((r24)).toInt = ((z21)).toInt := k26
          refine lv_istore (lv' := [(6, .int r24), (3, .int z20), (4, .int z19), (0, .ref h_bd), (1, .int p1), (2, .int 300), (5, .int x4)]) hx hb dX1_parts_66 hl (by decide) rfl (fun ls hl => ?_)
          refine lv_iload hx hb dX1_parts_68 (lv_at hl 0 rfl) ?_
          refine lv_sipush (v := 300) hx hb dX1_parts_70 (by decide) ?_
          refine lv_irem hx hb dX1_parts_73 (by decide) ?_
          refine lv_topi (fun z27 ez27 => ?_)
          have tz27 : (z27).toInt = (r24).toInt % 300 := by rw [ez27]; exact i_rem rfl (by decide) (by omega)
          refine lv_istore (lv' := [(7, .int z27), (6, .int r24), (3, .int z20), (4, .int z19), (0, .ref h_bd), (1, .int p1), (2, .int 300), (5, .int x4)]) hx hb dX1_parts_74 hl (by decide) rfl (fun ls hl => ?_)
          obtain ⟨x9, ex9⟩ : ∃ y : Nat, y = (z27).toInt.toNat := ⟨_, rfl⟩
          have ez9 : ((z21).toInt - 9000).toNat = x9 := by omega
          rw [ez9] at sp9 kb3
          have tz9 : 0 ≤ ((CVW nmx f_var f_trm f_ter)).1 x9 → ((CVW nmx f_var f_trm f_ter)).2.2.1 x9 = 0 := fun h9 => hn_tz x9 h9
          obtain ⟨sa1, sa2, sa3⟩ := szx_any kb3 tz9
          obtain ⟨N9, eN9⟩ : ∃ t : Int, t = (z19).toInt := ⟨_, rfl⟩
          obtain ⟨T9, eT9⟩ : ∃ t : Int, t = smX (CVW nmx f_var f_trm f_ter) 9000 gh6 f5 (z19).toInt.toNat := ⟨_, rfl⟩
          obtain ⟨M9, eM9⟩ : ∃ t : Int, t = ((CVW nmx f_var f_trm f_ter)).2.2.1 x9 := ⟨_, rfl⟩
          rw [← eM9] at sa1 sa2 sa3
          rw [← eT9, sa1] at sp9
          have sf0 : sfX (CVW nmx f_var f_trm f_ter) d9 x9 (Int.toNat ((0 : Int32)).toInt) = 0 := by rw [show ((0 : Int32)).toInt = 0 by decide]; rfl
          have tm9 : (f_trm (Int32.toNatClampNeg z27)).toInt = M9 := by rw [eM9, clamp_nat (i := z27) (by omega), ← ex9]; rfl
          refine lv_iconst (v := 0) hx hb dX1_parts_76 (by decide) ?_
          refine lv_istore (lv' := [(8, .int 0), (7, .int z27), (6, .int r24), (3, .int z20), (4, .int z19), (0, .ref h_bd), (1, .int p1), (2, .int 300), (5, .int x4)]) hx hb dX1_parts_77 hl (by decide) rfl (fun ls hl => ?_)
          have lp32 : ∀ (n : Nat) (x28 : Int32) (x29 : Int32) (f30 : Nat → Int32) (gh31 : Nat → Nat) (H : Heap) (locs : List Loc) (ls : Array Slot), (0 ≤ (x28).toInt ∧ (x28).toInt ≤ 2048) → (0 ≤ (x29).toInt ∧ (x29).toInt ≤ 3) → (Rg 0 9599 f30) → ((x28).toInt = N9 + (x29).toInt) → ((x29).toInt ≤ M9) → (smX (CVW nmx f_var f_trm f_ter) 9000 gh31 f30 (Int.toNat ((x28).toInt)) = T9 + sfX (CVW nmx f_var f_trm f_ter) d9 x9 (Int.toNat ((x29).toInt))) → (OKX (CVW nmx f_var f_trm f_ter) 9000 gh31 f30 (x28).toInt) → (3 - (x29).toInt).toNat + 1 ≤ n → va_P (dC, dI) cls [(h_hol, .inl (cy_hol, 2048, .inl f30)), (h_trm, .inl (cy_trm, 300, .inl f_trm)), (h_ter, .inl (cy_ter, 900, .inl f_ter)), (h_bd, .inr (1, (mo19 v_bd (.ref h_td) (.ref h_bnd) (.ref h_hol)))), (h_bnd, .inl (cy_bnd, 256, .inl f_bnd)), (h_td, .inr (5, (mo18 v_td (.ref h_var) (.ref h_trm) (.ref h_ter)))), (h_var, .inl (cy_var, 300, .inl f_var))] H → va_D A [(h_hol, .inl (cy_hol, 2048, .inl f30)), (h_trm, .inl (cy_trm, 300, .inl f_trm)), (h_ter, .inl (cy_ter, 900, .inl f_ter)), (h_bd, .inr (1, (mo19 v_bd (.ref h_td) (.ref h_bnd) (.ref h_hol)))), (h_bnd, .inl (cy_bnd, 256, .inl f_bnd)), (h_td, .inr (5, (mo18 v_td (.ref h_var) (.ref h_trm) (.ref h_ter)))), (h_var, .inl (cy_var, 300, .inl f_var))] → va_S A s.heap H locs → lv_has ls 9 [(0, .ref h_bd), (1, .int p1), (2, .int 300), (3, .int z20), (4, .int x28), (5, .int x4), (6, .int r24), (7, .int z27), (8, .int x29)] → W p l e ({ frames := 1, cells := 0, slots := 0, locals := 25 } : Room) s m ([.ref h_bd, .int p1, .int 300] : List Value).toArray below meth c H locs 0 0 (MQ below (va_Qi (fun (r : Int32) (u : (Nat → Int32)) => (Rg 0 9599 u) ∧ (0 ≤ r.toInt ∧ r.toInt ≤ 300) ∧ ((r).toInt = szX (CVW nmx f_var f_trm f_ter) 7 ((p1).toInt - 9000).toNat)) (fun (u : (Nat → Int32)) (t : State) => va_P (dC, dI) cls [(h_bd, .inr (1, (mo19 v_bd (.ref h_td) (.ref h_bnd) (.ref h_hol)))), (h_bnd, .inl (cy_bnd, 256, .inl f_bnd)), (h_hol, .inl (cy_hol, 2048, .inl u)), (h_td, .inr (5, (mo18 v_td (.ref h_var) (.ref h_trm) (.ref h_ter)))), (h_var, .inl (cy_var, 300, .inl f_var)), (h_trm, .inl (cy_trm, 300, .inl f_trm)), (h_ter, .inl (cy_ter, 900, .inl f_ter))] t.heap ∧ va_D A [(h_bd, .inr (1, (mo19 v_bd (.ref h_td) (.ref h_bnd) (.ref h_hol)))), (h_bnd, .inl (cy_bnd, 256, .inl f_bnd)), (h_hol, .inl (cy_hol, 2048, .inl u)), (h_td, .inr (5, (mo18 v_td (.ref h_var) (.ref h_trm) (.ref h_ter)))), (h_var, .inl (cy_var, 300, .inl f_var)), (h_trm, .inl (cy_trm, 300, .inl f_trm)), (h_ter, .inl (cy_ter, 900, .inl f_ter))]) A) ([.ref h_bd, .int p1, .int 300] : List Value).toArray s 0 0 A) (F0 m 79 ls []) := by
            clear hP hD hS hl
            intro n
            induction n with
            | zero => intro x28 x29 f30 gh31 H locs ls klp32_0 klp32_1 hf30 klp32_3 klp32_4 klp32_5 klp32_6 hm hP hD hS hl; exact False.elim (by omega)
            | succ n ih => 
              intro x28 x29 f30 gh31 H locs ls klp32_0 klp32_1 hf30 klp32_3 klp32_4 klp32_5 klp32_6 hm hP hD hS hl
              have ih33 := ih
              clear ih
              refine lv_iload hx hb dX1_parts_79 (lv_at hl 8 rfl) ?_
              refine lv_aload_n hx hb dX1_parts_81 rfl (lv_at hl 0 rfl) ?_
              refine va_get (D := (dC, dI)) (ci := 1) (v := .ref h_td) (C := RX1) (T := TX1) (N := 13) hx hb hw iwX1 hown hK hP 3 rfl rfl 0 (by decide) (hw _ w_f_X1_36) (fun _ h9 => h9) rfl dX1_parts_82 ?_
              refine va_getN (D := (dC, dI)) (ci := 5) (v := .ref h_trm) (C := RX8) (T := TX8) (N := 10) (host := "OppositePairs") hx hb hw iwX8 hown hK hP 5 rfl rfl 2 (by decide) (hN.use n_f_X1_88 rfl) (fun _ h9 => h9) rfl dX1_parts_85 ?_
              refine lv_iload hx hb dX1_parts_88 (lv_at hl 7 rfl) ?_
              refine va_iald hx hb hK hP 1 3 rfl rfl (i := z27) (vp_in_iff.mpr (by omega)) dX1_parts_90 ?_
              refine lv_topi (fun z34 ez34 => ?_)
              have rz34 : 0 ≤ (z34).toInt ∧ (z34).toInt ≤ 3 := by rw [ez34]; exact hf_trm _
              have tnz34 : (z34).toInt = M9 := by rw [ez34]; exact tm9
              refine lv_icmp_ge (tgt := 131) hx hb dX1_parts_91 (by decide) (fun c35 => ?_) (fun c35 => ?_)
              · have kc35 := (cv_le (rfl : (z34).toInt = (z34).toInt) (rfl : (x29).toInt = (x29).toInt)).mp c35
                have ey9 : sfX (CVW nmx f_var f_trm f_ter) d9 x9 (Int.toNat (x29).toInt) = sfX (CVW nmx f_var f_trm f_ter) d9 x9 (Int.toNat M9) := by rw [show Int.toNat (x29).toInt = Int.toNat M9 by omega]
                obtain ⟨z36, ez36⟩ : ∃ y : Int32, y = x4 + 1 := ⟨_, rfl⟩
                have tz36 : (z36).toInt = (x4).toInt + 1 := by rw [ez36]; exact i_add rfl (by decide) (by omega)
                refine lv_iinc (v := z36) (lv' := [(5, .int z36), (0, .ref h_bd), (1, .int p1), (2, .int 300), (3, .int z20), (4, .int x28), (6, .int r24), (7, .int z27), (8, .int x29)]) hx hb dX1_parts_131 hl (k := 5) rfl (by rw [ez36]; rfl) (by decide) rfl (fun ls hl => ?_)
                refine lv_goto (tgt := 15) hx hb dX1_parts_134 (by decide) ?_
                replace hP : va_P (dC, dI) cls [(h_bd, .inr (1, (mo19 v_bd (.ref h_td) (.ref h_bnd) (.ref h_hol)))), (h_bnd, .inl (cy_bnd, 256, .inl f_bnd)), (h_hol, .inl (cy_hol, 2048, .inl f30)), (h_td, .inr (5, (mo18 v_td (.ref h_var) (.ref h_trm) (.ref h_ter)))), (h_var, .inl (cy_var, 300, .inl f_var)), (h_trm, .inl (cy_trm, 300, .inl f_trm)), (h_ter, .inl (cy_ter, 900, .inl f_ter))] H := hP.sub [3, 4, 0, 5, 6, 1, 2] rfl
                replace hD : va_D A [(h_bd, .inr (1, (mo19 v_bd (.ref h_td) (.ref h_bnd) (.ref h_hol)))), (h_bnd, .inl (cy_bnd, 256, .inl f_bnd)), (h_hol, .inl (cy_hol, 2048, .inl f30)), (h_td, .inr (5, (mo18 v_td (.ref h_var) (.ref h_trm) (.ref h_ter)))), (h_var, .inl (cy_var, 300, .inl f_var)), (h_trm, .inl (cy_trm, 300, .inl f_trm)), (h_ter, .inl (cy_ter, 900, .inl f_ter))] := hD.sub [3, 4, 0, 5, 6, 1, 2] (by decide) rfl
                exact ih8 (z20) (x28) (z36) (f30) (gh31) _ _ _ (by omega) (by first | exact klp32_0 | omega) (by omega) hf30 (by omega) (by omega) (okx_le klp32_6 (by omega)) (by omega) hP hD hS (lv_sub hl [1, 2, 3, 4, 5, 0] rfl)
              · have kc35 := (not_congr (cv_le (rfl : (z34).toInt = (z34).toInt) (rfl : (x29).toInt = (x29).toInt))).mp c35
                refine lv_aload_n hx hb dX1_parts_94 rfl (lv_at hl 0 rfl) ?_
                refine va_get (D := (dC, dI)) (ci := 1) (v := .ref h_hol) (C := RX1) (T := TX1) (N := 13) hx hb hw iwX1 hown hK hP 3 rfl rfl 10 (by decide) (hw _ w_f_X1_30) (fun _ h9 => h9) rfl dX1_parts_95 ?_
                refine lv_iload hx hb dX1_parts_98 (lv_at hl 4 rfl) ?_
                obtain ⟨z37, ez37⟩ : ∃ y : Int32, y = x28 + 1 := ⟨_, rfl⟩
                have tz37 : (z37).toInt = (x28).toInt + 1 := by rw [ez37]; exact i_add rfl (by decide) (by omega)
                refine lv_iinc (v := z37) (lv' := [(4, .int z37), (0, .ref h_bd), (1, .int p1), (2, .int 300), (3, .int z20), (5, .int x4), (6, .int r24), (7, .int z27), (8, .int x29)]) hx hb dX1_parts_100 hl (k := 4) rfl (by rw [ez37]; rfl) (by decide) rfl (fun ls hl => ?_)
                refine lv_iload hx hb dX1_parts_103 (lv_at hl 6 rfl) ?_
                refine lv_iload hx hb dX1_parts_105 (lv_at hl 7 rfl) ?_
                refine lv_isub hx hb dX1_parts_107 ?_
                refine lv_topi (fun z38 ez38 => ?_)
                have tz38 : (z38).toInt = (r24).toInt - (z27).toInt := by rw [ez38]; exact i_sub rfl rfl (by omega)
                have sz38 : 0 ≤ (z38).toInt ∧ (z38).toInt ≤ 9300 := by omega
                refine lv_aload_n hx hb dX1_parts_108 rfl (lv_at hl 1 rfl) ?_
                refine va_get (D := (dC, dI)) (ci := 1) (v := .ref h_td) (C := RX1) (T := TX1) (N := 13) hx hb hw iwX1 hown hK hP 3 rfl rfl 0 (by decide) (hw _ w_f_X1_36) (fun _ h9 => h9) rfl dX1_parts_109 ?_
                refine va_getN (D := (dC, dI)) (ci := 5) (v := .ref h_ter) (C := RX8) (T := TX8) (N := 10) (host := "OppositePairs") hx hb hw iwX8 hown hK hP 5 rfl rfl 3 (by decide) (hN.use n_f_X1_91 rfl) (fun _ h9 => h9) rfl dX1_parts_112 ?_
                refine lv_iload hx hb dX1_parts_115 (lv_at hl 7 rfl) ?_
                refine lv_iconst (v := 3) hx hb dX1_parts_117 (by decide) ?_
                refine lv_imul hx hb dX1_parts_118 ?_
                refine lv_topi (fun z39 ez39 => ?_)
                have tz39 : (z39).toInt = (z27).toInt * 3 := by rw [ez39]; exact i_mul rfl (by decide) (by omega)
                refine lv_iload hx hb dX1_parts_119 (lv_at hl 8 rfl) ?_
                refine lv_iadd hx hb dX1_parts_121 ?_
                refine lv_topi (fun z40 ez40 => ?_)
                have tz40 : (z40).toInt = (z39).toInt + (x29).toInt := by rw [ez40]; exact i_add rfl rfl (by omega)
                refine va_iald hx hb hK hP 2 4 rfl rfl (i := z40) (vp_in_iff.mpr (by omega)) dX1_parts_122 ?_
                refine lv_topi (fun z41 ez41 => ?_)
                have rz41 : 0 ≤ (z41).toInt ∧ (z41).toInt ≤ 299 := by rw [ez41]; exact hf_ter _
                have ci9 : Int32.toNatClampNeg z40 = 3 * x9 + (Int.toNat (x29).toInt) := by rw [clamp_nat (i := z40) (by omega)]; omega
                have ch9 : Int32.toNatClampNeg z41 = ((CVW nmx f_var f_trm f_ter)).2.2.2 x9 (Int.toNat (x29).toInt) := by rw [ez41, ci9]; rfl
                have cz9 := clamp_toInt (i := z41) (by omega)
                refine lv_iadd hx hb dX1_parts_123 ?_
                refine lv_topi (fun z42 ez42 => ?_)
                have tz42 : (z42).toInt = (z38).toInt + (z41).toInt := by rw [ez42]; exact i_add rfl rfl (by omega)
                refine va_iast hx hb hK hP hD hS 0 1 rfl rfl (i := x28) (x := z42) (vp_in_iff.mpr (by omega)) dX1_parts_124 (fun H locs hP9 hD9 hS9 => ?_)
                obtain ⟨f43, ef43⟩ : ∃ g : Nat → Int32, g = upd f30 (Int32.toNatClampNeg x28) z42 := ⟨_, rfl⟩
                clear hP hD hS
                have hP : va_P (dC, dI) cls [(h_hol, .inl (cy_hol, 2048, .inl f43)), (h_trm, .inl (cy_trm, 300, .inl f_trm)), (h_ter, .inl (cy_ter, 900, .inl f_ter)), (h_bd, .inr (1, (mo19 v_bd (.ref h_td) (.ref h_bnd) (.ref h_hol)))), (h_bnd, .inl (cy_bnd, 256, .inl f_bnd)), (h_td, .inr (5, (mo18 v_td (.ref h_var) (.ref h_trm) (.ref h_ter)))), (h_var, .inl (cy_var, 300, .inl f_var))] H := by rw [ef43]; exact hP9
                have hD : va_D A [(h_hol, .inl (cy_hol, 2048, .inl f43)), (h_trm, .inl (cy_trm, 300, .inl f_trm)), (h_ter, .inl (cy_ter, 900, .inl f_ter)), (h_bd, .inr (1, (mo19 v_bd (.ref h_td) (.ref h_bnd) (.ref h_hol)))), (h_bnd, .inl (cy_bnd, 256, .inl f_bnd)), (h_td, .inr (5, (mo18 v_td (.ref h_var) (.ref h_trm) (.ref h_ter)))), (h_var, .inl (cy_var, 300, .inl f_var))] := by rw [ef43]; exact hD9
                have hS := hS9
                clear hP9 hD9 hS9
                have hf43 : Rg 0 9599 f43 := by rw [ef43]; exact rg_upd hf30 (by omega)
                have vx9 : ((z42).toInt - 9000).toNat = ((CVW nmx f_var f_trm f_ter)).2.2.2 x9 (Int.toNat (x29).toInt) := by rw [← ch9]; omega
                have wc9 : WFX (CVW nmx f_var f_trm f_ter) d9 ((z42).toInt - 9000).toNat := by rw [vx9]; exact wfx_any kb3 tz9 (by omega)
                have ok44 := okx_push (n := (x28).toInt) (okx_le klp32_6 (by omega)) rfl (by omega) (by omega) wc9 ef43
                have ok44s := smx_push (V := (CVW nmx f_var f_trm f_ter)) (b := 9000) (n := (x28).toInt) (m := (x28).toInt + 1) (ds := gh31) (d := d9) rfl (by omega) ef43 rfl
                rw [vx9] at ok44s
                have sf9 : sfX (CVW nmx f_var f_trm f_ter) d9 x9 (Int.toNat ((x29).toInt + 1)) = sfX (CVW nmx f_var f_trm f_ter) d9 x9 (Int.toNat (x29).toInt) + szX (CVW nmx f_var f_trm f_ter) d9 (((CVW nmx f_var f_trm f_ter)).2.2.2 x9 (Int.toNat (x29).toInt)) := by have e9 : Int.toNat ((x29).toInt + 1) = Int.toNat (x29).toInt + 1 := (by omega); rw [e9]; rfl
                obtain ⟨z45, ez45⟩ : ∃ y : Int32, y = x29 + 1 := ⟨_, rfl⟩
                have tz45 : (z45).toInt = (x29).toInt + 1 := by rw [ez45]; exact i_add rfl (by decide) (by omega)
                refine lv_iinc (v := z45) (lv' := [(8, .int z45), (4, .int z37), (0, .ref h_bd), (1, .int p1), (2, .int 300), (3, .int z20), (5, .int x4), (6, .int r24), (7, .int z27)]) hx hb dX1_parts_125 hl (k := 8) rfl (by rw [ez45]; rfl) (by decide) rfl (fun ls hl => ?_)
                refine lv_goto (tgt := 79) hx hb dX1_parts_128 (by decide) ?_
                rw [← tz37] at ok44s
                rw [← tz45] at sf9
                exact ih33 (z37) (z45) (f43) ((fun j => if j = Int32.toNatClampNeg x28 then d9 else gh31 j)) _ _ _ (by omega) (by omega) hf43 (by omega) (by omega) (by omega) (okx_le ok44 (by omega)) (by omega) hP hD hS (lv_sub hl [2, 3, 4, 5, 1, 6, 7, 8, 0] rfl)
          have cst0 : (0 : Int32).toInt = 0 := by decide
          exact lp32 _ (z19) (0) (f5) (gh6) _ _ _ (by omega) (by decide) hf5 (by omega) (by omega) (by omega) (okx_le klp7_6 (by omega)) (Nat.le_refl _) hP hD hS (lv_sub hl [5, 6, 7, 3, 4, 8, 2, 1, 0] rfl)
  have cst0 : (0 : Int32).toInt = 0 := by decide
  have cst1 : (1 : Int32).toInt = 1 := by decide
  exact lp7 _ (0) (1) (0) (f1) ((fun _ => 7)) _ _ _ (by decide) (by decide) (by decide) hf1 (by omega) (by omega) (okx_le ok0 (by omega)) (Nat.le_refl _) hP hD hS (lv_sub hl [3, 4, 5, 2, 1, 0] rfl)

