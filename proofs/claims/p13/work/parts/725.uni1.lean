set_option maxHeartbeats 8000000 in
set_option maxRecDepth 100000 in
theorem c_X1_bare_x (l : Launch) (dC : Nat → ClassId) (dI : Nat → Nat → Nat) (sz : Nat) (h_bd : Nat) (h_bnd : Nat) (h_td : Nat) (h_var : Nat) (v_bd : Nat → Value) (cy_bnd : ClassId) (f_bnd : Nat → Int32) (v_td : Nat → Value) (cy_var : ClassId) (f_var : Nat → Int32) (p1 : Int32) (g : GVT) (hf_bnd : Rg 0 9600 f_bnd) (hf_var : Rg (-1) 7 f_var) (q0 : 0 ≤ (p1).toInt ∧ (p1).toInt ≤ 9599) (hn_gvv : GVV g f_var) : Met l yX1_bare (Ws yX1_bare cX1_bare 6 (some .int)) (({ frames := 0, cells := 0, slots := 0, locals := 0 } : Room)) (PRE (dC, dI) cls [(cy_bnd, .int), (cy_var, .int)] [(h_bd, .inr (1, (mo9 v_bd (.ref h_td) (.ref h_bnd)))), (h_bnd, .inl (cy_bnd, 256, .inl f_bnd)), (h_td, .inr (5, (mo8 v_td (.ref h_var)))), (h_var, .inl (cy_var, 300, .inl f_var))] sz [.ref h_bd, .int p1]) (va_Qi (fun (r : Int32) (_ : Unit) => (0 ≤ r.toInt ∧ r.toInt ≤ 9599) ∧ (BRX g (BDV f_bnd) p1 r)) (fun (_ : Unit) (t : State) => va_P (dC, dI) cls [(h_bd, .inr (1, (mo9 v_bd (.ref h_td) (.ref h_bnd)))), (h_bnd, .inl (cy_bnd, 256, .inl f_bnd)), (h_td, .inr (5, (mo8 v_td (.ref h_var)))), (h_var, .inl (cy_var, 300, .inl f_var))] t.heap ∧ va_D (va_A [(h_bd, .inr (1, (mo9 v_bd (.ref h_td) (.ref h_bnd)))), (h_bnd, .inl (cy_bnd, 256, .inl f_bnd)), (h_td, .inr (5, (mo8 v_td (.ref h_var)))), (h_var, .inl (cy_var, 300, .inl f_var))] sz) [(h_bd, .inr (1, (mo9 v_bd (.ref h_td) (.ref h_bnd)))), (h_bnd, .inl (cy_bnd, 256, .inl f_bnd)), (h_td, .inr (5, (mo8 v_td (.ref h_var)))), (h_var, .inl (cy_var, 300, .inl f_var))]) (va_A [(h_bd, .inr (1, (mo9 v_bd (.ref h_td) (.ref h_bnd)))), (h_bnd, .inl (cy_bnd, 256, .inl f_bnd)), (h_td, .inr (5, (mo8 v_td (.ref h_var)))), (h_var, .inl (cy_var, 300, .inl f_var))] sz)) 0 0 (va_A [(h_bd, .inr (1, (mo9 v_bd (.ref h_td) (.ref h_bnd)))), (h_bnd, .inl (cy_bnd, 256, .inl f_bnd)), (h_td, .inr (5, (mo8 v_td (.ref h_var)))), (h_var, .inl (cy_var, 300, .inl f_var))] sz) := by
  refine Met.ofW (cc := cX1_bare) (maxL := 6) (ret := (some .int)) (by decide) rfl ?_
  intro p e s m args below meth c s₁ B hml hv
  obtain ⟨rfl, hsz, hP, hK, hD0, hN⟩ := hv
  have hx := B.exec
  have hb := B.bytes
  have hr := B.returns
  have hts := atoms_spec (ws := Ws yX1_bare cX1_bare 6 (some .int)) B.pre
  have hT : ∀ w ∈ WALL, w ∈ Ws yX1_bare cX1_bare 6 (some .int) := fun w h => List.mem_cons_of_mem _ h
  have hw := fun w (h : w ∈ WALL) => hts w (hT w h)
  have hown : s.vm.findClass RX1 = some m.cls := findClass_of_methodNamed B.named
  have hlocks := B.notSynchronized
  subst hsz
  have hD := hD0.self (sz := s.heap.size)
  generalize hAe : va_A [(h_bd, .inr (1, (mo9 v_bd (.ref h_td) (.ref h_bnd)))), (h_bnd, .inl (cy_bnd, 256, .inl f_bnd)), (h_td, .inr (5, (mo8 v_td (.ref h_var)))), (h_var, .inl (cy_var, 300, .inl f_var))] s.heap.size = A at hD ⊢
  have hA : ∀ q : Nat, s.heap.size ≤ q → A q := fun q h => by rw [← hAe]; exact Or.inr h
  have hS : va_S A s.heap s.heap [] := va_S.rf
  have hl := lv_entry ([.ref h_bd, .int p1]) (n := 6) (Nat.le_of_ble_eq_true rfl)
  rw [lg_entry_eq]
  generalize (lg_sl ([.ref h_bd, .int p1]) ++ List.replicate (6 - (lg_sl ([.ref h_bd, .int p1])).length) Slot.unset).toArray = ls at hl ⊢
  have hl : lv_has ls 6 [(0, .ref h_bd), (1, .int p1)] := hl
  refine lv_iload_n hx hb dX1_bare_0 rfl (lv_at hl 1 rfl) ?_
  refine lv_istore_n (lv' := [(2, .int p1), (0, .ref h_bd), (1, .int p1)]) hx hb dX1_bare_1 rfl hl (by decide) rfl (fun ls hl => ?_)
  refine lv_iconst (v := 0) hx hb dX1_bare_2 (by decide) ?_
  refine lv_istore_n (lv' := [(3, .int 0), (2, .int p1), (0, .ref h_bd), (1, .int p1)]) hx hb dX1_bare_3 rfl hl (by decide) rfl (fun ls hl => ?_)
  have lp3 : ∀ (n : Nat) (x1 : Int32) (x2 : Int32) (H : Heap) (locs : List Loc) (ls : Array Slot), (0 ≤ (x1).toInt ∧ (x1).toInt ≤ 9599) → (0 ≤ (x2).toInt ∧ (x2).toInt ≤ 256) → (((x1).toInt).toNat = brF g (BDV f_bnd) (Int.toNat ((x2).toInt)) (p1).toInt.toNat) → (256 - (x2).toInt).toNat + 1 ≤ n → va_P (dC, dI) cls [(h_bd, .inr (1, (mo9 v_bd (.ref h_td) (.ref h_bnd)))), (h_bnd, .inl (cy_bnd, 256, .inl f_bnd)), (h_td, .inr (5, (mo8 v_td (.ref h_var)))), (h_var, .inl (cy_var, 300, .inl f_var))] H → va_D A [(h_bd, .inr (1, (mo9 v_bd (.ref h_td) (.ref h_bnd)))), (h_bnd, .inl (cy_bnd, 256, .inl f_bnd)), (h_td, .inr (5, (mo8 v_td (.ref h_var)))), (h_var, .inl (cy_var, 300, .inl f_var))] → va_S A s.heap H locs → lv_has ls 6 [(0, .ref h_bd), (1, .int p1), (2, .int x1), (3, .int x2)] → W p l e ({ frames := 0, cells := 0, slots := 0, locals := 0 } : Room) s m ([.ref h_bd, .int p1] : List Value).toArray below meth c H locs 0 0 (MQ below (va_Qi (fun (r : Int32) (_ : Unit) => (0 ≤ r.toInt ∧ r.toInt ≤ 9599) ∧ (BRX g (BDV f_bnd) p1 r)) (fun (_ : Unit) (t : State) => va_P (dC, dI) cls [(h_bd, .inr (1, (mo9 v_bd (.ref h_td) (.ref h_bnd)))), (h_bnd, .inl (cy_bnd, 256, .inl f_bnd)), (h_td, .inr (5, (mo8 v_td (.ref h_var)))), (h_var, .inl (cy_var, 300, .inl f_var))] t.heap ∧ va_D A [(h_bd, .inr (1, (mo9 v_bd (.ref h_td) (.ref h_bnd)))), (h_bnd, .inl (cy_bnd, 256, .inl f_bnd)), (h_td, .inr (5, (mo8 v_td (.ref h_var)))), (h_var, .inl (cy_var, 300, .inl f_var))]) A) ([.ref h_bd, .int p1] : List Value).toArray s 0 0 A) (F0 m 4 ls []) := by
    clear hP hD hS hl
    intro n
    induction n with
    | zero => intro x1 x2 H locs ls klp3_0 klp3_1 klp3_2 hm hP hD hS hl; exact False.elim (by omega)
    | succ n ih => 
      intro x1 x2 H locs ls klp3_0 klp3_1 klp3_2 hm hP hD hS hl
      have ih4 := ih
      clear ih
      refine lv_iload_n hx hb dX1_bare_4 rfl (lv_at hl 3 rfl) ?_
      refine lv_sipush (v := 256) hx hb dX1_bare_5 (by decide) ?_
      refine lv_icmp_ge (tgt := 70) hx hb dX1_bare_8 (by decide) (fun c5 => ?_) (fun c5 => ?_)
      · have kc5 := (cv_le (by decide : (256 : Int32).toInt = 256) (rfl : (x2).toInt = (x2).toInt)).mp c5
        refine lv_iload_n hx hb dX1_bare_70 rfl (lv_at hl 2 rfl) ?_
        refine W.widen (k := 0) (n := 0) (Nat.le_of_ble_eq_true rfl) (Nat.le_of_ble_eq_true rfl) ?_
        have w6 : 0 ≤ (x1 : Int32).toInt ∧ (x1 : Int32).toInt ≤ 9599 := by first | exact klp3_0 | omega
        have w7 : BRX g (BDV f_bnd) p1 (x1 : Int32) := (brx_end klp3_2 (by omega) (Or.inl (by omega)))
        exact W.iret (v := x1) hx hb hr (fun t ht hW => ⟨⟨x1, (), rfl, ⟨w6, w7⟩, by rw [ht]; exact hP, hD⟩, hS.F ht⟩) hS.2.2 dX1_bare_71
      · have kc5 := (not_congr (cv_le (by decide : (256 : Int32).toInt = 256) (rfl : (x2).toInt = (x2).toInt))).mp c5
        refine lv_aload_n hx hb dX1_bare_11 rfl (lv_at hl 0 rfl) ?_
        refine va_get (D := (dC, dI)) (ci := 1) (v := .ref h_td) (C := RX1) (T := TX1) (N := 13) hx hb hw iwX1 hown hK hP 0 rfl rfl 0 (by decide) (hw _ w_f_X1_36) (fun _ h9 => h9) rfl dX1_bare_12 ?_
        refine va_getN (D := (dC, dI)) (ci := 5) (v := .ref h_var) (C := RX8) (T := TX8) (N := 10) (host := "OppositePairs") hx hb hw iwX8 hown hK hP 2 rfl rfl 1 (by decide) (hN.use n_f_X1_44 rfl) (fun _ h9 => h9) rfl dX1_bare_15 ?_
        refine lv_iload_n hx hb dX1_bare_18 rfl (lv_at hl 2 rfl) ?_
        refine lv_sipush (v := 300) hx hb dX1_bare_19 (by decide) ?_
        refine lv_irem hx hb dX1_bare_22 (by decide) ?_
        refine lv_topi (fun z8 ez8 => ?_)
        have tz8 : (z8).toInt = (x1).toInt % 300 := by rw [ez8]; exact i_rem rfl (by decide) (by omega)
        refine va_iald hx hb hK hP 3 1 rfl rfl (i := z8) (vp_in_iff.mpr (by omega)) dX1_bare_23 ?_
        refine lv_topi (fun z9 ez9 => ?_)
        have rz9 : -1 ≤ (z9).toInt ∧ (z9).toInt ≤ 7 := by rw [ez9]; exact hf_var _
        obtain ⟨gv1, gv2⟩ := gvv_at (x := x1) hn_gvv (by omega) tz8 ez9
        refine lv_istore (lv' := [(4, .int z9), (0, .ref h_bd), (1, .int p1), (2, .int x1), (3, .int x2)]) hx hb dX1_bare_24 hl (by decide) rfl (fun ls hl => ?_)
        refine lv_iload hx hb dX1_bare_26 (lv_at hl 0 rfl) ?_
        refine lv_iconst (v := (-1)) hx hb dX1_bare_28 (by decide) ?_
        refine lv_icmp_ne (tgt := 34) hx hb dX1_bare_29 (by decide) (fun c10 => ?_) (fun c10 => ?_)
        · have kc10 := (not_congr (cv_eq (rfl : (z9).toInt = (z9).toInt) (by decide : ((-1) : Int32).toInt = -1))).mp c10
          refine lv_aload_n hx hb dX1_bare_34 rfl (lv_at hl 1 rfl) ?_
          refine va_get (D := (dC, dI)) (ci := 1) (v := .ref h_bnd) (C := RX1) (T := TX1) (N := 13) hx hb hw iwX1 hown hK hP 0 rfl rfl 1 (by decide) (hw _ w_f_X1_9) (fun _ h9 => h9) rfl dX1_bare_35 ?_
          refine lv_iload_n hx hb dX1_bare_38 rfl (lv_at hl 3 rfl) ?_
          refine lv_sipush (v := 300) hx hb dX1_bare_39 (by decide) ?_
          refine lv_idiv hx hb dX1_bare_42 (by decide) ?_
          refine lv_topi (fun z11 ez11 => ?_)
          have tz11 : (z11).toInt = (x1).toInt / 300 := by rw [ez11]; exact i_div rfl (by decide) (by omega)
          refine lv_bipush (v := 8) hx hb dX1_bare_43 (by decide) ?_
          refine lv_imul hx hb dX1_bare_45 ?_
          refine lv_topi (fun z12 ez12 => ?_)
          have tz12 : (z12).toInt = (z11).toInt * 8 := by rw [ez12]; exact i_mul rfl (by decide) (by omega)
          refine lv_iload hx hb dX1_bare_46 (lv_at hl 0 rfl) ?_
          refine lv_iadd hx hb dX1_bare_48 ?_
          refine lv_topi (fun z13 ez13 => ?_)
          have tz13 : (z13).toInt = (z12).toInt + (z9).toInt := by rw [ez13]; exact i_add rfl rfl (by omega)
          refine va_iald hx hb hK hP 1 0 rfl rfl (i := z13) (vp_in_iff.mpr (by omega)) dX1_bare_49 ?_
          refine lv_topi (fun z14 ez14 => ?_)
          have rz14 : 0 ≤ (z14).toInt ∧ (z14).toInt ≤ 9600 := by rw [ez14]; exact hf_bnd _
          have bd9 : (BDV f_bnd) (g.2.1 (x1).toInt.toNat) = (z14).toInt - 1 := bdv_at (by have := gv2 (by omega); omega) ez14
          refine lv_istore (lv' := [(5, .int z14), (4, .int z9), (0, .ref h_bd), (1, .int p1), (2, .int x1), (3, .int x2)]) hx hb dX1_bare_50 hl (by decide) rfl (fun ls hl => ?_)
          refine lv_iload hx hb dX1_bare_52 (lv_at hl 0 rfl) ?_
          refine lv_if_ne (tgt := 59) hx hb dX1_bare_54 (by decide) (fun c15 => ?_) (fun c15 => ?_)
          · have kc15 := (not_congr (cv_eq (rfl : (z14).toInt = (z14).toInt) (by decide : (0 : Int32).toInt = 0))).mp c15
            refine lv_iload hx hb dX1_bare_59 (lv_at hl 0 rfl) ?_
            refine lv_iconst (v := 1) hx hb dX1_bare_61 (by decide) ?_
            refine lv_isub hx hb dX1_bare_62 ?_
            refine lv_topi (fun z16 ez16 => ?_)
            have tz16 : (z16).toInt = (z14).toInt - 1 := by rw [ez16]; exact i_sub rfl (by decide) (by omega)
            refine lv_istore_n (lv' := [(2, .int z16), (5, .int z14), (4, .int z9), (0, .ref h_bd), (1, .int p1), (3, .int x2)]) hx hb dX1_bare_63 rfl hl (by decide) rfl (fun ls hl => ?_)
            obtain ⟨z17, ez17⟩ : ∃ y : Int32, y = x2 + 1 := ⟨_, rfl⟩
            have tz17 : (z17).toInt = (x2).toInt + 1 := by rw [ez17]; exact i_add rfl (by decide) (by omega)
            refine lv_iinc (v := z17) (lv' := [(3, .int z17), (2, .int z16), (5, .int z14), (4, .int z9), (0, .ref h_bd), (1, .int p1)]) hx hb dX1_bare_64 hl (k := 5) rfl (by rw [ez17]; rfl) (by decide) rfl (fun ls hl => ?_)
            have br18 : (z16).toInt.toNat = brF g (BDV f_bnd) (Int.toNat (z17).toInt) (p1).toInt.toNat := brx_step klp3_2 (by omega) (by omega) bd9 (by omega) (by omega) (by omega)
            refine lv_goto (tgt := 4) hx hb dX1_bare_67 (by decide) ?_
            exact ih4 (z16) (z17) _ _ _ (by omega) (by omega) br18 (by omega) hP hD hS (lv_sub hl [4, 5, 1, 0] rfl)
          · have kc15 := (cv_eq (rfl : (z14).toInt = (z14).toInt) (by decide : (0 : Int32).toInt = 0)).mp c15
            refine lv_iload_n hx hb dX1_bare_57 rfl (lv_at hl 4 rfl) ?_
            refine W.widen (k := 0) (n := 0) (Nat.le_of_ble_eq_true rfl) (Nat.le_of_ble_eq_true rfl) ?_
            have w19 : 0 ≤ (x1 : Int32).toInt ∧ (x1 : Int32).toInt ≤ 9599 := by first | exact klp3_0 | omega
            have w20 : BRX g (BDV f_bnd) p1 (x1 : Int32) := (brx_end klp3_2 (by omega) (Or.inr (fun q9 => by omega)))
            exact W.iret (v := x1) hx hb hr (fun t ht hW => ⟨⟨x1, (), rfl, ⟨w19, w20⟩, by rw [ht]; exact hP, hD⟩, hS.F ht⟩) hS.2.2 dX1_bare_58
        · have kc10 := (cv_eq (rfl : (z9).toInt = (z9).toInt) (by decide : ((-1) : Int32).toInt = -1)).mp c10
          refine lv_iload_n hx hb dX1_bare_32 rfl (lv_at hl 3 rfl) ?_
          refine W.widen (k := 0) (n := 0) (Nat.le_of_ble_eq_true rfl) (Nat.le_of_ble_eq_true rfl) ?_
          have w21 : 0 ≤ (x1 : Int32).toInt ∧ (x1 : Int32).toInt ≤ 9599 := by first | exact klp3_0 | omega
          have w22 : BRX g (BDV f_bnd) p1 (x1 : Int32) := (brx_end klp3_2 (by omega) (Or.inr (fun q9 => by omega)))
          exact W.iret (v := x1) hx hb hr (fun t ht hW => ⟨⟨x1, (), rfl, ⟨w21, w22⟩, by rw [ht]; exact hP, hD⟩, hS.F ht⟩) hS.2.2 dX1_bare_33
  have cst0 : (0 : Int32).toInt = 0 := by decide
  exact lp3 _ (p1) (0) _ _ _ (by first | exact q0 | omega) (by decide) (by exact rfl) (Nat.le_refl _) hP hD hS (lv_sub hl [2, 3, 1, 0] rfl)

set_option maxHeartbeats 8000000 in
set_option maxRecDepth 100000 in
theorem c_X1_bare_y (l : Launch) (dC : Nat → ClassId) (dI : Nat → Nat → Nat) (sz : Nat) (h_bd : Nat) (h_bnd : Nat) (h_td : Nat) (h_var : Nat) (v_bd : Nat → Value) (cy_bnd : ClassId) (f_bnd : Nat → Int32) (v_td : Nat → Value) (cy_var : ClassId) (f_var : Nat → Int32) (p1 : Int32) (Lo : Int) (Hi : Int) (g : GVT) (hf_bnd : Rg 0 9600 f_bnd) (hf_var : Rg (-1) 7 f_var) (q0 : 0 ≤ (p1).toInt ∧ (p1).toInt ≤ 9599) (q1 : 0 ≤ Lo ∧ Lo < Hi ∧ Hi ≤ 32) (q2 : 300 * Lo ≤ (p1).toInt ∧ (p1).toInt < 300 * Hi) (hn_cls : CLS Lo Hi f_bnd) (hn_gvv : GVV g f_var) : Met l yX1_bare (Ws yX1_bare cX1_bare 6 (some .int)) (({ frames := 0, cells := 0, slots := 0, locals := 0 } : Room)) (PRE (dC, dI) cls [(cy_bnd, .int), (cy_var, .int)] [(h_bd, .inr (1, (mo9 v_bd (.ref h_td) (.ref h_bnd)))), (h_bnd, .inl (cy_bnd, 256, .inl f_bnd)), (h_td, .inr (5, (mo8 v_td (.ref h_var)))), (h_var, .inl (cy_var, 300, .inl f_var))] sz [.ref h_bd, .int p1]) (va_Qi (fun (r : Int32) (_ : Unit) => (0 ≤ r.toInt ∧ r.toInt ≤ 9599) ∧ (300 * Lo ≤ r.toInt ∧ r.toInt < 300 * Hi) ∧ (BRX g (BDV f_bnd) p1 r)) (fun (_ : Unit) (t : State) => va_P (dC, dI) cls [(h_bd, .inr (1, (mo9 v_bd (.ref h_td) (.ref h_bnd)))), (h_bnd, .inl (cy_bnd, 256, .inl f_bnd)), (h_td, .inr (5, (mo8 v_td (.ref h_var)))), (h_var, .inl (cy_var, 300, .inl f_var))] t.heap ∧ va_D (va_A [(h_bd, .inr (1, (mo9 v_bd (.ref h_td) (.ref h_bnd)))), (h_bnd, .inl (cy_bnd, 256, .inl f_bnd)), (h_td, .inr (5, (mo8 v_td (.ref h_var)))), (h_var, .inl (cy_var, 300, .inl f_var))] sz) [(h_bd, .inr (1, (mo9 v_bd (.ref h_td) (.ref h_bnd)))), (h_bnd, .inl (cy_bnd, 256, .inl f_bnd)), (h_td, .inr (5, (mo8 v_td (.ref h_var)))), (h_var, .inl (cy_var, 300, .inl f_var))]) (va_A [(h_bd, .inr (1, (mo9 v_bd (.ref h_td) (.ref h_bnd)))), (h_bnd, .inl (cy_bnd, 256, .inl f_bnd)), (h_td, .inr (5, (mo8 v_td (.ref h_var)))), (h_var, .inl (cy_var, 300, .inl f_var))] sz)) 0 0 (va_A [(h_bd, .inr (1, (mo9 v_bd (.ref h_td) (.ref h_bnd)))), (h_bnd, .inl (cy_bnd, 256, .inl f_bnd)), (h_td, .inr (5, (mo8 v_td (.ref h_var)))), (h_var, .inl (cy_var, 300, .inl f_var))] sz) := by
  refine Met.ofW (cc := cX1_bare) (maxL := 6) (ret := (some .int)) (by decide) rfl ?_
  intro p e s m args below meth c s₁ B hml hv
  obtain ⟨rfl, hsz, hP, hK, hD0, hN⟩ := hv
  have hx := B.exec
  have hb := B.bytes
  have hr := B.returns
  have hts := atoms_spec (ws := Ws yX1_bare cX1_bare 6 (some .int)) B.pre
  have hT : ∀ w ∈ WALL, w ∈ Ws yX1_bare cX1_bare 6 (some .int) := fun w h => List.mem_cons_of_mem _ h
  have hw := fun w (h : w ∈ WALL) => hts w (hT w h)
  have hown : s.vm.findClass RX1 = some m.cls := findClass_of_methodNamed B.named
  have hlocks := B.notSynchronized
  subst hsz
  have hD := hD0.self (sz := s.heap.size)
  generalize hAe : va_A [(h_bd, .inr (1, (mo9 v_bd (.ref h_td) (.ref h_bnd)))), (h_bnd, .inl (cy_bnd, 256, .inl f_bnd)), (h_td, .inr (5, (mo8 v_td (.ref h_var)))), (h_var, .inl (cy_var, 300, .inl f_var))] s.heap.size = A at hD ⊢
  have hA : ∀ q : Nat, s.heap.size ≤ q → A q := fun q h => by rw [← hAe]; exact Or.inr h
  have hS : va_S A s.heap s.heap [] := va_S.rf
  have hl := lv_entry ([.ref h_bd, .int p1]) (n := 6) (Nat.le_of_ble_eq_true rfl)
  rw [lg_entry_eq]
  generalize (lg_sl ([.ref h_bd, .int p1]) ++ List.replicate (6 - (lg_sl ([.ref h_bd, .int p1])).length) Slot.unset).toArray = ls at hl ⊢
  have hl : lv_has ls 6 [(0, .ref h_bd), (1, .int p1)] := hl
  refine lv_iload_n hx hb dX1_bare_0 rfl (lv_at hl 1 rfl) ?_
  refine lv_istore_n (lv' := [(2, .int p1), (0, .ref h_bd), (1, .int p1)]) hx hb dX1_bare_1 rfl hl (by decide) rfl (fun ls hl => ?_)
  refine lv_iconst (v := 0) hx hb dX1_bare_2 (by decide) ?_
  refine lv_istore_n (lv' := [(3, .int 0), (2, .int p1), (0, .ref h_bd), (1, .int p1)]) hx hb dX1_bare_3 rfl hl (by decide) rfl (fun ls hl => ?_)
  have lp3 : ∀ (n : Nat) (x1 : Int32) (x2 : Int32) (H : Heap) (locs : List Loc) (ls : Array Slot), (0 ≤ (x1).toInt ∧ (x1).toInt ≤ 9599) → (0 ≤ (x2).toInt ∧ (x2).toInt ≤ 256) → (300 * Lo ≤ (x1).toInt ∧ (x1).toInt < 300 * Hi) → (((x1).toInt).toNat = brF g (BDV f_bnd) (Int.toNat ((x2).toInt)) (p1).toInt.toNat) → (256 - (x2).toInt).toNat + 1 ≤ n → va_P (dC, dI) cls [(h_bd, .inr (1, (mo9 v_bd (.ref h_td) (.ref h_bnd)))), (h_bnd, .inl (cy_bnd, 256, .inl f_bnd)), (h_td, .inr (5, (mo8 v_td (.ref h_var)))), (h_var, .inl (cy_var, 300, .inl f_var))] H → va_D A [(h_bd, .inr (1, (mo9 v_bd (.ref h_td) (.ref h_bnd)))), (h_bnd, .inl (cy_bnd, 256, .inl f_bnd)), (h_td, .inr (5, (mo8 v_td (.ref h_var)))), (h_var, .inl (cy_var, 300, .inl f_var))] → va_S A s.heap H locs → lv_has ls 6 [(0, .ref h_bd), (1, .int p1), (2, .int x1), (3, .int x2)] → W p l e ({ frames := 0, cells := 0, slots := 0, locals := 0 } : Room) s m ([.ref h_bd, .int p1] : List Value).toArray below meth c H locs 0 0 (MQ below (va_Qi (fun (r : Int32) (_ : Unit) => (0 ≤ r.toInt ∧ r.toInt ≤ 9599) ∧ (300 * Lo ≤ r.toInt ∧ r.toInt < 300 * Hi) ∧ (BRX g (BDV f_bnd) p1 r)) (fun (_ : Unit) (t : State) => va_P (dC, dI) cls [(h_bd, .inr (1, (mo9 v_bd (.ref h_td) (.ref h_bnd)))), (h_bnd, .inl (cy_bnd, 256, .inl f_bnd)), (h_td, .inr (5, (mo8 v_td (.ref h_var)))), (h_var, .inl (cy_var, 300, .inl f_var))] t.heap ∧ va_D A [(h_bd, .inr (1, (mo9 v_bd (.ref h_td) (.ref h_bnd)))), (h_bnd, .inl (cy_bnd, 256, .inl f_bnd)), (h_td, .inr (5, (mo8 v_td (.ref h_var)))), (h_var, .inl (cy_var, 300, .inl f_var))]) A) ([.ref h_bd, .int p1] : List Value).toArray s 0 0 A) (F0 m 4 ls []) := by
    clear hP hD hS hl
    intro n
    induction n with
    | zero => intro x1 x2 H locs ls klp3_0 klp3_1 klp3_2 klp3_3 hm hP hD hS hl; exact False.elim (by omega)
    | succ n ih => 
      intro x1 x2 H locs ls klp3_0 klp3_1 klp3_2 klp3_3 hm hP hD hS hl
      have ih4 := ih
      clear ih
      refine lv_iload_n hx hb dX1_bare_4 rfl (lv_at hl 3 rfl) ?_
      refine lv_sipush (v := 256) hx hb dX1_bare_5 (by decide) ?_
      refine lv_icmp_ge (tgt := 70) hx hb dX1_bare_8 (by decide) (fun c5 => ?_) (fun c5 => ?_)
      · have kc5 := (cv_le (by decide : (256 : Int32).toInt = 256) (rfl : (x2).toInt = (x2).toInt)).mp c5
        refine lv_iload_n hx hb dX1_bare_70 rfl (lv_at hl 2 rfl) ?_
        refine W.widen (k := 0) (n := 0) (Nat.le_of_ble_eq_true rfl) (Nat.le_of_ble_eq_true rfl) ?_
        have w6 : 0 ≤ (x1 : Int32).toInt ∧ (x1 : Int32).toInt ≤ 9599 := by first | exact klp3_0 | omega
        have w7 : 300 * Lo ≤ (x1 : Int32).toInt ∧ (x1 : Int32).toInt < 300 * Hi := by first | exact klp3_2 | omega
        have w8 : BRX g (BDV f_bnd) p1 (x1 : Int32) := (brx_end klp3_3 (by omega) (Or.inl (by omega)))
        exact W.iret (v := x1) hx hb hr (fun t ht hW => ⟨⟨x1, (), rfl, ⟨w6, w7, w8⟩, by rw [ht]; exact hP, hD⟩, hS.F ht⟩) hS.2.2 dX1_bare_71
      · have kc5 := (not_congr (cv_le (by decide : (256 : Int32).toInt = 256) (rfl : (x2).toInt = (x2).toInt))).mp c5
        refine lv_aload_n hx hb dX1_bare_11 rfl (lv_at hl 0 rfl) ?_
        refine va_get (D := (dC, dI)) (ci := 1) (v := .ref h_td) (C := RX1) (T := TX1) (N := 13) hx hb hw iwX1 hown hK hP 0 rfl rfl 0 (by decide) (hw _ w_f_X1_36) (fun _ h9 => h9) rfl dX1_bare_12 ?_
        refine va_getN (D := (dC, dI)) (ci := 5) (v := .ref h_var) (C := RX8) (T := TX8) (N := 10) (host := "OppositePairs") hx hb hw iwX8 hown hK hP 2 rfl rfl 1 (by decide) (hN.use n_f_X1_44 rfl) (fun _ h9 => h9) rfl dX1_bare_15 ?_
        refine lv_iload_n hx hb dX1_bare_18 rfl (lv_at hl 2 rfl) ?_
        refine lv_sipush (v := 300) hx hb dX1_bare_19 (by decide) ?_
        refine lv_irem hx hb dX1_bare_22 (by decide) ?_
        refine lv_topi (fun z9 ez9 => ?_)
        have tz9 : (z9).toInt = (x1).toInt % 300 := by rw [ez9]; exact i_rem rfl (by decide) (by omega)
        refine va_iald hx hb hK hP 3 1 rfl rfl (i := z9) (vp_in_iff.mpr (by omega)) dX1_bare_23 ?_
        refine lv_topi (fun z10 ez10 => ?_)
        have rz10 : -1 ≤ (z10).toInt ∧ (z10).toInt ≤ 7 := by rw [ez10]; exact hf_var _
        obtain ⟨gv1, gv2⟩ := gvv_at (x := x1) hn_gvv (by omega) tz9 ez10
        refine lv_istore (lv' := [(4, .int z10), (0, .ref h_bd), (1, .int p1), (2, .int x1), (3, .int x2)]) hx hb dX1_bare_24 hl (by decide) rfl (fun ls hl => ?_)
        refine lv_iload hx hb dX1_bare_26 (lv_at hl 0 rfl) ?_
        refine lv_iconst (v := (-1)) hx hb dX1_bare_28 (by decide) ?_
        refine lv_icmp_ne (tgt := 34) hx hb dX1_bare_29 (by decide) (fun c11 => ?_) (fun c11 => ?_)
        · have kc11 := (not_congr (cv_eq (rfl : (z10).toInt = (z10).toInt) (by decide : ((-1) : Int32).toInt = -1))).mp c11
          refine lv_aload_n hx hb dX1_bare_34 rfl (lv_at hl 1 rfl) ?_
          refine va_get (D := (dC, dI)) (ci := 1) (v := .ref h_bnd) (C := RX1) (T := TX1) (N := 13) hx hb hw iwX1 hown hK hP 0 rfl rfl 1 (by decide) (hw _ w_f_X1_9) (fun _ h9 => h9) rfl dX1_bare_35 ?_
          refine lv_iload_n hx hb dX1_bare_38 rfl (lv_at hl 3 rfl) ?_
          refine lv_sipush (v := 300) hx hb dX1_bare_39 (by decide) ?_
          refine lv_idiv hx hb dX1_bare_42 (by decide) ?_
          refine lv_topi (fun z12 ez12 => ?_)
          have tz12 : (z12).toInt = (x1).toInt / 300 := by rw [ez12]; exact i_div rfl (by decide) (by omega)
          refine lv_bipush (v := 8) hx hb dX1_bare_43 (by decide) ?_
          refine lv_imul hx hb dX1_bare_45 ?_
          refine lv_topi (fun z13 ez13 => ?_)
          have tz13 : (z13).toInt = (z12).toInt * 8 := by rw [ez13]; exact i_mul rfl (by decide) (by omega)
          refine lv_iload hx hb dX1_bare_46 (lv_at hl 0 rfl) ?_
          refine lv_iadd hx hb dX1_bare_48 ?_
          refine lv_topi (fun z14 ez14 => ?_)
          have tz14 : (z14).toInt = (z13).toInt + (z10).toInt := by rw [ez14]; exact i_add rfl rfl (by omega)
          refine va_iald hx hb hK hP 1 0 rfl rfl (i := z14) (vp_in_iff.mpr (by omega)) dX1_bare_49 ?_
          refine lv_topi (fun z15 ez15 => ?_)
          have rz15 : 0 ≤ (z15).toInt ∧ (z15).toInt ≤ 9600 := by rw [ez15]; exact hf_bnd _
          have cbz15 : (z15).toInt = 0 ∨ (300 * Lo < (z15).toInt ∧ (z15).toInt ≤ 300 * Hi) := by rw [ez15]; exact cls_at hn_cls (by omega) (by omega) (by omega)
          have bd9 : (BDV f_bnd) (g.2.1 (x1).toInt.toNat) = (z15).toInt - 1 := bdv_at (by have := gv2 (by omega); omega) ez15
          refine lv_istore (lv' := [(5, .int z15), (4, .int z10), (0, .ref h_bd), (1, .int p1), (2, .int x1), (3, .int x2)]) hx hb dX1_bare_50 hl (by decide) rfl (fun ls hl => ?_)
          refine lv_iload hx hb dX1_bare_52 (lv_at hl 0 rfl) ?_
          refine lv_if_ne (tgt := 59) hx hb dX1_bare_54 (by decide) (fun c16 => ?_) (fun c16 => ?_)
          · have kc16 := (not_congr (cv_eq (rfl : (z15).toInt = (z15).toInt) (by decide : (0 : Int32).toInt = 0))).mp c16
            refine lv_iload hx hb dX1_bare_59 (lv_at hl 0 rfl) ?_
            refine lv_iconst (v := 1) hx hb dX1_bare_61 (by decide) ?_
            refine lv_isub hx hb dX1_bare_62 ?_
            refine lv_topi (fun z17 ez17 => ?_)
            have tz17 : (z17).toInt = (z15).toInt - 1 := by rw [ez17]; exact i_sub rfl (by decide) (by omega)
            refine lv_istore_n (lv' := [(2, .int z17), (5, .int z15), (4, .int z10), (0, .ref h_bd), (1, .int p1), (3, .int x2)]) hx hb dX1_bare_63 rfl hl (by decide) rfl (fun ls hl => ?_)
            obtain ⟨z18, ez18⟩ : ∃ y : Int32, y = x2 + 1 := ⟨_, rfl⟩
            have tz18 : (z18).toInt = (x2).toInt + 1 := by rw [ez18]; exact i_add rfl (by decide) (by omega)
            refine lv_iinc (v := z18) (lv' := [(3, .int z18), (2, .int z17), (5, .int z15), (4, .int z10), (0, .ref h_bd), (1, .int p1)]) hx hb dX1_bare_64 hl (k := 5) rfl (by rw [ez18]; rfl) (by decide) rfl (fun ls hl => ?_)
            have br19 : (z17).toInt.toNat = brF g (BDV f_bnd) (Int.toNat (z18).toInt) (p1).toInt.toNat := brx_step klp3_3 (by omega) (by omega) bd9 (by omega) (by omega) (by omega)
            refine lv_goto (tgt := 4) hx hb dX1_bare_67 (by decide) ?_
            exact ih4 (z17) (z18) _ _ _ (by omega) (by omega) (by omega) br19 (by omega) hP hD hS (lv_sub hl [4, 5, 1, 0] rfl)
          · have kc16 := (cv_eq (rfl : (z15).toInt = (z15).toInt) (by decide : (0 : Int32).toInt = 0)).mp c16
            refine lv_iload_n hx hb dX1_bare_57 rfl (lv_at hl 4 rfl) ?_
            refine W.widen (k := 0) (n := 0) (Nat.le_of_ble_eq_true rfl) (Nat.le_of_ble_eq_true rfl) ?_
            have w20 : 0 ≤ (x1 : Int32).toInt ∧ (x1 : Int32).toInt ≤ 9599 := by first | exact klp3_0 | omega
            have w21 : 300 * Lo ≤ (x1 : Int32).toInt ∧ (x1 : Int32).toInt < 300 * Hi := by first | exact klp3_2 | omega
            have w22 : BRX g (BDV f_bnd) p1 (x1 : Int32) := (brx_end klp3_3 (by omega) (Or.inr (fun q9 => by omega)))
            exact W.iret (v := x1) hx hb hr (fun t ht hW => ⟨⟨x1, (), rfl, ⟨w20, w21, w22⟩, by rw [ht]; exact hP, hD⟩, hS.F ht⟩) hS.2.2 dX1_bare_58
        · have kc11 := (cv_eq (rfl : (z10).toInt = (z10).toInt) (by decide : ((-1) : Int32).toInt = -1)).mp c11
          refine lv_iload_n hx hb dX1_bare_32 rfl (lv_at hl 3 rfl) ?_
          refine W.widen (k := 0) (n := 0) (Nat.le_of_ble_eq_true rfl) (Nat.le_of_ble_eq_true rfl) ?_
          have w23 : 0 ≤ (x1 : Int32).toInt ∧ (x1 : Int32).toInt ≤ 9599 := by first | exact klp3_0 | omega
          have w24 : 300 * Lo ≤ (x1 : Int32).toInt ∧ (x1 : Int32).toInt < 300 * Hi := by first | exact klp3_2 | omega
          have w25 : BRX g (BDV f_bnd) p1 (x1 : Int32) := (brx_end klp3_3 (by omega) (Or.inr (fun q9 => by omega)))
          exact W.iret (v := x1) hx hb hr (fun t ht hW => ⟨⟨x1, (), rfl, ⟨w23, w24, w25⟩, by rw [ht]; exact hP, hD⟩, hS.F ht⟩) hS.2.2 dX1_bare_33
  have cst0 : (0 : Int32).toInt = 0 := by decide
  exact lp3 _ (p1) (0) _ _ _ (by first | exact q0 | omega) (by decide) (by first | exact q2 | omega) (by exact rfl) (Nat.le_refl _) hP hD hS (lv_sub hl [2, 3, 1, 0] rfl)

set_option maxHeartbeats 8000000 in
set_option maxRecDepth 100000 in
theorem c_X1_root_x (l : Launch) (dC : Nat → ClassId) (dI : Nat → Nat → Nat) (sz : Nat) (h_bd : Nat) (h_sam : Nat) (v_bd : Nat → Value) (cy_sam : ClassId) (f_sam : Nat → Int32) (p1 : Int32) (hf_sam : Rg 0 9600 f_sam) (q0 : 0 ≤ (p1).toInt ∧ (p1).toInt ≤ 9599) : Met l yX1_root (Ws yX1_root cX1_root 4 (some .int)) (({ frames := 0, cells := 0, slots := 0, locals := 0 } : Room)) (PRE (dC, dI) cls [(cy_sam, .int)] [(h_bd, .inr (1, (mo11 v_bd (.ref h_sam)))), (h_sam, .inl (cy_sam, 9600, .inl f_sam))] sz [.ref h_bd, .int p1]) (va_Qi (fun (r : Int32) (_ : Unit) => (0 ≤ r.toInt ∧ r.toInt ≤ 9599) ∧ (RTX f_sam p1 r)) (fun (_ : Unit) (t : State) => va_P (dC, dI) cls [(h_bd, .inr (1, (mo11 v_bd (.ref h_sam)))), (h_sam, .inl (cy_sam, 9600, .inl f_sam))] t.heap ∧ va_D (va_A [(h_bd, .inr (1, (mo11 v_bd (.ref h_sam)))), (h_sam, .inl (cy_sam, 9600, .inl f_sam))] sz) [(h_bd, .inr (1, (mo11 v_bd (.ref h_sam)))), (h_sam, .inl (cy_sam, 9600, .inl f_sam))]) (va_A [(h_bd, .inr (1, (mo11 v_bd (.ref h_sam)))), (h_sam, .inl (cy_sam, 9600, .inl f_sam))] sz)) 0 0 (va_A [(h_bd, .inr (1, (mo11 v_bd (.ref h_sam)))), (h_sam, .inl (cy_sam, 9600, .inl f_sam))] sz) := by
  refine Met.ofW (cc := cX1_root) (maxL := 4) (ret := (some .int)) (by decide) rfl ?_
  intro p e s m args below meth c s₁ B hml hv
  obtain ⟨rfl, hsz, hP, hK, hD0, hN⟩ := hv
  have hx := B.exec
  have hb := B.bytes
  have hr := B.returns
  have hts := atoms_spec (ws := Ws yX1_root cX1_root 4 (some .int)) B.pre
  have hT : ∀ w ∈ WALL, w ∈ Ws yX1_root cX1_root 4 (some .int) := fun w h => List.mem_cons_of_mem _ h
  have hw := fun w (h : w ∈ WALL) => hts w (hT w h)
  have hown : s.vm.findClass RX1 = some m.cls := findClass_of_methodNamed B.named
  have hlocks := B.notSynchronized
  subst hsz
  have hD := hD0.self (sz := s.heap.size)
  generalize hAe : va_A [(h_bd, .inr (1, (mo11 v_bd (.ref h_sam)))), (h_sam, .inl (cy_sam, 9600, .inl f_sam))] s.heap.size = A at hD ⊢
  have hA : ∀ q : Nat, s.heap.size ≤ q → A q := fun q h => by rw [← hAe]; exact Or.inr h
  have hS : va_S A s.heap s.heap [] := va_S.rf
  have hl := lv_entry ([.ref h_bd, .int p1]) (n := 4) (Nat.le_of_ble_eq_true rfl)
  rw [lg_entry_eq]
  generalize (lg_sl ([.ref h_bd, .int p1]) ++ List.replicate (4 - (lg_sl ([.ref h_bd, .int p1])).length) Slot.unset).toArray = ls at hl ⊢
  have hl : lv_has ls 4 [(0, .ref h_bd), (1, .int p1)] := hl
  refine lv_iload_n hx hb dX1_root_0 rfl (lv_at hl 1 rfl) ?_
  refine lv_istore_n (lv' := [(2, .int p1), (0, .ref h_bd), (1, .int p1)]) hx hb dX1_root_1 rfl hl (by decide) rfl (fun ls hl => ?_)
  refine lv_iconst (v := 0) hx hb dX1_root_2 (by decide) ?_
  refine lv_istore_n (lv' := [(3, .int 0), (2, .int p1), (0, .ref h_bd), (1, .int p1)]) hx hb dX1_root_3 rfl hl (by decide) rfl (fun ls hl => ?_)
  have lp3 : ∀ (n : Nat) (x1 : Int32) (x2 : Int32) (H : Heap) (locs : List Loc) (ls : Array Slot), (0 ≤ (x1).toInt ∧ (x1).toInt ≤ 9599) → (0 ≤ (x2).toInt ∧ (x2).toInt ≤ 1024) → (((x1).toInt).toNat = rtF f_sam (Int.toNat ((x2).toInt)) (p1).toInt.toNat) → (1024 - (x2).toInt).toNat + 1 ≤ n → va_P (dC, dI) cls [(h_bd, .inr (1, (mo11 v_bd (.ref h_sam)))), (h_sam, .inl (cy_sam, 9600, .inl f_sam))] H → va_D A [(h_bd, .inr (1, (mo11 v_bd (.ref h_sam)))), (h_sam, .inl (cy_sam, 9600, .inl f_sam))] → va_S A s.heap H locs → lv_has ls 4 [(0, .ref h_bd), (1, .int p1), (2, .int x1), (3, .int x2)] → W p l e ({ frames := 0, cells := 0, slots := 0, locals := 0 } : Room) s m ([.ref h_bd, .int p1] : List Value).toArray below meth c H locs 0 0 (MQ below (va_Qi (fun (r : Int32) (_ : Unit) => (0 ≤ r.toInt ∧ r.toInt ≤ 9599) ∧ (RTX f_sam p1 r)) (fun (_ : Unit) (t : State) => va_P (dC, dI) cls [(h_bd, .inr (1, (mo11 v_bd (.ref h_sam)))), (h_sam, .inl (cy_sam, 9600, .inl f_sam))] t.heap ∧ va_D A [(h_bd, .inr (1, (mo11 v_bd (.ref h_sam)))), (h_sam, .inl (cy_sam, 9600, .inl f_sam))]) A) ([.ref h_bd, .int p1] : List Value).toArray s 0 0 A) (F0 m 4 ls []) := by
    clear hP hD hS hl
    intro n
    induction n with
    | zero => intro x1 x2 H locs ls klp3_0 klp3_1 klp3_2 hm hP hD hS hl; exact False.elim (by omega)
    | succ n ih => 
      intro x1 x2 H locs ls klp3_0 klp3_1 klp3_2 hm hP hD hS hl
      have ih4 := ih
      clear ih
      refine lv_iload_n hx hb dX1_root_4 rfl (lv_at hl 3 rfl) ?_
      refine lv_sipush (v := 1024) hx hb dX1_root_5 (by decide) ?_
      refine lv_icmp_ge (tgt := 35) hx hb dX1_root_8 (by decide) (fun c5 => ?_) (fun c5 => ?_)
      · have kc5 := (cv_le (by decide : (1024 : Int32).toInt = 1024) (rfl : (x2).toInt = (x2).toInt)).mp c5
        refine lv_iload_n hx hb dX1_root_35 rfl (lv_at hl 2 rfl) ?_
        refine W.widen (k := 0) (n := 0) (Nat.le_of_ble_eq_true rfl) (Nat.le_of_ble_eq_true rfl) ?_
        have w6 : 0 ≤ (x1 : Int32).toInt ∧ (x1 : Int32).toInt ≤ 9599 := by first | exact klp3_0 | omega
        have w7 : RTX f_sam p1 (x1 : Int32) := (rtx_end klp3_2 (by omega) (Or.inl (by omega)))
        exact W.iret (v := x1) hx hb hr (fun t ht hW => ⟨⟨x1, (), rfl, ⟨w6, w7⟩, by rw [ht]; exact hP, hD⟩, hS.F ht⟩) hS.2.2 dX1_root_36
      · have kc5 := (not_congr (cv_le (by decide : (1024 : Int32).toInt = 1024) (rfl : (x2).toInt = (x2).toInt))).mp c5
        refine lv_aload_n hx hb dX1_root_11 rfl (lv_at hl 0 rfl) ?_
        refine va_get (D := (dC, dI)) (ci := 1) (v := .ref h_sam) (C := RX1) (T := TX1) (N := 13) hx hb hw iwX1 hown hK hP 0 rfl rfl 4 (by decide) (hw _ w_f_X1_18) (fun _ h9 => h9) rfl dX1_root_12 ?_
        refine lv_iload_n hx hb dX1_root_15 rfl (lv_at hl 2 rfl) ?_
        refine va_iald hx hb hK hP 1 0 rfl rfl (i := x1) (vp_in_iff.mpr (by omega)) dX1_root_16 ?_
        refine lv_topi (fun z8 ez8 => ?_)
        have rz8 : 0 ≤ (z8).toInt ∧ (z8).toInt ≤ 9600 := by rw [ez8]; exact hf_sam _
        refine lv_if_eq (tgt := 35) hx hb dX1_root_17 (by decide) (fun c9 => ?_) (fun c9 => ?_)
        · have kc9 := (cv_eq (rfl : (z8).toInt = (z8).toInt) (by decide : (0 : Int32).toInt = 0)).mp c9
          refine lv_iload_n hx hb dX1_root_35 rfl (lv_at hl 2 rfl) ?_
          refine W.widen (k := 0) (n := 0) (Nat.le_of_ble_eq_true rfl) (Nat.le_of_ble_eq_true rfl) ?_
          have w10 : 0 ≤ (x1 : Int32).toInt ∧ (x1 : Int32).toInt ≤ 9599 := by first | exact klp3_0 | omega
          have w11 : RTX f_sam p1 (x1 : Int32) := (rtx_end klp3_2 (by omega) (Or.inr (rtx_zero (by omega) ez8 (by omega))))
          exact W.iret (v := x1) hx hb hr (fun t ht hW => ⟨⟨x1, (), rfl, ⟨w10, w11⟩, by rw [ht]; exact hP, hD⟩, hS.F ht⟩) hS.2.2 dX1_root_36
        · have kc9 := (not_congr (cv_eq (rfl : (z8).toInt = (z8).toInt) (by decide : (0 : Int32).toInt = 0))).mp c9
          refine lv_aload_n hx hb dX1_root_20 rfl (lv_at hl 0 rfl) ?_
          refine va_get (D := (dC, dI)) (ci := 1) (v := .ref h_sam) (C := RX1) (T := TX1) (N := 13) hx hb hw iwX1 hown hK hP 0 rfl rfl 4 (by decide) (hw _ w_f_X1_18) (fun _ h9 => h9) rfl dX1_root_21 ?_
          refine lv_iload_n hx hb dX1_root_24 rfl (lv_at hl 2 rfl) ?_
          refine va_iald hx hb hK hP 1 0 rfl rfl (i := x1) (vp_in_iff.mpr (by omega)) dX1_root_25 ?_
          refine lv_topi (fun z12 ez12 => ?_)
          have qz12 : (z12).toInt = (z8).toInt := by rw [ez12, ez8]
          have rz12 : 0 ≤ (z12).toInt ∧ (z12).toInt ≤ 9600 := by rw [ez12]; exact hf_sam _
          refine lv_iconst (v := 1) hx hb dX1_root_26 (by decide) ?_
          refine lv_isub hx hb dX1_root_27 ?_
          refine lv_topi (fun z13 ez13 => ?_)
          have tz13 : (z13).toInt = (z12).toInt - 1 := by rw [ez13]; exact i_sub rfl (by decide) (by omega)
          refine lv_istore_n (lv' := [(2, .int z13), (0, .ref h_bd), (1, .int p1), (3, .int x2)]) hx hb dX1_root_28 rfl hl (by decide) rfl (fun ls hl => ?_)
          obtain ⟨z14, ez14⟩ : ∃ y : Int32, y = x2 + 1 := ⟨_, rfl⟩
          have tz14 : (z14).toInt = (x2).toInt + 1 := by rw [ez14]; exact i_add rfl (by decide) (by omega)
          refine lv_iinc (v := z14) (lv' := [(3, .int z14), (2, .int z13), (0, .ref h_bd), (1, .int p1)]) hx hb dX1_root_29 hl (k := 3) rfl (by rw [ez14]; rfl) (by decide) rfl (fun ls hl => ?_)
          have rt15 : (z13).toInt.toNat = rtF f_sam (Int.toNat (z14).toInt) (p1).toInt.toNat := rtx_step klp3_2 (by omega) (by omega) ez8 (by omega) (by omega) (by omega)
          refine lv_goto (tgt := 4) hx hb dX1_root_32 (by decide) ?_
          exact ih4 (z13) (z14) _ _ _ (by omega) (by omega) rt15 (by omega) hP hD hS (lv_sub hl [2, 3, 1, 0] rfl)
  have cst0 : (0 : Int32).toInt = 0 := by decide
  exact lp3 _ (p1) (0) _ _ _ (by first | exact q0 | omega) (by decide) (by exact rfl) (Nat.le_refl _) hP hD hS (lv_sub hl [2, 3, 1, 0] rfl)

set_option maxHeartbeats 8000000 in
set_option maxRecDepth 100000 in
theorem c_X1_join_x (l : Launch) (dC : Nat → ClassId) (dI : Nat → Nat → Nat) (sz : Nat) (h_bd : Nat) (h_sam : Nat) (h_jnd : Nat) (v_bd : Nat → Value) (x_bd_joins : Int32) (cy_sam : ClassId) (f_sam : Nat → Int32) (cy_jnd : ClassId) (f_jnd : Nat → Int32) (p1 : Int32) (p2 : Int32) (hx_bd_joins : 0 ≤ (x_bd_joins).toInt ∧ (x_bd_joins).toInt ≤ 1024) (hf_sam : Rg 0 9600 f_sam) (hf_jnd : Rg 0 9599 f_jnd) (q0 : 0 ≤ (p1).toInt ∧ (p1).toInt ≤ 9599) (q1 : 0 ≤ (p2).toInt ∧ (p2).toInt ≤ 9599) : Met l yX1_join (Ws yX1_join cX1_join 5 none) (({ frames := 1, cells := 0, slots := 0, locals := 23 } : Room)) (PRE (dC, dI) cls [(cy_sam, .int), (cy_jnd, .int)] [(h_bd, .inr (1, (mo12 v_bd (.ref h_sam) (.ref h_jnd) (.int x_bd_joins)))), (h_sam, .inl (cy_sam, 9600, .inl f_sam)), (h_jnd, .inl (cy_jnd, 1024, .inl f_jnd))] sz [.ref h_bd, .int p1, .int p2]) (va_Qv (fun (u : (Int32) × (Nat → Int32) × (Nat → Int32)) => (0 ≤ (u.1).toInt ∧ (u.1).toInt ≤ 1024) ∧ (Rg 0 9600 u.2.1) ∧ (Rg 0 9599 u.2.2) ∧ (JNX f_sam u.2.1 f_jnd u.2.2 x_bd_joins u.1 p1 p2)) (fun (u : (Int32) × (Nat → Int32) × (Nat → Int32)) (t : State) => va_P (dC, dI) cls [(h_bd, .inr (1, (mo12 v_bd (.ref h_sam) (.ref h_jnd) (.int u.1)))), (h_sam, .inl (cy_sam, 9600, .inl u.2.1)), (h_jnd, .inl (cy_jnd, 1024, .inl u.2.2))] t.heap ∧ va_D (va_A [(h_bd, .inr (1, (mo12 v_bd (.ref h_sam) (.ref h_jnd) (.int x_bd_joins)))), (h_sam, .inl (cy_sam, 9600, .inl f_sam)), (h_jnd, .inl (cy_jnd, 1024, .inl f_jnd))] sz) [(h_bd, .inr (1, (mo12 v_bd (.ref h_sam) (.ref h_jnd) (.int u.1)))), (h_sam, .inl (cy_sam, 9600, .inl u.2.1)), (h_jnd, .inl (cy_jnd, 1024, .inl u.2.2))]) (va_A [(h_bd, .inr (1, (mo12 v_bd (.ref h_sam) (.ref h_jnd) (.int x_bd_joins)))), (h_sam, .inl (cy_sam, 9600, .inl f_sam)), (h_jnd, .inl (cy_jnd, 1024, .inl f_jnd))] sz)) 0 0 (va_A [(h_bd, .inr (1, (mo12 v_bd (.ref h_sam) (.ref h_jnd) (.int x_bd_joins)))), (h_sam, .inl (cy_sam, 9600, .inl f_sam)), (h_jnd, .inl (cy_jnd, 1024, .inl f_jnd))] sz) := by
  refine Met.ofW (cc := cX1_join) (maxL := 5) (ret := none) (by decide) rfl ?_
  intro p e s m args below meth c s₁ B hml hv
  obtain ⟨rfl, hsz, hP, hK, hD0, hN⟩ := hv
  have hx := B.exec
  have hb := B.bytes
  have hr := B.returns
  have hts := atoms_spec (ws := Ws yX1_join cX1_join 5 none) B.pre
  have hT : ∀ w ∈ WALL, w ∈ Ws yX1_join cX1_join 5 none := fun w h => List.mem_cons_of_mem _ h
  have hw := fun w (h : w ∈ WALL) => hts w (hT w h)
  have hown : s.vm.findClass RX1 = some m.cls := findClass_of_methodNamed B.named
  have hlocks := B.notSynchronized
  subst hsz
  have hD := hD0.self (sz := s.heap.size)
  generalize hAe : va_A [(h_bd, .inr (1, (mo12 v_bd (.ref h_sam) (.ref h_jnd) (.int x_bd_joins)))), (h_sam, .inl (cy_sam, 9600, .inl f_sam)), (h_jnd, .inl (cy_jnd, 1024, .inl f_jnd))] s.heap.size = A at hD ⊢
  have hA : ∀ q : Nat, s.heap.size ≤ q → A q := fun q h => by rw [← hAe]; exact Or.inr h
  have hS : va_S A s.heap s.heap [] := va_S.rf
  have hl := lv_entry ([.ref h_bd, .int p1, .int p2]) (n := 5) (Nat.le_of_ble_eq_true rfl)
  rw [lg_entry_eq]
  generalize (lg_sl ([.ref h_bd, .int p1, .int p2]) ++ List.replicate (5 - (lg_sl ([.ref h_bd, .int p1, .int p2])).length) Slot.unset).toArray = ls at hl ⊢
  have hl : lv_has ls 5 [(0, .ref h_bd), (1, .int p1), (2, .int p2)] := hl
  refine lv_aload_n hx hb dX1_join_0 rfl (lv_at hl 0 rfl) ?_
  refine lv_iload_n hx hb dX1_join_1 rfl (lv_at hl 1 rfl) ?_
  obtain ⟨vq1, evq1⟩ := mq12_11 v_bd (.ref h_jnd) (.int x_bd_joins)
  replace hP : va_P (dC, dI) cls [(h_bd, .inr (1, (mo11 vq1 (.ref h_sam)))), (h_sam, .inl (cy_sam, 9600, .inl f_sam)), (h_jnd, .inl (cy_jnd, 1024, .inl f_jnd))] s.heap := by rw [evq1]; exact hP
  replace hD : va_D A [(h_bd, .inr (1, (mo11 vq1 (.ref h_sam)))), (h_sam, .inl (cy_sam, 9600, .inl f_sam)), (h_jnd, .inl (cy_jnd, 1024, .inl f_jnd))] := by rw [evq1]; exact hD
  have hPc := hP.sub (ws' := [(h_bd, .inr (1, (mo11 vq1 (.ref h_sam)))), (h_sam, .inl (cy_sam, 9600, .inl f_sam))]) [0, 1] rfl
  have hDc := hD.sub (ws' := [(h_bd, .inr (1, (mo11 vq1 (.ref h_sam)))), (h_sam, .inl (cy_sam, 9600, .inl f_sam))]) [0, 1] (by decide) rfl
  have hKc := hK.sub (tys' := [(cy_sam, .int)]) [0] rfl
  have hFc := va_free (wc := [(h_bd, .inr (1, (mo11 vq1 (.ref h_sam)))), (h_sam, .inl (cy_sam, 9600, .inl f_sam))]) hD hS hA [0, 1] rfl
  refine va_calli (va_runV (As := [.int p1]) (rest := []) ⟨hx, hb, hml, hown, hts⟩ (c_X1_root_x l dC dI s.heap.size h_bd h_sam vq1 cy_sam f_sam p1 hf_sam (by first | exact q0 | omega)) (cwV 1 hts (gv hT w_m_X1_68 w_instanceMethod_X1_root ws_sel_X1_root w_ini_X1 w_code_X1_root) rfl rfl rfl (by decide +kernel) ⟨(Nat.le_of_ble_eq_true rfl), (Nat.le_of_ble_eq_true rfl)⟩) ⟨pre_blind, va_recv hK hP (ci := 1) (q0 := 0) rfl rfl, pre_of hPc hKc hDc hN⟩ rfl rfl hl.1 rfl (lv_room (Nat.le_of_ble_eq_true rfl)) dX1_join_2 ⟨(Nat.le_of_ble_eq_true rfl), (Nat.le_of_ble_eq_true rfl)⟩) hS (fun q _ h => hFc q h) hFc (fun r2 u t H locs ht hvm hq hB hz1 hk1 hS9 => ?_)
  obtain ⟨hP1, hD1⟩ := hB
  rw [ht] at hP1
  obtain ⟨hP9, hD9⟩ := va_join (wr := [(h_jnd, .inl (cy_jnd, 1024, .inl f_jnd))]) (w1 := [(h_bd, .inr (1, (mo11 vq1 (.ref h_sam)))), (h_sam, .inl (cy_sam, 9600, .inl f_sam))]) hP hD [0, 1] [2] rfl rfl (by decide) (by decide) hk1 hFc hP1 hD1
  clear hP hD hS hPc hDc hKc hFc hP1 hD1 hk1 hz1 ht hvm
  have hP : va_P (dC, dI) cls [(h_jnd, .inl (cy_jnd, 1024, .inl f_jnd)), (h_bd, .inr (1, (mo11 vq1 (.ref h_sam)))), (h_sam, .inl (cy_sam, 9600, .inl f_sam))] H := hP9
  have hD : va_D A [(h_jnd, .inl (cy_jnd, 1024, .inl f_jnd)), (h_bd, .inr (1, (mo11 vq1 (.ref h_sam)))), (h_sam, .inl (cy_sam, 9600, .inl f_sam))] := hD9
  have hS := hS9
  clear hP9 hD9 hS9
  rw [evq1] at hP hD
  replace hP : va_P (dC, dI) cls [(h_jnd, .inl (cy_jnd, 1024, .inl f_jnd)), (h_bd, .inr (1, (mo12 v_bd (.ref h_sam) (.ref h_jnd) (.int x_bd_joins)))), (h_sam, .inl (cy_sam, 9600, .inl f_sam))] H := hP
  replace hD : va_D A [(h_jnd, .inl (cy_jnd, 1024, .inl f_jnd)), (h_bd, .inr (1, (mo12 v_bd (.ref h_sam) (.ref h_jnd) (.int x_bd_joins)))), (h_sam, .inl (cy_sam, 9600, .inl f_sam))] := hD
  clear evq1 
  obtain ⟨k3, k4⟩ := hq
  replace k3 : 0 ≤ (r2).toInt ∧ (r2).toInt ≤ 9599 := k3
  replace k4 : RTX f_sam (p1) (r2) := k4
  refine lv_istore_n (lv' := [(3, .int r2), (0, .ref h_bd), (1, .int p1), (2, .int p2)]) hx hb dX1_join_5 rfl hl (by decide) rfl (fun ls hl => ?_)
  refine lv_aload_n hx hb dX1_join_6 rfl (lv_at hl 1 rfl) ?_
  refine lv_iload_n hx hb dX1_join_7 rfl (lv_at hl 3 rfl) ?_
  obtain ⟨vq5, evq5⟩ := mq12_11 v_bd (.ref h_jnd) (.int x_bd_joins)
  replace hP : va_P (dC, dI) cls [(h_jnd, .inl (cy_jnd, 1024, .inl f_jnd)), (h_bd, .inr (1, (mo11 vq5 (.ref h_sam)))), (h_sam, .inl (cy_sam, 9600, .inl f_sam))] H := by rw [evq5]; exact hP
  replace hD : va_D A [(h_jnd, .inl (cy_jnd, 1024, .inl f_jnd)), (h_bd, .inr (1, (mo11 vq5 (.ref h_sam)))), (h_sam, .inl (cy_sam, 9600, .inl f_sam))] := by rw [evq5]; exact hD
  have hPc := hP.sub (ws' := [(h_bd, .inr (1, (mo11 vq5 (.ref h_sam)))), (h_sam, .inl (cy_sam, 9600, .inl f_sam))]) [1, 2] rfl
  have hDc := hD.sub (ws' := [(h_bd, .inr (1, (mo11 vq5 (.ref h_sam)))), (h_sam, .inl (cy_sam, 9600, .inl f_sam))]) [1, 2] (by decide) rfl
  have hKc := hK.sub (tys' := [(cy_sam, .int)]) [0] rfl
  have hFc := va_free (wc := [(h_bd, .inr (1, (mo11 vq5 (.ref h_sam)))), (h_sam, .inl (cy_sam, 9600, .inl f_sam))]) hD hS hA [1, 2] rfl
  refine va_calli (va_runV (As := [.int p2]) (rest := []) ⟨hx, hb, hml, hown, hts⟩ (c_X1_root_x l dC dI H.size h_bd h_sam vq5 cy_sam f_sam p2 hf_sam (by first | exact q1 | omega)) (cwV 1 hts (gv hT w_m_X1_68 w_instanceMethod_X1_root ws_sel_X1_root w_ini_X1 w_code_X1_root) rfl rfl rfl (by decide +kernel) ⟨(Nat.le_of_ble_eq_true rfl), (Nat.le_of_ble_eq_true rfl)⟩) ⟨pre_blind, va_recv hK hP (ci := 1) (q0 := 1) rfl rfl, pre_of hPc hKc hDc hN⟩ rfl rfl hl.1 rfl (lv_room (Nat.le_of_ble_eq_true rfl)) dX1_join_8 ⟨(Nat.le_of_ble_eq_true rfl), (Nat.le_of_ble_eq_true rfl)⟩) hS (fun q _ h => hFc q h) hFc (fun r6 u t H locs ht hvm hq hB hz1 hk1 hS9 => ?_)
  obtain ⟨hP1, hD1⟩ := hB
  rw [ht] at hP1
  obtain ⟨hP9, hD9⟩ := va_join (wr := [(h_jnd, .inl (cy_jnd, 1024, .inl f_jnd))]) (w1 := [(h_bd, .inr (1, (mo11 vq5 (.ref h_sam)))), (h_sam, .inl (cy_sam, 9600, .inl f_sam))]) hP hD [1, 2] [0] rfl rfl (by decide) (by decide) hk1 hFc hP1 hD1
  clear hP hD hS hPc hDc hKc hFc hP1 hD1 hk1 hz1 ht hvm
  have hP : va_P (dC, dI) cls [(h_jnd, .inl (cy_jnd, 1024, .inl f_jnd)), (h_bd, .inr (1, (mo11 vq5 (.ref h_sam)))), (h_sam, .inl (cy_sam, 9600, .inl f_sam))] H := hP9
  have hD : va_D A [(h_jnd, .inl (cy_jnd, 1024, .inl f_jnd)), (h_bd, .inr (1, (mo11 vq5 (.ref h_sam)))), (h_sam, .inl (cy_sam, 9600, .inl f_sam))] := hD9
  have hS := hS9
  clear hP9 hD9 hS9
  rw [evq5] at hP hD
  replace hP : va_P (dC, dI) cls [(h_jnd, .inl (cy_jnd, 1024, .inl f_jnd)), (h_bd, .inr (1, (mo12 v_bd (.ref h_sam) (.ref h_jnd) (.int x_bd_joins)))), (h_sam, .inl (cy_sam, 9600, .inl f_sam))] H := hP
  replace hD : va_D A [(h_jnd, .inl (cy_jnd, 1024, .inl f_jnd)), (h_bd, .inr (1, (mo12 v_bd (.ref h_sam) (.ref h_jnd) (.int x_bd_joins)))), (h_sam, .inl (cy_sam, 9600, .inl f_sam))] := hD
  clear evq5 
  obtain ⟨k7, k8⟩ := hq
  replace k7 : 0 ≤ (r6).toInt ∧ (r6).toInt ≤ 9599 := k7
  replace k8 : RTX f_sam (p2) (r6) := k8
  refine lv_istore (lv' := [(4, .int r6), (3, .int r2), (0, .ref h_bd), (1, .int p1), (2, .int p2)]) hx hb dX1_join_11 hl (by decide) rfl (fun ls hl => ?_)
  refine lv_iload_n hx hb dX1_join_13 rfl (lv_at hl 1 rfl) ?_
  refine lv_iload hx hb dX1_join_14 (lv_at hl 0 rfl) ?_
  refine lv_icmp_eq (tgt := 56) hx hb dX1_join_16 (by decide) (fun c9 => ?_) (fun c9 => ?_)
  · have kc9 := (cv_eq (rfl : (r2).toInt = (r2).toInt) (rfl : (r6).toInt = (r6).toInt)).mp c9
    replace hP : va_P (dC, dI) cls [(h_bd, .inr (1, (mo12 v_bd (.ref h_sam) (.ref h_jnd) (.int x_bd_joins)))), (h_sam, .inl (cy_sam, 9600, .inl f_sam)), (h_jnd, .inl (cy_jnd, 1024, .inl f_jnd))] H := hP.sub [1, 2, 0] rfl
    replace hD : va_D A [(h_bd, .inr (1, (mo12 v_bd (.ref h_sam) (.ref h_jnd) (.int x_bd_joins)))), (h_sam, .inl (cy_sam, 9600, .inl f_sam)), (h_jnd, .inl (cy_jnd, 1024, .inl f_jnd))] := hD.sub [1, 2, 0] (by decide) rfl
    refine W.widen (k := 0) (n := 0) (Nat.le_of_ble_eq_true rfl) (Nat.le_of_ble_eq_true rfl) ?_
    have w10 : 0 ≤ ((x_bd_joins)).toInt ∧ ((x_bd_joins)).toInt ≤ 1024 := by first | exact hx_bd_joins | omega
    have w11 : JNX f_sam (f_sam) f_jnd (f_jnd) x_bd_joins (x_bd_joins) p1 p2 := ⟨r2, r6, k4, k8, by omega, by omega, Or.inl ⟨by omega, rfl, rfl, rfl⟩⟩
    exact W.vret hx hb hr (fun t ht hW => ⟨⟨(x_bd_joins, f_sam, f_jnd), rfl, ⟨w10, hf_sam, hf_jnd, w11⟩, by rw [ht]; exact hP, hD⟩, hS.F ht⟩) hS.2.2 dX1_join_56
  · have kc9 := (not_congr (cv_eq (rfl : (r2).toInt = (r2).toInt) (rfl : (r6).toInt = (r6).toInt))).mp c9
    refine lv_aload_n hx hb dX1_join_19 rfl (lv_at hl 2 rfl) ?_
    refine va_get (D := (dC, dI)) (ci := 1) (v := .int x_bd_joins) (C := RX1) (T := TX1) (N := 13) hx hb hw iwX1 hown hK hP 1 rfl rfl 6 (by decide) (hw _ w_f_X1_52) (fun _ h9 => h9) rfl dX1_join_20 ?_
    refine lv_sipush (v := 1024) hx hb dX1_join_23 (by decide) ?_
    refine lv_icmp_ge (tgt := 56) hx hb dX1_join_26 (by decide) (fun c12 => ?_) (fun c12 => ?_)
    · have kc12 := (cv_le (by decide : (1024 : Int32).toInt = 1024) (rfl : (x_bd_joins).toInt = (x_bd_joins).toInt)).mp c12
      replace hP : va_P (dC, dI) cls [(h_bd, .inr (1, (mo12 v_bd (.ref h_sam) (.ref h_jnd) (.int x_bd_joins)))), (h_sam, .inl (cy_sam, 9600, .inl f_sam)), (h_jnd, .inl (cy_jnd, 1024, .inl f_jnd))] H := hP.sub [1, 2, 0] rfl
      replace hD : va_D A [(h_bd, .inr (1, (mo12 v_bd (.ref h_sam) (.ref h_jnd) (.int x_bd_joins)))), (h_sam, .inl (cy_sam, 9600, .inl f_sam)), (h_jnd, .inl (cy_jnd, 1024, .inl f_jnd))] := hD.sub [1, 2, 0] (by decide) rfl
      refine W.widen (k := 0) (n := 0) (Nat.le_of_ble_eq_true rfl) (Nat.le_of_ble_eq_true rfl) ?_
      have w13 : 0 ≤ ((x_bd_joins)).toInt ∧ ((x_bd_joins)).toInt ≤ 1024 := by first | exact hx_bd_joins | omega
      have w14 : JNX f_sam (f_sam) f_jnd (f_jnd) x_bd_joins (x_bd_joins) p1 p2 := ⟨r2, r6, k4, k8, by omega, by omega, Or.inl ⟨by omega, rfl, rfl, rfl⟩⟩
      exact W.vret hx hb hr (fun t ht hW => ⟨⟨(x_bd_joins, f_sam, f_jnd), rfl, ⟨w13, hf_sam, hf_jnd, w14⟩, by rw [ht]; exact hP, hD⟩, hS.F ht⟩) hS.2.2 dX1_join_56
    · have kc12 := (not_congr (cv_le (by decide : (1024 : Int32).toInt = 1024) (rfl : (x_bd_joins).toInt = (x_bd_joins).toInt))).mp c12
      refine lv_aload_n hx hb dX1_join_29 rfl (lv_at hl 2 rfl) ?_
      refine va_get (D := (dC, dI)) (ci := 1) (v := .ref h_sam) (C := RX1) (T := TX1) (N := 13) hx hb hw iwX1 hown hK hP 1 rfl rfl 4 (by decide) (hw _ w_f_X1_18) (fun _ h9 => h9) rfl dX1_join_30 ?_
      refine lv_iload_n hx hb dX1_join_33 rfl (lv_at hl 1 rfl) ?_
      refine lv_iload hx hb dX1_join_34 (lv_at hl 0 rfl) ?_
      refine lv_iconst (v := 1) hx hb dX1_join_36 (by decide) ?_
      refine lv_iadd hx hb dX1_join_37 ?_
      refine lv_topi (fun z15 ez15 => ?_)
      have tz15 : (z15).toInt = (r6).toInt + 1 := by rw [ez15]; exact i_add rfl (by decide) (by omega)
      refine va_iast hx hb hK hP hD hS 2 0 rfl rfl (i := r2) (x := z15) (vp_in_iff.mpr (by omega)) dX1_join_38 (fun H locs hP9 hD9 hS9 => ?_)
      obtain ⟨f16, ef16⟩ : ∃ g : Nat → Int32, g = upd f_sam (Int32.toNatClampNeg r2) z15 := ⟨_, rfl⟩
      clear hP hD hS
      have hP : va_P (dC, dI) cls [(h_jnd, .inl (cy_jnd, 1024, .inl f_jnd)), (h_bd, .inr (1, (mo12 v_bd (.ref h_sam) (.ref h_jnd) (.int x_bd_joins)))), (h_sam, .inl (cy_sam, 9600, .inl f16))] H := by rw [ef16]; exact hP9
      have hD : va_D A [(h_jnd, .inl (cy_jnd, 1024, .inl f_jnd)), (h_bd, .inr (1, (mo12 v_bd (.ref h_sam) (.ref h_jnd) (.int x_bd_joins)))), (h_sam, .inl (cy_sam, 9600, .inl f16))] := by rw [ef16]; exact hD9
      have hS := hS9
      clear hP9 hD9 hS9
      have hf16 : Rg 0 9600 f16 := by rw [ef16]; exact rg_upd hf_sam (by omega)
      refine lv_aload_n hx hb dX1_join_39 rfl (lv_at hl 2 rfl) ?_
      refine va_get (D := (dC, dI)) (ci := 1) (v := .ref h_jnd) (C := RX1) (T := TX1) (N := 13) hx hb hw iwX1 hown hK hP 1 rfl rfl 5 (by decide) (hw _ w_f_X1_21) (fun _ h9 => h9) rfl dX1_join_40 ?_
      refine lv_aload_n hx hb dX1_join_43 rfl (lv_at hl 2 rfl) ?_
      refine lv_dup hx hb dX1_join_44 rfl ?_
      refine va_get (D := (dC, dI)) (ci := 1) (v := .int x_bd_joins) (C := RX1) (T := TX1) (N := 13) hx hb hw iwX1 hown hK hP 1 rfl rfl 6 (by decide) (hw _ w_f_X1_52) (fun _ h9 => h9) rfl dX1_join_45 ?_
      refine lv_dup_x1 hx hb dX1_join_48 rfl rfl ?_
      refine lv_iconst (v := 1) hx hb dX1_join_49 (by decide) ?_
      refine lv_iadd hx hb dX1_join_50 ?_
      refine lv_topi (fun z17 ez17 => ?_)
      have tz17 : (z17).toInt = (x_bd_joins).toInt + 1 := by rw [ez17]; exact i_add rfl (by decide) (by omega)
      refine va_put (D := (dC, dI)) (ci := 1) (v := .int z17) (ty := tyX1 6) (C := RX1) (T := TX1) (N := 13) hx hb hw iwX1 tyX1 tyX1_ok nmX1 hown hK hP hD hS 1 rfl rfl 6 (by decide) (hw _ w_f_X1_52) (fun _ h9 => h9) rfl (tyX1_ok 6 (by decide)) rfl rfl (Nat.le_of_ble_eq_true rfl) dX1_join_51 (fun H locs hP9 hD9 hS9 => ?_)
      clear hP hD hS
      have hP : va_P (dC, dI) cls [(h_jnd, .inl (cy_jnd, 1024, .inl f_jnd)), (h_bd, .inr (1, (mo12 v_bd (.ref h_sam) (.ref h_jnd) (.int z17)))), (h_sam, .inl (cy_sam, 9600, .inl f16))] H := hP9
      have hD : va_D A [(h_jnd, .inl (cy_jnd, 1024, .inl f_jnd)), (h_bd, .inr (1, (mo12 v_bd (.ref h_sam) (.ref h_jnd) (.int z17)))), (h_sam, .inl (cy_sam, 9600, .inl f16))] := hD9
      have hS := hS9
      clear hP9 hD9 hS9
      refine lv_iload_n hx hb dX1_join_54 rfl (lv_at hl 1 rfl) ?_
      refine va_iast hx hb hK hP hD hS 0 1 rfl rfl (i := x_bd_joins) (x := r2) (vp_in_iff.mpr (by omega)) dX1_join_55 (fun H locs hP9 hD9 hS9 => ?_)
      obtain ⟨f18, ef18⟩ : ∃ g : Nat → Int32, g = upd f_jnd (Int32.toNatClampNeg x_bd_joins) r2 := ⟨_, rfl⟩
      clear hP hD hS
      have hP : va_P (dC, dI) cls [(h_jnd, .inl (cy_jnd, 1024, .inl f18)), (h_bd, .inr (1, (mo12 v_bd (.ref h_sam) (.ref h_jnd) (.int z17)))), (h_sam, .inl (cy_sam, 9600, .inl f16))] H := by rw [ef18]; exact hP9
      have hD : va_D A [(h_jnd, .inl (cy_jnd, 1024, .inl f18)), (h_bd, .inr (1, (mo12 v_bd (.ref h_sam) (.ref h_jnd) (.int z17)))), (h_sam, .inl (cy_sam, 9600, .inl f16))] := by rw [ef18]; exact hD9
      have hS := hS9
      clear hP9 hD9 hS9
      have hf18 : Rg 0 9599 f18 := by rw [ef18]; exact rg_upd hf_jnd (by omega)
      replace hP : va_P (dC, dI) cls [(h_bd, .inr (1, (mo12 v_bd (.ref h_sam) (.ref h_jnd) (.int z17)))), (h_sam, .inl (cy_sam, 9600, .inl f16)), (h_jnd, .inl (cy_jnd, 1024, .inl f18))] H := hP.sub [1, 2, 0] rfl
      replace hD : va_D A [(h_bd, .inr (1, (mo12 v_bd (.ref h_sam) (.ref h_jnd) (.int z17)))), (h_sam, .inl (cy_sam, 9600, .inl f16)), (h_jnd, .inl (cy_jnd, 1024, .inl f18))] := hD.sub [1, 2, 0] (by decide) rfl
      refine W.widen (k := 0) (n := 0) (Nat.le_of_ble_eq_true rfl) (Nat.le_of_ble_eq_true rfl) ?_
      have w19 : 0 ≤ ((z17)).toInt ∧ ((z17)).toInt ≤ 1024 := by omega
      have w20 : JNX f_sam (f16) f_jnd (f18) x_bd_joins (z17) p1 p2 := ⟨r2, r6, k4, k8, by omega, by omega, Or.inr ⟨z15, by omega, ef16, ef18, by omega⟩⟩
      exact W.vret hx hb hr (fun t ht hW => ⟨⟨(z17, f16, f18), rfl, ⟨w19, hf16, hf18, w20⟩, by rw [ht]; exact hP, hD⟩, hS.F ht⟩) hS.2.2 dX1_join_56

