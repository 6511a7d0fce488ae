set_option maxHeartbeats 8000000 in
set_option maxRecDepth 100000 in
theorem c_X1_parts_s (l : Launch) (dC : Nat → ClassId) (dI : Nat → Nat → Nat) (sz : Nat) (h_bd : Nat) (h_bnd : Nat) (h_hol : Nat) (h_td : Nat) (h_var : Nat) (h_trm : Nat) (h_ter : Nat) (v_bd : Nat → Value) (cy_bnd : ClassId) (f_bnd : Nat → Int32) (cy_hol : ClassId) (f_hol : Nat → Int32) (v_td : Nat → Value) (cy_var : ClassId) (f_var : Nat → Int32) (cy_trm : ClassId) (f_trm : Nat → Int32) (cy_ter : ClassId) (f_ter : Nat → Int32) (p1 : Int32) (p2 : Int32) (g : GVT) (S : Nat → Prop) (hf_bnd : Rg 0 9600 f_bnd) (hf_hol : Rg 0 9599 f_hol) (hf_var : Rg (-1) 7 f_var) (hf_trm : Rg 0 3 f_trm) (hf_ter : Rg 0 299 f_ter) (q0 : 0 ≤ (p1).toInt ∧ (p1).toInt ≤ 9599) (q1 : 0 ≤ (p2).toInt ∧ (p2).toInt ≤ 2000) (hn_gvv : GVV g f_var) (hn_gvk : GVK g f_trm f_ter) (hn_wfs : WSG g (BDV f_bnd) S) (hn_sp1 : S (p1).toInt.toNat) : Met l yX1_parts (Ws yX1_parts cX1_parts 9 (some .int)) (({ frames := 1, cells := 0, slots := 0, locals := 25 } : Room)) (PRE (dC, dI) cls [(cy_bnd, .int), (cy_hol, .int), (cy_var, .int), (cy_trm, .int), (cy_ter, .int)] [(h_bd, .inr (1, (mo19 v_bd (.ref h_td) (.ref h_bnd) (.ref h_hol)))), (h_bnd, .inl (cy_bnd, 256, .inl f_bnd)), (h_hol, .inl (cy_hol, 2048, .inl f_hol)), (h_td, .inr (5, (mo18 v_td (.ref h_var) (.ref h_trm) (.ref h_ter)))), (h_var, .inl (cy_var, 300, .inl f_var)), (h_trm, .inl (cy_trm, 300, .inl f_trm)), (h_ter, .inl (cy_ter, 900, .inl f_ter))] sz [.ref h_bd, .int p1, .int p2]) (va_Qi (fun (r : Int32) (u : (Nat → Int32)) => (Rg 0 9599 u) ∧ (0 ≤ r.toInt ∧ r.toInt ≤ 2001) ∧ (((r).toInt ≤ (p2).toInt ∧ SMn g (BDV f_bnd) (p2).toInt.toNat [(p1).toInt.toNat]) ∨ ((p2).toInt < (r).toInt ∧ ¬ SMn g (BDV f_bnd) (p2).toInt.toNat [(p1).toInt.toNat]))) (fun (u : (Nat → Int32)) (t : State) => va_P (dC, dI) cls [(h_bd, .inr (1, (mo19 v_bd (.ref h_td) (.ref h_bnd) (.ref h_hol)))), (h_bnd, .inl (cy_bnd, 256, .inl f_bnd)), (h_hol, .inl (cy_hol, 2048, .inl u)), (h_td, .inr (5, (mo18 v_td (.ref h_var) (.ref h_trm) (.ref h_ter)))), (h_var, .inl (cy_var, 300, .inl f_var)), (h_trm, .inl (cy_trm, 300, .inl f_trm)), (h_ter, .inl (cy_ter, 900, .inl f_ter))] t.heap ∧ va_D (va_A [(h_bd, .inr (1, (mo19 v_bd (.ref h_td) (.ref h_bnd) (.ref h_hol)))), (h_bnd, .inl (cy_bnd, 256, .inl f_bnd)), (h_hol, .inl (cy_hol, 2048, .inl f_hol)), (h_td, .inr (5, (mo18 v_td (.ref h_var) (.ref h_trm) (.ref h_ter)))), (h_var, .inl (cy_var, 300, .inl f_var)), (h_trm, .inl (cy_trm, 300, .inl f_trm)), (h_ter, .inl (cy_ter, 900, .inl f_ter))] sz) [(h_bd, .inr (1, (mo19 v_bd (.ref h_td) (.ref h_bnd) (.ref h_hol)))), (h_bnd, .inl (cy_bnd, 256, .inl f_bnd)), (h_hol, .inl (cy_hol, 2048, .inl u)), (h_td, .inr (5, (mo18 v_td (.ref h_var) (.ref h_trm) (.ref h_ter)))), (h_var, .inl (cy_var, 300, .inl f_var)), (h_trm, .inl (cy_trm, 300, .inl f_trm)), (h_ter, .inl (cy_ter, 900, .inl f_ter))]) (va_A [(h_bd, .inr (1, (mo19 v_bd (.ref h_td) (.ref h_bnd) (.ref h_hol)))), (h_bnd, .inl (cy_bnd, 256, .inl f_bnd)), (h_hol, .inl (cy_hol, 2048, .inl f_hol)), (h_td, .inr (5, (mo18 v_td (.ref h_var) (.ref h_trm) (.ref h_ter)))), (h_var, .inl (cy_var, 300, .inl f_var)), (h_trm, .inl (cy_trm, 300, .inl f_trm)), (h_ter, .inl (cy_ter, 900, .inl f_ter))] sz)) 0 0 (va_A [(h_bd, .inr (1, (mo19 v_bd (.ref h_td) (.ref h_bnd) (.ref h_hol)))), (h_bnd, .inl (cy_bnd, 256, .inl f_bnd)), (h_hol, .inl (cy_hol, 2048, .inl f_hol)), (h_td, .inr (5, (mo18 v_td (.ref h_var) (.ref h_trm) (.ref h_ter)))), (h_var, .inl (cy_var, 300, .inl f_var)), (h_trm, .inl (cy_trm, 300, .inl f_trm)), (h_ter, .inl (cy_ter, 900, .inl f_ter))] sz) := by
  refine Met.ofW (cc := cX1_parts) (maxL := 9) (ret := (some .int)) (by decide) rfl ?_
  intro p e s m args below meth c s₁ B hml hv
  obtain ⟨rfl, hsz, hP, hK, hD0, hN⟩ := hv
  have hx := B.exec
  have hb := B.bytes
  have hr := B.returns
  have hts := atoms_spec (ws := Ws yX1_parts cX1_parts 9 (some .int)) B.pre
  have hT : ∀ w ∈ WALL, w ∈ Ws yX1_parts cX1_parts 9 (some .int) := fun w h => List.mem_cons_of_mem _ h
  have hw := fun w (h : w ∈ WALL) => hts w (hT w h)
  have hown : s.vm.findClass RX1 = some m.cls := findClass_of_methodNamed B.named
  have hlocks := B.notSynchronized
  subst hsz
  have hD := hD0.self (sz := s.heap.size)
  generalize hAe : va_A [(h_bd, .inr (1, (mo19 v_bd (.ref h_td) (.ref h_bnd) (.ref h_hol)))), (h_bnd, .inl (cy_bnd, 256, .inl f_bnd)), (h_hol, .inl (cy_hol, 2048, .inl f_hol)), (h_td, .inr (5, (mo18 v_td (.ref h_var) (.ref h_trm) (.ref h_ter)))), (h_var, .inl (cy_var, 300, .inl f_var)), (h_trm, .inl (cy_trm, 300, .inl f_trm)), (h_ter, .inl (cy_ter, 900, .inl f_ter))] s.heap.size = A at hD ⊢
  have hA : ∀ q : Nat, s.heap.size ≤ q → A q := fun q h => by rw [← hAe]; exact Or.inr h
  have hS : va_S A s.heap s.heap [] := va_S.rf
  have hl := lv_entry ([.ref h_bd, .int p1, .int p2]) (n := 9) (Nat.le_of_ble_eq_true rfl)
  rw [lg_entry_eq]
  generalize (lg_sl ([.ref h_bd, .int p1, .int p2]) ++ List.replicate (9 - (lg_sl ([.ref h_bd, .int p1, .int p2])).length) Slot.unset).toArray = ls at hl ⊢
  have hl : lv_has ls 9 [(0, .ref h_bd), (1, .int p1), (2, .int p2)] := hl
  refine lv_iconst (v := 0) hx hb dX1_parts_0 (by decide) ?_
  refine lv_istore_n (lv' := [(3, .int 0), (0, .ref h_bd), (1, .int p1), (2, .int p2)]) hx hb dX1_parts_1 rfl hl (by decide) rfl (fun ls hl => ?_)
  refine lv_iconst (v := 1) hx hb dX1_parts_2 (by decide) ?_
  refine lv_istore (lv' := [(4, .int 1), (3, .int 0), (0, .ref h_bd), (1, .int p1), (2, .int p2)]) hx hb dX1_parts_3 hl (by decide) rfl (fun ls hl => ?_)
  refine lv_aload_n hx hb dX1_parts_5 rfl (lv_at hl 2 rfl) ?_
  refine va_get (D := (dC, dI)) (ci := 1) (v := .ref h_hol) (C := RX1) (T := TX1) (N := 13) hx hb hw iwX1 hown hK hP 0 rfl rfl 10 (by decide) (hw _ w_f_X1_30) (fun _ h9 => h9) rfl dX1_parts_6 ?_
  refine lv_iconst (v := 0) hx hb dX1_parts_9 (by decide) ?_
  refine lv_iload_n hx hb dX1_parts_10 rfl (lv_at hl 3 rfl) ?_
  refine va_iast hx hb hK hP hD hS 2 1 rfl rfl (i := 0) (x := p1) (show ¬ _ from by decide) dX1_parts_11 (fun H locs hP9 hD9 hS9 => ?_)
  obtain ⟨f1, ef1⟩ : ∃ g : Nat → Int32, g = upd f_hol (Int32.toNatClampNeg 0) p1 := ⟨_, rfl⟩
  clear hP hD hS
  have hP : va_P (dC, dI) cls [(h_bd, .inr (1, (mo19 v_bd (.ref h_td) (.ref h_bnd) (.ref h_hol)))), (h_bnd, .inl (cy_bnd, 256, .inl f_bnd)), (h_hol, .inl (cy_hol, 2048, .inl f1)), (h_td, .inr (5, (mo18 v_td (.ref h_var) (.ref h_trm) (.ref h_ter)))), (h_var, .inl (cy_var, 300, .inl f_var)), (h_trm, .inl (cy_trm, 300, .inl f_trm)), (h_ter, .inl (cy_ter, 900, .inl f_ter))] H := by rw [ef1]; exact hP9
  have hD : va_D A [(h_bd, .inr (1, (mo19 v_bd (.ref h_td) (.ref h_bnd) (.ref h_hol)))), (h_bnd, .inl (cy_bnd, 256, .inl f_bnd)), (h_hol, .inl (cy_hol, 2048, .inl f1)), (h_td, .inr (5, (mo18 v_td (.ref h_var) (.ref h_trm) (.ref h_ter)))), (h_var, .inl (cy_var, 300, .inl f_var)), (h_trm, .inl (cy_trm, 300, .inl f_trm)), (h_ter, .inl (cy_ter, 900, .inl f_ter))] := by rw [ef1]; exact hD9
  have hS := hS9
  clear hP9 hD9 hS9
  have hf1 : Rg 0 9599 f1 := by rw [ef1]; exact rg_upd hf_hol (by omega)
  have ps0 : PSM g (BDV f_bnd) S (p1).toInt.toNat f1 1 0 := psm_zero hn_sp1 (by have h9 := ef1; rw [show Int32.toNatClampNeg (0 : Int32) = 0 by decide] at h9; exact h9)
  refine lv_iconst (v := 0) hx hb dX1_parts_12 (by decide) ?_
  refine lv_istore (lv' := [(5, .int 0), (4, .int 1), (3, .int 0), (0, .ref h_bd), (1, .int p1), (2, .int p2)]) hx hb dX1_parts_13 hl (by decide) rfl (fun ls hl => ?_)
  have lp6 : ∀ (n : Nat) (x2 : Int32) (x3 : Int32) (x4 : Int32) (f5 : Nat → Int32) (H : Heap) (locs : List Loc) (ls : Array Slot), (0 ≤ (x2).toInt ∧ (x2).toInt ≤ 2000) → (0 ≤ (x3).toInt ∧ (x3).toInt ≤ 2048) → (0 ≤ (x4).toInt ∧ (x4).toInt ≤ 1000000) → (Rg 0 9599 f5) → ((x4).toInt = (x2).toInt) → ((x2).toInt ≤ (p2).toInt) → (PSM g (BDV f_bnd) S (p1).toInt.toNat f5 ((x3).toInt) ((x2).toInt)) → (1000000 - (x4).toInt).toNat + 1 ≤ n → va_P (dC, dI) cls [(h_bd, .inr (1, (mo19 v_bd (.ref h_td) (.ref h_bnd) (.ref h_hol)))), (h_bnd, .inl (cy_bnd, 256, .inl f_bnd)), (h_hol, .inl (cy_hol, 2048, .inl f5)), (h_td, .inr (5, (mo18 v_td (.ref h_var) (.ref h_trm) (.ref h_ter)))), (h_var, .inl (cy_var, 300, .inl f_var)), (h_trm, .inl (cy_trm, 300, .inl f_trm)), (h_ter, .inl (cy_ter, 900, .inl f_ter))] H → va_D A [(h_bd, .inr (1, (mo19 v_bd (.ref h_td) (.ref h_bnd) (.ref h_hol)))), (h_bnd, .inl (cy_bnd, 256, .inl f_bnd)), (h_hol, .inl (cy_hol, 2048, .inl f5)), (h_td, .inr (5, (mo18 v_td (.ref h_var) (.ref h_trm) (.ref h_ter)))), (h_var, .inl (cy_var, 300, .inl f_var)), (h_trm, .inl (cy_trm, 300, .inl f_trm)), (h_ter, .inl (cy_ter, 900, .inl f_ter))] → va_S A s.heap H locs → lv_has ls 9 [(0, .ref h_bd), (1, .int p1), (2, .int p2), (3, .int x2), (4, .int x3), (5, .int x4)] → W p l e ({ frames := 1, cells := 0, slots := 0, locals := 25 } : Room) s m ([.ref h_bd, .int p1, .int p2] : List Value).toArray below meth c H locs 0 0 (MQ below (va_Qi (fun (r : Int32) (u : (Nat → Int32)) => (Rg 0 9599 u) ∧ (0 ≤ r.toInt ∧ r.toInt ≤ 2001) ∧ (((r).toInt ≤ (p2).toInt ∧ SMn g (BDV f_bnd) (p2).toInt.toNat [(p1).toInt.toNat]) ∨ ((p2).toInt < (r).toInt ∧ ¬ SMn g (BDV f_bnd) (p2).toInt.toNat [(p1).toInt.toNat]))) (fun (u : (Nat → Int32)) (t : State) => va_P (dC, dI) cls [(h_bd, .inr (1, (mo19 v_bd (.ref h_td) (.ref h_bnd) (.ref h_hol)))), (h_bnd, .inl (cy_bnd, 256, .inl f_bnd)), (h_hol, .inl (cy_hol, 2048, .inl u)), (h_td, .inr (5, (mo18 v_td (.ref h_var) (.ref h_trm) (.ref h_ter)))), (h_var, .inl (cy_var, 300, .inl f_var)), (h_trm, .inl (cy_trm, 300, .inl f_trm)), (h_ter, .inl (cy_ter, 900, .inl f_ter))] t.heap ∧ va_D A [(h_bd, .inr (1, (mo19 v_bd (.ref h_td) (.ref h_bnd) (.ref h_hol)))), (h_bnd, .inl (cy_bnd, 256, .inl f_bnd)), (h_hol, .inl (cy_hol, 2048, .inl u)), (h_td, .inr (5, (mo18 v_td (.ref h_var) (.ref h_trm) (.ref h_ter)))), (h_var, .inl (cy_var, 300, .inl f_var)), (h_trm, .inl (cy_trm, 300, .inl f_trm)), (h_ter, .inl (cy_ter, 900, .inl f_ter))]) A) ([.ref h_bd, .int p1, .int p2] : List Value).toArray s 0 0 A) (F0 m 15 ls []) := by
    clear hP hD hS hl
    intro n
    induction n with
    | zero => intro x2 x3 x4 f5 H locs ls klp6_0 klp6_1 klp6_2 hf5 klp6_4 klp6_5 klp6_6 hm hP hD hS hl; exact False.elim (by omega)
    | succ n ih => 
      intro x2 x3 x4 f5 H locs ls klp6_0 klp6_1 klp6_2 hf5 klp6_4 klp6_5 klp6_6 hm hP hD hS hl
      have ih7 := ih
      clear ih
      refine lv_iload hx hb dX1_parts_15 (lv_at hl 5 rfl) ?_
      refine lv_ldc (v := 1000000) hx hb hown (hw _ w_k_X1_55) dX1_parts_17 ?_
      refine lv_icmp_ge (tgt := 137) hx hb dX1_parts_19 (by decide) (fun c8 => False.elim (by have kc8 := (cv_le (by decide : (1000000 : Int32).toInt = 1000000) (rfl : (x4).toInt = (x4).toInt)).mp c8; omega)) (fun _ => ?_)
      refine lv_iload hx hb dX1_parts_22 (lv_at hl 4 rfl) ?_
      refine lv_if_le (tgt := 137) hx hb dX1_parts_24 (by decide) (fun c9 => ?_) (fun c9 => ?_)
      · have kc9 := (cv_le (rfl : (x3).toInt = (x3).toInt) (by decide : (0 : Int32).toInt = 0)).mp c9
        refine lv_iload_n hx hb dX1_parts_137 rfl (lv_at hl 3 rfl) ?_
        refine W.widen (k := 0) (n := 0) (Nat.le_of_ble_eq_true rfl) (Nat.le_of_ble_eq_true rfl) ?_
        have w10 : 0 ≤ (x2 : Int32).toInt ∧ (x2 : Int32).toInt ≤ 2001 := by omega
        have w11 : (((x2 : Int32)).toInt ≤ (p2).toInt ∧ SMn g (BDV f_bnd) (p2).toInt.toNat [(p1).toInt.toNat]) ∨ ((p2).toInt < ((x2 : Int32)).toInt ∧ ¬ SMn g (BDV f_bnd) (p2).toInt.toNat [(p1).toInt.toNat]) := (Or.inl ⟨by omega, psm_end klp6_6 (by omega) (by omega)⟩)
        exact W.iret (v := x2) hx hb hr (fun t ht hW => ⟨⟨x2, f5, rfl, ⟨hf5, w10, w11⟩, by rw [ht]; exact hP, hD⟩, hS.F ht⟩) hS.2.2 dX1_parts_138
      · have kc9 := (not_congr (cv_le (rfl : (x3).toInt = (x3).toInt) (by decide : (0 : Int32).toInt = 0))).mp c9
        refine lv_iload_n hx hb dX1_parts_27 rfl (lv_at hl 3 rfl) ?_
        refine lv_iload hx hb dX1_parts_28 (lv_at hl 4 rfl) ?_
        refine lv_iadd hx hb dX1_parts_30 ?_
        refine lv_topi (fun z12 ez12 => ?_)
        have tz12 : (z12).toInt = (x2).toInt + (x3).toInt := by rw [ez12]; exact i_add rfl rfl (by omega)
        refine lv_iload_n hx hb dX1_parts_31 rfl (lv_at hl 2 rfl) ?_
        refine lv_icmp_gt (tgt := 45) hx hb dX1_parts_32 (by decide) (fun c13 => ?_) (fun c13 => ?_)
        · have kc13 := (cv_lt (rfl : (p2).toInt = (p2).toInt) (rfl : (z12).toInt = (z12).toInt)).mp c13
          refine lv_iload_n hx hb dX1_parts_45 rfl (lv_at hl 2 rfl) ?_
          refine lv_iconst (v := 1) hx hb dX1_parts_46 (by decide) ?_
          refine lv_iadd hx hb dX1_parts_47 ?_
          refine lv_topi (fun z14 ez14 => ?_)
          have tz14 : (z14).toInt = (p2).toInt + 1 := by rw [ez14]; exact i_add rfl (by decide) (by omega)
          refine W.widen (k := 0) (n := 0) (Nat.le_of_ble_eq_true rfl) (Nat.le_of_ble_eq_true rfl) ?_
          have w15 : 0 ≤ (z14 : Int32).toInt ∧ (z14 : Int32).toInt ≤ 2001 := by omega
          have w16 : (((z14 : Int32)).toInt ≤ (p2).toInt ∧ SMn g (BDV f_bnd) (p2).toInt.toNat [(p1).toInt.toNat]) ∨ ((p2).toInt < ((z14 : Int32)).toInt ∧ ¬ SMn g (BDV f_bnd) (p2).toInt.toNat [(p1).toInt.toNat]) := (Or.inr ⟨by omega, psm_out klp6_6 (by omega) (by omega)⟩)
          exact W.iret (v := z14) hx hb hr (fun t ht hW => ⟨⟨z14, f5, rfl, ⟨hf5, w15, w16⟩, by rw [ht]; exact hP, hD⟩, hS.F ht⟩) hS.2.2 dX1_parts_48
        · have kc13 := (not_congr (cv_lt (rfl : (p2).toInt = (p2).toInt) (rfl : (z12).toInt = (z12).toInt))).mp c13
          refine lv_iload hx hb dX1_parts_35 (lv_at hl 4 rfl) ?_
          refine lv_iconst (v := 3) hx hb dX1_parts_37 (by decide) ?_
          refine lv_iadd hx hb dX1_parts_38 ?_
          refine lv_topi (fun z17 ez17 => ?_)
          have tz17 : (z17).toInt = (x3).toInt + 3 := by rw [ez17]; exact i_add rfl (by decide) (by omega)
          refine lv_sipush (v := 2048) hx hb dX1_parts_39 (by decide) ?_
          refine lv_icmp_le (tgt := 49) hx hb dX1_parts_42 (by decide) (fun _ => ?_) (fun c18 => False.elim (by have kc18 := (not_congr (cv_le (rfl : (z17).toInt = (z17).toInt) (by decide : (2048 : Int32).toInt = 2048))).mp c18; omega))
          obtain ⟨z19, ez19⟩ : ∃ y : Int32, y = x3 + (-1) := ⟨_, rfl⟩
          have tz19 : (z19).toInt = (x3).toInt + -1 := by rw [ez19]; exact i_add rfl (by decide) (by omega)
          refine lv_iinc (v := z19) (lv' := [(4, .int z19), (0, .ref h_bd), (1, .int p1), (2, .int p2), (3, .int x2), (5, .int x4)]) hx hb dX1_parts_49 hl (k := 4) rfl (by rw [ez19]; rfl) (by decide) rfl (fun ls hl => ?_)
          obtain ⟨z20, ez20⟩ : ∃ y : Int32, y = x2 + 1 := ⟨_, rfl⟩
          have tz20 : (z20).toInt = (x2).toInt + 1 := by rw [ez20]; exact i_add rfl (by decide) (by omega)
          refine lv_iinc (v := z20) (lv' := [(3, .int z20), (4, .int z19), (0, .ref h_bd), (1, .int p1), (2, .int p2), (5, .int x4)]) hx hb dX1_parts_52 hl (k := 4) rfl (by rw [ez20]; rfl) (by decide) rfl (fun ls hl => ?_)
          refine lv_aload_n hx hb dX1_parts_55 rfl (lv_at hl 2 rfl) ?_
          refine lv_aload_n hx hb dX1_parts_56 rfl (lv_at hl 2 rfl) ?_
          refine va_get (D := (dC, dI)) (ci := 1) (v := .ref h_hol) (C := RX1) (T := TX1) (N := 13) hx hb hw iwX1 hown hK hP 0 rfl rfl 10 (by decide) (hw _ w_f_X1_30) (fun _ h9 => h9) rfl dX1_parts_57 ?_
          refine lv_iload hx hb dX1_parts_60 (lv_at hl 1 rfl) ?_
          refine va_iald hx hb hK hP 2 1 rfl rfl (i := z19) (vp_in_iff.mpr (by omega)) dX1_parts_62 ?_
          refine lv_topi (fun z21 ez21 => ?_)
          have rz21 : 0 ≤ (z21).toInt ∧ (z21).toInt ≤ 9599 := by rw [ez21]; exact hf5 _
          obtain ⟨N9, eN9⟩ : ∃ y : Nat, (y : Int) = (z19).toInt := ⟨(z19).toInt.toNat, by omega⟩
          have cz9 : Int32.toNatClampNeg z19 = N9 := by rw [clamp_nat (by omega)]; omega
          have pz9 : (z21).toInt.toNat = prx f5 N9 := by unfold prx; rw [ez21, cz9]
          obtain ⟨vq22, evq22⟩ := mq19_9 v_bd (.ref h_hol)
          replace hP : va_P (dC, dI) cls [(h_bd, .inr (1, (mo9 vq22 (.ref h_td) (.ref h_bnd)))), (h_bnd, .inl (cy_bnd, 256, .inl f_bnd)), (h_hol, .inl (cy_hol, 2048, .inl f5)), (h_td, .inr (5, (mo18 v_td (.ref h_var) (.ref h_trm) (.ref h_ter)))), (h_var, .inl (cy_var, 300, .inl f_var)), (h_trm, .inl (cy_trm, 300, .inl f_trm)), (h_ter, .inl (cy_ter, 900, .inl f_ter))] H := by rw [evq22]; exact hP
          replace hD : va_D A [(h_bd, .inr (1, (mo9 vq22 (.ref h_td) (.ref h_bnd)))), (h_bnd, .inl (cy_bnd, 256, .inl f_bnd)), (h_hol, .inl (cy_hol, 2048, .inl f5)), (h_td, .inr (5, (mo18 v_td (.ref h_var) (.ref h_trm) (.ref h_ter)))), (h_var, .inl (cy_var, 300, .inl f_var)), (h_trm, .inl (cy_trm, 300, .inl f_trm)), (h_ter, .inl (cy_ter, 900, .inl f_ter))] := by rw [evq22]; exact hD
          obtain ⟨vq23, evq23⟩ := mq18_8 v_td (.ref h_trm) (.ref h_ter)
          replace hP : va_P (dC, dI) cls [(h_bd, .inr (1, (mo9 vq22 (.ref h_td) (.ref h_bnd)))), (h_bnd, .inl (cy_bnd, 256, .inl f_bnd)), (h_hol, .inl (cy_hol, 2048, .inl f5)), (h_td, .inr (5, (mo8 vq23 (.ref h_var)))), (h_var, .inl (cy_var, 300, .inl f_var)), (h_trm, .inl (cy_trm, 300, .inl f_trm)), (h_ter, .inl (cy_ter, 900, .inl f_ter))] H := by rw [evq23]; exact hP
          replace hD : va_D A [(h_bd, .inr (1, (mo9 vq22 (.ref h_td) (.ref h_bnd)))), (h_bnd, .inl (cy_bnd, 256, .inl f_bnd)), (h_hol, .inl (cy_hol, 2048, .inl f5)), (h_td, .inr (5, (mo8 vq23 (.ref h_var)))), (h_var, .inl (cy_var, 300, .inl f_var)), (h_trm, .inl (cy_trm, 300, .inl f_trm)), (h_ter, .inl (cy_ter, 900, .inl f_ter))] := by rw [evq23]; exact hD
          have hPc := hP.sub (ws' := [(h_bd, .inr (1, (mo9 vq22 (.ref h_td) (.ref h_bnd)))), (h_bnd, .inl (cy_bnd, 256, .inl f_bnd)), (h_td, .inr (5, (mo8 vq23 (.ref h_var)))), (h_var, .inl (cy_var, 300, .inl f_var))]) [0, 1, 3, 4] rfl
          have hDc := hD.sub (ws' := [(h_bd, .inr (1, (mo9 vq22 (.ref h_td) (.ref h_bnd)))), (h_bnd, .inl (cy_bnd, 256, .inl f_bnd)), (h_td, .inr (5, (mo8 vq23 (.ref h_var)))), (h_var, .inl (cy_var, 300, .inl f_var))]) [0, 1, 3, 4] (by decide) rfl
          have hKc := hK.sub (tys' := [(cy_bnd, .int), (cy_var, .int)]) [0, 2] rfl
          have hFc := va_free (wc := [(h_bd, .inr (1, (mo9 vq22 (.ref h_td) (.ref h_bnd)))), (h_bnd, .inl (cy_bnd, 256, .inl f_bnd)), (h_td, .inr (5, (mo8 vq23 (.ref h_var)))), (h_var, .inl (cy_var, 300, .inl f_var))]) hD hS hA [0, 1, 3, 4] rfl
          refine va_calli (va_runV (As := [.int z21]) (rest := []) ⟨hx, hb, hml, hown, hts⟩ (c_X1_bare_x l dC dI H.size h_bd h_bnd h_td h_var vq22 cy_bnd f_bnd vq23 cy_var f_var z21 g hf_bnd hf_var (by omega) hn_gvv) (cwV 1 hts (gv hT w_m_X1_60 w_instanceMethod_X1_bare ws_sel_X1_bare w_ini_X1 w_code_X1_bare) rfl rfl rfl (by decide +kernel) ⟨(Nat.le_of_ble_eq_true rfl), (Nat.le_of_ble_eq_true rfl)⟩) ⟨pre_blind, va_recv hK hP (ci := 1) (q0 := 0) rfl rfl, pre_of hPc hKc hDc hN⟩ rfl rfl hl.1 rfl (lv_room (Nat.le_of_ble_eq_true rfl)) dX1_parts_63 ⟨(Nat.le_of_ble_eq_true rfl), (Nat.le_of_ble_eq_true rfl)⟩) hS (fun q _ h => hFc q h) hFc (fun r24 u t H locs ht hvm hq hB hz1 hk1 hS9 => ?_)
          obtain ⟨hP1, hD1⟩ := hB
          rw [ht] at hP1
          obtain ⟨hP9, hD9⟩ := va_join (wr := [(h_hol, .inl (cy_hol, 2048, .inl f5)), (h_trm, .inl (cy_trm, 300, .inl f_trm)), (h_ter, .inl (cy_ter, 900, .inl f_ter))]) (w1 := [(h_bd, .inr (1, (mo9 vq22 (.ref h_td) (.ref h_bnd)))), (h_bnd, .inl (cy_bnd, 256, .inl f_bnd)), (h_td, .inr (5, (mo8 vq23 (.ref h_var)))), (h_var, .inl (cy_var, 300, .inl f_var))]) hP hD [0, 1, 3, 4] [2, 5, 6] rfl rfl (by decide) (by decide) hk1 hFc hP1 hD1
          clear hP hD hS hPc hDc hKc hFc hP1 hD1 hk1 hz1 ht hvm
          have hP : va_P (dC, dI) cls [(h_hol, .inl (cy_hol, 2048, .inl f5)), (h_trm, .inl (cy_trm, 300, .inl f_trm)), (h_ter, .inl (cy_ter, 900, .inl f_ter)), (h_bd, .inr (1, (mo9 vq22 (.ref h_td) (.ref h_bnd)))), (h_bnd, .inl (cy_bnd, 256, .inl f_bnd)), (h_td, .inr (5, (mo8 vq23 (.ref h_var)))), (h_var, .inl (cy_var, 300, .inl f_var))] H := hP9
          have hD : va_D A [(h_hol, .inl (cy_hol, 2048, .inl f5)), (h_trm, .inl (cy_trm, 300, .inl f_trm)), (h_ter, .inl (cy_ter, 900, .inl f_ter)), (h_bd, .inr (1, (mo9 vq22 (.ref h_td) (.ref h_bnd)))), (h_bnd, .inl (cy_bnd, 256, .inl f_bnd)), (h_td, .inr (5, (mo8 vq23 (.ref h_var)))), (h_var, .inl (cy_var, 300, .inl f_var))] := hD9
          have hS := hS9
          clear hP9 hD9 hS9
          rw [evq22] at hP hD
          replace hP : va_P (dC, dI) cls [(h_hol, .inl (cy_hol, 2048, .inl f5)), (h_trm, .inl (cy_trm, 300, .inl f_trm)), (h_ter, .inl (cy_ter, 900, .inl f_ter)), (h_bd, .inr (1, (mo19 v_bd (.ref h_td) (.ref h_bnd) (.ref h_hol)))), (h_bnd, .inl (cy_bnd, 256, .inl f_bnd)), (h_td, .inr (5, (mo8 vq23 (.ref h_var)))), (h_var, .inl (cy_var, 300, .inl f_var))] H := hP
          replace hD : va_D A [(h_hol, .inl (cy_hol, 2048, .inl f5)), (h_trm, .inl (cy_trm, 300, .inl f_trm)), (h_ter, .inl (cy_ter, 900, .inl f_ter)), (h_bd, .inr (1, (mo19 v_bd (.ref h_td) (.ref h_bnd) (.ref h_hol)))), (h_bnd, .inl (cy_bnd, 256, .inl f_bnd)), (h_td, .inr (5, (mo8 vq23 (.ref h_var)))), (h_var, .inl (cy_var, 300, .inl f_var))] := hD
          clear evq22 
          rw [evq23] at hP hD
          replace hP : va_P (dC, dI) cls [(h_hol, .inl (cy_hol, 2048, .inl f5)), (h_trm, .inl (cy_trm, 300, .inl f_trm)), (h_ter, .inl (cy_ter, 900, .inl f_ter)), (h_bd, .inr (1, (mo19 v_bd (.ref h_td) (.ref h_bnd) (.ref h_hol)))), (h_bnd, .inl (cy_bnd, 256, .inl f_bnd)), (h_td, .inr (5, (mo18 v_td (.ref h_var) (.ref h_trm) (.ref h_ter)))), (h_var, .inl (cy_var, 300, .inl f_var))] H := hP
          replace hD : va_D A [(h_hol, .inl (cy_hol, 2048, .inl f5)), (h_trm, .inl (cy_trm, 300, .inl f_trm)), (h_ter, .inl (cy_ter, 900, .inl f_ter)), (h_bd, .inr (1, (mo19 v_bd (.ref h_td) (.ref h_bnd) (.ref h_hol)))), (h_bnd, .inl (cy_bnd, 256, .inl f_bnd)), (h_td, .inr (5, (mo18 v_td (.ref h_var) (.ref h_trm) (.ref h_ter)))), (h_var, .inl (cy_var, 300, .inl f_var))] := hD
          clear evq23 
          obtain ⟨k25, k26⟩ := hq
          replace k25 : 0 ≤ (r24).toInt ∧ (r24).toInt ≤ 9599 := k25
          replace k26 : BRX (g) (BDV f_bnd) (z21) (r24) := k26
          refine lv_istore (lv' := [(6, .int r24), (3, .int z20), (4, .int z19), (0, .ref h_bd), (1, .int p1), (2, .int p2), (5, .int x4)]) hx hb dX1_parts_66 hl (by decide) rfl (fun ls hl => ?_)
          refine lv_iload hx hb dX1_parts_68 (lv_at hl 0 rfl) ?_
          refine lv_sipush (v := 300) hx hb dX1_parts_70 (by decide) ?_
          refine lv_irem hx hb dX1_parts_73 (by decide) ?_
          refine lv_topi (fun z27 ez27 => ?_)
          have tz27 : (z27).toInt = (r24).toInt % 300 := by rw [ez27]; exact i_rem rfl (by decide) (by omega)
          refine lv_istore (lv' := [(7, .int z27), (6, .int r24), (3, .int z20), (4, .int z19), (0, .ref h_bd), (1, .int p1), (2, .int p2), (5, .int x4)]) hx hb dX1_parts_74 hl (by decide) rfl (fun ls hl => ?_)
          refine lv_iconst (v := 0) hx hb dX1_parts_76 (by decide) ?_
          refine lv_istore (lv' := [(8, .int 0), (7, .int z27), (6, .int r24), (3, .int z20), (4, .int z19), (0, .ref h_bd), (1, .int p1), (2, .int p2), (5, .int x4)]) hx hb dX1_parts_77 hl (by decide) rfl (fun ls hl => ?_)
          obtain ⟨X9, eX9⟩ : ∃ y : Nat, y = (r24).toInt.toNat := ⟨_, rfl⟩
          obtain ⟨M9, eM9⟩ : ∃ t : Int, t = g.2.2.2.1 X9 := ⟨_, rfl⟩
          have m39 := hf_trm (X9 % 300)
          have gk9 := (hn_gvk X9 (by omega)).1
          rw [← eM9] at gk9
          have hin0 : HIN g f5 f5 N9 X9 0 := hin_zero rfl
          have lp31 : ∀ (n : Nat) (x28 : Int32) (x29 : Int32) (f30 : Nat → Int32) (H : Heap) (locs : List Loc) (ls : Array Slot), (0 ≤ (x28).toInt ∧ (x28).toInt ≤ 2048) → (0 ≤ (x29).toInt ∧ (x29).toInt ≤ 3) → (Rg 0 9599 f30) → ((x28).toInt = N9 + (x29).toInt) → ((x29).toInt ≤ M9) → (HIN g f5 f30 N9 X9 ((x29).toInt)) → (3 - (x29).toInt).toNat + 1 ≤ n → va_P (dC, dI) cls [(h_hol, .inl (cy_hol, 2048, .inl f30)), (h_trm, .inl (cy_trm, 300, .inl f_trm)), (h_ter, .inl (cy_ter, 900, .inl f_ter)), (h_bd, .inr (1, (mo19 v_bd (.ref h_td) (.ref h_bnd) (.ref h_hol)))), (h_bnd, .inl (cy_bnd, 256, .inl f_bnd)), (h_td, .inr (5, (mo18 v_td (.ref h_var) (.ref h_trm) (.ref h_ter)))), (h_var, .inl (cy_var, 300, .inl f_var))] H → va_D A [(h_hol, .inl (cy_hol, 2048, .inl f30)), (h_trm, .inl (cy_trm, 300, .inl f_trm)), (h_ter, .inl (cy_ter, 900, .inl f_ter)), (h_bd, .inr (1, (mo19 v_bd (.ref h_td) (.ref h_bnd) (.ref h_hol)))), (h_bnd, .inl (cy_bnd, 256, .inl f_bnd)), (h_td, .inr (5, (mo18 v_td (.ref h_var) (.ref h_trm) (.ref h_ter)))), (h_var, .inl (cy_var, 300, .inl f_var))] → va_S A s.heap H locs → lv_has ls 9 [(0, .ref h_bd), (1, .int p1), (2, .int p2), (3, .int z20), (4, .int x28), (5, .int x4), (6, .int r24), (7, .int z27), (8, .int x29)] → W p l e ({ frames := 1, cells := 0, slots := 0, locals := 25 } : Room) s m ([.ref h_bd, .int p1, .int p2] : List Value).toArray below meth c H locs 0 0 (MQ below (va_Qi (fun (r : Int32) (u : (Nat → Int32)) => (Rg 0 9599 u) ∧ (0 ≤ r.toInt ∧ r.toInt ≤ 2001) ∧ (((r).toInt ≤ (p2).toInt ∧ SMn g (BDV f_bnd) (p2).toInt.toNat [(p1).toInt.toNat]) ∨ ((p2).toInt < (r).toInt ∧ ¬ SMn g (BDV f_bnd) (p2).toInt.toNat [(p1).toInt.toNat]))) (fun (u : (Nat → Int32)) (t : State) => va_P (dC, dI) cls [(h_bd, .inr (1, (mo19 v_bd (.ref h_td) (.ref h_bnd) (.ref h_hol)))), (h_bnd, .inl (cy_bnd, 256, .inl f_bnd)), (h_hol, .inl (cy_hol, 2048, .inl u)), (h_td, .inr (5, (mo18 v_td (.ref h_var) (.ref h_trm) (.ref h_ter)))), (h_var, .inl (cy_var, 300, .inl f_var)), (h_trm, .inl (cy_trm, 300, .inl f_trm)), (h_ter, .inl (cy_ter, 900, .inl f_ter))] t.heap ∧ va_D A [(h_bd, .inr (1, (mo19 v_bd (.ref h_td) (.ref h_bnd) (.ref h_hol)))), (h_bnd, .inl (cy_bnd, 256, .inl f_bnd)), (h_hol, .inl (cy_hol, 2048, .inl u)), (h_td, .inr (5, (mo18 v_td (.ref h_var) (.ref h_trm) (.ref h_ter)))), (h_var, .inl (cy_var, 300, .inl f_var)), (h_trm, .inl (cy_trm, 300, .inl f_trm)), (h_ter, .inl (cy_ter, 900, .inl f_ter))]) A) ([.ref h_bd, .int p1, .int p2] : List Value).toArray s 0 0 A) (F0 m 79 ls []) := by
            clear hP hD hS hl
            intro n
            induction n with
            | zero => intro x28 x29 f30 H locs ls klp31_0 klp31_1 hf30 klp31_3 klp31_4 klp31_5 hm hP hD hS hl; exact False.elim (by omega)
            | succ n ih => 
              intro x28 x29 f30 H locs ls klp31_0 klp31_1 hf30 klp31_3 klp31_4 klp31_5 hm hP hD hS hl
              have ih32 := ih
              clear ih
              refine lv_iload hx hb dX1_parts_79 (lv_at hl 8 rfl) ?_
              refine lv_aload_n hx hb dX1_parts_81 rfl (lv_at hl 0 rfl) ?_
              refine va_get (D := (dC, dI)) (ci := 1) (v := .ref h_td) (C := RX1) (T := TX1) (N := 13) hx hb hw iwX1 hown hK hP 3 rfl rfl 0 (by decide) (hw _ w_f_X1_36) (fun _ h9 => h9) rfl dX1_parts_82 ?_
              refine va_getN (D := (dC, dI)) (ci := 5) (v := .ref h_trm) (C := RX8) (T := TX8) (N := 10) (host := "OppositePairs") hx hb hw iwX8 hown hK hP 5 rfl rfl 2 (by decide) (hN.use n_f_X1_88 rfl) (fun _ h9 => h9) rfl dX1_parts_85 ?_
              refine lv_iload hx hb dX1_parts_88 (lv_at hl 7 rfl) ?_
              refine va_iald hx hb hK hP 1 3 rfl rfl (i := z27) (vp_in_iff.mpr (by omega)) dX1_parts_90 ?_
              refine lv_topi (fun z33 ez33 => ?_)
              have rz33 : 0 ≤ (z33).toInt ∧ (z33).toInt ≤ 3 := by rw [ez33]; exact hf_trm _
              have tk9 : M9 = (z33).toInt := by rw [eM9, eX9]; exact gvk_at (x := r24) hn_gvk (by omega) (by omega) ez33
              refine lv_icmp_ge (tgt := 131) hx hb dX1_parts_91 (by decide) (fun c34 => ?_) (fun c34 => ?_)
              · have kc34 := (cv_le (rfl : (z33).toInt = (z33).toInt) (rfl : (x29).toInt = (x29).toInt)).mp c34
                have hz9 := klp31_5
                have ea9 : (x29).toInt = g.2.2.2.1 X9 := by omega
                rw [ea9, eX9] at hz9
                have ps35 := psm_kids (N := N9) (n' := (x28).toInt) (cnt' := (z20).toInt) hn_wfs klp6_6 (by omega) pz9 k26 hz9 (by rw [← eX9]; omega) (by omega)
                obtain ⟨z36, ez36⟩ : ∃ y : Int32, y = x4 + 1 := ⟨_, rfl⟩
                have tz36 : (z36).toInt = (x4).toInt + 1 := by rw [ez36]; exact i_add rfl (by decide) (by omega)
                refine lv_iinc (v := z36) (lv' := [(5, .int z36), (0, .ref h_bd), (1, .int p1), (2, .int p2), (3, .int z20), (4, .int x28), (6, .int r24), (7, .int z27), (8, .int x29)]) hx hb dX1_parts_131 hl (k := 5) rfl (by rw [ez36]; rfl) (by decide) rfl (fun ls hl => ?_)
                refine lv_goto (tgt := 15) hx hb dX1_parts_134 (by decide) ?_
                replace hP : va_P (dC, dI) cls [(h_bd, .inr (1, (mo19 v_bd (.ref h_td) (.ref h_bnd) (.ref h_hol)))), (h_bnd, .inl (cy_bnd, 256, .inl f_bnd)), (h_hol, .inl (cy_hol, 2048, .inl f30)), (h_td, .inr (5, (mo18 v_td (.ref h_var) (.ref h_trm) (.ref h_ter)))), (h_var, .inl (cy_var, 300, .inl f_var)), (h_trm, .inl (cy_trm, 300, .inl f_trm)), (h_ter, .inl (cy_ter, 900, .inl f_ter))] H := hP.sub [3, 4, 0, 5, 6, 1, 2] rfl
                replace hD : va_D A [(h_bd, .inr (1, (mo19 v_bd (.ref h_td) (.ref h_bnd) (.ref h_hol)))), (h_bnd, .inl (cy_bnd, 256, .inl f_bnd)), (h_hol, .inl (cy_hol, 2048, .inl f30)), (h_td, .inr (5, (mo18 v_td (.ref h_var) (.ref h_trm) (.ref h_ter)))), (h_var, .inl (cy_var, 300, .inl f_var)), (h_trm, .inl (cy_trm, 300, .inl f_trm)), (h_ter, .inl (cy_ter, 900, .inl f_ter))] := hD.sub [3, 4, 0, 5, 6, 1, 2] (by decide) rfl
                exact ih7 (z20) (x28) (z36) (f30) _ _ _ (by omega) (by first | exact klp31_0 | omega) (by omega) hf30 (by omega) (by omega) (psm_cast ps35 (by omega) (by omega)) (by omega) hP hD hS (lv_sub hl [1, 2, 3, 4, 5, 0] rfl)
              · have kc34 := (not_congr (cv_le (rfl : (z33).toInt = (z33).toInt) (rfl : (x29).toInt = (x29).toInt))).mp c34
                refine lv_aload_n hx hb dX1_parts_94 rfl (lv_at hl 0 rfl) ?_
                refine va_get (D := (dC, dI)) (ci := 1) (v := .ref h_hol) (C := RX1) (T := TX1) (N := 13) hx hb hw iwX1 hown hK hP 3 rfl rfl 10 (by decide) (hw _ w_f_X1_30) (fun _ h9 => h9) rfl dX1_parts_95 ?_
                refine lv_iload hx hb dX1_parts_98 (lv_at hl 4 rfl) ?_
                obtain ⟨z37, ez37⟩ : ∃ y : Int32, y = x28 + 1 := ⟨_, rfl⟩
                have tz37 : (z37).toInt = (x28).toInt + 1 := by rw [ez37]; exact i_add rfl (by decide) (by omega)
                refine lv_iinc (v := z37) (lv' := [(4, .int z37), (0, .ref h_bd), (1, .int p1), (2, .int p2), (3, .int z20), (5, .int x4), (6, .int r24), (7, .int z27), (8, .int x29)]) hx hb dX1_parts_100 hl (k := 4) rfl (by rw [ez37]; rfl) (by decide) rfl (fun ls hl => ?_)
                refine lv_iload hx hb dX1_parts_103 (lv_at hl 6 rfl) ?_
                refine lv_iload hx hb dX1_parts_105 (lv_at hl 7 rfl) ?_
                refine lv_isub hx hb dX1_parts_107 ?_
                refine lv_topi (fun z38 ez38 => ?_)
                have tz38 : (z38).toInt = (r24).toInt - (z27).toInt := by rw [ez38]; exact i_sub rfl rfl (by omega)
                have sz38 : 0 ≤ (z38).toInt ∧ (z38).toInt ≤ 9300 := by omega
                refine lv_aload_n hx hb dX1_parts_108 rfl (lv_at hl 1 rfl) ?_
                refine va_get (D := (dC, dI)) (ci := 1) (v := .ref h_td) (C := RX1) (T := TX1) (N := 13) hx hb hw iwX1 hown hK hP 3 rfl rfl 0 (by decide) (hw _ w_f_X1_36) (fun _ h9 => h9) rfl dX1_parts_109 ?_
                refine va_getN (D := (dC, dI)) (ci := 5) (v := .ref h_ter) (C := RX8) (T := TX8) (N := 10) (host := "OppositePairs") hx hb hw iwX8 hown hK hP 5 rfl rfl 3 (by decide) (hN.use n_f_X1_91 rfl) (fun _ h9 => h9) rfl dX1_parts_112 ?_
                refine lv_iload hx hb dX1_parts_115 (lv_at hl 7 rfl) ?_
                refine lv_iconst (v := 3) hx hb dX1_parts_117 (by decide) ?_
                refine lv_imul hx hb dX1_parts_118 ?_
                refine lv_topi (fun z39 ez39 => ?_)
                have tz39 : (z39).toInt = (z27).toInt * 3 := by rw [ez39]; exact i_mul rfl (by decide) (by omega)
                refine lv_iload hx hb dX1_parts_119 (lv_at hl 8 rfl) ?_
                refine lv_iadd hx hb dX1_parts_121 ?_
                refine lv_topi (fun z40 ez40 => ?_)
                have tz40 : (z40).toInt = (z39).toInt + (x29).toInt := by rw [ez40]; exact i_add rfl rfl (by omega)
                refine va_iald hx hb hK hP 2 4 rfl rfl (i := z40) (vp_in_iff.mpr (by omega)) dX1_parts_122 ?_
                refine lv_topi (fun z41 ez41 => ?_)
                have rz41 : 0 ≤ (z41).toInt ∧ (z41).toInt ≤ 299 := by rw [ez41]; exact hf_ter _
                refine lv_iadd hx hb dX1_parts_123 ?_
                refine lv_topi (fun z42 ez42 => ?_)
                have tz42 : (z42).toInt = (z38).toInt + (z41).toInt := by rw [ez42]; exact i_add rfl rfl (by omega)
                refine va_iast hx hb hK hP hD hS 0 1 rfl rfl (i := x28) (x := z42) (vp_in_iff.mpr (by omega)) dX1_parts_124 (fun H locs hP9 hD9 hS9 => ?_)
                obtain ⟨f43, ef43⟩ : ∃ g : Nat → Int32, g = upd f30 (Int32.toNatClampNeg x28) z42 := ⟨_, rfl⟩
                clear hP hD hS
                have hP : va_P (dC, dI) cls [(h_hol, .inl (cy_hol, 2048, .inl f43)), (h_trm, .inl (cy_trm, 300, .inl f_trm)), (h_ter, .inl (cy_ter, 900, .inl f_ter)), (h_bd, .inr (1, (mo19 v_bd (.ref h_td) (.ref h_bnd) (.ref h_hol)))), (h_bnd, .inl (cy_bnd, 256, .inl f_bnd)), (h_td, .inr (5, (mo18 v_td (.ref h_var) (.ref h_trm) (.ref h_ter)))), (h_var, .inl (cy_var, 300, .inl f_var))] H := by rw [ef43]; exact hP9
                have hD : va_D A [(h_hol, .inl (cy_hol, 2048, .inl f43)), (h_trm, .inl (cy_trm, 300, .inl f_trm)), (h_ter, .inl (cy_ter, 900, .inl f_ter)), (h_bd, .inr (1, (mo19 v_bd (.ref h_td) (.ref h_bnd) (.ref h_hol)))), (h_bnd, .inl (cy_bnd, 256, .inl f_bnd)), (h_td, .inr (5, (mo18 v_td (.ref h_var) (.ref h_trm) (.ref h_ter)))), (h_var, .inl (cy_var, 300, .inl f_var))] := by rw [ef43]; exact hD9
                have hS := hS9
                clear hP9 hD9 hS9
                have hf43 : Rg 0 9599 f43 := by rw [ef43]; exact rg_upd hf30 (by omega)
                have ck9 : (z42).toInt = (g.2.2.2.2 X9 (Int.toNat (x29).toInt) : Nat) := by rw [eX9]; exact gvk_ch (x := r24) hn_gvk (by omega) (by omega) (by omega) ez41 (by omega) (by omega)
                have hi44 : HIN g f5 f43 N9 X9 ((x29).toInt + 1) := hin_step klp31_5 (by omega) (by omega) ck9 ef43 rfl
                obtain ⟨z45, ez45⟩ : ∃ y : Int32, y = x29 + 1 := ⟨_, rfl⟩
                have tz45 : (z45).toInt = (x29).toInt + 1 := by rw [ez45]; exact i_add rfl (by decide) (by omega)
                refine lv_iinc (v := z45) (lv' := [(8, .int z45), (4, .int z37), (0, .ref h_bd), (1, .int p1), (2, .int p2), (3, .int z20), (5, .int x4), (6, .int r24), (7, .int z27)]) hx hb dX1_parts_125 hl (k := 8) rfl (by rw [ez45]; rfl) (by decide) rfl (fun ls hl => ?_)
                refine lv_goto (tgt := 79) hx hb dX1_parts_128 (by decide) ?_
                exact ih32 (z37) (z45) (f43) _ _ _ (by omega) (by omega) hf43 (by omega) (by omega) (by have h9 := hi44; first | exact h9 | exact hin_cast h9 (by omega) | exact hin_cast h9 (by decide)) (by omega) hP hD hS (lv_sub hl [2, 3, 4, 5, 1, 6, 7, 8, 0] rfl)
          have cst0 : (0 : Int32).toInt = 0 := by decide
          exact lp31 _ (z19) (0) (f5) _ _ _ (by omega) (by decide) hf5 (by omega) (by omega) (by have h9 := hin0; first | exact h9 | exact hin_cast h9 (by omega) | exact hin_cast h9 (by decide)) (Nat.le_refl _) hP hD hS (lv_sub hl [5, 6, 7, 3, 4, 8, 2, 1, 0] rfl)
  have cst0 : (0 : Int32).toInt = 0 := by decide
  have cst1 : (1 : Int32).toInt = 1 := by decide
  exact lp6 _ (0) (1) (0) (f1) _ _ _ (by decide) (by decide) (by decide) hf1 (by omega) (by omega) (psm_cast ps0 (by omega) (by omega)) (Nat.le_refl _) hP hD hS (lv_sub hl [3, 4, 5, 2, 1, 0] rfl)

set_option maxHeartbeats 8000000 in
set_option maxRecDepth 100000 in
theorem c_X1_pushTerms_s (l : Launch) (dC : Nat → ClassId) (dI : Nat → Nat → Nat) (sz : Nat) (h_bd : Nat) (h_lef : Nat) (h_rig : Nat) (h_td : Nat) (h_trm : Nat) (h_ter : Nat) (v_bd : Nat → Value) (x_bd_top : Int32) (cy_lef : ClassId) (f_lef : Nat → Int32) (cy_rig : ClassId) (f_rig : Nat → Int32) (v_td : Nat → Value) (cy_trm : ClassId) (f_trm : Nat → Int32) (cy_ter : ClassId) (f_ter : Nat → Int32) (p1 : Int32) (p2 : Int32) (g : GVT) (hx_bd_top : 0 ≤ (x_bd_top).toInt ∧ (x_bd_top).toInt ≤ 2048) (hf_lef : Rg (-9600) 9599 f_lef) (hf_rig : Rg 0 9599 f_rig) (hf_trm : Rg 0 3 f_trm) (hf_ter : Rg 0 299 f_ter) (q0 : 0 ≤ (p1).toInt ∧ (p1).toInt ≤ 9599) (q1 : 0 ≤ (p2).toInt ∧ (p2).toInt ≤ 9599) (hn_gvk : GVK g f_trm f_ter) : Met l yX1_pushTerms (Ws yX1_pushTerms cX1_pushTerms 8 (some .boolean)) (({ frames := 0, cells := 0, slots := 0, locals := 0 } : Room)) (PRE (dC, dI) cls [(cy_lef, .int), (cy_rig, .int), (cy_trm, .int), (cy_ter, .int)] [(h_bd, .inr (1, (mo15 v_bd (.ref h_td) (.ref h_lef) (.ref h_rig) (.int x_bd_top)))), (h_lef, .inl (cy_lef, 2048, .inl f_lef)), (h_rig, .inl (cy_rig, 2048, .inl f_rig)), (h_td, .inr (5, (mo16 v_td (.ref h_trm) (.ref h_ter)))), (h_trm, .inl (cy_trm, 300, .inl f_trm)), (h_ter, .inl (cy_ter, 900, .inl f_ter))] sz [.ref h_bd, .int p1, .int p2, .int 0]) (va_Qi (fun (r : Int32) (u : (Int32) × (Nat → Int32) × (Nat → Int32)) => (0 ≤ (u.1).toInt ∧ (u.1).toInt ≤ 2048) ∧ (Rg (-9600) 9599 u.2.1) ∧ (Rg 0 9599 u.2.2) ∧ (0 ≤ r.toInt ∧ r.toInt ≤ 1) ∧ (PSK g (p1).toInt.toNat (p2).toInt.toNat (x_bd_top).toInt.toNat f_lef u.2.1 f_rig u.2.2 (u.1).toInt (r).toInt)) (fun (u : (Int32) × (Nat → Int32) × (Nat → Int32)) (t : State) => va_P (dC, dI) cls [(h_bd, .inr (1, (mo15 v_bd (.ref h_td) (.ref h_lef) (.ref h_rig) (.int u.1)))), (h_lef, .inl (cy_lef, 2048, .inl u.2.1)), (h_rig, .inl (cy_rig, 2048, .inl u.2.2)), (h_td, .inr (5, (mo16 v_td (.ref h_trm) (.ref h_ter)))), (h_trm, .inl (cy_trm, 300, .inl f_trm)), (h_ter, .inl (cy_ter, 900, .inl f_ter))] t.heap ∧ va_D (va_A [(h_bd, .inr (1, (mo15 v_bd (.ref h_td) (.ref h_lef) (.ref h_rig) (.int x_bd_top)))), (h_lef, .inl (cy_lef, 2048, .inl f_lef)), (h_rig, .inl (cy_rig, 2048, .inl f_rig)), (h_td, .inr (5, (mo16 v_td (.ref h_trm) (.ref h_ter)))), (h_trm, .inl (cy_trm, 300, .inl f_trm)), (h_ter, .inl (cy_ter, 900, .inl f_ter))] sz) [(h_bd, .inr (1, (mo15 v_bd (.ref h_td) (.ref h_lef) (.ref h_rig) (.int u.1)))), (h_lef, .inl (cy_lef, 2048, .inl u.2.1)), (h_rig, .inl (cy_rig, 2048, .inl u.2.2)), (h_td, .inr (5, (mo16 v_td (.ref h_trm) (.ref h_ter)))), (h_trm, .inl (cy_trm, 300, .inl f_trm)), (h_ter, .inl (cy_ter, 900, .inl f_ter))]) (va_A [(h_bd, .inr (1, (mo15 v_bd (.ref h_td) (.ref h_lef) (.ref h_rig) (.int x_bd_top)))), (h_lef, .inl (cy_lef, 2048, .inl f_lef)), (h_rig, .inl (cy_rig, 2048, .inl f_rig)), (h_td, .inr (5, (mo16 v_td (.ref h_trm) (.ref h_ter)))), (h_trm, .inl (cy_trm, 300, .inl f_trm)), (h_ter, .inl (cy_ter, 900, .inl f_ter))] sz)) 0 0 (va_A [(h_bd, .inr (1, (mo15 v_bd (.ref h_td) (.ref h_lef) (.ref h_rig) (.int x_bd_top)))), (h_lef, .inl (cy_lef, 2048, .inl f_lef)), (h_rig, .inl (cy_rig, 2048, .inl f_rig)), (h_td, .inr (5, (mo16 v_td (.ref h_trm) (.ref h_ter)))), (h_trm, .inl (cy_trm, 300, .inl f_trm)), (h_ter, .inl (cy_ter, 900, .inl f_ter))] sz) := by
  refine Met.ofW (cc := cX1_pushTerms) (maxL := 8) (ret := (some .boolean)) (by decide) rfl ?_
  intro p e s m args below meth c s₁ B hml hv
  obtain ⟨rfl, hsz, hP, hK, hD0, hN⟩ := hv
  have hx := B.exec
  have hb := B.bytes
  have hr := B.returns
  have hts := atoms_spec (ws := Ws yX1_pushTerms cX1_pushTerms 8 (some .boolean)) B.pre
  have hT : ∀ w ∈ WALL, w ∈ Ws yX1_pushTerms cX1_pushTerms 8 (some .boolean) := fun w h => List.mem_cons_of_mem _ h
  have hw := fun w (h : w ∈ WALL) => hts w (hT w h)
  have hown : s.vm.findClass RX1 = some m.cls := findClass_of_methodNamed B.named
  have hlocks := B.notSynchronized
  subst hsz
  have hD := hD0.self (sz := s.heap.size)
  generalize hAe : va_A [(h_bd, .inr (1, (mo15 v_bd (.ref h_td) (.ref h_lef) (.ref h_rig) (.int x_bd_top)))), (h_lef, .inl (cy_lef, 2048, .inl f_lef)), (h_rig, .inl (cy_rig, 2048, .inl f_rig)), (h_td, .inr (5, (mo16 v_td (.ref h_trm) (.ref h_ter)))), (h_trm, .inl (cy_trm, 300, .inl f_trm)), (h_ter, .inl (cy_ter, 900, .inl f_ter))] s.heap.size = A at hD ⊢
  have hA : ∀ q : Nat, s.heap.size ≤ q → A q := fun q h => by rw [← hAe]; exact Or.inr h
  have hS : va_S A s.heap s.heap [] := va_S.rf
  have hl := lv_entry ([.ref h_bd, .int p1, .int p2, .int 0]) (n := 8) (Nat.le_of_ble_eq_true rfl)
  rw [lg_entry_eq]
  generalize (lg_sl ([.ref h_bd, .int p1, .int p2, .int 0]) ++ List.replicate (8 - (lg_sl ([.ref h_bd, .int p1, .int p2, .int 0])).length) Slot.unset).toArray = ls at hl ⊢
  have hl : lv_has ls 8 [(0, .ref h_bd), (1, .int p1), (2, .int p2), (3, .int 0)] := hl
  refine lv_iload_n hx hb dX1_pushTerms_0 rfl (lv_at hl 1 rfl) ?_
  refine lv_sipush (v := 300) hx hb dX1_pushTerms_1 (by decide) ?_
  refine lv_irem hx hb dX1_pushTerms_4 (by decide) ?_
  refine lv_topi (fun z1 ez1 => ?_)
  have tz1 : (z1).toInt = (p1).toInt % 300 := by rw [ez1]; exact i_rem rfl (by decide) (by omega)
  refine lv_istore (lv' := [(4, .int z1), (0, .ref h_bd), (1, .int p1), (2, .int p2), (3, .int 0)]) hx hb dX1_pushTerms_5 hl (by decide) rfl (fun ls hl => ?_)
  refine lv_iload_n hx hb dX1_pushTerms_7 rfl (lv_at hl 3 rfl) ?_
  refine lv_sipush (v := 300) hx hb dX1_pushTerms_8 (by decide) ?_
  refine lv_irem hx hb dX1_pushTerms_11 (by decide) ?_
  refine lv_topi (fun z2 ez2 => ?_)
  have tz2 : (z2).toInt = (p2).toInt % 300 := by rw [ez2]; exact i_rem rfl (by decide) (by omega)
  refine lv_istore (lv' := [(5, .int z2), (4, .int z1), (0, .ref h_bd), (1, .int p1), (2, .int p2), (3, .int 0)]) hx hb dX1_pushTerms_12 hl (by decide) rfl (fun ls hl => ?_)
  refine lv_aload_n hx hb dX1_pushTerms_14 rfl (lv_at hl 2 rfl) ?_
  refine va_get (D := (dC, dI)) (ci := 1) (v := .ref h_td) (C := RX1) (T := TX1) (N := 13) hx hb hw iwX1 hown hK hP 0 rfl rfl 0 (by decide) (hw _ w_f_X1_36) (fun _ h9 => h9) rfl dX1_pushTerms_15 ?_
  refine va_getN (D := (dC, dI)) (ci := 5) (v := .ref h_trm) (C := RX8) (T := TX8) (N := 10) (host := "OppositePairs") hx hb hw iwX8 hown hK hP 3 rfl rfl 2 (by decide) (hN.use n_f_X1_88 rfl) (fun _ h9 => h9) rfl dX1_pushTerms_18 ?_
  refine lv_iload hx hb dX1_pushTerms_21 (lv_at hl 1 rfl) ?_
  refine va_iald hx hb hK hP 4 2 rfl rfl (i := z1) (vp_in_iff.mpr (by omega)) dX1_pushTerms_23 ?_
  refine lv_topi (fun z3 ez3 => ?_)
  have rz3 : 0 ≤ (z3).toInt ∧ (z3).toInt ≤ 3 := by rw [ez3]; exact hf_trm _
  have ma9 : g.2.2.2.1 (p1).toInt.toNat = (z3).toInt := gvk_at (x := p1) hn_gvk (by omega) (by omega) ez3
  refine lv_istore (lv' := [(6, .int z3), (5, .int z2), (4, .int z1), (0, .ref h_bd), (1, .int p1), (2, .int p2), (3, .int 0)]) hx hb dX1_pushTerms_24 hl (by decide) rfl (fun ls hl => ?_)
  refine lv_aload_n hx hb dX1_pushTerms_26 rfl (lv_at hl 3 rfl) ?_
  refine va_get (D := (dC, dI)) (ci := 1) (v := .int x_bd_top) (C := RX1) (T := TX1) (N := 13) hx hb hw iwX1 hown hK hP 0 rfl rfl 9 (by decide) (hw _ w_f_X1_49) (fun _ h9 => h9) rfl dX1_pushTerms_27 ?_
  refine lv_iload hx hb dX1_pushTerms_30 (lv_at hl 0 rfl) ?_
  refine lv_iadd hx hb dX1_pushTerms_32 ?_
  refine lv_topi (fun z4 ez4 => ?_)
  have tz4 : (z4).toInt = (x_bd_top).toInt + (z3).toInt := by rw [ez4]; exact i_add rfl rfl (by omega)
  refine lv_iconst (v := 1) hx hb dX1_pushTerms_33 (by decide) ?_
  refine lv_iadd hx hb dX1_pushTerms_34 ?_
  refine lv_topi (fun z5 ez5 => ?_)
  have tz5 : (z5).toInt = (z4).toInt + 1 := by rw [ez5]; exact i_add rfl (by decide) (by omega)
  refine lv_sipush (v := 2048) hx hb dX1_pushTerms_35 (by decide) ?_
  refine lv_icmp_le (tgt := 43) hx hb dX1_pushTerms_38 (by decide) (fun c6 => ?_) (fun c6 => ?_)
  · have kc6 := (cv_le (rfl : (z5).toInt = (z5).toInt) (by decide : (2048 : Int32).toInt = 2048)).mp c6
    refine lv_iload_n hx hb dX1_pushTerms_43 rfl (lv_at hl 6 rfl) ?_
    refine lv_if_eq (tgt := 81) hx hb dX1_pushTerms_44 (by decide) (fun _ => ?_) (fun c9 => absurd c9 (by decide))
    refine lv_iload hx hb dX1_pushTerms_81 (lv_at hl 0 rfl) ?_
    refine lv_iconst (v := 1) hx hb dX1_pushTerms_83 (by decide) ?_
    refine lv_isub hx hb dX1_pushTerms_84 ?_
    refine lv_topi (fun z7 ez7 => ?_)
    have tz7 : (z7).toInt = (z3).toInt - 1 := by rw [ez7]; exact i_sub rfl (by decide) (by omega)
    refine lv_istore (lv' := [(7, .int z7), (6, .int z3), (5, .int z2), (4, .int z1), (0, .ref h_bd), (1, .int p1), (2, .int p2), (3, .int 0)]) hx hb dX1_pushTerms_85 hl (by decide) rfl (fun ls hl => ?_)
    have pj8 : PSJ g (p1).toInt.toNat (p2).toInt.toNat (x_bd_top).toInt.toNat (g.2.2.2.1 (p1).toInt.toNat) (z7).toInt f_lef f_lef f_rig f_rig (x_bd_top).toInt := psj_zero (by omega) (by omega)
    have lp13 : ∀ (n : Nat) (x9 : Int32) (x10 : Int32) (f11 : Nat → Int32) (f12 : Nat → Int32) (H : Heap) (locs : List Loc) (ls : Array Slot), (-1 ≤ (x9).toInt ∧ (x9).toInt ≤ 2) → (0 ≤ (x10).toInt ∧ (x10).toInt ≤ 2048) → (Rg (-9600) 9599 f11) → (Rg 0 9599 f12) → ((x10).toInt + (x9).toInt + 1 ≤ 2048) → ((x9).toInt ≤ g.2.2.2.1 (p1).toInt.toNat - 1) → (PSJ g (p1).toInt.toNat (p2).toInt.toNat (x_bd_top).toInt.toNat (g.2.2.2.1 (p1).toInt.toNat) ((x9).toInt) f_lef f11 f_rig f12 (x10).toInt) → ((x9).toInt + 1).toNat + 1 ≤ n → va_P (dC, dI) cls [(h_bd, .inr (1, (mo15 v_bd (.ref h_td) (.ref h_lef) (.ref h_rig) (.int x10)))), (h_lef, .inl (cy_lef, 2048, .inl f11)), (h_rig, .inl (cy_rig, 2048, .inl f12)), (h_td, .inr (5, (mo16 v_td (.ref h_trm) (.ref h_ter)))), (h_trm, .inl (cy_trm, 300, .inl f_trm)), (h_ter, .inl (cy_ter, 900, .inl f_ter))] H → va_D A [(h_bd, .inr (1, (mo15 v_bd (.ref h_td) (.ref h_lef) (.ref h_rig) (.int x10)))), (h_lef, .inl (cy_lef, 2048, .inl f11)), (h_rig, .inl (cy_rig, 2048, .inl f12)), (h_td, .inr (5, (mo16 v_td (.ref h_trm) (.ref h_ter)))), (h_trm, .inl (cy_trm, 300, .inl f_trm)), (h_ter, .inl (cy_ter, 900, .inl f_ter))] → va_S A s.heap H locs → lv_has ls 8 [(0, .ref h_bd), (1, .int p1), (2, .int p2), (3, .int 0), (4, .int z1), (5, .int z2), (6, .int z3), (7, .int x9)] → W p l e ({ frames := 0, cells := 0, slots := 0, locals := 0 } : Room) s m ([.ref h_bd, .int p1, .int p2, .int 0] : List Value).toArray below meth c H locs 0 0 (MQ below (va_Qi (fun (r : Int32) (u : (Int32) × (Nat → Int32) × (Nat → Int32)) => (0 ≤ (u.1).toInt ∧ (u.1).toInt ≤ 2048) ∧ (Rg (-9600) 9599 u.2.1) ∧ (Rg 0 9599 u.2.2) ∧ (0 ≤ r.toInt ∧ r.toInt ≤ 1) ∧ (PSK g (p1).toInt.toNat (p2).toInt.toNat (x_bd_top).toInt.toNat f_lef u.2.1 f_rig u.2.2 (u.1).toInt (r).toInt)) (fun (u : (Int32) × (Nat → Int32) × (Nat → Int32)) (t : State) => va_P (dC, dI) cls [(h_bd, .inr (1, (mo15 v_bd (.ref h_td) (.ref h_lef) (.ref h_rig) (.int u.1)))), (h_lef, .inl (cy_lef, 2048, .inl u.2.1)), (h_rig, .inl (cy_rig, 2048, .inl u.2.2)), (h_td, .inr (5, (mo16 v_td (.ref h_trm) (.ref h_ter)))), (h_trm, .inl (cy_trm, 300, .inl f_trm)), (h_ter, .inl (cy_ter, 900, .inl f_ter))] t.heap ∧ va_D A [(h_bd, .inr (1, (mo15 v_bd (.ref h_td) (.ref h_lef) (.ref h_rig) (.int u.1)))), (h_lef, .inl (cy_lef, 2048, .inl u.2.1)), (h_rig, .inl (cy_rig, 2048, .inl u.2.2)), (h_td, .inr (5, (mo16 v_td (.ref h_trm) (.ref h_ter)))), (h_trm, .inl (cy_trm, 300, .inl f_trm)), (h_ter, .inl (cy_ter, 900, .inl f_ter))]) A) ([.ref h_bd, .int p1, .int p2, .int 0] : List Value).toArray s 0 0 A) (F0 m 87 ls []) := by
      clear hP hD hS hl
      intro n
      induction n with
      | zero => intro x9 x10 f11 f12 H locs ls klp13_0 klp13_1 hf11 hf12 klp13_4 klp13_5 klp13_6 hm hP hD hS hl; exact False.elim (by omega)
      | succ n ih => 
        intro x9 x10 f11 f12 H locs ls klp13_0 klp13_1 hf11 hf12 klp13_4 klp13_5 klp13_6 hm hP hD hS hl
        have ih14 := ih
        clear ih
        refine lv_iload hx hb dX1_pushTerms_87 (lv_at hl 7 rfl) ?_
        refine lv_if_lt (tgt := 163) hx hb dX1_pushTerms_89 (by decide) (fun c15 => ?_) (fun c15 => ?_)
        · have kc15 := (cv_lt (rfl : (x9).toInt = (x9).toInt) (by decide : (0 : Int32).toInt = 0)).mp c15
          have pj9 := klp13_6
          have kn9 : (x9).toInt = -1 := by omega
          rw [kn9] at pj9
          refine lv_iconst (v := 1) hx hb dX1_pushTerms_163 (by decide) ?_
          refine W.widen (k := 0) (n := 0) (Nat.le_of_ble_eq_true rfl) (Nat.le_of_ble_eq_true rfl) ?_
          have cst1 : (1 : Int32).toInt = 1 := by decide
          have w16 : 0 ≤ ((x10)).toInt ∧ ((x10)).toInt ≤ 2048 := by first | exact klp13_1 | omega
          have w17 : 0 ≤ (1 : Int32).toInt ∧ (1 : Int32).toInt ≤ 1 := by omega
          have w18 : PSK g (p1).toInt.toNat (p2).toInt.toNat (x_bd_top).toInt.toNat f_lef (f11) f_rig (f12) ((x10)).toInt ((1 : Int32)).toInt := (Or.inr ⟨by decide, pj9⟩)
          exact W.zret (v := 1) (ty := .boolean) hx hb hr (by decide) (fun t ht hW => ⟨⟨1, (x10, f11, f12), rfl, ⟨w16, hf11, hf12, w17, w18⟩, by rw [ht]; exact hP, hD⟩, hS.F ht⟩) hS.2.2 dX1_pushTerms_164
        · have kc15 := (not_congr (cv_lt (rfl : (x9).toInt = (x9).toInt) (by decide : (0 : Int32).toInt = 0))).mp c15
          refine lv_aload_n hx hb dX1_pushTerms_92 rfl (lv_at hl 0 rfl) ?_
          refine va_get (D := (dC, dI)) (ci := 1) (v := .ref h_lef) (C := RX1) (T := TX1) (N := 13) hx hb hw iwX1 hown hK hP 0 rfl rfl 7 (by decide) (hw _ w_f_X1_24) (fun _ h9 => h9) rfl dX1_pushTerms_93 ?_
          refine lv_aload_n hx hb dX1_pushTerms_96 rfl (lv_at hl 0 rfl) ?_
          refine va_get (D := (dC, dI)) (ci := 1) (v := .int x10) (C := RX1) (T := TX1) (N := 13) hx hb hw iwX1 hown hK hP 0 rfl rfl 9 (by decide) (hw _ w_f_X1_49) (fun _ h9 => h9) rfl dX1_pushTerms_97 ?_
          refine lv_iload_n hx hb dX1_pushTerms_100 rfl (lv_at hl 1 rfl) ?_
          refine lv_iload hx hb dX1_pushTerms_101 (lv_at hl 4 rfl) ?_
          refine lv_isub hx hb dX1_pushTerms_103 ?_
          refine lv_topi (fun z19 ez19 => ?_)
          have tz19 : (z19).toInt = (p1).toInt - (z1).toInt := by rw [ez19]; exact i_sub rfl rfl (by omega)
          have sz19 : 0 ≤ (z19).toInt ∧ (z19).toInt ≤ 9300 := by omega
          refine lv_aload_n hx hb dX1_pushTerms_104 rfl (lv_at hl 0 rfl) ?_
          refine va_get (D := (dC, dI)) (ci := 1) (v := .ref h_td) (C := RX1) (T := TX1) (N := 13) hx hb hw iwX1 hown hK hP 0 rfl rfl 0 (by decide) (hw _ w_f_X1_36) (fun _ h9 => h9) rfl dX1_pushTerms_105 ?_
          refine va_getN (D := (dC, dI)) (ci := 5) (v := .ref h_ter) (C := RX8) (T := TX8) (N := 10) (host := "OppositePairs") hx hb hw iwX8 hown hK hP 3 rfl rfl 3 (by decide) (hN.use n_f_X1_91 rfl) (fun _ h9 => h9) rfl dX1_pushTerms_108 ?_
          refine lv_iload hx hb dX1_pushTerms_111 (lv_at hl 4 rfl) ?_
          refine lv_iconst (v := 3) hx hb dX1_pushTerms_113 (by decide) ?_
          refine lv_imul hx hb dX1_pushTerms_114 ?_
          refine lv_topi (fun z20 ez20 => ?_)
          have tz20 : (z20).toInt = (z1).toInt * 3 := by rw [ez20]; exact i_mul rfl (by decide) (by omega)
          refine lv_iload hx hb dX1_pushTerms_115 (lv_at hl 7 rfl) ?_
          refine lv_iadd hx hb dX1_pushTerms_117 ?_
          refine lv_topi (fun z21 ez21 => ?_)
          have tz21 : (z21).toInt = (z20).toInt + (x9).toInt := by rw [ez21]; exact i_add rfl rfl (by omega)
          refine va_iald hx hb hK hP 5 3 rfl rfl (i := z21) (vp_in_iff.mpr (by omega)) dX1_pushTerms_118 ?_
          refine lv_topi (fun z22 ez22 => ?_)
          have rz22 : 0 ≤ (z22).toInt ∧ (z22).toInt ≤ 299 := by rw [ez22]; exact hf_ter _
          refine lv_iadd hx hb dX1_pushTerms_119 ?_
          refine lv_topi (fun z23 ez23 => ?_)
          have tz23 : (z23).toInt = (z19).toInt + (z22).toInt := by rw [ez23]; exact i_add rfl rfl (by omega)
          refine va_iast hx hb hK hP hD hS 1 0 rfl rfl (i := x10) (x := z23) (vp_in_iff.mpr (by omega)) dX1_pushTerms_120 (fun H locs hP9 hD9 hS9 => ?_)
          obtain ⟨f24, ef24⟩ : ∃ g : Nat → Int32, g = upd f11 (Int32.toNatClampNeg x10) z23 := ⟨_, rfl⟩
          clear hP hD hS
          have hP : va_P (dC, dI) cls [(h_bd, .inr (1, (mo15 v_bd (.ref h_td) (.ref h_lef) (.ref h_rig) (.int x10)))), (h_lef, .inl (cy_lef, 2048, .inl f24)), (h_rig, .inl (cy_rig, 2048, .inl f12)), (h_td, .inr (5, (mo16 v_td (.ref h_trm) (.ref h_ter)))), (h_trm, .inl (cy_trm, 300, .inl f_trm)), (h_ter, .inl (cy_ter, 900, .inl f_ter))] H := by rw [ef24]; exact hP9
          have hD : va_D A [(h_bd, .inr (1, (mo15 v_bd (.ref h_td) (.ref h_lef) (.ref h_rig) (.int x10)))), (h_lef, .inl (cy_lef, 2048, .inl f24)), (h_rig, .inl (cy_rig, 2048, .inl f12)), (h_td, .inr (5, (mo16 v_td (.ref h_trm) (.ref h_ter)))), (h_trm, .inl (cy_trm, 300, .inl f_trm)), (h_ter, .inl (cy_ter, 900, .inl f_ter))] := by rw [ef24]; exact hD9
          have hS := hS9
          clear hP9 hD9 hS9
          have hf24 : Rg (-9600) 9599 f24 := by rw [ef24]; exact rg_upd hf11 (by omega)
          refine lv_aload_n hx hb dX1_pushTerms_121 rfl (lv_at hl 0 rfl) ?_
          refine va_get (D := (dC, dI)) (ci := 1) (v := .ref h_rig) (C := RX1) (T := TX1) (N := 13) hx hb hw iwX1 hown hK hP 0 rfl rfl 8 (by decide) (hw _ w_f_X1_27) (fun _ h9 => h9) rfl dX1_pushTerms_122 ?_
          refine lv_aload_n hx hb dX1_pushTerms_125 rfl (lv_at hl 0 rfl) ?_
          refine lv_dup hx hb dX1_pushTerms_126 rfl ?_
          refine va_get (D := (dC, dI)) (ci := 1) (v := .int x10) (C := RX1) (T := TX1) (N := 13) hx hb hw iwX1 hown hK hP 0 rfl rfl 9 (by decide) (hw _ w_f_X1_49) (fun _ h9 => h9) rfl dX1_pushTerms_127 ?_
          refine lv_dup_x1 hx hb dX1_pushTerms_130 rfl rfl ?_
          refine lv_iconst (v := 1) hx hb dX1_pushTerms_131 (by decide) ?_
          refine lv_iadd hx hb dX1_pushTerms_132 ?_
          refine lv_topi (fun z25 ez25 => ?_)
          have tz25 : (z25).toInt = (x10).toInt + 1 := by rw [ez25]; exact i_add rfl (by decide) (by omega)
          refine va_put (D := (dC, dI)) (ci := 1) (v := .int z25) (ty := tyX1 9) (C := RX1) (T := TX1) (N := 13) hx hb hw iwX1 tyX1 tyX1_ok nmX1 hown hK hP hD hS 0 rfl rfl 9 (by decide) (hw _ w_f_X1_49) (fun _ h9 => h9) rfl (tyX1_ok 9 (by decide)) rfl rfl (Nat.le_of_ble_eq_true rfl) dX1_pushTerms_133 (fun H locs hP9 hD9 hS9 => ?_)
          clear hP hD hS
          have hP : va_P (dC, dI) cls [(h_bd, .inr (1, (mo15 v_bd (.ref h_td) (.ref h_lef) (.ref h_rig) (.int z25)))), (h_lef, .inl (cy_lef, 2048, .inl f24)), (h_rig, .inl (cy_rig, 2048, .inl f12)), (h_td, .inr (5, (mo16 v_td (.ref h_trm) (.ref h_ter)))), (h_trm, .inl (cy_trm, 300, .inl f_trm)), (h_ter, .inl (cy_ter, 900, .inl f_ter))] H := hP9
          have hD : va_D A [(h_bd, .inr (1, (mo15 v_bd (.ref h_td) (.ref h_lef) (.ref h_rig) (.int z25)))), (h_lef, .inl (cy_lef, 2048, .inl f24)), (h_rig, .inl (cy_rig, 2048, .inl f12)), (h_td, .inr (5, (mo16 v_td (.ref h_trm) (.ref h_ter)))), (h_trm, .inl (cy_trm, 300, .inl f_trm)), (h_ter, .inl (cy_ter, 900, .inl f_ter))] := hD9
          have hS := hS9
          clear hP9 hD9 hS9
          refine lv_iload_n hx hb dX1_pushTerms_136 rfl (lv_at hl 2 rfl) ?_
          refine lv_iload hx hb dX1_pushTerms_137 (lv_at hl 5 rfl) ?_
          refine lv_isub hx hb dX1_pushTerms_139 ?_
          refine lv_topi (fun z26 ez26 => ?_)
          have tz26 : (z26).toInt = (p2).toInt - (z2).toInt := by rw [ez26]; exact i_sub rfl rfl (by omega)
          have sz26 : 0 ≤ (z26).toInt ∧ (z26).toInt ≤ 9300 := by omega
          refine lv_aload_n hx hb dX1_pushTerms_140 rfl (lv_at hl 0 rfl) ?_
          refine va_get (D := (dC, dI)) (ci := 1) (v := .ref h_td) (C := RX1) (T := TX1) (N := 13) hx hb hw iwX1 hown hK hP 0 rfl rfl 0 (by decide) (hw _ w_f_X1_36) (fun _ h9 => h9) rfl dX1_pushTerms_141 ?_
          refine va_getN (D := (dC, dI)) (ci := 5) (v := .ref h_ter) (C := RX8) (T := TX8) (N := 10) (host := "OppositePairs") hx hb hw iwX8 hown hK hP 3 rfl rfl 3 (by decide) (hN.use n_f_X1_91 rfl) (fun _ h9 => h9) rfl dX1_pushTerms_144 ?_
          refine lv_iload hx hb dX1_pushTerms_147 (lv_at hl 5 rfl) ?_
          refine lv_iconst (v := 3) hx hb dX1_pushTerms_149 (by decide) ?_
          refine lv_imul hx hb dX1_pushTerms_150 ?_
          refine lv_topi (fun z27 ez27 => ?_)
          have tz27 : (z27).toInt = (z2).toInt * 3 := by rw [ez27]; exact i_mul rfl (by decide) (by omega)
          refine lv_iload hx hb dX1_pushTerms_151 (lv_at hl 7 rfl) ?_
          refine lv_iadd hx hb dX1_pushTerms_153 ?_
          refine lv_topi (fun z28 ez28 => ?_)
          have tz28 : (z28).toInt = (z27).toInt + (x9).toInt := by rw [ez28]; exact i_add rfl rfl (by omega)
          refine va_iald hx hb hK hP 5 3 rfl rfl (i := z28) (vp_in_iff.mpr (by omega)) dX1_pushTerms_154 ?_
          refine lv_topi (fun z29 ez29 => ?_)
          have rz29 : 0 ≤ (z29).toInt ∧ (z29).toInt ≤ 299 := by rw [ez29]; exact hf_ter _
          refine lv_iadd hx hb dX1_pushTerms_155 ?_
          refine lv_topi (fun z30 ez30 => ?_)
          have tz30 : (z30).toInt = (z26).toInt + (z29).toInt := by rw [ez30]; exact i_add rfl rfl (by omega)
          refine va_iast hx hb hK hP hD hS 2 1 rfl rfl (i := x10) (x := z30) (vp_in_iff.mpr (by omega)) dX1_pushTerms_156 (fun H locs hP9 hD9 hS9 => ?_)
          obtain ⟨f31, ef31⟩ : ∃ g : Nat → Int32, g = upd f12 (Int32.toNatClampNeg x10) z30 := ⟨_, rfl⟩
          clear hP hD hS
          have hP : va_P (dC, dI) cls [(h_bd, .inr (1, (mo15 v_bd (.ref h_td) (.ref h_lef) (.ref h_rig) (.int z25)))), (h_lef, .inl (cy_lef, 2048, .inl f24)), (h_rig, .inl (cy_rig, 2048, .inl f31)), (h_td, .inr (5, (mo16 v_td (.ref h_trm) (.ref h_ter)))), (h_trm, .inl (cy_trm, 300, .inl f_trm)), (h_ter, .inl (cy_ter, 900, .inl f_ter))] H := by rw [ef31]; exact hP9
          have hD : va_D A [(h_bd, .inr (1, (mo15 v_bd (.ref h_td) (.ref h_lef) (.ref h_rig) (.int z25)))), (h_lef, .inl (cy_lef, 2048, .inl f24)), (h_rig, .inl (cy_rig, 2048, .inl f31)), (h_td, .inr (5, (mo16 v_td (.ref h_trm) (.ref h_ter)))), (h_trm, .inl (cy_trm, 300, .inl f_trm)), (h_ter, .inl (cy_ter, 900, .inl f_ter))] := by rw [ef31]; exact hD9
          have hS := hS9
          clear hP9 hD9 hS9
          have hf31 : Rg 0 9599 f31 := by rw [ef31]; exact rg_upd hf12 (by omega)
          have ka9 : (z23).toInt = (g.2.2.2.2 (p1).toInt.toNat (Int.toNat (x9).toInt) : Nat) := gvk_ch (x := p1) hn_gvk (by omega) (by omega) (by omega) ez22 (by omega) (by omega)
          have kb9 : (z30).toInt = (g.2.2.2.2 (p2).toInt.toNat (Int.toNat (x9).toInt) : Nat) := gvk_ch (x := p2) hn_gvk (by omega) (by omega) (by omega) ez29 (by omega) (by omega)
          have pj32 : PSJ g (p1).toInt.toNat (p2).toInt.toNat (x_bd_top).toInt.toNat (g.2.2.2.1 (p1).toInt.toNat) ((x9).toInt - 1) f_lef f24 f_rig f31 (z25).toInt := psj_step klp13_6 (by omega) (i := x10) (by omega) ka9 kb9 ef24 ef31 rfl (by omega)
          obtain ⟨z33, ez33⟩ : ∃ y : Int32, y = x9 + (-1) := ⟨_, rfl⟩
          have tz33 : (z33).toInt = (x9).toInt + -1 := by rw [ez33]; exact i_add rfl (by decide) (by omega)
          refine lv_iinc (v := z33) (lv' := [(7, .int z33), (0, .ref h_bd), (1, .int p1), (2, .int p2), (3, .int 0), (4, .int z1), (5, .int z2), (6, .int z3)]) hx hb dX1_pushTerms_157 hl (k := 7) rfl (by rw [ez33]; rfl) (by decide) rfl (fun ls hl => ?_)
          refine lv_goto (tgt := 87) hx hb dX1_pushTerms_160 (by decide) ?_
          exact ih14 (z33) (z25) (f24) (f31) _ _ _ (by omega) (by omega) hf24 hf31 (by omega) (by omega) (by have h9 := pj32; first | exact h9 | exact psj_cast h9 (by omega) (by omega)) (by omega) hP hD hS (lv_sub hl [1, 2, 3, 4, 5, 6, 7, 0] rfl)
    exact lp13 _ (z7) (x_bd_top) (f_lef) (f_rig) _ _ _ (by omega) (by first | exact hx_bd_top | omega) hf_lef hf_rig (by omega) (by omega) (by have h9 := pj8; first | exact h9 | exact psj_cast h9 (by omega) (by omega)) (Nat.le_refl _) hP hD hS (lv_sub hl [4, 5, 6, 7, 3, 2, 1, 0] rfl)
  · have kc6 := (not_congr (cv_le (rfl : (z5).toInt = (z5).toInt) (by decide : (2048 : Int32).toInt = 2048))).mp c6
    refine lv_iconst (v := 0) hx hb dX1_pushTerms_41 (by decide) ?_
    refine W.widen (k := 0) (n := 0) (Nat.le_of_ble_eq_true rfl) (Nat.le_of_ble_eq_true rfl) ?_
    have cst0 : (0 : Int32).toInt = 0 := by decide
    have w34 : 0 ≤ ((x_bd_top)).toInt ∧ ((x_bd_top)).toInt ≤ 2048 := by first | exact hx_bd_top | omega
    have w35 : 0 ≤ (0 : Int32).toInt ∧ (0 : Int32).toInt ≤ 1 := by omega
    have w36 : PSK g (p1).toInt.toNat (p2).toInt.toNat (x_bd_top).toInt.toNat f_lef (f_lef) f_rig (f_rig) ((x_bd_top)).toInt ((0 : Int32)).toInt := (Or.inl ⟨by decide, by omega⟩)
    exact W.zret (v := 0) (ty := .boolean) hx hb hr (by decide) (fun t ht hW => ⟨⟨0, (x_bd_top, f_lef, f_rig), rfl, ⟨w34, hf_lef, hf_rig, w35, w36⟩, by rw [ht]; exact hP, hD⟩, hS.F ht⟩) hS.2.2 dX1_pushTerms_42

set_option maxHeartbeats 8000000 in
set_option maxRecDepth 100000 in
theorem c_X1_alike_s (l : Launch) (dC : Nat → ClassId) (dI : Nat → Nat → Nat) (sz : Nat) (h_bd : Nat) (h_bnd : Nat) (h_lef : Nat) (h_rig : Nat) (h_td : Nat) (h_nam : Nat) (h_var : Nat) (h_trm : Nat) (h_ter : Nat) (v_bd : Nat → Value) (x_bd_top : Int32) (cy_bnd : ClassId) (f_bnd : Nat → Int32) (cy_lef : ClassId) (f_lef : Nat → Int32) (cy_rig : ClassId) (f_rig : Nat → Int32) (v_td : Nat → Value) (cy_nam : ClassId) (f_nam : Nat → Int64) (cy_var : ClassId) (f_var : Nat → Int32) (cy_trm : ClassId) (f_trm : Nat → Int32) (cy_ter : ClassId) (f_ter : Nat → Int32) (p1 : Int32) (p2 : Int32) (g : GVT) (S : Nat → Prop) (Nn : Nat) (hx_bd_top : 0 ≤ (x_bd_top).toInt ∧ (x_bd_top).toInt ≤ 2048) (hf_bnd : Rg 0 9600 f_bnd) (hf_lef : Rg (-9600) 9599 f_lef) (hf_rig : Rg 0 9599 f_rig) (hf_var : Rg (-1) 7 f_var) (hf_trm : Rg 0 3 f_trm) (hf_ter : Rg 0 299 f_ter) (q0 : 0 ≤ (p1).toInt ∧ (p1).toInt ≤ 9599) (q1 : 0 ≤ (p2).toInt ∧ (p2).toInt ≤ 9599) (q2 : Nn ≤ 2000) (hn_gvv : GVV g f_var) (hn_gvk : GVK g f_trm f_ter) (hn_gvm : GVM g f_nam) (hn_wfs : WSG g (BDV f_bnd) S) (hn_sp1 : S (p1).toInt.toNat) (hn_sp2 : S (p2).toInt.toNat) (hn_sml : SMn g (BDV f_bnd) Nn [(p1).toInt.toNat]) : Met l yX1_alike (Ws yX1_alike cX1_alike 6 (some .boolean)) (({ frames := 1, cells := 0, slots := 0, locals := 27 } : Room)) (PRE (dC, dI) cls [(cy_bnd, .int), (cy_lef, .int), (cy_rig, .int), (cy_nam, .long), (cy_var, .int), (cy_trm, .int), (cy_ter, .int)] [(h_bd, .inr (1, (mo23 v_bd (.ref h_td) (.ref h_bnd) (.ref h_lef) (.ref h_rig) (.int x_bd_top)))), (h_bnd, .inl (cy_bnd, 256, .inl f_bnd)), (h_lef, .inl (cy_lef, 2048, .inl f_lef)), (h_rig, .inl (cy_rig, 2048, .inl f_rig)), (h_td, .inr (5, (mo21 v_td (.ref h_nam) (.ref h_var) (.ref h_trm) (.ref h_ter)))), (h_nam, .inl (cy_nam, 300, .inr (.inl f_nam))), (h_var, .inl (cy_var, 300, .inl f_var)), (h_trm, .inl (cy_trm, 300, .inl f_trm)), (h_ter, .inl (cy_ter, 900, .inl f_ter))] sz [.ref h_bd, .int p1, .int p2]) (va_Qi (fun (r : Int32) (u : (Int32) × (Nat → Int32) × (Nat → Int32)) => (0 ≤ (u.1).toInt ∧ (u.1).toInt ≤ 2048) ∧ (Rg (-9600) 9599 u.2.1) ∧ (Rg 0 9599 u.2.2) ∧ (0 ≤ r.toInt ∧ r.toInt ≤ 1) ∧ (((r).toInt = 1 ∧ ALK g (BDV f_bnd) (p1).toInt.toNat (p2).toInt.toNat) ∨ ((r).toInt = 0 ∧ ¬ ALK g (BDV f_bnd) (p1).toInt.toNat (p2).toInt.toNat))) (fun (u : (Int32) × (Nat → Int32) × (Nat → Int32)) (t : State) => va_P (dC, dI) cls [(h_bd, .inr (1, (mo23 v_bd (.ref h_td) (.ref h_bnd) (.ref h_lef) (.ref h_rig) (.int u.1)))), (h_bnd, .inl (cy_bnd, 256, .inl f_bnd)), (h_lef, .inl (cy_lef, 2048, .inl u.2.1)), (h_rig, .inl (cy_rig, 2048, .inl u.2.2)), (h_td, .inr (5, (mo21 v_td (.ref h_nam) (.ref h_var) (.ref h_trm) (.ref h_ter)))), (h_nam, .inl (cy_nam, 300, .inr (.inl f_nam))), (h_var, .inl (cy_var, 300, .inl f_var)), (h_trm, .inl (cy_trm, 300, .inl f_trm)), (h_ter, .inl (cy_ter, 900, .inl f_ter))] t.heap ∧ va_D (va_A [(h_bd, .inr (1, (mo23 v_bd (.ref h_td) (.ref h_bnd) (.ref h_lef) (.ref h_rig) (.int x_bd_top)))), (h_bnd, .inl (cy_bnd, 256, .inl f_bnd)), (h_lef, .inl (cy_lef, 2048, .inl f_lef)), (h_rig, .inl (cy_rig, 2048, .inl f_rig)), (h_td, .inr (5, (mo21 v_td (.ref h_nam) (.ref h_var) (.ref h_trm) (.ref h_ter)))), (h_nam, .inl (cy_nam, 300, .inr (.inl f_nam))), (h_var, .inl (cy_var, 300, .inl f_var)), (h_trm, .inl (cy_trm, 300, .inl f_trm)), (h_ter, .inl (cy_ter, 900, .inl f_ter))] sz) [(h_bd, .inr (1, (mo23 v_bd (.ref h_td) (.ref h_bnd) (.ref h_lef) (.ref h_rig) (.int u.1)))), (h_bnd, .inl (cy_bnd, 256, .inl f_bnd)), (h_lef, .inl (cy_lef, 2048, .inl u.2.1)), (h_rig, .inl (cy_rig, 2048, .inl u.2.2)), (h_td, .inr (5, (mo21 v_td (.ref h_nam) (.ref h_var) (.ref h_trm) (.ref h_ter)))), (h_nam, .inl (cy_nam, 300, .inr (.inl f_nam))), (h_var, .inl (cy_var, 300, .inl f_var)), (h_trm, .inl (cy_trm, 300, .inl f_trm)), (h_ter, .inl (cy_ter, 900, .inl f_ter))]) (va_A [(h_bd, .inr (1, (mo23 v_bd (.ref h_td) (.ref h_bnd) (.ref h_lef) (.ref h_rig) (.int x_bd_top)))), (h_bnd, .inl (cy_bnd, 256, .inl f_bnd)), (h_lef, .inl (cy_lef, 2048, .inl f_lef)), (h_rig, .inl (cy_rig, 2048, .inl f_rig)), (h_td, .inr (5, (mo21 v_td (.ref h_nam) (.ref h_var) (.ref h_trm) (.ref h_ter)))), (h_nam, .inl (cy_nam, 300, .inr (.inl f_nam))), (h_var, .inl (cy_var, 300, .inl f_var)), (h_trm, .inl (cy_trm, 300, .inl f_trm)), (h_ter, .inl (cy_ter, 900, .inl f_ter))] sz)) 0 0 (va_A [(h_bd, .inr (1, (mo23 v_bd (.ref h_td) (.ref h_bnd) (.ref h_lef) (.ref h_rig) (.int x_bd_top)))), (h_bnd, .inl (cy_bnd, 256, .inl f_bnd)), (h_lef, .inl (cy_lef, 2048, .inl f_lef)), (h_rig, .inl (cy_rig, 2048, .inl f_rig)), (h_td, .inr (5, (mo21 v_td (.ref h_nam) (.ref h_var) (.ref h_trm) (.ref h_ter)))), (h_nam, .inl (cy_nam, 300, .inr (.inl f_nam))), (h_var, .inl (cy_var, 300, .inl f_var)), (h_trm, .inl (cy_trm, 300, .inl f_trm)), (h_ter, .inl (cy_ter, 900, .inl f_ter))] sz) := by
  refine Met.ofW (cc := cX1_alike) (maxL := 6) (ret := (some .boolean)) (by decide) rfl ?_
  intro p e s m args below meth c s₁ B hml hv
  obtain ⟨rfl, hsz, hP, hK, hD0, hN⟩ := hv
  have hx := B.exec
  have hb := B.bytes
  have hr := B.returns
  have hts := atoms_spec (ws := Ws yX1_alike cX1_alike 6 (some .boolean)) B.pre
  have hT : ∀ w ∈ WALL, w ∈ Ws yX1_alike cX1_alike 6 (some .boolean) := fun w h => List.mem_cons_of_mem _ h
  have hw := fun w (h : w ∈ WALL) => hts w (hT w h)
  have hown : s.vm.findClass RX1 = some m.cls := findClass_of_methodNamed B.named
  have hlocks := B.notSynchronized
  subst hsz
  have hD := hD0.self (sz := s.heap.size)
  generalize hAe : va_A [(h_bd, .inr (1, (mo23 v_bd (.ref h_td) (.ref h_bnd) (.ref h_lef) (.ref h_rig) (.int x_bd_top)))), (h_bnd, .inl (cy_bnd, 256, .inl f_bnd)), (h_lef, .inl (cy_lef, 2048, .inl f_lef)), (h_rig, .inl (cy_rig, 2048, .inl f_rig)), (h_td, .inr (5, (mo21 v_td (.ref h_nam) (.ref h_var) (.ref h_trm) (.ref h_ter)))), (h_nam, .inl (cy_nam, 300, .inr (.inl f_nam))), (h_var, .inl (cy_var, 300, .inl f_var)), (h_trm, .inl (cy_trm, 300, .inl f_trm)), (h_ter, .inl (cy_ter, 900, .inl f_ter))] s.heap.size = A at hD ⊢
  have hA : ∀ q : Nat, s.heap.size ≤ q → A q := fun q h => by rw [← hAe]; exact Or.inr h
  have hS : va_S A s.heap s.heap [] := va_S.rf
  have hl := lv_entry ([.ref h_bd, .int p1, .int p2]) (n := 6) (Nat.le_of_ble_eq_true rfl)
  rw [lg_entry_eq]
  generalize (lg_sl ([.ref h_bd, .int p1, .int p2]) ++ List.replicate (6 - (lg_sl ([.ref h_bd, .int p1, .int p2])).length) Slot.unset).toArray = ls at hl ⊢
  have hl : lv_has ls 6 [(0, .ref h_bd), (1, .int p1), (2, .int p2)] := hl
  refine lv_aload_n hx hb dX1_alike_0 rfl (lv_at hl 0 rfl) ?_
  refine va_get (D := (dC, dI)) (ci := 1) (v := .ref h_lef) (C := RX1) (T := TX1) (N := 13) hx hb hw iwX1 hown hK hP 0 rfl rfl 7 (by decide) (hw _ w_f_X1_24) (fun _ h9 => h9) rfl dX1_alike_1 ?_
  refine lv_iconst (v := 0) hx hb dX1_alike_4 (by decide) ?_
  refine lv_iload_n hx hb dX1_alike_5 rfl (lv_at hl 1 rfl) ?_
  refine va_iast hx hb hK hP hD hS 2 1 rfl rfl (i := 0) (x := p1) (show ¬ _ from by decide) dX1_alike_6 (fun H locs hP9 hD9 hS9 => ?_)
  obtain ⟨f1, ef1⟩ : ∃ g : Nat → Int32, g = upd f_lef (Int32.toNatClampNeg 0) p1 := ⟨_, rfl⟩
  clear hP hD hS
  have hP : va_P (dC, dI) cls [(h_bd, .inr (1, (mo23 v_bd (.ref h_td) (.ref h_bnd) (.ref h_lef) (.ref h_rig) (.int x_bd_top)))), (h_bnd, .inl (cy_bnd, 256, .inl f_bnd)), (h_lef, .inl (cy_lef, 2048, .inl f1)), (h_rig, .inl (cy_rig, 2048, .inl f_rig)), (h_td, .inr (5, (mo21 v_td (.ref h_nam) (.ref h_var) (.ref h_trm) (.ref h_ter)))), (h_nam, .inl (cy_nam, 300, .inr (.inl f_nam))), (h_var, .inl (cy_var, 300, .inl f_var)), (h_trm, .inl (cy_trm, 300, .inl f_trm)), (h_ter, .inl (cy_ter, 900, .inl f_ter))] H := by rw [ef1]; exact hP9
  have hD : va_D A [(h_bd, .inr (1, (mo23 v_bd (.ref h_td) (.ref h_bnd) (.ref h_lef) (.ref h_rig) (.int x_bd_top)))), (h_bnd, .inl (cy_bnd, 256, .inl f_bnd)), (h_lef, .inl (cy_lef, 2048, .inl f1)), (h_rig, .inl (cy_rig, 2048, .inl f_rig)), (h_td, .inr (5, (mo21 v_td (.ref h_nam) (.ref h_var) (.ref h_trm) (.ref h_ter)))), (h_nam, .inl (cy_nam, 300, .inr (.inl f_nam))), (h_var, .inl (cy_var, 300, .inl f_var)), (h_trm, .inl (cy_trm, 300, .inl f_trm)), (h_ter, .inl (cy_ter, 900, .inl f_ter))] := by rw [ef1]; exact hD9
  have hS := hS9
  clear hP9 hD9 hS9
  have hf1 : Rg (-9600) 9599 f1 := by rw [ef1]; exact rg_upd hf_lef (by omega)
  refine lv_aload_n hx hb dX1_alike_7 rfl (lv_at hl 0 rfl) ?_
  refine va_get (D := (dC, dI)) (ci := 1) (v := .ref h_rig) (C := RX1) (T := TX1) (N := 13) hx hb hw iwX1 hown hK hP 0 rfl rfl 8 (by decide) (hw _ w_f_X1_27) (fun _ h9 => h9) rfl dX1_alike_8 ?_
  refine lv_iconst (v := 0) hx hb dX1_alike_11 (by decide) ?_
  refine lv_iload_n hx hb dX1_alike_12 rfl (lv_at hl 2 rfl) ?_
  refine va_iast hx hb hK hP hD hS 3 2 rfl rfl (i := 0) (x := p2) (show ¬ _ from by decide) dX1_alike_13 (fun H locs hP9 hD9 hS9 => ?_)
  obtain ⟨f2, ef2⟩ : ∃ g : Nat → Int32, g = upd f_rig (Int32.toNatClampNeg 0) p2 := ⟨_, rfl⟩
  clear hP hD hS
  have hP : va_P (dC, dI) cls [(h_bd, .inr (1, (mo23 v_bd (.ref h_td) (.ref h_bnd) (.ref h_lef) (.ref h_rig) (.int x_bd_top)))), (h_bnd, .inl (cy_bnd, 256, .inl f_bnd)), (h_lef, .inl (cy_lef, 2048, .inl f1)), (h_rig, .inl (cy_rig, 2048, .inl f2)), (h_td, .inr (5, (mo21 v_td (.ref h_nam) (.ref h_var) (.ref h_trm) (.ref h_ter)))), (h_nam, .inl (cy_nam, 300, .inr (.inl f_nam))), (h_var, .inl (cy_var, 300, .inl f_var)), (h_trm, .inl (cy_trm, 300, .inl f_trm)), (h_ter, .inl (cy_ter, 900, .inl f_ter))] H := by rw [ef2]; exact hP9
  have hD : va_D A [(h_bd, .inr (1, (mo23 v_bd (.ref h_td) (.ref h_bnd) (.ref h_lef) (.ref h_rig) (.int x_bd_top)))), (h_bnd, .inl (cy_bnd, 256, .inl f_bnd)), (h_lef, .inl (cy_lef, 2048, .inl f1)), (h_rig, .inl (cy_rig, 2048, .inl f2)), (h_td, .inr (5, (mo21 v_td (.ref h_nam) (.ref h_var) (.ref h_trm) (.ref h_ter)))), (h_nam, .inl (cy_nam, 300, .inr (.inl f_nam))), (h_var, .inl (cy_var, 300, .inl f_var)), (h_trm, .inl (cy_trm, 300, .inl f_trm)), (h_ter, .inl (cy_ter, 900, .inl f_ter))] := by rw [ef2]; exact hD9
  have hS := hS9
  clear hP9 hD9 hS9
  have hf2 : Rg 0 9599 f2 := by rw [ef2]; exact rg_upd hf_rig (by omega)
  refine lv_aload_n hx hb dX1_alike_14 rfl (lv_at hl 0 rfl) ?_
  refine lv_iconst (v := 1) hx hb dX1_alike_15 (by decide) ?_
  refine va_put (D := (dC, dI)) (ci := 1) (v := .int 1) (ty := tyX1 9) (C := RX1) (T := TX1) (N := 13) hx hb hw iwX1 tyX1 tyX1_ok nmX1 hown hK hP hD hS 0 rfl rfl 9 (by decide) (hw _ w_f_X1_49) (fun _ h9 => h9) rfl (tyX1_ok 9 (by decide)) rfl rfl (Nat.le_of_ble_eq_true rfl) dX1_alike_16 (fun H locs hP9 hD9 hS9 => ?_)
  clear hP hD hS
  have hP : va_P (dC, dI) cls [(h_bd, .inr (1, (mo23 v_bd (.ref h_td) (.ref h_bnd) (.ref h_lef) (.ref h_rig) (.int 1)))), (h_bnd, .inl (cy_bnd, 256, .inl f_bnd)), (h_lef, .inl (cy_lef, 2048, .inl f1)), (h_rig, .inl (cy_rig, 2048, .inl f2)), (h_td, .inr (5, (mo21 v_td (.ref h_nam) (.ref h_var) (.ref h_trm) (.ref h_ter)))), (h_nam, .inl (cy_nam, 300, .inr (.inl f_nam))), (h_var, .inl (cy_var, 300, .inl f_var)), (h_trm, .inl (cy_trm, 300, .inl f_trm)), (h_ter, .inl (cy_ter, 900, .inl f_ter))] H := hP9
  have hD : va_D A [(h_bd, .inr (1, (mo23 v_bd (.ref h_td) (.ref h_bnd) (.ref h_lef) (.ref h_rig) (.int 1)))), (h_bnd, .inl (cy_bnd, 256, .inl f_bnd)), (h_lef, .inl (cy_lef, 2048, .inl f1)), (h_rig, .inl (cy_rig, 2048, .inl f2)), (h_td, .inr (5, (mo21 v_td (.ref h_nam) (.ref h_var) (.ref h_trm) (.ref h_ter)))), (h_nam, .inl (cy_nam, 300, .inr (.inl f_nam))), (h_var, .inl (cy_var, 300, .inl f_var)), (h_trm, .inl (cy_trm, 300, .inl f_trm)), (h_ter, .inl (cy_ter, 900, .inl f_ter))] := hD9
  have hS := hS9
  clear hP9 hD9 hS9
  refine lv_iconst (v := 0) hx hb dX1_alike_19 (by decide) ?_
  refine lv_istore_n (lv' := [(3, .int 0), (0, .ref h_bd), (1, .int p1), (2, .int p2)]) hx hb dX1_alike_20 rfl hl (by decide) rfl (fun ls hl => ?_)
  have ak0 : AKI g (BDV f_bnd) S (p1).toInt.toNat (p2).toInt.toNat f1 f2 1 Nn 0 := aki_zero hn_sp1 hn_sp2 (by omega) (by omega) (by have h9 := ef1; rw [show Int32.toNatClampNeg (0 : Int32) = 0 by decide] at h9; exact h9) (by have h9 := ef2; rw [show Int32.toNatClampNeg (0 : Int32) = 0 by decide] at h9; exact h9) hn_sml
  have lp7 : ∀ (n : Nat) (x3 : Int32) (x4 : Int32) (f5 : Nat → Int32) (f6 : Nat → Int32) (H : Heap) (locs : List Loc) (ls : Array Slot), (0 ≤ (x3).toInt ∧ (x3).toInt ≤ 1000000) → (0 ≤ (x4).toInt ∧ (x4).toInt ≤ 2048) → (Rg (-9600) 9599 f5) → (Rg 0 9599 f6) → (AKI g (BDV f_bnd) S (p1).toInt.toNat (p2).toInt.toNat f5 f6 (x4).toInt Nn ((x3).toInt)) → (1000000 - (x3).toInt).toNat + 1 ≤ n → va_P (dC, dI) cls [(h_bd, .inr (1, (mo23 v_bd (.ref h_td) (.ref h_bnd) (.ref h_lef) (.ref h_rig) (.int x4)))), (h_bnd, .inl (cy_bnd, 256, .inl f_bnd)), (h_lef, .inl (cy_lef, 2048, .inl f5)), (h_rig, .inl (cy_rig, 2048, .inl f6)), (h_td, .inr (5, (mo21 v_td (.ref h_nam) (.ref h_var) (.ref h_trm) (.ref h_ter)))), (h_nam, .inl (cy_nam, 300, .inr (.inl f_nam))), (h_var, .inl (cy_var, 300, .inl f_var)), (h_trm, .inl (cy_trm, 300, .inl f_trm)), (h_ter, .inl (cy_ter, 900, .inl f_ter))] H → va_D A [(h_bd, .inr (1, (mo23 v_bd (.ref h_td) (.ref h_bnd) (.ref h_lef) (.ref h_rig) (.int x4)))), (h_bnd, .inl (cy_bnd, 256, .inl f_bnd)), (h_lef, .inl (cy_lef, 2048, .inl f5)), (h_rig, .inl (cy_rig, 2048, .inl f6)), (h_td, .inr (5, (mo21 v_td (.ref h_nam) (.ref h_var) (.ref h_trm) (.ref h_ter)))), (h_nam, .inl (cy_nam, 300, .inr (.inl f_nam))), (h_var, .inl (cy_var, 300, .inl f_var)), (h_trm, .inl (cy_trm, 300, .inl f_trm)), (h_ter, .inl (cy_ter, 900, .inl f_ter))] → va_S A s.heap H locs → lv_has ls 6 [(0, .ref h_bd), (1, .int p1), (2, .int p2), (3, .int x3)] → W p l e ({ frames := 1, cells := 0, slots := 0, locals := 27 } : Room) s m ([.ref h_bd, .int p1, .int p2] : List Value).toArray below meth c H locs 0 0 (MQ below (va_Qi (fun (r : Int32) (u : (Int32) × (Nat → Int32) × (Nat → Int32)) => (0 ≤ (u.1).toInt ∧ (u.1).toInt ≤ 2048) ∧ (Rg (-9600) 9599 u.2.1) ∧ (Rg 0 9599 u.2.2) ∧ (0 ≤ r.toInt ∧ r.toInt ≤ 1) ∧ (((r).toInt = 1 ∧ ALK g (BDV f_bnd) (p1).toInt.toNat (p2).toInt.toNat) ∨ ((r).toInt = 0 ∧ ¬ ALK g (BDV f_bnd) (p1).toInt.toNat (p2).toInt.toNat))) (fun (u : (Int32) × (Nat → Int32) × (Nat → Int32)) (t : State) => va_P (dC, dI) cls [(h_bd, .inr (1, (mo23 v_bd (.ref h_td) (.ref h_bnd) (.ref h_lef) (.ref h_rig) (.int u.1)))), (h_bnd, .inl (cy_bnd, 256, .inl f_bnd)), (h_lef, .inl (cy_lef, 2048, .inl u.2.1)), (h_rig, .inl (cy_rig, 2048, .inl u.2.2)), (h_td, .inr (5, (mo21 v_td (.ref h_nam) (.ref h_var) (.ref h_trm) (.ref h_ter)))), (h_nam, .inl (cy_nam, 300, .inr (.inl f_nam))), (h_var, .inl (cy_var, 300, .inl f_var)), (h_trm, .inl (cy_trm, 300, .inl f_trm)), (h_ter, .inl (cy_ter, 900, .inl f_ter))] t.heap ∧ va_D A [(h_bd, .inr (1, (mo23 v_bd (.ref h_td) (.ref h_bnd) (.ref h_lef) (.ref h_rig) (.int u.1)))), (h_bnd, .inl (cy_bnd, 256, .inl f_bnd)), (h_lef, .inl (cy_lef, 2048, .inl u.2.1)), (h_rig, .inl (cy_rig, 2048, .inl u.2.2)), (h_td, .inr (5, (mo21 v_td (.ref h_nam) (.ref h_var) (.ref h_trm) (.ref h_ter)))), (h_nam, .inl (cy_nam, 300, .inr (.inl f_nam))), (h_var, .inl (cy_var, 300, .inl f_var)), (h_trm, .inl (cy_trm, 300, .inl f_trm)), (h_ter, .inl (cy_ter, 900, .inl f_ter))]) A) ([.ref h_bd, .int p1, .int p2] : List Value).toArray s 0 0 A) (F0 m 21 ls []) := by
    clear hP hD hS hl
    intro n
    induction n with
    | zero => intro x3 x4 f5 f6 H locs ls klp7_0 klp7_1 hf5 hf6 klp7_4 hm hP hD hS hl; exact False.elim (by omega)
    | succ n ih => 
      intro x3 x4 f5 f6 H locs ls klp7_0 klp7_1 hf5 hf6 klp7_4 hm hP hD hS hl
      have ih8 := ih
      clear ih
      refine lv_iload_n hx hb dX1_alike_21 rfl (lv_at hl 3 rfl) ?_
      refine lv_ldc (v := 1000000) hx hb hown (hw _ w_k_X1_55) dX1_alike_22 ?_
      have ar9 := aki_rng klp7_4
      refine lv_icmp_ge (tgt := 141) hx hb dX1_alike_24 (by decide) (fun c9 => False.elim (by have kc9 := (cv_le (by decide : (1000000 : Int32).toInt = 1000000) (rfl : (x3).toInt = (x3).toInt)).mp c9; omega)) (fun _ => ?_)
      refine lv_aload_n hx hb dX1_alike_27 rfl (lv_at hl 0 rfl) ?_
      refine va_get (D := (dC, dI)) (ci := 1) (v := .int x4) (C := RX1) (T := TX1) (N := 13) hx hb hw iwX1 hown hK hP 0 rfl rfl 9 (by decide) (hw _ w_f_X1_49) (fun _ h9 => h9) rfl dX1_alike_28 ?_
      refine lv_if_le (tgt := 141) hx hb dX1_alike_31 (by decide) (fun c10 => ?_) (fun c10 => ?_)
      · have kc10 := (cv_le (rfl : (x4).toInt = (x4).toInt) (by decide : (0 : Int32).toInt = 0)).mp c10
        refine lv_aload_n hx hb dX1_alike_141 rfl (lv_at hl 0 rfl) ?_
        refine va_get (D := (dC, dI)) (ci := 1) (v := .int x4) (C := RX1) (T := TX1) (N := 13) hx hb hw iwX1 hown hK hP 0 rfl rfl 9 (by decide) (hw _ w_f_X1_49) (fun _ h9 => h9) rfl dX1_alike_142 ?_
        refine lv_if_ne (tgt := 152) hx hb dX1_alike_145 (by decide) (fun c11 => False.elim (by have kc11 := (not_congr (cv_eq (rfl : (x4).toInt = (x4).toInt) (by decide : (0 : Int32).toInt = 0))).mp c11; omega)) (fun _ => ?_)
        refine lv_iconst (v := 1) hx hb dX1_alike_148 (by decide) ?_
        refine lv_goto (tgt := 153) hx hb dX1_alike_149 (by decide) ?_
        refine W.widen (k := 0) (n := 0) (Nat.le_of_ble_eq_true rfl) (Nat.le_of_ble_eq_true rfl) ?_
        have cst1 : (1 : Int32).toInt = 1 := by decide
        have w12 : 0 ≤ ((x4)).toInt ∧ ((x4)).toInt ≤ 2048 := by first | exact klp7_1 | omega
        have w13 : 0 ≤ (1 : Int32).toInt ∧ (1 : Int32).toInt ≤ 1 := by omega
        have w14 : (((1 : Int32)).toInt = 1 ∧ ALK g (BDV f_bnd) (p1).toInt.toNat (p2).toInt.toNat) ∨ (((1 : Int32)).toInt = 0 ∧ ¬ ALK g (BDV f_bnd) (p1).toInt.toNat (p2).toInt.toNat) := (Or.inl ⟨by decide, aki_end klp7_4 (by omega)⟩)
        exact W.zret (v := 1) (ty := .boolean) hx hb hr (by decide) (fun t ht hW => ⟨⟨1, (x4, f5, f6), rfl, ⟨w12, hf5, hf6, w13, w14⟩, by rw [ht]; exact hP, hD⟩, hS.F ht⟩) hS.2.2 dX1_alike_153
      · have kc10 := (not_congr (cv_le (rfl : (x4).toInt = (x4).toInt) (by decide : (0 : Int32).toInt = 0))).mp c10
        refine lv_aload_n hx hb dX1_alike_34 rfl (lv_at hl 0 rfl) ?_
        refine lv_dup hx hb dX1_alike_35 rfl ?_
        refine va_get (D := (dC, dI)) (ci := 1) (v := .int x4) (C := RX1) (T := TX1) (N := 13) hx hb hw iwX1 hown hK hP 0 rfl rfl 9 (by decide) (hw _ w_f_X1_49) (fun _ h9 => h9) rfl dX1_alike_36 ?_
        refine lv_iconst (v := 1) hx hb dX1_alike_39 (by decide) ?_
        refine lv_isub hx hb dX1_alike_40 ?_
        refine lv_topi (fun z15 ez15 => ?_)
        have tz15 : (z15).toInt = (x4).toInt - 1 := by rw [ez15]; exact i_sub rfl (by decide) (by omega)
        refine va_put (D := (dC, dI)) (ci := 1) (v := .int z15) (ty := tyX1 9) (C := RX1) (T := TX1) (N := 13) hx hb hw iwX1 tyX1 tyX1_ok nmX1 hown hK hP hD hS 0 rfl rfl 9 (by decide) (hw _ w_f_X1_49) (fun _ h9 => h9) rfl (tyX1_ok 9 (by decide)) rfl rfl (Nat.le_of_ble_eq_true rfl) dX1_alike_41 (fun H locs hP9 hD9 hS9 => ?_)
        clear hP hD hS
        have hP : va_P (dC, dI) cls [(h_bd, .inr (1, (mo23 v_bd (.ref h_td) (.ref h_bnd) (.ref h_lef) (.ref h_rig) (.int z15)))), (h_bnd, .inl (cy_bnd, 256, .inl f_bnd)), (h_lef, .inl (cy_lef, 2048, .inl f5)), (h_rig, .inl (cy_rig, 2048, .inl f6)), (h_td, .inr (5, (mo21 v_td (.ref h_nam) (.ref h_var) (.ref h_trm) (.ref h_ter)))), (h_nam, .inl (cy_nam, 300, .inr (.inl f_nam))), (h_var, .inl (cy_var, 300, .inl f_var)), (h_trm, .inl (cy_trm, 300, .inl f_trm)), (h_ter, .inl (cy_ter, 900, .inl f_ter))] H := hP9
        have hD : va_D A [(h_bd, .inr (1, (mo23 v_bd (.ref h_td) (.ref h_bnd) (.ref h_lef) (.ref h_rig) (.int z15)))), (h_bnd, .inl (cy_bnd, 256, .inl f_bnd)), (h_lef, .inl (cy_lef, 2048, .inl f5)), (h_rig, .inl (cy_rig, 2048, .inl f6)), (h_td, .inr (5, (mo21 v_td (.ref h_nam) (.ref h_var) (.ref h_trm) (.ref h_ter)))), (h_nam, .inl (cy_nam, 300, .inr (.inl f_nam))), (h_var, .inl (cy_var, 300, .inl f_var)), (h_trm, .inl (cy_trm, 300, .inl f_trm)), (h_ter, .inl (cy_ter, 900, .inl f_ter))] := hD9
        have hS := hS9
        clear hP9 hD9 hS9
        refine lv_aload_n hx hb dX1_alike_44 rfl (lv_at hl 0 rfl) ?_
        refine lv_aload_n hx hb dX1_alike_45 rfl (lv_at hl 0 rfl) ?_
        obtain ⟨T9, eT9⟩ : ∃ y : Nat, (y : Int) = (z15).toInt := ⟨(z15).toInt.toNat, by omega⟩
        have cz9 : Int32.toNatClampNeg z15 = T9 := by rw [clamp_nat (by omega)]; omega
        have nz9 : (z15).toInt.toNat = T9 := by omega
        obtain ⟨at1, at2, at3, at4⟩ := aki_at (T := T9) klp7_4 (by omega)
        refine va_get (D := (dC, dI)) (ci := 1) (v := .ref h_lef) (C := RX1) (T := TX1) (N := 13) hx hb hw iwX1 hown hK hP 0 rfl rfl 7 (by decide) (hw _ w_f_X1_24) (fun _ h9 => h9) rfl dX1_alike_46 ?_
        refine lv_aload_n hx hb dX1_alike_49 rfl (lv_at hl 0 rfl) ?_
        refine va_get (D := (dC, dI)) (ci := 1) (v := .int z15) (C := RX1) (T := TX1) (N := 13) hx hb hw iwX1 hown hK hP 0 rfl rfl 9 (by decide) (hw _ w_f_X1_49) (fun _ h9 => h9) rfl dX1_alike_50 ?_
        refine va_iald hx hb hK hP 2 1 rfl rfl (i := z15) (vp_in_iff.mpr (by omega)) dX1_alike_53 ?_
        refine lv_topi (fun z16 ez16 => ?_)
        have rz16 : -9600 ≤ (z16).toInt ∧ (z16).toInt ≤ 9599 := by rw [ez16]; exact hf5 _
        have al9 : z16 = f5 T9 := by rw [ez16, cz9]
        have anz16 : 0 ≤ (z16).toInt := by rw [al9]; exact at3
        obtain ⟨vq17, evq17⟩ := mq23_9 v_bd (.ref h_lef) (.ref h_rig) (.int z15)
        replace hP : va_P (dC, dI) cls [(h_bd, .inr (1, (mo9 vq17 (.ref h_td) (.ref h_bnd)))), (h_bnd, .inl (cy_bnd, 256, .inl f_bnd)), (h_lef, .inl (cy_lef, 2048, .inl f5)), (h_rig, .inl (cy_rig, 2048, .inl f6)), (h_td, .inr (5, (mo21 v_td (.ref h_nam) (.ref h_var) (.ref h_trm) (.ref h_ter)))), (h_nam, .inl (cy_nam, 300, .inr (.inl f_nam))), (h_var, .inl (cy_var, 300, .inl f_var)), (h_trm, .inl (cy_trm, 300, .inl f_trm)), (h_ter, .inl (cy_ter, 900, .inl f_ter))] H := by rw [evq17]; exact hP
        replace hD : va_D A [(h_bd, .inr (1, (mo9 vq17 (.ref h_td) (.ref h_bnd)))), (h_bnd, .inl (cy_bnd, 256, .inl f_bnd)), (h_lef, .inl (cy_lef, 2048, .inl f5)), (h_rig, .inl (cy_rig, 2048, .inl f6)), (h_td, .inr (5, (mo21 v_td (.ref h_nam) (.ref h_var) (.ref h_trm) (.ref h_ter)))), (h_nam, .inl (cy_nam, 300, .inr (.inl f_nam))), (h_var, .inl (cy_var, 300, .inl f_var)), (h_trm, .inl (cy_trm, 300, .inl f_trm)), (h_ter, .inl (cy_ter, 900, .inl f_ter))] := by rw [evq17]; exact hD
        obtain ⟨vq18, evq18⟩ := mq21_8 v_td (.ref h_nam) (.ref h_trm) (.ref h_ter)
        replace hP : va_P (dC, dI) cls [(h_bd, .inr (1, (mo9 vq17 (.ref h_td) (.ref h_bnd)))), (h_bnd, .inl (cy_bnd, 256, .inl f_bnd)), (h_lef, .inl (cy_lef, 2048, .inl f5)), (h_rig, .inl (cy_rig, 2048, .inl f6)), (h_td, .inr (5, (mo8 vq18 (.ref h_var)))), (h_nam, .inl (cy_nam, 300, .inr (.inl f_nam))), (h_var, .inl (cy_var, 300, .inl f_var)), (h_trm, .inl (cy_trm, 300, .inl f_trm)), (h_ter, .inl (cy_ter, 900, .inl f_ter))] H := by rw [evq18]; exact hP
        replace hD : va_D A [(h_bd, .inr (1, (mo9 vq17 (.ref h_td) (.ref h_bnd)))), (h_bnd, .inl (cy_bnd, 256, .inl f_bnd)), (h_lef, .inl (cy_lef, 2048, .inl f5)), (h_rig, .inl (cy_rig, 2048, .inl f6)), (h_td, .inr (5, (mo8 vq18 (.ref h_var)))), (h_nam, .inl (cy_nam, 300, .inr (.inl f_nam))), (h_var, .inl (cy_var, 300, .inl f_var)), (h_trm, .inl (cy_trm, 300, .inl f_trm)), (h_ter, .inl (cy_ter, 900, .inl f_ter))] := by rw [evq18]; exact hD
        have hPc := hP.sub (ws' := [(h_bd, .inr (1, (mo9 vq17 (.ref h_td) (.ref h_bnd)))), (h_bnd, .inl (cy_bnd, 256, .inl f_bnd)), (h_td, .inr (5, (mo8 vq18 (.ref h_var)))), (h_var, .inl (cy_var, 300, .inl f_var))]) [0, 1, 4, 6] rfl
        have hDc := hD.sub (ws' := [(h_bd, .inr (1, (mo9 vq17 (.ref h_td) (.ref h_bnd)))), (h_bnd, .inl (cy_bnd, 256, .inl f_bnd)), (h_td, .inr (5, (mo8 vq18 (.ref h_var)))), (h_var, .inl (cy_var, 300, .inl f_var))]) [0, 1, 4, 6] (by decide) rfl
        have hKc := hK.sub (tys' := [(cy_bnd, .int), (cy_var, .int)]) [0, 4] rfl
        have hFc := va_free (wc := [(h_bd, .inr (1, (mo9 vq17 (.ref h_td) (.ref h_bnd)))), (h_bnd, .inl (cy_bnd, 256, .inl f_bnd)), (h_td, .inr (5, (mo8 vq18 (.ref h_var)))), (h_var, .inl (cy_var, 300, .inl f_var))]) hD hS hA [0, 1, 4, 6] rfl
        refine va_calli (va_runV (As := [.int z16]) (rest := []) ⟨hx, hb, hml, hown, hts⟩ (c_X1_bare_x l dC dI H.size h_bd h_bnd h_td h_var vq17 cy_bnd f_bnd vq18 cy_var f_var z16 g hf_bnd hf_var (by omega) hn_gvv) (cwV 1 hts (gv hT w_m_X1_60 w_instanceMethod_X1_bare ws_sel_X1_bare w_ini_X1 w_code_X1_bare) rfl rfl rfl (by decide +kernel) ⟨(Nat.le_of_ble_eq_true rfl), (Nat.le_of_ble_eq_true rfl)⟩) ⟨pre_blind, va_recv hK hP (ci := 1) (q0 := 0) rfl rfl, pre_of hPc hKc hDc hN⟩ rfl rfl hl.1 rfl (lv_room (Nat.le_of_ble_eq_true rfl)) dX1_alike_54 ⟨(Nat.le_of_ble_eq_true rfl), (Nat.le_of_ble_eq_true rfl)⟩) hS (fun q _ h => hFc q h) hFc (fun r19 u t H locs ht hvm hq hB hz1 hk1 hS9 => ?_)
        obtain ⟨hP1, hD1⟩ := hB
        rw [ht] at hP1
        obtain ⟨hP9, hD9⟩ := va_join (wr := [(h_lef, .inl (cy_lef, 2048, .inl f5)), (h_rig, .inl (cy_rig, 2048, .inl f6)), (h_nam, .inl (cy_nam, 300, .inr (.inl f_nam))), (h_trm, .inl (cy_trm, 300, .inl f_trm)), (h_ter, .inl (cy_ter, 900, .inl f_ter))]) (w1 := [(h_bd, .inr (1, (mo9 vq17 (.ref h_td) (.ref h_bnd)))), (h_bnd, .inl (cy_bnd, 256, .inl f_bnd)), (h_td, .inr (5, (mo8 vq18 (.ref h_var)))), (h_var, .inl (cy_var, 300, .inl f_var))]) hP hD [0, 1, 4, 6] [2, 3, 5, 7, 8] rfl rfl (by decide) (by decide) hk1 hFc hP1 hD1
        clear hP hD hS hPc hDc hKc hFc hP1 hD1 hk1 hz1 ht hvm
        have hP : va_P (dC, dI) cls [(h_lef, .inl (cy_lef, 2048, .inl f5)), (h_rig, .inl (cy_rig, 2048, .inl f6)), (h_nam, .inl (cy_nam, 300, .inr (.inl f_nam))), (h_trm, .inl (cy_trm, 300, .inl f_trm)), (h_ter, .inl (cy_ter, 900, .inl f_ter)), (h_bd, .inr (1, (mo9 vq17 (.ref h_td) (.ref h_bnd)))), (h_bnd, .inl (cy_bnd, 256, .inl f_bnd)), (h_td, .inr (5, (mo8 vq18 (.ref h_var)))), (h_var, .inl (cy_var, 300, .inl f_var))] H := hP9
        have hD : va_D A [(h_lef, .inl (cy_lef, 2048, .inl f5)), (h_rig, .inl (cy_rig, 2048, .inl f6)), (h_nam, .inl (cy_nam, 300, .inr (.inl f_nam))), (h_trm, .inl (cy_trm, 300, .inl f_trm)), (h_ter, .inl (cy_ter, 900, .inl f_ter)), (h_bd, .inr (1, (mo9 vq17 (.ref h_td) (.ref h_bnd)))), (h_bnd, .inl (cy_bnd, 256, .inl f_bnd)), (h_td, .inr (5, (mo8 vq18 (.ref h_var)))), (h_var, .inl (cy_var, 300, .inl f_var))] := hD9
        have hS := hS9
        clear hP9 hD9 hS9
        rw [evq17] at hP hD
        replace hP : va_P (dC, dI) cls [(h_lef, .inl (cy_lef, 2048, .inl f5)), (h_rig, .inl (cy_rig, 2048, .inl f6)), (h_nam, .inl (cy_nam, 300, .inr (.inl f_nam))), (h_trm, .inl (cy_trm, 300, .inl f_trm)), (h_ter, .inl (cy_ter, 900, .inl f_ter)), (h_bd, .inr (1, (mo23 v_bd (.ref h_td) (.ref h_bnd) (.ref h_lef) (.ref h_rig) (.int z15)))), (h_bnd, .inl (cy_bnd, 256, .inl f_bnd)), (h_td, .inr (5, (mo8 vq18 (.ref h_var)))), (h_var, .inl (cy_var, 300, .inl f_var))] H := hP
        replace hD : va_D A [(h_lef, .inl (cy_lef, 2048, .inl f5)), (h_rig, .inl (cy_rig, 2048, .inl f6)), (h_nam, .inl (cy_nam, 300, .inr (.inl f_nam))), (h_trm, .inl (cy_trm, 300, .inl f_trm)), (h_ter, .inl (cy_ter, 900, .inl f_ter)), (h_bd, .inr (1, (mo23 v_bd (.ref h_td) (.ref h_bnd) (.ref h_lef) (.ref h_rig) (.int z15)))), (h_bnd, .inl (cy_bnd, 256, .inl f_bnd)), (h_td, .inr (5, (mo8 vq18 (.ref h_var)))), (h_var, .inl (cy_var, 300, .inl f_var))] := hD
        clear evq17 
        rw [evq18] at hP hD
        replace hP : va_P (dC, dI) cls [(h_lef, .inl (cy_lef, 2048, .inl f5)), (h_rig, .inl (cy_rig, 2048, .inl f6)), (h_nam, .inl (cy_nam, 300, .inr (.inl f_nam))), (h_trm, .inl (cy_trm, 300, .inl f_trm)), (h_ter, .inl (cy_ter, 900, .inl f_ter)), (h_bd, .inr (1, (mo23 v_bd (.ref h_td) (.ref h_bnd) (.ref h_lef) (.ref h_rig) (.int z15)))), (h_bnd, .inl (cy_bnd, 256, .inl f_bnd)), (h_td, .inr (5, (mo21 v_td (.ref h_nam) (.ref h_var) (.ref h_trm) (.ref h_ter)))), (h_var, .inl (cy_var, 300, .inl f_var))] H := hP
        replace hD : va_D A [(h_lef, .inl (cy_lef, 2048, .inl f5)), (h_rig, .inl (cy_rig, 2048, .inl f6)), (h_nam, .inl (cy_nam, 300, .inr (.inl f_nam))), (h_trm, .inl (cy_trm, 300, .inl f_trm)), (h_ter, .inl (cy_ter, 900, .inl f_ter)), (h_bd, .inr (1, (mo23 v_bd (.ref h_td) (.ref h_bnd) (.ref h_lef) (.ref h_rig) (.int z15)))), (h_bnd, .inl (cy_bnd, 256, .inl f_bnd)), (h_td, .inr (5, (mo21 v_td (.ref h_nam) (.ref h_var) (.ref h_trm) (.ref h_ter)))), (h_var, .inl (cy_var, 300, .inl f_var))] := hD
        clear evq18 
        obtain ⟨k20, k21⟩ := hq
        replace k20 : 0 ≤ (r19).toInt ∧ (r19).toInt ≤ 9599 := k20
        replace k21 : BRX (g) (BDV f_bnd) (z16) (r19) := k21
        refine lv_istore (lv' := [(4, .int r19), (0, .ref h_bd), (1, .int p1), (2, .int p2), (3, .int x3)]) hx hb dX1_alike_57 hl (by decide) rfl (fun ls hl => ?_)
        refine lv_aload_n hx hb dX1_alike_59 rfl (lv_at hl 1 rfl) ?_
        refine lv_aload_n hx hb dX1_alike_60 rfl (lv_at hl 1 rfl) ?_
        refine va_get (D := (dC, dI)) (ci := 1) (v := .ref h_rig) (C := RX1) (T := TX1) (N := 13) hx hb hw iwX1 hown hK hP 5 rfl rfl 8 (by decide) (hw _ w_f_X1_27) (fun _ h9 => h9) rfl dX1_alike_61 ?_
        refine lv_aload_n hx hb dX1_alike_64 rfl (lv_at hl 1 rfl) ?_
        refine va_get (D := (dC, dI)) (ci := 1) (v := .int z15) (C := RX1) (T := TX1) (N := 13) hx hb hw iwX1 hown hK hP 5 rfl rfl 9 (by decide) (hw _ w_f_X1_49) (fun _ h9 => h9) rfl dX1_alike_65 ?_
        refine va_iald hx hb hK hP 1 2 rfl rfl (i := z15) (vp_in_iff.mpr (by omega)) dX1_alike_68 ?_
        refine lv_topi (fun z22 ez22 => ?_)
        have rz22 : 0 ≤ (z22).toInt ∧ (z22).toInt ≤ 9599 := by rw [ez22]; exact hf6 _
        have ag9 : z22 = f6 T9 := by rw [ez22, cz9]
        obtain ⟨vq23, evq23⟩ := mq23_9 v_bd (.ref h_lef) (.ref h_rig) (.int z15)
        replace hP : va_P (dC, dI) cls [(h_lef, .inl (cy_lef, 2048, .inl f5)), (h_rig, .inl (cy_rig, 2048, .inl f6)), (h_nam, .inl (cy_nam, 300, .inr (.inl f_nam))), (h_trm, .inl (cy_trm, 300, .inl f_trm)), (h_ter, .inl (cy_ter, 900, .inl f_ter)), (h_bd, .inr (1, (mo9 vq23 (.ref h_td) (.ref h_bnd)))), (h_bnd, .inl (cy_bnd, 256, .inl f_bnd)), (h_td, .inr (5, (mo21 v_td (.ref h_nam) (.ref h_var) (.ref h_trm) (.ref h_ter)))), (h_var, .inl (cy_var, 300, .inl f_var))] H := by rw [evq23]; exact hP
        replace hD : va_D A [(h_lef, .inl (cy_lef, 2048, .inl f5)), (h_rig, .inl (cy_rig, 2048, .inl f6)), (h_nam, .inl (cy_nam, 300, .inr (.inl f_nam))), (h_trm, .inl (cy_trm, 300, .inl f_trm)), (h_ter, .inl (cy_ter, 900, .inl f_ter)), (h_bd, .inr (1, (mo9 vq23 (.ref h_td) (.ref h_bnd)))), (h_bnd, .inl (cy_bnd, 256, .inl f_bnd)), (h_td, .inr (5, (mo21 v_td (.ref h_nam) (.ref h_var) (.ref h_trm) (.ref h_ter)))), (h_var, .inl (cy_var, 300, .inl f_var))] := by rw [evq23]; exact hD
        obtain ⟨vq24, evq24⟩ := mq21_8 v_td (.ref h_nam) (.ref h_trm) (.ref h_ter)
        replace hP : va_P (dC, dI) cls [(h_lef, .inl (cy_lef, 2048, .inl f5)), (h_rig, .inl (cy_rig, 2048, .inl f6)), (h_nam, .inl (cy_nam, 300, .inr (.inl f_nam))), (h_trm, .inl (cy_trm, 300, .inl f_trm)), (h_ter, .inl (cy_ter, 900, .inl f_ter)), (h_bd, .inr (1, (mo9 vq23 (.ref h_td) (.ref h_bnd)))), (h_bnd, .inl (cy_bnd, 256, .inl f_bnd)), (h_td, .inr (5, (mo8 vq24 (.ref h_var)))), (h_var, .inl (cy_var, 300, .inl f_var))] H := by rw [evq24]; exact hP
        replace hD : va_D A [(h_lef, .inl (cy_lef, 2048, .inl f5)), (h_rig, .inl (cy_rig, 2048, .inl f6)), (h_nam, .inl (cy_nam, 300, .inr (.inl f_nam))), (h_trm, .inl (cy_trm, 300, .inl f_trm)), (h_ter, .inl (cy_ter, 900, .inl f_ter)), (h_bd, .inr (1, (mo9 vq23 (.ref h_td) (.ref h_bnd)))), (h_bnd, .inl (cy_bnd, 256, .inl f_bnd)), (h_td, .inr (5, (mo8 vq24 (.ref h_var)))), (h_var, .inl (cy_var, 300, .inl f_var))] := by rw [evq24]; exact hD
        have hPc := hP.sub (ws' := [(h_bd, .inr (1, (mo9 vq23 (.ref h_td) (.ref h_bnd)))), (h_bnd, .inl (cy_bnd, 256, .inl f_bnd)), (h_td, .inr (5, (mo8 vq24 (.ref h_var)))), (h_var, .inl (cy_var, 300, .inl f_var))]) [5, 6, 7, 8] rfl
        have hDc := hD.sub (ws' := [(h_bd, .inr (1, (mo9 vq23 (.ref h_td) (.ref h_bnd)))), (h_bnd, .inl (cy_bnd, 256, .inl f_bnd)), (h_td, .inr (5, (mo8 vq24 (.ref h_var)))), (h_var, .inl (cy_var, 300, .inl f_var))]) [5, 6, 7, 8] (by decide) rfl
        have hKc := hK.sub (tys' := [(cy_bnd, .int), (cy_var, .int)]) [0, 4] rfl
        have hFc := va_free (wc := [(h_bd, .inr (1, (mo9 vq23 (.ref h_td) (.ref h_bnd)))), (h_bnd, .inl (cy_bnd, 256, .inl f_bnd)), (h_td, .inr (5, (mo8 vq24 (.ref h_var)))), (h_var, .inl (cy_var, 300, .inl f_var))]) hD hS hA [5, 6, 7, 8] rfl
        refine va_calli (va_runV (As := [.int z22]) (rest := []) ⟨hx, hb, hml, hown, hts⟩ (c_X1_bare_x l dC dI H.size h_bd h_bnd h_td h_var vq23 cy_bnd f_bnd vq24 cy_var f_var z22 g hf_bnd hf_var (by omega) hn_gvv) (cwV 1 hts (gv hT w_m_X1_60 w_instanceMethod_X1_bare ws_sel_X1_bare w_ini_X1 w_code_X1_bare) rfl rfl rfl (by decide +kernel) ⟨(Nat.le_of_ble_eq_true rfl), (Nat.le_of_ble_eq_true rfl)⟩) ⟨pre_blind, va_recv hK hP (ci := 1) (q0 := 5) rfl rfl, pre_of hPc hKc hDc hN⟩ rfl rfl hl.1 rfl (lv_room (Nat.le_of_ble_eq_true rfl)) dX1_alike_69 ⟨(Nat.le_of_ble_eq_true rfl), (Nat.le_of_ble_eq_true rfl)⟩) hS (fun q _ h => hFc q h) hFc (fun r25 u t H locs ht hvm hq hB hz1 hk1 hS9 => ?_)
        obtain ⟨hP1, hD1⟩ := hB
        rw [ht] at hP1
        obtain ⟨hP9, hD9⟩ := va_join (wr := [(h_lef, .inl (cy_lef, 2048, .inl f5)), (h_rig, .inl (cy_rig, 2048, .inl f6)), (h_nam, .inl (cy_nam, 300, .inr (.inl f_nam))), (h_trm, .inl (cy_trm, 300, .inl f_trm)), (h_ter, .inl (cy_ter, 900, .inl f_ter))]) (w1 := [(h_bd, .inr (1, (mo9 vq23 (.ref h_td) (.ref h_bnd)))), (h_bnd, .inl (cy_bnd, 256, .inl f_bnd)), (h_td, .inr (5, (mo8 vq24 (.ref h_var)))), (h_var, .inl (cy_var, 300, .inl f_var))]) hP hD [5, 6, 7, 8] [0, 1, 2, 3, 4] rfl rfl (by decide) (by decide) hk1 hFc hP1 hD1
        clear hP hD hS hPc hDc hKc hFc hP1 hD1 hk1 hz1 ht hvm
        have hP : va_P (dC, dI) cls [(h_lef, .inl (cy_lef, 2048, .inl f5)), (h_rig, .inl (cy_rig, 2048, .inl f6)), (h_nam, .inl (cy_nam, 300, .inr (.inl f_nam))), (h_trm, .inl (cy_trm, 300, .inl f_trm)), (h_ter, .inl (cy_ter, 900, .inl f_ter)), (h_bd, .inr (1, (mo9 vq23 (.ref h_td) (.ref h_bnd)))), (h_bnd, .inl (cy_bnd, 256, .inl f_bnd)), (h_td, .inr (5, (mo8 vq24 (.ref h_var)))), (h_var, .inl (cy_var, 300, .inl f_var))] H := hP9
        have hD : va_D A [(h_lef, .inl (cy_lef, 2048, .inl f5)), (h_rig, .inl (cy_rig, 2048, .inl f6)), (h_nam, .inl (cy_nam, 300, .inr (.inl f_nam))), (h_trm, .inl (cy_trm, 300, .inl f_trm)), (h_ter, .inl (cy_ter, 900, .inl f_ter)), (h_bd, .inr (1, (mo9 vq23 (.ref h_td) (.ref h_bnd)))), (h_bnd, .inl (cy_bnd, 256, .inl f_bnd)), (h_td, .inr (5, (mo8 vq24 (.ref h_var)))), (h_var, .inl (cy_var, 300, .inl f_var))] := hD9
        have hS := hS9
        clear hP9 hD9 hS9
        rw [evq23] at hP hD
        replace hP : va_P (dC, dI) cls [(h_lef, .inl (cy_lef, 2048, .inl f5)), (h_rig, .inl (cy_rig, 2048, .inl f6)), (h_nam, .inl (cy_nam, 300, .inr (.inl f_nam))), (h_trm, .inl (cy_trm, 300, .inl f_trm)), (h_ter, .inl (cy_ter, 900, .inl f_ter)), (h_bd, .inr (1, (mo23 v_bd (.ref h_td) (.ref h_bnd) (.ref h_lef) (.ref h_rig) (.int z15)))), (h_bnd, .inl (cy_bnd, 256, .inl f_bnd)), (h_td, .inr (5, (mo8 vq24 (.ref h_var)))), (h_var, .inl (cy_var, 300, .inl f_var))] H := hP
        replace hD : va_D A [(h_lef, .inl (cy_lef, 2048, .inl f5)), (h_rig, .inl (cy_rig, 2048, .inl f6)), (h_nam, .inl (cy_nam, 300, .inr (.inl f_nam))), (h_trm, .inl (cy_trm, 300, .inl f_trm)), (h_ter, .inl (cy_ter, 900, .inl f_ter)), (h_bd, .inr (1, (mo23 v_bd (.ref h_td) (.ref h_bnd) (.ref h_lef) (.ref h_rig) (.int z15)))), (h_bnd, .inl (cy_bnd, 256, .inl f_bnd)), (h_td, .inr (5, (mo8 vq24 (.ref h_var)))), (h_var, .inl (cy_var, 300, .inl f_var))] := hD
        clear evq23 
        rw [evq24] at hP hD
        replace hP : va_P (dC, dI) cls [(h_lef, .inl (cy_lef, 2048, .inl f5)), (h_rig, .inl (cy_rig, 2048, .inl f6)), (h_nam, .inl (cy_nam, 300, .inr (.inl f_nam))), (h_trm, .inl (cy_trm, 300, .inl f_trm)), (h_ter, .inl (cy_ter, 900, .inl f_ter)), (h_bd, .inr (1, (mo23 v_bd (.ref h_td) (.ref h_bnd) (.ref h_lef) (.ref h_rig) (.int z15)))), (h_bnd, .inl (cy_bnd, 256, .inl f_bnd)), (h_td, .inr (5, (mo21 v_td (.ref h_nam) (.ref h_var) (.ref h_trm) (.ref h_ter)))), (h_var, .inl (cy_var, 300, .inl f_var))] H := hP
        replace hD : va_D A [(h_lef, .inl (cy_lef, 2048, .inl f5)), (h_rig, .inl (cy_rig, 2048, .inl f6)), (h_nam, .inl (cy_nam, 300, .inr (.inl f_nam))), (h_trm, .inl (cy_trm, 300, .inl f_trm)), (h_ter, .inl (cy_ter, 900, .inl f_ter)), (h_bd, .inr (1, (mo23 v_bd (.ref h_td) (.ref h_bnd) (.ref h_lef) (.ref h_rig) (.int z15)))), (h_bnd, .inl (cy_bnd, 256, .inl f_bnd)), (h_td, .inr (5, (mo21 v_td (.ref h_nam) (.ref h_var) (.ref h_trm) (.ref h_ter)))), (h_var, .inl (cy_var, 300, .inl f_var))] := hD
        clear evq24 
        obtain ⟨k26, k27⟩ := hq
        replace k26 : 0 ≤ (r25).toInt ∧ (r25).toInt ≤ 9599 := k26
        replace k27 : BRX (g) (BDV f_bnd) (z22) (r25) := k27
        obtain ⟨bt1, bt2, bs1, bs2⟩ := aki_top (T := T9) hn_wfs klp7_4 (by omega) al9 ag9 k21 k27
        have rv1 := hn_wfs.2.2.1 _ bs1
        have rv2 := hn_wfs.2.2.1 _ bs2
        refine lv_istore (lv' := [(5, .int r25), (4, .int r19), (0, .ref h_bd), (1, .int p1), (2, .int p2), (3, .int x3)]) hx hb dX1_alike_72 hl (by decide) rfl (fun ls hl => ?_)
        refine lv_iload hx hb dX1_alike_74 (lv_at hl 1 rfl) ?_
        refine lv_iload hx hb dX1_alike_76 (lv_at hl 0 rfl) ?_
        refine lv_icmp_eq (tgt := 135) hx hb dX1_alike_78 (by decide) (fun c28 => ?_) (fun c28 => ?_)
        · have kc28 := (cv_eq (rfl : (r19).toInt = (r19).toInt) (rfl : (r25).toInt = (r25).toInt)).mp c28
          have exy : (r19).toInt.toNat = (r25).toInt.toNat := by omega
          rw [← exy] at bt2
          have ak29 := aki_drop (T := T9) (t' := (z15).toInt) (n' := (x3).toInt + 1) hn_wfs klp7_4 (by omega) bt1 bt2 (by omega) rfl
          obtain ⟨z30, ez30⟩ : ∃ y : Int32, y = x3 + 1 := ⟨_, rfl⟩
          have tz30 : (z30).toInt = (x3).toInt + 1 := by rw [ez30]; exact i_add rfl (by decide) (by omega)
          refine lv_iinc (v := z30) (lv' := [(3, .int z30), (5, .int r25), (4, .int r19), (0, .ref h_bd), (1, .int p1), (2, .int p2)]) hx hb dX1_alike_135 hl (k := 5) rfl (by rw [ez30]; rfl) (by decide) rfl (fun ls hl => ?_)
          refine lv_goto (tgt := 21) hx hb dX1_alike_138 (by decide) ?_
          replace hP : va_P (dC, dI) cls [(h_bd, .inr (1, (mo23 v_bd (.ref h_td) (.ref h_bnd) (.ref h_lef) (.ref h_rig) (.int z15)))), (h_bnd, .inl (cy_bnd, 256, .inl f_bnd)), (h_lef, .inl (cy_lef, 2048, .inl f5)), (h_rig, .inl (cy_rig, 2048, .inl f6)), (h_td, .inr (5, (mo21 v_td (.ref h_nam) (.ref h_var) (.ref h_trm) (.ref h_ter)))), (h_nam, .inl (cy_nam, 300, .inr (.inl f_nam))), (h_var, .inl (cy_var, 300, .inl f_var)), (h_trm, .inl (cy_trm, 300, .inl f_trm)), (h_ter, .inl (cy_ter, 900, .inl f_ter))] H := hP.sub [5, 6, 0, 1, 7, 2, 8, 3, 4] rfl
          replace hD : va_D A [(h_bd, .inr (1, (mo23 v_bd (.ref h_td) (.ref h_bnd) (.ref h_lef) (.ref h_rig) (.int z15)))), (h_bnd, .inl (cy_bnd, 256, .inl f_bnd)), (h_lef, .inl (cy_lef, 2048, .inl f5)), (h_rig, .inl (cy_rig, 2048, .inl f6)), (h_td, .inr (5, (mo21 v_td (.ref h_nam) (.ref h_var) (.ref h_trm) (.ref h_ter)))), (h_nam, .inl (cy_nam, 300, .inr (.inl f_nam))), (h_var, .inl (cy_var, 300, .inl f_var)), (h_trm, .inl (cy_trm, 300, .inl f_trm)), (h_ter, .inl (cy_ter, 900, .inl f_ter))] := hD.sub [5, 6, 0, 1, 7, 2, 8, 3, 4] (by decide) rfl
          exact ih8 (z30) (z15) (f5) (f6) _ _ _ (by omega) (by omega) hf5 hf6 (aki_cast ak29 (by omega) (by omega)) (by omega) hP hD hS (lv_sub hl [3, 4, 5, 0] rfl)
        · have kc28 := (not_congr (cv_eq (rfl : (r19).toInt = (r19).toInt) (rfl : (r25).toInt = (r25).toInt))).mp c28
          obtain ⟨va1, va2⟩ := gvv_vrb (p := r19) hn_gvv (by omega)
          obtain ⟨vc1, vc2⟩ := gvv_vrb (p := r25) hn_gvv (by omega)
          have nxy : ¬ (r19).toInt.toNat = (r25).toInt.toNat := by omega
          refine lv_aload_n hx hb dX1_alike_81 rfl (lv_at hl 2 rfl) ?_
          refine lv_iload hx hb dX1_alike_82 (lv_at hl 1 rfl) ?_
          obtain ⟨vq31, evq31⟩ := mq23_7 v_bd (.ref h_bnd) (.ref h_lef) (.ref h_rig) (.int z15)
          replace hP : va_P (dC, dI) cls [(h_lef, .inl (cy_lef, 2048, .inl f5)), (h_rig, .inl (cy_rig, 2048, .inl f6)), (h_nam, .inl (cy_nam, 300, .inr (.inl f_nam))), (h_trm, .inl (cy_trm, 300, .inl f_trm)), (h_ter, .inl (cy_ter, 900, .inl f_ter)), (h_bd, .inr (1, (mo7 vq31 (.ref h_td)))), (h_bnd, .inl (cy_bnd, 256, .inl f_bnd)), (h_td, .inr (5, (mo21 v_td (.ref h_nam) (.ref h_var) (.ref h_trm) (.ref h_ter)))), (h_var, .inl (cy_var, 300, .inl f_var))] H := by rw [evq31]; exact hP
          replace hD : va_D A [(h_lef, .inl (cy_lef, 2048, .inl f5)), (h_rig, .inl (cy_rig, 2048, .inl f6)), (h_nam, .inl (cy_nam, 300, .inr (.inl f_nam))), (h_trm, .inl (cy_trm, 300, .inl f_trm)), (h_ter, .inl (cy_ter, 900, .inl f_ter)), (h_bd, .inr (1, (mo7 vq31 (.ref h_td)))), (h_bnd, .inl (cy_bnd, 256, .inl f_bnd)), (h_td, .inr (5, (mo21 v_td (.ref h_nam) (.ref h_var) (.ref h_trm) (.ref h_ter)))), (h_var, .inl (cy_var, 300, .inl f_var))] := by rw [evq31]; exact hD
          obtain ⟨vq32, evq32⟩ := mq21_8 v_td (.ref h_nam) (.ref h_trm) (.ref h_ter)
          replace hP : va_P (dC, dI) cls [(h_lef, .inl (cy_lef, 2048, .inl f5)), (h_rig, .inl (cy_rig, 2048, .inl f6)), (h_nam, .inl (cy_nam, 300, .inr (.inl f_nam))), (h_trm, .inl (cy_trm, 300, .inl f_trm)), (h_ter, .inl (cy_ter, 900, .inl f_ter)), (h_bd, .inr (1, (mo7 vq31 (.ref h_td)))), (h_bnd, .inl (cy_bnd, 256, .inl f_bnd)), (h_td, .inr (5, (mo8 vq32 (.ref h_var)))), (h_var, .inl (cy_var, 300, .inl f_var))] H := by rw [evq32]; exact hP
          replace hD : va_D A [(h_lef, .inl (cy_lef, 2048, .inl f5)), (h_rig, .inl (cy_rig, 2048, .inl f6)), (h_nam, .inl (cy_nam, 300, .inr (.inl f_nam))), (h_trm, .inl (cy_trm, 300, .inl f_trm)), (h_ter, .inl (cy_ter, 900, .inl f_ter)), (h_bd, .inr (1, (mo7 vq31 (.ref h_td)))), (h_bnd, .inl (cy_bnd, 256, .inl f_bnd)), (h_td, .inr (5, (mo8 vq32 (.ref h_var)))), (h_var, .inl (cy_var, 300, .inl f_var))] := by rw [evq32]; exact hD
          have hPc := hP.sub (ws' := [(h_bd, .inr (1, (mo7 vq31 (.ref h_td)))), (h_td, .inr (5, (mo8 vq32 (.ref h_var)))), (h_var, .inl (cy_var, 300, .inl f_var))]) [5, 7, 8] rfl
          have hDc := hD.sub (ws' := [(h_bd, .inr (1, (mo7 vq31 (.ref h_td)))), (h_td, .inr (5, (mo8 vq32 (.ref h_var)))), (h_var, .inl (cy_var, 300, .inl f_var))]) [5, 7, 8] (by decide) rfl
          have hKc := hK.sub (tys' := [(cy_var, .int)]) [4] rfl
          have hFc := va_free (wc := [(h_bd, .inr (1, (mo7 vq31 (.ref h_td)))), (h_td, .inr (5, (mo8 vq32 (.ref h_var)))), (h_var, .inl (cy_var, 300, .inl f_var))]) hD hS hA [5, 7, 8] rfl
          refine va_calli (va_runV (As := [.int r19]) (rest := []) ⟨hx, hb, hml, hown, hts⟩ (c_X1_isVariable l dC dI H.size h_bd h_td h_var vq31 vq32 cy_var f_var r19 hf_var (by first | exact k20 | omega)) (cwV 1 hts (gv hT w_m_X1_71 w_instanceMethod_X1_isVariable ws_sel_X1_isVariable w_ini_X1 w_code_X1_isVariable) rfl rfl rfl (by decide +kernel) ⟨(Nat.le_of_ble_eq_true rfl), (Nat.le_of_ble_eq_true rfl)⟩) ⟨pre_blind, va_recv hK hP (ci := 1) (q0 := 5) rfl rfl, pre_of hPc hKc hDc hN⟩ rfl rfl hl.1 rfl (lv_room (Nat.le_of_ble_eq_true rfl)) dX1_alike_84 ⟨(Nat.le_of_ble_eq_true rfl), (Nat.le_of_ble_eq_true rfl)⟩) hS (fun q _ h => hFc q h) hFc (fun r33 u t H locs ht hvm hq hB hz1 hk1 hS9 => ?_)
          obtain ⟨hP1, hD1⟩ := hB
          rw [ht] at hP1
          obtain ⟨hP9, hD9⟩ := va_join (wr := [(h_lef, .inl (cy_lef, 2048, .inl f5)), (h_rig, .inl (cy_rig, 2048, .inl f6)), (h_nam, .inl (cy_nam, 300, .inr (.inl f_nam))), (h_trm, .inl (cy_trm, 300, .inl f_trm)), (h_ter, .inl (cy_ter, 900, .inl f_ter)), (h_bnd, .inl (cy_bnd, 256, .inl f_bnd))]) (w1 := [(h_bd, .inr (1, (mo7 vq31 (.ref h_td)))), (h_td, .inr (5, (mo8 vq32 (.ref h_var)))), (h_var, .inl (cy_var, 300, .inl f_var))]) hP hD [5, 7, 8] [0, 1, 2, 3, 4, 6] rfl rfl (by decide) (by decide) hk1 hFc hP1 hD1
          clear hP hD hS hPc hDc hKc hFc hP1 hD1 hk1 hz1 ht hvm
          have hP : va_P (dC, dI) cls [(h_lef, .inl (cy_lef, 2048, .inl f5)), (h_rig, .inl (cy_rig, 2048, .inl f6)), (h_nam, .inl (cy_nam, 300, .inr (.inl f_nam))), (h_trm, .inl (cy_trm, 300, .inl f_trm)), (h_ter, .inl (cy_ter, 900, .inl f_ter)), (h_bnd, .inl (cy_bnd, 256, .inl f_bnd)), (h_bd, .inr (1, (mo7 vq31 (.ref h_td)))), (h_td, .inr (5, (mo8 vq32 (.ref h_var)))), (h_var, .inl (cy_var, 300, .inl f_var))] H := hP9
          have hD : va_D A [(h_lef, .inl (cy_lef, 2048, .inl f5)), (h_rig, .inl (cy_rig, 2048, .inl f6)), (h_nam, .inl (cy_nam, 300, .inr (.inl f_nam))), (h_trm, .inl (cy_trm, 300, .inl f_trm)), (h_ter, .inl (cy_ter, 900, .inl f_ter)), (h_bnd, .inl (cy_bnd, 256, .inl f_bnd)), (h_bd, .inr (1, (mo7 vq31 (.ref h_td)))), (h_td, .inr (5, (mo8 vq32 (.ref h_var)))), (h_var, .inl (cy_var, 300, .inl f_var))] := hD9
          have hS := hS9
          clear hP9 hD9 hS9
          rw [evq31] at hP hD
          replace hP : va_P (dC, dI) cls [(h_lef, .inl (cy_lef, 2048, .inl f5)), (h_rig, .inl (cy_rig, 2048, .inl f6)), (h_nam, .inl (cy_nam, 300, .inr (.inl f_nam))), (h_trm, .inl (cy_trm, 300, .inl f_trm)), (h_ter, .inl (cy_ter, 900, .inl f_ter)), (h_bnd, .inl (cy_bnd, 256, .inl f_bnd)), (h_bd, .inr (1, (mo23 v_bd (.ref h_td) (.ref h_bnd) (.ref h_lef) (.ref h_rig) (.int z15)))), (h_td, .inr (5, (mo8 vq32 (.ref h_var)))), (h_var, .inl (cy_var, 300, .inl f_var))] H := hP
          replace hD : va_D A [(h_lef, .inl (cy_lef, 2048, .inl f5)), (h_rig, .inl (cy_rig, 2048, .inl f6)), (h_nam, .inl (cy_nam, 300, .inr (.inl f_nam))), (h_trm, .inl (cy_trm, 300, .inl f_trm)), (h_ter, .inl (cy_ter, 900, .inl f_ter)), (h_bnd, .inl (cy_bnd, 256, .inl f_bnd)), (h_bd, .inr (1, (mo23 v_bd (.ref h_td) (.ref h_bnd) (.ref h_lef) (.ref h_rig) (.int z15)))), (h_td, .inr (5, (mo8 vq32 (.ref h_var)))), (h_var, .inl (cy_var, 300, .inl f_var))] := hD
          clear evq31 
          rw [evq32] at hP hD
          replace hP : va_P (dC, dI) cls [(h_lef, .inl (cy_lef, 2048, .inl f5)), (h_rig, .inl (cy_rig, 2048, .inl f6)), (h_nam, .inl (cy_nam, 300, .inr (.inl f_nam))), (h_trm, .inl (cy_trm, 300, .inl f_trm)), (h_ter, .inl (cy_ter, 900, .inl f_ter)), (h_bnd, .inl (cy_bnd, 256, .inl f_bnd)), (h_bd, .inr (1, (mo23 v_bd (.ref h_td) (.ref h_bnd) (.ref h_lef) (.ref h_rig) (.int z15)))), (h_td, .inr (5, (mo21 v_td (.ref h_nam) (.ref h_var) (.ref h_trm) (.ref h_ter)))), (h_var, .inl (cy_var, 300, .inl f_var))] H := hP
          replace hD : va_D A [(h_lef, .inl (cy_lef, 2048, .inl f5)), (h_rig, .inl (cy_rig, 2048, .inl f6)), (h_nam, .inl (cy_nam, 300, .inr (.inl f_nam))), (h_trm, .inl (cy_trm, 300, .inl f_trm)), (h_ter, .inl (cy_ter, 900, .inl f_ter)), (h_bnd, .inl (cy_bnd, 256, .inl f_bnd)), (h_bd, .inr (1, (mo23 v_bd (.ref h_td) (.ref h_bnd) (.ref h_lef) (.ref h_rig) (.int z15)))), (h_td, .inr (5, (mo21 v_td (.ref h_nam) (.ref h_var) (.ref h_trm) (.ref h_ter)))), (h_var, .inl (cy_var, 300, .inl f_var))] := hD
          clear evq32 
          rcases hq with ⟨rfl, hq⟩ | ⟨rfl, hq⟩
          · replace hq : (0 ≤ (vrb f_var (r19)).toInt) ∧ ((vrb f_var (r19)).toInt ≤ 7) := hq
            refine lv_if_ne (tgt := 133) hx hb dX1_alike_87 (by decide) (fun _ => ?_) (fun c9 => absurd c9 (by decide))
            refine lv_iconst (v := 0) hx hb dX1_alike_133 (by decide) ?_
            replace hP : va_P (dC, dI) cls [(h_bd, .inr (1, (mo23 v_bd (.ref h_td) (.ref h_bnd) (.ref h_lef) (.ref h_rig) (.int z15)))), (h_bnd, .inl (cy_bnd, 256, .inl f_bnd)), (h_lef, .inl (cy_lef, 2048, .inl f5)), (h_rig, .inl (cy_rig, 2048, .inl f6)), (h_td, .inr (5, (mo21 v_td (.ref h_nam) (.ref h_var) (.ref h_trm) (.ref h_ter)))), (h_nam, .inl (cy_nam, 300, .inr (.inl f_nam))), (h_var, .inl (cy_var, 300, .inl f_var)), (h_trm, .inl (cy_trm, 300, .inl f_trm)), (h_ter, .inl (cy_ter, 900, .inl f_ter))] H := hP.sub [6, 5, 0, 1, 7, 2, 8, 3, 4] rfl
            replace hD : va_D A [(h_bd, .inr (1, (mo23 v_bd (.ref h_td) (.ref h_bnd) (.ref h_lef) (.ref h_rig) (.int z15)))), (h_bnd, .inl (cy_bnd, 256, .inl f_bnd)), (h_lef, .inl (cy_lef, 2048, .inl f5)), (h_rig, .inl (cy_rig, 2048, .inl f6)), (h_td, .inr (5, (mo21 v_td (.ref h_nam) (.ref h_var) (.ref h_trm) (.ref h_ter)))), (h_nam, .inl (cy_nam, 300, .inr (.inl f_nam))), (h_var, .inl (cy_var, 300, .inl f_var)), (h_trm, .inl (cy_trm, 300, .inl f_trm)), (h_ter, .inl (cy_ter, 900, .inl f_ter))] := hD.sub [6, 5, 0, 1, 7, 2, 8, 3, 4] (by decide) rfl
            refine W.widen (k := 0) (n := 0) (Nat.le_of_ble_eq_true rfl) (Nat.le_of_ble_eq_true rfl) ?_
            have cst0 : (0 : Int32).toInt = 0 := by decide
            have w34 : 0 ≤ ((z15)).toInt ∧ ((z15)).toInt ≤ 2048 := by omega
            have w35 : 0 ≤ (0 : Int32).toInt ∧ (0 : Int32).toInt ≤ 1 := by omega
            have w36 : (((0 : Int32)).toInt = 1 ∧ ALK g (BDV f_bnd) (p1).toInt.toNat (p2).toInt.toNat) ∨ (((0 : Int32)).toInt = 0 ∧ ¬ ALK g (BDV f_bnd) (p1).toInt.toNat (p2).toInt.toNat) := (Or.inr ⟨by decide, aki_fail (T := T9) klp7_4 (by omega) bt1 bt2 (fun q9 => by rcases q9 with ⟨q1, q2, q3⟩ | ⟨q1, q2, _⟩; exact nxy (hn_wfs.2.2.2 _ _ bs1 bs2 q1 q2 q3); omega)⟩)
            exact W.zret (v := 0) (ty := .boolean) hx hb hr (by decide) (fun t ht hW => ⟨⟨0, (z15, f5, f6), rfl, ⟨w34, hf5, hf6, w35, w36⟩, by rw [ht]; exact hP, hD⟩, hS.F ht⟩) hS.2.2 dX1_alike_134
          · replace hq : ((vrb f_var (r19)).toInt = -1) := hq
            refine lv_if_ne (tgt := 133) hx hb dX1_alike_87 (by decide) (fun c9 => absurd c9 (by decide)) (fun _ => ?_)
            refine lv_aload_n hx hb dX1_alike_90 rfl (lv_at hl 2 rfl) ?_
            refine lv_iload hx hb dX1_alike_91 (lv_at hl 0 rfl) ?_
            obtain ⟨vq37, evq37⟩ := mq23_7 v_bd (.ref h_bnd) (.ref h_lef) (.ref h_rig) (.int z15)
            replace hP : va_P (dC, dI) cls [(h_lef, .inl (cy_lef, 2048, .inl f5)), (h_rig, .inl (cy_rig, 2048, .inl f6)), (h_nam, .inl (cy_nam, 300, .inr (.inl f_nam))), (h_trm, .inl (cy_trm, 300, .inl f_trm)), (h_ter, .inl (cy_ter, 900, .inl f_ter)), (h_bnd, .inl (cy_bnd, 256, .inl f_bnd)), (h_bd, .inr (1, (mo7 vq37 (.ref h_td)))), (h_td, .inr (5, (mo21 v_td (.ref h_nam) (.ref h_var) (.ref h_trm) (.ref h_ter)))), (h_var, .inl (cy_var, 300, .inl f_var))] H := by rw [evq37]; exact hP
            replace hD : va_D A [(h_lef, .inl (cy_lef, 2048, .inl f5)), (h_rig, .inl (cy_rig, 2048, .inl f6)), (h_nam, .inl (cy_nam, 300, .inr (.inl f_nam))), (h_trm, .inl (cy_trm, 300, .inl f_trm)), (h_ter, .inl (cy_ter, 900, .inl f_ter)), (h_bnd, .inl (cy_bnd, 256, .inl f_bnd)), (h_bd, .inr (1, (mo7 vq37 (.ref h_td)))), (h_td, .inr (5, (mo21 v_td (.ref h_nam) (.ref h_var) (.ref h_trm) (.ref h_ter)))), (h_var, .inl (cy_var, 300, .inl f_var))] := by rw [evq37]; exact hD
            obtain ⟨vq38, evq38⟩ := mq21_8 v_td (.ref h_nam) (.ref h_trm) (.ref h_ter)
            replace hP : va_P (dC, dI) cls [(h_lef, .inl (cy_lef, 2048, .inl f5)), (h_rig, .inl (cy_rig, 2048, .inl f6)), (h_nam, .inl (cy_nam, 300, .inr (.inl f_nam))), (h_trm, .inl (cy_trm, 300, .inl f_trm)), (h_ter, .inl (cy_ter, 900, .inl f_ter)), (h_bnd, .inl (cy_bnd, 256, .inl f_bnd)), (h_bd, .inr (1, (mo7 vq37 (.ref h_td)))), (h_td, .inr (5, (mo8 vq38 (.ref h_var)))), (h_var, .inl (cy_var, 300, .inl f_var))] H := by rw [evq38]; exact hP
            replace hD : va_D A [(h_lef, .inl (cy_lef, 2048, .inl f5)), (h_rig, .inl (cy_rig, 2048, .inl f6)), (h_nam, .inl (cy_nam, 300, .inr (.inl f_nam))), (h_trm, .inl (cy_trm, 300, .inl f_trm)), (h_ter, .inl (cy_ter, 900, .inl f_ter)), (h_bnd, .inl (cy_bnd, 256, .inl f_bnd)), (h_bd, .inr (1, (mo7 vq37 (.ref h_td)))), (h_td, .inr (5, (mo8 vq38 (.ref h_var)))), (h_var, .inl (cy_var, 300, .inl f_var))] := by rw [evq38]; exact hD
            have hPc := hP.sub (ws' := [(h_bd, .inr (1, (mo7 vq37 (.ref h_td)))), (h_td, .inr (5, (mo8 vq38 (.ref h_var)))), (h_var, .inl (cy_var, 300, .inl f_var))]) [6, 7, 8] rfl
            have hDc := hD.sub (ws' := [(h_bd, .inr (1, (mo7 vq37 (.ref h_td)))), (h_td, .inr (5, (mo8 vq38 (.ref h_var)))), (h_var, .inl (cy_var, 300, .inl f_var))]) [6, 7, 8] (by decide) rfl
            have hKc := hK.sub (tys' := [(cy_var, .int)]) [4] rfl
            have hFc := va_free (wc := [(h_bd, .inr (1, (mo7 vq37 (.ref h_td)))), (h_td, .inr (5, (mo8 vq38 (.ref h_var)))), (h_var, .inl (cy_var, 300, .inl f_var))]) hD hS hA [6, 7, 8] rfl
            refine va_calli (va_runV (As := [.int r25]) (rest := []) ⟨hx, hb, hml, hown, hts⟩ (c_X1_isVariable l dC dI H.size h_bd h_td h_var vq37 vq38 cy_var f_var r25 hf_var (by first | exact k26 | omega)) (cwV 1 hts (gv hT w_m_X1_71 w_instanceMethod_X1_isVariable ws_sel_X1_isVariable w_ini_X1 w_code_X1_isVariable) rfl rfl rfl (by decide +kernel) ⟨(Nat.le_of_ble_eq_true rfl), (Nat.le_of_ble_eq_true rfl)⟩) ⟨pre_blind, va_recv hK hP (ci := 1) (q0 := 6) rfl rfl, pre_of hPc hKc hDc hN⟩ rfl rfl hl.1 rfl (lv_room (Nat.le_of_ble_eq_true rfl)) dX1_alike_93 ⟨(Nat.le_of_ble_eq_true rfl), (Nat.le_of_ble_eq_true rfl)⟩) hS (fun q _ h => hFc q h) hFc (fun r39 u t H locs ht hvm hq hB hz1 hk1 hS9 => ?_)
            obtain ⟨hP1, hD1⟩ := hB
            rw [ht] at hP1
            obtain ⟨hP9, hD9⟩ := va_join (wr := [(h_lef, .inl (cy_lef, 2048, .inl f5)), (h_rig, .inl (cy_rig, 2048, .inl f6)), (h_nam, .inl (cy_nam, 300, .inr (.inl f_nam))), (h_trm, .inl (cy_trm, 300, .inl f_trm)), (h_ter, .inl (cy_ter, 900, .inl f_ter)), (h_bnd, .inl (cy_bnd, 256, .inl f_bnd))]) (w1 := [(h_bd, .inr (1, (mo7 vq37 (.ref h_td)))), (h_td, .inr (5, (mo8 vq38 (.ref h_var)))), (h_var, .inl (cy_var, 300, .inl f_var))]) hP hD [6, 7, 8] [0, 1, 2, 3, 4, 5] rfl rfl (by decide) (by decide) hk1 hFc hP1 hD1
            clear hP hD hS hPc hDc hKc hFc hP1 hD1 hk1 hz1 ht hvm
            have hP : va_P (dC, dI) cls [(h_lef, .inl (cy_lef, 2048, .inl f5)), (h_rig, .inl (cy_rig, 2048, .inl f6)), (h_nam, .inl (cy_nam, 300, .inr (.inl f_nam))), (h_trm, .inl (cy_trm, 300, .inl f_trm)), (h_ter, .inl (cy_ter, 900, .inl f_ter)), (h_bnd, .inl (cy_bnd, 256, .inl f_bnd)), (h_bd, .inr (1, (mo7 vq37 (.ref h_td)))), (h_td, .inr (5, (mo8 vq38 (.ref h_var)))), (h_var, .inl (cy_var, 300, .inl f_var))] H := hP9
            have hD : va_D A [(h_lef, .inl (cy_lef, 2048, .inl f5)), (h_rig, .inl (cy_rig, 2048, .inl f6)), (h_nam, .inl (cy_nam, 300, .inr (.inl f_nam))), (h_trm, .inl (cy_trm, 300, .inl f_trm)), (h_ter, .inl (cy_ter, 900, .inl f_ter)), (h_bnd, .inl (cy_bnd, 256, .inl f_bnd)), (h_bd, .inr (1, (mo7 vq37 (.ref h_td)))), (h_td, .inr (5, (mo8 vq38 (.ref h_var)))), (h_var, .inl (cy_var, 300, .inl f_var))] := hD9
            have hS := hS9
            clear hP9 hD9 hS9
            rw [evq37] at hP hD
            replace hP : va_P (dC, dI) cls [(h_lef, .inl (cy_lef, 2048, .inl f5)), (h_rig, .inl (cy_rig, 2048, .inl f6)), (h_nam, .inl (cy_nam, 300, .inr (.inl f_nam))), (h_trm, .inl (cy_trm, 300, .inl f_trm)), (h_ter, .inl (cy_ter, 900, .inl f_ter)), (h_bnd, .inl (cy_bnd, 256, .inl f_bnd)), (h_bd, .inr (1, (mo23 v_bd (.ref h_td) (.ref h_bnd) (.ref h_lef) (.ref h_rig) (.int z15)))), (h_td, .inr (5, (mo8 vq38 (.ref h_var)))), (h_var, .inl (cy_var, 300, .inl f_var))] H := hP
            replace hD : va_D A [(h_lef, .inl (cy_lef, 2048, .inl f5)), (h_rig, .inl (cy_rig, 2048, .inl f6)), (h_nam, .inl (cy_nam, 300, .inr (.inl f_nam))), (h_trm, .inl (cy_trm, 300, .inl f_trm)), (h_ter, .inl (cy_ter, 900, .inl f_ter)), (h_bnd, .inl (cy_bnd, 256, .inl f_bnd)), (h_bd, .inr (1, (mo23 v_bd (.ref h_td) (.ref h_bnd) (.ref h_lef) (.ref h_rig) (.int z15)))), (h_td, .inr (5, (mo8 vq38 (.ref h_var)))), (h_var, .inl (cy_var, 300, .inl f_var))] := hD
            clear evq37 
            rw [evq38] at hP hD
            replace hP : va_P (dC, dI) cls [(h_lef, .inl (cy_lef, 2048, .inl f5)), (h_rig, .inl (cy_rig, 2048, .inl f6)), (h_nam, .inl (cy_nam, 300, .inr (.inl f_nam))), (h_trm, .inl (cy_trm, 300, .inl f_trm)), (h_ter, .inl (cy_ter, 900, .inl f_ter)), (h_bnd, .inl (cy_bnd, 256, .inl f_bnd)), (h_bd, .inr (1, (mo23 v_bd (.ref h_td) (.ref h_bnd) (.ref h_lef) (.ref h_rig) (.int z15)))), (h_td, .inr (5, (mo21 v_td (.ref h_nam) (.ref h_var) (.ref h_trm) (.ref h_ter)))), (h_var, .inl (cy_var, 300, .inl f_var))] H := hP
            replace hD : va_D A [(h_lef, .inl (cy_lef, 2048, .inl f5)), (h_rig, .inl (cy_rig, 2048, .inl f6)), (h_nam, .inl (cy_nam, 300, .inr (.inl f_nam))), (h_trm, .inl (cy_trm, 300, .inl f_trm)), (h_ter, .inl (cy_ter, 900, .inl f_ter)), (h_bnd, .inl (cy_bnd, 256, .inl f_bnd)), (h_bd, .inr (1, (mo23 v_bd (.ref h_td) (.ref h_bnd) (.ref h_lef) (.ref h_rig) (.int z15)))), (h_td, .inr (5, (mo21 v_td (.ref h_nam) (.ref h_var) (.ref h_trm) (.ref h_ter)))), (h_var, .inl (cy_var, 300, .inl f_var))] := hD
            clear evq38 
            rcases hq with ⟨rfl, hq⟩ | ⟨rfl, hq⟩
            · replace hq : (0 ≤ (vrb f_var (r25)).toInt) ∧ ((vrb f_var (r25)).toInt ≤ 7) := hq
              refine lv_if_ne (tgt := 133) hx hb dX1_alike_96 (by decide) (fun _ => ?_) (fun c9 => absurd c9 (by decide))
              refine lv_iconst (v := 0) hx hb dX1_alike_133 (by decide) ?_
              replace hP : va_P (dC, dI) cls [(h_bd, .inr (1, (mo23 v_bd (.ref h_td) (.ref h_bnd) (.ref h_lef) (.ref h_rig) (.int z15)))), (h_bnd, .inl (cy_bnd, 256, .inl f_bnd)), (h_lef, .inl (cy_lef, 2048, .inl f5)), (h_rig, .inl (cy_rig, 2048, .inl f6)), (h_td, .inr (5, (mo21 v_td (.ref h_nam) (.ref h_var) (.ref h_trm) (.ref h_ter)))), (h_nam, .inl (cy_nam, 300, .inr (.inl f_nam))), (h_var, .inl (cy_var, 300, .inl f_var)), (h_trm, .inl (cy_trm, 300, .inl f_trm)), (h_ter, .inl (cy_ter, 900, .inl f_ter))] H := hP.sub [6, 5, 0, 1, 7, 2, 8, 3, 4] rfl
              replace hD : va_D A [(h_bd, .inr (1, (mo23 v_bd (.ref h_td) (.ref h_bnd) (.ref h_lef) (.ref h_rig) (.int z15)))), (h_bnd, .inl (cy_bnd, 256, .inl f_bnd)), (h_lef, .inl (cy_lef, 2048, .inl f5)), (h_rig, .inl (cy_rig, 2048, .inl f6)), (h_td, .inr (5, (mo21 v_td (.ref h_nam) (.ref h_var) (.ref h_trm) (.ref h_ter)))), (h_nam, .inl (cy_nam, 300, .inr (.inl f_nam))), (h_var, .inl (cy_var, 300, .inl f_var)), (h_trm, .inl (cy_trm, 300, .inl f_trm)), (h_ter, .inl (cy_ter, 900, .inl f_ter))] := hD.sub [6, 5, 0, 1, 7, 2, 8, 3, 4] (by decide) rfl
              refine W.widen (k := 0) (n := 0) (Nat.le_of_ble_eq_true rfl) (Nat.le_of_ble_eq_true rfl) ?_
              have cst0 : (0 : Int32).toInt = 0 := by decide
              have w40 : 0 ≤ ((z15)).toInt ∧ ((z15)).toInt ≤ 2048 := by omega
              have w41 : 0 ≤ (0 : Int32).toInt ∧ (0 : Int32).toInt ≤ 1 := by omega
              have w42 : (((0 : Int32)).toInt = 1 ∧ ALK g (BDV f_bnd) (p1).toInt.toNat (p2).toInt.toNat) ∨ (((0 : Int32)).toInt = 0 ∧ ¬ ALK g (BDV f_bnd) (p1).toInt.toNat (p2).toInt.toNat) := (Or.inr ⟨by decide, aki_fail (T := T9) klp7_4 (by omega) bt1 bt2 (fun q9 => by rcases q9 with ⟨q1, q2, q3⟩ | ⟨q1, q2, _⟩; exact nxy (hn_wfs.2.2.2 _ _ bs1 bs2 q1 q2 q3); omega)⟩)
              exact W.zret (v := 0) (ty := .boolean) hx hb hr (by decide) (fun t ht hW => ⟨⟨0, (z15, f5, f6), rfl, ⟨w40, hf5, hf6, w41, w42⟩, by rw [ht]; exact hP, hD⟩, hS.F ht⟩) hS.2.2 dX1_alike_134
            · replace hq : ((vrb f_var (r25)).toInt = -1) := hq
              refine lv_if_ne (tgt := 133) hx hb dX1_alike_96 (by decide) (fun c9 => absurd c9 (by decide)) (fun _ => ?_)
              refine lv_aload_n hx hb dX1_alike_99 rfl (lv_at hl 2 rfl) ?_
              refine va_get (D := (dC, dI)) (ci := 1) (v := .ref h_td) (C := RX1) (T := TX1) (N := 13) hx hb hw iwX1 hown hK hP 6 rfl rfl 0 (by decide) (hw _ w_f_X1_36) (fun _ h9 => h9) rfl dX1_alike_100 ?_
              refine lv_iload hx hb dX1_alike_103 (lv_at hl 1 rfl) ?_
              refine lv_sipush (v := 300) hx hb dX1_alike_105 (by decide) ?_
              refine lv_irem hx hb dX1_alike_108 (by decide) ?_
              refine lv_topi (fun z43 ez43 => ?_)
              have tz43 : (z43).toInt = (r19).toInt % 300 := by rw [ez43]; exact i_rem rfl (by decide) (by omega)
              refine lv_iload hx hb dX1_alike_109 (lv_at hl 0 rfl) ?_
              refine lv_sipush (v := 300) hx hb dX1_alike_111 (by decide) ?_
              refine lv_irem hx hb dX1_alike_114 (by decide) ?_
              refine lv_topi (fun z44 ez44 => ?_)
              have tz44 : (z44).toInt = (r25).toInt % 300 := by rw [ez44]; exact i_rem rfl (by decide) (by omega)
              obtain ⟨vq45, evq45⟩ := mq21_4 v_td (.ref h_var) (.ref h_ter)
              replace hP : va_P (dC, dI) cls [(h_lef, .inl (cy_lef, 2048, .inl f5)), (h_rig, .inl (cy_rig, 2048, .inl f6)), (h_nam, .inl (cy_nam, 300, .inr (.inl f_nam))), (h_trm, .inl (cy_trm, 300, .inl f_trm)), (h_ter, .inl (cy_ter, 900, .inl f_ter)), (h_bnd, .inl (cy_bnd, 256, .inl f_bnd)), (h_bd, .inr (1, (mo23 v_bd (.ref h_td) (.ref h_bnd) (.ref h_lef) (.ref h_rig) (.int z15)))), (h_td, .inr (5, (mo4 vq45 (.ref h_nam) (.ref h_trm)))), (h_var, .inl (cy_var, 300, .inl f_var))] H := by rw [evq45]; exact hP
              replace hD : va_D A [(h_lef, .inl (cy_lef, 2048, .inl f5)), (h_rig, .inl (cy_rig, 2048, .inl f6)), (h_nam, .inl (cy_nam, 300, .inr (.inl f_nam))), (h_trm, .inl (cy_trm, 300, .inl f_trm)), (h_ter, .inl (cy_ter, 900, .inl f_ter)), (h_bnd, .inl (cy_bnd, 256, .inl f_bnd)), (h_bd, .inr (1, (mo23 v_bd (.ref h_td) (.ref h_bnd) (.ref h_lef) (.ref h_rig) (.int z15)))), (h_td, .inr (5, (mo4 vq45 (.ref h_nam) (.ref h_trm)))), (h_var, .inl (cy_var, 300, .inl f_var))] := by rw [evq45]; exact hD
              have hPc := hP.sub (ws' := [(h_td, .inr (5, (mo4 vq45 (.ref h_nam) (.ref h_trm)))), (h_nam, .inl (cy_nam, 300, .inr (.inl f_nam))), (h_trm, .inl (cy_trm, 300, .inl f_trm))]) [7, 2, 3] rfl
              have hDc := hD.sub (ws' := [(h_td, .inr (5, (mo4 vq45 (.ref h_nam) (.ref h_trm)))), (h_nam, .inl (cy_nam, 300, .inr (.inl f_nam))), (h_trm, .inl (cy_trm, 300, .inl f_trm))]) [7, 2, 3] (by decide) rfl
              have hKc := hK.sub (tys' := [(cy_nam, .long), (cy_trm, .int)]) [3, 5] rfl
              have hFc := va_free (wc := [(h_td, .inr (5, (mo4 vq45 (.ref h_nam) (.ref h_trm)))), (h_nam, .inl (cy_nam, 300, .inr (.inl f_nam))), (h_trm, .inl (cy_trm, 300, .inl f_trm))]) hD hS hA [7, 2, 3] rfl
              refine va_calli (va_runVN (As := [.int z43, .int z44]) (rest := []) ⟨hx, hb, hml, hown, hts⟩ (c_X8_haveLikeNames_x l dC dI H.size h_td h_nam h_trm vq45 cy_nam f_nam cy_trm f_trm z43 z44 hf_trm (by omega) (by omega)) ⟨va_cnB (host := "OppositePairs") 2 hts (gd hT w_code_X8_haveLikeNames) rfl rfl rfl (hN _ n_m_X1_81) (hw _ w_ini_X8) (by decide +kernel) ⟨(Nat.le_of_ble_eq_true rfl), (Nat.le_of_ble_eq_true rfl)⟩, hw _ w_instanceMethod_X8_haveLikeNames, hw _ ws_sel_X8_haveLikeNames⟩ ⟨pre_blind, va_recv hK hP (ci := 5) (q0 := 7) rfl rfl, pre_of hPc hKc hDc hN⟩ rfl rfl hl.1 rfl (lv_room (Nat.le_of_ble_eq_true rfl)) dX1_alike_115 ⟨(Nat.le_of_ble_eq_true rfl), (Nat.le_of_ble_eq_true rfl)⟩) hS (fun q _ h => hFc q h) hFc (fun r46 u t H locs ht hvm hq hB hz1 hk1 hS9 => ?_)
              obtain ⟨hP1, hD1⟩ := hB
              rw [ht] at hP1
              obtain ⟨hP9, hD9⟩ := va_join (wr := [(h_lef, .inl (cy_lef, 2048, .inl f5)), (h_rig, .inl (cy_rig, 2048, .inl f6)), (h_ter, .inl (cy_ter, 900, .inl f_ter)), (h_bnd, .inl (cy_bnd, 256, .inl f_bnd)), (h_bd, .inr (1, (mo23 v_bd (.ref h_td) (.ref h_bnd) (.ref h_lef) (.ref h_rig) (.int z15)))), (h_var, .inl (cy_var, 300, .inl f_var))]) (w1 := [(h_td, .inr (5, (mo4 vq45 (.ref h_nam) (.ref h_trm)))), (h_nam, .inl (cy_nam, 300, .inr (.inl f_nam))), (h_trm, .inl (cy_trm, 300, .inl f_trm))]) hP hD [7, 2, 3] [0, 1, 4, 5, 6, 8] rfl rfl (by decide) (by decide) hk1 hFc hP1 hD1
              clear hP hD hS hPc hDc hKc hFc hP1 hD1 hk1 hz1 ht hvm
              have hP : va_P (dC, dI) cls [(h_lef, .inl (cy_lef, 2048, .inl f5)), (h_rig, .inl (cy_rig, 2048, .inl f6)), (h_ter, .inl (cy_ter, 900, .inl f_ter)), (h_bnd, .inl (cy_bnd, 256, .inl f_bnd)), (h_bd, .inr (1, (mo23 v_bd (.ref h_td) (.ref h_bnd) (.ref h_lef) (.ref h_rig) (.int z15)))), (h_var, .inl (cy_var, 300, .inl f_var)), (h_td, .inr (5, (mo4 vq45 (.ref h_nam) (.ref h_trm)))), (h_nam, .inl (cy_nam, 300, .inr (.inl f_nam))), (h_trm, .inl (cy_trm, 300, .inl f_trm))] H := hP9
              have hD : va_D A [(h_lef, .inl (cy_lef, 2048, .inl f5)), (h_rig, .inl (cy_rig, 2048, .inl f6)), (h_ter, .inl (cy_ter, 900, .inl f_ter)), (h_bnd, .inl (cy_bnd, 256, .inl f_bnd)), (h_bd, .inr (1, (mo23 v_bd (.ref h_td) (.ref h_bnd) (.ref h_lef) (.ref h_rig) (.int z15)))), (h_var, .inl (cy_var, 300, .inl f_var)), (h_td, .inr (5, (mo4 vq45 (.ref h_nam) (.ref h_trm)))), (h_nam, .inl (cy_nam, 300, .inr (.inl f_nam))), (h_trm, .inl (cy_trm, 300, .inl f_trm))] := hD9
              have hS := hS9
              clear hP9 hD9 hS9
              rw [evq45] at hP hD
              replace hP : va_P (dC, dI) cls [(h_lef, .inl (cy_lef, 2048, .inl f5)), (h_rig, .inl (cy_rig, 2048, .inl f6)), (h_ter, .inl (cy_ter, 900, .inl f_ter)), (h_bnd, .inl (cy_bnd, 256, .inl f_bnd)), (h_bd, .inr (1, (mo23 v_bd (.ref h_td) (.ref h_bnd) (.ref h_lef) (.ref h_rig) (.int z15)))), (h_var, .inl (cy_var, 300, .inl f_var)), (h_td, .inr (5, (mo21 v_td (.ref h_nam) (.ref h_var) (.ref h_trm) (.ref h_ter)))), (h_nam, .inl (cy_nam, 300, .inr (.inl f_nam))), (h_trm, .inl (cy_trm, 300, .inl f_trm))] H := hP
              replace hD : va_D A [(h_lef, .inl (cy_lef, 2048, .inl f5)), (h_rig, .inl (cy_rig, 2048, .inl f6)), (h_ter, .inl (cy_ter, 900, .inl f_ter)), (h_bnd, .inl (cy_bnd, 256, .inl f_bnd)), (h_bd, .inr (1, (mo23 v_bd (.ref h_td) (.ref h_bnd) (.ref h_lef) (.ref h_rig) (.int z15)))), (h_var, .inl (cy_var, 300, .inl f_var)), (h_td, .inr (5, (mo21 v_td (.ref h_nam) (.ref h_var) (.ref h_trm) (.ref h_ter)))), (h_nam, .inl (cy_nam, 300, .inr (.inl f_nam))), (h_trm, .inl (cy_trm, 300, .inl f_trm))] := hD
              clear evq45 
              rcases hq with ⟨rfl, hq⟩ | ⟨rfl, hq⟩
              · replace hq : ((f_nam (Int32.toNatClampNeg (z43))).toInt = (f_nam (Int32.toNatClampNeg (z44))).toInt) ∧ ((f_trm (Int32.toNatClampNeg (z43))).toInt = (f_trm (Int32.toNatClampNeg (z44))).toInt) := hq
                have gma := gvm_at (x := r19) (i := z43) hn_gvm (by omega) (by omega)
                have gta := gvk_at (x := r19) (i := z43) hn_gvk (by omega) (by omega) rfl
                have gmc := gvm_at (x := r25) (i := z44) hn_gvm (by omega) (by omega)
                have gtc := gvk_at (x := r25) (i := z44) hn_gvk (by omega) (by omega) rfl
                refine lv_if_eq (tgt := 133) hx hb dX1_alike_118 (by decide) (fun c9 => absurd c9 (by decide)) (fun _ => ?_)
                refine lv_aload_n hx hb dX1_alike_121 rfl (lv_at hl 2 rfl) ?_
                refine lv_iload hx hb dX1_alike_122 (lv_at hl 1 rfl) ?_
                refine lv_iload hx hb dX1_alike_124 (lv_at hl 0 rfl) ?_
                refine lv_iconst (v := 0) hx hb dX1_alike_126 (by decide) ?_
                obtain ⟨vq47, evq47⟩ := mq23_15 v_bd (.ref h_bnd)
                replace hP : va_P (dC, dI) cls [(h_lef, .inl (cy_lef, 2048, .inl f5)), (h_rig, .inl (cy_rig, 2048, .inl f6)), (h_ter, .inl (cy_ter, 900, .inl f_ter)), (h_bnd, .inl (cy_bnd, 256, .inl f_bnd)), (h_bd, .inr (1, (mo15 vq47 (.ref h_td) (.ref h_lef) (.ref h_rig) (.int z15)))), (h_var, .inl (cy_var, 300, .inl f_var)), (h_td, .inr (5, (mo21 v_td (.ref h_nam) (.ref h_var) (.ref h_trm) (.ref h_ter)))), (h_nam, .inl (cy_nam, 300, .inr (.inl f_nam))), (h_trm, .inl (cy_trm, 300, .inl f_trm))] H := by rw [evq47]; exact hP
                replace hD : va_D A [(h_lef, .inl (cy_lef, 2048, .inl f5)), (h_rig, .inl (cy_rig, 2048, .inl f6)), (h_ter, .inl (cy_ter, 900, .inl f_ter)), (h_bnd, .inl (cy_bnd, 256, .inl f_bnd)), (h_bd, .inr (1, (mo15 vq47 (.ref h_td) (.ref h_lef) (.ref h_rig) (.int z15)))), (h_var, .inl (cy_var, 300, .inl f_var)), (h_td, .inr (5, (mo21 v_td (.ref h_nam) (.ref h_var) (.ref h_trm) (.ref h_ter)))), (h_nam, .inl (cy_nam, 300, .inr (.inl f_nam))), (h_trm, .inl (cy_trm, 300, .inl f_trm))] := by rw [evq47]; exact hD
                obtain ⟨vq48, evq48⟩ := mq21_16 v_td (.ref h_nam) (.ref h_var)
                replace hP : va_P (dC, dI) cls [(h_lef, .inl (cy_lef, 2048, .inl f5)), (h_rig, .inl (cy_rig, 2048, .inl f6)), (h_ter, .inl (cy_ter, 900, .inl f_ter)), (h_bnd, .inl (cy_bnd, 256, .inl f_bnd)), (h_bd, .inr (1, (mo15 vq47 (.ref h_td) (.ref h_lef) (.ref h_rig) (.int z15)))), (h_var, .inl (cy_var, 300, .inl f_var)), (h_td, .inr (5, (mo16 vq48 (.ref h_trm) (.ref h_ter)))), (h_nam, .inl (cy_nam, 300, .inr (.inl f_nam))), (h_trm, .inl (cy_trm, 300, .inl f_trm))] H := by rw [evq48]; exact hP
                replace hD : va_D A [(h_lef, .inl (cy_lef, 2048, .inl f5)), (h_rig, .inl (cy_rig, 2048, .inl f6)), (h_ter, .inl (cy_ter, 900, .inl f_ter)), (h_bnd, .inl (cy_bnd, 256, .inl f_bnd)), (h_bd, .inr (1, (mo15 vq47 (.ref h_td) (.ref h_lef) (.ref h_rig) (.int z15)))), (h_var, .inl (cy_var, 300, .inl f_var)), (h_td, .inr (5, (mo16 vq48 (.ref h_trm) (.ref h_ter)))), (h_nam, .inl (cy_nam, 300, .inr (.inl f_nam))), (h_trm, .inl (cy_trm, 300, .inl f_trm))] := by rw [evq48]; exact hD
                have cst0 : (0 : Int32).toInt = 0 := by decide
                have hPc := hP.sub (ws' := [(h_bd, .inr (1, (mo15 vq47 (.ref h_td) (.ref h_lef) (.ref h_rig) (.int z15)))), (h_lef, .inl (cy_lef, 2048, .inl f5)), (h_rig, .inl (cy_rig, 2048, .inl f6)), (h_td, .inr (5, (mo16 vq48 (.ref h_trm) (.ref h_ter)))), (h_trm, .inl (cy_trm, 300, .inl f_trm)), (h_ter, .inl (cy_ter, 900, .inl f_ter))]) [4, 0, 1, 6, 8, 2] rfl
                have hDc := hD.sub (ws' := [(h_bd, .inr (1, (mo15 vq47 (.ref h_td) (.ref h_lef) (.ref h_rig) (.int z15)))), (h_lef, .inl (cy_lef, 2048, .inl f5)), (h_rig, .inl (cy_rig, 2048, .inl f6)), (h_td, .inr (5, (mo16 vq48 (.ref h_trm) (.ref h_ter)))), (h_trm, .inl (cy_trm, 300, .inl f_trm)), (h_ter, .inl (cy_ter, 900, .inl f_ter))]) [4, 0, 1, 6, 8, 2] (by decide) rfl
                have hKc := hK.sub (tys' := [(cy_lef, .int), (cy_rig, .int), (cy_trm, .int), (cy_ter, .int)]) [1, 2, 5, 6] rfl
                have hFc := va_free (wc := [(h_bd, .inr (1, (mo15 vq47 (.ref h_td) (.ref h_lef) (.ref h_rig) (.int z15)))), (h_lef, .inl (cy_lef, 2048, .inl f5)), (h_rig, .inl (cy_rig, 2048, .inl f6)), (h_td, .inr (5, (mo16 vq48 (.ref h_trm) (.ref h_ter)))), (h_trm, .inl (cy_trm, 300, .inl f_trm)), (h_ter, .inl (cy_ter, 900, .inl f_ter))]) hD hS hA [4, 0, 1, 6, 8, 2] rfl
                refine va_calli (va_runV (As := [.int r19, .int r25, .int 0]) (rest := []) ⟨hx, hb, hml, hown, hts⟩ (c_X1_pushTerms_s l dC dI H.size h_bd h_lef h_rig h_td h_trm h_ter vq47 z15 cy_lef f5 cy_rig f6 vq48 cy_trm f_trm cy_ter f_ter r19 r25 g (by omega) hf5 hf6 hf_trm hf_ter (by first | exact k20 | omega) (by first | exact k26 | omega) hn_gvk) (cwV 3 hts (gv hT w_m_X1_84 w_instanceMethod_X1_pushTerms ws_sel_X1_pushTerms w_ini_X1 w_code_X1_pushTerms) rfl rfl rfl (by decide +kernel) ⟨(Nat.le_of_ble_eq_true rfl), (Nat.le_of_ble_eq_true rfl)⟩) ⟨pre_blind, va_recv hK hP (ci := 1) (q0 := 4) rfl rfl, pre_of hPc hKc hDc hN⟩ rfl rfl hl.1 rfl (lv_room (Nat.le_of_ble_eq_true rfl)) dX1_alike_127 ⟨(Nat.le_of_ble_eq_true rfl), (Nat.le_of_ble_eq_true rfl)⟩) hS (fun q _ h => hFc q h) hFc (fun r49 u t H locs ht hvm hq hB hz1 hk1 hS9 => ?_)
                obtain ⟨z50, f51, f52⟩ := u
                obtain ⟨hP1, hD1⟩ := hB
                rw [ht] at hP1
                obtain ⟨hP9, hD9⟩ := va_join (wr := [(h_bnd, .inl (cy_bnd, 256, .inl f_bnd)), (h_var, .inl (cy_var, 300, .inl f_var)), (h_nam, .inl (cy_nam, 300, .inr (.inl f_nam)))]) (w1 := [(h_bd, .inr (1, (mo15 vq47 (.ref h_td) (.ref h_lef) (.ref h_rig) (.int z50)))), (h_lef, .inl (cy_lef, 2048, .inl f51)), (h_rig, .inl (cy_rig, 2048, .inl f52)), (h_td, .inr (5, (mo16 vq48 (.ref h_trm) (.ref h_ter)))), (h_trm, .inl (cy_trm, 300, .inl f_trm)), (h_ter, .inl (cy_ter, 900, .inl f_ter))]) hP hD [4, 0, 1, 6, 8, 2] [3, 5, 7] rfl rfl (by decide) (by decide) hk1 hFc hP1 hD1
                clear hP hD hS hPc hDc hKc hFc hP1 hD1 hk1 hz1 ht hvm
                have hP : va_P (dC, dI) cls [(h_bnd, .inl (cy_bnd, 256, .inl f_bnd)), (h_var, .inl (cy_var, 300, .inl f_var)), (h_nam, .inl (cy_nam, 300, .inr (.inl f_nam))), (h_bd, .inr (1, (mo15 vq47 (.ref h_td) (.ref h_lef) (.ref h_rig) (.int z50)))), (h_lef, .inl (cy_lef, 2048, .inl f51)), (h_rig, .inl (cy_rig, 2048, .inl f52)), (h_td, .inr (5, (mo16 vq48 (.ref h_trm) (.ref h_ter)))), (h_trm, .inl (cy_trm, 300, .inl f_trm)), (h_ter, .inl (cy_ter, 900, .inl f_ter))] H := hP9
                have hD : va_D A [(h_bnd, .inl (cy_bnd, 256, .inl f_bnd)), (h_var, .inl (cy_var, 300, .inl f_var)), (h_nam, .inl (cy_nam, 300, .inr (.inl f_nam))), (h_bd, .inr (1, (mo15 vq47 (.ref h_td) (.ref h_lef) (.ref h_rig) (.int z50)))), (h_lef, .inl (cy_lef, 2048, .inl f51)), (h_rig, .inl (cy_rig, 2048, .inl f52)), (h_td, .inr (5, (mo16 vq48 (.ref h_trm) (.ref h_ter)))), (h_trm, .inl (cy_trm, 300, .inl f_trm)), (h_ter, .inl (cy_ter, 900, .inl f_ter))] := hD9
                have hS := hS9
                clear hP9 hD9 hS9
                rw [evq47] at hP hD
                replace hP : va_P (dC, dI) cls [(h_bnd, .inl (cy_bnd, 256, .inl f_bnd)), (h_var, .inl (cy_var, 300, .inl f_var)), (h_nam, .inl (cy_nam, 300, .inr (.inl f_nam))), (h_bd, .inr (1, (mo23 v_bd (.ref h_td) (.ref h_bnd) (.ref h_lef) (.ref h_rig) (.int z50)))), (h_lef, .inl (cy_lef, 2048, .inl f51)), (h_rig, .inl (cy_rig, 2048, .inl f52)), (h_td, .inr (5, (mo16 vq48 (.ref h_trm) (.ref h_ter)))), (h_trm, .inl (cy_trm, 300, .inl f_trm)), (h_ter, .inl (cy_ter, 900, .inl f_ter))] H := hP
                replace hD : va_D A [(h_bnd, .inl (cy_bnd, 256, .inl f_bnd)), (h_var, .inl (cy_var, 300, .inl f_var)), (h_nam, .inl (cy_nam, 300, .inr (.inl f_nam))), (h_bd, .inr (1, (mo23 v_bd (.ref h_td) (.ref h_bnd) (.ref h_lef) (.ref h_rig) (.int z50)))), (h_lef, .inl (cy_lef, 2048, .inl f51)), (h_rig, .inl (cy_rig, 2048, .inl f52)), (h_td, .inr (5, (mo16 vq48 (.ref h_trm) (.ref h_ter)))), (h_trm, .inl (cy_trm, 300, .inl f_trm)), (h_ter, .inl (cy_ter, 900, .inl f_ter))] := hD
                clear evq47 
                rw [evq48] at hP hD
                replace hP : va_P (dC, dI) cls [(h_bnd, .inl (cy_bnd, 256, .inl f_bnd)), (h_var, .inl (cy_var, 300, .inl f_var)), (h_nam, .inl (cy_nam, 300, .inr (.inl f_nam))), (h_bd, .inr (1, (mo23 v_bd (.ref h_td) (.ref h_bnd) (.ref h_lef) (.ref h_rig) (.int z50)))), (h_lef, .inl (cy_lef, 2048, .inl f51)), (h_rig, .inl (cy_rig, 2048, .inl f52)), (h_td, .inr (5, (mo21 v_td (.ref h_nam) (.ref h_var) (.ref h_trm) (.ref h_ter)))), (h_trm, .inl (cy_trm, 300, .inl f_trm)), (h_ter, .inl (cy_ter, 900, .inl f_ter))] H := hP
                replace hD : va_D A [(h_bnd, .inl (cy_bnd, 256, .inl f_bnd)), (h_var, .inl (cy_var, 300, .inl f_var)), (h_nam, .inl (cy_nam, 300, .inr (.inl f_nam))), (h_bd, .inr (1, (mo23 v_bd (.ref h_td) (.ref h_bnd) (.ref h_lef) (.ref h_rig) (.int z50)))), (h_lef, .inl (cy_lef, 2048, .inl f51)), (h_rig, .inl (cy_rig, 2048, .inl f52)), (h_td, .inr (5, (mo21 v_td (.ref h_nam) (.ref h_var) (.ref h_trm) (.ref h_ter)))), (h_trm, .inl (cy_trm, 300, .inl f_trm)), (h_ter, .inl (cy_ter, 900, .inl f_ter))] := hD
                clear evq48 
                obtain ⟨k53, hf51, hf52, k54, k55⟩ := hq
                replace k53 : 0 ≤ ((z50)).toInt ∧ ((z50)).toInt ≤ 2048 := k53
                replace hf51 : Rg (-9600) 9599 (f51) := hf51
                replace hf52 : Rg 0 9599 (f52) := hf52
                replace k54 : 0 ≤ (r49).toInt ∧ (r49).toInt ≤ 1 := k54
                replace k55 : PSK (g) ((r19)).toInt.toNat ((r25)).toInt.toNat ((z15)).toInt.toNat (f5) (f51) (f6) (f52) ((z50)).toInt ((r49)).toInt := k55
                have pk9 := k55
                refine lv_if_ne (tgt := 135) hx hb dX1_alike_130 (by decide) (fun c56 => ?_) (fun c56 => ?_)
                · have kc56 := (not_congr (cv_eq (rfl : (r49).toInt = (r49).toInt) (by decide : (0 : Int32).toInt = 0))).mp c56
                  have pk8 := (pk9.resolve_left (fun q9 => absurd q9.1 (by omega))).2
                  rw [nz9] at pk8
                  have ak57 := aki_push (T := T9) (n' := (x3).toInt + 1) hn_wfs klp7_4 (by omega) bt1 bt2 bs1 bs2 (by omega) (by omega) (by rw [gma, gmc]; exact hq.1) (by rw [gta, gtc]; exact hq.2) pk8 rfl
                  obtain ⟨z58, ez58⟩ : ∃ y : Int32, y = x3 + 1 := ⟨_, rfl⟩
                  have tz58 : (z58).toInt = (x3).toInt + 1 := by rw [ez58]; exact i_add rfl (by decide) (by omega)
                  refine lv_iinc (v := z58) (lv' := [(3, .int z58), (5, .int r25), (4, .int r19), (0, .ref h_bd), (1, .int p1), (2, .int p2)]) hx hb dX1_alike_135 hl (k := 5) rfl (by rw [ez58]; rfl) (by decide) rfl (fun ls hl => ?_)
                  refine lv_goto (tgt := 21) hx hb dX1_alike_138 (by decide) ?_
                  replace hP : va_P (dC, dI) cls [(h_bd, .inr (1, (mo23 v_bd (.ref h_td) (.ref h_bnd) (.ref h_lef) (.ref h_rig) (.int z50)))), (h_bnd, .inl (cy_bnd, 256, .inl f_bnd)), (h_lef, .inl (cy_lef, 2048, .inl f51)), (h_rig, .inl (cy_rig, 2048, .inl f52)), (h_td, .inr (5, (mo21 v_td (.ref h_nam) (.ref h_var) (.ref h_trm) (.ref h_ter)))), (h_nam, .inl (cy_nam, 300, .inr (.inl f_nam))), (h_var, .inl (cy_var, 300, .inl f_var)), (h_trm, .inl (cy_trm, 300, .inl f_trm)), (h_ter, .inl (cy_ter, 900, .inl f_ter))] H := hP.sub [3, 0, 4, 5, 6, 2, 1, 7, 8] rfl
                  replace hD : va_D A [(h_bd, .inr (1, (mo23 v_bd (.ref h_td) (.ref h_bnd) (.ref h_lef) (.ref h_rig) (.int z50)))), (h_bnd, .inl (cy_bnd, 256, .inl f_bnd)), (h_lef, .inl (cy_lef, 2048, .inl f51)), (h_rig, .inl (cy_rig, 2048, .inl f52)), (h_td, .inr (5, (mo21 v_td (.ref h_nam) (.ref h_var) (.ref h_trm) (.ref h_ter)))), (h_nam, .inl (cy_nam, 300, .inr (.inl f_nam))), (h_var, .inl (cy_var, 300, .inl f_var)), (h_trm, .inl (cy_trm, 300, .inl f_trm)), (h_ter, .inl (cy_ter, 900, .inl f_ter))] := hD.sub [3, 0, 4, 5, 6, 2, 1, 7, 8] (by decide) rfl
                  exact ih8 (z58) (z50) (f51) (f52) _ _ _ (by omega) (by first | exact k53 | omega) hf51 hf52 (aki_cast ak57 (by omega) (by omega)) (by omega) hP hD hS (lv_sub hl [3, 4, 5, 0] rfl)
                · have kc56 := (cv_eq (rfl : (r49).toInt = (r49).toInt) (by decide : (0 : Int32).toInt = 0)).mp c56
                  exact False.elim (by rcases pk9 with ⟨q8, q9⟩ | ⟨q8, q9⟩ <;> omega)
              · replace hq : (¬ ((f_nam (Int32.toNatClampNeg (z43))).toInt = (f_nam (Int32.toNatClampNeg (z44))).toInt ∧ (f_trm (Int32.toNatClampNeg (z43))).toInt = (f_trm (Int32.toNatClampNeg (z44))).toInt)) := hq
                have gma := gvm_at (x := r19) (i := z43) hn_gvm (by omega) (by omega)
                have gta := gvk_at (x := r19) (i := z43) hn_gvk (by omega) (by omega) rfl
                have gmc := gvm_at (x := r25) (i := z44) hn_gvm (by omega) (by omega)
                have gtc := gvk_at (x := r25) (i := z44) hn_gvk (by omega) (by omega) rfl
                refine lv_if_eq (tgt := 133) hx hb dX1_alike_118 (by decide) (fun _ => ?_) (fun c9 => absurd c9 (by decide))
                refine lv_iconst (v := 0) hx hb dX1_alike_133 (by decide) ?_
                replace hP : va_P (dC, dI) cls [(h_bd, .inr (1, (mo23 v_bd (.ref h_td) (.ref h_bnd) (.ref h_lef) (.ref h_rig) (.int z15)))), (h_bnd, .inl (cy_bnd, 256, .inl f_bnd)), (h_lef, .inl (cy_lef, 2048, .inl f5)), (h_rig, .inl (cy_rig, 2048, .inl f6)), (h_td, .inr (5, (mo21 v_td (.ref h_nam) (.ref h_var) (.ref h_trm) (.ref h_ter)))), (h_nam, .inl (cy_nam, 300, .inr (.inl f_nam))), (h_var, .inl (cy_var, 300, .inl f_var)), (h_trm, .inl (cy_trm, 300, .inl f_trm)), (h_ter, .inl (cy_ter, 900, .inl f_ter))] H := hP.sub [4, 3, 0, 1, 6, 7, 5, 8, 2] rfl
                replace hD : va_D A [(h_bd, .inr (1, (mo23 v_bd (.ref h_td) (.ref h_bnd) (.ref h_lef) (.ref h_rig) (.int z15)))), (h_bnd, .inl (cy_bnd, 256, .inl f_bnd)), (h_lef, .inl (cy_lef, 2048, .inl f5)), (h_rig, .inl (cy_rig, 2048, .inl f6)), (h_td, .inr (5, (mo21 v_td (.ref h_nam) (.ref h_var) (.ref h_trm) (.ref h_ter)))), (h_nam, .inl (cy_nam, 300, .inr (.inl f_nam))), (h_var, .inl (cy_var, 300, .inl f_var)), (h_trm, .inl (cy_trm, 300, .inl f_trm)), (h_ter, .inl (cy_ter, 900, .inl f_ter))] := hD.sub [4, 3, 0, 1, 6, 7, 5, 8, 2] (by decide) rfl
                refine W.widen (k := 0) (n := 0) (Nat.le_of_ble_eq_true rfl) (Nat.le_of_ble_eq_true rfl) ?_
                have cst0 : (0 : Int32).toInt = 0 := by decide
                have w59 : 0 ≤ ((z15)).toInt ∧ ((z15)).toInt ≤ 2048 := by omega
                have w60 : 0 ≤ (0 : Int32).toInt ∧ (0 : Int32).toInt ≤ 1 := by omega
                have w61 : (((0 : Int32)).toInt = 1 ∧ ALK g (BDV f_bnd) (p1).toInt.toNat (p2).toInt.toNat) ∨ (((0 : Int32)).toInt = 0 ∧ ¬ ALK g (BDV f_bnd) (p1).toInt.toNat (p2).toInt.toNat) := (Or.inr ⟨by decide, aki_fail (T := T9) klp7_4 (by omega) bt1 bt2 (fun q9 => by rcases q9 with ⟨q1, q2, q3⟩ | ⟨q1, q2, q3, q4⟩; exact nxy (hn_wfs.2.2.2 _ _ bs1 bs2 q1 q2 q3); rw [gma, gmc] at q3; rw [gta, gtc] at q4; exact hq ⟨q3, q4⟩)⟩)
                exact W.zret (v := 0) (ty := .boolean) hx hb hr (by decide) (fun t ht hW => ⟨⟨0, (z15, f5, f6), rfl, ⟨w59, hf5, hf6, w60, w61⟩, by rw [ht]; exact hP, hD⟩, hS.F ht⟩) hS.2.2 dX1_alike_134
  have cst0 : (0 : Int32).toInt = 0 := by decide
  have cst1 : (1 : Int32).toInt = 1 := by decide
  exact lp7 _ (0) (1) (f1) (f2) _ _ _ (by decide) (by decide) hf1 hf2 (aki_cast ak0 (by omega) (by omega)) (Nat.le_refl _) hP hD hS (lv_sub hl [1, 2, 3, 0] rfl)

