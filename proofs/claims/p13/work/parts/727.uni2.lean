set_option maxHeartbeats 8000000 in
set_option maxRecDepth 100000 in
theorem c_X1_has_x (l : Launch) (dC : Nat → ClassId) (dI : Nat → Nat → Nat) (sz : Nat) (h_bd : Nat) (h_bnd : Nat) (h_hol : Nat) (h_see : Nat) (h_td : Nat) (h_var : Nat) (h_trm : Nat) (h_ter : Nat) (v_bd : Nat → Value) (x_bd_searches : Int32) (cy_bnd : ClassId) (f_bnd : Nat → Int32) (cy_hol : ClassId) (f_hol : Nat → Int32) (cy_see : ClassId) (f_see : Nat → Int32) (v_td : Nat → Value) (cy_var : ClassId) (f_var : Nat → Int32) (cy_trm : ClassId) (f_trm : Nat → Int32) (cy_ter : ClassId) (f_ter : Nat → Int32) (p1 : Int32) (p2 : Int32) (g : GVT) (S : Nat → Prop) (VL : List Nat) (SL : List Nat) (bo : Nat → Int) (hf_bnd : Rg 0 9600 f_bnd) (hf_hol : Rg 0 9599 f_hol) (hf_var : Rg (-1) 7 f_var) (hf_trm : Rg 0 3 f_trm) (hf_ter : Rg 0 299 f_ter) (q0 : 0 ≤ (p1).toInt ∧ (p1).toInt ≤ 9599) (q1 : 0 ≤ (p2).toInt ∧ (p2).toInt ≤ 255) (q2 : 0 ≤ (x_bd_searches).toInt ∧ (x_bd_searches).toInt ≤ 2147483646) (hn_gvv : GVV g f_var) (hn_gvk : GVK g f_trm f_ter) (hn_bst : BST g bo S SL VL) (hn_cld : CLD g (BDV f_bnd) S) (hn_ext : EXT bo (BDV f_bnd)) (hn_sp1 : S (p1).toInt.toNat) (hn_sfr : SFR f_see x_bd_searches) : Met l yX1_has (Ws yX1_has cX1_has 9 (some .boolean)) (({ frames := 0, cells := 0, slots := 0, locals := 0 } : Room)) (PRE (dC, dI) cls [(cy_bnd, .int), (cy_hol, .int), (cy_see, .int), (cy_var, .int), (cy_trm, .int), (cy_ter, .int)] [(h_bd, .inr (1, (mo17 v_bd (.ref h_td) (.ref h_bnd) (.ref h_hol) (.ref h_see) (.int x_bd_searches)))), (h_bnd, .inl (cy_bnd, 256, .inl f_bnd)), (h_hol, .inl (cy_hol, 2048, .inl f_hol)), (h_see, .inl (cy_see, 256, .inl f_see)), (h_td, .inr (5, (mo18 v_td (.ref h_var) (.ref h_trm) (.ref h_ter)))), (h_var, .inl (cy_var, 300, .inl f_var)), (h_trm, .inl (cy_trm, 300, .inl f_trm)), (h_ter, .inl (cy_ter, 900, .inl f_ter))] sz [.ref h_bd, .int p1, .int p2]) (va_Qi (fun (r : Int32) (u : (Int32) × (Nat → Int32) × (Nat → Int32)) => (Rg 0 9599 u.2.1) ∧ (0 ≤ r.toInt ∧ r.toInt ≤ 1) ∧ ((u.1).toInt = (x_bd_searches).toInt + 1) ∧ (((r).toInt = 1 ∧ OCC g (BDV f_bnd) (p1).toInt.toNat (p2).toInt.toNat) ∨ ((r).toInt = 0 ∧ ¬ OCC g (BDV f_bnd) (p1).toInt.toNat (p2).toInt.toNat)) ∧ (SFR u.2.2 u.1)) (fun (u : (Int32) × (Nat → Int32) × (Nat → Int32)) (t : State) => va_P (dC, dI) cls [(h_bd, .inr (1, (mo17 v_bd (.ref h_td) (.ref h_bnd) (.ref h_hol) (.ref h_see) (.int u.1)))), (h_bnd, .inl (cy_bnd, 256, .inl f_bnd)), (h_hol, .inl (cy_hol, 2048, .inl u.2.1)), (h_see, .inl (cy_see, 256, .inl u.2.2)), (h_td, .inr (5, (mo18 v_td (.ref h_var) (.ref h_trm) (.ref h_ter)))), (h_var, .inl (cy_var, 300, .inl f_var)), (h_trm, .inl (cy_trm, 300, .inl f_trm)), (h_ter, .inl (cy_ter, 900, .inl f_ter))] t.heap ∧ va_D (va_A [(h_bd, .inr (1, (mo17 v_bd (.ref h_td) (.ref h_bnd) (.ref h_hol) (.ref h_see) (.int x_bd_searches)))), (h_bnd, .inl (cy_bnd, 256, .inl f_bnd)), (h_hol, .inl (cy_hol, 2048, .inl f_hol)), (h_see, .inl (cy_see, 256, .inl f_see)), (h_td, .inr (5, (mo18 v_td (.ref h_var) (.ref h_trm) (.ref h_ter)))), (h_var, .inl (cy_var, 300, .inl f_var)), (h_trm, .inl (cy_trm, 300, .inl f_trm)), (h_ter, .inl (cy_ter, 900, .inl f_ter))] sz) [(h_bd, .inr (1, (mo17 v_bd (.ref h_td) (.ref h_bnd) (.ref h_hol) (.ref h_see) (.int u.1)))), (h_bnd, .inl (cy_bnd, 256, .inl f_bnd)), (h_hol, .inl (cy_hol, 2048, .inl u.2.1)), (h_see, .inl (cy_see, 256, .inl u.2.2)), (h_td, .inr (5, (mo18 v_td (.ref h_var) (.ref h_trm) (.ref h_ter)))), (h_var, .inl (cy_var, 300, .inl f_var)), (h_trm, .inl (cy_trm, 300, .inl f_trm)), (h_ter, .inl (cy_ter, 900, .inl f_ter))]) (va_A [(h_bd, .inr (1, (mo17 v_bd (.ref h_td) (.ref h_bnd) (.ref h_hol) (.ref h_see) (.int x_bd_searches)))), (h_bnd, .inl (cy_bnd, 256, .inl f_bnd)), (h_hol, .inl (cy_hol, 2048, .inl f_hol)), (h_see, .inl (cy_see, 256, .inl f_see)), (h_td, .inr (5, (mo18 v_td (.ref h_var) (.ref h_trm) (.ref h_ter)))), (h_var, .inl (cy_var, 300, .inl f_var)), (h_trm, .inl (cy_trm, 300, .inl f_trm)), (h_ter, .inl (cy_ter, 900, .inl f_ter))] sz)) 0 0 (va_A [(h_bd, .inr (1, (mo17 v_bd (.ref h_td) (.ref h_bnd) (.ref h_hol) (.ref h_see) (.int x_bd_searches)))), (h_bnd, .inl (cy_bnd, 256, .inl f_bnd)), (h_hol, .inl (cy_hol, 2048, .inl f_hol)), (h_see, .inl (cy_see, 256, .inl f_see)), (h_td, .inr (5, (mo18 v_td (.ref h_var) (.ref h_trm) (.ref h_ter)))), (h_var, .inl (cy_var, 300, .inl f_var)), (h_trm, .inl (cy_trm, 300, .inl f_trm)), (h_ter, .inl (cy_ter, 900, .inl f_ter))] sz) := by
  refine Met.ofW (cc := cX1_has) (maxL := 9) (ret := (some .boolean)) (by decide) rfl ?_
  intro p e s m args below meth c s₁ B hml hv
  obtain ⟨rfl, hsz, hP, hK, hD0, hN⟩ := hv
  have hx := B.exec
  have hb := B.bytes
  have hr := B.returns
  have hts := atoms_spec (ws := Ws yX1_has cX1_has 9 (some .boolean)) B.pre
  have hT : ∀ w ∈ WALL, w ∈ Ws yX1_has cX1_has 9 (some .boolean) := fun w h => List.mem_cons_of_mem _ h
  have hw := fun w (h : w ∈ WALL) => hts w (hT w h)
  have hown : s.vm.findClass RX1 = some m.cls := findClass_of_methodNamed B.named
  have hlocks := B.notSynchronized
  subst hsz
  have hD := hD0.self (sz := s.heap.size)
  generalize hAe : va_A [(h_bd, .inr (1, (mo17 v_bd (.ref h_td) (.ref h_bnd) (.ref h_hol) (.ref h_see) (.int x_bd_searches)))), (h_bnd, .inl (cy_bnd, 256, .inl f_bnd)), (h_hol, .inl (cy_hol, 2048, .inl f_hol)), (h_see, .inl (cy_see, 256, .inl f_see)), (h_td, .inr (5, (mo18 v_td (.ref h_var) (.ref h_trm) (.ref h_ter)))), (h_var, .inl (cy_var, 300, .inl f_var)), (h_trm, .inl (cy_trm, 300, .inl f_trm)), (h_ter, .inl (cy_ter, 900, .inl f_ter))] s.heap.size = A at hD ⊢
  have hA : ∀ q : Nat, s.heap.size ≤ q → A q := fun q h => by rw [← hAe]; exact Or.inr h
  have hS : va_S A s.heap s.heap [] := va_S.rf
  have hl := lv_entry ([.ref h_bd, .int p1, .int p2]) (n := 9) (Nat.le_of_ble_eq_true rfl)
  rw [lg_entry_eq]
  generalize (lg_sl ([.ref h_bd, .int p1, .int p2]) ++ List.replicate (9 - (lg_sl ([.ref h_bd, .int p1, .int p2])).length) Slot.unset).toArray = ls at hl ⊢
  have hl : lv_has ls 9 [(0, .ref h_bd), (1, .int p1), (2, .int p2)] := hl
  refine lv_aload_n hx hb dX1_has_0 rfl (lv_at hl 0 rfl) ?_
  refine lv_dup hx hb dX1_has_1 rfl ?_
  refine va_get (D := (dC, dI)) (ci := 1) (v := .int x_bd_searches) (C := RX1) (T := TX1) (N := 13) hx hb hw iwX1 hown hK hP 0 rfl rfl 12 (by decide) (hw _ w_f_X1_94) (fun _ h9 => h9) rfl dX1_has_2 ?_
  refine lv_iconst (v := 1) hx hb dX1_has_5 (by decide) ?_
  refine lv_iadd hx hb dX1_has_6 ?_
  refine lv_topi (fun z1 ez1 => ?_)
  have tz1 : (z1).toInt = (x_bd_searches).toInt + 1 := by rw [ez1]; exact i_add rfl (by decide) (by omega)
  refine va_put (D := (dC, dI)) (ci := 1) (v := .int z1) (ty := tyX1 12) (C := RX1) (T := TX1) (N := 13) hx hb hw iwX1 tyX1 tyX1_ok nmX1 hown hK hP hD hS 0 rfl rfl 12 (by decide) (hw _ w_f_X1_94) (fun _ h9 => h9) rfl (tyX1_ok 12 (by decide)) rfl rfl (Nat.le_of_ble_eq_true rfl) dX1_has_7 (fun H locs hP9 hD9 hS9 => ?_)
  clear hP hD hS
  have hP : va_P (dC, dI) cls [(h_bd, .inr (1, (mo17 v_bd (.ref h_td) (.ref h_bnd) (.ref h_hol) (.ref h_see) (.int z1)))), (h_bnd, .inl (cy_bnd, 256, .inl f_bnd)), (h_hol, .inl (cy_hol, 2048, .inl f_hol)), (h_see, .inl (cy_see, 256, .inl f_see)), (h_td, .inr (5, (mo18 v_td (.ref h_var) (.ref h_trm) (.ref h_ter)))), (h_var, .inl (cy_var, 300, .inl f_var)), (h_trm, .inl (cy_trm, 300, .inl f_trm)), (h_ter, .inl (cy_ter, 900, .inl f_ter))] H := hP9
  have hD : va_D A [(h_bd, .inr (1, (mo17 v_bd (.ref h_td) (.ref h_bnd) (.ref h_hol) (.ref h_see) (.int z1)))), (h_bnd, .inl (cy_bnd, 256, .inl f_bnd)), (h_hol, .inl (cy_hol, 2048, .inl f_hol)), (h_see, .inl (cy_see, 256, .inl f_see)), (h_td, .inr (5, (mo18 v_td (.ref h_var) (.ref h_trm) (.ref h_ter)))), (h_var, .inl (cy_var, 300, .inl f_var)), (h_trm, .inl (cy_trm, 300, .inl f_trm)), (h_ter, .inl (cy_ter, 900, .inl f_ter))] := hD9
  have hS := hS9
  clear hP9 hD9 hS9
  refine lv_iconst (v := 1) hx hb dX1_has_10 (by decide) ?_
  refine lv_istore_n (lv' := [(3, .int 1), (0, .ref h_bd), (1, .int p1), (2, .int p2)]) hx hb dX1_has_11 rfl hl (by decide) rfl (fun ls hl => ?_)
  refine lv_aload_n hx hb dX1_has_12 rfl (lv_at hl 1 rfl) ?_
  refine va_get (D := (dC, dI)) (ci := 1) (v := .ref h_hol) (C := RX1) (T := TX1) (N := 13) hx hb hw iwX1 hown hK hP 0 rfl rfl 10 (by decide) (hw _ w_f_X1_30) (fun _ h9 => h9) rfl dX1_has_13 ?_
  refine lv_iconst (v := 0) hx hb dX1_has_16 (by decide) ?_
  refine lv_iload_n hx hb dX1_has_17 rfl (lv_at hl 2 rfl) ?_
  refine va_iast hx hb hK hP hD hS 2 1 rfl rfl (i := 0) (x := p1) (show ¬ _ from by decide) dX1_has_18 (fun H locs hP9 hD9 hS9 => ?_)
  obtain ⟨f2, ef2⟩ : ∃ g : Nat → Int32, g = upd f_hol (Int32.toNatClampNeg 0) p1 := ⟨_, rfl⟩
  clear hP hD hS
  have hP : va_P (dC, dI) cls [(h_bd, .inr (1, (mo17 v_bd (.ref h_td) (.ref h_bnd) (.ref h_hol) (.ref h_see) (.int z1)))), (h_bnd, .inl (cy_bnd, 256, .inl f_bnd)), (h_hol, .inl (cy_hol, 2048, .inl f2)), (h_see, .inl (cy_see, 256, .inl f_see)), (h_td, .inr (5, (mo18 v_td (.ref h_var) (.ref h_trm) (.ref h_ter)))), (h_var, .inl (cy_var, 300, .inl f_var)), (h_trm, .inl (cy_trm, 300, .inl f_trm)), (h_ter, .inl (cy_ter, 900, .inl f_ter))] H := by rw [ef2]; exact hP9
  have hD : va_D A [(h_bd, .inr (1, (mo17 v_bd (.ref h_td) (.ref h_bnd) (.ref h_hol) (.ref h_see) (.int z1)))), (h_bnd, .inl (cy_bnd, 256, .inl f_bnd)), (h_hol, .inl (cy_hol, 2048, .inl f2)), (h_see, .inl (cy_see, 256, .inl f_see)), (h_td, .inr (5, (mo18 v_td (.ref h_var) (.ref h_trm) (.ref h_ter)))), (h_var, .inl (cy_var, 300, .inl f_var)), (h_trm, .inl (cy_trm, 300, .inl f_trm)), (h_ter, .inl (cy_ter, 900, .inl f_ter))] := by rw [ef2]; exact hD9
  have hS := hS9
  clear hP9 hD9 hS9
  have hf2 : Rg 0 9599 f2 := by rw [ef2]; exact rg_upd hf_hol (by omega)
  have hp0 : prx f2 0 = (p1).toInt.toNat := by have e0 : Int32.toNatClampNeg (0 : Int32) = 0 := (by decide); unfold prx; rw [ef2, e0, pk_us]
  refine lv_iconst (v := 0) hx hb dX1_has_19 (by decide) ?_
  refine lv_istore (lv' := [(4, .int 0), (3, .int 1), (0, .ref h_bd), (1, .int p1), (2, .int p2)]) hx hb dX1_has_20 hl (by decide) rfl (fun ls hl => ?_)
  have hsv0 : HSV g (BDV f_bnd) S VL (p2).toInt.toNat (p1).toInt.toNat  f_see z1 f2 1 0 := hsv_zero (fun p9 h9 => (hn_bst.1 p9 h9).2.2.1) hn_sp1 hp0 (fun c9 h9 e9 => by have := hn_sfr c9 h9; rw [e9] at this; omega)
  have sfr0 : SFR f_see z1 := fun c9 h9 => by have := hn_sfr c9 h9; omega
  have vl9 : VL.length ≤ 140 := hn_bst.2.2.2.1
  have lp7 : ∀ (n : Nat) (x3 : Int32) (x4 : Int32) (f5 : Nat → Int32) (f6 : Nat → Int32) (H : Heap) (locs : List Loc) (ls : Array Slot), (0 ≤ (x3).toInt ∧ (x3).toInt ≤ 2048) → (0 ≤ (x4).toInt ∧ (x4).toInt ≤ 1000000) → (Rg 0 9599 f5) → (HSV g (BDV f_bnd) S VL (p2).toInt.toNat (p1).toInt.toNat f6 z1 f5 (Int.toNat ((x3).toInt)) ((x4).toInt)) → (SFR f6 z1) → (1000000 - (x4).toInt).toNat + 1 ≤ n → va_P (dC, dI) cls [(h_bd, .inr (1, (mo17 v_bd (.ref h_td) (.ref h_bnd) (.ref h_hol) (.ref h_see) (.int z1)))), (h_bnd, .inl (cy_bnd, 256, .inl f_bnd)), (h_hol, .inl (cy_hol, 2048, .inl f5)), (h_see, .inl (cy_see, 256, .inl f6)), (h_td, .inr (5, (mo18 v_td (.ref h_var) (.ref h_trm) (.ref h_ter)))), (h_var, .inl (cy_var, 300, .inl f_var)), (h_trm, .inl (cy_trm, 300, .inl f_trm)), (h_ter, .inl (cy_ter, 900, .inl f_ter))] H → va_D A [(h_bd, .inr (1, (mo17 v_bd (.ref h_td) (.ref h_bnd) (.ref h_hol) (.ref h_see) (.int z1)))), (h_bnd, .inl (cy_bnd, 256, .inl f_bnd)), (h_hol, .inl (cy_hol, 2048, .inl f5)), (h_see, .inl (cy_see, 256, .inl f6)), (h_td, .inr (5, (mo18 v_td (.ref h_var) (.ref h_trm) (.ref h_ter)))), (h_var, .inl (cy_var, 300, .inl f_var)), (h_trm, .inl (cy_trm, 300, .inl f_trm)), (h_ter, .inl (cy_ter, 900, .inl f_ter))] → va_S A s.heap H locs → lv_has ls 9 [(0, .ref h_bd), (1, .int p1), (2, .int p2), (3, .int x3), (4, .int x4)] → W p l e ({ frames := 0, cells := 0, slots := 0, locals := 0 } : Room) s m ([.ref h_bd, .int p1, .int p2] : List Value).toArray below meth c H locs 0 0 (MQ below (va_Qi (fun (r : Int32) (u : (Int32) × (Nat → Int32) × (Nat → Int32)) => (Rg 0 9599 u.2.1) ∧ (0 ≤ r.toInt ∧ r.toInt ≤ 1) ∧ ((u.1).toInt = (x_bd_searches).toInt + 1) ∧ (((r).toInt = 1 ∧ OCC g (BDV f_bnd) (p1).toInt.toNat (p2).toInt.toNat) ∨ ((r).toInt = 0 ∧ ¬ OCC g (BDV f_bnd) (p1).toInt.toNat (p2).toInt.toNat)) ∧ (SFR u.2.2 u.1)) (fun (u : (Int32) × (Nat → Int32) × (Nat → Int32)) (t : State) => va_P (dC, dI) cls [(h_bd, .inr (1, (mo17 v_bd (.ref h_td) (.ref h_bnd) (.ref h_hol) (.ref h_see) (.int u.1)))), (h_bnd, .inl (cy_bnd, 256, .inl f_bnd)), (h_hol, .inl (cy_hol, 2048, .inl u.2.1)), (h_see, .inl (cy_see, 256, .inl u.2.2)), (h_td, .inr (5, (mo18 v_td (.ref h_var) (.ref h_trm) (.ref h_ter)))), (h_var, .inl (cy_var, 300, .inl f_var)), (h_trm, .inl (cy_trm, 300, .inl f_trm)), (h_ter, .inl (cy_ter, 900, .inl f_ter))] t.heap ∧ va_D A [(h_bd, .inr (1, (mo17 v_bd (.ref h_td) (.ref h_bnd) (.ref h_hol) (.ref h_see) (.int u.1)))), (h_bnd, .inl (cy_bnd, 256, .inl f_bnd)), (h_hol, .inl (cy_hol, 2048, .inl u.2.1)), (h_see, .inl (cy_see, 256, .inl u.2.2)), (h_td, .inr (5, (mo18 v_td (.ref h_var) (.ref h_trm) (.ref h_ter)))), (h_var, .inl (cy_var, 300, .inl f_var)), (h_trm, .inl (cy_trm, 300, .inl f_trm)), (h_ter, .inl (cy_ter, 900, .inl f_ter))]) A) ([.ref h_bd, .int p1, .int p2] : List Value).toArray s 0 0 A) (F0 m 22 ls []) := by
    clear hP hD hS hl
    intro n
    induction n with
    | zero => intro x3 x4 f5 f6 H locs ls klp7_0 klp7_1 hf5 klp7_3 klp7_4 hm hP hD hS hl; exact False.elim (by omega)
    | succ n ih => 
      intro x3 x4 f5 f6 H locs ls klp7_0 klp7_1 hf5 klp7_3 klp7_4 hm hP hD hS hl
      have ih8 := ih
      clear ih
      refine lv_iload hx hb dX1_has_22 (lv_at hl 4 rfl) ?_
      have hv9 := hsv_vn klp7_3
      refine lv_ldc (v := 1000000) hx hb hown (hw _ w_k_X1_55) dX1_has_24 ?_
      refine lv_icmp_ge (tgt := 223) hx hb dX1_has_26 (by decide) (fun c9 => False.elim (by have kc9 := (cv_le (by decide : (1000000 : Int32).toInt = 1000000) (rfl : (x4).toInt = (x4).toInt)).mp c9; omega)) (fun _ => ?_)
      refine lv_iload_n hx hb dX1_has_29 rfl (lv_at hl 3 rfl) ?_
      refine lv_if_le (tgt := 223) hx hb dX1_has_30 (by decide) (fun c10 => ?_) (fun c10 => ?_)
      · have kc10 := (cv_le (rfl : (x3).toInt = (x3).toInt) (by decide : (0 : Int32).toInt = 0)).mp c10
        refine lv_iload_n hx hb dX1_has_223 rfl (lv_at hl 3 rfl) ?_
        refine lv_if_le (tgt := 231) hx hb dX1_has_224 (by decide) (fun _ => ?_) (fun c11 => False.elim (by have kc11 := (not_congr (cv_le (rfl : (x3).toInt = (x3).toInt) (by decide : (0 : Int32).toInt = 0))).mp c11; omega))
        refine lv_iconst (v := 0) hx hb dX1_has_231 (by decide) ?_
        refine W.widen (k := 0) (n := 0) (Nat.le_of_ble_eq_true rfl) (Nat.le_of_ble_eq_true rfl) ?_
        have cst0 : (0 : Int32).toInt = 0 := by decide
        have w12 : 0 ≤ (0 : Int32).toInt ∧ (0 : Int32).toInt ≤ 1 := by omega
        have w13 : ((z1)).toInt = (x_bd_searches).toInt + 1 := by omega
        have w14 : (((0 : Int32)).toInt = 1 ∧ OCC g (BDV f_bnd) (p1).toInt.toNat (p2).toInt.toNat) ∨ (((0 : Int32)).toInt = 0 ∧ ¬ OCC g (BDV f_bnd) (p1).toInt.toNat (p2).toInt.toNat) := (Or.inr ⟨by decide, hsv_end (hsv_cast (n' := 0) klp7_3 (by omega) rfl)⟩)
        have w15 : SFR (f6) (z1) := klp7_4
        exact W.zret (v := 0) (ty := .boolean) hx hb hr (by decide) (fun t ht hW => ⟨⟨0, (z1, f5, f6), rfl, ⟨hf5, w12, w13, w14, w15⟩, by rw [ht]; exact hP, hD⟩, hS.F ht⟩) hS.2.2 dX1_has_232
      · have kc10 := (not_congr (cv_le (rfl : (x3).toInt = (x3).toInt) (by decide : (0 : Int32).toInt = 0))).mp c10
        obtain ⟨z16, ez16⟩ : ∃ y : Int32, y = x3 + (-1) := ⟨_, rfl⟩
        have tz16 : (z16).toInt = (x3).toInt + -1 := by rw [ez16]; exact i_add rfl (by decide) (by omega)
        refine lv_iinc (v := z16) (lv' := [(3, .int z16), (0, .ref h_bd), (1, .int p1), (2, .int p2), (4, .int x4)]) hx hb dX1_has_33 hl (k := 3) rfl (by rw [ez16]; rfl) (by decide) rfl (fun ls hl => ?_)
        obtain ⟨N9, eN9⟩ : ∃ y : Nat, (y : Int) = (z16).toInt := ⟨(z16).toInt.toNat, by omega⟩
        have hs9 := hsv_cast (n' := N9 + 1) klp7_3 (by omega) rfl
        have cz9 : Int32.toNatClampNeg z16 = N9 := by rw [clamp_nat (by omega)]; omega
        refine lv_aload_n hx hb dX1_has_36 rfl (lv_at hl 1 rfl) ?_
        refine va_get (D := (dC, dI)) (ci := 1) (v := .ref h_hol) (C := RX1) (T := TX1) (N := 13) hx hb hw iwX1 hown hK hP 0 rfl rfl 10 (by decide) (hw _ w_f_X1_30) (fun _ h9 => h9) rfl dX1_has_37 ?_
        refine lv_iload_n hx hb dX1_has_40 rfl (lv_at hl 0 rfl) ?_
        refine va_iald hx hb hK hP 2 1 rfl rfl (i := z16) (vp_in_iff.mpr (by omega)) dX1_has_41 ?_
        refine lv_topi (fun z17 ez17 => ?_)
        have rz17 : 0 ≤ (z17).toInt ∧ (z17).toInt ≤ 9599 := by rw [ez17]; exact hf5 _
        obtain ⟨X9, eX9⟩ : ∃ y : Nat, y = (z17).toInt.toNat := ⟨_, rfl⟩
        have px9 : prx f5 N9 = X9 := by unfold prx; rw [eX9, ez17, cz9]
        refine lv_sipush (v := 300) hx hb dX1_has_42 (by decide) ?_
        refine lv_irem hx hb dX1_has_45 (by decide) ?_
        refine lv_topi (fun z18 ez18 => ?_)
        have tz18 : (z18).toInt = (z17).toInt % 300 := by rw [ez18]; exact i_rem rfl (by decide) (by omega)
        refine lv_istore (lv' := [(5, .int z18), (3, .int z16), (0, .ref h_bd), (1, .int p1), (2, .int p2), (4, .int x4)]) hx hb dX1_has_46 hl (by decide) rfl (fun ls hl => ?_)
        refine lv_aload_n hx hb dX1_has_48 rfl (lv_at hl 2 rfl) ?_
        refine va_get (D := (dC, dI)) (ci := 1) (v := .ref h_hol) (C := RX1) (T := TX1) (N := 13) hx hb hw iwX1 hown hK hP 0 rfl rfl 10 (by decide) (hw _ w_f_X1_30) (fun _ h9 => h9) rfl dX1_has_49 ?_
        refine lv_iload_n hx hb dX1_has_52 rfl (lv_at hl 1 rfl) ?_
        refine va_iald hx hb hK hP 2 1 rfl rfl (i := z16) (vp_in_iff.mpr (by omega)) dX1_has_53 ?_
        refine lv_topi (fun z19 ez19 => ?_)
        have qz19 : (z19).toInt = (z17).toInt := by rw [ez19, ez17]
        have rz19 : 0 ≤ (z19).toInt ∧ (z19).toInt ≤ 9599 := by rw [ez19]; exact hf5 _
        refine lv_iload hx hb dX1_has_54 (lv_at hl 0 rfl) ?_
        refine lv_isub hx hb dX1_has_56 ?_
        refine lv_topi (fun z20 ez20 => ?_)
        have tz20 : (z20).toInt = (z19).toInt - (z18).toInt := by rw [ez20]; exact i_sub rfl rfl (by omega)
        have sz20 : 0 ≤ (z20).toInt ∧ (z20).toInt ≤ 9300 := by omega
        refine lv_istore (lv' := [(6, .int z20), (5, .int z18), (3, .int z16), (0, .ref h_bd), (1, .int p1), (2, .int p2), (4, .int x4)]) hx hb dX1_has_57 hl (by decide) rfl (fun ls hl => ?_)
        refine lv_aload_n hx hb dX1_has_59 rfl (lv_at hl 3 rfl) ?_
        refine va_get (D := (dC, dI)) (ci := 1) (v := .ref h_td) (C := RX1) (T := TX1) (N := 13) hx hb hw iwX1 hown hK hP 0 rfl rfl 0 (by decide) (hw _ w_f_X1_36) (fun _ h9 => h9) rfl dX1_has_60 ?_
        refine va_getN (D := (dC, dI)) (ci := 5) (v := .ref h_var) (C := RX8) (T := TX8) (N := 10) (host := "OppositePairs") hx hb hw iwX8 hown hK hP 4 rfl rfl 1 (by decide) (hN.use n_f_X1_44 rfl) (fun _ h9 => h9) rfl dX1_has_63 ?_
        refine lv_iload hx hb dX1_has_66 (lv_at hl 1 rfl) ?_
        refine va_iald hx hb hK hP 5 3 rfl rfl (i := z18) (vp_in_iff.mpr (by omega)) dX1_has_68 ?_
        refine lv_topi (fun z21 ez21 => ?_)
        have rz21 : -1 ≤ (z21).toInt ∧ (z21).toInt ≤ 7 := by rw [ez21]; exact hf_var _
        obtain ⟨gv1, gv2⟩ := gvv_at (x := z17) hn_gvv (by omega) tz18 ez21
        rw [← eX9] at gv1 gv2
        refine lv_istore (lv' := [(7, .int z21), (6, .int z20), (5, .int z18), (3, .int z16), (0, .ref h_bd), (1, .int p1), (2, .int p2), (4, .int x4)]) hx hb dX1_has_69 hl (by decide) rfl (fun ls hl => ?_)
        refine lv_iload_n hx hb dX1_has_71 rfl (lv_at hl 3 rfl) ?_
        refine lv_iconst (v := 3) hx hb dX1_has_72 (by decide) ?_
        refine lv_iadd hx hb dX1_has_73 ?_
        refine lv_topi (fun z22 ez22 => ?_)
        have tz22 : (z22).toInt = (z16).toInt + 3 := by rw [ez22]; exact i_add rfl (by decide) (by omega)
        refine lv_sipush (v := 2048) hx hb dX1_has_74 (by decide) ?_
        refine lv_icmp_le (tgt := 82) hx hb dX1_has_77 (by decide) (fun _ => ?_) (fun c23 => False.elim (by have kc23 := (not_congr (cv_le (rfl : (z22).toInt = (z22).toInt) (by decide : (2048 : Int32).toInt = 2048))).mp c23; omega))
        refine lv_iload hx hb dX1_has_82 (lv_at hl 0 rfl) ?_
        refine lv_iconst (v := (-1)) hx hb dX1_has_84 (by decide) ?_
        refine lv_icmp_ne (tgt := 142) hx hb dX1_has_85 (by decide) (fun c24 => ?_) (fun c24 => ?_)
        · have kc24 := (not_congr (cv_eq (rfl : (z21).toInt = (z21).toInt) (by decide : ((-1) : Int32).toInt = -1))).mp c24
          refine lv_iload hx hb dX1_has_142 (lv_at hl 1 rfl) ?_
          refine lv_sipush (v := 300) hx hb dX1_has_144 (by decide) ?_
          refine lv_idiv hx hb dX1_has_147 (by decide) ?_
          refine lv_topi (fun z25 ez25 => ?_)
          have tz25 : (z25).toInt = (z20).toInt / 300 := by rw [ez25]; exact i_div rfl (by decide) (by omega)
          refine lv_bipush (v := 8) hx hb dX1_has_148 (by decide) ?_
          refine lv_imul hx hb dX1_has_150 ?_
          refine lv_topi (fun z26 ez26 => ?_)
          have tz26 : (z26).toInt = (z25).toInt * 8 := by rw [ez26]; exact i_mul rfl (by decide) (by omega)
          refine lv_iload hx hb dX1_has_151 (lv_at hl 0 rfl) ?_
          refine lv_iadd hx hb dX1_has_153 ?_
          refine lv_topi (fun z27 ez27 => ?_)
          have tz27 : (z27).toInt = (z26).toInt + (z21).toInt := by rw [ez27]; exact i_add rfl rfl (by omega)
          have ow9 : (g.2.1 X9 : Int) = (z27).toInt := by have := gv2 (by omega); omega
          refine lv_istore (lv' := [(8, .int z27), (7, .int z21), (6, .int z20), (5, .int z18), (3, .int z16), (0, .ref h_bd), (1, .int p1), (2, .int p2), (4, .int x4)]) hx hb dX1_has_154 hl (by decide) rfl (fun ls hl => ?_)
          refine lv_iload hx hb dX1_has_156 (lv_at hl 0 rfl) ?_
          refine lv_iload_n hx hb dX1_has_158 rfl (lv_at hl 7 rfl) ?_
          refine lv_icmp_ne (tgt := 164) hx hb dX1_has_159 (by decide) (fun c28 => ?_) (fun c28 => ?_)
          · have kc28 := (not_congr (cv_eq (rfl : (z27).toInt = (z27).toInt) (rfl : (p2).toInt = (p2).toInt))).mp c28
            refine lv_aload_n hx hb dX1_has_164 rfl (lv_at hl 5 rfl) ?_
            refine va_get (D := (dC, dI)) (ci := 1) (v := .ref h_bnd) (C := RX1) (T := TX1) (N := 13) hx hb hw iwX1 hown hK hP 0 rfl rfl 1 (by decide) (hw _ w_f_X1_9) (fun _ h9 => h9) rfl dX1_has_165 ?_
            refine lv_iload hx hb dX1_has_168 (lv_at hl 0 rfl) ?_
            refine va_iald hx hb hK hP 1 0 rfl rfl (i := z27) (vp_in_iff.mpr (by omega)) dX1_has_170 ?_
            refine lv_topi (fun z29 ez29 => ?_)
            have rz29 : 0 ≤ (z29).toInt ∧ (z29).toInt ≤ 9600 := by rw [ez29]; exact hf_bnd _
            have bd9 : (BDV f_bnd) (g.2.1 X9) = (z29).toInt - 1 := bdv_at ow9 ez29
            have co9 : Int32.toNatClampNeg z27 = g.2.1 X9 := by rw [clamp_nat (by omega)]; omega
            refine lv_if_eq (tgt := 217) hx hb dX1_has_171 (by decide) (fun c30 => ?_) (fun c30 => ?_)
            · have kc30 := (cv_eq (rfl : (z29).toInt = (z29).toInt) (by decide : (0 : Int32).toInt = 0)).mp c30
              have hv31 := hsv_skip hs9 (by rw [px9]; omega) (by rw [px9]; omega) (by rw [px9]; omega) (Or.inl (by rw [px9, bd9]; omega))
              obtain ⟨z32, ez32⟩ : ∃ y : Int32, y = x4 + 1 := ⟨_, rfl⟩
              have tz32 : (z32).toInt = (x4).toInt + 1 := by rw [ez32]; exact i_add rfl (by decide) (by omega)
              refine lv_iinc (v := z32) (lv' := [(4, .int z32), (8, .int z27), (7, .int z21), (6, .int z20), (5, .int z18), (3, .int z16), (0, .ref h_bd), (1, .int p1), (2, .int p2)]) hx hb dX1_has_217 hl (k := 8) rfl (by rw [ez32]; rfl) (by decide) rfl (fun ls hl => ?_)
              refine lv_goto (tgt := 22) hx hb dX1_has_220 (by decide) ?_
              exact ih8 (z16) (z32) (f5) (f6) _ _ _ (by omega) (by omega) hf5 (hsv_cast hv31 (by omega) (by omega)) klp7_4 (by omega) hP hD hS (lv_sub hl [6, 7, 8, 5, 0] rfl)
            · have kc30 := (not_congr (cv_eq (rfl : (z29).toInt = (z29).toInt) (by decide : (0 : Int32).toInt = 0))).mp c30
              refine lv_aload_n hx hb dX1_has_174 rfl (lv_at hl 5 rfl) ?_
              refine va_get (D := (dC, dI)) (ci := 1) (v := .ref h_see) (C := RX1) (T := TX1) (N := 13) hx hb hw iwX1 hown hK hP 0 rfl rfl 11 (by decide) (hw _ w_f_X1_33) (fun _ h9 => h9) rfl dX1_has_175 ?_
              refine lv_iload hx hb dX1_has_178 (lv_at hl 0 rfl) ?_
              refine va_iald hx hb hK hP 3 2 rfl rfl (i := z27) (vp_in_iff.mpr (by omega)) dX1_has_180 ?_
              refine lv_topi (fun z33 ez33 => ?_)
              refine lv_aload_n hx hb dX1_has_181 rfl (lv_at hl 5 rfl) ?_
              refine va_get (D := (dC, dI)) (ci := 1) (v := .int z1) (C := RX1) (T := TX1) (N := 13) hx hb hw iwX1 hown hK hP 0 rfl rfl 12 (by decide) (hw _ w_f_X1_94) (fun _ h9 => h9) rfl dX1_has_182 ?_
              refine lv_icmp_eq (tgt := 217) hx hb dX1_has_185 (by decide) (fun c34 => ?_) (fun c34 => ?_)
              · have kc34 := (cv_eq (rfl : (z33).toInt = (z33).toInt) (rfl : (z1).toInt = (z1).toInt)).mp c34
                have hv35 := hsv_skip hs9 (by rw [px9]; omega) (by rw [px9]; omega) (by rw [px9]; omega) (Or.inr (by rw [px9, ← co9, ← ez33]; exact Int32.toInt_inj.mp (by omega)))
                obtain ⟨z36, ez36⟩ : ∃ y : Int32, y = x4 + 1 := ⟨_, rfl⟩
                have tz36 : (z36).toInt = (x4).toInt + 1 := by rw [ez36]; exact i_add rfl (by decide) (by omega)
                refine lv_iinc (v := z36) (lv' := [(4, .int z36), (8, .int z27), (7, .int z21), (6, .int z20), (5, .int z18), (3, .int z16), (0, .ref h_bd), (1, .int p1), (2, .int p2)]) hx hb dX1_has_217 hl (k := 8) rfl (by rw [ez36]; rfl) (by decide) rfl (fun ls hl => ?_)
                refine lv_goto (tgt := 22) hx hb dX1_has_220 (by decide) ?_
                exact ih8 (z16) (z36) (f5) (f6) _ _ _ (by omega) (by omega) hf5 (hsv_cast hv35 (by omega) (by omega)) klp7_4 (by omega) hP hD hS (lv_sub hl [6, 7, 8, 5, 0] rfl)
              · have kc34 := (not_congr (cv_eq (rfl : (z33).toInt = (z33).toInt) (rfl : (z1).toInt = (z1).toInt))).mp c34
                refine lv_aload_n hx hb dX1_has_188 rfl (lv_at hl 5 rfl) ?_
                refine va_get (D := (dC, dI)) (ci := 1) (v := .ref h_see) (C := RX1) (T := TX1) (N := 13) hx hb hw iwX1 hown hK hP 0 rfl rfl 11 (by decide) (hw _ w_f_X1_33) (fun _ h9 => h9) rfl dX1_has_189 ?_
                refine lv_iload hx hb dX1_has_192 (lv_at hl 0 rfl) ?_
                refine lv_aload_n hx hb dX1_has_194 rfl (lv_at hl 5 rfl) ?_
                refine va_get (D := (dC, dI)) (ci := 1) (v := .int z1) (C := RX1) (T := TX1) (N := 13) hx hb hw iwX1 hown hK hP 0 rfl rfl 12 (by decide) (hw _ w_f_X1_94) (fun _ h9 => h9) rfl dX1_has_195 ?_
                refine va_iast hx hb hK hP hD hS 3 2 rfl rfl (i := z27) (x := z1) (vp_in_iff.mpr (by omega)) dX1_has_198 (fun H locs hP9 hD9 hS9 => ?_)
                obtain ⟨f37, ef37⟩ : ∃ g : Nat → Int32, g = upd f6 (Int32.toNatClampNeg z27) z1 := ⟨_, rfl⟩
                clear hP hD hS
                have hP : va_P (dC, dI) cls [(h_bd, .inr (1, (mo17 v_bd (.ref h_td) (.ref h_bnd) (.ref h_hol) (.ref h_see) (.int z1)))), (h_bnd, .inl (cy_bnd, 256, .inl f_bnd)), (h_hol, .inl (cy_hol, 2048, .inl f5)), (h_see, .inl (cy_see, 256, .inl f37)), (h_td, .inr (5, (mo18 v_td (.ref h_var) (.ref h_trm) (.ref h_ter)))), (h_var, .inl (cy_var, 300, .inl f_var)), (h_trm, .inl (cy_trm, 300, .inl f_trm)), (h_ter, .inl (cy_ter, 900, .inl f_ter))] H := by rw [ef37]; exact hP9
                have hD : va_D A [(h_bd, .inr (1, (mo17 v_bd (.ref h_td) (.ref h_bnd) (.ref h_hol) (.ref h_see) (.int z1)))), (h_bnd, .inl (cy_bnd, 256, .inl f_bnd)), (h_hol, .inl (cy_hol, 2048, .inl f5)), (h_see, .inl (cy_see, 256, .inl f37)), (h_td, .inr (5, (mo18 v_td (.ref h_var) (.ref h_trm) (.ref h_ter)))), (h_var, .inl (cy_var, 300, .inl f_var)), (h_trm, .inl (cy_trm, 300, .inl f_trm)), (h_ter, .inl (cy_ter, 900, .inl f_ter))] := by rw [ef37]; exact hD9
                have hS := hS9
                clear hP9 hD9 hS9
                refine lv_aload_n hx hb dX1_has_199 rfl (lv_at hl 5 rfl) ?_
                refine va_get (D := (dC, dI)) (ci := 1) (v := .ref h_hol) (C := RX1) (T := TX1) (N := 13) hx hb hw iwX1 hown hK hP 0 rfl rfl 10 (by decide) (hw _ w_f_X1_30) (fun _ h9 => h9) rfl dX1_has_200 ?_
                refine lv_iload_n hx hb dX1_has_203 rfl (lv_at hl 4 rfl) ?_
                obtain ⟨z38, ez38⟩ : ∃ y : Int32, y = z16 + 1 := ⟨_, rfl⟩
                have tz38 : (z38).toInt = (z16).toInt + 1 := by rw [ez38]; exact i_add rfl (by decide) (by omega)
                refine lv_iinc (v := z38) (lv' := [(3, .int z38), (8, .int z27), (7, .int z21), (6, .int z20), (5, .int z18), (0, .ref h_bd), (1, .int p1), (2, .int p2), (4, .int x4)]) hx hb dX1_has_204 hl (k := 4) rfl (by rw [ez38]; rfl) (by decide) rfl (fun ls hl => ?_)
                refine lv_aload_n hx hb dX1_has_207 rfl (lv_at hl 5 rfl) ?_
                refine va_get (D := (dC, dI)) (ci := 1) (v := .ref h_bnd) (C := RX1) (T := TX1) (N := 13) hx hb hw iwX1 hown hK hP 0 rfl rfl 1 (by decide) (hw _ w_f_X1_9) (fun _ h9 => h9) rfl dX1_has_208 ?_
                refine lv_iload hx hb dX1_has_211 (lv_at hl 1 rfl) ?_
                refine va_iald hx hb hK hP 1 0 rfl rfl (i := z27) (vp_in_iff.mpr (by omega)) dX1_has_213 ?_
                refine lv_topi (fun z39 ez39 => ?_)
                have qz39 : (z39).toInt = (z29).toInt := by rw [ez39, ez29]
                have rz39 : 0 ≤ (z39).toInt ∧ (z39).toInt ≤ 9600 := by rw [ez39]; exact hf_bnd _
                refine lv_iconst (v := 1) hx hb dX1_has_214 (by decide) ?_
                refine lv_isub hx hb dX1_has_215 ?_
                refine lv_topi (fun z40 ez40 => ?_)
                have tz40 : (z40).toInt = (z39).toInt - 1 := by rw [ez40]; exact i_sub rfl (by decide) (by omega)
                refine va_iast hx hb hK hP hD hS 2 1 rfl rfl (i := z16) (x := z40) (vp_in_iff.mpr (by omega)) dX1_has_216 (fun H locs hP9 hD9 hS9 => ?_)
                obtain ⟨f41, ef41⟩ : ∃ g : Nat → Int32, g = upd f5 (Int32.toNatClampNeg z16) z40 := ⟨_, rfl⟩
                clear hP hD hS
                have hP : va_P (dC, dI) cls [(h_bd, .inr (1, (mo17 v_bd (.ref h_td) (.ref h_bnd) (.ref h_hol) (.ref h_see) (.int z1)))), (h_bnd, .inl (cy_bnd, 256, .inl f_bnd)), (h_hol, .inl (cy_hol, 2048, .inl f41)), (h_see, .inl (cy_see, 256, .inl f37)), (h_td, .inr (5, (mo18 v_td (.ref h_var) (.ref h_trm) (.ref h_ter)))), (h_var, .inl (cy_var, 300, .inl f_var)), (h_trm, .inl (cy_trm, 300, .inl f_trm)), (h_ter, .inl (cy_ter, 900, .inl f_ter))] H := by rw [ef41]; exact hP9
                have hD : va_D A [(h_bd, .inr (1, (mo17 v_bd (.ref h_td) (.ref h_bnd) (.ref h_hol) (.ref h_see) (.int z1)))), (h_bnd, .inl (cy_bnd, 256, .inl f_bnd)), (h_hol, .inl (cy_hol, 2048, .inl f41)), (h_see, .inl (cy_see, 256, .inl f37)), (h_td, .inr (5, (mo18 v_td (.ref h_var) (.ref h_trm) (.ref h_ter)))), (h_var, .inl (cy_var, 300, .inl f_var)), (h_trm, .inl (cy_trm, 300, .inl f_trm)), (h_ter, .inl (cy_ter, 900, .inl f_ter))] := by rw [ef41]; exact hD9
                have hS := hS9
                clear hP9 hD9 hS9
                have hf41 : Rg 0 9599 f41 := by rw [ef41]; exact rg_upd hf5 (by omega)
                have hv42 := hsv_into (sen' := f37) (hol' := f41) (x := z40) (fun p9 h9 => (hn_bst.1 p9 h9).2.2.1) hn_cld (((hn_bst.2.1 _ (hsv_at hs9) (by rw [px9]; omega)).1).imp id (fun q9 => by rw [hn_ext _ q9.1]; exact q9.2)) hs9 (by rw [px9]; omega) (by rw [px9]; omega) (by rw [px9]; omega) (by rw [px9, bd9]; omega) (by rw [px9, ← co9, ← ez33]; exact fun e9 => absurd (congrArg Int32.toInt e9) (by omega)) (by rw [px9, bd9]; omega) (by rw [px9, ← co9]; exact ef37) (by rw [← cz9]; exact ef41)
                have sf43 : SFR f37 z1 := sfr_upd klp7_4 ef37
                obtain ⟨z44, ez44⟩ : ∃ y : Int32, y = x4 + 1 := ⟨_, rfl⟩
                have tz44 : (z44).toInt = (x4).toInt + 1 := by rw [ez44]; exact i_add rfl (by decide) (by omega)
                refine lv_iinc (v := z44) (lv' := [(4, .int z44), (3, .int z38), (8, .int z27), (7, .int z21), (6, .int z20), (5, .int z18), (0, .ref h_bd), (1, .int p1), (2, .int p2)]) hx hb dX1_has_217 hl (k := 8) rfl (by rw [ez44]; rfl) (by decide) rfl (fun ls hl => ?_)
                refine lv_goto (tgt := 22) hx hb dX1_has_220 (by decide) ?_
                exact ih8 (z38) (z44) (f41) (f37) _ _ _ (by omega) (by omega) hf41 (hsv_cast hv42 (by omega) (by omega)) sf43 (by omega) hP hD hS (lv_sub hl [6, 7, 8, 1, 0] rfl)
          · have kc28 := (cv_eq (rfl : (z27).toInt = (z27).toInt) (rfl : (p2).toInt = (p2).toInt)).mp c28
            refine lv_iconst (v := 1) hx hb dX1_has_162 (by decide) ?_
            refine W.widen (k := 0) (n := 0) (Nat.le_of_ble_eq_true rfl) (Nat.le_of_ble_eq_true rfl) ?_
            have cst1 : (1 : Int32).toInt = 1 := by decide
            have w45 : 0 ≤ (1 : Int32).toInt ∧ (1 : Int32).toInt ≤ 1 := by omega
            have w46 : ((z1)).toInt = (x_bd_searches).toInt + 1 := by omega
            have w47 : (((1 : Int32)).toInt = 1 ∧ OCC g (BDV f_bnd) (p1).toInt.toNat (p2).toInt.toNat) ∨ (((1 : Int32)).toInt = 0 ∧ ¬ OCC g (BDV f_bnd) (p1).toInt.toNat (p2).toInt.toNat) := (Or.inl ⟨by decide, hsv_yes hs9 (by rw [px9]; omega) (by rw [px9]; omega)⟩)
            have w48 : SFR (f6) (z1) := klp7_4
            exact W.zret (v := 1) (ty := .boolean) hx hb hr (by decide) (fun t ht hW => ⟨⟨1, (z1, f5, f6), rfl, ⟨hf5, w45, w46, w47, w48⟩, by rw [ht]; exact hP, hD⟩, hS.F ht⟩) hS.2.2 dX1_has_163
        · have kc24 := (cv_eq (rfl : (z21).toInt = (z21).toInt) (by decide : ((-1) : Int32).toInt = -1)).mp c24
          refine lv_iconst (v := 0) hx hb dX1_has_88 (by decide) ?_
          refine lv_istore (lv' := [(8, .int 0), (7, .int z21), (6, .int z20), (5, .int z18), (3, .int z16), (0, .ref h_bd), (1, .int p1), (2, .int p2), (4, .int x4)]) hx hb dX1_has_89 hl (by decide) rfl (fun ls hl => ?_)
          obtain ⟨M9, eM9⟩ : ∃ t : Int, t = g.2.2.2.1 X9 := ⟨_, rfl⟩
          have m39 := hf_trm (X9 % 300)
          have gk9 := (hn_gvk X9 (by omega)).1
          rw [← eM9] at gk9
          have hin0 : HIN g f5 f5 N9 X9 0 := hin_zero rfl
          have lp52 : ∀ (n : Nat) (x49 : Int32) (x50 : Int32) (f51 : Nat → Int32) (H : Heap) (locs : List Loc) (ls : Array Slot), (0 ≤ (x49).toInt ∧ (x49).toInt ≤ 2048) → (0 ≤ (x50).toInt ∧ (x50).toInt ≤ 3) → (Rg 0 9599 f51) → ((x49).toInt = N9 + (x50).toInt) → ((x50).toInt ≤ M9) → (HIN g f5 f51 N9 X9 ((x50).toInt)) → (3 - (x50).toInt).toNat + 1 ≤ n → va_P (dC, dI) cls [(h_bd, .inr (1, (mo17 v_bd (.ref h_td) (.ref h_bnd) (.ref h_hol) (.ref h_see) (.int z1)))), (h_bnd, .inl (cy_bnd, 256, .inl f_bnd)), (h_hol, .inl (cy_hol, 2048, .inl f51)), (h_see, .inl (cy_see, 256, .inl f6)), (h_td, .inr (5, (mo18 v_td (.ref h_var) (.ref h_trm) (.ref h_ter)))), (h_var, .inl (cy_var, 300, .inl f_var)), (h_trm, .inl (cy_trm, 300, .inl f_trm)), (h_ter, .inl (cy_ter, 900, .inl f_ter))] H → va_D A [(h_bd, .inr (1, (mo17 v_bd (.ref h_td) (.ref h_bnd) (.ref h_hol) (.ref h_see) (.int z1)))), (h_bnd, .inl (cy_bnd, 256, .inl f_bnd)), (h_hol, .inl (cy_hol, 2048, .inl f51)), (h_see, .inl (cy_see, 256, .inl f6)), (h_td, .inr (5, (mo18 v_td (.ref h_var) (.ref h_trm) (.ref h_ter)))), (h_var, .inl (cy_var, 300, .inl f_var)), (h_trm, .inl (cy_trm, 300, .inl f_trm)), (h_ter, .inl (cy_ter, 900, .inl f_ter))] → va_S A s.heap H locs → lv_has ls 9 [(0, .ref h_bd), (1, .int p1), (2, .int p2), (3, .int x49), (4, .int x4), (5, .int z18), (6, .int z20), (7, .int z21), (8, .int x50)] → W p l e ({ frames := 0, cells := 0, slots := 0, locals := 0 } : Room) s m ([.ref h_bd, .int p1, .int p2] : List Value).toArray below meth c H locs 0 0 (MQ below (va_Qi (fun (r : Int32) (u : (Int32) × (Nat → Int32) × (Nat → Int32)) => (Rg 0 9599 u.2.1) ∧ (0 ≤ r.toInt ∧ r.toInt ≤ 1) ∧ ((u.1).toInt = (x_bd_searches).toInt + 1) ∧ (((r).toInt = 1 ∧ OCC g (BDV f_bnd) (p1).toInt.toNat (p2).toInt.toNat) ∨ ((r).toInt = 0 ∧ ¬ OCC g (BDV f_bnd) (p1).toInt.toNat (p2).toInt.toNat)) ∧ (SFR u.2.2 u.1)) (fun (u : (Int32) × (Nat → Int32) × (Nat → Int32)) (t : State) => va_P (dC, dI) cls [(h_bd, .inr (1, (mo17 v_bd (.ref h_td) (.ref h_bnd) (.ref h_hol) (.ref h_see) (.int u.1)))), (h_bnd, .inl (cy_bnd, 256, .inl f_bnd)), (h_hol, .inl (cy_hol, 2048, .inl u.2.1)), (h_see, .inl (cy_see, 256, .inl u.2.2)), (h_td, .inr (5, (mo18 v_td (.ref h_var) (.ref h_trm) (.ref h_ter)))), (h_var, .inl (cy_var, 300, .inl f_var)), (h_trm, .inl (cy_trm, 300, .inl f_trm)), (h_ter, .inl (cy_ter, 900, .inl f_ter))] t.heap ∧ va_D A [(h_bd, .inr (1, (mo17 v_bd (.ref h_td) (.ref h_bnd) (.ref h_hol) (.ref h_see) (.int u.1)))), (h_bnd, .inl (cy_bnd, 256, .inl f_bnd)), (h_hol, .inl (cy_hol, 2048, .inl u.2.1)), (h_see, .inl (cy_see, 256, .inl u.2.2)), (h_td, .inr (5, (mo18 v_td (.ref h_var) (.ref h_trm) (.ref h_ter)))), (h_var, .inl (cy_var, 300, .inl f_var)), (h_trm, .inl (cy_trm, 300, .inl f_trm)), (h_ter, .inl (cy_ter, 900, .inl f_ter))]) A) ([.ref h_bd, .int p1, .int p2] : List Value).toArray s 0 0 A) (F0 m 91 ls []) := by
            clear hP hD hS hl
            intro n
            induction n with
            | zero => intro x49 x50 f51 H locs ls klp52_0 klp52_1 hf51 klp52_3 klp52_4 klp52_5 hm hP hD hS hl; exact False.elim (by omega)
            | succ n ih => 
              intro x49 x50 f51 H locs ls klp52_0 klp52_1 hf51 klp52_3 klp52_4 klp52_5 hm hP hD hS hl
              have ih53 := ih
              clear ih
              refine lv_iload hx hb dX1_has_91 (lv_at hl 8 rfl) ?_
              refine lv_aload_n hx hb dX1_has_93 rfl (lv_at hl 0 rfl) ?_
              refine va_get (D := (dC, dI)) (ci := 1) (v := .ref h_td) (C := RX1) (T := TX1) (N := 13) hx hb hw iwX1 hown hK hP 0 rfl rfl 0 (by decide) (hw _ w_f_X1_36) (fun _ h9 => h9) rfl dX1_has_94 ?_
              refine va_getN (D := (dC, dI)) (ci := 5) (v := .ref h_trm) (C := RX8) (T := TX8) (N := 10) (host := "OppositePairs") hx hb hw iwX8 hown hK hP 4 rfl rfl 2 (by decide) (hN.use n_f_X1_88 rfl) (fun _ h9 => h9) rfl dX1_has_97 ?_
              refine lv_iload hx hb dX1_has_100 (lv_at hl 5 rfl) ?_
              refine va_iald hx hb hK hP 6 4 rfl rfl (i := z18) (vp_in_iff.mpr (by omega)) dX1_has_102 ?_
              refine lv_topi (fun z54 ez54 => ?_)
              have rz54 : 0 ≤ (z54).toInt ∧ (z54).toInt ≤ 3 := by rw [ez54]; exact hf_trm _
              have tk9 : M9 = (z54).toInt := by rw [eM9, eX9]; exact gvk_at (x := z17) hn_gvk (by omega) (by omega) ez54
              refine lv_icmp_ge (tgt := 139) hx hb dX1_has_103 (by decide) (fun c55 => ?_) (fun c55 => ?_)
              · have kc55 := (cv_le (rfl : (z54).toInt = (z54).toInt) (rfl : (x50).toInt = (x50).toInt)).mp c55
                have hz9 := klp52_5
                have ea9 : M9 = (x50).toInt := by omega
                rw [← ea9] at hz9
                have hv56 := hsv_kids (N := (x49).toInt.toNat) hn_cld hs9 (by rw [px9]; omega) (by rw [px9, ← eM9]; omega) (by rw [px9, ← eM9]; omega) hz9.1 (fun k9 h9 => by rw [px9] at h9 ⊢; exact hz9.2 k9 (by rw [eM9]; exact h9))
                refine lv_goto (tgt := 217) hx hb dX1_has_139 (by decide) ?_
                obtain ⟨z57, ez57⟩ : ∃ y : Int32, y = x4 + 1 := ⟨_, rfl⟩
                have tz57 : (z57).toInt = (x4).toInt + 1 := by rw [ez57]; exact i_add rfl (by decide) (by omega)
                refine lv_iinc (v := z57) (lv' := [(4, .int z57), (0, .ref h_bd), (1, .int p1), (2, .int p2), (3, .int x49), (5, .int z18), (6, .int z20), (7, .int z21), (8, .int x50)]) hx hb dX1_has_217 hl (k := 4) rfl (by rw [ez57]; rfl) (by decide) rfl (fun ls hl => ?_)
                refine lv_goto (tgt := 22) hx hb dX1_has_220 (by decide) ?_
                exact ih8 (x49) (z57) (f51) (f6) _ _ _ (by first | exact klp52_0 | omega) (by omega) hf51 (hsv_cast hv56 (by omega) (by omega)) klp7_4 (by omega) hP hD hS (lv_sub hl [1, 2, 3, 4, 0] rfl)
              · have kc55 := (not_congr (cv_le (rfl : (z54).toInt = (z54).toInt) (rfl : (x50).toInt = (x50).toInt))).mp c55
                refine lv_aload_n hx hb dX1_has_106 rfl (lv_at hl 0 rfl) ?_
                refine va_get (D := (dC, dI)) (ci := 1) (v := .ref h_hol) (C := RX1) (T := TX1) (N := 13) hx hb hw iwX1 hown hK hP 0 rfl rfl 10 (by decide) (hw _ w_f_X1_30) (fun _ h9 => h9) rfl dX1_has_107 ?_
                refine lv_iload_n hx hb dX1_has_110 rfl (lv_at hl 3 rfl) ?_
                obtain ⟨z58, ez58⟩ : ∃ y : Int32, y = x49 + 1 := ⟨_, rfl⟩
                have tz58 : (z58).toInt = (x49).toInt + 1 := by rw [ez58]; exact i_add rfl (by decide) (by omega)
                refine lv_iinc (v := z58) (lv' := [(3, .int z58), (0, .ref h_bd), (1, .int p1), (2, .int p2), (4, .int x4), (5, .int z18), (6, .int z20), (7, .int z21), (8, .int x50)]) hx hb dX1_has_111 hl (k := 3) rfl (by rw [ez58]; rfl) (by decide) rfl (fun ls hl => ?_)
                refine lv_iload hx hb dX1_has_114 (lv_at hl 6 rfl) ?_
                refine lv_aload_n hx hb dX1_has_116 rfl (lv_at hl 1 rfl) ?_
                refine va_get (D := (dC, dI)) (ci := 1) (v := .ref h_td) (C := RX1) (T := TX1) (N := 13) hx hb hw iwX1 hown hK hP 0 rfl rfl 0 (by decide) (hw _ w_f_X1_36) (fun _ h9 => h9) rfl dX1_has_117 ?_
                refine va_getN (D := (dC, dI)) (ci := 5) (v := .ref h_ter) (C := RX8) (T := TX8) (N := 10) (host := "OppositePairs") hx hb hw iwX8 hown hK hP 4 rfl rfl 3 (by decide) (hN.use n_f_X1_91 rfl) (fun _ h9 => h9) rfl dX1_has_120 ?_
                refine lv_iload hx hb dX1_has_123 (lv_at hl 5 rfl) ?_
                refine lv_iconst (v := 3) hx hb dX1_has_125 (by decide) ?_
                refine lv_imul hx hb dX1_has_126 ?_
                refine lv_topi (fun z59 ez59 => ?_)
                have tz59 : (z59).toInt = (z18).toInt * 3 := by rw [ez59]; exact i_mul rfl (by decide) (by omega)
                refine lv_iload hx hb dX1_has_127 (lv_at hl 8 rfl) ?_
                refine lv_iadd hx hb dX1_has_129 ?_
                refine lv_topi (fun z60 ez60 => ?_)
                have tz60 : (z60).toInt = (z59).toInt + (x50).toInt := by rw [ez60]; exact i_add rfl rfl (by omega)
                refine va_iald hx hb hK hP 7 5 rfl rfl (i := z60) (vp_in_iff.mpr (by omega)) dX1_has_130 ?_
                refine lv_topi (fun z61 ez61 => ?_)
                have rz61 : 0 ≤ (z61).toInt ∧ (z61).toInt ≤ 299 := by rw [ez61]; exact hf_ter _
                refine lv_iadd hx hb dX1_has_131 ?_
                refine lv_topi (fun z62 ez62 => ?_)
                have tz62 : (z62).toInt = (z20).toInt + (z61).toInt := by rw [ez62]; exact i_add rfl rfl (by omega)
                refine va_iast hx hb hK hP hD hS 2 1 rfl rfl (i := x49) (x := z62) (vp_in_iff.mpr (by omega)) dX1_has_132 (fun H locs hP9 hD9 hS9 => ?_)
                obtain ⟨f63, ef63⟩ : ∃ g : Nat → Int32, g = upd f51 (Int32.toNatClampNeg x49) z62 := ⟨_, rfl⟩
                clear hP hD hS
                have hP : va_P (dC, dI) cls [(h_bd, .inr (1, (mo17 v_bd (.ref h_td) (.ref h_bnd) (.ref h_hol) (.ref h_see) (.int z1)))), (h_bnd, .inl (cy_bnd, 256, .inl f_bnd)), (h_hol, .inl (cy_hol, 2048, .inl f63)), (h_see, .inl (cy_see, 256, .inl f6)), (h_td, .inr (5, (mo18 v_td (.ref h_var) (.ref h_trm) (.ref h_ter)))), (h_var, .inl (cy_var, 300, .inl f_var)), (h_trm, .inl (cy_trm, 300, .inl f_trm)), (h_ter, .inl (cy_ter, 900, .inl f_ter))] H := by rw [ef63]; exact hP9
                have hD : va_D A [(h_bd, .inr (1, (mo17 v_bd (.ref h_td) (.ref h_bnd) (.ref h_hol) (.ref h_see) (.int z1)))), (h_bnd, .inl (cy_bnd, 256, .inl f_bnd)), (h_hol, .inl (cy_hol, 2048, .inl f63)), (h_see, .inl (cy_see, 256, .inl f6)), (h_td, .inr (5, (mo18 v_td (.ref h_var) (.ref h_trm) (.ref h_ter)))), (h_var, .inl (cy_var, 300, .inl f_var)), (h_trm, .inl (cy_trm, 300, .inl f_trm)), (h_ter, .inl (cy_ter, 900, .inl f_ter))] := by rw [ef63]; exact hD9
                have hS := hS9
                clear hP9 hD9 hS9
                have hf63 : Rg 0 9599 f63 := by rw [ef63]; exact rg_upd hf51 (by omega)
                have ck9 : (z62).toInt = (g.2.2.2.2 X9 (Int.toNat (x50).toInt) : Nat) := by rw [eX9]; exact gvk_ch (x := z17) hn_gvk (by omega) (by omega) (by omega) ez61 (by omega) (by omega)
                have hi64 : HIN g f5 f63 N9 X9 ((x50).toInt + 1) := hin_step klp52_5 (by omega) (by omega) ck9 ef63 rfl
                obtain ⟨z65, ez65⟩ : ∃ y : Int32, y = x50 + 1 := ⟨_, rfl⟩
                have tz65 : (z65).toInt = (x50).toInt + 1 := by rw [ez65]; exact i_add rfl (by decide) (by omega)
                refine lv_iinc (v := z65) (lv' := [(8, .int z65), (3, .int z58), (0, .ref h_bd), (1, .int p1), (2, .int p2), (4, .int x4), (5, .int z18), (6, .int z20), (7, .int z21)]) hx hb dX1_has_133 hl (k := 8) rfl (by rw [ez65]; rfl) (by decide) rfl (fun ls hl => ?_)
                refine lv_goto (tgt := 91) hx hb dX1_has_136 (by decide) ?_
                exact ih53 (z58) (z65) (f63) _ _ _ (by omega) (by omega) hf63 (by omega) (by omega) (by have h9 := hi64; first | exact h9 | exact hin_cast h9 (by omega) | exact hin_cast h9 (by decide)) (by omega) hP hD hS (lv_sub hl [2, 3, 4, 1, 5, 6, 7, 8, 0] rfl)
          have cst0 : (0 : Int32).toInt = 0 := by decide
          exact lp52 _ (z16) (0) (f5) _ _ _ (by omega) (by decide) hf5 (by omega) (by omega) (by have h9 := hin0; first | exact h9 | exact hin_cast h9 (by omega) | exact hin_cast h9 (by decide)) (Nat.le_refl _) hP hD hS (lv_sub hl [5, 6, 7, 4, 8, 3, 2, 1, 0] rfl)
  have cst0 : (0 : Int32).toInt = 0 := by decide
  have cst1 : (1 : Int32).toInt = 1 := by decide
  exact lp7 _ (1) (0) (f2) (f_see) _ _ _ (by decide) (by decide) hf2 (hsv_cast hsv0 (by omega) (by omega)) sfr0 (Nat.le_refl _) hP hD hS (lv_sub hl [2, 3, 4, 1, 0] rfl)

set_option maxHeartbeats 8000000 in
set_option maxRecDepth 100000 in
theorem c_X1_pushTerms_x (l : Launch) (dC : Nat → ClassId) (dI : Nat → Nat → Nat) (sz : Nat) (h_bd : Nat) (h_lef : Nat) (h_rig : Nat) (h_td : Nat) (h_trm : Nat) (h_ter : Nat) (v_bd : Nat → Value) (x_bd_top : Int32) (cy_lef : ClassId) (f_lef : Nat → Int32) (cy_rig : ClassId) (f_rig : Nat → Int32) (v_td : Nat → Value) (cy_trm : ClassId) (f_trm : Nat → Int32) (cy_ter : ClassId) (f_ter : Nat → Int32) (p1 : Int32) (p2 : Int32) (Lo : Int) (Hi : Int) (g : GVT) (hx_bd_top : 0 ≤ (x_bd_top).toInt ∧ (x_bd_top).toInt ≤ 2048) (hf_lef : Rg (-9600) 9599 f_lef) (hf_rig : Rg 0 9599 f_rig) (hf_trm : Rg 0 3 f_trm) (hf_ter : Rg 0 299 f_ter) (q0 : 0 ≤ (p1).toInt ∧ (p1).toInt ≤ 9599) (q1 : 0 ≤ (p2).toInt ∧ (p2).toInt ≤ 9599) (q2 : 0 ≤ Lo ∧ Lo < Hi ∧ Hi ≤ 32) (q3 : 300 * Lo ≤ (p1).toInt ∧ (p1).toInt < 300 * Hi) (q4 : 300 * Lo ≤ (p2).toInt ∧ (p2).toInt < 300 * Hi) (hn_stl : STL Lo Hi (x_bd_top).toInt f_lef) (hn_str : STR Lo Hi (x_bd_top).toInt f_rig) (hn_gvk : GVK g f_trm f_ter) : Met l yX1_pushTerms (Ws yX1_pushTerms cX1_pushTerms 8 (some .boolean)) (({ frames := 0, cells := 0, slots := 0, locals := 0 } : Room)) (PRE (dC, dI) cls [(cy_lef, .int), (cy_rig, .int), (cy_trm, .int), (cy_ter, .int)] [(h_bd, .inr (1, (mo15 v_bd (.ref h_td) (.ref h_lef) (.ref h_rig) (.int x_bd_top)))), (h_lef, .inl (cy_lef, 2048, .inl f_lef)), (h_rig, .inl (cy_rig, 2048, .inl f_rig)), (h_td, .inr (5, (mo16 v_td (.ref h_trm) (.ref h_ter)))), (h_trm, .inl (cy_trm, 300, .inl f_trm)), (h_ter, .inl (cy_ter, 900, .inl f_ter))] sz [.ref h_bd, .int p1, .int p2, .int 1]) (va_Qi (fun (r : Int32) (u : (Int32) × (Nat → Int32) × (Nat → Int32)) => (0 ≤ (u.1).toInt ∧ (u.1).toInt ≤ 2048) ∧ (Rg (-9600) 9599 u.2.1) ∧ (Rg 0 9599 u.2.2) ∧ (0 ≤ r.toInt ∧ r.toInt ≤ 1) ∧ (STL Lo Hi (u.1).toInt u.2.1) ∧ (STR Lo Hi (u.1).toInt u.2.2) ∧ (PSX g (p1).toInt.toNat (p2).toInt.toNat (x_bd_top).toInt.toNat f_lef u.2.1 f_rig u.2.2 (u.1).toInt (r).toInt)) (fun (u : (Int32) × (Nat → Int32) × (Nat → Int32)) (t : State) => va_P (dC, dI) cls [(h_bd, .inr (1, (mo15 v_bd (.ref h_td) (.ref h_lef) (.ref h_rig) (.int u.1)))), (h_lef, .inl (cy_lef, 2048, .inl u.2.1)), (h_rig, .inl (cy_rig, 2048, .inl u.2.2)), (h_td, .inr (5, (mo16 v_td (.ref h_trm) (.ref h_ter)))), (h_trm, .inl (cy_trm, 300, .inl f_trm)), (h_ter, .inl (cy_ter, 900, .inl f_ter))] t.heap ∧ va_D (va_A [(h_bd, .inr (1, (mo15 v_bd (.ref h_td) (.ref h_lef) (.ref h_rig) (.int x_bd_top)))), (h_lef, .inl (cy_lef, 2048, .inl f_lef)), (h_rig, .inl (cy_rig, 2048, .inl f_rig)), (h_td, .inr (5, (mo16 v_td (.ref h_trm) (.ref h_ter)))), (h_trm, .inl (cy_trm, 300, .inl f_trm)), (h_ter, .inl (cy_ter, 900, .inl f_ter))] sz) [(h_bd, .inr (1, (mo15 v_bd (.ref h_td) (.ref h_lef) (.ref h_rig) (.int u.1)))), (h_lef, .inl (cy_lef, 2048, .inl u.2.1)), (h_rig, .inl (cy_rig, 2048, .inl u.2.2)), (h_td, .inr (5, (mo16 v_td (.ref h_trm) (.ref h_ter)))), (h_trm, .inl (cy_trm, 300, .inl f_trm)), (h_ter, .inl (cy_ter, 900, .inl f_ter))]) (va_A [(h_bd, .inr (1, (mo15 v_bd (.ref h_td) (.ref h_lef) (.ref h_rig) (.int x_bd_top)))), (h_lef, .inl (cy_lef, 2048, .inl f_lef)), (h_rig, .inl (cy_rig, 2048, .inl f_rig)), (h_td, .inr (5, (mo16 v_td (.ref h_trm) (.ref h_ter)))), (h_trm, .inl (cy_trm, 300, .inl f_trm)), (h_ter, .inl (cy_ter, 900, .inl f_ter))] sz)) 0 0 (va_A [(h_bd, .inr (1, (mo15 v_bd (.ref h_td) (.ref h_lef) (.ref h_rig) (.int x_bd_top)))), (h_lef, .inl (cy_lef, 2048, .inl f_lef)), (h_rig, .inl (cy_rig, 2048, .inl f_rig)), (h_td, .inr (5, (mo16 v_td (.ref h_trm) (.ref h_ter)))), (h_trm, .inl (cy_trm, 300, .inl f_trm)), (h_ter, .inl (cy_ter, 900, .inl f_ter))] sz) := by
  refine Met.ofW (cc := cX1_pushTerms) (maxL := 8) (ret := (some .boolean)) (by decide) rfl ?_
  intro p e s m args below meth c s₁ B hml hv
  obtain ⟨rfl, hsz, hP, hK, hD0, hN⟩ := hv
  have hx := B.exec
  have hb := B.bytes
  have hr := B.returns
  have hts := atoms_spec (ws := Ws yX1_pushTerms cX1_pushTerms 8 (some .boolean)) B.pre
  have hT : ∀ w ∈ WALL, w ∈ Ws yX1_pushTerms cX1_pushTerms 8 (some .boolean) := fun w h => List.mem_cons_of_mem _ h
  have hw := fun w (h : w ∈ WALL) => hts w (hT w h)
  have hown : s.vm.findClass RX1 = some m.cls := findClass_of_methodNamed B.named
  have hlocks := B.notSynchronized
  subst hsz
  have hD := hD0.self (sz := s.heap.size)
  generalize hAe : va_A [(h_bd, .inr (1, (mo15 v_bd (.ref h_td) (.ref h_lef) (.ref h_rig) (.int x_bd_top)))), (h_lef, .inl (cy_lef, 2048, .inl f_lef)), (h_rig, .inl (cy_rig, 2048, .inl f_rig)), (h_td, .inr (5, (mo16 v_td (.ref h_trm) (.ref h_ter)))), (h_trm, .inl (cy_trm, 300, .inl f_trm)), (h_ter, .inl (cy_ter, 900, .inl f_ter))] s.heap.size = A at hD ⊢
  have hA : ∀ q : Nat, s.heap.size ≤ q → A q := fun q h => by rw [← hAe]; exact Or.inr h
  have hS : va_S A s.heap s.heap [] := va_S.rf
  have hl := lv_entry ([.ref h_bd, .int p1, .int p2, .int 1]) (n := 8) (Nat.le_of_ble_eq_true rfl)
  rw [lg_entry_eq]
  generalize (lg_sl ([.ref h_bd, .int p1, .int p2, .int 1]) ++ List.replicate (8 - (lg_sl ([.ref h_bd, .int p1, .int p2, .int 1])).length) Slot.unset).toArray = ls at hl ⊢
  have hl : lv_has ls 8 [(0, .ref h_bd), (1, .int p1), (2, .int p2), (3, .int 1)] := hl
  refine lv_iload_n hx hb dX1_pushTerms_0 rfl (lv_at hl 1 rfl) ?_
  refine lv_sipush (v := 300) hx hb dX1_pushTerms_1 (by decide) ?_
  refine lv_irem hx hb dX1_pushTerms_4 (by decide) ?_
  refine lv_topi (fun z1 ez1 => ?_)
  have tz1 : (z1).toInt = (p1).toInt % 300 := by rw [ez1]; exact i_rem rfl (by decide) (by omega)
  refine lv_istore (lv' := [(4, .int z1), (0, .ref h_bd), (1, .int p1), (2, .int p2), (3, .int 1)]) hx hb dX1_pushTerms_5 hl (by decide) rfl (fun ls hl => ?_)
  refine lv_iload_n hx hb dX1_pushTerms_7 rfl (lv_at hl 3 rfl) ?_
  refine lv_sipush (v := 300) hx hb dX1_pushTerms_8 (by decide) ?_
  refine lv_irem hx hb dX1_pushTerms_11 (by decide) ?_
  refine lv_topi (fun z2 ez2 => ?_)
  have tz2 : (z2).toInt = (p2).toInt % 300 := by rw [ez2]; exact i_rem rfl (by decide) (by omega)
  refine lv_istore (lv' := [(5, .int z2), (4, .int z1), (0, .ref h_bd), (1, .int p1), (2, .int p2), (3, .int 1)]) hx hb dX1_pushTerms_12 hl (by decide) rfl (fun ls hl => ?_)
  refine lv_aload_n hx hb dX1_pushTerms_14 rfl (lv_at hl 2 rfl) ?_
  refine va_get (D := (dC, dI)) (ci := 1) (v := .ref h_td) (C := RX1) (T := TX1) (N := 13) hx hb hw iwX1 hown hK hP 0 rfl rfl 0 (by decide) (hw _ w_f_X1_36) (fun _ h9 => h9) rfl dX1_pushTerms_15 ?_
  refine va_getN (D := (dC, dI)) (ci := 5) (v := .ref h_trm) (C := RX8) (T := TX8) (N := 10) (host := "OppositePairs") hx hb hw iwX8 hown hK hP 3 rfl rfl 2 (by decide) (hN.use n_f_X1_88 rfl) (fun _ h9 => h9) rfl dX1_pushTerms_18 ?_
  refine lv_iload hx hb dX1_pushTerms_21 (lv_at hl 1 rfl) ?_
  refine va_iald hx hb hK hP 4 2 rfl rfl (i := z1) (vp_in_iff.mpr (by omega)) dX1_pushTerms_23 ?_
  refine lv_topi (fun z3 ez3 => ?_)
  have rz3 : 0 ≤ (z3).toInt ∧ (z3).toInt ≤ 3 := by rw [ez3]; exact hf_trm _
  have ma9 : g.2.2.2.1 (p1).toInt.toNat = (z3).toInt := gvk_at (x := p1) hn_gvk (by omega) (by omega) ez3
  refine lv_istore (lv' := [(6, .int z3), (5, .int z2), (4, .int z1), (0, .ref h_bd), (1, .int p1), (2, .int p2), (3, .int 1)]) hx hb dX1_pushTerms_24 hl (by decide) rfl (fun ls hl => ?_)
  refine lv_aload_n hx hb dX1_pushTerms_26 rfl (lv_at hl 3 rfl) ?_
  refine va_get (D := (dC, dI)) (ci := 1) (v := .int x_bd_top) (C := RX1) (T := TX1) (N := 13) hx hb hw iwX1 hown hK hP 0 rfl rfl 9 (by decide) (hw _ w_f_X1_49) (fun _ h9 => h9) rfl dX1_pushTerms_27 ?_
  refine lv_iload hx hb dX1_pushTerms_30 (lv_at hl 0 rfl) ?_
  refine lv_iadd hx hb dX1_pushTerms_32 ?_
  refine lv_topi (fun z4 ez4 => ?_)
  have tz4 : (z4).toInt = (x_bd_top).toInt + (z3).toInt := by rw [ez4]; exact i_add rfl rfl (by omega)
  refine lv_iconst (v := 1) hx hb dX1_pushTerms_33 (by decide) ?_
  refine lv_iadd hx hb dX1_pushTerms_34 ?_
  refine lv_topi (fun z5 ez5 => ?_)
  have tz5 : (z5).toInt = (z4).toInt + 1 := by rw [ez5]; exact i_add rfl (by decide) (by omega)
  refine lv_sipush (v := 2048) hx hb dX1_pushTerms_35 (by decide) ?_
  refine lv_icmp_le (tgt := 43) hx hb dX1_pushTerms_38 (by decide) (fun c6 => ?_) (fun c6 => ?_)
  · have kc6 := (cv_le (rfl : (z5).toInt = (z5).toInt) (by decide : (2048 : Int32).toInt = 2048)).mp c6
    refine lv_iload_n hx hb dX1_pushTerms_43 rfl (lv_at hl 6 rfl) ?_
    refine lv_if_eq (tgt := 81) hx hb dX1_pushTerms_44 (by decide) (fun c9 => absurd c9 (by decide)) (fun _ => ?_)
    refine lv_iload hx hb dX1_pushTerms_47 (lv_at hl 0 rfl) ?_
    refine lv_if_le (tgt := 81) hx hb dX1_pushTerms_49 (by decide) (fun c7 => ?_) (fun c7 => ?_)
    · have kc7 := (cv_le (rfl : (z3).toInt = (z3).toInt) (by decide : (0 : Int32).toInt = 0)).mp c7
      refine lv_iload hx hb dX1_pushTerms_81 (lv_at hl 0 rfl) ?_
      refine lv_iconst (v := 1) hx hb dX1_pushTerms_83 (by decide) ?_
      refine lv_isub hx hb dX1_pushTerms_84 ?_
      refine lv_topi (fun z8 ez8 => ?_)
      have tz8 : (z8).toInt = (z3).toInt - 1 := by rw [ez8]; exact i_sub rfl (by decide) (by omega)
      refine lv_istore (lv' := [(7, .int z8), (6, .int z3), (5, .int z2), (4, .int z1), (0, .ref h_bd), (1, .int p1), (2, .int p2), (3, .int 1)]) hx hb dX1_pushTerms_85 hl (by decide) rfl (fun ls hl => ?_)
      have ps9 : PSI g (p1).toInt.toNat (p2).toInt.toNat (x_bd_top).toInt.toNat (g.2.2.2.1 (p1).toInt.toNat) (z8).toInt f_lef f_lef f_rig f_rig (x_bd_top).toInt := psi_zero (by omega) (by omega) (by omega)
      have lp14 : ∀ (n : Nat) (x10 : Int32) (x11 : Int32) (f12 : Nat → Int32) (f13 : Nat → Int32) (H : Heap) (locs : List Loc) (ls : Array Slot), (-1 ≤ (x10).toInt ∧ (x10).toInt ≤ 2) → (0 ≤ (x11).toInt ∧ (x11).toInt ≤ 2048) → (Rg (-9600) 9599 f12) → (Rg 0 9599 f13) → ((x11).toInt + (x10).toInt + 1 ≤ 2048) → ((x10).toInt ≤ g.2.2.2.1 (p1).toInt.toNat - 1) → (STL Lo Hi (x11).toInt f12) → (STR Lo Hi (x11).toInt f13) → (PSI g (p1).toInt.toNat (p2).toInt.toNat (x_bd_top).toInt.toNat (g.2.2.2.1 (p1).toInt.toNat) ((x10).toInt) f_lef f12 f_rig f13 (x11).toInt) → ((x10).toInt + 1).toNat + 1 ≤ n → va_P (dC, dI) cls [(h_bd, .inr (1, (mo15 v_bd (.ref h_td) (.ref h_lef) (.ref h_rig) (.int x11)))), (h_lef, .inl (cy_lef, 2048, .inl f12)), (h_rig, .inl (cy_rig, 2048, .inl f13)), (h_td, .inr (5, (mo16 v_td (.ref h_trm) (.ref h_ter)))), (h_trm, .inl (cy_trm, 300, .inl f_trm)), (h_ter, .inl (cy_ter, 900, .inl f_ter))] H → va_D A [(h_bd, .inr (1, (mo15 v_bd (.ref h_td) (.ref h_lef) (.ref h_rig) (.int x11)))), (h_lef, .inl (cy_lef, 2048, .inl f12)), (h_rig, .inl (cy_rig, 2048, .inl f13)), (h_td, .inr (5, (mo16 v_td (.ref h_trm) (.ref h_ter)))), (h_trm, .inl (cy_trm, 300, .inl f_trm)), (h_ter, .inl (cy_ter, 900, .inl f_ter))] → va_S A s.heap H locs → lv_has ls 8 [(0, .ref h_bd), (1, .int p1), (2, .int p2), (3, .int 1), (4, .int z1), (5, .int z2), (6, .int z3), (7, .int x10)] → W p l e ({ frames := 0, cells := 0, slots := 0, locals := 0 } : Room) s m ([.ref h_bd, .int p1, .int p2, .int 1] : List Value).toArray below meth c H locs 0 0 (MQ below (va_Qi (fun (r : Int32) (u : (Int32) × (Nat → Int32) × (Nat → Int32)) => (0 ≤ (u.1).toInt ∧ (u.1).toInt ≤ 2048) ∧ (Rg (-9600) 9599 u.2.1) ∧ (Rg 0 9599 u.2.2) ∧ (0 ≤ r.toInt ∧ r.toInt ≤ 1) ∧ (STL Lo Hi (u.1).toInt u.2.1) ∧ (STR Lo Hi (u.1).toInt u.2.2) ∧ (PSX g (p1).toInt.toNat (p2).toInt.toNat (x_bd_top).toInt.toNat f_lef u.2.1 f_rig u.2.2 (u.1).toInt (r).toInt)) (fun (u : (Int32) × (Nat → Int32) × (Nat → Int32)) (t : State) => va_P (dC, dI) cls [(h_bd, .inr (1, (mo15 v_bd (.ref h_td) (.ref h_lef) (.ref h_rig) (.int u.1)))), (h_lef, .inl (cy_lef, 2048, .inl u.2.1)), (h_rig, .inl (cy_rig, 2048, .inl u.2.2)), (h_td, .inr (5, (mo16 v_td (.ref h_trm) (.ref h_ter)))), (h_trm, .inl (cy_trm, 300, .inl f_trm)), (h_ter, .inl (cy_ter, 900, .inl f_ter))] t.heap ∧ va_D A [(h_bd, .inr (1, (mo15 v_bd (.ref h_td) (.ref h_lef) (.ref h_rig) (.int u.1)))), (h_lef, .inl (cy_lef, 2048, .inl u.2.1)), (h_rig, .inl (cy_rig, 2048, .inl u.2.2)), (h_td, .inr (5, (mo16 v_td (.ref h_trm) (.ref h_ter)))), (h_trm, .inl (cy_trm, 300, .inl f_trm)), (h_ter, .inl (cy_ter, 900, .inl f_ter))]) A) ([.ref h_bd, .int p1, .int p2, .int 1] : List Value).toArray s 0 0 A) (F0 m 87 ls []) := by
        clear hP hD hS hl
        intro n
        induction n with
        | zero => intro x10 x11 f12 f13 H locs ls klp14_0 klp14_1 hf12 hf13 klp14_4 klp14_5 klp14_6 klp14_7 klp14_8 hm hP hD hS hl; exact False.elim (by omega)
        | succ n ih => 
          intro x10 x11 f12 f13 H locs ls klp14_0 klp14_1 hf12 hf13 klp14_4 klp14_5 klp14_6 klp14_7 klp14_8 hm hP hD hS hl
          have ih15 := ih
          clear ih
          refine lv_iload hx hb dX1_pushTerms_87 (lv_at hl 7 rfl) ?_
          refine lv_if_lt (tgt := 163) hx hb dX1_pushTerms_89 (by decide) (fun c16 => ?_) (fun c16 => ?_)
          · have kc16 := (cv_lt (rfl : (x10).toInt = (x10).toInt) (by decide : (0 : Int32).toInt = 0)).mp c16
            refine lv_iconst (v := 1) hx hb dX1_pushTerms_163 (by decide) ?_
            refine W.widen (k := 0) (n := 0) (Nat.le_of_ble_eq_true rfl) (Nat.le_of_ble_eq_true rfl) ?_
            have cst1 : (1 : Int32).toInt = 1 := by decide
            have w17 : 0 ≤ ((x11)).toInt ∧ ((x11)).toInt ≤ 2048 := by first | exact klp14_1 | omega
            have w18 : 0 ≤ (1 : Int32).toInt ∧ (1 : Int32).toInt ≤ 1 := by omega
            have w19 : STL Lo Hi ((x11)).toInt (f12) := (stl_le klp14_6 (by omega))
            have w20 : STR Lo Hi ((x11)).toInt (f13) := (str_le klp14_7 (by omega))
            have w21 : PSX g (p1).toInt.toNat (p2).toInt.toNat (x_bd_top).toInt.toNat f_lef (f12) f_rig (f13) ((x11)).toInt ((1 : Int32)).toInt := (psi_end klp14_8 (by omega) rfl (by omega) (by decide))
            exact W.zret (v := 1) (ty := .boolean) hx hb hr (by decide) (fun t ht hW => ⟨⟨1, (x11, f12, f13), rfl, ⟨w17, hf12, hf13, w18, w19, w20, w21⟩, by rw [ht]; exact hP, hD⟩, hS.F ht⟩) hS.2.2 dX1_pushTerms_164
          · have kc16 := (not_congr (cv_lt (rfl : (x10).toInt = (x10).toInt) (by decide : (0 : Int32).toInt = 0))).mp c16
            refine lv_aload_n hx hb dX1_pushTerms_92 rfl (lv_at hl 0 rfl) ?_
            refine va_get (D := (dC, dI)) (ci := 1) (v := .ref h_lef) (C := RX1) (T := TX1) (N := 13) hx hb hw iwX1 hown hK hP 0 rfl rfl 7 (by decide) (hw _ w_f_X1_24) (fun _ h9 => h9) rfl dX1_pushTerms_93 ?_
            refine lv_aload_n hx hb dX1_pushTerms_96 rfl (lv_at hl 0 rfl) ?_
            refine va_get (D := (dC, dI)) (ci := 1) (v := .int x11) (C := RX1) (T := TX1) (N := 13) hx hb hw iwX1 hown hK hP 0 rfl rfl 9 (by decide) (hw _ w_f_X1_49) (fun _ h9 => h9) rfl dX1_pushTerms_97 ?_
            refine lv_iload_n hx hb dX1_pushTerms_100 rfl (lv_at hl 1 rfl) ?_
            refine lv_iload hx hb dX1_pushTerms_101 (lv_at hl 4 rfl) ?_
            refine lv_isub hx hb dX1_pushTerms_103 ?_
            refine lv_topi (fun z22 ez22 => ?_)
            have tz22 : (z22).toInt = (p1).toInt - (z1).toInt := by rw [ez22]; exact i_sub rfl rfl (by omega)
            have sz22 : 0 ≤ (z22).toInt ∧ (z22).toInt ≤ 9300 := by omega
            refine lv_aload_n hx hb dX1_pushTerms_104 rfl (lv_at hl 0 rfl) ?_
            refine va_get (D := (dC, dI)) (ci := 1) (v := .ref h_td) (C := RX1) (T := TX1) (N := 13) hx hb hw iwX1 hown hK hP 0 rfl rfl 0 (by decide) (hw _ w_f_X1_36) (fun _ h9 => h9) rfl dX1_pushTerms_105 ?_
            refine va_getN (D := (dC, dI)) (ci := 5) (v := .ref h_ter) (C := RX8) (T := TX8) (N := 10) (host := "OppositePairs") hx hb hw iwX8 hown hK hP 3 rfl rfl 3 (by decide) (hN.use n_f_X1_91 rfl) (fun _ h9 => h9) rfl dX1_pushTerms_108 ?_
            refine lv_iload hx hb dX1_pushTerms_111 (lv_at hl 4 rfl) ?_
            refine lv_iconst (v := 3) hx hb dX1_pushTerms_113 (by decide) ?_
            refine lv_imul hx hb dX1_pushTerms_114 ?_
            refine lv_topi (fun z23 ez23 => ?_)
            have tz23 : (z23).toInt = (z1).toInt * 3 := by rw [ez23]; exact i_mul rfl (by decide) (by omega)
            refine lv_iload hx hb dX1_pushTerms_115 (lv_at hl 7 rfl) ?_
            refine lv_iadd hx hb dX1_pushTerms_117 ?_
            refine lv_topi (fun z24 ez24 => ?_)
            have tz24 : (z24).toInt = (z23).toInt + (x10).toInt := by rw [ez24]; exact i_add rfl rfl (by omega)
            refine va_iald hx hb hK hP 5 3 rfl rfl (i := z24) (vp_in_iff.mpr (by omega)) dX1_pushTerms_118 ?_
            refine lv_topi (fun z25 ez25 => ?_)
            have rz25 : 0 ≤ (z25).toInt ∧ (z25).toInt ≤ 299 := by rw [ez25]; exact hf_ter _
            refine lv_iadd hx hb dX1_pushTerms_119 ?_
            refine lv_topi (fun z26 ez26 => ?_)
            have tz26 : (z26).toInt = (z22).toInt + (z25).toInt := by rw [ez26]; exact i_add rfl rfl (by omega)
            refine va_iast hx hb hK hP hD hS 1 0 rfl rfl (i := x11) (x := z26) (vp_in_iff.mpr (by omega)) dX1_pushTerms_120 (fun H locs hP9 hD9 hS9 => ?_)
            obtain ⟨f27, ef27⟩ : ∃ g : Nat → Int32, g = upd f12 (Int32.toNatClampNeg x11) z26 := ⟨_, rfl⟩
            clear hP hD hS
            have hP : va_P (dC, dI) cls [(h_bd, .inr (1, (mo15 v_bd (.ref h_td) (.ref h_lef) (.ref h_rig) (.int x11)))), (h_lef, .inl (cy_lef, 2048, .inl f27)), (h_rig, .inl (cy_rig, 2048, .inl f13)), (h_td, .inr (5, (mo16 v_td (.ref h_trm) (.ref h_ter)))), (h_trm, .inl (cy_trm, 300, .inl f_trm)), (h_ter, .inl (cy_ter, 900, .inl f_ter))] H := by rw [ef27]; exact hP9
            have hD : va_D A [(h_bd, .inr (1, (mo15 v_bd (.ref h_td) (.ref h_lef) (.ref h_rig) (.int x11)))), (h_lef, .inl (cy_lef, 2048, .inl f27)), (h_rig, .inl (cy_rig, 2048, .inl f13)), (h_td, .inr (5, (mo16 v_td (.ref h_trm) (.ref h_ter)))), (h_trm, .inl (cy_trm, 300, .inl f_trm)), (h_ter, .inl (cy_ter, 900, .inl f_ter))] := by rw [ef27]; exact hD9
            have hS := hS9
            clear hP9 hD9 hS9
            have hf27 : Rg (-9600) 9599 f27 := by rw [ef27]; exact rg_upd hf12 (by omega)
            have stl28 := stl_upd (u := (x11).toInt) klp14_6 rfl (by omega) (by omega) ef27 (by omega)
            refine lv_aload_n hx hb dX1_pushTerms_121 rfl (lv_at hl 0 rfl) ?_
            refine va_get (D := (dC, dI)) (ci := 1) (v := .ref h_rig) (C := RX1) (T := TX1) (N := 13) hx hb hw iwX1 hown hK hP 0 rfl rfl 8 (by decide) (hw _ w_f_X1_27) (fun _ h9 => h9) rfl dX1_pushTerms_122 ?_
            refine lv_aload_n hx hb dX1_pushTerms_125 rfl (lv_at hl 0 rfl) ?_
            refine lv_dup hx hb dX1_pushTerms_126 rfl ?_
            refine va_get (D := (dC, dI)) (ci := 1) (v := .int x11) (C := RX1) (T := TX1) (N := 13) hx hb hw iwX1 hown hK hP 0 rfl rfl 9 (by decide) (hw _ w_f_X1_49) (fun _ h9 => h9) rfl dX1_pushTerms_127 ?_
            refine lv_dup_x1 hx hb dX1_pushTerms_130 rfl rfl ?_
            refine lv_iconst (v := 1) hx hb dX1_pushTerms_131 (by decide) ?_
            refine lv_iadd hx hb dX1_pushTerms_132 ?_
            refine lv_topi (fun z29 ez29 => ?_)
            have tz29 : (z29).toInt = (x11).toInt + 1 := by rw [ez29]; exact i_add rfl (by decide) (by omega)
            refine va_put (D := (dC, dI)) (ci := 1) (v := .int z29) (ty := tyX1 9) (C := RX1) (T := TX1) (N := 13) hx hb hw iwX1 tyX1 tyX1_ok nmX1 hown hK hP hD hS 0 rfl rfl 9 (by decide) (hw _ w_f_X1_49) (fun _ h9 => h9) rfl (tyX1_ok 9 (by decide)) rfl rfl (Nat.le_of_ble_eq_true rfl) dX1_pushTerms_133 (fun H locs hP9 hD9 hS9 => ?_)
            clear hP hD hS
            have hP : va_P (dC, dI) cls [(h_bd, .inr (1, (mo15 v_bd (.ref h_td) (.ref h_lef) (.ref h_rig) (.int z29)))), (h_lef, .inl (cy_lef, 2048, .inl f27)), (h_rig, .inl (cy_rig, 2048, .inl f13)), (h_td, .inr (5, (mo16 v_td (.ref h_trm) (.ref h_ter)))), (h_trm, .inl (cy_trm, 300, .inl f_trm)), (h_ter, .inl (cy_ter, 900, .inl f_ter))] H := hP9
            have hD : va_D A [(h_bd, .inr (1, (mo15 v_bd (.ref h_td) (.ref h_lef) (.ref h_rig) (.int z29)))), (h_lef, .inl (cy_lef, 2048, .inl f27)), (h_rig, .inl (cy_rig, 2048, .inl f13)), (h_td, .inr (5, (mo16 v_td (.ref h_trm) (.ref h_ter)))), (h_trm, .inl (cy_trm, 300, .inl f_trm)), (h_ter, .inl (cy_ter, 900, .inl f_ter))] := hD9
            have hS := hS9
            clear hP9 hD9 hS9
            refine lv_iload_n hx hb dX1_pushTerms_136 rfl (lv_at hl 2 rfl) ?_
            refine lv_iload hx hb dX1_pushTerms_137 (lv_at hl 5 rfl) ?_
            refine lv_isub hx hb dX1_pushTerms_139 ?_
            refine lv_topi (fun z30 ez30 => ?_)
            have tz30 : (z30).toInt = (p2).toInt - (z2).toInt := by rw [ez30]; exact i_sub rfl rfl (by omega)
            have sz30 : 0 ≤ (z30).toInt ∧ (z30).toInt ≤ 9300 := by omega
            refine lv_aload_n hx hb dX1_pushTerms_140 rfl (lv_at hl 0 rfl) ?_
            refine va_get (D := (dC, dI)) (ci := 1) (v := .ref h_td) (C := RX1) (T := TX1) (N := 13) hx hb hw iwX1 hown hK hP 0 rfl rfl 0 (by decide) (hw _ w_f_X1_36) (fun _ h9 => h9) rfl dX1_pushTerms_141 ?_
            refine va_getN (D := (dC, dI)) (ci := 5) (v := .ref h_ter) (C := RX8) (T := TX8) (N := 10) (host := "OppositePairs") hx hb hw iwX8 hown hK hP 3 rfl rfl 3 (by decide) (hN.use n_f_X1_91 rfl) (fun _ h9 => h9) rfl dX1_pushTerms_144 ?_
            refine lv_iload hx hb dX1_pushTerms_147 (lv_at hl 5 rfl) ?_
            refine lv_iconst (v := 3) hx hb dX1_pushTerms_149 (by decide) ?_
            refine lv_imul hx hb dX1_pushTerms_150 ?_
            refine lv_topi (fun z31 ez31 => ?_)
            have tz31 : (z31).toInt = (z2).toInt * 3 := by rw [ez31]; exact i_mul rfl (by decide) (by omega)
            refine lv_iload hx hb dX1_pushTerms_151 (lv_at hl 7 rfl) ?_
            refine lv_iadd hx hb dX1_pushTerms_153 ?_
            refine lv_topi (fun z32 ez32 => ?_)
            have tz32 : (z32).toInt = (z31).toInt + (x10).toInt := by rw [ez32]; exact i_add rfl rfl (by omega)
            refine va_iald hx hb hK hP 5 3 rfl rfl (i := z32) (vp_in_iff.mpr (by omega)) dX1_pushTerms_154 ?_
            refine lv_topi (fun z33 ez33 => ?_)
            have rz33 : 0 ≤ (z33).toInt ∧ (z33).toInt ≤ 299 := by rw [ez33]; exact hf_ter _
            refine lv_iadd hx hb dX1_pushTerms_155 ?_
            refine lv_topi (fun z34 ez34 => ?_)
            have tz34 : (z34).toInt = (z30).toInt + (z33).toInt := by rw [ez34]; exact i_add rfl rfl (by omega)
            refine va_iast hx hb hK hP hD hS 2 1 rfl rfl (i := x11) (x := z34) (vp_in_iff.mpr (by omega)) dX1_pushTerms_156 (fun H locs hP9 hD9 hS9 => ?_)
            obtain ⟨f35, ef35⟩ : ∃ g : Nat → Int32, g = upd f13 (Int32.toNatClampNeg x11) z34 := ⟨_, rfl⟩
            clear hP hD hS
            have hP : va_P (dC, dI) cls [(h_bd, .inr (1, (mo15 v_bd (.ref h_td) (.ref h_lef) (.ref h_rig) (.int z29)))), (h_lef, .inl (cy_lef, 2048, .inl f27)), (h_rig, .inl (cy_rig, 2048, .inl f35)), (h_td, .inr (5, (mo16 v_td (.ref h_trm) (.ref h_ter)))), (h_trm, .inl (cy_trm, 300, .inl f_trm)), (h_ter, .inl (cy_ter, 900, .inl f_ter))] H := by rw [ef35]; exact hP9
            have hD : va_D A [(h_bd, .inr (1, (mo15 v_bd (.ref h_td) (.ref h_lef) (.ref h_rig) (.int z29)))), (h_lef, .inl (cy_lef, 2048, .inl f27)), (h_rig, .inl (cy_rig, 2048, .inl f35)), (h_td, .inr (5, (mo16 v_td (.ref h_trm) (.ref h_ter)))), (h_trm, .inl (cy_trm, 300, .inl f_trm)), (h_ter, .inl (cy_ter, 900, .inl f_ter))] := by rw [ef35]; exact hD9
            have hS := hS9
            clear hP9 hD9 hS9
            have hf35 : Rg 0 9599 f35 := by rw [ef35]; exact rg_upd hf13 (by omega)
            have str36 := str_upd (u := (x11).toInt) klp14_7 rfl (by omega) (by omega) ef35 (by omega)
            have ka9 : (z26).toInt = (g.2.2.2.2 (p1).toInt.toNat (Int.toNat (x10).toInt) : Nat) := gvk_ch (x := p1) hn_gvk (by omega) (by omega) (by omega) ez25 (by omega) (by omega)
            have kb9 : (z34).toInt = (g.2.2.2.2 (p2).toInt.toNat (Int.toNat (x10).toInt) : Nat) := gvk_ch (x := p2) hn_gvk (by omega) (by omega) (by omega) ez33 (by omega) (by omega)
            have ps37 : PSI g (p1).toInt.toNat (p2).toInt.toNat (x_bd_top).toInt.toNat (g.2.2.2.1 (p1).toInt.toNat) ((x10).toInt - 1) f_lef f27 f_rig f35 (z29).toInt := psi_step klp14_8 (by omega) (i := x11) (by omega) ka9 kb9 ef27 ef35 rfl (by omega)
            obtain ⟨z38, ez38⟩ : ∃ y : Int32, y = x10 + (-1) := ⟨_, rfl⟩
            have tz38 : (z38).toInt = (x10).toInt + -1 := by rw [ez38]; exact i_add rfl (by decide) (by omega)
            refine lv_iinc (v := z38) (lv' := [(7, .int z38), (0, .ref h_bd), (1, .int p1), (2, .int p2), (3, .int 1), (4, .int z1), (5, .int z2), (6, .int z3)]) hx hb dX1_pushTerms_157 hl (k := 7) rfl (by rw [ez38]; rfl) (by decide) rfl (fun ls hl => ?_)
            refine lv_goto (tgt := 87) hx hb dX1_pushTerms_160 (by decide) ?_
            exact ih15 (z38) (z29) (f27) (f35) _ _ _ (by omega) (by omega) hf27 hf35 (by omega) (by omega) (stl_le stl28 (by omega)) (str_le str36 (by omega)) (by have h9 := ps37; first | exact h9 | exact psi_cast h9 (by omega) (by omega)) (by omega) hP hD hS (lv_sub hl [1, 2, 3, 4, 5, 6, 7, 0] rfl)
      exact lp14 _ (z8) (x_bd_top) (f_lef) (f_rig) _ _ _ (by omega) (by first | exact hx_bd_top | omega) hf_lef hf_rig (by omega) (by omega) (stl_le hn_stl (by omega)) (str_le hn_str (by omega)) (by have h9 := ps9; first | exact h9 | exact psi_cast h9 (by omega) (by omega)) (Nat.le_refl _) hP hD hS (lv_sub hl [4, 5, 6, 7, 3, 2, 1, 0] rfl)
    · have kc7 := (not_congr (cv_le (rfl : (z3).toInt = (z3).toInt) (by decide : (0 : Int32).toInt = 0))).mp c7
      refine lv_aload_n hx hb dX1_pushTerms_52 rfl (lv_at hl 3 rfl) ?_
      refine va_get (D := (dC, dI)) (ci := 1) (v := .ref h_lef) (C := RX1) (T := TX1) (N := 13) hx hb hw iwX1 hown hK hP 0 rfl rfl 7 (by decide) (hw _ w_f_X1_24) (fun _ h9 => h9) rfl dX1_pushTerms_53 ?_
      refine lv_aload_n hx hb dX1_pushTerms_56 rfl (lv_at hl 3 rfl) ?_
      refine va_get (D := (dC, dI)) (ci := 1) (v := .int x_bd_top) (C := RX1) (T := TX1) (N := 13) hx hb hw iwX1 hown hK hP 0 rfl rfl 9 (by decide) (hw _ w_f_X1_49) (fun _ h9 => h9) rfl dX1_pushTerms_57 ?_
      refine lv_iconst (v := (-1)) hx hb dX1_pushTerms_60 (by decide) ?_
      refine lv_iload_n hx hb dX1_pushTerms_61 rfl (lv_at hl 4 rfl) ?_
      refine lv_isub hx hb dX1_pushTerms_62 ?_
      refine lv_topi (fun z39 ez39 => ?_)
      have tz39 : (z39).toInt = -1 - (p1).toInt := by rw [ez39]; exact i_sub (by decide) rfl (by omega)
      refine va_iast hx hb hK hP hD hS 1 0 rfl rfl (i := x_bd_top) (x := z39) (vp_in_iff.mpr (by omega)) dX1_pushTerms_63 (fun H locs hP9 hD9 hS9 => ?_)
      obtain ⟨f40, ef40⟩ : ∃ g : Nat → Int32, g = upd f_lef (Int32.toNatClampNeg x_bd_top) z39 := ⟨_, rfl⟩
      clear hP hD hS
      have hP : va_P (dC, dI) cls [(h_bd, .inr (1, (mo15 v_bd (.ref h_td) (.ref h_lef) (.ref h_rig) (.int x_bd_top)))), (h_lef, .inl (cy_lef, 2048, .inl f40)), (h_rig, .inl (cy_rig, 2048, .inl f_rig)), (h_td, .inr (5, (mo16 v_td (.ref h_trm) (.ref h_ter)))), (h_trm, .inl (cy_trm, 300, .inl f_trm)), (h_ter, .inl (cy_ter, 900, .inl f_ter))] H := by rw [ef40]; exact hP9
      have hD : va_D A [(h_bd, .inr (1, (mo15 v_bd (.ref h_td) (.ref h_lef) (.ref h_rig) (.int x_bd_top)))), (h_lef, .inl (cy_lef, 2048, .inl f40)), (h_rig, .inl (cy_rig, 2048, .inl f_rig)), (h_td, .inr (5, (mo16 v_td (.ref h_trm) (.ref h_ter)))), (h_trm, .inl (cy_trm, 300, .inl f_trm)), (h_ter, .inl (cy_ter, 900, .inl f_ter))] := by rw [ef40]; exact hD9
      have hS := hS9
      clear hP9 hD9 hS9
      have hf40 : Rg (-9600) 9599 f40 := by rw [ef40]; exact rg_upd hf_lef (by omega)
      have stl41 := stl_upd (u := (x_bd_top).toInt) hn_stl rfl (by omega) (by omega) ef40 (by omega)
      refine lv_aload_n hx hb dX1_pushTerms_64 rfl (lv_at hl 3 rfl) ?_
      refine va_get (D := (dC, dI)) (ci := 1) (v := .ref h_rig) (C := RX1) (T := TX1) (N := 13) hx hb hw iwX1 hown hK hP 0 rfl rfl 8 (by decide) (hw _ w_f_X1_27) (fun _ h9 => h9) rfl dX1_pushTerms_65 ?_
      refine lv_aload_n hx hb dX1_pushTerms_68 rfl (lv_at hl 3 rfl) ?_
      refine lv_dup hx hb dX1_pushTerms_69 rfl ?_
      refine va_get (D := (dC, dI)) (ci := 1) (v := .int x_bd_top) (C := RX1) (T := TX1) (N := 13) hx hb hw iwX1 hown hK hP 0 rfl rfl 9 (by decide) (hw _ w_f_X1_49) (fun _ h9 => h9) rfl dX1_pushTerms_70 ?_
      refine lv_dup_x1 hx hb dX1_pushTerms_73 rfl rfl ?_
      refine lv_iconst (v := 1) hx hb dX1_pushTerms_74 (by decide) ?_
      refine lv_iadd hx hb dX1_pushTerms_75 ?_
      refine lv_topi (fun z42 ez42 => ?_)
      have tz42 : (z42).toInt = (x_bd_top).toInt + 1 := by rw [ez42]; exact i_add rfl (by decide) (by omega)
      refine va_put (D := (dC, dI)) (ci := 1) (v := .int z42) (ty := tyX1 9) (C := RX1) (T := TX1) (N := 13) hx hb hw iwX1 tyX1 tyX1_ok nmX1 hown hK hP hD hS 0 rfl rfl 9 (by decide) (hw _ w_f_X1_49) (fun _ h9 => h9) rfl (tyX1_ok 9 (by decide)) rfl rfl (Nat.le_of_ble_eq_true rfl) dX1_pushTerms_76 (fun H locs hP9 hD9 hS9 => ?_)
      clear hP hD hS
      have hP : va_P (dC, dI) cls [(h_bd, .inr (1, (mo15 v_bd (.ref h_td) (.ref h_lef) (.ref h_rig) (.int z42)))), (h_lef, .inl (cy_lef, 2048, .inl f40)), (h_rig, .inl (cy_rig, 2048, .inl f_rig)), (h_td, .inr (5, (mo16 v_td (.ref h_trm) (.ref h_ter)))), (h_trm, .inl (cy_trm, 300, .inl f_trm)), (h_ter, .inl (cy_ter, 900, .inl f_ter))] H := hP9
      have hD : va_D A [(h_bd, .inr (1, (mo15 v_bd (.ref h_td) (.ref h_lef) (.ref h_rig) (.int z42)))), (h_lef, .inl (cy_lef, 2048, .inl f40)), (h_rig, .inl (cy_rig, 2048, .inl f_rig)), (h_td, .inr (5, (mo16 v_td (.ref h_trm) (.ref h_ter)))), (h_trm, .inl (cy_trm, 300, .inl f_trm)), (h_ter, .inl (cy_ter, 900, .inl f_ter))] := hD9
      have hS := hS9
      clear hP9 hD9 hS9
      refine lv_iload_n hx hb dX1_pushTerms_79 rfl (lv_at hl 5 rfl) ?_
      refine va_iast hx hb hK hP hD hS 2 1 rfl rfl (i := x_bd_top) (x := p2) (vp_in_iff.mpr (by omega)) dX1_pushTerms_80 (fun H locs hP9 hD9 hS9 => ?_)
      obtain ⟨f43, ef43⟩ : ∃ g : Nat → Int32, g = upd f_rig (Int32.toNatClampNeg x_bd_top) p2 := ⟨_, rfl⟩
      clear hP hD hS
      have hP : va_P (dC, dI) cls [(h_bd, .inr (1, (mo15 v_bd (.ref h_td) (.ref h_lef) (.ref h_rig) (.int z42)))), (h_lef, .inl (cy_lef, 2048, .inl f40)), (h_rig, .inl (cy_rig, 2048, .inl f43)), (h_td, .inr (5, (mo16 v_td (.ref h_trm) (.ref h_ter)))), (h_trm, .inl (cy_trm, 300, .inl f_trm)), (h_ter, .inl (cy_ter, 900, .inl f_ter))] H := by rw [ef43]; exact hP9
      have hD : va_D A [(h_bd, .inr (1, (mo15 v_bd (.ref h_td) (.ref h_lef) (.ref h_rig) (.int z42)))), (h_lef, .inl (cy_lef, 2048, .inl f40)), (h_rig, .inl (cy_rig, 2048, .inl f43)), (h_td, .inr (5, (mo16 v_td (.ref h_trm) (.ref h_ter)))), (h_trm, .inl (cy_trm, 300, .inl f_trm)), (h_ter, .inl (cy_ter, 900, .inl f_ter))] := by rw [ef43]; exact hD9
      have hS := hS9
      clear hP9 hD9 hS9
      have hf43 : Rg 0 9599 f43 := by rw [ef43]; exact rg_upd hf_rig (by omega)
      have str44 := str_upd (u := (x_bd_top).toInt) hn_str rfl (by omega) (by omega) ef43 (by omega)
      refine lv_iload hx hb dX1_pushTerms_81 (lv_at hl 0 rfl) ?_
      refine lv_iconst (v := 1) hx hb dX1_pushTerms_83 (by decide) ?_
      refine lv_isub hx hb dX1_pushTerms_84 ?_
      refine lv_topi (fun z45 ez45 => ?_)
      have tz45 : (z45).toInt = (z3).toInt - 1 := by rw [ez45]; exact i_sub rfl (by decide) (by omega)
      refine lv_istore (lv' := [(7, .int z45), (6, .int z3), (5, .int z2), (4, .int z1), (0, .ref h_bd), (1, .int p1), (2, .int p2), (3, .int 1)]) hx hb dX1_pushTerms_85 hl (by decide) rfl (fun ls hl => ?_)
      have ps46 : PSI g (p1).toInt.toNat (p2).toInt.toNat (x_bd_top).toInt.toNat (g.2.2.2.1 (p1).toInt.toNat) (z45).toInt f_lef f40 f_rig f43 (z42).toInt := psi_mark (by omega) (by omega) (i := x_bd_top) (by omega) (by omega) (by omega) ef40 ef43 (by omega)
      have lp51 : ∀ (n : Nat) (x47 : Int32) (x48 : Int32) (f49 : Nat → Int32) (f50 : Nat → Int32) (H : Heap) (locs : List Loc) (ls : Array Slot), (-1 ≤ (x47).toInt ∧ (x47).toInt ≤ 2) → (0 ≤ (x48).toInt ∧ (x48).toInt ≤ 2048) → (Rg (-9600) 9599 f49) → (Rg 0 9599 f50) → ((x48).toInt + (x47).toInt + 1 ≤ 2048) → ((x47).toInt ≤ g.2.2.2.1 (p1).toInt.toNat - 1) → (STL Lo Hi (x48).toInt f49) → (STR Lo Hi (x48).toInt f50) → (PSI g (p1).toInt.toNat (p2).toInt.toNat (x_bd_top).toInt.toNat (g.2.2.2.1 (p1).toInt.toNat) ((x47).toInt) f_lef f49 f_rig f50 (x48).toInt) → ((x47).toInt + 1).toNat + 1 ≤ n → va_P (dC, dI) cls [(h_bd, .inr (1, (mo15 v_bd (.ref h_td) (.ref h_lef) (.ref h_rig) (.int x48)))), (h_lef, .inl (cy_lef, 2048, .inl f49)), (h_rig, .inl (cy_rig, 2048, .inl f50)), (h_td, .inr (5, (mo16 v_td (.ref h_trm) (.ref h_ter)))), (h_trm, .inl (cy_trm, 300, .inl f_trm)), (h_ter, .inl (cy_ter, 900, .inl f_ter))] H → va_D A [(h_bd, .inr (1, (mo15 v_bd (.ref h_td) (.ref h_lef) (.ref h_rig) (.int x48)))), (h_lef, .inl (cy_lef, 2048, .inl f49)), (h_rig, .inl (cy_rig, 2048, .inl f50)), (h_td, .inr (5, (mo16 v_td (.ref h_trm) (.ref h_ter)))), (h_trm, .inl (cy_trm, 300, .inl f_trm)), (h_ter, .inl (cy_ter, 900, .inl f_ter))] → va_S A s.heap H locs → lv_has ls 8 [(0, .ref h_bd), (1, .int p1), (2, .int p2), (3, .int 1), (4, .int z1), (5, .int z2), (6, .int z3), (7, .int x47)] → W p l e ({ frames := 0, cells := 0, slots := 0, locals := 0 } : Room) s m ([.ref h_bd, .int p1, .int p2, .int 1] : List Value).toArray below meth c H locs 0 0 (MQ below (va_Qi (fun (r : Int32) (u : (Int32) × (Nat → Int32) × (Nat → Int32)) => (0 ≤ (u.1).toInt ∧ (u.1).toInt ≤ 2048) ∧ (Rg (-9600) 9599 u.2.1) ∧ (Rg 0 9599 u.2.2) ∧ (0 ≤ r.toInt ∧ r.toInt ≤ 1) ∧ (STL Lo Hi (u.1).toInt u.2.1) ∧ (STR Lo Hi (u.1).toInt u.2.2) ∧ (PSX g (p1).toInt.toNat (p2).toInt.toNat (x_bd_top).toInt.toNat f_lef u.2.1 f_rig u.2.2 (u.1).toInt (r).toInt)) (fun (u : (Int32) × (Nat → Int32) × (Nat → Int32)) (t : State) => va_P (dC, dI) cls [(h_bd, .inr (1, (mo15 v_bd (.ref h_td) (.ref h_lef) (.ref h_rig) (.int u.1)))), (h_lef, .inl (cy_lef, 2048, .inl u.2.1)), (h_rig, .inl (cy_rig, 2048, .inl u.2.2)), (h_td, .inr (5, (mo16 v_td (.ref h_trm) (.ref h_ter)))), (h_trm, .inl (cy_trm, 300, .inl f_trm)), (h_ter, .inl (cy_ter, 900, .inl f_ter))] t.heap ∧ va_D A [(h_bd, .inr (1, (mo15 v_bd (.ref h_td) (.ref h_lef) (.ref h_rig) (.int u.1)))), (h_lef, .inl (cy_lef, 2048, .inl u.2.1)), (h_rig, .inl (cy_rig, 2048, .inl u.2.2)), (h_td, .inr (5, (mo16 v_td (.ref h_trm) (.ref h_ter)))), (h_trm, .inl (cy_trm, 300, .inl f_trm)), (h_ter, .inl (cy_ter, 900, .inl f_ter))]) A) ([.ref h_bd, .int p1, .int p2, .int 1] : List Value).toArray s 0 0 A) (F0 m 87 ls []) := by
        clear hP hD hS hl
        intro n
        induction n with
        | zero => intro x47 x48 f49 f50 H locs ls klp51_0 klp51_1 hf49 hf50 klp51_4 klp51_5 klp51_6 klp51_7 klp51_8 hm hP hD hS hl; exact False.elim (by omega)
        | succ n ih => 
          intro x47 x48 f49 f50 H locs ls klp51_0 klp51_1 hf49 hf50 klp51_4 klp51_5 klp51_6 klp51_7 klp51_8 hm hP hD hS hl
          have ih52 := ih
          clear ih
          refine lv_iload hx hb dX1_pushTerms_87 (lv_at hl 7 rfl) ?_
          refine lv_if_lt (tgt := 163) hx hb dX1_pushTerms_89 (by decide) (fun c53 => ?_) (fun c53 => ?_)
          · have kc53 := (cv_lt (rfl : (x47).toInt = (x47).toInt) (by decide : (0 : Int32).toInt = 0)).mp c53
            refine lv_iconst (v := 1) hx hb dX1_pushTerms_163 (by decide) ?_
            refine W.widen (k := 0) (n := 0) (Nat.le_of_ble_eq_true rfl) (Nat.le_of_ble_eq_true rfl) ?_
            have cst1 : (1 : Int32).toInt = 1 := by decide
            have w54 : 0 ≤ ((x48)).toInt ∧ ((x48)).toInt ≤ 2048 := by first | exact klp51_1 | omega
            have w55 : 0 ≤ (1 : Int32).toInt ∧ (1 : Int32).toInt ≤ 1 := by omega
            have w56 : STL Lo Hi ((x48)).toInt (f49) := (stl_le klp51_6 (by omega))
            have w57 : STR Lo Hi ((x48)).toInt (f50) := (str_le klp51_7 (by omega))
            have w58 : PSX g (p1).toInt.toNat (p2).toInt.toNat (x_bd_top).toInt.toNat f_lef (f49) f_rig (f50) ((x48)).toInt ((1 : Int32)).toInt := (psi_end klp51_8 (by omega) rfl (by omega) (by decide))
            exact W.zret (v := 1) (ty := .boolean) hx hb hr (by decide) (fun t ht hW => ⟨⟨1, (x48, f49, f50), rfl, ⟨w54, hf49, hf50, w55, w56, w57, w58⟩, by rw [ht]; exact hP, hD⟩, hS.F ht⟩) hS.2.2 dX1_pushTerms_164
          · have kc53 := (not_congr (cv_lt (rfl : (x47).toInt = (x47).toInt) (by decide : (0 : Int32).toInt = 0))).mp c53
            refine lv_aload_n hx hb dX1_pushTerms_92 rfl (lv_at hl 0 rfl) ?_
            refine va_get (D := (dC, dI)) (ci := 1) (v := .ref h_lef) (C := RX1) (T := TX1) (N := 13) hx hb hw iwX1 hown hK hP 0 rfl rfl 7 (by decide) (hw _ w_f_X1_24) (fun _ h9 => h9) rfl dX1_pushTerms_93 ?_
            refine lv_aload_n hx hb dX1_pushTerms_96 rfl (lv_at hl 0 rfl) ?_
            refine va_get (D := (dC, dI)) (ci := 1) (v := .int x48) (C := RX1) (T := TX1) (N := 13) hx hb hw iwX1 hown hK hP 0 rfl rfl 9 (by decide) (hw _ w_f_X1_49) (fun _ h9 => h9) rfl dX1_pushTerms_97 ?_
            refine lv_iload_n hx hb dX1_pushTerms_100 rfl (lv_at hl 1 rfl) ?_
            refine lv_iload hx hb dX1_pushTerms_101 (lv_at hl 4 rfl) ?_
            refine lv_isub hx hb dX1_pushTerms_103 ?_
            refine lv_topi (fun z59 ez59 => ?_)
            have tz59 : (z59).toInt = (p1).toInt - (z1).toInt := by rw [ez59]; exact i_sub rfl rfl (by omega)
            have sz59 : 0 ≤ (z59).toInt ∧ (z59).toInt ≤ 9300 := by omega
            refine lv_aload_n hx hb dX1_pushTerms_104 rfl (lv_at hl 0 rfl) ?_
            refine va_get (D := (dC, dI)) (ci := 1) (v := .ref h_td) (C := RX1) (T := TX1) (N := 13) hx hb hw iwX1 hown hK hP 0 rfl rfl 0 (by decide) (hw _ w_f_X1_36) (fun _ h9 => h9) rfl dX1_pushTerms_105 ?_
            refine va_getN (D := (dC, dI)) (ci := 5) (v := .ref h_ter) (C := RX8) (T := TX8) (N := 10) (host := "OppositePairs") hx hb hw iwX8 hown hK hP 3 rfl rfl 3 (by decide) (hN.use n_f_X1_91 rfl) (fun _ h9 => h9) rfl dX1_pushTerms_108 ?_
            refine lv_iload hx hb dX1_pushTerms_111 (lv_at hl 4 rfl) ?_
            refine lv_iconst (v := 3) hx hb dX1_pushTerms_113 (by decide) ?_
            refine lv_imul hx hb dX1_pushTerms_114 ?_
            refine lv_topi (fun z60 ez60 => ?_)
            have tz60 : (z60).toInt = (z1).toInt * 3 := by rw [ez60]; exact i_mul rfl (by decide) (by omega)
            refine lv_iload hx hb dX1_pushTerms_115 (lv_at hl 7 rfl) ?_
            refine lv_iadd hx hb dX1_pushTerms_117 ?_
            refine lv_topi (fun z61 ez61 => ?_)
            have tz61 : (z61).toInt = (z60).toInt + (x47).toInt := by rw [ez61]; exact i_add rfl rfl (by omega)
            refine va_iald hx hb hK hP 5 3 rfl rfl (i := z61) (vp_in_iff.mpr (by omega)) dX1_pushTerms_118 ?_
            refine lv_topi (fun z62 ez62 => ?_)
            have rz62 : 0 ≤ (z62).toInt ∧ (z62).toInt ≤ 299 := by rw [ez62]; exact hf_ter _
            refine lv_iadd hx hb dX1_pushTerms_119 ?_
            refine lv_topi (fun z63 ez63 => ?_)
            have tz63 : (z63).toInt = (z59).toInt + (z62).toInt := by rw [ez63]; exact i_add rfl rfl (by omega)
            refine va_iast hx hb hK hP hD hS 1 0 rfl rfl (i := x48) (x := z63) (vp_in_iff.mpr (by omega)) dX1_pushTerms_120 (fun H locs hP9 hD9 hS9 => ?_)
            obtain ⟨f64, ef64⟩ : ∃ g : Nat → Int32, g = upd f49 (Int32.toNatClampNeg x48) z63 := ⟨_, rfl⟩
            clear hP hD hS
            have hP : va_P (dC, dI) cls [(h_bd, .inr (1, (mo15 v_bd (.ref h_td) (.ref h_lef) (.ref h_rig) (.int x48)))), (h_lef, .inl (cy_lef, 2048, .inl f64)), (h_rig, .inl (cy_rig, 2048, .inl f50)), (h_td, .inr (5, (mo16 v_td (.ref h_trm) (.ref h_ter)))), (h_trm, .inl (cy_trm, 300, .inl f_trm)), (h_ter, .inl (cy_ter, 900, .inl f_ter))] H := by rw [ef64]; exact hP9
            have hD : va_D A [(h_bd, .inr (1, (mo15 v_bd (.ref h_td) (.ref h_lef) (.ref h_rig) (.int x48)))), (h_lef, .inl (cy_lef, 2048, .inl f64)), (h_rig, .inl (cy_rig, 2048, .inl f50)), (h_td, .inr (5, (mo16 v_td (.ref h_trm) (.ref h_ter)))), (h_trm, .inl (cy_trm, 300, .inl f_trm)), (h_ter, .inl (cy_ter, 900, .inl f_ter))] := by rw [ef64]; exact hD9
            have hS := hS9
            clear hP9 hD9 hS9
            have hf64 : Rg (-9600) 9599 f64 := by rw [ef64]; exact rg_upd hf49 (by omega)
            have stl65 := stl_upd (u := (x48).toInt) klp51_6 rfl (by omega) (by omega) ef64 (by omega)
            refine lv_aload_n hx hb dX1_pushTerms_121 rfl (lv_at hl 0 rfl) ?_
            refine va_get (D := (dC, dI)) (ci := 1) (v := .ref h_rig) (C := RX1) (T := TX1) (N := 13) hx hb hw iwX1 hown hK hP 0 rfl rfl 8 (by decide) (hw _ w_f_X1_27) (fun _ h9 => h9) rfl dX1_pushTerms_122 ?_
            refine lv_aload_n hx hb dX1_pushTerms_125 rfl (lv_at hl 0 rfl) ?_
            refine lv_dup hx hb dX1_pushTerms_126 rfl ?_
            refine va_get (D := (dC, dI)) (ci := 1) (v := .int x48) (C := RX1) (T := TX1) (N := 13) hx hb hw iwX1 hown hK hP 0 rfl rfl 9 (by decide) (hw _ w_f_X1_49) (fun _ h9 => h9) rfl dX1_pushTerms_127 ?_
            refine lv_dup_x1 hx hb dX1_pushTerms_130 rfl rfl ?_
            refine lv_iconst (v := 1) hx hb dX1_pushTerms_131 (by decide) ?_
            refine lv_iadd hx hb dX1_pushTerms_132 ?_
            refine lv_topi (fun z66 ez66 => ?_)
            have tz66 : (z66).toInt = (x48).toInt + 1 := by rw [ez66]; exact i_add rfl (by decide) (by omega)
            refine va_put (D := (dC, dI)) (ci := 1) (v := .int z66) (ty := tyX1 9) (C := RX1) (T := TX1) (N := 13) hx hb hw iwX1 tyX1 tyX1_ok nmX1 hown hK hP hD hS 0 rfl rfl 9 (by decide) (hw _ w_f_X1_49) (fun _ h9 => h9) rfl (tyX1_ok 9 (by decide)) rfl rfl (Nat.le_of_ble_eq_true rfl) dX1_pushTerms_133 (fun H locs hP9 hD9 hS9 => ?_)
            clear hP hD hS
            have hP : va_P (dC, dI) cls [(h_bd, .inr (1, (mo15 v_bd (.ref h_td) (.ref h_lef) (.ref h_rig) (.int z66)))), (h_lef, .inl (cy_lef, 2048, .inl f64)), (h_rig, .inl (cy_rig, 2048, .inl f50)), (h_td, .inr (5, (mo16 v_td (.ref h_trm) (.ref h_ter)))), (h_trm, .inl (cy_trm, 300, .inl f_trm)), (h_ter, .inl (cy_ter, 900, .inl f_ter))] H := hP9
            have hD : va_D A [(h_bd, .inr (1, (mo15 v_bd (.ref h_td) (.ref h_lef) (.ref h_rig) (.int z66)))), (h_lef, .inl (cy_lef, 2048, .inl f64)), (h_rig, .inl (cy_rig, 2048, .inl f50)), (h_td, .inr (5, (mo16 v_td (.ref h_trm) (.ref h_ter)))), (h_trm, .inl (cy_trm, 300, .inl f_trm)), (h_ter, .inl (cy_ter, 900, .inl f_ter))] := hD9
            have hS := hS9
            clear hP9 hD9 hS9
            refine lv_iload_n hx hb dX1_pushTerms_136 rfl (lv_at hl 2 rfl) ?_
            refine lv_iload hx hb dX1_pushTerms_137 (lv_at hl 5 rfl) ?_
            refine lv_isub hx hb dX1_pushTerms_139 ?_
            refine lv_topi (fun z67 ez67 => ?_)
            have tz67 : (z67).toInt = (p2).toInt - (z2).toInt := by rw [ez67]; exact i_sub rfl rfl (by omega)
            have sz67 : 0 ≤ (z67).toInt ∧ (z67).toInt ≤ 9300 := by omega
            refine lv_aload_n hx hb dX1_pushTerms_140 rfl (lv_at hl 0 rfl) ?_
            refine va_get (D := (dC, dI)) (ci := 1) (v := .ref h_td) (C := RX1) (T := TX1) (N := 13) hx hb hw iwX1 hown hK hP 0 rfl rfl 0 (by decide) (hw _ w_f_X1_36) (fun _ h9 => h9) rfl dX1_pushTerms_141 ?_
            refine va_getN (D := (dC, dI)) (ci := 5) (v := .ref h_ter) (C := RX8) (T := TX8) (N := 10) (host := "OppositePairs") hx hb hw iwX8 hown hK hP 3 rfl rfl 3 (by decide) (hN.use n_f_X1_91 rfl) (fun _ h9 => h9) rfl dX1_pushTerms_144 ?_
            refine lv_iload hx hb dX1_pushTerms_147 (lv_at hl 5 rfl) ?_
            refine lv_iconst (v := 3) hx hb dX1_pushTerms_149 (by decide) ?_
            refine lv_imul hx hb dX1_pushTerms_150 ?_
            refine lv_topi (fun z68 ez68 => ?_)
            have tz68 : (z68).toInt = (z2).toInt * 3 := by rw [ez68]; exact i_mul rfl (by decide) (by omega)
            refine lv_iload hx hb dX1_pushTerms_151 (lv_at hl 7 rfl) ?_
            refine lv_iadd hx hb dX1_pushTerms_153 ?_
            refine lv_topi (fun z69 ez69 => ?_)
            have tz69 : (z69).toInt = (z68).toInt + (x47).toInt := by rw [ez69]; exact i_add rfl rfl (by omega)
            refine va_iald hx hb hK hP 5 3 rfl rfl (i := z69) (vp_in_iff.mpr (by omega)) dX1_pushTerms_154 ?_
            refine lv_topi (fun z70 ez70 => ?_)
            have rz70 : 0 ≤ (z70).toInt ∧ (z70).toInt ≤ 299 := by rw [ez70]; exact hf_ter _
            refine lv_iadd hx hb dX1_pushTerms_155 ?_
            refine lv_topi (fun z71 ez71 => ?_)
            have tz71 : (z71).toInt = (z67).toInt + (z70).toInt := by rw [ez71]; exact i_add rfl rfl (by omega)
            refine va_iast hx hb hK hP hD hS 2 1 rfl rfl (i := x48) (x := z71) (vp_in_iff.mpr (by omega)) dX1_pushTerms_156 (fun H locs hP9 hD9 hS9 => ?_)
            obtain ⟨f72, ef72⟩ : ∃ g : Nat → Int32, g = upd f50 (Int32.toNatClampNeg x48) z71 := ⟨_, rfl⟩
            clear hP hD hS
            have hP : va_P (dC, dI) cls [(h_bd, .inr (1, (mo15 v_bd (.ref h_td) (.ref h_lef) (.ref h_rig) (.int z66)))), (h_lef, .inl (cy_lef, 2048, .inl f64)), (h_rig, .inl (cy_rig, 2048, .inl f72)), (h_td, .inr (5, (mo16 v_td (.ref h_trm) (.ref h_ter)))), (h_trm, .inl (cy_trm, 300, .inl f_trm)), (h_ter, .inl (cy_ter, 900, .inl f_ter))] H := by rw [ef72]; exact hP9
            have hD : va_D A [(h_bd, .inr (1, (mo15 v_bd (.ref h_td) (.ref h_lef) (.ref h_rig) (.int z66)))), (h_lef, .inl (cy_lef, 2048, .inl f64)), (h_rig, .inl (cy_rig, 2048, .inl f72)), (h_td, .inr (5, (mo16 v_td (.ref h_trm) (.ref h_ter)))), (h_trm, .inl (cy_trm, 300, .inl f_trm)), (h_ter, .inl (cy_ter, 900, .inl f_ter))] := by rw [ef72]; exact hD9
            have hS := hS9
            clear hP9 hD9 hS9
            have hf72 : Rg 0 9599 f72 := by rw [ef72]; exact rg_upd hf50 (by omega)
            have str73 := str_upd (u := (x48).toInt) klp51_7 rfl (by omega) (by omega) ef72 (by omega)
            have ka9 : (z63).toInt = (g.2.2.2.2 (p1).toInt.toNat (Int.toNat (x47).toInt) : Nat) := gvk_ch (x := p1) hn_gvk (by omega) (by omega) (by omega) ez62 (by omega) (by omega)
            have kb9 : (z71).toInt = (g.2.2.2.2 (p2).toInt.toNat (Int.toNat (x47).toInt) : Nat) := gvk_ch (x := p2) hn_gvk (by omega) (by omega) (by omega) ez70 (by omega) (by omega)
            have ps74 : PSI g (p1).toInt.toNat (p2).toInt.toNat (x_bd_top).toInt.toNat (g.2.2.2.1 (p1).toInt.toNat) ((x47).toInt - 1) f_lef f64 f_rig f72 (z66).toInt := psi_step klp51_8 (by omega) (i := x48) (by omega) ka9 kb9 ef64 ef72 rfl (by omega)
            obtain ⟨z75, ez75⟩ : ∃ y : Int32, y = x47 + (-1) := ⟨_, rfl⟩
            have tz75 : (z75).toInt = (x47).toInt + -1 := by rw [ez75]; exact i_add rfl (by decide) (by omega)
            refine lv_iinc (v := z75) (lv' := [(7, .int z75), (0, .ref h_bd), (1, .int p1), (2, .int p2), (3, .int 1), (4, .int z1), (5, .int z2), (6, .int z3)]) hx hb dX1_pushTerms_157 hl (k := 7) rfl (by rw [ez75]; rfl) (by decide) rfl (fun ls hl => ?_)
            refine lv_goto (tgt := 87) hx hb dX1_pushTerms_160 (by decide) ?_
            exact ih52 (z75) (z66) (f64) (f72) _ _ _ (by omega) (by omega) hf64 hf72 (by omega) (by omega) (stl_le stl65 (by omega)) (str_le str73 (by omega)) (by have h9 := ps74; first | exact h9 | exact psi_cast h9 (by omega) (by omega)) (by omega) hP hD hS (lv_sub hl [1, 2, 3, 4, 5, 6, 7, 0] rfl)
      exact lp51 _ (z45) (z42) (f40) (f43) _ _ _ (by omega) (by omega) hf40 hf43 (by omega) (by omega) (stl_le stl41 (by omega)) (str_le str44 (by omega)) (by have h9 := ps46; first | exact h9 | exact psi_cast h9 (by omega) (by omega)) (Nat.le_refl _) hP hD hS (lv_sub hl [4, 5, 6, 7, 3, 2, 1, 0] rfl)
  · have kc6 := (not_congr (cv_le (rfl : (z5).toInt = (z5).toInt) (by decide : (2048 : Int32).toInt = 2048))).mp c6
    refine lv_iconst (v := 0) hx hb dX1_pushTerms_41 (by decide) ?_
    refine W.widen (k := 0) (n := 0) (Nat.le_of_ble_eq_true rfl) (Nat.le_of_ble_eq_true rfl) ?_
    have cst0 : (0 : Int32).toInt = 0 := by decide
    have w76 : 0 ≤ ((x_bd_top)).toInt ∧ ((x_bd_top)).toInt ≤ 2048 := by first | exact hx_bd_top | omega
    have w77 : 0 ≤ (0 : Int32).toInt ∧ (0 : Int32).toInt ≤ 1 := by omega
    have w78 : STL Lo Hi ((x_bd_top)).toInt (f_lef) := (stl_le hn_stl (by omega))
    have w79 : STR Lo Hi ((x_bd_top)).toInt (f_rig) := (str_le hn_str (by omega))
    have w80 : PSX g (p1).toInt.toNat (p2).toInt.toNat (x_bd_top).toInt.toNat f_lef (f_lef) f_rig (f_rig) ((x_bd_top)).toInt ((0 : Int32)).toInt := (Or.inl ⟨by decide, by omega⟩)
    exact W.zret (v := 0) (ty := .boolean) hx hb hr (by decide) (fun t ht hW => ⟨⟨0, (x_bd_top, f_lef, f_rig), rfl, ⟨w76, hf_lef, hf_rig, w77, w78, w79, w80⟩, by rw [ht]; exact hP, hD⟩, hS.F ht⟩) hS.2.2 dX1_pushTerms_42

set_option maxHeartbeats 8000000 in
set_option maxRecDepth 100000 in
theorem c_X8_haveLikeNames_x (l : Launch) (dC : Nat → ClassId) (dI : Nat → Nat → Nat) (sz : Nat) (h_td : Nat) (h_nam : Nat) (h_trm : Nat) (v_td : Nat → Value) (cy_nam : ClassId) (f_nam : Nat → Int64) (cy_trm : ClassId) (f_trm : Nat → Int32) (p1 : Int32) (p2 : Int32) (hf_trm : Rg 0 3 f_trm) (q0 : 0 ≤ (p1).toInt ∧ (p1).toInt ≤ 299) (q1 : 0 ≤ (p2).toInt ∧ (p2).toInt ≤ 299) : Met l yX8_haveLikeNames (Ws yX8_haveLikeNames cX8_haveLikeNames 3 (some .boolean)) (({ frames := 0, cells := 0, slots := 0, locals := 0 } : Room)) (PRE (dC, dI) cls [(cy_nam, .long), (cy_trm, .int)] [(h_td, .inr (5, (mo4 v_td (.ref h_nam) (.ref h_trm)))), (h_nam, .inl (cy_nam, 300, .inr (.inl f_nam))), (h_trm, .inl (cy_trm, 300, .inl f_trm))] sz [.ref h_td, .int p1, .int p2]) (va_Qi (fun (r : Int32) (_ : Unit) => ((r = 1 ∧ ((f_nam (Int32.toNatClampNeg p1)).toInt = (f_nam (Int32.toNatClampNeg p2)).toInt) ∧ ((f_trm (Int32.toNatClampNeg p1)).toInt = (f_trm (Int32.toNatClampNeg p2)).toInt)) ∨ (r = 0 ∧ (¬ ((f_nam (Int32.toNatClampNeg p1)).toInt = (f_nam (Int32.toNatClampNeg p2)).toInt ∧ (f_trm (Int32.toNatClampNeg p1)).toInt = (f_trm (Int32.toNatClampNeg p2)).toInt))))) (fun (_ : Unit) (t : State) => va_P (dC, dI) cls [(h_td, .inr (5, (mo4 v_td (.ref h_nam) (.ref h_trm)))), (h_nam, .inl (cy_nam, 300, .inr (.inl f_nam))), (h_trm, .inl (cy_trm, 300, .inl f_trm))] t.heap ∧ va_D (va_A [(h_td, .inr (5, (mo4 v_td (.ref h_nam) (.ref h_trm)))), (h_nam, .inl (cy_nam, 300, .inr (.inl f_nam))), (h_trm, .inl (cy_trm, 300, .inl f_trm))] sz) [(h_td, .inr (5, (mo4 v_td (.ref h_nam) (.ref h_trm)))), (h_nam, .inl (cy_nam, 300, .inr (.inl f_nam))), (h_trm, .inl (cy_trm, 300, .inl f_trm))]) (va_A [(h_td, .inr (5, (mo4 v_td (.ref h_nam) (.ref h_trm)))), (h_nam, .inl (cy_nam, 300, .inr (.inl f_nam))), (h_trm, .inl (cy_trm, 300, .inl f_trm))] sz)) 0 0 (va_A [(h_td, .inr (5, (mo4 v_td (.ref h_nam) (.ref h_trm)))), (h_nam, .inl (cy_nam, 300, .inr (.inl f_nam))), (h_trm, .inl (cy_trm, 300, .inl f_trm))] sz) := by
  refine Met.ofW (cc := cX8_haveLikeNames) (maxL := 3) (ret := (some .boolean)) (by decide) rfl ?_
  intro p e s m args below meth c s₁ B hml hv
  obtain ⟨rfl, hsz, hP, hK, hD0, hN⟩ := hv
  have hx := B.exec
  have hb := B.bytes
  have hr := B.returns
  have hts := atoms_spec (ws := Ws yX8_haveLikeNames cX8_haveLikeNames 3 (some .boolean)) B.pre
  have hT : ∀ w ∈ WALL, w ∈ Ws yX8_haveLikeNames cX8_haveLikeNames 3 (some .boolean) := fun w h => List.mem_cons_of_mem _ h
  have hw := fun w (h : w ∈ WALL) => hts w (hT w h)
  have hown : s.vm.findClass RX8 = some m.cls := findClass_of_methodNamed B.named
  have hlocks := B.notSynchronized
  subst hsz
  have hD := hD0.self (sz := s.heap.size)
  generalize hAe : va_A [(h_td, .inr (5, (mo4 v_td (.ref h_nam) (.ref h_trm)))), (h_nam, .inl (cy_nam, 300, .inr (.inl f_nam))), (h_trm, .inl (cy_trm, 300, .inl f_trm))] s.heap.size = A at hD ⊢
  have hA : ∀ q : Nat, s.heap.size ≤ q → A q := fun q h => by rw [← hAe]; exact Or.inr h
  have hS : va_S A s.heap s.heap [] := va_S.rf
  have hl := lv_entry ([.ref h_td, .int p1, .int p2]) (n := 3) (Nat.le_of_ble_eq_true rfl)
  rw [lg_entry_eq]
  generalize (lg_sl ([.ref h_td, .int p1, .int p2]) ++ List.replicate (3 - (lg_sl ([.ref h_td, .int p1, .int p2])).length) Slot.unset).toArray = ls at hl ⊢
  have hl : lv_has ls 3 [(0, .ref h_td), (1, .int p1), (2, .int p2)] := hl
  refine lv_aload_n hx hb dX8_haveLikeNames_0 rfl (lv_at hl 0 rfl) ?_
  refine va_get (D := (dC, dI)) (ci := 5) (v := .ref h_nam) (C := RX8) (T := TX8) (N := 10) hx hb hw iwX8 hown hK hP 0 rfl rfl 0 (by decide) (hw _ w_f_X8_9) (fun _ h9 => h9) rfl dX8_haveLikeNames_1 ?_
  refine lv_iload_n hx hb dX8_haveLikeNames_4 rfl (lv_at hl 1 rfl) ?_
  refine va_lald hx hb hK hP 1 0 rfl rfl (i := p1) (vp_in_iff.mpr (by omega)) dX8_haveLikeNames_5 ?_
  refine lv_topl (fun z1 ez1 => ?_)
  have nlz1 : (f_nam (Int32.toNatClampNeg p1)).toInt = (z1).toInt := by rw [ez1]
  refine lv_aload_n hx hb dX8_haveLikeNames_6 rfl (lv_at hl 0 rfl) ?_
  refine va_get (D := (dC, dI)) (ci := 5) (v := .ref h_nam) (C := RX8) (T := TX8) (N := 10) hx hb hw iwX8 hown hK hP 0 rfl rfl 0 (by decide) (hw _ w_f_X8_9) (fun _ h9 => h9) rfl dX8_haveLikeNames_7 ?_
  refine lv_iload_n hx hb dX8_haveLikeNames_10 rfl (lv_at hl 2 rfl) ?_
  refine va_lald hx hb hK hP 1 0 rfl rfl (i := p2) (vp_in_iff.mpr (by omega)) dX8_haveLikeNames_11 ?_
  refine lv_topl (fun z2 ez2 => ?_)
  have nlz2 : (f_nam (Int32.toNatClampNeg p2)).toInt = (z2).toInt := by rw [ez2]
  refine W.lcmp hx hb dX8_haveLikeNames_12 ?_
  refine lv_topi (fun z3 ez3 => ?_)
  have gz3 := lgc z1 z2
  rw [← ez3] at gz3
  refine lv_if_ne (tgt := 35) hx hb dX8_haveLikeNames_13 (by decide) (fun c4 => ?_) (fun c4 => ?_)
  · have kc4 := (not_congr (cv_eq (rfl : (z3).toInt = (z3).toInt) (by decide : (0 : Int32).toInt = 0))).mp c4
    refine lv_iconst (v := 0) hx hb dX8_haveLikeNames_35 (by decide) ?_
    refine W.widen (k := 0) (n := 0) (Nat.le_of_ble_eq_true rfl) (Nat.le_of_ble_eq_true rfl) ?_
    have cst0 : (0 : Int32).toInt = 0 := by decide
    have : ¬ ((f_nam (Int32.toNatClampNeg p1)).toInt = (f_nam (Int32.toNatClampNeg p2)).toInt ∧ (f_trm (Int32.toNatClampNeg p1)).toInt = (f_trm (Int32.toNatClampNeg p2)).toInt) := by omega
    exact W.zret (v := 0) (ty := .boolean) hx hb hr (by decide) (fun t ht hW => ⟨⟨0, (), rfl, (Or.inr (⟨rfl, by assumption⟩)), by rw [ht]; exact hP, hD⟩, hS.F ht⟩) hS.2.2 dX8_haveLikeNames_36
  · have kc4 := (cv_eq (rfl : (z3).toInt = (z3).toInt) (by decide : (0 : Int32).toInt = 0)).mp c4
    refine lv_aload_n hx hb dX8_haveLikeNames_16 rfl (lv_at hl 0 rfl) ?_
    refine va_get (D := (dC, dI)) (ci := 5) (v := .ref h_trm) (C := RX8) (T := TX8) (N := 10) hx hb hw iwX8 hown hK hP 0 rfl rfl 2 (by decide) (hw _ w_f_X8_19) (fun _ h9 => h9) rfl dX8_haveLikeNames_17 ?_
    refine lv_iload_n hx hb dX8_haveLikeNames_20 rfl (lv_at hl 1 rfl) ?_
    refine va_iald hx hb hK hP 2 1 rfl rfl (i := p1) (vp_in_iff.mpr (by omega)) dX8_haveLikeNames_21 ?_
    refine lv_topi (fun z6 ez6 => ?_)
    have rz6 : 0 ≤ (z6).toInt ∧ (z6).toInt ≤ 3 := by rw [ez6]; exact hf_trm _
    have nlz6 : (f_trm (Int32.toNatClampNeg p1)).toInt = (z6).toInt := by rw [ez6]
    refine lv_aload_n hx hb dX8_haveLikeNames_22 rfl (lv_at hl 0 rfl) ?_
    refine va_get (D := (dC, dI)) (ci := 5) (v := .ref h_trm) (C := RX8) (T := TX8) (N := 10) hx hb hw iwX8 hown hK hP 0 rfl rfl 2 (by decide) (hw _ w_f_X8_19) (fun _ h9 => h9) rfl dX8_haveLikeNames_23 ?_
    refine lv_iload_n hx hb dX8_haveLikeNames_26 rfl (lv_at hl 2 rfl) ?_
    refine va_iald hx hb hK hP 2 1 rfl rfl (i := p2) (vp_in_iff.mpr (by omega)) dX8_haveLikeNames_27 ?_
    refine lv_topi (fun z7 ez7 => ?_)
    have rz7 : 0 ≤ (z7).toInt ∧ (z7).toInt ≤ 3 := by rw [ez7]; exact hf_trm _
    have nlz7 : (f_trm (Int32.toNatClampNeg p2)).toInt = (z7).toInt := by rw [ez7]
    refine lv_icmp_ne (tgt := 35) hx hb dX8_haveLikeNames_28 (by decide) (fun c8 => ?_) (fun c8 => ?_)
    · have kc8 := (not_congr (cv_eq (rfl : (z6).toInt = (z6).toInt) (rfl : (z7).toInt = (z7).toInt))).mp c8
      refine lv_iconst (v := 0) hx hb dX8_haveLikeNames_35 (by decide) ?_
      refine W.widen (k := 0) (n := 0) (Nat.le_of_ble_eq_true rfl) (Nat.le_of_ble_eq_true rfl) ?_
      have cst0 : (0 : Int32).toInt = 0 := by decide
      have : ¬ ((f_nam (Int32.toNatClampNeg p1)).toInt = (f_nam (Int32.toNatClampNeg p2)).toInt ∧ (f_trm (Int32.toNatClampNeg p1)).toInt = (f_trm (Int32.toNatClampNeg p2)).toInt) := by omega
      exact W.zret (v := 0) (ty := .boolean) hx hb hr (by decide) (fun t ht hW => ⟨⟨0, (), rfl, (Or.inr (⟨rfl, by assumption⟩)), by rw [ht]; exact hP, hD⟩, hS.F ht⟩) hS.2.2 dX8_haveLikeNames_36
    · have kc8 := (cv_eq (rfl : (z6).toInt = (z6).toInt) (rfl : (z7).toInt = (z7).toInt)).mp c8
      refine lv_iconst (v := 1) hx hb dX8_haveLikeNames_31 (by decide) ?_
      refine lv_goto (tgt := 36) hx hb dX8_haveLikeNames_32 (by decide) ?_
      refine W.widen (k := 0) (n := 0) (Nat.le_of_ble_eq_true rfl) (Nat.le_of_ble_eq_true rfl) ?_
      have cst1 : (1 : Int32).toInt = 1 := by decide
      have : (f_nam (Int32.toNatClampNeg p1)).toInt = (f_nam (Int32.toNatClampNeg p2)).toInt := by omega
      have : (f_trm (Int32.toNatClampNeg p1)).toInt = (f_trm (Int32.toNatClampNeg p2)).toInt := by omega
      exact W.zret (v := 1) (ty := .boolean) hx hb hr (by decide) (fun t ht hW => ⟨⟨1, (), rfl, (Or.inl (⟨rfl, by assumption, by assumption⟩)), by rw [ht]; exact hP, hD⟩, hS.F ht⟩) hS.2.2 dX8_haveLikeNames_36

