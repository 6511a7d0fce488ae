set_option maxHeartbeats 8000000 in
set_option maxRecDepth 100000 in
theorem c_X11_readsParts_0 (l : Launch) (dC : Nat → ClassId) (dI : Nat → Nat → Nat) (sz : Nat) (h_mm : Nat) (h_tap : Nat) (h_nv : Nat) (h_nn : Nat) (h_na : Nat) (h_nb : Nat) (h_nc : Nat) (h_vrs : Nat) (h_let : Nat) (v_mm : Nat → Value) (x_mm_nodes : Int32) (x_mm_taped : Int32) (x_mm_at : Int32) (x_mm_place : Int32) (x_mm_kind : Int32) (x_mm_sign : Int32) (x_mm_name : Int64) (x_mm_isFaulty : Int32) (x_mm_fault : Int32) (x_mm_faultPlace : Int32) (x_mm_reading : Int32) (cy_tap : ClassId) (f_tap : Nat → Int32) (cy_nv : ClassId) (f_nv : Nat → Int32) (cy_nn : ClassId) (f_nn : Nat → Int64) (cy_na : ClassId) (f_na : Nat → Int32) (cy_nb : ClassId) (f_nb : Nat → Int32) (cy_nc : ClassId) (f_nc : Nat → Int32) (cy_vrs : ClassId) (f_vrs : Nat → Int32) (cy_let : ClassId) (f_let : Nat → Int32) (p1 : Int32) (lo : Int) (hh : Nat → Nat) (za : Nat → Int32) (zb : Nat → Int32) (zc : Nat → Int32) (zv : Nat → Int32) (G : Int → Int) (nv : Int) (vf : Int → Int) (hx_mm_nodes : 0 ≤ (x_mm_nodes).toInt ∧ (x_mm_nodes).toInt ≤ 1200) (hx_mm_taped : 0 ≤ (x_mm_taped).toInt ∧ (x_mm_taped).toInt ≤ 600) (hx_mm_at : 0 ≤ (x_mm_at).toInt ∧ (x_mm_at).toInt ≤ 600) (hx_mm_place : 0 ≤ (x_mm_place).toInt ∧ (x_mm_place).toInt ≤ 600) (hx_mm_kind : 0 ≤ (x_mm_kind).toInt ∧ (x_mm_kind).toInt ≤ 4) (hx_mm_isFaulty : 0 ≤ (x_mm_isFaulty).toInt ∧ (x_mm_isFaulty).toInt ≤ 1) (hx_mm_reading : 16 ≤ (x_mm_reading).toInt ∧ (x_mm_reading).toInt ≤ 31) (hf_nv : Rg (-1) 7 f_nv) (hf_na : Rg (-1) 7999 f_na) (hf_nb : Rg (-1) 7999 f_nb) (hf_nc : Rg (-1) 7999 f_nc) (hf_vrs : Rg 0 8 f_vrs) (q0 : (x_mm_place).toInt ≤ (x_mm_at).toInt) (q1 : 0 ≤ (x_mm_at).toInt) (q2 : (x_mm_isFaulty).toInt = 1 ∨ (x_mm_nodes).toInt ≤ lo + (x_mm_place).toInt) (q3 : 0 ≤ lo ∧ lo ≤ (x_mm_nodes).toInt ∧ lo ≤ 600) (q4 : 0 ≤ (p1).toInt ∧ (p1).toInt ≤ 1199) (q5 : lo ≤ (p1).toInt) (q6 : (p1).toInt < (x_mm_nodes).toInt) (q7 : hh (p1).toInt.toNat = 7) (q8 : (x_mm_kind).toInt = kd (tkT G (x_mm_taped).toInt (x_mm_place).toInt)) (q9 : (x_mm_kind).toInt = 0 ∨ ((x_mm_at).toInt = tkX G (x_mm_taped).toInt (x_mm_place).toInt ∧ (x_mm_sign).toInt = G (x_mm_place).toInt ∧ (x_mm_place).toInt < (x_mm_taped).toInt ∧ (x_mm_place).toInt + 1 ≤ (x_mm_at).toInt)) (q10 : (x_mm_at).toInt ≤ (x_mm_taped).toInt) (q11 : (x_mm_place).toInt ≤ (x_mm_taped).toInt) (q12 : 0 ≤ (x_mm_isFaulty).toInt ∧ (x_mm_isFaulty).toInt ≤ 0) (q13 : 0 ≤ nv ∧ nv ≤ 8) (hn_nd0 : EQ0 lo za zb zc zv f_na f_nb f_nc f_nv) (hn_nd : ND lo (x_mm_nodes).toInt hh f_na f_nb f_nc) (hn_tapq : TAP G (x_mm_taped).toInt f_tap) (hn_nvq : (f_vrs (Int32.toNatClampNeg x_mm_reading)).toInt = nv) (hn_vfm : VFM nv vf f_let (x_mm_reading).toInt) : Met l yX11_readsParts (Ws yX11_readsParts cX11_readsParts 2 none) (({ frames := 15, cells := 0, slots := 0, locals := 321 } : Room)) (PRE (dC, dI) cls [(cy_tap, .byte), (cy_nv, .int), (cy_nn, .long), (cy_na, .int), (cy_nb, .int), (cy_nc, .int), (cy_vrs, .int), (cy_let, .int)] [(h_mm, .inr (8, (mo126 v_mm (.ref h_nv) (.ref h_nn) (.ref h_na) (.ref h_nb) (.ref h_nc) (.int x_mm_nodes) (.ref h_vrs) (.ref h_let) (.ref h_tap) (.int x_mm_taped) (.int x_mm_at) (.int x_mm_place) (.int x_mm_kind) (.int x_mm_sign) (.long x_mm_name) (.int x_mm_isFaulty) (.int x_mm_fault) (.int x_mm_faultPlace) (.int 0) (.int x_mm_reading)))), (h_tap, .inl (cy_tap, 600, .inl f_tap)), (h_nv, .inl (cy_nv, 8000, .inl f_nv)), (h_nn, .inl (cy_nn, 8000, .inr (.inl f_nn))), (h_na, .inl (cy_na, 8000, .inl f_na)), (h_nb, .inl (cy_nb, 8000, .inl f_nb)), (h_nc, .inl (cy_nc, 8000, .inl f_nc)), (h_vrs, .inl (cy_vrs, 32, .inl f_vrs)), (h_let, .inl (cy_let, 256, .inl f_let))] sz [.ref h_mm, .int p1]) (va_Qv (fun (u : (Int32) × (Int32) × (Int32) × (Int32) × (Int32) × (Int64) × (Int32) × (Int32) × (Int32) × (Nat → Int32) × (Nat → Int64) × (Nat → Int32) × (Nat → Int32) × (Nat → Int32) × (Nat → Int32) × (Nat → Int32) × (Nat → Nat)) => (0 ≤ (u.1).toInt ∧ (u.1).toInt ≤ 1200) ∧ (0 ≤ (u.2.1).toInt ∧ (u.2.1).toInt ≤ 600) ∧ (0 ≤ (u.2.2.1).toInt ∧ (u.2.2.1).toInt ≤ 600) ∧ (0 ≤ (u.2.2.2.1).toInt ∧ (u.2.2.2.1).toInt ≤ 4) ∧ (0 ≤ (u.2.2.2.2.2.2.1).toInt ∧ (u.2.2.2.2.2.2.1).toInt ≤ 1) ∧ (Rg (-1) 7 u.2.2.2.2.2.2.2.2.2.1) ∧ (Rg (-1) 7999 u.2.2.2.2.2.2.2.2.2.2.2.1) ∧ (Rg (-1) 7999 u.2.2.2.2.2.2.2.2.2.2.2.2.1) ∧ (Rg (-1) 7999 u.2.2.2.2.2.2.2.2.2.2.2.2.2.1) ∧ (Rg 0 8 u.2.2.2.2.2.2.2.2.2.2.2.2.2.2.1) ∧ ((u.2.2.1).toInt ≤ (u.2.1).toInt) ∧ ((u.2.2.2.2.2.2.1).toInt = 1 ∨ (u.1).toInt ≤ lo + (u.2.2.1).toInt) ∧ ((x_mm_nodes).toInt ≤ (u.1).toInt) ∧ ((x_mm_place).toInt ≤ (u.2.2.1).toInt) ∧ ((x_mm_isFaulty).toInt ≤ (u.2.2.2.2.2.2.1).toInt) ∧ (((u.2.2.2.2.2.2.1).toInt = 0 ∧ ((pPs G (x_mm_taped).toInt 6 (x_mm_place).toInt nv vf)).1 = 0 ∧ (u.2.2.2.2.2.2.2.1).toInt = (x_mm_fault).toInt ∧ (u.2.2.2.2.2.2.2.2.1).toInt = (x_mm_faultPlace).toInt) ∨ ((u.2.2.2.2.2.2.1).toInt = 1 ∧ ¬ ((pPs G (x_mm_taped).toInt 6 (x_mm_place).toInt nv vf)).1 = 0 ∧ (u.2.2.2.2.2.2.2.1).toInt = ((pPs G (x_mm_taped).toInt 6 (x_mm_place).toInt nv vf)).1 ∧ (u.2.2.2.2.2.2.2.2.1).toInt = ((pPs G (x_mm_taped).toInt 6 (x_mm_place).toInt nv vf)).2.1)) ∧ ((u.2.2.1).toInt = ((pPs G (x_mm_taped).toInt 6 (x_mm_place).toInt nv vf)).2.1) ∧ (0 ≤ ((pPs G (x_mm_taped).toInt 6 (x_mm_place).toInt nv vf)).2.2.1 ∧ ((pPs G (x_mm_taped).toInt 6 (x_mm_place).toInt nv vf)).2.2.1 ≤ 8) ∧ ((u.2.2.2.1).toInt = kd (tkT G (x_mm_taped).toInt (u.2.2.1).toInt)) ∧ ((u.2.2.2.1).toInt = 0 ∨ ((u.2.1).toInt = tkX G (x_mm_taped).toInt (u.2.2.1).toInt ∧ (u.2.2.2.2.1).toInt = G (u.2.2.1).toInt ∧ (u.2.2.1).toInt < (x_mm_taped).toInt ∧ (u.2.2.1).toInt + 1 ≤ (u.2.1).toInt)) ∧ ((u.2.1).toInt ≤ (x_mm_taped).toInt) ∧ ((u.2.2.1).toInt ≤ (x_mm_taped).toInt) ∧ (EQ0 lo za zb zc zv u.2.2.2.2.2.2.2.2.2.2.2.1 u.2.2.2.2.2.2.2.2.2.2.2.2.1 u.2.2.2.2.2.2.2.2.2.2.2.2.2.1 u.2.2.2.2.2.2.2.2.2.1) ∧ (ND lo (u.1).toInt u.2.2.2.2.2.2.2.2.2.2.2.2.2.2.2.2 u.2.2.2.2.2.2.2.2.2.2.2.1 u.2.2.2.2.2.2.2.2.2.2.2.2.1 u.2.2.2.2.2.2.2.2.2.2.2.2.2.1) ∧ (∀ y : Nat, (y : Int) < (x_mm_nodes).toInt → u.2.2.2.2.2.2.2.2.2.2.2.2.2.2.2.2 y = hh y) ∧ ((u.2.2.2.2.2.2.2.2.2.2.2.2.2.2.1 (Int32.toNatClampNeg x_mm_reading)).toInt = ((pPs G (x_mm_taped).toInt 6 (x_mm_place).toInt nv vf)).2.2.1) ∧ (VFM ((pPs G (x_mm_taped).toInt 6 (x_mm_place).toInt nv vf)).2.2.1 ((pPs G (x_mm_taped).toInt 6 (x_mm_place).toInt nv vf)).2.2.2 u.2.2.2.2.2.2.2.2.2.2.2.2.2.2.2.1 (x_mm_reading).toInt)) (fun (u : (Int32) × (Int32) × (Int32) × (Int32) × (Int32) × (Int64) × (Int32) × (Int32) × (Int32) × (Nat → Int32) × (Nat → Int64) × (Nat → Int32) × (Nat → Int32) × (Nat → Int32) × (Nat → Int32) × (Nat → Int32) × (Nat → Nat)) (t : State) => va_P (dC, dI) cls [(h_mm, .inr (8, (mo126 v_mm (.ref h_nv) (.ref h_nn) (.ref h_na) (.ref h_nb) (.ref h_nc) (.int u.1) (.ref h_vrs) (.ref h_let) (.ref h_tap) (.int x_mm_taped) (.int u.2.1) (.int u.2.2.1) (.int u.2.2.2.1) (.int u.2.2.2.2.1) (.long u.2.2.2.2.2.1) (.int u.2.2.2.2.2.2.1) (.int u.2.2.2.2.2.2.2.1) (.int u.2.2.2.2.2.2.2.2.1) (.int 0) (.int x_mm_reading)))), (h_tap, .inl (cy_tap, 600, .inl f_tap)), (h_nv, .inl (cy_nv, 8000, .inl u.2.2.2.2.2.2.2.2.2.1)), (h_nn, .inl (cy_nn, 8000, .inr (.inl u.2.2.2.2.2.2.2.2.2.2.1))), (h_na, .inl (cy_na, 8000, .inl u.2.2.2.2.2.2.2.2.2.2.2.1)), (h_nb, .inl (cy_nb, 8000, .inl u.2.2.2.2.2.2.2.2.2.2.2.2.1)), (h_nc, .inl (cy_nc, 8000, .inl u.2.2.2.2.2.2.2.2.2.2.2.2.2.1)), (h_vrs, .inl (cy_vrs, 32, .inl u.2.2.2.2.2.2.2.2.2.2.2.2.2.2.1)), (h_let, .inl (cy_let, 256, .inl u.2.2.2.2.2.2.2.2.2.2.2.2.2.2.2.1))] t.heap ∧ va_D (va_A [(h_mm, .inr (8, (mo126 v_mm (.ref h_nv) (.ref h_nn) (.ref h_na) (.ref h_nb) (.ref h_nc) (.int x_mm_nodes) (.ref h_vrs) (.ref h_let) (.ref h_tap) (.int x_mm_taped) (.int x_mm_at) (.int x_mm_place) (.int x_mm_kind) (.int x_mm_sign) (.long x_mm_name) (.int x_mm_isFaulty) (.int x_mm_fault) (.int x_mm_faultPlace) (.int 0) (.int x_mm_reading)))), (h_tap, .inl (cy_tap, 600, .inl f_tap)), (h_nv, .inl (cy_nv, 8000, .inl f_nv)), (h_nn, .inl (cy_nn, 8000, .inr (.inl f_nn))), (h_na, .inl (cy_na, 8000, .inl f_na)), (h_nb, .inl (cy_nb, 8000, .inl f_nb)), (h_nc, .inl (cy_nc, 8000, .inl f_nc)), (h_vrs, .inl (cy_vrs, 32, .inl f_vrs)), (h_let, .inl (cy_let, 256, .inl f_let))] sz) [(h_mm, .inr (8, (mo126 v_mm (.ref h_nv) (.ref h_nn) (.ref h_na) (.ref h_nb) (.ref h_nc) (.int u.1) (.ref h_vrs) (.ref h_let) (.ref h_tap) (.int x_mm_taped) (.int u.2.1) (.int u.2.2.1) (.int u.2.2.2.1) (.int u.2.2.2.2.1) (.long u.2.2.2.2.2.1) (.int u.2.2.2.2.2.2.1) (.int u.2.2.2.2.2.2.2.1) (.int u.2.2.2.2.2.2.2.2.1) (.int 0) (.int x_mm_reading)))), (h_tap, .inl (cy_tap, 600, .inl f_tap)), (h_nv, .inl (cy_nv, 8000, .inl u.2.2.2.2.2.2.2.2.2.1)), (h_nn, .inl (cy_nn, 8000, .inr (.inl u.2.2.2.2.2.2.2.2.2.2.1))), (h_na, .inl (cy_na, 8000, .inl u.2.2.2.2.2.2.2.2.2.2.2.1)), (h_nb, .inl (cy_nb, 8000, .inl u.2.2.2.2.2.2.2.2.2.2.2.2.1)), (h_nc, .inl (cy_nc, 8000, .inl u.2.2.2.2.2.2.2.2.2.2.2.2.2.1)), (h_vrs, .inl (cy_vrs, 32, .inl u.2.2.2.2.2.2.2.2.2.2.2.2.2.2.1)), (h_let, .inl (cy_let, 256, .inl u.2.2.2.2.2.2.2.2.2.2.2.2.2.2.2.1))]) (va_A [(h_mm, .inr (8, (mo126 v_mm (.ref h_nv) (.ref h_nn) (.ref h_na) (.ref h_nb) (.ref h_nc) (.int x_mm_nodes) (.ref h_vrs) (.ref h_let) (.ref h_tap) (.int x_mm_taped) (.int x_mm_at) (.int x_mm_place) (.int x_mm_kind) (.int x_mm_sign) (.long x_mm_name) (.int x_mm_isFaulty) (.int x_mm_fault) (.int x_mm_faultPlace) (.int 0) (.int x_mm_reading)))), (h_tap, .inl (cy_tap, 600, .inl f_tap)), (h_nv, .inl (cy_nv, 8000, .inl f_nv)), (h_nn, .inl (cy_nn, 8000, .inr (.inl f_nn))), (h_na, .inl (cy_na, 8000, .inl f_na)), (h_nb, .inl (cy_nb, 8000, .inl f_nb)), (h_nc, .inl (cy_nc, 8000, .inl f_nc)), (h_vrs, .inl (cy_vrs, 32, .inl f_vrs)), (h_let, .inl (cy_let, 256, .inl f_let))] sz)) 0 0 (va_A [(h_mm, .inr (8, (mo126 v_mm (.ref h_nv) (.ref h_nn) (.ref h_na) (.ref h_nb) (.ref h_nc) (.int x_mm_nodes) (.ref h_vrs) (.ref h_let) (.ref h_tap) (.int x_mm_taped) (.int x_mm_at) (.int x_mm_place) (.int x_mm_kind) (.int x_mm_sign) (.long x_mm_name) (.int x_mm_isFaulty) (.int x_mm_fault) (.int x_mm_faultPlace) (.int 0) (.int x_mm_reading)))), (h_tap, .inl (cy_tap, 600, .inl f_tap)), (h_nv, .inl (cy_nv, 8000, .inl f_nv)), (h_nn, .inl (cy_nn, 8000, .inr (.inl f_nn))), (h_na, .inl (cy_na, 8000, .inl f_na)), (h_nb, .inl (cy_nb, 8000, .inl f_nb)), (h_nc, .inl (cy_nc, 8000, .inl f_nc)), (h_vrs, .inl (cy_vrs, 32, .inl f_vrs)), (h_let, .inl (cy_let, 256, .inl f_let))] sz) := by
  refine Met.ofW (cc := cX11_readsParts) (maxL := 2) (ret := none) (by decide) rfl ?_
  intro p e s m args below meth c s₁ B hml hv
  obtain ⟨rfl, hsz, hP, hK, hD0, hN⟩ := hv
  have hx := B.exec
  have hb := B.bytes
  have hr := B.returns
  have hts := atoms_spec (ws := Ws yX11_readsParts cX11_readsParts 2 none) B.pre
  have hT : ∀ w ∈ WALL, w ∈ Ws yX11_readsParts cX11_readsParts 2 none := fun w h => List.mem_cons_of_mem _ h
  have hw := fun w (h : w ∈ WALL) => hts w (hT w h)
  have hown : s.vm.findClass RX11 = some m.cls := findClass_of_methodNamed B.named
  have hlocks := B.notSynchronized
  subst hsz
  have hD := hD0.self (sz := s.heap.size)
  generalize hAe : va_A [(h_mm, .inr (8, (mo126 v_mm (.ref h_nv) (.ref h_nn) (.ref h_na) (.ref h_nb) (.ref h_nc) (.int x_mm_nodes) (.ref h_vrs) (.ref h_let) (.ref h_tap) (.int x_mm_taped) (.int x_mm_at) (.int x_mm_place) (.int x_mm_kind) (.int x_mm_sign) (.long x_mm_name) (.int x_mm_isFaulty) (.int x_mm_fault) (.int x_mm_faultPlace) (.int 0) (.int x_mm_reading)))), (h_tap, .inl (cy_tap, 600, .inl f_tap)), (h_nv, .inl (cy_nv, 8000, .inl f_nv)), (h_nn, .inl (cy_nn, 8000, .inr (.inl f_nn))), (h_na, .inl (cy_na, 8000, .inl f_na)), (h_nb, .inl (cy_nb, 8000, .inl f_nb)), (h_nc, .inl (cy_nc, 8000, .inl f_nc)), (h_vrs, .inl (cy_vrs, 32, .inl f_vrs)), (h_let, .inl (cy_let, 256, .inl f_let))] s.heap.size = A at hD ⊢
  have hA : ∀ q : Nat, s.heap.size ≤ q → A q := fun q h => by rw [← hAe]; exact Or.inr h
  have hS : va_S A s.heap s.heap [] := va_S.rf
  have hl := lv_entry ([.ref h_mm, .int p1]) (n := 2) (Nat.le_of_ble_eq_true rfl)
  rw [lg_entry_eq]
  generalize (lg_sl ([.ref h_mm, .int p1]) ++ List.replicate (2 - (lg_sl ([.ref h_mm, .int p1])).length) Slot.unset).toArray = ls at hl ⊢
  have hl : lv_has ls 2 [(0, .ref h_mm), (1, .int p1)] := hl
  have to9 := tk_or hn_tapq.1 (x_mm_taped).toInt (x_mm_place).toInt
  refine lv_aload_n hx hb dX11_readsParts_0 rfl (lv_at hl 0 rfl) ?_
  refine lv_bipush (v := 40) hx hb dX11_readsParts_1 (by decide) ?_
  obtain ⟨vq1, evq1⟩ := mq126_91 v_mm (.ref h_nv) (.ref h_nn) (.ref h_na) (.ref h_nb) (.ref h_nc) (.int x_mm_nodes) (.ref h_vrs) (.ref h_let) (.ref h_tap) (.int x_mm_taped) (.int x_mm_at) (.int x_mm_place) (.long x_mm_name) (.int x_mm_fault) (.int x_mm_faultPlace) (.int 0) (.int x_mm_reading)
  replace hP : va_P (dC, dI) cls [(h_mm, .inr (8, (mo91 vq1 (.int x_mm_kind) (.int x_mm_sign) (.int x_mm_isFaulty)))), (h_tap, .inl (cy_tap, 600, .inl f_tap)), (h_nv, .inl (cy_nv, 8000, .inl f_nv)), (h_nn, .inl (cy_nn, 8000, .inr (.inl f_nn))), (h_na, .inl (cy_na, 8000, .inl f_na)), (h_nb, .inl (cy_nb, 8000, .inl f_nb)), (h_nc, .inl (cy_nc, 8000, .inl f_nc)), (h_vrs, .inl (cy_vrs, 32, .inl f_vrs)), (h_let, .inl (cy_let, 256, .inl f_let))] s.heap := by rw [evq1]; exact hP
  replace hD : va_D A [(h_mm, .inr (8, (mo91 vq1 (.int x_mm_kind) (.int x_mm_sign) (.int x_mm_isFaulty)))), (h_tap, .inl (cy_tap, 600, .inl f_tap)), (h_nv, .inl (cy_nv, 8000, .inl f_nv)), (h_nn, .inl (cy_nn, 8000, .inr (.inl f_nn))), (h_na, .inl (cy_na, 8000, .inl f_na)), (h_nb, .inl (cy_nb, 8000, .inl f_nb)), (h_nc, .inl (cy_nc, 8000, .inl f_nc)), (h_vrs, .inl (cy_vrs, 32, .inl f_vrs)), (h_let, .inl (cy_let, 256, .inl f_let))] := by rw [evq1]; exact hD
  have cst40 : (40 : Int32).toInt = 40 := by decide
  have hPc := hP.sub (ws' := [(h_mm, .inr (8, (mo91 vq1 (.int x_mm_kind) (.int x_mm_sign) (.int x_mm_isFaulty))))]) [0] rfl
  have hDc := hD.sub (ws' := [(h_mm, .inr (8, (mo91 vq1 (.int x_mm_kind) (.int x_mm_sign) (.int x_mm_isFaulty))))]) [0] (by decide) rfl
  have hKc := hK.sub (tys' := []) [] rfl
  have hFc := va_free (wc := [(h_mm, .inr (8, (mo91 vq1 (.int x_mm_kind) (.int x_mm_sign) (.int x_mm_isFaulty))))]) hD hS hA [0] rfl
  refine va_calli (va_runV (As := [.int 40]) (rest := []) ⟨hx, hb, hml, hown, hts⟩ (c_X11_isSign l dC dI s.heap.size h_mm vq1 x_mm_kind x_mm_sign x_mm_isFaulty 40 (by first | exact hx_mm_kind | omega) (by first | exact hx_mm_isFaulty | omega)) (cwV 1 hts (gv hT w_m_X11_95 w_instanceMethod_X11_isSign ws_sel_X11_isSign w_ini_X11 w_code_X11_isSign) rfl rfl rfl (by decide +kernel) ⟨(Nat.le_of_ble_eq_true rfl), (Nat.le_of_ble_eq_true rfl)⟩) ⟨pre_blind, va_recv hK hP (ci := 8) (q0 := 0) rfl rfl, pre_of hPc hKc hDc hN⟩ rfl rfl hl.1 rfl (lv_room (Nat.le_of_ble_eq_true rfl)) dX11_readsParts_3 ⟨(Nat.le_of_ble_eq_true rfl), (Nat.le_of_ble_eq_true rfl)⟩) hS (fun q _ h => hFc q h) hFc (fun r2 u t H locs ht hvm hq hB hz1 hk1 hS9 => ?_)
  obtain ⟨hP1, hD1⟩ := hB
  rw [ht] at hP1
  obtain ⟨hP9, hD9⟩ := va_join (wr := [(h_tap, .inl (cy_tap, 600, .inl f_tap)), (h_nv, .inl (cy_nv, 8000, .inl f_nv)), (h_nn, .inl (cy_nn, 8000, .inr (.inl f_nn))), (h_na, .inl (cy_na, 8000, .inl f_na)), (h_nb, .inl (cy_nb, 8000, .inl f_nb)), (h_nc, .inl (cy_nc, 8000, .inl f_nc)), (h_vrs, .inl (cy_vrs, 32, .inl f_vrs)), (h_let, .inl (cy_let, 256, .inl f_let))]) (w1 := [(h_mm, .inr (8, (mo91 vq1 (.int x_mm_kind) (.int x_mm_sign) (.int x_mm_isFaulty))))]) hP hD [0] [1, 2, 3, 4, 5, 6, 7, 8] rfl rfl (by decide) (by decide) hk1 hFc hP1 hD1
  clear hP hD hS hPc hDc hKc hFc hP1 hD1 hk1 hz1 ht hvm
  have hP : va_P (dC, dI) cls [(h_tap, .inl (cy_tap, 600, .inl f_tap)), (h_nv, .inl (cy_nv, 8000, .inl f_nv)), (h_nn, .inl (cy_nn, 8000, .inr (.inl f_nn))), (h_na, .inl (cy_na, 8000, .inl f_na)), (h_nb, .inl (cy_nb, 8000, .inl f_nb)), (h_nc, .inl (cy_nc, 8000, .inl f_nc)), (h_vrs, .inl (cy_vrs, 32, .inl f_vrs)), (h_let, .inl (cy_let, 256, .inl f_let)), (h_mm, .inr (8, (mo91 vq1 (.int x_mm_kind) (.int x_mm_sign) (.int x_mm_isFaulty))))] H := hP9
  have hD : va_D A [(h_tap, .inl (cy_tap, 600, .inl f_tap)), (h_nv, .inl (cy_nv, 8000, .inl f_nv)), (h_nn, .inl (cy_nn, 8000, .inr (.inl f_nn))), (h_na, .inl (cy_na, 8000, .inl f_na)), (h_nb, .inl (cy_nb, 8000, .inl f_nb)), (h_nc, .inl (cy_nc, 8000, .inl f_nc)), (h_vrs, .inl (cy_vrs, 32, .inl f_vrs)), (h_let, .inl (cy_let, 256, .inl f_let)), (h_mm, .inr (8, (mo91 vq1 (.int x_mm_kind) (.int x_mm_sign) (.int x_mm_isFaulty))))] := hD9
  have hS := hS9
  clear hP9 hD9 hS9
  rw [evq1] at hP hD
  replace hP : va_P (dC, dI) cls [(h_tap, .inl (cy_tap, 600, .inl f_tap)), (h_nv, .inl (cy_nv, 8000, .inl f_nv)), (h_nn, .inl (cy_nn, 8000, .inr (.inl f_nn))), (h_na, .inl (cy_na, 8000, .inl f_na)), (h_nb, .inl (cy_nb, 8000, .inl f_nb)), (h_nc, .inl (cy_nc, 8000, .inl f_nc)), (h_vrs, .inl (cy_vrs, 32, .inl f_vrs)), (h_let, .inl (cy_let, 256, .inl f_let)), (h_mm, .inr (8, (mo126 v_mm (.ref h_nv) (.ref h_nn) (.ref h_na) (.ref h_nb) (.ref h_nc) (.int x_mm_nodes) (.ref h_vrs) (.ref h_let) (.ref h_tap) (.int x_mm_taped) (.int x_mm_at) (.int x_mm_place) (.int x_mm_kind) (.int x_mm_sign) (.long x_mm_name) (.int x_mm_isFaulty) (.int x_mm_fault) (.int x_mm_faultPlace) (.int 0) (.int x_mm_reading))))] H := hP
  replace hD : va_D A [(h_tap, .inl (cy_tap, 600, .inl f_tap)), (h_nv, .inl (cy_nv, 8000, .inl f_nv)), (h_nn, .inl (cy_nn, 8000, .inr (.inl f_nn))), (h_na, .inl (cy_na, 8000, .inl f_na)), (h_nb, .inl (cy_nb, 8000, .inl f_nb)), (h_nc, .inl (cy_nc, 8000, .inl f_nc)), (h_vrs, .inl (cy_vrs, 32, .inl f_vrs)), (h_let, .inl (cy_let, 256, .inl f_let)), (h_mm, .inr (8, (mo126 v_mm (.ref h_nv) (.ref h_nn) (.ref h_na) (.ref h_nb) (.ref h_nc) (.int x_mm_nodes) (.ref h_vrs) (.ref h_let) (.ref h_tap) (.int x_mm_taped) (.int x_mm_at) (.int x_mm_place) (.int x_mm_kind) (.int x_mm_sign) (.long x_mm_name) (.int x_mm_isFaulty) (.int x_mm_fault) (.int x_mm_faultPlace) (.int 0) (.int x_mm_reading))))] := hD
  clear evq1 
  rcases hq with ⟨rfl, hq⟩ | ⟨rfl, hq⟩ | ⟨rfl, hq⟩
  · replace hq : (((x_mm_isFaulty)).toInt = 0) ∧ (((x_mm_kind)).toInt = 3) ∧ (((x_mm_sign)).toInt = ((40 : Int32)).toInt) := hq
    refine lv_if_ne (tgt := 10) hx hb dX11_readsParts_6 (by decide) (fun _ => ?_) (fun c9 => absurd c9 (by decide))
    have yt9 : tkT G (x_mm_taped).toInt (x_mm_place).toInt = 40 := by omega
    replace q2 : (x_mm_nodes).toInt ≤ lo + (x_mm_place).toInt := by omega
    refine lv_aload_n hx hb dX11_readsParts_10 rfl (lv_at hl 0 rfl) ?_
    refine va_get (D := (dC, dI)) (ci := 8) (v := .int 0) (C := RX11) (T := TX11) (N := 71) hx hb hw iwX11 hown hK hP 8 rfl rfl 23 (by decide) (hw _ w_f_X11_130) (fun _ h9 => h9) rfl dX11_readsParts_11 ?_
    refine lv_bipush (v := 6) hx hb dX11_readsParts_14 (by decide) ?_
    refine lv_icmp_ne (tgt := 24) hx hb dX11_readsParts_16 (by decide) (fun _ => ?_) (fun c9 => absurd c9 (by decide))
    refine lv_aload_n hx hb dX11_readsParts_24 rfl (lv_at hl 0 rfl) ?_
    refine va_get (D := (dC, dI)) (ci := 8) (v := .int x_mm_isFaulty) (C := RX11) (T := TX11) (N := 71) hx hb hw iwX11 hown hK hP 8 rfl rfl 20 (by decide) (hw _ w_f_X11_61) (fun _ h9 => h9) rfl dX11_readsParts_25 ?_
    refine lv_if_eq (tgt := 32) hx hb dX11_readsParts_28 (by decide) (fun _ => ?_) (fun c3 => False.elim (by have kc3 := (not_congr (cv_eq (rfl : (x_mm_isFaulty).toInt = (x_mm_isFaulty).toInt) (by decide : (0 : Int32).toInt = 0))).mp c3; omega))
    refine lv_aload_n hx hb dX11_readsParts_32 rfl (lv_at hl 0 rfl) ?_
    refine lv_aload_n hx hb dX11_readsParts_33 rfl (lv_at hl 0 rfl) ?_
    refine va_get (D := (dC, dI)) (ci := 8) (v := .int 0) (C := RX11) (T := TX11) (N := 71) hx hb hw iwX11 hown hK hP 8 rfl rfl 23 (by decide) (hw _ w_f_X11_130) (fun _ h9 => h9) rfl dX11_readsParts_34 ?_
    refine lv_iconst (v := 1) hx hb dX11_readsParts_37 (by decide) ?_
    refine lv_iadd hx hb dX11_readsParts_38 ?_
    refine lv_topi (fun z4 ez4 => ?_)
    obtain rfl : z4 = 1 := ez4.trans (by decide)
    refine va_put (D := (dC, dI)) (ci := 8) (v := .int 1) (ty := tyX11 23) (C := RX11) (T := TX11) (N := 71) hx hb hw iwX11 tyX11 tyX11_ok nmX11 hown hK hP hD hS 8 rfl rfl 23 (by decide) (hw _ w_f_X11_130) (fun _ h9 => h9) rfl (tyX11_ok 23 (by decide)) rfl rfl (Nat.le_of_ble_eq_true rfl) dX11_readsParts_39 (fun H locs hP9 hD9 hS9 => ?_)
    clear hP hD hS
    have hP : va_P (dC, dI) cls [(h_tap, .inl (cy_tap, 600, .inl f_tap)), (h_nv, .inl (cy_nv, 8000, .inl f_nv)), (h_nn, .inl (cy_nn, 8000, .inr (.inl f_nn))), (h_na, .inl (cy_na, 8000, .inl f_na)), (h_nb, .inl (cy_nb, 8000, .inl f_nb)), (h_nc, .inl (cy_nc, 8000, .inl f_nc)), (h_vrs, .inl (cy_vrs, 32, .inl f_vrs)), (h_let, .inl (cy_let, 256, .inl f_let)), (h_mm, .inr (8, (mo126 v_mm (.ref h_nv) (.ref h_nn) (.ref h_na) (.ref h_nb) (.ref h_nc) (.int x_mm_nodes) (.ref h_vrs) (.ref h_let) (.ref h_tap) (.int x_mm_taped) (.int x_mm_at) (.int x_mm_place) (.int x_mm_kind) (.int x_mm_sign) (.long x_mm_name) (.int x_mm_isFaulty) (.int x_mm_fault) (.int x_mm_faultPlace) (.int 1) (.int x_mm_reading))))] H := hP9
    have hD : va_D A [(h_tap, .inl (cy_tap, 600, .inl f_tap)), (h_nv, .inl (cy_nv, 8000, .inl f_nv)), (h_nn, .inl (cy_nn, 8000, .inr (.inl f_nn))), (h_na, .inl (cy_na, 8000, .inl f_na)), (h_nb, .inl (cy_nb, 8000, .inl f_nb)), (h_nc, .inl (cy_nc, 8000, .inl f_nc)), (h_vrs, .inl (cy_vrs, 32, .inl f_vrs)), (h_let, .inl (cy_let, 256, .inl f_let)), (h_mm, .inr (8, (mo126 v_mm (.ref h_nv) (.ref h_nn) (.ref h_na) (.ref h_nb) (.ref h_nc) (.int x_mm_nodes) (.ref h_vrs) (.ref h_let) (.ref h_tap) (.int x_mm_taped) (.int x_mm_at) (.int x_mm_place) (.int x_mm_kind) (.int x_mm_sign) (.long x_mm_name) (.int x_mm_isFaulty) (.int x_mm_fault) (.int x_mm_faultPlace) (.int 1) (.int x_mm_reading))))] := hD9
    have hS := hS9
    clear hP9 hD9 hS9
    refine lv_aload_n hx hb dX11_readsParts_42 rfl (lv_at hl 0 rfl) ?_
    obtain ⟨vq5, evq5⟩ := mq126_89 v_mm (.ref h_nv) (.ref h_nn) (.ref h_na) (.ref h_nb) (.ref h_nc) (.int x_mm_nodes) (.ref h_vrs) (.ref h_let) (.int x_mm_isFaulty) (.int x_mm_fault) (.int x_mm_faultPlace) (.int 1) (.int x_mm_reading)
    replace hP : va_P (dC, dI) cls [(h_tap, .inl (cy_tap, 600, .inl f_tap)), (h_nv, .inl (cy_nv, 8000, .inl f_nv)), (h_nn, .inl (cy_nn, 8000, .inr (.inl f_nn))), (h_na, .inl (cy_na, 8000, .inl f_na)), (h_nb, .inl (cy_nb, 8000, .inl f_nb)), (h_nc, .inl (cy_nc, 8000, .inl f_nc)), (h_vrs, .inl (cy_vrs, 32, .inl f_vrs)), (h_let, .inl (cy_let, 256, .inl f_let)), (h_mm, .inr (8, (mo89 vq5 (.ref h_tap) (.int x_mm_taped) (.int x_mm_at) (.int x_mm_place) (.int x_mm_kind) (.int x_mm_sign) (.long x_mm_name))))] H := by rw [evq5]; exact hP
    replace hD : va_D A [(h_tap, .inl (cy_tap, 600, .inl f_tap)), (h_nv, .inl (cy_nv, 8000, .inl f_nv)), (h_nn, .inl (cy_nn, 8000, .inr (.inl f_nn))), (h_na, .inl (cy_na, 8000, .inl f_na)), (h_nb, .inl (cy_nb, 8000, .inl f_nb)), (h_nc, .inl (cy_nc, 8000, .inl f_nc)), (h_vrs, .inl (cy_vrs, 32, .inl f_vrs)), (h_let, .inl (cy_let, 256, .inl f_let)), (h_mm, .inr (8, (mo89 vq5 (.ref h_tap) (.int x_mm_taped) (.int x_mm_at) (.int x_mm_place) (.int x_mm_kind) (.int x_mm_sign) (.long x_mm_name))))] := by rw [evq5]; exact hD
    have hPc := hP.sub (ws' := [(h_mm, .inr (8, (mo89 vq5 (.ref h_tap) (.int x_mm_taped) (.int x_mm_at) (.int x_mm_place) (.int x_mm_kind) (.int x_mm_sign) (.long x_mm_name)))), (h_tap, .inl (cy_tap, 600, .inl f_tap))]) [8, 0] rfl
    have hDc := hD.sub (ws' := [(h_mm, .inr (8, (mo89 vq5 (.ref h_tap) (.int x_mm_taped) (.int x_mm_at) (.int x_mm_place) (.int x_mm_kind) (.int x_mm_sign) (.long x_mm_name)))), (h_tap, .inl (cy_tap, 600, .inl f_tap))]) [8, 0] (by decide) rfl
    have hKc := hK.sub (tys' := [(cy_tap, .byte)]) [0] rfl
    have hFc := va_free (wc := [(h_mm, .inr (8, (mo89 vq5 (.ref h_tap) (.int x_mm_taped) (.int x_mm_at) (.int x_mm_place) (.int x_mm_kind) (.int x_mm_sign) (.long x_mm_name)))), (h_tap, .inl (cy_tap, 600, .inl f_tap))]) hD hS hA [8, 0] rfl
    refine va_callv (va_runV (As := []) (rest := []) ⟨hx, hb, hml, hown, hts⟩ (c_X11_step l dC dI H.size h_mm h_tap vq5 x_mm_taped x_mm_at x_mm_place x_mm_kind x_mm_sign x_mm_name cy_tap f_tap G (by first | exact hx_mm_taped | omega) (by first | exact hx_mm_at | omega) (by first | exact hx_mm_place | omega) (by first | exact hx_mm_kind | omega) (by first | exact q10 | omega) hn_tapq) (cwV 0 hts (gv hT w_m_X11_98 w_instanceMethod_X11_step ws_sel_X11_step w_ini_X11 w_code_X11_step) rfl rfl rfl (by decide +kernel) ⟨(Nat.le_of_ble_eq_true rfl), (Nat.le_of_ble_eq_true rfl)⟩) ⟨pre_blind, va_recv hK hP (ci := 8) (q0 := 8) rfl rfl, pre_of hPc hKc hDc hN⟩ rfl rfl hl.1 rfl (lv_room (Nat.le_of_ble_eq_true rfl)) dX11_readsParts_43 ⟨(Nat.le_of_ble_eq_true rfl), (Nat.le_of_ble_eq_true rfl)⟩) hS (fun q _ h => hFc q h) hFc (fun u t H locs ht hvm hq hB hz1 hk1 hS9 => ?_)
    obtain ⟨z7, z8, z9, z10, z11⟩ := u
    obtain ⟨hP1, hD1⟩ := hB
    rw [ht] at hP1
    obtain ⟨hP9, hD9⟩ := va_join (wr := [(h_nv, .inl (cy_nv, 8000, .inl f_nv)), (h_nn, .inl (cy_nn, 8000, .inr (.inl f_nn))), (h_na, .inl (cy_na, 8000, .inl f_na)), (h_nb, .inl (cy_nb, 8000, .inl f_nb)), (h_nc, .inl (cy_nc, 8000, .inl f_nc)), (h_vrs, .inl (cy_vrs, 32, .inl f_vrs)), (h_let, .inl (cy_let, 256, .inl f_let))]) (w1 := [(h_mm, .inr (8, (mo89 vq5 (.ref h_tap) (.int x_mm_taped) (.int z7) (.int z8) (.int z9) (.int z10) (.long z11)))), (h_tap, .inl (cy_tap, 600, .inl f_tap))]) hP hD [8, 0] [1, 2, 3, 4, 5, 6, 7] rfl rfl (by decide) (by decide) hk1 hFc hP1 hD1
    clear hP hD hS hPc hDc hKc hFc hP1 hD1 hk1 hz1 ht hvm
    have hP : va_P (dC, dI) cls [(h_nv, .inl (cy_nv, 8000, .inl f_nv)), (h_nn, .inl (cy_nn, 8000, .inr (.inl f_nn))), (h_na, .inl (cy_na, 8000, .inl f_na)), (h_nb, .inl (cy_nb, 8000, .inl f_nb)), (h_nc, .inl (cy_nc, 8000, .inl f_nc)), (h_vrs, .inl (cy_vrs, 32, .inl f_vrs)), (h_let, .inl (cy_let, 256, .inl f_let)), (h_mm, .inr (8, (mo89 vq5 (.ref h_tap) (.int x_mm_taped) (.int z7) (.int z8) (.int z9) (.int z10) (.long z11)))), (h_tap, .inl (cy_tap, 600, .inl f_tap))] H := hP9
    have hD : va_D A [(h_nv, .inl (cy_nv, 8000, .inl f_nv)), (h_nn, .inl (cy_nn, 8000, .inr (.inl f_nn))), (h_na, .inl (cy_na, 8000, .inl f_na)), (h_nb, .inl (cy_nb, 8000, .inl f_nb)), (h_nc, .inl (cy_nc, 8000, .inl f_nc)), (h_vrs, .inl (cy_vrs, 32, .inl f_vrs)), (h_let, .inl (cy_let, 256, .inl f_let)), (h_mm, .inr (8, (mo89 vq5 (.ref h_tap) (.int x_mm_taped) (.int z7) (.int z8) (.int z9) (.int z10) (.long z11)))), (h_tap, .inl (cy_tap, 600, .inl f_tap))] := hD9
    have hS := hS9
    clear hP9 hD9 hS9
    rw [evq5] at hP hD
    replace hP : va_P (dC, dI) cls [(h_nv, .inl (cy_nv, 8000, .inl f_nv)), (h_nn, .inl (cy_nn, 8000, .inr (.inl f_nn))), (h_na, .inl (cy_na, 8000, .inl f_na)), (h_nb, .inl (cy_nb, 8000, .inl f_nb)), (h_nc, .inl (cy_nc, 8000, .inl f_nc)), (h_vrs, .inl (cy_vrs, 32, .inl f_vrs)), (h_let, .inl (cy_let, 256, .inl f_let)), (h_mm, .inr (8, (mo126 v_mm (.ref h_nv) (.ref h_nn) (.ref h_na) (.ref h_nb) (.ref h_nc) (.int x_mm_nodes) (.ref h_vrs) (.ref h_let) (.ref h_tap) (.int x_mm_taped) (.int z7) (.int z8) (.int z9) (.int z10) (.long z11) (.int x_mm_isFaulty) (.int x_mm_fault) (.int x_mm_faultPlace) (.int 1) (.int x_mm_reading)))), (h_tap, .inl (cy_tap, 600, .inl f_tap))] H := hP
    replace hD : va_D A [(h_nv, .inl (cy_nv, 8000, .inl f_nv)), (h_nn, .inl (cy_nn, 8000, .inr (.inl f_nn))), (h_na, .inl (cy_na, 8000, .inl f_na)), (h_nb, .inl (cy_nb, 8000, .inl f_nb)), (h_nc, .inl (cy_nc, 8000, .inl f_nc)), (h_vrs, .inl (cy_vrs, 32, .inl f_vrs)), (h_let, .inl (cy_let, 256, .inl f_let)), (h_mm, .inr (8, (mo126 v_mm (.ref h_nv) (.ref h_nn) (.ref h_na) (.ref h_nb) (.ref h_nc) (.int x_mm_nodes) (.ref h_vrs) (.ref h_let) (.ref h_tap) (.int x_mm_taped) (.int z7) (.int z8) (.int z9) (.int z10) (.long z11) (.int x_mm_isFaulty) (.int x_mm_fault) (.int x_mm_faultPlace) (.int 1) (.int x_mm_reading)))), (h_tap, .inl (cy_tap, 600, .inl f_tap))] := hD
    clear evq5 
    obtain ⟨k12, k13, k14, k15, k16, k17, k18, k19, k20, k21⟩ := hq
    replace k12 : 0 ≤ ((z7)).toInt ∧ ((z7)).toInt ≤ 600 := k12
    replace k13 : 0 ≤ ((z8)).toInt ∧ ((z8)).toInt ≤ 600 := k13
    replace k14 : 0 ≤ ((z9)).toInt ∧ ((z9)).toInt ≤ 4 := k14
    replace k15 : ((x_mm_at)).toInt ≤ ((z8)).toInt := k15
    replace k16 : ((z8)).toInt ≤ ((z7)).toInt := k16
    replace k17 : ((z8)).toInt = tkS (G) ((x_mm_taped)).toInt ((x_mm_at)).toInt := k17
    replace k18 : ((z9)).toInt = kd (tkT (G) ((x_mm_taped)).toInt ((z8)).toInt) := k18
    replace k19 : ((z9)).toInt = 0 ∨ (((z7)).toInt = tkX (G) ((x_mm_taped)).toInt ((z8)).toInt ∧ ((z10)).toInt = (G) ((z8)).toInt ∧ ((z8)).toInt < ((x_mm_taped)).toInt ∧ ((z8)).toInt + 1 ≤ ((z7)).toInt) := k19
    replace k20 : ((z7)).toInt ≤ ((x_mm_taped)).toInt := k20
    replace k21 : ((z8)).toInt ≤ ((x_mm_taped)).toInt := k21
    have tn22x : (x_mm_at).toInt = tkX G (x_mm_taped).toInt (x_mm_place).toInt := by omega
    have tn22 : (z8).toInt = tkN G (x_mm_taped).toInt (x_mm_place).toInt := by rw [k17, tn22x]; rfl
    clear q9
    have lo0 : pLo G (x_mm_taped).toInt (pPs G (x_mm_taped).toInt 5) 3 (x_mm_place).toInt nv vf = (pPs G (x_mm_taped).toInt 6 (x_mm_place).toInt nv vf) := (pPs_open yt9).symm
    refine lv_aload_n hx hb dX11_readsParts_46 rfl (lv_at hl 0 rfl) ?_
    refine va_get (D := (dC, dI)) (ci := 8) (v := .ref h_na) (C := RX11) (T := TX11) (N := 71) hx hb hw iwX11 hown hK hP 7 rfl rfl 3 (by decide) (hw _ w_f_X11_7) (fun _ h9 => h9) rfl dX11_readsParts_47 ?_
    refine lv_iload_n hx hb dX11_readsParts_50 rfl (lv_at hl 1 rfl) ?_
    refine lv_aload_n hx hb dX11_readsParts_51 rfl (lv_at hl 0 rfl) ?_
    have hPc := hP.sub (ws' := [(h_mm, .inr (8, (mo126 v_mm (.ref h_nv) (.ref h_nn) (.ref h_na) (.ref h_nb) (.ref h_nc) (.int x_mm_nodes) (.ref h_vrs) (.ref h_let) (.ref h_tap) (.int x_mm_taped) (.int z7) (.int z8) (.int z9) (.int z10) (.long z11) (.int x_mm_isFaulty) (.int x_mm_fault) (.int x_mm_faultPlace) (.int 1) (.int x_mm_reading)))), (h_tap, .inl (cy_tap, 600, .inl f_tap)), (h_nv, .inl (cy_nv, 8000, .inl f_nv)), (h_nn, .inl (cy_nn, 8000, .inr (.inl f_nn))), (h_na, .inl (cy_na, 8000, .inl f_na)), (h_nb, .inl (cy_nb, 8000, .inl f_nb)), (h_nc, .inl (cy_nc, 8000, .inl f_nc)), (h_vrs, .inl (cy_vrs, 32, .inl f_vrs)), (h_let, .inl (cy_let, 256, .inl f_let))]) [7, 8, 0, 1, 2, 3, 4, 5, 6] rfl
    have hDc := hD.sub (ws' := [(h_mm, .inr (8, (mo126 v_mm (.ref h_nv) (.ref h_nn) (.ref h_na) (.ref h_nb) (.ref h_nc) (.int x_mm_nodes) (.ref h_vrs) (.ref h_let) (.ref h_tap) (.int x_mm_taped) (.int z7) (.int z8) (.int z9) (.int z10) (.long z11) (.int x_mm_isFaulty) (.int x_mm_fault) (.int x_mm_faultPlace) (.int 1) (.int x_mm_reading)))), (h_tap, .inl (cy_tap, 600, .inl f_tap)), (h_nv, .inl (cy_nv, 8000, .inl f_nv)), (h_nn, .inl (cy_nn, 8000, .inr (.inl f_nn))), (h_na, .inl (cy_na, 8000, .inl f_na)), (h_nb, .inl (cy_nb, 8000, .inl f_nb)), (h_nc, .inl (cy_nc, 8000, .inl f_nc)), (h_vrs, .inl (cy_vrs, 32, .inl f_vrs)), (h_let, .inl (cy_let, 256, .inl f_let))]) [7, 8, 0, 1, 2, 3, 4, 5, 6] (by decide) rfl
    have hKc := hK.sub (tys' := [(cy_tap, .byte), (cy_nv, .int), (cy_nn, .long), (cy_na, .int), (cy_nb, .int), (cy_nc, .int), (cy_vrs, .int), (cy_let, .int)]) [0, 1, 2, 3, 4, 5, 6, 7] rfl
    have hFc := va_free (wc := [(h_mm, .inr (8, (mo126 v_mm (.ref h_nv) (.ref h_nn) (.ref h_na) (.ref h_nb) (.ref h_nc) (.int x_mm_nodes) (.ref h_vrs) (.ref h_let) (.ref h_tap) (.int x_mm_taped) (.int z7) (.int z8) (.int z9) (.int z10) (.long z11) (.int x_mm_isFaulty) (.int x_mm_fault) (.int x_mm_faultPlace) (.int 1) (.int x_mm_reading)))), (h_tap, .inl (cy_tap, 600, .inl f_tap)), (h_nv, .inl (cy_nv, 8000, .inl f_nv)), (h_nn, .inl (cy_nn, 8000, .inr (.inl f_nn))), (h_na, .inl (cy_na, 8000, .inl f_na)), (h_nb, .inl (cy_nb, 8000, .inl f_nb)), (h_nc, .inl (cy_nc, 8000, .inl f_nc)), (h_vrs, .inl (cy_vrs, 32, .inl f_vrs)), (h_let, .inl (cy_let, 256, .inl f_let))]) hD hS hA [7, 8, 0, 1, 2, 3, 4, 5, 6] rfl
    refine va_calli (va_runV (As := []) (rest := [.int p1, .ref h_na]) ⟨hx, hb, hml, hown, hts⟩ (c_X11_readsTerm_1 l dC dI H.size h_mm h_tap h_nv h_nn h_na h_nb h_nc h_vrs h_let v_mm x_mm_nodes x_mm_taped z7 z8 z9 z10 z11 x_mm_isFaulty x_mm_fault x_mm_faultPlace x_mm_reading cy_tap f_tap cy_nv f_nv cy_nn f_nn cy_na f_na cy_nb f_nb cy_nc f_nc cy_vrs f_vrs cy_let f_let lo hh za zb zc zv G nv vf (by first | exact hx_mm_nodes | omega) (by first | exact hx_mm_taped | omega) (by first | exact k12 | omega) (by first | exact k13 | omega) (by first | exact k14 | omega) (by first | exact hx_mm_isFaulty | omega) (by first | exact hx_mm_reading | omega) hf_nv hf_na hf_nb hf_nc hf_vrs (by first | exact k16 | omega) (by omega) (by omega) (by first | exact q3 | omega) (by first | exact k18 | omega) (by first | exact k19 | omega) (by first | exact k20 | omega) (by first | exact k21 | omega) (by first | exact q12 | omega) (by first | exact q13 | omega) hn_nd0 (nd_cast hn_nd (by omega)) hn_tapq hn_nvq hn_vfm) (cwV 0 hts (gv hT w_m_X11_133 w_instanceMethod_X11_readsTerm ws_sel_X11_readsTerm w_ini_X11 w_code_X11_readsTerm) rfl rfl rfl (by decide +kernel) ⟨(Nat.le_of_ble_eq_true rfl), (Nat.le_of_ble_eq_true rfl)⟩) ⟨pre_blind, va_recv hK hP (ci := 8) (q0 := 7) rfl rfl, pre_of hPc hKc hDc hN⟩ rfl rfl hl.1 rfl (lv_room (Nat.le_of_ble_eq_true rfl)) dX11_readsParts_52 ⟨(Nat.le_of_ble_eq_true rfl), (Nat.le_of_ble_eq_true rfl)⟩) hS (fun q _ h => hFc q h) hFc (fun r23 u t H locs ht hvm hq hB hz1 hk1 hS9 => ?_)
    obtain ⟨z24, z25, z26, z27, z28, z29, z30, z31, z32, f33, f34, f35, f36, f37, f38, f39, gh40⟩ := u
    obtain ⟨hP1, hD1⟩ := hB
    rw [ht] at hP1
    obtain ⟨hP9, hD9⟩ := va_join (wr := []) (w1 := [(h_mm, .inr (8, (mo126 v_mm (.ref h_nv) (.ref h_nn) (.ref h_na) (.ref h_nb) (.ref h_nc) (.int z24) (.ref h_vrs) (.ref h_let) (.ref h_tap) (.int x_mm_taped) (.int z25) (.int z26) (.int z27) (.int z28) (.long z29) (.int z30) (.int z31) (.int z32) (.int 1) (.int x_mm_reading)))), (h_tap, .inl (cy_tap, 600, .inl f_tap)), (h_nv, .inl (cy_nv, 8000, .inl f33)), (h_nn, .inl (cy_nn, 8000, .inr (.inl f34))), (h_na, .inl (cy_na, 8000, .inl f35)), (h_nb, .inl (cy_nb, 8000, .inl f36)), (h_nc, .inl (cy_nc, 8000, .inl f37)), (h_vrs, .inl (cy_vrs, 32, .inl f38)), (h_let, .inl (cy_let, 256, .inl f39))]) hP hD [7, 8, 0, 1, 2, 3, 4, 5, 6] [] rfl rfl (by decide) (by decide) hk1 hFc hP1 hD1
    clear hP hD hS hPc hDc hKc hFc hP1 hD1 hk1 hz1 ht hvm
    have hP : va_P (dC, dI) cls [(h_mm, .inr (8, (mo126 v_mm (.ref h_nv) (.ref h_nn) (.ref h_na) (.ref h_nb) (.ref h_nc) (.int z24) (.ref h_vrs) (.ref h_let) (.ref h_tap) (.int x_mm_taped) (.int z25) (.int z26) (.int z27) (.int z28) (.long z29) (.int z30) (.int z31) (.int z32) (.int 1) (.int x_mm_reading)))), (h_tap, .inl (cy_tap, 600, .inl f_tap)), (h_nv, .inl (cy_nv, 8000, .inl f33)), (h_nn, .inl (cy_nn, 8000, .inr (.inl f34))), (h_na, .inl (cy_na, 8000, .inl f35)), (h_nb, .inl (cy_nb, 8000, .inl f36)), (h_nc, .inl (cy_nc, 8000, .inl f37)), (h_vrs, .inl (cy_vrs, 32, .inl f38)), (h_let, .inl (cy_let, 256, .inl f39))] H := hP9
    have hD : va_D A [(h_mm, .inr (8, (mo126 v_mm (.ref h_nv) (.ref h_nn) (.ref h_na) (.ref h_nb) (.ref h_nc) (.int z24) (.ref h_vrs) (.ref h_let) (.ref h_tap) (.int x_mm_taped) (.int z25) (.int z26) (.int z27) (.int z28) (.long z29) (.int z30) (.int z31) (.int z32) (.int 1) (.int x_mm_reading)))), (h_tap, .inl (cy_tap, 600, .inl f_tap)), (h_nv, .inl (cy_nv, 8000, .inl f33)), (h_nn, .inl (cy_nn, 8000, .inr (.inl f34))), (h_na, .inl (cy_na, 8000, .inl f35)), (h_nb, .inl (cy_nb, 8000, .inl f36)), (h_nc, .inl (cy_nc, 8000, .inl f37)), (h_vrs, .inl (cy_vrs, 32, .inl f38)), (h_let, .inl (cy_let, 256, .inl f39))] := hD9
    have hS := hS9
    clear hP9 hD9 hS9
    obtain ⟨k41, k42, k43, k44, k45, hf33, hf35, hf36, hf37, hf38, k46, k47, k48, k49, k50, k51, k52, k53, k54, k55, k56, k57, k58, k59, k60, k61, k62, k63, k64⟩ := hq
    replace k41 : 0 ≤ ((z24)).toInt ∧ ((z24)).toInt ≤ 1200 := k41
    replace k42 : 0 ≤ ((z25)).toInt ∧ ((z25)).toInt ≤ 600 := k42
    replace k43 : 0 ≤ ((z26)).toInt ∧ ((z26)).toInt ≤ 600 := k43
    replace k44 : 0 ≤ ((z27)).toInt ∧ ((z27)).toInt ≤ 4 := k44
    replace k45 : 0 ≤ ((z30)).toInt ∧ ((z30)).toInt ≤ 1 := k45
    replace hf33 : Rg (-1) 7 (f33) := hf33
    replace hf35 : Rg (-1) 7999 (f35) := hf35
    replace hf36 : Rg (-1) 7999 (f36) := hf36
    replace hf37 : Rg (-1) 7999 (f37) := hf37
    replace hf38 : Rg 0 8 (f38) := hf38
    replace k46 : -1 ≤ (r23).toInt ∧ (r23).toInt ≤ 1199 := k46
    replace k47 : ((z26)).toInt ≤ ((z25)).toInt := k47
    replace k48 : ((z30)).toInt = 1 ∨ ((z24)).toInt ≤ (lo) + ((z26)).toInt := k48
    replace k49 : ((x_mm_nodes)).toInt ≤ ((z24)).toInt := k49
    replace k50 : ((z8)).toInt ≤ ((z26)).toInt := k50
    replace k51 : ((x_mm_isFaulty)).toInt ≤ ((z30)).toInt := k51
    replace k52 : ((r23)).toInt = -1 ∨ ((lo) ≤ ((r23)).toInt ∧ ((r23)).toInt < ((z24)).toInt ∧ (gh40) ((r23)).toInt.toNat = 6) := k52
    replace k53 : (((z30)).toInt = 0 ∧ ((pTm (G) ((x_mm_taped)).toInt (pPs (G) ((x_mm_taped)).toInt 5) ((z8)).toInt (nv) (vf))).1 = 0 ∧ ((z31)).toInt = ((x_mm_fault)).toInt ∧ ((z32)).toInt = ((x_mm_faultPlace)).toInt) ∨ (((z30)).toInt = 1 ∧ ¬ ((pTm (G) ((x_mm_taped)).toInt (pPs (G) ((x_mm_taped)).toInt 5) ((z8)).toInt (nv) (vf))).1 = 0 ∧ ((z31)).toInt = ((pTm (G) ((x_mm_taped)).toInt (pPs (G) ((x_mm_taped)).toInt 5) ((z8)).toInt (nv) (vf))).1 ∧ ((z32)).toInt = ((pTm (G) ((x_mm_taped)).toInt (pPs (G) ((x_mm_taped)).toInt 5) ((z8)).toInt (nv) (vf))).2.1) := k53
    replace k54 : ((z26)).toInt = ((pTm (G) ((x_mm_taped)).toInt (pPs (G) ((x_mm_taped)).toInt 5) ((z8)).toInt (nv) (vf))).2.1 := k54
    replace k55 : 0 ≤ ((pTm (G) ((x_mm_taped)).toInt (pPs (G) ((x_mm_taped)).toInt 5) ((z8)).toInt (nv) (vf))).2.2.1 ∧ ((pTm (G) ((x_mm_taped)).toInt (pPs (G) ((x_mm_taped)).toInt 5) ((z8)).toInt (nv) (vf))).2.2.1 ≤ 8 := k55
    replace k56 : ((z27)).toInt = kd (tkT (G) ((x_mm_taped)).toInt ((z26)).toInt) := k56
    replace k57 : ((z27)).toInt = 0 ∨ (((z25)).toInt = tkX (G) ((x_mm_taped)).toInt ((z26)).toInt ∧ ((z28)).toInt = (G) ((z26)).toInt ∧ ((z26)).toInt < ((x_mm_taped)).toInt ∧ ((z26)).toInt + 1 ≤ ((z25)).toInt) := k57
    replace k58 : ((z25)).toInt ≤ ((x_mm_taped)).toInt := k58
    replace k59 : ((z26)).toInt ≤ ((x_mm_taped)).toInt := k59
    replace k60 : EQ0 (lo) (za) (zb) (zc) (zv) (f35) (f36) (f37) (f33) := k60
    replace k61 : ND (lo) ((z24)).toInt (gh40) (f35) (f36) (f37) := k61
    replace k62 : ∀ y : Nat, (y : Int) < ((x_mm_nodes)).toInt → (gh40) y = (hh) y := k62
    replace k63 : ((f38) (Int32.toNatClampNeg (x_mm_reading))).toInt = ((pTm (G) ((x_mm_taped)).toInt (pPs (G) ((x_mm_taped)).toInt 5) ((z8)).toInt (nv) (vf))).2.2.1 := k63
    replace k64 : VFM ((pTm (G) ((x_mm_taped)).toInt (pPs (G) ((x_mm_taped)).toInt 5) ((z8)).toInt (nv) (vf))).2.2.1 ((pTm (G) ((x_mm_taped)).toInt (pPs (G) ((x_mm_taped)).toInt 5) ((z8)).toInt (nv) (vf))).2.2.2 (f39) ((x_mm_reading)).toInt := k64
    obtain ⟨rh65, erh65⟩ : ∃ x : PR, x = (pTm (G) ((x_mm_taped)).toInt (pPs (G) ((x_mm_taped)).toInt 5) ((z8)).toInt (nv) (vf)) := ⟨_, rfl⟩
    rw [← erh65] at k53 k54 k55 k63 k64
    rw [tn22] at erh65
    have := k62 (p1).toInt.toNat (by omega)
    clear k19
    rcases k53 with ⟨fq66a, fq66b, fq66c, fq66d⟩ | ⟨fq66a, fq66b, fq66c, fq66d⟩
    · replace k48 : (z24).toInt ≤ lo + (z26).toInt := by rcases k48 with j9 | j9; (exact absurd j9 (by omega)); exact j9
      refine va_iast hx hb hK hP hD hS 4 3 rfl rfl (i := p1) (x := r23) (vp_in_iff.mpr (by omega)) dX11_readsParts_55 (fun H locs hP9 hD9 hS9 => ?_)
      obtain ⟨f67, ef67⟩ : ∃ g : Nat → Int32, g = upd f35 (Int32.toNatClampNeg p1) r23 := ⟨_, rfl⟩
      clear hP hD hS
      have hP : va_P (dC, dI) cls [(h_mm, .inr (8, (mo126 v_mm (.ref h_nv) (.ref h_nn) (.ref h_na) (.ref h_nb) (.ref h_nc) (.int z24) (.ref h_vrs) (.ref h_let) (.ref h_tap) (.int x_mm_taped) (.int z25) (.int z26) (.int z27) (.int z28) (.long z29) (.int z30) (.int z31) (.int z32) (.int 1) (.int x_mm_reading)))), (h_tap, .inl (cy_tap, 600, .inl f_tap)), (h_nv, .inl (cy_nv, 8000, .inl f33)), (h_nn, .inl (cy_nn, 8000, .inr (.inl f34))), (h_na, .inl (cy_na, 8000, .inl f67)), (h_nb, .inl (cy_nb, 8000, .inl f36)), (h_nc, .inl (cy_nc, 8000, .inl f37)), (h_vrs, .inl (cy_vrs, 32, .inl f38)), (h_let, .inl (cy_let, 256, .inl f39))] H := by rw [ef67]; exact hP9
      have hD : va_D A [(h_mm, .inr (8, (mo126 v_mm (.ref h_nv) (.ref h_nn) (.ref h_na) (.ref h_nb) (.ref h_nc) (.int z24) (.ref h_vrs) (.ref h_let) (.ref h_tap) (.int x_mm_taped) (.int z25) (.int z26) (.int z27) (.int z28) (.long z29) (.int z30) (.int z31) (.int z32) (.int 1) (.int x_mm_reading)))), (h_tap, .inl (cy_tap, 600, .inl f_tap)), (h_nv, .inl (cy_nv, 8000, .inl f33)), (h_nn, .inl (cy_nn, 8000, .inr (.inl f34))), (h_na, .inl (cy_na, 8000, .inl f67)), (h_nb, .inl (cy_nb, 8000, .inl f36)), (h_nc, .inl (cy_nc, 8000, .inl f37)), (h_vrs, .inl (cy_vrs, 32, .inl f38)), (h_let, .inl (cy_let, 256, .inl f39))] := by rw [ef67]; exact hD9
      have hS := hS9
      clear hP9 hD9 hS9
      have hf67 : Rg (-1) 7999 f67 := by rw [ef67]; exact rg_upd hf35 (by omega)
      have nd68 : ND lo (z24).toInt gh40 f67 f36 f37 := by rw [ef67]; exact nd_setA (n := (z24).toInt) (nd_cast k61 (by omega)) (by omega) (by unfold NDk; omega)
      have nd69 : EQ0 lo za zb zc zv f67 f36 f37 f33 := by rw [ef67]; exact eq0_A k60 (by omega) (by omega)
      clear k52
      clear ef67
      refine lv_aload_n hx hb dX11_readsParts_56 rfl (lv_at hl 0 rfl) ?_
      refine lv_bipush (v := 44) hx hb dX11_readsParts_57 (by decide) ?_
      obtain ⟨vq70, evq70⟩ := mq126_92 v_mm (.ref h_nv) (.ref h_nn) (.ref h_na) (.ref h_nb) (.ref h_nc) (.int z24) (.ref h_vrs) (.ref h_let) (.int z31) (.int z32) (.int 1) (.int x_mm_reading)
      replace hP : va_P (dC, dI) cls [(h_mm, .inr (8, (mo92 vq70 (.ref h_tap) (.int x_mm_taped) (.int z25) (.int z26) (.int z27) (.int z28) (.long z29) (.int z30)))), (h_tap, .inl (cy_tap, 600, .inl f_tap)), (h_nv, .inl (cy_nv, 8000, .inl f33)), (h_nn, .inl (cy_nn, 8000, .inr (.inl f34))), (h_na, .inl (cy_na, 8000, .inl f67)), (h_nb, .inl (cy_nb, 8000, .inl f36)), (h_nc, .inl (cy_nc, 8000, .inl f37)), (h_vrs, .inl (cy_vrs, 32, .inl f38)), (h_let, .inl (cy_let, 256, .inl f39))] H := by rw [evq70]; exact hP
      replace hD : va_D A [(h_mm, .inr (8, (mo92 vq70 (.ref h_tap) (.int x_mm_taped) (.int z25) (.int z26) (.int z27) (.int z28) (.long z29) (.int z30)))), (h_tap, .inl (cy_tap, 600, .inl f_tap)), (h_nv, .inl (cy_nv, 8000, .inl f33)), (h_nn, .inl (cy_nn, 8000, .inr (.inl f34))), (h_na, .inl (cy_na, 8000, .inl f67)), (h_nb, .inl (cy_nb, 8000, .inl f36)), (h_nc, .inl (cy_nc, 8000, .inl f37)), (h_vrs, .inl (cy_vrs, 32, .inl f38)), (h_let, .inl (cy_let, 256, .inl f39))] := by rw [evq70]; exact hD
      have cst44 : (44 : Int32).toInt = 44 := by decide
      have hPc := hP.sub (ws' := [(h_mm, .inr (8, (mo92 vq70 (.ref h_tap) (.int x_mm_taped) (.int z25) (.int z26) (.int z27) (.int z28) (.long z29) (.int z30)))), (h_tap, .inl (cy_tap, 600, .inl f_tap))]) [0, 1] rfl
      have hDc := hD.sub (ws' := [(h_mm, .inr (8, (mo92 vq70 (.ref h_tap) (.int x_mm_taped) (.int z25) (.int z26) (.int z27) (.int z28) (.long z29) (.int z30)))), (h_tap, .inl (cy_tap, 600, .inl f_tap))]) [0, 1] (by decide) rfl
      have hKc := hK.sub (tys' := [(cy_tap, .byte)]) [0] rfl
      have hFc := va_free (wc := [(h_mm, .inr (8, (mo92 vq70 (.ref h_tap) (.int x_mm_taped) (.int z25) (.int z26) (.int z27) (.int z28) (.long z29) (.int z30)))), (h_tap, .inl (cy_tap, 600, .inl f_tap))]) hD hS hA [0, 1] rfl
      refine va_calli (va_runV (As := [.int 44]) (rest := []) ⟨hx, hb, hml, hown, hts⟩ (c_X11_passes l dC dI H.size h_mm h_tap vq70 x_mm_taped z25 z26 z27 z28 z29 z30 cy_tap f_tap 44 G (by first | exact hx_mm_taped | omega) (by first | exact k42 | omega) (by first | exact k43 | omega) (by first | exact k44 | omega) (by first | exact k45 | omega) (by first | exact k47 | omega) (by omega) (by omega) (by first | exact k56 | omega) (by first | exact k57 | omega) (by first | exact k58 | omega) (by first | exact k59 | omega) hn_tapq) (cwV 1 hts (gv hT w_m_X11_136 w_instanceMethod_X11_passes ws_sel_X11_passes w_ini_X11 w_code_X11_passes) rfl rfl rfl (by decide +kernel) ⟨(Nat.le_of_ble_eq_true rfl), (Nat.le_of_ble_eq_true rfl)⟩) ⟨pre_blind, va_recv hK hP (ci := 8) (q0 := 0) rfl rfl, pre_of hPc hKc hDc hN⟩ rfl rfl hl.1 rfl (lv_room (Nat.le_of_ble_eq_true rfl)) dX11_readsParts_59 ⟨(Nat.le_of_ble_eq_true rfl), (Nat.le_of_ble_eq_true rfl)⟩) hS (fun q _ h => hFc q h) hFc (fun r71 u t H locs ht hvm hq hB hz1 hk1 hS9 => ?_)
      obtain ⟨z72, z73, z74, z75, z76⟩ := u
      obtain ⟨hP1, hD1⟩ := hB
      rw [ht] at hP1
      obtain ⟨hP9, hD9⟩ := va_join (wr := [(h_nv, .inl (cy_nv, 8000, .inl f33)), (h_nn, .inl (cy_nn, 8000, .inr (.inl f34))), (h_na, .inl (cy_na, 8000, .inl f67)), (h_nb, .inl (cy_nb, 8000, .inl f36)), (h_nc, .inl (cy_nc, 8000, .inl f37)), (h_vrs, .inl (cy_vrs, 32, .inl f38)), (h_let, .inl (cy_let, 256, .inl f39))]) (w1 := [(h_mm, .inr (8, (mo92 vq70 (.ref h_tap) (.int x_mm_taped) (.int z72) (.int z73) (.int z74) (.int z75) (.long z76) (.int z30)))), (h_tap, .inl (cy_tap, 600, .inl f_tap))]) hP hD [0, 1] [2, 3, 4, 5, 6, 7, 8] rfl rfl (by decide) (by decide) hk1 hFc hP1 hD1
      clear hP hD hS hPc hDc hKc hFc hP1 hD1 hk1 hz1 ht hvm
      have hP : va_P (dC, dI) cls [(h_nv, .inl (cy_nv, 8000, .inl f33)), (h_nn, .inl (cy_nn, 8000, .inr (.inl f34))), (h_na, .inl (cy_na, 8000, .inl f67)), (h_nb, .inl (cy_nb, 8000, .inl f36)), (h_nc, .inl (cy_nc, 8000, .inl f37)), (h_vrs, .inl (cy_vrs, 32, .inl f38)), (h_let, .inl (cy_let, 256, .inl f39)), (h_mm, .inr (8, (mo92 vq70 (.ref h_tap) (.int x_mm_taped) (.int z72) (.int z73) (.int z74) (.int z75) (.long z76) (.int z30)))), (h_tap, .inl (cy_tap, 600, .inl f_tap))] H := hP9
      have hD : va_D A [(h_nv, .inl (cy_nv, 8000, .inl f33)), (h_nn, .inl (cy_nn, 8000, .inr (.inl f34))), (h_na, .inl (cy_na, 8000, .inl f67)), (h_nb, .inl (cy_nb, 8000, .inl f36)), (h_nc, .inl (cy_nc, 8000, .inl f37)), (h_vrs, .inl (cy_vrs, 32, .inl f38)), (h_let, .inl (cy_let, 256, .inl f39)), (h_mm, .inr (8, (mo92 vq70 (.ref h_tap) (.int x_mm_taped) (.int z72) (.int z73) (.int z74) (.int z75) (.long z76) (.int z30)))), (h_tap, .inl (cy_tap, 600, .inl f_tap))] := hD9
      have hS := hS9
      clear hP9 hD9 hS9
      rw [evq70] at hP hD
      replace hP : va_P (dC, dI) cls [(h_nv, .inl (cy_nv, 8000, .inl f33)), (h_nn, .inl (cy_nn, 8000, .inr (.inl f34))), (h_na, .inl (cy_na, 8000, .inl f67)), (h_nb, .inl (cy_nb, 8000, .inl f36)), (h_nc, .inl (cy_nc, 8000, .inl f37)), (h_vrs, .inl (cy_vrs, 32, .inl f38)), (h_let, .inl (cy_let, 256, .inl f39)), (h_mm, .inr (8, (mo126 v_mm (.ref h_nv) (.ref h_nn) (.ref h_na) (.ref h_nb) (.ref h_nc) (.int z24) (.ref h_vrs) (.ref h_let) (.ref h_tap) (.int x_mm_taped) (.int z72) (.int z73) (.int z74) (.int z75) (.long z76) (.int z30) (.int z31) (.int z32) (.int 1) (.int x_mm_reading)))), (h_tap, .inl (cy_tap, 600, .inl f_tap))] H := hP
      replace hD : va_D A [(h_nv, .inl (cy_nv, 8000, .inl f33)), (h_nn, .inl (cy_nn, 8000, .inr (.inl f34))), (h_na, .inl (cy_na, 8000, .inl f67)), (h_nb, .inl (cy_nb, 8000, .inl f36)), (h_nc, .inl (cy_nc, 8000, .inl f37)), (h_vrs, .inl (cy_vrs, 32, .inl f38)), (h_let, .inl (cy_let, 256, .inl f39)), (h_mm, .inr (8, (mo126 v_mm (.ref h_nv) (.ref h_nn) (.ref h_na) (.ref h_nb) (.ref h_nc) (.int z24) (.ref h_vrs) (.ref h_let) (.ref h_tap) (.int x_mm_taped) (.int z72) (.int z73) (.int z74) (.int z75) (.long z76) (.int z30) (.int z31) (.int z32) (.int 1) (.int x_mm_reading)))), (h_tap, .inl (cy_tap, 600, .inl f_tap))] := hD
      clear evq70 
      obtain ⟨k77, k78, k79, k80, k81, k82, k83, k84, hq⟩ := hq
      replace k77 : 0 ≤ ((z72)).toInt ∧ ((z72)).toInt ≤ 600 := k77
      replace k78 : 0 ≤ ((z73)).toInt ∧ ((z73)).toInt ≤ 600 := k78
      replace k79 : 0 ≤ ((z74)).toInt ∧ ((z74)).toInt ≤ 4 := k79
      replace k80 : ((z73)).toInt ≤ ((z72)).toInt := k80
      replace k81 : ((z74)).toInt = kd (tkT (G) ((x_mm_taped)).toInt ((z73)).toInt) := k81
      replace k82 : ((z74)).toInt = 0 ∨ (((z72)).toInt = tkX (G) ((x_mm_taped)).toInt ((z73)).toInt ∧ ((z75)).toInt = (G) ((z73)).toInt ∧ ((z73)).toInt < ((x_mm_taped)).toInt ∧ ((z73)).toInt + 1 ≤ ((z72)).toInt) := k82
      replace k83 : ((z72)).toInt ≤ ((x_mm_taped)).toInt := k83
      replace k84 : ((z73)).toInt ≤ ((x_mm_taped)).toInt := k84
      rcases hq with ⟨rfl, hq⟩ | ⟨rfl, hq⟩ | ⟨rfl, hq⟩
      · replace hq : (((z30)).toInt = 0) ∧ (tkT (G) ((x_mm_taped)).toInt ((z26)).toInt = ((44 : Int32)).toInt) ∧ (((z73)).toInt = tkN (G) ((x_mm_taped)).toInt ((z26)).toInt) ∧ (((z25)).toInt ≤ ((z73)).toInt) ∧ (((z26)).toInt + 1 ≤ ((z73)).toInt) := hq
        clear k57
        obtain ⟨hq1, hq2, hq3, hq4, hq5⟩ := hq
        have cst44 : (44 : Int32).toInt = 44 := by decide
        have on9 := pLo_on (G := G) (n := (x_mm_taped).toInt) (P := (pPs G (x_mm_taped).toInt 5)) (r := 2) (q := (x_mm_place).toInt) (nv := nv) (vf := vf) (by rw [← erh65]; omega) (by rw [← erh65, ← k54]; omega)
        rw [← erh65, ← k54] at on9
        have lo85 := on9.symm.trans lo0
        clear on9
        have tn86 := hq3
        refine lv_if_eq (tgt := 119) hx hb dX11_readsParts_62 (by decide) (fun c9 => absurd c9 (by decide)) (fun _ => ?_)
        refine lv_aload_n hx hb dX11_readsParts_65 rfl (lv_at hl 0 rfl) ?_
        refine va_get (D := (dC, dI)) (ci := 8) (v := .ref h_nb) (C := RX11) (T := TX11) (N := 71) hx hb hw iwX11 hown hK hP 7 rfl rfl 4 (by decide) (hw _ w_f_X11_11) (fun _ h9 => h9) rfl dX11_readsParts_66 ?_
        refine lv_iload_n hx hb dX11_readsParts_69 rfl (lv_at hl 1 rfl) ?_
        refine lv_aload_n hx hb dX11_readsParts_70 rfl (lv_at hl 0 rfl) ?_
        have hPc := hP.sub (ws' := [(h_mm, .inr (8, (mo126 v_mm (.ref h_nv) (.ref h_nn) (.ref h_na) (.ref h_nb) (.ref h_nc) (.int z24) (.ref h_vrs) (.ref h_let) (.ref h_tap) (.int x_mm_taped) (.int z72) (.int z73) (.int z74) (.int z75) (.long z76) (.int z30) (.int z31) (.int z32) (.int 1) (.int x_mm_reading)))), (h_tap, .inl (cy_tap, 600, .inl f_tap)), (h_nv, .inl (cy_nv, 8000, .inl f33)), (h_nn, .inl (cy_nn, 8000, .inr (.inl f34))), (h_na, .inl (cy_na, 8000, .inl f67)), (h_nb, .inl (cy_nb, 8000, .inl f36)), (h_nc, .inl (cy_nc, 8000, .inl f37)), (h_vrs, .inl (cy_vrs, 32, .inl f38)), (h_let, .inl (cy_let, 256, .inl f39))]) [7, 8, 0, 1, 2, 3, 4, 5, 6] rfl
        have hDc := hD.sub (ws' := [(h_mm, .inr (8, (mo126 v_mm (.ref h_nv) (.ref h_nn) (.ref h_na) (.ref h_nb) (.ref h_nc) (.int z24) (.ref h_vrs) (.ref h_let) (.ref h_tap) (.int x_mm_taped) (.int z72) (.int z73) (.int z74) (.int z75) (.long z76) (.int z30) (.int z31) (.int z32) (.int 1) (.int x_mm_reading)))), (h_tap, .inl (cy_tap, 600, .inl f_tap)), (h_nv, .inl (cy_nv, 8000, .inl f33)), (h_nn, .inl (cy_nn, 8000, .inr (.inl f34))), (h_na, .inl (cy_na, 8000, .inl f67)), (h_nb, .inl (cy_nb, 8000, .inl f36)), (h_nc, .inl (cy_nc, 8000, .inl f37)), (h_vrs, .inl (cy_vrs, 32, .inl f38)), (h_let, .inl (cy_let, 256, .inl f39))]) [7, 8, 0, 1, 2, 3, 4, 5, 6] (by decide) rfl
        have hKc := hK.sub (tys' := [(cy_tap, .byte), (cy_nv, .int), (cy_nn, .long), (cy_na, .int), (cy_nb, .int), (cy_nc, .int), (cy_vrs, .int), (cy_let, .int)]) [0, 1, 2, 3, 4, 5, 6, 7] rfl
        have hFc := va_free (wc := [(h_mm, .inr (8, (mo126 v_mm (.ref h_nv) (.ref h_nn) (.ref h_na) (.ref h_nb) (.ref h_nc) (.int z24) (.ref h_vrs) (.ref h_let) (.ref h_tap) (.int x_mm_taped) (.int z72) (.int z73) (.int z74) (.int z75) (.long z76) (.int z30) (.int z31) (.int z32) (.int 1) (.int x_mm_reading)))), (h_tap, .inl (cy_tap, 600, .inl f_tap)), (h_nv, .inl (cy_nv, 8000, .inl f33)), (h_nn, .inl (cy_nn, 8000, .inr (.inl f34))), (h_na, .inl (cy_na, 8000, .inl f67)), (h_nb, .inl (cy_nb, 8000, .inl f36)), (h_nc, .inl (cy_nc, 8000, .inl f37)), (h_vrs, .inl (cy_vrs, 32, .inl f38)), (h_let, .inl (cy_let, 256, .inl f39))]) hD hS hA [7, 8, 0, 1, 2, 3, 4, 5, 6] rfl
        refine va_calli (va_runV (As := []) (rest := [.int p1, .ref h_nb]) ⟨hx, hb, hml, hown, hts⟩ (c_X11_readsTerm_1 l dC dI H.size h_mm h_tap h_nv h_nn h_na h_nb h_nc h_vrs h_let v_mm z24 x_mm_taped z72 z73 z74 z75 z76 z30 z31 z32 x_mm_reading cy_tap f_tap cy_nv f33 cy_nn f34 cy_na f67 cy_nb f36 cy_nc f37 cy_vrs f38 cy_let f39 lo gh40 za zb zc zv G (rh65).2.2.1 (rh65).2.2.2 (by first | exact k41 | omega) (by first | exact hx_mm_taped | omega) (by first | exact k77 | omega) (by first | exact k78 | omega) (by first | exact k79 | omega) (by first | exact k45 | omega) (by first | exact hx_mm_reading | omega) hf33 hf67 hf36 hf37 hf38 (by first | exact k80 | omega) (by omega) (by omega) (by omega) (by first | exact k81 | omega) (by first | exact k82 | omega) (by first | exact k83 | omega) (by first | exact k84 | omega) (by omega) (by omega) nd69 (nd_cast nd68 (by omega)) hn_tapq k63 k64) (cwV 0 hts (gv hT w_m_X11_133 w_instanceMethod_X11_readsTerm ws_sel_X11_readsTerm w_ini_X11 w_code_X11_readsTerm) rfl rfl rfl (by decide +kernel) ⟨(Nat.le_of_ble_eq_true rfl), (Nat.le_of_ble_eq_true rfl)⟩) ⟨pre_blind, va_recv hK hP (ci := 8) (q0 := 7) rfl rfl, pre_of hPc hKc hDc hN⟩ rfl rfl hl.1 rfl (lv_room (Nat.le_of_ble_eq_true rfl)) dX11_readsParts_71 ⟨(Nat.le_of_ble_eq_true rfl), (Nat.le_of_ble_eq_true rfl)⟩) hS (fun q _ h => hFc q h) hFc (fun r87 u t H locs ht hvm hq hB hz1 hk1 hS9 => ?_)
        obtain ⟨z88, z89, z90, z91, z92, z93, z94, z95, z96, f97, f98, f99, f100, f101, f102, f103, gh104⟩ := u
        obtain ⟨hP1, hD1⟩ := hB
        rw [ht] at hP1
        obtain ⟨hP9, hD9⟩ := va_join (wr := []) (w1 := [(h_mm, .inr (8, (mo126 v_mm (.ref h_nv) (.ref h_nn) (.ref h_na) (.ref h_nb) (.ref h_nc) (.int z88) (.ref h_vrs) (.ref h_let) (.ref h_tap) (.int x_mm_taped) (.int z89) (.int z90) (.int z91) (.int z92) (.long z93) (.int z94) (.int z95) (.int z96) (.int 1) (.int x_mm_reading)))), (h_tap, .inl (cy_tap, 600, .inl f_tap)), (h_nv, .inl (cy_nv, 8000, .inl f97)), (h_nn, .inl (cy_nn, 8000, .inr (.inl f98))), (h_na, .inl (cy_na, 8000, .inl f99)), (h_nb, .inl (cy_nb, 8000, .inl f100)), (h_nc, .inl (cy_nc, 8000, .inl f101)), (h_vrs, .inl (cy_vrs, 32, .inl f102)), (h_let, .inl (cy_let, 256, .inl f103))]) hP hD [7, 8, 0, 1, 2, 3, 4, 5, 6] [] rfl rfl (by decide) (by decide) hk1 hFc hP1 hD1
        clear hP hD hS hPc hDc hKc hFc hP1 hD1 hk1 hz1 ht hvm
        have hP : va_P (dC, dI) cls [(h_mm, .inr (8, (mo126 v_mm (.ref h_nv) (.ref h_nn) (.ref h_na) (.ref h_nb) (.ref h_nc) (.int z88) (.ref h_vrs) (.ref h_let) (.ref h_tap) (.int x_mm_taped) (.int z89) (.int z90) (.int z91) (.int z92) (.long z93) (.int z94) (.int z95) (.int z96) (.int 1) (.int x_mm_reading)))), (h_tap, .inl (cy_tap, 600, .inl f_tap)), (h_nv, .inl (cy_nv, 8000, .inl f97)), (h_nn, .inl (cy_nn, 8000, .inr (.inl f98))), (h_na, .inl (cy_na, 8000, .inl f99)), (h_nb, .inl (cy_nb, 8000, .inl f100)), (h_nc, .inl (cy_nc, 8000, .inl f101)), (h_vrs, .inl (cy_vrs, 32, .inl f102)), (h_let, .inl (cy_let, 256, .inl f103))] H := hP9
        have hD : va_D A [(h_mm, .inr (8, (mo126 v_mm (.ref h_nv) (.ref h_nn) (.ref h_na) (.ref h_nb) (.ref h_nc) (.int z88) (.ref h_vrs) (.ref h_let) (.ref h_tap) (.int x_mm_taped) (.int z89) (.int z90) (.int z91) (.int z92) (.long z93) (.int z94) (.int z95) (.int z96) (.int 1) (.int x_mm_reading)))), (h_tap, .inl (cy_tap, 600, .inl f_tap)), (h_nv, .inl (cy_nv, 8000, .inl f97)), (h_nn, .inl (cy_nn, 8000, .inr (.inl f98))), (h_na, .inl (cy_na, 8000, .inl f99)), (h_nb, .inl (cy_nb, 8000, .inl f100)), (h_nc, .inl (cy_nc, 8000, .inl f101)), (h_vrs, .inl (cy_vrs, 32, .inl f102)), (h_let, .inl (cy_let, 256, .inl f103))] := hD9
        have hS := hS9
        clear hP9 hD9 hS9
        obtain ⟨k105, k106, k107, k108, k109, hf97, hf99, hf100, hf101, hf102, k110, k111, k112, k113, k114, k115, k116, k117, k118, k119, k120, k121, k122, k123, k124, k125, k126, k127, k128⟩ := hq
        replace k105 : 0 ≤ ((z88)).toInt ∧ ((z88)).toInt ≤ 1200 := k105
        replace k106 : 0 ≤ ((z89)).toInt ∧ ((z89)).toInt ≤ 600 := k106
        replace k107 : 0 ≤ ((z90)).toInt ∧ ((z90)).toInt ≤ 600 := k107
        replace k108 : 0 ≤ ((z91)).toInt ∧ ((z91)).toInt ≤ 4 := k108
        replace k109 : 0 ≤ ((z94)).toInt ∧ ((z94)).toInt ≤ 1 := k109
        replace hf97 : Rg (-1) 7 (f97) := hf97
        replace hf99 : Rg (-1) 7999 (f99) := hf99
        replace hf100 : Rg (-1) 7999 (f100) := hf100
        replace hf101 : Rg (-1) 7999 (f101) := hf101
        replace hf102 : Rg 0 8 (f102) := hf102
        replace k110 : -1 ≤ (r87).toInt ∧ (r87).toInt ≤ 1199 := k110
        replace k111 : ((z90)).toInt ≤ ((z89)).toInt := k111
        replace k112 : ((z94)).toInt = 1 ∨ ((z88)).toInt ≤ (lo) + ((z90)).toInt := k112
        replace k113 : ((z24)).toInt ≤ ((z88)).toInt := k113
        replace k114 : ((z73)).toInt ≤ ((z90)).toInt := k114
        replace k115 : ((z30)).toInt ≤ ((z94)).toInt := k115
        replace k116 : ((r87)).toInt = -1 ∨ ((lo) ≤ ((r87)).toInt ∧ ((r87)).toInt < ((z88)).toInt ∧ (gh104) ((r87)).toInt.toNat = 6) := k116
        replace k117 : (((z94)).toInt = 0 ∧ ((pTm (G) ((x_mm_taped)).toInt (pPs (G) ((x_mm_taped)).toInt 5) ((z73)).toInt ((rh65).2.2.1) ((rh65).2.2.2))).1 = 0 ∧ ((z95)).toInt = ((z31)).toInt ∧ ((z96)).toInt = ((z32)).toInt) ∨ (((z94)).toInt = 1 ∧ ¬ ((pTm (G) ((x_mm_taped)).toInt (pPs (G) ((x_mm_taped)).toInt 5) ((z73)).toInt ((rh65).2.2.1) ((rh65).2.2.2))).1 = 0 ∧ ((z95)).toInt = ((pTm (G) ((x_mm_taped)).toInt (pPs (G) ((x_mm_taped)).toInt 5) ((z73)).toInt ((rh65).2.2.1) ((rh65).2.2.2))).1 ∧ ((z96)).toInt = ((pTm (G) ((x_mm_taped)).toInt (pPs (G) ((x_mm_taped)).toInt 5) ((z73)).toInt ((rh65).2.2.1) ((rh65).2.2.2))).2.1) := k117
        replace k118 : ((z90)).toInt = ((pTm (G) ((x_mm_taped)).toInt (pPs (G) ((x_mm_taped)).toInt 5) ((z73)).toInt ((rh65).2.2.1) ((rh65).2.2.2))).2.1 := k118
        replace k119 : 0 ≤ ((pTm (G) ((x_mm_taped)).toInt (pPs (G) ((x_mm_taped)).toInt 5) ((z73)).toInt ((rh65).2.2.1) ((rh65).2.2.2))).2.2.1 ∧ ((pTm (G) ((x_mm_taped)).toInt (pPs (G) ((x_mm_taped)).toInt 5) ((z73)).toInt ((rh65).2.2.1) ((rh65).2.2.2))).2.2.1 ≤ 8 := k119
        replace k120 : ((z91)).toInt = kd (tkT (G) ((x_mm_taped)).toInt ((z90)).toInt) := k120
        replace k121 : ((z91)).toInt = 0 ∨ (((z89)).toInt = tkX (G) ((x_mm_taped)).toInt ((z90)).toInt ∧ ((z92)).toInt = (G) ((z90)).toInt ∧ ((z90)).toInt < ((x_mm_taped)).toInt ∧ ((z90)).toInt + 1 ≤ ((z89)).toInt) := k121
        replace k122 : ((z89)).toInt ≤ ((x_mm_taped)).toInt := k122
        replace k123 : ((z90)).toInt ≤ ((x_mm_taped)).toInt := k123
        replace k124 : EQ0 (lo) (za) (zb) (zc) (zv) (f99) (f100) (f101) (f97) := k124
        replace k125 : ND (lo) ((z88)).toInt (gh104) (f99) (f100) (f101) := k125
        replace k126 : ∀ y : Nat, (y : Int) < ((z24)).toInt → (gh104) y = (gh40) y := k126
        replace k127 : ((f102) (Int32.toNatClampNeg (x_mm_reading))).toInt = ((pTm (G) ((x_mm_taped)).toInt (pPs (G) ((x_mm_taped)).toInt 5) ((z73)).toInt ((rh65).2.2.1) ((rh65).2.2.2))).2.2.1 := k127
        replace k128 : VFM ((pTm (G) ((x_mm_taped)).toInt (pPs (G) ((x_mm_taped)).toInt 5) ((z73)).toInt ((rh65).2.2.1) ((rh65).2.2.2))).2.2.1 ((pTm (G) ((x_mm_taped)).toInt (pPs (G) ((x_mm_taped)).toInt 5) ((z73)).toInt ((rh65).2.2.1) ((rh65).2.2.2))).2.2.2 (f103) ((x_mm_reading)).toInt := k128
        obtain ⟨rh129, erh129⟩ : ∃ x : PR, x = (pTm (G) ((x_mm_taped)).toInt (pPs (G) ((x_mm_taped)).toInt 5) ((z73)).toInt ((rh65).2.2.1) ((rh65).2.2.2)) := ⟨_, rfl⟩
        rw [← erh129] at k117 k118 k119 k127 k128
        rw [tn86] at erh129
        have := k126 (p1).toInt.toNat (by omega)
        clear k82
        rcases k117 with ⟨fq130a, fq130b, fq130c, fq130d⟩ | ⟨fq130a, fq130b, fq130c, fq130d⟩
        · replace k112 : (z88).toInt ≤ lo + (z90).toInt := by rcases k112 with j9 | j9; (exact absurd j9 (by omega)); exact j9
          refine va_iast hx hb hK hP hD hS 5 4 rfl rfl (i := p1) (x := r87) (vp_in_iff.mpr (by omega)) dX11_readsParts_74 (fun H locs hP9 hD9 hS9 => ?_)
          obtain ⟨f131, ef131⟩ : ∃ g : Nat → Int32, g = upd f100 (Int32.toNatClampNeg p1) r87 := ⟨_, rfl⟩
          clear hP hD hS
          have hP : va_P (dC, dI) cls [(h_mm, .inr (8, (mo126 v_mm (.ref h_nv) (.ref h_nn) (.ref h_na) (.ref h_nb) (.ref h_nc) (.int z88) (.ref h_vrs) (.ref h_let) (.ref h_tap) (.int x_mm_taped) (.int z89) (.int z90) (.int z91) (.int z92) (.long z93) (.int z94) (.int z95) (.int z96) (.int 1) (.int x_mm_reading)))), (h_tap, .inl (cy_tap, 600, .inl f_tap)), (h_nv, .inl (cy_nv, 8000, .inl f97)), (h_nn, .inl (cy_nn, 8000, .inr (.inl f98))), (h_na, .inl (cy_na, 8000, .inl f99)), (h_nb, .inl (cy_nb, 8000, .inl f131)), (h_nc, .inl (cy_nc, 8000, .inl f101)), (h_vrs, .inl (cy_vrs, 32, .inl f102)), (h_let, .inl (cy_let, 256, .inl f103))] H := by rw [ef131]; exact hP9
          have hD : va_D A [(h_mm, .inr (8, (mo126 v_mm (.ref h_nv) (.ref h_nn) (.ref h_na) (.ref h_nb) (.ref h_nc) (.int z88) (.ref h_vrs) (.ref h_let) (.ref h_tap) (.int x_mm_taped) (.int z89) (.int z90) (.int z91) (.int z92) (.long z93) (.int z94) (.int z95) (.int z96) (.int 1) (.int x_mm_reading)))), (h_tap, .inl (cy_tap, 600, .inl f_tap)), (h_nv, .inl (cy_nv, 8000, .inl f97)), (h_nn, .inl (cy_nn, 8000, .inr (.inl f98))), (h_na, .inl (cy_na, 8000, .inl f99)), (h_nb, .inl (cy_nb, 8000, .inl f131)), (h_nc, .inl (cy_nc, 8000, .inl f101)), (h_vrs, .inl (cy_vrs, 32, .inl f102)), (h_let, .inl (cy_let, 256, .inl f103))] := by rw [ef131]; exact hD9
          have hS := hS9
          clear hP9 hD9 hS9
          have hf131 : Rg (-1) 7999 f131 := by rw [ef131]; exact rg_upd hf100 (by omega)
          have nd132 : ND lo (z88).toInt gh104 f99 f131 f101 := by rw [ef131]; exact nd_setB (n := (z88).toInt) (nd_cast k125 (by omega)) (by omega) (by unfold NDk; omega)
          have nd133 : EQ0 lo za zb zc zv f99 f131 f101 f97 := by rw [ef131]; exact eq0_B k124 (by omega) (by omega)
          clear k116
          clear ef131
          refine lv_aload_n hx hb dX11_readsParts_75 rfl (lv_at hl 0 rfl) ?_
          refine lv_bipush (v := 44) hx hb dX11_readsParts_76 (by decide) ?_
          obtain ⟨vq134, evq134⟩ := mq126_92 v_mm (.ref h_nv) (.ref h_nn) (.ref h_na) (.ref h_nb) (.ref h_nc) (.int z88) (.ref h_vrs) (.ref h_let) (.int z95) (.int z96) (.int 1) (.int x_mm_reading)
          replace hP : va_P (dC, dI) cls [(h_mm, .inr (8, (mo92 vq134 (.ref h_tap) (.int x_mm_taped) (.int z89) (.int z90) (.int z91) (.int z92) (.long z93) (.int z94)))), (h_tap, .inl (cy_tap, 600, .inl f_tap)), (h_nv, .inl (cy_nv, 8000, .inl f97)), (h_nn, .inl (cy_nn, 8000, .inr (.inl f98))), (h_na, .inl (cy_na, 8000, .inl f99)), (h_nb, .inl (cy_nb, 8000, .inl f131)), (h_nc, .inl (cy_nc, 8000, .inl f101)), (h_vrs, .inl (cy_vrs, 32, .inl f102)), (h_let, .inl (cy_let, 256, .inl f103))] H := by rw [evq134]; exact hP
          replace hD : va_D A [(h_mm, .inr (8, (mo92 vq134 (.ref h_tap) (.int x_mm_taped) (.int z89) (.int z90) (.int z91) (.int z92) (.long z93) (.int z94)))), (h_tap, .inl (cy_tap, 600, .inl f_tap)), (h_nv, .inl (cy_nv, 8000, .inl f97)), (h_nn, .inl (cy_nn, 8000, .inr (.inl f98))), (h_na, .inl (cy_na, 8000, .inl f99)), (h_nb, .inl (cy_nb, 8000, .inl f131)), (h_nc, .inl (cy_nc, 8000, .inl f101)), (h_vrs, .inl (cy_vrs, 32, .inl f102)), (h_let, .inl (cy_let, 256, .inl f103))] := by rw [evq134]; exact hD
          have cst44 : (44 : Int32).toInt = 44 := by decide
          have hPc := hP.sub (ws' := [(h_mm, .inr (8, (mo92 vq134 (.ref h_tap) (.int x_mm_taped) (.int z89) (.int z90) (.int z91) (.int z92) (.long z93) (.int z94)))), (h_tap, .inl (cy_tap, 600, .inl f_tap))]) [0, 1] rfl
          have hDc := hD.sub (ws' := [(h_mm, .inr (8, (mo92 vq134 (.ref h_tap) (.int x_mm_taped) (.int z89) (.int z90) (.int z91) (.int z92) (.long z93) (.int z94)))), (h_tap, .inl (cy_tap, 600, .inl f_tap))]) [0, 1] (by decide) rfl
          have hKc := hK.sub (tys' := [(cy_tap, .byte)]) [0] rfl
          have hFc := va_free (wc := [(h_mm, .inr (8, (mo92 vq134 (.ref h_tap) (.int x_mm_taped) (.int z89) (.int z90) (.int z91) (.int z92) (.long z93) (.int z94)))), (h_tap, .inl (cy_tap, 600, .inl f_tap))]) hD hS hA [0, 1] rfl
          refine va_calli (va_runV (As := [.int 44]) (rest := []) ⟨hx, hb, hml, hown, hts⟩ (c_X11_passes l dC dI H.size h_mm h_tap vq134 x_mm_taped z89 z90 z91 z92 z93 z94 cy_tap f_tap 44 G (by first | exact hx_mm_taped | omega) (by first | exact k106 | omega) (by first | exact k107 | omega) (by first | exact k108 | omega) (by first | exact k109 | omega) (by first | exact k111 | omega) (by omega) (by omega) (by first | exact k120 | omega) (by first | exact k121 | omega) (by first | exact k122 | omega) (by first | exact k123 | omega) hn_tapq) (cwV 1 hts (gv hT w_m_X11_136 w_instanceMethod_X11_passes ws_sel_X11_passes w_ini_X11 w_code_X11_passes) rfl rfl rfl (by decide +kernel) ⟨(Nat.le_of_ble_eq_true rfl), (Nat.le_of_ble_eq_true rfl)⟩) ⟨pre_blind, va_recv hK hP (ci := 8) (q0 := 0) rfl rfl, pre_of hPc hKc hDc hN⟩ rfl rfl hl.1 rfl (lv_room (Nat.le_of_ble_eq_true rfl)) dX11_readsParts_78 ⟨(Nat.le_of_ble_eq_true rfl), (Nat.le_of_ble_eq_true rfl)⟩) hS (fun q _ h => hFc q h) hFc (fun r135 u t H locs ht hvm hq hB hz1 hk1 hS9 => ?_)
          obtain ⟨z136, z137, z138, z139, z140⟩ := u
          obtain ⟨hP1, hD1⟩ := hB
          rw [ht] at hP1
          obtain ⟨hP9, hD9⟩ := va_join (wr := [(h_nv, .inl (cy_nv, 8000, .inl f97)), (h_nn, .inl (cy_nn, 8000, .inr (.inl f98))), (h_na, .inl (cy_na, 8000, .inl f99)), (h_nb, .inl (cy_nb, 8000, .inl f131)), (h_nc, .inl (cy_nc, 8000, .inl f101)), (h_vrs, .inl (cy_vrs, 32, .inl f102)), (h_let, .inl (cy_let, 256, .inl f103))]) (w1 := [(h_mm, .inr (8, (mo92 vq134 (.ref h_tap) (.int x_mm_taped) (.int z136) (.int z137) (.int z138) (.int z139) (.long z140) (.int z94)))), (h_tap, .inl (cy_tap, 600, .inl f_tap))]) hP hD [0, 1] [2, 3, 4, 5, 6, 7, 8] rfl rfl (by decide) (by decide) hk1 hFc hP1 hD1
          clear hP hD hS hPc hDc hKc hFc hP1 hD1 hk1 hz1 ht hvm
          have hP : va_P (dC, dI) cls [(h_nv, .inl (cy_nv, 8000, .inl f97)), (h_nn, .inl (cy_nn, 8000, .inr (.inl f98))), (h_na, .inl (cy_na, 8000, .inl f99)), (h_nb, .inl (cy_nb, 8000, .inl f131)), (h_nc, .inl (cy_nc, 8000, .inl f101)), (h_vrs, .inl (cy_vrs, 32, .inl f102)), (h_let, .inl (cy_let, 256, .inl f103)), (h_mm, .inr (8, (mo92 vq134 (.ref h_tap) (.int x_mm_taped) (.int z136) (.int z137) (.int z138) (.int z139) (.long z140) (.int z94)))), (h_tap, .inl (cy_tap, 600, .inl f_tap))] H := hP9
          have hD : va_D A [(h_nv, .inl (cy_nv, 8000, .inl f97)), (h_nn, .inl (cy_nn, 8000, .inr (.inl f98))), (h_na, .inl (cy_na, 8000, .inl f99)), (h_nb, .inl (cy_nb, 8000, .inl f131)), (h_nc, .inl (cy_nc, 8000, .inl f101)), (h_vrs, .inl (cy_vrs, 32, .inl f102)), (h_let, .inl (cy_let, 256, .inl f103)), (h_mm, .inr (8, (mo92 vq134 (.ref h_tap) (.int x_mm_taped) (.int z136) (.int z137) (.int z138) (.int z139) (.long z140) (.int z94)))), (h_tap, .inl (cy_tap, 600, .inl f_tap))] := hD9
          have hS := hS9
          clear hP9 hD9 hS9
          rw [evq134] at hP hD
          replace hP : va_P (dC, dI) cls [(h_nv, .inl (cy_nv, 8000, .inl f97)), (h_nn, .inl (cy_nn, 8000, .inr (.inl f98))), (h_na, .inl (cy_na, 8000, .inl f99)), (h_nb, .inl (cy_nb, 8000, .inl f131)), (h_nc, .inl (cy_nc, 8000, .inl f101)), (h_vrs, .inl (cy_vrs, 32, .inl f102)), (h_let, .inl (cy_let, 256, .inl f103)), (h_mm, .inr (8, (mo126 v_mm (.ref h_nv) (.ref h_nn) (.ref h_na) (.ref h_nb) (.ref h_nc) (.int z88) (.ref h_vrs) (.ref h_let) (.ref h_tap) (.int x_mm_taped) (.int z136) (.int z137) (.int z138) (.int z139) (.long z140) (.int z94) (.int z95) (.int z96) (.int 1) (.int x_mm_reading)))), (h_tap, .inl (cy_tap, 600, .inl f_tap))] H := hP
          replace hD : va_D A [(h_nv, .inl (cy_nv, 8000, .inl f97)), (h_nn, .inl (cy_nn, 8000, .inr (.inl f98))), (h_na, .inl (cy_na, 8000, .inl f99)), (h_nb, .inl (cy_nb, 8000, .inl f131)), (h_nc, .inl (cy_nc, 8000, .inl f101)), (h_vrs, .inl (cy_vrs, 32, .inl f102)), (h_let, .inl (cy_let, 256, .inl f103)), (h_mm, .inr (8, (mo126 v_mm (.ref h_nv) (.ref h_nn) (.ref h_na) (.ref h_nb) (.ref h_nc) (.int z88) (.ref h_vrs) (.ref h_let) (.ref h_tap) (.int x_mm_taped) (.int z136) (.int z137) (.int z138) (.int z139) (.long z140) (.int z94) (.int z95) (.int z96) (.int 1) (.int x_mm_reading)))), (h_tap, .inl (cy_tap, 600, .inl f_tap))] := hD
          clear evq134 
          obtain ⟨k141, k142, k143, k144, k145, k146, k147, k148, hq⟩ := hq
          replace k141 : 0 ≤ ((z136)).toInt ∧ ((z136)).toInt ≤ 600 := k141
          replace k142 : 0 ≤ ((z137)).toInt ∧ ((z137)).toInt ≤ 600 := k142
          replace k143 : 0 ≤ ((z138)).toInt ∧ ((z138)).toInt ≤ 4 := k143
          replace k144 : ((z137)).toInt ≤ ((z136)).toInt := k144
          replace k145 : ((z138)).toInt = kd (tkT (G) ((x_mm_taped)).toInt ((z137)).toInt) := k145
          replace k146 : ((z138)).toInt = 0 ∨ (((z136)).toInt = tkX (G) ((x_mm_taped)).toInt ((z137)).toInt ∧ ((z139)).toInt = (G) ((z137)).toInt ∧ ((z137)).toInt < ((x_mm_taped)).toInt ∧ ((z137)).toInt + 1 ≤ ((z136)).toInt) := k146
          replace k147 : ((z136)).toInt ≤ ((x_mm_taped)).toInt := k147
          replace k148 : ((z137)).toInt ≤ ((x_mm_taped)).toInt := k148
          rcases hq with ⟨rfl, hq⟩ | ⟨rfl, hq⟩ | ⟨rfl, hq⟩
          · replace hq : (((z94)).toInt = 0) ∧ (tkT (G) ((x_mm_taped)).toInt ((z90)).toInt = ((44 : Int32)).toInt) ∧ (((z137)).toInt = tkN (G) ((x_mm_taped)).toInt ((z90)).toInt) ∧ (((z89)).toInt ≤ ((z137)).toInt) ∧ (((z90)).toInt + 1 ≤ ((z137)).toInt) := hq
            clear k121
            obtain ⟨hq1, hq2, hq3, hq4, hq5⟩ := hq
            have cst44 : (44 : Int32).toInt = 44 := by decide
            have on9 := pLo_on (G := G) (n := (x_mm_taped).toInt) (P := (pPs G (x_mm_taped).toInt 5)) (r := 1) (q := (z26).toInt) (nv := (rh65).2.2.1) (vf := (rh65).2.2.2) (by rw [← erh129]; omega) (by rw [← erh129, ← k118]; omega)
            rw [← erh129, ← k118] at on9
            have lo149 := on9.symm.trans lo85
            clear on9
            have tn150 := hq3
            refine lv_if_eq (tgt := 119) hx hb dX11_readsParts_81 (by decide) (fun c9 => absurd c9 (by decide)) (fun _ => ?_)
            refine lv_aload_n hx hb dX11_readsParts_84 rfl (lv_at hl 0 rfl) ?_
            refine va_get (D := (dC, dI)) (ci := 8) (v := .ref h_nc) (C := RX11) (T := TX11) (N := 71) hx hb hw iwX11 hown hK hP 7 rfl rfl 5 (by decide) (hw _ w_f_X11_14) (fun _ h9 => h9) rfl dX11_readsParts_85 ?_
            refine lv_iload_n hx hb dX11_readsParts_88 rfl (lv_at hl 1 rfl) ?_
            refine lv_aload_n hx hb dX11_readsParts_89 rfl (lv_at hl 0 rfl) ?_
            have hPc := hP.sub (ws' := [(h_mm, .inr (8, (mo126 v_mm (.ref h_nv) (.ref h_nn) (.ref h_na) (.ref h_nb) (.ref h_nc) (.int z88) (.ref h_vrs) (.ref h_let) (.ref h_tap) (.int x_mm_taped) (.int z136) (.int z137) (.int z138) (.int z139) (.long z140) (.int z94) (.int z95) (.int z96) (.int 1) (.int x_mm_reading)))), (h_tap, .inl (cy_tap, 600, .inl f_tap)), (h_nv, .inl (cy_nv, 8000, .inl f97)), (h_nn, .inl (cy_nn, 8000, .inr (.inl f98))), (h_na, .inl (cy_na, 8000, .inl f99)), (h_nb, .inl (cy_nb, 8000, .inl f131)), (h_nc, .inl (cy_nc, 8000, .inl f101)), (h_vrs, .inl (cy_vrs, 32, .inl f102)), (h_let, .inl (cy_let, 256, .inl f103))]) [7, 8, 0, 1, 2, 3, 4, 5, 6] rfl
            have hDc := hD.sub (ws' := [(h_mm, .inr (8, (mo126 v_mm (.ref h_nv) (.ref h_nn) (.ref h_na) (.ref h_nb) (.ref h_nc) (.int z88) (.ref h_vrs) (.ref h_let) (.ref h_tap) (.int x_mm_taped) (.int z136) (.int z137) (.int z138) (.int z139) (.long z140) (.int z94) (.int z95) (.int z96) (.int 1) (.int x_mm_reading)))), (h_tap, .inl (cy_tap, 600, .inl f_tap)), (h_nv, .inl (cy_nv, 8000, .inl f97)), (h_nn, .inl (cy_nn, 8000, .inr (.inl f98))), (h_na, .inl (cy_na, 8000, .inl f99)), (h_nb, .inl (cy_nb, 8000, .inl f131)), (h_nc, .inl (cy_nc, 8000, .inl f101)), (h_vrs, .inl (cy_vrs, 32, .inl f102)), (h_let, .inl (cy_let, 256, .inl f103))]) [7, 8, 0, 1, 2, 3, 4, 5, 6] (by decide) rfl
            have hKc := hK.sub (tys' := [(cy_tap, .byte), (cy_nv, .int), (cy_nn, .long), (cy_na, .int), (cy_nb, .int), (cy_nc, .int), (cy_vrs, .int), (cy_let, .int)]) [0, 1, 2, 3, 4, 5, 6, 7] rfl
            have hFc := va_free (wc := [(h_mm, .inr (8, (mo126 v_mm (.ref h_nv) (.ref h_nn) (.ref h_na) (.ref h_nb) (.ref h_nc) (.int z88) (.ref h_vrs) (.ref h_let) (.ref h_tap) (.int x_mm_taped) (.int z136) (.int z137) (.int z138) (.int z139) (.long z140) (.int z94) (.int z95) (.int z96) (.int 1) (.int x_mm_reading)))), (h_tap, .inl (cy_tap, 600, .inl f_tap)), (h_nv, .inl (cy_nv, 8000, .inl f97)), (h_nn, .inl (cy_nn, 8000, .inr (.inl f98))), (h_na, .inl (cy_na, 8000, .inl f99)), (h_nb, .inl (cy_nb, 8000, .inl f131)), (h_nc, .inl (cy_nc, 8000, .inl f101)), (h_vrs, .inl (cy_vrs, 32, .inl f102)), (h_let, .inl (cy_let, 256, .inl f103))]) hD hS hA [7, 8, 0, 1, 2, 3, 4, 5, 6] rfl
            refine va_calli (va_runV (As := []) (rest := [.int p1, .ref h_nc]) ⟨hx, hb, hml, hown, hts⟩ (c_X11_readsTerm_1 l dC dI H.size h_mm h_tap h_nv h_nn h_na h_nb h_nc h_vrs h_let v_mm z88 x_mm_taped z136 z137 z138 z139 z140 z94 z95 z96 x_mm_reading cy_tap f_tap cy_nv f97 cy_nn f98 cy_na f99 cy_nb f131 cy_nc f101 cy_vrs f102 cy_let f103 lo gh104 za zb zc zv G (rh129).2.2.1 (rh129).2.2.2 (by first | exact k105 | omega) (by first | exact hx_mm_taped | omega) (by first | exact k141 | omega) (by first | exact k142 | omega) (by first | exact k143 | omega) (by first | exact k109 | omega) (by first | exact hx_mm_reading | omega) hf97 hf99 hf131 hf101 hf102 (by first | exact k144 | omega) (by omega) (by omega) (by omega) (by first | exact k145 | omega) (by first | exact k146 | omega) (by first | exact k147 | omega) (by first | exact k148 | omega) (by omega) (by omega) nd133 (nd_cast nd132 (by omega)) hn_tapq k127 k128) (cwV 0 hts (gv hT w_m_X11_133 w_instanceMethod_X11_readsTerm ws_sel_X11_readsTerm w_ini_X11 w_code_X11_readsTerm) rfl rfl rfl (by decide +kernel) ⟨(Nat.le_of_ble_eq_true rfl), (Nat.le_of_ble_eq_true rfl)⟩) ⟨pre_blind, va_recv hK hP (ci := 8) (q0 := 7) rfl rfl, pre_of hPc hKc hDc hN⟩ rfl rfl hl.1 rfl (lv_room (Nat.le_of_ble_eq_true rfl)) dX11_readsParts_90 ⟨(Nat.le_of_ble_eq_true rfl), (Nat.le_of_ble_eq_true rfl)⟩) hS (fun q _ h => hFc q h) hFc (fun r151 u t H locs ht hvm hq hB hz1 hk1 hS9 => ?_)
            obtain ⟨z152, z153, z154, z155, z156, z157, z158, z159, z160, f161, f162, f163, f164, f165, f166, f167, gh168⟩ := u
            obtain ⟨hP1, hD1⟩ := hB
            rw [ht] at hP1
            obtain ⟨hP9, hD9⟩ := va_join (wr := []) (w1 := [(h_mm, .inr (8, (mo126 v_mm (.ref h_nv) (.ref h_nn) (.ref h_na) (.ref h_nb) (.ref h_nc) (.int z152) (.ref h_vrs) (.ref h_let) (.ref h_tap) (.int x_mm_taped) (.int z153) (.int z154) (.int z155) (.int z156) (.long z157) (.int z158) (.int z159) (.int z160) (.int 1) (.int x_mm_reading)))), (h_tap, .inl (cy_tap, 600, .inl f_tap)), (h_nv, .inl (cy_nv, 8000, .inl f161)), (h_nn, .inl (cy_nn, 8000, .inr (.inl f162))), (h_na, .inl (cy_na, 8000, .inl f163)), (h_nb, .inl (cy_nb, 8000, .inl f164)), (h_nc, .inl (cy_nc, 8000, .inl f165)), (h_vrs, .inl (cy_vrs, 32, .inl f166)), (h_let, .inl (cy_let, 256, .inl f167))]) hP hD [7, 8, 0, 1, 2, 3, 4, 5, 6] [] rfl rfl (by decide) (by decide) hk1 hFc hP1 hD1
            clear hP hD hS hPc hDc hKc hFc hP1 hD1 hk1 hz1 ht hvm
            have hP : va_P (dC, dI) cls [(h_mm, .inr (8, (mo126 v_mm (.ref h_nv) (.ref h_nn) (.ref h_na) (.ref h_nb) (.ref h_nc) (.int z152) (.ref h_vrs) (.ref h_let) (.ref h_tap) (.int x_mm_taped) (.int z153) (.int z154) (.int z155) (.int z156) (.long z157) (.int z158) (.int z159) (.int z160) (.int 1) (.int x_mm_reading)))), (h_tap, .inl (cy_tap, 600, .inl f_tap)), (h_nv, .inl (cy_nv, 8000, .inl f161)), (h_nn, .inl (cy_nn, 8000, .inr (.inl f162))), (h_na, .inl (cy_na, 8000, .inl f163)), (h_nb, .inl (cy_nb, 8000, .inl f164)), (h_nc, .inl (cy_nc, 8000, .inl f165)), (h_vrs, .inl (cy_vrs, 32, .inl f166)), (h_let, .inl (cy_let, 256, .inl f167))] H := hP9
            have hD : va_D A [(h_mm, .inr (8, (mo126 v_mm (.ref h_nv) (.ref h_nn) (.ref h_na) (.ref h_nb) (.ref h_nc) (.int z152) (.ref h_vrs) (.ref h_let) (.ref h_tap) (.int x_mm_taped) (.int z153) (.int z154) (.int z155) (.int z156) (.long z157) (.int z158) (.int z159) (.int z160) (.int 1) (.int x_mm_reading)))), (h_tap, .inl (cy_tap, 600, .inl f_tap)), (h_nv, .inl (cy_nv, 8000, .inl f161)), (h_nn, .inl (cy_nn, 8000, .inr (.inl f162))), (h_na, .inl (cy_na, 8000, .inl f163)), (h_nb, .inl (cy_nb, 8000, .inl f164)), (h_nc, .inl (cy_nc, 8000, .inl f165)), (h_vrs, .inl (cy_vrs, 32, .inl f166)), (h_let, .inl (cy_let, 256, .inl f167))] := hD9
            have hS := hS9
            clear hP9 hD9 hS9
            obtain ⟨k169, k170, k171, k172, k173, hf161, hf163, hf164, hf165, hf166, k174, k175, k176, k177, k178, k179, k180, k181, k182, k183, k184, k185, k186, k187, k188, k189, k190, k191, k192⟩ := hq
            replace k169 : 0 ≤ ((z152)).toInt ∧ ((z152)).toInt ≤ 1200 := k169
            replace k170 : 0 ≤ ((z153)).toInt ∧ ((z153)).toInt ≤ 600 := k170
            replace k171 : 0 ≤ ((z154)).toInt ∧ ((z154)).toInt ≤ 600 := k171
            replace k172 : 0 ≤ ((z155)).toInt ∧ ((z155)).toInt ≤ 4 := k172
            replace k173 : 0 ≤ ((z158)).toInt ∧ ((z158)).toInt ≤ 1 := k173
            replace hf161 : Rg (-1) 7 (f161) := hf161
            replace hf163 : Rg (-1) 7999 (f163) := hf163
            replace hf164 : Rg (-1) 7999 (f164) := hf164
            replace hf165 : Rg (-1) 7999 (f165) := hf165
            replace hf166 : Rg 0 8 (f166) := hf166
            replace k174 : -1 ≤ (r151).toInt ∧ (r151).toInt ≤ 1199 := k174
            replace k175 : ((z154)).toInt ≤ ((z153)).toInt := k175
            replace k176 : ((z158)).toInt = 1 ∨ ((z152)).toInt ≤ (lo) + ((z154)).toInt := k176
            replace k177 : ((z88)).toInt ≤ ((z152)).toInt := k177
            replace k178 : ((z137)).toInt ≤ ((z154)).toInt := k178
            replace k179 : ((z94)).toInt ≤ ((z158)).toInt := k179
            replace k180 : ((r151)).toInt = -1 ∨ ((lo) ≤ ((r151)).toInt ∧ ((r151)).toInt < ((z152)).toInt ∧ (gh168) ((r151)).toInt.toNat = 6) := k180
            replace k181 : (((z158)).toInt = 0 ∧ ((pTm (G) ((x_mm_taped)).toInt (pPs (G) ((x_mm_taped)).toInt 5) ((z137)).toInt ((rh129).2.2.1) ((rh129).2.2.2))).1 = 0 ∧ ((z159)).toInt = ((z95)).toInt ∧ ((z160)).toInt = ((z96)).toInt) ∨ (((z158)).toInt = 1 ∧ ¬ ((pTm (G) ((x_mm_taped)).toInt (pPs (G) ((x_mm_taped)).toInt 5) ((z137)).toInt ((rh129).2.2.1) ((rh129).2.2.2))).1 = 0 ∧ ((z159)).toInt = ((pTm (G) ((x_mm_taped)).toInt (pPs (G) ((x_mm_taped)).toInt 5) ((z137)).toInt ((rh129).2.2.1) ((rh129).2.2.2))).1 ∧ ((z160)).toInt = ((pTm (G) ((x_mm_taped)).toInt (pPs (G) ((x_mm_taped)).toInt 5) ((z137)).toInt ((rh129).2.2.1) ((rh129).2.2.2))).2.1) := k181
            replace k182 : ((z154)).toInt = ((pTm (G) ((x_mm_taped)).toInt (pPs (G) ((x_mm_taped)).toInt 5) ((z137)).toInt ((rh129).2.2.1) ((rh129).2.2.2))).2.1 := k182
            replace k183 : 0 ≤ ((pTm (G) ((x_mm_taped)).toInt (pPs (G) ((x_mm_taped)).toInt 5) ((z137)).toInt ((rh129).2.2.1) ((rh129).2.2.2))).2.2.1 ∧ ((pTm (G) ((x_mm_taped)).toInt (pPs (G) ((x_mm_taped)).toInt 5) ((z137)).toInt ((rh129).2.2.1) ((rh129).2.2.2))).2.2.1 ≤ 8 := k183
            replace k184 : ((z155)).toInt = kd (tkT (G) ((x_mm_taped)).toInt ((z154)).toInt) := k184
            replace k185 : ((z155)).toInt = 0 ∨ (((z153)).toInt = tkX (G) ((x_mm_taped)).toInt ((z154)).toInt ∧ ((z156)).toInt = (G) ((z154)).toInt ∧ ((z154)).toInt < ((x_mm_taped)).toInt ∧ ((z154)).toInt + 1 ≤ ((z153)).toInt) := k185
            replace k186 : ((z153)).toInt ≤ ((x_mm_taped)).toInt := k186
            replace k187 : ((z154)).toInt ≤ ((x_mm_taped)).toInt := k187
            replace k188 : EQ0 (lo) (za) (zb) (zc) (zv) (f163) (f164) (f165) (f161) := k188
            replace k189 : ND (lo) ((z152)).toInt (gh168) (f163) (f164) (f165) := k189
            replace k190 : ∀ y : Nat, (y : Int) < ((z88)).toInt → (gh168) y = (gh104) y := k190
            replace k191 : ((f166) (Int32.toNatClampNeg (x_mm_reading))).toInt = ((pTm (G) ((x_mm_taped)).toInt (pPs (G) ((x_mm_taped)).toInt 5) ((z137)).toInt ((rh129).2.2.1) ((rh129).2.2.2))).2.2.1 := k191
            replace k192 : VFM ((pTm (G) ((x_mm_taped)).toInt (pPs (G) ((x_mm_taped)).toInt 5) ((z137)).toInt ((rh129).2.2.1) ((rh129).2.2.2))).2.2.1 ((pTm (G) ((x_mm_taped)).toInt (pPs (G) ((x_mm_taped)).toInt 5) ((z137)).toInt ((rh129).2.2.1) ((rh129).2.2.2))).2.2.2 (f167) ((x_mm_reading)).toInt := k192
            obtain ⟨rh193, erh193⟩ : ∃ x : PR, x = (pTm (G) ((x_mm_taped)).toInt (pPs (G) ((x_mm_taped)).toInt 5) ((z137)).toInt ((rh129).2.2.1) ((rh129).2.2.2)) := ⟨_, rfl⟩
            rw [← erh193] at k181 k182 k183 k191 k192
            rw [tn150] at erh193
            have := k190 (p1).toInt.toNat (by omega)
            clear k146
            rcases k181 with ⟨fq194a, fq194b, fq194c, fq194d⟩ | ⟨fq194a, fq194b, fq194c, fq194d⟩
            · replace k176 : (z152).toInt ≤ lo + (z154).toInt := by rcases k176 with j9 | j9; (exact absurd j9 (by omega)); exact j9
              refine va_iast hx hb hK hP hD hS 6 5 rfl rfl (i := p1) (x := r151) (vp_in_iff.mpr (by omega)) dX11_readsParts_93 (fun H locs hP9 hD9 hS9 => ?_)
              obtain ⟨f195, ef195⟩ : ∃ g : Nat → Int32, g = upd f165 (Int32.toNatClampNeg p1) r151 := ⟨_, rfl⟩
              clear hP hD hS
              have hP : va_P (dC, dI) cls [(h_mm, .inr (8, (mo126 v_mm (.ref h_nv) (.ref h_nn) (.ref h_na) (.ref h_nb) (.ref h_nc) (.int z152) (.ref h_vrs) (.ref h_let) (.ref h_tap) (.int x_mm_taped) (.int z153) (.int z154) (.int z155) (.int z156) (.long z157) (.int z158) (.int z159) (.int z160) (.int 1) (.int x_mm_reading)))), (h_tap, .inl (cy_tap, 600, .inl f_tap)), (h_nv, .inl (cy_nv, 8000, .inl f161)), (h_nn, .inl (cy_nn, 8000, .inr (.inl f162))), (h_na, .inl (cy_na, 8000, .inl f163)), (h_nb, .inl (cy_nb, 8000, .inl f164)), (h_nc, .inl (cy_nc, 8000, .inl f195)), (h_vrs, .inl (cy_vrs, 32, .inl f166)), (h_let, .inl (cy_let, 256, .inl f167))] H := by rw [ef195]; exact hP9
              have hD : va_D A [(h_mm, .inr (8, (mo126 v_mm (.ref h_nv) (.ref h_nn) (.ref h_na) (.ref h_nb) (.ref h_nc) (.int z152) (.ref h_vrs) (.ref h_let) (.ref h_tap) (.int x_mm_taped) (.int z153) (.int z154) (.int z155) (.int z156) (.long z157) (.int z158) (.int z159) (.int z160) (.int 1) (.int x_mm_reading)))), (h_tap, .inl (cy_tap, 600, .inl f_tap)), (h_nv, .inl (cy_nv, 8000, .inl f161)), (h_nn, .inl (cy_nn, 8000, .inr (.inl f162))), (h_na, .inl (cy_na, 8000, .inl f163)), (h_nb, .inl (cy_nb, 8000, .inl f164)), (h_nc, .inl (cy_nc, 8000, .inl f195)), (h_vrs, .inl (cy_vrs, 32, .inl f166)), (h_let, .inl (cy_let, 256, .inl f167))] := by rw [ef195]; exact hD9
              have hS := hS9
              clear hP9 hD9 hS9
              have hf195 : Rg (-1) 7999 f195 := by rw [ef195]; exact rg_upd hf165 (by omega)
              have nd196 : ND lo (z152).toInt gh168 f163 f164 f195 := by rw [ef195]; exact nd_setC (n := (z152).toInt) (nd_cast k189 (by omega)) (by omega) (by unfold NDk; omega)
              have nd197 : EQ0 lo za zb zc zv f163 f164 f195 f161 := by rw [ef195]; exact eq0_C k188 (by omega) (by omega)
              clear k180
              clear ef195
              refine lv_aload_n hx hb dX11_readsParts_94 rfl (lv_at hl 0 rfl) ?_
              refine lv_bipush (v := 44) hx hb dX11_readsParts_95 (by decide) ?_
              obtain ⟨vq198, evq198⟩ := mq126_92 v_mm (.ref h_nv) (.ref h_nn) (.ref h_na) (.ref h_nb) (.ref h_nc) (.int z152) (.ref h_vrs) (.ref h_let) (.int z159) (.int z160) (.int 1) (.int x_mm_reading)
              replace hP : va_P (dC, dI) cls [(h_mm, .inr (8, (mo92 vq198 (.ref h_tap) (.int x_mm_taped) (.int z153) (.int z154) (.int z155) (.int z156) (.long z157) (.int z158)))), (h_tap, .inl (cy_tap, 600, .inl f_tap)), (h_nv, .inl (cy_nv, 8000, .inl f161)), (h_nn, .inl (cy_nn, 8000, .inr (.inl f162))), (h_na, .inl (cy_na, 8000, .inl f163)), (h_nb, .inl (cy_nb, 8000, .inl f164)), (h_nc, .inl (cy_nc, 8000, .inl f195)), (h_vrs, .inl (cy_vrs, 32, .inl f166)), (h_let, .inl (cy_let, 256, .inl f167))] H := by rw [evq198]; exact hP
              replace hD : va_D A [(h_mm, .inr (8, (mo92 vq198 (.ref h_tap) (.int x_mm_taped) (.int z153) (.int z154) (.int z155) (.int z156) (.long z157) (.int z158)))), (h_tap, .inl (cy_tap, 600, .inl f_tap)), (h_nv, .inl (cy_nv, 8000, .inl f161)), (h_nn, .inl (cy_nn, 8000, .inr (.inl f162))), (h_na, .inl (cy_na, 8000, .inl f163)), (h_nb, .inl (cy_nb, 8000, .inl f164)), (h_nc, .inl (cy_nc, 8000, .inl f195)), (h_vrs, .inl (cy_vrs, 32, .inl f166)), (h_let, .inl (cy_let, 256, .inl f167))] := by rw [evq198]; exact hD
              have cst44 : (44 : Int32).toInt = 44 := by decide
              have hPc := hP.sub (ws' := [(h_mm, .inr (8, (mo92 vq198 (.ref h_tap) (.int x_mm_taped) (.int z153) (.int z154) (.int z155) (.int z156) (.long z157) (.int z158)))), (h_tap, .inl (cy_tap, 600, .inl f_tap))]) [0, 1] rfl
              have hDc := hD.sub (ws' := [(h_mm, .inr (8, (mo92 vq198 (.ref h_tap) (.int x_mm_taped) (.int z153) (.int z154) (.int z155) (.int z156) (.long z157) (.int z158)))), (h_tap, .inl (cy_tap, 600, .inl f_tap))]) [0, 1] (by decide) rfl
              have hKc := hK.sub (tys' := [(cy_tap, .byte)]) [0] rfl
              have hFc := va_free (wc := [(h_mm, .inr (8, (mo92 vq198 (.ref h_tap) (.int x_mm_taped) (.int z153) (.int z154) (.int z155) (.int z156) (.long z157) (.int z158)))), (h_tap, .inl (cy_tap, 600, .inl f_tap))]) hD hS hA [0, 1] rfl
              refine va_calli (va_runV (As := [.int 44]) (rest := []) ⟨hx, hb, hml, hown, hts⟩ (c_X11_passes l dC dI H.size h_mm h_tap vq198 x_mm_taped z153 z154 z155 z156 z157 z158 cy_tap f_tap 44 G (by first | exact hx_mm_taped | omega) (by first | exact k170 | omega) (by first | exact k171 | omega) (by first | exact k172 | omega) (by first | exact k173 | omega) (by first | exact k175 | omega) (by omega) (by omega) (by first | exact k184 | omega) (by first | exact k185 | omega) (by first | exact k186 | omega) (by first | exact k187 | omega) hn_tapq) (cwV 1 hts (gv hT w_m_X11_136 w_instanceMethod_X11_passes ws_sel_X11_passes w_ini_X11 w_code_X11_passes) rfl rfl rfl (by decide +kernel) ⟨(Nat.le_of_ble_eq_true rfl), (Nat.le_of_ble_eq_true rfl)⟩) ⟨pre_blind, va_recv hK hP (ci := 8) (q0 := 0) rfl rfl, pre_of hPc hKc hDc hN⟩ rfl rfl hl.1 rfl (lv_room (Nat.le_of_ble_eq_true rfl)) dX11_readsParts_97 ⟨(Nat.le_of_ble_eq_true rfl), (Nat.le_of_ble_eq_true rfl)⟩) hS (fun q _ h => hFc q h) hFc (fun r199 u t H locs ht hvm hq hB hz1 hk1 hS9 => ?_)
              obtain ⟨z200, z201, z202, z203, z204⟩ := u
              obtain ⟨hP1, hD1⟩ := hB
              rw [ht] at hP1
              obtain ⟨hP9, hD9⟩ := va_join (wr := [(h_nv, .inl (cy_nv, 8000, .inl f161)), (h_nn, .inl (cy_nn, 8000, .inr (.inl f162))), (h_na, .inl (cy_na, 8000, .inl f163)), (h_nb, .inl (cy_nb, 8000, .inl f164)), (h_nc, .inl (cy_nc, 8000, .inl f195)), (h_vrs, .inl (cy_vrs, 32, .inl f166)), (h_let, .inl (cy_let, 256, .inl f167))]) (w1 := [(h_mm, .inr (8, (mo92 vq198 (.ref h_tap) (.int x_mm_taped) (.int z200) (.int z201) (.int z202) (.int z203) (.long z204) (.int z158)))), (h_tap, .inl (cy_tap, 600, .inl f_tap))]) hP hD [0, 1] [2, 3, 4, 5, 6, 7, 8] rfl rfl (by decide) (by decide) hk1 hFc hP1 hD1
              clear hP hD hS hPc hDc hKc hFc hP1 hD1 hk1 hz1 ht hvm
              have hP : va_P (dC, dI) cls [(h_nv, .inl (cy_nv, 8000, .inl f161)), (h_nn, .inl (cy_nn, 8000, .inr (.inl f162))), (h_na, .inl (cy_na, 8000, .inl f163)), (h_nb, .inl (cy_nb, 8000, .inl f164)), (h_nc, .inl (cy_nc, 8000, .inl f195)), (h_vrs, .inl (cy_vrs, 32, .inl f166)), (h_let, .inl (cy_let, 256, .inl f167)), (h_mm, .inr (8, (mo92 vq198 (.ref h_tap) (.int x_mm_taped) (.int z200) (.int z201) (.int z202) (.int z203) (.long z204) (.int z158)))), (h_tap, .inl (cy_tap, 600, .inl f_tap))] H := hP9
              have hD : va_D A [(h_nv, .inl (cy_nv, 8000, .inl f161)), (h_nn, .inl (cy_nn, 8000, .inr (.inl f162))), (h_na, .inl (cy_na, 8000, .inl f163)), (h_nb, .inl (cy_nb, 8000, .inl f164)), (h_nc, .inl (cy_nc, 8000, .inl f195)), (h_vrs, .inl (cy_vrs, 32, .inl f166)), (h_let, .inl (cy_let, 256, .inl f167)), (h_mm, .inr (8, (mo92 vq198 (.ref h_tap) (.int x_mm_taped) (.int z200) (.int z201) (.int z202) (.int z203) (.long z204) (.int z158)))), (h_tap, .inl (cy_tap, 600, .inl f_tap))] := hD9
              have hS := hS9
              clear hP9 hD9 hS9
              rw [evq198] at hP hD
              replace hP : va_P (dC, dI) cls [(h_nv, .inl (cy_nv, 8000, .inl f161)), (h_nn, .inl (cy_nn, 8000, .inr (.inl f162))), (h_na, .inl (cy_na, 8000, .inl f163)), (h_nb, .inl (cy_nb, 8000, .inl f164)), (h_nc, .inl (cy_nc, 8000, .inl f195)), (h_vrs, .inl (cy_vrs, 32, .inl f166)), (h_let, .inl (cy_let, 256, .inl f167)), (h_mm, .inr (8, (mo126 v_mm (.ref h_nv) (.ref h_nn) (.ref h_na) (.ref h_nb) (.ref h_nc) (.int z152) (.ref h_vrs) (.ref h_let) (.ref h_tap) (.int x_mm_taped) (.int z200) (.int z201) (.int z202) (.int z203) (.long z204) (.int z158) (.int z159) (.int z160) (.int 1) (.int x_mm_reading)))), (h_tap, .inl (cy_tap, 600, .inl f_tap))] H := hP
              replace hD : va_D A [(h_nv, .inl (cy_nv, 8000, .inl f161)), (h_nn, .inl (cy_nn, 8000, .inr (.inl f162))), (h_na, .inl (cy_na, 8000, .inl f163)), (h_nb, .inl (cy_nb, 8000, .inl f164)), (h_nc, .inl (cy_nc, 8000, .inl f195)), (h_vrs, .inl (cy_vrs, 32, .inl f166)), (h_let, .inl (cy_let, 256, .inl f167)), (h_mm, .inr (8, (mo126 v_mm (.ref h_nv) (.ref h_nn) (.ref h_na) (.ref h_nb) (.ref h_nc) (.int z152) (.ref h_vrs) (.ref h_let) (.ref h_tap) (.int x_mm_taped) (.int z200) (.int z201) (.int z202) (.int z203) (.long z204) (.int z158) (.int z159) (.int z160) (.int 1) (.int x_mm_reading)))), (h_tap, .inl (cy_tap, 600, .inl f_tap))] := hD
              clear evq198 
              obtain ⟨k205, k206, k207, k208, k209, k210, k211, k212, hq⟩ := hq
              replace k205 : 0 ≤ ((z200)).toInt ∧ ((z200)).toInt ≤ 600 := k205
              replace k206 : 0 ≤ ((z201)).toInt ∧ ((z201)).toInt ≤ 600 := k206
              replace k207 : 0 ≤ ((z202)).toInt ∧ ((z202)).toInt ≤ 4 := k207
              replace k208 : ((z201)).toInt ≤ ((z200)).toInt := k208
              replace k209 : ((z202)).toInt = kd (tkT (G) ((x_mm_taped)).toInt ((z201)).toInt) := k209
              replace k210 : ((z202)).toInt = 0 ∨ (((z200)).toInt = tkX (G) ((x_mm_taped)).toInt ((z201)).toInt ∧ ((z203)).toInt = (G) ((z201)).toInt ∧ ((z201)).toInt < ((x_mm_taped)).toInt ∧ ((z201)).toInt + 1 ≤ ((z200)).toInt) := k210
              replace k211 : ((z200)).toInt ≤ ((x_mm_taped)).toInt := k211
              replace k212 : ((z201)).toInt ≤ ((x_mm_taped)).toInt := k212
              rcases hq with ⟨rfl, hq⟩ | ⟨rfl, hq⟩ | ⟨rfl, hq⟩
              · replace hq : (((z158)).toInt = 0) ∧ (tkT (G) ((x_mm_taped)).toInt ((z154)).toInt = ((44 : Int32)).toInt) ∧ (((z201)).toInt = tkN (G) ((x_mm_taped)).toInt ((z154)).toInt) ∧ (((z153)).toInt ≤ ((z201)).toInt) ∧ (((z154)).toInt + 1 ≤ ((z201)).toInt) := hq
                clear k185
                obtain ⟨hq1, hq2, hq3, hq4, hq5⟩ := hq
                have cst44 : (44 : Int32).toInt = 44 := by decide
                have on9 := pLo_on (G := G) (n := (x_mm_taped).toInt) (P := (pPs G (x_mm_taped).toInt 5)) (r := 0) (q := (z90).toInt) (nv := (rh129).2.2.1) (vf := (rh129).2.2.2) (by rw [← erh193]; omega) (by rw [← erh193, ← k182]; omega)
                rw [← erh193, ← k182] at on9
                have lo213 := on9.symm.trans lo149
                clear on9
                have tn214 := hq3
                refine lv_if_eq (tgt := 119) hx hb dX11_readsParts_100 (by decide) (fun c9 => absurd c9 (by decide)) (fun _ => ?_)
                refine lv_aload_n hx hb dX11_readsParts_103 rfl (lv_at hl 0 rfl) ?_
                refine lv_aload_n hx hb dX11_readsParts_104 rfl (lv_at hl 0 rfl) ?_
                obtain ⟨vq215, evq215⟩ := mq126_93 v_mm (.ref h_nv) (.ref h_nn) (.ref h_na) (.ref h_nb) (.ref h_nc) (.int z152) (.ref h_vrs) (.ref h_let) (.ref h_tap) (.int z200) (.int z203) (.long z204) (.int z159) (.int z160) (.int 1) (.int x_mm_reading)
                replace hP : va_P (dC, dI) cls [(h_nv, .inl (cy_nv, 8000, .inl f161)), (h_nn, .inl (cy_nn, 8000, .inr (.inl f162))), (h_na, .inl (cy_na, 8000, .inl f163)), (h_nb, .inl (cy_nb, 8000, .inl f164)), (h_nc, .inl (cy_nc, 8000, .inl f195)), (h_vrs, .inl (cy_vrs, 32, .inl f166)), (h_let, .inl (cy_let, 256, .inl f167)), (h_mm, .inr (8, (mo93 vq215 (.int x_mm_taped) (.int z201) (.int z202) (.int z158)))), (h_tap, .inl (cy_tap, 600, .inl f_tap))] H := by rw [evq215]; exact hP
                replace hD : va_D A [(h_nv, .inl (cy_nv, 8000, .inl f161)), (h_nn, .inl (cy_nn, 8000, .inr (.inl f162))), (h_na, .inl (cy_na, 8000, .inl f163)), (h_nb, .inl (cy_nb, 8000, .inl f164)), (h_nc, .inl (cy_nc, 8000, .inl f195)), (h_vrs, .inl (cy_vrs, 32, .inl f166)), (h_let, .inl (cy_let, 256, .inl f167)), (h_mm, .inr (8, (mo93 vq215 (.int x_mm_taped) (.int z201) (.int z202) (.int z158)))), (h_tap, .inl (cy_tap, 600, .inl f_tap))] := by rw [evq215]; exact hD
                have hPc := hP.sub (ws' := [(h_mm, .inr (8, (mo93 vq215 (.int x_mm_taped) (.int z201) (.int z202) (.int z158))))]) [7] rfl
                have hDc := hD.sub (ws' := [(h_mm, .inr (8, (mo93 vq215 (.int x_mm_taped) (.int z201) (.int z202) (.int z158))))]) [7] (by decide) rfl
                have hKc := hK.sub (tys' := []) [] rfl
                have hFc := va_free (wc := [(h_mm, .inr (8, (mo93 vq215 (.int x_mm_taped) (.int z201) (.int z202) (.int z158))))]) hD hS hA [7] rfl
                refine va_calli (va_runV (As := []) (rest := [.ref h_mm]) ⟨hx, hb, hml, hown, hts⟩ (c_X11_isTermHere l dC dI H.size h_mm vq215 x_mm_taped z201 z202 z158 G (by first | exact hx_mm_taped | omega) (by first | exact k206 | omega) (by first | exact k207 | omega) (by first | exact k173 | omega) (by first | exact k209 | omega)) (cwV 0 hts (gv hT w_m_X11_115 w_instanceMethod_X11_isTermHere ws_sel_X11_isTermHere w_ini_X11 w_code_X11_isTermHere) rfl rfl rfl (by decide +kernel) ⟨(Nat.le_of_ble_eq_true rfl), (Nat.le_of_ble_eq_true rfl)⟩) ⟨pre_blind, va_recv hK hP (ci := 8) (q0 := 7) rfl rfl, pre_of hPc hKc hDc hN⟩ rfl rfl hl.1 rfl (lv_room (Nat.le_of_ble_eq_true rfl)) dX11_readsParts_105 ⟨(Nat.le_of_ble_eq_true rfl), (Nat.le_of_ble_eq_true rfl)⟩) hS (fun q _ h => hFc q h) hFc (fun r216 u t H locs ht hvm hq hB hz1 hk1 hS9 => ?_)
                obtain ⟨hP1, hD1⟩ := hB
                rw [ht] at hP1
                obtain ⟨hP9, hD9⟩ := va_join (wr := [(h_nv, .inl (cy_nv, 8000, .inl f161)), (h_nn, .inl (cy_nn, 8000, .inr (.inl f162))), (h_na, .inl (cy_na, 8000, .inl f163)), (h_nb, .inl (cy_nb, 8000, .inl f164)), (h_nc, .inl (cy_nc, 8000, .inl f195)), (h_vrs, .inl (cy_vrs, 32, .inl f166)), (h_let, .inl (cy_let, 256, .inl f167)), (h_tap, .inl (cy_tap, 600, .inl f_tap))]) (w1 := [(h_mm, .inr (8, (mo93 vq215 (.int x_mm_taped) (.int z201) (.int z202) (.int z158))))]) hP hD [7] [0, 1, 2, 3, 4, 5, 6, 8] rfl rfl (by decide) (by decide) hk1 hFc hP1 hD1
                clear hP hD hS hPc hDc hKc hFc hP1 hD1 hk1 hz1 ht hvm
                have hP : va_P (dC, dI) cls [(h_nv, .inl (cy_nv, 8000, .inl f161)), (h_nn, .inl (cy_nn, 8000, .inr (.inl f162))), (h_na, .inl (cy_na, 8000, .inl f163)), (h_nb, .inl (cy_nb, 8000, .inl f164)), (h_nc, .inl (cy_nc, 8000, .inl f195)), (h_vrs, .inl (cy_vrs, 32, .inl f166)), (h_let, .inl (cy_let, 256, .inl f167)), (h_tap, .inl (cy_tap, 600, .inl f_tap)), (h_mm, .inr (8, (mo93 vq215 (.int x_mm_taped) (.int z201) (.int z202) (.int z158))))] H := hP9
                have hD : va_D A [(h_nv, .inl (cy_nv, 8000, .inl f161)), (h_nn, .inl (cy_nn, 8000, .inr (.inl f162))), (h_na, .inl (cy_na, 8000, .inl f163)), (h_nb, .inl (cy_nb, 8000, .inl f164)), (h_nc, .inl (cy_nc, 8000, .inl f195)), (h_vrs, .inl (cy_vrs, 32, .inl f166)), (h_let, .inl (cy_let, 256, .inl f167)), (h_tap, .inl (cy_tap, 600, .inl f_tap)), (h_mm, .inr (8, (mo93 vq215 (.int x_mm_taped) (.int z201) (.int z202) (.int z158))))] := hD9
                have hS := hS9
                clear hP9 hD9 hS9
                rw [evq215] at hP hD
                replace hP : va_P (dC, dI) cls [(h_nv, .inl (cy_nv, 8000, .inl f161)), (h_nn, .inl (cy_nn, 8000, .inr (.inl f162))), (h_na, .inl (cy_na, 8000, .inl f163)), (h_nb, .inl (cy_nb, 8000, .inl f164)), (h_nc, .inl (cy_nc, 8000, .inl f195)), (h_vrs, .inl (cy_vrs, 32, .inl f166)), (h_let, .inl (cy_let, 256, .inl f167)), (h_tap, .inl (cy_tap, 600, .inl f_tap)), (h_mm, .inr (8, (mo126 v_mm (.ref h_nv) (.ref h_nn) (.ref h_na) (.ref h_nb) (.ref h_nc) (.int z152) (.ref h_vrs) (.ref h_let) (.ref h_tap) (.int x_mm_taped) (.int z200) (.int z201) (.int z202) (.int z203) (.long z204) (.int z158) (.int z159) (.int z160) (.int 1) (.int x_mm_reading))))] H := hP
                replace hD : va_D A [(h_nv, .inl (cy_nv, 8000, .inl f161)), (h_nn, .inl (cy_nn, 8000, .inr (.inl f162))), (h_na, .inl (cy_na, 8000, .inl f163)), (h_nb, .inl (cy_nb, 8000, .inl f164)), (h_nc, .inl (cy_nc, 8000, .inl f195)), (h_vrs, .inl (cy_vrs, 32, .inl f166)), (h_let, .inl (cy_let, 256, .inl f167)), (h_tap, .inl (cy_tap, 600, .inl f_tap)), (h_mm, .inr (8, (mo126 v_mm (.ref h_nv) (.ref h_nn) (.ref h_na) (.ref h_nb) (.ref h_nc) (.int z152) (.ref h_vrs) (.ref h_let) (.ref h_tap) (.int x_mm_taped) (.int z200) (.int z201) (.int z202) (.int z203) (.long z204) (.int z158) (.int z159) (.int z160) (.int 1) (.int x_mm_reading))))] := hD
                clear evq215 
                rcases hq with ⟨rfl, hq⟩ | ⟨rfl, hq⟩ | ⟨rfl, hq⟩
                · replace hq : (((z158)).toInt = 0) ∧ (tkT (G) ((x_mm_taped)).toInt ((z201)).toInt = 256 ∨ tkT (G) ((x_mm_taped)).toInt ((z201)).toInt = 257) := hq
                  refine lv_if_eq (tgt := 115) hx hb dX11_readsParts_108 (by decide) (fun c9 => absurd c9 (by decide)) (fun _ => ?_)
                  have tt9 : tkT G (x_mm_taped).toInt (tkN G (x_mm_taped).toInt (z154).toInt) = tkT G (x_mm_taped).toInt (z201).toInt := by rw [← tn214]
                  have pv9 : (pPs G (x_mm_taped).toInt 6 (x_mm_place).toInt nv vf) = (2, tkN G (x_mm_taped).toInt (z154).toInt, (rh193).2.2.1, (rh193).2.2.2) := lo213.symm.trans (pLo_many (by omega))
                  have pq2171 : ((pPs G (x_mm_taped).toInt 6 (x_mm_place).toInt nv vf)).1 = 2 := by rw [pv9]
                  have pq2172 : ((pPs G (x_mm_taped).toInt 6 (x_mm_place).toInt nv vf)).2.1 = tkN G (x_mm_taped).toInt (z154).toInt := by rw [pv9]
                  have pq2173 : ((pPs G (x_mm_taped).toInt 6 (x_mm_place).toInt nv vf)).2.2.1 = (rh193).2.2.1 := by rw [pv9]
                  have pq2174 : ((pPs G (x_mm_taped).toInt 6 (x_mm_place).toInt nv vf)).2.2.2 = (rh193).2.2.2 := by rw [pv9]
                  refine lv_iconst (v := 2) hx hb dX11_readsParts_111 (by decide) ?_
                  refine lv_goto (tgt := 116) hx hb dX11_readsParts_112 (by decide) ?_
                  obtain ⟨vq218, evq218⟩ := mq126_90 v_mm (.ref h_nv) (.ref h_nn) (.ref h_na) (.ref h_nb) (.ref h_nc) (.int z152) (.ref h_vrs) (.ref h_let) (.ref h_tap) (.int x_mm_taped) (.int z200) (.int z202) (.int z203) (.long z204) (.int 1) (.int x_mm_reading)
                  replace hP : va_P (dC, dI) cls [(h_nv, .inl (cy_nv, 8000, .inl f161)), (h_nn, .inl (cy_nn, 8000, .inr (.inl f162))), (h_na, .inl (cy_na, 8000, .inl f163)), (h_nb, .inl (cy_nb, 8000, .inl f164)), (h_nc, .inl (cy_nc, 8000, .inl f195)), (h_vrs, .inl (cy_vrs, 32, .inl f166)), (h_let, .inl (cy_let, 256, .inl f167)), (h_tap, .inl (cy_tap, 600, .inl f_tap)), (h_mm, .inr (8, (mo90 vq218 (.int z201) (.int z158) (.int z159) (.int z160))))] H := by rw [evq218]; exact hP
                  replace hD : va_D A [(h_nv, .inl (cy_nv, 8000, .inl f161)), (h_nn, .inl (cy_nn, 8000, .inr (.inl f162))), (h_na, .inl (cy_na, 8000, .inl f163)), (h_nb, .inl (cy_nb, 8000, .inl f164)), (h_nc, .inl (cy_nc, 8000, .inl f195)), (h_vrs, .inl (cy_vrs, 32, .inl f166)), (h_let, .inl (cy_let, 256, .inl f167)), (h_tap, .inl (cy_tap, 600, .inl f_tap)), (h_mm, .inr (8, (mo90 vq218 (.int z201) (.int z158) (.int z159) (.int z160))))] := by rw [evq218]; exact hD
                  have cst2 : (2 : Int32).toInt = 2 := by decide
                  have hPc := hP.sub (ws' := [(h_mm, .inr (8, (mo90 vq218 (.int z201) (.int z158) (.int z159) (.int z160))))]) [8] rfl
                  have hDc := hD.sub (ws' := [(h_mm, .inr (8, (mo90 vq218 (.int z201) (.int z158) (.int z159) (.int z160))))]) [8] (by decide) rfl
                  have hKc := hK.sub (tys' := []) [] rfl
                  have hFc := va_free (wc := [(h_mm, .inr (8, (mo90 vq218 (.int z201) (.int z158) (.int z159) (.int z160))))]) hD hS hA [8] rfl
                  refine va_callv (va_runV (As := [.int 2]) (rest := []) ⟨hx, hb, hml, hown, hts⟩ (c_X11_faulty l dC dI H.size h_mm vq218 z201 z158 z159 z160 2 (by first | exact k206 | omega) (by first | exact k173 | omega)) (cwV 1 hts (gv hT w_m_X11_111 w_instanceMethod_X11_faulty ws_sel_X11_faulty w_ini_X11 w_code_X11_faulty) rfl rfl rfl (by decide +kernel) ⟨(Nat.le_of_ble_eq_true rfl), (Nat.le_of_ble_eq_true rfl)⟩) ⟨pre_blind, va_recv hK hP (ci := 8) (q0 := 8) rfl rfl, pre_of hPc hKc hDc hN⟩ rfl rfl hl.1 rfl (lv_room (Nat.le_of_ble_eq_true rfl)) dX11_readsParts_116 ⟨(Nat.le_of_ble_eq_true rfl), (Nat.le_of_ble_eq_true rfl)⟩) hS (fun q _ h => hFc q h) hFc (fun u t H locs ht hvm hq hB hz1 hk1 hS9 => ?_)
                  obtain ⟨z220, z221, z222⟩ := u
                  obtain ⟨hP1, hD1⟩ := hB
                  rw [ht] at hP1
                  obtain ⟨hP9, hD9⟩ := va_join (wr := [(h_nv, .inl (cy_nv, 8000, .inl f161)), (h_nn, .inl (cy_nn, 8000, .inr (.inl f162))), (h_na, .inl (cy_na, 8000, .inl f163)), (h_nb, .inl (cy_nb, 8000, .inl f164)), (h_nc, .inl (cy_nc, 8000, .inl f195)), (h_vrs, .inl (cy_vrs, 32, .inl f166)), (h_let, .inl (cy_let, 256, .inl f167)), (h_tap, .inl (cy_tap, 600, .inl f_tap))]) (w1 := [(h_mm, .inr (8, (mo90 vq218 (.int z201) (.int z220) (.int z221) (.int z222))))]) hP hD [8] [0, 1, 2, 3, 4, 5, 6, 7] rfl rfl (by decide) (by decide) hk1 hFc hP1 hD1
                  clear hP hD hS hPc hDc hKc hFc hP1 hD1 hk1 hz1 ht hvm
                  have hP : va_P (dC, dI) cls [(h_nv, .inl (cy_nv, 8000, .inl f161)), (h_nn, .inl (cy_nn, 8000, .inr (.inl f162))), (h_na, .inl (cy_na, 8000, .inl f163)), (h_nb, .inl (cy_nb, 8000, .inl f164)), (h_nc, .inl (cy_nc, 8000, .inl f195)), (h_vrs, .inl (cy_vrs, 32, .inl f166)), (h_let, .inl (cy_let, 256, .inl f167)), (h_tap, .inl (cy_tap, 600, .inl f_tap)), (h_mm, .inr (8, (mo90 vq218 (.int z201) (.int z220) (.int z221) (.int z222))))] H := hP9
                  have hD : va_D A [(h_nv, .inl (cy_nv, 8000, .inl f161)), (h_nn, .inl (cy_nn, 8000, .inr (.inl f162))), (h_na, .inl (cy_na, 8000, .inl f163)), (h_nb, .inl (cy_nb, 8000, .inl f164)), (h_nc, .inl (cy_nc, 8000, .inl f195)), (h_vrs, .inl (cy_vrs, 32, .inl f166)), (h_let, .inl (cy_let, 256, .inl f167)), (h_tap, .inl (cy_tap, 600, .inl f_tap)), (h_mm, .inr (8, (mo90 vq218 (.int z201) (.int z220) (.int z221) (.int z222))))] := hD9
                  have hS := hS9
                  clear hP9 hD9 hS9
                  rw [evq218] at hP hD
                  replace hP : va_P (dC, dI) cls [(h_nv, .inl (cy_nv, 8000, .inl f161)), (h_nn, .inl (cy_nn, 8000, .inr (.inl f162))), (h_na, .inl (cy_na, 8000, .inl f163)), (h_nb, .inl (cy_nb, 8000, .inl f164)), (h_nc, .inl (cy_nc, 8000, .inl f195)), (h_vrs, .inl (cy_vrs, 32, .inl f166)), (h_let, .inl (cy_let, 256, .inl f167)), (h_tap, .inl (cy_tap, 600, .inl f_tap)), (h_mm, .inr (8, (mo126 v_mm (.ref h_nv) (.ref h_nn) (.ref h_na) (.ref h_nb) (.ref h_nc) (.int z152) (.ref h_vrs) (.ref h_let) (.ref h_tap) (.int x_mm_taped) (.int z200) (.int z201) (.int z202) (.int z203) (.long z204) (.int z220) (.int z221) (.int z222) (.int 1) (.int x_mm_reading))))] H := hP
                  replace hD : va_D A [(h_nv, .inl (cy_nv, 8000, .inl f161)), (h_nn, .inl (cy_nn, 8000, .inr (.inl f162))), (h_na, .inl (cy_na, 8000, .inl f163)), (h_nb, .inl (cy_nb, 8000, .inl f164)), (h_nc, .inl (cy_nc, 8000, .inl f195)), (h_vrs, .inl (cy_vrs, 32, .inl f166)), (h_let, .inl (cy_let, 256, .inl f167)), (h_tap, .inl (cy_tap, 600, .inl f_tap)), (h_mm, .inr (8, (mo126 v_mm (.ref h_nv) (.ref h_nn) (.ref h_na) (.ref h_nb) (.ref h_nc) (.int z152) (.ref h_vrs) (.ref h_let) (.ref h_tap) (.int x_mm_taped) (.int z200) (.int z201) (.int z202) (.int z203) (.long z204) (.int z220) (.int z221) (.int z222) (.int 1) (.int x_mm_reading))))] := hD
                  clear evq218 
                  obtain ⟨k223, k224, k225⟩ := hq
                  replace k223 : 0 ≤ ((z220)).toInt ∧ ((z220)).toInt ≤ 1 := k223
                  replace k224 : ((z220)).toInt = 1 := k224
                  replace k225 : (((z158)).toInt = 1 ∧ ((z221)).toInt = ((z159)).toInt ∧ ((z222)).toInt = ((z160)).toInt) ∨ (((z158)).toInt = 0 ∧ ((z221)).toInt = ((2 : Int32)).toInt ∧ ((z222)).toInt = ((z201)).toInt) := k225
                  refine lv_aload_n hx hb dX11_readsParts_119 rfl (lv_at hl 0 rfl) ?_
                  refine lv_bipush (v := 41) hx hb dX11_readsParts_120 (by decide) ?_
                  obtain ⟨vq226, evq226⟩ := mq126_92 v_mm (.ref h_nv) (.ref h_nn) (.ref h_na) (.ref h_nb) (.ref h_nc) (.int z152) (.ref h_vrs) (.ref h_let) (.int z221) (.int z222) (.int 1) (.int x_mm_reading)
                  replace hP : va_P (dC, dI) cls [(h_nv, .inl (cy_nv, 8000, .inl f161)), (h_nn, .inl (cy_nn, 8000, .inr (.inl f162))), (h_na, .inl (cy_na, 8000, .inl f163)), (h_nb, .inl (cy_nb, 8000, .inl f164)), (h_nc, .inl (cy_nc, 8000, .inl f195)), (h_vrs, .inl (cy_vrs, 32, .inl f166)), (h_let, .inl (cy_let, 256, .inl f167)), (h_tap, .inl (cy_tap, 600, .inl f_tap)), (h_mm, .inr (8, (mo92 vq226 (.ref h_tap) (.int x_mm_taped) (.int z200) (.int z201) (.int z202) (.int z203) (.long z204) (.int z220))))] H := by rw [evq226]; exact hP
                  replace hD : va_D A [(h_nv, .inl (cy_nv, 8000, .inl f161)), (h_nn, .inl (cy_nn, 8000, .inr (.inl f162))), (h_na, .inl (cy_na, 8000, .inl f163)), (h_nb, .inl (cy_nb, 8000, .inl f164)), (h_nc, .inl (cy_nc, 8000, .inl f195)), (h_vrs, .inl (cy_vrs, 32, .inl f166)), (h_let, .inl (cy_let, 256, .inl f167)), (h_tap, .inl (cy_tap, 600, .inl f_tap)), (h_mm, .inr (8, (mo92 vq226 (.ref h_tap) (.int x_mm_taped) (.int z200) (.int z201) (.int z202) (.int z203) (.long z204) (.int z220))))] := by rw [evq226]; exact hD
                  have cst41 : (41 : Int32).toInt = 41 := by decide
                  have hPc := hP.sub (ws' := [(h_mm, .inr (8, (mo92 vq226 (.ref h_tap) (.int x_mm_taped) (.int z200) (.int z201) (.int z202) (.int z203) (.long z204) (.int z220)))), (h_tap, .inl (cy_tap, 600, .inl f_tap))]) [8, 7] rfl
                  have hDc := hD.sub (ws' := [(h_mm, .inr (8, (mo92 vq226 (.ref h_tap) (.int x_mm_taped) (.int z200) (.int z201) (.int z202) (.int z203) (.long z204) (.int z220)))), (h_tap, .inl (cy_tap, 600, .inl f_tap))]) [8, 7] (by decide) rfl
                  have hKc := hK.sub (tys' := [(cy_tap, .byte)]) [0] rfl
                  have hFc := va_free (wc := [(h_mm, .inr (8, (mo92 vq226 (.ref h_tap) (.int x_mm_taped) (.int z200) (.int z201) (.int z202) (.int z203) (.long z204) (.int z220)))), (h_tap, .inl (cy_tap, 600, .inl f_tap))]) hD hS hA [8, 7] rfl
                  refine va_calli (va_runV (As := [.int 41]) (rest := []) ⟨hx, hb, hml, hown, hts⟩ (c_X11_passes l dC dI H.size h_mm h_tap vq226 x_mm_taped z200 z201 z202 z203 z204 z220 cy_tap f_tap 41 G (by first | exact hx_mm_taped | omega) (by first | exact k205 | omega) (by first | exact k206 | omega) (by first | exact k207 | omega) (by first | exact k223 | omega) (by first | exact k208 | omega) (by omega) (by omega) (by first | exact k209 | omega) (by first | exact k210 | omega) (by first | exact k211 | omega) (by first | exact k212 | omega) hn_tapq) (cwV 1 hts (gv hT w_m_X11_136 w_instanceMethod_X11_passes ws_sel_X11_passes w_ini_X11 w_code_X11_passes) rfl rfl rfl (by decide +kernel) ⟨(Nat.le_of_ble_eq_true rfl), (Nat.le_of_ble_eq_true rfl)⟩) ⟨pre_blind, va_recv hK hP (ci := 8) (q0 := 8) rfl rfl, pre_of hPc hKc hDc hN⟩ rfl rfl hl.1 rfl (lv_room (Nat.le_of_ble_eq_true rfl)) dX11_readsParts_122 ⟨(Nat.le_of_ble_eq_true rfl), (Nat.le_of_ble_eq_true rfl)⟩) hS (fun q _ h => hFc q h) hFc (fun r227 u t H locs ht hvm hq hB hz1 hk1 hS9 => ?_)
                  obtain ⟨z228, z229, z230, z231, z232⟩ := u
                  obtain ⟨hP1, hD1⟩ := hB
                  rw [ht] at hP1
                  obtain ⟨hP9, hD9⟩ := va_join (wr := [(h_nv, .inl (cy_nv, 8000, .inl f161)), (h_nn, .inl (cy_nn, 8000, .inr (.inl f162))), (h_na, .inl (cy_na, 8000, .inl f163)), (h_nb, .inl (cy_nb, 8000, .inl f164)), (h_nc, .inl (cy_nc, 8000, .inl f195)), (h_vrs, .inl (cy_vrs, 32, .inl f166)), (h_let, .inl (cy_let, 256, .inl f167))]) (w1 := [(h_mm, .inr (8, (mo92 vq226 (.ref h_tap) (.int x_mm_taped) (.int z228) (.int z229) (.int z230) (.int z231) (.long z232) (.int z220)))), (h_tap, .inl (cy_tap, 600, .inl f_tap))]) hP hD [8, 7] [0, 1, 2, 3, 4, 5, 6] rfl rfl (by decide) (by decide) hk1 hFc hP1 hD1
                  clear hP hD hS hPc hDc hKc hFc hP1 hD1 hk1 hz1 ht hvm
                  have hP : va_P (dC, dI) cls [(h_nv, .inl (cy_nv, 8000, .inl f161)), (h_nn, .inl (cy_nn, 8000, .inr (.inl f162))), (h_na, .inl (cy_na, 8000, .inl f163)), (h_nb, .inl (cy_nb, 8000, .inl f164)), (h_nc, .inl (cy_nc, 8000, .inl f195)), (h_vrs, .inl (cy_vrs, 32, .inl f166)), (h_let, .inl (cy_let, 256, .inl f167)), (h_mm, .inr (8, (mo92 vq226 (.ref h_tap) (.int x_mm_taped) (.int z228) (.int z229) (.int z230) (.int z231) (.long z232) (.int z220)))), (h_tap, .inl (cy_tap, 600, .inl f_tap))] H := hP9
                  have hD : va_D A [(h_nv, .inl (cy_nv, 8000, .inl f161)), (h_nn, .inl (cy_nn, 8000, .inr (.inl f162))), (h_na, .inl (cy_na, 8000, .inl f163)), (h_nb, .inl (cy_nb, 8000, .inl f164)), (h_nc, .inl (cy_nc, 8000, .inl f195)), (h_vrs, .inl (cy_vrs, 32, .inl f166)), (h_let, .inl (cy_let, 256, .inl f167)), (h_mm, .inr (8, (mo92 vq226 (.ref h_tap) (.int x_mm_taped) (.int z228) (.int z229) (.int z230) (.int z231) (.long z232) (.int z220)))), (h_tap, .inl (cy_tap, 600, .inl f_tap))] := hD9
                  have hS := hS9
                  clear hP9 hD9 hS9
                  rw [evq226] at hP hD
                  replace hP : va_P (dC, dI) cls [(h_nv, .inl (cy_nv, 8000, .inl f161)), (h_nn, .inl (cy_nn, 8000, .inr (.inl f162))), (h_na, .inl (cy_na, 8000, .inl f163)), (h_nb, .inl (cy_nb, 8000, .inl f164)), (h_nc, .inl (cy_nc, 8000, .inl f195)), (h_vrs, .inl (cy_vrs, 32, .inl f166)), (h_let, .inl (cy_let, 256, .inl f167)), (h_mm, .inr (8, (mo126 v_mm (.ref h_nv) (.ref h_nn) (.ref h_na) (.ref h_nb) (.ref h_nc) (.int z152) (.ref h_vrs) (.ref h_let) (.ref h_tap) (.int x_mm_taped) (.int z228) (.int z229) (.int z230) (.int z231) (.long z232) (.int z220) (.int z221) (.int z222) (.int 1) (.int x_mm_reading)))), (h_tap, .inl (cy_tap, 600, .inl f_tap))] H := hP
                  replace hD : va_D A [(h_nv, .inl (cy_nv, 8000, .inl f161)), (h_nn, .inl (cy_nn, 8000, .inr (.inl f162))), (h_na, .inl (cy_na, 8000, .inl f163)), (h_nb, .inl (cy_nb, 8000, .inl f164)), (h_nc, .inl (cy_nc, 8000, .inl f195)), (h_vrs, .inl (cy_vrs, 32, .inl f166)), (h_let, .inl (cy_let, 256, .inl f167)), (h_mm, .inr (8, (mo126 v_mm (.ref h_nv) (.ref h_nn) (.ref h_na) (.ref h_nb) (.ref h_nc) (.int z152) (.ref h_vrs) (.ref h_let) (.ref h_tap) (.int x_mm_taped) (.int z228) (.int z229) (.int z230) (.int z231) (.long z232) (.int z220) (.int z221) (.int z222) (.int 1) (.int x_mm_reading)))), (h_tap, .inl (cy_tap, 600, .inl f_tap))] := hD
                  clear evq226 
                  obtain ⟨k233, k234, k235, k236, k237, k238, k239, k240, hq⟩ := hq
                  replace k233 : 0 ≤ ((z228)).toInt ∧ ((z228)).toInt ≤ 600 := k233
                  replace k234 : 0 ≤ ((z229)).toInt ∧ ((z229)).toInt ≤ 600 := k234
                  replace k235 : 0 ≤ ((z230)).toInt ∧ ((z230)).toInt ≤ 4 := k235
                  replace k236 : ((z229)).toInt ≤ ((z228)).toInt := k236
                  replace k237 : ((z230)).toInt = kd (tkT (G) ((x_mm_taped)).toInt ((z229)).toInt) := k237
                  replace k238 : ((z230)).toInt = 0 ∨ (((z228)).toInt = tkX (G) ((x_mm_taped)).toInt ((z229)).toInt ∧ ((z231)).toInt = (G) ((z229)).toInt ∧ ((z229)).toInt < ((x_mm_taped)).toInt ∧ ((z229)).toInt + 1 ≤ ((z228)).toInt) := k238
                  replace k239 : ((z228)).toInt ≤ ((x_mm_taped)).toInt := k239
                  replace k240 : ((z229)).toInt ≤ ((x_mm_taped)).toInt := k240
                  rcases hq with ⟨rfl, hq⟩ | ⟨rfl, hq⟩ | ⟨rfl, hq⟩
                  · replace hq : (((z220)).toInt = 0) ∧ (tkT (G) ((x_mm_taped)).toInt ((z201)).toInt = ((41 : Int32)).toInt) ∧ (((z229)).toInt = tkN (G) ((x_mm_taped)).toInt ((z201)).toInt) ∧ (((z200)).toInt ≤ ((z229)).toInt) ∧ (((z201)).toInt + 1 ≤ ((z229)).toInt) := hq
                    refine lv_if_ne (tgt := 133) hx hb dX11_readsParts_125 (by decide) (fun _ => ?_) (fun c9 => absurd c9 (by decide))
                    refine lv_aload_n hx hb dX11_readsParts_133 rfl (lv_at hl 0 rfl) ?_
                    refine lv_aload_n hx hb dX11_readsParts_134 rfl (lv_at hl 0 rfl) ?_
                    refine va_get (D := (dC, dI)) (ci := 8) (v := .int 1) (C := RX11) (T := TX11) (N := 71) hx hb hw iwX11 hown hK hP 7 rfl rfl 23 (by decide) (hw _ w_f_X11_130) (fun _ h9 => h9) rfl dX11_readsParts_135 ?_
                    refine lv_iconst (v := 1) hx hb dX11_readsParts_138 (by decide) ?_
                    refine lv_isub hx hb dX11_readsParts_139 ?_
                    refine lv_topi (fun z241 ez241 => ?_)
                    obtain rfl : z241 = 0 := ez241.trans (by decide)
                    refine va_put (D := (dC, dI)) (ci := 8) (v := .int 0) (ty := tyX11 23) (C := RX11) (T := TX11) (N := 71) hx hb hw iwX11 tyX11 tyX11_ok nmX11 hown hK hP hD hS 7 rfl rfl 23 (by decide) (hw _ w_f_X11_130) (fun _ h9 => h9) rfl (tyX11_ok 23 (by decide)) rfl rfl (Nat.le_of_ble_eq_true rfl) dX11_readsParts_140 (fun H locs hP9 hD9 hS9 => ?_)
                    clear hP hD hS
                    have hP : va_P (dC, dI) cls [(h_nv, .inl (cy_nv, 8000, .inl f161)), (h_nn, .inl (cy_nn, 8000, .inr (.inl f162))), (h_na, .inl (cy_na, 8000, .inl f163)), (h_nb, .inl (cy_nb, 8000, .inl f164)), (h_nc, .inl (cy_nc, 8000, .inl f195)), (h_vrs, .inl (cy_vrs, 32, .inl f166)), (h_let, .inl (cy_let, 256, .inl f167)), (h_mm, .inr (8, (mo126 v_mm (.ref h_nv) (.ref h_nn) (.ref h_na) (.ref h_nb) (.ref h_nc) (.int z152) (.ref h_vrs) (.ref h_let) (.ref h_tap) (.int x_mm_taped) (.int z228) (.int z229) (.int z230) (.int z231) (.long z232) (.int z220) (.int z221) (.int z222) (.int 0) (.int x_mm_reading)))), (h_tap, .inl (cy_tap, 600, .inl f_tap))] H := hP9
                    have hD : va_D A [(h_nv, .inl (cy_nv, 8000, .inl f161)), (h_nn, .inl (cy_nn, 8000, .inr (.inl f162))), (h_na, .inl (cy_na, 8000, .inl f163)), (h_nb, .inl (cy_nb, 8000, .inl f164)), (h_nc, .inl (cy_nc, 8000, .inl f195)), (h_vrs, .inl (cy_vrs, 32, .inl f166)), (h_let, .inl (cy_let, 256, .inl f167)), (h_mm, .inr (8, (mo126 v_mm (.ref h_nv) (.ref h_nn) (.ref h_na) (.ref h_nb) (.ref h_nc) (.int z152) (.ref h_vrs) (.ref h_let) (.ref h_tap) (.int x_mm_taped) (.int z228) (.int z229) (.int z230) (.int z231) (.long z232) (.int z220) (.int z221) (.int z222) (.int 0) (.int x_mm_reading)))), (h_tap, .inl (cy_tap, 600, .inl f_tap))] := hD9
                    have hS := hS9
                    clear hP9 hD9 hS9
                    replace hP : va_P (dC, dI) cls [(h_mm, .inr (8, (mo126 v_mm (.ref h_nv) (.ref h_nn) (.ref h_na) (.ref h_nb) (.ref h_nc) (.int z152) (.ref h_vrs) (.ref h_let) (.ref h_tap) (.int x_mm_taped) (.int z228) (.int z229) (.int z230) (.int z231) (.long z232) (.int z220) (.int z221) (.int z222) (.int 0) (.int x_mm_reading)))), (h_tap, .inl (cy_tap, 600, .inl f_tap)), (h_nv, .inl (cy_nv, 8000, .inl f161)), (h_nn, .inl (cy_nn, 8000, .inr (.inl f162))), (h_na, .inl (cy_na, 8000, .inl f163)), (h_nb, .inl (cy_nb, 8000, .inl f164)), (h_nc, .inl (cy_nc, 8000, .inl f195)), (h_vrs, .inl (cy_vrs, 32, .inl f166)), (h_let, .inl (cy_let, 256, .inl f167))] H := hP.sub [7, 8, 0, 1, 2, 3, 4, 5, 6] rfl
                    replace hD : va_D A [(h_mm, .inr (8, (mo126 v_mm (.ref h_nv) (.ref h_nn) (.ref h_na) (.ref h_nb) (.ref h_nc) (.int z152) (.ref h_vrs) (.ref h_let) (.ref h_tap) (.int x_mm_taped) (.int z228) (.int z229) (.int z230) (.int z231) (.long z232) (.int z220) (.int z221) (.int z222) (.int 0) (.int x_mm_reading)))), (h_tap, .inl (cy_tap, 600, .inl f_tap)), (h_nv, .inl (cy_nv, 8000, .inl f161)), (h_nn, .inl (cy_nn, 8000, .inr (.inl f162))), (h_na, .inl (cy_na, 8000, .inl f163)), (h_nb, .inl (cy_nb, 8000, .inl f164)), (h_nc, .inl (cy_nc, 8000, .inl f195)), (h_vrs, .inl (cy_vrs, 32, .inl f166)), (h_let, .inl (cy_let, 256, .inl f167))] := hD.sub [7, 8, 0, 1, 2, 3, 4, 5, 6] (by decide) rfl
                    refine W.widen (k := 0) (n := 0) (Nat.le_of_ble_eq_true rfl) (Nat.le_of_ble_eq_true rfl) ?_
                    have w242 : 0 ≤ ((z152)).toInt ∧ ((z152)).toInt ≤ 1200 := by first | exact k169 | omega
                    have w243 : 0 ≤ ((z228)).toInt ∧ ((z228)).toInt ≤ 600 := by first | exact k233 | omega
                    have w244 : 0 ≤ ((z229)).toInt ∧ ((z229)).toInt ≤ 600 := by first | exact k234 | omega
                    have w245 : 0 ≤ ((z230)).toInt ∧ ((z230)).toInt ≤ 4 := by first | exact k235 | omega
                    have w246 : 0 ≤ ((z220)).toInt ∧ ((z220)).toInt ≤ 1 := by first | exact k223 | omega
                    have w247 : ((z229)).toInt ≤ ((z228)).toInt := by first | exact k236 | omega
                    have w248 : ((z220)).toInt = 1 ∨ ((z152)).toInt ≤ lo + ((z229)).toInt := by omega
                    have w249 : (x_mm_nodes).toInt ≤ ((z152)).toInt := by omega
                    have w250 : (x_mm_place).toInt ≤ ((z229)).toInt := by omega
                    have w251 : (x_mm_isFaulty).toInt ≤ ((z220)).toInt := by omega
                    have w252 : (((z220)).toInt = 0 ∧ ((pPs G (x_mm_taped).toInt 6 (x_mm_place).toInt nv vf)).1 = 0 ∧ ((z221)).toInt = (x_mm_fault).toInt ∧ ((z222)).toInt = (x_mm_faultPlace).toInt) ∨ (((z220)).toInt = 1 ∧ ¬ ((pPs G (x_mm_taped).toInt 6 (x_mm_place).toInt nv vf)).1 = 0 ∧ ((z221)).toInt = ((pPs G (x_mm_taped).toInt 6 (x_mm_place).toInt nv vf)).1 ∧ ((z222)).toInt = ((pPs G (x_mm_taped).toInt 6 (x_mm_place).toInt nv vf)).2.1) := by omega
                    have w253 : ((z229)).toInt = ((pPs G (x_mm_taped).toInt 6 (x_mm_place).toInt nv vf)).2.1 := by omega
                    have w254 : 0 ≤ ((pPs G (x_mm_taped).toInt 6 (x_mm_place).toInt nv vf)).2.2.1 ∧ ((pPs G (x_mm_taped).toInt 6 (x_mm_place).toInt nv vf)).2.2.1 ≤ 8 := by omega
                    have w255 : ((z230)).toInt = kd (tkT G (x_mm_taped).toInt ((z229)).toInt) := by first | exact k237 | omega
                    have w256 : ((z230)).toInt = 0 ∨ (((z228)).toInt = tkX G (x_mm_taped).toInt ((z229)).toInt ∧ ((z231)).toInt = G ((z229)).toInt ∧ ((z229)).toInt < (x_mm_taped).toInt ∧ ((z229)).toInt + 1 ≤ ((z228)).toInt) := by first | exact k238 | omega
                    have w257 : ((z228)).toInt ≤ (x_mm_taped).toInt := by first | exact k239 | omega
                    have w258 : ((z229)).toInt ≤ (x_mm_taped).toInt := by first | exact k240 | omega
                    have w259 : EQ0 lo za zb zc zv (f163) (f164) (f195) (f161) := nd197
                    have w260 : ND lo ((z152)).toInt (gh168) (f163) (f164) (f195) := (nd_cast nd196 (by omega))
                    have w261 : ∀ y : Nat, (y : Int) < (x_mm_nodes).toInt → (gh168) y = hh y := (fun y hy => (k190 y (by omega)).trans ((k126 y (by omega)).trans ((k62 y (by omega)).trans (rfl))))
                    have w262 : ((f166) (Int32.toNatClampNeg x_mm_reading)).toInt = ((pPs G (x_mm_taped).toInt 6 (x_mm_place).toInt nv vf)).2.2.1 := (k191.trans pq2173.symm)
                    have w263 : VFM ((pPs G (x_mm_taped).toInt 6 (x_mm_place).toInt nv vf)).2.2.1 ((pPs G (x_mm_taped).toInt 6 (x_mm_place).toInt nv vf)).2.2.2 (f167) (x_mm_reading).toInt := (by rw [pq2173, pq2174]; exact k192)
                    exact W.vret hx hb hr (fun t ht hW => ⟨⟨(z152, z228, z229, z230, z231, z232, z220, z221, z222, f161, f162, f163, f164, f195, f166, f167, gh168), rfl, ⟨w242, w243, w244, w245, w246, hf161, hf163, hf164, hf195, hf166, w247, w248, w249, w250, w251, w252, w253, w254, w255, w256, w257, w258, w259, w260, w261, w262, w263⟩, by rw [ht]; exact hP, hD⟩, hS.F ht⟩) hS.2.2 dX11_readsParts_143
                  · replace hq : (((z229)).toInt = ((z201)).toInt) ∧ (((z228)).toInt = ((z200)).toInt) ∧ (((z230)).toInt = ((z202)).toInt) ∧ (((z220)).toInt = 1) := hq
                    refine lv_if_ne (tgt := 133) hx hb dX11_readsParts_125 (by decide) (fun c9 => absurd c9 (by decide)) (fun _ => ?_)
                    refine lv_aload_n hx hb dX11_readsParts_128 rfl (lv_at hl 0 rfl) ?_
                    refine lv_iconst (v := 1) hx hb dX11_readsParts_129 (by decide) ?_
                    obtain ⟨vq264, evq264⟩ := mq126_90 v_mm (.ref h_nv) (.ref h_nn) (.ref h_na) (.ref h_nb) (.ref h_nc) (.int z152) (.ref h_vrs) (.ref h_let) (.ref h_tap) (.int x_mm_taped) (.int z228) (.int z230) (.int z231) (.long z232) (.int 1) (.int x_mm_reading)
                    replace hP : va_P (dC, dI) cls [(h_nv, .inl (cy_nv, 8000, .inl f161)), (h_nn, .inl (cy_nn, 8000, .inr (.inl f162))), (h_na, .inl (cy_na, 8000, .inl f163)), (h_nb, .inl (cy_nb, 8000, .inl f164)), (h_nc, .inl (cy_nc, 8000, .inl f195)), (h_vrs, .inl (cy_vrs, 32, .inl f166)), (h_let, .inl (cy_let, 256, .inl f167)), (h_mm, .inr (8, (mo90 vq264 (.int z229) (.int z220) (.int z221) (.int z222)))), (h_tap, .inl (cy_tap, 600, .inl f_tap))] H := by rw [evq264]; exact hP
                    replace hD : va_D A [(h_nv, .inl (cy_nv, 8000, .inl f161)), (h_nn, .inl (cy_nn, 8000, .inr (.inl f162))), (h_na, .inl (cy_na, 8000, .inl f163)), (h_nb, .inl (cy_nb, 8000, .inl f164)), (h_nc, .inl (cy_nc, 8000, .inl f195)), (h_vrs, .inl (cy_vrs, 32, .inl f166)), (h_let, .inl (cy_let, 256, .inl f167)), (h_mm, .inr (8, (mo90 vq264 (.int z229) (.int z220) (.int z221) (.int z222)))), (h_tap, .inl (cy_tap, 600, .inl f_tap))] := by rw [evq264]; exact hD
                    have cst1 : (1 : Int32).toInt = 1 := by decide
                    have hPc := hP.sub (ws' := [(h_mm, .inr (8, (mo90 vq264 (.int z229) (.int z220) (.int z221) (.int z222))))]) [7] rfl
                    have hDc := hD.sub (ws' := [(h_mm, .inr (8, (mo90 vq264 (.int z229) (.int z220) (.int z221) (.int z222))))]) [7] (by decide) rfl
                    have hKc := hK.sub (tys' := []) [] rfl
                    have hFc := va_free (wc := [(h_mm, .inr (8, (mo90 vq264 (.int z229) (.int z220) (.int z221) (.int z222))))]) hD hS hA [7] rfl
                    refine va_callv (va_runV (As := [.int 1]) (rest := []) ⟨hx, hb, hml, hown, hts⟩ (c_X11_faulty l dC dI H.size h_mm vq264 z229 z220 z221 z222 1 (by first | exact k234 | omega) (by first | exact k223 | omega)) (cwV 1 hts (gv hT w_m_X11_111 w_instanceMethod_X11_faulty ws_sel_X11_faulty w_ini_X11 w_code_X11_faulty) rfl rfl rfl (by decide +kernel) ⟨(Nat.le_of_ble_eq_true rfl), (Nat.le_of_ble_eq_true rfl)⟩) ⟨pre_blind, va_recv hK hP (ci := 8) (q0 := 7) rfl rfl, pre_of hPc hKc hDc hN⟩ rfl rfl hl.1 rfl (lv_room (Nat.le_of_ble_eq_true rfl)) dX11_readsParts_130 ⟨(Nat.le_of_ble_eq_true rfl), (Nat.le_of_ble_eq_true rfl)⟩) hS (fun q _ h => hFc q h) hFc (fun u t H locs ht hvm hq hB hz1 hk1 hS9 => ?_)
                    obtain ⟨z266, z267, z268⟩ := u
                    obtain ⟨hP1, hD1⟩ := hB
                    rw [ht] at hP1
                    obtain ⟨hP9, hD9⟩ := va_join (wr := [(h_nv, .inl (cy_nv, 8000, .inl f161)), (h_nn, .inl (cy_nn, 8000, .inr (.inl f162))), (h_na, .inl (cy_na, 8000, .inl f163)), (h_nb, .inl (cy_nb, 8000, .inl f164)), (h_nc, .inl (cy_nc, 8000, .inl f195)), (h_vrs, .inl (cy_vrs, 32, .inl f166)), (h_let, .inl (cy_let, 256, .inl f167)), (h_tap, .inl (cy_tap, 600, .inl f_tap))]) (w1 := [(h_mm, .inr (8, (mo90 vq264 (.int z229) (.int z266) (.int z267) (.int z268))))]) hP hD [7] [0, 1, 2, 3, 4, 5, 6, 8] rfl rfl (by decide) (by decide) hk1 hFc hP1 hD1
                    clear hP hD hS hPc hDc hKc hFc hP1 hD1 hk1 hz1 ht hvm
                    have hP : va_P (dC, dI) cls [(h_nv, .inl (cy_nv, 8000, .inl f161)), (h_nn, .inl (cy_nn, 8000, .inr (.inl f162))), (h_na, .inl (cy_na, 8000, .inl f163)), (h_nb, .inl (cy_nb, 8000, .inl f164)), (h_nc, .inl (cy_nc, 8000, .inl f195)), (h_vrs, .inl (cy_vrs, 32, .inl f166)), (h_let, .inl (cy_let, 256, .inl f167)), (h_tap, .inl (cy_tap, 600, .inl f_tap)), (h_mm, .inr (8, (mo90 vq264 (.int z229) (.int z266) (.int z267) (.int z268))))] H := hP9
                    have hD : va_D A [(h_nv, .inl (cy_nv, 8000, .inl f161)), (h_nn, .inl (cy_nn, 8000, .inr (.inl f162))), (h_na, .inl (cy_na, 8000, .inl f163)), (h_nb, .inl (cy_nb, 8000, .inl f164)), (h_nc, .inl (cy_nc, 8000, .inl f195)), (h_vrs, .inl (cy_vrs, 32, .inl f166)), (h_let, .inl (cy_let, 256, .inl f167)), (h_tap, .inl (cy_tap, 600, .inl f_tap)), (h_mm, .inr (8, (mo90 vq264 (.int z229) (.int z266) (.int z267) (.int z268))))] := hD9
                    have hS := hS9
                    clear hP9 hD9 hS9
                    rw [evq264] at hP hD
                    replace hP : va_P (dC, dI) cls [(h_nv, .inl (cy_nv, 8000, .inl f161)), (h_nn, .inl (cy_nn, 8000, .inr (.inl f162))), (h_na, .inl (cy_na, 8000, .inl f163)), (h_nb, .inl (cy_nb, 8000, .inl f164)), (h_nc, .inl (cy_nc, 8000, .inl f195)), (h_vrs, .inl (cy_vrs, 32, .inl f166)), (h_let, .inl (cy_let, 256, .inl f167)), (h_tap, .inl (cy_tap, 600, .inl f_tap)), (h_mm, .inr (8, (mo126 v_mm (.ref h_nv) (.ref h_nn) (.ref h_na) (.ref h_nb) (.ref h_nc) (.int z152) (.ref h_vrs) (.ref h_let) (.ref h_tap) (.int x_mm_taped) (.int z228) (.int z229) (.int z230) (.int z231) (.long z232) (.int z266) (.int z267) (.int z268) (.int 1) (.int x_mm_reading))))] H := hP
                    replace hD : va_D A [(h_nv, .inl (cy_nv, 8000, .inl f161)), (h_nn, .inl (cy_nn, 8000, .inr (.inl f162))), (h_na, .inl (cy_na, 8000, .inl f163)), (h_nb, .inl (cy_nb, 8000, .inl f164)), (h_nc, .inl (cy_nc, 8000, .inl f195)), (h_vrs, .inl (cy_vrs, 32, .inl f166)), (h_let, .inl (cy_let, 256, .inl f167)), (h_tap, .inl (cy_tap, 600, .inl f_tap)), (h_mm, .inr (8, (mo126 v_mm (.ref h_nv) (.ref h_nn) (.ref h_na) (.ref h_nb) (.ref h_nc) (.int z152) (.ref h_vrs) (.ref h_let) (.ref h_tap) (.int x_mm_taped) (.int z228) (.int z229) (.int z230) (.int z231) (.long z232) (.int z266) (.int z267) (.int z268) (.int 1) (.int x_mm_reading))))] := hD
                    clear evq264 
                    obtain ⟨k269, k270, k271⟩ := hq
                    replace k269 : 0 ≤ ((z266)).toInt ∧ ((z266)).toInt ≤ 1 := k269
                    replace k270 : ((z266)).toInt = 1 := k270
                    replace k271 : (((z220)).toInt = 1 ∧ ((z267)).toInt = ((z221)).toInt ∧ ((z268)).toInt = ((z222)).toInt) ∨ (((z220)).toInt = 0 ∧ ((z267)).toInt = ((1 : Int32)).toInt ∧ ((z268)).toInt = ((z229)).toInt) := k271
                    refine lv_aload_n hx hb dX11_readsParts_133 rfl (lv_at hl 0 rfl) ?_
                    refine lv_aload_n hx hb dX11_readsParts_134 rfl (lv_at hl 0 rfl) ?_
                    refine va_get (D := (dC, dI)) (ci := 8) (v := .int 1) (C := RX11) (T := TX11) (N := 71) hx hb hw iwX11 hown hK hP 8 rfl rfl 23 (by decide) (hw _ w_f_X11_130) (fun _ h9 => h9) rfl dX11_readsParts_135 ?_
                    refine lv_iconst (v := 1) hx hb dX11_readsParts_138 (by decide) ?_
                    refine lv_isub hx hb dX11_readsParts_139 ?_
                    refine lv_topi (fun z272 ez272 => ?_)
                    obtain rfl : z272 = 0 := ez272.trans (by decide)
                    refine va_put (D := (dC, dI)) (ci := 8) (v := .int 0) (ty := tyX11 23) (C := RX11) (T := TX11) (N := 71) hx hb hw iwX11 tyX11 tyX11_ok nmX11 hown hK hP hD hS 8 rfl rfl 23 (by decide) (hw _ w_f_X11_130) (fun _ h9 => h9) rfl (tyX11_ok 23 (by decide)) rfl rfl (Nat.le_of_ble_eq_true rfl) dX11_readsParts_140 (fun H locs hP9 hD9 hS9 => ?_)
                    clear hP hD hS
                    have hP : va_P (dC, dI) cls [(h_nv, .inl (cy_nv, 8000, .inl f161)), (h_nn, .inl (cy_nn, 8000, .inr (.inl f162))), (h_na, .inl (cy_na, 8000, .inl f163)), (h_nb, .inl (cy_nb, 8000, .inl f164)), (h_nc, .inl (cy_nc, 8000, .inl f195)), (h_vrs, .inl (cy_vrs, 32, .inl f166)), (h_let, .inl (cy_let, 256, .inl f167)), (h_tap, .inl (cy_tap, 600, .inl f_tap)), (h_mm, .inr (8, (mo126 v_mm (.ref h_nv) (.ref h_nn) (.ref h_na) (.ref h_nb) (.ref h_nc) (.int z152) (.ref h_vrs) (.ref h_let) (.ref h_tap) (.int x_mm_taped) (.int z228) (.int z229) (.int z230) (.int z231) (.long z232) (.int z266) (.int z267) (.int z268) (.int 0) (.int x_mm_reading))))] H := hP9
                    have hD : va_D A [(h_nv, .inl (cy_nv, 8000, .inl f161)), (h_nn, .inl (cy_nn, 8000, .inr (.inl f162))), (h_na, .inl (cy_na, 8000, .inl f163)), (h_nb, .inl (cy_nb, 8000, .inl f164)), (h_nc, .inl (cy_nc, 8000, .inl f195)), (h_vrs, .inl (cy_vrs, 32, .inl f166)), (h_let, .inl (cy_let, 256, .inl f167)), (h_tap, .inl (cy_tap, 600, .inl f_tap)), (h_mm, .inr (8, (mo126 v_mm (.ref h_nv) (.ref h_nn) (.ref h_na) (.ref h_nb) (.ref h_nc) (.int z152) (.ref h_vrs) (.ref h_let) (.ref h_tap) (.int x_mm_taped) (.int z228) (.int z229) (.int z230) (.int z231) (.long z232) (.int z266) (.int z267) (.int z268) (.int 0) (.int x_mm_reading))))] := hD9
                    have hS := hS9
                    clear hP9 hD9 hS9
                    replace hP : va_P (dC, dI) cls [(h_mm, .inr (8, (mo126 v_mm (.ref h_nv) (.ref h_nn) (.ref h_na) (.ref h_nb) (.ref h_nc) (.int z152) (.ref h_vrs) (.ref h_let) (.ref h_tap) (.int x_mm_taped) (.int z228) (.int z229) (.int z230) (.int z231) (.long z232) (.int z266) (.int z267) (.int z268) (.int 0) (.int x_mm_reading)))), (h_tap, .inl (cy_tap, 600, .inl f_tap)), (h_nv, .inl (cy_nv, 8000, .inl f161)), (h_nn, .inl (cy_nn, 8000, .inr (.inl f162))), (h_na, .inl (cy_na, 8000, .inl f163)), (h_nb, .inl (cy_nb, 8000, .inl f164)), (h_nc, .inl (cy_nc, 8000, .inl f195)), (h_vrs, .inl (cy_vrs, 32, .inl f166)), (h_let, .inl (cy_let, 256, .inl f167))] H := hP.sub [8, 7, 0, 1, 2, 3, 4, 5, 6] rfl
                    replace hD : va_D A [(h_mm, .inr (8, (mo126 v_mm (.ref h_nv) (.ref h_nn) (.ref h_na) (.ref h_nb) (.ref h_nc) (.int z152) (.ref h_vrs) (.ref h_let) (.ref h_tap) (.int x_mm_taped) (.int z228) (.int z229) (.int z230) (.int z231) (.long z232) (.int z266) (.int z267) (.int z268) (.int 0) (.int x_mm_reading)))), (h_tap, .inl (cy_tap, 600, .inl f_tap)), (h_nv, .inl (cy_nv, 8000, .inl f161)), (h_nn, .inl (cy_nn, 8000, .inr (.inl f162))), (h_na, .inl (cy_na, 8000, .inl f163)), (h_nb, .inl (cy_nb, 8000, .inl f164)), (h_nc, .inl (cy_nc, 8000, .inl f195)), (h_vrs, .inl (cy_vrs, 32, .inl f166)), (h_let, .inl (cy_let, 256, .inl f167))] := hD.sub [8, 7, 0, 1, 2, 3, 4, 5, 6] (by decide) rfl
                    refine W.widen (k := 0) (n := 0) (Nat.le_of_ble_eq_true rfl) (Nat.le_of_ble_eq_true rfl) ?_
                    have w273 : 0 ≤ ((z152)).toInt ∧ ((z152)).toInt ≤ 1200 := by first | exact k169 | omega
                    have w274 : 0 ≤ ((z228)).toInt ∧ ((z228)).toInt ≤ 600 := by first | exact k233 | omega
                    have w275 : 0 ≤ ((z229)).toInt ∧ ((z229)).toInt ≤ 600 := by first | exact k234 | omega
                    have w276 : 0 ≤ ((z230)).toInt ∧ ((z230)).toInt ≤ 4 := by first | exact k235 | omega
                    have w277 : 0 ≤ ((z266)).toInt ∧ ((z266)).toInt ≤ 1 := by first | exact k269 | omega
                    have w278 : ((z229)).toInt ≤ ((z228)).toInt := by first | exact k236 | omega
                    have w279 : ((z266)).toInt = 1 ∨ ((z152)).toInt ≤ lo + ((z229)).toInt := by omega
                    have w280 : (x_mm_nodes).toInt ≤ ((z152)).toInt := by omega
                    have w281 : (x_mm_place).toInt ≤ ((z229)).toInt := by omega
                    have w282 : (x_mm_isFaulty).toInt ≤ ((z266)).toInt := by omega
                    have w283 : (((z266)).toInt = 0 ∧ ((pPs G (x_mm_taped).toInt 6 (x_mm_place).toInt nv vf)).1 = 0 ∧ ((z267)).toInt = (x_mm_fault).toInt ∧ ((z268)).toInt = (x_mm_faultPlace).toInt) ∨ (((z266)).toInt = 1 ∧ ¬ ((pPs G (x_mm_taped).toInt 6 (x_mm_place).toInt nv vf)).1 = 0 ∧ ((z267)).toInt = ((pPs G (x_mm_taped).toInt 6 (x_mm_place).toInt nv vf)).1 ∧ ((z268)).toInt = ((pPs G (x_mm_taped).toInt 6 (x_mm_place).toInt nv vf)).2.1) := by omega
                    have w284 : ((z229)).toInt = ((pPs G (x_mm_taped).toInt 6 (x_mm_place).toInt nv vf)).2.1 := by omega
                    have w285 : 0 ≤ ((pPs G (x_mm_taped).toInt 6 (x_mm_place).toInt nv vf)).2.2.1 ∧ ((pPs G (x_mm_taped).toInt 6 (x_mm_place).toInt nv vf)).2.2.1 ≤ 8 := by omega
                    have w286 : ((z230)).toInt = kd (tkT G (x_mm_taped).toInt ((z229)).toInt) := by first | exact k237 | omega
                    have w287 : ((z230)).toInt = 0 ∨ (((z228)).toInt = tkX G (x_mm_taped).toInt ((z229)).toInt ∧ ((z231)).toInt = G ((z229)).toInt ∧ ((z229)).toInt < (x_mm_taped).toInt ∧ ((z229)).toInt + 1 ≤ ((z228)).toInt) := by first | exact k238 | omega
                    have w288 : ((z228)).toInt ≤ (x_mm_taped).toInt := by first | exact k239 | omega
                    have w289 : ((z229)).toInt ≤ (x_mm_taped).toInt := by first | exact k240 | omega
                    have w290 : EQ0 lo za zb zc zv (f163) (f164) (f195) (f161) := nd197
                    have w291 : ND lo ((z152)).toInt (gh168) (f163) (f164) (f195) := (nd_cast nd196 (by omega))
                    have w292 : ∀ y : Nat, (y : Int) < (x_mm_nodes).toInt → (gh168) y = hh y := (fun y hy => (k190 y (by omega)).trans ((k126 y (by omega)).trans ((k62 y (by omega)).trans (rfl))))
                    have w293 : ((f166) (Int32.toNatClampNeg x_mm_reading)).toInt = ((pPs G (x_mm_taped).toInt 6 (x_mm_place).toInt nv vf)).2.2.1 := (k191.trans pq2173.symm)
                    have w294 : VFM ((pPs G (x_mm_taped).toInt 6 (x_mm_place).toInt nv vf)).2.2.1 ((pPs G (x_mm_taped).toInt 6 (x_mm_place).toInt nv vf)).2.2.2 (f167) (x_mm_reading).toInt := (by rw [pq2173, pq2174]; exact k192)
                    exact W.vret hx hb hr (fun t ht hW => ⟨⟨(z152, z228, z229, z230, z231, z232, z266, z267, z268, f161, f162, f163, f164, f195, f166, f167, gh168), rfl, ⟨w273, w274, w275, w276, w277, hf161, hf163, hf164, hf195, hf166, w278, w279, w280, w281, w282, w283, w284, w285, w286, w287, w288, w289, w290, w291, w292, w293, w294⟩, by rw [ht]; exact hP, hD⟩, hS.F ht⟩) hS.2.2 dX11_readsParts_143
                  · replace hq : (((z229)).toInt = ((z201)).toInt) ∧ (((z228)).toInt = ((z200)).toInt) ∧ (((z230)).toInt = ((z202)).toInt) ∧ (((z220)).toInt = 0) ∧ (¬ tkT (G) ((x_mm_taped)).toInt ((z201)).toInt = ((41 : Int32)).toInt) := hq
                    refine lv_if_ne (tgt := 133) hx hb dX11_readsParts_125 (by decide) (fun c9 => absurd c9 (by decide)) (fun _ => ?_)
                    refine lv_aload_n hx hb dX11_readsParts_128 rfl (lv_at hl 0 rfl) ?_
                    refine lv_iconst (v := 1) hx hb dX11_readsParts_129 (by decide) ?_
                    obtain ⟨vq295, evq295⟩ := mq126_90 v_mm (.ref h_nv) (.ref h_nn) (.ref h_na) (.ref h_nb) (.ref h_nc) (.int z152) (.ref h_vrs) (.ref h_let) (.ref h_tap) (.int x_mm_taped) (.int z228) (.int z230) (.int z231) (.long z232) (.int 1) (.int x_mm_reading)
                    replace hP : va_P (dC, dI) cls [(h_nv, .inl (cy_nv, 8000, .inl f161)), (h_nn, .inl (cy_nn, 8000, .inr (.inl f162))), (h_na, .inl (cy_na, 8000, .inl f163)), (h_nb, .inl (cy_nb, 8000, .inl f164)), (h_nc, .inl (cy_nc, 8000, .inl f195)), (h_vrs, .inl (cy_vrs, 32, .inl f166)), (h_let, .inl (cy_let, 256, .inl f167)), (h_mm, .inr (8, (mo90 vq295 (.int z229) (.int z220) (.int z221) (.int z222)))), (h_tap, .inl (cy_tap, 600, .inl f_tap))] H := by rw [evq295]; exact hP
                    replace hD : va_D A [(h_nv, .inl (cy_nv, 8000, .inl f161)), (h_nn, .inl (cy_nn, 8000, .inr (.inl f162))), (h_na, .inl (cy_na, 8000, .inl f163)), (h_nb, .inl (cy_nb, 8000, .inl f164)), (h_nc, .inl (cy_nc, 8000, .inl f195)), (h_vrs, .inl (cy_vrs, 32, .inl f166)), (h_let, .inl (cy_let, 256, .inl f167)), (h_mm, .inr (8, (mo90 vq295 (.int z229) (.int z220) (.int z221) (.int z222)))), (h_tap, .inl (cy_tap, 600, .inl f_tap))] := by rw [evq295]; exact hD
                    have cst1 : (1 : Int32).toInt = 1 := by decide
                    have hPc := hP.sub (ws' := [(h_mm, .inr (8, (mo90 vq295 (.int z229) (.int z220) (.int z221) (.int z222))))]) [7] rfl
                    have hDc := hD.sub (ws' := [(h_mm, .inr (8, (mo90 vq295 (.int z229) (.int z220) (.int z221) (.int z222))))]) [7] (by decide) rfl
                    have hKc := hK.sub (tys' := []) [] rfl
                    have hFc := va_free (wc := [(h_mm, .inr (8, (mo90 vq295 (.int z229) (.int z220) (.int z221) (.int z222))))]) hD hS hA [7] rfl
                    refine va_callv (va_runV (As := [.int 1]) (rest := []) ⟨hx, hb, hml, hown, hts⟩ (c_X11_faulty l dC dI H.size h_mm vq295 z229 z220 z221 z222 1 (by first | exact k234 | omega) (by first | exact k223 | omega)) (cwV 1 hts (gv hT w_m_X11_111 w_instanceMethod_X11_faulty ws_sel_X11_faulty w_ini_X11 w_code_X11_faulty) rfl rfl rfl (by decide +kernel) ⟨(Nat.le_of_ble_eq_true rfl), (Nat.le_of_ble_eq_true rfl)⟩) ⟨pre_blind, va_recv hK hP (ci := 8) (q0 := 7) rfl rfl, pre_of hPc hKc hDc hN⟩ rfl rfl hl.1 rfl (lv_room (Nat.le_of_ble_eq_true rfl)) dX11_readsParts_130 ⟨(Nat.le_of_ble_eq_true rfl), (Nat.le_of_ble_eq_true rfl)⟩) hS (fun q _ h => hFc q h) hFc (fun u t H locs ht hvm hq hB hz1 hk1 hS9 => ?_)
                    obtain ⟨z297, z298, z299⟩ := u
                    obtain ⟨hP1, hD1⟩ := hB
                    rw [ht] at hP1
                    obtain ⟨hP9, hD9⟩ := va_join (wr := [(h_nv, .inl (cy_nv, 8000, .inl f161)), (h_nn, .inl (cy_nn, 8000, .inr (.inl f162))), (h_na, .inl (cy_na, 8000, .inl f163)), (h_nb, .inl (cy_nb, 8000, .inl f164)), (h_nc, .inl (cy_nc, 8000, .inl f195)), (h_vrs, .inl (cy_vrs, 32, .inl f166)), (h_let, .inl (cy_let, 256, .inl f167)), (h_tap, .inl (cy_tap, 600, .inl f_tap))]) (w1 := [(h_mm, .inr (8, (mo90 vq295 (.int z229) (.int z297) (.int z298) (.int z299))))]) hP hD [7] [0, 1, 2, 3, 4, 5, 6, 8] rfl rfl (by decide) (by decide) hk1 hFc hP1 hD1
                    clear hP hD hS hPc hDc hKc hFc hP1 hD1 hk1 hz1 ht hvm
                    have hP : va_P (dC, dI) cls [(h_nv, .inl (cy_nv, 8000, .inl f161)), (h_nn, .inl (cy_nn, 8000, .inr (.inl f162))), (h_na, .inl (cy_na, 8000, .inl f163)), (h_nb, .inl (cy_nb, 8000, .inl f164)), (h_nc, .inl (cy_nc, 8000, .inl f195)), (h_vrs, .inl (cy_vrs, 32, .inl f166)), (h_let, .inl (cy_let, 256, .inl f167)), (h_tap, .inl (cy_tap, 600, .inl f_tap)), (h_mm, .inr (8, (mo90 vq295 (.int z229) (.int z297) (.int z298) (.int z299))))] H := hP9
                    have hD : va_D A [(h_nv, .inl (cy_nv, 8000, .inl f161)), (h_nn, .inl (cy_nn, 8000, .inr (.inl f162))), (h_na, .inl (cy_na, 8000, .inl f163)), (h_nb, .inl (cy_nb, 8000, .inl f164)), (h_nc, .inl (cy_nc, 8000, .inl f195)), (h_vrs, .inl (cy_vrs, 32, .inl f166)), (h_let, .inl (cy_let, 256, .inl f167)), (h_tap, .inl (cy_tap, 600, .inl f_tap)), (h_mm, .inr (8, (mo90 vq295 (.int z229) (.int z297) (.int z298) (.int z299))))] := hD9
                    have hS := hS9
                    clear hP9 hD9 hS9
                    rw [evq295] at hP hD
                    replace hP : va_P (dC, dI) cls [(h_nv, .inl (cy_nv, 8000, .inl f161)), (h_nn, .inl (cy_nn, 8000, .inr (.inl f162))), (h_na, .inl (cy_na, 8000, .inl f163)), (h_nb, .inl (cy_nb, 8000, .inl f164)), (h_nc, .inl (cy_nc, 8000, .inl f195)), (h_vrs, .inl (cy_vrs, 32, .inl f166)), (h_let, .inl (cy_let, 256, .inl f167)), (h_tap, .inl (cy_tap, 600, .inl f_tap)), (h_mm, .inr (8, (mo126 v_mm (.ref h_nv) (.ref h_nn) (.ref h_na) (.ref h_nb) (.ref h_nc) (.int z152) (.ref h_vrs) (.ref h_let) (.ref h_tap) (.int x_mm_taped) (.int z228) (.int z229) (.int z230) (.int z231) (.long z232) (.int z297) (.int z298) (.int z299) (.int 1) (.int x_mm_reading))))] H := hP
                    replace hD : va_D A [(h_nv, .inl (cy_nv, 8000, .inl f161)), (h_nn, .inl (cy_nn, 8000, .inr (.inl f162))), (h_na, .inl (cy_na, 8000, .inl f163)), (h_nb, .inl (cy_nb, 8000, .inl f164)), (h_nc, .inl (cy_nc, 8000, .inl f195)), (h_vrs, .inl (cy_vrs, 32, .inl f166)), (h_let, .inl (cy_let, 256, .inl f167)), (h_tap, .inl (cy_tap, 600, .inl f_tap)), (h_mm, .inr (8, (mo126 v_mm (.ref h_nv) (.ref h_nn) (.ref h_na) (.ref h_nb) (.ref h_nc) (.int z152) (.ref h_vrs) (.ref h_let) (.ref h_tap) (.int x_mm_taped) (.int z228) (.int z229) (.int z230) (.int z231) (.long z232) (.int z297) (.int z298) (.int z299) (.int 1) (.int x_mm_reading))))] := hD
                    clear evq295 
                    obtain ⟨k300, k301, k302⟩ := hq
                    replace k300 : 0 ≤ ((z297)).toInt ∧ ((z297)).toInt ≤ 1 := k300
                    replace k301 : ((z297)).toInt = 1 := k301
                    replace k302 : (((z220)).toInt = 1 ∧ ((z298)).toInt = ((z221)).toInt ∧ ((z299)).toInt = ((z222)).toInt) ∨ (((z220)).toInt = 0 ∧ ((z298)).toInt = ((1 : Int32)).toInt ∧ ((z299)).toInt = ((z229)).toInt) := k302
                    refine lv_aload_n hx hb dX11_readsParts_133 rfl (lv_at hl 0 rfl) ?_
                    refine lv_aload_n hx hb dX11_readsParts_134 rfl (lv_at hl 0 rfl) ?_
                    refine va_get (D := (dC, dI)) (ci := 8) (v := .int 1) (C := RX11) (T := TX11) (N := 71) hx hb hw iwX11 hown hK hP 8 rfl rfl 23 (by decide) (hw _ w_f_X11_130) (fun _ h9 => h9) rfl dX11_readsParts_135 ?_
                    refine lv_iconst (v := 1) hx hb dX11_readsParts_138 (by decide) ?_
                    refine lv_isub hx hb dX11_readsParts_139 ?_
                    refine lv_topi (fun z303 ez303 => ?_)
                    obtain rfl : z303 = 0 := ez303.trans (by decide)
                    refine va_put (D := (dC, dI)) (ci := 8) (v := .int 0) (ty := tyX11 23) (C := RX11) (T := TX11) (N := 71) hx hb hw iwX11 tyX11 tyX11_ok nmX11 hown hK hP hD hS 8 rfl rfl 23 (by decide) (hw _ w_f_X11_130) (fun _ h9 => h9) rfl (tyX11_ok 23 (by decide)) rfl rfl (Nat.le_of_ble_eq_true rfl) dX11_readsParts_140 (fun H locs hP9 hD9 hS9 => ?_)
                    clear hP hD hS
                    have hP : va_P (dC, dI) cls [(h_nv, .inl (cy_nv, 8000, .inl f161)), (h_nn, .inl (cy_nn, 8000, .inr (.inl f162))), (h_na, .inl (cy_na, 8000, .inl f163)), (h_nb, .inl (cy_nb, 8000, .inl f164)), (h_nc, .inl (cy_nc, 8000, .inl f195)), (h_vrs, .inl (cy_vrs, 32, .inl f166)), (h_let, .inl (cy_let, 256, .inl f167)), (h_tap, .inl (cy_tap, 600, .inl f_tap)), (h_mm, .inr (8, (mo126 v_mm (.ref h_nv) (.ref h_nn) (.ref h_na) (.ref h_nb) (.ref h_nc) (.int z152) (.ref h_vrs) (.ref h_let) (.ref h_tap) (.int x_mm_taped) (.int z228) (.int z229) (.int z230) (.int z231) (.long z232) (.int z297) (.int z298) (.int z299) (.int 0) (.int x_mm_reading))))] H := hP9
                    have hD : va_D A [(h_nv, .inl (cy_nv, 8000, .inl f161)), (h_nn, .inl (cy_nn, 8000, .inr (.inl f162))), (h_na, .inl (cy_na, 8000, .inl f163)), (h_nb, .inl (cy_nb, 8000, .inl f164)), (h_nc, .inl (cy_nc, 8000, .inl f195)), (h_vrs, .inl (cy_vrs, 32, .inl f166)), (h_let, .inl (cy_let, 256, .inl f167)), (h_tap, .inl (cy_tap, 600, .inl f_tap)), (h_mm, .inr (8, (mo126 v_mm (.ref h_nv) (.ref h_nn) (.ref h_na) (.ref h_nb) (.ref h_nc) (.int z152) (.ref h_vrs) (.ref h_let) (.ref h_tap) (.int x_mm_taped) (.int z228) (.int z229) (.int z230) (.int z231) (.long z232) (.int z297) (.int z298) (.int z299) (.int 0) (.int x_mm_reading))))] := hD9
                    have hS := hS9
                    clear hP9 hD9 hS9
                    replace hP : va_P (dC, dI) cls [(h_mm, .inr (8, (mo126 v_mm (.ref h_nv) (.ref h_nn) (.ref h_na) (.ref h_nb) (.ref h_nc) (.int z152) (.ref h_vrs) (.ref h_let) (.ref h_tap) (.int x_mm_taped) (.int z228) (.int z229) (.int z230) (.int z231) (.long z232) (.int z297) (.int z298) (.int z299) (.int 0) (.int x_mm_reading)))), (h_tap, .inl (cy_tap, 600, .inl f_tap)), (h_nv, .inl (cy_nv, 8000, .inl f161)), (h_nn, .inl (cy_nn, 8000, .inr (.inl f162))), (h_na, .inl (cy_na, 8000, .inl f163)), (h_nb, .inl (cy_nb, 8000, .inl f164)), (h_nc, .inl (cy_nc, 8000, .inl f195)), (h_vrs, .inl (cy_vrs, 32, .inl f166)), (h_let, .inl (cy_let, 256, .inl f167))] H := hP.sub [8, 7, 0, 1, 2, 3, 4, 5, 6] rfl
                    replace hD : va_D A [(h_mm, .inr (8, (mo126 v_mm (.ref h_nv) (.ref h_nn) (.ref h_na) (.ref h_nb) (.ref h_nc) (.int z152) (.ref h_vrs) (.ref h_let) (.ref h_tap) (.int x_mm_taped) (.int z228) (.int z229) (.int z230) (.int z231) (.long z232) (.int z297) (.int z298) (.int z299) (.int 0) (.int x_mm_reading)))), (h_tap, .inl (cy_tap, 600, .inl f_tap)), (h_nv, .inl (cy_nv, 8000, .inl f161)), (h_nn, .inl (cy_nn, 8000, .inr (.inl f162))), (h_na, .inl (cy_na, 8000, .inl f163)), (h_nb, .inl (cy_nb, 8000, .inl f164)), (h_nc, .inl (cy_nc, 8000, .inl f195)), (h_vrs, .inl (cy_vrs, 32, .inl f166)), (h_let, .inl (cy_let, 256, .inl f167))] := hD.sub [8, 7, 0, 1, 2, 3, 4, 5, 6] (by decide) rfl
                    refine W.widen (k := 0) (n := 0) (Nat.le_of_ble_eq_true rfl) (Nat.le_of_ble_eq_true rfl) ?_
                    have w304 : 0 ≤ ((z152)).toInt ∧ ((z152)).toInt ≤ 1200 := by first | exact k169 | omega
                    have w305 : 0 ≤ ((z228)).toInt ∧ ((z228)).toInt ≤ 600 := by first | exact k233 | omega
                    have w306 : 0 ≤ ((z229)).toInt ∧ ((z229)).toInt ≤ 600 := by first | exact k234 | omega
                    have w307 : 0 ≤ ((z230)).toInt ∧ ((z230)).toInt ≤ 4 := by first | exact k235 | omega
                    have w308 : 0 ≤ ((z297)).toInt ∧ ((z297)).toInt ≤ 1 := by first | exact k300 | omega
                    have w309 : ((z229)).toInt ≤ ((z228)).toInt := by first | exact k236 | omega
                    have w310 : ((z297)).toInt = 1 ∨ ((z152)).toInt ≤ lo + ((z229)).toInt := by omega
                    have w311 : (x_mm_nodes).toInt ≤ ((z152)).toInt := by omega
                    have w312 : (x_mm_place).toInt ≤ ((z229)).toInt := by omega
                    have w313 : (x_mm_isFaulty).toInt ≤ ((z297)).toInt := by omega
                    have w314 : (((z297)).toInt = 0 ∧ ((pPs G (x_mm_taped).toInt 6 (x_mm_place).toInt nv vf)).1 = 0 ∧ ((z298)).toInt = (x_mm_fault).toInt ∧ ((z299)).toInt = (x_mm_faultPlace).toInt) ∨ (((z297)).toInt = 1 ∧ ¬ ((pPs G (x_mm_taped).toInt 6 (x_mm_place).toInt nv vf)).1 = 0 ∧ ((z298)).toInt = ((pPs G (x_mm_taped).toInt 6 (x_mm_place).toInt nv vf)).1 ∧ ((z299)).toInt = ((pPs G (x_mm_taped).toInt 6 (x_mm_place).toInt nv vf)).2.1) := by omega
                    have w315 : ((z229)).toInt = ((pPs G (x_mm_taped).toInt 6 (x_mm_place).toInt nv vf)).2.1 := by omega
                    have w316 : 0 ≤ ((pPs G (x_mm_taped).toInt 6 (x_mm_place).toInt nv vf)).2.2.1 ∧ ((pPs G (x_mm_taped).toInt 6 (x_mm_place).toInt nv vf)).2.2.1 ≤ 8 := by omega
                    have w317 : ((z230)).toInt = kd (tkT G (x_mm_taped).toInt ((z229)).toInt) := by first | exact k237 | omega
                    have w318 : ((z230)).toInt = 0 ∨ (((z228)).toInt = tkX G (x_mm_taped).toInt ((z229)).toInt ∧ ((z231)).toInt = G ((z229)).toInt ∧ ((z229)).toInt < (x_mm_taped).toInt ∧ ((z229)).toInt + 1 ≤ ((z228)).toInt) := by first | exact k238 | omega
                    have w319 : ((z228)).toInt ≤ (x_mm_taped).toInt := by first | exact k239 | omega
                    have w320 : ((z229)).toInt ≤ (x_mm_taped).toInt := by first | exact k240 | omega
                    have w321 : EQ0 lo za zb zc zv (f163) (f164) (f195) (f161) := nd197
                    have w322 : ND lo ((z152)).toInt (gh168) (f163) (f164) (f195) := (nd_cast nd196 (by omega))
                    have w323 : ∀ y : Nat, (y : Int) < (x_mm_nodes).toInt → (gh168) y = hh y := (fun y hy => (k190 y (by omega)).trans ((k126 y (by omega)).trans ((k62 y (by omega)).trans (rfl))))
                    have w324 : ((f166) (Int32.toNatClampNeg x_mm_reading)).toInt = ((pPs G (x_mm_taped).toInt 6 (x_mm_place).toInt nv vf)).2.2.1 := (k191.trans pq2173.symm)
                    have w325 : VFM ((pPs G (x_mm_taped).toInt 6 (x_mm_place).toInt nv vf)).2.2.1 ((pPs G (x_mm_taped).toInt 6 (x_mm_place).toInt nv vf)).2.2.2 (f167) (x_mm_reading).toInt := (by rw [pq2173, pq2174]; exact k192)
                    exact W.vret hx hb hr (fun t ht hW => ⟨⟨(z152, z228, z229, z230, z231, z232, z297, z298, z299, f161, f162, f163, f164, f195, f166, f167, gh168), rfl, ⟨w304, w305, w306, w307, w308, hf161, hf163, hf164, hf195, hf166, w309, w310, w311, w312, w313, w314, w315, w316, w317, w318, w319, w320, w321, w322, w323, w324, w325⟩, by rw [ht]; exact hP, hD⟩, hS.F ht⟩) hS.2.2 dX11_readsParts_143
                · replace hq : (((z158)).toInt = 1) := hq
                  exact False.elim (by omega)
                · replace hq : (((z158)).toInt = 0) ∧ (¬ tkT (G) ((x_mm_taped)).toInt ((z201)).toInt = 256 ∧ ¬ tkT (G) ((x_mm_taped)).toInt ((z201)).toInt = 257) := hq
                  refine lv_if_eq (tgt := 115) hx hb dX11_readsParts_108 (by decide) (fun _ => ?_) (fun c9 => absurd c9 (by decide))
                  have tt9 : tkT G (x_mm_taped).toInt (tkN G (x_mm_taped).toInt (z154).toInt) = tkT G (x_mm_taped).toInt (z201).toInt := by rw [← tn214]
                  have pv9 : (pPs G (x_mm_taped).toInt 6 (x_mm_place).toInt nv vf) = (1, tkN G (x_mm_taped).toInt (z154).toInt, (rh193).2.2.1, (rh193).2.2.2) := lo213.symm.trans (pLo_bad (by omega) (by omega))
                  have pq3261 : ((pPs G (x_mm_taped).toInt 6 (x_mm_place).toInt nv vf)).1 = 1 := by rw [pv9]
                  have pq3262 : ((pPs G (x_mm_taped).toInt 6 (x_mm_place).toInt nv vf)).2.1 = tkN G (x_mm_taped).toInt (z154).toInt := by rw [pv9]
                  have pq3263 : ((pPs G (x_mm_taped).toInt 6 (x_mm_place).toInt nv vf)).2.2.1 = (rh193).2.2.1 := by rw [pv9]
                  have pq3264 : ((pPs G (x_mm_taped).toInt 6 (x_mm_place).toInt nv vf)).2.2.2 = (rh193).2.2.2 := by rw [pv9]
                  refine lv_iconst (v := 1) hx hb dX11_readsParts_115 (by decide) ?_
                  obtain ⟨vq327, evq327⟩ := mq126_90 v_mm (.ref h_nv) (.ref h_nn) (.ref h_na) (.ref h_nb) (.ref h_nc) (.int z152) (.ref h_vrs) (.ref h_let) (.ref h_tap) (.int x_mm_taped) (.int z200) (.int z202) (.int z203) (.long z204) (.int 1) (.int x_mm_reading)
                  replace hP : va_P (dC, dI) cls [(h_nv, .inl (cy_nv, 8000, .inl f161)), (h_nn, .inl (cy_nn, 8000, .inr (.inl f162))), (h_na, .inl (cy_na, 8000, .inl f163)), (h_nb, .inl (cy_nb, 8000, .inl f164)), (h_nc, .inl (cy_nc, 8000, .inl f195)), (h_vrs, .inl (cy_vrs, 32, .inl f166)), (h_let, .inl (cy_let, 256, .inl f167)), (h_tap, .inl (cy_tap, 600, .inl f_tap)), (h_mm, .inr (8, (mo90 vq327 (.int z201) (.int z158) (.int z159) (.int z160))))] H := by rw [evq327]; exact hP
                  replace hD : va_D A [(h_nv, .inl (cy_nv, 8000, .inl f161)), (h_nn, .inl (cy_nn, 8000, .inr (.inl f162))), (h_na, .inl (cy_na, 8000, .inl f163)), (h_nb, .inl (cy_nb, 8000, .inl f164)), (h_nc, .inl (cy_nc, 8000, .inl f195)), (h_vrs, .inl (cy_vrs, 32, .inl f166)), (h_let, .inl (cy_let, 256, .inl f167)), (h_tap, .inl (cy_tap, 600, .inl f_tap)), (h_mm, .inr (8, (mo90 vq327 (.int z201) (.int z158) (.int z159) (.int z160))))] := by rw [evq327]; exact hD
                  have cst1 : (1 : Int32).toInt = 1 := by decide
                  have hPc := hP.sub (ws' := [(h_mm, .inr (8, (mo90 vq327 (.int z201) (.int z158) (.int z159) (.int z160))))]) [8] rfl
                  have hDc := hD.sub (ws' := [(h_mm, .inr (8, (mo90 vq327 (.int z201) (.int z158) (.int z159) (.int z160))))]) [8] (by decide) rfl
                  have hKc := hK.sub (tys' := []) [] rfl
                  have hFc := va_free (wc := [(h_mm, .inr (8, (mo90 vq327 (.int z201) (.int z158) (.int z159) (.int z160))))]) hD hS hA [8] rfl
                  refine va_callv (va_runV (As := [.int 1]) (rest := []) ⟨hx, hb, hml, hown, hts⟩ (c_X11_faulty l dC dI H.size h_mm vq327 z201 z158 z159 z160 1 (by first | exact k206 | omega) (by first | exact k173 | omega)) (cwV 1 hts (gv hT w_m_X11_111 w_instanceMethod_X11_faulty ws_sel_X11_faulty w_ini_X11 w_code_X11_faulty) rfl rfl rfl (by decide +kernel) ⟨(Nat.le_of_ble_eq_true rfl), (Nat.le_of_ble_eq_true rfl)⟩) ⟨pre_blind, va_recv hK hP (ci := 8) (q0 := 8) rfl rfl, pre_of hPc hKc hDc hN⟩ rfl rfl hl.1 rfl (lv_room (Nat.le_of_ble_eq_true rfl)) dX11_readsParts_116 ⟨(Nat.le_of_ble_eq_true rfl), (Nat.le_of_ble_eq_true rfl)⟩) hS (fun q _ h => hFc q h) hFc (fun u t H locs ht hvm hq hB hz1 hk1 hS9 => ?_)
                  obtain ⟨z329, z330, z331⟩ := u
                  obtain ⟨hP1, hD1⟩ := hB
                  rw [ht] at hP1
                  obtain ⟨hP9, hD9⟩ := va_join (wr := [(h_nv, .inl (cy_nv, 8000, .inl f161)), (h_nn, .inl (cy_nn, 8000, .inr (.inl f162))), (h_na, .inl (cy_na, 8000, .inl f163)), (h_nb, .inl (cy_nb, 8000, .inl f164)), (h_nc, .inl (cy_nc, 8000, .inl f195)), (h_vrs, .inl (cy_vrs, 32, .inl f166)), (h_let, .inl (cy_let, 256, .inl f167)), (h_tap, .inl (cy_tap, 600, .inl f_tap))]) (w1 := [(h_mm, .inr (8, (mo90 vq327 (.int z201) (.int z329) (.int z330) (.int z331))))]) hP hD [8] [0, 1, 2, 3, 4, 5, 6, 7] rfl rfl (by decide) (by decide) hk1 hFc hP1 hD1
                  clear hP hD hS hPc hDc hKc hFc hP1 hD1 hk1 hz1 ht hvm
                  have hP : va_P (dC, dI) cls [(h_nv, .inl (cy_nv, 8000, .inl f161)), (h_nn, .inl (cy_nn, 8000, .inr (.inl f162))), (h_na, .inl (cy_na, 8000, .inl f163)), (h_nb, .inl (cy_nb, 8000, .inl f164)), (h_nc, .inl (cy_nc, 8000, .inl f195)), (h_vrs, .inl (cy_vrs, 32, .inl f166)), (h_let, .inl (cy_let, 256, .inl f167)), (h_tap, .inl (cy_tap, 600, .inl f_tap)), (h_mm, .inr (8, (mo90 vq327 (.int z201) (.int z329) (.int z330) (.int z331))))] H := hP9
                  have hD : va_D A [(h_nv, .inl (cy_nv, 8000, .inl f161)), (h_nn, .inl (cy_nn, 8000, .inr (.inl f162))), (h_na, .inl (cy_na, 8000, .inl f163)), (h_nb, .inl (cy_nb, 8000, .inl f164)), (h_nc, .inl (cy_nc, 8000, .inl f195)), (h_vrs, .inl (cy_vrs, 32, .inl f166)), (h_let, .inl (cy_let, 256, .inl f167)), (h_tap, .inl (cy_tap, 600, .inl f_tap)), (h_mm, .inr (8, (mo90 vq327 (.int z201) (.int z329) (.int z330) (.int z331))))] := hD9
                  have hS := hS9
                  clear hP9 hD9 hS9
                  rw [evq327] at hP hD
                  replace hP : va_P (dC, dI) cls [(h_nv, .inl (cy_nv, 8000, .inl f161)), (h_nn, .inl (cy_nn, 8000, .inr (.inl f162))), (h_na, .inl (cy_na, 8000, .inl f163)), (h_nb, .inl (cy_nb, 8000, .inl f164)), (h_nc, .inl (cy_nc, 8000, .inl f195)), (h_vrs, .inl (cy_vrs, 32, .inl f166)), (h_let, .inl (cy_let, 256, .inl f167)), (h_tap, .inl (cy_tap, 600, .inl f_tap)), (h_mm, .inr (8, (mo126 v_mm (.ref h_nv) (.ref h_nn) (.ref h_na) (.ref h_nb) (.ref h_nc) (.int z152) (.ref h_vrs) (.ref h_let) (.ref h_tap) (.int x_mm_taped) (.int z200) (.int z201) (.int z202) (.int z203) (.long z204) (.int z329) (.int z330) (.int z331) (.int 1) (.int x_mm_reading))))] H := hP
                  replace hD : va_D A [(h_nv, .inl (cy_nv, 8000, .inl f161)), (h_nn, .inl (cy_nn, 8000, .inr (.inl f162))), (h_na, .inl (cy_na, 8000, .inl f163)), (h_nb, .inl (cy_nb, 8000, .inl f164)), (h_nc, .inl (cy_nc, 8000, .inl f195)), (h_vrs, .inl (cy_vrs, 32, .inl f166)), (h_let, .inl (cy_let, 256, .inl f167)), (h_tap, .inl (cy_tap, 600, .inl f_tap)), (h_mm, .inr (8, (mo126 v_mm (.ref h_nv) (.ref h_nn) (.ref h_na) (.ref h_nb) (.ref h_nc) (.int z152) (.ref h_vrs) (.ref h_let) (.ref h_tap) (.int x_mm_taped) (.int z200) (.int z201) (.int z202) (.int z203) (.long z204) (.int z329) (.int z330) (.int z331) (.int 1) (.int x_mm_reading))))] := hD
                  clear evq327 
                  obtain ⟨k332, k333, k334⟩ := hq
                  replace k332 : 0 ≤ ((z329)).toInt ∧ ((z329)).toInt ≤ 1 := k332
                  replace k333 : ((z329)).toInt = 1 := k333
                  replace k334 : (((z158)).toInt = 1 ∧ ((z330)).toInt = ((z159)).toInt ∧ ((z331)).toInt = ((z160)).toInt) ∨ (((z158)).toInt = 0 ∧ ((z330)).toInt = ((1 : Int32)).toInt ∧ ((z331)).toInt = ((z201)).toInt) := k334
                  refine lv_aload_n hx hb dX11_readsParts_119 rfl (lv_at hl 0 rfl) ?_
                  refine lv_bipush (v := 41) hx hb dX11_readsParts_120 (by decide) ?_
                  obtain ⟨vq335, evq335⟩ := mq126_92 v_mm (.ref h_nv) (.ref h_nn) (.ref h_na) (.ref h_nb) (.ref h_nc) (.int z152) (.ref h_vrs) (.ref h_let) (.int z330) (.int z331) (.int 1) (.int x_mm_reading)
                  replace hP : va_P (dC, dI) cls [(h_nv, .inl (cy_nv, 8000, .inl f161)), (h_nn, .inl (cy_nn, 8000, .inr (.inl f162))), (h_na, .inl (cy_na, 8000, .inl f163)), (h_nb, .inl (cy_nb, 8000, .inl f164)), (h_nc, .inl (cy_nc, 8000, .inl f195)), (h_vrs, .inl (cy_vrs, 32, .inl f166)), (h_let, .inl (cy_let, 256, .inl f167)), (h_tap, .inl (cy_tap, 600, .inl f_tap)), (h_mm, .inr (8, (mo92 vq335 (.ref h_tap) (.int x_mm_taped) (.int z200) (.int z201) (.int z202) (.int z203) (.long z204) (.int z329))))] H := by rw [evq335]; exact hP
                  replace hD : va_D A [(h_nv, .inl (cy_nv, 8000, .inl f161)), (h_nn, .inl (cy_nn, 8000, .inr (.inl f162))), (h_na, .inl (cy_na, 8000, .inl f163)), (h_nb, .inl (cy_nb, 8000, .inl f164)), (h_nc, .inl (cy_nc, 8000, .inl f195)), (h_vrs, .inl (cy_vrs, 32, .inl f166)), (h_let, .inl (cy_let, 256, .inl f167)), (h_tap, .inl (cy_tap, 600, .inl f_tap)), (h_mm, .inr (8, (mo92 vq335 (.ref h_tap) (.int x_mm_taped) (.int z200) (.int z201) (.int z202) (.int z203) (.long z204) (.int z329))))] := by rw [evq335]; exact hD
                  have cst41 : (41 : Int32).toInt = 41 := by decide
                  have hPc := hP.sub (ws' := [(h_mm, .inr (8, (mo92 vq335 (.ref h_tap) (.int x_mm_taped) (.int z200) (.int z201) (.int z202) (.int z203) (.long z204) (.int z329)))), (h_tap, .inl (cy_tap, 600, .inl f_tap))]) [8, 7] rfl
                  have hDc := hD.sub (ws' := [(h_mm, .inr (8, (mo92 vq335 (.ref h_tap) (.int x_mm_taped) (.int z200) (.int z201) (.int z202) (.int z203) (.long z204) (.int z329)))), (h_tap, .inl (cy_tap, 600, .inl f_tap))]) [8, 7] (by decide) rfl
                  have hKc := hK.sub (tys' := [(cy_tap, .byte)]) [0] rfl
                  have hFc := va_free (wc := [(h_mm, .inr (8, (mo92 vq335 (.ref h_tap) (.int x_mm_taped) (.int z200) (.int z201) (.int z202) (.int z203) (.long z204) (.int z329)))), (h_tap, .inl (cy_tap, 600, .inl f_tap))]) hD hS hA [8, 7] rfl
                  refine va_calli (va_runV (As := [.int 41]) (rest := []) ⟨hx, hb, hml, hown, hts⟩ (c_X11_passes l dC dI H.size h_mm h_tap vq335 x_mm_taped z200 z201 z202 z203 z204 z329 cy_tap f_tap 41 G (by first | exact hx_mm_taped | omega) (by first | exact k205 | omega) (by first | exact k206 | omega) (by first | exact k207 | omega) (by first | exact k332 | omega) (by first | exact k208 | omega) (by omega) (by omega) (by first | exact k209 | omega) (by first | exact k210 | omega) (by first | exact k211 | omega) (by first | exact k212 | omega) hn_tapq) (cwV 1 hts (gv hT w_m_X11_136 w_instanceMethod_X11_passes ws_sel_X11_passes w_ini_X11 w_code_X11_passes) rfl rfl rfl (by decide +kernel) ⟨(Nat.le_of_ble_eq_true rfl), (Nat.le_of_ble_eq_true rfl)⟩) ⟨pre_blind, va_recv hK hP (ci := 8) (q0 := 8) rfl rfl, pre_of hPc hKc hDc hN⟩ rfl rfl hl.1 rfl (lv_room (Nat.le_of_ble_eq_true rfl)) dX11_readsParts_122 ⟨(Nat.le_of_ble_eq_true rfl), (Nat.le_of_ble_eq_true rfl)⟩) hS (fun q _ h => hFc q h) hFc (fun r336 u t H locs ht hvm hq hB hz1 hk1 hS9 => ?_)
                  obtain ⟨z337, z338, z339, z340, z341⟩ := u
                  obtain ⟨hP1, hD1⟩ := hB
                  rw [ht] at hP1
                  obtain ⟨hP9, hD9⟩ := va_join (wr := [(h_nv, .inl (cy_nv, 8000, .inl f161)), (h_nn, .inl (cy_nn, 8000, .inr (.inl f162))), (h_na, .inl (cy_na, 8000, .inl f163)), (h_nb, .inl (cy_nb, 8000, .inl f164)), (h_nc, .inl (cy_nc, 8000, .inl f195)), (h_vrs, .inl (cy_vrs, 32, .inl f166)), (h_let, .inl (cy_let, 256, .inl f167))]) (w1 := [(h_mm, .inr (8, (mo92 vq335 (.ref h_tap) (.int x_mm_taped) (.int z337) (.int z338) (.int z339) (.int z340) (.long z341) (.int z329)))), (h_tap, .inl (cy_tap, 600, .inl f_tap))]) hP hD [8, 7] [0, 1, 2, 3, 4, 5, 6] rfl rfl (by decide) (by decide) hk1 hFc hP1 hD1
                  clear hP hD hS hPc hDc hKc hFc hP1 hD1 hk1 hz1 ht hvm
                  have hP : va_P (dC, dI) cls [(h_nv, .inl (cy_nv, 8000, .inl f161)), (h_nn, .inl (cy_nn, 8000, .inr (.inl f162))), (h_na, .inl (cy_na, 8000, .inl f163)), (h_nb, .inl (cy_nb, 8000, .inl f164)), (h_nc, .inl (cy_nc, 8000, .inl f195)), (h_vrs, .inl (cy_vrs, 32, .inl f166)), (h_let, .inl (cy_let, 256, .inl f167)), (h_mm, .inr (8, (mo92 vq335 (.ref h_tap) (.int x_mm_taped) (.int z337) (.int z338) (.int z339) (.int z340) (.long z341) (.int z329)))), (h_tap, .inl (cy_tap, 600, .inl f_tap))] H := hP9
                  have hD : va_D A [(h_nv, .inl (cy_nv, 8000, .inl f161)), (h_nn, .inl (cy_nn, 8000, .inr (.inl f162))), (h_na, .inl (cy_na, 8000, .inl f163)), (h_nb, .inl (cy_nb, 8000, .inl f164)), (h_nc, .inl (cy_nc, 8000, .inl f195)), (h_vrs, .inl (cy_vrs, 32, .inl f166)), (h_let, .inl (cy_let, 256, .inl f167)), (h_mm, .inr (8, (mo92 vq335 (.ref h_tap) (.int x_mm_taped) (.int z337) (.int z338) (.int z339) (.int z340) (.long z341) (.int z329)))), (h_tap, .inl (cy_tap, 600, .inl f_tap))] := hD9
                  have hS := hS9
                  clear hP9 hD9 hS9
                  rw [evq335] at hP hD
                  replace hP : va_P (dC, dI) cls [(h_nv, .inl (cy_nv, 8000, .inl f161)), (h_nn, .inl (cy_nn, 8000, .inr (.inl f162))), (h_na, .inl (cy_na, 8000, .inl f163)), (h_nb, .inl (cy_nb, 8000, .inl f164)), (h_nc, .inl (cy_nc, 8000, .inl f195)), (h_vrs, .inl (cy_vrs, 32, .inl f166)), (h_let, .inl (cy_let, 256, .inl f167)), (h_mm, .inr (8, (mo126 v_mm (.ref h_nv) (.ref h_nn) (.ref h_na) (.ref h_nb) (.ref h_nc) (.int z152) (.ref h_vrs) (.ref h_let) (.ref h_tap) (.int x_mm_taped) (.int z337) (.int z338) (.int z339) (.int z340) (.long z341) (.int z329) (.int z330) (.int z331) (.int 1) (.int x_mm_reading)))), (h_tap, .inl (cy_tap, 600, .inl f_tap))] H := hP
                  replace hD : va_D A [(h_nv, .inl (cy_nv, 8000, .inl f161)), (h_nn, .inl (cy_nn, 8000, .inr (.inl f162))), (h_na, .inl (cy_na, 8000, .inl f163)), (h_nb, .inl (cy_nb, 8000, .inl f164)), (h_nc, .inl (cy_nc, 8000, .inl f195)), (h_vrs, .inl (cy_vrs, 32, .inl f166)), (h_let, .inl (cy_let, 256, .inl f167)), (h_mm, .inr (8, (mo126 v_mm (.ref h_nv) (.ref h_nn) (.ref h_na) (.ref h_nb) (.ref h_nc) (.int z152) (.ref h_vrs) (.ref h_let) (.ref h_tap) (.int x_mm_taped) (.int z337) (.int z338) (.int z339) (.int z340) (.long z341) (.int z329) (.int z330) (.int z331) (.int 1) (.int x_mm_reading)))), (h_tap, .inl (cy_tap, 600, .inl f_tap))] := hD
                  clear evq335 
                  obtain ⟨k342, k343, k344, k345, k346, k347, k348, k349, hq⟩ := hq
                  replace k342 : 0 ≤ ((z337)).toInt ∧ ((z337)).toInt ≤ 600 := k342
                  replace k343 : 0 ≤ ((z338)).toInt ∧ ((z338)).toInt ≤ 600 := k343
                  replace k344 : 0 ≤ ((z339)).toInt ∧ ((z339)).toInt ≤ 4 := k344
                  replace k345 : ((z338)).toInt ≤ ((z337)).toInt := k345
                  replace k346 : ((z339)).toInt = kd (tkT (G) ((x_mm_taped)).toInt ((z338)).toInt) := k346
                  replace k347 : ((z339)).toInt = 0 ∨ (((z337)).toInt = tkX (G) ((x_mm_taped)).toInt ((z338)).toInt ∧ ((z340)).toInt = (G) ((z338)).toInt ∧ ((z338)).toInt < ((x_mm_taped)).toInt ∧ ((z338)).toInt + 1 ≤ ((z337)).toInt) := k347
                  replace k348 : ((z337)).toInt ≤ ((x_mm_taped)).toInt := k348
                  replace k349 : ((z338)).toInt ≤ ((x_mm_taped)).toInt := k349
                  rcases hq with ⟨rfl, hq⟩ | ⟨rfl, hq⟩ | ⟨rfl, hq⟩
                  · replace hq : (((z329)).toInt = 0) ∧ (tkT (G) ((x_mm_taped)).toInt ((z201)).toInt = ((41 : Int32)).toInt) ∧ (((z338)).toInt = tkN (G) ((x_mm_taped)).toInt ((z201)).toInt) ∧ (((z200)).toInt ≤ ((z338)).toInt) ∧ (((z201)).toInt + 1 ≤ ((z338)).toInt) := hq
                    refine lv_if_ne (tgt := 133) hx hb dX11_readsParts_125 (by decide) (fun _ => ?_) (fun c9 => absurd c9 (by decide))
                    refine lv_aload_n hx hb dX11_readsParts_133 rfl (lv_at hl 0 rfl) ?_
                    refine lv_aload_n hx hb dX11_readsParts_134 rfl (lv_at hl 0 rfl) ?_
                    refine va_get (D := (dC, dI)) (ci := 8) (v := .int 1) (C := RX11) (T := TX11) (N := 71) hx hb hw iwX11 hown hK hP 7 rfl rfl 23 (by decide) (hw _ w_f_X11_130) (fun _ h9 => h9) rfl dX11_readsParts_135 ?_
                    refine lv_iconst (v := 1) hx hb dX11_readsParts_138 (by decide) ?_
                    refine lv_isub hx hb dX11_readsParts_139 ?_
                    refine lv_topi (fun z350 ez350 => ?_)
                    obtain rfl : z350 = 0 := ez350.trans (by decide)
                    refine va_put (D := (dC, dI)) (ci := 8) (v := .int 0) (ty := tyX11 23) (C := RX11) (T := TX11) (N := 71) hx hb hw iwX11 tyX11 tyX11_ok nmX11 hown hK hP hD hS 7 rfl rfl 23 (by decide) (hw _ w_f_X11_130) (fun _ h9 => h9) rfl (tyX11_ok 23 (by decide)) rfl rfl (Nat.le_of_ble_eq_true rfl) dX11_readsParts_140 (fun H locs hP9 hD9 hS9 => ?_)
                    clear hP hD hS
                    have hP : va_P (dC, dI) cls [(h_nv, .inl (cy_nv, 8000, .inl f161)), (h_nn, .inl (cy_nn, 8000, .inr (.inl f162))), (h_na, .inl (cy_na, 8000, .inl f163)), (h_nb, .inl (cy_nb, 8000, .inl f164)), (h_nc, .inl (cy_nc, 8000, .inl f195)), (h_vrs, .inl (cy_vrs, 32, .inl f166)), (h_let, .inl (cy_let, 256, .inl f167)), (h_mm, .inr (8, (mo126 v_mm (.ref h_nv) (.ref h_nn) (.ref h_na) (.ref h_nb) (.ref h_nc) (.int z152) (.ref h_vrs) (.ref h_let) (.ref h_tap) (.int x_mm_taped) (.int z337) (.int z338) (.int z339) (.int z340) (.long z341) (.int z329) (.int z330) (.int z331) (.int 0) (.int x_mm_reading)))), (h_tap, .inl (cy_tap, 600, .inl f_tap))] H := hP9
                    have hD : va_D A [(h_nv, .inl (cy_nv, 8000, .inl f161)), (h_nn, .inl (cy_nn, 8000, .inr (.inl f162))), (h_na, .inl (cy_na, 8000, .inl f163)), (h_nb, .inl (cy_nb, 8000, .inl f164)), (h_nc, .inl (cy_nc, 8000, .inl f195)), (h_vrs, .inl (cy_vrs, 32, .inl f166)), (h_let, .inl (cy_let, 256, .inl f167)), (h_mm, .inr (8, (mo126 v_mm (.ref h_nv) (.ref h_nn) (.ref h_na) (.ref h_nb) (.ref h_nc) (.int z152) (.ref h_vrs) (.ref h_let) (.ref h_tap) (.int x_mm_taped) (.int z337) (.int z338) (.int z339) (.int z340) (.long z341) (.int z329) (.int z330) (.int z331) (.int 0) (.int x_mm_reading)))), (h_tap, .inl (cy_tap, 600, .inl f_tap))] := hD9
                    have hS := hS9
                    clear hP9 hD9 hS9
                    replace hP : va_P (dC, dI) cls [(h_mm, .inr (8, (mo126 v_mm (.ref h_nv) (.ref h_nn) (.ref h_na) (.ref h_nb) (.ref h_nc) (.int z152) (.ref h_vrs) (.ref h_let) (.ref h_tap) (.int x_mm_taped) (.int z337) (.int z338) (.int z339) (.int z340) (.long z341) (.int z329) (.int z330) (.int z331) (.int 0) (.int x_mm_reading)))), (h_tap, .inl (cy_tap, 600, .inl f_tap)), (h_nv, .inl (cy_nv, 8000, .inl f161)), (h_nn, .inl (cy_nn, 8000, .inr (.inl f162))), (h_na, .inl (cy_na, 8000, .inl f163)), (h_nb, .inl (cy_nb, 8000, .inl f164)), (h_nc, .inl (cy_nc, 8000, .inl f195)), (h_vrs, .inl (cy_vrs, 32, .inl f166)), (h_let, .inl (cy_let, 256, .inl f167))] H := hP.sub [7, 8, 0, 1, 2, 3, 4, 5, 6] rfl
                    replace hD : va_D A [(h_mm, .inr (8, (mo126 v_mm (.ref h_nv) (.ref h_nn) (.ref h_na) (.ref h_nb) (.ref h_nc) (.int z152) (.ref h_vrs) (.ref h_let) (.ref h_tap) (.int x_mm_taped) (.int z337) (.int z338) (.int z339) (.int z340) (.long z341) (.int z329) (.int z330) (.int z331) (.int 0) (.int x_mm_reading)))), (h_tap, .inl (cy_tap, 600, .inl f_tap)), (h_nv, .inl (cy_nv, 8000, .inl f161)), (h_nn, .inl (cy_nn, 8000, .inr (.inl f162))), (h_na, .inl (cy_na, 8000, .inl f163)), (h_nb, .inl (cy_nb, 8000, .inl f164)), (h_nc, .inl (cy_nc, 8000, .inl f195)), (h_vrs, .inl (cy_vrs, 32, .inl f166)), (h_let, .inl (cy_let, 256, .inl f167))] := hD.sub [7, 8, 0, 1, 2, 3, 4, 5, 6] (by decide) rfl
                    refine W.widen (k := 0) (n := 0) (Nat.le_of_ble_eq_true rfl) (Nat.le_of_ble_eq_true rfl) ?_
                    have w351 : 0 ≤ ((z152)).toInt ∧ ((z152)).toInt ≤ 1200 := by first | exact k169 | omega
                    have w352 : 0 ≤ ((z337)).toInt ∧ ((z337)).toInt ≤ 600 := by first | exact k342 | omega
                    have w353 : 0 ≤ ((z338)).toInt ∧ ((z338)).toInt ≤ 600 := by first | exact k343 | omega
                    have w354 : 0 ≤ ((z339)).toInt ∧ ((z339)).toInt ≤ 4 := by first | exact k344 | omega
                    have w355 : 0 ≤ ((z329)).toInt ∧ ((z329)).toInt ≤ 1 := by first | exact k332 | omega
                    have w356 : ((z338)).toInt ≤ ((z337)).toInt := by first | exact k345 | omega
                    have w357 : ((z329)).toInt = 1 ∨ ((z152)).toInt ≤ lo + ((z338)).toInt := by omega
                    have w358 : (x_mm_nodes).toInt ≤ ((z152)).toInt := by omega
                    have w359 : (x_mm_place).toInt ≤ ((z338)).toInt := by omega
                    have w360 : (x_mm_isFaulty).toInt ≤ ((z329)).toInt := by omega
                    have w361 : (((z329)).toInt = 0 ∧ ((pPs G (x_mm_taped).toInt 6 (x_mm_place).toInt nv vf)).1 = 0 ∧ ((z330)).toInt = (x_mm_fault).toInt ∧ ((z331)).toInt = (x_mm_faultPlace).toInt) ∨ (((z329)).toInt = 1 ∧ ¬ ((pPs G (x_mm_taped).toInt 6 (x_mm_place).toInt nv vf)).1 = 0 ∧ ((z330)).toInt = ((pPs G (x_mm_taped).toInt 6 (x_mm_place).toInt nv vf)).1 ∧ ((z331)).toInt = ((pPs G (x_mm_taped).toInt 6 (x_mm_place).toInt nv vf)).2.1) := by omega
                    have w362 : ((z338)).toInt = ((pPs G (x_mm_taped).toInt 6 (x_mm_place).toInt nv vf)).2.1 := by omega
                    have w363 : 0 ≤ ((pPs G (x_mm_taped).toInt 6 (x_mm_place).toInt nv vf)).2.2.1 ∧ ((pPs G (x_mm_taped).toInt 6 (x_mm_place).toInt nv vf)).2.2.1 ≤ 8 := by omega
                    have w364 : ((z339)).toInt = kd (tkT G (x_mm_taped).toInt ((z338)).toInt) := by first | exact k346 | omega
                    have w365 : ((z339)).toInt = 0 ∨ (((z337)).toInt = tkX G (x_mm_taped).toInt ((z338)).toInt ∧ ((z340)).toInt = G ((z338)).toInt ∧ ((z338)).toInt < (x_mm_taped).toInt ∧ ((z338)).toInt + 1 ≤ ((z337)).toInt) := by first | exact k347 | omega
                    have w366 : ((z337)).toInt ≤ (x_mm_taped).toInt := by first | exact k348 | omega
                    have w367 : ((z338)).toInt ≤ (x_mm_taped).toInt := by first | exact k349 | omega
                    have w368 : EQ0 lo za zb zc zv (f163) (f164) (f195) (f161) := nd197
                    have w369 : ND lo ((z152)).toInt (gh168) (f163) (f164) (f195) := (nd_cast nd196 (by omega))
                    have w370 : ∀ y : Nat, (y : Int) < (x_mm_nodes).toInt → (gh168) y = hh y := (fun y hy => (k190 y (by omega)).trans ((k126 y (by omega)).trans ((k62 y (by omega)).trans (rfl))))
                    have w371 : ((f166) (Int32.toNatClampNeg x_mm_reading)).toInt = ((pPs G (x_mm_taped).toInt 6 (x_mm_place).toInt nv vf)).2.2.1 := (k191.trans pq3263.symm)
                    have w372 : VFM ((pPs G (x_mm_taped).toInt 6 (x_mm_place).toInt nv vf)).2.2.1 ((pPs G (x_mm_taped).toInt 6 (x_mm_place).toInt nv vf)).2.2.2 (f167) (x_mm_reading).toInt := (by rw [pq3263, pq3264]; exact k192)
                    exact W.vret hx hb hr (fun t ht hW => ⟨⟨(z152, z337, z338, z339, z340, z341, z329, z330, z331, f161, f162, f163, f164, f195, f166, f167, gh168), rfl, ⟨w351, w352, w353, w354, w355, hf161, hf163, hf164, hf195, hf166, w356, w357, w358, w359, w360, w361, w362, w363, w364, w365, w366, w367, w368, w369, w370, w371, w372⟩, by rw [ht]; exact hP, hD⟩, hS.F ht⟩) hS.2.2 dX11_readsParts_143
                  · replace hq : (((z338)).toInt = ((z201)).toInt) ∧ (((z337)).toInt = ((z200)).toInt) ∧ (((z339)).toInt = ((z202)).toInt) ∧ (((z329)).toInt = 1) := hq
                    refine lv_if_ne (tgt := 133) hx hb dX11_readsParts_125 (by decide) (fun c9 => absurd c9 (by decide)) (fun _ => ?_)
                    refine lv_aload_n hx hb dX11_readsParts_128 rfl (lv_at hl 0 rfl) ?_
                    refine lv_iconst (v := 1) hx hb dX11_readsParts_129 (by decide) ?_
                    obtain ⟨vq373, evq373⟩ := mq126_90 v_mm (.ref h_nv) (.ref h_nn) (.ref h_na) (.ref h_nb) (.ref h_nc) (.int z152) (.ref h_vrs) (.ref h_let) (.ref h_tap) (.int x_mm_taped) (.int z337) (.int z339) (.int z340) (.long z341) (.int 1) (.int x_mm_reading)
                    replace hP : va_P (dC, dI) cls [(h_nv, .inl (cy_nv, 8000, .inl f161)), (h_nn, .inl (cy_nn, 8000, .inr (.inl f162))), (h_na, .inl (cy_na, 8000, .inl f163)), (h_nb, .inl (cy_nb, 8000, .inl f164)), (h_nc, .inl (cy_nc, 8000, .inl f195)), (h_vrs, .inl (cy_vrs, 32, .inl f166)), (h_let, .inl (cy_let, 256, .inl f167)), (h_mm, .inr (8, (mo90 vq373 (.int z338) (.int z329) (.int z330) (.int z331)))), (h_tap, .inl (cy_tap, 600, .inl f_tap))] H := by rw [evq373]; exact hP
                    replace hD : va_D A [(h_nv, .inl (cy_nv, 8000, .inl f161)), (h_nn, .inl (cy_nn, 8000, .inr (.inl f162))), (h_na, .inl (cy_na, 8000, .inl f163)), (h_nb, .inl (cy_nb, 8000, .inl f164)), (h_nc, .inl (cy_nc, 8000, .inl f195)), (h_vrs, .inl (cy_vrs, 32, .inl f166)), (h_let, .inl (cy_let, 256, .inl f167)), (h_mm, .inr (8, (mo90 vq373 (.int z338) (.int z329) (.int z330) (.int z331)))), (h_tap, .inl (cy_tap, 600, .inl f_tap))] := by rw [evq373]; exact hD
                    have cst1 : (1 : Int32).toInt = 1 := by decide
                    have hPc := hP.sub (ws' := [(h_mm, .inr (8, (mo90 vq373 (.int z338) (.int z329) (.int z330) (.int z331))))]) [7] rfl
                    have hDc := hD.sub (ws' := [(h_mm, .inr (8, (mo90 vq373 (.int z338) (.int z329) (.int z330) (.int z331))))]) [7] (by decide) rfl
                    have hKc := hK.sub (tys' := []) [] rfl
                    have hFc := va_free (wc := [(h_mm, .inr (8, (mo90 vq373 (.int z338) (.int z329) (.int z330) (.int z331))))]) hD hS hA [7] rfl
                    refine va_callv (va_runV (As := [.int 1]) (rest := []) ⟨hx, hb, hml, hown, hts⟩ (c_X11_faulty l dC dI H.size h_mm vq373 z338 z329 z330 z331 1 (by first | exact k343 | omega) (by first | exact k332 | omega)) (cwV 1 hts (gv hT w_m_X11_111 w_instanceMethod_X11_faulty ws_sel_X11_faulty w_ini_X11 w_code_X11_faulty) rfl rfl rfl (by decide +kernel) ⟨(Nat.le_of_ble_eq_true rfl), (Nat.le_of_ble_eq_true rfl)⟩) ⟨pre_blind, va_recv hK hP (ci := 8) (q0 := 7) rfl rfl, pre_of hPc hKc hDc hN⟩ rfl rfl hl.1 rfl (lv_room (Nat.le_of_ble_eq_true rfl)) dX11_readsParts_130 ⟨(Nat.le_of_ble_eq_true rfl), (Nat.le_of_ble_eq_true rfl)⟩) hS (fun q _ h => hFc q h) hFc (fun u t H locs ht hvm hq hB hz1 hk1 hS9 => ?_)
                    obtain ⟨z375, z376, z377⟩ := u
                    obtain ⟨hP1, hD1⟩ := hB
                    rw [ht] at hP1
                    obtain ⟨hP9, hD9⟩ := va_join (wr := [(h_nv, .inl (cy_nv, 8000, .inl f161)), (h_nn, .inl (cy_nn, 8000, .inr (.inl f162))), (h_na, .inl (cy_na, 8000, .inl f163)), (h_nb, .inl (cy_nb, 8000, .inl f164)), (h_nc, .inl (cy_nc, 8000, .inl f195)), (h_vrs, .inl (cy_vrs, 32, .inl f166)), (h_let, .inl (cy_let, 256, .inl f167)), (h_tap, .inl (cy_tap, 600, .inl f_tap))]) (w1 := [(h_mm, .inr (8, (mo90 vq373 (.int z338) (.int z375) (.int z376) (.int z377))))]) hP hD [7] [0, 1, 2, 3, 4, 5, 6, 8] rfl rfl (by decide) (by decide) hk1 hFc hP1 hD1
                    clear hP hD hS hPc hDc hKc hFc hP1 hD1 hk1 hz1 ht hvm
                    have hP : va_P (dC, dI) cls [(h_nv, .inl (cy_nv, 8000, .inl f161)), (h_nn, .inl (cy_nn, 8000, .inr (.inl f162))), (h_na, .inl (cy_na, 8000, .inl f163)), (h_nb, .inl (cy_nb, 8000, .inl f164)), (h_nc, .inl (cy_nc, 8000, .inl f195)), (h_vrs, .inl (cy_vrs, 32, .inl f166)), (h_let, .inl (cy_let, 256, .inl f167)), (h_tap, .inl (cy_tap, 600, .inl f_tap)), (h_mm, .inr (8, (mo90 vq373 (.int z338) (.int z375) (.int z376) (.int z377))))] H := hP9
                    have hD : va_D A [(h_nv, .inl (cy_nv, 8000, .inl f161)), (h_nn, .inl (cy_nn, 8000, .inr (.inl f162))), (h_na, .inl (cy_na, 8000, .inl f163)), (h_nb, .inl (cy_nb, 8000, .inl f164)), (h_nc, .inl (cy_nc, 8000, .inl f195)), (h_vrs, .inl (cy_vrs, 32, .inl f166)), (h_let, .inl (cy_let, 256, .inl f167)), (h_tap, .inl (cy_tap, 600, .inl f_tap)), (h_mm, .inr (8, (mo90 vq373 (.int z338) (.int z375) (.int z376) (.int z377))))] := hD9
                    have hS := hS9
                    clear hP9 hD9 hS9
                    rw [evq373] at hP hD
                    replace hP : va_P (dC, dI) cls [(h_nv, .inl (cy_nv, 8000, .inl f161)), (h_nn, .inl (cy_nn, 8000, .inr (.inl f162))), (h_na, .inl (cy_na, 8000, .inl f163)), (h_nb, .inl (cy_nb, 8000, .inl f164)), (h_nc, .inl (cy_nc, 8000, .inl f195)), (h_vrs, .inl (cy_vrs, 32, .inl f166)), (h_let, .inl (cy_let, 256, .inl f167)), (h_tap, .inl (cy_tap, 600, .inl f_tap)), (h_mm, .inr (8, (mo126 v_mm (.ref h_nv) (.ref h_nn) (.ref h_na) (.ref h_nb) (.ref h_nc) (.int z152) (.ref h_vrs) (.ref h_let) (.ref h_tap) (.int x_mm_taped) (.int z337) (.int z338) (.int z339) (.int z340) (.long z341) (.int z375) (.int z376) (.int z377) (.int 1) (.int x_mm_reading))))] H := hP
                    replace hD : va_D A [(h_nv, .inl (cy_nv, 8000, .inl f161)), (h_nn, .inl (cy_nn, 8000, .inr (.inl f162))), (h_na, .inl (cy_na, 8000, .inl f163)), (h_nb, .inl (cy_nb, 8000, .inl f164)), (h_nc, .inl (cy_nc, 8000, .inl f195)), (h_vrs, .inl (cy_vrs, 32, .inl f166)), (h_let, .inl (cy_let, 256, .inl f167)), (h_tap, .inl (cy_tap, 600, .inl f_tap)), (h_mm, .inr (8, (mo126 v_mm (.ref h_nv) (.ref h_nn) (.ref h_na) (.ref h_nb) (.ref h_nc) (.int z152) (.ref h_vrs) (.ref h_let) (.ref h_tap) (.int x_mm_taped) (.int z337) (.int z338) (.int z339) (.int z340) (.long z341) (.int z375) (.int z376) (.int z377) (.int 1) (.int x_mm_reading))))] := hD
                    clear evq373 
                    obtain ⟨k378, k379, k380⟩ := hq
                    replace k378 : 0 ≤ ((z375)).toInt ∧ ((z375)).toInt ≤ 1 := k378
                    replace k379 : ((z375)).toInt = 1 := k379
                    replace k380 : (((z329)).toInt = 1 ∧ ((z376)).toInt = ((z330)).toInt ∧ ((z377)).toInt = ((z331)).toInt) ∨ (((z329)).toInt = 0 ∧ ((z376)).toInt = ((1 : Int32)).toInt ∧ ((z377)).toInt = ((z338)).toInt) := k380
                    refine lv_aload_n hx hb dX11_readsParts_133 rfl (lv_at hl 0 rfl) ?_
                    refine lv_aload_n hx hb dX11_readsParts_134 rfl (lv_at hl 0 rfl) ?_
                    refine va_get (D := (dC, dI)) (ci := 8) (v := .int 1) (C := RX11) (T := TX11) (N := 71) hx hb hw iwX11 hown hK hP 8 rfl rfl 23 (by decide) (hw _ w_f_X11_130) (fun _ h9 => h9) rfl dX11_readsParts_135 ?_
                    refine lv_iconst (v := 1) hx hb dX11_readsParts_138 (by decide) ?_
                    refine lv_isub hx hb dX11_readsParts_139 ?_
                    refine lv_topi (fun z381 ez381 => ?_)
                    obtain rfl : z381 = 0 := ez381.trans (by decide)
                    refine va_put (D := (dC, dI)) (ci := 8) (v := .int 0) (ty := tyX11 23) (C := RX11) (T := TX11) (N := 71) hx hb hw iwX11 tyX11 tyX11_ok nmX11 hown hK hP hD hS 8 rfl rfl 23 (by decide) (hw _ w_f_X11_130) (fun _ h9 => h9) rfl (tyX11_ok 23 (by decide)) rfl rfl (Nat.le_of_ble_eq_true rfl) dX11_readsParts_140 (fun H locs hP9 hD9 hS9 => ?_)
                    clear hP hD hS
                    have hP : va_P (dC, dI) cls [(h_nv, .inl (cy_nv, 8000, .inl f161)), (h_nn, .inl (cy_nn, 8000, .inr (.inl f162))), (h_na, .inl (cy_na, 8000, .inl f163)), (h_nb, .inl (cy_nb, 8000, .inl f164)), (h_nc, .inl (cy_nc, 8000, .inl f195)), (h_vrs, .inl (cy_vrs, 32, .inl f166)), (h_let, .inl (cy_let, 256, .inl f167)), (h_tap, .inl (cy_tap, 600, .inl f_tap)), (h_mm, .inr (8, (mo126 v_mm (.ref h_nv) (.ref h_nn) (.ref h_na) (.ref h_nb) (.ref h_nc) (.int z152) (.ref h_vrs) (.ref h_let) (.ref h_tap) (.int x_mm_taped) (.int z337) (.int z338) (.int z339) (.int z340) (.long z341) (.int z375) (.int z376) (.int z377) (.int 0) (.int x_mm_reading))))] H := hP9
                    have hD : va_D A [(h_nv, .inl (cy_nv, 8000, .inl f161)), (h_nn, .inl (cy_nn, 8000, .inr (.inl f162))), (h_na, .inl (cy_na, 8000, .inl f163)), (h_nb, .inl (cy_nb, 8000, .inl f164)), (h_nc, .inl (cy_nc, 8000, .inl f195)), (h_vrs, .inl (cy_vrs, 32, .inl f166)), (h_let, .inl (cy_let, 256, .inl f167)), (h_tap, .inl (cy_tap, 600, .inl f_tap)), (h_mm, .inr (8, (mo126 v_mm (.ref h_nv) (.ref h_nn) (.ref h_na) (.ref h_nb) (.ref h_nc) (.int z152) (.ref h_vrs) (.ref h_let) (.ref h_tap) (.int x_mm_taped) (.int z337) (.int z338) (.int z339) (.int z340) (.long z341) (.int z375) (.int z376) (.int z377) (.int 0) (.int x_mm_reading))))] := hD9
                    have hS := hS9
                    clear hP9 hD9 hS9
                    replace hP : va_P (dC, dI) cls [(h_mm, .inr (8, (mo126 v_mm (.ref h_nv) (.ref h_nn) (.ref h_na) (.ref h_nb) (.ref h_nc) (.int z152) (.ref h_vrs) (.ref h_let) (.ref h_tap) (.int x_mm_taped) (.int z337) (.int z338) (.int z339) (.int z340) (.long z341) (.int z375) (.int z376) (.int z377) (.int 0) (.int x_mm_reading)))), (h_tap, .inl (cy_tap, 600, .inl f_tap)), (h_nv, .inl (cy_nv, 8000, .inl f161)), (h_nn, .inl (cy_nn, 8000, .inr (.inl f162))), (h_na, .inl (cy_na, 8000, .inl f163)), (h_nb, .inl (cy_nb, 8000, .inl f164)), (h_nc, .inl (cy_nc, 8000, .inl f195)), (h_vrs, .inl (cy_vrs, 32, .inl f166)), (h_let, .inl (cy_let, 256, .inl f167))] H := hP.sub [8, 7, 0, 1, 2, 3, 4, 5, 6] rfl
                    replace hD : va_D A [(h_mm, .inr (8, (mo126 v_mm (.ref h_nv) (.ref h_nn) (.ref h_na) (.ref h_nb) (.ref h_nc) (.int z152) (.ref h_vrs) (.ref h_let) (.ref h_tap) (.int x_mm_taped) (.int z337) (.int z338) (.int z339) (.int z340) (.long z341) (.int z375) (.int z376) (.int z377) (.int 0) (.int x_mm_reading)))), (h_tap, .inl (cy_tap, 600, .inl f_tap)), (h_nv, .inl (cy_nv, 8000, .inl f161)), (h_nn, .inl (cy_nn, 8000, .inr (.inl f162))), (h_na, .inl (cy_na, 8000, .inl f163)), (h_nb, .inl (cy_nb, 8000, .inl f164)), (h_nc, .inl (cy_nc, 8000, .inl f195)), (h_vrs, .inl (cy_vrs, 32, .inl f166)), (h_let, .inl (cy_let, 256, .inl f167))] := hD.sub [8, 7, 0, 1, 2, 3, 4, 5, 6] (by decide) rfl
                    refine W.widen (k := 0) (n := 0) (Nat.le_of_ble_eq_true rfl) (Nat.le_of_ble_eq_true rfl) ?_
                    have w382 : 0 ≤ ((z152)).toInt ∧ ((z152)).toInt ≤ 1200 := by first | exact k169 | omega
                    have w383 : 0 ≤ ((z337)).toInt ∧ ((z337)).toInt ≤ 600 := by first | exact k342 | omega
                    have w384 : 0 ≤ ((z338)).toInt ∧ ((z338)).toInt ≤ 600 := by first | exact k343 | omega
                    have w385 : 0 ≤ ((z339)).toInt ∧ ((z339)).toInt ≤ 4 := by first | exact k344 | omega
                    have w386 : 0 ≤ ((z375)).toInt ∧ ((z375)).toInt ≤ 1 := by first | exact k378 | omega
                    have w387 : ((z338)).toInt ≤ ((z337)).toInt := by first | exact k345 | omega
                    have w388 : ((z375)).toInt = 1 ∨ ((z152)).toInt ≤ lo + ((z338)).toInt := by omega
                    have w389 : (x_mm_nodes).toInt ≤ ((z152)).toInt := by omega
                    have w390 : (x_mm_place).toInt ≤ ((z338)).toInt := by omega
                    have w391 : (x_mm_isFaulty).toInt ≤ ((z375)).toInt := by omega
                    have w392 : (((z375)).toInt = 0 ∧ ((pPs G (x_mm_taped).toInt 6 (x_mm_place).toInt nv vf)).1 = 0 ∧ ((z376)).toInt = (x_mm_fault).toInt ∧ ((z377)).toInt = (x_mm_faultPlace).toInt) ∨ (((z375)).toInt = 1 ∧ ¬ ((pPs G (x_mm_taped).toInt 6 (x_mm_place).toInt nv vf)).1 = 0 ∧ ((z376)).toInt = ((pPs G (x_mm_taped).toInt 6 (x_mm_place).toInt nv vf)).1 ∧ ((z377)).toInt = ((pPs G (x_mm_taped).toInt 6 (x_mm_place).toInt nv vf)).2.1) := by omega
                    have w393 : ((z338)).toInt = ((pPs G (x_mm_taped).toInt 6 (x_mm_place).toInt nv vf)).2.1 := by omega
                    have w394 : 0 ≤ ((pPs G (x_mm_taped).toInt 6 (x_mm_place).toInt nv vf)).2.2.1 ∧ ((pPs G (x_mm_taped).toInt 6 (x_mm_place).toInt nv vf)).2.2.1 ≤ 8 := by omega
                    have w395 : ((z339)).toInt = kd (tkT G (x_mm_taped).toInt ((z338)).toInt) := by first | exact k346 | omega
                    have w396 : ((z339)).toInt = 0 ∨ (((z337)).toInt = tkX G (x_mm_taped).toInt ((z338)).toInt ∧ ((z340)).toInt = G ((z338)).toInt ∧ ((z338)).toInt < (x_mm_taped).toInt ∧ ((z338)).toInt + 1 ≤ ((z337)).toInt) := by first | exact k347 | omega
                    have w397 : ((z337)).toInt ≤ (x_mm_taped).toInt := by first | exact k348 | omega
                    have w398 : ((z338)).toInt ≤ (x_mm_taped).toInt := by first | exact k349 | omega
                    have w399 : EQ0 lo za zb zc zv (f163) (f164) (f195) (f161) := nd197
                    have w400 : ND lo ((z152)).toInt (gh168) (f163) (f164) (f195) := (nd_cast nd196 (by omega))
                    have w401 : ∀ y : Nat, (y : Int) < (x_mm_nodes).toInt → (gh168) y = hh y := (fun y hy => (k190 y (by omega)).trans ((k126 y (by omega)).trans ((k62 y (by omega)).trans (rfl))))
                    have w402 : ((f166) (Int32.toNatClampNeg x_mm_reading)).toInt = ((pPs G (x_mm_taped).toInt 6 (x_mm_place).toInt nv vf)).2.2.1 := (k191.trans pq3263.symm)
                    have w403 : VFM ((pPs G (x_mm_taped).toInt 6 (x_mm_place).toInt nv vf)).2.2.1 ((pPs G (x_mm_taped).toInt 6 (x_mm_place).toInt nv vf)).2.2.2 (f167) (x_mm_reading).toInt := (by rw [pq3263, pq3264]; exact k192)
                    exact W.vret hx hb hr (fun t ht hW => ⟨⟨(z152, z337, z338, z339, z340, z341, z375, z376, z377, f161, f162, f163, f164, f195, f166, f167, gh168), rfl, ⟨w382, w383, w384, w385, w386, hf161, hf163, hf164, hf195, hf166, w387, w388, w389, w390, w391, w392, w393, w394, w395, w396, w397, w398, w399, w400, w401, w402, w403⟩, by rw [ht]; exact hP, hD⟩, hS.F ht⟩) hS.2.2 dX11_readsParts_143
                  · replace hq : (((z338)).toInt = ((z201)).toInt) ∧ (((z337)).toInt = ((z200)).toInt) ∧ (((z339)).toInt = ((z202)).toInt) ∧ (((z329)).toInt = 0) ∧ (¬ tkT (G) ((x_mm_taped)).toInt ((z201)).toInt = ((41 : Int32)).toInt) := hq
                    refine lv_if_ne (tgt := 133) hx hb dX11_readsParts_125 (by decide) (fun c9 => absurd c9 (by decide)) (fun _ => ?_)
                    refine lv_aload_n hx hb dX11_readsParts_128 rfl (lv_at hl 0 rfl) ?_
                    refine lv_iconst (v := 1) hx hb dX11_readsParts_129 (by decide) ?_
                    obtain ⟨vq404, evq404⟩ := mq126_90 v_mm (.ref h_nv) (.ref h_nn) (.ref h_na) (.ref h_nb) (.ref h_nc) (.int z152) (.ref h_vrs) (.ref h_let) (.ref h_tap) (.int x_mm_taped) (.int z337) (.int z339) (.int z340) (.long z341) (.int 1) (.int x_mm_reading)
                    replace hP : va_P (dC, dI) cls [(h_nv, .inl (cy_nv, 8000, .inl f161)), (h_nn, .inl (cy_nn, 8000, .inr (.inl f162))), (h_na, .inl (cy_na, 8000, .inl f163)), (h_nb, .inl (cy_nb, 8000, .inl f164)), (h_nc, .inl (cy_nc, 8000, .inl f195)), (h_vrs, .inl (cy_vrs, 32, .inl f166)), (h_let, .inl (cy_let, 256, .inl f167)), (h_mm, .inr (8, (mo90 vq404 (.int z338) (.int z329) (.int z330) (.int z331)))), (h_tap, .inl (cy_tap, 600, .inl f_tap))] H := by rw [evq404]; exact hP
                    replace hD : va_D A [(h_nv, .inl (cy_nv, 8000, .inl f161)), (h_nn, .inl (cy_nn, 8000, .inr (.inl f162))), (h_na, .inl (cy_na, 8000, .inl f163)), (h_nb, .inl (cy_nb, 8000, .inl f164)), (h_nc, .inl (cy_nc, 8000, .inl f195)), (h_vrs, .inl (cy_vrs, 32, .inl f166)), (h_let, .inl (cy_let, 256, .inl f167)), (h_mm, .inr (8, (mo90 vq404 (.int z338) (.int z329) (.int z330) (.int z331)))), (h_tap, .inl (cy_tap, 600, .inl f_tap))] := by rw [evq404]; exact hD
                    have cst1 : (1 : Int32).toInt = 1 := by decide
                    have hPc := hP.sub (ws' := [(h_mm, .inr (8, (mo90 vq404 (.int z338) (.int z329) (.int z330) (.int z331))))]) [7] rfl
                    have hDc := hD.sub (ws' := [(h_mm, .inr (8, (mo90 vq404 (.int z338) (.int z329) (.int z330) (.int z331))))]) [7] (by decide) rfl
                    have hKc := hK.sub (tys' := []) [] rfl
                    have hFc := va_free (wc := [(h_mm, .inr (8, (mo90 vq404 (.int z338) (.int z329) (.int z330) (.int z331))))]) hD hS hA [7] rfl
                    refine va_callv (va_runV (As := [.int 1]) (rest := []) ⟨hx, hb, hml, hown, hts⟩ (c_X11_faulty l dC dI H.size h_mm vq404 z338 z329 z330 z331 1 (by first | exact k343 | omega) (by first | exact k332 | omega)) (cwV 1 hts (gv hT w_m_X11_111 w_instanceMethod_X11_faulty ws_sel_X11_faulty w_ini_X11 w_code_X11_faulty) rfl rfl rfl (by decide +kernel) ⟨(Nat.le_of_ble_eq_true rfl), (Nat.le_of_ble_eq_true rfl)⟩) ⟨pre_blind, va_recv hK hP (ci := 8) (q0 := 7) rfl rfl, pre_of hPc hKc hDc hN⟩ rfl rfl hl.1 rfl (lv_room (Nat.le_of_ble_eq_true rfl)) dX11_readsParts_130 ⟨(Nat.le_of_ble_eq_true rfl), (Nat.le_of_ble_eq_true rfl)⟩) hS (fun q _ h => hFc q h) hFc (fun u t H locs ht hvm hq hB hz1 hk1 hS9 => ?_)
                    obtain ⟨z406, z407, z408⟩ := u
                    obtain ⟨hP1, hD1⟩ := hB
                    rw [ht] at hP1
                    obtain ⟨hP9, hD9⟩ := va_join (wr := [(h_nv, .inl (cy_nv, 8000, .inl f161)), (h_nn, .inl (cy_nn, 8000, .inr (.inl f162))), (h_na, .inl (cy_na, 8000, .inl f163)), (h_nb, .inl (cy_nb, 8000, .inl f164)), (h_nc, .inl (cy_nc, 8000, .inl f195)), (h_vrs, .inl (cy_vrs, 32, .inl f166)), (h_let, .inl (cy_let, 256, .inl f167)), (h_tap, .inl (cy_tap, 600, .inl f_tap))]) (w1 := [(h_mm, .inr (8, (mo90 vq404 (.int z338) (.int z406) (.int z407) (.int z408))))]) hP hD [7] [0, 1, 2, 3, 4, 5, 6, 8] rfl rfl (by decide) (by decide) hk1 hFc hP1 hD1
                    clear hP hD hS hPc hDc hKc hFc hP1 hD1 hk1 hz1 ht hvm
                    have hP : va_P (dC, dI) cls [(h_nv, .inl (cy_nv, 8000, .inl f161)), (h_nn, .inl (cy_nn, 8000, .inr (.inl f162))), (h_na, .inl (cy_na, 8000, .inl f163)), (h_nb, .inl (cy_nb, 8000, .inl f164)), (h_nc, .inl (cy_nc, 8000, .inl f195)), (h_vrs, .inl (cy_vrs, 32, .inl f166)), (h_let, .inl (cy_let, 256, .inl f167)), (h_tap, .inl (cy_tap, 600, .inl f_tap)), (h_mm, .inr (8, (mo90 vq404 (.int z338) (.int z406) (.int z407) (.int z408))))] H := hP9
                    have hD : va_D A [(h_nv, .inl (cy_nv, 8000, .inl f161)), (h_nn, .inl (cy_nn, 8000, .inr (.inl f162))), (h_na, .inl (cy_na, 8000, .inl f163)), (h_nb, .inl (cy_nb, 8000, .inl f164)), (h_nc, .inl (cy_nc, 8000, .inl f195)), (h_vrs, .inl (cy_vrs, 32, .inl f166)), (h_let, .inl (cy_let, 256, .inl f167)), (h_tap, .inl (cy_tap, 600, .inl f_tap)), (h_mm, .inr (8, (mo90 vq404 (.int z338) (.int z406) (.int z407) (.int z408))))] := hD9
                    have hS := hS9
                    clear hP9 hD9 hS9
                    rw [evq404] at hP hD
                    replace hP : va_P (dC, dI) cls [(h_nv, .inl (cy_nv, 8000, .inl f161)), (h_nn, .inl (cy_nn, 8000, .inr (.inl f162))), (h_na, .inl (cy_na, 8000, .inl f163)), (h_nb, .inl (cy_nb, 8000, .inl f164)), (h_nc, .inl (cy_nc, 8000, .inl f195)), (h_vrs, .inl (cy_vrs, 32, .inl f166)), (h_let, .inl (cy_let, 256, .inl f167)), (h_tap, .inl (cy_tap, 600, .inl f_tap)), (h_mm, .inr (8, (mo126 v_mm (.ref h_nv) (.ref h_nn) (.ref h_na) (.ref h_nb) (.ref h_nc) (.int z152) (.ref h_vrs) (.ref h_let) (.ref h_tap) (.int x_mm_taped) (.int z337) (.int z338) (.int z339) (.int z340) (.long z341) (.int z406) (.int z407) (.int z408) (.int 1) (.int x_mm_reading))))] H := hP
                    replace hD : va_D A [(h_nv, .inl (cy_nv, 8000, .inl f161)), (h_nn, .inl (cy_nn, 8000, .inr (.inl f162))), (h_na, .inl (cy_na, 8000, .inl f163)), (h_nb, .inl (cy_nb, 8000, .inl f164)), (h_nc, .inl (cy_nc, 8000, .inl f195)), (h_vrs, .inl (cy_vrs, 32, .inl f166)), (h_let, .inl (cy_let, 256, .inl f167)), (h_tap, .inl (cy_tap, 600, .inl f_tap)), (h_mm, .inr (8, (mo126 v_mm (.ref h_nv) (.ref h_nn) (.ref h_na) (.ref h_nb) (.ref h_nc) (.int z152) (.ref h_vrs) (.ref h_let) (.ref h_tap) (.int x_mm_taped) (.int z337) (.int z338) (.int z339) (.int z340) (.long z341) (.int z406) (.int z407) (.int z408) (.int 1) (.int x_mm_reading))))] := hD
                    clear evq404 
                    obtain ⟨k409, k410, k411⟩ := hq
                    replace k409 : 0 ≤ ((z406)).toInt ∧ ((z406)).toInt ≤ 1 := k409
                    replace k410 : ((z406)).toInt = 1 := k410
                    replace k411 : (((z329)).toInt = 1 ∧ ((z407)).toInt = ((z330)).toInt ∧ ((z408)).toInt = ((z331)).toInt) ∨ (((z329)).toInt = 0 ∧ ((z407)).toInt = ((1 : Int32)).toInt ∧ ((z408)).toInt = ((z338)).toInt) := k411
                    refine lv_aload_n hx hb dX11_readsParts_133 rfl (lv_at hl 0 rfl) ?_
                    refine lv_aload_n hx hb dX11_readsParts_134 rfl (lv_at hl 0 rfl) ?_
                    refine va_get (D := (dC, dI)) (ci := 8) (v := .int 1) (C := RX11) (T := TX11) (N := 71) hx hb hw iwX11 hown hK hP 8 rfl rfl 23 (by decide) (hw _ w_f_X11_130) (fun _ h9 => h9) rfl dX11_readsParts_135 ?_
                    refine lv_iconst (v := 1) hx hb dX11_readsParts_138 (by decide) ?_
                    refine lv_isub hx hb dX11_readsParts_139 ?_
                    refine lv_topi (fun z412 ez412 => ?_)
                    obtain rfl : z412 = 0 := ez412.trans (by decide)
                    refine va_put (D := (dC, dI)) (ci := 8) (v := .int 0) (ty := tyX11 23) (C := RX11) (T := TX11) (N := 71) hx hb hw iwX11 tyX11 tyX11_ok nmX11 hown hK hP hD hS 8 rfl rfl 23 (by decide) (hw _ w_f_X11_130) (fun _ h9 => h9) rfl (tyX11_ok 23 (by decide)) rfl rfl (Nat.le_of_ble_eq_true rfl) dX11_readsParts_140 (fun H locs hP9 hD9 hS9 => ?_)
                    clear hP hD hS
                    have hP : va_P (dC, dI) cls [(h_nv, .inl (cy_nv, 8000, .inl f161)), (h_nn, .inl (cy_nn, 8000, .inr (.inl f162))), (h_na, .inl (cy_na, 8000, .inl f163)), (h_nb, .inl (cy_nb, 8000, .inl f164)), (h_nc, .inl (cy_nc, 8000, .inl f195)), (h_vrs, .inl (cy_vrs, 32, .inl f166)), (h_let, .inl (cy_let, 256, .inl f167)), (h_tap, .inl (cy_tap, 600, .inl f_tap)), (h_mm, .inr (8, (mo126 v_mm (.ref h_nv) (.ref h_nn) (.ref h_na) (.ref h_nb) (.ref h_nc) (.int z152) (.ref h_vrs) (.ref h_let) (.ref h_tap) (.int x_mm_taped) (.int z337) (.int z338) (.int z339) (.int z340) (.long z341) (.int z406) (.int z407) (.int z408) (.int 0) (.int x_mm_reading))))] H := hP9
                    have hD : va_D A [(h_nv, .inl (cy_nv, 8000, .inl f161)), (h_nn, .inl (cy_nn, 8000, .inr (.inl f162))), (h_na, .inl (cy_na, 8000, .inl f163)), (h_nb, .inl (cy_nb, 8000, .inl f164)), (h_nc, .inl (cy_nc, 8000, .inl f195)), (h_vrs, .inl (cy_vrs, 32, .inl f166)), (h_let, .inl (cy_let, 256, .inl f167)), (h_tap, .inl (cy_tap, 600, .inl f_tap)), (h_mm, .inr (8, (mo126 v_mm (.ref h_nv) (.ref h_nn) (.ref h_na) (.ref h_nb) (.ref h_nc) (.int z152) (.ref h_vrs) (.ref h_let) (.ref h_tap) (.int x_mm_taped) (.int z337) (.int z338) (.int z339) (.int z340) (.long z341) (.int z406) (.int z407) (.int z408) (.int 0) (.int x_mm_reading))))] := hD9
                    have hS := hS9
                    clear hP9 hD9 hS9
                    replace hP : va_P (dC, dI) cls [(h_mm, .inr (8, (mo126 v_mm (.ref h_nv) (.ref h_nn) (.ref h_na) (.ref h_nb) (.ref h_nc) (.int z152) (.ref h_vrs) (.ref h_let) (.ref h_tap) (.int x_mm_taped) (.int z337) (.int z338) (.int z339) (.int z340) (.long z341) (.int z406) (.int z407) (.int z408) (.int 0) (.int x_mm_reading)))), (h_tap, .inl (cy_tap, 600, .inl f_tap)), (h_nv, .inl (cy_nv, 8000, .inl f161)), (h_nn, .inl (cy_nn, 8000, .inr (.inl f162))), (h_na, .inl (cy_na, 8000, .inl f163)), (h_nb, .inl (cy_nb, 8000, .inl f164)), (h_nc, .inl (cy_nc, 8000, .inl f195)), (h_vrs, .inl (cy_vrs, 32, .inl f166)), (h_let, .inl (cy_let, 256, .inl f167))] H := hP.sub [8, 7, 0, 1, 2, 3, 4, 5, 6] rfl
                    replace hD : va_D A [(h_mm, .inr (8, (mo126 v_mm (.ref h_nv) (.ref h_nn) (.ref h_na) (.ref h_nb) (.ref h_nc) (.int z152) (.ref h_vrs) (.ref h_let) (.ref h_tap) (.int x_mm_taped) (.int z337) (.int z338) (.int z339) (.int z340) (.long z341) (.int z406) (.int z407) (.int z408) (.int 0) (.int x_mm_reading)))), (h_tap, .inl (cy_tap, 600, .inl f_tap)), (h_nv, .inl (cy_nv, 8000, .inl f161)), (h_nn, .inl (cy_nn, 8000, .inr (.inl f162))), (h_na, .inl (cy_na, 8000, .inl f163)), (h_nb, .inl (cy_nb, 8000, .inl f164)), (h_nc, .inl (cy_nc, 8000, .inl f195)), (h_vrs, .inl (cy_vrs, 32, .inl f166)), (h_let, .inl (cy_let, 256, .inl f167))] := hD.sub [8, 7, 0, 1, 2, 3, 4, 5, 6] (by decide) rfl
                    refine W.widen (k := 0) (n := 0) (Nat.le_of_ble_eq_true rfl) (Nat.le_of_ble_eq_true rfl) ?_
                    have w413 : 0 ≤ ((z152)).toInt ∧ ((z152)).toInt ≤ 1200 := by first | exact k169 | omega
                    have w414 : 0 ≤ ((z337)).toInt ∧ ((z337)).toInt ≤ 600 := by first | exact k342 | omega
                    have w415 : 0 ≤ ((z338)).toInt ∧ ((z338)).toInt ≤ 600 := by first | exact k343 | omega
                    have w416 : 0 ≤ ((z339)).toInt ∧ ((z339)).toInt ≤ 4 := by first | exact k344 | omega
                    have w417 : 0 ≤ ((z406)).toInt ∧ ((z406)).toInt ≤ 1 := by first | exact k409 | omega
                    have w418 : ((z338)).toInt ≤ ((z337)).toInt := by first | exact k345 | omega
                    have w419 : ((z406)).toInt = 1 ∨ ((z152)).toInt ≤ lo + ((z338)).toInt := by omega
                    have w420 : (x_mm_nodes).toInt ≤ ((z152)).toInt := by omega
                    have w421 : (x_mm_place).toInt ≤ ((z338)).toInt := by omega
                    have w422 : (x_mm_isFaulty).toInt ≤ ((z406)).toInt := by omega
                    have w423 : (((z406)).toInt = 0 ∧ ((pPs G (x_mm_taped).toInt 6 (x_mm_place).toInt nv vf)).1 = 0 ∧ ((z407)).toInt = (x_mm_fault).toInt ∧ ((z408)).toInt = (x_mm_faultPlace).toInt) ∨ (((z406)).toInt = 1 ∧ ¬ ((pPs G (x_mm_taped).toInt 6 (x_mm_place).toInt nv vf)).1 = 0 ∧ ((z407)).toInt = ((pPs G (x_mm_taped).toInt 6 (x_mm_place).toInt nv vf)).1 ∧ ((z408)).toInt = ((pPs G (x_mm_taped).toInt 6 (x_mm_place).toInt nv vf)).2.1) := by omega
                    have w424 : ((z338)).toInt = ((pPs G (x_mm_taped).toInt 6 (x_mm_place).toInt nv vf)).2.1 := by omega
                    have w425 : 0 ≤ ((pPs G (x_mm_taped).toInt 6 (x_mm_place).toInt nv vf)).2.2.1 ∧ ((pPs G (x_mm_taped).toInt 6 (x_mm_place).toInt nv vf)).2.2.1 ≤ 8 := by omega
                    have w426 : ((z339)).toInt = kd (tkT G (x_mm_taped).toInt ((z338)).toInt) := by first | exact k346 | omega
                    have w427 : ((z339)).toInt = 0 ∨ (((z337)).toInt = tkX G (x_mm_taped).toInt ((z338)).toInt ∧ ((z340)).toInt = G ((z338)).toInt ∧ ((z338)).toInt < (x_mm_taped).toInt ∧ ((z338)).toInt + 1 ≤ ((z337)).toInt) := by first | exact k347 | omega
                    have w428 : ((z337)).toInt ≤ (x_mm_taped).toInt := by first | exact k348 | omega
                    have w429 : ((z338)).toInt ≤ (x_mm_taped).toInt := by first | exact k349 | omega
                    have w430 : EQ0 lo za zb zc zv (f163) (f164) (f195) (f161) := nd197
                    have w431 : ND lo ((z152)).toInt (gh168) (f163) (f164) (f195) := (nd_cast nd196 (by omega))
                    have w432 : ∀ y : Nat, (y : Int) < (x_mm_nodes).toInt → (gh168) y = hh y := (fun y hy => (k190 y (by omega)).trans ((k126 y (by omega)).trans ((k62 y (by omega)).trans (rfl))))
                    have w433 : ((f166) (Int32.toNatClampNeg x_mm_reading)).toInt = ((pPs G (x_mm_taped).toInt 6 (x_mm_place).toInt nv vf)).2.2.1 := (k191.trans pq3263.symm)
                    have w434 : VFM ((pPs G (x_mm_taped).toInt 6 (x_mm_place).toInt nv vf)).2.2.1 ((pPs G (x_mm_taped).toInt 6 (x_mm_place).toInt nv vf)).2.2.2 (f167) (x_mm_reading).toInt := (by rw [pq3263, pq3264]; exact k192)
                    exact W.vret hx hb hr (fun t ht hW => ⟨⟨(z152, z337, z338, z339, z340, z341, z406, z407, z408, f161, f162, f163, f164, f195, f166, f167, gh168), rfl, ⟨w413, w414, w415, w416, w417, hf161, hf163, hf164, hf195, hf166, w418, w419, w420, w421, w422, w423, w424, w425, w426, w427, w428, w429, w430, w431, w432, w433, w434⟩, by rw [ht]; exact hP, hD⟩, hS.F ht⟩) hS.2.2 dX11_readsParts_143
              · replace hq : (((z201)).toInt = ((z154)).toInt) ∧ (((z200)).toInt = ((z153)).toInt) ∧ (((z202)).toInt = ((z155)).toInt) ∧ (((z158)).toInt = 1) := hq
                exact False.elim (by omega)
              · replace hq : (((z201)).toInt = ((z154)).toInt) ∧ (((z200)).toInt = ((z153)).toInt) ∧ (((z202)).toInt = ((z155)).toInt) ∧ (((z158)).toInt = 0) ∧ (¬ tkT (G) ((x_mm_taped)).toInt ((z154)).toInt = ((44 : Int32)).toInt) := hq
                clear k185
                have cst44 : (44 : Int32).toInt = 44 := by decide
                have on9 := pLo_off (G := G) (n := (x_mm_taped).toInt) (P := (pPs G (x_mm_taped).toInt 5)) (r := 0) (q := (z90).toInt) (nv := (rh129).2.2.1) (vf := (rh129).2.2.2) (by rw [← erh193]; omega) (by rw [← erh193, ← k182]; omega)
                rw [← erh193, ← k182] at on9
                have cl9 := on9.symm.trans lo149
                have pe9 : tkT G (x_mm_taped).toInt (z201).toInt = tkT G (x_mm_taped).toInt (z154).toInt := congrArg (tkT G (x_mm_taped).toInt) hq.1
                have pn9 : tkN G (x_mm_taped).toInt (z201).toInt = tkN G (x_mm_taped).toInt (z154).toInt := congrArg (tkN G (x_mm_taped).toInt) hq.1
                refine lv_if_eq (tgt := 119) hx hb dX11_readsParts_100 (by decide) (fun _ => ?_) (fun c9 => absurd c9 (by decide))
                refine lv_aload_n hx hb dX11_readsParts_119 rfl (lv_at hl 0 rfl) ?_
                refine lv_bipush (v := 41) hx hb dX11_readsParts_120 (by decide) ?_
                obtain ⟨vq435, evq435⟩ := mq126_92 v_mm (.ref h_nv) (.ref h_nn) (.ref h_na) (.ref h_nb) (.ref h_nc) (.int z152) (.ref h_vrs) (.ref h_let) (.int z159) (.int z160) (.int 1) (.int x_mm_reading)
                replace hP : va_P (dC, dI) cls [(h_nv, .inl (cy_nv, 8000, .inl f161)), (h_nn, .inl (cy_nn, 8000, .inr (.inl f162))), (h_na, .inl (cy_na, 8000, .inl f163)), (h_nb, .inl (cy_nb, 8000, .inl f164)), (h_nc, .inl (cy_nc, 8000, .inl f195)), (h_vrs, .inl (cy_vrs, 32, .inl f166)), (h_let, .inl (cy_let, 256, .inl f167)), (h_mm, .inr (8, (mo92 vq435 (.ref h_tap) (.int x_mm_taped) (.int z200) (.int z201) (.int z202) (.int z203) (.long z204) (.int z158)))), (h_tap, .inl (cy_tap, 600, .inl f_tap))] H := by rw [evq435]; exact hP
                replace hD : va_D A [(h_nv, .inl (cy_nv, 8000, .inl f161)), (h_nn, .inl (cy_nn, 8000, .inr (.inl f162))), (h_na, .inl (cy_na, 8000, .inl f163)), (h_nb, .inl (cy_nb, 8000, .inl f164)), (h_nc, .inl (cy_nc, 8000, .inl f195)), (h_vrs, .inl (cy_vrs, 32, .inl f166)), (h_let, .inl (cy_let, 256, .inl f167)), (h_mm, .inr (8, (mo92 vq435 (.ref h_tap) (.int x_mm_taped) (.int z200) (.int z201) (.int z202) (.int z203) (.long z204) (.int z158)))), (h_tap, .inl (cy_tap, 600, .inl f_tap))] := by rw [evq435]; exact hD
                have cst41 : (41 : Int32).toInt = 41 := by decide
                have hPc := hP.sub (ws' := [(h_mm, .inr (8, (mo92 vq435 (.ref h_tap) (.int x_mm_taped) (.int z200) (.int z201) (.int z202) (.int z203) (.long z204) (.int z158)))), (h_tap, .inl (cy_tap, 600, .inl f_tap))]) [7, 8] rfl
                have hDc := hD.sub (ws' := [(h_mm, .inr (8, (mo92 vq435 (.ref h_tap) (.int x_mm_taped) (.int z200) (.int z201) (.int z202) (.int z203) (.long z204) (.int z158)))), (h_tap, .inl (cy_tap, 600, .inl f_tap))]) [7, 8] (by decide) rfl
                have hKc := hK.sub (tys' := [(cy_tap, .byte)]) [0] rfl
                have hFc := va_free (wc := [(h_mm, .inr (8, (mo92 vq435 (.ref h_tap) (.int x_mm_taped) (.int z200) (.int z201) (.int z202) (.int z203) (.long z204) (.int z158)))), (h_tap, .inl (cy_tap, 600, .inl f_tap))]) hD hS hA [7, 8] rfl
                refine va_calli (va_runV (As := [.int 41]) (rest := []) ⟨hx, hb, hml, hown, hts⟩ (c_X11_passes l dC dI H.size h_mm h_tap vq435 x_mm_taped z200 z201 z202 z203 z204 z158 cy_tap f_tap 41 G (by first | exact hx_mm_taped | omega) (by first | exact k205 | omega) (by first | exact k206 | omega) (by first | exact k207 | omega) (by first | exact k173 | omega) (by first | exact k208 | omega) (by omega) (by omega) (by first | exact k209 | omega) (by first | exact k210 | omega) (by first | exact k211 | omega) (by first | exact k212 | omega) hn_tapq) (cwV 1 hts (gv hT w_m_X11_136 w_instanceMethod_X11_passes ws_sel_X11_passes w_ini_X11 w_code_X11_passes) rfl rfl rfl (by decide +kernel) ⟨(Nat.le_of_ble_eq_true rfl), (Nat.le_of_ble_eq_true rfl)⟩) ⟨pre_blind, va_recv hK hP (ci := 8) (q0 := 7) rfl rfl, pre_of hPc hKc hDc hN⟩ rfl rfl hl.1 rfl (lv_room (Nat.le_of_ble_eq_true rfl)) dX11_readsParts_122 ⟨(Nat.le_of_ble_eq_true rfl), (Nat.le_of_ble_eq_true rfl)⟩) hS (fun q _ h => hFc q h) hFc (fun r436 u t H locs ht hvm hq hB hz1 hk1 hS9 => ?_)
                obtain ⟨z437, z438, z439, z440, z441⟩ := u
                obtain ⟨hP1, hD1⟩ := hB
                rw [ht] at hP1
                obtain ⟨hP9, hD9⟩ := va_join (wr := [(h_nv, .inl (cy_nv, 8000, .inl f161)), (h_nn, .inl (cy_nn, 8000, .inr (.inl f162))), (h_na, .inl (cy_na, 8000, .inl f163)), (h_nb, .inl (cy_nb, 8000, .inl f164)), (h_nc, .inl (cy_nc, 8000, .inl f195)), (h_vrs, .inl (cy_vrs, 32, .inl f166)), (h_let, .inl (cy_let, 256, .inl f167))]) (w1 := [(h_mm, .inr (8, (mo92 vq435 (.ref h_tap) (.int x_mm_taped) (.int z437) (.int z438) (.int z439) (.int z440) (.long z441) (.int z158)))), (h_tap, .inl (cy_tap, 600, .inl f_tap))]) hP hD [7, 8] [0, 1, 2, 3, 4, 5, 6] rfl rfl (by decide) (by decide) hk1 hFc hP1 hD1
                clear hP hD hS hPc hDc hKc hFc hP1 hD1 hk1 hz1 ht hvm
                have hP : va_P (dC, dI) cls [(h_nv, .inl (cy_nv, 8000, .inl f161)), (h_nn, .inl (cy_nn, 8000, .inr (.inl f162))), (h_na, .inl (cy_na, 8000, .inl f163)), (h_nb, .inl (cy_nb, 8000, .inl f164)), (h_nc, .inl (cy_nc, 8000, .inl f195)), (h_vrs, .inl (cy_vrs, 32, .inl f166)), (h_let, .inl (cy_let, 256, .inl f167)), (h_mm, .inr (8, (mo92 vq435 (.ref h_tap) (.int x_mm_taped) (.int z437) (.int z438) (.int z439) (.int z440) (.long z441) (.int z158)))), (h_tap, .inl (cy_tap, 600, .inl f_tap))] H := hP9
                have hD : va_D A [(h_nv, .inl (cy_nv, 8000, .inl f161)), (h_nn, .inl (cy_nn, 8000, .inr (.inl f162))), (h_na, .inl (cy_na, 8000, .inl f163)), (h_nb, .inl (cy_nb, 8000, .inl f164)), (h_nc, .inl (cy_nc, 8000, .inl f195)), (h_vrs, .inl (cy_vrs, 32, .inl f166)), (h_let, .inl (cy_let, 256, .inl f167)), (h_mm, .inr (8, (mo92 vq435 (.ref h_tap) (.int x_mm_taped) (.int z437) (.int z438) (.int z439) (.int z440) (.long z441) (.int z158)))), (h_tap, .inl (cy_tap, 600, .inl f_tap))] := hD9
                have hS := hS9
                clear hP9 hD9 hS9
                rw [evq435] at hP hD
                replace hP : va_P (dC, dI) cls [(h_nv, .inl (cy_nv, 8000, .inl f161)), (h_nn, .inl (cy_nn, 8000, .inr (.inl f162))), (h_na, .inl (cy_na, 8000, .inl f163)), (h_nb, .inl (cy_nb, 8000, .inl f164)), (h_nc, .inl (cy_nc, 8000, .inl f195)), (h_vrs, .inl (cy_vrs, 32, .inl f166)), (h_let, .inl (cy_let, 256, .inl f167)), (h_mm, .inr (8, (mo126 v_mm (.ref h_nv) (.ref h_nn) (.ref h_na) (.ref h_nb) (.ref h_nc) (.int z152) (.ref h_vrs) (.ref h_let) (.ref h_tap) (.int x_mm_taped) (.int z437) (.int z438) (.int z439) (.int z440) (.long z441) (.int z158) (.int z159) (.int z160) (.int 1) (.int x_mm_reading)))), (h_tap, .inl (cy_tap, 600, .inl f_tap))] H := hP
                replace hD : va_D A [(h_nv, .inl (cy_nv, 8000, .inl f161)), (h_nn, .inl (cy_nn, 8000, .inr (.inl f162))), (h_na, .inl (cy_na, 8000, .inl f163)), (h_nb, .inl (cy_nb, 8000, .inl f164)), (h_nc, .inl (cy_nc, 8000, .inl f195)), (h_vrs, .inl (cy_vrs, 32, .inl f166)), (h_let, .inl (cy_let, 256, .inl f167)), (h_mm, .inr (8, (mo126 v_mm (.ref h_nv) (.ref h_nn) (.ref h_na) (.ref h_nb) (.ref h_nc) (.int z152) (.ref h_vrs) (.ref h_let) (.ref h_tap) (.int x_mm_taped) (.int z437) (.int z438) (.int z439) (.int z440) (.long z441) (.int z158) (.int z159) (.int z160) (.int 1) (.int x_mm_reading)))), (h_tap, .inl (cy_tap, 600, .inl f_tap))] := hD
                clear evq435 
                obtain ⟨k442, k443, k444, k445, k446, k447, k448, k449, hq⟩ := hq
                replace k442 : 0 ≤ ((z437)).toInt ∧ ((z437)).toInt ≤ 600 := k442
                replace k443 : 0 ≤ ((z438)).toInt ∧ ((z438)).toInt ≤ 600 := k443
                replace k444 : 0 ≤ ((z439)).toInt ∧ ((z439)).toInt ≤ 4 := k444
                replace k445 : ((z438)).toInt ≤ ((z437)).toInt := k445
                replace k446 : ((z439)).toInt = kd (tkT (G) ((x_mm_taped)).toInt ((z438)).toInt) := k446
                replace k447 : ((z439)).toInt = 0 ∨ (((z437)).toInt = tkX (G) ((x_mm_taped)).toInt ((z438)).toInt ∧ ((z440)).toInt = (G) ((z438)).toInt ∧ ((z438)).toInt < ((x_mm_taped)).toInt ∧ ((z438)).toInt + 1 ≤ ((z437)).toInt) := k447
                replace k448 : ((z437)).toInt ≤ ((x_mm_taped)).toInt := k448
                replace k449 : ((z438)).toInt ≤ ((x_mm_taped)).toInt := k449
                rcases hq with ⟨rfl, hq⟩ | ⟨rfl, hq⟩ | ⟨rfl, hq⟩
                · replace hq : (((z158)).toInt = 0) ∧ (tkT (G) ((x_mm_taped)).toInt ((z201)).toInt = ((41 : Int32)).toInt) ∧ (((z438)).toInt = tkN (G) ((x_mm_taped)).toInt ((z201)).toInt) ∧ (((z200)).toInt ≤ ((z438)).toInt) ∧ (((z201)).toInt + 1 ≤ ((z438)).toInt) := hq
                  have cst41 : (41 : Int32).toInt = 41 := by decide
                  have pv9 : (pPs G (x_mm_taped).toInt 6 (x_mm_place).toInt nv vf) = (0, tkN G (x_mm_taped).toInt (z154).toInt, (rh193).2.2.1, (rh193).2.2.2) := cl9.symm.trans (pCl_yes (by omega))
                  have pq4501 : ((pPs G (x_mm_taped).toInt 6 (x_mm_place).toInt nv vf)).1 = 0 := by rw [pv9]
                  have pq4502 : ((pPs G (x_mm_taped).toInt 6 (x_mm_place).toInt nv vf)).2.1 = tkN G (x_mm_taped).toInt (z154).toInt := by rw [pv9]
                  have pq4503 : ((pPs G (x_mm_taped).toInt 6 (x_mm_place).toInt nv vf)).2.2.1 = (rh193).2.2.1 := by rw [pv9]
                  have pq4504 : ((pPs G (x_mm_taped).toInt 6 (x_mm_place).toInt nv vf)).2.2.2 = (rh193).2.2.2 := by rw [pv9]
                  refine lv_if_ne (tgt := 133) hx hb dX11_readsParts_125 (by decide) (fun _ => ?_) (fun c9 => absurd c9 (by decide))
                  refine lv_aload_n hx hb dX11_readsParts_133 rfl (lv_at hl 0 rfl) ?_
                  refine lv_aload_n hx hb dX11_readsParts_134 rfl (lv_at hl 0 rfl) ?_
                  refine va_get (D := (dC, dI)) (ci := 8) (v := .int 1) (C := RX11) (T := TX11) (N := 71) hx hb hw iwX11 hown hK hP 7 rfl rfl 23 (by decide) (hw _ w_f_X11_130) (fun _ h9 => h9) rfl dX11_readsParts_135 ?_
                  refine lv_iconst (v := 1) hx hb dX11_readsParts_138 (by decide) ?_
                  refine lv_isub hx hb dX11_readsParts_139 ?_
                  refine lv_topi (fun z451 ez451 => ?_)
                  obtain rfl : z451 = 0 := ez451.trans (by decide)
                  refine va_put (D := (dC, dI)) (ci := 8) (v := .int 0) (ty := tyX11 23) (C := RX11) (T := TX11) (N := 71) hx hb hw iwX11 tyX11 tyX11_ok nmX11 hown hK hP hD hS 7 rfl rfl 23 (by decide) (hw _ w_f_X11_130) (fun _ h9 => h9) rfl (tyX11_ok 23 (by decide)) rfl rfl (Nat.le_of_ble_eq_true rfl) dX11_readsParts_140 (fun H locs hP9 hD9 hS9 => ?_)
                  clear hP hD hS
                  have hP : va_P (dC, dI) cls [(h_nv, .inl (cy_nv, 8000, .inl f161)), (h_nn, .inl (cy_nn, 8000, .inr (.inl f162))), (h_na, .inl (cy_na, 8000, .inl f163)), (h_nb, .inl (cy_nb, 8000, .inl f164)), (h_nc, .inl (cy_nc, 8000, .inl f195)), (h_vrs, .inl (cy_vrs, 32, .inl f166)), (h_let, .inl (cy_let, 256, .inl f167)), (h_mm, .inr (8, (mo126 v_mm (.ref h_nv) (.ref h_nn) (.ref h_na) (.ref h_nb) (.ref h_nc) (.int z152) (.ref h_vrs) (.ref h_let) (.ref h_tap) (.int x_mm_taped) (.int z437) (.int z438) (.int z439) (.int z440) (.long z441) (.int z158) (.int z159) (.int z160) (.int 0) (.int x_mm_reading)))), (h_tap, .inl (cy_tap, 600, .inl f_tap))] H := hP9
                  have hD : va_D A [(h_nv, .inl (cy_nv, 8000, .inl f161)), (h_nn, .inl (cy_nn, 8000, .inr (.inl f162))), (h_na, .inl (cy_na, 8000, .inl f163)), (h_nb, .inl (cy_nb, 8000, .inl f164)), (h_nc, .inl (cy_nc, 8000, .inl f195)), (h_vrs, .inl (cy_vrs, 32, .inl f166)), (h_let, .inl (cy_let, 256, .inl f167)), (h_mm, .inr (8, (mo126 v_mm (.ref h_nv) (.ref h_nn) (.ref h_na) (.ref h_nb) (.ref h_nc) (.int z152) (.ref h_vrs) (.ref h_let) (.ref h_tap) (.int x_mm_taped) (.int z437) (.int z438) (.int z439) (.int z440) (.long z441) (.int z158) (.int z159) (.int z160) (.int 0) (.int x_mm_reading)))), (h_tap, .inl (cy_tap, 600, .inl f_tap))] := hD9
                  have hS := hS9
                  clear hP9 hD9 hS9
                  replace hP : va_P (dC, dI) cls [(h_mm, .inr (8, (mo126 v_mm (.ref h_nv) (.ref h_nn) (.ref h_na) (.ref h_nb) (.ref h_nc) (.int z152) (.ref h_vrs) (.ref h_let) (.ref h_tap) (.int x_mm_taped) (.int z437) (.int z438) (.int z439) (.int z440) (.long z441) (.int z158) (.int z159) (.int z160) (.int 0) (.int x_mm_reading)))), (h_tap, .inl (cy_tap, 600, .inl f_tap)), (h_nv, .inl (cy_nv, 8000, .inl f161)), (h_nn, .inl (cy_nn, 8000, .inr (.inl f162))), (h_na, .inl (cy_na, 8000, .inl f163)), (h_nb, .inl (cy_nb, 8000, .inl f164)), (h_nc, .inl (cy_nc, 8000, .inl f195)), (h_vrs, .inl (cy_vrs, 32, .inl f166)), (h_let, .inl (cy_let, 256, .inl f167))] H := hP.sub [7, 8, 0, 1, 2, 3, 4, 5, 6] rfl
                  replace hD : va_D A [(h_mm, .inr (8, (mo126 v_mm (.ref h_nv) (.ref h_nn) (.ref h_na) (.ref h_nb) (.ref h_nc) (.int z152) (.ref h_vrs) (.ref h_let) (.ref h_tap) (.int x_mm_taped) (.int z437) (.int z438) (.int z439) (.int z440) (.long z441) (.int z158) (.int z159) (.int z160) (.int 0) (.int x_mm_reading)))), (h_tap, .inl (cy_tap, 600, .inl f_tap)), (h_nv, .inl (cy_nv, 8000, .inl f161)), (h_nn, .inl (cy_nn, 8000, .inr (.inl f162))), (h_na, .inl (cy_na, 8000, .inl f163)), (h_nb, .inl (cy_nb, 8000, .inl f164)), (h_nc, .inl (cy_nc, 8000, .inl f195)), (h_vrs, .inl (cy_vrs, 32, .inl f166)), (h_let, .inl (cy_let, 256, .inl f167))] := hD.sub [7, 8, 0, 1, 2, 3, 4, 5, 6] (by decide) rfl
                  refine W.widen (k := 0) (n := 0) (Nat.le_of_ble_eq_true rfl) (Nat.le_of_ble_eq_true rfl) ?_
                  have w452 : 0 ≤ ((z152)).toInt ∧ ((z152)).toInt ≤ 1200 := by first | exact k169 | omega
                  have w453 : 0 ≤ ((z437)).toInt ∧ ((z437)).toInt ≤ 600 := by first | exact k442 | omega
                  have w454 : 0 ≤ ((z438)).toInt ∧ ((z438)).toInt ≤ 600 := by first | exact k443 | omega
                  have w455 : 0 ≤ ((z439)).toInt ∧ ((z439)).toInt ≤ 4 := by first | exact k444 | omega
                  have w456 : 0 ≤ ((z158)).toInt ∧ ((z158)).toInt ≤ 1 := by first | exact k173 | omega
                  have w457 : ((z438)).toInt ≤ ((z437)).toInt := by first | exact k445 | omega
                  have w458 : ((z158)).toInt = 1 ∨ ((z152)).toInt ≤ lo + ((z438)).toInt := by omega
                  have w459 : (x_mm_nodes).toInt ≤ ((z152)).toInt := by omega
                  have w460 : (x_mm_place).toInt ≤ ((z438)).toInt := by omega
                  have w461 : (x_mm_isFaulty).toInt ≤ ((z158)).toInt := by omega
                  have w462 : (((z158)).toInt = 0 ∧ ((pPs G (x_mm_taped).toInt 6 (x_mm_place).toInt nv vf)).1 = 0 ∧ ((z159)).toInt = (x_mm_fault).toInt ∧ ((z160)).toInt = (x_mm_faultPlace).toInt) ∨ (((z158)).toInt = 1 ∧ ¬ ((pPs G (x_mm_taped).toInt 6 (x_mm_place).toInt nv vf)).1 = 0 ∧ ((z159)).toInt = ((pPs G (x_mm_taped).toInt 6 (x_mm_place).toInt nv vf)).1 ∧ ((z160)).toInt = ((pPs G (x_mm_taped).toInt 6 (x_mm_place).toInt nv vf)).2.1) := by omega
                  have w463 : ((z438)).toInt = ((pPs G (x_mm_taped).toInt 6 (x_mm_place).toInt nv vf)).2.1 := by omega
                  have w464 : 0 ≤ ((pPs G (x_mm_taped).toInt 6 (x_mm_place).toInt nv vf)).2.2.1 ∧ ((pPs G (x_mm_taped).toInt 6 (x_mm_place).toInt nv vf)).2.2.1 ≤ 8 := by omega
                  have w465 : ((z439)).toInt = kd (tkT G (x_mm_taped).toInt ((z438)).toInt) := by first | exact k446 | omega
                  have w466 : ((z439)).toInt = 0 ∨ (((z437)).toInt = tkX G (x_mm_taped).toInt ((z438)).toInt ∧ ((z440)).toInt = G ((z438)).toInt ∧ ((z438)).toInt < (x_mm_taped).toInt ∧ ((z438)).toInt + 1 ≤ ((z437)).toInt) := by first | exact k447 | omega
                  have w467 : ((z437)).toInt ≤ (x_mm_taped).toInt := by first | exact k448 | omega
                  have w468 : ((z438)).toInt ≤ (x_mm_taped).toInt := by first | exact k449 | omega
                  have w469 : EQ0 lo za zb zc zv (f163) (f164) (f195) (f161) := nd197
                  have w470 : ND lo ((z152)).toInt (gh168) (f163) (f164) (f195) := (nd_cast nd196 (by omega))
                  have w471 : ∀ y : Nat, (y : Int) < (x_mm_nodes).toInt → (gh168) y = hh y := (fun y hy => (k190 y (by omega)).trans ((k126 y (by omega)).trans ((k62 y (by omega)).trans (rfl))))
                  have w472 : ((f166) (Int32.toNatClampNeg x_mm_reading)).toInt = ((pPs G (x_mm_taped).toInt 6 (x_mm_place).toInt nv vf)).2.2.1 := (k191.trans pq4503.symm)
                  have w473 : VFM ((pPs G (x_mm_taped).toInt 6 (x_mm_place).toInt nv vf)).2.2.1 ((pPs G (x_mm_taped).toInt 6 (x_mm_place).toInt nv vf)).2.2.2 (f167) (x_mm_reading).toInt := (by rw [pq4503, pq4504]; exact k192)
                  exact W.vret hx hb hr (fun t ht hW => ⟨⟨(z152, z437, z438, z439, z440, z441, z158, z159, z160, f161, f162, f163, f164, f195, f166, f167, gh168), rfl, ⟨w452, w453, w454, w455, w456, hf161, hf163, hf164, hf195, hf166, w457, w458, w459, w460, w461, w462, w463, w464, w465, w466, w467, w468, w469, w470, w471, w472, w473⟩, by rw [ht]; exact hP, hD⟩, hS.F ht⟩) hS.2.2 dX11_readsParts_143
                · replace hq : (((z438)).toInt = ((z201)).toInt) ∧ (((z437)).toInt = ((z200)).toInt) ∧ (((z439)).toInt = ((z202)).toInt) ∧ (((z158)).toInt = 1) := hq
                  exact False.elim (by omega)
                · replace hq : (((z438)).toInt = ((z201)).toInt) ∧ (((z437)).toInt = ((z200)).toInt) ∧ (((z439)).toInt = ((z202)).toInt) ∧ (((z158)).toInt = 0) ∧ (¬ tkT (G) ((x_mm_taped)).toInt ((z201)).toInt = ((41 : Int32)).toInt) := hq
                  have cst41 : (41 : Int32).toInt = 41 := by decide
                  have pv9 : (pPs G (x_mm_taped).toInt 6 (x_mm_place).toInt nv vf) = (1, (z154).toInt, (rh193).2.2.1, (rh193).2.2.2) := cl9.symm.trans (pCl_no (by omega))
                  have pq4741 : ((pPs G (x_mm_taped).toInt 6 (x_mm_place).toInt nv vf)).1 = 1 := by rw [pv9]
                  have pq4742 : ((pPs G (x_mm_taped).toInt 6 (x_mm_place).toInt nv vf)).2.1 = (z154).toInt := by rw [pv9]
                  have pq4743 : ((pPs G (x_mm_taped).toInt 6 (x_mm_place).toInt nv vf)).2.2.1 = (rh193).2.2.1 := by rw [pv9]
                  have pq4744 : ((pPs G (x_mm_taped).toInt 6 (x_mm_place).toInt nv vf)).2.2.2 = (rh193).2.2.2 := by rw [pv9]
                  refine lv_if_ne (tgt := 133) hx hb dX11_readsParts_125 (by decide) (fun c9 => absurd c9 (by decide)) (fun _ => ?_)
                  refine lv_aload_n hx hb dX11_readsParts_128 rfl (lv_at hl 0 rfl) ?_
                  refine lv_iconst (v := 1) hx hb dX11_readsParts_129 (by decide) ?_
                  obtain ⟨vq475, evq475⟩ := mq126_90 v_mm (.ref h_nv) (.ref h_nn) (.ref h_na) (.ref h_nb) (.ref h_nc) (.int z152) (.ref h_vrs) (.ref h_let) (.ref h_tap) (.int x_mm_taped) (.int z437) (.int z439) (.int z440) (.long z441) (.int 1) (.int x_mm_reading)
                  replace hP : va_P (dC, dI) cls [(h_nv, .inl (cy_nv, 8000, .inl f161)), (h_nn, .inl (cy_nn, 8000, .inr (.inl f162))), (h_na, .inl (cy_na, 8000, .inl f163)), (h_nb, .inl (cy_nb, 8000, .inl f164)), (h_nc, .inl (cy_nc, 8000, .inl f195)), (h_vrs, .inl (cy_vrs, 32, .inl f166)), (h_let, .inl (cy_let, 256, .inl f167)), (h_mm, .inr (8, (mo90 vq475 (.int z438) (.int z158) (.int z159) (.int z160)))), (h_tap, .inl (cy_tap, 600, .inl f_tap))] H := by rw [evq475]; exact hP
                  replace hD : va_D A [(h_nv, .inl (cy_nv, 8000, .inl f161)), (h_nn, .inl (cy_nn, 8000, .inr (.inl f162))), (h_na, .inl (cy_na, 8000, .inl f163)), (h_nb, .inl (cy_nb, 8000, .inl f164)), (h_nc, .inl (cy_nc, 8000, .inl f195)), (h_vrs, .inl (cy_vrs, 32, .inl f166)), (h_let, .inl (cy_let, 256, .inl f167)), (h_mm, .inr (8, (mo90 vq475 (.int z438) (.int z158) (.int z159) (.int z160)))), (h_tap, .inl (cy_tap, 600, .inl f_tap))] := by rw [evq475]; exact hD
                  have cst1 : (1 : Int32).toInt = 1 := by decide
                  have hPc := hP.sub (ws' := [(h_mm, .inr (8, (mo90 vq475 (.int z438) (.int z158) (.int z159) (.int z160))))]) [7] rfl
                  have hDc := hD.sub (ws' := [(h_mm, .inr (8, (mo90 vq475 (.int z438) (.int z158) (.int z159) (.int z160))))]) [7] (by decide) rfl
                  have hKc := hK.sub (tys' := []) [] rfl
                  have hFc := va_free (wc := [(h_mm, .inr (8, (mo90 vq475 (.int z438) (.int z158) (.int z159) (.int z160))))]) hD hS hA [7] rfl
                  refine va_callv (va_runV (As := [.int 1]) (rest := []) ⟨hx, hb, hml, hown, hts⟩ (c_X11_faulty l dC dI H.size h_mm vq475 z438 z158 z159 z160 1 (by first | exact k443 | omega) (by first | exact k173 | omega)) (cwV 1 hts (gv hT w_m_X11_111 w_instanceMethod_X11_faulty ws_sel_X11_faulty w_ini_X11 w_code_X11_faulty) rfl rfl rfl (by decide +kernel) ⟨(Nat.le_of_ble_eq_true rfl), (Nat.le_of_ble_eq_true rfl)⟩) ⟨pre_blind, va_recv hK hP (ci := 8) (q0 := 7) rfl rfl, pre_of hPc hKc hDc hN⟩ rfl rfl hl.1 rfl (lv_room (Nat.le_of_ble_eq_true rfl)) dX11_readsParts_130 ⟨(Nat.le_of_ble_eq_true rfl), (Nat.le_of_ble_eq_true rfl)⟩) hS (fun q _ h => hFc q h) hFc (fun u t H locs ht hvm hq hB hz1 hk1 hS9 => ?_)
                  obtain ⟨z477, z478, z479⟩ := u
                  obtain ⟨hP1, hD1⟩ := hB
                  rw [ht] at hP1
                  obtain ⟨hP9, hD9⟩ := va_join (wr := [(h_nv, .inl (cy_nv, 8000, .inl f161)), (h_nn, .inl (cy_nn, 8000, .inr (.inl f162))), (h_na, .inl (cy_na, 8000, .inl f163)), (h_nb, .inl (cy_nb, 8000, .inl f164)), (h_nc, .inl (cy_nc, 8000, .inl f195)), (h_vrs, .inl (cy_vrs, 32, .inl f166)), (h_let, .inl (cy_let, 256, .inl f167)), (h_tap, .inl (cy_tap, 600, .inl f_tap))]) (w1 := [(h_mm, .inr (8, (mo90 vq475 (.int z438) (.int z477) (.int z478) (.int z479))))]) hP hD [7] [0, 1, 2, 3, 4, 5, 6, 8] rfl rfl (by decide) (by decide) hk1 hFc hP1 hD1
                  clear hP hD hS hPc hDc hKc hFc hP1 hD1 hk1 hz1 ht hvm
                  have hP : va_P (dC, dI) cls [(h_nv, .inl (cy_nv, 8000, .inl f161)), (h_nn, .inl (cy_nn, 8000, .inr (.inl f162))), (h_na, .inl (cy_na, 8000, .inl f163)), (h_nb, .inl (cy_nb, 8000, .inl f164)), (h_nc, .inl (cy_nc, 8000, .inl f195)), (h_vrs, .inl (cy_vrs, 32, .inl f166)), (h_let, .inl (cy_let, 256, .inl f167)), (h_tap, .inl (cy_tap, 600, .inl f_tap)), (h_mm, .inr (8, (mo90 vq475 (.int z438) (.int z477) (.int z478) (.int z479))))] H := hP9
                  have hD : va_D A [(h_nv, .inl (cy_nv, 8000, .inl f161)), (h_nn, .inl (cy_nn, 8000, .inr (.inl f162))), (h_na, .inl (cy_na, 8000, .inl f163)), (h_nb, .inl (cy_nb, 8000, .inl f164)), (h_nc, .inl (cy_nc, 8000, .inl f195)), (h_vrs, .inl (cy_vrs, 32, .inl f166)), (h_let, .inl (cy_let, 256, .inl f167)), (h_tap, .inl (cy_tap, 600, .inl f_tap)), (h_mm, .inr (8, (mo90 vq475 (.int z438) (.int z477) (.int z478) (.int z479))))] := hD9
                  have hS := hS9
                  clear hP9 hD9 hS9
                  rw [evq475] at hP hD
                  replace hP : va_P (dC, dI) cls [(h_nv, .inl (cy_nv, 8000, .inl f161)), (h_nn, .inl (cy_nn, 8000, .inr (.inl f162))), (h_na, .inl (cy_na, 8000, .inl f163)), (h_nb, .inl (cy_nb, 8000, .inl f164)), (h_nc, .inl (cy_nc, 8000, .inl f195)), (h_vrs, .inl (cy_vrs, 32, .inl f166)), (h_let, .inl (cy_let, 256, .inl f167)), (h_tap, .inl (cy_tap, 600, .inl f_tap)), (h_mm, .inr (8, (mo126 v_mm (.ref h_nv) (.ref h_nn) (.ref h_na) (.ref h_nb) (.ref h_nc) (.int z152) (.ref h_vrs) (.ref h_let) (.ref h_tap) (.int x_mm_taped) (.int z437) (.int z438) (.int z439) (.int z440) (.long z441) (.int z477) (.int z478) (.int z479) (.int 1) (.int x_mm_reading))))] H := hP
                  replace hD : va_D A [(h_nv, .inl (cy_nv, 8000, .inl f161)), (h_nn, .inl (cy_nn, 8000, .inr (.inl f162))), (h_na, .inl (cy_na, 8000, .inl f163)), (h_nb, .inl (cy_nb, 8000, .inl f164)), (h_nc, .inl (cy_nc, 8000, .inl f195)), (h_vrs, .inl (cy_vrs, 32, .inl f166)), (h_let, .inl (cy_let, 256, .inl f167)), (h_tap, .inl (cy_tap, 600, .inl f_tap)), (h_mm, .inr (8, (mo126 v_mm (.ref h_nv) (.ref h_nn) (.ref h_na) (.ref h_nb) (.ref h_nc) (.int z152) (.ref h_vrs) (.ref h_let) (.ref h_tap) (.int x_mm_taped) (.int z437) (.int z438) (.int z439) (.int z440) (.long z441) (.int z477) (.int z478) (.int z479) (.int 1) (.int x_mm_reading))))] := hD
                  clear evq475 
                  obtain ⟨k480, k481, k482⟩ := hq
                  replace k480 : 0 ≤ ((z477)).toInt ∧ ((z477)).toInt ≤ 1 := k480
                  replace k481 : ((z477)).toInt = 1 := k481
                  replace k482 : (((z158)).toInt = 1 ∧ ((z478)).toInt = ((z159)).toInt ∧ ((z479)).toInt = ((z160)).toInt) ∨ (((z158)).toInt = 0 ∧ ((z478)).toInt = ((1 : Int32)).toInt ∧ ((z479)).toInt = ((z438)).toInt) := k482
                  refine lv_aload_n hx hb dX11_readsParts_133 rfl (lv_at hl 0 rfl) ?_
                  refine lv_aload_n hx hb dX11_readsParts_134 rfl (lv_at hl 0 rfl) ?_
                  refine va_get (D := (dC, dI)) (ci := 8) (v := .int 1) (C := RX11) (T := TX11) (N := 71) hx hb hw iwX11 hown hK hP 8 rfl rfl 23 (by decide) (hw _ w_f_X11_130) (fun _ h9 => h9) rfl dX11_readsParts_135 ?_
                  refine lv_iconst (v := 1) hx hb dX11_readsParts_138 (by decide) ?_
                  refine lv_isub hx hb dX11_readsParts_139 ?_
                  refine lv_topi (fun z483 ez483 => ?_)
                  obtain rfl : z483 = 0 := ez483.trans (by decide)
                  refine va_put (D := (dC, dI)) (ci := 8) (v := .int 0) (ty := tyX11 23) (C := RX11) (T := TX11) (N := 71) hx hb hw iwX11 tyX11 tyX11_ok nmX11 hown hK hP hD hS 8 rfl rfl 23 (by decide) (hw _ w_f_X11_130) (fun _ h9 => h9) rfl (tyX11_ok 23 (by decide)) rfl rfl (Nat.le_of_ble_eq_true rfl) dX11_readsParts_140 (fun H locs hP9 hD9 hS9 => ?_)
                  clear hP hD hS
                  have hP : va_P (dC, dI) cls [(h_nv, .inl (cy_nv, 8000, .inl f161)), (h_nn, .inl (cy_nn, 8000, .inr (.inl f162))), (h_na, .inl (cy_na, 8000, .inl f163)), (h_nb, .inl (cy_nb, 8000, .inl f164)), (h_nc, .inl (cy_nc, 8000, .inl f195)), (h_vrs, .inl (cy_vrs, 32, .inl f166)), (h_let, .inl (cy_let, 256, .inl f167)), (h_tap, .inl (cy_tap, 600, .inl f_tap)), (h_mm, .inr (8, (mo126 v_mm (.ref h_nv) (.ref h_nn) (.ref h_na) (.ref h_nb) (.ref h_nc) (.int z152) (.ref h_vrs) (.ref h_let) (.ref h_tap) (.int x_mm_taped) (.int z437) (.int z438) (.int z439) (.int z440) (.long z441) (.int z477) (.int z478) (.int z479) (.int 0) (.int x_mm_reading))))] H := hP9
                  have hD : va_D A [(h_nv, .inl (cy_nv, 8000, .inl f161)), (h_nn, .inl (cy_nn, 8000, .inr (.inl f162))), (h_na, .inl (cy_na, 8000, .inl f163)), (h_nb, .inl (cy_nb, 8000, .inl f164)), (h_nc, .inl (cy_nc, 8000, .inl f195)), (h_vrs, .inl (cy_vrs, 32, .inl f166)), (h_let, .inl (cy_let, 256, .inl f167)), (h_tap, .inl (cy_tap, 600, .inl f_tap)), (h_mm, .inr (8, (mo126 v_mm (.ref h_nv) (.ref h_nn) (.ref h_na) (.ref h_nb) (.ref h_nc) (.int z152) (.ref h_vrs) (.ref h_let) (.ref h_tap) (.int x_mm_taped) (.int z437) (.int z438) (.int z439) (.int z440) (.long z441) (.int z477) (.int z478) (.int z479) (.int 0) (.int x_mm_reading))))] := hD9
                  have hS := hS9
                  clear hP9 hD9 hS9
                  replace hP : va_P (dC, dI) cls [(h_mm, .inr (8, (mo126 v_mm (.ref h_nv) (.ref h_nn) (.ref h_na) (.ref h_nb) (.ref h_nc) (.int z152) (.ref h_vrs) (.ref h_let) (.ref h_tap) (.int x_mm_taped) (.int z437) (.int z438) (.int z439) (.int z440) (.long z441) (.int z477) (.int z478) (.int z479) (.int 0) (.int x_mm_reading)))), (h_tap, .inl (cy_tap, 600, .inl f_tap)), (h_nv, .inl (cy_nv, 8000, .inl f161)), (h_nn, .inl (cy_nn, 8000, .inr (.inl f162))), (h_na, .inl (cy_na, 8000, .inl f163)), (h_nb, .inl (cy_nb, 8000, .inl f164)), (h_nc, .inl (cy_nc, 8000, .inl f195)), (h_vrs, .inl (cy_vrs, 32, .inl f166)), (h_let, .inl (cy_let, 256, .inl f167))] H := hP.sub [8, 7, 0, 1, 2, 3, 4, 5, 6] rfl
                  replace hD : va_D A [(h_mm, .inr (8, (mo126 v_mm (.ref h_nv) (.ref h_nn) (.ref h_na) (.ref h_nb) (.ref h_nc) (.int z152) (.ref h_vrs) (.ref h_let) (.ref h_tap) (.int x_mm_taped) (.int z437) (.int z438) (.int z439) (.int z440) (.long z441) (.int z477) (.int z478) (.int z479) (.int 0) (.int x_mm_reading)))), (h_tap, .inl (cy_tap, 600, .inl f_tap)), (h_nv, .inl (cy_nv, 8000, .inl f161)), (h_nn, .inl (cy_nn, 8000, .inr (.inl f162))), (h_na, .inl (cy_na, 8000, .inl f163)), (h_nb, .inl (cy_nb, 8000, .inl f164)), (h_nc, .inl (cy_nc, 8000, .inl f195)), (h_vrs, .inl (cy_vrs, 32, .inl f166)), (h_let, .inl (cy_let, 256, .inl f167))] := hD.sub [8, 7, 0, 1, 2, 3, 4, 5, 6] (by decide) rfl
                  refine W.widen (k := 0) (n := 0) (Nat.le_of_ble_eq_true rfl) (Nat.le_of_ble_eq_true rfl) ?_
                  have w484 : 0 ≤ ((z152)).toInt ∧ ((z152)).toInt ≤ 1200 := by first | exact k169 | omega
                  have w485 : 0 ≤ ((z437)).toInt ∧ ((z437)).toInt ≤ 600 := by first | exact k442 | omega
                  have w486 : 0 ≤ ((z438)).toInt ∧ ((z438)).toInt ≤ 600 := by first | exact k443 | omega
                  have w487 : 0 ≤ ((z439)).toInt ∧ ((z439)).toInt ≤ 4 := by first | exact k444 | omega
                  have w488 : 0 ≤ ((z477)).toInt ∧ ((z477)).toInt ≤ 1 := by first | exact k480 | omega
                  have w489 : ((z438)).toInt ≤ ((z437)).toInt := by first | exact k445 | omega
                  have w490 : ((z477)).toInt = 1 ∨ ((z152)).toInt ≤ lo + ((z438)).toInt := by omega
                  have w491 : (x_mm_nodes).toInt ≤ ((z152)).toInt := by omega
                  have w492 : (x_mm_place).toInt ≤ ((z438)).toInt := by omega
                  have w493 : (x_mm_isFaulty).toInt ≤ ((z477)).toInt := by omega
                  have w494 : (((z477)).toInt = 0 ∧ ((pPs G (x_mm_taped).toInt 6 (x_mm_place).toInt nv vf)).1 = 0 ∧ ((z478)).toInt = (x_mm_fault).toInt ∧ ((z479)).toInt = (x_mm_faultPlace).toInt) ∨ (((z477)).toInt = 1 ∧ ¬ ((pPs G (x_mm_taped).toInt 6 (x_mm_place).toInt nv vf)).1 = 0 ∧ ((z478)).toInt = ((pPs G (x_mm_taped).toInt 6 (x_mm_place).toInt nv vf)).1 ∧ ((z479)).toInt = ((pPs G (x_mm_taped).toInt 6 (x_mm_place).toInt nv vf)).2.1) := by omega
                  have w495 : ((z438)).toInt = ((pPs G (x_mm_taped).toInt 6 (x_mm_place).toInt nv vf)).2.1 := by omega
                  have w496 : 0 ≤ ((pPs G (x_mm_taped).toInt 6 (x_mm_place).toInt nv vf)).2.2.1 ∧ ((pPs G (x_mm_taped).toInt 6 (x_mm_place).toInt nv vf)).2.2.1 ≤ 8 := by omega
                  have w497 : ((z439)).toInt = kd (tkT G (x_mm_taped).toInt ((z438)).toInt) := by first | exact k446 | omega
                  have w498 : ((z439)).toInt = 0 ∨ (((z437)).toInt = tkX G (x_mm_taped).toInt ((z438)).toInt ∧ ((z440)).toInt = G ((z438)).toInt ∧ ((z438)).toInt < (x_mm_taped).toInt ∧ ((z438)).toInt + 1 ≤ ((z437)).toInt) := by first | exact k447 | omega
                  have w499 : ((z437)).toInt ≤ (x_mm_taped).toInt := by first | exact k448 | omega
                  have w500 : ((z438)).toInt ≤ (x_mm_taped).toInt := by first | exact k449 | omega
                  have w501 : EQ0 lo za zb zc zv (f163) (f164) (f195) (f161) := nd197
                  have w502 : ND lo ((z152)).toInt (gh168) (f163) (f164) (f195) := (nd_cast nd196 (by omega))
                  have w503 : ∀ y : Nat, (y : Int) < (x_mm_nodes).toInt → (gh168) y = hh y := (fun y hy => (k190 y (by omega)).trans ((k126 y (by omega)).trans ((k62 y (by omega)).trans (rfl))))
                  have w504 : ((f166) (Int32.toNatClampNeg x_mm_reading)).toInt = ((pPs G (x_mm_taped).toInt 6 (x_mm_place).toInt nv vf)).2.2.1 := (k191.trans pq4743.symm)
                  have w505 : VFM ((pPs G (x_mm_taped).toInt 6 (x_mm_place).toInt nv vf)).2.2.1 ((pPs G (x_mm_taped).toInt 6 (x_mm_place).toInt nv vf)).2.2.2 (f167) (x_mm_reading).toInt := (by rw [pq4743, pq4744]; exact k192)
                  exact W.vret hx hb hr (fun t ht hW => ⟨⟨(z152, z437, z438, z439, z440, z441, z477, z478, z479, f161, f162, f163, f164, f195, f166, f167, gh168), rfl, ⟨w484, w485, w486, w487, w488, hf161, hf163, hf164, hf195, hf166, w489, w490, w491, w492, w493, w494, w495, w496, w497, w498, w499, w500, w501, w502, w503, w504, w505⟩, by rw [ht]; exact hP, hD⟩, hS.F ht⟩) hS.2.2 dX11_readsParts_143
            · clear k176
              refine va_iast hx hb hK hP hD hS 6 5 rfl rfl (i := p1) (x := r151) (vp_in_iff.mpr (by omega)) dX11_readsParts_93 (fun H locs hP9 hD9 hS9 => ?_)
              obtain ⟨f506, ef506⟩ : ∃ g : Nat → Int32, g = upd f165 (Int32.toNatClampNeg p1) r151 := ⟨_, rfl⟩
              clear hP hD hS
              have hP : va_P (dC, dI) cls [(h_mm, .inr (8, (mo126 v_mm (.ref h_nv) (.ref h_nn) (.ref h_na) (.ref h_nb) (.ref h_nc) (.int z152) (.ref h_vrs) (.ref h_let) (.ref h_tap) (.int x_mm_taped) (.int z153) (.int z154) (.int z155) (.int z156) (.long z157) (.int z158) (.int z159) (.int z160) (.int 1) (.int x_mm_reading)))), (h_tap, .inl (cy_tap, 600, .inl f_tap)), (h_nv, .inl (cy_nv, 8000, .inl f161)), (h_nn, .inl (cy_nn, 8000, .inr (.inl f162))), (h_na, .inl (cy_na, 8000, .inl f163)), (h_nb, .inl (cy_nb, 8000, .inl f164)), (h_nc, .inl (cy_nc, 8000, .inl f506)), (h_vrs, .inl (cy_vrs, 32, .inl f166)), (h_let, .inl (cy_let, 256, .inl f167))] H := by rw [ef506]; exact hP9
              have hD : va_D A [(h_mm, .inr (8, (mo126 v_mm (.ref h_nv) (.ref h_nn) (.ref h_na) (.ref h_nb) (.ref h_nc) (.int z152) (.ref h_vrs) (.ref h_let) (.ref h_tap) (.int x_mm_taped) (.int z153) (.int z154) (.int z155) (.int z156) (.long z157) (.int z158) (.int z159) (.int z160) (.int 1) (.int x_mm_reading)))), (h_tap, .inl (cy_tap, 600, .inl f_tap)), (h_nv, .inl (cy_nv, 8000, .inl f161)), (h_nn, .inl (cy_nn, 8000, .inr (.inl f162))), (h_na, .inl (cy_na, 8000, .inl f163)), (h_nb, .inl (cy_nb, 8000, .inl f164)), (h_nc, .inl (cy_nc, 8000, .inl f506)), (h_vrs, .inl (cy_vrs, 32, .inl f166)), (h_let, .inl (cy_let, 256, .inl f167))] := by rw [ef506]; exact hD9
              have hS := hS9
              clear hP9 hD9 hS9
              have hf506 : Rg (-1) 7999 f506 := by rw [ef506]; exact rg_upd hf165 (by omega)
              have nd507 : ND lo (z152).toInt gh168 f163 f164 f506 := by rw [ef506]; exact nd_setC (n := (z152).toInt) (nd_cast k189 (by omega)) (by omega) (by unfold NDk; omega)
              have nd508 : EQ0 lo za zb zc zv f163 f164 f506 f161 := by rw [ef506]; exact eq0_C k188 (by omega) (by omega)
              clear k180
              clear ef506
              refine lv_aload_n hx hb dX11_readsParts_94 rfl (lv_at hl 0 rfl) ?_
              refine lv_bipush (v := 44) hx hb dX11_readsParts_95 (by decide) ?_
              obtain ⟨vq509, evq509⟩ := mq126_92 v_mm (.ref h_nv) (.ref h_nn) (.ref h_na) (.ref h_nb) (.ref h_nc) (.int z152) (.ref h_vrs) (.ref h_let) (.int z159) (.int z160) (.int 1) (.int x_mm_reading)
              replace hP : va_P (dC, dI) cls [(h_mm, .inr (8, (mo92 vq509 (.ref h_tap) (.int x_mm_taped) (.int z153) (.int z154) (.int z155) (.int z156) (.long z157) (.int z158)))), (h_tap, .inl (cy_tap, 600, .inl f_tap)), (h_nv, .inl (cy_nv, 8000, .inl f161)), (h_nn, .inl (cy_nn, 8000, .inr (.inl f162))), (h_na, .inl (cy_na, 8000, .inl f163)), (h_nb, .inl (cy_nb, 8000, .inl f164)), (h_nc, .inl (cy_nc, 8000, .inl f506)), (h_vrs, .inl (cy_vrs, 32, .inl f166)), (h_let, .inl (cy_let, 256, .inl f167))] H := by rw [evq509]; exact hP
              replace hD : va_D A [(h_mm, .inr (8, (mo92 vq509 (.ref h_tap) (.int x_mm_taped) (.int z153) (.int z154) (.int z155) (.int z156) (.long z157) (.int z158)))), (h_tap, .inl (cy_tap, 600, .inl f_tap)), (h_nv, .inl (cy_nv, 8000, .inl f161)), (h_nn, .inl (cy_nn, 8000, .inr (.inl f162))), (h_na, .inl (cy_na, 8000, .inl f163)), (h_nb, .inl (cy_nb, 8000, .inl f164)), (h_nc, .inl (cy_nc, 8000, .inl f506)), (h_vrs, .inl (cy_vrs, 32, .inl f166)), (h_let, .inl (cy_let, 256, .inl f167))] := by rw [evq509]; exact hD
              have cst44 : (44 : Int32).toInt = 44 := by decide
              have hPc := hP.sub (ws' := [(h_mm, .inr (8, (mo92 vq509 (.ref h_tap) (.int x_mm_taped) (.int z153) (.int z154) (.int z155) (.int z156) (.long z157) (.int z158)))), (h_tap, .inl (cy_tap, 600, .inl f_tap))]) [0, 1] rfl
              have hDc := hD.sub (ws' := [(h_mm, .inr (8, (mo92 vq509 (.ref h_tap) (.int x_mm_taped) (.int z153) (.int z154) (.int z155) (.int z156) (.long z157) (.int z158)))), (h_tap, .inl (cy_tap, 600, .inl f_tap))]) [0, 1] (by decide) rfl
              have hKc := hK.sub (tys' := [(cy_tap, .byte)]) [0] rfl
              have hFc := va_free (wc := [(h_mm, .inr (8, (mo92 vq509 (.ref h_tap) (.int x_mm_taped) (.int z153) (.int z154) (.int z155) (.int z156) (.long z157) (.int z158)))), (h_tap, .inl (cy_tap, 600, .inl f_tap))]) hD hS hA [0, 1] rfl
              refine va_calli (va_runV (As := [.int 44]) (rest := []) ⟨hx, hb, hml, hown, hts⟩ (c_X11_passes l dC dI H.size h_mm h_tap vq509 x_mm_taped z153 z154 z155 z156 z157 z158 cy_tap f_tap 44 G (by first | exact hx_mm_taped | omega) (by first | exact k170 | omega) (by first | exact k171 | omega) (by first | exact k172 | omega) (by first | exact k173 | omega) (by first | exact k175 | omega) (by omega) (by omega) (by first | exact k184 | omega) (by first | exact k185 | omega) (by first | exact k186 | omega) (by first | exact k187 | omega) hn_tapq) (cwV 1 hts (gv hT w_m_X11_136 w_instanceMethod_X11_passes ws_sel_X11_passes w_ini_X11 w_code_X11_passes) rfl rfl rfl (by decide +kernel) ⟨(Nat.le_of_ble_eq_true rfl), (Nat.le_of_ble_eq_true rfl)⟩) ⟨pre_blind, va_recv hK hP (ci := 8) (q0 := 0) rfl rfl, pre_of hPc hKc hDc hN⟩ rfl rfl hl.1 rfl (lv_room (Nat.le_of_ble_eq_true rfl)) dX11_readsParts_97 ⟨(Nat.le_of_ble_eq_true rfl), (Nat.le_of_ble_eq_true rfl)⟩) hS (fun q _ h => hFc q h) hFc (fun r510 u t H locs ht hvm hq hB hz1 hk1 hS9 => ?_)
              obtain ⟨z511, z512, z513, z514, z515⟩ := u
              obtain ⟨hP1, hD1⟩ := hB
              rw [ht] at hP1
              obtain ⟨hP9, hD9⟩ := va_join (wr := [(h_nv, .inl (cy_nv, 8000, .inl f161)), (h_nn, .inl (cy_nn, 8000, .inr (.inl f162))), (h_na, .inl (cy_na, 8000, .inl f163)), (h_nb, .inl (cy_nb, 8000, .inl f164)), (h_nc, .inl (cy_nc, 8000, .inl f506)), (h_vrs, .inl (cy_vrs, 32, .inl f166)), (h_let, .inl (cy_let, 256, .inl f167))]) (w1 := [(h_mm, .inr (8, (mo92 vq509 (.ref h_tap) (.int x_mm_taped) (.int z511) (.int z512) (.int z513) (.int z514) (.long z515) (.int z158)))), (h_tap, .inl (cy_tap, 600, .inl f_tap))]) hP hD [0, 1] [2, 3, 4, 5, 6, 7, 8] rfl rfl (by decide) (by decide) hk1 hFc hP1 hD1
              clear hP hD hS hPc hDc hKc hFc hP1 hD1 hk1 hz1 ht hvm
              have hP : va_P (dC, dI) cls [(h_nv, .inl (cy_nv, 8000, .inl f161)), (h_nn, .inl (cy_nn, 8000, .inr (.inl f162))), (h_na, .inl (cy_na, 8000, .inl f163)), (h_nb, .inl (cy_nb, 8000, .inl f164)), (h_nc, .inl (cy_nc, 8000, .inl f506)), (h_vrs, .inl (cy_vrs, 32, .inl f166)), (h_let, .inl (cy_let, 256, .inl f167)), (h_mm, .inr (8, (mo92 vq509 (.ref h_tap) (.int x_mm_taped) (.int z511) (.int z512) (.int z513) (.int z514) (.long z515) (.int z158)))), (h_tap, .inl (cy_tap, 600, .inl f_tap))] H := hP9
              have hD : va_D A [(h_nv, .inl (cy_nv, 8000, .inl f161)), (h_nn, .inl (cy_nn, 8000, .inr (.inl f162))), (h_na, .inl (cy_na, 8000, .inl f163)), (h_nb, .inl (cy_nb, 8000, .inl f164)), (h_nc, .inl (cy_nc, 8000, .inl f506)), (h_vrs, .inl (cy_vrs, 32, .inl f166)), (h_let, .inl (cy_let, 256, .inl f167)), (h_mm, .inr (8, (mo92 vq509 (.ref h_tap) (.int x_mm_taped) (.int z511) (.int z512) (.int z513) (.int z514) (.long z515) (.int z158)))), (h_tap, .inl (cy_tap, 600, .inl f_tap))] := hD9
              have hS := hS9
              clear hP9 hD9 hS9
              rw [evq509] at hP hD
              replace hP : va_P (dC, dI) cls [(h_nv, .inl (cy_nv, 8000, .inl f161)), (h_nn, .inl (cy_nn, 8000, .inr (.inl f162))), (h_na, .inl (cy_na, 8000, .inl f163)), (h_nb, .inl (cy_nb, 8000, .inl f164)), (h_nc, .inl (cy_nc, 8000, .inl f506)), (h_vrs, .inl (cy_vrs, 32, .inl f166)), (h_let, .inl (cy_let, 256, .inl f167)), (h_mm, .inr (8, (mo126 v_mm (.ref h_nv) (.ref h_nn) (.ref h_na) (.ref h_nb) (.ref h_nc) (.int z152) (.ref h_vrs) (.ref h_let) (.ref h_tap) (.int x_mm_taped) (.int z511) (.int z512) (.int z513) (.int z514) (.long z515) (.int z158) (.int z159) (.int z160) (.int 1) (.int x_mm_reading)))), (h_tap, .inl (cy_tap, 600, .inl f_tap))] H := hP
              replace hD : va_D A [(h_nv, .inl (cy_nv, 8000, .inl f161)), (h_nn, .inl (cy_nn, 8000, .inr (.inl f162))), (h_na, .inl (cy_na, 8000, .inl f163)), (h_nb, .inl (cy_nb, 8000, .inl f164)), (h_nc, .inl (cy_nc, 8000, .inl f506)), (h_vrs, .inl (cy_vrs, 32, .inl f166)), (h_let, .inl (cy_let, 256, .inl f167)), (h_mm, .inr (8, (mo126 v_mm (.ref h_nv) (.ref h_nn) (.ref h_na) (.ref h_nb) (.ref h_nc) (.int z152) (.ref h_vrs) (.ref h_let) (.ref h_tap) (.int x_mm_taped) (.int z511) (.int z512) (.int z513) (.int z514) (.long z515) (.int z158) (.int z159) (.int z160) (.int 1) (.int x_mm_reading)))), (h_tap, .inl (cy_tap, 600, .inl f_tap))] := hD
              clear evq509 
              obtain ⟨k516, k517, k518, k519, k520, k521, k522, k523, hq⟩ := hq
              replace k516 : 0 ≤ ((z511)).toInt ∧ ((z511)).toInt ≤ 600 := k516
              replace k517 : 0 ≤ ((z512)).toInt ∧ ((z512)).toInt ≤ 600 := k517
              replace k518 : 0 ≤ ((z513)).toInt ∧ ((z513)).toInt ≤ 4 := k518
              replace k519 : ((z512)).toInt ≤ ((z511)).toInt := k519
              replace k520 : ((z513)).toInt = kd (tkT (G) ((x_mm_taped)).toInt ((z512)).toInt) := k520
              replace k521 : ((z513)).toInt = 0 ∨ (((z511)).toInt = tkX (G) ((x_mm_taped)).toInt ((z512)).toInt ∧ ((z514)).toInt = (G) ((z512)).toInt ∧ ((z512)).toInt < ((x_mm_taped)).toInt ∧ ((z512)).toInt + 1 ≤ ((z511)).toInt) := k521
              replace k522 : ((z511)).toInt ≤ ((x_mm_taped)).toInt := k522
              replace k523 : ((z512)).toInt ≤ ((x_mm_taped)).toInt := k523
              rcases hq with ⟨rfl, hq⟩ | ⟨rfl, hq⟩ | ⟨rfl, hq⟩
              · replace hq : (((z158)).toInt = 0) ∧ (tkT (G) ((x_mm_taped)).toInt ((z154)).toInt = ((44 : Int32)).toInt) ∧ (((z512)).toInt = tkN (G) ((x_mm_taped)).toInt ((z154)).toInt) ∧ (((z153)).toInt ≤ ((z512)).toInt) ∧ (((z154)).toInt + 1 ≤ ((z512)).toInt) := hq
                exact False.elim (by omega)
              · replace hq : (((z512)).toInt = ((z154)).toInt) ∧ (((z511)).toInt = ((z153)).toInt) ∧ (((z513)).toInt = ((z155)).toInt) ∧ (((z158)).toInt = 1) := hq
                clear k185
                have no9 := pLo_no (G := G) (n := (x_mm_taped).toInt) (P := (pPs G (x_mm_taped).toInt 5)) (r := 0) (q := (z90).toInt) (nv := (rh129).2.2.1) (vf := (rh129).2.2.2) (by rw [← erh193]; omega)
                rw [← erh193] at no9
                have rq9 : (pPs G (x_mm_taped).toInt 6 (x_mm_place).toInt nv vf) = rh193 := lo149.symm.trans no9
                have pq5241 : ((pPs G (x_mm_taped).toInt 6 (x_mm_place).toInt nv vf)).1 = (rh193).1 := by rw [rq9]
                have pq5242 : ((pPs G (x_mm_taped).toInt 6 (x_mm_place).toInt nv vf)).2.1 = (rh193).2.1 := by rw [rq9]
                have pq5243 : ((pPs G (x_mm_taped).toInt 6 (x_mm_place).toInt nv vf)).2.2.1 = (rh193).2.2.1 := by rw [rq9]
                have pq5244 : ((pPs G (x_mm_taped).toInt 6 (x_mm_place).toInt nv vf)).2.2.2 = (rh193).2.2.2 := by rw [rq9]
                refine lv_if_eq (tgt := 119) hx hb dX11_readsParts_100 (by decide) (fun _ => ?_) (fun c9 => absurd c9 (by decide))
                refine lv_aload_n hx hb dX11_readsParts_119 rfl (lv_at hl 0 rfl) ?_
                refine lv_bipush (v := 41) hx hb dX11_readsParts_120 (by decide) ?_
                obtain ⟨vq525, evq525⟩ := mq126_92 v_mm (.ref h_nv) (.ref h_nn) (.ref h_na) (.ref h_nb) (.ref h_nc) (.int z152) (.ref h_vrs) (.ref h_let) (.int z159) (.int z160) (.int 1) (.int x_mm_reading)
                replace hP : va_P (dC, dI) cls [(h_nv, .inl (cy_nv, 8000, .inl f161)), (h_nn, .inl (cy_nn, 8000, .inr (.inl f162))), (h_na, .inl (cy_na, 8000, .inl f163)), (h_nb, .inl (cy_nb, 8000, .inl f164)), (h_nc, .inl (cy_nc, 8000, .inl f506)), (h_vrs, .inl (cy_vrs, 32, .inl f166)), (h_let, .inl (cy_let, 256, .inl f167)), (h_mm, .inr (8, (mo92 vq525 (.ref h_tap) (.int x_mm_taped) (.int z511) (.int z512) (.int z513) (.int z514) (.long z515) (.int z158)))), (h_tap, .inl (cy_tap, 600, .inl f_tap))] H := by rw [evq525]; exact hP
                replace hD : va_D A [(h_nv, .inl (cy_nv, 8000, .inl f161)), (h_nn, .inl (cy_nn, 8000, .inr (.inl f162))), (h_na, .inl (cy_na, 8000, .inl f163)), (h_nb, .inl (cy_nb, 8000, .inl f164)), (h_nc, .inl (cy_nc, 8000, .inl f506)), (h_vrs, .inl (cy_vrs, 32, .inl f166)), (h_let, .inl (cy_let, 256, .inl f167)), (h_mm, .inr (8, (mo92 vq525 (.ref h_tap) (.int x_mm_taped) (.int z511) (.int z512) (.int z513) (.int z514) (.long z515) (.int z158)))), (h_tap, .inl (cy_tap, 600, .inl f_tap))] := by rw [evq525]; exact hD
                have cst41 : (41 : Int32).toInt = 41 := by decide
                have hPc := hP.sub (ws' := [(h_mm, .inr (8, (mo92 vq525 (.ref h_tap) (.int x_mm_taped) (.int z511) (.int z512) (.int z513) (.int z514) (.long z515) (.int z158)))), (h_tap, .inl (cy_tap, 600, .inl f_tap))]) [7, 8] rfl
                have hDc := hD.sub (ws' := [(h_mm, .inr (8, (mo92 vq525 (.ref h_tap) (.int x_mm_taped) (.int z511) (.int z512) (.int z513) (.int z514) (.long z515) (.int z158)))), (h_tap, .inl (cy_tap, 600, .inl f_tap))]) [7, 8] (by decide) rfl
                have hKc := hK.sub (tys' := [(cy_tap, .byte)]) [0] rfl
                have hFc := va_free (wc := [(h_mm, .inr (8, (mo92 vq525 (.ref h_tap) (.int x_mm_taped) (.int z511) (.int z512) (.int z513) (.int z514) (.long z515) (.int z158)))), (h_tap, .inl (cy_tap, 600, .inl f_tap))]) hD hS hA [7, 8] rfl
                refine va_calli (va_runV (As := [.int 41]) (rest := []) ⟨hx, hb, hml, hown, hts⟩ (c_X11_passes l dC dI H.size h_mm h_tap vq525 x_mm_taped z511 z512 z513 z514 z515 z158 cy_tap f_tap 41 G (by first | exact hx_mm_taped | omega) (by first | exact k516 | omega) (by first | exact k517 | omega) (by first | exact k518 | omega) (by first | exact k173 | omega) (by first | exact k519 | omega) (by omega) (by omega) (by first | exact k520 | omega) (by first | exact k521 | omega) (by first | exact k522 | omega) (by first | exact k523 | omega) hn_tapq) (cwV 1 hts (gv hT w_m_X11_136 w_instanceMethod_X11_passes ws_sel_X11_passes w_ini_X11 w_code_X11_passes) rfl rfl rfl (by decide +kernel) ⟨(Nat.le_of_ble_eq_true rfl), (Nat.le_of_ble_eq_true rfl)⟩) ⟨pre_blind, va_recv hK hP (ci := 8) (q0 := 7) rfl rfl, pre_of hPc hKc hDc hN⟩ rfl rfl hl.1 rfl (lv_room (Nat.le_of_ble_eq_true rfl)) dX11_readsParts_122 ⟨(Nat.le_of_ble_eq_true rfl), (Nat.le_of_ble_eq_true rfl)⟩) hS (fun q _ h => hFc q h) hFc (fun r526 u t H locs ht hvm hq hB hz1 hk1 hS9 => ?_)
                obtain ⟨z527, z528, z529, z530, z531⟩ := u
                obtain ⟨hP1, hD1⟩ := hB
                rw [ht] at hP1
                obtain ⟨hP9, hD9⟩ := va_join (wr := [(h_nv, .inl (cy_nv, 8000, .inl f161)), (h_nn, .inl (cy_nn, 8000, .inr (.inl f162))), (h_na, .inl (cy_na, 8000, .inl f163)), (h_nb, .inl (cy_nb, 8000, .inl f164)), (h_nc, .inl (cy_nc, 8000, .inl f506)), (h_vrs, .inl (cy_vrs, 32, .inl f166)), (h_let, .inl (cy_let, 256, .inl f167))]) (w1 := [(h_mm, .inr (8, (mo92 vq525 (.ref h_tap) (.int x_mm_taped) (.int z527) (.int z528) (.int z529) (.int z530) (.long z531) (.int z158)))), (h_tap, .inl (cy_tap, 600, .inl f_tap))]) hP hD [7, 8] [0, 1, 2, 3, 4, 5, 6] rfl rfl (by decide) (by decide) hk1 hFc hP1 hD1
                clear hP hD hS hPc hDc hKc hFc hP1 hD1 hk1 hz1 ht hvm
                have hP : va_P (dC, dI) cls [(h_nv, .inl (cy_nv, 8000, .inl f161)), (h_nn, .inl (cy_nn, 8000, .inr (.inl f162))), (h_na, .inl (cy_na, 8000, .inl f163)), (h_nb, .inl (cy_nb, 8000, .inl f164)), (h_nc, .inl (cy_nc, 8000, .inl f506)), (h_vrs, .inl (cy_vrs, 32, .inl f166)), (h_let, .inl (cy_let, 256, .inl f167)), (h_mm, .inr (8, (mo92 vq525 (.ref h_tap) (.int x_mm_taped) (.int z527) (.int z528) (.int z529) (.int z530) (.long z531) (.int z158)))), (h_tap, .inl (cy_tap, 600, .inl f_tap))] H := hP9
                have hD : va_D A [(h_nv, .inl (cy_nv, 8000, .inl f161)), (h_nn, .inl (cy_nn, 8000, .inr (.inl f162))), (h_na, .inl (cy_na, 8000, .inl f163)), (h_nb, .inl (cy_nb, 8000, .inl f164)), (h_nc, .inl (cy_nc, 8000, .inl f506)), (h_vrs, .inl (cy_vrs, 32, .inl f166)), (h_let, .inl (cy_let, 256, .inl f167)), (h_mm, .inr (8, (mo92 vq525 (.ref h_tap) (.int x_mm_taped) (.int z527) (.int z528) (.int z529) (.int z530) (.long z531) (.int z158)))), (h_tap, .inl (cy_tap, 600, .inl f_tap))] := hD9
                have hS := hS9
                clear hP9 hD9 hS9
                rw [evq525] at hP hD
                replace hP : va_P (dC, dI) cls [(h_nv, .inl (cy_nv, 8000, .inl f161)), (h_nn, .inl (cy_nn, 8000, .inr (.inl f162))), (h_na, .inl (cy_na, 8000, .inl f163)), (h_nb, .inl (cy_nb, 8000, .inl f164)), (h_nc, .inl (cy_nc, 8000, .inl f506)), (h_vrs, .inl (cy_vrs, 32, .inl f166)), (h_let, .inl (cy_let, 256, .inl f167)), (h_mm, .inr (8, (mo126 v_mm (.ref h_nv) (.ref h_nn) (.ref h_na) (.ref h_nb) (.ref h_nc) (.int z152) (.ref h_vrs) (.ref h_let) (.ref h_tap) (.int x_mm_taped) (.int z527) (.int z528) (.int z529) (.int z530) (.long z531) (.int z158) (.int z159) (.int z160) (.int 1) (.int x_mm_reading)))), (h_tap, .inl (cy_tap, 600, .inl f_tap))] H := hP
                replace hD : va_D A [(h_nv, .inl (cy_nv, 8000, .inl f161)), (h_nn, .inl (cy_nn, 8000, .inr (.inl f162))), (h_na, .inl (cy_na, 8000, .inl f163)), (h_nb, .inl (cy_nb, 8000, .inl f164)), (h_nc, .inl (cy_nc, 8000, .inl f506)), (h_vrs, .inl (cy_vrs, 32, .inl f166)), (h_let, .inl (cy_let, 256, .inl f167)), (h_mm, .inr (8, (mo126 v_mm (.ref h_nv) (.ref h_nn) (.ref h_na) (.ref h_nb) (.ref h_nc) (.int z152) (.ref h_vrs) (.ref h_let) (.ref h_tap) (.int x_mm_taped) (.int z527) (.int z528) (.int z529) (.int z530) (.long z531) (.int z158) (.int z159) (.int z160) (.int 1) (.int x_mm_reading)))), (h_tap, .inl (cy_tap, 600, .inl f_tap))] := hD
                clear evq525 
                obtain ⟨k532, k533, k534, k535, k536, k537, k538, k539, hq⟩ := hq
                replace k532 : 0 ≤ ((z527)).toInt ∧ ((z527)).toInt ≤ 600 := k532
                replace k533 : 0 ≤ ((z528)).toInt ∧ ((z528)).toInt ≤ 600 := k533
                replace k534 : 0 ≤ ((z529)).toInt ∧ ((z529)).toInt ≤ 4 := k534
                replace k535 : ((z528)).toInt ≤ ((z527)).toInt := k535
                replace k536 : ((z529)).toInt = kd (tkT (G) ((x_mm_taped)).toInt ((z528)).toInt) := k536
                replace k537 : ((z529)).toInt = 0 ∨ (((z527)).toInt = tkX (G) ((x_mm_taped)).toInt ((z528)).toInt ∧ ((z530)).toInt = (G) ((z528)).toInt ∧ ((z528)).toInt < ((x_mm_taped)).toInt ∧ ((z528)).toInt + 1 ≤ ((z527)).toInt) := k537
                replace k538 : ((z527)).toInt ≤ ((x_mm_taped)).toInt := k538
                replace k539 : ((z528)).toInt ≤ ((x_mm_taped)).toInt := k539
                rcases hq with ⟨rfl, hq⟩ | ⟨rfl, hq⟩ | ⟨rfl, hq⟩
                · replace hq : (((z158)).toInt = 0) ∧ (tkT (G) ((x_mm_taped)).toInt ((z512)).toInt = ((41 : Int32)).toInt) ∧ (((z528)).toInt = tkN (G) ((x_mm_taped)).toInt ((z512)).toInt) ∧ (((z511)).toInt ≤ ((z528)).toInt) ∧ (((z512)).toInt + 1 ≤ ((z528)).toInt) := hq
                  exact False.elim (by omega)
                · replace hq : (((z528)).toInt = ((z512)).toInt) ∧ (((z527)).toInt = ((z511)).toInt) ∧ (((z529)).toInt = ((z513)).toInt) ∧ (((z158)).toInt = 1) := hq
                  refine lv_if_ne (tgt := 133) hx hb dX11_readsParts_125 (by decide) (fun c9 => absurd c9 (by decide)) (fun _ => ?_)
                  refine lv_aload_n hx hb dX11_readsParts_128 rfl (lv_at hl 0 rfl) ?_
                  refine lv_iconst (v := 1) hx hb dX11_readsParts_129 (by decide) ?_
                  obtain ⟨vq540, evq540⟩ := mq126_90 v_mm (.ref h_nv) (.ref h_nn) (.ref h_na) (.ref h_nb) (.ref h_nc) (.int z152) (.ref h_vrs) (.ref h_let) (.ref h_tap) (.int x_mm_taped) (.int z527) (.int z529) (.int z530) (.long z531) (.int 1) (.int x_mm_reading)
                  replace hP : va_P (dC, dI) cls [(h_nv, .inl (cy_nv, 8000, .inl f161)), (h_nn, .inl (cy_nn, 8000, .inr (.inl f162))), (h_na, .inl (cy_na, 8000, .inl f163)), (h_nb, .inl (cy_nb, 8000, .inl f164)), (h_nc, .inl (cy_nc, 8000, .inl f506)), (h_vrs, .inl (cy_vrs, 32, .inl f166)), (h_let, .inl (cy_let, 256, .inl f167)), (h_mm, .inr (8, (mo90 vq540 (.int z528) (.int z158) (.int z159) (.int z160)))), (h_tap, .inl (cy_tap, 600, .inl f_tap))] H := by rw [evq540]; exact hP
                  replace hD : va_D A [(h_nv, .inl (cy_nv, 8000, .inl f161)), (h_nn, .inl (cy_nn, 8000, .inr (.inl f162))), (h_na, .inl (cy_na, 8000, .inl f163)), (h_nb, .inl (cy_nb, 8000, .inl f164)), (h_nc, .inl (cy_nc, 8000, .inl f506)), (h_vrs, .inl (cy_vrs, 32, .inl f166)), (h_let, .inl (cy_let, 256, .inl f167)), (h_mm, .inr (8, (mo90 vq540 (.int z528) (.int z158) (.int z159) (.int z160)))), (h_tap, .inl (cy_tap, 600, .inl f_tap))] := by rw [evq540]; exact hD
                  have cst1 : (1 : Int32).toInt = 1 := by decide
                  have hPc := hP.sub (ws' := [(h_mm, .inr (8, (mo90 vq540 (.int z528) (.int z158) (.int z159) (.int z160))))]) [7] rfl
                  have hDc := hD.sub (ws' := [(h_mm, .inr (8, (mo90 vq540 (.int z528) (.int z158) (.int z159) (.int z160))))]) [7] (by decide) rfl
                  have hKc := hK.sub (tys' := []) [] rfl
                  have hFc := va_free (wc := [(h_mm, .inr (8, (mo90 vq540 (.int z528) (.int z158) (.int z159) (.int z160))))]) hD hS hA [7] rfl
                  refine va_callv (va_runV (As := [.int 1]) (rest := []) ⟨hx, hb, hml, hown, hts⟩ (c_X11_faulty l dC dI H.size h_mm vq540 z528 z158 z159 z160 1 (by first | exact k533 | omega) (by first | exact k173 | omega)) (cwV 1 hts (gv hT w_m_X11_111 w_instanceMethod_X11_faulty ws_sel_X11_faulty w_ini_X11 w_code_X11_faulty) rfl rfl rfl (by decide +kernel) ⟨(Nat.le_of_ble_eq_true rfl), (Nat.le_of_ble_eq_true rfl)⟩) ⟨pre_blind, va_recv hK hP (ci := 8) (q0 := 7) rfl rfl, pre_of hPc hKc hDc hN⟩ rfl rfl hl.1 rfl (lv_room (Nat.le_of_ble_eq_true rfl)) dX11_readsParts_130 ⟨(Nat.le_of_ble_eq_true rfl), (Nat.le_of_ble_eq_true rfl)⟩) hS (fun q _ h => hFc q h) hFc (fun u t H locs ht hvm hq hB hz1 hk1 hS9 => ?_)
                  obtain ⟨z542, z543, z544⟩ := u
                  obtain ⟨hP1, hD1⟩ := hB
                  rw [ht] at hP1
                  obtain ⟨hP9, hD9⟩ := va_join (wr := [(h_nv, .inl (cy_nv, 8000, .inl f161)), (h_nn, .inl (cy_nn, 8000, .inr (.inl f162))), (h_na, .inl (cy_na, 8000, .inl f163)), (h_nb, .inl (cy_nb, 8000, .inl f164)), (h_nc, .inl (cy_nc, 8000, .inl f506)), (h_vrs, .inl (cy_vrs, 32, .inl f166)), (h_let, .inl (cy_let, 256, .inl f167)), (h_tap, .inl (cy_tap, 600, .inl f_tap))]) (w1 := [(h_mm, .inr (8, (mo90 vq540 (.int z528) (.int z542) (.int z543) (.int z544))))]) hP hD [7] [0, 1, 2, 3, 4, 5, 6, 8] rfl rfl (by decide) (by decide) hk1 hFc hP1 hD1
                  clear hP hD hS hPc hDc hKc hFc hP1 hD1 hk1 hz1 ht hvm
                  have hP : va_P (dC, dI) cls [(h_nv, .inl (cy_nv, 8000, .inl f161)), (h_nn, .inl (cy_nn, 8000, .inr (.inl f162))), (h_na, .inl (cy_na, 8000, .inl f163)), (h_nb, .inl (cy_nb, 8000, .inl f164)), (h_nc, .inl (cy_nc, 8000, .inl f506)), (h_vrs, .inl (cy_vrs, 32, .inl f166)), (h_let, .inl (cy_let, 256, .inl f167)), (h_tap, .inl (cy_tap, 600, .inl f_tap)), (h_mm, .inr (8, (mo90 vq540 (.int z528) (.int z542) (.int z543) (.int z544))))] H := hP9
                  have hD : va_D A [(h_nv, .inl (cy_nv, 8000, .inl f161)), (h_nn, .inl (cy_nn, 8000, .inr (.inl f162))), (h_na, .inl (cy_na, 8000, .inl f163)), (h_nb, .inl (cy_nb, 8000, .inl f164)), (h_nc, .inl (cy_nc, 8000, .inl f506)), (h_vrs, .inl (cy_vrs, 32, .inl f166)), (h_let, .inl (cy_let, 256, .inl f167)), (h_tap, .inl (cy_tap, 600, .inl f_tap)), (h_mm, .inr (8, (mo90 vq540 (.int z528) (.int z542) (.int z543) (.int z544))))] := hD9
                  have hS := hS9
                  clear hP9 hD9 hS9
                  rw [evq540] at hP hD
                  replace hP : va_P (dC, dI) cls [(h_nv, .inl (cy_nv, 8000, .inl f161)), (h_nn, .inl (cy_nn, 8000, .inr (.inl f162))), (h_na, .inl (cy_na, 8000, .inl f163)), (h_nb, .inl (cy_nb, 8000, .inl f164)), (h_nc, .inl (cy_nc, 8000, .inl f506)), (h_vrs, .inl (cy_vrs, 32, .inl f166)), (h_let, .inl (cy_let, 256, .inl f167)), (h_tap, .inl (cy_tap, 600, .inl f_tap)), (h_mm, .inr (8, (mo126 v_mm (.ref h_nv) (.ref h_nn) (.ref h_na) (.ref h_nb) (.ref h_nc) (.int z152) (.ref h_vrs) (.ref h_let) (.ref h_tap) (.int x_mm_taped) (.int z527) (.int z528) (.int z529) (.int z530) (.long z531) (.int z542) (.int z543) (.int z544) (.int 1) (.int x_mm_reading))))] H := hP
                  replace hD : va_D A [(h_nv, .inl (cy_nv, 8000, .inl f161)), (h_nn, .inl (cy_nn, 8000, .inr (.inl f162))), (h_na, .inl (cy_na, 8000, .inl f163)), (h_nb, .inl (cy_nb, 8000, .inl f164)), (h_nc, .inl (cy_nc, 8000, .inl f506)), (h_vrs, .inl (cy_vrs, 32, .inl f166)), (h_let, .inl (cy_let, 256, .inl f167)), (h_tap, .inl (cy_tap, 600, .inl f_tap)), (h_mm, .inr (8, (mo126 v_mm (.ref h_nv) (.ref h_nn) (.ref h_na) (.ref h_nb) (.ref h_nc) (.int z152) (.ref h_vrs) (.ref h_let) (.ref h_tap) (.int x_mm_taped) (.int z527) (.int z528) (.int z529) (.int z530) (.long z531) (.int z542) (.int z543) (.int z544) (.int 1) (.int x_mm_reading))))] := hD
                  clear evq540 
                  obtain ⟨k545, k546, k547⟩ := hq
                  replace k545 : 0 ≤ ((z542)).toInt ∧ ((z542)).toInt ≤ 1 := k545
                  replace k546 : ((z542)).toInt = 1 := k546
                  replace k547 : (((z158)).toInt = 1 ∧ ((z543)).toInt = ((z159)).toInt ∧ ((z544)).toInt = ((z160)).toInt) ∨ (((z158)).toInt = 0 ∧ ((z543)).toInt = ((1 : Int32)).toInt ∧ ((z544)).toInt = ((z528)).toInt) := k547
                  refine lv_aload_n hx hb dX11_readsParts_133 rfl (lv_at hl 0 rfl) ?_
                  refine lv_aload_n hx hb dX11_readsParts_134 rfl (lv_at hl 0 rfl) ?_
                  refine va_get (D := (dC, dI)) (ci := 8) (v := .int 1) (C := RX11) (T := TX11) (N := 71) hx hb hw iwX11 hown hK hP 8 rfl rfl 23 (by decide) (hw _ w_f_X11_130) (fun _ h9 => h9) rfl dX11_readsParts_135 ?_
                  refine lv_iconst (v := 1) hx hb dX11_readsParts_138 (by decide) ?_
                  refine lv_isub hx hb dX11_readsParts_139 ?_
                  refine lv_topi (fun z548 ez548 => ?_)
                  obtain rfl : z548 = 0 := ez548.trans (by decide)
                  refine va_put (D := (dC, dI)) (ci := 8) (v := .int 0) (ty := tyX11 23) (C := RX11) (T := TX11) (N := 71) hx hb hw iwX11 tyX11 tyX11_ok nmX11 hown hK hP hD hS 8 rfl rfl 23 (by decide) (hw _ w_f_X11_130) (fun _ h9 => h9) rfl (tyX11_ok 23 (by decide)) rfl rfl (Nat.le_of_ble_eq_true rfl) dX11_readsParts_140 (fun H locs hP9 hD9 hS9 => ?_)
                  clear hP hD hS
                  have hP : va_P (dC, dI) cls [(h_nv, .inl (cy_nv, 8000, .inl f161)), (h_nn, .inl (cy_nn, 8000, .inr (.inl f162))), (h_na, .inl (cy_na, 8000, .inl f163)), (h_nb, .inl (cy_nb, 8000, .inl f164)), (h_nc, .inl (cy_nc, 8000, .inl f506)), (h_vrs, .inl (cy_vrs, 32, .inl f166)), (h_let, .inl (cy_let, 256, .inl f167)), (h_tap, .inl (cy_tap, 600, .inl f_tap)), (h_mm, .inr (8, (mo126 v_mm (.ref h_nv) (.ref h_nn) (.ref h_na) (.ref h_nb) (.ref h_nc) (.int z152) (.ref h_vrs) (.ref h_let) (.ref h_tap) (.int x_mm_taped) (.int z527) (.int z528) (.int z529) (.int z530) (.long z531) (.int z542) (.int z543) (.int z544) (.int 0) (.int x_mm_reading))))] H := hP9
                  have hD : va_D A [(h_nv, .inl (cy_nv, 8000, .inl f161)), (h_nn, .inl (cy_nn, 8000, .inr (.inl f162))), (h_na, .inl (cy_na, 8000, .inl f163)), (h_nb, .inl (cy_nb, 8000, .inl f164)), (h_nc, .inl (cy_nc, 8000, .inl f506)), (h_vrs, .inl (cy_vrs, 32, .inl f166)), (h_let, .inl (cy_let, 256, .inl f167)), (h_tap, .inl (cy_tap, 600, .inl f_tap)), (h_mm, .inr (8, (mo126 v_mm (.ref h_nv) (.ref h_nn) (.ref h_na) (.ref h_nb) (.ref h_nc) (.int z152) (.ref h_vrs) (.ref h_let) (.ref h_tap) (.int x_mm_taped) (.int z527) (.int z528) (.int z529) (.int z530) (.long z531) (.int z542) (.int z543) (.int z544) (.int 0) (.int x_mm_reading))))] := hD9
                  have hS := hS9
                  clear hP9 hD9 hS9
                  replace hP : va_P (dC, dI) cls [(h_mm, .inr (8, (mo126 v_mm (.ref h_nv) (.ref h_nn) (.ref h_na) (.ref h_nb) (.ref h_nc) (.int z152) (.ref h_vrs) (.ref h_let) (.ref h_tap) (.int x_mm_taped) (.int z527) (.int z528) (.int z529) (.int z530) (.long z531) (.int z542) (.int z543) (.int z544) (.int 0) (.int x_mm_reading)))), (h_tap, .inl (cy_tap, 600, .inl f_tap)), (h_nv, .inl (cy_nv, 8000, .inl f161)), (h_nn, .inl (cy_nn, 8000, .inr (.inl f162))), (h_na, .inl (cy_na, 8000, .inl f163)), (h_nb, .inl (cy_nb, 8000, .inl f164)), (h_nc, .inl (cy_nc, 8000, .inl f506)), (h_vrs, .inl (cy_vrs, 32, .inl f166)), (h_let, .inl (cy_let, 256, .inl f167))] H := hP.sub [8, 7, 0, 1, 2, 3, 4, 5, 6] rfl
                  replace hD : va_D A [(h_mm, .inr (8, (mo126 v_mm (.ref h_nv) (.ref h_nn) (.ref h_na) (.ref h_nb) (.ref h_nc) (.int z152) (.ref h_vrs) (.ref h_let) (.ref h_tap) (.int x_mm_taped) (.int z527) (.int z528) (.int z529) (.int z530) (.long z531) (.int z542) (.int z543) (.int z544) (.int 0) (.int x_mm_reading)))), (h_tap, .inl (cy_tap, 600, .inl f_tap)), (h_nv, .inl (cy_nv, 8000, .inl f161)), (h_nn, .inl (cy_nn, 8000, .inr (.inl f162))), (h_na, .inl (cy_na, 8000, .inl f163)), (h_nb, .inl (cy_nb, 8000, .inl f164)), (h_nc, .inl (cy_nc, 8000, .inl f506)), (h_vrs, .inl (cy_vrs, 32, .inl f166)), (h_let, .inl (cy_let, 256, .inl f167))] := hD.sub [8, 7, 0, 1, 2, 3, 4, 5, 6] (by decide) rfl
                  refine W.widen (k := 0) (n := 0) (Nat.le_of_ble_eq_true rfl) (Nat.le_of_ble_eq_true rfl) ?_
                  have w549 : 0 ≤ ((z152)).toInt ∧ ((z152)).toInt ≤ 1200 := by first | exact k169 | omega
                  have w550 : 0 ≤ ((z527)).toInt ∧ ((z527)).toInt ≤ 600 := by first | exact k532 | omega
                  have w551 : 0 ≤ ((z528)).toInt ∧ ((z528)).toInt ≤ 600 := by first | exact k533 | omega
                  have w552 : 0 ≤ ((z529)).toInt ∧ ((z529)).toInt ≤ 4 := by first | exact k534 | omega
                  have w553 : 0 ≤ ((z542)).toInt ∧ ((z542)).toInt ≤ 1 := by first | exact k545 | omega
                  have w554 : ((z528)).toInt ≤ ((z527)).toInt := by first | exact k535 | omega
                  have w555 : ((z542)).toInt = 1 ∨ ((z152)).toInt ≤ lo + ((z528)).toInt := by omega
                  have w556 : (x_mm_nodes).toInt ≤ ((z152)).toInt := by omega
                  have w557 : (x_mm_place).toInt ≤ ((z528)).toInt := by omega
                  have w558 : (x_mm_isFaulty).toInt ≤ ((z542)).toInt := by omega
                  have w559 : (((z542)).toInt = 0 ∧ ((pPs G (x_mm_taped).toInt 6 (x_mm_place).toInt nv vf)).1 = 0 ∧ ((z543)).toInt = (x_mm_fault).toInt ∧ ((z544)).toInt = (x_mm_faultPlace).toInt) ∨ (((z542)).toInt = 1 ∧ ¬ ((pPs G (x_mm_taped).toInt 6 (x_mm_place).toInt nv vf)).1 = 0 ∧ ((z543)).toInt = ((pPs G (x_mm_taped).toInt 6 (x_mm_place).toInt nv vf)).1 ∧ ((z544)).toInt = ((pPs G (x_mm_taped).toInt 6 (x_mm_place).toInt nv vf)).2.1) := by omega
                  have w560 : ((z528)).toInt = ((pPs G (x_mm_taped).toInt 6 (x_mm_place).toInt nv vf)).2.1 := by omega
                  have w561 : 0 ≤ ((pPs G (x_mm_taped).toInt 6 (x_mm_place).toInt nv vf)).2.2.1 ∧ ((pPs G (x_mm_taped).toInt 6 (x_mm_place).toInt nv vf)).2.2.1 ≤ 8 := by omega
                  have w562 : ((z529)).toInt = kd (tkT G (x_mm_taped).toInt ((z528)).toInt) := by first | exact k536 | omega
                  have w563 : ((z529)).toInt = 0 ∨ (((z527)).toInt = tkX G (x_mm_taped).toInt ((z528)).toInt ∧ ((z530)).toInt = G ((z528)).toInt ∧ ((z528)).toInt < (x_mm_taped).toInt ∧ ((z528)).toInt + 1 ≤ ((z527)).toInt) := by first | exact k537 | omega
                  have w564 : ((z527)).toInt ≤ (x_mm_taped).toInt := by first | exact k538 | omega
                  have w565 : ((z528)).toInt ≤ (x_mm_taped).toInt := by first | exact k539 | omega
                  have w566 : EQ0 lo za zb zc zv (f163) (f164) (f506) (f161) := nd508
                  have w567 : ND lo ((z152)).toInt (gh168) (f163) (f164) (f506) := (nd_cast nd507 (by omega))
                  have w568 : ∀ y : Nat, (y : Int) < (x_mm_nodes).toInt → (gh168) y = hh y := (fun y hy => (k190 y (by omega)).trans ((k126 y (by omega)).trans ((k62 y (by omega)).trans (rfl))))
                  have w569 : ((f166) (Int32.toNatClampNeg x_mm_reading)).toInt = ((pPs G (x_mm_taped).toInt 6 (x_mm_place).toInt nv vf)).2.2.1 := (k191.trans pq5243.symm)
                  have w570 : VFM ((pPs G (x_mm_taped).toInt 6 (x_mm_place).toInt nv vf)).2.2.1 ((pPs G (x_mm_taped).toInt 6 (x_mm_place).toInt nv vf)).2.2.2 (f167) (x_mm_reading).toInt := (by rw [pq5243, pq5244]; exact k192)
                  exact W.vret hx hb hr (fun t ht hW => ⟨⟨(z152, z527, z528, z529, z530, z531, z542, z543, z544, f161, f162, f163, f164, f506, f166, f167, gh168), rfl, ⟨w549, w550, w551, w552, w553, hf161, hf163, hf164, hf506, hf166, w554, w555, w556, w557, w558, w559, w560, w561, w562, w563, w564, w565, w566, w567, w568, w569, w570⟩, by rw [ht]; exact hP, hD⟩, hS.F ht⟩) hS.2.2 dX11_readsParts_143
                · replace hq : (((z528)).toInt = ((z512)).toInt) ∧ (((z527)).toInt = ((z511)).toInt) ∧ (((z529)).toInt = ((z513)).toInt) ∧ (((z158)).toInt = 0) ∧ (¬ tkT (G) ((x_mm_taped)).toInt ((z512)).toInt = ((41 : Int32)).toInt) := hq
                  exact False.elim (by omega)
              · replace hq : (((z512)).toInt = ((z154)).toInt) ∧ (((z511)).toInt = ((z153)).toInt) ∧ (((z513)).toInt = ((z155)).toInt) ∧ (((z158)).toInt = 0) ∧ (¬ tkT (G) ((x_mm_taped)).toInt ((z154)).toInt = ((44 : Int32)).toInt) := hq
                exact False.elim (by omega)
          · replace hq : (((z137)).toInt = ((z90)).toInt) ∧ (((z136)).toInt = ((z89)).toInt) ∧ (((z138)).toInt = ((z91)).toInt) ∧ (((z94)).toInt = 1) := hq
            exact False.elim (by omega)
          · replace hq : (((z137)).toInt = ((z90)).toInt) ∧ (((z136)).toInt = ((z89)).toInt) ∧ (((z138)).toInt = ((z91)).toInt) ∧ (((z94)).toInt = 0) ∧ (¬ tkT (G) ((x_mm_taped)).toInt ((z90)).toInt = ((44 : Int32)).toInt) := hq
            clear k121
            have cst44 : (44 : Int32).toInt = 44 := by decide
            have on9 := pLo_off (G := G) (n := (x_mm_taped).toInt) (P := (pPs G (x_mm_taped).toInt 5)) (r := 1) (q := (z26).toInt) (nv := (rh65).2.2.1) (vf := (rh65).2.2.2) (by rw [← erh129]; omega) (by rw [← erh129, ← k118]; omega)
            rw [← erh129, ← k118] at on9
            have cl9 := on9.symm.trans lo85
            have pe9 : tkT G (x_mm_taped).toInt (z137).toInt = tkT G (x_mm_taped).toInt (z90).toInt := congrArg (tkT G (x_mm_taped).toInt) hq.1
            have pn9 : tkN G (x_mm_taped).toInt (z137).toInt = tkN G (x_mm_taped).toInt (z90).toInt := congrArg (tkN G (x_mm_taped).toInt) hq.1
            refine lv_if_eq (tgt := 119) hx hb dX11_readsParts_81 (by decide) (fun _ => ?_) (fun c9 => absurd c9 (by decide))
            refine lv_aload_n hx hb dX11_readsParts_119 rfl (lv_at hl 0 rfl) ?_
            refine lv_bipush (v := 41) hx hb dX11_readsParts_120 (by decide) ?_
            obtain ⟨vq571, evq571⟩ := mq126_92 v_mm (.ref h_nv) (.ref h_nn) (.ref h_na) (.ref h_nb) (.ref h_nc) (.int z88) (.ref h_vrs) (.ref h_let) (.int z95) (.int z96) (.int 1) (.int x_mm_reading)
            replace hP : va_P (dC, dI) cls [(h_nv, .inl (cy_nv, 8000, .inl f97)), (h_nn, .inl (cy_nn, 8000, .inr (.inl f98))), (h_na, .inl (cy_na, 8000, .inl f99)), (h_nb, .inl (cy_nb, 8000, .inl f131)), (h_nc, .inl (cy_nc, 8000, .inl f101)), (h_vrs, .inl (cy_vrs, 32, .inl f102)), (h_let, .inl (cy_let, 256, .inl f103)), (h_mm, .inr (8, (mo92 vq571 (.ref h_tap) (.int x_mm_taped) (.int z136) (.int z137) (.int z138) (.int z139) (.long z140) (.int z94)))), (h_tap, .inl (cy_tap, 600, .inl f_tap))] H := by rw [evq571]; exact hP
            replace hD : va_D A [(h_nv, .inl (cy_nv, 8000, .inl f97)), (h_nn, .inl (cy_nn, 8000, .inr (.inl f98))), (h_na, .inl (cy_na, 8000, .inl f99)), (h_nb, .inl (cy_nb, 8000, .inl f131)), (h_nc, .inl (cy_nc, 8000, .inl f101)), (h_vrs, .inl (cy_vrs, 32, .inl f102)), (h_let, .inl (cy_let, 256, .inl f103)), (h_mm, .inr (8, (mo92 vq571 (.ref h_tap) (.int x_mm_taped) (.int z136) (.int z137) (.int z138) (.int z139) (.long z140) (.int z94)))), (h_tap, .inl (cy_tap, 600, .inl f_tap))] := by rw [evq571]; exact hD
            have cst41 : (41 : Int32).toInt = 41 := by decide
            have hPc := hP.sub (ws' := [(h_mm, .inr (8, (mo92 vq571 (.ref h_tap) (.int x_mm_taped) (.int z136) (.int z137) (.int z138) (.int z139) (.long z140) (.int z94)))), (h_tap, .inl (cy_tap, 600, .inl f_tap))]) [7, 8] rfl
            have hDc := hD.sub (ws' := [(h_mm, .inr (8, (mo92 vq571 (.ref h_tap) (.int x_mm_taped) (.int z136) (.int z137) (.int z138) (.int z139) (.long z140) (.int z94)))), (h_tap, .inl (cy_tap, 600, .inl f_tap))]) [7, 8] (by decide) rfl
            have hKc := hK.sub (tys' := [(cy_tap, .byte)]) [0] rfl
            have hFc := va_free (wc := [(h_mm, .inr (8, (mo92 vq571 (.ref h_tap) (.int x_mm_taped) (.int z136) (.int z137) (.int z138) (.int z139) (.long z140) (.int z94)))), (h_tap, .inl (cy_tap, 600, .inl f_tap))]) hD hS hA [7, 8] rfl
            refine va_calli (va_runV (As := [.int 41]) (rest := []) ⟨hx, hb, hml, hown, hts⟩ (c_X11_passes l dC dI H.size h_mm h_tap vq571 x_mm_taped z136 z137 z138 z139 z140 z94 cy_tap f_tap 41 G (by first | exact hx_mm_taped | omega) (by first | exact k141 | omega) (by first | exact k142 | omega) (by first | exact k143 | omega) (by first | exact k109 | omega) (by first | exact k144 | omega) (by omega) (by omega) (by first | exact k145 | omega) (by first | exact k146 | omega) (by first | exact k147 | omega) (by first | exact k148 | omega) hn_tapq) (cwV 1 hts (gv hT w_m_X11_136 w_instanceMethod_X11_passes ws_sel_X11_passes w_ini_X11 w_code_X11_passes) rfl rfl rfl (by decide +kernel) ⟨(Nat.le_of_ble_eq_true rfl), (Nat.le_of_ble_eq_true rfl)⟩) ⟨pre_blind, va_recv hK hP (ci := 8) (q0 := 7) rfl rfl, pre_of hPc hKc hDc hN⟩ rfl rfl hl.1 rfl (lv_room (Nat.le_of_ble_eq_true rfl)) dX11_readsParts_122 ⟨(Nat.le_of_ble_eq_true rfl), (Nat.le_of_ble_eq_true rfl)⟩) hS (fun q _ h => hFc q h) hFc (fun r572 u t H locs ht hvm hq hB hz1 hk1 hS9 => ?_)
            obtain ⟨z573, z574, z575, z576, z577⟩ := u
            obtain ⟨hP1, hD1⟩ := hB
            rw [ht] at hP1
            obtain ⟨hP9, hD9⟩ := va_join (wr := [(h_nv, .inl (cy_nv, 8000, .inl f97)), (h_nn, .inl (cy_nn, 8000, .inr (.inl f98))), (h_na, .inl (cy_na, 8000, .inl f99)), (h_nb, .inl (cy_nb, 8000, .inl f131)), (h_nc, .inl (cy_nc, 8000, .inl f101)), (h_vrs, .inl (cy_vrs, 32, .inl f102)), (h_let, .inl (cy_let, 256, .inl f103))]) (w1 := [(h_mm, .inr (8, (mo92 vq571 (.ref h_tap) (.int x_mm_taped) (.int z573) (.int z574) (.int z575) (.int z576) (.long z577) (.int z94)))), (h_tap, .inl (cy_tap, 600, .inl f_tap))]) hP hD [7, 8] [0, 1, 2, 3, 4, 5, 6] rfl rfl (by decide) (by decide) hk1 hFc hP1 hD1
            clear hP hD hS hPc hDc hKc hFc hP1 hD1 hk1 hz1 ht hvm
            have hP : va_P (dC, dI) cls [(h_nv, .inl (cy_nv, 8000, .inl f97)), (h_nn, .inl (cy_nn, 8000, .inr (.inl f98))), (h_na, .inl (cy_na, 8000, .inl f99)), (h_nb, .inl (cy_nb, 8000, .inl f131)), (h_nc, .inl (cy_nc, 8000, .inl f101)), (h_vrs, .inl (cy_vrs, 32, .inl f102)), (h_let, .inl (cy_let, 256, .inl f103)), (h_mm, .inr (8, (mo92 vq571 (.ref h_tap) (.int x_mm_taped) (.int z573) (.int z574) (.int z575) (.int z576) (.long z577) (.int z94)))), (h_tap, .inl (cy_tap, 600, .inl f_tap))] H := hP9
            have hD : va_D A [(h_nv, .inl (cy_nv, 8000, .inl f97)), (h_nn, .inl (cy_nn, 8000, .inr (.inl f98))), (h_na, .inl (cy_na, 8000, .inl f99)), (h_nb, .inl (cy_nb, 8000, .inl f131)), (h_nc, .inl (cy_nc, 8000, .inl f101)), (h_vrs, .inl (cy_vrs, 32, .inl f102)), (h_let, .inl (cy_let, 256, .inl f103)), (h_mm, .inr (8, (mo92 vq571 (.ref h_tap) (.int x_mm_taped) (.int z573) (.int z574) (.int z575) (.int z576) (.long z577) (.int z94)))), (h_tap, .inl (cy_tap, 600, .inl f_tap))] := hD9
            have hS := hS9
            clear hP9 hD9 hS9
            rw [evq571] at hP hD
            replace hP : va_P (dC, dI) cls [(h_nv, .inl (cy_nv, 8000, .inl f97)), (h_nn, .inl (cy_nn, 8000, .inr (.inl f98))), (h_na, .inl (cy_na, 8000, .inl f99)), (h_nb, .inl (cy_nb, 8000, .inl f131)), (h_nc, .inl (cy_nc, 8000, .inl f101)), (h_vrs, .inl (cy_vrs, 32, .inl f102)), (h_let, .inl (cy_let, 256, .inl f103)), (h_mm, .inr (8, (mo126 v_mm (.ref h_nv) (.ref h_nn) (.ref h_na) (.ref h_nb) (.ref h_nc) (.int z88) (.ref h_vrs) (.ref h_let) (.ref h_tap) (.int x_mm_taped) (.int z573) (.int z574) (.int z575) (.int z576) (.long z577) (.int z94) (.int z95) (.int z96) (.int 1) (.int x_mm_reading)))), (h_tap, .inl (cy_tap, 600, .inl f_tap))] H := hP
            replace hD : va_D A [(h_nv, .inl (cy_nv, 8000, .inl f97)), (h_nn, .inl (cy_nn, 8000, .inr (.inl f98))), (h_na, .inl (cy_na, 8000, .inl f99)), (h_nb, .inl (cy_nb, 8000, .inl f131)), (h_nc, .inl (cy_nc, 8000, .inl f101)), (h_vrs, .inl (cy_vrs, 32, .inl f102)), (h_let, .inl (cy_let, 256, .inl f103)), (h_mm, .inr (8, (mo126 v_mm (.ref h_nv) (.ref h_nn) (.ref h_na) (.ref h_nb) (.ref h_nc) (.int z88) (.ref h_vrs) (.ref h_let) (.ref h_tap) (.int x_mm_taped) (.int z573) (.int z574) (.int z575) (.int z576) (.long z577) (.int z94) (.int z95) (.int z96) (.int 1) (.int x_mm_reading)))), (h_tap, .inl (cy_tap, 600, .inl f_tap))] := hD
            clear evq571 
            obtain ⟨k578, k579, k580, k581, k582, k583, k584, k585, hq⟩ := hq
            replace k578 : 0 ≤ ((z573)).toInt ∧ ((z573)).toInt ≤ 600 := k578
            replace k579 : 0 ≤ ((z574)).toInt ∧ ((z574)).toInt ≤ 600 := k579
            replace k580 : 0 ≤ ((z575)).toInt ∧ ((z575)).toInt ≤ 4 := k580
            replace k581 : ((z574)).toInt ≤ ((z573)).toInt := k581
            replace k582 : ((z575)).toInt = kd (tkT (G) ((x_mm_taped)).toInt ((z574)).toInt) := k582
            replace k583 : ((z575)).toInt = 0 ∨ (((z573)).toInt = tkX (G) ((x_mm_taped)).toInt ((z574)).toInt ∧ ((z576)).toInt = (G) ((z574)).toInt ∧ ((z574)).toInt < ((x_mm_taped)).toInt ∧ ((z574)).toInt + 1 ≤ ((z573)).toInt) := k583
            replace k584 : ((z573)).toInt ≤ ((x_mm_taped)).toInt := k584
            replace k585 : ((z574)).toInt ≤ ((x_mm_taped)).toInt := k585
            rcases hq with ⟨rfl, hq⟩ | ⟨rfl, hq⟩ | ⟨rfl, hq⟩
            · replace hq : (((z94)).toInt = 0) ∧ (tkT (G) ((x_mm_taped)).toInt ((z137)).toInt = ((41 : Int32)).toInt) ∧ (((z574)).toInt = tkN (G) ((x_mm_taped)).toInt ((z137)).toInt) ∧ (((z136)).toInt ≤ ((z574)).toInt) ∧ (((z137)).toInt + 1 ≤ ((z574)).toInt) := hq
              have cst41 : (41 : Int32).toInt = 41 := by decide
              have pv9 : (pPs G (x_mm_taped).toInt 6 (x_mm_place).toInt nv vf) = (0, tkN G (x_mm_taped).toInt (z90).toInt, (rh129).2.2.1, (rh129).2.2.2) := cl9.symm.trans (pCl_yes (by omega))
              have pq5861 : ((pPs G (x_mm_taped).toInt 6 (x_mm_place).toInt nv vf)).1 = 0 := by rw [pv9]
              have pq5862 : ((pPs G (x_mm_taped).toInt 6 (x_mm_place).toInt nv vf)).2.1 = tkN G (x_mm_taped).toInt (z90).toInt := by rw [pv9]
              have pq5863 : ((pPs G (x_mm_taped).toInt 6 (x_mm_place).toInt nv vf)).2.2.1 = (rh129).2.2.1 := by rw [pv9]
              have pq5864 : ((pPs G (x_mm_taped).toInt 6 (x_mm_place).toInt nv vf)).2.2.2 = (rh129).2.2.2 := by rw [pv9]
              refine lv_if_ne (tgt := 133) hx hb dX11_readsParts_125 (by decide) (fun _ => ?_) (fun c9 => absurd c9 (by decide))
              refine lv_aload_n hx hb dX11_readsParts_133 rfl (lv_at hl 0 rfl) ?_
              refine lv_aload_n hx hb dX11_readsParts_134 rfl (lv_at hl 0 rfl) ?_
              refine va_get (D := (dC, dI)) (ci := 8) (v := .int 1) (C := RX11) (T := TX11) (N := 71) hx hb hw iwX11 hown hK hP 7 rfl rfl 23 (by decide) (hw _ w_f_X11_130) (fun _ h9 => h9) rfl dX11_readsParts_135 ?_
              refine lv_iconst (v := 1) hx hb dX11_readsParts_138 (by decide) ?_
              refine lv_isub hx hb dX11_readsParts_139 ?_
              refine lv_topi (fun z587 ez587 => ?_)
              obtain rfl : z587 = 0 := ez587.trans (by decide)
              refine va_put (D := (dC, dI)) (ci := 8) (v := .int 0) (ty := tyX11 23) (C := RX11) (T := TX11) (N := 71) hx hb hw iwX11 tyX11 tyX11_ok nmX11 hown hK hP hD hS 7 rfl rfl 23 (by decide) (hw _ w_f_X11_130) (fun _ h9 => h9) rfl (tyX11_ok 23 (by decide)) rfl rfl (Nat.le_of_ble_eq_true rfl) dX11_readsParts_140 (fun H locs hP9 hD9 hS9 => ?_)
              clear hP hD hS
              have hP : va_P (dC, dI) cls [(h_nv, .inl (cy_nv, 8000, .inl f97)), (h_nn, .inl (cy_nn, 8000, .inr (.inl f98))), (h_na, .inl (cy_na, 8000, .inl f99)), (h_nb, .inl (cy_nb, 8000, .inl f131)), (h_nc, .inl (cy_nc, 8000, .inl f101)), (h_vrs, .inl (cy_vrs, 32, .inl f102)), (h_let, .inl (cy_let, 256, .inl f103)), (h_mm, .inr (8, (mo126 v_mm (.ref h_nv) (.ref h_nn) (.ref h_na) (.ref h_nb) (.ref h_nc) (.int z88) (.ref h_vrs) (.ref h_let) (.ref h_tap) (.int x_mm_taped) (.int z573) (.int z574) (.int z575) (.int z576) (.long z577) (.int z94) (.int z95) (.int z96) (.int 0) (.int x_mm_reading)))), (h_tap, .inl (cy_tap, 600, .inl f_tap))] H := hP9
              have hD : va_D A [(h_nv, .inl (cy_nv, 8000, .inl f97)), (h_nn, .inl (cy_nn, 8000, .inr (.inl f98))), (h_na, .inl (cy_na, 8000, .inl f99)), (h_nb, .inl (cy_nb, 8000, .inl f131)), (h_nc, .inl (cy_nc, 8000, .inl f101)), (h_vrs, .inl (cy_vrs, 32, .inl f102)), (h_let, .inl (cy_let, 256, .inl f103)), (h_mm, .inr (8, (mo126 v_mm (.ref h_nv) (.ref h_nn) (.ref h_na) (.ref h_nb) (.ref h_nc) (.int z88) (.ref h_vrs) (.ref h_let) (.ref h_tap) (.int x_mm_taped) (.int z573) (.int z574) (.int z575) (.int z576) (.long z577) (.int z94) (.int z95) (.int z96) (.int 0) (.int x_mm_reading)))), (h_tap, .inl (cy_tap, 600, .inl f_tap))] := hD9
              have hS := hS9
              clear hP9 hD9 hS9
              replace hP : va_P (dC, dI) cls [(h_mm, .inr (8, (mo126 v_mm (.ref h_nv) (.ref h_nn) (.ref h_na) (.ref h_nb) (.ref h_nc) (.int z88) (.ref h_vrs) (.ref h_let) (.ref h_tap) (.int x_mm_taped) (.int z573) (.int z574) (.int z575) (.int z576) (.long z577) (.int z94) (.int z95) (.int z96) (.int 0) (.int x_mm_reading)))), (h_tap, .inl (cy_tap, 600, .inl f_tap)), (h_nv, .inl (cy_nv, 8000, .inl f97)), (h_nn, .inl (cy_nn, 8000, .inr (.inl f98))), (h_na, .inl (cy_na, 8000, .inl f99)), (h_nb, .inl (cy_nb, 8000, .inl f131)), (h_nc, .inl (cy_nc, 8000, .inl f101)), (h_vrs, .inl (cy_vrs, 32, .inl f102)), (h_let, .inl (cy_let, 256, .inl f103))] H := hP.sub [7, 8, 0, 1, 2, 3, 4, 5, 6] rfl
              replace hD : va_D A [(h_mm, .inr (8, (mo126 v_mm (.ref h_nv) (.ref h_nn) (.ref h_na) (.ref h_nb) (.ref h_nc) (.int z88) (.ref h_vrs) (.ref h_let) (.ref h_tap) (.int x_mm_taped) (.int z573) (.int z574) (.int z575) (.int z576) (.long z577) (.int z94) (.int z95) (.int z96) (.int 0) (.int x_mm_reading)))), (h_tap, .inl (cy_tap, 600, .inl f_tap)), (h_nv, .inl (cy_nv, 8000, .inl f97)), (h_nn, .inl (cy_nn, 8000, .inr (.inl f98))), (h_na, .inl (cy_na, 8000, .inl f99)), (h_nb, .inl (cy_nb, 8000, .inl f131)), (h_nc, .inl (cy_nc, 8000, .inl f101)), (h_vrs, .inl (cy_vrs, 32, .inl f102)), (h_let, .inl (cy_let, 256, .inl f103))] := hD.sub [7, 8, 0, 1, 2, 3, 4, 5, 6] (by decide) rfl
              refine W.widen (k := 0) (n := 0) (Nat.le_of_ble_eq_true rfl) (Nat.le_of_ble_eq_true rfl) ?_
              have w588 : 0 ≤ ((z88)).toInt ∧ ((z88)).toInt ≤ 1200 := by first | exact k105 | omega
              have w589 : 0 ≤ ((z573)).toInt ∧ ((z573)).toInt ≤ 600 := by first | exact k578 | omega
              have w590 : 0 ≤ ((z574)).toInt ∧ ((z574)).toInt ≤ 600 := by first | exact k579 | omega
              have w591 : 0 ≤ ((z575)).toInt ∧ ((z575)).toInt ≤ 4 := by first | exact k580 | omega
              have w592 : 0 ≤ ((z94)).toInt ∧ ((z94)).toInt ≤ 1 := by first | exact k109 | omega
              have w593 : ((z574)).toInt ≤ ((z573)).toInt := by first | exact k581 | omega
              have w594 : ((z94)).toInt = 1 ∨ ((z88)).toInt ≤ lo + ((z574)).toInt := by omega
              have w595 : (x_mm_nodes).toInt ≤ ((z88)).toInt := by omega
              have w596 : (x_mm_place).toInt ≤ ((z574)).toInt := by omega
              have w597 : (x_mm_isFaulty).toInt ≤ ((z94)).toInt := by omega
              have w598 : (((z94)).toInt = 0 ∧ ((pPs G (x_mm_taped).toInt 6 (x_mm_place).toInt nv vf)).1 = 0 ∧ ((z95)).toInt = (x_mm_fault).toInt ∧ ((z96)).toInt = (x_mm_faultPlace).toInt) ∨ (((z94)).toInt = 1 ∧ ¬ ((pPs G (x_mm_taped).toInt 6 (x_mm_place).toInt nv vf)).1 = 0 ∧ ((z95)).toInt = ((pPs G (x_mm_taped).toInt 6 (x_mm_place).toInt nv vf)).1 ∧ ((z96)).toInt = ((pPs G (x_mm_taped).toInt 6 (x_mm_place).toInt nv vf)).2.1) := by omega
              have w599 : ((z574)).toInt = ((pPs G (x_mm_taped).toInt 6 (x_mm_place).toInt nv vf)).2.1 := by omega
              have w600 : 0 ≤ ((pPs G (x_mm_taped).toInt 6 (x_mm_place).toInt nv vf)).2.2.1 ∧ ((pPs G (x_mm_taped).toInt 6 (x_mm_place).toInt nv vf)).2.2.1 ≤ 8 := by omega
              have w601 : ((z575)).toInt = kd (tkT G (x_mm_taped).toInt ((z574)).toInt) := by first | exact k582 | omega
              have w602 : ((z575)).toInt = 0 ∨ (((z573)).toInt = tkX G (x_mm_taped).toInt ((z574)).toInt ∧ ((z576)).toInt = G ((z574)).toInt ∧ ((z574)).toInt < (x_mm_taped).toInt ∧ ((z574)).toInt + 1 ≤ ((z573)).toInt) := by first | exact k583 | omega
              have w603 : ((z573)).toInt ≤ (x_mm_taped).toInt := by first | exact k584 | omega
              have w604 : ((z574)).toInt ≤ (x_mm_taped).toInt := by first | exact k585 | omega
              have w605 : EQ0 lo za zb zc zv (f99) (f131) (f101) (f97) := nd133
              have w606 : ND lo ((z88)).toInt (gh104) (f99) (f131) (f101) := (nd_cast nd132 (by omega))
              have w607 : ∀ y : Nat, (y : Int) < (x_mm_nodes).toInt → (gh104) y = hh y := (fun y hy => (k126 y (by omega)).trans ((k62 y (by omega)).trans (rfl)))
              have w608 : ((f102) (Int32.toNatClampNeg x_mm_reading)).toInt = ((pPs G (x_mm_taped).toInt 6 (x_mm_place).toInt nv vf)).2.2.1 := (k127.trans pq5863.symm)
              have w609 : VFM ((pPs G (x_mm_taped).toInt 6 (x_mm_place).toInt nv vf)).2.2.1 ((pPs G (x_mm_taped).toInt 6 (x_mm_place).toInt nv vf)).2.2.2 (f103) (x_mm_reading).toInt := (by rw [pq5863, pq5864]; exact k128)
              exact W.vret hx hb hr (fun t ht hW => ⟨⟨(z88, z573, z574, z575, z576, z577, z94, z95, z96, f97, f98, f99, f131, f101, f102, f103, gh104), rfl, ⟨w588, w589, w590, w591, w592, hf97, hf99, hf131, hf101, hf102, w593, w594, w595, w596, w597, w598, w599, w600, w601, w602, w603, w604, w605, w606, w607, w608, w609⟩, by rw [ht]; exact hP, hD⟩, hS.F ht⟩) hS.2.2 dX11_readsParts_143
            · replace hq : (((z574)).toInt = ((z137)).toInt) ∧ (((z573)).toInt = ((z136)).toInt) ∧ (((z575)).toInt = ((z138)).toInt) ∧ (((z94)).toInt = 1) := hq
              exact False.elim (by omega)
            · replace hq : (((z574)).toInt = ((z137)).toInt) ∧ (((z573)).toInt = ((z136)).toInt) ∧ (((z575)).toInt = ((z138)).toInt) ∧ (((z94)).toInt = 0) ∧ (¬ tkT (G) ((x_mm_taped)).toInt ((z137)).toInt = ((41 : Int32)).toInt) := hq
              have cst41 : (41 : Int32).toInt = 41 := by decide
              have pv9 : (pPs G (x_mm_taped).toInt 6 (x_mm_place).toInt nv vf) = (1, (z90).toInt, (rh129).2.2.1, (rh129).2.2.2) := cl9.symm.trans (pCl_no (by omega))
              have pq6101 : ((pPs G (x_mm_taped).toInt 6 (x_mm_place).toInt nv vf)).1 = 1 := by rw [pv9]
              have pq6102 : ((pPs G (x_mm_taped).toInt 6 (x_mm_place).toInt nv vf)).2.1 = (z90).toInt := by rw [pv9]
              have pq6103 : ((pPs G (x_mm_taped).toInt 6 (x_mm_place).toInt nv vf)).2.2.1 = (rh129).2.2.1 := by rw [pv9]
              have pq6104 : ((pPs G (x_mm_taped).toInt 6 (x_mm_place).toInt nv vf)).2.2.2 = (rh129).2.2.2 := by rw [pv9]
              refine lv_if_ne (tgt := 133) hx hb dX11_readsParts_125 (by decide) (fun c9 => absurd c9 (by decide)) (fun _ => ?_)
              refine lv_aload_n hx hb dX11_readsParts_128 rfl (lv_at hl 0 rfl) ?_
              refine lv_iconst (v := 1) hx hb dX11_readsParts_129 (by decide) ?_
              obtain ⟨vq611, evq611⟩ := mq126_90 v_mm (.ref h_nv) (.ref h_nn) (.ref h_na) (.ref h_nb) (.ref h_nc) (.int z88) (.ref h_vrs) (.ref h_let) (.ref h_tap) (.int x_mm_taped) (.int z573) (.int z575) (.int z576) (.long z577) (.int 1) (.int x_mm_reading)
              replace hP : va_P (dC, dI) cls [(h_nv, .inl (cy_nv, 8000, .inl f97)), (h_nn, .inl (cy_nn, 8000, .inr (.inl f98))), (h_na, .inl (cy_na, 8000, .inl f99)), (h_nb, .inl (cy_nb, 8000, .inl f131)), (h_nc, .inl (cy_nc, 8000, .inl f101)), (h_vrs, .inl (cy_vrs, 32, .inl f102)), (h_let, .inl (cy_let, 256, .inl f103)), (h_mm, .inr (8, (mo90 vq611 (.int z574) (.int z94) (.int z95) (.int z96)))), (h_tap, .inl (cy_tap, 600, .inl f_tap))] H := by rw [evq611]; exact hP
              replace hD : va_D A [(h_nv, .inl (cy_nv, 8000, .inl f97)), (h_nn, .inl (cy_nn, 8000, .inr (.inl f98))), (h_na, .inl (cy_na, 8000, .inl f99)), (h_nb, .inl (cy_nb, 8000, .inl f131)), (h_nc, .inl (cy_nc, 8000, .inl f101)), (h_vrs, .inl (cy_vrs, 32, .inl f102)), (h_let, .inl (cy_let, 256, .inl f103)), (h_mm, .inr (8, (mo90 vq611 (.int z574) (.int z94) (.int z95) (.int z96)))), (h_tap, .inl (cy_tap, 600, .inl f_tap))] := by rw [evq611]; exact hD
              have cst1 : (1 : Int32).toInt = 1 := by decide
              have hPc := hP.sub (ws' := [(h_mm, .inr (8, (mo90 vq611 (.int z574) (.int z94) (.int z95) (.int z96))))]) [7] rfl
              have hDc := hD.sub (ws' := [(h_mm, .inr (8, (mo90 vq611 (.int z574) (.int z94) (.int z95) (.int z96))))]) [7] (by decide) rfl
              have hKc := hK.sub (tys' := []) [] rfl
              have hFc := va_free (wc := [(h_mm, .inr (8, (mo90 vq611 (.int z574) (.int z94) (.int z95) (.int z96))))]) hD hS hA [7] rfl
              refine va_callv (va_runV (As := [.int 1]) (rest := []) ⟨hx, hb, hml, hown, hts⟩ (c_X11_faulty l dC dI H.size h_mm vq611 z574 z94 z95 z96 1 (by first | exact k579 | omega) (by first | exact k109 | omega)) (cwV 1 hts (gv hT w_m_X11_111 w_instanceMethod_X11_faulty ws_sel_X11_faulty w_ini_X11 w_code_X11_faulty) rfl rfl rfl (by decide +kernel) ⟨(Nat.le_of_ble_eq_true rfl), (Nat.le_of_ble_eq_true rfl)⟩) ⟨pre_blind, va_recv hK hP (ci := 8) (q0 := 7) rfl rfl, pre_of hPc hKc hDc hN⟩ rfl rfl hl.1 rfl (lv_room (Nat.le_of_ble_eq_true rfl)) dX11_readsParts_130 ⟨(Nat.le_of_ble_eq_true rfl), (Nat.le_of_ble_eq_true rfl)⟩) hS (fun q _ h => hFc q h) hFc (fun u t H locs ht hvm hq hB hz1 hk1 hS9 => ?_)
              obtain ⟨z613, z614, z615⟩ := u
              obtain ⟨hP1, hD1⟩ := hB
              rw [ht] at hP1
              obtain ⟨hP9, hD9⟩ := va_join (wr := [(h_nv, .inl (cy_nv, 8000, .inl f97)), (h_nn, .inl (cy_nn, 8000, .inr (.inl f98))), (h_na, .inl (cy_na, 8000, .inl f99)), (h_nb, .inl (cy_nb, 8000, .inl f131)), (h_nc, .inl (cy_nc, 8000, .inl f101)), (h_vrs, .inl (cy_vrs, 32, .inl f102)), (h_let, .inl (cy_let, 256, .inl f103)), (h_tap, .inl (cy_tap, 600, .inl f_tap))]) (w1 := [(h_mm, .inr (8, (mo90 vq611 (.int z574) (.int z613) (.int z614) (.int z615))))]) hP hD [7] [0, 1, 2, 3, 4, 5, 6, 8] rfl rfl (by decide) (by decide) hk1 hFc hP1 hD1
              clear hP hD hS hPc hDc hKc hFc hP1 hD1 hk1 hz1 ht hvm
              have hP : va_P (dC, dI) cls [(h_nv, .inl (cy_nv, 8000, .inl f97)), (h_nn, .inl (cy_nn, 8000, .inr (.inl f98))), (h_na, .inl (cy_na, 8000, .inl f99)), (h_nb, .inl (cy_nb, 8000, .inl f131)), (h_nc, .inl (cy_nc, 8000, .inl f101)), (h_vrs, .inl (cy_vrs, 32, .inl f102)), (h_let, .inl (cy_let, 256, .inl f103)), (h_tap, .inl (cy_tap, 600, .inl f_tap)), (h_mm, .inr (8, (mo90 vq611 (.int z574) (.int z613) (.int z614) (.int z615))))] H := hP9
              have hD : va_D A [(h_nv, .inl (cy_nv, 8000, .inl f97)), (h_nn, .inl (cy_nn, 8000, .inr (.inl f98))), (h_na, .inl (cy_na, 8000, .inl f99)), (h_nb, .inl (cy_nb, 8000, .inl f131)), (h_nc, .inl (cy_nc, 8000, .inl f101)), (h_vrs, .inl (cy_vrs, 32, .inl f102)), (h_let, .inl (cy_let, 256, .inl f103)), (h_tap, .inl (cy_tap, 600, .inl f_tap)), (h_mm, .inr (8, (mo90 vq611 (.int z574) (.int z613) (.int z614) (.int z615))))] := hD9
              have hS := hS9
              clear hP9 hD9 hS9
              rw [evq611] at hP hD
              replace hP : va_P (dC, dI) cls [(h_nv, .inl (cy_nv, 8000, .inl f97)), (h_nn, .inl (cy_nn, 8000, .inr (.inl f98))), (h_na, .inl (cy_na, 8000, .inl f99)), (h_nb, .inl (cy_nb, 8000, .inl f131)), (h_nc, .inl (cy_nc, 8000, .inl f101)), (h_vrs, .inl (cy_vrs, 32, .inl f102)), (h_let, .inl (cy_let, 256, .inl f103)), (h_tap, .inl (cy_tap, 600, .inl f_tap)), (h_mm, .inr (8, (mo126 v_mm (.ref h_nv) (.ref h_nn) (.ref h_na) (.ref h_nb) (.ref h_nc) (.int z88) (.ref h_vrs) (.ref h_let) (.ref h_tap) (.int x_mm_taped) (.int z573) (.int z574) (.int z575) (.int z576) (.long z577) (.int z613) (.int z614) (.int z615) (.int 1) (.int x_mm_reading))))] H := hP
              replace hD : va_D A [(h_nv, .inl (cy_nv, 8000, .inl f97)), (h_nn, .inl (cy_nn, 8000, .inr (.inl f98))), (h_na, .inl (cy_na, 8000, .inl f99)), (h_nb, .inl (cy_nb, 8000, .inl f131)), (h_nc, .inl (cy_nc, 8000, .inl f101)), (h_vrs, .inl (cy_vrs, 32, .inl f102)), (h_let, .inl (cy_let, 256, .inl f103)), (h_tap, .inl (cy_tap, 600, .inl f_tap)), (h_mm, .inr (8, (mo126 v_mm (.ref h_nv) (.ref h_nn) (.ref h_na) (.ref h_nb) (.ref h_nc) (.int z88) (.ref h_vrs) (.ref h_let) (.ref h_tap) (.int x_mm_taped) (.int z573) (.int z574) (.int z575) (.int z576) (.long z577) (.int z613) (.int z614) (.int z615) (.int 1) (.int x_mm_reading))))] := hD
              clear evq611 
              obtain ⟨k616, k617, k618⟩ := hq
              replace k616 : 0 ≤ ((z613)).toInt ∧ ((z613)).toInt ≤ 1 := k616
              replace k617 : ((z613)).toInt = 1 := k617
              replace k618 : (((z94)).toInt = 1 ∧ ((z614)).toInt = ((z95)).toInt ∧ ((z615)).toInt = ((z96)).toInt) ∨ (((z94)).toInt = 0 ∧ ((z614)).toInt = ((1 : Int32)).toInt ∧ ((z615)).toInt = ((z574)).toInt) := k618
              refine lv_aload_n hx hb dX11_readsParts_133 rfl (lv_at hl 0 rfl) ?_
              refine lv_aload_n hx hb dX11_readsParts_134 rfl (lv_at hl 0 rfl) ?_
              refine va_get (D := (dC, dI)) (ci := 8) (v := .int 1) (C := RX11) (T := TX11) (N := 71) hx hb hw iwX11 hown hK hP 8 rfl rfl 23 (by decide) (hw _ w_f_X11_130) (fun _ h9 => h9) rfl dX11_readsParts_135 ?_
              refine lv_iconst (v := 1) hx hb dX11_readsParts_138 (by decide) ?_
              refine lv_isub hx hb dX11_readsParts_139 ?_
              refine lv_topi (fun z619 ez619 => ?_)
              obtain rfl : z619 = 0 := ez619.trans (by decide)
              refine va_put (D := (dC, dI)) (ci := 8) (v := .int 0) (ty := tyX11 23) (C := RX11) (T := TX11) (N := 71) hx hb hw iwX11 tyX11 tyX11_ok nmX11 hown hK hP hD hS 8 rfl rfl 23 (by decide) (hw _ w_f_X11_130) (fun _ h9 => h9) rfl (tyX11_ok 23 (by decide)) rfl rfl (Nat.le_of_ble_eq_true rfl) dX11_readsParts_140 (fun H locs hP9 hD9 hS9 => ?_)
              clear hP hD hS
              have hP : va_P (dC, dI) cls [(h_nv, .inl (cy_nv, 8000, .inl f97)), (h_nn, .inl (cy_nn, 8000, .inr (.inl f98))), (h_na, .inl (cy_na, 8000, .inl f99)), (h_nb, .inl (cy_nb, 8000, .inl f131)), (h_nc, .inl (cy_nc, 8000, .inl f101)), (h_vrs, .inl (cy_vrs, 32, .inl f102)), (h_let, .inl (cy_let, 256, .inl f103)), (h_tap, .inl (cy_tap, 600, .inl f_tap)), (h_mm, .inr (8, (mo126 v_mm (.ref h_nv) (.ref h_nn) (.ref h_na) (.ref h_nb) (.ref h_nc) (.int z88) (.ref h_vrs) (.ref h_let) (.ref h_tap) (.int x_mm_taped) (.int z573) (.int z574) (.int z575) (.int z576) (.long z577) (.int z613) (.int z614) (.int z615) (.int 0) (.int x_mm_reading))))] H := hP9
              have hD : va_D A [(h_nv, .inl (cy_nv, 8000, .inl f97)), (h_nn, .inl (cy_nn, 8000, .inr (.inl f98))), (h_na, .inl (cy_na, 8000, .inl f99)), (h_nb, .inl (cy_nb, 8000, .inl f131)), (h_nc, .inl (cy_nc, 8000, .inl f101)), (h_vrs, .inl (cy_vrs, 32, .inl f102)), (h_let, .inl (cy_let, 256, .inl f103)), (h_tap, .inl (cy_tap, 600, .inl f_tap)), (h_mm, .inr (8, (mo126 v_mm (.ref h_nv) (.ref h_nn) (.ref h_na) (.ref h_nb) (.ref h_nc) (.int z88) (.ref h_vrs) (.ref h_let) (.ref h_tap) (.int x_mm_taped) (.int z573) (.int z574) (.int z575) (.int z576) (.long z577) (.int z613) (.int z614) (.int z615) (.int 0) (.int x_mm_reading))))] := hD9
              have hS := hS9
              clear hP9 hD9 hS9
              replace hP : va_P (dC, dI) cls [(h_mm, .inr (8, (mo126 v_mm (.ref h_nv) (.ref h_nn) (.ref h_na) (.ref h_nb) (.ref h_nc) (.int z88) (.ref h_vrs) (.ref h_let) (.ref h_tap) (.int x_mm_taped) (.int z573) (.int z574) (.int z575) (.int z576) (.long z577) (.int z613) (.int z614) (.int z615) (.int 0) (.int x_mm_reading)))), (h_tap, .inl (cy_tap, 600, .inl f_tap)), (h_nv, .inl (cy_nv, 8000, .inl f97)), (h_nn, .inl (cy_nn, 8000, .inr (.inl f98))), (h_na, .inl (cy_na, 8000, .inl f99)), (h_nb, .inl (cy_nb, 8000, .inl f131)), (h_nc, .inl (cy_nc, 8000, .inl f101)), (h_vrs, .inl (cy_vrs, 32, .inl f102)), (h_let, .inl (cy_let, 256, .inl f103))] H := hP.sub [8, 7, 0, 1, 2, 3, 4, 5, 6] rfl
              replace hD : va_D A [(h_mm, .inr (8, (mo126 v_mm (.ref h_nv) (.ref h_nn) (.ref h_na) (.ref h_nb) (.ref h_nc) (.int z88) (.ref h_vrs) (.ref h_let) (.ref h_tap) (.int x_mm_taped) (.int z573) (.int z574) (.int z575) (.int z576) (.long z577) (.int z613) (.int z614) (.int z615) (.int 0) (.int x_mm_reading)))), (h_tap, .inl (cy_tap, 600, .inl f_tap)), (h_nv, .inl (cy_nv, 8000, .inl f97)), (h_nn, .inl (cy_nn, 8000, .inr (.inl f98))), (h_na, .inl (cy_na, 8000, .inl f99)), (h_nb, .inl (cy_nb, 8000, .inl f131)), (h_nc, .inl (cy_nc, 8000, .inl f101)), (h_vrs, .inl (cy_vrs, 32, .inl f102)), (h_let, .inl (cy_let, 256, .inl f103))] := hD.sub [8, 7, 0, 1, 2, 3, 4, 5, 6] (by decide) rfl
              refine W.widen (k := 0) (n := 0) (Nat.le_of_ble_eq_true rfl) (Nat.le_of_ble_eq_true rfl) ?_
              have w620 : 0 ≤ ((z88)).toInt ∧ ((z88)).toInt ≤ 1200 := by first | exact k105 | omega
              have w621 : 0 ≤ ((z573)).toInt ∧ ((z573)).toInt ≤ 600 := by first | exact k578 | omega
              have w622 : 0 ≤ ((z574)).toInt ∧ ((z574)).toInt ≤ 600 := by first | exact k579 | omega
              have w623 : 0 ≤ ((z575)).toInt ∧ ((z575)).toInt ≤ 4 := by first | exact k580 | omega
              have w624 : 0 ≤ ((z613)).toInt ∧ ((z613)).toInt ≤ 1 := by first | exact k616 | omega
              have w625 : ((z574)).toInt ≤ ((z573)).toInt := by first | exact k581 | omega
              have w626 : ((z613)).toInt = 1 ∨ ((z88)).toInt ≤ lo + ((z574)).toInt := by omega
              have w627 : (x_mm_nodes).toInt ≤ ((z88)).toInt := by omega
              have w628 : (x_mm_place).toInt ≤ ((z574)).toInt := by omega
              have w629 : (x_mm_isFaulty).toInt ≤ ((z613)).toInt := by omega
              have w630 : (((z613)).toInt = 0 ∧ ((pPs G (x_mm_taped).toInt 6 (x_mm_place).toInt nv vf)).1 = 0 ∧ ((z614)).toInt = (x_mm_fault).toInt ∧ ((z615)).toInt = (x_mm_faultPlace).toInt) ∨ (((z613)).toInt = 1 ∧ ¬ ((pPs G (x_mm_taped).toInt 6 (x_mm_place).toInt nv vf)).1 = 0 ∧ ((z614)).toInt = ((pPs G (x_mm_taped).toInt 6 (x_mm_place).toInt nv vf)).1 ∧ ((z615)).toInt = ((pPs G (x_mm_taped).toInt 6 (x_mm_place).toInt nv vf)).2.1) := by omega
              have w631 : ((z574)).toInt = ((pPs G (x_mm_taped).toInt 6 (x_mm_place).toInt nv vf)).2.1 := by omega
              have w632 : 0 ≤ ((pPs G (x_mm_taped).toInt 6 (x_mm_place).toInt nv vf)).2.2.1 ∧ ((pPs G (x_mm_taped).toInt 6 (x_mm_place).toInt nv vf)).2.2.1 ≤ 8 := by omega
              have w633 : ((z575)).toInt = kd (tkT G (x_mm_taped).toInt ((z574)).toInt) := by first | exact k582 | omega
              have w634 : ((z575)).toInt = 0 ∨ (((z573)).toInt = tkX G (x_mm_taped).toInt ((z574)).toInt ∧ ((z576)).toInt = G ((z574)).toInt ∧ ((z574)).toInt < (x_mm_taped).toInt ∧ ((z574)).toInt + 1 ≤ ((z573)).toInt) := by first | exact k583 | omega
              have w635 : ((z573)).toInt ≤ (x_mm_taped).toInt := by first | exact k584 | omega
              have w636 : ((z574)).toInt ≤ (x_mm_taped).toInt := by first | exact k585 | omega
              have w637 : EQ0 lo za zb zc zv (f99) (f131) (f101) (f97) := nd133
              have w638 : ND lo ((z88)).toInt (gh104) (f99) (f131) (f101) := (nd_cast nd132 (by omega))
              have w639 : ∀ y : Nat, (y : Int) < (x_mm_nodes).toInt → (gh104) y = hh y := (fun y hy => (k126 y (by omega)).trans ((k62 y (by omega)).trans (rfl)))
              have w640 : ((f102) (Int32.toNatClampNeg x_mm_reading)).toInt = ((pPs G (x_mm_taped).toInt 6 (x_mm_place).toInt nv vf)).2.2.1 := (k127.trans pq6103.symm)
              have w641 : VFM ((pPs G (x_mm_taped).toInt 6 (x_mm_place).toInt nv vf)).2.2.1 ((pPs G (x_mm_taped).toInt 6 (x_mm_place).toInt nv vf)).2.2.2 (f103) (x_mm_reading).toInt := (by rw [pq6103, pq6104]; exact k128)
              exact W.vret hx hb hr (fun t ht hW => ⟨⟨(z88, z573, z574, z575, z576, z577, z613, z614, z615, f97, f98, f99, f131, f101, f102, f103, gh104), rfl, ⟨w620, w621, w622, w623, w624, hf97, hf99, hf131, hf101, hf102, w625, w626, w627, w628, w629, w630, w631, w632, w633, w634, w635, w636, w637, w638, w639, w640, w641⟩, by rw [ht]; exact hP, hD⟩, hS.F ht⟩) hS.2.2 dX11_readsParts_143
        · clear k112
          refine va_iast hx hb hK hP hD hS 5 4 rfl rfl (i := p1) (x := r87) (vp_in_iff.mpr (by omega)) dX11_readsParts_74 (fun H locs hP9 hD9 hS9 => ?_)
          obtain ⟨f642, ef642⟩ : ∃ g : Nat → Int32, g = upd f100 (Int32.toNatClampNeg p1) r87 := ⟨_, rfl⟩
          clear hP hD hS
          have hP : va_P (dC, dI) cls [(h_mm, .inr (8, (mo126 v_mm (.ref h_nv) (.ref h_nn) (.ref h_na) (.ref h_nb) (.ref h_nc) (.int z88) (.ref h_vrs) (.ref h_let) (.ref h_tap) (.int x_mm_taped) (.int z89) (.int z90) (.int z91) (.int z92) (.long z93) (.int z94) (.int z95) (.int z96) (.int 1) (.int x_mm_reading)))), (h_tap, .inl (cy_tap, 600, .inl f_tap)), (h_nv, .inl (cy_nv, 8000, .inl f97)), (h_nn, .inl (cy_nn, 8000, .inr (.inl f98))), (h_na, .inl (cy_na, 8000, .inl f99)), (h_nb, .inl (cy_nb, 8000, .inl f642)), (h_nc, .inl (cy_nc, 8000, .inl f101)), (h_vrs, .inl (cy_vrs, 32, .inl f102)), (h_let, .inl (cy_let, 256, .inl f103))] H := by rw [ef642]; exact hP9
          have hD : va_D A [(h_mm, .inr (8, (mo126 v_mm (.ref h_nv) (.ref h_nn) (.ref h_na) (.ref h_nb) (.ref h_nc) (.int z88) (.ref h_vrs) (.ref h_let) (.ref h_tap) (.int x_mm_taped) (.int z89) (.int z90) (.int z91) (.int z92) (.long z93) (.int z94) (.int z95) (.int z96) (.int 1) (.int x_mm_reading)))), (h_tap, .inl (cy_tap, 600, .inl f_tap)), (h_nv, .inl (cy_nv, 8000, .inl f97)), (h_nn, .inl (cy_nn, 8000, .inr (.inl f98))), (h_na, .inl (cy_na, 8000, .inl f99)), (h_nb, .inl (cy_nb, 8000, .inl f642)), (h_nc, .inl (cy_nc, 8000, .inl f101)), (h_vrs, .inl (cy_vrs, 32, .inl f102)), (h_let, .inl (cy_let, 256, .inl f103))] := by rw [ef642]; exact hD9
          have hS := hS9
          clear hP9 hD9 hS9
          have hf642 : Rg (-1) 7999 f642 := by rw [ef642]; exact rg_upd hf100 (by omega)
          have nd643 : ND lo (z88).toInt gh104 f99 f642 f101 := by rw [ef642]; exact nd_setB (n := (z88).toInt) (nd_cast k125 (by omega)) (by omega) (by unfold NDk; omega)
          have nd644 : EQ0 lo za zb zc zv f99 f642 f101 f97 := by rw [ef642]; exact eq0_B k124 (by omega) (by omega)
          clear k116
          clear ef642
          refine lv_aload_n hx hb dX11_readsParts_75 rfl (lv_at hl 0 rfl) ?_
          refine lv_bipush (v := 44) hx hb dX11_readsParts_76 (by decide) ?_
          obtain ⟨vq645, evq645⟩ := mq126_92 v_mm (.ref h_nv) (.ref h_nn) (.ref h_na) (.ref h_nb) (.ref h_nc) (.int z88) (.ref h_vrs) (.ref h_let) (.int z95) (.int z96) (.int 1) (.int x_mm_reading)
          replace hP : va_P (dC, dI) cls [(h_mm, .inr (8, (mo92 vq645 (.ref h_tap) (.int x_mm_taped) (.int z89) (.int z90) (.int z91) (.int z92) (.long z93) (.int z94)))), (h_tap, .inl (cy_tap, 600, .inl f_tap)), (h_nv, .inl (cy_nv, 8000, .inl f97)), (h_nn, .inl (cy_nn, 8000, .inr (.inl f98))), (h_na, .inl (cy_na, 8000, .inl f99)), (h_nb, .inl (cy_nb, 8000, .inl f642)), (h_nc, .inl (cy_nc, 8000, .inl f101)), (h_vrs, .inl (cy_vrs, 32, .inl f102)), (h_let, .inl (cy_let, 256, .inl f103))] H := by rw [evq645]; exact hP
          replace hD : va_D A [(h_mm, .inr (8, (mo92 vq645 (.ref h_tap) (.int x_mm_taped) (.int z89) (.int z90) (.int z91) (.int z92) (.long z93) (.int z94)))), (h_tap, .inl (cy_tap, 600, .inl f_tap)), (h_nv, .inl (cy_nv, 8000, .inl f97)), (h_nn, .inl (cy_nn, 8000, .inr (.inl f98))), (h_na, .inl (cy_na, 8000, .inl f99)), (h_nb, .inl (cy_nb, 8000, .inl f642)), (h_nc, .inl (cy_nc, 8000, .inl f101)), (h_vrs, .inl (cy_vrs, 32, .inl f102)), (h_let, .inl (cy_let, 256, .inl f103))] := by rw [evq645]; exact hD
          have cst44 : (44 : Int32).toInt = 44 := by decide
          have hPc := hP.sub (ws' := [(h_mm, .inr (8, (mo92 vq645 (.ref h_tap) (.int x_mm_taped) (.int z89) (.int z90) (.int z91) (.int z92) (.long z93) (.int z94)))), (h_tap, .inl (cy_tap, 600, .inl f_tap))]) [0, 1] rfl
          have hDc := hD.sub (ws' := [(h_mm, .inr (8, (mo92 vq645 (.ref h_tap) (.int x_mm_taped) (.int z89) (.int z90) (.int z91) (.int z92) (.long z93) (.int z94)))), (h_tap, .inl (cy_tap, 600, .inl f_tap))]) [0, 1] (by decide) rfl
          have hKc := hK.sub (tys' := [(cy_tap, .byte)]) [0] rfl
          have hFc := va_free (wc := [(h_mm, .inr (8, (mo92 vq645 (.ref h_tap) (.int x_mm_taped) (.int z89) (.int z90) (.int z91) (.int z92) (.long z93) (.int z94)))), (h_tap, .inl (cy_tap, 600, .inl f_tap))]) hD hS hA [0, 1] rfl
          refine va_calli (va_runV (As := [.int 44]) (rest := []) ⟨hx, hb, hml, hown, hts⟩ (c_X11_passes l dC dI H.size h_mm h_tap vq645 x_mm_taped z89 z90 z91 z92 z93 z94 cy_tap f_tap 44 G (by first | exact hx_mm_taped | omega) (by first | exact k106 | omega) (by first | exact k107 | omega) (by first | exact k108 | omega) (by first | exact k109 | omega) (by first | exact k111 | omega) (by omega) (by omega) (by first | exact k120 | omega) (by first | exact k121 | omega) (by first | exact k122 | omega) (by first | exact k123 | omega) hn_tapq) (cwV 1 hts (gv hT w_m_X11_136 w_instanceMethod_X11_passes ws_sel_X11_passes w_ini_X11 w_code_X11_passes) rfl rfl rfl (by decide +kernel) ⟨(Nat.le_of_ble_eq_true rfl), (Nat.le_of_ble_eq_true rfl)⟩) ⟨pre_blind, va_recv hK hP (ci := 8) (q0 := 0) rfl rfl, pre_of hPc hKc hDc hN⟩ rfl rfl hl.1 rfl (lv_room (Nat.le_of_ble_eq_true rfl)) dX11_readsParts_78 ⟨(Nat.le_of_ble_eq_true rfl), (Nat.le_of_ble_eq_true rfl)⟩) hS (fun q _ h => hFc q h) hFc (fun r646 u t H locs ht hvm hq hB hz1 hk1 hS9 => ?_)
          obtain ⟨z647, z648, z649, z650, z651⟩ := u
          obtain ⟨hP1, hD1⟩ := hB
          rw [ht] at hP1
          obtain ⟨hP9, hD9⟩ := va_join (wr := [(h_nv, .inl (cy_nv, 8000, .inl f97)), (h_nn, .inl (cy_nn, 8000, .inr (.inl f98))), (h_na, .inl (cy_na, 8000, .inl f99)), (h_nb, .inl (cy_nb, 8000, .inl f642)), (h_nc, .inl (cy_nc, 8000, .inl f101)), (h_vrs, .inl (cy_vrs, 32, .inl f102)), (h_let, .inl (cy_let, 256, .inl f103))]) (w1 := [(h_mm, .inr (8, (mo92 vq645 (.ref h_tap) (.int x_mm_taped) (.int z647) (.int z648) (.int z649) (.int z650) (.long z651) (.int z94)))), (h_tap, .inl (cy_tap, 600, .inl f_tap))]) hP hD [0, 1] [2, 3, 4, 5, 6, 7, 8] rfl rfl (by decide) (by decide) hk1 hFc hP1 hD1
          clear hP hD hS hPc hDc hKc hFc hP1 hD1 hk1 hz1 ht hvm
          have hP : va_P (dC, dI) cls [(h_nv, .inl (cy_nv, 8000, .inl f97)), (h_nn, .inl (cy_nn, 8000, .inr (.inl f98))), (h_na, .inl (cy_na, 8000, .inl f99)), (h_nb, .inl (cy_nb, 8000, .inl f642)), (h_nc, .inl (cy_nc, 8000, .inl f101)), (h_vrs, .inl (cy_vrs, 32, .inl f102)), (h_let, .inl (cy_let, 256, .inl f103)), (h_mm, .inr (8, (mo92 vq645 (.ref h_tap) (.int x_mm_taped) (.int z647) (.int z648) (.int z649) (.int z650) (.long z651) (.int z94)))), (h_tap, .inl (cy_tap, 600, .inl f_tap))] H := hP9
          have hD : va_D A [(h_nv, .inl (cy_nv, 8000, .inl f97)), (h_nn, .inl (cy_nn, 8000, .inr (.inl f98))), (h_na, .inl (cy_na, 8000, .inl f99)), (h_nb, .inl (cy_nb, 8000, .inl f642)), (h_nc, .inl (cy_nc, 8000, .inl f101)), (h_vrs, .inl (cy_vrs, 32, .inl f102)), (h_let, .inl (cy_let, 256, .inl f103)), (h_mm, .inr (8, (mo92 vq645 (.ref h_tap) (.int x_mm_taped) (.int z647) (.int z648) (.int z649) (.int z650) (.long z651) (.int z94)))), (h_tap, .inl (cy_tap, 600, .inl f_tap))] := hD9
          have hS := hS9
          clear hP9 hD9 hS9
          rw [evq645] at hP hD
          replace hP : va_P (dC, dI) cls [(h_nv, .inl (cy_nv, 8000, .inl f97)), (h_nn, .inl (cy_nn, 8000, .inr (.inl f98))), (h_na, .inl (cy_na, 8000, .inl f99)), (h_nb, .inl (cy_nb, 8000, .inl f642)), (h_nc, .inl (cy_nc, 8000, .inl f101)), (h_vrs, .inl (cy_vrs, 32, .inl f102)), (h_let, .inl (cy_let, 256, .inl f103)), (h_mm, .inr (8, (mo126 v_mm (.ref h_nv) (.ref h_nn) (.ref h_na) (.ref h_nb) (.ref h_nc) (.int z88) (.ref h_vrs) (.ref h_let) (.ref h_tap) (.int x_mm_taped) (.int z647) (.int z648) (.int z649) (.int z650) (.long z651) (.int z94) (.int z95) (.int z96) (.int 1) (.int x_mm_reading)))), (h_tap, .inl (cy_tap, 600, .inl f_tap))] H := hP
          replace hD : va_D A [(h_nv, .inl (cy_nv, 8000, .inl f97)), (h_nn, .inl (cy_nn, 8000, .inr (.inl f98))), (h_na, .inl (cy_na, 8000, .inl f99)), (h_nb, .inl (cy_nb, 8000, .inl f642)), (h_nc, .inl (cy_nc, 8000, .inl f101)), (h_vrs, .inl (cy_vrs, 32, .inl f102)), (h_let, .inl (cy_let, 256, .inl f103)), (h_mm, .inr (8, (mo126 v_mm (.ref h_nv) (.ref h_nn) (.ref h_na) (.ref h_nb) (.ref h_nc) (.int z88) (.ref h_vrs) (.ref h_let) (.ref h_tap) (.int x_mm_taped) (.int z647) (.int z648) (.int z649) (.int z650) (.long z651) (.int z94) (.int z95) (.int z96) (.int 1) (.int x_mm_reading)))), (h_tap, .inl (cy_tap, 600, .inl f_tap))] := hD
          clear evq645 
          obtain ⟨k652, k653, k654, k655, k656, k657, k658, k659, hq⟩ := hq
          replace k652 : 0 ≤ ((z647)).toInt ∧ ((z647)).toInt ≤ 600 := k652
          replace k653 : 0 ≤ ((z648)).toInt ∧ ((z648)).toInt ≤ 600 := k653
          replace k654 : 0 ≤ ((z649)).toInt ∧ ((z649)).toInt ≤ 4 := k654
          replace k655 : ((z648)).toInt ≤ ((z647)).toInt := k655
          replace k656 : ((z649)).toInt = kd (tkT (G) ((x_mm_taped)).toInt ((z648)).toInt) := k656
          replace k657 : ((z649)).toInt = 0 ∨ (((z647)).toInt = tkX (G) ((x_mm_taped)).toInt ((z648)).toInt ∧ ((z650)).toInt = (G) ((z648)).toInt ∧ ((z648)).toInt < ((x_mm_taped)).toInt ∧ ((z648)).toInt + 1 ≤ ((z647)).toInt) := k657
          replace k658 : ((z647)).toInt ≤ ((x_mm_taped)).toInt := k658
          replace k659 : ((z648)).toInt ≤ ((x_mm_taped)).toInt := k659
          rcases hq with ⟨rfl, hq⟩ | ⟨rfl, hq⟩ | ⟨rfl, hq⟩
          · replace hq : (((z94)).toInt = 0) ∧ (tkT (G) ((x_mm_taped)).toInt ((z90)).toInt = ((44 : Int32)).toInt) ∧ (((z648)).toInt = tkN (G) ((x_mm_taped)).toInt ((z90)).toInt) ∧ (((z89)).toInt ≤ ((z648)).toInt) ∧ (((z90)).toInt + 1 ≤ ((z648)).toInt) := hq
            exact False.elim (by omega)
          · replace hq : (((z648)).toInt = ((z90)).toInt) ∧ (((z647)).toInt = ((z89)).toInt) ∧ (((z649)).toInt = ((z91)).toInt) ∧ (((z94)).toInt = 1) := hq
            clear k121
            have no9 := pLo_no (G := G) (n := (x_mm_taped).toInt) (P := (pPs G (x_mm_taped).toInt 5)) (r := 1) (q := (z26).toInt) (nv := (rh65).2.2.1) (vf := (rh65).2.2.2) (by rw [← erh129]; omega)
            rw [← erh129] at no9
            have rq9 : (pPs G (x_mm_taped).toInt 6 (x_mm_place).toInt nv vf) = rh129 := lo85.symm.trans no9
            have pq6601 : ((pPs G (x_mm_taped).toInt 6 (x_mm_place).toInt nv vf)).1 = (rh129).1 := by rw [rq9]
            have pq6602 : ((pPs G (x_mm_taped).toInt 6 (x_mm_place).toInt nv vf)).2.1 = (rh129).2.1 := by rw [rq9]
            have pq6603 : ((pPs G (x_mm_taped).toInt 6 (x_mm_place).toInt nv vf)).2.2.1 = (rh129).2.2.1 := by rw [rq9]
            have pq6604 : ((pPs G (x_mm_taped).toInt 6 (x_mm_place).toInt nv vf)).2.2.2 = (rh129).2.2.2 := by rw [rq9]
            refine lv_if_eq (tgt := 119) hx hb dX11_readsParts_81 (by decide) (fun _ => ?_) (fun c9 => absurd c9 (by decide))
            refine lv_aload_n hx hb dX11_readsParts_119 rfl (lv_at hl 0 rfl) ?_
            refine lv_bipush (v := 41) hx hb dX11_readsParts_120 (by decide) ?_
            obtain ⟨vq661, evq661⟩ := mq126_92 v_mm (.ref h_nv) (.ref h_nn) (.ref h_na) (.ref h_nb) (.ref h_nc) (.int z88) (.ref h_vrs) (.ref h_let) (.int z95) (.int z96) (.int 1) (.int x_mm_reading)
            replace hP : va_P (dC, dI) cls [(h_nv, .inl (cy_nv, 8000, .inl f97)), (h_nn, .inl (cy_nn, 8000, .inr (.inl f98))), (h_na, .inl (cy_na, 8000, .inl f99)), (h_nb, .inl (cy_nb, 8000, .inl f642)), (h_nc, .inl (cy_nc, 8000, .inl f101)), (h_vrs, .inl (cy_vrs, 32, .inl f102)), (h_let, .inl (cy_let, 256, .inl f103)), (h_mm, .inr (8, (mo92 vq661 (.ref h_tap) (.int x_mm_taped) (.int z647) (.int z648) (.int z649) (.int z650) (.long z651) (.int z94)))), (h_tap, .inl (cy_tap, 600, .inl f_tap))] H := by rw [evq661]; exact hP
            replace hD : va_D A [(h_nv, .inl (cy_nv, 8000, .inl f97)), (h_nn, .inl (cy_nn, 8000, .inr (.inl f98))), (h_na, .inl (cy_na, 8000, .inl f99)), (h_nb, .inl (cy_nb, 8000, .inl f642)), (h_nc, .inl (cy_nc, 8000, .inl f101)), (h_vrs, .inl (cy_vrs, 32, .inl f102)), (h_let, .inl (cy_let, 256, .inl f103)), (h_mm, .inr (8, (mo92 vq661 (.ref h_tap) (.int x_mm_taped) (.int z647) (.int z648) (.int z649) (.int z650) (.long z651) (.int z94)))), (h_tap, .inl (cy_tap, 600, .inl f_tap))] := by rw [evq661]; exact hD
            have cst41 : (41 : Int32).toInt = 41 := by decide
            have hPc := hP.sub (ws' := [(h_mm, .inr (8, (mo92 vq661 (.ref h_tap) (.int x_mm_taped) (.int z647) (.int z648) (.int z649) (.int z650) (.long z651) (.int z94)))), (h_tap, .inl (cy_tap, 600, .inl f_tap))]) [7, 8] rfl
            have hDc := hD.sub (ws' := [(h_mm, .inr (8, (mo92 vq661 (.ref h_tap) (.int x_mm_taped) (.int z647) (.int z648) (.int z649) (.int z650) (.long z651) (.int z94)))), (h_tap, .inl (cy_tap, 600, .inl f_tap))]) [7, 8] (by decide) rfl
            have hKc := hK.sub (tys' := [(cy_tap, .byte)]) [0] rfl
            have hFc := va_free (wc := [(h_mm, .inr (8, (mo92 vq661 (.ref h_tap) (.int x_mm_taped) (.int z647) (.int z648) (.int z649) (.int z650) (.long z651) (.int z94)))), (h_tap, .inl (cy_tap, 600, .inl f_tap))]) hD hS hA [7, 8] rfl
            refine va_calli (va_runV (As := [.int 41]) (rest := []) ⟨hx, hb, hml, hown, hts⟩ (c_X11_passes l dC dI H.size h_mm h_tap vq661 x_mm_taped z647 z648 z649 z650 z651 z94 cy_tap f_tap 41 G (by first | exact hx_mm_taped | omega) (by first | exact k652 | omega) (by first | exact k653 | omega) (by first | exact k654 | omega) (by first | exact k109 | omega) (by first | exact k655 | omega) (by omega) (by omega) (by first | exact k656 | omega) (by first | exact k657 | omega) (by first | exact k658 | omega) (by first | exact k659 | omega) hn_tapq) (cwV 1 hts (gv hT w_m_X11_136 w_instanceMethod_X11_passes ws_sel_X11_passes w_ini_X11 w_code_X11_passes) rfl rfl rfl (by decide +kernel) ⟨(Nat.le_of_ble_eq_true rfl), (Nat.le_of_ble_eq_true rfl)⟩) ⟨pre_blind, va_recv hK hP (ci := 8) (q0 := 7) rfl rfl, pre_of hPc hKc hDc hN⟩ rfl rfl hl.1 rfl (lv_room (Nat.le_of_ble_eq_true rfl)) dX11_readsParts_122 ⟨(Nat.le_of_ble_eq_true rfl), (Nat.le_of_ble_eq_true rfl)⟩) hS (fun q _ h => hFc q h) hFc (fun r662 u t H locs ht hvm hq hB hz1 hk1 hS9 => ?_)
            obtain ⟨z663, z664, z665, z666, z667⟩ := u
            obtain ⟨hP1, hD1⟩ := hB
            rw [ht] at hP1
            obtain ⟨hP9, hD9⟩ := va_join (wr := [(h_nv, .inl (cy_nv, 8000, .inl f97)), (h_nn, .inl (cy_nn, 8000, .inr (.inl f98))), (h_na, .inl (cy_na, 8000, .inl f99)), (h_nb, .inl (cy_nb, 8000, .inl f642)), (h_nc, .inl (cy_nc, 8000, .inl f101)), (h_vrs, .inl (cy_vrs, 32, .inl f102)), (h_let, .inl (cy_let, 256, .inl f103))]) (w1 := [(h_mm, .inr (8, (mo92 vq661 (.ref h_tap) (.int x_mm_taped) (.int z663) (.int z664) (.int z665) (.int z666) (.long z667) (.int z94)))), (h_tap, .inl (cy_tap, 600, .inl f_tap))]) hP hD [7, 8] [0, 1, 2, 3, 4, 5, 6] rfl rfl (by decide) (by decide) hk1 hFc hP1 hD1
            clear hP hD hS hPc hDc hKc hFc hP1 hD1 hk1 hz1 ht hvm
            have hP : va_P (dC, dI) cls [(h_nv, .inl (cy_nv, 8000, .inl f97)), (h_nn, .inl (cy_nn, 8000, .inr (.inl f98))), (h_na, .inl (cy_na, 8000, .inl f99)), (h_nb, .inl (cy_nb, 8000, .inl f642)), (h_nc, .inl (cy_nc, 8000, .inl f101)), (h_vrs, .inl (cy_vrs, 32, .inl f102)), (h_let, .inl (cy_let, 256, .inl f103)), (h_mm, .inr (8, (mo92 vq661 (.ref h_tap) (.int x_mm_taped) (.int z663) (.int z664) (.int z665) (.int z666) (.long z667) (.int z94)))), (h_tap, .inl (cy_tap, 600, .inl f_tap))] H := hP9
            have hD : va_D A [(h_nv, .inl (cy_nv, 8000, .inl f97)), (h_nn, .inl (cy_nn, 8000, .inr (.inl f98))), (h_na, .inl (cy_na, 8000, .inl f99)), (h_nb, .inl (cy_nb, 8000, .inl f642)), (h_nc, .inl (cy_nc, 8000, .inl f101)), (h_vrs, .inl (cy_vrs, 32, .inl f102)), (h_let, .inl (cy_let, 256, .inl f103)), (h_mm, .inr (8, (mo92 vq661 (.ref h_tap) (.int x_mm_taped) (.int z663) (.int z664) (.int z665) (.int z666) (.long z667) (.int z94)))), (h_tap, .inl (cy_tap, 600, .inl f_tap))] := hD9
            have hS := hS9
            clear hP9 hD9 hS9
            rw [evq661] at hP hD
            replace hP : va_P (dC, dI) cls [(h_nv, .inl (cy_nv, 8000, .inl f97)), (h_nn, .inl (cy_nn, 8000, .inr (.inl f98))), (h_na, .inl (cy_na, 8000, .inl f99)), (h_nb, .inl (cy_nb, 8000, .inl f642)), (h_nc, .inl (cy_nc, 8000, .inl f101)), (h_vrs, .inl (cy_vrs, 32, .inl f102)), (h_let, .inl (cy_let, 256, .inl f103)), (h_mm, .inr (8, (mo126 v_mm (.ref h_nv) (.ref h_nn) (.ref h_na) (.ref h_nb) (.ref h_nc) (.int z88) (.ref h_vrs) (.ref h_let) (.ref h_tap) (.int x_mm_taped) (.int z663) (.int z664) (.int z665) (.int z666) (.long z667) (.int z94) (.int z95) (.int z96) (.int 1) (.int x_mm_reading)))), (h_tap, .inl (cy_tap, 600, .inl f_tap))] H := hP
            replace hD : va_D A [(h_nv, .inl (cy_nv, 8000, .inl f97)), (h_nn, .inl (cy_nn, 8000, .inr (.inl f98))), (h_na, .inl (cy_na, 8000, .inl f99)), (h_nb, .inl (cy_nb, 8000, .inl f642)), (h_nc, .inl (cy_nc, 8000, .inl f101)), (h_vrs, .inl (cy_vrs, 32, .inl f102)), (h_let, .inl (cy_let, 256, .inl f103)), (h_mm, .inr (8, (mo126 v_mm (.ref h_nv) (.ref h_nn) (.ref h_na) (.ref h_nb) (.ref h_nc) (.int z88) (.ref h_vrs) (.ref h_let) (.ref h_tap) (.int x_mm_taped) (.int z663) (.int z664) (.int z665) (.int z666) (.long z667) (.int z94) (.int z95) (.int z96) (.int 1) (.int x_mm_reading)))), (h_tap, .inl (cy_tap, 600, .inl f_tap))] := hD
            clear evq661 
            obtain ⟨k668, k669, k670, k671, k672, k673, k674, k675, hq⟩ := hq
            replace k668 : 0 ≤ ((z663)).toInt ∧ ((z663)).toInt ≤ 600 := k668
            replace k669 : 0 ≤ ((z664)).toInt ∧ ((z664)).toInt ≤ 600 := k669
            replace k670 : 0 ≤ ((z665)).toInt ∧ ((z665)).toInt ≤ 4 := k670
            replace k671 : ((z664)).toInt ≤ ((z663)).toInt := k671
            replace k672 : ((z665)).toInt = kd (tkT (G) ((x_mm_taped)).toInt ((z664)).toInt) := k672
            replace k673 : ((z665)).toInt = 0 ∨ (((z663)).toInt = tkX (G) ((x_mm_taped)).toInt ((z664)).toInt ∧ ((z666)).toInt = (G) ((z664)).toInt ∧ ((z664)).toInt < ((x_mm_taped)).toInt ∧ ((z664)).toInt + 1 ≤ ((z663)).toInt) := k673
            replace k674 : ((z663)).toInt ≤ ((x_mm_taped)).toInt := k674
            replace k675 : ((z664)).toInt ≤ ((x_mm_taped)).toInt := k675
            rcases hq with ⟨rfl, hq⟩ | ⟨rfl, hq⟩ | ⟨rfl, hq⟩
            · replace hq : (((z94)).toInt = 0) ∧ (tkT (G) ((x_mm_taped)).toInt ((z648)).toInt = ((41 : Int32)).toInt) ∧ (((z664)).toInt = tkN (G) ((x_mm_taped)).toInt ((z648)).toInt) ∧ (((z647)).toInt ≤ ((z664)).toInt) ∧ (((z648)).toInt + 1 ≤ ((z664)).toInt) := hq
              exact False.elim (by omega)
            · replace hq : (((z664)).toInt = ((z648)).toInt) ∧ (((z663)).toInt = ((z647)).toInt) ∧ (((z665)).toInt = ((z649)).toInt) ∧ (((z94)).toInt = 1) := hq
              refine lv_if_ne (tgt := 133) hx hb dX11_readsParts_125 (by decide) (fun c9 => absurd c9 (by decide)) (fun _ => ?_)
              refine lv_aload_n hx hb dX11_readsParts_128 rfl (lv_at hl 0 rfl) ?_
              refine lv_iconst (v := 1) hx hb dX11_readsParts_129 (by decide) ?_
              obtain ⟨vq676, evq676⟩ := mq126_90 v_mm (.ref h_nv) (.ref h_nn) (.ref h_na) (.ref h_nb) (.ref h_nc) (.int z88) (.ref h_vrs) (.ref h_let) (.ref h_tap) (.int x_mm_taped) (.int z663) (.int z665) (.int z666) (.long z667) (.int 1) (.int x_mm_reading)
              replace hP : va_P (dC, dI) cls [(h_nv, .inl (cy_nv, 8000, .inl f97)), (h_nn, .inl (cy_nn, 8000, .inr (.inl f98))), (h_na, .inl (cy_na, 8000, .inl f99)), (h_nb, .inl (cy_nb, 8000, .inl f642)), (h_nc, .inl (cy_nc, 8000, .inl f101)), (h_vrs, .inl (cy_vrs, 32, .inl f102)), (h_let, .inl (cy_let, 256, .inl f103)), (h_mm, .inr (8, (mo90 vq676 (.int z664) (.int z94) (.int z95) (.int z96)))), (h_tap, .inl (cy_tap, 600, .inl f_tap))] H := by rw [evq676]; exact hP
              replace hD : va_D A [(h_nv, .inl (cy_nv, 8000, .inl f97)), (h_nn, .inl (cy_nn, 8000, .inr (.inl f98))), (h_na, .inl (cy_na, 8000, .inl f99)), (h_nb, .inl (cy_nb, 8000, .inl f642)), (h_nc, .inl (cy_nc, 8000, .inl f101)), (h_vrs, .inl (cy_vrs, 32, .inl f102)), (h_let, .inl (cy_let, 256, .inl f103)), (h_mm, .inr (8, (mo90 vq676 (.int z664) (.int z94) (.int z95) (.int z96)))), (h_tap, .inl (cy_tap, 600, .inl f_tap))] := by rw [evq676]; exact hD
              have cst1 : (1 : Int32).toInt = 1 := by decide
              have hPc := hP.sub (ws' := [(h_mm, .inr (8, (mo90 vq676 (.int z664) (.int z94) (.int z95) (.int z96))))]) [7] rfl
              have hDc := hD.sub (ws' := [(h_mm, .inr (8, (mo90 vq676 (.int z664) (.int z94) (.int z95) (.int z96))))]) [7] (by decide) rfl
              have hKc := hK.sub (tys' := []) [] rfl
              have hFc := va_free (wc := [(h_mm, .inr (8, (mo90 vq676 (.int z664) (.int z94) (.int z95) (.int z96))))]) hD hS hA [7] rfl
              refine va_callv (va_runV (As := [.int 1]) (rest := []) ⟨hx, hb, hml, hown, hts⟩ (c_X11_faulty l dC dI H.size h_mm vq676 z664 z94 z95 z96 1 (by first | exact k669 | omega) (by first | exact k109 | omega)) (cwV 1 hts (gv hT w_m_X11_111 w_instanceMethod_X11_faulty ws_sel_X11_faulty w_ini_X11 w_code_X11_faulty) rfl rfl rfl (by decide +kernel) ⟨(Nat.le_of_ble_eq_true rfl), (Nat.le_of_ble_eq_true rfl)⟩) ⟨pre_blind, va_recv hK hP (ci := 8) (q0 := 7) rfl rfl, pre_of hPc hKc hDc hN⟩ rfl rfl hl.1 rfl (lv_room (Nat.le_of_ble_eq_true rfl)) dX11_readsParts_130 ⟨(Nat.le_of_ble_eq_true rfl), (Nat.le_of_ble_eq_true rfl)⟩) hS (fun q _ h => hFc q h) hFc (fun u t H locs ht hvm hq hB hz1 hk1 hS9 => ?_)
              obtain ⟨z678, z679, z680⟩ := u
              obtain ⟨hP1, hD1⟩ := hB
              rw [ht] at hP1
              obtain ⟨hP9, hD9⟩ := va_join (wr := [(h_nv, .inl (cy_nv, 8000, .inl f97)), (h_nn, .inl (cy_nn, 8000, .inr (.inl f98))), (h_na, .inl (cy_na, 8000, .inl f99)), (h_nb, .inl (cy_nb, 8000, .inl f642)), (h_nc, .inl (cy_nc, 8000, .inl f101)), (h_vrs, .inl (cy_vrs, 32, .inl f102)), (h_let, .inl (cy_let, 256, .inl f103)), (h_tap, .inl (cy_tap, 600, .inl f_tap))]) (w1 := [(h_mm, .inr (8, (mo90 vq676 (.int z664) (.int z678) (.int z679) (.int z680))))]) hP hD [7] [0, 1, 2, 3, 4, 5, 6, 8] rfl rfl (by decide) (by decide) hk1 hFc hP1 hD1
              clear hP hD hS hPc hDc hKc hFc hP1 hD1 hk1 hz1 ht hvm
              have hP : va_P (dC, dI) cls [(h_nv, .inl (cy_nv, 8000, .inl f97)), (h_nn, .inl (cy_nn, 8000, .inr (.inl f98))), (h_na, .inl (cy_na, 8000, .inl f99)), (h_nb, .inl (cy_nb, 8000, .inl f642)), (h_nc, .inl (cy_nc, 8000, .inl f101)), (h_vrs, .inl (cy_vrs, 32, .inl f102)), (h_let, .inl (cy_let, 256, .inl f103)), (h_tap, .inl (cy_tap, 600, .inl f_tap)), (h_mm, .inr (8, (mo90 vq676 (.int z664) (.int z678) (.int z679) (.int z680))))] H := hP9
              have hD : va_D A [(h_nv, .inl (cy_nv, 8000, .inl f97)), (h_nn, .inl (cy_nn, 8000, .inr (.inl f98))), (h_na, .inl (cy_na, 8000, .inl f99)), (h_nb, .inl (cy_nb, 8000, .inl f642)), (h_nc, .inl (cy_nc, 8000, .inl f101)), (h_vrs, .inl (cy_vrs, 32, .inl f102)), (h_let, .inl (cy_let, 256, .inl f103)), (h_tap, .inl (cy_tap, 600, .inl f_tap)), (h_mm, .inr (8, (mo90 vq676 (.int z664) (.int z678) (.int z679) (.int z680))))] := hD9
              have hS := hS9
              clear hP9 hD9 hS9
              rw [evq676] at hP hD
              replace hP : va_P (dC, dI) cls [(h_nv, .inl (cy_nv, 8000, .inl f97)), (h_nn, .inl (cy_nn, 8000, .inr (.inl f98))), (h_na, .inl (cy_na, 8000, .inl f99)), (h_nb, .inl (cy_nb, 8000, .inl f642)), (h_nc, .inl (cy_nc, 8000, .inl f101)), (h_vrs, .inl (cy_vrs, 32, .inl f102)), (h_let, .inl (cy_let, 256, .inl f103)), (h_tap, .inl (cy_tap, 600, .inl f_tap)), (h_mm, .inr (8, (mo126 v_mm (.ref h_nv) (.ref h_nn) (.ref h_na) (.ref h_nb) (.ref h_nc) (.int z88) (.ref h_vrs) (.ref h_let) (.ref h_tap) (.int x_mm_taped) (.int z663) (.int z664) (.int z665) (.int z666) (.long z667) (.int z678) (.int z679) (.int z680) (.int 1) (.int x_mm_reading))))] H := hP
              replace hD : va_D A [(h_nv, .inl (cy_nv, 8000, .inl f97)), (h_nn, .inl (cy_nn, 8000, .inr (.inl f98))), (h_na, .inl (cy_na, 8000, .inl f99)), (h_nb, .inl (cy_nb, 8000, .inl f642)), (h_nc, .inl (cy_nc, 8000, .inl f101)), (h_vrs, .inl (cy_vrs, 32, .inl f102)), (h_let, .inl (cy_let, 256, .inl f103)), (h_tap, .inl (cy_tap, 600, .inl f_tap)), (h_mm, .inr (8, (mo126 v_mm (.ref h_nv) (.ref h_nn) (.ref h_na) (.ref h_nb) (.ref h_nc) (.int z88) (.ref h_vrs) (.ref h_let) (.ref h_tap) (.int x_mm_taped) (.int z663) (.int z664) (.int z665) (.int z666) (.long z667) (.int z678) (.int z679) (.int z680) (.int 1) (.int x_mm_reading))))] := hD
              clear evq676 
              obtain ⟨k681, k682, k683⟩ := hq
              replace k681 : 0 ≤ ((z678)).toInt ∧ ((z678)).toInt ≤ 1 := k681
              replace k682 : ((z678)).toInt = 1 := k682
              replace k683 : (((z94)).toInt = 1 ∧ ((z679)).toInt = ((z95)).toInt ∧ ((z680)).toInt = ((z96)).toInt) ∨ (((z94)).toInt = 0 ∧ ((z679)).toInt = ((1 : Int32)).toInt ∧ ((z680)).toInt = ((z664)).toInt) := k683
              refine lv_aload_n hx hb dX11_readsParts_133 rfl (lv_at hl 0 rfl) ?_
              refine lv_aload_n hx hb dX11_readsParts_134 rfl (lv_at hl 0 rfl) ?_
              refine va_get (D := (dC, dI)) (ci := 8) (v := .int 1) (C := RX11) (T := TX11) (N := 71) hx hb hw iwX11 hown hK hP 8 rfl rfl 23 (by decide) (hw _ w_f_X11_130) (fun _ h9 => h9) rfl dX11_readsParts_135 ?_
              refine lv_iconst (v := 1) hx hb dX11_readsParts_138 (by decide) ?_
              refine lv_isub hx hb dX11_readsParts_139 ?_
              refine lv_topi (fun z684 ez684 => ?_)
              obtain rfl : z684 = 0 := ez684.trans (by decide)
              refine va_put (D := (dC, dI)) (ci := 8) (v := .int 0) (ty := tyX11 23) (C := RX11) (T := TX11) (N := 71) hx hb hw iwX11 tyX11 tyX11_ok nmX11 hown hK hP hD hS 8 rfl rfl 23 (by decide) (hw _ w_f_X11_130) (fun _ h9 => h9) rfl (tyX11_ok 23 (by decide)) rfl rfl (Nat.le_of_ble_eq_true rfl) dX11_readsParts_140 (fun H locs hP9 hD9 hS9 => ?_)
              clear hP hD hS
              have hP : va_P (dC, dI) cls [(h_nv, .inl (cy_nv, 8000, .inl f97)), (h_nn, .inl (cy_nn, 8000, .inr (.inl f98))), (h_na, .inl (cy_na, 8000, .inl f99)), (h_nb, .inl (cy_nb, 8000, .inl f642)), (h_nc, .inl (cy_nc, 8000, .inl f101)), (h_vrs, .inl (cy_vrs, 32, .inl f102)), (h_let, .inl (cy_let, 256, .inl f103)), (h_tap, .inl (cy_tap, 600, .inl f_tap)), (h_mm, .inr (8, (mo126 v_mm (.ref h_nv) (.ref h_nn) (.ref h_na) (.ref h_nb) (.ref h_nc) (.int z88) (.ref h_vrs) (.ref h_let) (.ref h_tap) (.int x_mm_taped) (.int z663) (.int z664) (.int z665) (.int z666) (.long z667) (.int z678) (.int z679) (.int z680) (.int 0) (.int x_mm_reading))))] H := hP9
              have hD : va_D A [(h_nv, .inl (cy_nv, 8000, .inl f97)), (h_nn, .inl (cy_nn, 8000, .inr (.inl f98))), (h_na, .inl (cy_na, 8000, .inl f99)), (h_nb, .inl (cy_nb, 8000, .inl f642)), (h_nc, .inl (cy_nc, 8000, .inl f101)), (h_vrs, .inl (cy_vrs, 32, .inl f102)), (h_let, .inl (cy_let, 256, .inl f103)), (h_tap, .inl (cy_tap, 600, .inl f_tap)), (h_mm, .inr (8, (mo126 v_mm (.ref h_nv) (.ref h_nn) (.ref h_na) (.ref h_nb) (.ref h_nc) (.int z88) (.ref h_vrs) (.ref h_let) (.ref h_tap) (.int x_mm_taped) (.int z663) (.int z664) (.int z665) (.int z666) (.long z667) (.int z678) (.int z679) (.int z680) (.int 0) (.int x_mm_reading))))] := hD9
              have hS := hS9
              clear hP9 hD9 hS9
              replace hP : va_P (dC, dI) cls [(h_mm, .inr (8, (mo126 v_mm (.ref h_nv) (.ref h_nn) (.ref h_na) (.ref h_nb) (.ref h_nc) (.int z88) (.ref h_vrs) (.ref h_let) (.ref h_tap) (.int x_mm_taped) (.int z663) (.int z664) (.int z665) (.int z666) (.long z667) (.int z678) (.int z679) (.int z680) (.int 0) (.int x_mm_reading)))), (h_tap, .inl (cy_tap, 600, .inl f_tap)), (h_nv, .inl (cy_nv, 8000, .inl f97)), (h_nn, .inl (cy_nn, 8000, .inr (.inl f98))), (h_na, .inl (cy_na, 8000, .inl f99)), (h_nb, .inl (cy_nb, 8000, .inl f642)), (h_nc, .inl (cy_nc, 8000, .inl f101)), (h_vrs, .inl (cy_vrs, 32, .inl f102)), (h_let, .inl (cy_let, 256, .inl f103))] H := hP.sub [8, 7, 0, 1, 2, 3, 4, 5, 6] rfl
              replace hD : va_D A [(h_mm, .inr (8, (mo126 v_mm (.ref h_nv) (.ref h_nn) (.ref h_na) (.ref h_nb) (.ref h_nc) (.int z88) (.ref h_vrs) (.ref h_let) (.ref h_tap) (.int x_mm_taped) (.int z663) (.int z664) (.int z665) (.int z666) (.long z667) (.int z678) (.int z679) (.int z680) (.int 0) (.int x_mm_reading)))), (h_tap, .inl (cy_tap, 600, .inl f_tap)), (h_nv, .inl (cy_nv, 8000, .inl f97)), (h_nn, .inl (cy_nn, 8000, .inr (.inl f98))), (h_na, .inl (cy_na, 8000, .inl f99)), (h_nb, .inl (cy_nb, 8000, .inl f642)), (h_nc, .inl (cy_nc, 8000, .inl f101)), (h_vrs, .inl (cy_vrs, 32, .inl f102)), (h_let, .inl (cy_let, 256, .inl f103))] := hD.sub [8, 7, 0, 1, 2, 3, 4, 5, 6] (by decide) rfl
              refine W.widen (k := 0) (n := 0) (Nat.le_of_ble_eq_true rfl) (Nat.le_of_ble_eq_true rfl) ?_
              have w685 : 0 ≤ ((z88)).toInt ∧ ((z88)).toInt ≤ 1200 := by first | exact k105 | omega
              have w686 : 0 ≤ ((z663)).toInt ∧ ((z663)).toInt ≤ 600 := by first | exact k668 | omega
              have w687 : 0 ≤ ((z664)).toInt ∧ ((z664)).toInt ≤ 600 := by first | exact k669 | omega
              have w688 : 0 ≤ ((z665)).toInt ∧ ((z665)).toInt ≤ 4 := by first | exact k670 | omega
              have w689 : 0 ≤ ((z678)).toInt ∧ ((z678)).toInt ≤ 1 := by first | exact k681 | omega
              have w690 : ((z664)).toInt ≤ ((z663)).toInt := by first | exact k671 | omega
              have w691 : ((z678)).toInt = 1 ∨ ((z88)).toInt ≤ lo + ((z664)).toInt := by omega
              have w692 : (x_mm_nodes).toInt ≤ ((z88)).toInt := by omega
              have w693 : (x_mm_place).toInt ≤ ((z664)).toInt := by omega
              have w694 : (x_mm_isFaulty).toInt ≤ ((z678)).toInt := by omega
              have w695 : (((z678)).toInt = 0 ∧ ((pPs G (x_mm_taped).toInt 6 (x_mm_place).toInt nv vf)).1 = 0 ∧ ((z679)).toInt = (x_mm_fault).toInt ∧ ((z680)).toInt = (x_mm_faultPlace).toInt) ∨ (((z678)).toInt = 1 ∧ ¬ ((pPs G (x_mm_taped).toInt 6 (x_mm_place).toInt nv vf)).1 = 0 ∧ ((z679)).toInt = ((pPs G (x_mm_taped).toInt 6 (x_mm_place).toInt nv vf)).1 ∧ ((z680)).toInt = ((pPs G (x_mm_taped).toInt 6 (x_mm_place).toInt nv vf)).2.1) := by omega
              have w696 : ((z664)).toInt = ((pPs G (x_mm_taped).toInt 6 (x_mm_place).toInt nv vf)).2.1 := by omega
              have w697 : 0 ≤ ((pPs G (x_mm_taped).toInt 6 (x_mm_place).toInt nv vf)).2.2.1 ∧ ((pPs G (x_mm_taped).toInt 6 (x_mm_place).toInt nv vf)).2.2.1 ≤ 8 := by omega
              have w698 : ((z665)).toInt = kd (tkT G (x_mm_taped).toInt ((z664)).toInt) := by first | exact k672 | omega
              have w699 : ((z665)).toInt = 0 ∨ (((z663)).toInt = tkX G (x_mm_taped).toInt ((z664)).toInt ∧ ((z666)).toInt = G ((z664)).toInt ∧ ((z664)).toInt < (x_mm_taped).toInt ∧ ((z664)).toInt + 1 ≤ ((z663)).toInt) := by first | exact k673 | omega
              have w700 : ((z663)).toInt ≤ (x_mm_taped).toInt := by first | exact k674 | omega
              have w701 : ((z664)).toInt ≤ (x_mm_taped).toInt := by first | exact k675 | omega
              have w702 : EQ0 lo za zb zc zv (f99) (f642) (f101) (f97) := nd644
              have w703 : ND lo ((z88)).toInt (gh104) (f99) (f642) (f101) := (nd_cast nd643 (by omega))
              have w704 : ∀ y : Nat, (y : Int) < (x_mm_nodes).toInt → (gh104) y = hh y := (fun y hy => (k126 y (by omega)).trans ((k62 y (by omega)).trans (rfl)))
              have w705 : ((f102) (Int32.toNatClampNeg x_mm_reading)).toInt = ((pPs G (x_mm_taped).toInt 6 (x_mm_place).toInt nv vf)).2.2.1 := (k127.trans pq6603.symm)
              have w706 : VFM ((pPs G (x_mm_taped).toInt 6 (x_mm_place).toInt nv vf)).2.2.1 ((pPs G (x_mm_taped).toInt 6 (x_mm_place).toInt nv vf)).2.2.2 (f103) (x_mm_reading).toInt := (by rw [pq6603, pq6604]; exact k128)
              exact W.vret hx hb hr (fun t ht hW => ⟨⟨(z88, z663, z664, z665, z666, z667, z678, z679, z680, f97, f98, f99, f642, f101, f102, f103, gh104), rfl, ⟨w685, w686, w687, w688, w689, hf97, hf99, hf642, hf101, hf102, w690, w691, w692, w693, w694, w695, w696, w697, w698, w699, w700, w701, w702, w703, w704, w705, w706⟩, by rw [ht]; exact hP, hD⟩, hS.F ht⟩) hS.2.2 dX11_readsParts_143
            · replace hq : (((z664)).toInt = ((z648)).toInt) ∧ (((z663)).toInt = ((z647)).toInt) ∧ (((z665)).toInt = ((z649)).toInt) ∧ (((z94)).toInt = 0) ∧ (¬ tkT (G) ((x_mm_taped)).toInt ((z648)).toInt = ((41 : Int32)).toInt) := hq
              exact False.elim (by omega)
          · replace hq : (((z648)).toInt = ((z90)).toInt) ∧ (((z647)).toInt = ((z89)).toInt) ∧ (((z649)).toInt = ((z91)).toInt) ∧ (((z94)).toInt = 0) ∧ (¬ tkT (G) ((x_mm_taped)).toInt ((z90)).toInt = ((44 : Int32)).toInt) := hq
            exact False.elim (by omega)
      · replace hq : (((z73)).toInt = ((z26)).toInt) ∧ (((z72)).toInt = ((z25)).toInt) ∧ (((z74)).toInt = ((z27)).toInt) ∧ (((z30)).toInt = 1) := hq
        exact False.elim (by omega)
      · replace hq : (((z73)).toInt = ((z26)).toInt) ∧ (((z72)).toInt = ((z25)).toInt) ∧ (((z74)).toInt = ((z27)).toInt) ∧ (((z30)).toInt = 0) ∧ (¬ tkT (G) ((x_mm_taped)).toInt ((z26)).toInt = ((44 : Int32)).toInt) := hq
        clear k57
        have cst44 : (44 : Int32).toInt = 44 := by decide
        have on9 := pLo_off (G := G) (n := (x_mm_taped).toInt) (P := (pPs G (x_mm_taped).toInt 5)) (r := 2) (q := (x_mm_place).toInt) (nv := nv) (vf := vf) (by rw [← erh65]; omega) (by rw [← erh65, ← k54]; omega)
        rw [← erh65, ← k54] at on9
        have cl9 := on9.symm.trans lo0
        have pe9 : tkT G (x_mm_taped).toInt (z73).toInt = tkT G (x_mm_taped).toInt (z26).toInt := congrArg (tkT G (x_mm_taped).toInt) hq.1
        have pn9 : tkN G (x_mm_taped).toInt (z73).toInt = tkN G (x_mm_taped).toInt (z26).toInt := congrArg (tkN G (x_mm_taped).toInt) hq.1
        refine lv_if_eq (tgt := 119) hx hb dX11_readsParts_62 (by decide) (fun _ => ?_) (fun c9 => absurd c9 (by decide))
        refine lv_aload_n hx hb dX11_readsParts_119 rfl (lv_at hl 0 rfl) ?_
        refine lv_bipush (v := 41) hx hb dX11_readsParts_120 (by decide) ?_
        obtain ⟨vq707, evq707⟩ := mq126_92 v_mm (.ref h_nv) (.ref h_nn) (.ref h_na) (.ref h_nb) (.ref h_nc) (.int z24) (.ref h_vrs) (.ref h_let) (.int z31) (.int z32) (.int 1) (.int x_mm_reading)
        replace hP : va_P (dC, dI) cls [(h_nv, .inl (cy_nv, 8000, .inl f33)), (h_nn, .inl (cy_nn, 8000, .inr (.inl f34))), (h_na, .inl (cy_na, 8000, .inl f67)), (h_nb, .inl (cy_nb, 8000, .inl f36)), (h_nc, .inl (cy_nc, 8000, .inl f37)), (h_vrs, .inl (cy_vrs, 32, .inl f38)), (h_let, .inl (cy_let, 256, .inl f39)), (h_mm, .inr (8, (mo92 vq707 (.ref h_tap) (.int x_mm_taped) (.int z72) (.int z73) (.int z74) (.int z75) (.long z76) (.int z30)))), (h_tap, .inl (cy_tap, 600, .inl f_tap))] H := by rw [evq707]; exact hP
        replace hD : va_D A [(h_nv, .inl (cy_nv, 8000, .inl f33)), (h_nn, .inl (cy_nn, 8000, .inr (.inl f34))), (h_na, .inl (cy_na, 8000, .inl f67)), (h_nb, .inl (cy_nb, 8000, .inl f36)), (h_nc, .inl (cy_nc, 8000, .inl f37)), (h_vrs, .inl (cy_vrs, 32, .inl f38)), (h_let, .inl (cy_let, 256, .inl f39)), (h_mm, .inr (8, (mo92 vq707 (.ref h_tap) (.int x_mm_taped) (.int z72) (.int z73) (.int z74) (.int z75) (.long z76) (.int z30)))), (h_tap, .inl (cy_tap, 600, .inl f_tap))] := by rw [evq707]; exact hD
        have cst41 : (41 : Int32).toInt = 41 := by decide
        have hPc := hP.sub (ws' := [(h_mm, .inr (8, (mo92 vq707 (.ref h_tap) (.int x_mm_taped) (.int z72) (.int z73) (.int z74) (.int z75) (.long z76) (.int z30)))), (h_tap, .inl (cy_tap, 600, .inl f_tap))]) [7, 8] rfl
        have hDc := hD.sub (ws' := [(h_mm, .inr (8, (mo92 vq707 (.ref h_tap) (.int x_mm_taped) (.int z72) (.int z73) (.int z74) (.int z75) (.long z76) (.int z30)))), (h_tap, .inl (cy_tap, 600, .inl f_tap))]) [7, 8] (by decide) rfl
        have hKc := hK.sub (tys' := [(cy_tap, .byte)]) [0] rfl
        have hFc := va_free (wc := [(h_mm, .inr (8, (mo92 vq707 (.ref h_tap) (.int x_mm_taped) (.int z72) (.int z73) (.int z74) (.int z75) (.long z76) (.int z30)))), (h_tap, .inl (cy_tap, 600, .inl f_tap))]) hD hS hA [7, 8] rfl
        refine va_calli (va_runV (As := [.int 41]) (rest := []) ⟨hx, hb, hml, hown, hts⟩ (c_X11_passes l dC dI H.size h_mm h_tap vq707 x_mm_taped z72 z73 z74 z75 z76 z30 cy_tap f_tap 41 G (by first | exact hx_mm_taped | omega) (by first | exact k77 | omega) (by first | exact k78 | omega) (by first | exact k79 | omega) (by first | exact k45 | omega) (by first | exact k80 | omega) (by omega) (by omega) (by first | exact k81 | omega) (by first | exact k82 | omega) (by first | exact k83 | omega) (by first | exact k84 | omega) hn_tapq) (cwV 1 hts (gv hT w_m_X11_136 w_instanceMethod_X11_passes ws_sel_X11_passes w_ini_X11 w_code_X11_passes) rfl rfl rfl (by decide +kernel) ⟨(Nat.le_of_ble_eq_true rfl), (Nat.le_of_ble_eq_true rfl)⟩) ⟨pre_blind, va_recv hK hP (ci := 8) (q0 := 7) rfl rfl, pre_of hPc hKc hDc hN⟩ rfl rfl hl.1 rfl (lv_room (Nat.le_of_ble_eq_true rfl)) dX11_readsParts_122 ⟨(Nat.le_of_ble_eq_true rfl), (Nat.le_of_ble_eq_true rfl)⟩) hS (fun q _ h => hFc q h) hFc (fun r708 u t H locs ht hvm hq hB hz1 hk1 hS9 => ?_)
        obtain ⟨z709, z710, z711, z712, z713⟩ := u
        obtain ⟨hP1, hD1⟩ := hB
        rw [ht] at hP1
        obtain ⟨hP9, hD9⟩ := va_join (wr := [(h_nv, .inl (cy_nv, 8000, .inl f33)), (h_nn, .inl (cy_nn, 8000, .inr (.inl f34))), (h_na, .inl (cy_na, 8000, .inl f67)), (h_nb, .inl (cy_nb, 8000, .inl f36)), (h_nc, .inl (cy_nc, 8000, .inl f37)), (h_vrs, .inl (cy_vrs, 32, .inl f38)), (h_let, .inl (cy_let, 256, .inl f39))]) (w1 := [(h_mm, .inr (8, (mo92 vq707 (.ref h_tap) (.int x_mm_taped) (.int z709) (.int z710) (.int z711) (.int z712) (.long z713) (.int z30)))), (h_tap, .inl (cy_tap, 600, .inl f_tap))]) hP hD [7, 8] [0, 1, 2, 3, 4, 5, 6] rfl rfl (by decide) (by decide) hk1 hFc hP1 hD1
        clear hP hD hS hPc hDc hKc hFc hP1 hD1 hk1 hz1 ht hvm
        have hP : va_P (dC, dI) cls [(h_nv, .inl (cy_nv, 8000, .inl f33)), (h_nn, .inl (cy_nn, 8000, .inr (.inl f34))), (h_na, .inl (cy_na, 8000, .inl f67)), (h_nb, .inl (cy_nb, 8000, .inl f36)), (h_nc, .inl (cy_nc, 8000, .inl f37)), (h_vrs, .inl (cy_vrs, 32, .inl f38)), (h_let, .inl (cy_let, 256, .inl f39)), (h_mm, .inr (8, (mo92 vq707 (.ref h_tap) (.int x_mm_taped) (.int z709) (.int z710) (.int z711) (.int z712) (.long z713) (.int z30)))), (h_tap, .inl (cy_tap, 600, .inl f_tap))] H := hP9
        have hD : va_D A [(h_nv, .inl (cy_nv, 8000, .inl f33)), (h_nn, .inl (cy_nn, 8000, .inr (.inl f34))), (h_na, .inl (cy_na, 8000, .inl f67)), (h_nb, .inl (cy_nb, 8000, .inl f36)), (h_nc, .inl (cy_nc, 8000, .inl f37)), (h_vrs, .inl (cy_vrs, 32, .inl f38)), (h_let, .inl (cy_let, 256, .inl f39)), (h_mm, .inr (8, (mo92 vq707 (.ref h_tap) (.int x_mm_taped) (.int z709) (.int z710) (.int z711) (.int z712) (.long z713) (.int z30)))), (h_tap, .inl (cy_tap, 600, .inl f_tap))] := hD9
        have hS := hS9
        clear hP9 hD9 hS9
        rw [evq707] at hP hD
        replace hP : va_P (dC, dI) cls [(h_nv, .inl (cy_nv, 8000, .inl f33)), (h_nn, .inl (cy_nn, 8000, .inr (.inl f34))), (h_na, .inl (cy_na, 8000, .inl f67)), (h_nb, .inl (cy_nb, 8000, .inl f36)), (h_nc, .inl (cy_nc, 8000, .inl f37)), (h_vrs, .inl (cy_vrs, 32, .inl f38)), (h_let, .inl (cy_let, 256, .inl f39)), (h_mm, .inr (8, (mo126 v_mm (.ref h_nv) (.ref h_nn) (.ref h_na) (.ref h_nb) (.ref h_nc) (.int z24) (.ref h_vrs) (.ref h_let) (.ref h_tap) (.int x_mm_taped) (.int z709) (.int z710) (.int z711) (.int z712) (.long z713) (.int z30) (.int z31) (.int z32) (.int 1) (.int x_mm_reading)))), (h_tap, .inl (cy_tap, 600, .inl f_tap))] H := hP
        replace hD : va_D A [(h_nv, .inl (cy_nv, 8000, .inl f33)), (h_nn, .inl (cy_nn, 8000, .inr (.inl f34))), (h_na, .inl (cy_na, 8000, .inl f67)), (h_nb, .inl (cy_nb, 8000, .inl f36)), (h_nc, .inl (cy_nc, 8000, .inl f37)), (h_vrs, .inl (cy_vrs, 32, .inl f38)), (h_let, .inl (cy_let, 256, .inl f39)), (h_mm, .inr (8, (mo126 v_mm (.ref h_nv) (.ref h_nn) (.ref h_na) (.ref h_nb) (.ref h_nc) (.int z24) (.ref h_vrs) (.ref h_let) (.ref h_tap) (.int x_mm_taped) (.int z709) (.int z710) (.int z711) (.int z712) (.long z713) (.int z30) (.int z31) (.int z32) (.int 1) (.int x_mm_reading)))), (h_tap, .inl (cy_tap, 600, .inl f_tap))] := hD
        clear evq707 
        obtain ⟨k714, k715, k716, k717, k718, k719, k720, k721, hq⟩ := hq
        replace k714 : 0 ≤ ((z709)).toInt ∧ ((z709)).toInt ≤ 600 := k714
        replace k715 : 0 ≤ ((z710)).toInt ∧ ((z710)).toInt ≤ 600 := k715
        replace k716 : 0 ≤ ((z711)).toInt ∧ ((z711)).toInt ≤ 4 := k716
        replace k717 : ((z710)).toInt ≤ ((z709)).toInt := k717
        replace k718 : ((z711)).toInt = kd (tkT (G) ((x_mm_taped)).toInt ((z710)).toInt) := k718
        replace k719 : ((z711)).toInt = 0 ∨ (((z709)).toInt = tkX (G) ((x_mm_taped)).toInt ((z710)).toInt ∧ ((z712)).toInt = (G) ((z710)).toInt ∧ ((z710)).toInt < ((x_mm_taped)).toInt ∧ ((z710)).toInt + 1 ≤ ((z709)).toInt) := k719
        replace k720 : ((z709)).toInt ≤ ((x_mm_taped)).toInt := k720
        replace k721 : ((z710)).toInt ≤ ((x_mm_taped)).toInt := k721
        rcases hq with ⟨rfl, hq⟩ | ⟨rfl, hq⟩ | ⟨rfl, hq⟩
        · replace hq : (((z30)).toInt = 0) ∧ (tkT (G) ((x_mm_taped)).toInt ((z73)).toInt = ((41 : Int32)).toInt) ∧ (((z710)).toInt = tkN (G) ((x_mm_taped)).toInt ((z73)).toInt) ∧ (((z72)).toInt ≤ ((z710)).toInt) ∧ (((z73)).toInt + 1 ≤ ((z710)).toInt) := hq
          have cst41 : (41 : Int32).toInt = 41 := by decide
          have pv9 : (pPs G (x_mm_taped).toInt 6 (x_mm_place).toInt nv vf) = (0, tkN G (x_mm_taped).toInt (z26).toInt, (rh65).2.2.1, (rh65).2.2.2) := cl9.symm.trans (pCl_yes (by omega))
          have pq7221 : ((pPs G (x_mm_taped).toInt 6 (x_mm_place).toInt nv vf)).1 = 0 := by rw [pv9]
          have pq7222 : ((pPs G (x_mm_taped).toInt 6 (x_mm_place).toInt nv vf)).2.1 = tkN G (x_mm_taped).toInt (z26).toInt := by rw [pv9]
          have pq7223 : ((pPs G (x_mm_taped).toInt 6 (x_mm_place).toInt nv vf)).2.2.1 = (rh65).2.2.1 := by rw [pv9]
          have pq7224 : ((pPs G (x_mm_taped).toInt 6 (x_mm_place).toInt nv vf)).2.2.2 = (rh65).2.2.2 := by rw [pv9]
          refine lv_if_ne (tgt := 133) hx hb dX11_readsParts_125 (by decide) (fun _ => ?_) (fun c9 => absurd c9 (by decide))
          refine lv_aload_n hx hb dX11_readsParts_133 rfl (lv_at hl 0 rfl) ?_
          refine lv_aload_n hx hb dX11_readsParts_134 rfl (lv_at hl 0 rfl) ?_
          refine va_get (D := (dC, dI)) (ci := 8) (v := .int 1) (C := RX11) (T := TX11) (N := 71) hx hb hw iwX11 hown hK hP 7 rfl rfl 23 (by decide) (hw _ w_f_X11_130) (fun _ h9 => h9) rfl dX11_readsParts_135 ?_
          refine lv_iconst (v := 1) hx hb dX11_readsParts_138 (by decide) ?_
          refine lv_isub hx hb dX11_readsParts_139 ?_
          refine lv_topi (fun z723 ez723 => ?_)
          obtain rfl : z723 = 0 := ez723.trans (by decide)
          refine va_put (D := (dC, dI)) (ci := 8) (v := .int 0) (ty := tyX11 23) (C := RX11) (T := TX11) (N := 71) hx hb hw iwX11 tyX11 tyX11_ok nmX11 hown hK hP hD hS 7 rfl rfl 23 (by decide) (hw _ w_f_X11_130) (fun _ h9 => h9) rfl (tyX11_ok 23 (by decide)) rfl rfl (Nat.le_of_ble_eq_true rfl) dX11_readsParts_140 (fun H locs hP9 hD9 hS9 => ?_)
          clear hP hD hS
          have hP : va_P (dC, dI) cls [(h_nv, .inl (cy_nv, 8000, .inl f33)), (h_nn, .inl (cy_nn, 8000, .inr (.inl f34))), (h_na, .inl (cy_na, 8000, .inl f67)), (h_nb, .inl (cy_nb, 8000, .inl f36)), (h_nc, .inl (cy_nc, 8000, .inl f37)), (h_vrs, .inl (cy_vrs, 32, .inl f38)), (h_let, .inl (cy_let, 256, .inl f39)), (h_mm, .inr (8, (mo126 v_mm (.ref h_nv) (.ref h_nn) (.ref h_na) (.ref h_nb) (.ref h_nc) (.int z24) (.ref h_vrs) (.ref h_let) (.ref h_tap) (.int x_mm_taped) (.int z709) (.int z710) (.int z711) (.int z712) (.long z713) (.int z30) (.int z31) (.int z32) (.int 0) (.int x_mm_reading)))), (h_tap, .inl (cy_tap, 600, .inl f_tap))] H := hP9
          have hD : va_D A [(h_nv, .inl (cy_nv, 8000, .inl f33)), (h_nn, .inl (cy_nn, 8000, .inr (.inl f34))), (h_na, .inl (cy_na, 8000, .inl f67)), (h_nb, .inl (cy_nb, 8000, .inl f36)), (h_nc, .inl (cy_nc, 8000, .inl f37)), (h_vrs, .inl (cy_vrs, 32, .inl f38)), (h_let, .inl (cy_let, 256, .inl f39)), (h_mm, .inr (8, (mo126 v_mm (.ref h_nv) (.ref h_nn) (.ref h_na) (.ref h_nb) (.ref h_nc) (.int z24) (.ref h_vrs) (.ref h_let) (.ref h_tap) (.int x_mm_taped) (.int z709) (.int z710) (.int z711) (.int z712) (.long z713) (.int z30) (.int z31) (.int z32) (.int 0) (.int x_mm_reading)))), (h_tap, .inl (cy_tap, 600, .inl f_tap))] := hD9
          have hS := hS9
          clear hP9 hD9 hS9
          replace hP : va_P (dC, dI) cls [(h_mm, .inr (8, (mo126 v_mm (.ref h_nv) (.ref h_nn) (.ref h_na) (.ref h_nb) (.ref h_nc) (.int z24) (.ref h_vrs) (.ref h_let) (.ref h_tap) (.int x_mm_taped) (.int z709) (.int z710) (.int z711) (.int z712) (.long z713) (.int z30) (.int z31) (.int z32) (.int 0) (.int x_mm_reading)))), (h_tap, .inl (cy_tap, 600, .inl f_tap)), (h_nv, .inl (cy_nv, 8000, .inl f33)), (h_nn, .inl (cy_nn, 8000, .inr (.inl f34))), (h_na, .inl (cy_na, 8000, .inl f67)), (h_nb, .inl (cy_nb, 8000, .inl f36)), (h_nc, .inl (cy_nc, 8000, .inl f37)), (h_vrs, .inl (cy_vrs, 32, .inl f38)), (h_let, .inl (cy_let, 256, .inl f39))] H := hP.sub [7, 8, 0, 1, 2, 3, 4, 5, 6] rfl
          replace hD : va_D A [(h_mm, .inr (8, (mo126 v_mm (.ref h_nv) (.ref h_nn) (.ref h_na) (.ref h_nb) (.ref h_nc) (.int z24) (.ref h_vrs) (.ref h_let) (.ref h_tap) (.int x_mm_taped) (.int z709) (.int z710) (.int z711) (.int z712) (.long z713) (.int z30) (.int z31) (.int z32) (.int 0) (.int x_mm_reading)))), (h_tap, .inl (cy_tap, 600, .inl f_tap)), (h_nv, .inl (cy_nv, 8000, .inl f33)), (h_nn, .inl (cy_nn, 8000, .inr (.inl f34))), (h_na, .inl (cy_na, 8000, .inl f67)), (h_nb, .inl (cy_nb, 8000, .inl f36)), (h_nc, .inl (cy_nc, 8000, .inl f37)), (h_vrs, .inl (cy_vrs, 32, .inl f38)), (h_let, .inl (cy_let, 256, .inl f39))] := hD.sub [7, 8, 0, 1, 2, 3, 4, 5, 6] (by decide) rfl
          refine W.widen (k := 0) (n := 0) (Nat.le_of_ble_eq_true rfl) (Nat.le_of_ble_eq_true rfl) ?_
          have w724 : 0 ≤ ((z24)).toInt ∧ ((z24)).toInt ≤ 1200 := by first | exact k41 | omega
          have w725 : 0 ≤ ((z709)).toInt ∧ ((z709)).toInt ≤ 600 := by first | exact k714 | omega
          have w726 : 0 ≤ ((z710)).toInt ∧ ((z710)).toInt ≤ 600 := by first | exact k715 | omega
          have w727 : 0 ≤ ((z711)).toInt ∧ ((z711)).toInt ≤ 4 := by first | exact k716 | omega
          have w728 : 0 ≤ ((z30)).toInt ∧ ((z30)).toInt ≤ 1 := by first | exact k45 | omega
          have w729 : ((z710)).toInt ≤ ((z709)).toInt := by first | exact k717 | omega
          have w730 : ((z30)).toInt = 1 ∨ ((z24)).toInt ≤ lo + ((z710)).toInt := by omega
          have w731 : (x_mm_nodes).toInt ≤ ((z24)).toInt := by first | exact k49 | omega
          have w732 : (x_mm_place).toInt ≤ ((z710)).toInt := by omega
          have w733 : (x_mm_isFaulty).toInt ≤ ((z30)).toInt := by first | exact k51 | omega
          have w734 : (((z30)).toInt = 0 ∧ ((pPs G (x_mm_taped).toInt 6 (x_mm_place).toInt nv vf)).1 = 0 ∧ ((z31)).toInt = (x_mm_fault).toInt ∧ ((z32)).toInt = (x_mm_faultPlace).toInt) ∨ (((z30)).toInt = 1 ∧ ¬ ((pPs G (x_mm_taped).toInt 6 (x_mm_place).toInt nv vf)).1 = 0 ∧ ((z31)).toInt = ((pPs G (x_mm_taped).toInt 6 (x_mm_place).toInt nv vf)).1 ∧ ((z32)).toInt = ((pPs G (x_mm_taped).toInt 6 (x_mm_place).toInt nv vf)).2.1) := by omega
          have w735 : ((z710)).toInt = ((pPs G (x_mm_taped).toInt 6 (x_mm_place).toInt nv vf)).2.1 := by omega
          have w736 : 0 ≤ ((pPs G (x_mm_taped).toInt 6 (x_mm_place).toInt nv vf)).2.2.1 ∧ ((pPs G (x_mm_taped).toInt 6 (x_mm_place).toInt nv vf)).2.2.1 ≤ 8 := by omega
          have w737 : ((z711)).toInt = kd (tkT G (x_mm_taped).toInt ((z710)).toInt) := by first | exact k718 | omega
          have w738 : ((z711)).toInt = 0 ∨ (((z709)).toInt = tkX G (x_mm_taped).toInt ((z710)).toInt ∧ ((z712)).toInt = G ((z710)).toInt ∧ ((z710)).toInt < (x_mm_taped).toInt ∧ ((z710)).toInt + 1 ≤ ((z709)).toInt) := by first | exact k719 | omega
          have w739 : ((z709)).toInt ≤ (x_mm_taped).toInt := by first | exact k720 | omega
          have w740 : ((z710)).toInt ≤ (x_mm_taped).toInt := by first | exact k721 | omega
          have w741 : EQ0 lo za zb zc zv (f67) (f36) (f37) (f33) := nd69
          have w742 : ND lo ((z24)).toInt (gh40) (f67) (f36) (f37) := (nd_cast nd68 (by omega))
          have w743 : ∀ y : Nat, (y : Int) < (x_mm_nodes).toInt → (gh40) y = hh y := (fun y hy => (k62 y (by omega)).trans (rfl))
          have w744 : ((f38) (Int32.toNatClampNeg x_mm_reading)).toInt = ((pPs G (x_mm_taped).toInt 6 (x_mm_place).toInt nv vf)).2.2.1 := (k63.trans pq7223.symm)
          have w745 : VFM ((pPs G (x_mm_taped).toInt 6 (x_mm_place).toInt nv vf)).2.2.1 ((pPs G (x_mm_taped).toInt 6 (x_mm_place).toInt nv vf)).2.2.2 (f39) (x_mm_reading).toInt := (by rw [pq7223, pq7224]; exact k64)
          exact W.vret hx hb hr (fun t ht hW => ⟨⟨(z24, z709, z710, z711, z712, z713, z30, z31, z32, f33, f34, f67, f36, f37, f38, f39, gh40), rfl, ⟨w724, w725, w726, w727, w728, hf33, hf67, hf36, hf37, hf38, w729, w730, w731, w732, w733, w734, w735, w736, w737, w738, w739, w740, w741, w742, w743, w744, w745⟩, by rw [ht]; exact hP, hD⟩, hS.F ht⟩) hS.2.2 dX11_readsParts_143
        · replace hq : (((z710)).toInt = ((z73)).toInt) ∧ (((z709)).toInt = ((z72)).toInt) ∧ (((z711)).toInt = ((z74)).toInt) ∧ (((z30)).toInt = 1) := hq
          exact False.elim (by omega)
        · replace hq : (((z710)).toInt = ((z73)).toInt) ∧ (((z709)).toInt = ((z72)).toInt) ∧ (((z711)).toInt = ((z74)).toInt) ∧ (((z30)).toInt = 0) ∧ (¬ tkT (G) ((x_mm_taped)).toInt ((z73)).toInt = ((41 : Int32)).toInt) := hq
          have cst41 : (41 : Int32).toInt = 41 := by decide
          have pv9 : (pPs G (x_mm_taped).toInt 6 (x_mm_place).toInt nv vf) = (1, (z26).toInt, (rh65).2.2.1, (rh65).2.2.2) := cl9.symm.trans (pCl_no (by omega))
          have pq7461 : ((pPs G (x_mm_taped).toInt 6 (x_mm_place).toInt nv vf)).1 = 1 := by rw [pv9]
          have pq7462 : ((pPs G (x_mm_taped).toInt 6 (x_mm_place).toInt nv vf)).2.1 = (z26).toInt := by rw [pv9]
          have pq7463 : ((pPs G (x_mm_taped).toInt 6 (x_mm_place).toInt nv vf)).2.2.1 = (rh65).2.2.1 := by rw [pv9]
          have pq7464 : ((pPs G (x_mm_taped).toInt 6 (x_mm_place).toInt nv vf)).2.2.2 = (rh65).2.2.2 := by rw [pv9]
          refine lv_if_ne (tgt := 133) hx hb dX11_readsParts_125 (by decide) (fun c9 => absurd c9 (by decide)) (fun _ => ?_)
          refine lv_aload_n hx hb dX11_readsParts_128 rfl (lv_at hl 0 rfl) ?_
          refine lv_iconst (v := 1) hx hb dX11_readsParts_129 (by decide) ?_
          obtain ⟨vq747, evq747⟩ := mq126_90 v_mm (.ref h_nv) (.ref h_nn) (.ref h_na) (.ref h_nb) (.ref h_nc) (.int z24) (.ref h_vrs) (.ref h_let) (.ref h_tap) (.int x_mm_taped) (.int z709) (.int z711) (.int z712) (.long z713) (.int 1) (.int x_mm_reading)
          replace hP : va_P (dC, dI) cls [(h_nv, .inl (cy_nv, 8000, .inl f33)), (h_nn, .inl (cy_nn, 8000, .inr (.inl f34))), (h_na, .inl (cy_na, 8000, .inl f67)), (h_nb, .inl (cy_nb, 8000, .inl f36)), (h_nc, .inl (cy_nc, 8000, .inl f37)), (h_vrs, .inl (cy_vrs, 32, .inl f38)), (h_let, .inl (cy_let, 256, .inl f39)), (h_mm, .inr (8, (mo90 vq747 (.int z710) (.int z30) (.int z31) (.int z32)))), (h_tap, .inl (cy_tap, 600, .inl f_tap))] H := by rw [evq747]; exact hP
          replace hD : va_D A [(h_nv, .inl (cy_nv, 8000, .inl f33)), (h_nn, .inl (cy_nn, 8000, .inr (.inl f34))), (h_na, .inl (cy_na, 8000, .inl f67)), (h_nb, .inl (cy_nb, 8000, .inl f36)), (h_nc, .inl (cy_nc, 8000, .inl f37)), (h_vrs, .inl (cy_vrs, 32, .inl f38)), (h_let, .inl (cy_let, 256, .inl f39)), (h_mm, .inr (8, (mo90 vq747 (.int z710) (.int z30) (.int z31) (.int z32)))), (h_tap, .inl (cy_tap, 600, .inl f_tap))] := by rw [evq747]; exact hD
          have cst1 : (1 : Int32).toInt = 1 := by decide
          have hPc := hP.sub (ws' := [(h_mm, .inr (8, (mo90 vq747 (.int z710) (.int z30) (.int z31) (.int z32))))]) [7] rfl
          have hDc := hD.sub (ws' := [(h_mm, .inr (8, (mo90 vq747 (.int z710) (.int z30) (.int z31) (.int z32))))]) [7] (by decide) rfl
          have hKc := hK.sub (tys' := []) [] rfl
          have hFc := va_free (wc := [(h_mm, .inr (8, (mo90 vq747 (.int z710) (.int z30) (.int z31) (.int z32))))]) hD hS hA [7] rfl
          refine va_callv (va_runV (As := [.int 1]) (rest := []) ⟨hx, hb, hml, hown, hts⟩ (c_X11_faulty l dC dI H.size h_mm vq747 z710 z30 z31 z32 1 (by first | exact k715 | omega) (by first | exact k45 | omega)) (cwV 1 hts (gv hT w_m_X11_111 w_instanceMethod_X11_faulty ws_sel_X11_faulty w_ini_X11 w_code_X11_faulty) rfl rfl rfl (by decide +kernel) ⟨(Nat.le_of_ble_eq_true rfl), (Nat.le_of_ble_eq_true rfl)⟩) ⟨pre_blind, va_recv hK hP (ci := 8) (q0 := 7) rfl rfl, pre_of hPc hKc hDc hN⟩ rfl rfl hl.1 rfl (lv_room (Nat.le_of_ble_eq_true rfl)) dX11_readsParts_130 ⟨(Nat.le_of_ble_eq_true rfl), (Nat.le_of_ble_eq_true rfl)⟩) hS (fun q _ h => hFc q h) hFc (fun u t H locs ht hvm hq hB hz1 hk1 hS9 => ?_)
          obtain ⟨z749, z750, z751⟩ := u
          obtain ⟨hP1, hD1⟩ := hB
          rw [ht] at hP1
          obtain ⟨hP9, hD9⟩ := va_join (wr := [(h_nv, .inl (cy_nv, 8000, .inl f33)), (h_nn, .inl (cy_nn, 8000, .inr (.inl f34))), (h_na, .inl (cy_na, 8000, .inl f67)), (h_nb, .inl (cy_nb, 8000, .inl f36)), (h_nc, .inl (cy_nc, 8000, .inl f37)), (h_vrs, .inl (cy_vrs, 32, .inl f38)), (h_let, .inl (cy_let, 256, .inl f39)), (h_tap, .inl (cy_tap, 600, .inl f_tap))]) (w1 := [(h_mm, .inr (8, (mo90 vq747 (.int z710) (.int z749) (.int z750) (.int z751))))]) hP hD [7] [0, 1, 2, 3, 4, 5, 6, 8] rfl rfl (by decide) (by decide) hk1 hFc hP1 hD1
          clear hP hD hS hPc hDc hKc hFc hP1 hD1 hk1 hz1 ht hvm
          have hP : va_P (dC, dI) cls [(h_nv, .inl (cy_nv, 8000, .inl f33)), (h_nn, .inl (cy_nn, 8000, .inr (.inl f34))), (h_na, .inl (cy_na, 8000, .inl f67)), (h_nb, .inl (cy_nb, 8000, .inl f36)), (h_nc, .inl (cy_nc, 8000, .inl f37)), (h_vrs, .inl (cy_vrs, 32, .inl f38)), (h_let, .inl (cy_let, 256, .inl f39)), (h_tap, .inl (cy_tap, 600, .inl f_tap)), (h_mm, .inr (8, (mo90 vq747 (.int z710) (.int z749) (.int z750) (.int z751))))] H := hP9
          have hD : va_D A [(h_nv, .inl (cy_nv, 8000, .inl f33)), (h_nn, .inl (cy_nn, 8000, .inr (.inl f34))), (h_na, .inl (cy_na, 8000, .inl f67)), (h_nb, .inl (cy_nb, 8000, .inl f36)), (h_nc, .inl (cy_nc, 8000, .inl f37)), (h_vrs, .inl (cy_vrs, 32, .inl f38)), (h_let, .inl (cy_let, 256, .inl f39)), (h_tap, .inl (cy_tap, 600, .inl f_tap)), (h_mm, .inr (8, (mo90 vq747 (.int z710) (.int z749) (.int z750) (.int z751))))] := hD9
          have hS := hS9
          clear hP9 hD9 hS9
          rw [evq747] at hP hD
          replace hP : va_P (dC, dI) cls [(h_nv, .inl (cy_nv, 8000, .inl f33)), (h_nn, .inl (cy_nn, 8000, .inr (.inl f34))), (h_na, .inl (cy_na, 8000, .inl f67)), (h_nb, .inl (cy_nb, 8000, .inl f36)), (h_nc, .inl (cy_nc, 8000, .inl f37)), (h_vrs, .inl (cy_vrs, 32, .inl f38)), (h_let, .inl (cy_let, 256, .inl f39)), (h_tap, .inl (cy_tap, 600, .inl f_tap)), (h_mm, .inr (8, (mo126 v_mm (.ref h_nv) (.ref h_nn) (.ref h_na) (.ref h_nb) (.ref h_nc) (.int z24) (.ref h_vrs) (.ref h_let) (.ref h_tap) (.int x_mm_taped) (.int z709) (.int z710) (.int z711) (.int z712) (.long z713) (.int z749) (.int z750) (.int z751) (.int 1) (.int x_mm_reading))))] H := hP
          replace hD : va_D A [(h_nv, .inl (cy_nv, 8000, .inl f33)), (h_nn, .inl (cy_nn, 8000, .inr (.inl f34))), (h_na, .inl (cy_na, 8000, .inl f67)), (h_nb, .inl (cy_nb, 8000, .inl f36)), (h_nc, .inl (cy_nc, 8000, .inl f37)), (h_vrs, .inl (cy_vrs, 32, .inl f38)), (h_let, .inl (cy_let, 256, .inl f39)), (h_tap, .inl (cy_tap, 600, .inl f_tap)), (h_mm, .inr (8, (mo126 v_mm (.ref h_nv) (.ref h_nn) (.ref h_na) (.ref h_nb) (.ref h_nc) (.int z24) (.ref h_vrs) (.ref h_let) (.ref h_tap) (.int x_mm_taped) (.int z709) (.int z710) (.int z711) (.int z712) (.long z713) (.int z749) (.int z750) (.int z751) (.int 1) (.int x_mm_reading))))] := hD
          clear evq747 
          obtain ⟨k752, k753, k754⟩ := hq
          replace k752 : 0 ≤ ((z749)).toInt ∧ ((z749)).toInt ≤ 1 := k752
          replace k753 : ((z749)).toInt = 1 := k753
          replace k754 : (((z30)).toInt = 1 ∧ ((z750)).toInt = ((z31)).toInt ∧ ((z751)).toInt = ((z32)).toInt) ∨ (((z30)).toInt = 0 ∧ ((z750)).toInt = ((1 : Int32)).toInt ∧ ((z751)).toInt = ((z710)).toInt) := k754
          refine lv_aload_n hx hb dX11_readsParts_133 rfl (lv_at hl 0 rfl) ?_
          refine lv_aload_n hx hb dX11_readsParts_134 rfl (lv_at hl 0 rfl) ?_
          refine va_get (D := (dC, dI)) (ci := 8) (v := .int 1) (C := RX11) (T := TX11) (N := 71) hx hb hw iwX11 hown hK hP 8 rfl rfl 23 (by decide) (hw _ w_f_X11_130) (fun _ h9 => h9) rfl dX11_readsParts_135 ?_
          refine lv_iconst (v := 1) hx hb dX11_readsParts_138 (by decide) ?_
          refine lv_isub hx hb dX11_readsParts_139 ?_
          refine lv_topi (fun z755 ez755 => ?_)
          obtain rfl : z755 = 0 := ez755.trans (by decide)
          refine va_put (D := (dC, dI)) (ci := 8) (v := .int 0) (ty := tyX11 23) (C := RX11) (T := TX11) (N := 71) hx hb hw iwX11 tyX11 tyX11_ok nmX11 hown hK hP hD hS 8 rfl rfl 23 (by decide) (hw _ w_f_X11_130) (fun _ h9 => h9) rfl (tyX11_ok 23 (by decide)) rfl rfl (Nat.le_of_ble_eq_true rfl) dX11_readsParts_140 (fun H locs hP9 hD9 hS9 => ?_)
          clear hP hD hS
          have hP : va_P (dC, dI) cls [(h_nv, .inl (cy_nv, 8000, .inl f33)), (h_nn, .inl (cy_nn, 8000, .inr (.inl f34))), (h_na, .inl (cy_na, 8000, .inl f67)), (h_nb, .inl (cy_nb, 8000, .inl f36)), (h_nc, .inl (cy_nc, 8000, .inl f37)), (h_vrs, .inl (cy_vrs, 32, .inl f38)), (h_let, .inl (cy_let, 256, .inl f39)), (h_tap, .inl (cy_tap, 600, .inl f_tap)), (h_mm, .inr (8, (mo126 v_mm (.ref h_nv) (.ref h_nn) (.ref h_na) (.ref h_nb) (.ref h_nc) (.int z24) (.ref h_vrs) (.ref h_let) (.ref h_tap) (.int x_mm_taped) (.int z709) (.int z710) (.int z711) (.int z712) (.long z713) (.int z749) (.int z750) (.int z751) (.int 0) (.int x_mm_reading))))] H := hP9
          have hD : va_D A [(h_nv, .inl (cy_nv, 8000, .inl f33)), (h_nn, .inl (cy_nn, 8000, .inr (.inl f34))), (h_na, .inl (cy_na, 8000, .inl f67)), (h_nb, .inl (cy_nb, 8000, .inl f36)), (h_nc, .inl (cy_nc, 8000, .inl f37)), (h_vrs, .inl (cy_vrs, 32, .inl f38)), (h_let, .inl (cy_let, 256, .inl f39)), (h_tap, .inl (cy_tap, 600, .inl f_tap)), (h_mm, .inr (8, (mo126 v_mm (.ref h_nv) (.ref h_nn) (.ref h_na) (.ref h_nb) (.ref h_nc) (.int z24) (.ref h_vrs) (.ref h_let) (.ref h_tap) (.int x_mm_taped) (.int z709) (.int z710) (.int z711) (.int z712) (.long z713) (.int z749) (.int z750) (.int z751) (.int 0) (.int x_mm_reading))))] := hD9
          have hS := hS9
          clear hP9 hD9 hS9
          replace hP : va_P (dC, dI) cls [(h_mm, .inr (8, (mo126 v_mm (.ref h_nv) (.ref h_nn) (.ref h_na) (.ref h_nb) (.ref h_nc) (.int z24) (.ref h_vrs) (.ref h_let) (.ref h_tap) (.int x_mm_taped) (.int z709) (.int z710) (.int z711) (.int z712) (.long z713) (.int z749) (.int z750) (.int z751) (.int 0) (.int x_mm_reading)))), (h_tap, .inl (cy_tap, 600, .inl f_tap)), (h_nv, .inl (cy_nv, 8000, .inl f33)), (h_nn, .inl (cy_nn, 8000, .inr (.inl f34))), (h_na, .inl (cy_na, 8000, .inl f67)), (h_nb, .inl (cy_nb, 8000, .inl f36)), (h_nc, .inl (cy_nc, 8000, .inl f37)), (h_vrs, .inl (cy_vrs, 32, .inl f38)), (h_let, .inl (cy_let, 256, .inl f39))] H := hP.sub [8, 7, 0, 1, 2, 3, 4, 5, 6] rfl
          replace hD : va_D A [(h_mm, .inr (8, (mo126 v_mm (.ref h_nv) (.ref h_nn) (.ref h_na) (.ref h_nb) (.ref h_nc) (.int z24) (.ref h_vrs) (.ref h_let) (.ref h_tap) (.int x_mm_taped) (.int z709) (.int z710) (.int z711) (.int z712) (.long z713) (.int z749) (.int z750) (.int z751) (.int 0) (.int x_mm_reading)))), (h_tap, .inl (cy_tap, 600, .inl f_tap)), (h_nv, .inl (cy_nv, 8000, .inl f33)), (h_nn, .inl (cy_nn, 8000, .inr (.inl f34))), (h_na, .inl (cy_na, 8000, .inl f67)), (h_nb, .inl (cy_nb, 8000, .inl f36)), (h_nc, .inl (cy_nc, 8000, .inl f37)), (h_vrs, .inl (cy_vrs, 32, .inl f38)), (h_let, .inl (cy_let, 256, .inl f39))] := hD.sub [8, 7, 0, 1, 2, 3, 4, 5, 6] (by decide) rfl
          refine W.widen (k := 0) (n := 0) (Nat.le_of_ble_eq_true rfl) (Nat.le_of_ble_eq_true rfl) ?_
          have w756 : 0 ≤ ((z24)).toInt ∧ ((z24)).toInt ≤ 1200 := by first | exact k41 | omega
          have w757 : 0 ≤ ((z709)).toInt ∧ ((z709)).toInt ≤ 600 := by first | exact k714 | omega
          have w758 : 0 ≤ ((z710)).toInt ∧ ((z710)).toInt ≤ 600 := by first | exact k715 | omega
          have w759 : 0 ≤ ((z711)).toInt ∧ ((z711)).toInt ≤ 4 := by first | exact k716 | omega
          have w760 : 0 ≤ ((z749)).toInt ∧ ((z749)).toInt ≤ 1 := by first | exact k752 | omega
          have w761 : ((z710)).toInt ≤ ((z709)).toInt := by first | exact k717 | omega
          have w762 : ((z749)).toInt = 1 ∨ ((z24)).toInt ≤ lo + ((z710)).toInt := by omega
          have w763 : (x_mm_nodes).toInt ≤ ((z24)).toInt := by first | exact k49 | omega
          have w764 : (x_mm_place).toInt ≤ ((z710)).toInt := by omega
          have w765 : (x_mm_isFaulty).toInt ≤ ((z749)).toInt := by omega
          have w766 : (((z749)).toInt = 0 ∧ ((pPs G (x_mm_taped).toInt 6 (x_mm_place).toInt nv vf)).1 = 0 ∧ ((z750)).toInt = (x_mm_fault).toInt ∧ ((z751)).toInt = (x_mm_faultPlace).toInt) ∨ (((z749)).toInt = 1 ∧ ¬ ((pPs G (x_mm_taped).toInt 6 (x_mm_place).toInt nv vf)).1 = 0 ∧ ((z750)).toInt = ((pPs G (x_mm_taped).toInt 6 (x_mm_place).toInt nv vf)).1 ∧ ((z751)).toInt = ((pPs G (x_mm_taped).toInt 6 (x_mm_place).toInt nv vf)).2.1) := by omega
          have w767 : ((z710)).toInt = ((pPs G (x_mm_taped).toInt 6 (x_mm_place).toInt nv vf)).2.1 := by omega
          have w768 : 0 ≤ ((pPs G (x_mm_taped).toInt 6 (x_mm_place).toInt nv vf)).2.2.1 ∧ ((pPs G (x_mm_taped).toInt 6 (x_mm_place).toInt nv vf)).2.2.1 ≤ 8 := by omega
          have w769 : ((z711)).toInt = kd (tkT G (x_mm_taped).toInt ((z710)).toInt) := by first | exact k718 | omega
          have w770 : ((z711)).toInt = 0 ∨ (((z709)).toInt = tkX G (x_mm_taped).toInt ((z710)).toInt ∧ ((z712)).toInt = G ((z710)).toInt ∧ ((z710)).toInt < (x_mm_taped).toInt ∧ ((z710)).toInt + 1 ≤ ((z709)).toInt) := by first | exact k719 | omega
          have w771 : ((z709)).toInt ≤ (x_mm_taped).toInt := by first | exact k720 | omega
          have w772 : ((z710)).toInt ≤ (x_mm_taped).toInt := by first | exact k721 | omega
          have w773 : EQ0 lo za zb zc zv (f67) (f36) (f37) (f33) := nd69
          have w774 : ND lo ((z24)).toInt (gh40) (f67) (f36) (f37) := (nd_cast nd68 (by omega))
          have w775 : ∀ y : Nat, (y : Int) < (x_mm_nodes).toInt → (gh40) y = hh y := (fun y hy => (k62 y (by omega)).trans (rfl))
          have w776 : ((f38) (Int32.toNatClampNeg x_mm_reading)).toInt = ((pPs G (x_mm_taped).toInt 6 (x_mm_place).toInt nv vf)).2.2.1 := (k63.trans pq7463.symm)
          have w777 : VFM ((pPs G (x_mm_taped).toInt 6 (x_mm_place).toInt nv vf)).2.2.1 ((pPs G (x_mm_taped).toInt 6 (x_mm_place).toInt nv vf)).2.2.2 (f39) (x_mm_reading).toInt := (by rw [pq7463, pq7464]; exact k64)
          exact W.vret hx hb hr (fun t ht hW => ⟨⟨(z24, z709, z710, z711, z712, z713, z749, z750, z751, f33, f34, f67, f36, f37, f38, f39, gh40), rfl, ⟨w756, w757, w758, w759, w760, hf33, hf67, hf36, hf37, hf38, w761, w762, w763, w764, w765, w766, w767, w768, w769, w770, w771, w772, w773, w774, w775, w776, w777⟩, by rw [ht]; exact hP, hD⟩, hS.F ht⟩) hS.2.2 dX11_readsParts_143
    · clear k48
      refine va_iast hx hb hK hP hD hS 4 3 rfl rfl (i := p1) (x := r23) (vp_in_iff.mpr (by omega)) dX11_readsParts_55 (fun H locs hP9 hD9 hS9 => ?_)
      obtain ⟨f778, ef778⟩ : ∃ g : Nat → Int32, g = upd f35 (Int32.toNatClampNeg p1) r23 := ⟨_, rfl⟩
      clear hP hD hS
      have hP : va_P (dC, dI) cls [(h_mm, .inr (8, (mo126 v_mm (.ref h_nv) (.ref h_nn) (.ref h_na) (.ref h_nb) (.ref h_nc) (.int z24) (.ref h_vrs) (.ref h_let) (.ref h_tap) (.int x_mm_taped) (.int z25) (.int z26) (.int z27) (.int z28) (.long z29) (.int z30) (.int z31) (.int z32) (.int 1) (.int x_mm_reading)))), (h_tap, .inl (cy_tap, 600, .inl f_tap)), (h_nv, .inl (cy_nv, 8000, .inl f33)), (h_nn, .inl (cy_nn, 8000, .inr (.inl f34))), (h_na, .inl (cy_na, 8000, .inl f778)), (h_nb, .inl (cy_nb, 8000, .inl f36)), (h_nc, .inl (cy_nc, 8000, .inl f37)), (h_vrs, .inl (cy_vrs, 32, .inl f38)), (h_let, .inl (cy_let, 256, .inl f39))] H := by rw [ef778]; exact hP9
      have hD : va_D A [(h_mm, .inr (8, (mo126 v_mm (.ref h_nv) (.ref h_nn) (.ref h_na) (.ref h_nb) (.ref h_nc) (.int z24) (.ref h_vrs) (.ref h_let) (.ref h_tap) (.int x_mm_taped) (.int z25) (.int z26) (.int z27) (.int z28) (.long z29) (.int z30) (.int z31) (.int z32) (.int 1) (.int x_mm_reading)))), (h_tap, .inl (cy_tap, 600, .inl f_tap)), (h_nv, .inl (cy_nv, 8000, .inl f33)), (h_nn, .inl (cy_nn, 8000, .inr (.inl f34))), (h_na, .inl (cy_na, 8000, .inl f778)), (h_nb, .inl (cy_nb, 8000, .inl f36)), (h_nc, .inl (cy_nc, 8000, .inl f37)), (h_vrs, .inl (cy_vrs, 32, .inl f38)), (h_let, .inl (cy_let, 256, .inl f39))] := by rw [ef778]; exact hD9
      have hS := hS9
      clear hP9 hD9 hS9
      have hf778 : Rg (-1) 7999 f778 := by rw [ef778]; exact rg_upd hf35 (by omega)
      have nd779 : ND lo (z24).toInt gh40 f778 f36 f37 := by rw [ef778]; exact nd_setA (n := (z24).toInt) (nd_cast k61 (by omega)) (by omega) (by unfold NDk; omega)
      have nd780 : EQ0 lo za zb zc zv f778 f36 f37 f33 := by rw [ef778]; exact eq0_A k60 (by omega) (by omega)
      clear k52
      clear ef778
      refine lv_aload_n hx hb dX11_readsParts_56 rfl (lv_at hl 0 rfl) ?_
      refine lv_bipush (v := 44) hx hb dX11_readsParts_57 (by decide) ?_
      obtain ⟨vq781, evq781⟩ := mq126_92 v_mm (.ref h_nv) (.ref h_nn) (.ref h_na) (.ref h_nb) (.ref h_nc) (.int z24) (.ref h_vrs) (.ref h_let) (.int z31) (.int z32) (.int 1) (.int x_mm_reading)
      replace hP : va_P (dC, dI) cls [(h_mm, .inr (8, (mo92 vq781 (.ref h_tap) (.int x_mm_taped) (.int z25) (.int z26) (.int z27) (.int z28) (.long z29) (.int z30)))), (h_tap, .inl (cy_tap, 600, .inl f_tap)), (h_nv, .inl (cy_nv, 8000, .inl f33)), (h_nn, .inl (cy_nn, 8000, .inr (.inl f34))), (h_na, .inl (cy_na, 8000, .inl f778)), (h_nb, .inl (cy_nb, 8000, .inl f36)), (h_nc, .inl (cy_nc, 8000, .inl f37)), (h_vrs, .inl (cy_vrs, 32, .inl f38)), (h_let, .inl (cy_let, 256, .inl f39))] H := by rw [evq781]; exact hP
      replace hD : va_D A [(h_mm, .inr (8, (mo92 vq781 (.ref h_tap) (.int x_mm_taped) (.int z25) (.int z26) (.int z27) (.int z28) (.long z29) (.int z30)))), (h_tap, .inl (cy_tap, 600, .inl f_tap)), (h_nv, .inl (cy_nv, 8000, .inl f33)), (h_nn, .inl (cy_nn, 8000, .inr (.inl f34))), (h_na, .inl (cy_na, 8000, .inl f778)), (h_nb, .inl (cy_nb, 8000, .inl f36)), (h_nc, .inl (cy_nc, 8000, .inl f37)), (h_vrs, .inl (cy_vrs, 32, .inl f38)), (h_let, .inl (cy_let, 256, .inl f39))] := by rw [evq781]; exact hD
      have cst44 : (44 : Int32).toInt = 44 := by decide
      have hPc := hP.sub (ws' := [(h_mm, .inr (8, (mo92 vq781 (.ref h_tap) (.int x_mm_taped) (.int z25) (.int z26) (.int z27) (.int z28) (.long z29) (.int z30)))), (h_tap, .inl (cy_tap, 600, .inl f_tap))]) [0, 1] rfl
      have hDc := hD.sub (ws' := [(h_mm, .inr (8, (mo92 vq781 (.ref h_tap) (.int x_mm_taped) (.int z25) (.int z26) (.int z27) (.int z28) (.long z29) (.int z30)))), (h_tap, .inl (cy_tap, 600, .inl f_tap))]) [0, 1] (by decide) rfl
      have hKc := hK.sub (tys' := [(cy_tap, .byte)]) [0] rfl
      have hFc := va_free (wc := [(h_mm, .inr (8, (mo92 vq781 (.ref h_tap) (.int x_mm_taped) (.int z25) (.int z26) (.int z27) (.int z28) (.long z29) (.int z30)))), (h_tap, .inl (cy_tap, 600, .inl f_tap))]) hD hS hA [0, 1] rfl
      refine va_calli (va_runV (As := [.int 44]) (rest := []) ⟨hx, hb, hml, hown, hts⟩ (c_X11_passes l dC dI H.size h_mm h_tap vq781 x_mm_taped z25 z26 z27 z28 z29 z30 cy_tap f_tap 44 G (by first | exact hx_mm_taped | omega) (by first | exact k42 | omega) (by first | exact k43 | omega) (by first | exact k44 | omega) (by first | exact k45 | omega) (by first | exact k47 | omega) (by omega) (by omega) (by first | exact k56 | omega) (by first | exact k57 | omega) (by first | exact k58 | omega) (by first | exact k59 | omega) hn_tapq) (cwV 1 hts (gv hT w_m_X11_136 w_instanceMethod_X11_passes ws_sel_X11_passes w_ini_X11 w_code_X11_passes) rfl rfl rfl (by decide +kernel) ⟨(Nat.le_of_ble_eq_true rfl), (Nat.le_of_ble_eq_true rfl)⟩) ⟨pre_blind, va_recv hK hP (ci := 8) (q0 := 0) rfl rfl, pre_of hPc hKc hDc hN⟩ rfl rfl hl.1 rfl (lv_room (Nat.le_of_ble_eq_true rfl)) dX11_readsParts_59 ⟨(Nat.le_of_ble_eq_true rfl), (Nat.le_of_ble_eq_true rfl)⟩) hS (fun q _ h => hFc q h) hFc (fun r782 u t H locs ht hvm hq hB hz1 hk1 hS9 => ?_)
      obtain ⟨z783, z784, z785, z786, z787⟩ := u
      obtain ⟨hP1, hD1⟩ := hB
      rw [ht] at hP1
      obtain ⟨hP9, hD9⟩ := va_join (wr := [(h_nv, .inl (cy_nv, 8000, .inl f33)), (h_nn, .inl (cy_nn, 8000, .inr (.inl f34))), (h_na, .inl (cy_na, 8000, .inl f778)), (h_nb, .inl (cy_nb, 8000, .inl f36)), (h_nc, .inl (cy_nc, 8000, .inl f37)), (h_vrs, .inl (cy_vrs, 32, .inl f38)), (h_let, .inl (cy_let, 256, .inl f39))]) (w1 := [(h_mm, .inr (8, (mo92 vq781 (.ref h_tap) (.int x_mm_taped) (.int z783) (.int z784) (.int z785) (.int z786) (.long z787) (.int z30)))), (h_tap, .inl (cy_tap, 600, .inl f_tap))]) hP hD [0, 1] [2, 3, 4, 5, 6, 7, 8] rfl rfl (by decide) (by decide) hk1 hFc hP1 hD1
      clear hP hD hS hPc hDc hKc hFc hP1 hD1 hk1 hz1 ht hvm
      have hP : va_P (dC, dI) cls [(h_nv, .inl (cy_nv, 8000, .inl f33)), (h_nn, .inl (cy_nn, 8000, .inr (.inl f34))), (h_na, .inl (cy_na, 8000, .inl f778)), (h_nb, .inl (cy_nb, 8000, .inl f36)), (h_nc, .inl (cy_nc, 8000, .inl f37)), (h_vrs, .inl (cy_vrs, 32, .inl f38)), (h_let, .inl (cy_let, 256, .inl f39)), (h_mm, .inr (8, (mo92 vq781 (.ref h_tap) (.int x_mm_taped) (.int z783) (.int z784) (.int z785) (.int z786) (.long z787) (.int z30)))), (h_tap, .inl (cy_tap, 600, .inl f_tap))] H := hP9
      have hD : va_D A [(h_nv, .inl (cy_nv, 8000, .inl f33)), (h_nn, .inl (cy_nn, 8000, .inr (.inl f34))), (h_na, .inl (cy_na, 8000, .inl f778)), (h_nb, .inl (cy_nb, 8000, .inl f36)), (h_nc, .inl (cy_nc, 8000, .inl f37)), (h_vrs, .inl (cy_vrs, 32, .inl f38)), (h_let, .inl (cy_let, 256, .inl f39)), (h_mm, .inr (8, (mo92 vq781 (.ref h_tap) (.int x_mm_taped) (.int z783) (.int z784) (.int z785) (.int z786) (.long z787) (.int z30)))), (h_tap, .inl (cy_tap, 600, .inl f_tap))] := hD9
      have hS := hS9
      clear hP9 hD9 hS9
      rw [evq781] at hP hD
      replace hP : va_P (dC, dI) cls [(h_nv, .inl (cy_nv, 8000, .inl f33)), (h_nn, .inl (cy_nn, 8000, .inr (.inl f34))), (h_na, .inl (cy_na, 8000, .inl f778)), (h_nb, .inl (cy_nb, 8000, .inl f36)), (h_nc, .inl (cy_nc, 8000, .inl f37)), (h_vrs, .inl (cy_vrs, 32, .inl f38)), (h_let, .inl (cy_let, 256, .inl f39)), (h_mm, .inr (8, (mo126 v_mm (.ref h_nv) (.ref h_nn) (.ref h_na) (.ref h_nb) (.ref h_nc) (.int z24) (.ref h_vrs) (.ref h_let) (.ref h_tap) (.int x_mm_taped) (.int z783) (.int z784) (.int z785) (.int z786) (.long z787) (.int z30) (.int z31) (.int z32) (.int 1) (.int x_mm_reading)))), (h_tap, .inl (cy_tap, 600, .inl f_tap))] H := hP
      replace hD : va_D A [(h_nv, .inl (cy_nv, 8000, .inl f33)), (h_nn, .inl (cy_nn, 8000, .inr (.inl f34))), (h_na, .inl (cy_na, 8000, .inl f778)), (h_nb, .inl (cy_nb, 8000, .inl f36)), (h_nc, .inl (cy_nc, 8000, .inl f37)), (h_vrs, .inl (cy_vrs, 32, .inl f38)), (h_let, .inl (cy_let, 256, .inl f39)), (h_mm, .inr (8, (mo126 v_mm (.ref h_nv) (.ref h_nn) (.ref h_na) (.ref h_nb) (.ref h_nc) (.int z24) (.ref h_vrs) (.ref h_let) (.ref h_tap) (.int x_mm_taped) (.int z783) (.int z784) (.int z785) (.int z786) (.long z787) (.int z30) (.int z31) (.int z32) (.int 1) (.int x_mm_reading)))), (h_tap, .inl (cy_tap, 600, .inl f_tap))] := hD
      clear evq781 
      obtain ⟨k788, k789, k790, k791, k792, k793, k794, k795, hq⟩ := hq
      replace k788 : 0 ≤ ((z783)).toInt ∧ ((z783)).toInt ≤ 600 := k788
      replace k789 : 0 ≤ ((z784)).toInt ∧ ((z784)).toInt ≤ 600 := k789
      replace k790 : 0 ≤ ((z785)).toInt ∧ ((z785)).toInt ≤ 4 := k790
      replace k791 : ((z784)).toInt ≤ ((z783)).toInt := k791
      replace k792 : ((z785)).toInt = kd (tkT (G) ((x_mm_taped)).toInt ((z784)).toInt) := k792
      replace k793 : ((z785)).toInt = 0 ∨ (((z783)).toInt = tkX (G) ((x_mm_taped)).toInt ((z784)).toInt ∧ ((z786)).toInt = (G) ((z784)).toInt ∧ ((z784)).toInt < ((x_mm_taped)).toInt ∧ ((z784)).toInt + 1 ≤ ((z783)).toInt) := k793
      replace k794 : ((z783)).toInt ≤ ((x_mm_taped)).toInt := k794
      replace k795 : ((z784)).toInt ≤ ((x_mm_taped)).toInt := k795
      rcases hq with ⟨rfl, hq⟩ | ⟨rfl, hq⟩ | ⟨rfl, hq⟩
      · replace hq : (((z30)).toInt = 0) ∧ (tkT (G) ((x_mm_taped)).toInt ((z26)).toInt = ((44 : Int32)).toInt) ∧ (((z784)).toInt = tkN (G) ((x_mm_taped)).toInt ((z26)).toInt) ∧ (((z25)).toInt ≤ ((z784)).toInt) ∧ (((z26)).toInt + 1 ≤ ((z784)).toInt) := hq
        exact False.elim (by omega)
      · replace hq : (((z784)).toInt = ((z26)).toInt) ∧ (((z783)).toInt = ((z25)).toInt) ∧ (((z785)).toInt = ((z27)).toInt) ∧ (((z30)).toInt = 1) := hq
        clear k57
        have no9 := pLo_no (G := G) (n := (x_mm_taped).toInt) (P := (pPs G (x_mm_taped).toInt 5)) (r := 2) (q := (x_mm_place).toInt) (nv := nv) (vf := vf) (by rw [← erh65]; omega)
        rw [← erh65] at no9
        have rq9 : (pPs G (x_mm_taped).toInt 6 (x_mm_place).toInt nv vf) = rh65 := lo0.symm.trans no9
        have pq7961 : ((pPs G (x_mm_taped).toInt 6 (x_mm_place).toInt nv vf)).1 = (rh65).1 := by rw [rq9]
        have pq7962 : ((pPs G (x_mm_taped).toInt 6 (x_mm_place).toInt nv vf)).2.1 = (rh65).2.1 := by rw [rq9]
        have pq7963 : ((pPs G (x_mm_taped).toInt 6 (x_mm_place).toInt nv vf)).2.2.1 = (rh65).2.2.1 := by rw [rq9]
        have pq7964 : ((pPs G (x_mm_taped).toInt 6 (x_mm_place).toInt nv vf)).2.2.2 = (rh65).2.2.2 := by rw [rq9]
        refine lv_if_eq (tgt := 119) hx hb dX11_readsParts_62 (by decide) (fun _ => ?_) (fun c9 => absurd c9 (by decide))
        refine lv_aload_n hx hb dX11_readsParts_119 rfl (lv_at hl 0 rfl) ?_
        refine lv_bipush (v := 41) hx hb dX11_readsParts_120 (by decide) ?_
        obtain ⟨vq797, evq797⟩ := mq126_92 v_mm (.ref h_nv) (.ref h_nn) (.ref h_na) (.ref h_nb) (.ref h_nc) (.int z24) (.ref h_vrs) (.ref h_let) (.int z31) (.int z32) (.int 1) (.int x_mm_reading)
        replace hP : va_P (dC, dI) cls [(h_nv, .inl (cy_nv, 8000, .inl f33)), (h_nn, .inl (cy_nn, 8000, .inr (.inl f34))), (h_na, .inl (cy_na, 8000, .inl f778)), (h_nb, .inl (cy_nb, 8000, .inl f36)), (h_nc, .inl (cy_nc, 8000, .inl f37)), (h_vrs, .inl (cy_vrs, 32, .inl f38)), (h_let, .inl (cy_let, 256, .inl f39)), (h_mm, .inr (8, (mo92 vq797 (.ref h_tap) (.int x_mm_taped) (.int z783) (.int z784) (.int z785) (.int z786) (.long z787) (.int z30)))), (h_tap, .inl (cy_tap, 600, .inl f_tap))] H := by rw [evq797]; exact hP
        replace hD : va_D A [(h_nv, .inl (cy_nv, 8000, .inl f33)), (h_nn, .inl (cy_nn, 8000, .inr (.inl f34))), (h_na, .inl (cy_na, 8000, .inl f778)), (h_nb, .inl (cy_nb, 8000, .inl f36)), (h_nc, .inl (cy_nc, 8000, .inl f37)), (h_vrs, .inl (cy_vrs, 32, .inl f38)), (h_let, .inl (cy_let, 256, .inl f39)), (h_mm, .inr (8, (mo92 vq797 (.ref h_tap) (.int x_mm_taped) (.int z783) (.int z784) (.int z785) (.int z786) (.long z787) (.int z30)))), (h_tap, .inl (cy_tap, 600, .inl f_tap))] := by rw [evq797]; exact hD
        have cst41 : (41 : Int32).toInt = 41 := by decide
        have hPc := hP.sub (ws' := [(h_mm, .inr (8, (mo92 vq797 (.ref h_tap) (.int x_mm_taped) (.int z783) (.int z784) (.int z785) (.int z786) (.long z787) (.int z30)))), (h_tap, .inl (cy_tap, 600, .inl f_tap))]) [7, 8] rfl
        have hDc := hD.sub (ws' := [(h_mm, .inr (8, (mo92 vq797 (.ref h_tap) (.int x_mm_taped) (.int z783) (.int z784) (.int z785) (.int z786) (.long z787) (.int z30)))), (h_tap, .inl (cy_tap, 600, .inl f_tap))]) [7, 8] (by decide) rfl
        have hKc := hK.sub (tys' := [(cy_tap, .byte)]) [0] rfl
        have hFc := va_free (wc := [(h_mm, .inr (8, (mo92 vq797 (.ref h_tap) (.int x_mm_taped) (.int z783) (.int z784) (.int z785) (.int z786) (.long z787) (.int z30)))), (h_tap, .inl (cy_tap, 600, .inl f_tap))]) hD hS hA [7, 8] rfl
        refine va_calli (va_runV (As := [.int 41]) (rest := []) ⟨hx, hb, hml, hown, hts⟩ (c_X11_passes l dC dI H.size h_mm h_tap vq797 x_mm_taped z783 z784 z785 z786 z787 z30 cy_tap f_tap 41 G (by first | exact hx_mm_taped | omega) (by first | exact k788 | omega) (by first | exact k789 | omega) (by first | exact k790 | omega) (by first | exact k45 | omega) (by first | exact k791 | omega) (by omega) (by omega) (by first | exact k792 | omega) (by first | exact k793 | omega) (by first | exact k794 | omega) (by first | exact k795 | omega) hn_tapq) (cwV 1 hts (gv hT w_m_X11_136 w_instanceMethod_X11_passes ws_sel_X11_passes w_ini_X11 w_code_X11_passes) rfl rfl rfl (by decide +kernel) ⟨(Nat.le_of_ble_eq_true rfl), (Nat.le_of_ble_eq_true rfl)⟩) ⟨pre_blind, va_recv hK hP (ci := 8) (q0 := 7) rfl rfl, pre_of hPc hKc hDc hN⟩ rfl rfl hl.1 rfl (lv_room (Nat.le_of_ble_eq_true rfl)) dX11_readsParts_122 ⟨(Nat.le_of_ble_eq_true rfl), (Nat.le_of_ble_eq_true rfl)⟩) hS (fun q _ h => hFc q h) hFc (fun r798 u t H locs ht hvm hq hB hz1 hk1 hS9 => ?_)
        obtain ⟨z799, z800, z801, z802, z803⟩ := u
        obtain ⟨hP1, hD1⟩ := hB
        rw [ht] at hP1
        obtain ⟨hP9, hD9⟩ := va_join (wr := [(h_nv, .inl (cy_nv, 8000, .inl f33)), (h_nn, .inl (cy_nn, 8000, .inr (.inl f34))), (h_na, .inl (cy_na, 8000, .inl f778)), (h_nb, .inl (cy_nb, 8000, .inl f36)), (h_nc, .inl (cy_nc, 8000, .inl f37)), (h_vrs, .inl (cy_vrs, 32, .inl f38)), (h_let, .inl (cy_let, 256, .inl f39))]) (w1 := [(h_mm, .inr (8, (mo92 vq797 (.ref h_tap) (.int x_mm_taped) (.int z799) (.int z800) (.int z801) (.int z802) (.long z803) (.int z30)))), (h_tap, .inl (cy_tap, 600, .inl f_tap))]) hP hD [7, 8] [0, 1, 2, 3, 4, 5, 6] rfl rfl (by decide) (by decide) hk1 hFc hP1 hD1
        clear hP hD hS hPc hDc hKc hFc hP1 hD1 hk1 hz1 ht hvm
        have hP : va_P (dC, dI) cls [(h_nv, .inl (cy_nv, 8000, .inl f33)), (h_nn, .inl (cy_nn, 8000, .inr (.inl f34))), (h_na, .inl (cy_na, 8000, .inl f778)), (h_nb, .inl (cy_nb, 8000, .inl f36)), (h_nc, .inl (cy_nc, 8000, .inl f37)), (h_vrs, .inl (cy_vrs, 32, .inl f38)), (h_let, .inl (cy_let, 256, .inl f39)), (h_mm, .inr (8, (mo92 vq797 (.ref h_tap) (.int x_mm_taped) (.int z799) (.int z800) (.int z801) (.int z802) (.long z803) (.int z30)))), (h_tap, .inl (cy_tap, 600, .inl f_tap))] H := hP9
        have hD : va_D A [(h_nv, .inl (cy_nv, 8000, .inl f33)), (h_nn, .inl (cy_nn, 8000, .inr (.inl f34))), (h_na, .inl (cy_na, 8000, .inl f778)), (h_nb, .inl (cy_nb, 8000, .inl f36)), (h_nc, .inl (cy_nc, 8000, .inl f37)), (h_vrs, .inl (cy_vrs, 32, .inl f38)), (h_let, .inl (cy_let, 256, .inl f39)), (h_mm, .inr (8, (mo92 vq797 (.ref h_tap) (.int x_mm_taped) (.int z799) (.int z800) (.int z801) (.int z802) (.long z803) (.int z30)))), (h_tap, .inl (cy_tap, 600, .inl f_tap))] := hD9
        have hS := hS9
        clear hP9 hD9 hS9
        rw [evq797] at hP hD
        replace hP : va_P (dC, dI) cls [(h_nv, .inl (cy_nv, 8000, .inl f33)), (h_nn, .inl (cy_nn, 8000, .inr (.inl f34))), (h_na, .inl (cy_na, 8000, .inl f778)), (h_nb, .inl (cy_nb, 8000, .inl f36)), (h_nc, .inl (cy_nc, 8000, .inl f37)), (h_vrs, .inl (cy_vrs, 32, .inl f38)), (h_let, .inl (cy_let, 256, .inl f39)), (h_mm, .inr (8, (mo126 v_mm (.ref h_nv) (.ref h_nn) (.ref h_na) (.ref h_nb) (.ref h_nc) (.int z24) (.ref h_vrs) (.ref h_let) (.ref h_tap) (.int x_mm_taped) (.int z799) (.int z800) (.int z801) (.int z802) (.long z803) (.int z30) (.int z31) (.int z32) (.int 1) (.int x_mm_reading)))), (h_tap, .inl (cy_tap, 600, .inl f_tap))] H := hP
        replace hD : va_D A [(h_nv, .inl (cy_nv, 8000, .inl f33)), (h_nn, .inl (cy_nn, 8000, .inr (.inl f34))), (h_na, .inl (cy_na, 8000, .inl f778)), (h_nb, .inl (cy_nb, 8000, .inl f36)), (h_nc, .inl (cy_nc, 8000, .inl f37)), (h_vrs, .inl (cy_vrs, 32, .inl f38)), (h_let, .inl (cy_let, 256, .inl f39)), (h_mm, .inr (8, (mo126 v_mm (.ref h_nv) (.ref h_nn) (.ref h_na) (.ref h_nb) (.ref h_nc) (.int z24) (.ref h_vrs) (.ref h_let) (.ref h_tap) (.int x_mm_taped) (.int z799) (.int z800) (.int z801) (.int z802) (.long z803) (.int z30) (.int z31) (.int z32) (.int 1) (.int x_mm_reading)))), (h_tap, .inl (cy_tap, 600, .inl f_tap))] := hD
        clear evq797 
        obtain ⟨k804, k805, k806, k807, k808, k809, k810, k811, hq⟩ := hq
        replace k804 : 0 ≤ ((z799)).toInt ∧ ((z799)).toInt ≤ 600 := k804
        replace k805 : 0 ≤ ((z800)).toInt ∧ ((z800)).toInt ≤ 600 := k805
        replace k806 : 0 ≤ ((z801)).toInt ∧ ((z801)).toInt ≤ 4 := k806
        replace k807 : ((z800)).toInt ≤ ((z799)).toInt := k807
        replace k808 : ((z801)).toInt = kd (tkT (G) ((x_mm_taped)).toInt ((z800)).toInt) := k808
        replace k809 : ((z801)).toInt = 0 ∨ (((z799)).toInt = tkX (G) ((x_mm_taped)).toInt ((z800)).toInt ∧ ((z802)).toInt = (G) ((z800)).toInt ∧ ((z800)).toInt < ((x_mm_taped)).toInt ∧ ((z800)).toInt + 1 ≤ ((z799)).toInt) := k809
        replace k810 : ((z799)).toInt ≤ ((x_mm_taped)).toInt := k810
        replace k811 : ((z800)).toInt ≤ ((x_mm_taped)).toInt := k811
        rcases hq with ⟨rfl, hq⟩ | ⟨rfl, hq⟩ | ⟨rfl, hq⟩
        · replace hq : (((z30)).toInt = 0) ∧ (tkT (G) ((x_mm_taped)).toInt ((z784)).toInt = ((41 : Int32)).toInt) ∧ (((z800)).toInt = tkN (G) ((x_mm_taped)).toInt ((z784)).toInt) ∧ (((z783)).toInt ≤ ((z800)).toInt) ∧ (((z784)).toInt + 1 ≤ ((z800)).toInt) := hq
          exact False.elim (by omega)
        · replace hq : (((z800)).toInt = ((z784)).toInt) ∧ (((z799)).toInt = ((z783)).toInt) ∧ (((z801)).toInt = ((z785)).toInt) ∧ (((z30)).toInt = 1) := hq
          refine lv_if_ne (tgt := 133) hx hb dX11_readsParts_125 (by decide) (fun c9 => absurd c9 (by decide)) (fun _ => ?_)
          refine lv_aload_n hx hb dX11_readsParts_128 rfl (lv_at hl 0 rfl) ?_
          refine lv_iconst (v := 1) hx hb dX11_readsParts_129 (by decide) ?_
          obtain ⟨vq812, evq812⟩ := mq126_90 v_mm (.ref h_nv) (.ref h_nn) (.ref h_na) (.ref h_nb) (.ref h_nc) (.int z24) (.ref h_vrs) (.ref h_let) (.ref h_tap) (.int x_mm_taped) (.int z799) (.int z801) (.int z802) (.long z803) (.int 1) (.int x_mm_reading)
          replace hP : va_P (dC, dI) cls [(h_nv, .inl (cy_nv, 8000, .inl f33)), (h_nn, .inl (cy_nn, 8000, .inr (.inl f34))), (h_na, .inl (cy_na, 8000, .inl f778)), (h_nb, .inl (cy_nb, 8000, .inl f36)), (h_nc, .inl (cy_nc, 8000, .inl f37)), (h_vrs, .inl (cy_vrs, 32, .inl f38)), (h_let, .inl (cy_let, 256, .inl f39)), (h_mm, .inr (8, (mo90 vq812 (.int z800) (.int z30) (.int z31) (.int z32)))), (h_tap, .inl (cy_tap, 600, .inl f_tap))] H := by rw [evq812]; exact hP
          replace hD : va_D A [(h_nv, .inl (cy_nv, 8000, .inl f33)), (h_nn, .inl (cy_nn, 8000, .inr (.inl f34))), (h_na, .inl (cy_na, 8000, .inl f778)), (h_nb, .inl (cy_nb, 8000, .inl f36)), (h_nc, .inl (cy_nc, 8000, .inl f37)), (h_vrs, .inl (cy_vrs, 32, .inl f38)), (h_let, .inl (cy_let, 256, .inl f39)), (h_mm, .inr (8, (mo90 vq812 (.int z800) (.int z30) (.int z31) (.int z32)))), (h_tap, .inl (cy_tap, 600, .inl f_tap))] := by rw [evq812]; exact hD
          have cst1 : (1 : Int32).toInt = 1 := by decide
          have hPc := hP.sub (ws' := [(h_mm, .inr (8, (mo90 vq812 (.int z800) (.int z30) (.int z31) (.int z32))))]) [7] rfl
          have hDc := hD.sub (ws' := [(h_mm, .inr (8, (mo90 vq812 (.int z800) (.int z30) (.int z31) (.int z32))))]) [7] (by decide) rfl
          have hKc := hK.sub (tys' := []) [] rfl
          have hFc := va_free (wc := [(h_mm, .inr (8, (mo90 vq812 (.int z800) (.int z30) (.int z31) (.int z32))))]) hD hS hA [7] rfl
          refine va_callv (va_runV (As := [.int 1]) (rest := []) ⟨hx, hb, hml, hown, hts⟩ (c_X11_faulty l dC dI H.size h_mm vq812 z800 z30 z31 z32 1 (by first | exact k805 | omega) (by first | exact k45 | omega)) (cwV 1 hts (gv hT w_m_X11_111 w_instanceMethod_X11_faulty ws_sel_X11_faulty w_ini_X11 w_code_X11_faulty) rfl rfl rfl (by decide +kernel) ⟨(Nat.le_of_ble_eq_true rfl), (Nat.le_of_ble_eq_true rfl)⟩) ⟨pre_blind, va_recv hK hP (ci := 8) (q0 := 7) rfl rfl, pre_of hPc hKc hDc hN⟩ rfl rfl hl.1 rfl (lv_room (Nat.le_of_ble_eq_true rfl)) dX11_readsParts_130 ⟨(Nat.le_of_ble_eq_true rfl), (Nat.le_of_ble_eq_true rfl)⟩) hS (fun q _ h => hFc q h) hFc (fun u t H locs ht hvm hq hB hz1 hk1 hS9 => ?_)
          obtain ⟨z814, z815, z816⟩ := u
          obtain ⟨hP1, hD1⟩ := hB
          rw [ht] at hP1
          obtain ⟨hP9, hD9⟩ := va_join (wr := [(h_nv, .inl (cy_nv, 8000, .inl f33)), (h_nn, .inl (cy_nn, 8000, .inr (.inl f34))), (h_na, .inl (cy_na, 8000, .inl f778)), (h_nb, .inl (cy_nb, 8000, .inl f36)), (h_nc, .inl (cy_nc, 8000, .inl f37)), (h_vrs, .inl (cy_vrs, 32, .inl f38)), (h_let, .inl (cy_let, 256, .inl f39)), (h_tap, .inl (cy_tap, 600, .inl f_tap))]) (w1 := [(h_mm, .inr (8, (mo90 vq812 (.int z800) (.int z814) (.int z815) (.int z816))))]) hP hD [7] [0, 1, 2, 3, 4, 5, 6, 8] rfl rfl (by decide) (by decide) hk1 hFc hP1 hD1
          clear hP hD hS hPc hDc hKc hFc hP1 hD1 hk1 hz1 ht hvm
          have hP : va_P (dC, dI) cls [(h_nv, .inl (cy_nv, 8000, .inl f33)), (h_nn, .inl (cy_nn, 8000, .inr (.inl f34))), (h_na, .inl (cy_na, 8000, .inl f778)), (h_nb, .inl (cy_nb, 8000, .inl f36)), (h_nc, .inl (cy_nc, 8000, .inl f37)), (h_vrs, .inl (cy_vrs, 32, .inl f38)), (h_let, .inl (cy_let, 256, .inl f39)), (h_tap, .inl (cy_tap, 600, .inl f_tap)), (h_mm, .inr (8, (mo90 vq812 (.int z800) (.int z814) (.int z815) (.int z816))))] H := hP9
          have hD : va_D A [(h_nv, .inl (cy_nv, 8000, .inl f33)), (h_nn, .inl (cy_nn, 8000, .inr (.inl f34))), (h_na, .inl (cy_na, 8000, .inl f778)), (h_nb, .inl (cy_nb, 8000, .inl f36)), (h_nc, .inl (cy_nc, 8000, .inl f37)), (h_vrs, .inl (cy_vrs, 32, .inl f38)), (h_let, .inl (cy_let, 256, .inl f39)), (h_tap, .inl (cy_tap, 600, .inl f_tap)), (h_mm, .inr (8, (mo90 vq812 (.int z800) (.int z814) (.int z815) (.int z816))))] := hD9
          have hS := hS9
          clear hP9 hD9 hS9
          rw [evq812] at hP hD
          replace hP : va_P (dC, dI) cls [(h_nv, .inl (cy_nv, 8000, .inl f33)), (h_nn, .inl (cy_nn, 8000, .inr (.inl f34))), (h_na, .inl (cy_na, 8000, .inl f778)), (h_nb, .inl (cy_nb, 8000, .inl f36)), (h_nc, .inl (cy_nc, 8000, .inl f37)), (h_vrs, .inl (cy_vrs, 32, .inl f38)), (h_let, .inl (cy_let, 256, .inl f39)), (h_tap, .inl (cy_tap, 600, .inl f_tap)), (h_mm, .inr (8, (mo126 v_mm (.ref h_nv) (.ref h_nn) (.ref h_na) (.ref h_nb) (.ref h_nc) (.int z24) (.ref h_vrs) (.ref h_let) (.ref h_tap) (.int x_mm_taped) (.int z799) (.int z800) (.int z801) (.int z802) (.long z803) (.int z814) (.int z815) (.int z816) (.int 1) (.int x_mm_reading))))] H := hP
          replace hD : va_D A [(h_nv, .inl (cy_nv, 8000, .inl f33)), (h_nn, .inl (cy_nn, 8000, .inr (.inl f34))), (h_na, .inl (cy_na, 8000, .inl f778)), (h_nb, .inl (cy_nb, 8000, .inl f36)), (h_nc, .inl (cy_nc, 8000, .inl f37)), (h_vrs, .inl (cy_vrs, 32, .inl f38)), (h_let, .inl (cy_let, 256, .inl f39)), (h_tap, .inl (cy_tap, 600, .inl f_tap)), (h_mm, .inr (8, (mo126 v_mm (.ref h_nv) (.ref h_nn) (.ref h_na) (.ref h_nb) (.ref h_nc) (.int z24) (.ref h_vrs) (.ref h_let) (.ref h_tap) (.int x_mm_taped) (.int z799) (.int z800) (.int z801) (.int z802) (.long z803) (.int z814) (.int z815) (.int z816) (.int 1) (.int x_mm_reading))))] := hD
          clear evq812 
          obtain ⟨k817, k818, k819⟩ := hq
          replace k817 : 0 ≤ ((z814)).toInt ∧ ((z814)).toInt ≤ 1 := k817
          replace k818 : ((z814)).toInt = 1 := k818
          replace k819 : (((z30)).toInt = 1 ∧ ((z815)).toInt = ((z31)).toInt ∧ ((z816)).toInt = ((z32)).toInt) ∨ (((z30)).toInt = 0 ∧ ((z815)).toInt = ((1 : Int32)).toInt ∧ ((z816)).toInt = ((z800)).toInt) := k819
          refine lv_aload_n hx hb dX11_readsParts_133 rfl (lv_at hl 0 rfl) ?_
          refine lv_aload_n hx hb dX11_readsParts_134 rfl (lv_at hl 0 rfl) ?_
          refine va_get (D := (dC, dI)) (ci := 8) (v := .int 1) (C := RX11) (T := TX11) (N := 71) hx hb hw iwX11 hown hK hP 8 rfl rfl 23 (by decide) (hw _ w_f_X11_130) (fun _ h9 => h9) rfl dX11_readsParts_135 ?_
          refine lv_iconst (v := 1) hx hb dX11_readsParts_138 (by decide) ?_
          refine lv_isub hx hb dX11_readsParts_139 ?_
          refine lv_topi (fun z820 ez820 => ?_)
          obtain rfl : z820 = 0 := ez820.trans (by decide)
          refine va_put (D := (dC, dI)) (ci := 8) (v := .int 0) (ty := tyX11 23) (C := RX11) (T := TX11) (N := 71) hx hb hw iwX11 tyX11 tyX11_ok nmX11 hown hK hP hD hS 8 rfl rfl 23 (by decide) (hw _ w_f_X11_130) (fun _ h9 => h9) rfl (tyX11_ok 23 (by decide)) rfl rfl (Nat.le_of_ble_eq_true rfl) dX11_readsParts_140 (fun H locs hP9 hD9 hS9 => ?_)
          clear hP hD hS
          have hP : va_P (dC, dI) cls [(h_nv, .inl (cy_nv, 8000, .inl f33)), (h_nn, .inl (cy_nn, 8000, .inr (.inl f34))), (h_na, .inl (cy_na, 8000, .inl f778)), (h_nb, .inl (cy_nb, 8000, .inl f36)), (h_nc, .inl (cy_nc, 8000, .inl f37)), (h_vrs, .inl (cy_vrs, 32, .inl f38)), (h_let, .inl (cy_let, 256, .inl f39)), (h_tap, .inl (cy_tap, 600, .inl f_tap)), (h_mm, .inr (8, (mo126 v_mm (.ref h_nv) (.ref h_nn) (.ref h_na) (.ref h_nb) (.ref h_nc) (.int z24) (.ref h_vrs) (.ref h_let) (.ref h_tap) (.int x_mm_taped) (.int z799) (.int z800) (.int z801) (.int z802) (.long z803) (.int z814) (.int z815) (.int z816) (.int 0) (.int x_mm_reading))))] H := hP9
          have hD : va_D A [(h_nv, .inl (cy_nv, 8000, .inl f33)), (h_nn, .inl (cy_nn, 8000, .inr (.inl f34))), (h_na, .inl (cy_na, 8000, .inl f778)), (h_nb, .inl (cy_nb, 8000, .inl f36)), (h_nc, .inl (cy_nc, 8000, .inl f37)), (h_vrs, .inl (cy_vrs, 32, .inl f38)), (h_let, .inl (cy_let, 256, .inl f39)), (h_tap, .inl (cy_tap, 600, .inl f_tap)), (h_mm, .inr (8, (mo126 v_mm (.ref h_nv) (.ref h_nn) (.ref h_na) (.ref h_nb) (.ref h_nc) (.int z24) (.ref h_vrs) (.ref h_let) (.ref h_tap) (.int x_mm_taped) (.int z799) (.int z800) (.int z801) (.int z802) (.long z803) (.int z814) (.int z815) (.int z816) (.int 0) (.int x_mm_reading))))] := hD9
          have hS := hS9
          clear hP9 hD9 hS9
          replace hP : va_P (dC, dI) cls [(h_mm, .inr (8, (mo126 v_mm (.ref h_nv) (.ref h_nn) (.ref h_na) (.ref h_nb) (.ref h_nc) (.int z24) (.ref h_vrs) (.ref h_let) (.ref h_tap) (.int x_mm_taped) (.int z799) (.int z800) (.int z801) (.int z802) (.long z803) (.int z814) (.int z815) (.int z816) (.int 0) (.int x_mm_reading)))), (h_tap, .inl (cy_tap, 600, .inl f_tap)), (h_nv, .inl (cy_nv, 8000, .inl f33)), (h_nn, .inl (cy_nn, 8000, .inr (.inl f34))), (h_na, .inl (cy_na, 8000, .inl f778)), (h_nb, .inl (cy_nb, 8000, .inl f36)), (h_nc, .inl (cy_nc, 8000, .inl f37)), (h_vrs, .inl (cy_vrs, 32, .inl f38)), (h_let, .inl (cy_let, 256, .inl f39))] H := hP.sub [8, 7, 0, 1, 2, 3, 4, 5, 6] rfl
          replace hD : va_D A [(h_mm, .inr (8, (mo126 v_mm (.ref h_nv) (.ref h_nn) (.ref h_na) (.ref h_nb) (.ref h_nc) (.int z24) (.ref h_vrs) (.ref h_let) (.ref h_tap) (.int x_mm_taped) (.int z799) (.int z800) (.int z801) (.int z802) (.long z803) (.int z814) (.int z815) (.int z816) (.int 0) (.int x_mm_reading)))), (h_tap, .inl (cy_tap, 600, .inl f_tap)), (h_nv, .inl (cy_nv, 8000, .inl f33)), (h_nn, .inl (cy_nn, 8000, .inr (.inl f34))), (h_na, .inl (cy_na, 8000, .inl f778)), (h_nb, .inl (cy_nb, 8000, .inl f36)), (h_nc, .inl (cy_nc, 8000, .inl f37)), (h_vrs, .inl (cy_vrs, 32, .inl f38)), (h_let, .inl (cy_let, 256, .inl f39))] := hD.sub [8, 7, 0, 1, 2, 3, 4, 5, 6] (by decide) rfl
          refine W.widen (k := 0) (n := 0) (Nat.le_of_ble_eq_true rfl) (Nat.le_of_ble_eq_true rfl) ?_
          have w821 : 0 ≤ ((z24)).toInt ∧ ((z24)).toInt ≤ 1200 := by first | exact k41 | omega
          have w822 : 0 ≤ ((z799)).toInt ∧ ((z799)).toInt ≤ 600 := by first | exact k804 | omega
          have w823 : 0 ≤ ((z800)).toInt ∧ ((z800)).toInt ≤ 600 := by first | exact k805 | omega
          have w824 : 0 ≤ ((z801)).toInt ∧ ((z801)).toInt ≤ 4 := by first | exact k806 | omega
          have w825 : 0 ≤ ((z814)).toInt ∧ ((z814)).toInt ≤ 1 := by first | exact k817 | omega
          have w826 : ((z800)).toInt ≤ ((z799)).toInt := by first | exact k807 | omega
          have w827 : ((z814)).toInt = 1 ∨ ((z24)).toInt ≤ lo + ((z800)).toInt := by omega
          have w828 : (x_mm_nodes).toInt ≤ ((z24)).toInt := by first | exact k49 | omega
          have w829 : (x_mm_place).toInt ≤ ((z800)).toInt := by omega
          have w830 : (x_mm_isFaulty).toInt ≤ ((z814)).toInt := by omega
          have w831 : (((z814)).toInt = 0 ∧ ((pPs G (x_mm_taped).toInt 6 (x_mm_place).toInt nv vf)).1 = 0 ∧ ((z815)).toInt = (x_mm_fault).toInt ∧ ((z816)).toInt = (x_mm_faultPlace).toInt) ∨ (((z814)).toInt = 1 ∧ ¬ ((pPs G (x_mm_taped).toInt 6 (x_mm_place).toInt nv vf)).1 = 0 ∧ ((z815)).toInt = ((pPs G (x_mm_taped).toInt 6 (x_mm_place).toInt nv vf)).1 ∧ ((z816)).toInt = ((pPs G (x_mm_taped).toInt 6 (x_mm_place).toInt nv vf)).2.1) := by omega
          have w832 : ((z800)).toInt = ((pPs G (x_mm_taped).toInt 6 (x_mm_place).toInt nv vf)).2.1 := by omega
          have w833 : 0 ≤ ((pPs G (x_mm_taped).toInt 6 (x_mm_place).toInt nv vf)).2.2.1 ∧ ((pPs G (x_mm_taped).toInt 6 (x_mm_place).toInt nv vf)).2.2.1 ≤ 8 := by omega
          have w834 : ((z801)).toInt = kd (tkT G (x_mm_taped).toInt ((z800)).toInt) := by first | exact k808 | omega
          have w835 : ((z801)).toInt = 0 ∨ (((z799)).toInt = tkX G (x_mm_taped).toInt ((z800)).toInt ∧ ((z802)).toInt = G ((z800)).toInt ∧ ((z800)).toInt < (x_mm_taped).toInt ∧ ((z800)).toInt + 1 ≤ ((z799)).toInt) := by first | exact k809 | omega
          have w836 : ((z799)).toInt ≤ (x_mm_taped).toInt := by first | exact k810 | omega
          have w837 : ((z800)).toInt ≤ (x_mm_taped).toInt := by first | exact k811 | omega
          have w838 : EQ0 lo za zb zc zv (f778) (f36) (f37) (f33) := nd780
          have w839 : ND lo ((z24)).toInt (gh40) (f778) (f36) (f37) := (nd_cast nd779 (by omega))
          have w840 : ∀ y : Nat, (y : Int) < (x_mm_nodes).toInt → (gh40) y = hh y := (fun y hy => (k62 y (by omega)).trans (rfl))
          have w841 : ((f38) (Int32.toNatClampNeg x_mm_reading)).toInt = ((pPs G (x_mm_taped).toInt 6 (x_mm_place).toInt nv vf)).2.2.1 := (k63.trans pq7963.symm)
          have w842 : VFM ((pPs G (x_mm_taped).toInt 6 (x_mm_place).toInt nv vf)).2.2.1 ((pPs G (x_mm_taped).toInt 6 (x_mm_place).toInt nv vf)).2.2.2 (f39) (x_mm_reading).toInt := (by rw [pq7963, pq7964]; exact k64)
          exact W.vret hx hb hr (fun t ht hW => ⟨⟨(z24, z799, z800, z801, z802, z803, z814, z815, z816, f33, f34, f778, f36, f37, f38, f39, gh40), rfl, ⟨w821, w822, w823, w824, w825, hf33, hf778, hf36, hf37, hf38, w826, w827, w828, w829, w830, w831, w832, w833, w834, w835, w836, w837, w838, w839, w840, w841, w842⟩, by rw [ht]; exact hP, hD⟩, hS.F ht⟩) hS.2.2 dX11_readsParts_143
        · replace hq : (((z800)).toInt = ((z784)).toInt) ∧ (((z799)).toInt = ((z783)).toInt) ∧ (((z801)).toInt = ((z785)).toInt) ∧ (((z30)).toInt = 0) ∧ (¬ tkT (G) ((x_mm_taped)).toInt ((z784)).toInt = ((41 : Int32)).toInt) := hq
          exact False.elim (by omega)
      · replace hq : (((z784)).toInt = ((z26)).toInt) ∧ (((z783)).toInt = ((z25)).toInt) ∧ (((z785)).toInt = ((z27)).toInt) ∧ (((z30)).toInt = 0) ∧ (¬ tkT (G) ((x_mm_taped)).toInt ((z26)).toInt = ((44 : Int32)).toInt) := hq
        exact False.elim (by omega)
  · replace hq : (((x_mm_isFaulty)).toInt = 1) := hq
    exact False.elim (by omega)
  · replace hq : (((x_mm_isFaulty)).toInt = 0) ∧ (¬ ((x_mm_kind)).toInt = 3 ∨ ¬ ((x_mm_sign)).toInt = ((40 : Int32)).toInt) := hq
    refine lv_if_ne (tgt := 10) hx hb dX11_readsParts_6 (by decide) (fun c9 => absurd c9 (by decide)) (fun _ => ?_)
    have nt9 : ¬ tkT G (x_mm_taped).toInt (x_mm_place).toInt = 40 := by omega
    have pv9 : (pPs G (x_mm_taped).toInt 6 (x_mm_place).toInt nv vf) = (0, (x_mm_place).toInt, nv, vf) := pPs_none nt9
    have pq8431 : ((pPs G (x_mm_taped).toInt 6 (x_mm_place).toInt nv vf)).1 = 0 := by rw [pv9]
    have pq8432 : ((pPs G (x_mm_taped).toInt 6 (x_mm_place).toInt nv vf)).2.1 = (x_mm_place).toInt := by rw [pv9]
    have pq8433 : ((pPs G (x_mm_taped).toInt 6 (x_mm_place).toInt nv vf)).2.2.1 = nv := by rw [pv9]
    have pq8434 : ((pPs G (x_mm_taped).toInt 6 (x_mm_place).toInt nv vf)).2.2.2 = vf := by rw [pv9]
    replace hP : va_P (dC, dI) cls [(h_mm, .inr (8, (mo126 v_mm (.ref h_nv) (.ref h_nn) (.ref h_na) (.ref h_nb) (.ref h_nc) (.int x_mm_nodes) (.ref h_vrs) (.ref h_let) (.ref h_tap) (.int x_mm_taped) (.int x_mm_at) (.int x_mm_place) (.int x_mm_kind) (.int x_mm_sign) (.long x_mm_name) (.int x_mm_isFaulty) (.int x_mm_fault) (.int x_mm_faultPlace) (.int 0) (.int x_mm_reading)))), (h_tap, .inl (cy_tap, 600, .inl f_tap)), (h_nv, .inl (cy_nv, 8000, .inl f_nv)), (h_nn, .inl (cy_nn, 8000, .inr (.inl f_nn))), (h_na, .inl (cy_na, 8000, .inl f_na)), (h_nb, .inl (cy_nb, 8000, .inl f_nb)), (h_nc, .inl (cy_nc, 8000, .inl f_nc)), (h_vrs, .inl (cy_vrs, 32, .inl f_vrs)), (h_let, .inl (cy_let, 256, .inl f_let))] H := hP.sub [8, 0, 1, 2, 3, 4, 5, 6, 7] rfl
    replace hD : va_D A [(h_mm, .inr (8, (mo126 v_mm (.ref h_nv) (.ref h_nn) (.ref h_na) (.ref h_nb) (.ref h_nc) (.int x_mm_nodes) (.ref h_vrs) (.ref h_let) (.ref h_tap) (.int x_mm_taped) (.int x_mm_at) (.int x_mm_place) (.int x_mm_kind) (.int x_mm_sign) (.long x_mm_name) (.int x_mm_isFaulty) (.int x_mm_fault) (.int x_mm_faultPlace) (.int 0) (.int x_mm_reading)))), (h_tap, .inl (cy_tap, 600, .inl f_tap)), (h_nv, .inl (cy_nv, 8000, .inl f_nv)), (h_nn, .inl (cy_nn, 8000, .inr (.inl f_nn))), (h_na, .inl (cy_na, 8000, .inl f_na)), (h_nb, .inl (cy_nb, 8000, .inl f_nb)), (h_nc, .inl (cy_nc, 8000, .inl f_nc)), (h_vrs, .inl (cy_vrs, 32, .inl f_vrs)), (h_let, .inl (cy_let, 256, .inl f_let))] := hD.sub [8, 0, 1, 2, 3, 4, 5, 6, 7] (by decide) rfl
    refine W.widen (k := 0) (n := 0) (Nat.le_of_ble_eq_true rfl) (Nat.le_of_ble_eq_true rfl) ?_
    have w844 : 0 ≤ ((x_mm_nodes)).toInt ∧ ((x_mm_nodes)).toInt ≤ 1200 := by first | exact hx_mm_nodes | omega
    have w845 : 0 ≤ ((x_mm_at)).toInt ∧ ((x_mm_at)).toInt ≤ 600 := by first | exact hx_mm_at | omega
    have w846 : 0 ≤ ((x_mm_place)).toInt ∧ ((x_mm_place)).toInt ≤ 600 := by first | exact hx_mm_place | omega
    have w847 : 0 ≤ ((x_mm_kind)).toInt ∧ ((x_mm_kind)).toInt ≤ 4 := by first | exact hx_mm_kind | omega
    have w848 : 0 ≤ ((x_mm_isFaulty)).toInt ∧ ((x_mm_isFaulty)).toInt ≤ 1 := by first | exact hx_mm_isFaulty | omega
    have w849 : ((x_mm_place)).toInt ≤ ((x_mm_at)).toInt := by first | exact q0 | omega
    have w850 : ((x_mm_isFaulty)).toInt = 1 ∨ ((x_mm_nodes)).toInt ≤ lo + ((x_mm_place)).toInt := by first | exact q2 | omega
    have w851 : (x_mm_nodes).toInt ≤ ((x_mm_nodes)).toInt := by omega
    have w852 : (x_mm_place).toInt ≤ ((x_mm_place)).toInt := by omega
    have w853 : (x_mm_isFaulty).toInt ≤ ((x_mm_isFaulty)).toInt := by omega
    have w854 : (((x_mm_isFaulty)).toInt = 0 ∧ ((pPs G (x_mm_taped).toInt 6 (x_mm_place).toInt nv vf)).1 = 0 ∧ ((x_mm_fault)).toInt = (x_mm_fault).toInt ∧ ((x_mm_faultPlace)).toInt = (x_mm_faultPlace).toInt) ∨ (((x_mm_isFaulty)).toInt = 1 ∧ ¬ ((pPs G (x_mm_taped).toInt 6 (x_mm_place).toInt nv vf)).1 = 0 ∧ ((x_mm_fault)).toInt = ((pPs G (x_mm_taped).toInt 6 (x_mm_place).toInt nv vf)).1 ∧ ((x_mm_faultPlace)).toInt = ((pPs G (x_mm_taped).toInt 6 (x_mm_place).toInt nv vf)).2.1) := by omega
    have w855 : ((x_mm_place)).toInt = ((pPs G (x_mm_taped).toInt 6 (x_mm_place).toInt nv vf)).2.1 := by omega
    have w856 : 0 ≤ ((pPs G (x_mm_taped).toInt 6 (x_mm_place).toInt nv vf)).2.2.1 ∧ ((pPs G (x_mm_taped).toInt 6 (x_mm_place).toInt nv vf)).2.2.1 ≤ 8 := by omega
    have w857 : ((x_mm_kind)).toInt = kd (tkT G (x_mm_taped).toInt ((x_mm_place)).toInt) := by first | exact q8 | omega
    have w858 : ((x_mm_kind)).toInt = 0 ∨ (((x_mm_at)).toInt = tkX G (x_mm_taped).toInt ((x_mm_place)).toInt ∧ ((x_mm_sign)).toInt = G ((x_mm_place)).toInt ∧ ((x_mm_place)).toInt < (x_mm_taped).toInt ∧ ((x_mm_place)).toInt + 1 ≤ ((x_mm_at)).toInt) := by first | exact q9 | omega
    have w859 : ((x_mm_at)).toInt ≤ (x_mm_taped).toInt := by first | exact q10 | omega
    have w860 : ((x_mm_place)).toInt ≤ (x_mm_taped).toInt := by first | exact q11 | omega
    have w861 : EQ0 lo za zb zc zv (f_na) (f_nb) (f_nc) (f_nv) := hn_nd0
    have w862 : ND lo ((x_mm_nodes)).toInt (hh) (f_na) (f_nb) (f_nc) := (nd_cast hn_nd (by omega))
    have w863 : ∀ y : Nat, (y : Int) < (x_mm_nodes).toInt → (hh) y = hh y := (fun y hy => rfl)
    have w864 : ((f_vrs) (Int32.toNatClampNeg x_mm_reading)).toInt = ((pPs G (x_mm_taped).toInt 6 (x_mm_place).toInt nv vf)).2.2.1 := (hn_nvq.trans pq8433.symm)
    have w865 : VFM ((pPs G (x_mm_taped).toInt 6 (x_mm_place).toInt nv vf)).2.2.1 ((pPs G (x_mm_taped).toInt 6 (x_mm_place).toInt nv vf)).2.2.2 (f_let) (x_mm_reading).toInt := (by rw [pq8433, pq8434]; exact hn_vfm)
    exact W.vret hx hb hr (fun t ht hW => ⟨⟨(x_mm_nodes, x_mm_at, x_mm_place, x_mm_kind, x_mm_sign, x_mm_name, x_mm_isFaulty, x_mm_fault, x_mm_faultPlace, f_nv, f_nn, f_na, f_nb, f_nc, f_vrs, f_let, hh), rfl, ⟨w844, w845, w846, w847, w848, hf_nv, hf_na, hf_nb, hf_nc, hf_vrs, w849, w850, w851, w852, w853, w854, w855, w856, w857, w858, w859, w860, w861, w862, w863, w864, w865⟩, by rw [ht]; exact hP, hD⟩, hS.F ht⟩) hS.2.2 dX11_readsParts_9

