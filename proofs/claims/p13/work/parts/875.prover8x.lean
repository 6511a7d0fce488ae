theorem w_code_X4_restOf : Cond.code yX4_restOf prog_6_method_21_code 3 (some (.object "OppositePairs$Row")) ∈ WALL := wall_t (tb_4 93 (by decide +kernel)) rfl
theorem w_instanceMethod_X4_restOf : Cond.instanceMethod yX4_restOf ∈ WALL := wall_t (tb_4 92 (by decide +kernel)) rfl
theorem w_m_X4_259 : Cond.methodLink "OppositePairs$Prover" 259 yX4_restOf ∈ WALL := wall_t (tb_4 90 (by decide +kernel)) rfl
theorem w_m_X4_269 : Cond.methodLink "OppositePairs$Prover" 269 Lib.Math.max.name ∈ WALL := wall_t (tb_4 117 (by decide +kernel)) rfl
theorem w_mcd_max : Cond.code Lib.Math.max.name Lib.Math.max.code 2 (some .int) ∈ WALL := wall_t (tb_4 119 (by decide +kernel)) rfl
theorem w_mst_max : Cond.static Lib.Math.max.name ∈ WALL := wall_t (tb_4 118 (by decide +kernel)) rfl
theorem ws_sel_X4_restOf : Cond.selects "OppositePairs$Prover" yX4_restOf yX4_restOf ∈ WALL := wall_s 66 (by decide +kernel) rfl
theorem dX4_rowBehind_0 : decode cX4_rowBehind 0 = .ok (.aload_n 0, 1) := by decide +kernel
theorem dX4_rowBehind_1 : decode cX4_rowBehind 1 = .ok (.aload_n 1, 1) := by decide +kernel
theorem dX4_rowBehind_10 : decode cX4_rowBehind 10 = .ok (.getfield 250, 3) := by decide +kernel
theorem dX4_rowBehind_100 : decode cX4_rowBehind 100 = .ok (.invokestatic 269, 3) := by decide +kernel
theorem dX4_rowBehind_103 : decode cX4_rowBehind 103 = .ok (.putfield 49, 3) := by decide +kernel
theorem dX4_rowBehind_106 : decode cX4_rowBehind 106 = .ok (.aload_n 3, 1) := by decide +kernel
theorem dX4_rowBehind_107 : decode cX4_rowBehind 107 = .ok (.areturn, 1) := by decide +kernel
theorem dX4_rowBehind_13 : decode cX4_rowBehind 13 = .ok (.iconst 3, 1) := by decide +kernel
theorem dX4_rowBehind_14 : decode cX4_rowBehind 14 = .ok (.if_icmp .eq 5, 3) := by decide +kernel
theorem dX4_rowBehind_17 : decode cX4_rowBehind 17 = .ok (.aload_n 2, 1) := by decide +kernel
theorem dX4_rowBehind_18 : decode cX4_rowBehind 18 = .ok (.areturn, 1) := by decide +kernel
theorem dX4_rowBehind_19 : decode cX4_rowBehind 19 = .ok (.aload_n 0, 1) := by decide +kernel
theorem dX4_rowBehind_2 : decode cX4_rowBehind 2 = .ok (.getfield 185, 3) := by decide +kernel
theorem dX4_rowBehind_20 : decode cX4_rowBehind 20 = .ok (.aload_n 1, 1) := by decide +kernel
theorem dX4_rowBehind_21 : decode cX4_rowBehind 21 = .ok (.getfield 253, 3) := by decide +kernel
theorem dX4_rowBehind_24 : decode cX4_rowBehind 24 = .ok (.aload_n 1, 1) := by decide +kernel
theorem dX4_rowBehind_25 : decode cX4_rowBehind 25 = .ok (.getfield 256, 3) := by decide +kernel
theorem dX4_rowBehind_28 : decode cX4_rowBehind 28 = .ok (.iconst 0, 1) := by decide +kernel
theorem dX4_rowBehind_29 : decode cX4_rowBehind 29 = .ok (.invokevirtual 110, 3) := by decide +kernel
theorem dX4_rowBehind_32 : decode cX4_rowBehind 32 = .ok (.astore_n 3, 1) := by decide +kernel
theorem dX4_rowBehind_33 : decode cX4_rowBehind 33 = .ok (.aload_n 3, 1) := by decide +kernel
theorem dX4_rowBehind_34 : decode cX4_rowBehind 34 = .ok (.aload_n 0, 1) := by decide +kernel
theorem dX4_rowBehind_35 : decode cX4_rowBehind 35 = .ok (.aload_n 1, 1) := by decide +kernel
theorem dX4_rowBehind_36 : decode cX4_rowBehind 36 = .ok (.getfield 185, 3) := by decide +kernel
theorem dX4_rowBehind_39 : decode cX4_rowBehind 39 = .ok (.getfield 140, 3) := by decide +kernel
theorem dX4_rowBehind_42 : decode cX4_rowBehind 42 = .ok (.aload_n 1, 1) := by decide +kernel
theorem dX4_rowBehind_43 : decode cX4_rowBehind 43 = .ok (.getfield 185, 3) := by decide +kernel
theorem dX4_rowBehind_46 : decode cX4_rowBehind 46 = .ok (.getfield 137, 3) := by decide +kernel
theorem dX4_rowBehind_49 : decode cX4_rowBehind 49 = .ok (.aload_n 1, 1) := by decide +kernel
theorem dX4_rowBehind_5 : decode cX4_rowBehind 5 = .ok (.invokevirtual 259, 3) := by decide +kernel
theorem dX4_rowBehind_50 : decode cX4_rowBehind 50 = .ok (.getfield 185, 3) := by decide +kernel
theorem dX4_rowBehind_53 : decode cX4_rowBehind 53 = .ok (.getfield 114, 3) := by decide +kernel
theorem dX4_rowBehind_56 : decode cX4_rowBehind 56 = .ok (.invokevirtual 262, 3) := by decide +kernel
theorem dX4_rowBehind_59 : decode cX4_rowBehind 59 = .ok (.putfield 114, 3) := by decide +kernel
theorem dX4_rowBehind_62 : decode cX4_rowBehind 62 = .ok (.aload_n 3, 1) := by decide +kernel
theorem dX4_rowBehind_63 : decode cX4_rowBehind 63 = .ok (.aload_n 1, 1) := by decide +kernel
theorem dX4_rowBehind_64 : decode cX4_rowBehind 64 = .ok (.getfield 185, 3) := by decide +kernel
theorem dX4_rowBehind_67 : decode cX4_rowBehind 67 = .ok (.getfield 118, 3) := by decide +kernel
theorem dX4_rowBehind_70 : decode cX4_rowBehind 70 = .ok (.putfield 118, 3) := by decide +kernel
theorem dX4_rowBehind_73 : decode cX4_rowBehind 73 = .ok (.aload_n 3, 1) := by decide +kernel
theorem dX4_rowBehind_74 : decode cX4_rowBehind 74 = .ok (.aload_n 2, 1) := by decide +kernel
theorem dX4_rowBehind_75 : decode cX4_rowBehind 75 = .ok (.putfield 121, 3) := by decide +kernel
theorem dX4_rowBehind_78 : decode cX4_rowBehind 78 = .ok (.aload_n 3, 1) := by decide +kernel
theorem dX4_rowBehind_79 : decode cX4_rowBehind 79 = .ok (.aload_n 0, 1) := by decide +kernel
theorem dX4_rowBehind_8 : decode cX4_rowBehind 8 = .ok (.astore_n 2, 1) := by decide +kernel
theorem dX4_rowBehind_80 : decode cX4_rowBehind 80 = .ok (.getfield 88, 3) := by decide +kernel
theorem dX4_rowBehind_83 : decode cX4_rowBehind 83 = .ok (.iconst 1, 1) := by decide +kernel
theorem dX4_rowBehind_84 : decode cX4_rowBehind 84 = .ok (.isub, 1) := by decide +kernel
theorem dX4_rowBehind_85 : decode cX4_rowBehind 85 = .ok (.putfield 125, 3) := by decide +kernel
theorem dX4_rowBehind_88 : decode cX4_rowBehind 88 = .ok (.aload_n 0, 1) := by decide +kernel
theorem dX4_rowBehind_89 : decode cX4_rowBehind 89 = .ok (.aload_n 0, 1) := by decide +kernel
theorem dX4_rowBehind_9 : decode cX4_rowBehind 9 = .ok (.aload_n 1, 1) := by decide +kernel
theorem dX4_rowBehind_90 : decode cX4_rowBehind 90 = .ok (.getfield 49, 3) := by decide +kernel
theorem dX4_rowBehind_93 : decode cX4_rowBehind 93 = .ok (.aload_n 3, 1) := by decide +kernel
theorem dX4_rowBehind_94 : decode cX4_rowBehind 94 = .ok (.getfield 114, 3) := by decide +kernel
theorem dX4_rowBehind_97 : decode cX4_rowBehind 97 = .ok (.getfield 266, 3) := by decide +kernel
abbrev mo189 (v : Nat → Value) (a2 a3 a4 a5 a7 a11 a13 : Value) : List Value := [(v 0), (v 1), a2, a3, a4, a5, (v 6), a7, (v 8), (v 9), (v 10), a11, (v 12), a13, (v 14), (v 15), (v 16), (v 17)]
set_option maxRecDepth 100000 in
theorem mq189_177 (v : Nat → Value) (b7 b13 : Value) : ∃ w : Nat → Value, ∀ (a2 a3 a4 a5 a11 : Value), mo177 w a2 a3 a4 a5 a11 = (mo189 v a2 a3 a4 a5 b7 a11 b13) := ⟨fun k => List.getD (mo189 v .null .null .null .null b7 .null b13) k .null, fun _ _ _ _ _ => rfl⟩
set_option maxRecDepth 100000 in
theorem mq189_175 (v : Nat → Value) (b4 b5 b7 b11 b13 : Value) : ∃ w : Nat → Value, ∀ (a2 a3 : Value), mo175 w a2 a3 = (mo189 v a2 a3 b4 b5 b7 b11 b13) := ⟨fun k => List.getD (mo189 v .null .null b4 b5 b7 b11 b13) k .null, fun _ _ => rfl⟩
set_option maxRecDepth 100000 in
theorem mq189_176 (v : Nat → Value) (b2 b3 b7 b11 b13 : Value) : ∃ w : Nat → Value, ∀ (a4 a5 : Value), mo176 w a4 a5 = (mo189 v b2 b3 a4 a5 b7 b11 b13) := ⟨fun k => List.getD (mo189 v b2 b3 .null .null b7 b11 b13) k .null, fun _ _ => rfl⟩
set_option maxHeartbeats 8000000 in
set_option maxRecDepth 100000 in
theorem c_X4_rowBehind (l : Launch) (dC : Nat → ClassId) (dI : Nat → Nat → Nat) (sz : Nat) (h_pv : Nat) (h_rws : Nat) (h_lks : Nat) (nr : Nat) (ra : Nat → Nat) (rf : Nat → RT) (nl : Nat) (la : Nat → Nat) (lf : Nat → LT) (ns : Nat) (sa : Nat → Nat) (sf : Nat → ST) (v_pv : Nat → Value) (x_pv_rowCount : Int32) (x_pv_linkCount : Int32) (x_pv_stepCount : Int32) (x_pv_options : Int32) (x_pv_longest : Int32) (cy_rws : ClassId) (f_rws : Nat → Option Nat) (cy_lks : ClassId) (f_lks : Nat → Option Nat) (j1 : Nat) (vI : Int) (mq : PRM) (c0 : CFT) (nq : CTT) (gbn : Nat → Int32) (gtr : Nat → Int32) (gco : Nat → Int32) (gT : Int) (hx_pv_rowCount : 0 ≤ (x_pv_rowCount).toInt ∧ (x_pv_rowCount).toInt ≤ 361) (hx_pv_linkCount : 0 ≤ (x_pv_linkCount).toInt ∧ (x_pv_linkCount).toInt ≤ 210) (hx_pv_stepCount : 0 ≤ (x_pv_stepCount).toInt ∧ (x_pv_stepCount).toInt ≤ 180) (q0 : (j1 : Int) + 1 = (x_pv_stepCount).toInt) (q1 : j1 < ns) (q2 : (x_pv_rowCount).toInt ≤ 359) (q3 : (x_pv_linkCount).toInt ≤ 208) (q4 : (x_pv_rowCount).toInt ≤ nr) (q5 : (x_pv_linkCount).toInt ≤ nl) (q6 : (x_pv_rowCount).toInt = sRM (sf j1)) (q7 : (x_pv_linkCount).toInt = sLM (sf j1)) (hn_pr : PFX nr 361 f_rws ra) (hn_pk : PFX nl 210 f_lks la) (hn_rok : ROK nr ra rf nl la) (hn_lok : LOK nl la lf) (hn_sok : SOK ns sf nr ra nl la) (hn_lvr : LVR (x_pv_rowCount).toInt (x_pv_linkCount).toInt ra rf la) (hn_lvs : LVS (x_pv_rowCount).toInt (x_pv_linkCount).toInt (x_pv_stepCount).toInt vI ra rf la sf) (hn_op2 : mq.2.2.2.2.2.2.2.1 = true ↔ hasb x_pv_options 2 = 1) (hn_czx : CZX mq c0 la lf ra rf sf gbn gtr gco gT vI j1 nq) : Met l yX4_rowBehind (Ws yX4_rowBehind cX4_rowBehind 4 (some (.object "OppositePairs$Row"))) (({ frames := 4, cells := ((x_pv_rowCount).toInt.toNat + 1 + (k3 (sf j1).2.1).toNat - nr) + ((x_pv_linkCount).toInt.toNat + (hasb x_pv_options 2).toNat + (k3 (sf j1).2.1).toNat - nl), slots := 7 * ((x_pv_rowCount).toInt.toNat + 1 + (k3 (sf j1).2.1).toNat - nr) + 4 * ((x_pv_linkCount).toInt.toNat + (hasb x_pv_options 2).toNat + (k3 (sf j1).2.1).toNat - nl), locals := 147 } : Room)) (PRE (dC, dI) cls [(cy_rws, .object "OppositePairs$Row"), (cy_lks, .object "OppositePairs$Link")] (wp [(h_pv, .inr (3, (mo189 v_pv (.ref h_rws) (.int x_pv_rowCount) (.ref h_lks) (.int x_pv_linkCount) (.int x_pv_stepCount) (.int x_pv_options) (.int x_pv_longest)))), (h_rws, .inl (cy_rws, 361, .inr (.inr (.inr (.inr f_rws))))), (h_lks, .inl (cy_lks, 210, .inr (.inr (.inr (.inr f_lks)))))] (PL nr ra rf nl la lf ns sa sf)) sz [.ref h_pv, .ref (sa j1)]) (va_Qq (fun (r : Option Nat) (u : (Int32) × (Int32) × (Int32) × (Nat → Option Nat) × (Nat → Option Nat) × (Nat) × (Nat → Nat) × (Nat → RT) × (Nat) × (Nat → Nat) × (Nat → LT)) => (0 ≤ (u.1).toInt ∧ (u.1).toInt ≤ 361) ∧ (0 ≤ (u.2.1).toInt ∧ (u.2.1).toInt ≤ 210) ∧ ((u.1).toInt = (x_pv_rowCount).toInt + 1 + k3 (sf j1).2.1) ∧ ((u.2.1).toInt = (x_pv_linkCount).toInt + hasb x_pv_options 2 + k3 (sf j1).2.1) ∧ (nr ≤ u.2.2.2.2.2.1 ∧ nl ≤ u.2.2.2.2.2.2.2.2.1 ∧ (u.1).toInt ≤ u.2.2.2.2.2.1 ∧ (u.2.1).toInt ≤ u.2.2.2.2.2.2.2.2.1) ∧ (GR2 nr u.2.2.2.2.2.1 (u.1).toInt) ∧ (GR2 nl u.2.2.2.2.2.2.2.2.1 (u.2.1).toInt) ∧ (PFX u.2.2.2.2.2.1 361 u.2.2.2.1 u.2.2.2.2.2.2.1) ∧ (PFX u.2.2.2.2.2.2.2.2.1 210 u.2.2.2.2.1 u.2.2.2.2.2.2.2.2.2.1) ∧ (ROK u.2.2.2.2.2.1 u.2.2.2.2.2.2.1 u.2.2.2.2.2.2.2.1 u.2.2.2.2.2.2.2.2.1 u.2.2.2.2.2.2.2.2.2.1) ∧ (LOK u.2.2.2.2.2.2.2.2.1 u.2.2.2.2.2.2.2.2.2.1 u.2.2.2.2.2.2.2.2.2.2) ∧ (SOK ns sf u.2.2.2.2.2.1 u.2.2.2.2.2.2.1 u.2.2.2.2.2.2.2.2.1 u.2.2.2.2.2.2.2.2.2.1) ∧ (LVR (u.1).toInt (u.2.1).toInt u.2.2.2.2.2.2.1 u.2.2.2.2.2.2.2.1 u.2.2.2.2.2.2.2.2.2.1) ∧ (LVS (u.1).toInt (u.2.1).toInt (x_pv_stepCount).toInt vI u.2.2.2.2.2.2.1 u.2.2.2.2.2.2.2.1 u.2.2.2.2.2.2.2.2.2.1 sf) ∧ (∃ q : Nat, (q : Int) < (u.1).toInt ∧ r = some (u.2.2.2.2.2.2.1 q)) ∧ (GOX mq c0 u.2.2.2.2.2.2.2.2.2.1 u.2.2.2.2.2.2.2.2.2.2 u.2.2.2.2.2.2.1 u.2.2.2.2.2.2.2.1 sf gbn gtr gco gT vI (u.1).toInt (u.2.1).toInt (x_pv_stepCount).toInt r nq) ∧ (((sf j1).2.1.toInt = 3 ∧ ∃ (q8 : Nat) (xs8 : List LKT), (q8 : Int) < sRM (sf j1) ∧ sRW (sf j1) = some (ra q8) ∧ LKR la lf (sLM (sf j1)) (rf q8).2.2.2.1 xs8 ∧ (u.2.2.1).toInt = max (x_pv_longest).toInt ((xs8.length : Int) + 1)) ∨ (¬ (sf j1).2.1.toInt = 3 ∧ u.2.2.1 = x_pv_longest))) (fun (u : (Int32) × (Int32) × (Int32) × (Nat → Option Nat) × (Nat → Option Nat) × (Nat) × (Nat → Nat) × (Nat → RT) × (Nat) × (Nat → Nat) × (Nat → LT)) (t : State) => va_P (dC, dI) cls (wp [(h_pv, .inr (3, (mo189 v_pv (.ref h_rws) (.int u.1) (.ref h_lks) (.int u.2.1) (.int x_pv_stepCount) (.int x_pv_options) (.int u.2.2.1)))), (h_rws, .inl (cy_rws, 361, .inr (.inr (.inr (.inr u.2.2.2.1))))), (h_lks, .inl (cy_lks, 210, .inr (.inr (.inr (.inr u.2.2.2.2.1)))))] (PL u.2.2.2.2.2.1 u.2.2.2.2.2.2.1 u.2.2.2.2.2.2.2.1 u.2.2.2.2.2.2.2.2.1 u.2.2.2.2.2.2.2.2.2.1 u.2.2.2.2.2.2.2.2.2.2 ns sa sf)) t.heap ∧ va_D (va_A (wp [(h_pv, .inr (3, (mo189 v_pv (.ref h_rws) (.int x_pv_rowCount) (.ref h_lks) (.int x_pv_linkCount) (.int x_pv_stepCount) (.int x_pv_options) (.int x_pv_longest)))), (h_rws, .inl (cy_rws, 361, .inr (.inr (.inr (.inr f_rws))))), (h_lks, .inl (cy_lks, 210, .inr (.inr (.inr (.inr f_lks)))))] (PL nr ra rf nl la lf ns sa sf)) sz) (wp [(h_pv, .inr (3, (mo189 v_pv (.ref h_rws) (.int u.1) (.ref h_lks) (.int u.2.1) (.int x_pv_stepCount) (.int x_pv_options) (.int u.2.2.1)))), (h_rws, .inl (cy_rws, 361, .inr (.inr (.inr (.inr u.2.2.2.1))))), (h_lks, .inl (cy_lks, 210, .inr (.inr (.inr (.inr u.2.2.2.2.1)))))] (PL u.2.2.2.2.2.1 u.2.2.2.2.2.2.1 u.2.2.2.2.2.2.2.1 u.2.2.2.2.2.2.2.2.1 u.2.2.2.2.2.2.2.2.2.1 u.2.2.2.2.2.2.2.2.2.2 ns sa sf))) (va_A (wp [(h_pv, .inr (3, (mo189 v_pv (.ref h_rws) (.int x_pv_rowCount) (.ref h_lks) (.int x_pv_linkCount) (.int x_pv_stepCount) (.int x_pv_options) (.int x_pv_longest)))), (h_rws, .inl (cy_rws, 361, .inr (.inr (.inr (.inr f_rws))))), (h_lks, .inl (cy_lks, 210, .inr (.inr (.inr (.inr f_lks)))))] (PL nr ra rf nl la lf ns sa sf)) sz)) (((x_pv_rowCount).toInt.toNat + 1 + (k3 (sf j1).2.1).toNat - nr) + ((x_pv_linkCount).toInt.toNat + (hasb x_pv_options 2).toNat + (k3 (sf j1).2.1).toNat - nl)) (7 * ((x_pv_rowCount).toInt.toNat + 1 + (k3 (sf j1).2.1).toNat - nr) + 4 * ((x_pv_linkCount).toInt.toNat + (hasb x_pv_options 2).toNat + (k3 (sf j1).2.1).toNat - nl)) (va_A (wp [(h_pv, .inr (3, (mo189 v_pv (.ref h_rws) (.int x_pv_rowCount) (.ref h_lks) (.int x_pv_linkCount) (.int x_pv_stepCount) (.int x_pv_options) (.int x_pv_longest)))), (h_rws, .inl (cy_rws, 361, .inr (.inr (.inr (.inr f_rws))))), (h_lks, .inl (cy_lks, 210, .inr (.inr (.inr (.inr f_lks)))))] (PL nr ra rf nl la lf ns sa sf)) sz) := by
  refine Met.ofW (cc := cX4_rowBehind) (maxL := 4) (ret := (some (.object "OppositePairs$Row"))) (by decide) rfl ?_
  intro p e s m args below meth c s₁ B hml hv
  obtain ⟨rfl, hsz, hP, hK, hD0, hN⟩ := hv
  have hx := B.exec
  have hb := B.bytes
  have hr := B.returns
  have hts := atoms_spec (ws := Ws yX4_rowBehind cX4_rowBehind 4 (some (.object "OppositePairs$Row"))) B.pre
  have hT : ∀ w ∈ WALL, w ∈ Ws yX4_rowBehind cX4_rowBehind 4 (some (.object "OppositePairs$Row")) := fun w h => List.mem_cons_of_mem _ h
  have hw := fun w (h : w ∈ WALL) => hts w (hT w h)
  have hown : s.vm.findClass RX4 = some m.cls := findClass_of_methodNamed B.named
  have hlocks := B.notSynchronized
  subst hsz
  have hD := hD0.self (sz := s.heap.size)
  generalize hAe : va_A (wp [(h_pv, .inr (3, (mo189 v_pv (.ref h_rws) (.int x_pv_rowCount) (.ref h_lks) (.int x_pv_linkCount) (.int x_pv_stepCount) (.int x_pv_options) (.int x_pv_longest)))), (h_rws, .inl (cy_rws, 361, .inr (.inr (.inr (.inr f_rws))))), (h_lks, .inl (cy_lks, 210, .inr (.inr (.inr (.inr f_lks)))))] (PL nr ra rf nl la lf ns sa sf)) s.heap.size = A at hD ⊢
  have hA : ∀ q : Nat, s.heap.size ≤ q → A q := fun q h => by rw [← hAe]; exact Or.inr h
  have hS : va_S A s.heap s.heap [] := va_S.rf
  have hl := lv_entry ([.ref h_pv, .ref (sa j1)]) (n := 4) (Nat.le_of_ble_eq_true rfl)
  rw [lg_entry_eq]
  generalize (lg_sl ([.ref h_pv, .ref (sa j1)]) ++ List.replicate (4 - (lg_sl ([.ref h_pv, .ref (sa j1)])).length) Slot.unset).toArray = ls at hl ⊢
  have hl : lv_has ls 4 [(0, .ref h_pv), (1, .ref (sa j1))] := hl
  obtain ⟨⟨ro, hro, ero, hn5⟩, g92, g93, g94, g95, g96, g97⟩ := hn_lvs j1 (by omega)
  have hb9 := hasb_le x_pv_options 2
  have k39 : 0 ≤ k3 (sf j1).2.1 ∧ k3 (sf j1).2.1 ≤ 1 := by unfold k3; split <;> omega
  have ij9 : ∀ i k : Nat, (i : Int) < sRM (sf j1) → (k : Int) < sRM (sf j1) → ra i = ra k → i = k := fun i k h8 h9 e9 => wp_injR hD i k (by omega) (by omega) e9
  obtain ⟨lx9, ly9, rl9⟩ := czx_lk hn_czx hro ero ij9
  have lk0 : (x_pv_linkCount).toInt = sLM (sf j1) := by omega
  have lm9 : ∃ xs : List LKT, LKR la lf (x_pv_linkCount).toInt (rf ro).2.2.2.2.1 xs := by rw [lk0]; exact ly9
  refine lv_aload_n hx hb dX4_rowBehind_0 rfl (lv_at hl 0 rfl) ?_
  refine lv_aload_n hx hb dX4_rowBehind_1 rfl (lv_at hl 1 rfl) ?_
  refine va_getN (D := (dC, dI)) (ci := 11) (v := va_rf (sf j1).1) (C := RX7) (T := TX7) (N := 12) (host := "OppositePairs") hx hb hw iwX7 hown hK hP (3 + (nr + (nl + j1))) (pl_S (X := [(h_pv, .inr (3, (mo189 v_pv (.ref h_rws) (.int x_pv_rowCount) (.ref h_lks) (.int x_pv_linkCount) (.int x_pv_stepCount) (.int x_pv_options) (.int x_pv_longest)))), (h_rws, .inl (cy_rws, 361, .inr (.inr (.inr (.inr f_rws))))), (h_lks, .inl (cy_lks, 210, .inr (.inr (.inr (.inr f_lks)))))]) (by omega)) rfl 0 (by decide) (hN.use n_f_X4_185 rfl) (fun _ h9 => h9) rfl dX4_rowBehind_2 ?_
  obtain ⟨o1, eo1⟩ : ∃ o, o = (sf j1).1 := ⟨_, rfl⟩
  rw [← eo1]
  have ero1 : o1 = some (ra ro) := by rw [eo1]; exact ero
  subst ero1
  show W p l e _ s m _ below meth c _ _ _ _ _ (F0 m 5 ls [.ref (ra ro), .ref h_pv])
  obtain ⟨vq2, evq2⟩ := mq189_177 v_pv (.int x_pv_stepCount) (.int x_pv_longest)
  replace hP : va_P (dC, dI) cls (wp [(h_pv, .inr (3, (mo177 vq2 (.ref h_rws) (.int x_pv_rowCount) (.ref h_lks) (.int x_pv_linkCount) (.int x_pv_options)))), (h_rws, .inl (cy_rws, 361, .inr (.inr (.inr (.inr f_rws))))), (h_lks, .inl (cy_lks, 210, .inr (.inr (.inr (.inr f_lks)))))] (PL nr ra rf nl la lf ns sa sf)) s.heap := by rw [evq2]; exact hP
  replace hD : va_D A (wp [(h_pv, .inr (3, (mo177 vq2 (.ref h_rws) (.int x_pv_rowCount) (.ref h_lks) (.int x_pv_linkCount) (.int x_pv_options)))), (h_rws, .inl (cy_rws, 361, .inr (.inr (.inr (.inr f_rws))))), (h_lks, .inl (cy_lks, 210, .inr (.inr (.inr (.inr f_lks)))))] (PL nr ra rf nl la lf ns sa sf)) := by rw [evq2]; exact hD
  have hPc : va_P (dC, dI) cls (wp [(h_pv, .inr (3, (mo177 vq2 (.ref h_rws) (.int x_pv_rowCount) (.ref h_lks) (.int x_pv_linkCount) (.int x_pv_options)))), (h_rws, .inl (cy_rws, 361, .inr (.inr (.inr (.inr f_rws))))), (h_lks, .inl (cy_lks, 210, .inr (.inr (.inr (.inr f_lks)))))] (PL nr ra rf nl la lf ns sa sf)) s.heap := va_P.part (cx := [(h_pv, .inr (3, (mo177 vq2 (.ref h_rws) (.int x_pv_rowCount) (.ref h_lks) (.int x_pv_linkCount) (.int x_pv_options)))), (h_rws, .inl (cy_rws, 361, .inr (.inr (.inr (.inr f_rws))))), (h_lks, .inl (cy_lks, 210, .inr (.inr (.inr (.inr f_lks)))))]) hP [0, 1, 2] rfl
  have hDc : va_D A (wp [(h_pv, .inr (3, (mo177 vq2 (.ref h_rws) (.int x_pv_rowCount) (.ref h_lks) (.int x_pv_linkCount) (.int x_pv_options)))), (h_rws, .inl (cy_rws, 361, .inr (.inr (.inr (.inr f_rws))))), (h_lks, .inl (cy_lks, 210, .inr (.inr (.inr (.inr f_lks)))))] (PL nr ra rf nl la lf ns sa sf)) := va_D.part (cx := [(h_pv, .inr (3, (mo177 vq2 (.ref h_rws) (.int x_pv_rowCount) (.ref h_lks) (.int x_pv_linkCount) (.int x_pv_options)))), (h_rws, .inl (cy_rws, 361, .inr (.inr (.inr (.inr f_rws))))), (h_lks, .inl (cy_lks, 210, .inr (.inr (.inr (.inr f_lks)))))]) hD [0, 1, 2] (by decide) rfl
  have hKc := hK.sub (tys' := [(cy_rws, .object "OppositePairs$Row"), (cy_lks, .object "OppositePairs$Link")]) [0, 1] rfl
  have hFc : ∀ q, va_A (wp [(h_pv, .inr (3, (mo177 vq2 (.ref h_rws) (.int x_pv_rowCount) (.ref h_lks) (.int x_pv_linkCount) (.int x_pv_options)))), (h_rws, .inl (cy_rws, 361, .inr (.inr (.inr (.inr f_rws))))), (h_lks, .inl (cy_lks, 210, .inr (.inr (.inr (.inr f_lks)))))] (PL nr ra rf nl la lf ns sa sf)) s.heap.size q → A q := va_freeP (cx := [(h_pv, .inr (3, (mo177 vq2 (.ref h_rws) (.int x_pv_rowCount) (.ref h_lks) (.int x_pv_linkCount) (.int x_pv_options)))), (h_rws, .inl (cy_rws, 361, .inr (.inr (.inr (.inr f_rws))))), (h_lks, .inl (cy_lks, 210, .inr (.inr (.inr (.inr f_lks)))))]) hD hS hA [0, 1, 2] rfl
  refine va_callq (va_runV (As := [.ref (ra ro)]) (rest := []) ⟨hx, hb, hml, hown, hts⟩ (c_X4_restOf l dC dI s.heap.size h_pv h_rws h_lks nr ra rf nl la lf ns sa sf vq2 x_pv_rowCount x_pv_linkCount x_pv_options cy_rws f_rws cy_lks f_lks ro (by first | exact hx_pv_rowCount | omega) (by first | exact hx_pv_linkCount | omega) (by omega) (by omega) (by omega) (by omega) (by first | exact q4 | omega) (by first | exact q5 | omega) hn_pr hn_pk hn_rok hn_lok (lvr_cast hn_lvr (by first | rfl | omega) (by first | rfl | omega)) lm9) (cwV 1 hts (gv hT w_m_X4_259 w_instanceMethod_X4_restOf ws_sel_X4_restOf w_ini_X4 w_code_X4_restOf) rfl rfl rfl (by decide +kernel) ⟨(by dsimp only [headSpec]; omega), (by dsimp only [headSpec]; omega)⟩) ⟨pre_blind, va_recv hK hP (ci := 3) (q0 := 0) rfl rfl, pre_of hPc hKc hDc hN⟩ rfl rfl hl.1 rfl (lv_room (Nat.le_of_ble_eq_true rfl)) dX4_rowBehind_5 ⟨(by dsimp only [headSpec]; omega), (by dsimp only [headSpec]; omega)⟩) hS (fun q _ h => hFc q h) hFc (fun o3 u t H locs ht hvm hq hB hz1 hk1 hS9 => ?_)
  obtain ⟨z4, z5, f6, f7, nr8, ra9, rf10, nl11, la12, lf13⟩ := u
  obtain ⟨hP1, hD1⟩ := hB
  rw [ht] at hP1
  obtain ⟨hP9, hD9⟩ := va_joinP (wr := []) (rx := [(h_pv, .inr (3, (mo177 vq2 (.ref h_rws) (.int z4) (.ref h_lks) (.int z5) (.int x_pv_options)))), (h_rws, .inl (cy_rws, 361, .inr (.inr (.inr (.inr f6))))), (h_lks, .inl (cy_lks, 210, .inr (.inr (.inr (.inr f7)))))]) (cx := [(h_pv, .inr (3, (mo177 vq2 (.ref h_rws) (.int x_pv_rowCount) (.ref h_lks) (.int x_pv_linkCount) (.int x_pv_options)))), (h_rws, .inl (cy_rws, 361, .inr (.inr (.inr (.inr f_rws))))), (h_lks, .inl (cy_lks, 210, .inr (.inr (.inr (.inr f_lks)))))]) hP hD [0, 1, 2] [] rfl rfl (by decide) (by decide) hk1 hFc hP1 hD1
  clear hP hD hS hPc hDc hKc hFc hP1 hD1 hk1 hz1 ht hvm
  have hP : va_P (dC, dI) cls (wp [(h_pv, .inr (3, (mo177 vq2 (.ref h_rws) (.int z4) (.ref h_lks) (.int z5) (.int x_pv_options)))), (h_rws, .inl (cy_rws, 361, .inr (.inr (.inr (.inr f6))))), (h_lks, .inl (cy_lks, 210, .inr (.inr (.inr (.inr f7)))))] (PL nr8 ra9 rf10 nl11 la12 lf13 ns sa sf)) H := hP9
  have hD : va_D A (wp [(h_pv, .inr (3, (mo177 vq2 (.ref h_rws) (.int z4) (.ref h_lks) (.int z5) (.int x_pv_options)))), (h_rws, .inl (cy_rws, 361, .inr (.inr (.inr (.inr f6))))), (h_lks, .inl (cy_lks, 210, .inr (.inr (.inr (.inr f7)))))] (PL nr8 ra9 rf10 nl11 la12 lf13 ns sa sf)) := hD9
  have hS := hS9
  clear hP9 hD9 hS9
  rw [evq2] at hP hD
  replace hP : va_P (dC, dI) cls (wp [(h_pv, .inr (3, (mo189 v_pv (.ref h_rws) (.int z4) (.ref h_lks) (.int z5) (.int x_pv_stepCount) (.int x_pv_options) (.int x_pv_longest)))), (h_rws, .inl (cy_rws, 361, .inr (.inr (.inr (.inr f6))))), (h_lks, .inl (cy_lks, 210, .inr (.inr (.inr (.inr f7)))))] (PL nr8 ra9 rf10 nl11 la12 lf13 ns sa sf)) H := hP
  replace hD : va_D A (wp [(h_pv, .inr (3, (mo189 v_pv (.ref h_rws) (.int z4) (.ref h_lks) (.int z5) (.int x_pv_stepCount) (.int x_pv_options) (.int x_pv_longest)))), (h_rws, .inl (cy_rws, 361, .inr (.inr (.inr (.inr f6))))), (h_lks, .inl (cy_lks, 210, .inr (.inr (.inr (.inr f7)))))] (PL nr8 ra9 rf10 nl11 la12 lf13 ns sa sf)) := hD
  clear evq2 
  obtain ⟨k14, k15, k16, k17, k18, k19, k20, k21, k22, k23, k24, k25, k26, k27, k28, k29, k30, k31, k32⟩ := hq
  replace k14 : 0 ≤ ((z4)).toInt ∧ ((z4)).toInt ≤ 361 := k14
  replace k15 : 0 ≤ ((z5)).toInt ∧ ((z5)).toInt ≤ 210 := k15
  replace k16 : ((z4)).toInt = ((x_pv_rowCount)).toInt + 1 := k16
  replace k17 : ((z5)).toInt = ((x_pv_linkCount)).toInt + hasb (x_pv_options) 2 := k17
  replace k18 : (nr) ≤ (nr8) ∧ (nl) ≤ (nl11) ∧ ((z4)).toInt ≤ (nr8) ∧ ((z5)).toInt ≤ (nl11) := k18
  replace k19 : GR2 (nr) (nr8) ((z4)).toInt := k19
  replace k20 : GR2 (nl) (nl11) ((z5)).toInt := k20
  replace k21 : PFX (nr8) 361 (f6) (ra9) := k21
  replace k22 : PFX (nl11) 210 (f7) (la12) := k22
  replace k23 : ROK (nr8) (ra9) (rf10) (nl11) (la12) := k23
  replace k24 : LOK (nl11) (la12) (lf13) := k24
  replace k25 : LVR (((x_pv_rowCount)).toInt + 1) ((z5)).toInt (ra9) (rf10) (la12) := k25
  replace k26 : ∀ i : Nat, i < (nr) → (ra9) i = (ra) i := k26
  replace k27 : ∀ i : Nat, i < (nl) → (la12) i = (la) i := k27
  replace k28 : ∀ i : Nat, i ≠ ((x_pv_rowCount)).toInt.toNat → (rf10) i = (rf) i := k28
  replace k29 : (o3) = some ((ra9) ((x_pv_rowCount)).toInt.toNat) := k29
  replace k30 : ((rf10) ((x_pv_rowCount)).toInt.toNat).1 = ((rf) (ro)).1 ∧ ((rf10) ((x_pv_rowCount)).toInt.toNat).2.1 = ((rf) (ro)).2.1 ∧ ((rf10) ((x_pv_rowCount)).toInt.toNat).2.2.1.toInt = NXI ((rf) (ro)).2.1.toInt (((rf) (ro)).2.2.1.toInt + 1) ∧ ((rf10) ((x_pv_rowCount)).toInt.toNat).2.2.2.1 = ((rf) (ro)).2.2.2.1 ∧ ((rf10) ((x_pv_rowCount)).toInt.toNat).2.2.2.2.2.1 = ((rf) (ro)).2.2.2.2.2.1 ∧ ((rf10) ((x_pv_rowCount)).toInt.toNat).2.2.2.2.2.2 = ((rf) (ro)).2.2.2.2.2.2 := k30
  replace k31 : (hasb (x_pv_options) 2 = 0 ∧ ((rf10) ((x_pv_rowCount)).toInt.toNat).2.2.2.2.1 = ((rf) (ro)).2.2.2.2.1) ∨ (hasb (x_pv_options) 2 = 1 ∧ ((rf10) ((x_pv_rowCount)).toInt.toNat).2.2.2.2.1 = some ((la12) ((x_pv_linkCount)).toInt.toNat) ∧ ((lf13) ((x_pv_linkCount)).toInt.toNat).1 = ((rf) (ro)).1 ∧ ((lf13) ((x_pv_linkCount)).toInt.toNat).2.1 = ((rf) (ro)).2.2.1 ∧ ((lf13) ((x_pv_linkCount)).toInt.toNat).2.2.2 = ((rf) (ro)).2.2.2.2.1 ∧ ∀ xs : List LKT, LKR (la) (lf) ((x_pv_linkCount)).toInt ((rf) (ro)).2.2.2.2.1 xs → ((lf13) ((x_pv_linkCount)).toInt.toNat).2.2.1.toInt = (xs.length : Int) + 1) := k31
  replace k32 : ∀ i : Nat, i ≠ ((x_pv_linkCount)).toInt.toNat → (lf13) i = (lf) i := k32
  have rto3 := k29
  subst rto3
  show W p l e _ s m _ below meth c _ _ _ _ _ (F0 m 8 ls [.ref (ra9 (x_pv_rowCount).toInt.toNat)])
  have qr9 : ra9 ro = ra ro := k26 ro (by omega)
  have qf9 : rf10 ro = rf ro := k28 ro (by omega)
  have rsx9 := k30
  have rsl9 := k31
  refine lv_astore_n (lv' := [(2, .ref (ra9 (x_pv_rowCount).toInt.toNat)), (0, .ref h_pv), (1, .ref (sa j1))]) hx hb dX4_rowBehind_8 rfl hl (by decide) rfl (fun ls hl => ?_)
  refine lv_aload_n hx hb dX4_rowBehind_9 rfl (lv_at hl 2 rfl) ?_
  refine va_getN (D := (dC, dI)) (ci := 11) (v := .int (sf j1).2.1) (C := RX7) (T := TX7) (N := 12) (host := "OppositePairs") hx hb hw iwX7 hown hK hP (3 + (nr8 + (nl11 + j1))) (pl_S (X := [(h_pv, .inr (3, (mo189 v_pv (.ref h_rws) (.int z4) (.ref h_lks) (.int z5) (.int x_pv_stepCount) (.int x_pv_options) (.int x_pv_longest)))), (h_rws, .inl (cy_rws, 361, .inr (.inr (.inr (.inr f6))))), (h_lks, .inl (cy_lks, 210, .inr (.inr (.inr (.inr f7)))))]) (by omega)) rfl 1 (by decide) (hN.use n_f_X4_250 rfl) (fun _ h9 => h9) rfl dX4_rowBehind_10 ?_
  refine lv_topi (fun z33 ez33 => ?_)
  have vz33 : (z33).toInt = ((sf j1).2.1).toInt := by rw [ez33]
  refine lv_iconst (v := 3) hx hb dX4_rowBehind_13 (by decide) ?_
  refine lv_icmp_eq (tgt := 19) hx hb dX4_rowBehind_14 (by decide) (fun c34 => ?_) (fun c34 => ?_)
  · have kc34 := (cv_eq (rfl : (z33).toInt = (z33).toInt) (by decide : (3 : Int32).toInt = 3)).mp c34
    refine lv_aload_n hx hb dX4_rowBehind_19 rfl (lv_at hl 1 rfl) ?_
    refine lv_aload_n hx hb dX4_rowBehind_20 rfl (lv_at hl 2 rfl) ?_
    refine va_getN (D := (dC, dI)) (ci := 11) (v := .int (sf j1).2.2.1) (C := RX7) (T := TX7) (N := 12) (host := "OppositePairs") hx hb hw iwX7 hown hK hP (3 + (nr8 + (nl11 + j1))) (pl_S (X := [(h_pv, .inr (3, (mo189 v_pv (.ref h_rws) (.int z4) (.ref h_lks) (.int z5) (.int x_pv_stepCount) (.int x_pv_options) (.int x_pv_longest)))), (h_rws, .inl (cy_rws, 361, .inr (.inr (.inr (.inr f6))))), (h_lks, .inl (cy_lks, 210, .inr (.inr (.inr (.inr f7)))))]) (by omega)) rfl 2 (by decide) (hN.use n_f_X4_253 rfl) (fun _ h9 => h9) rfl dX4_rowBehind_21 ?_
    refine lv_topi (fun z35 ez35 => ?_)
    have vz35 : (z35).toInt = ((sf j1).2.2.1).toInt := by rw [ez35]
    have rz35 : 0 ≤ (z35).toInt ∧ (z35).toInt ≤ 29 := by rw [ez35]; exact (hn_sok j1 (by omega)).2.1
    refine lv_aload_n hx hb dX4_rowBehind_24 rfl (lv_at hl 2 rfl) ?_
    refine va_getN (D := (dC, dI)) (ci := 11) (v := .int (sf j1).2.2.2.1) (C := RX7) (T := TX7) (N := 12) (host := "OppositePairs") hx hb hw iwX7 hown hK hP (3 + (nr8 + (nl11 + j1))) (pl_S (X := [(h_pv, .inr (3, (mo189 v_pv (.ref h_rws) (.int z4) (.ref h_lks) (.int z5) (.int x_pv_stepCount) (.int x_pv_options) (.int x_pv_longest)))), (h_rws, .inl (cy_rws, 361, .inr (.inr (.inr (.inr f6))))), (h_lks, .inl (cy_lks, 210, .inr (.inr (.inr (.inr f7)))))]) (by omega)) rfl 3 (by decide) (hN.use n_f_X4_256 rfl) (fun _ h9 => h9) rfl dX4_rowBehind_25 ?_
    refine lv_topi (fun z36 ez36 => ?_)
    have vz36 : (z36).toInt = ((sf j1).2.2.2.1).toInt := by rw [ez36]
    have rz36 : 0 ≤ (z36).toInt ∧ (z36).toInt ≤ 5 := by rw [ez36]; exact (hn_sok j1 (by omega)).2.2.1
    refine lv_iconst (v := 0) hx hb dX4_rowBehind_28 (by decide) ?_
    have cst0 : (0 : Int32).toInt = 0 := by decide
    have k31 := k3_yes (x := (sf j1).2.1) (by omega)
    obtain ⟨vq37, evq37⟩ := mq189_175 v_pv (.ref h_lks) (.int z5) (.int x_pv_stepCount) (.int x_pv_options) (.int x_pv_longest)
    replace hP : va_P (dC, dI) cls (wp [(h_pv, .inr (3, (mo175 vq37 (.ref h_rws) (.int z4)))), (h_rws, .inl (cy_rws, 361, .inr (.inr (.inr (.inr f6))))), (h_lks, .inl (cy_lks, 210, .inr (.inr (.inr (.inr f7)))))] (PL nr8 ra9 rf10 nl11 la12 lf13 ns sa sf)) H := by rw [evq37]; exact hP
    replace hD : va_D A (wp [(h_pv, .inr (3, (mo175 vq37 (.ref h_rws) (.int z4)))), (h_rws, .inl (cy_rws, 361, .inr (.inr (.inr (.inr f6))))), (h_lks, .inl (cy_lks, 210, .inr (.inr (.inr (.inr f7)))))] (PL nr8 ra9 rf10 nl11 la12 lf13 ns sa sf)) := by rw [evq37]; exact hD
    have cst0 : (0 : Int32).toInt = 0 := by decide
    have hPc : va_P (dC, dI) cls (wp [(h_pv, .inr (3, (mo175 vq37 (.ref h_rws) (.int z4)))), (h_rws, .inl (cy_rws, 361, .inr (.inr (.inr (.inr f6)))))] (PL nr8 ra9 rf10 nl11 la12 lf13 ns sa sf)) H := va_P.part (cx := [(h_pv, .inr (3, (mo175 vq37 (.ref h_rws) (.int z4)))), (h_rws, .inl (cy_rws, 361, .inr (.inr (.inr (.inr f6)))))]) hP [0, 1] rfl
    have hDc : va_D A (wp [(h_pv, .inr (3, (mo175 vq37 (.ref h_rws) (.int z4)))), (h_rws, .inl (cy_rws, 361, .inr (.inr (.inr (.inr f6)))))] (PL nr8 ra9 rf10 nl11 la12 lf13 ns sa sf)) := va_D.part (cx := [(h_pv, .inr (3, (mo175 vq37 (.ref h_rws) (.int z4)))), (h_rws, .inl (cy_rws, 361, .inr (.inr (.inr (.inr f6)))))]) hD [0, 1] (by decide) rfl
    have hKc := hK.sub (tys' := [(cy_rws, .object "OppositePairs$Row")]) [0] rfl
    have hFc : ∀ q, va_A (wp [(h_pv, .inr (3, (mo175 vq37 (.ref h_rws) (.int z4)))), (h_rws, .inl (cy_rws, 361, .inr (.inr (.inr (.inr f6)))))] (PL nr8 ra9 rf10 nl11 la12 lf13 ns sa sf)) H.size q → A q := va_freeP (cx := [(h_pv, .inr (3, (mo175 vq37 (.ref h_rws) (.int z4)))), (h_rws, .inl (cy_rws, 361, .inr (.inr (.inr (.inr f6)))))]) hD hS hA [0, 1] rfl
    refine va_callq (va_runV (As := [.int z35, .int z36, .int 0]) (rest := []) ⟨hx, hb, hml, hown, hts⟩ (c_X4_newRow l dC dI H.size h_pv h_rws nr8 ra9 rf10 nl11 la12 lf13 ns sa sf vq37 z4 cy_rws f6 z35 z36 0 (by first | exact k14 | omega) (by omega) (by omega) (by omega) (by omega) (by omega) k21 k23) (cwV 3 hts (gv hT w_m_X4_110 w_instanceMethod_X4_newRow ws_sel_X4_newRow w_ini_X4 w_code_X4_newRow) rfl rfl rfl (by decide +kernel) ⟨(by dsimp only [headSpec]; omega), (by dsimp only [headSpec]; omega)⟩) ⟨pre_blind, va_recv hK hP (ci := 3) (q0 := 0) rfl rfl, pre_of hPc hKc hDc hN⟩ rfl rfl hl.1 rfl (lv_room (Nat.le_of_ble_eq_true rfl)) dX4_rowBehind_29 ⟨(by dsimp only [headSpec]; omega), (by dsimp only [headSpec]; omega)⟩) hS (fun q _ h => hFc q h) hFc (fun o38 u t H locs ht hvm hq hB hz1 hk1 hS9 => ?_)
    obtain ⟨z39, f40, nr41, ra42, rf43⟩ := u
    obtain ⟨hP1, hD1⟩ := hB
    rw [ht] at hP1
    obtain ⟨hP9, hD9⟩ := va_joinP (wr := [(h_lks, .inl (cy_lks, 210, .inr (.inr (.inr (.inr f7)))))]) (rx := [(h_pv, .inr (3, (mo175 vq37 (.ref h_rws) (.int z39)))), (h_rws, .inl (cy_rws, 361, .inr (.inr (.inr (.inr f40)))))]) (cx := [(h_pv, .inr (3, (mo175 vq37 (.ref h_rws) (.int z4)))), (h_rws, .inl (cy_rws, 361, .inr (.inr (.inr (.inr f6)))))]) hP hD [0, 1] [2] rfl rfl (by decide) (by decide) hk1 hFc hP1 hD1
    clear hP hD hS hPc hDc hKc hFc hP1 hD1 hk1 hz1 ht hvm
    have hP : va_P (dC, dI) cls (wp [(h_lks, .inl (cy_lks, 210, .inr (.inr (.inr (.inr f7))))), (h_pv, .inr (3, (mo175 vq37 (.ref h_rws) (.int z39)))), (h_rws, .inl (cy_rws, 361, .inr (.inr (.inr (.inr f40)))))] (PL nr41 ra42 rf43 nl11 la12 lf13 ns sa sf)) H := hP9
    have hD : va_D A (wp [(h_lks, .inl (cy_lks, 210, .inr (.inr (.inr (.inr f7))))), (h_pv, .inr (3, (mo175 vq37 (.ref h_rws) (.int z39)))), (h_rws, .inl (cy_rws, 361, .inr (.inr (.inr (.inr f40)))))] (PL nr41 ra42 rf43 nl11 la12 lf13 ns sa sf)) := hD9
    have hS := hS9
    clear hP9 hD9 hS9
    rw [evq37] at hP hD
    replace hP : va_P (dC, dI) cls (wp [(h_lks, .inl (cy_lks, 210, .inr (.inr (.inr (.inr f7))))), (h_pv, .inr (3, (mo189 v_pv (.ref h_rws) (.int z39) (.ref h_lks) (.int z5) (.int x_pv_stepCount) (.int x_pv_options) (.int x_pv_longest)))), (h_rws, .inl (cy_rws, 361, .inr (.inr (.inr (.inr f40)))))] (PL nr41 ra42 rf43 nl11 la12 lf13 ns sa sf)) H := hP
    replace hD : va_D A (wp [(h_lks, .inl (cy_lks, 210, .inr (.inr (.inr (.inr f7))))), (h_pv, .inr (3, (mo189 v_pv (.ref h_rws) (.int z39) (.ref h_lks) (.int z5) (.int x_pv_stepCount) (.int x_pv_options) (.int x_pv_longest)))), (h_rws, .inl (cy_rws, 361, .inr (.inr (.inr (.inr f40)))))] (PL nr41 ra42 rf43 nl11 la12 lf13 ns sa sf)) := hD
    clear evq37 
    obtain ⟨k44, k45, k46, k47, k48, k49, k50, k51, k52, k53⟩ := hq
    replace k44 : 0 ≤ ((z39)).toInt ∧ ((z39)).toInt ≤ 361 := k44
    replace k45 : ((z39)).toInt = ((z4)).toInt + 1 := k45
    replace k46 : (nr8) ≤ (nr41) ∧ ((z4)).toInt + 1 ≤ (nr41) := k46
    replace k47 : GR2 (nr8) (nr41) ((z39)).toInt := k47
    replace k48 : PFX (nr41) 361 (f40) (ra42) := k48
    replace k49 : ROK (nr41) (ra42) (rf43) (nl11) (la12) := k49
    replace k50 : ∀ i : Nat, i < (nr8) → (ra42) i = (ra9) i := k50
    replace k51 : (∀ i : Nat, i ≠ ((z4)).toInt.toNat → (rf43) i = (rf10) i) ∧ ((rf43) ((z4)).toInt.toNat).1 = (z35) ∧ ((rf43) ((z4)).toInt.toNat).2.1 = (z36) ∧ (0 ≤ ((rf43) ((z4)).toInt.toNat).2.2.1.toInt ∧ ((rf43) ((z4)).toInt.toNat).2.2.1.toInt ≤ ((0 : Int32)).toInt + 1) := k51
    replace k52 : (o38) = some ((ra42) ((z4)).toInt.toNat) := k52
    replace k53 : ((rf43) ((z4)).toInt.toNat).2.2.1.toInt = NXI ((z36)).toInt ((0 : Int32)).toInt := k53
    have rto38 := k52
    subst rto38
    show W p l e _ s m _ below meth c _ _ _ _ _ (F0 m 32 ls [.ref (ra42 (z4).toInt.toNat)])
    have qr8 : ra42 ro = ra ro := (k50 ro (by omega)).trans qr9
    have qf8 : rf43 ro = rf ro := (k51.1 ro (by omega)).trans qf9
    refine lv_astore_n (lv' := [(3, .ref (ra42 (z4).toInt.toNat)), (2, .ref (ra9 (x_pv_rowCount).toInt.toNat)), (0, .ref h_pv), (1, .ref (sa j1))]) hx hb dX4_rowBehind_32 rfl hl (by decide) rfl (fun ls hl => ?_)
    refine lv_aload_n hx hb dX4_rowBehind_33 rfl (lv_at hl 0 rfl) ?_
    refine lv_aload_n hx hb dX4_rowBehind_34 rfl (lv_at hl 2 rfl) ?_
    refine lv_aload_n hx hb dX4_rowBehind_35 rfl (lv_at hl 3 rfl) ?_
    refine va_getN (D := (dC, dI)) (ci := 11) (v := va_rf (sf j1).1) (C := RX7) (T := TX7) (N := 12) (host := "OppositePairs") hx hb hw iwX7 hown hK hP (3 + (nr41 + (nl11 + j1))) (pl_S (X := [(h_lks, .inl (cy_lks, 210, .inr (.inr (.inr (.inr f7))))), (h_pv, .inr (3, (mo189 v_pv (.ref h_rws) (.int z39) (.ref h_lks) (.int z5) (.int x_pv_stepCount) (.int x_pv_options) (.int x_pv_longest)))), (h_rws, .inl (cy_rws, 361, .inr (.inr (.inr (.inr f40)))))]) (by omega)) rfl 0 (by decide) (hN.use n_f_X4_185 rfl) (fun _ h9 => h9) rfl dX4_rowBehind_36 ?_
    obtain ⟨o54, eo54⟩ : ∃ o, o = (sf j1).1 := ⟨_, rfl⟩
    rw [← eo54]
    have ero54 : o54 = some (ra ro) := by rw [eo54]; exact ero
    subst ero54
    show W p l e _ s m _ below meth c _ _ _ _ _ (F0 m 39 ls [.ref (ra ro), .ref h_pv, .ref (ra42 (z4).toInt.toNat)])
    refine va_getN (D := (dC, dI)) (ci := 9) (v := .int (rf43 ro).1) (C := RX6) (T := TX6) (N := 7) (host := "OppositePairs") hx hb hw iwX6 hown hK hP (3 + ro) (by rw [← qr8]; exact (pl_R (X := [(h_lks, .inl (cy_lks, 210, .inr (.inr (.inr (.inr f7))))), (h_pv, .inr (3, (mo189 v_pv (.ref h_rws) (.int z39) (.ref h_lks) (.int z5) (.int x_pv_stepCount) (.int x_pv_options) (.int x_pv_longest)))), (h_rws, .inl (cy_rws, 361, .inr (.inr (.inr (.inr f40)))))]) (by omega))) rfl 0 (by decide) (hN.use n_f_X4_140 rfl) (fun _ h9 => h9) rfl dX4_rowBehind_39 ?_
    refine lv_topi (fun z55 ez55 => ?_)
    have vz55 : (z55).toInt = ((rf ro).1).toInt := by rw [ez55, qf8]
    have rz55 : 0 ≤ (z55).toInt ∧ (z55).toInt ≤ 29 := by rw [ez55, qf8]; exact (hn_rok ro (by omega)).1
    have cq56 : z55 = (rf ro).1 := by rw [ez55, qf8]
    refine lv_aload_n hx hb dX4_rowBehind_42 rfl (lv_at hl 3 rfl) ?_
    refine va_getN (D := (dC, dI)) (ci := 11) (v := va_rf (sf j1).1) (C := RX7) (T := TX7) (N := 12) (host := "OppositePairs") hx hb hw iwX7 hown hK hP (3 + (nr41 + (nl11 + j1))) (pl_S (X := [(h_lks, .inl (cy_lks, 210, .inr (.inr (.inr (.inr f7))))), (h_pv, .inr (3, (mo189 v_pv (.ref h_rws) (.int z39) (.ref h_lks) (.int z5) (.int x_pv_stepCount) (.int x_pv_options) (.int x_pv_longest)))), (h_rws, .inl (cy_rws, 361, .inr (.inr (.inr (.inr f40)))))]) (by omega)) rfl 0 (by decide) (hN.use n_f_X4_185 rfl) (fun _ h9 => h9) rfl dX4_rowBehind_43 ?_
    obtain ⟨o57, eo57⟩ : ∃ o, o = (sf j1).1 := ⟨_, rfl⟩
    rw [← eo57]
    have ero57 : o57 = some (ra ro) := by rw [eo57]; exact ero
    subst ero57
    show W p l e _ s m _ below meth c _ _ _ _ _ (F0 m 46 ls [.ref (ra ro), .int z55, .ref h_pv, .ref (ra42 (z4).toInt.toNat)])
    refine va_getN (D := (dC, dI)) (ci := 9) (v := .int (rf43 ro).2.2.1) (C := RX6) (T := TX6) (N := 7) (host := "OppositePairs") hx hb hw iwX6 hown hK hP (3 + ro) (by rw [← qr8]; exact (pl_R (X := [(h_lks, .inl (cy_lks, 210, .inr (.inr (.inr (.inr f7))))), (h_pv, .inr (3, (mo189 v_pv (.ref h_rws) (.int z39) (.ref h_lks) (.int z5) (.int x_pv_stepCount) (.int x_pv_options) (.int x_pv_longest)))), (h_rws, .inl (cy_rws, 361, .inr (.inr (.inr (.inr f40)))))]) (by omega))) rfl 2 (by decide) (hN.use n_f_X4_137 rfl) (fun _ h9 => h9) rfl dX4_rowBehind_46 ?_
    refine lv_topi (fun z58 ez58 => ?_)
    have vz58 : (z58).toInt = ((rf ro).2.2.1).toInt := by rw [ez58, qf8]
    have rz58 : 0 ≤ (z58).toInt ∧ (z58).toInt ≤ 7 := by rw [ez58, qf8]; exact (hn_rok ro (by omega)).2.2.1
    have cq59 : z58 = (rf ro).2.2.1 := by rw [ez58, qf8]
    refine lv_aload_n hx hb dX4_rowBehind_49 rfl (lv_at hl 3 rfl) ?_
    refine va_getN (D := (dC, dI)) (ci := 11) (v := va_rf (sf j1).1) (C := RX7) (T := TX7) (N := 12) (host := "OppositePairs") hx hb hw iwX7 hown hK hP (3 + (nr41 + (nl11 + j1))) (pl_S (X := [(h_lks, .inl (cy_lks, 210, .inr (.inr (.inr (.inr f7))))), (h_pv, .inr (3, (mo189 v_pv (.ref h_rws) (.int z39) (.ref h_lks) (.int z5) (.int x_pv_stepCount) (.int x_pv_options) (.int x_pv_longest)))), (h_rws, .inl (cy_rws, 361, .inr (.inr (.inr (.inr f40)))))]) (by omega)) rfl 0 (by decide) (hN.use n_f_X4_185 rfl) (fun _ h9 => h9) rfl dX4_rowBehind_50 ?_
    obtain ⟨o60, eo60⟩ : ∃ o, o = (sf j1).1 := ⟨_, rfl⟩
    rw [← eo60]
    have ero60 : o60 = some (ra ro) := by rw [eo60]; exact ero
    subst ero60
    show W p l e _ s m _ below meth c _ _ _ _ _ (F0 m 53 ls [.ref (ra ro), .int z58, .int z55, .ref h_pv, .ref (ra42 (z4).toInt.toNat)])
    refine va_getN (D := (dC, dI)) (ci := 9) (v := va_rf (rf43 ro).2.2.2.1) (C := RX6) (T := TX6) (N := 7) (host := "OppositePairs") hx hb hw iwX6 hown hK hP (3 + ro) (by rw [← qr8]; exact (pl_R (X := [(h_lks, .inl (cy_lks, 210, .inr (.inr (.inr (.inr f7))))), (h_pv, .inr (3, (mo189 v_pv (.ref h_rws) (.int z39) (.ref h_lks) (.int z5) (.int x_pv_stepCount) (.int x_pv_options) (.int x_pv_longest)))), (h_rws, .inl (cy_rws, 361, .inr (.inr (.inr (.inr f40)))))]) (by omega))) rfl 3 (by decide) (hN.use n_f_X4_114 rfl) (fun _ h9 => h9) rfl dX4_rowBehind_53 ?_
    obtain ⟨o61, eo61⟩ : ∃ o, o = (rf43 ro).2.2.2.1 := ⟨_, rfl⟩
    rw [← eo61]
    have pp9 : PB la (x_pv_linkCount).toInt o61 := by rw [eo61, qf8]; exact (hn_lvr ro (by omega)).1
    have pq9 : PB la12 (z5).toInt o61 := pb_mono pp9 (by omega) (fun m hm => k27 m (by omega))
    have cq62 : o61 = (rf ro).2.2.2.1 := by rw [eo61, qf8]
    have la19 : ∀ i : Nat, (i : Int) < sLM (sf j1) → la12 i = la i ∧ lf13 i = lf i := (fun i9 h9 => ⟨k27 i9 (by omega), k32 i9 (by omega)⟩)
    have lkp9 : ∀ xs : List LKT, LKR la lf (sLM (sf j1)) (rf ro).2.2.2.1 xs → LKR la12 lf13 (z5).toInt o61 xs := fun xs9 h9 => by rw [cq62]; exact lkr_mono _ _ _ _ h9 (by omega) la19
    have lkx9 : ∃ xs : List LKT, LKR la12 lf13 (z5).toInt o61 xs := by obtain ⟨xs9, h9⟩ := lx9; exact ⟨xs9, lkp9 xs9 h9⟩
    obtain ⟨vq63, evq63⟩ := mq189_176 v_pv (.ref h_rws) (.int z39) (.int x_pv_stepCount) (.int x_pv_options) (.int x_pv_longest)
    replace hP : va_P (dC, dI) cls (wp [(h_lks, .inl (cy_lks, 210, .inr (.inr (.inr (.inr f7))))), (h_pv, .inr (3, (mo176 vq63 (.ref h_lks) (.int z5)))), (h_rws, .inl (cy_rws, 361, .inr (.inr (.inr (.inr f40)))))] (PL nr41 ra42 rf43 nl11 la12 lf13 ns sa sf)) H := by rw [evq63]; exact hP
    replace hD : va_D A (wp [(h_lks, .inl (cy_lks, 210, .inr (.inr (.inr (.inr f7))))), (h_pv, .inr (3, (mo176 vq63 (.ref h_lks) (.int z5)))), (h_rws, .inl (cy_rws, 361, .inr (.inr (.inr (.inr f40)))))] (PL nr41 ra42 rf43 nl11 la12 lf13 ns sa sf)) := by rw [evq63]; exact hD
    have hPc : va_P (dC, dI) cls (wp [(h_pv, .inr (3, (mo176 vq63 (.ref h_lks) (.int z5)))), (h_lks, .inl (cy_lks, 210, .inr (.inr (.inr (.inr f7)))))] (PL nr41 ra42 rf43 nl11 la12 lf13 ns sa sf)) H := va_P.part (cx := [(h_pv, .inr (3, (mo176 vq63 (.ref h_lks) (.int z5)))), (h_lks, .inl (cy_lks, 210, .inr (.inr (.inr (.inr f7)))))]) hP [1, 0] rfl
    have hDc : va_D A (wp [(h_pv, .inr (3, (mo176 vq63 (.ref h_lks) (.int z5)))), (h_lks, .inl (cy_lks, 210, .inr (.inr (.inr (.inr f7)))))] (PL nr41 ra42 rf43 nl11 la12 lf13 ns sa sf)) := va_D.part (cx := [(h_pv, .inr (3, (mo176 vq63 (.ref h_lks) (.int z5)))), (h_lks, .inl (cy_lks, 210, .inr (.inr (.inr (.inr f7)))))]) hD [1, 0] (by decide) rfl
    have hKc := hK.sub (tys' := [(cy_lks, .object "OppositePairs$Link")]) [1] rfl
    have hFc : ∀ q, va_A (wp [(h_pv, .inr (3, (mo176 vq63 (.ref h_lks) (.int z5)))), (h_lks, .inl (cy_lks, 210, .inr (.inr (.inr (.inr f7)))))] (PL nr41 ra42 rf43 nl11 la12 lf13 ns sa sf)) H.size q → A q := va_freeP (cx := [(h_pv, .inr (3, (mo176 vq63 (.ref h_lks) (.int z5)))), (h_lks, .inl (cy_lks, 210, .inr (.inr (.inr (.inr f7)))))]) hD hS hA [1, 0] rfl
    refine va_callq (va_runV (As := [.int z55, .int z58, va_rf o61]) (rest := [.ref (ra42 (z4).toInt.toNat)]) ⟨hx, hb, hml, hown, hts⟩ (c_X4_newLink l dC dI H.size h_pv h_lks nr41 ra42 rf43 nl11 la12 lf13 ns sa sf vq63 z5 cy_lks f7 z55 z58 o61 (by first | exact k15 | omega) (by omega) (by omega) (by omega) (by omega) k22 k24 pq9 lkx9) (cwV 3 hts (gv hT w_m_X4_262 w_instanceMethod_X4_newLink ws_sel_X4_newLink w_ini_X4 w_code_X4_newLink) rfl rfl rfl (by decide +kernel) ⟨(by dsimp only [headSpec]; omega), (by dsimp only [headSpec]; omega)⟩) ⟨pre_blind, va_recv hK hP (ci := 3) (q0 := 1) rfl rfl, pre_of hPc hKc hDc hN⟩ rfl rfl hl.1 rfl (lv_room (Nat.le_of_ble_eq_true rfl)) dX4_rowBehind_56 ⟨(by dsimp only [headSpec]; omega), (by dsimp only [headSpec]; omega)⟩) hS (fun q _ h => hFc q h) hFc (fun o64 u t H locs ht hvm hq hB hz1 hk1 hS9 => ?_)
    obtain ⟨z65, f66, nl67, la68, lf69⟩ := u
    obtain ⟨hP1, hD1⟩ := hB
    rw [ht] at hP1
    obtain ⟨hP9, hD9⟩ := va_joinP (wr := [(h_rws, .inl (cy_rws, 361, .inr (.inr (.inr (.inr f40)))))]) (rx := [(h_pv, .inr (3, (mo176 vq63 (.ref h_lks) (.int z65)))), (h_lks, .inl (cy_lks, 210, .inr (.inr (.inr (.inr f66)))))]) (cx := [(h_pv, .inr (3, (mo176 vq63 (.ref h_lks) (.int z5)))), (h_lks, .inl (cy_lks, 210, .inr (.inr (.inr (.inr f7)))))]) hP hD [1, 0] [2] rfl rfl (by decide) (by decide) hk1 hFc hP1 hD1
    clear hP hD hS hPc hDc hKc hFc hP1 hD1 hk1 hz1 ht hvm
    have hP : va_P (dC, dI) cls (wp [(h_rws, .inl (cy_rws, 361, .inr (.inr (.inr (.inr f40))))), (h_pv, .inr (3, (mo176 vq63 (.ref h_lks) (.int z65)))), (h_lks, .inl (cy_lks, 210, .inr (.inr (.inr (.inr f66)))))] (PL nr41 ra42 rf43 nl67 la68 lf69 ns sa sf)) H := hP9
    have hD : va_D A (wp [(h_rws, .inl (cy_rws, 361, .inr (.inr (.inr (.inr f40))))), (h_pv, .inr (3, (mo176 vq63 (.ref h_lks) (.int z65)))), (h_lks, .inl (cy_lks, 210, .inr (.inr (.inr (.inr f66)))))] (PL nr41 ra42 rf43 nl67 la68 lf69 ns sa sf)) := hD9
    have hS := hS9
    clear hP9 hD9 hS9
    rw [evq63] at hP hD
    replace hP : va_P (dC, dI) cls (wp [(h_rws, .inl (cy_rws, 361, .inr (.inr (.inr (.inr f40))))), (h_pv, .inr (3, (mo189 v_pv (.ref h_rws) (.int z39) (.ref h_lks) (.int z65) (.int x_pv_stepCount) (.int x_pv_options) (.int x_pv_longest)))), (h_lks, .inl (cy_lks, 210, .inr (.inr (.inr (.inr f66)))))] (PL nr41 ra42 rf43 nl67 la68 lf69 ns sa sf)) H := hP
    replace hD : va_D A (wp [(h_rws, .inl (cy_rws, 361, .inr (.inr (.inr (.inr f40))))), (h_pv, .inr (3, (mo189 v_pv (.ref h_rws) (.int z39) (.ref h_lks) (.int z65) (.int x_pv_stepCount) (.int x_pv_options) (.int x_pv_longest)))), (h_lks, .inl (cy_lks, 210, .inr (.inr (.inr (.inr f66)))))] (PL nr41 ra42 rf43 nl67 la68 lf69 ns sa sf)) := hD
    clear evq63 
    obtain ⟨k70, k71, k72, k73, k74, k75, k76, k77, k78, k79, k80⟩ := hq
    replace k70 : 0 ≤ ((z65)).toInt ∧ ((z65)).toInt ≤ 210 := k70
    replace k71 : ((z65)).toInt = ((z5)).toInt + 1 := k71
    replace k72 : (nl11) ≤ (nl67) ∧ ((z5)).toInt + 1 ≤ (nl67) := k72
    replace k73 : GR2 (nl11) (nl67) ((z65)).toInt := k73
    replace k74 : PFX (nl67) 210 (f66) (la68) := k74
    replace k75 : LOK (nl67) (la68) (lf69) := k75
    replace k76 : ∀ i : Nat, i < (nl11) → (la68) i = (la12) i := k76
    replace k77 : ∀ i : Nat, i ≠ ((z5)).toInt.toNat → (lf69) i = (lf13) i := k77
    replace k78 : (o64) = some ((la68) ((z5)).toInt.toNat) := k78
    replace k79 : ∀ xs : List LKT, LKR (la12) (lf13) ((z5)).toInt (o61) xs → ((lf69) ((z5)).toInt.toNat).2.2.1.toInt = (xs.length : Int) + 1 := k79
    replace k80 : ((lf69) ((z5)).toInt.toNat).1 = (z55) ∧ ((lf69) ((z5)).toInt.toNat).2.1 = (z58) ∧ ((lf69) ((z5)).toInt.toNat).2.2.2 = (o61) := k80
    have rto64 := k78
    subst rto64
    show W p l e _ s m _ below meth c _ _ _ _ _ (F0 m 59 ls [.ref (la68 (z5).toInt.toNat), .ref (ra42 (z4).toInt.toNat)])
    show W p l e _ s m _ below meth c _ _ _ _ _ (F0 m 59 _ (va_rf (some (la68 (z5).toInt.toNat)) :: _))
    refine va_putN (D := (dC, dI)) (ci := 9) (v := (va_rf (some (la68 (z5).toInt.toNat)))) (ty := tyX6 3) (C := RX6) (T := TX6) (N := 7) (host := "OppositePairs") hx hb hw iwX6 tyX6 tyX6_ok nmX6 hown hK hP hD hS (3 + (z4).toInt.toNat) (pl_R (X := [(h_rws, .inl (cy_rws, 361, .inr (.inr (.inr (.inr f40))))), (h_pv, .inr (3, (mo189 v_pv (.ref h_rws) (.int z39) (.ref h_lks) (.int z65) (.int x_pv_stepCount) (.int x_pv_options) (.int x_pv_longest)))), (h_lks, .inl (cy_lks, 210, .inr (.inr (.inr (.inr f66)))))]) (by omega)) rfl 3 (by decide) (hN.use n_f_X4_114 rfl) (fun _ h9 => h9) rfl (tyX6_ok 3 (by decide)) (rf_nar (some (la68 (z5).toInt.toNat)) _) (rf_fit (some (la68 (z5).toInt.toNat)) _) (Nat.le_of_ble_eq_true rfl) dX4_rowBehind_59 (fun H locs hP hD hS => ?_)
    have hP : va_P (dC, dI) cls (wp [(h_rws, .inl (cy_rws, 361, .inr (.inr (.inr (.inr f40))))), (h_pv, .inr (3, (mo189 v_pv (.ref h_rws) (.int z39) (.ref h_lks) (.int z65) (.int x_pv_stepCount) (.int x_pv_options) (.int x_pv_longest)))), (h_lks, .inl (cy_lks, 210, .inr (.inr (.inr (.inr f66)))))] (PL nr41 ra42 (va_up rf43 (z4).toInt.toNat ((rf43 (z4).toInt.toNat).1, (rf43 (z4).toInt.toNat).2.1, (rf43 (z4).toInt.toNat).2.2.1, (some (la68 (z5).toInt.toNat)), (rf43 (z4).toInt.toNat).2.2.2.2.1, (rf43 (z4).toInt.toNat).2.2.2.2.2.1, (rf43 (z4).toInt.toNat).2.2.2.2.2.2)) nl67 la68 lf69 ns sa sf)) H := by rw [← pl_setR (i := (z4).toInt.toNat) (by omega)]; exact hP
    have hD : va_D A (wp [(h_rws, .inl (cy_rws, 361, .inr (.inr (.inr (.inr f40))))), (h_pv, .inr (3, (mo189 v_pv (.ref h_rws) (.int z39) (.ref h_lks) (.int z65) (.int x_pv_stepCount) (.int x_pv_options) (.int x_pv_longest)))), (h_lks, .inl (cy_lks, 210, .inr (.inr (.inr (.inr f66)))))] (PL nr41 ra42 (va_up rf43 (z4).toInt.toNat ((rf43 (z4).toInt.toNat).1, (rf43 (z4).toInt.toNat).2.1, (rf43 (z4).toInt.toNat).2.2.1, (some (la68 (z5).toInt.toNat)), (rf43 (z4).toInt.toNat).2.2.2.2.1, (rf43 (z4).toInt.toNat).2.2.2.2.2.1, (rf43 (z4).toInt.toNat).2.2.2.2.2.2)) nl67 la68 lf69 ns sa sf)) := by rw [← pl_setR (i := (z4).toInt.toNat) (by omega)]; exact hD
    refine lv_aload_n hx hb dX4_rowBehind_62 rfl (lv_at hl 0 rfl) ?_
    refine lv_aload_n hx hb dX4_rowBehind_63 rfl (lv_at hl 3 rfl) ?_
    refine va_getN (D := (dC, dI)) (ci := 11) (v := va_rf (sf j1).1) (C := RX7) (T := TX7) (N := 12) (host := "OppositePairs") hx hb hw iwX7 hown hK hP (3 + (nr41 + (nl67 + j1))) (pl_S (X := [(h_rws, .inl (cy_rws, 361, .inr (.inr (.inr (.inr f40))))), (h_pv, .inr (3, (mo189 v_pv (.ref h_rws) (.int z39) (.ref h_lks) (.int z65) (.int x_pv_stepCount) (.int x_pv_options) (.int x_pv_longest)))), (h_lks, .inl (cy_lks, 210, .inr (.inr (.inr (.inr f66)))))]) (by omega)) rfl 0 (by decide) (hN.use n_f_X4_185 rfl) (fun _ h9 => h9) rfl dX4_rowBehind_64 ?_
    obtain ⟨o81, eo81⟩ : ∃ o, o = (sf j1).1 := ⟨_, rfl⟩
    rw [← eo81]
    have ero81 : o81 = some (ra ro) := by rw [eo81]; exact ero
    subst ero81
    show W p l e _ s m _ below meth c _ _ _ _ _ (F0 m 67 ls [.ref (ra ro), .ref (ra42 (z4).toInt.toNat)])
    refine va_getN (D := (dC, dI)) (ci := 9) (v := va_rf (rf43 ro).2.2.2.2.1) (C := RX6) (T := TX6) (N := 7) (host := "OppositePairs") hx hb hw iwX6 hown hK hP (3 + ro) (by rw [← qr8]; exact (pl_R3 (X := [(h_rws, .inl (cy_rws, 361, .inr (.inr (.inr (.inr f40))))), (h_pv, .inr (3, (mo189 v_pv (.ref h_rws) (.int z39) (.ref h_lks) (.int z65) (.int x_pv_stepCount) (.int x_pv_options) (.int x_pv_longest)))), (h_lks, .inl (cy_lks, 210, .inr (.inr (.inr (.inr f66)))))]) (by omega) (by omega))) rfl 4 (by decide) (hN.use n_f_X4_118 rfl) (fun _ h9 => h9) rfl dX4_rowBehind_67 ?_
    obtain ⟨o82, eo82⟩ : ∃ o, o = (rf43 ro).2.2.2.2.1 := ⟨_, rfl⟩
    rw [← eo82]
    have py9 : PB la (x_pv_linkCount).toInt o82 := by rw [eo82, qf8]; exact (hn_lvr ro (by omega)).2.1
    have cq83 : o82 = (rf ro).2.2.2.2.1 := by rw [eo82, qf8]
    refine va_putN (D := (dC, dI)) (ci := 9) (v := (va_rf o82)) (ty := tyX6 4) (C := RX6) (T := TX6) (N := 7) (host := "OppositePairs") hx hb hw iwX6 tyX6 tyX6_ok nmX6 hown hK hP hD hS (3 + (z4).toInt.toNat) (pl_R2 (X := [(h_rws, .inl (cy_rws, 361, .inr (.inr (.inr (.inr f40))))), (h_pv, .inr (3, (mo189 v_pv (.ref h_rws) (.int z39) (.ref h_lks) (.int z65) (.int x_pv_stepCount) (.int x_pv_options) (.int x_pv_longest)))), (h_lks, .inl (cy_lks, 210, .inr (.inr (.inr (.inr f66)))))]) (by omega)) rfl 4 (by decide) (hN.use n_f_X4_118 rfl) (fun _ h9 => h9) rfl (tyX6_ok 4 (by decide)) (rf_nar o82 _) (rf_fit o82 _) (Nat.le_of_ble_eq_true rfl) dX4_rowBehind_70 (fun H locs hP hD hS => ?_)
    have hP : va_P (dC, dI) cls (wp [(h_rws, .inl (cy_rws, 361, .inr (.inr (.inr (.inr f40))))), (h_pv, .inr (3, (mo189 v_pv (.ref h_rws) (.int z39) (.ref h_lks) (.int z65) (.int x_pv_stepCount) (.int x_pv_options) (.int x_pv_longest)))), (h_lks, .inl (cy_lks, 210, .inr (.inr (.inr (.inr f66)))))] (PL nr41 ra42 (va_up rf43 (z4).toInt.toNat ((rf43 (z4).toInt.toNat).1, (rf43 (z4).toInt.toNat).2.1, (rf43 (z4).toInt.toNat).2.2.1, (some (la68 (z5).toInt.toNat)), o82, (rf43 (z4).toInt.toNat).2.2.2.2.2.1, (rf43 (z4).toInt.toNat).2.2.2.2.2.2)) nl67 la68 lf69 ns sa sf)) H := by rw [← pl_setR2 (i := (z4).toInt.toNat) (by omega)]; exact hP
    have hD : va_D A (wp [(h_rws, .inl (cy_rws, 361, .inr (.inr (.inr (.inr f40))))), (h_pv, .inr (3, (mo189 v_pv (.ref h_rws) (.int z39) (.ref h_lks) (.int z65) (.int x_pv_stepCount) (.int x_pv_options) (.int x_pv_longest)))), (h_lks, .inl (cy_lks, 210, .inr (.inr (.inr (.inr f66)))))] (PL nr41 ra42 (va_up rf43 (z4).toInt.toNat ((rf43 (z4).toInt.toNat).1, (rf43 (z4).toInt.toNat).2.1, (rf43 (z4).toInt.toNat).2.2.1, (some (la68 (z5).toInt.toNat)), o82, (rf43 (z4).toInt.toNat).2.2.2.2.2.1, (rf43 (z4).toInt.toNat).2.2.2.2.2.2)) nl67 la68 lf69 ns sa sf)) := by rw [← pl_setR2 (i := (z4).toInt.toNat) (by omega)]; exact hD
    refine lv_aload_n hx hb dX4_rowBehind_73 rfl (lv_at hl 0 rfl) ?_
    refine lv_aload_n hx hb dX4_rowBehind_74 rfl (lv_at hl 1 rfl) ?_
    show W p l e _ s m _ below meth c _ _ _ _ _ (F0 m 75 _ (va_rf (some (ra9 (x_pv_rowCount).toInt.toNat)) :: _))
    refine va_putN (D := (dC, dI)) (ci := 9) (v := (va_rf (some (ra9 (x_pv_rowCount).toInt.toNat)))) (ty := tyX6 5) (C := RX6) (T := TX6) (N := 7) (host := "OppositePairs") hx hb hw iwX6 tyX6 tyX6_ok nmX6 hown hK hP hD hS (3 + (z4).toInt.toNat) (pl_R2 (X := [(h_rws, .inl (cy_rws, 361, .inr (.inr (.inr (.inr f40))))), (h_pv, .inr (3, (mo189 v_pv (.ref h_rws) (.int z39) (.ref h_lks) (.int z65) (.int x_pv_stepCount) (.int x_pv_options) (.int x_pv_longest)))), (h_lks, .inl (cy_lks, 210, .inr (.inr (.inr (.inr f66)))))]) (by omega)) rfl 5 (by decide) (hN.use n_f_X4_121 rfl) (fun _ h9 => h9) rfl (tyX6_ok 5 (by decide)) (rf_nar (some (ra9 (x_pv_rowCount).toInt.toNat)) _) (rf_fit (some (ra9 (x_pv_rowCount).toInt.toNat)) _) (Nat.le_of_ble_eq_true rfl) dX4_rowBehind_75 (fun H locs hP hD hS => ?_)
    have hP : va_P (dC, dI) cls (wp [(h_rws, .inl (cy_rws, 361, .inr (.inr (.inr (.inr f40))))), (h_pv, .inr (3, (mo189 v_pv (.ref h_rws) (.int z39) (.ref h_lks) (.int z65) (.int x_pv_stepCount) (.int x_pv_options) (.int x_pv_longest)))), (h_lks, .inl (cy_lks, 210, .inr (.inr (.inr (.inr f66)))))] (PL nr41 ra42 (va_up rf43 (z4).toInt.toNat ((rf43 (z4).toInt.toNat).1, (rf43 (z4).toInt.toNat).2.1, (rf43 (z4).toInt.toNat).2.2.1, (some (la68 (z5).toInt.toNat)), o82, (some (ra9 (x_pv_rowCount).toInt.toNat)), (rf43 (z4).toInt.toNat).2.2.2.2.2.2)) nl67 la68 lf69 ns sa sf)) H := by rw [← pl_setR2 (i := (z4).toInt.toNat) (by omega)]; exact hP
    have hD : va_D A (wp [(h_rws, .inl (cy_rws, 361, .inr (.inr (.inr (.inr f40))))), (h_pv, .inr (3, (mo189 v_pv (.ref h_rws) (.int z39) (.ref h_lks) (.int z65) (.int x_pv_stepCount) (.int x_pv_options) (.int x_pv_longest)))), (h_lks, .inl (cy_lks, 210, .inr (.inr (.inr (.inr f66)))))] (PL nr41 ra42 (va_up rf43 (z4).toInt.toNat ((rf43 (z4).toInt.toNat).1, (rf43 (z4).toInt.toNat).2.1, (rf43 (z4).toInt.toNat).2.2.1, (some (la68 (z5).toInt.toNat)), o82, (some (ra9 (x_pv_rowCount).toInt.toNat)), (rf43 (z4).toInt.toNat).2.2.2.2.2.2)) nl67 la68 lf69 ns sa sf)) := by rw [← pl_setR2 (i := (z4).toInt.toNat) (by omega)]; exact hD
    refine lv_aload_n hx hb dX4_rowBehind_78 rfl (lv_at hl 0 rfl) ?_
    refine lv_aload_n hx hb dX4_rowBehind_79 rfl (lv_at hl 2 rfl) ?_
    refine va_get (D := (dC, dI)) (ci := 3) (v := .int x_pv_stepCount) (C := RX4) (T := TX4) (N := 18) hx hb hw iwX4 hown hK hP 1 rfl rfl 7 (by decide) (hw _ w_f_X4_88) (fun _ h9 => h9) rfl dX4_rowBehind_80 ?_
    refine lv_iconst (v := 1) hx hb dX4_rowBehind_83 (by decide) ?_
    refine lv_isub hx hb dX4_rowBehind_84 ?_
    refine lv_topi (fun z84 ez84 => ?_)
    have tz84 : (z84).toInt = (x_pv_stepCount).toInt - 1 := by rw [ez84]; exact i_sub rfl (by decide) (by omega)
    refine va_putN (D := (dC, dI)) (ci := 9) (v := .int z84) (ty := tyX6 6) (C := RX6) (T := TX6) (N := 7) (host := "OppositePairs") hx hb hw iwX6 tyX6 tyX6_ok nmX6 hown hK hP hD hS (3 + (z4).toInt.toNat) (pl_R2 (X := [(h_rws, .inl (cy_rws, 361, .inr (.inr (.inr (.inr f40))))), (h_pv, .inr (3, (mo189 v_pv (.ref h_rws) (.int z39) (.ref h_lks) (.int z65) (.int x_pv_stepCount) (.int x_pv_options) (.int x_pv_longest)))), (h_lks, .inl (cy_lks, 210, .inr (.inr (.inr (.inr f66)))))]) (by omega)) rfl 6 (by decide) (hN.use n_f_X4_125 rfl) (fun _ h9 => h9) rfl (tyX6_ok 6 (by decide)) rfl rfl (Nat.le_of_ble_eq_true rfl) dX4_rowBehind_85 (fun H locs hP hD hS => ?_)
    have hP : va_P (dC, dI) cls (wp [(h_rws, .inl (cy_rws, 361, .inr (.inr (.inr (.inr f40))))), (h_pv, .inr (3, (mo189 v_pv (.ref h_rws) (.int z39) (.ref h_lks) (.int z65) (.int x_pv_stepCount) (.int x_pv_options) (.int x_pv_longest)))), (h_lks, .inl (cy_lks, 210, .inr (.inr (.inr (.inr f66)))))] (PL nr41 ra42 (va_up rf43 (z4).toInt.toNat ((rf43 (z4).toInt.toNat).1, (rf43 (z4).toInt.toNat).2.1, (rf43 (z4).toInt.toNat).2.2.1, (some (la68 (z5).toInt.toNat)), o82, (some (ra9 (x_pv_rowCount).toInt.toNat)), z84)) nl67 la68 lf69 ns sa sf)) H := by rw [← pl_setR2 (i := (z4).toInt.toNat) (by omega)]; exact hP
    have hD : va_D A (wp [(h_rws, .inl (cy_rws, 361, .inr (.inr (.inr (.inr f40))))), (h_pv, .inr (3, (mo189 v_pv (.ref h_rws) (.int z39) (.ref h_lks) (.int z65) (.int x_pv_stepCount) (.int x_pv_options) (.int x_pv_longest)))), (h_lks, .inl (cy_lks, 210, .inr (.inr (.inr (.inr f66)))))] (PL nr41 ra42 (va_up rf43 (z4).toInt.toNat ((rf43 (z4).toInt.toNat).1, (rf43 (z4).toInt.toNat).2.1, (rf43 (z4).toInt.toNat).2.2.1, (some (la68 (z5).toInt.toNat)), o82, (some (ra9 (x_pv_rowCount).toInt.toNat)), z84)) nl67 la68 lf69 ns sa sf)) := by rw [← pl_setR2 (i := (z4).toInt.toNat) (by omega)]; exact hD
    refine lv_aload_n hx hb dX4_rowBehind_88 rfl (lv_at hl 2 rfl) ?_
    refine lv_aload_n hx hb dX4_rowBehind_89 rfl (lv_at hl 2 rfl) ?_
    refine va_get (D := (dC, dI)) (ci := 3) (v := .int x_pv_longest) (C := RX4) (T := TX4) (N := 18) hx hb hw iwX4 hown hK hP 1 rfl rfl 13 (by decide) (hw _ w_f_X4_49) (fun _ h9 => h9) rfl dX4_rowBehind_90 ?_
    refine lv_aload_n hx hb dX4_rowBehind_93 rfl (lv_at hl 0 rfl) ?_
    refine va_getN (D := (dC, dI)) (ci := 9) (v := .ref (la68 (z5).toInt.toNat)) (C := RX6) (T := TX6) (N := 7) (host := "OppositePairs") hx hb hw iwX6 hown hK hP (3 + (z4).toInt.toNat) (pl_R2 (X := [(h_rws, .inl (cy_rws, 361, .inr (.inr (.inr (.inr f40))))), (h_pv, .inr (3, (mo189 v_pv (.ref h_rws) (.int z39) (.ref h_lks) (.int z65) (.int x_pv_stepCount) (.int x_pv_options) (.int x_pv_longest)))), (h_lks, .inl (cy_lks, 210, .inr (.inr (.inr (.inr f66)))))]) (by omega)) rfl 3 (by decide) (hN.use n_f_X4_114 rfl) (fun _ h9 => h9) rfl dX4_rowBehind_94 ?_
    refine va_getN (D := (dC, dI)) (ci := 10) (v := .int (lf69 (z5).toInt.toNat).2.2.1) (C := RX2) (T := TX2) (N := 4) (host := "OppositePairs") hx hb hw iwX2 hown hK hP (3 + (nr41 + (z5).toInt.toNat)) (pl_L (X := [(h_rws, .inl (cy_rws, 361, .inr (.inr (.inr (.inr f40))))), (h_pv, .inr (3, (mo189 v_pv (.ref h_rws) (.int z39) (.ref h_lks) (.int z65) (.int x_pv_stepCount) (.int x_pv_options) (.int x_pv_longest)))), (h_lks, .inl (cy_lks, 210, .inr (.inr (.inr (.inr f66)))))]) (by omega)) rfl 2 (by decide) (hN.use n_f_X4_266 rfl) (fun _ h9 => h9) rfl dX4_rowBehind_97 ?_
    refine lv_topi (fun z85 ez85 => ?_)
    have vz85 : (z85).toInt = ((lf69 (z5).toInt.toNat).2.2.1).toInt := by rw [ez85]
    have le9 : (z85).toInt = (lf69 (z5).toInt.toNat).2.2.1.toInt := by rw [ez85]
    refine va_mmax hx hb (hml.trans hl.1.symm) hown (hw _ w_m_X4_269) (hw _ w_mst_max) (hw _ w_ini_Math) (hw _ w_mcd_max) (Nat.le_of_ble_eq_true rfl) (Nat.le_of_ble_eq_true rfl) (by dsimp only [headSpec]; omega) (by dsimp only [headSpec]; omega) dX4_rowBehind_100 ?_
    refine lv_topi (fun z86 ez86 => ?_)
    have tz86 := i_max (x := x_pv_longest) (y := z85) (rfl : (x_pv_longest).toInt = (x_pv_longest).toInt) (rfl : (z85).toInt = (z85).toInt)
    rw [← ez86] at tz86
    refine va_put (D := (dC, dI)) (ci := 3) (v := .int z86) (ty := tyX4 13) (C := RX4) (T := TX4) (N := 18) hx hb hw iwX4 tyX4 tyX4_ok nmX4 hown hK hP hD hS 1 rfl rfl 13 (by decide) (hw _ w_f_X4_49) (fun _ h9 => h9) rfl (tyX4_ok 13 (by decide)) rfl rfl (Nat.le_of_ble_eq_true rfl) dX4_rowBehind_103 (fun H locs hP9 hD9 hS9 => ?_)
    clear hP hD hS
    have hP : va_P (dC, dI) cls (wp [(h_rws, .inl (cy_rws, 361, .inr (.inr (.inr (.inr f40))))), (h_pv, .inr (3, (mo189 v_pv (.ref h_rws) (.int z39) (.ref h_lks) (.int z65) (.int x_pv_stepCount) (.int x_pv_options) (.int z86)))), (h_lks, .inl (cy_lks, 210, .inr (.inr (.inr (.inr f66)))))] (PL nr41 ra42 (va_up rf43 (z4).toInt.toNat ((rf43 (z4).toInt.toNat).1, (rf43 (z4).toInt.toNat).2.1, (rf43 (z4).toInt.toNat).2.2.1, (some (la68 (z5).toInt.toNat)), o82, (some (ra9 (x_pv_rowCount).toInt.toNat)), z84)) nl67 la68 lf69 ns sa sf)) H := hP9
    have hD : va_D A (wp [(h_rws, .inl (cy_rws, 361, .inr (.inr (.inr (.inr f40))))), (h_pv, .inr (3, (mo189 v_pv (.ref h_rws) (.int z39) (.ref h_lks) (.int z65) (.int x_pv_stepCount) (.int x_pv_options) (.int z86)))), (h_lks, .inl (cy_lks, 210, .inr (.inr (.inr (.inr f66)))))] (PL nr41 ra42 (va_up rf43 (z4).toInt.toNat ((rf43 (z4).toInt.toNat).1, (rf43 (z4).toInt.toNat).2.1, (rf43 (z4).toInt.toNat).2.2.1, (some (la68 (z5).toInt.toNat)), o82, (some (ra9 (x_pv_rowCount).toInt.toNat)), z84)) nl67 la68 lf69 ns sa sf)) := hD9
    have hS := hS9
    clear hP9 hD9 hS9
    refine lv_aload_n hx hb dX4_rowBehind_106 rfl (lv_at hl 0 rfl) ?_
    obtain ⟨rf87, erf87⟩ : ∃ g, g = (va_up rf43 (z4).toInt.toNat ((rf43 (z4).toInt.toNat).1, (rf43 (z4).toInt.toNat).2.1, (rf43 (z4).toInt.toNat).2.2.1, (some (la68 (z5).toInt.toNat)), o82, (some (ra9 (x_pv_rowCount).toInt.toNat)), z84)) := ⟨_, rfl⟩
    have hP : va_P (dC, dI) cls (wp [(h_rws, .inl (cy_rws, 361, .inr (.inr (.inr (.inr f40))))), (h_pv, .inr (3, (mo189 v_pv (.ref h_rws) (.int z39) (.ref h_lks) (.int z65) (.int x_pv_stepCount) (.int x_pv_options) (.int z86)))), (h_lks, .inl (cy_lks, 210, .inr (.inr (.inr (.inr f66)))))] (PL nr41 ra42 rf87 nl67 la68 lf69 ns sa sf)) H := by rw [erf87]; exact hP
    have hD : va_D A (wp [(h_rws, .inl (cy_rws, 361, .inr (.inr (.inr (.inr f40))))), (h_pv, .inr (3, (mo189 v_pv (.ref h_rws) (.int z39) (.ref h_lks) (.int z65) (.int x_pv_stepCount) (.int x_pv_options) (.int z86)))), (h_lks, .inl (cy_lks, 210, .inr (.inr (.inr (.inr f66)))))] (PL nr41 ra42 rf87 nl67 la68 lf69 ns sa sf)) := by rw [erf87]; exact hD
    have srf87 : rf87 (z4).toInt.toNat = ((rf43 (z4).toInt.toNat).1, (rf43 (z4).toInt.toNat).2.1, (rf43 (z4).toInt.toNat).2.2.1, (some (la68 (z5).toInt.toNat)), o82, (some (ra9 (x_pv_rowCount).toInt.toNat)), z84) := by rw [erf87]; exact up_self _ _ _
    have orf87 : ∀ j : Nat, j ≠ (z4).toInt.toNat → rf87 j = rf43 j := fun j hj => by rw [erf87]; exact up_ne hj
    have k31 := k3_yes (x := (sf j1).2.1) (by omega)
    have rb88b := k49 (z4).toInt.toNat (by omega)
    have rb88n := k51.2
    have rb88g : ∀ m : Nat, m < nr → ra42 m = ra m := fun m hm => (k50 m (by omega)).trans (k26 m hm)
    have rb88h : ∀ m : Nat, m < nl → la68 m = la m := fun m hm => (k76 m (by omega)).trans (k27 m hm)
    have rb88x : PB la68 (z65).toInt (some (la68 (z5).toInt.toNat)) := Or.inr ⟨(z5).toInt.toNat, by omega, rfl⟩
    have rb88y : PB la68 (z65).toInt o82 := pb_mono py9 (by omega) (fun m hm => rb88h m (by omega))
    have rb88z : PB ra42 ((x_pv_rowCount).toInt + 1) (some (ra9 (x_pv_rowCount).toInt.toNat)) := Or.inr ⟨(x_pv_rowCount).toInt.toNat, by omega, by rw [k50 _ (by omega)]⟩
    have rb88k : ROK nr41 ra42 rf43 nl67 la68 := rok_la k49 (by omega) k76
    have rb88r : ROK nr41 ra42 rf87 nl67 la68 := rok_set rb88k orf87 srf87 (by rw [rb88n.1]; omega) (by rw [rb88n.2.1]; omega) rb88b.2.2.1 (pb_mono rb88x (by omega) (fun _ _ => rfl)) (pb_mono rb88y (by omega) (fun _ _ => rfl)) (pb_mono rb88z (by omega) (fun _ _ => rfl)) (by omega)
    have rb88e : ∀ j : Nat, j ≠ (z4).toInt.toNat → rf87 j = rf10 j := fun j hj => (orf87 j hj).trans (k51.1 j hj)
    have rb88v : LVR ((x_pv_rowCount).toInt + 1 + 1) (z65).toInt ra42 rf87 la68 := lvr_row (k := (z4).toInt.toNat) k25 (by omega) (fun m hm => k50 m (by omega)) (fun m hm => k76 m (by omega)) (by omega) rb88e srf87 rb88x rb88y rb88z
    have rb88l : LVS (z39).toInt (z65).toInt (x_pv_stepCount).toInt vI ra42 rf87 la68 sf := lvs_mono hn_lvs (by omega) (by omega) (by omega) (fun m hm => rb88g m (by omega)) (fun m hm => rb88h m (by omega)) (fun m hm => (rb88e m (by omega)).trans (k28 m (by omega)))
    have rb88s : SOK ns sf nr41 ra42 nl67 la68 := sok_mono hn_sok (by omega) rb88g (by omega) rb88h
    have rb88G := gr2_trans k19 k47 (by omega)
    have rb88L := gr2_trans k20 k73 (by omega)
    have rb88d1 := gr2_mc (a := (x_pv_rowCount).toInt.toNat + 1) k19 (by omega)
    have rb88d2 := gr2_mc (a := (x_pv_linkCount).toInt.toNat + (hasb x_pv_options 2).toNat) k20 (by omega)
    have rb88d3 := gr2_mc (a := (z4).toInt.toNat + 1) k47 (by omega)
    have rb88d4 := gr2_mc (a := (z5).toInt.toNat + 1) k73 (by omega)
    have rb88c1 := gr2_mc (a := (x_pv_rowCount).toInt.toNat + 1 + (k3 (sf j1).2.1).toNat) rb88G (by omega)
    have rb88c2 := gr2_mc (a := (x_pv_linkCount).toInt.toNat + (hasb x_pv_options 2).toNat + (k3 (sf j1).2.1).toNat) rb88L (by omega)
    have rx89e : ∀ j : Nat, j ≠ (z4).toInt.toNat → rf87 j = rf10 j := fun j hj => (orf87 j hj).trans (k51.1 j hj)
    have rx89a : ∀ i : Nat, (i : Int) < sLM (sf j1) → la68 i = la i ∧ lf69 i = lf i := fun i9 h9 => ⟨(k76 i9 (by omega)).trans (la19 i9 h9).1, (k77 i9 (by omega)).trans (la19 i9 h9).2⟩
    have rx89w := rsw_of (m := mq) (la := la) (la' := la12) (lf := lf) (lf' := lf13) (L0 := sLM (sf j1)) (L2 := (z5).toInt) (t := rf ro) (t' := rf10 (x_pv_rowCount).toInt.toNat) (by omega) (fun i9 h9 => ⟨k27 i9 (by omega), k32 i9 (by omega)⟩) rsx9.1 rsx9.2.1 (by rw [rsx9.2.2.1]; exact nxi_rs) rsx9.2.2.2.1 rsx9.2.2.2.2.2 (Or.elim rsl9 (fun h8 => Or.inl ⟨fun h7 => by have h6 := hn_op2.mp h7; omega, h8.2⟩) (fun h8 => Or.inr ⟨hn_op2.mpr h8.1, (x_pv_linkCount).toInt.toNat, by omega, by omega, h8.2.1, h8.2.2.1, h8.2.2.2.1, h8.2.2.2.2.1, fun xs9 h9 => h8.2.2.2.2.2 xs9 (by rw [lk0]; exact h9)⟩))
    have rx89x : rf87 (x_pv_rowCount).toInt.toNat = rf10 (x_pv_rowCount).toInt.toNat := rx89e _ (by omega)
    have rx89v : ∀ f9 : FRT, RWV la lf (sLM (sf j1)) (rf ro) f9 → RWV la68 lf69 (z65).toInt (rf87 (x_pv_rowCount).toInt.toNat) (rsq mq f9) := fun f9 h9 => by rw [rx89x]; exact rwv_mono (rx89w f9 h9) (by omega) (fun i8 h8 => ⟨k76 i8 (by omega), k77 i8 (by omega)⟩)
    have rx89r := k51.2
    have rx89s := k53
    have rx89z : ∀ f9 : FRT, RWV la lf (sLM (sf j1)) (rf ro) f9 → RWV la68 lf69 (z65).toInt (rf87 (z4).toInt.toNat) (exq f9 (sf j1).2.2.1.toInt.toNat (sf j1).2.2.2.1.toInt.toNat (j1 : Int)) := exw_of (q := (z5).toInt.toNat) (t := rf ro) (j := j1) (by omega) rx89a (by omega) (by rw [srf87]; show ((rf43 (z4).toInt.toNat).1).toInt = _; rw [rx89r.1]; omega) (by rw [srf87]; show ((rf43 (z4).toInt.toNat).2.1).toInt = _; rw [rx89r.2.1]; omega) (by rw [srf87]; show ((rf43 (z4).toInt.toNat).2.2.1).toInt = _; rw [rx89s, show (z36).toInt = (sf j1).2.2.2.1.toInt by omega]; exact nxi_ex cst0) (by omega) (by omega) (by rw [srf87]) (k80.1.trans cq56) (k80.2.1.trans cq59) (k80.2.2.trans cq62) (fun xs9 h9 => k79 xs9 (lkp9 xs9 h9)) (by rw [srf87]; exact cq83) (by rw [srf87]; show (z84).toInt = _; omega)
    have rx89y : (rf87 (z4).toInt.toNat).2.2.2.2.2.1 = some (ra42 (x_pv_rowCount).toInt.toNat) := by rw [srf87]; show some (ra9 (x_pv_rowCount).toInt.toNat) = _; rw [k50 _ (by omega)]
    have rx89 : GOX mq c0 la68 lf69 ra42 rf87 sf gbn gtr gco gT vI (z39).toInt (z65).toInt (x_pv_stepCount).toInt (some (ra42 (z4).toInt.toNat)) nq := czx_ext (k := (x_pv_rowCount).toInt.toNat) (k2 := (z4).toInt.toNat) hn_czx (by omega) hro ero ij9 (by omega) (by omega) rx89a (fun i9 h9 => ⟨(k50 i9 (by omega)).trans (k26 i9 (by omega)), (rx89e i9 (by omega)).trans (k28 i9 (by omega))⟩) rx89v (by rw [rx89x]; exact rsx9.2.2.2.2.1) rx89z rx89y (by omega)
    have rx89g : ∃ (q8 : Nat) (xs8 : List LKT), (q8 : Int) < sRM (sf j1) ∧ sRW (sf j1) = some (ra q8) ∧ LKR la lf (sLM (sf j1)) (rf q8).2.2.2.1 xs8 ∧ (z86).toInt = max (x_pv_longest).toInt ((xs8.length : Int) + 1) := by obtain ⟨xs9, h9⟩ := lx9; have h8 := k79 xs9 (lkp9 xs9 h9); exact ⟨ro, xs9, hro, ero, h9, by omega⟩
    replace hP : va_P (dC, dI) cls (wp [(h_pv, .inr (3, (mo189 v_pv (.ref h_rws) (.int z39) (.ref h_lks) (.int z65) (.int x_pv_stepCount) (.int x_pv_options) (.int z86)))), (h_rws, .inl (cy_rws, 361, .inr (.inr (.inr (.inr f40))))), (h_lks, .inl (cy_lks, 210, .inr (.inr (.inr (.inr f66)))))] (PL nr41 ra42 rf87 nl67 la68 lf69 ns sa sf)) H := va_P.part (cx := [(h_pv, .inr (3, (mo189 v_pv (.ref h_rws) (.int z39) (.ref h_lks) (.int z65) (.int x_pv_stepCount) (.int x_pv_options) (.int z86)))), (h_rws, .inl (cy_rws, 361, .inr (.inr (.inr (.inr f40))))), (h_lks, .inl (cy_lks, 210, .inr (.inr (.inr (.inr f66)))))]) hP [1, 0, 2] rfl
    replace hD : va_D A (wp [(h_pv, .inr (3, (mo189 v_pv (.ref h_rws) (.int z39) (.ref h_lks) (.int z65) (.int x_pv_stepCount) (.int x_pv_options) (.int z86)))), (h_rws, .inl (cy_rws, 361, .inr (.inr (.inr (.inr f40))))), (h_lks, .inl (cy_lks, 210, .inr (.inr (.inr (.inr f66)))))] (PL nr41 ra42 rf87 nl67 la68 lf69 ns sa sf)) := va_D.part (cx := [(h_pv, .inr (3, (mo189 v_pv (.ref h_rws) (.int z39) (.ref h_lks) (.int z65) (.int x_pv_stepCount) (.int x_pv_options) (.int z86)))), (h_rws, .inl (cy_rws, 361, .inr (.inr (.inr (.inr f40))))), (h_lks, .inl (cy_lks, 210, .inr (.inr (.inr (.inr f66)))))]) hD [1, 0, 2] (by decide) rfl
    refine W.widen (k := ((x_pv_rowCount).toInt.toNat + 1 + (k3 (sf j1).2.1).toNat - nr) + ((x_pv_linkCount).toInt.toNat + (hasb x_pv_options 2).toNat + (k3 (sf j1).2.1).toNat - nl)) (n := 7 * ((x_pv_rowCount).toInt.toNat + 1 + (k3 (sf j1).2.1).toNat - nr) + 4 * ((x_pv_linkCount).toInt.toNat + (hasb x_pv_options 2).toNat + (k3 (sf j1).2.1).toNat - nl)) (by omega) (by omega) ?_
    have w90 : 0 ≤ ((z39)).toInt ∧ ((z39)).toInt ≤ 361 := by first | exact k44 | omega
    have w91 : 0 ≤ ((z65)).toInt ∧ ((z65)).toInt ≤ 210 := by first | exact k70 | omega
    have w92 : ((z39)).toInt = (x_pv_rowCount).toInt + 1 + k3 (sf j1).2.1 := by omega
    have w93 : ((z65)).toInt = (x_pv_linkCount).toInt + hasb x_pv_options 2 + k3 (sf j1).2.1 := by omega
    have w94 : nr ≤ (nr41) ∧ nl ≤ (nl67) ∧ ((z39)).toInt ≤ (nr41) ∧ ((z65)).toInt ≤ (nl67) := by omega
    have w95 : GR2 nr (nr41) ((z39)).toInt := rb88G
    have w96 : GR2 nl (nl67) ((z65)).toInt := rb88L
    have w97 : PFX (nr41) 361 (f40) (ra42) := k48
    have w98 : PFX (nl67) 210 (f66) (la68) := k74
    have w99 : ROK (nr41) (ra42) (rf87) (nl67) (la68) := rb88r
    have w100 : LOK (nl67) (la68) (lf69) := k75
    have w101 : SOK ns sf (nr41) (ra42) (nl67) (la68) := rb88s
    have w102 : LVR ((z39)).toInt ((z65)).toInt (ra42) (rf87) (la68) := (lvr_cast rb88v (by first | rfl | omega) (by first | rfl | omega))
    have w103 : LVS ((z39)).toInt ((z65)).toInt (x_pv_stepCount).toInt vI (ra42) (rf87) (la68) sf := (lvs_cast rb88l (by first | rfl | omega) (by first | rfl | omega) (by first | rfl | omega) (by first | rfl | omega))
    have w104 : ∃ q : Nat, (q : Int) < ((z39)).toInt ∧ (some (ra42 (z4).toInt.toNat) : Option Nat) = some ((ra42) q) := ⟨(z4).toInt.toNat, by omega, rfl⟩
    have w105 : GOX mq c0 (la68) (lf69) (ra42) (rf87) sf gbn gtr gco gT vI ((z39)).toInt ((z65)).toInt (x_pv_stepCount).toInt (some (ra42 (z4).toInt.toNat) : Option Nat) nq := rx89
    have w106 : ((sf j1).2.1.toInt = 3 ∧ ∃ (q8 : Nat) (xs8 : List LKT), (q8 : Int) < sRM (sf j1) ∧ sRW (sf j1) = some (ra q8) ∧ LKR la lf (sLM (sf j1)) (rf q8).2.2.2.1 xs8 ∧ ((z86)).toInt = max (x_pv_longest).toInt ((xs8.length : Int) + 1)) ∨ (¬ (sf j1).2.1.toInt = 3 ∧ (z86) = x_pv_longest) := (Or.inl ⟨by omega, rx89g⟩)
    exact W.aret (v := va_rf (some (ra42 (z4).toInt.toNat))) hx hb hr (Or.inl ⟨_, rfl⟩) (va_rf_or _) (fun t ht hW => ⟨⟨(some (ra42 (z4).toInt.toNat)), (z39, z65, z86, f40, f66, nr41, ra42, rf87, nl67, la68, lf69), rfl, ⟨w90, w91, w92, w93, w94, w95, w96, w97, w98, w99, w100, w101, w102, w103, w104, w105, w106⟩, by rw [ht]; exact hP, hD⟩, hS.F ht⟩) hS.2.2 dX4_rowBehind_107
  · have kc34 := (not_congr (cv_eq (rfl : (z33).toInt = (z33).toInt) (by decide : (3 : Int32).toInt = 3))).mp c34
    refine lv_aload_n hx hb dX4_rowBehind_17 rfl (lv_at hl 0 rfl) ?_
    have k30 := k3_no (x := (sf j1).2.1) (by omega)
    have rb107l : LVS (z4).toInt (z5).toInt (x_pv_stepCount).toInt vI ra9 rf10 la12 sf := lvs_mono hn_lvs (by omega) (by omega) (by omega) (fun m hm => k26 m (by omega)) (fun m hm => k27 m (by omega)) (fun m hm => k28 m (by omega))
    have rb107s : SOK ns sf nr8 ra9 nl11 la12 := sok_mono hn_sok (by omega) k26 (by omega) k27
    have rb107c1 := gr2_mc (a := (x_pv_rowCount).toInt.toNat + 1 + (k3 (sf j1).2.1).toNat) k19 (by omega)
    have rb107c2 := gr2_mc (a := (x_pv_linkCount).toInt.toNat + (hasb x_pv_options 2).toNat + (k3 (sf j1).2.1).toNat) k20 (by omega)
    have rb107d1 := gr2_mc (a := (x_pv_rowCount).toInt.toNat + 1) k19 (by omega)
    have rb107d2 := gr2_mc (a := (x_pv_linkCount).toInt.toNat + (hasb x_pv_options 2).toNat) k20 (by omega)
    have rx108w := rsw_of (m := mq) (la := la) (la' := la12) (lf := lf) (lf' := lf13) (L0 := sLM (sf j1)) (L2 := (z5).toInt) (t := rf ro) (t' := rf10 (x_pv_rowCount).toInt.toNat) (by omega) (fun i9 h9 => ⟨k27 i9 (by omega), k32 i9 (by omega)⟩) rsx9.1 rsx9.2.1 (by rw [rsx9.2.2.1]; exact nxi_rs) rsx9.2.2.2.1 rsx9.2.2.2.2.2 (Or.elim rsl9 (fun h8 => Or.inl ⟨fun h7 => by have h6 := hn_op2.mp h7; omega, h8.2⟩) (fun h8 => Or.inr ⟨hn_op2.mpr h8.1, (x_pv_linkCount).toInt.toNat, by omega, by omega, h8.2.1, h8.2.2.1, h8.2.2.2.1, h8.2.2.2.2.1, fun xs9 h9 => h8.2.2.2.2.2 xs9 (by rw [lk0]; exact h9)⟩))
    have rx108 : GOX mq c0 la12 lf13 ra9 rf10 sf gbn gtr gco gT vI (z4).toInt (z5).toInt (x_pv_stepCount).toInt (some (ra9 (x_pv_rowCount).toInt.toNat)) nq := czx_rest (k := (x_pv_rowCount).toInt.toNat) hn_czx (by omega) hro ero ij9 (by omega) (by omega) (fun i9 h9 => ⟨k27 i9 (by omega), k32 i9 (by omega)⟩) (fun i9 h9 => ⟨k26 i9 (by omega), k28 i9 (by omega)⟩) rx108w rsx9.2.2.2.2.1 (by omega)
    refine W.widen (k := ((x_pv_rowCount).toInt.toNat + 1 + (k3 (sf j1).2.1).toNat - nr) + ((x_pv_linkCount).toInt.toNat + (hasb x_pv_options 2).toNat + (k3 (sf j1).2.1).toNat - nl)) (n := 7 * ((x_pv_rowCount).toInt.toNat + 1 + (k3 (sf j1).2.1).toNat - nr) + 4 * ((x_pv_linkCount).toInt.toNat + (hasb x_pv_options 2).toNat + (k3 (sf j1).2.1).toNat - nl)) (by omega) (by omega) ?_
    have w109 : 0 ≤ ((z4)).toInt ∧ ((z4)).toInt ≤ 361 := by first | exact k14 | omega
    have w110 : 0 ≤ ((z5)).toInt ∧ ((z5)).toInt ≤ 210 := by first | exact k15 | omega
    have w111 : ((z4)).toInt = (x_pv_rowCount).toInt + 1 + k3 (sf j1).2.1 := by omega
    have w112 : ((z5)).toInt = (x_pv_linkCount).toInt + hasb x_pv_options 2 + k3 (sf j1).2.1 := by omega
    have w113 : nr ≤ (nr8) ∧ nl ≤ (nl11) ∧ ((z4)).toInt ≤ (nr8) ∧ ((z5)).toInt ≤ (nl11) := by first | exact k18 | omega
    have w114 : GR2 nr (nr8) ((z4)).toInt := k19
    have w115 : GR2 nl (nl11) ((z5)).toInt := k20
    have w116 : PFX (nr8) 361 (f6) (ra9) := k21
    have w117 : PFX (nl11) 210 (f7) (la12) := k22
    have w118 : ROK (nr8) (ra9) (rf10) (nl11) (la12) := k23
    have w119 : LOK (nl11) (la12) (lf13) := k24
    have w120 : SOK ns sf (nr8) (ra9) (nl11) (la12) := rb107s
    have w121 : LVR ((z4)).toInt ((z5)).toInt (ra9) (rf10) (la12) := (lvr_cast k25 (by first | rfl | omega) (by first | rfl | omega))
    have w122 : LVS ((z4)).toInt ((z5)).toInt (x_pv_stepCount).toInt vI (ra9) (rf10) (la12) sf := (lvs_cast rb107l (by first | rfl | omega) (by first | rfl | omega) (by first | rfl | omega) (by first | rfl | omega))
    have w123 : ∃ q : Nat, (q : Int) < ((z4)).toInt ∧ (some (ra9 (x_pv_rowCount).toInt.toNat) : Option Nat) = some ((ra9) q) := ⟨(x_pv_rowCount).toInt.toNat, by omega, rfl⟩
    have w124 : GOX mq c0 (la12) (lf13) (ra9) (rf10) sf gbn gtr gco gT vI ((z4)).toInt ((z5)).toInt (x_pv_stepCount).toInt (some (ra9 (x_pv_rowCount).toInt.toNat) : Option Nat) nq := rx108
    have w125 : ((sf j1).2.1.toInt = 3 ∧ ∃ (q8 : Nat) (xs8 : List LKT), (q8 : Int) < sRM (sf j1) ∧ sRW (sf j1) = some (ra q8) ∧ LKR la lf (sLM (sf j1)) (rf q8).2.2.2.1 xs8 ∧ ((x_pv_longest)).toInt = max (x_pv_longest).toInt ((xs8.length : Int) + 1)) ∨ (¬ (sf j1).2.1.toInt = 3 ∧ (x_pv_longest) = x_pv_longest) := (Or.inr ⟨by omega, rfl⟩)
    exact W.aret (v := va_rf (some (ra9 (x_pv_rowCount).toInt.toNat))) hx hb hr (Or.inl ⟨_, rfl⟩) (va_rf_or _) (fun t ht hW => ⟨⟨(some (ra9 (x_pv_rowCount).toInt.toNat)), (z4, z5, x_pv_longest, f6, f7, nr8, ra9, rf10, nl11, la12, lf13), rfl, ⟨w109, w110, w111, w112, w113, w114, w115, w116, w117, w118, w119, w120, w121, w122, w123, w124, w125⟩, by rw [ht]; exact hP, hD⟩, hS.F ht⟩) hS.2.2 dX4_rowBehind_18

