set_option maxHeartbeats 8000000 in
set_option maxRecDepth 100000 in
theorem c_X4_rowBehind (l : Launch) (dC : Nat → ClassId) (dI : Nat → Nat → Nat) (sz : Nat) (h_pv : Nat) (h_rws : Nat) (h_lks : Nat) (nr : Nat) (ra : Nat → Nat) (rf : Nat → RT) (nl : Nat) (la : Nat → Nat) (lf : Nat → LT) (ns : Nat) (sa : Nat → Nat) (sf : Nat → ST) (v_pv : Nat → Value) (x_pv_rowCount : Int32) (x_pv_linkCount : Int32) (x_pv_stepCount : Int32) (x_pv_options : Int32) (x_pv_longest : Int32) (cy_rws : ClassId) (f_rws : Nat → Option Nat) (cy_lks : ClassId) (f_lks : Nat → Option Nat) (j1 : Nat) (vI : Int) (hx_pv_rowCount : 0 ≤ (x_pv_rowCount).toInt ∧ (x_pv_rowCount).toInt ≤ 361) (hx_pv_linkCount : 0 ≤ (x_pv_linkCount).toInt ∧ (x_pv_linkCount).toInt ≤ 210) (hx_pv_stepCount : 0 ≤ (x_pv_stepCount).toInt ∧ (x_pv_stepCount).toInt ≤ 180) (q0 : (j1 : Int) + 1 = (x_pv_stepCount).toInt) (q1 : j1 < ns) (q2 : (x_pv_rowCount).toInt ≤ 359) (q3 : (x_pv_linkCount).toInt ≤ 208) (q4 : (x_pv_rowCount).toInt ≤ nr) (q5 : (x_pv_linkCount).toInt ≤ nl) (hn_pr : PFX nr 361 f_rws ra) (hn_pk : PFX nl 210 f_lks la) (hn_rok : ROK nr ra rf nl la) (hn_lok : LOK nl la lf) (hn_sok : SOK ns sf nr ra nl la) (hn_lvr : LVR (x_pv_rowCount).toInt (x_pv_linkCount).toInt ra rf la) (hn_lvs : LVS (x_pv_rowCount).toInt (x_pv_linkCount).toInt (x_pv_stepCount).toInt vI ra rf la sf) : Met l yX4_rowBehind (Ws yX4_rowBehind cX4_rowBehind 4 (some (.object "OppositePairs$Row"))) (({ frames := 4, cells := ((x_pv_rowCount).toInt.toNat + 1 + (k3 (sf j1).2.1).toNat - nr) + ((x_pv_linkCount).toInt.toNat + (hasb x_pv_options 2).toNat + (k3 (sf j1).2.1).toNat - nl), slots := 7 * ((x_pv_rowCount).toInt.toNat + 1 + (k3 (sf j1).2.1).toNat - nr) + 4 * ((x_pv_linkCount).toInt.toNat + (hasb x_pv_options 2).toNat + (k3 (sf j1).2.1).toNat - nl), locals := 147 } : Room)) (PRE (dC, dI) cls [(cy_rws, .object "OppositePairs$Row"), (cy_lks, .object "OppositePairs$Link")] (wp [(h_pv, .inr (3, (mo186 v_pv (.ref h_rws) (.int x_pv_rowCount) (.ref h_lks) (.int x_pv_linkCount) (.int x_pv_stepCount) (.int x_pv_options) (.int x_pv_longest)))), (h_rws, .inl (cy_rws, 361, .inr (.inr (.inr (.inr f_rws))))), (h_lks, .inl (cy_lks, 210, .inr (.inr (.inr (.inr f_lks)))))] (PL nr ra rf nl la lf ns sa sf)) sz [.ref h_pv, .ref (sa j1)]) (va_Qq (fun (r : Option Nat) (u : (Int32) × (Int32) × (Int32) × (Nat → Option Nat) × (Nat → Option Nat) × (Nat) × (Nat → Nat) × (Nat → RT) × (Nat) × (Nat → Nat) × (Nat → LT)) => (0 ≤ (u.1).toInt ∧ (u.1).toInt ≤ 361) ∧ (0 ≤ (u.2.1).toInt ∧ (u.2.1).toInt ≤ 210) ∧ ((u.1).toInt = (x_pv_rowCount).toInt + 1 + k3 (sf j1).2.1) ∧ ((u.2.1).toInt = (x_pv_linkCount).toInt + hasb x_pv_options 2 + k3 (sf j1).2.1) ∧ (nr ≤ u.2.2.2.2.2.1 ∧ nl ≤ u.2.2.2.2.2.2.2.2.1 ∧ (u.1).toInt ≤ u.2.2.2.2.2.1 ∧ (u.2.1).toInt ≤ u.2.2.2.2.2.2.2.2.1) ∧ (GR2 nr u.2.2.2.2.2.1 (u.1).toInt) ∧ (GR2 nl u.2.2.2.2.2.2.2.2.1 (u.2.1).toInt) ∧ (PFX u.2.2.2.2.2.1 361 u.2.2.2.1 u.2.2.2.2.2.2.1) ∧ (PFX u.2.2.2.2.2.2.2.2.1 210 u.2.2.2.2.1 u.2.2.2.2.2.2.2.2.2.1) ∧ (ROK u.2.2.2.2.2.1 u.2.2.2.2.2.2.1 u.2.2.2.2.2.2.2.1 u.2.2.2.2.2.2.2.2.1 u.2.2.2.2.2.2.2.2.2.1) ∧ (LOK u.2.2.2.2.2.2.2.2.1 u.2.2.2.2.2.2.2.2.2.1 u.2.2.2.2.2.2.2.2.2.2) ∧ (SOK ns sf u.2.2.2.2.2.1 u.2.2.2.2.2.2.1 u.2.2.2.2.2.2.2.2.1 u.2.2.2.2.2.2.2.2.2.1) ∧ (LVR (u.1).toInt (u.2.1).toInt u.2.2.2.2.2.2.1 u.2.2.2.2.2.2.2.1 u.2.2.2.2.2.2.2.2.2.1) ∧ (LVS (u.1).toInt (u.2.1).toInt (x_pv_stepCount).toInt vI u.2.2.2.2.2.2.1 u.2.2.2.2.2.2.2.1 u.2.2.2.2.2.2.2.2.2.1 sf) ∧ (∃ q : Nat, (q : Int) < (u.1).toInt ∧ r = some (u.2.2.2.2.2.2.1 q))) (fun (u : (Int32) × (Int32) × (Int32) × (Nat → Option Nat) × (Nat → Option Nat) × (Nat) × (Nat → Nat) × (Nat → RT) × (Nat) × (Nat → Nat) × (Nat → LT)) (t : State) => va_P (dC, dI) cls (wp [(h_pv, .inr (3, (mo186 v_pv (.ref h_rws) (.int u.1) (.ref h_lks) (.int u.2.1) (.int x_pv_stepCount) (.int x_pv_options) (.int u.2.2.1)))), (h_rws, .inl (cy_rws, 361, .inr (.inr (.inr (.inr u.2.2.2.1))))), (h_lks, .inl (cy_lks, 210, .inr (.inr (.inr (.inr u.2.2.2.2.1)))))] (PL u.2.2.2.2.2.1 u.2.2.2.2.2.2.1 u.2.2.2.2.2.2.2.1 u.2.2.2.2.2.2.2.2.1 u.2.2.2.2.2.2.2.2.2.1 u.2.2.2.2.2.2.2.2.2.2 ns sa sf)) t.heap ∧ va_D (va_A (wp [(h_pv, .inr (3, (mo186 v_pv (.ref h_rws) (.int x_pv_rowCount) (.ref h_lks) (.int x_pv_linkCount) (.int x_pv_stepCount) (.int x_pv_options) (.int x_pv_longest)))), (h_rws, .inl (cy_rws, 361, .inr (.inr (.inr (.inr f_rws))))), (h_lks, .inl (cy_lks, 210, .inr (.inr (.inr (.inr f_lks)))))] (PL nr ra rf nl la lf ns sa sf)) sz) (wp [(h_pv, .inr (3, (mo186 v_pv (.ref h_rws) (.int u.1) (.ref h_lks) (.int u.2.1) (.int x_pv_stepCount) (.int x_pv_options) (.int u.2.2.1)))), (h_rws, .inl (cy_rws, 361, .inr (.inr (.inr (.inr u.2.2.2.1))))), (h_lks, .inl (cy_lks, 210, .inr (.inr (.inr (.inr u.2.2.2.2.1)))))] (PL u.2.2.2.2.2.1 u.2.2.2.2.2.2.1 u.2.2.2.2.2.2.2.1 u.2.2.2.2.2.2.2.2.1 u.2.2.2.2.2.2.2.2.2.1 u.2.2.2.2.2.2.2.2.2.2 ns sa sf))) (va_A (wp [(h_pv, .inr (3, (mo186 v_pv (.ref h_rws) (.int x_pv_rowCount) (.ref h_lks) (.int x_pv_linkCount) (.int x_pv_stepCount) (.int x_pv_options) (.int x_pv_longest)))), (h_rws, .inl (cy_rws, 361, .inr (.inr (.inr (.inr f_rws))))), (h_lks, .inl (cy_lks, 210, .inr (.inr (.inr (.inr f_lks)))))] (PL nr ra rf nl la lf ns sa sf)) sz)) (((x_pv_rowCount).toInt.toNat + 1 + (k3 (sf j1).2.1).toNat - nr) + ((x_pv_linkCount).toInt.toNat + (hasb x_pv_options 2).toNat + (k3 (sf j1).2.1).toNat - nl)) (7 * ((x_pv_rowCount).toInt.toNat + 1 + (k3 (sf j1).2.1).toNat - nr) + 4 * ((x_pv_linkCount).toInt.toNat + (hasb x_pv_options 2).toNat + (k3 (sf j1).2.1).toNat - nl)) (va_A (wp [(h_pv, .inr (3, (mo186 v_pv (.ref h_rws) (.int x_pv_rowCount) (.ref h_lks) (.int x_pv_linkCount) (.int x_pv_stepCount) (.int x_pv_options) (.int x_pv_longest)))), (h_rws, .inl (cy_rws, 361, .inr (.inr (.inr (.inr f_rws))))), (h_lks, .inl (cy_lks, 210, .inr (.inr (.inr (.inr f_lks)))))] (PL nr ra rf nl la lf ns sa sf)) sz) := by
  refine Met.ofW (cc := cX4_rowBehind) (maxL := 4) (ret := (some (.object "OppositePairs$Row"))) (by decide) rfl ?_
  intro p e s m args below meth c s₁ B hml hv
  obtain ⟨rfl, hsz, hP, hK, hD0, hN⟩ := hv
  have hx := B.exec
  have hb := B.bytes
  have hr := B.returns
  have hts := atoms_spec (ws := Ws yX4_rowBehind cX4_rowBehind 4 (some (.object "OppositePairs$Row"))) B.pre
  have hT : ∀ w ∈ WALL, w ∈ Ws yX4_rowBehind cX4_rowBehind 4 (some (.object "OppositePairs$Row")) := fun w h => List.mem_cons_of_mem _ h
  have hw := fun w (h : w ∈ WALL) => hts w (hT w h)
  have hown : s.vm.findClass RX4 = some m.cls := findClass_of_methodNamed B.named
  have hlocks := B.notSynchronized
  subst hsz
  have hD := hD0.self (sz := s.heap.size)
  generalize hAe : va_A (wp [(h_pv, .inr (3, (mo186 v_pv (.ref h_rws) (.int x_pv_rowCount) (.ref h_lks) (.int x_pv_linkCount) (.int x_pv_stepCount) (.int x_pv_options) (.int x_pv_longest)))), (h_rws, .inl (cy_rws, 361, .inr (.inr (.inr (.inr f_rws))))), (h_lks, .inl (cy_lks, 210, .inr (.inr (.inr (.inr f_lks)))))] (PL nr ra rf nl la lf ns sa sf)) s.heap.size = A at hD ⊢
  have hA : ∀ q : Nat, s.heap.size ≤ q → A q := fun q h => by rw [← hAe]; exact Or.inr h
  have hS : va_S A s.heap s.heap [] := va_S.rf
  have hl := lv_entry ([.ref h_pv, .ref (sa j1)]) (n := 4) (Nat.le_of_ble_eq_true rfl)
  rw [lg_entry_eq]
  generalize (lg_sl ([.ref h_pv, .ref (sa j1)]) ++ List.replicate (4 - (lg_sl ([.ref h_pv, .ref (sa j1)])).length) Slot.unset).toArray = ls at hl ⊢
  have hl : lv_has ls 4 [(0, .ref h_pv), (1, .ref (sa j1))] := hl
  obtain ⟨⟨ro, hro, ero, hn5⟩, g92, g93, g94, g95, g96, g97⟩ := hn_lvs j1 (by omega)
  have hb9 := hasb_le x_pv_options 2
  have k39 : 0 ≤ k3 (sf j1).2.1 ∧ k3 (sf j1).2.1 ≤ 1 := by unfold k3; split <;> omega
  refine lv_aload_n hx hb dX4_rowBehind_0 rfl (lv_at hl 0 rfl) ?_
  refine lv_aload_n hx hb dX4_rowBehind_1 rfl (lv_at hl 1 rfl) ?_
  refine va_getN (D := (dC, dI)) (ci := 11) (v := va_rf (sf j1).1) (C := RX7) (T := TX7) (N := 12) (host := "OppositePairs") hx hb hw iwX7 hown hK hP (3 + (nr + (nl + j1))) (pl_S (X := [(h_pv, .inr (3, (mo186 v_pv (.ref h_rws) (.int x_pv_rowCount) (.ref h_lks) (.int x_pv_linkCount) (.int x_pv_stepCount) (.int x_pv_options) (.int x_pv_longest)))), (h_rws, .inl (cy_rws, 361, .inr (.inr (.inr (.inr f_rws))))), (h_lks, .inl (cy_lks, 210, .inr (.inr (.inr (.inr f_lks)))))]) (by omega)) rfl 0 (by decide) (hN.use n_f_X4_185 rfl) (fun _ h9 => h9) rfl dX4_rowBehind_2 ?_
  obtain ⟨o1, eo1⟩ : ∃ o, o = (sf j1).1 := ⟨_, rfl⟩
  rw [← eo1]
  have ero1 : o1 = some (ra ro) := by rw [eo1]; exact ero
  subst ero1
  show W p l e _ s m _ below meth c _ _ _ _ _ (F0 m 5 ls [.ref (ra ro), .ref h_pv])
  obtain ⟨vq2, evq2⟩ := mq186_177 v_pv (.int x_pv_stepCount) (.int x_pv_longest)
  replace hP : va_P (dC, dI) cls (wp [(h_pv, .inr (3, (mo177 vq2 (.ref h_rws) (.int x_pv_rowCount) (.ref h_lks) (.int x_pv_linkCount) (.int x_pv_options)))), (h_rws, .inl (cy_rws, 361, .inr (.inr (.inr (.inr f_rws))))), (h_lks, .inl (cy_lks, 210, .inr (.inr (.inr (.inr f_lks)))))] (PL nr ra rf nl la lf ns sa sf)) s.heap := by rw [evq2]; exact hP
  replace hD : va_D A (wp [(h_pv, .inr (3, (mo177 vq2 (.ref h_rws) (.int x_pv_rowCount) (.ref h_lks) (.int x_pv_linkCount) (.int x_pv_options)))), (h_rws, .inl (cy_rws, 361, .inr (.inr (.inr (.inr f_rws))))), (h_lks, .inl (cy_lks, 210, .inr (.inr (.inr (.inr f_lks)))))] (PL nr ra rf nl la lf ns sa sf)) := by rw [evq2]; exact hD
  have hPc : va_P (dC, dI) cls (wp [(h_pv, .inr (3, (mo177 vq2 (.ref h_rws) (.int x_pv_rowCount) (.ref h_lks) (.int x_pv_linkCount) (.int x_pv_options)))), (h_rws, .inl (cy_rws, 361, .inr (.inr (.inr (.inr f_rws))))), (h_lks, .inl (cy_lks, 210, .inr (.inr (.inr (.inr f_lks)))))] (PL nr ra rf nl la lf ns sa sf)) s.heap := va_P.part (cx := [(h_pv, .inr (3, (mo177 vq2 (.ref h_rws) (.int x_pv_rowCount) (.ref h_lks) (.int x_pv_linkCount) (.int x_pv_options)))), (h_rws, .inl (cy_rws, 361, .inr (.inr (.inr (.inr f_rws))))), (h_lks, .inl (cy_lks, 210, .inr (.inr (.inr (.inr f_lks)))))]) hP [0, 1, 2] rfl
  have hDc : va_D A (wp [(h_pv, .inr (3, (mo177 vq2 (.ref h_rws) (.int x_pv_rowCount) (.ref h_lks) (.int x_pv_linkCount) (.int x_pv_options)))), (h_rws, .inl (cy_rws, 361, .inr (.inr (.inr (.inr f_rws))))), (h_lks, .inl (cy_lks, 210, .inr (.inr (.inr (.inr f_lks)))))] (PL nr ra rf nl la lf ns sa sf)) := va_D.part (cx := [(h_pv, .inr (3, (mo177 vq2 (.ref h_rws) (.int x_pv_rowCount) (.ref h_lks) (.int x_pv_linkCount) (.int x_pv_options)))), (h_rws, .inl (cy_rws, 361, .inr (.inr (.inr (.inr f_rws))))), (h_lks, .inl (cy_lks, 210, .inr (.inr (.inr (.inr f_lks)))))]) hD [0, 1, 2] (by decide) rfl
  have hKc := hK.sub (tys' := [(cy_rws, .object "OppositePairs$Row"), (cy_lks, .object "OppositePairs$Link")]) [0, 1] rfl
  have hFc : ∀ q, va_A (wp [(h_pv, .inr (3, (mo177 vq2 (.ref h_rws) (.int x_pv_rowCount) (.ref h_lks) (.int x_pv_linkCount) (.int x_pv_options)))), (h_rws, .inl (cy_rws, 361, .inr (.inr (.inr (.inr f_rws))))), (h_lks, .inl (cy_lks, 210, .inr (.inr (.inr (.inr f_lks)))))] (PL nr ra rf nl la lf ns sa sf)) s.heap.size q → A q := va_freeP (cx := [(h_pv, .inr (3, (mo177 vq2 (.ref h_rws) (.int x_pv_rowCount) (.ref h_lks) (.int x_pv_linkCount) (.int x_pv_options)))), (h_rws, .inl (cy_rws, 361, .inr (.inr (.inr (.inr f_rws))))), (h_lks, .inl (cy_lks, 210, .inr (.inr (.inr (.inr f_lks)))))]) hD hS hA [0, 1, 2] rfl
  refine va_callq (va_runV (As := [.ref (ra ro)]) (rest := []) ⟨hx, hb, hml, hown, hts⟩ (c_X4_restOf l dC dI s.heap.size h_pv h_rws h_lks nr ra rf nl la lf ns sa sf vq2 x_pv_rowCount x_pv_linkCount x_pv_options cy_rws f_rws cy_lks f_lks ro (by first | exact hx_pv_rowCount | omega) (by first | exact hx_pv_linkCount | omega) (by omega) (by omega) (by omega) (by omega) (by first | exact q4 | omega) (by first | exact q5 | omega) hn_pr hn_pk hn_rok hn_lok (lvr_cast hn_lvr (by first | rfl | omega) (by first | rfl | omega))) (cwV 1 hts (gv hT w_m_X4_259 w_instanceMethod_X4_restOf ws_sel_X4_restOf w_ini_X4 w_code_X4_restOf) rfl rfl rfl (by decide +kernel) ⟨(by dsimp only [headSpec]; omega), (by dsimp only [headSpec]; omega)⟩) ⟨pre_blind, va_recv hK hP (ci := 3) (q0 := 0) rfl rfl, pre_of hPc hKc hDc hN⟩ rfl rfl hl.1 rfl (lv_room (Nat.le_of_ble_eq_true rfl)) dX4_rowBehind_5 ⟨(by dsimp only [headSpec]; omega), (by dsimp only [headSpec]; omega)⟩) hS (fun q _ h => hFc q h) hFc (fun o3 u t H locs ht hvm hq hB hz1 hk1 hS9 => ?_)
  obtain ⟨z4, z5, f6, f7, nr8, ra9, rf10, nl11, la12, lf13⟩ := u
  obtain ⟨hP1, hD1⟩ := hB
  rw [ht] at hP1
  obtain ⟨hP9, hD9⟩ := va_joinP (wr := []) (rx := [(h_pv, .inr (3, (mo177 vq2 (.ref h_rws) (.int z4) (.ref h_lks) (.int z5) (.int x_pv_options)))), (h_rws, .inl (cy_rws, 361, .inr (.inr (.inr (.inr f6))))), (h_lks, .inl (cy_lks, 210, .inr (.inr (.inr (.inr f7)))))]) (cx := [(h_pv, .inr (3, (mo177 vq2 (.ref h_rws) (.int x_pv_rowCount) (.ref h_lks) (.int x_pv_linkCount) (.int x_pv_options)))), (h_rws, .inl (cy_rws, 361, .inr (.inr (.inr (.inr f_rws))))), (h_lks, .inl (cy_lks, 210, .inr (.inr (.inr (.inr f_lks)))))]) hP hD [0, 1, 2] [] rfl rfl (by decide) (by decide) hk1 hFc hP1 hD1
  clear hP hD hS hPc hDc hKc hFc hP1 hD1 hk1 hz1 ht hvm
  have hP : va_P (dC, dI) cls (wp [(h_pv, .inr (3, (mo177 vq2 (.ref h_rws) (.int z4) (.ref h_lks) (.int z5) (.int x_pv_options)))), (h_rws, .inl (cy_rws, 361, .inr (.inr (.inr (.inr f6))))), (h_lks, .inl (cy_lks, 210, .inr (.inr (.inr (.inr f7)))))] (PL nr8 ra9 rf10 nl11 la12 lf13 ns sa sf)) H := hP9
  have hD : va_D A (wp [(h_pv, .inr (3, (mo177 vq2 (.ref h_rws) (.int z4) (.ref h_lks) (.int z5) (.int x_pv_options)))), (h_rws, .inl (cy_rws, 361, .inr (.inr (.inr (.inr f6))))), (h_lks, .inl (cy_lks, 210, .inr (.inr (.inr (.inr f7)))))] (PL nr8 ra9 rf10 nl11 la12 lf13 ns sa sf)) := hD9
  have hS := hS9
  clear hP9 hD9 hS9
  rw [evq2] at hP hD
  replace hP : va_P (dC, dI) cls (wp [(h_pv, .inr (3, (mo186 v_pv (.ref h_rws) (.int z4) (.ref h_lks) (.int z5) (.int x_pv_stepCount) (.int x_pv_options) (.int x_pv_longest)))), (h_rws, .inl (cy_rws, 361, .inr (.inr (.inr (.inr f6))))), (h_lks, .inl (cy_lks, 210, .inr (.inr (.inr (.inr f7)))))] (PL nr8 ra9 rf10 nl11 la12 lf13 ns sa sf)) H := hP
  replace hD : va_D A (wp [(h_pv, .inr (3, (mo186 v_pv (.ref h_rws) (.int z4) (.ref h_lks) (.int z5) (.int x_pv_stepCount) (.int x_pv_options) (.int x_pv_longest)))), (h_rws, .inl (cy_rws, 361, .inr (.inr (.inr (.inr f6))))), (h_lks, .inl (cy_lks, 210, .inr (.inr (.inr (.inr f7)))))] (PL nr8 ra9 rf10 nl11 la12 lf13 ns sa sf)) := hD
  clear evq2 
  obtain ⟨k14, k15, k16, k17, k18, k19, k20, k21, k22, k23, k24, k25, k26, k27, k28, k29⟩ := hq
  replace k14 : 0 ≤ ((z4)).toInt ∧ ((z4)).toInt ≤ 361 := k14
  replace k15 : 0 ≤ ((z5)).toInt ∧ ((z5)).toInt ≤ 210 := k15
  replace k16 : ((z4)).toInt = ((x_pv_rowCount)).toInt + 1 := k16
  replace k17 : ((z5)).toInt = ((x_pv_linkCount)).toInt + hasb (x_pv_options) 2 := k17
  replace k18 : (nr) ≤ (nr8) ∧ (nl) ≤ (nl11) ∧ ((z4)).toInt ≤ (nr8) ∧ ((z5)).toInt ≤ (nl11) := k18
  replace k19 : GR2 (nr) (nr8) ((z4)).toInt := k19
  replace k20 : GR2 (nl) (nl11) ((z5)).toInt := k20
  replace k21 : PFX (nr8) 361 (f6) (ra9) := k21
  replace k22 : PFX (nl11) 210 (f7) (la12) := k22
  replace k23 : ROK (nr8) (ra9) (rf10) (nl11) (la12) := k23
  replace k24 : LOK (nl11) (la12) (lf13) := k24
  replace k25 : LVR (((x_pv_rowCount)).toInt + 1) ((z5)).toInt (ra9) (rf10) (la12) := k25
  replace k26 : ∀ i : Nat, i < (nr) → (ra9) i = (ra) i := k26
  replace k27 : ∀ i : Nat, i < (nl) → (la12) i = (la) i := k27
  replace k28 : ∀ i : Nat, i ≠ ((x_pv_rowCount)).toInt.toNat → (rf10) i = (rf) i := k28
  replace k29 : (o3) = some ((ra9) ((x_pv_rowCount)).toInt.toNat) := k29
  have rto3 := k29
  subst rto3
  show W p l e _ s m _ below meth c _ _ _ _ _ (F0 m 8 ls [.ref (ra9 (x_pv_rowCount).toInt.toNat)])
  have qr9 : ra9 ro = ra ro := k26 ro (by omega)
  have qf9 : rf10 ro = rf ro := k28 ro (by omega)
  refine lv_astore_n (lv' := [(2, .ref (ra9 (x_pv_rowCount).toInt.toNat)), (0, .ref h_pv), (1, .ref (sa j1))]) hx hb dX4_rowBehind_8 rfl hl (by decide) rfl (fun ls hl => ?_)
  refine lv_aload_n hx hb dX4_rowBehind_9 rfl (lv_at hl 2 rfl) ?_
  refine va_getN (D := (dC, dI)) (ci := 11) (v := .int (sf j1).2.1) (C := RX7) (T := TX7) (N := 12) (host := "OppositePairs") hx hb hw iwX7 hown hK hP (3 + (nr8 + (nl11 + j1))) (pl_S (X := [(h_pv, .inr (3, (mo186 v_pv (.ref h_rws) (.int z4) (.ref h_lks) (.int z5) (.int x_pv_stepCount) (.int x_pv_options) (.int x_pv_longest)))), (h_rws, .inl (cy_rws, 361, .inr (.inr (.inr (.inr f6))))), (h_lks, .inl (cy_lks, 210, .inr (.inr (.inr (.inr f7)))))]) (by omega)) rfl 1 (by decide) (hN.use n_f_X4_250 rfl) (fun _ h9 => h9) rfl dX4_rowBehind_10 ?_
  refine lv_topi (fun z30 ez30 => ?_)
  have vz30 : (z30).toInt = ((sf j1).2.1).toInt := by rw [ez30]
  refine lv_iconst (v := 3) hx hb dX4_rowBehind_13 (by decide) ?_
  refine lv_icmp_eq (tgt := 19) hx hb dX4_rowBehind_14 (by decide) (fun c31 => ?_) (fun c31 => ?_)
  · have kc31 := (cv_eq (rfl : (z30).toInt = (z30).toInt) (by decide : (3 : Int32).toInt = 3)).mp c31
    refine lv_aload_n hx hb dX4_rowBehind_19 rfl (lv_at hl 1 rfl) ?_
    refine lv_aload_n hx hb dX4_rowBehind_20 rfl (lv_at hl 2 rfl) ?_
    refine va_getN (D := (dC, dI)) (ci := 11) (v := .int (sf j1).2.2.1) (C := RX7) (T := TX7) (N := 12) (host := "OppositePairs") hx hb hw iwX7 hown hK hP (3 + (nr8 + (nl11 + j1))) (pl_S (X := [(h_pv, .inr (3, (mo186 v_pv (.ref h_rws) (.int z4) (.ref h_lks) (.int z5) (.int x_pv_stepCount) (.int x_pv_options) (.int x_pv_longest)))), (h_rws, .inl (cy_rws, 361, .inr (.inr (.inr (.inr f6))))), (h_lks, .inl (cy_lks, 210, .inr (.inr (.inr (.inr f7)))))]) (by omega)) rfl 2 (by decide) (hN.use n_f_X4_253 rfl) (fun _ h9 => h9) rfl dX4_rowBehind_21 ?_
    refine lv_topi (fun z32 ez32 => ?_)
    have vz32 : (z32).toInt = ((sf j1).2.2.1).toInt := by rw [ez32]
    have rz32 : 0 ≤ (z32).toInt ∧ (z32).toInt ≤ 29 := by rw [ez32]; exact (hn_sok j1 (by omega)).2.1
    refine lv_aload_n hx hb dX4_rowBehind_24 rfl (lv_at hl 2 rfl) ?_
    refine va_getN (D := (dC, dI)) (ci := 11) (v := .int (sf j1).2.2.2.1) (C := RX7) (T := TX7) (N := 12) (host := "OppositePairs") hx hb hw iwX7 hown hK hP (3 + (nr8 + (nl11 + j1))) (pl_S (X := [(h_pv, .inr (3, (mo186 v_pv (.ref h_rws) (.int z4) (.ref h_lks) (.int z5) (.int x_pv_stepCount) (.int x_pv_options) (.int x_pv_longest)))), (h_rws, .inl (cy_rws, 361, .inr (.inr (.inr (.inr f6))))), (h_lks, .inl (cy_lks, 210, .inr (.inr (.inr (.inr f7)))))]) (by omega)) rfl 3 (by decide) (hN.use n_f_X4_256 rfl) (fun _ h9 => h9) rfl dX4_rowBehind_25 ?_
    refine lv_topi (fun z33 ez33 => ?_)
    have vz33 : (z33).toInt = ((sf j1).2.2.2.1).toInt := by rw [ez33]
    have rz33 : 0 ≤ (z33).toInt ∧ (z33).toInt ≤ 5 := by rw [ez33]; exact (hn_sok j1 (by omega)).2.2.1
    refine lv_iconst (v := 0) hx hb dX4_rowBehind_28 (by decide) ?_
    have cst0 : (0 : Int32).toInt = 0 := by decide
    have k31 := k3_yes (x := (sf j1).2.1) (by omega)
    obtain ⟨vq34, evq34⟩ := mq186_175 v_pv (.ref h_lks) (.int z5) (.int x_pv_stepCount) (.int x_pv_options) (.int x_pv_longest)
    replace hP : va_P (dC, dI) cls (wp [(h_pv, .inr (3, (mo175 vq34 (.ref h_rws) (.int z4)))), (h_rws, .inl (cy_rws, 361, .inr (.inr (.inr (.inr f6))))), (h_lks, .inl (cy_lks, 210, .inr (.inr (.inr (.inr f7)))))] (PL nr8 ra9 rf10 nl11 la12 lf13 ns sa sf)) H := by rw [evq34]; exact hP
    replace hD : va_D A (wp [(h_pv, .inr (3, (mo175 vq34 (.ref h_rws) (.int z4)))), (h_rws, .inl (cy_rws, 361, .inr (.inr (.inr (.inr f6))))), (h_lks, .inl (cy_lks, 210, .inr (.inr (.inr (.inr f7)))))] (PL nr8 ra9 rf10 nl11 la12 lf13 ns sa sf)) := by rw [evq34]; exact hD
    have cst0 : (0 : Int32).toInt = 0 := by decide
    have hPc : va_P (dC, dI) cls (wp [(h_pv, .inr (3, (mo175 vq34 (.ref h_rws) (.int z4)))), (h_rws, .inl (cy_rws, 361, .inr (.inr (.inr (.inr f6)))))] (PL nr8 ra9 rf10 nl11 la12 lf13 ns sa sf)) H := va_P.part (cx := [(h_pv, .inr (3, (mo175 vq34 (.ref h_rws) (.int z4)))), (h_rws, .inl (cy_rws, 361, .inr (.inr (.inr (.inr f6)))))]) hP [0, 1] rfl
    have hDc : va_D A (wp [(h_pv, .inr (3, (mo175 vq34 (.ref h_rws) (.int z4)))), (h_rws, .inl (cy_rws, 361, .inr (.inr (.inr (.inr f6)))))] (PL nr8 ra9 rf10 nl11 la12 lf13 ns sa sf)) := va_D.part (cx := [(h_pv, .inr (3, (mo175 vq34 (.ref h_rws) (.int z4)))), (h_rws, .inl (cy_rws, 361, .inr (.inr (.inr (.inr f6)))))]) hD [0, 1] (by decide) rfl
    have hKc := hK.sub (tys' := [(cy_rws, .object "OppositePairs$Row")]) [0] rfl
    have hFc : ∀ q, va_A (wp [(h_pv, .inr (3, (mo175 vq34 (.ref h_rws) (.int z4)))), (h_rws, .inl (cy_rws, 361, .inr (.inr (.inr (.inr f6)))))] (PL nr8 ra9 rf10 nl11 la12 lf13 ns sa sf)) H.size q → A q := va_freeP (cx := [(h_pv, .inr (3, (mo175 vq34 (.ref h_rws) (.int z4)))), (h_rws, .inl (cy_rws, 361, .inr (.inr (.inr (.inr f6)))))]) hD hS hA [0, 1] rfl
    refine va_callq (va_runV (As := [.int z32, .int z33, .int 0]) (rest := []) ⟨hx, hb, hml, hown, hts⟩ (c_X4_newRow l dC dI H.size h_pv h_rws nr8 ra9 rf10 nl11 la12 lf13 ns sa sf vq34 z4 cy_rws f6 z32 z33 0 (by first | exact k14 | omega) (by omega) (by omega) (by omega) (by omega) (by omega) k21 k23) (cwV 3 hts (gv hT w_m_X4_110 w_instanceMethod_X4_newRow ws_sel_X4_newRow w_ini_X4 w_code_X4_newRow) rfl rfl rfl (by decide +kernel) ⟨(by dsimp only [headSpec]; omega), (by dsimp only [headSpec]; omega)⟩) ⟨pre_blind, va_recv hK hP (ci := 3) (q0 := 0) rfl rfl, pre_of hPc hKc hDc hN⟩ rfl rfl hl.1 rfl (lv_room (Nat.le_of_ble_eq_true rfl)) dX4_rowBehind_29 ⟨(by dsimp only [headSpec]; omega), (by dsimp only [headSpec]; omega)⟩) hS (fun q _ h => hFc q h) hFc (fun o35 u t H locs ht hvm hq hB hz1 hk1 hS9 => ?_)
    obtain ⟨z36, f37, nr38, ra39, rf40⟩ := u
    obtain ⟨hP1, hD1⟩ := hB
    rw [ht] at hP1
    obtain ⟨hP9, hD9⟩ := va_joinP (wr := [(h_lks, .inl (cy_lks, 210, .inr (.inr (.inr (.inr f7)))))]) (rx := [(h_pv, .inr (3, (mo175 vq34 (.ref h_rws) (.int z36)))), (h_rws, .inl (cy_rws, 361, .inr (.inr (.inr (.inr f37)))))]) (cx := [(h_pv, .inr (3, (mo175 vq34 (.ref h_rws) (.int z4)))), (h_rws, .inl (cy_rws, 361, .inr (.inr (.inr (.inr f6)))))]) hP hD [0, 1] [2] rfl rfl (by decide) (by decide) hk1 hFc hP1 hD1
    clear hP hD hS hPc hDc hKc hFc hP1 hD1 hk1 hz1 ht hvm
    have hP : va_P (dC, dI) cls (wp [(h_lks, .inl (cy_lks, 210, .inr (.inr (.inr (.inr f7))))), (h_pv, .inr (3, (mo175 vq34 (.ref h_rws) (.int z36)))), (h_rws, .inl (cy_rws, 361, .inr (.inr (.inr (.inr f37)))))] (PL nr38 ra39 rf40 nl11 la12 lf13 ns sa sf)) H := hP9
    have hD : va_D A (wp [(h_lks, .inl (cy_lks, 210, .inr (.inr (.inr (.inr f7))))), (h_pv, .inr (3, (mo175 vq34 (.ref h_rws) (.int z36)))), (h_rws, .inl (cy_rws, 361, .inr (.inr (.inr (.inr f37)))))] (PL nr38 ra39 rf40 nl11 la12 lf13 ns sa sf)) := hD9
    have hS := hS9
    clear hP9 hD9 hS9
    rw [evq34] at hP hD
    replace hP : va_P (dC, dI) cls (wp [(h_lks, .inl (cy_lks, 210, .inr (.inr (.inr (.inr f7))))), (h_pv, .inr (3, (mo186 v_pv (.ref h_rws) (.int z36) (.ref h_lks) (.int z5) (.int x_pv_stepCount) (.int x_pv_options) (.int x_pv_longest)))), (h_rws, .inl (cy_rws, 361, .inr (.inr (.inr (.inr f37)))))] (PL nr38 ra39 rf40 nl11 la12 lf13 ns sa sf)) H := hP
    replace hD : va_D A (wp [(h_lks, .inl (cy_lks, 210, .inr (.inr (.inr (.inr f7))))), (h_pv, .inr (3, (mo186 v_pv (.ref h_rws) (.int z36) (.ref h_lks) (.int z5) (.int x_pv_stepCount) (.int x_pv_options) (.int x_pv_longest)))), (h_rws, .inl (cy_rws, 361, .inr (.inr (.inr (.inr f37)))))] (PL nr38 ra39 rf40 nl11 la12 lf13 ns sa sf)) := hD
    clear evq34 
    obtain ⟨k41, k42, k43, k44, k45, k46, k47, k48, k49⟩ := hq
    replace k41 : 0 ≤ ((z36)).toInt ∧ ((z36)).toInt ≤ 361 := k41
    replace k42 : ((z36)).toInt = ((z4)).toInt + 1 := k42
    replace k43 : (nr8) ≤ (nr38) ∧ ((z4)).toInt + 1 ≤ (nr38) := k43
    replace k44 : GR2 (nr8) (nr38) ((z36)).toInt := k44
    replace k45 : PFX (nr38) 361 (f37) (ra39) := k45
    replace k46 : ROK (nr38) (ra39) (rf40) (nl11) (la12) := k46
    replace k47 : ∀ i : Nat, i < (nr8) → (ra39) i = (ra9) i := k47
    replace k48 : (∀ i : Nat, i ≠ ((z4)).toInt.toNat → (rf40) i = (rf10) i) ∧ ((rf40) ((z4)).toInt.toNat).1 = (z32) ∧ ((rf40) ((z4)).toInt.toNat).2.1 = (z33) ∧ (0 ≤ ((rf40) ((z4)).toInt.toNat).2.2.1.toInt ∧ ((rf40) ((z4)).toInt.toNat).2.2.1.toInt ≤ ((0 : Int32)).toInt + 1) := k48
    replace k49 : (o35) = some ((ra39) ((z4)).toInt.toNat) := k49
    have rto35 := k49
    subst rto35
    show W p l e _ s m _ below meth c _ _ _ _ _ (F0 m 32 ls [.ref (ra39 (z4).toInt.toNat)])
    have qr8 : ra39 ro = ra ro := (k47 ro (by omega)).trans qr9
    have qf8 : rf40 ro = rf ro := (k48.1 ro (by omega)).trans qf9
    refine lv_astore_n (lv' := [(3, .ref (ra39 (z4).toInt.toNat)), (2, .ref (ra9 (x_pv_rowCount).toInt.toNat)), (0, .ref h_pv), (1, .ref (sa j1))]) hx hb dX4_rowBehind_32 rfl hl (by decide) rfl (fun ls hl => ?_)
    refine lv_aload_n hx hb dX4_rowBehind_33 rfl (lv_at hl 0 rfl) ?_
    refine lv_aload_n hx hb dX4_rowBehind_34 rfl (lv_at hl 2 rfl) ?_
    refine lv_aload_n hx hb dX4_rowBehind_35 rfl (lv_at hl 3 rfl) ?_
    refine va_getN (D := (dC, dI)) (ci := 11) (v := va_rf (sf j1).1) (C := RX7) (T := TX7) (N := 12) (host := "OppositePairs") hx hb hw iwX7 hown hK hP (3 + (nr38 + (nl11 + j1))) (pl_S (X := [(h_lks, .inl (cy_lks, 210, .inr (.inr (.inr (.inr f7))))), (h_pv, .inr (3, (mo186 v_pv (.ref h_rws) (.int z36) (.ref h_lks) (.int z5) (.int x_pv_stepCount) (.int x_pv_options) (.int x_pv_longest)))), (h_rws, .inl (cy_rws, 361, .inr (.inr (.inr (.inr f37)))))]) (by omega)) rfl 0 (by decide) (hN.use n_f_X4_185 rfl) (fun _ h9 => h9) rfl dX4_rowBehind_36 ?_
    obtain ⟨o50, eo50⟩ : ∃ o, o = (sf j1).1 := ⟨_, rfl⟩
    rw [← eo50]
    have ero50 : o50 = some (ra ro) := by rw [eo50]; exact ero
    subst ero50
    show W p l e _ s m _ below meth c _ _ _ _ _ (F0 m 39 ls [.ref (ra ro), .ref h_pv, .ref (ra39 (z4).toInt.toNat)])
    refine va_getN (D := (dC, dI)) (ci := 9) (v := .int (rf40 ro).1) (C := RX6) (T := TX6) (N := 7) (host := "OppositePairs") hx hb hw iwX6 hown hK hP (3 + ro) (by rw [← qr8]; exact (pl_R (X := [(h_lks, .inl (cy_lks, 210, .inr (.inr (.inr (.inr f7))))), (h_pv, .inr (3, (mo186 v_pv (.ref h_rws) (.int z36) (.ref h_lks) (.int z5) (.int x_pv_stepCount) (.int x_pv_options) (.int x_pv_longest)))), (h_rws, .inl (cy_rws, 361, .inr (.inr (.inr (.inr f37)))))]) (by omega))) rfl 0 (by decide) (hN.use n_f_X4_140 rfl) (fun _ h9 => h9) rfl dX4_rowBehind_39 ?_
    refine lv_topi (fun z51 ez51 => ?_)
    have vz51 : (z51).toInt = ((rf ro).1).toInt := by rw [ez51, qf8]
    have rz51 : 0 ≤ (z51).toInt ∧ (z51).toInt ≤ 29 := by rw [ez51, qf8]; exact (hn_rok ro (by omega)).1
    refine lv_aload_n hx hb dX4_rowBehind_42 rfl (lv_at hl 3 rfl) ?_
    refine va_getN (D := (dC, dI)) (ci := 11) (v := va_rf (sf j1).1) (C := RX7) (T := TX7) (N := 12) (host := "OppositePairs") hx hb hw iwX7 hown hK hP (3 + (nr38 + (nl11 + j1))) (pl_S (X := [(h_lks, .inl (cy_lks, 210, .inr (.inr (.inr (.inr f7))))), (h_pv, .inr (3, (mo186 v_pv (.ref h_rws) (.int z36) (.ref h_lks) (.int z5) (.int x_pv_stepCount) (.int x_pv_options) (.int x_pv_longest)))), (h_rws, .inl (cy_rws, 361, .inr (.inr (.inr (.inr f37)))))]) (by omega)) rfl 0 (by decide) (hN.use n_f_X4_185 rfl) (fun _ h9 => h9) rfl dX4_rowBehind_43 ?_
    obtain ⟨o52, eo52⟩ : ∃ o, o = (sf j1).1 := ⟨_, rfl⟩
    rw [← eo52]
    have ero52 : o52 = some (ra ro) := by rw [eo52]; exact ero
    subst ero52
    show W p l e _ s m _ below meth c _ _ _ _ _ (F0 m 46 ls [.ref (ra ro), .int z51, .ref h_pv, .ref (ra39 (z4).toInt.toNat)])
    refine va_getN (D := (dC, dI)) (ci := 9) (v := .int (rf40 ro).2.2.1) (C := RX6) (T := TX6) (N := 7) (host := "OppositePairs") hx hb hw iwX6 hown hK hP (3 + ro) (by rw [← qr8]; exact (pl_R (X := [(h_lks, .inl (cy_lks, 210, .inr (.inr (.inr (.inr f7))))), (h_pv, .inr (3, (mo186 v_pv (.ref h_rws) (.int z36) (.ref h_lks) (.int z5) (.int x_pv_stepCount) (.int x_pv_options) (.int x_pv_longest)))), (h_rws, .inl (cy_rws, 361, .inr (.inr (.inr (.inr f37)))))]) (by omega))) rfl 2 (by decide) (hN.use n_f_X4_137 rfl) (fun _ h9 => h9) rfl dX4_rowBehind_46 ?_
    refine lv_topi (fun z53 ez53 => ?_)
    have vz53 : (z53).toInt = ((rf ro).2.2.1).toInt := by rw [ez53, qf8]
    have rz53 : 0 ≤ (z53).toInt ∧ (z53).toInt ≤ 7 := by rw [ez53, qf8]; exact (hn_rok ro (by omega)).2.2.1
    refine lv_aload_n hx hb dX4_rowBehind_49 rfl (lv_at hl 3 rfl) ?_
    refine va_getN (D := (dC, dI)) (ci := 11) (v := va_rf (sf j1).1) (C := RX7) (T := TX7) (N := 12) (host := "OppositePairs") hx hb hw iwX7 hown hK hP (3 + (nr38 + (nl11 + j1))) (pl_S (X := [(h_lks, .inl (cy_lks, 210, .inr (.inr (.inr (.inr f7))))), (h_pv, .inr (3, (mo186 v_pv (.ref h_rws) (.int z36) (.ref h_lks) (.int z5) (.int x_pv_stepCount) (.int x_pv_options) (.int x_pv_longest)))), (h_rws, .inl (cy_rws, 361, .inr (.inr (.inr (.inr f37)))))]) (by omega)) rfl 0 (by decide) (hN.use n_f_X4_185 rfl) (fun _ h9 => h9) rfl dX4_rowBehind_50 ?_
    obtain ⟨o54, eo54⟩ : ∃ o, o = (sf j1).1 := ⟨_, rfl⟩
    rw [← eo54]
    have ero54 : o54 = some (ra ro) := by rw [eo54]; exact ero
    subst ero54
    show W p l e _ s m _ below meth c _ _ _ _ _ (F0 m 53 ls [.ref (ra ro), .int z53, .int z51, .ref h_pv, .ref (ra39 (z4).toInt.toNat)])
    refine va_getN (D := (dC, dI)) (ci := 9) (v := va_rf (rf40 ro).2.2.2.1) (C := RX6) (T := TX6) (N := 7) (host := "OppositePairs") hx hb hw iwX6 hown hK hP (3 + ro) (by rw [← qr8]; exact (pl_R (X := [(h_lks, .inl (cy_lks, 210, .inr (.inr (.inr (.inr f7))))), (h_pv, .inr (3, (mo186 v_pv (.ref h_rws) (.int z36) (.ref h_lks) (.int z5) (.int x_pv_stepCount) (.int x_pv_options) (.int x_pv_longest)))), (h_rws, .inl (cy_rws, 361, .inr (.inr (.inr (.inr f37)))))]) (by omega))) rfl 3 (by decide) (hN.use n_f_X4_114 rfl) (fun _ h9 => h9) rfl dX4_rowBehind_53 ?_
    obtain ⟨o55, eo55⟩ : ∃ o, o = (rf40 ro).2.2.2.1 := ⟨_, rfl⟩
    rw [← eo55]
    have pp9 : PB la (x_pv_linkCount).toInt o55 := by rw [eo55, qf8]; exact (hn_lvr ro (by omega)).1
    have pq9 : PB la12 (z5).toInt o55 := pb_mono pp9 (by omega) (fun m hm => k27 m (by omega))
    obtain ⟨vq56, evq56⟩ := mq186_176 v_pv (.ref h_rws) (.int z36) (.int x_pv_stepCount) (.int x_pv_options) (.int x_pv_longest)
    replace hP : va_P (dC, dI) cls (wp [(h_lks, .inl (cy_lks, 210, .inr (.inr (.inr (.inr f7))))), (h_pv, .inr (3, (mo176 vq56 (.ref h_lks) (.int z5)))), (h_rws, .inl (cy_rws, 361, .inr (.inr (.inr (.inr f37)))))] (PL nr38 ra39 rf40 nl11 la12 lf13 ns sa sf)) H := by rw [evq56]; exact hP
    replace hD : va_D A (wp [(h_lks, .inl (cy_lks, 210, .inr (.inr (.inr (.inr f7))))), (h_pv, .inr (3, (mo176 vq56 (.ref h_lks) (.int z5)))), (h_rws, .inl (cy_rws, 361, .inr (.inr (.inr (.inr f37)))))] (PL nr38 ra39 rf40 nl11 la12 lf13 ns sa sf)) := by rw [evq56]; exact hD
    have hPc : va_P (dC, dI) cls (wp [(h_pv, .inr (3, (mo176 vq56 (.ref h_lks) (.int z5)))), (h_lks, .inl (cy_lks, 210, .inr (.inr (.inr (.inr f7)))))] (PL nr38 ra39 rf40 nl11 la12 lf13 ns sa sf)) H := va_P.part (cx := [(h_pv, .inr (3, (mo176 vq56 (.ref h_lks) (.int z5)))), (h_lks, .inl (cy_lks, 210, .inr (.inr (.inr (.inr f7)))))]) hP [1, 0] rfl
    have hDc : va_D A (wp [(h_pv, .inr (3, (mo176 vq56 (.ref h_lks) (.int z5)))), (h_lks, .inl (cy_lks, 210, .inr (.inr (.inr (.inr f7)))))] (PL nr38 ra39 rf40 nl11 la12 lf13 ns sa sf)) := va_D.part (cx := [(h_pv, .inr (3, (mo176 vq56 (.ref h_lks) (.int z5)))), (h_lks, .inl (cy_lks, 210, .inr (.inr (.inr (.inr f7)))))]) hD [1, 0] (by decide) rfl
    have hKc := hK.sub (tys' := [(cy_lks, .object "OppositePairs$Link")]) [1] rfl
    have hFc : ∀ q, va_A (wp [(h_pv, .inr (3, (mo176 vq56 (.ref h_lks) (.int z5)))), (h_lks, .inl (cy_lks, 210, .inr (.inr (.inr (.inr f7)))))] (PL nr38 ra39 rf40 nl11 la12 lf13 ns sa sf)) H.size q → A q := va_freeP (cx := [(h_pv, .inr (3, (mo176 vq56 (.ref h_lks) (.int z5)))), (h_lks, .inl (cy_lks, 210, .inr (.inr (.inr (.inr f7)))))]) hD hS hA [1, 0] rfl
    refine va_callq (va_runV (As := [.int z51, .int z53, va_rf o55]) (rest := [.ref (ra39 (z4).toInt.toNat)]) ⟨hx, hb, hml, hown, hts⟩ (c_X4_newLink l dC dI H.size h_pv h_lks nr38 ra39 rf40 nl11 la12 lf13 ns sa sf vq56 z5 cy_lks f7 z51 z53 o55 (by first | exact k15 | omega) (by omega) (by omega) (by omega) (by omega) k22 k24 pq9) (cwV 3 hts (gv hT w_m_X4_262 w_instanceMethod_X4_newLink ws_sel_X4_newLink w_ini_X4 w_code_X4_newLink) rfl rfl rfl (by decide +kernel) ⟨(by dsimp only [headSpec]; omega), (by dsimp only [headSpec]; omega)⟩) ⟨pre_blind, va_recv hK hP (ci := 3) (q0 := 1) rfl rfl, pre_of hPc hKc hDc hN⟩ rfl rfl hl.1 rfl (lv_room (Nat.le_of_ble_eq_true rfl)) dX4_rowBehind_56 ⟨(by dsimp only [headSpec]; omega), (by dsimp only [headSpec]; omega)⟩) hS (fun q _ h => hFc q h) hFc (fun o57 u t H locs ht hvm hq hB hz1 hk1 hS9 => ?_)
    obtain ⟨z58, f59, nl60, la61, lf62⟩ := u
    obtain ⟨hP1, hD1⟩ := hB
    rw [ht] at hP1
    obtain ⟨hP9, hD9⟩ := va_joinP (wr := [(h_rws, .inl (cy_rws, 361, .inr (.inr (.inr (.inr f37)))))]) (rx := [(h_pv, .inr (3, (mo176 vq56 (.ref h_lks) (.int z58)))), (h_lks, .inl (cy_lks, 210, .inr (.inr (.inr (.inr f59)))))]) (cx := [(h_pv, .inr (3, (mo176 vq56 (.ref h_lks) (.int z5)))), (h_lks, .inl (cy_lks, 210, .inr (.inr (.inr (.inr f7)))))]) hP hD [1, 0] [2] rfl rfl (by decide) (by decide) hk1 hFc hP1 hD1
    clear hP hD hS hPc hDc hKc hFc hP1 hD1 hk1 hz1 ht hvm
    have hP : va_P (dC, dI) cls (wp [(h_rws, .inl (cy_rws, 361, .inr (.inr (.inr (.inr f37))))), (h_pv, .inr (3, (mo176 vq56 (.ref h_lks) (.int z58)))), (h_lks, .inl (cy_lks, 210, .inr (.inr (.inr (.inr f59)))))] (PL nr38 ra39 rf40 nl60 la61 lf62 ns sa sf)) H := hP9
    have hD : va_D A (wp [(h_rws, .inl (cy_rws, 361, .inr (.inr (.inr (.inr f37))))), (h_pv, .inr (3, (mo176 vq56 (.ref h_lks) (.int z58)))), (h_lks, .inl (cy_lks, 210, .inr (.inr (.inr (.inr f59)))))] (PL nr38 ra39 rf40 nl60 la61 lf62 ns sa sf)) := hD9
    have hS := hS9
    clear hP9 hD9 hS9
    rw [evq56] at hP hD
    replace hP : va_P (dC, dI) cls (wp [(h_rws, .inl (cy_rws, 361, .inr (.inr (.inr (.inr f37))))), (h_pv, .inr (3, (mo186 v_pv (.ref h_rws) (.int z36) (.ref h_lks) (.int z58) (.int x_pv_stepCount) (.int x_pv_options) (.int x_pv_longest)))), (h_lks, .inl (cy_lks, 210, .inr (.inr (.inr (.inr f59)))))] (PL nr38 ra39 rf40 nl60 la61 lf62 ns sa sf)) H := hP
    replace hD : va_D A (wp [(h_rws, .inl (cy_rws, 361, .inr (.inr (.inr (.inr f37))))), (h_pv, .inr (3, (mo186 v_pv (.ref h_rws) (.int z36) (.ref h_lks) (.int z58) (.int x_pv_stepCount) (.int x_pv_options) (.int x_pv_longest)))), (h_lks, .inl (cy_lks, 210, .inr (.inr (.inr (.inr f59)))))] (PL nr38 ra39 rf40 nl60 la61 lf62 ns sa sf)) := hD
    clear evq56 
    obtain ⟨k63, k64, k65, k66, k67, k68, k69, k70, k71⟩ := hq
    replace k63 : 0 ≤ ((z58)).toInt ∧ ((z58)).toInt ≤ 210 := k63
    replace k64 : ((z58)).toInt = ((z5)).toInt + 1 := k64
    replace k65 : (nl11) ≤ (nl60) ∧ ((z5)).toInt + 1 ≤ (nl60) := k65
    replace k66 : GR2 (nl11) (nl60) ((z58)).toInt := k66
    replace k67 : PFX (nl60) 210 (f59) (la61) := k67
    replace k68 : LOK (nl60) (la61) (lf62) := k68
    replace k69 : ∀ i : Nat, i < (nl11) → (la61) i = (la12) i := k69
    replace k70 : ∀ i : Nat, i ≠ ((z5)).toInt.toNat → (lf62) i = (lf13) i := k70
    replace k71 : (o57) = some ((la61) ((z5)).toInt.toNat) := k71
    have rto57 := k71
    subst rto57
    show W p l e _ s m _ below meth c _ _ _ _ _ (F0 m 59 ls [.ref (la61 (z5).toInt.toNat), .ref (ra39 (z4).toInt.toNat)])
    show W p l e _ s m _ below meth c _ _ _ _ _ (F0 m 59 _ (va_rf (some (la61 (z5).toInt.toNat)) :: _))
    refine va_putN (D := (dC, dI)) (ci := 9) (v := (va_rf (some (la61 (z5).toInt.toNat)))) (ty := tyX6 3) (C := RX6) (T := TX6) (N := 7) (host := "OppositePairs") hx hb hw iwX6 tyX6 tyX6_ok nmX6 hown hK hP hD hS (3 + (z4).toInt.toNat) (pl_R (X := [(h_rws, .inl (cy_rws, 361, .inr (.inr (.inr (.inr f37))))), (h_pv, .inr (3, (mo186 v_pv (.ref h_rws) (.int z36) (.ref h_lks) (.int z58) (.int x_pv_stepCount) (.int x_pv_options) (.int x_pv_longest)))), (h_lks, .inl (cy_lks, 210, .inr (.inr (.inr (.inr f59)))))]) (by omega)) rfl 3 (by decide) (hN.use n_f_X4_114 rfl) (fun _ h9 => h9) rfl (tyX6_ok 3 (by decide)) (rf_nar (some (la61 (z5).toInt.toNat)) _) (rf_fit (some (la61 (z5).toInt.toNat)) _) (Nat.le_of_ble_eq_true rfl) dX4_rowBehind_59 (fun H locs hP hD hS => ?_)
    have hP : va_P (dC, dI) cls (wp [(h_rws, .inl (cy_rws, 361, .inr (.inr (.inr (.inr f37))))), (h_pv, .inr (3, (mo186 v_pv (.ref h_rws) (.int z36) (.ref h_lks) (.int z58) (.int x_pv_stepCount) (.int x_pv_options) (.int x_pv_longest)))), (h_lks, .inl (cy_lks, 210, .inr (.inr (.inr (.inr f59)))))] (PL nr38 ra39 (va_up rf40 (z4).toInt.toNat ((rf40 (z4).toInt.toNat).1, (rf40 (z4).toInt.toNat).2.1, (rf40 (z4).toInt.toNat).2.2.1, (some (la61 (z5).toInt.toNat)), (rf40 (z4).toInt.toNat).2.2.2.2.1, (rf40 (z4).toInt.toNat).2.2.2.2.2.1, (rf40 (z4).toInt.toNat).2.2.2.2.2.2)) nl60 la61 lf62 ns sa sf)) H := by rw [← pl_setR (i := (z4).toInt.toNat) (by omega)]; exact hP
    have hD : va_D A (wp [(h_rws, .inl (cy_rws, 361, .inr (.inr (.inr (.inr f37))))), (h_pv, .inr (3, (mo186 v_pv (.ref h_rws) (.int z36) (.ref h_lks) (.int z58) (.int x_pv_stepCount) (.int x_pv_options) (.int x_pv_longest)))), (h_lks, .inl (cy_lks, 210, .inr (.inr (.inr (.inr f59)))))] (PL nr38 ra39 (va_up rf40 (z4).toInt.toNat ((rf40 (z4).toInt.toNat).1, (rf40 (z4).toInt.toNat).2.1, (rf40 (z4).toInt.toNat).2.2.1, (some (la61 (z5).toInt.toNat)), (rf40 (z4).toInt.toNat).2.2.2.2.1, (rf40 (z4).toInt.toNat).2.2.2.2.2.1, (rf40 (z4).toInt.toNat).2.2.2.2.2.2)) nl60 la61 lf62 ns sa sf)) := by rw [← pl_setR (i := (z4).toInt.toNat) (by omega)]; exact hD
    refine lv_aload_n hx hb dX4_rowBehind_62 rfl (lv_at hl 0 rfl) ?_
    refine lv_aload_n hx hb dX4_rowBehind_63 rfl (lv_at hl 3 rfl) ?_
    refine va_getN (D := (dC, dI)) (ci := 11) (v := va_rf (sf j1).1) (C := RX7) (T := TX7) (N := 12) (host := "OppositePairs") hx hb hw iwX7 hown hK hP (3 + (nr38 + (nl60 + j1))) (pl_S (X := [(h_rws, .inl (cy_rws, 361, .inr (.inr (.inr (.inr f37))))), (h_pv, .inr (3, (mo186 v_pv (.ref h_rws) (.int z36) (.ref h_lks) (.int z58) (.int x_pv_stepCount) (.int x_pv_options) (.int x_pv_longest)))), (h_lks, .inl (cy_lks, 210, .inr (.inr (.inr (.inr f59)))))]) (by omega)) rfl 0 (by decide) (hN.use n_f_X4_185 rfl) (fun _ h9 => h9) rfl dX4_rowBehind_64 ?_
    obtain ⟨o72, eo72⟩ : ∃ o, o = (sf j1).1 := ⟨_, rfl⟩
    rw [← eo72]
    have ero72 : o72 = some (ra ro) := by rw [eo72]; exact ero
    subst ero72
    show W p l e _ s m _ below meth c _ _ _ _ _ (F0 m 67 ls [.ref (ra ro), .ref (ra39 (z4).toInt.toNat)])
    refine va_getN (D := (dC, dI)) (ci := 9) (v := va_rf (rf40 ro).2.2.2.2.1) (C := RX6) (T := TX6) (N := 7) (host := "OppositePairs") hx hb hw iwX6 hown hK hP (3 + ro) (by rw [← qr8]; exact (pl_R3 (X := [(h_rws, .inl (cy_rws, 361, .inr (.inr (.inr (.inr f37))))), (h_pv, .inr (3, (mo186 v_pv (.ref h_rws) (.int z36) (.ref h_lks) (.int z58) (.int x_pv_stepCount) (.int x_pv_options) (.int x_pv_longest)))), (h_lks, .inl (cy_lks, 210, .inr (.inr (.inr (.inr f59)))))]) (by omega) (by omega))) rfl 4 (by decide) (hN.use n_f_X4_118 rfl) (fun _ h9 => h9) rfl dX4_rowBehind_67 ?_
    obtain ⟨o73, eo73⟩ : ∃ o, o = (rf40 ro).2.2.2.2.1 := ⟨_, rfl⟩
    rw [← eo73]
    have py9 : PB la (x_pv_linkCount).toInt o73 := by rw [eo73, qf8]; exact (hn_lvr ro (by omega)).2.1
    refine va_putN (D := (dC, dI)) (ci := 9) (v := (va_rf o73)) (ty := tyX6 4) (C := RX6) (T := TX6) (N := 7) (host := "OppositePairs") hx hb hw iwX6 tyX6 tyX6_ok nmX6 hown hK hP hD hS (3 + (z4).toInt.toNat) (pl_R2 (X := [(h_rws, .inl (cy_rws, 361, .inr (.inr (.inr (.inr f37))))), (h_pv, .inr (3, (mo186 v_pv (.ref h_rws) (.int z36) (.ref h_lks) (.int z58) (.int x_pv_stepCount) (.int x_pv_options) (.int x_pv_longest)))), (h_lks, .inl (cy_lks, 210, .inr (.inr (.inr (.inr f59)))))]) (by omega)) rfl 4 (by decide) (hN.use n_f_X4_118 rfl) (fun _ h9 => h9) rfl (tyX6_ok 4 (by decide)) (rf_nar o73 _) (rf_fit o73 _) (Nat.le_of_ble_eq_true rfl) dX4_rowBehind_70 (fun H locs hP hD hS => ?_)
    have hP : va_P (dC, dI) cls (wp [(h_rws, .inl (cy_rws, 361, .inr (.inr (.inr (.inr f37))))), (h_pv, .inr (3, (mo186 v_pv (.ref h_rws) (.int z36) (.ref h_lks) (.int z58) (.int x_pv_stepCount) (.int x_pv_options) (.int x_pv_longest)))), (h_lks, .inl (cy_lks, 210, .inr (.inr (.inr (.inr f59)))))] (PL nr38 ra39 (va_up rf40 (z4).toInt.toNat ((rf40 (z4).toInt.toNat).1, (rf40 (z4).toInt.toNat).2.1, (rf40 (z4).toInt.toNat).2.2.1, (some (la61 (z5).toInt.toNat)), o73, (rf40 (z4).toInt.toNat).2.2.2.2.2.1, (rf40 (z4).toInt.toNat).2.2.2.2.2.2)) nl60 la61 lf62 ns sa sf)) H := by rw [← pl_setR2 (i := (z4).toInt.toNat) (by omega)]; exact hP
    have hD : va_D A (wp [(h_rws, .inl (cy_rws, 361, .inr (.inr (.inr (.inr f37))))), (h_pv, .inr (3, (mo186 v_pv (.ref h_rws) (.int z36) (.ref h_lks) (.int z58) (.int x_pv_stepCount) (.int x_pv_options) (.int x_pv_longest)))), (h_lks, .inl (cy_lks, 210, .inr (.inr (.inr (.inr f59)))))] (PL nr38 ra39 (va_up rf40 (z4).toInt.toNat ((rf40 (z4).toInt.toNat).1, (rf40 (z4).toInt.toNat).2.1, (rf40 (z4).toInt.toNat).2.2.1, (some (la61 (z5).toInt.toNat)), o73, (rf40 (z4).toInt.toNat).2.2.2.2.2.1, (rf40 (z4).toInt.toNat).2.2.2.2.2.2)) nl60 la61 lf62 ns sa sf)) := by rw [← pl_setR2 (i := (z4).toInt.toNat) (by omega)]; exact hD
    refine lv_aload_n hx hb dX4_rowBehind_73 rfl (lv_at hl 0 rfl) ?_
    refine lv_aload_n hx hb dX4_rowBehind_74 rfl (lv_at hl 1 rfl) ?_
    show W p l e _ s m _ below meth c _ _ _ _ _ (F0 m 75 _ (va_rf (some (ra9 (x_pv_rowCount).toInt.toNat)) :: _))
    refine va_putN (D := (dC, dI)) (ci := 9) (v := (va_rf (some (ra9 (x_pv_rowCount).toInt.toNat)))) (ty := tyX6 5) (C := RX6) (T := TX6) (N := 7) (host := "OppositePairs") hx hb hw iwX6 tyX6 tyX6_ok nmX6 hown hK hP hD hS (3 + (z4).toInt.toNat) (pl_R2 (X := [(h_rws, .inl (cy_rws, 361, .inr (.inr (.inr (.inr f37))))), (h_pv, .inr (3, (mo186 v_pv (.ref h_rws) (.int z36) (.ref h_lks) (.int z58) (.int x_pv_stepCount) (.int x_pv_options) (.int x_pv_longest)))), (h_lks, .inl (cy_lks, 210, .inr (.inr (.inr (.inr f59)))))]) (by omega)) rfl 5 (by decide) (hN.use n_f_X4_121 rfl) (fun _ h9 => h9) rfl (tyX6_ok 5 (by decide)) (rf_nar (some (ra9 (x_pv_rowCount).toInt.toNat)) _) (rf_fit (some (ra9 (x_pv_rowCount).toInt.toNat)) _) (Nat.le_of_ble_eq_true rfl) dX4_rowBehind_75 (fun H locs hP hD hS => ?_)
    have hP : va_P (dC, dI) cls (wp [(h_rws, .inl (cy_rws, 361, .inr (.inr (.inr (.inr f37))))), (h_pv, .inr (3, (mo186 v_pv (.ref h_rws) (.int z36) (.ref h_lks) (.int z58) (.int x_pv_stepCount) (.int x_pv_options) (.int x_pv_longest)))), (h_lks, .inl (cy_lks, 210, .inr (.inr (.inr (.inr f59)))))] (PL nr38 ra39 (va_up rf40 (z4).toInt.toNat ((rf40 (z4).toInt.toNat).1, (rf40 (z4).toInt.toNat).2.1, (rf40 (z4).toInt.toNat).2.2.1, (some (la61 (z5).toInt.toNat)), o73, (some (ra9 (x_pv_rowCount).toInt.toNat)), (rf40 (z4).toInt.toNat).2.2.2.2.2.2)) nl60 la61 lf62 ns sa sf)) H := by rw [← pl_setR2 (i := (z4).toInt.toNat) (by omega)]; exact hP
    have hD : va_D A (wp [(h_rws, .inl (cy_rws, 361, .inr (.inr (.inr (.inr f37))))), (h_pv, .inr (3, (mo186 v_pv (.ref h_rws) (.int z36) (.ref h_lks) (.int z58) (.int x_pv_stepCount) (.int x_pv_options) (.int x_pv_longest)))), (h_lks, .inl (cy_lks, 210, .inr (.inr (.inr (.inr f59)))))] (PL nr38 ra39 (va_up rf40 (z4).toInt.toNat ((rf40 (z4).toInt.toNat).1, (rf40 (z4).toInt.toNat).2.1, (rf40 (z4).toInt.toNat).2.2.1, (some (la61 (z5).toInt.toNat)), o73, (some (ra9 (x_pv_rowCount).toInt.toNat)), (rf40 (z4).toInt.toNat).2.2.2.2.2.2)) nl60 la61 lf62 ns sa sf)) := by rw [← pl_setR2 (i := (z4).toInt.toNat) (by omega)]; exact hD
    refine lv_aload_n hx hb dX4_rowBehind_78 rfl (lv_at hl 0 rfl) ?_
    refine lv_aload_n hx hb dX4_rowBehind_79 rfl (lv_at hl 2 rfl) ?_
    refine va_get (D := (dC, dI)) (ci := 3) (v := .int x_pv_stepCount) (C := RX4) (T := TX4) (N := 18) hx hb hw iwX4 hown hK hP 1 rfl rfl 7 (by decide) (hw _ w_f_X4_88) (fun _ h9 => h9) rfl dX4_rowBehind_80 ?_
    refine lv_iconst (v := 1) hx hb dX4_rowBehind_83 (by decide) ?_
    refine lv_isub hx hb dX4_rowBehind_84 ?_
    refine lv_topi (fun z74 ez74 => ?_)
    have tz74 : (z74).toInt = (x_pv_stepCount).toInt - 1 := by rw [ez74]; exact i_sub rfl (by decide) (by omega)
    refine va_putN (D := (dC, dI)) (ci := 9) (v := .int z74) (ty := tyX6 6) (C := RX6) (T := TX6) (N := 7) (host := "OppositePairs") hx hb hw iwX6 tyX6 tyX6_ok nmX6 hown hK hP hD hS (3 + (z4).toInt.toNat) (pl_R2 (X := [(h_rws, .inl (cy_rws, 361, .inr (.inr (.inr (.inr f37))))), (h_pv, .inr (3, (mo186 v_pv (.ref h_rws) (.int z36) (.ref h_lks) (.int z58) (.int x_pv_stepCount) (.int x_pv_options) (.int x_pv_longest)))), (h_lks, .inl (cy_lks, 210, .inr (.inr (.inr (.inr f59)))))]) (by omega)) rfl 6 (by decide) (hN.use n_f_X4_125 rfl) (fun _ h9 => h9) rfl (tyX6_ok 6 (by decide)) rfl rfl (Nat.le_of_ble_eq_true rfl) dX4_rowBehind_85 (fun H locs hP hD hS => ?_)
    have hP : va_P (dC, dI) cls (wp [(h_rws, .inl (cy_rws, 361, .inr (.inr (.inr (.inr f37))))), (h_pv, .inr (3, (mo186 v_pv (.ref h_rws) (.int z36) (.ref h_lks) (.int z58) (.int x_pv_stepCount) (.int x_pv_options) (.int x_pv_longest)))), (h_lks, .inl (cy_lks, 210, .inr (.inr (.inr (.inr f59)))))] (PL nr38 ra39 (va_up rf40 (z4).toInt.toNat ((rf40 (z4).toInt.toNat).1, (rf40 (z4).toInt.toNat).2.1, (rf40 (z4).toInt.toNat).2.2.1, (some (la61 (z5).toInt.toNat)), o73, (some (ra9 (x_pv_rowCount).toInt.toNat)), z74)) nl60 la61 lf62 ns sa sf)) H := by rw [← pl_setR2 (i := (z4).toInt.toNat) (by omega)]; exact hP
    have hD : va_D A (wp [(h_rws, .inl (cy_rws, 361, .inr (.inr (.inr (.inr f37))))), (h_pv, .inr (3, (mo186 v_pv (.ref h_rws) (.int z36) (.ref h_lks) (.int z58) (.int x_pv_stepCount) (.int x_pv_options) (.int x_pv_longest)))), (h_lks, .inl (cy_lks, 210, .inr (.inr (.inr (.inr f59)))))] (PL nr38 ra39 (va_up rf40 (z4).toInt.toNat ((rf40 (z4).toInt.toNat).1, (rf40 (z4).toInt.toNat).2.1, (rf40 (z4).toInt.toNat).2.2.1, (some (la61 (z5).toInt.toNat)), o73, (some (ra9 (x_pv_rowCount).toInt.toNat)), z74)) nl60 la61 lf62 ns sa sf)) := by rw [← pl_setR2 (i := (z4).toInt.toNat) (by omega)]; exact hD
    refine lv_aload_n hx hb dX4_rowBehind_88 rfl (lv_at hl 2 rfl) ?_
    refine lv_aload_n hx hb dX4_rowBehind_89 rfl (lv_at hl 2 rfl) ?_
    refine va_get (D := (dC, dI)) (ci := 3) (v := .int x_pv_longest) (C := RX4) (T := TX4) (N := 18) hx hb hw iwX4 hown hK hP 1 rfl rfl 13 (by decide) (hw _ w_f_X4_49) (fun _ h9 => h9) rfl dX4_rowBehind_90 ?_
    refine lv_aload_n hx hb dX4_rowBehind_93 rfl (lv_at hl 0 rfl) ?_
    refine va_getN (D := (dC, dI)) (ci := 9) (v := .ref (la61 (z5).toInt.toNat)) (C := RX6) (T := TX6) (N := 7) (host := "OppositePairs") hx hb hw iwX6 hown hK hP (3 + (z4).toInt.toNat) (pl_R2 (X := [(h_rws, .inl (cy_rws, 361, .inr (.inr (.inr (.inr f37))))), (h_pv, .inr (3, (mo186 v_pv (.ref h_rws) (.int z36) (.ref h_lks) (.int z58) (.int x_pv_stepCount) (.int x_pv_options) (.int x_pv_longest)))), (h_lks, .inl (cy_lks, 210, .inr (.inr (.inr (.inr f59)))))]) (by omega)) rfl 3 (by decide) (hN.use n_f_X4_114 rfl) (fun _ h9 => h9) rfl dX4_rowBehind_94 ?_
    refine va_getN (D := (dC, dI)) (ci := 10) (v := .int (lf62 (z5).toInt.toNat).2.2.1) (C := RX2) (T := TX2) (N := 4) (host := "OppositePairs") hx hb hw iwX2 hown hK hP (3 + (nr38 + (z5).toInt.toNat)) (pl_L (X := [(h_rws, .inl (cy_rws, 361, .inr (.inr (.inr (.inr f37))))), (h_pv, .inr (3, (mo186 v_pv (.ref h_rws) (.int z36) (.ref h_lks) (.int z58) (.int x_pv_stepCount) (.int x_pv_options) (.int x_pv_longest)))), (h_lks, .inl (cy_lks, 210, .inr (.inr (.inr (.inr f59)))))]) (by omega)) rfl 2 (by decide) (hN.use n_f_X4_266 rfl) (fun _ h9 => h9) rfl dX4_rowBehind_97 ?_
    refine lv_topi (fun z75 ez75 => ?_)
    have vz75 : (z75).toInt = ((lf62 (z5).toInt.toNat).2.2.1).toInt := by rw [ez75]
    refine va_mmax hx hb (hml.trans hl.1.symm) hown (hw _ w_m_X4_269) (hw _ w_mst_max) (hw _ w_ini_Math) (hw _ w_mcd_max) (Nat.le_of_ble_eq_true rfl) (Nat.le_of_ble_eq_true rfl) (by dsimp only [headSpec]; omega) (by dsimp only [headSpec]; omega) dX4_rowBehind_100 ?_
    refine lv_topi (fun z76 ez76 => ?_)
    have tz76 := i_max (x := x_pv_longest) (y := z75) (rfl : (x_pv_longest).toInt = (x_pv_longest).toInt) (rfl : (z75).toInt = (z75).toInt)
    rw [← ez76] at tz76
    refine va_put (D := (dC, dI)) (ci := 3) (v := .int z76) (ty := tyX4 13) (C := RX4) (T := TX4) (N := 18) hx hb hw iwX4 tyX4 tyX4_ok nmX4 hown hK hP hD hS 1 rfl rfl 13 (by decide) (hw _ w_f_X4_49) (fun _ h9 => h9) rfl (tyX4_ok 13 (by decide)) rfl rfl (Nat.le_of_ble_eq_true rfl) dX4_rowBehind_103 (fun H locs hP9 hD9 hS9 => ?_)
    clear hP hD hS
    have hP : va_P (dC, dI) cls (wp [(h_rws, .inl (cy_rws, 361, .inr (.inr (.inr (.inr f37))))), (h_pv, .inr (3, (mo186 v_pv (.ref h_rws) (.int z36) (.ref h_lks) (.int z58) (.int x_pv_stepCount) (.int x_pv_options) (.int z76)))), (h_lks, .inl (cy_lks, 210, .inr (.inr (.inr (.inr f59)))))] (PL nr38 ra39 (va_up rf40 (z4).toInt.toNat ((rf40 (z4).toInt.toNat).1, (rf40 (z4).toInt.toNat).2.1, (rf40 (z4).toInt.toNat).2.2.1, (some (la61 (z5).toInt.toNat)), o73, (some (ra9 (x_pv_rowCount).toInt.toNat)), z74)) nl60 la61 lf62 ns sa sf)) H := hP9
    have hD : va_D A (wp [(h_rws, .inl (cy_rws, 361, .inr (.inr (.inr (.inr f37))))), (h_pv, .inr (3, (mo186 v_pv (.ref h_rws) (.int z36) (.ref h_lks) (.int z58) (.int x_pv_stepCount) (.int x_pv_options) (.int z76)))), (h_lks, .inl (cy_lks, 210, .inr (.inr (.inr (.inr f59)))))] (PL nr38 ra39 (va_up rf40 (z4).toInt.toNat ((rf40 (z4).toInt.toNat).1, (rf40 (z4).toInt.toNat).2.1, (rf40 (z4).toInt.toNat).2.2.1, (some (la61 (z5).toInt.toNat)), o73, (some (ra9 (x_pv_rowCount).toInt.toNat)), z74)) nl60 la61 lf62 ns sa sf)) := hD9
    have hS := hS9
    clear hP9 hD9 hS9
    refine lv_aload_n hx hb dX4_rowBehind_106 rfl (lv_at hl 0 rfl) ?_
    obtain ⟨rf77, erf77⟩ : ∃ g, g = (va_up rf40 (z4).toInt.toNat ((rf40 (z4).toInt.toNat).1, (rf40 (z4).toInt.toNat).2.1, (rf40 (z4).toInt.toNat).2.2.1, (some (la61 (z5).toInt.toNat)), o73, (some (ra9 (x_pv_rowCount).toInt.toNat)), z74)) := ⟨_, rfl⟩
    have hP : va_P (dC, dI) cls (wp [(h_rws, .inl (cy_rws, 361, .inr (.inr (.inr (.inr f37))))), (h_pv, .inr (3, (mo186 v_pv (.ref h_rws) (.int z36) (.ref h_lks) (.int z58) (.int x_pv_stepCount) (.int x_pv_options) (.int z76)))), (h_lks, .inl (cy_lks, 210, .inr (.inr (.inr (.inr f59)))))] (PL nr38 ra39 rf77 nl60 la61 lf62 ns sa sf)) H := by rw [erf77]; exact hP
    have hD : va_D A (wp [(h_rws, .inl (cy_rws, 361, .inr (.inr (.inr (.inr f37))))), (h_pv, .inr (3, (mo186 v_pv (.ref h_rws) (.int z36) (.ref h_lks) (.int z58) (.int x_pv_stepCount) (.int x_pv_options) (.int z76)))), (h_lks, .inl (cy_lks, 210, .inr (.inr (.inr (.inr f59)))))] (PL nr38 ra39 rf77 nl60 la61 lf62 ns sa sf)) := by rw [erf77]; exact hD
    have srf77 : rf77 (z4).toInt.toNat = ((rf40 (z4).toInt.toNat).1, (rf40 (z4).toInt.toNat).2.1, (rf40 (z4).toInt.toNat).2.2.1, (some (la61 (z5).toInt.toNat)), o73, (some (ra9 (x_pv_rowCount).toInt.toNat)), z74) := by rw [erf77]; exact up_self _ _ _
    have orf77 : ∀ j : Nat, j ≠ (z4).toInt.toNat → rf77 j = rf40 j := fun j hj => by rw [erf77]; exact up_ne hj
    have k31 := k3_yes (x := (sf j1).2.1) (by omega)
    have rb78b := k46 (z4).toInt.toNat (by omega)
    have rb78n := k48.2
    have rb78g : ∀ m : Nat, m < nr → ra39 m = ra m := fun m hm => (k47 m (by omega)).trans (k26 m hm)
    have rb78h : ∀ m : Nat, m < nl → la61 m = la m := fun m hm => (k69 m (by omega)).trans (k27 m hm)
    have rb78x : PB la61 (z58).toInt (some (la61 (z5).toInt.toNat)) := Or.inr ⟨(z5).toInt.toNat, by omega, rfl⟩
    have rb78y : PB la61 (z58).toInt o73 := pb_mono py9 (by omega) (fun m hm => rb78h m (by omega))
    have rb78z : PB ra39 ((x_pv_rowCount).toInt + 1) (some (ra9 (x_pv_rowCount).toInt.toNat)) := Or.inr ⟨(x_pv_rowCount).toInt.toNat, by omega, by rw [k47 _ (by omega)]⟩
    have rb78k : ROK nr38 ra39 rf40 nl60 la61 := rok_la k46 (by omega) k69
    have rb78r : ROK nr38 ra39 rf77 nl60 la61 := rok_set rb78k orf77 srf77 (by rw [rb78n.1]; omega) (by rw [rb78n.2.1]; omega) rb78b.2.2.1 (pb_mono rb78x (by omega) (fun _ _ => rfl)) (pb_mono rb78y (by omega) (fun _ _ => rfl)) (pb_mono rb78z (by omega) (fun _ _ => rfl)) (by omega)
    have rb78e : ∀ j : Nat, j ≠ (z4).toInt.toNat → rf77 j = rf10 j := fun j hj => (orf77 j hj).trans (k48.1 j hj)
    have rb78v : LVR ((x_pv_rowCount).toInt + 1 + 1) (z58).toInt ra39 rf77 la61 := lvr_row (k := (z4).toInt.toNat) k25 (by omega) (fun m hm => k47 m (by omega)) (fun m hm => k69 m (by omega)) (by omega) rb78e srf77 rb78x rb78y rb78z
    have rb78l : LVS (z36).toInt (z58).toInt (x_pv_stepCount).toInt vI ra39 rf77 la61 sf := lvs_mono hn_lvs (by omega) (by omega) (by omega) (fun m hm => rb78g m (by omega)) (fun m hm => rb78h m (by omega)) (fun m hm => (rb78e m (by omega)).trans (k28 m (by omega)))
    have rb78s : SOK ns sf nr38 ra39 nl60 la61 := sok_mono hn_sok (by omega) rb78g (by omega) rb78h
    have rb78G := gr2_trans k19 k44 (by omega)
    have rb78L := gr2_trans k20 k66 (by omega)
    have rb78d1 := gr2_mc (a := (x_pv_rowCount).toInt.toNat + 1) k19 (by omega)
    have rb78d2 := gr2_mc (a := (x_pv_linkCount).toInt.toNat + (hasb x_pv_options 2).toNat) k20 (by omega)
    have rb78d3 := gr2_mc (a := (z4).toInt.toNat + 1) k44 (by omega)
    have rb78d4 := gr2_mc (a := (z5).toInt.toNat + 1) k66 (by omega)
    have rb78c1 := gr2_mc (a := (x_pv_rowCount).toInt.toNat + 1 + (k3 (sf j1).2.1).toNat) rb78G (by omega)
    have rb78c2 := gr2_mc (a := (x_pv_linkCount).toInt.toNat + (hasb x_pv_options 2).toNat + (k3 (sf j1).2.1).toNat) rb78L (by omega)
    replace hP : va_P (dC, dI) cls (wp [(h_pv, .inr (3, (mo186 v_pv (.ref h_rws) (.int z36) (.ref h_lks) (.int z58) (.int x_pv_stepCount) (.int x_pv_options) (.int z76)))), (h_rws, .inl (cy_rws, 361, .inr (.inr (.inr (.inr f37))))), (h_lks, .inl (cy_lks, 210, .inr (.inr (.inr (.inr f59)))))] (PL nr38 ra39 rf77 nl60 la61 lf62 ns sa sf)) H := va_P.part (cx := [(h_pv, .inr (3, (mo186 v_pv (.ref h_rws) (.int z36) (.ref h_lks) (.int z58) (.int x_pv_stepCount) (.int x_pv_options) (.int z76)))), (h_rws, .inl (cy_rws, 361, .inr (.inr (.inr (.inr f37))))), (h_lks, .inl (cy_lks, 210, .inr (.inr (.inr (.inr f59)))))]) hP [1, 0, 2] rfl
    replace hD : va_D A (wp [(h_pv, .inr (3, (mo186 v_pv (.ref h_rws) (.int z36) (.ref h_lks) (.int z58) (.int x_pv_stepCount) (.int x_pv_options) (.int z76)))), (h_rws, .inl (cy_rws, 361, .inr (.inr (.inr (.inr f37))))), (h_lks, .inl (cy_lks, 210, .inr (.inr (.inr (.inr f59)))))] (PL nr38 ra39 rf77 nl60 la61 lf62 ns sa sf)) := va_D.part (cx := [(h_pv, .inr (3, (mo186 v_pv (.ref h_rws) (.int z36) (.ref h_lks) (.int z58) (.int x_pv_stepCount) (.int x_pv_options) (.int z76)))), (h_rws, .inl (cy_rws, 361, .inr (.inr (.inr (.inr f37))))), (h_lks, .inl (cy_lks, 210, .inr (.inr (.inr (.inr f59)))))]) hD [1, 0, 2] (by decide) rfl
    refine W.widen (k := ((x_pv_rowCount).toInt.toNat + 1 + (k3 (sf j1).2.1).toNat - nr) + ((x_pv_linkCount).toInt.toNat + (hasb x_pv_options 2).toNat + (k3 (sf j1).2.1).toNat - nl)) (n := 7 * ((x_pv_rowCount).toInt.toNat + 1 + (k3 (sf j1).2.1).toNat - nr) + 4 * ((x_pv_linkCount).toInt.toNat + (hasb x_pv_options 2).toNat + (k3 (sf j1).2.1).toNat - nl)) (by omega) (by omega) ?_
    have w79 : 0 ≤ ((z36)).toInt ∧ ((z36)).toInt ≤ 361 := by first | exact k41 | omega
    have w80 : 0 ≤ ((z58)).toInt ∧ ((z58)).toInt ≤ 210 := by first | exact k63 | omega
    have w81 : ((z36)).toInt = (x_pv_rowCount).toInt + 1 + k3 (sf j1).2.1 := by omega
    have w82 : ((z58)).toInt = (x_pv_linkCount).toInt + hasb x_pv_options 2 + k3 (sf j1).2.1 := by omega
    have w83 : nr ≤ (nr38) ∧ nl ≤ (nl60) ∧ ((z36)).toInt ≤ (nr38) ∧ ((z58)).toInt ≤ (nl60) := by omega
    have w84 : GR2 nr (nr38) ((z36)).toInt := rb78G
    have w85 : GR2 nl (nl60) ((z58)).toInt := rb78L
    have w86 : PFX (nr38) 361 (f37) (ra39) := k45
    have w87 : PFX (nl60) 210 (f59) (la61) := k67
    have w88 : ROK (nr38) (ra39) (rf77) (nl60) (la61) := rb78r
    have w89 : LOK (nl60) (la61) (lf62) := k68
    have w90 : SOK ns sf (nr38) (ra39) (nl60) (la61) := rb78s
    have w91 : LVR ((z36)).toInt ((z58)).toInt (ra39) (rf77) (la61) := (lvr_cast rb78v (by first | rfl | omega) (by first | rfl | omega))
    have w92 : LVS ((z36)).toInt ((z58)).toInt (x_pv_stepCount).toInt vI (ra39) (rf77) (la61) sf := (lvs_cast rb78l (by first | rfl | omega) (by first | rfl | omega) (by first | rfl | omega) (by first | rfl | omega))
    have w93 : ∃ q : Nat, (q : Int) < ((z36)).toInt ∧ (some (ra39 (z4).toInt.toNat) : Option Nat) = some ((ra39) q) := ⟨(z4).toInt.toNat, by omega, rfl⟩
    exact W.aret (v := va_rf (some (ra39 (z4).toInt.toNat))) hx hb hr (Or.inl ⟨_, rfl⟩) (va_rf_or _) (fun t ht hW => ⟨⟨(some (ra39 (z4).toInt.toNat)), (z36, z58, z76, f37, f59, nr38, ra39, rf77, nl60, la61, lf62), rfl, ⟨w79, w80, w81, w82, w83, w84, w85, w86, w87, w88, w89, w90, w91, w92, w93⟩, by rw [ht]; exact hP, hD⟩, hS.F ht⟩) hS.2.2 dX4_rowBehind_107
  · have kc31 := (not_congr (cv_eq (rfl : (z30).toInt = (z30).toInt) (by decide : (3 : Int32).toInt = 3))).mp c31
    refine lv_aload_n hx hb dX4_rowBehind_17 rfl (lv_at hl 0 rfl) ?_
    have k30 := k3_no (x := (sf j1).2.1) (by omega)
    have rb94l : LVS (z4).toInt (z5).toInt (x_pv_stepCount).toInt vI ra9 rf10 la12 sf := lvs_mono hn_lvs (by omega) (by omega) (by omega) (fun m hm => k26 m (by omega)) (fun m hm => k27 m (by omega)) (fun m hm => k28 m (by omega))
    have rb94s : SOK ns sf nr8 ra9 nl11 la12 := sok_mono hn_sok (by omega) k26 (by omega) k27
    have rb94c1 := gr2_mc (a := (x_pv_rowCount).toInt.toNat + 1 + (k3 (sf j1).2.1).toNat) k19 (by omega)
    have rb94c2 := gr2_mc (a := (x_pv_linkCount).toInt.toNat + (hasb x_pv_options 2).toNat + (k3 (sf j1).2.1).toNat) k20 (by omega)
    have rb94d1 := gr2_mc (a := (x_pv_rowCount).toInt.toNat + 1) k19 (by omega)
    have rb94d2 := gr2_mc (a := (x_pv_linkCount).toInt.toNat + (hasb x_pv_options 2).toNat) k20 (by omega)
    refine W.widen (k := ((x_pv_rowCount).toInt.toNat + 1 + (k3 (sf j1).2.1).toNat - nr) + ((x_pv_linkCount).toInt.toNat + (hasb x_pv_options 2).toNat + (k3 (sf j1).2.1).toNat - nl)) (n := 7 * ((x_pv_rowCount).toInt.toNat + 1 + (k3 (sf j1).2.1).toNat - nr) + 4 * ((x_pv_linkCount).toInt.toNat + (hasb x_pv_options 2).toNat + (k3 (sf j1).2.1).toNat - nl)) (by omega) (by omega) ?_
    have w95 : 0 ≤ ((z4)).toInt ∧ ((z4)).toInt ≤ 361 := by first | exact k14 | omega
    have w96 : 0 ≤ ((z5)).toInt ∧ ((z5)).toInt ≤ 210 := by first | exact k15 | omega
    have w97 : ((z4)).toInt = (x_pv_rowCount).toInt + 1 + k3 (sf j1).2.1 := by omega
    have w98 : ((z5)).toInt = (x_pv_linkCount).toInt + hasb x_pv_options 2 + k3 (sf j1).2.1 := by omega
    have w99 : nr ≤ (nr8) ∧ nl ≤ (nl11) ∧ ((z4)).toInt ≤ (nr8) ∧ ((z5)).toInt ≤ (nl11) := by first | exact k18 | omega
    have w100 : GR2 nr (nr8) ((z4)).toInt := k19
    have w101 : GR2 nl (nl11) ((z5)).toInt := k20
    have w102 : PFX (nr8) 361 (f6) (ra9) := k21
    have w103 : PFX (nl11) 210 (f7) (la12) := k22
    have w104 : ROK (nr8) (ra9) (rf10) (nl11) (la12) := k23
    have w105 : LOK (nl11) (la12) (lf13) := k24
    have w106 : SOK ns sf (nr8) (ra9) (nl11) (la12) := rb94s
    have w107 : LVR ((z4)).toInt ((z5)).toInt (ra9) (rf10) (la12) := (lvr_cast k25 (by first | rfl | omega) (by first | rfl | omega))
    have w108 : LVS ((z4)).toInt ((z5)).toInt (x_pv_stepCount).toInt vI (ra9) (rf10) (la12) sf := (lvs_cast rb94l (by first | rfl | omega) (by first | rfl | omega) (by first | rfl | omega) (by first | rfl | omega))
    have w109 : ∃ q : Nat, (q : Int) < ((z4)).toInt ∧ (some (ra9 (x_pv_rowCount).toInt.toNat) : Option Nat) = some ((ra9) q) := ⟨(x_pv_rowCount).toInt.toNat, by omega, rfl⟩
    exact W.aret (v := va_rf (some (ra9 (x_pv_rowCount).toInt.toNat))) hx hb hr (Or.inl ⟨_, rfl⟩) (va_rf_or _) (fun t ht hW => ⟨⟨(some (ra9 (x_pv_rowCount).toInt.toNat)), (z4, z5, x_pv_longest, f6, f7, nr8, ra9, rf10, nl11, la12, lf13), rfl, ⟨w95, w96, w97, w98, w99, w100, w101, w102, w103, w104, w105, w106, w107, w108, w109⟩, by rw [ht]; exact hP, hD⟩, hS.F ht⟩) hS.2.2 dX4_rowBehind_18

