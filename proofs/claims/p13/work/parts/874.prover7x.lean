theorem dX4_firstRow_0 : decode cX4_firstRow 0 = .ok (.aload_n 0, 1) := by decide +kernel
theorem dX4_firstRow_1 : decode cX4_firstRow 1 = .ok (.getfield 37, 3) := by decide +kernel
theorem dX4_firstRow_10 : decode cX4_firstRow 10 = .ok (.putfield 41, 3) := by decide +kernel
theorem dX4_firstRow_13 : decode cX4_firstRow 13 = .ok (.aload_n 0, 1) := by decide +kernel
theorem dX4_firstRow_14 : decode cX4_firstRow 14 = .ok (.iconst 0, 1) := by decide +kernel
theorem dX4_firstRow_15 : decode cX4_firstRow 15 = .ok (.putfield 85, 3) := by decide +kernel
theorem dX4_firstRow_18 : decode cX4_firstRow 18 = .ok (.aload_n 0, 1) := by decide +kernel
theorem dX4_firstRow_19 : decode cX4_firstRow 19 = .ok (.iconst 0, 1) := by decide +kernel
theorem dX4_firstRow_20 : decode cX4_firstRow 20 = .ok (.putfield 101, 3) := by decide +kernel
theorem dX4_firstRow_23 : decode cX4_firstRow 23 = .ok (.aload_n 0, 1) := by decide +kernel
theorem dX4_firstRow_24 : decode cX4_firstRow 24 = .ok (.iconst 0, 1) := by decide +kernel
theorem dX4_firstRow_25 : decode cX4_firstRow 25 = .ok (.putfield 104, 3) := by decide +kernel
theorem dX4_firstRow_28 : decode cX4_firstRow 28 = .ok (.aload_n 0, 1) := by decide +kernel
theorem dX4_firstRow_29 : decode cX4_firstRow 29 = .ok (.iconst 0, 1) := by decide +kernel
theorem dX4_firstRow_30 : decode cX4_firstRow 30 = .ok (.putfield 88, 3) := by decide +kernel
theorem dX4_firstRow_33 : decode cX4_firstRow 33 = .ok (.aload_n 0, 1) := by decide +kernel
theorem dX4_firstRow_34 : decode cX4_firstRow 34 = .ok (.getfield 29, 3) := by decide +kernel
theorem dX4_firstRow_37 : decode cX4_firstRow 37 = .ok (.iconst 0, 1) := by decide +kernel
theorem dX4_firstRow_38 : decode cX4_firstRow 38 = .ok (.iload_n 1, 1) := by decide +kernel
theorem dX4_firstRow_39 : decode cX4_firstRow 39 = .ok (.iastore, 1) := by decide +kernel
theorem dX4_firstRow_4 : decode cX4_firstRow 4 = .ok (.iconst 0, 1) := by decide +kernel
theorem dX4_firstRow_40 : decode cX4_firstRow 40 = .ok (.aload_n 0, 1) := by decide +kernel
theorem dX4_firstRow_41 : decode cX4_firstRow 41 = .ok (.iconst 1, 1) := by decide +kernel
theorem dX4_firstRow_42 : decode cX4_firstRow 42 = .ok (.putfield 107, 3) := by decide +kernel
theorem dX4_firstRow_45 : decode cX4_firstRow 45 = .ok (.aload_n 0, 1) := by decide +kernel
theorem dX4_firstRow_46 : decode cX4_firstRow 46 = .ok (.iconst 0, 1) := by decide +kernel
theorem dX4_firstRow_47 : decode cX4_firstRow 47 = .ok (.iconst (-1), 1) := by decide +kernel
theorem dX4_firstRow_48 : decode cX4_firstRow 48 = .ok (.iconst 0, 1) := by decide +kernel
theorem dX4_firstRow_49 : decode cX4_firstRow 49 = .ok (.invokevirtual 110, 3) := by decide +kernel
theorem dX4_firstRow_5 : decode cX4_firstRow 5 = .ok (.invokevirtual 95, 3) := by decide +kernel
theorem dX4_firstRow_52 : decode cX4_firstRow 52 = .ok (.astore_n 2, 1) := by decide +kernel
theorem dX4_firstRow_53 : decode cX4_firstRow 53 = .ok (.aload_n 2, 1) := by decide +kernel
theorem dX4_firstRow_54 : decode cX4_firstRow 54 = .ok (.aconst_null, 1) := by decide +kernel
theorem dX4_firstRow_55 : decode cX4_firstRow 55 = .ok (.putfield 114, 3) := by decide +kernel
theorem dX4_firstRow_58 : decode cX4_firstRow 58 = .ok (.aload_n 2, 1) := by decide +kernel
theorem dX4_firstRow_59 : decode cX4_firstRow 59 = .ok (.aconst_null, 1) := by decide +kernel
theorem dX4_firstRow_60 : decode cX4_firstRow 60 = .ok (.putfield 118, 3) := by decide +kernel
theorem dX4_firstRow_63 : decode cX4_firstRow 63 = .ok (.aload_n 2, 1) := by decide +kernel
theorem dX4_firstRow_64 : decode cX4_firstRow 64 = .ok (.aconst_null, 1) := by decide +kernel
theorem dX4_firstRow_65 : decode cX4_firstRow 65 = .ok (.putfield 121, 3) := by decide +kernel
theorem dX4_firstRow_68 : decode cX4_firstRow 68 = .ok (.aload_n 2, 1) := by decide +kernel
theorem dX4_firstRow_69 : decode cX4_firstRow 69 = .ok (.iconst (-1), 1) := by decide +kernel
theorem dX4_firstRow_70 : decode cX4_firstRow 70 = .ok (.putfield 125, 3) := by decide +kernel
theorem dX4_firstRow_73 : decode cX4_firstRow 73 = .ok (.aload_n 2, 1) := by decide +kernel
theorem dX4_firstRow_74 : decode cX4_firstRow 74 = .ok (.areturn, 1) := by decide +kernel
theorem dX4_firstRow_8 : decode cX4_firstRow 8 = .ok (.aload_n 0, 1) := by decide +kernel
theorem dX4_firstRow_9 : decode cX4_firstRow 9 = .ok (.iconst 0, 1) := by decide +kernel
theorem dX4_pastClosed_0 : decode cX4_pastClosed 0 = .ok (.aload_n 1, 1) := by decide +kernel
theorem dX4_pastClosed_1 : decode cX4_pastClosed 1 = .ok (.astore_n 2, 1) := by decide +kernel
theorem dX4_pastClosed_11 : decode cX4_pastClosed 11 = .ok (.aload_n 2, 1) := by decide +kernel
theorem dX4_pastClosed_12 : decode cX4_pastClosed 12 = .ok (.ifnull 79, 3) := by decide +kernel
theorem dX4_pastClosed_15 : decode cX4_pastClosed 15 = .ok (.aload_n 2, 1) := by decide +kernel
theorem dX4_pastClosed_16 : decode cX4_pastClosed 16 = .ok (.getfield 137, 3) := by decide +kernel
theorem dX4_pastClosed_19 : decode cX4_pastClosed 19 = .ok (.aload_n 0, 1) := by decide +kernel
theorem dX4_pastClosed_2 : decode cX4_pastClosed 2 = .ok (.iconst 0, 1) := by decide +kernel
theorem dX4_pastClosed_20 : decode cX4_pastClosed 20 = .ok (.aload_n 2, 1) := by decide +kernel
theorem dX4_pastClosed_21 : decode cX4_pastClosed 21 = .ok (.getfield 140, 3) := by decide +kernel
theorem dX4_pastClosed_24 : decode cX4_pastClosed 24 = .ok (.invokevirtual 143, 3) := by decide +kernel
theorem dX4_pastClosed_27 : decode cX4_pastClosed 27 = .ok (.if_icmp .ge 5, 3) := by decide +kernel
theorem dX4_pastClosed_3 : decode cX4_pastClosed 3 = .ok (.istore_n 3, 1) := by decide +kernel
theorem dX4_pastClosed_30 : decode cX4_pastClosed 30 = .ok (.aload_n 2, 1) := by decide +kernel
theorem dX4_pastClosed_31 : decode cX4_pastClosed 31 = .ok (.areturn, 1) := by decide +kernel
theorem dX4_pastClosed_32 : decode cX4_pastClosed 32 = .ok (.aload_n 0, 1) := by decide +kernel
theorem dX4_pastClosed_33 : decode cX4_pastClosed 33 = .ok (.iconst 4, 1) := by decide +kernel
theorem dX4_pastClosed_34 : decode cX4_pastClosed 34 = .ok (.invokevirtual 147, 3) := by decide +kernel
theorem dX4_pastClosed_37 : decode cX4_pastClosed 37 = .ok (.ifCond .eq 43, 3) := by decide +kernel
theorem dX4_pastClosed_4 : decode cX4_pastClosed 4 = .ok (.iload_n 3, 1) := by decide +kernel
theorem dX4_pastClosed_40 : decode cX4_pastClosed 40 = .ok (.aload_n 2, 1) := by decide +kernel
theorem dX4_pastClosed_41 : decode cX4_pastClosed 41 = .ok (.getfield 125, 3) := by decide +kernel
theorem dX4_pastClosed_44 : decode cX4_pastClosed 44 = .ok (.iconst (-1), 1) := by decide +kernel
theorem dX4_pastClosed_45 : decode cX4_pastClosed 45 = .ok (.if_icmp .eq 35, 3) := by decide +kernel
theorem dX4_pastClosed_48 : decode cX4_pastClosed 48 = .ok (.aload_n 2, 1) := by decide +kernel
theorem dX4_pastClosed_49 : decode cX4_pastClosed 49 = .ok (.getfield 125, 3) := by decide +kernel
theorem dX4_pastClosed_5 : decode cX4_pastClosed 5 = .ok (.sipush 361, 3) := by decide +kernel
theorem dX4_pastClosed_52 : decode cX4_pastClosed 52 = .ok (.istore 4, 2) := by decide +kernel
theorem dX4_pastClosed_54 : decode cX4_pastClosed 54 = .ok (.iload 4, 2) := by decide +kernel
theorem dX4_pastClosed_56 : decode cX4_pastClosed 56 = .ok (.aload_n 0, 1) := by decide +kernel
theorem dX4_pastClosed_57 : decode cX4_pastClosed 57 = .ok (.getfield 88, 3) := by decide +kernel
theorem dX4_pastClosed_60 : decode cX4_pastClosed 60 = .ok (.if_icmp .ge 20, 3) := by decide +kernel
theorem dX4_pastClosed_63 : decode cX4_pastClosed 63 = .ok (.aload_n 0, 1) := by decide +kernel
theorem dX4_pastClosed_64 : decode cX4_pastClosed 64 = .ok (.getfield 25, 3) := by decide +kernel
theorem dX4_pastClosed_67 : decode cX4_pastClosed 67 = .ok (.iload 4, 2) := by decide +kernel
theorem dX4_pastClosed_69 : decode cX4_pastClosed 69 = .ok (.aaload, 1) := by decide +kernel
theorem dX4_pastClosed_70 : decode cX4_pastClosed 70 = .ok (.iconst 1, 1) := by decide +kernel
theorem dX4_pastClosed_71 : decode cX4_pastClosed 71 = .ok (.putfield 151, 3) := by decide +kernel
theorem dX4_pastClosed_74 : decode cX4_pastClosed 74 = .ok (.iinc 4 1, 3) := by decide +kernel
theorem dX4_pastClosed_77 : decode cX4_pastClosed 77 = .ok (.goto (-23), 3) := by decide +kernel
theorem dX4_pastClosed_8 : decode cX4_pastClosed 8 = .ok (.if_icmp .ge 83, 3) := by decide +kernel
theorem dX4_pastClosed_80 : decode cX4_pastClosed 80 = .ok (.aload_n 2, 1) := by decide +kernel
theorem dX4_pastClosed_81 : decode cX4_pastClosed 81 = .ok (.getfield 121, 3) := by decide +kernel
theorem dX4_pastClosed_84 : decode cX4_pastClosed 84 = .ok (.astore_n 2, 1) := by decide +kernel
theorem dX4_pastClosed_85 : decode cX4_pastClosed 85 = .ok (.iinc 3 1, 3) := by decide +kernel
theorem dX4_pastClosed_88 : decode cX4_pastClosed 88 = .ok (.goto (-84), 3) := by decide +kernel
theorem dX4_pastClosed_91 : decode cX4_pastClosed 91 = .ok (.aload_n 2, 1) := by decide +kernel
theorem dX4_pastClosed_92 : decode cX4_pastClosed 92 = .ok (.areturn, 1) := by decide +kernel
abbrev mo187 (v : Nat → Value) (a0 a6 a7 a8 a11 : Value) : List Value := [a0, (v 1), (v 2), (v 3), (v 4), (v 5), a6, a7, a8, (v 9), (v 10), a11, (v 12), (v 13), (v 14), (v 15), (v 16), (v 17)]
abbrev mo188 (v : Nat → Value) (a1 a2 a3 a5 a7 a8 a9 a16 a17 : Value) : List Value := [(v 0), a1, a2, a3, (v 4), a5, (v 6), a7, a8, a9, (v 10), (v 11), (v 12), (v 13), (v 14), (v 15), a16, a17]
set_option maxRecDepth 100000 in
theorem mq187_43 (v : Nat → Value) (b6 b7 b11 : Value) : ∃ w : Nat → Value, ∀ (a0 a8 : Value), mo43 w a0 a8 = (mo187 v a0 b6 b7 a8 b11) := ⟨fun k => List.getD (mo187 v .null b6 b7 .null b11) k .null, fun _ _ => rfl⟩
set_option maxRecDepth 100000 in
theorem mq187_42 (v : Nat → Value) (b0 b6 b7 b8 : Value) : ∃ w : Nat → Value, ∀ (a11 : Value), mo42 w a11 = (mo187 v b0 b6 b7 b8 a11) := ⟨fun k => List.getD (mo187 v b0 b6 b7 b8 .null) k .null, fun _ => rfl⟩
set_option maxRecDepth 100000 in
theorem mq188_175 (v : Nat → Value) (b1 b5 b7 b8 b9 b16 b17 : Value) : ∃ w : Nat → Value, ∀ (a2 a3 : Value), mo175 w a2 a3 = (mo188 v b1 a2 a3 b5 b7 b8 b9 b16 b17) := ⟨fun k => List.getD (mo188 v b1 .null .null b5 b7 b8 b9 b16 b17) k .null, fun _ _ => rfl⟩
set_option maxHeartbeats 8000000 in
set_option maxRecDepth 100000 in
theorem c_X4_pastClosed (l : Launch) (dC : Nat → ClassId) (dI : Nat → Nat → Nat) (sz : Nat) (h_pv : Nat) (h_sps : Nat) (h_cof : Nat) (h_td : Nat) (h_lit : Nat) (nr : Nat) (ra : Nat → Nat) (rf : Nat → RT) (nl : Nat) (la : Nat → Nat) (lf : Nat → LT) (ns : Nat) (sa : Nat → Nat) (sf : Nat → ST) (v_pv : Nat → Value) (x_pv_stepCount : Int32) (x_pv_options : Int32) (cy_sps : ClassId) (f_sps : Nat → Option Nat) (cy_cof : ClassId) (f_cof : Nat → Int32) (v_td : Nat → Value) (cy_lit : ClassId) (f_lit : Nat → Int32) (rq : Nat) (vR : Int) (vL : Int) (vI : Int) (mq : PRM) (c0 : CFT) (nq : CTT) (gbn : Nat → Int32) (gtr : Nat → Int32) (gT : Int) (hx_pv_stepCount : 0 ≤ (x_pv_stepCount).toInt ∧ (x_pv_stepCount).toInt ≤ 180) (hf_cof : Rg 0 15 f_cof) (hf_lit : Rg 0 6 f_lit) (q0 : (rq : Int) < vR) (q1 : vR ≤ nr ∧ vR ≤ 361) (q2 : (x_pv_stepCount).toInt ≤ ns) (hn_rok : ROK nr ra rf nl la) (hn_sok : SOK ns sf nr ra nl la) (hn_ps : PFX ns 180 f_sps sa) (hn_lvr : LVR vR vL ra rf la) (hn_lvs : LVS vR vL (x_pv_stepCount).toInt vI ra rf la sf) (hn_lq : ∀ c : Nat, (mq.2.2.1 c : Int) = (f_lit c).toInt) (hn_op4 : mq.2.2.2.2.2.2.2.2 = true ↔ hasb x_pv_options 4 = 1) (hn_civ : CIV mq c0) (hn_gox : GOX mq c0 la lf ra rf sf gbn gtr f_cof gT vI vR vL (x_pv_stepCount).toInt (some (ra rq)) nq) : Met l yX4_pastClosed (Ws yX4_pastClosed cX4_pastClosed 5 (some (.object "OppositePairs$Row"))) (({ frames := 1, cells := 0, slots := 0, locals := 21 } : Room)) (PRE (dC, dI) cls [(cy_sps, .object "OppositePairs$Step"), (cy_cof, .int), (cy_lit, .int)] (wp [(h_pv, .inr (3, (mo187 v_pv (.ref h_td) (.ref h_sps) (.int x_pv_stepCount) (.ref h_cof) (.int x_pv_options)))), (h_sps, .inl (cy_sps, 180, .inr (.inr (.inr (.inr f_sps))))), (h_cof, .inl (cy_cof, 30, .inl f_cof)), (h_td, .inr (5, (mo44 v_td (.ref h_lit)))), (h_lit, .inl (cy_lit, 16, .inl f_lit))] (PL nr ra rf nl la lf ns sa sf)) sz [.ref h_pv, .ref (ra rq)]) (va_Qq (fun (r : Option Nat) (u : (Nat → ST)) => (RES vR ra rf r) ∧ (SOK ns u nr ra nl la) ∧ (LVS vR vL (x_pv_stepCount).toInt vI ra rf la u) ∧ (GOX mq c0 la lf ra rf u gbn gtr f_cof gT vI vR vL (x_pv_stepCount).toInt r nq) ∧ (∀ q : Nat, (q : Int) < vR → r = some (ra q) → (rf q).2.2.1.toInt < (f_lit (f_cof (rf q).1.toInt.toNat).toInt.toNat).toInt)) (fun (u : (Nat → ST)) (t : State) => va_P (dC, dI) cls (wp [(h_pv, .inr (3, (mo187 v_pv (.ref h_td) (.ref h_sps) (.int x_pv_stepCount) (.ref h_cof) (.int x_pv_options)))), (h_sps, .inl (cy_sps, 180, .inr (.inr (.inr (.inr f_sps))))), (h_cof, .inl (cy_cof, 30, .inl f_cof)), (h_td, .inr (5, (mo44 v_td (.ref h_lit)))), (h_lit, .inl (cy_lit, 16, .inl f_lit))] (PL nr ra rf nl la lf ns sa u)) t.heap ∧ va_D (va_A (wp [(h_pv, .inr (3, (mo187 v_pv (.ref h_td) (.ref h_sps) (.int x_pv_stepCount) (.ref h_cof) (.int x_pv_options)))), (h_sps, .inl (cy_sps, 180, .inr (.inr (.inr (.inr f_sps))))), (h_cof, .inl (cy_cof, 30, .inl f_cof)), (h_td, .inr (5, (mo44 v_td (.ref h_lit)))), (h_lit, .inl (cy_lit, 16, .inl f_lit))] (PL nr ra rf nl la lf ns sa sf)) sz) (wp [(h_pv, .inr (3, (mo187 v_pv (.ref h_td) (.ref h_sps) (.int x_pv_stepCount) (.ref h_cof) (.int x_pv_options)))), (h_sps, .inl (cy_sps, 180, .inr (.inr (.inr (.inr f_sps))))), (h_cof, .inl (cy_cof, 30, .inl f_cof)), (h_td, .inr (5, (mo44 v_td (.ref h_lit)))), (h_lit, .inl (cy_lit, 16, .inl f_lit))] (PL nr ra rf nl la lf ns sa u))) (va_A (wp [(h_pv, .inr (3, (mo187 v_pv (.ref h_td) (.ref h_sps) (.int x_pv_stepCount) (.ref h_cof) (.int x_pv_options)))), (h_sps, .inl (cy_sps, 180, .inr (.inr (.inr (.inr f_sps))))), (h_cof, .inl (cy_cof, 30, .inl f_cof)), (h_td, .inr (5, (mo44 v_td (.ref h_lit)))), (h_lit, .inl (cy_lit, 16, .inl f_lit))] (PL nr ra rf nl la lf ns sa sf)) sz)) (0) (0) (va_A (wp [(h_pv, .inr (3, (mo187 v_pv (.ref h_td) (.ref h_sps) (.int x_pv_stepCount) (.ref h_cof) (.int x_pv_options)))), (h_sps, .inl (cy_sps, 180, .inr (.inr (.inr (.inr f_sps))))), (h_cof, .inl (cy_cof, 30, .inl f_cof)), (h_td, .inr (5, (mo44 v_td (.ref h_lit)))), (h_lit, .inl (cy_lit, 16, .inl f_lit))] (PL nr ra rf nl la lf ns sa sf)) sz) := by
  refine Met.ofW (cc := cX4_pastClosed) (maxL := 5) (ret := (some (.object "OppositePairs$Row"))) (by decide) rfl ?_
  intro p e s m args below meth c s₁ B hml hv
  obtain ⟨rfl, hsz, hP, hK, hD0, hN⟩ := hv
  have hx := B.exec
  have hb := B.bytes
  have hr := B.returns
  have hts := atoms_spec (ws := Ws yX4_pastClosed cX4_pastClosed 5 (some (.object "OppositePairs$Row"))) B.pre
  have hT : ∀ w ∈ WALL, w ∈ Ws yX4_pastClosed cX4_pastClosed 5 (some (.object "OppositePairs$Row")) := fun w h => List.mem_cons_of_mem _ h
  have hw := fun w (h : w ∈ WALL) => hts w (hT w h)
  have hown : s.vm.findClass RX4 = some m.cls := findClass_of_methodNamed B.named
  have hlocks := B.notSynchronized
  subst hsz
  have hD := hD0.self (sz := s.heap.size)
  generalize hAe : va_A (wp [(h_pv, .inr (3, (mo187 v_pv (.ref h_td) (.ref h_sps) (.int x_pv_stepCount) (.ref h_cof) (.int x_pv_options)))), (h_sps, .inl (cy_sps, 180, .inr (.inr (.inr (.inr f_sps))))), (h_cof, .inl (cy_cof, 30, .inl f_cof)), (h_td, .inr (5, (mo44 v_td (.ref h_lit)))), (h_lit, .inl (cy_lit, 16, .inl f_lit))] (PL nr ra rf nl la lf ns sa sf)) s.heap.size = A at hD ⊢
  have hA : ∀ q : Nat, s.heap.size ≤ q → A q := fun q h => by rw [← hAe]; exact Or.inr h
  have hS : va_S A s.heap s.heap [] := va_S.rf
  have hl := lv_entry ([.ref h_pv, .ref (ra rq)]) (n := 5) (Nat.le_of_ble_eq_true rfl)
  rw [lg_entry_eq]
  generalize (lg_sl ([.ref h_pv, .ref (ra rq)]) ++ List.replicate (5 - (lg_sl ([.ref h_pv, .ref (ra rq)])).length) Slot.unset).toArray = ls at hl ⊢
  have hl : lv_has ls 5 [(0, .ref h_pv), (1, .ref (ra rq))] := hl
  have og0 : OG ra rq (some (ra rq)) := Or.inr ⟨rq, rfl, rfl⟩
  refine lv_aload_n hx hb dX4_pastClosed_0 rfl (lv_at hl 1 rfl) ?_
  refine lv_astore_n (lv' := [(2, .ref (ra rq)), (0, .ref h_pv), (1, .ref (ra rq))]) hx hb dX4_pastClosed_1 rfl hl (by decide) rfl (fun ls hl => ?_)
  refine lv_iconst (v := 0) hx hb dX4_pastClosed_2 (by decide) ?_
  refine lv_istore_n (lv' := [(3, .int 0), (2, .ref (ra rq)), (0, .ref h_pv), (1, .ref (ra rq))]) hx hb dX4_pastClosed_3 rfl hl (by decide) rfl (fun ls hl => ?_)
  have lp5 : ∀ (n : Nat) (o1 : Option Nat) (x2 : Int32) (sf3 : Nat → ST) (gh4 : Int) (H : Heap) (locs : List Loc) (ls : Array Slot), (0 ≤ (x2).toInt ∧ (x2).toInt ≤ 361) → (-1 ≤ gh4 ∧ gh4 < vR) → (gh4 + (x2).toInt < 361) → (OG ra gh4 o1) → (SOK ns sf3 nr ra nl la) → (LVS vR vL (x_pv_stepCount).toInt vI ra rf la sf3) → (GOX mq c0 la lf ra rf sf3 gbn gtr f_cof gT vI vR vL (x_pv_stepCount).toInt o1 nq) → (361 - (x2).toInt).toNat + 1 ≤ n → va_P (dC, dI) cls (wp [(h_pv, .inr (3, (mo187 v_pv (.ref h_td) (.ref h_sps) (.int x_pv_stepCount) (.ref h_cof) (.int x_pv_options)))), (h_sps, .inl (cy_sps, 180, .inr (.inr (.inr (.inr f_sps))))), (h_cof, .inl (cy_cof, 30, .inl f_cof)), (h_td, .inr (5, (mo44 v_td (.ref h_lit)))), (h_lit, .inl (cy_lit, 16, .inl f_lit))] (PL nr ra rf nl la lf ns sa sf3)) H → va_D A (wp [(h_pv, .inr (3, (mo187 v_pv (.ref h_td) (.ref h_sps) (.int x_pv_stepCount) (.ref h_cof) (.int x_pv_options)))), (h_sps, .inl (cy_sps, 180, .inr (.inr (.inr (.inr f_sps))))), (h_cof, .inl (cy_cof, 30, .inl f_cof)), (h_td, .inr (5, (mo44 v_td (.ref h_lit)))), (h_lit, .inl (cy_lit, 16, .inl f_lit))] (PL nr ra rf nl la lf ns sa sf3)) → va_S A s.heap H locs → lv_has ls 5 [(0, .ref h_pv), (1, .ref (ra rq)), (2, va_rf o1), (3, .int x2)] → W p l e ({ frames := 1, cells := 0, slots := 0, locals := 21 } : Room) s m ([.ref h_pv, .ref (ra rq)] : List Value).toArray below meth c H locs 0 0 (MQ below (va_Qq (fun (r : Option Nat) (u : (Nat → ST)) => (RES vR ra rf r) ∧ (SOK ns u nr ra nl la) ∧ (LVS vR vL (x_pv_stepCount).toInt vI ra rf la u) ∧ (GOX mq c0 la lf ra rf u gbn gtr f_cof gT vI vR vL (x_pv_stepCount).toInt r nq) ∧ (∀ q : Nat, (q : Int) < vR → r = some (ra q) → (rf q).2.2.1.toInt < (f_lit (f_cof (rf q).1.toInt.toNat).toInt.toNat).toInt)) (fun (u : (Nat → ST)) (t : State) => va_P (dC, dI) cls (wp [(h_pv, .inr (3, (mo187 v_pv (.ref h_td) (.ref h_sps) (.int x_pv_stepCount) (.ref h_cof) (.int x_pv_options)))), (h_sps, .inl (cy_sps, 180, .inr (.inr (.inr (.inr f_sps))))), (h_cof, .inl (cy_cof, 30, .inl f_cof)), (h_td, .inr (5, (mo44 v_td (.ref h_lit)))), (h_lit, .inl (cy_lit, 16, .inl f_lit))] (PL nr ra rf nl la lf ns sa u)) t.heap ∧ va_D A (wp [(h_pv, .inr (3, (mo187 v_pv (.ref h_td) (.ref h_sps) (.int x_pv_stepCount) (.ref h_cof) (.int x_pv_options)))), (h_sps, .inl (cy_sps, 180, .inr (.inr (.inr (.inr f_sps))))), (h_cof, .inl (cy_cof, 30, .inl f_cof)), (h_td, .inr (5, (mo44 v_td (.ref h_lit)))), (h_lit, .inl (cy_lit, 16, .inl f_lit))] (PL nr ra rf nl la lf ns sa u))) A) ([.ref h_pv, .ref (ra rq)] : List Value).toArray s (0) (0) A) (F0 m 4 ls []) := by
    clear hP hD hS hl
    intro n
    induction n with
    | zero => intro o1 x2 sf3 gh4 H locs ls klp5_0 klp5_1 klp5_2 klp5_3 klp5_4 klp5_5 klp5_6 hm hP hD hS hl; exact False.elim (by omega)
    | succ n ih => 
      intro o1 x2 sf3 gh4 H locs ls klp5_0 klp5_1 klp5_2 klp5_3 klp5_4 klp5_5 klp5_6 hm hP hD hS hl
      have ih6 := ih
      clear ih
      refine lv_iload_n hx hb dX4_pastClosed_4 rfl (lv_at hl 3 rfl) ?_
      refine lv_sipush (v := 361) hx hb dX4_pastClosed_5 (by decide) ?_
      refine lv_icmp_ge (tgt := 91) hx hb dX4_pastClosed_8 (by decide) (fun c7 => ?_) (fun c7 => ?_)
      · have kc7 := (cv_le (by decide : (361 : Int32).toInt = 361) (rfl : (x2).toInt = (x2).toInt)).mp c7
        refine lv_aload_nQ hx hb dX4_pastClosed_91 rfl (lv_at hl 2 rfl) ?_
        have no9 := og_lt klp5_3 (by omega)
        refine W.widen (k := 0) (n := 0) (Nat.le_of_ble_eq_true rfl) (Nat.le_of_ble_eq_true rfl) ?_
        have w8 : RES vR ra rf (o1) := (Or.inl (og_lt klp5_3 (by omega)))
        have w9 : SOK ns (sf3) nr ra nl la := klp5_4
        have w10 : LVS vR vL (x_pv_stepCount).toInt vI ra rf la (sf3) := (lvs_cast klp5_5 (by first | rfl | omega) (by first | rfl | omega) (by first | rfl | omega) (by first | rfl | omega))
        have w11 : GOX mq c0 la lf ra rf (sf3) gbn gtr f_cof gT vI vR vL (x_pv_stepCount).toInt (o1) nq := klp5_6
        have w12 : ∀ q : Nat, (q : Int) < vR → (o1) = some (ra q) → (rf q).2.2.1.toInt < (f_lit (f_cof (rf q).1.toInt.toNat).toInt.toNat).toInt := (fun q9 h8 h9 => by rw [no9] at h9; cases h9)
        exact W.aret (v := va_rf o1) hx hb hr (Or.inl ⟨_, rfl⟩) (va_rf_or _) (fun t ht hW => ⟨⟨o1, sf3, rfl, ⟨w8, w9, w10, w11, w12⟩, by rw [ht]; exact hP, hD⟩, hS.F ht⟩) hS.2.2 dX4_pastClosed_92
      · have kc7 := (not_congr (cv_le (by decide : (361 : Int32).toInt = 361) (rfl : (x2).toInt = (x2).toInt))).mp c7
        refine lv_aload_nQ hx hb dX4_pastClosed_11 rfl (lv_at hl 2 rfl) ?_
        rcases o1 with _ | b13
        · have hl : lv_has ls 5 [(0, .ref h_pv), (1, .ref (ra rq)), (2, .null), (3, .int x2)] := hl
          show W p l e _ s m _ below meth c _ _ _ _ _ (F0 m 12 ls [.null])
          have gn9 := og_none klp5_3
          refine lv_ifnullN (tgt := 91) hx hb dX4_pastClosed_12 (by decide) ?_
          refine lv_aload_nN hx hb dX4_pastClosed_91 rfl (lv_at hl 2 rfl) ?_
          refine W.widen (k := 0) (n := 0) (Nat.le_of_ble_eq_true rfl) (Nat.le_of_ble_eq_true rfl) ?_
          have w14 : RES vR ra rf (none : Option Nat) := (Or.inl rfl)
          have w15 : SOK ns (sf3) nr ra nl la := klp5_4
          have w16 : LVS vR vL (x_pv_stepCount).toInt vI ra rf la (sf3) := (lvs_cast klp5_5 (by first | rfl | omega) (by first | rfl | omega) (by first | rfl | omega) (by first | rfl | omega))
          have w17 : GOX mq c0 la lf ra rf (sf3) gbn gtr f_cof gT vI vR vL (x_pv_stepCount).toInt (none : Option Nat) nq := klp5_6
          have w18 : ∀ q : Nat, (q : Int) < vR → (none : Option Nat) = some (ra q) → (rf q).2.2.1.toInt < (f_lit (f_cof (rf q).1.toInt.toNat).toInt.toNat).toInt := (fun q9 h8 h9 => by cases h9)
          exact W.aret (v := va_rf none) hx hb hr (Or.inl ⟨_, rfl⟩) (va_rf_or _) (fun t ht hW => ⟨⟨none, sf3, rfl, ⟨w14, w15, w16, w17, w18⟩, by rw [ht]; exact hP, hD⟩, hS.F ht⟩) hS.2.2 dX4_pastClosed_92
        · have hl : lv_has ls 5 [(0, .ref h_pv), (1, .ref (ra rq)), (2, .ref b13), (3, .int x2)] := hl
          show W p l e _ s m _ below meth c _ _ _ _ _ (F0 m 12 ls [.ref b13])
          obtain ⟨qq19, hqq19, eqq19⟩ := og_some klp5_3
          subst eqq19
          refine lv_ifnull hx hb dX4_pastClosed_12 ?_
          refine lv_aload_n hx hb dX4_pastClosed_15 rfl (lv_at hl 2 rfl) ?_
          refine va_getN (D := (dC, dI)) (ci := 9) (v := .int (rf qq19).2.2.1) (C := RX6) (T := TX6) (N := 7) (host := "OppositePairs") hx hb hw iwX6 hown hK hP (5 + qq19) (pl_R (X := [(h_pv, .inr (3, (mo187 v_pv (.ref h_td) (.ref h_sps) (.int x_pv_stepCount) (.ref h_cof) (.int x_pv_options)))), (h_sps, .inl (cy_sps, 180, .inr (.inr (.inr (.inr f_sps))))), (h_cof, .inl (cy_cof, 30, .inl f_cof)), (h_td, .inr (5, (mo44 v_td (.ref h_lit)))), (h_lit, .inl (cy_lit, 16, .inl f_lit))]) (by omega)) rfl 2 (by decide) (hN.use n_f_X4_137 rfl) (fun _ h9 => h9) rfl dX4_pastClosed_16 ?_
          refine lv_topi (fun z20 ez20 => ?_)
          have vz20 : (z20).toInt = ((rf qq19).2.2.1).toInt := by rw [ez20]
          have rz20 : 0 ≤ (z20).toInt ∧ (z20).toInt ≤ 7 := by rw [ez20]; exact (hn_rok qq19 (by omega)).2.2.1
          refine lv_aload_n hx hb dX4_pastClosed_19 rfl (lv_at hl 0 rfl) ?_
          refine lv_aload_n hx hb dX4_pastClosed_20 rfl (lv_at hl 2 rfl) ?_
          refine va_getN (D := (dC, dI)) (ci := 9) (v := .int (rf qq19).1) (C := RX6) (T := TX6) (N := 7) (host := "OppositePairs") hx hb hw iwX6 hown hK hP (5 + qq19) (pl_R (X := [(h_pv, .inr (3, (mo187 v_pv (.ref h_td) (.ref h_sps) (.int x_pv_stepCount) (.ref h_cof) (.int x_pv_options)))), (h_sps, .inl (cy_sps, 180, .inr (.inr (.inr (.inr f_sps))))), (h_cof, .inl (cy_cof, 30, .inl f_cof)), (h_td, .inr (5, (mo44 v_td (.ref h_lit)))), (h_lit, .inl (cy_lit, 16, .inl f_lit))]) (by omega)) rfl 0 (by decide) (hN.use n_f_X4_140 rfl) (fun _ h9 => h9) rfl dX4_pastClosed_21 ?_
          refine lv_topi (fun z21 ez21 => ?_)
          have vz21 : (z21).toInt = ((rf qq19).1).toInt := by rw [ez21]
          have rz21 : 0 ≤ (z21).toInt ∧ (z21).toInt ≤ 29 := by rw [ez21]; exact (hn_rok qq19 (by omega)).1
          obtain ⟨vq22, evq22⟩ := mq187_43 v_pv (.ref h_sps) (.int x_pv_stepCount) (.int x_pv_options)
          replace hP : va_P (dC, dI) cls (wp [(h_pv, .inr (3, (mo43 vq22 (.ref h_td) (.ref h_cof)))), (h_sps, .inl (cy_sps, 180, .inr (.inr (.inr (.inr f_sps))))), (h_cof, .inl (cy_cof, 30, .inl f_cof)), (h_td, .inr (5, (mo44 v_td (.ref h_lit)))), (h_lit, .inl (cy_lit, 16, .inl f_lit))] (PL nr ra rf nl la lf ns sa sf3)) H := by rw [evq22]; exact hP
          replace hD : va_D A (wp [(h_pv, .inr (3, (mo43 vq22 (.ref h_td) (.ref h_cof)))), (h_sps, .inl (cy_sps, 180, .inr (.inr (.inr (.inr f_sps))))), (h_cof, .inl (cy_cof, 30, .inl f_cof)), (h_td, .inr (5, (mo44 v_td (.ref h_lit)))), (h_lit, .inl (cy_lit, 16, .inl f_lit))] (PL nr ra rf nl la lf ns sa sf3)) := by rw [evq22]; exact hD
          have hPc := wp_P (cx := [(h_pv, .inr (3, (mo43 vq22 (.ref h_td) (.ref h_cof)))), (h_cof, .inl (cy_cof, 30, .inl f_cof)), (h_td, .inr (5, (mo44 v_td (.ref h_lit)))), (h_lit, .inl (cy_lit, 16, .inl f_lit))]) hP [0, 2, 3, 4] rfl
          have hDc := wp_D (cx := [(h_pv, .inr (3, (mo43 vq22 (.ref h_td) (.ref h_cof)))), (h_cof, .inl (cy_cof, 30, .inl f_cof)), (h_td, .inr (5, (mo44 v_td (.ref h_lit)))), (h_lit, .inl (cy_lit, 16, .inl f_lit))]) hD [0, 2, 3, 4] (by decide) rfl
          have hKc := hK.sub (tys' := [(cy_cof, .int), (cy_lit, .int)]) [1, 2] rfl
          have hFc := wp_free (cx := [(h_pv, .inr (3, (mo43 vq22 (.ref h_td) (.ref h_cof)))), (h_cof, .inl (cy_cof, 30, .inl f_cof)), (h_td, .inr (5, (mo44 v_td (.ref h_lit)))), (h_lit, .inl (cy_lit, 16, .inl f_lit))]) hD hS hA [0, 2, 3, 4] rfl
          refine va_calli (va_runV (As := [.int z21]) (rest := [.int z20]) ⟨hx, hb, hml, hown, hts⟩ (c_X4_literalsOf_s l dC dI H.size h_pv h_cof h_td h_lit vq22 cy_cof f_cof v_td cy_lit f_lit z21 hf_cof hf_lit (by omega)) (cwV 1 hts (gv hT w_m_X4_143 w_instanceMethod_X4_literalsOf ws_sel_X4_literalsOf w_ini_X4 w_code_X4_literalsOf) rfl rfl rfl (by decide +kernel) ⟨(Nat.le_of_ble_eq_true rfl), (Nat.le_of_ble_eq_true rfl)⟩) ⟨pre_blind, va_recv hK hP (ci := 3) (q0 := 0) rfl rfl, pre_of hPc hKc hDc hN⟩ rfl rfl hl.1 rfl (lv_room (Nat.le_of_ble_eq_true rfl)) dX4_pastClosed_24 ⟨(Nat.le_of_ble_eq_true rfl), (Nat.le_of_ble_eq_true rfl)⟩) hS (fun q _ h => hFc q h) hFc (fun r23 u t H locs ht hvm hq hB hz1 hk1 hS9 => ?_)
          obtain ⟨hP1, hD1⟩ := hB
          rw [ht] at hP1
          obtain ⟨hP9, hD9⟩ := va_joinQ (wr := [(h_sps, .inl (cy_sps, 180, .inr (.inr (.inr (.inr f_sps)))))]) (w1 := [(h_pv, .inr (3, (mo43 vq22 (.ref h_td) (.ref h_cof)))), (h_cof, .inl (cy_cof, 30, .inl f_cof)), (h_td, .inr (5, (mo44 v_td (.ref h_lit)))), (h_lit, .inl (cy_lit, 16, .inl f_lit))]) (cx := [(h_pv, .inr (3, (mo43 vq22 (.ref h_td) (.ref h_cof)))), (h_cof, .inl (cy_cof, 30, .inl f_cof)), (h_td, .inr (5, (mo44 v_td (.ref h_lit)))), (h_lit, .inl (cy_lit, 16, .inl f_lit))]) hP hD [0, 2, 3, 4] [1] rfl rfl (by decide) (by decide) hk1 hFc hP1 hD1
          clear hP hD hS hPc hDc hKc hFc hP1 hD1 hk1 hz1 ht hvm
          have hP : va_P (dC, dI) cls (wp [(h_sps, .inl (cy_sps, 180, .inr (.inr (.inr (.inr f_sps))))), (h_pv, .inr (3, (mo43 vq22 (.ref h_td) (.ref h_cof)))), (h_cof, .inl (cy_cof, 30, .inl f_cof)), (h_td, .inr (5, (mo44 v_td (.ref h_lit)))), (h_lit, .inl (cy_lit, 16, .inl f_lit))] (PL nr ra rf nl la lf ns sa sf3)) H := hP9
          have hD : va_D A (wp [(h_sps, .inl (cy_sps, 180, .inr (.inr (.inr (.inr f_sps))))), (h_pv, .inr (3, (mo43 vq22 (.ref h_td) (.ref h_cof)))), (h_cof, .inl (cy_cof, 30, .inl f_cof)), (h_td, .inr (5, (mo44 v_td (.ref h_lit)))), (h_lit, .inl (cy_lit, 16, .inl f_lit))] (PL nr ra rf nl la lf ns sa sf3)) := hD9
          have hS := hS9
          clear hP9 hD9 hS9
          rw [evq22] at hP hD
          replace hP : va_P (dC, dI) cls (wp [(h_sps, .inl (cy_sps, 180, .inr (.inr (.inr (.inr f_sps))))), (h_pv, .inr (3, (mo187 v_pv (.ref h_td) (.ref h_sps) (.int x_pv_stepCount) (.ref h_cof) (.int x_pv_options)))), (h_cof, .inl (cy_cof, 30, .inl f_cof)), (h_td, .inr (5, (mo44 v_td (.ref h_lit)))), (h_lit, .inl (cy_lit, 16, .inl f_lit))] (PL nr ra rf nl la lf ns sa sf3)) H := hP
          replace hD : va_D A (wp [(h_sps, .inl (cy_sps, 180, .inr (.inr (.inr (.inr f_sps))))), (h_pv, .inr (3, (mo187 v_pv (.ref h_td) (.ref h_sps) (.int x_pv_stepCount) (.ref h_cof) (.int x_pv_options)))), (h_cof, .inl (cy_cof, 30, .inl f_cof)), (h_td, .inr (5, (mo44 v_td (.ref h_lit)))), (h_lit, .inl (cy_lit, 16, .inl f_lit))] (PL nr ra rf nl la lf ns sa sf3)) := hD
          clear evq22 
          obtain ⟨k24, k25⟩ := hq
          replace k24 : 0 ≤ (r23).toInt ∧ (r23).toInt ≤ 6 := k24
          replace k25 : ((r23)).toInt = (f_lit (f_cof ((z21)).toInt.toNat).toInt.toNat).toInt := k25
          have ij9 : ∀ i j : Nat, (i : Int) < vR → (j : Int) < vR → ra i = ra j → i = j := fun i j h8 h9 e9 => wp_injR hD i j (by omega) (by omega) e9
          have gr9 := (gox_row2 hn_civ klp5_6 (by omega) ij9 hn_lq).1
          have lt9 : (r23).toInt = (f_lit (f_cof (rf qq19).1.toInt.toNat).toInt.toNat).toInt := by have h9 := k25; rw [show (z21).toInt.toNat = (rf qq19).1.toInt.toNat by omega] at h9; exact h9
          refine lv_icmp_ge (tgt := 32) hx hb dX4_pastClosed_27 (by decide) (fun c26 => ?_) (fun c26 => ?_)
          · have kc26 := (cv_le (rfl : (r23).toInt = (r23).toInt) (rfl : (z20).toInt = (z20).toInt)).mp c26
            refine lv_aload_n hx hb dX4_pastClosed_32 rfl (lv_at hl 0 rfl) ?_
            refine lv_iconst (v := 4) hx hb dX4_pastClosed_33 (by decide) ?_
            obtain ⟨vq27, evq27⟩ := mq187_42 v_pv (.ref h_td) (.ref h_sps) (.int x_pv_stepCount) (.ref h_cof)
            replace hP : va_P (dC, dI) cls (wp [(h_sps, .inl (cy_sps, 180, .inr (.inr (.inr (.inr f_sps))))), (h_pv, .inr (3, (mo42 vq27 (.int x_pv_options)))), (h_cof, .inl (cy_cof, 30, .inl f_cof)), (h_td, .inr (5, (mo44 v_td (.ref h_lit)))), (h_lit, .inl (cy_lit, 16, .inl f_lit))] (PL nr ra rf nl la lf ns sa sf3)) H := by rw [evq27]; exact hP
            replace hD : va_D A (wp [(h_sps, .inl (cy_sps, 180, .inr (.inr (.inr (.inr f_sps))))), (h_pv, .inr (3, (mo42 vq27 (.int x_pv_options)))), (h_cof, .inl (cy_cof, 30, .inl f_cof)), (h_td, .inr (5, (mo44 v_td (.ref h_lit)))), (h_lit, .inl (cy_lit, 16, .inl f_lit))] (PL nr ra rf nl la lf ns sa sf3)) := by rw [evq27]; exact hD
            have cst4 : (4 : Int32).toInt = 4 := by decide
            have hPc := wp_P (cx := [(h_pv, .inr (3, (mo42 vq27 (.int x_pv_options))))]) hP [1] rfl
            have hDc := wp_D (cx := [(h_pv, .inr (3, (mo42 vq27 (.int x_pv_options))))]) hD [1] (by decide) rfl
            have hKc := hK.sub (tys' := []) [] rfl
            have hFc := wp_free (cx := [(h_pv, .inr (3, (mo42 vq27 (.int x_pv_options))))]) hD hS hA [1] rfl
            refine va_calli (va_runV (As := [.int 4]) (rest := []) ⟨hx, hb, hml, hown, hts⟩ (c_X4_has_e l dC dI H.size h_pv vq27 x_pv_options 4) (cwV 1 hts (gv hT w_m_X4_147 w_instanceMethod_X4_has ws_sel_X4_has w_ini_X4 w_code_X4_has) rfl rfl rfl (by decide +kernel) ⟨(Nat.le_of_ble_eq_true rfl), (Nat.le_of_ble_eq_true rfl)⟩) ⟨pre_blind, va_recv hK hP (ci := 3) (q0 := 1) rfl rfl, pre_of hPc hKc hDc hN⟩ rfl rfl hl.1 rfl (lv_room (Nat.le_of_ble_eq_true rfl)) dX4_pastClosed_34 ⟨(Nat.le_of_ble_eq_true rfl), (Nat.le_of_ble_eq_true rfl)⟩) hS (fun q _ h => hFc q h) hFc (fun r28 u t H locs ht hvm hq hB hz1 hk1 hS9 => ?_)
            obtain ⟨hP1, hD1⟩ := hB
            rw [ht] at hP1
            obtain ⟨hP9, hD9⟩ := va_joinQ (wr := [(h_sps, .inl (cy_sps, 180, .inr (.inr (.inr (.inr f_sps))))), (h_cof, .inl (cy_cof, 30, .inl f_cof)), (h_td, .inr (5, (mo44 v_td (.ref h_lit)))), (h_lit, .inl (cy_lit, 16, .inl f_lit))]) (w1 := [(h_pv, .inr (3, (mo42 vq27 (.int x_pv_options))))]) (cx := [(h_pv, .inr (3, (mo42 vq27 (.int x_pv_options))))]) hP hD [1] [0, 2, 3, 4] rfl rfl (by decide) (by decide) hk1 hFc hP1 hD1
            clear hP hD hS hPc hDc hKc hFc hP1 hD1 hk1 hz1 ht hvm
            have hP : va_P (dC, dI) cls (wp [(h_sps, .inl (cy_sps, 180, .inr (.inr (.inr (.inr f_sps))))), (h_cof, .inl (cy_cof, 30, .inl f_cof)), (h_td, .inr (5, (mo44 v_td (.ref h_lit)))), (h_lit, .inl (cy_lit, 16, .inl f_lit)), (h_pv, .inr (3, (mo42 vq27 (.int x_pv_options))))] (PL nr ra rf nl la lf ns sa sf3)) H := hP9
            have hD : va_D A (wp [(h_sps, .inl (cy_sps, 180, .inr (.inr (.inr (.inr f_sps))))), (h_cof, .inl (cy_cof, 30, .inl f_cof)), (h_td, .inr (5, (mo44 v_td (.ref h_lit)))), (h_lit, .inl (cy_lit, 16, .inl f_lit)), (h_pv, .inr (3, (mo42 vq27 (.int x_pv_options))))] (PL nr ra rf nl la lf ns sa sf3)) := hD9
            have hS := hS9
            clear hP9 hD9 hS9
            rw [evq27] at hP hD
            replace hP : va_P (dC, dI) cls (wp [(h_sps, .inl (cy_sps, 180, .inr (.inr (.inr (.inr f_sps))))), (h_cof, .inl (cy_cof, 30, .inl f_cof)), (h_td, .inr (5, (mo44 v_td (.ref h_lit)))), (h_lit, .inl (cy_lit, 16, .inl f_lit)), (h_pv, .inr (3, (mo187 v_pv (.ref h_td) (.ref h_sps) (.int x_pv_stepCount) (.ref h_cof) (.int x_pv_options))))] (PL nr ra rf nl la lf ns sa sf3)) H := hP
            replace hD : va_D A (wp [(h_sps, .inl (cy_sps, 180, .inr (.inr (.inr (.inr f_sps))))), (h_cof, .inl (cy_cof, 30, .inl f_cof)), (h_td, .inr (5, (mo44 v_td (.ref h_lit)))), (h_lit, .inl (cy_lit, 16, .inl f_lit)), (h_pv, .inr (3, (mo187 v_pv (.ref h_td) (.ref h_sps) (.int x_pv_stepCount) (.ref h_cof) (.int x_pv_options))))] (PL nr ra rf nl la lf ns sa sf3)) := hD
            clear evq27 
            obtain ⟨k29, k30⟩ := hq
            replace k29 : 0 ≤ (r28).toInt ∧ (r28).toInt ≤ 1 := k29
            replace k30 : ((r28)).toInt = hasb (x_pv_options) (4 : Int32) := k30
            have hs9 : (r28).toInt = hasb x_pv_options 4 := by omega
            refine lv_if_eq (tgt := 80) hx hb dX4_pastClosed_37 (by decide) (fun c31 => ?_) (fun c31 => ?_)
            · have kc31 := (cv_eq (rfl : (r28).toInt = (r28).toInt) (by decide : (0 : Int32).toInt = 0)).mp c31
              refine lv_aload_n hx hb dX4_pastClosed_80 rfl (lv_at hl 2 rfl) ?_
              refine va_getN (D := (dC, dI)) (ci := 9) (v := va_rf (rf qq19).2.2.2.2.2.1) (C := RX6) (T := TX6) (N := 7) (host := "OppositePairs") hx hb hw iwX6 hown hK hP (5 + qq19) (pl_R (X := [(h_sps, .inl (cy_sps, 180, .inr (.inr (.inr (.inr f_sps))))), (h_cof, .inl (cy_cof, 30, .inl f_cof)), (h_td, .inr (5, (mo44 v_td (.ref h_lit)))), (h_lit, .inl (cy_lit, 16, .inl f_lit)), (h_pv, .inr (3, (mo187 v_pv (.ref h_td) (.ref h_sps) (.int x_pv_stepCount) (.ref h_cof) (.int x_pv_options))))]) (by omega)) rfl 5 (by decide) (hN.use n_f_X4_121 rfl) (fun _ h9 => h9) rfl dX4_pastClosed_81 ?_
              obtain ⟨o32, eo32⟩ : ∃ o, o = (rf qq19).2.2.2.2.2.1 := ⟨_, rfl⟩
              rw [← eo32]
              have bfo32 : PB ra qq19 o32 := by rw [eo32]; exact (hn_lvr qq19 (by omega)).2.2
              obtain ⟨gi33, oggi33, hgi33⟩ := pb_og bfo32 (by omega)
              have gx34 : GOX mq c0 la lf ra rf sf3 gbn gtr f_cof gT vI vR vL (x_pv_stepCount).toInt o32 nq := by rw [eo32]; exact gox_pop (sf' := sf3) (ln := f_lit) klp5_6 (by omega) ij9 gr9 hn_lq (by omega) (Or.inl ⟨fun h9 => by have h8 := hn_op4.mp h9.1; omega, fun _ _ => rfl⟩)
              refine lv_astore_nQ (lv' := [(2, va_rf o32), (0, .ref h_pv), (1, .ref (ra rq)), (3, .int x2)]) hx hb dX4_pastClosed_84 rfl hl (by decide) rfl (fun ls hl => ?_)
              obtain ⟨z35, ez35⟩ : ∃ y : Int32, y = x2 + 1 := ⟨_, rfl⟩
              have tz35 : (z35).toInt = (x2).toInt + 1 := by rw [ez35]; exact i_add rfl (by decide) (by omega)
              refine lv_iinc (v := z35) (lv' := [(3, .int z35), (2, va_rf o32), (0, .ref h_pv), (1, .ref (ra rq))]) hx hb dX4_pastClosed_85 hl (k := 3) rfl (by rw [ez35]; rfl) (by decide) (by simp [rf_cat]) (fun ls hl => ?_)
              refine lv_goto (tgt := 4) hx hb dX4_pastClosed_88 (by decide) ?_
              replace hP : va_P (dC, dI) cls (wp [(h_pv, .inr (3, (mo187 v_pv (.ref h_td) (.ref h_sps) (.int x_pv_stepCount) (.ref h_cof) (.int x_pv_options)))), (h_sps, .inl (cy_sps, 180, .inr (.inr (.inr (.inr f_sps))))), (h_cof, .inl (cy_cof, 30, .inl f_cof)), (h_td, .inr (5, (mo44 v_td (.ref h_lit)))), (h_lit, .inl (cy_lit, 16, .inl f_lit))] (PL nr ra rf nl la lf ns sa sf3)) H := va_P.part (cx := [(h_pv, .inr (3, (mo187 v_pv (.ref h_td) (.ref h_sps) (.int x_pv_stepCount) (.ref h_cof) (.int x_pv_options)))), (h_sps, .inl (cy_sps, 180, .inr (.inr (.inr (.inr f_sps))))), (h_cof, .inl (cy_cof, 30, .inl f_cof)), (h_td, .inr (5, (mo44 v_td (.ref h_lit)))), (h_lit, .inl (cy_lit, 16, .inl f_lit))]) hP [4, 0, 1, 2, 3] rfl
              replace hD : va_D A (wp [(h_pv, .inr (3, (mo187 v_pv (.ref h_td) (.ref h_sps) (.int x_pv_stepCount) (.ref h_cof) (.int x_pv_options)))), (h_sps, .inl (cy_sps, 180, .inr (.inr (.inr (.inr f_sps))))), (h_cof, .inl (cy_cof, 30, .inl f_cof)), (h_td, .inr (5, (mo44 v_td (.ref h_lit)))), (h_lit, .inl (cy_lit, 16, .inl f_lit))] (PL nr ra rf nl la lf ns sa sf3)) := va_D.part (cx := [(h_pv, .inr (3, (mo187 v_pv (.ref h_td) (.ref h_sps) (.int x_pv_stepCount) (.ref h_cof) (.int x_pv_options)))), (h_sps, .inl (cy_sps, 180, .inr (.inr (.inr (.inr f_sps))))), (h_cof, .inl (cy_cof, 30, .inl f_cof)), (h_td, .inr (5, (mo44 v_td (.ref h_lit)))), (h_lit, .inl (cy_lit, 16, .inl f_lit))]) hD [4, 0, 1, 2, 3] (by decide) rfl
              exact ih6 (o32) (z35) (sf3) (gi33) _ _ _ (by omega) (by omega) (by omega) oggi33 klp5_4 (lvs_cast klp5_5 (by first | rfl | omega) (by first | rfl | omega) (by first | rfl | omega) (by first | rfl | omega)) gx34 (by omega) hP hD hS (lv_sub hl [2, 3, 1, 0] rfl)
            · have kc31 := (not_congr (cv_eq (rfl : (r28).toInt = (r28).toInt) (by decide : (0 : Int32).toInt = 0))).mp c31
              replace kc31 : 1 ≤ (r28).toInt := by omega
              refine lv_aload_n hx hb dX4_pastClosed_40 rfl (lv_at hl 2 rfl) ?_
              refine va_getN (D := (dC, dI)) (ci := 9) (v := .int (rf qq19).2.2.2.2.2.2) (C := RX6) (T := TX6) (N := 7) (host := "OppositePairs") hx hb hw iwX6 hown hK hP (5 + qq19) (pl_R (X := [(h_sps, .inl (cy_sps, 180, .inr (.inr (.inr (.inr f_sps))))), (h_cof, .inl (cy_cof, 30, .inl f_cof)), (h_td, .inr (5, (mo44 v_td (.ref h_lit)))), (h_lit, .inl (cy_lit, 16, .inl f_lit)), (h_pv, .inr (3, (mo187 v_pv (.ref h_td) (.ref h_sps) (.int x_pv_stepCount) (.ref h_cof) (.int x_pv_options))))]) (by omega)) rfl 6 (by decide) (hN.use n_f_X4_125 rfl) (fun _ h9 => h9) rfl dX4_pastClosed_41 ?_
              refine lv_topi (fun z36 ez36 => ?_)
              have vz36 : (z36).toInt = ((rf qq19).2.2.2.2.2.2).toInt := by rw [ez36]
              have rz36 : -1 ≤ (z36).toInt ∧ (z36).toInt ≤ 179 := by rw [ez36]; exact (hn_rok qq19 (by omega)).2.2.2.2.2.2
              refine lv_iconst (v := (-1)) hx hb dX4_pastClosed_44 (by decide) ?_
              refine lv_icmp_eq (tgt := 80) hx hb dX4_pastClosed_45 (by decide) (fun c37 => ?_) (fun c37 => ?_)
              · have kc37 := (cv_eq (rfl : (z36).toInt = (z36).toInt) (by decide : ((-1) : Int32).toInt = -1)).mp c37
                refine lv_aload_n hx hb dX4_pastClosed_80 rfl (lv_at hl 2 rfl) ?_
                refine va_getN (D := (dC, dI)) (ci := 9) (v := va_rf (rf qq19).2.2.2.2.2.1) (C := RX6) (T := TX6) (N := 7) (host := "OppositePairs") hx hb hw iwX6 hown hK hP (5 + qq19) (pl_R (X := [(h_sps, .inl (cy_sps, 180, .inr (.inr (.inr (.inr f_sps))))), (h_cof, .inl (cy_cof, 30, .inl f_cof)), (h_td, .inr (5, (mo44 v_td (.ref h_lit)))), (h_lit, .inl (cy_lit, 16, .inl f_lit)), (h_pv, .inr (3, (mo187 v_pv (.ref h_td) (.ref h_sps) (.int x_pv_stepCount) (.ref h_cof) (.int x_pv_options))))]) (by omega)) rfl 5 (by decide) (hN.use n_f_X4_121 rfl) (fun _ h9 => h9) rfl dX4_pastClosed_81 ?_
                obtain ⟨o38, eo38⟩ : ∃ o, o = (rf qq19).2.2.2.2.2.1 := ⟨_, rfl⟩
                rw [← eo38]
                have bfo38 : PB ra qq19 o38 := by rw [eo38]; exact (hn_lvr qq19 (by omega)).2.2
                obtain ⟨gi39, oggi39, hgi39⟩ := pb_og bfo38 (by omega)
                have gx40 : GOX mq c0 la lf ra rf sf3 gbn gtr f_cof gT vI vR vL (x_pv_stepCount).toInt o38 nq := by rw [eo38]; exact gox_pop (sf' := sf3) (ln := f_lit) klp5_6 (by omega) ij9 gr9 hn_lq (by omega) (Or.inl ⟨fun h9 => h9.2 (by omega), fun _ _ => rfl⟩)
                refine lv_astore_nQ (lv' := [(2, va_rf o38), (0, .ref h_pv), (1, .ref (ra rq)), (3, .int x2)]) hx hb dX4_pastClosed_84 rfl hl (by decide) rfl (fun ls hl => ?_)
                obtain ⟨z41, ez41⟩ : ∃ y : Int32, y = x2 + 1 := ⟨_, rfl⟩
                have tz41 : (z41).toInt = (x2).toInt + 1 := by rw [ez41]; exact i_add rfl (by decide) (by omega)
                refine lv_iinc (v := z41) (lv' := [(3, .int z41), (2, va_rf o38), (0, .ref h_pv), (1, .ref (ra rq))]) hx hb dX4_pastClosed_85 hl (k := 3) rfl (by rw [ez41]; rfl) (by decide) (by simp [rf_cat]) (fun ls hl => ?_)
                refine lv_goto (tgt := 4) hx hb dX4_pastClosed_88 (by decide) ?_
                replace hP : va_P (dC, dI) cls (wp [(h_pv, .inr (3, (mo187 v_pv (.ref h_td) (.ref h_sps) (.int x_pv_stepCount) (.ref h_cof) (.int x_pv_options)))), (h_sps, .inl (cy_sps, 180, .inr (.inr (.inr (.inr f_sps))))), (h_cof, .inl (cy_cof, 30, .inl f_cof)), (h_td, .inr (5, (mo44 v_td (.ref h_lit)))), (h_lit, .inl (cy_lit, 16, .inl f_lit))] (PL nr ra rf nl la lf ns sa sf3)) H := va_P.part (cx := [(h_pv, .inr (3, (mo187 v_pv (.ref h_td) (.ref h_sps) (.int x_pv_stepCount) (.ref h_cof) (.int x_pv_options)))), (h_sps, .inl (cy_sps, 180, .inr (.inr (.inr (.inr f_sps))))), (h_cof, .inl (cy_cof, 30, .inl f_cof)), (h_td, .inr (5, (mo44 v_td (.ref h_lit)))), (h_lit, .inl (cy_lit, 16, .inl f_lit))]) hP [4, 0, 1, 2, 3] rfl
                replace hD : va_D A (wp [(h_pv, .inr (3, (mo187 v_pv (.ref h_td) (.ref h_sps) (.int x_pv_stepCount) (.ref h_cof) (.int x_pv_options)))), (h_sps, .inl (cy_sps, 180, .inr (.inr (.inr (.inr f_sps))))), (h_cof, .inl (cy_cof, 30, .inl f_cof)), (h_td, .inr (5, (mo44 v_td (.ref h_lit)))), (h_lit, .inl (cy_lit, 16, .inl f_lit))] (PL nr ra rf nl la lf ns sa sf3)) := va_D.part (cx := [(h_pv, .inr (3, (mo187 v_pv (.ref h_td) (.ref h_sps) (.int x_pv_stepCount) (.ref h_cof) (.int x_pv_options)))), (h_sps, .inl (cy_sps, 180, .inr (.inr (.inr (.inr f_sps))))), (h_cof, .inl (cy_cof, 30, .inl f_cof)), (h_td, .inr (5, (mo44 v_td (.ref h_lit)))), (h_lit, .inl (cy_lit, 16, .inl f_lit))]) hD [4, 0, 1, 2, 3] (by decide) rfl
                exact ih6 (o38) (z41) (sf3) (gi39) _ _ _ (by omega) (by omega) (by omega) oggi39 klp5_4 (lvs_cast klp5_5 (by first | rfl | omega) (by first | rfl | omega) (by first | rfl | omega) (by first | rfl | omega)) gx40 (by omega) hP hD hS (lv_sub hl [2, 3, 1, 0] rfl)
              · have kc37 := (not_congr (cv_eq (rfl : (z36).toInt = (z36).toInt) (by decide : ((-1) : Int32).toInt = -1))).mp c37
                replace kc37 : 0 ≤ (z36).toInt := by omega
                refine lv_aload_n hx hb dX4_pastClosed_48 rfl (lv_at hl 2 rfl) ?_
                refine va_getN (D := (dC, dI)) (ci := 9) (v := .int (rf qq19).2.2.2.2.2.2) (C := RX6) (T := TX6) (N := 7) (host := "OppositePairs") hx hb hw iwX6 hown hK hP (5 + qq19) (pl_R (X := [(h_sps, .inl (cy_sps, 180, .inr (.inr (.inr (.inr f_sps))))), (h_cof, .inl (cy_cof, 30, .inl f_cof)), (h_td, .inr (5, (mo44 v_td (.ref h_lit)))), (h_lit, .inl (cy_lit, 16, .inl f_lit)), (h_pv, .inr (3, (mo187 v_pv (.ref h_td) (.ref h_sps) (.int x_pv_stepCount) (.ref h_cof) (.int x_pv_options))))]) (by omega)) rfl 6 (by decide) (hN.use n_f_X4_125 rfl) (fun _ h9 => h9) rfl dX4_pastClosed_49 ?_
                refine lv_topi (fun z42 ez42 => ?_)
                have vz42 : (z42).toInt = ((rf qq19).2.2.2.2.2.2).toInt := by rw [ez42]
                have rz42 : -1 ≤ (z42).toInt ∧ (z42).toInt ≤ 179 := by rw [ez42]; exact (hn_rok qq19 (by omega)).2.2.2.2.2.2
                refine lv_istore (lv' := [(4, .int z42), (0, .ref h_pv), (1, .ref (ra rq)), (2, .ref (ra qq19)), (3, .int x2)]) hx hb dX4_pastClosed_52 hl (by decide) rfl (fun ls hl => ?_)
                have lp45 : ∀ (n : Nat) (x43 : Int32) (sf44 : Nat → ST) (H : Heap) (locs : List Loc) (ls : Array Slot), (0 ≤ (x43).toInt ∧ (x43).toInt ≤ 180) → ((rf qq19).2.2.2.2.2.2.toInt ≤ (x43).toInt) → (SOK ns sf44 nr ra nl la) → (LVS vR vL (x_pv_stepCount).toInt vI ra rf la sf44) → (FXL sf3 sf44 (rf qq19).2.2.2.2.2.2.toInt ((x43).toInt)) → (180 - (x43).toInt).toNat + 1 ≤ n → va_P (dC, dI) cls (wp [(h_sps, .inl (cy_sps, 180, .inr (.inr (.inr (.inr f_sps))))), (h_cof, .inl (cy_cof, 30, .inl f_cof)), (h_td, .inr (5, (mo44 v_td (.ref h_lit)))), (h_lit, .inl (cy_lit, 16, .inl f_lit)), (h_pv, .inr (3, (mo187 v_pv (.ref h_td) (.ref h_sps) (.int x_pv_stepCount) (.ref h_cof) (.int x_pv_options))))] (PL nr ra rf nl la lf ns sa sf44)) H → va_D A (wp [(h_sps, .inl (cy_sps, 180, .inr (.inr (.inr (.inr f_sps))))), (h_cof, .inl (cy_cof, 30, .inl f_cof)), (h_td, .inr (5, (mo44 v_td (.ref h_lit)))), (h_lit, .inl (cy_lit, 16, .inl f_lit)), (h_pv, .inr (3, (mo187 v_pv (.ref h_td) (.ref h_sps) (.int x_pv_stepCount) (.ref h_cof) (.int x_pv_options))))] (PL nr ra rf nl la lf ns sa sf44)) → va_S A s.heap H locs → lv_has ls 5 [(0, .ref h_pv), (1, .ref (ra rq)), (2, .ref (ra qq19)), (3, .int x2), (4, .int x43)] → W p l e ({ frames := 1, cells := 0, slots := 0, locals := 21 } : Room) s m ([.ref h_pv, .ref (ra rq)] : List Value).toArray below meth c H locs 0 0 (MQ below (va_Qq (fun (r : Option Nat) (u : (Nat → ST)) => (RES vR ra rf r) ∧ (SOK ns u nr ra nl la) ∧ (LVS vR vL (x_pv_stepCount).toInt vI ra rf la u) ∧ (GOX mq c0 la lf ra rf u gbn gtr f_cof gT vI vR vL (x_pv_stepCount).toInt r nq) ∧ (∀ q : Nat, (q : Int) < vR → r = some (ra q) → (rf q).2.2.1.toInt < (f_lit (f_cof (rf q).1.toInt.toNat).toInt.toNat).toInt)) (fun (u : (Nat → ST)) (t : State) => va_P (dC, dI) cls (wp [(h_pv, .inr (3, (mo187 v_pv (.ref h_td) (.ref h_sps) (.int x_pv_stepCount) (.ref h_cof) (.int x_pv_options)))), (h_sps, .inl (cy_sps, 180, .inr (.inr (.inr (.inr f_sps))))), (h_cof, .inl (cy_cof, 30, .inl f_cof)), (h_td, .inr (5, (mo44 v_td (.ref h_lit)))), (h_lit, .inl (cy_lit, 16, .inl f_lit))] (PL nr ra rf nl la lf ns sa u)) t.heap ∧ va_D A (wp [(h_pv, .inr (3, (mo187 v_pv (.ref h_td) (.ref h_sps) (.int x_pv_stepCount) (.ref h_cof) (.int x_pv_options)))), (h_sps, .inl (cy_sps, 180, .inr (.inr (.inr (.inr f_sps))))), (h_cof, .inl (cy_cof, 30, .inl f_cof)), (h_td, .inr (5, (mo44 v_td (.ref h_lit)))), (h_lit, .inl (cy_lit, 16, .inl f_lit))] (PL nr ra rf nl la lf ns sa u))) A) ([.ref h_pv, .ref (ra rq)] : List Value).toArray s (0) (0) A) (F0 m 54 ls []) := by
                  clear hP hD hS hl
                  intro n
                  induction n with
                  | zero => intro x43 sf44 H locs ls klp45_0 klp45_1 klp45_2 klp45_3 klp45_4 hm hP hD hS hl; exact False.elim (by omega)
                  | succ n ih => 
                    intro x43 sf44 H locs ls klp45_0 klp45_1 klp45_2 klp45_3 klp45_4 hm hP hD hS hl
                    have ih46 := ih
                    clear ih
                    refine lv_iload hx hb dX4_pastClosed_54 (lv_at hl 4 rfl) ?_
                    refine lv_aload_n hx hb dX4_pastClosed_56 rfl (lv_at hl 0 rfl) ?_
                    refine va_get (D := (dC, dI)) (ci := 3) (v := .int x_pv_stepCount) (C := RX4) (T := TX4) (N := 18) hx hb hw iwX4 hown hK hP 4 rfl rfl 7 (by decide) (hw _ w_f_X4_88) (fun _ h9 => h9) rfl dX4_pastClosed_57 ?_
                    refine lv_icmp_ge (tgt := 80) hx hb dX4_pastClosed_60 (by decide) (fun c47 => ?_) (fun c47 => ?_)
                    · have kc47 := (cv_le (rfl : (x_pv_stepCount).toInt = (x_pv_stepCount).toInt) (rfl : (x43).toInt = (x43).toInt)).mp c47
                      refine lv_aload_n hx hb dX4_pastClosed_80 rfl (lv_at hl 2 rfl) ?_
                      refine va_getN (D := (dC, dI)) (ci := 9) (v := va_rf (rf qq19).2.2.2.2.2.1) (C := RX6) (T := TX6) (N := 7) (host := "OppositePairs") hx hb hw iwX6 hown hK hP (5 + qq19) (pl_R (X := [(h_sps, .inl (cy_sps, 180, .inr (.inr (.inr (.inr f_sps))))), (h_cof, .inl (cy_cof, 30, .inl f_cof)), (h_td, .inr (5, (mo44 v_td (.ref h_lit)))), (h_lit, .inl (cy_lit, 16, .inl f_lit)), (h_pv, .inr (3, (mo187 v_pv (.ref h_td) (.ref h_sps) (.int x_pv_stepCount) (.ref h_cof) (.int x_pv_options))))]) (by omega)) rfl 5 (by decide) (hN.use n_f_X4_121 rfl) (fun _ h9 => h9) rfl dX4_pastClosed_81 ?_
                      obtain ⟨o48, eo48⟩ : ∃ o, o = (rf qq19).2.2.2.2.2.1 := ⟨_, rfl⟩
                      rw [← eo48]
                      have bfo48 : PB ra qq19 o48 := by rw [eo48]; exact (hn_lvr qq19 (by omega)).2.2
                      obtain ⟨gi49, oggi49, hgi49⟩ := pb_og bfo48 (by omega)
                      have gx50 : GOX mq c0 la lf ra rf sf44 gbn gtr f_cof gT vI vR vL (x_pv_stepCount).toInt o48 nq := by rw [eo48]; exact gox_pop (sf' := sf44) (ln := f_lit) klp5_6 (by omega) ij9 gr9 hn_lq (by omega) (Or.inr ⟨⟨hn_op4.mpr (by omega), by omega⟩, klp45_4.1, fun j9 h8 h9 => klp45_4.2.1 j9 h8 (by omega)⟩)
                      refine lv_astore_nQ (lv' := [(2, va_rf o48), (0, .ref h_pv), (1, .ref (ra rq)), (3, .int x2), (4, .int x43)]) hx hb dX4_pastClosed_84 rfl hl (by decide) rfl (fun ls hl => ?_)
                      obtain ⟨z51, ez51⟩ : ∃ y : Int32, y = x2 + 1 := ⟨_, rfl⟩
                      have tz51 : (z51).toInt = (x2).toInt + 1 := by rw [ez51]; exact i_add rfl (by decide) (by omega)
                      refine lv_iinc (v := z51) (lv' := [(3, .int z51), (2, va_rf o48), (0, .ref h_pv), (1, .ref (ra rq)), (4, .int x43)]) hx hb dX4_pastClosed_85 hl (k := 3) rfl (by rw [ez51]; rfl) (by decide) (by simp [rf_cat]) (fun ls hl => ?_)
                      refine lv_goto (tgt := 4) hx hb dX4_pastClosed_88 (by decide) ?_
                      replace hP : va_P (dC, dI) cls (wp [(h_pv, .inr (3, (mo187 v_pv (.ref h_td) (.ref h_sps) (.int x_pv_stepCount) (.ref h_cof) (.int x_pv_options)))), (h_sps, .inl (cy_sps, 180, .inr (.inr (.inr (.inr f_sps))))), (h_cof, .inl (cy_cof, 30, .inl f_cof)), (h_td, .inr (5, (mo44 v_td (.ref h_lit)))), (h_lit, .inl (cy_lit, 16, .inl f_lit))] (PL nr ra rf nl la lf ns sa sf44)) H := va_P.part (cx := [(h_pv, .inr (3, (mo187 v_pv (.ref h_td) (.ref h_sps) (.int x_pv_stepCount) (.ref h_cof) (.int x_pv_options)))), (h_sps, .inl (cy_sps, 180, .inr (.inr (.inr (.inr f_sps))))), (h_cof, .inl (cy_cof, 30, .inl f_cof)), (h_td, .inr (5, (mo44 v_td (.ref h_lit)))), (h_lit, .inl (cy_lit, 16, .inl f_lit))]) hP [4, 0, 1, 2, 3] rfl
                      replace hD : va_D A (wp [(h_pv, .inr (3, (mo187 v_pv (.ref h_td) (.ref h_sps) (.int x_pv_stepCount) (.ref h_cof) (.int x_pv_options)))), (h_sps, .inl (cy_sps, 180, .inr (.inr (.inr (.inr f_sps))))), (h_cof, .inl (cy_cof, 30, .inl f_cof)), (h_td, .inr (5, (mo44 v_td (.ref h_lit)))), (h_lit, .inl (cy_lit, 16, .inl f_lit))] (PL nr ra rf nl la lf ns sa sf44)) := va_D.part (cx := [(h_pv, .inr (3, (mo187 v_pv (.ref h_td) (.ref h_sps) (.int x_pv_stepCount) (.ref h_cof) (.int x_pv_options)))), (h_sps, .inl (cy_sps, 180, .inr (.inr (.inr (.inr f_sps))))), (h_cof, .inl (cy_cof, 30, .inl f_cof)), (h_td, .inr (5, (mo44 v_td (.ref h_lit)))), (h_lit, .inl (cy_lit, 16, .inl f_lit))]) hD [4, 0, 1, 2, 3] (by decide) rfl
                      exact ih6 (o48) (z51) (sf44) (gi49) _ _ _ (by omega) (by omega) (by omega) oggi49 klp45_2 (lvs_cast klp45_3 (by first | rfl | omega) (by first | rfl | omega) (by first | rfl | omega) (by first | rfl | omega)) gx50 (by omega) hP hD hS (lv_sub hl [2, 3, 1, 0] rfl)
                    · have kc47 := (not_congr (cv_le (rfl : (x_pv_stepCount).toInt = (x_pv_stepCount).toInt) (rfl : (x43).toInt = (x43).toInt))).mp c47
                      refine lv_aload_n hx hb dX4_pastClosed_63 rfl (lv_at hl 0 rfl) ?_
                      refine va_get (D := (dC, dI)) (ci := 3) (v := .ref h_sps) (C := RX4) (T := TX4) (N := 18) hx hb hw iwX4 hown hK hP 4 rfl rfl 6 (by decide) (hw _ w_f_X4_25) (fun _ h9 => h9) rfl dX4_pastClosed_64 ?_
                      refine lv_iload hx hb dX4_pastClosed_67 (lv_at hl 4 rfl) ?_
                      refine va_aldq hx hb hK hP 0 0 rfl rfl (i := x43) (vp_in_iff.mpr (by omega)) dX4_pastClosed_69 ?_
                      obtain ⟨o52, eo52⟩ : ∃ o, o = f_sps (Int32.toNatClampNeg x43) := ⟨_, rfl⟩
                      rw [← eo52]
                      have oq9 := pfx_at (k := x43) (i := (x43).toInt.toNat) hn_ps eo52 (by omega) (by omega)
                      subst oq9
                      show W p l e _ s m _ below meth c _ _ _ _ _ (F0 m 70 ls [.ref (sa (x43).toInt.toNat)])
                      refine lv_iconst (v := 1) hx hb dX4_pastClosed_70 (by decide) ?_
                      refine va_putN (D := (dC, dI)) (ci := 11) (v := .int 1) (ty := tyX7 7) (C := RX7) (T := TX7) (N := 12) (host := "OppositePairs") hx hb hw iwX7 tyX7 tyX7_ok nmX7 hown hK hP hD hS (5 + (nr + (nl + (x43).toInt.toNat))) (pl_S (X := [(h_sps, .inl (cy_sps, 180, .inr (.inr (.inr (.inr f_sps))))), (h_cof, .inl (cy_cof, 30, .inl f_cof)), (h_td, .inr (5, (mo44 v_td (.ref h_lit)))), (h_lit, .inl (cy_lit, 16, .inl f_lit)), (h_pv, .inr (3, (mo187 v_pv (.ref h_td) (.ref h_sps) (.int x_pv_stepCount) (.ref h_cof) (.int x_pv_options))))]) (by omega)) rfl 7 (by decide) (hN.use n_f_X4_151 rfl) (fun _ h9 => h9) rfl (tyX7_ok 7 (by decide)) rfl rfl (Nat.le_of_ble_eq_true rfl) dX4_pastClosed_71 (fun H locs hP hD hS => ?_)
                      have hP : va_P (dC, dI) cls (wp [(h_sps, .inl (cy_sps, 180, .inr (.inr (.inr (.inr f_sps))))), (h_cof, .inl (cy_cof, 30, .inl f_cof)), (h_td, .inr (5, (mo44 v_td (.ref h_lit)))), (h_lit, .inl (cy_lit, 16, .inl f_lit)), (h_pv, .inr (3, (mo187 v_pv (.ref h_td) (.ref h_sps) (.int x_pv_stepCount) (.ref h_cof) (.int x_pv_options))))] (PL nr ra rf nl la lf ns sa (va_up sf44 (x43).toInt.toNat ((sf44 (x43).toInt.toNat).1, (sf44 (x43).toInt.toNat).2.1, (sf44 (x43).toInt.toNat).2.2.1, (sf44 (x43).toInt.toNat).2.2.2.1, (sf44 (x43).toInt.toNat).2.2.2.2.1, (sf44 (x43).toInt.toNat).2.2.2.2.2.1, (sf44 (x43).toInt.toNat).2.2.2.2.2.2.1, (1 : Int32), (sf44 (x43).toInt.toNat).2.2.2.2.2.2.2.2.1, (sf44 (x43).toInt.toNat).2.2.2.2.2.2.2.2.2.1, (sf44 (x43).toInt.toNat).2.2.2.2.2.2.2.2.2.2.1, (sf44 (x43).toInt.toNat).2.2.2.2.2.2.2.2.2.2.2)))) H := by rw [← pl_setS (i := (x43).toInt.toNat) (by omega)]; exact hP
                      have hD : va_D A (wp [(h_sps, .inl (cy_sps, 180, .inr (.inr (.inr (.inr f_sps))))), (h_cof, .inl (cy_cof, 30, .inl f_cof)), (h_td, .inr (5, (mo44 v_td (.ref h_lit)))), (h_lit, .inl (cy_lit, 16, .inl f_lit)), (h_pv, .inr (3, (mo187 v_pv (.ref h_td) (.ref h_sps) (.int x_pv_stepCount) (.ref h_cof) (.int x_pv_options))))] (PL nr ra rf nl la lf ns sa (va_up sf44 (x43).toInt.toNat ((sf44 (x43).toInt.toNat).1, (sf44 (x43).toInt.toNat).2.1, (sf44 (x43).toInt.toNat).2.2.1, (sf44 (x43).toInt.toNat).2.2.2.1, (sf44 (x43).toInt.toNat).2.2.2.2.1, (sf44 (x43).toInt.toNat).2.2.2.2.2.1, (sf44 (x43).toInt.toNat).2.2.2.2.2.2.1, (1 : Int32), (sf44 (x43).toInt.toNat).2.2.2.2.2.2.2.2.1, (sf44 (x43).toInt.toNat).2.2.2.2.2.2.2.2.2.1, (sf44 (x43).toInt.toNat).2.2.2.2.2.2.2.2.2.2.1, (sf44 (x43).toInt.toNat).2.2.2.2.2.2.2.2.2.2.2)))) := by rw [← pl_setS (i := (x43).toInt.toNat) (by omega)]; exact hD
                      obtain ⟨sf53, esf53⟩ : ∃ g, g = (va_up sf44 (x43).toInt.toNat ((sf44 (x43).toInt.toNat).1, (sf44 (x43).toInt.toNat).2.1, (sf44 (x43).toInt.toNat).2.2.1, (sf44 (x43).toInt.toNat).2.2.2.1, (sf44 (x43).toInt.toNat).2.2.2.2.1, (sf44 (x43).toInt.toNat).2.2.2.2.2.1, (sf44 (x43).toInt.toNat).2.2.2.2.2.2.1, (1 : Int32), (sf44 (x43).toInt.toNat).2.2.2.2.2.2.2.2.1, (sf44 (x43).toInt.toNat).2.2.2.2.2.2.2.2.2.1, (sf44 (x43).toInt.toNat).2.2.2.2.2.2.2.2.2.2.1, (sf44 (x43).toInt.toNat).2.2.2.2.2.2.2.2.2.2.2)) := ⟨_, rfl⟩
                      have hP : va_P (dC, dI) cls (wp [(h_sps, .inl (cy_sps, 180, .inr (.inr (.inr (.inr f_sps))))), (h_cof, .inl (cy_cof, 30, .inl f_cof)), (h_td, .inr (5, (mo44 v_td (.ref h_lit)))), (h_lit, .inl (cy_lit, 16, .inl f_lit)), (h_pv, .inr (3, (mo187 v_pv (.ref h_td) (.ref h_sps) (.int x_pv_stepCount) (.ref h_cof) (.int x_pv_options))))] (PL nr ra rf nl la lf ns sa sf53)) H := by rw [esf53]; exact hP
                      have hD : va_D A (wp [(h_sps, .inl (cy_sps, 180, .inr (.inr (.inr (.inr f_sps))))), (h_cof, .inl (cy_cof, 30, .inl f_cof)), (h_td, .inr (5, (mo44 v_td (.ref h_lit)))), (h_lit, .inl (cy_lit, 16, .inl f_lit)), (h_pv, .inr (3, (mo187 v_pv (.ref h_td) (.ref h_sps) (.int x_pv_stepCount) (.ref h_cof) (.int x_pv_options))))] (PL nr ra rf nl la lf ns sa sf53)) := by rw [esf53]; exact hD
                      have ssf53 : sf53 (x43).toInt.toNat = ((sf44 (x43).toInt.toNat).1, (sf44 (x43).toInt.toNat).2.1, (sf44 (x43).toInt.toNat).2.2.1, (sf44 (x43).toInt.toNat).2.2.2.1, (sf44 (x43).toInt.toNat).2.2.2.2.1, (sf44 (x43).toInt.toNat).2.2.2.2.2.1, (sf44 (x43).toInt.toNat).2.2.2.2.2.2.1, (1 : Int32), (sf44 (x43).toInt.toNat).2.2.2.2.2.2.2.2.1, (sf44 (x43).toInt.toNat).2.2.2.2.2.2.2.2.2.1, (sf44 (x43).toInt.toNat).2.2.2.2.2.2.2.2.2.2.1, (sf44 (x43).toInt.toNat).2.2.2.2.2.2.2.2.2.2.2) := by rw [esf53]; exact up_self _ _ _
                      have osf53 : ∀ j : Nat, j ≠ (x43).toInt.toNat → sf53 j = sf44 j := fun j hj => by rw [esf53]; exact up_ne hj
                      have ss54b := klp45_2 (x43).toInt.toNat (by omega)
                      have : (1 : Int32).toInt = 1 := by decide
                      have ss54 : SOK ns sf53 nr ra nl la := sok_set klp45_2 osf53 ssf53 ss54b.1 ss54b.2.1 ss54b.2.2.1 ss54b.2.2.2.1 ss54b.2.2.2.2.1 ss54b.2.2.2.2.2.1 (by omega)
                      have ss54l := lvs_set (k := (x43).toInt.toNat) klp45_3 osf53 (by rw [ssf53]) (by rw [ssf53]; exact (klp45_3 (x43).toInt.toNat (by omega)).2.1) (by rw [ssf53]; exact ⟨rfl, rfl, rfl⟩)
                      have fx55 := fxl_step (K := (x43).toInt.toNat) (k' := (x43).toInt + 1) klp45_4 (by omega) (by omega) osf53 (by rw [ssf53]) rfl
                      obtain ⟨z56, ez56⟩ : ∃ y : Int32, y = x43 + 1 := ⟨_, rfl⟩
                      have tz56 : (z56).toInt = (x43).toInt + 1 := by rw [ez56]; exact i_add rfl (by decide) (by omega)
                      refine lv_iinc (v := z56) (lv' := [(4, .int z56), (0, .ref h_pv), (1, .ref (ra rq)), (2, .ref (ra qq19)), (3, .int x2)]) hx hb dX4_pastClosed_74 hl (k := 4) rfl (by rw [ez56]; rfl) (by decide) rfl (fun ls hl => ?_)
                      refine lv_goto (tgt := 54) hx hb dX4_pastClosed_77 (by decide) ?_
                      exact ih46 (z56) (sf53) _ _ _ (by omega) (by omega) ss54 (lvs_cast ss54l (by first | rfl | omega) (by first | rfl | omega) (by first | rfl | omega) (by first | rfl | omega)) (fxl_cast fx55 (by omega)) (by omega) hP hD hS (lv_sub hl [1, 2, 3, 4, 0] rfl)
                exact lp45 _ (z42) (sf3) _ _ _ (by omega) (by omega) klp5_4 (lvs_cast klp5_5 (by first | rfl | omega) (by first | rfl | omega) (by first | rfl | omega) (by first | rfl | omega)) (fxl_cast (fxl_zero rfl) (by omega)) (Nat.le_refl _) hP hD hS (lv_sub hl [1, 2, 3, 4, 0] rfl)
          · have kc26 := (not_congr (cv_le (rfl : (r23).toInt = (r23).toInt) (rfl : (z20).toInt = (z20).toInt))).mp c26
            refine lv_aload_n hx hb dX4_pastClosed_30 rfl (lv_at hl 2 rfl) ?_
            replace hP : va_P (dC, dI) cls (wp [(h_pv, .inr (3, (mo187 v_pv (.ref h_td) (.ref h_sps) (.int x_pv_stepCount) (.ref h_cof) (.int x_pv_options)))), (h_sps, .inl (cy_sps, 180, .inr (.inr (.inr (.inr f_sps))))), (h_cof, .inl (cy_cof, 30, .inl f_cof)), (h_td, .inr (5, (mo44 v_td (.ref h_lit)))), (h_lit, .inl (cy_lit, 16, .inl f_lit))] (PL nr ra rf nl la lf ns sa sf3)) H := va_P.part (cx := [(h_pv, .inr (3, (mo187 v_pv (.ref h_td) (.ref h_sps) (.int x_pv_stepCount) (.ref h_cof) (.int x_pv_options)))), (h_sps, .inl (cy_sps, 180, .inr (.inr (.inr (.inr f_sps))))), (h_cof, .inl (cy_cof, 30, .inl f_cof)), (h_td, .inr (5, (mo44 v_td (.ref h_lit)))), (h_lit, .inl (cy_lit, 16, .inl f_lit))]) hP [1, 0, 2, 3, 4] rfl
            replace hD : va_D A (wp [(h_pv, .inr (3, (mo187 v_pv (.ref h_td) (.ref h_sps) (.int x_pv_stepCount) (.ref h_cof) (.int x_pv_options)))), (h_sps, .inl (cy_sps, 180, .inr (.inr (.inr (.inr f_sps))))), (h_cof, .inl (cy_cof, 30, .inl f_cof)), (h_td, .inr (5, (mo44 v_td (.ref h_lit)))), (h_lit, .inl (cy_lit, 16, .inl f_lit))] (PL nr ra rf nl la lf ns sa sf3)) := va_D.part (cx := [(h_pv, .inr (3, (mo187 v_pv (.ref h_td) (.ref h_sps) (.int x_pv_stepCount) (.ref h_cof) (.int x_pv_options)))), (h_sps, .inl (cy_sps, 180, .inr (.inr (.inr (.inr f_sps))))), (h_cof, .inl (cy_cof, 30, .inl f_cof)), (h_td, .inr (5, (mo44 v_td (.ref h_lit)))), (h_lit, .inl (cy_lit, 16, .inl f_lit))]) hD [1, 0, 2, 3, 4] (by decide) rfl
            refine W.widen (k := 0) (n := 0) (Nat.le_of_ble_eq_true rfl) (Nat.le_of_ble_eq_true rfl) ?_
            have w57 : RES vR ra rf (some (ra qq19) : Option Nat) := (Or.inr ⟨qq19, by omega, rfl, by omega⟩)
            have w58 : SOK ns (sf3) nr ra nl la := klp5_4
            have w59 : LVS vR vL (x_pv_stepCount).toInt vI ra rf la (sf3) := (lvs_cast klp5_5 (by first | rfl | omega) (by first | rfl | omega) (by first | rfl | omega) (by first | rfl | omega))
            have w60 : GOX mq c0 la lf ra rf (sf3) gbn gtr f_cof gT vI vR vL (x_pv_stepCount).toInt (some (ra qq19) : Option Nat) nq := klp5_6
            have w61 : ∀ q : Nat, (q : Int) < vR → (some (ra qq19) : Option Nat) = some (ra q) → (rf q).2.2.1.toInt < (f_lit (f_cof (rf q).1.toInt.toNat).toInt.toNat).toInt := (fun q9 h8 h9 => by have e9 := ij9 qq19 q9 (by omega) h8 (Option.some.inj h9); subst e9; omega)
            exact W.aret (v := va_rf (some (ra qq19))) hx hb hr (Or.inl ⟨_, rfl⟩) (va_rf_or _) (fun t ht hW => ⟨⟨(some (ra qq19)), sf3, rfl, ⟨w57, w58, w59, w60, w61⟩, by rw [ht]; exact hP, hD⟩, hS.F ht⟩) hS.2.2 dX4_pastClosed_31
  have cst0 : (0 : Int32).toInt = 0 := by decide
  exact lp5 _ ((some (ra rq))) (0) (sf) ((rq : Int)) _ _ _ (by decide) (by omega) (by omega) og0 hn_sok (lvs_cast hn_lvs (by first | rfl | omega) (by first | rfl | omega) (by first | rfl | omega) (by first | rfl | omega)) hn_gox (Nat.le_refl _) hP hD hS (lv_sub hl [2, 3, 1, 0] rfl)

set_option maxHeartbeats 8000000 in
set_option maxRecDepth 100000 in
theorem c_X4_firstRow (l : Launch) (dC : Nat → ClassId) (dI : Nat → Nat → Nat) (sz : Nat) (h_pv : Nat) (h_rws : Nat) (h_cof : Nat) (h_bd : Nat) (h_bnd : Nat) (h_trl : Nat) (nr : Nat) (ra : Nat → Nat) (rf : Nat → RT) (nl : Nat) (la : Nat → Nat) (lf : Nat → LT) (ns : Nat) (sa : Nat → Nat) (sf : Nat → ST) (v_pv : Nat → Value) (x_pv_rowCount : Int32) (x_pv_linkCount : Int32) (x_pv_stepCount : Int32) (x_pv_instances : Int32) (x_pv_givenUp : Int32) (x_pv_proved : Int32) (cy_rws : ClassId) (f_rws : Nat → Option Nat) (cy_cof : ClassId) (f_cof : Nat → Int32) (v_bd : Nat → Value) (x_bd_trailed : Int32) (cy_bnd : ClassId) (f_bnd : Nat → Int32) (cy_trl : ClassId) (f_trl : Nat → Int32) (p1 : Int32) (mq : PRM) (c0 : CFT) (nq : CTT) (hx_pv_rowCount : 0 ≤ (x_pv_rowCount).toInt ∧ (x_pv_rowCount).toInt ≤ 361) (hx_pv_linkCount : 0 ≤ (x_pv_linkCount).toInt ∧ (x_pv_linkCount).toInt ≤ 210) (hx_pv_stepCount : 0 ≤ (x_pv_stepCount).toInt ∧ (x_pv_stepCount).toInt ≤ 180) (hx_pv_instances : 0 ≤ (x_pv_instances).toInt ∧ (x_pv_instances).toInt ≤ 30) (hx_pv_givenUp : 0 ≤ (x_pv_givenUp).toInt ∧ (x_pv_givenUp).toInt ≤ 1) (hx_pv_proved : 0 ≤ (x_pv_proved).toInt ∧ (x_pv_proved).toInt ≤ 1) (hf_cof : Rg 0 15 f_cof) (hx_bd_trailed : 0 ≤ (x_bd_trailed).toInt ∧ (x_bd_trailed).toInt ≤ 256) (hf_bnd : Rg 0 9600 f_bnd) (hf_trl : Rg 0 255 f_trl) (q0 : 0 ≤ (p1).toInt ∧ (p1).toInt ≤ 15) (hn_pr : PFX nr 361 f_rws ra) (hn_rok : ROK nr ra rf nl la) (hn_c0x : c0 = GOc [(0, -1, 0, [], [], -1)] [] (fun _ => -1, 1, fun _ => (p1).toInt.toNat) nq) (hn_cl0 : CLS 0 30 f_bnd) (hn_bhz : BHZ f_bnd) (hn_trc : TRC (x_bd_trailed).toInt f_trl f_bnd) (hn_btr : BTR (x_bd_trailed).toInt f_trl f_bnd) : Met l yX4_firstRow (Ws yX4_firstRow cX4_firstRow 3 (some (.object "OppositePairs$Row"))) (({ frames := 3, cells := (1 - nr), slots := 7 * (1 - nr), locals := 125 } : Room)) (PRE (dC, dI) cls [(cy_rws, .object "OppositePairs$Row"), (cy_cof, .int), (cy_bnd, .int), (cy_trl, .int)] (wp [(h_pv, .inr (3, (mo188 v_pv (.ref h_bd) (.ref h_rws) (.int x_pv_rowCount) (.int x_pv_linkCount) (.int x_pv_stepCount) (.ref h_cof) (.int x_pv_instances) (.int x_pv_givenUp) (.int x_pv_proved)))), (h_rws, .inl (cy_rws, 361, .inr (.inr (.inr (.inr f_rws))))), (h_cof, .inl (cy_cof, 30, .inl f_cof)), (h_bd, .inr (1, (mo10 v_bd (.ref h_bnd) (.ref h_trl) (.int x_bd_trailed)))), (h_bnd, .inl (cy_bnd, 256, .inl f_bnd)), (h_trl, .inl (cy_trl, 256, .inl f_trl))] (PL nr ra rf nl la lf ns sa sf)) sz [.ref h_pv, .int p1]) (va_Qq (fun (r : Option Nat) (u : (Int32) × (Int32) × (Int32) × (Int32) × (Int32) × (Int32) × (Nat → Option Nat) × (Nat → Int32) × (Int32) × (Nat → Int32) × (Nat) × (Nat → Nat) × (Nat → RT)) => (0 ≤ (u.1).toInt ∧ (u.1).toInt ≤ 361) ∧ (0 ≤ (u.2.1).toInt ∧ (u.2.1).toInt ≤ 210) ∧ (0 ≤ (u.2.2.1).toInt ∧ (u.2.2.1).toInt ≤ 180) ∧ (0 ≤ (u.2.2.2.1).toInt ∧ (u.2.2.2.1).toInt ≤ 30) ∧ (0 ≤ (u.2.2.2.2.1).toInt ∧ (u.2.2.2.2.1).toInt ≤ 1) ∧ (0 ≤ (u.2.2.2.2.2.1).toInt ∧ (u.2.2.2.2.2.1).toInt ≤ 1) ∧ (Rg 0 15 u.2.2.2.2.2.2.2.1) ∧ (0 ≤ (u.2.2.2.2.2.2.2.2.1).toInt ∧ (u.2.2.2.2.2.2.2.2.1).toInt ≤ 256) ∧ (Rg 0 9600 u.2.2.2.2.2.2.2.2.2.1) ∧ ((u.1).toInt = 1 ∧ (u.2.1).toInt = 0 ∧ (u.2.2.1).toInt = 0 ∧ (u.2.2.2.1).toInt = 1) ∧ (1 ≤ u.2.2.2.2.2.2.2.2.2.2.1 ∧ nr ≤ u.2.2.2.2.2.2.2.2.2.2.1) ∧ ((u.2.2.2.2.1).toInt = 0) ∧ ((u.2.2.2.2.2.1).toInt = 0) ∧ (GR2 nr u.2.2.2.2.2.2.2.2.2.2.1 1) ∧ (PFX u.2.2.2.2.2.2.2.2.2.2.1 361 u.2.2.2.2.2.2.1 u.2.2.2.2.2.2.2.2.2.2.2.1) ∧ (ROK u.2.2.2.2.2.2.2.2.2.2.1 u.2.2.2.2.2.2.2.2.2.2.2.1 u.2.2.2.2.2.2.2.2.2.2.2.2 nl la) ∧ (LVR 1 0 u.2.2.2.2.2.2.2.2.2.2.2.1 u.2.2.2.2.2.2.2.2.2.2.2.2 la) ∧ (∀ i : Nat, i < nr → u.2.2.2.2.2.2.2.2.2.2.2.1 i = ra i) ∧ (r = some (u.2.2.2.2.2.2.2.2.2.2.2.1 (0 : Int32).toInt.toNat)) ∧ (GOX mq c0 la lf u.2.2.2.2.2.2.2.2.2.2.2.1 u.2.2.2.2.2.2.2.2.2.2.2.2 sf u.2.2.2.2.2.2.2.2.2.1 f_trl u.2.2.2.2.2.2.2.1 (u.2.2.2.2.2.2.2.2.1).toInt (u.2.2.2.1).toInt (u.1).toInt (u.2.1).toInt (u.2.2.1).toInt r nq) ∧ (CLS 0 30 u.2.2.2.2.2.2.2.2.2.1) ∧ (BHZ u.2.2.2.2.2.2.2.2.2.1) ∧ (TRC (u.2.2.2.2.2.2.2.2.1).toInt f_trl u.2.2.2.2.2.2.2.2.2.1) ∧ (BTR (u.2.2.2.2.2.2.2.2.1).toInt f_trl u.2.2.2.2.2.2.2.2.2.1) ∧ (∀ c : Nat, c < 256 → (u.2.2.2.2.2.2.2.2.2.1 c).toInt = 0)) (fun (u : (Int32) × (Int32) × (Int32) × (Int32) × (Int32) × (Int32) × (Nat → Option Nat) × (Nat → Int32) × (Int32) × (Nat → Int32) × (Nat) × (Nat → Nat) × (Nat → RT)) (t : State) => va_P (dC, dI) cls (wp [(h_pv, .inr (3, (mo188 v_pv (.ref h_bd) (.ref h_rws) (.int u.1) (.int u.2.1) (.int u.2.2.1) (.ref h_cof) (.int u.2.2.2.1) (.int u.2.2.2.2.1) (.int u.2.2.2.2.2.1)))), (h_rws, .inl (cy_rws, 361, .inr (.inr (.inr (.inr u.2.2.2.2.2.2.1))))), (h_cof, .inl (cy_cof, 30, .inl u.2.2.2.2.2.2.2.1)), (h_bd, .inr (1, (mo10 v_bd (.ref h_bnd) (.ref h_trl) (.int u.2.2.2.2.2.2.2.2.1)))), (h_bnd, .inl (cy_bnd, 256, .inl u.2.2.2.2.2.2.2.2.2.1)), (h_trl, .inl (cy_trl, 256, .inl f_trl))] (PL u.2.2.2.2.2.2.2.2.2.2.1 u.2.2.2.2.2.2.2.2.2.2.2.1 u.2.2.2.2.2.2.2.2.2.2.2.2 nl la lf ns sa sf)) t.heap ∧ va_D (va_A (wp [(h_pv, .inr (3, (mo188 v_pv (.ref h_bd) (.ref h_rws) (.int x_pv_rowCount) (.int x_pv_linkCount) (.int x_pv_stepCount) (.ref h_cof) (.int x_pv_instances) (.int x_pv_givenUp) (.int x_pv_proved)))), (h_rws, .inl (cy_rws, 361, .inr (.inr (.inr (.inr f_rws))))), (h_cof, .inl (cy_cof, 30, .inl f_cof)), (h_bd, .inr (1, (mo10 v_bd (.ref h_bnd) (.ref h_trl) (.int x_bd_trailed)))), (h_bnd, .inl (cy_bnd, 256, .inl f_bnd)), (h_trl, .inl (cy_trl, 256, .inl f_trl))] (PL nr ra rf nl la lf ns sa sf)) sz) (wp [(h_pv, .inr (3, (mo188 v_pv (.ref h_bd) (.ref h_rws) (.int u.1) (.int u.2.1) (.int u.2.2.1) (.ref h_cof) (.int u.2.2.2.1) (.int u.2.2.2.2.1) (.int u.2.2.2.2.2.1)))), (h_rws, .inl (cy_rws, 361, .inr (.inr (.inr (.inr u.2.2.2.2.2.2.1))))), (h_cof, .inl (cy_cof, 30, .inl u.2.2.2.2.2.2.2.1)), (h_bd, .inr (1, (mo10 v_bd (.ref h_bnd) (.ref h_trl) (.int u.2.2.2.2.2.2.2.2.1)))), (h_bnd, .inl (cy_bnd, 256, .inl u.2.2.2.2.2.2.2.2.2.1)), (h_trl, .inl (cy_trl, 256, .inl f_trl))] (PL u.2.2.2.2.2.2.2.2.2.2.1 u.2.2.2.2.2.2.2.2.2.2.2.1 u.2.2.2.2.2.2.2.2.2.2.2.2 nl la lf ns sa sf))) (va_A (wp [(h_pv, .inr (3, (mo188 v_pv (.ref h_bd) (.ref h_rws) (.int x_pv_rowCount) (.int x_pv_linkCount) (.int x_pv_stepCount) (.ref h_cof) (.int x_pv_instances) (.int x_pv_givenUp) (.int x_pv_proved)))), (h_rws, .inl (cy_rws, 361, .inr (.inr (.inr (.inr f_rws))))), (h_cof, .inl (cy_cof, 30, .inl f_cof)), (h_bd, .inr (1, (mo10 v_bd (.ref h_bnd) (.ref h_trl) (.int x_bd_trailed)))), (h_bnd, .inl (cy_bnd, 256, .inl f_bnd)), (h_trl, .inl (cy_trl, 256, .inl f_trl))] (PL nr ra rf nl la lf ns sa sf)) sz)) ((1 - nr)) (7 * (1 - nr)) (va_A (wp [(h_pv, .inr (3, (mo188 v_pv (.ref h_bd) (.ref h_rws) (.int x_pv_rowCount) (.int x_pv_linkCount) (.int x_pv_stepCount) (.ref h_cof) (.int x_pv_instances) (.int x_pv_givenUp) (.int x_pv_proved)))), (h_rws, .inl (cy_rws, 361, .inr (.inr (.inr (.inr f_rws))))), (h_cof, .inl (cy_cof, 30, .inl f_cof)), (h_bd, .inr (1, (mo10 v_bd (.ref h_bnd) (.ref h_trl) (.int x_bd_trailed)))), (h_bnd, .inl (cy_bnd, 256, .inl f_bnd)), (h_trl, .inl (cy_trl, 256, .inl f_trl))] (PL nr ra rf nl la lf ns sa sf)) sz) := by
  refine Met.ofW (cc := cX4_firstRow) (maxL := 3) (ret := (some (.object "OppositePairs$Row"))) (by decide) rfl ?_
  intro p e s m args below meth c s₁ B hml hv
  obtain ⟨rfl, hsz, hP, hK, hD0, hN⟩ := hv
  have hx := B.exec
  have hb := B.bytes
  have hr := B.returns
  have hts := atoms_spec (ws := Ws yX4_firstRow cX4_firstRow 3 (some (.object "OppositePairs$Row"))) B.pre
  have hT : ∀ w ∈ WALL, w ∈ Ws yX4_firstRow cX4_firstRow 3 (some (.object "OppositePairs$Row")) := fun w h => List.mem_cons_of_mem _ h
  have hw := fun w (h : w ∈ WALL) => hts w (hT w h)
  have hown : s.vm.findClass RX4 = some m.cls := findClass_of_methodNamed B.named
  have hlocks := B.notSynchronized
  subst hsz
  have hD := hD0.self (sz := s.heap.size)
  generalize hAe : va_A (wp [(h_pv, .inr (3, (mo188 v_pv (.ref h_bd) (.ref h_rws) (.int x_pv_rowCount) (.int x_pv_linkCount) (.int x_pv_stepCount) (.ref h_cof) (.int x_pv_instances) (.int x_pv_givenUp) (.int x_pv_proved)))), (h_rws, .inl (cy_rws, 361, .inr (.inr (.inr (.inr f_rws))))), (h_cof, .inl (cy_cof, 30, .inl f_cof)), (h_bd, .inr (1, (mo10 v_bd (.ref h_bnd) (.ref h_trl) (.int x_bd_trailed)))), (h_bnd, .inl (cy_bnd, 256, .inl f_bnd)), (h_trl, .inl (cy_trl, 256, .inl f_trl))] (PL nr ra rf nl la lf ns sa sf)) s.heap.size = A at hD ⊢
  have hA : ∀ q : Nat, s.heap.size ≤ q → A q := fun q h => by rw [← hAe]; exact Or.inr h
  have hS : va_S A s.heap s.heap [] := va_S.rf
  have hl := lv_entry ([.ref h_pv, .int p1]) (n := 3) (Nat.le_of_ble_eq_true rfl)
  rw [lg_entry_eq]
  generalize (lg_sl ([.ref h_pv, .int p1]) ++ List.replicate (3 - (lg_sl ([.ref h_pv, .int p1])).length) Slot.unset).toArray = ls at hl ⊢
  have hl : lv_has ls 3 [(0, .ref h_pv), (1, .int p1)] := hl
  refine lv_aload_n hx hb dX4_firstRow_0 rfl (lv_at hl 0 rfl) ?_
  refine va_get (D := (dC, dI)) (ci := 3) (v := .ref h_bd) (C := RX4) (T := TX4) (N := 18) hx hb hw iwX4 hown hK hP 0 rfl rfl 1 (by decide) (hw _ w_f_X4_37) (fun _ h9 => h9) rfl dX4_firstRow_1 ?_
  refine lv_iconst (v := 0) hx hb dX4_firstRow_4 (by decide) ?_
  have cst0 : (0 : Int32).toInt = 0 := by decide
  have hPc := wp_P (cx := [(h_bd, .inr (1, (mo10 v_bd (.ref h_bnd) (.ref h_trl) (.int x_bd_trailed)))), (h_bnd, .inl (cy_bnd, 256, .inl f_bnd)), (h_trl, .inl (cy_trl, 256, .inl f_trl))]) hP [3, 4, 5] rfl
  have hDc := wp_D (cx := [(h_bd, .inr (1, (mo10 v_bd (.ref h_bnd) (.ref h_trl) (.int x_bd_trailed)))), (h_bnd, .inl (cy_bnd, 256, .inl f_bnd)), (h_trl, .inl (cy_trl, 256, .inl f_trl))]) hD [3, 4, 5] (by decide) rfl
  have hKc := hK.sub (tys' := [(cy_bnd, .int), (cy_trl, .int)]) [2, 3] rfl
  have hFc := wp_free (cx := [(h_bd, .inr (1, (mo10 v_bd (.ref h_bnd) (.ref h_trl) (.int x_bd_trailed)))), (h_bnd, .inl (cy_bnd, 256, .inl f_bnd)), (h_trl, .inl (cy_trl, 256, .inl f_trl))]) hD hS hA [3, 4, 5] rfl
  refine va_callv (va_runVN (As := [.int 0]) (rest := []) ⟨hx, hb, hml, hown, hts⟩ (c_X1_undo l dC dI s.heap.size h_bd h_bnd h_trl v_bd x_bd_trailed cy_bnd f_bnd cy_trl f_trl 0 (by first | exact hx_bd_trailed | omega) hf_bnd hf_trl) ⟨va_cnB (host := "OppositePairs") 1 hts (gd hT w_code_X1_undo) rfl rfl rfl (hN _ n_m_X4_95) (hw _ w_ini_X1) (by decide +kernel) ⟨(by dsimp only [headSpec]; omega), (by dsimp only [headSpec]; omega)⟩, hw _ w_instanceMethod_X1_undo, hw _ ws_sel_X1_undo⟩ ⟨pre_blind, va_recv hK hP (ci := 1) (q0 := 3) rfl rfl, pre_of hPc hKc hDc hN⟩ rfl rfl hl.1 rfl (lv_room (Nat.le_of_ble_eq_true rfl)) dX4_firstRow_5 ⟨(by dsimp only [headSpec]; omega), (by dsimp only [headSpec]; omega)⟩) hS (fun q _ h => hFc q h) hFc (fun u t H locs ht hvm hq hB hz1 hk1 hS9 => ?_)
  obtain ⟨z2, f3⟩ := u
  obtain ⟨hP1, hD1⟩ := hB
  rw [ht] at hP1
  obtain ⟨hP9, hD9⟩ := va_joinQ (wr := [(h_pv, .inr (3, (mo188 v_pv (.ref h_bd) (.ref h_rws) (.int x_pv_rowCount) (.int x_pv_linkCount) (.int x_pv_stepCount) (.ref h_cof) (.int x_pv_instances) (.int x_pv_givenUp) (.int x_pv_proved)))), (h_rws, .inl (cy_rws, 361, .inr (.inr (.inr (.inr f_rws))))), (h_cof, .inl (cy_cof, 30, .inl f_cof))]) (w1 := [(h_bd, .inr (1, (mo10 v_bd (.ref h_bnd) (.ref h_trl) (.int z2)))), (h_bnd, .inl (cy_bnd, 256, .inl f3)), (h_trl, .inl (cy_trl, 256, .inl f_trl))]) (cx := [(h_bd, .inr (1, (mo10 v_bd (.ref h_bnd) (.ref h_trl) (.int x_bd_trailed)))), (h_bnd, .inl (cy_bnd, 256, .inl f_bnd)), (h_trl, .inl (cy_trl, 256, .inl f_trl))]) hP hD [3, 4, 5] [0, 1, 2] rfl rfl (by decide) (by decide) hk1 hFc hP1 hD1
  clear hP hD hS hPc hDc hKc hFc hP1 hD1 hk1 hz1 ht hvm
  have hP : va_P (dC, dI) cls (wp [(h_pv, .inr (3, (mo188 v_pv (.ref h_bd) (.ref h_rws) (.int x_pv_rowCount) (.int x_pv_linkCount) (.int x_pv_stepCount) (.ref h_cof) (.int x_pv_instances) (.int x_pv_givenUp) (.int x_pv_proved)))), (h_rws, .inl (cy_rws, 361, .inr (.inr (.inr (.inr f_rws))))), (h_cof, .inl (cy_cof, 30, .inl f_cof)), (h_bd, .inr (1, (mo10 v_bd (.ref h_bnd) (.ref h_trl) (.int z2)))), (h_bnd, .inl (cy_bnd, 256, .inl f3)), (h_trl, .inl (cy_trl, 256, .inl f_trl))] (PL nr ra rf nl la lf ns sa sf)) H := hP9
  have hD : va_D A (wp [(h_pv, .inr (3, (mo188 v_pv (.ref h_bd) (.ref h_rws) (.int x_pv_rowCount) (.int x_pv_linkCount) (.int x_pv_stepCount) (.ref h_cof) (.int x_pv_instances) (.int x_pv_givenUp) (.int x_pv_proved)))), (h_rws, .inl (cy_rws, 361, .inr (.inr (.inr (.inr f_rws))))), (h_cof, .inl (cy_cof, 30, .inl f_cof)), (h_bd, .inr (1, (mo10 v_bd (.ref h_bnd) (.ref h_trl) (.int z2)))), (h_bnd, .inl (cy_bnd, 256, .inl f3)), (h_trl, .inl (cy_trl, 256, .inl f_trl))] (PL nr ra rf nl la lf ns sa sf)) := hD9
  have hS := hS9
  clear hP9 hD9 hS9
  obtain ⟨k4, hf3, k5, k6, k7, k8, k9⟩ := hq
  replace k4 : 0 ≤ ((z2)).toInt ∧ ((z2)).toInt ≤ 256 := k4
  replace hf3 : Rg 0 9600 (f3) := hf3
  replace k5 : ((z2)).toInt ≤ ((0 : Int32)).toInt ∨ ((z2)).toInt ≤ 0 := k5
  replace k6 : ((z2)).toInt ≤ ((x_bd_trailed)).toInt := k6
  replace k7 : ((0 : Int32)).toInt ≤ ((z2)).toInt ∨ ((z2)).toInt = ((x_bd_trailed)).toInt := k7
  replace k8 : UND ((z2)).toInt ((x_bd_trailed)).toInt f_bnd f_trl (f3) := k8
  replace k9 : UNE ((z2)).toInt ((x_bd_trailed)).toInt f_trl f_bnd (f3) := k9
  have tu10t := trc_und hn_trc k9 (by omega) hf_trl
  have tu10b := btr_und hn_btr k9
  have tu10z := btr_none tu10b (by omega)
  refine lv_aload_n hx hb dX4_firstRow_8 rfl (lv_at hl 0 rfl) ?_
  refine lv_iconst (v := 0) hx hb dX4_firstRow_9 (by decide) ?_
  refine va_put (D := (dC, dI)) (ci := 3) (v := .int 0) (ty := tyX4 17) (C := RX4) (T := TX4) (N := 18) hx hb hw iwX4 tyX4 tyX4_ok nmX4 hown hK hP hD hS 0 rfl rfl 17 (by decide) (hw _ w_f_X4_41) (fun _ h9 => h9) rfl (tyX4_ok 17 (by decide)) rfl rfl (Nat.le_of_ble_eq_true rfl) dX4_firstRow_10 (fun H locs hP9 hD9 hS9 => ?_)
  clear hP hD hS
  have hP : va_P (dC, dI) cls (wp [(h_pv, .inr (3, (mo188 v_pv (.ref h_bd) (.ref h_rws) (.int x_pv_rowCount) (.int x_pv_linkCount) (.int x_pv_stepCount) (.ref h_cof) (.int x_pv_instances) (.int x_pv_givenUp) (.int 0)))), (h_rws, .inl (cy_rws, 361, .inr (.inr (.inr (.inr f_rws))))), (h_cof, .inl (cy_cof, 30, .inl f_cof)), (h_bd, .inr (1, (mo10 v_bd (.ref h_bnd) (.ref h_trl) (.int z2)))), (h_bnd, .inl (cy_bnd, 256, .inl f3)), (h_trl, .inl (cy_trl, 256, .inl f_trl))] (PL nr ra rf nl la lf ns sa sf)) H := hP9
  have hD : va_D A (wp [(h_pv, .inr (3, (mo188 v_pv (.ref h_bd) (.ref h_rws) (.int x_pv_rowCount) (.int x_pv_linkCount) (.int x_pv_stepCount) (.ref h_cof) (.int x_pv_instances) (.int x_pv_givenUp) (.int 0)))), (h_rws, .inl (cy_rws, 361, .inr (.inr (.inr (.inr f_rws))))), (h_cof, .inl (cy_cof, 30, .inl f_cof)), (h_bd, .inr (1, (mo10 v_bd (.ref h_bnd) (.ref h_trl) (.int z2)))), (h_bnd, .inl (cy_bnd, 256, .inl f3)), (h_trl, .inl (cy_trl, 256, .inl f_trl))] (PL nr ra rf nl la lf ns sa sf)) := hD9
  have hS := hS9
  clear hP9 hD9 hS9
  refine lv_aload_n hx hb dX4_firstRow_13 rfl (lv_at hl 0 rfl) ?_
  refine lv_iconst (v := 0) hx hb dX4_firstRow_14 (by decide) ?_
  refine va_put (D := (dC, dI)) (ci := 3) (v := .int 0) (ty := tyX4 16) (C := RX4) (T := TX4) (N := 18) hx hb hw iwX4 tyX4 tyX4_ok nmX4 hown hK hP hD hS 0 rfl rfl 16 (by decide) (hw _ w_f_X4_85) (fun _ h9 => h9) rfl (tyX4_ok 16 (by decide)) rfl rfl (Nat.le_of_ble_eq_true rfl) dX4_firstRow_15 (fun H locs hP9 hD9 hS9 => ?_)
  clear hP hD hS
  have hP : va_P (dC, dI) cls (wp [(h_pv, .inr (3, (mo188 v_pv (.ref h_bd) (.ref h_rws) (.int x_pv_rowCount) (.int x_pv_linkCount) (.int x_pv_stepCount) (.ref h_cof) (.int x_pv_instances) (.int 0) (.int 0)))), (h_rws, .inl (cy_rws, 361, .inr (.inr (.inr (.inr f_rws))))), (h_cof, .inl (cy_cof, 30, .inl f_cof)), (h_bd, .inr (1, (mo10 v_bd (.ref h_bnd) (.ref h_trl) (.int z2)))), (h_bnd, .inl (cy_bnd, 256, .inl f3)), (h_trl, .inl (cy_trl, 256, .inl f_trl))] (PL nr ra rf nl la lf ns sa sf)) H := hP9
  have hD : va_D A (wp [(h_pv, .inr (3, (mo188 v_pv (.ref h_bd) (.ref h_rws) (.int x_pv_rowCount) (.int x_pv_linkCount) (.int x_pv_stepCount) (.ref h_cof) (.int x_pv_instances) (.int 0) (.int 0)))), (h_rws, .inl (cy_rws, 361, .inr (.inr (.inr (.inr f_rws))))), (h_cof, .inl (cy_cof, 30, .inl f_cof)), (h_bd, .inr (1, (mo10 v_bd (.ref h_bnd) (.ref h_trl) (.int z2)))), (h_bnd, .inl (cy_bnd, 256, .inl f3)), (h_trl, .inl (cy_trl, 256, .inl f_trl))] (PL nr ra rf nl la lf ns sa sf)) := hD9
  have hS := hS9
  clear hP9 hD9 hS9
  refine lv_aload_n hx hb dX4_firstRow_18 rfl (lv_at hl 0 rfl) ?_
  refine lv_iconst (v := 0) hx hb dX4_firstRow_19 (by decide) ?_
  refine va_put (D := (dC, dI)) (ci := 3) (v := .int 0) (ty := tyX4 3) (C := RX4) (T := TX4) (N := 18) hx hb hw iwX4 tyX4 tyX4_ok nmX4 hown hK hP hD hS 0 rfl rfl 3 (by decide) (hw _ w_f_X4_101) (fun _ h9 => h9) rfl (tyX4_ok 3 (by decide)) rfl rfl (Nat.le_of_ble_eq_true rfl) dX4_firstRow_20 (fun H locs hP9 hD9 hS9 => ?_)
  clear hP hD hS
  have hP : va_P (dC, dI) cls (wp [(h_pv, .inr (3, (mo188 v_pv (.ref h_bd) (.ref h_rws) (.int 0) (.int x_pv_linkCount) (.int x_pv_stepCount) (.ref h_cof) (.int x_pv_instances) (.int 0) (.int 0)))), (h_rws, .inl (cy_rws, 361, .inr (.inr (.inr (.inr f_rws))))), (h_cof, .inl (cy_cof, 30, .inl f_cof)), (h_bd, .inr (1, (mo10 v_bd (.ref h_bnd) (.ref h_trl) (.int z2)))), (h_bnd, .inl (cy_bnd, 256, .inl f3)), (h_trl, .inl (cy_trl, 256, .inl f_trl))] (PL nr ra rf nl la lf ns sa sf)) H := hP9
  have hD : va_D A (wp [(h_pv, .inr (3, (mo188 v_pv (.ref h_bd) (.ref h_rws) (.int 0) (.int x_pv_linkCount) (.int x_pv_stepCount) (.ref h_cof) (.int x_pv_instances) (.int 0) (.int 0)))), (h_rws, .inl (cy_rws, 361, .inr (.inr (.inr (.inr f_rws))))), (h_cof, .inl (cy_cof, 30, .inl f_cof)), (h_bd, .inr (1, (mo10 v_bd (.ref h_bnd) (.ref h_trl) (.int z2)))), (h_bnd, .inl (cy_bnd, 256, .inl f3)), (h_trl, .inl (cy_trl, 256, .inl f_trl))] (PL nr ra rf nl la lf ns sa sf)) := hD9
  have hS := hS9
  clear hP9 hD9 hS9
  refine lv_aload_n hx hb dX4_firstRow_23 rfl (lv_at hl 0 rfl) ?_
  refine lv_iconst (v := 0) hx hb dX4_firstRow_24 (by decide) ?_
  refine va_put (D := (dC, dI)) (ci := 3) (v := .int 0) (ty := tyX4 5) (C := RX4) (T := TX4) (N := 18) hx hb hw iwX4 tyX4 tyX4_ok nmX4 hown hK hP hD hS 0 rfl rfl 5 (by decide) (hw _ w_f_X4_104) (fun _ h9 => h9) rfl (tyX4_ok 5 (by decide)) rfl rfl (Nat.le_of_ble_eq_true rfl) dX4_firstRow_25 (fun H locs hP9 hD9 hS9 => ?_)
  clear hP hD hS
  have hP : va_P (dC, dI) cls (wp [(h_pv, .inr (3, (mo188 v_pv (.ref h_bd) (.ref h_rws) (.int 0) (.int 0) (.int x_pv_stepCount) (.ref h_cof) (.int x_pv_instances) (.int 0) (.int 0)))), (h_rws, .inl (cy_rws, 361, .inr (.inr (.inr (.inr f_rws))))), (h_cof, .inl (cy_cof, 30, .inl f_cof)), (h_bd, .inr (1, (mo10 v_bd (.ref h_bnd) (.ref h_trl) (.int z2)))), (h_bnd, .inl (cy_bnd, 256, .inl f3)), (h_trl, .inl (cy_trl, 256, .inl f_trl))] (PL nr ra rf nl la lf ns sa sf)) H := hP9
  have hD : va_D A (wp [(h_pv, .inr (3, (mo188 v_pv (.ref h_bd) (.ref h_rws) (.int 0) (.int 0) (.int x_pv_stepCount) (.ref h_cof) (.int x_pv_instances) (.int 0) (.int 0)))), (h_rws, .inl (cy_rws, 361, .inr (.inr (.inr (.inr f_rws))))), (h_cof, .inl (cy_cof, 30, .inl f_cof)), (h_bd, .inr (1, (mo10 v_bd (.ref h_bnd) (.ref h_trl) (.int z2)))), (h_bnd, .inl (cy_bnd, 256, .inl f3)), (h_trl, .inl (cy_trl, 256, .inl f_trl))] (PL nr ra rf nl la lf ns sa sf)) := hD9
  have hS := hS9
  clear hP9 hD9 hS9
  refine lv_aload_n hx hb dX4_firstRow_28 rfl (lv_at hl 0 rfl) ?_
  refine lv_iconst (v := 0) hx hb dX4_firstRow_29 (by decide) ?_
  refine va_put (D := (dC, dI)) (ci := 3) (v := .int 0) (ty := tyX4 7) (C := RX4) (T := TX4) (N := 18) hx hb hw iwX4 tyX4 tyX4_ok nmX4 hown hK hP hD hS 0 rfl rfl 7 (by decide) (hw _ w_f_X4_88) (fun _ h9 => h9) rfl (tyX4_ok 7 (by decide)) rfl rfl (Nat.le_of_ble_eq_true rfl) dX4_firstRow_30 (fun H locs hP9 hD9 hS9 => ?_)
  clear hP hD hS
  have hP : va_P (dC, dI) cls (wp [(h_pv, .inr (3, (mo188 v_pv (.ref h_bd) (.ref h_rws) (.int 0) (.int 0) (.int 0) (.ref h_cof) (.int x_pv_instances) (.int 0) (.int 0)))), (h_rws, .inl (cy_rws, 361, .inr (.inr (.inr (.inr f_rws))))), (h_cof, .inl (cy_cof, 30, .inl f_cof)), (h_bd, .inr (1, (mo10 v_bd (.ref h_bnd) (.ref h_trl) (.int z2)))), (h_bnd, .inl (cy_bnd, 256, .inl f3)), (h_trl, .inl (cy_trl, 256, .inl f_trl))] (PL nr ra rf nl la lf ns sa sf)) H := hP9
  have hD : va_D A (wp [(h_pv, .inr (3, (mo188 v_pv (.ref h_bd) (.ref h_rws) (.int 0) (.int 0) (.int 0) (.ref h_cof) (.int x_pv_instances) (.int 0) (.int 0)))), (h_rws, .inl (cy_rws, 361, .inr (.inr (.inr (.inr f_rws))))), (h_cof, .inl (cy_cof, 30, .inl f_cof)), (h_bd, .inr (1, (mo10 v_bd (.ref h_bnd) (.ref h_trl) (.int z2)))), (h_bnd, .inl (cy_bnd, 256, .inl f3)), (h_trl, .inl (cy_trl, 256, .inl f_trl))] (PL nr ra rf nl la lf ns sa sf)) := hD9
  have hS := hS9
  clear hP9 hD9 hS9
  refine lv_aload_n hx hb dX4_firstRow_33 rfl (lv_at hl 0 rfl) ?_
  refine va_get (D := (dC, dI)) (ci := 3) (v := .ref h_cof) (C := RX4) (T := TX4) (N := 18) hx hb hw iwX4 hown hK hP 0 rfl rfl 8 (by decide) (hw _ w_f_X4_29) (fun _ h9 => h9) rfl dX4_firstRow_34 ?_
  refine lv_iconst (v := 0) hx hb dX4_firstRow_37 (by decide) ?_
  refine lv_iload_n hx hb dX4_firstRow_38 rfl (lv_at hl 1 rfl) ?_
  refine va_iast hx hb hK hP hD hS 2 1 rfl rfl (i := 0) (x := p1) (show ¬ _ from by decide) dX4_firstRow_39 (fun H locs hP9 hD9 hS9 => ?_)
  obtain ⟨f11, ef11⟩ : ∃ g : Nat → Int32, g = upd f_cof (Int32.toNatClampNeg 0) p1 := ⟨_, rfl⟩
  clear hP hD hS
  have hP : va_P (dC, dI) cls (wp [(h_pv, .inr (3, (mo188 v_pv (.ref h_bd) (.ref h_rws) (.int 0) (.int 0) (.int 0) (.ref h_cof) (.int x_pv_instances) (.int 0) (.int 0)))), (h_rws, .inl (cy_rws, 361, .inr (.inr (.inr (.inr f_rws))))), (h_cof, .inl (cy_cof, 30, .inl f11)), (h_bd, .inr (1, (mo10 v_bd (.ref h_bnd) (.ref h_trl) (.int z2)))), (h_bnd, .inl (cy_bnd, 256, .inl f3)), (h_trl, .inl (cy_trl, 256, .inl f_trl))] (PL nr ra rf nl la lf ns sa sf)) H := by rw [ef11]; exact hP9
  have hD : va_D A (wp [(h_pv, .inr (3, (mo188 v_pv (.ref h_bd) (.ref h_rws) (.int 0) (.int 0) (.int 0) (.ref h_cof) (.int x_pv_instances) (.int 0) (.int 0)))), (h_rws, .inl (cy_rws, 361, .inr (.inr (.inr (.inr f_rws))))), (h_cof, .inl (cy_cof, 30, .inl f11)), (h_bd, .inr (1, (mo10 v_bd (.ref h_bnd) (.ref h_trl) (.int z2)))), (h_bnd, .inl (cy_bnd, 256, .inl f3)), (h_trl, .inl (cy_trl, 256, .inl f_trl))] (PL nr ra rf nl la lf ns sa sf)) := by rw [ef11]; exact hD9
  have hS := hS9
  clear hP9 hD9 hS9
  have hf11 : Rg 0 15 f11 := by rw [ef11]; exact rg_upd hf_cof (by omega)
  refine lv_aload_n hx hb dX4_firstRow_40 rfl (lv_at hl 0 rfl) ?_
  refine lv_iconst (v := 1) hx hb dX4_firstRow_41 (by decide) ?_
  refine va_put (D := (dC, dI)) (ci := 3) (v := .int 1) (ty := tyX4 9) (C := RX4) (T := TX4) (N := 18) hx hb hw iwX4 tyX4 tyX4_ok nmX4 hown hK hP hD hS 0 rfl rfl 9 (by decide) (hw _ w_f_X4_107) (fun _ h9 => h9) rfl (tyX4_ok 9 (by decide)) rfl rfl (Nat.le_of_ble_eq_true rfl) dX4_firstRow_42 (fun H locs hP9 hD9 hS9 => ?_)
  clear hP hD hS
  have hP : va_P (dC, dI) cls (wp [(h_pv, .inr (3, (mo188 v_pv (.ref h_bd) (.ref h_rws) (.int 0) (.int 0) (.int 0) (.ref h_cof) (.int 1) (.int 0) (.int 0)))), (h_rws, .inl (cy_rws, 361, .inr (.inr (.inr (.inr f_rws))))), (h_cof, .inl (cy_cof, 30, .inl f11)), (h_bd, .inr (1, (mo10 v_bd (.ref h_bnd) (.ref h_trl) (.int z2)))), (h_bnd, .inl (cy_bnd, 256, .inl f3)), (h_trl, .inl (cy_trl, 256, .inl f_trl))] (PL nr ra rf nl la lf ns sa sf)) H := hP9
  have hD : va_D A (wp [(h_pv, .inr (3, (mo188 v_pv (.ref h_bd) (.ref h_rws) (.int 0) (.int 0) (.int 0) (.ref h_cof) (.int 1) (.int 0) (.int 0)))), (h_rws, .inl (cy_rws, 361, .inr (.inr (.inr (.inr f_rws))))), (h_cof, .inl (cy_cof, 30, .inl f11)), (h_bd, .inr (1, (mo10 v_bd (.ref h_bnd) (.ref h_trl) (.int z2)))), (h_bnd, .inl (cy_bnd, 256, .inl f3)), (h_trl, .inl (cy_trl, 256, .inl f_trl))] (PL nr ra rf nl la lf ns sa sf)) := hD9
  have hS := hS9
  clear hP9 hD9 hS9
  refine lv_aload_n hx hb dX4_firstRow_45 rfl (lv_at hl 0 rfl) ?_
  refine lv_iconst (v := 0) hx hb dX4_firstRow_46 (by decide) ?_
  refine lv_iconst (v := (-1)) hx hb dX4_firstRow_47 (by decide) ?_
  refine lv_iconst (v := 0) hx hb dX4_firstRow_48 (by decide) ?_
  have cst0 : (0 : Int32).toInt = 0 := by decide
  have cstm1 : (-1 : Int32).toInt = -1 := by decide
  obtain ⟨vq12, evq12⟩ := mq188_175 v_pv (.ref h_bd) (.int 0) (.int 0) (.ref h_cof) (.int 1) (.int 0) (.int 0)
  replace hP : va_P (dC, dI) cls (wp [(h_pv, .inr (3, (mo175 vq12 (.ref h_rws) (.int 0)))), (h_rws, .inl (cy_rws, 361, .inr (.inr (.inr (.inr f_rws))))), (h_cof, .inl (cy_cof, 30, .inl f11)), (h_bd, .inr (1, (mo10 v_bd (.ref h_bnd) (.ref h_trl) (.int z2)))), (h_bnd, .inl (cy_bnd, 256, .inl f3)), (h_trl, .inl (cy_trl, 256, .inl f_trl))] (PL nr ra rf nl la lf ns sa sf)) H := by rw [evq12]; exact hP
  replace hD : va_D A (wp [(h_pv, .inr (3, (mo175 vq12 (.ref h_rws) (.int 0)))), (h_rws, .inl (cy_rws, 361, .inr (.inr (.inr (.inr f_rws))))), (h_cof, .inl (cy_cof, 30, .inl f11)), (h_bd, .inr (1, (mo10 v_bd (.ref h_bnd) (.ref h_trl) (.int z2)))), (h_bnd, .inl (cy_bnd, 256, .inl f3)), (h_trl, .inl (cy_trl, 256, .inl f_trl))] (PL nr ra rf nl la lf ns sa sf)) := by rw [evq12]; exact hD
  have cst0 : (0 : Int32).toInt = 0 := by decide
  have cstm1 : ((-1) : Int32).toInt = -1 := by decide
  have cst0 : (0 : Int32).toInt = 0 := by decide
  have hPc : va_P (dC, dI) cls (wp [(h_pv, .inr (3, (mo175 vq12 (.ref h_rws) (.int 0)))), (h_rws, .inl (cy_rws, 361, .inr (.inr (.inr (.inr f_rws)))))] (PL nr ra rf nl la lf ns sa sf)) H := va_P.part (cx := [(h_pv, .inr (3, (mo175 vq12 (.ref h_rws) (.int 0)))), (h_rws, .inl (cy_rws, 361, .inr (.inr (.inr (.inr f_rws)))))]) hP [0, 1] rfl
  have hDc : va_D A (wp [(h_pv, .inr (3, (mo175 vq12 (.ref h_rws) (.int 0)))), (h_rws, .inl (cy_rws, 361, .inr (.inr (.inr (.inr f_rws)))))] (PL nr ra rf nl la lf ns sa sf)) := va_D.part (cx := [(h_pv, .inr (3, (mo175 vq12 (.ref h_rws) (.int 0)))), (h_rws, .inl (cy_rws, 361, .inr (.inr (.inr (.inr f_rws)))))]) hD [0, 1] (by decide) rfl
  have hKc := hK.sub (tys' := [(cy_rws, .object "OppositePairs$Row")]) [0] rfl
  have hFc : ∀ q, va_A (wp [(h_pv, .inr (3, (mo175 vq12 (.ref h_rws) (.int 0)))), (h_rws, .inl (cy_rws, 361, .inr (.inr (.inr (.inr f_rws)))))] (PL nr ra rf nl la lf ns sa sf)) H.size q → A q := va_freeP (cx := [(h_pv, .inr (3, (mo175 vq12 (.ref h_rws) (.int 0)))), (h_rws, .inl (cy_rws, 361, .inr (.inr (.inr (.inr f_rws)))))]) hD hS hA [0, 1] rfl
  refine va_callq (va_runV (As := [.int 0, .int (-1), .int 0]) (rest := []) ⟨hx, hb, hml, hown, hts⟩ (c_X4_newRow l dC dI H.size h_pv h_rws nr ra rf nl la lf ns sa sf vq12 0 cy_rws f_rws 0 (-1) 0 (by decide) (by omega) (by omega) (by omega) (by omega) (by omega) hn_pr hn_rok) (cwV 3 hts (gv hT w_m_X4_110 w_instanceMethod_X4_newRow ws_sel_X4_newRow w_ini_X4 w_code_X4_newRow) rfl rfl rfl (by decide +kernel) ⟨(by dsimp only [headSpec]; omega), (by dsimp only [headSpec]; omega)⟩) ⟨pre_blind, va_recv hK hP (ci := 3) (q0 := 0) rfl rfl, pre_of hPc hKc hDc hN⟩ rfl rfl hl.1 rfl (lv_room (Nat.le_of_ble_eq_true rfl)) dX4_firstRow_49 ⟨(by dsimp only [headSpec]; omega), (by dsimp only [headSpec]; omega)⟩) hS (fun q _ h => hFc q h) hFc (fun o13 u t H locs ht hvm hq hB hz1 hk1 hS9 => ?_)
  obtain ⟨z14, f15, nr16, ra17, rf18⟩ := u
  obtain ⟨hP1, hD1⟩ := hB
  rw [ht] at hP1
  obtain ⟨hP9, hD9⟩ := va_joinP (wr := [(h_cof, .inl (cy_cof, 30, .inl f11)), (h_bd, .inr (1, (mo10 v_bd (.ref h_bnd) (.ref h_trl) (.int z2)))), (h_bnd, .inl (cy_bnd, 256, .inl f3)), (h_trl, .inl (cy_trl, 256, .inl f_trl))]) (rx := [(h_pv, .inr (3, (mo175 vq12 (.ref h_rws) (.int z14)))), (h_rws, .inl (cy_rws, 361, .inr (.inr (.inr (.inr f15)))))]) (cx := [(h_pv, .inr (3, (mo175 vq12 (.ref h_rws) (.int 0)))), (h_rws, .inl (cy_rws, 361, .inr (.inr (.inr (.inr f_rws)))))]) hP hD [0, 1] [2, 3, 4, 5] rfl rfl (by decide) (by decide) hk1 hFc hP1 hD1
  clear hP hD hS hPc hDc hKc hFc hP1 hD1 hk1 hz1 ht hvm
  have hP : va_P (dC, dI) cls (wp [(h_cof, .inl (cy_cof, 30, .inl f11)), (h_bd, .inr (1, (mo10 v_bd (.ref h_bnd) (.ref h_trl) (.int z2)))), (h_bnd, .inl (cy_bnd, 256, .inl f3)), (h_trl, .inl (cy_trl, 256, .inl f_trl)), (h_pv, .inr (3, (mo175 vq12 (.ref h_rws) (.int z14)))), (h_rws, .inl (cy_rws, 361, .inr (.inr (.inr (.inr f15)))))] (PL nr16 ra17 rf18 nl la lf ns sa sf)) H := hP9
  have hD : va_D A (wp [(h_cof, .inl (cy_cof, 30, .inl f11)), (h_bd, .inr (1, (mo10 v_bd (.ref h_bnd) (.ref h_trl) (.int z2)))), (h_bnd, .inl (cy_bnd, 256, .inl f3)), (h_trl, .inl (cy_trl, 256, .inl f_trl)), (h_pv, .inr (3, (mo175 vq12 (.ref h_rws) (.int z14)))), (h_rws, .inl (cy_rws, 361, .inr (.inr (.inr (.inr f15)))))] (PL nr16 ra17 rf18 nl la lf ns sa sf)) := hD9
  have hS := hS9
  clear hP9 hD9 hS9
  rw [evq12] at hP hD
  replace hP : va_P (dC, dI) cls (wp [(h_cof, .inl (cy_cof, 30, .inl f11)), (h_bd, .inr (1, (mo10 v_bd (.ref h_bnd) (.ref h_trl) (.int z2)))), (h_bnd, .inl (cy_bnd, 256, .inl f3)), (h_trl, .inl (cy_trl, 256, .inl f_trl)), (h_pv, .inr (3, (mo188 v_pv (.ref h_bd) (.ref h_rws) (.int z14) (.int 0) (.int 0) (.ref h_cof) (.int 1) (.int 0) (.int 0)))), (h_rws, .inl (cy_rws, 361, .inr (.inr (.inr (.inr f15)))))] (PL nr16 ra17 rf18 nl la lf ns sa sf)) H := hP
  replace hD : va_D A (wp [(h_cof, .inl (cy_cof, 30, .inl f11)), (h_bd, .inr (1, (mo10 v_bd (.ref h_bnd) (.ref h_trl) (.int z2)))), (h_bnd, .inl (cy_bnd, 256, .inl f3)), (h_trl, .inl (cy_trl, 256, .inl f_trl)), (h_pv, .inr (3, (mo188 v_pv (.ref h_bd) (.ref h_rws) (.int z14) (.int 0) (.int 0) (.ref h_cof) (.int 1) (.int 0) (.int 0)))), (h_rws, .inl (cy_rws, 361, .inr (.inr (.inr (.inr f15)))))] (PL nr16 ra17 rf18 nl la lf ns sa sf)) := hD
  clear evq12 
  obtain ⟨k19, k20, k21, k22, k23, k24, k25, k26, k27, k28⟩ := hq
  replace k19 : 0 ≤ ((z14)).toInt ∧ ((z14)).toInt ≤ 361 := k19
  replace k20 : ((z14)).toInt = ((0 : Int32)).toInt + 1 := k20
  replace k21 : (nr) ≤ (nr16) ∧ ((0 : Int32)).toInt + 1 ≤ (nr16) := k21
  replace k22 : GR2 (nr) (nr16) ((z14)).toInt := k22
  replace k23 : PFX (nr16) 361 (f15) (ra17) := k23
  replace k24 : ROK (nr16) (ra17) (rf18) (nl) (la) := k24
  replace k25 : ∀ i : Nat, i < (nr) → (ra17) i = (ra) i := k25
  replace k26 : (∀ i : Nat, i ≠ ((0 : Int32)).toInt.toNat → (rf18) i = (rf) i) ∧ ((rf18) ((0 : Int32)).toInt.toNat).1 = (0 : Int32) ∧ ((rf18) ((0 : Int32)).toInt.toNat).2.1 = ((-1) : Int32) ∧ (0 ≤ ((rf18) ((0 : Int32)).toInt.toNat).2.2.1.toInt ∧ ((rf18) ((0 : Int32)).toInt.toNat).2.2.1.toInt ≤ ((0 : Int32)).toInt + 1) := k26
  replace k27 : (o13) = some ((ra17) ((0 : Int32)).toInt.toNat) := k27
  replace k28 : ((rf18) ((0 : Int32)).toInt.toNat).2.2.1.toInt = NXI (((-1) : Int32)).toInt ((0 : Int32)).toInt := k28
  have rto13 := k27
  subst rto13
  show W p l e _ s m _ below meth c _ _ _ _ _ (F0 m 52 ls [.ref (ra17 (0 : Int32).toInt.toNat)])
  refine lv_astore_n (lv' := [(2, .ref (ra17 (0 : Int32).toInt.toNat)), (0, .ref h_pv), (1, .int p1)]) hx hb dX4_firstRow_52 rfl hl (by decide) rfl (fun ls hl => ?_)
  refine lv_aload_n hx hb dX4_firstRow_53 rfl (lv_at hl 0 rfl) ?_
  refine lv_null hx hb dX4_firstRow_54 ?_
  show W p l e _ s m _ below meth c _ _ _ _ _ (F0 m 55 _ (va_rf none :: _))
  refine va_putN (D := (dC, dI)) (ci := 9) (v := (va_rf none)) (ty := tyX6 3) (C := RX6) (T := TX6) (N := 7) (host := "OppositePairs") hx hb hw iwX6 tyX6 tyX6_ok nmX6 hown hK hP hD hS (6 + (0 : Int32).toInt.toNat) (pl_R (X := [(h_cof, .inl (cy_cof, 30, .inl f11)), (h_bd, .inr (1, (mo10 v_bd (.ref h_bnd) (.ref h_trl) (.int z2)))), (h_bnd, .inl (cy_bnd, 256, .inl f3)), (h_trl, .inl (cy_trl, 256, .inl f_trl)), (h_pv, .inr (3, (mo188 v_pv (.ref h_bd) (.ref h_rws) (.int z14) (.int 0) (.int 0) (.ref h_cof) (.int 1) (.int 0) (.int 0)))), (h_rws, .inl (cy_rws, 361, .inr (.inr (.inr (.inr f15)))))]) (by omega)) rfl 3 (by decide) (hN.use n_f_X4_114 rfl) (fun _ h9 => h9) rfl (tyX6_ok 3 (by decide)) (rf_nar none _) (rf_fit none _) (Nat.le_of_ble_eq_true rfl) dX4_firstRow_55 (fun H locs hP hD hS => ?_)
  have hP : va_P (dC, dI) cls (wp [(h_cof, .inl (cy_cof, 30, .inl f11)), (h_bd, .inr (1, (mo10 v_bd (.ref h_bnd) (.ref h_trl) (.int z2)))), (h_bnd, .inl (cy_bnd, 256, .inl f3)), (h_trl, .inl (cy_trl, 256, .inl f_trl)), (h_pv, .inr (3, (mo188 v_pv (.ref h_bd) (.ref h_rws) (.int z14) (.int 0) (.int 0) (.ref h_cof) (.int 1) (.int 0) (.int 0)))), (h_rws, .inl (cy_rws, 361, .inr (.inr (.inr (.inr f15)))))] (PL nr16 ra17 (va_up rf18 (0 : Int32).toInt.toNat ((rf18 (0 : Int32).toInt.toNat).1, (rf18 (0 : Int32).toInt.toNat).2.1, (rf18 (0 : Int32).toInt.toNat).2.2.1, none, (rf18 (0 : Int32).toInt.toNat).2.2.2.2.1, (rf18 (0 : Int32).toInt.toNat).2.2.2.2.2.1, (rf18 (0 : Int32).toInt.toNat).2.2.2.2.2.2)) nl la lf ns sa sf)) H := by rw [← pl_setR (i := (0 : Int32).toInt.toNat) (by omega)]; exact hP
  have hD : va_D A (wp [(h_cof, .inl (cy_cof, 30, .inl f11)), (h_bd, .inr (1, (mo10 v_bd (.ref h_bnd) (.ref h_trl) (.int z2)))), (h_bnd, .inl (cy_bnd, 256, .inl f3)), (h_trl, .inl (cy_trl, 256, .inl f_trl)), (h_pv, .inr (3, (mo188 v_pv (.ref h_bd) (.ref h_rws) (.int z14) (.int 0) (.int 0) (.ref h_cof) (.int 1) (.int 0) (.int 0)))), (h_rws, .inl (cy_rws, 361, .inr (.inr (.inr (.inr f15)))))] (PL nr16 ra17 (va_up rf18 (0 : Int32).toInt.toNat ((rf18 (0 : Int32).toInt.toNat).1, (rf18 (0 : Int32).toInt.toNat).2.1, (rf18 (0 : Int32).toInt.toNat).2.2.1, none, (rf18 (0 : Int32).toInt.toNat).2.2.2.2.1, (rf18 (0 : Int32).toInt.toNat).2.2.2.2.2.1, (rf18 (0 : Int32).toInt.toNat).2.2.2.2.2.2)) nl la lf ns sa sf)) := by rw [← pl_setR (i := (0 : Int32).toInt.toNat) (by omega)]; exact hD
  refine lv_aload_n hx hb dX4_firstRow_58 rfl (lv_at hl 0 rfl) ?_
  refine lv_null hx hb dX4_firstRow_59 ?_
  show W p l e _ s m _ below meth c _ _ _ _ _ (F0 m 60 _ (va_rf none :: _))
  refine va_putN (D := (dC, dI)) (ci := 9) (v := (va_rf none)) (ty := tyX6 4) (C := RX6) (T := TX6) (N := 7) (host := "OppositePairs") hx hb hw iwX6 tyX6 tyX6_ok nmX6 hown hK hP hD hS (6 + (0 : Int32).toInt.toNat) (pl_R2 (X := [(h_cof, .inl (cy_cof, 30, .inl f11)), (h_bd, .inr (1, (mo10 v_bd (.ref h_bnd) (.ref h_trl) (.int z2)))), (h_bnd, .inl (cy_bnd, 256, .inl f3)), (h_trl, .inl (cy_trl, 256, .inl f_trl)), (h_pv, .inr (3, (mo188 v_pv (.ref h_bd) (.ref h_rws) (.int z14) (.int 0) (.int 0) (.ref h_cof) (.int 1) (.int 0) (.int 0)))), (h_rws, .inl (cy_rws, 361, .inr (.inr (.inr (.inr f15)))))]) (by omega)) rfl 4 (by decide) (hN.use n_f_X4_118 rfl) (fun _ h9 => h9) rfl (tyX6_ok 4 (by decide)) (rf_nar none _) (rf_fit none _) (Nat.le_of_ble_eq_true rfl) dX4_firstRow_60 (fun H locs hP hD hS => ?_)
  have hP : va_P (dC, dI) cls (wp [(h_cof, .inl (cy_cof, 30, .inl f11)), (h_bd, .inr (1, (mo10 v_bd (.ref h_bnd) (.ref h_trl) (.int z2)))), (h_bnd, .inl (cy_bnd, 256, .inl f3)), (h_trl, .inl (cy_trl, 256, .inl f_trl)), (h_pv, .inr (3, (mo188 v_pv (.ref h_bd) (.ref h_rws) (.int z14) (.int 0) (.int 0) (.ref h_cof) (.int 1) (.int 0) (.int 0)))), (h_rws, .inl (cy_rws, 361, .inr (.inr (.inr (.inr f15)))))] (PL nr16 ra17 (va_up rf18 (0 : Int32).toInt.toNat ((rf18 (0 : Int32).toInt.toNat).1, (rf18 (0 : Int32).toInt.toNat).2.1, (rf18 (0 : Int32).toInt.toNat).2.2.1, none, none, (rf18 (0 : Int32).toInt.toNat).2.2.2.2.2.1, (rf18 (0 : Int32).toInt.toNat).2.2.2.2.2.2)) nl la lf ns sa sf)) H := by rw [← pl_setR2 (i := (0 : Int32).toInt.toNat) (by omega)]; exact hP
  have hD : va_D A (wp [(h_cof, .inl (cy_cof, 30, .inl f11)), (h_bd, .inr (1, (mo10 v_bd (.ref h_bnd) (.ref h_trl) (.int z2)))), (h_bnd, .inl (cy_bnd, 256, .inl f3)), (h_trl, .inl (cy_trl, 256, .inl f_trl)), (h_pv, .inr (3, (mo188 v_pv (.ref h_bd) (.ref h_rws) (.int z14) (.int 0) (.int 0) (.ref h_cof) (.int 1) (.int 0) (.int 0)))), (h_rws, .inl (cy_rws, 361, .inr (.inr (.inr (.inr f15)))))] (PL nr16 ra17 (va_up rf18 (0 : Int32).toInt.toNat ((rf18 (0 : Int32).toInt.toNat).1, (rf18 (0 : Int32).toInt.toNat).2.1, (rf18 (0 : Int32).toInt.toNat).2.2.1, none, none, (rf18 (0 : Int32).toInt.toNat).2.2.2.2.2.1, (rf18 (0 : Int32).toInt.toNat).2.2.2.2.2.2)) nl la lf ns sa sf)) := by rw [← pl_setR2 (i := (0 : Int32).toInt.toNat) (by omega)]; exact hD
  refine lv_aload_n hx hb dX4_firstRow_63 rfl (lv_at hl 0 rfl) ?_
  refine lv_null hx hb dX4_firstRow_64 ?_
  show W p l e _ s m _ below meth c _ _ _ _ _ (F0 m 65 _ (va_rf none :: _))
  refine va_putN (D := (dC, dI)) (ci := 9) (v := (va_rf none)) (ty := tyX6 5) (C := RX6) (T := TX6) (N := 7) (host := "OppositePairs") hx hb hw iwX6 tyX6 tyX6_ok nmX6 hown hK hP hD hS (6 + (0 : Int32).toInt.toNat) (pl_R2 (X := [(h_cof, .inl (cy_cof, 30, .inl f11)), (h_bd, .inr (1, (mo10 v_bd (.ref h_bnd) (.ref h_trl) (.int z2)))), (h_bnd, .inl (cy_bnd, 256, .inl f3)), (h_trl, .inl (cy_trl, 256, .inl f_trl)), (h_pv, .inr (3, (mo188 v_pv (.ref h_bd) (.ref h_rws) (.int z14) (.int 0) (.int 0) (.ref h_cof) (.int 1) (.int 0) (.int 0)))), (h_rws, .inl (cy_rws, 361, .inr (.inr (.inr (.inr f15)))))]) (by omega)) rfl 5 (by decide) (hN.use n_f_X4_121 rfl) (fun _ h9 => h9) rfl (tyX6_ok 5 (by decide)) (rf_nar none _) (rf_fit none _) (Nat.le_of_ble_eq_true rfl) dX4_firstRow_65 (fun H locs hP hD hS => ?_)
  have hP : va_P (dC, dI) cls (wp [(h_cof, .inl (cy_cof, 30, .inl f11)), (h_bd, .inr (1, (mo10 v_bd (.ref h_bnd) (.ref h_trl) (.int z2)))), (h_bnd, .inl (cy_bnd, 256, .inl f3)), (h_trl, .inl (cy_trl, 256, .inl f_trl)), (h_pv, .inr (3, (mo188 v_pv (.ref h_bd) (.ref h_rws) (.int z14) (.int 0) (.int 0) (.ref h_cof) (.int 1) (.int 0) (.int 0)))), (h_rws, .inl (cy_rws, 361, .inr (.inr (.inr (.inr f15)))))] (PL nr16 ra17 (va_up rf18 (0 : Int32).toInt.toNat ((rf18 (0 : Int32).toInt.toNat).1, (rf18 (0 : Int32).toInt.toNat).2.1, (rf18 (0 : Int32).toInt.toNat).2.2.1, none, none, none, (rf18 (0 : Int32).toInt.toNat).2.2.2.2.2.2)) nl la lf ns sa sf)) H := by rw [← pl_setR2 (i := (0 : Int32).toInt.toNat) (by omega)]; exact hP
  have hD : va_D A (wp [(h_cof, .inl (cy_cof, 30, .inl f11)), (h_bd, .inr (1, (mo10 v_bd (.ref h_bnd) (.ref h_trl) (.int z2)))), (h_bnd, .inl (cy_bnd, 256, .inl f3)), (h_trl, .inl (cy_trl, 256, .inl f_trl)), (h_pv, .inr (3, (mo188 v_pv (.ref h_bd) (.ref h_rws) (.int z14) (.int 0) (.int 0) (.ref h_cof) (.int 1) (.int 0) (.int 0)))), (h_rws, .inl (cy_rws, 361, .inr (.inr (.inr (.inr f15)))))] (PL nr16 ra17 (va_up rf18 (0 : Int32).toInt.toNat ((rf18 (0 : Int32).toInt.toNat).1, (rf18 (0 : Int32).toInt.toNat).2.1, (rf18 (0 : Int32).toInt.toNat).2.2.1, none, none, none, (rf18 (0 : Int32).toInt.toNat).2.2.2.2.2.2)) nl la lf ns sa sf)) := by rw [← pl_setR2 (i := (0 : Int32).toInt.toNat) (by omega)]; exact hD
  refine lv_aload_n hx hb dX4_firstRow_68 rfl (lv_at hl 0 rfl) ?_
  refine lv_iconst (v := (-1)) hx hb dX4_firstRow_69 (by decide) ?_
  refine va_putN (D := (dC, dI)) (ci := 9) (v := .int (-1)) (ty := tyX6 6) (C := RX6) (T := TX6) (N := 7) (host := "OppositePairs") hx hb hw iwX6 tyX6 tyX6_ok nmX6 hown hK hP hD hS (6 + (0 : Int32).toInt.toNat) (pl_R2 (X := [(h_cof, .inl (cy_cof, 30, .inl f11)), (h_bd, .inr (1, (mo10 v_bd (.ref h_bnd) (.ref h_trl) (.int z2)))), (h_bnd, .inl (cy_bnd, 256, .inl f3)), (h_trl, .inl (cy_trl, 256, .inl f_trl)), (h_pv, .inr (3, (mo188 v_pv (.ref h_bd) (.ref h_rws) (.int z14) (.int 0) (.int 0) (.ref h_cof) (.int 1) (.int 0) (.int 0)))), (h_rws, .inl (cy_rws, 361, .inr (.inr (.inr (.inr f15)))))]) (by omega)) rfl 6 (by decide) (hN.use n_f_X4_125 rfl) (fun _ h9 => h9) rfl (tyX6_ok 6 (by decide)) rfl rfl (Nat.le_of_ble_eq_true rfl) dX4_firstRow_70 (fun H locs hP hD hS => ?_)
  have hP : va_P (dC, dI) cls (wp [(h_cof, .inl (cy_cof, 30, .inl f11)), (h_bd, .inr (1, (mo10 v_bd (.ref h_bnd) (.ref h_trl) (.int z2)))), (h_bnd, .inl (cy_bnd, 256, .inl f3)), (h_trl, .inl (cy_trl, 256, .inl f_trl)), (h_pv, .inr (3, (mo188 v_pv (.ref h_bd) (.ref h_rws) (.int z14) (.int 0) (.int 0) (.ref h_cof) (.int 1) (.int 0) (.int 0)))), (h_rws, .inl (cy_rws, 361, .inr (.inr (.inr (.inr f15)))))] (PL nr16 ra17 (va_up rf18 (0 : Int32).toInt.toNat ((rf18 (0 : Int32).toInt.toNat).1, (rf18 (0 : Int32).toInt.toNat).2.1, (rf18 (0 : Int32).toInt.toNat).2.2.1, none, none, none, (-1 : Int32))) nl la lf ns sa sf)) H := by rw [← pl_setR2 (i := (0 : Int32).toInt.toNat) (by omega)]; exact hP
  have hD : va_D A (wp [(h_cof, .inl (cy_cof, 30, .inl f11)), (h_bd, .inr (1, (mo10 v_bd (.ref h_bnd) (.ref h_trl) (.int z2)))), (h_bnd, .inl (cy_bnd, 256, .inl f3)), (h_trl, .inl (cy_trl, 256, .inl f_trl)), (h_pv, .inr (3, (mo188 v_pv (.ref h_bd) (.ref h_rws) (.int z14) (.int 0) (.int 0) (.ref h_cof) (.int 1) (.int 0) (.int 0)))), (h_rws, .inl (cy_rws, 361, .inr (.inr (.inr (.inr f15)))))] (PL nr16 ra17 (va_up rf18 (0 : Int32).toInt.toNat ((rf18 (0 : Int32).toInt.toNat).1, (rf18 (0 : Int32).toInt.toNat).2.1, (rf18 (0 : Int32).toInt.toNat).2.2.1, none, none, none, (-1 : Int32))) nl la lf ns sa sf)) := by rw [← pl_setR2 (i := (0 : Int32).toInt.toNat) (by omega)]; exact hD
  refine lv_aload_n hx hb dX4_firstRow_73 rfl (lv_at hl 0 rfl) ?_
  obtain ⟨rf29, erf29⟩ : ∃ g, g = (va_up rf18 (0 : Int32).toInt.toNat ((rf18 (0 : Int32).toInt.toNat).1, (rf18 (0 : Int32).toInt.toNat).2.1, (rf18 (0 : Int32).toInt.toNat).2.2.1, none, none, none, (-1 : Int32))) := ⟨_, rfl⟩
  have hP : va_P (dC, dI) cls (wp [(h_cof, .inl (cy_cof, 30, .inl f11)), (h_bd, .inr (1, (mo10 v_bd (.ref h_bnd) (.ref h_trl) (.int z2)))), (h_bnd, .inl (cy_bnd, 256, .inl f3)), (h_trl, .inl (cy_trl, 256, .inl f_trl)), (h_pv, .inr (3, (mo188 v_pv (.ref h_bd) (.ref h_rws) (.int z14) (.int 0) (.int 0) (.ref h_cof) (.int 1) (.int 0) (.int 0)))), (h_rws, .inl (cy_rws, 361, .inr (.inr (.inr (.inr f15)))))] (PL nr16 ra17 rf29 nl la lf ns sa sf)) H := by rw [erf29]; exact hP
  have hD : va_D A (wp [(h_cof, .inl (cy_cof, 30, .inl f11)), (h_bd, .inr (1, (mo10 v_bd (.ref h_bnd) (.ref h_trl) (.int z2)))), (h_bnd, .inl (cy_bnd, 256, .inl f3)), (h_trl, .inl (cy_trl, 256, .inl f_trl)), (h_pv, .inr (3, (mo188 v_pv (.ref h_bd) (.ref h_rws) (.int z14) (.int 0) (.int 0) (.ref h_cof) (.int 1) (.int 0) (.int 0)))), (h_rws, .inl (cy_rws, 361, .inr (.inr (.inr (.inr f15)))))] (PL nr16 ra17 rf29 nl la lf ns sa sf)) := by rw [erf29]; exact hD
  have srf29 : rf29 (0 : Int32).toInt.toNat = ((rf18 (0 : Int32).toInt.toNat).1, (rf18 (0 : Int32).toInt.toNat).2.1, (rf18 (0 : Int32).toInt.toNat).2.2.1, none, none, none, (-1 : Int32)) := by rw [erf29]; exact up_self _ _ _
  have orf29 : ∀ j : Nat, j ≠ (0 : Int32).toInt.toNat → rf29 j = rf18 j := fun j hj => by rw [erf29]; exact up_ne hj
  have fi30b := k24 (0 : Int32).toInt.toNat (by omega)
  have fi30n := k26.2
  have cstm1 : (-1 : Int32).toInt = -1 := by decide
  have fi30 : ROK nr16 ra17 rf29 nl la := rok_set k24 orf29 srf29 fi30b.1 fi30b.2.1 fi30b.2.2.1 pb_none pb_none pb_none (by omega)
  have fi30v : LVR 1 0 ra17 rf29 la := lvr_row (R := 0) (Lk := 0) (k := (0 : Int32).toInt.toNat) (ra := ra17) (la := la) (rf := rf18) (lvr_nil (by omega)) (by omega) (fun _ _ => rfl) (fun _ _ => rfl) (by omega) orf29 srf29 pb_none pb_none pb_none
  have e00 : (0 : Int32).toInt.toNat = 0 := by decide
  have e01 : Int32.toNatClampNeg (0 : Int32) = 0 := by decide
  have cst0 : (0 : Int32).toInt = 0 := by decide
  have rw9 : rf29 0 = ((rf18 0).1, (rf18 0).2.1, (rf18 0).2.2.1, none, none, none, (-1 : Int32)) := by have h9 := srf29; rw [e00] at h9; exact h9
  have r19 := k26.2.1
  have r29 := k26.2.2.1
  have r39 := k28
  rw [e00] at r19
  rw [e00] at r29
  rw [e00] at r39
  have x39 : NXI ((-1 : Int32).toInt) ((0 : Int32).toInt) = 0 := by rw [cst0, cstm1]; exact nxi_n (by decide)
  rw [x39] at r39
  have cz9 : (f11 0).toInt = (((p1).toInt.toNat : Nat) : Int) := by rw [ef11, e01, pk_us]; omega
  have gx9 := gox_first (m := mq) (la := la) (lf := lf) (ra := ra17) (rf := rf29) (sf := sf) (trl := f_trl) (T := (z2).toInt) (I := (1 : Int32).toInt) (R := (z14 : Int32).toInt) (L := (0 : Int32).toInt) (S := (0 : Int32).toInt) hn_c0x tu10z (bhz_und hn_bhz k8) cz9 (by rw [rw9]; show ((rf18 0).1).toInt = 0; rw [r19]; exact cst0) (by rw [rw9]; show ((rf18 0).2.1).toInt = -1; rw [r29]; exact cstm1) (by rw [rw9]; exact r39) (by rw [rw9]) (by rw [rw9]) (by rw [rw9]) (by rw [rw9]; exact cstm1) (show some (ra17 (0 : Int32).toInt.toNat) = some (ra17 0) by rw [e00]) (by decide) (by omega) (by decide)
  replace hP : va_P (dC, dI) cls (wp [(h_pv, .inr (3, (mo188 v_pv (.ref h_bd) (.ref h_rws) (.int z14) (.int 0) (.int 0) (.ref h_cof) (.int 1) (.int 0) (.int 0)))), (h_rws, .inl (cy_rws, 361, .inr (.inr (.inr (.inr f15))))), (h_cof, .inl (cy_cof, 30, .inl f11)), (h_bd, .inr (1, (mo10 v_bd (.ref h_bnd) (.ref h_trl) (.int z2)))), (h_bnd, .inl (cy_bnd, 256, .inl f3)), (h_trl, .inl (cy_trl, 256, .inl f_trl))] (PL nr16 ra17 rf29 nl la lf ns sa sf)) H := va_P.part (cx := [(h_pv, .inr (3, (mo188 v_pv (.ref h_bd) (.ref h_rws) (.int z14) (.int 0) (.int 0) (.ref h_cof) (.int 1) (.int 0) (.int 0)))), (h_rws, .inl (cy_rws, 361, .inr (.inr (.inr (.inr f15))))), (h_cof, .inl (cy_cof, 30, .inl f11)), (h_bd, .inr (1, (mo10 v_bd (.ref h_bnd) (.ref h_trl) (.int z2)))), (h_bnd, .inl (cy_bnd, 256, .inl f3)), (h_trl, .inl (cy_trl, 256, .inl f_trl))]) hP [4, 5, 0, 1, 2, 3] rfl
  replace hD : va_D A (wp [(h_pv, .inr (3, (mo188 v_pv (.ref h_bd) (.ref h_rws) (.int z14) (.int 0) (.int 0) (.ref h_cof) (.int 1) (.int 0) (.int 0)))), (h_rws, .inl (cy_rws, 361, .inr (.inr (.inr (.inr f15))))), (h_cof, .inl (cy_cof, 30, .inl f11)), (h_bd, .inr (1, (mo10 v_bd (.ref h_bnd) (.ref h_trl) (.int z2)))), (h_bnd, .inl (cy_bnd, 256, .inl f3)), (h_trl, .inl (cy_trl, 256, .inl f_trl))] (PL nr16 ra17 rf29 nl la lf ns sa sf)) := va_D.part (cx := [(h_pv, .inr (3, (mo188 v_pv (.ref h_bd) (.ref h_rws) (.int z14) (.int 0) (.int 0) (.ref h_cof) (.int 1) (.int 0) (.int 0)))), (h_rws, .inl (cy_rws, 361, .inr (.inr (.inr (.inr f15))))), (h_cof, .inl (cy_cof, 30, .inl f11)), (h_bd, .inr (1, (mo10 v_bd (.ref h_bnd) (.ref h_trl) (.int z2)))), (h_bnd, .inl (cy_bnd, 256, .inl f3)), (h_trl, .inl (cy_trl, 256, .inl f_trl))]) hD [4, 5, 0, 1, 2, 3] (by decide) rfl
  refine W.widen (k := (1 - nr)) (n := 7 * (1 - nr)) (by omega) (by omega) ?_
  have cst0 : (0 : Int32).toInt = 0 := by decide
  have cst1 : (1 : Int32).toInt = 1 := by decide
  have w31 : 0 ≤ ((z14)).toInt ∧ ((z14)).toInt ≤ 361 := by first | exact k19 | omega
  have w32 : 0 ≤ ((0 : Int32)).toInt ∧ ((0 : Int32)).toInt ≤ 210 := by decide
  have w33 : 0 ≤ ((0 : Int32)).toInt ∧ ((0 : Int32)).toInt ≤ 180 := by decide
  have w34 : 0 ≤ ((1 : Int32)).toInt ∧ ((1 : Int32)).toInt ≤ 30 := by decide
  have w35 : 0 ≤ ((0 : Int32)).toInt ∧ ((0 : Int32)).toInt ≤ 1 := by decide
  have w36 : 0 ≤ ((0 : Int32)).toInt ∧ ((0 : Int32)).toInt ≤ 1 := by decide
  have w37 : 0 ≤ ((z2)).toInt ∧ ((z2)).toInt ≤ 256 := by first | exact k4 | omega
  have w38 : ((z14)).toInt = 1 ∧ ((0 : Int32)).toInt = 0 ∧ ((0 : Int32)).toInt = 0 ∧ ((1 : Int32)).toInt = 1 := by omega
  have w39 : 1 ≤ (nr16) ∧ nr ≤ (nr16) := by omega
  have w40 : ((0 : Int32)).toInt = 0 := by decide
  have w41 : ((0 : Int32)).toInt = 0 := by decide
  have w42 : GR2 nr (nr16) 1 := (gr2_cast k22 (by first | rfl | omega))
  have w43 : PFX (nr16) 361 (f15) (ra17) := k23
  have w44 : ROK (nr16) (ra17) (rf29) nl la := fi30
  have w45 : LVR 1 0 (ra17) (rf29) la := (lvr_cast fi30v (by first | rfl | omega) (by first | rfl | omega))
  have w46 : ∀ i : Nat, i < nr → (ra17) i = ra i := k25
  have w47 : (some (ra17 (0 : Int32).toInt.toNat) : Option Nat) = some ((ra17) (0 : Int32).toInt.toNat) := rfl
  have w48 : GOX mq c0 la lf (ra17) (rf29) sf (f3) f_trl (f11) ((z2)).toInt ((1 : Int32)).toInt ((z14)).toInt ((0 : Int32)).toInt ((0 : Int32)).toInt (some (ra17 (0 : Int32).toInt.toNat) : Option Nat) nq := gx9
  have w49 : CLS 0 30 (f3) := (cls_und hn_cl0 k8)
  have w50 : BHZ (f3) := (bhz_und hn_bhz k8)
  have w51 : TRC ((z2)).toInt f_trl (f3) := tu10t
  have w52 : BTR ((z2)).toInt f_trl (f3) := tu10b
  have w53 : ∀ c : Nat, c < 256 → ((f3) c).toInt = 0 := tu10z
  exact W.aret (v := va_rf (some (ra17 (0 : Int32).toInt.toNat))) hx hb hr (Or.inl ⟨_, rfl⟩) (va_rf_or _) (fun t ht hW => ⟨⟨(some (ra17 (0 : Int32).toInt.toNat)), (z14, 0, 0, 1, 0, 0, f15, f11, z2, f3, nr16, ra17, rf29), rfl, ⟨w31, w32, w33, w34, w35, w36, hf11, w37, hf3, w38, w39, w40, w41, w42, w43, w44, w45, w46, w47, w48, w49, w50, w51, w52, w53⟩, by rw [ht]; exact hP, hD⟩, hS.F ht⟩) hS.2.2 dX4_firstRow_74

