/-! THE CLAIM OUT OF ONE WALK OF THE LAW'S BODY. Your part is whole_start (and what it stands on); all else here is the same for every law, but numbers. -/
def R_law : String := "OppositePairsLaw"
def lw_P (b : Addr) (xs : List Int32) (args : Array Value) (s : State) : Prop := args = #[.ref b] ∧ s.IntsAt b xs ∧ xs.length ≤ 3072 ∧ (Jvm.Cond.and given_1 narrow_1).before args s = true
def lw_Q (_ : Array Value) (s : State) (o : Outcome) (t : State) : Prop := o = .returned (some (.int 1)) ∧ Framed s o t [] 600000 7302250
def lw_Z (below : List Frame) (a : Array Value) (s : State) : State → Prop := fun t => ∃ o, t.status = .running ∧ Ended t below o ∧ lw_Q a s o t
/-- the law's own end, with 1 on the stack, nothing written that was there before, its room as the claim has it -/
theorem lw_ret {p : Program} {l : Launch} {e : Env} {s : State} {m : MethodId} {below : List Frame} {meth : Method} {c : Code} {b : Nat} (hx : p.tables.exec = Jvm.exec) (hb : c.code = code) (hr : meth.sig.returnType = ret) (hlocks : meth.locks = false) {pc : Nat} {H : Heap} {ls : Array Slot} (hdg : decode code pc = .ok (.ireturn, 1)) : W p l e room_1 s m #[Value.ref b] below meth c H [] 600000 7302250 (lw_Z below #[Value.ref b] s) (F0 m pc ls [.int 1]) := by
  intro T hT X
  obtain ⟨fs, hret, hrun, hended, hW, hframe⟩ := X.leave (v := some (.int 1)) (hlocks := hlocks) (fun h => by rw [hr] at h; cases h)
  have hmeth' : T.vm.method? m = some meth := X.method'
  refine ⟨T.setFrames fs, ?_, .returned (some (.int 1)), hrun, hended, rfl, ⟨_, rfl⟩, hW, hframe⟩
  jvm_step X.here [X.here.top, hx, hb, hdg, hmeth', hr, ret, narrow_b1]
  (try refine ⟨rfl, ?_⟩); (try refine ⟨rfl, ?_⟩)
  first | (intro acts; rw [hret _ acts rfl rfl rfl]) | rw [hret _ _ rfl rfl rfl]
  exact Steps.refl _
/-- what holds at the law's entry: the machine, the code, the tables' words (any of lw_tbl by 'hts w (by decide +kernel)'), the script of L ints xs at the cell b, what the Statement gives of the start (any of its parts by flat_of_before) -/
def lw_At (p : Program) (s : State) (m : MethodId) (meth : Method) (c : Code) (b L : Nat) (xs : Nat → Int32) : Prop :=
  p.tables.exec = Jvm.exec ∧ c.code = code ∧ meth.sig.returnType = ret ∧ c.maxLocals = 4 ∧ s.vm.findClass R_law = some m.cls ∧ (∀ w ∈ lw_tbl, w.before #[Value.ref b] s = true) ∧ va_X b L xs s s.heap ∧ b < s.heap.size ∧ meth.locks = false ∧ (Jvm.Cond.and given_1 narrow_1).before #[Value.ref b] s = true
abbrev cL_law : ByteArray := code
theorem w_cl_L_10 : Cond.classLink "OppositePairsLaw" 10 "OppositePairsModel" ∈ WALL := wall_t (tb_5 130 (by decide +kernel)) rfl
theorem w_cl_L_7 : Cond.classLink "OppositePairsLaw" 7 "OppositePairs" ∈ WALL := wall_t (tb_1 16 (by decide +kernel)) rfl
theorem w_code_X10_answer : Cond.code yX10_answer prog_1_method_23_code 3 (some .int) ∈ WALL := wall_t (tb_4 213 (by decide +kernel)) rfl
theorem w_code_X10_any : Cond.code yX10_any prog_1_method_15_code 5 (some .int) ∈ WALL := wall_t (tb_4 135 (by decide +kernel)) rfl
theorem w_code_X10_clause : Cond.code yX10_clause prog_1_method_7_code 3 (some .int) ∈ WALL := wall_t (tb_3 5 (by decide +kernel)) rfl
theorem w_code_X10_clauses : Cond.code yX10_clauses prog_1_method_4_code 2 (some .int) ∈ WALL := wall_t (tb_2 161 (by decide +kernel)) rfl
theorem w_code_X10_closed : Cond.code yX10_closed prog_1_method_20_code 2 (some .int) ∈ WALL := wall_t (tb_4 164 (by decide +kernel)) rfl
theorem w_code_X10_deepen : Cond.code yX10_deepen prog_1_method_14_code 6 (some .int) ∈ WALL := wall_t (tb_4 131 (by decide +kernel)) rfl
theorem w_code_X10_drop : Cond.code yX10_drop prog_1_method_6_code 2 (some .boolean) ∈ WALL := wall_t (tb_2 230 (by decide +kernel)) rfl
theorem w_code_X10_end : Cond.code yX10_end prog_1_method_3_code 2 (some .boolean) ∈ WALL := wall_t (tb_2 157 (by decide +kernel)) rfl
theorem w_code_X10_fault : Cond.code yX10_fault prog_1_method_5_code 2 (some .int) ∈ WALL := wall_t (tb_2 226 (by decide +kernel)) rfl
theorem w_code_X10_feed : Cond.code yX10_feed prog_1_method_2_code 6 (some .int) ∈ WALL := wall_t (tb_2 149 (by decide +kernel)) rfl
theorem w_code_X10_init : Cond.code yX10_init prog_1_method_1_code 1 none ∈ WALL := wall_t (tb_1 20 (by decide +kernel)) rfl
theorem w_code_X10_instance : Cond.code yX10_instance prog_1_method_18_code 2 (some .int) ∈ WALL := wall_t (tb_4 152 (by decide +kernel)) rfl
theorem w_code_X10_look : Cond.code yX10_look prog_1_method_24_code 2 (some .int) ∈ WALL := wall_t (tb_4 217 (by decide +kernel)) rfl
theorem w_code_X10_meets : Cond.code yX10_meets prog_1_method_10_code 5 (some .int) ∈ WALL := wall_t (tb_3 75 (by decide +kernel)) rfl
theorem w_code_X10_needed : Cond.code yX10_needed prog_1_method_22_code 3 (some .int) ∈ WALL := wall_t (tb_4 209 (by decide +kernel)) rfl
theorem w_code_X10_open : Cond.code yX10_open prog_1_method_21_code 3 (some .int) ∈ WALL := wall_t (tb_4 205 (by decide +kernel)) rfl
theorem w_code_X10_out : Cond.code yX10_out prog_1_method_9_code 2 (some .int) ∈ WALL := wall_t (tb_3 71 (by decide +kernel)) rfl
theorem w_code_X10_partners : Cond.code yX10_partners prog_1_method_11_code 3 (some .int) ∈ WALL := wall_t (tb_3 130 (by decide +kernel)) rfl
theorem w_code_X10_pure : Cond.code yX10_pure prog_1_method_12_code 5 (some .int) ∈ WALL := wall_t (tb_3 142 (by decide +kernel)) rfl
theorem w_code_X10_show : Cond.code yX10_show prog_1_method_8_code 3 (some .int) ∈ WALL := wall_t (tb_3 35 (by decide +kernel)) rfl
theorem w_code_X10_shown : Cond.code yX10_shown prog_1_method_19_code 4 (some .int) ∈ WALL := wall_t (tb_4 160 (by decide +kernel)) rfl
theorem w_code_X10_solve : Cond.code yX10_solve prog_1_method_13_code 5 (some .int) ∈ WALL := wall_t (tb_3 150 (by decide +kernel)) rfl
theorem w_code_X10_step : Cond.code yX10_step prog_1_method_17_code 4 (some .int) ∈ WALL := wall_t (tb_4 143 (by decide +kernel)) rfl
theorem w_code_X10_tried : Cond.code yX10_tried prog_1_method_16_code 2 (some .int) ∈ WALL := wall_t (tb_4 139 (by decide +kernel)) rfl
theorem w_code_X11_answer : Cond.code yX11_answer prog_13_method_98_code 3 (some .int) ∈ WALL := wall_t (tb_7 128 (by decide +kernel)) rfl
theorem w_code_X11_any : Cond.code yX11_any prog_13_method_77_code 5 (some .int) ∈ WALL := wall_t (tb_7 43 (by decide +kernel)) rfl
theorem w_code_X11_clause : Cond.code yX11_clause prog_13_method_34_code 3 (some .int) ∈ WALL := wall_t (tb_5 107 (by decide +kernel)) rfl
theorem w_code_X11_clauses : Cond.code yX11_clauses prog_13_method_25_code 3 (some .int) ∈ WALL := wall_t (tb_4 237 (by decide +kernel)) rfl
theorem w_code_X11_closed : Cond.code yX11_closed prog_13_method_95_code 3 (some .int) ∈ WALL := wall_t (tb_7 96 (by decide +kernel)) rfl
theorem w_code_X11_deepen : Cond.code yX11_deepen prog_13_method_76_code 6 (some .int) ∈ WALL := wall_t (tb_7 39 (by decide +kernel)) rfl
theorem w_code_X11_drop : Cond.code yX11_drop prog_13_method_31_code 3 (some .boolean) ∈ WALL := wall_t (tb_5 99 (by decide +kernel)) rfl
theorem w_code_X11_end : Cond.code yX11_end prog_13_method_28_code 2 (some .boolean) ∈ WALL := wall_t (tb_5 95 (by decide +kernel)) rfl
theorem w_code_X11_fault : Cond.code yX11_fault prog_13_method_26_code 2 (some .int) ∈ WALL := wall_t (tb_5 87 (by decide +kernel)) rfl
theorem w_code_X11_feed : Cond.code yX11_feed prog_13_method_27_code 8 (some .int) ∈ WALL := wall_t (tb_5 91 (by decide +kernel)) rfl
theorem w_code_X11_init : Cond.code yX11_init prog_13_method_35_code 1 none ∈ WALL := wall_t (tb_5 133 (by decide +kernel)) rfl
theorem w_code_X11_instance : Cond.code yX11_instance prog_13_method_81_code 2 (some .int) ∈ WALL := wall_t (tb_7 56 (by decide +kernel)) rfl
theorem w_code_X11_look : Cond.code yX11_look prog_13_method_103_code 2 (some .int) ∈ WALL := wall_t (tb_7 133 (by decide +kernel)) rfl
theorem w_code_X11_meets : Cond.code yX11_meets prog_13_method_48_code 5 (some .int) ∈ WALL := wall_t (tb_6 117 (by decide +kernel)) rfl
theorem w_code_X11_needed : Cond.code yX11_needed prog_13_method_97_code 3 (some .int) ∈ WALL := wall_t (tb_7 124 (by decide +kernel)) rfl
theorem w_code_X11_open : Cond.code yX11_open prog_13_method_96_code 3 (some .int) ∈ WALL := wall_t (tb_7 120 (by decide +kernel)) rfl
theorem w_code_X11_out : Cond.code yX11_out prog_13_method_88_code 2 (some .int) ∈ WALL := wall_t (tb_7 88 (by decide +kernel)) rfl
theorem w_code_X11_partners : Cond.code yX11_partners prog_13_method_50_code 3 (some .int) ∈ WALL := wall_t (tb_6 153 (by decide +kernel)) rfl
theorem w_code_X11_pure : Cond.code yX11_pure prog_13_method_52_code 5 (some .int) ∈ WALL := wall_t (tb_6 165 (by decide +kernel)) rfl
theorem w_code_X11_show : Cond.code yX11_show prog_13_method_87_code 3 (some .int) ∈ WALL := wall_t (tb_7 64 (by decide +kernel)) rfl
theorem w_code_X11_shown : Cond.code yX11_shown prog_13_method_89_code 3 (some .int) ∈ WALL := wall_t (tb_7 92 (by decide +kernel)) rfl
theorem w_code_X11_solve : Cond.code yX11_solve prog_13_method_75_code 6 (some .int) ∈ WALL := wall_t (tb_6 173 (by decide +kernel)) rfl
theorem w_code_X11_step_ : Cond.code yX11_step_ prog_13_method_79_code 3 (some .int) ∈ WALL := wall_t (tb_7 51 (by decide +kernel)) rfl
theorem w_code_X11_tried : Cond.code yX11_tried prog_13_method_78_code 2 (some .int) ∈ WALL := wall_t (tb_7 47 (by decide +kernel)) rfl
theorem w_inst_X10 : Cond.instantiable "OppositePairs" 8 ∈ WALL := wall_t (tb_1 17 (by decide +kernel)) rfl
theorem w_inst_X11 : Cond.instantiable "OppositePairsModel" 71 ∈ WALL := wall_t (tb_5 1 (by decide +kernel)) rfl
theorem w_instanceMethod_X10_answer : Cond.instanceMethod yX10_answer ∈ WALL := wall_t (tb_4 211 (by decide +kernel)) rfl
theorem w_instanceMethod_X10_any : Cond.instanceMethod yX10_any ∈ WALL := wall_t (tb_4 133 (by decide +kernel)) rfl
theorem w_instanceMethod_X10_clause : Cond.instanceMethod yX10_clause ∈ WALL := wall_t (tb_3 3 (by decide +kernel)) rfl
theorem w_instanceMethod_X10_clauses : Cond.instanceMethod yX10_clauses ∈ WALL := wall_t (tb_2 159 (by decide +kernel)) rfl
theorem w_instanceMethod_X10_closed : Cond.instanceMethod yX10_closed ∈ WALL := wall_t (tb_4 162 (by decide +kernel)) rfl
theorem w_instanceMethod_X10_deepen : Cond.instanceMethod yX10_deepen ∈ WALL := wall_t (tb_4 129 (by decide +kernel)) rfl
theorem w_instanceMethod_X10_drop : Cond.instanceMethod yX10_drop ∈ WALL := wall_t (tb_2 228 (by decide +kernel)) rfl
theorem w_instanceMethod_X10_end : Cond.instanceMethod yX10_end ∈ WALL := wall_t (tb_2 155 (by decide +kernel)) rfl
theorem w_instanceMethod_X10_fault : Cond.instanceMethod yX10_fault ∈ WALL := wall_t (tb_2 224 (by decide +kernel)) rfl
theorem w_instanceMethod_X10_feed : Cond.instanceMethod yX10_feed ∈ WALL := wall_t (tb_2 147 (by decide +kernel)) rfl
theorem w_instanceMethod_X10_init : Cond.instanceMethod yX10_init ∈ WALL := wall_t (tb_1 19 (by decide +kernel)) rfl
theorem w_instanceMethod_X10_instance : Cond.instanceMethod yX10_instance ∈ WALL := wall_t (tb_4 150 (by decide +kernel)) rfl
theorem w_instanceMethod_X10_look : Cond.instanceMethod yX10_look ∈ WALL := wall_t (tb_4 215 (by decide +kernel)) rfl
theorem w_instanceMethod_X10_meets : Cond.instanceMethod yX10_meets ∈ WALL := wall_t (tb_3 73 (by decide +kernel)) rfl
theorem w_instanceMethod_X10_needed : Cond.instanceMethod yX10_needed ∈ WALL := wall_t (tb_4 207 (by decide +kernel)) rfl
theorem w_instanceMethod_X10_open : Cond.instanceMethod yX10_open ∈ WALL := wall_t (tb_4 203 (by decide +kernel)) rfl
theorem w_instanceMethod_X10_out : Cond.instanceMethod yX10_out ∈ WALL := wall_t (tb_3 69 (by decide +kernel)) rfl
theorem w_instanceMethod_X10_partners : Cond.instanceMethod yX10_partners ∈ WALL := wall_t (tb_3 128 (by decide +kernel)) rfl
theorem w_instanceMethod_X10_pure : Cond.instanceMethod yX10_pure ∈ WALL := wall_t (tb_3 140 (by decide +kernel)) rfl
theorem w_instanceMethod_X10_show : Cond.instanceMethod yX10_show ∈ WALL := wall_t (tb_3 33 (by decide +kernel)) rfl
theorem w_instanceMethod_X10_shown : Cond.instanceMethod yX10_shown ∈ WALL := wall_t (tb_4 158 (by decide +kernel)) rfl
theorem w_instanceMethod_X10_solve : Cond.instanceMethod yX10_solve ∈ WALL := wall_t (tb_3 148 (by decide +kernel)) rfl
theorem w_instanceMethod_X10_step : Cond.instanceMethod yX10_step ∈ WALL := wall_t (tb_4 141 (by decide +kernel)) rfl
theorem w_instanceMethod_X10_tried : Cond.instanceMethod yX10_tried ∈ WALL := wall_t (tb_4 137 (by decide +kernel)) rfl
theorem w_instanceMethod_X11_answer : Cond.instanceMethod yX11_answer ∈ WALL := wall_t (tb_7 126 (by decide +kernel)) rfl
theorem w_instanceMethod_X11_any : Cond.instanceMethod yX11_any ∈ WALL := wall_t (tb_7 41 (by decide +kernel)) rfl
theorem w_instanceMethod_X11_clause : Cond.instanceMethod yX11_clause ∈ WALL := wall_t (tb_5 105 (by decide +kernel)) rfl
theorem w_instanceMethod_X11_clauses : Cond.instanceMethod yX11_clauses ∈ WALL := wall_t (tb_4 235 (by decide +kernel)) rfl
theorem w_instanceMethod_X11_closed : Cond.instanceMethod yX11_closed ∈ WALL := wall_t (tb_7 94 (by decide +kernel)) rfl
theorem w_instanceMethod_X11_deepen : Cond.instanceMethod yX11_deepen ∈ WALL := wall_t (tb_7 37 (by decide +kernel)) rfl
theorem w_instanceMethod_X11_drop : Cond.instanceMethod yX11_drop ∈ WALL := wall_t (tb_5 97 (by decide +kernel)) rfl
theorem w_instanceMethod_X11_end : Cond.instanceMethod yX11_end ∈ WALL := wall_t (tb_5 93 (by decide +kernel)) rfl
theorem w_instanceMethod_X11_fault : Cond.instanceMethod yX11_fault ∈ WALL := wall_t (tb_5 85 (by decide +kernel)) rfl
theorem w_instanceMethod_X11_feed : Cond.instanceMethod yX11_feed ∈ WALL := wall_t (tb_5 89 (by decide +kernel)) rfl
theorem w_instanceMethod_X11_init : Cond.instanceMethod yX11_init ∈ WALL := wall_t (tb_5 132 (by decide +kernel)) rfl
theorem w_instanceMethod_X11_instance : Cond.instanceMethod yX11_instance ∈ WALL := wall_t (tb_7 54 (by decide +kernel)) rfl
theorem w_instanceMethod_X11_look : Cond.instanceMethod yX11_look ∈ WALL := wall_t (tb_7 131 (by decide +kernel)) rfl
theorem w_instanceMethod_X11_meets : Cond.instanceMethod yX11_meets ∈ WALL := wall_t (tb_6 115 (by decide +kernel)) rfl
theorem w_instanceMethod_X11_needed : Cond.instanceMethod yX11_needed ∈ WALL := wall_t (tb_7 122 (by decide +kernel)) rfl
theorem w_instanceMethod_X11_open : Cond.instanceMethod yX11_open ∈ WALL := wall_t (tb_7 118 (by decide +kernel)) rfl
theorem w_instanceMethod_X11_out : Cond.instanceMethod yX11_out ∈ WALL := wall_t (tb_7 86 (by decide +kernel)) rfl
theorem w_instanceMethod_X11_partners : Cond.instanceMethod yX11_partners ∈ WALL := wall_t (tb_6 151 (by decide +kernel)) rfl
theorem w_instanceMethod_X11_pure : Cond.instanceMethod yX11_pure ∈ WALL := wall_t (tb_6 163 (by decide +kernel)) rfl
theorem w_instanceMethod_X11_show : Cond.instanceMethod yX11_show ∈ WALL := wall_t (tb_7 62 (by decide +kernel)) rfl
theorem w_instanceMethod_X11_shown : Cond.instanceMethod yX11_shown ∈ WALL := wall_t (tb_7 90 (by decide +kernel)) rfl
theorem w_instanceMethod_X11_solve : Cond.instanceMethod yX11_solve ∈ WALL := wall_t (tb_6 171 (by decide +kernel)) rfl
theorem w_instanceMethod_X11_step_ : Cond.instanceMethod yX11_step_ ∈ WALL := wall_t (tb_7 49 (by decide +kernel)) rfl
theorem w_instanceMethod_X11_tried : Cond.instanceMethod yX11_tried ∈ WALL := wall_t (tb_7 45 (by decide +kernel)) rfl
theorem w_m_L_100 : Cond.methodLink "OppositePairsLaw" 100 yX10_needed ∈ WALL := wall_t (tb_4 206 (by decide +kernel)) rfl
theorem w_m_L_103 : Cond.methodLink "OppositePairsLaw" 103 yX11_needed ∈ WALL := wall_t (tb_7 121 (by decide +kernel)) rfl
theorem w_m_L_104 : Cond.methodLink "OppositePairsLaw" 104 yX10_answer ∈ WALL := wall_t (tb_4 210 (by decide +kernel)) rfl
theorem w_m_L_107 : Cond.methodLink "OppositePairsLaw" 107 yX11_answer ∈ WALL := wall_t (tb_7 125 (by decide +kernel)) rfl
theorem w_m_L_108 : Cond.methodLink "OppositePairsLaw" 108 yX10_look ∈ WALL := wall_t (tb_4 214 (by decide +kernel)) rfl
theorem w_m_L_111 : Cond.methodLink "OppositePairsLaw" 111 yX11_look ∈ WALL := wall_t (tb_7 130 (by decide +kernel)) rfl
theorem w_m_L_12 : Cond.methodLink "OppositePairsLaw" 12 yX11_init ∈ WALL := wall_t (tb_5 131 (by decide +kernel)) rfl
theorem w_m_L_13 : Cond.methodLink "OppositePairsLaw" 13 yX10_feed ∈ WALL := wall_t (tb_2 146 (by decide +kernel)) rfl
theorem w_m_L_17 : Cond.methodLink "OppositePairsLaw" 17 yX11_feed ∈ WALL := wall_t (tb_5 88 (by decide +kernel)) rfl
theorem w_m_L_18 : Cond.methodLink "OppositePairsLaw" 18 yX10_end ∈ WALL := wall_t (tb_2 154 (by decide +kernel)) rfl
theorem w_m_L_22 : Cond.methodLink "OppositePairsLaw" 22 yX11_end ∈ WALL := wall_t (tb_5 92 (by decide +kernel)) rfl
theorem w_m_L_23 : Cond.methodLink "OppositePairsLaw" 23 yX10_clauses ∈ WALL := wall_t (tb_2 158 (by decide +kernel)) rfl
theorem w_m_L_27 : Cond.methodLink "OppositePairsLaw" 27 yX11_clauses ∈ WALL := wall_t (tb_4 234 (by decide +kernel)) rfl
theorem w_m_L_28 : Cond.methodLink "OppositePairsLaw" 28 yX10_fault ∈ WALL := wall_t (tb_2 223 (by decide +kernel)) rfl
theorem w_m_L_32 : Cond.methodLink "OppositePairsLaw" 32 yX11_fault ∈ WALL := wall_t (tb_5 84 (by decide +kernel)) rfl
theorem w_m_L_33 : Cond.methodLink "OppositePairsLaw" 33 yX10_drop ∈ WALL := wall_t (tb_2 227 (by decide +kernel)) rfl
theorem w_m_L_36 : Cond.methodLink "OppositePairsLaw" 36 yX11_drop ∈ WALL := wall_t (tb_5 96 (by decide +kernel)) rfl
theorem w_m_L_37 : Cond.methodLink "OppositePairsLaw" 37 yX10_clause ∈ WALL := wall_t (tb_3 2 (by decide +kernel)) rfl
theorem w_m_L_41 : Cond.methodLink "OppositePairsLaw" 41 yX11_clause ∈ WALL := wall_t (tb_5 104 (by decide +kernel)) rfl
theorem w_m_L_42 : Cond.methodLink "OppositePairsLaw" 42 yX10_show ∈ WALL := wall_t (tb_3 32 (by decide +kernel)) rfl
theorem w_m_L_45 : Cond.methodLink "OppositePairsLaw" 45 yX11_show ∈ WALL := wall_t (tb_7 61 (by decide +kernel)) rfl
theorem w_m_L_46 : Cond.methodLink "OppositePairsLaw" 46 yX10_out ∈ WALL := wall_t (tb_3 68 (by decide +kernel)) rfl
theorem w_m_L_49 : Cond.methodLink "OppositePairsLaw" 49 yX11_out ∈ WALL := wall_t (tb_7 85 (by decide +kernel)) rfl
theorem w_m_L_50 : Cond.methodLink "OppositePairsLaw" 50 yX10_meets ∈ WALL := wall_t (tb_3 72 (by decide +kernel)) rfl
theorem w_m_L_54 : Cond.methodLink "OppositePairsLaw" 54 yX11_meets ∈ WALL := wall_t (tb_6 114 (by decide +kernel)) rfl
theorem w_m_L_55 : Cond.methodLink "OppositePairsLaw" 55 yX10_partners ∈ WALL := wall_t (tb_3 127 (by decide +kernel)) rfl
theorem w_m_L_58 : Cond.methodLink "OppositePairsLaw" 58 yX11_partners ∈ WALL := wall_t (tb_6 150 (by decide +kernel)) rfl
theorem w_m_L_59 : Cond.methodLink "OppositePairsLaw" 59 yX10_pure ∈ WALL := wall_t (tb_3 139 (by decide +kernel)) rfl
theorem w_m_L_62 : Cond.methodLink "OppositePairsLaw" 62 yX11_pure ∈ WALL := wall_t (tb_6 162 (by decide +kernel)) rfl
theorem w_m_L_63 : Cond.methodLink "OppositePairsLaw" 63 yX10_solve ∈ WALL := wall_t (tb_3 147 (by decide +kernel)) rfl
theorem w_m_L_67 : Cond.methodLink "OppositePairsLaw" 67 yX11_solve ∈ WALL := wall_t (tb_6 170 (by decide +kernel)) rfl
theorem w_m_L_68 : Cond.methodLink "OppositePairsLaw" 68 yX10_deepen ∈ WALL := wall_t (tb_4 128 (by decide +kernel)) rfl
theorem w_m_L_71 : Cond.methodLink "OppositePairsLaw" 71 yX11_deepen ∈ WALL := wall_t (tb_7 36 (by decide +kernel)) rfl
theorem w_m_L_72 : Cond.methodLink "OppositePairsLaw" 72 yX10_any ∈ WALL := wall_t (tb_4 132 (by decide +kernel)) rfl
theorem w_m_L_75 : Cond.methodLink "OppositePairsLaw" 75 yX11_any ∈ WALL := wall_t (tb_7 40 (by decide +kernel)) rfl
theorem w_m_L_76 : Cond.methodLink "OppositePairsLaw" 76 yX10_tried ∈ WALL := wall_t (tb_4 136 (by decide +kernel)) rfl
theorem w_m_L_79 : Cond.methodLink "OppositePairsLaw" 79 yX11_tried ∈ WALL := wall_t (tb_7 44 (by decide +kernel)) rfl
theorem w_m_L_80 : Cond.methodLink "OppositePairsLaw" 80 yX10_step ∈ WALL := wall_t (tb_4 140 (by decide +kernel)) rfl
theorem w_m_L_83 : Cond.methodLink "OppositePairsLaw" 83 yX11_step_ ∈ WALL := wall_t (tb_7 48 (by decide +kernel)) rfl
theorem w_m_L_84 : Cond.methodLink "OppositePairsLaw" 84 yX10_instance ∈ WALL := wall_t (tb_4 149 (by decide +kernel)) rfl
theorem w_m_L_87 : Cond.methodLink "OppositePairsLaw" 87 yX11_instance ∈ WALL := wall_t (tb_7 53 (by decide +kernel)) rfl
theorem w_m_L_88 : Cond.methodLink "OppositePairsLaw" 88 yX10_shown ∈ WALL := wall_t (tb_4 157 (by decide +kernel)) rfl
theorem w_m_L_9 : Cond.methodLink "OppositePairsLaw" 9 yX10_init ∈ WALL := wall_t (tb_1 18 (by decide +kernel)) rfl
theorem w_m_L_91 : Cond.methodLink "OppositePairsLaw" 91 yX11_shown ∈ WALL := wall_t (tb_7 89 (by decide +kernel)) rfl
theorem w_m_L_92 : Cond.methodLink "OppositePairsLaw" 92 yX10_closed ∈ WALL := wall_t (tb_4 161 (by decide +kernel)) rfl
theorem w_m_L_95 : Cond.methodLink "OppositePairsLaw" 95 yX11_closed ∈ WALL := wall_t (tb_7 93 (by decide +kernel)) rfl
theorem w_m_L_96 : Cond.methodLink "OppositePairsLaw" 96 yX10_open ∈ WALL := wall_t (tb_4 202 (by decide +kernel)) rfl
theorem w_m_L_99 : Cond.methodLink "OppositePairsLaw" 99 yX11_open ∈ WALL := wall_t (tb_7 117 (by decide +kernel)) rfl
theorem ws_sel_X10_answer : Cond.selects "OppositePairs" yX10_answer yX10_answer ∈ WALL := wall_t (tb_4 212 (by decide +kernel)) rfl
theorem ws_sel_X10_any : Cond.selects "OppositePairs" yX10_any yX10_any ∈ WALL := wall_t (tb_4 134 (by decide +kernel)) rfl
theorem ws_sel_X10_clause : Cond.selects "OppositePairs" yX10_clause yX10_clause ∈ WALL := wall_t (tb_3 4 (by decide +kernel)) rfl
theorem ws_sel_X10_clauses : Cond.selects "OppositePairs" yX10_clauses yX10_clauses ∈ WALL := wall_t (tb_2 160 (by decide +kernel)) rfl
theorem ws_sel_X10_closed : Cond.selects "OppositePairs" yX10_closed yX10_closed ∈ WALL := wall_t (tb_4 163 (by decide +kernel)) rfl
theorem ws_sel_X10_deepen : Cond.selects "OppositePairs" yX10_deepen yX10_deepen ∈ WALL := wall_t (tb_4 130 (by decide +kernel)) rfl
theorem ws_sel_X10_drop : Cond.selects "OppositePairs" yX10_drop yX10_drop ∈ WALL := wall_t (tb_2 229 (by decide +kernel)) rfl
theorem ws_sel_X10_end : Cond.selects "OppositePairs" yX10_end yX10_end ∈ WALL := wall_t (tb_2 156 (by decide +kernel)) rfl
theorem ws_sel_X10_fault : Cond.selects "OppositePairs" yX10_fault yX10_fault ∈ WALL := wall_t (tb_2 225 (by decide +kernel)) rfl
theorem ws_sel_X10_feed : Cond.selects "OppositePairs" yX10_feed yX10_feed ∈ WALL := wall_t (tb_2 148 (by decide +kernel)) rfl
theorem ws_sel_X10_instance : Cond.selects "OppositePairs" yX10_instance yX10_instance ∈ WALL := wall_t (tb_4 151 (by decide +kernel)) rfl
theorem ws_sel_X10_look : Cond.selects "OppositePairs" yX10_look yX10_look ∈ WALL := wall_t (tb_4 216 (by decide +kernel)) rfl
theorem ws_sel_X10_meets : Cond.selects "OppositePairs" yX10_meets yX10_meets ∈ WALL := wall_t (tb_3 74 (by decide +kernel)) rfl
theorem ws_sel_X10_needed : Cond.selects "OppositePairs" yX10_needed yX10_needed ∈ WALL := wall_t (tb_4 208 (by decide +kernel)) rfl
theorem ws_sel_X10_open : Cond.selects "OppositePairs" yX10_open yX10_open ∈ WALL := wall_t (tb_4 204 (by decide +kernel)) rfl
theorem ws_sel_X10_out : Cond.selects "OppositePairs" yX10_out yX10_out ∈ WALL := wall_t (tb_3 70 (by decide +kernel)) rfl
theorem ws_sel_X10_partners : Cond.selects "OppositePairs" yX10_partners yX10_partners ∈ WALL := wall_t (tb_3 129 (by decide +kernel)) rfl
theorem ws_sel_X10_pure : Cond.selects "OppositePairs" yX10_pure yX10_pure ∈ WALL := wall_t (tb_3 141 (by decide +kernel)) rfl
theorem ws_sel_X10_show : Cond.selects "OppositePairs" yX10_show yX10_show ∈ WALL := wall_t (tb_3 34 (by decide +kernel)) rfl
theorem ws_sel_X10_shown : Cond.selects "OppositePairs" yX10_shown yX10_shown ∈ WALL := wall_t (tb_4 159 (by decide +kernel)) rfl
theorem ws_sel_X10_solve : Cond.selects "OppositePairs" yX10_solve yX10_solve ∈ WALL := wall_t (tb_3 149 (by decide +kernel)) rfl
theorem ws_sel_X10_step : Cond.selects "OppositePairs" yX10_step yX10_step ∈ WALL := wall_t (tb_4 142 (by decide +kernel)) rfl
theorem ws_sel_X10_tried : Cond.selects "OppositePairs" yX10_tried yX10_tried ∈ WALL := wall_t (tb_4 138 (by decide +kernel)) rfl
theorem ws_sel_X11_answer : Cond.selects "OppositePairsModel" yX11_answer yX11_answer ∈ WALL := wall_t (tb_7 127 (by decide +kernel)) rfl
theorem ws_sel_X11_any : Cond.selects "OppositePairsModel" yX11_any yX11_any ∈ WALL := wall_t (tb_7 42 (by decide +kernel)) rfl
theorem ws_sel_X11_clause : Cond.selects "OppositePairsModel" yX11_clause yX11_clause ∈ WALL := wall_t (tb_5 106 (by decide +kernel)) rfl
theorem ws_sel_X11_clauses : Cond.selects "OppositePairsModel" yX11_clauses yX11_clauses ∈ WALL := wall_t (tb_4 236 (by decide +kernel)) rfl
theorem ws_sel_X11_closed : Cond.selects "OppositePairsModel" yX11_closed yX11_closed ∈ WALL := wall_t (tb_7 95 (by decide +kernel)) rfl
theorem ws_sel_X11_deepen : Cond.selects "OppositePairsModel" yX11_deepen yX11_deepen ∈ WALL := wall_t (tb_7 38 (by decide +kernel)) rfl
theorem ws_sel_X11_drop : Cond.selects "OppositePairsModel" yX11_drop yX11_drop ∈ WALL := wall_t (tb_5 98 (by decide +kernel)) rfl
theorem ws_sel_X11_end : Cond.selects "OppositePairsModel" yX11_end yX11_end ∈ WALL := wall_t (tb_5 94 (by decide +kernel)) rfl
theorem ws_sel_X11_fault : Cond.selects "OppositePairsModel" yX11_fault yX11_fault ∈ WALL := wall_t (tb_5 86 (by decide +kernel)) rfl
theorem ws_sel_X11_feed : Cond.selects "OppositePairsModel" yX11_feed yX11_feed ∈ WALL := wall_t (tb_5 90 (by decide +kernel)) rfl
theorem ws_sel_X11_instance : Cond.selects "OppositePairsModel" yX11_instance yX11_instance ∈ WALL := wall_t (tb_7 55 (by decide +kernel)) rfl
theorem ws_sel_X11_look : Cond.selects "OppositePairsModel" yX11_look yX11_look ∈ WALL := wall_t (tb_7 132 (by decide +kernel)) rfl
theorem ws_sel_X11_meets : Cond.selects "OppositePairsModel" yX11_meets yX11_meets ∈ WALL := wall_t (tb_6 116 (by decide +kernel)) rfl
theorem ws_sel_X11_needed : Cond.selects "OppositePairsModel" yX11_needed yX11_needed ∈ WALL := wall_t (tb_7 123 (by decide +kernel)) rfl
theorem ws_sel_X11_open : Cond.selects "OppositePairsModel" yX11_open yX11_open ∈ WALL := wall_t (tb_7 119 (by decide +kernel)) rfl
theorem ws_sel_X11_out : Cond.selects "OppositePairsModel" yX11_out yX11_out ∈ WALL := wall_t (tb_7 87 (by decide +kernel)) rfl
theorem ws_sel_X11_partners : Cond.selects "OppositePairsModel" yX11_partners yX11_partners ∈ WALL := wall_t (tb_6 152 (by decide +kernel)) rfl
theorem ws_sel_X11_pure : Cond.selects "OppositePairsModel" yX11_pure yX11_pure ∈ WALL := wall_t (tb_6 164 (by decide +kernel)) rfl
theorem ws_sel_X11_show : Cond.selects "OppositePairsModel" yX11_show yX11_show ∈ WALL := wall_t (tb_7 63 (by decide +kernel)) rfl
theorem ws_sel_X11_shown : Cond.selects "OppositePairsModel" yX11_shown yX11_shown ∈ WALL := wall_t (tb_7 91 (by decide +kernel)) rfl
theorem ws_sel_X11_solve : Cond.selects "OppositePairsModel" yX11_solve yX11_solve ∈ WALL := wall_t (tb_6 172 (by decide +kernel)) rfl
theorem ws_sel_X11_step_ : Cond.selects "OppositePairsModel" yX11_step_ yX11_step_ ∈ WALL := wall_t (tb_7 50 (by decide +kernel)) rfl
theorem ws_sel_X11_tried : Cond.selects "OppositePairsModel" yX11_tried yX11_tried ∈ WALL := wall_t (tb_7 46 (by decide +kernel)) rfl
theorem dL_law_0 : decode cL_law 0 = .ok (.new 7, 3) := by decide +kernel
theorem dL_law_11 : decode cL_law 11 = .ok (.dup, 1) := by decide +kernel
theorem dL_law_12 : decode cL_law 12 = .ok (.invokespecial 12, 3) := by decide +kernel
theorem dL_law_140 : decode cL_law 140 = .ok (.aload_n 1, 1) := by decide +kernel
theorem dL_law_141 : decode cL_law 141 = .ok (.aload_n 0, 1) := by decide +kernel
theorem dL_law_142 : decode cL_law 142 = .ok (.iload_n 3, 1) := by decide +kernel
theorem dL_law_143 : decode cL_law 143 = .ok (.iconst 1, 1) := by decide +kernel
theorem dL_law_144 : decode cL_law 144 = .ok (.iadd, 1) := by decide +kernel
theorem dL_law_145 : decode cL_law 145 = .ok (.iaload, 1) := by decide +kernel
theorem dL_law_146 : decode cL_law 146 = .ok (.aload_n 0, 1) := by decide +kernel
theorem dL_law_147 : decode cL_law 147 = .ok (.iload_n 3, 1) := by decide +kernel
theorem dL_law_148 : decode cL_law 148 = .ok (.iconst 2, 1) := by decide +kernel
theorem dL_law_149 : decode cL_law 149 = .ok (.iadd, 1) := by decide +kernel
theorem dL_law_15 : decode cL_law 15 = .ok (.astore_n 2, 1) := by decide +kernel
theorem dL_law_150 : decode cL_law 150 = .ok (.iaload, 1) := by decide +kernel
theorem dL_law_151 : decode cL_law 151 = .ok (.aload_n 0, 1) := by decide +kernel
theorem dL_law_152 : decode cL_law 152 = .ok (.iload_n 3, 1) := by decide +kernel
theorem dL_law_153 : decode cL_law 153 = .ok (.iconst 3, 1) := by decide +kernel
theorem dL_law_154 : decode cL_law 154 = .ok (.iadd, 1) := by decide +kernel
theorem dL_law_155 : decode cL_law 155 = .ok (.iaload, 1) := by decide +kernel
theorem dL_law_156 : decode cL_law 156 = .ok (.aload_n 0, 1) := by decide +kernel
theorem dL_law_157 : decode cL_law 157 = .ok (.iload_n 3, 1) := by decide +kernel
theorem dL_law_158 : decode cL_law 158 = .ok (.iconst 4, 1) := by decide +kernel
theorem dL_law_159 : decode cL_law 159 = .ok (.iadd, 1) := by decide +kernel
theorem dL_law_16 : decode cL_law 16 = .ok (.iconst 0, 1) := by decide +kernel
theorem dL_law_160 : decode cL_law 160 = .ok (.iaload, 1) := by decide +kernel
theorem dL_law_161 : decode cL_law 161 = .ok (.aload_n 0, 1) := by decide +kernel
theorem dL_law_162 : decode cL_law 162 = .ok (.iload_n 3, 1) := by decide +kernel
theorem dL_law_163 : decode cL_law 163 = .ok (.iconst 5, 1) := by decide +kernel
theorem dL_law_164 : decode cL_law 164 = .ok (.iadd, 1) := by decide +kernel
theorem dL_law_165 : decode cL_law 165 = .ok (.iaload, 1) := by decide +kernel
theorem dL_law_166 : decode cL_law 166 = .ok (.invokevirtual 13, 3) := by decide +kernel
theorem dL_law_169 : decode cL_law 169 = .ok (.pop, 1) := by decide +kernel
theorem dL_law_17 : decode cL_law 17 = .ok (.istore_n 3, 1) := by decide +kernel
theorem dL_law_170 : decode cL_law 170 = .ok (.aload_n 2, 1) := by decide +kernel
theorem dL_law_171 : decode cL_law 171 = .ok (.aload_n 0, 1) := by decide +kernel
theorem dL_law_172 : decode cL_law 172 = .ok (.iload_n 3, 1) := by decide +kernel
theorem dL_law_173 : decode cL_law 173 = .ok (.iconst 1, 1) := by decide +kernel
theorem dL_law_174 : decode cL_law 174 = .ok (.iadd, 1) := by decide +kernel
theorem dL_law_175 : decode cL_law 175 = .ok (.iaload, 1) := by decide +kernel
theorem dL_law_176 : decode cL_law 176 = .ok (.aload_n 0, 1) := by decide +kernel
theorem dL_law_177 : decode cL_law 177 = .ok (.iload_n 3, 1) := by decide +kernel
theorem dL_law_178 : decode cL_law 178 = .ok (.iconst 2, 1) := by decide +kernel
theorem dL_law_179 : decode cL_law 179 = .ok (.iadd, 1) := by decide +kernel
theorem dL_law_18 : decode cL_law 18 = .ok (.iload_n 3, 1) := by decide +kernel
theorem dL_law_180 : decode cL_law 180 = .ok (.iaload, 1) := by decide +kernel
theorem dL_law_181 : decode cL_law 181 = .ok (.aload_n 0, 1) := by decide +kernel
theorem dL_law_182 : decode cL_law 182 = .ok (.iload_n 3, 1) := by decide +kernel
theorem dL_law_183 : decode cL_law 183 = .ok (.iconst 3, 1) := by decide +kernel
theorem dL_law_184 : decode cL_law 184 = .ok (.iadd, 1) := by decide +kernel
theorem dL_law_185 : decode cL_law 185 = .ok (.iaload, 1) := by decide +kernel
theorem dL_law_186 : decode cL_law 186 = .ok (.aload_n 0, 1) := by decide +kernel
theorem dL_law_187 : decode cL_law 187 = .ok (.iload_n 3, 1) := by decide +kernel
theorem dL_law_188 : decode cL_law 188 = .ok (.iconst 4, 1) := by decide +kernel
theorem dL_law_189 : decode cL_law 189 = .ok (.iadd, 1) := by decide +kernel
theorem dL_law_19 : decode cL_law 19 = .ok (.aload_n 0, 1) := by decide +kernel
theorem dL_law_190 : decode cL_law 190 = .ok (.iaload, 1) := by decide +kernel
theorem dL_law_191 : decode cL_law 191 = .ok (.aload_n 0, 1) := by decide +kernel
theorem dL_law_192 : decode cL_law 192 = .ok (.iload_n 3, 1) := by decide +kernel
theorem dL_law_193 : decode cL_law 193 = .ok (.iconst 5, 1) := by decide +kernel
theorem dL_law_194 : decode cL_law 194 = .ok (.iadd, 1) := by decide +kernel
theorem dL_law_195 : decode cL_law 195 = .ok (.iaload, 1) := by decide +kernel
theorem dL_law_196 : decode cL_law 196 = .ok (.invokevirtual 17, 3) := by decide +kernel
theorem dL_law_199 : decode cL_law 199 = .ok (.pop, 1) := by decide +kernel
theorem dL_law_20 : decode cL_law 20 = .ok (.arraylength, 1) := by decide +kernel
theorem dL_law_200 : decode cL_law 200 = .ok (.goto 629, 3) := by decide +kernel
theorem dL_law_203 : decode cL_law 203 = .ok (.aload_n 1, 1) := by decide +kernel
theorem dL_law_204 : decode cL_law 204 = .ok (.aload_n 0, 1) := by decide +kernel
theorem dL_law_205 : decode cL_law 205 = .ok (.iload_n 3, 1) := by decide +kernel
theorem dL_law_206 : decode cL_law 206 = .ok (.iconst 1, 1) := by decide +kernel
theorem dL_law_207 : decode cL_law 207 = .ok (.iadd, 1) := by decide +kernel
theorem dL_law_208 : decode cL_law 208 = .ok (.iaload, 1) := by decide +kernel
theorem dL_law_209 : decode cL_law 209 = .ok (.invokevirtual 18, 3) := by decide +kernel
theorem dL_law_21 : decode cL_law 21 = .ok (.bipush 6, 2) := by decide +kernel
theorem dL_law_212 : decode cL_law 212 = .ok (.pop, 1) := by decide +kernel
theorem dL_law_213 : decode cL_law 213 = .ok (.aload_n 2, 1) := by decide +kernel
theorem dL_law_214 : decode cL_law 214 = .ok (.aload_n 0, 1) := by decide +kernel
theorem dL_law_215 : decode cL_law 215 = .ok (.iload_n 3, 1) := by decide +kernel
theorem dL_law_216 : decode cL_law 216 = .ok (.iconst 1, 1) := by decide +kernel
theorem dL_law_217 : decode cL_law 217 = .ok (.iadd, 1) := by decide +kernel
theorem dL_law_218 : decode cL_law 218 = .ok (.iaload, 1) := by decide +kernel
theorem dL_law_219 : decode cL_law 219 = .ok (.invokevirtual 22, 3) := by decide +kernel
theorem dL_law_222 : decode cL_law 222 = .ok (.pop, 1) := by decide +kernel
theorem dL_law_223 : decode cL_law 223 = .ok (.goto 606, 3) := by decide +kernel
theorem dL_law_226 : decode cL_law 226 = .ok (.aload_n 1, 1) := by decide +kernel
theorem dL_law_227 : decode cL_law 227 = .ok (.invokevirtual 23, 3) := by decide +kernel
theorem dL_law_23 : decode cL_law 23 = .ok (.isub, 1) := by decide +kernel
theorem dL_law_230 : decode cL_law 230 = .ok (.pop, 1) := by decide +kernel
theorem dL_law_231 : decode cL_law 231 = .ok (.aload_n 2, 1) := by decide +kernel
theorem dL_law_232 : decode cL_law 232 = .ok (.invokevirtual 27, 3) := by decide +kernel
theorem dL_law_235 : decode cL_law 235 = .ok (.pop, 1) := by decide +kernel
theorem dL_law_236 : decode cL_law 236 = .ok (.goto 593, 3) := by decide +kernel
theorem dL_law_239 : decode cL_law 239 = .ok (.aload_n 1, 1) := by decide +kernel
theorem dL_law_24 : decode cL_law 24 = .ok (.if_icmp .gt 811, 3) := by decide +kernel
theorem dL_law_240 : decode cL_law 240 = .ok (.aload_n 0, 1) := by decide +kernel
theorem dL_law_241 : decode cL_law 241 = .ok (.iload_n 3, 1) := by decide +kernel
theorem dL_law_242 : decode cL_law 242 = .ok (.iconst 1, 1) := by decide +kernel
theorem dL_law_243 : decode cL_law 243 = .ok (.iadd, 1) := by decide +kernel
theorem dL_law_244 : decode cL_law 244 = .ok (.iaload, 1) := by decide +kernel
theorem dL_law_245 : decode cL_law 245 = .ok (.invokevirtual 28, 3) := by decide +kernel
theorem dL_law_248 : decode cL_law 248 = .ok (.pop, 1) := by decide +kernel
theorem dL_law_249 : decode cL_law 249 = .ok (.aload_n 2, 1) := by decide +kernel
theorem dL_law_250 : decode cL_law 250 = .ok (.aload_n 0, 1) := by decide +kernel
theorem dL_law_251 : decode cL_law 251 = .ok (.iload_n 3, 1) := by decide +kernel
theorem dL_law_252 : decode cL_law 252 = .ok (.iconst 1, 1) := by decide +kernel
theorem dL_law_253 : decode cL_law 253 = .ok (.iadd, 1) := by decide +kernel
theorem dL_law_254 : decode cL_law 254 = .ok (.iaload, 1) := by decide +kernel
theorem dL_law_255 : decode cL_law 255 = .ok (.invokevirtual 32, 3) := by decide +kernel
theorem dL_law_258 : decode cL_law 258 = .ok (.pop, 1) := by decide +kernel
theorem dL_law_259 : decode cL_law 259 = .ok (.goto 570, 3) := by decide +kernel
theorem dL_law_262 : decode cL_law 262 = .ok (.aload_n 1, 1) := by decide +kernel
theorem dL_law_263 : decode cL_law 263 = .ok (.aload_n 0, 1) := by decide +kernel
theorem dL_law_264 : decode cL_law 264 = .ok (.iload_n 3, 1) := by decide +kernel
theorem dL_law_265 : decode cL_law 265 = .ok (.iconst 1, 1) := by decide +kernel
theorem dL_law_266 : decode cL_law 266 = .ok (.iadd, 1) := by decide +kernel
theorem dL_law_267 : decode cL_law 267 = .ok (.iaload, 1) := by decide +kernel
theorem dL_law_268 : decode cL_law 268 = .ok (.invokevirtual 33, 3) := by decide +kernel
theorem dL_law_27 : decode cL_law 27 = .ok (.aload_n 0, 1) := by decide +kernel
theorem dL_law_271 : decode cL_law 271 = .ok (.pop, 1) := by decide +kernel
theorem dL_law_272 : decode cL_law 272 = .ok (.aload_n 2, 1) := by decide +kernel
theorem dL_law_273 : decode cL_law 273 = .ok (.aload_n 0, 1) := by decide +kernel
theorem dL_law_274 : decode cL_law 274 = .ok (.iload_n 3, 1) := by decide +kernel
theorem dL_law_275 : decode cL_law 275 = .ok (.iconst 1, 1) := by decide +kernel
theorem dL_law_276 : decode cL_law 276 = .ok (.iadd, 1) := by decide +kernel
theorem dL_law_277 : decode cL_law 277 = .ok (.iaload, 1) := by decide +kernel
theorem dL_law_278 : decode cL_law 278 = .ok (.invokevirtual 36, 3) := by decide +kernel
theorem dL_law_28 : decode cL_law 28 = .ok (.iload_n 3, 1) := by decide +kernel
theorem dL_law_281 : decode cL_law 281 = .ok (.pop, 1) := by decide +kernel
theorem dL_law_282 : decode cL_law 282 = .ok (.goto 547, 3) := by decide +kernel
theorem dL_law_285 : decode cL_law 285 = .ok (.aload_n 1, 1) := by decide +kernel
theorem dL_law_286 : decode cL_law 286 = .ok (.aload_n 0, 1) := by decide +kernel
theorem dL_law_287 : decode cL_law 287 = .ok (.iload_n 3, 1) := by decide +kernel
theorem dL_law_288 : decode cL_law 288 = .ok (.iconst 1, 1) := by decide +kernel
theorem dL_law_289 : decode cL_law 289 = .ok (.iadd, 1) := by decide +kernel
theorem dL_law_29 : decode cL_law 29 = .ok (.iaload, 1) := by decide +kernel
theorem dL_law_290 : decode cL_law 290 = .ok (.iaload, 1) := by decide +kernel
theorem dL_law_291 : decode cL_law 291 = .ok (.aload_n 0, 1) := by decide +kernel
theorem dL_law_292 : decode cL_law 292 = .ok (.iload_n 3, 1) := by decide +kernel
theorem dL_law_293 : decode cL_law 293 = .ok (.iconst 2, 1) := by decide +kernel
theorem dL_law_294 : decode cL_law 294 = .ok (.iadd, 1) := by decide +kernel
theorem dL_law_295 : decode cL_law 295 = .ok (.iaload, 1) := by decide +kernel
theorem dL_law_296 : decode cL_law 296 = .ok (.invokevirtual 37, 3) := by decide +kernel
theorem dL_law_299 : decode cL_law 299 = .ok (.pop, 1) := by decide +kernel
theorem dL_law_3 : decode cL_law 3 = .ok (.dup, 1) := by decide +kernel
theorem dL_law_30 : decode cL_law 30 = .ok (.bipush 31, 2) := by decide +kernel
theorem dL_law_300 : decode cL_law 300 = .ok (.aload_n 2, 1) := by decide +kernel
theorem dL_law_301 : decode cL_law 301 = .ok (.aload_n 0, 1) := by decide +kernel
theorem dL_law_302 : decode cL_law 302 = .ok (.iload_n 3, 1) := by decide +kernel
theorem dL_law_303 : decode cL_law 303 = .ok (.iconst 1, 1) := by decide +kernel
theorem dL_law_304 : decode cL_law 304 = .ok (.iadd, 1) := by decide +kernel
theorem dL_law_305 : decode cL_law 305 = .ok (.iaload, 1) := by decide +kernel
theorem dL_law_306 : decode cL_law 306 = .ok (.aload_n 0, 1) := by decide +kernel
theorem dL_law_307 : decode cL_law 307 = .ok (.iload_n 3, 1) := by decide +kernel
theorem dL_law_308 : decode cL_law 308 = .ok (.iconst 2, 1) := by decide +kernel
theorem dL_law_309 : decode cL_law 309 = .ok (.iadd, 1) := by decide +kernel
theorem dL_law_310 : decode cL_law 310 = .ok (.iaload, 1) := by decide +kernel
theorem dL_law_311 : decode cL_law 311 = .ok (.invokevirtual 41, 3) := by decide +kernel
theorem dL_law_314 : decode cL_law 314 = .ok (.pop, 1) := by decide +kernel
theorem dL_law_315 : decode cL_law 315 = .ok (.goto 514, 3) := by decide +kernel
theorem dL_law_318 : decode cL_law 318 = .ok (.aload_n 1, 1) := by decide +kernel
theorem dL_law_319 : decode cL_law 319 = .ok (.aload_n 0, 1) := by decide +kernel
theorem dL_law_32 : decode cL_law 32 = .ok (.iand, 1) := by decide +kernel
theorem dL_law_320 : decode cL_law 320 = .ok (.iload_n 3, 1) := by decide +kernel
theorem dL_law_321 : decode cL_law 321 = .ok (.iconst 1, 1) := by decide +kernel
theorem dL_law_322 : decode cL_law 322 = .ok (.iadd, 1) := by decide +kernel
theorem dL_law_323 : decode cL_law 323 = .ok (.iaload, 1) := by decide +kernel
theorem dL_law_324 : decode cL_law 324 = .ok (.aload_n 0, 1) := by decide +kernel
theorem dL_law_325 : decode cL_law 325 = .ok (.iload_n 3, 1) := by decide +kernel
theorem dL_law_326 : decode cL_law 326 = .ok (.iconst 2, 1) := by decide +kernel
theorem dL_law_327 : decode cL_law 327 = .ok (.iadd, 1) := by decide +kernel
theorem dL_law_328 : decode cL_law 328 = .ok (.iaload, 1) := by decide +kernel
theorem dL_law_329 : decode cL_law 329 = .ok (.invokevirtual 42, 3) := by decide +kernel
theorem dL_law_33 : decode cL_law 33 = .ok (.tableswitch 796 0 22 #[107, 170, 193, 206, 229, 252, 285, 318, 341, 394, 427, 440, 483, 526, 559, 582, 615, 638, 671, 694, 727, 740, 773], 107) := by decide +kernel
theorem dL_law_332 : decode cL_law 332 = .ok (.pop, 1) := by decide +kernel
theorem dL_law_333 : decode cL_law 333 = .ok (.aload_n 2, 1) := by decide +kernel
theorem dL_law_334 : decode cL_law 334 = .ok (.aload_n 0, 1) := by decide +kernel
theorem dL_law_335 : decode cL_law 335 = .ok (.iload_n 3, 1) := by decide +kernel
theorem dL_law_336 : decode cL_law 336 = .ok (.iconst 1, 1) := by decide +kernel
theorem dL_law_337 : decode cL_law 337 = .ok (.iadd, 1) := by decide +kernel
theorem dL_law_338 : decode cL_law 338 = .ok (.iaload, 1) := by decide +kernel
theorem dL_law_339 : decode cL_law 339 = .ok (.aload_n 0, 1) := by decide +kernel
theorem dL_law_340 : decode cL_law 340 = .ok (.iload_n 3, 1) := by decide +kernel
theorem dL_law_341 : decode cL_law 341 = .ok (.iconst 2, 1) := by decide +kernel
theorem dL_law_342 : decode cL_law 342 = .ok (.iadd, 1) := by decide +kernel
theorem dL_law_343 : decode cL_law 343 = .ok (.iaload, 1) := by decide +kernel
theorem dL_law_344 : decode cL_law 344 = .ok (.invokevirtual 45, 3) := by decide +kernel
theorem dL_law_347 : decode cL_law 347 = .ok (.pop, 1) := by decide +kernel
theorem dL_law_348 : decode cL_law 348 = .ok (.goto 481, 3) := by decide +kernel
theorem dL_law_351 : decode cL_law 351 = .ok (.aload_n 1, 1) := by decide +kernel
theorem dL_law_352 : decode cL_law 352 = .ok (.aload_n 0, 1) := by decide +kernel
theorem dL_law_353 : decode cL_law 353 = .ok (.iload_n 3, 1) := by decide +kernel
theorem dL_law_354 : decode cL_law 354 = .ok (.iconst 1, 1) := by decide +kernel
theorem dL_law_355 : decode cL_law 355 = .ok (.iadd, 1) := by decide +kernel
theorem dL_law_356 : decode cL_law 356 = .ok (.iaload, 1) := by decide +kernel
theorem dL_law_357 : decode cL_law 357 = .ok (.invokevirtual 46, 3) := by decide +kernel
theorem dL_law_360 : decode cL_law 360 = .ok (.pop, 1) := by decide +kernel
theorem dL_law_361 : decode cL_law 361 = .ok (.aload_n 2, 1) := by decide +kernel
theorem dL_law_362 : decode cL_law 362 = .ok (.aload_n 0, 1) := by decide +kernel
theorem dL_law_363 : decode cL_law 363 = .ok (.iload_n 3, 1) := by decide +kernel
theorem dL_law_364 : decode cL_law 364 = .ok (.iconst 1, 1) := by decide +kernel
theorem dL_law_365 : decode cL_law 365 = .ok (.iadd, 1) := by decide +kernel
theorem dL_law_366 : decode cL_law 366 = .ok (.iaload, 1) := by decide +kernel
theorem dL_law_367 : decode cL_law 367 = .ok (.invokevirtual 49, 3) := by decide +kernel
theorem dL_law_370 : decode cL_law 370 = .ok (.pop, 1) := by decide +kernel
theorem dL_law_371 : decode cL_law 371 = .ok (.goto 458, 3) := by decide +kernel
theorem dL_law_374 : decode cL_law 374 = .ok (.aload_n 1, 1) := by decide +kernel
theorem dL_law_375 : decode cL_law 375 = .ok (.aload_n 0, 1) := by decide +kernel
theorem dL_law_376 : decode cL_law 376 = .ok (.iload_n 3, 1) := by decide +kernel
theorem dL_law_377 : decode cL_law 377 = .ok (.iconst 1, 1) := by decide +kernel
theorem dL_law_378 : decode cL_law 378 = .ok (.iadd, 1) := by decide +kernel
theorem dL_law_379 : decode cL_law 379 = .ok (.iaload, 1) := by decide +kernel
theorem dL_law_380 : decode cL_law 380 = .ok (.aload_n 0, 1) := by decide +kernel
theorem dL_law_381 : decode cL_law 381 = .ok (.iload_n 3, 1) := by decide +kernel
theorem dL_law_382 : decode cL_law 382 = .ok (.iconst 2, 1) := by decide +kernel
theorem dL_law_383 : decode cL_law 383 = .ok (.iadd, 1) := by decide +kernel
theorem dL_law_384 : decode cL_law 384 = .ok (.iaload, 1) := by decide +kernel
theorem dL_law_385 : decode cL_law 385 = .ok (.aload_n 0, 1) := by decide +kernel
theorem dL_law_386 : decode cL_law 386 = .ok (.iload_n 3, 1) := by decide +kernel
theorem dL_law_387 : decode cL_law 387 = .ok (.iconst 3, 1) := by decide +kernel
theorem dL_law_388 : decode cL_law 388 = .ok (.iadd, 1) := by decide +kernel
theorem dL_law_389 : decode cL_law 389 = .ok (.iaload, 1) := by decide +kernel
theorem dL_law_390 : decode cL_law 390 = .ok (.aload_n 0, 1) := by decide +kernel
theorem dL_law_391 : decode cL_law 391 = .ok (.iload_n 3, 1) := by decide +kernel
theorem dL_law_392 : decode cL_law 392 = .ok (.iconst 4, 1) := by decide +kernel
theorem dL_law_393 : decode cL_law 393 = .ok (.iadd, 1) := by decide +kernel
theorem dL_law_394 : decode cL_law 394 = .ok (.iaload, 1) := by decide +kernel
theorem dL_law_395 : decode cL_law 395 = .ok (.invokevirtual 50, 3) := by decide +kernel
theorem dL_law_398 : decode cL_law 398 = .ok (.pop, 1) := by decide +kernel
theorem dL_law_399 : decode cL_law 399 = .ok (.aload_n 2, 1) := by decide +kernel
theorem dL_law_4 : decode cL_law 4 = .ok (.invokespecial 9, 3) := by decide +kernel
theorem dL_law_400 : decode cL_law 400 = .ok (.aload_n 0, 1) := by decide +kernel
theorem dL_law_401 : decode cL_law 401 = .ok (.iload_n 3, 1) := by decide +kernel
theorem dL_law_402 : decode cL_law 402 = .ok (.iconst 1, 1) := by decide +kernel
theorem dL_law_403 : decode cL_law 403 = .ok (.iadd, 1) := by decide +kernel
theorem dL_law_404 : decode cL_law 404 = .ok (.iaload, 1) := by decide +kernel
theorem dL_law_405 : decode cL_law 405 = .ok (.aload_n 0, 1) := by decide +kernel
theorem dL_law_406 : decode cL_law 406 = .ok (.iload_n 3, 1) := by decide +kernel
theorem dL_law_407 : decode cL_law 407 = .ok (.iconst 2, 1) := by decide +kernel
theorem dL_law_408 : decode cL_law 408 = .ok (.iadd, 1) := by decide +kernel
theorem dL_law_409 : decode cL_law 409 = .ok (.iaload, 1) := by decide +kernel
theorem dL_law_410 : decode cL_law 410 = .ok (.aload_n 0, 1) := by decide +kernel
theorem dL_law_411 : decode cL_law 411 = .ok (.iload_n 3, 1) := by decide +kernel
theorem dL_law_412 : decode cL_law 412 = .ok (.iconst 3, 1) := by decide +kernel
theorem dL_law_413 : decode cL_law 413 = .ok (.iadd, 1) := by decide +kernel
theorem dL_law_414 : decode cL_law 414 = .ok (.iaload, 1) := by decide +kernel
theorem dL_law_415 : decode cL_law 415 = .ok (.aload_n 0, 1) := by decide +kernel
theorem dL_law_416 : decode cL_law 416 = .ok (.iload_n 3, 1) := by decide +kernel
theorem dL_law_417 : decode cL_law 417 = .ok (.iconst 4, 1) := by decide +kernel
theorem dL_law_418 : decode cL_law 418 = .ok (.iadd, 1) := by decide +kernel
theorem dL_law_419 : decode cL_law 419 = .ok (.iaload, 1) := by decide +kernel
theorem dL_law_420 : decode cL_law 420 = .ok (.invokevirtual 54, 3) := by decide +kernel
theorem dL_law_423 : decode cL_law 423 = .ok (.pop, 1) := by decide +kernel
theorem dL_law_424 : decode cL_law 424 = .ok (.goto 405, 3) := by decide +kernel
theorem dL_law_427 : decode cL_law 427 = .ok (.aload_n 1, 1) := by decide +kernel
theorem dL_law_428 : decode cL_law 428 = .ok (.aload_n 0, 1) := by decide +kernel
theorem dL_law_429 : decode cL_law 429 = .ok (.iload_n 3, 1) := by decide +kernel
theorem dL_law_430 : decode cL_law 430 = .ok (.iconst 1, 1) := by decide +kernel
theorem dL_law_431 : decode cL_law 431 = .ok (.iadd, 1) := by decide +kernel
theorem dL_law_432 : decode cL_law 432 = .ok (.iaload, 1) := by decide +kernel
theorem dL_law_433 : decode cL_law 433 = .ok (.aload_n 0, 1) := by decide +kernel
theorem dL_law_434 : decode cL_law 434 = .ok (.iload_n 3, 1) := by decide +kernel
theorem dL_law_435 : decode cL_law 435 = .ok (.iconst 2, 1) := by decide +kernel
theorem dL_law_436 : decode cL_law 436 = .ok (.iadd, 1) := by decide +kernel
theorem dL_law_437 : decode cL_law 437 = .ok (.iaload, 1) := by decide +kernel
theorem dL_law_438 : decode cL_law 438 = .ok (.invokevirtual 55, 3) := by decide +kernel
theorem dL_law_441 : decode cL_law 441 = .ok (.pop, 1) := by decide +kernel
theorem dL_law_442 : decode cL_law 442 = .ok (.aload_n 2, 1) := by decide +kernel
theorem dL_law_443 : decode cL_law 443 = .ok (.aload_n 0, 1) := by decide +kernel
theorem dL_law_444 : decode cL_law 444 = .ok (.iload_n 3, 1) := by decide +kernel
theorem dL_law_445 : decode cL_law 445 = .ok (.iconst 1, 1) := by decide +kernel
theorem dL_law_446 : decode cL_law 446 = .ok (.iadd, 1) := by decide +kernel
theorem dL_law_447 : decode cL_law 447 = .ok (.iaload, 1) := by decide +kernel
theorem dL_law_448 : decode cL_law 448 = .ok (.aload_n 0, 1) := by decide +kernel
theorem dL_law_449 : decode cL_law 449 = .ok (.iload_n 3, 1) := by decide +kernel
theorem dL_law_450 : decode cL_law 450 = .ok (.iconst 2, 1) := by decide +kernel
theorem dL_law_451 : decode cL_law 451 = .ok (.iadd, 1) := by decide +kernel
theorem dL_law_452 : decode cL_law 452 = .ok (.iaload, 1) := by decide +kernel
theorem dL_law_453 : decode cL_law 453 = .ok (.invokevirtual 58, 3) := by decide +kernel
theorem dL_law_456 : decode cL_law 456 = .ok (.pop, 1) := by decide +kernel
theorem dL_law_457 : decode cL_law 457 = .ok (.goto 372, 3) := by decide +kernel
theorem dL_law_460 : decode cL_law 460 = .ok (.aload_n 1, 1) := by decide +kernel
theorem dL_law_461 : decode cL_law 461 = .ok (.invokevirtual 59, 3) := by decide +kernel
theorem dL_law_464 : decode cL_law 464 = .ok (.pop, 1) := by decide +kernel
theorem dL_law_465 : decode cL_law 465 = .ok (.aload_n 2, 1) := by decide +kernel
theorem dL_law_466 : decode cL_law 466 = .ok (.invokevirtual 62, 3) := by decide +kernel
theorem dL_law_469 : decode cL_law 469 = .ok (.pop, 1) := by decide +kernel
theorem dL_law_470 : decode cL_law 470 = .ok (.goto 359, 3) := by decide +kernel
theorem dL_law_473 : decode cL_law 473 = .ok (.aload_n 1, 1) := by decide +kernel
theorem dL_law_474 : decode cL_law 474 = .ok (.aload_n 0, 1) := by decide +kernel
theorem dL_law_475 : decode cL_law 475 = .ok (.iload_n 3, 1) := by decide +kernel
theorem dL_law_476 : decode cL_law 476 = .ok (.iconst 1, 1) := by decide +kernel
theorem dL_law_477 : decode cL_law 477 = .ok (.iadd, 1) := by decide +kernel
theorem dL_law_478 : decode cL_law 478 = .ok (.iaload, 1) := by decide +kernel
theorem dL_law_479 : decode cL_law 479 = .ok (.aload_n 0, 1) := by decide +kernel
theorem dL_law_480 : decode cL_law 480 = .ok (.iload_n 3, 1) := by decide +kernel
theorem dL_law_481 : decode cL_law 481 = .ok (.iconst 2, 1) := by decide +kernel
theorem dL_law_482 : decode cL_law 482 = .ok (.iadd, 1) := by decide +kernel
theorem dL_law_483 : decode cL_law 483 = .ok (.iaload, 1) := by decide +kernel
theorem dL_law_484 : decode cL_law 484 = .ok (.aload_n 0, 1) := by decide +kernel
theorem dL_law_485 : decode cL_law 485 = .ok (.iload_n 3, 1) := by decide +kernel
theorem dL_law_486 : decode cL_law 486 = .ok (.iconst 3, 1) := by decide +kernel
theorem dL_law_487 : decode cL_law 487 = .ok (.iadd, 1) := by decide +kernel
theorem dL_law_488 : decode cL_law 488 = .ok (.iaload, 1) := by decide +kernel
theorem dL_law_489 : decode cL_law 489 = .ok (.invokevirtual 63, 3) := by decide +kernel
theorem dL_law_492 : decode cL_law 492 = .ok (.aload_n 2, 1) := by decide +kernel
theorem dL_law_493 : decode cL_law 493 = .ok (.aload_n 0, 1) := by decide +kernel
theorem dL_law_494 : decode cL_law 494 = .ok (.iload_n 3, 1) := by decide +kernel
theorem dL_law_495 : decode cL_law 495 = .ok (.iconst 1, 1) := by decide +kernel
theorem dL_law_496 : decode cL_law 496 = .ok (.iadd, 1) := by decide +kernel
theorem dL_law_497 : decode cL_law 497 = .ok (.iaload, 1) := by decide +kernel
theorem dL_law_498 : decode cL_law 498 = .ok (.aload_n 0, 1) := by decide +kernel
theorem dL_law_499 : decode cL_law 499 = .ok (.iload_n 3, 1) := by decide +kernel
theorem dL_law_500 : decode cL_law 500 = .ok (.iconst 2, 1) := by decide +kernel
theorem dL_law_501 : decode cL_law 501 = .ok (.iadd, 1) := by decide +kernel
theorem dL_law_502 : decode cL_law 502 = .ok (.iaload, 1) := by decide +kernel
theorem dL_law_503 : decode cL_law 503 = .ok (.aload_n 0, 1) := by decide +kernel
theorem dL_law_504 : decode cL_law 504 = .ok (.iload_n 3, 1) := by decide +kernel
theorem dL_law_505 : decode cL_law 505 = .ok (.iconst 3, 1) := by decide +kernel
theorem dL_law_506 : decode cL_law 506 = .ok (.iadd, 1) := by decide +kernel
theorem dL_law_507 : decode cL_law 507 = .ok (.iaload, 1) := by decide +kernel
theorem dL_law_508 : decode cL_law 508 = .ok (.invokevirtual 67, 3) := by decide +kernel
theorem dL_law_511 : decode cL_law 511 = .ok (.if_icmp .eq 318, 3) := by decide +kernel
theorem dL_law_514 : decode cL_law 514 = .ok (.iconst 0, 1) := by decide +kernel
theorem dL_law_515 : decode cL_law 515 = .ok (.ireturn, 1) := by decide +kernel
theorem dL_law_516 : decode cL_law 516 = .ok (.aload_n 1, 1) := by decide +kernel
theorem dL_law_517 : decode cL_law 517 = .ok (.aload_n 0, 1) := by decide +kernel
theorem dL_law_518 : decode cL_law 518 = .ok (.iload_n 3, 1) := by decide +kernel
theorem dL_law_519 : decode cL_law 519 = .ok (.iconst 1, 1) := by decide +kernel
theorem dL_law_520 : decode cL_law 520 = .ok (.iadd, 1) := by decide +kernel
theorem dL_law_521 : decode cL_law 521 = .ok (.iaload, 1) := by decide +kernel
theorem dL_law_522 : decode cL_law 522 = .ok (.aload_n 0, 1) := by decide +kernel
theorem dL_law_523 : decode cL_law 523 = .ok (.iload_n 3, 1) := by decide +kernel
theorem dL_law_524 : decode cL_law 524 = .ok (.iconst 2, 1) := by decide +kernel
theorem dL_law_525 : decode cL_law 525 = .ok (.iadd, 1) := by decide +kernel
theorem dL_law_526 : decode cL_law 526 = .ok (.iaload, 1) := by decide +kernel
theorem dL_law_527 : decode cL_law 527 = .ok (.aload_n 0, 1) := by decide +kernel
theorem dL_law_528 : decode cL_law 528 = .ok (.iload_n 3, 1) := by decide +kernel
theorem dL_law_529 : decode cL_law 529 = .ok (.iconst 3, 1) := by decide +kernel
theorem dL_law_530 : decode cL_law 530 = .ok (.iadd, 1) := by decide +kernel
theorem dL_law_531 : decode cL_law 531 = .ok (.iaload, 1) := by decide +kernel
theorem dL_law_532 : decode cL_law 532 = .ok (.invokevirtual 68, 3) := by decide +kernel
theorem dL_law_535 : decode cL_law 535 = .ok (.pop, 1) := by decide +kernel
theorem dL_law_536 : decode cL_law 536 = .ok (.aload_n 2, 1) := by decide +kernel
theorem dL_law_537 : decode cL_law 537 = .ok (.aload_n 0, 1) := by decide +kernel
theorem dL_law_538 : decode cL_law 538 = .ok (.iload_n 3, 1) := by decide +kernel
theorem dL_law_539 : decode cL_law 539 = .ok (.iconst 1, 1) := by decide +kernel
theorem dL_law_540 : decode cL_law 540 = .ok (.iadd, 1) := by decide +kernel
theorem dL_law_541 : decode cL_law 541 = .ok (.iaload, 1) := by decide +kernel
theorem dL_law_542 : decode cL_law 542 = .ok (.aload_n 0, 1) := by decide +kernel
theorem dL_law_543 : decode cL_law 543 = .ok (.iload_n 3, 1) := by decide +kernel
theorem dL_law_544 : decode cL_law 544 = .ok (.iconst 2, 1) := by decide +kernel
theorem dL_law_545 : decode cL_law 545 = .ok (.iadd, 1) := by decide +kernel
theorem dL_law_546 : decode cL_law 546 = .ok (.iaload, 1) := by decide +kernel
theorem dL_law_547 : decode cL_law 547 = .ok (.aload_n 0, 1) := by decide +kernel
theorem dL_law_548 : decode cL_law 548 = .ok (.iload_n 3, 1) := by decide +kernel
theorem dL_law_549 : decode cL_law 549 = .ok (.iconst 3, 1) := by decide +kernel
theorem dL_law_550 : decode cL_law 550 = .ok (.iadd, 1) := by decide +kernel
theorem dL_law_551 : decode cL_law 551 = .ok (.iaload, 1) := by decide +kernel
theorem dL_law_552 : decode cL_law 552 = .ok (.invokevirtual 71, 3) := by decide +kernel
theorem dL_law_555 : decode cL_law 555 = .ok (.pop, 1) := by decide +kernel
theorem dL_law_556 : decode cL_law 556 = .ok (.goto 273, 3) := by decide +kernel
theorem dL_law_559 : decode cL_law 559 = .ok (.aload_n 1, 1) := by decide +kernel
theorem dL_law_560 : decode cL_law 560 = .ok (.aload_n 0, 1) := by decide +kernel
theorem dL_law_561 : decode cL_law 561 = .ok (.iload_n 3, 1) := by decide +kernel
theorem dL_law_562 : decode cL_law 562 = .ok (.iconst 1, 1) := by decide +kernel
theorem dL_law_563 : decode cL_law 563 = .ok (.iadd, 1) := by decide +kernel
theorem dL_law_564 : decode cL_law 564 = .ok (.iaload, 1) := by decide +kernel
theorem dL_law_565 : decode cL_law 565 = .ok (.aload_n 0, 1) := by decide +kernel
theorem dL_law_566 : decode cL_law 566 = .ok (.iload_n 3, 1) := by decide +kernel
theorem dL_law_567 : decode cL_law 567 = .ok (.iconst 2, 1) := by decide +kernel
theorem dL_law_568 : decode cL_law 568 = .ok (.iadd, 1) := by decide +kernel
theorem dL_law_569 : decode cL_law 569 = .ok (.iaload, 1) := by decide +kernel
theorem dL_law_570 : decode cL_law 570 = .ok (.invokevirtual 72, 3) := by decide +kernel
theorem dL_law_573 : decode cL_law 573 = .ok (.pop, 1) := by decide +kernel
theorem dL_law_574 : decode cL_law 574 = .ok (.aload_n 2, 1) := by decide +kernel
theorem dL_law_575 : decode cL_law 575 = .ok (.aload_n 0, 1) := by decide +kernel
theorem dL_law_576 : decode cL_law 576 = .ok (.iload_n 3, 1) := by decide +kernel
theorem dL_law_577 : decode cL_law 577 = .ok (.iconst 1, 1) := by decide +kernel
theorem dL_law_578 : decode cL_law 578 = .ok (.iadd, 1) := by decide +kernel
theorem dL_law_579 : decode cL_law 579 = .ok (.iaload, 1) := by decide +kernel
theorem dL_law_580 : decode cL_law 580 = .ok (.aload_n 0, 1) := by decide +kernel
theorem dL_law_581 : decode cL_law 581 = .ok (.iload_n 3, 1) := by decide +kernel
theorem dL_law_582 : decode cL_law 582 = .ok (.iconst 2, 1) := by decide +kernel
theorem dL_law_583 : decode cL_law 583 = .ok (.iadd, 1) := by decide +kernel
theorem dL_law_584 : decode cL_law 584 = .ok (.iaload, 1) := by decide +kernel
theorem dL_law_585 : decode cL_law 585 = .ok (.invokevirtual 75, 3) := by decide +kernel
theorem dL_law_588 : decode cL_law 588 = .ok (.pop, 1) := by decide +kernel
theorem dL_law_589 : decode cL_law 589 = .ok (.goto 240, 3) := by decide +kernel
theorem dL_law_592 : decode cL_law 592 = .ok (.aload_n 1, 1) := by decide +kernel
theorem dL_law_593 : decode cL_law 593 = .ok (.aload_n 0, 1) := by decide +kernel
theorem dL_law_594 : decode cL_law 594 = .ok (.iload_n 3, 1) := by decide +kernel
theorem dL_law_595 : decode cL_law 595 = .ok (.iconst 1, 1) := by decide +kernel
theorem dL_law_596 : decode cL_law 596 = .ok (.iadd, 1) := by decide +kernel
theorem dL_law_597 : decode cL_law 597 = .ok (.iaload, 1) := by decide +kernel
theorem dL_law_598 : decode cL_law 598 = .ok (.invokevirtual 76, 3) := by decide +kernel
theorem dL_law_601 : decode cL_law 601 = .ok (.pop, 1) := by decide +kernel
theorem dL_law_602 : decode cL_law 602 = .ok (.aload_n 2, 1) := by decide +kernel
theorem dL_law_603 : decode cL_law 603 = .ok (.aload_n 0, 1) := by decide +kernel
theorem dL_law_604 : decode cL_law 604 = .ok (.iload_n 3, 1) := by decide +kernel
theorem dL_law_605 : decode cL_law 605 = .ok (.iconst 1, 1) := by decide +kernel
theorem dL_law_606 : decode cL_law 606 = .ok (.iadd, 1) := by decide +kernel
theorem dL_law_607 : decode cL_law 607 = .ok (.iaload, 1) := by decide +kernel
theorem dL_law_608 : decode cL_law 608 = .ok (.invokevirtual 79, 3) := by decide +kernel
theorem dL_law_611 : decode cL_law 611 = .ok (.pop, 1) := by decide +kernel
theorem dL_law_612 : decode cL_law 612 = .ok (.goto 217, 3) := by decide +kernel
theorem dL_law_615 : decode cL_law 615 = .ok (.aload_n 1, 1) := by decide +kernel
theorem dL_law_616 : decode cL_law 616 = .ok (.aload_n 0, 1) := by decide +kernel
theorem dL_law_617 : decode cL_law 617 = .ok (.iload_n 3, 1) := by decide +kernel
theorem dL_law_618 : decode cL_law 618 = .ok (.iconst 1, 1) := by decide +kernel
theorem dL_law_619 : decode cL_law 619 = .ok (.iadd, 1) := by decide +kernel
theorem dL_law_620 : decode cL_law 620 = .ok (.iaload, 1) := by decide +kernel
theorem dL_law_621 : decode cL_law 621 = .ok (.aload_n 0, 1) := by decide +kernel
theorem dL_law_622 : decode cL_law 622 = .ok (.iload_n 3, 1) := by decide +kernel
theorem dL_law_623 : decode cL_law 623 = .ok (.iconst 2, 1) := by decide +kernel
theorem dL_law_624 : decode cL_law 624 = .ok (.iadd, 1) := by decide +kernel
theorem dL_law_625 : decode cL_law 625 = .ok (.iaload, 1) := by decide +kernel
theorem dL_law_626 : decode cL_law 626 = .ok (.invokevirtual 80, 3) := by decide +kernel
theorem dL_law_629 : decode cL_law 629 = .ok (.pop, 1) := by decide +kernel
theorem dL_law_630 : decode cL_law 630 = .ok (.aload_n 2, 1) := by decide +kernel
theorem dL_law_631 : decode cL_law 631 = .ok (.aload_n 0, 1) := by decide +kernel
theorem dL_law_632 : decode cL_law 632 = .ok (.iload_n 3, 1) := by decide +kernel
theorem dL_law_633 : decode cL_law 633 = .ok (.iconst 1, 1) := by decide +kernel
theorem dL_law_634 : decode cL_law 634 = .ok (.iadd, 1) := by decide +kernel
theorem dL_law_635 : decode cL_law 635 = .ok (.iaload, 1) := by decide +kernel
theorem dL_law_636 : decode cL_law 636 = .ok (.aload_n 0, 1) := by decide +kernel
theorem dL_law_637 : decode cL_law 637 = .ok (.iload_n 3, 1) := by decide +kernel
theorem dL_law_638 : decode cL_law 638 = .ok (.iconst 2, 1) := by decide +kernel
theorem dL_law_639 : decode cL_law 639 = .ok (.iadd, 1) := by decide +kernel
theorem dL_law_640 : decode cL_law 640 = .ok (.iaload, 1) := by decide +kernel
theorem dL_law_641 : decode cL_law 641 = .ok (.invokevirtual 83, 3) := by decide +kernel
theorem dL_law_644 : decode cL_law 644 = .ok (.pop, 1) := by decide +kernel
theorem dL_law_645 : decode cL_law 645 = .ok (.goto 184, 3) := by decide +kernel
theorem dL_law_648 : decode cL_law 648 = .ok (.aload_n 1, 1) := by decide +kernel
theorem dL_law_649 : decode cL_law 649 = .ok (.aload_n 0, 1) := by decide +kernel
theorem dL_law_650 : decode cL_law 650 = .ok (.iload_n 3, 1) := by decide +kernel
theorem dL_law_651 : decode cL_law 651 = .ok (.iconst 1, 1) := by decide +kernel
theorem dL_law_652 : decode cL_law 652 = .ok (.iadd, 1) := by decide +kernel
theorem dL_law_653 : decode cL_law 653 = .ok (.iaload, 1) := by decide +kernel
theorem dL_law_654 : decode cL_law 654 = .ok (.invokevirtual 84, 3) := by decide +kernel
theorem dL_law_657 : decode cL_law 657 = .ok (.pop, 1) := by decide +kernel
theorem dL_law_658 : decode cL_law 658 = .ok (.aload_n 2, 1) := by decide +kernel
theorem dL_law_659 : decode cL_law 659 = .ok (.aload_n 0, 1) := by decide +kernel
theorem dL_law_660 : decode cL_law 660 = .ok (.iload_n 3, 1) := by decide +kernel
theorem dL_law_661 : decode cL_law 661 = .ok (.iconst 1, 1) := by decide +kernel
theorem dL_law_662 : decode cL_law 662 = .ok (.iadd, 1) := by decide +kernel
theorem dL_law_663 : decode cL_law 663 = .ok (.iaload, 1) := by decide +kernel
theorem dL_law_664 : decode cL_law 664 = .ok (.invokevirtual 87, 3) := by decide +kernel
theorem dL_law_667 : decode cL_law 667 = .ok (.pop, 1) := by decide +kernel
theorem dL_law_668 : decode cL_law 668 = .ok (.goto 161, 3) := by decide +kernel
theorem dL_law_671 : decode cL_law 671 = .ok (.aload_n 1, 1) := by decide +kernel
theorem dL_law_672 : decode cL_law 672 = .ok (.aload_n 0, 1) := by decide +kernel
theorem dL_law_673 : decode cL_law 673 = .ok (.iload_n 3, 1) := by decide +kernel
theorem dL_law_674 : decode cL_law 674 = .ok (.iconst 1, 1) := by decide +kernel
theorem dL_law_675 : decode cL_law 675 = .ok (.iadd, 1) := by decide +kernel
theorem dL_law_676 : decode cL_law 676 = .ok (.iaload, 1) := by decide +kernel
theorem dL_law_677 : decode cL_law 677 = .ok (.aload_n 0, 1) := by decide +kernel
theorem dL_law_678 : decode cL_law 678 = .ok (.iload_n 3, 1) := by decide +kernel
theorem dL_law_679 : decode cL_law 679 = .ok (.iconst 2, 1) := by decide +kernel
theorem dL_law_680 : decode cL_law 680 = .ok (.iadd, 1) := by decide +kernel
theorem dL_law_681 : decode cL_law 681 = .ok (.iaload, 1) := by decide +kernel
theorem dL_law_682 : decode cL_law 682 = .ok (.invokevirtual 88, 3) := by decide +kernel
theorem dL_law_685 : decode cL_law 685 = .ok (.pop, 1) := by decide +kernel
theorem dL_law_686 : decode cL_law 686 = .ok (.aload_n 2, 1) := by decide +kernel
theorem dL_law_687 : decode cL_law 687 = .ok (.aload_n 0, 1) := by decide +kernel
theorem dL_law_688 : decode cL_law 688 = .ok (.iload_n 3, 1) := by decide +kernel
theorem dL_law_689 : decode cL_law 689 = .ok (.iconst 1, 1) := by decide +kernel
theorem dL_law_690 : decode cL_law 690 = .ok (.iadd, 1) := by decide +kernel
theorem dL_law_691 : decode cL_law 691 = .ok (.iaload, 1) := by decide +kernel
theorem dL_law_692 : decode cL_law 692 = .ok (.aload_n 0, 1) := by decide +kernel
theorem dL_law_693 : decode cL_law 693 = .ok (.iload_n 3, 1) := by decide +kernel
theorem dL_law_694 : decode cL_law 694 = .ok (.iconst 2, 1) := by decide +kernel
theorem dL_law_695 : decode cL_law 695 = .ok (.iadd, 1) := by decide +kernel
theorem dL_law_696 : decode cL_law 696 = .ok (.iaload, 1) := by decide +kernel
theorem dL_law_697 : decode cL_law 697 = .ok (.invokevirtual 91, 3) := by decide +kernel
theorem dL_law_7 : decode cL_law 7 = .ok (.astore_n 1, 1) := by decide +kernel
theorem dL_law_700 : decode cL_law 700 = .ok (.pop, 1) := by decide +kernel
theorem dL_law_701 : decode cL_law 701 = .ok (.goto 128, 3) := by decide +kernel
theorem dL_law_704 : decode cL_law 704 = .ok (.aload_n 1, 1) := by decide +kernel
theorem dL_law_705 : decode cL_law 705 = .ok (.aload_n 0, 1) := by decide +kernel
theorem dL_law_706 : decode cL_law 706 = .ok (.iload_n 3, 1) := by decide +kernel
theorem dL_law_707 : decode cL_law 707 = .ok (.iconst 1, 1) := by decide +kernel
theorem dL_law_708 : decode cL_law 708 = .ok (.iadd, 1) := by decide +kernel
theorem dL_law_709 : decode cL_law 709 = .ok (.iaload, 1) := by decide +kernel
theorem dL_law_710 : decode cL_law 710 = .ok (.invokevirtual 92, 3) := by decide +kernel
theorem dL_law_713 : decode cL_law 713 = .ok (.pop, 1) := by decide +kernel
theorem dL_law_714 : decode cL_law 714 = .ok (.aload_n 2, 1) := by decide +kernel
theorem dL_law_715 : decode cL_law 715 = .ok (.aload_n 0, 1) := by decide +kernel
theorem dL_law_716 : decode cL_law 716 = .ok (.iload_n 3, 1) := by decide +kernel
theorem dL_law_717 : decode cL_law 717 = .ok (.iconst 1, 1) := by decide +kernel
theorem dL_law_718 : decode cL_law 718 = .ok (.iadd, 1) := by decide +kernel
theorem dL_law_719 : decode cL_law 719 = .ok (.iaload, 1) := by decide +kernel
theorem dL_law_720 : decode cL_law 720 = .ok (.invokevirtual 95, 3) := by decide +kernel
theorem dL_law_723 : decode cL_law 723 = .ok (.pop, 1) := by decide +kernel
theorem dL_law_724 : decode cL_law 724 = .ok (.goto 105, 3) := by decide +kernel
theorem dL_law_727 : decode cL_law 727 = .ok (.aload_n 1, 1) := by decide +kernel
theorem dL_law_728 : decode cL_law 728 = .ok (.aload_n 0, 1) := by decide +kernel
theorem dL_law_729 : decode cL_law 729 = .ok (.iload_n 3, 1) := by decide +kernel
theorem dL_law_730 : decode cL_law 730 = .ok (.iconst 1, 1) := by decide +kernel
theorem dL_law_731 : decode cL_law 731 = .ok (.iadd, 1) := by decide +kernel
theorem dL_law_732 : decode cL_law 732 = .ok (.iaload, 1) := by decide +kernel
theorem dL_law_733 : decode cL_law 733 = .ok (.aload_n 0, 1) := by decide +kernel
theorem dL_law_734 : decode cL_law 734 = .ok (.iload_n 3, 1) := by decide +kernel
theorem dL_law_735 : decode cL_law 735 = .ok (.iconst 2, 1) := by decide +kernel
theorem dL_law_736 : decode cL_law 736 = .ok (.iadd, 1) := by decide +kernel
theorem dL_law_737 : decode cL_law 737 = .ok (.iaload, 1) := by decide +kernel
theorem dL_law_738 : decode cL_law 738 = .ok (.invokevirtual 96, 3) := by decide +kernel
theorem dL_law_741 : decode cL_law 741 = .ok (.pop, 1) := by decide +kernel
theorem dL_law_742 : decode cL_law 742 = .ok (.aload_n 2, 1) := by decide +kernel
theorem dL_law_743 : decode cL_law 743 = .ok (.aload_n 0, 1) := by decide +kernel
theorem dL_law_744 : decode cL_law 744 = .ok (.iload_n 3, 1) := by decide +kernel
theorem dL_law_745 : decode cL_law 745 = .ok (.iconst 1, 1) := by decide +kernel
theorem dL_law_746 : decode cL_law 746 = .ok (.iadd, 1) := by decide +kernel
theorem dL_law_747 : decode cL_law 747 = .ok (.iaload, 1) := by decide +kernel
theorem dL_law_748 : decode cL_law 748 = .ok (.aload_n 0, 1) := by decide +kernel
theorem dL_law_749 : decode cL_law 749 = .ok (.iload_n 3, 1) := by decide +kernel
theorem dL_law_750 : decode cL_law 750 = .ok (.iconst 2, 1) := by decide +kernel
theorem dL_law_751 : decode cL_law 751 = .ok (.iadd, 1) := by decide +kernel
theorem dL_law_752 : decode cL_law 752 = .ok (.iaload, 1) := by decide +kernel
theorem dL_law_753 : decode cL_law 753 = .ok (.invokevirtual 99, 3) := by decide +kernel
theorem dL_law_756 : decode cL_law 756 = .ok (.pop, 1) := by decide +kernel
theorem dL_law_757 : decode cL_law 757 = .ok (.goto 72, 3) := by decide +kernel
theorem dL_law_760 : decode cL_law 760 = .ok (.aload_n 1, 1) := by decide +kernel
theorem dL_law_761 : decode cL_law 761 = .ok (.invokevirtual 100, 3) := by decide +kernel
theorem dL_law_764 : decode cL_law 764 = .ok (.pop, 1) := by decide +kernel
theorem dL_law_765 : decode cL_law 765 = .ok (.aload_n 2, 1) := by decide +kernel
theorem dL_law_766 : decode cL_law 766 = .ok (.invokevirtual 103, 3) := by decide +kernel
theorem dL_law_769 : decode cL_law 769 = .ok (.pop, 1) := by decide +kernel
theorem dL_law_770 : decode cL_law 770 = .ok (.goto 59, 3) := by decide +kernel
theorem dL_law_773 : decode cL_law 773 = .ok (.aload_n 1, 1) := by decide +kernel
theorem dL_law_774 : decode cL_law 774 = .ok (.aload_n 0, 1) := by decide +kernel
theorem dL_law_775 : decode cL_law 775 = .ok (.iload_n 3, 1) := by decide +kernel
theorem dL_law_776 : decode cL_law 776 = .ok (.iconst 1, 1) := by decide +kernel
theorem dL_law_777 : decode cL_law 777 = .ok (.iadd, 1) := by decide +kernel
theorem dL_law_778 : decode cL_law 778 = .ok (.iaload, 1) := by decide +kernel
theorem dL_law_779 : decode cL_law 779 = .ok (.aload_n 0, 1) := by decide +kernel
theorem dL_law_780 : decode cL_law 780 = .ok (.iload_n 3, 1) := by decide +kernel
theorem dL_law_781 : decode cL_law 781 = .ok (.iconst 2, 1) := by decide +kernel
theorem dL_law_782 : decode cL_law 782 = .ok (.iadd, 1) := by decide +kernel
theorem dL_law_783 : decode cL_law 783 = .ok (.iaload, 1) := by decide +kernel
theorem dL_law_784 : decode cL_law 784 = .ok (.invokevirtual 104, 3) := by decide +kernel
theorem dL_law_787 : decode cL_law 787 = .ok (.pop, 1) := by decide +kernel
theorem dL_law_788 : decode cL_law 788 = .ok (.aload_n 2, 1) := by decide +kernel
theorem dL_law_789 : decode cL_law 789 = .ok (.aload_n 0, 1) := by decide +kernel
theorem dL_law_790 : decode cL_law 790 = .ok (.iload_n 3, 1) := by decide +kernel
theorem dL_law_791 : decode cL_law 791 = .ok (.iconst 1, 1) := by decide +kernel
theorem dL_law_792 : decode cL_law 792 = .ok (.iadd, 1) := by decide +kernel
theorem dL_law_793 : decode cL_law 793 = .ok (.iaload, 1) := by decide +kernel
theorem dL_law_794 : decode cL_law 794 = .ok (.aload_n 0, 1) := by decide +kernel
theorem dL_law_795 : decode cL_law 795 = .ok (.iload_n 3, 1) := by decide +kernel
theorem dL_law_796 : decode cL_law 796 = .ok (.iconst 2, 1) := by decide +kernel
theorem dL_law_797 : decode cL_law 797 = .ok (.iadd, 1) := by decide +kernel
theorem dL_law_798 : decode cL_law 798 = .ok (.iaload, 1) := by decide +kernel
theorem dL_law_799 : decode cL_law 799 = .ok (.invokevirtual 107, 3) := by decide +kernel
theorem dL_law_8 : decode cL_law 8 = .ok (.new 10, 3) := by decide +kernel
theorem dL_law_802 : decode cL_law 802 = .ok (.pop, 1) := by decide +kernel
theorem dL_law_803 : decode cL_law 803 = .ok (.goto 26, 3) := by decide +kernel
theorem dL_law_806 : decode cL_law 806 = .ok (.aload_n 1, 1) := by decide +kernel
theorem dL_law_807 : decode cL_law 807 = .ok (.aload_n 0, 1) := by decide +kernel
theorem dL_law_808 : decode cL_law 808 = .ok (.iload_n 3, 1) := by decide +kernel
theorem dL_law_809 : decode cL_law 809 = .ok (.iconst 1, 1) := by decide +kernel
theorem dL_law_810 : decode cL_law 810 = .ok (.iadd, 1) := by decide +kernel
theorem dL_law_811 : decode cL_law 811 = .ok (.iaload, 1) := by decide +kernel
theorem dL_law_812 : decode cL_law 812 = .ok (.invokevirtual 108, 3) := by decide +kernel
theorem dL_law_815 : decode cL_law 815 = .ok (.pop, 1) := by decide +kernel
theorem dL_law_816 : decode cL_law 816 = .ok (.aload_n 2, 1) := by decide +kernel
theorem dL_law_817 : decode cL_law 817 = .ok (.aload_n 0, 1) := by decide +kernel
theorem dL_law_818 : decode cL_law 818 = .ok (.iload_n 3, 1) := by decide +kernel
theorem dL_law_819 : decode cL_law 819 = .ok (.iconst 1, 1) := by decide +kernel
theorem dL_law_820 : decode cL_law 820 = .ok (.iadd, 1) := by decide +kernel
theorem dL_law_821 : decode cL_law 821 = .ok (.iaload, 1) := by decide +kernel
theorem dL_law_822 : decode cL_law 822 = .ok (.invokevirtual 111, 3) := by decide +kernel
theorem dL_law_825 : decode cL_law 825 = .ok (.pop, 1) := by decide +kernel
theorem dL_law_826 : decode cL_law 826 = .ok (.goto 3, 3) := by decide +kernel
theorem dL_law_829 : decode cL_law 829 = .ok (.iinc 3 6, 3) := by decide +kernel
theorem dL_law_832 : decode cL_law 832 = .ok (.goto (-814), 3) := by decide +kernel
theorem dL_law_835 : decode cL_law 835 = .ok (.iconst 1, 1) := by decide +kernel
theorem dL_law_836 : decode cL_law 836 = .ok (.ireturn, 1) := by decide +kernel
set_option maxRecDepth 100000 in
theorem mq191_59 (b1 b2 b3 b4 b5 b6 b7 : Value) : ∃ w : Nat → Value, ∀ (a0 : Value), mo59 w a0 = (mo191 a0 b1 b2 b3 b4 b5 b6 b7) := ⟨fun k => List.getD (mo191 .null b1 b2 b3 b4 b5 b6 b7) k .null, fun _ => rfl⟩
set_option maxRecDepth 100000 in
theorem mq35_26 (v : Nat → Value) (b2 b3 b5 b6 b7 b8 b9 b10 : Value) : ∃ w : Nat → Value, ∀ (a0 a1 : Value), mo26 w a0 a1 = (mo35 v a0 a1 b2 b3 b5 b6 b7 b8 b9 b10) := ⟨fun k => List.getD (mo35 v .null .null b2 b3 b5 b6 b7 b8 b9 b10) k .null, fun _ _ => rfl⟩
set_option maxRecDepth 100000 in
theorem mq35_60 (v : Nat → Value) (b0 b2 b3 b5 b6 b7 b8 b9 b10 : Value) : ∃ w : Nat → Value, ∀ (a1 : Value), mo60 w a1 = (mo35 v b0 a1 b2 b3 b5 b6 b7 b8 b9 b10) := ⟨fun k => List.getD (mo35 v b0 .null b2 b3 b5 b6 b7 b8 b9 b10) k .null, fun _ => rfl⟩
set_option maxRecDepth 100000 in
theorem mq191_64 (b3 b4 : Value) : ∃ w : Nat → Value, ∀ (a0 a1 a2 a5 a6 a7 : Value), mo64 w a0 a1 a2 a5 a6 a7 = (mo191 a0 a1 a2 b3 b4 a5 a6 a7) := ⟨fun k => List.getD (mo191 .null .null .null b3 b4 .null .null .null) k .null, fun _ _ _ _ _ _ => rfl⟩
set_option maxRecDepth 100000 in
theorem mq190_62 (b0 b1 b2 b3 b4 b5 b6 b7 b8 b9 b10 b11 b12 b13 b14 b15 b16 : Value) : ∃ w : Nat → Value, ∀ (a17 : Value), mo62 w a17 = (mo190 b0 b1 b2 b3 b4 b5 b6 b7 b8 b9 b10 b11 b12 b13 b14 b15 b16 a17) := ⟨fun k => List.getD (mo190 b0 b1 b2 b3 b4 b5 b6 b7 b8 b9 b10 b11 b12 b13 b14 b15 b16 .null) k .null, fun _ => rfl⟩
set_option maxRecDepth 100000 in
theorem mq57_45 (b0 b1 b2 b3 b5 b6 b7 b8 b9 b11 : Value) : ∃ w : Nat → Value, ∀ (a4 a10 : Value), mo45 w a4 a10 = (mo57 b0 b1 b2 b3 a4 b5 b6 b7 b8 b9 a10 b11) := ⟨fun k => List.getD (mo57 b0 b1 b2 b3 .null b5 b6 b7 b8 b9 .null b11) k .null, fun _ _ => rfl⟩
set_option maxRecDepth 100000 in
theorem mq41_63 (b0 b1 b2 b3 b5 : Value) : ∃ w : Nat → Value, ∀ (a4 : Value), mo63 w a4 = (mo41 b0 b1 b2 b3 a4 b5) := ⟨fun k => List.getD (mo41 b0 b1 b2 b3 .null b5) k .null, fun _ => rfl⟩
set_option maxRecDepth 100000 in
theorem mq35_65 (v : Nat → Value) (b0 b1 b5 b6 b7 b8 b9 b10 : Value) : ∃ w : Nat → Value, ∀ (a2 a3 : Value), mo65 w a2 a3 = (mo35 v b0 b1 a2 a3 b5 b6 b7 b8 b9 b10) := ⟨fun k => List.getD (mo35 v b0 b1 .null .null b5 b6 b7 b8 b9 b10) k .null, fun _ _ => rfl⟩
set_option maxRecDepth 100000 in
theorem mq191_66 (b0 b2 b3 b4 : Value) : ∃ w : Nat → Value, ∀ (a1 a5 a6 a7 : Value), mo66 w a1 a5 a6 a7 = (mo191 b0 a1 b2 b3 b4 a5 a6 a7) := ⟨fun k => List.getD (mo191 b0 .null b2 b3 b4 .null .null .null) k .null, fun _ _ _ _ => rfl⟩
set_option maxRecDepth 100000 in
theorem mq34_25 (b0 b1 b2 b3 b4 : Value) : ∃ w : Nat → Value, ∀ (a5 a6 a7 a8 a9 : Value), mo25 w a5 a6 a7 a8 a9 = (mo34 b0 b1 b2 b3 b4 a5 a6 a7 a8 a9) := ⟨fun k => List.getD (mo34 b0 b1 b2 b3 b4 .null .null .null .null .null) k .null, fun _ _ _ _ _ => rfl⟩
set_option maxRecDepth 100000 in
theorem mq191_68 (b0 b2 b4 b5 b6 b7 : Value) : ∃ w : Nat → Value, ∀ (a1 a3 : Value), mo68 w a1 a3 = (mo191 b0 a1 b2 a3 b4 b5 b6 b7) := ⟨fun k => List.getD (mo191 b0 .null b2 .null b4 b5 b6 b7) k .null, fun _ _ => rfl⟩
set_option maxRecDepth 100000 in
theorem mq34_70 (b0 b4 : Value) : ∃ w : Nat → Value, ∀ (a1 a2 a3 a5 a6 a7 a8 a9 : Value), mo70 w a1 a2 a3 a5 a6 a7 a8 a9 = (mo34 b0 a1 a2 a3 b4 a5 a6 a7 a8 a9) := ⟨fun k => List.getD (mo34 b0 .null .null .null b4 .null .null .null .null .null) k .null, fun _ _ _ _ _ _ _ _ => rfl⟩
set_option maxRecDepth 100000 in
theorem mq191_71 (b0 b2 b3 b5 b6 b7 : Value) : ∃ w : Nat → Value, ∀ (a1 a4 : Value), mo71 w a1 a4 = (mo191 b0 a1 b2 b3 a4 b5 b6 b7) := ⟨fun k => List.getD (mo191 b0 .null b2 b3 .null b5 b6 b7) k .null, fun _ _ => rfl⟩
set_option maxRecDepth 100000 in
theorem mq34_72 (b4 : Value) : ∃ w : Nat → Value, ∀ (a0 a1 a2 a3 a5 a6 a7 a8 a9 : Value), mo72 w a0 a1 a2 a3 a5 a6 a7 a8 a9 = (mo34 a0 a1 a2 a3 b4 a5 a6 a7 a8 a9) := ⟨fun k => List.getD (mo34 .null .null .null .null b4 .null .null .null .null .null) k .null, fun _ _ _ _ _ _ _ _ _ => rfl⟩
set_option maxRecDepth 100000 in
theorem mq191_73 (b0 b1 b2 b3 b5 b6 b7 : Value) : ∃ w : Nat → Value, ∀ (a4 : Value), mo73 w a4 = (mo191 b0 b1 b2 b3 a4 b5 b6 b7) := ⟨fun k => List.getD (mo191 b0 b1 b2 b3 .null b5 b6 b7) k .null, fun _ => rfl⟩
set_option maxRecDepth 100000 in
theorem mq39_74 (b0 b1 b4 b5 b6 b7 : Value) : ∃ w : Nat → Value, ∀ (a2 a3 : Value), mo74 w a2 a3 = (mo39 b0 b1 a2 a3 b4 b5 b6 b7) := ⟨fun k => List.getD (mo39 b0 b1 .null .null b4 b5 b6 b7) k .null, fun _ _ => rfl⟩
set_option maxRecDepth 100000 in
theorem mq34_75 (b4 b6 : Value) : ∃ w : Nat → Value, ∀ (a0 a1 a2 a3 a5 a7 a8 a9 : Value), mo75 w a0 a1 a2 a3 a5 a7 a8 a9 = (mo34 a0 a1 a2 a3 b4 a5 b6 a7 a8 a9) := ⟨fun k => List.getD (mo34 .null .null .null .null b4 .null b6 .null .null .null) k .null, fun _ _ _ _ _ _ _ _ => rfl⟩
set_option maxRecDepth 100000 in
theorem mq191_195 (b0 b2 b3 b4 b7 : Value) : ∃ w : Nat → Value, ∀ (a1 a5 a6 : Value), mo195 w a1 a5 a6 = (mo191 b0 a1 b2 b3 b4 a5 a6 b7) := ⟨fun k => List.getD (mo191 b0 .null b2 b3 b4 .null .null b7) k .null, fun _ _ _ => rfl⟩
set_option maxRecDepth 100000 in
theorem mq191_76 (b0 b1 b2 b3 b4 b6 b7 : Value) : ∃ w : Nat → Value, ∀ (a5 : Value), mo76 w a5 = (mo191 b0 b1 b2 b3 b4 a5 b6 b7) := ⟨fun k => List.getD (mo191 b0 b1 b2 b3 b4 .null b6 b7) k .null, fun _ => rfl⟩
set_option maxRecDepth 100000 in
theorem mq190_77 (b0 b1 b2 b3 b4 b5 b6 b7 b8 b9 b10 b11 b16 b17 : Value) : ∃ w : Nat → Value, ∀ (a12 a13 a14 a15 : Value), mo77 w a12 a13 a14 a15 = (mo190 b0 b1 b2 b3 b4 b5 b6 b7 b8 b9 b10 b11 a12 a13 a14 a15 b16 b17) := ⟨fun k => List.getD (mo190 b0 b1 b2 b3 b4 b5 b6 b7 b8 b9 b10 b11 .null .null .null .null b16 b17) k .null, fun _ _ _ _ => rfl⟩
set_option maxRecDepth 100000 in
theorem mq190_194 (b0 b1 b2 b3 b4 b5 b8 b9 b10 b11 b12 b13 b14 b15 b16 : Value) : ∃ w : Nat → Value, ∀ (a6 a7 a17 : Value), mo194 w a6 a7 a17 = (mo190 b0 b1 b2 b3 b4 b5 a6 a7 b8 b9 b10 b11 b12 b13 b14 b15 b16 a17) := ⟨fun k => List.getD (mo190 b0 b1 b2 b3 b4 b5 .null .null b8 b9 b10 b11 b12 b13 b14 b15 b16 .null) k .null, fun _ _ _ => rfl⟩
set_option maxRecDepth 100000 in
theorem mq190_79 (b0 b1 b2 b3 b4 b5 b6 b7 b10 b11 b12 b13 b14 b15 b16 : Value) : ∃ w : Nat → Value, ∀ (a8 a9 a17 : Value), mo79 w a8 a9 a17 = (mo190 b0 b1 b2 b3 b4 b5 b6 b7 a8 a9 b10 b11 b12 b13 b14 b15 b16 a17) := ⟨fun k => List.getD (mo190 b0 b1 b2 b3 b4 b5 b6 b7 .null .null b10 b11 b12 b13 b14 b15 b16 .null) k .null, fun _ _ _ => rfl⟩
set_option maxRecDepth 100000 in
theorem mq191_80 (b0 b2 b3 b6 b7 : Value) : ∃ w : Nat → Value, ∀ (a1 a4 a5 : Value), mo80 w a1 a4 a5 = (mo191 b0 a1 b2 b3 a4 a5 b6 b7) := ⟨fun k => List.getD (mo191 b0 .null b2 b3 .null .null b6 b7) k .null, fun _ _ _ => rfl⟩
set_option maxRecDepth 100000 in
theorem mq191_81 (b0 b1 b2 b3 b4 b7 : Value) : ∃ w : Nat → Value, ∀ (a5 a6 : Value), mo81 w a5 a6 = (mo191 b0 b1 b2 b3 b4 a5 a6 b7) := ⟨fun k => List.getD (mo191 b0 b1 b2 b3 b4 .null .null b7) k .null, fun _ _ => rfl⟩
set_option maxRecDepth 100000 in
theorem mq190_82 (b1 b2 b3 b4 b5 b6 b7 b10 b11 b12 b13 b14 b15 b16 : Value) : ∃ w : Nat → Value, ∀ (a0 a8 a9 a17 : Value), mo82 w a0 a8 a9 a17 = (mo190 a0 b1 b2 b3 b4 b5 b6 b7 a8 a9 b10 b11 b12 b13 b14 b15 b16 a17) := ⟨fun k => List.getD (mo190 .null b1 b2 b3 b4 b5 b6 b7 .null .null b10 b11 b12 b13 b14 b15 b16 .null) k .null, fun _ _ _ _ => rfl⟩
set_option maxRecDepth 100000 in
theorem mq34_58 (b4 b6 b9 : Value) : ∃ w : Nat → Value, ∀ (a0 a1 a2 a3 a5 a7 a8 : Value), mo58 w a0 a1 a2 a3 a5 a7 a8 = (mo34 a0 a1 a2 a3 b4 a5 b6 a7 a8 b9) := ⟨fun k => List.getD (mo34 .null .null .null .null b4 .null b6 .null .null b9) k .null, fun _ _ _ _ _ _ _ => rfl⟩
set_option maxRecDepth 100000 in
theorem mq191_83 (b0 b1 b2 b3 b4 b5 b6 : Value) : ∃ w : Nat → Value, ∀ (a7 : Value), mo83 w a7 = (mo191 b0 b1 b2 b3 b4 b5 b6 a7) := ⟨fun k => List.getD (mo191 b0 b1 b2 b3 b4 b5 b6 .null) k .null, fun _ => rfl⟩
set_option maxRecDepth 100000 in
theorem mq191_196 (b2 b3 b4 b6 : Value) : ∃ w : Nat → Value, ∀ (a0 a1 a5 a7 : Value), mo196 w a0 a1 a5 a7 = (mo191 a0 a1 b2 b3 b4 a5 b6 a7) := ⟨fun k => List.getD (mo191 .null .null b2 b3 b4 .null b6 .null) k .null, fun _ _ _ _ => rfl⟩
set_option maxRecDepth 100000 in
theorem mq34_14 (b1 b3 b4 b6 b7 : Value) : ∃ w : Nat → Value, ∀ (a0 a2 a5 a8 a9 : Value), mo14 w a0 a2 a5 a8 a9 = (mo34 a0 b1 a2 b3 b4 a5 b6 b7 a8 a9) := ⟨fun k => List.getD (mo34 .null b1 .null b3 b4 .null b6 b7 .null .null) k .null, fun _ _ _ _ _ => rfl⟩
set_option maxRecDepth 100000 in
theorem mq41_197 (b0 b1 b2 b3 b4 : Value) : ∃ w : Nat → Value, ∀ (a5 : Value), mo197 w a5 = (mo41 b0 b1 b2 b3 b4 a5) := ⟨fun k => List.getD (mo41 b0 b1 b2 b3 b4 .null) k .null, fun _ => rfl⟩
def LW (p : Program) (l : Launch) (e : Env) (s : State) (m : MethodId) (below : List Frame) (meth : Method) (c : Code) (b : Nat) (L : Nat) (xs : Nat → Int32) (dC : Nat → ClassId) (dI : Nat → Nat → Nat) (h_xx : Nat) (h_rd : Nat) (h_by : Nat) (h_kn : Nat) (h_td : Nat) (h_nam : Nat) (h_var : Nat) (h_trm : Nat) (h_ter : Nat) (h_lit : Nat) (h_vas : Nat) (h_pls : Nat) (h_fst : Nat) (h_dr : Nat) (h_dnam : Nat) (h_dvar : Nat) (h_dtrm : Nat) (h_dter : Nat) (h_dlit : Nat) (h_dvas : Nat) (h_dpls : Nat) (h_dfst : Nat) (h_bd : Nat) (h_bnd : Nat) (h_trl : Nat) (h_sam : Nat) (h_jnd : Nat) (h_lef : Nat) (h_rig : Nat) (h_hol : Nat) (h_see : Nat) (h_wr : Nat) (h_wb : Nat) (h_wd : Nat) (h_wh : Nat) (h_pv : Nat) (h_rws : Nat) (h_lks : Nat) (h_sps : Nat) (h_cof : Nat) (h_mx : Nat) (h_knd : Nat) (h_ord : Nat) (h_chs : Nat) (h_mpl : Nat) (h_mmi : Nat) (h_an : Nat) (h_as : Nat) (h_ad : Nat) (h_ao : Nat) (h_af : Nat) (h_mm : Nat) (h_Mnv : Nat) (h_Mnn : Nat) (h_Mna : Nat) (h_Mnb : Nat) (h_Mnc : Nat) (h_Mmny : Nat) (h_Mvrs : Nat) (h_Mlet : Nat) (h_Misn : Nat) (h_Mtem : Nat) (h_Mtap : Nat) (h_Mmoved : Nat) (h_Mbin : Nat) (h_Mtra : Nat) (h_Mcof : Nat) (h_Mcin : Nat) (h_Mcli : Nat) (h_Mcah : Nat) (h_Mclo : Nat) (h_Mfin : Nat) (h_Mfle : Nat) (h_Mfpa : Nat) (h_Mflm : Nat) (h_Mfne : Nat) (h_Mico : Nat) (h_Msts : Nat) (h_Mans : Nat) (h_Mout : Nat) (h_Mwri : Nat) (h_Misl : Nat) (h_Macl : Nat) (h_Mway : Nat) (h_Mbto : Nat) (cy_by : ClassId) (cy_kn : ClassId) (cy_nam : ClassId) (cy_var : ClassId) (cy_trm : ClassId) (cy_ter : ClassId) (cy_lit : ClassId) (cy_vas : ClassId) (cy_pls : ClassId) (cy_fst : ClassId) (cy_dnam : ClassId) (cy_dvar : ClassId) (cy_dtrm : ClassId) (cy_dter : ClassId) (cy_dlit : ClassId) (cy_dvas : ClassId) (cy_dpls : ClassId) (cy_dfst : ClassId) (cy_bnd : ClassId) (cy_trl : ClassId) (cy_sam : ClassId) (cy_jnd : ClassId) (cy_lef : ClassId) (cy_rig : ClassId) (cy_hol : ClassId) (cy_see : ClassId) (cy_wb : ClassId) (cy_wd : ClassId) (cy_wh : ClassId) (cy_rws : ClassId) (cy_lks : ClassId) (cy_sps : ClassId) (cy_cof : ClassId) (cy_knd : ClassId) (cy_ord : ClassId) (cy_chs : ClassId) (cy_mpl : ClassId) (cy_mmi : ClassId) (cy_as : ClassId) (cy_ad : ClassId) (cy_ao : ClassId) (cy_af : ClassId) (cy_Mnv : ClassId) (cy_Mnn : ClassId) (cy_Mna : ClassId) (cy_Mnb : ClassId) (cy_Mnc : ClassId) (cy_Mmny : ClassId) (cy_Mvrs : ClassId) (cy_Mlet : ClassId) (cy_Misn : ClassId) (cy_Mtem : ClassId) (cy_Mtap : ClassId) (cy_Mmoved : ClassId) (cy_Mbin : ClassId) (cy_Mtra : ClassId) (cy_Mcof : ClassId) (cy_Mcin : ClassId) (cy_Mcli : ClassId) (cy_Mcah : ClassId) (cy_Mclo : ClassId) (cy_Mfin : ClassId) (cy_Mfle : ClassId) (cy_Mfpa : ClassId) (cy_Mflm : ClassId) (cy_Mfne : ClassId) (cy_Mico : ClassId) (cy_Msts : ClassId) (cy_Mans : ClassId) (cy_Mout : ClassId) (cy_Mwri : ClassId) (cy_Misl : ClassId) (cy_Macl : ClassId) (cy_Mway : ClassId) (cy_Mbto : ClassId) (k pc : Nat) : Prop := ∀ (v_rd : Nat → Value) (x_rd_length : Int32) (x_rd_fault : Int32) (x_rd_place : Int32) (x_rd_variables : Int32) (x_rd_at : Int32) (x_rd_behind : Int32) (x_rd_token : Int32) (x_rd_letters : Int64) (f_by : Nat → Int32) (f_kn : Nat → Int32) (x_td_parts : Int32) (x_td_clauses : Int32) (f_nam : Nat → Int64) (f_var : Nat → Int32) (f_trm : Nat → Int32) (f_ter : Nat → Int32) (f_lit : Nat → Int32) (f_vas : Nat → Int32) (f_pls : Nat → Int32) (f_fst : Nat → Int32) (x_dr_parts : Int32) (x_dr_clauses : Int32) (f_dnam : Nat → Int64) (f_dvar : Nat → Int32) (f_dtrm : Nat → Int32) (f_dter : Nat → Int32) (f_dlit : Nat → Int32) (f_dvas : Nat → Int32) (f_dpls : Nat → Int32) (f_dfst : Nat → Int32) (x_bd_trailed : Int32) (x_bd_joins : Int32) (x_bd_top : Int32) (x_bd_searches : Int32) (f_bnd : Nat → Int32) (f_trl : Nat → Int32) (f_sam : Nat → Int32) (f_jnd : Nat → Int32) (f_lef : Nat → Int32) (f_rig : Nat → Int32) (f_hol : Nat → Int32) (f_see : Nat → Int32) (x_wr_length : Int32) (x_wr_drafted : Int32) (x_wr_held : Int32) (f_wb : Nat → Int32) (f_wd : Nat → Int32) (f_wh : Nat → Int32) (x_pv_rowCount : Int32) (x_pv_linkCount : Int32) (x_pv_stepCount : Int32) (x_pv_instances : Int32) (x_pv_depth : Int32) (x_pv_options : Int32) (x_pv_tries : Int32) (x_pv_longest : Int32) (x_pv_cuts : Int32) (x_pv_extensions : Int32) (x_pv_givenUp : Int32) (x_pv_proved : Int32) (f_rws : Nat → Option Nat) (f_lks : Nat → Option Nat) (f_sps : Nat → Option Nat) (f_cof : Nat → Int32) (x_mx_sorted : Int32) (x_mx_height : Int32) (x_mx_walked : Int32) (x_mx_found : Int32) (f_knd : Nat → Int32) (f_ord : Nat → Int32) (f_chs : Nat → Int32) (f_mpl : Nat → Int32) (f_mmi : Nat → Int32) (x_an_count : Int32) (x_an_again : Int32) (f_as : Nat → Int32) (f_ad : Nat → Int32) (f_ao : Nat → Int32) (f_af : Nat → Int32) (x_mm_told : Int32) (x_mm_nodes : Int32) (x_mm_clauses : Int32) (x_mm_taped : Int32) (x_mm_at : Int32) (x_mm_place : Int32) (x_mm_kind : Int32) (x_mm_sign : Int32) (x_mm_name : Int64) (x_mm_isFaulty : Int32) (x_mm_fault : Int32) (x_mm_faultPlace : Int32) (x_mm_opened : Int32) (x_mm_reading : Int32) (x_mm_nodesThere : Int32) (x_mm_trailed : Int32) (x_mm_goneTo : Int32) (x_mm_goneIn : Int32) (x_mm_counted : Int32) (x_mm_options : Int32) (x_mm_depth : Int32) (x_mm_instances : Int32) (x_mm_chains : Int32) (x_mm_frames : Int32) (x_mm_isOver : Int32) (x_mm_tries : Int32) (x_mm_mostPath : Int32) (x_mm_cuts : Int32) (x_mm_extended : Int32) (x_mm_stepMany : Int32) (x_mm_reducedFrom : Int32) (x_mm_isProof : Int32) (x_mm_answers : Int32) (x_mm_asked : Int32) (x_mm_outs : Int32) (x_mm_writes : Int32) (x_mm_room : Int32) (x_mm_looks : Int32) (f_Mnv : Nat → Int32) (f_Mnn : Nat → Int64) (f_Mna : Nat → Int32) (f_Mnb : Nat → Int32) (f_Mnc : Nat → Int32) (f_Mmny : Nat → Int32) (f_Mvrs : Nat → Int32) (f_Mlet : Nat → Int32) (f_Misn : Nat → Int32) (f_Mtem : Nat → Int32) (f_Mtap : Nat → Int32) (f_Mmoved : Nat → Int32) (f_Mbin : Nat → Int32) (f_Mtra : Nat → Int32) (f_Mcof : Nat → Int32) (f_Mcin : Nat → Int32) (f_Mcli : Nat → Int32) (f_Mcah : Nat → Int32) (f_Mclo : Nat → Int32) (f_Mfin : Nat → Int32) (f_Mfle : Nat → Int32) (f_Mfpa : Nat → Int32) (f_Mflm : Nat → Int32) (f_Mfne : Nat → Int32) (f_Mico : Nat → Int32) (f_Msts : Nat → Int32) (f_Mans : Nat → Int32) (f_Mout : Nat → Int32) (f_Mwri : Nat → Int32) (f_Misl : Nat → Int32) (f_Macl : Nat → Int32) (f_Mway : Nat → Int32) (f_Mbto : Nat → Int32) (nr : Nat) (ra : Nat → Nat) (rf : Nat → RT) (nl : Nat) (la : Nat → Nat) (lf : Nat → LT) (ns : Nat) (sa : Nat → Nat) (sf : Nat → ST) (hz : Nat → Nat) (hx_rd_length : 0 ≤ (x_rd_length).toInt ∧ (x_rd_length).toInt ≤ 600) (hx_rd_variables : 0 ≤ (x_rd_variables).toInt ∧ (x_rd_variables).toInt ≤ 8) (hx_rd_at : 0 ≤ (x_rd_at).toInt ∧ (x_rd_at).toInt ≤ 600) (hx_rd_behind : 0 ≤ (x_rd_behind).toInt ∧ (x_rd_behind).toInt ≤ 600) (hf_by : Rg 0 255 f_by) (hf_kn : Rg 0 299 f_kn) (hx_td_parts : 0 ≤ (x_td_parts).toInt ∧ (x_td_parts).toInt ≤ 300) (hx_td_clauses : 0 ≤ (x_td_clauses).toInt ∧ (x_td_clauses).toInt ≤ 16) (hf_var : Rg (-1) 7 f_var) (hf_trm : Rg 0 3 f_trm) (hf_ter : Rg 0 299 f_ter) (hf_lit : Rg 0 6 f_lit) (hf_fst : Rg 0 299 f_fst) (hx_dr_parts : 0 ≤ (x_dr_parts).toInt ∧ (x_dr_parts).toInt ≤ 300) (hx_dr_clauses : 0 ≤ (x_dr_clauses).toInt ∧ (x_dr_clauses).toInt ≤ 16) (hf_dvar : Rg (-1) 7 f_dvar) (hf_dtrm : Rg 0 3 f_dtrm) (hf_dter : Rg 0 299 f_dter) (hf_dlit : Rg 0 6 f_dlit) (hf_dfst : Rg 0 299 f_dfst) (hx_bd_trailed : 0 ≤ (x_bd_trailed).toInt ∧ (x_bd_trailed).toInt ≤ 256) (hx_bd_joins : 0 ≤ (x_bd_joins).toInt ∧ (x_bd_joins).toInt ≤ 1024) (hx_bd_top : 0 ≤ (x_bd_top).toInt ∧ (x_bd_top).toInt ≤ 2048) (hf_bnd : Rg 0 9600 f_bnd) (hf_trl : Rg 0 255 f_trl) (hf_sam : Rg 0 9600 f_sam) (hf_jnd : Rg 0 9599 f_jnd) (hf_lef : Rg (-9600) 9599 f_lef) (hf_rig : Rg 0 9599 f_rig) (hf_hol : Rg 0 9599 f_hol) (hx_wr_length : 0 ≤ (x_wr_length).toInt ∧ (x_wr_length).toInt ≤ 600) (hx_wr_drafted : 0 ≤ (x_wr_drafted).toInt ∧ (x_wr_drafted).toInt ≤ 616) (hx_wr_held : 0 ≤ (x_wr_held).toInt ∧ (x_wr_held).toInt ≤ 2048) (hf_wh : Rg (-127) 9599 f_wh) (hx_pv_rowCount : 0 ≤ (x_pv_rowCount).toInt ∧ (x_pv_rowCount).toInt ≤ 361) (hx_pv_linkCount : 0 ≤ (x_pv_linkCount).toInt ∧ (x_pv_linkCount).toInt ≤ 210) (hx_pv_stepCount : 0 ≤ (x_pv_stepCount).toInt ∧ (x_pv_stepCount).toInt ≤ 180) (hx_pv_instances : 0 ≤ (x_pv_instances).toInt ∧ (x_pv_instances).toInt ≤ 30) (hx_pv_tries : 0 ≤ (x_pv_tries).toInt ∧ (x_pv_tries).toInt ≤ 1000) (hx_pv_givenUp : 0 ≤ (x_pv_givenUp).toInt ∧ (x_pv_givenUp).toInt ≤ 1) (hx_pv_proved : 0 ≤ (x_pv_proved).toInt ∧ (x_pv_proved).toInt ≤ 1) (hf_cof : Rg 0 15 f_cof) (hx_mx_height : 0 ≤ (x_mx_height).toInt ∧ (x_mx_height).toInt ≤ 30) (hf_knd : Rg (-1) 179 f_knd) (hf_ord : Rg 0 29 f_ord) (hf_chs : Rg (-1) 5 f_chs) (hx_an_count : 0 ≤ (x_an_count).toInt ∧ (x_an_count).toInt ≤ 8) (hx_mm_nodes : 0 ≤ (x_mm_nodes).toInt ∧ (x_mm_nodes).toInt ≤ 1200) (hx_mm_clauses : 0 ≤ (x_mm_clauses).toInt ∧ (x_mm_clauses).toInt ≤ 16) (hx_mm_taped : 0 ≤ (x_mm_taped).toInt ∧ (x_mm_taped).toInt ≤ 600) (hx_mm_at : 0 ≤ (x_mm_at).toInt ∧ (x_mm_at).toInt ≤ 600) (hx_mm_place : 0 ≤ (x_mm_place).toInt ∧ (x_mm_place).toInt ≤ 600) (hx_mm_kind : 0 ≤ (x_mm_kind).toInt ∧ (x_mm_kind).toInt ≤ 4) (hx_mm_isFaulty : 0 ≤ (x_mm_isFaulty).toInt ∧ (x_mm_isFaulty).toInt ≤ 1) (hx_mm_reading : 0 ≤ (x_mm_reading).toInt ∧ (x_mm_reading).toInt ≤ 32) (hx_mm_trailed : 0 ≤ (x_mm_trailed).toInt ∧ (x_mm_trailed).toInt ≤ 256) (hx_mm_goneTo : 0 ≤ (x_mm_goneTo).toInt ∧ (x_mm_goneTo).toInt ≤ 7999) (hx_mm_goneIn : 0 ≤ (x_mm_goneIn).toInt ∧ (x_mm_goneIn).toInt ≤ 31) (hx_mm_counted : 0 ≤ (x_mm_counted).toInt ∧ (x_mm_counted).toInt ≤ 2001) (hx_mm_instances : 0 ≤ (x_mm_instances).toInt ∧ (x_mm_instances).toInt ≤ 30) (hx_mm_chains : 0 ≤ (x_mm_chains).toInt ∧ (x_mm_chains).toInt ≤ 1000) (hx_mm_frames : 0 ≤ (x_mm_frames).toInt ∧ (x_mm_frames).toInt ≤ 1000) (hx_mm_isOver : 0 ≤ (x_mm_isOver).toInt ∧ (x_mm_isOver).toInt ≤ 1) (hx_mm_tries : 0 ≤ (x_mm_tries).toInt ∧ (x_mm_tries).toInt ≤ 1000) (hx_mm_stepMany : 0 ≤ (x_mm_stepMany).toInt ∧ (x_mm_stepMany).toInt ≤ 999) (hx_mm_reducedFrom : 0 ≤ (x_mm_reducedFrom).toInt ∧ (x_mm_reducedFrom).toInt ≤ 256) (hx_mm_isProof : 0 ≤ (x_mm_isProof).toInt ∧ (x_mm_isProof).toInt ≤ 1) (hx_mm_answers : 0 ≤ (x_mm_answers).toInt ∧ (x_mm_answers).toInt ≤ 8) (hx_mm_outs : 0 ≤ (x_mm_outs).toInt ∧ (x_mm_outs).toInt ≤ 1000) (hx_mm_writes : 0 ≤ (x_mm_writes).toInt ∧ (x_mm_writes).toInt ≤ 1000) (hx_mm_room : 0 ≤ (x_mm_room).toInt ∧ (x_mm_room).toInt ≤ 998) (hx_mm_looks : 0 ≤ (x_mm_looks).toInt ∧ (x_mm_looks).toInt ≤ 20000) (hf_Mnv : Rg (-1) 7 f_Mnv) (hf_Mna : Rg (-1) 7999 f_Mna) (hf_Mnb : Rg (-1) 7999 f_Mnb) (hf_Mnc : Rg (-1) 7999 f_Mnc) (hf_Mmny : Rg 0 6 f_Mmny) (hf_Mvrs : Rg 0 8 f_Mvrs) (hf_Misn : Rg 0 1 f_Misn) (hf_Mtem : Rg 0 7999 f_Mtem) (hf_Mbin : Rg 0 31 f_Mbin) (hf_Mtra : Rg 0 255 f_Mtra) (hf_Mcof : Rg 0 15 f_Mcof) (hf_Mcin : Rg 0 29 f_Mcin) (hf_Mcli : Rg 0 5 f_Mcli) (hf_Mcah : Rg (-1) 3999 f_Mcah) (hf_Mfin : Rg 0 29 f_Mfin) (hf_Mfle : Rg 0 63 f_Mfle) (hf_Mfpa : Rg (-1) 3999 f_Mfpa) (hf_Mflm : Rg (-1) 3999 f_Mflm) (hf_Mfne : Rg (-1) 3999 f_Mfne) (hf_Mico : Rg 0 1 f_Mico) (hf_Mway : Rg 0 5 f_Mway) (hf_Mbto : Rg (-1) 7999 f_Mbto) (q0 : (x_td_clauses).toInt = (x_mm_clauses).toInt) (q1 : (x_rd_fault).toInt = (x_mm_fault).toInt) (q2 : (x_rd_place).toInt = (x_mm_faultPlace).toInt) (q3 : (x_pv_stepCount).toInt ≤ ns) (q4 : (x_mm_nodes).toInt ≤ 600) (q5 : nr ≤ 361 ∧ nl ≤ 210 ∧ ns ≤ 180) (q6 : (x_rd_length).toInt = (x_mm_taped).toInt) (q7 : 0 ≤ (x_bd_searches).toInt ∧ (x_bd_searches).toInt ≤ 2600000 * (k : Int)) (hn_teq : TEQ (x_rd_length).toInt f_by f_Mtap) (hn_pr : PFX nr 361 f_rws ra) (hn_pk : PFX nl 210 f_lks la) (hn_ps : PFX ns 180 f_sps sa) (hn_rok : ROK nr ra rf nl la) (hn_lok : LOK nl la lf) (hn_sok : SOK ns sf nr ra nl la) (hn_nds : ND 0 (x_mm_nodes).toInt hz f_Mna f_Mnb f_Mnc) (hn_tms : TM 0 (x_mm_nodes).toInt hz 0 (x_mm_clauses).toInt f_Mmny f_Mtem) (hn_trl : TRL (x_mm_trailed).toInt f_Mtra f_Mbto) (hn_fre : FRE f_Mbto) (hn_prf : (x_mm_isProof).toInt = 0 ∨ (BI 0 29 (x_mm_nodes).toInt hz f_Mnv f_Mna f_Mnb f_Mnc f_Mbto f_Mbin ∧ INS (x_mm_instances).toInt (x_mm_clauses).toInt f_Mcof)) (hn_cl0 : CLS 0 30 f_bnd) (hn_bhz : BHZ f_bnd) (hn_tz : TZG f_var f_trm) (hn_dtz : TZG f_dvar f_dtrm) (hn_plb : PLB f_lit f_pls (x_td_clauses).toInt) (hn_tlq : TLQ (CVW f_nam f_var f_trm f_ter) (RVW f_Mnv f_Mnn f_Mna f_Mnb f_Mnc) (CLW f_lit f_vas f_pls f_fst) (RLX 0 f_Mmny f_Mvrs f_Misn f_Mtem) (x_td_clauses).toInt) (hn_trc : TRC (x_bd_trailed).toInt f_trl f_bnd) (hn_btr : BTR (x_bd_trailed).toInt f_trl f_bnd) (hn_szr : ∀ p9 : Nat, p9 < 9600 → (f_sam p9).toInt = 0) (hn_sfr : SFR f_see x_bd_searches) (H : Heap) (locs : List Loc) (ls : Array Slot) (i0 : Int32) (hi : (i0).toInt = 6 * (k : Int)) (hP : va_P (dC, dI) cls (wp [(h_xx, .inr (7, (mo191 (.ref h_rd) (.ref h_td) (.ref h_dr) (.ref h_bd) (.ref h_wr) (.ref h_pv) (.ref h_mx) (.ref h_an)))), (h_rd, .inr (4, (mo35 v_rd (.ref h_by) (.int x_rd_length) (.int x_rd_fault) (.int x_rd_place) (.ref h_kn) (.int x_rd_variables) (.int x_rd_at) (.int x_rd_behind) (.int x_rd_token) (.long x_rd_letters)))), (h_by, .inl (cy_by, 600, .inl f_by)), (h_kn, .inl (cy_kn, 8, .inl f_kn)), (h_td, .inr (5, (mo34 (.ref h_nam) (.ref h_var) (.ref h_trm) (.ref h_ter) (.int x_td_parts) (.ref h_lit) (.ref h_vas) (.ref h_pls) (.ref h_fst) (.int x_td_clauses)))), (h_nam, .inl (cy_nam, 300, .inr (.inl f_nam))), (h_var, .inl (cy_var, 300, .inl f_var)), (h_trm, .inl (cy_trm, 300, .inl f_trm)), (h_ter, .inl (cy_ter, 900, .inl f_ter)), (h_lit, .inl (cy_lit, 16, .inl f_lit)), (h_vas, .inl (cy_vas, 16, .inl f_vas)), (h_pls, .inl (cy_pls, 16, .inl f_pls)), (h_fst, .inl (cy_fst, 96, .inl f_fst)), (h_dr, .inr (5, (mo34 (.ref h_dnam) (.ref h_dvar) (.ref h_dtrm) (.ref h_dter) (.int x_dr_parts) (.ref h_dlit) (.ref h_dvas) (.ref h_dpls) (.ref h_dfst) (.int x_dr_clauses)))), (h_dnam, .inl (cy_dnam, 300, .inr (.inl f_dnam))), (h_dvar, .inl (cy_dvar, 300, .inl f_dvar)), (h_dtrm, .inl (cy_dtrm, 300, .inl f_dtrm)), (h_dter, .inl (cy_dter, 900, .inl f_dter)), (h_dlit, .inl (cy_dlit, 16, .inl f_dlit)), (h_dvas, .inl (cy_dvas, 16, .inl f_dvas)), (h_dpls, .inl (cy_dpls, 16, .inl f_dpls)), (h_dfst, .inl (cy_dfst, 96, .inl f_dfst)), (h_bd, .inr (1, (mo22 (.ref h_td) (.ref h_bnd) (.ref h_trl) (.int x_bd_trailed) (.ref h_sam) (.ref h_jnd) (.int x_bd_joins) (.ref h_lef) (.ref h_rig) (.int x_bd_top) (.ref h_hol) (.ref h_see) (.int x_bd_searches)))), (h_bnd, .inl (cy_bnd, 256, .inl f_bnd)), (h_trl, .inl (cy_trl, 256, .inl f_trl)), (h_sam, .inl (cy_sam, 9600, .inl f_sam)), (h_jnd, .inl (cy_jnd, 1024, .inl f_jnd)), (h_lef, .inl (cy_lef, 2048, .inl f_lef)), (h_rig, .inl (cy_rig, 2048, .inl f_rig)), (h_hol, .inl (cy_hol, 2048, .inl f_hol)), (h_see, .inl (cy_see, 256, .inl f_see)), (h_wr, .inr (6, (mo39 (.ref h_td) (.ref h_bd) (.ref h_wb) (.int x_wr_length) (.ref h_wd) (.int x_wr_drafted) (.ref h_wh) (.int x_wr_held)))), (h_wb, .inl (cy_wb, 600, .inl f_wb)), (h_wd, .inl (cy_wd, 616, .inl f_wd)), (h_wh, .inl (cy_wh, 2048, .inl f_wh)), (h_pv, .inr (3, (mo190 (.ref h_td) (.ref h_bd) (.ref h_rws) (.int x_pv_rowCount) (.ref h_lks) (.int x_pv_linkCount) (.ref h_sps) (.int x_pv_stepCount) (.ref h_cof) (.int x_pv_instances) (.int x_pv_depth) (.int x_pv_options) (.int x_pv_tries) (.int x_pv_longest) (.int x_pv_cuts) (.int x_pv_extensions) (.int x_pv_givenUp) (.int x_pv_proved)))), (h_rws, .inl (cy_rws, 361, .inr (.inr (.inr (.inr f_rws))))), (h_lks, .inl (cy_lks, 210, .inr (.inr (.inr (.inr f_lks))))), (h_sps, .inl (cy_sps, 180, .inr (.inr (.inr (.inr f_sps))))), (h_cof, .inl (cy_cof, 30, .inl f_cof)), (h_mx, .inr (2, (mo57 (.ref h_td) (.ref h_bd) (.ref h_pv) (.ref h_knd) (.int x_mx_sorted) (.ref h_ord) (.int x_mx_height) (.ref h_chs) (.ref h_mpl) (.ref h_mmi) (.int x_mx_walked) (.int x_mx_found)))), (h_knd, .inl (cy_knd, 180, .inl f_knd)), (h_ord, .inl (cy_ord, 30, .inl f_ord)), (h_chs, .inl (cy_chs, 30, .inl f_chs)), (h_mpl, .inl (cy_mpl, 180, .inl f_mpl)), (h_mmi, .inl (cy_mmi, 180, .inl f_mmi)), (h_an, .inr (0, (mo41 (.ref h_as) (.ref h_ad) (.ref h_ao) (.ref h_af) (.int x_an_count) (.int x_an_again)))), (h_as, .inl (cy_as, 8, .inl f_as)), (h_ad, .inl (cy_ad, 8, .inl f_ad)), (h_ao, .inl (cy_ao, 8, .inl f_ao)), (h_af, .inl (cy_af, 8, .inl f_af)), (h_mm, .inr (8, (mo192 (.int x_mm_told) (.ref h_Mnv) (.ref h_Mnn) (.ref h_Mna) (.ref h_Mnb) (.ref h_Mnc) (.int x_mm_nodes) (.int x_mm_clauses) (.ref h_Mmny) (.ref h_Mvrs) (.ref h_Mlet) (.ref h_Misn) (.ref h_Mtem) (.ref h_Mtap) (.int x_mm_taped) (.int x_mm_at) (.int x_mm_place) (.int x_mm_kind) (.int x_mm_sign) (.long x_mm_name) (.int x_mm_isFaulty) (.int x_mm_fault) (.int x_mm_faultPlace) (.int x_mm_opened) (.int x_mm_reading) (.ref h_Mmoved) (.int x_mm_nodesThere) (.ref h_Mbto) (.ref h_Mbin) (.ref h_Mtra) (.int x_mm_trailed) (.int x_mm_goneTo) (.int x_mm_goneIn) (.int x_mm_counted) (.int x_mm_options) (.int x_mm_depth) (.int x_mm_instances) (.ref h_Mcof) (.ref h_Mcin) (.ref h_Mcli) (.ref h_Mcah) (.ref h_Mclo) (.int x_mm_chains) (.ref h_Mfin) (.ref h_Mfle) (.ref h_Mfpa) (.ref h_Mflm) (.ref h_Mfne) (.ref h_Mico) (.int x_mm_frames) (.int x_mm_isOver) (.int x_mm_tries) (.int x_mm_mostPath) (.int x_mm_cuts) (.int x_mm_extended) (.ref h_Msts) (.int x_mm_stepMany) (.int x_mm_reducedFrom) (.int x_mm_isProof) (.ref h_Mans) (.int x_mm_answers) (.int x_mm_asked) (.ref h_Mout) (.int x_mm_outs) (.ref h_Mwri) (.int x_mm_writes) (.int x_mm_room) (.ref h_Misl) (.ref h_Macl) (.ref h_Mway) (.int x_mm_looks)))), (h_Mnv, .inl (cy_Mnv, 8000, .inl f_Mnv)), (h_Mnn, .inl (cy_Mnn, 8000, .inr (.inl f_Mnn))), (h_Mna, .inl (cy_Mna, 8000, .inl f_Mna)), (h_Mnb, .inl (cy_Mnb, 8000, .inl f_Mnb)), (h_Mnc, .inl (cy_Mnc, 8000, .inl f_Mnc)), (h_Mmny, .inl (cy_Mmny, 32, .inl f_Mmny)), (h_Mvrs, .inl (cy_Mvrs, 32, .inl f_Mvrs)), (h_Mlet, .inl (cy_Mlet, 256, .inl f_Mlet)), (h_Misn, .inl (cy_Misn, 192, .inl f_Misn)), (h_Mtem, .inl (cy_Mtem, 192, .inl f_Mtem)), (h_Mtap, .inl (cy_Mtap, 600, .inl f_Mtap)), (h_Mmoved, .inl (cy_Mmoved, 8000, .inl f_Mmoved)), (h_Mbin, .inl (cy_Mbin, 256, .inl f_Mbin)), (h_Mtra, .inl (cy_Mtra, 256, .inl f_Mtra)), (h_Mcof, .inl (cy_Mcof, 31, .inl f_Mcof)), (h_Mcin, .inl (cy_Mcin, 4000, .inl f_Mcin)), (h_Mcli, .inl (cy_Mcli, 4000, .inl f_Mcli)), (h_Mcah, .inl (cy_Mcah, 4000, .inl f_Mcah)), (h_Mclo, .inl (cy_Mclo, 4000, .inl f_Mclo)), (h_Mfin, .inl (cy_Mfin, 4000, .inl f_Mfin)), (h_Mfle, .inl (cy_Mfle, 4000, .inl f_Mfle)), (h_Mfpa, .inl (cy_Mfpa, 4000, .inl f_Mfpa)), (h_Mflm, .inl (cy_Mflm, 4000, .inl f_Mflm)), (h_Mfne, .inl (cy_Mfne, 4000, .inl f_Mfne)), (h_Mico, .inl (cy_Mico, 4000, .inl f_Mico)), (h_Msts, .inl (cy_Msts, 6000, .inl f_Msts)), (h_Mans, .inl (cy_Mans, 36, .inl f_Mans)), (h_Mout, .inl (cy_Mout, 1000, .inl f_Mout)), (h_Mwri, .inl (cy_Mwri, 1000, .inl f_Mwri)), (h_Misl, .inl (cy_Misl, 180, .inl f_Misl)), (h_Macl, .inl (cy_Macl, 32400, .inl f_Macl)), (h_Mway, .inl (cy_Mway, 30, .inl f_Mway)), (h_Mbto, .inl (cy_Mbto, 256, .inl f_Mbto))] (PL nr ra rf nl la lf ns sa sf)) H) (hD : va_D (fun q : Nat => s.heap.size ≤ q) (wp [(h_xx, .inr (7, (mo191 (.ref h_rd) (.ref h_td) (.ref h_dr) (.ref h_bd) (.ref h_wr) (.ref h_pv) (.ref h_mx) (.ref h_an)))), (h_rd, .inr (4, (mo35 v_rd (.ref h_by) (.int x_rd_length) (.int x_rd_fault) (.int x_rd_place) (.ref h_kn) (.int x_rd_variables) (.int x_rd_at) (.int x_rd_behind) (.int x_rd_token) (.long x_rd_letters)))), (h_by, .inl (cy_by, 600, .inl f_by)), (h_kn, .inl (cy_kn, 8, .inl f_kn)), (h_td, .inr (5, (mo34 (.ref h_nam) (.ref h_var) (.ref h_trm) (.ref h_ter) (.int x_td_parts) (.ref h_lit) (.ref h_vas) (.ref h_pls) (.ref h_fst) (.int x_td_clauses)))), (h_nam, .inl (cy_nam, 300, .inr (.inl f_nam))), (h_var, .inl (cy_var, 300, .inl f_var)), (h_trm, .inl (cy_trm, 300, .inl f_trm)), (h_ter, .inl (cy_ter, 900, .inl f_ter)), (h_lit, .inl (cy_lit, 16, .inl f_lit)), (h_vas, .inl (cy_vas, 16, .inl f_vas)), (h_pls, .inl (cy_pls, 16, .inl f_pls)), (h_fst, .inl (cy_fst, 96, .inl f_fst)), (h_dr, .inr (5, (mo34 (.ref h_dnam) (.ref h_dvar) (.ref h_dtrm) (.ref h_dter) (.int x_dr_parts) (.ref h_dlit) (.ref h_dvas) (.ref h_dpls) (.ref h_dfst) (.int x_dr_clauses)))), (h_dnam, .inl (cy_dnam, 300, .inr (.inl f_dnam))), (h_dvar, .inl (cy_dvar, 300, .inl f_dvar)), (h_dtrm, .inl (cy_dtrm, 300, .inl f_dtrm)), (h_dter, .inl (cy_dter, 900, .inl f_dter)), (h_dlit, .inl (cy_dlit, 16, .inl f_dlit)), (h_dvas, .inl (cy_dvas, 16, .inl f_dvas)), (h_dpls, .inl (cy_dpls, 16, .inl f_dpls)), (h_dfst, .inl (cy_dfst, 96, .inl f_dfst)), (h_bd, .inr (1, (mo22 (.ref h_td) (.ref h_bnd) (.ref h_trl) (.int x_bd_trailed) (.ref h_sam) (.ref h_jnd) (.int x_bd_joins) (.ref h_lef) (.ref h_rig) (.int x_bd_top) (.ref h_hol) (.ref h_see) (.int x_bd_searches)))), (h_bnd, .inl (cy_bnd, 256, .inl f_bnd)), (h_trl, .inl (cy_trl, 256, .inl f_trl)), (h_sam, .inl (cy_sam, 9600, .inl f_sam)), (h_jnd, .inl (cy_jnd, 1024, .inl f_jnd)), (h_lef, .inl (cy_lef, 2048, .inl f_lef)), (h_rig, .inl (cy_rig, 2048, .inl f_rig)), (h_hol, .inl (cy_hol, 2048, .inl f_hol)), (h_see, .inl (cy_see, 256, .inl f_see)), (h_wr, .inr (6, (mo39 (.ref h_td) (.ref h_bd) (.ref h_wb) (.int x_wr_length) (.ref h_wd) (.int x_wr_drafted) (.ref h_wh) (.int x_wr_held)))), (h_wb, .inl (cy_wb, 600, .inl f_wb)), (h_wd, .inl (cy_wd, 616, .inl f_wd)), (h_wh, .inl (cy_wh, 2048, .inl f_wh)), (h_pv, .inr (3, (mo190 (.ref h_td) (.ref h_bd) (.ref h_rws) (.int x_pv_rowCount) (.ref h_lks) (.int x_pv_linkCount) (.ref h_sps) (.int x_pv_stepCount) (.ref h_cof) (.int x_pv_instances) (.int x_pv_depth) (.int x_pv_options) (.int x_pv_tries) (.int x_pv_longest) (.int x_pv_cuts) (.int x_pv_extensions) (.int x_pv_givenUp) (.int x_pv_proved)))), (h_rws, .inl (cy_rws, 361, .inr (.inr (.inr (.inr f_rws))))), (h_lks, .inl (cy_lks, 210, .inr (.inr (.inr (.inr f_lks))))), (h_sps, .inl (cy_sps, 180, .inr (.inr (.inr (.inr f_sps))))), (h_cof, .inl (cy_cof, 30, .inl f_cof)), (h_mx, .inr (2, (mo57 (.ref h_td) (.ref h_bd) (.ref h_pv) (.ref h_knd) (.int x_mx_sorted) (.ref h_ord) (.int x_mx_height) (.ref h_chs) (.ref h_mpl) (.ref h_mmi) (.int x_mx_walked) (.int x_mx_found)))), (h_knd, .inl (cy_knd, 180, .inl f_knd)), (h_ord, .inl (cy_ord, 30, .inl f_ord)), (h_chs, .inl (cy_chs, 30, .inl f_chs)), (h_mpl, .inl (cy_mpl, 180, .inl f_mpl)), (h_mmi, .inl (cy_mmi, 180, .inl f_mmi)), (h_an, .inr (0, (mo41 (.ref h_as) (.ref h_ad) (.ref h_ao) (.ref h_af) (.int x_an_count) (.int x_an_again)))), (h_as, .inl (cy_as, 8, .inl f_as)), (h_ad, .inl (cy_ad, 8, .inl f_ad)), (h_ao, .inl (cy_ao, 8, .inl f_ao)), (h_af, .inl (cy_af, 8, .inl f_af)), (h_mm, .inr (8, (mo192 (.int x_mm_told) (.ref h_Mnv) (.ref h_Mnn) (.ref h_Mna) (.ref h_Mnb) (.ref h_Mnc) (.int x_mm_nodes) (.int x_mm_clauses) (.ref h_Mmny) (.ref h_Mvrs) (.ref h_Mlet) (.ref h_Misn) (.ref h_Mtem) (.ref h_Mtap) (.int x_mm_taped) (.int x_mm_at) (.int x_mm_place) (.int x_mm_kind) (.int x_mm_sign) (.long x_mm_name) (.int x_mm_isFaulty) (.int x_mm_fault) (.int x_mm_faultPlace) (.int x_mm_opened) (.int x_mm_reading) (.ref h_Mmoved) (.int x_mm_nodesThere) (.ref h_Mbto) (.ref h_Mbin) (.ref h_Mtra) (.int x_mm_trailed) (.int x_mm_goneTo) (.int x_mm_goneIn) (.int x_mm_counted) (.int x_mm_options) (.int x_mm_depth) (.int x_mm_instances) (.ref h_Mcof) (.ref h_Mcin) (.ref h_Mcli) (.ref h_Mcah) (.ref h_Mclo) (.int x_mm_chains) (.ref h_Mfin) (.ref h_Mfle) (.ref h_Mfpa) (.ref h_Mflm) (.ref h_Mfne) (.ref h_Mico) (.int x_mm_frames) (.int x_mm_isOver) (.int x_mm_tries) (.int x_mm_mostPath) (.int x_mm_cuts) (.int x_mm_extended) (.ref h_Msts) (.int x_mm_stepMany) (.int x_mm_reducedFrom) (.int x_mm_isProof) (.ref h_Mans) (.int x_mm_answers) (.int x_mm_asked) (.ref h_Mout) (.int x_mm_outs) (.ref h_Mwri) (.int x_mm_writes) (.int x_mm_room) (.ref h_Misl) (.ref h_Macl) (.ref h_Mway) (.int x_mm_looks)))), (h_Mnv, .inl (cy_Mnv, 8000, .inl f_Mnv)), (h_Mnn, .inl (cy_Mnn, 8000, .inr (.inl f_Mnn))), (h_Mna, .inl (cy_Mna, 8000, .inl f_Mna)), (h_Mnb, .inl (cy_Mnb, 8000, .inl f_Mnb)), (h_Mnc, .inl (cy_Mnc, 8000, .inl f_Mnc)), (h_Mmny, .inl (cy_Mmny, 32, .inl f_Mmny)), (h_Mvrs, .inl (cy_Mvrs, 32, .inl f_Mvrs)), (h_Mlet, .inl (cy_Mlet, 256, .inl f_Mlet)), (h_Misn, .inl (cy_Misn, 192, .inl f_Misn)), (h_Mtem, .inl (cy_Mtem, 192, .inl f_Mtem)), (h_Mtap, .inl (cy_Mtap, 600, .inl f_Mtap)), (h_Mmoved, .inl (cy_Mmoved, 8000, .inl f_Mmoved)), (h_Mbin, .inl (cy_Mbin, 256, .inl f_Mbin)), (h_Mtra, .inl (cy_Mtra, 256, .inl f_Mtra)), (h_Mcof, .inl (cy_Mcof, 31, .inl f_Mcof)), (h_Mcin, .inl (cy_Mcin, 4000, .inl f_Mcin)), (h_Mcli, .inl (cy_Mcli, 4000, .inl f_Mcli)), (h_Mcah, .inl (cy_Mcah, 4000, .inl f_Mcah)), (h_Mclo, .inl (cy_Mclo, 4000, .inl f_Mclo)), (h_Mfin, .inl (cy_Mfin, 4000, .inl f_Mfin)), (h_Mfle, .inl (cy_Mfle, 4000, .inl f_Mfle)), (h_Mfpa, .inl (cy_Mfpa, 4000, .inl f_Mfpa)), (h_Mflm, .inl (cy_Mflm, 4000, .inl f_Mflm)), (h_Mfne, .inl (cy_Mfne, 4000, .inl f_Mfne)), (h_Mico, .inl (cy_Mico, 4000, .inl f_Mico)), (h_Msts, .inl (cy_Msts, 6000, .inl f_Msts)), (h_Mans, .inl (cy_Mans, 36, .inl f_Mans)), (h_Mout, .inl (cy_Mout, 1000, .inl f_Mout)), (h_Mwri, .inl (cy_Mwri, 1000, .inl f_Mwri)), (h_Misl, .inl (cy_Misl, 180, .inl f_Misl)), (h_Macl, .inl (cy_Macl, 32400, .inl f_Macl)), (h_Mway, .inl (cy_Mway, 30, .inl f_Mway)), (h_Mbto, .inl (cy_Mbto, 256, .inl f_Mbto))] (PL nr ra rf nl la lf ns sa sf))) (hS : va_S (fun q : Nat => s.heap.size ≤ q) s.heap H locs) (hl : lv_has ls 4 [(3, .int i0), (0, .ref b), (1, .ref h_xx), (2, .ref h_mm)]), W p l e room_1 s m #[Value.ref b] below meth c H locs (85 + 751 * k) (157625 + 5527 * k) (lw_Z below #[Value.ref b] s) (F0 m pc ls [])
set_option maxHeartbeats 8000000 in
set_option maxRecDepth 100000 in
theorem law_exit {p : Program} {l : Launch} {e : Env} {s : State} {m : MethodId} {below : List Frame} {meth : Method} {c : Code} {b L : Nat} {xs : Nat → Int32} (C0 : lw_At p s m meth c b L xs) {H : Heap} {locs : List Loc} {ls : Array Slot} {cells slots : Nat} (hS : va_S (fun q : Nat => s.heap.size ≤ q) s.heap H locs) (h1 : cells ≤ 600000) (h2 : slots ≤ 7302250) : W p l e room_1 s m #[Value.ref b] below meth c H locs cells slots (lw_Z below #[Value.ref b] s) (F0 m 835 ls []) := by
  obtain ⟨hx, hb, hr, hml, hown, hts, hX, hbl, hlocks, hgv⟩ := id C0
  refine lv_iconst (v := 1) hx hb dL_law_835 (by decide) ?_
  refine va_forget (fun q hq => hS.2.2 q hq) ?_
  refine W.widen (k := 600000) (n := 7302250) h1 h2 ?_
  exact lw_ret hx hb hr hlocks dL_law_836
