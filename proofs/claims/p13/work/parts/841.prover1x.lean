theorem w_cl_X4_17 : Cond.classLink "OppositePairs$Prover" 17 "OppositePairs$Link" ∈ WALL := wall_t (tb_1 217 (by decide +kernel)) rfl
theorem w_cl_X4_9 : Cond.classLink "OppositePairs$Prover" 9 "OppositePairs$Row" ∈ WALL := wall_t (tb_1 215 (by decide +kernel)) rfl
theorem w_code_X10_lengthOf : Cond.code yX10_lengthOf prog_1_method_34_code 1 (some .int) ∈ WALL := wall_t (tb_4 84 (by decide +kernel)) rfl
theorem w_code_X2_init : Cond.code yX2_init prog_4_method_1_code 1 none ∈ WALL := wall_t (tb_4 101 (by decide +kernel)) rfl
theorem w_code_X4_has : Cond.code yX4_has prog_6_method_5_code 2 (some .boolean) ∈ WALL := wall_t (tb_3 218 (by decide +kernel)) rfl
theorem w_code_X4_newLink : Cond.code yX4_newLink prog_6_method_23_code 6 (some (.object "OppositePairs$Link")) ∈ WALL := wall_t (tb_4 97 (by decide +kernel)) rfl
theorem w_code_X4_newRow : Cond.code yX4_newRow prog_6_method_22_code 6 (some (.object "OppositePairs$Row")) ∈ WALL := wall_t (tb_3 174 (by decide +kernel)) rfl
theorem w_code_X6_init : Cond.code yX6_init prog_8_method_1_code 1 none ∈ WALL := wall_t (tb_3 179 (by decide +kernel)) rfl
theorem w_f_X4_101 : Cond.fieldLink "OppositePairs$Prover" 101 "OppositePairs$Prover" "rowCount" "I" ∈ WALL := wall_t (tb_1 224 (by decide +kernel)) rfl
theorem w_f_X4_104 : Cond.fieldLink "OppositePairs$Prover" 104 "OppositePairs$Prover" "linkCount" "I" ∈ WALL := wall_t (tb_1 226 (by decide +kernel)) rfl
theorem w_f_X4_11 : Cond.fieldLink "OppositePairs$Prover" 11 "OppositePairs$Prover" "rows" "[LOppositePairs$Row;" ∈ WALL := wall_t (tb_1 223 (by decide +kernel)) rfl
theorem w_f_X4_19 : Cond.fieldLink "OppositePairs$Prover" 19 "OppositePairs$Prover" "links" "[LOppositePairs$Link;" ∈ WALL := wall_t (tb_1 225 (by decide +kernel)) rfl
theorem w_ini_X2 : Cond.initialized "OppositePairs$Link" ∈ WALL := wall_t (tb_1 14 (by decide +kernel)) rfl
theorem w_ini_X6 : Cond.initialized "OppositePairs$Row" ∈ WALL := wall_t (tb_1 12 (by decide +kernel)) rfl
theorem w_inst_X2 : Cond.instantiable "OppositePairs$Link" 4 ∈ WALL := wall_t (tb_4 98 (by decide +kernel)) rfl
theorem w_inst_X6 : Cond.instantiable "OppositePairs$Row" 7 ∈ WALL := wall_t (tb_3 176 (by decide +kernel)) rfl
theorem w_instanceMethod_X2_init : Cond.instanceMethod yX2_init ∈ WALL := wall_t (tb_4 100 (by decide +kernel)) rfl
theorem w_instanceMethod_X4_has : Cond.instanceMethod yX4_has ∈ WALL := wall_t (tb_3 217 (by decide +kernel)) rfl
theorem w_instanceMethod_X4_newLink : Cond.instanceMethod yX4_newLink ∈ WALL := wall_t (tb_4 96 (by decide +kernel)) rfl
theorem w_instanceMethod_X4_newRow : Cond.instanceMethod yX4_newRow ∈ WALL := wall_t (tb_3 173 (by decide +kernel)) rfl
theorem w_instanceMethod_X6_init : Cond.instanceMethod yX6_init ∈ WALL := wall_t (tb_3 178 (by decide +kernel)) rfl
theorem w_m_X4_110 : Cond.methodLink "OppositePairs$Prover" 110 yX4_newRow ∈ WALL := wall_t (tb_3 171 (by decide +kernel)) rfl
theorem w_m_X4_147 : Cond.methodLink "OppositePairs$Prover" 147 yX4_has ∈ WALL := wall_t (tb_3 215 (by decide +kernel)) rfl
theorem w_m_X4_262 : Cond.methodLink "OppositePairs$Prover" 262 yX4_newLink ∈ WALL := wall_t (tb_4 94 (by decide +kernel)) rfl
theorem w_m_X4_274 : Cond.methodLink "OppositePairs$Prover" 274 Lib.Math.min.name ∈ WALL := wall_t (tb_3 175 (by decide +kernel)) rfl
theorem w_static_X10_lengthOf : Cond.static yX10_lengthOf ∈ WALL := wall_t (tb_4 83 (by decide +kernel)) rfl
theorem ws_sel_X4_has : Cond.selects "OppositePairs$Prover" yX4_has yX4_has ∈ WALL := wall_s 51 (by decide +kernel) rfl
theorem ws_sel_X4_newLink : Cond.selects "OppositePairs$Prover" yX4_newLink yX4_newLink ∈ WALL := wall_s 67 (by decide +kernel) rfl
theorem ws_sel_X4_newRow : Cond.selects "OppositePairs$Prover" yX4_newRow yX4_newRow ∈ WALL := wall_s 48 (by decide +kernel) rfl
theorem n_f_X10_280 : Cond.fieldLinkNest "OppositePairs" 280 "OppositePairs$Link" "length" "I" "OppositePairs" ∈ NWL := nwl_t (tb_4 106 (by decide +kernel)) rfl
theorem n_f_X4_114 : Cond.fieldLinkNest "OppositePairs$Prover" 114 "OppositePairs$Row" "path" "LOppositePairs$Link;" "OppositePairs" ∈ NWL := nwl_t (tb_3 186 (by decide +kernel)) rfl
theorem n_f_X4_118 : Cond.fieldLinkNest "OppositePairs$Prover" 118 "OppositePairs$Row" "lemmas" "LOppositePairs$Link;" "OppositePairs" ∈ NWL := nwl_t (tb_3 188 (by decide +kernel)) rfl
theorem n_f_X4_121 : Cond.fieldLinkNest "OppositePairs$Prover" 121 "OppositePairs$Row" "behind" "LOppositePairs$Row;" "OppositePairs" ∈ NWL := nwl_t (tb_3 189 (by decide +kernel)) rfl
theorem n_f_X4_125 : Cond.fieldLinkNest "OppositePairs$Prover" 125 "OppositePairs$Row" "made" "I" "OppositePairs" ∈ NWL := nwl_t (tb_3 190 (by decide +kernel)) rfl
theorem n_f_X4_137 : Cond.fieldLinkNest "OppositePairs$Prover" 137 "OppositePairs$Row" "next" "I" "OppositePairs" ∈ NWL := nwl_t (tb_3 184 (by decide +kernel)) rfl
theorem n_f_X4_140 : Cond.fieldLinkNest "OppositePairs$Prover" 140 "OppositePairs$Row" "instance" "I" "OppositePairs" ∈ NWL := nwl_t (tb_3 181 (by decide +kernel)) rfl
theorem n_f_X4_151 : Cond.fieldLinkNest "OppositePairs$Prover" 151 "OppositePairs$Step" "fixed" "Z" "OppositePairs" ∈ NWL := nwl_t (tb_4 22 (by decide +kernel)) rfl
theorem n_f_X4_163 : Cond.fieldLinkNest "OppositePairs$Prover" 163 "OppositePairs$Row" "without" "I" "OppositePairs" ∈ NWL := nwl_t (tb_3 183 (by decide +kernel)) rfl
theorem n_f_X4_174 : Cond.fieldLinkNest "OppositePairs$Prover" 174 "OppositePairs$Link" "instance" "I" "OppositePairs" ∈ NWL := nwl_t (tb_4 103 (by decide +kernel)) rfl
theorem n_f_X4_175 : Cond.fieldLinkNest "OppositePairs$Prover" 175 "OppositePairs$Link" "literal" "I" "OppositePairs" ∈ NWL := nwl_t (tb_4 104 (by decide +kernel)) rfl
theorem n_f_X4_181 : Cond.fieldLinkNest "OppositePairs$Prover" 181 "OppositePairs$Link" "before" "LOppositePairs$Link;" "OppositePairs" ∈ NWL := nwl_t (tb_4 107 (by decide +kernel)) rfl
theorem n_f_X4_250 : Cond.fieldLinkNest "OppositePairs$Prover" 250 "OppositePairs$Step" "kind" "I" "OppositePairs" ∈ NWL := nwl_t (tb_4 14 (by decide +kernel)) rfl
theorem n_f_X4_253 : Cond.fieldLinkNest "OppositePairs$Prover" 253 "OppositePairs$Step" "byInstance" "I" "OppositePairs" ∈ NWL := nwl_t (tb_4 16 (by decide +kernel)) rfl
theorem n_f_X4_256 : Cond.fieldLinkNest "OppositePairs$Prover" 256 "OppositePairs$Step" "byLiteral" "I" "OppositePairs" ∈ NWL := nwl_t (tb_4 18 (by decide +kernel)) rfl
theorem n_f_X4_266 : Cond.fieldLinkNest "OppositePairs$Prover" 266 "OppositePairs$Link" "length" "I" "OppositePairs" ∈ NWL := nwl_t (tb_4 105 (by decide +kernel)) rfl
theorem n_m_X4_240 : Cond.methodLinkNest "OppositePairs$Prover" 240 yX10_lengthOf "OppositePairs" ∈ NWL := nwl_t (tb_4 82 (by decide +kernel)) rfl
theorem n_m_X4_277 : Cond.methodLinkNest "OppositePairs$Prover" 277 yX6_init "OppositePairs" ∈ NWL := nwl_t (tb_3 177 (by decide +kernel)) rfl
theorem n_m_X4_278 : Cond.methodLinkNest "OppositePairs$Prover" 278 yX2_init "OppositePairs" ∈ NWL := nwl_t (tb_4 99 (by decide +kernel)) rfl
theorem dX10_lengthOf_0 : decode cX10_lengthOf 0 = .ok (.aload_n 0, 1) := by decide +kernel
theorem dX10_lengthOf_1 : decode cX10_lengthOf 1 = .ok (.ifnonnull 7, 3) := by decide +kernel
theorem dX10_lengthOf_12 : decode cX10_lengthOf 12 = .ok (.ireturn, 1) := by decide +kernel
theorem dX10_lengthOf_4 : decode cX10_lengthOf 4 = .ok (.iconst 0, 1) := by decide +kernel
theorem dX10_lengthOf_5 : decode cX10_lengthOf 5 = .ok (.goto 7, 3) := by decide +kernel
theorem dX10_lengthOf_8 : decode cX10_lengthOf 8 = .ok (.aload_n 0, 1) := by decide +kernel
theorem dX10_lengthOf_9 : decode cX10_lengthOf 9 = .ok (.getfield 280, 3) := by decide +kernel
theorem dX4_closeBy_0 : decode cX4_closeBy 0 = .ok (.aload_n 1, 1) := by decide +kernel
theorem dX4_closeBy_1 : decode cX4_closeBy 1 = .ok (.iload_n 2, 1) := by decide +kernel
theorem dX4_closeBy_10 : decode cX4_closeBy 10 = .ok (.aload_n 1, 1) := by decide +kernel
theorem dX4_closeBy_11 : decode cX4_closeBy 11 = .ok (.iload 4, 2) := by decide +kernel
theorem dX4_closeBy_13 : decode cX4_closeBy 13 = .ok (.putfield 256, 3) := by decide +kernel
theorem dX4_closeBy_16 : decode cX4_closeBy 16 = .ok (.aload_n 1, 1) := by decide +kernel
theorem dX4_closeBy_17 : decode cX4_closeBy 17 = .ok (.iload_n 2, 1) := by decide +kernel
theorem dX4_closeBy_18 : decode cX4_closeBy 18 = .ok (.iconst 3, 1) := by decide +kernel
theorem dX4_closeBy_19 : decode cX4_closeBy 19 = .ok (.if_icmp .eq 15, 3) := by decide +kernel
theorem dX4_closeBy_2 : decode cX4_closeBy 2 = .ok (.putfield 250, 3) := by decide +kernel
theorem dX4_closeBy_22 : decode cX4_closeBy 22 = .ok (.aload_n 0, 1) := by decide +kernel
theorem dX4_closeBy_23 : decode cX4_closeBy 23 = .ok (.iconst 4, 1) := by decide +kernel
theorem dX4_closeBy_24 : decode cX4_closeBy 24 = .ok (.invokevirtual 147, 3) := by decide +kernel
theorem dX4_closeBy_27 : decode cX4_closeBy 27 = .ok (.ifCond .eq 7, 3) := by decide +kernel
theorem dX4_closeBy_30 : decode cX4_closeBy 30 = .ok (.iconst 1, 1) := by decide +kernel
theorem dX4_closeBy_31 : decode cX4_closeBy 31 = .ok (.goto 4, 3) := by decide +kernel
theorem dX4_closeBy_34 : decode cX4_closeBy 34 = .ok (.iconst 0, 1) := by decide +kernel
theorem dX4_closeBy_35 : decode cX4_closeBy 35 = .ok (.putfield 151, 3) := by decide +kernel
theorem dX4_closeBy_38 : decode cX4_closeBy 38 = .ok (.iconst 1, 1) := by decide +kernel
theorem dX4_closeBy_39 : decode cX4_closeBy 39 = .ok (.ireturn, 1) := by decide +kernel
theorem dX4_closeBy_5 : decode cX4_closeBy 5 = .ok (.aload_n 1, 1) := by decide +kernel
theorem dX4_closeBy_6 : decode cX4_closeBy 6 = .ok (.iload_n 3, 1) := by decide +kernel
theorem dX4_closeBy_7 : decode cX4_closeBy 7 = .ok (.putfield 253, 3) := by decide +kernel
theorem dX4_newLink_0 : decode cX4_newLink 0 = .ok (.aload_n 0, 1) := by decide +kernel
theorem dX4_newLink_1 : decode cX4_newLink 1 = .ok (.getfield 104, 3) := by decide +kernel
theorem dX4_newLink_10 : decode cX4_newLink 10 = .ok (.istore 4, 2) := by decide +kernel
theorem dX4_newLink_12 : decode cX4_newLink 12 = .ok (.aload_n 0, 1) := by decide +kernel
theorem dX4_newLink_13 : decode cX4_newLink 13 = .ok (.getfield 19, 3) := by decide +kernel
theorem dX4_newLink_16 : decode cX4_newLink 16 = .ok (.iload 4, 2) := by decide +kernel
theorem dX4_newLink_18 : decode cX4_newLink 18 = .ok (.aaload, 1) := by decide +kernel
theorem dX4_newLink_19 : decode cX4_newLink 19 = .ok (.ifnonnull 17, 3) := by decide +kernel
theorem dX4_newLink_22 : decode cX4_newLink 22 = .ok (.aload_n 0, 1) := by decide +kernel
theorem dX4_newLink_23 : decode cX4_newLink 23 = .ok (.getfield 19, 3) := by decide +kernel
theorem dX4_newLink_26 : decode cX4_newLink 26 = .ok (.iload 4, 2) := by decide +kernel
theorem dX4_newLink_28 : decode cX4_newLink 28 = .ok (.new 17, 3) := by decide +kernel
theorem dX4_newLink_31 : decode cX4_newLink 31 = .ok (.dup, 1) := by decide +kernel
theorem dX4_newLink_32 : decode cX4_newLink 32 = .ok (.invokespecial 278, 3) := by decide +kernel
theorem dX4_newLink_35 : decode cX4_newLink 35 = .ok (.aastore, 1) := by decide +kernel
theorem dX4_newLink_36 : decode cX4_newLink 36 = .ok (.aload_n 0, 1) := by decide +kernel
theorem dX4_newLink_37 : decode cX4_newLink 37 = .ok (.iload 4, 2) := by decide +kernel
theorem dX4_newLink_39 : decode cX4_newLink 39 = .ok (.iconst 1, 1) := by decide +kernel
theorem dX4_newLink_4 : decode cX4_newLink 4 = .ok (.sipush 209, 3) := by decide +kernel
theorem dX4_newLink_40 : decode cX4_newLink 40 = .ok (.iadd, 1) := by decide +kernel
theorem dX4_newLink_41 : decode cX4_newLink 41 = .ok (.putfield 104, 3) := by decide +kernel
theorem dX4_newLink_44 : decode cX4_newLink 44 = .ok (.aload_n 0, 1) := by decide +kernel
theorem dX4_newLink_45 : decode cX4_newLink 45 = .ok (.getfield 19, 3) := by decide +kernel
theorem dX4_newLink_48 : decode cX4_newLink 48 = .ok (.iload 4, 2) := by decide +kernel
theorem dX4_newLink_50 : decode cX4_newLink 50 = .ok (.aaload, 1) := by decide +kernel
theorem dX4_newLink_51 : decode cX4_newLink 51 = .ok (.astore 5, 2) := by decide +kernel
theorem dX4_newLink_53 : decode cX4_newLink 53 = .ok (.aload 5, 2) := by decide +kernel
theorem dX4_newLink_55 : decode cX4_newLink 55 = .ok (.iload_n 1, 1) := by decide +kernel
theorem dX4_newLink_56 : decode cX4_newLink 56 = .ok (.putfield 174, 3) := by decide +kernel
theorem dX4_newLink_59 : decode cX4_newLink 59 = .ok (.aload 5, 2) := by decide +kernel
theorem dX4_newLink_61 : decode cX4_newLink 61 = .ok (.iload_n 2, 1) := by decide +kernel
theorem dX4_newLink_62 : decode cX4_newLink 62 = .ok (.putfield 175, 3) := by decide +kernel
theorem dX4_newLink_65 : decode cX4_newLink 65 = .ok (.aload 5, 2) := by decide +kernel
theorem dX4_newLink_67 : decode cX4_newLink 67 = .ok (.aload_n 3, 1) := by decide +kernel
theorem dX4_newLink_68 : decode cX4_newLink 68 = .ok (.putfield 181, 3) := by decide +kernel
theorem dX4_newLink_7 : decode cX4_newLink 7 = .ok (.invokestatic 274, 3) := by decide +kernel
theorem dX4_newLink_71 : decode cX4_newLink 71 = .ok (.aload 5, 2) := by decide +kernel
theorem dX4_newLink_73 : decode cX4_newLink 73 = .ok (.aload_n 3, 1) := by decide +kernel
theorem dX4_newLink_74 : decode cX4_newLink 74 = .ok (.invokestatic 240, 3) := by decide +kernel
theorem dX4_newLink_77 : decode cX4_newLink 77 = .ok (.iconst 1, 1) := by decide +kernel
theorem dX4_newLink_78 : decode cX4_newLink 78 = .ok (.iadd, 1) := by decide +kernel
theorem dX4_newLink_79 : decode cX4_newLink 79 = .ok (.putfield 266, 3) := by decide +kernel
theorem dX4_newLink_82 : decode cX4_newLink 82 = .ok (.aload 5, 2) := by decide +kernel
theorem dX4_newLink_84 : decode cX4_newLink 84 = .ok (.areturn, 1) := by decide +kernel
theorem dX4_newRow_0 : decode cX4_newRow 0 = .ok (.aload_n 0, 1) := by decide +kernel
theorem dX4_newRow_1 : decode cX4_newRow 1 = .ok (.getfield 101, 3) := by decide +kernel
theorem dX4_newRow_10 : decode cX4_newRow 10 = .ok (.istore 4, 2) := by decide +kernel
theorem dX4_newRow_12 : decode cX4_newRow 12 = .ok (.aload_n 0, 1) := by decide +kernel
theorem dX4_newRow_13 : decode cX4_newRow 13 = .ok (.getfield 11, 3) := by decide +kernel
theorem dX4_newRow_16 : decode cX4_newRow 16 = .ok (.iload 4, 2) := by decide +kernel
theorem dX4_newRow_18 : decode cX4_newRow 18 = .ok (.aaload, 1) := by decide +kernel
theorem dX4_newRow_19 : decode cX4_newRow 19 = .ok (.ifnonnull 17, 3) := by decide +kernel
theorem dX4_newRow_22 : decode cX4_newRow 22 = .ok (.aload_n 0, 1) := by decide +kernel
theorem dX4_newRow_23 : decode cX4_newRow 23 = .ok (.getfield 11, 3) := by decide +kernel
theorem dX4_newRow_26 : decode cX4_newRow 26 = .ok (.iload 4, 2) := by decide +kernel
theorem dX4_newRow_28 : decode cX4_newRow 28 = .ok (.new 9, 3) := by decide +kernel
theorem dX4_newRow_31 : decode cX4_newRow 31 = .ok (.dup, 1) := by decide +kernel
theorem dX4_newRow_32 : decode cX4_newRow 32 = .ok (.invokespecial 277, 3) := by decide +kernel
theorem dX4_newRow_35 : decode cX4_newRow 35 = .ok (.aastore, 1) := by decide +kernel
theorem dX4_newRow_36 : decode cX4_newRow 36 = .ok (.aload_n 0, 1) := by decide +kernel
theorem dX4_newRow_37 : decode cX4_newRow 37 = .ok (.iload 4, 2) := by decide +kernel
theorem dX4_newRow_39 : decode cX4_newRow 39 = .ok (.iconst 1, 1) := by decide +kernel
theorem dX4_newRow_4 : decode cX4_newRow 4 = .ok (.sipush 360, 3) := by decide +kernel
theorem dX4_newRow_40 : decode cX4_newRow 40 = .ok (.iadd, 1) := by decide +kernel
theorem dX4_newRow_41 : decode cX4_newRow 41 = .ok (.putfield 101, 3) := by decide +kernel
theorem dX4_newRow_44 : decode cX4_newRow 44 = .ok (.aload_n 0, 1) := by decide +kernel
theorem dX4_newRow_45 : decode cX4_newRow 45 = .ok (.getfield 11, 3) := by decide +kernel
theorem dX4_newRow_48 : decode cX4_newRow 48 = .ok (.iload 4, 2) := by decide +kernel
theorem dX4_newRow_50 : decode cX4_newRow 50 = .ok (.aaload, 1) := by decide +kernel
theorem dX4_newRow_51 : decode cX4_newRow 51 = .ok (.astore 5, 2) := by decide +kernel
theorem dX4_newRow_53 : decode cX4_newRow 53 = .ok (.aload 5, 2) := by decide +kernel
theorem dX4_newRow_55 : decode cX4_newRow 55 = .ok (.iload_n 1, 1) := by decide +kernel
theorem dX4_newRow_56 : decode cX4_newRow 56 = .ok (.putfield 140, 3) := by decide +kernel
theorem dX4_newRow_59 : decode cX4_newRow 59 = .ok (.aload 5, 2) := by decide +kernel
theorem dX4_newRow_61 : decode cX4_newRow 61 = .ok (.iload_n 2, 1) := by decide +kernel
theorem dX4_newRow_62 : decode cX4_newRow 62 = .ok (.putfield 163, 3) := by decide +kernel
theorem dX4_newRow_65 : decode cX4_newRow 65 = .ok (.aload 5, 2) := by decide +kernel
theorem dX4_newRow_67 : decode cX4_newRow 67 = .ok (.iload_n 3, 1) := by decide +kernel
theorem dX4_newRow_68 : decode cX4_newRow 68 = .ok (.iload_n 2, 1) := by decide +kernel
theorem dX4_newRow_69 : decode cX4_newRow 69 = .ok (.if_icmp .ne 9, 3) := by decide +kernel
theorem dX4_newRow_7 : decode cX4_newRow 7 = .ok (.invokestatic 274, 3) := by decide +kernel
theorem dX4_newRow_72 : decode cX4_newRow 72 = .ok (.iload_n 3, 1) := by decide +kernel
theorem dX4_newRow_73 : decode cX4_newRow 73 = .ok (.iconst 1, 1) := by decide +kernel
theorem dX4_newRow_74 : decode cX4_newRow 74 = .ok (.iadd, 1) := by decide +kernel
theorem dX4_newRow_75 : decode cX4_newRow 75 = .ok (.goto 4, 3) := by decide +kernel
theorem dX4_newRow_78 : decode cX4_newRow 78 = .ok (.iload_n 3, 1) := by decide +kernel
theorem dX4_newRow_79 : decode cX4_newRow 79 = .ok (.putfield 137, 3) := by decide +kernel
theorem dX4_newRow_82 : decode cX4_newRow 82 = .ok (.aload 5, 2) := by decide +kernel
theorem dX4_newRow_84 : decode cX4_newRow 84 = .ok (.areturn, 1) := by decide +kernel
theorem dX4_restOf_0 : decode cX4_restOf 0 = .ok (.aload_n 0, 1) := by decide +kernel
theorem dX4_restOf_1 : decode cX4_restOf 1 = .ok (.aload_n 1, 1) := by decide +kernel
theorem dX4_restOf_10 : decode cX4_restOf 10 = .ok (.getfield 137, 3) := by decide +kernel
theorem dX4_restOf_13 : decode cX4_restOf 13 = .ok (.iconst 1, 1) := by decide +kernel
theorem dX4_restOf_14 : decode cX4_restOf 14 = .ok (.iadd, 1) := by decide +kernel
theorem dX4_restOf_15 : decode cX4_restOf 15 = .ok (.invokevirtual 110, 3) := by decide +kernel
theorem dX4_restOf_18 : decode cX4_restOf 18 = .ok (.astore_n 2, 1) := by decide +kernel
theorem dX4_restOf_19 : decode cX4_restOf 19 = .ok (.aload_n 2, 1) := by decide +kernel
theorem dX4_restOf_2 : decode cX4_restOf 2 = .ok (.getfield 140, 3) := by decide +kernel
theorem dX4_restOf_20 : decode cX4_restOf 20 = .ok (.aload_n 1, 1) := by decide +kernel
theorem dX4_restOf_21 : decode cX4_restOf 21 = .ok (.getfield 114, 3) := by decide +kernel
theorem dX4_restOf_24 : decode cX4_restOf 24 = .ok (.putfield 114, 3) := by decide +kernel
theorem dX4_restOf_27 : decode cX4_restOf 27 = .ok (.aload_n 2, 1) := by decide +kernel
theorem dX4_restOf_28 : decode cX4_restOf 28 = .ok (.aload_n 0, 1) := by decide +kernel
theorem dX4_restOf_29 : decode cX4_restOf 29 = .ok (.iconst 2, 1) := by decide +kernel
theorem dX4_restOf_30 : decode cX4_restOf 30 = .ok (.invokevirtual 147, 3) := by decide +kernel
theorem dX4_restOf_33 : decode cX4_restOf 33 = .ok (.ifCond .eq 22, 3) := by decide +kernel
theorem dX4_restOf_36 : decode cX4_restOf 36 = .ok (.aload_n 0, 1) := by decide +kernel
theorem dX4_restOf_37 : decode cX4_restOf 37 = .ok (.aload_n 1, 1) := by decide +kernel
theorem dX4_restOf_38 : decode cX4_restOf 38 = .ok (.getfield 140, 3) := by decide +kernel
theorem dX4_restOf_41 : decode cX4_restOf 41 = .ok (.aload_n 1, 1) := by decide +kernel
theorem dX4_restOf_42 : decode cX4_restOf 42 = .ok (.getfield 137, 3) := by decide +kernel
theorem dX4_restOf_45 : decode cX4_restOf 45 = .ok (.aload_n 1, 1) := by decide +kernel
theorem dX4_restOf_46 : decode cX4_restOf 46 = .ok (.getfield 118, 3) := by decide +kernel
theorem dX4_restOf_49 : decode cX4_restOf 49 = .ok (.invokevirtual 262, 3) := by decide +kernel
theorem dX4_restOf_5 : decode cX4_restOf 5 = .ok (.aload_n 1, 1) := by decide +kernel
theorem dX4_restOf_52 : decode cX4_restOf 52 = .ok (.goto 7, 3) := by decide +kernel
theorem dX4_restOf_55 : decode cX4_restOf 55 = .ok (.aload_n 1, 1) := by decide +kernel
theorem dX4_restOf_56 : decode cX4_restOf 56 = .ok (.getfield 118, 3) := by decide +kernel
theorem dX4_restOf_59 : decode cX4_restOf 59 = .ok (.putfield 118, 3) := by decide +kernel
theorem dX4_restOf_6 : decode cX4_restOf 6 = .ok (.getfield 163, 3) := by decide +kernel
theorem dX4_restOf_62 : decode cX4_restOf 62 = .ok (.aload_n 2, 1) := by decide +kernel
theorem dX4_restOf_63 : decode cX4_restOf 63 = .ok (.aload_n 1, 1) := by decide +kernel
theorem dX4_restOf_64 : decode cX4_restOf 64 = .ok (.getfield 121, 3) := by decide +kernel
theorem dX4_restOf_67 : decode cX4_restOf 67 = .ok (.putfield 121, 3) := by decide +kernel
theorem dX4_restOf_70 : decode cX4_restOf 70 = .ok (.aload_n 2, 1) := by decide +kernel
theorem dX4_restOf_71 : decode cX4_restOf 71 = .ok (.aload_n 1, 1) := by decide +kernel
theorem dX4_restOf_72 : decode cX4_restOf 72 = .ok (.getfield 125, 3) := by decide +kernel
theorem dX4_restOf_75 : decode cX4_restOf 75 = .ok (.putfield 125, 3) := by decide +kernel
theorem dX4_restOf_78 : decode cX4_restOf 78 = .ok (.aload_n 2, 1) := by decide +kernel
theorem dX4_restOf_79 : decode cX4_restOf 79 = .ok (.areturn, 1) := by decide +kernel
theorem dX4_restOf_9 : decode cX4_restOf 9 = .ok (.aload_n 1, 1) := by decide +kernel
abbrev mo175 (v : Nat → Value) (a2 a3 : Value) : List Value := [(v 0), (v 1), a2, a3, (v 4), (v 5), (v 6), (v 7), (v 8), (v 9), (v 10), (v 11), (v 12), (v 13), (v 14), (v 15), (v 16), (v 17)]
abbrev mo176 (v : Nat → Value) (a4 a5 : Value) : List Value := [(v 0), (v 1), (v 2), (v 3), a4, a5, (v 6), (v 7), (v 8), (v 9), (v 10), (v 11), (v 12), (v 13), (v 14), (v 15), (v 16), (v 17)]
abbrev mo177 (v : Nat → Value) (a2 a3 a4 a5 a11 : Value) : List Value := [(v 0), (v 1), a2, a3, a4, a5, (v 6), (v 7), (v 8), (v 9), (v 10), a11, (v 12), (v 13), (v 14), (v 15), (v 16), (v 17)]
set_option maxRecDepth 100000 in
theorem mq177_175 (v : Nat → Value) (b4 b5 b11 : Value) : ∃ w : Nat → Value, ∀ (a2 a3 : Value), mo175 w a2 a3 = (mo177 v a2 a3 b4 b5 b11) := ⟨fun k => List.getD (mo177 v .null .null b4 b5 b11) k .null, fun _ _ => rfl⟩
set_option maxRecDepth 100000 in
theorem mq177_42 (v : Nat → Value) (b2 b3 b4 b5 : Value) : ∃ w : Nat → Value, ∀ (a11 : Value), mo42 w a11 = (mo177 v b2 b3 b4 b5 a11) := ⟨fun k => List.getD (mo177 v b2 b3 b4 b5 .null) k .null, fun _ => rfl⟩
set_option maxRecDepth 100000 in
theorem mq177_176 (v : Nat → Value) (b2 b3 b11 : Value) : ∃ w : Nat → Value, ∀ (a4 a5 : Value), mo176 w a4 a5 = (mo177 v b2 b3 a4 a5 b11) := ⟨fun k => List.getD (mo177 v b2 b3 .null .null b11) k .null, fun _ _ => rfl⟩
set_option maxHeartbeats 8000000 in
set_option maxRecDepth 100000 in
theorem c_X4_newRow (l : Launch) (dC : Nat → ClassId) (dI : Nat → Nat → Nat) (sz : Nat) (h_pv : Nat) (h_rws : Nat) (nr : Nat) (ra : Nat → Nat) (rf : Nat → RT) (nl : Nat) (la : Nat → Nat) (lf : Nat → LT) (ns : Nat) (sa : Nat → Nat) (sf : Nat → ST) (v_pv : Nat → Value) (x_pv_rowCount : Int32) (cy_rws : ClassId) (f_rws : Nat → Option Nat) (p1 : Int32) (p2 : Int32) (p3 : Int32) (hx_pv_rowCount : 0 ≤ (x_pv_rowCount).toInt ∧ (x_pv_rowCount).toInt ≤ 361) (q0 : 0 ≤ (p1).toInt ∧ (p1).toInt ≤ 29) (q1 : -1 ≤ (p2).toInt ∧ (p2).toInt ≤ 5) (q2 : 0 ≤ (p3).toInt ∧ (p3).toInt ≤ 6) (q3 : (x_pv_rowCount).toInt ≤ 360) (q4 : (x_pv_rowCount).toInt ≤ nr) (hn_pr : PFX nr 361 f_rws ra) (hn_rok : ROK nr ra rf nl la) : Met l yX4_newRow (Ws yX4_newRow cX4_newRow 6 (some (.object "OppositePairs$Row"))) (({ frames := 2, cells := ((x_pv_rowCount).toInt.toNat + 1 - nr), slots := 7 * ((x_pv_rowCount).toInt.toNat + 1 - nr), locals := 100 } : Room)) (PRE (dC, dI) cls [(cy_rws, .object "OppositePairs$Row")] (wp [(h_pv, .inr (3, (mo175 v_pv (.ref h_rws) (.int x_pv_rowCount)))), (h_rws, .inl (cy_rws, 361, .inr (.inr (.inr (.inr f_rws)))))] (PL nr ra rf nl la lf ns sa sf)) sz [.ref h_pv, .int p1, .int p2, .int p3]) (va_Qq (fun (r : Option Nat) (u : (Int32) × (Nat → Option Nat) × (Nat) × (Nat → Nat) × (Nat → RT)) => (0 ≤ (u.1).toInt ∧ (u.1).toInt ≤ 361) ∧ ((u.1).toInt = (x_pv_rowCount).toInt + 1) ∧ (nr ≤ u.2.2.1 ∧ (x_pv_rowCount).toInt + 1 ≤ u.2.2.1) ∧ (GR2 nr u.2.2.1 (u.1).toInt) ∧ (PFX u.2.2.1 361 u.2.1 u.2.2.2.1) ∧ (ROK u.2.2.1 u.2.2.2.1 u.2.2.2.2 nl la) ∧ (∀ i : Nat, i < nr → u.2.2.2.1 i = ra i) ∧ ((∀ i : Nat, i ≠ (x_pv_rowCount).toInt.toNat → u.2.2.2.2 i = rf i) ∧ (u.2.2.2.2 (x_pv_rowCount).toInt.toNat).1 = p1 ∧ (u.2.2.2.2 (x_pv_rowCount).toInt.toNat).2.1 = p2 ∧ (0 ≤ (u.2.2.2.2 (x_pv_rowCount).toInt.toNat).2.2.1.toInt ∧ (u.2.2.2.2 (x_pv_rowCount).toInt.toNat).2.2.1.toInt ≤ (p3).toInt + 1)) ∧ (r = some (u.2.2.2.1 (x_pv_rowCount).toInt.toNat)) ∧ ((u.2.2.2.2 (x_pv_rowCount).toInt.toNat).2.2.1.toInt = NXI (p2).toInt (p3).toInt)) (fun (u : (Int32) × (Nat → Option Nat) × (Nat) × (Nat → Nat) × (Nat → RT)) (t : State) => va_P (dC, dI) cls (wp [(h_pv, .inr (3, (mo175 v_pv (.ref h_rws) (.int u.1)))), (h_rws, .inl (cy_rws, 361, .inr (.inr (.inr (.inr u.2.1)))))] (PL u.2.2.1 u.2.2.2.1 u.2.2.2.2 nl la lf ns sa sf)) t.heap ∧ va_D (va_A (wp [(h_pv, .inr (3, (mo175 v_pv (.ref h_rws) (.int x_pv_rowCount)))), (h_rws, .inl (cy_rws, 361, .inr (.inr (.inr (.inr f_rws)))))] (PL nr ra rf nl la lf ns sa sf)) sz) (wp [(h_pv, .inr (3, (mo175 v_pv (.ref h_rws) (.int u.1)))), (h_rws, .inl (cy_rws, 361, .inr (.inr (.inr (.inr u.2.1)))))] (PL u.2.2.1 u.2.2.2.1 u.2.2.2.2 nl la lf ns sa sf))) (va_A (wp [(h_pv, .inr (3, (mo175 v_pv (.ref h_rws) (.int x_pv_rowCount)))), (h_rws, .inl (cy_rws, 361, .inr (.inr (.inr (.inr f_rws)))))] (PL nr ra rf nl la lf ns sa sf)) sz)) (((x_pv_rowCount).toInt.toNat + 1 - nr)) (7 * ((x_pv_rowCount).toInt.toNat + 1 - nr)) (va_A (wp [(h_pv, .inr (3, (mo175 v_pv (.ref h_rws) (.int x_pv_rowCount)))), (h_rws, .inl (cy_rws, 361, .inr (.inr (.inr (.inr f_rws)))))] (PL nr ra rf nl la lf ns sa sf)) sz) := by
  refine Met.ofW (cc := cX4_newRow) (maxL := 6) (ret := (some (.object "OppositePairs$Row"))) (by decide) rfl ?_
  intro p e s m args below meth c s₁ B hml hv
  obtain ⟨rfl, hsz, hP, hK, hD0, hN⟩ := hv
  have hx := B.exec
  have hb := B.bytes
  have hr := B.returns
  have hts := atoms_spec (ws := Ws yX4_newRow cX4_newRow 6 (some (.object "OppositePairs$Row"))) B.pre
  have hT : ∀ w ∈ WALL, w ∈ Ws yX4_newRow cX4_newRow 6 (some (.object "OppositePairs$Row")) := fun w h => List.mem_cons_of_mem _ h
  have hw := fun w (h : w ∈ WALL) => hts w (hT w h)
  have hown : s.vm.findClass RX4 = some m.cls := findClass_of_methodNamed B.named
  have hlocks := B.notSynchronized
  subst hsz
  have hD := hD0.self (sz := s.heap.size)
  generalize hAe : va_A (wp [(h_pv, .inr (3, (mo175 v_pv (.ref h_rws) (.int x_pv_rowCount)))), (h_rws, .inl (cy_rws, 361, .inr (.inr (.inr (.inr f_rws)))))] (PL nr ra rf nl la lf ns sa sf)) s.heap.size = A at hD ⊢
  have hA : ∀ q : Nat, s.heap.size ≤ q → A q := fun q h => by rw [← hAe]; exact Or.inr h
  have hS : va_S A s.heap s.heap [] := va_S.rf
  have hl := lv_entry ([.ref h_pv, .int p1, .int p2, .int p3]) (n := 6) (Nat.le_of_ble_eq_true rfl)
  rw [lg_entry_eq]
  generalize (lg_sl ([.ref h_pv, .int p1, .int p2, .int p3]) ++ List.replicate (6 - (lg_sl ([.ref h_pv, .int p1, .int p2, .int p3])).length) Slot.unset).toArray = ls at hl ⊢
  have hl : lv_has ls 6 [(0, .ref h_pv), (1, .int p1), (2, .int p2), (3, .int p3)] := hl
  have ag0 : ∀ i : Nat, i < nr → ra i = ra i := fun _ _ => rfl
  have af0 : ∀ i : Nat, i ≠ (x_pv_rowCount).toInt.toNat → rf i = rf i := fun _ _ => rfl
  refine lv_aload_n hx hb dX4_newRow_0 rfl (lv_at hl 0 rfl) ?_
  refine va_get (D := (dC, dI)) (ci := 3) (v := .int x_pv_rowCount) (C := RX4) (T := TX4) (N := 18) hx hb hw iwX4 hown hK hP 0 rfl rfl 3 (by decide) (hw _ w_f_X4_101) (fun _ h9 => h9) rfl dX4_newRow_1 ?_
  refine lv_sipush (v := 360) hx hb dX4_newRow_4 (by decide) ?_
  refine va_mmin hx hb (hml.trans hl.1.symm) hown (hw _ w_m_X4_274) (hw _ w_mst_min) (hw _ w_ini_Math) (hw _ w_mcd_min) (Nat.le_of_ble_eq_true rfl) (Nat.le_of_ble_eq_true rfl) (Nat.le_of_ble_eq_true rfl) (Nat.le_of_ble_eq_true rfl) dX4_newRow_7 ?_
  refine lv_topi (fun z1 ez1 => ?_)
  have tz1 := i_min (x := x_pv_rowCount) (y := 360) (rfl : (x_pv_rowCount).toInt = (x_pv_rowCount).toInt) (by decide : (360 : Int32).toInt = 360)
  rw [← ez1] at tz1
  refine lv_istore (lv' := [(4, .int z1), (0, .ref h_pv), (1, .int p1), (2, .int p2), (3, .int p3)]) hx hb dX4_newRow_10 hl (by decide) rfl (fun ls hl => ?_)
  refine lv_aload_n hx hb dX4_newRow_12 rfl (lv_at hl 1 rfl) ?_
  refine va_get (D := (dC, dI)) (ci := 3) (v := .ref h_rws) (C := RX4) (T := TX4) (N := 18) hx hb hw iwX4 hown hK hP 0 rfl rfl 2 (by decide) (hw _ w_f_X4_11) (fun _ h9 => h9) rfl dX4_newRow_13 ?_
  refine lv_iload hx hb dX4_newRow_16 (lv_at hl 0 rfl) ?_
  refine va_aldq hx hb hK hP 1 0 rfl rfl (i := z1) (vp_in_iff.mpr (by omega)) dX4_newRow_18 ?_
  obtain ⟨o2, eo2⟩ : ∃ o, o = f_rws (Int32.toNatClampNeg z1) := ⟨_, rfl⟩
  rw [← eo2]
  rcases o2 with _ | b3
  · have hl : lv_has ls 6 [(4, .int z1), (0, .ref h_pv), (1, .int p1), (2, .int p2), (3, .int p3)] := hl
    show W p l e _ s m _ below meth c _ _ _ _ _ (F0 m 19 ls [.null])
    have nq9 := pfx_none (k := z1) hn_pr (by omega) eo2
    refine lv_ifnonnullN hx hb dX4_newRow_19 ?_
    refine lv_aload_n hx hb dX4_newRow_22 rfl (lv_at hl 1 rfl) ?_
    refine va_get (D := (dC, dI)) (ci := 3) (v := .ref h_rws) (C := RX4) (T := TX4) (N := 18) hx hb hw iwX4 hown hK hP 0 rfl rfl 2 (by decide) (hw _ w_f_X4_11) (fun _ h9 => h9) rfl dX4_newRow_23 ?_
    refine lv_iload hx hb dX4_newRow_26 (lv_at hl 0 rfl) ?_
    refine va_new (ci := 9) (C := RX6) (T := TX6) (N := 7) (fs := [.int 0, .int 0, .int 0, .null, .null, .null, .int 0]) hx hb hw iwX6 tyX6 tyX6_ok hown (hw _ w_cl_X4_9) (hw _ w_inst_X6) (hw _ w_ini_X6) hK hP hD hS hA rfl dfX6 (by dsimp only [headSpec]; omega) (by dsimp only [headSpec]; omega) dX4_newRow_28 (fun a4 H hP hD hS => ?_)
    have hP : va_P (dC, dI) cls (wp [(h_pv, .inr (3, (mo175 v_pv (.ref h_rws) (.int x_pv_rowCount)))), (h_rws, .inl (cy_rws, 361, .inr (.inr (.inr (.inr f_rws)))))] (PL (nr + 1) (va_up ra nr a4) (va_up rf nr ((0 : Int32), (0 : Int32), (0 : Int32), none, none, none, (0 : Int32))) nl la lf ns sa sf)) H := va_P_perm (pl_pushR (t := ((0 : Int32), (0 : Int32), (0 : Int32), none, none, none, (0 : Int32)))) hP
    have hD : va_D A (wp [(h_pv, .inr (3, (mo175 v_pv (.ref h_rws) (.int x_pv_rowCount)))), (h_rws, .inl (cy_rws, 361, .inr (.inr (.inr (.inr f_rws)))))] (PL (nr + 1) (va_up ra nr a4) (va_up rf nr ((0 : Int32), (0 : Int32), (0 : Int32), none, none, none, (0 : Int32))) nl la lf ns sa sf)) := va_D_perm (pl_pushR (t := ((0 : Int32), (0 : Int32), (0 : Int32), none, none, none, (0 : Int32)))) hD
    obtain ⟨nr5, enr5⟩ : ∃ g, g = (nr + 1) := ⟨_, rfl⟩
    obtain ⟨ra6, era6⟩ : ∃ g, g = (va_up ra nr a4) := ⟨_, rfl⟩
    obtain ⟨rf7, erf7⟩ : ∃ g, g = (va_up rf nr ((0 : Int32), (0 : Int32), (0 : Int32), none, none, none, (0 : Int32))) := ⟨_, rfl⟩
    have hP : va_P (dC, dI) cls (wp [(h_pv, .inr (3, (mo175 v_pv (.ref h_rws) (.int x_pv_rowCount)))), (h_rws, .inl (cy_rws, 361, .inr (.inr (.inr (.inr f_rws)))))] (PL nr5 ra6 rf7 nl la lf ns sa sf)) H := by rw [enr5, era6, erf7]; exact hP
    have hD : va_D A (wp [(h_pv, .inr (3, (mo175 v_pv (.ref h_rws) (.int x_pv_rowCount)))), (h_rws, .inl (cy_rws, 361, .inr (.inr (.inr (.inr f_rws)))))] (PL nr5 ra6 rf7 nl la lf ns sa sf)) := by rw [enr5, era6, erf7]; exact hD
    have ea9 : ra6 nr = a4 := by rw [era6]; exact up_self _ _ _
    refine lv_dup hx hb dX4_newRow_31 rfl ?_
    have hPc := wp_P (cx := []) hP [] rfl
    have hDc := wp_D (cx := []) hD [] (by decide) rfl
    have hKc := hK.sub (tys' := []) [] rfl
    have hFc := wp_free (cx := []) hD hS hA [] rfl
    refine va_callv (va_runIN (As := []) (rest := [.ref a4, .int z1, .ref h_rws]) ⟨hx, hb, hml, hown, hts⟩ (c_X6_init l dC dI H.size a4) ⟨va_cnB (host := "OppositePairs") 0 hts (gd hT w_code_X6_init) rfl rfl rfl (hN _ n_m_X4_277) (hw _ w_ini_X6) (by decide +kernel) ⟨(by dsimp only [headSpec]; omega), (by dsimp only [headSpec]; omega)⟩, rfl, hw _ w_instanceMethod_X6_init⟩ ⟨pre_blind, pre_of hPc hKc hDc hN⟩ rfl rfl hl.1 rfl (lv_room (Nat.le_of_ble_eq_true rfl)) dX4_newRow_32 ⟨(by dsimp only [headSpec]; omega), (by dsimp only [headSpec]; omega)⟩) hS (fun q _ h => hFc q h) hFc (fun u t H locs ht hvm hq hB hz1 hk1 hS9 => ?_)
    obtain ⟨hP1, hD1⟩ := hB
    rw [ht] at hP1
    obtain ⟨hP9, hD9⟩ := va_joinQ (wr := [(h_pv, .inr (3, (mo175 v_pv (.ref h_rws) (.int x_pv_rowCount)))), (h_rws, .inl (cy_rws, 361, .inr (.inr (.inr (.inr f_rws)))))]) (w1 := []) (cx := []) hP hD [] [0, 1] rfl rfl (by decide) (by decide) hk1 hFc hP1 hD1
    clear hP hD hS hPc hDc hKc hFc hP1 hD1 hk1 hz1 ht hvm
    have hP : va_P (dC, dI) cls (wp [(h_pv, .inr (3, (mo175 v_pv (.ref h_rws) (.int x_pv_rowCount)))), (h_rws, .inl (cy_rws, 361, .inr (.inr (.inr (.inr f_rws)))))] (PL nr5 ra6 rf7 nl la lf ns sa sf)) H := hP9
    have hD : va_D A (wp [(h_pv, .inr (3, (mo175 v_pv (.ref h_rws) (.int x_pv_rowCount)))), (h_rws, .inl (cy_rws, 361, .inr (.inr (.inr (.inr f_rws)))))] (PL nr5 ra6 rf7 nl la lf ns sa sf)) := hD9
    have hS := hS9
    clear hP9 hD9 hS9
    refine va_astq hx hb hK hP hD hS 1 0 (2 + nr) 9 rfl rfl (by rw [← ea9]; exact (pl_R (X := [(h_pv, .inr (3, (mo175 v_pv (.ref h_rws) (.int x_pv_rowCount)))), (h_rws, .inl (cy_rws, 361, .inr (.inr (.inr (.inr f_rws)))))]) (by omega))) rfl (i := z1) (vp_in_iff.mpr (by omega)) dX4_newRow_35 (fun H locs hP hD hS => ?_)
    obtain ⟨f9, ef9⟩ : ∃ g : Nat → Option Nat, g = va_up f_rws (Int32.toNatClampNeg z1) (some a4) := ⟨_, rfl⟩
    have hP : va_P (dC, dI) cls (wp [(h_pv, .inr (3, (mo175 v_pv (.ref h_rws) (.int x_pv_rowCount)))), (h_rws, .inl (cy_rws, 361, .inr (.inr (.inr (.inr f9)))))] (PL nr5 ra6 rf7 nl la lf ns sa sf)) H := by rw [ef9]; exact hP
    have hD : va_D A (wp [(h_pv, .inr (3, (mo175 v_pv (.ref h_rws) (.int x_pv_rowCount)))), (h_rws, .inl (cy_rws, 361, .inr (.inr (.inr (.inr f9)))))] (PL nr5 ra6 rf7 nl la lf ns sa sf)) := by rw [ef9]; exact hD
    have pr9 : PFX nr5 361 f9 ra6 := by rw [enr5, ef9, era6]; exact pfx_push hn_pr (by omega) (by omega)
    have rk9 : ROK nr5 ra6 rf7 nl la := by rw [enr5, era6, erf7]; exact rok_push hn_rok
    have ag9 : ∀ i : Nat, i < nr → ra6 i = ra i := fun i hi => by rw [era6]; exact up_ne (by omega)
    have af9 : ∀ i : Nat, i ≠ (x_pv_rowCount).toInt.toNat → rf7 i = rf i := fun i hi => by rw [erf7]; exact up_ne (by omega)
    refine lv_aload_n hx hb dX4_newRow_36 rfl (lv_at hl 1 rfl) ?_
    refine lv_iload hx hb dX4_newRow_37 (lv_at hl 0 rfl) ?_
    refine lv_iconst (v := 1) hx hb dX4_newRow_39 (by decide) ?_
    refine lv_iadd hx hb dX4_newRow_40 ?_
    refine lv_topi (fun z10 ez10 => ?_)
    have tz10 : (z10).toInt = (z1).toInt + 1 := by rw [ez10]; exact i_add rfl (by decide) (by omega)
    refine va_put (D := (dC, dI)) (ci := 3) (v := .int z10) (ty := tyX4 3) (C := RX4) (T := TX4) (N := 18) hx hb hw iwX4 tyX4 tyX4_ok nmX4 hown hK hP hD hS 0 rfl rfl 3 (by decide) (hw _ w_f_X4_101) (fun _ h9 => h9) rfl (tyX4_ok 3 (by decide)) rfl rfl (Nat.le_of_ble_eq_true rfl) dX4_newRow_41 (fun H locs hP9 hD9 hS9 => ?_)
    clear hP hD hS
    have hP : va_P (dC, dI) cls (wp [(h_pv, .inr (3, (mo175 v_pv (.ref h_rws) (.int z10)))), (h_rws, .inl (cy_rws, 361, .inr (.inr (.inr (.inr f9)))))] (PL nr5 ra6 rf7 nl la lf ns sa sf)) H := hP9
    have hD : va_D A (wp [(h_pv, .inr (3, (mo175 v_pv (.ref h_rws) (.int z10)))), (h_rws, .inl (cy_rws, 361, .inr (.inr (.inr (.inr f9)))))] (PL nr5 ra6 rf7 nl la lf ns sa sf)) := hD9
    have hS := hS9
    clear hP9 hD9 hS9
    refine lv_aload_n hx hb dX4_newRow_44 rfl (lv_at hl 1 rfl) ?_
    refine va_get (D := (dC, dI)) (ci := 3) (v := .ref h_rws) (C := RX4) (T := TX4) (N := 18) hx hb hw iwX4 hown hK hP 0 rfl rfl 2 (by decide) (hw _ w_f_X4_11) (fun _ h9 => h9) rfl dX4_newRow_45 ?_
    refine lv_iload hx hb dX4_newRow_48 (lv_at hl 0 rfl) ?_
    refine va_aldq hx hb hK hP 1 0 rfl rfl (i := z1) (vp_in_iff.mpr (by omega)) dX4_newRow_50 ?_
    obtain ⟨o11, eo11⟩ : ∃ o, o = f9 (Int32.toNatClampNeg z1) := ⟨_, rfl⟩
    rw [← eo11]
    have oq9 := pfx_at (k := z1) (i := (x_pv_rowCount).toInt.toNat) pr9 eo11 (by omega) (by omega)
    subst oq9
    show W p l e _ s m _ below meth c _ _ _ _ _ (F0 m 51 ls [.ref (ra6 (x_pv_rowCount).toInt.toNat)])
    refine lv_astore (lv' := [(5, .ref (ra6 (x_pv_rowCount).toInt.toNat)), (4, .int z1), (0, .ref h_pv), (1, .int p1), (2, .int p2), (3, .int p3)]) hx hb dX4_newRow_51 hl (by decide) rfl (fun ls hl => ?_)
    refine lv_aload hx hb dX4_newRow_53 (lv_at hl 0 rfl) ?_
    refine lv_iload_n hx hb dX4_newRow_55 rfl (lv_at hl 3 rfl) ?_
    refine va_putN (D := (dC, dI)) (ci := 9) (v := .int p1) (ty := tyX6 0) (C := RX6) (T := TX6) (N := 7) (host := "OppositePairs") hx hb hw iwX6 tyX6 tyX6_ok nmX6 hown hK hP hD hS (2 + (x_pv_rowCount).toInt.toNat) (pl_R (X := [(h_pv, .inr (3, (mo175 v_pv (.ref h_rws) (.int z10)))), (h_rws, .inl (cy_rws, 361, .inr (.inr (.inr (.inr f9)))))]) (by omega)) rfl 0 (by decide) (hN.use n_f_X4_140 rfl) (fun _ h9 => h9) rfl (tyX6_ok 0 (by decide)) rfl rfl (Nat.le_of_ble_eq_true rfl) dX4_newRow_56 (fun H locs hP hD hS => ?_)
    have hP : va_P (dC, dI) cls (wp [(h_pv, .inr (3, (mo175 v_pv (.ref h_rws) (.int z10)))), (h_rws, .inl (cy_rws, 361, .inr (.inr (.inr (.inr f9)))))] (PL nr5 ra6 (va_up rf7 (x_pv_rowCount).toInt.toNat (p1, (rf7 (x_pv_rowCount).toInt.toNat).2.1, (rf7 (x_pv_rowCount).toInt.toNat).2.2.1, (rf7 (x_pv_rowCount).toInt.toNat).2.2.2.1, (rf7 (x_pv_rowCount).toInt.toNat).2.2.2.2.1, (rf7 (x_pv_rowCount).toInt.toNat).2.2.2.2.2.1, (rf7 (x_pv_rowCount).toInt.toNat).2.2.2.2.2.2)) nl la lf ns sa sf)) H := by rw [← pl_setR (i := (x_pv_rowCount).toInt.toNat) (by omega)]; exact hP
    have hD : va_D A (wp [(h_pv, .inr (3, (mo175 v_pv (.ref h_rws) (.int z10)))), (h_rws, .inl (cy_rws, 361, .inr (.inr (.inr (.inr f9)))))] (PL nr5 ra6 (va_up rf7 (x_pv_rowCount).toInt.toNat (p1, (rf7 (x_pv_rowCount).toInt.toNat).2.1, (rf7 (x_pv_rowCount).toInt.toNat).2.2.1, (rf7 (x_pv_rowCount).toInt.toNat).2.2.2.1, (rf7 (x_pv_rowCount).toInt.toNat).2.2.2.2.1, (rf7 (x_pv_rowCount).toInt.toNat).2.2.2.2.2.1, (rf7 (x_pv_rowCount).toInt.toNat).2.2.2.2.2.2)) nl la lf ns sa sf)) := by rw [← pl_setR (i := (x_pv_rowCount).toInt.toNat) (by omega)]; exact hD
    refine lv_aload hx hb dX4_newRow_59 (lv_at hl 0 rfl) ?_
    refine lv_iload_n hx hb dX4_newRow_61 rfl (lv_at hl 4 rfl) ?_
    refine va_putN (D := (dC, dI)) (ci := 9) (v := .int p2) (ty := tyX6 1) (C := RX6) (T := TX6) (N := 7) (host := "OppositePairs") hx hb hw iwX6 tyX6 tyX6_ok nmX6 hown hK hP hD hS (2 + (x_pv_rowCount).toInt.toNat) (pl_R2 (X := [(h_pv, .inr (3, (mo175 v_pv (.ref h_rws) (.int z10)))), (h_rws, .inl (cy_rws, 361, .inr (.inr (.inr (.inr f9)))))]) (by omega)) rfl 1 (by decide) (hN.use n_f_X4_163 rfl) (fun _ h9 => h9) rfl (tyX6_ok 1 (by decide)) rfl rfl (Nat.le_of_ble_eq_true rfl) dX4_newRow_62 (fun H locs hP hD hS => ?_)
    have hP : va_P (dC, dI) cls (wp [(h_pv, .inr (3, (mo175 v_pv (.ref h_rws) (.int z10)))), (h_rws, .inl (cy_rws, 361, .inr (.inr (.inr (.inr f9)))))] (PL nr5 ra6 (va_up rf7 (x_pv_rowCount).toInt.toNat (p1, p2, (rf7 (x_pv_rowCount).toInt.toNat).2.2.1, (rf7 (x_pv_rowCount).toInt.toNat).2.2.2.1, (rf7 (x_pv_rowCount).toInt.toNat).2.2.2.2.1, (rf7 (x_pv_rowCount).toInt.toNat).2.2.2.2.2.1, (rf7 (x_pv_rowCount).toInt.toNat).2.2.2.2.2.2)) nl la lf ns sa sf)) H := by rw [← pl_setR2 (i := (x_pv_rowCount).toInt.toNat) (by omega)]; exact hP
    have hD : va_D A (wp [(h_pv, .inr (3, (mo175 v_pv (.ref h_rws) (.int z10)))), (h_rws, .inl (cy_rws, 361, .inr (.inr (.inr (.inr f9)))))] (PL nr5 ra6 (va_up rf7 (x_pv_rowCount).toInt.toNat (p1, p2, (rf7 (x_pv_rowCount).toInt.toNat).2.2.1, (rf7 (x_pv_rowCount).toInt.toNat).2.2.2.1, (rf7 (x_pv_rowCount).toInt.toNat).2.2.2.2.1, (rf7 (x_pv_rowCount).toInt.toNat).2.2.2.2.2.1, (rf7 (x_pv_rowCount).toInt.toNat).2.2.2.2.2.2)) nl la lf ns sa sf)) := by rw [← pl_setR2 (i := (x_pv_rowCount).toInt.toNat) (by omega)]; exact hD
    refine lv_aload hx hb dX4_newRow_65 (lv_at hl 0 rfl) ?_
    refine lv_iload_n hx hb dX4_newRow_67 rfl (lv_at hl 5 rfl) ?_
    refine lv_iload_n hx hb dX4_newRow_68 rfl (lv_at hl 4 rfl) ?_
    refine lv_icmp_ne (tgt := 78) hx hb dX4_newRow_69 (by decide) (fun c12 => ?_) (fun c12 => ?_)
    · have kc12 := (not_congr (cv_eq (rfl : (p3).toInt = (p3).toInt) (rfl : (p2).toInt = (p2).toInt))).mp c12
      refine lv_iload_n hx hb dX4_newRow_78 rfl (lv_at hl 5 rfl) ?_
      refine va_putN (D := (dC, dI)) (ci := 9) (v := .int p3) (ty := tyX6 2) (C := RX6) (T := TX6) (N := 7) (host := "OppositePairs") hx hb hw iwX6 tyX6 tyX6_ok nmX6 hown hK hP hD hS (2 + (x_pv_rowCount).toInt.toNat) (pl_R2 (X := [(h_pv, .inr (3, (mo175 v_pv (.ref h_rws) (.int z10)))), (h_rws, .inl (cy_rws, 361, .inr (.inr (.inr (.inr f9)))))]) (by omega)) rfl 2 (by decide) (hN.use n_f_X4_137 rfl) (fun _ h9 => h9) rfl (tyX6_ok 2 (by decide)) rfl rfl (Nat.le_of_ble_eq_true rfl) dX4_newRow_79 (fun H locs hP hD hS => ?_)
      have hP : va_P (dC, dI) cls (wp [(h_pv, .inr (3, (mo175 v_pv (.ref h_rws) (.int z10)))), (h_rws, .inl (cy_rws, 361, .inr (.inr (.inr (.inr f9)))))] (PL nr5 ra6 (va_up rf7 (x_pv_rowCount).toInt.toNat (p1, p2, p3, (rf7 (x_pv_rowCount).toInt.toNat).2.2.2.1, (rf7 (x_pv_rowCount).toInt.toNat).2.2.2.2.1, (rf7 (x_pv_rowCount).toInt.toNat).2.2.2.2.2.1, (rf7 (x_pv_rowCount).toInt.toNat).2.2.2.2.2.2)) nl la lf ns sa sf)) H := by rw [← pl_setR2 (i := (x_pv_rowCount).toInt.toNat) (by omega)]; exact hP
      have hD : va_D A (wp [(h_pv, .inr (3, (mo175 v_pv (.ref h_rws) (.int z10)))), (h_rws, .inl (cy_rws, 361, .inr (.inr (.inr (.inr f9)))))] (PL nr5 ra6 (va_up rf7 (x_pv_rowCount).toInt.toNat (p1, p2, p3, (rf7 (x_pv_rowCount).toInt.toNat).2.2.2.1, (rf7 (x_pv_rowCount).toInt.toNat).2.2.2.2.1, (rf7 (x_pv_rowCount).toInt.toNat).2.2.2.2.2.1, (rf7 (x_pv_rowCount).toInt.toNat).2.2.2.2.2.2)) nl la lf ns sa sf)) := by rw [← pl_setR2 (i := (x_pv_rowCount).toInt.toNat) (by omega)]; exact hD
      refine lv_aload hx hb dX4_newRow_82 (lv_at hl 0 rfl) ?_
      obtain ⟨rf13, erf13⟩ : ∃ g, g = (va_up rf7 (x_pv_rowCount).toInt.toNat (p1, p2, p3, (rf7 (x_pv_rowCount).toInt.toNat).2.2.2.1, (rf7 (x_pv_rowCount).toInt.toNat).2.2.2.2.1, (rf7 (x_pv_rowCount).toInt.toNat).2.2.2.2.2.1, (rf7 (x_pv_rowCount).toInt.toNat).2.2.2.2.2.2)) := ⟨_, rfl⟩
      have hP : va_P (dC, dI) cls (wp [(h_pv, .inr (3, (mo175 v_pv (.ref h_rws) (.int z10)))), (h_rws, .inl (cy_rws, 361, .inr (.inr (.inr (.inr f9)))))] (PL nr5 ra6 rf13 nl la lf ns sa sf)) H := by rw [erf13]; exact hP
      have hD : va_D A (wp [(h_pv, .inr (3, (mo175 v_pv (.ref h_rws) (.int z10)))), (h_rws, .inl (cy_rws, 361, .inr (.inr (.inr (.inr f9)))))] (PL nr5 ra6 rf13 nl la lf ns sa sf)) := by rw [erf13]; exact hD
      have srf13 : rf13 (x_pv_rowCount).toInt.toNat = (p1, p2, p3, (rf7 (x_pv_rowCount).toInt.toNat).2.2.2.1, (rf7 (x_pv_rowCount).toInt.toNat).2.2.2.2.1, (rf7 (x_pv_rowCount).toInt.toNat).2.2.2.2.2.1, (rf7 (x_pv_rowCount).toInt.toNat).2.2.2.2.2.2) := by rw [erf13]; exact up_self _ _ _
      have orf13 : ∀ j : Nat, j ≠ (x_pv_rowCount).toInt.toNat → rf13 j = rf7 j := fun j hj => by rw [erf13]; exact up_ne hj
      have rk14b := rk9 (x_pv_rowCount).toInt.toNat (by omega)
      have rk14 : ROK nr5 ra6 rf13 nl la := rok_set rk9 orf13 srf13 (by omega) (by omega) (by omega) rk14b.2.2.2.1 rk14b.2.2.2.2.1 rk14b.2.2.2.2.2.1 rk14b.2.2.2.2.2.2
      have rk14n : (∀ i : Nat, i ≠ (x_pv_rowCount).toInt.toNat → rf13 i = rf i) ∧ (rf13 (x_pv_rowCount).toInt.toNat).1 = p1 ∧ (rf13 (x_pv_rowCount).toInt.toNat).2.1 = p2 ∧ (0 ≤ (rf13 (x_pv_rowCount).toInt.toNat).2.2.1.toInt ∧ (rf13 (x_pv_rowCount).toInt.toNat).2.2.1.toInt ≤ (p3).toInt + 1) := ⟨fun i hi => (orf13 i hi).trans (af9 i hi), by rw [srf13], by rw [srf13], by rw [srf13]; dsimp only; omega⟩
      have nx15 : (rf13 (x_pv_rowCount).toInt.toNat).2.2.1.toInt = NXI (p2).toInt (p3).toInt := by rw [srf13]; show (p3).toInt = _; first | (rw [nxi_y (by omega)]; omega) | (rw [nxi_n (by omega)])
      refine W.widen (k := ((x_pv_rowCount).toInt.toNat + 1 - nr)) (n := 7 * ((x_pv_rowCount).toInt.toNat + 1 - nr)) (by omega) (by omega) ?_
      have w16 : 0 ≤ ((z10)).toInt ∧ ((z10)).toInt ≤ 361 := by omega
      have w17 : ((z10)).toInt = (x_pv_rowCount).toInt + 1 := by omega
      have w18 : nr ≤ (nr5) ∧ (x_pv_rowCount).toInt + 1 ≤ (nr5) := by omega
      have w19 : GR2 nr (nr5) ((z10)).toInt := (gr2_up (by omega) (by omega))
      have w20 : PFX (nr5) 361 (f9) (ra6) := pr9
      have w21 : ROK (nr5) (ra6) (rf13) nl la := rk14
      have w22 : ∀ i : Nat, i < nr → (ra6) i = ra i := ag9
      have w23 : (∀ i : Nat, i ≠ (x_pv_rowCount).toInt.toNat → (rf13) i = rf i) ∧ ((rf13) (x_pv_rowCount).toInt.toNat).1 = p1 ∧ ((rf13) (x_pv_rowCount).toInt.toNat).2.1 = p2 ∧ (0 ≤ ((rf13) (x_pv_rowCount).toInt.toNat).2.2.1.toInt ∧ ((rf13) (x_pv_rowCount).toInt.toNat).2.2.1.toInt ≤ (p3).toInt + 1) := rk14n
      have w24 : (some (ra6 (x_pv_rowCount).toInt.toNat) : Option Nat) = some ((ra6) (x_pv_rowCount).toInt.toNat) := rfl
      have w25 : ((rf13) (x_pv_rowCount).toInt.toNat).2.2.1.toInt = NXI (p2).toInt (p3).toInt := nx15
      exact W.aret (v := va_rf (some (ra6 (x_pv_rowCount).toInt.toNat))) hx hb hr (Or.inl ⟨_, rfl⟩) (va_rf_or _) (fun t ht hW => ⟨⟨(some (ra6 (x_pv_rowCount).toInt.toNat)), (z10, f9, nr5, ra6, rf13), rfl, ⟨w16, w17, w18, w19, w20, w21, w22, w23, w24, w25⟩, by rw [ht]; exact hP, hD⟩, hS.F ht⟩) hS.2.2 dX4_newRow_84
    · have kc12 := (cv_eq (rfl : (p3).toInt = (p3).toInt) (rfl : (p2).toInt = (p2).toInt)).mp c12
      refine lv_iload_n hx hb dX4_newRow_72 rfl (lv_at hl 5 rfl) ?_
      refine lv_iconst (v := 1) hx hb dX4_newRow_73 (by decide) ?_
      refine lv_iadd hx hb dX4_newRow_74 ?_
      refine lv_topi (fun z26 ez26 => ?_)
      have tz26 : (z26).toInt = (p3).toInt + 1 := by rw [ez26]; exact i_add rfl (by decide) (by omega)
      refine lv_goto (tgt := 79) hx hb dX4_newRow_75 (by decide) ?_
      refine va_putN (D := (dC, dI)) (ci := 9) (v := .int z26) (ty := tyX6 2) (C := RX6) (T := TX6) (N := 7) (host := "OppositePairs") hx hb hw iwX6 tyX6 tyX6_ok nmX6 hown hK hP hD hS (2 + (x_pv_rowCount).toInt.toNat) (pl_R2 (X := [(h_pv, .inr (3, (mo175 v_pv (.ref h_rws) (.int z10)))), (h_rws, .inl (cy_rws, 361, .inr (.inr (.inr (.inr f9)))))]) (by omega)) rfl 2 (by decide) (hN.use n_f_X4_137 rfl) (fun _ h9 => h9) rfl (tyX6_ok 2 (by decide)) rfl rfl (Nat.le_of_ble_eq_true rfl) dX4_newRow_79 (fun H locs hP hD hS => ?_)
      have hP : va_P (dC, dI) cls (wp [(h_pv, .inr (3, (mo175 v_pv (.ref h_rws) (.int z10)))), (h_rws, .inl (cy_rws, 361, .inr (.inr (.inr (.inr f9)))))] (PL nr5 ra6 (va_up rf7 (x_pv_rowCount).toInt.toNat (p1, p2, z26, (rf7 (x_pv_rowCount).toInt.toNat).2.2.2.1, (rf7 (x_pv_rowCount).toInt.toNat).2.2.2.2.1, (rf7 (x_pv_rowCount).toInt.toNat).2.2.2.2.2.1, (rf7 (x_pv_rowCount).toInt.toNat).2.2.2.2.2.2)) nl la lf ns sa sf)) H := by rw [← pl_setR2 (i := (x_pv_rowCount).toInt.toNat) (by omega)]; exact hP
      have hD : va_D A (wp [(h_pv, .inr (3, (mo175 v_pv (.ref h_rws) (.int z10)))), (h_rws, .inl (cy_rws, 361, .inr (.inr (.inr (.inr f9)))))] (PL nr5 ra6 (va_up rf7 (x_pv_rowCount).toInt.toNat (p1, p2, z26, (rf7 (x_pv_rowCount).toInt.toNat).2.2.2.1, (rf7 (x_pv_rowCount).toInt.toNat).2.2.2.2.1, (rf7 (x_pv_rowCount).toInt.toNat).2.2.2.2.2.1, (rf7 (x_pv_rowCount).toInt.toNat).2.2.2.2.2.2)) nl la lf ns sa sf)) := by rw [← pl_setR2 (i := (x_pv_rowCount).toInt.toNat) (by omega)]; exact hD
      refine lv_aload hx hb dX4_newRow_82 (lv_at hl 0 rfl) ?_
      obtain ⟨rf27, erf27⟩ : ∃ g, g = (va_up rf7 (x_pv_rowCount).toInt.toNat (p1, p2, z26, (rf7 (x_pv_rowCount).toInt.toNat).2.2.2.1, (rf7 (x_pv_rowCount).toInt.toNat).2.2.2.2.1, (rf7 (x_pv_rowCount).toInt.toNat).2.2.2.2.2.1, (rf7 (x_pv_rowCount).toInt.toNat).2.2.2.2.2.2)) := ⟨_, rfl⟩
      have hP : va_P (dC, dI) cls (wp [(h_pv, .inr (3, (mo175 v_pv (.ref h_rws) (.int z10)))), (h_rws, .inl (cy_rws, 361, .inr (.inr (.inr (.inr f9)))))] (PL nr5 ra6 rf27 nl la lf ns sa sf)) H := by rw [erf27]; exact hP
      have hD : va_D A (wp [(h_pv, .inr (3, (mo175 v_pv (.ref h_rws) (.int z10)))), (h_rws, .inl (cy_rws, 361, .inr (.inr (.inr (.inr f9)))))] (PL nr5 ra6 rf27 nl la lf ns sa sf)) := by rw [erf27]; exact hD
      have srf27 : rf27 (x_pv_rowCount).toInt.toNat = (p1, p2, z26, (rf7 (x_pv_rowCount).toInt.toNat).2.2.2.1, (rf7 (x_pv_rowCount).toInt.toNat).2.2.2.2.1, (rf7 (x_pv_rowCount).toInt.toNat).2.2.2.2.2.1, (rf7 (x_pv_rowCount).toInt.toNat).2.2.2.2.2.2) := by rw [erf27]; exact up_self _ _ _
      have orf27 : ∀ j : Nat, j ≠ (x_pv_rowCount).toInt.toNat → rf27 j = rf7 j := fun j hj => by rw [erf27]; exact up_ne hj
      have rk28b := rk9 (x_pv_rowCount).toInt.toNat (by omega)
      have rk28 : ROK nr5 ra6 rf27 nl la := rok_set rk9 orf27 srf27 (by omega) (by omega) (by omega) rk28b.2.2.2.1 rk28b.2.2.2.2.1 rk28b.2.2.2.2.2.1 rk28b.2.2.2.2.2.2
      have rk28n : (∀ i : Nat, i ≠ (x_pv_rowCount).toInt.toNat → rf27 i = rf i) ∧ (rf27 (x_pv_rowCount).toInt.toNat).1 = p1 ∧ (rf27 (x_pv_rowCount).toInt.toNat).2.1 = p2 ∧ (0 ≤ (rf27 (x_pv_rowCount).toInt.toNat).2.2.1.toInt ∧ (rf27 (x_pv_rowCount).toInt.toNat).2.2.1.toInt ≤ (p3).toInt + 1) := ⟨fun i hi => (orf27 i hi).trans (af9 i hi), by rw [srf27], by rw [srf27], by rw [srf27]; dsimp only; omega⟩
      have nx29 : (rf27 (x_pv_rowCount).toInt.toNat).2.2.1.toInt = NXI (p2).toInt (p3).toInt := by rw [srf27]; show (z26).toInt = _; first | (rw [nxi_y (by omega)]; omega) | (rw [nxi_n (by omega)])
      refine W.widen (k := ((x_pv_rowCount).toInt.toNat + 1 - nr)) (n := 7 * ((x_pv_rowCount).toInt.toNat + 1 - nr)) (by omega) (by omega) ?_
      have w30 : 0 ≤ ((z10)).toInt ∧ ((z10)).toInt ≤ 361 := by omega
      have w31 : ((z10)).toInt = (x_pv_rowCount).toInt + 1 := by omega
      have w32 : nr ≤ (nr5) ∧ (x_pv_rowCount).toInt + 1 ≤ (nr5) := by omega
      have w33 : GR2 nr (nr5) ((z10)).toInt := (gr2_up (by omega) (by omega))
      have w34 : PFX (nr5) 361 (f9) (ra6) := pr9
      have w35 : ROK (nr5) (ra6) (rf27) nl la := rk28
      have w36 : ∀ i : Nat, i < nr → (ra6) i = ra i := ag9
      have w37 : (∀ i : Nat, i ≠ (x_pv_rowCount).toInt.toNat → (rf27) i = rf i) ∧ ((rf27) (x_pv_rowCount).toInt.toNat).1 = p1 ∧ ((rf27) (x_pv_rowCount).toInt.toNat).2.1 = p2 ∧ (0 ≤ ((rf27) (x_pv_rowCount).toInt.toNat).2.2.1.toInt ∧ ((rf27) (x_pv_rowCount).toInt.toNat).2.2.1.toInt ≤ (p3).toInt + 1) := rk28n
      have w38 : (some (ra6 (x_pv_rowCount).toInt.toNat) : Option Nat) = some ((ra6) (x_pv_rowCount).toInt.toNat) := rfl
      have w39 : ((rf27) (x_pv_rowCount).toInt.toNat).2.2.1.toInt = NXI (p2).toInt (p3).toInt := nx29
      exact W.aret (v := va_rf (some (ra6 (x_pv_rowCount).toInt.toNat))) hx hb hr (Or.inl ⟨_, rfl⟩) (va_rf_or _) (fun t ht hW => ⟨⟨(some (ra6 (x_pv_rowCount).toInt.toNat)), (z10, f9, nr5, ra6, rf27), rfl, ⟨w30, w31, w32, w33, w34, w35, w36, w37, w38, w39⟩, by rw [ht]; exact hP, hD⟩, hS.F ht⟩) hS.2.2 dX4_newRow_84
  · have hl : lv_has ls 6 [(4, .int z1), (0, .ref h_pv), (1, .int p1), (2, .int p2), (3, .int p3)] := hl
    show W p l e _ s m _ below meth c _ _ _ _ _ (F0 m 19 ls [.ref b3])
    have nq9 := pfx_some (k := z1) hn_pr (by omega) eo2
    refine lv_ifnonnull (tgt := 36) hx hb dX4_newRow_19 (by decide) ?_
    refine lv_aload_n hx hb dX4_newRow_36 rfl (lv_at hl 1 rfl) ?_
    refine lv_iload hx hb dX4_newRow_37 (lv_at hl 0 rfl) ?_
    refine lv_iconst (v := 1) hx hb dX4_newRow_39 (by decide) ?_
    refine lv_iadd hx hb dX4_newRow_40 ?_
    refine lv_topi (fun z40 ez40 => ?_)
    have tz40 : (z40).toInt = (z1).toInt + 1 := by rw [ez40]; exact i_add rfl (by decide) (by omega)
    refine va_put (D := (dC, dI)) (ci := 3) (v := .int z40) (ty := tyX4 3) (C := RX4) (T := TX4) (N := 18) hx hb hw iwX4 tyX4 tyX4_ok nmX4 hown hK hP hD hS 0 rfl rfl 3 (by decide) (hw _ w_f_X4_101) (fun _ h9 => h9) rfl (tyX4_ok 3 (by decide)) rfl rfl (Nat.le_of_ble_eq_true rfl) dX4_newRow_41 (fun H locs hP9 hD9 hS9 => ?_)
    clear hP hD hS
    have hP : va_P (dC, dI) cls (wp [(h_pv, .inr (3, (mo175 v_pv (.ref h_rws) (.int z40)))), (h_rws, .inl (cy_rws, 361, .inr (.inr (.inr (.inr f_rws)))))] (PL nr ra rf nl la lf ns sa sf)) H := hP9
    have hD : va_D A (wp [(h_pv, .inr (3, (mo175 v_pv (.ref h_rws) (.int z40)))), (h_rws, .inl (cy_rws, 361, .inr (.inr (.inr (.inr f_rws)))))] (PL nr ra rf nl la lf ns sa sf)) := hD9
    have hS := hS9
    clear hP9 hD9 hS9
    refine lv_aload_n hx hb dX4_newRow_44 rfl (lv_at hl 1 rfl) ?_
    refine va_get (D := (dC, dI)) (ci := 3) (v := .ref h_rws) (C := RX4) (T := TX4) (N := 18) hx hb hw iwX4 hown hK hP 0 rfl rfl 2 (by decide) (hw _ w_f_X4_11) (fun _ h9 => h9) rfl dX4_newRow_45 ?_
    refine lv_iload hx hb dX4_newRow_48 (lv_at hl 0 rfl) ?_
    refine va_aldq hx hb hK hP 1 0 rfl rfl (i := z1) (vp_in_iff.mpr (by omega)) dX4_newRow_50 ?_
    obtain ⟨o41, eo41⟩ : ∃ o, o = f_rws (Int32.toNatClampNeg z1) := ⟨_, rfl⟩
    rw [← eo41]
    have oq9 := pfx_at (k := z1) (i := (x_pv_rowCount).toInt.toNat) hn_pr eo41 (by omega) (by omega)
    subst oq9
    show W p l e _ s m _ below meth c _ _ _ _ _ (F0 m 51 ls [.ref (ra (x_pv_rowCount).toInt.toNat)])
    refine lv_astore (lv' := [(5, .ref (ra (x_pv_rowCount).toInt.toNat)), (4, .int z1), (0, .ref h_pv), (1, .int p1), (2, .int p2), (3, .int p3)]) hx hb dX4_newRow_51 hl (by decide) rfl (fun ls hl => ?_)
    refine lv_aload hx hb dX4_newRow_53 (lv_at hl 0 rfl) ?_
    refine lv_iload_n hx hb dX4_newRow_55 rfl (lv_at hl 3 rfl) ?_
    refine va_putN (D := (dC, dI)) (ci := 9) (v := .int p1) (ty := tyX6 0) (C := RX6) (T := TX6) (N := 7) (host := "OppositePairs") hx hb hw iwX6 tyX6 tyX6_ok nmX6 hown hK hP hD hS (2 + (x_pv_rowCount).toInt.toNat) (pl_R (X := [(h_pv, .inr (3, (mo175 v_pv (.ref h_rws) (.int z40)))), (h_rws, .inl (cy_rws, 361, .inr (.inr (.inr (.inr f_rws)))))]) (by omega)) rfl 0 (by decide) (hN.use n_f_X4_140 rfl) (fun _ h9 => h9) rfl (tyX6_ok 0 (by decide)) rfl rfl (Nat.le_of_ble_eq_true rfl) dX4_newRow_56 (fun H locs hP hD hS => ?_)
    have hP : va_P (dC, dI) cls (wp [(h_pv, .inr (3, (mo175 v_pv (.ref h_rws) (.int z40)))), (h_rws, .inl (cy_rws, 361, .inr (.inr (.inr (.inr f_rws)))))] (PL nr ra (va_up rf (x_pv_rowCount).toInt.toNat (p1, (rf (x_pv_rowCount).toInt.toNat).2.1, (rf (x_pv_rowCount).toInt.toNat).2.2.1, (rf (x_pv_rowCount).toInt.toNat).2.2.2.1, (rf (x_pv_rowCount).toInt.toNat).2.2.2.2.1, (rf (x_pv_rowCount).toInt.toNat).2.2.2.2.2.1, (rf (x_pv_rowCount).toInt.toNat).2.2.2.2.2.2)) nl la lf ns sa sf)) H := by rw [← pl_setR (i := (x_pv_rowCount).toInt.toNat) (by omega)]; exact hP
    have hD : va_D A (wp [(h_pv, .inr (3, (mo175 v_pv (.ref h_rws) (.int z40)))), (h_rws, .inl (cy_rws, 361, .inr (.inr (.inr (.inr f_rws)))))] (PL nr ra (va_up rf (x_pv_rowCount).toInt.toNat (p1, (rf (x_pv_rowCount).toInt.toNat).2.1, (rf (x_pv_rowCount).toInt.toNat).2.2.1, (rf (x_pv_rowCount).toInt.toNat).2.2.2.1, (rf (x_pv_rowCount).toInt.toNat).2.2.2.2.1, (rf (x_pv_rowCount).toInt.toNat).2.2.2.2.2.1, (rf (x_pv_rowCount).toInt.toNat).2.2.2.2.2.2)) nl la lf ns sa sf)) := by rw [← pl_setR (i := (x_pv_rowCount).toInt.toNat) (by omega)]; exact hD
    refine lv_aload hx hb dX4_newRow_59 (lv_at hl 0 rfl) ?_
    refine lv_iload_n hx hb dX4_newRow_61 rfl (lv_at hl 4 rfl) ?_
    refine va_putN (D := (dC, dI)) (ci := 9) (v := .int p2) (ty := tyX6 1) (C := RX6) (T := TX6) (N := 7) (host := "OppositePairs") hx hb hw iwX6 tyX6 tyX6_ok nmX6 hown hK hP hD hS (2 + (x_pv_rowCount).toInt.toNat) (pl_R2 (X := [(h_pv, .inr (3, (mo175 v_pv (.ref h_rws) (.int z40)))), (h_rws, .inl (cy_rws, 361, .inr (.inr (.inr (.inr f_rws)))))]) (by omega)) rfl 1 (by decide) (hN.use n_f_X4_163 rfl) (fun _ h9 => h9) rfl (tyX6_ok 1 (by decide)) rfl rfl (Nat.le_of_ble_eq_true rfl) dX4_newRow_62 (fun H locs hP hD hS => ?_)
    have hP : va_P (dC, dI) cls (wp [(h_pv, .inr (3, (mo175 v_pv (.ref h_rws) (.int z40)))), (h_rws, .inl (cy_rws, 361, .inr (.inr (.inr (.inr f_rws)))))] (PL nr ra (va_up rf (x_pv_rowCount).toInt.toNat (p1, p2, (rf (x_pv_rowCount).toInt.toNat).2.2.1, (rf (x_pv_rowCount).toInt.toNat).2.2.2.1, (rf (x_pv_rowCount).toInt.toNat).2.2.2.2.1, (rf (x_pv_rowCount).toInt.toNat).2.2.2.2.2.1, (rf (x_pv_rowCount).toInt.toNat).2.2.2.2.2.2)) nl la lf ns sa sf)) H := by rw [← pl_setR2 (i := (x_pv_rowCount).toInt.toNat) (by omega)]; exact hP
    have hD : va_D A (wp [(h_pv, .inr (3, (mo175 v_pv (.ref h_rws) (.int z40)))), (h_rws, .inl (cy_rws, 361, .inr (.inr (.inr (.inr f_rws)))))] (PL nr ra (va_up rf (x_pv_rowCount).toInt.toNat (p1, p2, (rf (x_pv_rowCount).toInt.toNat).2.2.1, (rf (x_pv_rowCount).toInt.toNat).2.2.2.1, (rf (x_pv_rowCount).toInt.toNat).2.2.2.2.1, (rf (x_pv_rowCount).toInt.toNat).2.2.2.2.2.1, (rf (x_pv_rowCount).toInt.toNat).2.2.2.2.2.2)) nl la lf ns sa sf)) := by rw [← pl_setR2 (i := (x_pv_rowCount).toInt.toNat) (by omega)]; exact hD
    refine lv_aload hx hb dX4_newRow_65 (lv_at hl 0 rfl) ?_
    refine lv_iload_n hx hb dX4_newRow_67 rfl (lv_at hl 5 rfl) ?_
    refine lv_iload_n hx hb dX4_newRow_68 rfl (lv_at hl 4 rfl) ?_
    refine lv_icmp_ne (tgt := 78) hx hb dX4_newRow_69 (by decide) (fun c42 => ?_) (fun c42 => ?_)
    · have kc42 := (not_congr (cv_eq (rfl : (p3).toInt = (p3).toInt) (rfl : (p2).toInt = (p2).toInt))).mp c42
      refine lv_iload_n hx hb dX4_newRow_78 rfl (lv_at hl 5 rfl) ?_
      refine va_putN (D := (dC, dI)) (ci := 9) (v := .int p3) (ty := tyX6 2) (C := RX6) (T := TX6) (N := 7) (host := "OppositePairs") hx hb hw iwX6 tyX6 tyX6_ok nmX6 hown hK hP hD hS (2 + (x_pv_rowCount).toInt.toNat) (pl_R2 (X := [(h_pv, .inr (3, (mo175 v_pv (.ref h_rws) (.int z40)))), (h_rws, .inl (cy_rws, 361, .inr (.inr (.inr (.inr f_rws)))))]) (by omega)) rfl 2 (by decide) (hN.use n_f_X4_137 rfl) (fun _ h9 => h9) rfl (tyX6_ok 2 (by decide)) rfl rfl (Nat.le_of_ble_eq_true rfl) dX4_newRow_79 (fun H locs hP hD hS => ?_)
      have hP : va_P (dC, dI) cls (wp [(h_pv, .inr (3, (mo175 v_pv (.ref h_rws) (.int z40)))), (h_rws, .inl (cy_rws, 361, .inr (.inr (.inr (.inr f_rws)))))] (PL nr ra (va_up rf (x_pv_rowCount).toInt.toNat (p1, p2, p3, (rf (x_pv_rowCount).toInt.toNat).2.2.2.1, (rf (x_pv_rowCount).toInt.toNat).2.2.2.2.1, (rf (x_pv_rowCount).toInt.toNat).2.2.2.2.2.1, (rf (x_pv_rowCount).toInt.toNat).2.2.2.2.2.2)) nl la lf ns sa sf)) H := by rw [← pl_setR2 (i := (x_pv_rowCount).toInt.toNat) (by omega)]; exact hP
      have hD : va_D A (wp [(h_pv, .inr (3, (mo175 v_pv (.ref h_rws) (.int z40)))), (h_rws, .inl (cy_rws, 361, .inr (.inr (.inr (.inr f_rws)))))] (PL nr ra (va_up rf (x_pv_rowCount).toInt.toNat (p1, p2, p3, (rf (x_pv_rowCount).toInt.toNat).2.2.2.1, (rf (x_pv_rowCount).toInt.toNat).2.2.2.2.1, (rf (x_pv_rowCount).toInt.toNat).2.2.2.2.2.1, (rf (x_pv_rowCount).toInt.toNat).2.2.2.2.2.2)) nl la lf ns sa sf)) := by rw [← pl_setR2 (i := (x_pv_rowCount).toInt.toNat) (by omega)]; exact hD
      refine lv_aload hx hb dX4_newRow_82 (lv_at hl 0 rfl) ?_
      obtain ⟨rf43, erf43⟩ : ∃ g, g = (va_up rf (x_pv_rowCount).toInt.toNat (p1, p2, p3, (rf (x_pv_rowCount).toInt.toNat).2.2.2.1, (rf (x_pv_rowCount).toInt.toNat).2.2.2.2.1, (rf (x_pv_rowCount).toInt.toNat).2.2.2.2.2.1, (rf (x_pv_rowCount).toInt.toNat).2.2.2.2.2.2)) := ⟨_, rfl⟩
      have hP : va_P (dC, dI) cls (wp [(h_pv, .inr (3, (mo175 v_pv (.ref h_rws) (.int z40)))), (h_rws, .inl (cy_rws, 361, .inr (.inr (.inr (.inr f_rws)))))] (PL nr ra rf43 nl la lf ns sa sf)) H := by rw [erf43]; exact hP
      have hD : va_D A (wp [(h_pv, .inr (3, (mo175 v_pv (.ref h_rws) (.int z40)))), (h_rws, .inl (cy_rws, 361, .inr (.inr (.inr (.inr f_rws)))))] (PL nr ra rf43 nl la lf ns sa sf)) := by rw [erf43]; exact hD
      have srf43 : rf43 (x_pv_rowCount).toInt.toNat = (p1, p2, p3, (rf (x_pv_rowCount).toInt.toNat).2.2.2.1, (rf (x_pv_rowCount).toInt.toNat).2.2.2.2.1, (rf (x_pv_rowCount).toInt.toNat).2.2.2.2.2.1, (rf (x_pv_rowCount).toInt.toNat).2.2.2.2.2.2) := by rw [erf43]; exact up_self _ _ _
      have orf43 : ∀ j : Nat, j ≠ (x_pv_rowCount).toInt.toNat → rf43 j = rf j := fun j hj => by rw [erf43]; exact up_ne hj
      have rk44b := hn_rok (x_pv_rowCount).toInt.toNat (by omega)
      have rk44 : ROK nr ra rf43 nl la := rok_set hn_rok orf43 srf43 (by omega) (by omega) (by omega) rk44b.2.2.2.1 rk44b.2.2.2.2.1 rk44b.2.2.2.2.2.1 rk44b.2.2.2.2.2.2
      have rk44n : (∀ i : Nat, i ≠ (x_pv_rowCount).toInt.toNat → rf43 i = rf i) ∧ (rf43 (x_pv_rowCount).toInt.toNat).1 = p1 ∧ (rf43 (x_pv_rowCount).toInt.toNat).2.1 = p2 ∧ (0 ≤ (rf43 (x_pv_rowCount).toInt.toNat).2.2.1.toInt ∧ (rf43 (x_pv_rowCount).toInt.toNat).2.2.1.toInt ≤ (p3).toInt + 1) := ⟨fun i hi => (orf43 i hi).trans (af0 i hi), by rw [srf43], by rw [srf43], by rw [srf43]; dsimp only; omega⟩
      have nx45 : (rf43 (x_pv_rowCount).toInt.toNat).2.2.1.toInt = NXI (p2).toInt (p3).toInt := by rw [srf43]; show (p3).toInt = _; first | (rw [nxi_y (by omega)]; omega) | (rw [nxi_n (by omega)])
      refine W.widen (k := ((x_pv_rowCount).toInt.toNat + 1 - nr)) (n := 7 * ((x_pv_rowCount).toInt.toNat + 1 - nr)) (by omega) (by omega) ?_
      have w46 : 0 ≤ ((z40)).toInt ∧ ((z40)).toInt ≤ 361 := by omega
      have w47 : ((z40)).toInt = (x_pv_rowCount).toInt + 1 := by omega
      have w48 : nr ≤ (nr) ∧ (x_pv_rowCount).toInt + 1 ≤ (nr) := by omega
      have w49 : GR2 nr (nr) ((z40)).toInt := (gr2_same rfl (by omega))
      have w50 : PFX (nr) 361 (f_rws) (ra) := hn_pr
      have w51 : ROK (nr) (ra) (rf43) nl la := rk44
      have w52 : ∀ i : Nat, i < nr → (ra) i = ra i := ag0
      have w53 : (∀ i : Nat, i ≠ (x_pv_rowCount).toInt.toNat → (rf43) i = rf i) ∧ ((rf43) (x_pv_rowCount).toInt.toNat).1 = p1 ∧ ((rf43) (x_pv_rowCount).toInt.toNat).2.1 = p2 ∧ (0 ≤ ((rf43) (x_pv_rowCount).toInt.toNat).2.2.1.toInt ∧ ((rf43) (x_pv_rowCount).toInt.toNat).2.2.1.toInt ≤ (p3).toInt + 1) := rk44n
      have w54 : (some (ra (x_pv_rowCount).toInt.toNat) : Option Nat) = some ((ra) (x_pv_rowCount).toInt.toNat) := rfl
      have w55 : ((rf43) (x_pv_rowCount).toInt.toNat).2.2.1.toInt = NXI (p2).toInt (p3).toInt := nx45
      exact W.aret (v := va_rf (some (ra (x_pv_rowCount).toInt.toNat))) hx hb hr (Or.inl ⟨_, rfl⟩) (va_rf_or _) (fun t ht hW => ⟨⟨(some (ra (x_pv_rowCount).toInt.toNat)), (z40, f_rws, nr, ra, rf43), rfl, ⟨w46, w47, w48, w49, w50, w51, w52, w53, w54, w55⟩, by rw [ht]; exact hP, hD⟩, hS.F ht⟩) hS.2.2 dX4_newRow_84
    · have kc42 := (cv_eq (rfl : (p3).toInt = (p3).toInt) (rfl : (p2).toInt = (p2).toInt)).mp c42
      refine lv_iload_n hx hb dX4_newRow_72 rfl (lv_at hl 5 rfl) ?_
      refine lv_iconst (v := 1) hx hb dX4_newRow_73 (by decide) ?_
      refine lv_iadd hx hb dX4_newRow_74 ?_
      refine lv_topi (fun z56 ez56 => ?_)
      have tz56 : (z56).toInt = (p3).toInt + 1 := by rw [ez56]; exact i_add rfl (by decide) (by omega)
      refine lv_goto (tgt := 79) hx hb dX4_newRow_75 (by decide) ?_
      refine va_putN (D := (dC, dI)) (ci := 9) (v := .int z56) (ty := tyX6 2) (C := RX6) (T := TX6) (N := 7) (host := "OppositePairs") hx hb hw iwX6 tyX6 tyX6_ok nmX6 hown hK hP hD hS (2 + (x_pv_rowCount).toInt.toNat) (pl_R2 (X := [(h_pv, .inr (3, (mo175 v_pv (.ref h_rws) (.int z40)))), (h_rws, .inl (cy_rws, 361, .inr (.inr (.inr (.inr f_rws)))))]) (by omega)) rfl 2 (by decide) (hN.use n_f_X4_137 rfl) (fun _ h9 => h9) rfl (tyX6_ok 2 (by decide)) rfl rfl (Nat.le_of_ble_eq_true rfl) dX4_newRow_79 (fun H locs hP hD hS => ?_)
      have hP : va_P (dC, dI) cls (wp [(h_pv, .inr (3, (mo175 v_pv (.ref h_rws) (.int z40)))), (h_rws, .inl (cy_rws, 361, .inr (.inr (.inr (.inr f_rws)))))] (PL nr ra (va_up rf (x_pv_rowCount).toInt.toNat (p1, p2, z56, (rf (x_pv_rowCount).toInt.toNat).2.2.2.1, (rf (x_pv_rowCount).toInt.toNat).2.2.2.2.1, (rf (x_pv_rowCount).toInt.toNat).2.2.2.2.2.1, (rf (x_pv_rowCount).toInt.toNat).2.2.2.2.2.2)) nl la lf ns sa sf)) H := by rw [← pl_setR2 (i := (x_pv_rowCount).toInt.toNat) (by omega)]; exact hP
      have hD : va_D A (wp [(h_pv, .inr (3, (mo175 v_pv (.ref h_rws) (.int z40)))), (h_rws, .inl (cy_rws, 361, .inr (.inr (.inr (.inr f_rws)))))] (PL nr ra (va_up rf (x_pv_rowCount).toInt.toNat (p1, p2, z56, (rf (x_pv_rowCount).toInt.toNat).2.2.2.1, (rf (x_pv_rowCount).toInt.toNat).2.2.2.2.1, (rf (x_pv_rowCount).toInt.toNat).2.2.2.2.2.1, (rf (x_pv_rowCount).toInt.toNat).2.2.2.2.2.2)) nl la lf ns sa sf)) := by rw [← pl_setR2 (i := (x_pv_rowCount).toInt.toNat) (by omega)]; exact hD
      refine lv_aload hx hb dX4_newRow_82 (lv_at hl 0 rfl) ?_
      obtain ⟨rf57, erf57⟩ : ∃ g, g = (va_up rf (x_pv_rowCount).toInt.toNat (p1, p2, z56, (rf (x_pv_rowCount).toInt.toNat).2.2.2.1, (rf (x_pv_rowCount).toInt.toNat).2.2.2.2.1, (rf (x_pv_rowCount).toInt.toNat).2.2.2.2.2.1, (rf (x_pv_rowCount).toInt.toNat).2.2.2.2.2.2)) := ⟨_, rfl⟩
      have hP : va_P (dC, dI) cls (wp [(h_pv, .inr (3, (mo175 v_pv (.ref h_rws) (.int z40)))), (h_rws, .inl (cy_rws, 361, .inr (.inr (.inr (.inr f_rws)))))] (PL nr ra rf57 nl la lf ns sa sf)) H := by rw [erf57]; exact hP
      have hD : va_D A (wp [(h_pv, .inr (3, (mo175 v_pv (.ref h_rws) (.int z40)))), (h_rws, .inl (cy_rws, 361, .inr (.inr (.inr (.inr f_rws)))))] (PL nr ra rf57 nl la lf ns sa sf)) := by rw [erf57]; exact hD
      have srf57 : rf57 (x_pv_rowCount).toInt.toNat = (p1, p2, z56, (rf (x_pv_rowCount).toInt.toNat).2.2.2.1, (rf (x_pv_rowCount).toInt.toNat).2.2.2.2.1, (rf (x_pv_rowCount).toInt.toNat).2.2.2.2.2.1, (rf (x_pv_rowCount).toInt.toNat).2.2.2.2.2.2) := by rw [erf57]; exact up_self _ _ _
      have orf57 : ∀ j : Nat, j ≠ (x_pv_rowCount).toInt.toNat → rf57 j = rf j := fun j hj => by rw [erf57]; exact up_ne hj
      have rk58b := hn_rok (x_pv_rowCount).toInt.toNat (by omega)
      have rk58 : ROK nr ra rf57 nl la := rok_set hn_rok orf57 srf57 (by omega) (by omega) (by omega) rk58b.2.2.2.1 rk58b.2.2.2.2.1 rk58b.2.2.2.2.2.1 rk58b.2.2.2.2.2.2
      have rk58n : (∀ i : Nat, i ≠ (x_pv_rowCount).toInt.toNat → rf57 i = rf i) ∧ (rf57 (x_pv_rowCount).toInt.toNat).1 = p1 ∧ (rf57 (x_pv_rowCount).toInt.toNat).2.1 = p2 ∧ (0 ≤ (rf57 (x_pv_rowCount).toInt.toNat).2.2.1.toInt ∧ (rf57 (x_pv_rowCount).toInt.toNat).2.2.1.toInt ≤ (p3).toInt + 1) := ⟨fun i hi => (orf57 i hi).trans (af0 i hi), by rw [srf57], by rw [srf57], by rw [srf57]; dsimp only; omega⟩
      have nx59 : (rf57 (x_pv_rowCount).toInt.toNat).2.2.1.toInt = NXI (p2).toInt (p3).toInt := by rw [srf57]; show (z56).toInt = _; first | (rw [nxi_y (by omega)]; omega) | (rw [nxi_n (by omega)])
      refine W.widen (k := ((x_pv_rowCount).toInt.toNat + 1 - nr)) (n := 7 * ((x_pv_rowCount).toInt.toNat + 1 - nr)) (by omega) (by omega) ?_
      have w60 : 0 ≤ ((z40)).toInt ∧ ((z40)).toInt ≤ 361 := by omega
      have w61 : ((z40)).toInt = (x_pv_rowCount).toInt + 1 := by omega
      have w62 : nr ≤ (nr) ∧ (x_pv_rowCount).toInt + 1 ≤ (nr) := by omega
      have w63 : GR2 nr (nr) ((z40)).toInt := (gr2_same rfl (by omega))
      have w64 : PFX (nr) 361 (f_rws) (ra) := hn_pr
      have w65 : ROK (nr) (ra) (rf57) nl la := rk58
      have w66 : ∀ i : Nat, i < nr → (ra) i = ra i := ag0
      have w67 : (∀ i : Nat, i ≠ (x_pv_rowCount).toInt.toNat → (rf57) i = rf i) ∧ ((rf57) (x_pv_rowCount).toInt.toNat).1 = p1 ∧ ((rf57) (x_pv_rowCount).toInt.toNat).2.1 = p2 ∧ (0 ≤ ((rf57) (x_pv_rowCount).toInt.toNat).2.2.1.toInt ∧ ((rf57) (x_pv_rowCount).toInt.toNat).2.2.1.toInt ≤ (p3).toInt + 1) := rk58n
      have w68 : (some (ra (x_pv_rowCount).toInt.toNat) : Option Nat) = some ((ra) (x_pv_rowCount).toInt.toNat) := rfl
      have w69 : ((rf57) (x_pv_rowCount).toInt.toNat).2.2.1.toInt = NXI (p2).toInt (p3).toInt := nx59
      exact W.aret (v := va_rf (some (ra (x_pv_rowCount).toInt.toNat))) hx hb hr (Or.inl ⟨_, rfl⟩) (va_rf_or _) (fun t ht hW => ⟨⟨(some (ra (x_pv_rowCount).toInt.toNat)), (z40, f_rws, nr, ra, rf57), rfl, ⟨w60, w61, w62, w63, w64, w65, w66, w67, w68, w69⟩, by rw [ht]; exact hP, hD⟩, hS.F ht⟩) hS.2.2 dX4_newRow_84

set_option maxHeartbeats 8000000 in
set_option maxRecDepth 100000 in
theorem c_X10_lengthOf (l : Launch) (dC : Nat → ClassId) (dI : Nat → Nat → Nat) (sz : Nat) (nr : Nat) (ra : Nat → Nat) (rf : Nat → RT) (nl : Nat) (la : Nat → Nat) (lf : Nat → LT) (ns : Nat) (sa : Nat → Nat) (sf : Nat → ST) (p1 : Option Nat) (k : Int) (q0 : k ≤ nl) (hn_pb : PB la k p1) : Met l yX10_lengthOf (Ws yX10_lengthOf cX10_lengthOf 1 (some .int)) (({ frames := 0, cells := 0, slots := 0, locals := 0 } : Room)) (PRE (dC, dI) cls [] (wp [] (PL nr ra rf nl la lf ns sa sf)) sz [va_rf p1]) (va_Qi (fun (r : Int32) (_ : Unit) => (∀ xs : List LKT, LKR la lf k p1 xs → (r).toInt = (xs.length : Int))) (fun (_ : Unit) (t : State) => va_P (dC, dI) cls (wp [] (PL nr ra rf nl la lf ns sa sf)) t.heap ∧ va_D (va_A (wp [] (PL nr ra rf nl la lf ns sa sf)) sz) (wp [] (PL nr ra rf nl la lf ns sa sf))) (va_A (wp [] (PL nr ra rf nl la lf ns sa sf)) sz)) (0) (0) (va_A (wp [] (PL nr ra rf nl la lf ns sa sf)) sz) := by
  rcases p1 with _ | b1
  · show Met l yX10_lengthOf (Ws yX10_lengthOf cX10_lengthOf 1 (some .int)) (({ frames := 0, cells := 0, slots := 0, locals := 0 } : Room)) (PRE (dC, dI) cls [] (wp [] (PL nr ra rf nl la lf ns sa sf)) sz [.null]) (va_Qi (fun (r : Int32) (_ : Unit) => (∀ xs : List LKT, LKR la lf k (none : Option Nat) xs → (r).toInt = (xs.length : Int))) (fun (_ : Unit) (t : State) => va_P (dC, dI) cls (wp [] (PL nr ra rf nl la lf ns sa sf)) t.heap ∧ va_D (va_A (wp [] (PL nr ra rf nl la lf ns sa sf)) sz) (wp [] (PL nr ra rf nl la lf ns sa sf))) (va_A (wp [] (PL nr ra rf nl la lf ns sa sf)) sz)) (0) (0) (va_A (wp [] (PL nr ra rf nl la lf ns sa sf)) sz)
    refine Met.ofW (cc := cX10_lengthOf) (maxL := 1) (ret := (some .int)) (by decide) rfl ?_
    intro p e s m args below meth c s₁ B hml hv
    obtain ⟨rfl, hsz, hP, hK, hD0, hN⟩ := hv
    have hx := B.exec
    have hb := B.bytes
    have hr := B.returns
    have hts := atoms_spec (ws := Ws yX10_lengthOf cX10_lengthOf 1 (some .int)) B.pre
    have hT : ∀ w ∈ WALL, w ∈ Ws yX10_lengthOf cX10_lengthOf 1 (some .int) := fun w h => List.mem_cons_of_mem _ h
    have hw := fun w (h : w ∈ WALL) => hts w (hT w h)
    have hown : s.vm.findClass RX10 = some m.cls := findClass_of_methodNamed B.named
    have hlocks := B.notSynchronized
    subst hsz
    have hD := hD0.self (sz := s.heap.size)
    generalize hAe : va_A (wp [] (PL nr ra rf nl la lf ns sa sf)) s.heap.size = A at hD ⊢
    have hA : ∀ q : Nat, s.heap.size ≤ q → A q := fun q h => by rw [← hAe]; exact Or.inr h
    have hS : va_S A s.heap s.heap [] := va_S.rf
    have hl := lv_entry ([.null]) (n := 1) (Nat.le_of_ble_eq_true rfl)
    rw [lg_entry_eq]
    generalize (lg_sl ([.null]) ++ List.replicate (1 - (lg_sl ([.null])).length) Slot.unset).toArray = ls at hl ⊢
    have hl : lv_has ls 1 [(0, .null)] := hl
    refine lv_aload_nN hx hb dX10_lengthOf_0 rfl (lv_at hl 0 rfl) ?_
    refine lv_ifnonnullN hx hb dX10_lengthOf_1 ?_
    refine lv_iconst (v := 0) hx hb dX10_lengthOf_4 (by decide) ?_
    refine lv_goto (tgt := 12) hx hb dX10_lengthOf_5 (by decide) ?_
    refine W.widen (k := 0) (n := 0) (Nat.le_of_ble_eq_true rfl) (Nat.le_of_ble_eq_true rfl) ?_
    have cst0 : (0 : Int32).toInt = 0 := by decide
    have w1 : ∀ xs : List LKT, LKR la lf k (none : Option Nat) xs → ((0 : Int32)).toInt = (xs.length : Int) := (fun xs9 h9 => by have h8 := lkr_len0 h9; have h7 : (0 : Int32).toInt = 0 := (by decide); omega)
    exact W.iret (v := 0) hx hb hr (fun t ht hW => ⟨⟨0, (), rfl, w1, by rw [ht]; exact hP, hD⟩, hS.F ht⟩) hS.2.2 dX10_lengthOf_12
  · show Met l yX10_lengthOf (Ws yX10_lengthOf cX10_lengthOf 1 (some .int)) (({ frames := 0, cells := 0, slots := 0, locals := 0 } : Room)) (PRE (dC, dI) cls [] (wp [] (PL nr ra rf nl la lf ns sa sf)) sz [.ref b1]) (va_Qi (fun (r : Int32) (_ : Unit) => (∀ xs : List LKT, LKR la lf k (some b1) xs → (r).toInt = (xs.length : Int))) (fun (_ : Unit) (t : State) => va_P (dC, dI) cls (wp [] (PL nr ra rf nl la lf ns sa sf)) t.heap ∧ va_D (va_A (wp [] (PL nr ra rf nl la lf ns sa sf)) sz) (wp [] (PL nr ra rf nl la lf ns sa sf))) (va_A (wp [] (PL nr ra rf nl la lf ns sa sf)) sz)) (0) (0) (va_A (wp [] (PL nr ra rf nl la lf ns sa sf)) sz)
    refine Met.ofW (cc := cX10_lengthOf) (maxL := 1) (ret := (some .int)) (by decide) rfl ?_
    intro p e s m args below meth c s₁ B hml hv
    obtain ⟨rfl, hsz, hP, hK, hD0, hN⟩ := hv
    have hx := B.exec
    have hb := B.bytes
    have hr := B.returns
    have hts := atoms_spec (ws := Ws yX10_lengthOf cX10_lengthOf 1 (some .int)) B.pre
    have hT : ∀ w ∈ WALL, w ∈ Ws yX10_lengthOf cX10_lengthOf 1 (some .int) := fun w h => List.mem_cons_of_mem _ h
    have hw := fun w (h : w ∈ WALL) => hts w (hT w h)
    have hown : s.vm.findClass RX10 = some m.cls := findClass_of_methodNamed B.named
    have hlocks := B.notSynchronized
    subst hsz
    have hD := hD0.self (sz := s.heap.size)
    generalize hAe : va_A (wp [] (PL nr ra rf nl la lf ns sa sf)) s.heap.size = A at hD ⊢
    have hA : ∀ q : Nat, s.heap.size ≤ q → A q := fun q h => by rw [← hAe]; exact Or.inr h
    have hS : va_S A s.heap s.heap [] := va_S.rf
    have hl := lv_entry ([.ref b1]) (n := 1) (Nat.le_of_ble_eq_true rfl)
    rw [lg_entry_eq]
    generalize (lg_sl ([.ref b1]) ++ List.replicate (1 - (lg_sl ([.ref b1])).length) Slot.unset).toArray = ls at hl ⊢
    have hl : lv_has ls 1 [(0, .ref b1)] := hl
    obtain ⟨q9, hq9, e9⟩ := Or.resolve_left hn_pb (by simp)
    have eb9 : la q9 = b1 := (Option.some.inj e9).symm
    refine lv_aload_n hx hb dX10_lengthOf_0 rfl (lv_at hl 0 rfl) ?_
    refine lv_ifnonnull (tgt := 8) hx hb dX10_lengthOf_1 (by decide) ?_
    refine lv_aload_n hx hb dX10_lengthOf_8 rfl (lv_at hl 0 rfl) ?_
    refine va_getN (D := (dC, dI)) (ci := 10) (v := .int (lf q9).2.2.1) (C := RX2) (T := TX2) (N := 4) (host := "OppositePairs") hx hb hw iwX2 hown hK hP (0 + (nr + q9)) (by rw [← eb9]; exact (pl_L (X := []) (by omega))) rfl 2 (by decide) (hN.use n_f_X10_280 rfl) (fun _ h9 => h9) rfl dX10_lengthOf_9 ?_
    refine lv_topi (fun z2 ez2 => ?_)
    have vz2 : (z2).toInt = ((lf q9).2.2.1).toInt := by rw [ez2]
    refine W.widen (k := 0) (n := 0) (Nat.le_of_ble_eq_true rfl) (Nat.le_of_ble_eq_true rfl) ?_
    have w3 : ∀ xs : List LKT, LKR la lf k (some b1) xs → ((z2 : Int32)).toInt = (xs.length : Int) := (fun xs9 h9 => by have h8 := lkr_len1 h9 (show some b1 = some (la q9) by rw [eb9]) hq9 (fun i9 j9 h8 h9 e9 => wp_injL hD i9 j9 (by omega) (by omega) e9); omega)
    exact W.iret (v := z2) hx hb hr (fun t ht hW => ⟨⟨z2, (), rfl, w3, by rw [ht]; exact hP, hD⟩, hS.F ht⟩) hS.2.2 dX10_lengthOf_12

set_option maxHeartbeats 8000000 in
set_option maxRecDepth 100000 in
theorem c_X4_newLink (l : Launch) (dC : Nat → ClassId) (dI : Nat → Nat → Nat) (sz : Nat) (h_pv : Nat) (h_lks : Nat) (nr : Nat) (ra : Nat → Nat) (rf : Nat → RT) (nl : Nat) (la : Nat → Nat) (lf : Nat → LT) (ns : Nat) (sa : Nat → Nat) (sf : Nat → ST) (v_pv : Nat → Value) (x_pv_linkCount : Int32) (cy_lks : ClassId) (f_lks : Nat → Option Nat) (p1 : Int32) (p2 : Int32) (p3 : Option Nat) (hx_pv_linkCount : 0 ≤ (x_pv_linkCount).toInt ∧ (x_pv_linkCount).toInt ≤ 210) (q0 : 0 ≤ (p1).toInt ∧ (p1).toInt ≤ 29) (q1 : 0 ≤ (p2).toInt ∧ (p2).toInt ≤ 5) (q2 : (x_pv_linkCount).toInt ≤ 209) (q3 : (x_pv_linkCount).toInt ≤ nl) (hn_pk : PFX nl 210 f_lks la) (hn_lok : LOK nl la lf) (hn_pb : PB la (x_pv_linkCount).toInt p3) (hn_lkx : ∃ xs : List LKT, LKR la lf (x_pv_linkCount).toInt p3 xs) : Met l yX4_newLink (Ws yX4_newLink cX4_newLink 6 (some (.object "OppositePairs$Link"))) (({ frames := 2, cells := ((x_pv_linkCount).toInt.toNat + 1 - nl), slots := 4 * ((x_pv_linkCount).toInt.toNat + 1 - nl), locals := 100 } : Room)) (PRE (dC, dI) cls [(cy_lks, .object "OppositePairs$Link")] (wp [(h_pv, .inr (3, (mo176 v_pv (.ref h_lks) (.int x_pv_linkCount)))), (h_lks, .inl (cy_lks, 210, .inr (.inr (.inr (.inr f_lks)))))] (PL nr ra rf nl la lf ns sa sf)) sz [.ref h_pv, .int p1, .int p2, va_rf p3]) (va_Qq (fun (r : Option Nat) (u : (Int32) × (Nat → Option Nat) × (Nat) × (Nat → Nat) × (Nat → LT)) => (0 ≤ (u.1).toInt ∧ (u.1).toInt ≤ 210) ∧ ((u.1).toInt = (x_pv_linkCount).toInt + 1) ∧ (nl ≤ u.2.2.1 ∧ (x_pv_linkCount).toInt + 1 ≤ u.2.2.1) ∧ (GR2 nl u.2.2.1 (u.1).toInt) ∧ (PFX u.2.2.1 210 u.2.1 u.2.2.2.1) ∧ (LOK u.2.2.1 u.2.2.2.1 u.2.2.2.2) ∧ (∀ i : Nat, i < nl → u.2.2.2.1 i = la i) ∧ (∀ i : Nat, i ≠ (x_pv_linkCount).toInt.toNat → u.2.2.2.2 i = lf i) ∧ (r = some (u.2.2.2.1 (x_pv_linkCount).toInt.toNat)) ∧ (∀ xs : List LKT, LKR la lf (x_pv_linkCount).toInt p3 xs → (u.2.2.2.2 (x_pv_linkCount).toInt.toNat).2.2.1.toInt = (xs.length : Int) + 1) ∧ ((u.2.2.2.2 (x_pv_linkCount).toInt.toNat).1 = p1 ∧ (u.2.2.2.2 (x_pv_linkCount).toInt.toNat).2.1 = p2 ∧ (u.2.2.2.2 (x_pv_linkCount).toInt.toNat).2.2.2 = p3)) (fun (u : (Int32) × (Nat → Option Nat) × (Nat) × (Nat → Nat) × (Nat → LT)) (t : State) => va_P (dC, dI) cls (wp [(h_pv, .inr (3, (mo176 v_pv (.ref h_lks) (.int u.1)))), (h_lks, .inl (cy_lks, 210, .inr (.inr (.inr (.inr u.2.1)))))] (PL nr ra rf u.2.2.1 u.2.2.2.1 u.2.2.2.2 ns sa sf)) t.heap ∧ va_D (va_A (wp [(h_pv, .inr (3, (mo176 v_pv (.ref h_lks) (.int x_pv_linkCount)))), (h_lks, .inl (cy_lks, 210, .inr (.inr (.inr (.inr f_lks)))))] (PL nr ra rf nl la lf ns sa sf)) sz) (wp [(h_pv, .inr (3, (mo176 v_pv (.ref h_lks) (.int u.1)))), (h_lks, .inl (cy_lks, 210, .inr (.inr (.inr (.inr u.2.1)))))] (PL nr ra rf u.2.2.1 u.2.2.2.1 u.2.2.2.2 ns sa sf))) (va_A (wp [(h_pv, .inr (3, (mo176 v_pv (.ref h_lks) (.int x_pv_linkCount)))), (h_lks, .inl (cy_lks, 210, .inr (.inr (.inr (.inr f_lks)))))] (PL nr ra rf nl la lf ns sa sf)) sz)) (((x_pv_linkCount).toInt.toNat + 1 - nl)) (4 * ((x_pv_linkCount).toInt.toNat + 1 - nl)) (va_A (wp [(h_pv, .inr (3, (mo176 v_pv (.ref h_lks) (.int x_pv_linkCount)))), (h_lks, .inl (cy_lks, 210, .inr (.inr (.inr (.inr f_lks)))))] (PL nr ra rf nl la lf ns sa sf)) sz) := by
  rcases p3 with _ | b1
  · show Met l yX4_newLink (Ws yX4_newLink cX4_newLink 6 (some (.object "OppositePairs$Link"))) (({ frames := 2, cells := ((x_pv_linkCount).toInt.toNat + 1 - nl), slots := 4 * ((x_pv_linkCount).toInt.toNat + 1 - nl), locals := 100 } : Room)) (PRE (dC, dI) cls [(cy_lks, .object "OppositePairs$Link")] (wp [(h_pv, .inr (3, (mo176 v_pv (.ref h_lks) (.int x_pv_linkCount)))), (h_lks, .inl (cy_lks, 210, .inr (.inr (.inr (.inr f_lks)))))] (PL nr ra rf nl la lf ns sa sf)) sz [.ref h_pv, .int p1, .int p2, .null]) (va_Qq (fun (r : Option Nat) (u : (Int32) × (Nat → Option Nat) × (Nat) × (Nat → Nat) × (Nat → LT)) => (0 ≤ (u.1).toInt ∧ (u.1).toInt ≤ 210) ∧ ((u.1).toInt = (x_pv_linkCount).toInt + 1) ∧ (nl ≤ u.2.2.1 ∧ (x_pv_linkCount).toInt + 1 ≤ u.2.2.1) ∧ (GR2 nl u.2.2.1 (u.1).toInt) ∧ (PFX u.2.2.1 210 u.2.1 u.2.2.2.1) ∧ (LOK u.2.2.1 u.2.2.2.1 u.2.2.2.2) ∧ (∀ i : Nat, i < nl → u.2.2.2.1 i = la i) ∧ (∀ i : Nat, i ≠ (x_pv_linkCount).toInt.toNat → u.2.2.2.2 i = lf i) ∧ (r = some (u.2.2.2.1 (x_pv_linkCount).toInt.toNat)) ∧ (∀ xs : List LKT, LKR la lf (x_pv_linkCount).toInt (none : Option Nat) xs → (u.2.2.2.2 (x_pv_linkCount).toInt.toNat).2.2.1.toInt = (xs.length : Int) + 1) ∧ ((u.2.2.2.2 (x_pv_linkCount).toInt.toNat).1 = p1 ∧ (u.2.2.2.2 (x_pv_linkCount).toInt.toNat).2.1 = p2 ∧ (u.2.2.2.2 (x_pv_linkCount).toInt.toNat).2.2.2 = (none : Option Nat))) (fun (u : (Int32) × (Nat → Option Nat) × (Nat) × (Nat → Nat) × (Nat → LT)) (t : State) => va_P (dC, dI) cls (wp [(h_pv, .inr (3, (mo176 v_pv (.ref h_lks) (.int u.1)))), (h_lks, .inl (cy_lks, 210, .inr (.inr (.inr (.inr u.2.1)))))] (PL nr ra rf u.2.2.1 u.2.2.2.1 u.2.2.2.2 ns sa sf)) t.heap ∧ va_D (va_A (wp [(h_pv, .inr (3, (mo176 v_pv (.ref h_lks) (.int x_pv_linkCount)))), (h_lks, .inl (cy_lks, 210, .inr (.inr (.inr (.inr f_lks)))))] (PL nr ra rf nl la lf ns sa sf)) sz) (wp [(h_pv, .inr (3, (mo176 v_pv (.ref h_lks) (.int u.1)))), (h_lks, .inl (cy_lks, 210, .inr (.inr (.inr (.inr u.2.1)))))] (PL nr ra rf u.2.2.1 u.2.2.2.1 u.2.2.2.2 ns sa sf))) (va_A (wp [(h_pv, .inr (3, (mo176 v_pv (.ref h_lks) (.int x_pv_linkCount)))), (h_lks, .inl (cy_lks, 210, .inr (.inr (.inr (.inr f_lks)))))] (PL nr ra rf nl la lf ns sa sf)) sz)) (((x_pv_linkCount).toInt.toNat + 1 - nl)) (4 * ((x_pv_linkCount).toInt.toNat + 1 - nl)) (va_A (wp [(h_pv, .inr (3, (mo176 v_pv (.ref h_lks) (.int x_pv_linkCount)))), (h_lks, .inl (cy_lks, 210, .inr (.inr (.inr (.inr f_lks)))))] (PL nr ra rf nl la lf ns sa sf)) sz)
    refine Met.ofW (cc := cX4_newLink) (maxL := 6) (ret := (some (.object "OppositePairs$Link"))) (by decide) rfl ?_
    intro p e s m args below meth c s₁ B hml hv
    obtain ⟨rfl, hsz, hP, hK, hD0, hN⟩ := hv
    have hx := B.exec
    have hb := B.bytes
    have hr := B.returns
    have hts := atoms_spec (ws := Ws yX4_newLink cX4_newLink 6 (some (.object "OppositePairs$Link"))) B.pre
    have hT : ∀ w ∈ WALL, w ∈ Ws yX4_newLink cX4_newLink 6 (some (.object "OppositePairs$Link")) := fun w h => List.mem_cons_of_mem _ h
    have hw := fun w (h : w ∈ WALL) => hts w (hT w h)
    have hown : s.vm.findClass RX4 = some m.cls := findClass_of_methodNamed B.named
    have hlocks := B.notSynchronized
    subst hsz
    have hD := hD0.self (sz := s.heap.size)
    generalize hAe : va_A (wp [(h_pv, .inr (3, (mo176 v_pv (.ref h_lks) (.int x_pv_linkCount)))), (h_lks, .inl (cy_lks, 210, .inr (.inr (.inr (.inr f_lks)))))] (PL nr ra rf nl la lf ns sa sf)) s.heap.size = A at hD ⊢
    have hA : ∀ q : Nat, s.heap.size ≤ q → A q := fun q h => by rw [← hAe]; exact Or.inr h
    have hS : va_S A s.heap s.heap [] := va_S.rf
    have hl := lv_entry ([.ref h_pv, .int p1, .int p2, .null]) (n := 6) (Nat.le_of_ble_eq_true rfl)
    rw [lg_entry_eq]
    generalize (lg_sl ([.ref h_pv, .int p1, .int p2, .null]) ++ List.replicate (6 - (lg_sl ([.ref h_pv, .int p1, .int p2, .null])).length) Slot.unset).toArray = ls at hl ⊢
    have hl : lv_has ls 6 [(0, .ref h_pv), (1, .int p1), (2, .int p2), (3, .null)] := hl
    have ag0 : ∀ i : Nat, i < nl → la i = la i := fun _ _ => rfl
    have af0 : ∀ i : Nat, i ≠ (x_pv_linkCount).toInt.toNat → lf i = lf i := fun _ _ => rfl
    refine lv_aload_n hx hb dX4_newLink_0 rfl (lv_at hl 0 rfl) ?_
    refine va_get (D := (dC, dI)) (ci := 3) (v := .int x_pv_linkCount) (C := RX4) (T := TX4) (N := 18) hx hb hw iwX4 hown hK hP 0 rfl rfl 5 (by decide) (hw _ w_f_X4_104) (fun _ h9 => h9) rfl dX4_newLink_1 ?_
    refine lv_sipush (v := 209) hx hb dX4_newLink_4 (by decide) ?_
    refine va_mmin hx hb (hml.trans hl.1.symm) hown (hw _ w_m_X4_274) (hw _ w_mst_min) (hw _ w_ini_Math) (hw _ w_mcd_min) (Nat.le_of_ble_eq_true rfl) (Nat.le_of_ble_eq_true rfl) (Nat.le_of_ble_eq_true rfl) (Nat.le_of_ble_eq_true rfl) dX4_newLink_7 ?_
    refine lv_topi (fun z1 ez1 => ?_)
    have tz1 := i_min (x := x_pv_linkCount) (y := 209) (rfl : (x_pv_linkCount).toInt = (x_pv_linkCount).toInt) (by decide : (209 : Int32).toInt = 209)
    rw [← ez1] at tz1
    refine lv_istore (lv' := [(4, .int z1), (0, .ref h_pv), (1, .int p1), (2, .int p2), (3, .null)]) hx hb dX4_newLink_10 hl (by decide) rfl (fun ls hl => ?_)
    refine lv_aload_n hx hb dX4_newLink_12 rfl (lv_at hl 1 rfl) ?_
    refine va_get (D := (dC, dI)) (ci := 3) (v := .ref h_lks) (C := RX4) (T := TX4) (N := 18) hx hb hw iwX4 hown hK hP 0 rfl rfl 4 (by decide) (hw _ w_f_X4_19) (fun _ h9 => h9) rfl dX4_newLink_13 ?_
    refine lv_iload hx hb dX4_newLink_16 (lv_at hl 0 rfl) ?_
    refine va_aldq hx hb hK hP 1 0 rfl rfl (i := z1) (vp_in_iff.mpr (by omega)) dX4_newLink_18 ?_
    obtain ⟨o2, eo2⟩ : ∃ o, o = f_lks (Int32.toNatClampNeg z1) := ⟨_, rfl⟩
    rw [← eo2]
    rcases o2 with _ | b3
    · have hl : lv_has ls 6 [(4, .int z1), (0, .ref h_pv), (1, .int p1), (2, .int p2), (3, .null)] := hl
      show W p l e _ s m _ below meth c _ _ _ _ _ (F0 m 19 ls [.null])
      have nq9 := pfx_none (k := z1) hn_pk (by omega) eo2
      refine lv_ifnonnullN hx hb dX4_newLink_19 ?_
      refine lv_aload_n hx hb dX4_newLink_22 rfl (lv_at hl 1 rfl) ?_
      refine va_get (D := (dC, dI)) (ci := 3) (v := .ref h_lks) (C := RX4) (T := TX4) (N := 18) hx hb hw iwX4 hown hK hP 0 rfl rfl 4 (by decide) (hw _ w_f_X4_19) (fun _ h9 => h9) rfl dX4_newLink_23 ?_
      refine lv_iload hx hb dX4_newLink_26 (lv_at hl 0 rfl) ?_
      refine va_new (ci := 10) (C := RX2) (T := TX2) (N := 4) (fs := [.int 0, .int 0, .int 0, .null]) hx hb hw iwX2 tyX2 tyX2_ok hown (hw _ w_cl_X4_17) (hw _ w_inst_X2) (hw _ w_ini_X2) hK hP hD hS hA rfl dfX2 (by dsimp only [headSpec]; omega) (by dsimp only [headSpec]; omega) dX4_newLink_28 (fun a4 H hP hD hS => ?_)
      have hP : va_P (dC, dI) cls (wp [(h_pv, .inr (3, (mo176 v_pv (.ref h_lks) (.int x_pv_linkCount)))), (h_lks, .inl (cy_lks, 210, .inr (.inr (.inr (.inr f_lks)))))] (PL nr ra rf (nl + 1) (va_up la nl a4) (va_up lf nl ((0 : Int32), (0 : Int32), (0 : Int32), none)) ns sa sf)) H := va_P_perm (pl_pushL (t := ((0 : Int32), (0 : Int32), (0 : Int32), none))) hP
      have hD : va_D A (wp [(h_pv, .inr (3, (mo176 v_pv (.ref h_lks) (.int x_pv_linkCount)))), (h_lks, .inl (cy_lks, 210, .inr (.inr (.inr (.inr f_lks)))))] (PL nr ra rf (nl + 1) (va_up la nl a4) (va_up lf nl ((0 : Int32), (0 : Int32), (0 : Int32), none)) ns sa sf)) := va_D_perm (pl_pushL (t := ((0 : Int32), (0 : Int32), (0 : Int32), none))) hD
      obtain ⟨nl5, enl5⟩ : ∃ g, g = (nl + 1) := ⟨_, rfl⟩
      obtain ⟨la6, ela6⟩ : ∃ g, g = (va_up la nl a4) := ⟨_, rfl⟩
      obtain ⟨lf7, elf7⟩ : ∃ g, g = (va_up lf nl ((0 : Int32), (0 : Int32), (0 : Int32), none)) := ⟨_, rfl⟩
      have hP : va_P (dC, dI) cls (wp [(h_pv, .inr (3, (mo176 v_pv (.ref h_lks) (.int x_pv_linkCount)))), (h_lks, .inl (cy_lks, 210, .inr (.inr (.inr (.inr f_lks)))))] (PL nr ra rf nl5 la6 lf7 ns sa sf)) H := by rw [enl5, ela6, elf7]; exact hP
      have hD : va_D A (wp [(h_pv, .inr (3, (mo176 v_pv (.ref h_lks) (.int x_pv_linkCount)))), (h_lks, .inl (cy_lks, 210, .inr (.inr (.inr (.inr f_lks)))))] (PL nr ra rf nl5 la6 lf7 ns sa sf)) := by rw [enl5, ela6, elf7]; exact hD
      have ea9 : la6 nl = a4 := by rw [ela6]; exact up_self _ _ _
      refine lv_dup hx hb dX4_newLink_31 rfl ?_
      have hPc := wp_P (cx := []) hP [] rfl
      have hDc := wp_D (cx := []) hD [] (by decide) rfl
      have hKc := hK.sub (tys' := []) [] rfl
      have hFc := wp_free (cx := []) hD hS hA [] rfl
      refine va_callv (va_runIN (As := []) (rest := [.ref a4, .int z1, .ref h_lks]) ⟨hx, hb, hml, hown, hts⟩ (c_X2_init l dC dI H.size a4) ⟨va_cnB (host := "OppositePairs") 0 hts (gd hT w_code_X2_init) rfl rfl rfl (hN _ n_m_X4_278) (hw _ w_ini_X2) (by decide +kernel) ⟨(by dsimp only [headSpec]; omega), (by dsimp only [headSpec]; omega)⟩, rfl, hw _ w_instanceMethod_X2_init⟩ ⟨pre_blind, pre_of hPc hKc hDc hN⟩ rfl rfl hl.1 rfl (lv_room (Nat.le_of_ble_eq_true rfl)) dX4_newLink_32 ⟨(by dsimp only [headSpec]; omega), (by dsimp only [headSpec]; omega)⟩) hS (fun q _ h => hFc q h) hFc (fun u t H locs ht hvm hq hB hz1 hk1 hS9 => ?_)
      obtain ⟨hP1, hD1⟩ := hB
      rw [ht] at hP1
      obtain ⟨hP9, hD9⟩ := va_joinQ (wr := [(h_pv, .inr (3, (mo176 v_pv (.ref h_lks) (.int x_pv_linkCount)))), (h_lks, .inl (cy_lks, 210, .inr (.inr (.inr (.inr f_lks)))))]) (w1 := []) (cx := []) hP hD [] [0, 1] rfl rfl (by decide) (by decide) hk1 hFc hP1 hD1
      clear hP hD hS hPc hDc hKc hFc hP1 hD1 hk1 hz1 ht hvm
      have hP : va_P (dC, dI) cls (wp [(h_pv, .inr (3, (mo176 v_pv (.ref h_lks) (.int x_pv_linkCount)))), (h_lks, .inl (cy_lks, 210, .inr (.inr (.inr (.inr f_lks)))))] (PL nr ra rf nl5 la6 lf7 ns sa sf)) H := hP9
      have hD : va_D A (wp [(h_pv, .inr (3, (mo176 v_pv (.ref h_lks) (.int x_pv_linkCount)))), (h_lks, .inl (cy_lks, 210, .inr (.inr (.inr (.inr f_lks)))))] (PL nr ra rf nl5 la6 lf7 ns sa sf)) := hD9
      have hS := hS9
      clear hP9 hD9 hS9
      refine va_astq hx hb hK hP hD hS 1 0 (2 + (nr + nl)) 10 rfl rfl (by rw [← ea9]; exact (pl_L (X := [(h_pv, .inr (3, (mo176 v_pv (.ref h_lks) (.int x_pv_linkCount)))), (h_lks, .inl (cy_lks, 210, .inr (.inr (.inr (.inr f_lks)))))]) (by omega))) rfl (i := z1) (vp_in_iff.mpr (by omega)) dX4_newLink_35 (fun H locs hP hD hS => ?_)
      obtain ⟨f9, ef9⟩ : ∃ g : Nat → Option Nat, g = va_up f_lks (Int32.toNatClampNeg z1) (some a4) := ⟨_, rfl⟩
      have hP : va_P (dC, dI) cls (wp [(h_pv, .inr (3, (mo176 v_pv (.ref h_lks) (.int x_pv_linkCount)))), (h_lks, .inl (cy_lks, 210, .inr (.inr (.inr (.inr f9)))))] (PL nr ra rf nl5 la6 lf7 ns sa sf)) H := by rw [ef9]; exact hP
      have hD : va_D A (wp [(h_pv, .inr (3, (mo176 v_pv (.ref h_lks) (.int x_pv_linkCount)))), (h_lks, .inl (cy_lks, 210, .inr (.inr (.inr (.inr f9)))))] (PL nr ra rf nl5 la6 lf7 ns sa sf)) := by rw [ef9]; exact hD
      have pk9 : PFX nl5 210 f9 la6 := by rw [enl5, ef9, ela6]; exact pfx_push hn_pk (by omega) (by omega)
      have lk9 : LOK nl5 la6 lf7 := by rw [enl5, ela6, elf7]; exact lok_push hn_lok
      have ag9 : ∀ i : Nat, i < nl → la6 i = la i := fun i hi => by rw [ela6]; exact up_ne (by omega)
      have af9 : ∀ i : Nat, i ≠ (x_pv_linkCount).toInt.toNat → lf7 i = lf i := fun i hi => by rw [elf7]; exact up_ne (by omega)
      refine lv_aload_n hx hb dX4_newLink_36 rfl (lv_at hl 1 rfl) ?_
      refine lv_iload hx hb dX4_newLink_37 (lv_at hl 0 rfl) ?_
      refine lv_iconst (v := 1) hx hb dX4_newLink_39 (by decide) ?_
      refine lv_iadd hx hb dX4_newLink_40 ?_
      refine lv_topi (fun z10 ez10 => ?_)
      have tz10 : (z10).toInt = (z1).toInt + 1 := by rw [ez10]; exact i_add rfl (by decide) (by omega)
      refine va_put (D := (dC, dI)) (ci := 3) (v := .int z10) (ty := tyX4 5) (C := RX4) (T := TX4) (N := 18) hx hb hw iwX4 tyX4 tyX4_ok nmX4 hown hK hP hD hS 0 rfl rfl 5 (by decide) (hw _ w_f_X4_104) (fun _ h9 => h9) rfl (tyX4_ok 5 (by decide)) rfl rfl (Nat.le_of_ble_eq_true rfl) dX4_newLink_41 (fun H locs hP9 hD9 hS9 => ?_)
      clear hP hD hS
      have hP : va_P (dC, dI) cls (wp [(h_pv, .inr (3, (mo176 v_pv (.ref h_lks) (.int z10)))), (h_lks, .inl (cy_lks, 210, .inr (.inr (.inr (.inr f9)))))] (PL nr ra rf nl5 la6 lf7 ns sa sf)) H := hP9
      have hD : va_D A (wp [(h_pv, .inr (3, (mo176 v_pv (.ref h_lks) (.int z10)))), (h_lks, .inl (cy_lks, 210, .inr (.inr (.inr (.inr f9)))))] (PL nr ra rf nl5 la6 lf7 ns sa sf)) := hD9
      have hS := hS9
      clear hP9 hD9 hS9
      refine lv_aload_n hx hb dX4_newLink_44 rfl (lv_at hl 1 rfl) ?_
      refine va_get (D := (dC, dI)) (ci := 3) (v := .ref h_lks) (C := RX4) (T := TX4) (N := 18) hx hb hw iwX4 hown hK hP 0 rfl rfl 4 (by decide) (hw _ w_f_X4_19) (fun _ h9 => h9) rfl dX4_newLink_45 ?_
      refine lv_iload hx hb dX4_newLink_48 (lv_at hl 0 rfl) ?_
      refine va_aldq hx hb hK hP 1 0 rfl rfl (i := z1) (vp_in_iff.mpr (by omega)) dX4_newLink_50 ?_
      obtain ⟨o11, eo11⟩ : ∃ o, o = f9 (Int32.toNatClampNeg z1) := ⟨_, rfl⟩
      rw [← eo11]
      have oq9 := pfx_at (k := z1) (i := (x_pv_linkCount).toInt.toNat) pk9 eo11 (by omega) (by omega)
      subst oq9
      show W p l e _ s m _ below meth c _ _ _ _ _ (F0 m 51 ls [.ref (la6 (x_pv_linkCount).toInt.toNat)])
      refine lv_astore (lv' := [(5, .ref (la6 (x_pv_linkCount).toInt.toNat)), (4, .int z1), (0, .ref h_pv), (1, .int p1), (2, .int p2), (3, .null)]) hx hb dX4_newLink_51 hl (by decide) rfl (fun ls hl => ?_)
      refine lv_aload hx hb dX4_newLink_53 (lv_at hl 0 rfl) ?_
      refine lv_iload_n hx hb dX4_newLink_55 rfl (lv_at hl 3 rfl) ?_
      refine va_putN (D := (dC, dI)) (ci := 10) (v := .int p1) (ty := tyX2 0) (C := RX2) (T := TX2) (N := 4) (host := "OppositePairs") hx hb hw iwX2 tyX2 tyX2_ok nmX2 hown hK hP hD hS (2 + (nr + (x_pv_linkCount).toInt.toNat)) (pl_L (X := [(h_pv, .inr (3, (mo176 v_pv (.ref h_lks) (.int z10)))), (h_lks, .inl (cy_lks, 210, .inr (.inr (.inr (.inr f9)))))]) (by omega)) rfl 0 (by decide) (hN.use n_f_X4_174 rfl) (fun _ h9 => h9) rfl (tyX2_ok 0 (by decide)) rfl rfl (Nat.le_of_ble_eq_true rfl) dX4_newLink_56 (fun H locs hP hD hS => ?_)
      have hP : va_P (dC, dI) cls (wp [(h_pv, .inr (3, (mo176 v_pv (.ref h_lks) (.int z10)))), (h_lks, .inl (cy_lks, 210, .inr (.inr (.inr (.inr f9)))))] (PL nr ra rf nl5 la6 (va_up lf7 (x_pv_linkCount).toInt.toNat (p1, (lf7 (x_pv_linkCount).toInt.toNat).2.1, (lf7 (x_pv_linkCount).toInt.toNat).2.2.1, (lf7 (x_pv_linkCount).toInt.toNat).2.2.2)) ns sa sf)) H := by rw [← pl_setL (i := (x_pv_linkCount).toInt.toNat) (by omega)]; exact hP
      have hD : va_D A (wp [(h_pv, .inr (3, (mo176 v_pv (.ref h_lks) (.int z10)))), (h_lks, .inl (cy_lks, 210, .inr (.inr (.inr (.inr f9)))))] (PL nr ra rf nl5 la6 (va_up lf7 (x_pv_linkCount).toInt.toNat (p1, (lf7 (x_pv_linkCount).toInt.toNat).2.1, (lf7 (x_pv_linkCount).toInt.toNat).2.2.1, (lf7 (x_pv_linkCount).toInt.toNat).2.2.2)) ns sa sf)) := by rw [← pl_setL (i := (x_pv_linkCount).toInt.toNat) (by omega)]; exact hD
      refine lv_aload hx hb dX4_newLink_59 (lv_at hl 0 rfl) ?_
      refine lv_iload_n hx hb dX4_newLink_61 rfl (lv_at hl 4 rfl) ?_
      refine va_putN (D := (dC, dI)) (ci := 10) (v := .int p2) (ty := tyX2 1) (C := RX2) (T := TX2) (N := 4) (host := "OppositePairs") hx hb hw iwX2 tyX2 tyX2_ok nmX2 hown hK hP hD hS (2 + (nr + (x_pv_linkCount).toInt.toNat)) (pl_L2 (X := [(h_pv, .inr (3, (mo176 v_pv (.ref h_lks) (.int z10)))), (h_lks, .inl (cy_lks, 210, .inr (.inr (.inr (.inr f9)))))]) (by omega)) rfl 1 (by decide) (hN.use n_f_X4_175 rfl) (fun _ h9 => h9) rfl (tyX2_ok 1 (by decide)) rfl rfl (Nat.le_of_ble_eq_true rfl) dX4_newLink_62 (fun H locs hP hD hS => ?_)
      have hP : va_P (dC, dI) cls (wp [(h_pv, .inr (3, (mo176 v_pv (.ref h_lks) (.int z10)))), (h_lks, .inl (cy_lks, 210, .inr (.inr (.inr (.inr f9)))))] (PL nr ra rf nl5 la6 (va_up lf7 (x_pv_linkCount).toInt.toNat (p1, p2, (lf7 (x_pv_linkCount).toInt.toNat).2.2.1, (lf7 (x_pv_linkCount).toInt.toNat).2.2.2)) ns sa sf)) H := by rw [← pl_setL2 (i := (x_pv_linkCount).toInt.toNat) (by omega)]; exact hP
      have hD : va_D A (wp [(h_pv, .inr (3, (mo176 v_pv (.ref h_lks) (.int z10)))), (h_lks, .inl (cy_lks, 210, .inr (.inr (.inr (.inr f9)))))] (PL nr ra rf nl5 la6 (va_up lf7 (x_pv_linkCount).toInt.toNat (p1, p2, (lf7 (x_pv_linkCount).toInt.toNat).2.2.1, (lf7 (x_pv_linkCount).toInt.toNat).2.2.2)) ns sa sf)) := by rw [← pl_setL2 (i := (x_pv_linkCount).toInt.toNat) (by omega)]; exact hD
      refine lv_aload hx hb dX4_newLink_65 (lv_at hl 0 rfl) ?_
      refine lv_aload_nN hx hb dX4_newLink_67 rfl (lv_at hl 5 rfl) ?_
      show W p l e _ s m _ below meth c _ _ _ _ _ (F0 m 68 _ (va_rf none :: _))
      refine va_putN (D := (dC, dI)) (ci := 10) (v := (va_rf none)) (ty := tyX2 3) (C := RX2) (T := TX2) (N := 4) (host := "OppositePairs") hx hb hw iwX2 tyX2 tyX2_ok nmX2 hown hK hP hD hS (2 + (nr + (x_pv_linkCount).toInt.toNat)) (pl_L2 (X := [(h_pv, .inr (3, (mo176 v_pv (.ref h_lks) (.int z10)))), (h_lks, .inl (cy_lks, 210, .inr (.inr (.inr (.inr f9)))))]) (by omega)) rfl 3 (by decide) (hN.use n_f_X4_181 rfl) (fun _ h9 => h9) rfl (tyX2_ok 3 (by decide)) (rf_nar none _) (rf_fit none _) (Nat.le_of_ble_eq_true rfl) dX4_newLink_68 (fun H locs hP hD hS => ?_)
      have hP : va_P (dC, dI) cls (wp [(h_pv, .inr (3, (mo176 v_pv (.ref h_lks) (.int z10)))), (h_lks, .inl (cy_lks, 210, .inr (.inr (.inr (.inr f9)))))] (PL nr ra rf nl5 la6 (va_up lf7 (x_pv_linkCount).toInt.toNat (p1, p2, (lf7 (x_pv_linkCount).toInt.toNat).2.2.1, none)) ns sa sf)) H := by rw [← pl_setL2 (i := (x_pv_linkCount).toInt.toNat) (by omega)]; exact hP
      have hD : va_D A (wp [(h_pv, .inr (3, (mo176 v_pv (.ref h_lks) (.int z10)))), (h_lks, .inl (cy_lks, 210, .inr (.inr (.inr (.inr f9)))))] (PL nr ra rf nl5 la6 (va_up lf7 (x_pv_linkCount).toInt.toNat (p1, p2, (lf7 (x_pv_linkCount).toInt.toNat).2.2.1, none)) ns sa sf)) := by rw [← pl_setL2 (i := (x_pv_linkCount).toInt.toNat) (by omega)]; exact hD
      refine lv_aload hx hb dX4_newLink_71 (lv_at hl 0 rfl) ?_
      refine lv_aload_nN hx hb dX4_newLink_73 rfl (lv_at hl 5 rfl) ?_
      obtain ⟨lf12, elf12⟩ : ∃ g, g = (va_up lf7 (x_pv_linkCount).toInt.toNat (p1, p2, (lf7 (x_pv_linkCount).toInt.toNat).2.2.1, none)) := ⟨_, rfl⟩
      have hP : va_P (dC, dI) cls (wp [(h_pv, .inr (3, (mo176 v_pv (.ref h_lks) (.int z10)))), (h_lks, .inl (cy_lks, 210, .inr (.inr (.inr (.inr f9)))))] (PL nr ra rf nl5 la6 lf12 ns sa sf)) H := by rw [elf12]; exact hP
      have hD : va_D A (wp [(h_pv, .inr (3, (mo176 v_pv (.ref h_lks) (.int z10)))), (h_lks, .inl (cy_lks, 210, .inr (.inr (.inr (.inr f9)))))] (PL nr ra rf nl5 la6 lf12 ns sa sf)) := by rw [elf12]; exact hD
      have slf12 : lf12 (x_pv_linkCount).toInt.toNat = (p1, p2, (lf7 (x_pv_linkCount).toInt.toNat).2.2.1, none) := by rw [elf12]; exact up_self _ _ _
      have olf12 : ∀ j : Nat, j ≠ (x_pv_linkCount).toInt.toNat → lf12 j = lf7 j := fun j hj => by rw [elf12]; exact up_ne hj
      have pb9 : PB la6 (x_pv_linkCount).toInt (none : Option Nat) := pb_mono hn_pb (by omega) (fun m hm => ag9 m (by omega))
      obtain ⟨xs9, lx9⟩ := hn_lkx
      have hPc : va_P (dC, dI) cls (wp [] (PL nr ra rf nl5 la6 lf12 ns sa sf)) H := va_P.part (cx := []) hP [] rfl
      have hDc : va_D A (wp [] (PL nr ra rf nl5 la6 lf12 ns sa sf)) := va_D.part (cx := []) hD [] (by decide) rfl
      have hKc := hK.sub (tys' := []) [] rfl
      have hFc : ∀ q, va_A (wp [] (PL nr ra rf nl5 la6 lf12 ns sa sf)) H.size q → A q := va_freeP (cx := []) hD hS hA [] rfl
      refine va_calli (va_runSN (As := [.null]) (rest := [.ref (la6 (x_pv_linkCount).toInt.toNat)]) ⟨hx, hb, hml, hown, hts⟩ (c_X10_lengthOf l dC dI H.size nr ra rf nl5 la6 lf12 ns sa sf none (x_pv_linkCount).toInt (by omega) pb9) ⟨va_cnB (host := "OppositePairs") 1 hts (gd hT w_code_X10_lengthOf) rfl rfl rfl (hN _ n_m_X4_240) (hw _ w_ini_X10) (by decide +kernel) ⟨(by dsimp only [headSpec]; omega), (by dsimp only [headSpec]; omega)⟩, hw _ w_static_X10_lengthOf, trivial⟩ ⟨pre_blind, pre_of hPc hKc hDc hN⟩ rfl rfl hl.1 rfl (lv_room (Nat.le_of_ble_eq_true rfl)) dX4_newLink_74 ⟨(by dsimp only [headSpec]; omega), (by dsimp only [headSpec]; omega)⟩) hS (fun q _ h => hFc q h) hFc (fun r13 u t H locs ht hvm hq hB hz1 hk1 hS9 => ?_)
      obtain ⟨hP1, hD1⟩ := hB
      rw [ht] at hP1
      obtain ⟨hP9, hD9⟩ := va_joinP (wr := [(h_pv, .inr (3, (mo176 v_pv (.ref h_lks) (.int z10)))), (h_lks, .inl (cy_lks, 210, .inr (.inr (.inr (.inr f9)))))]) (rx := []) (cx := []) hP hD [] [0, 1] rfl rfl (by decide) (by decide) hk1 hFc hP1 hD1
      clear hP hD hS hPc hDc hKc hFc hP1 hD1 hk1 hz1 ht hvm
      have hP : va_P (dC, dI) cls (wp [(h_pv, .inr (3, (mo176 v_pv (.ref h_lks) (.int z10)))), (h_lks, .inl (cy_lks, 210, .inr (.inr (.inr (.inr f9)))))] (PL nr ra rf nl5 la6 lf12 ns sa sf)) H := hP9
      have hD : va_D A (wp [(h_pv, .inr (3, (mo176 v_pv (.ref h_lks) (.int z10)))), (h_lks, .inl (cy_lks, 210, .inr (.inr (.inr (.inr f9)))))] (PL nr ra rf nl5 la6 lf12 ns sa sf)) := hD9
      have hS := hS9
      clear hP9 hD9 hS9
      have k14 : ∀ xs : List LKT, LKR (la6) (lf12) ((x_pv_linkCount).toInt) (none) xs → ((r13)).toInt = (xs.length : Int) := hq
      clear hq
      have lm9 := k14 xs9 (lkr_mono _ _ _ _ lx9 (Int.le_refl _) (fun i9 h9 => ⟨ag9 i9 (by omega), (olf12 i9 (by omega)).trans (af9 i9 (by omega))⟩))
      have ll9 := lkr_len _ _ _ (by omega) lx9
      have lr9 : 0 ≤ (r13).toInt ∧ (r13).toInt ≤ 209 := by omega
      refine lv_iconst (v := 1) hx hb dX4_newLink_77 (by decide) ?_
      refine lv_iadd hx hb dX4_newLink_78 ?_
      refine lv_topi (fun z15 ez15 => ?_)
      have tz15 : (z15).toInt = (r13).toInt + 1 := by rw [ez15]; exact i_add rfl (by decide) (by omega)
      refine va_putN (D := (dC, dI)) (ci := 10) (v := .int z15) (ty := tyX2 2) (C := RX2) (T := TX2) (N := 4) (host := "OppositePairs") hx hb hw iwX2 tyX2 tyX2_ok nmX2 hown hK hP hD hS (2 + (nr + (x_pv_linkCount).toInt.toNat)) (pl_L (X := [(h_pv, .inr (3, (mo176 v_pv (.ref h_lks) (.int z10)))), (h_lks, .inl (cy_lks, 210, .inr (.inr (.inr (.inr f9)))))]) (by omega)) rfl 2 (by decide) (hN.use n_f_X4_266 rfl) (fun _ h9 => h9) rfl (tyX2_ok 2 (by decide)) rfl rfl (Nat.le_of_ble_eq_true rfl) dX4_newLink_79 (fun H locs hP hD hS => ?_)
      have hP : va_P (dC, dI) cls (wp [(h_pv, .inr (3, (mo176 v_pv (.ref h_lks) (.int z10)))), (h_lks, .inl (cy_lks, 210, .inr (.inr (.inr (.inr f9)))))] (PL nr ra rf nl5 la6 (va_up lf12 (x_pv_linkCount).toInt.toNat ((lf12 (x_pv_linkCount).toInt.toNat).1, (lf12 (x_pv_linkCount).toInt.toNat).2.1, z15, (lf12 (x_pv_linkCount).toInt.toNat).2.2.2)) ns sa sf)) H := by rw [← pl_setL (i := (x_pv_linkCount).toInt.toNat) (by omega)]; exact hP
      have hD : va_D A (wp [(h_pv, .inr (3, (mo176 v_pv (.ref h_lks) (.int z10)))), (h_lks, .inl (cy_lks, 210, .inr (.inr (.inr (.inr f9)))))] (PL nr ra rf nl5 la6 (va_up lf12 (x_pv_linkCount).toInt.toNat ((lf12 (x_pv_linkCount).toInt.toNat).1, (lf12 (x_pv_linkCount).toInt.toNat).2.1, z15, (lf12 (x_pv_linkCount).toInt.toNat).2.2.2)) ns sa sf)) := by rw [← pl_setL (i := (x_pv_linkCount).toInt.toNat) (by omega)]; exact hD
      refine lv_aload hx hb dX4_newLink_82 (lv_at hl 0 rfl) ?_
      obtain ⟨lf16, elf16⟩ : ∃ g, g = (va_up lf12 (x_pv_linkCount).toInt.toNat ((lf12 (x_pv_linkCount).toInt.toNat).1, (lf12 (x_pv_linkCount).toInt.toNat).2.1, z15, (lf12 (x_pv_linkCount).toInt.toNat).2.2.2)) := ⟨_, rfl⟩
      have hP : va_P (dC, dI) cls (wp [(h_pv, .inr (3, (mo176 v_pv (.ref h_lks) (.int z10)))), (h_lks, .inl (cy_lks, 210, .inr (.inr (.inr (.inr f9)))))] (PL nr ra rf nl5 la6 lf16 ns sa sf)) H := by rw [elf16]; exact hP
      have hD : va_D A (wp [(h_pv, .inr (3, (mo176 v_pv (.ref h_lks) (.int z10)))), (h_lks, .inl (cy_lks, 210, .inr (.inr (.inr (.inr f9)))))] (PL nr ra rf nl5 la6 lf16 ns sa sf)) := by rw [elf16]; exact hD
      have slf16 : lf16 (x_pv_linkCount).toInt.toNat = ((lf12 (x_pv_linkCount).toInt.toNat).1, (lf12 (x_pv_linkCount).toInt.toNat).2.1, z15, (lf12 (x_pv_linkCount).toInt.toNat).2.2.2) := by rw [elf16]; exact up_self _ _ _
      have olf16 : ∀ j : Nat, j ≠ (x_pv_linkCount).toInt.toNat → lf16 j = lf12 j := fun j hj => by rw [elf16]; exact up_ne hj
      have lk17s : lf16 (x_pv_linkCount).toInt.toNat = (p1, p2, z15, (none : Option Nat)) := by rw [slf16, slf12]
      have lk17o : ∀ j : Nat, j ≠ (x_pv_linkCount).toInt.toNat → lf16 j = lf7 j := fun j hj => (olf16 j hj).trans (olf12 j hj)
      have lk17 : LOK nl5 la6 lf16 := lok_set lk9 lk17o lk17s (by omega) (by omega) (pb_mono pb9 (by omega) (fun m hm => rfl))
      have lk17n : ∀ i : Nat, i ≠ (x_pv_linkCount).toInt.toNat → lf16 i = lf i := fun i hi => (lk17o i hi).trans (af9 i hi)
      have lx18k : ∀ xs : List LKT, LKR la lf (x_pv_linkCount).toInt (none : Option Nat) xs → (lf16 (x_pv_linkCount).toInt.toNat).2.2.1.toInt = (xs.length : Int) + 1 := fun xs8 h8 => by have h7 := k14 xs8 (lkr_mono _ _ _ _ h8 (Int.le_refl _) (fun i9 h9 => ⟨ag9 i9 (by omega), (olf12 i9 (by omega)).trans (af9 i9 (by omega))⟩)); rw [lk17s]; show (z15).toInt = _; omega
      have lx18e : (lf16 (x_pv_linkCount).toInt.toNat).1 = p1 ∧ (lf16 (x_pv_linkCount).toInt.toNat).2.1 = p2 ∧ (lf16 (x_pv_linkCount).toInt.toNat).2.2.2 = (none : Option Nat) := by rw [lk17s]; exact ⟨rfl, rfl, rfl⟩
      refine W.widen (k := ((x_pv_linkCount).toInt.toNat + 1 - nl)) (n := 4 * ((x_pv_linkCount).toInt.toNat + 1 - nl)) (by omega) (by omega) ?_
      have w19 : 0 ≤ ((z10)).toInt ∧ ((z10)).toInt ≤ 210 := by omega
      have w20 : ((z10)).toInt = (x_pv_linkCount).toInt + 1 := by omega
      have w21 : nl ≤ (nl5) ∧ (x_pv_linkCount).toInt + 1 ≤ (nl5) := by omega
      have w22 : GR2 nl (nl5) ((z10)).toInt := (gr2_up (by omega) (by omega))
      have w23 : PFX (nl5) 210 (f9) (la6) := pk9
      have w24 : LOK (nl5) (la6) (lf16) := lk17
      have w25 : ∀ i : Nat, i < nl → (la6) i = la i := ag9
      have w26 : ∀ i : Nat, i ≠ (x_pv_linkCount).toInt.toNat → (lf16) i = lf i := lk17n
      have w27 : (some (la6 (x_pv_linkCount).toInt.toNat) : Option Nat) = some ((la6) (x_pv_linkCount).toInt.toNat) := rfl
      have w28 : ∀ xs : List LKT, LKR la lf (x_pv_linkCount).toInt (none : Option Nat) xs → ((lf16) (x_pv_linkCount).toInt.toNat).2.2.1.toInt = (xs.length : Int) + 1 := lx18k
      have w29 : ((lf16) (x_pv_linkCount).toInt.toNat).1 = p1 ∧ ((lf16) (x_pv_linkCount).toInt.toNat).2.1 = p2 ∧ ((lf16) (x_pv_linkCount).toInt.toNat).2.2.2 = (none : Option Nat) := lx18e
      exact W.aret (v := va_rf (some (la6 (x_pv_linkCount).toInt.toNat))) hx hb hr (Or.inl ⟨_, rfl⟩) (va_rf_or _) (fun t ht hW => ⟨⟨(some (la6 (x_pv_linkCount).toInt.toNat)), (z10, f9, nl5, la6, lf16), rfl, ⟨w19, w20, w21, w22, w23, w24, w25, w26, w27, w28, w29⟩, by rw [ht]; exact hP, hD⟩, hS.F ht⟩) hS.2.2 dX4_newLink_84
    · have hl : lv_has ls 6 [(4, .int z1), (0, .ref h_pv), (1, .int p1), (2, .int p2), (3, .null)] := hl
      show W p l e _ s m _ below meth c _ _ _ _ _ (F0 m 19 ls [.ref b3])
      have nq9 := pfx_some (k := z1) hn_pk (by omega) eo2
      refine lv_ifnonnull (tgt := 36) hx hb dX4_newLink_19 (by decide) ?_
      refine lv_aload_n hx hb dX4_newLink_36 rfl (lv_at hl 1 rfl) ?_
      refine lv_iload hx hb dX4_newLink_37 (lv_at hl 0 rfl) ?_
      refine lv_iconst (v := 1) hx hb dX4_newLink_39 (by decide) ?_
      refine lv_iadd hx hb dX4_newLink_40 ?_
      refine lv_topi (fun z30 ez30 => ?_)
      have tz30 : (z30).toInt = (z1).toInt + 1 := by rw [ez30]; exact i_add rfl (by decide) (by omega)
      refine va_put (D := (dC, dI)) (ci := 3) (v := .int z30) (ty := tyX4 5) (C := RX4) (T := TX4) (N := 18) hx hb hw iwX4 tyX4 tyX4_ok nmX4 hown hK hP hD hS 0 rfl rfl 5 (by decide) (hw _ w_f_X4_104) (fun _ h9 => h9) rfl (tyX4_ok 5 (by decide)) rfl rfl (Nat.le_of_ble_eq_true rfl) dX4_newLink_41 (fun H locs hP9 hD9 hS9 => ?_)
      clear hP hD hS
      have hP : va_P (dC, dI) cls (wp [(h_pv, .inr (3, (mo176 v_pv (.ref h_lks) (.int z30)))), (h_lks, .inl (cy_lks, 210, .inr (.inr (.inr (.inr f_lks)))))] (PL nr ra rf nl la lf ns sa sf)) H := hP9
      have hD : va_D A (wp [(h_pv, .inr (3, (mo176 v_pv (.ref h_lks) (.int z30)))), (h_lks, .inl (cy_lks, 210, .inr (.inr (.inr (.inr f_lks)))))] (PL nr ra rf nl la lf ns sa sf)) := hD9
      have hS := hS9
      clear hP9 hD9 hS9
      refine lv_aload_n hx hb dX4_newLink_44 rfl (lv_at hl 1 rfl) ?_
      refine va_get (D := (dC, dI)) (ci := 3) (v := .ref h_lks) (C := RX4) (T := TX4) (N := 18) hx hb hw iwX4 hown hK hP 0 rfl rfl 4 (by decide) (hw _ w_f_X4_19) (fun _ h9 => h9) rfl dX4_newLink_45 ?_
      refine lv_iload hx hb dX4_newLink_48 (lv_at hl 0 rfl) ?_
      refine va_aldq hx hb hK hP 1 0 rfl rfl (i := z1) (vp_in_iff.mpr (by omega)) dX4_newLink_50 ?_
      obtain ⟨o31, eo31⟩ : ∃ o, o = f_lks (Int32.toNatClampNeg z1) := ⟨_, rfl⟩
      rw [← eo31]
      have oq9 := pfx_at (k := z1) (i := (x_pv_linkCount).toInt.toNat) hn_pk eo31 (by omega) (by omega)
      subst oq9
      show W p l e _ s m _ below meth c _ _ _ _ _ (F0 m 51 ls [.ref (la (x_pv_linkCount).toInt.toNat)])
      refine lv_astore (lv' := [(5, .ref (la (x_pv_linkCount).toInt.toNat)), (4, .int z1), (0, .ref h_pv), (1, .int p1), (2, .int p2), (3, .null)]) hx hb dX4_newLink_51 hl (by decide) rfl (fun ls hl => ?_)
      refine lv_aload hx hb dX4_newLink_53 (lv_at hl 0 rfl) ?_
      refine lv_iload_n hx hb dX4_newLink_55 rfl (lv_at hl 3 rfl) ?_
      refine va_putN (D := (dC, dI)) (ci := 10) (v := .int p1) (ty := tyX2 0) (C := RX2) (T := TX2) (N := 4) (host := "OppositePairs") hx hb hw iwX2 tyX2 tyX2_ok nmX2 hown hK hP hD hS (2 + (nr + (x_pv_linkCount).toInt.toNat)) (pl_L (X := [(h_pv, .inr (3, (mo176 v_pv (.ref h_lks) (.int z30)))), (h_lks, .inl (cy_lks, 210, .inr (.inr (.inr (.inr f_lks)))))]) (by omega)) rfl 0 (by decide) (hN.use n_f_X4_174 rfl) (fun _ h9 => h9) rfl (tyX2_ok 0 (by decide)) rfl rfl (Nat.le_of_ble_eq_true rfl) dX4_newLink_56 (fun H locs hP hD hS => ?_)
      have hP : va_P (dC, dI) cls (wp [(h_pv, .inr (3, (mo176 v_pv (.ref h_lks) (.int z30)))), (h_lks, .inl (cy_lks, 210, .inr (.inr (.inr (.inr f_lks)))))] (PL nr ra rf nl la (va_up lf (x_pv_linkCount).toInt.toNat (p1, (lf (x_pv_linkCount).toInt.toNat).2.1, (lf (x_pv_linkCount).toInt.toNat).2.2.1, (lf (x_pv_linkCount).toInt.toNat).2.2.2)) ns sa sf)) H := by rw [← pl_setL (i := (x_pv_linkCount).toInt.toNat) (by omega)]; exact hP
      have hD : va_D A (wp [(h_pv, .inr (3, (mo176 v_pv (.ref h_lks) (.int z30)))), (h_lks, .inl (cy_lks, 210, .inr (.inr (.inr (.inr f_lks)))))] (PL nr ra rf nl la (va_up lf (x_pv_linkCount).toInt.toNat (p1, (lf (x_pv_linkCount).toInt.toNat).2.1, (lf (x_pv_linkCount).toInt.toNat).2.2.1, (lf (x_pv_linkCount).toInt.toNat).2.2.2)) ns sa sf)) := by rw [← pl_setL (i := (x_pv_linkCount).toInt.toNat) (by omega)]; exact hD
      refine lv_aload hx hb dX4_newLink_59 (lv_at hl 0 rfl) ?_
      refine lv_iload_n hx hb dX4_newLink_61 rfl (lv_at hl 4 rfl) ?_
      refine va_putN (D := (dC, dI)) (ci := 10) (v := .int p2) (ty := tyX2 1) (C := RX2) (T := TX2) (N := 4) (host := "OppositePairs") hx hb hw iwX2 tyX2 tyX2_ok nmX2 hown hK hP hD hS (2 + (nr + (x_pv_linkCount).toInt.toNat)) (pl_L2 (X := [(h_pv, .inr (3, (mo176 v_pv (.ref h_lks) (.int z30)))), (h_lks, .inl (cy_lks, 210, .inr (.inr (.inr (.inr f_lks)))))]) (by omega)) rfl 1 (by decide) (hN.use n_f_X4_175 rfl) (fun _ h9 => h9) rfl (tyX2_ok 1 (by decide)) rfl rfl (Nat.le_of_ble_eq_true rfl) dX4_newLink_62 (fun H locs hP hD hS => ?_)
      have hP : va_P (dC, dI) cls (wp [(h_pv, .inr (3, (mo176 v_pv (.ref h_lks) (.int z30)))), (h_lks, .inl (cy_lks, 210, .inr (.inr (.inr (.inr f_lks)))))] (PL nr ra rf nl la (va_up lf (x_pv_linkCount).toInt.toNat (p1, p2, (lf (x_pv_linkCount).toInt.toNat).2.2.1, (lf (x_pv_linkCount).toInt.toNat).2.2.2)) ns sa sf)) H := by rw [← pl_setL2 (i := (x_pv_linkCount).toInt.toNat) (by omega)]; exact hP
      have hD : va_D A (wp [(h_pv, .inr (3, (mo176 v_pv (.ref h_lks) (.int z30)))), (h_lks, .inl (cy_lks, 210, .inr (.inr (.inr (.inr f_lks)))))] (PL nr ra rf nl la (va_up lf (x_pv_linkCount).toInt.toNat (p1, p2, (lf (x_pv_linkCount).toInt.toNat).2.2.1, (lf (x_pv_linkCount).toInt.toNat).2.2.2)) ns sa sf)) := by rw [← pl_setL2 (i := (x_pv_linkCount).toInt.toNat) (by omega)]; exact hD
      refine lv_aload hx hb dX4_newLink_65 (lv_at hl 0 rfl) ?_
      refine lv_aload_nN hx hb dX4_newLink_67 rfl (lv_at hl 5 rfl) ?_
      show W p l e _ s m _ below meth c _ _ _ _ _ (F0 m 68 _ (va_rf none :: _))
      refine va_putN (D := (dC, dI)) (ci := 10) (v := (va_rf none)) (ty := tyX2 3) (C := RX2) (T := TX2) (N := 4) (host := "OppositePairs") hx hb hw iwX2 tyX2 tyX2_ok nmX2 hown hK hP hD hS (2 + (nr + (x_pv_linkCount).toInt.toNat)) (pl_L2 (X := [(h_pv, .inr (3, (mo176 v_pv (.ref h_lks) (.int z30)))), (h_lks, .inl (cy_lks, 210, .inr (.inr (.inr (.inr f_lks)))))]) (by omega)) rfl 3 (by decide) (hN.use n_f_X4_181 rfl) (fun _ h9 => h9) rfl (tyX2_ok 3 (by decide)) (rf_nar none _) (rf_fit none _) (Nat.le_of_ble_eq_true rfl) dX4_newLink_68 (fun H locs hP hD hS => ?_)
      have hP : va_P (dC, dI) cls (wp [(h_pv, .inr (3, (mo176 v_pv (.ref h_lks) (.int z30)))), (h_lks, .inl (cy_lks, 210, .inr (.inr (.inr (.inr f_lks)))))] (PL nr ra rf nl la (va_up lf (x_pv_linkCount).toInt.toNat (p1, p2, (lf (x_pv_linkCount).toInt.toNat).2.2.1, none)) ns sa sf)) H := by rw [← pl_setL2 (i := (x_pv_linkCount).toInt.toNat) (by omega)]; exact hP
      have hD : va_D A (wp [(h_pv, .inr (3, (mo176 v_pv (.ref h_lks) (.int z30)))), (h_lks, .inl (cy_lks, 210, .inr (.inr (.inr (.inr f_lks)))))] (PL nr ra rf nl la (va_up lf (x_pv_linkCount).toInt.toNat (p1, p2, (lf (x_pv_linkCount).toInt.toNat).2.2.1, none)) ns sa sf)) := by rw [← pl_setL2 (i := (x_pv_linkCount).toInt.toNat) (by omega)]; exact hD
      refine lv_aload hx hb dX4_newLink_71 (lv_at hl 0 rfl) ?_
      refine lv_aload_nN hx hb dX4_newLink_73 rfl (lv_at hl 5 rfl) ?_
      obtain ⟨lf32, elf32⟩ : ∃ g, g = (va_up lf (x_pv_linkCount).toInt.toNat (p1, p2, (lf (x_pv_linkCount).toInt.toNat).2.2.1, none)) := ⟨_, rfl⟩
      have hP : va_P (dC, dI) cls (wp [(h_pv, .inr (3, (mo176 v_pv (.ref h_lks) (.int z30)))), (h_lks, .inl (cy_lks, 210, .inr (.inr (.inr (.inr f_lks)))))] (PL nr ra rf nl la lf32 ns sa sf)) H := by rw [elf32]; exact hP
      have hD : va_D A (wp [(h_pv, .inr (3, (mo176 v_pv (.ref h_lks) (.int z30)))), (h_lks, .inl (cy_lks, 210, .inr (.inr (.inr (.inr f_lks)))))] (PL nr ra rf nl la lf32 ns sa sf)) := by rw [elf32]; exact hD
      have slf32 : lf32 (x_pv_linkCount).toInt.toNat = (p1, p2, (lf (x_pv_linkCount).toInt.toNat).2.2.1, none) := by rw [elf32]; exact up_self _ _ _
      have olf32 : ∀ j : Nat, j ≠ (x_pv_linkCount).toInt.toNat → lf32 j = lf j := fun j hj => by rw [elf32]; exact up_ne hj
      have pb9 : PB la (x_pv_linkCount).toInt (none : Option Nat) := pb_mono hn_pb (by omega) (fun m hm => ag0 m (by omega))
      obtain ⟨xs9, lx9⟩ := hn_lkx
      have hPc : va_P (dC, dI) cls (wp [] (PL nr ra rf nl la lf32 ns sa sf)) H := va_P.part (cx := []) hP [] rfl
      have hDc : va_D A (wp [] (PL nr ra rf nl la lf32 ns sa sf)) := va_D.part (cx := []) hD [] (by decide) rfl
      have hKc := hK.sub (tys' := []) [] rfl
      have hFc : ∀ q, va_A (wp [] (PL nr ra rf nl la lf32 ns sa sf)) H.size q → A q := va_freeP (cx := []) hD hS hA [] rfl
      refine va_calli (va_runSN (As := [.null]) (rest := [.ref (la (x_pv_linkCount).toInt.toNat)]) ⟨hx, hb, hml, hown, hts⟩ (c_X10_lengthOf l dC dI H.size nr ra rf nl la lf32 ns sa sf none (x_pv_linkCount).toInt (by first | exact q3 | omega) pb9) ⟨va_cnB (host := "OppositePairs") 1 hts (gd hT w_code_X10_lengthOf) rfl rfl rfl (hN _ n_m_X4_240) (hw _ w_ini_X10) (by decide +kernel) ⟨(by dsimp only [headSpec]; omega), (by dsimp only [headSpec]; omega)⟩, hw _ w_static_X10_lengthOf, trivial⟩ ⟨pre_blind, pre_of hPc hKc hDc hN⟩ rfl rfl hl.1 rfl (lv_room (Nat.le_of_ble_eq_true rfl)) dX4_newLink_74 ⟨(by dsimp only [headSpec]; omega), (by dsimp only [headSpec]; omega)⟩) hS (fun q _ h => hFc q h) hFc (fun r33 u t H locs ht hvm hq hB hz1 hk1 hS9 => ?_)
      obtain ⟨hP1, hD1⟩ := hB
      rw [ht] at hP1
      obtain ⟨hP9, hD9⟩ := va_joinP (wr := [(h_pv, .inr (3, (mo176 v_pv (.ref h_lks) (.int z30)))), (h_lks, .inl (cy_lks, 210, .inr (.inr (.inr (.inr f_lks)))))]) (rx := []) (cx := []) hP hD [] [0, 1] rfl rfl (by decide) (by decide) hk1 hFc hP1 hD1
      clear hP hD hS hPc hDc hKc hFc hP1 hD1 hk1 hz1 ht hvm
      have hP : va_P (dC, dI) cls (wp [(h_pv, .inr (3, (mo176 v_pv (.ref h_lks) (.int z30)))), (h_lks, .inl (cy_lks, 210, .inr (.inr (.inr (.inr f_lks)))))] (PL nr ra rf nl la lf32 ns sa sf)) H := hP9
      have hD : va_D A (wp [(h_pv, .inr (3, (mo176 v_pv (.ref h_lks) (.int z30)))), (h_lks, .inl (cy_lks, 210, .inr (.inr (.inr (.inr f_lks)))))] (PL nr ra rf nl la lf32 ns sa sf)) := hD9
      have hS := hS9
      clear hP9 hD9 hS9
      have k34 : ∀ xs : List LKT, LKR (la) (lf32) ((x_pv_linkCount).toInt) (none) xs → ((r33)).toInt = (xs.length : Int) := hq
      clear hq
      have lm9 := k34 xs9 (lkr_mono _ _ _ _ lx9 (Int.le_refl _) (fun i9 h9 => ⟨ag0 i9 (by omega), (olf32 i9 (by omega)).trans (af0 i9 (by omega))⟩))
      have ll9 := lkr_len _ _ _ (by omega) lx9
      have lr9 : 0 ≤ (r33).toInt ∧ (r33).toInt ≤ 209 := by omega
      refine lv_iconst (v := 1) hx hb dX4_newLink_77 (by decide) ?_
      refine lv_iadd hx hb dX4_newLink_78 ?_
      refine lv_topi (fun z35 ez35 => ?_)
      have tz35 : (z35).toInt = (r33).toInt + 1 := by rw [ez35]; exact i_add rfl (by decide) (by omega)
      refine va_putN (D := (dC, dI)) (ci := 10) (v := .int z35) (ty := tyX2 2) (C := RX2) (T := TX2) (N := 4) (host := "OppositePairs") hx hb hw iwX2 tyX2 tyX2_ok nmX2 hown hK hP hD hS (2 + (nr + (x_pv_linkCount).toInt.toNat)) (pl_L (X := [(h_pv, .inr (3, (mo176 v_pv (.ref h_lks) (.int z30)))), (h_lks, .inl (cy_lks, 210, .inr (.inr (.inr (.inr f_lks)))))]) (by omega)) rfl 2 (by decide) (hN.use n_f_X4_266 rfl) (fun _ h9 => h9) rfl (tyX2_ok 2 (by decide)) rfl rfl (Nat.le_of_ble_eq_true rfl) dX4_newLink_79 (fun H locs hP hD hS => ?_)
      have hP : va_P (dC, dI) cls (wp [(h_pv, .inr (3, (mo176 v_pv (.ref h_lks) (.int z30)))), (h_lks, .inl (cy_lks, 210, .inr (.inr (.inr (.inr f_lks)))))] (PL nr ra rf nl la (va_up lf32 (x_pv_linkCount).toInt.toNat ((lf32 (x_pv_linkCount).toInt.toNat).1, (lf32 (x_pv_linkCount).toInt.toNat).2.1, z35, (lf32 (x_pv_linkCount).toInt.toNat).2.2.2)) ns sa sf)) H := by rw [← pl_setL (i := (x_pv_linkCount).toInt.toNat) (by omega)]; exact hP
      have hD : va_D A (wp [(h_pv, .inr (3, (mo176 v_pv (.ref h_lks) (.int z30)))), (h_lks, .inl (cy_lks, 210, .inr (.inr (.inr (.inr f_lks)))))] (PL nr ra rf nl la (va_up lf32 (x_pv_linkCount).toInt.toNat ((lf32 (x_pv_linkCount).toInt.toNat).1, (lf32 (x_pv_linkCount).toInt.toNat).2.1, z35, (lf32 (x_pv_linkCount).toInt.toNat).2.2.2)) ns sa sf)) := by rw [← pl_setL (i := (x_pv_linkCount).toInt.toNat) (by omega)]; exact hD
      refine lv_aload hx hb dX4_newLink_82 (lv_at hl 0 rfl) ?_
      obtain ⟨lf36, elf36⟩ : ∃ g, g = (va_up lf32 (x_pv_linkCount).toInt.toNat ((lf32 (x_pv_linkCount).toInt.toNat).1, (lf32 (x_pv_linkCount).toInt.toNat).2.1, z35, (lf32 (x_pv_linkCount).toInt.toNat).2.2.2)) := ⟨_, rfl⟩
      have hP : va_P (dC, dI) cls (wp [(h_pv, .inr (3, (mo176 v_pv (.ref h_lks) (.int z30)))), (h_lks, .inl (cy_lks, 210, .inr (.inr (.inr (.inr f_lks)))))] (PL nr ra rf nl la lf36 ns sa sf)) H := by rw [elf36]; exact hP
      have hD : va_D A (wp [(h_pv, .inr (3, (mo176 v_pv (.ref h_lks) (.int z30)))), (h_lks, .inl (cy_lks, 210, .inr (.inr (.inr (.inr f_lks)))))] (PL nr ra rf nl la lf36 ns sa sf)) := by rw [elf36]; exact hD
      have slf36 : lf36 (x_pv_linkCount).toInt.toNat = ((lf32 (x_pv_linkCount).toInt.toNat).1, (lf32 (x_pv_linkCount).toInt.toNat).2.1, z35, (lf32 (x_pv_linkCount).toInt.toNat).2.2.2) := by rw [elf36]; exact up_self _ _ _
      have olf36 : ∀ j : Nat, j ≠ (x_pv_linkCount).toInt.toNat → lf36 j = lf32 j := fun j hj => by rw [elf36]; exact up_ne hj
      have lk37s : lf36 (x_pv_linkCount).toInt.toNat = (p1, p2, z35, (none : Option Nat)) := by rw [slf36, slf32]
      have lk37o : ∀ j : Nat, j ≠ (x_pv_linkCount).toInt.toNat → lf36 j = lf j := fun j hj => (olf36 j hj).trans (olf32 j hj)
      have lk37 : LOK nl la lf36 := lok_set hn_lok lk37o lk37s (by omega) (by omega) (pb_mono pb9 (by omega) (fun m hm => rfl))
      have lk37n : ∀ i : Nat, i ≠ (x_pv_linkCount).toInt.toNat → lf36 i = lf i := fun i hi => (lk37o i hi).trans (af0 i hi)
      have lx38k : ∀ xs : List LKT, LKR la lf (x_pv_linkCount).toInt (none : Option Nat) xs → (lf36 (x_pv_linkCount).toInt.toNat).2.2.1.toInt = (xs.length : Int) + 1 := fun xs8 h8 => by have h7 := k34 xs8 (lkr_mono _ _ _ _ h8 (Int.le_refl _) (fun i9 h9 => ⟨ag0 i9 (by omega), (olf32 i9 (by omega)).trans (af0 i9 (by omega))⟩)); rw [lk37s]; show (z35).toInt = _; omega
      have lx38e : (lf36 (x_pv_linkCount).toInt.toNat).1 = p1 ∧ (lf36 (x_pv_linkCount).toInt.toNat).2.1 = p2 ∧ (lf36 (x_pv_linkCount).toInt.toNat).2.2.2 = (none : Option Nat) := by rw [lk37s]; exact ⟨rfl, rfl, rfl⟩
      refine W.widen (k := ((x_pv_linkCount).toInt.toNat + 1 - nl)) (n := 4 * ((x_pv_linkCount).toInt.toNat + 1 - nl)) (by omega) (by omega) ?_
      have w39 : 0 ≤ ((z30)).toInt ∧ ((z30)).toInt ≤ 210 := by omega
      have w40 : ((z30)).toInt = (x_pv_linkCount).toInt + 1 := by omega
      have w41 : nl ≤ (nl) ∧ (x_pv_linkCount).toInt + 1 ≤ (nl) := by omega
      have w42 : GR2 nl (nl) ((z30)).toInt := (gr2_same rfl (by omega))
      have w43 : PFX (nl) 210 (f_lks) (la) := hn_pk
      have w44 : LOK (nl) (la) (lf36) := lk37
      have w45 : ∀ i : Nat, i < nl → (la) i = la i := ag0
      have w46 : ∀ i : Nat, i ≠ (x_pv_linkCount).toInt.toNat → (lf36) i = lf i := lk37n
      have w47 : (some (la (x_pv_linkCount).toInt.toNat) : Option Nat) = some ((la) (x_pv_linkCount).toInt.toNat) := rfl
      have w48 : ∀ xs : List LKT, LKR la lf (x_pv_linkCount).toInt (none : Option Nat) xs → ((lf36) (x_pv_linkCount).toInt.toNat).2.2.1.toInt = (xs.length : Int) + 1 := lx38k
      have w49 : ((lf36) (x_pv_linkCount).toInt.toNat).1 = p1 ∧ ((lf36) (x_pv_linkCount).toInt.toNat).2.1 = p2 ∧ ((lf36) (x_pv_linkCount).toInt.toNat).2.2.2 = (none : Option Nat) := lx38e
      exact W.aret (v := va_rf (some (la (x_pv_linkCount).toInt.toNat))) hx hb hr (Or.inl ⟨_, rfl⟩) (va_rf_or _) (fun t ht hW => ⟨⟨(some (la (x_pv_linkCount).toInt.toNat)), (z30, f_lks, nl, la, lf36), rfl, ⟨w39, w40, w41, w42, w43, w44, w45, w46, w47, w48, w49⟩, by rw [ht]; exact hP, hD⟩, hS.F ht⟩) hS.2.2 dX4_newLink_84
  · show Met l yX4_newLink (Ws yX4_newLink cX4_newLink 6 (some (.object "OppositePairs$Link"))) (({ frames := 2, cells := ((x_pv_linkCount).toInt.toNat + 1 - nl), slots := 4 * ((x_pv_linkCount).toInt.toNat + 1 - nl), locals := 100 } : Room)) (PRE (dC, dI) cls [(cy_lks, .object "OppositePairs$Link")] (wp [(h_pv, .inr (3, (mo176 v_pv (.ref h_lks) (.int x_pv_linkCount)))), (h_lks, .inl (cy_lks, 210, .inr (.inr (.inr (.inr f_lks)))))] (PL nr ra rf nl la lf ns sa sf)) sz [.ref h_pv, .int p1, .int p2, .ref b1]) (va_Qq (fun (r : Option Nat) (u : (Int32) × (Nat → Option Nat) × (Nat) × (Nat → Nat) × (Nat → LT)) => (0 ≤ (u.1).toInt ∧ (u.1).toInt ≤ 210) ∧ ((u.1).toInt = (x_pv_linkCount).toInt + 1) ∧ (nl ≤ u.2.2.1 ∧ (x_pv_linkCount).toInt + 1 ≤ u.2.2.1) ∧ (GR2 nl u.2.2.1 (u.1).toInt) ∧ (PFX u.2.2.1 210 u.2.1 u.2.2.2.1) ∧ (LOK u.2.2.1 u.2.2.2.1 u.2.2.2.2) ∧ (∀ i : Nat, i < nl → u.2.2.2.1 i = la i) ∧ (∀ i : Nat, i ≠ (x_pv_linkCount).toInt.toNat → u.2.2.2.2 i = lf i) ∧ (r = some (u.2.2.2.1 (x_pv_linkCount).toInt.toNat)) ∧ (∀ xs : List LKT, LKR la lf (x_pv_linkCount).toInt (some b1) xs → (u.2.2.2.2 (x_pv_linkCount).toInt.toNat).2.2.1.toInt = (xs.length : Int) + 1) ∧ ((u.2.2.2.2 (x_pv_linkCount).toInt.toNat).1 = p1 ∧ (u.2.2.2.2 (x_pv_linkCount).toInt.toNat).2.1 = p2 ∧ (u.2.2.2.2 (x_pv_linkCount).toInt.toNat).2.2.2 = (some b1))) (fun (u : (Int32) × (Nat → Option Nat) × (Nat) × (Nat → Nat) × (Nat → LT)) (t : State) => va_P (dC, dI) cls (wp [(h_pv, .inr (3, (mo176 v_pv (.ref h_lks) (.int u.1)))), (h_lks, .inl (cy_lks, 210, .inr (.inr (.inr (.inr u.2.1)))))] (PL nr ra rf u.2.2.1 u.2.2.2.1 u.2.2.2.2 ns sa sf)) t.heap ∧ va_D (va_A (wp [(h_pv, .inr (3, (mo176 v_pv (.ref h_lks) (.int x_pv_linkCount)))), (h_lks, .inl (cy_lks, 210, .inr (.inr (.inr (.inr f_lks)))))] (PL nr ra rf nl la lf ns sa sf)) sz) (wp [(h_pv, .inr (3, (mo176 v_pv (.ref h_lks) (.int u.1)))), (h_lks, .inl (cy_lks, 210, .inr (.inr (.inr (.inr u.2.1)))))] (PL nr ra rf u.2.2.1 u.2.2.2.1 u.2.2.2.2 ns sa sf))) (va_A (wp [(h_pv, .inr (3, (mo176 v_pv (.ref h_lks) (.int x_pv_linkCount)))), (h_lks, .inl (cy_lks, 210, .inr (.inr (.inr (.inr f_lks)))))] (PL nr ra rf nl la lf ns sa sf)) sz)) (((x_pv_linkCount).toInt.toNat + 1 - nl)) (4 * ((x_pv_linkCount).toInt.toNat + 1 - nl)) (va_A (wp [(h_pv, .inr (3, (mo176 v_pv (.ref h_lks) (.int x_pv_linkCount)))), (h_lks, .inl (cy_lks, 210, .inr (.inr (.inr (.inr f_lks)))))] (PL nr ra rf nl la lf ns sa sf)) sz)
    refine Met.ofW (cc := cX4_newLink) (maxL := 6) (ret := (some (.object "OppositePairs$Link"))) (by decide) rfl ?_
    intro p e s m args below meth c s₁ B hml hv
    obtain ⟨rfl, hsz, hP, hK, hD0, hN⟩ := hv
    have hx := B.exec
    have hb := B.bytes
    have hr := B.returns
    have hts := atoms_spec (ws := Ws yX4_newLink cX4_newLink 6 (some (.object "OppositePairs$Link"))) B.pre
    have hT : ∀ w ∈ WALL, w ∈ Ws yX4_newLink cX4_newLink 6 (some (.object "OppositePairs$Link")) := fun w h => List.mem_cons_of_mem _ h
    have hw := fun w (h : w ∈ WALL) => hts w (hT w h)
    have hown : s.vm.findClass RX4 = some m.cls := findClass_of_methodNamed B.named
    have hlocks := B.notSynchronized
    subst hsz
    have hD := hD0.self (sz := s.heap.size)
    generalize hAe : va_A (wp [(h_pv, .inr (3, (mo176 v_pv (.ref h_lks) (.int x_pv_linkCount)))), (h_lks, .inl (cy_lks, 210, .inr (.inr (.inr (.inr f_lks)))))] (PL nr ra rf nl la lf ns sa sf)) s.heap.size = A at hD ⊢
    have hA : ∀ q : Nat, s.heap.size ≤ q → A q := fun q h => by rw [← hAe]; exact Or.inr h
    have hS : va_S A s.heap s.heap [] := va_S.rf
    have hl := lv_entry ([.ref h_pv, .int p1, .int p2, .ref b1]) (n := 6) (Nat.le_of_ble_eq_true rfl)
    rw [lg_entry_eq]
    generalize (lg_sl ([.ref h_pv, .int p1, .int p2, .ref b1]) ++ List.replicate (6 - (lg_sl ([.ref h_pv, .int p1, .int p2, .ref b1])).length) Slot.unset).toArray = ls at hl ⊢
    have hl : lv_has ls 6 [(0, .ref h_pv), (1, .int p1), (2, .int p2), (3, .ref b1)] := hl
    have ag0 : ∀ i : Nat, i < nl → la i = la i := fun _ _ => rfl
    have af0 : ∀ i : Nat, i ≠ (x_pv_linkCount).toInt.toNat → lf i = lf i := fun _ _ => rfl
    refine lv_aload_n hx hb dX4_newLink_0 rfl (lv_at hl 0 rfl) ?_
    refine va_get (D := (dC, dI)) (ci := 3) (v := .int x_pv_linkCount) (C := RX4) (T := TX4) (N := 18) hx hb hw iwX4 hown hK hP 0 rfl rfl 5 (by decide) (hw _ w_f_X4_104) (fun _ h9 => h9) rfl dX4_newLink_1 ?_
    refine lv_sipush (v := 209) hx hb dX4_newLink_4 (by decide) ?_
    refine va_mmin hx hb (hml.trans hl.1.symm) hown (hw _ w_m_X4_274) (hw _ w_mst_min) (hw _ w_ini_Math) (hw _ w_mcd_min) (Nat.le_of_ble_eq_true rfl) (Nat.le_of_ble_eq_true rfl) (Nat.le_of_ble_eq_true rfl) (Nat.le_of_ble_eq_true rfl) dX4_newLink_7 ?_
    refine lv_topi (fun z50 ez50 => ?_)
    have tz50 := i_min (x := x_pv_linkCount) (y := 209) (rfl : (x_pv_linkCount).toInt = (x_pv_linkCount).toInt) (by decide : (209 : Int32).toInt = 209)
    rw [← ez50] at tz50
    refine lv_istore (lv' := [(4, .int z50), (0, .ref h_pv), (1, .int p1), (2, .int p2), (3, .ref b1)]) hx hb dX4_newLink_10 hl (by decide) rfl (fun ls hl => ?_)
    refine lv_aload_n hx hb dX4_newLink_12 rfl (lv_at hl 1 rfl) ?_
    refine va_get (D := (dC, dI)) (ci := 3) (v := .ref h_lks) (C := RX4) (T := TX4) (N := 18) hx hb hw iwX4 hown hK hP 0 rfl rfl 4 (by decide) (hw _ w_f_X4_19) (fun _ h9 => h9) rfl dX4_newLink_13 ?_
    refine lv_iload hx hb dX4_newLink_16 (lv_at hl 0 rfl) ?_
    refine va_aldq hx hb hK hP 1 0 rfl rfl (i := z50) (vp_in_iff.mpr (by omega)) dX4_newLink_18 ?_
    obtain ⟨o51, eo51⟩ : ∃ o, o = f_lks (Int32.toNatClampNeg z50) := ⟨_, rfl⟩
    rw [← eo51]
    rcases o51 with _ | b52
    · have hl : lv_has ls 6 [(4, .int z50), (0, .ref h_pv), (1, .int p1), (2, .int p2), (3, .ref b1)] := hl
      show W p l e _ s m _ below meth c _ _ _ _ _ (F0 m 19 ls [.null])
      have nq9 := pfx_none (k := z50) hn_pk (by omega) eo51
      refine lv_ifnonnullN hx hb dX4_newLink_19 ?_
      refine lv_aload_n hx hb dX4_newLink_22 rfl (lv_at hl 1 rfl) ?_
      refine va_get (D := (dC, dI)) (ci := 3) (v := .ref h_lks) (C := RX4) (T := TX4) (N := 18) hx hb hw iwX4 hown hK hP 0 rfl rfl 4 (by decide) (hw _ w_f_X4_19) (fun _ h9 => h9) rfl dX4_newLink_23 ?_
      refine lv_iload hx hb dX4_newLink_26 (lv_at hl 0 rfl) ?_
      refine va_new (ci := 10) (C := RX2) (T := TX2) (N := 4) (fs := [.int 0, .int 0, .int 0, .null]) hx hb hw iwX2 tyX2 tyX2_ok hown (hw _ w_cl_X4_17) (hw _ w_inst_X2) (hw _ w_ini_X2) hK hP hD hS hA rfl dfX2 (by dsimp only [headSpec]; omega) (by dsimp only [headSpec]; omega) dX4_newLink_28 (fun a53 H hP hD hS => ?_)
      have hP : va_P (dC, dI) cls (wp [(h_pv, .inr (3, (mo176 v_pv (.ref h_lks) (.int x_pv_linkCount)))), (h_lks, .inl (cy_lks, 210, .inr (.inr (.inr (.inr f_lks)))))] (PL nr ra rf (nl + 1) (va_up la nl a53) (va_up lf nl ((0 : Int32), (0 : Int32), (0 : Int32), none)) ns sa sf)) H := va_P_perm (pl_pushL (t := ((0 : Int32), (0 : Int32), (0 : Int32), none))) hP
      have hD : va_D A (wp [(h_pv, .inr (3, (mo176 v_pv (.ref h_lks) (.int x_pv_linkCount)))), (h_lks, .inl (cy_lks, 210, .inr (.inr (.inr (.inr f_lks)))))] (PL nr ra rf (nl + 1) (va_up la nl a53) (va_up lf nl ((0 : Int32), (0 : Int32), (0 : Int32), none)) ns sa sf)) := va_D_perm (pl_pushL (t := ((0 : Int32), (0 : Int32), (0 : Int32), none))) hD
      obtain ⟨nl54, enl54⟩ : ∃ g, g = (nl + 1) := ⟨_, rfl⟩
      obtain ⟨la55, ela55⟩ : ∃ g, g = (va_up la nl a53) := ⟨_, rfl⟩
      obtain ⟨lf56, elf56⟩ : ∃ g, g = (va_up lf nl ((0 : Int32), (0 : Int32), (0 : Int32), none)) := ⟨_, rfl⟩
      have hP : va_P (dC, dI) cls (wp [(h_pv, .inr (3, (mo176 v_pv (.ref h_lks) (.int x_pv_linkCount)))), (h_lks, .inl (cy_lks, 210, .inr (.inr (.inr (.inr f_lks)))))] (PL nr ra rf nl54 la55 lf56 ns sa sf)) H := by rw [enl54, ela55, elf56]; exact hP
      have hD : va_D A (wp [(h_pv, .inr (3, (mo176 v_pv (.ref h_lks) (.int x_pv_linkCount)))), (h_lks, .inl (cy_lks, 210, .inr (.inr (.inr (.inr f_lks)))))] (PL nr ra rf nl54 la55 lf56 ns sa sf)) := by rw [enl54, ela55, elf56]; exact hD
      have ea9 : la55 nl = a53 := by rw [ela55]; exact up_self _ _ _
      refine lv_dup hx hb dX4_newLink_31 rfl ?_
      have hPc := wp_P (cx := []) hP [] rfl
      have hDc := wp_D (cx := []) hD [] (by decide) rfl
      have hKc := hK.sub (tys' := []) [] rfl
      have hFc := wp_free (cx := []) hD hS hA [] rfl
      refine va_callv (va_runIN (As := []) (rest := [.ref a53, .int z50, .ref h_lks]) ⟨hx, hb, hml, hown, hts⟩ (c_X2_init l dC dI H.size a53) ⟨va_cnB (host := "OppositePairs") 0 hts (gd hT w_code_X2_init) rfl rfl rfl (hN _ n_m_X4_278) (hw _ w_ini_X2) (by decide +kernel) ⟨(by dsimp only [headSpec]; omega), (by dsimp only [headSpec]; omega)⟩, rfl, hw _ w_instanceMethod_X2_init⟩ ⟨pre_blind, pre_of hPc hKc hDc hN⟩ rfl rfl hl.1 rfl (lv_room (Nat.le_of_ble_eq_true rfl)) dX4_newLink_32 ⟨(by dsimp only [headSpec]; omega), (by dsimp only [headSpec]; omega)⟩) hS (fun q _ h => hFc q h) hFc (fun u t H locs ht hvm hq hB hz1 hk1 hS9 => ?_)
      obtain ⟨hP1, hD1⟩ := hB
      rw [ht] at hP1
      obtain ⟨hP9, hD9⟩ := va_joinQ (wr := [(h_pv, .inr (3, (mo176 v_pv (.ref h_lks) (.int x_pv_linkCount)))), (h_lks, .inl (cy_lks, 210, .inr (.inr (.inr (.inr f_lks)))))]) (w1 := []) (cx := []) hP hD [] [0, 1] rfl rfl (by decide) (by decide) hk1 hFc hP1 hD1
      clear hP hD hS hPc hDc hKc hFc hP1 hD1 hk1 hz1 ht hvm
      have hP : va_P (dC, dI) cls (wp [(h_pv, .inr (3, (mo176 v_pv (.ref h_lks) (.int x_pv_linkCount)))), (h_lks, .inl (cy_lks, 210, .inr (.inr (.inr (.inr f_lks)))))] (PL nr ra rf nl54 la55 lf56 ns sa sf)) H := hP9
      have hD : va_D A (wp [(h_pv, .inr (3, (mo176 v_pv (.ref h_lks) (.int x_pv_linkCount)))), (h_lks, .inl (cy_lks, 210, .inr (.inr (.inr (.inr f_lks)))))] (PL nr ra rf nl54 la55 lf56 ns sa sf)) := hD9
      have hS := hS9
      clear hP9 hD9 hS9
      refine va_astq hx hb hK hP hD hS 1 0 (2 + (nr + nl)) 10 rfl rfl (by rw [← ea9]; exact (pl_L (X := [(h_pv, .inr (3, (mo176 v_pv (.ref h_lks) (.int x_pv_linkCount)))), (h_lks, .inl (cy_lks, 210, .inr (.inr (.inr (.inr f_lks)))))]) (by omega))) rfl (i := z50) (vp_in_iff.mpr (by omega)) dX4_newLink_35 (fun H locs hP hD hS => ?_)
      obtain ⟨f58, ef58⟩ : ∃ g : Nat → Option Nat, g = va_up f_lks (Int32.toNatClampNeg z50) (some a53) := ⟨_, rfl⟩
      have hP : va_P (dC, dI) cls (wp [(h_pv, .inr (3, (mo176 v_pv (.ref h_lks) (.int x_pv_linkCount)))), (h_lks, .inl (cy_lks, 210, .inr (.inr (.inr (.inr f58)))))] (PL nr ra rf nl54 la55 lf56 ns sa sf)) H := by rw [ef58]; exact hP
      have hD : va_D A (wp [(h_pv, .inr (3, (mo176 v_pv (.ref h_lks) (.int x_pv_linkCount)))), (h_lks, .inl (cy_lks, 210, .inr (.inr (.inr (.inr f58)))))] (PL nr ra rf nl54 la55 lf56 ns sa sf)) := by rw [ef58]; exact hD
      have pk9 : PFX nl54 210 f58 la55 := by rw [enl54, ef58, ela55]; exact pfx_push hn_pk (by omega) (by omega)
      have lk9 : LOK nl54 la55 lf56 := by rw [enl54, ela55, elf56]; exact lok_push hn_lok
      have ag9 : ∀ i : Nat, i < nl → la55 i = la i := fun i hi => by rw [ela55]; exact up_ne (by omega)
      have af9 : ∀ i : Nat, i ≠ (x_pv_linkCount).toInt.toNat → lf56 i = lf i := fun i hi => by rw [elf56]; exact up_ne (by omega)
      refine lv_aload_n hx hb dX4_newLink_36 rfl (lv_at hl 1 rfl) ?_
      refine lv_iload hx hb dX4_newLink_37 (lv_at hl 0 rfl) ?_
      refine lv_iconst (v := 1) hx hb dX4_newLink_39 (by decide) ?_
      refine lv_iadd hx hb dX4_newLink_40 ?_
      refine lv_topi (fun z59 ez59 => ?_)
      have tz59 : (z59).toInt = (z50).toInt + 1 := by rw [ez59]; exact i_add rfl (by decide) (by omega)
      refine va_put (D := (dC, dI)) (ci := 3) (v := .int z59) (ty := tyX4 5) (C := RX4) (T := TX4) (N := 18) hx hb hw iwX4 tyX4 tyX4_ok nmX4 hown hK hP hD hS 0 rfl rfl 5 (by decide) (hw _ w_f_X4_104) (fun _ h9 => h9) rfl (tyX4_ok 5 (by decide)) rfl rfl (Nat.le_of_ble_eq_true rfl) dX4_newLink_41 (fun H locs hP9 hD9 hS9 => ?_)
      clear hP hD hS
      have hP : va_P (dC, dI) cls (wp [(h_pv, .inr (3, (mo176 v_pv (.ref h_lks) (.int z59)))), (h_lks, .inl (cy_lks, 210, .inr (.inr (.inr (.inr f58)))))] (PL nr ra rf nl54 la55 lf56 ns sa sf)) H := hP9
      have hD : va_D A (wp [(h_pv, .inr (3, (mo176 v_pv (.ref h_lks) (.int z59)))), (h_lks, .inl (cy_lks, 210, .inr (.inr (.inr (.inr f58)))))] (PL nr ra rf nl54 la55 lf56 ns sa sf)) := hD9
      have hS := hS9
      clear hP9 hD9 hS9
      refine lv_aload_n hx hb dX4_newLink_44 rfl (lv_at hl 1 rfl) ?_
      refine va_get (D := (dC, dI)) (ci := 3) (v := .ref h_lks) (C := RX4) (T := TX4) (N := 18) hx hb hw iwX4 hown hK hP 0 rfl rfl 4 (by decide) (hw _ w_f_X4_19) (fun _ h9 => h9) rfl dX4_newLink_45 ?_
      refine lv_iload hx hb dX4_newLink_48 (lv_at hl 0 rfl) ?_
      refine va_aldq hx hb hK hP 1 0 rfl rfl (i := z50) (vp_in_iff.mpr (by omega)) dX4_newLink_50 ?_
      obtain ⟨o60, eo60⟩ : ∃ o, o = f58 (Int32.toNatClampNeg z50) := ⟨_, rfl⟩
      rw [← eo60]
      have oq9 := pfx_at (k := z50) (i := (x_pv_linkCount).toInt.toNat) pk9 eo60 (by omega) (by omega)
      subst oq9
      show W p l e _ s m _ below meth c _ _ _ _ _ (F0 m 51 ls [.ref (la55 (x_pv_linkCount).toInt.toNat)])
      refine lv_astore (lv' := [(5, .ref (la55 (x_pv_linkCount).toInt.toNat)), (4, .int z50), (0, .ref h_pv), (1, .int p1), (2, .int p2), (3, .ref b1)]) hx hb dX4_newLink_51 hl (by decide) rfl (fun ls hl => ?_)
      refine lv_aload hx hb dX4_newLink_53 (lv_at hl 0 rfl) ?_
      refine lv_iload_n hx hb dX4_newLink_55 rfl (lv_at hl 3 rfl) ?_
      refine va_putN (D := (dC, dI)) (ci := 10) (v := .int p1) (ty := tyX2 0) (C := RX2) (T := TX2) (N := 4) (host := "OppositePairs") hx hb hw iwX2 tyX2 tyX2_ok nmX2 hown hK hP hD hS (2 + (nr + (x_pv_linkCount).toInt.toNat)) (pl_L (X := [(h_pv, .inr (3, (mo176 v_pv (.ref h_lks) (.int z59)))), (h_lks, .inl (cy_lks, 210, .inr (.inr (.inr (.inr f58)))))]) (by omega)) rfl 0 (by decide) (hN.use n_f_X4_174 rfl) (fun _ h9 => h9) rfl (tyX2_ok 0 (by decide)) rfl rfl (Nat.le_of_ble_eq_true rfl) dX4_newLink_56 (fun H locs hP hD hS => ?_)
      have hP : va_P (dC, dI) cls (wp [(h_pv, .inr (3, (mo176 v_pv (.ref h_lks) (.int z59)))), (h_lks, .inl (cy_lks, 210, .inr (.inr (.inr (.inr f58)))))] (PL nr ra rf nl54 la55 (va_up lf56 (x_pv_linkCount).toInt.toNat (p1, (lf56 (x_pv_linkCount).toInt.toNat).2.1, (lf56 (x_pv_linkCount).toInt.toNat).2.2.1, (lf56 (x_pv_linkCount).toInt.toNat).2.2.2)) ns sa sf)) H := by rw [← pl_setL (i := (x_pv_linkCount).toInt.toNat) (by omega)]; exact hP
      have hD : va_D A (wp [(h_pv, .inr (3, (mo176 v_pv (.ref h_lks) (.int z59)))), (h_lks, .inl (cy_lks, 210, .inr (.inr (.inr (.inr f58)))))] (PL nr ra rf nl54 la55 (va_up lf56 (x_pv_linkCount).toInt.toNat (p1, (lf56 (x_pv_linkCount).toInt.toNat).2.1, (lf56 (x_pv_linkCount).toInt.toNat).2.2.1, (lf56 (x_pv_linkCount).toInt.toNat).2.2.2)) ns sa sf)) := by rw [← pl_setL (i := (x_pv_linkCount).toInt.toNat) (by omega)]; exact hD
      refine lv_aload hx hb dX4_newLink_59 (lv_at hl 0 rfl) ?_
      refine lv_iload_n hx hb dX4_newLink_61 rfl (lv_at hl 4 rfl) ?_
      refine va_putN (D := (dC, dI)) (ci := 10) (v := .int p2) (ty := tyX2 1) (C := RX2) (T := TX2) (N := 4) (host := "OppositePairs") hx hb hw iwX2 tyX2 tyX2_ok nmX2 hown hK hP hD hS (2 + (nr + (x_pv_linkCount).toInt.toNat)) (pl_L2 (X := [(h_pv, .inr (3, (mo176 v_pv (.ref h_lks) (.int z59)))), (h_lks, .inl (cy_lks, 210, .inr (.inr (.inr (.inr f58)))))]) (by omega)) rfl 1 (by decide) (hN.use n_f_X4_175 rfl) (fun _ h9 => h9) rfl (tyX2_ok 1 (by decide)) rfl rfl (Nat.le_of_ble_eq_true rfl) dX4_newLink_62 (fun H locs hP hD hS => ?_)
      have hP : va_P (dC, dI) cls (wp [(h_pv, .inr (3, (mo176 v_pv (.ref h_lks) (.int z59)))), (h_lks, .inl (cy_lks, 210, .inr (.inr (.inr (.inr f58)))))] (PL nr ra rf nl54 la55 (va_up lf56 (x_pv_linkCount).toInt.toNat (p1, p2, (lf56 (x_pv_linkCount).toInt.toNat).2.2.1, (lf56 (x_pv_linkCount).toInt.toNat).2.2.2)) ns sa sf)) H := by rw [← pl_setL2 (i := (x_pv_linkCount).toInt.toNat) (by omega)]; exact hP
      have hD : va_D A (wp [(h_pv, .inr (3, (mo176 v_pv (.ref h_lks) (.int z59)))), (h_lks, .inl (cy_lks, 210, .inr (.inr (.inr (.inr f58)))))] (PL nr ra rf nl54 la55 (va_up lf56 (x_pv_linkCount).toInt.toNat (p1, p2, (lf56 (x_pv_linkCount).toInt.toNat).2.2.1, (lf56 (x_pv_linkCount).toInt.toNat).2.2.2)) ns sa sf)) := by rw [← pl_setL2 (i := (x_pv_linkCount).toInt.toNat) (by omega)]; exact hD
      refine lv_aload hx hb dX4_newLink_65 (lv_at hl 0 rfl) ?_
      refine lv_aload_n hx hb dX4_newLink_67 rfl (lv_at hl 5 rfl) ?_
      show W p l e _ s m _ below meth c _ _ _ _ _ (F0 m 68 _ (va_rf (some b1) :: _))
      refine va_putN (D := (dC, dI)) (ci := 10) (v := (va_rf (some b1))) (ty := tyX2 3) (C := RX2) (T := TX2) (N := 4) (host := "OppositePairs") hx hb hw iwX2 tyX2 tyX2_ok nmX2 hown hK hP hD hS (2 + (nr + (x_pv_linkCount).toInt.toNat)) (pl_L2 (X := [(h_pv, .inr (3, (mo176 v_pv (.ref h_lks) (.int z59)))), (h_lks, .inl (cy_lks, 210, .inr (.inr (.inr (.inr f58)))))]) (by omega)) rfl 3 (by decide) (hN.use n_f_X4_181 rfl) (fun _ h9 => h9) rfl (tyX2_ok 3 (by decide)) (rf_nar (some b1) _) (rf_fit (some b1) _) (Nat.le_of_ble_eq_true rfl) dX4_newLink_68 (fun H locs hP hD hS => ?_)
      have hP : va_P (dC, dI) cls (wp [(h_pv, .inr (3, (mo176 v_pv (.ref h_lks) (.int z59)))), (h_lks, .inl (cy_lks, 210, .inr (.inr (.inr (.inr f58)))))] (PL nr ra rf nl54 la55 (va_up lf56 (x_pv_linkCount).toInt.toNat (p1, p2, (lf56 (x_pv_linkCount).toInt.toNat).2.2.1, (some b1))) ns sa sf)) H := by rw [← pl_setL2 (i := (x_pv_linkCount).toInt.toNat) (by omega)]; exact hP
      have hD : va_D A (wp [(h_pv, .inr (3, (mo176 v_pv (.ref h_lks) (.int z59)))), (h_lks, .inl (cy_lks, 210, .inr (.inr (.inr (.inr f58)))))] (PL nr ra rf nl54 la55 (va_up lf56 (x_pv_linkCount).toInt.toNat (p1, p2, (lf56 (x_pv_linkCount).toInt.toNat).2.2.1, (some b1))) ns sa sf)) := by rw [← pl_setL2 (i := (x_pv_linkCount).toInt.toNat) (by omega)]; exact hD
      refine lv_aload hx hb dX4_newLink_71 (lv_at hl 0 rfl) ?_
      refine lv_aload_n hx hb dX4_newLink_73 rfl (lv_at hl 5 rfl) ?_
      obtain ⟨lf61, elf61⟩ : ∃ g, g = (va_up lf56 (x_pv_linkCount).toInt.toNat (p1, p2, (lf56 (x_pv_linkCount).toInt.toNat).2.2.1, (some b1))) := ⟨_, rfl⟩
      have hP : va_P (dC, dI) cls (wp [(h_pv, .inr (3, (mo176 v_pv (.ref h_lks) (.int z59)))), (h_lks, .inl (cy_lks, 210, .inr (.inr (.inr (.inr f58)))))] (PL nr ra rf nl54 la55 lf61 ns sa sf)) H := by rw [elf61]; exact hP
      have hD : va_D A (wp [(h_pv, .inr (3, (mo176 v_pv (.ref h_lks) (.int z59)))), (h_lks, .inl (cy_lks, 210, .inr (.inr (.inr (.inr f58)))))] (PL nr ra rf nl54 la55 lf61 ns sa sf)) := by rw [elf61]; exact hD
      have slf61 : lf61 (x_pv_linkCount).toInt.toNat = (p1, p2, (lf56 (x_pv_linkCount).toInt.toNat).2.2.1, (some b1)) := by rw [elf61]; exact up_self _ _ _
      have olf61 : ∀ j : Nat, j ≠ (x_pv_linkCount).toInt.toNat → lf61 j = lf56 j := fun j hj => by rw [elf61]; exact up_ne hj
      have pb9 : PB la55 (x_pv_linkCount).toInt (some b1) := pb_mono hn_pb (by omega) (fun m hm => ag9 m (by omega))
      obtain ⟨xs9, lx9⟩ := hn_lkx
      have hPc : va_P (dC, dI) cls (wp [] (PL nr ra rf nl54 la55 lf61 ns sa sf)) H := va_P.part (cx := []) hP [] rfl
      have hDc : va_D A (wp [] (PL nr ra rf nl54 la55 lf61 ns sa sf)) := va_D.part (cx := []) hD [] (by decide) rfl
      have hKc := hK.sub (tys' := []) [] rfl
      have hFc : ∀ q, va_A (wp [] (PL nr ra rf nl54 la55 lf61 ns sa sf)) H.size q → A q := va_freeP (cx := []) hD hS hA [] rfl
      refine va_calli (va_runSN (As := [.ref b1]) (rest := [.ref (la55 (x_pv_linkCount).toInt.toNat)]) ⟨hx, hb, hml, hown, hts⟩ (c_X10_lengthOf l dC dI H.size nr ra rf nl54 la55 lf61 ns sa sf (some b1) (x_pv_linkCount).toInt (by omega) pb9) ⟨va_cnB (host := "OppositePairs") 1 hts (gd hT w_code_X10_lengthOf) rfl rfl rfl (hN _ n_m_X4_240) (hw _ w_ini_X10) (by decide +kernel) ⟨(by dsimp only [headSpec]; omega), (by dsimp only [headSpec]; omega)⟩, hw _ w_static_X10_lengthOf, trivial⟩ ⟨pre_blind, pre_of hPc hKc hDc hN⟩ rfl rfl hl.1 rfl (lv_room (Nat.le_of_ble_eq_true rfl)) dX4_newLink_74 ⟨(by dsimp only [headSpec]; omega), (by dsimp only [headSpec]; omega)⟩) hS (fun q _ h => hFc q h) hFc (fun r62 u t H locs ht hvm hq hB hz1 hk1 hS9 => ?_)
      obtain ⟨hP1, hD1⟩ := hB
      rw [ht] at hP1
      obtain ⟨hP9, hD9⟩ := va_joinP (wr := [(h_pv, .inr (3, (mo176 v_pv (.ref h_lks) (.int z59)))), (h_lks, .inl (cy_lks, 210, .inr (.inr (.inr (.inr f58)))))]) (rx := []) (cx := []) hP hD [] [0, 1] rfl rfl (by decide) (by decide) hk1 hFc hP1 hD1
      clear hP hD hS hPc hDc hKc hFc hP1 hD1 hk1 hz1 ht hvm
      have hP : va_P (dC, dI) cls (wp [(h_pv, .inr (3, (mo176 v_pv (.ref h_lks) (.int z59)))), (h_lks, .inl (cy_lks, 210, .inr (.inr (.inr (.inr f58)))))] (PL nr ra rf nl54 la55 lf61 ns sa sf)) H := hP9
      have hD : va_D A (wp [(h_pv, .inr (3, (mo176 v_pv (.ref h_lks) (.int z59)))), (h_lks, .inl (cy_lks, 210, .inr (.inr (.inr (.inr f58)))))] (PL nr ra rf nl54 la55 lf61 ns sa sf)) := hD9
      have hS := hS9
      clear hP9 hD9 hS9
      have k63 : ∀ xs : List LKT, LKR (la55) (lf61) ((x_pv_linkCount).toInt) ((some b1)) xs → ((r62)).toInt = (xs.length : Int) := hq
      clear hq
      have lm9 := k63 xs9 (lkr_mono _ _ _ _ lx9 (Int.le_refl _) (fun i9 h9 => ⟨ag9 i9 (by omega), (olf61 i9 (by omega)).trans (af9 i9 (by omega))⟩))
      have ll9 := lkr_len _ _ _ (by omega) lx9
      have lr9 : 0 ≤ (r62).toInt ∧ (r62).toInt ≤ 209 := by omega
      refine lv_iconst (v := 1) hx hb dX4_newLink_77 (by decide) ?_
      refine lv_iadd hx hb dX4_newLink_78 ?_
      refine lv_topi (fun z64 ez64 => ?_)
      have tz64 : (z64).toInt = (r62).toInt + 1 := by rw [ez64]; exact i_add rfl (by decide) (by omega)
      refine va_putN (D := (dC, dI)) (ci := 10) (v := .int z64) (ty := tyX2 2) (C := RX2) (T := TX2) (N := 4) (host := "OppositePairs") hx hb hw iwX2 tyX2 tyX2_ok nmX2 hown hK hP hD hS (2 + (nr + (x_pv_linkCount).toInt.toNat)) (pl_L (X := [(h_pv, .inr (3, (mo176 v_pv (.ref h_lks) (.int z59)))), (h_lks, .inl (cy_lks, 210, .inr (.inr (.inr (.inr f58)))))]) (by omega)) rfl 2 (by decide) (hN.use n_f_X4_266 rfl) (fun _ h9 => h9) rfl (tyX2_ok 2 (by decide)) rfl rfl (Nat.le_of_ble_eq_true rfl) dX4_newLink_79 (fun H locs hP hD hS => ?_)
      have hP : va_P (dC, dI) cls (wp [(h_pv, .inr (3, (mo176 v_pv (.ref h_lks) (.int z59)))), (h_lks, .inl (cy_lks, 210, .inr (.inr (.inr (.inr f58)))))] (PL nr ra rf nl54 la55 (va_up lf61 (x_pv_linkCount).toInt.toNat ((lf61 (x_pv_linkCount).toInt.toNat).1, (lf61 (x_pv_linkCount).toInt.toNat).2.1, z64, (lf61 (x_pv_linkCount).toInt.toNat).2.2.2)) ns sa sf)) H := by rw [← pl_setL (i := (x_pv_linkCount).toInt.toNat) (by omega)]; exact hP
      have hD : va_D A (wp [(h_pv, .inr (3, (mo176 v_pv (.ref h_lks) (.int z59)))), (h_lks, .inl (cy_lks, 210, .inr (.inr (.inr (.inr f58)))))] (PL nr ra rf nl54 la55 (va_up lf61 (x_pv_linkCount).toInt.toNat ((lf61 (x_pv_linkCount).toInt.toNat).1, (lf61 (x_pv_linkCount).toInt.toNat).2.1, z64, (lf61 (x_pv_linkCount).toInt.toNat).2.2.2)) ns sa sf)) := by rw [← pl_setL (i := (x_pv_linkCount).toInt.toNat) (by omega)]; exact hD
      refine lv_aload hx hb dX4_newLink_82 (lv_at hl 0 rfl) ?_
      obtain ⟨lf65, elf65⟩ : ∃ g, g = (va_up lf61 (x_pv_linkCount).toInt.toNat ((lf61 (x_pv_linkCount).toInt.toNat).1, (lf61 (x_pv_linkCount).toInt.toNat).2.1, z64, (lf61 (x_pv_linkCount).toInt.toNat).2.2.2)) := ⟨_, rfl⟩
      have hP : va_P (dC, dI) cls (wp [(h_pv, .inr (3, (mo176 v_pv (.ref h_lks) (.int z59)))), (h_lks, .inl (cy_lks, 210, .inr (.inr (.inr (.inr f58)))))] (PL nr ra rf nl54 la55 lf65 ns sa sf)) H := by rw [elf65]; exact hP
      have hD : va_D A (wp [(h_pv, .inr (3, (mo176 v_pv (.ref h_lks) (.int z59)))), (h_lks, .inl (cy_lks, 210, .inr (.inr (.inr (.inr f58)))))] (PL nr ra rf nl54 la55 lf65 ns sa sf)) := by rw [elf65]; exact hD
      have slf65 : lf65 (x_pv_linkCount).toInt.toNat = ((lf61 (x_pv_linkCount).toInt.toNat).1, (lf61 (x_pv_linkCount).toInt.toNat).2.1, z64, (lf61 (x_pv_linkCount).toInt.toNat).2.2.2) := by rw [elf65]; exact up_self _ _ _
      have olf65 : ∀ j : Nat, j ≠ (x_pv_linkCount).toInt.toNat → lf65 j = lf61 j := fun j hj => by rw [elf65]; exact up_ne hj
      have lk66s : lf65 (x_pv_linkCount).toInt.toNat = (p1, p2, z64, (some b1)) := by rw [slf65, slf61]
      have lk66o : ∀ j : Nat, j ≠ (x_pv_linkCount).toInt.toNat → lf65 j = lf56 j := fun j hj => (olf65 j hj).trans (olf61 j hj)
      have lk66 : LOK nl54 la55 lf65 := lok_set lk9 lk66o lk66s (by omega) (by omega) (pb_mono pb9 (by omega) (fun m hm => rfl))
      have lk66n : ∀ i : Nat, i ≠ (x_pv_linkCount).toInt.toNat → lf65 i = lf i := fun i hi => (lk66o i hi).trans (af9 i hi)
      have lx67k : ∀ xs : List LKT, LKR la lf (x_pv_linkCount).toInt (some b1) xs → (lf65 (x_pv_linkCount).toInt.toNat).2.2.1.toInt = (xs.length : Int) + 1 := fun xs8 h8 => by have h7 := k63 xs8 (lkr_mono _ _ _ _ h8 (Int.le_refl _) (fun i9 h9 => ⟨ag9 i9 (by omega), (olf61 i9 (by omega)).trans (af9 i9 (by omega))⟩)); rw [lk66s]; show (z64).toInt = _; omega
      have lx67e : (lf65 (x_pv_linkCount).toInt.toNat).1 = p1 ∧ (lf65 (x_pv_linkCount).toInt.toNat).2.1 = p2 ∧ (lf65 (x_pv_linkCount).toInt.toNat).2.2.2 = (some b1) := by rw [lk66s]; exact ⟨rfl, rfl, rfl⟩
      refine W.widen (k := ((x_pv_linkCount).toInt.toNat + 1 - nl)) (n := 4 * ((x_pv_linkCount).toInt.toNat + 1 - nl)) (by omega) (by omega) ?_
      have w68 : 0 ≤ ((z59)).toInt ∧ ((z59)).toInt ≤ 210 := by omega
      have w69 : ((z59)).toInt = (x_pv_linkCount).toInt + 1 := by omega
      have w70 : nl ≤ (nl54) ∧ (x_pv_linkCount).toInt + 1 ≤ (nl54) := by omega
      have w71 : GR2 nl (nl54) ((z59)).toInt := (gr2_up (by omega) (by omega))
      have w72 : PFX (nl54) 210 (f58) (la55) := pk9
      have w73 : LOK (nl54) (la55) (lf65) := lk66
      have w74 : ∀ i : Nat, i < nl → (la55) i = la i := ag9
      have w75 : ∀ i : Nat, i ≠ (x_pv_linkCount).toInt.toNat → (lf65) i = lf i := lk66n
      have w76 : (some (la55 (x_pv_linkCount).toInt.toNat) : Option Nat) = some ((la55) (x_pv_linkCount).toInt.toNat) := rfl
      have w77 : ∀ xs : List LKT, LKR la lf (x_pv_linkCount).toInt (some b1) xs → ((lf65) (x_pv_linkCount).toInt.toNat).2.2.1.toInt = (xs.length : Int) + 1 := lx67k
      have w78 : ((lf65) (x_pv_linkCount).toInt.toNat).1 = p1 ∧ ((lf65) (x_pv_linkCount).toInt.toNat).2.1 = p2 ∧ ((lf65) (x_pv_linkCount).toInt.toNat).2.2.2 = (some b1) := lx67e
      exact W.aret (v := va_rf (some (la55 (x_pv_linkCount).toInt.toNat))) hx hb hr (Or.inl ⟨_, rfl⟩) (va_rf_or _) (fun t ht hW => ⟨⟨(some (la55 (x_pv_linkCount).toInt.toNat)), (z59, f58, nl54, la55, lf65), rfl, ⟨w68, w69, w70, w71, w72, w73, w74, w75, w76, w77, w78⟩, by rw [ht]; exact hP, hD⟩, hS.F ht⟩) hS.2.2 dX4_newLink_84
    · have hl : lv_has ls 6 [(4, .int z50), (0, .ref h_pv), (1, .int p1), (2, .int p2), (3, .ref b1)] := hl
      show W p l e _ s m _ below meth c _ _ _ _ _ (F0 m 19 ls [.ref b52])
      have nq9 := pfx_some (k := z50) hn_pk (by omega) eo51
      refine lv_ifnonnull (tgt := 36) hx hb dX4_newLink_19 (by decide) ?_
      refine lv_aload_n hx hb dX4_newLink_36 rfl (lv_at hl 1 rfl) ?_
      refine lv_iload hx hb dX4_newLink_37 (lv_at hl 0 rfl) ?_
      refine lv_iconst (v := 1) hx hb dX4_newLink_39 (by decide) ?_
      refine lv_iadd hx hb dX4_newLink_40 ?_
      refine lv_topi (fun z79 ez79 => ?_)
      have tz79 : (z79).toInt = (z50).toInt + 1 := by rw [ez79]; exact i_add rfl (by decide) (by omega)
      refine va_put (D := (dC, dI)) (ci := 3) (v := .int z79) (ty := tyX4 5) (C := RX4) (T := TX4) (N := 18) hx hb hw iwX4 tyX4 tyX4_ok nmX4 hown hK hP hD hS 0 rfl rfl 5 (by decide) (hw _ w_f_X4_104) (fun _ h9 => h9) rfl (tyX4_ok 5 (by decide)) rfl rfl (Nat.le_of_ble_eq_true rfl) dX4_newLink_41 (fun H locs hP9 hD9 hS9 => ?_)
      clear hP hD hS
      have hP : va_P (dC, dI) cls (wp [(h_pv, .inr (3, (mo176 v_pv (.ref h_lks) (.int z79)))), (h_lks, .inl (cy_lks, 210, .inr (.inr (.inr (.inr f_lks)))))] (PL nr ra rf nl la lf ns sa sf)) H := hP9
      have hD : va_D A (wp [(h_pv, .inr (3, (mo176 v_pv (.ref h_lks) (.int z79)))), (h_lks, .inl (cy_lks, 210, .inr (.inr (.inr (.inr f_lks)))))] (PL nr ra rf nl la lf ns sa sf)) := hD9
      have hS := hS9
      clear hP9 hD9 hS9
      refine lv_aload_n hx hb dX4_newLink_44 rfl (lv_at hl 1 rfl) ?_
      refine va_get (D := (dC, dI)) (ci := 3) (v := .ref h_lks) (C := RX4) (T := TX4) (N := 18) hx hb hw iwX4 hown hK hP 0 rfl rfl 4 (by decide) (hw _ w_f_X4_19) (fun _ h9 => h9) rfl dX4_newLink_45 ?_
      refine lv_iload hx hb dX4_newLink_48 (lv_at hl 0 rfl) ?_
      refine va_aldq hx hb hK hP 1 0 rfl rfl (i := z50) (vp_in_iff.mpr (by omega)) dX4_newLink_50 ?_
      obtain ⟨o80, eo80⟩ : ∃ o, o = f_lks (Int32.toNatClampNeg z50) := ⟨_, rfl⟩
      rw [← eo80]
      have oq9 := pfx_at (k := z50) (i := (x_pv_linkCount).toInt.toNat) hn_pk eo80 (by omega) (by omega)
      subst oq9
      show W p l e _ s m _ below meth c _ _ _ _ _ (F0 m 51 ls [.ref (la (x_pv_linkCount).toInt.toNat)])
      refine lv_astore (lv' := [(5, .ref (la (x_pv_linkCount).toInt.toNat)), (4, .int z50), (0, .ref h_pv), (1, .int p1), (2, .int p2), (3, .ref b1)]) hx hb dX4_newLink_51 hl (by decide) rfl (fun ls hl => ?_)
      refine lv_aload hx hb dX4_newLink_53 (lv_at hl 0 rfl) ?_
      refine lv_iload_n hx hb dX4_newLink_55 rfl (lv_at hl 3 rfl) ?_
      refine va_putN (D := (dC, dI)) (ci := 10) (v := .int p1) (ty := tyX2 0) (C := RX2) (T := TX2) (N := 4) (host := "OppositePairs") hx hb hw iwX2 tyX2 tyX2_ok nmX2 hown hK hP hD hS (2 + (nr + (x_pv_linkCount).toInt.toNat)) (pl_L (X := [(h_pv, .inr (3, (mo176 v_pv (.ref h_lks) (.int z79)))), (h_lks, .inl (cy_lks, 210, .inr (.inr (.inr (.inr f_lks)))))]) (by omega)) rfl 0 (by decide) (hN.use n_f_X4_174 rfl) (fun _ h9 => h9) rfl (tyX2_ok 0 (by decide)) rfl rfl (Nat.le_of_ble_eq_true rfl) dX4_newLink_56 (fun H locs hP hD hS => ?_)
      have hP : va_P (dC, dI) cls (wp [(h_pv, .inr (3, (mo176 v_pv (.ref h_lks) (.int z79)))), (h_lks, .inl (cy_lks, 210, .inr (.inr (.inr (.inr f_lks)))))] (PL nr ra rf nl la (va_up lf (x_pv_linkCount).toInt.toNat (p1, (lf (x_pv_linkCount).toInt.toNat).2.1, (lf (x_pv_linkCount).toInt.toNat).2.2.1, (lf (x_pv_linkCount).toInt.toNat).2.2.2)) ns sa sf)) H := by rw [← pl_setL (i := (x_pv_linkCount).toInt.toNat) (by omega)]; exact hP
      have hD : va_D A (wp [(h_pv, .inr (3, (mo176 v_pv (.ref h_lks) (.int z79)))), (h_lks, .inl (cy_lks, 210, .inr (.inr (.inr (.inr f_lks)))))] (PL nr ra rf nl la (va_up lf (x_pv_linkCount).toInt.toNat (p1, (lf (x_pv_linkCount).toInt.toNat).2.1, (lf (x_pv_linkCount).toInt.toNat).2.2.1, (lf (x_pv_linkCount).toInt.toNat).2.2.2)) ns sa sf)) := by rw [← pl_setL (i := (x_pv_linkCount).toInt.toNat) (by omega)]; exact hD
      refine lv_aload hx hb dX4_newLink_59 (lv_at hl 0 rfl) ?_
      refine lv_iload_n hx hb dX4_newLink_61 rfl (lv_at hl 4 rfl) ?_
      refine va_putN (D := (dC, dI)) (ci := 10) (v := .int p2) (ty := tyX2 1) (C := RX2) (T := TX2) (N := 4) (host := "OppositePairs") hx hb hw iwX2 tyX2 tyX2_ok nmX2 hown hK hP hD hS (2 + (nr + (x_pv_linkCount).toInt.toNat)) (pl_L2 (X := [(h_pv, .inr (3, (mo176 v_pv (.ref h_lks) (.int z79)))), (h_lks, .inl (cy_lks, 210, .inr (.inr (.inr (.inr f_lks)))))]) (by omega)) rfl 1 (by decide) (hN.use n_f_X4_175 rfl) (fun _ h9 => h9) rfl (tyX2_ok 1 (by decide)) rfl rfl (Nat.le_of_ble_eq_true rfl) dX4_newLink_62 (fun H locs hP hD hS => ?_)
      have hP : va_P (dC, dI) cls (wp [(h_pv, .inr (3, (mo176 v_pv (.ref h_lks) (.int z79)))), (h_lks, .inl (cy_lks, 210, .inr (.inr (.inr (.inr f_lks)))))] (PL nr ra rf nl la (va_up lf (x_pv_linkCount).toInt.toNat (p1, p2, (lf (x_pv_linkCount).toInt.toNat).2.2.1, (lf (x_pv_linkCount).toInt.toNat).2.2.2)) ns sa sf)) H := by rw [← pl_setL2 (i := (x_pv_linkCount).toInt.toNat) (by omega)]; exact hP
      have hD : va_D A (wp [(h_pv, .inr (3, (mo176 v_pv (.ref h_lks) (.int z79)))), (h_lks, .inl (cy_lks, 210, .inr (.inr (.inr (.inr f_lks)))))] (PL nr ra rf nl la (va_up lf (x_pv_linkCount).toInt.toNat (p1, p2, (lf (x_pv_linkCount).toInt.toNat).2.2.1, (lf (x_pv_linkCount).toInt.toNat).2.2.2)) ns sa sf)) := by rw [← pl_setL2 (i := (x_pv_linkCount).toInt.toNat) (by omega)]; exact hD
      refine lv_aload hx hb dX4_newLink_65 (lv_at hl 0 rfl) ?_
      refine lv_aload_n hx hb dX4_newLink_67 rfl (lv_at hl 5 rfl) ?_
      show W p l e _ s m _ below meth c _ _ _ _ _ (F0 m 68 _ (va_rf (some b1) :: _))
      refine va_putN (D := (dC, dI)) (ci := 10) (v := (va_rf (some b1))) (ty := tyX2 3) (C := RX2) (T := TX2) (N := 4) (host := "OppositePairs") hx hb hw iwX2 tyX2 tyX2_ok nmX2 hown hK hP hD hS (2 + (nr + (x_pv_linkCount).toInt.toNat)) (pl_L2 (X := [(h_pv, .inr (3, (mo176 v_pv (.ref h_lks) (.int z79)))), (h_lks, .inl (cy_lks, 210, .inr (.inr (.inr (.inr f_lks)))))]) (by omega)) rfl 3 (by decide) (hN.use n_f_X4_181 rfl) (fun _ h9 => h9) rfl (tyX2_ok 3 (by decide)) (rf_nar (some b1) _) (rf_fit (some b1) _) (Nat.le_of_ble_eq_true rfl) dX4_newLink_68 (fun H locs hP hD hS => ?_)
      have hP : va_P (dC, dI) cls (wp [(h_pv, .inr (3, (mo176 v_pv (.ref h_lks) (.int z79)))), (h_lks, .inl (cy_lks, 210, .inr (.inr (.inr (.inr f_lks)))))] (PL nr ra rf nl la (va_up lf (x_pv_linkCount).toInt.toNat (p1, p2, (lf (x_pv_linkCount).toInt.toNat).2.2.1, (some b1))) ns sa sf)) H := by rw [← pl_setL2 (i := (x_pv_linkCount).toInt.toNat) (by omega)]; exact hP
      have hD : va_D A (wp [(h_pv, .inr (3, (mo176 v_pv (.ref h_lks) (.int z79)))), (h_lks, .inl (cy_lks, 210, .inr (.inr (.inr (.inr f_lks)))))] (PL nr ra rf nl la (va_up lf (x_pv_linkCount).toInt.toNat (p1, p2, (lf (x_pv_linkCount).toInt.toNat).2.2.1, (some b1))) ns sa sf)) := by rw [← pl_setL2 (i := (x_pv_linkCount).toInt.toNat) (by omega)]; exact hD
      refine lv_aload hx hb dX4_newLink_71 (lv_at hl 0 rfl) ?_
      refine lv_aload_n hx hb dX4_newLink_73 rfl (lv_at hl 5 rfl) ?_
      obtain ⟨lf81, elf81⟩ : ∃ g, g = (va_up lf (x_pv_linkCount).toInt.toNat (p1, p2, (lf (x_pv_linkCount).toInt.toNat).2.2.1, (some b1))) := ⟨_, rfl⟩
      have hP : va_P (dC, dI) cls (wp [(h_pv, .inr (3, (mo176 v_pv (.ref h_lks) (.int z79)))), (h_lks, .inl (cy_lks, 210, .inr (.inr (.inr (.inr f_lks)))))] (PL nr ra rf nl la lf81 ns sa sf)) H := by rw [elf81]; exact hP
      have hD : va_D A (wp [(h_pv, .inr (3, (mo176 v_pv (.ref h_lks) (.int z79)))), (h_lks, .inl (cy_lks, 210, .inr (.inr (.inr (.inr f_lks)))))] (PL nr ra rf nl la lf81 ns sa sf)) := by rw [elf81]; exact hD
      have slf81 : lf81 (x_pv_linkCount).toInt.toNat = (p1, p2, (lf (x_pv_linkCount).toInt.toNat).2.2.1, (some b1)) := by rw [elf81]; exact up_self _ _ _
      have olf81 : ∀ j : Nat, j ≠ (x_pv_linkCount).toInt.toNat → lf81 j = lf j := fun j hj => by rw [elf81]; exact up_ne hj
      have pb9 : PB la (x_pv_linkCount).toInt (some b1) := pb_mono hn_pb (by omega) (fun m hm => ag0 m (by omega))
      obtain ⟨xs9, lx9⟩ := hn_lkx
      have hPc : va_P (dC, dI) cls (wp [] (PL nr ra rf nl la lf81 ns sa sf)) H := va_P.part (cx := []) hP [] rfl
      have hDc : va_D A (wp [] (PL nr ra rf nl la lf81 ns sa sf)) := va_D.part (cx := []) hD [] (by decide) rfl
      have hKc := hK.sub (tys' := []) [] rfl
      have hFc : ∀ q, va_A (wp [] (PL nr ra rf nl la lf81 ns sa sf)) H.size q → A q := va_freeP (cx := []) hD hS hA [] rfl
      refine va_calli (va_runSN (As := [.ref b1]) (rest := [.ref (la (x_pv_linkCount).toInt.toNat)]) ⟨hx, hb, hml, hown, hts⟩ (c_X10_lengthOf l dC dI H.size nr ra rf nl la lf81 ns sa sf (some b1) (x_pv_linkCount).toInt (by first | exact q3 | omega) pb9) ⟨va_cnB (host := "OppositePairs") 1 hts (gd hT w_code_X10_lengthOf) rfl rfl rfl (hN _ n_m_X4_240) (hw _ w_ini_X10) (by decide +kernel) ⟨(by dsimp only [headSpec]; omega), (by dsimp only [headSpec]; omega)⟩, hw _ w_static_X10_lengthOf, trivial⟩ ⟨pre_blind, pre_of hPc hKc hDc hN⟩ rfl rfl hl.1 rfl (lv_room (Nat.le_of_ble_eq_true rfl)) dX4_newLink_74 ⟨(by dsimp only [headSpec]; omega), (by dsimp only [headSpec]; omega)⟩) hS (fun q _ h => hFc q h) hFc (fun r82 u t H locs ht hvm hq hB hz1 hk1 hS9 => ?_)
      obtain ⟨hP1, hD1⟩ := hB
      rw [ht] at hP1
      obtain ⟨hP9, hD9⟩ := va_joinP (wr := [(h_pv, .inr (3, (mo176 v_pv (.ref h_lks) (.int z79)))), (h_lks, .inl (cy_lks, 210, .inr (.inr (.inr (.inr f_lks)))))]) (rx := []) (cx := []) hP hD [] [0, 1] rfl rfl (by decide) (by decide) hk1 hFc hP1 hD1
      clear hP hD hS hPc hDc hKc hFc hP1 hD1 hk1 hz1 ht hvm
      have hP : va_P (dC, dI) cls (wp [(h_pv, .inr (3, (mo176 v_pv (.ref h_lks) (.int z79)))), (h_lks, .inl (cy_lks, 210, .inr (.inr (.inr (.inr f_lks)))))] (PL nr ra rf nl la lf81 ns sa sf)) H := hP9
      have hD : va_D A (wp [(h_pv, .inr (3, (mo176 v_pv (.ref h_lks) (.int z79)))), (h_lks, .inl (cy_lks, 210, .inr (.inr (.inr (.inr f_lks)))))] (PL nr ra rf nl la lf81 ns sa sf)) := hD9
      have hS := hS9
      clear hP9 hD9 hS9
      have k83 : ∀ xs : List LKT, LKR (la) (lf81) ((x_pv_linkCount).toInt) ((some b1)) xs → ((r82)).toInt = (xs.length : Int) := hq
      clear hq
      have lm9 := k83 xs9 (lkr_mono _ _ _ _ lx9 (Int.le_refl _) (fun i9 h9 => ⟨ag0 i9 (by omega), (olf81 i9 (by omega)).trans (af0 i9 (by omega))⟩))
      have ll9 := lkr_len _ _ _ (by omega) lx9
      have lr9 : 0 ≤ (r82).toInt ∧ (r82).toInt ≤ 209 := by omega
      refine lv_iconst (v := 1) hx hb dX4_newLink_77 (by decide) ?_
      refine lv_iadd hx hb dX4_newLink_78 ?_
      refine lv_topi (fun z84 ez84 => ?_)
      have tz84 : (z84).toInt = (r82).toInt + 1 := by rw [ez84]; exact i_add rfl (by decide) (by omega)
      refine va_putN (D := (dC, dI)) (ci := 10) (v := .int z84) (ty := tyX2 2) (C := RX2) (T := TX2) (N := 4) (host := "OppositePairs") hx hb hw iwX2 tyX2 tyX2_ok nmX2 hown hK hP hD hS (2 + (nr + (x_pv_linkCount).toInt.toNat)) (pl_L (X := [(h_pv, .inr (3, (mo176 v_pv (.ref h_lks) (.int z79)))), (h_lks, .inl (cy_lks, 210, .inr (.inr (.inr (.inr f_lks)))))]) (by omega)) rfl 2 (by decide) (hN.use n_f_X4_266 rfl) (fun _ h9 => h9) rfl (tyX2_ok 2 (by decide)) rfl rfl (Nat.le_of_ble_eq_true rfl) dX4_newLink_79 (fun H locs hP hD hS => ?_)
      have hP : va_P (dC, dI) cls (wp [(h_pv, .inr (3, (mo176 v_pv (.ref h_lks) (.int z79)))), (h_lks, .inl (cy_lks, 210, .inr (.inr (.inr (.inr f_lks)))))] (PL nr ra rf nl la (va_up lf81 (x_pv_linkCount).toInt.toNat ((lf81 (x_pv_linkCount).toInt.toNat).1, (lf81 (x_pv_linkCount).toInt.toNat).2.1, z84, (lf81 (x_pv_linkCount).toInt.toNat).2.2.2)) ns sa sf)) H := by rw [← pl_setL (i := (x_pv_linkCount).toInt.toNat) (by omega)]; exact hP
      have hD : va_D A (wp [(h_pv, .inr (3, (mo176 v_pv (.ref h_lks) (.int z79)))), (h_lks, .inl (cy_lks, 210, .inr (.inr (.inr (.inr f_lks)))))] (PL nr ra rf nl la (va_up lf81 (x_pv_linkCount).toInt.toNat ((lf81 (x_pv_linkCount).toInt.toNat).1, (lf81 (x_pv_linkCount).toInt.toNat).2.1, z84, (lf81 (x_pv_linkCount).toInt.toNat).2.2.2)) ns sa sf)) := by rw [← pl_setL (i := (x_pv_linkCount).toInt.toNat) (by omega)]; exact hD
      refine lv_aload hx hb dX4_newLink_82 (lv_at hl 0 rfl) ?_
      obtain ⟨lf85, elf85⟩ : ∃ g, g = (va_up lf81 (x_pv_linkCount).toInt.toNat ((lf81 (x_pv_linkCount).toInt.toNat).1, (lf81 (x_pv_linkCount).toInt.toNat).2.1, z84, (lf81 (x_pv_linkCount).toInt.toNat).2.2.2)) := ⟨_, rfl⟩
      have hP : va_P (dC, dI) cls (wp [(h_pv, .inr (3, (mo176 v_pv (.ref h_lks) (.int z79)))), (h_lks, .inl (cy_lks, 210, .inr (.inr (.inr (.inr f_lks)))))] (PL nr ra rf nl la lf85 ns sa sf)) H := by rw [elf85]; exact hP
      have hD : va_D A (wp [(h_pv, .inr (3, (mo176 v_pv (.ref h_lks) (.int z79)))), (h_lks, .inl (cy_lks, 210, .inr (.inr (.inr (.inr f_lks)))))] (PL nr ra rf nl la lf85 ns sa sf)) := by rw [elf85]; exact hD
      have slf85 : lf85 (x_pv_linkCount).toInt.toNat = ((lf81 (x_pv_linkCount).toInt.toNat).1, (lf81 (x_pv_linkCount).toInt.toNat).2.1, z84, (lf81 (x_pv_linkCount).toInt.toNat).2.2.2) := by rw [elf85]; exact up_self _ _ _
      have olf85 : ∀ j : Nat, j ≠ (x_pv_linkCount).toInt.toNat → lf85 j = lf81 j := fun j hj => by rw [elf85]; exact up_ne hj
      have lk86s : lf85 (x_pv_linkCount).toInt.toNat = (p1, p2, z84, (some b1)) := by rw [slf85, slf81]
      have lk86o : ∀ j : Nat, j ≠ (x_pv_linkCount).toInt.toNat → lf85 j = lf j := fun j hj => (olf85 j hj).trans (olf81 j hj)
      have lk86 : LOK nl la lf85 := lok_set hn_lok lk86o lk86s (by omega) (by omega) (pb_mono pb9 (by omega) (fun m hm => rfl))
      have lk86n : ∀ i : Nat, i ≠ (x_pv_linkCount).toInt.toNat → lf85 i = lf i := fun i hi => (lk86o i hi).trans (af0 i hi)
      have lx87k : ∀ xs : List LKT, LKR la lf (x_pv_linkCount).toInt (some b1) xs → (lf85 (x_pv_linkCount).toInt.toNat).2.2.1.toInt = (xs.length : Int) + 1 := fun xs8 h8 => by have h7 := k83 xs8 (lkr_mono _ _ _ _ h8 (Int.le_refl _) (fun i9 h9 => ⟨ag0 i9 (by omega), (olf81 i9 (by omega)).trans (af0 i9 (by omega))⟩)); rw [lk86s]; show (z84).toInt = _; omega
      have lx87e : (lf85 (x_pv_linkCount).toInt.toNat).1 = p1 ∧ (lf85 (x_pv_linkCount).toInt.toNat).2.1 = p2 ∧ (lf85 (x_pv_linkCount).toInt.toNat).2.2.2 = (some b1) := by rw [lk86s]; exact ⟨rfl, rfl, rfl⟩
      refine W.widen (k := ((x_pv_linkCount).toInt.toNat + 1 - nl)) (n := 4 * ((x_pv_linkCount).toInt.toNat + 1 - nl)) (by omega) (by omega) ?_
      have w88 : 0 ≤ ((z79)).toInt ∧ ((z79)).toInt ≤ 210 := by omega
      have w89 : ((z79)).toInt = (x_pv_linkCount).toInt + 1 := by omega
      have w90 : nl ≤ (nl) ∧ (x_pv_linkCount).toInt + 1 ≤ (nl) := by omega
      have w91 : GR2 nl (nl) ((z79)).toInt := (gr2_same rfl (by omega))
      have w92 : PFX (nl) 210 (f_lks) (la) := hn_pk
      have w93 : LOK (nl) (la) (lf85) := lk86
      have w94 : ∀ i : Nat, i < nl → (la) i = la i := ag0
      have w95 : ∀ i : Nat, i ≠ (x_pv_linkCount).toInt.toNat → (lf85) i = lf i := lk86n
      have w96 : (some (la (x_pv_linkCount).toInt.toNat) : Option Nat) = some ((la) (x_pv_linkCount).toInt.toNat) := rfl
      have w97 : ∀ xs : List LKT, LKR la lf (x_pv_linkCount).toInt (some b1) xs → ((lf85) (x_pv_linkCount).toInt.toNat).2.2.1.toInt = (xs.length : Int) + 1 := lx87k
      have w98 : ((lf85) (x_pv_linkCount).toInt.toNat).1 = p1 ∧ ((lf85) (x_pv_linkCount).toInt.toNat).2.1 = p2 ∧ ((lf85) (x_pv_linkCount).toInt.toNat).2.2.2 = (some b1) := lx87e
      exact W.aret (v := va_rf (some (la (x_pv_linkCount).toInt.toNat))) hx hb hr (Or.inl ⟨_, rfl⟩) (va_rf_or _) (fun t ht hW => ⟨⟨(some (la (x_pv_linkCount).toInt.toNat)), (z79, f_lks, nl, la, lf85), rfl, ⟨w88, w89, w90, w91, w92, w93, w94, w95, w96, w97, w98⟩, by rw [ht]; exact hP, hD⟩, hS.F ht⟩) hS.2.2 dX4_newLink_84

set_option maxHeartbeats 8000000 in
set_option maxRecDepth 100000 in
theorem c_X4_closeBy (l : Launch) (dC : Nat → ClassId) (dI : Nat → Nat → Nat) (sz : Nat) (h_pv : Nat) (nr : Nat) (ra : Nat → Nat) (rf : Nat → RT) (nl : Nat) (la : Nat → Nat) (lf : Nat → LT) (ns : Nat) (sa : Nat → Nat) (sf : Nat → ST) (v_pv : Nat → Value) (x_pv_options : Int32) (p2 : Int32) (p3 : Int32) (p4 : Int32) (j1 : Nat) (vR : Int) (vL : Int) (vS : Int) (vI : Int) (q0 : j1 < ns) (q1 : (j1 : Int) < vS) (q2 : 0 ≤ (p3).toInt ∧ (p3).toInt ≤ 29) (q3 : 0 ≤ (p4).toInt ∧ (p4).toInt ≤ 5) (hn_sok : SOK ns sf nr ra nl la) (hn_lvs : LVS vR vL vS vI ra rf la sf) : Met l yX4_closeBy (Ws yX4_closeBy cX4_closeBy 5 (some .boolean)) (({ frames := 1, cells := 0, slots := 0, locals := 21 } : Room)) (PRE (dC, dI) cls [] (wp [(h_pv, .inr (3, (mo42 v_pv (.int x_pv_options))))] (PL nr ra rf nl la lf ns sa sf)) sz [.ref h_pv, .ref (sa j1), .int p2, .int p3, .int p4]) (va_Qi (fun (r : Int32) (u : (Nat → ST)) => (1 ≤ r.toInt ∧ r.toInt ≤ 1) ∧ (SOK ns u nr ra nl la) ∧ (LVS vR vL vS vI ra rf la u) ∧ ((∀ j : Nat, j ≠ j1 → u j = sf j) ∧ (u j1).2.1 = p2 ∧ sIM (u j1) = sIM (sf j1) ∧ sRM (u j1) = sRM (sf j1) ∧ sLM (u j1) = sLM (sf j1)) ∧ ((∀ j : Nat, j ≠ j1 → u j = sf j) ∧ ∃ z9 : Int32, (z9.toInt = 1 ↔ (¬ (p2).toInt = 3 ∧ hasb x_pv_options 4 = 1)) ∧ u j1 = ((sf j1).1, p2, p3, p4, (sf j1).2.2.2.2.1, (sf j1).2.2.2.2.2.1, (sf j1).2.2.2.2.2.2.1, z9, (sf j1).2.2.2.2.2.2.2.2))) (fun (u : (Nat → ST)) (t : State) => va_P (dC, dI) cls (wp [(h_pv, .inr (3, (mo42 v_pv (.int x_pv_options))))] (PL nr ra rf nl la lf ns sa u)) t.heap ∧ va_D (va_A (wp [(h_pv, .inr (3, (mo42 v_pv (.int x_pv_options))))] (PL nr ra rf nl la lf ns sa sf)) sz) (wp [(h_pv, .inr (3, (mo42 v_pv (.int x_pv_options))))] (PL nr ra rf nl la lf ns sa u))) (va_A (wp [(h_pv, .inr (3, (mo42 v_pv (.int x_pv_options))))] (PL nr ra rf nl la lf ns sa sf)) sz)) (0) (0) (va_A (wp [(h_pv, .inr (3, (mo42 v_pv (.int x_pv_options))))] (PL nr ra rf nl la lf ns sa sf)) sz) := by
  refine Met.ofW (cc := cX4_closeBy) (maxL := 5) (ret := (some .boolean)) (by decide) rfl ?_
  intro p e s m args below meth c s₁ B hml hv
  obtain ⟨rfl, hsz, hP, hK, hD0, hN⟩ := hv
  have hx := B.exec
  have hb := B.bytes
  have hr := B.returns
  have hts := atoms_spec (ws := Ws yX4_closeBy cX4_closeBy 5 (some .boolean)) B.pre
  have hT : ∀ w ∈ WALL, w ∈ Ws yX4_closeBy cX4_closeBy 5 (some .boolean) := fun w h => List.mem_cons_of_mem _ h
  have hw := fun w (h : w ∈ WALL) => hts w (hT w h)
  have hown : s.vm.findClass RX4 = some m.cls := findClass_of_methodNamed B.named
  have hlocks := B.notSynchronized
  subst hsz
  have hD := hD0.self (sz := s.heap.size)
  generalize hAe : va_A (wp [(h_pv, .inr (3, (mo42 v_pv (.int x_pv_options))))] (PL nr ra rf nl la lf ns sa sf)) s.heap.size = A at hD ⊢
  have hA : ∀ q : Nat, s.heap.size ≤ q → A q := fun q h => by rw [← hAe]; exact Or.inr h
  have hS : va_S A s.heap s.heap [] := va_S.rf
  have hl := lv_entry ([.ref h_pv, .ref (sa j1), .int p2, .int p3, .int p4]) (n := 5) (Nat.le_of_ble_eq_true rfl)
  rw [lg_entry_eq]
  generalize (lg_sl ([.ref h_pv, .ref (sa j1), .int p2, .int p3, .int p4]) ++ List.replicate (5 - (lg_sl ([.ref h_pv, .ref (sa j1), .int p2, .int p3, .int p4])).length) Slot.unset).toArray = ls at hl ⊢
  have hl : lv_has ls 5 [(0, .ref h_pv), (1, .ref (sa j1)), (2, .int p2), (3, .int p3), (4, .int p4)] := hl
  refine lv_aload_n hx hb dX4_closeBy_0 rfl (lv_at hl 1 rfl) ?_
  refine lv_iload_n hx hb dX4_closeBy_1 rfl (lv_at hl 2 rfl) ?_
  refine va_putN (D := (dC, dI)) (ci := 11) (v := .int p2) (ty := tyX7 1) (C := RX7) (T := TX7) (N := 12) (host := "OppositePairs") hx hb hw iwX7 tyX7 tyX7_ok nmX7 hown hK hP hD hS (1 + (nr + (nl + j1))) (pl_S (X := [(h_pv, .inr (3, (mo42 v_pv (.int x_pv_options))))]) (by omega)) rfl 1 (by decide) (hN.use n_f_X4_250 rfl) (fun _ h9 => h9) rfl (tyX7_ok 1 (by decide)) rfl rfl (Nat.le_of_ble_eq_true rfl) dX4_closeBy_2 (fun H locs hP hD hS => ?_)
  have hP : va_P (dC, dI) cls (wp [(h_pv, .inr (3, (mo42 v_pv (.int x_pv_options))))] (PL nr ra rf nl la lf ns sa (va_up sf j1 ((sf j1).1, p2, (sf j1).2.2.1, (sf j1).2.2.2.1, (sf j1).2.2.2.2.1, (sf j1).2.2.2.2.2.1, (sf j1).2.2.2.2.2.2.1, (sf j1).2.2.2.2.2.2.2.1, (sf j1).2.2.2.2.2.2.2.2.1, (sf j1).2.2.2.2.2.2.2.2.2.1, (sf j1).2.2.2.2.2.2.2.2.2.2.1, (sf j1).2.2.2.2.2.2.2.2.2.2.2)))) H := by rw [← pl_setS (i := j1) (by omega)]; exact hP
  have hD : va_D A (wp [(h_pv, .inr (3, (mo42 v_pv (.int x_pv_options))))] (PL nr ra rf nl la lf ns sa (va_up sf j1 ((sf j1).1, p2, (sf j1).2.2.1, (sf j1).2.2.2.1, (sf j1).2.2.2.2.1, (sf j1).2.2.2.2.2.1, (sf j1).2.2.2.2.2.2.1, (sf j1).2.2.2.2.2.2.2.1, (sf j1).2.2.2.2.2.2.2.2.1, (sf j1).2.2.2.2.2.2.2.2.2.1, (sf j1).2.2.2.2.2.2.2.2.2.2.1, (sf j1).2.2.2.2.2.2.2.2.2.2.2)))) := by rw [← pl_setS (i := j1) (by omega)]; exact hD
  refine lv_aload_n hx hb dX4_closeBy_5 rfl (lv_at hl 1 rfl) ?_
  refine lv_iload_n hx hb dX4_closeBy_6 rfl (lv_at hl 3 rfl) ?_
  refine va_putN (D := (dC, dI)) (ci := 11) (v := .int p3) (ty := tyX7 2) (C := RX7) (T := TX7) (N := 12) (host := "OppositePairs") hx hb hw iwX7 tyX7 tyX7_ok nmX7 hown hK hP hD hS (1 + (nr + (nl + j1))) (pl_S2 (X := [(h_pv, .inr (3, (mo42 v_pv (.int x_pv_options))))]) (by omega)) rfl 2 (by decide) (hN.use n_f_X4_253 rfl) (fun _ h9 => h9) rfl (tyX7_ok 2 (by decide)) rfl rfl (Nat.le_of_ble_eq_true rfl) dX4_closeBy_7 (fun H locs hP hD hS => ?_)
  have hP : va_P (dC, dI) cls (wp [(h_pv, .inr (3, (mo42 v_pv (.int x_pv_options))))] (PL nr ra rf nl la lf ns sa (va_up sf j1 ((sf j1).1, p2, p3, (sf j1).2.2.2.1, (sf j1).2.2.2.2.1, (sf j1).2.2.2.2.2.1, (sf j1).2.2.2.2.2.2.1, (sf j1).2.2.2.2.2.2.2.1, (sf j1).2.2.2.2.2.2.2.2.1, (sf j1).2.2.2.2.2.2.2.2.2.1, (sf j1).2.2.2.2.2.2.2.2.2.2.1, (sf j1).2.2.2.2.2.2.2.2.2.2.2)))) H := by rw [← pl_setS2 (i := j1) (by omega)]; exact hP
  have hD : va_D A (wp [(h_pv, .inr (3, (mo42 v_pv (.int x_pv_options))))] (PL nr ra rf nl la lf ns sa (va_up sf j1 ((sf j1).1, p2, p3, (sf j1).2.2.2.1, (sf j1).2.2.2.2.1, (sf j1).2.2.2.2.2.1, (sf j1).2.2.2.2.2.2.1, (sf j1).2.2.2.2.2.2.2.1, (sf j1).2.2.2.2.2.2.2.2.1, (sf j1).2.2.2.2.2.2.2.2.2.1, (sf j1).2.2.2.2.2.2.2.2.2.2.1, (sf j1).2.2.2.2.2.2.2.2.2.2.2)))) := by rw [← pl_setS2 (i := j1) (by omega)]; exact hD
  refine lv_aload_n hx hb dX4_closeBy_10 rfl (lv_at hl 1 rfl) ?_
  refine lv_iload hx hb dX4_closeBy_11 (lv_at hl 4 rfl) ?_
  refine va_putN (D := (dC, dI)) (ci := 11) (v := .int p4) (ty := tyX7 3) (C := RX7) (T := TX7) (N := 12) (host := "OppositePairs") hx hb hw iwX7 tyX7 tyX7_ok nmX7 hown hK hP hD hS (1 + (nr + (nl + j1))) (pl_S2 (X := [(h_pv, .inr (3, (mo42 v_pv (.int x_pv_options))))]) (by omega)) rfl 3 (by decide) (hN.use n_f_X4_256 rfl) (fun _ h9 => h9) rfl (tyX7_ok 3 (by decide)) rfl rfl (Nat.le_of_ble_eq_true rfl) dX4_closeBy_13 (fun H locs hP hD hS => ?_)
  have hP : va_P (dC, dI) cls (wp [(h_pv, .inr (3, (mo42 v_pv (.int x_pv_options))))] (PL nr ra rf nl la lf ns sa (va_up sf j1 ((sf j1).1, p2, p3, p4, (sf j1).2.2.2.2.1, (sf j1).2.2.2.2.2.1, (sf j1).2.2.2.2.2.2.1, (sf j1).2.2.2.2.2.2.2.1, (sf j1).2.2.2.2.2.2.2.2.1, (sf j1).2.2.2.2.2.2.2.2.2.1, (sf j1).2.2.2.2.2.2.2.2.2.2.1, (sf j1).2.2.2.2.2.2.2.2.2.2.2)))) H := by rw [← pl_setS2 (i := j1) (by omega)]; exact hP
  have hD : va_D A (wp [(h_pv, .inr (3, (mo42 v_pv (.int x_pv_options))))] (PL nr ra rf nl la lf ns sa (va_up sf j1 ((sf j1).1, p2, p3, p4, (sf j1).2.2.2.2.1, (sf j1).2.2.2.2.2.1, (sf j1).2.2.2.2.2.2.1, (sf j1).2.2.2.2.2.2.2.1, (sf j1).2.2.2.2.2.2.2.2.1, (sf j1).2.2.2.2.2.2.2.2.2.1, (sf j1).2.2.2.2.2.2.2.2.2.2.1, (sf j1).2.2.2.2.2.2.2.2.2.2.2)))) := by rw [← pl_setS2 (i := j1) (by omega)]; exact hD
  refine lv_aload_n hx hb dX4_closeBy_16 rfl (lv_at hl 1 rfl) ?_
  refine lv_iload_n hx hb dX4_closeBy_17 rfl (lv_at hl 2 rfl) ?_
  refine lv_iconst (v := 3) hx hb dX4_closeBy_18 (by decide) ?_
  refine lv_icmp_eq (tgt := 34) hx hb dX4_closeBy_19 (by decide) (fun c1 => ?_) (fun c1 => ?_)
  · have kc1 := (cv_eq (rfl : (p2).toInt = (p2).toInt) (by decide : (3 : Int32).toInt = 3)).mp c1
    refine lv_iconst (v := 0) hx hb dX4_closeBy_34 (by decide) ?_
    refine va_putN (D := (dC, dI)) (ci := 11) (v := .int 0) (ty := tyX7 7) (C := RX7) (T := TX7) (N := 12) (host := "OppositePairs") hx hb hw iwX7 tyX7 tyX7_ok nmX7 hown hK hP hD hS (1 + (nr + (nl + j1))) (pl_S2 (X := [(h_pv, .inr (3, (mo42 v_pv (.int x_pv_options))))]) (by omega)) rfl 7 (by decide) (hN.use n_f_X4_151 rfl) (fun _ h9 => h9) rfl (tyX7_ok 7 (by decide)) rfl rfl (Nat.le_of_ble_eq_true rfl) dX4_closeBy_35 (fun H locs hP hD hS => ?_)
    have hP : va_P (dC, dI) cls (wp [(h_pv, .inr (3, (mo42 v_pv (.int x_pv_options))))] (PL nr ra rf nl la lf ns sa (va_up sf j1 ((sf j1).1, p2, p3, p4, (sf j1).2.2.2.2.1, (sf j1).2.2.2.2.2.1, (sf j1).2.2.2.2.2.2.1, (0 : Int32), (sf j1).2.2.2.2.2.2.2.2.1, (sf j1).2.2.2.2.2.2.2.2.2.1, (sf j1).2.2.2.2.2.2.2.2.2.2.1, (sf j1).2.2.2.2.2.2.2.2.2.2.2)))) H := by rw [← pl_setS2 (i := j1) (by omega)]; exact hP
    have hD : va_D A (wp [(h_pv, .inr (3, (mo42 v_pv (.int x_pv_options))))] (PL nr ra rf nl la lf ns sa (va_up sf j1 ((sf j1).1, p2, p3, p4, (sf j1).2.2.2.2.1, (sf j1).2.2.2.2.2.1, (sf j1).2.2.2.2.2.2.1, (0 : Int32), (sf j1).2.2.2.2.2.2.2.2.1, (sf j1).2.2.2.2.2.2.2.2.2.1, (sf j1).2.2.2.2.2.2.2.2.2.2.1, (sf j1).2.2.2.2.2.2.2.2.2.2.2)))) := by rw [← pl_setS2 (i := j1) (by omega)]; exact hD
    refine lv_iconst (v := 1) hx hb dX4_closeBy_38 (by decide) ?_
    obtain ⟨sf2, esf2⟩ : ∃ g, g = (va_up sf j1 ((sf j1).1, p2, p3, p4, (sf j1).2.2.2.2.1, (sf j1).2.2.2.2.2.1, (sf j1).2.2.2.2.2.2.1, (0 : Int32), (sf j1).2.2.2.2.2.2.2.2.1, (sf j1).2.2.2.2.2.2.2.2.2.1, (sf j1).2.2.2.2.2.2.2.2.2.2.1, (sf j1).2.2.2.2.2.2.2.2.2.2.2)) := ⟨_, rfl⟩
    have hP : va_P (dC, dI) cls (wp [(h_pv, .inr (3, (mo42 v_pv (.int x_pv_options))))] (PL nr ra rf nl la lf ns sa sf2)) H := by rw [esf2]; exact hP
    have hD : va_D A (wp [(h_pv, .inr (3, (mo42 v_pv (.int x_pv_options))))] (PL nr ra rf nl la lf ns sa sf2)) := by rw [esf2]; exact hD
    have ssf2 : sf2 j1 = ((sf j1).1, p2, p3, p4, (sf j1).2.2.2.2.1, (sf j1).2.2.2.2.2.1, (sf j1).2.2.2.2.2.2.1, (0 : Int32), (sf j1).2.2.2.2.2.2.2.2.1, (sf j1).2.2.2.2.2.2.2.2.2.1, (sf j1).2.2.2.2.2.2.2.2.2.2.1, (sf j1).2.2.2.2.2.2.2.2.2.2.2) := by rw [esf2]; exact up_self _ _ _
    have osf2 : ∀ j : Nat, j ≠ j1 → sf2 j = sf j := fun j hj => by rw [esf2]; exact up_ne hj
    have sk3b := hn_sok j1 (by omega)
    have cs0 : (0 : Int32).toInt = 0 := by decide
    have cs1 : (1 : Int32).toInt = 1 := by decide
    have sk3 : SOK ns sf2 nr ra nl la := sok_set hn_sok osf2 ssf2 sk3b.1 (by omega) (by omega) sk3b.2.2.2.1 sk3b.2.2.2.2.1 sk3b.2.2.2.2.2.1 (by omega)
    have sk3l : LVS vR vL vS vI ra rf la sf2 := lvs_set (k := j1) hn_lvs osf2 (by rw [ssf2]) (by rw [ssf2]; exact (hn_lvs j1 (by omega)).2.1) (by rw [ssf2]; exact ⟨rfl, rfl, rfl⟩)
    have sk3k : (∀ j : Nat, j ≠ j1 → sf2 j = sf j) ∧ (sf2 j1).2.1 = p2 ∧ sIM (sf2 j1) = sIM (sf j1) ∧ sRM (sf2 j1) = sRM (sf j1) ∧ sLM (sf2 j1) = sLM (sf j1) := ⟨osf2, by rw [ssf2], by rw [ssf2], by rw [ssf2], by rw [ssf2]⟩
    have cx4 : (∀ j : Nat, j ≠ j1 → sf2 j = sf j) ∧ ∃ z9 : Int32, (z9.toInt = 1 ↔ (¬ (p2).toInt = 3 ∧ hasb x_pv_options 4 = 1)) ∧ sf2 j1 = ((sf j1).1, p2, p3, p4, (sf j1).2.2.2.2.1, (sf j1).2.2.2.2.2.1, (sf j1).2.2.2.2.2.2.1, z9, (sf j1).2.2.2.2.2.2.2.2) := ⟨osf2, (0 : Int32), by have hh9 := hasb_le x_pv_options 4; omega, by rw [ssf2]⟩
    refine W.widen (k := 0) (n := 0) (Nat.le_of_ble_eq_true rfl) (Nat.le_of_ble_eq_true rfl) ?_
    have cst1 : (1 : Int32).toInt = 1 := by decide
    have w5 : 1 ≤ (1 : Int32).toInt ∧ (1 : Int32).toInt ≤ 1 := by decide
    have w6 : SOK ns (sf2) nr ra nl la := sk3
    have w7 : LVS vR vL vS vI ra rf la (sf2) := (lvs_cast sk3l (by first | rfl | omega) (by first | rfl | omega) (by first | rfl | omega) (by first | rfl | omega))
    have w8 : (∀ j : Nat, j ≠ j1 → (sf2) j = sf j) ∧ ((sf2) j1).2.1 = p2 ∧ sIM ((sf2) j1) = sIM (sf j1) ∧ sRM ((sf2) j1) = sRM (sf j1) ∧ sLM ((sf2) j1) = sLM (sf j1) := sk3k
    have w9 : (∀ j : Nat, j ≠ j1 → (sf2) j = sf j) ∧ ∃ z9 : Int32, (z9.toInt = 1 ↔ (¬ (p2).toInt = 3 ∧ hasb x_pv_options 4 = 1)) ∧ (sf2) j1 = ((sf j1).1, p2, p3, p4, (sf j1).2.2.2.2.1, (sf j1).2.2.2.2.2.1, (sf j1).2.2.2.2.2.2.1, z9, (sf j1).2.2.2.2.2.2.2.2) := cx4
    exact W.zret (v := 1) (ty := .boolean) hx hb hr (by decide) (fun t ht hW => ⟨⟨1, sf2, rfl, ⟨w5, w6, w7, w8, w9⟩, by rw [ht]; exact hP, hD⟩, hS.F ht⟩) hS.2.2 dX4_closeBy_39
  · have kc1 := (not_congr (cv_eq (rfl : (p2).toInt = (p2).toInt) (by decide : (3 : Int32).toInt = 3))).mp c1
    refine lv_aload_n hx hb dX4_closeBy_22 rfl (lv_at hl 0 rfl) ?_
    refine lv_iconst (v := 4) hx hb dX4_closeBy_23 (by decide) ?_
    have cst4 : (4 : Int32).toInt = 4 := by decide
    have hPc := wp_P (cx := [(h_pv, .inr (3, (mo42 v_pv (.int x_pv_options))))]) hP [0] rfl
    have hDc := wp_D (cx := [(h_pv, .inr (3, (mo42 v_pv (.int x_pv_options))))]) hD [0] (by decide) rfl
    have hKc := hK.sub (tys' := []) [] rfl
    have hFc := wp_free (cx := [(h_pv, .inr (3, (mo42 v_pv (.int x_pv_options))))]) hD hS hA [0] rfl
    refine va_calli (va_runV (As := [.int 4]) (rest := [.ref (sa j1)]) ⟨hx, hb, hml, hown, hts⟩ (c_X4_has_e l dC dI H.size h_pv v_pv x_pv_options 4) (cwV 1 hts (gv hT w_m_X4_147 w_instanceMethod_X4_has ws_sel_X4_has w_ini_X4 w_code_X4_has) rfl rfl rfl (by decide +kernel) ⟨(Nat.le_of_ble_eq_true rfl), (Nat.le_of_ble_eq_true rfl)⟩) ⟨pre_blind, va_recv hK hP (ci := 3) (q0 := 0) rfl rfl, pre_of hPc hKc hDc hN⟩ rfl rfl hl.1 rfl (lv_room (Nat.le_of_ble_eq_true rfl)) dX4_closeBy_24 ⟨(Nat.le_of_ble_eq_true rfl), (Nat.le_of_ble_eq_true rfl)⟩) hS (fun q _ h => hFc q h) hFc (fun r10 u t H locs ht hvm hq hB hz1 hk1 hS9 => ?_)
    obtain ⟨hP1, hD1⟩ := hB
    rw [ht] at hP1
    obtain ⟨hP9, hD9⟩ := va_joinQ (wr := []) (w1 := [(h_pv, .inr (3, (mo42 v_pv (.int x_pv_options))))]) (cx := [(h_pv, .inr (3, (mo42 v_pv (.int x_pv_options))))]) hP hD [0] [] rfl rfl (by decide) (by decide) hk1 hFc hP1 hD1
    clear hP hD hS hPc hDc hKc hFc hP1 hD1 hk1 hz1 ht hvm
    have hP : va_P (dC, dI) cls (wp [(h_pv, .inr (3, (mo42 v_pv (.int x_pv_options))))] (PL nr ra rf nl la lf ns sa (va_up sf j1 ((sf j1).1, p2, p3, p4, (sf j1).2.2.2.2.1, (sf j1).2.2.2.2.2.1, (sf j1).2.2.2.2.2.2.1, (sf j1).2.2.2.2.2.2.2.1, (sf j1).2.2.2.2.2.2.2.2.1, (sf j1).2.2.2.2.2.2.2.2.2.1, (sf j1).2.2.2.2.2.2.2.2.2.2.1, (sf j1).2.2.2.2.2.2.2.2.2.2.2)))) H := hP9
    have hD : va_D A (wp [(h_pv, .inr (3, (mo42 v_pv (.int x_pv_options))))] (PL nr ra rf nl la lf ns sa (va_up sf j1 ((sf j1).1, p2, p3, p4, (sf j1).2.2.2.2.1, (sf j1).2.2.2.2.2.1, (sf j1).2.2.2.2.2.2.1, (sf j1).2.2.2.2.2.2.2.1, (sf j1).2.2.2.2.2.2.2.2.1, (sf j1).2.2.2.2.2.2.2.2.2.1, (sf j1).2.2.2.2.2.2.2.2.2.2.1, (sf j1).2.2.2.2.2.2.2.2.2.2.2)))) := hD9
    have hS := hS9
    clear hP9 hD9 hS9
    obtain ⟨k11, k12⟩ := hq
    replace k11 : 0 ≤ (r10).toInt ∧ (r10).toInt ≤ 1 := k11
    replace k12 : ((r10)).toInt = hasb (x_pv_options) (4 : Int32) := k12
    refine lv_if_eq (tgt := 34) hx hb dX4_closeBy_27 (by decide) (fun c13 => ?_) (fun c13 => ?_)
    · have kc13 := (cv_eq (rfl : (r10).toInt = (r10).toInt) (by decide : (0 : Int32).toInt = 0)).mp c13
      refine lv_iconst (v := 0) hx hb dX4_closeBy_34 (by decide) ?_
      refine va_putN (D := (dC, dI)) (ci := 11) (v := .int 0) (ty := tyX7 7) (C := RX7) (T := TX7) (N := 12) (host := "OppositePairs") hx hb hw iwX7 tyX7 tyX7_ok nmX7 hown hK hP hD hS (1 + (nr + (nl + j1))) (pl_S2 (X := [(h_pv, .inr (3, (mo42 v_pv (.int x_pv_options))))]) (by omega)) rfl 7 (by decide) (hN.use n_f_X4_151 rfl) (fun _ h9 => h9) rfl (tyX7_ok 7 (by decide)) rfl rfl (Nat.le_of_ble_eq_true rfl) dX4_closeBy_35 (fun H locs hP hD hS => ?_)
      have hP : va_P (dC, dI) cls (wp [(h_pv, .inr (3, (mo42 v_pv (.int x_pv_options))))] (PL nr ra rf nl la lf ns sa (va_up sf j1 ((sf j1).1, p2, p3, p4, (sf j1).2.2.2.2.1, (sf j1).2.2.2.2.2.1, (sf j1).2.2.2.2.2.2.1, (0 : Int32), (sf j1).2.2.2.2.2.2.2.2.1, (sf j1).2.2.2.2.2.2.2.2.2.1, (sf j1).2.2.2.2.2.2.2.2.2.2.1, (sf j1).2.2.2.2.2.2.2.2.2.2.2)))) H := by rw [← pl_setS2 (i := j1) (by omega)]; exact hP
      have hD : va_D A (wp [(h_pv, .inr (3, (mo42 v_pv (.int x_pv_options))))] (PL nr ra rf nl la lf ns sa (va_up sf j1 ((sf j1).1, p2, p3, p4, (sf j1).2.2.2.2.1, (sf j1).2.2.2.2.2.1, (sf j1).2.2.2.2.2.2.1, (0 : Int32), (sf j1).2.2.2.2.2.2.2.2.1, (sf j1).2.2.2.2.2.2.2.2.2.1, (sf j1).2.2.2.2.2.2.2.2.2.2.1, (sf j1).2.2.2.2.2.2.2.2.2.2.2)))) := by rw [← pl_setS2 (i := j1) (by omega)]; exact hD
      refine lv_iconst (v := 1) hx hb dX4_closeBy_38 (by decide) ?_
      obtain ⟨sf14, esf14⟩ : ∃ g, g = (va_up sf j1 ((sf j1).1, p2, p3, p4, (sf j1).2.2.2.2.1, (sf j1).2.2.2.2.2.1, (sf j1).2.2.2.2.2.2.1, (0 : Int32), (sf j1).2.2.2.2.2.2.2.2.1, (sf j1).2.2.2.2.2.2.2.2.2.1, (sf j1).2.2.2.2.2.2.2.2.2.2.1, (sf j1).2.2.2.2.2.2.2.2.2.2.2)) := ⟨_, rfl⟩
      have hP : va_P (dC, dI) cls (wp [(h_pv, .inr (3, (mo42 v_pv (.int x_pv_options))))] (PL nr ra rf nl la lf ns sa sf14)) H := by rw [esf14]; exact hP
      have hD : va_D A (wp [(h_pv, .inr (3, (mo42 v_pv (.int x_pv_options))))] (PL nr ra rf nl la lf ns sa sf14)) := by rw [esf14]; exact hD
      have ssf14 : sf14 j1 = ((sf j1).1, p2, p3, p4, (sf j1).2.2.2.2.1, (sf j1).2.2.2.2.2.1, (sf j1).2.2.2.2.2.2.1, (0 : Int32), (sf j1).2.2.2.2.2.2.2.2.1, (sf j1).2.2.2.2.2.2.2.2.2.1, (sf j1).2.2.2.2.2.2.2.2.2.2.1, (sf j1).2.2.2.2.2.2.2.2.2.2.2) := by rw [esf14]; exact up_self _ _ _
      have osf14 : ∀ j : Nat, j ≠ j1 → sf14 j = sf j := fun j hj => by rw [esf14]; exact up_ne hj
      have sk15b := hn_sok j1 (by omega)
      have cs0 : (0 : Int32).toInt = 0 := by decide
      have cs1 : (1 : Int32).toInt = 1 := by decide
      have sk15 : SOK ns sf14 nr ra nl la := sok_set hn_sok osf14 ssf14 sk15b.1 (by omega) (by omega) sk15b.2.2.2.1 sk15b.2.2.2.2.1 sk15b.2.2.2.2.2.1 (by omega)
      have sk15l : LVS vR vL vS vI ra rf la sf14 := lvs_set (k := j1) hn_lvs osf14 (by rw [ssf14]) (by rw [ssf14]; exact (hn_lvs j1 (by omega)).2.1) (by rw [ssf14]; exact ⟨rfl, rfl, rfl⟩)
      have sk15k : (∀ j : Nat, j ≠ j1 → sf14 j = sf j) ∧ (sf14 j1).2.1 = p2 ∧ sIM (sf14 j1) = sIM (sf j1) ∧ sRM (sf14 j1) = sRM (sf j1) ∧ sLM (sf14 j1) = sLM (sf j1) := ⟨osf14, by rw [ssf14], by rw [ssf14], by rw [ssf14], by rw [ssf14]⟩
      have cx16 : (∀ j : Nat, j ≠ j1 → sf14 j = sf j) ∧ ∃ z9 : Int32, (z9.toInt = 1 ↔ (¬ (p2).toInt = 3 ∧ hasb x_pv_options 4 = 1)) ∧ sf14 j1 = ((sf j1).1, p2, p3, p4, (sf j1).2.2.2.2.1, (sf j1).2.2.2.2.2.1, (sf j1).2.2.2.2.2.2.1, z9, (sf j1).2.2.2.2.2.2.2.2) := ⟨osf14, (0 : Int32), by have hh9 := hasb_le x_pv_options 4; omega, by rw [ssf14]⟩
      refine W.widen (k := 0) (n := 0) (Nat.le_of_ble_eq_true rfl) (Nat.le_of_ble_eq_true rfl) ?_
      have cst1 : (1 : Int32).toInt = 1 := by decide
      have w17 : 1 ≤ (1 : Int32).toInt ∧ (1 : Int32).toInt ≤ 1 := by decide
      have w18 : SOK ns (sf14) nr ra nl la := sk15
      have w19 : LVS vR vL vS vI ra rf la (sf14) := (lvs_cast sk15l (by first | rfl | omega) (by first | rfl | omega) (by first | rfl | omega) (by first | rfl | omega))
      have w20 : (∀ j : Nat, j ≠ j1 → (sf14) j = sf j) ∧ ((sf14) j1).2.1 = p2 ∧ sIM ((sf14) j1) = sIM (sf j1) ∧ sRM ((sf14) j1) = sRM (sf j1) ∧ sLM ((sf14) j1) = sLM (sf j1) := sk15k
      have w21 : (∀ j : Nat, j ≠ j1 → (sf14) j = sf j) ∧ ∃ z9 : Int32, (z9.toInt = 1 ↔ (¬ (p2).toInt = 3 ∧ hasb x_pv_options 4 = 1)) ∧ (sf14) j1 = ((sf j1).1, p2, p3, p4, (sf j1).2.2.2.2.1, (sf j1).2.2.2.2.2.1, (sf j1).2.2.2.2.2.2.1, z9, (sf j1).2.2.2.2.2.2.2.2) := cx16
      exact W.zret (v := 1) (ty := .boolean) hx hb hr (by decide) (fun t ht hW => ⟨⟨1, sf14, rfl, ⟨w17, w18, w19, w20, w21⟩, by rw [ht]; exact hP, hD⟩, hS.F ht⟩) hS.2.2 dX4_closeBy_39
    · have kc13 := (not_congr (cv_eq (rfl : (r10).toInt = (r10).toInt) (by decide : (0 : Int32).toInt = 0))).mp c13
      replace kc13 : 1 ≤ (r10).toInt := by omega
      refine lv_iconst (v := 1) hx hb dX4_closeBy_30 (by decide) ?_
      refine lv_goto (tgt := 35) hx hb dX4_closeBy_31 (by decide) ?_
      refine va_putN (D := (dC, dI)) (ci := 11) (v := .int 1) (ty := tyX7 7) (C := RX7) (T := TX7) (N := 12) (host := "OppositePairs") hx hb hw iwX7 tyX7 tyX7_ok nmX7 hown hK hP hD hS (1 + (nr + (nl + j1))) (pl_S2 (X := [(h_pv, .inr (3, (mo42 v_pv (.int x_pv_options))))]) (by omega)) rfl 7 (by decide) (hN.use n_f_X4_151 rfl) (fun _ h9 => h9) rfl (tyX7_ok 7 (by decide)) rfl rfl (Nat.le_of_ble_eq_true rfl) dX4_closeBy_35 (fun H locs hP hD hS => ?_)
      have hP : va_P (dC, dI) cls (wp [(h_pv, .inr (3, (mo42 v_pv (.int x_pv_options))))] (PL nr ra rf nl la lf ns sa (va_up sf j1 ((sf j1).1, p2, p3, p4, (sf j1).2.2.2.2.1, (sf j1).2.2.2.2.2.1, (sf j1).2.2.2.2.2.2.1, (1 : Int32), (sf j1).2.2.2.2.2.2.2.2.1, (sf j1).2.2.2.2.2.2.2.2.2.1, (sf j1).2.2.2.2.2.2.2.2.2.2.1, (sf j1).2.2.2.2.2.2.2.2.2.2.2)))) H := by rw [← pl_setS2 (i := j1) (by omega)]; exact hP
      have hD : va_D A (wp [(h_pv, .inr (3, (mo42 v_pv (.int x_pv_options))))] (PL nr ra rf nl la lf ns sa (va_up sf j1 ((sf j1).1, p2, p3, p4, (sf j1).2.2.2.2.1, (sf j1).2.2.2.2.2.1, (sf j1).2.2.2.2.2.2.1, (1 : Int32), (sf j1).2.2.2.2.2.2.2.2.1, (sf j1).2.2.2.2.2.2.2.2.2.1, (sf j1).2.2.2.2.2.2.2.2.2.2.1, (sf j1).2.2.2.2.2.2.2.2.2.2.2)))) := by rw [← pl_setS2 (i := j1) (by omega)]; exact hD
      refine lv_iconst (v := 1) hx hb dX4_closeBy_38 (by decide) ?_
      obtain ⟨sf22, esf22⟩ : ∃ g, g = (va_up sf j1 ((sf j1).1, p2, p3, p4, (sf j1).2.2.2.2.1, (sf j1).2.2.2.2.2.1, (sf j1).2.2.2.2.2.2.1, (1 : Int32), (sf j1).2.2.2.2.2.2.2.2.1, (sf j1).2.2.2.2.2.2.2.2.2.1, (sf j1).2.2.2.2.2.2.2.2.2.2.1, (sf j1).2.2.2.2.2.2.2.2.2.2.2)) := ⟨_, rfl⟩
      have hP : va_P (dC, dI) cls (wp [(h_pv, .inr (3, (mo42 v_pv (.int x_pv_options))))] (PL nr ra rf nl la lf ns sa sf22)) H := by rw [esf22]; exact hP
      have hD : va_D A (wp [(h_pv, .inr (3, (mo42 v_pv (.int x_pv_options))))] (PL nr ra rf nl la lf ns sa sf22)) := by rw [esf22]; exact hD
      have ssf22 : sf22 j1 = ((sf j1).1, p2, p3, p4, (sf j1).2.2.2.2.1, (sf j1).2.2.2.2.2.1, (sf j1).2.2.2.2.2.2.1, (1 : Int32), (sf j1).2.2.2.2.2.2.2.2.1, (sf j1).2.2.2.2.2.2.2.2.2.1, (sf j1).2.2.2.2.2.2.2.2.2.2.1, (sf j1).2.2.2.2.2.2.2.2.2.2.2) := by rw [esf22]; exact up_self _ _ _
      have osf22 : ∀ j : Nat, j ≠ j1 → sf22 j = sf j := fun j hj => by rw [esf22]; exact up_ne hj
      have sk23b := hn_sok j1 (by omega)
      have cs0 : (0 : Int32).toInt = 0 := by decide
      have cs1 : (1 : Int32).toInt = 1 := by decide
      have sk23 : SOK ns sf22 nr ra nl la := sok_set hn_sok osf22 ssf22 sk23b.1 (by omega) (by omega) sk23b.2.2.2.1 sk23b.2.2.2.2.1 sk23b.2.2.2.2.2.1 (by omega)
      have sk23l : LVS vR vL vS vI ra rf la sf22 := lvs_set (k := j1) hn_lvs osf22 (by rw [ssf22]) (by rw [ssf22]; exact (hn_lvs j1 (by omega)).2.1) (by rw [ssf22]; exact ⟨rfl, rfl, rfl⟩)
      have sk23k : (∀ j : Nat, j ≠ j1 → sf22 j = sf j) ∧ (sf22 j1).2.1 = p2 ∧ sIM (sf22 j1) = sIM (sf j1) ∧ sRM (sf22 j1) = sRM (sf j1) ∧ sLM (sf22 j1) = sLM (sf j1) := ⟨osf22, by rw [ssf22], by rw [ssf22], by rw [ssf22], by rw [ssf22]⟩
      have cx24 : (∀ j : Nat, j ≠ j1 → sf22 j = sf j) ∧ ∃ z9 : Int32, (z9.toInt = 1 ↔ (¬ (p2).toInt = 3 ∧ hasb x_pv_options 4 = 1)) ∧ sf22 j1 = ((sf j1).1, p2, p3, p4, (sf j1).2.2.2.2.1, (sf j1).2.2.2.2.2.1, (sf j1).2.2.2.2.2.2.1, z9, (sf j1).2.2.2.2.2.2.2.2) := ⟨osf22, (1 : Int32), by have hh9 := hasb_le x_pv_options 4; omega, by rw [ssf22]⟩
      refine W.widen (k := 0) (n := 0) (Nat.le_of_ble_eq_true rfl) (Nat.le_of_ble_eq_true rfl) ?_
      have cst1 : (1 : Int32).toInt = 1 := by decide
      have w25 : 1 ≤ (1 : Int32).toInt ∧ (1 : Int32).toInt ≤ 1 := by decide
      have w26 : SOK ns (sf22) nr ra nl la := sk23
      have w27 : LVS vR vL vS vI ra rf la (sf22) := (lvs_cast sk23l (by first | rfl | omega) (by first | rfl | omega) (by first | rfl | omega) (by first | rfl | omega))
      have w28 : (∀ j : Nat, j ≠ j1 → (sf22) j = sf j) ∧ ((sf22) j1).2.1 = p2 ∧ sIM ((sf22) j1) = sIM (sf j1) ∧ sRM ((sf22) j1) = sRM (sf j1) ∧ sLM ((sf22) j1) = sLM (sf j1) := sk23k
      have w29 : (∀ j : Nat, j ≠ j1 → (sf22) j = sf j) ∧ ∃ z9 : Int32, (z9.toInt = 1 ↔ (¬ (p2).toInt = 3 ∧ hasb x_pv_options 4 = 1)) ∧ (sf22) j1 = ((sf j1).1, p2, p3, p4, (sf j1).2.2.2.2.1, (sf j1).2.2.2.2.2.1, (sf j1).2.2.2.2.2.2.1, z9, (sf j1).2.2.2.2.2.2.2.2) := cx24
      exact W.zret (v := 1) (ty := .boolean) hx hb hr (by decide) (fun t ht hW => ⟨⟨1, sf22, rfl, ⟨w25, w26, w27, w28, w29⟩, by rw [ht]; exact hP, hD⟩, hS.F ht⟩) hS.2.2 dX4_closeBy_39

set_option maxHeartbeats 8000000 in
set_option maxRecDepth 100000 in
theorem c_X4_restOf (l : Launch) (dC : Nat → ClassId) (dI : Nat → Nat → Nat) (sz : Nat) (h_pv : Nat) (h_rws : Nat) (h_lks : Nat) (nr : Nat) (ra : Nat → Nat) (rf : Nat → RT) (nl : Nat) (la : Nat → Nat) (lf : Nat → LT) (ns : Nat) (sa : Nat → Nat) (sf : Nat → ST) (v_pv : Nat → Value) (x_pv_rowCount : Int32) (x_pv_linkCount : Int32) (x_pv_options : Int32) (cy_rws : ClassId) (f_rws : Nat → Option Nat) (cy_lks : ClassId) (f_lks : Nat → Option Nat) (rq : Nat) (hx_pv_rowCount : 0 ≤ (x_pv_rowCount).toInt ∧ (x_pv_rowCount).toInt ≤ 361) (hx_pv_linkCount : 0 ≤ (x_pv_linkCount).toInt ∧ (x_pv_linkCount).toInt ≤ 210) (q0 : (rq : Int) < (x_pv_rowCount).toInt) (q1 : (rf rq).2.2.1.toInt ≤ 5) (q2 : (x_pv_rowCount).toInt ≤ 360) (q3 : (x_pv_linkCount).toInt ≤ 209) (q4 : (x_pv_rowCount).toInt ≤ nr) (q5 : (x_pv_linkCount).toInt ≤ nl) (hn_pr : PFX nr 361 f_rws ra) (hn_pk : PFX nl 210 f_lks la) (hn_rok : ROK nr ra rf nl la) (hn_lok : LOK nl la lf) (hn_lvr : LVR (x_pv_rowCount).toInt (x_pv_linkCount).toInt ra rf la) (hn_lkm : ∃ xs : List LKT, LKR la lf (x_pv_linkCount).toInt (rf rq).2.2.2.2.1 xs) : Met l yX4_restOf (Ws yX4_restOf cX4_restOf 3 (some (.object "OppositePairs$Row"))) (({ frames := 3, cells := ((x_pv_rowCount).toInt.toNat + 1 - nr) + ((x_pv_linkCount).toInt.toNat + (hasb x_pv_options 2).toNat - nl), slots := 7 * ((x_pv_rowCount).toInt.toNat + 1 - nr) + 4 * ((x_pv_linkCount).toInt.toNat + (hasb x_pv_options 2).toNat - nl), locals := 125 } : Room)) (PRE (dC, dI) cls [(cy_rws, .object "OppositePairs$Row"), (cy_lks, .object "OppositePairs$Link")] (wp [(h_pv, .inr (3, (mo177 v_pv (.ref h_rws) (.int x_pv_rowCount) (.ref h_lks) (.int x_pv_linkCount) (.int x_pv_options)))), (h_rws, .inl (cy_rws, 361, .inr (.inr (.inr (.inr f_rws))))), (h_lks, .inl (cy_lks, 210, .inr (.inr (.inr (.inr f_lks)))))] (PL nr ra rf nl la lf ns sa sf)) sz [.ref h_pv, .ref (ra rq)]) (va_Qq (fun (r : Option Nat) (u : (Int32) × (Int32) × (Nat → Option Nat) × (Nat → Option Nat) × (Nat) × (Nat → Nat) × (Nat → RT) × (Nat) × (Nat → Nat) × (Nat → LT)) => (0 ≤ (u.1).toInt ∧ (u.1).toInt ≤ 361) ∧ (0 ≤ (u.2.1).toInt ∧ (u.2.1).toInt ≤ 210) ∧ ((u.1).toInt = (x_pv_rowCount).toInt + 1) ∧ ((u.2.1).toInt = (x_pv_linkCount).toInt + hasb x_pv_options 2) ∧ (nr ≤ u.2.2.2.2.1 ∧ nl ≤ u.2.2.2.2.2.2.2.1 ∧ (u.1).toInt ≤ u.2.2.2.2.1 ∧ (u.2.1).toInt ≤ u.2.2.2.2.2.2.2.1) ∧ (GR2 nr u.2.2.2.2.1 (u.1).toInt) ∧ (GR2 nl u.2.2.2.2.2.2.2.1 (u.2.1).toInt) ∧ (PFX u.2.2.2.2.1 361 u.2.2.1 u.2.2.2.2.2.1) ∧ (PFX u.2.2.2.2.2.2.2.1 210 u.2.2.2.1 u.2.2.2.2.2.2.2.2.1) ∧ (ROK u.2.2.2.2.1 u.2.2.2.2.2.1 u.2.2.2.2.2.2.1 u.2.2.2.2.2.2.2.1 u.2.2.2.2.2.2.2.2.1) ∧ (LOK u.2.2.2.2.2.2.2.1 u.2.2.2.2.2.2.2.2.1 u.2.2.2.2.2.2.2.2.2) ∧ (LVR ((x_pv_rowCount).toInt + 1) (u.2.1).toInt u.2.2.2.2.2.1 u.2.2.2.2.2.2.1 u.2.2.2.2.2.2.2.2.1) ∧ (∀ i : Nat, i < nr → u.2.2.2.2.2.1 i = ra i) ∧ (∀ i : Nat, i < nl → u.2.2.2.2.2.2.2.2.1 i = la i) ∧ (∀ i : Nat, i ≠ (x_pv_rowCount).toInt.toNat → u.2.2.2.2.2.2.1 i = rf i) ∧ (r = some (u.2.2.2.2.2.1 (x_pv_rowCount).toInt.toNat)) ∧ ((u.2.2.2.2.2.2.1 (x_pv_rowCount).toInt.toNat).1 = (rf rq).1 ∧ (u.2.2.2.2.2.2.1 (x_pv_rowCount).toInt.toNat).2.1 = (rf rq).2.1 ∧ (u.2.2.2.2.2.2.1 (x_pv_rowCount).toInt.toNat).2.2.1.toInt = NXI (rf rq).2.1.toInt ((rf rq).2.2.1.toInt + 1) ∧ (u.2.2.2.2.2.2.1 (x_pv_rowCount).toInt.toNat).2.2.2.1 = (rf rq).2.2.2.1 ∧ (u.2.2.2.2.2.2.1 (x_pv_rowCount).toInt.toNat).2.2.2.2.2.1 = (rf rq).2.2.2.2.2.1 ∧ (u.2.2.2.2.2.2.1 (x_pv_rowCount).toInt.toNat).2.2.2.2.2.2 = (rf rq).2.2.2.2.2.2) ∧ ((hasb x_pv_options 2 = 0 ∧ (u.2.2.2.2.2.2.1 (x_pv_rowCount).toInt.toNat).2.2.2.2.1 = (rf rq).2.2.2.2.1) ∨ (hasb x_pv_options 2 = 1 ∧ (u.2.2.2.2.2.2.1 (x_pv_rowCount).toInt.toNat).2.2.2.2.1 = some (u.2.2.2.2.2.2.2.2.1 (x_pv_linkCount).toInt.toNat) ∧ (u.2.2.2.2.2.2.2.2.2 (x_pv_linkCount).toInt.toNat).1 = (rf rq).1 ∧ (u.2.2.2.2.2.2.2.2.2 (x_pv_linkCount).toInt.toNat).2.1 = (rf rq).2.2.1 ∧ (u.2.2.2.2.2.2.2.2.2 (x_pv_linkCount).toInt.toNat).2.2.2 = (rf rq).2.2.2.2.1 ∧ ∀ xs : List LKT, LKR la lf (x_pv_linkCount).toInt (rf rq).2.2.2.2.1 xs → (u.2.2.2.2.2.2.2.2.2 (x_pv_linkCount).toInt.toNat).2.2.1.toInt = (xs.length : Int) + 1)) ∧ (∀ i : Nat, i ≠ (x_pv_linkCount).toInt.toNat → u.2.2.2.2.2.2.2.2.2 i = lf i)) (fun (u : (Int32) × (Int32) × (Nat → Option Nat) × (Nat → Option Nat) × (Nat) × (Nat → Nat) × (Nat → RT) × (Nat) × (Nat → Nat) × (Nat → LT)) (t : State) => va_P (dC, dI) cls (wp [(h_pv, .inr (3, (mo177 v_pv (.ref h_rws) (.int u.1) (.ref h_lks) (.int u.2.1) (.int x_pv_options)))), (h_rws, .inl (cy_rws, 361, .inr (.inr (.inr (.inr u.2.2.1))))), (h_lks, .inl (cy_lks, 210, .inr (.inr (.inr (.inr u.2.2.2.1)))))] (PL u.2.2.2.2.1 u.2.2.2.2.2.1 u.2.2.2.2.2.2.1 u.2.2.2.2.2.2.2.1 u.2.2.2.2.2.2.2.2.1 u.2.2.2.2.2.2.2.2.2 ns sa sf)) t.heap ∧ va_D (va_A (wp [(h_pv, .inr (3, (mo177 v_pv (.ref h_rws) (.int x_pv_rowCount) (.ref h_lks) (.int x_pv_linkCount) (.int x_pv_options)))), (h_rws, .inl (cy_rws, 361, .inr (.inr (.inr (.inr f_rws))))), (h_lks, .inl (cy_lks, 210, .inr (.inr (.inr (.inr f_lks)))))] (PL nr ra rf nl la lf ns sa sf)) sz) (wp [(h_pv, .inr (3, (mo177 v_pv (.ref h_rws) (.int u.1) (.ref h_lks) (.int u.2.1) (.int x_pv_options)))), (h_rws, .inl (cy_rws, 361, .inr (.inr (.inr (.inr u.2.2.1))))), (h_lks, .inl (cy_lks, 210, .inr (.inr (.inr (.inr u.2.2.2.1)))))] (PL u.2.2.2.2.1 u.2.2.2.2.2.1 u.2.2.2.2.2.2.1 u.2.2.2.2.2.2.2.1 u.2.2.2.2.2.2.2.2.1 u.2.2.2.2.2.2.2.2.2 ns sa sf))) (va_A (wp [(h_pv, .inr (3, (mo177 v_pv (.ref h_rws) (.int x_pv_rowCount) (.ref h_lks) (.int x_pv_linkCount) (.int x_pv_options)))), (h_rws, .inl (cy_rws, 361, .inr (.inr (.inr (.inr f_rws))))), (h_lks, .inl (cy_lks, 210, .inr (.inr (.inr (.inr f_lks)))))] (PL nr ra rf nl la lf ns sa sf)) sz)) (((x_pv_rowCount).toInt.toNat + 1 - nr) + ((x_pv_linkCount).toInt.toNat + (hasb x_pv_options 2).toNat - nl)) (7 * ((x_pv_rowCount).toInt.toNat + 1 - nr) + 4 * ((x_pv_linkCount).toInt.toNat + (hasb x_pv_options 2).toNat - nl)) (va_A (wp [(h_pv, .inr (3, (mo177 v_pv (.ref h_rws) (.int x_pv_rowCount) (.ref h_lks) (.int x_pv_linkCount) (.int x_pv_options)))), (h_rws, .inl (cy_rws, 361, .inr (.inr (.inr (.inr f_rws))))), (h_lks, .inl (cy_lks, 210, .inr (.inr (.inr (.inr f_lks)))))] (PL nr ra rf nl la lf ns sa sf)) sz) := by
  refine Met.ofW (cc := cX4_restOf) (maxL := 3) (ret := (some (.object "OppositePairs$Row"))) (by decide) rfl ?_
  intro p e s m args below meth c s₁ B hml hv
  obtain ⟨rfl, hsz, hP, hK, hD0, hN⟩ := hv
  have hx := B.exec
  have hb := B.bytes
  have hr := B.returns
  have hts := atoms_spec (ws := Ws yX4_restOf cX4_restOf 3 (some (.object "OppositePairs$Row"))) B.pre
  have hT : ∀ w ∈ WALL, w ∈ Ws yX4_restOf cX4_restOf 3 (some (.object "OppositePairs$Row")) := fun w h => List.mem_cons_of_mem _ h
  have hw := fun w (h : w ∈ WALL) => hts w (hT w h)
  have hown : s.vm.findClass RX4 = some m.cls := findClass_of_methodNamed B.named
  have hlocks := B.notSynchronized
  subst hsz
  have hD := hD0.self (sz := s.heap.size)
  generalize hAe : va_A (wp [(h_pv, .inr (3, (mo177 v_pv (.ref h_rws) (.int x_pv_rowCount) (.ref h_lks) (.int x_pv_linkCount) (.int x_pv_options)))), (h_rws, .inl (cy_rws, 361, .inr (.inr (.inr (.inr f_rws))))), (h_lks, .inl (cy_lks, 210, .inr (.inr (.inr (.inr f_lks)))))] (PL nr ra rf nl la lf ns sa sf)) s.heap.size = A at hD ⊢
  have hA : ∀ q : Nat, s.heap.size ≤ q → A q := fun q h => by rw [← hAe]; exact Or.inr h
  have hS : va_S A s.heap s.heap [] := va_S.rf
  have hl := lv_entry ([.ref h_pv, .ref (ra rq)]) (n := 3) (Nat.le_of_ble_eq_true rfl)
  rw [lg_entry_eq]
  generalize (lg_sl ([.ref h_pv, .ref (ra rq)]) ++ List.replicate (3 - (lg_sl ([.ref h_pv, .ref (ra rq)])).length) Slot.unset).toArray = ls at hl ⊢
  have hl : lv_has ls 3 [(0, .ref h_pv), (1, .ref (ra rq))] := hl
  have hb9 := hasb_le x_pv_options 2
  refine lv_aload_n hx hb dX4_restOf_0 rfl (lv_at hl 0 rfl) ?_
  refine lv_aload_n hx hb dX4_restOf_1 rfl (lv_at hl 1 rfl) ?_
  refine va_getN (D := (dC, dI)) (ci := 9) (v := .int (rf rq).1) (C := RX6) (T := TX6) (N := 7) (host := "OppositePairs") hx hb hw iwX6 hown hK hP (3 + rq) (pl_R (X := [(h_pv, .inr (3, (mo177 v_pv (.ref h_rws) (.int x_pv_rowCount) (.ref h_lks) (.int x_pv_linkCount) (.int x_pv_options)))), (h_rws, .inl (cy_rws, 361, .inr (.inr (.inr (.inr f_rws))))), (h_lks, .inl (cy_lks, 210, .inr (.inr (.inr (.inr f_lks)))))]) (by omega)) rfl 0 (by decide) (hN.use n_f_X4_140 rfl) (fun _ h9 => h9) rfl dX4_restOf_2 ?_
  refine lv_topi (fun z1 ez1 => ?_)
  have vz1 : (z1).toInt = ((rf rq).1).toInt := by rw [ez1]
  have rz1 : 0 ≤ (z1).toInt ∧ (z1).toInt ≤ 29 := by rw [ez1]; exact (hn_rok rq (by omega)).1
  have cq2 : z1 = (rf rq).1 := by rw [ez1]
  refine lv_aload_n hx hb dX4_restOf_5 rfl (lv_at hl 1 rfl) ?_
  refine va_getN (D := (dC, dI)) (ci := 9) (v := .int (rf rq).2.1) (C := RX6) (T := TX6) (N := 7) (host := "OppositePairs") hx hb hw iwX6 hown hK hP (3 + rq) (pl_R (X := [(h_pv, .inr (3, (mo177 v_pv (.ref h_rws) (.int x_pv_rowCount) (.ref h_lks) (.int x_pv_linkCount) (.int x_pv_options)))), (h_rws, .inl (cy_rws, 361, .inr (.inr (.inr (.inr f_rws))))), (h_lks, .inl (cy_lks, 210, .inr (.inr (.inr (.inr f_lks)))))]) (by omega)) rfl 1 (by decide) (hN.use n_f_X4_163 rfl) (fun _ h9 => h9) rfl dX4_restOf_6 ?_
  refine lv_topi (fun z3 ez3 => ?_)
  have vz3 : (z3).toInt = ((rf rq).2.1).toInt := by rw [ez3]
  have rz3 : -1 ≤ (z3).toInt ∧ (z3).toInt ≤ 5 := by rw [ez3]; exact (hn_rok rq (by omega)).2.1
  have cq4 : z3 = (rf rq).2.1 := by rw [ez3]
  refine lv_aload_n hx hb dX4_restOf_9 rfl (lv_at hl 1 rfl) ?_
  refine va_getN (D := (dC, dI)) (ci := 9) (v := .int (rf rq).2.2.1) (C := RX6) (T := TX6) (N := 7) (host := "OppositePairs") hx hb hw iwX6 hown hK hP (3 + rq) (pl_R (X := [(h_pv, .inr (3, (mo177 v_pv (.ref h_rws) (.int x_pv_rowCount) (.ref h_lks) (.int x_pv_linkCount) (.int x_pv_options)))), (h_rws, .inl (cy_rws, 361, .inr (.inr (.inr (.inr f_rws))))), (h_lks, .inl (cy_lks, 210, .inr (.inr (.inr (.inr f_lks)))))]) (by omega)) rfl 2 (by decide) (hN.use n_f_X4_137 rfl) (fun _ h9 => h9) rfl dX4_restOf_10 ?_
  refine lv_topi (fun z5 ez5 => ?_)
  have vz5 : (z5).toInt = ((rf rq).2.2.1).toInt := by rw [ez5]
  have rz5 : 0 ≤ (z5).toInt ∧ (z5).toInt ≤ 7 := by rw [ez5]; exact (hn_rok rq (by omega)).2.2.1
  have cq6 : z5 = (rf rq).2.2.1 := by rw [ez5]
  refine lv_iconst (v := 1) hx hb dX4_restOf_13 (by decide) ?_
  refine lv_iadd hx hb dX4_restOf_14 ?_
  refine lv_topi (fun z7 ez7 => ?_)
  have tz7 : (z7).toInt = (z5).toInt + 1 := by rw [ez7]; exact i_add rfl (by decide) (by omega)
  obtain ⟨vq8, evq8⟩ := mq177_175 v_pv (.ref h_lks) (.int x_pv_linkCount) (.int x_pv_options)
  replace hP : va_P (dC, dI) cls (wp [(h_pv, .inr (3, (mo175 vq8 (.ref h_rws) (.int x_pv_rowCount)))), (h_rws, .inl (cy_rws, 361, .inr (.inr (.inr (.inr f_rws))))), (h_lks, .inl (cy_lks, 210, .inr (.inr (.inr (.inr f_lks)))))] (PL nr ra rf nl la lf ns sa sf)) s.heap := by rw [evq8]; exact hP
  replace hD : va_D A (wp [(h_pv, .inr (3, (mo175 vq8 (.ref h_rws) (.int x_pv_rowCount)))), (h_rws, .inl (cy_rws, 361, .inr (.inr (.inr (.inr f_rws))))), (h_lks, .inl (cy_lks, 210, .inr (.inr (.inr (.inr f_lks)))))] (PL nr ra rf nl la lf ns sa sf)) := by rw [evq8]; exact hD
  have hPc : va_P (dC, dI) cls (wp [(h_pv, .inr (3, (mo175 vq8 (.ref h_rws) (.int x_pv_rowCount)))), (h_rws, .inl (cy_rws, 361, .inr (.inr (.inr (.inr f_rws)))))] (PL nr ra rf nl la lf ns sa sf)) s.heap := va_P.part (cx := [(h_pv, .inr (3, (mo175 vq8 (.ref h_rws) (.int x_pv_rowCount)))), (h_rws, .inl (cy_rws, 361, .inr (.inr (.inr (.inr f_rws)))))]) hP [0, 1] rfl
  have hDc : va_D A (wp [(h_pv, .inr (3, (mo175 vq8 (.ref h_rws) (.int x_pv_rowCount)))), (h_rws, .inl (cy_rws, 361, .inr (.inr (.inr (.inr f_rws)))))] (PL nr ra rf nl la lf ns sa sf)) := va_D.part (cx := [(h_pv, .inr (3, (mo175 vq8 (.ref h_rws) (.int x_pv_rowCount)))), (h_rws, .inl (cy_rws, 361, .inr (.inr (.inr (.inr f_rws)))))]) hD [0, 1] (by decide) rfl
  have hKc := hK.sub (tys' := [(cy_rws, .object "OppositePairs$Row")]) [0] rfl
  have hFc : ∀ q, va_A (wp [(h_pv, .inr (3, (mo175 vq8 (.ref h_rws) (.int x_pv_rowCount)))), (h_rws, .inl (cy_rws, 361, .inr (.inr (.inr (.inr f_rws)))))] (PL nr ra rf nl la lf ns sa sf)) s.heap.size q → A q := va_freeP (cx := [(h_pv, .inr (3, (mo175 vq8 (.ref h_rws) (.int x_pv_rowCount)))), (h_rws, .inl (cy_rws, 361, .inr (.inr (.inr (.inr f_rws)))))]) hD hS hA [0, 1] rfl
  refine va_callq (va_runV (As := [.int z1, .int z3, .int z7]) (rest := []) ⟨hx, hb, hml, hown, hts⟩ (c_X4_newRow l dC dI s.heap.size h_pv h_rws nr ra rf nl la lf ns sa sf vq8 x_pv_rowCount cy_rws f_rws z1 z3 z7 (by first | exact hx_pv_rowCount | omega) (by omega) (by omega) (by omega) (by first | exact q2 | omega) (by first | exact q4 | omega) hn_pr hn_rok) (cwV 3 hts (gv hT w_m_X4_110 w_instanceMethod_X4_newRow ws_sel_X4_newRow w_ini_X4 w_code_X4_newRow) rfl rfl rfl (by decide +kernel) ⟨(by dsimp only [headSpec]; omega), (by dsimp only [headSpec]; omega)⟩) ⟨pre_blind, va_recv hK hP (ci := 3) (q0 := 0) rfl rfl, pre_of hPc hKc hDc hN⟩ rfl rfl hl.1 rfl (lv_room (Nat.le_of_ble_eq_true rfl)) dX4_restOf_15 ⟨(by dsimp only [headSpec]; omega), (by dsimp only [headSpec]; omega)⟩) hS (fun q _ h => hFc q h) hFc (fun o9 u t H locs ht hvm hq hB hz1 hk1 hS9 => ?_)
  obtain ⟨z10, f11, nr12, ra13, rf14⟩ := u
  obtain ⟨hP1, hD1⟩ := hB
  rw [ht] at hP1
  obtain ⟨hP9, hD9⟩ := va_joinP (wr := [(h_lks, .inl (cy_lks, 210, .inr (.inr (.inr (.inr f_lks)))))]) (rx := [(h_pv, .inr (3, (mo175 vq8 (.ref h_rws) (.int z10)))), (h_rws, .inl (cy_rws, 361, .inr (.inr (.inr (.inr f11)))))]) (cx := [(h_pv, .inr (3, (mo175 vq8 (.ref h_rws) (.int x_pv_rowCount)))), (h_rws, .inl (cy_rws, 361, .inr (.inr (.inr (.inr f_rws)))))]) hP hD [0, 1] [2] rfl rfl (by decide) (by decide) hk1 hFc hP1 hD1
  clear hP hD hS hPc hDc hKc hFc hP1 hD1 hk1 hz1 ht hvm
  have hP : va_P (dC, dI) cls (wp [(h_lks, .inl (cy_lks, 210, .inr (.inr (.inr (.inr f_lks))))), (h_pv, .inr (3, (mo175 vq8 (.ref h_rws) (.int z10)))), (h_rws, .inl (cy_rws, 361, .inr (.inr (.inr (.inr f11)))))] (PL nr12 ra13 rf14 nl la lf ns sa sf)) H := hP9
  have hD : va_D A (wp [(h_lks, .inl (cy_lks, 210, .inr (.inr (.inr (.inr f_lks))))), (h_pv, .inr (3, (mo175 vq8 (.ref h_rws) (.int z10)))), (h_rws, .inl (cy_rws, 361, .inr (.inr (.inr (.inr f11)))))] (PL nr12 ra13 rf14 nl la lf ns sa sf)) := hD9
  have hS := hS9
  clear hP9 hD9 hS9
  rw [evq8] at hP hD
  replace hP : va_P (dC, dI) cls (wp [(h_lks, .inl (cy_lks, 210, .inr (.inr (.inr (.inr f_lks))))), (h_pv, .inr (3, (mo177 v_pv (.ref h_rws) (.int z10) (.ref h_lks) (.int x_pv_linkCount) (.int x_pv_options)))), (h_rws, .inl (cy_rws, 361, .inr (.inr (.inr (.inr f11)))))] (PL nr12 ra13 rf14 nl la lf ns sa sf)) H := hP
  replace hD : va_D A (wp [(h_lks, .inl (cy_lks, 210, .inr (.inr (.inr (.inr f_lks))))), (h_pv, .inr (3, (mo177 v_pv (.ref h_rws) (.int z10) (.ref h_lks) (.int x_pv_linkCount) (.int x_pv_options)))), (h_rws, .inl (cy_rws, 361, .inr (.inr (.inr (.inr f11)))))] (PL nr12 ra13 rf14 nl la lf ns sa sf)) := hD
  clear evq8 
  obtain ⟨k15, k16, k17, k18, k19, k20, k21, k22, k23, k24⟩ := hq
  replace k15 : 0 ≤ ((z10)).toInt ∧ ((z10)).toInt ≤ 361 := k15
  replace k16 : ((z10)).toInt = ((x_pv_rowCount)).toInt + 1 := k16
  replace k17 : (nr) ≤ (nr12) ∧ ((x_pv_rowCount)).toInt + 1 ≤ (nr12) := k17
  replace k18 : GR2 (nr) (nr12) ((z10)).toInt := k18
  replace k19 : PFX (nr12) 361 (f11) (ra13) := k19
  replace k20 : ROK (nr12) (ra13) (rf14) (nl) (la) := k20
  replace k21 : ∀ i : Nat, i < (nr) → (ra13) i = (ra) i := k21
  replace k22 : (∀ i : Nat, i ≠ ((x_pv_rowCount)).toInt.toNat → (rf14) i = (rf) i) ∧ ((rf14) ((x_pv_rowCount)).toInt.toNat).1 = (z1) ∧ ((rf14) ((x_pv_rowCount)).toInt.toNat).2.1 = (z3) ∧ (0 ≤ ((rf14) ((x_pv_rowCount)).toInt.toNat).2.2.1.toInt ∧ ((rf14) ((x_pv_rowCount)).toInt.toNat).2.2.1.toInt ≤ ((z7)).toInt + 1) := k22
  replace k23 : (o9) = some ((ra13) ((x_pv_rowCount)).toInt.toNat) := k23
  replace k24 : ((rf14) ((x_pv_rowCount)).toInt.toNat).2.2.1.toInt = NXI ((z3)).toInt ((z7)).toInt := k24
  have rto9 := k23
  subst rto9
  show W p l e _ s m _ below meth c _ _ _ _ _ (F0 m 18 ls [.ref (ra13 (x_pv_rowCount).toInt.toNat)])
  have qr9 : ra13 rq = ra rq := k21 rq (by omega)
  have qf9 : rf14 rq = rf rq := k22.1 rq (by omega)
  refine lv_astore_n (lv' := [(2, .ref (ra13 (x_pv_rowCount).toInt.toNat)), (0, .ref h_pv), (1, .ref (ra rq))]) hx hb dX4_restOf_18 rfl hl (by decide) rfl (fun ls hl => ?_)
  refine lv_aload_n hx hb dX4_restOf_19 rfl (lv_at hl 0 rfl) ?_
  refine lv_aload_n hx hb dX4_restOf_20 rfl (lv_at hl 2 rfl) ?_
  refine va_getN (D := (dC, dI)) (ci := 9) (v := va_rf (rf14 rq).2.2.2.1) (C := RX6) (T := TX6) (N := 7) (host := "OppositePairs") hx hb hw iwX6 hown hK hP (3 + rq) (by rw [← qr9]; exact (pl_R (X := [(h_lks, .inl (cy_lks, 210, .inr (.inr (.inr (.inr f_lks))))), (h_pv, .inr (3, (mo177 v_pv (.ref h_rws) (.int z10) (.ref h_lks) (.int x_pv_linkCount) (.int x_pv_options)))), (h_rws, .inl (cy_rws, 361, .inr (.inr (.inr (.inr f11)))))]) (by omega))) rfl 3 (by decide) (hN.use n_f_X4_114 rfl) (fun _ h9 => h9) rfl dX4_restOf_21 ?_
  obtain ⟨o25, eo25⟩ : ∃ o, o = (rf14 rq).2.2.2.1 := ⟨_, rfl⟩
  rw [← eo25]
  have pb26 : PB la (x_pv_linkCount).toInt o25 := by rw [eo25, qf9]; exact (hn_lvr rq (by omega)).1
  have cq27 : o25 = (rf rq).2.2.2.1 := by rw [eo25, qf9]
  refine va_putN (D := (dC, dI)) (ci := 9) (v := (va_rf o25)) (ty := tyX6 3) (C := RX6) (T := TX6) (N := 7) (host := "OppositePairs") hx hb hw iwX6 tyX6 tyX6_ok nmX6 hown hK hP hD hS (3 + (x_pv_rowCount).toInt.toNat) (pl_R (X := [(h_lks, .inl (cy_lks, 210, .inr (.inr (.inr (.inr f_lks))))), (h_pv, .inr (3, (mo177 v_pv (.ref h_rws) (.int z10) (.ref h_lks) (.int x_pv_linkCount) (.int x_pv_options)))), (h_rws, .inl (cy_rws, 361, .inr (.inr (.inr (.inr f11)))))]) (by omega)) rfl 3 (by decide) (hN.use n_f_X4_114 rfl) (fun _ h9 => h9) rfl (tyX6_ok 3 (by decide)) (rf_nar o25 _) (rf_fit o25 _) (Nat.le_of_ble_eq_true rfl) dX4_restOf_24 (fun H locs hP hD hS => ?_)
  have hP : va_P (dC, dI) cls (wp [(h_lks, .inl (cy_lks, 210, .inr (.inr (.inr (.inr f_lks))))), (h_pv, .inr (3, (mo177 v_pv (.ref h_rws) (.int z10) (.ref h_lks) (.int x_pv_linkCount) (.int x_pv_options)))), (h_rws, .inl (cy_rws, 361, .inr (.inr (.inr (.inr f11)))))] (PL nr12 ra13 (va_up rf14 (x_pv_rowCount).toInt.toNat ((rf14 (x_pv_rowCount).toInt.toNat).1, (rf14 (x_pv_rowCount).toInt.toNat).2.1, (rf14 (x_pv_rowCount).toInt.toNat).2.2.1, o25, (rf14 (x_pv_rowCount).toInt.toNat).2.2.2.2.1, (rf14 (x_pv_rowCount).toInt.toNat).2.2.2.2.2.1, (rf14 (x_pv_rowCount).toInt.toNat).2.2.2.2.2.2)) nl la lf ns sa sf)) H := by rw [← pl_setR (i := (x_pv_rowCount).toInt.toNat) (by omega)]; exact hP
  have hD : va_D A (wp [(h_lks, .inl (cy_lks, 210, .inr (.inr (.inr (.inr f_lks))))), (h_pv, .inr (3, (mo177 v_pv (.ref h_rws) (.int z10) (.ref h_lks) (.int x_pv_linkCount) (.int x_pv_options)))), (h_rws, .inl (cy_rws, 361, .inr (.inr (.inr (.inr f11)))))] (PL nr12 ra13 (va_up rf14 (x_pv_rowCount).toInt.toNat ((rf14 (x_pv_rowCount).toInt.toNat).1, (rf14 (x_pv_rowCount).toInt.toNat).2.1, (rf14 (x_pv_rowCount).toInt.toNat).2.2.1, o25, (rf14 (x_pv_rowCount).toInt.toNat).2.2.2.2.1, (rf14 (x_pv_rowCount).toInt.toNat).2.2.2.2.2.1, (rf14 (x_pv_rowCount).toInt.toNat).2.2.2.2.2.2)) nl la lf ns sa sf)) := by rw [← pl_setR (i := (x_pv_rowCount).toInt.toNat) (by omega)]; exact hD
  refine lv_aload_n hx hb dX4_restOf_27 rfl (lv_at hl 0 rfl) ?_
  refine lv_aload_n hx hb dX4_restOf_28 rfl (lv_at hl 1 rfl) ?_
  refine lv_iconst (v := 2) hx hb dX4_restOf_29 (by decide) ?_
  obtain ⟨vq28, evq28⟩ := mq177_42 v_pv (.ref h_rws) (.int z10) (.ref h_lks) (.int x_pv_linkCount)
  replace hP : va_P (dC, dI) cls (wp [(h_lks, .inl (cy_lks, 210, .inr (.inr (.inr (.inr f_lks))))), (h_pv, .inr (3, (mo42 vq28 (.int x_pv_options)))), (h_rws, .inl (cy_rws, 361, .inr (.inr (.inr (.inr f11)))))] (PL nr12 ra13 (va_up rf14 (x_pv_rowCount).toInt.toNat ((rf14 (x_pv_rowCount).toInt.toNat).1, (rf14 (x_pv_rowCount).toInt.toNat).2.1, (rf14 (x_pv_rowCount).toInt.toNat).2.2.1, o25, (rf14 (x_pv_rowCount).toInt.toNat).2.2.2.2.1, (rf14 (x_pv_rowCount).toInt.toNat).2.2.2.2.2.1, (rf14 (x_pv_rowCount).toInt.toNat).2.2.2.2.2.2)) nl la lf ns sa sf)) H := by rw [evq28]; exact hP
  replace hD : va_D A (wp [(h_lks, .inl (cy_lks, 210, .inr (.inr (.inr (.inr f_lks))))), (h_pv, .inr (3, (mo42 vq28 (.int x_pv_options)))), (h_rws, .inl (cy_rws, 361, .inr (.inr (.inr (.inr f11)))))] (PL nr12 ra13 (va_up rf14 (x_pv_rowCount).toInt.toNat ((rf14 (x_pv_rowCount).toInt.toNat).1, (rf14 (x_pv_rowCount).toInt.toNat).2.1, (rf14 (x_pv_rowCount).toInt.toNat).2.2.1, o25, (rf14 (x_pv_rowCount).toInt.toNat).2.2.2.2.1, (rf14 (x_pv_rowCount).toInt.toNat).2.2.2.2.2.1, (rf14 (x_pv_rowCount).toInt.toNat).2.2.2.2.2.2)) nl la lf ns sa sf)) := by rw [evq28]; exact hD
  have cst2 : (2 : Int32).toInt = 2 := by decide
  have hPc := wp_P (cx := [(h_pv, .inr (3, (mo42 vq28 (.int x_pv_options))))]) hP [1] rfl
  have hDc := wp_D (cx := [(h_pv, .inr (3, (mo42 vq28 (.int x_pv_options))))]) hD [1] (by decide) rfl
  have hKc := hK.sub (tys' := []) [] rfl
  have hFc := wp_free (cx := [(h_pv, .inr (3, (mo42 vq28 (.int x_pv_options))))]) hD hS hA [1] rfl
  refine va_calli (va_runV (As := [.int 2]) (rest := [.ref (ra13 (x_pv_rowCount).toInt.toNat)]) ⟨hx, hb, hml, hown, hts⟩ (c_X4_has_e l dC dI H.size h_pv vq28 x_pv_options 2) (cwV 1 hts (gv hT w_m_X4_147 w_instanceMethod_X4_has ws_sel_X4_has w_ini_X4 w_code_X4_has) rfl rfl rfl (by decide +kernel) ⟨(by dsimp only [headSpec]; omega), (by dsimp only [headSpec]; omega)⟩) ⟨pre_blind, va_recv hK hP (ci := 3) (q0 := 1) rfl rfl, pre_of hPc hKc hDc hN⟩ rfl rfl hl.1 rfl (lv_room (Nat.le_of_ble_eq_true rfl)) dX4_restOf_30 ⟨(by dsimp only [headSpec]; omega), (by dsimp only [headSpec]; omega)⟩) hS (fun q _ h => hFc q h) hFc (fun r29 u t H locs ht hvm hq hB hz1 hk1 hS9 => ?_)
  obtain ⟨hP1, hD1⟩ := hB
  rw [ht] at hP1
  obtain ⟨hP9, hD9⟩ := va_joinQ (wr := [(h_lks, .inl (cy_lks, 210, .inr (.inr (.inr (.inr f_lks))))), (h_rws, .inl (cy_rws, 361, .inr (.inr (.inr (.inr f11)))))]) (w1 := [(h_pv, .inr (3, (mo42 vq28 (.int x_pv_options))))]) (cx := [(h_pv, .inr (3, (mo42 vq28 (.int x_pv_options))))]) hP hD [1] [0, 2] rfl rfl (by decide) (by decide) hk1 hFc hP1 hD1
  clear hP hD hS hPc hDc hKc hFc hP1 hD1 hk1 hz1 ht hvm
  have hP : va_P (dC, dI) cls (wp [(h_lks, .inl (cy_lks, 210, .inr (.inr (.inr (.inr f_lks))))), (h_rws, .inl (cy_rws, 361, .inr (.inr (.inr (.inr f11))))), (h_pv, .inr (3, (mo42 vq28 (.int x_pv_options))))] (PL nr12 ra13 (va_up rf14 (x_pv_rowCount).toInt.toNat ((rf14 (x_pv_rowCount).toInt.toNat).1, (rf14 (x_pv_rowCount).toInt.toNat).2.1, (rf14 (x_pv_rowCount).toInt.toNat).2.2.1, o25, (rf14 (x_pv_rowCount).toInt.toNat).2.2.2.2.1, (rf14 (x_pv_rowCount).toInt.toNat).2.2.2.2.2.1, (rf14 (x_pv_rowCount).toInt.toNat).2.2.2.2.2.2)) nl la lf ns sa sf)) H := hP9
  have hD : va_D A (wp [(h_lks, .inl (cy_lks, 210, .inr (.inr (.inr (.inr f_lks))))), (h_rws, .inl (cy_rws, 361, .inr (.inr (.inr (.inr f11))))), (h_pv, .inr (3, (mo42 vq28 (.int x_pv_options))))] (PL nr12 ra13 (va_up rf14 (x_pv_rowCount).toInt.toNat ((rf14 (x_pv_rowCount).toInt.toNat).1, (rf14 (x_pv_rowCount).toInt.toNat).2.1, (rf14 (x_pv_rowCount).toInt.toNat).2.2.1, o25, (rf14 (x_pv_rowCount).toInt.toNat).2.2.2.2.1, (rf14 (x_pv_rowCount).toInt.toNat).2.2.2.2.2.1, (rf14 (x_pv_rowCount).toInt.toNat).2.2.2.2.2.2)) nl la lf ns sa sf)) := hD9
  have hS := hS9
  clear hP9 hD9 hS9
  rw [evq28] at hP hD
  replace hP : va_P (dC, dI) cls (wp [(h_lks, .inl (cy_lks, 210, .inr (.inr (.inr (.inr f_lks))))), (h_rws, .inl (cy_rws, 361, .inr (.inr (.inr (.inr f11))))), (h_pv, .inr (3, (mo177 v_pv (.ref h_rws) (.int z10) (.ref h_lks) (.int x_pv_linkCount) (.int x_pv_options))))] (PL nr12 ra13 (va_up rf14 (x_pv_rowCount).toInt.toNat ((rf14 (x_pv_rowCount).toInt.toNat).1, (rf14 (x_pv_rowCount).toInt.toNat).2.1, (rf14 (x_pv_rowCount).toInt.toNat).2.2.1, o25, (rf14 (x_pv_rowCount).toInt.toNat).2.2.2.2.1, (rf14 (x_pv_rowCount).toInt.toNat).2.2.2.2.2.1, (rf14 (x_pv_rowCount).toInt.toNat).2.2.2.2.2.2)) nl la lf ns sa sf)) H := hP
  replace hD : va_D A (wp [(h_lks, .inl (cy_lks, 210, .inr (.inr (.inr (.inr f_lks))))), (h_rws, .inl (cy_rws, 361, .inr (.inr (.inr (.inr f11))))), (h_pv, .inr (3, (mo177 v_pv (.ref h_rws) (.int z10) (.ref h_lks) (.int x_pv_linkCount) (.int x_pv_options))))] (PL nr12 ra13 (va_up rf14 (x_pv_rowCount).toInt.toNat ((rf14 (x_pv_rowCount).toInt.toNat).1, (rf14 (x_pv_rowCount).toInt.toNat).2.1, (rf14 (x_pv_rowCount).toInt.toNat).2.2.1, o25, (rf14 (x_pv_rowCount).toInt.toNat).2.2.2.2.1, (rf14 (x_pv_rowCount).toInt.toNat).2.2.2.2.2.1, (rf14 (x_pv_rowCount).toInt.toNat).2.2.2.2.2.2)) nl la lf ns sa sf)) := hD
  clear evq28 
  obtain ⟨k30, k31⟩ := hq
  replace k30 : 0 ≤ (r29).toInt ∧ (r29).toInt ≤ 1 := k30
  replace k31 : ((r29)).toInt = hasb (x_pv_options) (2 : Int32) := k31
  refine lv_if_eq (tgt := 55) hx hb dX4_restOf_33 (by decide) (fun c32 => ?_) (fun c32 => ?_)
  · have kc32 := (cv_eq (rfl : (r29).toInt = (r29).toInt) (by decide : (0 : Int32).toInt = 0)).mp c32
    refine lv_aload_n hx hb dX4_restOf_55 rfl (lv_at hl 2 rfl) ?_
    refine va_getN (D := (dC, dI)) (ci := 9) (v := va_rf (rf14 rq).2.2.2.2.1) (C := RX6) (T := TX6) (N := 7) (host := "OppositePairs") hx hb hw iwX6 hown hK hP (3 + rq) (by rw [← qr9]; exact (pl_R3 (X := [(h_lks, .inl (cy_lks, 210, .inr (.inr (.inr (.inr f_lks))))), (h_rws, .inl (cy_rws, 361, .inr (.inr (.inr (.inr f11))))), (h_pv, .inr (3, (mo177 v_pv (.ref h_rws) (.int z10) (.ref h_lks) (.int x_pv_linkCount) (.int x_pv_options))))]) (by omega) (by omega))) rfl 4 (by decide) (hN.use n_f_X4_118 rfl) (fun _ h9 => h9) rfl dX4_restOf_56 ?_
    obtain ⟨o33, eo33⟩ : ∃ o, o = (rf14 rq).2.2.2.2.1 := ⟨_, rfl⟩
    rw [← eo33]
    have pb34 : PB la (x_pv_linkCount).toInt o33 := by rw [eo33, qf9]; exact (hn_lvr rq (by omega)).2.1
    have cq35 : o33 = (rf rq).2.2.2.2.1 := by rw [eo33, qf9]
    refine va_putN (D := (dC, dI)) (ci := 9) (v := (va_rf o33)) (ty := tyX6 4) (C := RX6) (T := TX6) (N := 7) (host := "OppositePairs") hx hb hw iwX6 tyX6 tyX6_ok nmX6 hown hK hP hD hS (3 + (x_pv_rowCount).toInt.toNat) (pl_R2 (X := [(h_lks, .inl (cy_lks, 210, .inr (.inr (.inr (.inr f_lks))))), (h_rws, .inl (cy_rws, 361, .inr (.inr (.inr (.inr f11))))), (h_pv, .inr (3, (mo177 v_pv (.ref h_rws) (.int z10) (.ref h_lks) (.int x_pv_linkCount) (.int x_pv_options))))]) (by omega)) rfl 4 (by decide) (hN.use n_f_X4_118 rfl) (fun _ h9 => h9) rfl (tyX6_ok 4 (by decide)) (rf_nar o33 _) (rf_fit o33 _) (Nat.le_of_ble_eq_true rfl) dX4_restOf_59 (fun H locs hP hD hS => ?_)
    have hP : va_P (dC, dI) cls (wp [(h_lks, .inl (cy_lks, 210, .inr (.inr (.inr (.inr f_lks))))), (h_rws, .inl (cy_rws, 361, .inr (.inr (.inr (.inr f11))))), (h_pv, .inr (3, (mo177 v_pv (.ref h_rws) (.int z10) (.ref h_lks) (.int x_pv_linkCount) (.int x_pv_options))))] (PL nr12 ra13 (va_up rf14 (x_pv_rowCount).toInt.toNat ((rf14 (x_pv_rowCount).toInt.toNat).1, (rf14 (x_pv_rowCount).toInt.toNat).2.1, (rf14 (x_pv_rowCount).toInt.toNat).2.2.1, o25, o33, (rf14 (x_pv_rowCount).toInt.toNat).2.2.2.2.2.1, (rf14 (x_pv_rowCount).toInt.toNat).2.2.2.2.2.2)) nl la lf ns sa sf)) H := by rw [← pl_setR2 (i := (x_pv_rowCount).toInt.toNat) (by omega)]; exact hP
    have hD : va_D A (wp [(h_lks, .inl (cy_lks, 210, .inr (.inr (.inr (.inr f_lks))))), (h_rws, .inl (cy_rws, 361, .inr (.inr (.inr (.inr f11))))), (h_pv, .inr (3, (mo177 v_pv (.ref h_rws) (.int z10) (.ref h_lks) (.int x_pv_linkCount) (.int x_pv_options))))] (PL nr12 ra13 (va_up rf14 (x_pv_rowCount).toInt.toNat ((rf14 (x_pv_rowCount).toInt.toNat).1, (rf14 (x_pv_rowCount).toInt.toNat).2.1, (rf14 (x_pv_rowCount).toInt.toNat).2.2.1, o25, o33, (rf14 (x_pv_rowCount).toInt.toNat).2.2.2.2.2.1, (rf14 (x_pv_rowCount).toInt.toNat).2.2.2.2.2.2)) nl la lf ns sa sf)) := by rw [← pl_setR2 (i := (x_pv_rowCount).toInt.toNat) (by omega)]; exact hD
    refine lv_aload_n hx hb dX4_restOf_62 rfl (lv_at hl 0 rfl) ?_
    refine lv_aload_n hx hb dX4_restOf_63 rfl (lv_at hl 2 rfl) ?_
    refine va_getN (D := (dC, dI)) (ci := 9) (v := va_rf (rf14 rq).2.2.2.2.2.1) (C := RX6) (T := TX6) (N := 7) (host := "OppositePairs") hx hb hw iwX6 hown hK hP (3 + rq) (by rw [← qr9]; exact (pl_R3 (X := [(h_lks, .inl (cy_lks, 210, .inr (.inr (.inr (.inr f_lks))))), (h_rws, .inl (cy_rws, 361, .inr (.inr (.inr (.inr f11))))), (h_pv, .inr (3, (mo177 v_pv (.ref h_rws) (.int z10) (.ref h_lks) (.int x_pv_linkCount) (.int x_pv_options))))]) (by omega) (by omega))) rfl 5 (by decide) (hN.use n_f_X4_121 rfl) (fun _ h9 => h9) rfl dX4_restOf_64 ?_
    obtain ⟨o36, eo36⟩ : ∃ o, o = (rf14 rq).2.2.2.2.2.1 := ⟨_, rfl⟩
    rw [← eo36]
    have pb37 : PB ra rq o36 := by rw [eo36, qf9]; exact (hn_lvr rq (by omega)).2.2
    have cq38 : o36 = (rf rq).2.2.2.2.2.1 := by rw [eo36, qf9]
    refine va_putN (D := (dC, dI)) (ci := 9) (v := (va_rf o36)) (ty := tyX6 5) (C := RX6) (T := TX6) (N := 7) (host := "OppositePairs") hx hb hw iwX6 tyX6 tyX6_ok nmX6 hown hK hP hD hS (3 + (x_pv_rowCount).toInt.toNat) (pl_R2 (X := [(h_lks, .inl (cy_lks, 210, .inr (.inr (.inr (.inr f_lks))))), (h_rws, .inl (cy_rws, 361, .inr (.inr (.inr (.inr f11))))), (h_pv, .inr (3, (mo177 v_pv (.ref h_rws) (.int z10) (.ref h_lks) (.int x_pv_linkCount) (.int x_pv_options))))]) (by omega)) rfl 5 (by decide) (hN.use n_f_X4_121 rfl) (fun _ h9 => h9) rfl (tyX6_ok 5 (by decide)) (rf_nar o36 _) (rf_fit o36 _) (Nat.le_of_ble_eq_true rfl) dX4_restOf_67 (fun H locs hP hD hS => ?_)
    have hP : va_P (dC, dI) cls (wp [(h_lks, .inl (cy_lks, 210, .inr (.inr (.inr (.inr f_lks))))), (h_rws, .inl (cy_rws, 361, .inr (.inr (.inr (.inr f11))))), (h_pv, .inr (3, (mo177 v_pv (.ref h_rws) (.int z10) (.ref h_lks) (.int x_pv_linkCount) (.int x_pv_options))))] (PL nr12 ra13 (va_up rf14 (x_pv_rowCount).toInt.toNat ((rf14 (x_pv_rowCount).toInt.toNat).1, (rf14 (x_pv_rowCount).toInt.toNat).2.1, (rf14 (x_pv_rowCount).toInt.toNat).2.2.1, o25, o33, o36, (rf14 (x_pv_rowCount).toInt.toNat).2.2.2.2.2.2)) nl la lf ns sa sf)) H := by rw [← pl_setR2 (i := (x_pv_rowCount).toInt.toNat) (by omega)]; exact hP
    have hD : va_D A (wp [(h_lks, .inl (cy_lks, 210, .inr (.inr (.inr (.inr f_lks))))), (h_rws, .inl (cy_rws, 361, .inr (.inr (.inr (.inr f11))))), (h_pv, .inr (3, (mo177 v_pv (.ref h_rws) (.int z10) (.ref h_lks) (.int x_pv_linkCount) (.int x_pv_options))))] (PL nr12 ra13 (va_up rf14 (x_pv_rowCount).toInt.toNat ((rf14 (x_pv_rowCount).toInt.toNat).1, (rf14 (x_pv_rowCount).toInt.toNat).2.1, (rf14 (x_pv_rowCount).toInt.toNat).2.2.1, o25, o33, o36, (rf14 (x_pv_rowCount).toInt.toNat).2.2.2.2.2.2)) nl la lf ns sa sf)) := by rw [← pl_setR2 (i := (x_pv_rowCount).toInt.toNat) (by omega)]; exact hD
    refine lv_aload_n hx hb dX4_restOf_70 rfl (lv_at hl 0 rfl) ?_
    refine lv_aload_n hx hb dX4_restOf_71 rfl (lv_at hl 2 rfl) ?_
    refine va_getN (D := (dC, dI)) (ci := 9) (v := .int (rf14 rq).2.2.2.2.2.2) (C := RX6) (T := TX6) (N := 7) (host := "OppositePairs") hx hb hw iwX6 hown hK hP (3 + rq) (by rw [← qr9]; exact (pl_R3 (X := [(h_lks, .inl (cy_lks, 210, .inr (.inr (.inr (.inr f_lks))))), (h_rws, .inl (cy_rws, 361, .inr (.inr (.inr (.inr f11))))), (h_pv, .inr (3, (mo177 v_pv (.ref h_rws) (.int z10) (.ref h_lks) (.int x_pv_linkCount) (.int x_pv_options))))]) (by omega) (by omega))) rfl 6 (by decide) (hN.use n_f_X4_125 rfl) (fun _ h9 => h9) rfl dX4_restOf_72 ?_
    refine lv_topi (fun z39 ez39 => ?_)
    have vz39 : (z39).toInt = ((rf rq).2.2.2.2.2.2).toInt := by rw [ez39, qf9]
    have rz39 : -1 ≤ (z39).toInt ∧ (z39).toInt ≤ 179 := by rw [ez39, qf9]; exact (hn_rok rq (by omega)).2.2.2.2.2.2
    have cq40 : z39 = (rf rq).2.2.2.2.2.2 := by rw [ez39, qf9]
    refine va_putN (D := (dC, dI)) (ci := 9) (v := .int z39) (ty := tyX6 6) (C := RX6) (T := TX6) (N := 7) (host := "OppositePairs") hx hb hw iwX6 tyX6 tyX6_ok nmX6 hown hK hP hD hS (3 + (x_pv_rowCount).toInt.toNat) (pl_R2 (X := [(h_lks, .inl (cy_lks, 210, .inr (.inr (.inr (.inr f_lks))))), (h_rws, .inl (cy_rws, 361, .inr (.inr (.inr (.inr f11))))), (h_pv, .inr (3, (mo177 v_pv (.ref h_rws) (.int z10) (.ref h_lks) (.int x_pv_linkCount) (.int x_pv_options))))]) (by omega)) rfl 6 (by decide) (hN.use n_f_X4_125 rfl) (fun _ h9 => h9) rfl (tyX6_ok 6 (by decide)) rfl rfl (Nat.le_of_ble_eq_true rfl) dX4_restOf_75 (fun H locs hP hD hS => ?_)
    have hP : va_P (dC, dI) cls (wp [(h_lks, .inl (cy_lks, 210, .inr (.inr (.inr (.inr f_lks))))), (h_rws, .inl (cy_rws, 361, .inr (.inr (.inr (.inr f11))))), (h_pv, .inr (3, (mo177 v_pv (.ref h_rws) (.int z10) (.ref h_lks) (.int x_pv_linkCount) (.int x_pv_options))))] (PL nr12 ra13 (va_up rf14 (x_pv_rowCount).toInt.toNat ((rf14 (x_pv_rowCount).toInt.toNat).1, (rf14 (x_pv_rowCount).toInt.toNat).2.1, (rf14 (x_pv_rowCount).toInt.toNat).2.2.1, o25, o33, o36, z39)) nl la lf ns sa sf)) H := by rw [← pl_setR2 (i := (x_pv_rowCount).toInt.toNat) (by omega)]; exact hP
    have hD : va_D A (wp [(h_lks, .inl (cy_lks, 210, .inr (.inr (.inr (.inr f_lks))))), (h_rws, .inl (cy_rws, 361, .inr (.inr (.inr (.inr f11))))), (h_pv, .inr (3, (mo177 v_pv (.ref h_rws) (.int z10) (.ref h_lks) (.int x_pv_linkCount) (.int x_pv_options))))] (PL nr12 ra13 (va_up rf14 (x_pv_rowCount).toInt.toNat ((rf14 (x_pv_rowCount).toInt.toNat).1, (rf14 (x_pv_rowCount).toInt.toNat).2.1, (rf14 (x_pv_rowCount).toInt.toNat).2.2.1, o25, o33, o36, z39)) nl la lf ns sa sf)) := by rw [← pl_setR2 (i := (x_pv_rowCount).toInt.toNat) (by omega)]; exact hD
    refine lv_aload_n hx hb dX4_restOf_78 rfl (lv_at hl 0 rfl) ?_
    obtain ⟨rf41, erf41⟩ : ∃ g, g = (va_up rf14 (x_pv_rowCount).toInt.toNat ((rf14 (x_pv_rowCount).toInt.toNat).1, (rf14 (x_pv_rowCount).toInt.toNat).2.1, (rf14 (x_pv_rowCount).toInt.toNat).2.2.1, o25, o33, o36, z39)) := ⟨_, rfl⟩
    have hP : va_P (dC, dI) cls (wp [(h_lks, .inl (cy_lks, 210, .inr (.inr (.inr (.inr f_lks))))), (h_rws, .inl (cy_rws, 361, .inr (.inr (.inr (.inr f11))))), (h_pv, .inr (3, (mo177 v_pv (.ref h_rws) (.int z10) (.ref h_lks) (.int x_pv_linkCount) (.int x_pv_options))))] (PL nr12 ra13 rf41 nl la lf ns sa sf)) H := by rw [erf41]; exact hP
    have hD : va_D A (wp [(h_lks, .inl (cy_lks, 210, .inr (.inr (.inr (.inr f_lks))))), (h_rws, .inl (cy_rws, 361, .inr (.inr (.inr (.inr f11))))), (h_pv, .inr (3, (mo177 v_pv (.ref h_rws) (.int z10) (.ref h_lks) (.int x_pv_linkCount) (.int x_pv_options))))] (PL nr12 ra13 rf41 nl la lf ns sa sf)) := by rw [erf41]; exact hD
    have srf41 : rf41 (x_pv_rowCount).toInt.toNat = ((rf14 (x_pv_rowCount).toInt.toNat).1, (rf14 (x_pv_rowCount).toInt.toNat).2.1, (rf14 (x_pv_rowCount).toInt.toNat).2.2.1, o25, o33, o36, z39) := by rw [erf41]; exact up_self _ _ _
    have orf41 : ∀ j : Nat, j ≠ (x_pv_rowCount).toInt.toNat → rf41 j = rf14 j := fun j hj => by rw [erf41]; exact up_ne hj
    have rs42o := orf41
    have rs42t := srf41
    have rs42a : ∀ m : Nat, m < nl → la m = la m := fun _ _ => rfl
    have rs42b := k20 (x_pv_rowCount).toInt.toNat (by omega)
    have rs42x : PB la (x_pv_linkCount).toInt o25 := pb_mono pb26 (by omega) (fun m hm => rs42a m (by omega))
    have rs42y : PB la (x_pv_linkCount).toInt o33 := pb_mono pb34 (by omega) (fun m hm => rs42a m (by omega))
    have rs42z : PB ra13 (x_pv_rowCount).toInt o36 := pb_mono pb37 (by omega) (fun m hm => k21 m (by omega))
    have rs42k : ROK nr12 ra13 rf14 nl la := rok_la k20 (by omega) rs42a
    have rs42m : -1 ≤ (z39).toInt ∧ (z39).toInt ≤ 179 := by omega
    have rs42n := (k22).2
    have rs42r : ROK nr12 ra13 rf41 nl la := rok_set rs42k rs42o rs42t (by rw [rs42n.1]; omega) (by rw [rs42n.2.1]; omega) (by omega) (pb_mono rs42x (by omega) (fun _ _ => rfl)) (pb_mono rs42y (by omega) (fun _ _ => rfl)) (pb_mono rs42z (by omega) (fun _ _ => rfl)) rs42m
    have rs42v : LVR ((x_pv_rowCount).toInt + 1) (x_pv_linkCount).toInt ra13 rf41 la := lvr_row (k := (x_pv_rowCount).toInt.toNat) hn_lvr (by omega) (fun m hm => k21 m (by omega)) (fun m hm => rs42a m (by omega)) (by omega) (fun j hj => (rs42o j hj).trans ((k22).1 j hj)) rs42t rs42x rs42y rs42z
    have rs42e : ∀ i : Nat, i ≠ (x_pv_rowCount).toInt.toNat → rf41 i = rf i := fun i hi => (rs42o i hi).trans ((k22).1 i hi)
    have rx43x : (rf41 (x_pv_rowCount).toInt.toNat).1 = (rf rq).1 ∧ (rf41 (x_pv_rowCount).toInt.toNat).2.1 = (rf rq).2.1 ∧ (rf41 (x_pv_rowCount).toInt.toNat).2.2.1.toInt = NXI (rf rq).2.1.toInt ((rf rq).2.2.1.toInt + 1) ∧ (rf41 (x_pv_rowCount).toInt.toNat).2.2.2.1 = (rf rq).2.2.2.1 ∧ (rf41 (x_pv_rowCount).toInt.toNat).2.2.2.2.2.1 = (rf rq).2.2.2.2.2.1 ∧ (rf41 (x_pv_rowCount).toInt.toNat).2.2.2.2.2.2 = (rf rq).2.2.2.2.2.2 := by
      have w1 := (k22).2.1
      have w2 := (k22).2.2.1
      have w3 := k24
      rw [show (z3).toInt = (rf rq).2.1.toInt by omega, show (z7).toInt = (rf rq).2.2.1.toInt + 1 by omega] at w3
      rw [rs42t]
      exact ⟨w1.trans cq2, w2.trans cq4, w3, cq27, cq38, cq40⟩
    have rx43l : (hasb x_pv_options 2 = 0 ∧ (rf41 (x_pv_rowCount).toInt.toNat).2.2.2.2.1 = (rf rq).2.2.2.2.1) ∨ (hasb x_pv_options 2 = 1 ∧ (rf41 (x_pv_rowCount).toInt.toNat).2.2.2.2.1 = some (la (x_pv_linkCount).toInt.toNat) ∧ (lf (x_pv_linkCount).toInt.toNat).1 = (rf rq).1 ∧ (lf (x_pv_linkCount).toInt.toNat).2.1 = (rf rq).2.2.1 ∧ (lf (x_pv_linkCount).toInt.toNat).2.2.2 = (rf rq).2.2.2.2.1 ∧ ∀ xs : List LKT, LKR la lf (x_pv_linkCount).toInt (rf rq).2.2.2.2.1 xs → (lf (x_pv_linkCount).toInt.toNat).2.2.1.toInt = (xs.length : Int) + 1) := Or.inl ⟨by omega, by rw [rs42t]; exact cq35⟩
    replace hP : va_P (dC, dI) cls (wp [(h_pv, .inr (3, (mo177 v_pv (.ref h_rws) (.int z10) (.ref h_lks) (.int x_pv_linkCount) (.int x_pv_options)))), (h_rws, .inl (cy_rws, 361, .inr (.inr (.inr (.inr f11))))), (h_lks, .inl (cy_lks, 210, .inr (.inr (.inr (.inr f_lks)))))] (PL nr12 ra13 rf41 nl la lf ns sa sf)) H := va_P.part (cx := [(h_pv, .inr (3, (mo177 v_pv (.ref h_rws) (.int z10) (.ref h_lks) (.int x_pv_linkCount) (.int x_pv_options)))), (h_rws, .inl (cy_rws, 361, .inr (.inr (.inr (.inr f11))))), (h_lks, .inl (cy_lks, 210, .inr (.inr (.inr (.inr f_lks)))))]) hP [2, 1, 0] rfl
    replace hD : va_D A (wp [(h_pv, .inr (3, (mo177 v_pv (.ref h_rws) (.int z10) (.ref h_lks) (.int x_pv_linkCount) (.int x_pv_options)))), (h_rws, .inl (cy_rws, 361, .inr (.inr (.inr (.inr f11))))), (h_lks, .inl (cy_lks, 210, .inr (.inr (.inr (.inr f_lks)))))] (PL nr12 ra13 rf41 nl la lf ns sa sf)) := va_D.part (cx := [(h_pv, .inr (3, (mo177 v_pv (.ref h_rws) (.int z10) (.ref h_lks) (.int x_pv_linkCount) (.int x_pv_options)))), (h_rws, .inl (cy_rws, 361, .inr (.inr (.inr (.inr f11))))), (h_lks, .inl (cy_lks, 210, .inr (.inr (.inr (.inr f_lks)))))]) hD [2, 1, 0] (by decide) rfl
    refine W.widen (k := ((x_pv_rowCount).toInt.toNat + 1 - nr) + ((x_pv_linkCount).toInt.toNat + (hasb x_pv_options 2).toNat - nl)) (n := 7 * ((x_pv_rowCount).toInt.toNat + 1 - nr) + 4 * ((x_pv_linkCount).toInt.toNat + (hasb x_pv_options 2).toNat - nl)) (by omega) (by omega) ?_
    have w44 : 0 ≤ ((z10)).toInt ∧ ((z10)).toInt ≤ 361 := by first | exact k15 | omega
    have w45 : 0 ≤ ((x_pv_linkCount)).toInt ∧ ((x_pv_linkCount)).toInt ≤ 210 := by first | exact hx_pv_linkCount | omega
    have w46 : ((z10)).toInt = (x_pv_rowCount).toInt + 1 := by first | exact k16 | omega
    have w47 : ((x_pv_linkCount)).toInt = (x_pv_linkCount).toInt + hasb x_pv_options 2 := by omega
    have w48 : nr ≤ (nr12) ∧ nl ≤ (nl) ∧ ((z10)).toInt ≤ (nr12) ∧ ((x_pv_linkCount)).toInt ≤ (nl) := by omega
    have w49 : GR2 nr (nr12) ((z10)).toInt := k18
    have w50 : GR2 nl (nl) ((x_pv_linkCount)).toInt := (gr2_same rfl (by omega))
    have w51 : PFX (nr12) 361 (f11) (ra13) := k19
    have w52 : PFX (nl) 210 (f_lks) (la) := hn_pk
    have w53 : ROK (nr12) (ra13) (rf41) (nl) (la) := rs42r
    have w54 : LOK (nl) (la) (lf) := hn_lok
    have w55 : LVR ((x_pv_rowCount).toInt + 1) ((x_pv_linkCount)).toInt (ra13) (rf41) (la) := (lvr_cast rs42v (by first | rfl | omega) (by first | rfl | omega))
    have w56 : ∀ i : Nat, i < nr → (ra13) i = ra i := k21
    have w57 : ∀ i : Nat, i < nl → (la) i = la i := rs42a
    have w58 : ∀ i : Nat, i ≠ (x_pv_rowCount).toInt.toNat → (rf41) i = rf i := rs42e
    have w59 : (some (ra13 (x_pv_rowCount).toInt.toNat) : Option Nat) = some ((ra13) (x_pv_rowCount).toInt.toNat) := rfl
    have w60 : ((rf41) (x_pv_rowCount).toInt.toNat).1 = (rf rq).1 ∧ ((rf41) (x_pv_rowCount).toInt.toNat).2.1 = (rf rq).2.1 ∧ ((rf41) (x_pv_rowCount).toInt.toNat).2.2.1.toInt = NXI (rf rq).2.1.toInt ((rf rq).2.2.1.toInt + 1) ∧ ((rf41) (x_pv_rowCount).toInt.toNat).2.2.2.1 = (rf rq).2.2.2.1 ∧ ((rf41) (x_pv_rowCount).toInt.toNat).2.2.2.2.2.1 = (rf rq).2.2.2.2.2.1 ∧ ((rf41) (x_pv_rowCount).toInt.toNat).2.2.2.2.2.2 = (rf rq).2.2.2.2.2.2 := rx43x
    have w61 : (hasb x_pv_options 2 = 0 ∧ ((rf41) (x_pv_rowCount).toInt.toNat).2.2.2.2.1 = (rf rq).2.2.2.2.1) ∨ (hasb x_pv_options 2 = 1 ∧ ((rf41) (x_pv_rowCount).toInt.toNat).2.2.2.2.1 = some ((la) (x_pv_linkCount).toInt.toNat) ∧ ((lf) (x_pv_linkCount).toInt.toNat).1 = (rf rq).1 ∧ ((lf) (x_pv_linkCount).toInt.toNat).2.1 = (rf rq).2.2.1 ∧ ((lf) (x_pv_linkCount).toInt.toNat).2.2.2 = (rf rq).2.2.2.2.1 ∧ ∀ xs : List LKT, LKR la lf (x_pv_linkCount).toInt (rf rq).2.2.2.2.1 xs → ((lf) (x_pv_linkCount).toInt.toNat).2.2.1.toInt = (xs.length : Int) + 1) := rx43l
    have w62 : ∀ i : Nat, i ≠ (x_pv_linkCount).toInt.toNat → (lf) i = lf i := (fun _ _ => rfl)
    exact W.aret (v := va_rf (some (ra13 (x_pv_rowCount).toInt.toNat))) hx hb hr (Or.inl ⟨_, rfl⟩) (va_rf_or _) (fun t ht hW => ⟨⟨(some (ra13 (x_pv_rowCount).toInt.toNat)), (z10, x_pv_linkCount, f11, f_lks, nr12, ra13, rf41, nl, la, lf), rfl, ⟨w44, w45, w46, w47, w48, w49, w50, w51, w52, w53, w54, w55, w56, w57, w58, w59, w60, w61, w62⟩, by rw [ht]; exact hP, hD⟩, hS.F ht⟩) hS.2.2 dX4_restOf_79
  · have kc32 := (not_congr (cv_eq (rfl : (r29).toInt = (r29).toInt) (by decide : (0 : Int32).toInt = 0))).mp c32
    replace kc32 : 1 ≤ (r29).toInt := by omega
    refine lv_aload_n hx hb dX4_restOf_36 rfl (lv_at hl 1 rfl) ?_
    refine lv_aload_n hx hb dX4_restOf_37 rfl (lv_at hl 2 rfl) ?_
    refine va_getN (D := (dC, dI)) (ci := 9) (v := .int (rf14 rq).1) (C := RX6) (T := TX6) (N := 7) (host := "OppositePairs") hx hb hw iwX6 hown hK hP (3 + rq) (by rw [← qr9]; exact (pl_R3 (X := [(h_lks, .inl (cy_lks, 210, .inr (.inr (.inr (.inr f_lks))))), (h_rws, .inl (cy_rws, 361, .inr (.inr (.inr (.inr f11))))), (h_pv, .inr (3, (mo177 v_pv (.ref h_rws) (.int z10) (.ref h_lks) (.int x_pv_linkCount) (.int x_pv_options))))]) (by omega) (by omega))) rfl 0 (by decide) (hN.use n_f_X4_140 rfl) (fun _ h9 => h9) rfl dX4_restOf_38 ?_
    refine lv_topi (fun z63 ez63 => ?_)
    have vz63 : (z63).toInt = ((rf rq).1).toInt := by rw [ez63, qf9]
    have rz63 : 0 ≤ (z63).toInt ∧ (z63).toInt ≤ 29 := by rw [ez63, qf9]; exact (hn_rok rq (by omega)).1
    have cq64 : z63 = (rf rq).1 := by rw [ez63, qf9]
    refine lv_aload_n hx hb dX4_restOf_41 rfl (lv_at hl 2 rfl) ?_
    refine va_getN (D := (dC, dI)) (ci := 9) (v := .int (rf14 rq).2.2.1) (C := RX6) (T := TX6) (N := 7) (host := "OppositePairs") hx hb hw iwX6 hown hK hP (3 + rq) (by rw [← qr9]; exact (pl_R3 (X := [(h_lks, .inl (cy_lks, 210, .inr (.inr (.inr (.inr f_lks))))), (h_rws, .inl (cy_rws, 361, .inr (.inr (.inr (.inr f11))))), (h_pv, .inr (3, (mo177 v_pv (.ref h_rws) (.int z10) (.ref h_lks) (.int x_pv_linkCount) (.int x_pv_options))))]) (by omega) (by omega))) rfl 2 (by decide) (hN.use n_f_X4_137 rfl) (fun _ h9 => h9) rfl dX4_restOf_42 ?_
    refine lv_topi (fun z65 ez65 => ?_)
    have vz65 : (z65).toInt = ((rf rq).2.2.1).toInt := by rw [ez65, qf9]
    have rz65 : 0 ≤ (z65).toInt ∧ (z65).toInt ≤ 7 := by rw [ez65, qf9]; exact (hn_rok rq (by omega)).2.2.1
    have cq66 : z65 = (rf rq).2.2.1 := by rw [ez65, qf9]
    refine lv_aload_n hx hb dX4_restOf_45 rfl (lv_at hl 2 rfl) ?_
    refine va_getN (D := (dC, dI)) (ci := 9) (v := va_rf (rf14 rq).2.2.2.2.1) (C := RX6) (T := TX6) (N := 7) (host := "OppositePairs") hx hb hw iwX6 hown hK hP (3 + rq) (by rw [← qr9]; exact (pl_R3 (X := [(h_lks, .inl (cy_lks, 210, .inr (.inr (.inr (.inr f_lks))))), (h_rws, .inl (cy_rws, 361, .inr (.inr (.inr (.inr f11))))), (h_pv, .inr (3, (mo177 v_pv (.ref h_rws) (.int z10) (.ref h_lks) (.int x_pv_linkCount) (.int x_pv_options))))]) (by omega) (by omega))) rfl 4 (by decide) (hN.use n_f_X4_118 rfl) (fun _ h9 => h9) rfl dX4_restOf_46 ?_
    obtain ⟨o67, eo67⟩ : ∃ o, o = (rf14 rq).2.2.2.2.1 := ⟨_, rfl⟩
    rw [← eo67]
    have pb68 : PB la (x_pv_linkCount).toInt o67 := by rw [eo67, qf9]; exact (hn_lvr rq (by omega)).2.1
    have cq69 : o67 = (rf rq).2.2.2.2.1 := by rw [eo67, qf9]
    obtain ⟨rf70, erf70⟩ : ∃ g, g = (va_up rf14 (x_pv_rowCount).toInt.toNat ((rf14 (x_pv_rowCount).toInt.toNat).1, (rf14 (x_pv_rowCount).toInt.toNat).2.1, (rf14 (x_pv_rowCount).toInt.toNat).2.2.1, o25, (rf14 (x_pv_rowCount).toInt.toNat).2.2.2.2.1, (rf14 (x_pv_rowCount).toInt.toNat).2.2.2.2.2.1, (rf14 (x_pv_rowCount).toInt.toNat).2.2.2.2.2.2)) := ⟨_, rfl⟩
    have hP : va_P (dC, dI) cls (wp [(h_lks, .inl (cy_lks, 210, .inr (.inr (.inr (.inr f_lks))))), (h_rws, .inl (cy_rws, 361, .inr (.inr (.inr (.inr f11))))), (h_pv, .inr (3, (mo177 v_pv (.ref h_rws) (.int z10) (.ref h_lks) (.int x_pv_linkCount) (.int x_pv_options))))] (PL nr12 ra13 rf70 nl la lf ns sa sf)) H := by rw [erf70]; exact hP
    have hD : va_D A (wp [(h_lks, .inl (cy_lks, 210, .inr (.inr (.inr (.inr f_lks))))), (h_rws, .inl (cy_rws, 361, .inr (.inr (.inr (.inr f11))))), (h_pv, .inr (3, (mo177 v_pv (.ref h_rws) (.int z10) (.ref h_lks) (.int x_pv_linkCount) (.int x_pv_options))))] (PL nr12 ra13 rf70 nl la lf ns sa sf)) := by rw [erf70]; exact hD
    have srf70 : rf70 (x_pv_rowCount).toInt.toNat = ((rf14 (x_pv_rowCount).toInt.toNat).1, (rf14 (x_pv_rowCount).toInt.toNat).2.1, (rf14 (x_pv_rowCount).toInt.toNat).2.2.1, o25, (rf14 (x_pv_rowCount).toInt.toNat).2.2.2.2.1, (rf14 (x_pv_rowCount).toInt.toNat).2.2.2.2.2.1, (rf14 (x_pv_rowCount).toInt.toNat).2.2.2.2.2.2) := by rw [erf70]; exact up_self _ _ _
    have orf70 : ∀ j : Nat, j ≠ (x_pv_rowCount).toInt.toNat → rf70 j = rf14 j := fun j hj => by rw [erf70]; exact up_ne hj
    have qf8 : rf70 rq = rf rq := (orf70 rq (by omega)).trans qf9
    have lk9 : ∃ xs : List LKT, LKR la lf (x_pv_linkCount).toInt o67 xs := by rw [cq69]; exact hn_lkm
    obtain ⟨vq71, evq71⟩ := mq177_176 v_pv (.ref h_rws) (.int z10) (.int x_pv_options)
    replace hP : va_P (dC, dI) cls (wp [(h_lks, .inl (cy_lks, 210, .inr (.inr (.inr (.inr f_lks))))), (h_rws, .inl (cy_rws, 361, .inr (.inr (.inr (.inr f11))))), (h_pv, .inr (3, (mo176 vq71 (.ref h_lks) (.int x_pv_linkCount))))] (PL nr12 ra13 rf70 nl la lf ns sa sf)) H := by rw [evq71]; exact hP
    replace hD : va_D A (wp [(h_lks, .inl (cy_lks, 210, .inr (.inr (.inr (.inr f_lks))))), (h_rws, .inl (cy_rws, 361, .inr (.inr (.inr (.inr f11))))), (h_pv, .inr (3, (mo176 vq71 (.ref h_lks) (.int x_pv_linkCount))))] (PL nr12 ra13 rf70 nl la lf ns sa sf)) := by rw [evq71]; exact hD
    have hPc : va_P (dC, dI) cls (wp [(h_pv, .inr (3, (mo176 vq71 (.ref h_lks) (.int x_pv_linkCount)))), (h_lks, .inl (cy_lks, 210, .inr (.inr (.inr (.inr f_lks)))))] (PL nr12 ra13 rf70 nl la lf ns sa sf)) H := va_P.part (cx := [(h_pv, .inr (3, (mo176 vq71 (.ref h_lks) (.int x_pv_linkCount)))), (h_lks, .inl (cy_lks, 210, .inr (.inr (.inr (.inr f_lks)))))]) hP [2, 0] rfl
    have hDc : va_D A (wp [(h_pv, .inr (3, (mo176 vq71 (.ref h_lks) (.int x_pv_linkCount)))), (h_lks, .inl (cy_lks, 210, .inr (.inr (.inr (.inr f_lks)))))] (PL nr12 ra13 rf70 nl la lf ns sa sf)) := va_D.part (cx := [(h_pv, .inr (3, (mo176 vq71 (.ref h_lks) (.int x_pv_linkCount)))), (h_lks, .inl (cy_lks, 210, .inr (.inr (.inr (.inr f_lks)))))]) hD [2, 0] (by decide) rfl
    have hKc := hK.sub (tys' := [(cy_lks, .object "OppositePairs$Link")]) [1] rfl
    have hFc : ∀ q, va_A (wp [(h_pv, .inr (3, (mo176 vq71 (.ref h_lks) (.int x_pv_linkCount)))), (h_lks, .inl (cy_lks, 210, .inr (.inr (.inr (.inr f_lks)))))] (PL nr12 ra13 rf70 nl la lf ns sa sf)) H.size q → A q := va_freeP (cx := [(h_pv, .inr (3, (mo176 vq71 (.ref h_lks) (.int x_pv_linkCount)))), (h_lks, .inl (cy_lks, 210, .inr (.inr (.inr (.inr f_lks)))))]) hD hS hA [2, 0] rfl
    refine va_callq (va_runV (As := [.int z63, .int z65, va_rf o67]) (rest := [.ref (ra13 (x_pv_rowCount).toInt.toNat)]) ⟨hx, hb, hml, hown, hts⟩ (c_X4_newLink l dC dI H.size h_pv h_lks nr12 ra13 rf70 nl la lf ns sa sf vq71 x_pv_linkCount cy_lks f_lks z63 z65 o67 (by first | exact hx_pv_linkCount | omega) (by omega) (by omega) (by first | exact q3 | omega) (by first | exact q5 | omega) hn_pk hn_lok pb68 lk9) (cwV 3 hts (gv hT w_m_X4_262 w_instanceMethod_X4_newLink ws_sel_X4_newLink w_ini_X4 w_code_X4_newLink) rfl rfl rfl (by decide +kernel) ⟨(by dsimp only [headSpec]; omega), (by dsimp only [headSpec]; omega)⟩) ⟨pre_blind, va_recv hK hP (ci := 3) (q0 := 2) rfl rfl, pre_of hPc hKc hDc hN⟩ rfl rfl hl.1 rfl (lv_room (Nat.le_of_ble_eq_true rfl)) dX4_restOf_49 ⟨(by dsimp only [headSpec]; omega), (by dsimp only [headSpec]; omega)⟩) hS (fun q _ h => hFc q h) hFc (fun o72 u t H locs ht hvm hq hB hz1 hk1 hS9 => ?_)
    obtain ⟨z73, f74, nl75, la76, lf77⟩ := u
    obtain ⟨hP1, hD1⟩ := hB
    rw [ht] at hP1
    obtain ⟨hP9, hD9⟩ := va_joinP (wr := [(h_rws, .inl (cy_rws, 361, .inr (.inr (.inr (.inr f11)))))]) (rx := [(h_pv, .inr (3, (mo176 vq71 (.ref h_lks) (.int z73)))), (h_lks, .inl (cy_lks, 210, .inr (.inr (.inr (.inr f74)))))]) (cx := [(h_pv, .inr (3, (mo176 vq71 (.ref h_lks) (.int x_pv_linkCount)))), (h_lks, .inl (cy_lks, 210, .inr (.inr (.inr (.inr f_lks)))))]) hP hD [2, 0] [1] rfl rfl (by decide) (by decide) hk1 hFc hP1 hD1
    clear hP hD hS hPc hDc hKc hFc hP1 hD1 hk1 hz1 ht hvm
    have hP : va_P (dC, dI) cls (wp [(h_rws, .inl (cy_rws, 361, .inr (.inr (.inr (.inr f11))))), (h_pv, .inr (3, (mo176 vq71 (.ref h_lks) (.int z73)))), (h_lks, .inl (cy_lks, 210, .inr (.inr (.inr (.inr f74)))))] (PL nr12 ra13 rf70 nl75 la76 lf77 ns sa sf)) H := hP9
    have hD : va_D A (wp [(h_rws, .inl (cy_rws, 361, .inr (.inr (.inr (.inr f11))))), (h_pv, .inr (3, (mo176 vq71 (.ref h_lks) (.int z73)))), (h_lks, .inl (cy_lks, 210, .inr (.inr (.inr (.inr f74)))))] (PL nr12 ra13 rf70 nl75 la76 lf77 ns sa sf)) := hD9
    have hS := hS9
    clear hP9 hD9 hS9
    rw [evq71] at hP hD
    replace hP : va_P (dC, dI) cls (wp [(h_rws, .inl (cy_rws, 361, .inr (.inr (.inr (.inr f11))))), (h_pv, .inr (3, (mo177 v_pv (.ref h_rws) (.int z10) (.ref h_lks) (.int z73) (.int x_pv_options)))), (h_lks, .inl (cy_lks, 210, .inr (.inr (.inr (.inr f74)))))] (PL nr12 ra13 rf70 nl75 la76 lf77 ns sa sf)) H := hP
    replace hD : va_D A (wp [(h_rws, .inl (cy_rws, 361, .inr (.inr (.inr (.inr f11))))), (h_pv, .inr (3, (mo177 v_pv (.ref h_rws) (.int z10) (.ref h_lks) (.int z73) (.int x_pv_options)))), (h_lks, .inl (cy_lks, 210, .inr (.inr (.inr (.inr f74)))))] (PL nr12 ra13 rf70 nl75 la76 lf77 ns sa sf)) := hD
    clear evq71 
    obtain ⟨k78, k79, k80, k81, k82, k83, k84, k85, k86, k87, k88⟩ := hq
    replace k78 : 0 ≤ ((z73)).toInt ∧ ((z73)).toInt ≤ 210 := k78
    replace k79 : ((z73)).toInt = ((x_pv_linkCount)).toInt + 1 := k79
    replace k80 : (nl) ≤ (nl75) ∧ ((x_pv_linkCount)).toInt + 1 ≤ (nl75) := k80
    replace k81 : GR2 (nl) (nl75) ((z73)).toInt := k81
    replace k82 : PFX (nl75) 210 (f74) (la76) := k82
    replace k83 : LOK (nl75) (la76) (lf77) := k83
    replace k84 : ∀ i : Nat, i < (nl) → (la76) i = (la) i := k84
    replace k85 : ∀ i : Nat, i ≠ ((x_pv_linkCount)).toInt.toNat → (lf77) i = (lf) i := k85
    replace k86 : (o72) = some ((la76) ((x_pv_linkCount)).toInt.toNat) := k86
    replace k87 : ∀ xs : List LKT, LKR (la) (lf) ((x_pv_linkCount)).toInt (o67) xs → ((lf77) ((x_pv_linkCount)).toInt.toNat).2.2.1.toInt = (xs.length : Int) + 1 := k87
    replace k88 : ((lf77) ((x_pv_linkCount)).toInt.toNat).1 = (z63) ∧ ((lf77) ((x_pv_linkCount)).toInt.toNat).2.1 = (z65) ∧ ((lf77) ((x_pv_linkCount)).toInt.toNat).2.2.2 = (o67) := k88
    have rto72 := k86
    subst rto72
    show W p l e _ s m _ below meth c _ _ _ _ _ (F0 m 52 ls [.ref (la76 (x_pv_linkCount).toInt.toNat), .ref (ra13 (x_pv_rowCount).toInt.toNat)])
    have qf9 := qf8
    refine lv_goto (tgt := 59) hx hb dX4_restOf_52 (by decide) ?_
    show W p l e _ s m _ below meth c _ _ _ _ _ (F0 m 59 _ (va_rf (some (la76 (x_pv_linkCount).toInt.toNat)) :: _))
    refine va_putN (D := (dC, dI)) (ci := 9) (v := (va_rf (some (la76 (x_pv_linkCount).toInt.toNat)))) (ty := tyX6 4) (C := RX6) (T := TX6) (N := 7) (host := "OppositePairs") hx hb hw iwX6 tyX6 tyX6_ok nmX6 hown hK hP hD hS (3 + (x_pv_rowCount).toInt.toNat) (pl_R (X := [(h_rws, .inl (cy_rws, 361, .inr (.inr (.inr (.inr f11))))), (h_pv, .inr (3, (mo177 v_pv (.ref h_rws) (.int z10) (.ref h_lks) (.int z73) (.int x_pv_options)))), (h_lks, .inl (cy_lks, 210, .inr (.inr (.inr (.inr f74)))))]) (by omega)) rfl 4 (by decide) (hN.use n_f_X4_118 rfl) (fun _ h9 => h9) rfl (tyX6_ok 4 (by decide)) (rf_nar (some (la76 (x_pv_linkCount).toInt.toNat)) _) (rf_fit (some (la76 (x_pv_linkCount).toInt.toNat)) _) (Nat.le_of_ble_eq_true rfl) dX4_restOf_59 (fun H locs hP hD hS => ?_)
    have hP : va_P (dC, dI) cls (wp [(h_rws, .inl (cy_rws, 361, .inr (.inr (.inr (.inr f11))))), (h_pv, .inr (3, (mo177 v_pv (.ref h_rws) (.int z10) (.ref h_lks) (.int z73) (.int x_pv_options)))), (h_lks, .inl (cy_lks, 210, .inr (.inr (.inr (.inr f74)))))] (PL nr12 ra13 (va_up rf70 (x_pv_rowCount).toInt.toNat ((rf70 (x_pv_rowCount).toInt.toNat).1, (rf70 (x_pv_rowCount).toInt.toNat).2.1, (rf70 (x_pv_rowCount).toInt.toNat).2.2.1, (rf70 (x_pv_rowCount).toInt.toNat).2.2.2.1, (some (la76 (x_pv_linkCount).toInt.toNat)), (rf70 (x_pv_rowCount).toInt.toNat).2.2.2.2.2.1, (rf70 (x_pv_rowCount).toInt.toNat).2.2.2.2.2.2)) nl75 la76 lf77 ns sa sf)) H := by rw [← pl_setR (i := (x_pv_rowCount).toInt.toNat) (by omega)]; exact hP
    have hD : va_D A (wp [(h_rws, .inl (cy_rws, 361, .inr (.inr (.inr (.inr f11))))), (h_pv, .inr (3, (mo177 v_pv (.ref h_rws) (.int z10) (.ref h_lks) (.int z73) (.int x_pv_options)))), (h_lks, .inl (cy_lks, 210, .inr (.inr (.inr (.inr f74)))))] (PL nr12 ra13 (va_up rf70 (x_pv_rowCount).toInt.toNat ((rf70 (x_pv_rowCount).toInt.toNat).1, (rf70 (x_pv_rowCount).toInt.toNat).2.1, (rf70 (x_pv_rowCount).toInt.toNat).2.2.1, (rf70 (x_pv_rowCount).toInt.toNat).2.2.2.1, (some (la76 (x_pv_linkCount).toInt.toNat)), (rf70 (x_pv_rowCount).toInt.toNat).2.2.2.2.2.1, (rf70 (x_pv_rowCount).toInt.toNat).2.2.2.2.2.2)) nl75 la76 lf77 ns sa sf)) := by rw [← pl_setR (i := (x_pv_rowCount).toInt.toNat) (by omega)]; exact hD
    refine lv_aload_n hx hb dX4_restOf_62 rfl (lv_at hl 0 rfl) ?_
    refine lv_aload_n hx hb dX4_restOf_63 rfl (lv_at hl 2 rfl) ?_
    refine va_getN (D := (dC, dI)) (ci := 9) (v := va_rf (rf70 rq).2.2.2.2.2.1) (C := RX6) (T := TX6) (N := 7) (host := "OppositePairs") hx hb hw iwX6 hown hK hP (3 + rq) (by rw [← qr9]; exact (pl_R3 (X := [(h_rws, .inl (cy_rws, 361, .inr (.inr (.inr (.inr f11))))), (h_pv, .inr (3, (mo177 v_pv (.ref h_rws) (.int z10) (.ref h_lks) (.int z73) (.int x_pv_options)))), (h_lks, .inl (cy_lks, 210, .inr (.inr (.inr (.inr f74)))))]) (by omega) (by omega))) rfl 5 (by decide) (hN.use n_f_X4_121 rfl) (fun _ h9 => h9) rfl dX4_restOf_64 ?_
    obtain ⟨o89, eo89⟩ : ∃ o, o = (rf70 rq).2.2.2.2.2.1 := ⟨_, rfl⟩
    rw [← eo89]
    have pb90 : PB ra rq o89 := by rw [eo89, qf9]; exact (hn_lvr rq (by omega)).2.2
    have cq91 : o89 = (rf rq).2.2.2.2.2.1 := by rw [eo89, qf9]
    refine va_putN (D := (dC, dI)) (ci := 9) (v := (va_rf o89)) (ty := tyX6 5) (C := RX6) (T := TX6) (N := 7) (host := "OppositePairs") hx hb hw iwX6 tyX6 tyX6_ok nmX6 hown hK hP hD hS (3 + (x_pv_rowCount).toInt.toNat) (pl_R2 (X := [(h_rws, .inl (cy_rws, 361, .inr (.inr (.inr (.inr f11))))), (h_pv, .inr (3, (mo177 v_pv (.ref h_rws) (.int z10) (.ref h_lks) (.int z73) (.int x_pv_options)))), (h_lks, .inl (cy_lks, 210, .inr (.inr (.inr (.inr f74)))))]) (by omega)) rfl 5 (by decide) (hN.use n_f_X4_121 rfl) (fun _ h9 => h9) rfl (tyX6_ok 5 (by decide)) (rf_nar o89 _) (rf_fit o89 _) (Nat.le_of_ble_eq_true rfl) dX4_restOf_67 (fun H locs hP hD hS => ?_)
    have hP : va_P (dC, dI) cls (wp [(h_rws, .inl (cy_rws, 361, .inr (.inr (.inr (.inr f11))))), (h_pv, .inr (3, (mo177 v_pv (.ref h_rws) (.int z10) (.ref h_lks) (.int z73) (.int x_pv_options)))), (h_lks, .inl (cy_lks, 210, .inr (.inr (.inr (.inr f74)))))] (PL nr12 ra13 (va_up rf70 (x_pv_rowCount).toInt.toNat ((rf70 (x_pv_rowCount).toInt.toNat).1, (rf70 (x_pv_rowCount).toInt.toNat).2.1, (rf70 (x_pv_rowCount).toInt.toNat).2.2.1, (rf70 (x_pv_rowCount).toInt.toNat).2.2.2.1, (some (la76 (x_pv_linkCount).toInt.toNat)), o89, (rf70 (x_pv_rowCount).toInt.toNat).2.2.2.2.2.2)) nl75 la76 lf77 ns sa sf)) H := by rw [← pl_setR2 (i := (x_pv_rowCount).toInt.toNat) (by omega)]; exact hP
    have hD : va_D A (wp [(h_rws, .inl (cy_rws, 361, .inr (.inr (.inr (.inr f11))))), (h_pv, .inr (3, (mo177 v_pv (.ref h_rws) (.int z10) (.ref h_lks) (.int z73) (.int x_pv_options)))), (h_lks, .inl (cy_lks, 210, .inr (.inr (.inr (.inr f74)))))] (PL nr12 ra13 (va_up rf70 (x_pv_rowCount).toInt.toNat ((rf70 (x_pv_rowCount).toInt.toNat).1, (rf70 (x_pv_rowCount).toInt.toNat).2.1, (rf70 (x_pv_rowCount).toInt.toNat).2.2.1, (rf70 (x_pv_rowCount).toInt.toNat).2.2.2.1, (some (la76 (x_pv_linkCount).toInt.toNat)), o89, (rf70 (x_pv_rowCount).toInt.toNat).2.2.2.2.2.2)) nl75 la76 lf77 ns sa sf)) := by rw [← pl_setR2 (i := (x_pv_rowCount).toInt.toNat) (by omega)]; exact hD
    refine lv_aload_n hx hb dX4_restOf_70 rfl (lv_at hl 0 rfl) ?_
    refine lv_aload_n hx hb dX4_restOf_71 rfl (lv_at hl 2 rfl) ?_
    refine va_getN (D := (dC, dI)) (ci := 9) (v := .int (rf70 rq).2.2.2.2.2.2) (C := RX6) (T := TX6) (N := 7) (host := "OppositePairs") hx hb hw iwX6 hown hK hP (3 + rq) (by rw [← qr9]; exact (pl_R3 (X := [(h_rws, .inl (cy_rws, 361, .inr (.inr (.inr (.inr f11))))), (h_pv, .inr (3, (mo177 v_pv (.ref h_rws) (.int z10) (.ref h_lks) (.int z73) (.int x_pv_options)))), (h_lks, .inl (cy_lks, 210, .inr (.inr (.inr (.inr f74)))))]) (by omega) (by omega))) rfl 6 (by decide) (hN.use n_f_X4_125 rfl) (fun _ h9 => h9) rfl dX4_restOf_72 ?_
    refine lv_topi (fun z92 ez92 => ?_)
    have vz92 : (z92).toInt = ((rf rq).2.2.2.2.2.2).toInt := by rw [ez92, qf9]
    have rz92 : -1 ≤ (z92).toInt ∧ (z92).toInt ≤ 179 := by rw [ez92, qf9]; exact (hn_rok rq (by omega)).2.2.2.2.2.2
    have cq93 : z92 = (rf rq).2.2.2.2.2.2 := by rw [ez92, qf9]
    refine va_putN (D := (dC, dI)) (ci := 9) (v := .int z92) (ty := tyX6 6) (C := RX6) (T := TX6) (N := 7) (host := "OppositePairs") hx hb hw iwX6 tyX6 tyX6_ok nmX6 hown hK hP hD hS (3 + (x_pv_rowCount).toInt.toNat) (pl_R2 (X := [(h_rws, .inl (cy_rws, 361, .inr (.inr (.inr (.inr f11))))), (h_pv, .inr (3, (mo177 v_pv (.ref h_rws) (.int z10) (.ref h_lks) (.int z73) (.int x_pv_options)))), (h_lks, .inl (cy_lks, 210, .inr (.inr (.inr (.inr f74)))))]) (by omega)) rfl 6 (by decide) (hN.use n_f_X4_125 rfl) (fun _ h9 => h9) rfl (tyX6_ok 6 (by decide)) rfl rfl (Nat.le_of_ble_eq_true rfl) dX4_restOf_75 (fun H locs hP hD hS => ?_)
    have hP : va_P (dC, dI) cls (wp [(h_rws, .inl (cy_rws, 361, .inr (.inr (.inr (.inr f11))))), (h_pv, .inr (3, (mo177 v_pv (.ref h_rws) (.int z10) (.ref h_lks) (.int z73) (.int x_pv_options)))), (h_lks, .inl (cy_lks, 210, .inr (.inr (.inr (.inr f74)))))] (PL nr12 ra13 (va_up rf70 (x_pv_rowCount).toInt.toNat ((rf70 (x_pv_rowCount).toInt.toNat).1, (rf70 (x_pv_rowCount).toInt.toNat).2.1, (rf70 (x_pv_rowCount).toInt.toNat).2.2.1, (rf70 (x_pv_rowCount).toInt.toNat).2.2.2.1, (some (la76 (x_pv_linkCount).toInt.toNat)), o89, z92)) nl75 la76 lf77 ns sa sf)) H := by rw [← pl_setR2 (i := (x_pv_rowCount).toInt.toNat) (by omega)]; exact hP
    have hD : va_D A (wp [(h_rws, .inl (cy_rws, 361, .inr (.inr (.inr (.inr f11))))), (h_pv, .inr (3, (mo177 v_pv (.ref h_rws) (.int z10) (.ref h_lks) (.int z73) (.int x_pv_options)))), (h_lks, .inl (cy_lks, 210, .inr (.inr (.inr (.inr f74)))))] (PL nr12 ra13 (va_up rf70 (x_pv_rowCount).toInt.toNat ((rf70 (x_pv_rowCount).toInt.toNat).1, (rf70 (x_pv_rowCount).toInt.toNat).2.1, (rf70 (x_pv_rowCount).toInt.toNat).2.2.1, (rf70 (x_pv_rowCount).toInt.toNat).2.2.2.1, (some (la76 (x_pv_linkCount).toInt.toNat)), o89, z92)) nl75 la76 lf77 ns sa sf)) := by rw [← pl_setR2 (i := (x_pv_rowCount).toInt.toNat) (by omega)]; exact hD
    refine lv_aload_n hx hb dX4_restOf_78 rfl (lv_at hl 0 rfl) ?_
    obtain ⟨rf94, erf94⟩ : ∃ g, g = (va_up rf70 (x_pv_rowCount).toInt.toNat ((rf70 (x_pv_rowCount).toInt.toNat).1, (rf70 (x_pv_rowCount).toInt.toNat).2.1, (rf70 (x_pv_rowCount).toInt.toNat).2.2.1, (rf70 (x_pv_rowCount).toInt.toNat).2.2.2.1, (some (la76 (x_pv_linkCount).toInt.toNat)), o89, z92)) := ⟨_, rfl⟩
    have hP : va_P (dC, dI) cls (wp [(h_rws, .inl (cy_rws, 361, .inr (.inr (.inr (.inr f11))))), (h_pv, .inr (3, (mo177 v_pv (.ref h_rws) (.int z10) (.ref h_lks) (.int z73) (.int x_pv_options)))), (h_lks, .inl (cy_lks, 210, .inr (.inr (.inr (.inr f74)))))] (PL nr12 ra13 rf94 nl75 la76 lf77 ns sa sf)) H := by rw [erf94]; exact hP
    have hD : va_D A (wp [(h_rws, .inl (cy_rws, 361, .inr (.inr (.inr (.inr f11))))), (h_pv, .inr (3, (mo177 v_pv (.ref h_rws) (.int z10) (.ref h_lks) (.int z73) (.int x_pv_options)))), (h_lks, .inl (cy_lks, 210, .inr (.inr (.inr (.inr f74)))))] (PL nr12 ra13 rf94 nl75 la76 lf77 ns sa sf)) := by rw [erf94]; exact hD
    have srf94 : rf94 (x_pv_rowCount).toInt.toNat = ((rf70 (x_pv_rowCount).toInt.toNat).1, (rf70 (x_pv_rowCount).toInt.toNat).2.1, (rf70 (x_pv_rowCount).toInt.toNat).2.2.1, (rf70 (x_pv_rowCount).toInt.toNat).2.2.2.1, (some (la76 (x_pv_linkCount).toInt.toNat)), o89, z92) := by rw [erf94]; exact up_self _ _ _
    have orf94 : ∀ j : Nat, j ≠ (x_pv_rowCount).toInt.toNat → rf94 j = rf70 j := fun j hj => by rw [erf94]; exact up_ne hj
    have rs95o : ∀ j : Nat, j ≠ (x_pv_rowCount).toInt.toNat → rf94 j = rf14 j := fun j hj => (orf94 j hj).trans (orf70 j hj)
    have rs95t : rf94 (x_pv_rowCount).toInt.toNat = ((rf14 (x_pv_rowCount).toInt.toNat).1, (rf14 (x_pv_rowCount).toInt.toNat).2.1, (rf14 (x_pv_rowCount).toInt.toNat).2.2.1, o25, (some (la76 (x_pv_linkCount).toInt.toNat)), o89, z92) := by rw [srf94, srf70]
    have rs95b := k20 (x_pv_rowCount).toInt.toNat (by omega)
    have rs95x : PB la76 (z73).toInt o25 := pb_mono pb26 (by omega) (fun m hm => k84 m (by omega))
    have rs95y : PB la76 (z73).toInt (some (la76 (x_pv_linkCount).toInt.toNat)) := Or.inr ⟨(x_pv_linkCount).toInt.toNat, by omega, rfl⟩
    have rs95z : PB ra13 (x_pv_rowCount).toInt o89 := pb_mono pb90 (by omega) (fun m hm => k21 m (by omega))
    have rs95k : ROK nr12 ra13 rf14 nl75 la76 := rok_la k20 (by omega) k84
    have rs95m : -1 ≤ (z92).toInt ∧ (z92).toInt ≤ 179 := by omega
    have rs95n := (k22).2
    have rs95r : ROK nr12 ra13 rf94 nl75 la76 := rok_set rs95k rs95o rs95t (by rw [rs95n.1]; omega) (by rw [rs95n.2.1]; omega) (by omega) (pb_mono rs95x (by omega) (fun _ _ => rfl)) (pb_mono rs95y (by omega) (fun _ _ => rfl)) (pb_mono rs95z (by omega) (fun _ _ => rfl)) rs95m
    have rs95v : LVR ((x_pv_rowCount).toInt + 1) (z73).toInt ra13 rf94 la76 := lvr_row (k := (x_pv_rowCount).toInt.toNat) hn_lvr (by omega) (fun m hm => k21 m (by omega)) (fun m hm => k84 m (by omega)) (by omega) (fun j hj => (rs95o j hj).trans ((k22).1 j hj)) rs95t rs95x rs95y rs95z
    have rs95e : ∀ i : Nat, i ≠ (x_pv_rowCount).toInt.toNat → rf94 i = rf i := fun i hi => (rs95o i hi).trans ((k22).1 i hi)
    have rx96x : (rf94 (x_pv_rowCount).toInt.toNat).1 = (rf rq).1 ∧ (rf94 (x_pv_rowCount).toInt.toNat).2.1 = (rf rq).2.1 ∧ (rf94 (x_pv_rowCount).toInt.toNat).2.2.1.toInt = NXI (rf rq).2.1.toInt ((rf rq).2.2.1.toInt + 1) ∧ (rf94 (x_pv_rowCount).toInt.toNat).2.2.2.1 = (rf rq).2.2.2.1 ∧ (rf94 (x_pv_rowCount).toInt.toNat).2.2.2.2.2.1 = (rf rq).2.2.2.2.2.1 ∧ (rf94 (x_pv_rowCount).toInt.toNat).2.2.2.2.2.2 = (rf rq).2.2.2.2.2.2 := by
      have w1 := (k22).2.1
      have w2 := (k22).2.2.1
      have w3 := k24
      rw [show (z3).toInt = (rf rq).2.1.toInt by omega, show (z7).toInt = (rf rq).2.2.1.toInt + 1 by omega] at w3
      rw [rs95t]
      exact ⟨w1.trans cq2, w2.trans cq4, w3, cq27, cq91, cq93⟩
    have rx96l : (hasb x_pv_options 2 = 0 ∧ (rf94 (x_pv_rowCount).toInt.toNat).2.2.2.2.1 = (rf rq).2.2.2.2.1) ∨ (hasb x_pv_options 2 = 1 ∧ (rf94 (x_pv_rowCount).toInt.toNat).2.2.2.2.1 = some (la76 (x_pv_linkCount).toInt.toNat) ∧ (lf77 (x_pv_linkCount).toInt.toNat).1 = (rf rq).1 ∧ (lf77 (x_pv_linkCount).toInt.toNat).2.1 = (rf rq).2.2.1 ∧ (lf77 (x_pv_linkCount).toInt.toNat).2.2.2 = (rf rq).2.2.2.2.1 ∧ ∀ xs : List LKT, LKR la lf (x_pv_linkCount).toInt (rf rq).2.2.2.2.1 xs → (lf77 (x_pv_linkCount).toInt.toNat).2.2.1.toInt = (xs.length : Int) + 1) := Or.inr ⟨by omega, by rw [rs95t], k88.1.trans cq64, k88.2.1.trans cq66, k88.2.2.trans cq69, fun xs9 h9 => k87 xs9 (by rw [cq69]; exact h9)⟩
    replace hP : va_P (dC, dI) cls (wp [(h_pv, .inr (3, (mo177 v_pv (.ref h_rws) (.int z10) (.ref h_lks) (.int z73) (.int x_pv_options)))), (h_rws, .inl (cy_rws, 361, .inr (.inr (.inr (.inr f11))))), (h_lks, .inl (cy_lks, 210, .inr (.inr (.inr (.inr f74)))))] (PL nr12 ra13 rf94 nl75 la76 lf77 ns sa sf)) H := va_P.part (cx := [(h_pv, .inr (3, (mo177 v_pv (.ref h_rws) (.int z10) (.ref h_lks) (.int z73) (.int x_pv_options)))), (h_rws, .inl (cy_rws, 361, .inr (.inr (.inr (.inr f11))))), (h_lks, .inl (cy_lks, 210, .inr (.inr (.inr (.inr f74)))))]) hP [1, 0, 2] rfl
    replace hD : va_D A (wp [(h_pv, .inr (3, (mo177 v_pv (.ref h_rws) (.int z10) (.ref h_lks) (.int z73) (.int x_pv_options)))), (h_rws, .inl (cy_rws, 361, .inr (.inr (.inr (.inr f11))))), (h_lks, .inl (cy_lks, 210, .inr (.inr (.inr (.inr f74)))))] (PL nr12 ra13 rf94 nl75 la76 lf77 ns sa sf)) := va_D.part (cx := [(h_pv, .inr (3, (mo177 v_pv (.ref h_rws) (.int z10) (.ref h_lks) (.int z73) (.int x_pv_options)))), (h_rws, .inl (cy_rws, 361, .inr (.inr (.inr (.inr f11))))), (h_lks, .inl (cy_lks, 210, .inr (.inr (.inr (.inr f74)))))]) hD [1, 0, 2] (by decide) rfl
    refine W.widen (k := ((x_pv_rowCount).toInt.toNat + 1 - nr) + ((x_pv_linkCount).toInt.toNat + (hasb x_pv_options 2).toNat - nl)) (n := 7 * ((x_pv_rowCount).toInt.toNat + 1 - nr) + 4 * ((x_pv_linkCount).toInt.toNat + (hasb x_pv_options 2).toNat - nl)) (by omega) (by omega) ?_
    have w97 : 0 ≤ ((z10)).toInt ∧ ((z10)).toInt ≤ 361 := by first | exact k15 | omega
    have w98 : 0 ≤ ((z73)).toInt ∧ ((z73)).toInt ≤ 210 := by first | exact k78 | omega
    have w99 : ((z10)).toInt = (x_pv_rowCount).toInt + 1 := by first | exact k16 | omega
    have w100 : ((z73)).toInt = (x_pv_linkCount).toInt + hasb x_pv_options 2 := by omega
    have w101 : nr ≤ (nr12) ∧ nl ≤ (nl75) ∧ ((z10)).toInt ≤ (nr12) ∧ ((z73)).toInt ≤ (nl75) := by omega
    have w102 : GR2 nr (nr12) ((z10)).toInt := k18
    have w103 : GR2 nl (nl75) ((z73)).toInt := k81
    have w104 : PFX (nr12) 361 (f11) (ra13) := k19
    have w105 : PFX (nl75) 210 (f74) (la76) := k82
    have w106 : ROK (nr12) (ra13) (rf94) (nl75) (la76) := rs95r
    have w107 : LOK (nl75) (la76) (lf77) := k83
    have w108 : LVR ((x_pv_rowCount).toInt + 1) ((z73)).toInt (ra13) (rf94) (la76) := (lvr_cast rs95v (by first | rfl | omega) (by first | rfl | omega))
    have w109 : ∀ i : Nat, i < nr → (ra13) i = ra i := k21
    have w110 : ∀ i : Nat, i < nl → (la76) i = la i := k84
    have w111 : ∀ i : Nat, i ≠ (x_pv_rowCount).toInt.toNat → (rf94) i = rf i := rs95e
    have w112 : (some (ra13 (x_pv_rowCount).toInt.toNat) : Option Nat) = some ((ra13) (x_pv_rowCount).toInt.toNat) := rfl
    have w113 : ((rf94) (x_pv_rowCount).toInt.toNat).1 = (rf rq).1 ∧ ((rf94) (x_pv_rowCount).toInt.toNat).2.1 = (rf rq).2.1 ∧ ((rf94) (x_pv_rowCount).toInt.toNat).2.2.1.toInt = NXI (rf rq).2.1.toInt ((rf rq).2.2.1.toInt + 1) ∧ ((rf94) (x_pv_rowCount).toInt.toNat).2.2.2.1 = (rf rq).2.2.2.1 ∧ ((rf94) (x_pv_rowCount).toInt.toNat).2.2.2.2.2.1 = (rf rq).2.2.2.2.2.1 ∧ ((rf94) (x_pv_rowCount).toInt.toNat).2.2.2.2.2.2 = (rf rq).2.2.2.2.2.2 := rx96x
    have w114 : (hasb x_pv_options 2 = 0 ∧ ((rf94) (x_pv_rowCount).toInt.toNat).2.2.2.2.1 = (rf rq).2.2.2.2.1) ∨ (hasb x_pv_options 2 = 1 ∧ ((rf94) (x_pv_rowCount).toInt.toNat).2.2.2.2.1 = some ((la76) (x_pv_linkCount).toInt.toNat) ∧ ((lf77) (x_pv_linkCount).toInt.toNat).1 = (rf rq).1 ∧ ((lf77) (x_pv_linkCount).toInt.toNat).2.1 = (rf rq).2.2.1 ∧ ((lf77) (x_pv_linkCount).toInt.toNat).2.2.2 = (rf rq).2.2.2.2.1 ∧ ∀ xs : List LKT, LKR la lf (x_pv_linkCount).toInt (rf rq).2.2.2.2.1 xs → ((lf77) (x_pv_linkCount).toInt.toNat).2.2.1.toInt = (xs.length : Int) + 1) := rx96l
    have w115 : ∀ i : Nat, i ≠ (x_pv_linkCount).toInt.toNat → (lf77) i = lf i := k85
    exact W.aret (v := va_rf (some (ra13 (x_pv_rowCount).toInt.toNat))) hx hb hr (Or.inl ⟨_, rfl⟩) (va_rf_or _) (fun t ht hW => ⟨⟨(some (ra13 (x_pv_rowCount).toInt.toNat)), (z10, z73, f11, f74, nr12, ra13, rf94, nl75, la76, lf77), rfl, ⟨w97, w98, w99, w100, w101, w102, w103, w104, w105, w106, w107, w108, w109, w110, w111, w112, w113, w114, w115⟩, by rw [ht]; exact hP, hD⟩, hS.F ht⟩) hS.2.2 dX4_restOf_79

