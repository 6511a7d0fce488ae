theorem w_cl_X4_17 : Cond.classLink "OppositePairs$Prover" 17 "OppositePairs$Link" ∈ WALL := wall_t (tb_1 217 (by decide +kernel)) rfl
theorem w_cl_X4_9 : Cond.classLink "OppositePairs$Prover" 9 "OppositePairs$Row" ∈ WALL := wall_t (tb_1 215 (by decide +kernel)) rfl
theorem w_code_X10_lengthOf : Cond.code yX10_lengthOf prog_1_method_34_code 1 (some .int) ∈ WALL := wall_t (tb_4 84 (by decide +kernel)) rfl
theorem w_code_X2_init : Cond.code yX2_init prog_4_method_1_code 1 none ∈ WALL := wall_t (tb_4 101 (by decide +kernel)) rfl
theorem w_code_X4_has : Cond.code yX4_has prog_6_method_5_code 2 (some .boolean) ∈ WALL := wall_t (tb_3 218 (by decide +kernel)) rfl
theorem w_code_X4_newLink : Cond.code yX4_newLink prog_6_method_23_code 6 (some (.object "OppositePairs$Link")) ∈ WALL := wall_t (tb_4 97 (by decide +kernel)) rfl
theorem w_code_X4_newRow : Cond.code yX4_newRow prog_6_method_22_code 6 (some (.object "OppositePairs$Row")) ∈ WALL := wall_t (tb_3 174 (by decide +kernel)) rfl
theorem w_code_X6_init : Cond.code yX6_init prog_8_method_1_code 1 none ∈ WALL := wall_t (tb_3 179 (by decide +kernel)) rfl
theorem w_code_objInit : Cond.code objectInit object_method_1_code 1 none ∈ WALL := wall_t (tb_1 23 (by decide +kernel)) rfl
theorem w_f_X4_101 : Cond.fieldLink "OppositePairs$Prover" 101 "OppositePairs$Prover" "rowCount" "I" ∈ WALL := wall_t (tb_1 224 (by decide +kernel)) rfl
theorem w_f_X4_104 : Cond.fieldLink "OppositePairs$Prover" 104 "OppositePairs$Prover" "linkCount" "I" ∈ WALL := wall_t (tb_1 226 (by decide +kernel)) rfl
theorem w_f_X4_11 : Cond.fieldLink "OppositePairs$Prover" 11 "OppositePairs$Prover" "rows" "[LOppositePairs$Row;" ∈ WALL := wall_t (tb_1 223 (by decide +kernel)) rfl
theorem w_f_X4_19 : Cond.fieldLink "OppositePairs$Prover" 19 "OppositePairs$Prover" "links" "[LOppositePairs$Link;" ∈ WALL := wall_t (tb_1 225 (by decide +kernel)) rfl
theorem w_ini_X2 : Cond.initialized "OppositePairs$Link" ∈ WALL := wall_t (tb_1 14 (by decide +kernel)) rfl
theorem w_ini_X6 : Cond.initialized "OppositePairs$Row" ∈ WALL := wall_t (tb_1 12 (by decide +kernel)) rfl
theorem w_inst_X2 : Cond.instantiable "OppositePairs$Link" 4 ∈ WALL := wall_t (tb_4 98 (by decide +kernel)) rfl
theorem w_inst_X6 : Cond.instantiable "OppositePairs$Row" 7 ∈ WALL := wall_t (tb_3 176 (by decide +kernel)) rfl
theorem w_instanceMethod_X2_init : Cond.instanceMethod yX2_init ∈ WALL := wall_t (tb_4 100 (by decide +kernel)) rfl
theorem w_instanceMethod_X4_has : Cond.instanceMethod yX4_has ∈ WALL := wall_t (tb_3 217 (by decide +kernel)) rfl
theorem w_instanceMethod_X4_newLink : Cond.instanceMethod yX4_newLink ∈ WALL := wall_t (tb_4 96 (by decide +kernel)) rfl
theorem w_instanceMethod_X4_newRow : Cond.instanceMethod yX4_newRow ∈ WALL := wall_t (tb_3 173 (by decide +kernel)) rfl
theorem w_instanceMethod_X6_init : Cond.instanceMethod yX6_init ∈ WALL := wall_t (tb_3 178 (by decide +kernel)) rfl
theorem w_instanceMethod_objInit : Cond.instanceMethod objectInit ∈ WALL := wall_t (tb_1 22 (by decide +kernel)) rfl
theorem w_m_X2_1 : Cond.methodLink "OppositePairs$Link" 1 objectInit ∈ WALL := wall_t (tb_4 102 (by decide +kernel)) rfl
theorem w_m_X4_110 : Cond.methodLink "OppositePairs$Prover" 110 yX4_newRow ∈ WALL := wall_t (tb_3 171 (by decide +kernel)) rfl
theorem w_m_X4_147 : Cond.methodLink "OppositePairs$Prover" 147 yX4_has ∈ WALL := wall_t (tb_3 215 (by decide +kernel)) rfl
theorem w_m_X4_262 : Cond.methodLink "OppositePairs$Prover" 262 yX4_newLink ∈ WALL := wall_t (tb_4 94 (by decide +kernel)) rfl
theorem w_m_X4_274 : Cond.methodLink "OppositePairs$Prover" 274 Lib.Math.min.name ∈ WALL := wall_t (tb_3 175 (by decide +kernel)) rfl
theorem w_m_X6_1 : Cond.methodLink "OppositePairs$Row" 1 objectInit ∈ WALL := wall_t (tb_3 180 (by decide +kernel)) rfl
theorem w_m_X7_1 : Cond.methodLink "OppositePairs$Step" 1 objectInit ∈ WALL := wall_t (tb_4 10 (by decide +kernel)) rfl
theorem w_static_X10_lengthOf : Cond.static yX10_lengthOf ∈ WALL := wall_t (tb_4 83 (by decide +kernel)) rfl
theorem ws_sel_X4_has : Cond.selects "OppositePairs$Prover" yX4_has yX4_has ∈ WALL := wall_s 51 (by decide +kernel) rfl
theorem ws_sel_X4_newLink : Cond.selects "OppositePairs$Prover" yX4_newLink yX4_newLink ∈ WALL := wall_s 67 (by decide +kernel) rfl
theorem ws_sel_X4_newRow : Cond.selects "OppositePairs$Prover" yX4_newRow yX4_newRow ∈ WALL := wall_s 48 (by decide +kernel) rfl
theorem n_f_X10_280 : Cond.fieldLinkNest "OppositePairs" 280 "OppositePairs$Link" "length" "I" "OppositePairs" ∈ NWL := nwl_t (tb_4 106 (by decide +kernel)) rfl
theorem n_f_X4_114 : Cond.fieldLinkNest "OppositePairs$Prover" 114 "OppositePairs$Row" "path" "LOppositePairs$Link;" "OppositePairs" ∈ NWL := nwl_t (tb_3 186 (by decide +kernel)) rfl
theorem n_f_X4_118 : Cond.fieldLinkNest "OppositePairs$Prover" 118 "OppositePairs$Row" "lemmas" "LOppositePairs$Link;" "OppositePairs" ∈ NWL := nwl_t (tb_3 188 (by decide +kernel)) rfl
theorem n_f_X4_121 : Cond.fieldLinkNest "OppositePairs$Prover" 121 "OppositePairs$Row" "behind" "LOppositePairs$Row;" "OppositePairs" ∈ NWL := nwl_t (tb_3 189 (by decide +kernel)) rfl
theorem n_f_X4_125 : Cond.fieldLinkNest "OppositePairs$Prover" 125 "OppositePairs$Row" "made" "I" "OppositePairs" ∈ NWL := nwl_t (tb_3 190 (by decide +kernel)) rfl
theorem n_f_X4_137 : Cond.fieldLinkNest "OppositePairs$Prover" 137 "OppositePairs$Row" "next" "I" "OppositePairs" ∈ NWL := nwl_t (tb_3 184 (by decide +kernel)) rfl
theorem n_f_X4_140 : Cond.fieldLinkNest "OppositePairs$Prover" 140 "OppositePairs$Row" "instance" "I" "OppositePairs" ∈ NWL := nwl_t (tb_3 181 (by decide +kernel)) rfl
theorem n_f_X4_151 : Cond.fieldLinkNest "OppositePairs$Prover" 151 "OppositePairs$Step" "fixed" "Z" "OppositePairs" ∈ NWL := nwl_t (tb_4 22 (by decide +kernel)) rfl
theorem n_f_X4_163 : Cond.fieldLinkNest "OppositePairs$Prover" 163 "OppositePairs$Row" "without" "I" "OppositePairs" ∈ NWL := nwl_t (tb_3 183 (by decide +kernel)) rfl
theorem n_f_X4_174 : Cond.fieldLinkNest "OppositePairs$Prover" 174 "OppositePairs$Link" "instance" "I" "OppositePairs" ∈ NWL := nwl_t (tb_4 103 (by decide +kernel)) rfl
theorem n_f_X4_175 : Cond.fieldLinkNest "OppositePairs$Prover" 175 "OppositePairs$Link" "literal" "I" "OppositePairs" ∈ NWL := nwl_t (tb_4 104 (by decide +kernel)) rfl
theorem n_f_X4_181 : Cond.fieldLinkNest "OppositePairs$Prover" 181 "OppositePairs$Link" "before" "LOppositePairs$Link;" "OppositePairs" ∈ NWL := nwl_t (tb_4 107 (by decide +kernel)) rfl
theorem n_f_X4_250 : Cond.fieldLinkNest "OppositePairs$Prover" 250 "OppositePairs$Step" "kind" "I" "OppositePairs" ∈ NWL := nwl_t (tb_4 14 (by decide +kernel)) rfl
theorem n_f_X4_253 : Cond.fieldLinkNest "OppositePairs$Prover" 253 "OppositePairs$Step" "byInstance" "I" "OppositePairs" ∈ NWL := nwl_t (tb_4 16 (by decide +kernel)) rfl
theorem n_f_X4_256 : Cond.fieldLinkNest "OppositePairs$Prover" 256 "OppositePairs$Step" "byLiteral" "I" "OppositePairs" ∈ NWL := nwl_t (tb_4 18 (by decide +kernel)) rfl
theorem n_f_X4_266 : Cond.fieldLinkNest "OppositePairs$Prover" 266 "OppositePairs$Link" "length" "I" "OppositePairs" ∈ NWL := nwl_t (tb_4 105 (by decide +kernel)) rfl
theorem n_m_X4_240 : Cond.methodLinkNest "OppositePairs$Prover" 240 yX10_lengthOf "OppositePairs" ∈ NWL := nwl_t (tb_4 82 (by decide +kernel)) rfl
theorem n_m_X4_277 : Cond.methodLinkNest "OppositePairs$Prover" 277 yX6_init "OppositePairs" ∈ NWL := nwl_t (tb_3 177 (by decide +kernel)) rfl
theorem n_m_X4_278 : Cond.methodLinkNest "OppositePairs$Prover" 278 yX2_init "OppositePairs" ∈ NWL := nwl_t (tb_4 99 (by decide +kernel)) rfl
theorem dX10_lengthOf_0 : decode cX10_lengthOf 0 = .ok (.aload_n 0, 1) := by decide +kernel
theorem dX10_lengthOf_1 : decode cX10_lengthOf 1 = .ok (.ifnonnull 7, 3) := by decide +kernel
theorem dX10_lengthOf_12 : decode cX10_lengthOf 12 = .ok (.ireturn, 1) := by decide +kernel
theorem dX10_lengthOf_4 : decode cX10_lengthOf 4 = .ok (.iconst 0, 1) := by decide +kernel
theorem dX10_lengthOf_5 : decode cX10_lengthOf 5 = .ok (.goto 7, 3) := by decide +kernel
theorem dX10_lengthOf_8 : decode cX10_lengthOf 8 = .ok (.aload_n 0, 1) := by decide +kernel
theorem dX10_lengthOf_9 : decode cX10_lengthOf 9 = .ok (.getfield 280, 3) := by decide +kernel
theorem dX2_init_0 : decode cX2_init 0 = .ok (.aload_n 0, 1) := by decide +kernel
theorem dX2_init_1 : decode cX2_init 1 = .ok (.invokespecial 1, 3) := by decide +kernel
theorem dX2_init_4 : decode cX2_init 4 = .ok (.return_, 1) := by decide +kernel
theorem dX4_closeBy_0 : decode cX4_closeBy 0 = .ok (.aload_n 1, 1) := by decide +kernel
theorem dX4_closeBy_1 : decode cX4_closeBy 1 = .ok (.iload_n 2, 1) := by decide +kernel
theorem dX4_closeBy_10 : decode cX4_closeBy 10 = .ok (.aload_n 1, 1) := by decide +kernel
theorem dX4_closeBy_11 : decode cX4_closeBy 11 = .ok (.iload 4, 2) := by decide +kernel
theorem dX4_closeBy_13 : decode cX4_closeBy 13 = .ok (.putfield 256, 3) := by decide +kernel
theorem dX4_closeBy_16 : decode cX4_closeBy 16 = .ok (.aload_n 1, 1) := by decide +kernel
theorem dX4_closeBy_17 : decode cX4_closeBy 17 = .ok (.iload_n 2, 1) := by decide +kernel
theorem dX4_closeBy_18 : decode cX4_closeBy 18 = .ok (.iconst 3, 1) := by decide +kernel
theorem dX4_closeBy_19 : decode cX4_closeBy 19 = .ok (.if_icmp .eq 15, 3) := by decide +kernel
theorem dX4_closeBy_2 : decode cX4_closeBy 2 = .ok (.putfield 250, 3) := by decide +kernel
theorem dX4_closeBy_22 : decode cX4_closeBy 22 = .ok (.aload_n 0, 1) := by decide +kernel
theorem dX4_closeBy_23 : decode cX4_closeBy 23 = .ok (.iconst 4, 1) := by decide +kernel
theorem dX4_closeBy_24 : decode cX4_closeBy 24 = .ok (.invokevirtual 147, 3) := by decide +kernel
theorem dX4_closeBy_27 : decode cX4_closeBy 27 = .ok (.ifCond .eq 7, 3) := by decide +kernel
theorem dX4_closeBy_30 : decode cX4_closeBy 30 = .ok (.iconst 1, 1) := by decide +kernel
theorem dX4_closeBy_31 : decode cX4_closeBy 31 = .ok (.goto 4, 3) := by decide +kernel
theorem dX4_closeBy_34 : decode cX4_closeBy 34 = .ok (.iconst 0, 1) := by decide +kernel
theorem dX4_closeBy_35 : decode cX4_closeBy 35 = .ok (.putfield 151, 3) := by decide +kernel
theorem dX4_closeBy_38 : decode cX4_closeBy 38 = .ok (.iconst 1, 1) := by decide +kernel
theorem dX4_closeBy_39 : decode cX4_closeBy 39 = .ok (.ireturn, 1) := by decide +kernel
theorem dX4_closeBy_5 : decode cX4_closeBy 5 = .ok (.aload_n 1, 1) := by decide +kernel
theorem dX4_closeBy_6 : decode cX4_closeBy 6 = .ok (.iload_n 3, 1) := by decide +kernel
theorem dX4_closeBy_7 : decode cX4_closeBy 7 = .ok (.putfield 253, 3) := by decide +kernel
theorem dX4_newLink_0 : decode cX4_newLink 0 = .ok (.aload_n 0, 1) := by decide +kernel
theorem dX4_newLink_1 : decode cX4_newLink 1 = .ok (.getfield 104, 3) := by decide +kernel
theorem dX4_newLink_10 : decode cX4_newLink 10 = .ok (.istore 4, 2) := by decide +kernel
theorem dX4_newLink_12 : decode cX4_newLink 12 = .ok (.aload_n 0, 1) := by decide +kernel
theorem dX4_newLink_13 : decode cX4_newLink 13 = .ok (.getfield 19, 3) := by decide +kernel
theorem dX4_newLink_16 : decode cX4_newLink 16 = .ok (.iload 4, 2) := by decide +kernel
theorem dX4_newLink_18 : decode cX4_newLink 18 = .ok (.aaload, 1) := by decide +kernel
theorem dX4_newLink_19 : decode cX4_newLink 19 = .ok (.ifnonnull 17, 3) := by decide +kernel
theorem dX4_newLink_22 : decode cX4_newLink 22 = .ok (.aload_n 0, 1) := by decide +kernel
theorem dX4_newLink_23 : decode cX4_newLink 23 = .ok (.getfield 19, 3) := by decide +kernel
theorem dX4_newLink_26 : decode cX4_newLink 26 = .ok (.iload 4, 2) := by decide +kernel
theorem dX4_newLink_28 : decode cX4_newLink 28 = .ok (.new 17, 3) := by decide +kernel
theorem dX4_newLink_31 : decode cX4_newLink 31 = .ok (.dup, 1) := by decide +kernel
theorem dX4_newLink_32 : decode cX4_newLink 32 = .ok (.invokespecial 278, 3) := by decide +kernel
theorem dX4_newLink_35 : decode cX4_newLink 35 = .ok (.aastore, 1) := by decide +kernel
theorem dX4_newLink_36 : decode cX4_newLink 36 = .ok (.aload_n 0, 1) := by decide +kernel
theorem dX4_newLink_37 : decode cX4_newLink 37 = .ok (.iload 4, 2) := by decide +kernel
theorem dX4_newLink_39 : decode cX4_newLink 39 = .ok (.iconst 1, 1) := by decide +kernel
theorem dX4_newLink_4 : decode cX4_newLink 4 = .ok (.sipush 209, 3) := by decide +kernel
theorem dX4_newLink_40 : decode cX4_newLink 40 = .ok (.iadd, 1) := by decide +kernel
theorem dX4_newLink_41 : decode cX4_newLink 41 = .ok (.putfield 104, 3) := by decide +kernel
theorem dX4_newLink_44 : decode cX4_newLink 44 = .ok (.aload_n 0, 1) := by decide +kernel
theorem dX4_newLink_45 : decode cX4_newLink 45 = .ok (.getfield 19, 3) := by decide +kernel
theorem dX4_newLink_48 : decode cX4_newLink 48 = .ok (.iload 4, 2) := by decide +kernel
theorem dX4_newLink_50 : decode cX4_newLink 50 = .ok (.aaload, 1) := by decide +kernel
theorem dX4_newLink_51 : decode cX4_newLink 51 = .ok (.astore 5, 2) := by decide +kernel
theorem dX4_newLink_53 : decode cX4_newLink 53 = .ok (.aload 5, 2) := by decide +kernel
theorem dX4_newLink_55 : decode cX4_newLink 55 = .ok (.iload_n 1, 1) := by decide +kernel
theorem dX4_newLink_56 : decode cX4_newLink 56 = .ok (.putfield 174, 3) := by decide +kernel
theorem dX4_newLink_59 : decode cX4_newLink 59 = .ok (.aload 5, 2) := by decide +kernel
theorem dX4_newLink_61 : decode cX4_newLink 61 = .ok (.iload_n 2, 1) := by decide +kernel
theorem dX4_newLink_62 : decode cX4_newLink 62 = .ok (.putfield 175, 3) := by decide +kernel
theorem dX4_newLink_65 : decode cX4_newLink 65 = .ok (.aload 5, 2) := by decide +kernel
theorem dX4_newLink_67 : decode cX4_newLink 67 = .ok (.aload_n 3, 1) := by decide +kernel
theorem dX4_newLink_68 : decode cX4_newLink 68 = .ok (.putfield 181, 3) := by decide +kernel
theorem dX4_newLink_7 : decode cX4_newLink 7 = .ok (.invokestatic 274, 3) := by decide +kernel
theorem dX4_newLink_71 : decode cX4_newLink 71 = .ok (.aload 5, 2) := by decide +kernel
theorem dX4_newLink_73 : decode cX4_newLink 73 = .ok (.aload_n 3, 1) := by decide +kernel
theorem dX4_newLink_74 : decode cX4_newLink 74 = .ok (.invokestatic 240, 3) := by decide +kernel
theorem dX4_newLink_77 : decode cX4_newLink 77 = .ok (.iconst 1, 1) := by decide +kernel
theorem dX4_newLink_78 : decode cX4_newLink 78 = .ok (.iadd, 1) := by decide +kernel
theorem dX4_newLink_79 : decode cX4_newLink 79 = .ok (.putfield 266, 3) := by decide +kernel
theorem dX4_newLink_82 : decode cX4_newLink 82 = .ok (.aload 5, 2) := by decide +kernel
theorem dX4_newLink_84 : decode cX4_newLink 84 = .ok (.areturn, 1) := by decide +kernel
theorem dX4_newRow_0 : decode cX4_newRow 0 = .ok (.aload_n 0, 1) := by decide +kernel
theorem dX4_newRow_1 : decode cX4_newRow 1 = .ok (.getfield 101, 3) := by decide +kernel
theorem dX4_newRow_10 : decode cX4_newRow 10 = .ok (.istore 4, 2) := by decide +kernel
theorem dX4_newRow_12 : decode cX4_newRow 12 = .ok (.aload_n 0, 1) := by decide +kernel
theorem dX4_newRow_13 : decode cX4_newRow 13 = .ok (.getfield 11, 3) := by decide +kernel
theorem dX4_newRow_16 : decode cX4_newRow 16 = .ok (.iload 4, 2) := by decide +kernel
theorem dX4_newRow_18 : decode cX4_newRow 18 = .ok (.aaload, 1) := by decide +kernel
theorem dX4_newRow_19 : decode cX4_newRow 19 = .ok (.ifnonnull 17, 3) := by decide +kernel
theorem dX4_newRow_22 : decode cX4_newRow 22 = .ok (.aload_n 0, 1) := by decide +kernel
theorem dX4_newRow_23 : decode cX4_newRow 23 = .ok (.getfield 11, 3) := by decide +kernel
theorem dX4_newRow_26 : decode cX4_newRow 26 = .ok (.iload 4, 2) := by decide +kernel
theorem dX4_newRow_28 : decode cX4_newRow 28 = .ok (.new 9, 3) := by decide +kernel
theorem dX4_newRow_31 : decode cX4_newRow 31 = .ok (.dup, 1) := by decide +kernel
theorem dX4_newRow_32 : decode cX4_newRow 32 = .ok (.invokespecial 277, 3) := by decide +kernel
theorem dX4_newRow_35 : decode cX4_newRow 35 = .ok (.aastore, 1) := by decide +kernel
theorem dX4_newRow_36 : decode cX4_newRow 36 = .ok (.aload_n 0, 1) := by decide +kernel
theorem dX4_newRow_37 : decode cX4_newRow 37 = .ok (.iload 4, 2) := by decide +kernel
theorem dX4_newRow_39 : decode cX4_newRow 39 = .ok (.iconst 1, 1) := by decide +kernel
theorem dX4_newRow_4 : decode cX4_newRow 4 = .ok (.sipush 360, 3) := by decide +kernel
theorem dX4_newRow_40 : decode cX4_newRow 40 = .ok (.iadd, 1) := by decide +kernel
theorem dX4_newRow_41 : decode cX4_newRow 41 = .ok (.putfield 101, 3) := by decide +kernel
theorem dX4_newRow_44 : decode cX4_newRow 44 = .ok (.aload_n 0, 1) := by decide +kernel
theorem dX4_newRow_45 : decode cX4_newRow 45 = .ok (.getfield 11, 3) := by decide +kernel
theorem dX4_newRow_48 : decode cX4_newRow 48 = .ok (.iload 4, 2) := by decide +kernel
theorem dX4_newRow_50 : decode cX4_newRow 50 = .ok (.aaload, 1) := by decide +kernel
theorem dX4_newRow_51 : decode cX4_newRow 51 = .ok (.astore 5, 2) := by decide +kernel
theorem dX4_newRow_53 : decode cX4_newRow 53 = .ok (.aload 5, 2) := by decide +kernel
theorem dX4_newRow_55 : decode cX4_newRow 55 = .ok (.iload_n 1, 1) := by decide +kernel
theorem dX4_newRow_56 : decode cX4_newRow 56 = .ok (.putfield 140, 3) := by decide +kernel
theorem dX4_newRow_59 : decode cX4_newRow 59 = .ok (.aload 5, 2) := by decide +kernel
theorem dX4_newRow_61 : decode cX4_newRow 61 = .ok (.iload_n 2, 1) := by decide +kernel
theorem dX4_newRow_62 : decode cX4_newRow 62 = .ok (.putfield 163, 3) := by decide +kernel
theorem dX4_newRow_65 : decode cX4_newRow 65 = .ok (.aload 5, 2) := by decide +kernel
theorem dX4_newRow_67 : decode cX4_newRow 67 = .ok (.iload_n 3, 1) := by decide +kernel
theorem dX4_newRow_68 : decode cX4_newRow 68 = .ok (.iload_n 2, 1) := by decide +kernel
theorem dX4_newRow_69 : decode cX4_newRow 69 = .ok (.if_icmp .ne 9, 3) := by decide +kernel
theorem dX4_newRow_7 : decode cX4_newRow 7 = .ok (.invokestatic 274, 3) := by decide +kernel
theorem dX4_newRow_72 : decode cX4_newRow 72 = .ok (.iload_n 3, 1) := by decide +kernel
theorem dX4_newRow_73 : decode cX4_newRow 73 = .ok (.iconst 1, 1) := by decide +kernel
theorem dX4_newRow_74 : decode cX4_newRow 74 = .ok (.iadd, 1) := by decide +kernel
theorem dX4_newRow_75 : decode cX4_newRow 75 = .ok (.goto 4, 3) := by decide +kernel
theorem dX4_newRow_78 : decode cX4_newRow 78 = .ok (.iload_n 3, 1) := by decide +kernel
theorem dX4_newRow_79 : decode cX4_newRow 79 = .ok (.putfield 137, 3) := by decide +kernel
theorem dX4_newRow_82 : decode cX4_newRow 82 = .ok (.aload 5, 2) := by decide +kernel
theorem dX4_newRow_84 : decode cX4_newRow 84 = .ok (.areturn, 1) := by decide +kernel
theorem dX4_restOf_0 : decode cX4_restOf 0 = .ok (.aload_n 0, 1) := by decide +kernel
theorem dX4_restOf_1 : decode cX4_restOf 1 = .ok (.aload_n 1, 1) := by decide +kernel
theorem dX4_restOf_10 : decode cX4_restOf 10 = .ok (.getfield 137, 3) := by decide +kernel
theorem dX4_restOf_13 : decode cX4_restOf 13 = .ok (.iconst 1, 1) := by decide +kernel
theorem dX4_restOf_14 : decode cX4_restOf 14 = .ok (.iadd, 1) := by decide +kernel
theorem dX4_restOf_15 : decode cX4_restOf 15 = .ok (.invokevirtual 110, 3) := by decide +kernel
theorem dX4_restOf_18 : decode cX4_restOf 18 = .ok (.astore_n 2, 1) := by decide +kernel
theorem dX4_restOf_19 : decode cX4_restOf 19 = .ok (.aload_n 2, 1) := by decide +kernel
theorem dX4_restOf_2 : decode cX4_restOf 2 = .ok (.getfield 140, 3) := by decide +kernel
theorem dX4_restOf_20 : decode cX4_restOf 20 = .ok (.aload_n 1, 1) := by decide +kernel
theorem dX4_restOf_21 : decode cX4_restOf 21 = .ok (.getfield 114, 3) := by decide +kernel
theorem dX4_restOf_24 : decode cX4_restOf 24 = .ok (.putfield 114, 3) := by decide +kernel
theorem dX4_restOf_27 : decode cX4_restOf 27 = .ok (.aload_n 2, 1) := by decide +kernel
theorem dX4_restOf_28 : decode cX4_restOf 28 = .ok (.aload_n 0, 1) := by decide +kernel
theorem dX4_restOf_29 : decode cX4_restOf 29 = .ok (.iconst 2, 1) := by decide +kernel
theorem dX4_restOf_30 : decode cX4_restOf 30 = .ok (.invokevirtual 147, 3) := by decide +kernel
theorem dX4_restOf_33 : decode cX4_restOf 33 = .ok (.ifCond .eq 22, 3) := by decide +kernel
theorem dX4_restOf_36 : decode cX4_restOf 36 = .ok (.aload_n 0, 1) := by decide +kernel
theorem dX4_restOf_37 : decode cX4_restOf 37 = .ok (.aload_n 1, 1) := by decide +kernel
theorem dX4_restOf_38 : decode cX4_restOf 38 = .ok (.getfield 140, 3) := by decide +kernel
theorem dX4_restOf_41 : decode cX4_restOf 41 = .ok (.aload_n 1, 1) := by decide +kernel
theorem dX4_restOf_42 : decode cX4_restOf 42 = .ok (.getfield 137, 3) := by decide +kernel
theorem dX4_restOf_45 : decode cX4_restOf 45 = .ok (.aload_n 1, 1) := by decide +kernel
theorem dX4_restOf_46 : decode cX4_restOf 46 = .ok (.getfield 118, 3) := by decide +kernel
theorem dX4_restOf_49 : decode cX4_restOf 49 = .ok (.invokevirtual 262, 3) := by decide +kernel
theorem dX4_restOf_5 : decode cX4_restOf 5 = .ok (.aload_n 1, 1) := by decide +kernel
theorem dX4_restOf_52 : decode cX4_restOf 52 = .ok (.goto 7, 3) := by decide +kernel
theorem dX4_restOf_55 : decode cX4_restOf 55 = .ok (.aload_n 1, 1) := by decide +kernel
theorem dX4_restOf_56 : decode cX4_restOf 56 = .ok (.getfield 118, 3) := by decide +kernel
theorem dX4_restOf_59 : decode cX4_restOf 59 = .ok (.putfield 118, 3) := by decide +kernel
theorem dX4_restOf_6 : decode cX4_restOf 6 = .ok (.getfield 163, 3) := by decide +kernel
theorem dX4_restOf_62 : decode cX4_restOf 62 = .ok (.aload_n 2, 1) := by decide +kernel
theorem dX4_restOf_63 : decode cX4_restOf 63 = .ok (.aload_n 1, 1) := by decide +kernel
theorem dX4_restOf_64 : decode cX4_restOf 64 = .ok (.getfield 121, 3) := by decide +kernel
theorem dX4_restOf_67 : decode cX4_restOf 67 = .ok (.putfield 121, 3) := by decide +kernel
theorem dX4_restOf_70 : decode cX4_restOf 70 = .ok (.aload_n 2, 1) := by decide +kernel
theorem dX4_restOf_71 : decode cX4_restOf 71 = .ok (.aload_n 1, 1) := by decide +kernel
theorem dX4_restOf_72 : decode cX4_restOf 72 = .ok (.getfield 125, 3) := by decide +kernel
theorem dX4_restOf_75 : decode cX4_restOf 75 = .ok (.putfield 125, 3) := by decide +kernel
theorem dX4_restOf_78 : decode cX4_restOf 78 = .ok (.aload_n 2, 1) := by decide +kernel
theorem dX4_restOf_79 : decode cX4_restOf 79 = .ok (.areturn, 1) := by decide +kernel
theorem dX4_restOf_9 : decode cX4_restOf 9 = .ok (.aload_n 1, 1) := by decide +kernel
theorem dX6_init_0 : decode cX6_init 0 = .ok (.aload_n 0, 1) := by decide +kernel
theorem dX6_init_1 : decode cX6_init 1 = .ok (.invokespecial 1, 3) := by decide +kernel
theorem dX6_init_4 : decode cX6_init 4 = .ok (.return_, 1) := by decide +kernel
theorem dX7_init_0 : decode cX7_init 0 = .ok (.aload_n 0, 1) := by decide +kernel
theorem dX7_init_1 : decode cX7_init 1 = .ok (.invokespecial 1, 3) := by decide +kernel
theorem dX7_init_4 : decode cX7_init 4 = .ok (.return_, 1) := by decide +kernel
abbrev mo175 (v : Nat → Value) (a2 a3 : Value) : List Value := [(v 0), (v 1), a2, a3, (v 4), (v 5), (v 6), (v 7), (v 8), (v 9), (v 10), (v 11), (v 12), (v 13), (v 14), (v 15), (v 16), (v 17)]
abbrev mo176 (v : Nat → Value) (a4 a5 : Value) : List Value := [(v 0), (v 1), (v 2), (v 3), a4, a5, (v 6), (v 7), (v 8), (v 9), (v 10), (v 11), (v 12), (v 13), (v 14), (v 15), (v 16), (v 17)]
abbrev mo177 (v : Nat → Value) (a2 a3 a4 a5 a11 : Value) : List Value := [(v 0), (v 1), a2, a3, a4, a5, (v 6), (v 7), (v 8), (v 9), (v 10), a11, (v 12), (v 13), (v 14), (v 15), (v 16), (v 17)]
set_option maxRecDepth 100000 in
theorem mq177_175 (v : Nat → Value) (b4 b5 b11 : Value) : ∃ w : Nat → Value, ∀ (a2 a3 : Value), mo175 w a2 a3 = (mo177 v a2 a3 b4 b5 b11) := ⟨fun k => List.getD (mo177 v .null .null b4 b5 b11) k .null, fun _ _ => rfl⟩
set_option maxRecDepth 100000 in
theorem mq177_42 (v : Nat → Value) (b2 b3 b4 b5 : Value) : ∃ w : Nat → Value, ∀ (a11 : Value), mo42 w a11 = (mo177 v b2 b3 b4 b5 a11) := ⟨fun k => List.getD (mo177 v b2 b3 b4 b5 .null) k .null, fun _ => rfl⟩
set_option maxRecDepth 100000 in
theorem mq177_176 (v : Nat → Value) (b2 b3 b11 : Value) : ∃ w : Nat → Value, ∀ (a4 a5 : Value), mo176 w a4 a5 = (mo177 v b2 b3 a4 a5 b11) := ⟨fun k => List.getD (mo177 v b2 b3 .null .null b11) k .null, fun _ _ => rfl⟩
set_option maxHeartbeats 8000000 in
set_option maxRecDepth 100000 in
theorem c_X6_init (l : Launch) (dC : Nat → ClassId) (dI : Nat → Nat → Nat) (sz : Nat) (h0 : Nat)  : Met l yX6_init (Ws yX6_init cX6_init 1 none) (({ frames := 1, cells := 0, slots := 0, locals := 80 } : Room)) (PRE (dC, dI) cls [] [] sz [.ref h0]) (va_Qv (fun (_ : Unit) => True) (fun (_ : Unit) (t : State) => va_P (dC, dI) cls [] t.heap ∧ va_D (va_A [] sz) []) (va_A [] sz)) (0) (0) (va_A [] sz) := by
  refine Met.ofW (cc := cX6_init) (maxL := 1) (ret := none) (by decide) rfl ?_
  intro p e s m args below meth c s₁ B hml hv
  obtain ⟨rfl, hsz, hP, hK, hD0, hN⟩ := hv
  have hx := B.exec
  have hb := B.bytes
  have hr := B.returns
  have hts := atoms_spec (ws := Ws yX6_init cX6_init 1 none) B.pre
  have hT : ∀ w ∈ WALL, w ∈ Ws yX6_init cX6_init 1 none := fun w h => List.mem_cons_of_mem _ h
  have hw := fun w (h : w ∈ WALL) => hts w (hT w h)
  have hown : s.vm.findClass RX6 = some m.cls := findClass_of_methodNamed B.named
  have hlocks := B.notSynchronized
  subst hsz
  have hD := hD0.self (sz := s.heap.size)
  generalize hAe : va_A [] s.heap.size = A at hD ⊢
  have hA : ∀ q : Nat, s.heap.size ≤ q → A q := fun q h => by rw [← hAe]; exact Or.inr h
  have hS : va_S A s.heap s.heap [] := va_S.rf
  have hl := lv_entry ([.ref h0]) (n := 1) (Nat.le_of_ble_eq_true rfl)
  rw [lg_entry_eq]
  generalize (lg_sl ([.ref h0]) ++ List.replicate (1 - (lg_sl ([.ref h0])).length) Slot.unset).toArray = ls at hl ⊢
  have hl : lv_has ls 1 [(0, .ref h0)] := hl
  refine lv_aload_n hx hb dX6_init_0 rfl (lv_at hl 0 rfl) ?_
  refine W.objInit hx hb hown (hw _ w_m_X6_1) (hw _ w_instanceMethod_objInit) (hw _ w_code_objInit) rfl (by rw [hml]; exact hl.1) rfl dX6_init_1 (Nat.le_of_ble_eq_true rfl) (Nat.le_of_ble_eq_true rfl) ?_
  refine W.eq (g2 := F0 m 4 ls []) rfl ?_
  refine W.widen (k := 0) (n := 0) (Nat.le_of_ble_eq_true rfl) (Nat.le_of_ble_eq_true rfl) ?_
  exact W.vret hx hb hr (fun t ht hW => ⟨⟨(), rfl, trivial, by rw [ht]; exact hP, hD⟩, hS.F ht⟩) hS.2.2 dX6_init_4

set_option maxHeartbeats 8000000 in
set_option maxRecDepth 100000 in
theorem c_X2_init (l : Launch) (dC : Nat → ClassId) (dI : Nat → Nat → Nat) (sz : Nat) (h0 : Nat)  : Met l yX2_init (Ws yX2_init cX2_init 1 none) (({ frames := 1, cells := 0, slots := 0, locals := 80 } : Room)) (PRE (dC, dI) cls [] [] sz [.ref h0]) (va_Qv (fun (_ : Unit) => True) (fun (_ : Unit) (t : State) => va_P (dC, dI) cls [] t.heap ∧ va_D (va_A [] sz) []) (va_A [] sz)) (0) (0) (va_A [] sz) := by
  refine Met.ofW (cc := cX2_init) (maxL := 1) (ret := none) (by decide) rfl ?_
  intro p e s m args below meth c s₁ B hml hv
  obtain ⟨rfl, hsz, hP, hK, hD0, hN⟩ := hv
  have hx := B.exec
  have hb := B.bytes
  have hr := B.returns
  have hts := atoms_spec (ws := Ws yX2_init cX2_init 1 none) B.pre
  have hT : ∀ w ∈ WALL, w ∈ Ws yX2_init cX2_init 1 none := fun w h => List.mem_cons_of_mem _ h
  have hw := fun w (h : w ∈ WALL) => hts w (hT w h)
  have hown : s.vm.findClass RX2 = some m.cls := findClass_of_methodNamed B.named
  have hlocks := B.notSynchronized
  subst hsz
  have hD := hD0.self (sz := s.heap.size)
  generalize hAe : va_A [] s.heap.size = A at hD ⊢
  have hA : ∀ q : Nat, s.heap.size ≤ q → A q := fun q h => by rw [← hAe]; exact Or.inr h
  have hS : va_S A s.heap s.heap [] := va_S.rf
  have hl := lv_entry ([.ref h0]) (n := 1) (Nat.le_of_ble_eq_true rfl)
  rw [lg_entry_eq]
  generalize (lg_sl ([.ref h0]) ++ List.replicate (1 - (lg_sl ([.ref h0])).length) Slot.unset).toArray = ls at hl ⊢
  have hl : lv_has ls 1 [(0, .ref h0)] := hl
  refine lv_aload_n hx hb dX2_init_0 rfl (lv_at hl 0 rfl) ?_
  refine W.objInit hx hb hown (hw _ w_m_X2_1) (hw _ w_instanceMethod_objInit) (hw _ w_code_objInit) rfl (by rw [hml]; exact hl.1) rfl dX2_init_1 (Nat.le_of_ble_eq_true rfl) (Nat.le_of_ble_eq_true rfl) ?_
  refine W.eq (g2 := F0 m 4 ls []) rfl ?_
  refine W.widen (k := 0) (n := 0) (Nat.le_of_ble_eq_true rfl) (Nat.le_of_ble_eq_true rfl) ?_
  exact W.vret hx hb hr (fun t ht hW => ⟨⟨(), rfl, trivial, by rw [ht]; exact hP, hD⟩, hS.F ht⟩) hS.2.2 dX2_init_4

set_option maxHeartbeats 8000000 in
set_option maxRecDepth 100000 in
theorem c_X7_init (l : Launch) (dC : Nat → ClassId) (dI : Nat → Nat → Nat) (sz : Nat) (h0 : Nat)  : Met l yX7_init (Ws yX7_init cX7_init 1 none) (({ frames := 1, cells := 0, slots := 0, locals := 80 } : Room)) (PRE (dC, dI) cls [] [] sz [.ref h0]) (va_Qv (fun (_ : Unit) => True) (fun (_ : Unit) (t : State) => va_P (dC, dI) cls [] t.heap ∧ va_D (va_A [] sz) []) (va_A [] sz)) (0) (0) (va_A [] sz) := by
  refine Met.ofW (cc := cX7_init) (maxL := 1) (ret := none) (by decide) rfl ?_
  intro p e s m args below meth c s₁ B hml hv
  obtain ⟨rfl, hsz, hP, hK, hD0, hN⟩ := hv
  have hx := B.exec
  have hb := B.bytes
  have hr := B.returns
  have hts := atoms_spec (ws := Ws yX7_init cX7_init 1 none) B.pre
  have hT : ∀ w ∈ WALL, w ∈ Ws yX7_init cX7_init 1 none := fun w h => List.mem_cons_of_mem _ h
  have hw := fun w (h : w ∈ WALL) => hts w (hT w h)
  have hown : s.vm.findClass RX7 = some m.cls := findClass_of_methodNamed B.named
  have hlocks := B.notSynchronized
  subst hsz
  have hD := hD0.self (sz := s.heap.size)
  generalize hAe : va_A [] s.heap.size = A at hD ⊢
  have hA : ∀ q : Nat, s.heap.size ≤ q → A q := fun q h => by rw [← hAe]; exact Or.inr h
  have hS : va_S A s.heap s.heap [] := va_S.rf
  have hl := lv_entry ([.ref h0]) (n := 1) (Nat.le_of_ble_eq_true rfl)
  rw [lg_entry_eq]
  generalize (lg_sl ([.ref h0]) ++ List.replicate (1 - (lg_sl ([.ref h0])).length) Slot.unset).toArray = ls at hl ⊢
  have hl : lv_has ls 1 [(0, .ref h0)] := hl
  refine lv_aload_n hx hb dX7_init_0 rfl (lv_at hl 0 rfl) ?_
  refine W.objInit hx hb hown (hw _ w_m_X7_1) (hw _ w_instanceMethod_objInit) (hw _ w_code_objInit) rfl (by rw [hml]; exact hl.1) rfl dX7_init_1 (Nat.le_of_ble_eq_true rfl) (Nat.le_of_ble_eq_true rfl) ?_
  refine W.eq (g2 := F0 m 4 ls []) rfl ?_
  refine W.widen (k := 0) (n := 0) (Nat.le_of_ble_eq_true rfl) (Nat.le_of_ble_eq_true rfl) ?_
  exact W.vret hx hb hr (fun t ht hW => ⟨⟨(), rfl, trivial, by rw [ht]; exact hP, hD⟩, hS.F ht⟩) hS.2.2 dX7_init_4

set_option maxHeartbeats 8000000 in
set_option maxRecDepth 100000 in
theorem c_X4_newRow (l : Launch) (dC : Nat → ClassId) (dI : Nat → Nat → Nat) (sz : Nat) (h_pv : Nat) (h_rws : Nat) (nr : Nat) (ra : Nat → Nat) (rf : Nat → RT) (nl : Nat) (la : Nat → Nat) (lf : Nat → LT) (ns : Nat) (sa : Nat → Nat) (sf : Nat → ST) (v_pv : Nat → Value) (x_pv_rowCount : Int32) (cy_rws : ClassId) (f_rws : Nat → Option Nat) (p1 : Int32) (p2 : Int32) (p3 : Int32) (hx_pv_rowCount : 0 ≤ (x_pv_rowCount).toInt ∧ (x_pv_rowCount).toInt ≤ 361) (q0 : 0 ≤ (p1).toInt ∧ (p1).toInt ≤ 29) (q1 : -1 ≤ (p2).toInt ∧ (p2).toInt ≤ 5) (q2 : 0 ≤ (p3).toInt ∧ (p3).toInt ≤ 6) (q3 : (x_pv_rowCount).toInt ≤ 360) (q4 : (x_pv_rowCount).toInt ≤ nr) (hn_pr : PFX nr 361 f_rws ra) (hn_rok : ROK nr ra rf nl la) : Met l yX4_newRow (Ws yX4_newRow cX4_newRow 6 (some (.object "OppositePairs$Row"))) (({ frames := 2, cells := ((x_pv_rowCount).toInt.toNat + 1 - nr), slots := 7 * ((x_pv_rowCount).toInt.toNat + 1 - nr), locals := 100 } : Room)) (PRE (dC, dI) cls [(cy_rws, .object "OppositePairs$Row")] (wp [(h_pv, .inr (3, (mo175 v_pv (.ref h_rws) (.int x_pv_rowCount)))), (h_rws, .inl (cy_rws, 361, .inr (.inr (.inr (.inr f_rws)))))] (PL nr ra rf nl la lf ns sa sf)) sz [.ref h_pv, .int p1, .int p2, .int p3]) (va_Qq (fun (r : Option Nat) (u : (Int32) × (Nat → Option Nat) × (Nat) × (Nat → Nat) × (Nat → RT)) => (0 ≤ (u.1).toInt ∧ (u.1).toInt ≤ 361) ∧ ((u.1).toInt = (x_pv_rowCount).toInt + 1) ∧ (nr ≤ u.2.2.1 ∧ (x_pv_rowCount).toInt + 1 ≤ u.2.2.1) ∧ (GR2 nr u.2.2.1 (u.1).toInt) ∧ (PFX u.2.2.1 361 u.2.1 u.2.2.2.1) ∧ (ROK u.2.2.1 u.2.2.2.1 u.2.2.2.2 nl la) ∧ (∀ i : Nat, i < nr → u.2.2.2.1 i = ra i) ∧ ((∀ i : Nat, i ≠ (x_pv_rowCount).toInt.toNat → u.2.2.2.2 i = rf i) ∧ (u.2.2.2.2 (x_pv_rowCount).toInt.toNat).1 = p1 ∧ (u.2.2.2.2 (x_pv_rowCount).toInt.toNat).2.1 = p2 ∧ (0 ≤ (u.2.2.2.2 (x_pv_rowCount).toInt.toNat).2.2.1.toInt ∧ (u.2.2.2.2 (x_pv_rowCount).toInt.toNat).2.2.1.toInt ≤ (p3).toInt + 1)) ∧ (r = some (u.2.2.2.1 (x_pv_rowCount).toInt.toNat))) (fun (u : (Int32) × (Nat → Option Nat) × (Nat) × (Nat → Nat) × (Nat → RT)) (t : State) => va_P (dC, dI) cls (wp [(h_pv, .inr (3, (mo175 v_pv (.ref h_rws) (.int u.1)))), (h_rws, .inl (cy_rws, 361, .inr (.inr (.inr (.inr u.2.1)))))] (PL u.2.2.1 u.2.2.2.1 u.2.2.2.2 nl la lf ns sa sf)) t.heap ∧ va_D (va_A (wp [(h_pv, .inr (3, (mo175 v_pv (.ref h_rws) (.int x_pv_rowCount)))), (h_rws, .inl (cy_rws, 361, .inr (.inr (.inr (.inr f_rws)))))] (PL nr ra rf nl la lf ns sa sf)) sz) (wp [(h_pv, .inr (3, (mo175 v_pv (.ref h_rws) (.int u.1)))), (h_rws, .inl (cy_rws, 361, .inr (.inr (.inr (.inr u.2.1)))))] (PL u.2.2.1 u.2.2.2.1 u.2.2.2.2 nl la lf ns sa sf))) (va_A (wp [(h_pv, .inr (3, (mo175 v_pv (.ref h_rws) (.int x_pv_rowCount)))), (h_rws, .inl (cy_rws, 361, .inr (.inr (.inr (.inr f_rws)))))] (PL nr ra rf nl la lf ns sa sf)) sz)) (((x_pv_rowCount).toInt.toNat + 1 - nr)) (7 * ((x_pv_rowCount).toInt.toNat + 1 - nr)) (va_A (wp [(h_pv, .inr (3, (mo175 v_pv (.ref h_rws) (.int x_pv_rowCount)))), (h_rws, .inl (cy_rws, 361, .inr (.inr (.inr (.inr f_rws)))))] (PL nr ra rf nl la lf ns sa sf)) sz) := by
  refine Met.ofW (cc := cX4_newRow) (maxL := 6) (ret := (some (.object "OppositePairs$Row"))) (by decide) rfl ?_
  intro p e s m args below meth c s₁ B hml hv
  obtain ⟨rfl, hsz, hP, hK, hD0, hN⟩ := hv
  have hx := B.exec
  have hb := B.bytes
  have hr := B.returns
  have hts := atoms_spec (ws := Ws yX4_newRow cX4_newRow 6 (some (.object "OppositePairs$Row"))) B.pre
  have hT : ∀ w ∈ WALL, w ∈ Ws yX4_newRow cX4_newRow 6 (some (.object "OppositePairs$Row")) := fun w h => List.mem_cons_of_mem _ h
  have hw := fun w (h : w ∈ WALL) => hts w (hT w h)
  have hown : s.vm.findClass RX4 = some m.cls := findClass_of_methodNamed B.named
  have hlocks := B.notSynchronized
  subst hsz
  have hD := hD0.self (sz := s.heap.size)
  generalize hAe : va_A (wp [(h_pv, .inr (3, (mo175 v_pv (.ref h_rws) (.int x_pv_rowCount)))), (h_rws, .inl (cy_rws, 361, .inr (.inr (.inr (.inr f_rws)))))] (PL nr ra rf nl la lf ns sa sf)) s.heap.size = A at hD ⊢
  have hA : ∀ q : Nat, s.heap.size ≤ q → A q := fun q h => by rw [← hAe]; exact Or.inr h
  have hS : va_S A s.heap s.heap [] := va_S.rf
  have hl := lv_entry ([.ref h_pv, .int p1, .int p2, .int p3]) (n := 6) (Nat.le_of_ble_eq_true rfl)
  rw [lg_entry_eq]
  generalize (lg_sl ([.ref h_pv, .int p1, .int p2, .int p3]) ++ List.replicate (6 - (lg_sl ([.ref h_pv, .int p1, .int p2, .int p3])).length) Slot.unset).toArray = ls at hl ⊢
  have hl : lv_has ls 6 [(0, .ref h_pv), (1, .int p1), (2, .int p2), (3, .int p3)] := hl
  have ag0 : ∀ i : Nat, i < nr → ra i = ra i := fun _ _ => rfl
  have af0 : ∀ i : Nat, i ≠ (x_pv_rowCount).toInt.toNat → rf i = rf i := fun _ _ => rfl
  refine lv_aload_n hx hb dX4_newRow_0 rfl (lv_at hl 0 rfl) ?_
  refine va_get (D := (dC, dI)) (ci := 3) (v := .int x_pv_rowCount) (C := RX4) (T := TX4) (N := 18) hx hb hw iwX4 hown hK hP 0 rfl rfl 3 (by decide) (hw _ w_f_X4_101) (fun _ h9 => h9) rfl dX4_newRow_1 ?_
  refine lv_sipush (v := 360) hx hb dX4_newRow_4 (by decide) ?_
  refine va_mmin hx hb (hml.trans hl.1.symm) hown (hw _ w_m_X4_274) (hw _ w_mst_min) (hw _ w_ini_Math) (hw _ w_mcd_min) (Nat.le_of_ble_eq_true rfl) (Nat.le_of_ble_eq_true rfl) (Nat.le_of_ble_eq_true rfl) (Nat.le_of_ble_eq_true rfl) dX4_newRow_7 ?_
  refine lv_topi (fun z1 ez1 => ?_)
  have tz1 := i_min (x := x_pv_rowCount) (y := 360) (rfl : (x_pv_rowCount).toInt = (x_pv_rowCount).toInt) (by decide : (360 : Int32).toInt = 360)
  rw [← ez1] at tz1
  refine lv_istore (lv' := [(4, .int z1), (0, .ref h_pv), (1, .int p1), (2, .int p2), (3, .int p3)]) hx hb dX4_newRow_10 hl (by decide) rfl (fun ls hl => ?_)
  refine lv_aload_n hx hb dX4_newRow_12 rfl (lv_at hl 1 rfl) ?_
  refine va_get (D := (dC, dI)) (ci := 3) (v := .ref h_rws) (C := RX4) (T := TX4) (N := 18) hx hb hw iwX4 hown hK hP 0 rfl rfl 2 (by decide) (hw _ w_f_X4_11) (fun _ h9 => h9) rfl dX4_newRow_13 ?_
  refine lv_iload hx hb dX4_newRow_16 (lv_at hl 0 rfl) ?_
  refine va_aldq hx hb hK hP 1 0 rfl rfl (i := z1) (vp_in_iff.mpr (by omega)) dX4_newRow_18 ?_
  obtain ⟨o2, eo2⟩ : ∃ o, o = f_rws (Int32.toNatClampNeg z1) := ⟨_, rfl⟩
  rw [← eo2]
  rcases o2 with _ | b3
  · have hl : lv_has ls 6 [(4, .int z1), (0, .ref h_pv), (1, .int p1), (2, .int p2), (3, .int p3)] := hl
    show W p l e _ s m _ below meth c _ _ _ _ _ (F0 m 19 ls [.null])
    have nq9 := pfx_none (k := z1) hn_pr (by omega) eo2
    refine lv_ifnonnullN hx hb dX4_newRow_19 ?_
    refine lv_aload_n hx hb dX4_newRow_22 rfl (lv_at hl 1 rfl) ?_
    refine va_get (D := (dC, dI)) (ci := 3) (v := .ref h_rws) (C := RX4) (T := TX4) (N := 18) hx hb hw iwX4 hown hK hP 0 rfl rfl 2 (by decide) (hw _ w_f_X4_11) (fun _ h9 => h9) rfl dX4_newRow_23 ?_
    refine lv_iload hx hb dX4_newRow_26 (lv_at hl 0 rfl) ?_
    refine va_new (ci := 9) (C := RX6) (T := TX6) (N := 7) (fs := [.int 0, .int 0, .int 0, .null, .null, .null, .int 0]) hx hb hw iwX6 tyX6 tyX6_ok hown (hw _ w_cl_X4_9) (hw _ w_inst_X6) (hw _ w_ini_X6) hK hP hD hS hA rfl dfX6 (by dsimp only [headSpec]; omega) (by dsimp only [headSpec]; omega) dX4_newRow_28 (fun a4 H hP hD hS => ?_)
    have hP : va_P (dC, dI) cls (wp [(h_pv, .inr (3, (mo175 v_pv (.ref h_rws) (.int x_pv_rowCount)))), (h_rws, .inl (cy_rws, 361, .inr (.inr (.inr (.inr f_rws)))))] (PL (nr + 1) (va_up ra nr a4) (va_up rf nr ((0 : Int32), (0 : Int32), (0 : Int32), none, none, none, (0 : Int32))) nl la lf ns sa sf)) H := va_P_perm (pl_pushR (t := ((0 : Int32), (0 : Int32), (0 : Int32), none, none, none, (0 : Int32)))) hP
    have hD : va_D A (wp [(h_pv, .inr (3, (mo175 v_pv (.ref h_rws) (.int x_pv_rowCount)))), (h_rws, .inl (cy_rws, 361, .inr (.inr (.inr (.inr f_rws)))))] (PL (nr + 1) (va_up ra nr a4) (va_up rf nr ((0 : Int32), (0 : Int32), (0 : Int32), none, none, none, (0 : Int32))) nl la lf ns sa sf)) := va_D_perm (pl_pushR (t := ((0 : Int32), (0 : Int32), (0 : Int32), none, none, none, (0 : Int32)))) hD
    obtain ⟨nr5, enr5⟩ : ∃ g, g = (nr + 1) := ⟨_, rfl⟩
    obtain ⟨ra6, era6⟩ : ∃ g, g = (va_up ra nr a4) := ⟨_, rfl⟩
    obtain ⟨rf7, erf7⟩ : ∃ g, g = (va_up rf nr ((0 : Int32), (0 : Int32), (0 : Int32), none, none, none, (0 : Int32))) := ⟨_, rfl⟩
    have hP : va_P (dC, dI) cls (wp [(h_pv, .inr (3, (mo175 v_pv (.ref h_rws) (.int x_pv_rowCount)))), (h_rws, .inl (cy_rws, 361, .inr (.inr (.inr (.inr f_rws)))))] (PL nr5 ra6 rf7 nl la lf ns sa sf)) H := by rw [enr5, era6, erf7]; exact hP
    have hD : va_D A (wp [(h_pv, .inr (3, (mo175 v_pv (.ref h_rws) (.int x_pv_rowCount)))), (h_rws, .inl (cy_rws, 361, .inr (.inr (.inr (.inr f_rws)))))] (PL nr5 ra6 rf7 nl la lf ns sa sf)) := by rw [enr5, era6, erf7]; exact hD
    have ea9 : ra6 nr = a4 := by rw [era6]; exact up_self _ _ _
    refine lv_dup hx hb dX4_newRow_31 rfl ?_
    have hPc := wp_P (cx := []) hP [] rfl
    have hDc := wp_D (cx := []) hD [] (by decide) rfl
    have hKc := hK.sub (tys' := []) [] rfl
    have hFc := wp_free (cx := []) hD hS hA [] rfl
    refine va_callv (va_runIN (As := []) (rest := [.ref a4, .int z1, .ref h_rws]) ⟨hx, hb, hml, hown, hts⟩ (c_X6_init l dC dI H.size a4) ⟨va_cnB (host := "OppositePairs") 0 hts (gd hT w_code_X6_init) rfl rfl rfl (hN _ n_m_X4_277) (hw _ w_ini_X6) (by decide +kernel) ⟨(by dsimp only [headSpec]; omega), (by dsimp only [headSpec]; omega)⟩, rfl, hw _ w_instanceMethod_X6_init⟩ ⟨pre_blind, pre_of hPc hKc hDc hN⟩ rfl rfl hl.1 rfl (lv_room (Nat.le_of_ble_eq_true rfl)) dX4_newRow_32 ⟨(by dsimp only [headSpec]; omega), (by dsimp only [headSpec]; omega)⟩) hS (fun q _ h => hFc q h) hFc (fun u t H locs ht hvm hq hB hz1 hk1 hS9 => ?_)
    obtain ⟨hP1, hD1⟩ := hB
    rw [ht] at hP1
    obtain ⟨hP9, hD9⟩ := va_joinQ (wr := [(h_pv, .inr (3, (mo175 v_pv (.ref h_rws) (.int x_pv_rowCount)))), (h_rws, .inl (cy_rws, 361, .inr (.inr (.inr (.inr f_rws)))))]) (w1 := []) (cx := []) hP hD [] [0, 1] rfl rfl (by decide) (by decide) hk1 hFc hP1 hD1
    clear hP hD hS hPc hDc hKc hFc hP1 hD1 hk1 hz1 ht hvm
    have hP : va_P (dC, dI) cls (wp [(h_pv, .inr (3, (mo175 v_pv (.ref h_rws) (.int x_pv_rowCount)))), (h_rws, .inl (cy_rws, 361, .inr (.inr (.inr (.inr f_rws)))))] (PL nr5 ra6 rf7 nl la lf ns sa sf)) H := hP9
    have hD : va_D A (wp [(h_pv, .inr (3, (mo175 v_pv (.ref h_rws) (.int x_pv_rowCount)))), (h_rws, .inl (cy_rws, 361, .inr (.inr (.inr (.inr f_rws)))))] (PL nr5 ra6 rf7 nl la lf ns sa sf)) := hD9
    have hS := hS9
    clear hP9 hD9 hS9
    refine va_astq hx hb hK hP hD hS 1 0 (2 + nr) 9 rfl rfl (by rw [← ea9]; exact (pl_R (X := [(h_pv, .inr (3, (mo175 v_pv (.ref h_rws) (.int x_pv_rowCount)))), (h_rws, .inl (cy_rws, 361, .inr (.inr (.inr (.inr f_rws)))))]) (by omega))) rfl (i := z1) (vp_in_iff.mpr (by omega)) dX4_newRow_35 (fun H locs hP hD hS => ?_)
    obtain ⟨f9, ef9⟩ : ∃ g : Nat → Option Nat, g = va_up f_rws (Int32.toNatClampNeg z1) (some a4) := ⟨_, rfl⟩
    have hP : va_P (dC, dI) cls (wp [(h_pv, .inr (3, (mo175 v_pv (.ref h_rws) (.int x_pv_rowCount)))), (h_rws, .inl (cy_rws, 361, .inr (.inr (.inr (.inr f9)))))] (PL nr5 ra6 rf7 nl la lf ns sa sf)) H := by rw [ef9]; exact hP
    have hD : va_D A (wp [(h_pv, .inr (3, (mo175 v_pv (.ref h_rws) (.int x_pv_rowCount)))), (h_rws, .inl (cy_rws, 361, .inr (.inr (.inr (.inr f9)))))] (PL nr5 ra6 rf7 nl la lf ns sa sf)) := by rw [ef9]; exact hD
    have pr9 : PFX nr5 361 f9 ra6 := by rw [enr5, ef9, era6]; exact pfx_push hn_pr (by omega) (by omega)
    have rk9 : ROK nr5 ra6 rf7 nl la := by rw [enr5, era6, erf7]; exact rok_push hn_rok
    have ag9 : ∀ i : Nat, i < nr → ra6 i = ra i := fun i hi => by rw [era6]; exact up_ne (by omega)
    have af9 : ∀ i : Nat, i ≠ (x_pv_rowCount).toInt.toNat → rf7 i = rf i := fun i hi => by rw [erf7]; exact up_ne (by omega)
    refine lv_aload_n hx hb dX4_newRow_36 rfl (lv_at hl 1 rfl) ?_
    refine lv_iload hx hb dX4_newRow_37 (lv_at hl 0 rfl) ?_
    refine lv_iconst (v := 1) hx hb dX4_newRow_39 (by decide) ?_
    refine lv_iadd hx hb dX4_newRow_40 ?_
    refine lv_topi (fun z10 ez10 => ?_)
    have tz10 : (z10).toInt = (z1).toInt + 1 := by rw [ez10]; exact i_add rfl (by decide) (by omega)
    refine va_put (D := (dC, dI)) (ci := 3) (v := .int z10) (ty := tyX4 3) (C := RX4) (T := TX4) (N := 18) hx hb hw iwX4 tyX4 tyX4_ok nmX4 hown hK hP hD hS 0 rfl rfl 3 (by decide) (hw _ w_f_X4_101) (fun _ h9 => h9) rfl (tyX4_ok 3 (by decide)) rfl rfl (Nat.le_of_ble_eq_true rfl) dX4_newRow_41 (fun H locs hP9 hD9 hS9 => ?_)
    clear hP hD hS
    have hP : va_P (dC, dI) cls (wp [(h_pv, .inr (3, (mo175 v_pv (.ref h_rws) (.int z10)))), (h_rws, .inl (cy_rws, 361, .inr (.inr (.inr (.inr f9)))))] (PL nr5 ra6 rf7 nl la lf ns sa sf)) H := hP9
    have hD : va_D A (wp [(h_pv, .inr (3, (mo175 v_pv (.ref h_rws) (.int z10)))), (h_rws, .inl (cy_rws, 361, .inr (.inr (.inr (.inr f9)))))] (PL nr5 ra6 rf7 nl la lf ns sa sf)) := hD9
    have hS := hS9
    clear hP9 hD9 hS9
    refine lv_aload_n hx hb dX4_newRow_44 rfl (lv_at hl 1 rfl) ?_
    refine va_get (D := (dC, dI)) (ci := 3) (v := .ref h_rws) (C := RX4) (T := TX4) (N := 18) hx hb hw iwX4 hown hK hP 0 rfl rfl 2 (by decide) (hw _ w_f_X4_11) (fun _ h9 => h9) rfl dX4_newRow_45 ?_
    refine lv_iload hx hb dX4_newRow_48 (lv_at hl 0 rfl) ?_
    refine va_aldq hx hb hK hP 1 0 rfl rfl (i := z1) (vp_in_iff.mpr (by omega)) dX4_newRow_50 ?_
    obtain ⟨o11, eo11⟩ : ∃ o, o = f9 (Int32.toNatClampNeg z1) := ⟨_, rfl⟩
    rw [← eo11]
    have oq9 := pfx_at (k := z1) (i := (x_pv_rowCount).toInt.toNat) pr9 eo11 (by omega) (by omega)
    subst oq9
    show W p l e _ s m _ below meth c _ _ _ _ _ (F0 m 51 ls [.ref (ra6 (x_pv_rowCount).toInt.toNat)])
    refine lv_astore (lv' := [(5, .ref (ra6 (x_pv_rowCount).toInt.toNat)), (4, .int z1), (0, .ref h_pv), (1, .int p1), (2, .int p2), (3, .int p3)]) hx hb dX4_newRow_51 hl (by decide) rfl (fun ls hl => ?_)
    refine lv_aload hx hb dX4_newRow_53 (lv_at hl 0 rfl) ?_
    refine lv_iload_n hx hb dX4_newRow_55 rfl (lv_at hl 3 rfl) ?_
    refine va_putN (D := (dC, dI)) (ci := 9) (v := .int p1) (ty := tyX6 0) (C := RX6) (T := TX6) (N := 7) (host := "OppositePairs") hx hb hw iwX6 tyX6 tyX6_ok nmX6 hown hK hP hD hS (2 + (x_pv_rowCount).toInt.toNat) (pl_R (X := [(h_pv, .inr (3, (mo175 v_pv (.ref h_rws) (.int z10)))), (h_rws, .inl (cy_rws, 361, .inr (.inr (.inr (.inr f9)))))]) (by omega)) rfl 0 (by decide) (hN.use n_f_X4_140 rfl) (fun _ h9 => h9) rfl (tyX6_ok 0 (by decide)) rfl rfl (Nat.le_of_ble_eq_true rfl) dX4_newRow_56 (fun H locs hP hD hS => ?_)
    have hP : va_P (dC, dI) cls (wp [(h_pv, .inr (3, (mo175 v_pv (.ref h_rws) (.int z10)))), (h_rws, .inl (cy_rws, 361, .inr (.inr (.inr (.inr f9)))))] (PL nr5 ra6 (va_up rf7 (x_pv_rowCount).toInt.toNat (p1, (rf7 (x_pv_rowCount).toInt.toNat).2.1, (rf7 (x_pv_rowCount).toInt.toNat).2.2.1, (rf7 (x_pv_rowCount).toInt.toNat).2.2.2.1, (rf7 (x_pv_rowCount).toInt.toNat).2.2.2.2.1, (rf7 (x_pv_rowCount).toInt.toNat).2.2.2.2.2.1, (rf7 (x_pv_rowCount).toInt.toNat).2.2.2.2.2.2)) nl la lf ns sa sf)) H := by rw [← pl_setR (i := (x_pv_rowCount).toInt.toNat) (by omega)]; exact hP
    have hD : va_D A (wp [(h_pv, .inr (3, (mo175 v_pv (.ref h_rws) (.int z10)))), (h_rws, .inl (cy_rws, 361, .inr (.inr (.inr (.inr f9)))))] (PL nr5 ra6 (va_up rf7 (x_pv_rowCount).toInt.toNat (p1, (rf7 (x_pv_rowCount).toInt.toNat).2.1, (rf7 (x_pv_rowCount).toInt.toNat).2.2.1, (rf7 (x_pv_rowCount).toInt.toNat).2.2.2.1, (rf7 (x_pv_rowCount).toInt.toNat).2.2.2.2.1, (rf7 (x_pv_rowCount).toInt.toNat).2.2.2.2.2.1, (rf7 (x_pv_rowCount).toInt.toNat).2.2.2.2.2.2)) nl la lf ns sa sf)) := by rw [← pl_setR (i := (x_pv_rowCount).toInt.toNat) (by omega)]; exact hD
    refine lv_aload hx hb dX4_newRow_59 (lv_at hl 0 rfl) ?_
    refine lv_iload_n hx hb dX4_newRow_61 rfl (lv_at hl 4 rfl) ?_
    refine va_putN (D := (dC, dI)) (ci := 9) (v := .int p2) (ty := tyX6 1) (C := RX6) (T := TX6) (N := 7) (host := "OppositePairs") hx hb hw iwX6 tyX6 tyX6_ok nmX6 hown hK hP hD hS (2 + (x_pv_rowCount).toInt.toNat) (pl_R2 (X := [(h_pv, .inr (3, (mo175 v_pv (.ref h_rws) (.int z10)))), (h_rws, .inl (cy_rws, 361, .inr (.inr (.inr (.inr f9)))))]) (by omega)) rfl 1 (by decide) (hN.use n_f_X4_163 rfl) (fun _ h9 => h9) rfl (tyX6_ok 1 (by decide)) rfl rfl (Nat.le_of_ble_eq_true rfl) dX4_newRow_62 (fun H locs hP hD hS => ?_)
    have hP : va_P (dC, dI) cls (wp [(h_pv, .inr (3, (mo175 v_pv (.ref h_rws) (.int z10)))), (h_rws, .inl (cy_rws, 361, .inr (.inr (.inr (.inr f9)))))] (PL nr5 ra6 (va_up rf7 (x_pv_rowCount).toInt.toNat (p1, p2, (rf7 (x_pv_rowCount).toInt.toNat).2.2.1, (rf7 (x_pv_rowCount).toInt.toNat).2.2.2.1, (rf7 (x_pv_rowCount).toInt.toNat).2.2.2.2.1, (rf7 (x_pv_rowCount).toInt.toNat).2.2.2.2.2.1, (rf7 (x_pv_rowCount).toInt.toNat).2.2.2.2.2.2)) nl la lf ns sa sf)) H := by rw [← pl_setR2 (i := (x_pv_rowCount).toInt.toNat) (by omega)]; exact hP
    have hD : va_D A (wp [(h_pv, .inr (3, (mo175 v_pv (.ref h_rws) (.int z10)))), (h_rws, .inl (cy_rws, 361, .inr (.inr (.inr (.inr f9)))))] (PL nr5 ra6 (va_up rf7 (x_pv_rowCount).toInt.toNat (p1, p2, (rf7 (x_pv_rowCount).toInt.toNat).2.2.1, (rf7 (x_pv_rowCount).toInt.toNat).2.2.2.1, (rf7 (x_pv_rowCount).toInt.toNat).2.2.2.2.1, (rf7 (x_pv_rowCount).toInt.toNat).2.2.2.2.2.1, (rf7 (x_pv_rowCount).toInt.toNat).2.2.2.2.2.2)) nl la lf ns sa sf)) := by rw [← pl_setR2 (i := (x_pv_rowCount).toInt.toNat) (by omega)]; exact hD
    refine lv_aload hx hb dX4_newRow_65 (lv_at hl 0 rfl) ?_
    refine lv_iload_n hx hb dX4_newRow_67 rfl (lv_at hl 5 rfl) ?_
    refine lv_iload_n hx hb dX4_newRow_68 rfl (lv_at hl 4 rfl) ?_
    refine lv_icmp_ne (tgt := 78) hx hb dX4_newRow_69 (by decide) (fun c12 => ?_) (fun c12 => ?_)
    · have kc12 := (not_congr (cv_eq (rfl : (p3).toInt = (p3).toInt) (rfl : (p2).toInt = (p2).toInt))).mp c12
      refine lv_iload_n hx hb dX4_newRow_78 rfl (lv_at hl 5 rfl) ?_
      refine va_putN (D := (dC, dI)) (ci := 9) (v := .int p3) (ty := tyX6 2) (C := RX6) (T := TX6) (N := 7) (host := "OppositePairs") hx hb hw iwX6 tyX6 tyX6_ok nmX6 hown hK hP hD hS (2 + (x_pv_rowCount).toInt.toNat) (pl_R2 (X := [(h_pv, .inr (3, (mo175 v_pv (.ref h_rws) (.int z10)))), (h_rws, .inl (cy_rws, 361, .inr (.inr (.inr (.inr f9)))))]) (by omega)) rfl 2 (by decide) (hN.use n_f_X4_137 rfl) (fun _ h9 => h9) rfl (tyX6_ok 2 (by decide)) rfl rfl (Nat.le_of_ble_eq_true rfl) dX4_newRow_79 (fun H locs hP hD hS => ?_)
      have hP : va_P (dC, dI) cls (wp [(h_pv, .inr (3, (mo175 v_pv (.ref h_rws) (.int z10)))), (h_rws, .inl (cy_rws, 361, .inr (.inr (.inr (.inr f9)))))] (PL nr5 ra6 (va_up rf7 (x_pv_rowCount).toInt.toNat (p1, p2, p3, (rf7 (x_pv_rowCount).toInt.toNat).2.2.2.1, (rf7 (x_pv_rowCount).toInt.toNat).2.2.2.2.1, (rf7 (x_pv_rowCount).toInt.toNat).2.2.2.2.2.1, (rf7 (x_pv_rowCount).toInt.toNat).2.2.2.2.2.2)) nl la lf ns sa sf)) H := by rw [← pl_setR2 (i := (x_pv_rowCount).toInt.toNat) (by omega)]; exact hP
      have hD : va_D A (wp [(h_pv, .inr (3, (mo175 v_pv (.ref h_rws) (.int z10)))), (h_rws, .inl (cy_rws, 361, .inr (.inr (.inr (.inr f9)))))] (PL nr5 ra6 (va_up rf7 (x_pv_rowCount).toInt.toNat (p1, p2, p3, (rf7 (x_pv_rowCount).toInt.toNat).2.2.2.1, (rf7 (x_pv_rowCount).toInt.toNat).2.2.2.2.1, (rf7 (x_pv_rowCount).toInt.toNat).2.2.2.2.2.1, (rf7 (x_pv_rowCount).toInt.toNat).2.2.2.2.2.2)) nl la lf ns sa sf)) := by rw [← pl_setR2 (i := (x_pv_rowCount).toInt.toNat) (by omega)]; exact hD
      refine lv_aload hx hb dX4_newRow_82 (lv_at hl 0 rfl) ?_
      obtain ⟨rf13, erf13⟩ : ∃ g, g = (va_up rf7 (x_pv_rowCount).toInt.toNat (p1, p2, p3, (rf7 (x_pv_rowCount).toInt.toNat).2.2.2.1, (rf7 (x_pv_rowCount).toInt.toNat).2.2.2.2.1, (rf7 (x_pv_rowCount).toInt.toNat).2.2.2.2.2.1, (rf7 (x_pv_rowCount).toInt.toNat).2.2.2.2.2.2)) := ⟨_, rfl⟩
      have hP : va_P (dC, dI) cls (wp [(h_pv, .inr (3, (mo175 v_pv (.ref h_rws) (.int z10)))), (h_rws, .inl (cy_rws, 361, .inr (.inr (.inr (.inr f9)))))] (PL nr5 ra6 rf13 nl la lf ns sa sf)) H := by rw [erf13]; exact hP
      have hD : va_D A (wp [(h_pv, .inr (3, (mo175 v_pv (.ref h_rws) (.int z10)))), (h_rws, .inl (cy_rws, 361, .inr (.inr (.inr (.inr f9)))))] (PL nr5 ra6 rf13 nl la lf ns sa sf)) := by rw [erf13]; exact hD
      have srf13 : rf13 (x_pv_rowCount).toInt.toNat = (p1, p2, p3, (rf7 (x_pv_rowCount).toInt.toNat).2.2.2.1, (rf7 (x_pv_rowCount).toInt.toNat).2.2.2.2.1, (rf7 (x_pv_rowCount).toInt.toNat).2.2.2.2.2.1, (rf7 (x_pv_rowCount).toInt.toNat).2.2.2.2.2.2) := by rw [erf13]; exact up_self _ _ _
      have orf13 : ∀ j : Nat, j ≠ (x_pv_rowCount).toInt.toNat → rf13 j = rf7 j := fun j hj => by rw [erf13]; exact up_ne hj
      have rk14b := rk9 (x_pv_rowCount).toInt.toNat (by omega)
      have rk14 : ROK nr5 ra6 rf13 nl la := rok_set rk9 orf13 srf13 (by omega) (by omega) (by omega) rk14b.2.2.2.1 rk14b.2.2.2.2.1 rk14b.2.2.2.2.2.1 rk14b.2.2.2.2.2.2
      have rk14n : (∀ i : Nat, i ≠ (x_pv_rowCount).toInt.toNat → rf13 i = rf i) ∧ (rf13 (x_pv_rowCount).toInt.toNat).1 = p1 ∧ (rf13 (x_pv_rowCount).toInt.toNat).2.1 = p2 ∧ (0 ≤ (rf13 (x_pv_rowCount).toInt.toNat).2.2.1.toInt ∧ (rf13 (x_pv_rowCount).toInt.toNat).2.2.1.toInt ≤ (p3).toInt + 1) := ⟨fun i hi => (orf13 i hi).trans (af9 i hi), by rw [srf13], by rw [srf13], by rw [srf13]; dsimp only; omega⟩
      refine W.widen (k := ((x_pv_rowCount).toInt.toNat + 1 - nr)) (n := 7 * ((x_pv_rowCount).toInt.toNat + 1 - nr)) (by omega) (by omega) ?_
      have w15 : 0 ≤ ((z10)).toInt ∧ ((z10)).toInt ≤ 361 := by omega
      have w16 : ((z10)).toInt = (x_pv_rowCount).toInt + 1 := by omega
      have w17 : nr ≤ (nr5) ∧ (x_pv_rowCount).toInt + 1 ≤ (nr5) := by omega
      have w18 : GR2 nr (nr5) ((z10)).toInt := (gr2_up (by omega) (by omega))
      have w19 : PFX (nr5) 361 (f9) (ra6) := pr9
      have w20 : ROK (nr5) (ra6) (rf13) nl la := rk14
      have w21 : ∀ i : Nat, i < nr → (ra6) i = ra i := ag9
      have w22 : (∀ i : Nat, i ≠ (x_pv_rowCount).toInt.toNat → (rf13) i = rf i) ∧ ((rf13) (x_pv_rowCount).toInt.toNat).1 = p1 ∧ ((rf13) (x_pv_rowCount).toInt.toNat).2.1 = p2 ∧ (0 ≤ ((rf13) (x_pv_rowCount).toInt.toNat).2.2.1.toInt ∧ ((rf13) (x_pv_rowCount).toInt.toNat).2.2.1.toInt ≤ (p3).toInt + 1) := rk14n
      have w23 : (some (ra6 (x_pv_rowCount).toInt.toNat) : Option Nat) = some ((ra6) (x_pv_rowCount).toInt.toNat) := rfl
      exact W.aret (v := va_rf (some (ra6 (x_pv_rowCount).toInt.toNat))) hx hb hr (Or.inl ⟨_, rfl⟩) (va_rf_or _) (fun t ht hW => ⟨⟨(some (ra6 (x_pv_rowCount).toInt.toNat)), (z10, f9, nr5, ra6, rf13), rfl, ⟨w15, w16, w17, w18, w19, w20, w21, w22, w23⟩, by rw [ht]; exact hP, hD⟩, hS.F ht⟩) hS.2.2 dX4_newRow_84
    · have kc12 := (cv_eq (rfl : (p3).toInt = (p3).toInt) (rfl : (p2).toInt = (p2).toInt)).mp c12
      refine lv_iload_n hx hb dX4_newRow_72 rfl (lv_at hl 5 rfl) ?_
      refine lv_iconst (v := 1) hx hb dX4_newRow_73 (by decide) ?_
      refine lv_iadd hx hb dX4_newRow_74 ?_
      refine lv_topi (fun z24 ez24 => ?_)
      have tz24 : (z24).toInt = (p3).toInt + 1 := by rw [ez24]; exact i_add rfl (by decide) (by omega)
      refine lv_goto (tgt := 79) hx hb dX4_newRow_75 (by decide) ?_
      refine va_putN (D := (dC, dI)) (ci := 9) (v := .int z24) (ty := tyX6 2) (C := RX6) (T := TX6) (N := 7) (host := "OppositePairs") hx hb hw iwX6 tyX6 tyX6_ok nmX6 hown hK hP hD hS (2 + (x_pv_rowCount).toInt.toNat) (pl_R2 (X := [(h_pv, .inr (3, (mo175 v_pv (.ref h_rws) (.int z10)))), (h_rws, .inl (cy_rws, 361, .inr (.inr (.inr (.inr f9)))))]) (by omega)) rfl 2 (by decide) (hN.use n_f_X4_137 rfl) (fun _ h9 => h9) rfl (tyX6_ok 2 (by decide)) rfl rfl (Nat.le_of_ble_eq_true rfl) dX4_newRow_79 (fun H locs hP hD hS => ?_)
      have hP : va_P (dC, dI) cls (wp [(h_pv, .inr (3, (mo175 v_pv (.ref h_rws) (.int z10)))), (h_rws, .inl (cy_rws, 361, .inr (.inr (.inr (.inr f9)))))] (PL nr5 ra6 (va_up rf7 (x_pv_rowCount).toInt.toNat (p1, p2, z24, (rf7 (x_pv_rowCount).toInt.toNat).2.2.2.1, (rf7 (x_pv_rowCount).toInt.toNat).2.2.2.2.1, (rf7 (x_pv_rowCount).toInt.toNat).2.2.2.2.2.1, (rf7 (x_pv_rowCount).toInt.toNat).2.2.2.2.2.2)) nl la lf ns sa sf)) H := by rw [← pl_setR2 (i := (x_pv_rowCount).toInt.toNat) (by omega)]; exact hP
      have hD : va_D A (wp [(h_pv, .inr (3, (mo175 v_pv (.ref h_rws) (.int z10)))), (h_rws, .inl (cy_rws, 361, .inr (.inr (.inr (.inr f9)))))] (PL nr5 ra6 (va_up rf7 (x_pv_rowCount).toInt.toNat (p1, p2, z24, (rf7 (x_pv_rowCount).toInt.toNat).2.2.2.1, (rf7 (x_pv_rowCount).toInt.toNat).2.2.2.2.1, (rf7 (x_pv_rowCount).toInt.toNat).2.2.2.2.2.1, (rf7 (x_pv_rowCount).toInt.toNat).2.2.2.2.2.2)) nl la lf ns sa sf)) := by rw [← pl_setR2 (i := (x_pv_rowCount).toInt.toNat) (by omega)]; exact hD
      refine lv_aload hx hb dX4_newRow_82 (lv_at hl 0 rfl) ?_
      obtain ⟨rf25, erf25⟩ : ∃ g, g = (va_up rf7 (x_pv_rowCount).toInt.toNat (p1, p2, z24, (rf7 (x_pv_rowCount).toInt.toNat).2.2.2.1, (rf7 (x_pv_rowCount).toInt.toNat).2.2.2.2.1, (rf7 (x_pv_rowCount).toInt.toNat).2.2.2.2.2.1, (rf7 (x_pv_rowCount).toInt.toNat).2.2.2.2.2.2)) := ⟨_, rfl⟩
      have hP : va_P (dC, dI) cls (wp [(h_pv, .inr (3, (mo175 v_pv (.ref h_rws) (.int z10)))), (h_rws, .inl (cy_rws, 361, .inr (.inr (.inr (.inr f9)))))] (PL nr5 ra6 rf25 nl la lf ns sa sf)) H := by rw [erf25]; exact hP
      have hD : va_D A (wp [(h_pv, .inr (3, (mo175 v_pv (.ref h_rws) (.int z10)))), (h_rws, .inl (cy_rws, 361, .inr (.inr (.inr (.inr f9)))))] (PL nr5 ra6 rf25 nl la lf ns sa sf)) := by rw [erf25]; exact hD
      have srf25 : rf25 (x_pv_rowCount).toInt.toNat = (p1, p2, z24, (rf7 (x_pv_rowCount).toInt.toNat).2.2.2.1, (rf7 (x_pv_rowCount).toInt.toNat).2.2.2.2.1, (rf7 (x_pv_rowCount).toInt.toNat).2.2.2.2.2.1, (rf7 (x_pv_rowCount).toInt.toNat).2.2.2.2.2.2) := by rw [erf25]; exact up_self _ _ _
      have orf25 : ∀ j : Nat, j ≠ (x_pv_rowCount).toInt.toNat → rf25 j = rf7 j := fun j hj => by rw [erf25]; exact up_ne hj
      have rk26b := rk9 (x_pv_rowCount).toInt.toNat (by omega)
      have rk26 : ROK nr5 ra6 rf25 nl la := rok_set rk9 orf25 srf25 (by omega) (by omega) (by omega) rk26b.2.2.2.1 rk26b.2.2.2.2.1 rk26b.2.2.2.2.2.1 rk26b.2.2.2.2.2.2
      have rk26n : (∀ i : Nat, i ≠ (x_pv_rowCount).toInt.toNat → rf25 i = rf i) ∧ (rf25 (x_pv_rowCount).toInt.toNat).1 = p1 ∧ (rf25 (x_pv_rowCount).toInt.toNat).2.1 = p2 ∧ (0 ≤ (rf25 (x_pv_rowCount).toInt.toNat).2.2.1.toInt ∧ (rf25 (x_pv_rowCount).toInt.toNat).2.2.1.toInt ≤ (p3).toInt + 1) := ⟨fun i hi => (orf25 i hi).trans (af9 i hi), by rw [srf25], by rw [srf25], by rw [srf25]; dsimp only; omega⟩
      refine W.widen (k := ((x_pv_rowCount).toInt.toNat + 1 - nr)) (n := 7 * ((x_pv_rowCount).toInt.toNat + 1 - nr)) (by omega) (by omega) ?_
      have w27 : 0 ≤ ((z10)).toInt ∧ ((z10)).toInt ≤ 361 := by omega
      have w28 : ((z10)).toInt = (x_pv_rowCount).toInt + 1 := by omega
      have w29 : nr ≤ (nr5) ∧ (x_pv_rowCount).toInt + 1 ≤ (nr5) := by omega
      have w30 : GR2 nr (nr5) ((z10)).toInt := (gr2_up (by omega) (by omega))
      have w31 : PFX (nr5) 361 (f9) (ra6) := pr9
      have w32 : ROK (nr5) (ra6) (rf25) nl la := rk26
      have w33 : ∀ i : Nat, i < nr → (ra6) i = ra i := ag9
      have w34 : (∀ i : Nat, i ≠ (x_pv_rowCount).toInt.toNat → (rf25) i = rf i) ∧ ((rf25) (x_pv_rowCount).toInt.toNat).1 = p1 ∧ ((rf25) (x_pv_rowCount).toInt.toNat).2.1 = p2 ∧ (0 ≤ ((rf25) (x_pv_rowCount).toInt.toNat).2.2.1.toInt ∧ ((rf25) (x_pv_rowCount).toInt.toNat).2.2.1.toInt ≤ (p3).toInt + 1) := rk26n
      have w35 : (some (ra6 (x_pv_rowCount).toInt.toNat) : Option Nat) = some ((ra6) (x_pv_rowCount).toInt.toNat) := rfl
      exact W.aret (v := va_rf (some (ra6 (x_pv_rowCount).toInt.toNat))) hx hb hr (Or.inl ⟨_, rfl⟩) (va_rf_or _) (fun t ht hW => ⟨⟨(some (ra6 (x_pv_rowCount).toInt.toNat)), (z10, f9, nr5, ra6, rf25), rfl, ⟨w27, w28, w29, w30, w31, w32, w33, w34, w35⟩, by rw [ht]; exact hP, hD⟩, hS.F ht⟩) hS.2.2 dX4_newRow_84
  · have hl : lv_has ls 6 [(4, .int z1), (0, .ref h_pv), (1, .int p1), (2, .int p2), (3, .int p3)] := hl
    show W p l e _ s m _ below meth c _ _ _ _ _ (F0 m 19 ls [.ref b3])
    have nq9 := pfx_some (k := z1) hn_pr (by omega) eo2
    refine lv_ifnonnull (tgt := 36) hx hb dX4_newRow_19 (by decide) ?_
    refine lv_aload_n hx hb dX4_newRow_36 rfl (lv_at hl 1 rfl) ?_
    refine lv_iload hx hb dX4_newRow_37 (lv_at hl 0 rfl) ?_
    refine lv_iconst (v := 1) hx hb dX4_newRow_39 (by decide) ?_
    refine lv_iadd hx hb dX4_newRow_40 ?_
    refine lv_topi (fun z36 ez36 => ?_)
    have tz36 : (z36).toInt = (z1).toInt + 1 := by rw [ez36]; exact i_add rfl (by decide) (by omega)
    refine va_put (D := (dC, dI)) (ci := 3) (v := .int z36) (ty := tyX4 3) (C := RX4) (T := TX4) (N := 18) hx hb hw iwX4 tyX4 tyX4_ok nmX4 hown hK hP hD hS 0 rfl rfl 3 (by decide) (hw _ w_f_X4_101) (fun _ h9 => h9) rfl (tyX4_ok 3 (by decide)) rfl rfl (Nat.le_of_ble_eq_true rfl) dX4_newRow_41 (fun H locs hP9 hD9 hS9 => ?_)
    clear hP hD hS
    have hP : va_P (dC, dI) cls (wp [(h_pv, .inr (3, (mo175 v_pv (.ref h_rws) (.int z36)))), (h_rws, .inl (cy_rws, 361, .inr (.inr (.inr (.inr f_rws)))))] (PL nr ra rf nl la lf ns sa sf)) H := hP9
    have hD : va_D A (wp [(h_pv, .inr (3, (mo175 v_pv (.ref h_rws) (.int z36)))), (h_rws, .inl (cy_rws, 361, .inr (.inr (.inr (.inr f_rws)))))] (PL nr ra rf nl la lf ns sa sf)) := hD9
    have hS := hS9
    clear hP9 hD9 hS9
    refine lv_aload_n hx hb dX4_newRow_44 rfl (lv_at hl 1 rfl) ?_
    refine va_get (D := (dC, dI)) (ci := 3) (v := .ref h_rws) (C := RX4) (T := TX4) (N := 18) hx hb hw iwX4 hown hK hP 0 rfl rfl 2 (by decide) (hw _ w_f_X4_11) (fun _ h9 => h9) rfl dX4_newRow_45 ?_
    refine lv_iload hx hb dX4_newRow_48 (lv_at hl 0 rfl) ?_
    refine va_aldq hx hb hK hP 1 0 rfl rfl (i := z1) (vp_in_iff.mpr (by omega)) dX4_newRow_50 ?_
    obtain ⟨o37, eo37⟩ : ∃ o, o = f_rws (Int32.toNatClampNeg z1) := ⟨_, rfl⟩
    rw [← eo37]
    have oq9 := pfx_at (k := z1) (i := (x_pv_rowCount).toInt.toNat) hn_pr eo37 (by omega) (by omega)
    subst oq9
    show W p l e _ s m _ below meth c _ _ _ _ _ (F0 m 51 ls [.ref (ra (x_pv_rowCount).toInt.toNat)])
    refine lv_astore (lv' := [(5, .ref (ra (x_pv_rowCount).toInt.toNat)), (4, .int z1), (0, .ref h_pv), (1, .int p1), (2, .int p2), (3, .int p3)]) hx hb dX4_newRow_51 hl (by decide) rfl (fun ls hl => ?_)
    refine lv_aload hx hb dX4_newRow_53 (lv_at hl 0 rfl) ?_
    refine lv_iload_n hx hb dX4_newRow_55 rfl (lv_at hl 3 rfl) ?_
    refine va_putN (D := (dC, dI)) (ci := 9) (v := .int p1) (ty := tyX6 0) (C := RX6) (T := TX6) (N := 7) (host := "OppositePairs") hx hb hw iwX6 tyX6 tyX6_ok nmX6 hown hK hP hD hS (2 + (x_pv_rowCount).toInt.toNat) (pl_R (X := [(h_pv, .inr (3, (mo175 v_pv (.ref h_rws) (.int z36)))), (h_rws, .inl (cy_rws, 361, .inr (.inr (.inr (.inr f_rws)))))]) (by omega)) rfl 0 (by decide) (hN.use n_f_X4_140 rfl) (fun _ h9 => h9) rfl (tyX6_ok 0 (by decide)) rfl rfl (Nat.le_of_ble_eq_true rfl) dX4_newRow_56 (fun H locs hP hD hS => ?_)
    have hP : va_P (dC, dI) cls (wp [(h_pv, .inr (3, (mo175 v_pv (.ref h_rws) (.int z36)))), (h_rws, .inl (cy_rws, 361, .inr (.inr (.inr (.inr f_rws)))))] (PL nr ra (va_up rf (x_pv_rowCount).toInt.toNat (p1, (rf (x_pv_rowCount).toInt.toNat).2.1, (rf (x_pv_rowCount).toInt.toNat).2.2.1, (rf (x_pv_rowCount).toInt.toNat).2.2.2.1, (rf (x_pv_rowCount).toInt.toNat).2.2.2.2.1, (rf (x_pv_rowCount).toInt.toNat).2.2.2.2.2.1, (rf (x_pv_rowCount).toInt.toNat).2.2.2.2.2.2)) nl la lf ns sa sf)) H := by rw [← pl_setR (i := (x_pv_rowCount).toInt.toNat) (by omega)]; exact hP
    have hD : va_D A (wp [(h_pv, .inr (3, (mo175 v_pv (.ref h_rws) (.int z36)))), (h_rws, .inl (cy_rws, 361, .inr (.inr (.inr (.inr f_rws)))))] (PL nr ra (va_up rf (x_pv_rowCount).toInt.toNat (p1, (rf (x_pv_rowCount).toInt.toNat).2.1, (rf (x_pv_rowCount).toInt.toNat).2.2.1, (rf (x_pv_rowCount).toInt.toNat).2.2.2.1, (rf (x_pv_rowCount).toInt.toNat).2.2.2.2.1, (rf (x_pv_rowCount).toInt.toNat).2.2.2.2.2.1, (rf (x_pv_rowCount).toInt.toNat).2.2.2.2.2.2)) nl la lf ns sa sf)) := by rw [← pl_setR (i := (x_pv_rowCount).toInt.toNat) (by omega)]; exact hD
    refine lv_aload hx hb dX4_newRow_59 (lv_at hl 0 rfl) ?_
    refine lv_iload_n hx hb dX4_newRow_61 rfl (lv_at hl 4 rfl) ?_
    refine va_putN (D := (dC, dI)) (ci := 9) (v := .int p2) (ty := tyX6 1) (C := RX6) (T := TX6) (N := 7) (host := "OppositePairs") hx hb hw iwX6 tyX6 tyX6_ok nmX6 hown hK hP hD hS (2 + (x_pv_rowCount).toInt.toNat) (pl_R2 (X := [(h_pv, .inr (3, (mo175 v_pv (.ref h_rws) (.int z36)))), (h_rws, .inl (cy_rws, 361, .inr (.inr (.inr (.inr f_rws)))))]) (by omega)) rfl 1 (by decide) (hN.use n_f_X4_163 rfl) (fun _ h9 => h9) rfl (tyX6_ok 1 (by decide)) rfl rfl (Nat.le_of_ble_eq_true rfl) dX4_newRow_62 (fun H locs hP hD hS => ?_)
    have hP : va_P (dC, dI) cls (wp [(h_pv, .inr (3, (mo175 v_pv (.ref h_rws) (.int z36)))), (h_rws, .inl (cy_rws, 361, .inr (.inr (.inr (.inr f_rws)))))] (PL nr ra (va_up rf (x_pv_rowCount).toInt.toNat (p1, p2, (rf (x_pv_rowCount).toInt.toNat).2.2.1, (rf (x_pv_rowCount).toInt.toNat).2.2.2.1, (rf (x_pv_rowCount).toInt.toNat).2.2.2.2.1, (rf (x_pv_rowCount).toInt.toNat).2.2.2.2.2.1, (rf (x_pv_rowCount).toInt.toNat).2.2.2.2.2.2)) nl la lf ns sa sf)) H := by rw [← pl_setR2 (i := (x_pv_rowCount).toInt.toNat) (by omega)]; exact hP
    have hD : va_D A (wp [(h_pv, .inr (3, (mo175 v_pv (.ref h_rws) (.int z36)))), (h_rws, .inl (cy_rws, 361, .inr (.inr (.inr (.inr f_rws)))))] (PL nr ra (va_up rf (x_pv_rowCount).toInt.toNat (p1, p2, (rf (x_pv_rowCount).toInt.toNat).2.2.1, (rf (x_pv_rowCount).toInt.toNat).2.2.2.1, (rf (x_pv_rowCount).toInt.toNat).2.2.2.2.1, (rf (x_pv_rowCount).toInt.toNat).2.2.2.2.2.1, (rf (x_pv_rowCount).toInt.toNat).2.2.2.2.2.2)) nl la lf ns sa sf)) := by rw [← pl_setR2 (i := (x_pv_rowCount).toInt.toNat) (by omega)]; exact hD
    refine lv_aload hx hb dX4_newRow_65 (lv_at hl 0 rfl) ?_
    refine lv_iload_n hx hb dX4_newRow_67 rfl (lv_at hl 5 rfl) ?_
    refine lv_iload_n hx hb dX4_newRow_68 rfl (lv_at hl 4 rfl) ?_
    refine lv_icmp_ne (tgt := 78) hx hb dX4_newRow_69 (by decide) (fun c38 => ?_) (fun c38 => ?_)
    · have kc38 := (not_congr (cv_eq (rfl : (p3).toInt = (p3).toInt) (rfl : (p2).toInt = (p2).toInt))).mp c38
      refine lv_iload_n hx hb dX4_newRow_78 rfl (lv_at hl 5 rfl) ?_
      refine va_putN (D := (dC, dI)) (ci := 9) (v := .int p3) (ty := tyX6 2) (C := RX6) (T := TX6) (N := 7) (host := "OppositePairs") hx hb hw iwX6 tyX6 tyX6_ok nmX6 hown hK hP hD hS (2 + (x_pv_rowCount).toInt.toNat) (pl_R2 (X := [(h_pv, .inr (3, (mo175 v_pv (.ref h_rws) (.int z36)))), (h_rws, .inl (cy_rws, 361, .inr (.inr (.inr (.inr f_rws)))))]) (by omega)) rfl 2 (by decide) (hN.use n_f_X4_137 rfl) (fun _ h9 => h9) rfl (tyX6_ok 2 (by decide)) rfl rfl (Nat.le_of_ble_eq_true rfl) dX4_newRow_79 (fun H locs hP hD hS => ?_)
      have hP : va_P (dC, dI) cls (wp [(h_pv, .inr (3, (mo175 v_pv (.ref h_rws) (.int z36)))), (h_rws, .inl (cy_rws, 361, .inr (.inr (.inr (.inr f_rws)))))] (PL nr ra (va_up rf (x_pv_rowCount).toInt.toNat (p1, p2, p3, (rf (x_pv_rowCount).toInt.toNat).2.2.2.1, (rf (x_pv_rowCount).toInt.toNat).2.2.2.2.1, (rf (x_pv_rowCount).toInt.toNat).2.2.2.2.2.1, (rf (x_pv_rowCount).toInt.toNat).2.2.2.2.2.2)) nl la lf ns sa sf)) H := by rw [← pl_setR2 (i := (x_pv_rowCount).toInt.toNat) (by omega)]; exact hP
      have hD : va_D A (wp [(h_pv, .inr (3, (mo175 v_pv (.ref h_rws) (.int z36)))), (h_rws, .inl (cy_rws, 361, .inr (.inr (.inr (.inr f_rws)))))] (PL nr ra (va_up rf (x_pv_rowCount).toInt.toNat (p1, p2, p3, (rf (x_pv_rowCount).toInt.toNat).2.2.2.1, (rf (x_pv_rowCount).toInt.toNat).2.2.2.2.1, (rf (x_pv_rowCount).toInt.toNat).2.2.2.2.2.1, (rf (x_pv_rowCount).toInt.toNat).2.2.2.2.2.2)) nl la lf ns sa sf)) := by rw [← pl_setR2 (i := (x_pv_rowCount).toInt.toNat) (by omega)]; exact hD
      refine lv_aload hx hb dX4_newRow_82 (lv_at hl 0 rfl) ?_
      obtain ⟨rf39, erf39⟩ : ∃ g, g = (va_up rf (x_pv_rowCount).toInt.toNat (p1, p2, p3, (rf (x_pv_rowCount).toInt.toNat).2.2.2.1, (rf (x_pv_rowCount).toInt.toNat).2.2.2.2.1, (rf (x_pv_rowCount).toInt.toNat).2.2.2.2.2.1, (rf (x_pv_rowCount).toInt.toNat).2.2.2.2.2.2)) := ⟨_, rfl⟩
      have hP : va_P (dC, dI) cls (wp [(h_pv, .inr (3, (mo175 v_pv (.ref h_rws) (.int z36)))), (h_rws, .inl (cy_rws, 361, .inr (.inr (.inr (.inr f_rws)))))] (PL nr ra rf39 nl la lf ns sa sf)) H := by rw [erf39]; exact hP
      have hD : va_D A (wp [(h_pv, .inr (3, (mo175 v_pv (.ref h_rws) (.int z36)))), (h_rws, .inl (cy_rws, 361, .inr (.inr (.inr (.inr f_rws)))))] (PL nr ra rf39 nl la lf ns sa sf)) := by rw [erf39]; exact hD
      have srf39 : rf39 (x_pv_rowCount).toInt.toNat = (p1, p2, p3, (rf (x_pv_rowCount).toInt.toNat).2.2.2.1, (rf (x_pv_rowCount).toInt.toNat).2.2.2.2.1, (rf (x_pv_rowCount).toInt.toNat).2.2.2.2.2.1, (rf (x_pv_rowCount).toInt.toNat).2.2.2.2.2.2) := by rw [erf39]; exact up_self _ _ _
      have orf39 : ∀ j : Nat, j ≠ (x_pv_rowCount).toInt.toNat → rf39 j = rf j := fun j hj => by rw [erf39]; exact up_ne hj
      have rk40b := hn_rok (x_pv_rowCount).toInt.toNat (by omega)
      have rk40 : ROK nr ra rf39 nl la := rok_set hn_rok orf39 srf39 (by omega) (by omega) (by omega) rk40b.2.2.2.1 rk40b.2.2.2.2.1 rk40b.2.2.2.2.2.1 rk40b.2.2.2.2.2.2
      have rk40n : (∀ i : Nat, i ≠ (x_pv_rowCount).toInt.toNat → rf39 i = rf i) ∧ (rf39 (x_pv_rowCount).toInt.toNat).1 = p1 ∧ (rf39 (x_pv_rowCount).toInt.toNat).2.1 = p2 ∧ (0 ≤ (rf39 (x_pv_rowCount).toInt.toNat).2.2.1.toInt ∧ (rf39 (x_pv_rowCount).toInt.toNat).2.2.1.toInt ≤ (p3).toInt + 1) := ⟨fun i hi => (orf39 i hi).trans (af0 i hi), by rw [srf39], by rw [srf39], by rw [srf39]; dsimp only; omega⟩
      refine W.widen (k := ((x_pv_rowCount).toInt.toNat + 1 - nr)) (n := 7 * ((x_pv_rowCount).toInt.toNat + 1 - nr)) (by omega) (by omega) ?_
      have w41 : 0 ≤ ((z36)).toInt ∧ ((z36)).toInt ≤ 361 := by omega
      have w42 : ((z36)).toInt = (x_pv_rowCount).toInt + 1 := by omega
      have w43 : nr ≤ (nr) ∧ (x_pv_rowCount).toInt + 1 ≤ (nr) := by omega
      have w44 : GR2 nr (nr) ((z36)).toInt := (gr2_same rfl (by omega))
      have w45 : PFX (nr) 361 (f_rws) (ra) := hn_pr
      have w46 : ROK (nr) (ra) (rf39) nl la := rk40
      have w47 : ∀ i : Nat, i < nr → (ra) i = ra i := ag0
      have w48 : (∀ i : Nat, i ≠ (x_pv_rowCount).toInt.toNat → (rf39) i = rf i) ∧ ((rf39) (x_pv_rowCount).toInt.toNat).1 = p1 ∧ ((rf39) (x_pv_rowCount).toInt.toNat).2.1 = p2 ∧ (0 ≤ ((rf39) (x_pv_rowCount).toInt.toNat).2.2.1.toInt ∧ ((rf39) (x_pv_rowCount).toInt.toNat).2.2.1.toInt ≤ (p3).toInt + 1) := rk40n
      have w49 : (some (ra (x_pv_rowCount).toInt.toNat) : Option Nat) = some ((ra) (x_pv_rowCount).toInt.toNat) := rfl
      exact W.aret (v := va_rf (some (ra (x_pv_rowCount).toInt.toNat))) hx hb hr (Or.inl ⟨_, rfl⟩) (va_rf_or _) (fun t ht hW => ⟨⟨(some (ra (x_pv_rowCount).toInt.toNat)), (z36, f_rws, nr, ra, rf39), rfl, ⟨w41, w42, w43, w44, w45, w46, w47, w48, w49⟩, by rw [ht]; exact hP, hD⟩, hS.F ht⟩) hS.2.2 dX4_newRow_84
    · have kc38 := (cv_eq (rfl : (p3).toInt = (p3).toInt) (rfl : (p2).toInt = (p2).toInt)).mp c38
      refine lv_iload_n hx hb dX4_newRow_72 rfl (lv_at hl 5 rfl) ?_
      refine lv_iconst (v := 1) hx hb dX4_newRow_73 (by decide) ?_
      refine lv_iadd hx hb dX4_newRow_74 ?_
      refine lv_topi (fun z50 ez50 => ?_)
      have tz50 : (z50).toInt = (p3).toInt + 1 := by rw [ez50]; exact i_add rfl (by decide) (by omega)
      refine lv_goto (tgt := 79) hx hb dX4_newRow_75 (by decide) ?_
      refine va_putN (D := (dC, dI)) (ci := 9) (v := .int z50) (ty := tyX6 2) (C := RX6) (T := TX6) (N := 7) (host := "OppositePairs") hx hb hw iwX6 tyX6 tyX6_ok nmX6 hown hK hP hD hS (2 + (x_pv_rowCount).toInt.toNat) (pl_R2 (X := [(h_pv, .inr (3, (mo175 v_pv (.ref h_rws) (.int z36)))), (h_rws, .inl (cy_rws, 361, .inr (.inr (.inr (.inr f_rws)))))]) (by omega)) rfl 2 (by decide) (hN.use n_f_X4_137 rfl) (fun _ h9 => h9) rfl (tyX6_ok 2 (by decide)) rfl rfl (Nat.le_of_ble_eq_true rfl) dX4_newRow_79 (fun H locs hP hD hS => ?_)
      have hP : va_P (dC, dI) cls (wp [(h_pv, .inr (3, (mo175 v_pv (.ref h_rws) (.int z36)))), (h_rws, .inl (cy_rws, 361, .inr (.inr (.inr (.inr f_rws)))))] (PL nr ra (va_up rf (x_pv_rowCount).toInt.toNat (p1, p2, z50, (rf (x_pv_rowCount).toInt.toNat).2.2.2.1, (rf (x_pv_rowCount).toInt.toNat).2.2.2.2.1, (rf (x_pv_rowCount).toInt.toNat).2.2.2.2.2.1, (rf (x_pv_rowCount).toInt.toNat).2.2.2.2.2.2)) nl la lf ns sa sf)) H := by rw [← pl_setR2 (i := (x_pv_rowCount).toInt.toNat) (by omega)]; exact hP
      have hD : va_D A (wp [(h_pv, .inr (3, (mo175 v_pv (.ref h_rws) (.int z36)))), (h_rws, .inl (cy_rws, 361, .inr (.inr (.inr (.inr f_rws)))))] (PL nr ra (va_up rf (x_pv_rowCount).toInt.toNat (p1, p2, z50, (rf (x_pv_rowCount).toInt.toNat).2.2.2.1, (rf (x_pv_rowCount).toInt.toNat).2.2.2.2.1, (rf (x_pv_rowCount).toInt.toNat).2.2.2.2.2.1, (rf (x_pv_rowCount).toInt.toNat).2.2.2.2.2.2)) nl la lf ns sa sf)) := by rw [← pl_setR2 (i := (x_pv_rowCount).toInt.toNat) (by omega)]; exact hD
      refine lv_aload hx hb dX4_newRow_82 (lv_at hl 0 rfl) ?_
      obtain ⟨rf51, erf51⟩ : ∃ g, g = (va_up rf (x_pv_rowCount).toInt.toNat (p1, p2, z50, (rf (x_pv_rowCount).toInt.toNat).2.2.2.1, (rf (x_pv_rowCount).toInt.toNat).2.2.2.2.1, (rf (x_pv_rowCount).toInt.toNat).2.2.2.2.2.1, (rf (x_pv_rowCount).toInt.toNat).2.2.2.2.2.2)) := ⟨_, rfl⟩
      have hP : va_P (dC, dI) cls (wp [(h_pv, .inr (3, (mo175 v_pv (.ref h_rws) (.int z36)))), (h_rws, .inl (cy_rws, 361, .inr (.inr (.inr (.inr f_rws)))))] (PL nr ra rf51 nl la lf ns sa sf)) H := by rw [erf51]; exact hP
      have hD : va_D A (wp [(h_pv, .inr (3, (mo175 v_pv (.ref h_rws) (.int z36)))), (h_rws, .inl (cy_rws, 361, .inr (.inr (.inr (.inr f_rws)))))] (PL nr ra rf51 nl la lf ns sa sf)) := by rw [erf51]; exact hD
      have srf51 : rf51 (x_pv_rowCount).toInt.toNat = (p1, p2, z50, (rf (x_pv_rowCount).toInt.toNat).2.2.2.1, (rf (x_pv_rowCount).toInt.toNat).2.2.2.2.1, (rf (x_pv_rowCount).toInt.toNat).2.2.2.2.2.1, (rf (x_pv_rowCount).toInt.toNat).2.2.2.2.2.2) := by rw [erf51]; exact up_self _ _ _
      have orf51 : ∀ j : Nat, j ≠ (x_pv_rowCount).toInt.toNat → rf51 j = rf j := fun j hj => by rw [erf51]; exact up_ne hj
      have rk52b := hn_rok (x_pv_rowCount).toInt.toNat (by omega)
      have rk52 : ROK nr ra rf51 nl la := rok_set hn_rok orf51 srf51 (by omega) (by omega) (by omega) rk52b.2.2.2.1 rk52b.2.2.2.2.1 rk52b.2.2.2.2.2.1 rk52b.2.2.2.2.2.2
      have rk52n : (∀ i : Nat, i ≠ (x_pv_rowCount).toInt.toNat → rf51 i = rf i) ∧ (rf51 (x_pv_rowCount).toInt.toNat).1 = p1 ∧ (rf51 (x_pv_rowCount).toInt.toNat).2.1 = p2 ∧ (0 ≤ (rf51 (x_pv_rowCount).toInt.toNat).2.2.1.toInt ∧ (rf51 (x_pv_rowCount).toInt.toNat).2.2.1.toInt ≤ (p3).toInt + 1) := ⟨fun i hi => (orf51 i hi).trans (af0 i hi), by rw [srf51], by rw [srf51], by rw [srf51]; dsimp only; omega⟩
      refine W.widen (k := ((x_pv_rowCount).toInt.toNat + 1 - nr)) (n := 7 * ((x_pv_rowCount).toInt.toNat + 1 - nr)) (by omega) (by omega) ?_
      have w53 : 0 ≤ ((z36)).toInt ∧ ((z36)).toInt ≤ 361 := by omega
      have w54 : ((z36)).toInt = (x_pv_rowCount).toInt + 1 := by omega
      have w55 : nr ≤ (nr) ∧ (x_pv_rowCount).toInt + 1 ≤ (nr) := by omega
      have w56 : GR2 nr (nr) ((z36)).toInt := (gr2_same rfl (by omega))
      have w57 : PFX (nr) 361 (f_rws) (ra) := hn_pr
      have w58 : ROK (nr) (ra) (rf51) nl la := rk52
      have w59 : ∀ i : Nat, i < nr → (ra) i = ra i := ag0
      have w60 : (∀ i : Nat, i ≠ (x_pv_rowCount).toInt.toNat → (rf51) i = rf i) ∧ ((rf51) (x_pv_rowCount).toInt.toNat).1 = p1 ∧ ((rf51) (x_pv_rowCount).toInt.toNat).2.1 = p2 ∧ (0 ≤ ((rf51) (x_pv_rowCount).toInt.toNat).2.2.1.toInt ∧ ((rf51) (x_pv_rowCount).toInt.toNat).2.2.1.toInt ≤ (p3).toInt + 1) := rk52n
      have w61 : (some (ra (x_pv_rowCount).toInt.toNat) : Option Nat) = some ((ra) (x_pv_rowCount).toInt.toNat) := rfl
      exact W.aret (v := va_rf (some (ra (x_pv_rowCount).toInt.toNat))) hx hb hr (Or.inl ⟨_, rfl⟩) (va_rf_or _) (fun t ht hW => ⟨⟨(some (ra (x_pv_rowCount).toInt.toNat)), (z36, f_rws, nr, ra, rf51), rfl, ⟨w53, w54, w55, w56, w57, w58, w59, w60, w61⟩, by rw [ht]; exact hP, hD⟩, hS.F ht⟩) hS.2.2 dX4_newRow_84

set_option maxHeartbeats 8000000 in
set_option maxRecDepth 100000 in
theorem c_X10_lengthOf (l : Launch) (dC : Nat → ClassId) (dI : Nat → Nat → Nat) (sz : Nat) (nr : Nat) (ra : Nat → Nat) (rf : Nat → RT) (nl : Nat) (la : Nat → Nat) (lf : Nat → LT) (ns : Nat) (sa : Nat → Nat) (sf : Nat → ST) (p1 : Option Nat) (k : Int) (q0 : k ≤ nl) (hn_pb : PB la k p1) : Met l yX10_lengthOf (Ws yX10_lengthOf cX10_lengthOf 1 (some .int)) (({ frames := 0, cells := 0, slots := 0, locals := 0 } : Room)) (PRE (dC, dI) cls [] (wp [] (PL nr ra rf nl la lf ns sa sf)) sz [va_rf p1]) (va_Qi (fun (r : Int32) (_ : Unit) => True) (fun (_ : Unit) (t : State) => va_P (dC, dI) cls (wp [] (PL nr ra rf nl la lf ns sa sf)) t.heap ∧ va_D (va_A (wp [] (PL nr ra rf nl la lf ns sa sf)) sz) (wp [] (PL nr ra rf nl la lf ns sa sf))) (va_A (wp [] (PL nr ra rf nl la lf ns sa sf)) sz)) (0) (0) (va_A (wp [] (PL nr ra rf nl la lf ns sa sf)) sz) := by
  rcases p1 with _ | b1
  · show Met l yX10_lengthOf (Ws yX10_lengthOf cX10_lengthOf 1 (some .int)) (({ frames := 0, cells := 0, slots := 0, locals := 0 } : Room)) (PRE (dC, dI) cls [] (wp [] (PL nr ra rf nl la lf ns sa sf)) sz [.null]) (va_Qi (fun (r : Int32) (_ : Unit) => True) (fun (_ : Unit) (t : State) => va_P (dC, dI) cls (wp [] (PL nr ra rf nl la lf ns sa sf)) t.heap ∧ va_D (va_A (wp [] (PL nr ra rf nl la lf ns sa sf)) sz) (wp [] (PL nr ra rf nl la lf ns sa sf))) (va_A (wp [] (PL nr ra rf nl la lf ns sa sf)) sz)) (0) (0) (va_A (wp [] (PL nr ra rf nl la lf ns sa sf)) sz)
    refine Met.ofW (cc := cX10_lengthOf) (maxL := 1) (ret := (some .int)) (by decide) rfl ?_
    intro p e s m args below meth c s₁ B hml hv
    obtain ⟨rfl, hsz, hP, hK, hD0, hN⟩ := hv
    have hx := B.exec
    have hb := B.bytes
    have hr := B.returns
    have hts := atoms_spec (ws := Ws yX10_lengthOf cX10_lengthOf 1 (some .int)) B.pre
    have hT : ∀ w ∈ WALL, w ∈ Ws yX10_lengthOf cX10_lengthOf 1 (some .int) := fun w h => List.mem_cons_of_mem _ h
    have hw := fun w (h : w ∈ WALL) => hts w (hT w h)
    have hown : s.vm.findClass RX10 = some m.cls := findClass_of_methodNamed B.named
    have hlocks := B.notSynchronized
    subst hsz
    have hD := hD0.self (sz := s.heap.size)
    generalize hAe : va_A (wp [] (PL nr ra rf nl la lf ns sa sf)) s.heap.size = A at hD ⊢
    have hA : ∀ q : Nat, s.heap.size ≤ q → A q := fun q h => by rw [← hAe]; exact Or.inr h
    have hS : va_S A s.heap s.heap [] := va_S.rf
    have hl := lv_entry ([.null]) (n := 1) (Nat.le_of_ble_eq_true rfl)
    rw [lg_entry_eq]
    generalize (lg_sl ([.null]) ++ List.replicate (1 - (lg_sl ([.null])).length) Slot.unset).toArray = ls at hl ⊢
    have hl : lv_has ls 1 [(0, .null)] := hl
    refine lv_aload_nN hx hb dX10_lengthOf_0 rfl (lv_at hl 0 rfl) ?_
    refine lv_ifnonnullN hx hb dX10_lengthOf_1 ?_
    refine lv_iconst (v := 0) hx hb dX10_lengthOf_4 (by decide) ?_
    refine lv_goto (tgt := 12) hx hb dX10_lengthOf_5 (by decide) ?_
    refine W.widen (k := 0) (n := 0) (Nat.le_of_ble_eq_true rfl) (Nat.le_of_ble_eq_true rfl) ?_
    have cst0 : (0 : Int32).toInt = 0 := by decide
    exact W.iret (v := 0) hx hb hr (fun t ht hW => ⟨⟨0, (), rfl, trivial, by rw [ht]; exact hP, hD⟩, hS.F ht⟩) hS.2.2 dX10_lengthOf_12
  · show Met l yX10_lengthOf (Ws yX10_lengthOf cX10_lengthOf 1 (some .int)) (({ frames := 0, cells := 0, slots := 0, locals := 0 } : Room)) (PRE (dC, dI) cls [] (wp [] (PL nr ra rf nl la lf ns sa sf)) sz [.ref b1]) (va_Qi (fun (r : Int32) (_ : Unit) => True) (fun (_ : Unit) (t : State) => va_P (dC, dI) cls (wp [] (PL nr ra rf nl la lf ns sa sf)) t.heap ∧ va_D (va_A (wp [] (PL nr ra rf nl la lf ns sa sf)) sz) (wp [] (PL nr ra rf nl la lf ns sa sf))) (va_A (wp [] (PL nr ra rf nl la lf ns sa sf)) sz)) (0) (0) (va_A (wp [] (PL nr ra rf nl la lf ns sa sf)) sz)
    refine Met.ofW (cc := cX10_lengthOf) (maxL := 1) (ret := (some .int)) (by decide) rfl ?_
    intro p e s m args below meth c s₁ B hml hv
    obtain ⟨rfl, hsz, hP, hK, hD0, hN⟩ := hv
    have hx := B.exec
    have hb := B.bytes
    have hr := B.returns
    have hts := atoms_spec (ws := Ws yX10_lengthOf cX10_lengthOf 1 (some .int)) B.pre
    have hT : ∀ w ∈ WALL, w ∈ Ws yX10_lengthOf cX10_lengthOf 1 (some .int) := fun w h => List.mem_cons_of_mem _ h
    have hw := fun w (h : w ∈ WALL) => hts w (hT w h)
    have hown : s.vm.findClass RX10 = some m.cls := findClass_of_methodNamed B.named
    have hlocks := B.notSynchronized
    subst hsz
    have hD := hD0.self (sz := s.heap.size)
    generalize hAe : va_A (wp [] (PL nr ra rf nl la lf ns sa sf)) s.heap.size = A at hD ⊢
    have hA : ∀ q : Nat, s.heap.size ≤ q → A q := fun q h => by rw [← hAe]; exact Or.inr h
    have hS : va_S A s.heap s.heap [] := va_S.rf
    have hl := lv_entry ([.ref b1]) (n := 1) (Nat.le_of_ble_eq_true rfl)
    rw [lg_entry_eq]
    generalize (lg_sl ([.ref b1]) ++ List.replicate (1 - (lg_sl ([.ref b1])).length) Slot.unset).toArray = ls at hl ⊢
    have hl : lv_has ls 1 [(0, .ref b1)] := hl
    obtain ⟨qq1, hqq1, eqq1⟩ := Or.resolve_left hn_pb (by simp)
    obtain rfl : b1 = la qq1 := Option.some.inj eqq1
    refine lv_aload_n hx hb dX10_lengthOf_0 rfl (lv_at hl 0 rfl) ?_
    refine lv_ifnonnull (tgt := 8) hx hb dX10_lengthOf_1 (by decide) ?_
    refine lv_aload_n hx hb dX10_lengthOf_8 rfl (lv_at hl 0 rfl) ?_
    refine va_getN (D := (dC, dI)) (ci := 10) (v := .int (lf qq1).2.2.1) (C := RX2) (T := TX2) (N := 4) (host := "OppositePairs") hx hb hw iwX2 hown hK hP (0 + (nr + qq1)) (pl_L (X := []) (by omega)) rfl 2 (by decide) (hN.use n_f_X10_280 rfl) (fun _ h9 => h9) rfl dX10_lengthOf_9 ?_
    refine lv_topi (fun z2 ez2 => ?_)
    have vz2 : (z2).toInt = ((lf qq1).2.2.1).toInt := by rw [ez2]
    refine W.widen (k := 0) (n := 0) (Nat.le_of_ble_eq_true rfl) (Nat.le_of_ble_eq_true rfl) ?_
    exact W.iret (v := z2) hx hb hr (fun t ht hW => ⟨⟨z2, (), rfl, trivial, by rw [ht]; exact hP, hD⟩, hS.F ht⟩) hS.2.2 dX10_lengthOf_12

set_option maxHeartbeats 8000000 in
set_option maxRecDepth 100000 in
theorem c_X4_newLink (l : Launch) (dC : Nat → ClassId) (dI : Nat → Nat → Nat) (sz : Nat) (h_pv : Nat) (h_lks : Nat) (nr : Nat) (ra : Nat → Nat) (rf : Nat → RT) (nl : Nat) (la : Nat → Nat) (lf : Nat → LT) (ns : Nat) (sa : Nat → Nat) (sf : Nat → ST) (v_pv : Nat → Value) (x_pv_linkCount : Int32) (cy_lks : ClassId) (f_lks : Nat → Option Nat) (p1 : Int32) (p2 : Int32) (p3 : Option Nat) (hx_pv_linkCount : 0 ≤ (x_pv_linkCount).toInt ∧ (x_pv_linkCount).toInt ≤ 210) (q0 : 0 ≤ (p1).toInt ∧ (p1).toInt ≤ 29) (q1 : 0 ≤ (p2).toInt ∧ (p2).toInt ≤ 5) (q2 : (x_pv_linkCount).toInt ≤ 209) (q3 : (x_pv_linkCount).toInt ≤ nl) (hn_pk : PFX nl 210 f_lks la) (hn_lok : LOK nl la lf) (hn_pb : PB la (x_pv_linkCount).toInt p3) : Met l yX4_newLink (Ws yX4_newLink cX4_newLink 6 (some (.object "OppositePairs$Link"))) (({ frames := 2, cells := ((x_pv_linkCount).toInt.toNat + 1 - nl), slots := 4 * ((x_pv_linkCount).toInt.toNat + 1 - nl), locals := 100 } : Room)) (PRE (dC, dI) cls [(cy_lks, .object "OppositePairs$Link")] (wp [(h_pv, .inr (3, (mo176 v_pv (.ref h_lks) (.int x_pv_linkCount)))), (h_lks, .inl (cy_lks, 210, .inr (.inr (.inr (.inr f_lks)))))] (PL nr ra rf nl la lf ns sa sf)) sz [.ref h_pv, .int p1, .int p2, va_rf p3]) (va_Qq (fun (r : Option Nat) (u : (Int32) × (Nat → Option Nat) × (Nat) × (Nat → Nat) × (Nat → LT)) => (0 ≤ (u.1).toInt ∧ (u.1).toInt ≤ 210) ∧ ((u.1).toInt = (x_pv_linkCount).toInt + 1) ∧ (nl ≤ u.2.2.1 ∧ (x_pv_linkCount).toInt + 1 ≤ u.2.2.1) ∧ (GR2 nl u.2.2.1 (u.1).toInt) ∧ (PFX u.2.2.1 210 u.2.1 u.2.2.2.1) ∧ (LOK u.2.2.1 u.2.2.2.1 u.2.2.2.2) ∧ (∀ i : Nat, i < nl → u.2.2.2.1 i = la i) ∧ (∀ i : Nat, i ≠ (x_pv_linkCount).toInt.toNat → u.2.2.2.2 i = lf i) ∧ (r = some (u.2.2.2.1 (x_pv_linkCount).toInt.toNat))) (fun (u : (Int32) × (Nat → Option Nat) × (Nat) × (Nat → Nat) × (Nat → LT)) (t : State) => va_P (dC, dI) cls (wp [(h_pv, .inr (3, (mo176 v_pv (.ref h_lks) (.int u.1)))), (h_lks, .inl (cy_lks, 210, .inr (.inr (.inr (.inr u.2.1)))))] (PL nr ra rf u.2.2.1 u.2.2.2.1 u.2.2.2.2 ns sa sf)) t.heap ∧ va_D (va_A (wp [(h_pv, .inr (3, (mo176 v_pv (.ref h_lks) (.int x_pv_linkCount)))), (h_lks, .inl (cy_lks, 210, .inr (.inr (.inr (.inr f_lks)))))] (PL nr ra rf nl la lf ns sa sf)) sz) (wp [(h_pv, .inr (3, (mo176 v_pv (.ref h_lks) (.int u.1)))), (h_lks, .inl (cy_lks, 210, .inr (.inr (.inr (.inr u.2.1)))))] (PL nr ra rf u.2.2.1 u.2.2.2.1 u.2.2.2.2 ns sa sf))) (va_A (wp [(h_pv, .inr (3, (mo176 v_pv (.ref h_lks) (.int x_pv_linkCount)))), (h_lks, .inl (cy_lks, 210, .inr (.inr (.inr (.inr f_lks)))))] (PL nr ra rf nl la lf ns sa sf)) sz)) (((x_pv_linkCount).toInt.toNat + 1 - nl)) (4 * ((x_pv_linkCount).toInt.toNat + 1 - nl)) (va_A (wp [(h_pv, .inr (3, (mo176 v_pv (.ref h_lks) (.int x_pv_linkCount)))), (h_lks, .inl (cy_lks, 210, .inr (.inr (.inr (.inr f_lks)))))] (PL nr ra rf nl la lf ns sa sf)) sz) := by
  rcases p3 with _ | b1
  · show Met l yX4_newLink (Ws yX4_newLink cX4_newLink 6 (some (.object "OppositePairs$Link"))) (({ frames := 2, cells := ((x_pv_linkCount).toInt.toNat + 1 - nl), slots := 4 * ((x_pv_linkCount).toInt.toNat + 1 - nl), locals := 100 } : Room)) (PRE (dC, dI) cls [(cy_lks, .object "OppositePairs$Link")] (wp [(h_pv, .inr (3, (mo176 v_pv (.ref h_lks) (.int x_pv_linkCount)))), (h_lks, .inl (cy_lks, 210, .inr (.inr (.inr (.inr f_lks)))))] (PL nr ra rf nl la lf ns sa sf)) sz [.ref h_pv, .int p1, .int p2, .null]) (va_Qq (fun (r : Option Nat) (u : (Int32) × (Nat → Option Nat) × (Nat) × (Nat → Nat) × (Nat → LT)) => (0 ≤ (u.1).toInt ∧ (u.1).toInt ≤ 210) ∧ ((u.1).toInt = (x_pv_linkCount).toInt + 1) ∧ (nl ≤ u.2.2.1 ∧ (x_pv_linkCount).toInt + 1 ≤ u.2.2.1) ∧ (GR2 nl u.2.2.1 (u.1).toInt) ∧ (PFX u.2.2.1 210 u.2.1 u.2.2.2.1) ∧ (LOK u.2.2.1 u.2.2.2.1 u.2.2.2.2) ∧ (∀ i : Nat, i < nl → u.2.2.2.1 i = la i) ∧ (∀ i : Nat, i ≠ (x_pv_linkCount).toInt.toNat → u.2.2.2.2 i = lf i) ∧ (r = some (u.2.2.2.1 (x_pv_linkCount).toInt.toNat))) (fun (u : (Int32) × (Nat → Option Nat) × (Nat) × (Nat → Nat) × (Nat → LT)) (t : State) => va_P (dC, dI) cls (wp [(h_pv, .inr (3, (mo176 v_pv (.ref h_lks) (.int u.1)))), (h_lks, .inl (cy_lks, 210, .inr (.inr (.inr (.inr u.2.1)))))] (PL nr ra rf u.2.2.1 u.2.2.2.1 u.2.2.2.2 ns sa sf)) t.heap ∧ va_D (va_A (wp [(h_pv, .inr (3, (mo176 v_pv (.ref h_lks) (.int x_pv_linkCount)))), (h_lks, .inl (cy_lks, 210, .inr (.inr (.inr (.inr f_lks)))))] (PL nr ra rf nl la lf ns sa sf)) sz) (wp [(h_pv, .inr (3, (mo176 v_pv (.ref h_lks) (.int u.1)))), (h_lks, .inl (cy_lks, 210, .inr (.inr (.inr (.inr u.2.1)))))] (PL nr ra rf u.2.2.1 u.2.2.2.1 u.2.2.2.2 ns sa sf))) (va_A (wp [(h_pv, .inr (3, (mo176 v_pv (.ref h_lks) (.int x_pv_linkCount)))), (h_lks, .inl (cy_lks, 210, .inr (.inr (.inr (.inr f_lks)))))] (PL nr ra rf nl la lf ns sa sf)) sz)) (((x_pv_linkCount).toInt.toNat + 1 - nl)) (4 * ((x_pv_linkCount).toInt.toNat + 1 - nl)) (va_A (wp [(h_pv, .inr (3, (mo176 v_pv (.ref h_lks) (.int x_pv_linkCount)))), (h_lks, .inl (cy_lks, 210, .inr (.inr (.inr (.inr f_lks)))))] (PL nr ra rf nl la lf ns sa sf)) sz)
    refine Met.ofW (cc := cX4_newLink) (maxL := 6) (ret := (some (.object "OppositePairs$Link"))) (by decide) rfl ?_
    intro p e s m args below meth c s₁ B hml hv
    obtain ⟨rfl, hsz, hP, hK, hD0, hN⟩ := hv
    have hx := B.exec
    have hb := B.bytes
    have hr := B.returns
    have hts := atoms_spec (ws := Ws yX4_newLink cX4_newLink 6 (some (.object "OppositePairs$Link"))) B.pre
    have hT : ∀ w ∈ WALL, w ∈ Ws yX4_newLink cX4_newLink 6 (some (.object "OppositePairs$Link")) := fun w h => List.mem_cons_of_mem _ h
    have hw := fun w (h : w ∈ WALL) => hts w (hT w h)
    have hown : s.vm.findClass RX4 = some m.cls := findClass_of_methodNamed B.named
    have hlocks := B.notSynchronized
    subst hsz
    have hD := hD0.self (sz := s.heap.size)
    generalize hAe : va_A (wp [(h_pv, .inr (3, (mo176 v_pv (.ref h_lks) (.int x_pv_linkCount)))), (h_lks, .inl (cy_lks, 210, .inr (.inr (.inr (.inr f_lks)))))] (PL nr ra rf nl la lf ns sa sf)) s.heap.size = A at hD ⊢
    have hA : ∀ q : Nat, s.heap.size ≤ q → A q := fun q h => by rw [← hAe]; exact Or.inr h
    have hS : va_S A s.heap s.heap [] := va_S.rf
    have hl := lv_entry ([.ref h_pv, .int p1, .int p2, .null]) (n := 6) (Nat.le_of_ble_eq_true rfl)
    rw [lg_entry_eq]
    generalize (lg_sl ([.ref h_pv, .int p1, .int p2, .null]) ++ List.replicate (6 - (lg_sl ([.ref h_pv, .int p1, .int p2, .null])).length) Slot.unset).toArray = ls at hl ⊢
    have hl : lv_has ls 6 [(0, .ref h_pv), (1, .int p1), (2, .int p2), (3, .null)] := hl
    have ag0 : ∀ i : Nat, i < nl → la i = la i := fun _ _ => rfl
    have af0 : ∀ i : Nat, i ≠ (x_pv_linkCount).toInt.toNat → lf i = lf i := fun _ _ => rfl
    refine lv_aload_n hx hb dX4_newLink_0 rfl (lv_at hl 0 rfl) ?_
    refine va_get (D := (dC, dI)) (ci := 3) (v := .int x_pv_linkCount) (C := RX4) (T := TX4) (N := 18) hx hb hw iwX4 hown hK hP 0 rfl rfl 5 (by decide) (hw _ w_f_X4_104) (fun _ h9 => h9) rfl dX4_newLink_1 ?_
    refine lv_sipush (v := 209) hx hb dX4_newLink_4 (by decide) ?_
    refine va_mmin hx hb (hml.trans hl.1.symm) hown (hw _ w_m_X4_274) (hw _ w_mst_min) (hw _ w_ini_Math) (hw _ w_mcd_min) (Nat.le_of_ble_eq_true rfl) (Nat.le_of_ble_eq_true rfl) (Nat.le_of_ble_eq_true rfl) (Nat.le_of_ble_eq_true rfl) dX4_newLink_7 ?_
    refine lv_topi (fun z1 ez1 => ?_)
    have tz1 := i_min (x := x_pv_linkCount) (y := 209) (rfl : (x_pv_linkCount).toInt = (x_pv_linkCount).toInt) (by decide : (209 : Int32).toInt = 209)
    rw [← ez1] at tz1
    refine lv_istore (lv' := [(4, .int z1), (0, .ref h_pv), (1, .int p1), (2, .int p2), (3, .null)]) hx hb dX4_newLink_10 hl (by decide) rfl (fun ls hl => ?_)
    refine lv_aload_n hx hb dX4_newLink_12 rfl (lv_at hl 1 rfl) ?_
    refine va_get (D := (dC, dI)) (ci := 3) (v := .ref h_lks) (C := RX4) (T := TX4) (N := 18) hx hb hw iwX4 hown hK hP 0 rfl rfl 4 (by decide) (hw _ w_f_X4_19) (fun _ h9 => h9) rfl dX4_newLink_13 ?_
    refine lv_iload hx hb dX4_newLink_16 (lv_at hl 0 rfl) ?_
    refine va_aldq hx hb hK hP 1 0 rfl rfl (i := z1) (vp_in_iff.mpr (by omega)) dX4_newLink_18 ?_
    obtain ⟨o2, eo2⟩ : ∃ o, o = f_lks (Int32.toNatClampNeg z1) := ⟨_, rfl⟩
    rw [← eo2]
    rcases o2 with _ | b3
    · have hl : lv_has ls 6 [(4, .int z1), (0, .ref h_pv), (1, .int p1), (2, .int p2), (3, .null)] := hl
      show W p l e _ s m _ below meth c _ _ _ _ _ (F0 m 19 ls [.null])
      have nq9 := pfx_none (k := z1) hn_pk (by omega) eo2
      refine lv_ifnonnullN hx hb dX4_newLink_19 ?_
      refine lv_aload_n hx hb dX4_newLink_22 rfl (lv_at hl 1 rfl) ?_
      refine va_get (D := (dC, dI)) (ci := 3) (v := .ref h_lks) (C := RX4) (T := TX4) (N := 18) hx hb hw iwX4 hown hK hP 0 rfl rfl 4 (by decide) (hw _ w_f_X4_19) (fun _ h9 => h9) rfl dX4_newLink_23 ?_
      refine lv_iload hx hb dX4_newLink_26 (lv_at hl 0 rfl) ?_
      refine va_new (ci := 10) (C := RX2) (T := TX2) (N := 4) (fs := [.int 0, .int 0, .int 0, .null]) hx hb hw iwX2 tyX2 tyX2_ok hown (hw _ w_cl_X4_17) (hw _ w_inst_X2) (hw _ w_ini_X2) hK hP hD hS hA rfl dfX2 (by dsimp only [headSpec]; omega) (by dsimp only [headSpec]; omega) dX4_newLink_28 (fun a4 H hP hD hS => ?_)
      have hP : va_P (dC, dI) cls (wp [(h_pv, .inr (3, (mo176 v_pv (.ref h_lks) (.int x_pv_linkCount)))), (h_lks, .inl (cy_lks, 210, .inr (.inr (.inr (.inr f_lks)))))] (PL nr ra rf (nl + 1) (va_up la nl a4) (va_up lf nl ((0 : Int32), (0 : Int32), (0 : Int32), none)) ns sa sf)) H := va_P_perm (pl_pushL (t := ((0 : Int32), (0 : Int32), (0 : Int32), none))) hP
      have hD : va_D A (wp [(h_pv, .inr (3, (mo176 v_pv (.ref h_lks) (.int x_pv_linkCount)))), (h_lks, .inl (cy_lks, 210, .inr (.inr (.inr (.inr f_lks)))))] (PL nr ra rf (nl + 1) (va_up la nl a4) (va_up lf nl ((0 : Int32), (0 : Int32), (0 : Int32), none)) ns sa sf)) := va_D_perm (pl_pushL (t := ((0 : Int32), (0 : Int32), (0 : Int32), none))) hD
      obtain ⟨nl5, enl5⟩ : ∃ g, g = (nl + 1) := ⟨_, rfl⟩
      obtain ⟨la6, ela6⟩ : ∃ g, g = (va_up la nl a4) := ⟨_, rfl⟩
      obtain ⟨lf7, elf7⟩ : ∃ g, g = (va_up lf nl ((0 : Int32), (0 : Int32), (0 : Int32), none)) := ⟨_, rfl⟩
      have hP : va_P (dC, dI) cls (wp [(h_pv, .inr (3, (mo176 v_pv (.ref h_lks) (.int x_pv_linkCount)))), (h_lks, .inl (cy_lks, 210, .inr (.inr (.inr (.inr f_lks)))))] (PL nr ra rf nl5 la6 lf7 ns sa sf)) H := by rw [enl5, ela6, elf7]; exact hP
      have hD : va_D A (wp [(h_pv, .inr (3, (mo176 v_pv (.ref h_lks) (.int x_pv_linkCount)))), (h_lks, .inl (cy_lks, 210, .inr (.inr (.inr (.inr f_lks)))))] (PL nr ra rf nl5 la6 lf7 ns sa sf)) := by rw [enl5, ela6, elf7]; exact hD
      have ea9 : la6 nl = a4 := by rw [ela6]; exact up_self _ _ _
      refine lv_dup hx hb dX4_newLink_31 rfl ?_
      have hPc := wp_P (cx := []) hP [] rfl
      have hDc := wp_D (cx := []) hD [] (by decide) rfl
      have hKc := hK.sub (tys' := []) [] rfl
      have hFc := wp_free (cx := []) hD hS hA [] rfl
      refine va_callv (va_runIN (As := []) (rest := [.ref a4, .int z1, .ref h_lks]) ⟨hx, hb, hml, hown, hts⟩ (c_X2_init l dC dI H.size a4) ⟨va_cnB (host := "OppositePairs") 0 hts (gd hT w_code_X2_init) rfl rfl rfl (hN _ n_m_X4_278) (hw _ w_ini_X2) (by decide +kernel) ⟨(by dsimp only [headSpec]; omega), (by dsimp only [headSpec]; omega)⟩, rfl, hw _ w_instanceMethod_X2_init⟩ ⟨pre_blind, pre_of hPc hKc hDc hN⟩ rfl rfl hl.1 rfl (lv_room (Nat.le_of_ble_eq_true rfl)) dX4_newLink_32 ⟨(by dsimp only [headSpec]; omega), (by dsimp only [headSpec]; omega)⟩) hS (fun q _ h => hFc q h) hFc (fun u t H locs ht hvm hq hB hz1 hk1 hS9 => ?_)
      obtain ⟨hP1, hD1⟩ := hB
      rw [ht] at hP1
      obtain ⟨hP9, hD9⟩ := va_joinQ (wr := [(h_pv, .inr (3, (mo176 v_pv (.ref h_lks) (.int x_pv_linkCount)))), (h_lks, .inl (cy_lks, 210, .inr (.inr (.inr (.inr f_lks)))))]) (w1 := []) (cx := []) hP hD [] [0, 1] rfl rfl (by decide) (by decide) hk1 hFc hP1 hD1
      clear hP hD hS hPc hDc hKc hFc hP1 hD1 hk1 hz1 ht hvm
      have hP : va_P (dC, dI) cls (wp [(h_pv, .inr (3, (mo176 v_pv (.ref h_lks) (.int x_pv_linkCount)))), (h_lks, .inl (cy_lks, 210, .inr (.inr (.inr (.inr f_lks)))))] (PL nr ra rf nl5 la6 lf7 ns sa sf)) H := hP9
      have hD : va_D A (wp [(h_pv, .inr (3, (mo176 v_pv (.ref h_lks) (.int x_pv_linkCount)))), (h_lks, .inl (cy_lks, 210, .inr (.inr (.inr (.inr f_lks)))))] (PL nr ra rf nl5 la6 lf7 ns sa sf)) := hD9
      have hS := hS9
      clear hP9 hD9 hS9
      refine va_astq hx hb hK hP hD hS 1 0 (2 + (nr + nl)) 10 rfl rfl (by rw [← ea9]; exact (pl_L (X := [(h_pv, .inr (3, (mo176 v_pv (.ref h_lks) (.int x_pv_linkCount)))), (h_lks, .inl (cy_lks, 210, .inr (.inr (.inr (.inr f_lks)))))]) (by omega))) rfl (i := z1) (vp_in_iff.mpr (by omega)) dX4_newLink_35 (fun H locs hP hD hS => ?_)
      obtain ⟨f9, ef9⟩ : ∃ g : Nat → Option Nat, g = va_up f_lks (Int32.toNatClampNeg z1) (some a4) := ⟨_, rfl⟩
      have hP : va_P (dC, dI) cls (wp [(h_pv, .inr (3, (mo176 v_pv (.ref h_lks) (.int x_pv_linkCount)))), (h_lks, .inl (cy_lks, 210, .inr (.inr (.inr (.inr f9)))))] (PL nr ra rf nl5 la6 lf7 ns sa sf)) H := by rw [ef9]; exact hP
      have hD : va_D A (wp [(h_pv, .inr (3, (mo176 v_pv (.ref h_lks) (.int x_pv_linkCount)))), (h_lks, .inl (cy_lks, 210, .inr (.inr (.inr (.inr f9)))))] (PL nr ra rf nl5 la6 lf7 ns sa sf)) := by rw [ef9]; exact hD
      have pk9 : PFX nl5 210 f9 la6 := by rw [enl5, ef9, ela6]; exact pfx_push hn_pk (by omega) (by omega)
      have lk9 : LOK nl5 la6 lf7 := by rw [enl5, ela6, elf7]; exact lok_push hn_lok
      have ag9 : ∀ i : Nat, i < nl → la6 i = la i := fun i hi => by rw [ela6]; exact up_ne (by omega)
      have af9 : ∀ i : Nat, i ≠ (x_pv_linkCount).toInt.toNat → lf7 i = lf i := fun i hi => by rw [elf7]; exact up_ne (by omega)
      refine lv_aload_n hx hb dX4_newLink_36 rfl (lv_at hl 1 rfl) ?_
      refine lv_iload hx hb dX4_newLink_37 (lv_at hl 0 rfl) ?_
      refine lv_iconst (v := 1) hx hb dX4_newLink_39 (by decide) ?_
      refine lv_iadd hx hb dX4_newLink_40 ?_
      refine lv_topi (fun z10 ez10 => ?_)
      have tz10 : (z10).toInt = (z1).toInt + 1 := by rw [ez10]; exact i_add rfl (by decide) (by omega)
      refine va_put (D := (dC, dI)) (ci := 3) (v := .int z10) (ty := tyX4 5) (C := RX4) (T := TX4) (N := 18) hx hb hw iwX4 tyX4 tyX4_ok nmX4 hown hK hP hD hS 0 rfl rfl 5 (by decide) (hw _ w_f_X4_104) (fun _ h9 => h9) rfl (tyX4_ok 5 (by decide)) rfl rfl (Nat.le_of_ble_eq_true rfl) dX4_newLink_41 (fun H locs hP9 hD9 hS9 => ?_)
      clear hP hD hS
      have hP : va_P (dC, dI) cls (wp [(h_pv, .inr (3, (mo176 v_pv (.ref h_lks) (.int z10)))), (h_lks, .inl (cy_lks, 210, .inr (.inr (.inr (.inr f9)))))] (PL nr ra rf nl5 la6 lf7 ns sa sf)) H := hP9
      have hD : va_D A (wp [(h_pv, .inr (3, (mo176 v_pv (.ref h_lks) (.int z10)))), (h_lks, .inl (cy_lks, 210, .inr (.inr (.inr (.inr f9)))))] (PL nr ra rf nl5 la6 lf7 ns sa sf)) := hD9
      have hS := hS9
      clear hP9 hD9 hS9
      refine lv_aload_n hx hb dX4_newLink_44 rfl (lv_at hl 1 rfl) ?_
      refine va_get (D := (dC, dI)) (ci := 3) (v := .ref h_lks) (C := RX4) (T := TX4) (N := 18) hx hb hw iwX4 hown hK hP 0 rfl rfl 4 (by decide) (hw _ w_f_X4_19) (fun _ h9 => h9) rfl dX4_newLink_45 ?_
      refine lv_iload hx hb dX4_newLink_48 (lv_at hl 0 rfl) ?_
      refine va_aldq hx hb hK hP 1 0 rfl rfl (i := z1) (vp_in_iff.mpr (by omega)) dX4_newLink_50 ?_
      obtain ⟨o11, eo11⟩ : ∃ o, o = f9 (Int32.toNatClampNeg z1) := ⟨_, rfl⟩
      rw [← eo11]
      have oq9 := pfx_at (k := z1) (i := (x_pv_linkCount).toInt.toNat) pk9 eo11 (by omega) (by omega)
      subst oq9
      show W p l e _ s m _ below meth c _ _ _ _ _ (F0 m 51 ls [.ref (la6 (x_pv_linkCount).toInt.toNat)])
      refine lv_astore (lv' := [(5, .ref (la6 (x_pv_linkCount).toInt.toNat)), (4, .int z1), (0, .ref h_pv), (1, .int p1), (2, .int p2), (3, .null)]) hx hb dX4_newLink_51 hl (by decide) rfl (fun ls hl => ?_)
      refine lv_aload hx hb dX4_newLink_53 (lv_at hl 0 rfl) ?_
      refine lv_iload_n hx hb dX4_newLink_55 rfl (lv_at hl 3 rfl) ?_
      refine va_putN (D := (dC, dI)) (ci := 10) (v := .int p1) (ty := tyX2 0) (C := RX2) (T := TX2) (N := 4) (host := "OppositePairs") hx hb hw iwX2 tyX2 tyX2_ok nmX2 hown hK hP hD hS (2 + (nr + (x_pv_linkCount).toInt.toNat)) (pl_L (X := [(h_pv, .inr (3, (mo176 v_pv (.ref h_lks) (.int z10)))), (h_lks, .inl (cy_lks, 210, .inr (.inr (.inr (.inr f9)))))]) (by omega)) rfl 0 (by decide) (hN.use n_f_X4_174 rfl) (fun _ h9 => h9) rfl (tyX2_ok 0 (by decide)) rfl rfl (Nat.le_of_ble_eq_true rfl) dX4_newLink_56 (fun H locs hP hD hS => ?_)
      have hP : va_P (dC, dI) cls (wp [(h_pv, .inr (3, (mo176 v_pv (.ref h_lks) (.int z10)))), (h_lks, .inl (cy_lks, 210, .inr (.inr (.inr (.inr f9)))))] (PL nr ra rf nl5 la6 (va_up lf7 (x_pv_linkCount).toInt.toNat (p1, (lf7 (x_pv_linkCount).toInt.toNat).2.1, (lf7 (x_pv_linkCount).toInt.toNat).2.2.1, (lf7 (x_pv_linkCount).toInt.toNat).2.2.2)) ns sa sf)) H := by rw [← pl_setL (i := (x_pv_linkCount).toInt.toNat) (by omega)]; exact hP
      have hD : va_D A (wp [(h_pv, .inr (3, (mo176 v_pv (.ref h_lks) (.int z10)))), (h_lks, .inl (cy_lks, 210, .inr (.inr (.inr (.inr f9)))))] (PL nr ra rf nl5 la6 (va_up lf7 (x_pv_linkCount).toInt.toNat (p1, (lf7 (x_pv_linkCount).toInt.toNat).2.1, (lf7 (x_pv_linkCount).toInt.toNat).2.2.1, (lf7 (x_pv_linkCount).toInt.toNat).2.2.2)) ns sa sf)) := by rw [← pl_setL (i := (x_pv_linkCount).toInt.toNat) (by omega)]; exact hD
      refine lv_aload hx hb dX4_newLink_59 (lv_at hl 0 rfl) ?_
      refine lv_iload_n hx hb dX4_newLink_61 rfl (lv_at hl 4 rfl) ?_
      refine va_putN (D := (dC, dI)) (ci := 10) (v := .int p2) (ty := tyX2 1) (C := RX2) (T := TX2) (N := 4) (host := "OppositePairs") hx hb hw iwX2 tyX2 tyX2_ok nmX2 hown hK hP hD hS (2 + (nr + (x_pv_linkCount).toInt.toNat)) (pl_L2 (X := [(h_pv, .inr (3, (mo176 v_pv (.ref h_lks) (.int z10)))), (h_lks, .inl (cy_lks, 210, .inr (.inr (.inr (.inr f9)))))]) (by omega)) rfl 1 (by decide) (hN.use n_f_X4_175 rfl) (fun _ h9 => h9) rfl (tyX2_ok 1 (by decide)) rfl rfl (Nat.le_of_ble_eq_true rfl) dX4_newLink_62 (fun H locs hP hD hS => ?_)
      have hP : va_P (dC, dI) cls (wp [(h_pv, .inr (3, (mo176 v_pv (.ref h_lks) (.int z10)))), (h_lks, .inl (cy_lks, 210, .inr (.inr (.inr (.inr f9)))))] (PL nr ra rf nl5 la6 (va_up lf7 (x_pv_linkCount).toInt.toNat (p1, p2, (lf7 (x_pv_linkCount).toInt.toNat).2.2.1, (lf7 (x_pv_linkCount).toInt.toNat).2.2.2)) ns sa sf)) H := by rw [← pl_setL2 (i := (x_pv_linkCount).toInt.toNat) (by omega)]; exact hP
      have hD : va_D A (wp [(h_pv, .inr (3, (mo176 v_pv (.ref h_lks) (.int z10)))), (h_lks, .inl (cy_lks, 210, .inr (.inr (.inr (.inr f9)))))] (PL nr ra rf nl5 la6 (va_up lf7 (x_pv_linkCount).toInt.toNat (p1, p2, (lf7 (x_pv_linkCount).toInt.toNat).2.2.1, (lf7 (x_pv_linkCount).toInt.toNat).2.2.2)) ns sa sf)) := by rw [← pl_setL2 (i := (x_pv_linkCount).toInt.toNat) (by omega)]; exact hD
      refine lv_aload hx hb dX4_newLink_65 (lv_at hl 0 rfl) ?_
      refine lv_aload_nN hx hb dX4_newLink_67 rfl (lv_at hl 5 rfl) ?_
      show W p l e _ s m _ below meth c _ _ _ _ _ (F0 m 68 _ (va_rf none :: _))
      refine va_putN (D := (dC, dI)) (ci := 10) (v := (va_rf none)) (ty := tyX2 3) (C := RX2) (T := TX2) (N := 4) (host := "OppositePairs") hx hb hw iwX2 tyX2 tyX2_ok nmX2 hown hK hP hD hS (2 + (nr + (x_pv_linkCount).toInt.toNat)) (pl_L2 (X := [(h_pv, .inr (3, (mo176 v_pv (.ref h_lks) (.int z10)))), (h_lks, .inl (cy_lks, 210, .inr (.inr (.inr (.inr f9)))))]) (by omega)) rfl 3 (by decide) (hN.use n_f_X4_181 rfl) (fun _ h9 => h9) rfl (tyX2_ok 3 (by decide)) (rf_nar none _) (rf_fit none _) (Nat.le_of_ble_eq_true rfl) dX4_newLink_68 (fun H locs hP hD hS => ?_)
      have hP : va_P (dC, dI) cls (wp [(h_pv, .inr (3, (mo176 v_pv (.ref h_lks) (.int z10)))), (h_lks, .inl (cy_lks, 210, .inr (.inr (.inr (.inr f9)))))] (PL nr ra rf nl5 la6 (va_up lf7 (x_pv_linkCount).toInt.toNat (p1, p2, (lf7 (x_pv_linkCount).toInt.toNat).2.2.1, none)) ns sa sf)) H := by rw [← pl_setL2 (i := (x_pv_linkCount).toInt.toNat) (by omega)]; exact hP
      have hD : va_D A (wp [(h_pv, .inr (3, (mo176 v_pv (.ref h_lks) (.int z10)))), (h_lks, .inl (cy_lks, 210, .inr (.inr (.inr (.inr f9)))))] (PL nr ra rf nl5 la6 (va_up lf7 (x_pv_linkCount).toInt.toNat (p1, p2, (lf7 (x_pv_linkCount).toInt.toNat).2.2.1, none)) ns sa sf)) := by rw [← pl_setL2 (i := (x_pv_linkCount).toInt.toNat) (by omega)]; exact hD
      refine lv_aload hx hb dX4_newLink_71 (lv_at hl 0 rfl) ?_
      refine lv_aload_nN hx hb dX4_newLink_73 rfl (lv_at hl 5 rfl) ?_
      obtain ⟨lf12, elf12⟩ : ∃ g, g = (va_up lf7 (x_pv_linkCount).toInt.toNat (p1, p2, (lf7 (x_pv_linkCount).toInt.toNat).2.2.1, none)) := ⟨_, rfl⟩
      have hP : va_P (dC, dI) cls (wp [(h_pv, .inr (3, (mo176 v_pv (.ref h_lks) (.int z10)))), (h_lks, .inl (cy_lks, 210, .inr (.inr (.inr (.inr f9)))))] (PL nr ra rf nl5 la6 lf12 ns sa sf)) H := by rw [elf12]; exact hP
      have hD : va_D A (wp [(h_pv, .inr (3, (mo176 v_pv (.ref h_lks) (.int z10)))), (h_lks, .inl (cy_lks, 210, .inr (.inr (.inr (.inr f9)))))] (PL nr ra rf nl5 la6 lf12 ns sa sf)) := by rw [elf12]; exact hD
      have slf12 : lf12 (x_pv_linkCount).toInt.toNat = (p1, p2, (lf7 (x_pv_linkCount).toInt.toNat).2.2.1, none) := by rw [elf12]; exact up_self _ _ _
      have olf12 : ∀ j : Nat, j ≠ (x_pv_linkCount).toInt.toNat → lf12 j = lf7 j := fun j hj => by rw [elf12]; exact up_ne hj
      have pb9 : PB la6 (x_pv_linkCount).toInt (none : Option Nat) := pb_mono hn_pb (by omega) (fun m hm => ag9 m (by omega))
      have hPc : va_P (dC, dI) cls (wp [] (PL nr ra rf nl5 la6 lf12 ns sa sf)) H := va_P.part (cx := []) hP [] rfl
      have hDc : va_D A (wp [] (PL nr ra rf nl5 la6 lf12 ns sa sf)) := va_D.part (cx := []) hD [] (by decide) rfl
      have hKc := hK.sub (tys' := []) [] rfl
      have hFc : ∀ q, va_A (wp [] (PL nr ra rf nl5 la6 lf12 ns sa sf)) H.size q → A q := va_freeP (cx := []) hD hS hA [] rfl
      refine va_calli (va_runSN (As := [.null]) (rest := [.ref (la6 (x_pv_linkCount).toInt.toNat)]) ⟨hx, hb, hml, hown, hts⟩ (c_X10_lengthOf l dC dI H.size nr ra rf nl5 la6 lf12 ns sa sf none (x_pv_linkCount).toInt (by omega) pb9) ⟨va_cnB (host := "OppositePairs") 1 hts (gd hT w_code_X10_lengthOf) rfl rfl rfl (hN _ n_m_X4_240) (hw _ w_ini_X10) (by decide +kernel) ⟨(by dsimp only [headSpec]; omega), (by dsimp only [headSpec]; omega)⟩, hw _ w_static_X10_lengthOf, trivial⟩ ⟨pre_blind, pre_of hPc hKc hDc hN⟩ rfl rfl hl.1 rfl (lv_room (Nat.le_of_ble_eq_true rfl)) dX4_newLink_74 ⟨(by dsimp only [headSpec]; omega), (by dsimp only [headSpec]; omega)⟩) hS (fun q _ h => hFc q h) hFc (fun r13 u t H locs ht hvm hq hB hz1 hk1 hS9 => ?_)
      obtain ⟨hP1, hD1⟩ := hB
      rw [ht] at hP1
      obtain ⟨hP9, hD9⟩ := va_joinP (wr := [(h_pv, .inr (3, (mo176 v_pv (.ref h_lks) (.int z10)))), (h_lks, .inl (cy_lks, 210, .inr (.inr (.inr (.inr f9)))))]) (rx := []) (cx := []) hP hD [] [0, 1] rfl rfl (by decide) (by decide) hk1 hFc hP1 hD1
      clear hP hD hS hPc hDc hKc hFc hP1 hD1 hk1 hz1 ht hvm
      have hP : va_P (dC, dI) cls (wp [(h_pv, .inr (3, (mo176 v_pv (.ref h_lks) (.int z10)))), (h_lks, .inl (cy_lks, 210, .inr (.inr (.inr (.inr f9)))))] (PL nr ra rf nl5 la6 lf12 ns sa sf)) H := hP9
      have hD : va_D A (wp [(h_pv, .inr (3, (mo176 v_pv (.ref h_lks) (.int z10)))), (h_lks, .inl (cy_lks, 210, .inr (.inr (.inr (.inr f9)))))] (PL nr ra rf nl5 la6 lf12 ns sa sf)) := hD9
      have hS := hS9
      clear hP9 hD9 hS9
      refine lv_iconst (v := 1) hx hb dX4_newLink_77 (by decide) ?_
      refine lv_iadd hx hb dX4_newLink_78 ?_
      refine lv_topi (fun z14 ez14 => ?_)
      refine va_putN (D := (dC, dI)) (ci := 10) (v := .int z14) (ty := tyX2 2) (C := RX2) (T := TX2) (N := 4) (host := "OppositePairs") hx hb hw iwX2 tyX2 tyX2_ok nmX2 hown hK hP hD hS (2 + (nr + (x_pv_linkCount).toInt.toNat)) (pl_L (X := [(h_pv, .inr (3, (mo176 v_pv (.ref h_lks) (.int z10)))), (h_lks, .inl (cy_lks, 210, .inr (.inr (.inr (.inr f9)))))]) (by omega)) rfl 2 (by decide) (hN.use n_f_X4_266 rfl) (fun _ h9 => h9) rfl (tyX2_ok 2 (by decide)) rfl rfl (Nat.le_of_ble_eq_true rfl) dX4_newLink_79 (fun H locs hP hD hS => ?_)
      have hP : va_P (dC, dI) cls (wp [(h_pv, .inr (3, (mo176 v_pv (.ref h_lks) (.int z10)))), (h_lks, .inl (cy_lks, 210, .inr (.inr (.inr (.inr f9)))))] (PL nr ra rf nl5 la6 (va_up lf12 (x_pv_linkCount).toInt.toNat ((lf12 (x_pv_linkCount).toInt.toNat).1, (lf12 (x_pv_linkCount).toInt.toNat).2.1, z14, (lf12 (x_pv_linkCount).toInt.toNat).2.2.2)) ns sa sf)) H := by rw [← pl_setL (i := (x_pv_linkCount).toInt.toNat) (by omega)]; exact hP
      have hD : va_D A (wp [(h_pv, .inr (3, (mo176 v_pv (.ref h_lks) (.int z10)))), (h_lks, .inl (cy_lks, 210, .inr (.inr (.inr (.inr f9)))))] (PL nr ra rf nl5 la6 (va_up lf12 (x_pv_linkCount).toInt.toNat ((lf12 (x_pv_linkCount).toInt.toNat).1, (lf12 (x_pv_linkCount).toInt.toNat).2.1, z14, (lf12 (x_pv_linkCount).toInt.toNat).2.2.2)) ns sa sf)) := by rw [← pl_setL (i := (x_pv_linkCount).toInt.toNat) (by omega)]; exact hD
      refine lv_aload hx hb dX4_newLink_82 (lv_at hl 0 rfl) ?_
      obtain ⟨lf15, elf15⟩ : ∃ g, g = (va_up lf12 (x_pv_linkCount).toInt.toNat ((lf12 (x_pv_linkCount).toInt.toNat).1, (lf12 (x_pv_linkCount).toInt.toNat).2.1, z14, (lf12 (x_pv_linkCount).toInt.toNat).2.2.2)) := ⟨_, rfl⟩
      have hP : va_P (dC, dI) cls (wp [(h_pv, .inr (3, (mo176 v_pv (.ref h_lks) (.int z10)))), (h_lks, .inl (cy_lks, 210, .inr (.inr (.inr (.inr f9)))))] (PL nr ra rf nl5 la6 lf15 ns sa sf)) H := by rw [elf15]; exact hP
      have hD : va_D A (wp [(h_pv, .inr (3, (mo176 v_pv (.ref h_lks) (.int z10)))), (h_lks, .inl (cy_lks, 210, .inr (.inr (.inr (.inr f9)))))] (PL nr ra rf nl5 la6 lf15 ns sa sf)) := by rw [elf15]; exact hD
      have slf15 : lf15 (x_pv_linkCount).toInt.toNat = ((lf12 (x_pv_linkCount).toInt.toNat).1, (lf12 (x_pv_linkCount).toInt.toNat).2.1, z14, (lf12 (x_pv_linkCount).toInt.toNat).2.2.2) := by rw [elf15]; exact up_self _ _ _
      have olf15 : ∀ j : Nat, j ≠ (x_pv_linkCount).toInt.toNat → lf15 j = lf12 j := fun j hj => by rw [elf15]; exact up_ne hj
      have lk16s : lf15 (x_pv_linkCount).toInt.toNat = (p1, p2, z14, (none : Option Nat)) := by rw [slf15, slf12]
      have lk16o : ∀ j : Nat, j ≠ (x_pv_linkCount).toInt.toNat → lf15 j = lf7 j := fun j hj => (olf15 j hj).trans (olf12 j hj)
      have lk16 : LOK nl5 la6 lf15 := lok_set lk9 lk16o lk16s (by omega) (by omega) (pb_mono pb9 (by omega) (fun m hm => rfl))
      have lk16n : ∀ i : Nat, i ≠ (x_pv_linkCount).toInt.toNat → lf15 i = lf i := fun i hi => (lk16o i hi).trans (af9 i hi)
      refine W.widen (k := ((x_pv_linkCount).toInt.toNat + 1 - nl)) (n := 4 * ((x_pv_linkCount).toInt.toNat + 1 - nl)) (by omega) (by omega) ?_
      have w17 : 0 ≤ ((z10)).toInt ∧ ((z10)).toInt ≤ 210 := by omega
      have w18 : ((z10)).toInt = (x_pv_linkCount).toInt + 1 := by omega
      have w19 : nl ≤ (nl5) ∧ (x_pv_linkCount).toInt + 1 ≤ (nl5) := by omega
      have w20 : GR2 nl (nl5) ((z10)).toInt := (gr2_up (by omega) (by omega))
      have w21 : PFX (nl5) 210 (f9) (la6) := pk9
      have w22 : LOK (nl5) (la6) (lf15) := lk16
      have w23 : ∀ i : Nat, i < nl → (la6) i = la i := ag9
      have w24 : ∀ i : Nat, i ≠ (x_pv_linkCount).toInt.toNat → (lf15) i = lf i := lk16n
      have w25 : (some (la6 (x_pv_linkCount).toInt.toNat) : Option Nat) = some ((la6) (x_pv_linkCount).toInt.toNat) := rfl
      exact W.aret (v := va_rf (some (la6 (x_pv_linkCount).toInt.toNat))) hx hb hr (Or.inl ⟨_, rfl⟩) (va_rf_or _) (fun t ht hW => ⟨⟨(some (la6 (x_pv_linkCount).toInt.toNat)), (z10, f9, nl5, la6, lf15), rfl, ⟨w17, w18, w19, w20, w21, w22, w23, w24, w25⟩, by rw [ht]; exact hP, hD⟩, hS.F ht⟩) hS.2.2 dX4_newLink_84
    · have hl : lv_has ls 6 [(4, .int z1), (0, .ref h_pv), (1, .int p1), (2, .int p2), (3, .null)] := hl
      show W p l e _ s m _ below meth c _ _ _ _ _ (F0 m 19 ls [.ref b3])
      have nq9 := pfx_some (k := z1) hn_pk (by omega) eo2
      refine lv_ifnonnull (tgt := 36) hx hb dX4_newLink_19 (by decide) ?_
      refine lv_aload_n hx hb dX4_newLink_36 rfl (lv_at hl 1 rfl) ?_
      refine lv_iload hx hb dX4_newLink_37 (lv_at hl 0 rfl) ?_
      refine lv_iconst (v := 1) hx hb dX4_newLink_39 (by decide) ?_
      refine lv_iadd hx hb dX4_newLink_40 ?_
      refine lv_topi (fun z26 ez26 => ?_)
      have tz26 : (z26).toInt = (z1).toInt + 1 := by rw [ez26]; exact i_add rfl (by decide) (by omega)
      refine va_put (D := (dC, dI)) (ci := 3) (v := .int z26) (ty := tyX4 5) (C := RX4) (T := TX4) (N := 18) hx hb hw iwX4 tyX4 tyX4_ok nmX4 hown hK hP hD hS 0 rfl rfl 5 (by decide) (hw _ w_f_X4_104) (fun _ h9 => h9) rfl (tyX4_ok 5 (by decide)) rfl rfl (Nat.le_of_ble_eq_true rfl) dX4_newLink_41 (fun H locs hP9 hD9 hS9 => ?_)
      clear hP hD hS
      have hP : va_P (dC, dI) cls (wp [(h_pv, .inr (3, (mo176 v_pv (.ref h_lks) (.int z26)))), (h_lks, .inl (cy_lks, 210, .inr (.inr (.inr (.inr f_lks)))))] (PL nr ra rf nl la lf ns sa sf)) H := hP9
      have hD : va_D A (wp [(h_pv, .inr (3, (mo176 v_pv (.ref h_lks) (.int z26)))), (h_lks, .inl (cy_lks, 210, .inr (.inr (.inr (.inr f_lks)))))] (PL nr ra rf nl la lf ns sa sf)) := hD9
      have hS := hS9
      clear hP9 hD9 hS9
      refine lv_aload_n hx hb dX4_newLink_44 rfl (lv_at hl 1 rfl) ?_
      refine va_get (D := (dC, dI)) (ci := 3) (v := .ref h_lks) (C := RX4) (T := TX4) (N := 18) hx hb hw iwX4 hown hK hP 0 rfl rfl 4 (by decide) (hw _ w_f_X4_19) (fun _ h9 => h9) rfl dX4_newLink_45 ?_
      refine lv_iload hx hb dX4_newLink_48 (lv_at hl 0 rfl) ?_
      refine va_aldq hx hb hK hP 1 0 rfl rfl (i := z1) (vp_in_iff.mpr (by omega)) dX4_newLink_50 ?_
      obtain ⟨o27, eo27⟩ : ∃ o, o = f_lks (Int32.toNatClampNeg z1) := ⟨_, rfl⟩
      rw [← eo27]
      have oq9 := pfx_at (k := z1) (i := (x_pv_linkCount).toInt.toNat) hn_pk eo27 (by omega) (by omega)
      subst oq9
      show W p l e _ s m _ below meth c _ _ _ _ _ (F0 m 51 ls [.ref (la (x_pv_linkCount).toInt.toNat)])
      refine lv_astore (lv' := [(5, .ref (la (x_pv_linkCount).toInt.toNat)), (4, .int z1), (0, .ref h_pv), (1, .int p1), (2, .int p2), (3, .null)]) hx hb dX4_newLink_51 hl (by decide) rfl (fun ls hl => ?_)
      refine lv_aload hx hb dX4_newLink_53 (lv_at hl 0 rfl) ?_
      refine lv_iload_n hx hb dX4_newLink_55 rfl (lv_at hl 3 rfl) ?_
      refine va_putN (D := (dC, dI)) (ci := 10) (v := .int p1) (ty := tyX2 0) (C := RX2) (T := TX2) (N := 4) (host := "OppositePairs") hx hb hw iwX2 tyX2 tyX2_ok nmX2 hown hK hP hD hS (2 + (nr + (x_pv_linkCount).toInt.toNat)) (pl_L (X := [(h_pv, .inr (3, (mo176 v_pv (.ref h_lks) (.int z26)))), (h_lks, .inl (cy_lks, 210, .inr (.inr (.inr (.inr f_lks)))))]) (by omega)) rfl 0 (by decide) (hN.use n_f_X4_174 rfl) (fun _ h9 => h9) rfl (tyX2_ok 0 (by decide)) rfl rfl (Nat.le_of_ble_eq_true rfl) dX4_newLink_56 (fun H locs hP hD hS => ?_)
      have hP : va_P (dC, dI) cls (wp [(h_pv, .inr (3, (mo176 v_pv (.ref h_lks) (.int z26)))), (h_lks, .inl (cy_lks, 210, .inr (.inr (.inr (.inr f_lks)))))] (PL nr ra rf nl la (va_up lf (x_pv_linkCount).toInt.toNat (p1, (lf (x_pv_linkCount).toInt.toNat).2.1, (lf (x_pv_linkCount).toInt.toNat).2.2.1, (lf (x_pv_linkCount).toInt.toNat).2.2.2)) ns sa sf)) H := by rw [← pl_setL (i := (x_pv_linkCount).toInt.toNat) (by omega)]; exact hP
      have hD : va_D A (wp [(h_pv, .inr (3, (mo176 v_pv (.ref h_lks) (.int z26)))), (h_lks, .inl (cy_lks, 210, .inr (.inr (.inr (.inr f_lks)))))] (PL nr ra rf nl la (va_up lf (x_pv_linkCount).toInt.toNat (p1, (lf (x_pv_linkCount).toInt.toNat).2.1, (lf (x_pv_linkCount).toInt.toNat).2.2.1, (lf (x_pv_linkCount).toInt.toNat).2.2.2)) ns sa sf)) := by rw [← pl_setL (i := (x_pv_linkCount).toInt.toNat) (by omega)]; exact hD
      refine lv_aload hx hb dX4_newLink_59 (lv_at hl 0 rfl) ?_
      refine lv_iload_n hx hb dX4_newLink_61 rfl (lv_at hl 4 rfl) ?_
      refine va_putN (D := (dC, dI)) (ci := 10) (v := .int p2) (ty := tyX2 1) (C := RX2) (T := TX2) (N := 4) (host := "OppositePairs") hx hb hw iwX2 tyX2 tyX2_ok nmX2 hown hK hP hD hS (2 + (nr + (x_pv_linkCount).toInt.toNat)) (pl_L2 (X := [(h_pv, .inr (3, (mo176 v_pv (.ref h_lks) (.int z26)))), (h_lks, .inl (cy_lks, 210, .inr (.inr (.inr (.inr f_lks)))))]) (by omega)) rfl 1 (by decide) (hN.use n_f_X4_175 rfl) (fun _ h9 => h9) rfl (tyX2_ok 1 (by decide)) rfl rfl (Nat.le_of_ble_eq_true rfl) dX4_newLink_62 (fun H locs hP hD hS => ?_)
      have hP : va_P (dC, dI) cls (wp [(h_pv, .inr (3, (mo176 v_pv (.ref h_lks) (.int z26)))), (h_lks, .inl (cy_lks, 210, .inr (.inr (.inr (.inr f_lks)))))] (PL nr ra rf nl la (va_up lf (x_pv_linkCount).toInt.toNat (p1, p2, (lf (x_pv_linkCount).toInt.toNat).2.2.1, (lf (x_pv_linkCount).toInt.toNat).2.2.2)) ns sa sf)) H := by rw [← pl_setL2 (i := (x_pv_linkCount).toInt.toNat) (by omega)]; exact hP
      have hD : va_D A (wp [(h_pv, .inr (3, (mo176 v_pv (.ref h_lks) (.int z26)))), (h_lks, .inl (cy_lks, 210, .inr (.inr (.inr (.inr f_lks)))))] (PL nr ra rf nl la (va_up lf (x_pv_linkCount).toInt.toNat (p1, p2, (lf (x_pv_linkCount).toInt.toNat).2.2.1, (lf (x_pv_linkCount).toInt.toNat).2.2.2)) ns sa sf)) := by rw [← pl_setL2 (i := (x_pv_linkCount).toInt.toNat) (by omega)]; exact hD
      refine lv_aload hx hb dX4_newLink_65 (lv_at hl 0 rfl) ?_
      refine lv_aload_nN hx hb dX4_newLink_67 rfl (lv_at hl 5 rfl) ?_
      show W p l e _ s m _ below meth c _ _ _ _ _ (F0 m 68 _ (va_rf none :: _))
      refine va_putN (D := (dC, dI)) (ci := 10) (v := (va_rf none)) (ty := tyX2 3) (C := RX2) (T := TX2) (N := 4) (host := "OppositePairs") hx hb hw iwX2 tyX2 tyX2_ok nmX2 hown hK hP hD hS (2 + (nr + (x_pv_linkCount).toInt.toNat)) (pl_L2 (X := [(h_pv, .inr (3, (mo176 v_pv (.ref h_lks) (.int z26)))), (h_lks, .inl (cy_lks, 210, .inr (.inr (.inr (.inr f_lks)))))]) (by omega)) rfl 3 (by decide) (hN.use n_f_X4_181 rfl) (fun _ h9 => h9) rfl (tyX2_ok 3 (by decide)) (rf_nar none _) (rf_fit none _) (Nat.le_of_ble_eq_true rfl) dX4_newLink_68 (fun H locs hP hD hS => ?_)
      have hP : va_P (dC, dI) cls (wp [(h_pv, .inr (3, (mo176 v_pv (.ref h_lks) (.int z26)))), (h_lks, .inl (cy_lks, 210, .inr (.inr (.inr (.inr f_lks)))))] (PL nr ra rf nl la (va_up lf (x_pv_linkCount).toInt.toNat (p1, p2, (lf (x_pv_linkCount).toInt.toNat).2.2.1, none)) ns sa sf)) H := by rw [← pl_setL2 (i := (x_pv_linkCount).toInt.toNat) (by omega)]; exact hP
      have hD : va_D A (wp [(h_pv, .inr (3, (mo176 v_pv (.ref h_lks) (.int z26)))), (h_lks, .inl (cy_lks, 210, .inr (.inr (.inr (.inr f_lks)))))] (PL nr ra rf nl la (va_up lf (x_pv_linkCount).toInt.toNat (p1, p2, (lf (x_pv_linkCount).toInt.toNat).2.2.1, none)) ns sa sf)) := by rw [← pl_setL2 (i := (x_pv_linkCount).toInt.toNat) (by omega)]; exact hD
      refine lv_aload hx hb dX4_newLink_71 (lv_at hl 0 rfl) ?_
      refine lv_aload_nN hx hb dX4_newLink_73 rfl (lv_at hl 5 rfl) ?_
      obtain ⟨lf28, elf28⟩ : ∃ g, g = (va_up lf (x_pv_linkCount).toInt.toNat (p1, p2, (lf (x_pv_linkCount).toInt.toNat).2.2.1, none)) := ⟨_, rfl⟩
      have hP : va_P (dC, dI) cls (wp [(h_pv, .inr (3, (mo176 v_pv (.ref h_lks) (.int z26)))), (h_lks, .inl (cy_lks, 210, .inr (.inr (.inr (.inr f_lks)))))] (PL nr ra rf nl la lf28 ns sa sf)) H := by rw [elf28]; exact hP
      have hD : va_D A (wp [(h_pv, .inr (3, (mo176 v_pv (.ref h_lks) (.int z26)))), (h_lks, .inl (cy_lks, 210, .inr (.inr (.inr (.inr f_lks)))))] (PL nr ra rf nl la lf28 ns sa sf)) := by rw [elf28]; exact hD
      have slf28 : lf28 (x_pv_linkCount).toInt.toNat = (p1, p2, (lf (x_pv_linkCount).toInt.toNat).2.2.1, none) := by rw [elf28]; exact up_self _ _ _
      have olf28 : ∀ j : Nat, j ≠ (x_pv_linkCount).toInt.toNat → lf28 j = lf j := fun j hj => by rw [elf28]; exact up_ne hj
      have pb9 : PB la (x_pv_linkCount).toInt (none : Option Nat) := pb_mono hn_pb (by omega) (fun m hm => ag0 m (by omega))
      have hPc : va_P (dC, dI) cls (wp [] (PL nr ra rf nl la lf28 ns sa sf)) H := va_P.part (cx := []) hP [] rfl
      have hDc : va_D A (wp [] (PL nr ra rf nl la lf28 ns sa sf)) := va_D.part (cx := []) hD [] (by decide) rfl
      have hKc := hK.sub (tys' := []) [] rfl
      have hFc : ∀ q, va_A (wp [] (PL nr ra rf nl la lf28 ns sa sf)) H.size q → A q := va_freeP (cx := []) hD hS hA [] rfl
      refine va_calli (va_runSN (As := [.null]) (rest := [.ref (la (x_pv_linkCount).toInt.toNat)]) ⟨hx, hb, hml, hown, hts⟩ (c_X10_lengthOf l dC dI H.size nr ra rf nl la lf28 ns sa sf none (x_pv_linkCount).toInt (by first | exact q3 | omega) pb9) ⟨va_cnB (host := "OppositePairs") 1 hts (gd hT w_code_X10_lengthOf) rfl rfl rfl (hN _ n_m_X4_240) (hw _ w_ini_X10) (by decide +kernel) ⟨(by dsimp only [headSpec]; omega), (by dsimp only [headSpec]; omega)⟩, hw _ w_static_X10_lengthOf, trivial⟩ ⟨pre_blind, pre_of hPc hKc hDc hN⟩ rfl rfl hl.1 rfl (lv_room (Nat.le_of_ble_eq_true rfl)) dX4_newLink_74 ⟨(by dsimp only [headSpec]; omega), (by dsimp only [headSpec]; omega)⟩) hS (fun q _ h => hFc q h) hFc (fun r29 u t H locs ht hvm hq hB hz1 hk1 hS9 => ?_)
      obtain ⟨hP1, hD1⟩ := hB
      rw [ht] at hP1
      obtain ⟨hP9, hD9⟩ := va_joinP (wr := [(h_pv, .inr (3, (mo176 v_pv (.ref h_lks) (.int z26)))), (h_lks, .inl (cy_lks, 210, .inr (.inr (.inr (.inr f_lks)))))]) (rx := []) (cx := []) hP hD [] [0, 1] rfl rfl (by decide) (by decide) hk1 hFc hP1 hD1
      clear hP hD hS hPc hDc hKc hFc hP1 hD1 hk1 hz1 ht hvm
      have hP : va_P (dC, dI) cls (wp [(h_pv, .inr (3, (mo176 v_pv (.ref h_lks) (.int z26)))), (h_lks, .inl (cy_lks, 210, .inr (.inr (.inr (.inr f_lks)))))] (PL nr ra rf nl la lf28 ns sa sf)) H := hP9
      have hD : va_D A (wp [(h_pv, .inr (3, (mo176 v_pv (.ref h_lks) (.int z26)))), (h_lks, .inl (cy_lks, 210, .inr (.inr (.inr (.inr f_lks)))))] (PL nr ra rf nl la lf28 ns sa sf)) := hD9
      have hS := hS9
      clear hP9 hD9 hS9
      refine lv_iconst (v := 1) hx hb dX4_newLink_77 (by decide) ?_
      refine lv_iadd hx hb dX4_newLink_78 ?_
      refine lv_topi (fun z30 ez30 => ?_)
      refine va_putN (D := (dC, dI)) (ci := 10) (v := .int z30) (ty := tyX2 2) (C := RX2) (T := TX2) (N := 4) (host := "OppositePairs") hx hb hw iwX2 tyX2 tyX2_ok nmX2 hown hK hP hD hS (2 + (nr + (x_pv_linkCount).toInt.toNat)) (pl_L (X := [(h_pv, .inr (3, (mo176 v_pv (.ref h_lks) (.int z26)))), (h_lks, .inl (cy_lks, 210, .inr (.inr (.inr (.inr f_lks)))))]) (by omega)) rfl 2 (by decide) (hN.use n_f_X4_266 rfl) (fun _ h9 => h9) rfl (tyX2_ok 2 (by decide)) rfl rfl (Nat.le_of_ble_eq_true rfl) dX4_newLink_79 (fun H locs hP hD hS => ?_)
      have hP : va_P (dC, dI) cls (wp [(h_pv, .inr (3, (mo176 v_pv (.ref h_lks) (.int z26)))), (h_lks, .inl (cy_lks, 210, .inr (.inr (.inr (.inr f_lks)))))] (PL nr ra rf nl la (va_up lf28 (x_pv_linkCount).toInt.toNat ((lf28 (x_pv_linkCount).toInt.toNat).1, (lf28 (x_pv_linkCount).toInt.toNat).2.1, z30, (lf28 (x_pv_linkCount).toInt.toNat).2.2.2)) ns sa sf)) H := by rw [← pl_setL (i := (x_pv_linkCount).toInt.toNat) (by omega)]; exact hP
      have hD : va_D A (wp [(h_pv, .inr (3, (mo176 v_pv (.ref h_lks) (.int z26)))), (h_lks, .inl (cy_lks, 210, .inr (.inr (.inr (.inr f_lks)))))] (PL nr ra rf nl la (va_up lf28 (x_pv_linkCount).toInt.toNat ((lf28 (x_pv_linkCount).toInt.toNat).1, (lf28 (x_pv_linkCount).toInt.toNat).2.1, z30, (lf28 (x_pv_linkCount).toInt.toNat).2.2.2)) ns sa sf)) := by rw [← pl_setL (i := (x_pv_linkCount).toInt.toNat) (by omega)]; exact hD
      refine lv_aload hx hb dX4_newLink_82 (lv_at hl 0 rfl) ?_
      obtain ⟨lf31, elf31⟩ : ∃ g, g = (va_up lf28 (x_pv_linkCount).toInt.toNat ((lf28 (x_pv_linkCount).toInt.toNat).1, (lf28 (x_pv_linkCount).toInt.toNat).2.1, z30, (lf28 (x_pv_linkCount).toInt.toNat).2.2.2)) := ⟨_, rfl⟩
      have hP : va_P (dC, dI) cls (wp [(h_pv, .inr (3, (mo176 v_pv (.ref h_lks) (.int z26)))), (h_lks, .inl (cy_lks, 210, .inr (.inr (.inr (.inr f_lks)))))] (PL nr ra rf nl la lf31 ns sa sf)) H := by rw [elf31]; exact hP
      have hD : va_D A (wp [(h_pv, .inr (3, (mo176 v_pv (.ref h_lks) (.int z26)))), (h_lks, .inl (cy_lks, 210, .inr (.inr (.inr (.inr f_lks)))))] (PL nr ra rf nl la lf31 ns sa sf)) := by rw [elf31]; exact hD
      have slf31 : lf31 (x_pv_linkCount).toInt.toNat = ((lf28 (x_pv_linkCount).toInt.toNat).1, (lf28 (x_pv_linkCount).toInt.toNat).2.1, z30, (lf28 (x_pv_linkCount).toInt.toNat).2.2.2) := by rw [elf31]; exact up_self _ _ _
      have olf31 : ∀ j : Nat, j ≠ (x_pv_linkCount).toInt.toNat → lf31 j = lf28 j := fun j hj => by rw [elf31]; exact up_ne hj
      have lk32s : lf31 (x_pv_linkCount).toInt.toNat = (p1, p2, z30, (none : Option Nat)) := by rw [slf31, slf28]
      have lk32o : ∀ j : Nat, j ≠ (x_pv_linkCount).toInt.toNat → lf31 j = lf j := fun j hj => (olf31 j hj).trans (olf28 j hj)
      have lk32 : LOK nl la lf31 := lok_set hn_lok lk32o lk32s (by omega) (by omega) (pb_mono pb9 (by omega) (fun m hm => rfl))
      have lk32n : ∀ i : Nat, i ≠ (x_pv_linkCount).toInt.toNat → lf31 i = lf i := fun i hi => (lk32o i hi).trans (af0 i hi)
      refine W.widen (k := ((x_pv_linkCount).toInt.toNat + 1 - nl)) (n := 4 * ((x_pv_linkCount).toInt.toNat + 1 - nl)) (by omega) (by omega) ?_
      have w33 : 0 ≤ ((z26)).toInt ∧ ((z26)).toInt ≤ 210 := by omega
      have w34 : ((z26)).toInt = (x_pv_linkCount).toInt + 1 := by omega
      have w35 : nl ≤ (nl) ∧ (x_pv_linkCount).toInt + 1 ≤ (nl) := by omega
      have w36 : GR2 nl (nl) ((z26)).toInt := (gr2_same rfl (by omega))
      have w37 : PFX (nl) 210 (f_lks) (la) := hn_pk
      have w38 : LOK (nl) (la) (lf31) := lk32
      have w39 : ∀ i : Nat, i < nl → (la) i = la i := ag0
      have w40 : ∀ i : Nat, i ≠ (x_pv_linkCount).toInt.toNat → (lf31) i = lf i := lk32n
      have w41 : (some (la (x_pv_linkCount).toInt.toNat) : Option Nat) = some ((la) (x_pv_linkCount).toInt.toNat) := rfl
      exact W.aret (v := va_rf (some (la (x_pv_linkCount).toInt.toNat))) hx hb hr (Or.inl ⟨_, rfl⟩) (va_rf_or _) (fun t ht hW => ⟨⟨(some (la (x_pv_linkCount).toInt.toNat)), (z26, f_lks, nl, la, lf31), rfl, ⟨w33, w34, w35, w36, w37, w38, w39, w40, w41⟩, by rw [ht]; exact hP, hD⟩, hS.F ht⟩) hS.2.2 dX4_newLink_84
  · show Met l yX4_newLink (Ws yX4_newLink cX4_newLink 6 (some (.object "OppositePairs$Link"))) (({ frames := 2, cells := ((x_pv_linkCount).toInt.toNat + 1 - nl), slots := 4 * ((x_pv_linkCount).toInt.toNat + 1 - nl), locals := 100 } : Room)) (PRE (dC, dI) cls [(cy_lks, .object "OppositePairs$Link")] (wp [(h_pv, .inr (3, (mo176 v_pv (.ref h_lks) (.int x_pv_linkCount)))), (h_lks, .inl (cy_lks, 210, .inr (.inr (.inr (.inr f_lks)))))] (PL nr ra rf nl la lf ns sa sf)) sz [.ref h_pv, .int p1, .int p2, .ref b1]) (va_Qq (fun (r : Option Nat) (u : (Int32) × (Nat → Option Nat) × (Nat) × (Nat → Nat) × (Nat → LT)) => (0 ≤ (u.1).toInt ∧ (u.1).toInt ≤ 210) ∧ ((u.1).toInt = (x_pv_linkCount).toInt + 1) ∧ (nl ≤ u.2.2.1 ∧ (x_pv_linkCount).toInt + 1 ≤ u.2.2.1) ∧ (GR2 nl u.2.2.1 (u.1).toInt) ∧ (PFX u.2.2.1 210 u.2.1 u.2.2.2.1) ∧ (LOK u.2.2.1 u.2.2.2.1 u.2.2.2.2) ∧ (∀ i : Nat, i < nl → u.2.2.2.1 i = la i) ∧ (∀ i : Nat, i ≠ (x_pv_linkCount).toInt.toNat → u.2.2.2.2 i = lf i) ∧ (r = some (u.2.2.2.1 (x_pv_linkCount).toInt.toNat))) (fun (u : (Int32) × (Nat → Option Nat) × (Nat) × (Nat → Nat) × (Nat → LT)) (t : State) => va_P (dC, dI) cls (wp [(h_pv, .inr (3, (mo176 v_pv (.ref h_lks) (.int u.1)))), (h_lks, .inl (cy_lks, 210, .inr (.inr (.inr (.inr u.2.1)))))] (PL nr ra rf u.2.2.1 u.2.2.2.1 u.2.2.2.2 ns sa sf)) t.heap ∧ va_D (va_A (wp [(h_pv, .inr (3, (mo176 v_pv (.ref h_lks) (.int x_pv_linkCount)))), (h_lks, .inl (cy_lks, 210, .inr (.inr (.inr (.inr f_lks)))))] (PL nr ra rf nl la lf ns sa sf)) sz) (wp [(h_pv, .inr (3, (mo176 v_pv (.ref h_lks) (.int u.1)))), (h_lks, .inl (cy_lks, 210, .inr (.inr (.inr (.inr u.2.1)))))] (PL nr ra rf u.2.2.1 u.2.2.2.1 u.2.2.2.2 ns sa sf))) (va_A (wp [(h_pv, .inr (3, (mo176 v_pv (.ref h_lks) (.int x_pv_linkCount)))), (h_lks, .inl (cy_lks, 210, .inr (.inr (.inr (.inr f_lks)))))] (PL nr ra rf nl la lf ns sa sf)) sz)) (((x_pv_linkCount).toInt.toNat + 1 - nl)) (4 * ((x_pv_linkCount).toInt.toNat + 1 - nl)) (va_A (wp [(h_pv, .inr (3, (mo176 v_pv (.ref h_lks) (.int x_pv_linkCount)))), (h_lks, .inl (cy_lks, 210, .inr (.inr (.inr (.inr f_lks)))))] (PL nr ra rf nl la lf ns sa sf)) sz)
    refine Met.ofW (cc := cX4_newLink) (maxL := 6) (ret := (some (.object "OppositePairs$Link"))) (by decide) rfl ?_
    intro p e s m args below meth c s₁ B hml hv
    obtain ⟨rfl, hsz, hP, hK, hD0, hN⟩ := hv
    have hx := B.exec
    have hb := B.bytes
    have hr := B.returns
    have hts := atoms_spec (ws := Ws yX4_newLink cX4_newLink 6 (some (.object "OppositePairs$Link"))) B.pre
    have hT : ∀ w ∈ WALL, w ∈ Ws yX4_newLink cX4_newLink 6 (some (.object "OppositePairs$Link")) := fun w h => List.mem_cons_of_mem _ h
    have hw := fun w (h : w ∈ WALL) => hts w (hT w h)
    have hown : s.vm.findClass RX4 = some m.cls := findClass_of_methodNamed B.named
    have hlocks := B.notSynchronized
    subst hsz
    have hD := hD0.self (sz := s.heap.size)
    generalize hAe : va_A (wp [(h_pv, .inr (3, (mo176 v_pv (.ref h_lks) (.int x_pv_linkCount)))), (h_lks, .inl (cy_lks, 210, .inr (.inr (.inr (.inr f_lks)))))] (PL nr ra rf nl la lf ns sa sf)) s.heap.size = A at hD ⊢
    have hA : ∀ q : Nat, s.heap.size ≤ q → A q := fun q h => by rw [← hAe]; exact Or.inr h
    have hS : va_S A s.heap s.heap [] := va_S.rf
    have hl := lv_entry ([.ref h_pv, .int p1, .int p2, .ref b1]) (n := 6) (Nat.le_of_ble_eq_true rfl)
    rw [lg_entry_eq]
    generalize (lg_sl ([.ref h_pv, .int p1, .int p2, .ref b1]) ++ List.replicate (6 - (lg_sl ([.ref h_pv, .int p1, .int p2, .ref b1])).length) Slot.unset).toArray = ls at hl ⊢
    have hl : lv_has ls 6 [(0, .ref h_pv), (1, .int p1), (2, .int p2), (3, .ref b1)] := hl
    have ag0 : ∀ i : Nat, i < nl → la i = la i := fun _ _ => rfl
    have af0 : ∀ i : Nat, i ≠ (x_pv_linkCount).toInt.toNat → lf i = lf i := fun _ _ => rfl
    refine lv_aload_n hx hb dX4_newLink_0 rfl (lv_at hl 0 rfl) ?_
    refine va_get (D := (dC, dI)) (ci := 3) (v := .int x_pv_linkCount) (C := RX4) (T := TX4) (N := 18) hx hb hw iwX4 hown hK hP 0 rfl rfl 5 (by decide) (hw _ w_f_X4_104) (fun _ h9 => h9) rfl dX4_newLink_1 ?_
    refine lv_sipush (v := 209) hx hb dX4_newLink_4 (by decide) ?_
    refine va_mmin hx hb (hml.trans hl.1.symm) hown (hw _ w_m_X4_274) (hw _ w_mst_min) (hw _ w_ini_Math) (hw _ w_mcd_min) (Nat.le_of_ble_eq_true rfl) (Nat.le_of_ble_eq_true rfl) (Nat.le_of_ble_eq_true rfl) (Nat.le_of_ble_eq_true rfl) dX4_newLink_7 ?_
    refine lv_topi (fun z42 ez42 => ?_)
    have tz42 := i_min (x := x_pv_linkCount) (y := 209) (rfl : (x_pv_linkCount).toInt = (x_pv_linkCount).toInt) (by decide : (209 : Int32).toInt = 209)
    rw [← ez42] at tz42
    refine lv_istore (lv' := [(4, .int z42), (0, .ref h_pv), (1, .int p1), (2, .int p2), (3, .ref b1)]) hx hb dX4_newLink_10 hl (by decide) rfl (fun ls hl => ?_)
    refine lv_aload_n hx hb dX4_newLink_12 rfl (lv_at hl 1 rfl) ?_
    refine va_get (D := (dC, dI)) (ci := 3) (v := .ref h_lks) (C := RX4) (T := TX4) (N := 18) hx hb hw iwX4 hown hK hP 0 rfl rfl 4 (by decide) (hw _ w_f_X4_19) (fun _ h9 => h9) rfl dX4_newLink_13 ?_
    refine lv_iload hx hb dX4_newLink_16 (lv_at hl 0 rfl) ?_
    refine va_aldq hx hb hK hP 1 0 rfl rfl (i := z42) (vp_in_iff.mpr (by omega)) dX4_newLink_18 ?_
    obtain ⟨o43, eo43⟩ : ∃ o, o = f_lks (Int32.toNatClampNeg z42) := ⟨_, rfl⟩
    rw [← eo43]
    rcases o43 with _ | b44
    · have hl : lv_has ls 6 [(4, .int z42), (0, .ref h_pv), (1, .int p1), (2, .int p2), (3, .ref b1)] := hl
      show W p l e _ s m _ below meth c _ _ _ _ _ (F0 m 19 ls [.null])
      have nq9 := pfx_none (k := z42) hn_pk (by omega) eo43
      refine lv_ifnonnullN hx hb dX4_newLink_19 ?_
      refine lv_aload_n hx hb dX4_newLink_22 rfl (lv_at hl 1 rfl) ?_
      refine va_get (D := (dC, dI)) (ci := 3) (v := .ref h_lks) (C := RX4) (T := TX4) (N := 18) hx hb hw iwX4 hown hK hP 0 rfl rfl 4 (by decide) (hw _ w_f_X4_19) (fun _ h9 => h9) rfl dX4_newLink_23 ?_
      refine lv_iload hx hb dX4_newLink_26 (lv_at hl 0 rfl) ?_
      refine va_new (ci := 10) (C := RX2) (T := TX2) (N := 4) (fs := [.int 0, .int 0, .int 0, .null]) hx hb hw iwX2 tyX2 tyX2_ok hown (hw _ w_cl_X4_17) (hw _ w_inst_X2) (hw _ w_ini_X2) hK hP hD hS hA rfl dfX2 (by dsimp only [headSpec]; omega) (by dsimp only [headSpec]; omega) dX4_newLink_28 (fun a45 H hP hD hS => ?_)
      have hP : va_P (dC, dI) cls (wp [(h_pv, .inr (3, (mo176 v_pv (.ref h_lks) (.int x_pv_linkCount)))), (h_lks, .inl (cy_lks, 210, .inr (.inr (.inr (.inr f_lks)))))] (PL nr ra rf (nl + 1) (va_up la nl a45) (va_up lf nl ((0 : Int32), (0 : Int32), (0 : Int32), none)) ns sa sf)) H := va_P_perm (pl_pushL (t := ((0 : Int32), (0 : Int32), (0 : Int32), none))) hP
      have hD : va_D A (wp [(h_pv, .inr (3, (mo176 v_pv (.ref h_lks) (.int x_pv_linkCount)))), (h_lks, .inl (cy_lks, 210, .inr (.inr (.inr (.inr f_lks)))))] (PL nr ra rf (nl + 1) (va_up la nl a45) (va_up lf nl ((0 : Int32), (0 : Int32), (0 : Int32), none)) ns sa sf)) := va_D_perm (pl_pushL (t := ((0 : Int32), (0 : Int32), (0 : Int32), none))) hD
      obtain ⟨nl46, enl46⟩ : ∃ g, g = (nl + 1) := ⟨_, rfl⟩
      obtain ⟨la47, ela47⟩ : ∃ g, g = (va_up la nl a45) := ⟨_, rfl⟩
      obtain ⟨lf48, elf48⟩ : ∃ g, g = (va_up lf nl ((0 : Int32), (0 : Int32), (0 : Int32), none)) := ⟨_, rfl⟩
      have hP : va_P (dC, dI) cls (wp [(h_pv, .inr (3, (mo176 v_pv (.ref h_lks) (.int x_pv_linkCount)))), (h_lks, .inl (cy_lks, 210, .inr (.inr (.inr (.inr f_lks)))))] (PL nr ra rf nl46 la47 lf48 ns sa sf)) H := by rw [enl46, ela47, elf48]; exact hP
      have hD : va_D A (wp [(h_pv, .inr (3, (mo176 v_pv (.ref h_lks) (.int x_pv_linkCount)))), (h_lks, .inl (cy_lks, 210, .inr (.inr (.inr (.inr f_lks)))))] (PL nr ra rf nl46 la47 lf48 ns sa sf)) := by rw [enl46, ela47, elf48]; exact hD
      have ea9 : la47 nl = a45 := by rw [ela47]; exact up_self _ _ _
      refine lv_dup hx hb dX4_newLink_31 rfl ?_
      have hPc := wp_P (cx := []) hP [] rfl
      have hDc := wp_D (cx := []) hD [] (by decide) rfl
      have hKc := hK.sub (tys' := []) [] rfl
      have hFc := wp_free (cx := []) hD hS hA [] rfl
      refine va_callv (va_runIN (As := []) (rest := [.ref a45, .int z42, .ref h_lks]) ⟨hx, hb, hml, hown, hts⟩ (c_X2_init l dC dI H.size a45) ⟨va_cnB (host := "OppositePairs") 0 hts (gd hT w_code_X2_init) rfl rfl rfl (hN _ n_m_X4_278) (hw _ w_ini_X2) (by decide +kernel) ⟨(by dsimp only [headSpec]; omega), (by dsimp only [headSpec]; omega)⟩, rfl, hw _ w_instanceMethod_X2_init⟩ ⟨pre_blind, pre_of hPc hKc hDc hN⟩ rfl rfl hl.1 rfl (lv_room (Nat.le_of_ble_eq_true rfl)) dX4_newLink_32 ⟨(by dsimp only [headSpec]; omega), (by dsimp only [headSpec]; omega)⟩) hS (fun q _ h => hFc q h) hFc (fun u t H locs ht hvm hq hB hz1 hk1 hS9 => ?_)
      obtain ⟨hP1, hD1⟩ := hB
      rw [ht] at hP1
      obtain ⟨hP9, hD9⟩ := va_joinQ (wr := [(h_pv, .inr (3, (mo176 v_pv (.ref h_lks) (.int x_pv_linkCount)))), (h_lks, .inl (cy_lks, 210, .inr (.inr (.inr (.inr f_lks)))))]) (w1 := []) (cx := []) hP hD [] [0, 1] rfl rfl (by decide) (by decide) hk1 hFc hP1 hD1
      clear hP hD hS hPc hDc hKc hFc hP1 hD1 hk1 hz1 ht hvm
      have hP : va_P (dC, dI) cls (wp [(h_pv, .inr (3, (mo176 v_pv (.ref h_lks) (.int x_pv_linkCount)))), (h_lks, .inl (cy_lks, 210, .inr (.inr (.inr (.inr f_lks)))))] (PL nr ra rf nl46 la47 lf48 ns sa sf)) H := hP9
      have hD : va_D A (wp [(h_pv, .inr (3, (mo176 v_pv (.ref h_lks) (.int x_pv_linkCount)))), (h_lks, .inl (cy_lks, 210, .inr (.inr (.inr (.inr f_lks)))))] (PL nr ra rf nl46 la47 lf48 ns sa sf)) := hD9
      have hS := hS9
      clear hP9 hD9 hS9
      refine va_astq hx hb hK hP hD hS 1 0 (2 + (nr + nl)) 10 rfl rfl (by rw [← ea9]; exact (pl_L (X := [(h_pv, .inr (3, (mo176 v_pv (.ref h_lks) (.int x_pv_linkCount)))), (h_lks, .inl (cy_lks, 210, .inr (.inr (.inr (.inr f_lks)))))]) (by omega))) rfl (i := z42) (vp_in_iff.mpr (by omega)) dX4_newLink_35 (fun H locs hP hD hS => ?_)
      obtain ⟨f50, ef50⟩ : ∃ g : Nat → Option Nat, g = va_up f_lks (Int32.toNatClampNeg z42) (some a45) := ⟨_, rfl⟩
      have hP : va_P (dC, dI) cls (wp [(h_pv, .inr (3, (mo176 v_pv (.ref h_lks) (.int x_pv_linkCount)))), (h_lks, .inl (cy_lks, 210, .inr (.inr (.inr (.inr f50)))))] (PL nr ra rf nl46 la47 lf48 ns sa sf)) H := by rw [ef50]; exact hP
      have hD : va_D A (wp [(h_pv, .inr (3, (mo176 v_pv (.ref h_lks) (.int x_pv_linkCount)))), (h_lks, .inl (cy_lks, 210, .inr (.inr (.inr (.inr f50)))))] (PL nr ra rf nl46 la47 lf48 ns sa sf)) := by rw [ef50]; exact hD
      have pk9 : PFX nl46 210 f50 la47 := by rw [enl46, ef50, ela47]; exact pfx_push hn_pk (by omega) (by omega)
      have lk9 : LOK nl46 la47 lf48 := by rw [enl46, ela47, elf48]; exact lok_push hn_lok
      have ag9 : ∀ i : Nat, i < nl → la47 i = la i := fun i hi => by rw [ela47]; exact up_ne (by omega)
      have af9 : ∀ i : Nat, i ≠ (x_pv_linkCount).toInt.toNat → lf48 i = lf i := fun i hi => by rw [elf48]; exact up_ne (by omega)
      refine lv_aload_n hx hb dX4_newLink_36 rfl (lv_at hl 1 rfl) ?_
      refine lv_iload hx hb dX4_newLink_37 (lv_at hl 0 rfl) ?_
      refine lv_iconst (v := 1) hx hb dX4_newLink_39 (by decide) ?_
      refine lv_iadd hx hb dX4_newLink_40 ?_
      refine lv_topi (fun z51 ez51 => ?_)
      have tz51 : (z51).toInt = (z42).toInt + 1 := by rw [ez51]; exact i_add rfl (by decide) (by omega)
      refine va_put (D := (dC, dI)) (ci := 3) (v := .int z51) (ty := tyX4 5) (C := RX4) (T := TX4) (N := 18) hx hb hw iwX4 tyX4 tyX4_ok nmX4 hown hK hP hD hS 0 rfl rfl 5 (by decide) (hw _ w_f_X4_104) (fun _ h9 => h9) rfl (tyX4_ok 5 (by decide)) rfl rfl (Nat.le_of_ble_eq_true rfl) dX4_newLink_41 (fun H locs hP9 hD9 hS9 => ?_)
      clear hP hD hS
      have hP : va_P (dC, dI) cls (wp [(h_pv, .inr (3, (mo176 v_pv (.ref h_lks) (.int z51)))), (h_lks, .inl (cy_lks, 210, .inr (.inr (.inr (.inr f50)))))] (PL nr ra rf nl46 la47 lf48 ns sa sf)) H := hP9
      have hD : va_D A (wp [(h_pv, .inr (3, (mo176 v_pv (.ref h_lks) (.int z51)))), (h_lks, .inl (cy_lks, 210, .inr (.inr (.inr (.inr f50)))))] (PL nr ra rf nl46 la47 lf48 ns sa sf)) := hD9
      have hS := hS9
      clear hP9 hD9 hS9
      refine lv_aload_n hx hb dX4_newLink_44 rfl (lv_at hl 1 rfl) ?_
      refine va_get (D := (dC, dI)) (ci := 3) (v := .ref h_lks) (C := RX4) (T := TX4) (N := 18) hx hb hw iwX4 hown hK hP 0 rfl rfl 4 (by decide) (hw _ w_f_X4_19) (fun _ h9 => h9) rfl dX4_newLink_45 ?_
      refine lv_iload hx hb dX4_newLink_48 (lv_at hl 0 rfl) ?_
      refine va_aldq hx hb hK hP 1 0 rfl rfl (i := z42) (vp_in_iff.mpr (by omega)) dX4_newLink_50 ?_
      obtain ⟨o52, eo52⟩ : ∃ o, o = f50 (Int32.toNatClampNeg z42) := ⟨_, rfl⟩
      rw [← eo52]
      have oq9 := pfx_at (k := z42) (i := (x_pv_linkCount).toInt.toNat) pk9 eo52 (by omega) (by omega)
      subst oq9
      show W p l e _ s m _ below meth c _ _ _ _ _ (F0 m 51 ls [.ref (la47 (x_pv_linkCount).toInt.toNat)])
      refine lv_astore (lv' := [(5, .ref (la47 (x_pv_linkCount).toInt.toNat)), (4, .int z42), (0, .ref h_pv), (1, .int p1), (2, .int p2), (3, .ref b1)]) hx hb dX4_newLink_51 hl (by decide) rfl (fun ls hl => ?_)
      refine lv_aload hx hb dX4_newLink_53 (lv_at hl 0 rfl) ?_
      refine lv_iload_n hx hb dX4_newLink_55 rfl (lv_at hl 3 rfl) ?_
      refine va_putN (D := (dC, dI)) (ci := 10) (v := .int p1) (ty := tyX2 0) (C := RX2) (T := TX2) (N := 4) (host := "OppositePairs") hx hb hw iwX2 tyX2 tyX2_ok nmX2 hown hK hP hD hS (2 + (nr + (x_pv_linkCount).toInt.toNat)) (pl_L (X := [(h_pv, .inr (3, (mo176 v_pv (.ref h_lks) (.int z51)))), (h_lks, .inl (cy_lks, 210, .inr (.inr (.inr (.inr f50)))))]) (by omega)) rfl 0 (by decide) (hN.use n_f_X4_174 rfl) (fun _ h9 => h9) rfl (tyX2_ok 0 (by decide)) rfl rfl (Nat.le_of_ble_eq_true rfl) dX4_newLink_56 (fun H locs hP hD hS => ?_)
      have hP : va_P (dC, dI) cls (wp [(h_pv, .inr (3, (mo176 v_pv (.ref h_lks) (.int z51)))), (h_lks, .inl (cy_lks, 210, .inr (.inr (.inr (.inr f50)))))] (PL nr ra rf nl46 la47 (va_up lf48 (x_pv_linkCount).toInt.toNat (p1, (lf48 (x_pv_linkCount).toInt.toNat).2.1, (lf48 (x_pv_linkCount).toInt.toNat).2.2.1, (lf48 (x_pv_linkCount).toInt.toNat).2.2.2)) ns sa sf)) H := by rw [← pl_setL (i := (x_pv_linkCount).toInt.toNat) (by omega)]; exact hP
      have hD : va_D A (wp [(h_pv, .inr (3, (mo176 v_pv (.ref h_lks) (.int z51)))), (h_lks, .inl (cy_lks, 210, .inr (.inr (.inr (.inr f50)))))] (PL nr ra rf nl46 la47 (va_up lf48 (x_pv_linkCount).toInt.toNat (p1, (lf48 (x_pv_linkCount).toInt.toNat).2.1, (lf48 (x_pv_linkCount).toInt.toNat).2.2.1, (lf48 (x_pv_linkCount).toInt.toNat).2.2.2)) ns sa sf)) := by rw [← pl_setL (i := (x_pv_linkCount).toInt.toNat) (by omega)]; exact hD
      refine lv_aload hx hb dX4_newLink_59 (lv_at hl 0 rfl) ?_
      refine lv_iload_n hx hb dX4_newLink_61 rfl (lv_at hl 4 rfl) ?_
      refine va_putN (D := (dC, dI)) (ci := 10) (v := .int p2) (ty := tyX2 1) (C := RX2) (T := TX2) (N := 4) (host := "OppositePairs") hx hb hw iwX2 tyX2 tyX2_ok nmX2 hown hK hP hD hS (2 + (nr + (x_pv_linkCount).toInt.toNat)) (pl_L2 (X := [(h_pv, .inr (3, (mo176 v_pv (.ref h_lks) (.int z51)))), (h_lks, .inl (cy_lks, 210, .inr (.inr (.inr (.inr f50)))))]) (by omega)) rfl 1 (by decide) (hN.use n_f_X4_175 rfl) (fun _ h9 => h9) rfl (tyX2_ok 1 (by decide)) rfl rfl (Nat.le_of_ble_eq_true rfl) dX4_newLink_62 (fun H locs hP hD hS => ?_)
      have hP : va_P (dC, dI) cls (wp [(h_pv, .inr (3, (mo176 v_pv (.ref h_lks) (.int z51)))), (h_lks, .inl (cy_lks, 210, .inr (.inr (.inr (.inr f50)))))] (PL nr ra rf nl46 la47 (va_up lf48 (x_pv_linkCount).toInt.toNat (p1, p2, (lf48 (x_pv_linkCount).toInt.toNat).2.2.1, (lf48 (x_pv_linkCount).toInt.toNat).2.2.2)) ns sa sf)) H := by rw [← pl_setL2 (i := (x_pv_linkCount).toInt.toNat) (by omega)]; exact hP
      have hD : va_D A (wp [(h_pv, .inr (3, (mo176 v_pv (.ref h_lks) (.int z51)))), (h_lks, .inl (cy_lks, 210, .inr (.inr (.inr (.inr f50)))))] (PL nr ra rf nl46 la47 (va_up lf48 (x_pv_linkCount).toInt.toNat (p1, p2, (lf48 (x_pv_linkCount).toInt.toNat).2.2.1, (lf48 (x_pv_linkCount).toInt.toNat).2.2.2)) ns sa sf)) := by rw [← pl_setL2 (i := (x_pv_linkCount).toInt.toNat) (by omega)]; exact hD
      refine lv_aload hx hb dX4_newLink_65 (lv_at hl 0 rfl) ?_
      refine lv_aload_n hx hb dX4_newLink_67 rfl (lv_at hl 5 rfl) ?_
      show W p l e _ s m _ below meth c _ _ _ _ _ (F0 m 68 _ (va_rf (some b1) :: _))
      refine va_putN (D := (dC, dI)) (ci := 10) (v := (va_rf (some b1))) (ty := tyX2 3) (C := RX2) (T := TX2) (N := 4) (host := "OppositePairs") hx hb hw iwX2 tyX2 tyX2_ok nmX2 hown hK hP hD hS (2 + (nr + (x_pv_linkCount).toInt.toNat)) (pl_L2 (X := [(h_pv, .inr (3, (mo176 v_pv (.ref h_lks) (.int z51)))), (h_lks, .inl (cy_lks, 210, .inr (.inr (.inr (.inr f50)))))]) (by omega)) rfl 3 (by decide) (hN.use n_f_X4_181 rfl) (fun _ h9 => h9) rfl (tyX2_ok 3 (by decide)) (rf_nar (some b1) _) (rf_fit (some b1) _) (Nat.le_of_ble_eq_true rfl) dX4_newLink_68 (fun H locs hP hD hS => ?_)
      have hP : va_P (dC, dI) cls (wp [(h_pv, .inr (3, (mo176 v_pv (.ref h_lks) (.int z51)))), (h_lks, .inl (cy_lks, 210, .inr (.inr (.inr (.inr f50)))))] (PL nr ra rf nl46 la47 (va_up lf48 (x_pv_linkCount).toInt.toNat (p1, p2, (lf48 (x_pv_linkCount).toInt.toNat).2.2.1, (some b1))) ns sa sf)) H := by rw [← pl_setL2 (i := (x_pv_linkCount).toInt.toNat) (by omega)]; exact hP
      have hD : va_D A (wp [(h_pv, .inr (3, (mo176 v_pv (.ref h_lks) (.int z51)))), (h_lks, .inl (cy_lks, 210, .inr (.inr (.inr (.inr f50)))))] (PL nr ra rf nl46 la47 (va_up lf48 (x_pv_linkCount).toInt.toNat (p1, p2, (lf48 (x_pv_linkCount).toInt.toNat).2.2.1, (some b1))) ns sa sf)) := by rw [← pl_setL2 (i := (x_pv_linkCount).toInt.toNat) (by omega)]; exact hD
      refine lv_aload hx hb dX4_newLink_71 (lv_at hl 0 rfl) ?_
      refine lv_aload_n hx hb dX4_newLink_73 rfl (lv_at hl 5 rfl) ?_
      obtain ⟨lf53, elf53⟩ : ∃ g, g = (va_up lf48 (x_pv_linkCount).toInt.toNat (p1, p2, (lf48 (x_pv_linkCount).toInt.toNat).2.2.1, (some b1))) := ⟨_, rfl⟩
      have hP : va_P (dC, dI) cls (wp [(h_pv, .inr (3, (mo176 v_pv (.ref h_lks) (.int z51)))), (h_lks, .inl (cy_lks, 210, .inr (.inr (.inr (.inr f50)))))] (PL nr ra rf nl46 la47 lf53 ns sa sf)) H := by rw [elf53]; exact hP
      have hD : va_D A (wp [(h_pv, .inr (3, (mo176 v_pv (.ref h_lks) (.int z51)))), (h_lks, .inl (cy_lks, 210, .inr (.inr (.inr (.inr f50)))))] (PL nr ra rf nl46 la47 lf53 ns sa sf)) := by rw [elf53]; exact hD
      have slf53 : lf53 (x_pv_linkCount).toInt.toNat = (p1, p2, (lf48 (x_pv_linkCount).toInt.toNat).2.2.1, (some b1)) := by rw [elf53]; exact up_self _ _ _
      have olf53 : ∀ j : Nat, j ≠ (x_pv_linkCount).toInt.toNat → lf53 j = lf48 j := fun j hj => by rw [elf53]; exact up_ne hj
      have pb9 : PB la47 (x_pv_linkCount).toInt (some b1) := pb_mono hn_pb (by omega) (fun m hm => ag9 m (by omega))
      have hPc : va_P (dC, dI) cls (wp [] (PL nr ra rf nl46 la47 lf53 ns sa sf)) H := va_P.part (cx := []) hP [] rfl
      have hDc : va_D A (wp [] (PL nr ra rf nl46 la47 lf53 ns sa sf)) := va_D.part (cx := []) hD [] (by decide) rfl
      have hKc := hK.sub (tys' := []) [] rfl
      have hFc : ∀ q, va_A (wp [] (PL nr ra rf nl46 la47 lf53 ns sa sf)) H.size q → A q := va_freeP (cx := []) hD hS hA [] rfl
      refine va_calli (va_runSN (As := [.ref b1]) (rest := [.ref (la47 (x_pv_linkCount).toInt.toNat)]) ⟨hx, hb, hml, hown, hts⟩ (c_X10_lengthOf l dC dI H.size nr ra rf nl46 la47 lf53 ns sa sf (some b1) (x_pv_linkCount).toInt (by omega) pb9) ⟨va_cnB (host := "OppositePairs") 1 hts (gd hT w_code_X10_lengthOf) rfl rfl rfl (hN _ n_m_X4_240) (hw _ w_ini_X10) (by decide +kernel) ⟨(by dsimp only [headSpec]; omega), (by dsimp only [headSpec]; omega)⟩, hw _ w_static_X10_lengthOf, trivial⟩ ⟨pre_blind, pre_of hPc hKc hDc hN⟩ rfl rfl hl.1 rfl (lv_room (Nat.le_of_ble_eq_true rfl)) dX4_newLink_74 ⟨(by dsimp only [headSpec]; omega), (by dsimp only [headSpec]; omega)⟩) hS (fun q _ h => hFc q h) hFc (fun r54 u t H locs ht hvm hq hB hz1 hk1 hS9 => ?_)
      obtain ⟨hP1, hD1⟩ := hB
      rw [ht] at hP1
      obtain ⟨hP9, hD9⟩ := va_joinP (wr := [(h_pv, .inr (3, (mo176 v_pv (.ref h_lks) (.int z51)))), (h_lks, .inl (cy_lks, 210, .inr (.inr (.inr (.inr f50)))))]) (rx := []) (cx := []) hP hD [] [0, 1] rfl rfl (by decide) (by decide) hk1 hFc hP1 hD1
      clear hP hD hS hPc hDc hKc hFc hP1 hD1 hk1 hz1 ht hvm
      have hP : va_P (dC, dI) cls (wp [(h_pv, .inr (3, (mo176 v_pv (.ref h_lks) (.int z51)))), (h_lks, .inl (cy_lks, 210, .inr (.inr (.inr (.inr f50)))))] (PL nr ra rf nl46 la47 lf53 ns sa sf)) H := hP9
      have hD : va_D A (wp [(h_pv, .inr (3, (mo176 v_pv (.ref h_lks) (.int z51)))), (h_lks, .inl (cy_lks, 210, .inr (.inr (.inr (.inr f50)))))] (PL nr ra rf nl46 la47 lf53 ns sa sf)) := hD9
      have hS := hS9
      clear hP9 hD9 hS9
      refine lv_iconst (v := 1) hx hb dX4_newLink_77 (by decide) ?_
      refine lv_iadd hx hb dX4_newLink_78 ?_
      refine lv_topi (fun z55 ez55 => ?_)
      refine va_putN (D := (dC, dI)) (ci := 10) (v := .int z55) (ty := tyX2 2) (C := RX2) (T := TX2) (N := 4) (host := "OppositePairs") hx hb hw iwX2 tyX2 tyX2_ok nmX2 hown hK hP hD hS (2 + (nr + (x_pv_linkCount).toInt.toNat)) (pl_L (X := [(h_pv, .inr (3, (mo176 v_pv (.ref h_lks) (.int z51)))), (h_lks, .inl (cy_lks, 210, .inr (.inr (.inr (.inr f50)))))]) (by omega)) rfl 2 (by decide) (hN.use n_f_X4_266 rfl) (fun _ h9 => h9) rfl (tyX2_ok 2 (by decide)) rfl rfl (Nat.le_of_ble_eq_true rfl) dX4_newLink_79 (fun H locs hP hD hS => ?_)
      have hP : va_P (dC, dI) cls (wp [(h_pv, .inr (3, (mo176 v_pv (.ref h_lks) (.int z51)))), (h_lks, .inl (cy_lks, 210, .inr (.inr (.inr (.inr f50)))))] (PL nr ra rf nl46 la47 (va_up lf53 (x_pv_linkCount).toInt.toNat ((lf53 (x_pv_linkCount).toInt.toNat).1, (lf53 (x_pv_linkCount).toInt.toNat).2.1, z55, (lf53 (x_pv_linkCount).toInt.toNat).2.2.2)) ns sa sf)) H := by rw [← pl_setL (i := (x_pv_linkCount).toInt.toNat) (by omega)]; exact hP
      have hD : va_D A (wp [(h_pv, .inr (3, (mo176 v_pv (.ref h_lks) (.int z51)))), (h_lks, .inl (cy_lks, 210, .inr (.inr (.inr (.inr f50)))))] (PL nr ra rf nl46 la47 (va_up lf53 (x_pv_linkCount).toInt.toNat ((lf53 (x_pv_linkCount).toInt.toNat).1, (lf53 (x_pv_linkCount).toInt.toNat).2.1, z55, (lf53 (x_pv_linkCount).toInt.toNat).2.2.2)) ns sa sf)) := by rw [← pl_setL (i := (x_pv_linkCount).toInt.toNat) (by omega)]; exact hD
      refine lv_aload hx hb dX4_newLink_82 (lv_at hl 0 rfl) ?_
      obtain ⟨lf56, elf56⟩ : ∃ g, g = (va_up lf53 (x_pv_linkCount).toInt.toNat ((lf53 (x_pv_linkCount).toInt.toNat).1, (lf53 (x_pv_linkCount).toInt.toNat).2.1, z55, (lf53 (x_pv_linkCount).toInt.toNat).2.2.2)) := ⟨_, rfl⟩
      have hP : va_P (dC, dI) cls (wp [(h_pv, .inr (3, (mo176 v_pv (.ref h_lks) (.int z51)))), (h_lks, .inl (cy_lks, 210, .inr (.inr (.inr (.inr f50)))))] (PL nr ra rf nl46 la47 lf56 ns sa sf)) H := by rw [elf56]; exact hP
      have hD : va_D A (wp [(h_pv, .inr (3, (mo176 v_pv (.ref h_lks) (.int z51)))), (h_lks, .inl (cy_lks, 210, .inr (.inr (.inr (.inr f50)))))] (PL nr ra rf nl46 la47 lf56 ns sa sf)) := by rw [elf56]; exact hD
      have slf56 : lf56 (x_pv_linkCount).toInt.toNat = ((lf53 (x_pv_linkCount).toInt.toNat).1, (lf53 (x_pv_linkCount).toInt.toNat).2.1, z55, (lf53 (x_pv_linkCount).toInt.toNat).2.2.2) := by rw [elf56]; exact up_self _ _ _
      have olf56 : ∀ j : Nat, j ≠ (x_pv_linkCount).toInt.toNat → lf56 j = lf53 j := fun j hj => by rw [elf56]; exact up_ne hj
      have lk57s : lf56 (x_pv_linkCount).toInt.toNat = (p1, p2, z55, (some b1)) := by rw [slf56, slf53]
      have lk57o : ∀ j : Nat, j ≠ (x_pv_linkCount).toInt.toNat → lf56 j = lf48 j := fun j hj => (olf56 j hj).trans (olf53 j hj)
      have lk57 : LOK nl46 la47 lf56 := lok_set lk9 lk57o lk57s (by omega) (by omega) (pb_mono pb9 (by omega) (fun m hm => rfl))
      have lk57n : ∀ i : Nat, i ≠ (x_pv_linkCount).toInt.toNat → lf56 i = lf i := fun i hi => (lk57o i hi).trans (af9 i hi)
      refine W.widen (k := ((x_pv_linkCount).toInt.toNat + 1 - nl)) (n := 4 * ((x_pv_linkCount).toInt.toNat + 1 - nl)) (by omega) (by omega) ?_
      have w58 : 0 ≤ ((z51)).toInt ∧ ((z51)).toInt ≤ 210 := by omega
      have w59 : ((z51)).toInt = (x_pv_linkCount).toInt + 1 := by omega
      have w60 : nl ≤ (nl46) ∧ (x_pv_linkCount).toInt + 1 ≤ (nl46) := by omega
      have w61 : GR2 nl (nl46) ((z51)).toInt := (gr2_up (by omega) (by omega))
      have w62 : PFX (nl46) 210 (f50) (la47) := pk9
      have w63 : LOK (nl46) (la47) (lf56) := lk57
      have w64 : ∀ i : Nat, i < nl → (la47) i = la i := ag9
      have w65 : ∀ i : Nat, i ≠ (x_pv_linkCount).toInt.toNat → (lf56) i = lf i := lk57n
      have w66 : (some (la47 (x_pv_linkCount).toInt.toNat) : Option Nat) = some ((la47) (x_pv_linkCount).toInt.toNat) := rfl
      exact W.aret (v := va_rf (some (la47 (x_pv_linkCount).toInt.toNat))) hx hb hr (Or.inl ⟨_, rfl⟩) (va_rf_or _) (fun t ht hW => ⟨⟨(some (la47 (x_pv_linkCount).toInt.toNat)), (z51, f50, nl46, la47, lf56), rfl, ⟨w58, w59, w60, w61, w62, w63, w64, w65, w66⟩, by rw [ht]; exact hP, hD⟩, hS.F ht⟩) hS.2.2 dX4_newLink_84
    · have hl : lv_has ls 6 [(4, .int z42), (0, .ref h_pv), (1, .int p1), (2, .int p2), (3, .ref b1)] := hl
      show W p l e _ s m _ below meth c _ _ _ _ _ (F0 m 19 ls [.ref b44])
      have nq9 := pfx_some (k := z42) hn_pk (by omega) eo43
      refine lv_ifnonnull (tgt := 36) hx hb dX4_newLink_19 (by decide) ?_
      refine lv_aload_n hx hb dX4_newLink_36 rfl (lv_at hl 1 rfl) ?_
      refine lv_iload hx hb dX4_newLink_37 (lv_at hl 0 rfl) ?_
      refine lv_iconst (v := 1) hx hb dX4_newLink_39 (by decide) ?_
      refine lv_iadd hx hb dX4_newLink_40 ?_
      refine lv_topi (fun z67 ez67 => ?_)
      have tz67 : (z67).toInt = (z42).toInt + 1 := by rw [ez67]; exact i_add rfl (by decide) (by omega)
      refine va_put (D := (dC, dI)) (ci := 3) (v := .int z67) (ty := tyX4 5) (C := RX4) (T := TX4) (N := 18) hx hb hw iwX4 tyX4 tyX4_ok nmX4 hown hK hP hD hS 0 rfl rfl 5 (by decide) (hw _ w_f_X4_104) (fun _ h9 => h9) rfl (tyX4_ok 5 (by decide)) rfl rfl (Nat.le_of_ble_eq_true rfl) dX4_newLink_41 (fun H locs hP9 hD9 hS9 => ?_)
      clear hP hD hS
      have hP : va_P (dC, dI) cls (wp [(h_pv, .inr (3, (mo176 v_pv (.ref h_lks) (.int z67)))), (h_lks, .inl (cy_lks, 210, .inr (.inr (.inr (.inr f_lks)))))] (PL nr ra rf nl la lf ns sa sf)) H := hP9
      have hD : va_D A (wp [(h_pv, .inr (3, (mo176 v_pv (.ref h_lks) (.int z67)))), (h_lks, .inl (cy_lks, 210, .inr (.inr (.inr (.inr f_lks)))))] (PL nr ra rf nl la lf ns sa sf)) := hD9
      have hS := hS9
      clear hP9 hD9 hS9
      refine lv_aload_n hx hb dX4_newLink_44 rfl (lv_at hl 1 rfl) ?_
      refine va_get (D := (dC, dI)) (ci := 3) (v := .ref h_lks) (C := RX4) (T := TX4) (N := 18) hx hb hw iwX4 hown hK hP 0 rfl rfl 4 (by decide) (hw _ w_f_X4_19) (fun _ h9 => h9) rfl dX4_newLink_45 ?_
      refine lv_iload hx hb dX4_newLink_48 (lv_at hl 0 rfl) ?_
      refine va_aldq hx hb hK hP 1 0 rfl rfl (i := z42) (vp_in_iff.mpr (by omega)) dX4_newLink_50 ?_
      obtain ⟨o68, eo68⟩ : ∃ o, o = f_lks (Int32.toNatClampNeg z42) := ⟨_, rfl⟩
      rw [← eo68]
      have oq9 := pfx_at (k := z42) (i := (x_pv_linkCount).toInt.toNat) hn_pk eo68 (by omega) (by omega)
      subst oq9
      show W p l e _ s m _ below meth c _ _ _ _ _ (F0 m 51 ls [.ref (la (x_pv_linkCount).toInt.toNat)])
      refine lv_astore (lv' := [(5, .ref (la (x_pv_linkCount).toInt.toNat)), (4, .int z42), (0, .ref h_pv), (1, .int p1), (2, .int p2), (3, .ref b1)]) hx hb dX4_newLink_51 hl (by decide) rfl (fun ls hl => ?_)
      refine lv_aload hx hb dX4_newLink_53 (lv_at hl 0 rfl) ?_
      refine lv_iload_n hx hb dX4_newLink_55 rfl (lv_at hl 3 rfl) ?_
      refine va_putN (D := (dC, dI)) (ci := 10) (v := .int p1) (ty := tyX2 0) (C := RX2) (T := TX2) (N := 4) (host := "OppositePairs") hx hb hw iwX2 tyX2 tyX2_ok nmX2 hown hK hP hD hS (2 + (nr + (x_pv_linkCount).toInt.toNat)) (pl_L (X := [(h_pv, .inr (3, (mo176 v_pv (.ref h_lks) (.int z67)))), (h_lks, .inl (cy_lks, 210, .inr (.inr (.inr (.inr f_lks)))))]) (by omega)) rfl 0 (by decide) (hN.use n_f_X4_174 rfl) (fun _ h9 => h9) rfl (tyX2_ok 0 (by decide)) rfl rfl (Nat.le_of_ble_eq_true rfl) dX4_newLink_56 (fun H locs hP hD hS => ?_)
      have hP : va_P (dC, dI) cls (wp [(h_pv, .inr (3, (mo176 v_pv (.ref h_lks) (.int z67)))), (h_lks, .inl (cy_lks, 210, .inr (.inr (.inr (.inr f_lks)))))] (PL nr ra rf nl la (va_up lf (x_pv_linkCount).toInt.toNat (p1, (lf (x_pv_linkCount).toInt.toNat).2.1, (lf (x_pv_linkCount).toInt.toNat).2.2.1, (lf (x_pv_linkCount).toInt.toNat).2.2.2)) ns sa sf)) H := by rw [← pl_setL (i := (x_pv_linkCount).toInt.toNat) (by omega)]; exact hP
      have hD : va_D A (wp [(h_pv, .inr (3, (mo176 v_pv (.ref h_lks) (.int z67)))), (h_lks, .inl (cy_lks, 210, .inr (.inr (.inr (.inr f_lks)))))] (PL nr ra rf nl la (va_up lf (x_pv_linkCount).toInt.toNat (p1, (lf (x_pv_linkCount).toInt.toNat).2.1, (lf (x_pv_linkCount).toInt.toNat).2.2.1, (lf (x_pv_linkCount).toInt.toNat).2.2.2)) ns sa sf)) := by rw [← pl_setL (i := (x_pv_linkCount).toInt.toNat) (by omega)]; exact hD
      refine lv_aload hx hb dX4_newLink_59 (lv_at hl 0 rfl) ?_
      refine lv_iload_n hx hb dX4_newLink_61 rfl (lv_at hl 4 rfl) ?_
      refine va_putN (D := (dC, dI)) (ci := 10) (v := .int p2) (ty := tyX2 1) (C := RX2) (T := TX2) (N := 4) (host := "OppositePairs") hx hb hw iwX2 tyX2 tyX2_ok nmX2 hown hK hP hD hS (2 + (nr + (x_pv_linkCount).toInt.toNat)) (pl_L2 (X := [(h_pv, .inr (3, (mo176 v_pv (.ref h_lks) (.int z67)))), (h_lks, .inl (cy_lks, 210, .inr (.inr (.inr (.inr f_lks)))))]) (by omega)) rfl 1 (by decide) (hN.use n_f_X4_175 rfl) (fun _ h9 => h9) rfl (tyX2_ok 1 (by decide)) rfl rfl (Nat.le_of_ble_eq_true rfl) dX4_newLink_62 (fun H locs hP hD hS => ?_)
      have hP : va_P (dC, dI) cls (wp [(h_pv, .inr (3, (mo176 v_pv (.ref h_lks) (.int z67)))), (h_lks, .inl (cy_lks, 210, .inr (.inr (.inr (.inr f_lks)))))] (PL nr ra rf nl la (va_up lf (x_pv_linkCount).toInt.toNat (p1, p2, (lf (x_pv_linkCount).toInt.toNat).2.2.1, (lf (x_pv_linkCount).toInt.toNat).2.2.2)) ns sa sf)) H := by rw [← pl_setL2 (i := (x_pv_linkCount).toInt.toNat) (by omega)]; exact hP
      have hD : va_D A (wp [(h_pv, .inr (3, (mo176 v_pv (.ref h_lks) (.int z67)))), (h_lks, .inl (cy_lks, 210, .inr (.inr (.inr (.inr f_lks)))))] (PL nr ra rf nl la (va_up lf (x_pv_linkCount).toInt.toNat (p1, p2, (lf (x_pv_linkCount).toInt.toNat).2.2.1, (lf (x_pv_linkCount).toInt.toNat).2.2.2)) ns sa sf)) := by rw [← pl_setL2 (i := (x_pv_linkCount).toInt.toNat) (by omega)]; exact hD
      refine lv_aload hx hb dX4_newLink_65 (lv_at hl 0 rfl) ?_
      refine lv_aload_n hx hb dX4_newLink_67 rfl (lv_at hl 5 rfl) ?_
      show W p l e _ s m _ below meth c _ _ _ _ _ (F0 m 68 _ (va_rf (some b1) :: _))
      refine va_putN (D := (dC, dI)) (ci := 10) (v := (va_rf (some b1))) (ty := tyX2 3) (C := RX2) (T := TX2) (N := 4) (host := "OppositePairs") hx hb hw iwX2 tyX2 tyX2_ok nmX2 hown hK hP hD hS (2 + (nr + (x_pv_linkCount).toInt.toNat)) (pl_L2 (X := [(h_pv, .inr (3, (mo176 v_pv (.ref h_lks) (.int z67)))), (h_lks, .inl (cy_lks, 210, .inr (.inr (.inr (.inr f_lks)))))]) (by omega)) rfl 3 (by decide) (hN.use n_f_X4_181 rfl) (fun _ h9 => h9) rfl (tyX2_ok 3 (by decide)) (rf_nar (some b1) _) (rf_fit (some b1) _) (Nat.le_of_ble_eq_true rfl) dX4_newLink_68 (fun H locs hP hD hS => ?_)
      have hP : va_P (dC, dI) cls (wp [(h_pv, .inr (3, (mo176 v_pv (.ref h_lks) (.int z67)))), (h_lks, .inl (cy_lks, 210, .inr (.inr (.inr (.inr f_lks)))))] (PL nr ra rf nl la (va_up lf (x_pv_linkCount).toInt.toNat (p1, p2, (lf (x_pv_linkCount).toInt.toNat).2.2.1, (some b1))) ns sa sf)) H := by rw [← pl_setL2 (i := (x_pv_linkCount).toInt.toNat) (by omega)]; exact hP
      have hD : va_D A (wp [(h_pv, .inr (3, (mo176 v_pv (.ref h_lks) (.int z67)))), (h_lks, .inl (cy_lks, 210, .inr (.inr (.inr (.inr f_lks)))))] (PL nr ra rf nl la (va_up lf (x_pv_linkCount).toInt.toNat (p1, p2, (lf (x_pv_linkCount).toInt.toNat).2.2.1, (some b1))) ns sa sf)) := by rw [← pl_setL2 (i := (x_pv_linkCount).toInt.toNat) (by omega)]; exact hD
      refine lv_aload hx hb dX4_newLink_71 (lv_at hl 0 rfl) ?_
      refine lv_aload_n hx hb dX4_newLink_73 rfl (lv_at hl 5 rfl) ?_
      obtain ⟨lf69, elf69⟩ : ∃ g, g = (va_up lf (x_pv_linkCount).toInt.toNat (p1, p2, (lf (x_pv_linkCount).toInt.toNat).2.2.1, (some b1))) := ⟨_, rfl⟩
      have hP : va_P (dC, dI) cls (wp [(h_pv, .inr (3, (mo176 v_pv (.ref h_lks) (.int z67)))), (h_lks, .inl (cy_lks, 210, .inr (.inr (.inr (.inr f_lks)))))] (PL nr ra rf nl la lf69 ns sa sf)) H := by rw [elf69]; exact hP
      have hD : va_D A (wp [(h_pv, .inr (3, (mo176 v_pv (.ref h_lks) (.int z67)))), (h_lks, .inl (cy_lks, 210, .inr (.inr (.inr (.inr f_lks)))))] (PL nr ra rf nl la lf69 ns sa sf)) := by rw [elf69]; exact hD
      have slf69 : lf69 (x_pv_linkCount).toInt.toNat = (p1, p2, (lf (x_pv_linkCount).toInt.toNat).2.2.1, (some b1)) := by rw [elf69]; exact up_self _ _ _
      have olf69 : ∀ j : Nat, j ≠ (x_pv_linkCount).toInt.toNat → lf69 j = lf j := fun j hj => by rw [elf69]; exact up_ne hj
      have pb9 : PB la (x_pv_linkCount).toInt (some b1) := pb_mono hn_pb (by omega) (fun m hm => ag0 m (by omega))
      have hPc : va_P (dC, dI) cls (wp [] (PL nr ra rf nl la lf69 ns sa sf)) H := va_P.part (cx := []) hP [] rfl
      have hDc : va_D A (wp [] (PL nr ra rf nl la lf69 ns sa sf)) := va_D.part (cx := []) hD [] (by decide) rfl
      have hKc := hK.sub (tys' := []) [] rfl
      have hFc : ∀ q, va_A (wp [] (PL nr ra rf nl la lf69 ns sa sf)) H.size q → A q := va_freeP (cx := []) hD hS hA [] rfl
      refine va_calli (va_runSN (As := [.ref b1]) (rest := [.ref (la (x_pv_linkCount).toInt.toNat)]) ⟨hx, hb, hml, hown, hts⟩ (c_X10_lengthOf l dC dI H.size nr ra rf nl la lf69 ns sa sf (some b1) (x_pv_linkCount).toInt (by first | exact q3 | omega) pb9) ⟨va_cnB (host := "OppositePairs") 1 hts (gd hT w_code_X10_lengthOf) rfl rfl rfl (hN _ n_m_X4_240) (hw _ w_ini_X10) (by decide +kernel) ⟨(by dsimp only [headSpec]; omega), (by dsimp only [headSpec]; omega)⟩, hw _ w_static_X10_lengthOf, trivial⟩ ⟨pre_blind, pre_of hPc hKc hDc hN⟩ rfl rfl hl.1 rfl (lv_room (Nat.le_of_ble_eq_true rfl)) dX4_newLink_74 ⟨(by dsimp only [headSpec]; omega), (by dsimp only [headSpec]; omega)⟩) hS (fun q _ h => hFc q h) hFc (fun r70 u t H locs ht hvm hq hB hz1 hk1 hS9 => ?_)
      obtain ⟨hP1, hD1⟩ := hB
      rw [ht] at hP1
      obtain ⟨hP9, hD9⟩ := va_joinP (wr := [(h_pv, .inr (3, (mo176 v_pv (.ref h_lks) (.int z67)))), (h_lks, .inl (cy_lks, 210, .inr (.inr (.inr (.inr f_lks)))))]) (rx := []) (cx := []) hP hD [] [0, 1] rfl rfl (by decide) (by decide) hk1 hFc hP1 hD1
      clear hP hD hS hPc hDc hKc hFc hP1 hD1 hk1 hz1 ht hvm
      have hP : va_P (dC, dI) cls (wp [(h_pv, .inr (3, (mo176 v_pv (.ref h_lks) (.int z67)))), (h_lks, .inl (cy_lks, 210, .inr (.inr (.inr (.inr f_lks)))))] (PL nr ra rf nl la lf69 ns sa sf)) H := hP9
      have hD : va_D A (wp [(h_pv, .inr (3, (mo176 v_pv (.ref h_lks) (.int z67)))), (h_lks, .inl (cy_lks, 210, .inr (.inr (.inr (.inr f_lks)))))] (PL nr ra rf nl la lf69 ns sa sf)) := hD9
      have hS := hS9
      clear hP9 hD9 hS9
      refine lv_iconst (v := 1) hx hb dX4_newLink_77 (by decide) ?_
      refine lv_iadd hx hb dX4_newLink_78 ?_
      refine lv_topi (fun z71 ez71 => ?_)
      refine va_putN (D := (dC, dI)) (ci := 10) (v := .int z71) (ty := tyX2 2) (C := RX2) (T := TX2) (N := 4) (host := "OppositePairs") hx hb hw iwX2 tyX2 tyX2_ok nmX2 hown hK hP hD hS (2 + (nr + (x_pv_linkCount).toInt.toNat)) (pl_L (X := [(h_pv, .inr (3, (mo176 v_pv (.ref h_lks) (.int z67)))), (h_lks, .inl (cy_lks, 210, .inr (.inr (.inr (.inr f_lks)))))]) (by omega)) rfl 2 (by decide) (hN.use n_f_X4_266 rfl) (fun _ h9 => h9) rfl (tyX2_ok 2 (by decide)) rfl rfl (Nat.le_of_ble_eq_true rfl) dX4_newLink_79 (fun H locs hP hD hS => ?_)
      have hP : va_P (dC, dI) cls (wp [(h_pv, .inr (3, (mo176 v_pv (.ref h_lks) (.int z67)))), (h_lks, .inl (cy_lks, 210, .inr (.inr (.inr (.inr f_lks)))))] (PL nr ra rf nl la (va_up lf69 (x_pv_linkCount).toInt.toNat ((lf69 (x_pv_linkCount).toInt.toNat).1, (lf69 (x_pv_linkCount).toInt.toNat).2.1, z71, (lf69 (x_pv_linkCount).toInt.toNat).2.2.2)) ns sa sf)) H := by rw [← pl_setL (i := (x_pv_linkCount).toInt.toNat) (by omega)]; exact hP
      have hD : va_D A (wp [(h_pv, .inr (3, (mo176 v_pv (.ref h_lks) (.int z67)))), (h_lks, .inl (cy_lks, 210, .inr (.inr (.inr (.inr f_lks)))))] (PL nr ra rf nl la (va_up lf69 (x_pv_linkCount).toInt.toNat ((lf69 (x_pv_linkCount).toInt.toNat).1, (lf69 (x_pv_linkCount).toInt.toNat).2.1, z71, (lf69 (x_pv_linkCount).toInt.toNat).2.2.2)) ns sa sf)) := by rw [← pl_setL (i := (x_pv_linkCount).toInt.toNat) (by omega)]; exact hD
      refine lv_aload hx hb dX4_newLink_82 (lv_at hl 0 rfl) ?_
      obtain ⟨lf72, elf72⟩ : ∃ g, g = (va_up lf69 (x_pv_linkCount).toInt.toNat ((lf69 (x_pv_linkCount).toInt.toNat).1, (lf69 (x_pv_linkCount).toInt.toNat).2.1, z71, (lf69 (x_pv_linkCount).toInt.toNat).2.2.2)) := ⟨_, rfl⟩
      have hP : va_P (dC, dI) cls (wp [(h_pv, .inr (3, (mo176 v_pv (.ref h_lks) (.int z67)))), (h_lks, .inl (cy_lks, 210, .inr (.inr (.inr (.inr f_lks)))))] (PL nr ra rf nl la lf72 ns sa sf)) H := by rw [elf72]; exact hP
      have hD : va_D A (wp [(h_pv, .inr (3, (mo176 v_pv (.ref h_lks) (.int z67)))), (h_lks, .inl (cy_lks, 210, .inr (.inr (.inr (.inr f_lks)))))] (PL nr ra rf nl la lf72 ns sa sf)) := by rw [elf72]; exact hD
      have slf72 : lf72 (x_pv_linkCount).toInt.toNat = ((lf69 (x_pv_linkCount).toInt.toNat).1, (lf69 (x_pv_linkCount).toInt.toNat).2.1, z71, (lf69 (x_pv_linkCount).toInt.toNat).2.2.2) := by rw [elf72]; exact up_self _ _ _
      have olf72 : ∀ j : Nat, j ≠ (x_pv_linkCount).toInt.toNat → lf72 j = lf69 j := fun j hj => by rw [elf72]; exact up_ne hj
      have lk73s : lf72 (x_pv_linkCount).toInt.toNat = (p1, p2, z71, (some b1)) := by rw [slf72, slf69]
      have lk73o : ∀ j : Nat, j ≠ (x_pv_linkCount).toInt.toNat → lf72 j = lf j := fun j hj => (olf72 j hj).trans (olf69 j hj)
      have lk73 : LOK nl la lf72 := lok_set hn_lok lk73o lk73s (by omega) (by omega) (pb_mono pb9 (by omega) (fun m hm => rfl))
      have lk73n : ∀ i : Nat, i ≠ (x_pv_linkCount).toInt.toNat → lf72 i = lf i := fun i hi => (lk73o i hi).trans (af0 i hi)
      refine W.widen (k := ((x_pv_linkCount).toInt.toNat + 1 - nl)) (n := 4 * ((x_pv_linkCount).toInt.toNat + 1 - nl)) (by omega) (by omega) ?_
      have w74 : 0 ≤ ((z67)).toInt ∧ ((z67)).toInt ≤ 210 := by omega
      have w75 : ((z67)).toInt = (x_pv_linkCount).toInt + 1 := by omega
      have w76 : nl ≤ (nl) ∧ (x_pv_linkCount).toInt + 1 ≤ (nl) := by omega
      have w77 : GR2 nl (nl) ((z67)).toInt := (gr2_same rfl (by omega))
      have w78 : PFX (nl) 210 (f_lks) (la) := hn_pk
      have w79 : LOK (nl) (la) (lf72) := lk73
      have w80 : ∀ i : Nat, i < nl → (la) i = la i := ag0
      have w81 : ∀ i : Nat, i ≠ (x_pv_linkCount).toInt.toNat → (lf72) i = lf i := lk73n
      have w82 : (some (la (x_pv_linkCount).toInt.toNat) : Option Nat) = some ((la) (x_pv_linkCount).toInt.toNat) := rfl
      exact W.aret (v := va_rf (some (la (x_pv_linkCount).toInt.toNat))) hx hb hr (Or.inl ⟨_, rfl⟩) (va_rf_or _) (fun t ht hW => ⟨⟨(some (la (x_pv_linkCount).toInt.toNat)), (z67, f_lks, nl, la, lf72), rfl, ⟨w74, w75, w76, w77, w78, w79, w80, w81, w82⟩, by rw [ht]; exact hP, hD⟩, hS.F ht⟩) hS.2.2 dX4_newLink_84

set_option maxHeartbeats 8000000 in
set_option maxRecDepth 100000 in
theorem c_X4_has_e (l : Launch) (dC : Nat → ClassId) (dI : Nat → Nat → Nat) (sz : Nat) (h_pv : Nat) (v_pv : Nat → Value) (x_pv_options : Int32) (p1 : Int32)  : Met l yX4_has (Ws yX4_has cX4_has 2 (some .boolean)) (({ frames := 0, cells := 0, slots := 0, locals := 0 } : Room)) (PRE (dC, dI) cls [] [(h_pv, .inr (3, (mo42 v_pv (.int x_pv_options))))] sz [.ref h_pv, .int p1]) (va_Qi (fun (r : Int32) (_ : Unit) => (0 ≤ r.toInt ∧ r.toInt ≤ 1) ∧ ((r).toInt = hasb x_pv_options p1)) (fun (_ : Unit) (t : State) => va_P (dC, dI) cls [(h_pv, .inr (3, (mo42 v_pv (.int x_pv_options))))] t.heap ∧ va_D (va_A [(h_pv, .inr (3, (mo42 v_pv (.int x_pv_options))))] sz) [(h_pv, .inr (3, (mo42 v_pv (.int x_pv_options))))]) (va_A [(h_pv, .inr (3, (mo42 v_pv (.int x_pv_options))))] sz)) (0) (0) (va_A [(h_pv, .inr (3, (mo42 v_pv (.int x_pv_options))))] sz) := by
  refine Met.ofW (cc := cX4_has) (maxL := 2) (ret := (some .boolean)) (by decide) rfl ?_
  intro p e s m args below meth c s₁ B hml hv
  obtain ⟨rfl, hsz, hP, hK, hD0, hN⟩ := hv
  have hx := B.exec
  have hb := B.bytes
  have hr := B.returns
  have hts := atoms_spec (ws := Ws yX4_has cX4_has 2 (some .boolean)) B.pre
  have hT : ∀ w ∈ WALL, w ∈ Ws yX4_has cX4_has 2 (some .boolean) := fun w h => List.mem_cons_of_mem _ h
  have hw := fun w (h : w ∈ WALL) => hts w (hT w h)
  have hown : s.vm.findClass RX4 = some m.cls := findClass_of_methodNamed B.named
  have hlocks := B.notSynchronized
  subst hsz
  have hD := hD0.self (sz := s.heap.size)
  generalize hAe : va_A [(h_pv, .inr (3, (mo42 v_pv (.int x_pv_options))))] s.heap.size = A at hD ⊢
  have hA : ∀ q : Nat, s.heap.size ≤ q → A q := fun q h => by rw [← hAe]; exact Or.inr h
  have hS : va_S A s.heap s.heap [] := va_S.rf
  have hl := lv_entry ([.ref h_pv, .int p1]) (n := 2) (Nat.le_of_ble_eq_true rfl)
  rw [lg_entry_eq]
  generalize (lg_sl ([.ref h_pv, .int p1]) ++ List.replicate (2 - (lg_sl ([.ref h_pv, .int p1])).length) Slot.unset).toArray = ls at hl ⊢
  have hl : lv_has ls 2 [(0, .ref h_pv), (1, .int p1)] := hl
  refine lv_aload_n hx hb dX4_has_0 rfl (lv_at hl 0 rfl) ?_
  refine va_get (D := (dC, dI)) (ci := 3) (v := .int x_pv_options) (C := RX4) (T := TX4) (N := 18) hx hb hw iwX4 hown hK hP 0 rfl rfl 11 (by decide) (hw _ w_f_X4_61) (fun _ h9 => h9) rfl dX4_has_1 ?_
  refine lv_iload_n hx hb dX4_has_4 rfl (lv_at hl 1 rfl) ?_
  refine lv_iand hx hb dX4_has_5 ?_
  refine lv_topi (fun z1 ez1 => ?_)
  refine lv_if_eq (tgt := 13) hx hb dX4_has_6 (by decide) (fun c2 => ?_) (fun c2 => ?_)
  · have kc2 := (cv_eq (rfl : (z1).toInt = (z1).toInt) (by decide : (0 : Int32).toInt = 0)).mp c2
    refine lv_iconst (v := 0) hx hb dX4_has_13 (by decide) ?_
    refine W.widen (k := 0) (n := 0) (Nat.le_of_ble_eq_true rfl) (Nat.le_of_ble_eq_true rfl) ?_
    have cst0 : (0 : Int32).toInt = 0 := by decide
    have w3 : 0 ≤ (0 : Int32).toInt ∧ (0 : Int32).toInt ≤ 1 := by decide
    have w4 : ((0 : Int32)).toInt = hasb x_pv_options p1 := by unfold hasb; rw [← ez1]; split <;> omega
    exact W.zret (v := 0) (ty := .boolean) hx hb hr (by decide) (fun t ht hW => ⟨⟨0, (), rfl, ⟨w3, w4⟩, by rw [ht]; exact hP, hD⟩, hS.F ht⟩) hS.2.2 dX4_has_14
  · have kc2 := (not_congr (cv_eq (rfl : (z1).toInt = (z1).toInt) (by decide : (0 : Int32).toInt = 0))).mp c2
    refine lv_iconst (v := 1) hx hb dX4_has_9 (by decide) ?_
    refine lv_goto (tgt := 14) hx hb dX4_has_10 (by decide) ?_
    refine W.widen (k := 0) (n := 0) (Nat.le_of_ble_eq_true rfl) (Nat.le_of_ble_eq_true rfl) ?_
    have cst1 : (1 : Int32).toInt = 1 := by decide
    have w5 : 0 ≤ (1 : Int32).toInt ∧ (1 : Int32).toInt ≤ 1 := by decide
    have w6 : ((1 : Int32)).toInt = hasb x_pv_options p1 := by unfold hasb; rw [← ez1]; split <;> omega
    exact W.zret (v := 1) (ty := .boolean) hx hb hr (by decide) (fun t ht hW => ⟨⟨1, (), rfl, ⟨w5, w6⟩, by rw [ht]; exact hP, hD⟩, hS.F ht⟩) hS.2.2 dX4_has_14

set_option maxHeartbeats 8000000 in
set_option maxRecDepth 100000 in
theorem c_X4_closeBy (l : Launch) (dC : Nat → ClassId) (dI : Nat → Nat → Nat) (sz : Nat) (h_pv : Nat) (nr : Nat) (ra : Nat → Nat) (rf : Nat → RT) (nl : Nat) (la : Nat → Nat) (lf : Nat → LT) (ns : Nat) (sa : Nat → Nat) (sf : Nat → ST) (v_pv : Nat → Value) (x_pv_options : Int32) (p2 : Int32) (p3 : Int32) (p4 : Int32) (j1 : Nat) (vR : Int) (vL : Int) (vS : Int) (vI : Int) (q0 : j1 < ns) (q1 : (j1 : Int) < vS) (q2 : 0 ≤ (p3).toInt ∧ (p3).toInt ≤ 29) (q3 : 0 ≤ (p4).toInt ∧ (p4).toInt ≤ 5) (hn_sok : SOK ns sf nr ra nl la) (hn_lvs : LVS vR vL vS vI ra rf la sf) : Met l yX4_closeBy (Ws yX4_closeBy cX4_closeBy 5 (some .boolean)) (({ frames := 1, cells := 0, slots := 0, locals := 21 } : Room)) (PRE (dC, dI) cls [] (wp [(h_pv, .inr (3, (mo42 v_pv (.int x_pv_options))))] (PL nr ra rf nl la lf ns sa sf)) sz [.ref h_pv, .ref (sa j1), .int p2, .int p3, .int p4]) (va_Qi (fun (r : Int32) (u : (Nat → ST)) => (1 ≤ r.toInt ∧ r.toInt ≤ 1) ∧ (SOK ns u nr ra nl la) ∧ (LVS vR vL vS vI ra rf la u) ∧ ((∀ j : Nat, j ≠ j1 → u j = sf j) ∧ (u j1).2.1 = p2 ∧ sIM (u j1) = sIM (sf j1) ∧ sRM (u j1) = sRM (sf j1) ∧ sLM (u j1) = sLM (sf j1))) (fun (u : (Nat → ST)) (t : State) => va_P (dC, dI) cls (wp [(h_pv, .inr (3, (mo42 v_pv (.int x_pv_options))))] (PL nr ra rf nl la lf ns sa u)) t.heap ∧ va_D (va_A (wp [(h_pv, .inr (3, (mo42 v_pv (.int x_pv_options))))] (PL nr ra rf nl la lf ns sa sf)) sz) (wp [(h_pv, .inr (3, (mo42 v_pv (.int x_pv_options))))] (PL nr ra rf nl la lf ns sa u))) (va_A (wp [(h_pv, .inr (3, (mo42 v_pv (.int x_pv_options))))] (PL nr ra rf nl la lf ns sa sf)) sz)) (0) (0) (va_A (wp [(h_pv, .inr (3, (mo42 v_pv (.int x_pv_options))))] (PL nr ra rf nl la lf ns sa sf)) sz) := by
  refine Met.ofW (cc := cX4_closeBy) (maxL := 5) (ret := (some .boolean)) (by decide) rfl ?_
  intro p e s m args below meth c s₁ B hml hv
  obtain ⟨rfl, hsz, hP, hK, hD0, hN⟩ := hv
  have hx := B.exec
  have hb := B.bytes
  have hr := B.returns
  have hts := atoms_spec (ws := Ws yX4_closeBy cX4_closeBy 5 (some .boolean)) B.pre
  have hT : ∀ w ∈ WALL, w ∈ Ws yX4_closeBy cX4_closeBy 5 (some .boolean) := fun w h => List.mem_cons_of_mem _ h
  have hw := fun w (h : w ∈ WALL) => hts w (hT w h)
  have hown : s.vm.findClass RX4 = some m.cls := findClass_of_methodNamed B.named
  have hlocks := B.notSynchronized
  subst hsz
  have hD := hD0.self (sz := s.heap.size)
  generalize hAe : va_A (wp [(h_pv, .inr (3, (mo42 v_pv (.int x_pv_options))))] (PL nr ra rf nl la lf ns sa sf)) s.heap.size = A at hD ⊢
  have hA : ∀ q : Nat, s.heap.size ≤ q → A q := fun q h => by rw [← hAe]; exact Or.inr h
  have hS : va_S A s.heap s.heap [] := va_S.rf
  have hl := lv_entry ([.ref h_pv, .ref (sa j1), .int p2, .int p3, .int p4]) (n := 5) (Nat.le_of_ble_eq_true rfl)
  rw [lg_entry_eq]
  generalize (lg_sl ([.ref h_pv, .ref (sa j1), .int p2, .int p3, .int p4]) ++ List.replicate (5 - (lg_sl ([.ref h_pv, .ref (sa j1), .int p2, .int p3, .int p4])).length) Slot.unset).toArray = ls at hl ⊢
  have hl : lv_has ls 5 [(0, .ref h_pv), (1, .ref (sa j1)), (2, .int p2), (3, .int p3), (4, .int p4)] := hl
  refine lv_aload_n hx hb dX4_closeBy_0 rfl (lv_at hl 1 rfl) ?_
  refine lv_iload_n hx hb dX4_closeBy_1 rfl (lv_at hl 2 rfl) ?_
  refine va_putN (D := (dC, dI)) (ci := 11) (v := .int p2) (ty := tyX7 1) (C := RX7) (T := TX7) (N := 12) (host := "OppositePairs") hx hb hw iwX7 tyX7 tyX7_ok nmX7 hown hK hP hD hS (1 + (nr + (nl + j1))) (pl_S (X := [(h_pv, .inr (3, (mo42 v_pv (.int x_pv_options))))]) (by omega)) rfl 1 (by decide) (hN.use n_f_X4_250 rfl) (fun _ h9 => h9) rfl (tyX7_ok 1 (by decide)) rfl rfl (Nat.le_of_ble_eq_true rfl) dX4_closeBy_2 (fun H locs hP hD hS => ?_)
  have hP : va_P (dC, dI) cls (wp [(h_pv, .inr (3, (mo42 v_pv (.int x_pv_options))))] (PL nr ra rf nl la lf ns sa (va_up sf j1 ((sf j1).1, p2, (sf j1).2.2.1, (sf j1).2.2.2.1, (sf j1).2.2.2.2.1, (sf j1).2.2.2.2.2.1, (sf j1).2.2.2.2.2.2.1, (sf j1).2.2.2.2.2.2.2.1, (sf j1).2.2.2.2.2.2.2.2.1, (sf j1).2.2.2.2.2.2.2.2.2.1, (sf j1).2.2.2.2.2.2.2.2.2.2.1, (sf j1).2.2.2.2.2.2.2.2.2.2.2)))) H := by rw [← pl_setS (i := j1) (by omega)]; exact hP
  have hD : va_D A (wp [(h_pv, .inr (3, (mo42 v_pv (.int x_pv_options))))] (PL nr ra rf nl la lf ns sa (va_up sf j1 ((sf j1).1, p2, (sf j1).2.2.1, (sf j1).2.2.2.1, (sf j1).2.2.2.2.1, (sf j1).2.2.2.2.2.1, (sf j1).2.2.2.2.2.2.1, (sf j1).2.2.2.2.2.2.2.1, (sf j1).2.2.2.2.2.2.2.2.1, (sf j1).2.2.2.2.2.2.2.2.2.1, (sf j1).2.2.2.2.2.2.2.2.2.2.1, (sf j1).2.2.2.2.2.2.2.2.2.2.2)))) := by rw [← pl_setS (i := j1) (by omega)]; exact hD
  refine lv_aload_n hx hb dX4_closeBy_5 rfl (lv_at hl 1 rfl) ?_
  refine lv_iload_n hx hb dX4_closeBy_6 rfl (lv_at hl 3 rfl) ?_
  refine va_putN (D := (dC, dI)) (ci := 11) (v := .int p3) (ty := tyX7 2) (C := RX7) (T := TX7) (N := 12) (host := "OppositePairs") hx hb hw iwX7 tyX7 tyX7_ok nmX7 hown hK hP hD hS (1 + (nr + (nl + j1))) (pl_S2 (X := [(h_pv, .inr (3, (mo42 v_pv (.int x_pv_options))))]) (by omega)) rfl 2 (by decide) (hN.use n_f_X4_253 rfl) (fun _ h9 => h9) rfl (tyX7_ok 2 (by decide)) rfl rfl (Nat.le_of_ble_eq_true rfl) dX4_closeBy_7 (fun H locs hP hD hS => ?_)
  have hP : va_P (dC, dI) cls (wp [(h_pv, .inr (3, (mo42 v_pv (.int x_pv_options))))] (PL nr ra rf nl la lf ns sa (va_up sf j1 ((sf j1).1, p2, p3, (sf j1).2.2.2.1, (sf j1).2.2.2.2.1, (sf j1).2.2.2.2.2.1, (sf j1).2.2.2.2.2.2.1, (sf j1).2.2.2.2.2.2.2.1, (sf j1).2.2.2.2.2.2.2.2.1, (sf j1).2.2.2.2.2.2.2.2.2.1, (sf j1).2.2.2.2.2.2.2.2.2.2.1, (sf j1).2.2.2.2.2.2.2.2.2.2.2)))) H := by rw [← pl_setS2 (i := j1) (by omega)]; exact hP
  have hD : va_D A (wp [(h_pv, .inr (3, (mo42 v_pv (.int x_pv_options))))] (PL nr ra rf nl la lf ns sa (va_up sf j1 ((sf j1).1, p2, p3, (sf j1).2.2.2.1, (sf j1).2.2.2.2.1, (sf j1).2.2.2.2.2.1, (sf j1).2.2.2.2.2.2.1, (sf j1).2.2.2.2.2.2.2.1, (sf j1).2.2.2.2.2.2.2.2.1, (sf j1).2.2.2.2.2.2.2.2.2.1, (sf j1).2.2.2.2.2.2.2.2.2.2.1, (sf j1).2.2.2.2.2.2.2.2.2.2.2)))) := by rw [← pl_setS2 (i := j1) (by omega)]; exact hD
  refine lv_aload_n hx hb dX4_closeBy_10 rfl (lv_at hl 1 rfl) ?_
  refine lv_iload hx hb dX4_closeBy_11 (lv_at hl 4 rfl) ?_
  refine va_putN (D := (dC, dI)) (ci := 11) (v := .int p4) (ty := tyX7 3) (C := RX7) (T := TX7) (N := 12) (host := "OppositePairs") hx hb hw iwX7 tyX7 tyX7_ok nmX7 hown hK hP hD hS (1 + (nr + (nl + j1))) (pl_S2 (X := [(h_pv, .inr (3, (mo42 v_pv (.int x_pv_options))))]) (by omega)) rfl 3 (by decide) (hN.use n_f_X4_256 rfl) (fun _ h9 => h9) rfl (tyX7_ok 3 (by decide)) rfl rfl (Nat.le_of_ble_eq_true rfl) dX4_closeBy_13 (fun H locs hP hD hS => ?_)
  have hP : va_P (dC, dI) cls (wp [(h_pv, .inr (3, (mo42 v_pv (.int x_pv_options))))] (PL nr ra rf nl la lf ns sa (va_up sf j1 ((sf j1).1, p2, p3, p4, (sf j1).2.2.2.2.1, (sf j1).2.2.2.2.2.1, (sf j1).2.2.2.2.2.2.1, (sf j1).2.2.2.2.2.2.2.1, (sf j1).2.2.2.2.2.2.2.2.1, (sf j1).2.2.2.2.2.2.2.2.2.1, (sf j1).2.2.2.2.2.2.2.2.2.2.1, (sf j1).2.2.2.2.2.2.2.2.2.2.2)))) H := by rw [← pl_setS2 (i := j1) (by omega)]; exact hP
  have hD : va_D A (wp [(h_pv, .inr (3, (mo42 v_pv (.int x_pv_options))))] (PL nr ra rf nl la lf ns sa (va_up sf j1 ((sf j1).1, p2, p3, p4, (sf j1).2.2.2.2.1, (sf j1).2.2.2.2.2.1, (sf j1).2.2.2.2.2.2.1, (sf j1).2.2.2.2.2.2.2.1, (sf j1).2.2.2.2.2.2.2.2.1, (sf j1).2.2.2.2.2.2.2.2.2.1, (sf j1).2.2.2.2.2.2.2.2.2.2.1, (sf j1).2.2.2.2.2.2.2.2.2.2.2)))) := by rw [← pl_setS2 (i := j1) (by omega)]; exact hD
  refine lv_aload_n hx hb dX4_closeBy_16 rfl (lv_at hl 1 rfl) ?_
  refine lv_iload_n hx hb dX4_closeBy_17 rfl (lv_at hl 2 rfl) ?_
  refine lv_iconst (v := 3) hx hb dX4_closeBy_18 (by decide) ?_
  refine lv_icmp_eq (tgt := 34) hx hb dX4_closeBy_19 (by decide) (fun c1 => ?_) (fun c1 => ?_)
  · have kc1 := (cv_eq (rfl : (p2).toInt = (p2).toInt) (by decide : (3 : Int32).toInt = 3)).mp c1
    refine lv_iconst (v := 0) hx hb dX4_closeBy_34 (by decide) ?_
    refine va_putN (D := (dC, dI)) (ci := 11) (v := .int 0) (ty := tyX7 7) (C := RX7) (T := TX7) (N := 12) (host := "OppositePairs") hx hb hw iwX7 tyX7 tyX7_ok nmX7 hown hK hP hD hS (1 + (nr + (nl + j1))) (pl_S2 (X := [(h_pv, .inr (3, (mo42 v_pv (.int x_pv_options))))]) (by omega)) rfl 7 (by decide) (hN.use n_f_X4_151 rfl) (fun _ h9 => h9) rfl (tyX7_ok 7 (by decide)) rfl rfl (Nat.le_of_ble_eq_true rfl) dX4_closeBy_35 (fun H locs hP hD hS => ?_)
    have hP : va_P (dC, dI) cls (wp [(h_pv, .inr (3, (mo42 v_pv (.int x_pv_options))))] (PL nr ra rf nl la lf ns sa (va_up sf j1 ((sf j1).1, p2, p3, p4, (sf j1).2.2.2.2.1, (sf j1).2.2.2.2.2.1, (sf j1).2.2.2.2.2.2.1, (0 : Int32), (sf j1).2.2.2.2.2.2.2.2.1, (sf j1).2.2.2.2.2.2.2.2.2.1, (sf j1).2.2.2.2.2.2.2.2.2.2.1, (sf j1).2.2.2.2.2.2.2.2.2.2.2)))) H := by rw [← pl_setS2 (i := j1) (by omega)]; exact hP
    have hD : va_D A (wp [(h_pv, .inr (3, (mo42 v_pv (.int x_pv_options))))] (PL nr ra rf nl la lf ns sa (va_up sf j1 ((sf j1).1, p2, p3, p4, (sf j1).2.2.2.2.1, (sf j1).2.2.2.2.2.1, (sf j1).2.2.2.2.2.2.1, (0 : Int32), (sf j1).2.2.2.2.2.2.2.2.1, (sf j1).2.2.2.2.2.2.2.2.2.1, (sf j1).2.2.2.2.2.2.2.2.2.2.1, (sf j1).2.2.2.2.2.2.2.2.2.2.2)))) := by rw [← pl_setS2 (i := j1) (by omega)]; exact hD
    refine lv_iconst (v := 1) hx hb dX4_closeBy_38 (by decide) ?_
    obtain ⟨sf2, esf2⟩ : ∃ g, g = (va_up sf j1 ((sf j1).1, p2, p3, p4, (sf j1).2.2.2.2.1, (sf j1).2.2.2.2.2.1, (sf j1).2.2.2.2.2.2.1, (0 : Int32), (sf j1).2.2.2.2.2.2.2.2.1, (sf j1).2.2.2.2.2.2.2.2.2.1, (sf j1).2.2.2.2.2.2.2.2.2.2.1, (sf j1).2.2.2.2.2.2.2.2.2.2.2)) := ⟨_, rfl⟩
    have hP : va_P (dC, dI) cls (wp [(h_pv, .inr (3, (mo42 v_pv (.int x_pv_options))))] (PL nr ra rf nl la lf ns sa sf2)) H := by rw [esf2]; exact hP
    have hD : va_D A (wp [(h_pv, .inr (3, (mo42 v_pv (.int x_pv_options))))] (PL nr ra rf nl la lf ns sa sf2)) := by rw [esf2]; exact hD
    have ssf2 : sf2 j1 = ((sf j1).1, p2, p3, p4, (sf j1).2.2.2.2.1, (sf j1).2.2.2.2.2.1, (sf j1).2.2.2.2.2.2.1, (0 : Int32), (sf j1).2.2.2.2.2.2.2.2.1, (sf j1).2.2.2.2.2.2.2.2.2.1, (sf j1).2.2.2.2.2.2.2.2.2.2.1, (sf j1).2.2.2.2.2.2.2.2.2.2.2) := by rw [esf2]; exact up_self _ _ _
    have osf2 : ∀ j : Nat, j ≠ j1 → sf2 j = sf j := fun j hj => by rw [esf2]; exact up_ne hj
    have sk3b := hn_sok j1 (by omega)
    have cs0 : (0 : Int32).toInt = 0 := by decide
    have cs1 : (1 : Int32).toInt = 1 := by decide
    have sk3 : SOK ns sf2 nr ra nl la := sok_set hn_sok osf2 ssf2 sk3b.1 (by omega) (by omega) sk3b.2.2.2.1 sk3b.2.2.2.2.1 sk3b.2.2.2.2.2.1 (by omega)
    have sk3l : LVS vR vL vS vI ra rf la sf2 := lvs_set (k := j1) hn_lvs osf2 (by rw [ssf2]) (by rw [ssf2]; exact (hn_lvs j1 (by omega)).2.1) (by rw [ssf2]; exact ⟨rfl, rfl, rfl⟩)
    have sk3k : (∀ j : Nat, j ≠ j1 → sf2 j = sf j) ∧ (sf2 j1).2.1 = p2 ∧ sIM (sf2 j1) = sIM (sf j1) ∧ sRM (sf2 j1) = sRM (sf j1) ∧ sLM (sf2 j1) = sLM (sf j1) := ⟨osf2, by rw [ssf2], by rw [ssf2], by rw [ssf2], by rw [ssf2]⟩
    refine W.widen (k := 0) (n := 0) (Nat.le_of_ble_eq_true rfl) (Nat.le_of_ble_eq_true rfl) ?_
    have cst1 : (1 : Int32).toInt = 1 := by decide
    have w4 : 1 ≤ (1 : Int32).toInt ∧ (1 : Int32).toInt ≤ 1 := by decide
    have w5 : SOK ns (sf2) nr ra nl la := sk3
    have w6 : LVS vR vL vS vI ra rf la (sf2) := (lvs_cast sk3l (by first | rfl | omega) (by first | rfl | omega) (by first | rfl | omega) (by first | rfl | omega))
    have w7 : (∀ j : Nat, j ≠ j1 → (sf2) j = sf j) ∧ ((sf2) j1).2.1 = p2 ∧ sIM ((sf2) j1) = sIM (sf j1) ∧ sRM ((sf2) j1) = sRM (sf j1) ∧ sLM ((sf2) j1) = sLM (sf j1) := sk3k
    exact W.zret (v := 1) (ty := .boolean) hx hb hr (by decide) (fun t ht hW => ⟨⟨1, sf2, rfl, ⟨w4, w5, w6, w7⟩, by rw [ht]; exact hP, hD⟩, hS.F ht⟩) hS.2.2 dX4_closeBy_39
  · have kc1 := (not_congr (cv_eq (rfl : (p2).toInt = (p2).toInt) (by decide : (3 : Int32).toInt = 3))).mp c1
    refine lv_aload_n hx hb dX4_closeBy_22 rfl (lv_at hl 0 rfl) ?_
    refine lv_iconst (v := 4) hx hb dX4_closeBy_23 (by decide) ?_
    have cst4 : (4 : Int32).toInt = 4 := by decide
    have hPc := wp_P (cx := [(h_pv, .inr (3, (mo42 v_pv (.int x_pv_options))))]) hP [0] rfl
    have hDc := wp_D (cx := [(h_pv, .inr (3, (mo42 v_pv (.int x_pv_options))))]) hD [0] (by decide) rfl
    have hKc := hK.sub (tys' := []) [] rfl
    have hFc := wp_free (cx := [(h_pv, .inr (3, (mo42 v_pv (.int x_pv_options))))]) hD hS hA [0] rfl
    refine va_calli (va_runV (As := [.int 4]) (rest := [.ref (sa j1)]) ⟨hx, hb, hml, hown, hts⟩ (c_X4_has_e l dC dI H.size h_pv v_pv x_pv_options 4) (cwV 1 hts (gv hT w_m_X4_147 w_instanceMethod_X4_has ws_sel_X4_has w_ini_X4 w_code_X4_has) rfl rfl rfl (by decide +kernel) ⟨(Nat.le_of_ble_eq_true rfl), (Nat.le_of_ble_eq_true rfl)⟩) ⟨pre_blind, va_recv hK hP (ci := 3) (q0 := 0) rfl rfl, pre_of hPc hKc hDc hN⟩ rfl rfl hl.1 rfl (lv_room (Nat.le_of_ble_eq_true rfl)) dX4_closeBy_24 ⟨(Nat.le_of_ble_eq_true rfl), (Nat.le_of_ble_eq_true rfl)⟩) hS (fun q _ h => hFc q h) hFc (fun r8 u t H locs ht hvm hq hB hz1 hk1 hS9 => ?_)
    obtain ⟨hP1, hD1⟩ := hB
    rw [ht] at hP1
    obtain ⟨hP9, hD9⟩ := va_joinQ (wr := []) (w1 := [(h_pv, .inr (3, (mo42 v_pv (.int x_pv_options))))]) (cx := [(h_pv, .inr (3, (mo42 v_pv (.int x_pv_options))))]) hP hD [0] [] rfl rfl (by decide) (by decide) hk1 hFc hP1 hD1
    clear hP hD hS hPc hDc hKc hFc hP1 hD1 hk1 hz1 ht hvm
    have hP : va_P (dC, dI) cls (wp [(h_pv, .inr (3, (mo42 v_pv (.int x_pv_options))))] (PL nr ra rf nl la lf ns sa (va_up sf j1 ((sf j1).1, p2, p3, p4, (sf j1).2.2.2.2.1, (sf j1).2.2.2.2.2.1, (sf j1).2.2.2.2.2.2.1, (sf j1).2.2.2.2.2.2.2.1, (sf j1).2.2.2.2.2.2.2.2.1, (sf j1).2.2.2.2.2.2.2.2.2.1, (sf j1).2.2.2.2.2.2.2.2.2.2.1, (sf j1).2.2.2.2.2.2.2.2.2.2.2)))) H := hP9
    have hD : va_D A (wp [(h_pv, .inr (3, (mo42 v_pv (.int x_pv_options))))] (PL nr ra rf nl la lf ns sa (va_up sf j1 ((sf j1).1, p2, p3, p4, (sf j1).2.2.2.2.1, (sf j1).2.2.2.2.2.1, (sf j1).2.2.2.2.2.2.1, (sf j1).2.2.2.2.2.2.2.1, (sf j1).2.2.2.2.2.2.2.2.1, (sf j1).2.2.2.2.2.2.2.2.2.1, (sf j1).2.2.2.2.2.2.2.2.2.2.1, (sf j1).2.2.2.2.2.2.2.2.2.2.2)))) := hD9
    have hS := hS9
    clear hP9 hD9 hS9
    obtain ⟨k9, k10⟩ := hq
    replace k9 : 0 ≤ (r8).toInt ∧ (r8).toInt ≤ 1 := k9
    replace k10 : ((r8)).toInt = hasb (x_pv_options) (4 : Int32) := k10
    refine lv_if_eq (tgt := 34) hx hb dX4_closeBy_27 (by decide) (fun c11 => ?_) (fun c11 => ?_)
    · have kc11 := (cv_eq (rfl : (r8).toInt = (r8).toInt) (by decide : (0 : Int32).toInt = 0)).mp c11
      refine lv_iconst (v := 0) hx hb dX4_closeBy_34 (by decide) ?_
      refine va_putN (D := (dC, dI)) (ci := 11) (v := .int 0) (ty := tyX7 7) (C := RX7) (T := TX7) (N := 12) (host := "OppositePairs") hx hb hw iwX7 tyX7 tyX7_ok nmX7 hown hK hP hD hS (1 + (nr + (nl + j1))) (pl_S2 (X := [(h_pv, .inr (3, (mo42 v_pv (.int x_pv_options))))]) (by omega)) rfl 7 (by decide) (hN.use n_f_X4_151 rfl) (fun _ h9 => h9) rfl (tyX7_ok 7 (by decide)) rfl rfl (Nat.le_of_ble_eq_true rfl) dX4_closeBy_35 (fun H locs hP hD hS => ?_)
      have hP : va_P (dC, dI) cls (wp [(h_pv, .inr (3, (mo42 v_pv (.int x_pv_options))))] (PL nr ra rf nl la lf ns sa (va_up sf j1 ((sf j1).1, p2, p3, p4, (sf j1).2.2.2.2.1, (sf j1).2.2.2.2.2.1, (sf j1).2.2.2.2.2.2.1, (0 : Int32), (sf j1).2.2.2.2.2.2.2.2.1, (sf j1).2.2.2.2.2.2.2.2.2.1, (sf j1).2.2.2.2.2.2.2.2.2.2.1, (sf j1).2.2.2.2.2.2.2.2.2.2.2)))) H := by rw [← pl_setS2 (i := j1) (by omega)]; exact hP
      have hD : va_D A (wp [(h_pv, .inr (3, (mo42 v_pv (.int x_pv_options))))] (PL nr ra rf nl la lf ns sa (va_up sf j1 ((sf j1).1, p2, p3, p4, (sf j1).2.2.2.2.1, (sf j1).2.2.2.2.2.1, (sf j1).2.2.2.2.2.2.1, (0 : Int32), (sf j1).2.2.2.2.2.2.2.2.1, (sf j1).2.2.2.2.2.2.2.2.2.1, (sf j1).2.2.2.2.2.2.2.2.2.2.1, (sf j1).2.2.2.2.2.2.2.2.2.2.2)))) := by rw [← pl_setS2 (i := j1) (by omega)]; exact hD
      refine lv_iconst (v := 1) hx hb dX4_closeBy_38 (by decide) ?_
      obtain ⟨sf12, esf12⟩ : ∃ g, g = (va_up sf j1 ((sf j1).1, p2, p3, p4, (sf j1).2.2.2.2.1, (sf j1).2.2.2.2.2.1, (sf j1).2.2.2.2.2.2.1, (0 : Int32), (sf j1).2.2.2.2.2.2.2.2.1, (sf j1).2.2.2.2.2.2.2.2.2.1, (sf j1).2.2.2.2.2.2.2.2.2.2.1, (sf j1).2.2.2.2.2.2.2.2.2.2.2)) := ⟨_, rfl⟩
      have hP : va_P (dC, dI) cls (wp [(h_pv, .inr (3, (mo42 v_pv (.int x_pv_options))))] (PL nr ra rf nl la lf ns sa sf12)) H := by rw [esf12]; exact hP
      have hD : va_D A (wp [(h_pv, .inr (3, (mo42 v_pv (.int x_pv_options))))] (PL nr ra rf nl la lf ns sa sf12)) := by rw [esf12]; exact hD
      have ssf12 : sf12 j1 = ((sf j1).1, p2, p3, p4, (sf j1).2.2.2.2.1, (sf j1).2.2.2.2.2.1, (sf j1).2.2.2.2.2.2.1, (0 : Int32), (sf j1).2.2.2.2.2.2.2.2.1, (sf j1).2.2.2.2.2.2.2.2.2.1, (sf j1).2.2.2.2.2.2.2.2.2.2.1, (sf j1).2.2.2.2.2.2.2.2.2.2.2) := by rw [esf12]; exact up_self _ _ _
      have osf12 : ∀ j : Nat, j ≠ j1 → sf12 j = sf j := fun j hj => by rw [esf12]; exact up_ne hj
      have sk13b := hn_sok j1 (by omega)
      have cs0 : (0 : Int32).toInt = 0 := by decide
      have cs1 : (1 : Int32).toInt = 1 := by decide
      have sk13 : SOK ns sf12 nr ra nl la := sok_set hn_sok osf12 ssf12 sk13b.1 (by omega) (by omega) sk13b.2.2.2.1 sk13b.2.2.2.2.1 sk13b.2.2.2.2.2.1 (by omega)
      have sk13l : LVS vR vL vS vI ra rf la sf12 := lvs_set (k := j1) hn_lvs osf12 (by rw [ssf12]) (by rw [ssf12]; exact (hn_lvs j1 (by omega)).2.1) (by rw [ssf12]; exact ⟨rfl, rfl, rfl⟩)
      have sk13k : (∀ j : Nat, j ≠ j1 → sf12 j = sf j) ∧ (sf12 j1).2.1 = p2 ∧ sIM (sf12 j1) = sIM (sf j1) ∧ sRM (sf12 j1) = sRM (sf j1) ∧ sLM (sf12 j1) = sLM (sf j1) := ⟨osf12, by rw [ssf12], by rw [ssf12], by rw [ssf12], by rw [ssf12]⟩
      refine W.widen (k := 0) (n := 0) (Nat.le_of_ble_eq_true rfl) (Nat.le_of_ble_eq_true rfl) ?_
      have cst1 : (1 : Int32).toInt = 1 := by decide
      have w14 : 1 ≤ (1 : Int32).toInt ∧ (1 : Int32).toInt ≤ 1 := by decide
      have w15 : SOK ns (sf12) nr ra nl la := sk13
      have w16 : LVS vR vL vS vI ra rf la (sf12) := (lvs_cast sk13l (by first | rfl | omega) (by first | rfl | omega) (by first | rfl | omega) (by first | rfl | omega))
      have w17 : (∀ j : Nat, j ≠ j1 → (sf12) j = sf j) ∧ ((sf12) j1).2.1 = p2 ∧ sIM ((sf12) j1) = sIM (sf j1) ∧ sRM ((sf12) j1) = sRM (sf j1) ∧ sLM ((sf12) j1) = sLM (sf j1) := sk13k
      exact W.zret (v := 1) (ty := .boolean) hx hb hr (by decide) (fun t ht hW => ⟨⟨1, sf12, rfl, ⟨w14, w15, w16, w17⟩, by rw [ht]; exact hP, hD⟩, hS.F ht⟩) hS.2.2 dX4_closeBy_39
    · have kc11 := (not_congr (cv_eq (rfl : (r8).toInt = (r8).toInt) (by decide : (0 : Int32).toInt = 0))).mp c11
      replace kc11 : 1 ≤ (r8).toInt := by omega
      refine lv_iconst (v := 1) hx hb dX4_closeBy_30 (by decide) ?_
      refine lv_goto (tgt := 35) hx hb dX4_closeBy_31 (by decide) ?_
      refine va_putN (D := (dC, dI)) (ci := 11) (v := .int 1) (ty := tyX7 7) (C := RX7) (T := TX7) (N := 12) (host := "OppositePairs") hx hb hw iwX7 tyX7 tyX7_ok nmX7 hown hK hP hD hS (1 + (nr + (nl + j1))) (pl_S2 (X := [(h_pv, .inr (3, (mo42 v_pv (.int x_pv_options))))]) (by omega)) rfl 7 (by decide) (hN.use n_f_X4_151 rfl) (fun _ h9 => h9) rfl (tyX7_ok 7 (by decide)) rfl rfl (Nat.le_of_ble_eq_true rfl) dX4_closeBy_35 (fun H locs hP hD hS => ?_)
      have hP : va_P (dC, dI) cls (wp [(h_pv, .inr (3, (mo42 v_pv (.int x_pv_options))))] (PL nr ra rf nl la lf ns sa (va_up sf j1 ((sf j1).1, p2, p3, p4, (sf j1).2.2.2.2.1, (sf j1).2.2.2.2.2.1, (sf j1).2.2.2.2.2.2.1, (1 : Int32), (sf j1).2.2.2.2.2.2.2.2.1, (sf j1).2.2.2.2.2.2.2.2.2.1, (sf j1).2.2.2.2.2.2.2.2.2.2.1, (sf j1).2.2.2.2.2.2.2.2.2.2.2)))) H := by rw [← pl_setS2 (i := j1) (by omega)]; exact hP
      have hD : va_D A (wp [(h_pv, .inr (3, (mo42 v_pv (.int x_pv_options))))] (PL nr ra rf nl la lf ns sa (va_up sf j1 ((sf j1).1, p2, p3, p4, (sf j1).2.2.2.2.1, (sf j1).2.2.2.2.2.1, (sf j1).2.2.2.2.2.2.1, (1 : Int32), (sf j1).2.2.2.2.2.2.2.2.1, (sf j1).2.2.2.2.2.2.2.2.2.1, (sf j1).2.2.2.2.2.2.2.2.2.2.1, (sf j1).2.2.2.2.2.2.2.2.2.2.2)))) := by rw [← pl_setS2 (i := j1) (by omega)]; exact hD
      refine lv_iconst (v := 1) hx hb dX4_closeBy_38 (by decide) ?_
      obtain ⟨sf18, esf18⟩ : ∃ g, g = (va_up sf j1 ((sf j1).1, p2, p3, p4, (sf j1).2.2.2.2.1, (sf j1).2.2.2.2.2.1, (sf j1).2.2.2.2.2.2.1, (1 : Int32), (sf j1).2.2.2.2.2.2.2.2.1, (sf j1).2.2.2.2.2.2.2.2.2.1, (sf j1).2.2.2.2.2.2.2.2.2.2.1, (sf j1).2.2.2.2.2.2.2.2.2.2.2)) := ⟨_, rfl⟩
      have hP : va_P (dC, dI) cls (wp [(h_pv, .inr (3, (mo42 v_pv (.int x_pv_options))))] (PL nr ra rf nl la lf ns sa sf18)) H := by rw [esf18]; exact hP
      have hD : va_D A (wp [(h_pv, .inr (3, (mo42 v_pv (.int x_pv_options))))] (PL nr ra rf nl la lf ns sa sf18)) := by rw [esf18]; exact hD
      have ssf18 : sf18 j1 = ((sf j1).1, p2, p3, p4, (sf j1).2.2.2.2.1, (sf j1).2.2.2.2.2.1, (sf j1).2.2.2.2.2.2.1, (1 : Int32), (sf j1).2.2.2.2.2.2.2.2.1, (sf j1).2.2.2.2.2.2.2.2.2.1, (sf j1).2.2.2.2.2.2.2.2.2.2.1, (sf j1).2.2.2.2.2.2.2.2.2.2.2) := by rw [esf18]; exact up_self _ _ _
      have osf18 : ∀ j : Nat, j ≠ j1 → sf18 j = sf j := fun j hj => by rw [esf18]; exact up_ne hj
      have sk19b := hn_sok j1 (by omega)
      have cs0 : (0 : Int32).toInt = 0 := by decide
      have cs1 : (1 : Int32).toInt = 1 := by decide
      have sk19 : SOK ns sf18 nr ra nl la := sok_set hn_sok osf18 ssf18 sk19b.1 (by omega) (by omega) sk19b.2.2.2.1 sk19b.2.2.2.2.1 sk19b.2.2.2.2.2.1 (by omega)
      have sk19l : LVS vR vL vS vI ra rf la sf18 := lvs_set (k := j1) hn_lvs osf18 (by rw [ssf18]) (by rw [ssf18]; exact (hn_lvs j1 (by omega)).2.1) (by rw [ssf18]; exact ⟨rfl, rfl, rfl⟩)
      have sk19k : (∀ j : Nat, j ≠ j1 → sf18 j = sf j) ∧ (sf18 j1).2.1 = p2 ∧ sIM (sf18 j1) = sIM (sf j1) ∧ sRM (sf18 j1) = sRM (sf j1) ∧ sLM (sf18 j1) = sLM (sf j1) := ⟨osf18, by rw [ssf18], by rw [ssf18], by rw [ssf18], by rw [ssf18]⟩
      refine W.widen (k := 0) (n := 0) (Nat.le_of_ble_eq_true rfl) (Nat.le_of_ble_eq_true rfl) ?_
      have cst1 : (1 : Int32).toInt = 1 := by decide
      have w20 : 1 ≤ (1 : Int32).toInt ∧ (1 : Int32).toInt ≤ 1 := by decide
      have w21 : SOK ns (sf18) nr ra nl la := sk19
      have w22 : LVS vR vL vS vI ra rf la (sf18) := (lvs_cast sk19l (by first | rfl | omega) (by first | rfl | omega) (by first | rfl | omega) (by first | rfl | omega))
      have w23 : (∀ j : Nat, j ≠ j1 → (sf18) j = sf j) ∧ ((sf18) j1).2.1 = p2 ∧ sIM ((sf18) j1) = sIM (sf j1) ∧ sRM ((sf18) j1) = sRM (sf j1) ∧ sLM ((sf18) j1) = sLM (sf j1) := sk19k
      exact W.zret (v := 1) (ty := .boolean) hx hb hr (by decide) (fun t ht hW => ⟨⟨1, sf18, rfl, ⟨w20, w21, w22, w23⟩, by rw [ht]; exact hP, hD⟩, hS.F ht⟩) hS.2.2 dX4_closeBy_39

set_option maxHeartbeats 8000000 in
set_option maxRecDepth 100000 in
theorem c_X4_restOf (l : Launch) (dC : Nat → ClassId) (dI : Nat → Nat → Nat) (sz : Nat) (h_pv : Nat) (h_rws : Nat) (h_lks : Nat) (nr : Nat) (ra : Nat → Nat) (rf : Nat → RT) (nl : Nat) (la : Nat → Nat) (lf : Nat → LT) (ns : Nat) (sa : Nat → Nat) (sf : Nat → ST) (v_pv : Nat → Value) (x_pv_rowCount : Int32) (x_pv_linkCount : Int32) (x_pv_options : Int32) (cy_rws : ClassId) (f_rws : Nat → Option Nat) (cy_lks : ClassId) (f_lks : Nat → Option Nat) (rq : Nat) (hx_pv_rowCount : 0 ≤ (x_pv_rowCount).toInt ∧ (x_pv_rowCount).toInt ≤ 361) (hx_pv_linkCount : 0 ≤ (x_pv_linkCount).toInt ∧ (x_pv_linkCount).toInt ≤ 210) (q0 : (rq : Int) < (x_pv_rowCount).toInt) (q1 : (rf rq).2.2.1.toInt ≤ 5) (q2 : (x_pv_rowCount).toInt ≤ 360) (q3 : (x_pv_linkCount).toInt ≤ 209) (q4 : (x_pv_rowCount).toInt ≤ nr) (q5 : (x_pv_linkCount).toInt ≤ nl) (hn_pr : PFX nr 361 f_rws ra) (hn_pk : PFX nl 210 f_lks la) (hn_rok : ROK nr ra rf nl la) (hn_lok : LOK nl la lf) (hn_lvr : LVR (x_pv_rowCount).toInt (x_pv_linkCount).toInt ra rf la) : Met l yX4_restOf (Ws yX4_restOf cX4_restOf 3 (some (.object "OppositePairs$Row"))) (({ frames := 3, cells := ((x_pv_rowCount).toInt.toNat + 1 - nr) + ((x_pv_linkCount).toInt.toNat + (hasb x_pv_options 2).toNat - nl), slots := 7 * ((x_pv_rowCount).toInt.toNat + 1 - nr) + 4 * ((x_pv_linkCount).toInt.toNat + (hasb x_pv_options 2).toNat - nl), locals := 125 } : Room)) (PRE (dC, dI) cls [(cy_rws, .object "OppositePairs$Row"), (cy_lks, .object "OppositePairs$Link")] (wp [(h_pv, .inr (3, (mo177 v_pv (.ref h_rws) (.int x_pv_rowCount) (.ref h_lks) (.int x_pv_linkCount) (.int x_pv_options)))), (h_rws, .inl (cy_rws, 361, .inr (.inr (.inr (.inr f_rws))))), (h_lks, .inl (cy_lks, 210, .inr (.inr (.inr (.inr f_lks)))))] (PL nr ra rf nl la lf ns sa sf)) sz [.ref h_pv, .ref (ra rq)]) (va_Qq (fun (r : Option Nat) (u : (Int32) × (Int32) × (Nat → Option Nat) × (Nat → Option Nat) × (Nat) × (Nat → Nat) × (Nat → RT) × (Nat) × (Nat → Nat) × (Nat → LT)) => (0 ≤ (u.1).toInt ∧ (u.1).toInt ≤ 361) ∧ (0 ≤ (u.2.1).toInt ∧ (u.2.1).toInt ≤ 210) ∧ ((u.1).toInt = (x_pv_rowCount).toInt + 1) ∧ ((u.2.1).toInt = (x_pv_linkCount).toInt + hasb x_pv_options 2) ∧ (nr ≤ u.2.2.2.2.1 ∧ nl ≤ u.2.2.2.2.2.2.2.1 ∧ (u.1).toInt ≤ u.2.2.2.2.1 ∧ (u.2.1).toInt ≤ u.2.2.2.2.2.2.2.1) ∧ (GR2 nr u.2.2.2.2.1 (u.1).toInt) ∧ (GR2 nl u.2.2.2.2.2.2.2.1 (u.2.1).toInt) ∧ (PFX u.2.2.2.2.1 361 u.2.2.1 u.2.2.2.2.2.1) ∧ (PFX u.2.2.2.2.2.2.2.1 210 u.2.2.2.1 u.2.2.2.2.2.2.2.2.1) ∧ (ROK u.2.2.2.2.1 u.2.2.2.2.2.1 u.2.2.2.2.2.2.1 u.2.2.2.2.2.2.2.1 u.2.2.2.2.2.2.2.2.1) ∧ (LOK u.2.2.2.2.2.2.2.1 u.2.2.2.2.2.2.2.2.1 u.2.2.2.2.2.2.2.2.2) ∧ (LVR ((x_pv_rowCount).toInt + 1) (u.2.1).toInt u.2.2.2.2.2.1 u.2.2.2.2.2.2.1 u.2.2.2.2.2.2.2.2.1) ∧ (∀ i : Nat, i < nr → u.2.2.2.2.2.1 i = ra i) ∧ (∀ i : Nat, i < nl → u.2.2.2.2.2.2.2.2.1 i = la i) ∧ (∀ i : Nat, i ≠ (x_pv_rowCount).toInt.toNat → u.2.2.2.2.2.2.1 i = rf i) ∧ (r = some (u.2.2.2.2.2.1 (x_pv_rowCount).toInt.toNat))) (fun (u : (Int32) × (Int32) × (Nat → Option Nat) × (Nat → Option Nat) × (Nat) × (Nat → Nat) × (Nat → RT) × (Nat) × (Nat → Nat) × (Nat → LT)) (t : State) => va_P (dC, dI) cls (wp [(h_pv, .inr (3, (mo177 v_pv (.ref h_rws) (.int u.1) (.ref h_lks) (.int u.2.1) (.int x_pv_options)))), (h_rws, .inl (cy_rws, 361, .inr (.inr (.inr (.inr u.2.2.1))))), (h_lks, .inl (cy_lks, 210, .inr (.inr (.inr (.inr u.2.2.2.1)))))] (PL u.2.2.2.2.1 u.2.2.2.2.2.1 u.2.2.2.2.2.2.1 u.2.2.2.2.2.2.2.1 u.2.2.2.2.2.2.2.2.1 u.2.2.2.2.2.2.2.2.2 ns sa sf)) t.heap ∧ va_D (va_A (wp [(h_pv, .inr (3, (mo177 v_pv (.ref h_rws) (.int x_pv_rowCount) (.ref h_lks) (.int x_pv_linkCount) (.int x_pv_options)))), (h_rws, .inl (cy_rws, 361, .inr (.inr (.inr (.inr f_rws))))), (h_lks, .inl (cy_lks, 210, .inr (.inr (.inr (.inr f_lks)))))] (PL nr ra rf nl la lf ns sa sf)) sz) (wp [(h_pv, .inr (3, (mo177 v_pv (.ref h_rws) (.int u.1) (.ref h_lks) (.int u.2.1) (.int x_pv_options)))), (h_rws, .inl (cy_rws, 361, .inr (.inr (.inr (.inr u.2.2.1))))), (h_lks, .inl (cy_lks, 210, .inr (.inr (.inr (.inr u.2.2.2.1)))))] (PL u.2.2.2.2.1 u.2.2.2.2.2.1 u.2.2.2.2.2.2.1 u.2.2.2.2.2.2.2.1 u.2.2.2.2.2.2.2.2.1 u.2.2.2.2.2.2.2.2.2 ns sa sf))) (va_A (wp [(h_pv, .inr (3, (mo177 v_pv (.ref h_rws) (.int x_pv_rowCount) (.ref h_lks) (.int x_pv_linkCount) (.int x_pv_options)))), (h_rws, .inl (cy_rws, 361, .inr (.inr (.inr (.inr f_rws))))), (h_lks, .inl (cy_lks, 210, .inr (.inr (.inr (.inr f_lks)))))] (PL nr ra rf nl la lf ns sa sf)) sz)) (((x_pv_rowCount).toInt.toNat + 1 - nr) + ((x_pv_linkCount).toInt.toNat + (hasb x_pv_options 2).toNat - nl)) (7 * ((x_pv_rowCount).toInt.toNat + 1 - nr) + 4 * ((x_pv_linkCount).toInt.toNat + (hasb x_pv_options 2).toNat - nl)) (va_A (wp [(h_pv, .inr (3, (mo177 v_pv (.ref h_rws) (.int x_pv_rowCount) (.ref h_lks) (.int x_pv_linkCount) (.int x_pv_options)))), (h_rws, .inl (cy_rws, 361, .inr (.inr (.inr (.inr f_rws))))), (h_lks, .inl (cy_lks, 210, .inr (.inr (.inr (.inr f_lks)))))] (PL nr ra rf nl la lf ns sa sf)) sz) := by
  refine Met.ofW (cc := cX4_restOf) (maxL := 3) (ret := (some (.object "OppositePairs$Row"))) (by decide) rfl ?_
  intro p e s m args below meth c s₁ B hml hv
  obtain ⟨rfl, hsz, hP, hK, hD0, hN⟩ := hv
  have hx := B.exec
  have hb := B.bytes
  have hr := B.returns
  have hts := atoms_spec (ws := Ws yX4_restOf cX4_restOf 3 (some (.object "OppositePairs$Row"))) B.pre
  have hT : ∀ w ∈ WALL, w ∈ Ws yX4_restOf cX4_restOf 3 (some (.object "OppositePairs$Row")) := fun w h => List.mem_cons_of_mem _ h
  have hw := fun w (h : w ∈ WALL) => hts w (hT w h)
  have hown : s.vm.findClass RX4 = some m.cls := findClass_of_methodNamed B.named
  have hlocks := B.notSynchronized
  subst hsz
  have hD := hD0.self (sz := s.heap.size)
  generalize hAe : va_A (wp [(h_pv, .inr (3, (mo177 v_pv (.ref h_rws) (.int x_pv_rowCount) (.ref h_lks) (.int x_pv_linkCount) (.int x_pv_options)))), (h_rws, .inl (cy_rws, 361, .inr (.inr (.inr (.inr f_rws))))), (h_lks, .inl (cy_lks, 210, .inr (.inr (.inr (.inr f_lks)))))] (PL nr ra rf nl la lf ns sa sf)) s.heap.size = A at hD ⊢
  have hA : ∀ q : Nat, s.heap.size ≤ q → A q := fun q h => by rw [← hAe]; exact Or.inr h
  have hS : va_S A s.heap s.heap [] := va_S.rf
  have hl := lv_entry ([.ref h_pv, .ref (ra rq)]) (n := 3) (Nat.le_of_ble_eq_true rfl)
  rw [lg_entry_eq]
  generalize (lg_sl ([.ref h_pv, .ref (ra rq)]) ++ List.replicate (3 - (lg_sl ([.ref h_pv, .ref (ra rq)])).length) Slot.unset).toArray = ls at hl ⊢
  have hl : lv_has ls 3 [(0, .ref h_pv), (1, .ref (ra rq))] := hl
  have hb9 := hasb_le x_pv_options 2
  refine lv_aload_n hx hb dX4_restOf_0 rfl (lv_at hl 0 rfl) ?_
  refine lv_aload_n hx hb dX4_restOf_1 rfl (lv_at hl 1 rfl) ?_
  refine va_getN (D := (dC, dI)) (ci := 9) (v := .int (rf rq).1) (C := RX6) (T := TX6) (N := 7) (host := "OppositePairs") hx hb hw iwX6 hown hK hP (3 + rq) (pl_R (X := [(h_pv, .inr (3, (mo177 v_pv (.ref h_rws) (.int x_pv_rowCount) (.ref h_lks) (.int x_pv_linkCount) (.int x_pv_options)))), (h_rws, .inl (cy_rws, 361, .inr (.inr (.inr (.inr f_rws))))), (h_lks, .inl (cy_lks, 210, .inr (.inr (.inr (.inr f_lks)))))]) (by omega)) rfl 0 (by decide) (hN.use n_f_X4_140 rfl) (fun _ h9 => h9) rfl dX4_restOf_2 ?_
  refine lv_topi (fun z1 ez1 => ?_)
  have vz1 : (z1).toInt = ((rf rq).1).toInt := by rw [ez1]
  have rz1 : 0 ≤ (z1).toInt ∧ (z1).toInt ≤ 29 := by rw [ez1]; exact (hn_rok rq (by omega)).1
  refine lv_aload_n hx hb dX4_restOf_5 rfl (lv_at hl 1 rfl) ?_
  refine va_getN (D := (dC, dI)) (ci := 9) (v := .int (rf rq).2.1) (C := RX6) (T := TX6) (N := 7) (host := "OppositePairs") hx hb hw iwX6 hown hK hP (3 + rq) (pl_R (X := [(h_pv, .inr (3, (mo177 v_pv (.ref h_rws) (.int x_pv_rowCount) (.ref h_lks) (.int x_pv_linkCount) (.int x_pv_options)))), (h_rws, .inl (cy_rws, 361, .inr (.inr (.inr (.inr f_rws))))), (h_lks, .inl (cy_lks, 210, .inr (.inr (.inr (.inr f_lks)))))]) (by omega)) rfl 1 (by decide) (hN.use n_f_X4_163 rfl) (fun _ h9 => h9) rfl dX4_restOf_6 ?_
  refine lv_topi (fun z2 ez2 => ?_)
  have vz2 : (z2).toInt = ((rf rq).2.1).toInt := by rw [ez2]
  have rz2 : -1 ≤ (z2).toInt ∧ (z2).toInt ≤ 5 := by rw [ez2]; exact (hn_rok rq (by omega)).2.1
  refine lv_aload_n hx hb dX4_restOf_9 rfl (lv_at hl 1 rfl) ?_
  refine va_getN (D := (dC, dI)) (ci := 9) (v := .int (rf rq).2.2.1) (C := RX6) (T := TX6) (N := 7) (host := "OppositePairs") hx hb hw iwX6 hown hK hP (3 + rq) (pl_R (X := [(h_pv, .inr (3, (mo177 v_pv (.ref h_rws) (.int x_pv_rowCount) (.ref h_lks) (.int x_pv_linkCount) (.int x_pv_options)))), (h_rws, .inl (cy_rws, 361, .inr (.inr (.inr (.inr f_rws))))), (h_lks, .inl (cy_lks, 210, .inr (.inr (.inr (.inr f_lks)))))]) (by omega)) rfl 2 (by decide) (hN.use n_f_X4_137 rfl) (fun _ h9 => h9) rfl dX4_restOf_10 ?_
  refine lv_topi (fun z3 ez3 => ?_)
  have vz3 : (z3).toInt = ((rf rq).2.2.1).toInt := by rw [ez3]
  have rz3 : 0 ≤ (z3).toInt ∧ (z3).toInt ≤ 7 := by rw [ez3]; exact (hn_rok rq (by omega)).2.2.1
  refine lv_iconst (v := 1) hx hb dX4_restOf_13 (by decide) ?_
  refine lv_iadd hx hb dX4_restOf_14 ?_
  refine lv_topi (fun z4 ez4 => ?_)
  have tz4 : (z4).toInt = (z3).toInt + 1 := by rw [ez4]; exact i_add rfl (by decide) (by omega)
  obtain ⟨vq5, evq5⟩ := mq177_175 v_pv (.ref h_lks) (.int x_pv_linkCount) (.int x_pv_options)
  replace hP : va_P (dC, dI) cls (wp [(h_pv, .inr (3, (mo175 vq5 (.ref h_rws) (.int x_pv_rowCount)))), (h_rws, .inl (cy_rws, 361, .inr (.inr (.inr (.inr f_rws))))), (h_lks, .inl (cy_lks, 210, .inr (.inr (.inr (.inr f_lks)))))] (PL nr ra rf nl la lf ns sa sf)) s.heap := by rw [evq5]; exact hP
  replace hD : va_D A (wp [(h_pv, .inr (3, (mo175 vq5 (.ref h_rws) (.int x_pv_rowCount)))), (h_rws, .inl (cy_rws, 361, .inr (.inr (.inr (.inr f_rws))))), (h_lks, .inl (cy_lks, 210, .inr (.inr (.inr (.inr f_lks)))))] (PL nr ra rf nl la lf ns sa sf)) := by rw [evq5]; exact hD
  have hPc : va_P (dC, dI) cls (wp [(h_pv, .inr (3, (mo175 vq5 (.ref h_rws) (.int x_pv_rowCount)))), (h_rws, .inl (cy_rws, 361, .inr (.inr (.inr (.inr f_rws)))))] (PL nr ra rf nl la lf ns sa sf)) s.heap := va_P.part (cx := [(h_pv, .inr (3, (mo175 vq5 (.ref h_rws) (.int x_pv_rowCount)))), (h_rws, .inl (cy_rws, 361, .inr (.inr (.inr (.inr f_rws)))))]) hP [0, 1] rfl
  have hDc : va_D A (wp [(h_pv, .inr (3, (mo175 vq5 (.ref h_rws) (.int x_pv_rowCount)))), (h_rws, .inl (cy_rws, 361, .inr (.inr (.inr (.inr f_rws)))))] (PL nr ra rf nl la lf ns sa sf)) := va_D.part (cx := [(h_pv, .inr (3, (mo175 vq5 (.ref h_rws) (.int x_pv_rowCount)))), (h_rws, .inl (cy_rws, 361, .inr (.inr (.inr (.inr f_rws)))))]) hD [0, 1] (by decide) rfl
  have hKc := hK.sub (tys' := [(cy_rws, .object "OppositePairs$Row")]) [0] rfl
  have hFc : ∀ q, va_A (wp [(h_pv, .inr (3, (mo175 vq5 (.ref h_rws) (.int x_pv_rowCount)))), (h_rws, .inl (cy_rws, 361, .inr (.inr (.inr (.inr f_rws)))))] (PL nr ra rf nl la lf ns sa sf)) s.heap.size q → A q := va_freeP (cx := [(h_pv, .inr (3, (mo175 vq5 (.ref h_rws) (.int x_pv_rowCount)))), (h_rws, .inl (cy_rws, 361, .inr (.inr (.inr (.inr f_rws)))))]) hD hS hA [0, 1] rfl
  refine va_callq (va_runV (As := [.int z1, .int z2, .int z4]) (rest := []) ⟨hx, hb, hml, hown, hts⟩ (c_X4_newRow l dC dI s.heap.size h_pv h_rws nr ra rf nl la lf ns sa sf vq5 x_pv_rowCount cy_rws f_rws z1 z2 z4 (by first | exact hx_pv_rowCount | omega) (by omega) (by omega) (by omega) (by first | exact q2 | omega) (by first | exact q4 | omega) hn_pr hn_rok) (cwV 3 hts (gv hT w_m_X4_110 w_instanceMethod_X4_newRow ws_sel_X4_newRow w_ini_X4 w_code_X4_newRow) rfl rfl rfl (by decide +kernel) ⟨(by dsimp only [headSpec]; omega), (by dsimp only [headSpec]; omega)⟩) ⟨pre_blind, va_recv hK hP (ci := 3) (q0 := 0) rfl rfl, pre_of hPc hKc hDc hN⟩ rfl rfl hl.1 rfl (lv_room (Nat.le_of_ble_eq_true rfl)) dX4_restOf_15 ⟨(by dsimp only [headSpec]; omega), (by dsimp only [headSpec]; omega)⟩) hS (fun q _ h => hFc q h) hFc (fun o6 u t H locs ht hvm hq hB hz1 hk1 hS9 => ?_)
  obtain ⟨z7, f8, nr9, ra10, rf11⟩ := u
  obtain ⟨hP1, hD1⟩ := hB
  rw [ht] at hP1
  obtain ⟨hP9, hD9⟩ := va_joinP (wr := [(h_lks, .inl (cy_lks, 210, .inr (.inr (.inr (.inr f_lks)))))]) (rx := [(h_pv, .inr (3, (mo175 vq5 (.ref h_rws) (.int z7)))), (h_rws, .inl (cy_rws, 361, .inr (.inr (.inr (.inr f8)))))]) (cx := [(h_pv, .inr (3, (mo175 vq5 (.ref h_rws) (.int x_pv_rowCount)))), (h_rws, .inl (cy_rws, 361, .inr (.inr (.inr (.inr f_rws)))))]) hP hD [0, 1] [2] rfl rfl (by decide) (by decide) hk1 hFc hP1 hD1
  clear hP hD hS hPc hDc hKc hFc hP1 hD1 hk1 hz1 ht hvm
  have hP : va_P (dC, dI) cls (wp [(h_lks, .inl (cy_lks, 210, .inr (.inr (.inr (.inr f_lks))))), (h_pv, .inr (3, (mo175 vq5 (.ref h_rws) (.int z7)))), (h_rws, .inl (cy_rws, 361, .inr (.inr (.inr (.inr f8)))))] (PL nr9 ra10 rf11 nl la lf ns sa sf)) H := hP9
  have hD : va_D A (wp [(h_lks, .inl (cy_lks, 210, .inr (.inr (.inr (.inr f_lks))))), (h_pv, .inr (3, (mo175 vq5 (.ref h_rws) (.int z7)))), (h_rws, .inl (cy_rws, 361, .inr (.inr (.inr (.inr f8)))))] (PL nr9 ra10 rf11 nl la lf ns sa sf)) := hD9
  have hS := hS9
  clear hP9 hD9 hS9
  rw [evq5] at hP hD
  replace hP : va_P (dC, dI) cls (wp [(h_lks, .inl (cy_lks, 210, .inr (.inr (.inr (.inr f_lks))))), (h_pv, .inr (3, (mo177 v_pv (.ref h_rws) (.int z7) (.ref h_lks) (.int x_pv_linkCount) (.int x_pv_options)))), (h_rws, .inl (cy_rws, 361, .inr (.inr (.inr (.inr f8)))))] (PL nr9 ra10 rf11 nl la lf ns sa sf)) H := hP
  replace hD : va_D A (wp [(h_lks, .inl (cy_lks, 210, .inr (.inr (.inr (.inr f_lks))))), (h_pv, .inr (3, (mo177 v_pv (.ref h_rws) (.int z7) (.ref h_lks) (.int x_pv_linkCount) (.int x_pv_options)))), (h_rws, .inl (cy_rws, 361, .inr (.inr (.inr (.inr f8)))))] (PL nr9 ra10 rf11 nl la lf ns sa sf)) := hD
  clear evq5 
  obtain ⟨k12, k13, k14, k15, k16, k17, k18, k19, k20⟩ := hq
  replace k12 : 0 ≤ ((z7)).toInt ∧ ((z7)).toInt ≤ 361 := k12
  replace k13 : ((z7)).toInt = ((x_pv_rowCount)).toInt + 1 := k13
  replace k14 : (nr) ≤ (nr9) ∧ ((x_pv_rowCount)).toInt + 1 ≤ (nr9) := k14
  replace k15 : GR2 (nr) (nr9) ((z7)).toInt := k15
  replace k16 : PFX (nr9) 361 (f8) (ra10) := k16
  replace k17 : ROK (nr9) (ra10) (rf11) (nl) (la) := k17
  replace k18 : ∀ i : Nat, i < (nr) → (ra10) i = (ra) i := k18
  replace k19 : (∀ i : Nat, i ≠ ((x_pv_rowCount)).toInt.toNat → (rf11) i = (rf) i) ∧ ((rf11) ((x_pv_rowCount)).toInt.toNat).1 = (z1) ∧ ((rf11) ((x_pv_rowCount)).toInt.toNat).2.1 = (z2) ∧ (0 ≤ ((rf11) ((x_pv_rowCount)).toInt.toNat).2.2.1.toInt ∧ ((rf11) ((x_pv_rowCount)).toInt.toNat).2.2.1.toInt ≤ ((z4)).toInt + 1) := k19
  replace k20 : (o6) = some ((ra10) ((x_pv_rowCount)).toInt.toNat) := k20
  have rto6 := k20
  subst rto6
  show W p l e _ s m _ below meth c _ _ _ _ _ (F0 m 18 ls [.ref (ra10 (x_pv_rowCount).toInt.toNat)])
  have qr9 : ra10 rq = ra rq := k18 rq (by omega)
  have qf9 : rf11 rq = rf rq := k19.1 rq (by omega)
  refine lv_astore_n (lv' := [(2, .ref (ra10 (x_pv_rowCount).toInt.toNat)), (0, .ref h_pv), (1, .ref (ra rq))]) hx hb dX4_restOf_18 rfl hl (by decide) rfl (fun ls hl => ?_)
  refine lv_aload_n hx hb dX4_restOf_19 rfl (lv_at hl 0 rfl) ?_
  refine lv_aload_n hx hb dX4_restOf_20 rfl (lv_at hl 2 rfl) ?_
  refine va_getN (D := (dC, dI)) (ci := 9) (v := va_rf (rf11 rq).2.2.2.1) (C := RX6) (T := TX6) (N := 7) (host := "OppositePairs") hx hb hw iwX6 hown hK hP (3 + rq) (by rw [← qr9]; exact (pl_R (X := [(h_lks, .inl (cy_lks, 210, .inr (.inr (.inr (.inr f_lks))))), (h_pv, .inr (3, (mo177 v_pv (.ref h_rws) (.int z7) (.ref h_lks) (.int x_pv_linkCount) (.int x_pv_options)))), (h_rws, .inl (cy_rws, 361, .inr (.inr (.inr (.inr f8)))))]) (by omega))) rfl 3 (by decide) (hN.use n_f_X4_114 rfl) (fun _ h9 => h9) rfl dX4_restOf_21 ?_
  obtain ⟨o21, eo21⟩ : ∃ o, o = (rf11 rq).2.2.2.1 := ⟨_, rfl⟩
  rw [← eo21]
  have pb22 : PB la (x_pv_linkCount).toInt o21 := by rw [eo21, qf9]; exact (hn_lvr rq (by omega)).1
  refine va_putN (D := (dC, dI)) (ci := 9) (v := (va_rf o21)) (ty := tyX6 3) (C := RX6) (T := TX6) (N := 7) (host := "OppositePairs") hx hb hw iwX6 tyX6 tyX6_ok nmX6 hown hK hP hD hS (3 + (x_pv_rowCount).toInt.toNat) (pl_R (X := [(h_lks, .inl (cy_lks, 210, .inr (.inr (.inr (.inr f_lks))))), (h_pv, .inr (3, (mo177 v_pv (.ref h_rws) (.int z7) (.ref h_lks) (.int x_pv_linkCount) (.int x_pv_options)))), (h_rws, .inl (cy_rws, 361, .inr (.inr (.inr (.inr f8)))))]) (by omega)) rfl 3 (by decide) (hN.use n_f_X4_114 rfl) (fun _ h9 => h9) rfl (tyX6_ok 3 (by decide)) (rf_nar o21 _) (rf_fit o21 _) (Nat.le_of_ble_eq_true rfl) dX4_restOf_24 (fun H locs hP hD hS => ?_)
  have hP : va_P (dC, dI) cls (wp [(h_lks, .inl (cy_lks, 210, .inr (.inr (.inr (.inr f_lks))))), (h_pv, .inr (3, (mo177 v_pv (.ref h_rws) (.int z7) (.ref h_lks) (.int x_pv_linkCount) (.int x_pv_options)))), (h_rws, .inl (cy_rws, 361, .inr (.inr (.inr (.inr f8)))))] (PL nr9 ra10 (va_up rf11 (x_pv_rowCount).toInt.toNat ((rf11 (x_pv_rowCount).toInt.toNat).1, (rf11 (x_pv_rowCount).toInt.toNat).2.1, (rf11 (x_pv_rowCount).toInt.toNat).2.2.1, o21, (rf11 (x_pv_rowCount).toInt.toNat).2.2.2.2.1, (rf11 (x_pv_rowCount).toInt.toNat).2.2.2.2.2.1, (rf11 (x_pv_rowCount).toInt.toNat).2.2.2.2.2.2)) nl la lf ns sa sf)) H := by rw [← pl_setR (i := (x_pv_rowCount).toInt.toNat) (by omega)]; exact hP
  have hD : va_D A (wp [(h_lks, .inl (cy_lks, 210, .inr (.inr (.inr (.inr f_lks))))), (h_pv, .inr (3, (mo177 v_pv (.ref h_rws) (.int z7) (.ref h_lks) (.int x_pv_linkCount) (.int x_pv_options)))), (h_rws, .inl (cy_rws, 361, .inr (.inr (.inr (.inr f8)))))] (PL nr9 ra10 (va_up rf11 (x_pv_rowCount).toInt.toNat ((rf11 (x_pv_rowCount).toInt.toNat).1, (rf11 (x_pv_rowCount).toInt.toNat).2.1, (rf11 (x_pv_rowCount).toInt.toNat).2.2.1, o21, (rf11 (x_pv_rowCount).toInt.toNat).2.2.2.2.1, (rf11 (x_pv_rowCount).toInt.toNat).2.2.2.2.2.1, (rf11 (x_pv_rowCount).toInt.toNat).2.2.2.2.2.2)) nl la lf ns sa sf)) := by rw [← pl_setR (i := (x_pv_rowCount).toInt.toNat) (by omega)]; exact hD
  refine lv_aload_n hx hb dX4_restOf_27 rfl (lv_at hl 0 rfl) ?_
  refine lv_aload_n hx hb dX4_restOf_28 rfl (lv_at hl 1 rfl) ?_
  refine lv_iconst (v := 2) hx hb dX4_restOf_29 (by decide) ?_
  obtain ⟨vq23, evq23⟩ := mq177_42 v_pv (.ref h_rws) (.int z7) (.ref h_lks) (.int x_pv_linkCount)
  replace hP : va_P (dC, dI) cls (wp [(h_lks, .inl (cy_lks, 210, .inr (.inr (.inr (.inr f_lks))))), (h_pv, .inr (3, (mo42 vq23 (.int x_pv_options)))), (h_rws, .inl (cy_rws, 361, .inr (.inr (.inr (.inr f8)))))] (PL nr9 ra10 (va_up rf11 (x_pv_rowCount).toInt.toNat ((rf11 (x_pv_rowCount).toInt.toNat).1, (rf11 (x_pv_rowCount).toInt.toNat).2.1, (rf11 (x_pv_rowCount).toInt.toNat).2.2.1, o21, (rf11 (x_pv_rowCount).toInt.toNat).2.2.2.2.1, (rf11 (x_pv_rowCount).toInt.toNat).2.2.2.2.2.1, (rf11 (x_pv_rowCount).toInt.toNat).2.2.2.2.2.2)) nl la lf ns sa sf)) H := by rw [evq23]; exact hP
  replace hD : va_D A (wp [(h_lks, .inl (cy_lks, 210, .inr (.inr (.inr (.inr f_lks))))), (h_pv, .inr (3, (mo42 vq23 (.int x_pv_options)))), (h_rws, .inl (cy_rws, 361, .inr (.inr (.inr (.inr f8)))))] (PL nr9 ra10 (va_up rf11 (x_pv_rowCount).toInt.toNat ((rf11 (x_pv_rowCount).toInt.toNat).1, (rf11 (x_pv_rowCount).toInt.toNat).2.1, (rf11 (x_pv_rowCount).toInt.toNat).2.2.1, o21, (rf11 (x_pv_rowCount).toInt.toNat).2.2.2.2.1, (rf11 (x_pv_rowCount).toInt.toNat).2.2.2.2.2.1, (rf11 (x_pv_rowCount).toInt.toNat).2.2.2.2.2.2)) nl la lf ns sa sf)) := by rw [evq23]; exact hD
  have cst2 : (2 : Int32).toInt = 2 := by decide
  have hPc := wp_P (cx := [(h_pv, .inr (3, (mo42 vq23 (.int x_pv_options))))]) hP [1] rfl
  have hDc := wp_D (cx := [(h_pv, .inr (3, (mo42 vq23 (.int x_pv_options))))]) hD [1] (by decide) rfl
  have hKc := hK.sub (tys' := []) [] rfl
  have hFc := wp_free (cx := [(h_pv, .inr (3, (mo42 vq23 (.int x_pv_options))))]) hD hS hA [1] rfl
  refine va_calli (va_runV (As := [.int 2]) (rest := [.ref (ra10 (x_pv_rowCount).toInt.toNat)]) ⟨hx, hb, hml, hown, hts⟩ (c_X4_has_e l dC dI H.size h_pv vq23 x_pv_options 2) (cwV 1 hts (gv hT w_m_X4_147 w_instanceMethod_X4_has ws_sel_X4_has w_ini_X4 w_code_X4_has) rfl rfl rfl (by decide +kernel) ⟨(by dsimp only [headSpec]; omega), (by dsimp only [headSpec]; omega)⟩) ⟨pre_blind, va_recv hK hP (ci := 3) (q0 := 1) rfl rfl, pre_of hPc hKc hDc hN⟩ rfl rfl hl.1 rfl (lv_room (Nat.le_of_ble_eq_true rfl)) dX4_restOf_30 ⟨(by dsimp only [headSpec]; omega), (by dsimp only [headSpec]; omega)⟩) hS (fun q _ h => hFc q h) hFc (fun r24 u t H locs ht hvm hq hB hz1 hk1 hS9 => ?_)
  obtain ⟨hP1, hD1⟩ := hB
  rw [ht] at hP1
  obtain ⟨hP9, hD9⟩ := va_joinQ (wr := [(h_lks, .inl (cy_lks, 210, .inr (.inr (.inr (.inr f_lks))))), (h_rws, .inl (cy_rws, 361, .inr (.inr (.inr (.inr f8)))))]) (w1 := [(h_pv, .inr (3, (mo42 vq23 (.int x_pv_options))))]) (cx := [(h_pv, .inr (3, (mo42 vq23 (.int x_pv_options))))]) hP hD [1] [0, 2] rfl rfl (by decide) (by decide) hk1 hFc hP1 hD1
  clear hP hD hS hPc hDc hKc hFc hP1 hD1 hk1 hz1 ht hvm
  have hP : va_P (dC, dI) cls (wp [(h_lks, .inl (cy_lks, 210, .inr (.inr (.inr (.inr f_lks))))), (h_rws, .inl (cy_rws, 361, .inr (.inr (.inr (.inr f8))))), (h_pv, .inr (3, (mo42 vq23 (.int x_pv_options))))] (PL nr9 ra10 (va_up rf11 (x_pv_rowCount).toInt.toNat ((rf11 (x_pv_rowCount).toInt.toNat).1, (rf11 (x_pv_rowCount).toInt.toNat).2.1, (rf11 (x_pv_rowCount).toInt.toNat).2.2.1, o21, (rf11 (x_pv_rowCount).toInt.toNat).2.2.2.2.1, (rf11 (x_pv_rowCount).toInt.toNat).2.2.2.2.2.1, (rf11 (x_pv_rowCount).toInt.toNat).2.2.2.2.2.2)) nl la lf ns sa sf)) H := hP9
  have hD : va_D A (wp [(h_lks, .inl (cy_lks, 210, .inr (.inr (.inr (.inr f_lks))))), (h_rws, .inl (cy_rws, 361, .inr (.inr (.inr (.inr f8))))), (h_pv, .inr (3, (mo42 vq23 (.int x_pv_options))))] (PL nr9 ra10 (va_up rf11 (x_pv_rowCount).toInt.toNat ((rf11 (x_pv_rowCount).toInt.toNat).1, (rf11 (x_pv_rowCount).toInt.toNat).2.1, (rf11 (x_pv_rowCount).toInt.toNat).2.2.1, o21, (rf11 (x_pv_rowCount).toInt.toNat).2.2.2.2.1, (rf11 (x_pv_rowCount).toInt.toNat).2.2.2.2.2.1, (rf11 (x_pv_rowCount).toInt.toNat).2.2.2.2.2.2)) nl la lf ns sa sf)) := hD9
  have hS := hS9
  clear hP9 hD9 hS9
  rw [evq23] at hP hD
  replace hP : va_P (dC, dI) cls (wp [(h_lks, .inl (cy_lks, 210, .inr (.inr (.inr (.inr f_lks))))), (h_rws, .inl (cy_rws, 361, .inr (.inr (.inr (.inr f8))))), (h_pv, .inr (3, (mo177 v_pv (.ref h_rws) (.int z7) (.ref h_lks) (.int x_pv_linkCount) (.int x_pv_options))))] (PL nr9 ra10 (va_up rf11 (x_pv_rowCount).toInt.toNat ((rf11 (x_pv_rowCount).toInt.toNat).1, (rf11 (x_pv_rowCount).toInt.toNat).2.1, (rf11 (x_pv_rowCount).toInt.toNat).2.2.1, o21, (rf11 (x_pv_rowCount).toInt.toNat).2.2.2.2.1, (rf11 (x_pv_rowCount).toInt.toNat).2.2.2.2.2.1, (rf11 (x_pv_rowCount).toInt.toNat).2.2.2.2.2.2)) nl la lf ns sa sf)) H := hP
  replace hD : va_D A (wp [(h_lks, .inl (cy_lks, 210, .inr (.inr (.inr (.inr f_lks))))), (h_rws, .inl (cy_rws, 361, .inr (.inr (.inr (.inr f8))))), (h_pv, .inr (3, (mo177 v_pv (.ref h_rws) (.int z7) (.ref h_lks) (.int x_pv_linkCount) (.int x_pv_options))))] (PL nr9 ra10 (va_up rf11 (x_pv_rowCount).toInt.toNat ((rf11 (x_pv_rowCount).toInt.toNat).1, (rf11 (x_pv_rowCount).toInt.toNat).2.1, (rf11 (x_pv_rowCount).toInt.toNat).2.2.1, o21, (rf11 (x_pv_rowCount).toInt.toNat).2.2.2.2.1, (rf11 (x_pv_rowCount).toInt.toNat).2.2.2.2.2.1, (rf11 (x_pv_rowCount).toInt.toNat).2.2.2.2.2.2)) nl la lf ns sa sf)) := hD
  clear evq23 
  obtain ⟨k25, k26⟩ := hq
  replace k25 : 0 ≤ (r24).toInt ∧ (r24).toInt ≤ 1 := k25
  replace k26 : ((r24)).toInt = hasb (x_pv_options) (2 : Int32) := k26
  refine lv_if_eq (tgt := 55) hx hb dX4_restOf_33 (by decide) (fun c27 => ?_) (fun c27 => ?_)
  · have kc27 := (cv_eq (rfl : (r24).toInt = (r24).toInt) (by decide : (0 : Int32).toInt = 0)).mp c27
    refine lv_aload_n hx hb dX4_restOf_55 rfl (lv_at hl 2 rfl) ?_
    refine va_getN (D := (dC, dI)) (ci := 9) (v := va_rf (rf11 rq).2.2.2.2.1) (C := RX6) (T := TX6) (N := 7) (host := "OppositePairs") hx hb hw iwX6 hown hK hP (3 + rq) (by rw [← qr9]; exact (pl_R3 (X := [(h_lks, .inl (cy_lks, 210, .inr (.inr (.inr (.inr f_lks))))), (h_rws, .inl (cy_rws, 361, .inr (.inr (.inr (.inr f8))))), (h_pv, .inr (3, (mo177 v_pv (.ref h_rws) (.int z7) (.ref h_lks) (.int x_pv_linkCount) (.int x_pv_options))))]) (by omega) (by omega))) rfl 4 (by decide) (hN.use n_f_X4_118 rfl) (fun _ h9 => h9) rfl dX4_restOf_56 ?_
    obtain ⟨o28, eo28⟩ : ∃ o, o = (rf11 rq).2.2.2.2.1 := ⟨_, rfl⟩
    rw [← eo28]
    have pb29 : PB la (x_pv_linkCount).toInt o28 := by rw [eo28, qf9]; exact (hn_lvr rq (by omega)).2.1
    refine va_putN (D := (dC, dI)) (ci := 9) (v := (va_rf o28)) (ty := tyX6 4) (C := RX6) (T := TX6) (N := 7) (host := "OppositePairs") hx hb hw iwX6 tyX6 tyX6_ok nmX6 hown hK hP hD hS (3 + (x_pv_rowCount).toInt.toNat) (pl_R2 (X := [(h_lks, .inl (cy_lks, 210, .inr (.inr (.inr (.inr f_lks))))), (h_rws, .inl (cy_rws, 361, .inr (.inr (.inr (.inr f8))))), (h_pv, .inr (3, (mo177 v_pv (.ref h_rws) (.int z7) (.ref h_lks) (.int x_pv_linkCount) (.int x_pv_options))))]) (by omega)) rfl 4 (by decide) (hN.use n_f_X4_118 rfl) (fun _ h9 => h9) rfl (tyX6_ok 4 (by decide)) (rf_nar o28 _) (rf_fit o28 _) (Nat.le_of_ble_eq_true rfl) dX4_restOf_59 (fun H locs hP hD hS => ?_)
    have hP : va_P (dC, dI) cls (wp [(h_lks, .inl (cy_lks, 210, .inr (.inr (.inr (.inr f_lks))))), (h_rws, .inl (cy_rws, 361, .inr (.inr (.inr (.inr f8))))), (h_pv, .inr (3, (mo177 v_pv (.ref h_rws) (.int z7) (.ref h_lks) (.int x_pv_linkCount) (.int x_pv_options))))] (PL nr9 ra10 (va_up rf11 (x_pv_rowCount).toInt.toNat ((rf11 (x_pv_rowCount).toInt.toNat).1, (rf11 (x_pv_rowCount).toInt.toNat).2.1, (rf11 (x_pv_rowCount).toInt.toNat).2.2.1, o21, o28, (rf11 (x_pv_rowCount).toInt.toNat).2.2.2.2.2.1, (rf11 (x_pv_rowCount).toInt.toNat).2.2.2.2.2.2)) nl la lf ns sa sf)) H := by rw [← pl_setR2 (i := (x_pv_rowCount).toInt.toNat) (by omega)]; exact hP
    have hD : va_D A (wp [(h_lks, .inl (cy_lks, 210, .inr (.inr (.inr (.inr f_lks))))), (h_rws, .inl (cy_rws, 361, .inr (.inr (.inr (.inr f8))))), (h_pv, .inr (3, (mo177 v_pv (.ref h_rws) (.int z7) (.ref h_lks) (.int x_pv_linkCount) (.int x_pv_options))))] (PL nr9 ra10 (va_up rf11 (x_pv_rowCount).toInt.toNat ((rf11 (x_pv_rowCount).toInt.toNat).1, (rf11 (x_pv_rowCount).toInt.toNat).2.1, (rf11 (x_pv_rowCount).toInt.toNat).2.2.1, o21, o28, (rf11 (x_pv_rowCount).toInt.toNat).2.2.2.2.2.1, (rf11 (x_pv_rowCount).toInt.toNat).2.2.2.2.2.2)) nl la lf ns sa sf)) := by rw [← pl_setR2 (i := (x_pv_rowCount).toInt.toNat) (by omega)]; exact hD
    refine lv_aload_n hx hb dX4_restOf_62 rfl (lv_at hl 0 rfl) ?_
    refine lv_aload_n hx hb dX4_restOf_63 rfl (lv_at hl 2 rfl) ?_
    refine va_getN (D := (dC, dI)) (ci := 9) (v := va_rf (rf11 rq).2.2.2.2.2.1) (C := RX6) (T := TX6) (N := 7) (host := "OppositePairs") hx hb hw iwX6 hown hK hP (3 + rq) (by rw [← qr9]; exact (pl_R3 (X := [(h_lks, .inl (cy_lks, 210, .inr (.inr (.inr (.inr f_lks))))), (h_rws, .inl (cy_rws, 361, .inr (.inr (.inr (.inr f8))))), (h_pv, .inr (3, (mo177 v_pv (.ref h_rws) (.int z7) (.ref h_lks) (.int x_pv_linkCount) (.int x_pv_options))))]) (by omega) (by omega))) rfl 5 (by decide) (hN.use n_f_X4_121 rfl) (fun _ h9 => h9) rfl dX4_restOf_64 ?_
    obtain ⟨o30, eo30⟩ : ∃ o, o = (rf11 rq).2.2.2.2.2.1 := ⟨_, rfl⟩
    rw [← eo30]
    have pb31 : PB ra rq o30 := by rw [eo30, qf9]; exact (hn_lvr rq (by omega)).2.2
    refine va_putN (D := (dC, dI)) (ci := 9) (v := (va_rf o30)) (ty := tyX6 5) (C := RX6) (T := TX6) (N := 7) (host := "OppositePairs") hx hb hw iwX6 tyX6 tyX6_ok nmX6 hown hK hP hD hS (3 + (x_pv_rowCount).toInt.toNat) (pl_R2 (X := [(h_lks, .inl (cy_lks, 210, .inr (.inr (.inr (.inr f_lks))))), (h_rws, .inl (cy_rws, 361, .inr (.inr (.inr (.inr f8))))), (h_pv, .inr (3, (mo177 v_pv (.ref h_rws) (.int z7) (.ref h_lks) (.int x_pv_linkCount) (.int x_pv_options))))]) (by omega)) rfl 5 (by decide) (hN.use n_f_X4_121 rfl) (fun _ h9 => h9) rfl (tyX6_ok 5 (by decide)) (rf_nar o30 _) (rf_fit o30 _) (Nat.le_of_ble_eq_true rfl) dX4_restOf_67 (fun H locs hP hD hS => ?_)
    have hP : va_P (dC, dI) cls (wp [(h_lks, .inl (cy_lks, 210, .inr (.inr (.inr (.inr f_lks))))), (h_rws, .inl (cy_rws, 361, .inr (.inr (.inr (.inr f8))))), (h_pv, .inr (3, (mo177 v_pv (.ref h_rws) (.int z7) (.ref h_lks) (.int x_pv_linkCount) (.int x_pv_options))))] (PL nr9 ra10 (va_up rf11 (x_pv_rowCount).toInt.toNat ((rf11 (x_pv_rowCount).toInt.toNat).1, (rf11 (x_pv_rowCount).toInt.toNat).2.1, (rf11 (x_pv_rowCount).toInt.toNat).2.2.1, o21, o28, o30, (rf11 (x_pv_rowCount).toInt.toNat).2.2.2.2.2.2)) nl la lf ns sa sf)) H := by rw [← pl_setR2 (i := (x_pv_rowCount).toInt.toNat) (by omega)]; exact hP
    have hD : va_D A (wp [(h_lks, .inl (cy_lks, 210, .inr (.inr (.inr (.inr f_lks))))), (h_rws, .inl (cy_rws, 361, .inr (.inr (.inr (.inr f8))))), (h_pv, .inr (3, (mo177 v_pv (.ref h_rws) (.int z7) (.ref h_lks) (.int x_pv_linkCount) (.int x_pv_options))))] (PL nr9 ra10 (va_up rf11 (x_pv_rowCount).toInt.toNat ((rf11 (x_pv_rowCount).toInt.toNat).1, (rf11 (x_pv_rowCount).toInt.toNat).2.1, (rf11 (x_pv_rowCount).toInt.toNat).2.2.1, o21, o28, o30, (rf11 (x_pv_rowCount).toInt.toNat).2.2.2.2.2.2)) nl la lf ns sa sf)) := by rw [← pl_setR2 (i := (x_pv_rowCount).toInt.toNat) (by omega)]; exact hD
    refine lv_aload_n hx hb dX4_restOf_70 rfl (lv_at hl 0 rfl) ?_
    refine lv_aload_n hx hb dX4_restOf_71 rfl (lv_at hl 2 rfl) ?_
    refine va_getN (D := (dC, dI)) (ci := 9) (v := .int (rf11 rq).2.2.2.2.2.2) (C := RX6) (T := TX6) (N := 7) (host := "OppositePairs") hx hb hw iwX6 hown hK hP (3 + rq) (by rw [← qr9]; exact (pl_R3 (X := [(h_lks, .inl (cy_lks, 210, .inr (.inr (.inr (.inr f_lks))))), (h_rws, .inl (cy_rws, 361, .inr (.inr (.inr (.inr f8))))), (h_pv, .inr (3, (mo177 v_pv (.ref h_rws) (.int z7) (.ref h_lks) (.int x_pv_linkCount) (.int x_pv_options))))]) (by omega) (by omega))) rfl 6 (by decide) (hN.use n_f_X4_125 rfl) (fun _ h9 => h9) rfl dX4_restOf_72 ?_
    refine lv_topi (fun z32 ez32 => ?_)
    have vz32 : (z32).toInt = ((rf rq).2.2.2.2.2.2).toInt := by rw [ez32, qf9]
    have rz32 : -1 ≤ (z32).toInt ∧ (z32).toInt ≤ 179 := by rw [ez32, qf9]; exact (hn_rok rq (by omega)).2.2.2.2.2.2
    refine va_putN (D := (dC, dI)) (ci := 9) (v := .int z32) (ty := tyX6 6) (C := RX6) (T := TX6) (N := 7) (host := "OppositePairs") hx hb hw iwX6 tyX6 tyX6_ok nmX6 hown hK hP hD hS (3 + (x_pv_rowCount).toInt.toNat) (pl_R2 (X := [(h_lks, .inl (cy_lks, 210, .inr (.inr (.inr (.inr f_lks))))), (h_rws, .inl (cy_rws, 361, .inr (.inr (.inr (.inr f8))))), (h_pv, .inr (3, (mo177 v_pv (.ref h_rws) (.int z7) (.ref h_lks) (.int x_pv_linkCount) (.int x_pv_options))))]) (by omega)) rfl 6 (by decide) (hN.use n_f_X4_125 rfl) (fun _ h9 => h9) rfl (tyX6_ok 6 (by decide)) rfl rfl (Nat.le_of_ble_eq_true rfl) dX4_restOf_75 (fun H locs hP hD hS => ?_)
    have hP : va_P (dC, dI) cls (wp [(h_lks, .inl (cy_lks, 210, .inr (.inr (.inr (.inr f_lks))))), (h_rws, .inl (cy_rws, 361, .inr (.inr (.inr (.inr f8))))), (h_pv, .inr (3, (mo177 v_pv (.ref h_rws) (.int z7) (.ref h_lks) (.int x_pv_linkCount) (.int x_pv_options))))] (PL nr9 ra10 (va_up rf11 (x_pv_rowCount).toInt.toNat ((rf11 (x_pv_rowCount).toInt.toNat).1, (rf11 (x_pv_rowCount).toInt.toNat).2.1, (rf11 (x_pv_rowCount).toInt.toNat).2.2.1, o21, o28, o30, z32)) nl la lf ns sa sf)) H := by rw [← pl_setR2 (i := (x_pv_rowCount).toInt.toNat) (by omega)]; exact hP
    have hD : va_D A (wp [(h_lks, .inl (cy_lks, 210, .inr (.inr (.inr (.inr f_lks))))), (h_rws, .inl (cy_rws, 361, .inr (.inr (.inr (.inr f8))))), (h_pv, .inr (3, (mo177 v_pv (.ref h_rws) (.int z7) (.ref h_lks) (.int x_pv_linkCount) (.int x_pv_options))))] (PL nr9 ra10 (va_up rf11 (x_pv_rowCount).toInt.toNat ((rf11 (x_pv_rowCount).toInt.toNat).1, (rf11 (x_pv_rowCount).toInt.toNat).2.1, (rf11 (x_pv_rowCount).toInt.toNat).2.2.1, o21, o28, o30, z32)) nl la lf ns sa sf)) := by rw [← pl_setR2 (i := (x_pv_rowCount).toInt.toNat) (by omega)]; exact hD
    refine lv_aload_n hx hb dX4_restOf_78 rfl (lv_at hl 0 rfl) ?_
    obtain ⟨rf33, erf33⟩ : ∃ g, g = (va_up rf11 (x_pv_rowCount).toInt.toNat ((rf11 (x_pv_rowCount).toInt.toNat).1, (rf11 (x_pv_rowCount).toInt.toNat).2.1, (rf11 (x_pv_rowCount).toInt.toNat).2.2.1, o21, o28, o30, z32)) := ⟨_, rfl⟩
    have hP : va_P (dC, dI) cls (wp [(h_lks, .inl (cy_lks, 210, .inr (.inr (.inr (.inr f_lks))))), (h_rws, .inl (cy_rws, 361, .inr (.inr (.inr (.inr f8))))), (h_pv, .inr (3, (mo177 v_pv (.ref h_rws) (.int z7) (.ref h_lks) (.int x_pv_linkCount) (.int x_pv_options))))] (PL nr9 ra10 rf33 nl la lf ns sa sf)) H := by rw [erf33]; exact hP
    have hD : va_D A (wp [(h_lks, .inl (cy_lks, 210, .inr (.inr (.inr (.inr f_lks))))), (h_rws, .inl (cy_rws, 361, .inr (.inr (.inr (.inr f8))))), (h_pv, .inr (3, (mo177 v_pv (.ref h_rws) (.int z7) (.ref h_lks) (.int x_pv_linkCount) (.int x_pv_options))))] (PL nr9 ra10 rf33 nl la lf ns sa sf)) := by rw [erf33]; exact hD
    have srf33 : rf33 (x_pv_rowCount).toInt.toNat = ((rf11 (x_pv_rowCount).toInt.toNat).1, (rf11 (x_pv_rowCount).toInt.toNat).2.1, (rf11 (x_pv_rowCount).toInt.toNat).2.2.1, o21, o28, o30, z32) := by rw [erf33]; exact up_self _ _ _
    have orf33 : ∀ j : Nat, j ≠ (x_pv_rowCount).toInt.toNat → rf33 j = rf11 j := fun j hj => by rw [erf33]; exact up_ne hj
    have rs34o := orf33
    have rs34t := srf33
    have rs34a : ∀ m : Nat, m < nl → la m = la m := fun _ _ => rfl
    have rs34b := k17 (x_pv_rowCount).toInt.toNat (by omega)
    have rs34x : PB la (x_pv_linkCount).toInt o21 := pb_mono pb22 (by omega) (fun m hm => rs34a m (by omega))
    have rs34y : PB la (x_pv_linkCount).toInt o28 := pb_mono pb29 (by omega) (fun m hm => rs34a m (by omega))
    have rs34z : PB ra10 (x_pv_rowCount).toInt o30 := pb_mono pb31 (by omega) (fun m hm => k18 m (by omega))
    have rs34k : ROK nr9 ra10 rf11 nl la := rok_la k17 (by omega) rs34a
    have rs34m : -1 ≤ (z32).toInt ∧ (z32).toInt ≤ 179 := by omega
    have rs34n := (k19).2
    have rs34r : ROK nr9 ra10 rf33 nl la := rok_set rs34k rs34o rs34t (by rw [rs34n.1]; omega) (by rw [rs34n.2.1]; omega) (by omega) (pb_mono rs34x (by omega) (fun _ _ => rfl)) (pb_mono rs34y (by omega) (fun _ _ => rfl)) (pb_mono rs34z (by omega) (fun _ _ => rfl)) rs34m
    have rs34v : LVR ((x_pv_rowCount).toInt + 1) (x_pv_linkCount).toInt ra10 rf33 la := lvr_row (k := (x_pv_rowCount).toInt.toNat) hn_lvr (by omega) (fun m hm => k18 m (by omega)) (fun m hm => rs34a m (by omega)) (by omega) (fun j hj => (rs34o j hj).trans ((k19).1 j hj)) rs34t rs34x rs34y rs34z
    have rs34e : ∀ i : Nat, i ≠ (x_pv_rowCount).toInt.toNat → rf33 i = rf i := fun i hi => (rs34o i hi).trans ((k19).1 i hi)
    replace hP : va_P (dC, dI) cls (wp [(h_pv, .inr (3, (mo177 v_pv (.ref h_rws) (.int z7) (.ref h_lks) (.int x_pv_linkCount) (.int x_pv_options)))), (h_rws, .inl (cy_rws, 361, .inr (.inr (.inr (.inr f8))))), (h_lks, .inl (cy_lks, 210, .inr (.inr (.inr (.inr f_lks)))))] (PL nr9 ra10 rf33 nl la lf ns sa sf)) H := va_P.part (cx := [(h_pv, .inr (3, (mo177 v_pv (.ref h_rws) (.int z7) (.ref h_lks) (.int x_pv_linkCount) (.int x_pv_options)))), (h_rws, .inl (cy_rws, 361, .inr (.inr (.inr (.inr f8))))), (h_lks, .inl (cy_lks, 210, .inr (.inr (.inr (.inr f_lks)))))]) hP [2, 1, 0] rfl
    replace hD : va_D A (wp [(h_pv, .inr (3, (mo177 v_pv (.ref h_rws) (.int z7) (.ref h_lks) (.int x_pv_linkCount) (.int x_pv_options)))), (h_rws, .inl (cy_rws, 361, .inr (.inr (.inr (.inr f8))))), (h_lks, .inl (cy_lks, 210, .inr (.inr (.inr (.inr f_lks)))))] (PL nr9 ra10 rf33 nl la lf ns sa sf)) := va_D.part (cx := [(h_pv, .inr (3, (mo177 v_pv (.ref h_rws) (.int z7) (.ref h_lks) (.int x_pv_linkCount) (.int x_pv_options)))), (h_rws, .inl (cy_rws, 361, .inr (.inr (.inr (.inr f8))))), (h_lks, .inl (cy_lks, 210, .inr (.inr (.inr (.inr f_lks)))))]) hD [2, 1, 0] (by decide) rfl
    refine W.widen (k := ((x_pv_rowCount).toInt.toNat + 1 - nr) + ((x_pv_linkCount).toInt.toNat + (hasb x_pv_options 2).toNat - nl)) (n := 7 * ((x_pv_rowCount).toInt.toNat + 1 - nr) + 4 * ((x_pv_linkCount).toInt.toNat + (hasb x_pv_options 2).toNat - nl)) (by omega) (by omega) ?_
    have w35 : 0 ≤ ((z7)).toInt ∧ ((z7)).toInt ≤ 361 := by first | exact k12 | omega
    have w36 : 0 ≤ ((x_pv_linkCount)).toInt ∧ ((x_pv_linkCount)).toInt ≤ 210 := by first | exact hx_pv_linkCount | omega
    have w37 : ((z7)).toInt = (x_pv_rowCount).toInt + 1 := by first | exact k13 | omega
    have w38 : ((x_pv_linkCount)).toInt = (x_pv_linkCount).toInt + hasb x_pv_options 2 := by omega
    have w39 : nr ≤ (nr9) ∧ nl ≤ (nl) ∧ ((z7)).toInt ≤ (nr9) ∧ ((x_pv_linkCount)).toInt ≤ (nl) := by omega
    have w40 : GR2 nr (nr9) ((z7)).toInt := k15
    have w41 : GR2 nl (nl) ((x_pv_linkCount)).toInt := (gr2_same rfl (by omega))
    have w42 : PFX (nr9) 361 (f8) (ra10) := k16
    have w43 : PFX (nl) 210 (f_lks) (la) := hn_pk
    have w44 : ROK (nr9) (ra10) (rf33) (nl) (la) := rs34r
    have w45 : LOK (nl) (la) (lf) := hn_lok
    have w46 : LVR ((x_pv_rowCount).toInt + 1) ((x_pv_linkCount)).toInt (ra10) (rf33) (la) := (lvr_cast rs34v (by first | rfl | omega) (by first | rfl | omega))
    have w47 : ∀ i : Nat, i < nr → (ra10) i = ra i := k18
    have w48 : ∀ i : Nat, i < nl → (la) i = la i := rs34a
    have w49 : ∀ i : Nat, i ≠ (x_pv_rowCount).toInt.toNat → (rf33) i = rf i := rs34e
    have w50 : (some (ra10 (x_pv_rowCount).toInt.toNat) : Option Nat) = some ((ra10) (x_pv_rowCount).toInt.toNat) := rfl
    exact W.aret (v := va_rf (some (ra10 (x_pv_rowCount).toInt.toNat))) hx hb hr (Or.inl ⟨_, rfl⟩) (va_rf_or _) (fun t ht hW => ⟨⟨(some (ra10 (x_pv_rowCount).toInt.toNat)), (z7, x_pv_linkCount, f8, f_lks, nr9, ra10, rf33, nl, la, lf), rfl, ⟨w35, w36, w37, w38, w39, w40, w41, w42, w43, w44, w45, w46, w47, w48, w49, w50⟩, by rw [ht]; exact hP, hD⟩, hS.F ht⟩) hS.2.2 dX4_restOf_79
  · have kc27 := (not_congr (cv_eq (rfl : (r24).toInt = (r24).toInt) (by decide : (0 : Int32).toInt = 0))).mp c27
    replace kc27 : 1 ≤ (r24).toInt := by omega
    refine lv_aload_n hx hb dX4_restOf_36 rfl (lv_at hl 1 rfl) ?_
    refine lv_aload_n hx hb dX4_restOf_37 rfl (lv_at hl 2 rfl) ?_
    refine va_getN (D := (dC, dI)) (ci := 9) (v := .int (rf11 rq).1) (C := RX6) (T := TX6) (N := 7) (host := "OppositePairs") hx hb hw iwX6 hown hK hP (3 + rq) (by rw [← qr9]; exact (pl_R3 (X := [(h_lks, .inl (cy_lks, 210, .inr (.inr (.inr (.inr f_lks))))), (h_rws, .inl (cy_rws, 361, .inr (.inr (.inr (.inr f8))))), (h_pv, .inr (3, (mo177 v_pv (.ref h_rws) (.int z7) (.ref h_lks) (.int x_pv_linkCount) (.int x_pv_options))))]) (by omega) (by omega))) rfl 0 (by decide) (hN.use n_f_X4_140 rfl) (fun _ h9 => h9) rfl dX4_restOf_38 ?_
    refine lv_topi (fun z51 ez51 => ?_)
    have vz51 : (z51).toInt = ((rf rq).1).toInt := by rw [ez51, qf9]
    have rz51 : 0 ≤ (z51).toInt ∧ (z51).toInt ≤ 29 := by rw [ez51, qf9]; exact (hn_rok rq (by omega)).1
    refine lv_aload_n hx hb dX4_restOf_41 rfl (lv_at hl 2 rfl) ?_
    refine va_getN (D := (dC, dI)) (ci := 9) (v := .int (rf11 rq).2.2.1) (C := RX6) (T := TX6) (N := 7) (host := "OppositePairs") hx hb hw iwX6 hown hK hP (3 + rq) (by rw [← qr9]; exact (pl_R3 (X := [(h_lks, .inl (cy_lks, 210, .inr (.inr (.inr (.inr f_lks))))), (h_rws, .inl (cy_rws, 361, .inr (.inr (.inr (.inr f8))))), (h_pv, .inr (3, (mo177 v_pv (.ref h_rws) (.int z7) (.ref h_lks) (.int x_pv_linkCount) (.int x_pv_options))))]) (by omega) (by omega))) rfl 2 (by decide) (hN.use n_f_X4_137 rfl) (fun _ h9 => h9) rfl dX4_restOf_42 ?_
    refine lv_topi (fun z52 ez52 => ?_)
    have vz52 : (z52).toInt = ((rf rq).2.2.1).toInt := by rw [ez52, qf9]
    have rz52 : 0 ≤ (z52).toInt ∧ (z52).toInt ≤ 7 := by rw [ez52, qf9]; exact (hn_rok rq (by omega)).2.2.1
    refine lv_aload_n hx hb dX4_restOf_45 rfl (lv_at hl 2 rfl) ?_
    refine va_getN (D := (dC, dI)) (ci := 9) (v := va_rf (rf11 rq).2.2.2.2.1) (C := RX6) (T := TX6) (N := 7) (host := "OppositePairs") hx hb hw iwX6 hown hK hP (3 + rq) (by rw [← qr9]; exact (pl_R3 (X := [(h_lks, .inl (cy_lks, 210, .inr (.inr (.inr (.inr f_lks))))), (h_rws, .inl (cy_rws, 361, .inr (.inr (.inr (.inr f8))))), (h_pv, .inr (3, (mo177 v_pv (.ref h_rws) (.int z7) (.ref h_lks) (.int x_pv_linkCount) (.int x_pv_options))))]) (by omega) (by omega))) rfl 4 (by decide) (hN.use n_f_X4_118 rfl) (fun _ h9 => h9) rfl dX4_restOf_46 ?_
    obtain ⟨o53, eo53⟩ : ∃ o, o = (rf11 rq).2.2.2.2.1 := ⟨_, rfl⟩
    rw [← eo53]
    have pb54 : PB la (x_pv_linkCount).toInt o53 := by rw [eo53, qf9]; exact (hn_lvr rq (by omega)).2.1
    obtain ⟨rf55, erf55⟩ : ∃ g, g = (va_up rf11 (x_pv_rowCount).toInt.toNat ((rf11 (x_pv_rowCount).toInt.toNat).1, (rf11 (x_pv_rowCount).toInt.toNat).2.1, (rf11 (x_pv_rowCount).toInt.toNat).2.2.1, o21, (rf11 (x_pv_rowCount).toInt.toNat).2.2.2.2.1, (rf11 (x_pv_rowCount).toInt.toNat).2.2.2.2.2.1, (rf11 (x_pv_rowCount).toInt.toNat).2.2.2.2.2.2)) := ⟨_, rfl⟩
    have hP : va_P (dC, dI) cls (wp [(h_lks, .inl (cy_lks, 210, .inr (.inr (.inr (.inr f_lks))))), (h_rws, .inl (cy_rws, 361, .inr (.inr (.inr (.inr f8))))), (h_pv, .inr (3, (mo177 v_pv (.ref h_rws) (.int z7) (.ref h_lks) (.int x_pv_linkCount) (.int x_pv_options))))] (PL nr9 ra10 rf55 nl la lf ns sa sf)) H := by rw [erf55]; exact hP
    have hD : va_D A (wp [(h_lks, .inl (cy_lks, 210, .inr (.inr (.inr (.inr f_lks))))), (h_rws, .inl (cy_rws, 361, .inr (.inr (.inr (.inr f8))))), (h_pv, .inr (3, (mo177 v_pv (.ref h_rws) (.int z7) (.ref h_lks) (.int x_pv_linkCount) (.int x_pv_options))))] (PL nr9 ra10 rf55 nl la lf ns sa sf)) := by rw [erf55]; exact hD
    have srf55 : rf55 (x_pv_rowCount).toInt.toNat = ((rf11 (x_pv_rowCount).toInt.toNat).1, (rf11 (x_pv_rowCount).toInt.toNat).2.1, (rf11 (x_pv_rowCount).toInt.toNat).2.2.1, o21, (rf11 (x_pv_rowCount).toInt.toNat).2.2.2.2.1, (rf11 (x_pv_rowCount).toInt.toNat).2.2.2.2.2.1, (rf11 (x_pv_rowCount).toInt.toNat).2.2.2.2.2.2) := by rw [erf55]; exact up_self _ _ _
    have orf55 : ∀ j : Nat, j ≠ (x_pv_rowCount).toInt.toNat → rf55 j = rf11 j := fun j hj => by rw [erf55]; exact up_ne hj
    have qf8 : rf55 rq = rf rq := (orf55 rq (by omega)).trans qf9
    obtain ⟨vq56, evq56⟩ := mq177_176 v_pv (.ref h_rws) (.int z7) (.int x_pv_options)
    replace hP : va_P (dC, dI) cls (wp [(h_lks, .inl (cy_lks, 210, .inr (.inr (.inr (.inr f_lks))))), (h_rws, .inl (cy_rws, 361, .inr (.inr (.inr (.inr f8))))), (h_pv, .inr (3, (mo176 vq56 (.ref h_lks) (.int x_pv_linkCount))))] (PL nr9 ra10 rf55 nl la lf ns sa sf)) H := by rw [evq56]; exact hP
    replace hD : va_D A (wp [(h_lks, .inl (cy_lks, 210, .inr (.inr (.inr (.inr f_lks))))), (h_rws, .inl (cy_rws, 361, .inr (.inr (.inr (.inr f8))))), (h_pv, .inr (3, (mo176 vq56 (.ref h_lks) (.int x_pv_linkCount))))] (PL nr9 ra10 rf55 nl la lf ns sa sf)) := by rw [evq56]; exact hD
    have hPc : va_P (dC, dI) cls (wp [(h_pv, .inr (3, (mo176 vq56 (.ref h_lks) (.int x_pv_linkCount)))), (h_lks, .inl (cy_lks, 210, .inr (.inr (.inr (.inr f_lks)))))] (PL nr9 ra10 rf55 nl la lf ns sa sf)) H := va_P.part (cx := [(h_pv, .inr (3, (mo176 vq56 (.ref h_lks) (.int x_pv_linkCount)))), (h_lks, .inl (cy_lks, 210, .inr (.inr (.inr (.inr f_lks)))))]) hP [2, 0] rfl
    have hDc : va_D A (wp [(h_pv, .inr (3, (mo176 vq56 (.ref h_lks) (.int x_pv_linkCount)))), (h_lks, .inl (cy_lks, 210, .inr (.inr (.inr (.inr f_lks)))))] (PL nr9 ra10 rf55 nl la lf ns sa sf)) := va_D.part (cx := [(h_pv, .inr (3, (mo176 vq56 (.ref h_lks) (.int x_pv_linkCount)))), (h_lks, .inl (cy_lks, 210, .inr (.inr (.inr (.inr f_lks)))))]) hD [2, 0] (by decide) rfl
    have hKc := hK.sub (tys' := [(cy_lks, .object "OppositePairs$Link")]) [1] rfl
    have hFc : ∀ q, va_A (wp [(h_pv, .inr (3, (mo176 vq56 (.ref h_lks) (.int x_pv_linkCount)))), (h_lks, .inl (cy_lks, 210, .inr (.inr (.inr (.inr f_lks)))))] (PL nr9 ra10 rf55 nl la lf ns sa sf)) H.size q → A q := va_freeP (cx := [(h_pv, .inr (3, (mo176 vq56 (.ref h_lks) (.int x_pv_linkCount)))), (h_lks, .inl (cy_lks, 210, .inr (.inr (.inr (.inr f_lks)))))]) hD hS hA [2, 0] rfl
    refine va_callq (va_runV (As := [.int z51, .int z52, va_rf o53]) (rest := [.ref (ra10 (x_pv_rowCount).toInt.toNat)]) ⟨hx, hb, hml, hown, hts⟩ (c_X4_newLink l dC dI H.size h_pv h_lks nr9 ra10 rf55 nl la lf ns sa sf vq56 x_pv_linkCount cy_lks f_lks z51 z52 o53 (by first | exact hx_pv_linkCount | omega) (by omega) (by omega) (by first | exact q3 | omega) (by first | exact q5 | omega) hn_pk hn_lok pb54) (cwV 3 hts (gv hT w_m_X4_262 w_instanceMethod_X4_newLink ws_sel_X4_newLink w_ini_X4 w_code_X4_newLink) rfl rfl rfl (by decide +kernel) ⟨(by dsimp only [headSpec]; omega), (by dsimp only [headSpec]; omega)⟩) ⟨pre_blind, va_recv hK hP (ci := 3) (q0 := 2) rfl rfl, pre_of hPc hKc hDc hN⟩ rfl rfl hl.1 rfl (lv_room (Nat.le_of_ble_eq_true rfl)) dX4_restOf_49 ⟨(by dsimp only [headSpec]; omega), (by dsimp only [headSpec]; omega)⟩) hS (fun q _ h => hFc q h) hFc (fun o57 u t H locs ht hvm hq hB hz1 hk1 hS9 => ?_)
    obtain ⟨z58, f59, nl60, la61, lf62⟩ := u
    obtain ⟨hP1, hD1⟩ := hB
    rw [ht] at hP1
    obtain ⟨hP9, hD9⟩ := va_joinP (wr := [(h_rws, .inl (cy_rws, 361, .inr (.inr (.inr (.inr f8)))))]) (rx := [(h_pv, .inr (3, (mo176 vq56 (.ref h_lks) (.int z58)))), (h_lks, .inl (cy_lks, 210, .inr (.inr (.inr (.inr f59)))))]) (cx := [(h_pv, .inr (3, (mo176 vq56 (.ref h_lks) (.int x_pv_linkCount)))), (h_lks, .inl (cy_lks, 210, .inr (.inr (.inr (.inr f_lks)))))]) hP hD [2, 0] [1] rfl rfl (by decide) (by decide) hk1 hFc hP1 hD1
    clear hP hD hS hPc hDc hKc hFc hP1 hD1 hk1 hz1 ht hvm
    have hP : va_P (dC, dI) cls (wp [(h_rws, .inl (cy_rws, 361, .inr (.inr (.inr (.inr f8))))), (h_pv, .inr (3, (mo176 vq56 (.ref h_lks) (.int z58)))), (h_lks, .inl (cy_lks, 210, .inr (.inr (.inr (.inr f59)))))] (PL nr9 ra10 rf55 nl60 la61 lf62 ns sa sf)) H := hP9
    have hD : va_D A (wp [(h_rws, .inl (cy_rws, 361, .inr (.inr (.inr (.inr f8))))), (h_pv, .inr (3, (mo176 vq56 (.ref h_lks) (.int z58)))), (h_lks, .inl (cy_lks, 210, .inr (.inr (.inr (.inr f59)))))] (PL nr9 ra10 rf55 nl60 la61 lf62 ns sa sf)) := hD9
    have hS := hS9
    clear hP9 hD9 hS9
    rw [evq56] at hP hD
    replace hP : va_P (dC, dI) cls (wp [(h_rws, .inl (cy_rws, 361, .inr (.inr (.inr (.inr f8))))), (h_pv, .inr (3, (mo177 v_pv (.ref h_rws) (.int z7) (.ref h_lks) (.int z58) (.int x_pv_options)))), (h_lks, .inl (cy_lks, 210, .inr (.inr (.inr (.inr f59)))))] (PL nr9 ra10 rf55 nl60 la61 lf62 ns sa sf)) H := hP
    replace hD : va_D A (wp [(h_rws, .inl (cy_rws, 361, .inr (.inr (.inr (.inr f8))))), (h_pv, .inr (3, (mo177 v_pv (.ref h_rws) (.int z7) (.ref h_lks) (.int z58) (.int x_pv_options)))), (h_lks, .inl (cy_lks, 210, .inr (.inr (.inr (.inr f59)))))] (PL nr9 ra10 rf55 nl60 la61 lf62 ns sa sf)) := hD
    clear evq56 
    obtain ⟨k63, k64, k65, k66, k67, k68, k69, k70, k71⟩ := hq
    replace k63 : 0 ≤ ((z58)).toInt ∧ ((z58)).toInt ≤ 210 := k63
    replace k64 : ((z58)).toInt = ((x_pv_linkCount)).toInt + 1 := k64
    replace k65 : (nl) ≤ (nl60) ∧ ((x_pv_linkCount)).toInt + 1 ≤ (nl60) := k65
    replace k66 : GR2 (nl) (nl60) ((z58)).toInt := k66
    replace k67 : PFX (nl60) 210 (f59) (la61) := k67
    replace k68 : LOK (nl60) (la61) (lf62) := k68
    replace k69 : ∀ i : Nat, i < (nl) → (la61) i = (la) i := k69
    replace k70 : ∀ i : Nat, i ≠ ((x_pv_linkCount)).toInt.toNat → (lf62) i = (lf) i := k70
    replace k71 : (o57) = some ((la61) ((x_pv_linkCount)).toInt.toNat) := k71
    have rto57 := k71
    subst rto57
    show W p l e _ s m _ below meth c _ _ _ _ _ (F0 m 52 ls [.ref (la61 (x_pv_linkCount).toInt.toNat), .ref (ra10 (x_pv_rowCount).toInt.toNat)])
    have qf9 := qf8
    refine lv_goto (tgt := 59) hx hb dX4_restOf_52 (by decide) ?_
    show W p l e _ s m _ below meth c _ _ _ _ _ (F0 m 59 _ (va_rf (some (la61 (x_pv_linkCount).toInt.toNat)) :: _))
    refine va_putN (D := (dC, dI)) (ci := 9) (v := (va_rf (some (la61 (x_pv_linkCount).toInt.toNat)))) (ty := tyX6 4) (C := RX6) (T := TX6) (N := 7) (host := "OppositePairs") hx hb hw iwX6 tyX6 tyX6_ok nmX6 hown hK hP hD hS (3 + (x_pv_rowCount).toInt.toNat) (pl_R (X := [(h_rws, .inl (cy_rws, 361, .inr (.inr (.inr (.inr f8))))), (h_pv, .inr (3, (mo177 v_pv (.ref h_rws) (.int z7) (.ref h_lks) (.int z58) (.int x_pv_options)))), (h_lks, .inl (cy_lks, 210, .inr (.inr (.inr (.inr f59)))))]) (by omega)) rfl 4 (by decide) (hN.use n_f_X4_118 rfl) (fun _ h9 => h9) rfl (tyX6_ok 4 (by decide)) (rf_nar (some (la61 (x_pv_linkCount).toInt.toNat)) _) (rf_fit (some (la61 (x_pv_linkCount).toInt.toNat)) _) (Nat.le_of_ble_eq_true rfl) dX4_restOf_59 (fun H locs hP hD hS => ?_)
    have hP : va_P (dC, dI) cls (wp [(h_rws, .inl (cy_rws, 361, .inr (.inr (.inr (.inr f8))))), (h_pv, .inr (3, (mo177 v_pv (.ref h_rws) (.int z7) (.ref h_lks) (.int z58) (.int x_pv_options)))), (h_lks, .inl (cy_lks, 210, .inr (.inr (.inr (.inr f59)))))] (PL nr9 ra10 (va_up rf55 (x_pv_rowCount).toInt.toNat ((rf55 (x_pv_rowCount).toInt.toNat).1, (rf55 (x_pv_rowCount).toInt.toNat).2.1, (rf55 (x_pv_rowCount).toInt.toNat).2.2.1, (rf55 (x_pv_rowCount).toInt.toNat).2.2.2.1, (some (la61 (x_pv_linkCount).toInt.toNat)), (rf55 (x_pv_rowCount).toInt.toNat).2.2.2.2.2.1, (rf55 (x_pv_rowCount).toInt.toNat).2.2.2.2.2.2)) nl60 la61 lf62 ns sa sf)) H := by rw [← pl_setR (i := (x_pv_rowCount).toInt.toNat) (by omega)]; exact hP
    have hD : va_D A (wp [(h_rws, .inl (cy_rws, 361, .inr (.inr (.inr (.inr f8))))), (h_pv, .inr (3, (mo177 v_pv (.ref h_rws) (.int z7) (.ref h_lks) (.int z58) (.int x_pv_options)))), (h_lks, .inl (cy_lks, 210, .inr (.inr (.inr (.inr f59)))))] (PL nr9 ra10 (va_up rf55 (x_pv_rowCount).toInt.toNat ((rf55 (x_pv_rowCount).toInt.toNat).1, (rf55 (x_pv_rowCount).toInt.toNat).2.1, (rf55 (x_pv_rowCount).toInt.toNat).2.2.1, (rf55 (x_pv_rowCount).toInt.toNat).2.2.2.1, (some (la61 (x_pv_linkCount).toInt.toNat)), (rf55 (x_pv_rowCount).toInt.toNat).2.2.2.2.2.1, (rf55 (x_pv_rowCount).toInt.toNat).2.2.2.2.2.2)) nl60 la61 lf62 ns sa sf)) := by rw [← pl_setR (i := (x_pv_rowCount).toInt.toNat) (by omega)]; exact hD
    refine lv_aload_n hx hb dX4_restOf_62 rfl (lv_at hl 0 rfl) ?_
    refine lv_aload_n hx hb dX4_restOf_63 rfl (lv_at hl 2 rfl) ?_
    refine va_getN (D := (dC, dI)) (ci := 9) (v := va_rf (rf55 rq).2.2.2.2.2.1) (C := RX6) (T := TX6) (N := 7) (host := "OppositePairs") hx hb hw iwX6 hown hK hP (3 + rq) (by rw [← qr9]; exact (pl_R3 (X := [(h_rws, .inl (cy_rws, 361, .inr (.inr (.inr (.inr f8))))), (h_pv, .inr (3, (mo177 v_pv (.ref h_rws) (.int z7) (.ref h_lks) (.int z58) (.int x_pv_options)))), (h_lks, .inl (cy_lks, 210, .inr (.inr (.inr (.inr f59)))))]) (by omega) (by omega))) rfl 5 (by decide) (hN.use n_f_X4_121 rfl) (fun _ h9 => h9) rfl dX4_restOf_64 ?_
    obtain ⟨o72, eo72⟩ : ∃ o, o = (rf55 rq).2.2.2.2.2.1 := ⟨_, rfl⟩
    rw [← eo72]
    have pb73 : PB ra rq o72 := by rw [eo72, qf9]; exact (hn_lvr rq (by omega)).2.2
    refine va_putN (D := (dC, dI)) (ci := 9) (v := (va_rf o72)) (ty := tyX6 5) (C := RX6) (T := TX6) (N := 7) (host := "OppositePairs") hx hb hw iwX6 tyX6 tyX6_ok nmX6 hown hK hP hD hS (3 + (x_pv_rowCount).toInt.toNat) (pl_R2 (X := [(h_rws, .inl (cy_rws, 361, .inr (.inr (.inr (.inr f8))))), (h_pv, .inr (3, (mo177 v_pv (.ref h_rws) (.int z7) (.ref h_lks) (.int z58) (.int x_pv_options)))), (h_lks, .inl (cy_lks, 210, .inr (.inr (.inr (.inr f59)))))]) (by omega)) rfl 5 (by decide) (hN.use n_f_X4_121 rfl) (fun _ h9 => h9) rfl (tyX6_ok 5 (by decide)) (rf_nar o72 _) (rf_fit o72 _) (Nat.le_of_ble_eq_true rfl) dX4_restOf_67 (fun H locs hP hD hS => ?_)
    have hP : va_P (dC, dI) cls (wp [(h_rws, .inl (cy_rws, 361, .inr (.inr (.inr (.inr f8))))), (h_pv, .inr (3, (mo177 v_pv (.ref h_rws) (.int z7) (.ref h_lks) (.int z58) (.int x_pv_options)))), (h_lks, .inl (cy_lks, 210, .inr (.inr (.inr (.inr f59)))))] (PL nr9 ra10 (va_up rf55 (x_pv_rowCount).toInt.toNat ((rf55 (x_pv_rowCount).toInt.toNat).1, (rf55 (x_pv_rowCount).toInt.toNat).2.1, (rf55 (x_pv_rowCount).toInt.toNat).2.2.1, (rf55 (x_pv_rowCount).toInt.toNat).2.2.2.1, (some (la61 (x_pv_linkCount).toInt.toNat)), o72, (rf55 (x_pv_rowCount).toInt.toNat).2.2.2.2.2.2)) nl60 la61 lf62 ns sa sf)) H := by rw [← pl_setR2 (i := (x_pv_rowCount).toInt.toNat) (by omega)]; exact hP
    have hD : va_D A (wp [(h_rws, .inl (cy_rws, 361, .inr (.inr (.inr (.inr f8))))), (h_pv, .inr (3, (mo177 v_pv (.ref h_rws) (.int z7) (.ref h_lks) (.int z58) (.int x_pv_options)))), (h_lks, .inl (cy_lks, 210, .inr (.inr (.inr (.inr f59)))))] (PL nr9 ra10 (va_up rf55 (x_pv_rowCount).toInt.toNat ((rf55 (x_pv_rowCount).toInt.toNat).1, (rf55 (x_pv_rowCount).toInt.toNat).2.1, (rf55 (x_pv_rowCount).toInt.toNat).2.2.1, (rf55 (x_pv_rowCount).toInt.toNat).2.2.2.1, (some (la61 (x_pv_linkCount).toInt.toNat)), o72, (rf55 (x_pv_rowCount).toInt.toNat).2.2.2.2.2.2)) nl60 la61 lf62 ns sa sf)) := by rw [← pl_setR2 (i := (x_pv_rowCount).toInt.toNat) (by omega)]; exact hD
    refine lv_aload_n hx hb dX4_restOf_70 rfl (lv_at hl 0 rfl) ?_
    refine lv_aload_n hx hb dX4_restOf_71 rfl (lv_at hl 2 rfl) ?_
    refine va_getN (D := (dC, dI)) (ci := 9) (v := .int (rf55 rq).2.2.2.2.2.2) (C := RX6) (T := TX6) (N := 7) (host := "OppositePairs") hx hb hw iwX6 hown hK hP (3 + rq) (by rw [← qr9]; exact (pl_R3 (X := [(h_rws, .inl (cy_rws, 361, .inr (.inr (.inr (.inr f8))))), (h_pv, .inr (3, (mo177 v_pv (.ref h_rws) (.int z7) (.ref h_lks) (.int z58) (.int x_pv_options)))), (h_lks, .inl (cy_lks, 210, .inr (.inr (.inr (.inr f59)))))]) (by omega) (by omega))) rfl 6 (by decide) (hN.use n_f_X4_125 rfl) (fun _ h9 => h9) rfl dX4_restOf_72 ?_
    refine lv_topi (fun z74 ez74 => ?_)
    have vz74 : (z74).toInt = ((rf rq).2.2.2.2.2.2).toInt := by rw [ez74, qf9]
    have rz74 : -1 ≤ (z74).toInt ∧ (z74).toInt ≤ 179 := by rw [ez74, qf9]; exact (hn_rok rq (by omega)).2.2.2.2.2.2
    refine va_putN (D := (dC, dI)) (ci := 9) (v := .int z74) (ty := tyX6 6) (C := RX6) (T := TX6) (N := 7) (host := "OppositePairs") hx hb hw iwX6 tyX6 tyX6_ok nmX6 hown hK hP hD hS (3 + (x_pv_rowCount).toInt.toNat) (pl_R2 (X := [(h_rws, .inl (cy_rws, 361, .inr (.inr (.inr (.inr f8))))), (h_pv, .inr (3, (mo177 v_pv (.ref h_rws) (.int z7) (.ref h_lks) (.int z58) (.int x_pv_options)))), (h_lks, .inl (cy_lks, 210, .inr (.inr (.inr (.inr f59)))))]) (by omega)) rfl 6 (by decide) (hN.use n_f_X4_125 rfl) (fun _ h9 => h9) rfl (tyX6_ok 6 (by decide)) rfl rfl (Nat.le_of_ble_eq_true rfl) dX4_restOf_75 (fun H locs hP hD hS => ?_)
    have hP : va_P (dC, dI) cls (wp [(h_rws, .inl (cy_rws, 361, .inr (.inr (.inr (.inr f8))))), (h_pv, .inr (3, (mo177 v_pv (.ref h_rws) (.int z7) (.ref h_lks) (.int z58) (.int x_pv_options)))), (h_lks, .inl (cy_lks, 210, .inr (.inr (.inr (.inr f59)))))] (PL nr9 ra10 (va_up rf55 (x_pv_rowCount).toInt.toNat ((rf55 (x_pv_rowCount).toInt.toNat).1, (rf55 (x_pv_rowCount).toInt.toNat).2.1, (rf55 (x_pv_rowCount).toInt.toNat).2.2.1, (rf55 (x_pv_rowCount).toInt.toNat).2.2.2.1, (some (la61 (x_pv_linkCount).toInt.toNat)), o72, z74)) nl60 la61 lf62 ns sa sf)) H := by rw [← pl_setR2 (i := (x_pv_rowCount).toInt.toNat) (by omega)]; exact hP
    have hD : va_D A (wp [(h_rws, .inl (cy_rws, 361, .inr (.inr (.inr (.inr f8))))), (h_pv, .inr (3, (mo177 v_pv (.ref h_rws) (.int z7) (.ref h_lks) (.int z58) (.int x_pv_options)))), (h_lks, .inl (cy_lks, 210, .inr (.inr (.inr (.inr f59)))))] (PL nr9 ra10 (va_up rf55 (x_pv_rowCount).toInt.toNat ((rf55 (x_pv_rowCount).toInt.toNat).1, (rf55 (x_pv_rowCount).toInt.toNat).2.1, (rf55 (x_pv_rowCount).toInt.toNat).2.2.1, (rf55 (x_pv_rowCount).toInt.toNat).2.2.2.1, (some (la61 (x_pv_linkCount).toInt.toNat)), o72, z74)) nl60 la61 lf62 ns sa sf)) := by rw [← pl_setR2 (i := (x_pv_rowCount).toInt.toNat) (by omega)]; exact hD
    refine lv_aload_n hx hb dX4_restOf_78 rfl (lv_at hl 0 rfl) ?_
    obtain ⟨rf75, erf75⟩ : ∃ g, g = (va_up rf55 (x_pv_rowCount).toInt.toNat ((rf55 (x_pv_rowCount).toInt.toNat).1, (rf55 (x_pv_rowCount).toInt.toNat).2.1, (rf55 (x_pv_rowCount).toInt.toNat).2.2.1, (rf55 (x_pv_rowCount).toInt.toNat).2.2.2.1, (some (la61 (x_pv_linkCount).toInt.toNat)), o72, z74)) := ⟨_, rfl⟩
    have hP : va_P (dC, dI) cls (wp [(h_rws, .inl (cy_rws, 361, .inr (.inr (.inr (.inr f8))))), (h_pv, .inr (3, (mo177 v_pv (.ref h_rws) (.int z7) (.ref h_lks) (.int z58) (.int x_pv_options)))), (h_lks, .inl (cy_lks, 210, .inr (.inr (.inr (.inr f59)))))] (PL nr9 ra10 rf75 nl60 la61 lf62 ns sa sf)) H := by rw [erf75]; exact hP
    have hD : va_D A (wp [(h_rws, .inl (cy_rws, 361, .inr (.inr (.inr (.inr f8))))), (h_pv, .inr (3, (mo177 v_pv (.ref h_rws) (.int z7) (.ref h_lks) (.int z58) (.int x_pv_options)))), (h_lks, .inl (cy_lks, 210, .inr (.inr (.inr (.inr f59)))))] (PL nr9 ra10 rf75 nl60 la61 lf62 ns sa sf)) := by rw [erf75]; exact hD
    have srf75 : rf75 (x_pv_rowCount).toInt.toNat = ((rf55 (x_pv_rowCount).toInt.toNat).1, (rf55 (x_pv_rowCount).toInt.toNat).2.1, (rf55 (x_pv_rowCount).toInt.toNat).2.2.1, (rf55 (x_pv_rowCount).toInt.toNat).2.2.2.1, (some (la61 (x_pv_linkCount).toInt.toNat)), o72, z74) := by rw [erf75]; exact up_self _ _ _
    have orf75 : ∀ j : Nat, j ≠ (x_pv_rowCount).toInt.toNat → rf75 j = rf55 j := fun j hj => by rw [erf75]; exact up_ne hj
    have rs76o : ∀ j : Nat, j ≠ (x_pv_rowCount).toInt.toNat → rf75 j = rf11 j := fun j hj => (orf75 j hj).trans (orf55 j hj)
    have rs76t : rf75 (x_pv_rowCount).toInt.toNat = ((rf11 (x_pv_rowCount).toInt.toNat).1, (rf11 (x_pv_rowCount).toInt.toNat).2.1, (rf11 (x_pv_rowCount).toInt.toNat).2.2.1, o21, (some (la61 (x_pv_linkCount).toInt.toNat)), o72, z74) := by rw [srf75, srf55]
    have rs76b := k17 (x_pv_rowCount).toInt.toNat (by omega)
    have rs76x : PB la61 (z58).toInt o21 := pb_mono pb22 (by omega) (fun m hm => k69 m (by omega))
    have rs76y : PB la61 (z58).toInt (some (la61 (x_pv_linkCount).toInt.toNat)) := Or.inr ⟨(x_pv_linkCount).toInt.toNat, by omega, rfl⟩
    have rs76z : PB ra10 (x_pv_rowCount).toInt o72 := pb_mono pb73 (by omega) (fun m hm => k18 m (by omega))
    have rs76k : ROK nr9 ra10 rf11 nl60 la61 := rok_la k17 (by omega) k69
    have rs76m : -1 ≤ (z74).toInt ∧ (z74).toInt ≤ 179 := by omega
    have rs76n := (k19).2
    have rs76r : ROK nr9 ra10 rf75 nl60 la61 := rok_set rs76k rs76o rs76t (by rw [rs76n.1]; omega) (by rw [rs76n.2.1]; omega) (by omega) (pb_mono rs76x (by omega) (fun _ _ => rfl)) (pb_mono rs76y (by omega) (fun _ _ => rfl)) (pb_mono rs76z (by omega) (fun _ _ => rfl)) rs76m
    have rs76v : LVR ((x_pv_rowCount).toInt + 1) (z58).toInt ra10 rf75 la61 := lvr_row (k := (x_pv_rowCount).toInt.toNat) hn_lvr (by omega) (fun m hm => k18 m (by omega)) (fun m hm => k69 m (by omega)) (by omega) (fun j hj => (rs76o j hj).trans ((k19).1 j hj)) rs76t rs76x rs76y rs76z
    have rs76e : ∀ i : Nat, i ≠ (x_pv_rowCount).toInt.toNat → rf75 i = rf i := fun i hi => (rs76o i hi).trans ((k19).1 i hi)
    replace hP : va_P (dC, dI) cls (wp [(h_pv, .inr (3, (mo177 v_pv (.ref h_rws) (.int z7) (.ref h_lks) (.int z58) (.int x_pv_options)))), (h_rws, .inl (cy_rws, 361, .inr (.inr (.inr (.inr f8))))), (h_lks, .inl (cy_lks, 210, .inr (.inr (.inr (.inr f59)))))] (PL nr9 ra10 rf75 nl60 la61 lf62 ns sa sf)) H := va_P.part (cx := [(h_pv, .inr (3, (mo177 v_pv (.ref h_rws) (.int z7) (.ref h_lks) (.int z58) (.int x_pv_options)))), (h_rws, .inl (cy_rws, 361, .inr (.inr (.inr (.inr f8))))), (h_lks, .inl (cy_lks, 210, .inr (.inr (.inr (.inr f59)))))]) hP [1, 0, 2] rfl
    replace hD : va_D A (wp [(h_pv, .inr (3, (mo177 v_pv (.ref h_rws) (.int z7) (.ref h_lks) (.int z58) (.int x_pv_options)))), (h_rws, .inl (cy_rws, 361, .inr (.inr (.inr (.inr f8))))), (h_lks, .inl (cy_lks, 210, .inr (.inr (.inr (.inr f59)))))] (PL nr9 ra10 rf75 nl60 la61 lf62 ns sa sf)) := va_D.part (cx := [(h_pv, .inr (3, (mo177 v_pv (.ref h_rws) (.int z7) (.ref h_lks) (.int z58) (.int x_pv_options)))), (h_rws, .inl (cy_rws, 361, .inr (.inr (.inr (.inr f8))))), (h_lks, .inl (cy_lks, 210, .inr (.inr (.inr (.inr f59)))))]) hD [1, 0, 2] (by decide) rfl
    refine W.widen (k := ((x_pv_rowCount).toInt.toNat + 1 - nr) + ((x_pv_linkCount).toInt.toNat + (hasb x_pv_options 2).toNat - nl)) (n := 7 * ((x_pv_rowCount).toInt.toNat + 1 - nr) + 4 * ((x_pv_linkCount).toInt.toNat + (hasb x_pv_options 2).toNat - nl)) (by omega) (by omega) ?_
    have w77 : 0 ≤ ((z7)).toInt ∧ ((z7)).toInt ≤ 361 := by first | exact k12 | omega
    have w78 : 0 ≤ ((z58)).toInt ∧ ((z58)).toInt ≤ 210 := by first | exact k63 | omega
    have w79 : ((z7)).toInt = (x_pv_rowCount).toInt + 1 := by first | exact k13 | omega
    have w80 : ((z58)).toInt = (x_pv_linkCount).toInt + hasb x_pv_options 2 := by omega
    have w81 : nr ≤ (nr9) ∧ nl ≤ (nl60) ∧ ((z7)).toInt ≤ (nr9) ∧ ((z58)).toInt ≤ (nl60) := by omega
    have w82 : GR2 nr (nr9) ((z7)).toInt := k15
    have w83 : GR2 nl (nl60) ((z58)).toInt := k66
    have w84 : PFX (nr9) 361 (f8) (ra10) := k16
    have w85 : PFX (nl60) 210 (f59) (la61) := k67
    have w86 : ROK (nr9) (ra10) (rf75) (nl60) (la61) := rs76r
    have w87 : LOK (nl60) (la61) (lf62) := k68
    have w88 : LVR ((x_pv_rowCount).toInt + 1) ((z58)).toInt (ra10) (rf75) (la61) := (lvr_cast rs76v (by first | rfl | omega) (by first | rfl | omega))
    have w89 : ∀ i : Nat, i < nr → (ra10) i = ra i := k18
    have w90 : ∀ i : Nat, i < nl → (la61) i = la i := k69
    have w91 : ∀ i : Nat, i ≠ (x_pv_rowCount).toInt.toNat → (rf75) i = rf i := rs76e
    have w92 : (some (ra10 (x_pv_rowCount).toInt.toNat) : Option Nat) = some ((ra10) (x_pv_rowCount).toInt.toNat) := rfl
    exact W.aret (v := va_rf (some (ra10 (x_pv_rowCount).toInt.toNat))) hx hb hr (Or.inl ⟨_, rfl⟩) (va_rf_or _) (fun t ht hW => ⟨⟨(some (ra10 (x_pv_rowCount).toInt.toNat)), (z7, z58, f8, f59, nr9, ra10, rf75, nl60, la61, lf62), rfl, ⟨w77, w78, w79, w80, w81, w82, w83, w84, w85, w86, w87, w88, w89, w90, w91, w92⟩, by rw [ht]; exact hP, hD⟩, hS.F ht⟩) hS.2.2 dX4_restOf_79

